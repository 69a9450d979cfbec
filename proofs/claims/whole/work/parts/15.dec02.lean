theorem d_Manifest_isFree_24 : decode jM_Manifest_isFree.2.1 24 = .ok (.invokevirtual 120, 3) := by decide +kernel
theorem d_Manifest_isFree_27 : decode jM_Manifest_isFree.2.1 27 = .ok (.aload_n 0, 1) := by decide +kernel
theorem d_Manifest_isFree_28 : decode jM_Manifest_isFree.2.1 28 = .ok (.iload_n 3, 1) := by decide +kernel
theorem d_Manifest_isFree_29 : decode jM_Manifest_isFree.2.1 29 = .ok (.invokevirtual 123, 3) := by decide +kernel
theorem d_Manifest_isFree_32 : decode jM_Manifest_isFree.2.1 32 = .ok (.iadd, 1) := by decide +kernel
theorem d_Manifest_isFree_33 : decode jM_Manifest_isFree.2.1 33 = .ok (.if_icmp .ge 5, 3) := by decide +kernel
theorem d_Manifest_isFree_36 : decode jM_Manifest_isFree.2.1 36 = .ok (.iconst 0, 1) := by decide +kernel
theorem d_Manifest_isFree_37 : decode jM_Manifest_isFree.2.1 37 = .ok (.ireturn, 1) := by decide +kernel
theorem d_Manifest_isFree_38 : decode jM_Manifest_isFree.2.1 38 = .ok (.iinc 3 1, 3) := by decide +kernel
theorem d_Manifest_isFree_41 : decode jM_Manifest_isFree.2.1 41 = .ok (.goto (-34), 3) := by decide +kernel
theorem d_Manifest_isFree_44 : decode jM_Manifest_isFree.2.1 44 = .ok (.iconst 1, 1) := by decide +kernel
theorem d_Manifest_isFree_45 : decode jM_Manifest_isFree.2.1 45 = .ok (.ireturn, 1) := by decide +kernel
theorem d_Manifest_placeOfDraft_0 : decode jM_Manifest_placeOfDraft.2.1 0 = .ok (.aload_n 0, 1) := by decide +kernel
theorem d_Manifest_placeOfDraft_1 : decode jM_Manifest_placeOfDraft.2.1 1 = .ok (.getfield 20, 3) := by decide +kernel
theorem d_Manifest_placeOfDraft_4 : decode jM_Manifest_placeOfDraft.2.1 4 = .ok (.getfield 90, 3) := by decide +kernel
theorem d_Manifest_placeOfDraft_7 : decode jM_Manifest_placeOfDraft.2.1 7 = .ok (.invokestatic 113, 3) := by decide +kernel
theorem d_Manifest_placeOfDraft_10 : decode jM_Manifest_placeOfDraft.2.1 10 = .ok (.istore_n 1, 1) := by decide +kernel
theorem d_Manifest_placeOfDraft_11 : decode jM_Manifest_placeOfDraft.2.1 11 = .ok (.iconst 0, 1) := by decide +kernel
theorem d_Manifest_placeOfDraft_12 : decode jM_Manifest_placeOfDraft.2.1 12 = .ok (.istore_n 2, 1) := by decide +kernel
theorem d_Manifest_placeOfDraft_13 : decode jM_Manifest_placeOfDraft.2.1 13 = .ok (.iconst 2, 1) := by decide +kernel
theorem d_Manifest_placeOfDraft_14 : decode jM_Manifest_placeOfDraft.2.1 14 = .ok (.istore_n 3, 1) := by decide +kernel
theorem d_Manifest_placeOfDraft_15 : decode jM_Manifest_placeOfDraft.2.1 15 = .ok (.iload_n 3, 1) := by decide +kernel
theorem d_Manifest_placeOfDraft_16 : decode jM_Manifest_placeOfDraft.2.1 16 = .ok (.bipush 40, 2) := by decide +kernel
theorem d_Manifest_placeOfDraft_18 : decode jM_Manifest_placeOfDraft.2.1 18 = .ok (.if_icmp .ge 36, 3) := by decide +kernel
theorem d_Manifest_placeOfDraft_21 : decode jM_Manifest_placeOfDraft.2.1 21 = .ok (.aload_n 0, 1) := by decide +kernel
theorem d_Manifest_placeOfDraft_22 : decode jM_Manifest_placeOfDraft.2.1 22 = .ok (.iload_n 3, 1) := by decide +kernel
theorem d_Manifest_placeOfDraft_23 : decode jM_Manifest_placeOfDraft.2.1 23 = .ok (.invokevirtual 116, 3) := by decide +kernel
theorem d_Manifest_placeOfDraft_26 : decode jM_Manifest_placeOfDraft.2.1 26 = .ok (.ifCond .eq 9, 3) := by decide +kernel
theorem d_Manifest_placeOfDraft_29 : decode jM_Manifest_placeOfDraft.2.1 29 = .ok (.iload_n 2, 1) := by decide +kernel
theorem d_Manifest_placeOfDraft_30 : decode jM_Manifest_placeOfDraft.2.1 30 = .ok (.iconst 1, 1) := by decide +kernel
theorem d_Manifest_placeOfDraft_31 : decode jM_Manifest_placeOfDraft.2.1 31 = .ok (.iadd, 1) := by decide +kernel
theorem d_Manifest_placeOfDraft_32 : decode jM_Manifest_placeOfDraft.2.1 32 = .ok (.goto 4, 3) := by decide +kernel
theorem d_Manifest_placeOfDraft_35 : decode jM_Manifest_placeOfDraft.2.1 35 = .ok (.iconst 0, 1) := by decide +kernel
theorem d_Manifest_placeOfDraft_36 : decode jM_Manifest_placeOfDraft.2.1 36 = .ok (.istore_n 2, 1) := by decide +kernel
theorem d_Manifest_placeOfDraft_37 : decode jM_Manifest_placeOfDraft.2.1 37 = .ok (.iload_n 2, 1) := by decide +kernel
theorem d_Manifest_placeOfDraft_38 : decode jM_Manifest_placeOfDraft.2.1 38 = .ok (.iload_n 1, 1) := by decide +kernel
theorem d_Manifest_placeOfDraft_39 : decode jM_Manifest_placeOfDraft.2.1 39 = .ok (.if_icmp .ne 9, 3) := by decide +kernel
theorem d_Manifest_placeOfDraft_42 : decode jM_Manifest_placeOfDraft.2.1 42 = .ok (.iload_n 3, 1) := by decide +kernel
theorem d_Manifest_placeOfDraft_43 : decode jM_Manifest_placeOfDraft.2.1 43 = .ok (.iload_n 1, 1) := by decide +kernel
theorem d_Manifest_placeOfDraft_44 : decode jM_Manifest_placeOfDraft.2.1 44 = .ok (.isub, 1) := by decide +kernel
theorem d_Manifest_placeOfDraft_45 : decode jM_Manifest_placeOfDraft.2.1 45 = .ok (.iconst 1, 1) := by decide +kernel
theorem d_Manifest_placeOfDraft_46 : decode jM_Manifest_placeOfDraft.2.1 46 = .ok (.iadd, 1) := by decide +kernel
theorem d_Manifest_placeOfDraft_47 : decode jM_Manifest_placeOfDraft.2.1 47 = .ok (.ireturn, 1) := by decide +kernel
theorem d_Manifest_placeOfDraft_48 : decode jM_Manifest_placeOfDraft.2.1 48 = .ok (.iinc 3 1, 3) := by decide +kernel
theorem d_Manifest_placeOfDraft_51 : decode jM_Manifest_placeOfDraft.2.1 51 = .ok (.goto (-36), 3) := by decide +kernel
theorem d_Manifest_placeOfDraft_54 : decode jM_Manifest_placeOfDraft.2.1 54 = .ok (.iconst (-1), 1) := by decide +kernel
theorem d_Manifest_placeOfDraft_55 : decode jM_Manifest_placeOfDraft.2.1 55 = .ok (.ireturn, 1) := by decide +kernel
theorem d_Manifest_startOfFile_0 : decode jM_Manifest_startOfFile.2.1 0 = .ok (.aload_n 0, 1) := by decide +kernel
theorem d_Manifest_startOfFile_1 : decode jM_Manifest_startOfFile.2.1 1 = .ok (.iload_n 1, 1) := by decide +kernel
theorem d_Manifest_startOfFile_2 : decode jM_Manifest_startOfFile.2.1 2 = .ok (.invokevirtual 120, 3) := by decide +kernel
theorem d_Manifest_startOfFile_5 : decode jM_Manifest_startOfFile.2.1 5 = .ok (.invokestatic 137, 3) := by decide +kernel
theorem d_Manifest_startOfFile_8 : decode jM_Manifest_startOfFile.2.1 8 = .ok (.ireturn, 1) := by decide +kernel
theorem d_Manifest_recordsIn_0 : decode jM_Manifest_recordsIn.2.1 0 = .ok (.aload_n 0, 1) := by decide +kernel
theorem d_Manifest_recordsIn_1 : decode jM_Manifest_recordsIn.2.1 1 = .ok (.getfield 9, 3) := by decide +kernel
theorem d_Manifest_recordsIn_4 : decode jM_Manifest_recordsIn.2.1 4 = .ok (.aload_n 0, 1) := by decide +kernel
theorem d_Manifest_recordsIn_5 : decode jM_Manifest_recordsIn.2.1 5 = .ok (.iload_n 1, 1) := by decide +kernel
theorem d_Manifest_recordsIn_6 : decode jM_Manifest_recordsIn.2.1 6 = .ok (.invokevirtual 64, 3) := by decide +kernel
theorem d_Manifest_recordsIn_9 : decode jM_Manifest_recordsIn.2.1 9 = .ok (.iconst 2, 1) := by decide +kernel
theorem d_Manifest_recordsIn_10 : decode jM_Manifest_recordsIn.2.1 10 = .ok (.iadd, 1) := by decide +kernel
theorem d_Manifest_recordsIn_11 : decode jM_Manifest_recordsIn.2.1 11 = .ok (.invokevirtual 112, 3) := by decide +kernel
theorem d_Manifest_recordsIn_14 : decode jM_Manifest_recordsIn.2.1 14 = .ok (.ireturn, 1) := by decide +kernel
theorem d_Manifest_recordsOf_0 : decode jM_Manifest_recordsOf.2.1 0 = .ok (.aload_n 0, 1) := by decide +kernel
theorem d_Manifest_recordsOf_1 : decode jM_Manifest_recordsOf.2.1 1 = .ok (.invokevirtual 29, 3) := by decide +kernel
theorem d_Manifest_recordsOf_4 : decode jM_Manifest_recordsOf.2.1 4 = .ok (.istore_n 2, 1) := by decide +kernel
theorem d_Manifest_recordsOf_5 : decode jM_Manifest_recordsOf.2.1 5 = .ok (.iconst 0, 1) := by decide +kernel
theorem d_Manifest_recordsOf_6 : decode jM_Manifest_recordsOf.2.1 6 = .ok (.istore_n 3, 1) := by decide +kernel
theorem d_Manifest_recordsOf_7 : decode jM_Manifest_recordsOf.2.1 7 = .ok (.iconst 0, 1) := by decide +kernel
theorem d_Manifest_recordsOf_8 : decode jM_Manifest_recordsOf.2.1 8 = .ok (.istore 4, 2) := by decide +kernel
theorem d_Manifest_recordsOf_10 : decode jM_Manifest_recordsOf.2.1 10 = .ok (.iload 4, 2) := by decide +kernel
theorem d_Manifest_recordsOf_12 : decode jM_Manifest_recordsOf.2.1 12 = .ok (.iload_n 2, 1) := by decide +kernel
theorem d_Manifest_recordsOf_13 : decode jM_Manifest_recordsOf.2.1 13 = .ok (.if_icmp .ge 28, 3) := by decide +kernel
theorem d_Manifest_recordsOf_16 : decode jM_Manifest_recordsOf.2.1 16 = .ok (.aload_n 0, 1) := by decide +kernel
theorem d_Manifest_recordsOf_17 : decode jM_Manifest_recordsOf.2.1 17 = .ok (.iload 4, 2) := by decide +kernel
theorem d_Manifest_recordsOf_19 : decode jM_Manifest_recordsOf.2.1 19 = .ok (.invokevirtual 33, 3) := by decide +kernel
theorem d_Manifest_recordsOf_22 : decode jM_Manifest_recordsOf.2.1 22 = .ok (.iload_n 1, 1) := by decide +kernel
theorem d_Manifest_recordsOf_23 : decode jM_Manifest_recordsOf.2.1 23 = .ok (.if_icmp .ne 12, 3) := by decide +kernel
theorem d_Manifest_recordsOf_26 : decode jM_Manifest_recordsOf.2.1 26 = .ok (.iload_n 3, 1) := by decide +kernel
theorem d_Manifest_recordsOf_27 : decode jM_Manifest_recordsOf.2.1 27 = .ok (.aload_n 0, 1) := by decide +kernel
theorem d_Manifest_recordsOf_28 : decode jM_Manifest_recordsOf.2.1 28 = .ok (.iload 4, 2) := by decide +kernel
theorem d_Manifest_recordsOf_30 : decode jM_Manifest_recordsOf.2.1 30 = .ok (.invokevirtual 37, 3) := by decide +kernel
theorem d_Manifest_recordsOf_33 : decode jM_Manifest_recordsOf.2.1 33 = .ok (.iadd, 1) := by decide +kernel
theorem d_Manifest_recordsOf_34 : decode jM_Manifest_recordsOf.2.1 34 = .ok (.istore_n 3, 1) := by decide +kernel
theorem d_Manifest_recordsOf_35 : decode jM_Manifest_recordsOf.2.1 35 = .ok (.iinc 4 1, 3) := by decide +kernel
theorem d_Manifest_recordsOf_38 : decode jM_Manifest_recordsOf.2.1 38 = .ok (.goto (-28), 3) := by decide +kernel
theorem d_Manifest_recordsOf_41 : decode jM_Manifest_recordsOf.2.1 41 = .ok (.iload_n 3, 1) := by decide +kernel
theorem d_Manifest_recordsOf_42 : decode jM_Manifest_recordsOf.2.1 42 = .ok (.ireturn, 1) := by decide +kernel
theorem d_ST_load_0 : decode jM_ST_load.2.1 0 = .ok (.aload_n 0, 1) := by decide +kernel
theorem d_ST_load_1 : decode jM_ST_load.2.1 1 = .ok (.getfield 19, 3) := by decide +kernel
theorem d_ST_load_4 : decode jM_ST_load.2.1 4 = .ok (.getfield 79, 3) := by decide +kernel
theorem d_ST_load_7 : decode jM_ST_load.2.1 7 = .ok (.ifCond .ne 6, 3) := by decide +kernel
theorem d_ST_load_10 : decode jM_ST_load.2.1 10 = .ok (.bipush (-4), 2) := by decide +kernel
theorem d_ST_load_12 : decode jM_ST_load.2.1 12 = .ok (.ireturn, 1) := by decide +kernel
theorem d_ST_load_13 : decode jM_ST_load.2.1 13 = .ok (.iload_n 1, 1) := by decide +kernel
theorem d_ST_load_14 : decode jM_ST_load.2.1 14 = .ok (.invokestatic 83, 3) := by decide +kernel
theorem d_ST_load_17 : decode jM_ST_load.2.1 17 = .ok (.ifCond .eq 31, 3) := by decide +kernel
theorem d_ST_load_20 : decode jM_ST_load.2.1 20 = .ok (.aload_n 0, 1) := by decide +kernel
theorem d_ST_load_21 : decode jM_ST_load.2.1 21 = .ok (.getfield 42, 3) := by decide +kernel
theorem d_ST_load_24 : decode jM_ST_load.2.1 24 = .ok (.getfield 132, 3) := by decide +kernel
theorem d_ST_load_27 : decode jM_ST_load.2.1 27 = .ok (.ifCond .eq 21, 3) := by decide +kernel
theorem d_ST_load_30 : decode jM_ST_load.2.1 30 = .ok (.aload_n 0, 1) := by decide +kernel
theorem d_ST_load_31 : decode jM_ST_load.2.1 31 = .ok (.getfield 28, 3) := by decide +kernel
theorem d_ST_load_34 : decode jM_ST_load.2.1 34 = .ok (.iload_n 1, 1) := by decide +kernel
theorem d_ST_load_35 : decode jM_ST_load.2.1 35 = .ok (.aload_n 0, 1) := by decide +kernel
theorem d_ST_load_36 : decode jM_ST_load.2.1 36 = .ok (.getfield 42, 3) := by decide +kernel
theorem d_ST_load_39 : decode jM_ST_load.2.1 39 = .ok (.getfield 135, 3) := by decide +kernel
theorem d_ST_load_42 : decode jM_ST_load.2.1 42 = .ok (.invokevirtual 87, 3) := by decide +kernel
theorem d_ST_load_45 : decode jM_ST_load.2.1 45 = .ok (.ifCond .ne 5, 3) := by decide +kernel
theorem d_ST_load_48 : decode jM_ST_load.2.1 48 = .ok (.iconst (-1), 1) := by decide +kernel
theorem d_ST_load_49 : decode jM_ST_load.2.1 49 = .ok (.ireturn, 1) := by decide +kernel
theorem d_ST_load_50 : decode jM_ST_load.2.1 50 = .ok (.aload_n 0, 1) := by decide +kernel
theorem d_ST_load_51 : decode jM_ST_load.2.1 51 = .ok (.getfield 35, 3) := by decide +kernel
theorem d_ST_load_54 : decode jM_ST_load.2.1 54 = .ok (.invokevirtual 138, 3) := by decide +kernel
theorem d_ST_load_57 : decode jM_ST_load.2.1 57 = .ok (.ifCond .eq 6, 3) := by decide +kernel
theorem d_ST_load_60 : decode jM_ST_load.2.1 60 = .ok (.bipush (-3), 2) := by decide +kernel
theorem d_ST_load_62 : decode jM_ST_load.2.1 62 = .ok (.ireturn, 1) := by decide +kernel
theorem d_ST_load_63 : decode jM_ST_load.2.1 63 = .ok (.aload_n 0, 1) := by decide +kernel
theorem d_ST_load_64 : decode jM_ST_load.2.1 64 = .ok (.getfield 35, 3) := by decide +kernel
theorem d_ST_load_67 : decode jM_ST_load.2.1 67 = .ok (.aload_n 0, 1) := by decide +kernel
theorem d_ST_load_68 : decode jM_ST_load.2.1 68 = .ok (.getfield 42, 3) := by decide +kernel
theorem d_ST_load_71 : decode jM_ST_load.2.1 71 = .ok (.invokevirtual 139, 3) := by decide +kernel
theorem d_ST_load_74 : decode jM_ST_load.2.1 74 = .ok (.aload_n 0, 1) := by decide +kernel
theorem d_ST_load_75 : decode jM_ST_load.2.1 75 = .ok (.getfield 35, 3) := by decide +kernel
theorem d_ST_load_78 : decode jM_ST_load.2.1 78 = .ok (.invokevirtual 143, 3) := by decide +kernel
theorem d_ST_load_81 : decode jM_ST_load.2.1 81 = .ok (.istore_n 2, 1) := by decide +kernel
theorem d_ST_load_82 : decode jM_ST_load.2.1 82 = .ok (.iload_n 2, 1) := by decide +kernel
theorem d_ST_load_83 : decode jM_ST_load.2.1 83 = .ok (.iconst (-1), 1) := by decide +kernel
theorem d_ST_load_84 : decode jM_ST_load.2.1 84 = .ok (.if_icmp .ne 6, 3) := by decide +kernel
theorem d_ST_load_87 : decode jM_ST_load.2.1 87 = .ok (.bipush (-3), 2) := by decide +kernel
theorem d_ST_load_89 : decode jM_ST_load.2.1 89 = .ok (.ireturn, 1) := by decide +kernel
theorem d_ST_load_90 : decode jM_ST_load.2.1 90 = .ok (.aload_n 0, 1) := by decide +kernel
theorem d_ST_load_91 : decode jM_ST_load.2.1 91 = .ok (.getfield 35, 3) := by decide +kernel
theorem d_ST_load_94 : decode jM_ST_load.2.1 94 = .ok (.iload_n 1, 1) := by decide +kernel
theorem d_ST_load_95 : decode jM_ST_load.2.1 95 = .ok (.iload_n 2, 1) := by decide +kernel
theorem d_ST_load_96 : decode jM_ST_load.2.1 96 = .ok (.invokevirtual 146, 3) := by decide +kernel
theorem d_ST_load_99 : decode jM_ST_load.2.1 99 = .ok (.ifCond .ne 8, 3) := by decide +kernel
theorem d_ST_load_102 : decode jM_ST_load.2.1 102 = .ok (.aload_n 0, 1) := by decide +kernel
theorem d_ST_load_103 : decode jM_ST_load.2.1 103 = .ok (.invokevirtual 106, 3) := by decide +kernel
theorem d_ST_load_106 : decode jM_ST_load.2.1 106 = .ok (.ireturn, 1) := by decide +kernel
theorem d_ST_load_107 : decode jM_ST_load.2.1 107 = .ok (.aload_n 0, 1) := by decide +kernel
theorem d_ST_load_108 : decode jM_ST_load.2.1 108 = .ok (.getfield 42, 3) := by decide +kernel
theorem d_ST_load_111 : decode jM_ST_load.2.1 111 = .ok (.invokevirtual 131, 3) := by decide +kernel
theorem d_ST_load_114 : decode jM_ST_load.2.1 114 = .ok (.aload_n 0, 1) := by decide +kernel
theorem d_ST_load_115 : decode jM_ST_load.2.1 115 = .ok (.getfield 35, 3) := by decide +kernel
theorem d_ST_load_118 : decode jM_ST_load.2.1 118 = .ok (.iload_n 1, 1) := by decide +kernel
theorem d_ST_load_119 : decode jM_ST_load.2.1 119 = .ok (.invokevirtual 149, 3) := by decide +kernel
theorem d_ST_load_122 : decode jM_ST_load.2.1 122 = .ok (.ireturn, 1) := by decide +kernel
theorem d_Manifest_commitJoined_0 : decode jM_Manifest_commitJoined.2.1 0 = .ok (.aload_n 0, 1) := by decide +kernel
theorem d_Manifest_commitJoined_1 : decode jM_Manifest_commitJoined.2.1 1 = .ok (.invokevirtual 29, 3) := by decide +kernel
theorem d_Manifest_commitJoined_4 : decode jM_Manifest_commitJoined.2.1 4 = .ok (.istore 4, 2) := by decide +kernel
theorem d_Manifest_commitJoined_6 : decode jM_Manifest_commitJoined.2.1 6 = .ok (.aload_n 0, 1) := by decide +kernel
theorem d_Manifest_commitJoined_7 : decode jM_Manifest_commitJoined.2.1 7 = .ok (.getfield 26, 3) := by decide +kernel
theorem d_Manifest_commitJoined_10 : decode jM_Manifest_commitJoined.2.1 10 = .ok (.iconst 0, 1) := by decide +kernel
theorem d_Manifest_commitJoined_11 : decode jM_Manifest_commitJoined.2.1 11 = .ok (.invokevirtual 109, 3) := by decide +kernel
theorem d_Manifest_commitJoined_14 : decode jM_Manifest_commitJoined.2.1 14 = .ok (.aload_n 0, 1) := by decide +kernel
theorem d_Manifest_commitJoined_15 : decode jM_Manifest_commitJoined.2.1 15 = .ok (.getfield 26, 3) := by decide +kernel
theorem d_Manifest_commitJoined_18 : decode jM_Manifest_commitJoined.2.1 18 = .ok (.iload 4, 2) := by decide +kernel
theorem d_Manifest_commitJoined_20 : decode jM_Manifest_commitJoined.2.1 20 = .ok (.iconst 1, 1) := by decide +kernel
theorem d_Manifest_commitJoined_21 : decode jM_Manifest_commitJoined.2.1 21 = .ok (.isub, 1) := by decide +kernel
theorem d_Manifest_commitJoined_22 : decode jM_Manifest_commitJoined.2.1 22 = .ok (.invokevirtual 100, 3) := by decide +kernel
theorem d_Manifest_commitJoined_25 : decode jM_Manifest_commitJoined.2.1 25 = .ok (.iconst 0, 1) := by decide +kernel
theorem d_Manifest_commitJoined_26 : decode jM_Manifest_commitJoined.2.1 26 = .ok (.istore 5, 2) := by decide +kernel
theorem d_Manifest_commitJoined_28 : decode jM_Manifest_commitJoined.2.1 28 = .ok (.iload 5, 2) := by decide +kernel
theorem d_Manifest_commitJoined_30 : decode jM_Manifest_commitJoined.2.1 30 = .ok (.iload 4, 2) := by decide +kernel
theorem d_Manifest_commitJoined_32 : decode jM_Manifest_commitJoined.2.1 32 = .ok (.if_icmp .ge 67, 3) := by decide +kernel
theorem d_Manifest_commitJoined_35 : decode jM_Manifest_commitJoined.2.1 35 = .ok (.iload 5, 2) := by decide +kernel
theorem d_Manifest_commitJoined_37 : decode jM_Manifest_commitJoined.2.1 37 = .ok (.iload_n 1, 1) := by decide +kernel
theorem d_Manifest_commitJoined_38 : decode jM_Manifest_commitJoined.2.1 38 = .ok (.if_icmp .ne 27, 3) := by decide +kernel
theorem d_Manifest_commitJoined_41 : decode jM_Manifest_commitJoined.2.1 41 = .ok (.aload_n 0, 1) := by decide +kernel
theorem d_Manifest_commitJoined_42 : decode jM_Manifest_commitJoined.2.1 42 = .ok (.aload_n 0, 1) := by decide +kernel
theorem d_Manifest_commitJoined_43 : decode jM_Manifest_commitJoined.2.1 43 = .ok (.iload 5, 2) := by decide +kernel
theorem d_Manifest_commitJoined_45 : decode jM_Manifest_commitJoined.2.1 45 = .ok (.invokevirtual 33, 3) := by decide +kernel
theorem d_Manifest_commitJoined_48 : decode jM_Manifest_commitJoined.2.1 48 = .ok (.iload_n 3, 1) := by decide +kernel
theorem d_Manifest_commitJoined_49 : decode jM_Manifest_commitJoined.2.1 49 = .ok (.aload_n 0, 1) := by decide +kernel
theorem d_Manifest_commitJoined_50 : decode jM_Manifest_commitJoined.2.1 50 = .ok (.getfield 20, 3) := by decide +kernel
theorem d_Manifest_commitJoined_53 : decode jM_Manifest_commitJoined.2.1 53 = .ok (.getfield 90, 3) := by decide +kernel
theorem d_Manifest_commitJoined_56 : decode jM_Manifest_commitJoined.2.1 56 = .ok (.invokestatic 113, 3) := by decide +kernel
theorem d_Manifest_commitJoined_59 : decode jM_Manifest_commitJoined.2.1 59 = .ok (.invokevirtual 126, 3) := by decide +kernel
theorem d_Manifest_commitJoined_62 : decode jM_Manifest_commitJoined.2.1 62 = .ok (.goto 31, 3) := by decide +kernel
theorem d_Manifest_commitJoined_65 : decode jM_Manifest_commitJoined.2.1 65 = .ok (.iload 5, 2) := by decide +kernel
theorem d_Manifest_commitJoined_67 : decode jM_Manifest_commitJoined.2.1 67 = .ok (.iload_n 2, 1) := by decide +kernel
theorem d_Manifest_commitJoined_68 : decode jM_Manifest_commitJoined.2.1 68 = .ok (.if_icmp .eq 25, 3) := by decide +kernel
theorem d_Manifest_commitJoined_71 : decode jM_Manifest_commitJoined.2.1 71 = .ok (.aload_n 0, 1) := by decide +kernel
theorem d_Manifest_commitJoined_72 : decode jM_Manifest_commitJoined.2.1 72 = .ok (.aload_n 0, 1) := by decide +kernel
theorem d_Manifest_commitJoined_73 : decode jM_Manifest_commitJoined.2.1 73 = .ok (.iload 5, 2) := by decide +kernel
theorem d_Manifest_commitJoined_75 : decode jM_Manifest_commitJoined.2.1 75 = .ok (.invokevirtual 33, 3) := by decide +kernel
theorem d_Manifest_commitJoined_78 : decode jM_Manifest_commitJoined.2.1 78 = .ok (.aload_n 0, 1) := by decide +kernel
theorem d_Manifest_commitJoined_79 : decode jM_Manifest_commitJoined.2.1 79 = .ok (.iload 5, 2) := by decide +kernel
theorem d_Manifest_commitJoined_81 : decode jM_Manifest_commitJoined.2.1 81 = .ok (.invokevirtual 120, 3) := by decide +kernel
theorem d_Manifest_commitJoined_84 : decode jM_Manifest_commitJoined.2.1 84 = .ok (.aload_n 0, 1) := by decide +kernel
theorem d_Manifest_commitJoined_85 : decode jM_Manifest_commitJoined.2.1 85 = .ok (.iload 5, 2) := by decide +kernel
theorem d_Manifest_commitJoined_87 : decode jM_Manifest_commitJoined.2.1 87 = .ok (.invokevirtual 123, 3) := by decide +kernel
theorem d_Manifest_commitJoined_90 : decode jM_Manifest_commitJoined.2.1 90 = .ok (.invokevirtual 126, 3) := by decide +kernel
theorem d_Manifest_commitJoined_93 : decode jM_Manifest_commitJoined.2.1 93 = .ok (.iinc 5 1, 3) := by decide +kernel
theorem d_Manifest_commitJoined_96 : decode jM_Manifest_commitJoined.2.1 96 = .ok (.goto (-68), 3) := by decide +kernel
theorem d_Manifest_commitJoined_99 : decode jM_Manifest_commitJoined.2.1 99 = .ok (.aload_n 0, 1) := by decide +kernel
theorem d_Manifest_commitJoined_100 : decode jM_Manifest_commitJoined.2.1 100 = .ok (.getfield 9, 3) := by decide +kernel
theorem d_Manifest_commitJoined_103 : decode jM_Manifest_commitJoined.2.1 103 = .ok (.iload_n 3, 1) := by decide +kernel
theorem d_Manifest_commitJoined_104 : decode jM_Manifest_commitJoined.2.1 104 = .ok (.aload_n 0, 1) := by decide +kernel
theorem d_Manifest_commitJoined_105 : decode jM_Manifest_commitJoined.2.1 105 = .ok (.getfield 20, 3) := by decide +kernel
theorem d_Manifest_commitJoined_108 : decode jM_Manifest_commitJoined.2.1 108 = .ok (.invokevirtual 129, 3) := by decide +kernel
theorem d_Manifest_commitJoined_111 : decode jM_Manifest_commitJoined.2.1 111 = .ok (.ifCond .eq 23, 3) := by decide +kernel
theorem d_Manifest_commitJoined_114 : decode jM_Manifest_commitJoined.2.1 114 = .ok (.aload_n 0, 1) := by decide +kernel
theorem d_Manifest_commitJoined_115 : decode jM_Manifest_commitJoined.2.1 115 = .ok (.getfield 9, 3) := by decide +kernel
theorem d_Manifest_commitJoined_118 : decode jM_Manifest_commitJoined.2.1 118 = .ok (.iconst 0, 1) := by decide +kernel
theorem d_Manifest_commitJoined_119 : decode jM_Manifest_commitJoined.2.1 119 = .ok (.aload_n 0, 1) := by decide +kernel
theorem d_Manifest_commitJoined_120 : decode jM_Manifest_commitJoined.2.1 120 = .ok (.getfield 26, 3) := by decide +kernel
theorem d_Manifest_commitJoined_123 : decode jM_Manifest_commitJoined.2.1 123 = .ok (.iconst 0, 1) := by decide +kernel
theorem d_Manifest_commitJoined_124 : decode jM_Manifest_commitJoined.2.1 124 = .ok (.invokevirtual 133, 3) := by decide +kernel
theorem d_Manifest_commitJoined_127 : decode jM_Manifest_commitJoined.2.1 127 = .ok (.ifCond .eq 7, 3) := by decide +kernel
theorem d_Manifest_commitJoined_130 : decode jM_Manifest_commitJoined.2.1 130 = .ok (.iconst 1, 1) := by decide +kernel
theorem d_Manifest_commitJoined_131 : decode jM_Manifest_commitJoined.2.1 131 = .ok (.goto 4, 3) := by decide +kernel
theorem d_Manifest_commitJoined_134 : decode jM_Manifest_commitJoined.2.1 134 = .ok (.iconst 0, 1) := by decide +kernel
theorem d_Manifest_commitJoined_135 : decode jM_Manifest_commitJoined.2.1 135 = .ok (.ireturn, 1) := by decide +kernel
theorem d_Manifest_bytesIn_0 : decode jM_Manifest_bytesIn.2.1 0 = .ok (.aload_n 0, 1) := by decide +kernel
theorem d_Manifest_bytesIn_1 : decode jM_Manifest_bytesIn.2.1 1 = .ok (.getfield 9, 3) := by decide +kernel
theorem d_Manifest_bytesIn_4 : decode jM_Manifest_bytesIn.2.1 4 = .ok (.aload_n 0, 1) := by decide +kernel
theorem d_Manifest_bytesIn_5 : decode jM_Manifest_bytesIn.2.1 5 = .ok (.iload_n 1, 1) := by decide +kernel
theorem d_Manifest_bytesIn_6 : decode jM_Manifest_bytesIn.2.1 6 = .ok (.invokevirtual 64, 3) := by decide +kernel
theorem d_Manifest_bytesIn_9 : decode jM_Manifest_bytesIn.2.1 9 = .ok (.iconst 3, 1) := by decide +kernel
theorem d_Manifest_bytesIn_10 : decode jM_Manifest_bytesIn.2.1 10 = .ok (.iadd, 1) := by decide +kernel
theorem d_Manifest_bytesIn_11 : decode jM_Manifest_bytesIn.2.1 11 = .ok (.invokevirtual 112, 3) := by decide +kernel
theorem d_Manifest_bytesIn_14 : decode jM_Manifest_bytesIn.2.1 14 = .ok (.sipush 256, 3) := by decide +kernel
theorem d_Manifest_bytesIn_17 : decode jM_Manifest_bytesIn.2.1 17 = .ok (.imul, 1) := by decide +kernel
theorem d_Manifest_bytesIn_18 : decode jM_Manifest_bytesIn.2.1 18 = .ok (.aload_n 0, 1) := by decide +kernel
theorem d_Manifest_bytesIn_19 : decode jM_Manifest_bytesIn.2.1 19 = .ok (.getfield 9, 3) := by decide +kernel
theorem d_Manifest_bytesIn_22 : decode jM_Manifest_bytesIn.2.1 22 = .ok (.aload_n 0, 1) := by decide +kernel
theorem d_Manifest_bytesIn_23 : decode jM_Manifest_bytesIn.2.1 23 = .ok (.iload_n 1, 1) := by decide +kernel
theorem d_Manifest_bytesIn_24 : decode jM_Manifest_bytesIn.2.1 24 = .ok (.invokevirtual 64, 3) := by decide +kernel
theorem d_Manifest_bytesIn_27 : decode jM_Manifest_bytesIn.2.1 27 = .ok (.iconst 4, 1) := by decide +kernel
theorem d_Manifest_bytesIn_28 : decode jM_Manifest_bytesIn.2.1 28 = .ok (.iadd, 1) := by decide +kernel
theorem d_Manifest_bytesIn_29 : decode jM_Manifest_bytesIn.2.1 29 = .ok (.invokevirtual 112, 3) := by decide +kernel
theorem d_Manifest_bytesIn_32 : decode jM_Manifest_bytesIn.2.1 32 = .ok (.iadd, 1) := by decide +kernel
theorem d_Manifest_bytesIn_33 : decode jM_Manifest_bytesIn.2.1 33 = .ok (.ireturn, 1) := by decide +kernel
theorem d_Manifest_draftRecordsOf_0 : decode jM_Manifest_draftRecordsOf.2.1 0 = .ok (.aload_n 0, 1) := by decide +kernel
theorem d_Manifest_draftRecordsOf_1 : decode jM_Manifest_draftRecordsOf.2.1 1 = .ok (.iload_n 1, 1) := by decide +kernel
theorem d_Manifest_draftRecordsOf_2 : decode jM_Manifest_draftRecordsOf.2.1 2 = .ok (.invokevirtual 64, 3) := by decide +kernel
theorem d_Manifest_draftRecordsOf_5 : decode jM_Manifest_draftRecordsOf.2.1 5 = .ok (.iconst 5, 1) := by decide +kernel
theorem d_Manifest_draftRecordsOf_6 : decode jM_Manifest_draftRecordsOf.2.1 6 = .ok (.iadd, 1) := by decide +kernel
theorem d_Manifest_draftRecordsOf_7 : decode jM_Manifest_draftRecordsOf.2.1 7 = .ok (.istore_n 2, 1) := by decide +kernel
theorem d_Manifest_draftRecordsOf_8 : decode jM_Manifest_draftRecordsOf.2.1 8 = .ok (.aload_n 0, 1) := by decide +kernel
theorem d_Manifest_draftRecordsOf_9 : decode jM_Manifest_draftRecordsOf.2.1 9 = .ok (.iload_n 1, 1) := by decide +kernel
theorem d_Manifest_draftRecordsOf_10 : decode jM_Manifest_draftRecordsOf.2.1 10 = .ok (.invokevirtual 51, 3) := by decide +kernel
theorem d_Manifest_draftRecordsOf_13 : decode jM_Manifest_draftRecordsOf.2.1 13 = .ok (.istore_n 3, 1) := by decide +kernel
theorem d_Manifest_draftRecordsOf_14 : decode jM_Manifest_draftRecordsOf.2.1 14 = .ok (.iconst 0, 1) := by decide +kernel
theorem d_Manifest_draftRecordsOf_15 : decode jM_Manifest_draftRecordsOf.2.1 15 = .ok (.istore 4, 2) := by decide +kernel
theorem d_Manifest_draftRecordsOf_17 : decode jM_Manifest_draftRecordsOf.2.1 17 = .ok (.iload 4, 2) := by decide +kernel
theorem d_Manifest_draftRecordsOf_19 : decode jM_Manifest_draftRecordsOf.2.1 19 = .ok (.iload_n 3, 1) := by decide +kernel
theorem d_Manifest_draftRecordsOf_20 : decode jM_Manifest_draftRecordsOf.2.1 20 = .ok (.if_icmp .ge 27, 3) := by decide +kernel
theorem d_Manifest_draftRecordsOf_23 : decode jM_Manifest_draftRecordsOf.2.1 23 = .ok (.aload_n 0, 1) := by decide +kernel
theorem d_Manifest_draftRecordsOf_24 : decode jM_Manifest_draftRecordsOf.2.1 24 = .ok (.getfield 20, 3) := by decide +kernel
theorem d_Manifest_draftRecordsOf_27 : decode jM_Manifest_draftRecordsOf.2.1 27 = .ok (.aload_n 0, 1) := by decide +kernel
theorem d_Manifest_draftRecordsOf_28 : decode jM_Manifest_draftRecordsOf.2.1 28 = .ok (.getfield 9, 3) := by decide +kernel
theorem d_Manifest_draftRecordsOf_31 : decode jM_Manifest_draftRecordsOf.2.1 31 = .ok (.iload_n 2, 1) := by decide +kernel
theorem d_Manifest_draftRecordsOf_32 : decode jM_Manifest_draftRecordsOf.2.1 32 = .ok (.iload 4, 2) := by decide +kernel
theorem d_Manifest_draftRecordsOf_34 : decode jM_Manifest_draftRecordsOf.2.1 34 = .ok (.iadd, 1) := by decide +kernel
theorem d_Manifest_draftRecordsOf_35 : decode jM_Manifest_draftRecordsOf.2.1 35 = .ok (.invokevirtual 112, 3) := by decide +kernel
theorem d_Manifest_draftRecordsOf_38 : decode jM_Manifest_draftRecordsOf.2.1 38 = .ok (.invokevirtual 100, 3) := by decide +kernel
theorem d_Manifest_draftRecordsOf_41 : decode jM_Manifest_draftRecordsOf.2.1 41 = .ok (.iinc 4 1, 3) := by decide +kernel
theorem d_Manifest_draftRecordsOf_44 : decode jM_Manifest_draftRecordsOf.2.1 44 = .ok (.goto (-27), 3) := by decide +kernel
theorem d_Manifest_draftRecordsOf_47 : decode jM_Manifest_draftRecordsOf.2.1 47 = .ok (.return_, 1) := by decide +kernel
theorem d_Manifest_schemaOf_0 : decode jM_Manifest_schemaOf.2.1 0 = .ok (.aload_n 0, 1) := by decide +kernel
theorem d_Manifest_schemaOf_1 : decode jM_Manifest_schemaOf.2.1 1 = .ok (.getfield 9, 3) := by decide +kernel
theorem d_Manifest_schemaOf_4 : decode jM_Manifest_schemaOf.2.1 4 = .ok (.aload_n 0, 1) := by decide +kernel
theorem d_Manifest_schemaOf_5 : decode jM_Manifest_schemaOf.2.1 5 = .ok (.iload_n 1, 1) := by decide +kernel
theorem d_Manifest_schemaOf_6 : decode jM_Manifest_schemaOf.2.1 6 = .ok (.invokevirtual 64, 3) := by decide +kernel
theorem d_Manifest_schemaOf_9 : decode jM_Manifest_schemaOf.2.1 9 = .ok (.iconst 1, 1) := by decide +kernel
theorem d_Manifest_schemaOf_10 : decode jM_Manifest_schemaOf.2.1 10 = .ok (.iadd, 1) := by decide +kernel
theorem d_Manifest_schemaOf_11 : decode jM_Manifest_schemaOf.2.1 11 = .ok (.invokevirtual 112, 3) := by decide +kernel
theorem d_Manifest_schemaOf_14 : decode jM_Manifest_schemaOf.2.1 14 = .ok (.ireturn, 1) := by decide +kernel
theorem d_Manifest_draftJoined_0 : decode jM_Manifest_draftJoined.2.1 0 = .ok (.aload_n 0, 1) := by decide +kernel
theorem d_Manifest_draftJoined_1 : decode jM_Manifest_draftJoined.2.1 1 = .ok (.iload_n 1, 1) := by decide +kernel
theorem d_Manifest_draftJoined_2 : decode jM_Manifest_draftJoined.2.1 2 = .ok (.invokevirtual 37, 3) := by decide +kernel
theorem d_Manifest_draftJoined_5 : decode jM_Manifest_draftJoined.2.1 5 = .ok (.aload_n 0, 1) := by decide +kernel
theorem d_Manifest_draftJoined_6 : decode jM_Manifest_draftJoined.2.1 6 = .ok (.iload_n 2, 1) := by decide +kernel
theorem d_Manifest_draftJoined_7 : decode jM_Manifest_draftJoined.2.1 7 = .ok (.invokevirtual 37, 3) := by decide +kernel
theorem d_Manifest_draftJoined_10 : decode jM_Manifest_draftJoined.2.1 10 = .ok (.iadd, 1) := by decide +kernel
theorem d_Manifest_draftJoined_11 : decode jM_Manifest_draftJoined.2.1 11 = .ok (.istore_n 3, 1) := by decide +kernel
theorem d_Manifest_draftJoined_12 : decode jM_Manifest_draftJoined.2.1 12 = .ok (.aload_n 0, 1) := by decide +kernel
theorem d_Manifest_draftJoined_13 : decode jM_Manifest_draftJoined.2.1 13 = .ok (.aload_n 0, 1) := by decide +kernel
theorem d_Manifest_draftJoined_14 : decode jM_Manifest_draftJoined.2.1 14 = .ok (.iload_n 1, 1) := by decide +kernel
theorem d_Manifest_draftJoined_15 : decode jM_Manifest_draftJoined.2.1 15 = .ok (.invokevirtual 48, 3) := by decide +kernel
theorem d_Manifest_draftJoined_18 : decode jM_Manifest_draftJoined.2.1 18 = .ok (.iload_n 3, 1) := by decide +kernel
theorem d_Manifest_draftJoined_19 : decode jM_Manifest_draftJoined.2.1 19 = .ok (.aload_n 0, 1) := by decide +kernel
theorem d_Manifest_draftJoined_20 : decode jM_Manifest_draftJoined.2.1 20 = .ok (.iload_n 1, 1) := by decide +kernel
theorem d_Manifest_draftJoined_21 : decode jM_Manifest_draftJoined.2.1 21 = .ok (.invokevirtual 51, 3) := by decide +kernel
theorem d_Manifest_draftJoined_24 : decode jM_Manifest_draftJoined.2.1 24 = .ok (.aload_n 0, 1) := by decide +kernel
theorem d_Manifest_draftJoined_25 : decode jM_Manifest_draftJoined.2.1 25 = .ok (.iload_n 2, 1) := by decide +kernel
theorem d_Manifest_draftJoined_26 : decode jM_Manifest_draftJoined.2.1 26 = .ok (.invokevirtual 51, 3) := by decide +kernel
theorem d_Manifest_draftJoined_29 : decode jM_Manifest_draftJoined.2.1 29 = .ok (.iadd, 1) := by decide +kernel
theorem d_Manifest_draftJoined_30 : decode jM_Manifest_draftJoined.2.1 30 = .ok (.invokevirtual 93, 3) := by decide +kernel
theorem d_Manifest_draftJoined_33 : decode jM_Manifest_draftJoined.2.1 33 = .ok (.aload_n 0, 1) := by decide +kernel
theorem d_Manifest_draftJoined_34 : decode jM_Manifest_draftJoined.2.1 34 = .ok (.iload_n 1, 1) := by decide +kernel
theorem d_Manifest_draftJoined_35 : decode jM_Manifest_draftJoined.2.1 35 = .ok (.invokevirtual 106, 3) := by decide +kernel
theorem d_Manifest_draftJoined_38 : decode jM_Manifest_draftJoined.2.1 38 = .ok (.aload_n 0, 1) := by decide +kernel
theorem d_Manifest_draftJoined_39 : decode jM_Manifest_draftJoined.2.1 39 = .ok (.iload_n 2, 1) := by decide +kernel
theorem d_Manifest_draftJoined_40 : decode jM_Manifest_draftJoined.2.1 40 = .ok (.invokevirtual 106, 3) := by decide +kernel
theorem d_Manifest_draftJoined_43 : decode jM_Manifest_draftJoined.2.1 43 = .ok (.aload_n 0, 1) := by decide +kernel
theorem d_Manifest_draftJoined_44 : decode jM_Manifest_draftJoined.2.1 44 = .ok (.getfield 20, 3) := by decide +kernel
theorem d_Manifest_draftJoined_47 : decode jM_Manifest_draftJoined.2.1 47 = .ok (.aload_n 0, 1) := by decide +kernel
theorem d_Manifest_draftJoined_48 : decode jM_Manifest_draftJoined.2.1 48 = .ok (.getfield 20, 3) := by decide +kernel
theorem d_Manifest_draftJoined_51 : decode jM_Manifest_draftJoined.2.1 51 = .ok (.invokevirtual 103, 3) := by decide +kernel
theorem d_Manifest_draftJoined_54 : decode jM_Manifest_draftJoined.2.1 54 = .ok (.sipush 251, 3) := by decide +kernel
theorem d_Manifest_draftJoined_57 : decode jM_Manifest_draftJoined.2.1 57 = .ok (.irem, 1) := by decide +kernel
theorem d_Manifest_draftJoined_58 : decode jM_Manifest_draftJoined.2.1 58 = .ok (.invokevirtual 100, 3) := by decide +kernel
theorem d_Manifest_draftJoined_61 : decode jM_Manifest_draftJoined.2.1 61 = .ok (.return_, 1) := by decide +kernel
theorem d_Manifest_canJoin_0 : decode jM_Manifest_canJoin.2.1 0 = .ok (.aload_n 0, 1) := by decide +kernel
theorem d_Manifest_canJoin_1 : decode jM_Manifest_canJoin.2.1 1 = .ok (.iload_n 1, 1) := by decide +kernel
theorem d_Manifest_canJoin_2 : decode jM_Manifest_canJoin.2.1 2 = .ok (.invokevirtual 48, 3) := by decide +kernel
theorem d_Manifest_canJoin_5 : decode jM_Manifest_canJoin.2.1 5 = .ok (.aload_n 0, 1) := by decide +kernel
theorem d_Manifest_canJoin_6 : decode jM_Manifest_canJoin.2.1 6 = .ok (.iload_n 2, 1) := by decide +kernel
theorem d_Manifest_canJoin_7 : decode jM_Manifest_canJoin.2.1 7 = .ok (.invokevirtual 48, 3) := by decide +kernel
theorem d_Manifest_canJoin_10 : decode jM_Manifest_canJoin.2.1 10 = .ok (.if_icmp .ne 40, 3) := by decide +kernel
theorem d_Manifest_canJoin_13 : decode jM_Manifest_canJoin.2.1 13 = .ok (.aload_n 0, 1) := by decide +kernel
theorem d_Manifest_canJoin_14 : decode jM_Manifest_canJoin.2.1 14 = .ok (.iload_n 1, 1) := by decide +kernel
theorem d_Manifest_canJoin_15 : decode jM_Manifest_canJoin.2.1 15 = .ok (.invokevirtual 37, 3) := by decide +kernel
theorem d_Manifest_canJoin_18 : decode jM_Manifest_canJoin.2.1 18 = .ok (.aload_n 0, 1) := by decide +kernel
theorem d_Manifest_canJoin_19 : decode jM_Manifest_canJoin.2.1 19 = .ok (.iload_n 2, 1) := by decide +kernel
theorem d_Manifest_canJoin_20 : decode jM_Manifest_canJoin.2.1 20 = .ok (.invokevirtual 37, 3) := by decide +kernel
theorem d_Manifest_canJoin_23 : decode jM_Manifest_canJoin.2.1 23 = .ok (.iadd, 1) := by decide +kernel
theorem d_Manifest_canJoin_24 : decode jM_Manifest_canJoin.2.1 24 = .ok (.bipush 20, 2) := by decide +kernel
theorem d_Manifest_canJoin_26 : decode jM_Manifest_canJoin.2.1 26 = .ok (.if_icmp .gt 24, 3) := by decide +kernel
theorem d_Manifest_canJoin_29 : decode jM_Manifest_canJoin.2.1 29 = .ok (.aload_n 0, 1) := by decide +kernel
theorem d_Manifest_canJoin_30 : decode jM_Manifest_canJoin.2.1 30 = .ok (.iload_n 1, 1) := by decide +kernel
theorem d_Manifest_canJoin_31 : decode jM_Manifest_canJoin.2.1 31 = .ok (.invokevirtual 51, 3) := by decide +kernel
theorem d_Manifest_canJoin_34 : decode jM_Manifest_canJoin.2.1 34 = .ok (.aload_n 0, 1) := by decide +kernel
theorem d_Manifest_canJoin_35 : decode jM_Manifest_canJoin.2.1 35 = .ok (.iload_n 2, 1) := by decide +kernel
theorem d_Manifest_canJoin_36 : decode jM_Manifest_canJoin.2.1 36 = .ok (.invokevirtual 51, 3) := by decide +kernel
theorem d_Manifest_canJoin_39 : decode jM_Manifest_canJoin.2.1 39 = .ok (.iadd, 1) := by decide +kernel
theorem d_Manifest_canJoin_40 : decode jM_Manifest_canJoin.2.1 40 = .ok (.sipush 200, 3) := by decide +kernel
theorem d_Manifest_canJoin_43 : decode jM_Manifest_canJoin.2.1 43 = .ok (.if_icmp .gt 7, 3) := by decide +kernel
theorem d_Manifest_canJoin_46 : decode jM_Manifest_canJoin.2.1 46 = .ok (.iconst 1, 1) := by decide +kernel
theorem d_Manifest_canJoin_47 : decode jM_Manifest_canJoin.2.1 47 = .ok (.goto 4, 3) := by decide +kernel
theorem d_Manifest_canJoin_50 : decode jM_Manifest_canJoin.2.1 50 = .ok (.iconst 0, 1) := by decide +kernel
theorem d_Manifest_canJoin_51 : decode jM_Manifest_canJoin.2.1 51 = .ok (.ireturn, 1) := by decide +kernel
theorem d_Manifest_nextFile_0 : decode jM_Manifest_nextFile.2.1 0 = .ok (.aload_n 0, 1) := by decide +kernel
theorem d_Manifest_nextFile_1 : decode jM_Manifest_nextFile.2.1 1 = .ok (.invokevirtual 29, 3) := by decide +kernel
theorem d_Manifest_nextFile_4 : decode jM_Manifest_nextFile.2.1 4 = .ok (.istore_n 3, 1) := by decide +kernel
theorem d_Manifest_nextFile_5 : decode jM_Manifest_nextFile.2.1 5 = .ok (.iload_n 2, 1) := by decide +kernel
theorem d_Manifest_nextFile_6 : decode jM_Manifest_nextFile.2.1 6 = .ok (.istore 4, 2) := by decide +kernel
theorem d_Manifest_nextFile_8 : decode jM_Manifest_nextFile.2.1 8 = .ok (.iload 4, 2) := by decide +kernel
theorem d_Manifest_nextFile_10 : decode jM_Manifest_nextFile.2.1 10 = .ok (.iload_n 3, 1) := by decide +kernel
theorem d_Manifest_nextFile_11 : decode jM_Manifest_nextFile.2.1 11 = .ok (.if_icmp .ge 22, 3) := by decide +kernel
theorem d_Manifest_nextFile_14 : decode jM_Manifest_nextFile.2.1 14 = .ok (.aload_n 0, 1) := by decide +kernel
theorem d_Manifest_nextFile_15 : decode jM_Manifest_nextFile.2.1 15 = .ok (.iload 4, 2) := by decide +kernel
theorem d_Manifest_nextFile_17 : decode jM_Manifest_nextFile.2.1 17 = .ok (.invokevirtual 33, 3) := by decide +kernel
theorem d_Manifest_nextFile_20 : decode jM_Manifest_nextFile.2.1 20 = .ok (.iload_n 1, 1) := by decide +kernel
theorem d_Manifest_nextFile_21 : decode jM_Manifest_nextFile.2.1 21 = .ok (.if_icmp .ne 6, 3) := by decide +kernel
theorem d_Manifest_nextFile_24 : decode jM_Manifest_nextFile.2.1 24 = .ok (.iload 4, 2) := by decide +kernel
theorem d_Manifest_nextFile_26 : decode jM_Manifest_nextFile.2.1 26 = .ok (.ireturn, 1) := by decide +kernel
theorem d_Manifest_nextFile_27 : decode jM_Manifest_nextFile.2.1 27 = .ok (.iinc 4 1, 3) := by decide +kernel
theorem d_Manifest_nextFile_30 : decode jM_Manifest_nextFile.2.1 30 = .ok (.goto (-22), 3) := by decide +kernel
theorem d_Manifest_nextFile_33 : decode jM_Manifest_nextFile.2.1 33 = .ok (.iconst (-1), 1) := by decide +kernel
theorem d_Manifest_nextFile_34 : decode jM_Manifest_nextFile.2.1 34 = .ok (.ireturn, 1) := by decide +kernel
theorem d_Manifest_firstToJoin_0 : decode jM_Manifest_firstToJoin.2.1 0 = .ok (.aload_n 0, 1) := by decide +kernel
theorem d_Manifest_firstToJoin_1 : decode jM_Manifest_firstToJoin.2.1 1 = .ok (.invokevirtual 29, 3) := by decide +kernel
theorem d_Manifest_firstToJoin_4 : decode jM_Manifest_firstToJoin.2.1 4 = .ok (.istore_n 2, 1) := by decide +kernel
theorem d_Manifest_firstToJoin_5 : decode jM_Manifest_firstToJoin.2.1 5 = .ok (.iconst 0, 1) := by decide +kernel
theorem d_Manifest_firstToJoin_6 : decode jM_Manifest_firstToJoin.2.1 6 = .ok (.istore_n 3, 1) := by decide +kernel
theorem d_Manifest_firstToJoin_7 : decode jM_Manifest_firstToJoin.2.1 7 = .ok (.iload_n 3, 1) := by decide +kernel
theorem d_Manifest_firstToJoin_8 : decode jM_Manifest_firstToJoin.2.1 8 = .ok (.iload_n 2, 1) := by decide +kernel
theorem d_Manifest_firstToJoin_9 : decode jM_Manifest_firstToJoin.2.1 9 = .ok (.if_icmp .ge 46, 3) := by decide +kernel
theorem d_Manifest_firstToJoin_12 : decode jM_Manifest_firstToJoin.2.1 12 = .ok (.aload_n 0, 1) := by decide +kernel
theorem d_Manifest_firstToJoin_13 : decode jM_Manifest_firstToJoin.2.1 13 = .ok (.iload_n 3, 1) := by decide +kernel
theorem d_Manifest_firstToJoin_14 : decode jM_Manifest_firstToJoin.2.1 14 = .ok (.invokevirtual 33, 3) := by decide +kernel
theorem d_Manifest_firstToJoin_17 : decode jM_Manifest_firstToJoin.2.1 17 = .ok (.iload_n 1, 1) := by decide +kernel
theorem d_Manifest_firstToJoin_18 : decode jM_Manifest_firstToJoin.2.1 18 = .ok (.if_icmp .ne 31, 3) := by decide +kernel
theorem d_Manifest_firstToJoin_21 : decode jM_Manifest_firstToJoin.2.1 21 = .ok (.aload_n 0, 1) := by decide +kernel
theorem d_Manifest_firstToJoin_22 : decode jM_Manifest_firstToJoin.2.1 22 = .ok (.iload_n 1, 1) := by decide +kernel
theorem d_Manifest_firstToJoin_23 : decode jM_Manifest_firstToJoin.2.1 23 = .ok (.iload_n 3, 1) := by decide +kernel
theorem d_Manifest_firstToJoin_24 : decode jM_Manifest_firstToJoin.2.1 24 = .ok (.iconst 1, 1) := by decide +kernel
theorem d_Manifest_firstToJoin_25 : decode jM_Manifest_firstToJoin.2.1 25 = .ok (.iadd, 1) := by decide +kernel
theorem d_Manifest_firstToJoin_26 : decode jM_Manifest_firstToJoin.2.1 26 = .ok (.invokevirtual 40, 3) := by decide +kernel
theorem d_Manifest_firstToJoin_29 : decode jM_Manifest_firstToJoin.2.1 29 = .ok (.istore 4, 2) := by decide +kernel
theorem d_Manifest_firstToJoin_31 : decode jM_Manifest_firstToJoin.2.1 31 = .ok (.iload 4, 2) := by decide +kernel
theorem d_Manifest_firstToJoin_33 : decode jM_Manifest_firstToJoin.2.1 33 = .ok (.iconst (-1), 1) := by decide +kernel
theorem d_Manifest_firstToJoin_34 : decode jM_Manifest_firstToJoin.2.1 34 = .ok (.if_icmp .eq 15, 3) := by decide +kernel
theorem d_Manifest_firstToJoin_37 : decode jM_Manifest_firstToJoin.2.1 37 = .ok (.aload_n 0, 1) := by decide +kernel
theorem d_Manifest_firstToJoin_38 : decode jM_Manifest_firstToJoin.2.1 38 = .ok (.iload_n 3, 1) := by decide +kernel
theorem d_Manifest_firstToJoin_39 : decode jM_Manifest_firstToJoin.2.1 39 = .ok (.iload 4, 2) := by decide +kernel
theorem d_Manifest_firstToJoin_41 : decode jM_Manifest_firstToJoin.2.1 41 = .ok (.invokevirtual 44, 3) := by decide +kernel
theorem d_Manifest_firstToJoin_44 : decode jM_Manifest_firstToJoin.2.1 44 = .ok (.ifCond .eq 5, 3) := by decide +kernel
theorem d_Manifest_firstToJoin_47 : decode jM_Manifest_firstToJoin.2.1 47 = .ok (.iload_n 3, 1) := by decide +kernel
theorem d_Manifest_firstToJoin_48 : decode jM_Manifest_firstToJoin.2.1 48 = .ok (.ireturn, 1) := by decide +kernel
theorem d_Manifest_firstToJoin_49 : decode jM_Manifest_firstToJoin.2.1 49 = .ok (.iinc 3 1, 3) := by decide +kernel
theorem d_Manifest_firstToJoin_52 : decode jM_Manifest_firstToJoin.2.1 52 = .ok (.goto (-45), 3) := by decide +kernel
theorem d_Manifest_firstToJoin_55 : decode jM_Manifest_firstToJoin.2.1 55 = .ok (.iconst (-1), 1) := by decide +kernel
theorem d_Manifest_firstToJoin_56 : decode jM_Manifest_firstToJoin.2.1 56 = .ok (.ireturn, 1) := by decide +kernel
theorem d_ST_compact_0 : decode jM_ST_compact.2.1 0 = .ok (.aload_n 0, 1) := by decide +kernel
theorem d_ST_compact_1 : decode jM_ST_compact.2.1 1 = .ok (.getfield 19, 3) := by decide +kernel
theorem d_ST_compact_4 : decode jM_ST_compact.2.1 4 = .ok (.getfield 79, 3) := by decide +kernel
theorem d_ST_compact_7 : decode jM_ST_compact.2.1 7 = .ok (.ifCond .ne 6, 3) := by decide +kernel
theorem d_ST_compact_10 : decode jM_ST_compact.2.1 10 = .ok (.bipush (-4), 2) := by decide +kernel
theorem d_ST_compact_12 : decode jM_ST_compact.2.1 12 = .ok (.ireturn, 1) := by decide +kernel
theorem d_ST_compact_13 : decode jM_ST_compact.2.1 13 = .ok (.iload_n 1, 1) := by decide +kernel
theorem d_ST_compact_14 : decode jM_ST_compact.2.1 14 = .ok (.invokestatic 83, 3) := by decide +kernel
theorem d_ST_compact_17 : decode jM_ST_compact.2.1 17 = .ok (.ifCond .ne 5, 3) := by decide +kernel
theorem d_ST_compact_20 : decode jM_ST_compact.2.1 20 = .ok (.iconst (-1), 1) := by decide +kernel
theorem d_ST_compact_21 : decode jM_ST_compact.2.1 21 = .ok (.ireturn, 1) := by decide +kernel
theorem d_ST_compact_22 : decode jM_ST_compact.2.1 22 = .ok (.aload_n 0, 1) := by decide +kernel
theorem d_ST_compact_23 : decode jM_ST_compact.2.1 23 = .ok (.getfield 35, 3) := by decide +kernel
theorem d_ST_compact_26 : decode jM_ST_compact.2.1 26 = .ok (.iload_n 1, 1) := by decide +kernel
theorem d_ST_compact_27 : decode jM_ST_compact.2.1 27 = .ok (.invokevirtual 152, 3) := by decide +kernel
theorem d_ST_compact_30 : decode jM_ST_compact.2.1 30 = .ok (.istore_n 2, 1) := by decide +kernel
theorem d_ST_compact_31 : decode jM_ST_compact.2.1 31 = .ok (.iload_n 2, 1) := by decide +kernel
theorem d_ST_compact_32 : decode jM_ST_compact.2.1 32 = .ok (.iconst (-1), 1) := by decide +kernel
theorem d_ST_compact_33 : decode jM_ST_compact.2.1 33 = .ok (.if_icmp .ne 5, 3) := by decide +kernel
theorem d_ST_compact_36 : decode jM_ST_compact.2.1 36 = .ok (.iconst 0, 1) := by decide +kernel
theorem d_ST_compact_37 : decode jM_ST_compact.2.1 37 = .ok (.ireturn, 1) := by decide +kernel
theorem d_ST_compact_38 : decode jM_ST_compact.2.1 38 = .ok (.aload_n 0, 1) := by decide +kernel
theorem d_ST_compact_39 : decode jM_ST_compact.2.1 39 = .ok (.getfield 35, 3) := by decide +kernel
theorem d_ST_compact_42 : decode jM_ST_compact.2.1 42 = .ok (.iload_n 1, 1) := by decide +kernel
theorem d_ST_compact_43 : decode jM_ST_compact.2.1 43 = .ok (.iload_n 2, 1) := by decide +kernel
theorem d_ST_compact_44 : decode jM_ST_compact.2.1 44 = .ok (.iconst 1, 1) := by decide +kernel
theorem d_ST_compact_45 : decode jM_ST_compact.2.1 45 = .ok (.iadd, 1) := by decide +kernel
theorem d_ST_compact_46 : decode jM_ST_compact.2.1 46 = .ok (.invokevirtual 155, 3) := by decide +kernel
theorem d_ST_compact_49 : decode jM_ST_compact.2.1 49 = .ok (.istore_n 3, 1) := by decide +kernel
theorem d_ST_compact_50 : decode jM_ST_compact.2.1 50 = .ok (.aload_n 0, 1) := by decide +kernel
theorem d_ST_compact_51 : decode jM_ST_compact.2.1 51 = .ok (.getfield 35, 3) := by decide +kernel
theorem d_ST_compact_54 : decode jM_ST_compact.2.1 54 = .ok (.iload_n 2, 1) := by decide +kernel
theorem d_ST_compact_55 : decode jM_ST_compact.2.1 55 = .ok (.iload_n 3, 1) := by decide +kernel
theorem d_ST_compact_56 : decode jM_ST_compact.2.1 56 = .ok (.invokevirtual 158, 3) := by decide +kernel
theorem d_ST_compact_59 : decode jM_ST_compact.2.1 59 = .ok (.aload_n 0, 1) := by decide +kernel
theorem d_ST_compact_60 : decode jM_ST_compact.2.1 60 = .ok (.getfield 35, 3) := by decide +kernel
theorem d_ST_compact_63 : decode jM_ST_compact.2.1 63 = .ok (.invokevirtual 143, 3) := by decide +kernel
theorem d_ST_compact_66 : decode jM_ST_compact.2.1 66 = .ok (.istore 4, 2) := by decide +kernel
theorem d_ST_compact_68 : decode jM_ST_compact.2.1 68 = .ok (.iload 4, 2) := by decide +kernel
theorem d_ST_compact_70 : decode jM_ST_compact.2.1 70 = .ok (.iconst (-1), 1) := by decide +kernel
theorem d_ST_compact_71 : decode jM_ST_compact.2.1 71 = .ok (.if_icmp .ne 6, 3) := by decide +kernel
theorem d_ST_compact_74 : decode jM_ST_compact.2.1 74 = .ok (.bipush (-3), 2) := by decide +kernel
theorem d_ST_compact_76 : decode jM_ST_compact.2.1 76 = .ok (.ireturn, 1) := by decide +kernel
theorem d_ST_compact_77 : decode jM_ST_compact.2.1 77 = .ok (.aload_n 0, 1) := by decide +kernel
theorem d_ST_compact_78 : decode jM_ST_compact.2.1 78 = .ok (.getfield 35, 3) := by decide +kernel
theorem d_ST_compact_81 : decode jM_ST_compact.2.1 81 = .ok (.iload_n 2, 1) := by decide +kernel
theorem d_ST_compact_82 : decode jM_ST_compact.2.1 82 = .ok (.iload_n 3, 1) := by decide +kernel
theorem d_ST_compact_83 : decode jM_ST_compact.2.1 83 = .ok (.iload 4, 2) := by decide +kernel
theorem d_ST_compact_85 : decode jM_ST_compact.2.1 85 = .ok (.invokevirtual 162, 3) := by decide +kernel
theorem d_ST_compact_88 : decode jM_ST_compact.2.1 88 = .ok (.ifCond .eq 7, 3) := by decide +kernel
theorem d_ST_compact_91 : decode jM_ST_compact.2.1 91 = .ok (.iconst 1, 1) := by decide +kernel
theorem d_ST_compact_92 : decode jM_ST_compact.2.1 92 = .ok (.goto 7, 3) := by decide +kernel
theorem d_ST_compact_95 : decode jM_ST_compact.2.1 95 = .ok (.aload_n 0, 1) := by decide +kernel
theorem d_ST_compact_96 : decode jM_ST_compact.2.1 96 = .ok (.invokevirtual 106, 3) := by decide +kernel
theorem d_ST_compact_99 : decode jM_ST_compact.2.1 99 = .ok (.ireturn, 1) := by decide +kernel
theorem d_Coder_behindVarint_0 : decode jM_Coder_behindVarint.2.1 0 = .ok (.iload_n 1, 1) := by decide +kernel
theorem d_Coder_behindVarint_1 : decode jM_Coder_behindVarint.2.1 1 = .ok (.istore_n 2, 1) := by decide +kernel
theorem d_Coder_behindVarint_2 : decode jM_Coder_behindVarint.2.1 2 = .ok (.iconst 1, 1) := by decide +kernel
theorem d_Coder_behindVarint_3 : decode jM_Coder_behindVarint.2.1 3 = .ok (.istore_n 3, 1) := by decide +kernel
theorem d_Coder_behindVarint_4 : decode jM_Coder_behindVarint.2.1 4 = .ok (.iload_n 3, 1) := by decide +kernel
theorem d_Coder_behindVarint_5 : decode jM_Coder_behindVarint.2.1 5 = .ok (.bipush 10, 2) := by decide +kernel
theorem d_Coder_behindVarint_7 : decode jM_Coder_behindVarint.2.1 7 = .ok (.if_icmp .ge 23, 3) := by decide +kernel
theorem d_Coder_behindVarint_10 : decode jM_Coder_behindVarint.2.1 10 = .ok (.aload_n 0, 1) := by decide +kernel
theorem d_Coder_behindVarint_11 : decode jM_Coder_behindVarint.2.1 11 = .ok (.iload_n 2, 1) := by decide +kernel
theorem d_Coder_behindVarint_12 : decode jM_Coder_behindVarint.2.1 12 = .ok (.invokevirtual 77, 3) := by decide +kernel
theorem d_Coder_behindVarint_15 : decode jM_Coder_behindVarint.2.1 15 = .ok (.sipush 128, 3) := by decide +kernel
theorem d_Coder_behindVarint_18 : decode jM_Coder_behindVarint.2.1 18 = .ok (.if_icmp .lt 12, 3) := by decide +kernel
theorem d_Coder_behindVarint_21 : decode jM_Coder_behindVarint.2.1 21 = .ok (.iinc 2 1, 3) := by decide +kernel
theorem d_Coder_behindVarint_24 : decode jM_Coder_behindVarint.2.1 24 = .ok (.iinc 3 1, 3) := by decide +kernel
theorem d_Coder_behindVarint_27 : decode jM_Coder_behindVarint.2.1 27 = .ok (.goto (-23), 3) := by decide +kernel
theorem d_Coder_behindVarint_30 : decode jM_Coder_behindVarint.2.1 30 = .ok (.iload_n 2, 1) := by decide +kernel
theorem d_Coder_behindVarint_31 : decode jM_Coder_behindVarint.2.1 31 = .ok (.iconst 1, 1) := by decide +kernel
theorem d_Coder_behindVarint_32 : decode jM_Coder_behindVarint.2.1 32 = .ok (.iadd, 1) := by decide +kernel
theorem d_Coder_behindVarint_33 : decode jM_Coder_behindVarint.2.1 33 = .ok (.ireturn, 1) := by decide +kernel
theorem d_Coder_varintAt_0 : decode jM_Coder_varintAt.2.1 0 = .ok (.aload_n 0, 1) := by decide +kernel
theorem d_Coder_varintAt_1 : decode jM_Coder_varintAt.2.1 1 = .ok (.iload_n 1, 1) := by decide +kernel
theorem d_Coder_varintAt_2 : decode jM_Coder_varintAt.2.1 2 = .ok (.invokestatic 90, 3) := by decide +kernel
theorem d_Coder_varintAt_5 : decode jM_Coder_varintAt.2.1 5 = .ok (.iload_n 1, 1) := by decide +kernel
theorem d_Coder_varintAt_6 : decode jM_Coder_varintAt.2.1 6 = .ok (.isub, 1) := by decide +kernel
theorem d_Coder_varintAt_7 : decode jM_Coder_varintAt.2.1 7 = .ok (.istore_n 2, 1) := by decide +kernel
theorem d_Coder_varintAt_8 : decode jM_Coder_varintAt.2.1 8 = .ok (.lconst 0, 1) := by decide +kernel
theorem d_Coder_varintAt_9 : decode jM_Coder_varintAt.2.1 9 = .ok (.lstore_n 3, 1) := by decide +kernel
theorem d_Coder_varintAt_10 : decode jM_Coder_varintAt.2.1 10 = .ok (.iconst 0, 1) := by decide +kernel
theorem d_Coder_varintAt_11 : decode jM_Coder_varintAt.2.1 11 = .ok (.istore 5, 2) := by decide +kernel
theorem d_Coder_varintAt_13 : decode jM_Coder_varintAt.2.1 13 = .ok (.iload 5, 2) := by decide +kernel
theorem d_Coder_varintAt_15 : decode jM_Coder_varintAt.2.1 15 = .ok (.iload_n 2, 1) := by decide +kernel
theorem d_Coder_varintAt_16 : decode jM_Coder_varintAt.2.1 16 = .ok (.if_icmp .ge 30, 3) := by decide +kernel
theorem d_Coder_varintAt_19 : decode jM_Coder_varintAt.2.1 19 = .ok (.lload_n 3, 1) := by decide +kernel
theorem d_Coder_varintAt_20 : decode jM_Coder_varintAt.2.1 20 = .ok (.aload_n 0, 1) := by decide +kernel
theorem d_Coder_varintAt_21 : decode jM_Coder_varintAt.2.1 21 = .ok (.iload_n 1, 1) := by decide +kernel
theorem d_Coder_varintAt_22 : decode jM_Coder_varintAt.2.1 22 = .ok (.iload 5, 2) := by decide +kernel
theorem d_Coder_varintAt_24 : decode jM_Coder_varintAt.2.1 24 = .ok (.iadd, 1) := by decide +kernel
theorem d_Coder_varintAt_25 : decode jM_Coder_varintAt.2.1 25 = .ok (.invokevirtual 77, 3) := by decide +kernel
theorem d_Coder_varintAt_28 : decode jM_Coder_varintAt.2.1 28 = .ok (.bipush 127, 2) := by decide +kernel
theorem d_Coder_varintAt_30 : decode jM_Coder_varintAt.2.1 30 = .ok (.iand, 1) := by decide +kernel
theorem d_Coder_varintAt_31 : decode jM_Coder_varintAt.2.1 31 = .ok (.i2l, 1) := by decide +kernel
theorem d_Coder_varintAt_32 : decode jM_Coder_varintAt.2.1 32 = .ok (.bipush 7, 2) := by decide +kernel
theorem d_Coder_varintAt_34 : decode jM_Coder_varintAt.2.1 34 = .ok (.iload 5, 2) := by decide +kernel
theorem d_Coder_varintAt_36 : decode jM_Coder_varintAt.2.1 36 = .ok (.imul, 1) := by decide +kernel
theorem d_Coder_varintAt_37 : decode jM_Coder_varintAt.2.1 37 = .ok (.lshl, 1) := by decide +kernel
theorem d_Coder_varintAt_38 : decode jM_Coder_varintAt.2.1 38 = .ok (.lor, 1) := by decide +kernel
theorem d_Coder_varintAt_39 : decode jM_Coder_varintAt.2.1 39 = .ok (.lstore_n 3, 1) := by decide +kernel
theorem d_Coder_varintAt_40 : decode jM_Coder_varintAt.2.1 40 = .ok (.iinc 5 1, 3) := by decide +kernel
theorem d_Coder_varintAt_43 : decode jM_Coder_varintAt.2.1 43 = .ok (.goto (-30), 3) := by decide +kernel
theorem d_Coder_varintAt_46 : decode jM_Coder_varintAt.2.1 46 = .ok (.lload_n 3, 1) := by decide +kernel
theorem d_Coder_varintAt_47 : decode jM_Coder_varintAt.2.1 47 = .ok (.iconst 1, 1) := by decide +kernel
theorem d_Coder_varintAt_48 : decode jM_Coder_varintAt.2.1 48 = .ok (.lushr, 1) := by decide +kernel
theorem d_Coder_varintAt_49 : decode jM_Coder_varintAt.2.1 49 = .ok (.lload_n 3, 1) := by decide +kernel
theorem d_Coder_varintAt_50 : decode jM_Coder_varintAt.2.1 50 = .ok (.lconst 1, 1) := by decide +kernel
theorem d_Coder_varintAt_51 : decode jM_Coder_varintAt.2.1 51 = .ok (.land, 1) := by decide +kernel
theorem d_Coder_varintAt_52 : decode jM_Coder_varintAt.2.1 52 = .ok (.lneg, 1) := by decide +kernel
theorem d_Coder_varintAt_53 : decode jM_Coder_varintAt.2.1 53 = .ok (.lxor, 1) := by decide +kernel
theorem d_Coder_varintAt_54 : decode jM_Coder_varintAt.2.1 54 = .ok (.lreturn, 1) := by decide +kernel
theorem d_Schema_symbolOfRank_0 : decode jM_Schema_symbolOfRank.2.1 0 = .ok (.iconst 0, 1) := by decide +kernel
theorem d_Schema_symbolOfRank_1 : decode jM_Schema_symbolOfRank.2.1 1 = .ok (.istore_n 2, 1) := by decide +kernel
theorem d_Schema_symbolOfRank_2 : decode jM_Schema_symbolOfRank.2.1 2 = .ok (.iload_n 2, 1) := by decide +kernel
theorem d_Schema_symbolOfRank_3 : decode jM_Schema_symbolOfRank.2.1 3 = .ok (.bipush 8, 2) := by decide +kernel
theorem d_Schema_symbolOfRank_5 : decode jM_Schema_symbolOfRank.2.1 5 = .ok (.if_icmp .ge 29, 3) := by decide +kernel
theorem d_Schema_symbolOfRank_8 : decode jM_Schema_symbolOfRank.2.1 8 = .ok (.aload_n 0, 1) := by decide +kernel
theorem d_Schema_symbolOfRank_9 : decode jM_Schema_symbolOfRank.2.1 9 = .ok (.iload_n 2, 1) := by decide +kernel
theorem d_Schema_symbolOfRank_10 : decode jM_Schema_symbolOfRank.2.1 10 = .ok (.i2l, 1) := by decide +kernel
theorem d_Schema_symbolOfRank_11 : decode jM_Schema_symbolOfRank.2.1 11 = .ok (.invokevirtual 68, 3) := by decide +kernel
theorem d_Schema_symbolOfRank_14 : decode jM_Schema_symbolOfRank.2.1 14 = .ok (.ifCond .eq 14, 3) := by decide +kernel
theorem d_Schema_symbolOfRank_17 : decode jM_Schema_symbolOfRank.2.1 17 = .ok (.aload_n 0, 1) := by decide +kernel
theorem d_Schema_symbolOfRank_18 : decode jM_Schema_symbolOfRank.2.1 18 = .ok (.iload_n 2, 1) := by decide +kernel
theorem d_Schema_symbolOfRank_19 : decode jM_Schema_symbolOfRank.2.1 19 = .ok (.invokevirtual 71, 3) := by decide +kernel
theorem d_Schema_symbolOfRank_22 : decode jM_Schema_symbolOfRank.2.1 22 = .ok (.iload_n 1, 1) := by decide +kernel
theorem d_Schema_symbolOfRank_23 : decode jM_Schema_symbolOfRank.2.1 23 = .ok (.if_icmp .ne 5, 3) := by decide +kernel
theorem d_Schema_symbolOfRank_26 : decode jM_Schema_symbolOfRank.2.1 26 = .ok (.iload_n 2, 1) := by decide +kernel
theorem d_Schema_symbolOfRank_27 : decode jM_Schema_symbolOfRank.2.1 27 = .ok (.ireturn, 1) := by decide +kernel
theorem d_Schema_symbolOfRank_28 : decode jM_Schema_symbolOfRank.2.1 28 = .ok (.iinc 2 1, 3) := by decide +kernel
theorem d_Schema_symbolOfRank_31 : decode jM_Schema_symbolOfRank.2.1 31 = .ok (.goto (-29), 3) := by decide +kernel
theorem d_Schema_symbolOfRank_34 : decode jM_Schema_symbolOfRank.2.1 34 = .ok (.iconst (-1), 1) := by decide +kernel
theorem d_Schema_symbolOfRank_35 : decode jM_Schema_symbolOfRank.2.1 35 = .ok (.ireturn, 1) := by decide +kernel
theorem d_Coder_decodeFields_0 : decode jM_Coder_decodeFields.2.1 0 = .ok (.iload_n 2, 1) := by decide +kernel
theorem d_Coder_decodeFields_1 : decode jM_Coder_decodeFields.2.1 1 = .ok (.istore 4, 2) := by decide +kernel
theorem d_Coder_decodeFields_3 : decode jM_Coder_decodeFields.2.1 3 = .ok (.iconst 0, 1) := by decide +kernel
theorem d_Coder_decodeFields_4 : decode jM_Coder_decodeFields.2.1 4 = .ok (.istore 5, 2) := by decide +kernel
theorem d_Coder_decodeFields_6 : decode jM_Coder_decodeFields.2.1 6 = .ok (.iload 5, 2) := by decide +kernel
theorem d_Coder_decodeFields_8 : decode jM_Coder_decodeFields.2.1 8 = .ok (.aload_n 0, 1) := by decide +kernel
theorem d_Coder_decodeFields_9 : decode jM_Coder_decodeFields.2.1 9 = .ok (.getfield 68, 3) := by decide +kernel
theorem d_Coder_decodeFields_12 : decode jM_Coder_decodeFields.2.1 12 = .ok (.arraylength, 1) := by decide +kernel
theorem d_Coder_decodeFields_13 : decode jM_Coder_decodeFields.2.1 13 = .ok (.if_icmp .ge 28, 3) := by decide +kernel
theorem d_Coder_decodeFields_16 : decode jM_Coder_decodeFields.2.1 16 = .ok (.aload_n 0, 1) := by decide +kernel
theorem d_Coder_decodeFields_17 : decode jM_Coder_decodeFields.2.1 17 = .ok (.getfield 68, 3) := by decide +kernel
theorem d_Coder_decodeFields_20 : decode jM_Coder_decodeFields.2.1 20 = .ok (.iload 5, 2) := by decide +kernel
theorem d_Coder_decodeFields_22 : decode jM_Coder_decodeFields.2.1 22 = .ok (.aaload, 1) := by decide +kernel
theorem d_Coder_decodeFields_23 : decode jM_Coder_decodeFields.2.1 23 = .ok (.getfield 72, 3) := by decide +kernel
theorem d_Coder_decodeFields_26 : decode jM_Coder_decodeFields.2.1 26 = .ok (.aload_n 1, 1) := by decide +kernel
theorem d_Coder_decodeFields_27 : decode jM_Coder_decodeFields.2.1 27 = .ok (.iload 4, 2) := by decide +kernel
theorem d_Coder_decodeFields_29 : decode jM_Coder_decodeFields.2.1 29 = .ok (.aload_n 3, 1) := by decide +kernel
theorem d_Coder_decodeFields_30 : decode jM_Coder_decodeFields.2.1 30 = .ok (.invokestatic 98, 3) := by decide +kernel
theorem d_Coder_decodeFields_33 : decode jM_Coder_decodeFields.2.1 33 = .ok (.istore 4, 2) := by decide +kernel
theorem d_Coder_decodeFields_35 : decode jM_Coder_decodeFields.2.1 35 = .ok (.iinc 5 1, 3) := by decide +kernel
theorem d_Coder_decodeFields_38 : decode jM_Coder_decodeFields.2.1 38 = .ok (.goto (-32), 3) := by decide +kernel
theorem d_Coder_decodeFields_41 : decode jM_Coder_decodeFields.2.1 41 = .ok (.iload 4, 2) := by decide +kernel
theorem d_Coder_decodeFields_43 : decode jM_Coder_decodeFields.2.1 43 = .ok (.ireturn, 1) := by decide +kernel
theorem d_Coder_decodeItems_0 : decode jM_Coder_decodeItems.2.1 0 = .ok (.aload_n 1, 1) := by decide +kernel
theorem d_Coder_decodeItems_1 : decode jM_Coder_decodeItems.2.1 1 = .ok (.iload_n 2, 1) := by decide +kernel
theorem d_Coder_decodeItems_2 : decode jM_Coder_decodeItems.2.1 2 = .ok (.invokestatic 83, 3) := by decide +kernel
theorem d_Coder_decodeItems_5 : decode jM_Coder_decodeItems.2.1 5 = .ok (.lstore 4, 2) := by decide +kernel
theorem d_Coder_decodeItems_7 : decode jM_Coder_decodeItems.2.1 7 = .ok (.aload_n 3, 1) := by decide +kernel
theorem d_Coder_decodeItems_8 : decode jM_Coder_decodeItems.2.1 8 = .ok (.lload 4, 2) := by decide +kernel
theorem d_Coder_decodeItems_10 : decode jM_Coder_decodeItems.2.1 10 = .ok (.invokevirtual 81, 3) := by decide +kernel
theorem d_Coder_decodeItems_13 : decode jM_Coder_decodeItems.2.1 13 = .ok (.lload 4, 2) := by decide +kernel
theorem d_Coder_decodeItems_15 : decode jM_Coder_decodeItems.2.1 15 = .ok (.lconst 0, 1) := by decide +kernel
theorem d_Coder_decodeItems_16 : decode jM_Coder_decodeItems.2.1 16 = .ok (.lcmp, 1) := by decide +kernel
theorem d_Coder_decodeItems_17 : decode jM_Coder_decodeItems.2.1 17 = .ok (.ifCond .ne 7, 3) := by decide +kernel
theorem d_Coder_decodeItems_20 : decode jM_Coder_decodeItems.2.1 20 = .ok (.iload_n 2, 1) := by decide +kernel
theorem d_Coder_decodeItems_21 : decode jM_Coder_decodeItems.2.1 21 = .ok (.iconst 1, 1) := by decide +kernel
theorem d_Coder_decodeItems_22 : decode jM_Coder_decodeItems.2.1 22 = .ok (.iadd, 1) := by decide +kernel
theorem d_Coder_decodeItems_23 : decode jM_Coder_decodeItems.2.1 23 = .ok (.ireturn, 1) := by decide +kernel
theorem d_Coder_decodeItems_24 : decode jM_Coder_decodeItems.2.1 24 = .ok (.aload_n 1, 1) := by decide +kernel
theorem d_Coder_decodeItems_25 : decode jM_Coder_decodeItems.2.1 25 = .ok (.iload_n 2, 1) := by decide +kernel
theorem d_Coder_decodeItems_26 : decode jM_Coder_decodeItems.2.1 26 = .ok (.invokestatic 90, 3) := by decide +kernel
theorem d_Coder_decodeItems_29 : decode jM_Coder_decodeItems.2.1 29 = .ok (.istore 6, 2) := by decide +kernel
theorem d_Coder_decodeItems_31 : decode jM_Coder_decodeItems.2.1 31 = .ok (.iconst 0, 1) := by decide +kernel
theorem d_Coder_decodeItems_32 : decode jM_Coder_decodeItems.2.1 32 = .ok (.istore 7, 2) := by decide +kernel
theorem d_Coder_decodeItems_34 : decode jM_Coder_decodeItems.2.1 34 = .ok (.iload 7, 2) := by decide +kernel
theorem d_Coder_decodeItems_36 : decode jM_Coder_decodeItems.2.1 36 = .ok (.i2l, 1) := by decide +kernel
theorem d_Coder_decodeItems_37 : decode jM_Coder_decodeItems.2.1 37 = .ok (.lload 4, 2) := by decide +kernel
theorem d_Coder_decodeItems_39 : decode jM_Coder_decodeItems.2.1 39 = .ok (.lcmp, 1) := by decide +kernel
theorem d_Coder_decodeItems_40 : decode jM_Coder_decodeItems.2.1 40 = .ok (.ifCond .ge 25, 3) := by decide +kernel
theorem d_Coder_decodeItems_43 : decode jM_Coder_decodeItems.2.1 43 = .ok (.iload 7, 2) := by decide +kernel
theorem d_Coder_decodeItems_45 : decode jM_Coder_decodeItems.2.1 45 = .ok (.iconst 3, 1) := by decide +kernel
theorem d_Coder_decodeItems_46 : decode jM_Coder_decodeItems.2.1 46 = .ok (.if_icmp .ge 19, 3) := by decide +kernel
theorem d_Coder_decodeItems_49 : decode jM_Coder_decodeItems.2.1 49 = .ok (.aload_n 0, 1) := by decide +kernel
theorem d_Coder_decodeItems_50 : decode jM_Coder_decodeItems.2.1 50 = .ok (.aload_n 1, 1) := by decide +kernel
theorem d_Coder_decodeItems_51 : decode jM_Coder_decodeItems.2.1 51 = .ok (.iload 6, 2) := by decide +kernel
theorem d_Coder_decodeItems_53 : decode jM_Coder_decodeItems.2.1 53 = .ok (.aload_n 3, 1) := by decide +kernel
theorem d_Coder_decodeItems_54 : decode jM_Coder_decodeItems.2.1 54 = .ok (.invokestatic 98, 3) := by decide +kernel
theorem d_Coder_decodeItems_57 : decode jM_Coder_decodeItems.2.1 57 = .ok (.istore 6, 2) := by decide +kernel
theorem d_Coder_decodeItems_59 : decode jM_Coder_decodeItems.2.1 59 = .ok (.iinc 7 1, 3) := by decide +kernel
theorem d_Coder_decodeItems_62 : decode jM_Coder_decodeItems.2.1 62 = .ok (.goto (-28), 3) := by decide +kernel
theorem d_Coder_decodeItems_65 : decode jM_Coder_decodeItems.2.1 65 = .ok (.iload 6, 2) := by decide +kernel
theorem d_Coder_decodeItems_67 : decode jM_Coder_decodeItems.2.1 67 = .ok (.iconst 1, 1) := by decide +kernel
theorem d_Coder_decodeItems_68 : decode jM_Coder_decodeItems.2.1 68 = .ok (.iadd, 1) := by decide +kernel
theorem d_Coder_decodeItems_69 : decode jM_Coder_decodeItems.2.1 69 = .ok (.ireturn, 1) := by decide +kernel
theorem d_Coder_decode_0 : decode jM_Coder_decode.2.1 0 = .ok (.aload_n 0, 1) := by decide +kernel
theorem d_Coder_decode_1 : decode jM_Coder_decode.2.1 1 = .ok (.getfield 9, 3) := by decide +kernel
theorem d_Coder_decode_4 : decode jM_Coder_decode.2.1 4 = .ok (.tableswitch 134 0 7 #[48, 50, 134, 134, 64, 85, 96, 126], 48) := by decide +kernel
theorem d_Coder_decode_52 : decode jM_Coder_decode.2.1 52 = .ok (.iload_n 2, 1) := by decide +kernel
theorem d_Coder_decode_53 : decode jM_Coder_decode.2.1 53 = .ok (.ireturn, 1) := by decide +kernel
theorem d_Coder_decode_54 : decode jM_Coder_decode.2.1 54 = .ok (.aload_n 3, 1) := by decide +kernel
theorem d_Coder_decode_55 : decode jM_Coder_decode.2.1 55 = .ok (.aload_n 1, 1) := by decide +kernel
theorem d_Coder_decode_56 : decode jM_Coder_decode.2.1 56 = .ok (.iload_n 2, 1) := by decide +kernel
theorem d_Coder_decode_57 : decode jM_Coder_decode.2.1 57 = .ok (.invokevirtual 77, 3) := by decide +kernel
theorem d_Coder_decode_60 : decode jM_Coder_decode.2.1 60 = .ok (.i2l, 1) := by decide +kernel
theorem d_Coder_decode_61 : decode jM_Coder_decode.2.1 61 = .ok (.invokevirtual 81, 3) := by decide +kernel
theorem d_Coder_decode_64 : decode jM_Coder_decode.2.1 64 = .ok (.iload_n 2, 1) := by decide +kernel
theorem d_Coder_decode_65 : decode jM_Coder_decode.2.1 65 = .ok (.iconst 1, 1) := by decide +kernel
theorem d_Coder_decode_66 : decode jM_Coder_decode.2.1 66 = .ok (.iadd, 1) := by decide +kernel
theorem d_Coder_decode_67 : decode jM_Coder_decode.2.1 67 = .ok (.ireturn, 1) := by decide +kernel
theorem d_Coder_decode_68 : decode jM_Coder_decode.2.1 68 = .ok (.aload_n 3, 1) := by decide +kernel
theorem d_Coder_decode_69 : decode jM_Coder_decode.2.1 69 = .ok (.aload_n 0, 1) := by decide +kernel
theorem d_Coder_decode_70 : decode jM_Coder_decode.2.1 70 = .ok (.aload_n 1, 1) := by decide +kernel
theorem d_Coder_decode_71 : decode jM_Coder_decode.2.1 71 = .ok (.iload_n 2, 1) := by decide +kernel
theorem d_Coder_decode_72 : decode jM_Coder_decode.2.1 72 = .ok (.invokestatic 83, 3) := by decide +kernel
theorem d_Coder_decode_75 : decode jM_Coder_decode.2.1 75 = .ok (.l2i, 1) := by decide +kernel
theorem d_Coder_decode_76 : decode jM_Coder_decode.2.1 76 = .ok (.invokevirtual 87, 3) := by decide +kernel
theorem d_Coder_decode_79 : decode jM_Coder_decode.2.1 79 = .ok (.i2l, 1) := by decide +kernel
theorem d_Coder_decode_80 : decode jM_Coder_decode.2.1 80 = .ok (.invokevirtual 81, 3) := by decide +kernel
theorem d_Coder_decode_83 : decode jM_Coder_decode.2.1 83 = .ok (.aload_n 1, 1) := by decide +kernel
theorem d_Coder_decode_84 : decode jM_Coder_decode.2.1 84 = .ok (.iload_n 2, 1) := by decide +kernel
theorem d_Coder_decode_85 : decode jM_Coder_decode.2.1 85 = .ok (.invokestatic 90, 3) := by decide +kernel
theorem d_Coder_decode_88 : decode jM_Coder_decode.2.1 88 = .ok (.ireturn, 1) := by decide +kernel
theorem d_Coder_decode_89 : decode jM_Coder_decode.2.1 89 = .ok (.aload_n 0, 1) := by decide +kernel
theorem d_Coder_decode_90 : decode jM_Coder_decode.2.1 90 = .ok (.getfield 30, 3) := by decide +kernel
theorem d_Coder_decode_93 : decode jM_Coder_decode.2.1 93 = .ok (.aload_n 1, 1) := by decide +kernel
theorem d_Coder_decode_94 : decode jM_Coder_decode.2.1 94 = .ok (.iload_n 2, 1) := by decide +kernel
theorem d_Coder_decode_95 : decode jM_Coder_decode.2.1 95 = .ok (.aload_n 3, 1) := by decide +kernel
theorem d_Coder_decode_96 : decode jM_Coder_decode.2.1 96 = .ok (.invokestatic 94, 3) := by decide +kernel
theorem d_Coder_decode_99 : decode jM_Coder_decode.2.1 99 = .ok (.ireturn, 1) := by decide +kernel
theorem d_Coder_decode_100 : decode jM_Coder_decode.2.1 100 = .ok (.aload_n 1, 1) := by decide +kernel
theorem d_Coder_decode_101 : decode jM_Coder_decode.2.1 101 = .ok (.iload_n 2, 1) := by decide +kernel
theorem d_Coder_decode_102 : decode jM_Coder_decode.2.1 102 = .ok (.invokestatic 83, 3) := by decide +kernel
theorem d_Coder_decode_105 : decode jM_Coder_decode.2.1 105 = .ok (.lstore 4, 2) := by decide +kernel
theorem d_Coder_decode_107 : decode jM_Coder_decode.2.1 107 = .ok (.aload_n 3, 1) := by decide +kernel
theorem d_Coder_decode_108 : decode jM_Coder_decode.2.1 108 = .ok (.lload 4, 2) := by decide +kernel
theorem d_Coder_decode_110 : decode jM_Coder_decode.2.1 110 = .ok (.invokevirtual 81, 3) := by decide +kernel
theorem d_Coder_decode_113 : decode jM_Coder_decode.2.1 113 = .ok (.aload_n 0, 1) := by decide +kernel
theorem d_Coder_decode_114 : decode jM_Coder_decode.2.1 114 = .ok (.lload 4, 2) := by decide +kernel
theorem d_Coder_decode_116 : decode jM_Coder_decode.2.1 116 = .ok (.invokevirtual 43, 3) := by decide +kernel
theorem d_Coder_decode_119 : decode jM_Coder_decode.2.1 119 = .ok (.aload_n 1, 1) := by decide +kernel
theorem d_Coder_decode_120 : decode jM_Coder_decode.2.1 120 = .ok (.aload_n 1, 1) := by decide +kernel
theorem d_Coder_decode_121 : decode jM_Coder_decode.2.1 121 = .ok (.iload_n 2, 1) := by decide +kernel
theorem d_Coder_decode_122 : decode jM_Coder_decode.2.1 122 = .ok (.invokestatic 90, 3) := by decide +kernel
theorem d_Coder_decode_125 : decode jM_Coder_decode.2.1 125 = .ok (.aload_n 3, 1) := by decide +kernel
theorem d_Coder_decode_126 : decode jM_Coder_decode.2.1 126 = .ok (.invokestatic 98, 3) := by decide +kernel
theorem d_Coder_decode_129 : decode jM_Coder_decode.2.1 129 = .ok (.ireturn, 1) := by decide +kernel
theorem d_Coder_decode_130 : decode jM_Coder_decode.2.1 130 = .ok (.aload_n 0, 1) := by decide +kernel
theorem d_Coder_decode_131 : decode jM_Coder_decode.2.1 131 = .ok (.aload_n 1, 1) := by decide +kernel
theorem d_Coder_decode_132 : decode jM_Coder_decode.2.1 132 = .ok (.iload_n 2, 1) := by decide +kernel
theorem d_Coder_decode_133 : decode jM_Coder_decode.2.1 133 = .ok (.aload_n 3, 1) := by decide +kernel
theorem d_Coder_decode_134 : decode jM_Coder_decode.2.1 134 = .ok (.invokestatic 101, 3) := by decide +kernel
theorem d_Coder_decode_137 : decode jM_Coder_decode.2.1 137 = .ok (.ireturn, 1) := by decide +kernel
theorem d_Coder_decode_138 : decode jM_Coder_decode.2.1 138 = .ok (.aload_n 3, 1) := by decide +kernel
theorem d_Coder_decode_139 : decode jM_Coder_decode.2.1 139 = .ok (.aload_n 1, 1) := by decide +kernel
theorem d_Coder_decode_140 : decode jM_Coder_decode.2.1 140 = .ok (.iload_n 2, 1) := by decide +kernel
theorem d_Coder_decode_141 : decode jM_Coder_decode.2.1 141 = .ok (.invokestatic 83, 3) := by decide +kernel
theorem d_Coder_decode_144 : decode jM_Coder_decode.2.1 144 = .ok (.invokevirtual 81, 3) := by decide +kernel
theorem d_Coder_decode_147 : decode jM_Coder_decode.2.1 147 = .ok (.aload_n 1, 1) := by decide +kernel
theorem d_Coder_decode_148 : decode jM_Coder_decode.2.1 148 = .ok (.iload_n 2, 1) := by decide +kernel
theorem d_Coder_decode_149 : decode jM_Coder_decode.2.1 149 = .ok (.invokestatic 90, 3) := by decide +kernel
theorem d_Coder_decode_152 : decode jM_Coder_decode.2.1 152 = .ok (.ireturn, 1) := by decide +kernel
theorem d_Manifest_decodeRecord_0 : decode jM_Manifest_decodeRecord.2.1 0 = .ok (.aload_n 0, 1) := by decide +kernel
theorem d_Manifest_decodeRecord_1 : decode jM_Manifest_decodeRecord.2.1 1 = .ok (.iload_n 1, 1) := by decide +kernel
theorem d_Manifest_decodeRecord_2 : decode jM_Manifest_decodeRecord.2.1 2 = .ok (.invokevirtual 64, 3) := by decide +kernel
theorem d_Manifest_decodeRecord_5 : decode jM_Manifest_decodeRecord.2.1 5 = .ok (.iconst 5, 1) := by decide +kernel
theorem d_Manifest_decodeRecord_6 : decode jM_Manifest_decodeRecord.2.1 6 = .ok (.iadd, 1) := by decide +kernel
theorem d_Manifest_decodeRecord_7 : decode jM_Manifest_decodeRecord.2.1 7 = .ok (.istore 5, 2) := by decide +kernel
theorem d_Manifest_decodeRecord_9 : decode jM_Manifest_decodeRecord.2.1 9 = .ok (.iconst 0, 1) := by decide +kernel
theorem d_Manifest_decodeRecord_10 : decode jM_Manifest_decodeRecord.2.1 10 = .ok (.istore 6, 2) := by decide +kernel
theorem d_Manifest_decodeRecord_12 : decode jM_Manifest_decodeRecord.2.1 12 = .ok (.iload 6, 2) := by decide +kernel
theorem d_Manifest_decodeRecord_14 : decode jM_Manifest_decodeRecord.2.1 14 = .ok (.iload_n 2, 1) := by decide +kernel
theorem d_Manifest_decodeRecord_15 : decode jM_Manifest_decodeRecord.2.1 15 = .ok (.if_icmp .gt 32, 3) := by decide +kernel
theorem d_Manifest_decodeRecord_18 : decode jM_Manifest_decodeRecord.2.1 18 = .ok (.aload_n 3, 1) := by decide +kernel
theorem d_Manifest_decodeRecord_19 : decode jM_Manifest_decodeRecord.2.1 19 = .ok (.ifnull 28, 3) := by decide +kernel
theorem d_Manifest_decodeRecord_22 : decode jM_Manifest_decodeRecord.2.1 22 = .ok (.aload 4, 2) := by decide +kernel
theorem d_Manifest_decodeRecord_24 : decode jM_Manifest_decodeRecord.2.1 24 = .ok (.invokevirtual 67, 3) := by decide +kernel
theorem d_Manifest_decodeRecord_27 : decode jM_Manifest_decodeRecord.2.1 27 = .ok (.aload_n 3, 1) := by decide +kernel
theorem d_Manifest_decodeRecord_28 : decode jM_Manifest_decodeRecord.2.1 28 = .ok (.aload_n 0, 1) := by decide +kernel
theorem d_Manifest_decodeRecord_29 : decode jM_Manifest_decodeRecord.2.1 29 = .ok (.getfield 9, 3) := by decide +kernel
theorem d_Manifest_decodeRecord_32 : decode jM_Manifest_decodeRecord.2.1 32 = .ok (.iload 5, 2) := by decide +kernel
theorem d_Manifest_decodeRecord_34 : decode jM_Manifest_decodeRecord.2.1 34 = .ok (.aload 4, 2) := by decide +kernel
theorem d_Manifest_decodeRecord_36 : decode jM_Manifest_decodeRecord.2.1 36 = .ok (.invokestatic 72, 3) := by decide +kernel
theorem d_Manifest_decodeRecord_39 : decode jM_Manifest_decodeRecord.2.1 39 = .ok (.istore 5, 2) := by decide +kernel
theorem d_Manifest_decodeRecord_41 : decode jM_Manifest_decodeRecord.2.1 41 = .ok (.iinc 6 1, 3) := by decide +kernel
theorem d_Manifest_decodeRecord_44 : decode jM_Manifest_decodeRecord.2.1 44 = .ok (.goto (-32), 3) := by decide +kernel
theorem d_Manifest_decodeRecord_47 : decode jM_Manifest_decodeRecord.2.1 47 = .ok (.return_, 1) := by decide +kernel
theorem d_Manifest_fetch_0 : decode jM_Manifest_fetch.2.1 0 = .ok (.iload_n 2, 1) := by decide +kernel
theorem d_Manifest_fetch_1 : decode jM_Manifest_fetch.2.1 1 = .ok (.ifCond .ge 5, 3) := by decide +kernel
theorem d_Manifest_fetch_4 : decode jM_Manifest_fetch.2.1 4 = .ok (.aconst_null, 1) := by decide +kernel
theorem d_Manifest_fetch_5 : decode jM_Manifest_fetch.2.1 5 = .ok (.areturn, 1) := by decide +kernel
theorem d_Manifest_fetch_6 : decode jM_Manifest_fetch.2.1 6 = .ok (.aload_n 0, 1) := by decide +kernel
theorem d_Manifest_fetch_7 : decode jM_Manifest_fetch.2.1 7 = .ok (.invokevirtual 29, 3) := by decide +kernel
theorem d_Manifest_fetch_10 : decode jM_Manifest_fetch.2.1 10 = .ok (.istore 5, 2) := by decide +kernel
theorem d_Manifest_fetch_12 : decode jM_Manifest_fetch.2.1 12 = .ok (.iconst 0, 1) := by decide +kernel
theorem d_Manifest_fetch_13 : decode jM_Manifest_fetch.2.1 13 = .ok (.istore 6, 2) := by decide +kernel
theorem d_Manifest_fetch_15 : decode jM_Manifest_fetch.2.1 15 = .ok (.iconst 0, 1) := by decide +kernel
theorem d_Manifest_fetch_16 : decode jM_Manifest_fetch.2.1 16 = .ok (.istore 7, 2) := by decide +kernel
theorem d_Manifest_fetch_18 : decode jM_Manifest_fetch.2.1 18 = .ok (.iload 7, 2) := by decide +kernel
theorem d_Manifest_fetch_20 : decode jM_Manifest_fetch.2.1 20 = .ok (.iload 5, 2) := by decide +kernel
theorem d_Manifest_fetch_22 : decode jM_Manifest_fetch.2.1 22 = .ok (.if_icmp .ge 72, 3) := by decide +kernel
theorem d_Manifest_fetch_25 : decode jM_Manifest_fetch.2.1 25 = .ok (.aload_n 0, 1) := by decide +kernel
theorem d_Manifest_fetch_26 : decode jM_Manifest_fetch.2.1 26 = .ok (.iload 7, 2) := by decide +kernel
theorem d_Manifest_fetch_28 : decode jM_Manifest_fetch.2.1 28 = .ok (.invokevirtual 33, 3) := by decide +kernel
theorem d_Manifest_fetch_31 : decode jM_Manifest_fetch.2.1 31 = .ok (.iload_n 1, 1) := by decide +kernel
theorem d_Manifest_fetch_32 : decode jM_Manifest_fetch.2.1 32 = .ok (.if_icmp .ne 56, 3) := by decide +kernel
theorem d_Manifest_fetch_35 : decode jM_Manifest_fetch.2.1 35 = .ok (.iload_n 2, 1) := by decide +kernel
theorem d_Manifest_fetch_36 : decode jM_Manifest_fetch.2.1 36 = .ok (.iload 6, 2) := by decide +kernel
theorem d_Manifest_fetch_38 : decode jM_Manifest_fetch.2.1 38 = .ok (.isub, 1) := by decide +kernel
theorem d_Manifest_fetch_39 : decode jM_Manifest_fetch.2.1 39 = .ok (.aload_n 0, 1) := by decide +kernel
theorem d_Manifest_fetch_40 : decode jM_Manifest_fetch.2.1 40 = .ok (.iload 7, 2) := by decide +kernel
theorem d_Manifest_fetch_42 : decode jM_Manifest_fetch.2.1 42 = .ok (.invokevirtual 37, 3) := by decide +kernel
theorem d_Manifest_fetch_45 : decode jM_Manifest_fetch.2.1 45 = .ok (.if_icmp .ge 32, 3) := by decide +kernel
theorem d_Manifest_fetch_48 : decode jM_Manifest_fetch.2.1 48 = .ok (.aload_n 3, 1) := by decide +kernel
theorem d_Manifest_fetch_49 : decode jM_Manifest_fetch.2.1 49 = .ok (.aload_n 0, 1) := by decide +kernel
theorem d_Manifest_fetch_50 : decode jM_Manifest_fetch.2.1 50 = .ok (.iload 7, 2) := by decide +kernel
theorem d_Manifest_fetch_52 : decode jM_Manifest_fetch.2.1 52 = .ok (.invokevirtual 48, 3) := by decide +kernel
theorem d_Manifest_fetch_55 : decode jM_Manifest_fetch.2.1 55 = .ok (.invokevirtual 54, 3) := by decide +kernel
theorem d_Manifest_fetch_58 : decode jM_Manifest_fetch.2.1 58 = .ok (.astore 8, 2) := by decide +kernel
theorem d_Manifest_fetch_60 : decode jM_Manifest_fetch.2.1 60 = .ok (.aload_n 0, 1) := by decide +kernel
theorem d_Manifest_fetch_61 : decode jM_Manifest_fetch.2.1 61 = .ok (.iload 7, 2) := by decide +kernel
theorem d_Manifest_fetch_63 : decode jM_Manifest_fetch.2.1 63 = .ok (.iload_n 2, 1) := by decide +kernel
theorem d_Manifest_fetch_64 : decode jM_Manifest_fetch.2.1 64 = .ok (.iload 6, 2) := by decide +kernel
theorem d_Manifest_fetch_66 : decode jM_Manifest_fetch.2.1 66 = .ok (.isub, 1) := by decide +kernel
theorem d_Manifest_fetch_67 : decode jM_Manifest_fetch.2.1 67 = .ok (.aload 8, 2) := by decide +kernel
theorem d_Manifest_fetch_69 : decode jM_Manifest_fetch.2.1 69 = .ok (.aload 4, 2) := by decide +kernel
theorem d_Manifest_fetch_71 : decode jM_Manifest_fetch.2.1 71 = .ok (.invokevirtual 60, 3) := by decide +kernel
theorem d_Manifest_fetch_74 : decode jM_Manifest_fetch.2.1 74 = .ok (.aload 8, 2) := by decide +kernel
theorem d_Manifest_fetch_76 : decode jM_Manifest_fetch.2.1 76 = .ok (.areturn, 1) := by decide +kernel
theorem d_Manifest_fetch_77 : decode jM_Manifest_fetch.2.1 77 = .ok (.iload 6, 2) := by decide +kernel
theorem d_Manifest_fetch_79 : decode jM_Manifest_fetch.2.1 79 = .ok (.aload_n 0, 1) := by decide +kernel
theorem d_Manifest_fetch_80 : decode jM_Manifest_fetch.2.1 80 = .ok (.iload 7, 2) := by decide +kernel
theorem d_Manifest_fetch_82 : decode jM_Manifest_fetch.2.1 82 = .ok (.invokevirtual 37, 3) := by decide +kernel
theorem d_Manifest_fetch_85 : decode jM_Manifest_fetch.2.1 85 = .ok (.iadd, 1) := by decide +kernel
theorem d_Manifest_fetch_86 : decode jM_Manifest_fetch.2.1 86 = .ok (.istore 6, 2) := by decide +kernel
theorem d_Manifest_fetch_88 : decode jM_Manifest_fetch.2.1 88 = .ok (.iinc 7 1, 3) := by decide +kernel
theorem d_Manifest_fetch_91 : decode jM_Manifest_fetch.2.1 91 = .ok (.goto (-73), 3) := by decide +kernel
theorem d_Manifest_fetch_94 : decode jM_Manifest_fetch.2.1 94 = .ok (.aconst_null, 1) := by decide +kernel
theorem d_Manifest_fetch_95 : decode jM_Manifest_fetch.2.1 95 = .ok (.areturn, 1) := by decide +kernel
theorem d_Resolver_resolveSymbol_0 : decode jM_Resolver_resolveSymbol.2.1 0 = .ok (.aload_n 1, 1) := by decide +kernel
theorem d_Resolver_resolveSymbol_1 : decode jM_Resolver_resolveSymbol.2.1 1 = .ok (.lload_n 2, 1) := by decide +kernel
theorem d_Resolver_resolveSymbol_2 : decode jM_Resolver_resolveSymbol.2.1 2 = .ok (.invokevirtual 60, 3) := by decide +kernel
theorem d_Resolver_resolveSymbol_5 : decode jM_Resolver_resolveSymbol.2.1 5 = .ok (.istore 5, 2) := by decide +kernel
theorem d_Resolver_resolveSymbol_7 : decode jM_Resolver_resolveSymbol.2.1 7 = .ok (.aload_n 0, 1) := by decide +kernel
theorem d_Resolver_resolveSymbol_8 : decode jM_Resolver_resolveSymbol.2.1 8 = .ok (.getfield 64, 3) := by decide +kernel
theorem d_Resolver_resolveSymbol_11 : decode jM_Resolver_resolveSymbol.2.1 11 = .ok (.aload_n 1, 1) := by decide +kernel
theorem d_Resolver_resolveSymbol_12 : decode jM_Resolver_resolveSymbol.2.1 12 = .ok (.getfield 64, 3) := by decide +kernel
theorem d_Resolver_resolveSymbol_15 : decode jM_Resolver_resolveSymbol.2.1 15 = .ok (.if_icmp .ne 16, 3) := by decide +kernel
theorem d_Resolver_resolveSymbol_18 : decode jM_Resolver_resolveSymbol.2.1 18 = .ok (.iload 5, 2) := by decide +kernel
theorem d_Resolver_resolveSymbol_20 : decode jM_Resolver_resolveSymbol.2.1 20 = .ok (.ifCond .ne 13, 3) := by decide +kernel
theorem d_Resolver_resolveSymbol_23 : decode jM_Resolver_resolveSymbol.2.1 23 = .ok (.aload_n 1, 1) := by decide +kernel
theorem d_Resolver_resolveSymbol_24 : decode jM_Resolver_resolveSymbol.2.1 24 = .ok (.getfield 67, 3) := by decide +kernel
theorem d_Resolver_resolveSymbol_27 : decode jM_Resolver_resolveSymbol.2.1 27 = .ok (.iconst (-1), 1) := by decide +kernel
theorem d_Resolver_resolveSymbol_28 : decode jM_Resolver_resolveSymbol.2.1 28 = .ok (.if_icmp .ne 5, 3) := by decide +kernel
theorem d_Resolver_resolveSymbol_31 : decode jM_Resolver_resolveSymbol.2.1 31 = .ok (.iconst 0, 1) := by decide +kernel
theorem d_Resolver_resolveSymbol_32 : decode jM_Resolver_resolveSymbol.2.1 32 = .ok (.ireturn, 1) := by decide +kernel
theorem d_Resolver_resolveSymbol_33 : decode jM_Resolver_resolveSymbol.2.1 33 = .ok (.aload 4, 2) := by decide +kernel
theorem d_Resolver_resolveSymbol_35 : decode jM_Resolver_resolveSymbol.2.1 35 = .ok (.iload 5, 2) := by decide +kernel
theorem d_Resolver_resolveSymbol_37 : decode jM_Resolver_resolveSymbol.2.1 37 = .ok (.ifCond .eq 7, 3) := by decide +kernel
theorem d_Resolver_resolveSymbol_40 : decode jM_Resolver_resolveSymbol.2.1 40 = .ok (.lload_n 2, 1) := by decide +kernel
theorem d_Resolver_resolveSymbol_41 : decode jM_Resolver_resolveSymbol.2.1 41 = .ok (.goto 8, 3) := by decide +kernel
theorem d_Resolver_resolveSymbol_44 : decode jM_Resolver_resolveSymbol.2.1 44 = .ok (.aload_n 1, 1) := by decide +kernel
theorem d_Resolver_resolveSymbol_45 : decode jM_Resolver_resolveSymbol.2.1 45 = .ok (.getfield 67, 3) := by decide +kernel
theorem d_Resolver_resolveSymbol_48 : decode jM_Resolver_resolveSymbol.2.1 48 = .ok (.i2l, 1) := by decide +kernel
theorem d_Resolver_resolveSymbol_49 : decode jM_Resolver_resolveSymbol.2.1 49 = .ok (.invokevirtual 52, 3) := by decide +kernel
theorem d_Resolver_resolveSymbol_52 : decode jM_Resolver_resolveSymbol.2.1 52 = .ok (.iconst 1, 1) := by decide +kernel
theorem d_Resolver_resolveSymbol_53 : decode jM_Resolver_resolveSymbol.2.1 53 = .ok (.ireturn, 1) := by decide +kernel
theorem d_Resolver_appendDefault_0 : decode jM_Resolver_appendDefault.2.1 0 = .ok (.aload_n 0, 1) := by decide +kernel
theorem d_Resolver_appendDefault_1 : decode jM_Resolver_appendDefault.2.1 1 = .ok (.getfield 9, 3) := by decide +kernel
theorem d_Resolver_appendDefault_4 : decode jM_Resolver_appendDefault.2.1 4 = .ok (.bipush 6, 2) := by decide +kernel
theorem d_Resolver_appendDefault_6 : decode jM_Resolver_appendDefault.2.1 6 = .ok (.if_icmp .ne 20, 3) := by decide +kernel
theorem d_Resolver_appendDefault_9 : decode jM_Resolver_appendDefault.2.1 9 = .ok (.aload_n 3, 1) := by decide +kernel
theorem d_Resolver_appendDefault_10 : decode jM_Resolver_appendDefault.2.1 10 = .ok (.lconst 0, 1) := by decide +kernel
theorem d_Resolver_appendDefault_11 : decode jM_Resolver_appendDefault.2.1 11 = .ok (.invokevirtual 52, 3) := by decide +kernel
theorem d_Resolver_appendDefault_14 : decode jM_Resolver_appendDefault.2.1 14 = .ok (.aload_n 0, 1) := by decide +kernel
theorem d_Resolver_appendDefault_15 : decode jM_Resolver_appendDefault.2.1 15 = .ok (.getfield 42, 3) := by decide +kernel
theorem d_Resolver_appendDefault_18 : decode jM_Resolver_appendDefault.2.1 18 = .ok (.lload_n 1, 1) := by decide +kernel
theorem d_Resolver_appendDefault_19 : decode jM_Resolver_appendDefault.2.1 19 = .ok (.aload_n 3, 1) := by decide +kernel
theorem d_Resolver_appendDefault_20 : decode jM_Resolver_appendDefault.2.1 20 = .ok (.invokestatic 96, 3) := by decide +kernel
theorem d_Resolver_appendDefault_23 : decode jM_Resolver_appendDefault.2.1 23 = .ok (.goto 15, 3) := by decide +kernel
theorem d_Resolver_appendDefault_26 : decode jM_Resolver_appendDefault.2.1 26 = .ok (.aload_n 0, 1) := by decide +kernel
theorem d_Resolver_appendDefault_27 : decode jM_Resolver_appendDefault.2.1 27 = .ok (.getfield 9, 3) := by decide +kernel
theorem d_Resolver_appendDefault_30 : decode jM_Resolver_appendDefault.2.1 30 = .ok (.ifCond .eq 8, 3) := by decide +kernel
theorem d_Resolver_appendDefault_33 : decode jM_Resolver_appendDefault.2.1 33 = .ok (.aload_n 3, 1) := by decide +kernel
theorem d_Resolver_appendDefault_34 : decode jM_Resolver_appendDefault.2.1 34 = .ok (.lload_n 1, 1) := by decide +kernel
theorem d_Resolver_appendDefault_35 : decode jM_Resolver_appendDefault.2.1 35 = .ok (.invokevirtual 52, 3) := by decide +kernel
theorem d_Resolver_appendDefault_38 : decode jM_Resolver_appendDefault.2.1 38 = .ok (.return_, 1) := by decide +kernel
theorem d_Resolver_behindFields_0 : decode jM_Resolver_behindFields.2.1 0 = .ok (.iload_n 2, 1) := by decide +kernel
theorem d_Resolver_behindFields_1 : decode jM_Resolver_behindFields.2.1 1 = .ok (.istore_n 3, 1) := by decide +kernel
theorem d_Resolver_behindFields_2 : decode jM_Resolver_behindFields.2.1 2 = .ok (.iconst 0, 1) := by decide +kernel
theorem d_Resolver_behindFields_3 : decode jM_Resolver_behindFields.2.1 3 = .ok (.istore 4, 2) := by decide +kernel
theorem d_Resolver_behindFields_5 : decode jM_Resolver_behindFields.2.1 5 = .ok (.iload 4, 2) := by decide +kernel
theorem d_Resolver_behindFields_7 : decode jM_Resolver_behindFields.2.1 7 = .ok (.aload_n 0, 1) := by decide +kernel
theorem d_Resolver_behindFields_8 : decode jM_Resolver_behindFields.2.1 8 = .ok (.getfield 74, 3) := by decide +kernel
theorem d_Resolver_behindFields_11 : decode jM_Resolver_behindFields.2.1 11 = .ok (.arraylength, 1) := by decide +kernel
theorem d_Resolver_behindFields_12 : decode jM_Resolver_behindFields.2.1 12 = .ok (.if_icmp .ge 25, 3) := by decide +kernel
theorem d_Resolver_behindFields_15 : decode jM_Resolver_behindFields.2.1 15 = .ok (.aload_n 0, 1) := by decide +kernel
theorem d_Resolver_behindFields_16 : decode jM_Resolver_behindFields.2.1 16 = .ok (.getfield 74, 3) := by decide +kernel
theorem d_Resolver_behindFields_19 : decode jM_Resolver_behindFields.2.1 19 = .ok (.iload 4, 2) := by decide +kernel
theorem d_Resolver_behindFields_21 : decode jM_Resolver_behindFields.2.1 21 = .ok (.aaload, 1) := by decide +kernel
theorem d_Resolver_behindFields_22 : decode jM_Resolver_behindFields.2.1 22 = .ok (.getfield 85, 3) := by decide +kernel
theorem d_Resolver_behindFields_25 : decode jM_Resolver_behindFields.2.1 25 = .ok (.aload_n 1, 1) := by decide +kernel
theorem d_Resolver_behindFields_26 : decode jM_Resolver_behindFields.2.1 26 = .ok (.iload_n 3, 1) := by decide +kernel
theorem d_Resolver_behindFields_27 : decode jM_Resolver_behindFields.2.1 27 = .ok (.invokestatic 70, 3) := by decide +kernel
theorem d_Resolver_behindFields_30 : decode jM_Resolver_behindFields.2.1 30 = .ok (.istore_n 3, 1) := by decide +kernel
theorem d_Resolver_behindFields_31 : decode jM_Resolver_behindFields.2.1 31 = .ok (.iinc 4 1, 3) := by decide +kernel
theorem d_Resolver_behindFields_34 : decode jM_Resolver_behindFields.2.1 34 = .ok (.goto (-29), 3) := by decide +kernel
theorem d_Resolver_behindFields_37 : decode jM_Resolver_behindFields.2.1 37 = .ok (.iload_n 3, 1) := by decide +kernel
theorem d_Resolver_behindFields_38 : decode jM_Resolver_behindFields.2.1 38 = .ok (.ireturn, 1) := by decide +kernel
theorem d_Resolver_behindItems_0 : decode jM_Resolver_behindItems.2.1 0 = .ok (.aload_n 1, 1) := by decide +kernel
theorem d_Resolver_behindItems_1 : decode jM_Resolver_behindItems.2.1 1 = .ok (.iload_n 2, 1) := by decide +kernel
theorem d_Resolver_behindItems_2 : decode jM_Resolver_behindItems.2.1 2 = .ok (.invokevirtual 15, 3) := by decide +kernel
theorem d_Resolver_behindItems_5 : decode jM_Resolver_behindItems.2.1 5 = .ok (.lstore_n 3, 1) := by decide +kernel
theorem d_Resolver_behindItems_6 : decode jM_Resolver_behindItems.2.1 6 = .ok (.iload_n 2, 1) := by decide +kernel
theorem d_Resolver_behindItems_7 : decode jM_Resolver_behindItems.2.1 7 = .ok (.iconst 1, 1) := by decide +kernel
theorem d_Resolver_behindItems_8 : decode jM_Resolver_behindItems.2.1 8 = .ok (.iadd, 1) := by decide +kernel
theorem d_Resolver_behindItems_9 : decode jM_Resolver_behindItems.2.1 9 = .ok (.istore 5, 2) := by decide +kernel
theorem d_Resolver_behindItems_11 : decode jM_Resolver_behindItems.2.1 11 = .ok (.iconst 0, 1) := by decide +kernel
theorem d_Resolver_behindItems_12 : decode jM_Resolver_behindItems.2.1 12 = .ok (.istore 6, 2) := by decide +kernel
theorem d_Resolver_behindItems_14 : decode jM_Resolver_behindItems.2.1 14 = .ok (.iload 6, 2) := by decide +kernel
theorem d_Resolver_behindItems_16 : decode jM_Resolver_behindItems.2.1 16 = .ok (.i2l, 1) := by decide +kernel
theorem d_Resolver_behindItems_17 : decode jM_Resolver_behindItems.2.1 17 = .ok (.lload_n 3, 1) := by decide +kernel
theorem d_Resolver_behindItems_18 : decode jM_Resolver_behindItems.2.1 18 = .ok (.lcmp, 1) := by decide +kernel
theorem d_Resolver_behindItems_19 : decode jM_Resolver_behindItems.2.1 19 = .ok (.ifCond .ge 24, 3) := by decide +kernel
theorem d_Resolver_behindItems_22 : decode jM_Resolver_behindItems.2.1 22 = .ok (.iload 6, 2) := by decide +kernel
theorem d_Resolver_behindItems_24 : decode jM_Resolver_behindItems.2.1 24 = .ok (.iconst 3, 1) := by decide +kernel
theorem d_Resolver_behindItems_25 : decode jM_Resolver_behindItems.2.1 25 = .ok (.if_icmp .ge 18, 3) := by decide +kernel
theorem d_Resolver_behindItems_28 : decode jM_Resolver_behindItems.2.1 28 = .ok (.aload_n 0, 1) := by decide +kernel
theorem d_Resolver_behindItems_29 : decode jM_Resolver_behindItems.2.1 29 = .ok (.aload_n 1, 1) := by decide +kernel
theorem d_Resolver_behindItems_30 : decode jM_Resolver_behindItems.2.1 30 = .ok (.iload 5, 2) := by decide +kernel
theorem d_Resolver_behindItems_32 : decode jM_Resolver_behindItems.2.1 32 = .ok (.invokestatic 70, 3) := by decide +kernel
theorem d_Resolver_behindItems_35 : decode jM_Resolver_behindItems.2.1 35 = .ok (.istore 5, 2) := by decide +kernel
theorem d_Resolver_behindItems_37 : decode jM_Resolver_behindItems.2.1 37 = .ok (.iinc 6 1, 3) := by decide +kernel
theorem d_Resolver_behindItems_40 : decode jM_Resolver_behindItems.2.1 40 = .ok (.goto (-26), 3) := by decide +kernel
theorem d_Resolver_behindItems_43 : decode jM_Resolver_behindItems.2.1 43 = .ok (.iload 5, 2) := by decide +kernel
theorem d_Resolver_behindItems_45 : decode jM_Resolver_behindItems.2.1 45 = .ok (.ireturn, 1) := by decide +kernel
theorem d_Resolver_behind_0 : decode jM_Resolver_behind.2.1 0 = .ok (.aload_n 0, 1) := by decide +kernel
theorem d_Resolver_behind_1 : decode jM_Resolver_behind.2.1 1 = .ok (.getfield 9, 3) := by decide +kernel
theorem d_Resolver_behind_4 : decode jM_Resolver_behind.2.1 4 = .ok (.tableswitch 84 0 7 #[48, 84, 84, 84, 84, 50, 60, 77], 48) := by decide +kernel
theorem d_Resolver_behind_52 : decode jM_Resolver_behind.2.1 52 = .ok (.iload_n 2, 1) := by decide +kernel
theorem d_Resolver_behind_53 : decode jM_Resolver_behind.2.1 53 = .ok (.ireturn, 1) := by decide +kernel
theorem d_Resolver_behind_54 : decode jM_Resolver_behind.2.1 54 = .ok (.aload_n 0, 1) := by decide +kernel
theorem d_Resolver_behind_55 : decode jM_Resolver_behind.2.1 55 = .ok (.getfield 42, 3) := by decide +kernel
theorem d_Resolver_behind_58 : decode jM_Resolver_behind.2.1 58 = .ok (.aload_n 1, 1) := by decide +kernel
theorem d_Resolver_behind_59 : decode jM_Resolver_behind.2.1 59 = .ok (.iload_n 2, 1) := by decide +kernel
theorem d_Resolver_behind_60 : decode jM_Resolver_behind.2.1 60 = .ok (.invokestatic 100, 3) := by decide +kernel
theorem d_Resolver_behind_63 : decode jM_Resolver_behind.2.1 63 = .ok (.ireturn, 1) := by decide +kernel
theorem d_Resolver_behind_64 : decode jM_Resolver_behind.2.1 64 = .ok (.aload_n 0, 1) := by decide +kernel
theorem d_Resolver_behind_65 : decode jM_Resolver_behind.2.1 65 = .ok (.aload_n 1, 1) := by decide +kernel
theorem d_Resolver_behind_66 : decode jM_Resolver_behind.2.1 66 = .ok (.iload_n 2, 1) := by decide +kernel
theorem d_Resolver_behind_67 : decode jM_Resolver_behind.2.1 67 = .ok (.invokevirtual 15, 3) := by decide +kernel
theorem d_Resolver_behind_70 : decode jM_Resolver_behind.2.1 70 = .ok (.invokevirtual 21, 3) := by decide +kernel
theorem d_Resolver_behind_73 : decode jM_Resolver_behind.2.1 73 = .ok (.aload_n 1, 1) := by decide +kernel
theorem d_Resolver_behind_74 : decode jM_Resolver_behind.2.1 74 = .ok (.iload_n 2, 1) := by decide +kernel
theorem d_Resolver_behind_75 : decode jM_Resolver_behind.2.1 75 = .ok (.iconst 1, 1) := by decide +kernel
theorem d_Resolver_behind_76 : decode jM_Resolver_behind.2.1 76 = .ok (.iadd, 1) := by decide +kernel
theorem d_Resolver_behind_77 : decode jM_Resolver_behind.2.1 77 = .ok (.invokestatic 70, 3) := by decide +kernel
theorem d_Resolver_behind_80 : decode jM_Resolver_behind.2.1 80 = .ok (.ireturn, 1) := by decide +kernel
theorem d_Resolver_behind_81 : decode jM_Resolver_behind.2.1 81 = .ok (.aload_n 0, 1) := by decide +kernel
theorem d_Resolver_behind_82 : decode jM_Resolver_behind.2.1 82 = .ok (.aload_n 1, 1) := by decide +kernel
theorem d_Resolver_behind_83 : decode jM_Resolver_behind.2.1 83 = .ok (.iload_n 2, 1) := by decide +kernel
theorem d_Resolver_behind_84 : decode jM_Resolver_behind.2.1 84 = .ok (.invokestatic 103, 3) := by decide +kernel
theorem d_Resolver_behind_87 : decode jM_Resolver_behind.2.1 87 = .ok (.ireturn, 1) := by decide +kernel
theorem d_Resolver_behind_88 : decode jM_Resolver_behind.2.1 88 = .ok (.iload_n 2, 1) := by decide +kernel
theorem d_Resolver_behind_89 : decode jM_Resolver_behind.2.1 89 = .ok (.iconst 1, 1) := by decide +kernel
theorem d_Resolver_behind_90 : decode jM_Resolver_behind.2.1 90 = .ok (.iadd, 1) := by decide +kernel
theorem d_Resolver_behind_91 : decode jM_Resolver_behind.2.1 91 = .ok (.ireturn, 1) := by decide +kernel
theorem d_Resolver_resolveField_0 : decode jM_Resolver_resolveField.2.1 0 = .ok (.iload_n 3, 1) := by decide +kernel
theorem d_Resolver_resolveField_1 : decode jM_Resolver_resolveField.2.1 1 = .ok (.istore 5, 2) := by decide +kernel
theorem d_Resolver_resolveField_3 : decode jM_Resolver_resolveField.2.1 3 = .ok (.iconst 0, 1) := by decide +kernel
theorem d_Resolver_resolveField_4 : decode jM_Resolver_resolveField.2.1 4 = .ok (.istore 6, 2) := by decide +kernel
theorem d_Resolver_resolveField_6 : decode jM_Resolver_resolveField.2.1 6 = .ok (.iload 6, 2) := by decide +kernel
theorem d_Resolver_resolveField_8 : decode jM_Resolver_resolveField.2.1 8 = .ok (.aload_n 0, 1) := by decide +kernel
theorem d_Resolver_resolveField_9 : decode jM_Resolver_resolveField.2.1 9 = .ok (.getfield 74, 3) := by decide +kernel
theorem d_Resolver_resolveField_12 : decode jM_Resolver_resolveField.2.1 12 = .ok (.arraylength, 1) := by decide +kernel
theorem d_Resolver_resolveField_13 : decode jM_Resolver_resolveField.2.1 13 = .ok (.if_icmp .ge 61, 3) := by decide +kernel
theorem d_Resolver_resolveField_16 : decode jM_Resolver_resolveField.2.1 16 = .ok (.aload_n 0, 1) := by decide +kernel
theorem d_Resolver_resolveField_17 : decode jM_Resolver_resolveField.2.1 17 = .ok (.getfield 74, 3) := by decide +kernel
theorem d_Resolver_resolveField_20 : decode jM_Resolver_resolveField.2.1 20 = .ok (.iload 6, 2) := by decide +kernel
theorem d_Resolver_resolveField_22 : decode jM_Resolver_resolveField.2.1 22 = .ok (.aaload, 1) := by decide +kernel
theorem d_Resolver_resolveField_23 : decode jM_Resolver_resolveField.2.1 23 = .ok (.astore 7, 2) := by decide +kernel
theorem d_Resolver_resolveField_25 : decode jM_Resolver_resolveField.2.1 25 = .ok (.aload 7, 2) := by decide +kernel
theorem d_Resolver_resolveField_27 : decode jM_Resolver_resolveField.2.1 27 = .ok (.getfield 82, 3) := by decide +kernel
theorem d_Resolver_resolveField_30 : decode jM_Resolver_resolveField.2.1 30 = .ok (.aload_n 1, 1) := by decide +kernel
theorem d_Resolver_resolveField_31 : decode jM_Resolver_resolveField.2.1 31 = .ok (.getfield 82, 3) := by decide +kernel
theorem d_Resolver_resolveField_34 : decode jM_Resolver_resolveField.2.1 34 = .ok (.if_icmp .ne 21, 3) := by decide +kernel
theorem d_Resolver_resolveField_37 : decode jM_Resolver_resolveField.2.1 37 = .ok (.aload 7, 2) := by decide +kernel
theorem d_Resolver_resolveField_39 : decode jM_Resolver_resolveField.2.1 39 = .ok (.getfield 85, 3) := by decide +kernel
theorem d_Resolver_resolveField_42 : decode jM_Resolver_resolveField.2.1 42 = .ok (.aload_n 1, 1) := by decide +kernel
theorem d_Resolver_resolveField_43 : decode jM_Resolver_resolveField.2.1 43 = .ok (.getfield 85, 3) := by decide +kernel
theorem d_Resolver_resolveField_46 : decode jM_Resolver_resolveField.2.1 46 = .ok (.aload_n 2, 1) := by decide +kernel
theorem d_Resolver_resolveField_47 : decode jM_Resolver_resolveField.2.1 47 = .ok (.iload 5, 2) := by decide +kernel
theorem d_Resolver_resolveField_49 : decode jM_Resolver_resolveField.2.1 49 = .ok (.aload 4, 2) := by decide +kernel
theorem d_Resolver_resolveField_51 : decode jM_Resolver_resolveField.2.1 51 = .ok (.invokestatic 25, 3) := by decide +kernel
theorem d_Resolver_resolveField_54 : decode jM_Resolver_resolveField.2.1 54 = .ok (.ireturn, 1) := by decide +kernel
theorem d_Resolver_resolveField_55 : decode jM_Resolver_resolveField.2.1 55 = .ok (.aload 7, 2) := by decide +kernel
theorem d_Resolver_resolveField_57 : decode jM_Resolver_resolveField.2.1 57 = .ok (.getfield 85, 3) := by decide +kernel
theorem d_Resolver_resolveField_60 : decode jM_Resolver_resolveField.2.1 60 = .ok (.aload_n 2, 1) := by decide +kernel
theorem d_Resolver_resolveField_61 : decode jM_Resolver_resolveField.2.1 61 = .ok (.iload 5, 2) := by decide +kernel
theorem d_Resolver_resolveField_63 : decode jM_Resolver_resolveField.2.1 63 = .ok (.invokestatic 70, 3) := by decide +kernel
theorem d_Resolver_resolveField_66 : decode jM_Resolver_resolveField.2.1 66 = .ok (.istore 5, 2) := by decide +kernel
theorem d_Resolver_resolveField_68 : decode jM_Resolver_resolveField.2.1 68 = .ok (.iinc 6 1, 3) := by decide +kernel
theorem d_Resolver_resolveField_71 : decode jM_Resolver_resolveField.2.1 71 = .ok (.goto (-65), 3) := by decide +kernel
theorem d_Resolver_resolveField_74 : decode jM_Resolver_resolveField.2.1 74 = .ok (.aload_n 1, 1) := by decide +kernel
theorem d_Resolver_resolveField_75 : decode jM_Resolver_resolveField.2.1 75 = .ok (.getfield 88, 3) := by decide +kernel
theorem d_Resolver_resolveField_78 : decode jM_Resolver_resolveField.2.1 78 = .ok (.ifCond .eq 16, 3) := by decide +kernel
theorem d_Resolver_resolveField_81 : decode jM_Resolver_resolveField.2.1 81 = .ok (.aload_n 1, 1) := by decide +kernel
theorem d_Resolver_resolveField_82 : decode jM_Resolver_resolveField.2.1 82 = .ok (.getfield 85, 3) := by decide +kernel
theorem d_Resolver_resolveField_85 : decode jM_Resolver_resolveField.2.1 85 = .ok (.aload_n 1, 1) := by decide +kernel
theorem d_Resolver_resolveField_86 : decode jM_Resolver_resolveField.2.1 86 = .ok (.getfield 92, 3) := by decide +kernel
theorem d_Resolver_resolveField_89 : decode jM_Resolver_resolveField.2.1 89 = .ok (.aload 4, 2) := by decide +kernel
theorem d_Resolver_resolveField_91 : decode jM_Resolver_resolveField.2.1 91 = .ok (.invokestatic 96, 3) := by decide +kernel
theorem d_Resolver_resolveField_94 : decode jM_Resolver_resolveField.2.1 94 = .ok (.aload_n 1, 1) := by decide +kernel
theorem d_Resolver_resolveField_95 : decode jM_Resolver_resolveField.2.1 95 = .ok (.getfield 88, 3) := by decide +kernel
theorem d_Resolver_resolveField_98 : decode jM_Resolver_resolveField.2.1 98 = .ok (.ireturn, 1) := by decide +kernel
theorem d_Resolver_resolveFields_0 : decode jM_Resolver_resolveFields.2.1 0 = .ok (.aload_n 0, 1) := by decide +kernel
theorem d_Resolver_resolveFields_1 : decode jM_Resolver_resolveFields.2.1 1 = .ok (.getfield 64, 3) := by decide +kernel
theorem d_Resolver_resolveFields_4 : decode jM_Resolver_resolveFields.2.1 4 = .ok (.aload_n 1, 1) := by decide +kernel
theorem d_Resolver_resolveFields_5 : decode jM_Resolver_resolveFields.2.1 5 = .ok (.getfield 64, 3) := by decide +kernel
theorem d_Resolver_resolveFields_8 : decode jM_Resolver_resolveFields.2.1 8 = .ok (.if_icmp .eq 5, 3) := by decide +kernel
theorem d_Resolver_resolveFields_11 : decode jM_Resolver_resolveFields.2.1 11 = .ok (.iconst 0, 1) := by decide +kernel
theorem d_Resolver_resolveFields_12 : decode jM_Resolver_resolveFields.2.1 12 = .ok (.ireturn, 1) := by decide +kernel
theorem d_Resolver_resolveFields_13 : decode jM_Resolver_resolveFields.2.1 13 = .ok (.iconst 0, 1) := by decide +kernel
theorem d_Resolver_resolveFields_14 : decode jM_Resolver_resolveFields.2.1 14 = .ok (.istore 5, 2) := by decide +kernel
theorem d_Resolver_resolveFields_16 : decode jM_Resolver_resolveFields.2.1 16 = .ok (.iload 5, 2) := by decide +kernel
theorem d_Resolver_resolveFields_18 : decode jM_Resolver_resolveFields.2.1 18 = .ok (.aload_n 1, 1) := by decide +kernel
theorem d_Resolver_resolveFields_19 : decode jM_Resolver_resolveFields.2.1 19 = .ok (.getfield 74, 3) := by decide +kernel
theorem d_Resolver_resolveFields_22 : decode jM_Resolver_resolveFields.2.1 22 = .ok (.arraylength, 1) := by decide +kernel
theorem d_Resolver_resolveFields_23 : decode jM_Resolver_resolveFields.2.1 23 = .ok (.if_icmp .ge 29, 3) := by decide +kernel
theorem d_Resolver_resolveFields_26 : decode jM_Resolver_resolveFields.2.1 26 = .ok (.aload_n 0, 1) := by decide +kernel
theorem d_Resolver_resolveFields_27 : decode jM_Resolver_resolveFields.2.1 27 = .ok (.aload_n 1, 1) := by decide +kernel
theorem d_Resolver_resolveFields_28 : decode jM_Resolver_resolveFields.2.1 28 = .ok (.getfield 74, 3) := by decide +kernel
theorem d_Resolver_resolveFields_31 : decode jM_Resolver_resolveFields.2.1 31 = .ok (.iload 5, 2) := by decide +kernel
theorem d_Resolver_resolveFields_33 : decode jM_Resolver_resolveFields.2.1 33 = .ok (.aaload, 1) := by decide +kernel
theorem d_Resolver_resolveFields_34 : decode jM_Resolver_resolveFields.2.1 34 = .ok (.aload_n 2, 1) := by decide +kernel
theorem d_Resolver_resolveFields_35 : decode jM_Resolver_resolveFields.2.1 35 = .ok (.iload_n 3, 1) := by decide +kernel
theorem d_Resolver_resolveFields_36 : decode jM_Resolver_resolveFields.2.1 36 = .ok (.aload 4, 2) := by decide +kernel
theorem d_Resolver_resolveFields_38 : decode jM_Resolver_resolveFields.2.1 38 = .ok (.invokestatic 78, 3) := by decide +kernel
theorem d_Resolver_resolveFields_41 : decode jM_Resolver_resolveFields.2.1 41 = .ok (.ifCond .ne 5, 3) := by decide +kernel
theorem d_Resolver_resolveFields_44 : decode jM_Resolver_resolveFields.2.1 44 = .ok (.iconst 0, 1) := by decide +kernel
theorem d_Resolver_resolveFields_45 : decode jM_Resolver_resolveFields.2.1 45 = .ok (.ireturn, 1) := by decide +kernel
theorem d_Resolver_resolveFields_46 : decode jM_Resolver_resolveFields.2.1 46 = .ok (.iinc 5 1, 3) := by decide +kernel
theorem d_Resolver_resolveFields_49 : decode jM_Resolver_resolveFields.2.1 49 = .ok (.goto (-33), 3) := by decide +kernel
theorem d_Resolver_resolveFields_52 : decode jM_Resolver_resolveFields.2.1 52 = .ok (.iconst 1, 1) := by decide +kernel
theorem d_Resolver_resolveFields_53 : decode jM_Resolver_resolveFields.2.1 53 = .ok (.ireturn, 1) := by decide +kernel
theorem d_Resolver_resolveIntoUnion_0 : decode jM_Resolver_resolveIntoUnion.2.1 0 = .ok (.aload_n 1, 1) := by decide +kernel
theorem d_Resolver_resolveIntoUnion_1 : decode jM_Resolver_resolveIntoUnion.2.1 1 = .ok (.aload_n 0, 1) := by decide +kernel
theorem d_Resolver_resolveIntoUnion_2 : decode jM_Resolver_resolveIntoUnion.2.1 2 = .ok (.invokestatic 56, 3) := by decide +kernel
theorem d_Resolver_resolveIntoUnion_5 : decode jM_Resolver_resolveIntoUnion.2.1 5 = .ok (.istore 5, 2) := by decide +kernel
theorem d_Resolver_resolveIntoUnion_7 : decode jM_Resolver_resolveIntoUnion.2.1 7 = .ok (.iload 5, 2) := by decide +kernel
theorem d_Resolver_resolveIntoUnion_9 : decode jM_Resolver_resolveIntoUnion.2.1 9 = .ok (.iconst (-1), 1) := by decide +kernel
theorem d_Resolver_resolveIntoUnion_10 : decode jM_Resolver_resolveIntoUnion.2.1 10 = .ok (.if_icmp .ne 5, 3) := by decide +kernel
theorem d_Resolver_resolveIntoUnion_13 : decode jM_Resolver_resolveIntoUnion.2.1 13 = .ok (.iconst 0, 1) := by decide +kernel
theorem d_Resolver_resolveIntoUnion_14 : decode jM_Resolver_resolveIntoUnion.2.1 14 = .ok (.ireturn, 1) := by decide +kernel
theorem d_Resolver_resolveIntoUnion_15 : decode jM_Resolver_resolveIntoUnion.2.1 15 = .ok (.aload 4, 2) := by decide +kernel
theorem d_Resolver_resolveIntoUnion_17 : decode jM_Resolver_resolveIntoUnion.2.1 17 = .ok (.iload 5, 2) := by decide +kernel
theorem d_Resolver_resolveIntoUnion_19 : decode jM_Resolver_resolveIntoUnion.2.1 19 = .ok (.i2l, 1) := by decide +kernel
theorem d_Resolver_resolveIntoUnion_20 : decode jM_Resolver_resolveIntoUnion.2.1 20 = .ok (.invokevirtual 52, 3) := by decide +kernel
theorem d_Resolver_resolveIntoUnion_23 : decode jM_Resolver_resolveIntoUnion.2.1 23 = .ok (.aload_n 0, 1) := by decide +kernel
theorem d_Resolver_resolveIntoUnion_24 : decode jM_Resolver_resolveIntoUnion.2.1 24 = .ok (.aload_n 1, 1) := by decide +kernel
theorem d_Resolver_resolveIntoUnion_25 : decode jM_Resolver_resolveIntoUnion.2.1 25 = .ok (.iload 5, 2) := by decide +kernel
theorem d_Resolver_resolveIntoUnion_27 : decode jM_Resolver_resolveIntoUnion.2.1 27 = .ok (.i2l, 1) := by decide +kernel
theorem d_Resolver_resolveIntoUnion_28 : decode jM_Resolver_resolveIntoUnion.2.1 28 = .ok (.invokevirtual 21, 3) := by decide +kernel
theorem d_Resolver_resolveIntoUnion_31 : decode jM_Resolver_resolveIntoUnion.2.1 31 = .ok (.aload_n 2, 1) := by decide +kernel
theorem d_Resolver_resolveIntoUnion_32 : decode jM_Resolver_resolveIntoUnion.2.1 32 = .ok (.iload_n 3, 1) := by decide +kernel
theorem d_Resolver_resolveIntoUnion_33 : decode jM_Resolver_resolveIntoUnion.2.1 33 = .ok (.aload 4, 2) := by decide +kernel
theorem d_Resolver_resolveIntoUnion_35 : decode jM_Resolver_resolveIntoUnion.2.1 35 = .ok (.invokestatic 25, 3) := by decide +kernel
theorem d_Resolver_resolveIntoUnion_38 : decode jM_Resolver_resolveIntoUnion.2.1 38 = .ok (.ireturn, 1) := by decide +kernel
theorem d_Resolver_resolveItems_0 : decode jM_Resolver_resolveItems.2.1 0 = .ok (.aload_n 2, 1) := by decide +kernel
theorem d_Resolver_resolveItems_1 : decode jM_Resolver_resolveItems.2.1 1 = .ok (.iload_n 3, 1) := by decide +kernel
theorem d_Resolver_resolveItems_2 : decode jM_Resolver_resolveItems.2.1 2 = .ok (.invokevirtual 15, 3) := by decide +kernel
theorem d_Resolver_resolveItems_5 : decode jM_Resolver_resolveItems.2.1 5 = .ok (.lstore 5, 2) := by decide +kernel
theorem d_Resolver_resolveItems_7 : decode jM_Resolver_resolveItems.2.1 7 = .ok (.aload 4, 2) := by decide +kernel
theorem d_Resolver_resolveItems_9 : decode jM_Resolver_resolveItems.2.1 9 = .ok (.lload 5, 2) := by decide +kernel
theorem d_Resolver_resolveItems_11 : decode jM_Resolver_resolveItems.2.1 11 = .ok (.invokevirtual 52, 3) := by decide +kernel
theorem d_Resolver_resolveItems_14 : decode jM_Resolver_resolveItems.2.1 14 = .ok (.iload_n 3, 1) := by decide +kernel
theorem d_Resolver_resolveItems_15 : decode jM_Resolver_resolveItems.2.1 15 = .ok (.iconst 1, 1) := by decide +kernel
theorem d_Resolver_resolveItems_16 : decode jM_Resolver_resolveItems.2.1 16 = .ok (.iadd, 1) := by decide +kernel
theorem d_Resolver_resolveItems_17 : decode jM_Resolver_resolveItems.2.1 17 = .ok (.istore 7, 2) := by decide +kernel
theorem d_Resolver_resolveItems_19 : decode jM_Resolver_resolveItems.2.1 19 = .ok (.iconst 0, 1) := by decide +kernel
theorem d_Resolver_resolveItems_20 : decode jM_Resolver_resolveItems.2.1 20 = .ok (.istore 8, 2) := by decide +kernel
theorem d_Resolver_resolveItems_22 : decode jM_Resolver_resolveItems.2.1 22 = .ok (.iload 8, 2) := by decide +kernel
theorem d_Resolver_resolveItems_24 : decode jM_Resolver_resolveItems.2.1 24 = .ok (.i2l, 1) := by decide +kernel
theorem d_Resolver_resolveItems_25 : decode jM_Resolver_resolveItems.2.1 25 = .ok (.lload 5, 2) := by decide +kernel
theorem d_Resolver_resolveItems_27 : decode jM_Resolver_resolveItems.2.1 27 = .ok (.lcmp, 1) := by decide +kernel
theorem d_Resolver_resolveItems_28 : decode jM_Resolver_resolveItems.2.1 28 = .ok (.ifCond .ge 39, 3) := by decide +kernel
theorem d_Resolver_resolveItems_31 : decode jM_Resolver_resolveItems.2.1 31 = .ok (.iload 8, 2) := by decide +kernel
theorem d_Resolver_resolveItems_33 : decode jM_Resolver_resolveItems.2.1 33 = .ok (.iconst 3, 1) := by decide +kernel
theorem d_Resolver_resolveItems_34 : decode jM_Resolver_resolveItems.2.1 34 = .ok (.if_icmp .ge 33, 3) := by decide +kernel
theorem d_Resolver_resolveItems_37 : decode jM_Resolver_resolveItems.2.1 37 = .ok (.aload_n 0, 1) := by decide +kernel
theorem d_Resolver_resolveItems_38 : decode jM_Resolver_resolveItems.2.1 38 = .ok (.aload_n 1, 1) := by decide +kernel
theorem d_Resolver_resolveItems_39 : decode jM_Resolver_resolveItems.2.1 39 = .ok (.aload_n 2, 1) := by decide +kernel
theorem d_Resolver_resolveItems_40 : decode jM_Resolver_resolveItems.2.1 40 = .ok (.iload 7, 2) := by decide +kernel
theorem d_Resolver_resolveItems_42 : decode jM_Resolver_resolveItems.2.1 42 = .ok (.aload 4, 2) := by decide +kernel
theorem d_Resolver_resolveItems_44 : decode jM_Resolver_resolveItems.2.1 44 = .ok (.invokestatic 25, 3) := by decide +kernel
theorem d_Resolver_resolveItems_47 : decode jM_Resolver_resolveItems.2.1 47 = .ok (.ifCond .ne 5, 3) := by decide +kernel
theorem d_Resolver_resolveItems_50 : decode jM_Resolver_resolveItems.2.1 50 = .ok (.iconst 0, 1) := by decide +kernel
theorem d_Resolver_resolveItems_51 : decode jM_Resolver_resolveItems.2.1 51 = .ok (.ireturn, 1) := by decide +kernel
theorem d_Resolver_resolveItems_52 : decode jM_Resolver_resolveItems.2.1 52 = .ok (.aload_n 0, 1) := by decide +kernel
theorem d_Resolver_resolveItems_53 : decode jM_Resolver_resolveItems.2.1 53 = .ok (.aload_n 2, 1) := by decide +kernel
theorem d_Resolver_resolveItems_54 : decode jM_Resolver_resolveItems.2.1 54 = .ok (.iload 7, 2) := by decide +kernel
theorem d_Resolver_resolveItems_56 : decode jM_Resolver_resolveItems.2.1 56 = .ok (.invokestatic 70, 3) := by decide +kernel
theorem d_Resolver_resolveItems_59 : decode jM_Resolver_resolveItems.2.1 59 = .ok (.istore 7, 2) := by decide +kernel
theorem d_Resolver_resolveItems_61 : decode jM_Resolver_resolveItems.2.1 61 = .ok (.iinc 8 1, 3) := by decide +kernel
theorem d_Resolver_resolveItems_64 : decode jM_Resolver_resolveItems.2.1 64 = .ok (.goto (-42), 3) := by decide +kernel
theorem d_Resolver_resolveItems_67 : decode jM_Resolver_resolveItems.2.1 67 = .ok (.iconst 1, 1) := by decide +kernel
theorem d_Resolver_resolveItems_68 : decode jM_Resolver_resolveItems.2.1 68 = .ok (.ireturn, 1) := by decide +kernel
theorem d_Resolver_resolve_0 : decode jM_Resolver_resolve.2.1 0 = .ok (.aload_n 0, 1) := by decide +kernel
theorem d_Resolver_resolve_1 : decode jM_Resolver_resolve.2.1 1 = .ok (.getfield 9, 3) := by decide +kernel
theorem d_Resolver_resolve_4 : decode jM_Resolver_resolve.2.1 4 = .ok (.bipush 6, 2) := by decide +kernel
