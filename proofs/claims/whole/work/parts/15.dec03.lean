theorem d_Resolver_resolve_6 : decode jM_Resolver_resolve.2.1 6 = .ok (.if_icmp .ne 23, 3) := by decide +kernel
theorem d_Resolver_resolve_9 : decode jM_Resolver_resolve.2.1 9 = .ok (.aload_n 0, 1) := by decide +kernel
theorem d_Resolver_resolve_10 : decode jM_Resolver_resolve.2.1 10 = .ok (.aload_n 2, 1) := by decide +kernel
theorem d_Resolver_resolve_11 : decode jM_Resolver_resolve.2.1 11 = .ok (.iload_n 3, 1) := by decide +kernel
theorem d_Resolver_resolve_12 : decode jM_Resolver_resolve.2.1 12 = .ok (.invokevirtual 15, 3) := by decide +kernel
theorem d_Resolver_resolve_15 : decode jM_Resolver_resolve.2.1 15 = .ok (.invokevirtual 21, 3) := by decide +kernel
theorem d_Resolver_resolve_18 : decode jM_Resolver_resolve.2.1 18 = .ok (.aload_n 1, 1) := by decide +kernel
theorem d_Resolver_resolve_19 : decode jM_Resolver_resolve.2.1 19 = .ok (.aload_n 2, 1) := by decide +kernel
theorem d_Resolver_resolve_20 : decode jM_Resolver_resolve.2.1 20 = .ok (.iload_n 3, 1) := by decide +kernel
theorem d_Resolver_resolve_21 : decode jM_Resolver_resolve.2.1 21 = .ok (.iconst 1, 1) := by decide +kernel
theorem d_Resolver_resolve_22 : decode jM_Resolver_resolve.2.1 22 = .ok (.iadd, 1) := by decide +kernel
theorem d_Resolver_resolve_23 : decode jM_Resolver_resolve.2.1 23 = .ok (.aload 4, 2) := by decide +kernel
theorem d_Resolver_resolve_25 : decode jM_Resolver_resolve.2.1 25 = .ok (.invokestatic 25, 3) := by decide +kernel
theorem d_Resolver_resolve_28 : decode jM_Resolver_resolve.2.1 28 = .ok (.ireturn, 1) := by decide +kernel
theorem d_Resolver_resolve_29 : decode jM_Resolver_resolve.2.1 29 = .ok (.aload_n 1, 1) := by decide +kernel
theorem d_Resolver_resolve_30 : decode jM_Resolver_resolve.2.1 30 = .ok (.getfield 9, 3) := by decide +kernel
theorem d_Resolver_resolve_33 : decode jM_Resolver_resolve.2.1 33 = .ok (.bipush 6, 2) := by decide +kernel
theorem d_Resolver_resolve_35 : decode jM_Resolver_resolve.2.1 35 = .ok (.if_icmp .ne 13, 3) := by decide +kernel
theorem d_Resolver_resolve_38 : decode jM_Resolver_resolve.2.1 38 = .ok (.aload_n 0, 1) := by decide +kernel
theorem d_Resolver_resolve_39 : decode jM_Resolver_resolve.2.1 39 = .ok (.aload_n 1, 1) := by decide +kernel
theorem d_Resolver_resolve_40 : decode jM_Resolver_resolve.2.1 40 = .ok (.aload_n 2, 1) := by decide +kernel
theorem d_Resolver_resolve_41 : decode jM_Resolver_resolve.2.1 41 = .ok (.iload_n 3, 1) := by decide +kernel
theorem d_Resolver_resolve_42 : decode jM_Resolver_resolve.2.1 42 = .ok (.aload 4, 2) := by decide +kernel
theorem d_Resolver_resolve_44 : decode jM_Resolver_resolve.2.1 44 = .ok (.invokestatic 31, 3) := by decide +kernel
theorem d_Resolver_resolve_47 : decode jM_Resolver_resolve.2.1 47 = .ok (.ireturn, 1) := by decide +kernel
theorem d_Resolver_resolve_48 : decode jM_Resolver_resolve.2.1 48 = .ok (.aload_n 1, 1) := by decide +kernel
theorem d_Resolver_resolve_49 : decode jM_Resolver_resolve.2.1 49 = .ok (.aload_n 0, 1) := by decide +kernel
theorem d_Resolver_resolve_50 : decode jM_Resolver_resolve.2.1 50 = .ok (.invokestatic 34, 3) := by decide +kernel
theorem d_Resolver_resolve_53 : decode jM_Resolver_resolve.2.1 53 = .ok (.ifCond .ne 5, 3) := by decide +kernel
theorem d_Resolver_resolve_56 : decode jM_Resolver_resolve.2.1 56 = .ok (.iconst 0, 1) := by decide +kernel
theorem d_Resolver_resolve_57 : decode jM_Resolver_resolve.2.1 57 = .ok (.ireturn, 1) := by decide +kernel
theorem d_Resolver_resolve_58 : decode jM_Resolver_resolve.2.1 58 = .ok (.aload_n 1, 1) := by decide +kernel
theorem d_Resolver_resolve_59 : decode jM_Resolver_resolve.2.1 59 = .ok (.getfield 9, 3) := by decide +kernel
theorem d_Resolver_resolve_62 : decode jM_Resolver_resolve.2.1 62 = .ok (.tableswitch 87 0 7 #[46, 87, 87, 87, 48, 61, 87, 77], 46) := by decide +kernel
theorem d_Resolver_resolve_108 : decode jM_Resolver_resolve.2.1 108 = .ok (.iconst 1, 1) := by decide +kernel
theorem d_Resolver_resolve_109 : decode jM_Resolver_resolve.2.1 109 = .ok (.ireturn, 1) := by decide +kernel
theorem d_Resolver_resolve_110 : decode jM_Resolver_resolve.2.1 110 = .ok (.aload_n 0, 1) := by decide +kernel
theorem d_Resolver_resolve_111 : decode jM_Resolver_resolve.2.1 111 = .ok (.aload_n 1, 1) := by decide +kernel
theorem d_Resolver_resolve_112 : decode jM_Resolver_resolve.2.1 112 = .ok (.aload_n 2, 1) := by decide +kernel
theorem d_Resolver_resolve_113 : decode jM_Resolver_resolve.2.1 113 = .ok (.iload_n 3, 1) := by decide +kernel
theorem d_Resolver_resolve_114 : decode jM_Resolver_resolve.2.1 114 = .ok (.invokevirtual 15, 3) := by decide +kernel
theorem d_Resolver_resolve_117 : decode jM_Resolver_resolve.2.1 117 = .ok (.aload 4, 2) := by decide +kernel
theorem d_Resolver_resolve_119 : decode jM_Resolver_resolve.2.1 119 = .ok (.invokestatic 38, 3) := by decide +kernel
theorem d_Resolver_resolve_122 : decode jM_Resolver_resolve.2.1 122 = .ok (.ireturn, 1) := by decide +kernel
theorem d_Resolver_resolve_123 : decode jM_Resolver_resolve.2.1 123 = .ok (.aload_n 0, 1) := by decide +kernel
theorem d_Resolver_resolve_124 : decode jM_Resolver_resolve.2.1 124 = .ok (.getfield 42, 3) := by decide +kernel
theorem d_Resolver_resolve_127 : decode jM_Resolver_resolve.2.1 127 = .ok (.aload_n 1, 1) := by decide +kernel
theorem d_Resolver_resolve_128 : decode jM_Resolver_resolve.2.1 128 = .ok (.getfield 42, 3) := by decide +kernel
theorem d_Resolver_resolve_131 : decode jM_Resolver_resolve.2.1 131 = .ok (.aload_n 2, 1) := by decide +kernel
theorem d_Resolver_resolve_132 : decode jM_Resolver_resolve.2.1 132 = .ok (.iload_n 3, 1) := by decide +kernel
theorem d_Resolver_resolve_133 : decode jM_Resolver_resolve.2.1 133 = .ok (.aload 4, 2) := by decide +kernel
theorem d_Resolver_resolve_135 : decode jM_Resolver_resolve.2.1 135 = .ok (.invokestatic 46, 3) := by decide +kernel
theorem d_Resolver_resolve_138 : decode jM_Resolver_resolve.2.1 138 = .ok (.ireturn, 1) := by decide +kernel
theorem d_Resolver_resolve_139 : decode jM_Resolver_resolve.2.1 139 = .ok (.aload_n 0, 1) := by decide +kernel
theorem d_Resolver_resolve_140 : decode jM_Resolver_resolve.2.1 140 = .ok (.aload_n 1, 1) := by decide +kernel
theorem d_Resolver_resolve_141 : decode jM_Resolver_resolve.2.1 141 = .ok (.aload_n 2, 1) := by decide +kernel
theorem d_Resolver_resolve_142 : decode jM_Resolver_resolve.2.1 142 = .ok (.iload_n 3, 1) := by decide +kernel
theorem d_Resolver_resolve_143 : decode jM_Resolver_resolve.2.1 143 = .ok (.aload 4, 2) := by decide +kernel
theorem d_Resolver_resolve_145 : decode jM_Resolver_resolve.2.1 145 = .ok (.invokestatic 49, 3) := by decide +kernel
theorem d_Resolver_resolve_148 : decode jM_Resolver_resolve.2.1 148 = .ok (.ireturn, 1) := by decide +kernel
theorem d_Resolver_resolve_149 : decode jM_Resolver_resolve.2.1 149 = .ok (.aload 4, 2) := by decide +kernel
theorem d_Resolver_resolve_151 : decode jM_Resolver_resolve.2.1 151 = .ok (.aload_n 2, 1) := by decide +kernel
theorem d_Resolver_resolve_152 : decode jM_Resolver_resolve.2.1 152 = .ok (.iload_n 3, 1) := by decide +kernel
theorem d_Resolver_resolve_153 : decode jM_Resolver_resolve.2.1 153 = .ok (.invokevirtual 15, 3) := by decide +kernel
theorem d_Resolver_resolve_156 : decode jM_Resolver_resolve.2.1 156 = .ok (.invokevirtual 52, 3) := by decide +kernel
theorem d_Resolver_resolve_159 : decode jM_Resolver_resolve.2.1 159 = .ok (.iconst 1, 1) := by decide +kernel
theorem d_Resolver_resolve_160 : decode jM_Resolver_resolve.2.1 160 = .ok (.ireturn, 1) := by decide +kernel
theorem d_ST_read_0 : decode jM_ST_read.2.1 0 = .ok (.aload_n 0, 1) := by decide +kernel
theorem d_ST_read_1 : decode jM_ST_read.2.1 1 = .ok (.getfield 58, 3) := by decide +kernel
theorem d_ST_read_4 : decode jM_ST_read.2.1 4 = .ok (.invokevirtual 128, 3) := by decide +kernel
theorem d_ST_read_7 : decode jM_ST_read.2.1 7 = .ok (.aload_n 0, 1) := by decide +kernel
theorem d_ST_read_8 : decode jM_ST_read.2.1 8 = .ok (.getfield 19, 3) := by decide +kernel
theorem d_ST_read_11 : decode jM_ST_read.2.1 11 = .ok (.getfield 79, 3) := by decide +kernel
theorem d_ST_read_14 : decode jM_ST_read.2.1 14 = .ok (.ifCond .ne 6, 3) := by decide +kernel
theorem d_ST_read_17 : decode jM_ST_read.2.1 17 = .ok (.bipush (-4), 2) := by decide +kernel
theorem d_ST_read_19 : decode jM_ST_read.2.1 19 = .ok (.ireturn, 1) := by decide +kernel
theorem d_ST_read_20 : decode jM_ST_read.2.1 20 = .ok (.aload_n 0, 1) := by decide +kernel
theorem d_ST_read_21 : decode jM_ST_read.2.1 21 = .ok (.getfield 13, 3) := by decide +kernel
theorem d_ST_read_24 : decode jM_ST_read.2.1 24 = .ok (.iload_n 3, 1) := by decide +kernel
theorem d_ST_read_25 : decode jM_ST_read.2.1 25 = .ok (.invokevirtual 61, 3) := by decide +kernel
theorem d_ST_read_28 : decode jM_ST_read.2.1 28 = .ok (.astore 4, 2) := by decide +kernel
theorem d_ST_read_30 : decode jM_ST_read.2.1 30 = .ok (.iload_n 1, 1) := by decide +kernel
theorem d_ST_read_31 : decode jM_ST_read.2.1 31 = .ok (.invokestatic 83, 3) := by decide +kernel
theorem d_ST_read_34 : decode jM_ST_read.2.1 34 = .ok (.ifCond .eq 20, 3) := by decide +kernel
theorem d_ST_read_37 : decode jM_ST_read.2.1 37 = .ok (.aload 4, 2) := by decide +kernel
theorem d_ST_read_39 : decode jM_ST_read.2.1 39 = .ok (.ifnull 15, 3) := by decide +kernel
theorem d_ST_read_42 : decode jM_ST_read.2.1 42 = .ok (.aload_n 0, 1) := by decide +kernel
theorem d_ST_read_43 : decode jM_ST_read.2.1 43 = .ok (.getfield 28, 3) := by decide +kernel
theorem d_ST_read_46 : decode jM_ST_read.2.1 46 = .ok (.iload_n 1, 1) := by decide +kernel
theorem d_ST_read_47 : decode jM_ST_read.2.1 47 = .ok (.iload_n 3, 1) := by decide +kernel
theorem d_ST_read_48 : decode jM_ST_read.2.1 48 = .ok (.invokevirtual 87, 3) := by decide +kernel
theorem d_ST_read_51 : decode jM_ST_read.2.1 51 = .ok (.ifCond .ne 5, 3) := by decide +kernel
theorem d_ST_read_54 : decode jM_ST_read.2.1 54 = .ok (.iconst (-1), 1) := by decide +kernel
theorem d_ST_read_55 : decode jM_ST_read.2.1 55 = .ok (.ireturn, 1) := by decide +kernel
theorem d_ST_read_56 : decode jM_ST_read.2.1 56 = .ok (.aload_n 0, 1) := by decide +kernel
theorem d_ST_read_57 : decode jM_ST_read.2.1 57 = .ok (.getfield 35, 3) := by decide +kernel
theorem d_ST_read_60 : decode jM_ST_read.2.1 60 = .ok (.iload_n 1, 1) := by decide +kernel
theorem d_ST_read_61 : decode jM_ST_read.2.1 61 = .ok (.iload_n 2, 1) := by decide +kernel
theorem d_ST_read_62 : decode jM_ST_read.2.1 62 = .ok (.aload_n 0, 1) := by decide +kernel
theorem d_ST_read_63 : decode jM_ST_read.2.1 63 = .ok (.getfield 13, 3) := by decide +kernel
theorem d_ST_read_66 : decode jM_ST_read.2.1 66 = .ok (.aload_n 0, 1) := by decide +kernel
theorem d_ST_read_67 : decode jM_ST_read.2.1 67 = .ok (.getfield 55, 3) := by decide +kernel
theorem d_ST_read_70 : decode jM_ST_read.2.1 70 = .ok (.invokevirtual 166, 3) := by decide +kernel
theorem d_ST_read_73 : decode jM_ST_read.2.1 73 = .ok (.astore 5, 2) := by decide +kernel
theorem d_ST_read_75 : decode jM_ST_read.2.1 75 = .ok (.aload 5, 2) := by decide +kernel
theorem d_ST_read_77 : decode jM_ST_read.2.1 77 = .ok (.ifnonnull 5, 3) := by decide +kernel
theorem d_ST_read_80 : decode jM_ST_read.2.1 80 = .ok (.iconst (-1), 1) := by decide +kernel
theorem d_ST_read_81 : decode jM_ST_read.2.1 81 = .ok (.ireturn, 1) := by decide +kernel
theorem d_ST_read_82 : decode jM_ST_read.2.1 82 = .ok (.aload 5, 2) := by decide +kernel
theorem d_ST_read_84 : decode jM_ST_read.2.1 84 = .ok (.aload 4, 2) := by decide +kernel
theorem d_ST_read_86 : decode jM_ST_read.2.1 86 = .ok (.aload_n 0, 1) := by decide +kernel
theorem d_ST_read_87 : decode jM_ST_read.2.1 87 = .ok (.getfield 55, 3) := by decide +kernel
theorem d_ST_read_90 : decode jM_ST_read.2.1 90 = .ok (.iconst 0, 1) := by decide +kernel
theorem d_ST_read_91 : decode jM_ST_read.2.1 91 = .ok (.aload_n 0, 1) := by decide +kernel
theorem d_ST_read_92 : decode jM_ST_read.2.1 92 = .ok (.getfield 58, 3) := by decide +kernel
theorem d_ST_read_95 : decode jM_ST_read.2.1 95 = .ok (.invokestatic 170, 3) := by decide +kernel
theorem d_ST_read_98 : decode jM_ST_read.2.1 98 = .ok (.istore 6, 2) := by decide +kernel
theorem d_ST_read_100 : decode jM_ST_read.2.1 100 = .ok (.iload 6, 2) := by decide +kernel
theorem d_ST_read_102 : decode jM_ST_read.2.1 102 = .ok (.ifCond .eq 23, 3) := by decide +kernel
theorem d_ST_read_105 : decode jM_ST_read.2.1 105 = .ok (.aload_n 0, 1) := by decide +kernel
theorem d_ST_read_106 : decode jM_ST_read.2.1 106 = .ok (.getfield 58, 3) := by decide +kernel
theorem d_ST_read_109 : decode jM_ST_read.2.1 109 = .ok (.getfield 114, 3) := by decide +kernel
theorem d_ST_read_112 : decode jM_ST_read.2.1 112 = .ok (.bipush 40, 2) := by decide +kernel
theorem d_ST_read_114 : decode jM_ST_read.2.1 114 = .ok (.if_icmp .gt 11, 3) := by decide +kernel
theorem d_ST_read_117 : decode jM_ST_read.2.1 117 = .ok (.aload_n 0, 1) := by decide +kernel
theorem d_ST_read_118 : decode jM_ST_read.2.1 118 = .ok (.getfield 58, 3) := by decide +kernel
theorem d_ST_read_121 : decode jM_ST_read.2.1 121 = .ok (.getfield 114, 3) := by decide +kernel
theorem d_ST_read_124 : decode jM_ST_read.2.1 124 = .ok (.ireturn, 1) := by decide +kernel
theorem d_ST_read_125 : decode jM_ST_read.2.1 125 = .ok (.aload_n 0, 1) := by decide +kernel
theorem d_ST_read_126 : decode jM_ST_read.2.1 126 = .ok (.getfield 58, 3) := by decide +kernel
theorem d_ST_read_129 : decode jM_ST_read.2.1 129 = .ok (.invokevirtual 128, 3) := by decide +kernel
theorem d_ST_read_132 : decode jM_ST_read.2.1 132 = .ok (.iload 6, 2) := by decide +kernel
theorem d_ST_read_134 : decode jM_ST_read.2.1 134 = .ok (.ifCond .eq 8, 3) := by decide +kernel
theorem d_ST_read_137 : decode jM_ST_read.2.1 137 = .ok (.bipush (-3), 2) := by decide +kernel
theorem d_ST_read_139 : decode jM_ST_read.2.1 139 = .ok (.goto 5, 3) := by decide +kernel
theorem d_ST_read_142 : decode jM_ST_read.2.1 142 = .ok (.bipush (-2), 2) := by decide +kernel
theorem d_ST_read_144 : decode jM_ST_read.2.1 144 = .ok (.ireturn, 1) := by decide +kernel
theorem d_ST_number_0 : decode jM_ST_number.2.1 0 = .ok (.aload_n 0, 1) := by decide +kernel
theorem d_ST_number_1 : decode jM_ST_number.2.1 1 = .ok (.getfield 58, 3) := by decide +kernel
theorem d_ST_number_4 : decode jM_ST_number.2.1 4 = .ok (.iload_n 1, 1) := by decide +kernel
theorem d_ST_number_5 : decode jM_ST_number.2.1 5 = .ok (.invokevirtual 176, 3) := by decide +kernel
theorem d_ST_number_8 : decode jM_ST_number.2.1 8 = .ok (.lreturn, 1) := by decide +kernel
theorem d_ST_records_0 : decode jM_ST_records.2.1 0 = .ok (.iload_n 1, 1) := by decide +kernel
theorem d_ST_records_1 : decode jM_ST_records.2.1 1 = .ok (.invokestatic 83, 3) := by decide +kernel
theorem d_ST_records_4 : decode jM_ST_records.2.1 4 = .ok (.ifCond .eq 24, 3) := by decide +kernel
theorem d_ST_records_7 : decode jM_ST_records.2.1 7 = .ok (.aload_n 0, 1) := by decide +kernel
theorem d_ST_records_8 : decode jM_ST_records.2.1 8 = .ok (.getfield 19, 3) := by decide +kernel
theorem d_ST_records_11 : decode jM_ST_records.2.1 11 = .ok (.getfield 79, 3) := by decide +kernel
theorem d_ST_records_14 : decode jM_ST_records.2.1 14 = .ok (.ifCond .eq 14, 3) := by decide +kernel
theorem d_ST_records_17 : decode jM_ST_records.2.1 17 = .ok (.aload_n 0, 1) := by decide +kernel
theorem d_ST_records_18 : decode jM_ST_records.2.1 18 = .ok (.getfield 35, 3) := by decide +kernel
theorem d_ST_records_21 : decode jM_ST_records.2.1 21 = .ok (.iload_n 1, 1) := by decide +kernel
theorem d_ST_records_22 : decode jM_ST_records.2.1 22 = .ok (.invokevirtual 149, 3) := by decide +kernel
theorem d_ST_records_25 : decode jM_ST_records.2.1 25 = .ok (.goto 4, 3) := by decide +kernel
theorem d_ST_records_28 : decode jM_ST_records.2.1 28 = .ok (.iconst (-1), 1) := by decide +kernel
theorem d_ST_records_29 : decode jM_ST_records.2.1 29 = .ok (.ireturn, 1) := by decide +kernel
theorem d_Manifest_filesOf_0 : decode jM_Manifest_filesOf.2.1 0 = .ok (.aload_n 0, 1) := by decide +kernel
theorem d_Manifest_filesOf_1 : decode jM_Manifest_filesOf.2.1 1 = .ok (.invokevirtual 29, 3) := by decide +kernel
theorem d_Manifest_filesOf_4 : decode jM_Manifest_filesOf.2.1 4 = .ok (.istore_n 2, 1) := by decide +kernel
theorem d_Manifest_filesOf_5 : decode jM_Manifest_filesOf.2.1 5 = .ok (.iconst 0, 1) := by decide +kernel
theorem d_Manifest_filesOf_6 : decode jM_Manifest_filesOf.2.1 6 = .ok (.istore_n 3, 1) := by decide +kernel
theorem d_Manifest_filesOf_7 : decode jM_Manifest_filesOf.2.1 7 = .ok (.iconst 0, 1) := by decide +kernel
theorem d_Manifest_filesOf_8 : decode jM_Manifest_filesOf.2.1 8 = .ok (.istore 4, 2) := by decide +kernel
theorem d_Manifest_filesOf_10 : decode jM_Manifest_filesOf.2.1 10 = .ok (.iload 4, 2) := by decide +kernel
theorem d_Manifest_filesOf_12 : decode jM_Manifest_filesOf.2.1 12 = .ok (.iload_n 2, 1) := by decide +kernel
theorem d_Manifest_filesOf_13 : decode jM_Manifest_filesOf.2.1 13 = .ok (.if_icmp .ge 22, 3) := by decide +kernel
theorem d_Manifest_filesOf_16 : decode jM_Manifest_filesOf.2.1 16 = .ok (.aload_n 0, 1) := by decide +kernel
theorem d_Manifest_filesOf_17 : decode jM_Manifest_filesOf.2.1 17 = .ok (.iload 4, 2) := by decide +kernel
theorem d_Manifest_filesOf_19 : decode jM_Manifest_filesOf.2.1 19 = .ok (.invokevirtual 33, 3) := by decide +kernel
theorem d_Manifest_filesOf_22 : decode jM_Manifest_filesOf.2.1 22 = .ok (.iload_n 1, 1) := by decide +kernel
theorem d_Manifest_filesOf_23 : decode jM_Manifest_filesOf.2.1 23 = .ok (.if_icmp .ne 6, 3) := by decide +kernel
theorem d_Manifest_filesOf_26 : decode jM_Manifest_filesOf.2.1 26 = .ok (.iinc 3 1, 3) := by decide +kernel
theorem d_Manifest_filesOf_29 : decode jM_Manifest_filesOf.2.1 29 = .ok (.iinc 4 1, 3) := by decide +kernel
theorem d_Manifest_filesOf_32 : decode jM_Manifest_filesOf.2.1 32 = .ok (.goto (-22), 3) := by decide +kernel
theorem d_Manifest_filesOf_35 : decode jM_Manifest_filesOf.2.1 35 = .ok (.iload_n 3, 1) := by decide +kernel
theorem d_Manifest_filesOf_36 : decode jM_Manifest_filesOf.2.1 36 = .ok (.ireturn, 1) := by decide +kernel
theorem d_ST_files_0 : decode jM_ST_files.2.1 0 = .ok (.iload_n 1, 1) := by decide +kernel
theorem d_ST_files_1 : decode jM_ST_files.2.1 1 = .ok (.invokestatic 83, 3) := by decide +kernel
theorem d_ST_files_4 : decode jM_ST_files.2.1 4 = .ok (.ifCond .eq 24, 3) := by decide +kernel
theorem d_ST_files_7 : decode jM_ST_files.2.1 7 = .ok (.aload_n 0, 1) := by decide +kernel
theorem d_ST_files_8 : decode jM_ST_files.2.1 8 = .ok (.getfield 19, 3) := by decide +kernel
theorem d_ST_files_11 : decode jM_ST_files.2.1 11 = .ok (.getfield 79, 3) := by decide +kernel
theorem d_ST_files_14 : decode jM_ST_files.2.1 14 = .ok (.ifCond .eq 14, 3) := by decide +kernel
theorem d_ST_files_17 : decode jM_ST_files.2.1 17 = .ok (.aload_n 0, 1) := by decide +kernel
theorem d_ST_files_18 : decode jM_ST_files.2.1 18 = .ok (.getfield 35, 3) := by decide +kernel
theorem d_ST_files_21 : decode jM_ST_files.2.1 21 = .ok (.iload_n 1, 1) := by decide +kernel
theorem d_ST_files_22 : decode jM_ST_files.2.1 22 = .ok (.invokevirtual 180, 3) := by decide +kernel
theorem d_ST_files_25 : decode jM_ST_files.2.1 25 = .ok (.goto 4, 3) := by decide +kernel
theorem d_ST_files_28 : decode jM_ST_files.2.1 28 = .ok (.iconst (-1), 1) := by decide +kernel
theorem d_ST_files_29 : decode jM_ST_files.2.1 29 = .ok (.ireturn, 1) := by decide +kernel
theorem d_ST_octet_0 : decode jM_ST_octet.2.1 0 = .ok (.iload_n 1, 1) := by decide +kernel
theorem d_ST_octet_1 : decode jM_ST_octet.2.1 1 = .ok (.ifCond .lt 19, 3) := by decide +kernel
theorem d_ST_octet_4 : decode jM_ST_octet.2.1 4 = .ok (.iload_n 1, 1) := by decide +kernel
theorem d_ST_octet_5 : decode jM_ST_octet.2.1 5 = .ok (.bipush 40, 2) := by decide +kernel
theorem d_ST_octet_7 : decode jM_ST_octet.2.1 7 = .ok (.if_icmp .ge 13, 3) := by decide +kernel
theorem d_ST_octet_10 : decode jM_ST_octet.2.1 10 = .ok (.iload_n 2, 1) := by decide +kernel
theorem d_ST_octet_11 : decode jM_ST_octet.2.1 11 = .ok (.ifCond .lt 9, 3) := by decide +kernel
theorem d_ST_octet_14 : decode jM_ST_octet.2.1 14 = .ok (.iload_n 2, 1) := by decide +kernel
theorem d_ST_octet_15 : decode jM_ST_octet.2.1 15 = .ok (.bipush 32, 2) := by decide +kernel
theorem d_ST_octet_17 : decode jM_ST_octet.2.1 17 = .ok (.if_icmp .lt 5, 3) := by decide +kernel
theorem d_ST_octet_20 : decode jM_ST_octet.2.1 20 = .ok (.iconst (-1), 1) := by decide +kernel
theorem d_ST_octet_21 : decode jM_ST_octet.2.1 21 = .ok (.ireturn, 1) := by decide +kernel
theorem d_ST_octet_22 : decode jM_ST_octet.2.1 22 = .ok (.aload_n 0, 1) := by decide +kernel
theorem d_ST_octet_23 : decode jM_ST_octet.2.1 23 = .ok (.getfield 19, 3) := by decide +kernel
theorem d_ST_octet_26 : decode jM_ST_octet.2.1 26 = .ok (.iload_n 1, 1) := by decide +kernel
theorem d_ST_octet_27 : decode jM_ST_octet.2.1 27 = .ok (.invokestatic 183, 3) := by decide +kernel
theorem d_ST_octet_30 : decode jM_ST_octet.2.1 30 = .ok (.iload_n 2, 1) := by decide +kernel
theorem d_ST_octet_31 : decode jM_ST_octet.2.1 31 = .ok (.iadd, 1) := by decide +kernel
theorem d_ST_octet_32 : decode jM_ST_octet.2.1 32 = .ok (.invokevirtual 186, 3) := by decide +kernel
theorem d_ST_octet_35 : decode jM_ST_octet.2.1 35 = .ok (.ireturn, 1) := by decide +kernel
theorem d_ST_limit_0 : decode jM_ST_limit.2.1 0 = .ok (.aload_n 0, 1) := by decide +kernel
theorem d_ST_limit_1 : decode jM_ST_limit.2.1 1 = .ok (.getfield 19, 3) := by decide +kernel
theorem d_ST_limit_4 : decode jM_ST_limit.2.1 4 = .ok (.getfield 79, 3) := by decide +kernel
theorem d_ST_limit_7 : decode jM_ST_limit.2.1 7 = .ok (.ifCond .ne 6, 3) := by decide +kernel
theorem d_ST_limit_10 : decode jM_ST_limit.2.1 10 = .ok (.bipush (-4), 2) := by decide +kernel
theorem d_ST_limit_12 : decode jM_ST_limit.2.1 12 = .ok (.ireturn, 1) := by decide +kernel
theorem d_ST_limit_13 : decode jM_ST_limit.2.1 13 = .ok (.iload_n 1, 1) := by decide +kernel
theorem d_ST_limit_14 : decode jM_ST_limit.2.1 14 = .ok (.ifCond .ge 5, 3) := by decide +kernel
theorem d_ST_limit_17 : decode jM_ST_limit.2.1 17 = .ok (.iconst (-1), 1) := by decide +kernel
theorem d_ST_limit_18 : decode jM_ST_limit.2.1 18 = .ok (.ireturn, 1) := by decide +kernel
theorem d_ST_limit_19 : decode jM_ST_limit.2.1 19 = .ok (.aload_n 0, 1) := by decide +kernel
theorem d_ST_limit_20 : decode jM_ST_limit.2.1 20 = .ok (.getfield 19, 3) := by decide +kernel
theorem d_ST_limit_23 : decode jM_ST_limit.2.1 23 = .ok (.iload_n 1, 1) := by decide +kernel
theorem d_ST_limit_24 : decode jM_ST_limit.2.1 24 = .ok (.putfield 188, 3) := by decide +kernel
theorem d_ST_limit_27 : decode jM_ST_limit.2.1 27 = .ok (.iconst 0, 1) := by decide +kernel
theorem d_ST_limit_28 : decode jM_ST_limit.2.1 28 = .ok (.ireturn, 1) := by decide +kernel
theorem d_ST_restart_0 : decode jM_ST_restart.2.1 0 = .ok (.aload_n 0, 1) := by decide +kernel
theorem d_ST_restart_1 : decode jM_ST_restart.2.1 1 = .ok (.getfield 19, 3) := by decide +kernel
theorem d_ST_restart_4 : decode jM_ST_restart.2.1 4 = .ok (.getfield 79, 3) := by decide +kernel
theorem d_ST_restart_7 : decode jM_ST_restart.2.1 7 = .ok (.ifCond .ne 7, 3) := by decide +kernel
theorem d_ST_restart_10 : decode jM_ST_restart.2.1 10 = .ok (.iconst 1, 1) := by decide +kernel
theorem d_ST_restart_11 : decode jM_ST_restart.2.1 11 = .ok (.goto 4, 3) := by decide +kernel
theorem d_ST_restart_14 : decode jM_ST_restart.2.1 14 = .ok (.iconst 0, 1) := by decide +kernel
theorem d_ST_restart_15 : decode jM_ST_restart.2.1 15 = .ok (.istore_n 1, 1) := by decide +kernel
theorem d_ST_restart_16 : decode jM_ST_restart.2.1 16 = .ok (.aload_n 0, 1) := by decide +kernel
theorem d_ST_restart_17 : decode jM_ST_restart.2.1 17 = .ok (.getfield 19, 3) := by decide +kernel
theorem d_ST_restart_20 : decode jM_ST_restart.2.1 20 = .ok (.iconst 1, 1) := by decide +kernel
theorem d_ST_restart_21 : decode jM_ST_restart.2.1 21 = .ok (.putfield 79, 3) := by decide +kernel
theorem d_ST_restart_24 : decode jM_ST_restart.2.1 24 = .ok (.iload_n 1, 1) := by decide +kernel
theorem d_ST_restart_25 : decode jM_ST_restart.2.1 25 = .ok (.ireturn, 1) := by decide +kernel
theorem d_ST_writes_0 : decode jM_ST_writes.2.1 0 = .ok (.aload_n 0, 1) := by decide +kernel
theorem d_ST_writes_1 : decode jM_ST_writes.2.1 1 = .ok (.getfield 19, 3) := by decide +kernel
theorem d_ST_writes_4 : decode jM_ST_writes.2.1 4 = .ok (.getfield 191, 3) := by decide +kernel
theorem d_ST_writes_7 : decode jM_ST_writes.2.1 7 = .ok (.ireturn, 1) := by decide +kernel
theorem d_Mo_init_0 : decode jM_Mo_init.2.1 0 = .ok (.aload_n 0, 1) := by decide +kernel
theorem d_Mo_init_1 : decode jM_Mo_init.2.1 1 = .ok (.invokespecial 1, 3) := by decide +kernel
theorem d_Mo_init_4 : decode jM_Mo_init.2.1 4 = .ok (.aload_n 0, 1) := by decide +kernel
theorem d_Mo_init_5 : decode jM_Mo_init.2.1 5 = .ok (.bipush 24, 2) := by decide +kernel
theorem d_Mo_init_7 : decode jM_Mo_init.2.1 7 = .ok (.newarray .int, 2) := by decide +kernel
theorem d_Mo_init_9 : decode jM_Mo_init.2.1 9 = .ok (.putfield 7, 3) := by decide +kernel
theorem d_Mo_init_12 : decode jM_Mo_init.2.1 12 = .ok (.aload_n 0, 1) := by decide +kernel
theorem d_Mo_init_13 : decode jM_Mo_init.2.1 13 = .ok (.bipush 24, 2) := by decide +kernel
theorem d_Mo_init_15 : decode jM_Mo_init.2.1 15 = .ok (.newarray .int, 2) := by decide +kernel
theorem d_Mo_init_17 : decode jM_Mo_init.2.1 17 = .ok (.putfield 13, 3) := by decide +kernel
theorem d_Mo_init_20 : decode jM_Mo_init.2.1 20 = .ok (.aload_n 0, 1) := by decide +kernel
theorem d_Mo_init_21 : decode jM_Mo_init.2.1 21 = .ok (.bipush 24, 2) := by decide +kernel
theorem d_Mo_init_23 : decode jM_Mo_init.2.1 23 = .ok (.newarray .int, 2) := by decide +kernel
theorem d_Mo_init_25 : decode jM_Mo_init.2.1 25 = .ok (.putfield 16, 3) := by decide +kernel
theorem d_Mo_init_28 : decode jM_Mo_init.2.1 28 = .ok (.aload_n 0, 1) := by decide +kernel
theorem d_Mo_init_29 : decode jM_Mo_init.2.1 29 = .ok (.bipush 24, 2) := by decide +kernel
theorem d_Mo_init_31 : decode jM_Mo_init.2.1 31 = .ok (.newarray .int, 2) := by decide +kernel
theorem d_Mo_init_33 : decode jM_Mo_init.2.1 33 = .ok (.putfield 19, 3) := by decide +kernel
theorem d_Mo_init_36 : decode jM_Mo_init.2.1 36 = .ok (.aload_n 0, 1) := by decide +kernel
theorem d_Mo_init_37 : decode jM_Mo_init.2.1 37 = .ok (.bipush 24, 2) := by decide +kernel
theorem d_Mo_init_39 : decode jM_Mo_init.2.1 39 = .ok (.newarray .int, 2) := by decide +kernel
theorem d_Mo_init_41 : decode jM_Mo_init.2.1 41 = .ok (.putfield 22, 3) := by decide +kernel
theorem d_Mo_init_44 : decode jM_Mo_init.2.1 44 = .ok (.aload_n 0, 1) := by decide +kernel
theorem d_Mo_init_45 : decode jM_Mo_init.2.1 45 = .ok (.bipush 24, 2) := by decide +kernel
theorem d_Mo_init_47 : decode jM_Mo_init.2.1 47 = .ok (.newarray .int, 2) := by decide +kernel
theorem d_Mo_init_49 : decode jM_Mo_init.2.1 49 = .ok (.putfield 25, 3) := by decide +kernel
theorem d_Mo_init_52 : decode jM_Mo_init.2.1 52 = .ok (.aload_n 0, 1) := by decide +kernel
theorem d_Mo_init_53 : decode jM_Mo_init.2.1 53 = .ok (.bipush 75, 2) := by decide +kernel
theorem d_Mo_init_55 : decode jM_Mo_init.2.1 55 = .ok (.newarray .int, 2) := by decide +kernel
theorem d_Mo_init_57 : decode jM_Mo_init.2.1 57 = .ok (.putfield 28, 3) := by decide +kernel
theorem d_Mo_init_60 : decode jM_Mo_init.2.1 60 = .ok (.aload_n 0, 1) := by decide +kernel
theorem d_Mo_init_61 : decode jM_Mo_init.2.1 61 = .ok (.bipush 75, 2) := by decide +kernel
theorem d_Mo_init_63 : decode jM_Mo_init.2.1 63 = .ok (.newarray .int, 2) := by decide +kernel
theorem d_Mo_init_65 : decode jM_Mo_init.2.1 65 = .ok (.putfield 31, 3) := by decide +kernel
theorem d_Mo_init_68 : decode jM_Mo_init.2.1 68 = .ok (.aload_n 0, 1) := by decide +kernel
theorem d_Mo_init_69 : decode jM_Mo_init.2.1 69 = .ok (.bipush 75, 2) := by decide +kernel
theorem d_Mo_init_71 : decode jM_Mo_init.2.1 71 = .ok (.newarray .boolean, 2) := by decide +kernel
theorem d_Mo_init_73 : decode jM_Mo_init.2.1 73 = .ok (.putfield 34, 3) := by decide +kernel
theorem d_Mo_init_76 : decode jM_Mo_init.2.1 76 = .ok (.aload_n 0, 1) := by decide +kernel
theorem d_Mo_init_77 : decode jM_Mo_init.2.1 77 = .ok (.bipush 75, 2) := by decide +kernel
theorem d_Mo_init_79 : decode jM_Mo_init.2.1 79 = .ok (.newarray .long, 2) := by decide +kernel
theorem d_Mo_init_81 : decode jM_Mo_init.2.1 81 = .ok (.putfield 38, 3) := by decide +kernel
theorem d_Mo_init_84 : decode jM_Mo_init.2.1 84 = .ok (.aload_n 0, 1) := by decide +kernel
theorem d_Mo_init_85 : decode jM_Mo_init.2.1 85 = .ok (.sipush 576, 3) := by decide +kernel
theorem d_Mo_init_88 : decode jM_Mo_init.2.1 88 = .ok (.newarray .boolean, 2) := by decide +kernel
theorem d_Mo_init_90 : decode jM_Mo_init.2.1 90 = .ok (.putfield 42, 3) := by decide +kernel
theorem d_Mo_init_93 : decode jM_Mo_init.2.1 93 = .ok (.aload_n 0, 1) := by decide +kernel
theorem d_Mo_init_94 : decode jM_Mo_init.2.1 94 = .ok (.sipush 576, 3) := by decide +kernel
theorem d_Mo_init_97 : decode jM_Mo_init.2.1 97 = .ok (.newarray .boolean, 2) := by decide +kernel
theorem d_Mo_init_99 : decode jM_Mo_init.2.1 99 = .ok (.putfield 45, 3) := by decide +kernel
theorem d_Mo_init_102 : decode jM_Mo_init.2.1 102 = .ok (.aload_n 0, 1) := by decide +kernel
theorem d_Mo_init_103 : decode jM_Mo_init.2.1 103 = .ok (.sipush 1280, 3) := by decide +kernel
theorem d_Mo_init_106 : decode jM_Mo_init.2.1 106 = .ok (.newarray .int, 2) := by decide +kernel
theorem d_Mo_init_108 : decode jM_Mo_init.2.1 108 = .ok (.putfield 48, 3) := by decide +kernel
theorem d_Mo_init_111 : decode jM_Mo_init.2.1 111 = .ok (.aload_n 0, 1) := by decide +kernel
theorem d_Mo_init_112 : decode jM_Mo_init.2.1 112 = .ok (.bipush 24, 2) := by decide +kernel
theorem d_Mo_init_114 : decode jM_Mo_init.2.1 114 = .ok (.newarray .long, 2) := by decide +kernel
theorem d_Mo_init_116 : decode jM_Mo_init.2.1 116 = .ok (.putfield 51, 3) := by decide +kernel
theorem d_Mo_init_119 : decode jM_Mo_init.2.1 119 = .ok (.aload_n 0, 1) := by decide +kernel
theorem d_Mo_init_120 : decode jM_Mo_init.2.1 120 = .ok (.sipush 150, 3) := by decide +kernel
theorem d_Mo_init_123 : decode jM_Mo_init.2.1 123 = .ok (.newarray .int, 2) := by decide +kernel
theorem d_Mo_init_125 : decode jM_Mo_init.2.1 125 = .ok (.putfield 54, 3) := by decide +kernel
theorem d_Mo_init_128 : decode jM_Mo_init.2.1 128 = .ok (.aload_n 0, 1) := by decide +kernel
theorem d_Mo_init_129 : decode jM_Mo_init.2.1 129 = .ok (.bipush 40, 2) := by decide +kernel
theorem d_Mo_init_131 : decode jM_Mo_init.2.1 131 = .ok (.newarray .long, 2) := by decide +kernel
theorem d_Mo_init_133 : decode jM_Mo_init.2.1 133 = .ok (.putfield 57, 3) := by decide +kernel
theorem d_Mo_init_136 : decode jM_Mo_init.2.1 136 = .ok (.aload_n 0, 1) := by decide +kernel
theorem d_Mo_init_137 : decode jM_Mo_init.2.1 137 = .ok (.sipush 320, 3) := by decide +kernel
theorem d_Mo_init_140 : decode jM_Mo_init.2.1 140 = .ok (.newarray .int, 2) := by decide +kernel
theorem d_Mo_init_142 : decode jM_Mo_init.2.1 142 = .ok (.putfield 60, 3) := by decide +kernel
theorem d_Mo_init_145 : decode jM_Mo_init.2.1 145 = .ok (.aload_n 0, 1) := by decide +kernel
theorem d_Mo_init_146 : decode jM_Mo_init.2.1 146 = .ok (.bipush 32, 2) := by decide +kernel
theorem d_Mo_init_148 : decode jM_Mo_init.2.1 148 = .ok (.newarray .int, 2) := by decide +kernel
theorem d_Mo_init_150 : decode jM_Mo_init.2.1 150 = .ok (.putfield 63, 3) := by decide +kernel
theorem d_Mo_init_153 : decode jM_Mo_init.2.1 153 = .ok (.aload_n 0, 1) := by decide +kernel
theorem d_Mo_init_154 : decode jM_Mo_init.2.1 154 = .ok (.bipush 24, 2) := by decide +kernel
theorem d_Mo_init_156 : decode jM_Mo_init.2.1 156 = .ok (.newarray .long, 2) := by decide +kernel
theorem d_Mo_init_158 : decode jM_Mo_init.2.1 158 = .ok (.putfield 66, 3) := by decide +kernel
theorem d_Mo_init_161 : decode jM_Mo_init.2.1 161 = .ok (.aload_n 0, 1) := by decide +kernel
theorem d_Mo_init_162 : decode jM_Mo_init.2.1 162 = .ok (.bipush 64, 2) := by decide +kernel
theorem d_Mo_init_164 : decode jM_Mo_init.2.1 164 = .ok (.newarray .int, 2) := by decide +kernel
theorem d_Mo_init_166 : decode jM_Mo_init.2.1 166 = .ok (.putfield 69, 3) := by decide +kernel
theorem d_Mo_init_169 : decode jM_Mo_init.2.1 169 = .ok (.aload_n 0, 1) := by decide +kernel
theorem d_Mo_init_170 : decode jM_Mo_init.2.1 170 = .ok (.sipush 192, 3) := by decide +kernel
theorem d_Mo_init_173 : decode jM_Mo_init.2.1 173 = .ok (.newarray .int, 2) := by decide +kernel
theorem d_Mo_init_175 : decode jM_Mo_init.2.1 175 = .ok (.putfield 72, 3) := by decide +kernel
theorem d_Mo_init_178 : decode jM_Mo_init.2.1 178 = .ok (.return_, 1) := by decide +kernel
theorem d_Mo_noSchema_0 : decode jM_Mo_noSchema.2.1 0 = .ok (.iload_n 1, 1) := by decide +kernel
theorem d_Mo_noSchema_1 : decode jM_Mo_noSchema.2.1 1 = .ok (.ifCond .lt 11, 3) := by decide +kernel
theorem d_Mo_noSchema_4 : decode jM_Mo_noSchema.2.1 4 = .ok (.iload_n 1, 1) := by decide +kernel
theorem d_Mo_noSchema_5 : decode jM_Mo_noSchema.2.1 5 = .ok (.aload_n 0, 1) := by decide +kernel
theorem d_Mo_noSchema_6 : decode jM_Mo_noSchema.2.1 6 = .ok (.getfield 75, 3) := by decide +kernel
theorem d_Mo_noSchema_9 : decode jM_Mo_noSchema.2.1 9 = .ok (.if_icmp .lt 7, 3) := by decide +kernel
theorem d_Mo_noSchema_12 : decode jM_Mo_noSchema.2.1 12 = .ok (.iconst 1, 1) := by decide +kernel
theorem d_Mo_noSchema_13 : decode jM_Mo_noSchema.2.1 13 = .ok (.goto 4, 3) := by decide +kernel
theorem d_Mo_noSchema_16 : decode jM_Mo_noSchema.2.1 16 = .ok (.iconst 0, 1) := by decide +kernel
theorem d_Mo_noSchema_17 : decode jM_Mo_noSchema.2.1 17 = .ok (.ireturn, 1) := by decide +kernel
theorem d_Mo_noName_0 : decode jM_Mo_noName.2.1 0 = .ok (.iload_n 0, 1) := by decide +kernel
theorem d_Mo_noName_1 : decode jM_Mo_noName.2.1 1 = .ok (.ifCond .lt 9, 3) := by decide +kernel
theorem d_Mo_noName_4 : decode jM_Mo_noName.2.1 4 = .ok (.iload_n 0, 1) := by decide +kernel
theorem d_Mo_noName_5 : decode jM_Mo_noName.2.1 5 = .ok (.bipush 7, 2) := by decide +kernel
theorem d_Mo_noName_7 : decode jM_Mo_noName.2.1 7 = .ok (.if_icmp .le 7, 3) := by decide +kernel
theorem d_Mo_noName_10 : decode jM_Mo_noName.2.1 10 = .ok (.iconst 1, 1) := by decide +kernel
theorem d_Mo_noName_11 : decode jM_Mo_noName.2.1 11 = .ok (.goto 4, 3) := by decide +kernel
theorem d_Mo_noName_14 : decode jM_Mo_noName.2.1 14 = .ok (.iconst 0, 1) := by decide +kernel
theorem d_Mo_noName_15 : decode jM_Mo_noName.2.1 15 = .ok (.ireturn, 1) := by decide +kernel
theorem d_Mo_scalar_0 : decode jM_Mo_scalar.2.1 0 = .ok (.aload_n 0, 1) := by decide +kernel
theorem d_Mo_scalar_1 : decode jM_Mo_scalar.2.1 1 = .ok (.getfield 7, 3) := by decide +kernel
theorem d_Mo_scalar_4 : decode jM_Mo_scalar.2.1 4 = .ok (.iload_n 1, 1) := by decide +kernel
theorem d_Mo_scalar_5 : decode jM_Mo_scalar.2.1 5 = .ok (.iaload, 1) := by decide +kernel
theorem d_Mo_scalar_6 : decode jM_Mo_scalar.2.1 6 = .ok (.istore 4, 2) := by decide +kernel
theorem d_Mo_scalar_8 : decode jM_Mo_scalar.2.1 8 = .ok (.iload 4, 2) := by decide +kernel
theorem d_Mo_scalar_10 : decode jM_Mo_scalar.2.1 10 = .ok (.iconst 1, 1) := by decide +kernel
theorem d_Mo_scalar_11 : decode jM_Mo_scalar.2.1 11 = .ok (.if_icmp .ne 21, 3) := by decide +kernel
theorem d_Mo_scalar_14 : decode jM_Mo_scalar.2.1 14 = .ok (.lload_n 2, 1) := by decide +kernel
theorem d_Mo_scalar_15 : decode jM_Mo_scalar.2.1 15 = .ok (.lconst 0, 1) := by decide +kernel
theorem d_Mo_scalar_16 : decode jM_Mo_scalar.2.1 16 = .ok (.lcmp, 1) := by decide +kernel
theorem d_Mo_scalar_17 : decode jM_Mo_scalar.2.1 17 = .ok (.ifCond .eq 9, 3) := by decide +kernel
theorem d_Mo_scalar_20 : decode jM_Mo_scalar.2.1 20 = .ok (.lload_n 2, 1) := by decide +kernel
theorem d_Mo_scalar_21 : decode jM_Mo_scalar.2.1 21 = .ok (.lconst 1, 1) := by decide +kernel
theorem d_Mo_scalar_22 : decode jM_Mo_scalar.2.1 22 = .ok (.lcmp, 1) := by decide +kernel
theorem d_Mo_scalar_23 : decode jM_Mo_scalar.2.1 23 = .ok (.ifCond .ne 7, 3) := by decide +kernel
theorem d_Mo_scalar_26 : decode jM_Mo_scalar.2.1 26 = .ok (.iconst 1, 1) := by decide +kernel
theorem d_Mo_scalar_27 : decode jM_Mo_scalar.2.1 27 = .ok (.goto 4, 3) := by decide +kernel
theorem d_Mo_scalar_30 : decode jM_Mo_scalar.2.1 30 = .ok (.iconst 0, 1) := by decide +kernel
theorem d_Mo_scalar_31 : decode jM_Mo_scalar.2.1 31 = .ok (.ireturn, 1) := by decide +kernel
theorem d_Mo_scalar_32 : decode jM_Mo_scalar.2.1 32 = .ok (.iload 4, 2) := by decide +kernel
theorem d_Mo_scalar_34 : decode jM_Mo_scalar.2.1 34 = .ok (.iconst 2, 1) := by decide +kernel
theorem d_Mo_scalar_35 : decode jM_Mo_scalar.2.1 35 = .ok (.if_icmp .ne 17, 3) := by decide +kernel
theorem d_Mo_scalar_38 : decode jM_Mo_scalar.2.1 38 = .ok (.lload_n 2, 1) := by decide +kernel
theorem d_Mo_scalar_39 : decode jM_Mo_scalar.2.1 39 = .ok (.lload_n 2, 1) := by decide +kernel
theorem d_Mo_scalar_40 : decode jM_Mo_scalar.2.1 40 = .ok (.l2i, 1) := by decide +kernel
theorem d_Mo_scalar_41 : decode jM_Mo_scalar.2.1 41 = .ok (.i2l, 1) := by decide +kernel
theorem d_Mo_scalar_42 : decode jM_Mo_scalar.2.1 42 = .ok (.lcmp, 1) := by decide +kernel
theorem d_Mo_scalar_43 : decode jM_Mo_scalar.2.1 43 = .ok (.ifCond .ne 7, 3) := by decide +kernel
theorem d_Mo_scalar_46 : decode jM_Mo_scalar.2.1 46 = .ok (.iconst 1, 1) := by decide +kernel
theorem d_Mo_scalar_47 : decode jM_Mo_scalar.2.1 47 = .ok (.goto 4, 3) := by decide +kernel
theorem d_Mo_scalar_50 : decode jM_Mo_scalar.2.1 50 = .ok (.iconst 0, 1) := by decide +kernel
theorem d_Mo_scalar_51 : decode jM_Mo_scalar.2.1 51 = .ok (.ireturn, 1) := by decide +kernel
theorem d_Mo_scalar_52 : decode jM_Mo_scalar.2.1 52 = .ok (.iload 4, 2) := by decide +kernel
theorem d_Mo_scalar_54 : decode jM_Mo_scalar.2.1 54 = .ok (.iconst 4, 1) := by decide +kernel
theorem d_Mo_scalar_55 : decode jM_Mo_scalar.2.1 55 = .ok (.if_icmp .ne 38, 3) := by decide +kernel
theorem d_Mo_scalar_58 : decode jM_Mo_scalar.2.1 58 = .ok (.lload_n 2, 1) := by decide +kernel
theorem d_Mo_scalar_59 : decode jM_Mo_scalar.2.1 59 = .ok (.lconst 0, 1) := by decide +kernel
theorem d_Mo_scalar_60 : decode jM_Mo_scalar.2.1 60 = .ok (.lcmp, 1) := by decide +kernel
theorem d_Mo_scalar_61 : decode jM_Mo_scalar.2.1 61 = .ok (.ifCond .lt 30, 3) := by decide +kernel
theorem d_Mo_scalar_64 : decode jM_Mo_scalar.2.1 64 = .ok (.lload_n 2, 1) := by decide +kernel
theorem d_Mo_scalar_65 : decode jM_Mo_scalar.2.1 65 = .ok (.ldc2_w 83, 3) := by decide +kernel
theorem d_Mo_scalar_68 : decode jM_Mo_scalar.2.1 68 = .ok (.lcmp, 1) := by decide +kernel
theorem d_Mo_scalar_69 : decode jM_Mo_scalar.2.1 69 = .ok (.ifCond .gt 22, 3) := by decide +kernel
theorem d_Mo_scalar_72 : decode jM_Mo_scalar.2.1 72 = .ok (.aload_n 0, 1) := by decide +kernel
theorem d_Mo_scalar_73 : decode jM_Mo_scalar.2.1 73 = .ok (.getfield 16, 3) := by decide +kernel
theorem d_Mo_scalar_76 : decode jM_Mo_scalar.2.1 76 = .ok (.iload_n 1, 1) := by decide +kernel
theorem d_Mo_scalar_77 : decode jM_Mo_scalar.2.1 77 = .ok (.iaload, 1) := by decide +kernel
theorem d_Mo_scalar_78 : decode jM_Mo_scalar.2.1 78 = .ok (.lload_n 2, 1) := by decide +kernel
theorem d_Mo_scalar_79 : decode jM_Mo_scalar.2.1 79 = .ok (.l2i, 1) := by decide +kernel
theorem d_Mo_scalar_80 : decode jM_Mo_scalar.2.1 80 = .ok (.ishr, 1) := by decide +kernel
theorem d_Mo_scalar_81 : decode jM_Mo_scalar.2.1 81 = .ok (.iconst 1, 1) := by decide +kernel
theorem d_Mo_scalar_82 : decode jM_Mo_scalar.2.1 82 = .ok (.iand, 1) := by decide +kernel
theorem d_Mo_scalar_83 : decode jM_Mo_scalar.2.1 83 = .ok (.iconst 1, 1) := by decide +kernel
theorem d_Mo_scalar_84 : decode jM_Mo_scalar.2.1 84 = .ok (.if_icmp .ne 7, 3) := by decide +kernel
theorem d_Mo_scalar_87 : decode jM_Mo_scalar.2.1 87 = .ok (.iconst 1, 1) := by decide +kernel
theorem d_Mo_scalar_88 : decode jM_Mo_scalar.2.1 88 = .ok (.goto 4, 3) := by decide +kernel
theorem d_Mo_scalar_91 : decode jM_Mo_scalar.2.1 91 = .ok (.iconst 0, 1) := by decide +kernel
theorem d_Mo_scalar_92 : decode jM_Mo_scalar.2.1 92 = .ok (.ireturn, 1) := by decide +kernel
theorem d_Mo_scalar_93 : decode jM_Mo_scalar.2.1 93 = .ok (.iconst 1, 1) := by decide +kernel
theorem d_Mo_scalar_94 : decode jM_Mo_scalar.2.1 94 = .ok (.ireturn, 1) := by decide +kernel
theorem d_Mo_isDefault_0 : decode jM_Mo_isDefault.2.1 0 = .ok (.aload_n 0, 1) := by decide +kernel
theorem d_Mo_isDefault_1 : decode jM_Mo_isDefault.2.1 1 = .ok (.getfield 7, 3) := by decide +kernel
theorem d_Mo_isDefault_4 : decode jM_Mo_isDefault.2.1 4 = .ok (.iload_n 1, 1) := by decide +kernel
theorem d_Mo_isDefault_5 : decode jM_Mo_isDefault.2.1 5 = .ok (.iaload, 1) := by decide +kernel
theorem d_Mo_isDefault_6 : decode jM_Mo_isDefault.2.1 6 = .ok (.bipush 6, 2) := by decide +kernel
theorem d_Mo_isDefault_8 : decode jM_Mo_isDefault.2.1 8 = .ok (.if_icmp .ne 12, 3) := by decide +kernel
theorem d_Mo_isDefault_11 : decode jM_Mo_isDefault.2.1 11 = .ok (.aload_n 0, 1) := by decide +kernel
theorem d_Mo_isDefault_12 : decode jM_Mo_isDefault.2.1 12 = .ok (.getfield 16, 3) := by decide +kernel
theorem d_Mo_isDefault_15 : decode jM_Mo_isDefault.2.1 15 = .ok (.iload_n 1, 1) := by decide +kernel
theorem d_Mo_isDefault_16 : decode jM_Mo_isDefault.2.1 16 = .ok (.iaload, 1) := by decide +kernel
theorem d_Mo_isDefault_17 : decode jM_Mo_isDefault.2.1 17 = .ok (.goto 4, 3) := by decide +kernel
theorem d_Mo_isDefault_20 : decode jM_Mo_isDefault.2.1 20 = .ok (.iload_n 1, 1) := by decide +kernel
theorem d_Mo_isDefault_21 : decode jM_Mo_isDefault.2.1 21 = .ok (.istore 4, 2) := by decide +kernel
theorem d_Mo_isDefault_23 : decode jM_Mo_isDefault.2.1 23 = .ok (.aload_n 0, 1) := by decide +kernel
theorem d_Mo_isDefault_24 : decode jM_Mo_isDefault.2.1 24 = .ok (.getfield 7, 3) := by decide +kernel
theorem d_Mo_isDefault_27 : decode jM_Mo_isDefault.2.1 27 = .ok (.iload 4, 2) := by decide +kernel
theorem d_Mo_isDefault_29 : decode jM_Mo_isDefault.2.1 29 = .ok (.iaload, 1) := by decide +kernel
theorem d_Mo_isDefault_30 : decode jM_Mo_isDefault.2.1 30 = .ok (.istore 5, 2) := by decide +kernel
theorem d_Mo_isDefault_32 : decode jM_Mo_isDefault.2.1 32 = .ok (.iload 5, 2) := by decide +kernel
theorem d_Mo_isDefault_34 : decode jM_Mo_isDefault.2.1 34 = .ok (.bipush 7, 2) := by decide +kernel
theorem d_Mo_isDefault_36 : decode jM_Mo_isDefault.2.1 36 = .ok (.if_icmp .ne 5, 3) := by decide +kernel
theorem d_Mo_isDefault_39 : decode jM_Mo_isDefault.2.1 39 = .ok (.iconst 0, 1) := by decide +kernel
theorem d_Mo_isDefault_40 : decode jM_Mo_isDefault.2.1 40 = .ok (.ireturn, 1) := by decide +kernel
theorem d_Mo_isDefault_41 : decode jM_Mo_isDefault.2.1 41 = .ok (.iload 5, 2) := by decide +kernel
theorem d_Mo_isDefault_43 : decode jM_Mo_isDefault.2.1 43 = .ok (.ifCond .eq 9, 3) := by decide +kernel
theorem d_Mo_isDefault_46 : decode jM_Mo_isDefault.2.1 46 = .ok (.iload 5, 2) := by decide +kernel
theorem d_Mo_isDefault_48 : decode jM_Mo_isDefault.2.1 48 = .ok (.iconst 5, 1) := by decide +kernel
theorem d_Mo_isDefault_49 : decode jM_Mo_isDefault.2.1 49 = .ok (.if_icmp .ne 15, 3) := by decide +kernel
theorem d_Mo_isDefault_52 : decode jM_Mo_isDefault.2.1 52 = .ok (.lload_n 2, 1) := by decide +kernel
theorem d_Mo_isDefault_53 : decode jM_Mo_isDefault.2.1 53 = .ok (.lconst 0, 1) := by decide +kernel
theorem d_Mo_isDefault_54 : decode jM_Mo_isDefault.2.1 54 = .ok (.lcmp, 1) := by decide +kernel
theorem d_Mo_isDefault_55 : decode jM_Mo_isDefault.2.1 55 = .ok (.ifCond .ne 7, 3) := by decide +kernel
theorem d_Mo_isDefault_58 : decode jM_Mo_isDefault.2.1 58 = .ok (.iconst 1, 1) := by decide +kernel
theorem d_Mo_isDefault_59 : decode jM_Mo_isDefault.2.1 59 = .ok (.goto 4, 3) := by decide +kernel
theorem d_Mo_isDefault_62 : decode jM_Mo_isDefault.2.1 62 = .ok (.iconst 0, 1) := by decide +kernel
theorem d_Mo_isDefault_63 : decode jM_Mo_isDefault.2.1 63 = .ok (.ireturn, 1) := by decide +kernel
theorem d_Mo_isDefault_64 : decode jM_Mo_isDefault.2.1 64 = .ok (.iload 5, 2) := by decide +kernel
theorem d_Mo_isDefault_66 : decode jM_Mo_isDefault.2.1 66 = .ok (.iconst 3, 1) := by decide +kernel
theorem d_Mo_isDefault_67 : decode jM_Mo_isDefault.2.1 67 = .ok (.if_icmp .eq 13, 3) := by decide +kernel
theorem d_Mo_isDefault_70 : decode jM_Mo_isDefault.2.1 70 = .ok (.aload_n 0, 1) := by decide +kernel
theorem d_Mo_isDefault_71 : decode jM_Mo_isDefault.2.1 71 = .ok (.iload 4, 2) := by decide +kernel
theorem d_Mo_isDefault_73 : decode jM_Mo_isDefault.2.1 73 = .ok (.lload_n 2, 1) := by decide +kernel
theorem d_Mo_isDefault_74 : decode jM_Mo_isDefault.2.1 74 = .ok (.invokevirtual 79, 3) := by decide +kernel
theorem d_Mo_isDefault_77 : decode jM_Mo_isDefault.2.1 77 = .ok (.ifCond .eq 7, 3) := by decide +kernel
theorem d_Mo_isDefault_80 : decode jM_Mo_isDefault.2.1 80 = .ok (.iconst 1, 1) := by decide +kernel
theorem d_Mo_isDefault_81 : decode jM_Mo_isDefault.2.1 81 = .ok (.goto 4, 3) := by decide +kernel
theorem d_Mo_isDefault_84 : decode jM_Mo_isDefault.2.1 84 = .ok (.iconst 0, 1) := by decide +kernel
theorem d_Mo_isDefault_85 : decode jM_Mo_isDefault.2.1 85 = .ok (.ireturn, 1) := by decide +kernel
theorem d_Mo_field_0 : decode jM_Mo_field.2.1 0 = .ok (.aload_n 0, 1) := by decide +kernel
theorem d_Mo_field_1 : decode jM_Mo_field.2.1 1 = .ok (.getfield 85, 3) := by decide +kernel
theorem d_Mo_field_4 : decode jM_Mo_field.2.1 4 = .ok (.iconst 3, 1) := by decide +kernel
theorem d_Mo_field_5 : decode jM_Mo_field.2.1 5 = .ok (.if_icmp .eq 32, 3) := by decide +kernel
theorem d_Mo_field_8 : decode jM_Mo_field.2.1 8 = .ok (.iload_n 1, 1) := by decide +kernel
theorem d_Mo_field_9 : decode jM_Mo_field.2.1 9 = .ok (.invokestatic 88, 3) := by decide +kernel
theorem d_Mo_field_12 : decode jM_Mo_field.2.1 12 = .ok (.ifCond .ne 25, 3) := by decide +kernel
theorem d_Mo_field_15 : decode jM_Mo_field.2.1 15 = .ok (.aload_n 0, 1) := by decide +kernel
theorem d_Mo_field_16 : decode jM_Mo_field.2.1 16 = .ok (.iload_n 2, 1) := by decide +kernel
theorem d_Mo_field_17 : decode jM_Mo_field.2.1 17 = .ok (.invokevirtual 92, 3) := by decide +kernel
theorem d_Mo_field_20 : decode jM_Mo_field.2.1 20 = .ok (.ifCond .ne 17, 3) := by decide +kernel
theorem d_Mo_field_23 : decode jM_Mo_field.2.1 23 = .ok (.iload_n 3, 1) := by decide +kernel
theorem d_Mo_field_24 : decode jM_Mo_field.2.1 24 = .ok (.ifCond .eq 15, 3) := by decide +kernel
theorem d_Mo_field_27 : decode jM_Mo_field.2.1 27 = .ok (.aload_n 0, 1) := by decide +kernel
theorem d_Mo_field_28 : decode jM_Mo_field.2.1 28 = .ok (.iload_n 2, 1) := by decide +kernel
theorem d_Mo_field_29 : decode jM_Mo_field.2.1 29 = .ok (.lload 4, 2) := by decide +kernel
theorem d_Mo_field_31 : decode jM_Mo_field.2.1 31 = .ok (.invokevirtual 95, 3) := by decide +kernel
theorem d_Mo_field_34 : decode jM_Mo_field.2.1 34 = .ok (.ifCond .ne 5, 3) := by decide +kernel
theorem d_Mo_field_37 : decode jM_Mo_field.2.1 37 = .ok (.iconst (-1), 1) := by decide +kernel
theorem d_Mo_field_38 : decode jM_Mo_field.2.1 38 = .ok (.ireturn, 1) := by decide +kernel
theorem d_Mo_field_39 : decode jM_Mo_field.2.1 39 = .ok (.iconst 0, 1) := by decide +kernel
theorem d_Mo_field_40 : decode jM_Mo_field.2.1 40 = .ok (.istore 6, 2) := by decide +kernel
theorem d_Mo_field_42 : decode jM_Mo_field.2.1 42 = .ok (.iload 6, 2) := by decide +kernel
theorem d_Mo_field_44 : decode jM_Mo_field.2.1 44 = .ok (.aload_n 0, 1) := by decide +kernel
theorem d_Mo_field_45 : decode jM_Mo_field.2.1 45 = .ok (.getfield 85, 3) := by decide +kernel
theorem d_Mo_field_48 : decode jM_Mo_field.2.1 48 = .ok (.if_icmp .ge 25, 3) := by decide +kernel
theorem d_Mo_field_51 : decode jM_Mo_field.2.1 51 = .ok (.aload_n 0, 1) := by decide +kernel
theorem d_Mo_field_52 : decode jM_Mo_field.2.1 52 = .ok (.getfield 28, 3) := by decide +kernel
theorem d_Mo_field_55 : decode jM_Mo_field.2.1 55 = .ok (.bipush 72, 2) := by decide +kernel
theorem d_Mo_field_57 : decode jM_Mo_field.2.1 57 = .ok (.iload 6, 2) := by decide +kernel
theorem d_Mo_field_59 : decode jM_Mo_field.2.1 59 = .ok (.iadd, 1) := by decide +kernel
theorem d_Mo_field_60 : decode jM_Mo_field.2.1 60 = .ok (.iaload, 1) := by decide +kernel
theorem d_Mo_field_61 : decode jM_Mo_field.2.1 61 = .ok (.iload_n 1, 1) := by decide +kernel
theorem d_Mo_field_62 : decode jM_Mo_field.2.1 62 = .ok (.if_icmp .ne 5, 3) := by decide +kernel
theorem d_Mo_field_65 : decode jM_Mo_field.2.1 65 = .ok (.iconst (-1), 1) := by decide +kernel
theorem d_Mo_field_66 : decode jM_Mo_field.2.1 66 = .ok (.ireturn, 1) := by decide +kernel
theorem d_Mo_field_67 : decode jM_Mo_field.2.1 67 = .ok (.iinc 6 1, 3) := by decide +kernel
theorem d_Mo_field_70 : decode jM_Mo_field.2.1 70 = .ok (.goto (-28), 3) := by decide +kernel
theorem d_Mo_field_73 : decode jM_Mo_field.2.1 73 = .ok (.aload_n 0, 1) := by decide +kernel
theorem d_Mo_field_74 : decode jM_Mo_field.2.1 74 = .ok (.getfield 28, 3) := by decide +kernel
theorem d_Mo_field_77 : decode jM_Mo_field.2.1 77 = .ok (.bipush 72, 2) := by decide +kernel
theorem d_Mo_field_79 : decode jM_Mo_field.2.1 79 = .ok (.aload_n 0, 1) := by decide +kernel
theorem d_Mo_field_80 : decode jM_Mo_field.2.1 80 = .ok (.getfield 85, 3) := by decide +kernel
theorem d_Mo_field_83 : decode jM_Mo_field.2.1 83 = .ok (.iadd, 1) := by decide +kernel
theorem d_Mo_field_84 : decode jM_Mo_field.2.1 84 = .ok (.iload_n 1, 1) := by decide +kernel
theorem d_Mo_field_85 : decode jM_Mo_field.2.1 85 = .ok (.iastore, 1) := by decide +kernel
theorem d_Mo_field_86 : decode jM_Mo_field.2.1 86 = .ok (.aload_n 0, 1) := by decide +kernel
theorem d_Mo_field_87 : decode jM_Mo_field.2.1 87 = .ok (.getfield 31, 3) := by decide +kernel
theorem d_Mo_field_90 : decode jM_Mo_field.2.1 90 = .ok (.bipush 72, 2) := by decide +kernel
theorem d_Mo_field_92 : decode jM_Mo_field.2.1 92 = .ok (.aload_n 0, 1) := by decide +kernel
theorem d_Mo_field_93 : decode jM_Mo_field.2.1 93 = .ok (.getfield 85, 3) := by decide +kernel
theorem d_Mo_field_96 : decode jM_Mo_field.2.1 96 = .ok (.iadd, 1) := by decide +kernel
theorem d_Mo_field_97 : decode jM_Mo_field.2.1 97 = .ok (.iload_n 2, 1) := by decide +kernel
theorem d_Mo_field_98 : decode jM_Mo_field.2.1 98 = .ok (.iastore, 1) := by decide +kernel
theorem d_Mo_field_99 : decode jM_Mo_field.2.1 99 = .ok (.aload_n 0, 1) := by decide +kernel
theorem d_Mo_field_100 : decode jM_Mo_field.2.1 100 = .ok (.getfield 34, 3) := by decide +kernel
theorem d_Mo_field_103 : decode jM_Mo_field.2.1 103 = .ok (.bipush 72, 2) := by decide +kernel
theorem d_Mo_field_105 : decode jM_Mo_field.2.1 105 = .ok (.aload_n 0, 1) := by decide +kernel
theorem d_Mo_field_106 : decode jM_Mo_field.2.1 106 = .ok (.getfield 85, 3) := by decide +kernel
theorem d_Mo_field_109 : decode jM_Mo_field.2.1 109 = .ok (.iadd, 1) := by decide +kernel
theorem d_Mo_field_110 : decode jM_Mo_field.2.1 110 = .ok (.iload_n 3, 1) := by decide +kernel
theorem d_Mo_field_111 : decode jM_Mo_field.2.1 111 = .ok (.bastore, 1) := by decide +kernel
theorem d_Mo_field_112 : decode jM_Mo_field.2.1 112 = .ok (.aload_n 0, 1) := by decide +kernel
theorem d_Mo_field_113 : decode jM_Mo_field.2.1 113 = .ok (.getfield 38, 3) := by decide +kernel
theorem d_Mo_field_116 : decode jM_Mo_field.2.1 116 = .ok (.bipush 72, 2) := by decide +kernel
theorem d_Mo_field_118 : decode jM_Mo_field.2.1 118 = .ok (.aload_n 0, 1) := by decide +kernel
theorem d_Mo_field_119 : decode jM_Mo_field.2.1 119 = .ok (.getfield 85, 3) := by decide +kernel
theorem d_Mo_field_122 : decode jM_Mo_field.2.1 122 = .ok (.iadd, 1) := by decide +kernel
theorem d_Mo_field_123 : decode jM_Mo_field.2.1 123 = .ok (.lload 4, 2) := by decide +kernel
theorem d_Mo_field_125 : decode jM_Mo_field.2.1 125 = .ok (.lastore, 1) := by decide +kernel
theorem d_Mo_field_126 : decode jM_Mo_field.2.1 126 = .ok (.aload_n 0, 1) := by decide +kernel
theorem d_Mo_field_127 : decode jM_Mo_field.2.1 127 = .ok (.dup, 1) := by decide +kernel
theorem d_Mo_field_128 : decode jM_Mo_field.2.1 128 = .ok (.getfield 85, 3) := by decide +kernel
theorem d_Mo_field_131 : decode jM_Mo_field.2.1 131 = .ok (.iconst 1, 1) := by decide +kernel
theorem d_Mo_field_132 : decode jM_Mo_field.2.1 132 = .ok (.iadd, 1) := by decide +kernel
theorem d_Mo_field_133 : decode jM_Mo_field.2.1 133 = .ok (.putfield 85, 3) := by decide +kernel
theorem d_Mo_field_136 : decode jM_Mo_field.2.1 136 = .ok (.aload_n 0, 1) := by decide +kernel
theorem d_Mo_field_137 : decode jM_Mo_field.2.1 137 = .ok (.getfield 85, 3) := by decide +kernel
theorem d_Mo_field_140 : decode jM_Mo_field.2.1 140 = .ok (.ireturn, 1) := by decide +kernel
theorem d_Mo_badUnion_0 : decode jM_Mo_badUnion.2.1 0 = .ok (.aload_n 0, 1) := by decide +kernel
theorem d_Mo_badUnion_1 : decode jM_Mo_badUnion.2.1 1 = .ok (.iload_n 1, 1) := by decide +kernel
theorem d_Mo_badUnion_2 : decode jM_Mo_badUnion.2.1 2 = .ok (.invokevirtual 92, 3) := by decide +kernel
theorem d_Mo_badUnion_5 : decode jM_Mo_badUnion.2.1 5 = .ok (.ifCond .ne 33, 3) := by decide +kernel
theorem d_Mo_badUnion_8 : decode jM_Mo_badUnion.2.1 8 = .ok (.aload_n 0, 1) := by decide +kernel
theorem d_Mo_badUnion_9 : decode jM_Mo_badUnion.2.1 9 = .ok (.iload_n 2, 1) := by decide +kernel
theorem d_Mo_badUnion_10 : decode jM_Mo_badUnion.2.1 10 = .ok (.invokevirtual 92, 3) := by decide +kernel
theorem d_Mo_badUnion_13 : decode jM_Mo_badUnion.2.1 13 = .ok (.ifCond .ne 25, 3) := by decide +kernel
theorem d_Mo_badUnion_16 : decode jM_Mo_badUnion.2.1 16 = .ok (.aload_n 0, 1) := by decide +kernel
theorem d_Mo_badUnion_17 : decode jM_Mo_badUnion.2.1 17 = .ok (.getfield 7, 3) := by decide +kernel
theorem d_Mo_badUnion_20 : decode jM_Mo_badUnion.2.1 20 = .ok (.iload_n 1, 1) := by decide +kernel
theorem d_Mo_badUnion_21 : decode jM_Mo_badUnion.2.1 21 = .ok (.iaload, 1) := by decide +kernel
theorem d_Mo_badUnion_22 : decode jM_Mo_badUnion.2.1 22 = .ok (.bipush 6, 2) := by decide +kernel
theorem d_Mo_badUnion_24 : decode jM_Mo_badUnion.2.1 24 = .ok (.if_icmp .eq 14, 3) := by decide +kernel
theorem d_Mo_badUnion_27 : decode jM_Mo_badUnion.2.1 27 = .ok (.aload_n 0, 1) := by decide +kernel
theorem d_Mo_badUnion_28 : decode jM_Mo_badUnion.2.1 28 = .ok (.getfield 7, 3) := by decide +kernel
theorem d_Mo_badUnion_31 : decode jM_Mo_badUnion.2.1 31 = .ok (.iload_n 2, 1) := by decide +kernel
theorem d_Mo_badUnion_32 : decode jM_Mo_badUnion.2.1 32 = .ok (.iaload, 1) := by decide +kernel
theorem d_Mo_badUnion_33 : decode jM_Mo_badUnion.2.1 33 = .ok (.bipush 6, 2) := by decide +kernel
theorem d_Mo_badUnion_35 : decode jM_Mo_badUnion.2.1 35 = .ok (.if_icmp .ne 5, 3) := by decide +kernel
theorem d_Mo_badUnion_38 : decode jM_Mo_badUnion.2.1 38 = .ok (.iconst 1, 1) := by decide +kernel
theorem d_Mo_badUnion_39 : decode jM_Mo_badUnion.2.1 39 = .ok (.ireturn, 1) := by decide +kernel
theorem d_Mo_badUnion_40 : decode jM_Mo_badUnion.2.1 40 = .ok (.aload_n 0, 1) := by decide +kernel
theorem d_Mo_badUnion_41 : decode jM_Mo_badUnion.2.1 41 = .ok (.getfield 7, 3) := by decide +kernel
theorem d_Mo_badUnion_44 : decode jM_Mo_badUnion.2.1 44 = .ok (.iload_n 1, 1) := by decide +kernel
theorem d_Mo_badUnion_45 : decode jM_Mo_badUnion.2.1 45 = .ok (.iaload, 1) := by decide +kernel
theorem d_Mo_badUnion_46 : decode jM_Mo_badUnion.2.1 46 = .ok (.iconst 4, 1) := by decide +kernel
theorem d_Mo_badUnion_47 : decode jM_Mo_badUnion.2.1 47 = .ok (.if_icmp .eq 14, 3) := by decide +kernel
theorem d_Mo_badUnion_50 : decode jM_Mo_badUnion.2.1 50 = .ok (.aload_n 0, 1) := by decide +kernel
theorem d_Mo_badUnion_51 : decode jM_Mo_badUnion.2.1 51 = .ok (.getfield 7, 3) := by decide +kernel
theorem d_Mo_badUnion_54 : decode jM_Mo_badUnion.2.1 54 = .ok (.iload_n 1, 1) := by decide +kernel
theorem d_Mo_badUnion_55 : decode jM_Mo_badUnion.2.1 55 = .ok (.iaload, 1) := by decide +kernel
theorem d_Mo_badUnion_56 : decode jM_Mo_badUnion.2.1 56 = .ok (.bipush 7, 2) := by decide +kernel
theorem d_Mo_badUnion_58 : decode jM_Mo_badUnion.2.1 58 = .ok (.if_icmp .ne 7, 3) := by decide +kernel
theorem d_Mo_badUnion_61 : decode jM_Mo_badUnion.2.1 61 = .ok (.iconst 1, 1) := by decide +kernel
theorem d_Mo_badUnion_62 : decode jM_Mo_badUnion.2.1 62 = .ok (.goto 4, 3) := by decide +kernel
theorem d_Mo_badUnion_65 : decode jM_Mo_badUnion.2.1 65 = .ok (.iconst 0, 1) := by decide +kernel
theorem d_Mo_badUnion_66 : decode jM_Mo_badUnion.2.1 66 = .ok (.istore_n 3, 1) := by decide +kernel
theorem d_Mo_badUnion_67 : decode jM_Mo_badUnion.2.1 67 = .ok (.aload_n 0, 1) := by decide +kernel
theorem d_Mo_badUnion_68 : decode jM_Mo_badUnion.2.1 68 = .ok (.getfield 7, 3) := by decide +kernel
theorem d_Mo_badUnion_71 : decode jM_Mo_badUnion.2.1 71 = .ok (.iload_n 1, 1) := by decide +kernel
theorem d_Mo_badUnion_72 : decode jM_Mo_badUnion.2.1 72 = .ok (.iaload, 1) := by decide +kernel
theorem d_Mo_badUnion_73 : decode jM_Mo_badUnion.2.1 73 = .ok (.aload_n 0, 1) := by decide +kernel
theorem d_Mo_badUnion_74 : decode jM_Mo_badUnion.2.1 74 = .ok (.getfield 7, 3) := by decide +kernel
theorem d_Mo_badUnion_77 : decode jM_Mo_badUnion.2.1 77 = .ok (.iload_n 2, 1) := by decide +kernel
theorem d_Mo_badUnion_78 : decode jM_Mo_badUnion.2.1 78 = .ok (.iaload, 1) := by decide +kernel
theorem d_Mo_badUnion_79 : decode jM_Mo_badUnion.2.1 79 = .ok (.if_icmp .ne 26, 3) := by decide +kernel
theorem d_Mo_badUnion_82 : decode jM_Mo_badUnion.2.1 82 = .ok (.iload_n 3, 1) := by decide +kernel
theorem d_Mo_badUnion_83 : decode jM_Mo_badUnion.2.1 83 = .ok (.ifCond .eq 18, 3) := by decide +kernel
theorem d_Mo_badUnion_86 : decode jM_Mo_badUnion.2.1 86 = .ok (.aload_n 0, 1) := by decide +kernel
theorem d_Mo_badUnion_87 : decode jM_Mo_badUnion.2.1 87 = .ok (.getfield 13, 3) := by decide +kernel
theorem d_Mo_badUnion_90 : decode jM_Mo_badUnion.2.1 90 = .ok (.iload_n 1, 1) := by decide +kernel
theorem d_Mo_badUnion_91 : decode jM_Mo_badUnion.2.1 91 = .ok (.iaload, 1) := by decide +kernel
theorem d_Mo_badUnion_92 : decode jM_Mo_badUnion.2.1 92 = .ok (.aload_n 0, 1) := by decide +kernel
theorem d_Mo_badUnion_93 : decode jM_Mo_badUnion.2.1 93 = .ok (.getfield 13, 3) := by decide +kernel
theorem d_Mo_badUnion_96 : decode jM_Mo_badUnion.2.1 96 = .ok (.iload_n 2, 1) := by decide +kernel
theorem d_Mo_badUnion_97 : decode jM_Mo_badUnion.2.1 97 = .ok (.iaload, 1) := by decide +kernel
theorem d_Mo_badUnion_98 : decode jM_Mo_badUnion.2.1 98 = .ok (.if_icmp .ne 7, 3) := by decide +kernel
theorem d_Mo_badUnion_101 : decode jM_Mo_badUnion.2.1 101 = .ok (.iconst 1, 1) := by decide +kernel
theorem d_Mo_badUnion_102 : decode jM_Mo_badUnion.2.1 102 = .ok (.goto 4, 3) := by decide +kernel
theorem d_Mo_badUnion_105 : decode jM_Mo_badUnion.2.1 105 = .ok (.iconst 0, 1) := by decide +kernel
theorem d_Mo_badUnion_106 : decode jM_Mo_badUnion.2.1 106 = .ok (.ireturn, 1) := by decide +kernel
theorem d_Mo_badEnum_0 : decode jM_Mo_badEnum.2.1 0 = .ok (.iload_n 1, 1) := by decide +kernel
theorem d_Mo_badEnum_1 : decode jM_Mo_badEnum.2.1 1 = .ok (.invokestatic 88, 3) := by decide +kernel
theorem d_Mo_badEnum_4 : decode jM_Mo_badEnum.2.1 4 = .ok (.ifCond .ne 38, 3) := by decide +kernel
theorem d_Mo_badEnum_7 : decode jM_Mo_badEnum.2.1 7 = .ok (.iload_n 2, 1) := by decide +kernel
theorem d_Mo_badEnum_8 : decode jM_Mo_badEnum.2.1 8 = .ok (.iconst 1, 1) := by decide +kernel
theorem d_Mo_badEnum_9 : decode jM_Mo_badEnum.2.1 9 = .ok (.if_icmp .lt 33, 3) := by decide +kernel
theorem d_Mo_badEnum_12 : decode jM_Mo_badEnum.2.1 12 = .ok (.iload_n 2, 1) := by decide +kernel
theorem d_Mo_badEnum_13 : decode jM_Mo_badEnum.2.1 13 = .ok (.sipush 255, 3) := by decide +kernel
theorem d_Mo_badEnum_16 : decode jM_Mo_badEnum.2.1 16 = .ok (.if_icmp .gt 26, 3) := by decide +kernel
theorem d_Mo_badEnum_19 : decode jM_Mo_badEnum.2.1 19 = .ok (.iload_n 3, 1) := by decide +kernel
theorem d_Mo_badEnum_20 : decode jM_Mo_badEnum.2.1 20 = .ok (.iconst (-1), 1) := by decide +kernel
theorem d_Mo_badEnum_21 : decode jM_Mo_badEnum.2.1 21 = .ok (.if_icmp .eq 25, 3) := by decide +kernel
theorem d_Mo_badEnum_24 : decode jM_Mo_badEnum.2.1 24 = .ok (.iload_n 3, 1) := by decide +kernel
theorem d_Mo_badEnum_25 : decode jM_Mo_badEnum.2.1 25 = .ok (.ifCond .lt 17, 3) := by decide +kernel
theorem d_Mo_badEnum_28 : decode jM_Mo_badEnum.2.1 28 = .ok (.iload_n 3, 1) := by decide +kernel
theorem d_Mo_badEnum_29 : decode jM_Mo_badEnum.2.1 29 = .ok (.bipush 7, 2) := by decide +kernel
theorem d_Mo_badEnum_31 : decode jM_Mo_badEnum.2.1 31 = .ok (.if_icmp .gt 11, 3) := by decide +kernel
theorem d_Mo_badEnum_34 : decode jM_Mo_badEnum.2.1 34 = .ok (.iload_n 2, 1) := by decide +kernel
theorem d_Mo_badEnum_35 : decode jM_Mo_badEnum.2.1 35 = .ok (.iload_n 3, 1) := by decide +kernel
theorem d_Mo_badEnum_36 : decode jM_Mo_badEnum.2.1 36 = .ok (.ishr, 1) := by decide +kernel
theorem d_Mo_badEnum_37 : decode jM_Mo_badEnum.2.1 37 = .ok (.iconst 1, 1) := by decide +kernel
theorem d_Mo_badEnum_38 : decode jM_Mo_badEnum.2.1 38 = .ok (.iand, 1) := by decide +kernel
theorem d_Mo_badEnum_39 : decode jM_Mo_badEnum.2.1 39 = .ok (.ifCond .ne 7, 3) := by decide +kernel
theorem d_Mo_badEnum_42 : decode jM_Mo_badEnum.2.1 42 = .ok (.iconst 1, 1) := by decide +kernel
theorem d_Mo_badEnum_43 : decode jM_Mo_badEnum.2.1 43 = .ok (.goto 4, 3) := by decide +kernel
theorem d_Mo_badEnum_46 : decode jM_Mo_badEnum.2.1 46 = .ok (.iconst 0, 1) := by decide +kernel
theorem d_Mo_badEnum_47 : decode jM_Mo_badEnum.2.1 47 = .ok (.ireturn, 1) := by decide +kernel
theorem d_Mo_branch_0 : decode jM_Mo_branch.2.1 0 = .ok (.aload_n 0, 1) := by decide +kernel
theorem d_Mo_branch_1 : decode jM_Mo_branch.2.1 1 = .ok (.getfield 42, 3) := by decide +kernel
theorem d_Mo_branch_4 : decode jM_Mo_branch.2.1 4 = .ok (.bipush 24, 2) := by decide +kernel
theorem d_Mo_branch_6 : decode jM_Mo_branch.2.1 6 = .ok (.aload_n 0, 1) := by decide +kernel
theorem d_Mo_branch_7 : decode jM_Mo_branch.2.1 7 = .ok (.getfield 16, 3) := by decide +kernel
theorem d_Mo_branch_10 : decode jM_Mo_branch.2.1 10 = .ok (.iload_n 1, 1) := by decide +kernel
theorem d_Mo_branch_11 : decode jM_Mo_branch.2.1 11 = .ok (.iaload, 1) := by decide +kernel
theorem d_Mo_branch_12 : decode jM_Mo_branch.2.1 12 = .ok (.imul, 1) := by decide +kernel
theorem d_Mo_branch_13 : decode jM_Mo_branch.2.1 13 = .ok (.iload_n 2, 1) := by decide +kernel
theorem d_Mo_branch_14 : decode jM_Mo_branch.2.1 14 = .ok (.iadd, 1) := by decide +kernel
theorem d_Mo_branch_15 : decode jM_Mo_branch.2.1 15 = .ok (.baload, 1) := by decide +kernel
theorem d_Mo_branch_16 : decode jM_Mo_branch.2.1 16 = .ok (.ifCond .eq 7, 3) := by decide +kernel
theorem d_Mo_branch_19 : decode jM_Mo_branch.2.1 19 = .ok (.iconst 0, 1) := by decide +kernel
theorem d_Mo_branch_20 : decode jM_Mo_branch.2.1 20 = .ok (.goto 27, 3) := by decide +kernel
theorem d_Mo_branch_23 : decode jM_Mo_branch.2.1 23 = .ok (.aload_n 0, 1) := by decide +kernel
theorem d_Mo_branch_24 : decode jM_Mo_branch.2.1 24 = .ok (.getfield 42, 3) := by decide +kernel
theorem d_Mo_branch_27 : decode jM_Mo_branch.2.1 27 = .ok (.bipush 24, 2) := by decide +kernel
theorem d_Mo_branch_29 : decode jM_Mo_branch.2.1 29 = .ok (.aload_n 0, 1) := by decide +kernel
theorem d_Mo_branch_30 : decode jM_Mo_branch.2.1 30 = .ok (.getfield 19, 3) := by decide +kernel
theorem d_Mo_branch_33 : decode jM_Mo_branch.2.1 33 = .ok (.iload_n 1, 1) := by decide +kernel
theorem d_Mo_branch_34 : decode jM_Mo_branch.2.1 34 = .ok (.iaload, 1) := by decide +kernel
theorem d_Mo_branch_35 : decode jM_Mo_branch.2.1 35 = .ok (.imul, 1) := by decide +kernel
theorem d_Mo_branch_36 : decode jM_Mo_branch.2.1 36 = .ok (.iload_n 2, 1) := by decide +kernel
theorem d_Mo_branch_37 : decode jM_Mo_branch.2.1 37 = .ok (.iadd, 1) := by decide +kernel
theorem d_Mo_branch_38 : decode jM_Mo_branch.2.1 38 = .ok (.baload, 1) := by decide +kernel
theorem d_Mo_branch_39 : decode jM_Mo_branch.2.1 39 = .ok (.ifCond .eq 7, 3) := by decide +kernel
theorem d_Mo_branch_42 : decode jM_Mo_branch.2.1 42 = .ok (.iconst 1, 1) := by decide +kernel
theorem d_Mo_branch_43 : decode jM_Mo_branch.2.1 43 = .ok (.goto 4, 3) := by decide +kernel
theorem d_Mo_branch_46 : decode jM_Mo_branch.2.1 46 = .ok (.iconst (-1), 1) := by decide +kernel
theorem d_Mo_branch_47 : decode jM_Mo_branch.2.1 47 = .ok (.ireturn, 1) := by decide +kernel
theorem d_Mo_branchSchema_0 : decode jM_Mo_branchSchema.2.1 0 = .ok (.aload_n 0, 1) := by decide +kernel
theorem d_Mo_branchSchema_1 : decode jM_Mo_branchSchema.2.1 1 = .ok (.iload_n 1, 1) := by decide +kernel
theorem d_Mo_branchSchema_2 : decode jM_Mo_branchSchema.2.1 2 = .ok (.iload_n 2, 1) := by decide +kernel
theorem d_Mo_branchSchema_3 : decode jM_Mo_branchSchema.2.1 3 = .ok (.invokevirtual 110, 3) := by decide +kernel
theorem d_Mo_branchSchema_6 : decode jM_Mo_branchSchema.2.1 6 = .ok (.ifCond .ne 12, 3) := by decide +kernel
theorem d_Mo_branchSchema_9 : decode jM_Mo_branchSchema.2.1 9 = .ok (.aload_n 0, 1) := by decide +kernel
theorem d_Mo_branchSchema_10 : decode jM_Mo_branchSchema.2.1 10 = .ok (.getfield 16, 3) := by decide +kernel
theorem d_Mo_branchSchema_13 : decode jM_Mo_branchSchema.2.1 13 = .ok (.iload_n 1, 1) := by decide +kernel
theorem d_Mo_branchSchema_14 : decode jM_Mo_branchSchema.2.1 14 = .ok (.iaload, 1) := by decide +kernel
theorem d_Mo_branchSchema_15 : decode jM_Mo_branchSchema.2.1 15 = .ok (.goto 9, 3) := by decide +kernel
theorem d_Mo_branchSchema_18 : decode jM_Mo_branchSchema.2.1 18 = .ok (.aload_n 0, 1) := by decide +kernel
theorem d_Mo_branchSchema_19 : decode jM_Mo_branchSchema.2.1 19 = .ok (.getfield 19, 3) := by decide +kernel
theorem d_Mo_branchSchema_22 : decode jM_Mo_branchSchema.2.1 22 = .ok (.iload_n 1, 1) := by decide +kernel
theorem d_Mo_branchSchema_23 : decode jM_Mo_branchSchema.2.1 23 = .ok (.iaload, 1) := by decide +kernel
theorem d_Mo_branchSchema_24 : decode jM_Mo_branchSchema.2.1 24 = .ok (.ireturn, 1) := by decide +kernel
theorem d_Mo_fieldOf_0 : decode jM_Mo_fieldOf.2.1 0 = .ok (.iconst 3, 1) := by decide +kernel
theorem d_Mo_fieldOf_1 : decode jM_Mo_fieldOf.2.1 1 = .ok (.iload_n 1, 1) := by decide +kernel
theorem d_Mo_fieldOf_2 : decode jM_Mo_fieldOf.2.1 2 = .ok (.imul, 1) := by decide +kernel
theorem d_Mo_fieldOf_3 : decode jM_Mo_fieldOf.2.1 3 = .ok (.istore_n 3, 1) := by decide +kernel
theorem d_Mo_fieldOf_4 : decode jM_Mo_fieldOf.2.1 4 = .ok (.iload_n 3, 1) := by decide +kernel
theorem d_Mo_fieldOf_5 : decode jM_Mo_fieldOf.2.1 5 = .ok (.iconst 3, 1) := by decide +kernel
theorem d_Mo_fieldOf_6 : decode jM_Mo_fieldOf.2.1 6 = .ok (.iload_n 1, 1) := by decide +kernel
theorem d_Mo_fieldOf_7 : decode jM_Mo_fieldOf.2.1 7 = .ok (.imul, 1) := by decide +kernel
theorem d_Mo_fieldOf_8 : decode jM_Mo_fieldOf.2.1 8 = .ok (.aload_n 0, 1) := by decide +kernel
theorem d_Mo_fieldOf_9 : decode jM_Mo_fieldOf.2.1 9 = .ok (.getfield 25, 3) := by decide +kernel
theorem d_Mo_fieldOf_12 : decode jM_Mo_fieldOf.2.1 12 = .ok (.iload_n 1, 1) := by decide +kernel
theorem d_Mo_fieldOf_13 : decode jM_Mo_fieldOf.2.1 13 = .ok (.iaload, 1) := by decide +kernel
theorem d_Mo_fieldOf_14 : decode jM_Mo_fieldOf.2.1 14 = .ok (.iadd, 1) := by decide +kernel
theorem d_Mo_fieldOf_15 : decode jM_Mo_fieldOf.2.1 15 = .ok (.if_icmp .ge 21, 3) := by decide +kernel
theorem d_Mo_fieldOf_18 : decode jM_Mo_fieldOf.2.1 18 = .ok (.aload_n 0, 1) := by decide +kernel
theorem d_Mo_fieldOf_19 : decode jM_Mo_fieldOf.2.1 19 = .ok (.getfield 28, 3) := by decide +kernel
theorem d_Mo_fieldOf_22 : decode jM_Mo_fieldOf.2.1 22 = .ok (.iload_n 3, 1) := by decide +kernel
theorem d_Mo_fieldOf_23 : decode jM_Mo_fieldOf.2.1 23 = .ok (.iaload, 1) := by decide +kernel
theorem d_Mo_fieldOf_24 : decode jM_Mo_fieldOf.2.1 24 = .ok (.iload_n 2, 1) := by decide +kernel
theorem d_Mo_fieldOf_25 : decode jM_Mo_fieldOf.2.1 25 = .ok (.if_icmp .ne 5, 3) := by decide +kernel
theorem d_Mo_fieldOf_28 : decode jM_Mo_fieldOf.2.1 28 = .ok (.iload_n 3, 1) := by decide +kernel
theorem d_Mo_fieldOf_29 : decode jM_Mo_fieldOf.2.1 29 = .ok (.ireturn, 1) := by decide +kernel
theorem d_Mo_fieldOf_30 : decode jM_Mo_fieldOf.2.1 30 = .ok (.iinc 3 1, 3) := by decide +kernel
theorem d_Mo_fieldOf_33 : decode jM_Mo_fieldOf.2.1 33 = .ok (.goto (-29), 3) := by decide +kernel
theorem d_Mo_fieldOf_36 : decode jM_Mo_fieldOf.2.1 36 = .ok (.iconst (-1), 1) := by decide +kernel
theorem d_Mo_fieldOf_37 : decode jM_Mo_fieldOf.2.1 37 = .ok (.ireturn, 1) := by decide +kernel
theorem d_Mo_inside_0 : decode jM_Mo_inside.2.1 0 = .ok (.aload_n 0, 1) := by decide +kernel
theorem d_Mo_inside_1 : decode jM_Mo_inside.2.1 1 = .ok (.getfield 7, 3) := by decide +kernel
theorem d_Mo_inside_4 : decode jM_Mo_inside.2.1 4 = .ok (.iload_n 1, 1) := by decide +kernel
theorem d_Mo_inside_5 : decode jM_Mo_inside.2.1 5 = .ok (.iaload, 1) := by decide +kernel
theorem d_Mo_inside_6 : decode jM_Mo_inside.2.1 6 = .ok (.iconst 4, 1) := by decide +kernel
theorem d_Mo_inside_7 : decode jM_Mo_inside.2.1 7 = .ok (.if_icmp .ne 37, 3) := by decide +kernel
theorem d_Mo_inside_10 : decode jM_Mo_inside.2.1 10 = .ok (.aload_n 0, 1) := by decide +kernel
theorem d_Mo_inside_11 : decode jM_Mo_inside.2.1 11 = .ok (.getfield 19, 3) := by decide +kernel
theorem d_Mo_inside_14 : decode jM_Mo_inside.2.1 14 = .ok (.iload_n 1, 1) := by decide +kernel
theorem d_Mo_inside_15 : decode jM_Mo_inside.2.1 15 = .ok (.iaload, 1) := by decide +kernel
theorem d_Mo_inside_16 : decode jM_Mo_inside.2.1 16 = .ok (.iconst (-1), 1) := by decide +kernel
theorem d_Mo_inside_17 : decode jM_Mo_inside.2.1 17 = .ok (.if_icmp .ne 21, 3) := by decide +kernel
theorem d_Mo_inside_20 : decode jM_Mo_inside.2.1 20 = .ok (.aload_n 0, 1) := by decide +kernel
theorem d_Mo_inside_21 : decode jM_Mo_inside.2.1 21 = .ok (.getfield 16, 3) := by decide +kernel
theorem d_Mo_inside_24 : decode jM_Mo_inside.2.1 24 = .ok (.iload_n 2, 1) := by decide +kernel
theorem d_Mo_inside_25 : decode jM_Mo_inside.2.1 25 = .ok (.iaload, 1) := by decide +kernel
theorem d_Mo_inside_26 : decode jM_Mo_inside.2.1 26 = .ok (.aload_n 0, 1) := by decide +kernel
theorem d_Mo_inside_27 : decode jM_Mo_inside.2.1 27 = .ok (.getfield 16, 3) := by decide +kernel
theorem d_Mo_inside_30 : decode jM_Mo_inside.2.1 30 = .ok (.iload_n 1, 1) := by decide +kernel
theorem d_Mo_inside_31 : decode jM_Mo_inside.2.1 31 = .ok (.iaload, 1) := by decide +kernel
theorem d_Mo_inside_32 : decode jM_Mo_inside.2.1 32 = .ok (.iconst (-1), 1) := by decide +kernel
theorem d_Mo_inside_33 : decode jM_Mo_inside.2.1 33 = .ok (.ixor, 1) := by decide +kernel
theorem d_Mo_inside_34 : decode jM_Mo_inside.2.1 34 = .ok (.iand, 1) := by decide +kernel
theorem d_Mo_inside_35 : decode jM_Mo_inside.2.1 35 = .ok (.ifCond .ne 7, 3) := by decide +kernel
theorem d_Mo_inside_38 : decode jM_Mo_inside.2.1 38 = .ok (.iconst 1, 1) := by decide +kernel
theorem d_Mo_inside_39 : decode jM_Mo_inside.2.1 39 = .ok (.goto 4, 3) := by decide +kernel
theorem d_Mo_inside_42 : decode jM_Mo_inside.2.1 42 = .ok (.iconst 0, 1) := by decide +kernel
theorem d_Mo_inside_43 : decode jM_Mo_inside.2.1 43 = .ok (.ireturn, 1) := by decide +kernel
theorem d_Mo_inside_44 : decode jM_Mo_inside.2.1 44 = .ok (.aload_n 0, 1) := by decide +kernel
theorem d_Mo_inside_45 : decode jM_Mo_inside.2.1 45 = .ok (.getfield 7, 3) := by decide +kernel
theorem d_Mo_inside_48 : decode jM_Mo_inside.2.1 48 = .ok (.iload_n 1, 1) := by decide +kernel
theorem d_Mo_inside_49 : decode jM_Mo_inside.2.1 49 = .ok (.iaload, 1) := by decide +kernel
theorem d_Mo_inside_50 : decode jM_Mo_inside.2.1 50 = .ok (.iconst 5, 1) := by decide +kernel
theorem d_Mo_inside_51 : decode jM_Mo_inside.2.1 51 = .ok (.if_icmp .ne 25, 3) := by decide +kernel
theorem d_Mo_inside_54 : decode jM_Mo_inside.2.1 54 = .ok (.aload_n 0, 1) := by decide +kernel
theorem d_Mo_inside_55 : decode jM_Mo_inside.2.1 55 = .ok (.getfield 45, 3) := by decide +kernel
theorem d_Mo_inside_58 : decode jM_Mo_inside.2.1 58 = .ok (.bipush 24, 2) := by decide +kernel
theorem d_Mo_inside_60 : decode jM_Mo_inside.2.1 60 = .ok (.aload_n 0, 1) := by decide +kernel
theorem d_Mo_inside_61 : decode jM_Mo_inside.2.1 61 = .ok (.getfield 16, 3) := by decide +kernel
theorem d_Mo_inside_64 : decode jM_Mo_inside.2.1 64 = .ok (.iload_n 1, 1) := by decide +kernel
theorem d_Mo_inside_65 : decode jM_Mo_inside.2.1 65 = .ok (.iaload, 1) := by decide +kernel
theorem d_Mo_inside_66 : decode jM_Mo_inside.2.1 66 = .ok (.imul, 1) := by decide +kernel
theorem d_Mo_inside_67 : decode jM_Mo_inside.2.1 67 = .ok (.aload_n 0, 1) := by decide +kernel
theorem d_Mo_inside_68 : decode jM_Mo_inside.2.1 68 = .ok (.getfield 16, 3) := by decide +kernel
theorem d_Mo_inside_71 : decode jM_Mo_inside.2.1 71 = .ok (.iload_n 2, 1) := by decide +kernel
theorem d_Mo_inside_72 : decode jM_Mo_inside.2.1 72 = .ok (.iaload, 1) := by decide +kernel
theorem d_Mo_inside_73 : decode jM_Mo_inside.2.1 73 = .ok (.iadd, 1) := by decide +kernel
theorem d_Mo_inside_74 : decode jM_Mo_inside.2.1 74 = .ok (.baload, 1) := by decide +kernel
theorem d_Mo_inside_75 : decode jM_Mo_inside.2.1 75 = .ok (.ireturn, 1) := by decide +kernel
theorem d_Mo_inside_76 : decode jM_Mo_inside.2.1 76 = .ok (.iconst 1, 1) := by decide +kernel
theorem d_Mo_inside_77 : decode jM_Mo_inside.2.1 77 = .ok (.istore_n 3, 1) := by decide +kernel
theorem d_Mo_inside_78 : decode jM_Mo_inside.2.1 78 = .ok (.iconst 3, 1) := by decide +kernel
theorem d_Mo_inside_79 : decode jM_Mo_inside.2.1 79 = .ok (.iload_n 1, 1) := by decide +kernel
theorem d_Mo_inside_80 : decode jM_Mo_inside.2.1 80 = .ok (.imul, 1) := by decide +kernel
theorem d_Mo_inside_81 : decode jM_Mo_inside.2.1 81 = .ok (.istore 4, 2) := by decide +kernel
theorem d_Mo_inside_83 : decode jM_Mo_inside.2.1 83 = .ok (.iload 4, 2) := by decide +kernel
theorem d_Mo_inside_85 : decode jM_Mo_inside.2.1 85 = .ok (.iconst 3, 1) := by decide +kernel
theorem d_Mo_inside_86 : decode jM_Mo_inside.2.1 86 = .ok (.iload_n 1, 1) := by decide +kernel
theorem d_Mo_inside_87 : decode jM_Mo_inside.2.1 87 = .ok (.imul, 1) := by decide +kernel
theorem d_Mo_inside_88 : decode jM_Mo_inside.2.1 88 = .ok (.aload_n 0, 1) := by decide +kernel
theorem d_Mo_inside_89 : decode jM_Mo_inside.2.1 89 = .ok (.getfield 25, 3) := by decide +kernel
theorem d_Mo_inside_92 : decode jM_Mo_inside.2.1 92 = .ok (.iload_n 1, 1) := by decide +kernel
theorem d_Mo_inside_93 : decode jM_Mo_inside.2.1 93 = .ok (.iaload, 1) := by decide +kernel
theorem d_Mo_inside_94 : decode jM_Mo_inside.2.1 94 = .ok (.iadd, 1) := by decide +kernel
theorem d_Mo_inside_95 : decode jM_Mo_inside.2.1 95 = .ok (.if_icmp .ge 77, 3) := by decide +kernel
theorem d_Mo_inside_98 : decode jM_Mo_inside.2.1 98 = .ok (.aload_n 0, 1) := by decide +kernel
theorem d_Mo_inside_99 : decode jM_Mo_inside.2.1 99 = .ok (.iload_n 2, 1) := by decide +kernel
theorem d_Mo_inside_100 : decode jM_Mo_inside.2.1 100 = .ok (.aload_n 0, 1) := by decide +kernel
theorem d_Mo_inside_101 : decode jM_Mo_inside.2.1 101 = .ok (.getfield 28, 3) := by decide +kernel
theorem d_Mo_inside_104 : decode jM_Mo_inside.2.1 104 = .ok (.iload 4, 2) := by decide +kernel
theorem d_Mo_inside_106 : decode jM_Mo_inside.2.1 106 = .ok (.iaload, 1) := by decide +kernel
theorem d_Mo_inside_107 : decode jM_Mo_inside.2.1 107 = .ok (.invokevirtual 120, 3) := by decide +kernel
theorem d_Mo_inside_110 : decode jM_Mo_inside.2.1 110 = .ok (.istore 5, 2) := by decide +kernel
theorem d_Mo_inside_112 : decode jM_Mo_inside.2.1 112 = .ok (.iload_n 3, 1) := by decide +kernel
theorem d_Mo_inside_113 : decode jM_Mo_inside.2.1 113 = .ok (.ifCond .eq 51, 3) := by decide +kernel
theorem d_Mo_inside_116 : decode jM_Mo_inside.2.1 116 = .ok (.iload 5, 2) := by decide +kernel
theorem d_Mo_inside_118 : decode jM_Mo_inside.2.1 118 = .ok (.ifCond .ge 16, 3) := by decide +kernel
theorem d_Mo_inside_121 : decode jM_Mo_inside.2.1 121 = .ok (.aload_n 0, 1) := by decide +kernel
theorem d_Mo_inside_122 : decode jM_Mo_inside.2.1 122 = .ok (.getfield 34, 3) := by decide +kernel
theorem d_Mo_inside_125 : decode jM_Mo_inside.2.1 125 = .ok (.iload 4, 2) := by decide +kernel
theorem d_Mo_inside_127 : decode jM_Mo_inside.2.1 127 = .ok (.baload, 1) := by decide +kernel
theorem d_Mo_inside_128 : decode jM_Mo_inside.2.1 128 = .ok (.ifCond .eq 36, 3) := by decide +kernel
theorem d_Mo_inside_131 : decode jM_Mo_inside.2.1 131 = .ok (.goto 29, 3) := by decide +kernel
theorem d_Mo_inside_134 : decode jM_Mo_inside.2.1 134 = .ok (.aload_n 0, 1) := by decide +kernel
theorem d_Mo_inside_135 : decode jM_Mo_inside.2.1 135 = .ok (.getfield 45, 3) := by decide +kernel
theorem d_Mo_inside_138 : decode jM_Mo_inside.2.1 138 = .ok (.bipush 24, 2) := by decide +kernel
theorem d_Mo_inside_140 : decode jM_Mo_inside.2.1 140 = .ok (.aload_n 0, 1) := by decide +kernel
theorem d_Mo_inside_141 : decode jM_Mo_inside.2.1 141 = .ok (.getfield 31, 3) := by decide +kernel
theorem d_Mo_inside_144 : decode jM_Mo_inside.2.1 144 = .ok (.iload 4, 2) := by decide +kernel
theorem d_Mo_inside_146 : decode jM_Mo_inside.2.1 146 = .ok (.iaload, 1) := by decide +kernel
theorem d_Mo_inside_147 : decode jM_Mo_inside.2.1 147 = .ok (.imul, 1) := by decide +kernel
theorem d_Mo_inside_148 : decode jM_Mo_inside.2.1 148 = .ok (.aload_n 0, 1) := by decide +kernel
theorem d_Mo_inside_149 : decode jM_Mo_inside.2.1 149 = .ok (.getfield 31, 3) := by decide +kernel
theorem d_Mo_inside_152 : decode jM_Mo_inside.2.1 152 = .ok (.iload 5, 2) := by decide +kernel
theorem d_Mo_inside_154 : decode jM_Mo_inside.2.1 154 = .ok (.iaload, 1) := by decide +kernel
theorem d_Mo_inside_155 : decode jM_Mo_inside.2.1 155 = .ok (.iadd, 1) := by decide +kernel
theorem d_Mo_inside_156 : decode jM_Mo_inside.2.1 156 = .ok (.baload, 1) := by decide +kernel
theorem d_Mo_inside_157 : decode jM_Mo_inside.2.1 157 = .ok (.ifCond .eq 7, 3) := by decide +kernel
theorem d_Mo_inside_160 : decode jM_Mo_inside.2.1 160 = .ok (.iconst 1, 1) := by decide +kernel
theorem d_Mo_inside_161 : decode jM_Mo_inside.2.1 161 = .ok (.goto 4, 3) := by decide +kernel
theorem d_Mo_inside_164 : decode jM_Mo_inside.2.1 164 = .ok (.iconst 0, 1) := by decide +kernel
theorem d_Mo_inside_165 : decode jM_Mo_inside.2.1 165 = .ok (.istore_n 3, 1) := by decide +kernel
theorem d_Mo_inside_166 : decode jM_Mo_inside.2.1 166 = .ok (.iinc 4 1, 3) := by decide +kernel
theorem d_Mo_inside_169 : decode jM_Mo_inside.2.1 169 = .ok (.goto (-86), 3) := by decide +kernel
theorem d_Mo_inside_172 : decode jM_Mo_inside.2.1 172 = .ok (.iload_n 3, 1) := by decide +kernel
theorem d_Mo_inside_173 : decode jM_Mo_inside.2.1 173 = .ok (.ireturn, 1) := by decide +kernel
theorem d_Mo_compare_0 : decode jM_Mo_compare.2.1 0 = .ok (.aload_n 0, 1) := by decide +kernel
theorem d_Mo_compare_1 : decode jM_Mo_compare.2.1 1 = .ok (.getfield 7, 3) := by decide +kernel
theorem d_Mo_compare_4 : decode jM_Mo_compare.2.1 4 = .ok (.iload_n 1, 1) := by decide +kernel
theorem d_Mo_compare_5 : decode jM_Mo_compare.2.1 5 = .ok (.iaload, 1) := by decide +kernel
theorem d_Mo_compare_6 : decode jM_Mo_compare.2.1 6 = .ok (.bipush 6, 2) := by decide +kernel
theorem d_Mo_compare_8 : decode jM_Mo_compare.2.1 8 = .ok (.if_icmp .eq 14, 3) := by decide +kernel
theorem d_Mo_compare_11 : decode jM_Mo_compare.2.1 11 = .ok (.aload_n 0, 1) := by decide +kernel
theorem d_Mo_compare_12 : decode jM_Mo_compare.2.1 12 = .ok (.getfield 7, 3) := by decide +kernel
theorem d_Mo_compare_15 : decode jM_Mo_compare.2.1 15 = .ok (.iload_n 2, 1) := by decide +kernel
theorem d_Mo_compare_16 : decode jM_Mo_compare.2.1 16 = .ok (.iaload, 1) := by decide +kernel
theorem d_Mo_compare_17 : decode jM_Mo_compare.2.1 17 = .ok (.bipush 6, 2) := by decide +kernel
theorem d_Mo_compare_19 : decode jM_Mo_compare.2.1 19 = .ok (.if_icmp .ne 7, 3) := by decide +kernel
theorem d_Mo_compare_22 : decode jM_Mo_compare.2.1 22 = .ok (.iconst 1, 1) := by decide +kernel
theorem d_Mo_compare_23 : decode jM_Mo_compare.2.1 23 = .ok (.goto 4, 3) := by decide +kernel
theorem d_Mo_compare_26 : decode jM_Mo_compare.2.1 26 = .ok (.iconst 0, 1) := by decide +kernel
theorem d_Mo_compare_27 : decode jM_Mo_compare.2.1 27 = .ok (.istore_n 3, 1) := by decide +kernel
theorem d_Mo_compare_28 : decode jM_Mo_compare.2.1 28 = .ok (.aload_n 0, 1) := by decide +kernel
theorem d_Mo_compare_29 : decode jM_Mo_compare.2.1 29 = .ok (.getfield 7, 3) := by decide +kernel
theorem d_Mo_compare_32 : decode jM_Mo_compare.2.1 32 = .ok (.iload_n 1, 1) := by decide +kernel
theorem d_Mo_compare_33 : decode jM_Mo_compare.2.1 33 = .ok (.iaload, 1) := by decide +kernel
theorem d_Mo_compare_34 : decode jM_Mo_compare.2.1 34 = .ok (.iconst 4, 1) := by decide +kernel
theorem d_Mo_compare_35 : decode jM_Mo_compare.2.1 35 = .ok (.if_icmp .eq 14, 3) := by decide +kernel
theorem d_Mo_compare_38 : decode jM_Mo_compare.2.1 38 = .ok (.aload_n 0, 1) := by decide +kernel
theorem d_Mo_compare_39 : decode jM_Mo_compare.2.1 39 = .ok (.getfield 7, 3) := by decide +kernel
theorem d_Mo_compare_42 : decode jM_Mo_compare.2.1 42 = .ok (.iload_n 1, 1) := by decide +kernel
theorem d_Mo_compare_43 : decode jM_Mo_compare.2.1 43 = .ok (.iaload, 1) := by decide +kernel
theorem d_Mo_compare_44 : decode jM_Mo_compare.2.1 44 = .ok (.bipush 7, 2) := by decide +kernel
theorem d_Mo_compare_46 : decode jM_Mo_compare.2.1 46 = .ok (.if_icmp .ne 7, 3) := by decide +kernel
theorem d_Mo_compare_49 : decode jM_Mo_compare.2.1 49 = .ok (.iconst 1, 1) := by decide +kernel
theorem d_Mo_compare_50 : decode jM_Mo_compare.2.1 50 = .ok (.goto 4, 3) := by decide +kernel
theorem d_Mo_compare_53 : decode jM_Mo_compare.2.1 53 = .ok (.iconst 0, 1) := by decide +kernel
theorem d_Mo_compare_54 : decode jM_Mo_compare.2.1 54 = .ok (.istore 4, 2) := by decide +kernel
theorem d_Mo_compare_56 : decode jM_Mo_compare.2.1 56 = .ok (.aload_n 0, 1) := by decide +kernel
theorem d_Mo_compare_57 : decode jM_Mo_compare.2.1 57 = .ok (.getfield 7, 3) := by decide +kernel
theorem d_Mo_compare_60 : decode jM_Mo_compare.2.1 60 = .ok (.iload_n 1, 1) := by decide +kernel
theorem d_Mo_compare_61 : decode jM_Mo_compare.2.1 61 = .ok (.iaload, 1) := by decide +kernel
theorem d_Mo_compare_62 : decode jM_Mo_compare.2.1 62 = .ok (.aload_n 0, 1) := by decide +kernel
theorem d_Mo_compare_63 : decode jM_Mo_compare.2.1 63 = .ok (.getfield 7, 3) := by decide +kernel
theorem d_Mo_compare_66 : decode jM_Mo_compare.2.1 66 = .ok (.iload_n 2, 1) := by decide +kernel
theorem d_Mo_compare_67 : decode jM_Mo_compare.2.1 67 = .ok (.iaload, 1) := by decide +kernel
theorem d_Mo_compare_68 : decode jM_Mo_compare.2.1 68 = .ok (.if_icmp .ne 31, 3) := by decide +kernel
theorem d_Mo_compare_71 : decode jM_Mo_compare.2.1 71 = .ok (.iload 4, 2) := by decide +kernel
theorem d_Mo_compare_73 : decode jM_Mo_compare.2.1 73 = .ok (.ifCond .eq 18, 3) := by decide +kernel
theorem d_Mo_compare_76 : decode jM_Mo_compare.2.1 76 = .ok (.aload_n 0, 1) := by decide +kernel
theorem d_Mo_compare_77 : decode jM_Mo_compare.2.1 77 = .ok (.getfield 13, 3) := by decide +kernel
theorem d_Mo_compare_80 : decode jM_Mo_compare.2.1 80 = .ok (.iload_n 1, 1) := by decide +kernel
theorem d_Mo_compare_81 : decode jM_Mo_compare.2.1 81 = .ok (.iaload, 1) := by decide +kernel
theorem d_Mo_compare_82 : decode jM_Mo_compare.2.1 82 = .ok (.aload_n 0, 1) := by decide +kernel
theorem d_Mo_compare_83 : decode jM_Mo_compare.2.1 83 = .ok (.getfield 13, 3) := by decide +kernel
theorem d_Mo_compare_86 : decode jM_Mo_compare.2.1 86 = .ok (.iload_n 2, 1) := by decide +kernel
theorem d_Mo_compare_87 : decode jM_Mo_compare.2.1 87 = .ok (.iaload, 1) := by decide +kernel
theorem d_Mo_compare_88 : decode jM_Mo_compare.2.1 88 = .ok (.if_icmp .ne 7, 3) := by decide +kernel
theorem d_Mo_compare_91 : decode jM_Mo_compare.2.1 91 = .ok (.iconst 1, 1) := by decide +kernel
theorem d_Mo_compare_92 : decode jM_Mo_compare.2.1 92 = .ok (.goto 32, 3) := by decide +kernel
theorem d_Mo_compare_95 : decode jM_Mo_compare.2.1 95 = .ok (.iconst 0, 1) := by decide +kernel
theorem d_Mo_compare_96 : decode jM_Mo_compare.2.1 96 = .ok (.goto 28, 3) := by decide +kernel
theorem d_Mo_compare_99 : decode jM_Mo_compare.2.1 99 = .ok (.aload_n 0, 1) := by decide +kernel
theorem d_Mo_compare_100 : decode jM_Mo_compare.2.1 100 = .ok (.getfield 7, 3) := by decide +kernel
theorem d_Mo_compare_103 : decode jM_Mo_compare.2.1 103 = .ok (.iload_n 1, 1) := by decide +kernel
theorem d_Mo_compare_104 : decode jM_Mo_compare.2.1 104 = .ok (.iaload, 1) := by decide +kernel
theorem d_Mo_compare_105 : decode jM_Mo_compare.2.1 105 = .ok (.iconst 3, 1) := by decide +kernel
theorem d_Mo_compare_106 : decode jM_Mo_compare.2.1 106 = .ok (.if_icmp .ne 17, 3) := by decide +kernel
theorem d_Mo_compare_109 : decode jM_Mo_compare.2.1 109 = .ok (.aload_n 0, 1) := by decide +kernel
theorem d_Mo_compare_110 : decode jM_Mo_compare.2.1 110 = .ok (.getfield 7, 3) := by decide +kernel
theorem d_Mo_compare_113 : decode jM_Mo_compare.2.1 113 = .ok (.iload_n 2, 1) := by decide +kernel
theorem d_Mo_compare_114 : decode jM_Mo_compare.2.1 114 = .ok (.iaload, 1) := by decide +kernel
theorem d_Mo_compare_115 : decode jM_Mo_compare.2.1 115 = .ok (.iconst 2, 1) := by decide +kernel
theorem d_Mo_compare_116 : decode jM_Mo_compare.2.1 116 = .ok (.if_icmp .ne 7, 3) := by decide +kernel
theorem d_Mo_compare_119 : decode jM_Mo_compare.2.1 119 = .ok (.iconst 1, 1) := by decide +kernel
theorem d_Mo_compare_120 : decode jM_Mo_compare.2.1 120 = .ok (.goto 4, 3) := by decide +kernel
theorem d_Mo_compare_123 : decode jM_Mo_compare.2.1 123 = .ok (.iconst 0, 1) := by decide +kernel
theorem d_Mo_compare_124 : decode jM_Mo_compare.2.1 124 = .ok (.istore 5, 2) := by decide +kernel
theorem d_Mo_compare_126 : decode jM_Mo_compare.2.1 126 = .ok (.aload_n 0, 1) := by decide +kernel
theorem d_Mo_compare_127 : decode jM_Mo_compare.2.1 127 = .ok (.getfield 7, 3) := by decide +kernel
theorem d_Mo_compare_130 : decode jM_Mo_compare.2.1 130 = .ok (.iload_n 1, 1) := by decide +kernel
theorem d_Mo_compare_131 : decode jM_Mo_compare.2.1 131 = .ok (.iaload, 1) := by decide +kernel
theorem d_Mo_compare_132 : decode jM_Mo_compare.2.1 132 = .ok (.iconst 5, 1) := by decide +kernel
theorem d_Mo_compare_133 : decode jM_Mo_compare.2.1 133 = .ok (.if_icmp .ne 32, 3) := by decide +kernel
theorem d_Mo_compare_136 : decode jM_Mo_compare.2.1 136 = .ok (.iload 5, 2) := by decide +kernel
theorem d_Mo_compare_138 : decode jM_Mo_compare.2.1 138 = .ok (.ifCond .eq 27, 3) := by decide +kernel
theorem d_Mo_compare_141 : decode jM_Mo_compare.2.1 141 = .ok (.aload_n 0, 1) := by decide +kernel
theorem d_Mo_compare_142 : decode jM_Mo_compare.2.1 142 = .ok (.getfield 42, 3) := by decide +kernel
theorem d_Mo_compare_145 : decode jM_Mo_compare.2.1 145 = .ok (.bipush 24, 2) := by decide +kernel
theorem d_Mo_compare_147 : decode jM_Mo_compare.2.1 147 = .ok (.aload_n 0, 1) := by decide +kernel
theorem d_Mo_compare_148 : decode jM_Mo_compare.2.1 148 = .ok (.getfield 16, 3) := by decide +kernel
theorem d_Mo_compare_151 : decode jM_Mo_compare.2.1 151 = .ok (.iload_n 1, 1) := by decide +kernel
theorem d_Mo_compare_152 : decode jM_Mo_compare.2.1 152 = .ok (.iaload, 1) := by decide +kernel
theorem d_Mo_compare_153 : decode jM_Mo_compare.2.1 153 = .ok (.imul, 1) := by decide +kernel
theorem d_Mo_compare_154 : decode jM_Mo_compare.2.1 154 = .ok (.aload_n 0, 1) := by decide +kernel
theorem d_Mo_compare_155 : decode jM_Mo_compare.2.1 155 = .ok (.getfield 16, 3) := by decide +kernel
theorem d_Mo_compare_158 : decode jM_Mo_compare.2.1 158 = .ok (.iload_n 2, 1) := by decide +kernel
theorem d_Mo_compare_159 : decode jM_Mo_compare.2.1 159 = .ok (.iaload, 1) := by decide +kernel
theorem d_Mo_compare_160 : decode jM_Mo_compare.2.1 160 = .ok (.iadd, 1) := by decide +kernel
theorem d_Mo_compare_161 : decode jM_Mo_compare.2.1 161 = .ok (.baload, 1) := by decide +kernel
theorem d_Mo_compare_162 : decode jM_Mo_compare.2.1 162 = .ok (.ifCond .eq 7, 3) := by decide +kernel
theorem d_Mo_compare_165 : decode jM_Mo_compare.2.1 165 = .ok (.iconst 1, 1) := by decide +kernel
theorem d_Mo_compare_166 : decode jM_Mo_compare.2.1 166 = .ok (.goto 4, 3) := by decide +kernel
theorem d_Mo_compare_169 : decode jM_Mo_compare.2.1 169 = .ok (.iconst 0, 1) := by decide +kernel
theorem d_Mo_compare_170 : decode jM_Mo_compare.2.1 170 = .ok (.istore 6, 2) := by decide +kernel
theorem d_Mo_compare_172 : decode jM_Mo_compare.2.1 172 = .ok (.aload_n 0, 1) := by decide +kernel
theorem d_Mo_compare_173 : decode jM_Mo_compare.2.1 173 = .ok (.getfield 42, 3) := by decide +kernel
theorem d_Mo_compare_176 : decode jM_Mo_compare.2.1 176 = .ok (.bipush 24, 2) := by decide +kernel
theorem d_Mo_compare_178 : decode jM_Mo_compare.2.1 178 = .ok (.iload_n 1, 1) := by decide +kernel
theorem d_Mo_compare_179 : decode jM_Mo_compare.2.1 179 = .ok (.imul, 1) := by decide +kernel
theorem d_Mo_compare_180 : decode jM_Mo_compare.2.1 180 = .ok (.iload_n 2, 1) := by decide +kernel
theorem d_Mo_compare_181 : decode jM_Mo_compare.2.1 181 = .ok (.iadd, 1) := by decide +kernel
theorem d_Mo_compare_182 : decode jM_Mo_compare.2.1 182 = .ok (.iload_n 3, 1) := by decide +kernel
theorem d_Mo_compare_183 : decode jM_Mo_compare.2.1 183 = .ok (.ifCond .ne 13, 3) := by decide +kernel
theorem d_Mo_compare_186 : decode jM_Mo_compare.2.1 186 = .ok (.iload 5, 2) := by decide +kernel
theorem d_Mo_compare_188 : decode jM_Mo_compare.2.1 188 = .ok (.ifCond .eq 12, 3) := by decide +kernel
theorem d_Mo_compare_191 : decode jM_Mo_compare.2.1 191 = .ok (.iload 6, 2) := by decide +kernel
theorem d_Mo_compare_193 : decode jM_Mo_compare.2.1 193 = .ok (.ifCond .eq 7, 3) := by decide +kernel
theorem d_Mo_compare_196 : decode jM_Mo_compare.2.1 196 = .ok (.iconst 1, 1) := by decide +kernel
theorem d_Mo_compare_197 : decode jM_Mo_compare.2.1 197 = .ok (.goto 4, 3) := by decide +kernel
theorem d_Mo_compare_200 : decode jM_Mo_compare.2.1 200 = .ok (.iconst 0, 1) := by decide +kernel
theorem d_Mo_compare_201 : decode jM_Mo_compare.2.1 201 = .ok (.bastore, 1) := by decide +kernel
theorem d_Mo_compare_202 : decode jM_Mo_compare.2.1 202 = .ok (.aload_n 0, 1) := by decide +kernel
theorem d_Mo_compare_203 : decode jM_Mo_compare.2.1 203 = .ok (.getfield 45, 3) := by decide +kernel
theorem d_Mo_compare_206 : decode jM_Mo_compare.2.1 206 = .ok (.bipush 24, 2) := by decide +kernel
theorem d_Mo_compare_208 : decode jM_Mo_compare.2.1 208 = .ok (.iload_n 1, 1) := by decide +kernel
theorem d_Mo_compare_209 : decode jM_Mo_compare.2.1 209 = .ok (.imul, 1) := by decide +kernel
theorem d_Mo_compare_210 : decode jM_Mo_compare.2.1 210 = .ok (.iload_n 2, 1) := by decide +kernel
theorem d_Mo_compare_211 : decode jM_Mo_compare.2.1 211 = .ok (.iadd, 1) := by decide +kernel
theorem d_Mo_compare_212 : decode jM_Mo_compare.2.1 212 = .ok (.aload_n 0, 1) := by decide +kernel
theorem d_Mo_compare_213 : decode jM_Mo_compare.2.1 213 = .ok (.getfield 7, 3) := by decide +kernel
theorem d_Mo_compare_216 : decode jM_Mo_compare.2.1 216 = .ok (.iload_n 2, 1) := by decide +kernel
theorem d_Mo_compare_217 : decode jM_Mo_compare.2.1 217 = .ok (.iaload, 1) := by decide +kernel
theorem d_Mo_compare_218 : decode jM_Mo_compare.2.1 218 = .ok (.bipush 6, 2) := by decide +kernel
theorem d_Mo_compare_220 : decode jM_Mo_compare.2.1 220 = .ok (.if_icmp .ne 49, 3) := by decide +kernel
theorem d_Mo_compare_223 : decode jM_Mo_compare.2.1 223 = .ok (.aload_n 0, 1) := by decide +kernel
theorem d_Mo_compare_224 : decode jM_Mo_compare.2.1 224 = .ok (.getfield 45, 3) := by decide +kernel
theorem d_Mo_compare_227 : decode jM_Mo_compare.2.1 227 = .ok (.bipush 24, 2) := by decide +kernel
theorem d_Mo_compare_229 : decode jM_Mo_compare.2.1 229 = .ok (.iload_n 1, 1) := by decide +kernel
theorem d_Mo_compare_230 : decode jM_Mo_compare.2.1 230 = .ok (.imul, 1) := by decide +kernel
theorem d_Mo_compare_231 : decode jM_Mo_compare.2.1 231 = .ok (.aload_n 0, 1) := by decide +kernel
theorem d_Mo_compare_232 : decode jM_Mo_compare.2.1 232 = .ok (.getfield 16, 3) := by decide +kernel
theorem d_Mo_compare_235 : decode jM_Mo_compare.2.1 235 = .ok (.iload_n 2, 1) := by decide +kernel
theorem d_Mo_compare_236 : decode jM_Mo_compare.2.1 236 = .ok (.iaload, 1) := by decide +kernel
theorem d_Mo_compare_237 : decode jM_Mo_compare.2.1 237 = .ok (.iadd, 1) := by decide +kernel
theorem d_Mo_compare_238 : decode jM_Mo_compare.2.1 238 = .ok (.baload, 1) := by decide +kernel
theorem d_Mo_compare_239 : decode jM_Mo_compare.2.1 239 = .ok (.ifCond .eq 26, 3) := by decide +kernel
theorem d_Mo_compare_242 : decode jM_Mo_compare.2.1 242 = .ok (.aload_n 0, 1) := by decide +kernel
theorem d_Mo_compare_243 : decode jM_Mo_compare.2.1 243 = .ok (.getfield 45, 3) := by decide +kernel
theorem d_Mo_compare_246 : decode jM_Mo_compare.2.1 246 = .ok (.bipush 24, 2) := by decide +kernel
theorem d_Mo_compare_248 : decode jM_Mo_compare.2.1 248 = .ok (.iload_n 1, 1) := by decide +kernel
theorem d_Mo_compare_249 : decode jM_Mo_compare.2.1 249 = .ok (.imul, 1) := by decide +kernel
theorem d_Mo_compare_250 : decode jM_Mo_compare.2.1 250 = .ok (.aload_n 0, 1) := by decide +kernel
theorem d_Mo_compare_251 : decode jM_Mo_compare.2.1 251 = .ok (.getfield 19, 3) := by decide +kernel
theorem d_Mo_compare_254 : decode jM_Mo_compare.2.1 254 = .ok (.iload_n 2, 1) := by decide +kernel
theorem d_Mo_compare_255 : decode jM_Mo_compare.2.1 255 = .ok (.iaload, 1) := by decide +kernel
theorem d_Mo_compare_256 : decode jM_Mo_compare.2.1 256 = .ok (.iadd, 1) := by decide +kernel
theorem d_Mo_compare_257 : decode jM_Mo_compare.2.1 257 = .ok (.baload, 1) := by decide +kernel
theorem d_Mo_compare_258 : decode jM_Mo_compare.2.1 258 = .ok (.ifCond .eq 7, 3) := by decide +kernel
theorem d_Mo_compare_261 : decode jM_Mo_compare.2.1 261 = .ok (.iconst 1, 1) := by decide +kernel
theorem d_Mo_compare_262 : decode jM_Mo_compare.2.1 262 = .ok (.goto 73, 3) := by decide +kernel
theorem d_Mo_compare_265 : decode jM_Mo_compare.2.1 265 = .ok (.iconst 0, 1) := by decide +kernel
theorem d_Mo_compare_266 : decode jM_Mo_compare.2.1 266 = .ok (.goto 69, 3) := by decide +kernel
theorem d_Mo_compare_269 : decode jM_Mo_compare.2.1 269 = .ok (.aload_n 0, 1) := by decide +kernel
theorem d_Mo_compare_270 : decode jM_Mo_compare.2.1 270 = .ok (.getfield 7, 3) := by decide +kernel
theorem d_Mo_compare_273 : decode jM_Mo_compare.2.1 273 = .ok (.iload_n 1, 1) := by decide +kernel
theorem d_Mo_compare_274 : decode jM_Mo_compare.2.1 274 = .ok (.iaload, 1) := by decide +kernel
theorem d_Mo_compare_275 : decode jM_Mo_compare.2.1 275 = .ok (.bipush 6, 2) := by decide +kernel
theorem d_Mo_compare_277 : decode jM_Mo_compare.2.1 277 = .ok (.if_icmp .ne 39, 3) := by decide +kernel
theorem d_Mo_compare_280 : decode jM_Mo_compare.2.1 280 = .ok (.aload_n 0, 1) := by decide +kernel
theorem d_Mo_compare_281 : decode jM_Mo_compare.2.1 281 = .ok (.iload_n 1, 1) := by decide +kernel
theorem d_Mo_compare_282 : decode jM_Mo_compare.2.1 282 = .ok (.iload_n 2, 1) := by decide +kernel
theorem d_Mo_compare_283 : decode jM_Mo_compare.2.1 283 = .ok (.invokevirtual 110, 3) := by decide +kernel
theorem d_Mo_compare_286 : decode jM_Mo_compare.2.1 286 = .ok (.ifCond .lt 26, 3) := by decide +kernel
theorem d_Mo_compare_289 : decode jM_Mo_compare.2.1 289 = .ok (.aload_n 0, 1) := by decide +kernel
theorem d_Mo_compare_290 : decode jM_Mo_compare.2.1 290 = .ok (.getfield 45, 3) := by decide +kernel
theorem d_Mo_compare_293 : decode jM_Mo_compare.2.1 293 = .ok (.bipush 24, 2) := by decide +kernel
theorem d_Mo_compare_295 : decode jM_Mo_compare.2.1 295 = .ok (.aload_n 0, 1) := by decide +kernel
theorem d_Mo_compare_296 : decode jM_Mo_compare.2.1 296 = .ok (.iload_n 1, 1) := by decide +kernel
theorem d_Mo_compare_297 : decode jM_Mo_compare.2.1 297 = .ok (.iload_n 2, 1) := by decide +kernel
theorem d_Mo_compare_298 : decode jM_Mo_compare.2.1 298 = .ok (.invokevirtual 114, 3) := by decide +kernel
theorem d_Mo_compare_301 : decode jM_Mo_compare.2.1 301 = .ok (.imul, 1) := by decide +kernel
theorem d_Mo_compare_302 : decode jM_Mo_compare.2.1 302 = .ok (.iload_n 2, 1) := by decide +kernel
theorem d_Mo_compare_303 : decode jM_Mo_compare.2.1 303 = .ok (.iadd, 1) := by decide +kernel
theorem d_Mo_compare_304 : decode jM_Mo_compare.2.1 304 = .ok (.baload, 1) := by decide +kernel
theorem d_Mo_compare_305 : decode jM_Mo_compare.2.1 305 = .ok (.ifCond .eq 7, 3) := by decide +kernel
theorem d_Mo_compare_308 : decode jM_Mo_compare.2.1 308 = .ok (.iconst 1, 1) := by decide +kernel
theorem d_Mo_compare_309 : decode jM_Mo_compare.2.1 309 = .ok (.goto 26, 3) := by decide +kernel
theorem d_Mo_compare_312 : decode jM_Mo_compare.2.1 312 = .ok (.iconst 0, 1) := by decide +kernel
theorem d_Mo_compare_313 : decode jM_Mo_compare.2.1 313 = .ok (.goto 22, 3) := by decide +kernel
theorem d_Mo_compare_316 : decode jM_Mo_compare.2.1 316 = .ok (.iload 5, 2) := by decide +kernel
theorem d_Mo_compare_318 : decode jM_Mo_compare.2.1 318 = .ok (.ifCond .eq 16, 3) := by decide +kernel
theorem d_Mo_compare_321 : decode jM_Mo_compare.2.1 321 = .ok (.aload_n 0, 1) := by decide +kernel
theorem d_Mo_compare_322 : decode jM_Mo_compare.2.1 322 = .ok (.iload_n 1, 1) := by decide +kernel
theorem d_Mo_compare_323 : decode jM_Mo_compare.2.1 323 = .ok (.iload_n 2, 1) := by decide +kernel
theorem d_Mo_compare_324 : decode jM_Mo_compare.2.1 324 = .ok (.invokevirtual 117, 3) := by decide +kernel
theorem d_Mo_compare_327 : decode jM_Mo_compare.2.1 327 = .ok (.ifCond .eq 7, 3) := by decide +kernel
theorem d_Mo_compare_330 : decode jM_Mo_compare.2.1 330 = .ok (.iconst 1, 1) := by decide +kernel
theorem d_Mo_compare_331 : decode jM_Mo_compare.2.1 331 = .ok (.goto 4, 3) := by decide +kernel
theorem d_Mo_compare_334 : decode jM_Mo_compare.2.1 334 = .ok (.iconst 0, 1) := by decide +kernel
theorem d_Mo_compare_335 : decode jM_Mo_compare.2.1 335 = .ok (.bastore, 1) := by decide +kernel
theorem d_Mo_compare_336 : decode jM_Mo_compare.2.1 336 = .ok (.return_, 1) := by decide +kernel
