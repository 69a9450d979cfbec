theorem d_Registry_countOf_17 : decode jM_Registry_countOf.2.1 17 = .ok (.iload 4, 2) := by decide +kernel
theorem d_Registry_countOf_19 : decode jM_Registry_countOf.2.1 19 = .ok (.iconst 0, 1) := by decide +kernel
theorem d_Registry_countOf_20 : decode jM_Registry_countOf.2.1 20 = .ok (.invokevirtual 30, 3) := by decide +kernel
theorem d_Registry_countOf_23 : decode jM_Registry_countOf.2.1 23 = .ok (.iload_n 1, 1) := by decide +kernel
theorem d_Registry_countOf_24 : decode jM_Registry_countOf.2.1 24 = .ok (.if_icmp .ne 6, 3) := by decide +kernel
theorem d_Registry_countOf_27 : decode jM_Registry_countOf.2.1 27 = .ok (.iinc 3 1, 3) := by decide +kernel
theorem d_Registry_countOf_30 : decode jM_Registry_countOf.2.1 30 = .ok (.iinc 4 1, 3) := by decide +kernel
theorem d_Registry_countOf_33 : decode jM_Registry_countOf.2.1 33 = .ok (.goto (-23), 3) := by decide +kernel
theorem d_Registry_countOf_36 : decode jM_Registry_countOf.2.1 36 = .ok (.iload_n 3, 1) := by decide +kernel
theorem d_Registry_countOf_37 : decode jM_Registry_countOf.2.1 37 = .ok (.ireturn, 1) := by decide +kernel
theorem d_Registry_schemaOf_0 : decode jM_Registry_schemaOf.2.1 0 = .ok (.aload_n 0, 1) := by decide +kernel
theorem d_Registry_schemaOf_1 : decode jM_Registry_schemaOf.2.1 1 = .ok (.invokevirtual 26, 3) := by decide +kernel
theorem d_Registry_schemaOf_4 : decode jM_Registry_schemaOf.2.1 4 = .ok (.istore_n 3, 1) := by decide +kernel
theorem d_Registry_schemaOf_5 : decode jM_Registry_schemaOf.2.1 5 = .ok (.iconst 0, 1) := by decide +kernel
theorem d_Registry_schemaOf_6 : decode jM_Registry_schemaOf.2.1 6 = .ok (.istore 4, 2) := by decide +kernel
theorem d_Registry_schemaOf_8 : decode jM_Registry_schemaOf.2.1 8 = .ok (.iconst 0, 1) := by decide +kernel
theorem d_Registry_schemaOf_9 : decode jM_Registry_schemaOf.2.1 9 = .ok (.istore 5, 2) := by decide +kernel
theorem d_Registry_schemaOf_11 : decode jM_Registry_schemaOf.2.1 11 = .ok (.iload 5, 2) := by decide +kernel
theorem d_Registry_schemaOf_13 : decode jM_Registry_schemaOf.2.1 13 = .ok (.iload_n 3, 1) := by decide +kernel
theorem d_Registry_schemaOf_14 : decode jM_Registry_schemaOf.2.1 14 = .ok (.if_icmp .ge 37, 3) := by decide +kernel
theorem d_Registry_schemaOf_17 : decode jM_Registry_schemaOf.2.1 17 = .ok (.aload_n 0, 1) := by decide +kernel
theorem d_Registry_schemaOf_18 : decode jM_Registry_schemaOf.2.1 18 = .ok (.iload 5, 2) := by decide +kernel
theorem d_Registry_schemaOf_20 : decode jM_Registry_schemaOf.2.1 20 = .ok (.iconst 0, 1) := by decide +kernel
theorem d_Registry_schemaOf_21 : decode jM_Registry_schemaOf.2.1 21 = .ok (.invokevirtual 30, 3) := by decide +kernel
theorem d_Registry_schemaOf_24 : decode jM_Registry_schemaOf.2.1 24 = .ok (.iload_n 1, 1) := by decide +kernel
theorem d_Registry_schemaOf_25 : decode jM_Registry_schemaOf.2.1 25 = .ok (.if_icmp .ne 20, 3) := by decide +kernel
theorem d_Registry_schemaOf_28 : decode jM_Registry_schemaOf.2.1 28 = .ok (.iload 4, 2) := by decide +kernel
theorem d_Registry_schemaOf_30 : decode jM_Registry_schemaOf.2.1 30 = .ok (.iload_n 2, 1) := by decide +kernel
theorem d_Registry_schemaOf_31 : decode jM_Registry_schemaOf.2.1 31 = .ok (.if_icmp .ne 11, 3) := by decide +kernel
theorem d_Registry_schemaOf_34 : decode jM_Registry_schemaOf.2.1 34 = .ok (.aload_n 0, 1) := by decide +kernel
theorem d_Registry_schemaOf_35 : decode jM_Registry_schemaOf.2.1 35 = .ok (.iload 5, 2) := by decide +kernel
theorem d_Registry_schemaOf_37 : decode jM_Registry_schemaOf.2.1 37 = .ok (.iconst 1, 1) := by decide +kernel
theorem d_Registry_schemaOf_38 : decode jM_Registry_schemaOf.2.1 38 = .ok (.invokevirtual 30, 3) := by decide +kernel
theorem d_Registry_schemaOf_41 : decode jM_Registry_schemaOf.2.1 41 = .ok (.ireturn, 1) := by decide +kernel
theorem d_Registry_schemaOf_42 : decode jM_Registry_schemaOf.2.1 42 = .ok (.iinc 4 1, 3) := by decide +kernel
theorem d_Registry_schemaOf_45 : decode jM_Registry_schemaOf.2.1 45 = .ok (.iinc 5 1, 3) := by decide +kernel
theorem d_Registry_schemaOf_48 : decode jM_Registry_schemaOf.2.1 48 = .ok (.goto (-37), 3) := by decide +kernel
theorem d_Registry_schemaOf_51 : decode jM_Registry_schemaOf.2.1 51 = .ok (.iconst (-1), 1) := by decide +kernel
theorem d_Registry_schemaOf_52 : decode jM_Registry_schemaOf.2.1 52 = .ok (.ireturn, 1) := by decide +kernel
theorem d_ST_readsVersions_0 : decode jM_ST_readsVersions.2.1 0 = .ok (.aload_n 0, 1) := by decide +kernel
theorem d_ST_readsVersions_1 : decode jM_ST_readsVersions.2.1 1 = .ok (.getfield 28, 3) := by decide +kernel
theorem d_ST_readsVersions_4 : decode jM_ST_readsVersions.2.1 4 = .ok (.iload_n 2, 1) := by decide +kernel
theorem d_ST_readsVersions_5 : decode jM_ST_readsVersions.2.1 5 = .ok (.invokevirtual 99, 3) := by decide +kernel
theorem d_ST_readsVersions_8 : decode jM_ST_readsVersions.2.1 8 = .ok (.istore_n 3, 1) := by decide +kernel
theorem d_ST_readsVersions_9 : decode jM_ST_readsVersions.2.1 9 = .ok (.iconst 0, 1) := by decide +kernel
theorem d_ST_readsVersions_10 : decode jM_ST_readsVersions.2.1 10 = .ok (.istore 4, 2) := by decide +kernel
theorem d_ST_readsVersions_12 : decode jM_ST_readsVersions.2.1 12 = .ok (.iload 4, 2) := by decide +kernel
theorem d_ST_readsVersions_14 : decode jM_ST_readsVersions.2.1 14 = .ok (.iload_n 3, 1) := by decide +kernel
theorem d_ST_readsVersions_15 : decode jM_ST_readsVersions.2.1 15 = .ok (.if_icmp .ge 44, 3) := by decide +kernel
theorem d_ST_readsVersions_18 : decode jM_ST_readsVersions.2.1 18 = .ok (.aload_n 0, 1) := by decide +kernel
theorem d_ST_readsVersions_19 : decode jM_ST_readsVersions.2.1 19 = .ok (.getfield 13, 3) := by decide +kernel
theorem d_ST_readsVersions_22 : decode jM_ST_readsVersions.2.1 22 = .ok (.aload_n 0, 1) := by decide +kernel
theorem d_ST_readsVersions_23 : decode jM_ST_readsVersions.2.1 23 = .ok (.getfield 28, 3) := by decide +kernel
theorem d_ST_readsVersions_26 : decode jM_ST_readsVersions.2.1 26 = .ok (.iload_n 2, 1) := by decide +kernel
theorem d_ST_readsVersions_27 : decode jM_ST_readsVersions.2.1 27 = .ok (.iload 4, 2) := by decide +kernel
theorem d_ST_readsVersions_29 : decode jM_ST_readsVersions.2.1 29 = .ok (.invokevirtual 110, 3) := by decide +kernel
theorem d_ST_readsVersions_32 : decode jM_ST_readsVersions.2.1 32 = .ok (.invokevirtual 61, 3) := by decide +kernel
theorem d_ST_readsVersions_35 : decode jM_ST_readsVersions.2.1 35 = .ok (.astore 5, 2) := by decide +kernel
theorem d_ST_readsVersions_37 : decode jM_ST_readsVersions.2.1 37 = .ok (.aload 5, 2) := by decide +kernel
theorem d_ST_readsVersions_39 : decode jM_ST_readsVersions.2.1 39 = .ok (.ifnull 12, 3) := by decide +kernel
theorem d_ST_readsVersions_42 : decode jM_ST_readsVersions.2.1 42 = .ok (.aload_n 1, 1) := by decide +kernel
theorem d_ST_readsVersions_43 : decode jM_ST_readsVersions.2.1 43 = .ok (.aload 5, 2) := by decide +kernel
theorem d_ST_readsVersions_45 : decode jM_ST_readsVersions.2.1 45 = .ok (.invokestatic 73, 3) := by decide +kernel
theorem d_ST_readsVersions_48 : decode jM_ST_readsVersions.2.1 48 = .ok (.ifCond .ne 5, 3) := by decide +kernel
theorem d_ST_readsVersions_51 : decode jM_ST_readsVersions.2.1 51 = .ok (.iconst 0, 1) := by decide +kernel
theorem d_ST_readsVersions_52 : decode jM_ST_readsVersions.2.1 52 = .ok (.ireturn, 1) := by decide +kernel
theorem d_ST_readsVersions_53 : decode jM_ST_readsVersions.2.1 53 = .ok (.iinc 4 1, 3) := by decide +kernel
theorem d_ST_readsVersions_56 : decode jM_ST_readsVersions.2.1 56 = .ok (.goto (-44), 3) := by decide +kernel
theorem d_ST_readsVersions_59 : decode jM_ST_readsVersions.2.1 59 = .ok (.iconst 1, 1) := by decide +kernel
theorem d_ST_readsVersions_60 : decode jM_ST_readsVersions.2.1 60 = .ok (.ireturn, 1) := by decide +kernel
theorem d_Bytes_append_0 : decode jM_Bytes_append.2.1 0 = .ok (.aload_n 0, 1) := by decide +kernel
theorem d_Bytes_append_1 : decode jM_Bytes_append.2.1 1 = .ok (.getfield 13, 3) := by decide +kernel
theorem d_Bytes_append_4 : decode jM_Bytes_append.2.1 4 = .ok (.aload_n 0, 1) := by decide +kernel
theorem d_Bytes_append_5 : decode jM_Bytes_append.2.1 5 = .ok (.getfield 7, 3) := by decide +kernel
theorem d_Bytes_append_8 : decode jM_Bytes_append.2.1 8 = .ok (.arraylength, 1) := by decide +kernel
theorem d_Bytes_append_9 : decode jM_Bytes_append.2.1 9 = .ok (.if_icmp .ge 23, 3) := by decide +kernel
theorem d_Bytes_append_12 : decode jM_Bytes_append.2.1 12 = .ok (.aload_n 0, 1) := by decide +kernel
theorem d_Bytes_append_13 : decode jM_Bytes_append.2.1 13 = .ok (.getfield 7, 3) := by decide +kernel
theorem d_Bytes_append_16 : decode jM_Bytes_append.2.1 16 = .ok (.aload_n 0, 1) := by decide +kernel
theorem d_Bytes_append_17 : decode jM_Bytes_append.2.1 17 = .ok (.getfield 13, 3) := by decide +kernel
theorem d_Bytes_append_20 : decode jM_Bytes_append.2.1 20 = .ok (.iload_n 1, 1) := by decide +kernel
theorem d_Bytes_append_21 : decode jM_Bytes_append.2.1 21 = .ok (.iastore, 1) := by decide +kernel
theorem d_Bytes_append_22 : decode jM_Bytes_append.2.1 22 = .ok (.aload_n 0, 1) := by decide +kernel
theorem d_Bytes_append_23 : decode jM_Bytes_append.2.1 23 = .ok (.dup, 1) := by decide +kernel
theorem d_Bytes_append_24 : decode jM_Bytes_append.2.1 24 = .ok (.getfield 13, 3) := by decide +kernel
theorem d_Bytes_append_27 : decode jM_Bytes_append.2.1 27 = .ok (.iconst 1, 1) := by decide +kernel
theorem d_Bytes_append_28 : decode jM_Bytes_append.2.1 28 = .ok (.iadd, 1) := by decide +kernel
theorem d_Bytes_append_29 : decode jM_Bytes_append.2.1 29 = .ok (.putfield 13, 3) := by decide +kernel
theorem d_Bytes_append_32 : decode jM_Bytes_append.2.1 32 = .ok (.return_, 1) := by decide +kernel
theorem d_Bytes_at_0 : decode jM_Bytes_at.2.1 0 = .ok (.iload_n 1, 1) := by decide +kernel
theorem d_Bytes_at_1 : decode jM_Bytes_at.2.1 1 = .ok (.ifCond .lt 20, 3) := by decide +kernel
theorem d_Bytes_at_4 : decode jM_Bytes_at.2.1 4 = .ok (.iload_n 1, 1) := by decide +kernel
theorem d_Bytes_at_5 : decode jM_Bytes_at.2.1 5 = .ok (.aload_n 0, 1) := by decide +kernel
theorem d_Bytes_at_6 : decode jM_Bytes_at.2.1 6 = .ok (.getfield 13, 3) := by decide +kernel
theorem d_Bytes_at_9 : decode jM_Bytes_at.2.1 9 = .ok (.if_icmp .ge 12, 3) := by decide +kernel
theorem d_Bytes_at_12 : decode jM_Bytes_at.2.1 12 = .ok (.aload_n 0, 1) := by decide +kernel
theorem d_Bytes_at_13 : decode jM_Bytes_at.2.1 13 = .ok (.getfield 7, 3) := by decide +kernel
theorem d_Bytes_at_16 : decode jM_Bytes_at.2.1 16 = .ok (.iload_n 1, 1) := by decide +kernel
theorem d_Bytes_at_17 : decode jM_Bytes_at.2.1 17 = .ok (.iaload, 1) := by decide +kernel
theorem d_Bytes_at_18 : decode jM_Bytes_at.2.1 18 = .ok (.goto 4, 3) := by decide +kernel
theorem d_Bytes_at_21 : decode jM_Bytes_at.2.1 21 = .ok (.iconst 0, 1) := by decide +kernel
theorem d_Bytes_at_22 : decode jM_Bytes_at.2.1 22 = .ok (.ireturn, 1) := by decide +kernel
theorem d_Disk_set_0 : decode jM_Disk_set.2.1 0 = .ok (.iload_n 1, 1) := by decide +kernel
theorem d_Disk_set_1 : decode jM_Disk_set.2.1 1 = .ok (.ifCond .lt 19, 3) := by decide +kernel
theorem d_Disk_set_4 : decode jM_Disk_set.2.1 4 = .ok (.iload_n 1, 1) := by decide +kernel
theorem d_Disk_set_5 : decode jM_Disk_set.2.1 5 = .ok (.aload_n 0, 1) := by decide +kernel
theorem d_Disk_set_6 : decode jM_Disk_set.2.1 6 = .ok (.getfield 9, 3) := by decide +kernel
theorem d_Disk_set_9 : decode jM_Disk_set.2.1 9 = .ok (.arraylength, 1) := by decide +kernel
theorem d_Disk_set_10 : decode jM_Disk_set.2.1 10 = .ok (.if_icmp .ge 10, 3) := by decide +kernel
theorem d_Disk_set_13 : decode jM_Disk_set.2.1 13 = .ok (.aload_n 0, 1) := by decide +kernel
theorem d_Disk_set_14 : decode jM_Disk_set.2.1 14 = .ok (.getfield 9, 3) := by decide +kernel
theorem d_Disk_set_17 : decode jM_Disk_set.2.1 17 = .ok (.iload_n 1, 1) := by decide +kernel
theorem d_Disk_set_18 : decode jM_Disk_set.2.1 18 = .ok (.iload_n 2, 1) := by decide +kernel
theorem d_Disk_set_19 : decode jM_Disk_set.2.1 19 = .ok (.iastore, 1) := by decide +kernel
theorem d_Disk_set_20 : decode jM_Disk_set.2.1 20 = .ok (.return_, 1) := by decide +kernel
theorem d_Disk_put_0 : decode jM_Disk_put.2.1 0 = .ok (.aload_n 0, 1) := by decide +kernel
theorem d_Disk_put_1 : decode jM_Disk_put.2.1 1 = .ok (.getfield 17, 3) := by decide +kernel
theorem d_Disk_put_4 : decode jM_Disk_put.2.1 4 = .ok (.ifCond .ne 15, 3) := by decide +kernel
theorem d_Disk_put_7 : decode jM_Disk_put.2.1 7 = .ok (.aload_n 0, 1) := by decide +kernel
theorem d_Disk_put_8 : decode jM_Disk_put.2.1 8 = .ok (.iconst 0, 1) := by decide +kernel
theorem d_Disk_put_9 : decode jM_Disk_put.2.1 9 = .ok (.putfield 13, 3) := by decide +kernel
theorem d_Disk_put_12 : decode jM_Disk_put.2.1 12 = .ok (.aload_n 0, 1) := by decide +kernel
theorem d_Disk_put_13 : decode jM_Disk_put.2.1 13 = .ok (.iconst (-1), 1) := by decide +kernel
theorem d_Disk_put_14 : decode jM_Disk_put.2.1 14 = .ok (.putfield 17, 3) := by decide +kernel
theorem d_Disk_put_17 : decode jM_Disk_put.2.1 17 = .ok (.iconst 0, 1) := by decide +kernel
theorem d_Disk_put_18 : decode jM_Disk_put.2.1 18 = .ok (.ireturn, 1) := by decide +kernel
theorem d_Disk_put_19 : decode jM_Disk_put.2.1 19 = .ok (.iconst 0, 1) := by decide +kernel
theorem d_Disk_put_20 : decode jM_Disk_put.2.1 20 = .ok (.istore 4, 2) := by decide +kernel
theorem d_Disk_put_22 : decode jM_Disk_put.2.1 22 = .ok (.iload 4, 2) := by decide +kernel
theorem d_Disk_put_24 : decode jM_Disk_put.2.1 24 = .ok (.bipush 32, 2) := by decide +kernel
theorem d_Disk_put_26 : decode jM_Disk_put.2.1 26 = .ok (.if_icmp .ge 28, 3) := by decide +kernel
theorem d_Disk_put_29 : decode jM_Disk_put.2.1 29 = .ok (.aload_n 0, 1) := by decide +kernel
theorem d_Disk_put_30 : decode jM_Disk_put.2.1 30 = .ok (.iload_n 1, 1) := by decide +kernel
theorem d_Disk_put_31 : decode jM_Disk_put.2.1 31 = .ok (.invokestatic 24, 3) := by decide +kernel
theorem d_Disk_put_34 : decode jM_Disk_put.2.1 34 = .ok (.iload 4, 2) := by decide +kernel
theorem d_Disk_put_36 : decode jM_Disk_put.2.1 36 = .ok (.iadd, 1) := by decide +kernel
theorem d_Disk_put_37 : decode jM_Disk_put.2.1 37 = .ok (.aload_n 2, 1) := by decide +kernel
theorem d_Disk_put_38 : decode jM_Disk_put.2.1 38 = .ok (.iload_n 3, 1) := by decide +kernel
theorem d_Disk_put_39 : decode jM_Disk_put.2.1 39 = .ok (.iload 4, 2) := by decide +kernel
theorem d_Disk_put_41 : decode jM_Disk_put.2.1 41 = .ok (.iadd, 1) := by decide +kernel
theorem d_Disk_put_42 : decode jM_Disk_put.2.1 42 = .ok (.invokevirtual 28, 3) := by decide +kernel
theorem d_Disk_put_45 : decode jM_Disk_put.2.1 45 = .ok (.invokevirtual 33, 3) := by decide +kernel
theorem d_Disk_put_48 : decode jM_Disk_put.2.1 48 = .ok (.iinc 4 1, 3) := by decide +kernel
theorem d_Disk_put_51 : decode jM_Disk_put.2.1 51 = .ok (.goto (-29), 3) := by decide +kernel
theorem d_Disk_put_54 : decode jM_Disk_put.2.1 54 = .ok (.aload_n 0, 1) := by decide +kernel
theorem d_Disk_put_55 : decode jM_Disk_put.2.1 55 = .ok (.getfield 17, 3) := by decide +kernel
theorem d_Disk_put_58 : decode jM_Disk_put.2.1 58 = .ok (.iconst (-1), 1) := by decide +kernel
theorem d_Disk_put_59 : decode jM_Disk_put.2.1 59 = .ok (.if_icmp .eq 13, 3) := by decide +kernel
theorem d_Disk_put_62 : decode jM_Disk_put.2.1 62 = .ok (.aload_n 0, 1) := by decide +kernel
theorem d_Disk_put_63 : decode jM_Disk_put.2.1 63 = .ok (.dup, 1) := by decide +kernel
theorem d_Disk_put_64 : decode jM_Disk_put.2.1 64 = .ok (.getfield 17, 3) := by decide +kernel
theorem d_Disk_put_67 : decode jM_Disk_put.2.1 67 = .ok (.iconst 1, 1) := by decide +kernel
theorem d_Disk_put_68 : decode jM_Disk_put.2.1 68 = .ok (.isub, 1) := by decide +kernel
theorem d_Disk_put_69 : decode jM_Disk_put.2.1 69 = .ok (.putfield 17, 3) := by decide +kernel
theorem d_Disk_put_72 : decode jM_Disk_put.2.1 72 = .ok (.aload_n 0, 1) := by decide +kernel
theorem d_Disk_put_73 : decode jM_Disk_put.2.1 73 = .ok (.dup, 1) := by decide +kernel
theorem d_Disk_put_74 : decode jM_Disk_put.2.1 74 = .ok (.getfield 21, 3) := by decide +kernel
theorem d_Disk_put_77 : decode jM_Disk_put.2.1 77 = .ok (.iconst 1, 1) := by decide +kernel
theorem d_Disk_put_78 : decode jM_Disk_put.2.1 78 = .ok (.iadd, 1) := by decide +kernel
theorem d_Disk_put_79 : decode jM_Disk_put.2.1 79 = .ok (.putfield 21, 3) := by decide +kernel
theorem d_Disk_put_82 : decode jM_Disk_put.2.1 82 = .ok (.iconst 1, 1) := by decide +kernel
theorem d_Disk_put_83 : decode jM_Disk_put.2.1 83 = .ok (.ireturn, 1) := by decide +kernel
theorem d_Registry_append_0 : decode jM_Registry_append.2.1 0 = .ok (.aload_n 0, 1) := by decide +kernel
theorem d_Registry_append_1 : decode jM_Registry_append.2.1 1 = .ok (.invokevirtual 26, 3) := by decide +kernel
theorem d_Registry_append_4 : decode jM_Registry_append.2.1 4 = .ok (.istore_n 3, 1) := by decide +kernel
theorem d_Registry_append_5 : decode jM_Registry_append.2.1 5 = .ok (.aload_n 0, 1) := by decide +kernel
theorem d_Registry_append_6 : decode jM_Registry_append.2.1 6 = .ok (.getfield 22, 3) := by decide +kernel
theorem d_Registry_append_9 : decode jM_Registry_append.2.1 9 = .ok (.iconst 0, 1) := by decide +kernel
theorem d_Registry_append_10 : decode jM_Registry_append.2.1 10 = .ok (.invokevirtual 34, 3) := by decide +kernel
theorem d_Registry_append_13 : decode jM_Registry_append.2.1 13 = .ok (.aload_n 0, 1) := by decide +kernel
theorem d_Registry_append_14 : decode jM_Registry_append.2.1 14 = .ok (.getfield 22, 3) := by decide +kernel
theorem d_Registry_append_17 : decode jM_Registry_append.2.1 17 = .ok (.iload_n 3, 1) := by decide +kernel
theorem d_Registry_append_18 : decode jM_Registry_append.2.1 18 = .ok (.iconst 1, 1) := by decide +kernel
theorem d_Registry_append_19 : decode jM_Registry_append.2.1 19 = .ok (.iadd, 1) := by decide +kernel
theorem d_Registry_append_20 : decode jM_Registry_append.2.1 20 = .ok (.invokevirtual 37, 3) := by decide +kernel
theorem d_Registry_append_23 : decode jM_Registry_append.2.1 23 = .ok (.iconst 0, 1) := by decide +kernel
theorem d_Registry_append_24 : decode jM_Registry_append.2.1 24 = .ok (.istore 4, 2) := by decide +kernel
theorem d_Registry_append_26 : decode jM_Registry_append.2.1 26 = .ok (.iload 4, 2) := by decide +kernel
theorem d_Registry_append_28 : decode jM_Registry_append.2.1 28 = .ok (.iload_n 3, 1) := by decide +kernel
theorem d_Registry_append_29 : decode jM_Registry_append.2.1 29 = .ok (.if_icmp .ge 37, 3) := by decide +kernel
theorem d_Registry_append_32 : decode jM_Registry_append.2.1 32 = .ok (.aload_n 0, 1) := by decide +kernel
theorem d_Registry_append_33 : decode jM_Registry_append.2.1 33 = .ok (.getfield 22, 3) := by decide +kernel
theorem d_Registry_append_36 : decode jM_Registry_append.2.1 36 = .ok (.aload_n 0, 1) := by decide +kernel
theorem d_Registry_append_37 : decode jM_Registry_append.2.1 37 = .ok (.iload 4, 2) := by decide +kernel
theorem d_Registry_append_39 : decode jM_Registry_append.2.1 39 = .ok (.iconst 0, 1) := by decide +kernel
theorem d_Registry_append_40 : decode jM_Registry_append.2.1 40 = .ok (.invokevirtual 30, 3) := by decide +kernel
theorem d_Registry_append_43 : decode jM_Registry_append.2.1 43 = .ok (.invokevirtual 37, 3) := by decide +kernel
theorem d_Registry_append_46 : decode jM_Registry_append.2.1 46 = .ok (.aload_n 0, 1) := by decide +kernel
theorem d_Registry_append_47 : decode jM_Registry_append.2.1 47 = .ok (.getfield 22, 3) := by decide +kernel
theorem d_Registry_append_50 : decode jM_Registry_append.2.1 50 = .ok (.aload_n 0, 1) := by decide +kernel
theorem d_Registry_append_51 : decode jM_Registry_append.2.1 51 = .ok (.iload 4, 2) := by decide +kernel
theorem d_Registry_append_53 : decode jM_Registry_append.2.1 53 = .ok (.iconst 1, 1) := by decide +kernel
theorem d_Registry_append_54 : decode jM_Registry_append.2.1 54 = .ok (.invokevirtual 30, 3) := by decide +kernel
theorem d_Registry_append_57 : decode jM_Registry_append.2.1 57 = .ok (.invokevirtual 37, 3) := by decide +kernel
theorem d_Registry_append_60 : decode jM_Registry_append.2.1 60 = .ok (.iinc 4 1, 3) := by decide +kernel
theorem d_Registry_append_63 : decode jM_Registry_append.2.1 63 = .ok (.goto (-37), 3) := by decide +kernel
theorem d_Registry_append_66 : decode jM_Registry_append.2.1 66 = .ok (.aload_n 0, 1) := by decide +kernel
theorem d_Registry_append_67 : decode jM_Registry_append.2.1 67 = .ok (.getfield 22, 3) := by decide +kernel
theorem d_Registry_append_70 : decode jM_Registry_append.2.1 70 = .ok (.iload_n 1, 1) := by decide +kernel
theorem d_Registry_append_71 : decode jM_Registry_append.2.1 71 = .ok (.invokevirtual 37, 3) := by decide +kernel
theorem d_Registry_append_74 : decode jM_Registry_append.2.1 74 = .ok (.aload_n 0, 1) := by decide +kernel
theorem d_Registry_append_75 : decode jM_Registry_append.2.1 75 = .ok (.getfield 22, 3) := by decide +kernel
theorem d_Registry_append_78 : decode jM_Registry_append.2.1 78 = .ok (.iload_n 2, 1) := by decide +kernel
theorem d_Registry_append_79 : decode jM_Registry_append.2.1 79 = .ok (.invokevirtual 37, 3) := by decide +kernel
theorem d_Registry_append_82 : decode jM_Registry_append.2.1 82 = .ok (.aload_n 0, 1) := by decide +kernel
theorem d_Registry_append_83 : decode jM_Registry_append.2.1 83 = .ok (.getfield 9, 3) := by decide +kernel
theorem d_Registry_append_86 : decode jM_Registry_append.2.1 86 = .ok (.iconst 1, 1) := by decide +kernel
theorem d_Registry_append_87 : decode jM_Registry_append.2.1 87 = .ok (.aload_n 0, 1) := by decide +kernel
theorem d_Registry_append_88 : decode jM_Registry_append.2.1 88 = .ok (.getfield 22, 3) := by decide +kernel
theorem d_Registry_append_91 : decode jM_Registry_append.2.1 91 = .ok (.iconst 0, 1) := by decide +kernel
theorem d_Registry_append_92 : decode jM_Registry_append.2.1 92 = .ok (.invokevirtual 40, 3) := by decide +kernel
theorem d_Registry_append_95 : decode jM_Registry_append.2.1 95 = .ok (.ireturn, 1) := by decide +kernel
theorem d_Registry_has_0 : decode jM_Registry_has.2.1 0 = .ok (.aload_n 0, 1) := by decide +kernel
theorem d_Registry_has_1 : decode jM_Registry_has.2.1 1 = .ok (.invokevirtual 26, 3) := by decide +kernel
theorem d_Registry_has_4 : decode jM_Registry_has.2.1 4 = .ok (.istore_n 3, 1) := by decide +kernel
theorem d_Registry_has_5 : decode jM_Registry_has.2.1 5 = .ok (.iconst 0, 1) := by decide +kernel
theorem d_Registry_has_6 : decode jM_Registry_has.2.1 6 = .ok (.istore 4, 2) := by decide +kernel
theorem d_Registry_has_8 : decode jM_Registry_has.2.1 8 = .ok (.iload 4, 2) := by decide +kernel
theorem d_Registry_has_10 : decode jM_Registry_has.2.1 10 = .ok (.iload_n 3, 1) := by decide +kernel
theorem d_Registry_has_11 : decode jM_Registry_has.2.1 11 = .ok (.if_icmp .ge 33, 3) := by decide +kernel
theorem d_Registry_has_14 : decode jM_Registry_has.2.1 14 = .ok (.aload_n 0, 1) := by decide +kernel
theorem d_Registry_has_15 : decode jM_Registry_has.2.1 15 = .ok (.iload 4, 2) := by decide +kernel
theorem d_Registry_has_17 : decode jM_Registry_has.2.1 17 = .ok (.iconst 0, 1) := by decide +kernel
theorem d_Registry_has_18 : decode jM_Registry_has.2.1 18 = .ok (.invokevirtual 30, 3) := by decide +kernel
theorem d_Registry_has_21 : decode jM_Registry_has.2.1 21 = .ok (.iload_n 1, 1) := by decide +kernel
theorem d_Registry_has_22 : decode jM_Registry_has.2.1 22 = .ok (.if_icmp .ne 16, 3) := by decide +kernel
theorem d_Registry_has_25 : decode jM_Registry_has.2.1 25 = .ok (.aload_n 0, 1) := by decide +kernel
theorem d_Registry_has_26 : decode jM_Registry_has.2.1 26 = .ok (.iload 4, 2) := by decide +kernel
theorem d_Registry_has_28 : decode jM_Registry_has.2.1 28 = .ok (.iconst 1, 1) := by decide +kernel
theorem d_Registry_has_29 : decode jM_Registry_has.2.1 29 = .ok (.invokevirtual 30, 3) := by decide +kernel
theorem d_Registry_has_32 : decode jM_Registry_has.2.1 32 = .ok (.iload_n 2, 1) := by decide +kernel
theorem d_Registry_has_33 : decode jM_Registry_has.2.1 33 = .ok (.if_icmp .ne 5, 3) := by decide +kernel
theorem d_Registry_has_36 : decode jM_Registry_has.2.1 36 = .ok (.iconst 1, 1) := by decide +kernel
theorem d_Registry_has_37 : decode jM_Registry_has.2.1 37 = .ok (.ireturn, 1) := by decide +kernel
theorem d_Registry_has_38 : decode jM_Registry_has.2.1 38 = .ok (.iinc 4 1, 3) := by decide +kernel
theorem d_Registry_has_41 : decode jM_Registry_has.2.1 41 = .ok (.goto (-33), 3) := by decide +kernel
theorem d_Registry_has_44 : decode jM_Registry_has.2.1 44 = .ok (.iconst 0, 1) := by decide +kernel
theorem d_Registry_has_45 : decode jM_Registry_has.2.1 45 = .ok (.ireturn, 1) := by decide +kernel
theorem d_Registry_isFull_0 : decode jM_Registry_isFull.2.1 0 = .ok (.aload_n 0, 1) := by decide +kernel
theorem d_Registry_isFull_1 : decode jM_Registry_isFull.2.1 1 = .ok (.invokevirtual 26, 3) := by decide +kernel
theorem d_Registry_isFull_4 : decode jM_Registry_isFull.2.1 4 = .ok (.bipush 10, 2) := by decide +kernel
theorem d_Registry_isFull_6 : decode jM_Registry_isFull.2.1 6 = .ok (.if_icmp .lt 7, 3) := by decide +kernel
theorem d_Registry_isFull_9 : decode jM_Registry_isFull.2.1 9 = .ok (.iconst 1, 1) := by decide +kernel
theorem d_Registry_isFull_10 : decode jM_Registry_isFull.2.1 10 = .ok (.goto 4, 3) := by decide +kernel
theorem d_Registry_isFull_13 : decode jM_Registry_isFull.2.1 13 = .ok (.iconst 0, 1) := by decide +kernel
theorem d_Registry_isFull_14 : decode jM_Registry_isFull.2.1 14 = .ok (.ireturn, 1) := by decide +kernel
theorem d_ST_register_0 : decode jM_ST_register.2.1 0 = .ok (.aload_n 0, 1) := by decide +kernel
theorem d_ST_register_1 : decode jM_ST_register.2.1 1 = .ok (.getfield 19, 3) := by decide +kernel
theorem d_ST_register_4 : decode jM_ST_register.2.1 4 = .ok (.getfield 79, 3) := by decide +kernel
theorem d_ST_register_7 : decode jM_ST_register.2.1 7 = .ok (.ifCond .ne 6, 3) := by decide +kernel
theorem d_ST_register_10 : decode jM_ST_register.2.1 10 = .ok (.bipush (-4), 2) := by decide +kernel
theorem d_ST_register_12 : decode jM_ST_register.2.1 12 = .ok (.ireturn, 1) := by decide +kernel
theorem d_ST_register_13 : decode jM_ST_register.2.1 13 = .ok (.aload_n 0, 1) := by decide +kernel
theorem d_ST_register_14 : decode jM_ST_register.2.1 14 = .ok (.getfield 13, 3) := by decide +kernel
theorem d_ST_register_17 : decode jM_ST_register.2.1 17 = .ok (.iload_n 2, 1) := by decide +kernel
theorem d_ST_register_18 : decode jM_ST_register.2.1 18 = .ok (.invokevirtual 61, 3) := by decide +kernel
theorem d_ST_register_21 : decode jM_ST_register.2.1 21 = .ok (.astore_n 3, 1) := by decide +kernel
theorem d_ST_register_22 : decode jM_ST_register.2.1 22 = .ok (.iload_n 1, 1) := by decide +kernel
theorem d_ST_register_23 : decode jM_ST_register.2.1 23 = .ok (.invokestatic 83, 3) := by decide +kernel
theorem d_ST_register_26 : decode jM_ST_register.2.1 26 = .ok (.ifCond .eq 7, 3) := by decide +kernel
theorem d_ST_register_29 : decode jM_ST_register.2.1 29 = .ok (.aload_n 3, 1) := by decide +kernel
theorem d_ST_register_30 : decode jM_ST_register.2.1 30 = .ok (.ifnonnull 5, 3) := by decide +kernel
theorem d_ST_register_33 : decode jM_ST_register.2.1 33 = .ok (.iconst (-1), 1) := by decide +kernel
theorem d_ST_register_34 : decode jM_ST_register.2.1 34 = .ok (.ireturn, 1) := by decide +kernel
theorem d_ST_register_35 : decode jM_ST_register.2.1 35 = .ok (.aload_n 0, 1) := by decide +kernel
theorem d_ST_register_36 : decode jM_ST_register.2.1 36 = .ok (.getfield 28, 3) := by decide +kernel
theorem d_ST_register_39 : decode jM_ST_register.2.1 39 = .ok (.iload_n 1, 1) := by decide +kernel
theorem d_ST_register_40 : decode jM_ST_register.2.1 40 = .ok (.iload_n 2, 1) := by decide +kernel
theorem d_ST_register_41 : decode jM_ST_register.2.1 41 = .ok (.invokevirtual 87, 3) := by decide +kernel
theorem d_ST_register_44 : decode jM_ST_register.2.1 44 = .ok (.ifCond .ne 13, 3) := by decide +kernel
theorem d_ST_register_47 : decode jM_ST_register.2.1 47 = .ok (.aload_n 0, 1) := by decide +kernel
theorem d_ST_register_48 : decode jM_ST_register.2.1 48 = .ok (.getfield 28, 3) := by decide +kernel
theorem d_ST_register_51 : decode jM_ST_register.2.1 51 = .ok (.invokevirtual 91, 3) := by decide +kernel
theorem d_ST_register_54 : decode jM_ST_register.2.1 54 = .ok (.ifCond .eq 5, 3) := by decide +kernel
theorem d_ST_register_57 : decode jM_ST_register.2.1 57 = .ok (.iconst (-1), 1) := by decide +kernel
theorem d_ST_register_58 : decode jM_ST_register.2.1 58 = .ok (.ireturn, 1) := by decide +kernel
theorem d_ST_register_59 : decode jM_ST_register.2.1 59 = .ok (.aload_n 0, 1) := by decide +kernel
theorem d_ST_register_60 : decode jM_ST_register.2.1 60 = .ok (.aload_n 3, 1) := by decide +kernel
theorem d_ST_register_61 : decode jM_ST_register.2.1 61 = .ok (.iload_n 1, 1) := by decide +kernel
theorem d_ST_register_62 : decode jM_ST_register.2.1 62 = .ok (.invokevirtual 95, 3) := by decide +kernel
theorem d_ST_register_65 : decode jM_ST_register.2.1 65 = .ok (.ifCond .ne 6, 3) := by decide +kernel
theorem d_ST_register_68 : decode jM_ST_register.2.1 68 = .ok (.bipush (-2), 2) := by decide +kernel
theorem d_ST_register_70 : decode jM_ST_register.2.1 70 = .ok (.ireturn, 1) := by decide +kernel
theorem d_ST_register_71 : decode jM_ST_register.2.1 71 = .ok (.aload_n 0, 1) := by decide +kernel
theorem d_ST_register_72 : decode jM_ST_register.2.1 72 = .ok (.getfield 28, 3) := by decide +kernel
theorem d_ST_register_75 : decode jM_ST_register.2.1 75 = .ok (.iload_n 1, 1) := by decide +kernel
theorem d_ST_register_76 : decode jM_ST_register.2.1 76 = .ok (.invokevirtual 99, 3) := by decide +kernel
theorem d_ST_register_79 : decode jM_ST_register.2.1 79 = .ok (.istore 4, 2) := by decide +kernel
theorem d_ST_register_81 : decode jM_ST_register.2.1 81 = .ok (.aload_n 0, 1) := by decide +kernel
theorem d_ST_register_82 : decode jM_ST_register.2.1 82 = .ok (.getfield 28, 3) := by decide +kernel
theorem d_ST_register_85 : decode jM_ST_register.2.1 85 = .ok (.iload_n 1, 1) := by decide +kernel
theorem d_ST_register_86 : decode jM_ST_register.2.1 86 = .ok (.iload_n 2, 1) := by decide +kernel
theorem d_ST_register_87 : decode jM_ST_register.2.1 87 = .ok (.invokevirtual 103, 3) := by decide +kernel
theorem d_ST_register_90 : decode jM_ST_register.2.1 90 = .ok (.ifCond .eq 8, 3) := by decide +kernel
theorem d_ST_register_93 : decode jM_ST_register.2.1 93 = .ok (.iload 4, 2) := by decide +kernel
theorem d_ST_register_95 : decode jM_ST_register.2.1 95 = .ok (.goto 7, 3) := by decide +kernel
theorem d_ST_register_98 : decode jM_ST_register.2.1 98 = .ok (.aload_n 0, 1) := by decide +kernel
theorem d_ST_register_99 : decode jM_ST_register.2.1 99 = .ok (.invokevirtual 106, 3) := by decide +kernel
theorem d_ST_register_102 : decode jM_ST_register.2.1 102 = .ok (.ireturn, 1) := by decide +kernel
theorem d_ST_versions_0 : decode jM_ST_versions.2.1 0 = .ok (.iload_n 1, 1) := by decide +kernel
theorem d_ST_versions_1 : decode jM_ST_versions.2.1 1 = .ok (.invokestatic 83, 3) := by decide +kernel
theorem d_ST_versions_4 : decode jM_ST_versions.2.1 4 = .ok (.ifCond .eq 24, 3) := by decide +kernel
theorem d_ST_versions_7 : decode jM_ST_versions.2.1 7 = .ok (.aload_n 0, 1) := by decide +kernel
theorem d_ST_versions_8 : decode jM_ST_versions.2.1 8 = .ok (.getfield 19, 3) := by decide +kernel
theorem d_ST_versions_11 : decode jM_ST_versions.2.1 11 = .ok (.getfield 79, 3) := by decide +kernel
theorem d_ST_versions_14 : decode jM_ST_versions.2.1 14 = .ok (.ifCond .eq 14, 3) := by decide +kernel
theorem d_ST_versions_17 : decode jM_ST_versions.2.1 17 = .ok (.aload_n 0, 1) := by decide +kernel
theorem d_ST_versions_18 : decode jM_ST_versions.2.1 18 = .ok (.getfield 28, 3) := by decide +kernel
theorem d_ST_versions_21 : decode jM_ST_versions.2.1 21 = .ok (.iload_n 1, 1) := by decide +kernel
theorem d_ST_versions_22 : decode jM_ST_versions.2.1 22 = .ok (.invokevirtual 99, 3) := by decide +kernel
theorem d_ST_versions_25 : decode jM_ST_versions.2.1 25 = .ok (.goto 4, 3) := by decide +kernel
theorem d_ST_versions_28 : decode jM_ST_versions.2.1 28 = .ok (.iconst (-1), 1) := by decide +kernel
theorem d_ST_versions_29 : decode jM_ST_versions.2.1 29 = .ok (.ireturn, 1) := by decide +kernel
theorem d_ST_version_0 : decode jM_ST_version.2.1 0 = .ok (.iload_n 1, 1) := by decide +kernel
theorem d_ST_version_1 : decode jM_ST_version.2.1 1 = .ok (.invokestatic 83, 3) := by decide +kernel
theorem d_ST_version_4 : decode jM_ST_version.2.1 4 = .ok (.ifCond .eq 25, 3) := by decide +kernel
theorem d_ST_version_7 : decode jM_ST_version.2.1 7 = .ok (.aload_n 0, 1) := by decide +kernel
theorem d_ST_version_8 : decode jM_ST_version.2.1 8 = .ok (.getfield 19, 3) := by decide +kernel
theorem d_ST_version_11 : decode jM_ST_version.2.1 11 = .ok (.getfield 79, 3) := by decide +kernel
theorem d_ST_version_14 : decode jM_ST_version.2.1 14 = .ok (.ifCond .eq 15, 3) := by decide +kernel
theorem d_ST_version_17 : decode jM_ST_version.2.1 17 = .ok (.aload_n 0, 1) := by decide +kernel
theorem d_ST_version_18 : decode jM_ST_version.2.1 18 = .ok (.getfield 28, 3) := by decide +kernel
theorem d_ST_version_21 : decode jM_ST_version.2.1 21 = .ok (.iload_n 1, 1) := by decide +kernel
theorem d_ST_version_22 : decode jM_ST_version.2.1 22 = .ok (.iload_n 2, 1) := by decide +kernel
theorem d_ST_version_23 : decode jM_ST_version.2.1 23 = .ok (.invokevirtual 110, 3) := by decide +kernel
theorem d_ST_version_26 : decode jM_ST_version.2.1 26 = .ok (.goto 4, 3) := by decide +kernel
theorem d_ST_version_29 : decode jM_ST_version.2.1 29 = .ok (.iconst (-1), 1) := by decide +kernel
theorem d_ST_version_30 : decode jM_ST_version.2.1 30 = .ok (.ireturn, 1) := by decide +kernel
theorem d_Row_append_0 : decode jM_Row_append.2.1 0 = .ok (.aload_n 0, 1) := by decide +kernel
theorem d_Row_append_1 : decode jM_Row_append.2.1 1 = .ok (.getfield 13, 3) := by decide +kernel
theorem d_Row_append_4 : decode jM_Row_append.2.1 4 = .ok (.aload_n 0, 1) := by decide +kernel
theorem d_Row_append_5 : decode jM_Row_append.2.1 5 = .ok (.getfield 7, 3) := by decide +kernel
theorem d_Row_append_8 : decode jM_Row_append.2.1 8 = .ok (.arraylength, 1) := by decide +kernel
theorem d_Row_append_9 : decode jM_Row_append.2.1 9 = .ok (.if_icmp .ge 13, 3) := by decide +kernel
theorem d_Row_append_12 : decode jM_Row_append.2.1 12 = .ok (.aload_n 0, 1) := by decide +kernel
theorem d_Row_append_13 : decode jM_Row_append.2.1 13 = .ok (.getfield 7, 3) := by decide +kernel
theorem d_Row_append_16 : decode jM_Row_append.2.1 16 = .ok (.aload_n 0, 1) := by decide +kernel
theorem d_Row_append_17 : decode jM_Row_append.2.1 17 = .ok (.getfield 13, 3) := by decide +kernel
theorem d_Row_append_20 : decode jM_Row_append.2.1 20 = .ok (.lload_n 1, 1) := by decide +kernel
theorem d_Row_append_21 : decode jM_Row_append.2.1 21 = .ok (.lastore, 1) := by decide +kernel
theorem d_Row_append_22 : decode jM_Row_append.2.1 22 = .ok (.aload_n 0, 1) := by decide +kernel
theorem d_Row_append_23 : decode jM_Row_append.2.1 23 = .ok (.dup, 1) := by decide +kernel
theorem d_Row_append_24 : decode jM_Row_append.2.1 24 = .ok (.getfield 13, 3) := by decide +kernel
theorem d_Row_append_27 : decode jM_Row_append.2.1 27 = .ok (.iconst 1, 1) := by decide +kernel
theorem d_Row_append_28 : decode jM_Row_append.2.1 28 = .ok (.iadd, 1) := by decide +kernel
theorem d_Row_append_29 : decode jM_Row_append.2.1 29 = .ok (.putfield 13, 3) := by decide +kernel
theorem d_Row_append_32 : decode jM_Row_append.2.1 32 = .ok (.return_, 1) := by decide +kernel
theorem d_ST_give_0 : decode jM_ST_give.2.1 0 = .ok (.aload_n 0, 1) := by decide +kernel
theorem d_ST_give_1 : decode jM_ST_give.2.1 1 = .ok (.getfield 19, 3) := by decide +kernel
theorem d_ST_give_4 : decode jM_ST_give.2.1 4 = .ok (.getfield 79, 3) := by decide +kernel
theorem d_ST_give_7 : decode jM_ST_give.2.1 7 = .ok (.ifCond .ne 6, 3) := by decide +kernel
theorem d_ST_give_10 : decode jM_ST_give.2.1 10 = .ok (.bipush (-4), 2) := by decide +kernel
theorem d_ST_give_12 : decode jM_ST_give.2.1 12 = .ok (.ireturn, 1) := by decide +kernel
theorem d_ST_give_13 : decode jM_ST_give.2.1 13 = .ok (.aload_n 0, 1) := by decide +kernel
theorem d_ST_give_14 : decode jM_ST_give.2.1 14 = .ok (.getfield 51, 3) := by decide +kernel
theorem d_ST_give_17 : decode jM_ST_give.2.1 17 = .ok (.getfield 114, 3) := by decide +kernel
theorem d_ST_give_20 : decode jM_ST_give.2.1 20 = .ok (.bipush 24, 2) := by decide +kernel
theorem d_ST_give_22 : decode jM_ST_give.2.1 22 = .ok (.if_icmp .ne 5, 3) := by decide +kernel
theorem d_ST_give_25 : decode jM_ST_give.2.1 25 = .ok (.iconst (-1), 1) := by decide +kernel
theorem d_ST_give_26 : decode jM_ST_give.2.1 26 = .ok (.ireturn, 1) := by decide +kernel
theorem d_ST_give_27 : decode jM_ST_give.2.1 27 = .ok (.aload_n 0, 1) := by decide +kernel
theorem d_ST_give_28 : decode jM_ST_give.2.1 28 = .ok (.getfield 51, 3) := by decide +kernel
theorem d_ST_give_31 : decode jM_ST_give.2.1 31 = .ok (.lload_n 1, 1) := by decide +kernel
theorem d_ST_give_32 : decode jM_ST_give.2.1 32 = .ok (.invokevirtual 118, 3) := by decide +kernel
theorem d_ST_give_35 : decode jM_ST_give.2.1 35 = .ok (.aload_n 0, 1) := by decide +kernel
theorem d_ST_give_36 : decode jM_ST_give.2.1 36 = .ok (.getfield 51, 3) := by decide +kernel
theorem d_ST_give_39 : decode jM_ST_give.2.1 39 = .ok (.getfield 114, 3) := by decide +kernel
theorem d_ST_give_42 : decode jM_ST_give.2.1 42 = .ok (.ireturn, 1) := by decide +kernel
theorem d_Bytes_appendVarint_0 : decode jM_Bytes_appendVarint.2.1 0 = .ok (.lload_n 1, 1) := by decide +kernel
theorem d_Bytes_appendVarint_1 : decode jM_Bytes_appendVarint.2.1 1 = .ok (.iconst 1, 1) := by decide +kernel
theorem d_Bytes_appendVarint_2 : decode jM_Bytes_appendVarint.2.1 2 = .ok (.lshl, 1) := by decide +kernel
theorem d_Bytes_appendVarint_3 : decode jM_Bytes_appendVarint.2.1 3 = .ok (.lload_n 1, 1) := by decide +kernel
theorem d_Bytes_appendVarint_4 : decode jM_Bytes_appendVarint.2.1 4 = .ok (.bipush 63, 2) := by decide +kernel
theorem d_Bytes_appendVarint_6 : decode jM_Bytes_appendVarint.2.1 6 = .ok (.lshr, 1) := by decide +kernel
theorem d_Bytes_appendVarint_7 : decode jM_Bytes_appendVarint.2.1 7 = .ok (.lxor, 1) := by decide +kernel
theorem d_Bytes_appendVarint_8 : decode jM_Bytes_appendVarint.2.1 8 = .ok (.lstore_n 3, 1) := by decide +kernel
theorem d_Bytes_appendVarint_9 : decode jM_Bytes_appendVarint.2.1 9 = .ok (.iconst 1, 1) := by decide +kernel
theorem d_Bytes_appendVarint_10 : decode jM_Bytes_appendVarint.2.1 10 = .ok (.istore 5, 2) := by decide +kernel
theorem d_Bytes_appendVarint_12 : decode jM_Bytes_appendVarint.2.1 12 = .ok (.iload 5, 2) := by decide +kernel
theorem d_Bytes_appendVarint_14 : decode jM_Bytes_appendVarint.2.1 14 = .ok (.bipush 10, 2) := by decide +kernel
theorem d_Bytes_appendVarint_16 : decode jM_Bytes_appendVarint.2.1 16 = .ok (.if_icmp .ge 37, 3) := by decide +kernel
theorem d_Bytes_appendVarint_19 : decode jM_Bytes_appendVarint.2.1 19 = .ok (.lload_n 3, 1) := by decide +kernel
theorem d_Bytes_appendVarint_20 : decode jM_Bytes_appendVarint.2.1 20 = .ok (.bipush 7, 2) := by decide +kernel
theorem d_Bytes_appendVarint_22 : decode jM_Bytes_appendVarint.2.1 22 = .ok (.lushr, 1) := by decide +kernel
theorem d_Bytes_appendVarint_23 : decode jM_Bytes_appendVarint.2.1 23 = .ok (.lconst 0, 1) := by decide +kernel
theorem d_Bytes_appendVarint_24 : decode jM_Bytes_appendVarint.2.1 24 = .ok (.lcmp, 1) := by decide +kernel
theorem d_Bytes_appendVarint_25 : decode jM_Bytes_appendVarint.2.1 25 = .ok (.ifCond .eq 28, 3) := by decide +kernel
theorem d_Bytes_appendVarint_28 : decode jM_Bytes_appendVarint.2.1 28 = .ok (.aload_n 0, 1) := by decide +kernel
theorem d_Bytes_appendVarint_29 : decode jM_Bytes_appendVarint.2.1 29 = .ok (.lload_n 3, 1) := by decide +kernel
theorem d_Bytes_appendVarint_30 : decode jM_Bytes_appendVarint.2.1 30 = .ok (.ldc2_w 17, 3) := by decide +kernel
theorem d_Bytes_appendVarint_33 : decode jM_Bytes_appendVarint.2.1 33 = .ok (.land, 1) := by decide +kernel
theorem d_Bytes_appendVarint_34 : decode jM_Bytes_appendVarint.2.1 34 = .ok (.l2i, 1) := by decide +kernel
theorem d_Bytes_appendVarint_35 : decode jM_Bytes_appendVarint.2.1 35 = .ok (.sipush 128, 3) := by decide +kernel
theorem d_Bytes_appendVarint_38 : decode jM_Bytes_appendVarint.2.1 38 = .ok (.iadd, 1) := by decide +kernel
theorem d_Bytes_appendVarint_39 : decode jM_Bytes_appendVarint.2.1 39 = .ok (.invokevirtual 19, 3) := by decide +kernel
theorem d_Bytes_appendVarint_42 : decode jM_Bytes_appendVarint.2.1 42 = .ok (.lload_n 3, 1) := by decide +kernel
theorem d_Bytes_appendVarint_43 : decode jM_Bytes_appendVarint.2.1 43 = .ok (.bipush 7, 2) := by decide +kernel
theorem d_Bytes_appendVarint_45 : decode jM_Bytes_appendVarint.2.1 45 = .ok (.lushr, 1) := by decide +kernel
theorem d_Bytes_appendVarint_46 : decode jM_Bytes_appendVarint.2.1 46 = .ok (.lstore_n 3, 1) := by decide +kernel
theorem d_Bytes_appendVarint_47 : decode jM_Bytes_appendVarint.2.1 47 = .ok (.iinc 5 1, 3) := by decide +kernel
theorem d_Bytes_appendVarint_50 : decode jM_Bytes_appendVarint.2.1 50 = .ok (.goto (-38), 3) := by decide +kernel
theorem d_Bytes_appendVarint_53 : decode jM_Bytes_appendVarint.2.1 53 = .ok (.aload_n 0, 1) := by decide +kernel
theorem d_Bytes_appendVarint_54 : decode jM_Bytes_appendVarint.2.1 54 = .ok (.lload_n 3, 1) := by decide +kernel
theorem d_Bytes_appendVarint_55 : decode jM_Bytes_appendVarint.2.1 55 = .ok (.l2i, 1) := by decide +kernel
theorem d_Bytes_appendVarint_56 : decode jM_Bytes_appendVarint.2.1 56 = .ok (.invokevirtual 19, 3) := by decide +kernel
theorem d_Bytes_appendVarint_59 : decode jM_Bytes_appendVarint.2.1 59 = .ok (.return_, 1) := by decide +kernel
theorem d_JInteger_bitCount_0 : decode jM_JInteger_bitCount.2.1 0 = .ok (.iload_n 0, 1) := by decide +kernel
theorem d_JInteger_bitCount_1 : decode jM_JInteger_bitCount.2.1 1 = .ok (.iload_n 0, 1) := by decide +kernel
theorem d_JInteger_bitCount_2 : decode jM_JInteger_bitCount.2.1 2 = .ok (.iconst 1, 1) := by decide +kernel
theorem d_JInteger_bitCount_3 : decode jM_JInteger_bitCount.2.1 3 = .ok (.iushr, 1) := by decide +kernel
theorem d_JInteger_bitCount_4 : decode jM_JInteger_bitCount.2.1 4 = .ok (.ldc_w 265, 3) := by decide +kernel
theorem d_JInteger_bitCount_7 : decode jM_JInteger_bitCount.2.1 7 = .ok (.iand, 1) := by decide +kernel
theorem d_JInteger_bitCount_8 : decode jM_JInteger_bitCount.2.1 8 = .ok (.isub, 1) := by decide +kernel
theorem d_JInteger_bitCount_9 : decode jM_JInteger_bitCount.2.1 9 = .ok (.istore_n 0, 1) := by decide +kernel
theorem d_JInteger_bitCount_10 : decode jM_JInteger_bitCount.2.1 10 = .ok (.iload_n 0, 1) := by decide +kernel
theorem d_JInteger_bitCount_11 : decode jM_JInteger_bitCount.2.1 11 = .ok (.ldc_w 266, 3) := by decide +kernel
theorem d_JInteger_bitCount_14 : decode jM_JInteger_bitCount.2.1 14 = .ok (.iand, 1) := by decide +kernel
theorem d_JInteger_bitCount_15 : decode jM_JInteger_bitCount.2.1 15 = .ok (.iload_n 0, 1) := by decide +kernel
theorem d_JInteger_bitCount_16 : decode jM_JInteger_bitCount.2.1 16 = .ok (.iconst 2, 1) := by decide +kernel
theorem d_JInteger_bitCount_17 : decode jM_JInteger_bitCount.2.1 17 = .ok (.iushr, 1) := by decide +kernel
theorem d_JInteger_bitCount_18 : decode jM_JInteger_bitCount.2.1 18 = .ok (.ldc_w 266, 3) := by decide +kernel
theorem d_JInteger_bitCount_21 : decode jM_JInteger_bitCount.2.1 21 = .ok (.iand, 1) := by decide +kernel
theorem d_JInteger_bitCount_22 : decode jM_JInteger_bitCount.2.1 22 = .ok (.iadd, 1) := by decide +kernel
theorem d_JInteger_bitCount_23 : decode jM_JInteger_bitCount.2.1 23 = .ok (.istore_n 0, 1) := by decide +kernel
theorem d_JInteger_bitCount_24 : decode jM_JInteger_bitCount.2.1 24 = .ok (.iload_n 0, 1) := by decide +kernel
theorem d_JInteger_bitCount_25 : decode jM_JInteger_bitCount.2.1 25 = .ok (.iload_n 0, 1) := by decide +kernel
theorem d_JInteger_bitCount_26 : decode jM_JInteger_bitCount.2.1 26 = .ok (.iconst 4, 1) := by decide +kernel
theorem d_JInteger_bitCount_27 : decode jM_JInteger_bitCount.2.1 27 = .ok (.iushr, 1) := by decide +kernel
theorem d_JInteger_bitCount_28 : decode jM_JInteger_bitCount.2.1 28 = .ok (.iadd, 1) := by decide +kernel
theorem d_JInteger_bitCount_29 : decode jM_JInteger_bitCount.2.1 29 = .ok (.ldc_w 267, 3) := by decide +kernel
theorem d_JInteger_bitCount_32 : decode jM_JInteger_bitCount.2.1 32 = .ok (.iand, 1) := by decide +kernel
theorem d_JInteger_bitCount_33 : decode jM_JInteger_bitCount.2.1 33 = .ok (.istore_n 0, 1) := by decide +kernel
theorem d_JInteger_bitCount_34 : decode jM_JInteger_bitCount.2.1 34 = .ok (.iload_n 0, 1) := by decide +kernel
theorem d_JInteger_bitCount_35 : decode jM_JInteger_bitCount.2.1 35 = .ok (.iload_n 0, 1) := by decide +kernel
theorem d_JInteger_bitCount_36 : decode jM_JInteger_bitCount.2.1 36 = .ok (.bipush 8, 2) := by decide +kernel
theorem d_JInteger_bitCount_38 : decode jM_JInteger_bitCount.2.1 38 = .ok (.iushr, 1) := by decide +kernel
theorem d_JInteger_bitCount_39 : decode jM_JInteger_bitCount.2.1 39 = .ok (.iadd, 1) := by decide +kernel
theorem d_JInteger_bitCount_40 : decode jM_JInteger_bitCount.2.1 40 = .ok (.istore_n 0, 1) := by decide +kernel
theorem d_JInteger_bitCount_41 : decode jM_JInteger_bitCount.2.1 41 = .ok (.iload_n 0, 1) := by decide +kernel
theorem d_JInteger_bitCount_42 : decode jM_JInteger_bitCount.2.1 42 = .ok (.iload_n 0, 1) := by decide +kernel
theorem d_JInteger_bitCount_43 : decode jM_JInteger_bitCount.2.1 43 = .ok (.bipush 16, 2) := by decide +kernel
theorem d_JInteger_bitCount_45 : decode jM_JInteger_bitCount.2.1 45 = .ok (.iushr, 1) := by decide +kernel
theorem d_JInteger_bitCount_46 : decode jM_JInteger_bitCount.2.1 46 = .ok (.iadd, 1) := by decide +kernel
theorem d_JInteger_bitCount_47 : decode jM_JInteger_bitCount.2.1 47 = .ok (.istore_n 0, 1) := by decide +kernel
theorem d_JInteger_bitCount_48 : decode jM_JInteger_bitCount.2.1 48 = .ok (.iload_n 0, 1) := by decide +kernel
theorem d_JInteger_bitCount_49 : decode jM_JInteger_bitCount.2.1 49 = .ok (.bipush 63, 2) := by decide +kernel
theorem d_JInteger_bitCount_51 : decode jM_JInteger_bitCount.2.1 51 = .ok (.iand, 1) := by decide +kernel
theorem d_JInteger_bitCount_52 : decode jM_JInteger_bitCount.2.1 52 = .ok (.ireturn, 1) := by decide +kernel
theorem d_Schema_rankOf_0 : decode jM_Schema_rankOf.2.1 0 = .ok (.aload_n 0, 1) := by decide +kernel
theorem d_Schema_rankOf_1 : decode jM_Schema_rankOf.2.1 1 = .ok (.getfield 18, 3) := by decide +kernel
theorem d_Schema_rankOf_4 : decode jM_Schema_rankOf.2.1 4 = .ok (.iconst 1, 1) := by decide +kernel
theorem d_Schema_rankOf_5 : decode jM_Schema_rankOf.2.1 5 = .ok (.iload_n 1, 1) := by decide +kernel
theorem d_Schema_rankOf_6 : decode jM_Schema_rankOf.2.1 6 = .ok (.ishl, 1) := by decide +kernel
theorem d_Schema_rankOf_7 : decode jM_Schema_rankOf.2.1 7 = .ok (.iconst 1, 1) := by decide +kernel
theorem d_Schema_rankOf_8 : decode jM_Schema_rankOf.2.1 8 = .ok (.isub, 1) := by decide +kernel
theorem d_Schema_rankOf_9 : decode jM_Schema_rankOf.2.1 9 = .ok (.iand, 1) := by decide +kernel
theorem d_Schema_rankOf_10 : decode jM_Schema_rankOf.2.1 10 = .ok (.invokestatic 62, 3) := by decide +kernel
theorem d_Schema_rankOf_13 : decode jM_Schema_rankOf.2.1 13 = .ok (.ireturn, 1) := by decide +kernel
theorem d_Coder_encodeNumber_0 : decode jM_Coder_encodeNumber.2.1 0 = .ok (.aload_n 0, 1) := by decide +kernel
theorem d_Coder_encodeNumber_1 : decode jM_Coder_encodeNumber.2.1 1 = .ok (.getfield 9, 3) := by decide +kernel
theorem d_Coder_encodeNumber_4 : decode jM_Coder_encodeNumber.2.1 4 = .ok (.lookupswitch 51 #[(1, 28), (4, 37)], 28) := by decide +kernel
theorem d_Coder_encodeNumber_32 : decode jM_Coder_encodeNumber.2.1 32 = .ok (.aload_n 3, 1) := by decide +kernel
theorem d_Coder_encodeNumber_33 : decode jM_Coder_encodeNumber.2.1 33 = .ok (.lload_n 1, 1) := by decide +kernel
theorem d_Coder_encodeNumber_34 : decode jM_Coder_encodeNumber.2.1 34 = .ok (.l2i, 1) := by decide +kernel
theorem d_Coder_encodeNumber_35 : decode jM_Coder_encodeNumber.2.1 35 = .ok (.invokevirtual 58, 3) := by decide +kernel
theorem d_Coder_encodeNumber_38 : decode jM_Coder_encodeNumber.2.1 38 = .ok (.goto 22, 3) := by decide +kernel
theorem d_Coder_encodeNumber_41 : decode jM_Coder_encodeNumber.2.1 41 = .ok (.aload_n 3, 1) := by decide +kernel
theorem d_Coder_encodeNumber_42 : decode jM_Coder_encodeNumber.2.1 42 = .ok (.aload_n 0, 1) := by decide +kernel
theorem d_Coder_encodeNumber_43 : decode jM_Coder_encodeNumber.2.1 43 = .ok (.lload_n 1, 1) := by decide +kernel
theorem d_Coder_encodeNumber_44 : decode jM_Coder_encodeNumber.2.1 44 = .ok (.l2i, 1) := by decide +kernel
theorem d_Coder_encodeNumber_45 : decode jM_Coder_encodeNumber.2.1 45 = .ok (.invokevirtual 62, 3) := by decide +kernel
theorem d_Coder_encodeNumber_48 : decode jM_Coder_encodeNumber.2.1 48 = .ok (.i2l, 1) := by decide +kernel
theorem d_Coder_encodeNumber_49 : decode jM_Coder_encodeNumber.2.1 49 = .ok (.invokevirtual 37, 3) := by decide +kernel
theorem d_Coder_encodeNumber_52 : decode jM_Coder_encodeNumber.2.1 52 = .ok (.goto 8, 3) := by decide +kernel
theorem d_Coder_encodeNumber_55 : decode jM_Coder_encodeNumber.2.1 55 = .ok (.aload_n 3, 1) := by decide +kernel
theorem d_Coder_encodeNumber_56 : decode jM_Coder_encodeNumber.2.1 56 = .ok (.lload_n 1, 1) := by decide +kernel
theorem d_Coder_encodeNumber_57 : decode jM_Coder_encodeNumber.2.1 57 = .ok (.invokevirtual 37, 3) := by decide +kernel
theorem d_Coder_encodeNumber_60 : decode jM_Coder_encodeNumber.2.1 60 = .ok (.return_, 1) := by decide +kernel
theorem d_Row_at_0 : decode jM_Row_at.2.1 0 = .ok (.iload_n 1, 1) := by decide +kernel
theorem d_Row_at_1 : decode jM_Row_at.2.1 1 = .ok (.ifCond .lt 29, 3) := by decide +kernel
theorem d_Row_at_4 : decode jM_Row_at.2.1 4 = .ok (.iload_n 1, 1) := by decide +kernel
theorem d_Row_at_5 : decode jM_Row_at.2.1 5 = .ok (.aload_n 0, 1) := by decide +kernel
theorem d_Row_at_6 : decode jM_Row_at.2.1 6 = .ok (.getfield 13, 3) := by decide +kernel
theorem d_Row_at_9 : decode jM_Row_at.2.1 9 = .ok (.if_icmp .ge 21, 3) := by decide +kernel
theorem d_Row_at_12 : decode jM_Row_at.2.1 12 = .ok (.iload_n 1, 1) := by decide +kernel
theorem d_Row_at_13 : decode jM_Row_at.2.1 13 = .ok (.aload_n 0, 1) := by decide +kernel
theorem d_Row_at_14 : decode jM_Row_at.2.1 14 = .ok (.getfield 7, 3) := by decide +kernel
theorem d_Row_at_17 : decode jM_Row_at.2.1 17 = .ok (.arraylength, 1) := by decide +kernel
theorem d_Row_at_18 : decode jM_Row_at.2.1 18 = .ok (.if_icmp .ge 12, 3) := by decide +kernel
theorem d_Row_at_21 : decode jM_Row_at.2.1 21 = .ok (.aload_n 0, 1) := by decide +kernel
theorem d_Row_at_22 : decode jM_Row_at.2.1 22 = .ok (.getfield 7, 3) := by decide +kernel
theorem d_Row_at_25 : decode jM_Row_at.2.1 25 = .ok (.iload_n 1, 1) := by decide +kernel
theorem d_Row_at_26 : decode jM_Row_at.2.1 26 = .ok (.laload, 1) := by decide +kernel
theorem d_Row_at_27 : decode jM_Row_at.2.1 27 = .ok (.goto 4, 3) := by decide +kernel
theorem d_Row_at_30 : decode jM_Row_at.2.1 30 = .ok (.lconst 0, 1) := by decide +kernel
theorem d_Row_at_31 : decode jM_Row_at.2.1 31 = .ok (.lreturn, 1) := by decide +kernel
theorem d_Coder_encodeFields_0 : decode jM_Coder_encodeFields.2.1 0 = .ok (.iload_n 2, 1) := by decide +kernel
theorem d_Coder_encodeFields_1 : decode jM_Coder_encodeFields.2.1 1 = .ok (.istore 4, 2) := by decide +kernel
theorem d_Coder_encodeFields_3 : decode jM_Coder_encodeFields.2.1 3 = .ok (.iconst 0, 1) := by decide +kernel
theorem d_Coder_encodeFields_4 : decode jM_Coder_encodeFields.2.1 4 = .ok (.istore 5, 2) := by decide +kernel
theorem d_Coder_encodeFields_6 : decode jM_Coder_encodeFields.2.1 6 = .ok (.iload 5, 2) := by decide +kernel
theorem d_Coder_encodeFields_8 : decode jM_Coder_encodeFields.2.1 8 = .ok (.aload_n 0, 1) := by decide +kernel
theorem d_Coder_encodeFields_9 : decode jM_Coder_encodeFields.2.1 9 = .ok (.getfield 68, 3) := by decide +kernel
theorem d_Coder_encodeFields_12 : decode jM_Coder_encodeFields.2.1 12 = .ok (.arraylength, 1) := by decide +kernel
theorem d_Coder_encodeFields_13 : decode jM_Coder_encodeFields.2.1 13 = .ok (.if_icmp .ge 34, 3) := by decide +kernel
theorem d_Coder_encodeFields_16 : decode jM_Coder_encodeFields.2.1 16 = .ok (.iload 4, 2) := by decide +kernel
theorem d_Coder_encodeFields_18 : decode jM_Coder_encodeFields.2.1 18 = .ok (.iconst (-1), 1) := by decide +kernel
theorem d_Coder_encodeFields_19 : decode jM_Coder_encodeFields.2.1 19 = .ok (.if_icmp .eq 28, 3) := by decide +kernel
theorem d_Coder_encodeFields_22 : decode jM_Coder_encodeFields.2.1 22 = .ok (.aload_n 0, 1) := by decide +kernel
theorem d_Coder_encodeFields_23 : decode jM_Coder_encodeFields.2.1 23 = .ok (.getfield 68, 3) := by decide +kernel
theorem d_Coder_encodeFields_26 : decode jM_Coder_encodeFields.2.1 26 = .ok (.iload 5, 2) := by decide +kernel
theorem d_Coder_encodeFields_28 : decode jM_Coder_encodeFields.2.1 28 = .ok (.aaload, 1) := by decide +kernel
theorem d_Coder_encodeFields_29 : decode jM_Coder_encodeFields.2.1 29 = .ok (.getfield 72, 3) := by decide +kernel
theorem d_Coder_encodeFields_32 : decode jM_Coder_encodeFields.2.1 32 = .ok (.aload_n 1, 1) := by decide +kernel
theorem d_Coder_encodeFields_33 : decode jM_Coder_encodeFields.2.1 33 = .ok (.iload 4, 2) := by decide +kernel
theorem d_Coder_encodeFields_35 : decode jM_Coder_encodeFields.2.1 35 = .ok (.aload_n 3, 1) := by decide +kernel
theorem d_Coder_encodeFields_36 : decode jM_Coder_encodeFields.2.1 36 = .ok (.invokestatic 47, 3) := by decide +kernel
theorem d_Coder_encodeFields_39 : decode jM_Coder_encodeFields.2.1 39 = .ok (.istore 4, 2) := by decide +kernel
theorem d_Coder_encodeFields_41 : decode jM_Coder_encodeFields.2.1 41 = .ok (.iinc 5 1, 3) := by decide +kernel
theorem d_Coder_encodeFields_44 : decode jM_Coder_encodeFields.2.1 44 = .ok (.goto (-38), 3) := by decide +kernel
theorem d_Coder_encodeFields_47 : decode jM_Coder_encodeFields.2.1 47 = .ok (.iload 4, 2) := by decide +kernel
theorem d_Coder_encodeFields_49 : decode jM_Coder_encodeFields.2.1 49 = .ok (.ireturn, 1) := by decide +kernel
theorem d_Coder_encodeItems_0 : decode jM_Coder_encodeItems.2.1 0 = .ok (.aload_n 1, 1) := by decide +kernel
theorem d_Coder_encodeItems_1 : decode jM_Coder_encodeItems.2.1 1 = .ok (.iload_n 2, 1) := by decide +kernel
theorem d_Coder_encodeItems_2 : decode jM_Coder_encodeItems.2.1 2 = .ok (.invokevirtual 26, 3) := by decide +kernel
theorem d_Coder_encodeItems_5 : decode jM_Coder_encodeItems.2.1 5 = .ok (.lstore 4, 2) := by decide +kernel
theorem d_Coder_encodeItems_7 : decode jM_Coder_encodeItems.2.1 7 = .ok (.lload 4, 2) := by decide +kernel
theorem d_Coder_encodeItems_9 : decode jM_Coder_encodeItems.2.1 9 = .ok (.lconst 0, 1) := by decide +kernel
theorem d_Coder_encodeItems_10 : decode jM_Coder_encodeItems.2.1 10 = .ok (.lcmp, 1) := by decide +kernel
theorem d_Coder_encodeItems_11 : decode jM_Coder_encodeItems.2.1 11 = .ok (.ifCond .lt 12, 3) := by decide +kernel
theorem d_Coder_encodeItems_14 : decode jM_Coder_encodeItems.2.1 14 = .ok (.lload 4, 2) := by decide +kernel
theorem d_Coder_encodeItems_16 : decode jM_Coder_encodeItems.2.1 16 = .ok (.ldc2_w 66, 3) := by decide +kernel
theorem d_Coder_encodeItems_19 : decode jM_Coder_encodeItems.2.1 19 = .ok (.lcmp, 1) := by decide +kernel
theorem d_Coder_encodeItems_20 : decode jM_Coder_encodeItems.2.1 20 = .ok (.ifCond .le 5, 3) := by decide +kernel
theorem d_Coder_encodeItems_23 : decode jM_Coder_encodeItems.2.1 23 = .ok (.iconst (-1), 1) := by decide +kernel
theorem d_Coder_encodeItems_24 : decode jM_Coder_encodeItems.2.1 24 = .ok (.ireturn, 1) := by decide +kernel
theorem d_Coder_encodeItems_25 : decode jM_Coder_encodeItems.2.1 25 = .ok (.lload 4, 2) := by decide +kernel
theorem d_Coder_encodeItems_27 : decode jM_Coder_encodeItems.2.1 27 = .ok (.lconst 0, 1) := by decide +kernel
theorem d_Coder_encodeItems_28 : decode jM_Coder_encodeItems.2.1 28 = .ok (.lcmp, 1) := by decide +kernel
theorem d_Coder_encodeItems_29 : decode jM_Coder_encodeItems.2.1 29 = .ok (.ifCond .le 9, 3) := by decide +kernel
theorem d_Coder_encodeItems_32 : decode jM_Coder_encodeItems.2.1 32 = .ok (.aload_n 3, 1) := by decide +kernel
theorem d_Coder_encodeItems_33 : decode jM_Coder_encodeItems.2.1 33 = .ok (.lload 4, 2) := by decide +kernel
theorem d_Coder_encodeItems_35 : decode jM_Coder_encodeItems.2.1 35 = .ok (.invokevirtual 37, 3) := by decide +kernel
theorem d_Coder_encodeItems_38 : decode jM_Coder_encodeItems.2.1 38 = .ok (.iload_n 2, 1) := by decide +kernel
theorem d_Coder_encodeItems_39 : decode jM_Coder_encodeItems.2.1 39 = .ok (.iconst 1, 1) := by decide +kernel
theorem d_Coder_encodeItems_40 : decode jM_Coder_encodeItems.2.1 40 = .ok (.iadd, 1) := by decide +kernel
theorem d_Coder_encodeItems_41 : decode jM_Coder_encodeItems.2.1 41 = .ok (.istore 6, 2) := by decide +kernel
theorem d_Coder_encodeItems_43 : decode jM_Coder_encodeItems.2.1 43 = .ok (.iconst 0, 1) := by decide +kernel
theorem d_Coder_encodeItems_44 : decode jM_Coder_encodeItems.2.1 44 = .ok (.istore 7, 2) := by decide +kernel
theorem d_Coder_encodeItems_46 : decode jM_Coder_encodeItems.2.1 46 = .ok (.iload 7, 2) := by decide +kernel
theorem d_Coder_encodeItems_48 : decode jM_Coder_encodeItems.2.1 48 = .ok (.i2l, 1) := by decide +kernel
theorem d_Coder_encodeItems_49 : decode jM_Coder_encodeItems.2.1 49 = .ok (.lload 4, 2) := by decide +kernel
theorem d_Coder_encodeItems_51 : decode jM_Coder_encodeItems.2.1 51 = .ok (.lcmp, 1) := by decide +kernel
theorem d_Coder_encodeItems_52 : decode jM_Coder_encodeItems.2.1 52 = .ok (.ifCond .ge 25, 3) := by decide +kernel
theorem d_Coder_encodeItems_55 : decode jM_Coder_encodeItems.2.1 55 = .ok (.iload 6, 2) := by decide +kernel
theorem d_Coder_encodeItems_57 : decode jM_Coder_encodeItems.2.1 57 = .ok (.iconst (-1), 1) := by decide +kernel
theorem d_Coder_encodeItems_58 : decode jM_Coder_encodeItems.2.1 58 = .ok (.if_icmp .eq 19, 3) := by decide +kernel
theorem d_Coder_encodeItems_61 : decode jM_Coder_encodeItems.2.1 61 = .ok (.aload_n 0, 1) := by decide +kernel
theorem d_Coder_encodeItems_62 : decode jM_Coder_encodeItems.2.1 62 = .ok (.aload_n 1, 1) := by decide +kernel
theorem d_Coder_encodeItems_63 : decode jM_Coder_encodeItems.2.1 63 = .ok (.iload 6, 2) := by decide +kernel
theorem d_Coder_encodeItems_65 : decode jM_Coder_encodeItems.2.1 65 = .ok (.aload_n 3, 1) := by decide +kernel
theorem d_Coder_encodeItems_66 : decode jM_Coder_encodeItems.2.1 66 = .ok (.invokestatic 47, 3) := by decide +kernel
theorem d_Coder_encodeItems_69 : decode jM_Coder_encodeItems.2.1 69 = .ok (.istore 6, 2) := by decide +kernel
theorem d_Coder_encodeItems_71 : decode jM_Coder_encodeItems.2.1 71 = .ok (.iinc 7 1, 3) := by decide +kernel
theorem d_Coder_encodeItems_74 : decode jM_Coder_encodeItems.2.1 74 = .ok (.goto (-28), 3) := by decide +kernel
theorem d_Coder_encodeItems_77 : decode jM_Coder_encodeItems.2.1 77 = .ok (.aload_n 3, 1) := by decide +kernel
theorem d_Coder_encodeItems_78 : decode jM_Coder_encodeItems.2.1 78 = .ok (.iconst 0, 1) := by decide +kernel
theorem d_Coder_encodeItems_79 : decode jM_Coder_encodeItems.2.1 79 = .ok (.invokevirtual 58, 3) := by decide +kernel
theorem d_Coder_encodeItems_82 : decode jM_Coder_encodeItems.2.1 82 = .ok (.iload 6, 2) := by decide +kernel
theorem d_Coder_encodeItems_84 : decode jM_Coder_encodeItems.2.1 84 = .ok (.ireturn, 1) := by decide +kernel
theorem d_Coder_encode_0 : decode jM_Coder_encode.2.1 0 = .ok (.aload_n 0, 1) := by decide +kernel
theorem d_Coder_encode_1 : decode jM_Coder_encode.2.1 1 = .ok (.getfield 9, 3) := by decide +kernel
theorem d_Coder_encode_4 : decode jM_Coder_encode.2.1 4 = .ok (.ifCond .ne 5, 3) := by decide +kernel
theorem d_Coder_encode_7 : decode jM_Coder_encode.2.1 7 = .ok (.iload_n 2, 1) := by decide +kernel
theorem d_Coder_encode_8 : decode jM_Coder_encode.2.1 8 = .ok (.ireturn, 1) := by decide +kernel
theorem d_Coder_encode_9 : decode jM_Coder_encode.2.1 9 = .ok (.aload_n 0, 1) := by decide +kernel
theorem d_Coder_encode_10 : decode jM_Coder_encode.2.1 10 = .ok (.getfield 9, 3) := by decide +kernel
theorem d_Coder_encode_13 : decode jM_Coder_encode.2.1 13 = .ok (.bipush 7, 2) := by decide +kernel
theorem d_Coder_encode_15 : decode jM_Coder_encode.2.1 15 = .ok (.if_icmp .ne 11, 3) := by decide +kernel
theorem d_Coder_encode_18 : decode jM_Coder_encode.2.1 18 = .ok (.aload_n 0, 1) := by decide +kernel
theorem d_Coder_encode_19 : decode jM_Coder_encode.2.1 19 = .ok (.aload_n 1, 1) := by decide +kernel
theorem d_Coder_encode_20 : decode jM_Coder_encode.2.1 20 = .ok (.iload_n 2, 1) := by decide +kernel
theorem d_Coder_encode_21 : decode jM_Coder_encode.2.1 21 = .ok (.aload_n 3, 1) := by decide +kernel
theorem d_Coder_encode_22 : decode jM_Coder_encode.2.1 22 = .ok (.invokestatic 15, 3) := by decide +kernel
theorem d_Coder_encode_25 : decode jM_Coder_encode.2.1 25 = .ok (.ireturn, 1) := by decide +kernel
theorem d_Coder_encode_26 : decode jM_Coder_encode.2.1 26 = .ok (.iload_n 2, 1) := by decide +kernel
theorem d_Coder_encode_27 : decode jM_Coder_encode.2.1 27 = .ok (.aload_n 1, 1) := by decide +kernel
theorem d_Coder_encode_28 : decode jM_Coder_encode.2.1 28 = .ok (.getfield 21, 3) := by decide +kernel
theorem d_Coder_encode_31 : decode jM_Coder_encode.2.1 31 = .ok (.if_icmp .lt 5, 3) := by decide +kernel
theorem d_Coder_encode_34 : decode jM_Coder_encode.2.1 34 = .ok (.iconst (-1), 1) := by decide +kernel
theorem d_Coder_encode_35 : decode jM_Coder_encode.2.1 35 = .ok (.ireturn, 1) := by decide +kernel
theorem d_Coder_encode_36 : decode jM_Coder_encode.2.1 36 = .ok (.aload_n 1, 1) := by decide +kernel
theorem d_Coder_encode_37 : decode jM_Coder_encode.2.1 37 = .ok (.iload_n 2, 1) := by decide +kernel
theorem d_Coder_encode_38 : decode jM_Coder_encode.2.1 38 = .ok (.invokevirtual 26, 3) := by decide +kernel
theorem d_Coder_encode_41 : decode jM_Coder_encode.2.1 41 = .ok (.lstore 4, 2) := by decide +kernel
theorem d_Coder_encode_43 : decode jM_Coder_encode.2.1 43 = .ok (.aload_n 0, 1) := by decide +kernel
theorem d_Coder_encode_44 : decode jM_Coder_encode.2.1 44 = .ok (.getfield 9, 3) := by decide +kernel
theorem d_Coder_encode_47 : decode jM_Coder_encode.2.1 47 = .ok (.iconst 5, 1) := by decide +kernel
theorem d_Coder_encode_48 : decode jM_Coder_encode.2.1 48 = .ok (.if_icmp .ne 14, 3) := by decide +kernel
theorem d_Coder_encode_51 : decode jM_Coder_encode.2.1 51 = .ok (.aload_n 0, 1) := by decide +kernel
theorem d_Coder_encode_52 : decode jM_Coder_encode.2.1 52 = .ok (.getfield 30, 3) := by decide +kernel
theorem d_Coder_encode_55 : decode jM_Coder_encode.2.1 55 = .ok (.aload_n 1, 1) := by decide +kernel
theorem d_Coder_encode_56 : decode jM_Coder_encode.2.1 56 = .ok (.iload_n 2, 1) := by decide +kernel
theorem d_Coder_encode_57 : decode jM_Coder_encode.2.1 57 = .ok (.aload_n 3, 1) := by decide +kernel
theorem d_Coder_encode_58 : decode jM_Coder_encode.2.1 58 = .ok (.invokestatic 34, 3) := by decide +kernel
theorem d_Coder_encode_61 : decode jM_Coder_encode.2.1 61 = .ok (.ireturn, 1) := by decide +kernel
theorem d_Coder_encode_62 : decode jM_Coder_encode.2.1 62 = .ok (.aload_n 0, 1) := by decide +kernel
theorem d_Coder_encode_63 : decode jM_Coder_encode.2.1 63 = .ok (.getfield 9, 3) := by decide +kernel
theorem d_Coder_encode_66 : decode jM_Coder_encode.2.1 66 = .ok (.bipush 6, 2) := by decide +kernel
theorem d_Coder_encode_68 : decode jM_Coder_encode.2.1 68 = .ok (.if_icmp .ne 40, 3) := by decide +kernel
theorem d_Coder_encode_71 : decode jM_Coder_encode.2.1 71 = .ok (.lload 4, 2) := by decide +kernel
theorem d_Coder_encode_73 : decode jM_Coder_encode.2.1 73 = .ok (.lconst 0, 1) := by decide +kernel
theorem d_Coder_encode_74 : decode jM_Coder_encode.2.1 74 = .ok (.lcmp, 1) := by decide +kernel
theorem d_Coder_encode_75 : decode jM_Coder_encode.2.1 75 = .ok (.ifCond .eq 12, 3) := by decide +kernel
theorem d_Coder_encode_78 : decode jM_Coder_encode.2.1 78 = .ok (.lload 4, 2) := by decide +kernel
theorem d_Coder_encode_80 : decode jM_Coder_encode.2.1 80 = .ok (.lconst 1, 1) := by decide +kernel
theorem d_Coder_encode_81 : decode jM_Coder_encode.2.1 81 = .ok (.lcmp, 1) := by decide +kernel
theorem d_Coder_encode_82 : decode jM_Coder_encode.2.1 82 = .ok (.ifCond .eq 5, 3) := by decide +kernel
theorem d_Coder_encode_85 : decode jM_Coder_encode.2.1 85 = .ok (.iconst (-1), 1) := by decide +kernel
theorem d_Coder_encode_86 : decode jM_Coder_encode.2.1 86 = .ok (.ireturn, 1) := by decide +kernel
theorem d_Coder_encode_87 : decode jM_Coder_encode.2.1 87 = .ok (.aload_n 3, 1) := by decide +kernel
theorem d_Coder_encode_88 : decode jM_Coder_encode.2.1 88 = .ok (.lload 4, 2) := by decide +kernel
theorem d_Coder_encode_90 : decode jM_Coder_encode.2.1 90 = .ok (.invokevirtual 37, 3) := by decide +kernel
theorem d_Coder_encode_93 : decode jM_Coder_encode.2.1 93 = .ok (.aload_n 0, 1) := by decide +kernel
theorem d_Coder_encode_94 : decode jM_Coder_encode.2.1 94 = .ok (.lload 4, 2) := by decide +kernel
theorem d_Coder_encode_96 : decode jM_Coder_encode.2.1 96 = .ok (.invokevirtual 43, 3) := by decide +kernel
theorem d_Coder_encode_99 : decode jM_Coder_encode.2.1 99 = .ok (.aload_n 1, 1) := by decide +kernel
theorem d_Coder_encode_100 : decode jM_Coder_encode.2.1 100 = .ok (.iload_n 2, 1) := by decide +kernel
theorem d_Coder_encode_101 : decode jM_Coder_encode.2.1 101 = .ok (.iconst 1, 1) := by decide +kernel
theorem d_Coder_encode_102 : decode jM_Coder_encode.2.1 102 = .ok (.iadd, 1) := by decide +kernel
theorem d_Coder_encode_103 : decode jM_Coder_encode.2.1 103 = .ok (.aload_n 3, 1) := by decide +kernel
theorem d_Coder_encode_104 : decode jM_Coder_encode.2.1 104 = .ok (.invokestatic 47, 3) := by decide +kernel
theorem d_Coder_encode_107 : decode jM_Coder_encode.2.1 107 = .ok (.ireturn, 1) := by decide +kernel
theorem d_Coder_encode_108 : decode jM_Coder_encode.2.1 108 = .ok (.aload_n 0, 1) := by decide +kernel
theorem d_Coder_encode_109 : decode jM_Coder_encode.2.1 109 = .ok (.lload 4, 2) := by decide +kernel
theorem d_Coder_encode_111 : decode jM_Coder_encode.2.1 111 = .ok (.invokevirtual 50, 3) := by decide +kernel
theorem d_Coder_encode_114 : decode jM_Coder_encode.2.1 114 = .ok (.ifCond .ne 5, 3) := by decide +kernel
theorem d_Coder_encode_117 : decode jM_Coder_encode.2.1 117 = .ok (.iconst (-1), 1) := by decide +kernel
theorem d_Coder_encode_118 : decode jM_Coder_encode.2.1 118 = .ok (.ireturn, 1) := by decide +kernel
theorem d_Coder_encode_119 : decode jM_Coder_encode.2.1 119 = .ok (.aload_n 0, 1) := by decide +kernel
theorem d_Coder_encode_120 : decode jM_Coder_encode.2.1 120 = .ok (.lload 4, 2) := by decide +kernel
theorem d_Coder_encode_122 : decode jM_Coder_encode.2.1 122 = .ok (.aload_n 3, 1) := by decide +kernel
theorem d_Coder_encode_123 : decode jM_Coder_encode.2.1 123 = .ok (.invokestatic 54, 3) := by decide +kernel
theorem d_Coder_encode_126 : decode jM_Coder_encode.2.1 126 = .ok (.iload_n 2, 1) := by decide +kernel
theorem d_Coder_encode_127 : decode jM_Coder_encode.2.1 127 = .ok (.iconst 1, 1) := by decide +kernel
theorem d_Coder_encode_128 : decode jM_Coder_encode.2.1 128 = .ok (.iadd, 1) := by decide +kernel
theorem d_Coder_encode_129 : decode jM_Coder_encode.2.1 129 = .ok (.ireturn, 1) := by decide +kernel
theorem d_Staging_add_0 : decode jM_Staging_add.2.1 0 = .ok (.aload_n 0, 1) := by decide +kernel
theorem d_Staging_add_1 : decode jM_Staging_add.2.1 1 = .ok (.getfield 16, 3) := by decide +kernel
theorem d_Staging_add_4 : decode jM_Staging_add.2.1 4 = .ok (.getfield 27, 3) := by decide +kernel
theorem d_Staging_add_7 : decode jM_Staging_add.2.1 7 = .ok (.istore 4, 2) := by decide +kernel
theorem d_Staging_add_9 : decode jM_Staging_add.2.1 9 = .ok (.aload_n 2, 1) := by decide +kernel
theorem d_Staging_add_10 : decode jM_Staging_add.2.1 10 = .ok (.aload_n 3, 1) := by decide +kernel
theorem d_Staging_add_11 : decode jM_Staging_add.2.1 11 = .ok (.iconst 0, 1) := by decide +kernel
theorem d_Staging_add_12 : decode jM_Staging_add.2.1 12 = .ok (.aload_n 0, 1) := by decide +kernel
theorem d_Staging_add_13 : decode jM_Staging_add.2.1 13 = .ok (.getfield 16, 3) := by decide +kernel
theorem d_Staging_add_16 : decode jM_Staging_add.2.1 16 = .ok (.invokestatic 30, 3) := by decide +kernel
theorem d_Staging_add_19 : decode jM_Staging_add.2.1 19 = .ok (.aload_n 3, 1) := by decide +kernel
theorem d_Staging_add_20 : decode jM_Staging_add.2.1 20 = .ok (.getfield 36, 3) := by decide +kernel
theorem d_Staging_add_23 : decode jM_Staging_add.2.1 23 = .ok (.if_icmp .eq 14, 3) := by decide +kernel
theorem d_Staging_add_26 : decode jM_Staging_add.2.1 26 = .ok (.aload_n 0, 1) := by decide +kernel
theorem d_Staging_add_27 : decode jM_Staging_add.2.1 27 = .ok (.getfield 16, 3) := by decide +kernel
theorem d_Staging_add_30 : decode jM_Staging_add.2.1 30 = .ok (.iload 4, 2) := by decide +kernel
theorem d_Staging_add_32 : decode jM_Staging_add.2.1 32 = .ok (.invokevirtual 39, 3) := by decide +kernel
theorem d_Staging_add_35 : decode jM_Staging_add.2.1 35 = .ok (.iconst (-1), 1) := by decide +kernel
theorem d_Staging_add_36 : decode jM_Staging_add.2.1 36 = .ok (.ireturn, 1) := by decide +kernel
theorem d_Staging_add_37 : decode jM_Staging_add.2.1 37 = .ok (.aload_n 0, 1) := by decide +kernel
theorem d_Staging_add_38 : decode jM_Staging_add.2.1 38 = .ok (.getfield 24, 3) := by decide +kernel
theorem d_Staging_add_41 : decode jM_Staging_add.2.1 41 = .ok (.bipush 10, 2) := by decide +kernel
theorem d_Staging_add_43 : decode jM_Staging_add.2.1 43 = .ok (.if_icmp .eq 16, 3) := by decide +kernel
theorem d_Staging_add_46 : decode jM_Staging_add.2.1 46 = .ok (.aload_n 0, 1) := by decide +kernel
theorem d_Staging_add_47 : decode jM_Staging_add.2.1 47 = .ok (.getfield 16, 3) := by decide +kernel
theorem d_Staging_add_50 : decode jM_Staging_add.2.1 50 = .ok (.getfield 27, 3) := by decide +kernel
theorem d_Staging_add_53 : decode jM_Staging_add.2.1 53 = .ok (.sipush 150, 3) := by decide +kernel
theorem d_Staging_add_56 : decode jM_Staging_add.2.1 56 = .ok (.if_icmp .le 15, 3) := by decide +kernel
theorem d_Staging_add_59 : decode jM_Staging_add.2.1 59 = .ok (.aload_n 0, 1) := by decide +kernel
theorem d_Staging_add_60 : decode jM_Staging_add.2.1 60 = .ok (.getfield 16, 3) := by decide +kernel
theorem d_Staging_add_63 : decode jM_Staging_add.2.1 63 = .ok (.iload 4, 2) := by decide +kernel
theorem d_Staging_add_65 : decode jM_Staging_add.2.1 65 = .ok (.invokevirtual 39, 3) := by decide +kernel
theorem d_Staging_add_68 : decode jM_Staging_add.2.1 68 = .ok (.bipush (-3), 2) := by decide +kernel
theorem d_Staging_add_70 : decode jM_Staging_add.2.1 70 = .ok (.ireturn, 1) := by decide +kernel
theorem d_Staging_add_71 : decode jM_Staging_add.2.1 71 = .ok (.aload_n 0, 1) := by decide +kernel
theorem d_Staging_add_72 : decode jM_Staging_add.2.1 72 = .ok (.iload_n 1, 1) := by decide +kernel
theorem d_Staging_add_73 : decode jM_Staging_add.2.1 73 = .ok (.putfield 20, 3) := by decide +kernel
theorem d_Staging_add_76 : decode jM_Staging_add.2.1 76 = .ok (.aload_n 0, 1) := by decide +kernel
theorem d_Staging_add_77 : decode jM_Staging_add.2.1 77 = .ok (.dup, 1) := by decide +kernel
theorem d_Staging_add_78 : decode jM_Staging_add.2.1 78 = .ok (.getfield 24, 3) := by decide +kernel
theorem d_Staging_add_81 : decode jM_Staging_add.2.1 81 = .ok (.iconst 1, 1) := by decide +kernel
theorem d_Staging_add_82 : decode jM_Staging_add.2.1 82 = .ok (.iadd, 1) := by decide +kernel
theorem d_Staging_add_83 : decode jM_Staging_add.2.1 83 = .ok (.putfield 24, 3) := by decide +kernel
theorem d_Staging_add_86 : decode jM_Staging_add.2.1 86 = .ok (.aload_n 0, 1) := by decide +kernel
theorem d_Staging_add_87 : decode jM_Staging_add.2.1 87 = .ok (.getfield 16, 3) := by decide +kernel
theorem d_Staging_add_90 : decode jM_Staging_add.2.1 90 = .ok (.getfield 27, 3) := by decide +kernel
theorem d_Staging_add_93 : decode jM_Staging_add.2.1 93 = .ok (.iload 4, 2) := by decide +kernel
theorem d_Staging_add_95 : decode jM_Staging_add.2.1 95 = .ok (.isub, 1) := by decide +kernel
theorem d_Staging_add_96 : decode jM_Staging_add.2.1 96 = .ok (.ireturn, 1) := by decide +kernel
theorem d_Staging_hasOtherThan_0 : decode jM_Staging_hasOtherThan.2.1 0 = .ok (.aload_n 0, 1) := by decide +kernel
theorem d_Staging_hasOtherThan_1 : decode jM_Staging_hasOtherThan.2.1 1 = .ok (.getfield 24, 3) := by decide +kernel
theorem d_Staging_hasOtherThan_4 : decode jM_Staging_hasOtherThan.2.1 4 = .ok (.ifCond .le 15, 3) := by decide +kernel
theorem d_Staging_hasOtherThan_7 : decode jM_Staging_hasOtherThan.2.1 7 = .ok (.aload_n 0, 1) := by decide +kernel
theorem d_Staging_hasOtherThan_8 : decode jM_Staging_hasOtherThan.2.1 8 = .ok (.getfield 20, 3) := by decide +kernel
theorem d_Staging_hasOtherThan_11 : decode jM_Staging_hasOtherThan.2.1 11 = .ok (.iload_n 1, 1) := by decide +kernel
theorem d_Staging_hasOtherThan_12 : decode jM_Staging_hasOtherThan.2.1 12 = .ok (.if_icmp .eq 7, 3) := by decide +kernel
theorem d_Staging_hasOtherThan_15 : decode jM_Staging_hasOtherThan.2.1 15 = .ok (.iconst 1, 1) := by decide +kernel
theorem d_Staging_hasOtherThan_16 : decode jM_Staging_hasOtherThan.2.1 16 = .ok (.goto 4, 3) := by decide +kernel
theorem d_Staging_hasOtherThan_19 : decode jM_Staging_hasOtherThan.2.1 19 = .ok (.iconst 0, 1) := by decide +kernel
theorem d_Staging_hasOtherThan_20 : decode jM_Staging_hasOtherThan.2.1 20 = .ok (.ireturn, 1) := by decide +kernel
theorem d_ST_stage_0 : decode jM_ST_stage.2.1 0 = .ok (.aload_n 0, 1) := by decide +kernel
theorem d_ST_stage_1 : decode jM_ST_stage.2.1 1 = .ok (.getfield 19, 3) := by decide +kernel
theorem d_ST_stage_4 : decode jM_ST_stage.2.1 4 = .ok (.getfield 79, 3) := by decide +kernel
theorem d_ST_stage_7 : decode jM_ST_stage.2.1 7 = .ok (.ifCond .ne 6, 3) := by decide +kernel
theorem d_ST_stage_10 : decode jM_ST_stage.2.1 10 = .ok (.bipush (-4), 2) := by decide +kernel
theorem d_ST_stage_12 : decode jM_ST_stage.2.1 12 = .ok (.ireturn, 1) := by decide +kernel
theorem d_ST_stage_13 : decode jM_ST_stage.2.1 13 = .ok (.aload_n 0, 1) := by decide +kernel
theorem d_ST_stage_14 : decode jM_ST_stage.2.1 14 = .ok (.getfield 13, 3) := by decide +kernel
theorem d_ST_stage_17 : decode jM_ST_stage.2.1 17 = .ok (.iload_n 1, 1) := by decide +kernel
theorem d_ST_stage_18 : decode jM_ST_stage.2.1 18 = .ok (.invokevirtual 61, 3) := by decide +kernel
theorem d_ST_stage_21 : decode jM_ST_stage.2.1 21 = .ok (.astore_n 2, 1) := by decide +kernel
theorem d_ST_stage_22 : decode jM_ST_stage.2.1 22 = .ok (.aload_n 2, 1) := by decide +kernel
theorem d_ST_stage_23 : decode jM_ST_stage.2.1 23 = .ok (.ifnull 14, 3) := by decide +kernel
theorem d_ST_stage_26 : decode jM_ST_stage.2.1 26 = .ok (.aload_n 0, 1) := by decide +kernel
theorem d_ST_stage_27 : decode jM_ST_stage.2.1 27 = .ok (.getfield 42, 3) := by decide +kernel
theorem d_ST_stage_30 : decode jM_ST_stage.2.1 30 = .ok (.iload_n 1, 1) := by decide +kernel
theorem d_ST_stage_31 : decode jM_ST_stage.2.1 31 = .ok (.invokevirtual 121, 3) := by decide +kernel
theorem d_ST_stage_34 : decode jM_ST_stage.2.1 34 = .ok (.ifCond .eq 5, 3) := by decide +kernel
theorem d_ST_stage_37 : decode jM_ST_stage.2.1 37 = .ok (.iconst (-1), 1) := by decide +kernel
theorem d_ST_stage_38 : decode jM_ST_stage.2.1 38 = .ok (.ireturn, 1) := by decide +kernel
theorem d_ST_stage_39 : decode jM_ST_stage.2.1 39 = .ok (.aload_n 0, 1) := by decide +kernel
theorem d_ST_stage_40 : decode jM_ST_stage.2.1 40 = .ok (.getfield 42, 3) := by decide +kernel
theorem d_ST_stage_43 : decode jM_ST_stage.2.1 43 = .ok (.iload_n 1, 1) := by decide +kernel
theorem d_ST_stage_44 : decode jM_ST_stage.2.1 44 = .ok (.aload_n 2, 1) := by decide +kernel
theorem d_ST_stage_45 : decode jM_ST_stage.2.1 45 = .ok (.aload_n 0, 1) := by decide +kernel
theorem d_ST_stage_46 : decode jM_ST_stage.2.1 46 = .ok (.getfield 51, 3) := by decide +kernel
theorem d_ST_stage_49 : decode jM_ST_stage.2.1 49 = .ok (.invokevirtual 124, 3) := by decide +kernel
theorem d_ST_stage_52 : decode jM_ST_stage.2.1 52 = .ok (.istore_n 3, 1) := by decide +kernel
theorem d_ST_stage_53 : decode jM_ST_stage.2.1 53 = .ok (.iload_n 3, 1) := by decide +kernel
theorem d_ST_stage_54 : decode jM_ST_stage.2.1 54 = .ok (.ifCond .lt 10, 3) := by decide +kernel
theorem d_ST_stage_57 : decode jM_ST_stage.2.1 57 = .ok (.aload_n 0, 1) := by decide +kernel
theorem d_ST_stage_58 : decode jM_ST_stage.2.1 58 = .ok (.getfield 51, 3) := by decide +kernel
theorem d_ST_stage_61 : decode jM_ST_stage.2.1 61 = .ok (.invokevirtual 128, 3) := by decide +kernel
theorem d_ST_stage_64 : decode jM_ST_stage.2.1 64 = .ok (.iload_n 3, 1) := by decide +kernel
theorem d_ST_stage_65 : decode jM_ST_stage.2.1 65 = .ok (.ireturn, 1) := by decide +kernel
theorem d_ST_drop_0 : decode jM_ST_drop.2.1 0 = .ok (.aload_n 0, 1) := by decide +kernel
theorem d_ST_drop_1 : decode jM_ST_drop.2.1 1 = .ok (.getfield 19, 3) := by decide +kernel
theorem d_ST_drop_4 : decode jM_ST_drop.2.1 4 = .ok (.getfield 79, 3) := by decide +kernel
theorem d_ST_drop_7 : decode jM_ST_drop.2.1 7 = .ok (.ifCond .ne 6, 3) := by decide +kernel
theorem d_ST_drop_10 : decode jM_ST_drop.2.1 10 = .ok (.bipush (-4), 2) := by decide +kernel
theorem d_ST_drop_12 : decode jM_ST_drop.2.1 12 = .ok (.ireturn, 1) := by decide +kernel
theorem d_ST_drop_13 : decode jM_ST_drop.2.1 13 = .ok (.aload_n 0, 1) := by decide +kernel
theorem d_ST_drop_14 : decode jM_ST_drop.2.1 14 = .ok (.getfield 51, 3) := by decide +kernel
theorem d_ST_drop_17 : decode jM_ST_drop.2.1 17 = .ok (.invokevirtual 128, 3) := by decide +kernel
theorem d_ST_drop_20 : decode jM_ST_drop.2.1 20 = .ok (.aload_n 0, 1) := by decide +kernel
theorem d_ST_drop_21 : decode jM_ST_drop.2.1 21 = .ok (.getfield 42, 3) := by decide +kernel
theorem d_ST_drop_24 : decode jM_ST_drop.2.1 24 = .ok (.invokevirtual 131, 3) := by decide +kernel
theorem d_ST_drop_27 : decode jM_ST_drop.2.1 27 = .ok (.iconst 0, 1) := by decide +kernel
theorem d_ST_drop_28 : decode jM_ST_drop.2.1 28 = .ok (.ireturn, 1) := by decide +kernel
theorem d_Disk_blocksFor_0 : decode jM_Disk_blocksFor.2.1 0 = .ok (.iload_n 0, 1) := by decide +kernel
theorem d_Disk_blocksFor_1 : decode jM_Disk_blocksFor.2.1 1 = .ok (.bipush 32, 2) := by decide +kernel
theorem d_Disk_blocksFor_3 : decode jM_Disk_blocksFor.2.1 3 = .ok (.iadd, 1) := by decide +kernel
theorem d_Disk_blocksFor_4 : decode jM_Disk_blocksFor.2.1 4 = .ok (.iconst 1, 1) := by decide +kernel
theorem d_Disk_blocksFor_5 : decode jM_Disk_blocksFor.2.1 5 = .ok (.isub, 1) := by decide +kernel
theorem d_Disk_blocksFor_6 : decode jM_Disk_blocksFor.2.1 6 = .ok (.bipush 32, 2) := by decide +kernel
theorem d_Disk_blocksFor_8 : decode jM_Disk_blocksFor.2.1 8 = .ok (.idiv, 1) := by decide +kernel
theorem d_Disk_blocksFor_9 : decode jM_Disk_blocksFor.2.1 9 = .ok (.ireturn, 1) := by decide +kernel
theorem d_Disk_putAll_0 : decode jM_Disk_putAll.2.1 0 = .ok (.aload_n 2, 1) := by decide +kernel
theorem d_Disk_putAll_1 : decode jM_Disk_putAll.2.1 1 = .ok (.getfield 37, 3) := by decide +kernel
theorem d_Disk_putAll_4 : decode jM_Disk_putAll.2.1 4 = .ok (.invokestatic 40, 3) := by decide +kernel
theorem d_Disk_putAll_7 : decode jM_Disk_putAll.2.1 7 = .ok (.istore_n 3, 1) := by decide +kernel
theorem d_Disk_putAll_8 : decode jM_Disk_putAll.2.1 8 = .ok (.iconst 0, 1) := by decide +kernel
theorem d_Disk_putAll_9 : decode jM_Disk_putAll.2.1 9 = .ok (.istore 4, 2) := by decide +kernel
theorem d_Disk_putAll_11 : decode jM_Disk_putAll.2.1 11 = .ok (.iload 4, 2) := by decide +kernel
theorem d_Disk_putAll_13 : decode jM_Disk_putAll.2.1 13 = .ok (.iload_n 3, 1) := by decide +kernel
theorem d_Disk_putAll_14 : decode jM_Disk_putAll.2.1 14 = .ok (.if_icmp .ge 28, 3) := by decide +kernel
theorem d_Disk_putAll_17 : decode jM_Disk_putAll.2.1 17 = .ok (.aload_n 0, 1) := by decide +kernel
theorem d_Disk_putAll_18 : decode jM_Disk_putAll.2.1 18 = .ok (.iload_n 1, 1) := by decide +kernel
theorem d_Disk_putAll_19 : decode jM_Disk_putAll.2.1 19 = .ok (.iload 4, 2) := by decide +kernel
theorem d_Disk_putAll_21 : decode jM_Disk_putAll.2.1 21 = .ok (.iadd, 1) := by decide +kernel
theorem d_Disk_putAll_22 : decode jM_Disk_putAll.2.1 22 = .ok (.aload_n 2, 1) := by decide +kernel
theorem d_Disk_putAll_23 : decode jM_Disk_putAll.2.1 23 = .ok (.iload 4, 2) := by decide +kernel
theorem d_Disk_putAll_25 : decode jM_Disk_putAll.2.1 25 = .ok (.invokestatic 24, 3) := by decide +kernel
theorem d_Disk_putAll_28 : decode jM_Disk_putAll.2.1 28 = .ok (.invokevirtual 43, 3) := by decide +kernel
theorem d_Disk_putAll_31 : decode jM_Disk_putAll.2.1 31 = .ok (.ifCond .ne 5, 3) := by decide +kernel
theorem d_Disk_putAll_34 : decode jM_Disk_putAll.2.1 34 = .ok (.iconst 0, 1) := by decide +kernel
theorem d_Disk_putAll_35 : decode jM_Disk_putAll.2.1 35 = .ok (.ireturn, 1) := by decide +kernel
theorem d_Disk_putAll_36 : decode jM_Disk_putAll.2.1 36 = .ok (.iinc 4 1, 3) := by decide +kernel
theorem d_Disk_putAll_39 : decode jM_Disk_putAll.2.1 39 = .ok (.goto (-28), 3) := by decide +kernel
theorem d_Disk_putAll_42 : decode jM_Disk_putAll.2.1 42 = .ok (.iconst 1, 1) := by decide +kernel
theorem d_Disk_putAll_43 : decode jM_Disk_putAll.2.1 43 = .ok (.ireturn, 1) := by decide +kernel
theorem d_Manifest_entryByte_0 : decode jM_Manifest_entryByte.2.1 0 = .ok (.aload_n 0, 1) := by decide +kernel
theorem d_Manifest_entryByte_1 : decode jM_Manifest_entryByte.2.1 1 = .ok (.getfield 9, 3) := by decide +kernel
theorem d_Manifest_entryByte_4 : decode jM_Manifest_entryByte.2.1 4 = .ok (.iconst 0, 1) := by decide +kernel
theorem d_Manifest_entryByte_5 : decode jM_Manifest_entryByte.2.1 5 = .ok (.invokestatic 137, 3) := by decide +kernel
theorem d_Manifest_entryByte_8 : decode jM_Manifest_entryByte.2.1 8 = .ok (.iconst 1, 1) := by decide +kernel
theorem d_Manifest_entryByte_9 : decode jM_Manifest_entryByte.2.1 9 = .ok (.iadd, 1) := by decide +kernel
theorem d_Manifest_entryByte_10 : decode jM_Manifest_entryByte.2.1 10 = .ok (.iload_n 1, 1) := by decide +kernel
theorem d_Manifest_entryByte_11 : decode jM_Manifest_entryByte.2.1 11 = .ok (.iconst 3, 1) := by decide +kernel
theorem d_Manifest_entryByte_12 : decode jM_Manifest_entryByte.2.1 12 = .ok (.imul, 1) := by decide +kernel
theorem d_Manifest_entryByte_13 : decode jM_Manifest_entryByte.2.1 13 = .ok (.iadd, 1) := by decide +kernel
theorem d_Manifest_entryByte_14 : decode jM_Manifest_entryByte.2.1 14 = .ok (.iload_n 2, 1) := by decide +kernel
theorem d_Manifest_entryByte_15 : decode jM_Manifest_entryByte.2.1 15 = .ok (.iadd, 1) := by decide +kernel
theorem d_Manifest_entryByte_16 : decode jM_Manifest_entryByte.2.1 16 = .ok (.invokevirtual 112, 3) := by decide +kernel
theorem d_Manifest_entryByte_19 : decode jM_Manifest_entryByte.2.1 19 = .ok (.ireturn, 1) := by decide +kernel
theorem d_Manifest_blocksOf_0 : decode jM_Manifest_blocksOf.2.1 0 = .ok (.aload_n 0, 1) := by decide +kernel
theorem d_Manifest_blocksOf_1 : decode jM_Manifest_blocksOf.2.1 1 = .ok (.iload_n 1, 1) := by decide +kernel
theorem d_Manifest_blocksOf_2 : decode jM_Manifest_blocksOf.2.1 2 = .ok (.iconst 2, 1) := by decide +kernel
theorem d_Manifest_blocksOf_3 : decode jM_Manifest_blocksOf.2.1 3 = .ok (.invokevirtual 140, 3) := by decide +kernel
theorem d_Manifest_blocksOf_6 : decode jM_Manifest_blocksOf.2.1 6 = .ok (.ireturn, 1) := by decide +kernel
theorem d_Manifest_draftEntry_0 : decode jM_Manifest_draftEntry.2.1 0 = .ok (.aload_n 0, 1) := by decide +kernel
theorem d_Manifest_draftEntry_1 : decode jM_Manifest_draftEntry.2.1 1 = .ok (.getfield 26, 3) := by decide +kernel
theorem d_Manifest_draftEntry_4 : decode jM_Manifest_draftEntry.2.1 4 = .ok (.iload_n 1, 1) := by decide +kernel
theorem d_Manifest_draftEntry_5 : decode jM_Manifest_draftEntry.2.1 5 = .ok (.invokevirtual 100, 3) := by decide +kernel
theorem d_Manifest_draftEntry_8 : decode jM_Manifest_draftEntry.2.1 8 = .ok (.aload_n 0, 1) := by decide +kernel
theorem d_Manifest_draftEntry_9 : decode jM_Manifest_draftEntry.2.1 9 = .ok (.getfield 26, 3) := by decide +kernel
theorem d_Manifest_draftEntry_12 : decode jM_Manifest_draftEntry.2.1 12 = .ok (.iload_n 2, 1) := by decide +kernel
theorem d_Manifest_draftEntry_13 : decode jM_Manifest_draftEntry.2.1 13 = .ok (.invokevirtual 100, 3) := by decide +kernel
theorem d_Manifest_draftEntry_16 : decode jM_Manifest_draftEntry.2.1 16 = .ok (.aload_n 0, 1) := by decide +kernel
theorem d_Manifest_draftEntry_17 : decode jM_Manifest_draftEntry.2.1 17 = .ok (.getfield 26, 3) := by decide +kernel
theorem d_Manifest_draftEntry_20 : decode jM_Manifest_draftEntry.2.1 20 = .ok (.iload_n 3, 1) := by decide +kernel
theorem d_Manifest_draftEntry_21 : decode jM_Manifest_draftEntry.2.1 21 = .ok (.invokevirtual 100, 3) := by decide +kernel
theorem d_Manifest_draftEntry_24 : decode jM_Manifest_draftEntry.2.1 24 = .ok (.return_, 1) := by decide +kernel
theorem d_Manifest_entries_0 : decode jM_Manifest_entries.2.1 0 = .ok (.aload_n 0, 1) := by decide +kernel
theorem d_Manifest_entries_1 : decode jM_Manifest_entries.2.1 1 = .ok (.getfield 9, 3) := by decide +kernel
theorem d_Manifest_entries_4 : decode jM_Manifest_entries.2.1 4 = .ok (.iconst 0, 1) := by decide +kernel
theorem d_Manifest_entries_5 : decode jM_Manifest_entries.2.1 5 = .ok (.invokestatic 137, 3) := by decide +kernel
theorem d_Manifest_entries_8 : decode jM_Manifest_entries.2.1 8 = .ok (.invokevirtual 112, 3) := by decide +kernel
theorem d_Manifest_entries_11 : decode jM_Manifest_entries.2.1 11 = .ok (.ireturn, 1) := by decide +kernel
theorem d_Manifest_firstBlockOf_0 : decode jM_Manifest_firstBlockOf.2.1 0 = .ok (.aload_n 0, 1) := by decide +kernel
theorem d_Manifest_firstBlockOf_1 : decode jM_Manifest_firstBlockOf.2.1 1 = .ok (.iload_n 1, 1) := by decide +kernel
theorem d_Manifest_firstBlockOf_2 : decode jM_Manifest_firstBlockOf.2.1 2 = .ok (.iconst 1, 1) := by decide +kernel
theorem d_Manifest_firstBlockOf_3 : decode jM_Manifest_firstBlockOf.2.1 3 = .ok (.invokevirtual 140, 3) := by decide +kernel
theorem d_Manifest_firstBlockOf_6 : decode jM_Manifest_firstBlockOf.2.1 6 = .ok (.ireturn, 1) := by decide +kernel
theorem d_Manifest_subjectOf_0 : decode jM_Manifest_subjectOf.2.1 0 = .ok (.aload_n 0, 1) := by decide +kernel
theorem d_Manifest_subjectOf_1 : decode jM_Manifest_subjectOf.2.1 1 = .ok (.iload_n 1, 1) := by decide +kernel
theorem d_Manifest_subjectOf_2 : decode jM_Manifest_subjectOf.2.1 2 = .ok (.iconst 0, 1) := by decide +kernel
theorem d_Manifest_subjectOf_3 : decode jM_Manifest_subjectOf.2.1 3 = .ok (.invokevirtual 140, 3) := by decide +kernel
theorem d_Manifest_subjectOf_6 : decode jM_Manifest_subjectOf.2.1 6 = .ok (.ireturn, 1) := by decide +kernel
theorem d_Manifest_commitNew_0 : decode jM_Manifest_commitNew.2.1 0 = .ok (.aload_n 0, 1) := by decide +kernel
theorem d_Manifest_commitNew_1 : decode jM_Manifest_commitNew.2.1 1 = .ok (.invokevirtual 29, 3) := by decide +kernel
theorem d_Manifest_commitNew_4 : decode jM_Manifest_commitNew.2.1 4 = .ok (.istore_n 3, 1) := by decide +kernel
theorem d_Manifest_commitNew_5 : decode jM_Manifest_commitNew.2.1 5 = .ok (.aload_n 0, 1) := by decide +kernel
theorem d_Manifest_commitNew_6 : decode jM_Manifest_commitNew.2.1 6 = .ok (.getfield 26, 3) := by decide +kernel
theorem d_Manifest_commitNew_9 : decode jM_Manifest_commitNew.2.1 9 = .ok (.iconst 0, 1) := by decide +kernel
theorem d_Manifest_commitNew_10 : decode jM_Manifest_commitNew.2.1 10 = .ok (.invokevirtual 109, 3) := by decide +kernel
theorem d_Manifest_commitNew_13 : decode jM_Manifest_commitNew.2.1 13 = .ok (.aload_n 0, 1) := by decide +kernel
theorem d_Manifest_commitNew_14 : decode jM_Manifest_commitNew.2.1 14 = .ok (.getfield 26, 3) := by decide +kernel
theorem d_Manifest_commitNew_17 : decode jM_Manifest_commitNew.2.1 17 = .ok (.iload_n 3, 1) := by decide +kernel
theorem d_Manifest_commitNew_18 : decode jM_Manifest_commitNew.2.1 18 = .ok (.iconst 1, 1) := by decide +kernel
theorem d_Manifest_commitNew_19 : decode jM_Manifest_commitNew.2.1 19 = .ok (.iadd, 1) := by decide +kernel
theorem d_Manifest_commitNew_20 : decode jM_Manifest_commitNew.2.1 20 = .ok (.invokevirtual 100, 3) := by decide +kernel
theorem d_Manifest_commitNew_23 : decode jM_Manifest_commitNew.2.1 23 = .ok (.iconst 0, 1) := by decide +kernel
theorem d_Manifest_commitNew_24 : decode jM_Manifest_commitNew.2.1 24 = .ok (.istore 4, 2) := by decide +kernel
theorem d_Manifest_commitNew_26 : decode jM_Manifest_commitNew.2.1 26 = .ok (.iload 4, 2) := by decide +kernel
theorem d_Manifest_commitNew_28 : decode jM_Manifest_commitNew.2.1 28 = .ok (.iload_n 3, 1) := by decide +kernel
theorem d_Manifest_commitNew_29 : decode jM_Manifest_commitNew.2.1 29 = .ok (.if_icmp .ge 31, 3) := by decide +kernel
theorem d_Manifest_commitNew_32 : decode jM_Manifest_commitNew.2.1 32 = .ok (.aload_n 0, 1) := by decide +kernel
theorem d_Manifest_commitNew_33 : decode jM_Manifest_commitNew.2.1 33 = .ok (.aload_n 0, 1) := by decide +kernel
theorem d_Manifest_commitNew_34 : decode jM_Manifest_commitNew.2.1 34 = .ok (.iload 4, 2) := by decide +kernel
theorem d_Manifest_commitNew_36 : decode jM_Manifest_commitNew.2.1 36 = .ok (.invokevirtual 33, 3) := by decide +kernel
theorem d_Manifest_commitNew_39 : decode jM_Manifest_commitNew.2.1 39 = .ok (.aload_n 0, 1) := by decide +kernel
theorem d_Manifest_commitNew_40 : decode jM_Manifest_commitNew.2.1 40 = .ok (.iload 4, 2) := by decide +kernel
theorem d_Manifest_commitNew_42 : decode jM_Manifest_commitNew.2.1 42 = .ok (.invokevirtual 120, 3) := by decide +kernel
theorem d_Manifest_commitNew_45 : decode jM_Manifest_commitNew.2.1 45 = .ok (.aload_n 0, 1) := by decide +kernel
theorem d_Manifest_commitNew_46 : decode jM_Manifest_commitNew.2.1 46 = .ok (.iload 4, 2) := by decide +kernel
theorem d_Manifest_commitNew_48 : decode jM_Manifest_commitNew.2.1 48 = .ok (.invokevirtual 123, 3) := by decide +kernel
theorem d_Manifest_commitNew_51 : decode jM_Manifest_commitNew.2.1 51 = .ok (.invokevirtual 126, 3) := by decide +kernel
theorem d_Manifest_commitNew_54 : decode jM_Manifest_commitNew.2.1 54 = .ok (.iinc 4 1, 3) := by decide +kernel
theorem d_Manifest_commitNew_57 : decode jM_Manifest_commitNew.2.1 57 = .ok (.goto (-31), 3) := by decide +kernel
theorem d_Manifest_commitNew_60 : decode jM_Manifest_commitNew.2.1 60 = .ok (.aload_n 0, 1) := by decide +kernel
theorem d_Manifest_commitNew_61 : decode jM_Manifest_commitNew.2.1 61 = .ok (.iload_n 1, 1) := by decide +kernel
theorem d_Manifest_commitNew_62 : decode jM_Manifest_commitNew.2.1 62 = .ok (.iload_n 2, 1) := by decide +kernel
theorem d_Manifest_commitNew_63 : decode jM_Manifest_commitNew.2.1 63 = .ok (.aload_n 0, 1) := by decide +kernel
theorem d_Manifest_commitNew_64 : decode jM_Manifest_commitNew.2.1 64 = .ok (.getfield 20, 3) := by decide +kernel
theorem d_Manifest_commitNew_67 : decode jM_Manifest_commitNew.2.1 67 = .ok (.getfield 90, 3) := by decide +kernel
theorem d_Manifest_commitNew_70 : decode jM_Manifest_commitNew.2.1 70 = .ok (.invokestatic 113, 3) := by decide +kernel
theorem d_Manifest_commitNew_73 : decode jM_Manifest_commitNew.2.1 73 = .ok (.invokevirtual 126, 3) := by decide +kernel
theorem d_Manifest_commitNew_76 : decode jM_Manifest_commitNew.2.1 76 = .ok (.aload_n 0, 1) := by decide +kernel
theorem d_Manifest_commitNew_77 : decode jM_Manifest_commitNew.2.1 77 = .ok (.getfield 9, 3) := by decide +kernel
theorem d_Manifest_commitNew_80 : decode jM_Manifest_commitNew.2.1 80 = .ok (.iload_n 2, 1) := by decide +kernel
theorem d_Manifest_commitNew_81 : decode jM_Manifest_commitNew.2.1 81 = .ok (.aload_n 0, 1) := by decide +kernel
theorem d_Manifest_commitNew_82 : decode jM_Manifest_commitNew.2.1 82 = .ok (.getfield 20, 3) := by decide +kernel
theorem d_Manifest_commitNew_85 : decode jM_Manifest_commitNew.2.1 85 = .ok (.invokevirtual 129, 3) := by decide +kernel
theorem d_Manifest_commitNew_88 : decode jM_Manifest_commitNew.2.1 88 = .ok (.ifCond .eq 23, 3) := by decide +kernel
theorem d_Manifest_commitNew_91 : decode jM_Manifest_commitNew.2.1 91 = .ok (.aload_n 0, 1) := by decide +kernel
theorem d_Manifest_commitNew_92 : decode jM_Manifest_commitNew.2.1 92 = .ok (.getfield 9, 3) := by decide +kernel
theorem d_Manifest_commitNew_95 : decode jM_Manifest_commitNew.2.1 95 = .ok (.iconst 0, 1) := by decide +kernel
theorem d_Manifest_commitNew_96 : decode jM_Manifest_commitNew.2.1 96 = .ok (.aload_n 0, 1) := by decide +kernel
theorem d_Manifest_commitNew_97 : decode jM_Manifest_commitNew.2.1 97 = .ok (.getfield 26, 3) := by decide +kernel
theorem d_Manifest_commitNew_100 : decode jM_Manifest_commitNew.2.1 100 = .ok (.iconst 0, 1) := by decide +kernel
theorem d_Manifest_commitNew_101 : decode jM_Manifest_commitNew.2.1 101 = .ok (.invokevirtual 133, 3) := by decide +kernel
theorem d_Manifest_commitNew_104 : decode jM_Manifest_commitNew.2.1 104 = .ok (.ifCond .eq 7, 3) := by decide +kernel
theorem d_Manifest_commitNew_107 : decode jM_Manifest_commitNew.2.1 107 = .ok (.iconst 1, 1) := by decide +kernel
theorem d_Manifest_commitNew_108 : decode jM_Manifest_commitNew.2.1 108 = .ok (.goto 4, 3) := by decide +kernel
theorem d_Manifest_commitNew_111 : decode jM_Manifest_commitNew.2.1 111 = .ok (.iconst 0, 1) := by decide +kernel
theorem d_Manifest_commitNew_112 : decode jM_Manifest_commitNew.2.1 112 = .ok (.ireturn, 1) := by decide +kernel
theorem d_Bytes_sum_0 : decode jM_Bytes_sum.2.1 0 = .ok (.iconst 0, 1) := by decide +kernel
theorem d_Bytes_sum_1 : decode jM_Bytes_sum.2.1 1 = .ok (.istore_n 1, 1) := by decide +kernel
theorem d_Bytes_sum_2 : decode jM_Bytes_sum.2.1 2 = .ok (.iconst 0, 1) := by decide +kernel
theorem d_Bytes_sum_3 : decode jM_Bytes_sum.2.1 3 = .ok (.istore_n 2, 1) := by decide +kernel
theorem d_Bytes_sum_4 : decode jM_Bytes_sum.2.1 4 = .ok (.iload_n 2, 1) := by decide +kernel
theorem d_Bytes_sum_5 : decode jM_Bytes_sum.2.1 5 = .ok (.aload_n 0, 1) := by decide +kernel
theorem d_Bytes_sum_6 : decode jM_Bytes_sum.2.1 6 = .ok (.getfield 13, 3) := by decide +kernel
theorem d_Bytes_sum_9 : decode jM_Bytes_sum.2.1 9 = .ok (.if_icmp .ge 18, 3) := by decide +kernel
theorem d_Bytes_sum_12 : decode jM_Bytes_sum.2.1 12 = .ok (.iload_n 1, 1) := by decide +kernel
theorem d_Bytes_sum_13 : decode jM_Bytes_sum.2.1 13 = .ok (.aload_n 0, 1) := by decide +kernel
theorem d_Bytes_sum_14 : decode jM_Bytes_sum.2.1 14 = .ok (.getfield 7, 3) := by decide +kernel
theorem d_Bytes_sum_17 : decode jM_Bytes_sum.2.1 17 = .ok (.iload_n 2, 1) := by decide +kernel
theorem d_Bytes_sum_18 : decode jM_Bytes_sum.2.1 18 = .ok (.iaload, 1) := by decide +kernel
theorem d_Bytes_sum_19 : decode jM_Bytes_sum.2.1 19 = .ok (.iadd, 1) := by decide +kernel
theorem d_Bytes_sum_20 : decode jM_Bytes_sum.2.1 20 = .ok (.istore_n 1, 1) := by decide +kernel
theorem d_Bytes_sum_21 : decode jM_Bytes_sum.2.1 21 = .ok (.iinc 2 1, 3) := by decide +kernel
theorem d_Bytes_sum_24 : decode jM_Bytes_sum.2.1 24 = .ok (.goto (-20), 3) := by decide +kernel
theorem d_Bytes_sum_27 : decode jM_Bytes_sum.2.1 27 = .ok (.iload_n 1, 1) := by decide +kernel
theorem d_Bytes_sum_28 : decode jM_Bytes_sum.2.1 28 = .ok (.ireturn, 1) := by decide +kernel
theorem d_Manifest_draftHead_0 : decode jM_Manifest_draftHead.2.1 0 = .ok (.aload_n 0, 1) := by decide +kernel
theorem d_Manifest_draftHead_1 : decode jM_Manifest_draftHead.2.1 1 = .ok (.getfield 20, 3) := by decide +kernel
theorem d_Manifest_draftHead_4 : decode jM_Manifest_draftHead.2.1 4 = .ok (.iconst 0, 1) := by decide +kernel
theorem d_Manifest_draftHead_5 : decode jM_Manifest_draftHead.2.1 5 = .ok (.invokevirtual 109, 3) := by decide +kernel
theorem d_Manifest_draftHead_8 : decode jM_Manifest_draftHead.2.1 8 = .ok (.aload_n 0, 1) := by decide +kernel
theorem d_Manifest_draftHead_9 : decode jM_Manifest_draftHead.2.1 9 = .ok (.getfield 20, 3) := by decide +kernel
theorem d_Manifest_draftHead_12 : decode jM_Manifest_draftHead.2.1 12 = .ok (.bipush 83, 2) := by decide +kernel
theorem d_Manifest_draftHead_14 : decode jM_Manifest_draftHead.2.1 14 = .ok (.invokevirtual 100, 3) := by decide +kernel
theorem d_Manifest_draftHead_17 : decode jM_Manifest_draftHead.2.1 17 = .ok (.aload_n 0, 1) := by decide +kernel
theorem d_Manifest_draftHead_18 : decode jM_Manifest_draftHead.2.1 18 = .ok (.getfield 20, 3) := by decide +kernel
theorem d_Manifest_draftHead_21 : decode jM_Manifest_draftHead.2.1 21 = .ok (.iload_n 1, 1) := by decide +kernel
theorem d_Manifest_draftHead_22 : decode jM_Manifest_draftHead.2.1 22 = .ok (.invokevirtual 100, 3) := by decide +kernel
theorem d_Manifest_draftHead_25 : decode jM_Manifest_draftHead.2.1 25 = .ok (.aload_n 0, 1) := by decide +kernel
theorem d_Manifest_draftHead_26 : decode jM_Manifest_draftHead.2.1 26 = .ok (.getfield 20, 3) := by decide +kernel
theorem d_Manifest_draftHead_29 : decode jM_Manifest_draftHead.2.1 29 = .ok (.iload_n 2, 1) := by decide +kernel
theorem d_Manifest_draftHead_30 : decode jM_Manifest_draftHead.2.1 30 = .ok (.invokevirtual 100, 3) := by decide +kernel
theorem d_Manifest_draftHead_33 : decode jM_Manifest_draftHead.2.1 33 = .ok (.aload_n 0, 1) := by decide +kernel
theorem d_Manifest_draftHead_34 : decode jM_Manifest_draftHead.2.1 34 = .ok (.getfield 20, 3) := by decide +kernel
theorem d_Manifest_draftHead_37 : decode jM_Manifest_draftHead.2.1 37 = .ok (.iload_n 3, 1) := by decide +kernel
theorem d_Manifest_draftHead_38 : decode jM_Manifest_draftHead.2.1 38 = .ok (.bipush 8, 2) := by decide +kernel
theorem d_Manifest_draftHead_40 : decode jM_Manifest_draftHead.2.1 40 = .ok (.ishr, 1) := by decide +kernel
theorem d_Manifest_draftHead_41 : decode jM_Manifest_draftHead.2.1 41 = .ok (.invokevirtual 100, 3) := by decide +kernel
theorem d_Manifest_draftHead_44 : decode jM_Manifest_draftHead.2.1 44 = .ok (.aload_n 0, 1) := by decide +kernel
theorem d_Manifest_draftHead_45 : decode jM_Manifest_draftHead.2.1 45 = .ok (.getfield 20, 3) := by decide +kernel
theorem d_Manifest_draftHead_48 : decode jM_Manifest_draftHead.2.1 48 = .ok (.iload_n 3, 1) := by decide +kernel
theorem d_Manifest_draftHead_49 : decode jM_Manifest_draftHead.2.1 49 = .ok (.sipush 255, 3) := by decide +kernel
theorem d_Manifest_draftHead_52 : decode jM_Manifest_draftHead.2.1 52 = .ok (.iand, 1) := by decide +kernel
theorem d_Manifest_draftHead_53 : decode jM_Manifest_draftHead.2.1 53 = .ok (.invokevirtual 100, 3) := by decide +kernel
theorem d_Manifest_draftHead_56 : decode jM_Manifest_draftHead.2.1 56 = .ok (.return_, 1) := by decide +kernel
theorem d_Manifest_draftStaged_0 : decode jM_Manifest_draftStaged.2.1 0 = .ok (.aload_n 0, 1) := by decide +kernel
theorem d_Manifest_draftStaged_1 : decode jM_Manifest_draftStaged.2.1 1 = .ok (.aload_n 1, 1) := by decide +kernel
theorem d_Manifest_draftStaged_2 : decode jM_Manifest_draftStaged.2.1 2 = .ok (.getfield 78, 3) := by decide +kernel
theorem d_Manifest_draftStaged_5 : decode jM_Manifest_draftStaged.2.1 5 = .ok (.aload_n 1, 1) := by decide +kernel
theorem d_Manifest_draftStaged_6 : decode jM_Manifest_draftStaged.2.1 6 = .ok (.getfield 84, 3) := by decide +kernel
theorem d_Manifest_draftStaged_9 : decode jM_Manifest_draftStaged.2.1 9 = .ok (.aload_n 1, 1) := by decide +kernel
theorem d_Manifest_draftStaged_10 : decode jM_Manifest_draftStaged.2.1 10 = .ok (.getfield 87, 3) := by decide +kernel
theorem d_Manifest_draftStaged_13 : decode jM_Manifest_draftStaged.2.1 13 = .ok (.getfield 90, 3) := by decide +kernel
theorem d_Manifest_draftStaged_16 : decode jM_Manifest_draftStaged.2.1 16 = .ok (.invokevirtual 93, 3) := by decide +kernel
theorem d_Manifest_draftStaged_19 : decode jM_Manifest_draftStaged.2.1 19 = .ok (.iconst 0, 1) := by decide +kernel
theorem d_Manifest_draftStaged_20 : decode jM_Manifest_draftStaged.2.1 20 = .ok (.istore_n 2, 1) := by decide +kernel
theorem d_Manifest_draftStaged_21 : decode jM_Manifest_draftStaged.2.1 21 = .ok (.iload_n 2, 1) := by decide +kernel
theorem d_Manifest_draftStaged_22 : decode jM_Manifest_draftStaged.2.1 22 = .ok (.aload_n 1, 1) := by decide +kernel
theorem d_Manifest_draftStaged_23 : decode jM_Manifest_draftStaged.2.1 23 = .ok (.getfield 87, 3) := by decide +kernel
theorem d_Manifest_draftStaged_26 : decode jM_Manifest_draftStaged.2.1 26 = .ok (.getfield 90, 3) := by decide +kernel
theorem d_Manifest_draftStaged_29 : decode jM_Manifest_draftStaged.2.1 29 = .ok (.if_icmp .ge 24, 3) := by decide +kernel
theorem d_Manifest_draftStaged_32 : decode jM_Manifest_draftStaged.2.1 32 = .ok (.aload_n 0, 1) := by decide +kernel
theorem d_Manifest_draftStaged_33 : decode jM_Manifest_draftStaged.2.1 33 = .ok (.getfield 20, 3) := by decide +kernel
theorem d_Manifest_draftStaged_36 : decode jM_Manifest_draftStaged.2.1 36 = .ok (.aload_n 1, 1) := by decide +kernel
theorem d_Manifest_draftStaged_37 : decode jM_Manifest_draftStaged.2.1 37 = .ok (.getfield 87, 3) := by decide +kernel
theorem d_Manifest_draftStaged_40 : decode jM_Manifest_draftStaged.2.1 40 = .ok (.iload_n 2, 1) := by decide +kernel
theorem d_Manifest_draftStaged_41 : decode jM_Manifest_draftStaged.2.1 41 = .ok (.invokevirtual 97, 3) := by decide +kernel
theorem d_Manifest_draftStaged_44 : decode jM_Manifest_draftStaged.2.1 44 = .ok (.invokevirtual 100, 3) := by decide +kernel
theorem d_Manifest_draftStaged_47 : decode jM_Manifest_draftStaged.2.1 47 = .ok (.iinc 2 1, 3) := by decide +kernel
theorem d_Manifest_draftStaged_50 : decode jM_Manifest_draftStaged.2.1 50 = .ok (.goto (-29), 3) := by decide +kernel
theorem d_Manifest_draftStaged_53 : decode jM_Manifest_draftStaged.2.1 53 = .ok (.aload_n 0, 1) := by decide +kernel
theorem d_Manifest_draftStaged_54 : decode jM_Manifest_draftStaged.2.1 54 = .ok (.getfield 20, 3) := by decide +kernel
theorem d_Manifest_draftStaged_57 : decode jM_Manifest_draftStaged.2.1 57 = .ok (.aload_n 0, 1) := by decide +kernel
theorem d_Manifest_draftStaged_58 : decode jM_Manifest_draftStaged.2.1 58 = .ok (.getfield 20, 3) := by decide +kernel
theorem d_Manifest_draftStaged_61 : decode jM_Manifest_draftStaged.2.1 61 = .ok (.invokevirtual 103, 3) := by decide +kernel
theorem d_Manifest_draftStaged_64 : decode jM_Manifest_draftStaged.2.1 64 = .ok (.sipush 251, 3) := by decide +kernel
theorem d_Manifest_draftStaged_67 : decode jM_Manifest_draftStaged.2.1 67 = .ok (.irem, 1) := by decide +kernel
theorem d_Manifest_draftStaged_68 : decode jM_Manifest_draftStaged.2.1 68 = .ok (.invokevirtual 100, 3) := by decide +kernel
theorem d_Manifest_draftStaged_71 : decode jM_Manifest_draftStaged.2.1 71 = .ok (.return_, 1) := by decide +kernel
theorem d_Manifest_isFull_0 : decode jM_Manifest_isFull.2.1 0 = .ok (.aload_n 0, 1) := by decide +kernel
theorem d_Manifest_isFull_1 : decode jM_Manifest_isFull.2.1 1 = .ok (.invokevirtual 29, 3) := by decide +kernel
theorem d_Manifest_isFull_4 : decode jM_Manifest_isFull.2.1 4 = .ok (.bipush 9, 2) := by decide +kernel
theorem d_Manifest_isFull_6 : decode jM_Manifest_isFull.2.1 6 = .ok (.if_icmp .lt 7, 3) := by decide +kernel
theorem d_Manifest_isFull_9 : decode jM_Manifest_isFull.2.1 9 = .ok (.iconst 1, 1) := by decide +kernel
theorem d_Manifest_isFull_10 : decode jM_Manifest_isFull.2.1 10 = .ok (.goto 4, 3) := by decide +kernel
theorem d_Manifest_isFull_13 : decode jM_Manifest_isFull.2.1 13 = .ok (.iconst 0, 1) := by decide +kernel
theorem d_Manifest_isFull_14 : decode jM_Manifest_isFull.2.1 14 = .ok (.ireturn, 1) := by decide +kernel
theorem d_Manifest_isFree_0 : decode jM_Manifest_isFree.2.1 0 = .ok (.aload_n 0, 1) := by decide +kernel
theorem d_Manifest_isFree_1 : decode jM_Manifest_isFree.2.1 1 = .ok (.invokevirtual 29, 3) := by decide +kernel
theorem d_Manifest_isFree_4 : decode jM_Manifest_isFree.2.1 4 = .ok (.istore_n 2, 1) := by decide +kernel
theorem d_Manifest_isFree_5 : decode jM_Manifest_isFree.2.1 5 = .ok (.iconst 0, 1) := by decide +kernel
theorem d_Manifest_isFree_6 : decode jM_Manifest_isFree.2.1 6 = .ok (.istore_n 3, 1) := by decide +kernel
theorem d_Manifest_isFree_7 : decode jM_Manifest_isFree.2.1 7 = .ok (.iload_n 3, 1) := by decide +kernel
theorem d_Manifest_isFree_8 : decode jM_Manifest_isFree.2.1 8 = .ok (.iload_n 2, 1) := by decide +kernel
theorem d_Manifest_isFree_9 : decode jM_Manifest_isFree.2.1 9 = .ok (.if_icmp .ge 35, 3) := by decide +kernel
theorem d_Manifest_isFree_12 : decode jM_Manifest_isFree.2.1 12 = .ok (.iload_n 1, 1) := by decide +kernel
theorem d_Manifest_isFree_13 : decode jM_Manifest_isFree.2.1 13 = .ok (.aload_n 0, 1) := by decide +kernel
theorem d_Manifest_isFree_14 : decode jM_Manifest_isFree.2.1 14 = .ok (.iload_n 3, 1) := by decide +kernel
theorem d_Manifest_isFree_15 : decode jM_Manifest_isFree.2.1 15 = .ok (.invokevirtual 120, 3) := by decide +kernel
theorem d_Manifest_isFree_18 : decode jM_Manifest_isFree.2.1 18 = .ok (.if_icmp .lt 20, 3) := by decide +kernel
theorem d_Manifest_isFree_21 : decode jM_Manifest_isFree.2.1 21 = .ok (.iload_n 1, 1) := by decide +kernel
theorem d_Manifest_isFree_22 : decode jM_Manifest_isFree.2.1 22 = .ok (.aload_n 0, 1) := by decide +kernel
theorem d_Manifest_isFree_23 : decode jM_Manifest_isFree.2.1 23 = .ok (.iload_n 3, 1) := by decide +kernel
