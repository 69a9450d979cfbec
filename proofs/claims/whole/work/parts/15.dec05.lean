theorem d_Mo_fileRecords_11 : decode jM_Mo_fileRecords.2.1 11 = .ok (.iaload, 1) := by decide +kernel
theorem d_Mo_fileRecords_12 : decode jM_Mo_fileRecords.2.1 12 = .ok (.ireturn, 1) := by decide +kernel
theorem d_Mo_fileBytes_0 : decode jM_Mo_fileBytes.2.1 0 = .ok (.sipush 256, 3) := by decide +kernel
theorem d_Mo_fileBytes_3 : decode jM_Mo_fileBytes.2.1 3 = .ok (.aload_n 0, 1) := by decide +kernel
theorem d_Mo_fileBytes_4 : decode jM_Mo_fileBytes.2.1 4 = .ok (.getfield 48, 3) := by decide +kernel
theorem d_Mo_fileBytes_7 : decode jM_Mo_fileBytes.2.1 7 = .ok (.aload_n 0, 1) := by decide +kernel
theorem d_Mo_fileBytes_8 : decode jM_Mo_fileBytes.2.1 8 = .ok (.iload_n 1, 1) := by decide +kernel
theorem d_Mo_fileBytes_9 : decode jM_Mo_fileBytes.2.1 9 = .ok (.invokevirtual 186, 3) := by decide +kernel
theorem d_Mo_fileBytes_12 : decode jM_Mo_fileBytes.2.1 12 = .ok (.iconst 3, 1) := by decide +kernel
theorem d_Mo_fileBytes_13 : decode jM_Mo_fileBytes.2.1 13 = .ok (.iadd, 1) := by decide +kernel
theorem d_Mo_fileBytes_14 : decode jM_Mo_fileBytes.2.1 14 = .ok (.iaload, 1) := by decide +kernel
theorem d_Mo_fileBytes_15 : decode jM_Mo_fileBytes.2.1 15 = .ok (.imul, 1) := by decide +kernel
theorem d_Mo_fileBytes_16 : decode jM_Mo_fileBytes.2.1 16 = .ok (.aload_n 0, 1) := by decide +kernel
theorem d_Mo_fileBytes_17 : decode jM_Mo_fileBytes.2.1 17 = .ok (.getfield 48, 3) := by decide +kernel
theorem d_Mo_fileBytes_20 : decode jM_Mo_fileBytes.2.1 20 = .ok (.aload_n 0, 1) := by decide +kernel
theorem d_Mo_fileBytes_21 : decode jM_Mo_fileBytes.2.1 21 = .ok (.iload_n 1, 1) := by decide +kernel
theorem d_Mo_fileBytes_22 : decode jM_Mo_fileBytes.2.1 22 = .ok (.invokevirtual 186, 3) := by decide +kernel
theorem d_Mo_fileBytes_25 : decode jM_Mo_fileBytes.2.1 25 = .ok (.iconst 4, 1) := by decide +kernel
theorem d_Mo_fileBytes_26 : decode jM_Mo_fileBytes.2.1 26 = .ok (.iadd, 1) := by decide +kernel
theorem d_Mo_fileBytes_27 : decode jM_Mo_fileBytes.2.1 27 = .ok (.iaload, 1) := by decide +kernel
theorem d_Mo_fileBytes_28 : decode jM_Mo_fileBytes.2.1 28 = .ok (.iadd, 1) := by decide +kernel
theorem d_Mo_fileBytes_29 : decode jM_Mo_fileBytes.2.1 29 = .ok (.ireturn, 1) := by decide +kernel
theorem d_Mo_used_0 : decode jM_Mo_used.2.1 0 = .ok (.iload_n 1, 1) := by decide +kernel
theorem d_Mo_used_1 : decode jM_Mo_used.2.1 1 = .ok (.iconst 2, 1) := by decide +kernel
theorem d_Mo_used_2 : decode jM_Mo_used.2.1 2 = .ok (.if_icmp .lt 9, 3) := by decide +kernel
theorem d_Mo_used_5 : decode jM_Mo_used.2.1 5 = .ok (.iload_n 1, 1) := by decide +kernel
theorem d_Mo_used_6 : decode jM_Mo_used.2.1 6 = .ok (.bipush 39, 2) := by decide +kernel
theorem d_Mo_used_8 : decode jM_Mo_used.2.1 8 = .ok (.if_icmp .le 7, 3) := by decide +kernel
theorem d_Mo_used_11 : decode jM_Mo_used.2.1 11 = .ok (.iconst 1, 1) := by decide +kernel
theorem d_Mo_used_12 : decode jM_Mo_used.2.1 12 = .ok (.goto 4, 3) := by decide +kernel
theorem d_Mo_used_15 : decode jM_Mo_used.2.1 15 = .ok (.iconst 0, 1) := by decide +kernel
theorem d_Mo_used_16 : decode jM_Mo_used.2.1 16 = .ok (.istore_n 2, 1) := by decide +kernel
theorem d_Mo_used_17 : decode jM_Mo_used.2.1 17 = .ok (.iconst 0, 1) := by decide +kernel
theorem d_Mo_used_18 : decode jM_Mo_used.2.1 18 = .ok (.istore_n 3, 1) := by decide +kernel
theorem d_Mo_used_19 : decode jM_Mo_used.2.1 19 = .ok (.iload_n 3, 1) := by decide +kernel
theorem d_Mo_used_20 : decode jM_Mo_used.2.1 20 = .ok (.aload_n 0, 1) := by decide +kernel
theorem d_Mo_used_21 : decode jM_Mo_used.2.1 21 = .ok (.getfield 48, 3) := by decide +kernel
theorem d_Mo_used_24 : decode jM_Mo_used.2.1 24 = .ok (.iconst 0, 1) := by decide +kernel
theorem d_Mo_used_25 : decode jM_Mo_used.2.1 25 = .ok (.iaload, 1) := by decide +kernel
theorem d_Mo_used_26 : decode jM_Mo_used.2.1 26 = .ok (.if_icmp .ge 58, 3) := by decide +kernel
theorem d_Mo_used_29 : decode jM_Mo_used.2.1 29 = .ok (.iload_n 2, 1) := by decide +kernel
theorem d_Mo_used_30 : decode jM_Mo_used.2.1 30 = .ok (.ifCond .ne 42, 3) := by decide +kernel
theorem d_Mo_used_33 : decode jM_Mo_used.2.1 33 = .ok (.iload_n 1, 1) := by decide +kernel
theorem d_Mo_used_34 : decode jM_Mo_used.2.1 34 = .ok (.aload_n 0, 1) := by decide +kernel
theorem d_Mo_used_35 : decode jM_Mo_used.2.1 35 = .ok (.getfield 48, 3) := by decide +kernel
theorem d_Mo_used_38 : decode jM_Mo_used.2.1 38 = .ok (.iconst 2, 1) := by decide +kernel
theorem d_Mo_used_39 : decode jM_Mo_used.2.1 39 = .ok (.iconst 3, 1) := by decide +kernel
theorem d_Mo_used_40 : decode jM_Mo_used.2.1 40 = .ok (.iload_n 3, 1) := by decide +kernel
theorem d_Mo_used_41 : decode jM_Mo_used.2.1 41 = .ok (.imul, 1) := by decide +kernel
theorem d_Mo_used_42 : decode jM_Mo_used.2.1 42 = .ok (.iadd, 1) := by decide +kernel
theorem d_Mo_used_43 : decode jM_Mo_used.2.1 43 = .ok (.iaload, 1) := by decide +kernel
theorem d_Mo_used_44 : decode jM_Mo_used.2.1 44 = .ok (.if_icmp .lt 32, 3) := by decide +kernel
theorem d_Mo_used_47 : decode jM_Mo_used.2.1 47 = .ok (.iload_n 1, 1) := by decide +kernel
theorem d_Mo_used_48 : decode jM_Mo_used.2.1 48 = .ok (.aload_n 0, 1) := by decide +kernel
theorem d_Mo_used_49 : decode jM_Mo_used.2.1 49 = .ok (.getfield 48, 3) := by decide +kernel
theorem d_Mo_used_52 : decode jM_Mo_used.2.1 52 = .ok (.iconst 2, 1) := by decide +kernel
theorem d_Mo_used_53 : decode jM_Mo_used.2.1 53 = .ok (.iconst 3, 1) := by decide +kernel
theorem d_Mo_used_54 : decode jM_Mo_used.2.1 54 = .ok (.iload_n 3, 1) := by decide +kernel
theorem d_Mo_used_55 : decode jM_Mo_used.2.1 55 = .ok (.imul, 1) := by decide +kernel
theorem d_Mo_used_56 : decode jM_Mo_used.2.1 56 = .ok (.iadd, 1) := by decide +kernel
theorem d_Mo_used_57 : decode jM_Mo_used.2.1 57 = .ok (.iaload, 1) := by decide +kernel
theorem d_Mo_used_58 : decode jM_Mo_used.2.1 58 = .ok (.aload_n 0, 1) := by decide +kernel
theorem d_Mo_used_59 : decode jM_Mo_used.2.1 59 = .ok (.getfield 48, 3) := by decide +kernel
theorem d_Mo_used_62 : decode jM_Mo_used.2.1 62 = .ok (.iconst 3, 1) := by decide +kernel
theorem d_Mo_used_63 : decode jM_Mo_used.2.1 63 = .ok (.iconst 3, 1) := by decide +kernel
theorem d_Mo_used_64 : decode jM_Mo_used.2.1 64 = .ok (.iload_n 3, 1) := by decide +kernel
theorem d_Mo_used_65 : decode jM_Mo_used.2.1 65 = .ok (.imul, 1) := by decide +kernel
theorem d_Mo_used_66 : decode jM_Mo_used.2.1 66 = .ok (.iadd, 1) := by decide +kernel
theorem d_Mo_used_67 : decode jM_Mo_used.2.1 67 = .ok (.iaload, 1) := by decide +kernel
theorem d_Mo_used_68 : decode jM_Mo_used.2.1 68 = .ok (.iadd, 1) := by decide +kernel
theorem d_Mo_used_69 : decode jM_Mo_used.2.1 69 = .ok (.if_icmp .ge 7, 3) := by decide +kernel
theorem d_Mo_used_72 : decode jM_Mo_used.2.1 72 = .ok (.iconst 1, 1) := by decide +kernel
theorem d_Mo_used_73 : decode jM_Mo_used.2.1 73 = .ok (.goto 4, 3) := by decide +kernel
theorem d_Mo_used_76 : decode jM_Mo_used.2.1 76 = .ok (.iconst 0, 1) := by decide +kernel
theorem d_Mo_used_77 : decode jM_Mo_used.2.1 77 = .ok (.istore_n 2, 1) := by decide +kernel
theorem d_Mo_used_78 : decode jM_Mo_used.2.1 78 = .ok (.iinc 3 1, 3) := by decide +kernel
theorem d_Mo_used_81 : decode jM_Mo_used.2.1 81 = .ok (.goto (-62), 3) := by decide +kernel
theorem d_Mo_used_84 : decode jM_Mo_used.2.1 84 = .ok (.iload_n 2, 1) := by decide +kernel
theorem d_Mo_used_85 : decode jM_Mo_used.2.1 85 = .ok (.ireturn, 1) := by decide +kernel
theorem d_Mo_room_0 : decode jM_Mo_room.2.1 0 = .ok (.iconst 2, 1) := by decide +kernel
theorem d_Mo_room_1 : decode jM_Mo_room.2.1 1 = .ok (.istore_n 2, 1) := by decide +kernel
theorem d_Mo_room_2 : decode jM_Mo_room.2.1 2 = .ok (.iload_n 2, 1) := by decide +kernel
theorem d_Mo_room_3 : decode jM_Mo_room.2.1 3 = .ok (.bipush 39, 2) := by decide +kernel
theorem d_Mo_room_5 : decode jM_Mo_room.2.1 5 = .ok (.if_icmp .gt 53, 3) := by decide +kernel
theorem d_Mo_room_8 : decode jM_Mo_room.2.1 8 = .ok (.iconst 1, 1) := by decide +kernel
theorem d_Mo_room_9 : decode jM_Mo_room.2.1 9 = .ok (.istore_n 3, 1) := by decide +kernel
theorem d_Mo_room_10 : decode jM_Mo_room.2.1 10 = .ok (.iload_n 2, 1) := by decide +kernel
theorem d_Mo_room_11 : decode jM_Mo_room.2.1 11 = .ok (.istore 4, 2) := by decide +kernel
theorem d_Mo_room_13 : decode jM_Mo_room.2.1 13 = .ok (.iload 4, 2) := by decide +kernel
theorem d_Mo_room_15 : decode jM_Mo_room.2.1 15 = .ok (.iload_n 2, 1) := by decide +kernel
theorem d_Mo_room_16 : decode jM_Mo_room.2.1 16 = .ok (.iload_n 1, 1) := by decide +kernel
theorem d_Mo_room_17 : decode jM_Mo_room.2.1 17 = .ok (.iadd, 1) := by decide +kernel
theorem d_Mo_room_18 : decode jM_Mo_room.2.1 18 = .ok (.if_icmp .ge 28, 3) := by decide +kernel
theorem d_Mo_room_21 : decode jM_Mo_room.2.1 21 = .ok (.iload_n 3, 1) := by decide +kernel
theorem d_Mo_room_22 : decode jM_Mo_room.2.1 22 = .ok (.ifCond .eq 16, 3) := by decide +kernel
theorem d_Mo_room_25 : decode jM_Mo_room.2.1 25 = .ok (.aload_n 0, 1) := by decide +kernel
theorem d_Mo_room_26 : decode jM_Mo_room.2.1 26 = .ok (.iload 4, 2) := by decide +kernel
theorem d_Mo_room_28 : decode jM_Mo_room.2.1 28 = .ok (.invokevirtual 190, 3) := by decide +kernel
theorem d_Mo_room_31 : decode jM_Mo_room.2.1 31 = .ok (.ifCond .ne 7, 3) := by decide +kernel
theorem d_Mo_room_34 : decode jM_Mo_room.2.1 34 = .ok (.iconst 1, 1) := by decide +kernel
theorem d_Mo_room_35 : decode jM_Mo_room.2.1 35 = .ok (.goto 4, 3) := by decide +kernel
theorem d_Mo_room_38 : decode jM_Mo_room.2.1 38 = .ok (.iconst 0, 1) := by decide +kernel
theorem d_Mo_room_39 : decode jM_Mo_room.2.1 39 = .ok (.istore_n 3, 1) := by decide +kernel
theorem d_Mo_room_40 : decode jM_Mo_room.2.1 40 = .ok (.iinc 4 1, 3) := by decide +kernel
theorem d_Mo_room_43 : decode jM_Mo_room.2.1 43 = .ok (.goto (-30), 3) := by decide +kernel
theorem d_Mo_room_46 : decode jM_Mo_room.2.1 46 = .ok (.iload_n 3, 1) := by decide +kernel
theorem d_Mo_room_47 : decode jM_Mo_room.2.1 47 = .ok (.ifCond .eq 5, 3) := by decide +kernel
theorem d_Mo_room_50 : decode jM_Mo_room.2.1 50 = .ok (.iload_n 2, 1) := by decide +kernel
theorem d_Mo_room_51 : decode jM_Mo_room.2.1 51 = .ok (.ireturn, 1) := by decide +kernel
theorem d_Mo_room_52 : decode jM_Mo_room.2.1 52 = .ok (.iinc 2 1, 3) := by decide +kernel
theorem d_Mo_room_55 : decode jM_Mo_room.2.1 55 = .ok (.goto (-53), 3) := by decide +kernel
theorem d_Mo_room_58 : decode jM_Mo_room.2.1 58 = .ok (.iconst (-1), 1) := by decide +kernel
theorem d_Mo_room_59 : decode jM_Mo_room.2.1 59 = .ok (.ireturn, 1) := by decide +kernel
theorem d_Mo_head_0 : decode jM_Mo_head.2.1 0 = .ok (.aload_n 0, 1) := by decide +kernel
theorem d_Mo_head_1 : decode jM_Mo_head.2.1 1 = .ok (.iconst 0, 1) := by decide +kernel
theorem d_Mo_head_2 : decode jM_Mo_head.2.1 2 = .ok (.putfield 128, 3) := by decide +kernel
theorem d_Mo_head_5 : decode jM_Mo_head.2.1 5 = .ok (.aload_n 0, 1) := by decide +kernel
theorem d_Mo_head_6 : decode jM_Mo_head.2.1 6 = .ok (.bipush 83, 2) := by decide +kernel
theorem d_Mo_head_8 : decode jM_Mo_head.2.1 8 = .ok (.invokevirtual 137, 3) := by decide +kernel
theorem d_Mo_head_11 : decode jM_Mo_head.2.1 11 = .ok (.aload_n 0, 1) := by decide +kernel
theorem d_Mo_head_12 : decode jM_Mo_head.2.1 12 = .ok (.iload_n 1, 1) := by decide +kernel
theorem d_Mo_head_13 : decode jM_Mo_head.2.1 13 = .ok (.invokevirtual 137, 3) := by decide +kernel
theorem d_Mo_head_16 : decode jM_Mo_head.2.1 16 = .ok (.aload_n 0, 1) := by decide +kernel
theorem d_Mo_head_17 : decode jM_Mo_head.2.1 17 = .ok (.iload_n 2, 1) := by decide +kernel
theorem d_Mo_head_18 : decode jM_Mo_head.2.1 18 = .ok (.invokevirtual 137, 3) := by decide +kernel
theorem d_Mo_head_21 : decode jM_Mo_head.2.1 21 = .ok (.aload_n 0, 1) := by decide +kernel
theorem d_Mo_head_22 : decode jM_Mo_head.2.1 22 = .ok (.iload_n 3, 1) := by decide +kernel
theorem d_Mo_head_23 : decode jM_Mo_head.2.1 23 = .ok (.sipush 256, 3) := by decide +kernel
theorem d_Mo_head_26 : decode jM_Mo_head.2.1 26 = .ok (.idiv, 1) := by decide +kernel
theorem d_Mo_head_27 : decode jM_Mo_head.2.1 27 = .ok (.invokevirtual 137, 3) := by decide +kernel
theorem d_Mo_head_30 : decode jM_Mo_head.2.1 30 = .ok (.aload_n 0, 1) := by decide +kernel
theorem d_Mo_head_31 : decode jM_Mo_head.2.1 31 = .ok (.iload_n 3, 1) := by decide +kernel
theorem d_Mo_head_32 : decode jM_Mo_head.2.1 32 = .ok (.sipush 256, 3) := by decide +kernel
theorem d_Mo_head_35 : decode jM_Mo_head.2.1 35 = .ok (.irem, 1) := by decide +kernel
theorem d_Mo_head_36 : decode jM_Mo_head.2.1 36 = .ok (.invokevirtual 137, 3) := by decide +kernel
theorem d_Mo_head_39 : decode jM_Mo_head.2.1 39 = .ok (.return_, 1) := by decide +kernel
theorem d_Mo_check_0 : decode jM_Mo_check.2.1 0 = .ok (.iconst 0, 1) := by decide +kernel
theorem d_Mo_check_1 : decode jM_Mo_check.2.1 1 = .ok (.istore_n 1, 1) := by decide +kernel
theorem d_Mo_check_2 : decode jM_Mo_check.2.1 2 = .ok (.iconst 0, 1) := by decide +kernel
theorem d_Mo_check_3 : decode jM_Mo_check.2.1 3 = .ok (.istore_n 2, 1) := by decide +kernel
theorem d_Mo_check_4 : decode jM_Mo_check.2.1 4 = .ok (.iload_n 2, 1) := by decide +kernel
theorem d_Mo_check_5 : decode jM_Mo_check.2.1 5 = .ok (.aload_n 0, 1) := by decide +kernel
theorem d_Mo_check_6 : decode jM_Mo_check.2.1 6 = .ok (.getfield 128, 3) := by decide +kernel
theorem d_Mo_check_9 : decode jM_Mo_check.2.1 9 = .ok (.if_icmp .ge 18, 3) := by decide +kernel
theorem d_Mo_check_12 : decode jM_Mo_check.2.1 12 = .ok (.iload_n 1, 1) := by decide +kernel
theorem d_Mo_check_13 : decode jM_Mo_check.2.1 13 = .ok (.aload_n 0, 1) := by decide +kernel
theorem d_Mo_check_14 : decode jM_Mo_check.2.1 14 = .ok (.getfield 60, 3) := by decide +kernel
theorem d_Mo_check_17 : decode jM_Mo_check.2.1 17 = .ok (.iload_n 2, 1) := by decide +kernel
theorem d_Mo_check_18 : decode jM_Mo_check.2.1 18 = .ok (.iaload, 1) := by decide +kernel
theorem d_Mo_check_19 : decode jM_Mo_check.2.1 19 = .ok (.iadd, 1) := by decide +kernel
theorem d_Mo_check_20 : decode jM_Mo_check.2.1 20 = .ok (.istore_n 1, 1) := by decide +kernel
theorem d_Mo_check_21 : decode jM_Mo_check.2.1 21 = .ok (.iinc 2 1, 3) := by decide +kernel
theorem d_Mo_check_24 : decode jM_Mo_check.2.1 24 = .ok (.goto (-20), 3) := by decide +kernel
theorem d_Mo_check_27 : decode jM_Mo_check.2.1 27 = .ok (.aload_n 0, 1) := by decide +kernel
theorem d_Mo_check_28 : decode jM_Mo_check.2.1 28 = .ok (.iload_n 1, 1) := by decide +kernel
theorem d_Mo_check_29 : decode jM_Mo_check.2.1 29 = .ok (.sipush 251, 3) := by decide +kernel
theorem d_Mo_check_32 : decode jM_Mo_check.2.1 32 = .ok (.irem, 1) := by decide +kernel
theorem d_Mo_check_33 : decode jM_Mo_check.2.1 33 = .ok (.invokevirtual 137, 3) := by decide +kernel
theorem d_Mo_check_36 : decode jM_Mo_check.2.1 36 = .ok (.return_, 1) := by decide +kernel
theorem d_Mo_oldManifest_0 : decode jM_Mo_oldManifest.2.1 0 = .ok (.iconst 0, 1) := by decide +kernel
theorem d_Mo_oldManifest_1 : decode jM_Mo_oldManifest.2.1 1 = .ok (.istore_n 1, 1) := by decide +kernel
theorem d_Mo_oldManifest_2 : decode jM_Mo_oldManifest.2.1 2 = .ok (.iload_n 1, 1) := by decide +kernel
theorem d_Mo_oldManifest_3 : decode jM_Mo_oldManifest.2.1 3 = .ok (.bipush 32, 2) := by decide +kernel
theorem d_Mo_oldManifest_5 : decode jM_Mo_oldManifest.2.1 5 = .ok (.if_icmp .ge 21, 3) := by decide +kernel
theorem d_Mo_oldManifest_8 : decode jM_Mo_oldManifest.2.1 8 = .ok (.aload_n 0, 1) := by decide +kernel
theorem d_Mo_oldManifest_9 : decode jM_Mo_oldManifest.2.1 9 = .ok (.getfield 63, 3) := by decide +kernel
theorem d_Mo_oldManifest_12 : decode jM_Mo_oldManifest.2.1 12 = .ok (.iload_n 1, 1) := by decide +kernel
theorem d_Mo_oldManifest_13 : decode jM_Mo_oldManifest.2.1 13 = .ok (.aload_n 0, 1) := by decide +kernel
theorem d_Mo_oldManifest_14 : decode jM_Mo_oldManifest.2.1 14 = .ok (.getfield 48, 3) := by decide +kernel
theorem d_Mo_oldManifest_17 : decode jM_Mo_oldManifest.2.1 17 = .ok (.iload_n 1, 1) := by decide +kernel
theorem d_Mo_oldManifest_18 : decode jM_Mo_oldManifest.2.1 18 = .ok (.iaload, 1) := by decide +kernel
theorem d_Mo_oldManifest_19 : decode jM_Mo_oldManifest.2.1 19 = .ok (.iastore, 1) := by decide +kernel
theorem d_Mo_oldManifest_20 : decode jM_Mo_oldManifest.2.1 20 = .ok (.iinc 1 1, 3) := by decide +kernel
theorem d_Mo_oldManifest_23 : decode jM_Mo_oldManifest.2.1 23 = .ok (.goto (-21), 3) := by decide +kernel
theorem d_Mo_oldManifest_26 : decode jM_Mo_oldManifest.2.1 26 = .ok (.return_, 1) := by decide +kernel
theorem d_Mo_noSubject_0 : decode jM_Mo_noSubject.2.1 0 = .ok (.iload_n 0, 1) := by decide +kernel
theorem d_Mo_noSubject_1 : decode jM_Mo_noSubject.2.1 1 = .ok (.ifCond .lt 8, 3) := by decide +kernel
theorem d_Mo_noSubject_4 : decode jM_Mo_noSubject.2.1 4 = .ok (.iload_n 0, 1) := by decide +kernel
theorem d_Mo_noSubject_5 : decode jM_Mo_noSubject.2.1 5 = .ok (.iconst 2, 1) := by decide +kernel
theorem d_Mo_noSubject_6 : decode jM_Mo_noSubject.2.1 6 = .ok (.if_icmp .le 7, 3) := by decide +kernel
theorem d_Mo_noSubject_9 : decode jM_Mo_noSubject.2.1 9 = .ok (.iconst 1, 1) := by decide +kernel
theorem d_Mo_noSubject_10 : decode jM_Mo_noSubject.2.1 10 = .ok (.goto 4, 3) := by decide +kernel
theorem d_Mo_noSubject_13 : decode jM_Mo_noSubject.2.1 13 = .ok (.iconst 0, 1) := by decide +kernel
theorem d_Mo_noSubject_14 : decode jM_Mo_noSubject.2.1 14 = .ok (.ireturn, 1) := by decide +kernel
theorem d_Mo_registered_0 : decode jM_Mo_registered.2.1 0 = .ok (.iconst 0, 1) := by decide +kernel
theorem d_Mo_registered_1 : decode jM_Mo_registered.2.1 1 = .ok (.istore_n 3, 1) := by decide +kernel
theorem d_Mo_registered_2 : decode jM_Mo_registered.2.1 2 = .ok (.iconst 0, 1) := by decide +kernel
theorem d_Mo_registered_3 : decode jM_Mo_registered.2.1 3 = .ok (.istore 4, 2) := by decide +kernel
theorem d_Mo_registered_5 : decode jM_Mo_registered.2.1 5 = .ok (.iload 4, 2) := by decide +kernel
theorem d_Mo_registered_7 : decode jM_Mo_registered.2.1 7 = .ok (.aload_n 0, 1) := by decide +kernel
theorem d_Mo_registered_8 : decode jM_Mo_registered.2.1 8 = .ok (.getfield 48, 3) := by decide +kernel
theorem d_Mo_registered_11 : decode jM_Mo_registered.2.1 11 = .ok (.bipush 32, 2) := by decide +kernel
theorem d_Mo_registered_13 : decode jM_Mo_registered.2.1 13 = .ok (.iaload, 1) := by decide +kernel
theorem d_Mo_registered_14 : decode jM_Mo_registered.2.1 14 = .ok (.if_icmp .ge 51, 3) := by decide +kernel
theorem d_Mo_registered_17 : decode jM_Mo_registered.2.1 17 = .ok (.iload_n 3, 1) := by decide +kernel
theorem d_Mo_registered_18 : decode jM_Mo_registered.2.1 18 = .ok (.ifCond .ne 35, 3) := by decide +kernel
theorem d_Mo_registered_21 : decode jM_Mo_registered.2.1 21 = .ok (.aload_n 0, 1) := by decide +kernel
theorem d_Mo_registered_22 : decode jM_Mo_registered.2.1 22 = .ok (.getfield 48, 3) := by decide +kernel
theorem d_Mo_registered_25 : decode jM_Mo_registered.2.1 25 = .ok (.bipush 33, 2) := by decide +kernel
theorem d_Mo_registered_27 : decode jM_Mo_registered.2.1 27 = .ok (.iconst 2, 1) := by decide +kernel
theorem d_Mo_registered_28 : decode jM_Mo_registered.2.1 28 = .ok (.iload 4, 2) := by decide +kernel
theorem d_Mo_registered_30 : decode jM_Mo_registered.2.1 30 = .ok (.imul, 1) := by decide +kernel
theorem d_Mo_registered_31 : decode jM_Mo_registered.2.1 31 = .ok (.iadd, 1) := by decide +kernel
theorem d_Mo_registered_32 : decode jM_Mo_registered.2.1 32 = .ok (.iaload, 1) := by decide +kernel
theorem d_Mo_registered_33 : decode jM_Mo_registered.2.1 33 = .ok (.iload_n 1, 1) := by decide +kernel
theorem d_Mo_registered_34 : decode jM_Mo_registered.2.1 34 = .ok (.if_icmp .ne 23, 3) := by decide +kernel
theorem d_Mo_registered_37 : decode jM_Mo_registered.2.1 37 = .ok (.aload_n 0, 1) := by decide +kernel
theorem d_Mo_registered_38 : decode jM_Mo_registered.2.1 38 = .ok (.getfield 48, 3) := by decide +kernel
theorem d_Mo_registered_41 : decode jM_Mo_registered.2.1 41 = .ok (.bipush 34, 2) := by decide +kernel
theorem d_Mo_registered_43 : decode jM_Mo_registered.2.1 43 = .ok (.iconst 2, 1) := by decide +kernel
theorem d_Mo_registered_44 : decode jM_Mo_registered.2.1 44 = .ok (.iload 4, 2) := by decide +kernel
theorem d_Mo_registered_46 : decode jM_Mo_registered.2.1 46 = .ok (.imul, 1) := by decide +kernel
theorem d_Mo_registered_47 : decode jM_Mo_registered.2.1 47 = .ok (.iadd, 1) := by decide +kernel
theorem d_Mo_registered_48 : decode jM_Mo_registered.2.1 48 = .ok (.iaload, 1) := by decide +kernel
theorem d_Mo_registered_49 : decode jM_Mo_registered.2.1 49 = .ok (.iload_n 2, 1) := by decide +kernel
theorem d_Mo_registered_50 : decode jM_Mo_registered.2.1 50 = .ok (.if_icmp .ne 7, 3) := by decide +kernel
theorem d_Mo_registered_53 : decode jM_Mo_registered.2.1 53 = .ok (.iconst 1, 1) := by decide +kernel
theorem d_Mo_registered_54 : decode jM_Mo_registered.2.1 54 = .ok (.goto 4, 3) := by decide +kernel
theorem d_Mo_registered_57 : decode jM_Mo_registered.2.1 57 = .ok (.iconst 0, 1) := by decide +kernel
theorem d_Mo_registered_58 : decode jM_Mo_registered.2.1 58 = .ok (.istore_n 3, 1) := by decide +kernel
theorem d_Mo_registered_59 : decode jM_Mo_registered.2.1 59 = .ok (.iinc 4 1, 3) := by decide +kernel
theorem d_Mo_registered_62 : decode jM_Mo_registered.2.1 62 = .ok (.goto (-57), 3) := by decide +kernel
theorem d_Mo_registered_65 : decode jM_Mo_registered.2.1 65 = .ok (.iload_n 3, 1) := by decide +kernel
theorem d_Mo_registered_66 : decode jM_Mo_registered.2.1 66 = .ok (.ireturn, 1) := by decide +kernel
theorem d_Mo_versions_0 : decode jM_Mo_versions.2.1 0 = .ok (.aload_n 0, 1) := by decide +kernel
theorem d_Mo_versions_1 : decode jM_Mo_versions.2.1 1 = .ok (.getfield 165, 3) := by decide +kernel
theorem d_Mo_versions_4 : decode jM_Mo_versions.2.1 4 = .ok (.ifCond .ne 10, 3) := by decide +kernel
theorem d_Mo_versions_7 : decode jM_Mo_versions.2.1 7 = .ok (.iload_n 1, 1) := by decide +kernel
theorem d_Mo_versions_8 : decode jM_Mo_versions.2.1 8 = .ok (.invokestatic 193, 3) := by decide +kernel
theorem d_Mo_versions_11 : decode jM_Mo_versions.2.1 11 = .ok (.ifCond .eq 5, 3) := by decide +kernel
theorem d_Mo_versions_14 : decode jM_Mo_versions.2.1 14 = .ok (.iconst (-1), 1) := by decide +kernel
theorem d_Mo_versions_15 : decode jM_Mo_versions.2.1 15 = .ok (.ireturn, 1) := by decide +kernel
theorem d_Mo_versions_16 : decode jM_Mo_versions.2.1 16 = .ok (.iconst 0, 1) := by decide +kernel
theorem d_Mo_versions_17 : decode jM_Mo_versions.2.1 17 = .ok (.istore_n 2, 1) := by decide +kernel
theorem d_Mo_versions_18 : decode jM_Mo_versions.2.1 18 = .ok (.iconst 0, 1) := by decide +kernel
theorem d_Mo_versions_19 : decode jM_Mo_versions.2.1 19 = .ok (.istore_n 3, 1) := by decide +kernel
theorem d_Mo_versions_20 : decode jM_Mo_versions.2.1 20 = .ok (.iload_n 3, 1) := by decide +kernel
theorem d_Mo_versions_21 : decode jM_Mo_versions.2.1 21 = .ok (.aload_n 0, 1) := by decide +kernel
theorem d_Mo_versions_22 : decode jM_Mo_versions.2.1 22 = .ok (.getfield 48, 3) := by decide +kernel
theorem d_Mo_versions_25 : decode jM_Mo_versions.2.1 25 = .ok (.bipush 32, 2) := by decide +kernel
theorem d_Mo_versions_27 : decode jM_Mo_versions.2.1 27 = .ok (.iaload, 1) := by decide +kernel
theorem d_Mo_versions_28 : decode jM_Mo_versions.2.1 28 = .ok (.if_icmp .ge 32, 3) := by decide +kernel
theorem d_Mo_versions_31 : decode jM_Mo_versions.2.1 31 = .ok (.iload_n 2, 1) := by decide +kernel
theorem d_Mo_versions_32 : decode jM_Mo_versions.2.1 32 = .ok (.aload_n 0, 1) := by decide +kernel
theorem d_Mo_versions_33 : decode jM_Mo_versions.2.1 33 = .ok (.getfield 48, 3) := by decide +kernel
theorem d_Mo_versions_36 : decode jM_Mo_versions.2.1 36 = .ok (.bipush 33, 2) := by decide +kernel
theorem d_Mo_versions_38 : decode jM_Mo_versions.2.1 38 = .ok (.iconst 2, 1) := by decide +kernel
theorem d_Mo_versions_39 : decode jM_Mo_versions.2.1 39 = .ok (.iload_n 3, 1) := by decide +kernel
theorem d_Mo_versions_40 : decode jM_Mo_versions.2.1 40 = .ok (.imul, 1) := by decide +kernel
theorem d_Mo_versions_41 : decode jM_Mo_versions.2.1 41 = .ok (.iadd, 1) := by decide +kernel
theorem d_Mo_versions_42 : decode jM_Mo_versions.2.1 42 = .ok (.iaload, 1) := by decide +kernel
theorem d_Mo_versions_43 : decode jM_Mo_versions.2.1 43 = .ok (.iload_n 1, 1) := by decide +kernel
theorem d_Mo_versions_44 : decode jM_Mo_versions.2.1 44 = .ok (.if_icmp .ne 7, 3) := by decide +kernel
theorem d_Mo_versions_47 : decode jM_Mo_versions.2.1 47 = .ok (.iconst 1, 1) := by decide +kernel
theorem d_Mo_versions_48 : decode jM_Mo_versions.2.1 48 = .ok (.goto 4, 3) := by decide +kernel
theorem d_Mo_versions_51 : decode jM_Mo_versions.2.1 51 = .ok (.iconst 0, 1) := by decide +kernel
theorem d_Mo_versions_52 : decode jM_Mo_versions.2.1 52 = .ok (.iadd, 1) := by decide +kernel
theorem d_Mo_versions_53 : decode jM_Mo_versions.2.1 53 = .ok (.istore_n 2, 1) := by decide +kernel
theorem d_Mo_versions_54 : decode jM_Mo_versions.2.1 54 = .ok (.iinc 3 1, 3) := by decide +kernel
theorem d_Mo_versions_57 : decode jM_Mo_versions.2.1 57 = .ok (.goto (-37), 3) := by decide +kernel
theorem d_Mo_versions_60 : decode jM_Mo_versions.2.1 60 = .ok (.iload_n 2, 1) := by decide +kernel
theorem d_Mo_versions_61 : decode jM_Mo_versions.2.1 61 = .ok (.ireturn, 1) := by decide +kernel
theorem d_Mo_register_0 : decode jM_Mo_register.2.1 0 = .ok (.aload_n 0, 1) := by decide +kernel
theorem d_Mo_register_1 : decode jM_Mo_register.2.1 1 = .ok (.getfield 165, 3) := by decide +kernel
theorem d_Mo_register_4 : decode jM_Mo_register.2.1 4 = .ok (.ifCond .eq 6, 3) := by decide +kernel
theorem d_Mo_register_7 : decode jM_Mo_register.2.1 7 = .ok (.bipush (-4), 2) := by decide +kernel
theorem d_Mo_register_9 : decode jM_Mo_register.2.1 9 = .ok (.ireturn, 1) := by decide +kernel
theorem d_Mo_register_10 : decode jM_Mo_register.2.1 10 = .ok (.iload_n 1, 1) := by decide +kernel
theorem d_Mo_register_11 : decode jM_Mo_register.2.1 11 = .ok (.invokestatic 193, 3) := by decide +kernel
theorem d_Mo_register_14 : decode jM_Mo_register.2.1 14 = .ok (.ifCond .ne 32, 3) := by decide +kernel
theorem d_Mo_register_17 : decode jM_Mo_register.2.1 17 = .ok (.aload_n 0, 1) := by decide +kernel
theorem d_Mo_register_18 : decode jM_Mo_register.2.1 18 = .ok (.iload_n 2, 1) := by decide +kernel
theorem d_Mo_register_19 : decode jM_Mo_register.2.1 19 = .ok (.invokevirtual 92, 3) := by decide +kernel
theorem d_Mo_register_22 : decode jM_Mo_register.2.1 22 = .ok (.ifCond .ne 24, 3) := by decide +kernel
theorem d_Mo_register_25 : decode jM_Mo_register.2.1 25 = .ok (.aload_n 0, 1) := by decide +kernel
theorem d_Mo_register_26 : decode jM_Mo_register.2.1 26 = .ok (.iload_n 1, 1) := by decide +kernel
theorem d_Mo_register_27 : decode jM_Mo_register.2.1 27 = .ok (.iload_n 2, 1) := by decide +kernel
theorem d_Mo_register_28 : decode jM_Mo_register.2.1 28 = .ok (.invokevirtual 196, 3) := by decide +kernel
theorem d_Mo_register_31 : decode jM_Mo_register.2.1 31 = .ok (.ifCond .ne 15, 3) := by decide +kernel
theorem d_Mo_register_34 : decode jM_Mo_register.2.1 34 = .ok (.aload_n 0, 1) := by decide +kernel
theorem d_Mo_register_35 : decode jM_Mo_register.2.1 35 = .ok (.getfield 48, 3) := by decide +kernel
theorem d_Mo_register_38 : decode jM_Mo_register.2.1 38 = .ok (.bipush 32, 2) := by decide +kernel
theorem d_Mo_register_40 : decode jM_Mo_register.2.1 40 = .ok (.iaload, 1) := by decide +kernel
theorem d_Mo_register_41 : decode jM_Mo_register.2.1 41 = .ok (.bipush 10, 2) := by decide +kernel
theorem d_Mo_register_43 : decode jM_Mo_register.2.1 43 = .ok (.if_icmp .ne 5, 3) := by decide +kernel
theorem d_Mo_register_46 : decode jM_Mo_register.2.1 46 = .ok (.iconst (-1), 1) := by decide +kernel
theorem d_Mo_register_47 : decode jM_Mo_register.2.1 47 = .ok (.ireturn, 1) := by decide +kernel
theorem d_Mo_register_48 : decode jM_Mo_register.2.1 48 = .ok (.iconst 0, 1) := by decide +kernel
theorem d_Mo_register_49 : decode jM_Mo_register.2.1 49 = .ok (.istore_n 3, 1) := by decide +kernel
theorem d_Mo_register_50 : decode jM_Mo_register.2.1 50 = .ok (.iload_n 3, 1) := by decide +kernel
theorem d_Mo_register_51 : decode jM_Mo_register.2.1 51 = .ok (.aload_n 0, 1) := by decide +kernel
theorem d_Mo_register_52 : decode jM_Mo_register.2.1 52 = .ok (.getfield 48, 3) := by decide +kernel
theorem d_Mo_register_55 : decode jM_Mo_register.2.1 55 = .ok (.bipush 32, 2) := by decide +kernel
theorem d_Mo_register_57 : decode jM_Mo_register.2.1 57 = .ok (.iaload, 1) := by decide +kernel
theorem d_Mo_register_58 : decode jM_Mo_register.2.1 58 = .ok (.if_icmp .ge 51, 3) := by decide +kernel
theorem d_Mo_register_61 : decode jM_Mo_register.2.1 61 = .ok (.aload_n 0, 1) := by decide +kernel
theorem d_Mo_register_62 : decode jM_Mo_register.2.1 62 = .ok (.getfield 48, 3) := by decide +kernel
theorem d_Mo_register_65 : decode jM_Mo_register.2.1 65 = .ok (.bipush 33, 2) := by decide +kernel
theorem d_Mo_register_67 : decode jM_Mo_register.2.1 67 = .ok (.iconst 2, 1) := by decide +kernel
theorem d_Mo_register_68 : decode jM_Mo_register.2.1 68 = .ok (.iload_n 3, 1) := by decide +kernel
theorem d_Mo_register_69 : decode jM_Mo_register.2.1 69 = .ok (.imul, 1) := by decide +kernel
theorem d_Mo_register_70 : decode jM_Mo_register.2.1 70 = .ok (.iadd, 1) := by decide +kernel
theorem d_Mo_register_71 : decode jM_Mo_register.2.1 71 = .ok (.iaload, 1) := by decide +kernel
theorem d_Mo_register_72 : decode jM_Mo_register.2.1 72 = .ok (.iload_n 1, 1) := by decide +kernel
theorem d_Mo_register_73 : decode jM_Mo_register.2.1 73 = .ok (.if_icmp .ne 30, 3) := by decide +kernel
theorem d_Mo_register_76 : decode jM_Mo_register.2.1 76 = .ok (.aload_n 0, 1) := by decide +kernel
theorem d_Mo_register_77 : decode jM_Mo_register.2.1 77 = .ok (.getfield 45, 3) := by decide +kernel
theorem d_Mo_register_80 : decode jM_Mo_register.2.1 80 = .ok (.bipush 24, 2) := by decide +kernel
theorem d_Mo_register_82 : decode jM_Mo_register.2.1 82 = .ok (.iload_n 2, 1) := by decide +kernel
theorem d_Mo_register_83 : decode jM_Mo_register.2.1 83 = .ok (.imul, 1) := by decide +kernel
theorem d_Mo_register_84 : decode jM_Mo_register.2.1 84 = .ok (.aload_n 0, 1) := by decide +kernel
theorem d_Mo_register_85 : decode jM_Mo_register.2.1 85 = .ok (.getfield 48, 3) := by decide +kernel
theorem d_Mo_register_88 : decode jM_Mo_register.2.1 88 = .ok (.bipush 34, 2) := by decide +kernel
theorem d_Mo_register_90 : decode jM_Mo_register.2.1 90 = .ok (.iconst 2, 1) := by decide +kernel
theorem d_Mo_register_91 : decode jM_Mo_register.2.1 91 = .ok (.iload_n 3, 1) := by decide +kernel
theorem d_Mo_register_92 : decode jM_Mo_register.2.1 92 = .ok (.imul, 1) := by decide +kernel
theorem d_Mo_register_93 : decode jM_Mo_register.2.1 93 = .ok (.iadd, 1) := by decide +kernel
theorem d_Mo_register_94 : decode jM_Mo_register.2.1 94 = .ok (.iaload, 1) := by decide +kernel
theorem d_Mo_register_95 : decode jM_Mo_register.2.1 95 = .ok (.iadd, 1) := by decide +kernel
theorem d_Mo_register_96 : decode jM_Mo_register.2.1 96 = .ok (.baload, 1) := by decide +kernel
theorem d_Mo_register_97 : decode jM_Mo_register.2.1 97 = .ok (.ifCond .ne 6, 3) := by decide +kernel
theorem d_Mo_register_100 : decode jM_Mo_register.2.1 100 = .ok (.bipush (-2), 2) := by decide +kernel
theorem d_Mo_register_102 : decode jM_Mo_register.2.1 102 = .ok (.ireturn, 1) := by decide +kernel
theorem d_Mo_register_103 : decode jM_Mo_register.2.1 103 = .ok (.iinc 3 1, 3) := by decide +kernel
theorem d_Mo_register_106 : decode jM_Mo_register.2.1 106 = .ok (.goto (-56), 3) := by decide +kernel
theorem d_Mo_register_109 : decode jM_Mo_register.2.1 109 = .ok (.aload_n 0, 1) := by decide +kernel
theorem d_Mo_register_110 : decode jM_Mo_register.2.1 110 = .ok (.iload_n 1, 1) := by decide +kernel
theorem d_Mo_register_111 : decode jM_Mo_register.2.1 111 = .ok (.invokevirtual 199, 3) := by decide +kernel
theorem d_Mo_register_114 : decode jM_Mo_register.2.1 114 = .ok (.istore_n 3, 1) := by decide +kernel
theorem d_Mo_register_115 : decode jM_Mo_register.2.1 115 = .ok (.iconst 0, 1) := by decide +kernel
theorem d_Mo_register_116 : decode jM_Mo_register.2.1 116 = .ok (.istore 4, 2) := by decide +kernel
theorem d_Mo_register_118 : decode jM_Mo_register.2.1 118 = .ok (.iload 4, 2) := by decide +kernel
theorem d_Mo_register_120 : decode jM_Mo_register.2.1 120 = .ok (.bipush 32, 2) := by decide +kernel
theorem d_Mo_register_122 : decode jM_Mo_register.2.1 122 = .ok (.if_icmp .ge 26, 3) := by decide +kernel
theorem d_Mo_register_125 : decode jM_Mo_register.2.1 125 = .ok (.aload_n 0, 1) := by decide +kernel
theorem d_Mo_register_126 : decode jM_Mo_register.2.1 126 = .ok (.getfield 63, 3) := by decide +kernel
theorem d_Mo_register_129 : decode jM_Mo_register.2.1 129 = .ok (.iload 4, 2) := by decide +kernel
theorem d_Mo_register_131 : decode jM_Mo_register.2.1 131 = .ok (.aload_n 0, 1) := by decide +kernel
theorem d_Mo_register_132 : decode jM_Mo_register.2.1 132 = .ok (.getfield 48, 3) := by decide +kernel
theorem d_Mo_register_135 : decode jM_Mo_register.2.1 135 = .ok (.bipush 32, 2) := by decide +kernel
theorem d_Mo_register_137 : decode jM_Mo_register.2.1 137 = .ok (.iload 4, 2) := by decide +kernel
theorem d_Mo_register_139 : decode jM_Mo_register.2.1 139 = .ok (.iadd, 1) := by decide +kernel
theorem d_Mo_register_140 : decode jM_Mo_register.2.1 140 = .ok (.iaload, 1) := by decide +kernel
theorem d_Mo_register_141 : decode jM_Mo_register.2.1 141 = .ok (.iastore, 1) := by decide +kernel
theorem d_Mo_register_142 : decode jM_Mo_register.2.1 142 = .ok (.iinc 4 1, 3) := by decide +kernel
theorem d_Mo_register_145 : decode jM_Mo_register.2.1 145 = .ok (.goto (-27), 3) := by decide +kernel
theorem d_Mo_register_148 : decode jM_Mo_register.2.1 148 = .ok (.aload_n 0, 1) := by decide +kernel
theorem d_Mo_register_149 : decode jM_Mo_register.2.1 149 = .ok (.getfield 63, 3) := by decide +kernel
theorem d_Mo_register_152 : decode jM_Mo_register.2.1 152 = .ok (.iconst 1, 1) := by decide +kernel
theorem d_Mo_register_153 : decode jM_Mo_register.2.1 153 = .ok (.iconst 2, 1) := by decide +kernel
theorem d_Mo_register_154 : decode jM_Mo_register.2.1 154 = .ok (.aload_n 0, 1) := by decide +kernel
theorem d_Mo_register_155 : decode jM_Mo_register.2.1 155 = .ok (.getfield 63, 3) := by decide +kernel
theorem d_Mo_register_158 : decode jM_Mo_register.2.1 158 = .ok (.iconst 0, 1) := by decide +kernel
theorem d_Mo_register_159 : decode jM_Mo_register.2.1 159 = .ok (.iaload, 1) := by decide +kernel
theorem d_Mo_register_160 : decode jM_Mo_register.2.1 160 = .ok (.imul, 1) := by decide +kernel
theorem d_Mo_register_161 : decode jM_Mo_register.2.1 161 = .ok (.iadd, 1) := by decide +kernel
theorem d_Mo_register_162 : decode jM_Mo_register.2.1 162 = .ok (.iload_n 1, 1) := by decide +kernel
theorem d_Mo_register_163 : decode jM_Mo_register.2.1 163 = .ok (.iastore, 1) := by decide +kernel
theorem d_Mo_register_164 : decode jM_Mo_register.2.1 164 = .ok (.aload_n 0, 1) := by decide +kernel
theorem d_Mo_register_165 : decode jM_Mo_register.2.1 165 = .ok (.getfield 63, 3) := by decide +kernel
theorem d_Mo_register_168 : decode jM_Mo_register.2.1 168 = .ok (.iconst 2, 1) := by decide +kernel
theorem d_Mo_register_169 : decode jM_Mo_register.2.1 169 = .ok (.iconst 2, 1) := by decide +kernel
theorem d_Mo_register_170 : decode jM_Mo_register.2.1 170 = .ok (.aload_n 0, 1) := by decide +kernel
theorem d_Mo_register_171 : decode jM_Mo_register.2.1 171 = .ok (.getfield 63, 3) := by decide +kernel
theorem d_Mo_register_174 : decode jM_Mo_register.2.1 174 = .ok (.iconst 0, 1) := by decide +kernel
theorem d_Mo_register_175 : decode jM_Mo_register.2.1 175 = .ok (.iaload, 1) := by decide +kernel
theorem d_Mo_register_176 : decode jM_Mo_register.2.1 176 = .ok (.imul, 1) := by decide +kernel
theorem d_Mo_register_177 : decode jM_Mo_register.2.1 177 = .ok (.iadd, 1) := by decide +kernel
theorem d_Mo_register_178 : decode jM_Mo_register.2.1 178 = .ok (.iload_n 2, 1) := by decide +kernel
theorem d_Mo_register_179 : decode jM_Mo_register.2.1 179 = .ok (.iastore, 1) := by decide +kernel
theorem d_Mo_register_180 : decode jM_Mo_register.2.1 180 = .ok (.aload_n 0, 1) := by decide +kernel
theorem d_Mo_register_181 : decode jM_Mo_register.2.1 181 = .ok (.getfield 63, 3) := by decide +kernel
theorem d_Mo_register_184 : decode jM_Mo_register.2.1 184 = .ok (.iconst 0, 1) := by decide +kernel
theorem d_Mo_register_185 : decode jM_Mo_register.2.1 185 = .ok (.dup2, 1) := by decide +kernel
theorem d_Mo_register_186 : decode jM_Mo_register.2.1 186 = .ok (.iaload, 1) := by decide +kernel
theorem d_Mo_register_187 : decode jM_Mo_register.2.1 187 = .ok (.iconst 1, 1) := by decide +kernel
theorem d_Mo_register_188 : decode jM_Mo_register.2.1 188 = .ok (.iadd, 1) := by decide +kernel
theorem d_Mo_register_189 : decode jM_Mo_register.2.1 189 = .ok (.iastore, 1) := by decide +kernel
theorem d_Mo_register_190 : decode jM_Mo_register.2.1 190 = .ok (.aload_n 0, 1) := by decide +kernel
theorem d_Mo_register_191 : decode jM_Mo_register.2.1 191 = .ok (.iconst 1, 1) := by decide +kernel
theorem d_Mo_register_192 : decode jM_Mo_register.2.1 192 = .ok (.invokevirtual 183, 3) := by decide +kernel
theorem d_Mo_register_195 : decode jM_Mo_register.2.1 195 = .ok (.ifCond .eq 7, 3) := by decide +kernel
theorem d_Mo_register_198 : decode jM_Mo_register.2.1 198 = .ok (.iload_n 3, 1) := by decide +kernel
theorem d_Mo_register_199 : decode jM_Mo_register.2.1 199 = .ok (.goto 5, 3) := by decide +kernel
theorem d_Mo_register_202 : decode jM_Mo_register.2.1 202 = .ok (.bipush (-4), 2) := by decide +kernel
theorem d_Mo_register_204 : decode jM_Mo_register.2.1 204 = .ok (.ireturn, 1) := by decide +kernel
theorem d_Mo_version_0 : decode jM_Mo_version.2.1 0 = .ok (.aload_n 0, 1) := by decide +kernel
theorem d_Mo_version_1 : decode jM_Mo_version.2.1 1 = .ok (.getfield 165, 3) := by decide +kernel
theorem d_Mo_version_4 : decode jM_Mo_version.2.1 4 = .ok (.ifCond .ne 14, 3) := by decide +kernel
theorem d_Mo_version_7 : decode jM_Mo_version.2.1 7 = .ok (.iload_n 1, 1) := by decide +kernel
theorem d_Mo_version_8 : decode jM_Mo_version.2.1 8 = .ok (.invokestatic 193, 3) := by decide +kernel
theorem d_Mo_version_11 : decode jM_Mo_version.2.1 11 = .ok (.ifCond .ne 7, 3) := by decide +kernel
theorem d_Mo_version_14 : decode jM_Mo_version.2.1 14 = .ok (.iload_n 2, 1) := by decide +kernel
theorem d_Mo_version_15 : decode jM_Mo_version.2.1 15 = .ok (.ifCond .ge 5, 3) := by decide +kernel
theorem d_Mo_version_18 : decode jM_Mo_version.2.1 18 = .ok (.iconst (-1), 1) := by decide +kernel
theorem d_Mo_version_19 : decode jM_Mo_version.2.1 19 = .ok (.ireturn, 1) := by decide +kernel
theorem d_Mo_version_20 : decode jM_Mo_version.2.1 20 = .ok (.iconst 0, 1) := by decide +kernel
theorem d_Mo_version_21 : decode jM_Mo_version.2.1 21 = .ok (.istore_n 3, 1) := by decide +kernel
theorem d_Mo_version_22 : decode jM_Mo_version.2.1 22 = .ok (.iconst 0, 1) := by decide +kernel
theorem d_Mo_version_23 : decode jM_Mo_version.2.1 23 = .ok (.istore 4, 2) := by decide +kernel
theorem d_Mo_version_25 : decode jM_Mo_version.2.1 25 = .ok (.iload 4, 2) := by decide +kernel
theorem d_Mo_version_27 : decode jM_Mo_version.2.1 27 = .ok (.aload_n 0, 1) := by decide +kernel
theorem d_Mo_version_28 : decode jM_Mo_version.2.1 28 = .ok (.getfield 48, 3) := by decide +kernel
theorem d_Mo_version_31 : decode jM_Mo_version.2.1 31 = .ok (.bipush 32, 2) := by decide +kernel
theorem d_Mo_version_33 : decode jM_Mo_version.2.1 33 = .ok (.iaload, 1) := by decide +kernel
theorem d_Mo_version_34 : decode jM_Mo_version.2.1 34 = .ok (.if_icmp .ge 46, 3) := by decide +kernel
theorem d_Mo_version_37 : decode jM_Mo_version.2.1 37 = .ok (.aload_n 0, 1) := by decide +kernel
theorem d_Mo_version_38 : decode jM_Mo_version.2.1 38 = .ok (.getfield 48, 3) := by decide +kernel
theorem d_Mo_version_41 : decode jM_Mo_version.2.1 41 = .ok (.bipush 33, 2) := by decide +kernel
theorem d_Mo_version_43 : decode jM_Mo_version.2.1 43 = .ok (.iconst 2, 1) := by decide +kernel
theorem d_Mo_version_44 : decode jM_Mo_version.2.1 44 = .ok (.iload 4, 2) := by decide +kernel
theorem d_Mo_version_46 : decode jM_Mo_version.2.1 46 = .ok (.imul, 1) := by decide +kernel
theorem d_Mo_version_47 : decode jM_Mo_version.2.1 47 = .ok (.iadd, 1) := by decide +kernel
theorem d_Mo_version_48 : decode jM_Mo_version.2.1 48 = .ok (.iaload, 1) := by decide +kernel
theorem d_Mo_version_49 : decode jM_Mo_version.2.1 49 = .ok (.iload_n 1, 1) := by decide +kernel
theorem d_Mo_version_50 : decode jM_Mo_version.2.1 50 = .ok (.if_icmp .ne 24, 3) := by decide +kernel
theorem d_Mo_version_53 : decode jM_Mo_version.2.1 53 = .ok (.iload_n 3, 1) := by decide +kernel
theorem d_Mo_version_54 : decode jM_Mo_version.2.1 54 = .ok (.iload_n 2, 1) := by decide +kernel
theorem d_Mo_version_55 : decode jM_Mo_version.2.1 55 = .ok (.if_icmp .ne 16, 3) := by decide +kernel
theorem d_Mo_version_58 : decode jM_Mo_version.2.1 58 = .ok (.aload_n 0, 1) := by decide +kernel
theorem d_Mo_version_59 : decode jM_Mo_version.2.1 59 = .ok (.getfield 48, 3) := by decide +kernel
theorem d_Mo_version_62 : decode jM_Mo_version.2.1 62 = .ok (.bipush 34, 2) := by decide +kernel
theorem d_Mo_version_64 : decode jM_Mo_version.2.1 64 = .ok (.iconst 2, 1) := by decide +kernel
theorem d_Mo_version_65 : decode jM_Mo_version.2.1 65 = .ok (.iload 4, 2) := by decide +kernel
theorem d_Mo_version_67 : decode jM_Mo_version.2.1 67 = .ok (.imul, 1) := by decide +kernel
theorem d_Mo_version_68 : decode jM_Mo_version.2.1 68 = .ok (.iadd, 1) := by decide +kernel
theorem d_Mo_version_69 : decode jM_Mo_version.2.1 69 = .ok (.iaload, 1) := by decide +kernel
theorem d_Mo_version_70 : decode jM_Mo_version.2.1 70 = .ok (.ireturn, 1) := by decide +kernel
theorem d_Mo_version_71 : decode jM_Mo_version.2.1 71 = .ok (.iinc 3 1, 3) := by decide +kernel
theorem d_Mo_version_74 : decode jM_Mo_version.2.1 74 = .ok (.iinc 4 1, 3) := by decide +kernel
theorem d_Mo_version_77 : decode jM_Mo_version.2.1 77 = .ok (.goto (-52), 3) := by decide +kernel
theorem d_Mo_version_80 : decode jM_Mo_version.2.1 80 = .ok (.iconst (-1), 1) := by decide +kernel
theorem d_Mo_version_81 : decode jM_Mo_version.2.1 81 = .ok (.ireturn, 1) := by decide +kernel
theorem d_Mo_give_0 : decode jM_Mo_give.2.1 0 = .ok (.aload_n 0, 1) := by decide +kernel
theorem d_Mo_give_1 : decode jM_Mo_give.2.1 1 = .ok (.getfield 165, 3) := by decide +kernel
theorem d_Mo_give_4 : decode jM_Mo_give.2.1 4 = .ok (.ifCond .eq 6, 3) := by decide +kernel
theorem d_Mo_give_7 : decode jM_Mo_give.2.1 7 = .ok (.bipush (-4), 2) := by decide +kernel
theorem d_Mo_give_9 : decode jM_Mo_give.2.1 9 = .ok (.ireturn, 1) := by decide +kernel
theorem d_Mo_give_10 : decode jM_Mo_give.2.1 10 = .ok (.aload_n 0, 1) := by decide +kernel
theorem d_Mo_give_11 : decode jM_Mo_give.2.1 11 = .ok (.getfield 168, 3) := by decide +kernel
theorem d_Mo_give_14 : decode jM_Mo_give.2.1 14 = .ok (.bipush 24, 2) := by decide +kernel
theorem d_Mo_give_16 : decode jM_Mo_give.2.1 16 = .ok (.if_icmp .ne 5, 3) := by decide +kernel
theorem d_Mo_give_19 : decode jM_Mo_give.2.1 19 = .ok (.iconst (-1), 1) := by decide +kernel
theorem d_Mo_give_20 : decode jM_Mo_give.2.1 20 = .ok (.ireturn, 1) := by decide +kernel
theorem d_Mo_give_21 : decode jM_Mo_give.2.1 21 = .ok (.aload_n 0, 1) := by decide +kernel
theorem d_Mo_give_22 : decode jM_Mo_give.2.1 22 = .ok (.getfield 51, 3) := by decide +kernel
theorem d_Mo_give_25 : decode jM_Mo_give.2.1 25 = .ok (.aload_n 0, 1) := by decide +kernel
theorem d_Mo_give_26 : decode jM_Mo_give.2.1 26 = .ok (.getfield 168, 3) := by decide +kernel
theorem d_Mo_give_29 : decode jM_Mo_give.2.1 29 = .ok (.lload_n 1, 1) := by decide +kernel
theorem d_Mo_give_30 : decode jM_Mo_give.2.1 30 = .ok (.lastore, 1) := by decide +kernel
theorem d_Mo_give_31 : decode jM_Mo_give.2.1 31 = .ok (.aload_n 0, 1) := by decide +kernel
theorem d_Mo_give_32 : decode jM_Mo_give.2.1 32 = .ok (.dup, 1) := by decide +kernel
theorem d_Mo_give_33 : decode jM_Mo_give.2.1 33 = .ok (.getfield 168, 3) := by decide +kernel
theorem d_Mo_give_36 : decode jM_Mo_give.2.1 36 = .ok (.iconst 1, 1) := by decide +kernel
theorem d_Mo_give_37 : decode jM_Mo_give.2.1 37 = .ok (.iadd, 1) := by decide +kernel
theorem d_Mo_give_38 : decode jM_Mo_give.2.1 38 = .ok (.putfield 168, 3) := by decide +kernel
theorem d_Mo_give_41 : decode jM_Mo_give.2.1 41 = .ok (.aload_n 0, 1) := by decide +kernel
theorem d_Mo_give_42 : decode jM_Mo_give.2.1 42 = .ok (.getfield 168, 3) := by decide +kernel
theorem d_Mo_give_45 : decode jM_Mo_give.2.1 45 = .ok (.ireturn, 1) := by decide +kernel
theorem d_Mo_stage_0 : decode jM_Mo_stage.2.1 0 = .ok (.aload_n 0, 1) := by decide +kernel
theorem d_Mo_stage_1 : decode jM_Mo_stage.2.1 1 = .ok (.getfield 165, 3) := by decide +kernel
theorem d_Mo_stage_4 : decode jM_Mo_stage.2.1 4 = .ok (.ifCond .eq 6, 3) := by decide +kernel
theorem d_Mo_stage_7 : decode jM_Mo_stage.2.1 7 = .ok (.bipush (-4), 2) := by decide +kernel
theorem d_Mo_stage_9 : decode jM_Mo_stage.2.1 9 = .ok (.ireturn, 1) := by decide +kernel
theorem d_Mo_stage_10 : decode jM_Mo_stage.2.1 10 = .ok (.aload_n 0, 1) := by decide +kernel
theorem d_Mo_stage_11 : decode jM_Mo_stage.2.1 11 = .ok (.iload_n 1, 1) := by decide +kernel
theorem d_Mo_stage_12 : decode jM_Mo_stage.2.1 12 = .ok (.invokevirtual 92, 3) := by decide +kernel
theorem d_Mo_stage_15 : decode jM_Mo_stage.2.1 15 = .ok (.ifCond .ne 18, 3) := by decide +kernel
theorem d_Mo_stage_18 : decode jM_Mo_stage.2.1 18 = .ok (.aload_n 0, 1) := by decide +kernel
theorem d_Mo_stage_19 : decode jM_Mo_stage.2.1 19 = .ok (.getfield 171, 3) := by decide +kernel
theorem d_Mo_stage_22 : decode jM_Mo_stage.2.1 22 = .ok (.ifCond .le 13, 3) := by decide +kernel
theorem d_Mo_stage_25 : decode jM_Mo_stage.2.1 25 = .ok (.aload_n 0, 1) := by decide +kernel
theorem d_Mo_stage_26 : decode jM_Mo_stage.2.1 26 = .ok (.getfield 202, 3) := by decide +kernel
theorem d_Mo_stage_29 : decode jM_Mo_stage.2.1 29 = .ok (.iload_n 1, 1) := by decide +kernel
theorem d_Mo_stage_30 : decode jM_Mo_stage.2.1 30 = .ok (.if_icmp .eq 5, 3) := by decide +kernel
theorem d_Mo_stage_33 : decode jM_Mo_stage.2.1 33 = .ok (.iconst (-1), 1) := by decide +kernel
theorem d_Mo_stage_34 : decode jM_Mo_stage.2.1 34 = .ok (.ireturn, 1) := by decide +kernel
theorem d_Mo_stage_35 : decode jM_Mo_stage.2.1 35 = .ok (.iconst 0, 1) := by decide +kernel
theorem d_Mo_stage_36 : decode jM_Mo_stage.2.1 36 = .ok (.istore_n 2, 1) := by decide +kernel
theorem d_Mo_stage_37 : decode jM_Mo_stage.2.1 37 = .ok (.iload_n 2, 1) := by decide +kernel
theorem d_Mo_stage_38 : decode jM_Mo_stage.2.1 38 = .ok (.aload_n 0, 1) := by decide +kernel
theorem d_Mo_stage_39 : decode jM_Mo_stage.2.1 39 = .ok (.getfield 168, 3) := by decide +kernel
theorem d_Mo_stage_42 : decode jM_Mo_stage.2.1 42 = .ok (.if_icmp .ge 21, 3) := by decide +kernel
theorem d_Mo_stage_45 : decode jM_Mo_stage.2.1 45 = .ok (.aload_n 0, 1) := by decide +kernel
theorem d_Mo_stage_46 : decode jM_Mo_stage.2.1 46 = .ok (.getfield 66, 3) := by decide +kernel
theorem d_Mo_stage_49 : decode jM_Mo_stage.2.1 49 = .ok (.iload_n 2, 1) := by decide +kernel
theorem d_Mo_stage_50 : decode jM_Mo_stage.2.1 50 = .ok (.aload_n 0, 1) := by decide +kernel
theorem d_Mo_stage_51 : decode jM_Mo_stage.2.1 51 = .ok (.getfield 51, 3) := by decide +kernel
theorem d_Mo_stage_54 : decode jM_Mo_stage.2.1 54 = .ok (.iload_n 2, 1) := by decide +kernel
theorem d_Mo_stage_55 : decode jM_Mo_stage.2.1 55 = .ok (.laload, 1) := by decide +kernel
theorem d_Mo_stage_56 : decode jM_Mo_stage.2.1 56 = .ok (.lastore, 1) := by decide +kernel
theorem d_Mo_stage_57 : decode jM_Mo_stage.2.1 57 = .ok (.iinc 2 1, 3) := by decide +kernel
theorem d_Mo_stage_60 : decode jM_Mo_stage.2.1 60 = .ok (.goto (-23), 3) := by decide +kernel
theorem d_Mo_stage_63 : decode jM_Mo_stage.2.1 63 = .ok (.aload_n 0, 1) := by decide +kernel
theorem d_Mo_stage_64 : decode jM_Mo_stage.2.1 64 = .ok (.iload_n 1, 1) := by decide +kernel
theorem d_Mo_stage_65 : decode jM_Mo_stage.2.1 65 = .ok (.iconst 0, 1) := by decide +kernel
theorem d_Mo_stage_66 : decode jM_Mo_stage.2.1 66 = .ok (.aload_n 0, 1) := by decide +kernel
theorem d_Mo_stage_67 : decode jM_Mo_stage.2.1 67 = .ok (.getfield 168, 3) := by decide +kernel
theorem d_Mo_stage_70 : decode jM_Mo_stage.2.1 70 = .ok (.invokevirtual 205, 3) := by decide +kernel
theorem d_Mo_stage_73 : decode jM_Mo_stage.2.1 73 = .ok (.aload_n 0, 1) := by decide +kernel
theorem d_Mo_stage_74 : decode jM_Mo_stage.2.1 74 = .ok (.getfield 168, 3) := by decide +kernel
theorem d_Mo_stage_77 : decode jM_Mo_stage.2.1 77 = .ok (.if_icmp .eq 5, 3) := by decide +kernel
theorem d_Mo_stage_80 : decode jM_Mo_stage.2.1 80 = .ok (.iconst (-1), 1) := by decide +kernel
theorem d_Mo_stage_81 : decode jM_Mo_stage.2.1 81 = .ok (.ireturn, 1) := by decide +kernel
theorem d_Mo_stage_82 : decode jM_Mo_stage.2.1 82 = .ok (.aload_n 0, 1) := by decide +kernel
theorem d_Mo_stage_83 : decode jM_Mo_stage.2.1 83 = .ok (.iconst 0, 1) := by decide +kernel
theorem d_Mo_stage_84 : decode jM_Mo_stage.2.1 84 = .ok (.putfield 128, 3) := by decide +kernel
theorem d_Mo_stage_87 : decode jM_Mo_stage.2.1 87 = .ok (.aload_n 0, 1) := by decide +kernel
theorem d_Mo_stage_88 : decode jM_Mo_stage.2.1 88 = .ok (.iload_n 1, 1) := by decide +kernel
theorem d_Mo_stage_89 : decode jM_Mo_stage.2.1 89 = .ok (.invokevirtual 209, 3) := by decide +kernel
theorem d_Mo_stage_92 : decode jM_Mo_stage.2.1 92 = .ok (.aload_n 0, 1) := by decide +kernel
theorem d_Mo_stage_93 : decode jM_Mo_stage.2.1 93 = .ok (.getfield 171, 3) := by decide +kernel
theorem d_Mo_stage_96 : decode jM_Mo_stage.2.1 96 = .ok (.bipush 10, 2) := by decide +kernel
theorem d_Mo_stage_98 : decode jM_Mo_stage.2.1 98 = .ok (.if_icmp .eq 18, 3) := by decide +kernel
theorem d_Mo_stage_101 : decode jM_Mo_stage.2.1 101 = .ok (.aload_n 0, 1) := by decide +kernel
theorem d_Mo_stage_102 : decode jM_Mo_stage.2.1 102 = .ok (.getfield 174, 3) := by decide +kernel
theorem d_Mo_stage_105 : decode jM_Mo_stage.2.1 105 = .ok (.aload_n 0, 1) := by decide +kernel
theorem d_Mo_stage_106 : decode jM_Mo_stage.2.1 106 = .ok (.getfield 128, 3) := by decide +kernel
theorem d_Mo_stage_109 : decode jM_Mo_stage.2.1 109 = .ok (.iadd, 1) := by decide +kernel
theorem d_Mo_stage_110 : decode jM_Mo_stage.2.1 110 = .ok (.sipush 150, 3) := by decide +kernel
theorem d_Mo_stage_113 : decode jM_Mo_stage.2.1 113 = .ok (.if_icmp .le 6, 3) := by decide +kernel
theorem d_Mo_stage_116 : decode jM_Mo_stage.2.1 116 = .ok (.bipush (-3), 2) := by decide +kernel
theorem d_Mo_stage_118 : decode jM_Mo_stage.2.1 118 = .ok (.ireturn, 1) := by decide +kernel
theorem d_Mo_stage_119 : decode jM_Mo_stage.2.1 119 = .ok (.iconst 0, 1) := by decide +kernel
theorem d_Mo_stage_120 : decode jM_Mo_stage.2.1 120 = .ok (.istore_n 2, 1) := by decide +kernel
theorem d_Mo_stage_121 : decode jM_Mo_stage.2.1 121 = .ok (.iload_n 2, 1) := by decide +kernel
theorem d_Mo_stage_122 : decode jM_Mo_stage.2.1 122 = .ok (.aload_n 0, 1) := by decide +kernel
theorem d_Mo_stage_123 : decode jM_Mo_stage.2.1 123 = .ok (.getfield 128, 3) := by decide +kernel
theorem d_Mo_stage_126 : decode jM_Mo_stage.2.1 126 = .ok (.if_icmp .ge 26, 3) := by decide +kernel
theorem d_Mo_stage_129 : decode jM_Mo_stage.2.1 129 = .ok (.aload_n 0, 1) := by decide +kernel
theorem d_Mo_stage_130 : decode jM_Mo_stage.2.1 130 = .ok (.getfield 54, 3) := by decide +kernel
theorem d_Mo_stage_133 : decode jM_Mo_stage.2.1 133 = .ok (.aload_n 0, 1) := by decide +kernel
theorem d_Mo_stage_134 : decode jM_Mo_stage.2.1 134 = .ok (.getfield 174, 3) := by decide +kernel
theorem d_Mo_stage_137 : decode jM_Mo_stage.2.1 137 = .ok (.iload_n 2, 1) := by decide +kernel
theorem d_Mo_stage_138 : decode jM_Mo_stage.2.1 138 = .ok (.iadd, 1) := by decide +kernel
theorem d_Mo_stage_139 : decode jM_Mo_stage.2.1 139 = .ok (.aload_n 0, 1) := by decide +kernel
theorem d_Mo_stage_140 : decode jM_Mo_stage.2.1 140 = .ok (.getfield 60, 3) := by decide +kernel
theorem d_Mo_stage_143 : decode jM_Mo_stage.2.1 143 = .ok (.iload_n 2, 1) := by decide +kernel
theorem d_Mo_stage_144 : decode jM_Mo_stage.2.1 144 = .ok (.iaload, 1) := by decide +kernel
theorem d_Mo_stage_145 : decode jM_Mo_stage.2.1 145 = .ok (.iastore, 1) := by decide +kernel
theorem d_Mo_stage_146 : decode jM_Mo_stage.2.1 146 = .ok (.iinc 2 1, 3) := by decide +kernel
theorem d_Mo_stage_149 : decode jM_Mo_stage.2.1 149 = .ok (.goto (-28), 3) := by decide +kernel
theorem d_Mo_stage_152 : decode jM_Mo_stage.2.1 152 = .ok (.aload_n 0, 1) := by decide +kernel
theorem d_Mo_stage_153 : decode jM_Mo_stage.2.1 153 = .ok (.dup, 1) := by decide +kernel
theorem d_Mo_stage_154 : decode jM_Mo_stage.2.1 154 = .ok (.getfield 174, 3) := by decide +kernel
theorem d_Mo_stage_157 : decode jM_Mo_stage.2.1 157 = .ok (.aload_n 0, 1) := by decide +kernel
theorem d_Mo_stage_158 : decode jM_Mo_stage.2.1 158 = .ok (.getfield 128, 3) := by decide +kernel
theorem d_Mo_stage_161 : decode jM_Mo_stage.2.1 161 = .ok (.iadd, 1) := by decide +kernel
theorem d_Mo_stage_162 : decode jM_Mo_stage.2.1 162 = .ok (.putfield 174, 3) := by decide +kernel
theorem d_Mo_stage_165 : decode jM_Mo_stage.2.1 165 = .ok (.aload_n 0, 1) := by decide +kernel
theorem d_Mo_stage_166 : decode jM_Mo_stage.2.1 166 = .ok (.dup, 1) := by decide +kernel
theorem d_Mo_stage_167 : decode jM_Mo_stage.2.1 167 = .ok (.getfield 171, 3) := by decide +kernel
theorem d_Mo_stage_170 : decode jM_Mo_stage.2.1 170 = .ok (.iconst 1, 1) := by decide +kernel
theorem d_Mo_stage_171 : decode jM_Mo_stage.2.1 171 = .ok (.iadd, 1) := by decide +kernel
theorem d_Mo_stage_172 : decode jM_Mo_stage.2.1 172 = .ok (.putfield 171, 3) := by decide +kernel
theorem d_Mo_stage_175 : decode jM_Mo_stage.2.1 175 = .ok (.aload_n 0, 1) := by decide +kernel
theorem d_Mo_stage_176 : decode jM_Mo_stage.2.1 176 = .ok (.iload_n 1, 1) := by decide +kernel
theorem d_Mo_stage_177 : decode jM_Mo_stage.2.1 177 = .ok (.putfield 202, 3) := by decide +kernel
theorem d_Mo_stage_180 : decode jM_Mo_stage.2.1 180 = .ok (.aload_n 0, 1) := by decide +kernel
theorem d_Mo_stage_181 : decode jM_Mo_stage.2.1 181 = .ok (.iconst 0, 1) := by decide +kernel
theorem d_Mo_stage_182 : decode jM_Mo_stage.2.1 182 = .ok (.putfield 168, 3) := by decide +kernel
theorem d_Mo_stage_185 : decode jM_Mo_stage.2.1 185 = .ok (.aload_n 0, 1) := by decide +kernel
theorem d_Mo_stage_186 : decode jM_Mo_stage.2.1 186 = .ok (.getfield 128, 3) := by decide +kernel
theorem d_Mo_stage_189 : decode jM_Mo_stage.2.1 189 = .ok (.ireturn, 1) := by decide +kernel
theorem d_Mo_drop_0 : decode jM_Mo_drop.2.1 0 = .ok (.aload_n 0, 1) := by decide +kernel
theorem d_Mo_drop_1 : decode jM_Mo_drop.2.1 1 = .ok (.getfield 165, 3) := by decide +kernel
theorem d_Mo_drop_4 : decode jM_Mo_drop.2.1 4 = .ok (.ifCond .eq 6, 3) := by decide +kernel
theorem d_Mo_drop_7 : decode jM_Mo_drop.2.1 7 = .ok (.bipush (-4), 2) := by decide +kernel
theorem d_Mo_drop_9 : decode jM_Mo_drop.2.1 9 = .ok (.ireturn, 1) := by decide +kernel
theorem d_Mo_drop_10 : decode jM_Mo_drop.2.1 10 = .ok (.aload_n 0, 1) := by decide +kernel
theorem d_Mo_drop_11 : decode jM_Mo_drop.2.1 11 = .ok (.iconst 0, 1) := by decide +kernel
theorem d_Mo_drop_12 : decode jM_Mo_drop.2.1 12 = .ok (.putfield 168, 3) := by decide +kernel
theorem d_Mo_drop_15 : decode jM_Mo_drop.2.1 15 = .ok (.aload_n 0, 1) := by decide +kernel
theorem d_Mo_drop_16 : decode jM_Mo_drop.2.1 16 = .ok (.iconst 0, 1) := by decide +kernel
theorem d_Mo_drop_17 : decode jM_Mo_drop.2.1 17 = .ok (.putfield 171, 3) := by decide +kernel
theorem d_Mo_drop_20 : decode jM_Mo_drop.2.1 20 = .ok (.aload_n 0, 1) := by decide +kernel
theorem d_Mo_drop_21 : decode jM_Mo_drop.2.1 21 = .ok (.iconst 0, 1) := by decide +kernel
theorem d_Mo_drop_22 : decode jM_Mo_drop.2.1 22 = .ok (.putfield 174, 3) := by decide +kernel
theorem d_Mo_drop_25 : decode jM_Mo_drop.2.1 25 = .ok (.iconst 0, 1) := by decide +kernel
theorem d_Mo_drop_26 : decode jM_Mo_drop.2.1 26 = .ok (.ireturn, 1) := by decide +kernel
theorem d_Mo_records_0 : decode jM_Mo_records.2.1 0 = .ok (.aload_n 0, 1) := by decide +kernel
theorem d_Mo_records_1 : decode jM_Mo_records.2.1 1 = .ok (.getfield 165, 3) := by decide +kernel
theorem d_Mo_records_4 : decode jM_Mo_records.2.1 4 = .ok (.ifCond .ne 10, 3) := by decide +kernel
theorem d_Mo_records_7 : decode jM_Mo_records.2.1 7 = .ok (.iload_n 1, 1) := by decide +kernel
theorem d_Mo_records_8 : decode jM_Mo_records.2.1 8 = .ok (.invokestatic 193, 3) := by decide +kernel
theorem d_Mo_records_11 : decode jM_Mo_records.2.1 11 = .ok (.ifCond .eq 5, 3) := by decide +kernel
theorem d_Mo_records_14 : decode jM_Mo_records.2.1 14 = .ok (.iconst (-1), 1) := by decide +kernel
theorem d_Mo_records_15 : decode jM_Mo_records.2.1 15 = .ok (.ireturn, 1) := by decide +kernel
theorem d_Mo_records_16 : decode jM_Mo_records.2.1 16 = .ok (.iconst 0, 1) := by decide +kernel
theorem d_Mo_records_17 : decode jM_Mo_records.2.1 17 = .ok (.istore_n 2, 1) := by decide +kernel
theorem d_Mo_records_18 : decode jM_Mo_records.2.1 18 = .ok (.iconst 0, 1) := by decide +kernel
theorem d_Mo_records_19 : decode jM_Mo_records.2.1 19 = .ok (.istore_n 3, 1) := by decide +kernel
theorem d_Mo_records_20 : decode jM_Mo_records.2.1 20 = .ok (.iload_n 3, 1) := by decide +kernel
theorem d_Mo_records_21 : decode jM_Mo_records.2.1 21 = .ok (.aload_n 0, 1) := by decide +kernel
theorem d_Mo_records_22 : decode jM_Mo_records.2.1 22 = .ok (.getfield 48, 3) := by decide +kernel
theorem d_Mo_records_25 : decode jM_Mo_records.2.1 25 = .ok (.iconst 0, 1) := by decide +kernel
theorem d_Mo_records_26 : decode jM_Mo_records.2.1 26 = .ok (.iaload, 1) := by decide +kernel
theorem d_Mo_records_27 : decode jM_Mo_records.2.1 27 = .ok (.if_icmp .ge 30, 3) := by decide +kernel
theorem d_Mo_records_30 : decode jM_Mo_records.2.1 30 = .ok (.iload_n 2, 1) := by decide +kernel
theorem d_Mo_records_31 : decode jM_Mo_records.2.1 31 = .ok (.aload_n 0, 1) := by decide +kernel
theorem d_Mo_records_32 : decode jM_Mo_records.2.1 32 = .ok (.iload_n 3, 1) := by decide +kernel
theorem d_Mo_records_33 : decode jM_Mo_records.2.1 33 = .ok (.invokevirtual 231, 3) := by decide +kernel
theorem d_Mo_records_36 : decode jM_Mo_records.2.1 36 = .ok (.iload_n 1, 1) := by decide +kernel
theorem d_Mo_records_37 : decode jM_Mo_records.2.1 37 = .ok (.if_icmp .ne 11, 3) := by decide +kernel
theorem d_Mo_records_40 : decode jM_Mo_records.2.1 40 = .ok (.aload_n 0, 1) := by decide +kernel
theorem d_Mo_records_41 : decode jM_Mo_records.2.1 41 = .ok (.iload_n 3, 1) := by decide +kernel
theorem d_Mo_records_42 : decode jM_Mo_records.2.1 42 = .ok (.invokevirtual 237, 3) := by decide +kernel
theorem d_Mo_records_45 : decode jM_Mo_records.2.1 45 = .ok (.goto 4, 3) := by decide +kernel
theorem d_Mo_records_48 : decode jM_Mo_records.2.1 48 = .ok (.iconst 0, 1) := by decide +kernel
theorem d_Mo_records_49 : decode jM_Mo_records.2.1 49 = .ok (.iadd, 1) := by decide +kernel
theorem d_Mo_records_50 : decode jM_Mo_records.2.1 50 = .ok (.istore_n 2, 1) := by decide +kernel
theorem d_Mo_records_51 : decode jM_Mo_records.2.1 51 = .ok (.iinc 3 1, 3) := by decide +kernel
theorem d_Mo_records_54 : decode jM_Mo_records.2.1 54 = .ok (.goto (-34), 3) := by decide +kernel
theorem d_Mo_records_57 : decode jM_Mo_records.2.1 57 = .ok (.iload_n 2, 1) := by decide +kernel
theorem d_Mo_records_58 : decode jM_Mo_records.2.1 58 = .ok (.ireturn, 1) := by decide +kernel
theorem d_Mo_load_0 : decode jM_Mo_load.2.1 0 = .ok (.aload_n 0, 1) := by decide +kernel
theorem d_Mo_load_1 : decode jM_Mo_load.2.1 1 = .ok (.getfield 165, 3) := by decide +kernel
theorem d_Mo_load_4 : decode jM_Mo_load.2.1 4 = .ok (.ifCond .eq 6, 3) := by decide +kernel
theorem d_Mo_load_7 : decode jM_Mo_load.2.1 7 = .ok (.bipush (-4), 2) := by decide +kernel
theorem d_Mo_load_9 : decode jM_Mo_load.2.1 9 = .ok (.ireturn, 1) := by decide +kernel
theorem d_Mo_load_10 : decode jM_Mo_load.2.1 10 = .ok (.iload_n 1, 1) := by decide +kernel
theorem d_Mo_load_11 : decode jM_Mo_load.2.1 11 = .ok (.invokestatic 193, 3) := by decide +kernel
theorem d_Mo_load_14 : decode jM_Mo_load.2.1 14 = .ok (.ifCond .ne 22, 3) := by decide +kernel
theorem d_Mo_load_17 : decode jM_Mo_load.2.1 17 = .ok (.aload_n 0, 1) := by decide +kernel
theorem d_Mo_load_18 : decode jM_Mo_load.2.1 18 = .ok (.getfield 171, 3) := by decide +kernel
theorem d_Mo_load_21 : decode jM_Mo_load.2.1 21 = .ok (.ifCond .eq 15, 3) := by decide +kernel
theorem d_Mo_load_24 : decode jM_Mo_load.2.1 24 = .ok (.aload_n 0, 1) := by decide +kernel
theorem d_Mo_load_25 : decode jM_Mo_load.2.1 25 = .ok (.iload_n 1, 1) := by decide +kernel
theorem d_Mo_load_26 : decode jM_Mo_load.2.1 26 = .ok (.aload_n 0, 1) := by decide +kernel
theorem d_Mo_load_27 : decode jM_Mo_load.2.1 27 = .ok (.getfield 202, 3) := by decide +kernel
theorem d_Mo_load_30 : decode jM_Mo_load.2.1 30 = .ok (.invokevirtual 196, 3) := by decide +kernel
theorem d_Mo_load_33 : decode jM_Mo_load.2.1 33 = .ok (.ifCond .ne 5, 3) := by decide +kernel
theorem d_Mo_load_36 : decode jM_Mo_load.2.1 36 = .ok (.iconst (-1), 1) := by decide +kernel
theorem d_Mo_load_37 : decode jM_Mo_load.2.1 37 = .ok (.ireturn, 1) := by decide +kernel
theorem d_Mo_load_38 : decode jM_Mo_load.2.1 38 = .ok (.aload_n 0, 1) := by decide +kernel
theorem d_Mo_load_39 : decode jM_Mo_load.2.1 39 = .ok (.aload_n 0, 1) := by decide +kernel
theorem d_Mo_load_40 : decode jM_Mo_load.2.1 40 = .ok (.getfield 202, 3) := by decide +kernel
theorem d_Mo_load_43 : decode jM_Mo_load.2.1 43 = .ok (.aload_n 0, 1) := by decide +kernel
theorem d_Mo_load_44 : decode jM_Mo_load.2.1 44 = .ok (.getfield 171, 3) := by decide +kernel
theorem d_Mo_load_47 : decode jM_Mo_load.2.1 47 = .ok (.aload_n 0, 1) := by decide +kernel
theorem d_Mo_load_48 : decode jM_Mo_load.2.1 48 = .ok (.getfield 174, 3) := by decide +kernel
theorem d_Mo_load_51 : decode jM_Mo_load.2.1 51 = .ok (.invokevirtual 212, 3) := by decide +kernel
theorem d_Mo_load_54 : decode jM_Mo_load.2.1 54 = .ok (.iconst 0, 1) := by decide +kernel
theorem d_Mo_load_55 : decode jM_Mo_load.2.1 55 = .ok (.istore_n 2, 1) := by decide +kernel
theorem d_Mo_load_56 : decode jM_Mo_load.2.1 56 = .ok (.iload_n 2, 1) := by decide +kernel
theorem d_Mo_load_57 : decode jM_Mo_load.2.1 57 = .ok (.aload_n 0, 1) := by decide +kernel
theorem d_Mo_load_58 : decode jM_Mo_load.2.1 58 = .ok (.getfield 174, 3) := by decide +kernel
theorem d_Mo_load_61 : decode jM_Mo_load.2.1 61 = .ok (.if_icmp .ge 19, 3) := by decide +kernel
theorem d_Mo_load_64 : decode jM_Mo_load.2.1 64 = .ok (.aload_n 0, 1) := by decide +kernel
theorem d_Mo_load_65 : decode jM_Mo_load.2.1 65 = .ok (.aload_n 0, 1) := by decide +kernel
theorem d_Mo_load_66 : decode jM_Mo_load.2.1 66 = .ok (.getfield 54, 3) := by decide +kernel
theorem d_Mo_load_69 : decode jM_Mo_load.2.1 69 = .ok (.iload_n 2, 1) := by decide +kernel
theorem d_Mo_load_70 : decode jM_Mo_load.2.1 70 = .ok (.iaload, 1) := by decide +kernel
theorem d_Mo_load_71 : decode jM_Mo_load.2.1 71 = .ok (.invokevirtual 137, 3) := by decide +kernel
theorem d_Mo_load_74 : decode jM_Mo_load.2.1 74 = .ok (.iinc 2 1, 3) := by decide +kernel
theorem d_Mo_load_77 : decode jM_Mo_load.2.1 77 = .ok (.goto (-21), 3) := by decide +kernel
theorem d_Mo_load_80 : decode jM_Mo_load.2.1 80 = .ok (.aload_n 0, 1) := by decide +kernel
theorem d_Mo_load_81 : decode jM_Mo_load.2.1 81 = .ok (.invokevirtual 216, 3) := by decide +kernel
theorem d_Mo_load_84 : decode jM_Mo_load.2.1 84 = .ok (.aload_n 0, 1) := by decide +kernel
theorem d_Mo_load_85 : decode jM_Mo_load.2.1 85 = .ok (.getfield 128, 3) := by decide +kernel
theorem d_Mo_load_88 : decode jM_Mo_load.2.1 88 = .ok (.bipush 31, 2) := by decide +kernel
theorem d_Mo_load_90 : decode jM_Mo_load.2.1 90 = .ok (.iadd, 1) := by decide +kernel
theorem d_Mo_load_91 : decode jM_Mo_load.2.1 91 = .ok (.bipush 32, 2) := by decide +kernel
theorem d_Mo_load_93 : decode jM_Mo_load.2.1 93 = .ok (.idiv, 1) := by decide +kernel
theorem d_Mo_load_94 : decode jM_Mo_load.2.1 94 = .ok (.istore_n 2, 1) := by decide +kernel
theorem d_Mo_load_95 : decode jM_Mo_load.2.1 95 = .ok (.aload_n 0, 1) := by decide +kernel
theorem d_Mo_load_96 : decode jM_Mo_load.2.1 96 = .ok (.iload_n 2, 1) := by decide +kernel
theorem d_Mo_load_97 : decode jM_Mo_load.2.1 97 = .ok (.invokevirtual 219, 3) := by decide +kernel
theorem d_Mo_load_100 : decode jM_Mo_load.2.1 100 = .ok (.istore_n 3, 1) := by decide +kernel
theorem d_Mo_load_101 : decode jM_Mo_load.2.1 101 = .ok (.aload_n 0, 1) := by decide +kernel
theorem d_Mo_load_102 : decode jM_Mo_load.2.1 102 = .ok (.getfield 48, 3) := by decide +kernel
theorem d_Mo_load_105 : decode jM_Mo_load.2.1 105 = .ok (.iconst 0, 1) := by decide +kernel
theorem d_Mo_load_106 : decode jM_Mo_load.2.1 106 = .ok (.iaload, 1) := by decide +kernel
theorem d_Mo_load_107 : decode jM_Mo_load.2.1 107 = .ok (.bipush 9, 2) := by decide +kernel
theorem d_Mo_load_109 : decode jM_Mo_load.2.1 109 = .ok (.if_icmp .eq 7, 3) := by decide +kernel
theorem d_Mo_load_112 : decode jM_Mo_load.2.1 112 = .ok (.iload_n 3, 1) := by decide +kernel
theorem d_Mo_load_113 : decode jM_Mo_load.2.1 113 = .ok (.ifCond .ge 6, 3) := by decide +kernel
theorem d_Mo_load_116 : decode jM_Mo_load.2.1 116 = .ok (.bipush (-3), 2) := by decide +kernel
theorem d_Mo_load_118 : decode jM_Mo_load.2.1 118 = .ok (.ireturn, 1) := by decide +kernel
theorem d_Mo_load_119 : decode jM_Mo_load.2.1 119 = .ok (.aload_n 0, 1) := by decide +kernel
theorem d_Mo_load_120 : decode jM_Mo_load.2.1 120 = .ok (.iload_n 3, 1) := by decide +kernel
theorem d_Mo_load_121 : decode jM_Mo_load.2.1 121 = .ok (.invokevirtual 222, 3) := by decide +kernel
theorem d_Mo_load_124 : decode jM_Mo_load.2.1 124 = .ok (.ifCond .ne 6, 3) := by decide +kernel
theorem d_Mo_load_127 : decode jM_Mo_load.2.1 127 = .ok (.bipush (-4), 2) := by decide +kernel
theorem d_Mo_load_129 : decode jM_Mo_load.2.1 129 = .ok (.ireturn, 1) := by decide +kernel
theorem d_Mo_load_130 : decode jM_Mo_load.2.1 130 = .ok (.aload_n 0, 1) := by decide +kernel
theorem d_Mo_load_131 : decode jM_Mo_load.2.1 131 = .ok (.invokevirtual 225, 3) := by decide +kernel
theorem d_Mo_load_134 : decode jM_Mo_load.2.1 134 = .ok (.iconst 1, 1) := by decide +kernel
theorem d_Mo_load_135 : decode jM_Mo_load.2.1 135 = .ok (.iconst 3, 1) := by decide +kernel
theorem d_Mo_load_136 : decode jM_Mo_load.2.1 136 = .ok (.aload_n 0, 1) := by decide +kernel
theorem d_Mo_load_137 : decode jM_Mo_load.2.1 137 = .ok (.getfield 63, 3) := by decide +kernel
theorem d_Mo_load_140 : decode jM_Mo_load.2.1 140 = .ok (.iconst 0, 1) := by decide +kernel
theorem d_Mo_load_141 : decode jM_Mo_load.2.1 141 = .ok (.iaload, 1) := by decide +kernel
theorem d_Mo_load_142 : decode jM_Mo_load.2.1 142 = .ok (.imul, 1) := by decide +kernel
theorem d_Mo_load_143 : decode jM_Mo_load.2.1 143 = .ok (.iadd, 1) := by decide +kernel
theorem d_Mo_load_144 : decode jM_Mo_load.2.1 144 = .ok (.istore 4, 2) := by decide +kernel
theorem d_Mo_load_146 : decode jM_Mo_load.2.1 146 = .ok (.aload_n 0, 1) := by decide +kernel
theorem d_Mo_load_147 : decode jM_Mo_load.2.1 147 = .ok (.getfield 63, 3) := by decide +kernel
theorem d_Mo_load_150 : decode jM_Mo_load.2.1 150 = .ok (.iload 4, 2) := by decide +kernel
theorem d_Mo_load_152 : decode jM_Mo_load.2.1 152 = .ok (.iload_n 1, 1) := by decide +kernel
theorem d_Mo_load_153 : decode jM_Mo_load.2.1 153 = .ok (.iastore, 1) := by decide +kernel
theorem d_Mo_load_154 : decode jM_Mo_load.2.1 154 = .ok (.aload_n 0, 1) := by decide +kernel
theorem d_Mo_load_155 : decode jM_Mo_load.2.1 155 = .ok (.getfield 63, 3) := by decide +kernel
theorem d_Mo_load_158 : decode jM_Mo_load.2.1 158 = .ok (.iload 4, 2) := by decide +kernel
theorem d_Mo_load_160 : decode jM_Mo_load.2.1 160 = .ok (.iconst 1, 1) := by decide +kernel
theorem d_Mo_load_161 : decode jM_Mo_load.2.1 161 = .ok (.iadd, 1) := by decide +kernel
theorem d_Mo_load_162 : decode jM_Mo_load.2.1 162 = .ok (.iload_n 3, 1) := by decide +kernel
theorem d_Mo_load_163 : decode jM_Mo_load.2.1 163 = .ok (.iastore, 1) := by decide +kernel
theorem d_Mo_load_164 : decode jM_Mo_load.2.1 164 = .ok (.aload_n 0, 1) := by decide +kernel
theorem d_Mo_load_165 : decode jM_Mo_load.2.1 165 = .ok (.getfield 63, 3) := by decide +kernel
theorem d_Mo_load_168 : decode jM_Mo_load.2.1 168 = .ok (.iload 4, 2) := by decide +kernel
theorem d_Mo_load_170 : decode jM_Mo_load.2.1 170 = .ok (.iconst 2, 1) := by decide +kernel
theorem d_Mo_load_171 : decode jM_Mo_load.2.1 171 = .ok (.iadd, 1) := by decide +kernel
theorem d_Mo_load_172 : decode jM_Mo_load.2.1 172 = .ok (.iload_n 2, 1) := by decide +kernel
theorem d_Mo_load_173 : decode jM_Mo_load.2.1 173 = .ok (.iastore, 1) := by decide +kernel
theorem d_Mo_load_174 : decode jM_Mo_load.2.1 174 = .ok (.aload_n 0, 1) := by decide +kernel
theorem d_Mo_load_175 : decode jM_Mo_load.2.1 175 = .ok (.getfield 63, 3) := by decide +kernel
theorem d_Mo_load_178 : decode jM_Mo_load.2.1 178 = .ok (.iconst 0, 1) := by decide +kernel
theorem d_Mo_load_179 : decode jM_Mo_load.2.1 179 = .ok (.dup2, 1) := by decide +kernel
theorem d_Mo_load_180 : decode jM_Mo_load.2.1 180 = .ok (.iaload, 1) := by decide +kernel
theorem d_Mo_load_181 : decode jM_Mo_load.2.1 181 = .ok (.iconst 1, 1) := by decide +kernel
theorem d_Mo_load_182 : decode jM_Mo_load.2.1 182 = .ok (.iadd, 1) := by decide +kernel
theorem d_Mo_load_183 : decode jM_Mo_load.2.1 183 = .ok (.iastore, 1) := by decide +kernel
theorem d_Mo_load_184 : decode jM_Mo_load.2.1 184 = .ok (.aload_n 0, 1) := by decide +kernel
theorem d_Mo_load_185 : decode jM_Mo_load.2.1 185 = .ok (.iconst 0, 1) := by decide +kernel
theorem d_Mo_load_186 : decode jM_Mo_load.2.1 186 = .ok (.invokevirtual 183, 3) := by decide +kernel
theorem d_Mo_load_189 : decode jM_Mo_load.2.1 189 = .ok (.ifCond .ne 6, 3) := by decide +kernel
theorem d_Mo_load_192 : decode jM_Mo_load.2.1 192 = .ok (.bipush (-4), 2) := by decide +kernel
theorem d_Mo_load_194 : decode jM_Mo_load.2.1 194 = .ok (.ireturn, 1) := by decide +kernel
theorem d_Mo_load_195 : decode jM_Mo_load.2.1 195 = .ok (.aload_n 0, 1) := by decide +kernel
theorem d_Mo_load_196 : decode jM_Mo_load.2.1 196 = .ok (.iconst 0, 1) := by decide +kernel
theorem d_Mo_load_197 : decode jM_Mo_load.2.1 197 = .ok (.putfield 171, 3) := by decide +kernel
theorem d_Mo_load_200 : decode jM_Mo_load.2.1 200 = .ok (.aload_n 0, 1) := by decide +kernel
theorem d_Mo_load_201 : decode jM_Mo_load.2.1 201 = .ok (.iconst 0, 1) := by decide +kernel
theorem d_Mo_load_202 : decode jM_Mo_load.2.1 202 = .ok (.putfield 174, 3) := by decide +kernel
theorem d_Mo_load_205 : decode jM_Mo_load.2.1 205 = .ok (.aload_n 0, 1) := by decide +kernel
theorem d_Mo_load_206 : decode jM_Mo_load.2.1 206 = .ok (.iload_n 1, 1) := by decide +kernel
theorem d_Mo_load_207 : decode jM_Mo_load.2.1 207 = .ok (.invokevirtual 228, 3) := by decide +kernel
theorem d_Mo_load_210 : decode jM_Mo_load.2.1 210 = .ok (.ireturn, 1) := by decide +kernel
theorem d_Mo_behind_0 : decode jM_Mo_behind.2.1 0 = .ok (.iload_n 1, 1) := by decide +kernel
theorem d_Mo_behind_1 : decode jM_Mo_behind.2.1 1 = .ok (.iconst 1, 1) := by decide +kernel
theorem d_Mo_behind_2 : decode jM_Mo_behind.2.1 2 = .ok (.iadd, 1) := by decide +kernel
theorem d_Mo_behind_3 : decode jM_Mo_behind.2.1 3 = .ok (.istore_n 2, 1) := by decide +kernel
theorem d_Mo_behind_4 : decode jM_Mo_behind.2.1 4 = .ok (.iload_n 2, 1) := by decide +kernel
theorem d_Mo_behind_5 : decode jM_Mo_behind.2.1 5 = .ok (.aload_n 0, 1) := by decide +kernel
theorem d_Mo_behind_6 : decode jM_Mo_behind.2.1 6 = .ok (.getfield 48, 3) := by decide +kernel
theorem d_Mo_behind_9 : decode jM_Mo_behind.2.1 9 = .ok (.iconst 0, 1) := by decide +kernel
theorem d_Mo_behind_10 : decode jM_Mo_behind.2.1 10 = .ok (.iaload, 1) := by decide +kernel
theorem d_Mo_behind_11 : decode jM_Mo_behind.2.1 11 = .ok (.if_icmp .ge 24, 3) := by decide +kernel
theorem d_Mo_behind_14 : decode jM_Mo_behind.2.1 14 = .ok (.aload_n 0, 1) := by decide +kernel
theorem d_Mo_behind_15 : decode jM_Mo_behind.2.1 15 = .ok (.iload_n 2, 1) := by decide +kernel
theorem d_Mo_behind_16 : decode jM_Mo_behind.2.1 16 = .ok (.invokevirtual 231, 3) := by decide +kernel
theorem d_Mo_behind_19 : decode jM_Mo_behind.2.1 19 = .ok (.aload_n 0, 1) := by decide +kernel
theorem d_Mo_behind_20 : decode jM_Mo_behind.2.1 20 = .ok (.iload_n 1, 1) := by decide +kernel
theorem d_Mo_behind_21 : decode jM_Mo_behind.2.1 21 = .ok (.invokevirtual 231, 3) := by decide +kernel
theorem d_Mo_behind_24 : decode jM_Mo_behind.2.1 24 = .ok (.if_icmp .ne 5, 3) := by decide +kernel
theorem d_Mo_behind_27 : decode jM_Mo_behind.2.1 27 = .ok (.iload_n 2, 1) := by decide +kernel
theorem d_Mo_behind_28 : decode jM_Mo_behind.2.1 28 = .ok (.ireturn, 1) := by decide +kernel
theorem d_Mo_behind_29 : decode jM_Mo_behind.2.1 29 = .ok (.iinc 2 1, 3) := by decide +kernel
theorem d_Mo_behind_32 : decode jM_Mo_behind.2.1 32 = .ok (.goto (-28), 3) := by decide +kernel
theorem d_Mo_behind_35 : decode jM_Mo_behind.2.1 35 = .ok (.iconst (-1), 1) := by decide +kernel
theorem d_Mo_behind_36 : decode jM_Mo_behind.2.1 36 = .ok (.ireturn, 1) := by decide +kernel
theorem d_Mo_joins_0 : decode jM_Mo_joins.2.1 0 = .ok (.iload_n 2, 1) := by decide +kernel
theorem d_Mo_joins_1 : decode jM_Mo_joins.2.1 1 = .ok (.ifCond .le 53, 3) := by decide +kernel
theorem d_Mo_joins_4 : decode jM_Mo_joins.2.1 4 = .ok (.aload_n 0, 1) := by decide +kernel
theorem d_Mo_joins_5 : decode jM_Mo_joins.2.1 5 = .ok (.iload_n 1, 1) := by decide +kernel
theorem d_Mo_joins_6 : decode jM_Mo_joins.2.1 6 = .ok (.invokevirtual 234, 3) := by decide +kernel
theorem d_Mo_joins_9 : decode jM_Mo_joins.2.1 9 = .ok (.aload_n 0, 1) := by decide +kernel
theorem d_Mo_joins_10 : decode jM_Mo_joins.2.1 10 = .ok (.iload_n 2, 1) := by decide +kernel
theorem d_Mo_joins_11 : decode jM_Mo_joins.2.1 11 = .ok (.invokevirtual 234, 3) := by decide +kernel
theorem d_Mo_joins_14 : decode jM_Mo_joins.2.1 14 = .ok (.if_icmp .ne 40, 3) := by decide +kernel
theorem d_Mo_joins_17 : decode jM_Mo_joins.2.1 17 = .ok (.aload_n 0, 1) := by decide +kernel
theorem d_Mo_joins_18 : decode jM_Mo_joins.2.1 18 = .ok (.iload_n 1, 1) := by decide +kernel
theorem d_Mo_joins_19 : decode jM_Mo_joins.2.1 19 = .ok (.invokevirtual 237, 3) := by decide +kernel
theorem d_Mo_joins_22 : decode jM_Mo_joins.2.1 22 = .ok (.aload_n 0, 1) := by decide +kernel
theorem d_Mo_joins_23 : decode jM_Mo_joins.2.1 23 = .ok (.iload_n 2, 1) := by decide +kernel
theorem d_Mo_joins_24 : decode jM_Mo_joins.2.1 24 = .ok (.invokevirtual 237, 3) := by decide +kernel
theorem d_Mo_joins_27 : decode jM_Mo_joins.2.1 27 = .ok (.iadd, 1) := by decide +kernel
theorem d_Mo_joins_28 : decode jM_Mo_joins.2.1 28 = .ok (.bipush 20, 2) := by decide +kernel
theorem d_Mo_joins_30 : decode jM_Mo_joins.2.1 30 = .ok (.if_icmp .gt 24, 3) := by decide +kernel
theorem d_Mo_joins_33 : decode jM_Mo_joins.2.1 33 = .ok (.aload_n 0, 1) := by decide +kernel
theorem d_Mo_joins_34 : decode jM_Mo_joins.2.1 34 = .ok (.iload_n 1, 1) := by decide +kernel
theorem d_Mo_joins_35 : decode jM_Mo_joins.2.1 35 = .ok (.invokevirtual 240, 3) := by decide +kernel
theorem d_Mo_joins_38 : decode jM_Mo_joins.2.1 38 = .ok (.aload_n 0, 1) := by decide +kernel
theorem d_Mo_joins_39 : decode jM_Mo_joins.2.1 39 = .ok (.iload_n 2, 1) := by decide +kernel
theorem d_Mo_joins_40 : decode jM_Mo_joins.2.1 40 = .ok (.invokevirtual 240, 3) := by decide +kernel
theorem d_Mo_joins_43 : decode jM_Mo_joins.2.1 43 = .ok (.iadd, 1) := by decide +kernel
theorem d_Mo_joins_44 : decode jM_Mo_joins.2.1 44 = .ok (.sipush 200, 3) := by decide +kernel
theorem d_Mo_joins_47 : decode jM_Mo_joins.2.1 47 = .ok (.if_icmp .gt 7, 3) := by decide +kernel
theorem d_Mo_joins_50 : decode jM_Mo_joins.2.1 50 = .ok (.iconst 1, 1) := by decide +kernel
theorem d_Mo_joins_51 : decode jM_Mo_joins.2.1 51 = .ok (.goto 4, 3) := by decide +kernel
theorem d_Mo_joins_54 : decode jM_Mo_joins.2.1 54 = .ok (.iconst 0, 1) := by decide +kernel
theorem d_Mo_joins_55 : decode jM_Mo_joins.2.1 55 = .ok (.ireturn, 1) := by decide +kernel
theorem d_Mo_compact_0 : decode jM_Mo_compact.2.1 0 = .ok (.aload_n 0, 1) := by decide +kernel
theorem d_Mo_compact_1 : decode jM_Mo_compact.2.1 1 = .ok (.getfield 165, 3) := by decide +kernel
theorem d_Mo_compact_4 : decode jM_Mo_compact.2.1 4 = .ok (.ifCond .eq 6, 3) := by decide +kernel
theorem d_Mo_compact_7 : decode jM_Mo_compact.2.1 7 = .ok (.bipush (-4), 2) := by decide +kernel
theorem d_Mo_compact_9 : decode jM_Mo_compact.2.1 9 = .ok (.ireturn, 1) := by decide +kernel
theorem d_Mo_compact_10 : decode jM_Mo_compact.2.1 10 = .ok (.iload_n 1, 1) := by decide +kernel
theorem d_Mo_compact_11 : decode jM_Mo_compact.2.1 11 = .ok (.invokestatic 193, 3) := by decide +kernel
theorem d_Mo_compact_14 : decode jM_Mo_compact.2.1 14 = .ok (.ifCond .eq 5, 3) := by decide +kernel
theorem d_Mo_compact_17 : decode jM_Mo_compact.2.1 17 = .ok (.iconst (-1), 1) := by decide +kernel
theorem d_Mo_compact_18 : decode jM_Mo_compact.2.1 18 = .ok (.ireturn, 1) := by decide +kernel
theorem d_Mo_compact_19 : decode jM_Mo_compact.2.1 19 = .ok (.iconst 0, 1) := by decide +kernel
theorem d_Mo_compact_20 : decode jM_Mo_compact.2.1 20 = .ok (.istore_n 2, 1) := by decide +kernel
theorem d_Mo_compact_21 : decode jM_Mo_compact.2.1 21 = .ok (.iload_n 2, 1) := by decide +kernel
theorem d_Mo_compact_22 : decode jM_Mo_compact.2.1 22 = .ok (.aload_n 0, 1) := by decide +kernel
theorem d_Mo_compact_23 : decode jM_Mo_compact.2.1 23 = .ok (.getfield 48, 3) := by decide +kernel
theorem d_Mo_compact_26 : decode jM_Mo_compact.2.1 26 = .ok (.iconst 0, 1) := by decide +kernel
theorem d_Mo_compact_27 : decode jM_Mo_compact.2.1 27 = .ok (.iaload, 1) := by decide +kernel
theorem d_Mo_compact_28 : decode jM_Mo_compact.2.1 28 = .ok (.if_icmp .ge 31, 3) := by decide +kernel
theorem d_Mo_compact_31 : decode jM_Mo_compact.2.1 31 = .ok (.aload_n 0, 1) := by decide +kernel
theorem d_Mo_compact_32 : decode jM_Mo_compact.2.1 32 = .ok (.iload_n 2, 1) := by decide +kernel
theorem d_Mo_compact_33 : decode jM_Mo_compact.2.1 33 = .ok (.invokevirtual 231, 3) := by decide +kernel
theorem d_Mo_compact_36 : decode jM_Mo_compact.2.1 36 = .ok (.iload_n 1, 1) := by decide +kernel
theorem d_Mo_compact_37 : decode jM_Mo_compact.2.1 37 = .ok (.if_icmp .ne 16, 3) := by decide +kernel
theorem d_Mo_compact_40 : decode jM_Mo_compact.2.1 40 = .ok (.aload_n 0, 1) := by decide +kernel
theorem d_Mo_compact_41 : decode jM_Mo_compact.2.1 41 = .ok (.iload_n 2, 1) := by decide +kernel
theorem d_Mo_compact_42 : decode jM_Mo_compact.2.1 42 = .ok (.aload_n 0, 1) := by decide +kernel
theorem d_Mo_compact_43 : decode jM_Mo_compact.2.1 43 = .ok (.iload_n 2, 1) := by decide +kernel
theorem d_Mo_compact_44 : decode jM_Mo_compact.2.1 44 = .ok (.invokevirtual 243, 3) := by decide +kernel
theorem d_Mo_compact_47 : decode jM_Mo_compact.2.1 47 = .ok (.invokevirtual 246, 3) := by decide +kernel
theorem d_Mo_compact_50 : decode jM_Mo_compact.2.1 50 = .ok (.ifCond .ne 9, 3) := by decide +kernel
theorem d_Mo_compact_53 : decode jM_Mo_compact.2.1 53 = .ok (.iinc 2 1, 3) := by decide +kernel
theorem d_Mo_compact_56 : decode jM_Mo_compact.2.1 56 = .ok (.goto (-35), 3) := by decide +kernel
theorem d_Mo_compact_59 : decode jM_Mo_compact.2.1 59 = .ok (.iload_n 2, 1) := by decide +kernel
theorem d_Mo_compact_60 : decode jM_Mo_compact.2.1 60 = .ok (.aload_n 0, 1) := by decide +kernel
theorem d_Mo_compact_61 : decode jM_Mo_compact.2.1 61 = .ok (.getfield 48, 3) := by decide +kernel
theorem d_Mo_compact_64 : decode jM_Mo_compact.2.1 64 = .ok (.iconst 0, 1) := by decide +kernel
theorem d_Mo_compact_65 : decode jM_Mo_compact.2.1 65 = .ok (.iaload, 1) := by decide +kernel
theorem d_Mo_compact_66 : decode jM_Mo_compact.2.1 66 = .ok (.if_icmp .ne 5, 3) := by decide +kernel
theorem d_Mo_compact_69 : decode jM_Mo_compact.2.1 69 = .ok (.iconst 0, 1) := by decide +kernel
theorem d_Mo_compact_70 : decode jM_Mo_compact.2.1 70 = .ok (.ireturn, 1) := by decide +kernel
theorem d_Mo_compact_71 : decode jM_Mo_compact.2.1 71 = .ok (.aload_n 0, 1) := by decide +kernel
theorem d_Mo_compact_72 : decode jM_Mo_compact.2.1 72 = .ok (.iload_n 2, 1) := by decide +kernel
theorem d_Mo_compact_73 : decode jM_Mo_compact.2.1 73 = .ok (.invokevirtual 243, 3) := by decide +kernel
theorem d_Mo_compact_76 : decode jM_Mo_compact.2.1 76 = .ok (.istore_n 3, 1) := by decide +kernel
theorem d_Mo_compact_77 : decode jM_Mo_compact.2.1 77 = .ok (.aload_n 0, 1) := by decide +kernel
theorem d_Mo_compact_78 : decode jM_Mo_compact.2.1 78 = .ok (.aload_n 0, 1) := by decide +kernel
theorem d_Mo_compact_79 : decode jM_Mo_compact.2.1 79 = .ok (.iload_n 2, 1) := by decide +kernel
theorem d_Mo_compact_80 : decode jM_Mo_compact.2.1 80 = .ok (.invokevirtual 234, 3) := by decide +kernel
theorem d_Mo_compact_83 : decode jM_Mo_compact.2.1 83 = .ok (.aload_n 0, 1) := by decide +kernel
theorem d_Mo_compact_84 : decode jM_Mo_compact.2.1 84 = .ok (.iload_n 2, 1) := by decide +kernel
theorem d_Mo_compact_85 : decode jM_Mo_compact.2.1 85 = .ok (.invokevirtual 237, 3) := by decide +kernel
theorem d_Mo_compact_88 : decode jM_Mo_compact.2.1 88 = .ok (.aload_n 0, 1) := by decide +kernel
theorem d_Mo_compact_89 : decode jM_Mo_compact.2.1 89 = .ok (.iload_n 3, 1) := by decide +kernel
theorem d_Mo_compact_90 : decode jM_Mo_compact.2.1 90 = .ok (.invokevirtual 237, 3) := by decide +kernel
theorem d_Mo_compact_93 : decode jM_Mo_compact.2.1 93 = .ok (.iadd, 1) := by decide +kernel
theorem d_Mo_compact_94 : decode jM_Mo_compact.2.1 94 = .ok (.aload_n 0, 1) := by decide +kernel
theorem d_Mo_compact_95 : decode jM_Mo_compact.2.1 95 = .ok (.iload_n 2, 1) := by decide +kernel
theorem d_Mo_compact_96 : decode jM_Mo_compact.2.1 96 = .ok (.invokevirtual 240, 3) := by decide +kernel
theorem d_Mo_compact_99 : decode jM_Mo_compact.2.1 99 = .ok (.aload_n 0, 1) := by decide +kernel
theorem d_Mo_compact_100 : decode jM_Mo_compact.2.1 100 = .ok (.iload_n 3, 1) := by decide +kernel
theorem d_Mo_compact_101 : decode jM_Mo_compact.2.1 101 = .ok (.invokevirtual 240, 3) := by decide +kernel
theorem d_Mo_compact_104 : decode jM_Mo_compact.2.1 104 = .ok (.iadd, 1) := by decide +kernel
theorem d_Mo_compact_105 : decode jM_Mo_compact.2.1 105 = .ok (.invokevirtual 212, 3) := by decide +kernel
theorem d_Mo_compact_108 : decode jM_Mo_compact.2.1 108 = .ok (.iconst 0, 1) := by decide +kernel
theorem d_Mo_compact_109 : decode jM_Mo_compact.2.1 109 = .ok (.istore 4, 2) := by decide +kernel
theorem d_Mo_compact_111 : decode jM_Mo_compact.2.1 111 = .ok (.iload 4, 2) := by decide +kernel
theorem d_Mo_compact_113 : decode jM_Mo_compact.2.1 113 = .ok (.aload_n 0, 1) := by decide +kernel
theorem d_Mo_compact_114 : decode jM_Mo_compact.2.1 114 = .ok (.iload_n 2, 1) := by decide +kernel
theorem d_Mo_compact_115 : decode jM_Mo_compact.2.1 115 = .ok (.invokevirtual 240, 3) := by decide +kernel
theorem d_Mo_compact_118 : decode jM_Mo_compact.2.1 118 = .ok (.if_icmp .ge 28, 3) := by decide +kernel
theorem d_Mo_compact_121 : decode jM_Mo_compact.2.1 121 = .ok (.aload_n 0, 1) := by decide +kernel
theorem d_Mo_compact_122 : decode jM_Mo_compact.2.1 122 = .ok (.aload_n 0, 1) := by decide +kernel
theorem d_Mo_compact_123 : decode jM_Mo_compact.2.1 123 = .ok (.getfield 48, 3) := by decide +kernel
theorem d_Mo_compact_126 : decode jM_Mo_compact.2.1 126 = .ok (.aload_n 0, 1) := by decide +kernel
theorem d_Mo_compact_127 : decode jM_Mo_compact.2.1 127 = .ok (.iload_n 2, 1) := by decide +kernel
theorem d_Mo_compact_128 : decode jM_Mo_compact.2.1 128 = .ok (.invokevirtual 186, 3) := by decide +kernel
theorem d_Mo_compact_131 : decode jM_Mo_compact.2.1 131 = .ok (.iconst 5, 1) := by decide +kernel
theorem d_Mo_compact_132 : decode jM_Mo_compact.2.1 132 = .ok (.iadd, 1) := by decide +kernel
theorem d_Mo_compact_133 : decode jM_Mo_compact.2.1 133 = .ok (.iload 4, 2) := by decide +kernel
theorem d_Mo_compact_135 : decode jM_Mo_compact.2.1 135 = .ok (.iadd, 1) := by decide +kernel
theorem d_Mo_compact_136 : decode jM_Mo_compact.2.1 136 = .ok (.iaload, 1) := by decide +kernel
theorem d_Mo_compact_137 : decode jM_Mo_compact.2.1 137 = .ok (.invokevirtual 137, 3) := by decide +kernel
theorem d_Mo_compact_140 : decode jM_Mo_compact.2.1 140 = .ok (.iinc 4 1, 3) := by decide +kernel
theorem d_Mo_compact_143 : decode jM_Mo_compact.2.1 143 = .ok (.goto (-32), 3) := by decide +kernel
theorem d_Mo_compact_146 : decode jM_Mo_compact.2.1 146 = .ok (.iconst 0, 1) := by decide +kernel
theorem d_Mo_compact_147 : decode jM_Mo_compact.2.1 147 = .ok (.istore 4, 2) := by decide +kernel
theorem d_Mo_compact_149 : decode jM_Mo_compact.2.1 149 = .ok (.iload 4, 2) := by decide +kernel
theorem d_Mo_compact_151 : decode jM_Mo_compact.2.1 151 = .ok (.aload_n 0, 1) := by decide +kernel
theorem d_Mo_compact_152 : decode jM_Mo_compact.2.1 152 = .ok (.iload_n 3, 1) := by decide +kernel
theorem d_Mo_compact_153 : decode jM_Mo_compact.2.1 153 = .ok (.invokevirtual 240, 3) := by decide +kernel
theorem d_Mo_compact_156 : decode jM_Mo_compact.2.1 156 = .ok (.if_icmp .ge 28, 3) := by decide +kernel
theorem d_Mo_compact_159 : decode jM_Mo_compact.2.1 159 = .ok (.aload_n 0, 1) := by decide +kernel
theorem d_Mo_compact_160 : decode jM_Mo_compact.2.1 160 = .ok (.aload_n 0, 1) := by decide +kernel
theorem d_Mo_compact_161 : decode jM_Mo_compact.2.1 161 = .ok (.getfield 48, 3) := by decide +kernel
theorem d_Mo_compact_164 : decode jM_Mo_compact.2.1 164 = .ok (.aload_n 0, 1) := by decide +kernel
theorem d_Mo_compact_165 : decode jM_Mo_compact.2.1 165 = .ok (.iload_n 3, 1) := by decide +kernel
theorem d_Mo_compact_166 : decode jM_Mo_compact.2.1 166 = .ok (.invokevirtual 186, 3) := by decide +kernel
theorem d_Mo_compact_169 : decode jM_Mo_compact.2.1 169 = .ok (.iconst 5, 1) := by decide +kernel
theorem d_Mo_compact_170 : decode jM_Mo_compact.2.1 170 = .ok (.iadd, 1) := by decide +kernel
theorem d_Mo_compact_171 : decode jM_Mo_compact.2.1 171 = .ok (.iload 4, 2) := by decide +kernel
theorem d_Mo_compact_173 : decode jM_Mo_compact.2.1 173 = .ok (.iadd, 1) := by decide +kernel
theorem d_Mo_compact_174 : decode jM_Mo_compact.2.1 174 = .ok (.iaload, 1) := by decide +kernel
theorem d_Mo_compact_175 : decode jM_Mo_compact.2.1 175 = .ok (.invokevirtual 137, 3) := by decide +kernel
theorem d_Mo_compact_178 : decode jM_Mo_compact.2.1 178 = .ok (.iinc 4 1, 3) := by decide +kernel
theorem d_Mo_compact_181 : decode jM_Mo_compact.2.1 181 = .ok (.goto (-32), 3) := by decide +kernel
theorem d_Mo_compact_184 : decode jM_Mo_compact.2.1 184 = .ok (.aload_n 0, 1) := by decide +kernel
theorem d_Mo_compact_185 : decode jM_Mo_compact.2.1 185 = .ok (.invokevirtual 216, 3) := by decide +kernel
theorem d_Mo_compact_188 : decode jM_Mo_compact.2.1 188 = .ok (.aload_n 0, 1) := by decide +kernel
theorem d_Mo_compact_189 : decode jM_Mo_compact.2.1 189 = .ok (.getfield 128, 3) := by decide +kernel
theorem d_Mo_compact_192 : decode jM_Mo_compact.2.1 192 = .ok (.bipush 31, 2) := by decide +kernel
theorem d_Mo_compact_194 : decode jM_Mo_compact.2.1 194 = .ok (.iadd, 1) := by decide +kernel
theorem d_Mo_compact_195 : decode jM_Mo_compact.2.1 195 = .ok (.bipush 32, 2) := by decide +kernel
theorem d_Mo_compact_197 : decode jM_Mo_compact.2.1 197 = .ok (.idiv, 1) := by decide +kernel
theorem d_Mo_compact_198 : decode jM_Mo_compact.2.1 198 = .ok (.istore 4, 2) := by decide +kernel
theorem d_Mo_compact_200 : decode jM_Mo_compact.2.1 200 = .ok (.aload_n 0, 1) := by decide +kernel
theorem d_Mo_compact_201 : decode jM_Mo_compact.2.1 201 = .ok (.iload 4, 2) := by decide +kernel
theorem d_Mo_compact_203 : decode jM_Mo_compact.2.1 203 = .ok (.invokevirtual 219, 3) := by decide +kernel
theorem d_Mo_compact_206 : decode jM_Mo_compact.2.1 206 = .ok (.istore 5, 2) := by decide +kernel
theorem d_Mo_compact_208 : decode jM_Mo_compact.2.1 208 = .ok (.iload 5, 2) := by decide +kernel
theorem d_Mo_compact_210 : decode jM_Mo_compact.2.1 210 = .ok (.ifCond .ge 6, 3) := by decide +kernel
theorem d_Mo_compact_213 : decode jM_Mo_compact.2.1 213 = .ok (.bipush (-3), 2) := by decide +kernel
theorem d_Mo_compact_215 : decode jM_Mo_compact.2.1 215 = .ok (.ireturn, 1) := by decide +kernel
theorem d_Mo_compact_216 : decode jM_Mo_compact.2.1 216 = .ok (.aload_n 0, 1) := by decide +kernel
theorem d_Mo_compact_217 : decode jM_Mo_compact.2.1 217 = .ok (.iload 5, 2) := by decide +kernel
theorem d_Mo_compact_219 : decode jM_Mo_compact.2.1 219 = .ok (.invokevirtual 222, 3) := by decide +kernel
theorem d_Mo_compact_222 : decode jM_Mo_compact.2.1 222 = .ok (.ifCond .ne 6, 3) := by decide +kernel
theorem d_Mo_compact_225 : decode jM_Mo_compact.2.1 225 = .ok (.bipush (-4), 2) := by decide +kernel
theorem d_Mo_compact_227 : decode jM_Mo_compact.2.1 227 = .ok (.ireturn, 1) := by decide +kernel
theorem d_Mo_compact_228 : decode jM_Mo_compact.2.1 228 = .ok (.aload_n 0, 1) := by decide +kernel
theorem d_Mo_compact_229 : decode jM_Mo_compact.2.1 229 = .ok (.invokevirtual 225, 3) := by decide +kernel
theorem d_Mo_compact_232 : decode jM_Mo_compact.2.1 232 = .ok (.aload_n 0, 1) := by decide +kernel
theorem d_Mo_compact_233 : decode jM_Mo_compact.2.1 233 = .ok (.getfield 63, 3) := by decide +kernel
theorem d_Mo_compact_236 : decode jM_Mo_compact.2.1 236 = .ok (.iconst 2, 1) := by decide +kernel
theorem d_Mo_compact_237 : decode jM_Mo_compact.2.1 237 = .ok (.iconst 3, 1) := by decide +kernel
theorem d_Mo_compact_238 : decode jM_Mo_compact.2.1 238 = .ok (.iload_n 2, 1) := by decide +kernel
theorem d_Mo_compact_239 : decode jM_Mo_compact.2.1 239 = .ok (.imul, 1) := by decide +kernel
theorem d_Mo_compact_240 : decode jM_Mo_compact.2.1 240 = .ok (.iadd, 1) := by decide +kernel
theorem d_Mo_compact_241 : decode jM_Mo_compact.2.1 241 = .ok (.iload 5, 2) := by decide +kernel
theorem d_Mo_compact_243 : decode jM_Mo_compact.2.1 243 = .ok (.iastore, 1) := by decide +kernel
theorem d_Mo_compact_244 : decode jM_Mo_compact.2.1 244 = .ok (.aload_n 0, 1) := by decide +kernel
theorem d_Mo_compact_245 : decode jM_Mo_compact.2.1 245 = .ok (.getfield 63, 3) := by decide +kernel
theorem d_Mo_compact_248 : decode jM_Mo_compact.2.1 248 = .ok (.iconst 3, 1) := by decide +kernel
theorem d_Mo_compact_249 : decode jM_Mo_compact.2.1 249 = .ok (.iconst 3, 1) := by decide +kernel
theorem d_Mo_compact_250 : decode jM_Mo_compact.2.1 250 = .ok (.iload_n 2, 1) := by decide +kernel
theorem d_Mo_compact_251 : decode jM_Mo_compact.2.1 251 = .ok (.imul, 1) := by decide +kernel
theorem d_Mo_compact_252 : decode jM_Mo_compact.2.1 252 = .ok (.iadd, 1) := by decide +kernel
theorem d_Mo_compact_253 : decode jM_Mo_compact.2.1 253 = .ok (.iload 4, 2) := by decide +kernel
theorem d_Mo_compact_255 : decode jM_Mo_compact.2.1 255 = .ok (.iastore, 1) := by decide +kernel
theorem d_Mo_compact_256 : decode jM_Mo_compact.2.1 256 = .ok (.iconst 1, 1) := by decide +kernel
theorem d_Mo_compact_257 : decode jM_Mo_compact.2.1 257 = .ok (.iconst 3, 1) := by decide +kernel
theorem d_Mo_compact_258 : decode jM_Mo_compact.2.1 258 = .ok (.iload_n 3, 1) := by decide +kernel
theorem d_Mo_compact_259 : decode jM_Mo_compact.2.1 259 = .ok (.imul, 1) := by decide +kernel
theorem d_Mo_compact_260 : decode jM_Mo_compact.2.1 260 = .ok (.iadd, 1) := by decide +kernel
theorem d_Mo_compact_261 : decode jM_Mo_compact.2.1 261 = .ok (.istore 6, 2) := by decide +kernel
theorem d_Mo_compact_263 : decode jM_Mo_compact.2.1 263 = .ok (.iload 6, 2) := by decide +kernel
theorem d_Mo_compact_265 : decode jM_Mo_compact.2.1 265 = .ok (.bipush 29, 2) := by decide +kernel
theorem d_Mo_compact_267 : decode jM_Mo_compact.2.1 267 = .ok (.if_icmp .ge 38, 3) := by decide +kernel
theorem d_Mo_compact_270 : decode jM_Mo_compact.2.1 270 = .ok (.aload_n 0, 1) := by decide +kernel
theorem d_Mo_compact_271 : decode jM_Mo_compact.2.1 271 = .ok (.getfield 63, 3) := by decide +kernel
theorem d_Mo_compact_274 : decode jM_Mo_compact.2.1 274 = .ok (.iload 6, 2) := by decide +kernel
theorem d_Mo_compact_276 : decode jM_Mo_compact.2.1 276 = .ok (.iload 6, 2) := by decide +kernel
theorem d_Mo_compact_278 : decode jM_Mo_compact.2.1 278 = .ok (.iconst 3, 1) := by decide +kernel
theorem d_Mo_compact_279 : decode jM_Mo_compact.2.1 279 = .ok (.iadd, 1) := by decide +kernel
theorem d_Mo_compact_280 : decode jM_Mo_compact.2.1 280 = .ok (.bipush 29, 2) := by decide +kernel
theorem d_Mo_compact_282 : decode jM_Mo_compact.2.1 282 = .ok (.if_icmp .ge 15, 3) := by decide +kernel
theorem d_Mo_compact_285 : decode jM_Mo_compact.2.1 285 = .ok (.aload_n 0, 1) := by decide +kernel
theorem d_Mo_compact_286 : decode jM_Mo_compact.2.1 286 = .ok (.getfield 63, 3) := by decide +kernel
theorem d_Mo_compact_289 : decode jM_Mo_compact.2.1 289 = .ok (.iload 6, 2) := by decide +kernel
theorem d_Mo_compact_291 : decode jM_Mo_compact.2.1 291 = .ok (.iconst 3, 1) := by decide +kernel
theorem d_Mo_compact_292 : decode jM_Mo_compact.2.1 292 = .ok (.iadd, 1) := by decide +kernel
theorem d_Mo_compact_293 : decode jM_Mo_compact.2.1 293 = .ok (.iaload, 1) := by decide +kernel
theorem d_Mo_compact_294 : decode jM_Mo_compact.2.1 294 = .ok (.goto 4, 3) := by decide +kernel
theorem d_Mo_compact_297 : decode jM_Mo_compact.2.1 297 = .ok (.iconst 0, 1) := by decide +kernel
theorem d_Mo_compact_298 : decode jM_Mo_compact.2.1 298 = .ok (.iastore, 1) := by decide +kernel
theorem d_Mo_compact_299 : decode jM_Mo_compact.2.1 299 = .ok (.iinc 6 1, 3) := by decide +kernel
theorem d_Mo_compact_302 : decode jM_Mo_compact.2.1 302 = .ok (.goto (-39), 3) := by decide +kernel
theorem d_Mo_compact_305 : decode jM_Mo_compact.2.1 305 = .ok (.aload_n 0, 1) := by decide +kernel
theorem d_Mo_compact_306 : decode jM_Mo_compact.2.1 306 = .ok (.getfield 63, 3) := by decide +kernel
theorem d_Mo_compact_309 : decode jM_Mo_compact.2.1 309 = .ok (.iconst 0, 1) := by decide +kernel
theorem d_Mo_compact_310 : decode jM_Mo_compact.2.1 310 = .ok (.dup2, 1) := by decide +kernel
theorem d_Mo_compact_311 : decode jM_Mo_compact.2.1 311 = .ok (.iaload, 1) := by decide +kernel
theorem d_Mo_compact_312 : decode jM_Mo_compact.2.1 312 = .ok (.iconst 1, 1) := by decide +kernel
theorem d_Mo_compact_313 : decode jM_Mo_compact.2.1 313 = .ok (.isub, 1) := by decide +kernel
theorem d_Mo_compact_314 : decode jM_Mo_compact.2.1 314 = .ok (.iastore, 1) := by decide +kernel
theorem d_Mo_compact_315 : decode jM_Mo_compact.2.1 315 = .ok (.aload_n 0, 1) := by decide +kernel
theorem d_Mo_compact_316 : decode jM_Mo_compact.2.1 316 = .ok (.iconst 0, 1) := by decide +kernel
theorem d_Mo_compact_317 : decode jM_Mo_compact.2.1 317 = .ok (.invokevirtual 183, 3) := by decide +kernel
theorem d_Mo_compact_320 : decode jM_Mo_compact.2.1 320 = .ok (.ifCond .eq 7, 3) := by decide +kernel
theorem d_Mo_compact_323 : decode jM_Mo_compact.2.1 323 = .ok (.iconst 1, 1) := by decide +kernel
theorem d_Mo_compact_324 : decode jM_Mo_compact.2.1 324 = .ok (.goto 5, 3) := by decide +kernel
theorem d_Mo_compact_327 : decode jM_Mo_compact.2.1 327 = .ok (.bipush (-4), 2) := by decide +kernel
theorem d_Mo_compact_329 : decode jM_Mo_compact.2.1 329 = .ok (.ireturn, 1) := by decide +kernel
theorem d_Mo_files_0 : decode jM_Mo_files.2.1 0 = .ok (.aload_n 0, 1) := by decide +kernel
theorem d_Mo_files_1 : decode jM_Mo_files.2.1 1 = .ok (.getfield 165, 3) := by decide +kernel
theorem d_Mo_files_4 : decode jM_Mo_files.2.1 4 = .ok (.ifCond .ne 10, 3) := by decide +kernel
theorem d_Mo_files_7 : decode jM_Mo_files.2.1 7 = .ok (.iload_n 1, 1) := by decide +kernel
theorem d_Mo_files_8 : decode jM_Mo_files.2.1 8 = .ok (.invokestatic 193, 3) := by decide +kernel
theorem d_Mo_files_11 : decode jM_Mo_files.2.1 11 = .ok (.ifCond .eq 5, 3) := by decide +kernel
theorem d_Mo_files_14 : decode jM_Mo_files.2.1 14 = .ok (.iconst (-1), 1) := by decide +kernel
theorem d_Mo_files_15 : decode jM_Mo_files.2.1 15 = .ok (.ireturn, 1) := by decide +kernel
theorem d_Mo_files_16 : decode jM_Mo_files.2.1 16 = .ok (.iconst 0, 1) := by decide +kernel
theorem d_Mo_files_17 : decode jM_Mo_files.2.1 17 = .ok (.istore_n 2, 1) := by decide +kernel
theorem d_Mo_files_18 : decode jM_Mo_files.2.1 18 = .ok (.iconst 0, 1) := by decide +kernel
theorem d_Mo_files_19 : decode jM_Mo_files.2.1 19 = .ok (.istore_n 3, 1) := by decide +kernel
theorem d_Mo_files_20 : decode jM_Mo_files.2.1 20 = .ok (.iload_n 3, 1) := by decide +kernel
theorem d_Mo_files_21 : decode jM_Mo_files.2.1 21 = .ok (.aload_n 0, 1) := by decide +kernel
theorem d_Mo_files_22 : decode jM_Mo_files.2.1 22 = .ok (.getfield 48, 3) := by decide +kernel
