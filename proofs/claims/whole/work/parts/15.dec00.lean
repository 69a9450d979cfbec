theorem d_Disk_init_0 : decode jM_Disk_init.2.1 0 = .ok (.aload_n 0, 1) := by decide +kernel
theorem d_Disk_init_1 : decode jM_Disk_init.2.1 1 = .ok (.invokespecial 1, 3) := by decide +kernel
theorem d_Disk_init_4 : decode jM_Disk_init.2.1 4 = .ok (.aload_n 0, 1) := by decide +kernel
theorem d_Disk_init_5 : decode jM_Disk_init.2.1 5 = .ok (.sipush 1280, 3) := by decide +kernel
theorem d_Disk_init_8 : decode jM_Disk_init.2.1 8 = .ok (.newarray .int, 2) := by decide +kernel
theorem d_Disk_init_10 : decode jM_Disk_init.2.1 10 = .ok (.putfield 9, 3) := by decide +kernel
theorem d_Disk_init_13 : decode jM_Disk_init.2.1 13 = .ok (.aload_n 0, 1) := by decide +kernel
theorem d_Disk_init_14 : decode jM_Disk_init.2.1 14 = .ok (.iconst 1, 1) := by decide +kernel
theorem d_Disk_init_15 : decode jM_Disk_init.2.1 15 = .ok (.putfield 13, 3) := by decide +kernel
theorem d_Disk_init_18 : decode jM_Disk_init.2.1 18 = .ok (.aload_n 0, 1) := by decide +kernel
theorem d_Disk_init_19 : decode jM_Disk_init.2.1 19 = .ok (.iconst (-1), 1) := by decide +kernel
theorem d_Disk_init_20 : decode jM_Disk_init.2.1 20 = .ok (.putfield 17, 3) := by decide +kernel
theorem d_Disk_init_23 : decode jM_Disk_init.2.1 23 = .ok (.aload_n 0, 1) := by decide +kernel
theorem d_Disk_init_24 : decode jM_Disk_init.2.1 24 = .ok (.iconst 0, 1) := by decide +kernel
theorem d_Disk_init_25 : decode jM_Disk_init.2.1 25 = .ok (.putfield 21, 3) := by decide +kernel
theorem d_Disk_init_28 : decode jM_Disk_init.2.1 28 = .ok (.return_, 1) := by decide +kernel
theorem d_Bytes_init_0 : decode jM_Bytes_init.2.1 0 = .ok (.aload_n 0, 1) := by decide +kernel
theorem d_Bytes_init_1 : decode jM_Bytes_init.2.1 1 = .ok (.invokespecial 1, 3) := by decide +kernel
theorem d_Bytes_init_4 : decode jM_Bytes_init.2.1 4 = .ok (.aload_n 0, 1) := by decide +kernel
theorem d_Bytes_init_5 : decode jM_Bytes_init.2.1 5 = .ok (.iload_n 1, 1) := by decide +kernel
theorem d_Bytes_init_6 : decode jM_Bytes_init.2.1 6 = .ok (.newarray .int, 2) := by decide +kernel
theorem d_Bytes_init_8 : decode jM_Bytes_init.2.1 8 = .ok (.putfield 7, 3) := by decide +kernel
theorem d_Bytes_init_11 : decode jM_Bytes_init.2.1 11 = .ok (.aload_n 0, 1) := by decide +kernel
theorem d_Bytes_init_12 : decode jM_Bytes_init.2.1 12 = .ok (.iconst 0, 1) := by decide +kernel
theorem d_Bytes_init_13 : decode jM_Bytes_init.2.1 13 = .ok (.putfield 13, 3) := by decide +kernel
theorem d_Bytes_init_16 : decode jM_Bytes_init.2.1 16 = .ok (.return_, 1) := by decide +kernel
theorem d_Manifest_init_0 : decode jM_Manifest_init.2.1 0 = .ok (.aload_n 0, 1) := by decide +kernel
theorem d_Manifest_init_1 : decode jM_Manifest_init.2.1 1 = .ok (.invokespecial 3, 3) := by decide +kernel
theorem d_Manifest_init_4 : decode jM_Manifest_init.2.1 4 = .ok (.aload_n 0, 1) := by decide +kernel
theorem d_Manifest_init_5 : decode jM_Manifest_init.2.1 5 = .ok (.aload_n 1, 1) := by decide +kernel
theorem d_Manifest_init_6 : decode jM_Manifest_init.2.1 6 = .ok (.putfield 9, 3) := by decide +kernel
theorem d_Manifest_init_9 : decode jM_Manifest_init.2.1 9 = .ok (.aload_n 0, 1) := by decide +kernel
theorem d_Manifest_init_10 : decode jM_Manifest_init.2.1 10 = .ok (.new 15, 3) := by decide +kernel
theorem d_Manifest_init_13 : decode jM_Manifest_init.2.1 13 = .ok (.dup, 1) := by decide +kernel
theorem d_Manifest_init_14 : decode jM_Manifest_init.2.1 14 = .ok (.sipush 206, 3) := by decide +kernel
theorem d_Manifest_init_17 : decode jM_Manifest_init.2.1 17 = .ok (.invokespecial 17, 3) := by decide +kernel
theorem d_Manifest_init_20 : decode jM_Manifest_init.2.1 20 = .ok (.putfield 20, 3) := by decide +kernel
theorem d_Manifest_init_23 : decode jM_Manifest_init.2.1 23 = .ok (.aload_n 0, 1) := by decide +kernel
theorem d_Manifest_init_24 : decode jM_Manifest_init.2.1 24 = .ok (.new 15, 3) := by decide +kernel
theorem d_Manifest_init_27 : decode jM_Manifest_init.2.1 27 = .ok (.dup, 1) := by decide +kernel
theorem d_Manifest_init_28 : decode jM_Manifest_init.2.1 28 = .ok (.bipush 32, 2) := by decide +kernel
theorem d_Manifest_init_30 : decode jM_Manifest_init.2.1 30 = .ok (.invokespecial 17, 3) := by decide +kernel
theorem d_Manifest_init_33 : decode jM_Manifest_init.2.1 33 = .ok (.putfield 26, 3) := by decide +kernel
theorem d_Manifest_init_36 : decode jM_Manifest_init.2.1 36 = .ok (.return_, 1) := by decide +kernel
theorem d_Registry_init_0 : decode jM_Registry_init.2.1 0 = .ok (.aload_n 0, 1) := by decide +kernel
theorem d_Registry_init_1 : decode jM_Registry_init.2.1 1 = .ok (.invokespecial 3, 3) := by decide +kernel
theorem d_Registry_init_4 : decode jM_Registry_init.2.1 4 = .ok (.aload_n 0, 1) := by decide +kernel
theorem d_Registry_init_5 : decode jM_Registry_init.2.1 5 = .ok (.aload_n 1, 1) := by decide +kernel
theorem d_Registry_init_6 : decode jM_Registry_init.2.1 6 = .ok (.putfield 9, 3) := by decide +kernel
theorem d_Registry_init_9 : decode jM_Registry_init.2.1 9 = .ok (.aload_n 0, 1) := by decide +kernel
theorem d_Registry_init_10 : decode jM_Registry_init.2.1 10 = .ok (.new 15, 3) := by decide +kernel
theorem d_Registry_init_13 : decode jM_Registry_init.2.1 13 = .ok (.dup, 1) := by decide +kernel
theorem d_Registry_init_14 : decode jM_Registry_init.2.1 14 = .ok (.bipush 32, 2) := by decide +kernel
theorem d_Registry_init_16 : decode jM_Registry_init.2.1 16 = .ok (.invokespecial 19, 3) := by decide +kernel
theorem d_Registry_init_19 : decode jM_Registry_init.2.1 19 = .ok (.putfield 22, 3) := by decide +kernel
theorem d_Registry_init_22 : decode jM_Registry_init.2.1 22 = .ok (.return_, 1) := by decide +kernel
theorem d_Row_init_0 : decode jM_Row_init.2.1 0 = .ok (.aload_n 0, 1) := by decide +kernel
theorem d_Row_init_1 : decode jM_Row_init.2.1 1 = .ok (.invokespecial 1, 3) := by decide +kernel
theorem d_Row_init_4 : decode jM_Row_init.2.1 4 = .ok (.aload_n 0, 1) := by decide +kernel
theorem d_Row_init_5 : decode jM_Row_init.2.1 5 = .ok (.iload_n 1, 1) := by decide +kernel
theorem d_Row_init_6 : decode jM_Row_init.2.1 6 = .ok (.newarray .long, 2) := by decide +kernel
theorem d_Row_init_8 : decode jM_Row_init.2.1 8 = .ok (.putfield 7, 3) := by decide +kernel
theorem d_Row_init_11 : decode jM_Row_init.2.1 11 = .ok (.aload_n 0, 1) := by decide +kernel
theorem d_Row_init_12 : decode jM_Row_init.2.1 12 = .ok (.iconst 0, 1) := by decide +kernel
theorem d_Row_init_13 : decode jM_Row_init.2.1 13 = .ok (.putfield 13, 3) := by decide +kernel
theorem d_Row_init_16 : decode jM_Row_init.2.1 16 = .ok (.return_, 1) := by decide +kernel
theorem d_Schemas_init_0 : decode jM_Schemas_init.2.1 0 = .ok (.aload_n 0, 1) := by decide +kernel
theorem d_Schemas_init_1 : decode jM_Schemas_init.2.1 1 = .ok (.invokespecial 3, 3) := by decide +kernel
theorem d_Schemas_init_4 : decode jM_Schemas_init.2.1 4 = .ok (.aload_n 0, 1) := by decide +kernel
theorem d_Schemas_init_5 : decode jM_Schemas_init.2.1 5 = .ok (.bipush 24, 2) := by decide +kernel
theorem d_Schemas_init_7 : decode jM_Schemas_init.2.1 7 = .ok (.anewarray 11, 3) := by decide +kernel
theorem d_Schemas_init_10 : decode jM_Schemas_init.2.1 10 = .ok (.putfield 13, 3) := by decide +kernel
theorem d_Schemas_init_13 : decode jM_Schemas_init.2.1 13 = .ok (.aload_n 0, 1) := by decide +kernel
theorem d_Schemas_init_14 : decode jM_Schemas_init.2.1 14 = .ok (.iconst 3, 1) := by decide +kernel
theorem d_Schemas_init_15 : decode jM_Schemas_init.2.1 15 = .ok (.anewarray 17, 3) := by decide +kernel
theorem d_Schemas_init_18 : decode jM_Schemas_init.2.1 18 = .ok (.putfield 19, 3) := by decide +kernel
theorem d_Schemas_init_21 : decode jM_Schemas_init.2.1 21 = .ok (.aload_n 0, 1) := by decide +kernel
theorem d_Schemas_init_22 : decode jM_Schemas_init.2.1 22 = .ok (.iconst 0, 1) := by decide +kernel
theorem d_Schemas_init_23 : decode jM_Schemas_init.2.1 23 = .ok (.putfield 23, 3) := by decide +kernel
theorem d_Schemas_init_26 : decode jM_Schemas_init.2.1 26 = .ok (.aload_n 0, 1) := by decide +kernel
theorem d_Schemas_init_27 : decode jM_Schemas_init.2.1 27 = .ok (.iconst 0, 1) := by decide +kernel
theorem d_Schemas_init_28 : decode jM_Schemas_init.2.1 28 = .ok (.putfield 27, 3) := by decide +kernel
theorem d_Schemas_init_31 : decode jM_Schemas_init.2.1 31 = .ok (.return_, 1) := by decide +kernel
theorem d_Staging_init_0 : decode jM_Staging_init.2.1 0 = .ok (.aload_n 0, 1) := by decide +kernel
theorem d_Staging_init_1 : decode jM_Staging_init.2.1 1 = .ok (.invokespecial 3, 3) := by decide +kernel
theorem d_Staging_init_4 : decode jM_Staging_init.2.1 4 = .ok (.aload_n 0, 1) := by decide +kernel
theorem d_Staging_init_5 : decode jM_Staging_init.2.1 5 = .ok (.new 9, 3) := by decide +kernel
theorem d_Staging_init_8 : decode jM_Staging_init.2.1 8 = .ok (.dup, 1) := by decide +kernel
theorem d_Staging_init_9 : decode jM_Staging_init.2.1 9 = .ok (.sipush 390, 3) := by decide +kernel
theorem d_Staging_init_12 : decode jM_Staging_init.2.1 12 = .ok (.invokespecial 13, 3) := by decide +kernel
theorem d_Staging_init_15 : decode jM_Staging_init.2.1 15 = .ok (.putfield 16, 3) := by decide +kernel
theorem d_Staging_init_18 : decode jM_Staging_init.2.1 18 = .ok (.aload_n 0, 1) := by decide +kernel
theorem d_Staging_init_19 : decode jM_Staging_init.2.1 19 = .ok (.iconst (-1), 1) := by decide +kernel
theorem d_Staging_init_20 : decode jM_Staging_init.2.1 20 = .ok (.putfield 20, 3) := by decide +kernel
theorem d_Staging_init_23 : decode jM_Staging_init.2.1 23 = .ok (.aload_n 0, 1) := by decide +kernel
theorem d_Staging_init_24 : decode jM_Staging_init.2.1 24 = .ok (.iconst 0, 1) := by decide +kernel
theorem d_Staging_init_25 : decode jM_Staging_init.2.1 25 = .ok (.putfield 24, 3) := by decide +kernel
theorem d_Staging_init_28 : decode jM_Staging_init.2.1 28 = .ok (.return_, 1) := by decide +kernel
theorem d_ST_init_0 : decode jM_ST_init.2.1 0 = .ok (.aload_n 0, 1) := by decide +kernel
theorem d_ST_init_1 : decode jM_ST_init.2.1 1 = .ok (.invokespecial 1, 3) := by decide +kernel
theorem d_ST_init_4 : decode jM_ST_init.2.1 4 = .ok (.new 7, 3) := by decide +kernel
theorem d_ST_init_7 : decode jM_ST_init.2.1 7 = .ok (.dup, 1) := by decide +kernel
theorem d_ST_init_8 : decode jM_ST_init.2.1 8 = .ok (.invokespecial 9, 3) := by decide +kernel
theorem d_ST_init_11 : decode jM_ST_init.2.1 11 = .ok (.astore_n 1, 1) := by decide +kernel
theorem d_ST_init_12 : decode jM_ST_init.2.1 12 = .ok (.aload_n 0, 1) := by decide +kernel
theorem d_ST_init_13 : decode jM_ST_init.2.1 13 = .ok (.new 10, 3) := by decide +kernel
theorem d_ST_init_16 : decode jM_ST_init.2.1 16 = .ok (.dup, 1) := by decide +kernel
theorem d_ST_init_17 : decode jM_ST_init.2.1 17 = .ok (.invokespecial 12, 3) := by decide +kernel
theorem d_ST_init_20 : decode jM_ST_init.2.1 20 = .ok (.putfield 13, 3) := by decide +kernel
theorem d_ST_init_23 : decode jM_ST_init.2.1 23 = .ok (.aload_n 0, 1) := by decide +kernel
theorem d_ST_init_24 : decode jM_ST_init.2.1 24 = .ok (.aload_n 1, 1) := by decide +kernel
theorem d_ST_init_25 : decode jM_ST_init.2.1 25 = .ok (.putfield 19, 3) := by decide +kernel
theorem d_ST_init_28 : decode jM_ST_init.2.1 28 = .ok (.aload_n 0, 1) := by decide +kernel
theorem d_ST_init_29 : decode jM_ST_init.2.1 29 = .ok (.new 23, 3) := by decide +kernel
theorem d_ST_init_32 : decode jM_ST_init.2.1 32 = .ok (.dup, 1) := by decide +kernel
theorem d_ST_init_33 : decode jM_ST_init.2.1 33 = .ok (.aload_n 1, 1) := by decide +kernel
theorem d_ST_init_34 : decode jM_ST_init.2.1 34 = .ok (.invokespecial 25, 3) := by decide +kernel
theorem d_ST_init_37 : decode jM_ST_init.2.1 37 = .ok (.putfield 28, 3) := by decide +kernel
theorem d_ST_init_40 : decode jM_ST_init.2.1 40 = .ok (.aload_n 0, 1) := by decide +kernel
theorem d_ST_init_41 : decode jM_ST_init.2.1 41 = .ok (.new 32, 3) := by decide +kernel
theorem d_ST_init_44 : decode jM_ST_init.2.1 44 = .ok (.dup, 1) := by decide +kernel
theorem d_ST_init_45 : decode jM_ST_init.2.1 45 = .ok (.aload_n 1, 1) := by decide +kernel
theorem d_ST_init_46 : decode jM_ST_init.2.1 46 = .ok (.invokespecial 34, 3) := by decide +kernel
theorem d_ST_init_49 : decode jM_ST_init.2.1 49 = .ok (.putfield 35, 3) := by decide +kernel
theorem d_ST_init_52 : decode jM_ST_init.2.1 52 = .ok (.aload_n 0, 1) := by decide +kernel
theorem d_ST_init_53 : decode jM_ST_init.2.1 53 = .ok (.new 39, 3) := by decide +kernel
theorem d_ST_init_56 : decode jM_ST_init.2.1 56 = .ok (.dup, 1) := by decide +kernel
theorem d_ST_init_57 : decode jM_ST_init.2.1 57 = .ok (.invokespecial 41, 3) := by decide +kernel
theorem d_ST_init_60 : decode jM_ST_init.2.1 60 = .ok (.putfield 42, 3) := by decide +kernel
theorem d_ST_init_63 : decode jM_ST_init.2.1 63 = .ok (.aload_n 0, 1) := by decide +kernel
theorem d_ST_init_64 : decode jM_ST_init.2.1 64 = .ok (.new 46, 3) := by decide +kernel
theorem d_ST_init_67 : decode jM_ST_init.2.1 67 = .ok (.dup, 1) := by decide +kernel
theorem d_ST_init_68 : decode jM_ST_init.2.1 68 = .ok (.bipush 24, 2) := by decide +kernel
theorem d_ST_init_70 : decode jM_ST_init.2.1 70 = .ok (.invokespecial 48, 3) := by decide +kernel
theorem d_ST_init_73 : decode jM_ST_init.2.1 73 = .ok (.putfield 51, 3) := by decide +kernel
theorem d_ST_init_76 : decode jM_ST_init.2.1 76 = .ok (.aload_n 0, 1) := by decide +kernel
theorem d_ST_init_77 : decode jM_ST_init.2.1 77 = .ok (.new 46, 3) := by decide +kernel
theorem d_ST_init_80 : decode jM_ST_init.2.1 80 = .ok (.dup, 1) := by decide +kernel
theorem d_ST_init_81 : decode jM_ST_init.2.1 81 = .ok (.bipush 24, 2) := by decide +kernel
theorem d_ST_init_83 : decode jM_ST_init.2.1 83 = .ok (.invokespecial 48, 3) := by decide +kernel
theorem d_ST_init_86 : decode jM_ST_init.2.1 86 = .ok (.putfield 55, 3) := by decide +kernel
theorem d_ST_init_89 : decode jM_ST_init.2.1 89 = .ok (.aload_n 0, 1) := by decide +kernel
theorem d_ST_init_90 : decode jM_ST_init.2.1 90 = .ok (.new 46, 3) := by decide +kernel
theorem d_ST_init_93 : decode jM_ST_init.2.1 93 = .ok (.dup, 1) := by decide +kernel
theorem d_ST_init_94 : decode jM_ST_init.2.1 94 = .ok (.bipush 40, 2) := by decide +kernel
theorem d_ST_init_96 : decode jM_ST_init.2.1 96 = .ok (.invokespecial 48, 3) := by decide +kernel
theorem d_ST_init_99 : decode jM_ST_init.2.1 99 = .ok (.putfield 58, 3) := by decide +kernel
theorem d_ST_init_102 : decode jM_ST_init.2.1 102 = .ok (.return_, 1) := by decide +kernel
theorem d_Field_init_0 : decode jM_Field_init.2.1 0 = .ok (.aload_n 0, 1) := by decide +kernel
theorem d_Field_init_1 : decode jM_Field_init.2.1 1 = .ok (.invokespecial 1, 3) := by decide +kernel
theorem d_Field_init_4 : decode jM_Field_init.2.1 4 = .ok (.aload_n 0, 1) := by decide +kernel
theorem d_Field_init_5 : decode jM_Field_init.2.1 5 = .ok (.iload_n 1, 1) := by decide +kernel
theorem d_Field_init_6 : decode jM_Field_init.2.1 6 = .ok (.putfield 7, 3) := by decide +kernel
theorem d_Field_init_9 : decode jM_Field_init.2.1 9 = .ok (.aload_n 0, 1) := by decide +kernel
theorem d_Field_init_10 : decode jM_Field_init.2.1 10 = .ok (.aload_n 2, 1) := by decide +kernel
theorem d_Field_init_11 : decode jM_Field_init.2.1 11 = .ok (.putfield 13, 3) := by decide +kernel
theorem d_Field_init_14 : decode jM_Field_init.2.1 14 = .ok (.aload_n 0, 1) := by decide +kernel
theorem d_Field_init_15 : decode jM_Field_init.2.1 15 = .ok (.iload_n 3, 1) := by decide +kernel
theorem d_Field_init_16 : decode jM_Field_init.2.1 16 = .ok (.putfield 17, 3) := by decide +kernel
theorem d_Field_init_19 : decode jM_Field_init.2.1 19 = .ok (.aload_n 0, 1) := by decide +kernel
theorem d_Field_init_20 : decode jM_Field_init.2.1 20 = .ok (.lload 4, 2) := by decide +kernel
theorem d_Field_init_22 : decode jM_Field_init.2.1 22 = .ok (.putfield 21, 3) := by decide +kernel
theorem d_Field_init_25 : decode jM_Field_init.2.1 25 = .ok (.return_, 1) := by decide +kernel
theorem d_Schema_isName_0 : decode jM_Schema_isName.2.1 0 = .ok (.lload_n 0, 1) := by decide +kernel
theorem d_Schema_isName_1 : decode jM_Schema_isName.2.1 1 = .ok (.lconst 0, 1) := by decide +kernel
theorem d_Schema_isName_2 : decode jM_Schema_isName.2.1 2 = .ok (.lcmp, 1) := by decide +kernel
theorem d_Schema_isName_3 : decode jM_Schema_isName.2.1 3 = .ok (.ifCond .lt 15, 3) := by decide +kernel
theorem d_Schema_isName_6 : decode jM_Schema_isName.2.1 6 = .ok (.lload_n 0, 1) := by decide +kernel
theorem d_Schema_isName_7 : decode jM_Schema_isName.2.1 7 = .ok (.ldc2_w 56, 3) := by decide +kernel
theorem d_Schema_isName_10 : decode jM_Schema_isName.2.1 10 = .ok (.lcmp, 1) := by decide +kernel
theorem d_Schema_isName_11 : decode jM_Schema_isName.2.1 11 = .ok (.ifCond .ge 7, 3) := by decide +kernel
theorem d_Schema_isName_14 : decode jM_Schema_isName.2.1 14 = .ok (.iconst 1, 1) := by decide +kernel
theorem d_Schema_isName_15 : decode jM_Schema_isName.2.1 15 = .ok (.goto 4, 3) := by decide +kernel
theorem d_Schema_isName_18 : decode jM_Schema_isName.2.1 18 = .ok (.iconst 0, 1) := by decide +kernel
theorem d_Schema_isName_19 : decode jM_Schema_isName.2.1 19 = .ok (.ireturn, 1) := by decide +kernel
theorem d_Schema_hasSymbol_0 : decode jM_Schema_hasSymbol.2.1 0 = .ok (.lload_n 1, 1) := by decide +kernel
theorem d_Schema_hasSymbol_1 : decode jM_Schema_hasSymbol.2.1 1 = .ok (.invokestatic 58, 3) := by decide +kernel
theorem d_Schema_hasSymbol_4 : decode jM_Schema_hasSymbol.2.1 4 = .ok (.ifCond .eq 20, 3) := by decide +kernel
theorem d_Schema_hasSymbol_7 : decode jM_Schema_hasSymbol.2.1 7 = .ok (.aload_n 0, 1) := by decide +kernel
theorem d_Schema_hasSymbol_8 : decode jM_Schema_hasSymbol.2.1 8 = .ok (.getfield 18, 3) := by decide +kernel
theorem d_Schema_hasSymbol_11 : decode jM_Schema_hasSymbol.2.1 11 = .ok (.lload_n 1, 1) := by decide +kernel
theorem d_Schema_hasSymbol_12 : decode jM_Schema_hasSymbol.2.1 12 = .ok (.l2i, 1) := by decide +kernel
theorem d_Schema_hasSymbol_13 : decode jM_Schema_hasSymbol.2.1 13 = .ok (.ishr, 1) := by decide +kernel
theorem d_Schema_hasSymbol_14 : decode jM_Schema_hasSymbol.2.1 14 = .ok (.iconst 1, 1) := by decide +kernel
theorem d_Schema_hasSymbol_15 : decode jM_Schema_hasSymbol.2.1 15 = .ok (.iand, 1) := by decide +kernel
theorem d_Schema_hasSymbol_16 : decode jM_Schema_hasSymbol.2.1 16 = .ok (.iconst 1, 1) := by decide +kernel
theorem d_Schema_hasSymbol_17 : decode jM_Schema_hasSymbol.2.1 17 = .ok (.if_icmp .ne 7, 3) := by decide +kernel
theorem d_Schema_hasSymbol_20 : decode jM_Schema_hasSymbol.2.1 20 = .ok (.iconst 1, 1) := by decide +kernel
theorem d_Schema_hasSymbol_21 : decode jM_Schema_hasSymbol.2.1 21 = .ok (.goto 4, 3) := by decide +kernel
theorem d_Schema_hasSymbol_24 : decode jM_Schema_hasSymbol.2.1 24 = .ok (.iconst 0, 1) := by decide +kernel
theorem d_Schema_hasSymbol_25 : decode jM_Schema_hasSymbol.2.1 25 = .ok (.ireturn, 1) := by decide +kernel
theorem d_Schema_isValue_0 : decode jM_Schema_isValue.2.1 0 = .ok (.aload_n 0, 1) := by decide +kernel
theorem d_Schema_isValue_1 : decode jM_Schema_isValue.2.1 1 = .ok (.getfield 9, 3) := by decide +kernel
theorem d_Schema_isValue_4 : decode jM_Schema_isValue.2.1 4 = .ok (.tableswitch 72 1 4 #[32, 50, 64, 66], 32) := by decide +kernel
theorem d_Schema_isValue_36 : decode jM_Schema_isValue.2.1 36 = .ok (.lload_n 1, 1) := by decide +kernel
theorem d_Schema_isValue_37 : decode jM_Schema_isValue.2.1 37 = .ok (.lconst 0, 1) := by decide +kernel
theorem d_Schema_isValue_38 : decode jM_Schema_isValue.2.1 38 = .ok (.lcmp, 1) := by decide +kernel
theorem d_Schema_isValue_39 : decode jM_Schema_isValue.2.1 39 = .ok (.ifCond .eq 9, 3) := by decide +kernel
theorem d_Schema_isValue_42 : decode jM_Schema_isValue.2.1 42 = .ok (.lload_n 1, 1) := by decide +kernel
theorem d_Schema_isValue_43 : decode jM_Schema_isValue.2.1 43 = .ok (.lconst 1, 1) := by decide +kernel
theorem d_Schema_isValue_44 : decode jM_Schema_isValue.2.1 44 = .ok (.lcmp, 1) := by decide +kernel
theorem d_Schema_isValue_45 : decode jM_Schema_isValue.2.1 45 = .ok (.ifCond .ne 7, 3) := by decide +kernel
theorem d_Schema_isValue_48 : decode jM_Schema_isValue.2.1 48 = .ok (.iconst 1, 1) := by decide +kernel
theorem d_Schema_isValue_49 : decode jM_Schema_isValue.2.1 49 = .ok (.goto 4, 3) := by decide +kernel
theorem d_Schema_isValue_52 : decode jM_Schema_isValue.2.1 52 = .ok (.iconst 0, 1) := by decide +kernel
theorem d_Schema_isValue_53 : decode jM_Schema_isValue.2.1 53 = .ok (.ireturn, 1) := by decide +kernel
theorem d_Schema_isValue_54 : decode jM_Schema_isValue.2.1 54 = .ok (.lload_n 1, 1) := by decide +kernel
theorem d_Schema_isValue_55 : decode jM_Schema_isValue.2.1 55 = .ok (.lload_n 1, 1) := by decide +kernel
theorem d_Schema_isValue_56 : decode jM_Schema_isValue.2.1 56 = .ok (.l2i, 1) := by decide +kernel
theorem d_Schema_isValue_57 : decode jM_Schema_isValue.2.1 57 = .ok (.i2l, 1) := by decide +kernel
theorem d_Schema_isValue_58 : decode jM_Schema_isValue.2.1 58 = .ok (.lcmp, 1) := by decide +kernel
theorem d_Schema_isValue_59 : decode jM_Schema_isValue.2.1 59 = .ok (.ifCond .ne 7, 3) := by decide +kernel
theorem d_Schema_isValue_62 : decode jM_Schema_isValue.2.1 62 = .ok (.iconst 1, 1) := by decide +kernel
theorem d_Schema_isValue_63 : decode jM_Schema_isValue.2.1 63 = .ok (.goto 4, 3) := by decide +kernel
theorem d_Schema_isValue_66 : decode jM_Schema_isValue.2.1 66 = .ok (.iconst 0, 1) := by decide +kernel
theorem d_Schema_isValue_67 : decode jM_Schema_isValue.2.1 67 = .ok (.ireturn, 1) := by decide +kernel
theorem d_Schema_isValue_68 : decode jM_Schema_isValue.2.1 68 = .ok (.iconst 1, 1) := by decide +kernel
theorem d_Schema_isValue_69 : decode jM_Schema_isValue.2.1 69 = .ok (.ireturn, 1) := by decide +kernel
theorem d_Schema_isValue_70 : decode jM_Schema_isValue.2.1 70 = .ok (.aload_n 0, 1) := by decide +kernel
theorem d_Schema_isValue_71 : decode jM_Schema_isValue.2.1 71 = .ok (.lload_n 1, 1) := by decide +kernel
theorem d_Schema_isValue_72 : decode jM_Schema_isValue.2.1 72 = .ok (.invokevirtual 68, 3) := by decide +kernel
theorem d_Schema_isValue_75 : decode jM_Schema_isValue.2.1 75 = .ok (.ireturn, 1) := by decide +kernel
theorem d_Schema_isValue_76 : decode jM_Schema_isValue.2.1 76 = .ok (.iconst 0, 1) := by decide +kernel
theorem d_Schema_isValue_77 : decode jM_Schema_isValue.2.1 77 = .ok (.ireturn, 1) := by decide +kernel
theorem d_Schema_isDefault_0 : decode jM_Schema_isDefault.2.1 0 = .ok (.aload_n 0, 1) := by decide +kernel
theorem d_Schema_isDefault_1 : decode jM_Schema_isDefault.2.1 1 = .ok (.getfield 9, 3) := by decide +kernel
theorem d_Schema_isDefault_4 : decode jM_Schema_isDefault.2.1 4 = .ok (.lookupswitch 57 #[(0, 36), (5, 36), (6, 48)], 36) := by decide +kernel
theorem d_Schema_isDefault_40 : decode jM_Schema_isDefault.2.1 40 = .ok (.lload_n 1, 1) := by decide +kernel
theorem d_Schema_isDefault_41 : decode jM_Schema_isDefault.2.1 41 = .ok (.lconst 0, 1) := by decide +kernel
theorem d_Schema_isDefault_42 : decode jM_Schema_isDefault.2.1 42 = .ok (.lcmp, 1) := by decide +kernel
theorem d_Schema_isDefault_43 : decode jM_Schema_isDefault.2.1 43 = .ok (.ifCond .ne 7, 3) := by decide +kernel
theorem d_Schema_isDefault_46 : decode jM_Schema_isDefault.2.1 46 = .ok (.iconst 1, 1) := by decide +kernel
theorem d_Schema_isDefault_47 : decode jM_Schema_isDefault.2.1 47 = .ok (.goto 4, 3) := by decide +kernel
theorem d_Schema_isDefault_50 : decode jM_Schema_isDefault.2.1 50 = .ok (.iconst 0, 1) := by decide +kernel
theorem d_Schema_isDefault_51 : decode jM_Schema_isDefault.2.1 51 = .ok (.ireturn, 1) := by decide +kernel
theorem d_Schema_isDefault_52 : decode jM_Schema_isDefault.2.1 52 = .ok (.aload_n 0, 1) := by decide +kernel
theorem d_Schema_isDefault_53 : decode jM_Schema_isDefault.2.1 53 = .ok (.getfield 24, 3) := by decide +kernel
theorem d_Schema_isDefault_56 : decode jM_Schema_isDefault.2.1 56 = .ok (.lload_n 1, 1) := by decide +kernel
theorem d_Schema_isDefault_57 : decode jM_Schema_isDefault.2.1 57 = .ok (.invokestatic 75, 3) := by decide +kernel
theorem d_Schema_isDefault_60 : decode jM_Schema_isDefault.2.1 60 = .ok (.ireturn, 1) := by decide +kernel
theorem d_Schema_isDefault_61 : decode jM_Schema_isDefault.2.1 61 = .ok (.aload_n 0, 1) := by decide +kernel
theorem d_Schema_isDefault_62 : decode jM_Schema_isDefault.2.1 62 = .ok (.lload_n 1, 1) := by decide +kernel
theorem d_Schema_isDefault_63 : decode jM_Schema_isDefault.2.1 63 = .ok (.invokevirtual 79, 3) := by decide +kernel
theorem d_Schema_isDefault_66 : decode jM_Schema_isDefault.2.1 66 = .ok (.ireturn, 1) := by decide +kernel
theorem d_Schemas_isPending_0 : decode jM_Schemas_isPending.2.1 0 = .ok (.iconst 0, 1) := by decide +kernel
theorem d_Schemas_isPending_1 : decode jM_Schemas_isPending.2.1 1 = .ok (.istore_n 2, 1) := by decide +kernel
theorem d_Schemas_isPending_2 : decode jM_Schemas_isPending.2.1 2 = .ok (.iload_n 2, 1) := by decide +kernel
theorem d_Schemas_isPending_3 : decode jM_Schemas_isPending.2.1 3 = .ok (.aload_n 0, 1) := by decide +kernel
theorem d_Schemas_isPending_4 : decode jM_Schemas_isPending.2.1 4 = .ok (.getfield 27, 3) := by decide +kernel
theorem d_Schemas_isPending_7 : decode jM_Schemas_isPending.2.1 7 = .ok (.if_icmp .ge 24, 3) := by decide +kernel
theorem d_Schemas_isPending_10 : decode jM_Schemas_isPending.2.1 10 = .ok (.aload_n 0, 1) := by decide +kernel
theorem d_Schemas_isPending_11 : decode jM_Schemas_isPending.2.1 11 = .ok (.getfield 19, 3) := by decide +kernel
theorem d_Schemas_isPending_14 : decode jM_Schemas_isPending.2.1 14 = .ok (.iload_n 2, 1) := by decide +kernel
theorem d_Schemas_isPending_15 : decode jM_Schemas_isPending.2.1 15 = .ok (.aaload, 1) := by decide +kernel
theorem d_Schemas_isPending_16 : decode jM_Schemas_isPending.2.1 16 = .ok (.getfield 52, 3) := by decide +kernel
theorem d_Schemas_isPending_19 : decode jM_Schemas_isPending.2.1 19 = .ok (.iload_n 1, 1) := by decide +kernel
theorem d_Schemas_isPending_20 : decode jM_Schemas_isPending.2.1 20 = .ok (.if_icmp .ne 5, 3) := by decide +kernel
theorem d_Schemas_isPending_23 : decode jM_Schemas_isPending.2.1 23 = .ok (.iconst 1, 1) := by decide +kernel
theorem d_Schemas_isPending_24 : decode jM_Schemas_isPending.2.1 24 = .ok (.ireturn, 1) := by decide +kernel
theorem d_Schemas_isPending_25 : decode jM_Schemas_isPending.2.1 25 = .ok (.iinc 2 1, 3) := by decide +kernel
theorem d_Schemas_isPending_28 : decode jM_Schemas_isPending.2.1 28 = .ok (.goto (-26), 3) := by decide +kernel
theorem d_Schemas_isPending_31 : decode jM_Schemas_isPending.2.1 31 = .ok (.iconst 0, 1) := by decide +kernel
theorem d_Schemas_isPending_32 : decode jM_Schemas_isPending.2.1 32 = .ok (.ireturn, 1) := by decide +kernel
theorem d_Schemas_addField_0 : decode jM_Schemas_addField.2.1 0 = .ok (.aload_n 0, 1) := by decide +kernel
theorem d_Schemas_addField_1 : decode jM_Schemas_addField.2.1 1 = .ok (.getfield 27, 3) := by decide +kernel
theorem d_Schemas_addField_4 : decode jM_Schemas_addField.2.1 4 = .ok (.iconst 3, 1) := by decide +kernel
theorem d_Schemas_addField_5 : decode jM_Schemas_addField.2.1 5 = .ok (.if_icmp .eq 23, 3) := by decide +kernel
theorem d_Schemas_addField_8 : decode jM_Schemas_addField.2.1 8 = .ok (.iload_n 1, 1) := by decide +kernel
theorem d_Schemas_addField_9 : decode jM_Schemas_addField.2.1 9 = .ok (.i2l, 1) := by decide +kernel
theorem d_Schemas_addField_10 : decode jM_Schemas_addField.2.1 10 = .ok (.invokestatic 30, 3) := by decide +kernel
theorem d_Schemas_addField_13 : decode jM_Schemas_addField.2.1 13 = .ok (.ifCond .eq 15, 3) := by decide +kernel
theorem d_Schemas_addField_16 : decode jM_Schemas_addField.2.1 16 = .ok (.aload_n 0, 1) := by decide +kernel
theorem d_Schemas_addField_17 : decode jM_Schemas_addField.2.1 17 = .ok (.iload_n 1, 1) := by decide +kernel
theorem d_Schemas_addField_18 : decode jM_Schemas_addField.2.1 18 = .ok (.invokevirtual 34, 3) := by decide +kernel
theorem d_Schemas_addField_21 : decode jM_Schemas_addField.2.1 21 = .ok (.ifCond .ne 7, 3) := by decide +kernel
theorem d_Schemas_addField_24 : decode jM_Schemas_addField.2.1 24 = .ok (.aload_n 2, 1) := by decide +kernel
theorem d_Schemas_addField_25 : decode jM_Schemas_addField.2.1 25 = .ok (.ifnonnull 5, 3) := by decide +kernel
theorem d_Schemas_addField_28 : decode jM_Schemas_addField.2.1 28 = .ok (.iconst (-1), 1) := by decide +kernel
theorem d_Schemas_addField_29 : decode jM_Schemas_addField.2.1 29 = .ok (.ireturn, 1) := by decide +kernel
theorem d_Schemas_addField_30 : decode jM_Schemas_addField.2.1 30 = .ok (.iload_n 3, 1) := by decide +kernel
theorem d_Schemas_addField_31 : decode jM_Schemas_addField.2.1 31 = .ok (.ifCond .eq 14, 3) := by decide +kernel
theorem d_Schemas_addField_34 : decode jM_Schemas_addField.2.1 34 = .ok (.aload_n 2, 1) := by decide +kernel
theorem d_Schemas_addField_35 : decode jM_Schemas_addField.2.1 35 = .ok (.lload 4, 2) := by decide +kernel
theorem d_Schemas_addField_37 : decode jM_Schemas_addField.2.1 37 = .ok (.invokestatic 38, 3) := by decide +kernel
theorem d_Schemas_addField_40 : decode jM_Schemas_addField.2.1 40 = .ok (.ifCond .ne 5, 3) := by decide +kernel
theorem d_Schemas_addField_43 : decode jM_Schemas_addField.2.1 43 = .ok (.iconst (-1), 1) := by decide +kernel
theorem d_Schemas_addField_44 : decode jM_Schemas_addField.2.1 44 = .ok (.ireturn, 1) := by decide +kernel
theorem d_Schemas_addField_45 : decode jM_Schemas_addField.2.1 45 = .ok (.aload_n 0, 1) := by decide +kernel
theorem d_Schemas_addField_46 : decode jM_Schemas_addField.2.1 46 = .ok (.getfield 19, 3) := by decide +kernel
theorem d_Schemas_addField_49 : decode jM_Schemas_addField.2.1 49 = .ok (.aload_n 0, 1) := by decide +kernel
theorem d_Schemas_addField_50 : decode jM_Schemas_addField.2.1 50 = .ok (.getfield 27, 3) := by decide +kernel
theorem d_Schemas_addField_53 : decode jM_Schemas_addField.2.1 53 = .ok (.new 17, 3) := by decide +kernel
theorem d_Schemas_addField_56 : decode jM_Schemas_addField.2.1 56 = .ok (.dup, 1) := by decide +kernel
theorem d_Schemas_addField_57 : decode jM_Schemas_addField.2.1 57 = .ok (.iload_n 1, 1) := by decide +kernel
theorem d_Schemas_addField_58 : decode jM_Schemas_addField.2.1 58 = .ok (.aload_n 2, 1) := by decide +kernel
theorem d_Schemas_addField_59 : decode jM_Schemas_addField.2.1 59 = .ok (.iload_n 3, 1) := by decide +kernel
theorem d_Schemas_addField_60 : decode jM_Schemas_addField.2.1 60 = .ok (.lload 4, 2) := by decide +kernel
theorem d_Schemas_addField_62 : decode jM_Schemas_addField.2.1 62 = .ok (.invokespecial 42, 3) := by decide +kernel
theorem d_Schemas_addField_65 : decode jM_Schemas_addField.2.1 65 = .ok (.aastore, 1) := by decide +kernel
theorem d_Schemas_addField_66 : decode jM_Schemas_addField.2.1 66 = .ok (.aload_n 0, 1) := by decide +kernel
theorem d_Schemas_addField_67 : decode jM_Schemas_addField.2.1 67 = .ok (.dup, 1) := by decide +kernel
theorem d_Schemas_addField_68 : decode jM_Schemas_addField.2.1 68 = .ok (.getfield 27, 3) := by decide +kernel
theorem d_Schemas_addField_71 : decode jM_Schemas_addField.2.1 71 = .ok (.iconst 1, 1) := by decide +kernel
theorem d_Schemas_addField_72 : decode jM_Schemas_addField.2.1 72 = .ok (.iadd, 1) := by decide +kernel
theorem d_Schemas_addField_73 : decode jM_Schemas_addField.2.1 73 = .ok (.putfield 27, 3) := by decide +kernel
theorem d_Schemas_addField_76 : decode jM_Schemas_addField.2.1 76 = .ok (.aload_n 0, 1) := by decide +kernel
theorem d_Schemas_addField_77 : decode jM_Schemas_addField.2.1 77 = .ok (.getfield 27, 3) := by decide +kernel
theorem d_Schemas_addField_80 : decode jM_Schemas_addField.2.1 80 = .ok (.ireturn, 1) := by decide +kernel
theorem d_Schemas_find_0 : decode jM_Schemas_find.2.1 0 = .ok (.iload_n 1, 1) := by decide +kernel
theorem d_Schemas_find_1 : decode jM_Schemas_find.2.1 1 = .ok (.ifCond .lt 20, 3) := by decide +kernel
theorem d_Schemas_find_4 : decode jM_Schemas_find.2.1 4 = .ok (.iload_n 1, 1) := by decide +kernel
theorem d_Schemas_find_5 : decode jM_Schemas_find.2.1 5 = .ok (.aload_n 0, 1) := by decide +kernel
theorem d_Schemas_find_6 : decode jM_Schemas_find.2.1 6 = .ok (.getfield 23, 3) := by decide +kernel
theorem d_Schemas_find_9 : decode jM_Schemas_find.2.1 9 = .ok (.if_icmp .ge 12, 3) := by decide +kernel
theorem d_Schemas_find_12 : decode jM_Schemas_find.2.1 12 = .ok (.aload_n 0, 1) := by decide +kernel
theorem d_Schemas_find_13 : decode jM_Schemas_find.2.1 13 = .ok (.getfield 13, 3) := by decide +kernel
theorem d_Schemas_find_16 : decode jM_Schemas_find.2.1 16 = .ok (.iload_n 1, 1) := by decide +kernel
theorem d_Schemas_find_17 : decode jM_Schemas_find.2.1 17 = .ok (.aaload, 1) := by decide +kernel
theorem d_Schemas_find_18 : decode jM_Schemas_find.2.1 18 = .ok (.goto 4, 3) := by decide +kernel
theorem d_Schemas_find_21 : decode jM_Schemas_find.2.1 21 = .ok (.aconst_null, 1) := by decide +kernel
theorem d_Schemas_find_22 : decode jM_Schemas_find.2.1 22 = .ok (.areturn, 1) := by decide +kernel
theorem d_ST_field_0 : decode jM_ST_field.2.1 0 = .ok (.aload_n 0, 1) := by decide +kernel
theorem d_ST_field_1 : decode jM_ST_field.2.1 1 = .ok (.getfield 13, 3) := by decide +kernel
theorem d_ST_field_4 : decode jM_ST_field.2.1 4 = .ok (.iload_n 1, 1) := by decide +kernel
theorem d_ST_field_5 : decode jM_ST_field.2.1 5 = .ok (.aload_n 0, 1) := by decide +kernel
theorem d_ST_field_6 : decode jM_ST_field.2.1 6 = .ok (.getfield 13, 3) := by decide +kernel
theorem d_ST_field_9 : decode jM_ST_field.2.1 9 = .ok (.iload_n 2, 1) := by decide +kernel
theorem d_ST_field_10 : decode jM_ST_field.2.1 10 = .ok (.invokevirtual 61, 3) := by decide +kernel
theorem d_ST_field_13 : decode jM_ST_field.2.1 13 = .ok (.iload_n 3, 1) := by decide +kernel
theorem d_ST_field_14 : decode jM_ST_field.2.1 14 = .ok (.lload 4, 2) := by decide +kernel
theorem d_ST_field_16 : decode jM_ST_field.2.1 16 = .ok (.invokevirtual 65, 3) := by decide +kernel
theorem d_ST_field_19 : decode jM_ST_field.2.1 19 = .ok (.ireturn, 1) := by decide +kernel
theorem d_Schema_depthAbove_0 : decode jM_Schema_depthAbove.2.1 0 = .ok (.iconst 0, 1) := by decide +kernel
theorem d_Schema_depthAbove_1 : decode jM_Schema_depthAbove.2.1 1 = .ok (.istore_n 3, 1) := by decide +kernel
theorem d_Schema_depthAbove_2 : decode jM_Schema_depthAbove.2.1 2 = .ok (.aload_n 0, 1) := by decide +kernel
theorem d_Schema_depthAbove_3 : decode jM_Schema_depthAbove.2.1 3 = .ok (.ifnull 8, 3) := by decide +kernel
theorem d_Schema_depthAbove_6 : decode jM_Schema_depthAbove.2.1 6 = .ok (.aload_n 0, 1) := by decide +kernel
theorem d_Schema_depthAbove_7 : decode jM_Schema_depthAbove.2.1 7 = .ok (.getfield 39, 3) := by decide +kernel
theorem d_Schema_depthAbove_10 : decode jM_Schema_depthAbove.2.1 10 = .ok (.istore_n 3, 1) := by decide +kernel
theorem d_Schema_depthAbove_11 : decode jM_Schema_depthAbove.2.1 11 = .ok (.aload_n 1, 1) := by decide +kernel
theorem d_Schema_depthAbove_12 : decode jM_Schema_depthAbove.2.1 12 = .ok (.ifnull 12, 3) := by decide +kernel
theorem d_Schema_depthAbove_15 : decode jM_Schema_depthAbove.2.1 15 = .ok (.iload_n 3, 1) := by decide +kernel
theorem d_Schema_depthAbove_16 : decode jM_Schema_depthAbove.2.1 16 = .ok (.aload_n 1, 1) := by decide +kernel
theorem d_Schema_depthAbove_17 : decode jM_Schema_depthAbove.2.1 17 = .ok (.getfield 39, 3) := by decide +kernel
theorem d_Schema_depthAbove_20 : decode jM_Schema_depthAbove.2.1 20 = .ok (.invokestatic 47, 3) := by decide +kernel
theorem d_Schema_depthAbove_23 : decode jM_Schema_depthAbove.2.1 23 = .ok (.istore_n 3, 1) := by decide +kernel
theorem d_Schema_depthAbove_24 : decode jM_Schema_depthAbove.2.1 24 = .ok (.iconst 0, 1) := by decide +kernel
theorem d_Schema_depthAbove_25 : decode jM_Schema_depthAbove.2.1 25 = .ok (.istore 4, 2) := by decide +kernel
theorem d_Schema_depthAbove_27 : decode jM_Schema_depthAbove.2.1 27 = .ok (.iload 4, 2) := by decide +kernel
theorem d_Schema_depthAbove_29 : decode jM_Schema_depthAbove.2.1 29 = .ok (.aload_n 2, 1) := by decide +kernel
theorem d_Schema_depthAbove_30 : decode jM_Schema_depthAbove.2.1 30 = .ok (.arraylength, 1) := by decide +kernel
theorem d_Schema_depthAbove_31 : decode jM_Schema_depthAbove.2.1 31 = .ok (.if_icmp .ge 24, 3) := by decide +kernel
theorem d_Schema_depthAbove_34 : decode jM_Schema_depthAbove.2.1 34 = .ok (.iload_n 3, 1) := by decide +kernel
theorem d_Schema_depthAbove_35 : decode jM_Schema_depthAbove.2.1 35 = .ok (.aload_n 2, 1) := by decide +kernel
theorem d_Schema_depthAbove_36 : decode jM_Schema_depthAbove.2.1 36 = .ok (.iload 4, 2) := by decide +kernel
theorem d_Schema_depthAbove_38 : decode jM_Schema_depthAbove.2.1 38 = .ok (.aaload, 1) := by decide +kernel
theorem d_Schema_depthAbove_39 : decode jM_Schema_depthAbove.2.1 39 = .ok (.getfield 53, 3) := by decide +kernel
theorem d_Schema_depthAbove_42 : decode jM_Schema_depthAbove.2.1 42 = .ok (.getfield 39, 3) := by decide +kernel
theorem d_Schema_depthAbove_45 : decode jM_Schema_depthAbove.2.1 45 = .ok (.invokestatic 47, 3) := by decide +kernel
theorem d_Schema_depthAbove_48 : decode jM_Schema_depthAbove.2.1 48 = .ok (.istore_n 3, 1) := by decide +kernel
theorem d_Schema_depthAbove_49 : decode jM_Schema_depthAbove.2.1 49 = .ok (.iinc 4 1, 3) := by decide +kernel
theorem d_Schema_depthAbove_52 : decode jM_Schema_depthAbove.2.1 52 = .ok (.goto (-25), 3) := by decide +kernel
theorem d_Schema_depthAbove_55 : decode jM_Schema_depthAbove.2.1 55 = .ok (.iload_n 3, 1) := by decide +kernel
theorem d_Schema_depthAbove_56 : decode jM_Schema_depthAbove.2.1 56 = .ok (.iconst 1, 1) := by decide +kernel
theorem d_Schema_depthAbove_57 : decode jM_Schema_depthAbove.2.1 57 = .ok (.iadd, 1) := by decide +kernel
theorem d_Schema_depthAbove_58 : decode jM_Schema_depthAbove.2.1 58 = .ok (.ireturn, 1) := by decide +kernel
theorem d_Schema_init_0 : decode jM_Schema_init.2.1 0 = .ok (.aload_n 0, 1) := by decide +kernel
theorem d_Schema_init_1 : decode jM_Schema_init.2.1 1 = .ok (.invokespecial 3, 3) := by decide +kernel
theorem d_Schema_init_4 : decode jM_Schema_init.2.1 4 = .ok (.aload_n 0, 1) := by decide +kernel
theorem d_Schema_init_5 : decode jM_Schema_init.2.1 5 = .ok (.iload_n 1, 1) := by decide +kernel
theorem d_Schema_init_6 : decode jM_Schema_init.2.1 6 = .ok (.putfield 9, 3) := by decide +kernel
theorem d_Schema_init_9 : decode jM_Schema_init.2.1 9 = .ok (.aload_n 0, 1) := by decide +kernel
theorem d_Schema_init_10 : decode jM_Schema_init.2.1 10 = .ok (.iload_n 2, 1) := by decide +kernel
theorem d_Schema_init_11 : decode jM_Schema_init.2.1 11 = .ok (.putfield 15, 3) := by decide +kernel
theorem d_Schema_init_14 : decode jM_Schema_init.2.1 14 = .ok (.aload_n 0, 1) := by decide +kernel
theorem d_Schema_init_15 : decode jM_Schema_init.2.1 15 = .ok (.iload_n 3, 1) := by decide +kernel
theorem d_Schema_init_16 : decode jM_Schema_init.2.1 16 = .ok (.putfield 18, 3) := by decide +kernel
theorem d_Schema_init_19 : decode jM_Schema_init.2.1 19 = .ok (.aload_n 0, 1) := by decide +kernel
theorem d_Schema_init_20 : decode jM_Schema_init.2.1 20 = .ok (.iload 4, 2) := by decide +kernel
theorem d_Schema_init_22 : decode jM_Schema_init.2.1 22 = .ok (.putfield 21, 3) := by decide +kernel
theorem d_Schema_init_25 : decode jM_Schema_init.2.1 25 = .ok (.aload_n 0, 1) := by decide +kernel
theorem d_Schema_init_26 : decode jM_Schema_init.2.1 26 = .ok (.aload 5, 2) := by decide +kernel
theorem d_Schema_init_28 : decode jM_Schema_init.2.1 28 = .ok (.putfield 24, 3) := by decide +kernel
theorem d_Schema_init_31 : decode jM_Schema_init.2.1 31 = .ok (.aload_n 0, 1) := by decide +kernel
theorem d_Schema_init_32 : decode jM_Schema_init.2.1 32 = .ok (.aload 6, 2) := by decide +kernel
theorem d_Schema_init_34 : decode jM_Schema_init.2.1 34 = .ok (.putfield 28, 3) := by decide +kernel
theorem d_Schema_init_37 : decode jM_Schema_init.2.1 37 = .ok (.aload_n 0, 1) := by decide +kernel
theorem d_Schema_init_38 : decode jM_Schema_init.2.1 38 = .ok (.aload 7, 2) := by decide +kernel
theorem d_Schema_init_40 : decode jM_Schema_init.2.1 40 = .ok (.putfield 31, 3) := by decide +kernel
theorem d_Schema_init_43 : decode jM_Schema_init.2.1 43 = .ok (.aload_n 0, 1) := by decide +kernel
theorem d_Schema_init_44 : decode jM_Schema_init.2.1 44 = .ok (.aload 5, 2) := by decide +kernel
theorem d_Schema_init_46 : decode jM_Schema_init.2.1 46 = .ok (.aload 6, 2) := by decide +kernel
theorem d_Schema_init_48 : decode jM_Schema_init.2.1 48 = .ok (.aload 7, 2) := by decide +kernel
theorem d_Schema_init_50 : decode jM_Schema_init.2.1 50 = .ok (.invokestatic 35, 3) := by decide +kernel
theorem d_Schema_init_53 : decode jM_Schema_init.2.1 53 = .ok (.putfield 39, 3) := by decide +kernel
theorem d_Schema_init_56 : decode jM_Schema_init.2.1 56 = .ok (.return_, 1) := by decide +kernel
theorem d_Schema_ofPlain_0 : decode jM_Schema_ofPlain.2.1 0 = .ok (.new 10, 3) := by decide +kernel
theorem d_Schema_ofPlain_3 : decode jM_Schema_ofPlain.2.1 3 = .ok (.dup, 1) := by decide +kernel
theorem d_Schema_ofPlain_4 : decode jM_Schema_ofPlain.2.1 4 = .ok (.iload_n 0, 1) := by decide +kernel
theorem d_Schema_ofPlain_5 : decode jM_Schema_ofPlain.2.1 5 = .ok (.iconst 0, 1) := by decide +kernel
theorem d_Schema_ofPlain_6 : decode jM_Schema_ofPlain.2.1 6 = .ok (.iconst 0, 1) := by decide +kernel
theorem d_Schema_ofPlain_7 : decode jM_Schema_ofPlain.2.1 7 = .ok (.iconst (-1), 1) := by decide +kernel
theorem d_Schema_ofPlain_8 : decode jM_Schema_ofPlain.2.1 8 = .ok (.aconst_null, 1) := by decide +kernel
theorem d_Schema_ofPlain_9 : decode jM_Schema_ofPlain.2.1 9 = .ok (.aconst_null, 1) := by decide +kernel
theorem d_Schema_ofPlain_10 : decode jM_Schema_ofPlain.2.1 10 = .ok (.iconst 0, 1) := by decide +kernel
theorem d_Schema_ofPlain_11 : decode jM_Schema_ofPlain.2.1 11 = .ok (.anewarray 42, 3) := by decide +kernel
theorem d_Schema_ofPlain_14 : decode jM_Schema_ofPlain.2.1 14 = .ok (.invokespecial 44, 3) := by decide +kernel
theorem d_Schema_ofPlain_17 : decode jM_Schema_ofPlain.2.1 17 = .ok (.areturn, 1) := by decide +kernel
theorem d_Schema_ofArray_0 : decode jM_Schema_ofArray.2.1 0 = .ok (.new 10, 3) := by decide +kernel
theorem d_Schema_ofArray_3 : decode jM_Schema_ofArray.2.1 3 = .ok (.dup, 1) := by decide +kernel
theorem d_Schema_ofArray_4 : decode jM_Schema_ofArray.2.1 4 = .ok (.iconst 5, 1) := by decide +kernel
theorem d_Schema_ofArray_5 : decode jM_Schema_ofArray.2.1 5 = .ok (.iconst 0, 1) := by decide +kernel
theorem d_Schema_ofArray_6 : decode jM_Schema_ofArray.2.1 6 = .ok (.iconst 0, 1) := by decide +kernel
theorem d_Schema_ofArray_7 : decode jM_Schema_ofArray.2.1 7 = .ok (.iconst (-1), 1) := by decide +kernel
theorem d_Schema_ofArray_8 : decode jM_Schema_ofArray.2.1 8 = .ok (.aload_n 0, 1) := by decide +kernel
theorem d_Schema_ofArray_9 : decode jM_Schema_ofArray.2.1 9 = .ok (.aconst_null, 1) := by decide +kernel
theorem d_Schema_ofArray_10 : decode jM_Schema_ofArray.2.1 10 = .ok (.iconst 0, 1) := by decide +kernel
theorem d_Schema_ofArray_11 : decode jM_Schema_ofArray.2.1 11 = .ok (.anewarray 42, 3) := by decide +kernel
theorem d_Schema_ofArray_14 : decode jM_Schema_ofArray.2.1 14 = .ok (.invokespecial 44, 3) := by decide +kernel
theorem d_Schema_ofArray_17 : decode jM_Schema_ofArray.2.1 17 = .ok (.areturn, 1) := by decide +kernel
theorem d_Schemas_buildArray_0 : decode jM_Schemas_buildArray.2.1 0 = .ok (.aload_n 0, 1) := by decide +kernel
theorem d_Schemas_buildArray_1 : decode jM_Schemas_buildArray.2.1 1 = .ok (.ifnonnull 7, 3) := by decide +kernel
theorem d_Schemas_buildArray_4 : decode jM_Schemas_buildArray.2.1 4 = .ok (.aconst_null, 1) := by decide +kernel
theorem d_Schemas_buildArray_5 : decode jM_Schemas_buildArray.2.1 5 = .ok (.goto 7, 3) := by decide +kernel
theorem d_Schemas_buildArray_8 : decode jM_Schemas_buildArray.2.1 8 = .ok (.aload_n 0, 1) := by decide +kernel
theorem d_Schemas_buildArray_9 : decode jM_Schemas_buildArray.2.1 9 = .ok (.invokestatic 83, 3) := by decide +kernel
theorem d_Schemas_buildArray_12 : decode jM_Schemas_buildArray.2.1 12 = .ok (.areturn, 1) := by decide +kernel
theorem d_Schema_ofEnum_0 : decode jM_Schema_ofEnum.2.1 0 = .ok (.new 10, 3) := by decide +kernel
theorem d_Schema_ofEnum_3 : decode jM_Schema_ofEnum.2.1 3 = .ok (.dup, 1) := by decide +kernel
theorem d_Schema_ofEnum_4 : decode jM_Schema_ofEnum.2.1 4 = .ok (.iconst 4, 1) := by decide +kernel
theorem d_Schema_ofEnum_5 : decode jM_Schema_ofEnum.2.1 5 = .ok (.iload_n 0, 1) := by decide +kernel
theorem d_Schema_ofEnum_6 : decode jM_Schema_ofEnum.2.1 6 = .ok (.iload_n 1, 1) := by decide +kernel
theorem d_Schema_ofEnum_7 : decode jM_Schema_ofEnum.2.1 7 = .ok (.iload_n 2, 1) := by decide +kernel
theorem d_Schema_ofEnum_8 : decode jM_Schema_ofEnum.2.1 8 = .ok (.aconst_null, 1) := by decide +kernel
theorem d_Schema_ofEnum_9 : decode jM_Schema_ofEnum.2.1 9 = .ok (.aconst_null, 1) := by decide +kernel
theorem d_Schema_ofEnum_10 : decode jM_Schema_ofEnum.2.1 10 = .ok (.iconst 0, 1) := by decide +kernel
theorem d_Schema_ofEnum_11 : decode jM_Schema_ofEnum.2.1 11 = .ok (.anewarray 42, 3) := by decide +kernel
theorem d_Schema_ofEnum_14 : decode jM_Schema_ofEnum.2.1 14 = .ok (.invokespecial 44, 3) := by decide +kernel
theorem d_Schema_ofEnum_17 : decode jM_Schema_ofEnum.2.1 17 = .ok (.areturn, 1) := by decide +kernel
theorem d_Schemas_buildEnum_0 : decode jM_Schemas_buildEnum.2.1 0 = .ok (.iload_n 0, 1) := by decide +kernel
theorem d_Schemas_buildEnum_1 : decode jM_Schemas_buildEnum.2.1 1 = .ok (.i2l, 1) := by decide +kernel
theorem d_Schemas_buildEnum_2 : decode jM_Schemas_buildEnum.2.1 2 = .ok (.invokestatic 30, 3) := by decide +kernel
theorem d_Schemas_buildEnum_5 : decode jM_Schemas_buildEnum.2.1 5 = .ok (.ifCond .eq 15, 3) := by decide +kernel
theorem d_Schemas_buildEnum_8 : decode jM_Schemas_buildEnum.2.1 8 = .ok (.iload_n 1, 1) := by decide +kernel
theorem d_Schemas_buildEnum_9 : decode jM_Schemas_buildEnum.2.1 9 = .ok (.iconst 1, 1) := by decide +kernel
theorem d_Schemas_buildEnum_10 : decode jM_Schemas_buildEnum.2.1 10 = .ok (.if_icmp .lt 10, 3) := by decide +kernel
theorem d_Schemas_buildEnum_13 : decode jM_Schemas_buildEnum.2.1 13 = .ok (.iload_n 1, 1) := by decide +kernel
theorem d_Schemas_buildEnum_14 : decode jM_Schemas_buildEnum.2.1 14 = .ok (.sipush 255, 3) := by decide +kernel
theorem d_Schemas_buildEnum_17 : decode jM_Schemas_buildEnum.2.1 17 = .ok (.if_icmp .le 5, 3) := by decide +kernel
theorem d_Schemas_buildEnum_20 : decode jM_Schemas_buildEnum.2.1 20 = .ok (.aconst_null, 1) := by decide +kernel
theorem d_Schemas_buildEnum_21 : decode jM_Schemas_buildEnum.2.1 21 = .ok (.areturn, 1) := by decide +kernel
theorem d_Schemas_buildEnum_22 : decode jM_Schemas_buildEnum.2.1 22 = .ok (.iload_n 0, 1) := by decide +kernel
theorem d_Schemas_buildEnum_23 : decode jM_Schemas_buildEnum.2.1 23 = .ok (.iload_n 1, 1) := by decide +kernel
theorem d_Schemas_buildEnum_24 : decode jM_Schemas_buildEnum.2.1 24 = .ok (.iload_n 2, 1) := by decide +kernel
theorem d_Schemas_buildEnum_25 : decode jM_Schemas_buildEnum.2.1 25 = .ok (.invokestatic 77, 3) := by decide +kernel
theorem d_Schemas_buildEnum_28 : decode jM_Schemas_buildEnum.2.1 28 = .ok (.astore_n 3, 1) := by decide +kernel
theorem d_Schemas_buildEnum_29 : decode jM_Schemas_buildEnum.2.1 29 = .ok (.iload_n 2, 1) := by decide +kernel
theorem d_Schemas_buildEnum_30 : decode jM_Schemas_buildEnum.2.1 30 = .ok (.iconst (-1), 1) := by decide +kernel
theorem d_Schemas_buildEnum_31 : decode jM_Schemas_buildEnum.2.1 31 = .ok (.if_icmp .eq 12, 3) := by decide +kernel
theorem d_Schemas_buildEnum_34 : decode jM_Schemas_buildEnum.2.1 34 = .ok (.aload_n 3, 1) := by decide +kernel
theorem d_Schemas_buildEnum_35 : decode jM_Schemas_buildEnum.2.1 35 = .ok (.iload_n 2, 1) := by decide +kernel
theorem d_Schemas_buildEnum_36 : decode jM_Schemas_buildEnum.2.1 36 = .ok (.i2l, 1) := by decide +kernel
theorem d_Schemas_buildEnum_37 : decode jM_Schemas_buildEnum.2.1 37 = .ok (.invokevirtual 80, 3) := by decide +kernel
theorem d_Schemas_buildEnum_40 : decode jM_Schemas_buildEnum.2.1 40 = .ok (.ifCond .eq 7, 3) := by decide +kernel
theorem d_Schemas_buildEnum_43 : decode jM_Schemas_buildEnum.2.1 43 = .ok (.aload_n 3, 1) := by decide +kernel
theorem d_Schemas_buildEnum_44 : decode jM_Schemas_buildEnum.2.1 44 = .ok (.goto 4, 3) := by decide +kernel
theorem d_Schemas_buildEnum_47 : decode jM_Schemas_buildEnum.2.1 47 = .ok (.aconst_null, 1) := by decide +kernel
theorem d_Schemas_buildEnum_48 : decode jM_Schemas_buildEnum.2.1 48 = .ok (.areturn, 1) := by decide +kernel
theorem d_Schema_ofRecord_0 : decode jM_Schema_ofRecord.2.1 0 = .ok (.new 10, 3) := by decide +kernel
theorem d_Schema_ofRecord_3 : decode jM_Schema_ofRecord.2.1 3 = .ok (.dup, 1) := by decide +kernel
theorem d_Schema_ofRecord_4 : decode jM_Schema_ofRecord.2.1 4 = .ok (.bipush 7, 2) := by decide +kernel
theorem d_Schema_ofRecord_6 : decode jM_Schema_ofRecord.2.1 6 = .ok (.iload_n 0, 1) := by decide +kernel
theorem d_Schema_ofRecord_7 : decode jM_Schema_ofRecord.2.1 7 = .ok (.iconst 0, 1) := by decide +kernel
theorem d_Schema_ofRecord_8 : decode jM_Schema_ofRecord.2.1 8 = .ok (.iconst (-1), 1) := by decide +kernel
theorem d_Schema_ofRecord_9 : decode jM_Schema_ofRecord.2.1 9 = .ok (.aconst_null, 1) := by decide +kernel
theorem d_Schema_ofRecord_10 : decode jM_Schema_ofRecord.2.1 10 = .ok (.aconst_null, 1) := by decide +kernel
theorem d_Schema_ofRecord_11 : decode jM_Schema_ofRecord.2.1 11 = .ok (.aload_n 1, 1) := by decide +kernel
theorem d_Schema_ofRecord_12 : decode jM_Schema_ofRecord.2.1 12 = .ok (.invokespecial 44, 3) := by decide +kernel
theorem d_Schema_ofRecord_15 : decode jM_Schema_ofRecord.2.1 15 = .ok (.areturn, 1) := by decide +kernel
theorem d_Schemas_buildRecord_0 : decode jM_Schemas_buildRecord.2.1 0 = .ok (.iload_n 1, 1) := by decide +kernel
theorem d_Schemas_buildRecord_1 : decode jM_Schemas_buildRecord.2.1 1 = .ok (.i2l, 1) := by decide +kernel
theorem d_Schemas_buildRecord_2 : decode jM_Schemas_buildRecord.2.1 2 = .ok (.invokestatic 30, 3) := by decide +kernel
theorem d_Schemas_buildRecord_5 : decode jM_Schemas_buildRecord.2.1 5 = .ok (.ifCond .ne 5, 3) := by decide +kernel
theorem d_Schemas_buildRecord_8 : decode jM_Schemas_buildRecord.2.1 8 = .ok (.aconst_null, 1) := by decide +kernel
theorem d_Schemas_buildRecord_9 : decode jM_Schemas_buildRecord.2.1 9 = .ok (.areturn, 1) := by decide +kernel
theorem d_Schemas_buildRecord_10 : decode jM_Schemas_buildRecord.2.1 10 = .ok (.aload_n 0, 1) := by decide +kernel
theorem d_Schemas_buildRecord_11 : decode jM_Schemas_buildRecord.2.1 11 = .ok (.getfield 27, 3) := by decide +kernel
theorem d_Schemas_buildRecord_14 : decode jM_Schemas_buildRecord.2.1 14 = .ok (.anewarray 17, 3) := by decide +kernel
theorem d_Schemas_buildRecord_17 : decode jM_Schemas_buildRecord.2.1 17 = .ok (.astore_n 2, 1) := by decide +kernel
theorem d_Schemas_buildRecord_18 : decode jM_Schemas_buildRecord.2.1 18 = .ok (.iconst 0, 1) := by decide +kernel
theorem d_Schemas_buildRecord_19 : decode jM_Schemas_buildRecord.2.1 19 = .ok (.istore_n 3, 1) := by decide +kernel
theorem d_Schemas_buildRecord_20 : decode jM_Schemas_buildRecord.2.1 20 = .ok (.iload_n 3, 1) := by decide +kernel
theorem d_Schemas_buildRecord_21 : decode jM_Schemas_buildRecord.2.1 21 = .ok (.aload_n 0, 1) := by decide +kernel
theorem d_Schemas_buildRecord_22 : decode jM_Schemas_buildRecord.2.1 22 = .ok (.getfield 27, 3) := by decide +kernel
theorem d_Schemas_buildRecord_25 : decode jM_Schemas_buildRecord.2.1 25 = .ok (.if_icmp .ge 18, 3) := by decide +kernel
theorem d_Schemas_buildRecord_28 : decode jM_Schemas_buildRecord.2.1 28 = .ok (.aload_n 2, 1) := by decide +kernel
theorem d_Schemas_buildRecord_29 : decode jM_Schemas_buildRecord.2.1 29 = .ok (.iload_n 3, 1) := by decide +kernel
theorem d_Schemas_buildRecord_30 : decode jM_Schemas_buildRecord.2.1 30 = .ok (.aload_n 0, 1) := by decide +kernel
theorem d_Schemas_buildRecord_31 : decode jM_Schemas_buildRecord.2.1 31 = .ok (.getfield 19, 3) := by decide +kernel
theorem d_Schemas_buildRecord_34 : decode jM_Schemas_buildRecord.2.1 34 = .ok (.iload_n 3, 1) := by decide +kernel
theorem d_Schemas_buildRecord_35 : decode jM_Schemas_buildRecord.2.1 35 = .ok (.aaload, 1) := by decide +kernel
theorem d_Schemas_buildRecord_36 : decode jM_Schemas_buildRecord.2.1 36 = .ok (.aastore, 1) := by decide +kernel
theorem d_Schemas_buildRecord_37 : decode jM_Schemas_buildRecord.2.1 37 = .ok (.iinc 3 1, 3) := by decide +kernel
theorem d_Schemas_buildRecord_40 : decode jM_Schemas_buildRecord.2.1 40 = .ok (.goto (-20), 3) := by decide +kernel
theorem d_Schemas_buildRecord_43 : decode jM_Schemas_buildRecord.2.1 43 = .ok (.iload_n 1, 1) := by decide +kernel
theorem d_Schemas_buildRecord_44 : decode jM_Schemas_buildRecord.2.1 44 = .ok (.aload_n 2, 1) := by decide +kernel
theorem d_Schemas_buildRecord_45 : decode jM_Schemas_buildRecord.2.1 45 = .ok (.invokestatic 97, 3) := by decide +kernel
theorem d_Schemas_buildRecord_48 : decode jM_Schemas_buildRecord.2.1 48 = .ok (.areturn, 1) := by decide +kernel
theorem d_Schema_ofUnion_0 : decode jM_Schema_ofUnion.2.1 0 = .ok (.new 10, 3) := by decide +kernel
theorem d_Schema_ofUnion_3 : decode jM_Schema_ofUnion.2.1 3 = .ok (.dup, 1) := by decide +kernel
theorem d_Schema_ofUnion_4 : decode jM_Schema_ofUnion.2.1 4 = .ok (.bipush 6, 2) := by decide +kernel
theorem d_Schema_ofUnion_6 : decode jM_Schema_ofUnion.2.1 6 = .ok (.iconst 0, 1) := by decide +kernel
theorem d_Schema_ofUnion_7 : decode jM_Schema_ofUnion.2.1 7 = .ok (.iconst 0, 1) := by decide +kernel
theorem d_Schema_ofUnion_8 : decode jM_Schema_ofUnion.2.1 8 = .ok (.iconst (-1), 1) := by decide +kernel
theorem d_Schema_ofUnion_9 : decode jM_Schema_ofUnion.2.1 9 = .ok (.aload_n 0, 1) := by decide +kernel
theorem d_Schema_ofUnion_10 : decode jM_Schema_ofUnion.2.1 10 = .ok (.aload_n 1, 1) := by decide +kernel
theorem d_Schema_ofUnion_11 : decode jM_Schema_ofUnion.2.1 11 = .ok (.iconst 0, 1) := by decide +kernel
theorem d_Schema_ofUnion_12 : decode jM_Schema_ofUnion.2.1 12 = .ok (.anewarray 42, 3) := by decide +kernel
theorem d_Schema_ofUnion_15 : decode jM_Schema_ofUnion.2.1 15 = .ok (.invokespecial 44, 3) := by decide +kernel
theorem d_Schema_ofUnion_18 : decode jM_Schema_ofUnion.2.1 18 = .ok (.areturn, 1) := by decide +kernel
theorem d_Schemas_haveDifferentNames_0 : decode jM_Schemas_haveDifferentNames.2.1 0 = .ok (.aload_n 0, 1) := by decide +kernel
theorem d_Schemas_haveDifferentNames_1 : decode jM_Schemas_haveDifferentNames.2.1 1 = .ok (.getfield 86, 3) := by decide +kernel
theorem d_Schemas_haveDifferentNames_4 : decode jM_Schemas_haveDifferentNames.2.1 4 = .ok (.iconst 4, 1) := by decide +kernel
theorem d_Schemas_haveDifferentNames_5 : decode jM_Schemas_haveDifferentNames.2.1 5 = .ok (.if_icmp .eq 12, 3) := by decide +kernel
theorem d_Schemas_haveDifferentNames_8 : decode jM_Schemas_haveDifferentNames.2.1 8 = .ok (.aload_n 0, 1) := by decide +kernel
theorem d_Schemas_haveDifferentNames_9 : decode jM_Schemas_haveDifferentNames.2.1 9 = .ok (.getfield 86, 3) := by decide +kernel
theorem d_Schemas_haveDifferentNames_12 : decode jM_Schemas_haveDifferentNames.2.1 12 = .ok (.bipush 7, 2) := by decide +kernel
theorem d_Schemas_haveDifferentNames_14 : decode jM_Schemas_haveDifferentNames.2.1 14 = .ok (.if_icmp .ne 7, 3) := by decide +kernel
theorem d_Schemas_haveDifferentNames_17 : decode jM_Schemas_haveDifferentNames.2.1 17 = .ok (.iconst 1, 1) := by decide +kernel
theorem d_Schemas_haveDifferentNames_18 : decode jM_Schemas_haveDifferentNames.2.1 18 = .ok (.goto 4, 3) := by decide +kernel
theorem d_Schemas_haveDifferentNames_21 : decode jM_Schemas_haveDifferentNames.2.1 21 = .ok (.iconst 0, 1) := by decide +kernel
theorem d_Schemas_haveDifferentNames_22 : decode jM_Schemas_haveDifferentNames.2.1 22 = .ok (.istore_n 2, 1) := by decide +kernel
theorem d_Schemas_haveDifferentNames_23 : decode jM_Schemas_haveDifferentNames.2.1 23 = .ok (.iload_n 2, 1) := by decide +kernel
theorem d_Schemas_haveDifferentNames_24 : decode jM_Schemas_haveDifferentNames.2.1 24 = .ok (.ifCond .eq 18, 3) := by decide +kernel
theorem d_Schemas_haveDifferentNames_27 : decode jM_Schemas_haveDifferentNames.2.1 27 = .ok (.aload_n 0, 1) := by decide +kernel
theorem d_Schemas_haveDifferentNames_28 : decode jM_Schemas_haveDifferentNames.2.1 28 = .ok (.getfield 96, 3) := by decide +kernel
theorem d_Schemas_haveDifferentNames_31 : decode jM_Schemas_haveDifferentNames.2.1 31 = .ok (.aload_n 1, 1) := by decide +kernel
theorem d_Schemas_haveDifferentNames_32 : decode jM_Schemas_haveDifferentNames.2.1 32 = .ok (.getfield 96, 3) := by decide +kernel
theorem d_Schemas_haveDifferentNames_35 : decode jM_Schemas_haveDifferentNames.2.1 35 = .ok (.if_icmp .eq 7, 3) := by decide +kernel
theorem d_Schemas_haveDifferentNames_38 : decode jM_Schemas_haveDifferentNames.2.1 38 = .ok (.iconst 1, 1) := by decide +kernel
theorem d_Schemas_haveDifferentNames_39 : decode jM_Schemas_haveDifferentNames.2.1 39 = .ok (.goto 4, 3) := by decide +kernel
theorem d_Schemas_haveDifferentNames_42 : decode jM_Schemas_haveDifferentNames.2.1 42 = .ok (.iconst 0, 1) := by decide +kernel
theorem d_Schemas_haveDifferentNames_43 : decode jM_Schemas_haveDifferentNames.2.1 43 = .ok (.ireturn, 1) := by decide +kernel
theorem d_Schemas_buildUnion_0 : decode jM_Schemas_buildUnion.2.1 0 = .ok (.aload_n 0, 1) := by decide +kernel
theorem d_Schemas_buildUnion_1 : decode jM_Schemas_buildUnion.2.1 1 = .ok (.ifnull 7, 3) := by decide +kernel
theorem d_Schemas_buildUnion_4 : decode jM_Schemas_buildUnion.2.1 4 = .ok (.aload_n 1, 1) := by decide +kernel
theorem d_Schemas_buildUnion_5 : decode jM_Schemas_buildUnion.2.1 5 = .ok (.ifnonnull 5, 3) := by decide +kernel
theorem d_Schemas_buildUnion_8 : decode jM_Schemas_buildUnion.2.1 8 = .ok (.aconst_null, 1) := by decide +kernel
theorem d_Schemas_buildUnion_9 : decode jM_Schemas_buildUnion.2.1 9 = .ok (.areturn, 1) := by decide +kernel
theorem d_Schemas_buildUnion_10 : decode jM_Schemas_buildUnion.2.1 10 = .ok (.aload_n 0, 1) := by decide +kernel
theorem d_Schemas_buildUnion_11 : decode jM_Schemas_buildUnion.2.1 11 = .ok (.getfield 86, 3) := by decide +kernel
theorem d_Schemas_buildUnion_14 : decode jM_Schemas_buildUnion.2.1 14 = .ok (.bipush 6, 2) := by decide +kernel
theorem d_Schemas_buildUnion_16 : decode jM_Schemas_buildUnion.2.1 16 = .ok (.if_icmp .eq 12, 3) := by decide +kernel
theorem d_Schemas_buildUnion_19 : decode jM_Schemas_buildUnion.2.1 19 = .ok (.aload_n 1, 1) := by decide +kernel
theorem d_Schemas_buildUnion_20 : decode jM_Schemas_buildUnion.2.1 20 = .ok (.getfield 86, 3) := by decide +kernel
theorem d_Schemas_buildUnion_23 : decode jM_Schemas_buildUnion.2.1 23 = .ok (.bipush 6, 2) := by decide +kernel
theorem d_Schemas_buildUnion_25 : decode jM_Schemas_buildUnion.2.1 25 = .ok (.if_icmp .ne 5, 3) := by decide +kernel
theorem d_Schemas_buildUnion_28 : decode jM_Schemas_buildUnion.2.1 28 = .ok (.aconst_null, 1) := by decide +kernel
theorem d_Schemas_buildUnion_29 : decode jM_Schemas_buildUnion.2.1 29 = .ok (.areturn, 1) := by decide +kernel
theorem d_Schemas_buildUnion_30 : decode jM_Schemas_buildUnion.2.1 30 = .ok (.aload_n 0, 1) := by decide +kernel
theorem d_Schemas_buildUnion_31 : decode jM_Schemas_buildUnion.2.1 31 = .ok (.getfield 86, 3) := by decide +kernel
theorem d_Schemas_buildUnion_34 : decode jM_Schemas_buildUnion.2.1 34 = .ok (.aload_n 1, 1) := by decide +kernel
theorem d_Schemas_buildUnion_35 : decode jM_Schemas_buildUnion.2.1 35 = .ok (.getfield 86, 3) := by decide +kernel
theorem d_Schemas_buildUnion_38 : decode jM_Schemas_buildUnion.2.1 38 = .ok (.if_icmp .ne 11, 3) := by decide +kernel
theorem d_Schemas_buildUnion_41 : decode jM_Schemas_buildUnion.2.1 41 = .ok (.aload_n 0, 1) := by decide +kernel
theorem d_Schemas_buildUnion_42 : decode jM_Schemas_buildUnion.2.1 42 = .ok (.aload_n 1, 1) := by decide +kernel
theorem d_Schemas_buildUnion_43 : decode jM_Schemas_buildUnion.2.1 43 = .ok (.invokestatic 89, 3) := by decide +kernel
theorem d_Schemas_buildUnion_46 : decode jM_Schemas_buildUnion.2.1 46 = .ok (.ifCond .eq 7, 3) := by decide +kernel
theorem d_Schemas_buildUnion_49 : decode jM_Schemas_buildUnion.2.1 49 = .ok (.iconst 1, 1) := by decide +kernel
theorem d_Schemas_buildUnion_50 : decode jM_Schemas_buildUnion.2.1 50 = .ok (.goto 4, 3) := by decide +kernel
theorem d_Schemas_buildUnion_53 : decode jM_Schemas_buildUnion.2.1 53 = .ok (.iconst 0, 1) := by decide +kernel
theorem d_Schemas_buildUnion_54 : decode jM_Schemas_buildUnion.2.1 54 = .ok (.istore_n 2, 1) := by decide +kernel
theorem d_Schemas_buildUnion_55 : decode jM_Schemas_buildUnion.2.1 55 = .ok (.iload_n 2, 1) := by decide +kernel
theorem d_Schemas_buildUnion_56 : decode jM_Schemas_buildUnion.2.1 56 = .ok (.ifCond .eq 11, 3) := by decide +kernel
theorem d_Schemas_buildUnion_59 : decode jM_Schemas_buildUnion.2.1 59 = .ok (.aload_n 0, 1) := by decide +kernel
theorem d_Schemas_buildUnion_60 : decode jM_Schemas_buildUnion.2.1 60 = .ok (.aload_n 1, 1) := by decide +kernel
theorem d_Schemas_buildUnion_61 : decode jM_Schemas_buildUnion.2.1 61 = .ok (.invokestatic 93, 3) := by decide +kernel
theorem d_Schemas_buildUnion_64 : decode jM_Schemas_buildUnion.2.1 64 = .ok (.goto 4, 3) := by decide +kernel
theorem d_Schemas_buildUnion_67 : decode jM_Schemas_buildUnion.2.1 67 = .ok (.aconst_null, 1) := by decide +kernel
theorem d_Schemas_buildUnion_68 : decode jM_Schemas_buildUnion.2.1 68 = .ok (.areturn, 1) := by decide +kernel
theorem d_Schemas_build_0 : decode jM_Schemas_build.2.1 0 = .ok (.iload_n 1, 1) := by decide +kernel
theorem d_Schemas_build_1 : decode jM_Schemas_build.2.1 1 = .ok (.tableswitch 90 0 7 #[47, 47, 47, 47, 52, 60, 69, 84], 47) := by decide +kernel
theorem d_Schemas_build_48 : decode jM_Schemas_build.2.1 48 = .ok (.iload_n 1, 1) := by decide +kernel
theorem d_Schemas_build_49 : decode jM_Schemas_build.2.1 49 = .ok (.invokestatic 55, 3) := by decide +kernel
theorem d_Schemas_build_52 : decode jM_Schemas_build.2.1 52 = .ok (.areturn, 1) := by decide +kernel
theorem d_Schemas_build_53 : decode jM_Schemas_build.2.1 53 = .ok (.iload_n 2, 1) := by decide +kernel
theorem d_Schemas_build_54 : decode jM_Schemas_build.2.1 54 = .ok (.iload_n 3, 1) := by decide +kernel
theorem d_Schemas_build_55 : decode jM_Schemas_build.2.1 55 = .ok (.iload 4, 2) := by decide +kernel
theorem d_Schemas_build_57 : decode jM_Schemas_build.2.1 57 = .ok (.invokestatic 59, 3) := by decide +kernel
theorem d_Schemas_build_60 : decode jM_Schemas_build.2.1 60 = .ok (.areturn, 1) := by decide +kernel
theorem d_Schemas_build_61 : decode jM_Schemas_build.2.1 61 = .ok (.aload_n 0, 1) := by decide +kernel
theorem d_Schemas_build_62 : decode jM_Schemas_build.2.1 62 = .ok (.iload_n 3, 1) := by decide +kernel
theorem d_Schemas_build_63 : decode jM_Schemas_build.2.1 63 = .ok (.invokevirtual 63, 3) := by decide +kernel
theorem d_Schemas_build_66 : decode jM_Schemas_build.2.1 66 = .ok (.invokestatic 66, 3) := by decide +kernel
theorem d_Schemas_build_69 : decode jM_Schemas_build.2.1 69 = .ok (.areturn, 1) := by decide +kernel
theorem d_Schemas_build_70 : decode jM_Schemas_build.2.1 70 = .ok (.aload_n 0, 1) := by decide +kernel
theorem d_Schemas_build_71 : decode jM_Schemas_build.2.1 71 = .ok (.iload_n 3, 1) := by decide +kernel
theorem d_Schemas_build_72 : decode jM_Schemas_build.2.1 72 = .ok (.invokevirtual 63, 3) := by decide +kernel
theorem d_Schemas_build_75 : decode jM_Schemas_build.2.1 75 = .ok (.aload_n 0, 1) := by decide +kernel
theorem d_Schemas_build_76 : decode jM_Schemas_build.2.1 76 = .ok (.iload 4, 2) := by decide +kernel
theorem d_Schemas_build_78 : decode jM_Schemas_build.2.1 78 = .ok (.invokevirtual 63, 3) := by decide +kernel
theorem d_Schemas_build_81 : decode jM_Schemas_build.2.1 81 = .ok (.invokestatic 70, 3) := by decide +kernel
theorem d_Schemas_build_84 : decode jM_Schemas_build.2.1 84 = .ok (.areturn, 1) := by decide +kernel
theorem d_Schemas_build_85 : decode jM_Schemas_build.2.1 85 = .ok (.aload_n 0, 1) := by decide +kernel
theorem d_Schemas_build_86 : decode jM_Schemas_build.2.1 86 = .ok (.iload_n 2, 1) := by decide +kernel
theorem d_Schemas_build_87 : decode jM_Schemas_build.2.1 87 = .ok (.invokevirtual 74, 3) := by decide +kernel
theorem d_Schemas_build_90 : decode jM_Schemas_build.2.1 90 = .ok (.areturn, 1) := by decide +kernel
theorem d_Schemas_build_91 : decode jM_Schemas_build.2.1 91 = .ok (.aconst_null, 1) := by decide +kernel
theorem d_Schemas_build_92 : decode jM_Schemas_build.2.1 92 = .ok (.areturn, 1) := by decide +kernel
theorem d_Schemas_addSchema_0 : decode jM_Schemas_addSchema.2.1 0 = .ok (.aload_n 0, 1) := by decide +kernel
theorem d_Schemas_addSchema_1 : decode jM_Schemas_addSchema.2.1 1 = .ok (.getfield 23, 3) := by decide +kernel
theorem d_Schemas_addSchema_4 : decode jM_Schemas_addSchema.2.1 4 = .ok (.bipush 24, 2) := by decide +kernel
theorem d_Schemas_addSchema_6 : decode jM_Schemas_addSchema.2.1 6 = .ok (.if_icmp .ne 5, 3) := by decide +kernel
theorem d_Schemas_addSchema_9 : decode jM_Schemas_addSchema.2.1 9 = .ok (.iconst (-1), 1) := by decide +kernel
theorem d_Schemas_addSchema_10 : decode jM_Schemas_addSchema.2.1 10 = .ok (.ireturn, 1) := by decide +kernel
theorem d_Schemas_addSchema_11 : decode jM_Schemas_addSchema.2.1 11 = .ok (.aload_n 0, 1) := by decide +kernel
theorem d_Schemas_addSchema_12 : decode jM_Schemas_addSchema.2.1 12 = .ok (.iload_n 1, 1) := by decide +kernel
theorem d_Schemas_addSchema_13 : decode jM_Schemas_addSchema.2.1 13 = .ok (.iload_n 2, 1) := by decide +kernel
theorem d_Schemas_addSchema_14 : decode jM_Schemas_addSchema.2.1 14 = .ok (.iload_n 3, 1) := by decide +kernel
theorem d_Schemas_addSchema_15 : decode jM_Schemas_addSchema.2.1 15 = .ok (.iload 4, 2) := by decide +kernel
theorem d_Schemas_addSchema_17 : decode jM_Schemas_addSchema.2.1 17 = .ok (.invokevirtual 45, 3) := by decide +kernel
theorem d_Schemas_addSchema_20 : decode jM_Schemas_addSchema.2.1 20 = .ok (.astore 5, 2) := by decide +kernel
theorem d_Schemas_addSchema_22 : decode jM_Schemas_addSchema.2.1 22 = .ok (.aload 5, 2) := by decide +kernel
theorem d_Schemas_addSchema_24 : decode jM_Schemas_addSchema.2.1 24 = .ok (.ifnull 13, 3) := by decide +kernel
theorem d_Schemas_addSchema_27 : decode jM_Schemas_addSchema.2.1 27 = .ok (.aload 5, 2) := by decide +kernel
theorem d_Schemas_addSchema_29 : decode jM_Schemas_addSchema.2.1 29 = .ok (.getfield 49, 3) := by decide +kernel
theorem d_Schemas_addSchema_32 : decode jM_Schemas_addSchema.2.1 32 = .ok (.bipush 6, 2) := by decide +kernel
theorem d_Schemas_addSchema_34 : decode jM_Schemas_addSchema.2.1 34 = .ok (.if_icmp .le 5, 3) := by decide +kernel
theorem d_Schemas_addSchema_37 : decode jM_Schemas_addSchema.2.1 37 = .ok (.iconst (-1), 1) := by decide +kernel
theorem d_Schemas_addSchema_38 : decode jM_Schemas_addSchema.2.1 38 = .ok (.ireturn, 1) := by decide +kernel
theorem d_Schemas_addSchema_39 : decode jM_Schemas_addSchema.2.1 39 = .ok (.iload_n 1, 1) := by decide +kernel
theorem d_Schemas_addSchema_40 : decode jM_Schemas_addSchema.2.1 40 = .ok (.bipush 7, 2) := by decide +kernel
theorem d_Schemas_addSchema_42 : decode jM_Schemas_addSchema.2.1 42 = .ok (.if_icmp .ne 8, 3) := by decide +kernel
theorem d_Schemas_addSchema_45 : decode jM_Schemas_addSchema.2.1 45 = .ok (.aload_n 0, 1) := by decide +kernel
theorem d_Schemas_addSchema_46 : decode jM_Schemas_addSchema.2.1 46 = .ok (.iconst 0, 1) := by decide +kernel
theorem d_Schemas_addSchema_47 : decode jM_Schemas_addSchema.2.1 47 = .ok (.putfield 27, 3) := by decide +kernel
theorem d_Schemas_addSchema_50 : decode jM_Schemas_addSchema.2.1 50 = .ok (.aload_n 0, 1) := by decide +kernel
theorem d_Schemas_addSchema_51 : decode jM_Schemas_addSchema.2.1 51 = .ok (.getfield 13, 3) := by decide +kernel
theorem d_Schemas_addSchema_54 : decode jM_Schemas_addSchema.2.1 54 = .ok (.aload_n 0, 1) := by decide +kernel
theorem d_Schemas_addSchema_55 : decode jM_Schemas_addSchema.2.1 55 = .ok (.getfield 23, 3) := by decide +kernel
theorem d_Schemas_addSchema_58 : decode jM_Schemas_addSchema.2.1 58 = .ok (.aload 5, 2) := by decide +kernel
theorem d_Schemas_addSchema_60 : decode jM_Schemas_addSchema.2.1 60 = .ok (.aastore, 1) := by decide +kernel
theorem d_Schemas_addSchema_61 : decode jM_Schemas_addSchema.2.1 61 = .ok (.aload_n 0, 1) := by decide +kernel
theorem d_Schemas_addSchema_62 : decode jM_Schemas_addSchema.2.1 62 = .ok (.dup, 1) := by decide +kernel
theorem d_Schemas_addSchema_63 : decode jM_Schemas_addSchema.2.1 63 = .ok (.getfield 23, 3) := by decide +kernel
theorem d_Schemas_addSchema_66 : decode jM_Schemas_addSchema.2.1 66 = .ok (.iconst 1, 1) := by decide +kernel
theorem d_Schemas_addSchema_67 : decode jM_Schemas_addSchema.2.1 67 = .ok (.iadd, 1) := by decide +kernel
theorem d_Schemas_addSchema_68 : decode jM_Schemas_addSchema.2.1 68 = .ok (.putfield 23, 3) := by decide +kernel
theorem d_Schemas_addSchema_71 : decode jM_Schemas_addSchema.2.1 71 = .ok (.aload_n 0, 1) := by decide +kernel
theorem d_Schemas_addSchema_72 : decode jM_Schemas_addSchema.2.1 72 = .ok (.getfield 23, 3) := by decide +kernel
theorem d_Schemas_addSchema_75 : decode jM_Schemas_addSchema.2.1 75 = .ok (.iconst 1, 1) := by decide +kernel
theorem d_Schemas_addSchema_76 : decode jM_Schemas_addSchema.2.1 76 = .ok (.isub, 1) := by decide +kernel
theorem d_Schemas_addSchema_77 : decode jM_Schemas_addSchema.2.1 77 = .ok (.ireturn, 1) := by decide +kernel
theorem d_ST_make_0 : decode jM_ST_make.2.1 0 = .ok (.aload_n 0, 1) := by decide +kernel
theorem d_ST_make_1 : decode jM_ST_make.2.1 1 = .ok (.getfield 13, 3) := by decide +kernel
theorem d_ST_make_4 : decode jM_ST_make.2.1 4 = .ok (.iload_n 1, 1) := by decide +kernel
theorem d_ST_make_5 : decode jM_ST_make.2.1 5 = .ok (.iload_n 2, 1) := by decide +kernel
theorem d_ST_make_6 : decode jM_ST_make.2.1 6 = .ok (.iload_n 3, 1) := by decide +kernel
theorem d_ST_make_7 : decode jM_ST_make.2.1 7 = .ok (.iload 4, 2) := by decide +kernel
theorem d_ST_make_9 : decode jM_ST_make.2.1 9 = .ok (.invokevirtual 69, 3) := by decide +kernel
theorem d_ST_make_12 : decode jM_ST_make.2.1 12 = .ok (.ireturn, 1) := by decide +kernel
theorem d_Schema_branch_0 : decode jM_Schema_branch.2.1 0 = .ok (.lload_n 1, 1) := by decide +kernel
theorem d_Schema_branch_1 : decode jM_Schema_branch.2.1 1 = .ok (.lconst 0, 1) := by decide +kernel
theorem d_Schema_branch_2 : decode jM_Schema_branch.2.1 2 = .ok (.lcmp, 1) := by decide +kernel
theorem d_Schema_branch_3 : decode jM_Schema_branch.2.1 3 = .ok (.ifCond .ne 10, 3) := by decide +kernel
theorem d_Schema_branch_6 : decode jM_Schema_branch.2.1 6 = .ok (.aload_n 0, 1) := by decide +kernel
theorem d_Schema_branch_7 : decode jM_Schema_branch.2.1 7 = .ok (.getfield 24, 3) := by decide +kernel
theorem d_Schema_branch_10 : decode jM_Schema_branch.2.1 10 = .ok (.goto 7, 3) := by decide +kernel
theorem d_Schema_branch_13 : decode jM_Schema_branch.2.1 13 = .ok (.aload_n 0, 1) := by decide +kernel
theorem d_Schema_branch_14 : decode jM_Schema_branch.2.1 14 = .ok (.getfield 28, 3) := by decide +kernel
theorem d_Schema_branch_17 : decode jM_Schema_branch.2.1 17 = .ok (.areturn, 1) := by decide +kernel
theorem d_Schema_haveFittingKinds_0 : decode jM_Schema_haveFittingKinds.2.1 0 = .ok (.aload_n 1, 1) := by decide +kernel
theorem d_Schema_haveFittingKinds_1 : decode jM_Schema_haveFittingKinds.2.1 1 = .ok (.getfield 9, 3) := by decide +kernel
theorem d_Schema_haveFittingKinds_4 : decode jM_Schema_haveFittingKinds.2.1 4 = .ok (.aload_n 0, 1) := by decide +kernel
theorem d_Schema_haveFittingKinds_5 : decode jM_Schema_haveFittingKinds.2.1 5 = .ok (.getfield 9, 3) := by decide +kernel
theorem d_Schema_haveFittingKinds_8 : decode jM_Schema_haveFittingKinds.2.1 8 = .ok (.if_icmp .eq 19, 3) := by decide +kernel
theorem d_Schema_haveFittingKinds_11 : decode jM_Schema_haveFittingKinds.2.1 11 = .ok (.aload_n 1, 1) := by decide +kernel
theorem d_Schema_haveFittingKinds_12 : decode jM_Schema_haveFittingKinds.2.1 12 = .ok (.getfield 9, 3) := by decide +kernel
theorem d_Schema_haveFittingKinds_15 : decode jM_Schema_haveFittingKinds.2.1 15 = .ok (.iconst 2, 1) := by decide +kernel
theorem d_Schema_haveFittingKinds_16 : decode jM_Schema_haveFittingKinds.2.1 16 = .ok (.if_icmp .ne 15, 3) := by decide +kernel
theorem d_Schema_haveFittingKinds_19 : decode jM_Schema_haveFittingKinds.2.1 19 = .ok (.aload_n 0, 1) := by decide +kernel
theorem d_Schema_haveFittingKinds_20 : decode jM_Schema_haveFittingKinds.2.1 20 = .ok (.getfield 9, 3) := by decide +kernel
theorem d_Schema_haveFittingKinds_23 : decode jM_Schema_haveFittingKinds.2.1 23 = .ok (.iconst 3, 1) := by decide +kernel
theorem d_Schema_haveFittingKinds_24 : decode jM_Schema_haveFittingKinds.2.1 24 = .ok (.if_icmp .ne 7, 3) := by decide +kernel
theorem d_Schema_haveFittingKinds_27 : decode jM_Schema_haveFittingKinds.2.1 27 = .ok (.iconst 1, 1) := by decide +kernel
theorem d_Schema_haveFittingKinds_28 : decode jM_Schema_haveFittingKinds.2.1 28 = .ok (.goto 4, 3) := by decide +kernel
theorem d_Schema_haveFittingKinds_31 : decode jM_Schema_haveFittingKinds.2.1 31 = .ok (.iconst 0, 1) := by decide +kernel
theorem d_Schema_haveFittingKinds_32 : decode jM_Schema_haveFittingKinds.2.1 32 = .ok (.ireturn, 1) := by decide +kernel
theorem d_Schema_match_0 : decode jM_Schema_match.2.1 0 = .ok (.aload_n 0, 1) := by decide +kernel
theorem d_Schema_match_1 : decode jM_Schema_match.2.1 1 = .ok (.getfield 9, 3) := by decide +kernel
theorem d_Schema_match_4 : decode jM_Schema_match.2.1 4 = .ok (.bipush 6, 2) := by decide +kernel
theorem d_Schema_match_6 : decode jM_Schema_match.2.1 6 = .ok (.if_icmp .eq 12, 3) := by decide +kernel
theorem d_Schema_match_9 : decode jM_Schema_match.2.1 9 = .ok (.aload_n 1, 1) := by decide +kernel
theorem d_Schema_match_10 : decode jM_Schema_match.2.1 10 = .ok (.getfield 9, 3) := by decide +kernel
theorem d_Schema_match_13 : decode jM_Schema_match.2.1 13 = .ok (.bipush 6, 2) := by decide +kernel
theorem d_Schema_match_15 : decode jM_Schema_match.2.1 15 = .ok (.if_icmp .ne 5, 3) := by decide +kernel
theorem d_Schema_match_18 : decode jM_Schema_match.2.1 18 = .ok (.iconst 1, 1) := by decide +kernel
theorem d_Schema_match_19 : decode jM_Schema_match.2.1 19 = .ok (.ireturn, 1) := by decide +kernel
theorem d_Schema_match_20 : decode jM_Schema_match.2.1 20 = .ok (.aload_n 1, 1) := by decide +kernel
theorem d_Schema_match_21 : decode jM_Schema_match.2.1 21 = .ok (.aload_n 0, 1) := by decide +kernel
theorem d_Schema_match_22 : decode jM_Schema_match.2.1 22 = .ok (.invokestatic 82, 3) := by decide +kernel
theorem d_Schema_match_25 : decode jM_Schema_match.2.1 25 = .ok (.ifCond .ne 5, 3) := by decide +kernel
theorem d_Schema_match_28 : decode jM_Schema_match.2.1 28 = .ok (.iconst 0, 1) := by decide +kernel
theorem d_Schema_match_29 : decode jM_Schema_match.2.1 29 = .ok (.ireturn, 1) := by decide +kernel
theorem d_Schema_match_30 : decode jM_Schema_match.2.1 30 = .ok (.aload_n 1, 1) := by decide +kernel
theorem d_Schema_match_31 : decode jM_Schema_match.2.1 31 = .ok (.getfield 9, 3) := by decide +kernel
theorem d_Schema_match_34 : decode jM_Schema_match.2.1 34 = .ok (.tableswitch 59 4 7 #[30, 47, 59, 30], 30) := by decide +kernel
theorem d_Schema_match_64 : decode jM_Schema_match.2.1 64 = .ok (.aload_n 0, 1) := by decide +kernel
theorem d_Schema_match_65 : decode jM_Schema_match.2.1 65 = .ok (.getfield 15, 3) := by decide +kernel
theorem d_Schema_match_68 : decode jM_Schema_match.2.1 68 = .ok (.aload_n 1, 1) := by decide +kernel
theorem d_Schema_match_69 : decode jM_Schema_match.2.1 69 = .ok (.getfield 15, 3) := by decide +kernel
theorem d_Schema_match_72 : decode jM_Schema_match.2.1 72 = .ok (.if_icmp .ne 7, 3) := by decide +kernel
theorem d_Schema_match_75 : decode jM_Schema_match.2.1 75 = .ok (.iconst 1, 1) := by decide +kernel
theorem d_Schema_match_76 : decode jM_Schema_match.2.1 76 = .ok (.goto 4, 3) := by decide +kernel
theorem d_Schema_match_79 : decode jM_Schema_match.2.1 79 = .ok (.iconst 0, 1) := by decide +kernel
theorem d_Schema_match_80 : decode jM_Schema_match.2.1 80 = .ok (.ireturn, 1) := by decide +kernel
theorem d_Schema_match_81 : decode jM_Schema_match.2.1 81 = .ok (.aload_n 0, 1) := by decide +kernel
theorem d_Schema_match_82 : decode jM_Schema_match.2.1 82 = .ok (.getfield 24, 3) := by decide +kernel
theorem d_Schema_match_85 : decode jM_Schema_match.2.1 85 = .ok (.aload_n 1, 1) := by decide +kernel
theorem d_Schema_match_86 : decode jM_Schema_match.2.1 86 = .ok (.getfield 24, 3) := by decide +kernel
theorem d_Schema_match_89 : decode jM_Schema_match.2.1 89 = .ok (.invokestatic 86, 3) := by decide +kernel
theorem d_Schema_match_92 : decode jM_Schema_match.2.1 92 = .ok (.ireturn, 1) := by decide +kernel
theorem d_Schema_match_93 : decode jM_Schema_match.2.1 93 = .ok (.iconst 1, 1) := by decide +kernel
theorem d_Schema_match_94 : decode jM_Schema_match.2.1 94 = .ok (.ireturn, 1) := by decide +kernel
theorem d_Schema_matchingBranch_0 : decode jM_Schema_matchingBranch.2.1 0 = .ok (.aload_n 1, 1) := by decide +kernel
theorem d_Schema_matchingBranch_1 : decode jM_Schema_matchingBranch.2.1 1 = .ok (.aload_n 0, 1) := by decide +kernel
theorem d_Schema_matchingBranch_2 : decode jM_Schema_matchingBranch.2.1 2 = .ok (.getfield 24, 3) := by decide +kernel
theorem d_Schema_matchingBranch_5 : decode jM_Schema_matchingBranch.2.1 5 = .ok (.invokestatic 86, 3) := by decide +kernel
theorem d_Schema_matchingBranch_8 : decode jM_Schema_matchingBranch.2.1 8 = .ok (.ifCond .eq 5, 3) := by decide +kernel
theorem d_Schema_matchingBranch_11 : decode jM_Schema_matchingBranch.2.1 11 = .ok (.iconst 0, 1) := by decide +kernel
theorem d_Schema_matchingBranch_12 : decode jM_Schema_matchingBranch.2.1 12 = .ok (.ireturn, 1) := by decide +kernel
theorem d_Schema_matchingBranch_13 : decode jM_Schema_matchingBranch.2.1 13 = .ok (.aload_n 1, 1) := by decide +kernel
theorem d_Schema_matchingBranch_14 : decode jM_Schema_matchingBranch.2.1 14 = .ok (.aload_n 0, 1) := by decide +kernel
theorem d_Schema_matchingBranch_15 : decode jM_Schema_matchingBranch.2.1 15 = .ok (.getfield 28, 3) := by decide +kernel
theorem d_Schema_matchingBranch_18 : decode jM_Schema_matchingBranch.2.1 18 = .ok (.invokestatic 86, 3) := by decide +kernel
theorem d_Schema_matchingBranch_21 : decode jM_Schema_matchingBranch.2.1 21 = .ok (.ifCond .eq 7, 3) := by decide +kernel
theorem d_Schema_matchingBranch_24 : decode jM_Schema_matchingBranch.2.1 24 = .ok (.iconst 1, 1) := by decide +kernel
theorem d_Schema_matchingBranch_25 : decode jM_Schema_matchingBranch.2.1 25 = .ok (.goto 4, 3) := by decide +kernel
theorem d_Schema_matchingBranch_28 : decode jM_Schema_matchingBranch.2.1 28 = .ok (.iconst (-1), 1) := by decide +kernel
theorem d_Schema_matchingBranch_29 : decode jM_Schema_matchingBranch.2.1 29 = .ok (.ireturn, 1) := by decide +kernel
theorem d_Schema_fieldOf_0 : decode jM_Schema_fieldOf.2.1 0 = .ok (.iconst 0, 1) := by decide +kernel
theorem d_Schema_fieldOf_1 : decode jM_Schema_fieldOf.2.1 1 = .ok (.istore_n 2, 1) := by decide +kernel
theorem d_Schema_fieldOf_2 : decode jM_Schema_fieldOf.2.1 2 = .ok (.iload_n 2, 1) := by decide +kernel
theorem d_Schema_fieldOf_3 : decode jM_Schema_fieldOf.2.1 3 = .ok (.aload_n 0, 1) := by decide +kernel
theorem d_Schema_fieldOf_4 : decode jM_Schema_fieldOf.2.1 4 = .ok (.getfield 31, 3) := by decide +kernel
theorem d_Schema_fieldOf_7 : decode jM_Schema_fieldOf.2.1 7 = .ok (.arraylength, 1) := by decide +kernel
theorem d_Schema_fieldOf_8 : decode jM_Schema_fieldOf.2.1 8 = .ok (.if_icmp .ge 29, 3) := by decide +kernel
theorem d_Schema_fieldOf_11 : decode jM_Schema_fieldOf.2.1 11 = .ok (.aload_n 0, 1) := by decide +kernel
theorem d_Schema_fieldOf_12 : decode jM_Schema_fieldOf.2.1 12 = .ok (.getfield 31, 3) := by decide +kernel
theorem d_Schema_fieldOf_15 : decode jM_Schema_fieldOf.2.1 15 = .ok (.iload_n 2, 1) := by decide +kernel
theorem d_Schema_fieldOf_16 : decode jM_Schema_fieldOf.2.1 16 = .ok (.aaload, 1) := by decide +kernel
theorem d_Schema_fieldOf_17 : decode jM_Schema_fieldOf.2.1 17 = .ok (.getfield 74, 3) := by decide +kernel
theorem d_Schema_fieldOf_20 : decode jM_Schema_fieldOf.2.1 20 = .ok (.iload_n 1, 1) := by decide +kernel
theorem d_Schema_fieldOf_21 : decode jM_Schema_fieldOf.2.1 21 = .ok (.if_icmp .ne 10, 3) := by decide +kernel
theorem d_Schema_fieldOf_24 : decode jM_Schema_fieldOf.2.1 24 = .ok (.aload_n 0, 1) := by decide +kernel
theorem d_Schema_fieldOf_25 : decode jM_Schema_fieldOf.2.1 25 = .ok (.getfield 31, 3) := by decide +kernel
theorem d_Schema_fieldOf_28 : decode jM_Schema_fieldOf.2.1 28 = .ok (.iload_n 2, 1) := by decide +kernel
theorem d_Schema_fieldOf_29 : decode jM_Schema_fieldOf.2.1 29 = .ok (.aaload, 1) := by decide +kernel
theorem d_Schema_fieldOf_30 : decode jM_Schema_fieldOf.2.1 30 = .ok (.areturn, 1) := by decide +kernel
theorem d_Schema_fieldOf_31 : decode jM_Schema_fieldOf.2.1 31 = .ok (.iinc 2 1, 3) := by decide +kernel
theorem d_Schema_fieldOf_34 : decode jM_Schema_fieldOf.2.1 34 = .ok (.goto (-32), 3) := by decide +kernel
theorem d_Schema_fieldOf_37 : decode jM_Schema_fieldOf.2.1 37 = .ok (.aconst_null, 1) := by decide +kernel
theorem d_Schema_fieldOf_38 : decode jM_Schema_fieldOf.2.1 38 = .ok (.areturn, 1) := by decide +kernel
theorem d_Schema_readsFields_0 : decode jM_Schema_readsFields.2.1 0 = .ok (.iconst 0, 1) := by decide +kernel
theorem d_Schema_readsFields_1 : decode jM_Schema_readsFields.2.1 1 = .ok (.istore_n 2, 1) := by decide +kernel
theorem d_Schema_readsFields_2 : decode jM_Schema_readsFields.2.1 2 = .ok (.iload_n 2, 1) := by decide +kernel
theorem d_Schema_readsFields_3 : decode jM_Schema_readsFields.2.1 3 = .ok (.aload_n 0, 1) := by decide +kernel
theorem d_Schema_readsFields_4 : decode jM_Schema_readsFields.2.1 4 = .ok (.getfield 31, 3) := by decide +kernel
theorem d_Schema_readsFields_7 : decode jM_Schema_readsFields.2.1 7 = .ok (.arraylength, 1) := by decide +kernel
theorem d_Schema_readsFields_8 : decode jM_Schema_readsFields.2.1 8 = .ok (.if_icmp .ge 59, 3) := by decide +kernel
theorem d_Schema_readsFields_11 : decode jM_Schema_readsFields.2.1 11 = .ok (.aload_n 0, 1) := by decide +kernel
theorem d_Schema_readsFields_12 : decode jM_Schema_readsFields.2.1 12 = .ok (.getfield 31, 3) := by decide +kernel
theorem d_Schema_readsFields_15 : decode jM_Schema_readsFields.2.1 15 = .ok (.iload_n 2, 1) := by decide +kernel
theorem d_Schema_readsFields_16 : decode jM_Schema_readsFields.2.1 16 = .ok (.aaload, 1) := by decide +kernel
theorem d_Schema_readsFields_17 : decode jM_Schema_readsFields.2.1 17 = .ok (.astore_n 3, 1) := by decide +kernel
theorem d_Schema_readsFields_18 : decode jM_Schema_readsFields.2.1 18 = .ok (.aload_n 1, 1) := by decide +kernel
theorem d_Schema_readsFields_19 : decode jM_Schema_readsFields.2.1 19 = .ok (.aload_n 3, 1) := by decide +kernel
theorem d_Schema_readsFields_20 : decode jM_Schema_readsFields.2.1 20 = .ok (.getfield 74, 3) := by decide +kernel
theorem d_Schema_readsFields_23 : decode jM_Schema_readsFields.2.1 23 = .ok (.invokevirtual 103, 3) := by decide +kernel
theorem d_Schema_readsFields_26 : decode jM_Schema_readsFields.2.1 26 = .ok (.astore 4, 2) := by decide +kernel
theorem d_Schema_readsFields_28 : decode jM_Schema_readsFields.2.1 28 = .ok (.aload 4, 2) := by decide +kernel
theorem d_Schema_readsFields_30 : decode jM_Schema_readsFields.2.1 30 = .ok (.ifnonnull 10, 3) := by decide +kernel
theorem d_Schema_readsFields_33 : decode jM_Schema_readsFields.2.1 33 = .ok (.aload_n 3, 1) := by decide +kernel
theorem d_Schema_readsFields_34 : decode jM_Schema_readsFields.2.1 34 = .ok (.getfield 107, 3) := by decide +kernel
theorem d_Schema_readsFields_37 : decode jM_Schema_readsFields.2.1 37 = .ok (.goto 15, 3) := by decide +kernel
theorem d_Schema_readsFields_40 : decode jM_Schema_readsFields.2.1 40 = .ok (.aload_n 3, 1) := by decide +kernel
theorem d_Schema_readsFields_41 : decode jM_Schema_readsFields.2.1 41 = .ok (.getfield 53, 3) := by decide +kernel
theorem d_Schema_readsFields_44 : decode jM_Schema_readsFields.2.1 44 = .ok (.aload 4, 2) := by decide +kernel
theorem d_Schema_readsFields_46 : decode jM_Schema_readsFields.2.1 46 = .ok (.getfield 53, 3) := by decide +kernel
theorem d_Schema_readsFields_49 : decode jM_Schema_readsFields.2.1 49 = .ok (.invokestatic 89, 3) := by decide +kernel
theorem d_Schema_readsFields_52 : decode jM_Schema_readsFields.2.1 52 = .ok (.istore 5, 2) := by decide +kernel
theorem d_Schema_readsFields_54 : decode jM_Schema_readsFields.2.1 54 = .ok (.iload 5, 2) := by decide +kernel
theorem d_Schema_readsFields_56 : decode jM_Schema_readsFields.2.1 56 = .ok (.ifCond .ne 5, 3) := by decide +kernel
theorem d_Schema_readsFields_59 : decode jM_Schema_readsFields.2.1 59 = .ok (.iconst 0, 1) := by decide +kernel
theorem d_Schema_readsFields_60 : decode jM_Schema_readsFields.2.1 60 = .ok (.ireturn, 1) := by decide +kernel
theorem d_Schema_readsFields_61 : decode jM_Schema_readsFields.2.1 61 = .ok (.iinc 2 1, 3) := by decide +kernel
theorem d_Schema_readsFields_64 : decode jM_Schema_readsFields.2.1 64 = .ok (.goto (-62), 3) := by decide +kernel
theorem d_Schema_readsFields_67 : decode jM_Schema_readsFields.2.1 67 = .ok (.iconst 1, 1) := by decide +kernel
theorem d_Schema_readsFields_68 : decode jM_Schema_readsFields.2.1 68 = .ok (.ireturn, 1) := by decide +kernel
theorem d_Schema_reads_0 : decode jM_Schema_reads.2.1 0 = .ok (.aload_n 1, 1) := by decide +kernel
theorem d_Schema_reads_1 : decode jM_Schema_reads.2.1 1 = .ok (.getfield 9, 3) := by decide +kernel
theorem d_Schema_reads_4 : decode jM_Schema_reads.2.1 4 = .ok (.bipush 6, 2) := by decide +kernel
theorem d_Schema_reads_6 : decode jM_Schema_reads.2.1 6 = .ok (.if_icmp .ne 31, 3) := by decide +kernel
theorem d_Schema_reads_9 : decode jM_Schema_reads.2.1 9 = .ok (.aload_n 0, 1) := by decide +kernel
theorem d_Schema_reads_10 : decode jM_Schema_reads.2.1 10 = .ok (.aload_n 1, 1) := by decide +kernel
theorem d_Schema_reads_11 : decode jM_Schema_reads.2.1 11 = .ok (.getfield 24, 3) := by decide +kernel
theorem d_Schema_reads_14 : decode jM_Schema_reads.2.1 14 = .ok (.invokestatic 89, 3) := by decide +kernel
theorem d_Schema_reads_17 : decode jM_Schema_reads.2.1 17 = .ok (.ifCond .eq 18, 3) := by decide +kernel
theorem d_Schema_reads_20 : decode jM_Schema_reads.2.1 20 = .ok (.aload_n 0, 1) := by decide +kernel
theorem d_Schema_reads_21 : decode jM_Schema_reads.2.1 21 = .ok (.aload_n 1, 1) := by decide +kernel
theorem d_Schema_reads_22 : decode jM_Schema_reads.2.1 22 = .ok (.getfield 28, 3) := by decide +kernel
theorem d_Schema_reads_25 : decode jM_Schema_reads.2.1 25 = .ok (.invokestatic 89, 3) := by decide +kernel
theorem d_Schema_reads_28 : decode jM_Schema_reads.2.1 28 = .ok (.ifCond .eq 7, 3) := by decide +kernel
theorem d_Schema_reads_31 : decode jM_Schema_reads.2.1 31 = .ok (.iconst 1, 1) := by decide +kernel
theorem d_Schema_reads_32 : decode jM_Schema_reads.2.1 32 = .ok (.goto 4, 3) := by decide +kernel
theorem d_Schema_reads_35 : decode jM_Schema_reads.2.1 35 = .ok (.iconst 0, 1) := by decide +kernel
theorem d_Schema_reads_36 : decode jM_Schema_reads.2.1 36 = .ok (.ireturn, 1) := by decide +kernel
theorem d_Schema_reads_37 : decode jM_Schema_reads.2.1 37 = .ok (.aload_n 0, 1) := by decide +kernel
theorem d_Schema_reads_38 : decode jM_Schema_reads.2.1 38 = .ok (.getfield 9, 3) := by decide +kernel
theorem d_Schema_reads_41 : decode jM_Schema_reads.2.1 41 = .ok (.bipush 6, 2) := by decide +kernel
theorem d_Schema_reads_43 : decode jM_Schema_reads.2.1 43 = .ok (.if_icmp .ne 33, 3) := by decide +kernel
theorem d_Schema_reads_46 : decode jM_Schema_reads.2.1 46 = .ok (.aload_n 0, 1) := by decide +kernel
theorem d_Schema_reads_47 : decode jM_Schema_reads.2.1 47 = .ok (.aload_n 1, 1) := by decide +kernel
theorem d_Schema_reads_48 : decode jM_Schema_reads.2.1 48 = .ok (.invokestatic 92, 3) := by decide +kernel
theorem d_Schema_reads_51 : decode jM_Schema_reads.2.1 51 = .ok (.istore_n 2, 1) := by decide +kernel
theorem d_Schema_reads_52 : decode jM_Schema_reads.2.1 52 = .ok (.iload_n 2, 1) := by decide +kernel
theorem d_Schema_reads_53 : decode jM_Schema_reads.2.1 53 = .ok (.iconst (-1), 1) := by decide +kernel
theorem d_Schema_reads_54 : decode jM_Schema_reads.2.1 54 = .ok (.if_icmp .eq 20, 3) := by decide +kernel
theorem d_Schema_reads_57 : decode jM_Schema_reads.2.1 57 = .ok (.aload_n 0, 1) := by decide +kernel
theorem d_Schema_reads_58 : decode jM_Schema_reads.2.1 58 = .ok (.iload_n 2, 1) := by decide +kernel
theorem d_Schema_reads_59 : decode jM_Schema_reads.2.1 59 = .ok (.i2l, 1) := by decide +kernel
theorem d_Schema_reads_60 : decode jM_Schema_reads.2.1 60 = .ok (.invokevirtual 96, 3) := by decide +kernel
theorem d_Schema_reads_63 : decode jM_Schema_reads.2.1 63 = .ok (.aload_n 1, 1) := by decide +kernel
theorem d_Schema_reads_64 : decode jM_Schema_reads.2.1 64 = .ok (.invokestatic 89, 3) := by decide +kernel
theorem d_Schema_reads_67 : decode jM_Schema_reads.2.1 67 = .ok (.ifCond .eq 7, 3) := by decide +kernel
theorem d_Schema_reads_70 : decode jM_Schema_reads.2.1 70 = .ok (.iconst 1, 1) := by decide +kernel
theorem d_Schema_reads_71 : decode jM_Schema_reads.2.1 71 = .ok (.goto 4, 3) := by decide +kernel
theorem d_Schema_reads_74 : decode jM_Schema_reads.2.1 74 = .ok (.iconst 0, 1) := by decide +kernel
theorem d_Schema_reads_75 : decode jM_Schema_reads.2.1 75 = .ok (.ireturn, 1) := by decide +kernel
theorem d_Schema_reads_76 : decode jM_Schema_reads.2.1 76 = .ok (.aload_n 0, 1) := by decide +kernel
theorem d_Schema_reads_77 : decode jM_Schema_reads.2.1 77 = .ok (.aload_n 1, 1) := by decide +kernel
theorem d_Schema_reads_78 : decode jM_Schema_reads.2.1 78 = .ok (.invokestatic 82, 3) := by decide +kernel
theorem d_Schema_reads_81 : decode jM_Schema_reads.2.1 81 = .ok (.ifCond .ne 5, 3) := by decide +kernel
theorem d_Schema_reads_84 : decode jM_Schema_reads.2.1 84 = .ok (.iconst 0, 1) := by decide +kernel
theorem d_Schema_reads_85 : decode jM_Schema_reads.2.1 85 = .ok (.ireturn, 1) := by decide +kernel
theorem d_Schema_reads_86 : decode jM_Schema_reads.2.1 86 = .ok (.aload_n 0, 1) := by decide +kernel
theorem d_Schema_reads_87 : decode jM_Schema_reads.2.1 87 = .ok (.getfield 9, 3) := by decide +kernel
theorem d_Schema_reads_90 : decode jM_Schema_reads.2.1 90 = .ok (.tableswitch 106 4 7 #[30, 69, 106, 81], 30) := by decide +kernel
theorem d_Schema_reads_120 : decode jM_Schema_reads.2.1 120 = .ok (.aload_n 0, 1) := by decide +kernel
theorem d_Schema_reads_121 : decode jM_Schema_reads.2.1 121 = .ok (.getfield 15, 3) := by decide +kernel
theorem d_Schema_reads_124 : decode jM_Schema_reads.2.1 124 = .ok (.aload_n 1, 1) := by decide +kernel
theorem d_Schema_reads_125 : decode jM_Schema_reads.2.1 125 = .ok (.getfield 15, 3) := by decide +kernel
theorem d_Schema_reads_128 : decode jM_Schema_reads.2.1 128 = .ok (.if_icmp .ne 29, 3) := by decide +kernel
theorem d_Schema_reads_131 : decode jM_Schema_reads.2.1 131 = .ok (.aload_n 0, 1) := by decide +kernel
theorem d_Schema_reads_132 : decode jM_Schema_reads.2.1 132 = .ok (.getfield 21, 3) := by decide +kernel
theorem d_Schema_reads_135 : decode jM_Schema_reads.2.1 135 = .ok (.iconst (-1), 1) := by decide +kernel
theorem d_Schema_reads_136 : decode jM_Schema_reads.2.1 136 = .ok (.if_icmp .ne 17, 3) := by decide +kernel
theorem d_Schema_reads_139 : decode jM_Schema_reads.2.1 139 = .ok (.aload_n 1, 1) := by decide +kernel
theorem d_Schema_reads_140 : decode jM_Schema_reads.2.1 140 = .ok (.getfield 18, 3) := by decide +kernel
theorem d_Schema_reads_143 : decode jM_Schema_reads.2.1 143 = .ok (.aload_n 0, 1) := by decide +kernel
theorem d_Schema_reads_144 : decode jM_Schema_reads.2.1 144 = .ok (.getfield 18, 3) := by decide +kernel
theorem d_Schema_reads_147 : decode jM_Schema_reads.2.1 147 = .ok (.iconst (-1), 1) := by decide +kernel
theorem d_Schema_reads_148 : decode jM_Schema_reads.2.1 148 = .ok (.ixor, 1) := by decide +kernel
theorem d_Schema_reads_149 : decode jM_Schema_reads.2.1 149 = .ok (.iand, 1) := by decide +kernel
theorem d_Schema_reads_150 : decode jM_Schema_reads.2.1 150 = .ok (.ifCond .ne 7, 3) := by decide +kernel
theorem d_Schema_reads_153 : decode jM_Schema_reads.2.1 153 = .ok (.iconst 1, 1) := by decide +kernel
theorem d_Schema_reads_154 : decode jM_Schema_reads.2.1 154 = .ok (.goto 4, 3) := by decide +kernel
theorem d_Schema_reads_157 : decode jM_Schema_reads.2.1 157 = .ok (.iconst 0, 1) := by decide +kernel
theorem d_Schema_reads_158 : decode jM_Schema_reads.2.1 158 = .ok (.ireturn, 1) := by decide +kernel
theorem d_Schema_reads_159 : decode jM_Schema_reads.2.1 159 = .ok (.aload_n 0, 1) := by decide +kernel
theorem d_Schema_reads_160 : decode jM_Schema_reads.2.1 160 = .ok (.getfield 24, 3) := by decide +kernel
theorem d_Schema_reads_163 : decode jM_Schema_reads.2.1 163 = .ok (.aload_n 1, 1) := by decide +kernel
theorem d_Schema_reads_164 : decode jM_Schema_reads.2.1 164 = .ok (.getfield 24, 3) := by decide +kernel
theorem d_Schema_reads_167 : decode jM_Schema_reads.2.1 167 = .ok (.invokestatic 89, 3) := by decide +kernel
theorem d_Schema_reads_170 : decode jM_Schema_reads.2.1 170 = .ok (.ireturn, 1) := by decide +kernel
theorem d_Schema_reads_171 : decode jM_Schema_reads.2.1 171 = .ok (.aload_n 0, 1) := by decide +kernel
theorem d_Schema_reads_172 : decode jM_Schema_reads.2.1 172 = .ok (.getfield 15, 3) := by decide +kernel
theorem d_Schema_reads_175 : decode jM_Schema_reads.2.1 175 = .ok (.aload_n 1, 1) := by decide +kernel
theorem d_Schema_reads_176 : decode jM_Schema_reads.2.1 176 = .ok (.getfield 15, 3) := by decide +kernel
theorem d_Schema_reads_179 : decode jM_Schema_reads.2.1 179 = .ok (.if_icmp .ne 15, 3) := by decide +kernel
theorem d_Schema_reads_182 : decode jM_Schema_reads.2.1 182 = .ok (.aload_n 0, 1) := by decide +kernel
theorem d_Schema_reads_183 : decode jM_Schema_reads.2.1 183 = .ok (.aload_n 1, 1) := by decide +kernel
theorem d_Schema_reads_184 : decode jM_Schema_reads.2.1 184 = .ok (.invokestatic 100, 3) := by decide +kernel
theorem d_Schema_reads_187 : decode jM_Schema_reads.2.1 187 = .ok (.ifCond .eq 7, 3) := by decide +kernel
theorem d_Schema_reads_190 : decode jM_Schema_reads.2.1 190 = .ok (.iconst 1, 1) := by decide +kernel
theorem d_Schema_reads_191 : decode jM_Schema_reads.2.1 191 = .ok (.goto 4, 3) := by decide +kernel
theorem d_Schema_reads_194 : decode jM_Schema_reads.2.1 194 = .ok (.iconst 0, 1) := by decide +kernel
theorem d_Schema_reads_195 : decode jM_Schema_reads.2.1 195 = .ok (.ireturn, 1) := by decide +kernel
theorem d_Schema_reads_196 : decode jM_Schema_reads.2.1 196 = .ok (.iconst 1, 1) := by decide +kernel
theorem d_Schema_reads_197 : decode jM_Schema_reads.2.1 197 = .ok (.ireturn, 1) := by decide +kernel
theorem d_ST_canRead_0 : decode jM_ST_canRead.2.1 0 = .ok (.aload_n 0, 1) := by decide +kernel
theorem d_ST_canRead_1 : decode jM_ST_canRead.2.1 1 = .ok (.getfield 13, 3) := by decide +kernel
theorem d_ST_canRead_4 : decode jM_ST_canRead.2.1 4 = .ok (.iload_n 1, 1) := by decide +kernel
theorem d_ST_canRead_5 : decode jM_ST_canRead.2.1 5 = .ok (.invokevirtual 61, 3) := by decide +kernel
theorem d_ST_canRead_8 : decode jM_ST_canRead.2.1 8 = .ok (.astore_n 3, 1) := by decide +kernel
theorem d_ST_canRead_9 : decode jM_ST_canRead.2.1 9 = .ok (.aload_n 0, 1) := by decide +kernel
theorem d_ST_canRead_10 : decode jM_ST_canRead.2.1 10 = .ok (.getfield 13, 3) := by decide +kernel
theorem d_ST_canRead_13 : decode jM_ST_canRead.2.1 13 = .ok (.iload_n 2, 1) := by decide +kernel
theorem d_ST_canRead_14 : decode jM_ST_canRead.2.1 14 = .ok (.invokevirtual 61, 3) := by decide +kernel
theorem d_ST_canRead_17 : decode jM_ST_canRead.2.1 17 = .ok (.astore 4, 2) := by decide +kernel
theorem d_ST_canRead_19 : decode jM_ST_canRead.2.1 19 = .ok (.aload_n 3, 1) := by decide +kernel
theorem d_ST_canRead_20 : decode jM_ST_canRead.2.1 20 = .ok (.ifnull 21, 3) := by decide +kernel
theorem d_ST_canRead_23 : decode jM_ST_canRead.2.1 23 = .ok (.aload 4, 2) := by decide +kernel
theorem d_ST_canRead_25 : decode jM_ST_canRead.2.1 25 = .ok (.ifnull 16, 3) := by decide +kernel
theorem d_ST_canRead_28 : decode jM_ST_canRead.2.1 28 = .ok (.aload_n 3, 1) := by decide +kernel
theorem d_ST_canRead_29 : decode jM_ST_canRead.2.1 29 = .ok (.aload 4, 2) := by decide +kernel
theorem d_ST_canRead_31 : decode jM_ST_canRead.2.1 31 = .ok (.invokestatic 73, 3) := by decide +kernel
theorem d_ST_canRead_34 : decode jM_ST_canRead.2.1 34 = .ok (.ifCond .eq 7, 3) := by decide +kernel
theorem d_ST_canRead_37 : decode jM_ST_canRead.2.1 37 = .ok (.iconst 1, 1) := by decide +kernel
theorem d_ST_canRead_38 : decode jM_ST_canRead.2.1 38 = .ok (.goto 4, 3) := by decide +kernel
theorem d_ST_canRead_41 : decode jM_ST_canRead.2.1 41 = .ok (.iconst 0, 1) := by decide +kernel
theorem d_ST_canRead_42 : decode jM_ST_canRead.2.1 42 = .ok (.ireturn, 1) := by decide +kernel
theorem d_Row_clear_0 : decode jM_Row_clear.2.1 0 = .ok (.aload_n 0, 1) := by decide +kernel
theorem d_Row_clear_1 : decode jM_Row_clear.2.1 1 = .ok (.iconst 0, 1) := by decide +kernel
theorem d_Row_clear_2 : decode jM_Row_clear.2.1 2 = .ok (.putfield 13, 3) := by decide +kernel
theorem d_Row_clear_5 : decode jM_Row_clear.2.1 5 = .ok (.return_, 1) := by decide +kernel
theorem d_Bytes_cutTo_0 : decode jM_Bytes_cutTo.2.1 0 = .ok (.aload_n 0, 1) := by decide +kernel
theorem d_Bytes_cutTo_1 : decode jM_Bytes_cutTo.2.1 1 = .ok (.iload_n 1, 1) := by decide +kernel
theorem d_Bytes_cutTo_2 : decode jM_Bytes_cutTo.2.1 2 = .ok (.putfield 13, 3) := by decide +kernel
theorem d_Bytes_cutTo_5 : decode jM_Bytes_cutTo.2.1 5 = .ok (.return_, 1) := by decide +kernel
theorem d_Staging_clear_0 : decode jM_Staging_clear.2.1 0 = .ok (.aload_n 0, 1) := by decide +kernel
theorem d_Staging_clear_1 : decode jM_Staging_clear.2.1 1 = .ok (.getfield 16, 3) := by decide +kernel
theorem d_Staging_clear_4 : decode jM_Staging_clear.2.1 4 = .ok (.iconst 0, 1) := by decide +kernel
theorem d_Staging_clear_5 : decode jM_Staging_clear.2.1 5 = .ok (.invokevirtual 39, 3) := by decide +kernel
theorem d_Staging_clear_8 : decode jM_Staging_clear.2.1 8 = .ok (.aload_n 0, 1) := by decide +kernel
theorem d_Staging_clear_9 : decode jM_Staging_clear.2.1 9 = .ok (.iconst (-1), 1) := by decide +kernel
theorem d_Staging_clear_10 : decode jM_Staging_clear.2.1 10 = .ok (.putfield 20, 3) := by decide +kernel
theorem d_Staging_clear_13 : decode jM_Staging_clear.2.1 13 = .ok (.aload_n 0, 1) := by decide +kernel
theorem d_Staging_clear_14 : decode jM_Staging_clear.2.1 14 = .ok (.iconst 0, 1) := by decide +kernel
theorem d_Staging_clear_15 : decode jM_Staging_clear.2.1 15 = .ok (.putfield 24, 3) := by decide +kernel
theorem d_Staging_clear_18 : decode jM_Staging_clear.2.1 18 = .ok (.return_, 1) := by decide +kernel
theorem d_ST_goDown_0 : decode jM_ST_goDown.2.1 0 = .ok (.aload_n 0, 1) := by decide +kernel
theorem d_ST_goDown_1 : decode jM_ST_goDown.2.1 1 = .ok (.getfield 51, 3) := by decide +kernel
theorem d_ST_goDown_4 : decode jM_ST_goDown.2.1 4 = .ok (.invokevirtual 128, 3) := by decide +kernel
theorem d_ST_goDown_7 : decode jM_ST_goDown.2.1 7 = .ok (.aload_n 0, 1) := by decide +kernel
theorem d_ST_goDown_8 : decode jM_ST_goDown.2.1 8 = .ok (.getfield 42, 3) := by decide +kernel
theorem d_ST_goDown_11 : decode jM_ST_goDown.2.1 11 = .ok (.invokevirtual 131, 3) := by decide +kernel
theorem d_ST_goDown_14 : decode jM_ST_goDown.2.1 14 = .ok (.aload_n 0, 1) := by decide +kernel
theorem d_ST_goDown_15 : decode jM_ST_goDown.2.1 15 = .ok (.getfield 58, 3) := by decide +kernel
theorem d_ST_goDown_18 : decode jM_ST_goDown.2.1 18 = .ok (.invokevirtual 128, 3) := by decide +kernel
theorem d_ST_goDown_21 : decode jM_ST_goDown.2.1 21 = .ok (.bipush (-4), 2) := by decide +kernel
theorem d_ST_goDown_23 : decode jM_ST_goDown.2.1 23 = .ok (.ireturn, 1) := by decide +kernel
theorem d_ST_isSubject_0 : decode jM_ST_isSubject.2.1 0 = .ok (.iload_n 0, 1) := by decide +kernel
theorem d_ST_isSubject_1 : decode jM_ST_isSubject.2.1 1 = .ok (.ifCond .lt 12, 3) := by decide +kernel
theorem d_ST_isSubject_4 : decode jM_ST_isSubject.2.1 4 = .ok (.iload_n 0, 1) := by decide +kernel
theorem d_ST_isSubject_5 : decode jM_ST_isSubject.2.1 5 = .ok (.iconst 3, 1) := by decide +kernel
theorem d_ST_isSubject_6 : decode jM_ST_isSubject.2.1 6 = .ok (.if_icmp .ge 7, 3) := by decide +kernel
theorem d_ST_isSubject_9 : decode jM_ST_isSubject.2.1 9 = .ok (.iconst 1, 1) := by decide +kernel
theorem d_ST_isSubject_10 : decode jM_ST_isSubject.2.1 10 = .ok (.goto 4, 3) := by decide +kernel
theorem d_ST_isSubject_13 : decode jM_ST_isSubject.2.1 13 = .ok (.iconst 0, 1) := by decide +kernel
theorem d_ST_isSubject_14 : decode jM_ST_isSubject.2.1 14 = .ok (.ireturn, 1) := by decide +kernel
theorem d_Disk_at_0 : decode jM_Disk_at.2.1 0 = .ok (.iload_n 1, 1) := by decide +kernel
theorem d_Disk_at_1 : decode jM_Disk_at.2.1 1 = .ok (.ifCond .lt 21, 3) := by decide +kernel
theorem d_Disk_at_4 : decode jM_Disk_at.2.1 4 = .ok (.iload_n 1, 1) := by decide +kernel
theorem d_Disk_at_5 : decode jM_Disk_at.2.1 5 = .ok (.aload_n 0, 1) := by decide +kernel
theorem d_Disk_at_6 : decode jM_Disk_at.2.1 6 = .ok (.getfield 9, 3) := by decide +kernel
theorem d_Disk_at_9 : decode jM_Disk_at.2.1 9 = .ok (.arraylength, 1) := by decide +kernel
theorem d_Disk_at_10 : decode jM_Disk_at.2.1 10 = .ok (.if_icmp .ge 12, 3) := by decide +kernel
theorem d_Disk_at_13 : decode jM_Disk_at.2.1 13 = .ok (.aload_n 0, 1) := by decide +kernel
theorem d_Disk_at_14 : decode jM_Disk_at.2.1 14 = .ok (.getfield 9, 3) := by decide +kernel
theorem d_Disk_at_17 : decode jM_Disk_at.2.1 17 = .ok (.iload_n 1, 1) := by decide +kernel
theorem d_Disk_at_18 : decode jM_Disk_at.2.1 18 = .ok (.iaload, 1) := by decide +kernel
theorem d_Disk_at_19 : decode jM_Disk_at.2.1 19 = .ok (.goto 4, 3) := by decide +kernel
theorem d_Disk_at_22 : decode jM_Disk_at.2.1 22 = .ok (.iconst 0, 1) := by decide +kernel
theorem d_Disk_at_23 : decode jM_Disk_at.2.1 23 = .ok (.ireturn, 1) := by decide +kernel
theorem d_Disk_startOf_0 : decode jM_Disk_startOf.2.1 0 = .ok (.iload_n 0, 1) := by decide +kernel
theorem d_Disk_startOf_1 : decode jM_Disk_startOf.2.1 1 = .ok (.bipush 32, 2) := by decide +kernel
theorem d_Disk_startOf_3 : decode jM_Disk_startOf.2.1 3 = .ok (.imul, 1) := by decide +kernel
theorem d_Disk_startOf_4 : decode jM_Disk_startOf.2.1 4 = .ok (.ireturn, 1) := by decide +kernel
theorem d_Registry_entries_0 : decode jM_Registry_entries.2.1 0 = .ok (.aload_n 0, 1) := by decide +kernel
theorem d_Registry_entries_1 : decode jM_Registry_entries.2.1 1 = .ok (.getfield 9, 3) := by decide +kernel
theorem d_Registry_entries_4 : decode jM_Registry_entries.2.1 4 = .ok (.iconst 1, 1) := by decide +kernel
theorem d_Registry_entries_5 : decode jM_Registry_entries.2.1 5 = .ok (.invokestatic 44, 3) := by decide +kernel
theorem d_Registry_entries_8 : decode jM_Registry_entries.2.1 8 = .ok (.invokevirtual 48, 3) := by decide +kernel
theorem d_Registry_entries_11 : decode jM_Registry_entries.2.1 11 = .ok (.ireturn, 1) := by decide +kernel
theorem d_Registry_entryByte_0 : decode jM_Registry_entryByte.2.1 0 = .ok (.aload_n 0, 1) := by decide +kernel
theorem d_Registry_entryByte_1 : decode jM_Registry_entryByte.2.1 1 = .ok (.getfield 9, 3) := by decide +kernel
theorem d_Registry_entryByte_4 : decode jM_Registry_entryByte.2.1 4 = .ok (.iconst 1, 1) := by decide +kernel
theorem d_Registry_entryByte_5 : decode jM_Registry_entryByte.2.1 5 = .ok (.invokestatic 44, 3) := by decide +kernel
theorem d_Registry_entryByte_8 : decode jM_Registry_entryByte.2.1 8 = .ok (.iconst 1, 1) := by decide +kernel
theorem d_Registry_entryByte_9 : decode jM_Registry_entryByte.2.1 9 = .ok (.iadd, 1) := by decide +kernel
theorem d_Registry_entryByte_10 : decode jM_Registry_entryByte.2.1 10 = .ok (.iload_n 1, 1) := by decide +kernel
theorem d_Registry_entryByte_11 : decode jM_Registry_entryByte.2.1 11 = .ok (.iconst 2, 1) := by decide +kernel
theorem d_Registry_entryByte_12 : decode jM_Registry_entryByte.2.1 12 = .ok (.imul, 1) := by decide +kernel
theorem d_Registry_entryByte_13 : decode jM_Registry_entryByte.2.1 13 = .ok (.iadd, 1) := by decide +kernel
theorem d_Registry_entryByte_14 : decode jM_Registry_entryByte.2.1 14 = .ok (.iload_n 2, 1) := by decide +kernel
theorem d_Registry_entryByte_15 : decode jM_Registry_entryByte.2.1 15 = .ok (.iadd, 1) := by decide +kernel
theorem d_Registry_entryByte_16 : decode jM_Registry_entryByte.2.1 16 = .ok (.invokevirtual 48, 3) := by decide +kernel
theorem d_Registry_entryByte_19 : decode jM_Registry_entryByte.2.1 19 = .ok (.ireturn, 1) := by decide +kernel
theorem d_Registry_countOf_0 : decode jM_Registry_countOf.2.1 0 = .ok (.aload_n 0, 1) := by decide +kernel
theorem d_Registry_countOf_1 : decode jM_Registry_countOf.2.1 1 = .ok (.invokevirtual 26, 3) := by decide +kernel
theorem d_Registry_countOf_4 : decode jM_Registry_countOf.2.1 4 = .ok (.istore_n 2, 1) := by decide +kernel
theorem d_Registry_countOf_5 : decode jM_Registry_countOf.2.1 5 = .ok (.iconst 0, 1) := by decide +kernel
theorem d_Registry_countOf_6 : decode jM_Registry_countOf.2.1 6 = .ok (.istore_n 3, 1) := by decide +kernel
theorem d_Registry_countOf_7 : decode jM_Registry_countOf.2.1 7 = .ok (.iconst 0, 1) := by decide +kernel
theorem d_Registry_countOf_8 : decode jM_Registry_countOf.2.1 8 = .ok (.istore 4, 2) := by decide +kernel
theorem d_Registry_countOf_10 : decode jM_Registry_countOf.2.1 10 = .ok (.iload 4, 2) := by decide +kernel
theorem d_Registry_countOf_12 : decode jM_Registry_countOf.2.1 12 = .ok (.iload_n 2, 1) := by decide +kernel
theorem d_Registry_countOf_13 : decode jM_Registry_countOf.2.1 13 = .ok (.if_icmp .ge 23, 3) := by decide +kernel
theorem d_Registry_countOf_16 : decode jM_Registry_countOf.2.1 16 = .ok (.aload_n 0, 1) := by decide +kernel
