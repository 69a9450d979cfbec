theorem kN_Law_7 : z_N "SchemaTablesLaw" 7 0 8 [zR none, zR none, zR none, zR none, zR none, zR none, zR none, zR none] := ⟨_, _, jt_ST, zK_0, zi (i := 16) (by decide +kernel) (by decide +kernel), zi (i := 17) (by decide +kernel) (by decide +kernel), zi (i := 1) (by decide +kernel) (by decide +kernel), jt_ST_ok, fun _ => zdf_ST⟩
theorem kk_ST_init : Cond.code jM_ST_init.1 jM_ST_init.2.1 jM_ST_init.2.2.1 jM_ST_init.2.2.2 ∈ z_tb ∧ Cond.initialized jM_ST_init.1.cls ∈ z_tb ∧ jM_ST_init.1.cls ≠ "java/lang/invoke/MethodHandle" ∧ jM_ST_init.1.cls ≠ "java/lang/invoke/VarHandle" ∧ (parseMethodDescriptor jM_ST_init.1.desc).map (fun q => q.parameters.length) = some 0 ∧ jM_ST_init.2.2.1 ≤ 45 := ⟨zi (i := 20) (by decide +kernel) (by decide +kernel), zi (i := 1) (by decide +kernel) (by decide +kernel), by decide +kernel, by decide +kernel, by decide +kernel, by decide +kernel⟩
theorem kI_Law_9 : z_LI "SchemaTablesLaw" 9 jM_ST_init 0 := ⟨⟨Or.inl (zi (i := 18) (by decide +kernel) (by decide +kernel)), kk_ST_init.1, kk_ST_init.2.1, kk_ST_init.2.2.1, kk_ST_init.2.2.2.1, kk_ST_init.2.2.2.2.1, kk_ST_init.2.2.2.2.2⟩, zi (i := 19) (by decide +kernel) (by decide +kernel), rfl, rfl⟩
theorem kN_Law_10 : z_N "SchemaTablesLaw" 10 1 36 [zI 0, zR none, zR none, zR none, zR none, zR none, zR none, zR none, zR none, zR none, zR none, zR none, zR none, zI 0, zR none, zI 0, zI 0, zI 0, zI 0, zR none, zI 0, zI 0, zI 0, zR none, zI 0, zR none, zI 0, zR none, zI 0, zR none, zR none, zR none, zR none, zI 0, zI 0, zI 0] := ⟨_, _, jt_Mo, zK_1, zi (i := 742) (by decide +kernel) (by decide +kernel), zi (i := 743) (by decide +kernel) (by decide +kernel), zi (i := 9) (by decide +kernel) (by decide +kernel), jt_Mo_ok, fun _ => zdf_Mo⟩
theorem kk_Mo_init : Cond.code jM_Mo_init.1 jM_Mo_init.2.1 jM_Mo_init.2.2.1 jM_Mo_init.2.2.2 ∈ z_tb ∧ Cond.initialized jM_Mo_init.1.cls ∈ z_tb ∧ jM_Mo_init.1.cls ≠ "java/lang/invoke/MethodHandle" ∧ jM_Mo_init.1.cls ≠ "java/lang/invoke/VarHandle" ∧ (parseMethodDescriptor jM_Mo_init.1.desc).map (fun q => q.parameters.length) = some 0 ∧ jM_Mo_init.2.2.1 ≤ 45 := ⟨zi (i := 746) (by decide +kernel) (by decide +kernel), zi (i := 9) (by decide +kernel) (by decide +kernel), by decide +kernel, by decide +kernel, by decide +kernel, by decide +kernel⟩
theorem kI_Law_12 : z_LI "SchemaTablesLaw" 12 jM_Mo_init 0 := ⟨⟨Or.inl (zi (i := 744) (by decide +kernel) (by decide +kernel)), kk_Mo_init.1, kk_Mo_init.2.1, kk_Mo_init.2.2.1, kk_Mo_init.2.2.2.1, kk_Mo_init.2.2.2.2.1, kk_Mo_init.2.2.2.2.2⟩, zi (i := 745) (by decide +kernel) (by decide +kernel), rfl, rfl⟩
theorem kC_Law_13 : Cond.constantLong "SchemaTablesLaw" 13 (4294967295 : Int64) ∈ z_tb := zi (i := 1121) (by decide +kernel) (by decide +kernel)
theorem kk_ST_field : Cond.code jM_ST_field.1 jM_ST_field.2.1 jM_ST_field.2.2.1 jM_ST_field.2.2.2 ∈ z_tb ∧ Cond.initialized jM_ST_field.1.cls ∈ z_tb ∧ jM_ST_field.1.cls ≠ "java/lang/invoke/MethodHandle" ∧ jM_ST_field.1.cls ≠ "java/lang/invoke/VarHandle" ∧ (parseMethodDescriptor jM_ST_field.1.desc).map (fun q => q.parameters.length) = some 4 ∧ jM_ST_field.2.2.1 ≤ 45 := ⟨zi (i := 185) (by decide +kernel) (by decide +kernel), zi (i := 1) (by decide +kernel) (by decide +kernel), by decide +kernel, by decide +kernel, by decide +kernel, by decide +kernel⟩
theorem kV_Law_15 : z_LV "SchemaTablesLaw" 15 jM_ST_field 4 0 := ⟨⟨Or.inl (zi (i := 182) (by decide +kernel) (by decide +kernel)), kk_ST_field.1, kk_ST_field.2.1, kk_ST_field.2.2.1, kk_ST_field.2.2.2.1, kk_ST_field.2.2.2.2.1, kk_ST_field.2.2.2.2.2⟩, zi (i := 183) (by decide +kernel) (by decide +kernel), _, _, _, rfl, zi (i := 184) (by decide +kernel) (by decide +kernel)⟩
theorem kk_Mo_field : Cond.code jM_Mo_field.1 jM_Mo_field.2.1 jM_Mo_field.2.2.1 jM_Mo_field.2.2.2 ∈ z_tb ∧ Cond.initialized jM_Mo_field.1.cls ∈ z_tb ∧ jM_Mo_field.1.cls ≠ "java/lang/invoke/MethodHandle" ∧ jM_Mo_field.1.cls ≠ "java/lang/invoke/VarHandle" ∧ (parseMethodDescriptor jM_Mo_field.1.desc).map (fun q => q.parameters.length) = some 4 ∧ jM_Mo_field.2.2.1 ≤ 45 := ⟨zi (i := 861) (by decide +kernel) (by decide +kernel), zi (i := 9) (by decide +kernel) (by decide +kernel), by decide +kernel, by decide +kernel, by decide +kernel, by decide +kernel⟩
theorem kV_Law_19 : z_LV "SchemaTablesLaw" 19 jM_Mo_field 4 1 := ⟨⟨Or.inl (zi (i := 858) (by decide +kernel) (by decide +kernel)), kk_Mo_field.1, kk_Mo_field.2.1, kk_Mo_field.2.2.1, kk_Mo_field.2.2.2.1, kk_Mo_field.2.2.2.2.1, kk_Mo_field.2.2.2.2.2⟩, zi (i := 859) (by decide +kernel) (by decide +kernel), _, _, _, rfl, zi (i := 860) (by decide +kernel) (by decide +kernel)⟩
theorem kk_ST_make : Cond.code jM_ST_make.1 jM_ST_make.2.1 jM_ST_make.2.2.1 jM_ST_make.2.2.2 ∈ z_tb ∧ Cond.initialized jM_ST_make.1.cls ∈ z_tb ∧ jM_ST_make.1.cls ≠ "java/lang/invoke/MethodHandle" ∧ jM_ST_make.1.cls ≠ "java/lang/invoke/VarHandle" ∧ (parseMethodDescriptor jM_ST_make.1.desc).map (fun q => q.parameters.length) = some 4 ∧ jM_ST_make.2.2.1 ≤ 45 := ⟨zi (i := 245) (by decide +kernel) (by decide +kernel), zi (i := 1) (by decide +kernel) (by decide +kernel), by decide +kernel, by decide +kernel, by decide +kernel, by decide +kernel⟩
theorem kV_Law_20 : z_LV "SchemaTablesLaw" 20 jM_ST_make 4 0 := ⟨⟨Or.inl (zi (i := 242) (by decide +kernel) (by decide +kernel)), kk_ST_make.1, kk_ST_make.2.1, kk_ST_make.2.2.1, kk_ST_make.2.2.2.1, kk_ST_make.2.2.2.2.1, kk_ST_make.2.2.2.2.2⟩, zi (i := 243) (by decide +kernel) (by decide +kernel), _, _, _, rfl, zi (i := 244) (by decide +kernel) (by decide +kernel)⟩
theorem kk_Mo_make : Cond.code jM_Mo_make.1 jM_Mo_make.2.1 jM_Mo_make.2.2.1 jM_Mo_make.2.2.2 ∈ z_tb ∧ Cond.initialized jM_Mo_make.1.cls ∈ z_tb ∧ jM_Mo_make.1.cls ≠ "java/lang/invoke/MethodHandle" ∧ jM_Mo_make.1.cls ≠ "java/lang/invoke/VarHandle" ∧ (parseMethodDescriptor jM_Mo_make.1.desc).map (fun q => q.parameters.length) = some 4 ∧ jM_Mo_make.2.2.1 ≤ 45 := ⟨zi (i := 881) (by decide +kernel) (by decide +kernel), zi (i := 9) (by decide +kernel) (by decide +kernel), by decide +kernel, by decide +kernel, by decide +kernel, by decide +kernel⟩
theorem kV_Law_24 : z_LV "SchemaTablesLaw" 24 jM_Mo_make 4 1 := ⟨⟨Or.inl (zi (i := 878) (by decide +kernel) (by decide +kernel)), kk_Mo_make.1, kk_Mo_make.2.1, kk_Mo_make.2.2.1, kk_Mo_make.2.2.2.1, kk_Mo_make.2.2.2.2.1, kk_Mo_make.2.2.2.2.2⟩, zi (i := 879) (by decide +kernel) (by decide +kernel), _, _, _, rfl, zi (i := 880) (by decide +kernel) (by decide +kernel)⟩
theorem kk_ST_canRead : Cond.code jM_ST_canRead.1 jM_ST_canRead.2.1 jM_ST_canRead.2.2.1 jM_ST_canRead.2.2.2 ∈ z_tb ∧ Cond.initialized jM_ST_canRead.1.cls ∈ z_tb ∧ jM_ST_canRead.1.cls ≠ "java/lang/invoke/MethodHandle" ∧ jM_ST_canRead.1.cls ≠ "java/lang/invoke/VarHandle" ∧ (parseMethodDescriptor jM_ST_canRead.1.desc).map (fun q => q.parameters.length) = some 2 ∧ jM_ST_canRead.2.2.1 ≤ 45 := ⟨zi (i := 339) (by decide +kernel) (by decide +kernel), zi (i := 1) (by decide +kernel) (by decide +kernel), by decide +kernel, by decide +kernel, by decide +kernel, by decide +kernel⟩
theorem kV_Law_25 : z_LV "SchemaTablesLaw" 25 jM_ST_canRead 2 0 := ⟨⟨Or.inl (zi (i := 336) (by decide +kernel) (by decide +kernel)), kk_ST_canRead.1, kk_ST_canRead.2.1, kk_ST_canRead.2.2.1, kk_ST_canRead.2.2.2.1, kk_ST_canRead.2.2.2.2.1, kk_ST_canRead.2.2.2.2.2⟩, zi (i := 337) (by decide +kernel) (by decide +kernel), _, _, _, rfl, zi (i := 338) (by decide +kernel) (by decide +kernel)⟩
theorem kk_Mo_canRead : Cond.code jM_Mo_canRead.1 jM_Mo_canRead.2.1 jM_Mo_canRead.2.2.1 jM_Mo_canRead.2.2.2 ∈ z_tb ∧ Cond.initialized jM_Mo_canRead.1.cls ∈ z_tb ∧ jM_Mo_canRead.1.cls ≠ "java/lang/invoke/MethodHandle" ∧ jM_Mo_canRead.1.cls ≠ "java/lang/invoke/VarHandle" ∧ (parseMethodDescriptor jM_Mo_canRead.1.desc).map (fun q => q.parameters.length) = some 2 ∧ jM_Mo_canRead.2.2.1 ≤ 45 := ⟨zi (i := 913) (by decide +kernel) (by decide +kernel), zi (i := 9) (by decide +kernel) (by decide +kernel), by decide +kernel, by decide +kernel, by decide +kernel, by decide +kernel⟩
theorem kV_Law_29 : z_LV "SchemaTablesLaw" 29 jM_Mo_canRead 2 1 := ⟨⟨Or.inl (zi (i := 910) (by decide +kernel) (by decide +kernel)), kk_Mo_canRead.1, kk_Mo_canRead.2.1, kk_Mo_canRead.2.2.1, kk_Mo_canRead.2.2.2.1, kk_Mo_canRead.2.2.2.2.1, kk_Mo_canRead.2.2.2.2.2⟩, zi (i := 911) (by decide +kernel) (by decide +kernel), _, _, _, rfl, zi (i := 912) (by decide +kernel) (by decide +kernel)⟩
theorem kk_ST_register : Cond.code jM_ST_register.1 jM_ST_register.2.1 jM_ST_register.2.2.1 jM_ST_register.2.2.2 ∈ z_tb ∧ Cond.initialized jM_ST_register.1.cls ∈ z_tb ∧ jM_ST_register.1.cls ≠ "java/lang/invoke/MethodHandle" ∧ jM_ST_register.1.cls ≠ "java/lang/invoke/VarHandle" ∧ (parseMethodDescriptor jM_ST_register.1.desc).map (fun q => q.parameters.length) = some 2 ∧ jM_ST_register.2.2.1 ≤ 45 := ⟨zi (i := 367) (by decide +kernel) (by decide +kernel), zi (i := 1) (by decide +kernel) (by decide +kernel), by decide +kernel, by decide +kernel, by decide +kernel, by decide +kernel⟩
theorem kV_Law_30 : z_LV "SchemaTablesLaw" 30 jM_ST_register 2 0 := ⟨⟨Or.inl (zi (i := 364) (by decide +kernel) (by decide +kernel)), kk_ST_register.1, kk_ST_register.2.1, kk_ST_register.2.2.1, kk_ST_register.2.2.2.1, kk_ST_register.2.2.2.2.1, kk_ST_register.2.2.2.2.2⟩, zi (i := 365) (by decide +kernel) (by decide +kernel), _, _, _, rfl, zi (i := 366) (by decide +kernel) (by decide +kernel)⟩
theorem kk_Mo_register : Cond.code jM_Mo_register.1 jM_Mo_register.2.1 jM_Mo_register.2.2.1 jM_Mo_register.2.2.2 ∈ z_tb ∧ Cond.initialized jM_Mo_register.1.cls ∈ z_tb ∧ jM_Mo_register.1.cls ≠ "java/lang/invoke/MethodHandle" ∧ jM_Mo_register.1.cls ≠ "java/lang/invoke/VarHandle" ∧ (parseMethodDescriptor jM_Mo_register.1.desc).map (fun q => q.parameters.length) = some 2 ∧ jM_Mo_register.2.2.1 ≤ 45 := ⟨zi (i := 917) (by decide +kernel) (by decide +kernel), zi (i := 9) (by decide +kernel) (by decide +kernel), by decide +kernel, by decide +kernel, by decide +kernel, by decide +kernel⟩
theorem kV_Law_34 : z_LV "SchemaTablesLaw" 34 jM_Mo_register 2 1 := ⟨⟨Or.inl (zi (i := 914) (by decide +kernel) (by decide +kernel)), kk_Mo_register.1, kk_Mo_register.2.1, kk_Mo_register.2.2.1, kk_Mo_register.2.2.2.1, kk_Mo_register.2.2.2.2.1, kk_Mo_register.2.2.2.2.2⟩, zi (i := 915) (by decide +kernel) (by decide +kernel), _, _, _, rfl, zi (i := 916) (by decide +kernel) (by decide +kernel)⟩
theorem kk_ST_versions : Cond.code jM_ST_versions.1 jM_ST_versions.2.1 jM_ST_versions.2.2.1 jM_ST_versions.2.2.2 ∈ z_tb ∧ Cond.initialized jM_ST_versions.1.cls ∈ z_tb ∧ jM_ST_versions.1.cls ≠ "java/lang/invoke/MethodHandle" ∧ jM_ST_versions.1.cls ≠ "java/lang/invoke/VarHandle" ∧ (parseMethodDescriptor jM_ST_versions.1.desc).map (fun q => q.parameters.length) = some 1 ∧ jM_ST_versions.2.2.1 ≤ 45 := ⟨zi (i := 447) (by decide +kernel) (by decide +kernel), zi (i := 1) (by decide +kernel) (by decide +kernel), by decide +kernel, by decide +kernel, by decide +kernel, by decide +kernel⟩
theorem kV_Law_35 : z_LV "SchemaTablesLaw" 35 jM_ST_versions 1 0 := ⟨⟨Or.inl (zi (i := 444) (by decide +kernel) (by decide +kernel)), kk_ST_versions.1, kk_ST_versions.2.1, kk_ST_versions.2.2.1, kk_ST_versions.2.2.2.1, kk_ST_versions.2.2.2.2.1, kk_ST_versions.2.2.2.2.2⟩, zi (i := 445) (by decide +kernel) (by decide +kernel), _, _, _, rfl, zi (i := 446) (by decide +kernel) (by decide +kernel)⟩
theorem kV_Law_39 : z_LV "SchemaTablesLaw" 39 jM_Mo_versions 1 1 := ⟨⟨Or.inl (zi (i := 933) (by decide +kernel) (by decide +kernel)), kk_Mo_versions.1, kk_Mo_versions.2.1, kk_Mo_versions.2.2.1, kk_Mo_versions.2.2.2.1, kk_Mo_versions.2.2.2.2.1, kk_Mo_versions.2.2.2.2.2⟩, zi (i := 926) (by decide +kernel) (by decide +kernel), _, _, _, rfl, zi (i := 927) (by decide +kernel) (by decide +kernel)⟩
theorem kk_ST_version : Cond.code jM_ST_version.1 jM_ST_version.2.1 jM_ST_version.2.2.1 jM_ST_version.2.2.2 ∈ z_tb ∧ Cond.initialized jM_ST_version.1.cls ∈ z_tb ∧ jM_ST_version.1.cls ≠ "java/lang/invoke/MethodHandle" ∧ jM_ST_version.1.cls ≠ "java/lang/invoke/VarHandle" ∧ (parseMethodDescriptor jM_ST_version.1.desc).map (fun q => q.parameters.length) = some 2 ∧ jM_ST_version.2.2.1 ≤ 45 := ⟨zi (i := 451) (by decide +kernel) (by decide +kernel), zi (i := 1) (by decide +kernel) (by decide +kernel), by decide +kernel, by decide +kernel, by decide +kernel, by decide +kernel⟩
theorem kV_Law_40 : z_LV "SchemaTablesLaw" 40 jM_ST_version 2 0 := ⟨⟨Or.inl (zi (i := 448) (by decide +kernel) (by decide +kernel)), kk_ST_version.1, kk_ST_version.2.1, kk_ST_version.2.2.1, kk_ST_version.2.2.2.1, kk_ST_version.2.2.2.2.1, kk_ST_version.2.2.2.2.2⟩, zi (i := 449) (by decide +kernel) (by decide +kernel), _, _, _, rfl, zi (i := 450) (by decide +kernel) (by decide +kernel)⟩
theorem kk_Mo_version : Cond.code jM_Mo_version.1 jM_Mo_version.2.1 jM_Mo_version.2.2.1 jM_Mo_version.2.2.2 ∈ z_tb ∧ Cond.initialized jM_Mo_version.1.cls ∈ z_tb ∧ jM_Mo_version.1.cls ≠ "java/lang/invoke/MethodHandle" ∧ jM_Mo_version.1.cls ≠ "java/lang/invoke/VarHandle" ∧ (parseMethodDescriptor jM_Mo_version.1.desc).map (fun q => q.parameters.length) = some 2 ∧ jM_Mo_version.2.2.1 ≤ 45 := ⟨zi (i := 937) (by decide +kernel) (by decide +kernel), zi (i := 9) (by decide +kernel) (by decide +kernel), by decide +kernel, by decide +kernel, by decide +kernel, by decide +kernel⟩
theorem kV_Law_43 : z_LV "SchemaTablesLaw" 43 jM_Mo_version 2 1 := ⟨⟨Or.inl (zi (i := 934) (by decide +kernel) (by decide +kernel)), kk_Mo_version.1, kk_Mo_version.2.1, kk_Mo_version.2.2.1, kk_Mo_version.2.2.2.1, kk_Mo_version.2.2.2.2.1, kk_Mo_version.2.2.2.2.2⟩, zi (i := 935) (by decide +kernel) (by decide +kernel), _, _, _, rfl, zi (i := 936) (by decide +kernel) (by decide +kernel)⟩
theorem kk_ST_give : Cond.code jM_ST_give.1 jM_ST_give.2.1 jM_ST_give.2.2.1 jM_ST_give.2.2.2 ∈ z_tb ∧ Cond.initialized jM_ST_give.1.cls ∈ z_tb ∧ jM_ST_give.1.cls ≠ "java/lang/invoke/MethodHandle" ∧ jM_ST_give.1.cls ≠ "java/lang/invoke/VarHandle" ∧ (parseMethodDescriptor jM_ST_give.1.desc).map (fun q => q.parameters.length) = some 1 ∧ jM_ST_give.2.2.1 ≤ 45 := ⟨zi (i := 455) (by decide +kernel) (by decide +kernel), zi (i := 1) (by decide +kernel) (by decide +kernel), by decide +kernel, by decide +kernel, by decide +kernel, by decide +kernel⟩
theorem kV_Law_44 : z_LV "SchemaTablesLaw" 44 jM_ST_give 1 0 := ⟨⟨Or.inl (zi (i := 452) (by decide +kernel) (by decide +kernel)), kk_ST_give.1, kk_ST_give.2.1, kk_ST_give.2.2.1, kk_ST_give.2.2.2.1, kk_ST_give.2.2.2.2.1, kk_ST_give.2.2.2.2.2⟩, zi (i := 453) (by decide +kernel) (by decide +kernel), _, _, _, rfl, zi (i := 454) (by decide +kernel) (by decide +kernel)⟩
theorem kk_Mo_give : Cond.code jM_Mo_give.1 jM_Mo_give.2.1 jM_Mo_give.2.2.1 jM_Mo_give.2.2.2 ∈ z_tb ∧ Cond.initialized jM_Mo_give.1.cls ∈ z_tb ∧ jM_Mo_give.1.cls ≠ "java/lang/invoke/MethodHandle" ∧ jM_Mo_give.1.cls ≠ "java/lang/invoke/VarHandle" ∧ (parseMethodDescriptor jM_Mo_give.1.desc).map (fun q => q.parameters.length) = some 1 ∧ jM_Mo_give.2.2.1 ≤ 45 := ⟨zi (i := 941) (by decide +kernel) (by decide +kernel), zi (i := 9) (by decide +kernel) (by decide +kernel), by decide +kernel, by decide +kernel, by decide +kernel, by decide +kernel⟩
theorem kV_Law_48 : z_LV "SchemaTablesLaw" 48 jM_Mo_give 1 1 := ⟨⟨Or.inl (zi (i := 938) (by decide +kernel) (by decide +kernel)), kk_Mo_give.1, kk_Mo_give.2.1, kk_Mo_give.2.2.1, kk_Mo_give.2.2.2.1, kk_Mo_give.2.2.2.2.1, kk_Mo_give.2.2.2.2.2⟩, zi (i := 939) (by decide +kernel) (by decide +kernel), _, _, _, rfl, zi (i := 940) (by decide +kernel) (by decide +kernel)⟩
theorem kk_ST_stage : Cond.code jM_ST_stage.1 jM_ST_stage.2.1 jM_ST_stage.2.2.1 jM_ST_stage.2.2.2 ∈ z_tb ∧ Cond.initialized jM_ST_stage.1.cls ∈ z_tb ∧ jM_ST_stage.1.cls ≠ "java/lang/invoke/MethodHandle" ∧ jM_ST_stage.1.cls ≠ "java/lang/invoke/VarHandle" ∧ (parseMethodDescriptor jM_ST_stage.1.desc).map (fun q => q.parameters.length) = some 1 ∧ jM_ST_stage.2.2.1 ≤ 45 := ⟨zi (i := 463) (by decide +kernel) (by decide +kernel), zi (i := 1) (by decide +kernel) (by decide +kernel), by decide +kernel, by decide +kernel, by decide +kernel, by decide +kernel⟩
theorem kV_Law_49 : z_LV "SchemaTablesLaw" 49 jM_ST_stage 1 0 := ⟨⟨Or.inl (zi (i := 460) (by decide +kernel) (by decide +kernel)), kk_ST_stage.1, kk_ST_stage.2.1, kk_ST_stage.2.2.1, kk_ST_stage.2.2.2.1, kk_ST_stage.2.2.2.2.1, kk_ST_stage.2.2.2.2.2⟩, zi (i := 461) (by decide +kernel) (by decide +kernel), _, _, _, rfl, zi (i := 462) (by decide +kernel) (by decide +kernel)⟩
theorem kk_Mo_stage : Cond.code jM_Mo_stage.1 jM_Mo_stage.2.1 jM_Mo_stage.2.2.1 jM_Mo_stage.2.2.2 ∈ z_tb ∧ Cond.initialized jM_Mo_stage.1.cls ∈ z_tb ∧ jM_Mo_stage.1.cls ≠ "java/lang/invoke/MethodHandle" ∧ jM_Mo_stage.1.cls ≠ "java/lang/invoke/VarHandle" ∧ (parseMethodDescriptor jM_Mo_stage.1.desc).map (fun q => q.parameters.length) = some 1 ∧ jM_Mo_stage.2.2.1 ≤ 45 := ⟨zi (i := 945) (by decide +kernel) (by decide +kernel), zi (i := 9) (by decide +kernel) (by decide +kernel), by decide +kernel, by decide +kernel, by decide +kernel, by decide +kernel⟩
theorem kV_Law_52 : z_LV "SchemaTablesLaw" 52 jM_Mo_stage 1 1 := ⟨⟨Or.inl (zi (i := 942) (by decide +kernel) (by decide +kernel)), kk_Mo_stage.1, kk_Mo_stage.2.1, kk_Mo_stage.2.2.1, kk_Mo_stage.2.2.2.1, kk_Mo_stage.2.2.2.2.1, kk_Mo_stage.2.2.2.2.2⟩, zi (i := 943) (by decide +kernel) (by decide +kernel), _, _, _, rfl, zi (i := 944) (by decide +kernel) (by decide +kernel)⟩
theorem kk_ST_drop : Cond.code jM_ST_drop.1 jM_ST_drop.2.1 jM_ST_drop.2.2.1 jM_ST_drop.2.2.2 ∈ z_tb ∧ Cond.initialized jM_ST_drop.1.cls ∈ z_tb ∧ jM_ST_drop.1.cls ≠ "java/lang/invoke/MethodHandle" ∧ jM_ST_drop.1.cls ≠ "java/lang/invoke/VarHandle" ∧ (parseMethodDescriptor jM_ST_drop.1.desc).map (fun q => q.parameters.length) = some 0 ∧ jM_ST_drop.2.2.1 ≤ 45 := ⟨zi (i := 512) (by decide +kernel) (by decide +kernel), zi (i := 1) (by decide +kernel) (by decide +kernel), by decide +kernel, by decide +kernel, by decide +kernel, by decide +kernel⟩
theorem kV_Law_53 : z_LV "SchemaTablesLaw" 53 jM_ST_drop 0 0 := ⟨⟨Or.inl (zi (i := 509) (by decide +kernel) (by decide +kernel)), kk_ST_drop.1, kk_ST_drop.2.1, kk_ST_drop.2.2.1, kk_ST_drop.2.2.2.1, kk_ST_drop.2.2.2.2.1, kk_ST_drop.2.2.2.2.2⟩, zi (i := 510) (by decide +kernel) (by decide +kernel), _, _, _, rfl, zi (i := 511) (by decide +kernel) (by decide +kernel)⟩
theorem kk_Mo_drop : Cond.code jM_Mo_drop.1 jM_Mo_drop.2.1 jM_Mo_drop.2.2.1 jM_Mo_drop.2.2.2 ∈ z_tb ∧ Cond.initialized jM_Mo_drop.1.cls ∈ z_tb ∧ jM_Mo_drop.1.cls ≠ "java/lang/invoke/MethodHandle" ∧ jM_Mo_drop.1.cls ≠ "java/lang/invoke/VarHandle" ∧ (parseMethodDescriptor jM_Mo_drop.1.desc).map (fun q => q.parameters.length) = some 0 ∧ jM_Mo_drop.2.2.1 ≤ 45 := ⟨zi (i := 976) (by decide +kernel) (by decide +kernel), zi (i := 9) (by decide +kernel) (by decide +kernel), by decide +kernel, by decide +kernel, by decide +kernel, by decide +kernel⟩
theorem kV_Law_57 : z_LV "SchemaTablesLaw" 57 jM_Mo_drop 0 1 := ⟨⟨Or.inl (zi (i := 973) (by decide +kernel) (by decide +kernel)), kk_Mo_drop.1, kk_Mo_drop.2.1, kk_Mo_drop.2.2.1, kk_Mo_drop.2.2.2.1, kk_Mo_drop.2.2.2.2.1, kk_Mo_drop.2.2.2.2.2⟩, zi (i := 974) (by decide +kernel) (by decide +kernel), _, _, _, rfl, zi (i := 975) (by decide +kernel) (by decide +kernel)⟩
theorem kk_ST_load : Cond.code jM_ST_load.1 jM_ST_load.2.1 jM_ST_load.2.2.1 jM_ST_load.2.2.2 ∈ z_tb ∧ Cond.initialized jM_ST_load.1.cls ∈ z_tb ∧ jM_ST_load.1.cls ≠ "java/lang/invoke/MethodHandle" ∧ jM_ST_load.1.cls ≠ "java/lang/invoke/VarHandle" ∧ (parseMethodDescriptor jM_ST_load.1.desc).map (fun q => q.parameters.length) = some 1 ∧ jM_ST_load.2.2.1 ≤ 45 := ⟨zi (i := 516) (by decide +kernel) (by decide +kernel), zi (i := 1) (by decide +kernel) (by decide +kernel), by decide +kernel, by decide +kernel, by decide +kernel, by decide +kernel⟩
theorem kV_Law_58 : z_LV "SchemaTablesLaw" 58 jM_ST_load 1 0 := ⟨⟨Or.inl (zi (i := 513) (by decide +kernel) (by decide +kernel)), kk_ST_load.1, kk_ST_load.2.1, kk_ST_load.2.2.1, kk_ST_load.2.2.2.1, kk_ST_load.2.2.2.2.1, kk_ST_load.2.2.2.2.2⟩, zi (i := 514) (by decide +kernel) (by decide +kernel), _, _, _, rfl, zi (i := 515) (by decide +kernel) (by decide +kernel)⟩
theorem kk_Mo_load : Cond.code jM_Mo_load.1 jM_Mo_load.2.1 jM_Mo_load.2.2.1 jM_Mo_load.2.2.2 ∈ z_tb ∧ Cond.initialized jM_Mo_load.1.cls ∈ z_tb ∧ jM_Mo_load.1.cls ≠ "java/lang/invoke/MethodHandle" ∧ jM_Mo_load.1.cls ≠ "java/lang/invoke/VarHandle" ∧ (parseMethodDescriptor jM_Mo_load.1.desc).map (fun q => q.parameters.length) = some 1 ∧ jM_Mo_load.2.2.1 ≤ 45 := ⟨zi (i := 980) (by decide +kernel) (by decide +kernel), zi (i := 9) (by decide +kernel) (by decide +kernel), by decide +kernel, by decide +kernel, by decide +kernel, by decide +kernel⟩
theorem kV_Law_61 : z_LV "SchemaTablesLaw" 61 jM_Mo_load 1 1 := ⟨⟨Or.inl (zi (i := 977) (by decide +kernel) (by decide +kernel)), kk_Mo_load.1, kk_Mo_load.2.1, kk_Mo_load.2.2.1, kk_Mo_load.2.2.2.1, kk_Mo_load.2.2.2.2.1, kk_Mo_load.2.2.2.2.2⟩, zi (i := 978) (by decide +kernel) (by decide +kernel), _, _, _, rfl, zi (i := 979) (by decide +kernel) (by decide +kernel)⟩
theorem kk_ST_compact : Cond.code jM_ST_compact.1 jM_ST_compact.2.1 jM_ST_compact.2.2.1 jM_ST_compact.2.2.2 ∈ z_tb ∧ Cond.initialized jM_ST_compact.1.cls ∈ z_tb ∧ jM_ST_compact.1.cls ≠ "java/lang/invoke/MethodHandle" ∧ jM_ST_compact.1.cls ≠ "java/lang/invoke/VarHandle" ∧ (parseMethodDescriptor jM_ST_compact.1.desc).map (fun q => q.parameters.length) = some 1 ∧ jM_ST_compact.2.2.1 ≤ 45 := ⟨zi (i := 599) (by decide +kernel) (by decide +kernel), zi (i := 1) (by decide +kernel) (by decide +kernel), by decide +kernel, by decide +kernel, by decide +kernel, by decide +kernel⟩
theorem kV_Law_62 : z_LV "SchemaTablesLaw" 62 jM_ST_compact 1 0 := ⟨⟨Or.inl (zi (i := 596) (by decide +kernel) (by decide +kernel)), kk_ST_compact.1, kk_ST_compact.2.1, kk_ST_compact.2.2.1, kk_ST_compact.2.2.2.1, kk_ST_compact.2.2.2.2.1, kk_ST_compact.2.2.2.2.2⟩, zi (i := 597) (by decide +kernel) (by decide +kernel), _, _, _, rfl, zi (i := 598) (by decide +kernel) (by decide +kernel)⟩
theorem kk_Mo_compact : Cond.code jM_Mo_compact.1 jM_Mo_compact.2.1 jM_Mo_compact.2.2.1 jM_Mo_compact.2.2.2 ∈ z_tb ∧ Cond.initialized jM_Mo_compact.1.cls ∈ z_tb ∧ jM_Mo_compact.1.cls ≠ "java/lang/invoke/MethodHandle" ∧ jM_Mo_compact.1.cls ≠ "java/lang/invoke/VarHandle" ∧ (parseMethodDescriptor jM_Mo_compact.1.desc).map (fun q => q.parameters.length) = some 1 ∧ jM_Mo_compact.2.2.1 ≤ 45 := ⟨zi (i := 1024) (by decide +kernel) (by decide +kernel), zi (i := 9) (by decide +kernel) (by decide +kernel), by decide +kernel, by decide +kernel, by decide +kernel, by decide +kernel⟩
theorem kV_Law_65 : z_LV "SchemaTablesLaw" 65 jM_Mo_compact 1 1 := ⟨⟨Or.inl (zi (i := 1021) (by decide +kernel) (by decide +kernel)), kk_Mo_compact.1, kk_Mo_compact.2.1, kk_Mo_compact.2.2.1, kk_Mo_compact.2.2.2.1, kk_Mo_compact.2.2.2.2.1, kk_Mo_compact.2.2.2.2.2⟩, zi (i := 1022) (by decide +kernel) (by decide +kernel), _, _, _, rfl, zi (i := 1023) (by decide +kernel) (by decide +kernel)⟩
theorem kk_ST_read : Cond.code jM_ST_read.1 jM_ST_read.2.1 jM_ST_read.2.2.1 jM_ST_read.2.2.2 ∈ z_tb ∧ Cond.initialized jM_ST_read.1.cls ∈ z_tb ∧ jM_ST_read.1.cls ≠ "java/lang/invoke/MethodHandle" ∧ jM_ST_read.1.cls ≠ "java/lang/invoke/VarHandle" ∧ (parseMethodDescriptor jM_ST_read.1.desc).map (fun q => q.parameters.length) = some 3 ∧ jM_ST_read.2.2.1 ≤ 45 := ⟨zi (i := 636) (by decide +kernel) (by decide +kernel), zi (i := 1) (by decide +kernel) (by decide +kernel), by decide +kernel, by decide +kernel, by decide +kernel, by decide +kernel⟩
theorem kV_Law_66 : z_LV "SchemaTablesLaw" 66 jM_ST_read 3 0 := ⟨⟨Or.inl (zi (i := 633) (by decide +kernel) (by decide +kernel)), kk_ST_read.1, kk_ST_read.2.1, kk_ST_read.2.2.1, kk_ST_read.2.2.2.1, kk_ST_read.2.2.2.2.1, kk_ST_read.2.2.2.2.2⟩, zi (i := 634) (by decide +kernel) (by decide +kernel), _, _, _, rfl, zi (i := 635) (by decide +kernel) (by decide +kernel)⟩
theorem kk_Mo_read : Cond.code jM_Mo_read.1 jM_Mo_read.2.1 jM_Mo_read.2.2.1 jM_Mo_read.2.2.2 ∈ z_tb ∧ Cond.initialized jM_Mo_read.1.cls ∈ z_tb ∧ jM_Mo_read.1.cls ≠ "java/lang/invoke/MethodHandle" ∧ jM_Mo_read.1.cls ≠ "java/lang/invoke/VarHandle" ∧ (parseMethodDescriptor jM_Mo_read.1.desc).map (fun q => q.parameters.length) = some 3 ∧ jM_Mo_read.2.2.1 ≤ 45 := ⟨zi (i := 1049) (by decide +kernel) (by decide +kernel), zi (i := 9) (by decide +kernel) (by decide +kernel), by decide +kernel, by decide +kernel, by decide +kernel, by decide +kernel⟩
theorem kV_Law_70 : z_LV "SchemaTablesLaw" 70 jM_Mo_read 3 1 := ⟨⟨Or.inl (zi (i := 1046) (by decide +kernel) (by decide +kernel)), kk_Mo_read.1, kk_Mo_read.2.1, kk_Mo_read.2.2.1, kk_Mo_read.2.2.2.1, kk_Mo_read.2.2.2.2.1, kk_Mo_read.2.2.2.2.2⟩, zi (i := 1047) (by decide +kernel) (by decide +kernel), _, _, _, rfl, zi (i := 1048) (by decide +kernel) (by decide +kernel)⟩
theorem kk_ST_number : Cond.code jM_ST_number.1 jM_ST_number.2.1 jM_ST_number.2.2.1 jM_ST_number.2.2.2 ∈ z_tb ∧ Cond.initialized jM_ST_number.1.cls ∈ z_tb ∧ jM_ST_number.1.cls ≠ "java/lang/invoke/MethodHandle" ∧ jM_ST_number.1.cls ≠ "java/lang/invoke/VarHandle" ∧ (parseMethodDescriptor jM_ST_number.1.desc).map (fun q => q.parameters.length) = some 1 ∧ jM_ST_number.2.2.1 ≤ 45 := ⟨zi (i := 710) (by decide +kernel) (by decide +kernel), zi (i := 1) (by decide +kernel) (by decide +kernel), by decide +kernel, by decide +kernel, by decide +kernel, by decide +kernel⟩
theorem kV_Law_71 : z_LV "SchemaTablesLaw" 71 jM_ST_number 1 0 := ⟨⟨Or.inl (zi (i := 707) (by decide +kernel) (by decide +kernel)), kk_ST_number.1, kk_ST_number.2.1, kk_ST_number.2.2.1, kk_ST_number.2.2.2.1, kk_ST_number.2.2.2.2.1, kk_ST_number.2.2.2.2.2⟩, zi (i := 708) (by decide +kernel) (by decide +kernel), _, _, _, rfl, zi (i := 709) (by decide +kernel) (by decide +kernel)⟩
theorem kk_Mo_number : Cond.code jM_Mo_number.1 jM_Mo_number.2.1 jM_Mo_number.2.2.1 jM_Mo_number.2.2.2 ∈ z_tb ∧ Cond.initialized jM_Mo_number.1.cls ∈ z_tb ∧ jM_Mo_number.1.cls ≠ "java/lang/invoke/MethodHandle" ∧ jM_Mo_number.1.cls ≠ "java/lang/invoke/VarHandle" ∧ (parseMethodDescriptor jM_Mo_number.1.desc).map (fun q => q.parameters.length) = some 1 ∧ jM_Mo_number.2.2.1 ≤ 45 := ⟨zi (i := 1104) (by decide +kernel) (by decide +kernel), zi (i := 9) (by decide +kernel) (by decide +kernel), by decide +kernel, by decide +kernel, by decide +kernel, by decide +kernel⟩
theorem kV_Law_75 : z_LV "SchemaTablesLaw" 75 jM_Mo_number 1 1 := ⟨⟨Or.inl (zi (i := 1101) (by decide +kernel) (by decide +kernel)), kk_Mo_number.1, kk_Mo_number.2.1, kk_Mo_number.2.2.1, kk_Mo_number.2.2.2.1, kk_Mo_number.2.2.2.2.1, kk_Mo_number.2.2.2.2.2⟩, zi (i := 1102) (by decide +kernel) (by decide +kernel), _, _, _, rfl, zi (i := 1103) (by decide +kernel) (by decide +kernel)⟩
theorem kk_ST_records : Cond.code jM_ST_records.1 jM_ST_records.2.1 jM_ST_records.2.2.1 jM_ST_records.2.2.2 ∈ z_tb ∧ Cond.initialized jM_ST_records.1.cls ∈ z_tb ∧ jM_ST_records.1.cls ≠ "java/lang/invoke/MethodHandle" ∧ jM_ST_records.1.cls ≠ "java/lang/invoke/VarHandle" ∧ (parseMethodDescriptor jM_ST_records.1.desc).map (fun q => q.parameters.length) = some 1 ∧ jM_ST_records.2.2.1 ≤ 45 := ⟨zi (i := 715) (by decide +kernel) (by decide +kernel), zi (i := 1) (by decide +kernel) (by decide +kernel), by decide +kernel, by decide +kernel, by decide +kernel, by decide +kernel⟩
theorem kV_Law_76 : z_LV "SchemaTablesLaw" 76 jM_ST_records 1 0 := ⟨⟨Or.inl (zi (i := 712) (by decide +kernel) (by decide +kernel)), kk_ST_records.1, kk_ST_records.2.1, kk_ST_records.2.2.1, kk_ST_records.2.2.2.1, kk_ST_records.2.2.2.2.1, kk_ST_records.2.2.2.2.2⟩, zi (i := 713) (by decide +kernel) (by decide +kernel), _, _, _, rfl, zi (i := 714) (by decide +kernel) (by decide +kernel)⟩
theorem kV_Law_79 : z_LV "SchemaTablesLaw" 79 jM_Mo_records 1 1 := ⟨⟨Or.inl (zi (i := 1041) (by decide +kernel) (by decide +kernel)), kk_Mo_records.1, kk_Mo_records.2.1, kk_Mo_records.2.2.1, kk_Mo_records.2.2.2.1, kk_Mo_records.2.2.2.2.1, kk_Mo_records.2.2.2.2.2⟩, zi (i := 1006) (by decide +kernel) (by decide +kernel), _, _, _, rfl, zi (i := 1007) (by decide +kernel) (by decide +kernel)⟩
theorem kk_ST_files : Cond.code jM_ST_files.1 jM_ST_files.2.1 jM_ST_files.2.2.1 jM_ST_files.2.2.2 ∈ z_tb ∧ Cond.initialized jM_ST_files.1.cls ∈ z_tb ∧ jM_ST_files.1.cls ≠ "java/lang/invoke/MethodHandle" ∧ jM_ST_files.1.cls ≠ "java/lang/invoke/VarHandle" ∧ (parseMethodDescriptor jM_ST_files.1.desc).map (fun q => q.parameters.length) = some 1 ∧ jM_ST_files.2.2.1 ≤ 45 := ⟨zi (i := 719) (by decide +kernel) (by decide +kernel), zi (i := 1) (by decide +kernel) (by decide +kernel), by decide +kernel, by decide +kernel, by decide +kernel, by decide +kernel⟩
theorem kV_Law_80 : z_LV "SchemaTablesLaw" 80 jM_ST_files 1 0 := ⟨⟨Or.inl (zi (i := 716) (by decide +kernel) (by decide +kernel)), kk_ST_files.1, kk_ST_files.2.1, kk_ST_files.2.2.1, kk_ST_files.2.2.2.1, kk_ST_files.2.2.2.2.1, kk_ST_files.2.2.2.2.2⟩, zi (i := 717) (by decide +kernel) (by decide +kernel), _, _, _, rfl, zi (i := 718) (by decide +kernel) (by decide +kernel)⟩
theorem kk_Mo_files : Cond.code jM_Mo_files.1 jM_Mo_files.2.1 jM_Mo_files.2.2.1 jM_Mo_files.2.2.2 ∈ z_tb ∧ Cond.initialized jM_Mo_files.1.cls ∈ z_tb ∧ jM_Mo_files.1.cls ≠ "java/lang/invoke/MethodHandle" ∧ jM_Mo_files.1.cls ≠ "java/lang/invoke/VarHandle" ∧ (parseMethodDescriptor jM_Mo_files.1.desc).map (fun q => q.parameters.length) = some 1 ∧ jM_Mo_files.2.2.1 ≤ 45 := ⟨zi (i := 1045) (by decide +kernel) (by decide +kernel), zi (i := 9) (by decide +kernel) (by decide +kernel), by decide +kernel, by decide +kernel, by decide +kernel, by decide +kernel⟩
theorem kV_Law_83 : z_LV "SchemaTablesLaw" 83 jM_Mo_files 1 1 := ⟨⟨Or.inl (zi (i := 1042) (by decide +kernel) (by decide +kernel)), kk_Mo_files.1, kk_Mo_files.2.1, kk_Mo_files.2.2.1, kk_Mo_files.2.2.2.1, kk_Mo_files.2.2.2.2.1, kk_Mo_files.2.2.2.2.2⟩, zi (i := 1043) (by decide +kernel) (by decide +kernel), _, _, _, rfl, zi (i := 1044) (by decide +kernel) (by decide +kernel)⟩
theorem kk_ST_octet : Cond.code jM_ST_octet.1 jM_ST_octet.2.1 jM_ST_octet.2.2.1 jM_ST_octet.2.2.2 ∈ z_tb ∧ Cond.initialized jM_ST_octet.1.cls ∈ z_tb ∧ jM_ST_octet.1.cls ≠ "java/lang/invoke/MethodHandle" ∧ jM_ST_octet.1.cls ≠ "java/lang/invoke/VarHandle" ∧ (parseMethodDescriptor jM_ST_octet.1.desc).map (fun q => q.parameters.length) = some 2 ∧ jM_ST_octet.2.2.1 ≤ 45 := ⟨zi (i := 727) (by decide +kernel) (by decide +kernel), zi (i := 1) (by decide +kernel) (by decide +kernel), by decide +kernel, by decide +kernel, by decide +kernel, by decide +kernel⟩
theorem kV_Law_84 : z_LV "SchemaTablesLaw" 84 jM_ST_octet 2 0 := ⟨⟨Or.inl (zi (i := 724) (by decide +kernel) (by decide +kernel)), kk_ST_octet.1, kk_ST_octet.2.1, kk_ST_octet.2.2.1, kk_ST_octet.2.2.2.1, kk_ST_octet.2.2.2.2.1, kk_ST_octet.2.2.2.2.2⟩, zi (i := 725) (by decide +kernel) (by decide +kernel), _, _, _, rfl, zi (i := 726) (by decide +kernel) (by decide +kernel)⟩
theorem kk_Mo_octet : Cond.code jM_Mo_octet.1 jM_Mo_octet.2.1 jM_Mo_octet.2.2.1 jM_Mo_octet.2.2.2 ∈ z_tb ∧ Cond.initialized jM_Mo_octet.1.cls ∈ z_tb ∧ jM_Mo_octet.1.cls ≠ "java/lang/invoke/MethodHandle" ∧ jM_Mo_octet.1.cls ≠ "java/lang/invoke/VarHandle" ∧ (parseMethodDescriptor jM_Mo_octet.1.desc).map (fun q => q.parameters.length) = some 2 ∧ jM_Mo_octet.2.2.1 ≤ 45 := ⟨zi (i := 1108) (by decide +kernel) (by decide +kernel), zi (i := 9) (by decide +kernel) (by decide +kernel), by decide +kernel, by decide +kernel, by decide +kernel, by decide +kernel⟩
theorem kV_Law_87 : z_LV "SchemaTablesLaw" 87 jM_Mo_octet 2 1 := ⟨⟨Or.inl (zi (i := 1105) (by decide +kernel) (by decide +kernel)), kk_Mo_octet.1, kk_Mo_octet.2.1, kk_Mo_octet.2.2.1, kk_Mo_octet.2.2.2.1, kk_Mo_octet.2.2.2.2.1, kk_Mo_octet.2.2.2.2.2⟩, zi (i := 1106) (by decide +kernel) (by decide +kernel), _, _, _, rfl, zi (i := 1107) (by decide +kernel) (by decide +kernel)⟩
theorem kk_ST_limit : Cond.code jM_ST_limit.1 jM_ST_limit.2.1 jM_ST_limit.2.2.1 jM_ST_limit.2.2.2 ∈ z_tb ∧ Cond.initialized jM_ST_limit.1.cls ∈ z_tb ∧ jM_ST_limit.1.cls ≠ "java/lang/invoke/MethodHandle" ∧ jM_ST_limit.1.cls ≠ "java/lang/invoke/VarHandle" ∧ (parseMethodDescriptor jM_ST_limit.1.desc).map (fun q => q.parameters.length) = some 1 ∧ jM_ST_limit.2.2.1 ≤ 45 := ⟨zi (i := 733) (by decide +kernel) (by decide +kernel), zi (i := 1) (by decide +kernel) (by decide +kernel), by decide +kernel, by decide +kernel, by decide +kernel, by decide +kernel⟩
theorem kV_Law_88 : z_LV "SchemaTablesLaw" 88 jM_ST_limit 1 0 := ⟨⟨Or.inl (zi (i := 730) (by decide +kernel) (by decide +kernel)), kk_ST_limit.1, kk_ST_limit.2.1, kk_ST_limit.2.2.1, kk_ST_limit.2.2.2.1, kk_ST_limit.2.2.2.2.1, kk_ST_limit.2.2.2.2.2⟩, zi (i := 731) (by decide +kernel) (by decide +kernel), _, _, _, rfl, zi (i := 732) (by decide +kernel) (by decide +kernel)⟩
theorem kk_Mo_limit : Cond.code jM_Mo_limit.1 jM_Mo_limit.2.1 jM_Mo_limit.2.2.1 jM_Mo_limit.2.2.2 ∈ z_tb ∧ Cond.initialized jM_Mo_limit.1.cls ∈ z_tb ∧ jM_Mo_limit.1.cls ≠ "java/lang/invoke/MethodHandle" ∧ jM_Mo_limit.1.cls ≠ "java/lang/invoke/VarHandle" ∧ (parseMethodDescriptor jM_Mo_limit.1.desc).map (fun q => q.parameters.length) = some 1 ∧ jM_Mo_limit.2.2.1 ≤ 45 := ⟨zi (i := 1112) (by decide +kernel) (by decide +kernel), zi (i := 9) (by decide +kernel) (by decide +kernel), by decide +kernel, by decide +kernel, by decide +kernel, by decide +kernel⟩
theorem kV_Law_91 : z_LV "SchemaTablesLaw" 91 jM_Mo_limit 1 1 := ⟨⟨Or.inl (zi (i := 1109) (by decide +kernel) (by decide +kernel)), kk_Mo_limit.1, kk_Mo_limit.2.1, kk_Mo_limit.2.2.1, kk_Mo_limit.2.2.2.1, kk_Mo_limit.2.2.2.2.1, kk_Mo_limit.2.2.2.2.2⟩, zi (i := 1110) (by decide +kernel) (by decide +kernel), _, _, _, rfl, zi (i := 1111) (by decide +kernel) (by decide +kernel)⟩
theorem kk_ST_restart : Cond.code jM_ST_restart.1 jM_ST_restart.2.1 jM_ST_restart.2.2.1 jM_ST_restart.2.2.2 ∈ z_tb ∧ Cond.initialized jM_ST_restart.1.cls ∈ z_tb ∧ jM_ST_restart.1.cls ≠ "java/lang/invoke/MethodHandle" ∧ jM_ST_restart.1.cls ≠ "java/lang/invoke/VarHandle" ∧ (parseMethodDescriptor jM_ST_restart.1.desc).map (fun q => q.parameters.length) = some 0 ∧ jM_ST_restart.2.2.1 ≤ 45 := ⟨zi (i := 737) (by decide +kernel) (by decide +kernel), zi (i := 1) (by decide +kernel) (by decide +kernel), by decide +kernel, by decide +kernel, by decide +kernel, by decide +kernel⟩
theorem kV_Law_92 : z_LV "SchemaTablesLaw" 92 jM_ST_restart 0 0 := ⟨⟨Or.inl (zi (i := 734) (by decide +kernel) (by decide +kernel)), kk_ST_restart.1, kk_ST_restart.2.1, kk_ST_restart.2.2.1, kk_ST_restart.2.2.2.1, kk_ST_restart.2.2.2.2.1, kk_ST_restart.2.2.2.2.2⟩, zi (i := 735) (by decide +kernel) (by decide +kernel), _, _, _, rfl, zi (i := 736) (by decide +kernel) (by decide +kernel)⟩
theorem kk_Mo_restart : Cond.code jM_Mo_restart.1 jM_Mo_restart.2.1 jM_Mo_restart.2.2.1 jM_Mo_restart.2.2.2 ∈ z_tb ∧ Cond.initialized jM_Mo_restart.1.cls ∈ z_tb ∧ jM_Mo_restart.1.cls ≠ "java/lang/invoke/MethodHandle" ∧ jM_Mo_restart.1.cls ≠ "java/lang/invoke/VarHandle" ∧ (parseMethodDescriptor jM_Mo_restart.1.desc).map (fun q => q.parameters.length) = some 0 ∧ jM_Mo_restart.2.2.1 ≤ 45 := ⟨zi (i := 1116) (by decide +kernel) (by decide +kernel), zi (i := 9) (by decide +kernel) (by decide +kernel), by decide +kernel, by decide +kernel, by decide +kernel, by decide +kernel⟩
theorem kV_Law_96 : z_LV "SchemaTablesLaw" 96 jM_Mo_restart 0 1 := ⟨⟨Or.inl (zi (i := 1113) (by decide +kernel) (by decide +kernel)), kk_Mo_restart.1, kk_Mo_restart.2.1, kk_Mo_restart.2.2.1, kk_Mo_restart.2.2.2.1, kk_Mo_restart.2.2.2.2.1, kk_Mo_restart.2.2.2.2.2⟩, zi (i := 1114) (by decide +kernel) (by decide +kernel), _, _, _, rfl, zi (i := 1115) (by decide +kernel) (by decide +kernel)⟩
theorem kk_ST_writes : Cond.code jM_ST_writes.1 jM_ST_writes.2.1 jM_ST_writes.2.2.1 jM_ST_writes.2.2.2 ∈ z_tb ∧ Cond.initialized jM_ST_writes.1.cls ∈ z_tb ∧ jM_ST_writes.1.cls ≠ "java/lang/invoke/MethodHandle" ∧ jM_ST_writes.1.cls ≠ "java/lang/invoke/VarHandle" ∧ (parseMethodDescriptor jM_ST_writes.1.desc).map (fun q => q.parameters.length) = some 0 ∧ jM_ST_writes.2.2.1 ≤ 45 := ⟨zi (i := 741) (by decide +kernel) (by decide +kernel), zi (i := 1) (by decide +kernel) (by decide +kernel), by decide +kernel, by decide +kernel, by decide +kernel, by decide +kernel⟩
theorem kV_Law_97 : z_LV "SchemaTablesLaw" 97 jM_ST_writes 0 0 := ⟨⟨Or.inl (zi (i := 738) (by decide +kernel) (by decide +kernel)), kk_ST_writes.1, kk_ST_writes.2.1, kk_ST_writes.2.2.1, kk_ST_writes.2.2.2.1, kk_ST_writes.2.2.2.2.1, kk_ST_writes.2.2.2.2.2⟩, zi (i := 739) (by decide +kernel) (by decide +kernel), _, _, _, rfl, zi (i := 740) (by decide +kernel) (by decide +kernel)⟩
theorem kk_Mo_writes : Cond.code jM_Mo_writes.1 jM_Mo_writes.2.1 jM_Mo_writes.2.2.1 jM_Mo_writes.2.2.2 ∈ z_tb ∧ Cond.initialized jM_Mo_writes.1.cls ∈ z_tb ∧ jM_Mo_writes.1.cls ≠ "java/lang/invoke/MethodHandle" ∧ jM_Mo_writes.1.cls ≠ "java/lang/invoke/VarHandle" ∧ (parseMethodDescriptor jM_Mo_writes.1.desc).map (fun q => q.parameters.length) = some 0 ∧ jM_Mo_writes.2.2.1 ≤ 45 := ⟨zi (i := 1120) (by decide +kernel) (by decide +kernel), zi (i := 9) (by decide +kernel) (by decide +kernel), by decide +kernel, by decide +kernel, by decide +kernel, by decide +kernel⟩
theorem kV_Law_100 : z_LV "SchemaTablesLaw" 100 jM_Mo_writes 0 1 := ⟨⟨Or.inl (zi (i := 1117) (by decide +kernel) (by decide +kernel)), kk_Mo_writes.1, kk_Mo_writes.2.1, kk_Mo_writes.2.2.1, kk_Mo_writes.2.2.2.1, kk_Mo_writes.2.2.2.2.1, kk_Mo_writes.2.2.2.2.2⟩, zi (i := 1118) (by decide +kernel) (by decide +kernel), _, _, _, rfl, zi (i := 1119) (by decide +kernel) (by decide +kernel)⟩
def jL_Law_law_18 (fu : Nat) (L : Nat) (xs : Nat → Int32) : Nat → Option Nat → Option Nat → Int32 → zH → Option (Int32 × zH)
  | 0, _, _, _, _ => none
  | g + 1, a1, a2, a3, H =>
    if ((nI L) - (6 : Int32)) < a3 then (
      some ((1 : Int32), H))
    else (
      (zxl L xs a3).bind fun v29 =>
      if (v29 &&& (31 : Int32)) = (0 : Int32) then (
        (zxl L xs (a3 + (1 : Int32))).bind fun v129 =>
        (zxl L xs (a3 + (2 : Int32))).bind fun v134 =>
        (zxl L xs (a3 + (3 : Int32))).bind fun v139 =>
        if v139 = 0 then (
          (zxl L xs (a3 + (4 : Int32))).bind fun v152 =>
          (zxl L xs (a3 + (5 : Int32))).bind fun v161 =>
          (jF_ST_field fu a1 v129 v134 (0 : Int32) ((v152.toInt64 <<< ((32 : Int32).toInt64 &&& 63)) ||| (v161.toInt64 &&& (4294967295 : Int64))) H).bind fun y168 =>
          (zxl L xs (a3 + (1 : Int32))).bind fun v176 =>
          (zxl L xs (a3 + (2 : Int32))).bind fun v181 =>
          (zxl L xs (a3 + (3 : Int32))).bind fun v186 =>
          if v186 = 0 then (
            (zxl L xs (a3 + (4 : Int32))).bind fun v199 =>
            (zxl L xs (a3 + (5 : Int32))).bind fun v208 =>
            (jF_Mo_field fu a2 v176 v181 (0 : Int32) ((v199.toInt64 <<< ((32 : Int32).toInt64 &&& 63)) ||| (v208.toInt64 &&& (4294967295 : Int64))) y168.2).bind fun y215 =>
            if y168.1 = y215.1 then (
              jL_Law_law_18 fu L xs g a1 a2 (a3 + (6 : Int32)) y215.2)
            else (
              some ((0 : Int32), y215.2)))
          else (
            (zxl L xs (a3 + (4 : Int32))).bind fun v199 =>
            (zxl L xs (a3 + (5 : Int32))).bind fun v208 =>
            (jF_Mo_field fu a2 v176 v181 (1 : Int32) ((v199.toInt64 <<< ((32 : Int32).toInt64 &&& 63)) ||| (v208.toInt64 &&& (4294967295 : Int64))) y168.2).bind fun y215 =>
            if y168.1 = y215.1 then (
              jL_Law_law_18 fu L xs g a1 a2 (a3 + (6 : Int32)) y215.2)
            else (
              some ((0 : Int32), y215.2))))
        else (
          (zxl L xs (a3 + (4 : Int32))).bind fun v152 =>
          (zxl L xs (a3 + (5 : Int32))).bind fun v161 =>
          (jF_ST_field fu a1 v129 v134 (1 : Int32) ((v152.toInt64 <<< ((32 : Int32).toInt64 &&& 63)) ||| (v161.toInt64 &&& (4294967295 : Int64))) H).bind fun y168 =>
          (zxl L xs (a3 + (1 : Int32))).bind fun v176 =>
          (zxl L xs (a3 + (2 : Int32))).bind fun v181 =>
          (zxl L xs (a3 + (3 : Int32))).bind fun v186 =>
          if v186 = 0 then (
            (zxl L xs (a3 + (4 : Int32))).bind fun v199 =>
            (zxl L xs (a3 + (5 : Int32))).bind fun v208 =>
            (jF_Mo_field fu a2 v176 v181 (0 : Int32) ((v199.toInt64 <<< ((32 : Int32).toInt64 &&& 63)) ||| (v208.toInt64 &&& (4294967295 : Int64))) y168.2).bind fun y215 =>
            if y168.1 = y215.1 then (
              jL_Law_law_18 fu L xs g a1 a2 (a3 + (6 : Int32)) y215.2)
            else (
              some ((0 : Int32), y215.2)))
          else (
            (zxl L xs (a3 + (4 : Int32))).bind fun v199 =>
            (zxl L xs (a3 + (5 : Int32))).bind fun v208 =>
            (jF_Mo_field fu a2 v176 v181 (1 : Int32) ((v199.toInt64 <<< ((32 : Int32).toInt64 &&& 63)) ||| (v208.toInt64 &&& (4294967295 : Int64))) y168.2).bind fun y215 =>
            if y168.1 = y215.1 then (
              jL_Law_law_18 fu L xs g a1 a2 (a3 + (6 : Int32)) y215.2)
            else (
              some ((0 : Int32), y215.2)))))
      else (
        if (v29 &&& (31 : Int32)) = (1 : Int32) then (
          (zxl L xs (a3 + (1 : Int32))).bind fun v228 =>
          (zxl L xs (a3 + (2 : Int32))).bind fun v233 =>
          (zxl L xs (a3 + (3 : Int32))).bind fun v238 =>
          (zxl L xs (a3 + (4 : Int32))).bind fun v243 =>
          (jF_ST_make fu a1 v228 v233 v238 v243 H).bind fun y244 =>
          (zxl L xs (a3 + (1 : Int32))).bind fun v252 =>
          (zxl L xs (a3 + (2 : Int32))).bind fun v257 =>
          (zxl L xs (a3 + (3 : Int32))).bind fun v262 =>
          (zxl L xs (a3 + (4 : Int32))).bind fun v267 =>
          (jF_Mo_make fu a2 v252 v257 v262 v267 y244.2).bind fun y268 =>
          if y244.1 = y268.1 then (
            jL_Law_law_18 fu L xs g a1 a2 (a3 + (6 : Int32)) y268.2)
          else (
            some ((0 : Int32), y268.2)))
        else (
          if (v29 &&& (31 : Int32)) = (2 : Int32) then (
            (zxl L xs (a3 + (1 : Int32))).bind fun v281 =>
            (zxl L xs (a3 + (2 : Int32))).bind fun v286 =>
            (jF_ST_canRead fu a1 v281 v286 H).bind fun y287 =>
            (zxl L xs (a3 + (1 : Int32))).bind fun v295 =>
            (zxl L xs (a3 + (2 : Int32))).bind fun v300 =>
            (jF_Mo_canRead a2 v295 v300 H).bind fun y301 =>
            if y287 = y301 then (
              jL_Law_law_18 fu L xs g a1 a2 (a3 + (6 : Int32)) H)
            else (
              some ((0 : Int32), H)))
          else (
            if (v29 &&& (31 : Int32)) = (3 : Int32) then (
              (zxl L xs (a3 + (1 : Int32))).bind fun v314 =>
              (zxl L xs (a3 + (2 : Int32))).bind fun v319 =>
              (jF_ST_register fu a1 v314 v319 H).bind fun y320 =>
              (zxl L xs (a3 + (1 : Int32))).bind fun v328 =>
              (zxl L xs (a3 + (2 : Int32))).bind fun v333 =>
              (jF_Mo_register fu a2 v328 v333 y320.2).bind fun y334 =>
              if y320.1 = y334.1 then (
                jL_Law_law_18 fu L xs g a1 a2 (a3 + (6 : Int32)) y334.2)
              else (
                some ((0 : Int32), y334.2)))
            else (
              if (v29 &&& (31 : Int32)) = (4 : Int32) then (
                (zxl L xs (a3 + (1 : Int32))).bind fun v347 =>
                (jF_ST_versions fu a1 v347 H).bind fun y348 =>
                (zxl L xs (a3 + (1 : Int32))).bind fun v356 =>
                (jF_Mo_versions fu a2 v356 H).bind fun y357 =>
                if y348 = y357 then (
                  jL_Law_law_18 fu L xs g a1 a2 (a3 + (6 : Int32)) H)
                else (
                  some ((0 : Int32), H)))
              else (
                if (v29 &&& (31 : Int32)) = (5 : Int32) then (
                  (zxl L xs (a3 + (1 : Int32))).bind fun v370 =>
                  (zxl L xs (a3 + (2 : Int32))).bind fun v375 =>
                  (jF_ST_version fu a1 v370 v375 H).bind fun y376 =>
                  (zxl L xs (a3 + (1 : Int32))).bind fun v384 =>
                  (zxl L xs (a3 + (2 : Int32))).bind fun v389 =>
                  (jF_Mo_version fu a2 v384 v389 H).bind fun y390 =>
                  if y376 = y390 then (
                    jL_Law_law_18 fu L xs g a1 a2 (a3 + (6 : Int32)) H)
                  else (
                    some ((0 : Int32), H)))
                else (
                  if (v29 &&& (31 : Int32)) = (6 : Int32) then (
                    (zxl L xs (a3 + (1 : Int32))).bind fun v403 =>
                    (zxl L xs (a3 + (2 : Int32))).bind fun v412 =>
                    (jF_ST_give a1 ((v403.toInt64 <<< ((32 : Int32).toInt64 &&& 63)) ||| (v412.toInt64 &&& (4294967295 : Int64))) H).bind fun y419 =>
                    (zxl L xs (a3 + (1 : Int32))).bind fun v427 =>
                    (zxl L xs (a3 + (2 : Int32))).bind fun v436 =>
                    (jF_Mo_give a2 ((v427.toInt64 <<< ((32 : Int32).toInt64 &&& 63)) ||| (v436.toInt64 &&& (4294967295 : Int64))) y419.2).bind fun y443 =>
                    if y419.1 = y443.1 then (
                      jL_Law_law_18 fu L xs g a1 a2 (a3 + (6 : Int32)) y443.2)
                    else (
                      some ((0 : Int32), y443.2)))
                  else (
                    if (v29 &&& (31 : Int32)) = (7 : Int32) then (
                      (zxl L xs (a3 + (1 : Int32))).bind fun v456 =>
                      (jF_ST_stage fu a1 v456 H).bind fun y457 =>
                      (zxl L xs (a3 + (1 : Int32))).bind fun v465 =>
                      (jF_Mo_stage fu a2 v465 y457.2).bind fun y466 =>
                      if y457.1 = y466.1 then (
                        jL_Law_law_18 fu L xs g a1 a2 (a3 + (6 : Int32)) y466.2)
                      else (
                        some ((0 : Int32), y466.2)))
                    else (
                      if (v29 &&& (31 : Int32)) = (8 : Int32) then (
                        (jF_ST_drop a1 H).bind fun y475 =>
                        (jF_Mo_drop a2 y475.2).bind fun y479 =>
                        if y475.1 = y479.1 then (
                          jL_Law_law_18 fu L xs g a1 a2 (a3 + (6 : Int32)) y479.2)
                        else (
                          some ((0 : Int32), y479.2)))
                      else (
                        if (v29 &&& (31 : Int32)) = (9 : Int32) then (
                          (zxl L xs (a3 + (1 : Int32))).bind fun v492 =>
                          (jF_ST_load fu a1 v492 H).bind fun y493 =>
                          (zxl L xs (a3 + (1 : Int32))).bind fun v501 =>
                          (jF_Mo_load fu a2 v501 y493.2).bind fun y502 =>
                          if y493.1 = y502.1 then (
                            jL_Law_law_18 fu L xs g a1 a2 (a3 + (6 : Int32)) y502.2)
                          else (
                            some ((0 : Int32), y502.2)))
                        else (
                          if (v29 &&& (31 : Int32)) = (10 : Int32) then (
                            (zxl L xs (a3 + (1 : Int32))).bind fun v515 =>
                            (jF_ST_compact fu a1 v515 H).bind fun y516 =>
                            (zxl L xs (a3 + (1 : Int32))).bind fun v524 =>
                            (jF_Mo_compact fu a2 v524 y516.2).bind fun y525 =>
                            if y516.1 = y525.1 then (
                              jL_Law_law_18 fu L xs g a1 a2 (a3 + (6 : Int32)) y525.2)
                            else (
                              some ((0 : Int32), y525.2)))
                          else (
                            if (v29 &&& (31 : Int32)) = (11 : Int32) then (
                              (zxl L xs (a3 + (1 : Int32))).bind fun v538 =>
                              (zxl L xs (a3 + (2 : Int32))).bind fun v543 =>
                              (zxl L xs (a3 + (3 : Int32))).bind fun v548 =>
                              (jF_ST_read fu a1 v538 v543 v548 H).bind fun y549 =>
                              (zxl L xs (a3 + (1 : Int32))).bind fun v557 =>
                              (zxl L xs (a3 + (2 : Int32))).bind fun v562 =>
                              (zxl L xs (a3 + (3 : Int32))).bind fun v567 =>
                              (jF_Mo_read fu a2 v557 v562 v567 y549.2).bind fun y568 =>
                              if y549.1 = y568.1 then (
                                jL_Law_law_18 fu L xs g a1 a2 (a3 + (6 : Int32)) y568.2)
                              else (
                                some ((0 : Int32), y568.2)))
                            else (
                              if (v29 &&& (31 : Int32)) = (12 : Int32) then (
                                (zxl L xs (a3 + (1 : Int32))).bind fun v581 =>
                                (jF_ST_number a1 v581 H).bind fun y582 =>
                                (zxl L xs (a3 + (1 : Int32))).bind fun v590 =>
                                (jF_Mo_number a2 v590 H).bind fun y591 =>
                                if y582 = y591 then (
                                  jL_Law_law_18 fu L xs g a1 a2 (a3 + (6 : Int32)) H)
                                else (
                                  some ((0 : Int32), H)))
                              else (
                                if (v29 &&& (31 : Int32)) = (13 : Int32) then (
                                  (zxl L xs (a3 + (1 : Int32))).bind fun v605 =>
                                  (jF_ST_records fu a1 v605 H).bind fun y606 =>
                                  (zxl L xs (a3 + (1 : Int32))).bind fun v614 =>
                                  (jF_Mo_records fu a2 v614 H).bind fun y615 =>
                                  if y606 = y615 then (
                                    jL_Law_law_18 fu L xs g a1 a2 (a3 + (6 : Int32)) H)
                                  else (
                                    some ((0 : Int32), H)))
                                else (
                                  if (v29 &&& (31 : Int32)) = (14 : Int32) then (
                                    (zxl L xs (a3 + (1 : Int32))).bind fun v628 =>
                                    (jF_ST_files fu a1 v628 H).bind fun y629 =>
                                    (zxl L xs (a3 + (1 : Int32))).bind fun v637 =>
                                    (jF_Mo_files fu a2 v637 H).bind fun y638 =>
                                    if y629 = y638 then (
                                      jL_Law_law_18 fu L xs g a1 a2 (a3 + (6 : Int32)) H)
                                    else (
                                      some ((0 : Int32), H)))
                                  else (
                                    if (v29 &&& (31 : Int32)) = (15 : Int32) then (
                                      (zxl L xs (a3 + (1 : Int32))).bind fun v651 =>
                                      (zxl L xs (a3 + (2 : Int32))).bind fun v656 =>
                                      (jF_ST_octet a1 v651 v656 H).bind fun y657 =>
                                      (zxl L xs (a3 + (1 : Int32))).bind fun v665 =>
                                      (zxl L xs (a3 + (2 : Int32))).bind fun v670 =>
                                      (jF_Mo_octet a2 v665 v670 H).bind fun y671 =>
                                      if y657 = y671 then (
                                        jL_Law_law_18 fu L xs g a1 a2 (a3 + (6 : Int32)) H)
                                      else (
                                        some ((0 : Int32), H)))
                                    else (
                                      if (v29 &&& (31 : Int32)) = (16 : Int32) then (
                                        (zxl L xs (a3 + (1 : Int32))).bind fun v684 =>
                                        (jF_ST_limit a1 v684 H).bind fun y685 =>
                                        (zxl L xs (a3 + (1 : Int32))).bind fun v693 =>
                                        (jF_Mo_limit a2 v693 y685.2).bind fun y694 =>
                                        if y685.1 = y694.1 then (
                                          jL_Law_law_18 fu L xs g a1 a2 (a3 + (6 : Int32)) y694.2)
                                        else (
                                          some ((0 : Int32), y694.2)))
                                      else (
                                        if (v29 &&& (31 : Int32)) = (17 : Int32) then (
                                          (jF_ST_restart a1 H).bind fun y703 =>
                                          (jF_Mo_restart a2 y703.2).bind fun y707 =>
                                          if y703.1 = y707.1 then (
                                            jL_Law_law_18 fu L xs g a1 a2 (a3 + (6 : Int32)) y707.2)
                                          else (
                                            some ((0 : Int32), y707.2)))
                                        else (
                                          if (v29 &&& (31 : Int32)) = (18 : Int32) then (
                                            (jF_ST_writes a1 H).bind fun y716 =>
                                            (jF_Mo_writes a2 H).bind fun y720 =>
                                            if y716 = y720 then (
                                              jL_Law_law_18 fu L xs g a1 a2 (a3 + (6 : Int32)) H)
                                            else (
                                              some ((0 : Int32), H)))
                                          else (
                                            jL_Law_law_18 fu L xs g a1 a2 (a3 + (6 : Int32)) H))))))))))))))))))))
def jF_Law_law (fu : Nat) (L : Nat) (xs : Nat → Int32) (H : zH) : Option (Int32 × zH) :=
  (zno H (.inr (0, [zR none, zR none, zR none, zR none, zR none, zR none, zR none, zR none]))).bind fun H0 =>
  (jF_ST_init H.2 H0).bind fun y4 =>
  (zno y4 (.inr (1, [zI 0, zR none, zR none, zR none, zR none, zR none, zR none, zR none, zR none, zR none, zR none, zR none, zR none, zI 0, zR none, zI 0, zI 0, zI 0, zI 0, zR none, zI 0, zI 0, zI 0, zR none, zI 0, zR none, zI 0, zR none, zI 0, zR none, zR none, zR none, zR none, zI 0, zI 0, zI 0]))).bind fun H8 =>
  (jF_Mo_init y4.2 H8).bind fun y12 =>
  jL_Law_law_18 fu L xs 520 (some H.2) (some y4.2) (0 : Int32) y12
theorem jl_Law_law_18 {E : zE} {d : Nat} (hd : 240 ≤ d) (fu : Nat) (L : Nat) (xs : Nat → Int32) (hL : E.2.2.2.2.1 = L) (hx : E.2.2.2.2.2 = xs) : ∀ (g cs ss : Nat), cs + g * 11 ≤ 5765 → ss + g * 47 ≤ 31223 → ∀ (a1 : Option Nat) (a2 : Option Nat) (a3 : Int32) (H : zH), z_S E jM_Law_law d 5765 31223 zwI 18 [(0, zR (some 0)), (1, zR a1), (2, zR a2), (3, zI a3)] [] H cs ss (jL_Law_law_18 fu L xs g a1 a2 a3 H) := by
  intro g
  induction g with
  | zero => intros; exact zs_none
  | succ g ih =>
    intro cs ss hc hs a1 a2 a3 H
    rw [jL_Law_law_18]
    refine zs_iload_n (pc := 18) (x := a3) d_Law_law_18 rfl ?_
    refine zs_aload_n (pc := 19) (x := (some 0)) d_Law_law_19 rfl ?_
    refine zs_slen (pc := 20) d_Law_law_20 hL ?_
    refine zs_bipush (pc := 21) (v := (6 : Int32)) d_Law_law_21 (by decide) ?_
    refine zs_isub (pc := 23) d_Law_law_23 ?_
    refine zs_icmp_gt (pc := 24) (tgt := 734) d_Law_law_24 rfl (fun q24 => ?_) (fun q24 => ?_)
    · refine zs_iconst (pc := 734) (v := (1 : Int32)) d_Law_law_734 (by decide) ?_
      exact zs_zretc (pc := 735) d_Law_law_735 rfl (by decide) (by omega) (by omega) rfl
    · refine zs_aload_n (pc := 27) (x := (some 0)) d_Law_law_27 rfl ?_
      refine zs_iload_n (pc := 28) (x := a3) d_Law_law_28 rfl ?_
      refine zs_sld (pc := 29) d_Law_law_29 hL hx fun v29 => ?_
      refine zs_bipush (pc := 30) (v := (31 : Int32)) d_Law_law_30 (by decide) ?_
      refine zs_iand (pc := 32) d_Law_law_32 ?_
      refine zs_ite (fun q => ?_) (fun q33_0 => ?_)
      · refine zs_table (pc := 33) (tgt := 124) d_Law_law_33 rfl (by rcases q with q <;> (rw [q]; decide)) ?_
        refine zs_aload_n (pc := 124) (x := a1) d_Law_law_124 rfl ?_
        refine zs_aload_n (pc := 125) (x := (some 0)) d_Law_law_125 rfl ?_
        refine zs_iload_n (pc := 126) (x := a3) d_Law_law_126 rfl ?_
        refine zs_iconst (pc := 127) (v := (1 : Int32)) d_Law_law_127 (by decide) ?_
        refine zs_iadd (pc := 128) d_Law_law_128 ?_
        refine zs_sld (pc := 129) d_Law_law_129 hL hx fun v129 => ?_
        refine zs_aload_n (pc := 130) (x := (some 0)) d_Law_law_130 rfl ?_
        refine zs_iload_n (pc := 131) (x := a3) d_Law_law_131 rfl ?_
        refine zs_iconst (pc := 132) (v := (2 : Int32)) d_Law_law_132 (by decide) ?_
        refine zs_iadd (pc := 133) d_Law_law_133 ?_
        refine zs_sld (pc := 134) d_Law_law_134 hL hx fun v134 => ?_
        refine zs_aload_n (pc := 135) (x := (some 0)) d_Law_law_135 rfl ?_
        refine zs_iload_n (pc := 136) (x := a3) d_Law_law_136 rfl ?_
        refine zs_iconst (pc := 137) (v := (3 : Int32)) d_Law_law_137 (by decide) ?_
        refine zs_iadd (pc := 138) d_Law_law_138 ?_
        refine zs_sld (pc := 139) d_Law_law_139 hL hx fun v139 => ?_
        refine zs_if_eq (pc := 140) (tgt := 147) d_Law_law_140 rfl (fun q140 => ?_) (fun q140 => ?_)
        · refine zs_iconst (pc := 147) (v := (0 : Int32)) d_Law_law_147 (by decide) ?_
          refine zs_aload_n (pc := 148) (x := (some 0)) d_Law_law_148 rfl ?_
          refine zs_iload_n (pc := 149) (x := a3) d_Law_law_149 rfl ?_
          refine zs_iconst (pc := 150) (v := (4 : Int32)) d_Law_law_150 (by decide) ?_
          refine zs_iadd (pc := 151) d_Law_law_151 ?_
          refine zs_sld (pc := 152) d_Law_law_152 hL hx fun v152 => ?_
          refine zs_i2l (pc := 153) d_Law_law_153 ?_
          refine zs_bipush (pc := 154) (v := (32 : Int32)) d_Law_law_154 (by decide) ?_
          refine zs_lshl (pc := 156) d_Law_law_156 ?_
          refine zs_aload_n (pc := 157) (x := (some 0)) d_Law_law_157 rfl ?_
          refine zs_iload_n (pc := 158) (x := a3) d_Law_law_158 rfl ?_
          refine zs_iconst (pc := 159) (v := (5 : Int32)) d_Law_law_159 (by decide) ?_
          refine zs_iadd (pc := 160) d_Law_law_160 ?_
          refine zs_sld (pc := 161) d_Law_law_161 hL hx fun v161 => ?_
          refine zs_i2l (pc := 162) d_Law_law_162 ?_
          refine zs_ldc2 (pc := 163) (v := (4294967295 : Int64)) d_Law_law_163 kC_Law_13 ?_
          refine zs_land (pc := 166) d_Law_law_166 ?_
          refine zs_lor (pc := 167) d_Law_law_167 ?_
          refine zs_callv_wI (pc := 168) (av := [zI v129, zI v134, zI (0 : Int32), zL ((v152.toInt64 <<< ((32 : Int32).toInt64 &&& 63)) ||| (v161.toInt64 &&& (4294967295 : Int64)))]) (st := []) (d' := 23) (C' := 1) (S' := 4) d_Law_law_168 kV_Law_15 z_okb (jm_ST_field (d := 23) (Nat.le_refl _) fu a1 v129 v134 (0 : Int32) ((v152.toInt64 <<< ((32 : Int32).toInt64 &&& 63)) ||| (v161.toInt64 &&& (4294967295 : Int64))) H) (by omega) (by omega) (by omega) rfl rfl (Nat.le_of_ble_eq_true rfl) fun y168 => ?_
          refine zs_aload_n (pc := 171) (x := a2) d_Law_law_171 rfl ?_
          refine zs_aload_n (pc := 172) (x := (some 0)) d_Law_law_172 rfl ?_
          refine zs_iload_n (pc := 173) (x := a3) d_Law_law_173 rfl ?_
          refine zs_iconst (pc := 174) (v := (1 : Int32)) d_Law_law_174 (by decide) ?_
          refine zs_iadd (pc := 175) d_Law_law_175 ?_
          refine zs_sld (pc := 176) d_Law_law_176 hL hx fun v176 => ?_
          refine zs_aload_n (pc := 177) (x := (some 0)) d_Law_law_177 rfl ?_
          refine zs_iload_n (pc := 178) (x := a3) d_Law_law_178 rfl ?_
          refine zs_iconst (pc := 179) (v := (2 : Int32)) d_Law_law_179 (by decide) ?_
          refine zs_iadd (pc := 180) d_Law_law_180 ?_
          refine zs_sld (pc := 181) d_Law_law_181 hL hx fun v181 => ?_
          refine zs_aload_n (pc := 182) (x := (some 0)) d_Law_law_182 rfl ?_
          refine zs_iload_n (pc := 183) (x := a3) d_Law_law_183 rfl ?_
          refine zs_iconst (pc := 184) (v := (3 : Int32)) d_Law_law_184 (by decide) ?_
          refine zs_iadd (pc := 185) d_Law_law_185 ?_
          refine zs_sld (pc := 186) d_Law_law_186 hL hx fun v186 => ?_
          refine zs_if_eq (pc := 187) (tgt := 194) d_Law_law_187 rfl (fun q187 => ?_) (fun q187 => ?_)
          · refine zs_iconst (pc := 194) (v := (0 : Int32)) d_Law_law_194 (by decide) ?_
            refine zs_aload_n (pc := 195) (x := (some 0)) d_Law_law_195 rfl ?_
            refine zs_iload_n (pc := 196) (x := a3) d_Law_law_196 rfl ?_
            refine zs_iconst (pc := 197) (v := (4 : Int32)) d_Law_law_197 (by decide) ?_
            refine zs_iadd (pc := 198) d_Law_law_198 ?_
            refine zs_sld (pc := 199) d_Law_law_199 hL hx fun v199 => ?_
            refine zs_i2l (pc := 200) d_Law_law_200 ?_
            refine zs_bipush (pc := 201) (v := (32 : Int32)) d_Law_law_201 (by decide) ?_
            refine zs_lshl (pc := 203) d_Law_law_203 ?_
            refine zs_aload_n (pc := 204) (x := (some 0)) d_Law_law_204 rfl ?_
            refine zs_iload_n (pc := 205) (x := a3) d_Law_law_205 rfl ?_
            refine zs_iconst (pc := 206) (v := (5 : Int32)) d_Law_law_206 (by decide) ?_
            refine zs_iadd (pc := 207) d_Law_law_207 ?_
            refine zs_sld (pc := 208) d_Law_law_208 hL hx fun v208 => ?_
            refine zs_i2l (pc := 209) d_Law_law_209 ?_
            refine zs_ldc2 (pc := 210) (v := (4294967295 : Int64)) d_Law_law_210 kC_Law_13 ?_
            refine zs_land (pc := 213) d_Law_law_213 ?_
            refine zs_lor (pc := 214) d_Law_law_214 ?_
            refine zs_callv_wI (pc := 215) (av := [zI v176, zI v181, zI (0 : Int32), zL ((v199.toInt64 <<< ((32 : Int32).toInt64 &&& 63)) ||| (v208.toInt64 &&& (4294967295 : Int64)))]) (st := [zI y168.1]) (d' := 2) (C' := 0) (S' := 0) d_Law_law_215 kV_Law_19 z_okb (jm_Mo_field (d := 2) (Nat.le_refl _) fu a2 v176 v181 (0 : Int32) ((v199.toInt64 <<< ((32 : Int32).toInt64 &&& 63)) ||| (v208.toInt64 &&& (4294967295 : Int64))) y168.2) (by omega) (by omega) (by omega) rfl rfl (Nat.le_of_ble_eq_true rfl) fun y215 => ?_
            refine zs_icmp_eq (pc := 218) (tgt := 728) d_Law_law_218 rfl (fun q218 => ?_) (fun q218 => ?_)
            · refine zs_iinc (pc := 728) (x := a3) (v := (a3 + (6 : Int32))) (lv' := [(3, zI (a3 + (6 : Int32))), (0, zR (some 0)), (1, zR a1), (2, zR a2)]) d_Law_law_728 rfl rfl (Nat.le_of_ble_eq_true rfl) rfl ?_
              refine zs_goto (pc := 731) (tgt := 18) d_Law_law_731 rfl ?_
              refine zs_sub (lv' := [(0, zR (some 0)), (1, zR a1), (2, zR a2), (3, zI (a3 + (6 : Int32)))]) [1, 2, 3, 0] rfl ?_
              refine zs_wid (cs' := cs + 11) (ss' := ss + 47) (by omega) (by omega) ?_
              exact ih (cs + 11) (ss + 47) (by omega) (by omega) a1 a2 (a3 + (6 : Int32)) y215.2
            · refine zs_iconst (pc := 221) (v := (0 : Int32)) d_Law_law_221 (by decide) ?_
              exact zs_zretc (pc := 222) d_Law_law_222 rfl (by decide) (by omega) (by omega) rfl
          · refine zs_iconst (pc := 190) (v := (1 : Int32)) d_Law_law_190 (by decide) ?_
            refine zs_goto (pc := 191) (tgt := 195) d_Law_law_191 rfl ?_
            refine zs_aload_n (pc := 195) (x := (some 0)) d_Law_law_195 rfl ?_
            refine zs_iload_n (pc := 196) (x := a3) d_Law_law_196 rfl ?_
            refine zs_iconst (pc := 197) (v := (4 : Int32)) d_Law_law_197 (by decide) ?_
            refine zs_iadd (pc := 198) d_Law_law_198 ?_
            refine zs_sld (pc := 199) d_Law_law_199 hL hx fun v199 => ?_
            refine zs_i2l (pc := 200) d_Law_law_200 ?_
            refine zs_bipush (pc := 201) (v := (32 : Int32)) d_Law_law_201 (by decide) ?_
            refine zs_lshl (pc := 203) d_Law_law_203 ?_
            refine zs_aload_n (pc := 204) (x := (some 0)) d_Law_law_204 rfl ?_
            refine zs_iload_n (pc := 205) (x := a3) d_Law_law_205 rfl ?_
            refine zs_iconst (pc := 206) (v := (5 : Int32)) d_Law_law_206 (by decide) ?_
            refine zs_iadd (pc := 207) d_Law_law_207 ?_
            refine zs_sld (pc := 208) d_Law_law_208 hL hx fun v208 => ?_
            refine zs_i2l (pc := 209) d_Law_law_209 ?_
            refine zs_ldc2 (pc := 210) (v := (4294967295 : Int64)) d_Law_law_210 kC_Law_13 ?_
            refine zs_land (pc := 213) d_Law_law_213 ?_
            refine zs_lor (pc := 214) d_Law_law_214 ?_
            refine zs_callv_wI (pc := 215) (av := [zI v176, zI v181, zI (1 : Int32), zL ((v199.toInt64 <<< ((32 : Int32).toInt64 &&& 63)) ||| (v208.toInt64 &&& (4294967295 : Int64)))]) (st := [zI y168.1]) (d' := 2) (C' := 0) (S' := 0) d_Law_law_215 kV_Law_19 z_okb (jm_Mo_field (d := 2) (Nat.le_refl _) fu a2 v176 v181 (1 : Int32) ((v199.toInt64 <<< ((32 : Int32).toInt64 &&& 63)) ||| (v208.toInt64 &&& (4294967295 : Int64))) y168.2) (by omega) (by omega) (by omega) rfl rfl (Nat.le_of_ble_eq_true rfl) fun y215 => ?_
            refine zs_icmp_eq (pc := 218) (tgt := 728) d_Law_law_218 rfl (fun q218 => ?_) (fun q218 => ?_)
            · refine zs_iinc (pc := 728) (x := a3) (v := (a3 + (6 : Int32))) (lv' := [(3, zI (a3 + (6 : Int32))), (0, zR (some 0)), (1, zR a1), (2, zR a2)]) d_Law_law_728 rfl rfl (Nat.le_of_ble_eq_true rfl) rfl ?_
              refine zs_goto (pc := 731) (tgt := 18) d_Law_law_731 rfl ?_
              refine zs_sub (lv' := [(0, zR (some 0)), (1, zR a1), (2, zR a2), (3, zI (a3 + (6 : Int32)))]) [1, 2, 3, 0] rfl ?_
              refine zs_wid (cs' := cs + 11) (ss' := ss + 47) (by omega) (by omega) ?_
              exact ih (cs + 11) (ss + 47) (by omega) (by omega) a1 a2 (a3 + (6 : Int32)) y215.2
            · refine zs_iconst (pc := 221) (v := (0 : Int32)) d_Law_law_221 (by decide) ?_
              exact zs_zretc (pc := 222) d_Law_law_222 rfl (by decide) (by omega) (by omega) rfl
        · refine zs_iconst (pc := 143) (v := (1 : Int32)) d_Law_law_143 (by decide) ?_
          refine zs_goto (pc := 144) (tgt := 148) d_Law_law_144 rfl ?_
          refine zs_aload_n (pc := 148) (x := (some 0)) d_Law_law_148 rfl ?_
          refine zs_iload_n (pc := 149) (x := a3) d_Law_law_149 rfl ?_
          refine zs_iconst (pc := 150) (v := (4 : Int32)) d_Law_law_150 (by decide) ?_
          refine zs_iadd (pc := 151) d_Law_law_151 ?_
          refine zs_sld (pc := 152) d_Law_law_152 hL hx fun v152 => ?_
          refine zs_i2l (pc := 153) d_Law_law_153 ?_
          refine zs_bipush (pc := 154) (v := (32 : Int32)) d_Law_law_154 (by decide) ?_
          refine zs_lshl (pc := 156) d_Law_law_156 ?_
          refine zs_aload_n (pc := 157) (x := (some 0)) d_Law_law_157 rfl ?_
          refine zs_iload_n (pc := 158) (x := a3) d_Law_law_158 rfl ?_
          refine zs_iconst (pc := 159) (v := (5 : Int32)) d_Law_law_159 (by decide) ?_
          refine zs_iadd (pc := 160) d_Law_law_160 ?_
          refine zs_sld (pc := 161) d_Law_law_161 hL hx fun v161 => ?_
          refine zs_i2l (pc := 162) d_Law_law_162 ?_
          refine zs_ldc2 (pc := 163) (v := (4294967295 : Int64)) d_Law_law_163 kC_Law_13 ?_
          refine zs_land (pc := 166) d_Law_law_166 ?_
          refine zs_lor (pc := 167) d_Law_law_167 ?_
          refine zs_callv_wI (pc := 168) (av := [zI v129, zI v134, zI (1 : Int32), zL ((v152.toInt64 <<< ((32 : Int32).toInt64 &&& 63)) ||| (v161.toInt64 &&& (4294967295 : Int64)))]) (st := []) (d' := 23) (C' := 1) (S' := 4) d_Law_law_168 kV_Law_15 z_okb (jm_ST_field (d := 23) (Nat.le_refl _) fu a1 v129 v134 (1 : Int32) ((v152.toInt64 <<< ((32 : Int32).toInt64 &&& 63)) ||| (v161.toInt64 &&& (4294967295 : Int64))) H) (by omega) (by omega) (by omega) rfl rfl (Nat.le_of_ble_eq_true rfl) fun y168 => ?_
          refine zs_aload_n (pc := 171) (x := a2) d_Law_law_171 rfl ?_
          refine zs_aload_n (pc := 172) (x := (some 0)) d_Law_law_172 rfl ?_
          refine zs_iload_n (pc := 173) (x := a3) d_Law_law_173 rfl ?_
          refine zs_iconst (pc := 174) (v := (1 : Int32)) d_Law_law_174 (by decide) ?_
          refine zs_iadd (pc := 175) d_Law_law_175 ?_
          refine zs_sld (pc := 176) d_Law_law_176 hL hx fun v176 => ?_
          refine zs_aload_n (pc := 177) (x := (some 0)) d_Law_law_177 rfl ?_
          refine zs_iload_n (pc := 178) (x := a3) d_Law_law_178 rfl ?_
          refine zs_iconst (pc := 179) (v := (2 : Int32)) d_Law_law_179 (by decide) ?_
          refine zs_iadd (pc := 180) d_Law_law_180 ?_
          refine zs_sld (pc := 181) d_Law_law_181 hL hx fun v181 => ?_
          refine zs_aload_n (pc := 182) (x := (some 0)) d_Law_law_182 rfl ?_
          refine zs_iload_n (pc := 183) (x := a3) d_Law_law_183 rfl ?_
          refine zs_iconst (pc := 184) (v := (3 : Int32)) d_Law_law_184 (by decide) ?_
          refine zs_iadd (pc := 185) d_Law_law_185 ?_
          refine zs_sld (pc := 186) d_Law_law_186 hL hx fun v186 => ?_
          refine zs_if_eq (pc := 187) (tgt := 194) d_Law_law_187 rfl (fun q187 => ?_) (fun q187 => ?_)
          · refine zs_iconst (pc := 194) (v := (0 : Int32)) d_Law_law_194 (by decide) ?_
            refine zs_aload_n (pc := 195) (x := (some 0)) d_Law_law_195 rfl ?_
            refine zs_iload_n (pc := 196) (x := a3) d_Law_law_196 rfl ?_
            refine zs_iconst (pc := 197) (v := (4 : Int32)) d_Law_law_197 (by decide) ?_
            refine zs_iadd (pc := 198) d_Law_law_198 ?_
            refine zs_sld (pc := 199) d_Law_law_199 hL hx fun v199 => ?_
            refine zs_i2l (pc := 200) d_Law_law_200 ?_
            refine zs_bipush (pc := 201) (v := (32 : Int32)) d_Law_law_201 (by decide) ?_
            refine zs_lshl (pc := 203) d_Law_law_203 ?_
            refine zs_aload_n (pc := 204) (x := (some 0)) d_Law_law_204 rfl ?_
            refine zs_iload_n (pc := 205) (x := a3) d_Law_law_205 rfl ?_
            refine zs_iconst (pc := 206) (v := (5 : Int32)) d_Law_law_206 (by decide) ?_
            refine zs_iadd (pc := 207) d_Law_law_207 ?_
            refine zs_sld (pc := 208) d_Law_law_208 hL hx fun v208 => ?_
            refine zs_i2l (pc := 209) d_Law_law_209 ?_
            refine zs_ldc2 (pc := 210) (v := (4294967295 : Int64)) d_Law_law_210 kC_Law_13 ?_
            refine zs_land (pc := 213) d_Law_law_213 ?_
            refine zs_lor (pc := 214) d_Law_law_214 ?_
            refine zs_callv_wI (pc := 215) (av := [zI v176, zI v181, zI (0 : Int32), zL ((v199.toInt64 <<< ((32 : Int32).toInt64 &&& 63)) ||| (v208.toInt64 &&& (4294967295 : Int64)))]) (st := [zI y168.1]) (d' := 2) (C' := 0) (S' := 0) d_Law_law_215 kV_Law_19 z_okb (jm_Mo_field (d := 2) (Nat.le_refl _) fu a2 v176 v181 (0 : Int32) ((v199.toInt64 <<< ((32 : Int32).toInt64 &&& 63)) ||| (v208.toInt64 &&& (4294967295 : Int64))) y168.2) (by omega) (by omega) (by omega) rfl rfl (Nat.le_of_ble_eq_true rfl) fun y215 => ?_
            refine zs_icmp_eq (pc := 218) (tgt := 728) d_Law_law_218 rfl (fun q218 => ?_) (fun q218 => ?_)
            · refine zs_iinc (pc := 728) (x := a3) (v := (a3 + (6 : Int32))) (lv' := [(3, zI (a3 + (6 : Int32))), (0, zR (some 0)), (1, zR a1), (2, zR a2)]) d_Law_law_728 rfl rfl (Nat.le_of_ble_eq_true rfl) rfl ?_
              refine zs_goto (pc := 731) (tgt := 18) d_Law_law_731 rfl ?_
              refine zs_sub (lv' := [(0, zR (some 0)), (1, zR a1), (2, zR a2), (3, zI (a3 + (6 : Int32)))]) [1, 2, 3, 0] rfl ?_
              refine zs_wid (cs' := cs + 11) (ss' := ss + 47) (by omega) (by omega) ?_
              exact ih (cs + 11) (ss + 47) (by omega) (by omega) a1 a2 (a3 + (6 : Int32)) y215.2
            · refine zs_iconst (pc := 221) (v := (0 : Int32)) d_Law_law_221 (by decide) ?_
              exact zs_zretc (pc := 222) d_Law_law_222 rfl (by decide) (by omega) (by omega) rfl
          · refine zs_iconst (pc := 190) (v := (1 : Int32)) d_Law_law_190 (by decide) ?_
            refine zs_goto (pc := 191) (tgt := 195) d_Law_law_191 rfl ?_
            refine zs_aload_n (pc := 195) (x := (some 0)) d_Law_law_195 rfl ?_
            refine zs_iload_n (pc := 196) (x := a3) d_Law_law_196 rfl ?_
            refine zs_iconst (pc := 197) (v := (4 : Int32)) d_Law_law_197 (by decide) ?_
            refine zs_iadd (pc := 198) d_Law_law_198 ?_
            refine zs_sld (pc := 199) d_Law_law_199 hL hx fun v199 => ?_
            refine zs_i2l (pc := 200) d_Law_law_200 ?_
            refine zs_bipush (pc := 201) (v := (32 : Int32)) d_Law_law_201 (by decide) ?_
            refine zs_lshl (pc := 203) d_Law_law_203 ?_
            refine zs_aload_n (pc := 204) (x := (some 0)) d_Law_law_204 rfl ?_
            refine zs_iload_n (pc := 205) (x := a3) d_Law_law_205 rfl ?_
            refine zs_iconst (pc := 206) (v := (5 : Int32)) d_Law_law_206 (by decide) ?_
            refine zs_iadd (pc := 207) d_Law_law_207 ?_
            refine zs_sld (pc := 208) d_Law_law_208 hL hx fun v208 => ?_
            refine zs_i2l (pc := 209) d_Law_law_209 ?_
            refine zs_ldc2 (pc := 210) (v := (4294967295 : Int64)) d_Law_law_210 kC_Law_13 ?_
            refine zs_land (pc := 213) d_Law_law_213 ?_
            refine zs_lor (pc := 214) d_Law_law_214 ?_
            refine zs_callv_wI (pc := 215) (av := [zI v176, zI v181, zI (1 : Int32), zL ((v199.toInt64 <<< ((32 : Int32).toInt64 &&& 63)) ||| (v208.toInt64 &&& (4294967295 : Int64)))]) (st := [zI y168.1]) (d' := 2) (C' := 0) (S' := 0) d_Law_law_215 kV_Law_19 z_okb (jm_Mo_field (d := 2) (Nat.le_refl _) fu a2 v176 v181 (1 : Int32) ((v199.toInt64 <<< ((32 : Int32).toInt64 &&& 63)) ||| (v208.toInt64 &&& (4294967295 : Int64))) y168.2) (by omega) (by omega) (by omega) rfl rfl (Nat.le_of_ble_eq_true rfl) fun y215 => ?_
            refine zs_icmp_eq (pc := 218) (tgt := 728) d_Law_law_218 rfl (fun q218 => ?_) (fun q218 => ?_)
            · refine zs_iinc (pc := 728) (x := a3) (v := (a3 + (6 : Int32))) (lv' := [(3, zI (a3 + (6 : Int32))), (0, zR (some 0)), (1, zR a1), (2, zR a2)]) d_Law_law_728 rfl rfl (Nat.le_of_ble_eq_true rfl) rfl ?_
              refine zs_goto (pc := 731) (tgt := 18) d_Law_law_731 rfl ?_
              refine zs_sub (lv' := [(0, zR (some 0)), (1, zR a1), (2, zR a2), (3, zI (a3 + (6 : Int32)))]) [1, 2, 3, 0] rfl ?_
              refine zs_wid (cs' := cs + 11) (ss' := ss + 47) (by omega) (by omega) ?_
              exact ih (cs + 11) (ss + 47) (by omega) (by omega) a1 a2 (a3 + (6 : Int32)) y215.2
            · refine zs_iconst (pc := 221) (v := (0 : Int32)) d_Law_law_221 (by decide) ?_
              exact zs_zretc (pc := 222) d_Law_law_222 rfl (by decide) (by omega) (by omega) rfl
      refine zs_ite (fun q => ?_) (fun q33_1 => ?_)
      · refine zs_table (pc := 33) (tgt := 223) d_Law_law_33 rfl (by rcases q with q <;> (rw [q]; decide)) ?_
        refine zs_aload_n (pc := 223) (x := a1) d_Law_law_223 rfl ?_
        refine zs_aload_n (pc := 224) (x := (some 0)) d_Law_law_224 rfl ?_
        refine zs_iload_n (pc := 225) (x := a3) d_Law_law_225 rfl ?_
        refine zs_iconst (pc := 226) (v := (1 : Int32)) d_Law_law_226 (by decide) ?_
        refine zs_iadd (pc := 227) d_Law_law_227 ?_
        refine zs_sld (pc := 228) d_Law_law_228 hL hx fun v228 => ?_
        refine zs_aload_n (pc := 229) (x := (some 0)) d_Law_law_229 rfl ?_
        refine zs_iload_n (pc := 230) (x := a3) d_Law_law_230 rfl ?_
        refine zs_iconst (pc := 231) (v := (2 : Int32)) d_Law_law_231 (by decide) ?_
        refine zs_iadd (pc := 232) d_Law_law_232 ?_
        refine zs_sld (pc := 233) d_Law_law_233 hL hx fun v233 => ?_
        refine zs_aload_n (pc := 234) (x := (some 0)) d_Law_law_234 rfl ?_
        refine zs_iload_n (pc := 235) (x := a3) d_Law_law_235 rfl ?_
        refine zs_iconst (pc := 236) (v := (3 : Int32)) d_Law_law_236 (by decide) ?_
        refine zs_iadd (pc := 237) d_Law_law_237 ?_
        refine zs_sld (pc := 238) d_Law_law_238 hL hx fun v238 => ?_
        refine zs_aload_n (pc := 239) (x := (some 0)) d_Law_law_239 rfl ?_
        refine zs_iload_n (pc := 240) (x := a3) d_Law_law_240 rfl ?_
        refine zs_iconst (pc := 241) (v := (4 : Int32)) d_Law_law_241 (by decide) ?_
        refine zs_iadd (pc := 242) d_Law_law_242 ?_
        refine zs_sld (pc := 243) d_Law_law_243 hL hx fun v243 => ?_
        refine zs_callv_wI (pc := 244) (av := [zI v228, zI v233, zI v238, zI v243]) (st := []) (d' := 7) (C' := 10) (S' := 43) d_Law_law_244 kV_Law_20 z_okb (jm_ST_make (d := 7) (Nat.le_refl _) fu a1 v228 v233 v238 v243 H) (by omega) (by omega) (by omega) rfl rfl (Nat.le_of_ble_eq_true rfl) fun y244 => ?_
        refine zs_aload_n (pc := 247) (x := a2) d_Law_law_247 rfl ?_
        refine zs_aload_n (pc := 248) (x := (some 0)) d_Law_law_248 rfl ?_
        refine zs_iload_n (pc := 249) (x := a3) d_Law_law_249 rfl ?_
        refine zs_iconst (pc := 250) (v := (1 : Int32)) d_Law_law_250 (by decide) ?_
        refine zs_iadd (pc := 251) d_Law_law_251 ?_
        refine zs_sld (pc := 252) d_Law_law_252 hL hx fun v252 => ?_
        refine zs_aload_n (pc := 253) (x := (some 0)) d_Law_law_253 rfl ?_
        refine zs_iload_n (pc := 254) (x := a3) d_Law_law_254 rfl ?_
        refine zs_iconst (pc := 255) (v := (2 : Int32)) d_Law_law_255 (by decide) ?_
        refine zs_iadd (pc := 256) d_Law_law_256 ?_
        refine zs_sld (pc := 257) d_Law_law_257 hL hx fun v257 => ?_
        refine zs_aload_n (pc := 258) (x := (some 0)) d_Law_law_258 rfl ?_
        refine zs_iload_n (pc := 259) (x := a3) d_Law_law_259 rfl ?_
        refine zs_iconst (pc := 260) (v := (3 : Int32)) d_Law_law_260 (by decide) ?_
        refine zs_iadd (pc := 261) d_Law_law_261 ?_
        refine zs_sld (pc := 262) d_Law_law_262 hL hx fun v262 => ?_
        refine zs_aload_n (pc := 263) (x := (some 0)) d_Law_law_263 rfl ?_
        refine zs_iload_n (pc := 264) (x := a3) d_Law_law_264 rfl ?_
        refine zs_iconst (pc := 265) (v := (4 : Int32)) d_Law_law_265 (by decide) ?_
        refine zs_iadd (pc := 266) d_Law_law_266 ?_
        refine zs_sld (pc := 267) d_Law_law_267 hL hx fun v267 => ?_
        refine zs_callv_wI (pc := 268) (av := [zI v252, zI v257, zI v262, zI v267]) (st := [zI y244.1]) (d' := 3) (C' := 0) (S' := 0) d_Law_law_268 kV_Law_24 z_okb (jm_Mo_make (d := 3) (Nat.le_refl _) fu a2 v252 v257 v262 v267 y244.2) (by omega) (by omega) (by omega) rfl rfl (Nat.le_of_ble_eq_true rfl) fun y268 => ?_
        refine zs_icmp_eq (pc := 271) (tgt := 728) d_Law_law_271 rfl (fun q271 => ?_) (fun q271 => ?_)
        · refine zs_iinc (pc := 728) (x := a3) (v := (a3 + (6 : Int32))) (lv' := [(3, zI (a3 + (6 : Int32))), (0, zR (some 0)), (1, zR a1), (2, zR a2)]) d_Law_law_728 rfl rfl (Nat.le_of_ble_eq_true rfl) rfl ?_
          refine zs_goto (pc := 731) (tgt := 18) d_Law_law_731 rfl ?_
          refine zs_sub (lv' := [(0, zR (some 0)), (1, zR a1), (2, zR a2), (3, zI (a3 + (6 : Int32)))]) [1, 2, 3, 0] rfl ?_
          refine zs_wid (cs' := cs + 11) (ss' := ss + 47) (by omega) (by omega) ?_
          exact ih (cs + 11) (ss + 47) (by omega) (by omega) a1 a2 (a3 + (6 : Int32)) y268.2
        · refine zs_iconst (pc := 274) (v := (0 : Int32)) d_Law_law_274 (by decide) ?_
          exact zs_zretc (pc := 275) d_Law_law_275 rfl (by decide) (by omega) (by omega) rfl
      refine zs_ite (fun q => ?_) (fun q33_2 => ?_)
      · refine zs_table (pc := 33) (tgt := 276) d_Law_law_33 rfl (by rcases q with q <;> (rw [q]; decide)) ?_
        refine zs_aload_n (pc := 276) (x := a1) d_Law_law_276 rfl ?_
        refine zs_aload_n (pc := 277) (x := (some 0)) d_Law_law_277 rfl ?_
        refine zs_iload_n (pc := 278) (x := a3) d_Law_law_278 rfl ?_
        refine zs_iconst (pc := 279) (v := (1 : Int32)) d_Law_law_279 (by decide) ?_
        refine zs_iadd (pc := 280) d_Law_law_280 ?_
        refine zs_sld (pc := 281) d_Law_law_281 hL hx fun v281 => ?_
        refine zs_aload_n (pc := 282) (x := (some 0)) d_Law_law_282 rfl ?_
        refine zs_iload_n (pc := 283) (x := a3) d_Law_law_283 rfl ?_
        refine zs_iconst (pc := 284) (v := (2 : Int32)) d_Law_law_284 (by decide) ?_
        refine zs_iadd (pc := 285) d_Law_law_285 ?_
        refine zs_sld (pc := 286) d_Law_law_286 hL hx fun v286 => ?_
        refine zs_callv_rI (pc := 287) (av := [zI v281, zI v286]) (st := []) (d' := 127) (C' := 0) (S' := 0) d_Law_law_287 kV_Law_25 z_okb (jm_ST_canRead (d := 127) (Nat.le_refl _) fu a1 v281 v286 H) (by omega) (by omega) (by omega) rfl rfl (Nat.le_of_ble_eq_true rfl) fun y287 => ?_
        refine zs_aload_n (pc := 290) (x := a2) d_Law_law_290 rfl ?_
        refine zs_aload_n (pc := 291) (x := (some 0)) d_Law_law_291 rfl ?_
        refine zs_iload_n (pc := 292) (x := a3) d_Law_law_292 rfl ?_
        refine zs_iconst (pc := 293) (v := (1 : Int32)) d_Law_law_293 (by decide) ?_
        refine zs_iadd (pc := 294) d_Law_law_294 ?_
        refine zs_sld (pc := 295) d_Law_law_295 hL hx fun v295 => ?_
        refine zs_aload_n (pc := 296) (x := (some 0)) d_Law_law_296 rfl ?_
        refine zs_iload_n (pc := 297) (x := a3) d_Law_law_297 rfl ?_
        refine zs_iconst (pc := 298) (v := (2 : Int32)) d_Law_law_298 (by decide) ?_
        refine zs_iadd (pc := 299) d_Law_law_299 ?_
        refine zs_sld (pc := 300) d_Law_law_300 hL hx fun v300 => ?_
        refine zs_callv_rI (pc := 301) (av := [zI v295, zI v300]) (st := [zI y287]) (d' := 1) (C' := 0) (S' := 0) d_Law_law_301 kV_Law_29 z_okb (jm_Mo_canRead (d := 1) (Nat.le_refl _) a2 v295 v300 H) (by omega) (by omega) (by omega) rfl rfl (Nat.le_of_ble_eq_true rfl) fun y301 => ?_
        refine zs_icmp_eq (pc := 304) (tgt := 728) d_Law_law_304 rfl (fun q304 => ?_) (fun q304 => ?_)
        · refine zs_iinc (pc := 728) (x := a3) (v := (a3 + (6 : Int32))) (lv' := [(3, zI (a3 + (6 : Int32))), (0, zR (some 0)), (1, zR a1), (2, zR a2)]) d_Law_law_728 rfl rfl (Nat.le_of_ble_eq_true rfl) rfl ?_
          refine zs_goto (pc := 731) (tgt := 18) d_Law_law_731 rfl ?_
          refine zs_sub (lv' := [(0, zR (some 0)), (1, zR a1), (2, zR a2), (3, zI (a3 + (6 : Int32)))]) [1, 2, 3, 0] rfl ?_
          refine zs_wid (cs' := cs + 11) (ss' := ss + 47) (by omega) (by omega) ?_
          exact ih (cs + 11) (ss + 47) (by omega) (by omega) a1 a2 (a3 + (6 : Int32)) H
        · refine zs_iconst (pc := 307) (v := (0 : Int32)) d_Law_law_307 (by decide) ?_
          exact zs_zretc (pc := 308) d_Law_law_308 rfl (by decide) (by omega) (by omega) rfl
      refine zs_ite (fun q => ?_) (fun q33_3 => ?_)
      · refine zs_table (pc := 33) (tgt := 309) d_Law_law_33 rfl (by rcases q with q <;> (rw [q]; decide)) ?_
        refine zs_aload_n (pc := 309) (x := a1) d_Law_law_309 rfl ?_
        refine zs_aload_n (pc := 310) (x := (some 0)) d_Law_law_310 rfl ?_
        refine zs_iload_n (pc := 311) (x := a3) d_Law_law_311 rfl ?_
        refine zs_iconst (pc := 312) (v := (1 : Int32)) d_Law_law_312 (by decide) ?_
        refine zs_iadd (pc := 313) d_Law_law_313 ?_
        refine zs_sld (pc := 314) d_Law_law_314 hL hx fun v314 => ?_
        refine zs_aload_n (pc := 315) (x := (some 0)) d_Law_law_315 rfl ?_
        refine zs_iload_n (pc := 316) (x := a3) d_Law_law_316 rfl ?_
        refine zs_iconst (pc := 317) (v := (2 : Int32)) d_Law_law_317 (by decide) ?_
        refine zs_iadd (pc := 318) d_Law_law_318 ?_
        refine zs_sld (pc := 319) d_Law_law_319 hL hx fun v319 => ?_
        refine zs_callv_wI (pc := 320) (av := [zI v314, zI v319]) (st := []) (d' := 128) (C' := 0) (S' := 0) d_Law_law_320 kV_Law_30 z_okb (jm_ST_register (d := 128) (Nat.le_refl _) fu a1 v314 v319 H) (by omega) (by omega) (by omega) rfl rfl (Nat.le_of_ble_eq_true rfl) fun y320 => ?_
        refine zs_aload_n (pc := 323) (x := a2) d_Law_law_323 rfl ?_
        refine zs_aload_n (pc := 324) (x := (some 0)) d_Law_law_324 rfl ?_
        refine zs_iload_n (pc := 325) (x := a3) d_Law_law_325 rfl ?_
        refine zs_iconst (pc := 326) (v := (1 : Int32)) d_Law_law_326 (by decide) ?_
        refine zs_iadd (pc := 327) d_Law_law_327 ?_
        refine zs_sld (pc := 328) d_Law_law_328 hL hx fun v328 => ?_
        refine zs_aload_n (pc := 329) (x := (some 0)) d_Law_law_329 rfl ?_
        refine zs_iload_n (pc := 330) (x := a3) d_Law_law_330 rfl ?_
        refine zs_iconst (pc := 331) (v := (2 : Int32)) d_Law_law_331 (by decide) ?_
        refine zs_iadd (pc := 332) d_Law_law_332 ?_
        refine zs_sld (pc := 333) d_Law_law_333 hL hx fun v333 => ?_
        refine zs_callv_wI (pc := 334) (av := [zI v328, zI v333]) (st := [zI y320.1]) (d' := 2) (C' := 0) (S' := 0) d_Law_law_334 kV_Law_34 z_okb (jm_Mo_register (d := 2) (Nat.le_refl _) fu a2 v328 v333 y320.2) (by omega) (by omega) (by omega) rfl rfl (Nat.le_of_ble_eq_true rfl) fun y334 => ?_
        refine zs_icmp_eq (pc := 337) (tgt := 728) d_Law_law_337 rfl (fun q337 => ?_) (fun q337 => ?_)
        · refine zs_iinc (pc := 728) (x := a3) (v := (a3 + (6 : Int32))) (lv' := [(3, zI (a3 + (6 : Int32))), (0, zR (some 0)), (1, zR a1), (2, zR a2)]) d_Law_law_728 rfl rfl (Nat.le_of_ble_eq_true rfl) rfl ?_
          refine zs_goto (pc := 731) (tgt := 18) d_Law_law_731 rfl ?_
          refine zs_sub (lv' := [(0, zR (some 0)), (1, zR a1), (2, zR a2), (3, zI (a3 + (6 : Int32)))]) [1, 2, 3, 0] rfl ?_
          refine zs_wid (cs' := cs + 11) (ss' := ss + 47) (by omega) (by omega) ?_
          exact ih (cs + 11) (ss + 47) (by omega) (by omega) a1 a2 (a3 + (6 : Int32)) y334.2
        · refine zs_iconst (pc := 340) (v := (0 : Int32)) d_Law_law_340 (by decide) ?_
          exact zs_zretc (pc := 341) d_Law_law_341 rfl (by decide) (by omega) (by omega) rfl
      refine zs_ite (fun q => ?_) (fun q33_4 => ?_)
      · refine zs_table (pc := 33) (tgt := 342) d_Law_law_33 rfl (by rcases q with q <;> (rw [q]; decide)) ?_
        refine zs_aload_n (pc := 342) (x := a1) d_Law_law_342 rfl ?_
        refine zs_aload_n (pc := 343) (x := (some 0)) d_Law_law_343 rfl ?_
        refine zs_iload_n (pc := 344) (x := a3) d_Law_law_344 rfl ?_
        refine zs_iconst (pc := 345) (v := (1 : Int32)) d_Law_law_345 (by decide) ?_
        refine zs_iadd (pc := 346) d_Law_law_346 ?_
        refine zs_sld (pc := 347) d_Law_law_347 hL hx fun v347 => ?_
        refine zs_callv_rI (pc := 348) (av := [zI v347]) (st := []) (d' := 3) (C' := 0) (S' := 0) d_Law_law_348 kV_Law_35 z_okb (jm_ST_versions (d := 3) (Nat.le_refl _) fu a1 v347 H) (by omega) (by omega) (by omega) rfl rfl (Nat.le_of_ble_eq_true rfl) fun y348 => ?_
        refine zs_aload_n (pc := 351) (x := a2) d_Law_law_351 rfl ?_
        refine zs_aload_n (pc := 352) (x := (some 0)) d_Law_law_352 rfl ?_
        refine zs_iload_n (pc := 353) (x := a3) d_Law_law_353 rfl ?_
        refine zs_iconst (pc := 354) (v := (1 : Int32)) d_Law_law_354 (by decide) ?_
        refine zs_iadd (pc := 355) d_Law_law_355 ?_
        refine zs_sld (pc := 356) d_Law_law_356 hL hx fun v356 => ?_
        refine zs_callv_rI (pc := 357) (av := [zI v356]) (st := [zI y348]) (d' := 1) (C' := 0) (S' := 0) d_Law_law_357 kV_Law_39 z_okb (jm_Mo_versions (d := 1) (Nat.le_refl _) fu a2 v356 H) (by omega) (by omega) (by omega) rfl rfl (Nat.le_of_ble_eq_true rfl) fun y357 => ?_
        refine zs_icmp_eq (pc := 360) (tgt := 728) d_Law_law_360 rfl (fun q360 => ?_) (fun q360 => ?_)
        · refine zs_iinc (pc := 728) (x := a3) (v := (a3 + (6 : Int32))) (lv' := [(3, zI (a3 + (6 : Int32))), (0, zR (some 0)), (1, zR a1), (2, zR a2)]) d_Law_law_728 rfl rfl (Nat.le_of_ble_eq_true rfl) rfl ?_
          refine zs_goto (pc := 731) (tgt := 18) d_Law_law_731 rfl ?_
          refine zs_sub (lv' := [(0, zR (some 0)), (1, zR a1), (2, zR a2), (3, zI (a3 + (6 : Int32)))]) [1, 2, 3, 0] rfl ?_
          refine zs_wid (cs' := cs + 11) (ss' := ss + 47) (by omega) (by omega) ?_
          exact ih (cs + 11) (ss + 47) (by omega) (by omega) a1 a2 (a3 + (6 : Int32)) H
        · refine zs_iconst (pc := 363) (v := (0 : Int32)) d_Law_law_363 (by decide) ?_
          exact zs_zretc (pc := 364) d_Law_law_364 rfl (by decide) (by omega) (by omega) rfl
      refine zs_ite (fun q => ?_) (fun q33_5 => ?_)
      · refine zs_table (pc := 33) (tgt := 365) d_Law_law_33 rfl (by rcases q with q <;> (rw [q]; decide)) ?_
        refine zs_aload_n (pc := 365) (x := a1) d_Law_law_365 rfl ?_
        refine zs_aload_n (pc := 366) (x := (some 0)) d_Law_law_366 rfl ?_
        refine zs_iload_n (pc := 367) (x := a3) d_Law_law_367 rfl ?_
        refine zs_iconst (pc := 368) (v := (1 : Int32)) d_Law_law_368 (by decide) ?_
        refine zs_iadd (pc := 369) d_Law_law_369 ?_
        refine zs_sld (pc := 370) d_Law_law_370 hL hx fun v370 => ?_
        refine zs_aload_n (pc := 371) (x := (some 0)) d_Law_law_371 rfl ?_
        refine zs_iload_n (pc := 372) (x := a3) d_Law_law_372 rfl ?_
        refine zs_iconst (pc := 373) (v := (2 : Int32)) d_Law_law_373 (by decide) ?_
        refine zs_iadd (pc := 374) d_Law_law_374 ?_
        refine zs_sld (pc := 375) d_Law_law_375 hL hx fun v375 => ?_
        refine zs_callv_rI (pc := 376) (av := [zI v370, zI v375]) (st := []) (d' := 3) (C' := 0) (S' := 0) d_Law_law_376 kV_Law_40 z_okb (jm_ST_version (d := 3) (Nat.le_refl _) fu a1 v370 v375 H) (by omega) (by omega) (by omega) rfl rfl (Nat.le_of_ble_eq_true rfl) fun y376 => ?_
        refine zs_aload_n (pc := 379) (x := a2) d_Law_law_379 rfl ?_
        refine zs_aload_n (pc := 380) (x := (some 0)) d_Law_law_380 rfl ?_
        refine zs_iload_n (pc := 381) (x := a3) d_Law_law_381 rfl ?_
        refine zs_iconst (pc := 382) (v := (1 : Int32)) d_Law_law_382 (by decide) ?_
        refine zs_iadd (pc := 383) d_Law_law_383 ?_
        refine zs_sld (pc := 384) d_Law_law_384 hL hx fun v384 => ?_
        refine zs_aload_n (pc := 385) (x := (some 0)) d_Law_law_385 rfl ?_
        refine zs_iload_n (pc := 386) (x := a3) d_Law_law_386 rfl ?_
        refine zs_iconst (pc := 387) (v := (2 : Int32)) d_Law_law_387 (by decide) ?_
        refine zs_iadd (pc := 388) d_Law_law_388 ?_
        refine zs_sld (pc := 389) d_Law_law_389 hL hx fun v389 => ?_
        refine zs_callv_rI (pc := 390) (av := [zI v384, zI v389]) (st := [zI y376]) (d' := 1) (C' := 0) (S' := 0) d_Law_law_390 kV_Law_43 z_okb (jm_Mo_version (d := 1) (Nat.le_refl _) fu a2 v384 v389 H) (by omega) (by omega) (by omega) rfl rfl (Nat.le_of_ble_eq_true rfl) fun y390 => ?_
        refine zs_icmp_eq (pc := 393) (tgt := 728) d_Law_law_393 rfl (fun q393 => ?_) (fun q393 => ?_)
        · refine zs_iinc (pc := 728) (x := a3) (v := (a3 + (6 : Int32))) (lv' := [(3, zI (a3 + (6 : Int32))), (0, zR (some 0)), (1, zR a1), (2, zR a2)]) d_Law_law_728 rfl rfl (Nat.le_of_ble_eq_true rfl) rfl ?_
          refine zs_goto (pc := 731) (tgt := 18) d_Law_law_731 rfl ?_
          refine zs_sub (lv' := [(0, zR (some 0)), (1, zR a1), (2, zR a2), (3, zI (a3 + (6 : Int32)))]) [1, 2, 3, 0] rfl ?_
          refine zs_wid (cs' := cs + 11) (ss' := ss + 47) (by omega) (by omega) ?_
          exact ih (cs + 11) (ss + 47) (by omega) (by omega) a1 a2 (a3 + (6 : Int32)) H
        · refine zs_iconst (pc := 396) (v := (0 : Int32)) d_Law_law_396 (by decide) ?_
          exact zs_zretc (pc := 397) d_Law_law_397 rfl (by decide) (by omega) (by omega) rfl
      refine zs_ite (fun q => ?_) (fun q33_6 => ?_)
      · refine zs_table (pc := 33) (tgt := 398) d_Law_law_33 rfl (by rcases q with q <;> (rw [q]; decide)) ?_
        refine zs_aload_n (pc := 398) (x := a1) d_Law_law_398 rfl ?_
        refine zs_aload_n (pc := 399) (x := (some 0)) d_Law_law_399 rfl ?_
        refine zs_iload_n (pc := 400) (x := a3) d_Law_law_400 rfl ?_
        refine zs_iconst (pc := 401) (v := (1 : Int32)) d_Law_law_401 (by decide) ?_
        refine zs_iadd (pc := 402) d_Law_law_402 ?_
        refine zs_sld (pc := 403) d_Law_law_403 hL hx fun v403 => ?_
        refine zs_i2l (pc := 404) d_Law_law_404 ?_
        refine zs_bipush (pc := 405) (v := (32 : Int32)) d_Law_law_405 (by decide) ?_
        refine zs_lshl (pc := 407) d_Law_law_407 ?_
        refine zs_aload_n (pc := 408) (x := (some 0)) d_Law_law_408 rfl ?_
        refine zs_iload_n (pc := 409) (x := a3) d_Law_law_409 rfl ?_
        refine zs_iconst (pc := 410) (v := (2 : Int32)) d_Law_law_410 (by decide) ?_
        refine zs_iadd (pc := 411) d_Law_law_411 ?_
        refine zs_sld (pc := 412) d_Law_law_412 hL hx fun v412 => ?_
        refine zs_i2l (pc := 413) d_Law_law_413 ?_
        refine zs_ldc2 (pc := 414) (v := (4294967295 : Int64)) d_Law_law_414 kC_Law_13 ?_
        refine zs_land (pc := 417) d_Law_law_417 ?_
        refine zs_lor (pc := 418) d_Law_law_418 ?_
        refine zs_callv_wI (pc := 419) (av := [zL ((v403.toInt64 <<< ((32 : Int32).toInt64 &&& 63)) ||| (v412.toInt64 &&& (4294967295 : Int64)))]) (st := []) (d' := 1) (C' := 0) (S' := 0) d_Law_law_419 kV_Law_44 z_okb (jm_ST_give (d := 1) (Nat.le_refl _) a1 ((v403.toInt64 <<< ((32 : Int32).toInt64 &&& 63)) ||| (v412.toInt64 &&& (4294967295 : Int64))) H) (by omega) (by omega) (by omega) rfl rfl (Nat.le_of_ble_eq_true rfl) fun y419 => ?_
        refine zs_aload_n (pc := 422) (x := a2) d_Law_law_422 rfl ?_
        refine zs_aload_n (pc := 423) (x := (some 0)) d_Law_law_423 rfl ?_
        refine zs_iload_n (pc := 424) (x := a3) d_Law_law_424 rfl ?_
        refine zs_iconst (pc := 425) (v := (1 : Int32)) d_Law_law_425 (by decide) ?_
        refine zs_iadd (pc := 426) d_Law_law_426 ?_
        refine zs_sld (pc := 427) d_Law_law_427 hL hx fun v427 => ?_
        refine zs_i2l (pc := 428) d_Law_law_428 ?_
        refine zs_bipush (pc := 429) (v := (32 : Int32)) d_Law_law_429 (by decide) ?_
        refine zs_lshl (pc := 431) d_Law_law_431 ?_
        refine zs_aload_n (pc := 432) (x := (some 0)) d_Law_law_432 rfl ?_
        refine zs_iload_n (pc := 433) (x := a3) d_Law_law_433 rfl ?_
        refine zs_iconst (pc := 434) (v := (2 : Int32)) d_Law_law_434 (by decide) ?_
        refine zs_iadd (pc := 435) d_Law_law_435 ?_
        refine zs_sld (pc := 436) d_Law_law_436 hL hx fun v436 => ?_
        refine zs_i2l (pc := 437) d_Law_law_437 ?_
        refine zs_ldc2 (pc := 438) (v := (4294967295 : Int64)) d_Law_law_438 kC_Law_13 ?_
        refine zs_land (pc := 441) d_Law_law_441 ?_
        refine zs_lor (pc := 442) d_Law_law_442 ?_
        refine zs_callv_wI (pc := 443) (av := [zL ((v427.toInt64 <<< ((32 : Int32).toInt64 &&& 63)) ||| (v436.toInt64 &&& (4294967295 : Int64)))]) (st := [zI y419.1]) (d' := 0) (C' := 0) (S' := 0) d_Law_law_443 kV_Law_48 z_okb (jm_Mo_give (d := 0) (Nat.le_refl _) a2 ((v427.toInt64 <<< ((32 : Int32).toInt64 &&& 63)) ||| (v436.toInt64 &&& (4294967295 : Int64))) y419.2) (by omega) (by omega) (by omega) rfl rfl (Nat.le_of_ble_eq_true rfl) fun y443 => ?_
        refine zs_icmp_eq (pc := 446) (tgt := 728) d_Law_law_446 rfl (fun q446 => ?_) (fun q446 => ?_)
        · refine zs_iinc (pc := 728) (x := a3) (v := (a3 + (6 : Int32))) (lv' := [(3, zI (a3 + (6 : Int32))), (0, zR (some 0)), (1, zR a1), (2, zR a2)]) d_Law_law_728 rfl rfl (Nat.le_of_ble_eq_true rfl) rfl ?_
          refine zs_goto (pc := 731) (tgt := 18) d_Law_law_731 rfl ?_
          refine zs_sub (lv' := [(0, zR (some 0)), (1, zR a1), (2, zR a2), (3, zI (a3 + (6 : Int32)))]) [1, 2, 3, 0] rfl ?_
          refine zs_wid (cs' := cs + 11) (ss' := ss + 47) (by omega) (by omega) ?_
          exact ih (cs + 11) (ss + 47) (by omega) (by omega) a1 a2 (a3 + (6 : Int32)) y443.2
        · refine zs_iconst (pc := 449) (v := (0 : Int32)) d_Law_law_449 (by decide) ?_
          exact zs_zretc (pc := 450) d_Law_law_450 rfl (by decide) (by omega) (by omega) rfl
      refine zs_ite (fun q => ?_) (fun q33_7 => ?_)
      · refine zs_table (pc := 33) (tgt := 451) d_Law_law_33 rfl (by rcases q with q <;> (rw [q]; decide)) ?_
        refine zs_aload_n (pc := 451) (x := a1) d_Law_law_451 rfl ?_
        refine zs_aload_n (pc := 452) (x := (some 0)) d_Law_law_452 rfl ?_
        refine zs_iload_n (pc := 453) (x := a3) d_Law_law_453 rfl ?_
        refine zs_iconst (pc := 454) (v := (1 : Int32)) d_Law_law_454 (by decide) ?_
        refine zs_iadd (pc := 455) d_Law_law_455 ?_
        refine zs_sld (pc := 456) d_Law_law_456 hL hx fun v456 => ?_
        refine zs_callv_wI (pc := 457) (av := [zI v456]) (st := []) (d' := 23) (C' := 0) (S' := 0) d_Law_law_457 kV_Law_49 z_okb (jm_ST_stage (d := 23) (Nat.le_refl _) fu a1 v456 H) (by omega) (by omega) (by omega) rfl rfl (Nat.le_of_ble_eq_true rfl) fun y457 => ?_
        refine zs_aload_n (pc := 460) (x := a2) d_Law_law_460 rfl ?_
        refine zs_aload_n (pc := 461) (x := (some 0)) d_Law_law_461 rfl ?_
        refine zs_iload_n (pc := 462) (x := a3) d_Law_law_462 rfl ?_
        refine zs_iconst (pc := 463) (v := (1 : Int32)) d_Law_law_463 (by decide) ?_
        refine zs_iadd (pc := 464) d_Law_law_464 ?_
        refine zs_sld (pc := 465) d_Law_law_465 hL hx fun v465 => ?_
        refine zs_callv_wI (pc := 466) (av := [zI v465]) (st := [zI y457.1]) (d' := 3) (C' := 0) (S' := 0) d_Law_law_466 kV_Law_52 z_okb (jm_Mo_stage (d := 3) (Nat.le_refl _) fu a2 v465 y457.2) (by omega) (by omega) (by omega) rfl rfl (Nat.le_of_ble_eq_true rfl) fun y466 => ?_
        refine zs_icmp_eq (pc := 469) (tgt := 728) d_Law_law_469 rfl (fun q469 => ?_) (fun q469 => ?_)
        · refine zs_iinc (pc := 728) (x := a3) (v := (a3 + (6 : Int32))) (lv' := [(3, zI (a3 + (6 : Int32))), (0, zR (some 0)), (1, zR a1), (2, zR a2)]) d_Law_law_728 rfl rfl (Nat.le_of_ble_eq_true rfl) rfl ?_
          refine zs_goto (pc := 731) (tgt := 18) d_Law_law_731 rfl ?_
          refine zs_sub (lv' := [(0, zR (some 0)), (1, zR a1), (2, zR a2), (3, zI (a3 + (6 : Int32)))]) [1, 2, 3, 0] rfl ?_
          refine zs_wid (cs' := cs + 11) (ss' := ss + 47) (by omega) (by omega) ?_
          exact ih (cs + 11) (ss + 47) (by omega) (by omega) a1 a2 (a3 + (6 : Int32)) y466.2
        · refine zs_iconst (pc := 472) (v := (0 : Int32)) d_Law_law_472 (by decide) ?_
          exact zs_zretc (pc := 473) d_Law_law_473 rfl (by decide) (by omega) (by omega) rfl
      refine zs_ite (fun q => ?_) (fun q33_8 => ?_)
      · refine zs_table (pc := 33) (tgt := 474) d_Law_law_33 rfl (by rcases q with q <;> (rw [q]; decide)) ?_
        refine zs_aload_n (pc := 474) (x := a1) d_Law_law_474 rfl ?_
        refine zs_callv_wI (pc := 475) (av := []) (st := []) (d' := 2) (C' := 0) (S' := 0) d_Law_law_475 kV_Law_53 z_okb (jm_ST_drop (d := 2) (Nat.le_refl _) a1 H) (by omega) (by omega) (by omega) rfl rfl (Nat.le_of_ble_eq_true rfl) fun y475 => ?_
        refine zs_aload_n (pc := 478) (x := a2) d_Law_law_478 rfl ?_
        refine zs_callv_wI (pc := 479) (av := []) (st := [zI y475.1]) (d' := 0) (C' := 0) (S' := 0) d_Law_law_479 kV_Law_57 z_okb (jm_Mo_drop (d := 0) (Nat.le_refl _) a2 y475.2) (by omega) (by omega) (by omega) rfl rfl (Nat.le_of_ble_eq_true rfl) fun y479 => ?_
        refine zs_icmp_eq (pc := 482) (tgt := 728) d_Law_law_482 rfl (fun q482 => ?_) (fun q482 => ?_)
        · refine zs_iinc (pc := 728) (x := a3) (v := (a3 + (6 : Int32))) (lv' := [(3, zI (a3 + (6 : Int32))), (0, zR (some 0)), (1, zR a1), (2, zR a2)]) d_Law_law_728 rfl rfl (Nat.le_of_ble_eq_true rfl) rfl ?_
          refine zs_goto (pc := 731) (tgt := 18) d_Law_law_731 rfl ?_
          refine zs_sub (lv' := [(0, zR (some 0)), (1, zR a1), (2, zR a2), (3, zI (a3 + (6 : Int32)))]) [1, 2, 3, 0] rfl ?_
          refine zs_wid (cs' := cs + 11) (ss' := ss + 47) (by omega) (by omega) ?_
          exact ih (cs + 11) (ss + 47) (by omega) (by omega) a1 a2 (a3 + (6 : Int32)) y479.2
        · refine zs_iconst (pc := 485) (v := (0 : Int32)) d_Law_law_485 (by decide) ?_
          exact zs_zretc (pc := 486) d_Law_law_486 rfl (by decide) (by omega) (by omega) rfl
      refine zs_ite (fun q => ?_) (fun q33_9 => ?_)
      · refine zs_table (pc := 33) (tgt := 487) d_Law_law_33 rfl (by rcases q with q <;> (rw [q]; decide)) ?_
        refine zs_aload_n (pc := 487) (x := a1) d_Law_law_487 rfl ?_
        refine zs_aload_n (pc := 488) (x := (some 0)) d_Law_law_488 rfl ?_
        refine zs_iload_n (pc := 489) (x := a3) d_Law_law_489 rfl ?_
        refine zs_iconst (pc := 490) (v := (1 : Int32)) d_Law_law_490 (by decide) ?_
        refine zs_iadd (pc := 491) d_Law_law_491 ?_
        refine zs_sld (pc := 492) d_Law_law_492 hL hx fun v492 => ?_
        refine zs_callv_wI (pc := 493) (av := [zI v492]) (st := []) (d' := 6) (C' := 0) (S' := 0) d_Law_law_493 kV_Law_58 z_okb (jm_ST_load (d := 6) (Nat.le_refl _) fu a1 v492 H) (by omega) (by omega) (by omega) rfl rfl (Nat.le_of_ble_eq_true rfl) fun y493 => ?_
        refine zs_aload_n (pc := 496) (x := a2) d_Law_law_496 rfl ?_
        refine zs_aload_n (pc := 497) (x := (some 0)) d_Law_law_497 rfl ?_
        refine zs_iload_n (pc := 498) (x := a3) d_Law_law_498 rfl ?_
        refine zs_iconst (pc := 499) (v := (1 : Int32)) d_Law_law_499 (by decide) ?_
        refine zs_iadd (pc := 500) d_Law_law_500 ?_
        refine zs_sld (pc := 501) d_Law_law_501 hL hx fun v501 => ?_
        refine zs_callv_wI (pc := 502) (av := [zI v501]) (st := [zI y493.1]) (d' := 3) (C' := 0) (S' := 0) d_Law_law_502 kV_Law_61 z_okb (jm_Mo_load (d := 3) (Nat.le_refl _) fu a2 v501 y493.2) (by omega) (by omega) (by omega) rfl rfl (Nat.le_of_ble_eq_true rfl) fun y502 => ?_
        refine zs_icmp_eq (pc := 505) (tgt := 728) d_Law_law_505 rfl (fun q505 => ?_) (fun q505 => ?_)
        · refine zs_iinc (pc := 728) (x := a3) (v := (a3 + (6 : Int32))) (lv' := [(3, zI (a3 + (6 : Int32))), (0, zR (some 0)), (1, zR a1), (2, zR a2)]) d_Law_law_728 rfl rfl (Nat.le_of_ble_eq_true rfl) rfl ?_
          refine zs_goto (pc := 731) (tgt := 18) d_Law_law_731 rfl ?_
          refine zs_sub (lv' := [(0, zR (some 0)), (1, zR a1), (2, zR a2), (3, zI (a3 + (6 : Int32)))]) [1, 2, 3, 0] rfl ?_
          refine zs_wid (cs' := cs + 11) (ss' := ss + 47) (by omega) (by omega) ?_
          exact ih (cs + 11) (ss + 47) (by omega) (by omega) a1 a2 (a3 + (6 : Int32)) y502.2
        · refine zs_iconst (pc := 508) (v := (0 : Int32)) d_Law_law_508 (by decide) ?_
          exact zs_zretc (pc := 509) d_Law_law_509 rfl (by decide) (by omega) (by omega) rfl
      refine zs_ite (fun q => ?_) (fun q33_10 => ?_)
      · refine zs_table (pc := 33) (tgt := 510) d_Law_law_33 rfl (by rcases q with q <;> (rw [q]; decide)) ?_
        refine zs_aload_n (pc := 510) (x := a1) d_Law_law_510 rfl ?_
        refine zs_aload_n (pc := 511) (x := (some 0)) d_Law_law_511 rfl ?_
        refine zs_iload_n (pc := 512) (x := a3) d_Law_law_512 rfl ?_
        refine zs_iconst (pc := 513) (v := (1 : Int32)) d_Law_law_513 (by decide) ?_
        refine zs_iadd (pc := 514) d_Law_law_514 ?_
        refine zs_sld (pc := 515) d_Law_law_515 hL hx fun v515 => ?_
        refine zs_callv_wI (pc := 516) (av := [zI v515]) (st := []) (d' := 7) (C' := 0) (S' := 0) d_Law_law_516 kV_Law_62 z_okb (jm_ST_compact (d := 7) (Nat.le_refl _) fu a1 v515 H) (by omega) (by omega) (by omega) rfl rfl (Nat.le_of_ble_eq_true rfl) fun y516 => ?_
        refine zs_aload_n (pc := 519) (x := a2) d_Law_law_519 rfl ?_
        refine zs_aload_n (pc := 520) (x := (some 0)) d_Law_law_520 rfl ?_
        refine zs_iload_n (pc := 521) (x := a3) d_Law_law_521 rfl ?_
        refine zs_iconst (pc := 522) (v := (1 : Int32)) d_Law_law_522 (by decide) ?_
        refine zs_iadd (pc := 523) d_Law_law_523 ?_
        refine zs_sld (pc := 524) d_Law_law_524 hL hx fun v524 => ?_
        refine zs_callv_wI (pc := 525) (av := [zI v524]) (st := [zI y516.1]) (d' := 3) (C' := 0) (S' := 0) d_Law_law_525 kV_Law_65 z_okb (jm_Mo_compact (d := 3) (Nat.le_refl _) fu a2 v524 y516.2) (by omega) (by omega) (by omega) rfl rfl (Nat.le_of_ble_eq_true rfl) fun y525 => ?_
        refine zs_icmp_eq (pc := 528) (tgt := 728) d_Law_law_528 rfl (fun q528 => ?_) (fun q528 => ?_)
        · refine zs_iinc (pc := 728) (x := a3) (v := (a3 + (6 : Int32))) (lv' := [(3, zI (a3 + (6 : Int32))), (0, zR (some 0)), (1, zR a1), (2, zR a2)]) d_Law_law_728 rfl rfl (Nat.le_of_ble_eq_true rfl) rfl ?_
          refine zs_goto (pc := 731) (tgt := 18) d_Law_law_731 rfl ?_
          refine zs_sub (lv' := [(0, zR (some 0)), (1, zR a1), (2, zR a2), (3, zI (a3 + (6 : Int32)))]) [1, 2, 3, 0] rfl ?_
          refine zs_wid (cs' := cs + 11) (ss' := ss + 47) (by omega) (by omega) ?_
          exact ih (cs + 11) (ss + 47) (by omega) (by omega) a1 a2 (a3 + (6 : Int32)) y525.2
        · refine zs_iconst (pc := 531) (v := (0 : Int32)) d_Law_law_531 (by decide) ?_
          exact zs_zretc (pc := 532) d_Law_law_532 rfl (by decide) (by omega) (by omega) rfl
      refine zs_ite (fun q => ?_) (fun q33_11 => ?_)
      · refine zs_table (pc := 33) (tgt := 533) d_Law_law_33 rfl (by rcases q with q <;> (rw [q]; decide)) ?_
        refine zs_aload_n (pc := 533) (x := a1) d_Law_law_533 rfl ?_
        refine zs_aload_n (pc := 534) (x := (some 0)) d_Law_law_534 rfl ?_
        refine zs_iload_n (pc := 535) (x := a3) d_Law_law_535 rfl ?_
        refine zs_iconst (pc := 536) (v := (1 : Int32)) d_Law_law_536 (by decide) ?_
        refine zs_iadd (pc := 537) d_Law_law_537 ?_
        refine zs_sld (pc := 538) d_Law_law_538 hL hx fun v538 => ?_
        refine zs_aload_n (pc := 539) (x := (some 0)) d_Law_law_539 rfl ?_
        refine zs_iload_n (pc := 540) (x := a3) d_Law_law_540 rfl ?_
        refine zs_iconst (pc := 541) (v := (2 : Int32)) d_Law_law_541 (by decide) ?_
        refine zs_iadd (pc := 542) d_Law_law_542 ?_
        refine zs_sld (pc := 543) d_Law_law_543 hL hx fun v543 => ?_
        refine zs_aload_n (pc := 544) (x := (some 0)) d_Law_law_544 rfl ?_
        refine zs_iload_n (pc := 545) (x := a3) d_Law_law_545 rfl ?_
        refine zs_iconst (pc := 546) (v := (3 : Int32)) d_Law_law_546 (by decide) ?_
        refine zs_iadd (pc := 547) d_Law_law_547 ?_
        refine zs_sld (pc := 548) d_Law_law_548 hL hx fun v548 => ?_
        refine zs_callv_wI (pc := 549) (av := [zI v538, zI v543, zI v548]) (st := []) (d' := 239) (C' := 0) (S' := 0) d_Law_law_549 kV_Law_66 z_okb (jm_ST_read (d := 239) (Nat.le_refl _) fu a1 v538 v543 v548 H) (by omega) (by omega) (by omega) rfl rfl (Nat.le_of_ble_eq_true rfl) fun y549 => ?_
        refine zs_aload_n (pc := 552) (x := a2) d_Law_law_552 rfl ?_
        refine zs_aload_n (pc := 553) (x := (some 0)) d_Law_law_553 rfl ?_
        refine zs_iload_n (pc := 554) (x := a3) d_Law_law_554 rfl ?_
        refine zs_iconst (pc := 555) (v := (1 : Int32)) d_Law_law_555 (by decide) ?_
        refine zs_iadd (pc := 556) d_Law_law_556 ?_
        refine zs_sld (pc := 557) d_Law_law_557 hL hx fun v557 => ?_
        refine zs_aload_n (pc := 558) (x := (some 0)) d_Law_law_558 rfl ?_
        refine zs_iload_n (pc := 559) (x := a3) d_Law_law_559 rfl ?_
        refine zs_iconst (pc := 560) (v := (2 : Int32)) d_Law_law_560 (by decide) ?_
        refine zs_iadd (pc := 561) d_Law_law_561 ?_
        refine zs_sld (pc := 562) d_Law_law_562 hL hx fun v562 => ?_
        refine zs_aload_n (pc := 563) (x := (some 0)) d_Law_law_563 rfl ?_
        refine zs_iload_n (pc := 564) (x := a3) d_Law_law_564 rfl ?_
        refine zs_iconst (pc := 565) (v := (3 : Int32)) d_Law_law_565 (by decide) ?_
        refine zs_iadd (pc := 566) d_Law_law_566 ?_
        refine zs_sld (pc := 567) d_Law_law_567 hL hx fun v567 => ?_
        refine zs_callv_wI (pc := 568) (av := [zI v557, zI v562, zI v567]) (st := [zI y549.1]) (d' := 6) (C' := 0) (S' := 0) d_Law_law_568 kV_Law_70 z_okb (jm_Mo_read (d := 6) (Nat.le_refl _) fu a2 v557 v562 v567 y549.2) (by omega) (by omega) (by omega) rfl rfl (Nat.le_of_ble_eq_true rfl) fun y568 => ?_
        refine zs_icmp_eq (pc := 571) (tgt := 728) d_Law_law_571 rfl (fun q571 => ?_) (fun q571 => ?_)
        · refine zs_iinc (pc := 728) (x := a3) (v := (a3 + (6 : Int32))) (lv' := [(3, zI (a3 + (6 : Int32))), (0, zR (some 0)), (1, zR a1), (2, zR a2)]) d_Law_law_728 rfl rfl (Nat.le_of_ble_eq_true rfl) rfl ?_
          refine zs_goto (pc := 731) (tgt := 18) d_Law_law_731 rfl ?_
          refine zs_sub (lv' := [(0, zR (some 0)), (1, zR a1), (2, zR a2), (3, zI (a3 + (6 : Int32)))]) [1, 2, 3, 0] rfl ?_
          refine zs_wid (cs' := cs + 11) (ss' := ss + 47) (by omega) (by omega) ?_
          exact ih (cs + 11) (ss + 47) (by omega) (by omega) a1 a2 (a3 + (6 : Int32)) y568.2
        · refine zs_iconst (pc := 574) (v := (0 : Int32)) d_Law_law_574 (by decide) ?_
          exact zs_zretc (pc := 575) d_Law_law_575 rfl (by decide) (by omega) (by omega) rfl
      refine zs_ite (fun q => ?_) (fun q33_12 => ?_)
      · refine zs_table (pc := 33) (tgt := 576) d_Law_law_33 rfl (by rcases q with q <;> (rw [q]; decide)) ?_
        refine zs_aload_n (pc := 576) (x := a1) d_Law_law_576 rfl ?_
        refine zs_aload_n (pc := 577) (x := (some 0)) d_Law_law_577 rfl ?_
        refine zs_iload_n (pc := 578) (x := a3) d_Law_law_578 rfl ?_
        refine zs_iconst (pc := 579) (v := (1 : Int32)) d_Law_law_579 (by decide) ?_
        refine zs_iadd (pc := 580) d_Law_law_580 ?_
        refine zs_sld (pc := 581) d_Law_law_581 hL hx fun v581 => ?_
        refine zs_callv_rL (pc := 582) (av := [zI v581]) (st := []) (d' := 1) (C' := 0) (S' := 0) d_Law_law_582 kV_Law_71 z_okb (jm_ST_number (d := 1) (Nat.le_refl _) a1 v581 H) (by omega) (by omega) (by omega) rfl rfl (Nat.le_of_ble_eq_true rfl) fun y582 => ?_
        refine zs_aload_n (pc := 585) (x := a2) d_Law_law_585 rfl ?_
        refine zs_aload_n (pc := 586) (x := (some 0)) d_Law_law_586 rfl ?_
        refine zs_iload_n (pc := 587) (x := a3) d_Law_law_587 rfl ?_
        refine zs_iconst (pc := 588) (v := (1 : Int32)) d_Law_law_588 (by decide) ?_
        refine zs_iadd (pc := 589) d_Law_law_589 ?_
        refine zs_sld (pc := 590) d_Law_law_590 hL hx fun v590 => ?_
        refine zs_callv_rL (pc := 591) (av := [zI v590]) (st := [zL y582]) (d' := 0) (C' := 0) (S' := 0) d_Law_law_591 kV_Law_75 z_okb (jm_Mo_number (d := 0) (Nat.le_refl _) a2 v590 H) (by omega) (by omega) (by omega) rfl rfl (Nat.le_of_ble_eq_true rfl) fun y591 => ?_
        refine zs_lcmp_eq (pc := 594) (tgt := 728) d_Law_law_594 d_Law_law_595 rfl (fun q594 => ?_) (fun q594 => ?_)
        · refine zs_iinc (pc := 728) (x := a3) (v := (a3 + (6 : Int32))) (lv' := [(3, zI (a3 + (6 : Int32))), (0, zR (some 0)), (1, zR a1), (2, zR a2)]) d_Law_law_728 rfl rfl (Nat.le_of_ble_eq_true rfl) rfl ?_
          refine zs_goto (pc := 731) (tgt := 18) d_Law_law_731 rfl ?_
          refine zs_sub (lv' := [(0, zR (some 0)), (1, zR a1), (2, zR a2), (3, zI (a3 + (6 : Int32)))]) [1, 2, 3, 0] rfl ?_
          refine zs_wid (cs' := cs + 11) (ss' := ss + 47) (by omega) (by omega) ?_
          exact ih (cs + 11) (ss + 47) (by omega) (by omega) a1 a2 (a3 + (6 : Int32)) H
        · refine zs_iconst (pc := 598) (v := (0 : Int32)) d_Law_law_598 (by decide) ?_
          exact zs_zretc (pc := 599) d_Law_law_599 rfl (by decide) (by omega) (by omega) rfl
      refine zs_ite (fun q => ?_) (fun q33_13 => ?_)
      · refine zs_table (pc := 33) (tgt := 600) d_Law_law_33 rfl (by rcases q with q <;> (rw [q]; decide)) ?_
        refine zs_aload_n (pc := 600) (x := a1) d_Law_law_600 rfl ?_
        refine zs_aload_n (pc := 601) (x := (some 0)) d_Law_law_601 rfl ?_
        refine zs_iload_n (pc := 602) (x := a3) d_Law_law_602 rfl ?_
        refine zs_iconst (pc := 603) (v := (1 : Int32)) d_Law_law_603 (by decide) ?_
        refine zs_iadd (pc := 604) d_Law_law_604 ?_
        refine zs_sld (pc := 605) d_Law_law_605 hL hx fun v605 => ?_
        refine zs_callv_rI (pc := 606) (av := [zI v605]) (st := []) (d' := 6) (C' := 0) (S' := 0) d_Law_law_606 kV_Law_76 z_okb (jm_ST_records (d := 6) (Nat.le_refl _) fu a1 v605 H) (by omega) (by omega) (by omega) rfl rfl (Nat.le_of_ble_eq_true rfl) fun y606 => ?_
        refine zs_aload_n (pc := 609) (x := a2) d_Law_law_609 rfl ?_
        refine zs_aload_n (pc := 610) (x := (some 0)) d_Law_law_610 rfl ?_
        refine zs_iload_n (pc := 611) (x := a3) d_Law_law_611 rfl ?_
        refine zs_iconst (pc := 612) (v := (1 : Int32)) d_Law_law_612 (by decide) ?_
        refine zs_iadd (pc := 613) d_Law_law_613 ?_
        refine zs_sld (pc := 614) d_Law_law_614 hL hx fun v614 => ?_
        refine zs_callv_rI (pc := 615) (av := [zI v614]) (st := [zI y606]) (d' := 2) (C' := 0) (S' := 0) d_Law_law_615 kV_Law_79 z_okb (jm_Mo_records (d := 2) (Nat.le_refl _) fu a2 v614 H) (by omega) (by omega) (by omega) rfl rfl (Nat.le_of_ble_eq_true rfl) fun y615 => ?_
        refine zs_icmp_eq (pc := 618) (tgt := 728) d_Law_law_618 rfl (fun q618 => ?_) (fun q618 => ?_)
        · refine zs_iinc (pc := 728) (x := a3) (v := (a3 + (6 : Int32))) (lv' := [(3, zI (a3 + (6 : Int32))), (0, zR (some 0)), (1, zR a1), (2, zR a2)]) d_Law_law_728 rfl rfl (Nat.le_of_ble_eq_true rfl) rfl ?_
          refine zs_goto (pc := 731) (tgt := 18) d_Law_law_731 rfl ?_
          refine zs_sub (lv' := [(0, zR (some 0)), (1, zR a1), (2, zR a2), (3, zI (a3 + (6 : Int32)))]) [1, 2, 3, 0] rfl ?_
          refine zs_wid (cs' := cs + 11) (ss' := ss + 47) (by omega) (by omega) ?_
          exact ih (cs + 11) (ss + 47) (by omega) (by omega) a1 a2 (a3 + (6 : Int32)) H
        · refine zs_iconst (pc := 621) (v := (0 : Int32)) d_Law_law_621 (by decide) ?_
          exact zs_zretc (pc := 622) d_Law_law_622 rfl (by decide) (by omega) (by omega) rfl
      refine zs_ite (fun q => ?_) (fun q33_14 => ?_)
      · refine zs_table (pc := 33) (tgt := 623) d_Law_law_33 rfl (by rcases q with q <;> (rw [q]; decide)) ?_
        refine zs_aload_n (pc := 623) (x := a1) d_Law_law_623 rfl ?_
        refine zs_aload_n (pc := 624) (x := (some 0)) d_Law_law_624 rfl ?_
        refine zs_iload_n (pc := 625) (x := a3) d_Law_law_625 rfl ?_
        refine zs_iconst (pc := 626) (v := (1 : Int32)) d_Law_law_626 (by decide) ?_
        refine zs_iadd (pc := 627) d_Law_law_627 ?_
        refine zs_sld (pc := 628) d_Law_law_628 hL hx fun v628 => ?_
        refine zs_callv_rI (pc := 629) (av := [zI v628]) (st := []) (d' := 4) (C' := 0) (S' := 0) d_Law_law_629 kV_Law_80 z_okb (jm_ST_files (d := 4) (Nat.le_refl _) fu a1 v628 H) (by omega) (by omega) (by omega) rfl rfl (Nat.le_of_ble_eq_true rfl) fun y629 => ?_
        refine zs_aload_n (pc := 632) (x := a2) d_Law_law_632 rfl ?_
        refine zs_aload_n (pc := 633) (x := (some 0)) d_Law_law_633 rfl ?_
        refine zs_iload_n (pc := 634) (x := a3) d_Law_law_634 rfl ?_
        refine zs_iconst (pc := 635) (v := (1 : Int32)) d_Law_law_635 (by decide) ?_
        refine zs_iadd (pc := 636) d_Law_law_636 ?_
        refine zs_sld (pc := 637) d_Law_law_637 hL hx fun v637 => ?_
        refine zs_callv_rI (pc := 638) (av := [zI v637]) (st := [zI y629]) (d' := 1) (C' := 0) (S' := 0) d_Law_law_638 kV_Law_83 z_okb (jm_Mo_files (d := 1) (Nat.le_refl _) fu a2 v637 H) (by omega) (by omega) (by omega) rfl rfl (Nat.le_of_ble_eq_true rfl) fun y638 => ?_
        refine zs_icmp_eq (pc := 641) (tgt := 728) d_Law_law_641 rfl (fun q641 => ?_) (fun q641 => ?_)
        · refine zs_iinc (pc := 728) (x := a3) (v := (a3 + (6 : Int32))) (lv' := [(3, zI (a3 + (6 : Int32))), (0, zR (some 0)), (1, zR a1), (2, zR a2)]) d_Law_law_728 rfl rfl (Nat.le_of_ble_eq_true rfl) rfl ?_
          refine zs_goto (pc := 731) (tgt := 18) d_Law_law_731 rfl ?_
          refine zs_sub (lv' := [(0, zR (some 0)), (1, zR a1), (2, zR a2), (3, zI (a3 + (6 : Int32)))]) [1, 2, 3, 0] rfl ?_
          refine zs_wid (cs' := cs + 11) (ss' := ss + 47) (by omega) (by omega) ?_
          exact ih (cs + 11) (ss + 47) (by omega) (by omega) a1 a2 (a3 + (6 : Int32)) H
        · refine zs_iconst (pc := 644) (v := (0 : Int32)) d_Law_law_644 (by decide) ?_
          exact zs_zretc (pc := 645) d_Law_law_645 rfl (by decide) (by omega) (by omega) rfl
      refine zs_ite (fun q => ?_) (fun q33_15 => ?_)
      · refine zs_table (pc := 33) (tgt := 646) d_Law_law_33 rfl (by rcases q with q <;> (rw [q]; decide)) ?_
        refine zs_aload_n (pc := 646) (x := a1) d_Law_law_646 rfl ?_
        refine zs_aload_n (pc := 647) (x := (some 0)) d_Law_law_647 rfl ?_
        refine zs_iload_n (pc := 648) (x := a3) d_Law_law_648 rfl ?_
        refine zs_iconst (pc := 649) (v := (1 : Int32)) d_Law_law_649 (by decide) ?_
        refine zs_iadd (pc := 650) d_Law_law_650 ?_
        refine zs_sld (pc := 651) d_Law_law_651 hL hx fun v651 => ?_
        refine zs_aload_n (pc := 652) (x := (some 0)) d_Law_law_652 rfl ?_
        refine zs_iload_n (pc := 653) (x := a3) d_Law_law_653 rfl ?_
        refine zs_iconst (pc := 654) (v := (2 : Int32)) d_Law_law_654 (by decide) ?_
        refine zs_iadd (pc := 655) d_Law_law_655 ?_
        refine zs_sld (pc := 656) d_Law_law_656 hL hx fun v656 => ?_
        refine zs_callv_rI (pc := 657) (av := [zI v651, zI v656]) (st := []) (d' := 1) (C' := 0) (S' := 0) d_Law_law_657 kV_Law_84 z_okb (jm_ST_octet (d := 1) (Nat.le_refl _) a1 v651 v656 H) (by omega) (by omega) (by omega) rfl rfl (Nat.le_of_ble_eq_true rfl) fun y657 => ?_
        refine zs_aload_n (pc := 660) (x := a2) d_Law_law_660 rfl ?_
        refine zs_aload_n (pc := 661) (x := (some 0)) d_Law_law_661 rfl ?_
        refine zs_iload_n (pc := 662) (x := a3) d_Law_law_662 rfl ?_
        refine zs_iconst (pc := 663) (v := (1 : Int32)) d_Law_law_663 (by decide) ?_
        refine zs_iadd (pc := 664) d_Law_law_664 ?_
        refine zs_sld (pc := 665) d_Law_law_665 hL hx fun v665 => ?_
        refine zs_aload_n (pc := 666) (x := (some 0)) d_Law_law_666 rfl ?_
        refine zs_iload_n (pc := 667) (x := a3) d_Law_law_667 rfl ?_
        refine zs_iconst (pc := 668) (v := (2 : Int32)) d_Law_law_668 (by decide) ?_
        refine zs_iadd (pc := 669) d_Law_law_669 ?_
        refine zs_sld (pc := 670) d_Law_law_670 hL hx fun v670 => ?_
        refine zs_callv_rI (pc := 671) (av := [zI v665, zI v670]) (st := [zI y657]) (d' := 0) (C' := 0) (S' := 0) d_Law_law_671 kV_Law_87 z_okb (jm_Mo_octet (d := 0) (Nat.le_refl _) a2 v665 v670 H) (by omega) (by omega) (by omega) rfl rfl (Nat.le_of_ble_eq_true rfl) fun y671 => ?_
        refine zs_icmp_eq (pc := 674) (tgt := 728) d_Law_law_674 rfl (fun q674 => ?_) (fun q674 => ?_)
        · refine zs_iinc (pc := 728) (x := a3) (v := (a3 + (6 : Int32))) (lv' := [(3, zI (a3 + (6 : Int32))), (0, zR (some 0)), (1, zR a1), (2, zR a2)]) d_Law_law_728 rfl rfl (Nat.le_of_ble_eq_true rfl) rfl ?_
          refine zs_goto (pc := 731) (tgt := 18) d_Law_law_731 rfl ?_
          refine zs_sub (lv' := [(0, zR (some 0)), (1, zR a1), (2, zR a2), (3, zI (a3 + (6 : Int32)))]) [1, 2, 3, 0] rfl ?_
          refine zs_wid (cs' := cs + 11) (ss' := ss + 47) (by omega) (by omega) ?_
          exact ih (cs + 11) (ss + 47) (by omega) (by omega) a1 a2 (a3 + (6 : Int32)) H
        · refine zs_iconst (pc := 677) (v := (0 : Int32)) d_Law_law_677 (by decide) ?_
          exact zs_zretc (pc := 678) d_Law_law_678 rfl (by decide) (by omega) (by omega) rfl
      refine zs_ite (fun q => ?_) (fun q33_16 => ?_)
      · refine zs_table (pc := 33) (tgt := 679) d_Law_law_33 rfl (by rcases q with q <;> (rw [q]; decide)) ?_
        refine zs_aload_n (pc := 679) (x := a1) d_Law_law_679 rfl ?_
        refine zs_aload_n (pc := 680) (x := (some 0)) d_Law_law_680 rfl ?_
        refine zs_iload_n (pc := 681) (x := a3) d_Law_law_681 rfl ?_
        refine zs_iconst (pc := 682) (v := (1 : Int32)) d_Law_law_682 (by decide) ?_
        refine zs_iadd (pc := 683) d_Law_law_683 ?_
        refine zs_sld (pc := 684) d_Law_law_684 hL hx fun v684 => ?_
        refine zs_callv_wI (pc := 685) (av := [zI v684]) (st := []) (d' := 0) (C' := 0) (S' := 0) d_Law_law_685 kV_Law_88 z_okb (jm_ST_limit (d := 0) (Nat.le_refl _) a1 v684 H) (by omega) (by omega) (by omega) rfl rfl (Nat.le_of_ble_eq_true rfl) fun y685 => ?_
        refine zs_aload_n (pc := 688) (x := a2) d_Law_law_688 rfl ?_
        refine zs_aload_n (pc := 689) (x := (some 0)) d_Law_law_689 rfl ?_
        refine zs_iload_n (pc := 690) (x := a3) d_Law_law_690 rfl ?_
        refine zs_iconst (pc := 691) (v := (1 : Int32)) d_Law_law_691 (by decide) ?_
        refine zs_iadd (pc := 692) d_Law_law_692 ?_
        refine zs_sld (pc := 693) d_Law_law_693 hL hx fun v693 => ?_
        refine zs_callv_wI (pc := 694) (av := [zI v693]) (st := [zI y685.1]) (d' := 0) (C' := 0) (S' := 0) d_Law_law_694 kV_Law_91 z_okb (jm_Mo_limit (d := 0) (Nat.le_refl _) a2 v693 y685.2) (by omega) (by omega) (by omega) rfl rfl (Nat.le_of_ble_eq_true rfl) fun y694 => ?_
        refine zs_icmp_eq (pc := 697) (tgt := 728) d_Law_law_697 rfl (fun q697 => ?_) (fun q697 => ?_)
        · refine zs_iinc (pc := 728) (x := a3) (v := (a3 + (6 : Int32))) (lv' := [(3, zI (a3 + (6 : Int32))), (0, zR (some 0)), (1, zR a1), (2, zR a2)]) d_Law_law_728 rfl rfl (Nat.le_of_ble_eq_true rfl) rfl ?_
          refine zs_goto (pc := 731) (tgt := 18) d_Law_law_731 rfl ?_
          refine zs_sub (lv' := [(0, zR (some 0)), (1, zR a1), (2, zR a2), (3, zI (a3 + (6 : Int32)))]) [1, 2, 3, 0] rfl ?_
          refine zs_wid (cs' := cs + 11) (ss' := ss + 47) (by omega) (by omega) ?_
          exact ih (cs + 11) (ss + 47) (by omega) (by omega) a1 a2 (a3 + (6 : Int32)) y694.2
        · refine zs_iconst (pc := 700) (v := (0 : Int32)) d_Law_law_700 (by decide) ?_
          exact zs_zretc (pc := 701) d_Law_law_701 rfl (by decide) (by omega) (by omega) rfl
      refine zs_ite (fun q => ?_) (fun q33_17 => ?_)
      · refine zs_table (pc := 33) (tgt := 702) d_Law_law_33 rfl (by rcases q with q <;> (rw [q]; decide)) ?_
        refine zs_aload_n (pc := 702) (x := a1) d_Law_law_702 rfl ?_
        refine zs_callv_wI (pc := 703) (av := []) (st := []) (d' := 0) (C' := 0) (S' := 0) d_Law_law_703 kV_Law_92 z_okb (jm_ST_restart (d := 0) (Nat.le_refl _) a1 H) (by omega) (by omega) (by omega) rfl rfl (Nat.le_of_ble_eq_true rfl) fun y703 => ?_
        refine zs_aload_n (pc := 706) (x := a2) d_Law_law_706 rfl ?_
        refine zs_callv_wI (pc := 707) (av := []) (st := [zI y703.1]) (d' := 0) (C' := 0) (S' := 0) d_Law_law_707 kV_Law_96 z_okb (jm_Mo_restart (d := 0) (Nat.le_refl _) a2 y703.2) (by omega) (by omega) (by omega) rfl rfl (Nat.le_of_ble_eq_true rfl) fun y707 => ?_
        refine zs_icmp_eq (pc := 710) (tgt := 728) d_Law_law_710 rfl (fun q710 => ?_) (fun q710 => ?_)
        · refine zs_iinc (pc := 728) (x := a3) (v := (a3 + (6 : Int32))) (lv' := [(3, zI (a3 + (6 : Int32))), (0, zR (some 0)), (1, zR a1), (2, zR a2)]) d_Law_law_728 rfl rfl (Nat.le_of_ble_eq_true rfl) rfl ?_
          refine zs_goto (pc := 731) (tgt := 18) d_Law_law_731 rfl ?_
          refine zs_sub (lv' := [(0, zR (some 0)), (1, zR a1), (2, zR a2), (3, zI (a3 + (6 : Int32)))]) [1, 2, 3, 0] rfl ?_
          refine zs_wid (cs' := cs + 11) (ss' := ss + 47) (by omega) (by omega) ?_
          exact ih (cs + 11) (ss + 47) (by omega) (by omega) a1 a2 (a3 + (6 : Int32)) y707.2
        · refine zs_iconst (pc := 713) (v := (0 : Int32)) d_Law_law_713 (by decide) ?_
          exact zs_zretc (pc := 714) d_Law_law_714 rfl (by decide) (by omega) (by omega) rfl
      refine zs_ite (fun q => ?_) (fun q33_18 => ?_)
      · refine zs_table (pc := 33) (tgt := 715) d_Law_law_33 rfl (by rcases q with q <;> (rw [q]; decide)) ?_
        refine zs_aload_n (pc := 715) (x := a1) d_Law_law_715 rfl ?_
        refine zs_callv_rI (pc := 716) (av := []) (st := []) (d' := 0) (C' := 0) (S' := 0) d_Law_law_716 kV_Law_97 z_okb (jm_ST_writes (d := 0) (Nat.le_refl _) a1 H) (by omega) (by omega) (by omega) rfl rfl (Nat.le_of_ble_eq_true rfl) fun y716 => ?_
        refine zs_aload_n (pc := 719) (x := a2) d_Law_law_719 rfl ?_
        refine zs_callv_rI (pc := 720) (av := []) (st := [zI y716]) (d' := 0) (C' := 0) (S' := 0) d_Law_law_720 kV_Law_100 z_okb (jm_Mo_writes (d := 0) (Nat.le_refl _) a2 H) (by omega) (by omega) (by omega) rfl rfl (Nat.le_of_ble_eq_true rfl) fun y720 => ?_
        refine zs_icmp_eq (pc := 723) (tgt := 728) d_Law_law_723 rfl (fun q723 => ?_) (fun q723 => ?_)
        · refine zs_iinc (pc := 728) (x := a3) (v := (a3 + (6 : Int32))) (lv' := [(3, zI (a3 + (6 : Int32))), (0, zR (some 0)), (1, zR a1), (2, zR a2)]) d_Law_law_728 rfl rfl (Nat.le_of_ble_eq_true rfl) rfl ?_
          refine zs_goto (pc := 731) (tgt := 18) d_Law_law_731 rfl ?_
          refine zs_sub (lv' := [(0, zR (some 0)), (1, zR a1), (2, zR a2), (3, zI (a3 + (6 : Int32)))]) [1, 2, 3, 0] rfl ?_
          refine zs_wid (cs' := cs + 11) (ss' := ss + 47) (by omega) (by omega) ?_
          exact ih (cs + 11) (ss + 47) (by omega) (by omega) a1 a2 (a3 + (6 : Int32)) H
        · refine zs_iconst (pc := 726) (v := (0 : Int32)) d_Law_law_726 (by decide) ?_
          exact zs_zretc (pc := 727) d_Law_law_727 rfl (by decide) (by omega) (by omega) rfl
      have h33_0 := zs_tne (k := 0) q33_0 (by decide)
      have h33_1 := zs_tne (k := 1) q33_1 (by decide)
      have h33_2 := zs_tne (k := 2) q33_2 (by decide)
      have h33_3 := zs_tne (k := 3) q33_3 (by decide)
      have h33_4 := zs_tne (k := 4) q33_4 (by decide)
      have h33_5 := zs_tne (k := 5) q33_5 (by decide)
      have h33_6 := zs_tne (k := 6) q33_6 (by decide)
      have h33_7 := zs_tne (k := 7) q33_7 (by decide)
      have h33_8 := zs_tne (k := 8) q33_8 (by decide)
      have h33_9 := zs_tne (k := 9) q33_9 (by decide)
      have h33_10 := zs_tne (k := 10) q33_10 (by decide)
      have h33_11 := zs_tne (k := 11) q33_11 (by decide)
      have h33_12 := zs_tne (k := 12) q33_12 (by decide)
      have h33_13 := zs_tne (k := 13) q33_13 (by decide)
      have h33_14 := zs_tne (k := 14) q33_14 (by decide)
      have h33_15 := zs_tne (k := 15) q33_15 (by decide)
      have h33_16 := zs_tne (k := 16) q33_16 (by decide)
      have h33_17 := zs_tne (k := 17) q33_17 (by decide)
      have h33_18 := zs_tne (k := 18) q33_18 (by decide)
      refine zs_table (pc := 33) (tgt := 728) d_Law_law_33 rfl ?_ ?_
      · unfold z_tsw
        rw [if_pos (by omega)]
        decide
      · refine zs_iinc (pc := 728) (x := a3) (v := (a3 + (6 : Int32))) (lv' := [(3, zI (a3 + (6 : Int32))), (0, zR (some 0)), (1, zR a1), (2, zR a2)]) d_Law_law_728 rfl rfl (Nat.le_of_ble_eq_true rfl) rfl ?_
        refine zs_goto (pc := 731) (tgt := 18) d_Law_law_731 rfl ?_
        refine zs_sub (lv' := [(0, zR (some 0)), (1, zR a1), (2, zR a2), (3, zI (a3 + (6 : Int32)))]) [1, 2, 3, 0] rfl ?_
        refine zs_wid (cs' := cs + 11) (ss' := ss + 47) (by omega) (by omega) ?_
        exact ih (cs + 11) (ss + 47) (by omega) (by omega) a1 a2 (a3 + (6 : Int32)) H
theorem js_Law_law {E : zE} {d : Nat} (hd : 240 ≤ d) (fu : Nat) (L : Nat) (xs : Nat → Int32) (hL : E.2.2.2.2.1 = L) (hx : E.2.2.2.2.2 = xs) (H : zH) : z_S E jM_Law_law d 5765 31223 zwI 0 [(0, zR (some 0))] [] H 0 0 (jF_Law_law fu L xs H) := by
  unfold jF_Law_law
  refine zs_new (pc := 0) d_Law_law_0 kN_Law_7 (by omega) (by omega) fun H0 => ?_
  refine zs_dup (pc := 3) d_Law_law_3 rfl ?_
  refine zs_calli (pc := 4) (av := []) (st := [zR (some H.2)]) (d' := 3) (C' := 22) (S' := 3017) d_Law_law_4 kI_Law_9 (jm_ST_init (d := 3) (Nat.le_refl _) H.2 H0) (by omega) (by omega) (by omega) rfl rfl (Nat.le_of_ble_eq_true rfl) fun y4 => ?_
  refine zs_astore_n (pc := 7) (lv' := [(1, zR (some H.2)), (0, zR (some 0))]) d_Law_law_7 (Nat.le_of_ble_eq_true rfl) rfl ?_
  refine zs_new (pc := 8) d_Law_law_8 kN_Law_10 (by omega) (by omega) fun H8 => ?_
  refine zs_dup (pc := 11) d_Law_law_11 rfl ?_
  refine zs_calli (pc := 12) (av := []) (st := [zR (some y4.2)]) (d' := 1) (C' := 21) (S' := 3722) d_Law_law_12 kI_Law_12 (jm_Mo_init (d := 1) (Nat.le_refl _) y4.2 H8) (by omega) (by omega) (by omega) rfl rfl (Nat.le_of_ble_eq_true rfl) fun y12 => ?_
  refine zs_astore_n (pc := 15) (lv' := [(2, zR (some y4.2)), (1, zR (some H.2)), (0, zR (some 0))]) d_Law_law_15 (Nat.le_of_ble_eq_true rfl) rfl ?_
  refine zs_iconst (pc := 16) (v := (0 : Int32)) d_Law_law_16 (by decide) ?_
  refine zs_istore_n (pc := 17) (lv' := [(3, zI (0 : Int32)), (2, zR (some y4.2)), (1, zR (some H.2)), (0, zR (some 0))]) d_Law_law_17 (Nat.le_of_ble_eq_true rfl) rfl ?_
  refine zs_sub (lv' := [(0, zR (some 0)), (1, zR (some H.2)), (2, zR (some y4.2)), (3, zI (0 : Int32))]) [3, 2, 1, 0] rfl ?_
  exact jl_Law_law_18 hd fu L xs hL hx 520 45 6783 (by omega) (by omega) (some H.2) (some y4.2) (0 : Int32) y12
