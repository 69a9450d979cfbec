section
-- ===== PART A: goes FIRST, ahead of the names: the tables' words, and 'selects' of the private methods out of them =====
/-- a private method of a class that the tables say can be made, by its rows of tables_1 -/
def lw_okq (q : MethodName × Nat) : Prop := (q.1.cls ≠ "java/lang/invoke/MethodHandle" ∧ q.1.cls ≠ "java/lang/invoke/VarHandle") ∧ Cond.instantiable q.1.cls q.2 ∈ tables_1 ∧ Cond.privateMethod q.1 ∈ tables_1 ∧ Cond.instanceMethod q.1 ∈ tables_1
theorem lw_p0 : lw_okq (⟨"SchemaTables$Schemas", "isPending", "(I)Z"⟩, 4) := ⟨⟨by decide +kernel, by decide +kernel⟩, List.mem_of_getElem? (i := 48) (by decide +kernel), List.mem_of_getElem? (i := 199) (by decide +kernel), List.mem_of_getElem? (i := 200) (by decide +kernel)⟩
theorem lw_p1 : lw_okq (⟨"SchemaTables$Schemas", "build", "(IIII)LSchemaTables$Schema;"⟩, 4) := ⟨⟨by decide +kernel, by decide +kernel⟩, List.mem_of_getElem? (i := 48) (by decide +kernel), List.mem_of_getElem? (i := 251) (by decide +kernel), List.mem_of_getElem? (i := 252) (by decide +kernel)⟩
theorem lw_p2 : lw_okq (⟨"SchemaTables$Schemas", "buildRecord", "(I)LSchemaTables$Schema;"⟩, 4) := ⟨⟨by decide +kernel, by decide +kernel⟩, List.mem_of_getElem? (i := 48) (by decide +kernel), List.mem_of_getElem? (i := 330) (by decide +kernel), List.mem_of_getElem? (i := 331) (by decide +kernel)⟩
theorem lw_p3 : lw_okq (⟨"SchemaTables$Registry", "entries", "()I"⟩, 2) := ⟨⟨by decide +kernel, by decide +kernel⟩, List.mem_of_getElem? (i := 71) (by decide +kernel), List.mem_of_getElem? (i := 376) (by decide +kernel), List.mem_of_getElem? (i := 377) (by decide +kernel)⟩
theorem lw_p4 : lw_okq (⟨"SchemaTables$Registry", "entryByte", "(II)I"⟩, 2) := ⟨⟨by decide +kernel, by decide +kernel⟩, List.mem_of_getElem? (i := 71) (by decide +kernel), List.mem_of_getElem? (i := 387) (by decide +kernel), List.mem_of_getElem? (i := 388) (by decide +kernel)⟩
theorem lw_p5 : lw_okq (⟨"SchemaTables", "readsVersions", "(LSchemaTables$Schema;I)Z"⟩, 8) := ⟨⟨by decide +kernel, by decide +kernel⟩, List.mem_of_getElem? (i := 17) (by decide +kernel), List.mem_of_getElem? (i := 395) (by decide +kernel), List.mem_of_getElem? (i := 396) (by decide +kernel)⟩
theorem lw_p6 : lw_okq (⟨"SchemaTables$Disk", "set", "(II)V"⟩, 4) := ⟨⟨by decide +kernel, by decide +kernel⟩, List.mem_of_getElem? (i := 25) (by decide +kernel), List.mem_of_getElem? (i := 428) (by decide +kernel), List.mem_of_getElem? (i := 429) (by decide +kernel)⟩
theorem lw_p7 : lw_okq (⟨"SchemaTables", "goDown", "()I"⟩, 8) := ⟨⟨by decide +kernel, by decide +kernel⟩, List.mem_of_getElem? (i := 17) (by decide +kernel), List.mem_of_getElem? (i := 432) (by decide +kernel), List.mem_of_getElem? (i := 433) (by decide +kernel)⟩
theorem lw_p8 : lw_okq (⟨"SchemaTables$Manifest", "entries", "()I"⟩, 3) := ⟨⟨by decide +kernel, by decide +kernel⟩, List.mem_of_getElem? (i := 100) (by decide +kernel), List.mem_of_getElem? (i := 522) (by decide +kernel), List.mem_of_getElem? (i := 523) (by decide +kernel)⟩
theorem lw_p9 : lw_okq (⟨"SchemaTables$Manifest", "draftHead", "(III)V"⟩, 3) := ⟨⟨by decide +kernel, by decide +kernel⟩, List.mem_of_getElem? (i := 100) (by decide +kernel), List.mem_of_getElem? (i := 532) (by decide +kernel), List.mem_of_getElem? (i := 533) (by decide +kernel)⟩
theorem lw_p10 : lw_okq (⟨"SchemaTables$Manifest", "isFree", "(I)Z"⟩, 3) := ⟨⟨by decide +kernel, by decide +kernel⟩, List.mem_of_getElem? (i := 100) (by decide +kernel), List.mem_of_getElem? (i := 550) (by decide +kernel), List.mem_of_getElem? (i := 551) (by decide +kernel)⟩
theorem lw_p11 : lw_okq (⟨"SchemaTables$Manifest", "firstBlockOf", "(I)I"⟩, 3) := ⟨⟨by decide +kernel, by decide +kernel⟩, List.mem_of_getElem? (i := 100) (by decide +kernel), List.mem_of_getElem? (i := 554) (by decide +kernel), List.mem_of_getElem? (i := 555) (by decide +kernel)⟩
theorem lw_p12 : lw_okq (⟨"SchemaTables$Manifest", "entryByte", "(II)I"⟩, 3) := ⟨⟨by decide +kernel, by decide +kernel⟩, List.mem_of_getElem? (i := 100) (by decide +kernel), List.mem_of_getElem? (i := 558) (by decide +kernel), List.mem_of_getElem? (i := 559) (by decide +kernel)⟩
theorem lw_p13 : lw_okq (⟨"SchemaTables$Manifest", "blocksOf", "(I)I"⟩, 3) := ⟨⟨by decide +kernel, by decide +kernel⟩, List.mem_of_getElem? (i := 100) (by decide +kernel), List.mem_of_getElem? (i := 562) (by decide +kernel), List.mem_of_getElem? (i := 563) (by decide +kernel)⟩
theorem lw_p14 : lw_okq (⟨"SchemaTables$Manifest", "subjectOf", "(I)I"⟩, 3) := ⟨⟨by decide +kernel, by decide +kernel⟩, List.mem_of_getElem? (i := 100) (by decide +kernel), List.mem_of_getElem? (i := 570) (by decide +kernel), List.mem_of_getElem? (i := 571) (by decide +kernel)⟩
theorem lw_p15 : lw_okq (⟨"SchemaTables$Manifest", "draftEntry", "(III)V"⟩, 3) := ⟨⟨by decide +kernel, by decide +kernel⟩, List.mem_of_getElem? (i := 100) (by decide +kernel), List.mem_of_getElem? (i := 574) (by decide +kernel), List.mem_of_getElem? (i := 575) (by decide +kernel)⟩
def lw_privs_1 : List (MethodName × Nat) := [(⟨"SchemaTables$Schemas", "isPending", "(I)Z"⟩, 4), (⟨"SchemaTables$Schemas", "build", "(IIII)LSchemaTables$Schema;"⟩, 4), (⟨"SchemaTables$Schemas", "buildRecord", "(I)LSchemaTables$Schema;"⟩, 4), (⟨"SchemaTables$Registry", "entries", "()I"⟩, 2), (⟨"SchemaTables$Registry", "entryByte", "(II)I"⟩, 2), (⟨"SchemaTables", "readsVersions", "(LSchemaTables$Schema;I)Z"⟩, 8), (⟨"SchemaTables$Disk", "set", "(II)V"⟩, 4), (⟨"SchemaTables", "goDown", "()I"⟩, 8), (⟨"SchemaTables$Manifest", "entries", "()I"⟩, 3), (⟨"SchemaTables$Manifest", "draftHead", "(III)V"⟩, 3), (⟨"SchemaTables$Manifest", "isFree", "(I)Z"⟩, 3), (⟨"SchemaTables$Manifest", "firstBlockOf", "(I)I"⟩, 3), (⟨"SchemaTables$Manifest", "entryByte", "(II)I"⟩, 3), (⟨"SchemaTables$Manifest", "blocksOf", "(I)I"⟩, 3), (⟨"SchemaTables$Manifest", "subjectOf", "(I)I"⟩, 3), (⟨"SchemaTables$Manifest", "draftEntry", "(III)V"⟩, 3)]
theorem lw_r1 : ∀ q ∈ lw_privs_1, lw_okq q := List.forall_mem_cons.mpr ⟨lw_p0, List.forall_mem_cons.mpr ⟨lw_p1, List.forall_mem_cons.mpr ⟨lw_p2, List.forall_mem_cons.mpr ⟨lw_p3, List.forall_mem_cons.mpr ⟨lw_p4, List.forall_mem_cons.mpr ⟨lw_p5, List.forall_mem_cons.mpr ⟨lw_p6, List.forall_mem_cons.mpr ⟨lw_p7, List.forall_mem_cons.mpr ⟨lw_p8, List.forall_mem_cons.mpr ⟨lw_p9, List.forall_mem_cons.mpr ⟨lw_p10, List.forall_mem_cons.mpr ⟨lw_p11, List.forall_mem_cons.mpr ⟨lw_p12, List.forall_mem_cons.mpr ⟨lw_p13, List.forall_mem_cons.mpr ⟨lw_p14, List.forall_mem_cons.mpr ⟨lw_p15, fun _ h => absurd h List.not_mem_nil⟩⟩⟩⟩⟩⟩⟩⟩⟩⟩⟩⟩⟩⟩⟩⟩
theorem lw_p16 : lw_okq (⟨"SchemaTables$Manifest", "recordsIn", "(I)I"⟩, 3) := ⟨⟨by decide +kernel, by decide +kernel⟩, List.mem_of_getElem? (i := 100) (by decide +kernel), List.mem_of_getElem? (i := 589) (by decide +kernel), List.mem_of_getElem? (i := 590) (by decide +kernel)⟩
theorem lw_p17 : lw_okq (⟨"SchemaTables$Manifest", "startOfFile", "(I)I"⟩, 3) := ⟨⟨by decide +kernel, by decide +kernel⟩, List.mem_of_getElem? (i := 100) (by decide +kernel), List.mem_of_getElem? (i := 593) (by decide +kernel), List.mem_of_getElem? (i := 594) (by decide +kernel)⟩
theorem lw_p18 : lw_okq (⟨"SchemaTables$Manifest", "canJoin", "(II)Z"⟩, 3) := ⟨⟨by decide +kernel, by decide +kernel⟩, List.mem_of_getElem? (i := 100) (by decide +kernel), List.mem_of_getElem? (i := 609) (by decide +kernel), List.mem_of_getElem? (i := 610) (by decide +kernel)⟩
theorem lw_p19 : lw_okq (⟨"SchemaTables$Manifest", "schemaOf", "(I)I"⟩, 3) := ⟨⟨by decide +kernel, by decide +kernel⟩, List.mem_of_getElem? (i := 100) (by decide +kernel), List.mem_of_getElem? (i := 613) (by decide +kernel), List.mem_of_getElem? (i := 614) (by decide +kernel)⟩
theorem lw_p20 : lw_okq (⟨"SchemaTables$Manifest", "bytesIn", "(I)I"⟩, 3) := ⟨⟨by decide +kernel, by decide +kernel⟩, List.mem_of_getElem? (i := 100) (by decide +kernel), List.mem_of_getElem? (i := 617) (by decide +kernel), List.mem_of_getElem? (i := 618) (by decide +kernel)⟩
theorem lw_p21 : lw_okq (⟨"SchemaTables$Manifest", "draftRecordsOf", "(I)V"⟩, 3) := ⟨⟨by decide +kernel, by decide +kernel⟩, List.mem_of_getElem? (i := 100) (by decide +kernel), List.mem_of_getElem? (i := 626) (by decide +kernel), List.mem_of_getElem? (i := 627) (by decide +kernel)⟩
theorem lw_p22 : lw_okq (⟨"SchemaTables$Manifest", "decodeRecord", "(IILSchemaTables$Schema;LSchemaTables$Row;)V"⟩, 3) := ⟨⟨by decide +kernel, by decide +kernel⟩, List.mem_of_getElem? (i := 100) (by decide +kernel), List.mem_of_getElem? (i := 643) (by decide +kernel), List.mem_of_getElem? (i := 644) (by decide +kernel)⟩
theorem lw_p23 : lw_okq (⟨"SchemaTablesModel", "noSchema", "(I)Z"⟩, 36) := ⟨⟨by decide +kernel, by decide +kernel⟩, List.mem_of_getElem? (i := 743) (by decide +kernel), List.mem_of_getElem? (i := 866) (by decide +kernel), List.mem_of_getElem? (i := 867) (by decide +kernel)⟩
theorem lw_p24 : lw_okq (⟨"SchemaTablesModel", "isDefault", "(IJ)Z"⟩, 36) := ⟨⟨by decide +kernel, by decide +kernel⟩, List.mem_of_getElem? (i := 743) (by decide +kernel), List.mem_of_getElem? (i := 870) (by decide +kernel), List.mem_of_getElem? (i := 871) (by decide +kernel)⟩
theorem lw_p25 : lw_okq (⟨"SchemaTablesModel", "scalar", "(IJ)Z"⟩, 36) := ⟨⟨by decide +kernel, by decide +kernel⟩, List.mem_of_getElem? (i := 743) (by decide +kernel), List.mem_of_getElem? (i := 874) (by decide +kernel), List.mem_of_getElem? (i := 875) (by decide +kernel)⟩
theorem lw_p26 : lw_okq (⟨"SchemaTablesModel", "badEnum", "(III)Z"⟩, 36) := ⟨⟨by decide +kernel, by decide +kernel⟩, List.mem_of_getElem? (i := 743) (by decide +kernel), List.mem_of_getElem? (i := 883) (by decide +kernel), List.mem_of_getElem? (i := 884) (by decide +kernel)⟩
theorem lw_p27 : lw_okq (⟨"SchemaTablesModel", "badUnion", "(II)Z"⟩, 36) := ⟨⟨by decide +kernel, by decide +kernel⟩, List.mem_of_getElem? (i := 743) (by decide +kernel), List.mem_of_getElem? (i := 887) (by decide +kernel), List.mem_of_getElem? (i := 888) (by decide +kernel)⟩
theorem lw_p28 : lw_okq (⟨"SchemaTablesModel", "compare", "(II)V"⟩, 36) := ⟨⟨by decide +kernel, by decide +kernel⟩, List.mem_of_getElem? (i := 743) (by decide +kernel), List.mem_of_getElem? (i := 891) (by decide +kernel), List.mem_of_getElem? (i := 892) (by decide +kernel)⟩
theorem lw_p29 : lw_okq (⟨"SchemaTablesModel", "branch", "(II)I"⟩, 36) := ⟨⟨by decide +kernel, by decide +kernel⟩, List.mem_of_getElem? (i := 743) (by decide +kernel), List.mem_of_getElem? (i := 895) (by decide +kernel), List.mem_of_getElem? (i := 896) (by decide +kernel)⟩
theorem lw_p30 : lw_okq (⟨"SchemaTablesModel", "branchSchema", "(II)I"⟩, 36) := ⟨⟨by decide +kernel, by decide +kernel⟩, List.mem_of_getElem? (i := 743) (by decide +kernel), List.mem_of_getElem? (i := 899) (by decide +kernel), List.mem_of_getElem? (i := 900) (by decide +kernel)⟩
theorem lw_p31 : lw_okq (⟨"SchemaTablesModel", "inside", "(II)Z"⟩, 36) := ⟨⟨by decide +kernel, by decide +kernel⟩, List.mem_of_getElem? (i := 743) (by decide +kernel), List.mem_of_getElem? (i := 903) (by decide +kernel), List.mem_of_getElem? (i := 904) (by decide +kernel)⟩
def lw_privs_2 : List (MethodName × Nat) := [(⟨"SchemaTables$Manifest", "recordsIn", "(I)I"⟩, 3), (⟨"SchemaTables$Manifest", "startOfFile", "(I)I"⟩, 3), (⟨"SchemaTables$Manifest", "canJoin", "(II)Z"⟩, 3), (⟨"SchemaTables$Manifest", "schemaOf", "(I)I"⟩, 3), (⟨"SchemaTables$Manifest", "bytesIn", "(I)I"⟩, 3), (⟨"SchemaTables$Manifest", "draftRecordsOf", "(I)V"⟩, 3), (⟨"SchemaTables$Manifest", "decodeRecord", "(IILSchemaTables$Schema;LSchemaTables$Row;)V"⟩, 3), (⟨"SchemaTablesModel", "noSchema", "(I)Z"⟩, 36), (⟨"SchemaTablesModel", "isDefault", "(IJ)Z"⟩, 36), (⟨"SchemaTablesModel", "scalar", "(IJ)Z"⟩, 36), (⟨"SchemaTablesModel", "badEnum", "(III)Z"⟩, 36), (⟨"SchemaTablesModel", "badUnion", "(II)Z"⟩, 36), (⟨"SchemaTablesModel", "compare", "(II)V"⟩, 36), (⟨"SchemaTablesModel", "branch", "(II)I"⟩, 36), (⟨"SchemaTablesModel", "branchSchema", "(II)I"⟩, 36), (⟨"SchemaTablesModel", "inside", "(II)Z"⟩, 36)]
theorem lw_r2 : ∀ q ∈ lw_privs_2, lw_okq q := List.forall_mem_cons.mpr ⟨lw_p16, List.forall_mem_cons.mpr ⟨lw_p17, List.forall_mem_cons.mpr ⟨lw_p18, List.forall_mem_cons.mpr ⟨lw_p19, List.forall_mem_cons.mpr ⟨lw_p20, List.forall_mem_cons.mpr ⟨lw_p21, List.forall_mem_cons.mpr ⟨lw_p22, List.forall_mem_cons.mpr ⟨lw_p23, List.forall_mem_cons.mpr ⟨lw_p24, List.forall_mem_cons.mpr ⟨lw_p25, List.forall_mem_cons.mpr ⟨lw_p26, List.forall_mem_cons.mpr ⟨lw_p27, List.forall_mem_cons.mpr ⟨lw_p28, List.forall_mem_cons.mpr ⟨lw_p29, List.forall_mem_cons.mpr ⟨lw_p30, List.forall_mem_cons.mpr ⟨lw_p31, fun _ h => absurd h List.not_mem_nil⟩⟩⟩⟩⟩⟩⟩⟩⟩⟩⟩⟩⟩⟩⟩⟩
theorem lw_p32 : lw_okq (⟨"SchemaTablesModel", "fieldOf", "(II)I"⟩, 36) := ⟨⟨by decide +kernel, by decide +kernel⟩, List.mem_of_getElem? (i := 743) (by decide +kernel), List.mem_of_getElem? (i := 907) (by decide +kernel), List.mem_of_getElem? (i := 908) (by decide +kernel)⟩
theorem lw_p33 : lw_okq (⟨"SchemaTablesModel", "registered", "(II)Z"⟩, 36) := ⟨⟨by decide +kernel, by decide +kernel⟩, List.mem_of_getElem? (i := 743) (by decide +kernel), List.mem_of_getElem? (i := 922) (by decide +kernel), List.mem_of_getElem? (i := 923) (by decide +kernel)⟩
theorem lw_p34 : lw_okq (⟨"SchemaTablesModel", "write", "(I)Z"⟩, 36) := ⟨⟨by decide +kernel, by decide +kernel⟩, List.mem_of_getElem? (i := 743) (by decide +kernel), List.mem_of_getElem? (i := 930) (by decide +kernel), List.mem_of_getElem? (i := 931) (by decide +kernel)⟩
theorem lw_p35 : lw_okq (⟨"SchemaTablesModel", "span", "(III)I"⟩, 36) := ⟨⟨by decide +kernel, by decide +kernel⟩, List.mem_of_getElem? (i := 743) (by decide +kernel), List.mem_of_getElem? (i := 947) (by decide +kernel), List.mem_of_getElem? (i := 948) (by decide +kernel)⟩
theorem lw_p36 : lw_okq (⟨"SchemaTablesModel", "fieldsCome", "(II)I"⟩, 36) := ⟨⟨by decide +kernel, by decide +kernel⟩, List.mem_of_getElem? (i := 743) (by decide +kernel), List.mem_of_getElem? (i := 951) (by decide +kernel), List.mem_of_getElem? (i := 952) (by decide +kernel)⟩
theorem lw_p37 : lw_okq (⟨"SchemaTablesModel", "encode", "(I)V"⟩, 36) := ⟨⟨by decide +kernel, by decide +kernel⟩, List.mem_of_getElem? (i := 743) (by decide +kernel), List.mem_of_getElem? (i := 956) (by decide +kernel), List.mem_of_getElem? (i := 957) (by decide +kernel)⟩
theorem lw_p38 : lw_okq (⟨"SchemaTablesModel", "putByte", "(I)V"⟩, 36) := ⟨⟨by decide +kernel, by decide +kernel⟩, List.mem_of_getElem? (i := 743) (by decide +kernel), List.mem_of_getElem? (i := 960) (by decide +kernel), List.mem_of_getElem? (i := 961) (by decide +kernel)⟩
theorem lw_p39 : lw_okq (⟨"SchemaTablesModel", "putVarint", "(J)V"⟩, 36) := ⟨⟨by decide +kernel, by decide +kernel⟩, List.mem_of_getElem? (i := 743) (by decide +kernel), List.mem_of_getElem? (i := 964) (by decide +kernel), List.mem_of_getElem? (i := 965) (by decide +kernel)⟩
theorem lw_p40 : lw_okq (⟨"SchemaTablesModel", "head", "(III)V"⟩, 36) := ⟨⟨by decide +kernel, by decide +kernel⟩, List.mem_of_getElem? (i := 743) (by decide +kernel), List.mem_of_getElem? (i := 982) (by decide +kernel), List.mem_of_getElem? (i := 983) (by decide +kernel)⟩
theorem lw_p41 : lw_okq (⟨"SchemaTablesModel", "check", "()V"⟩, 36) := ⟨⟨by decide +kernel, by decide +kernel⟩, List.mem_of_getElem? (i := 743) (by decide +kernel), List.mem_of_getElem? (i := 986) (by decide +kernel), List.mem_of_getElem? (i := 987) (by decide +kernel)⟩
theorem lw_p42 : lw_okq (⟨"SchemaTablesModel", "room", "(I)I"⟩, 36) := ⟨⟨by decide +kernel, by decide +kernel⟩, List.mem_of_getElem? (i := 743) (by decide +kernel), List.mem_of_getElem? (i := 990) (by decide +kernel), List.mem_of_getElem? (i := 991) (by decide +kernel)⟩
theorem lw_p43 : lw_okq (⟨"SchemaTablesModel", "used", "(I)Z"⟩, 36) := ⟨⟨by decide +kernel, by decide +kernel⟩, List.mem_of_getElem? (i := 743) (by decide +kernel), List.mem_of_getElem? (i := 994) (by decide +kernel), List.mem_of_getElem? (i := 995) (by decide +kernel)⟩
theorem lw_p44 : lw_okq (⟨"SchemaTablesModel", "writeFile", "(I)Z"⟩, 36) := ⟨⟨by decide +kernel, by decide +kernel⟩, List.mem_of_getElem? (i := 743) (by decide +kernel), List.mem_of_getElem? (i := 998) (by decide +kernel), List.mem_of_getElem? (i := 999) (by decide +kernel)⟩
theorem lw_p45 : lw_okq (⟨"SchemaTablesModel", "oldManifest", "()V"⟩, 36) := ⟨⟨by decide +kernel, by decide +kernel⟩, List.mem_of_getElem? (i := 743) (by decide +kernel), List.mem_of_getElem? (i := 1002) (by decide +kernel), List.mem_of_getElem? (i := 1003) (by decide +kernel)⟩
theorem lw_p46 : lw_okq (⟨"SchemaTablesModel", "fileSubject", "(I)I"⟩, 36) := ⟨⟨by decide +kernel, by decide +kernel⟩, List.mem_of_getElem? (i := 743) (by decide +kernel), List.mem_of_getElem? (i := 1010) (by decide +kernel), List.mem_of_getElem? (i := 1011) (by decide +kernel)⟩
theorem lw_p47 : lw_okq (⟨"SchemaTablesModel", "fileRecords", "(I)I"⟩, 36) := ⟨⟨by decide +kernel, by decide +kernel⟩, List.mem_of_getElem? (i := 743) (by decide +kernel), List.mem_of_getElem? (i := 1014) (by decide +kernel), List.mem_of_getElem? (i := 1015) (by decide +kernel)⟩
def lw_privs_3 : List (MethodName × Nat) := [(⟨"SchemaTablesModel", "fieldOf", "(II)I"⟩, 36), (⟨"SchemaTablesModel", "registered", "(II)Z"⟩, 36), (⟨"SchemaTablesModel", "write", "(I)Z"⟩, 36), (⟨"SchemaTablesModel", "span", "(III)I"⟩, 36), (⟨"SchemaTablesModel", "fieldsCome", "(II)I"⟩, 36), (⟨"SchemaTablesModel", "encode", "(I)V"⟩, 36), (⟨"SchemaTablesModel", "putByte", "(I)V"⟩, 36), (⟨"SchemaTablesModel", "putVarint", "(J)V"⟩, 36), (⟨"SchemaTablesModel", "head", "(III)V"⟩, 36), (⟨"SchemaTablesModel", "check", "()V"⟩, 36), (⟨"SchemaTablesModel", "room", "(I)I"⟩, 36), (⟨"SchemaTablesModel", "used", "(I)Z"⟩, 36), (⟨"SchemaTablesModel", "writeFile", "(I)Z"⟩, 36), (⟨"SchemaTablesModel", "oldManifest", "()V"⟩, 36), (⟨"SchemaTablesModel", "fileSubject", "(I)I"⟩, 36), (⟨"SchemaTablesModel", "fileRecords", "(I)I"⟩, 36)]
theorem lw_r3 : ∀ q ∈ lw_privs_3, lw_okq q := List.forall_mem_cons.mpr ⟨lw_p32, List.forall_mem_cons.mpr ⟨lw_p33, List.forall_mem_cons.mpr ⟨lw_p34, List.forall_mem_cons.mpr ⟨lw_p35, List.forall_mem_cons.mpr ⟨lw_p36, List.forall_mem_cons.mpr ⟨lw_p37, List.forall_mem_cons.mpr ⟨lw_p38, List.forall_mem_cons.mpr ⟨lw_p39, List.forall_mem_cons.mpr ⟨lw_p40, List.forall_mem_cons.mpr ⟨lw_p41, List.forall_mem_cons.mpr ⟨lw_p42, List.forall_mem_cons.mpr ⟨lw_p43, List.forall_mem_cons.mpr ⟨lw_p44, List.forall_mem_cons.mpr ⟨lw_p45, List.forall_mem_cons.mpr ⟨lw_p46, List.forall_mem_cons.mpr ⟨lw_p47, fun _ h => absurd h List.not_mem_nil⟩⟩⟩⟩⟩⟩⟩⟩⟩⟩⟩⟩⟩⟩⟩⟩
theorem lw_p48 : lw_okq (⟨"SchemaTablesModel", "fileAt", "(I)I"⟩, 36) := ⟨⟨by decide +kernel, by decide +kernel⟩, List.mem_of_getElem? (i := 743) (by decide +kernel), List.mem_of_getElem? (i := 1018) (by decide +kernel), List.mem_of_getElem? (i := 1019) (by decide +kernel)⟩
theorem lw_p49 : lw_okq (⟨"SchemaTablesModel", "behind", "(I)I"⟩, 36) := ⟨⟨by decide +kernel, by decide +kernel⟩, List.mem_of_getElem? (i := 743) (by decide +kernel), List.mem_of_getElem? (i := 1026) (by decide +kernel), List.mem_of_getElem? (i := 1027) (by decide +kernel)⟩
theorem lw_p50 : lw_okq (⟨"SchemaTablesModel", "joins", "(II)Z"⟩, 36) := ⟨⟨by decide +kernel, by decide +kernel⟩, List.mem_of_getElem? (i := 743) (by decide +kernel), List.mem_of_getElem? (i := 1030) (by decide +kernel), List.mem_of_getElem? (i := 1031) (by decide +kernel)⟩
theorem lw_p51 : lw_okq (⟨"SchemaTablesModel", "fileSchema", "(I)I"⟩, 36) := ⟨⟨by decide +kernel, by decide +kernel⟩, List.mem_of_getElem? (i := 743) (by decide +kernel), List.mem_of_getElem? (i := 1034) (by decide +kernel), List.mem_of_getElem? (i := 1035) (by decide +kernel)⟩
theorem lw_p52 : lw_okq (⟨"SchemaTablesModel", "fileBytes", "(I)I"⟩, 36) := ⟨⟨by decide +kernel, by decide +kernel⟩, List.mem_of_getElem? (i := 743) (by decide +kernel), List.mem_of_getElem? (i := 1038) (by decide +kernel), List.mem_of_getElem? (i := 1039) (by decide +kernel)⟩
theorem lw_p53 : lw_okq (⟨"SchemaTablesModel", "fetch", "(II)I"⟩, 36) := ⟨⟨by decide +kernel, by decide +kernel⟩, List.mem_of_getElem? (i := 743) (by decide +kernel), List.mem_of_getElem? (i := 1051) (by decide +kernel), List.mem_of_getElem? (i := 1052) (by decide +kernel)⟩
theorem lw_p54 : lw_okq (⟨"SchemaTablesModel", "decode", "(I)I"⟩, 36) := ⟨⟨by decide +kernel, by decide +kernel⟩, List.mem_of_getElem? (i := 743) (by decide +kernel), List.mem_of_getElem? (i := 1055) (by decide +kernel), List.mem_of_getElem? (i := 1056) (by decide +kernel)⟩
theorem lw_p55 : lw_okq (⟨"SchemaTablesModel", "varint", "()J"⟩, 36) := ⟨⟨by decide +kernel, by decide +kernel⟩, List.mem_of_getElem? (i := 743) (by decide +kernel), List.mem_of_getElem? (i := 1059) (by decide +kernel), List.mem_of_getElem? (i := 1060) (by decide +kernel)⟩
theorem lw_p56 : lw_okq (⟨"SchemaTablesModel", "resolve", "(II)I"⟩, 36) := ⟨⟨by decide +kernel, by decide +kernel⟩, List.mem_of_getElem? (i := 743) (by decide +kernel), List.mem_of_getElem? (i := 1066) (by decide +kernel), List.mem_of_getElem? (i := 1067) (by decide +kernel)⟩
theorem lw_p57 : lw_okq (⟨"SchemaTablesModel", "add", "(III)V"⟩, 36) := ⟨⟨by decide +kernel, by decide +kernel⟩, List.mem_of_getElem? (i := 743) (by decide +kernel), List.mem_of_getElem? (i := 1070) (by decide +kernel), List.mem_of_getElem? (i := 1071) (by decide +kernel)⟩
theorem lw_p58 : lw_okq (⟨"SchemaTablesModel", "defaults", "(I)V"⟩, 36) := ⟨⟨by decide +kernel, by decide +kernel⟩, List.mem_of_getElem? (i := 743) (by decide +kernel), List.mem_of_getElem? (i := 1074) (by decide +kernel), List.mem_of_getElem? (i := 1075) (by decide +kernel)⟩
theorem lw_p59 : lw_okq (⟨"SchemaTablesModel", "give1", "(J)V"⟩, 36) := ⟨⟨by decide +kernel, by decide +kernel⟩, List.mem_of_getElem? (i := 743) (by decide +kernel), List.mem_of_getElem? (i := 1078) (by decide +kernel), List.mem_of_getElem? (i := 1079) (by decide +kernel)⟩
theorem lw_p60 : lw_okq (⟨"SchemaTablesModel", "part", "(III)Z"⟩, 36) := ⟨⟨by decide +kernel, by decide +kernel⟩, List.mem_of_getElem? (i := 743) (by decide +kernel), List.mem_of_getElem? (i := 1082) (by decide +kernel), List.mem_of_getElem? (i := 1083) (by decide +kernel)⟩
theorem lw_p61 : lw_okq (⟨"SchemaTablesModel", "ofRecord", "(III)Z"⟩, 36) := ⟨⟨by decide +kernel, by decide +kernel⟩, List.mem_of_getElem? (i := 743) (by decide +kernel), List.mem_of_getElem? (i := 1086) (by decide +kernel), List.mem_of_getElem? (i := 1087) (by decide +kernel)⟩
theorem lw_p62 : lw_okq (⟨"SchemaTablesModel", "placeOf", "(III)I"⟩, 36) := ⟨⟨by decide +kernel, by decide +kernel⟩, List.mem_of_getElem? (i := 743) (by decide +kernel), List.mem_of_getElem? (i := 1090) (by decide +kernel), List.mem_of_getElem? (i := 1091) (by decide +kernel)⟩
theorem lw_p63 : lw_okq (⟨"SchemaTablesModel", "symbolOf", "(II)Z"⟩, 36) := ⟨⟨by decide +kernel, by decide +kernel⟩, List.mem_of_getElem? (i := 743) (by decide +kernel), List.mem_of_getElem? (i := 1094) (by decide +kernel), List.mem_of_getElem? (i := 1095) (by decide +kernel)⟩
def lw_privs_4 : List (MethodName × Nat) := [(⟨"SchemaTablesModel", "fileAt", "(I)I"⟩, 36), (⟨"SchemaTablesModel", "behind", "(I)I"⟩, 36), (⟨"SchemaTablesModel", "joins", "(II)Z"⟩, 36), (⟨"SchemaTablesModel", "fileSchema", "(I)I"⟩, 36), (⟨"SchemaTablesModel", "fileBytes", "(I)I"⟩, 36), (⟨"SchemaTablesModel", "fetch", "(II)I"⟩, 36), (⟨"SchemaTablesModel", "decode", "(I)I"⟩, 36), (⟨"SchemaTablesModel", "varint", "()J"⟩, 36), (⟨"SchemaTablesModel", "resolve", "(II)I"⟩, 36), (⟨"SchemaTablesModel", "add", "(III)V"⟩, 36), (⟨"SchemaTablesModel", "defaults", "(I)V"⟩, 36), (⟨"SchemaTablesModel", "give1", "(J)V"⟩, 36), (⟨"SchemaTablesModel", "part", "(III)Z"⟩, 36), (⟨"SchemaTablesModel", "ofRecord", "(III)Z"⟩, 36), (⟨"SchemaTablesModel", "placeOf", "(III)I"⟩, 36), (⟨"SchemaTablesModel", "symbolOf", "(II)Z"⟩, 36)]
theorem lw_r4 : ∀ q ∈ lw_privs_4, lw_okq q := List.forall_mem_cons.mpr ⟨lw_p48, List.forall_mem_cons.mpr ⟨lw_p49, List.forall_mem_cons.mpr ⟨lw_p50, List.forall_mem_cons.mpr ⟨lw_p51, List.forall_mem_cons.mpr ⟨lw_p52, List.forall_mem_cons.mpr ⟨lw_p53, List.forall_mem_cons.mpr ⟨lw_p54, List.forall_mem_cons.mpr ⟨lw_p55, List.forall_mem_cons.mpr ⟨lw_p56, List.forall_mem_cons.mpr ⟨lw_p57, List.forall_mem_cons.mpr ⟨lw_p58, List.forall_mem_cons.mpr ⟨lw_p59, List.forall_mem_cons.mpr ⟨lw_p60, List.forall_mem_cons.mpr ⟨lw_p61, List.forall_mem_cons.mpr ⟨lw_p62, List.forall_mem_cons.mpr ⟨lw_p63, fun _ h => absurd h List.not_mem_nil⟩⟩⟩⟩⟩⟩⟩⟩⟩⟩⟩⟩⟩⟩⟩⟩
theorem lw_p64 : lw_okq (⟨"SchemaTablesModel", "items", "(III)V"⟩, 36) := ⟨⟨by decide +kernel, by decide +kernel⟩, List.mem_of_getElem? (i := 743) (by decide +kernel), List.mem_of_getElem? (i := 1098) (by decide +kernel), List.mem_of_getElem? (i := 1099) (by decide +kernel)⟩
def lw_privs_5 : List (MethodName × Nat) := [(⟨"SchemaTablesModel", "items", "(III)V"⟩, 36)]
theorem lw_r5 : ∀ q ∈ lw_privs_5, lw_okq q := List.forall_mem_cons.mpr ⟨lw_p64, fun _ h => absurd h List.not_mem_nil⟩
def lw_privs : List (MethodName × Nat) := lw_privs_1 ++ (lw_privs_2 ++ (lw_privs_3 ++ (lw_privs_4 ++ (lw_privs_5))))
def lw_tbl : List Cond := k2_sels lw_privs ++ tables_1
theorem lw_privs_ok : ∀ q ∈ lw_privs, lw_okq q := by
  show ∀ q ∈ lw_privs_1 ++ (lw_privs_2 ++ (lw_privs_3 ++ (lw_privs_4 ++ (lw_privs_5)))), lw_okq q
  exact List.forall_mem_append.mpr ⟨lw_r1, List.forall_mem_append.mpr ⟨lw_r2, List.forall_mem_append.mpr ⟨lw_r3, List.forall_mem_append.mpr ⟨lw_r4, lw_r5⟩⟩⟩⟩
end
section
/-! Classes, their fields in the order of the slots, array kinds, methods (printed by emit.py). -/
def jT_ST : u_T := fun k => match k with
  | 0 => ("SchemaTables", "schemas", "LSchemaTables$Schemas;", true)
  | 1 => ("SchemaTables", "disk", "LSchemaTables$Disk;", true)
  | 2 => ("SchemaTables", "registry", "LSchemaTables$Registry;", true)
  | 3 => ("SchemaTables", "manifest", "LSchemaTables$Manifest;", true)
  | 4 => ("SchemaTables", "staging", "LSchemaTables$Staging;", true)
  | 5 => ("SchemaTables", "atHand", "LSchemaTables$Row;", true)
  | 6 => ("SchemaTables", "fetched", "LSchemaTables$Row;", true)
  | _ => ("SchemaTables", "found", "LSchemaTables$Row;", true)
def jt_ST : Nat → FieldType := fun k => match k with
  | 0 => (.object "SchemaTables$Schemas")
  | 1 => (.object "SchemaTables$Disk")
  | 2 => (.object "SchemaTables$Registry")
  | 3 => (.object "SchemaTables$Manifest")
  | 4 => (.object "SchemaTables$Staging")
  | 5 => (.object "SchemaTables$Row")
  | 6 => (.object "SchemaTables$Row")
  | _ => (.object "SchemaTables$Row")
theorem jn_ST : ∀ a, a < 8 → ∀ b, b < 8 → a ≠ b → (jT_ST a).2.1 ≠ (jT_ST b).2.1 := by decide +kernel
theorem jt_ST_ok : ∀ k, k < 8 → parseFieldDescriptor (jT_ST k).2.2.1 = some (jt_ST k) := by decide +kernel
def jT_Mo : u_T := fun k => match k with
  | 0 => ("SchemaTablesModel", "schemas", "I", false)
  | 1 => ("SchemaTablesModel", "kind", "[I", true)
  | 2 => ("SchemaTablesModel", "name", "[I", true)
  | 3 => ("SchemaTablesModel", "partA", "[I", true)
  | 4 => ("SchemaTablesModel", "partB", "[I", true)
  | 5 => ("SchemaTablesModel", "depth", "[I", true)
  | 6 => ("SchemaTablesModel", "fields", "[I", true)
  | 7 => ("SchemaTablesModel", "fieldName", "[I", true)
  | 8 => ("SchemaTablesModel", "fieldSchema", "[I", true)
  | 9 => ("SchemaTablesModel", "fieldHas", "[Z", true)
  | 10 => ("SchemaTablesModel", "fieldDefault", "[J", true)
  | 11 => ("SchemaTablesModel", "matches", "[Z", true)
  | 12 => ("SchemaTablesModel", "reads", "[Z", true)
  | 13 => ("SchemaTablesModel", "given", "I", false)
  | 14 => ("SchemaTablesModel", "disk", "[I", true)
  | 15 => ("SchemaTablesModel", "writes", "I", false)
  | 16 => ("SchemaTablesModel", "down", "Z", false)
  | 17 => ("SchemaTablesModel", "limited", "Z", false)
  | 18 => ("SchemaTablesModel", "limit", "I", false)
  | 19 => ("SchemaTablesModel", "row", "[J", true)
  | 20 => ("SchemaTablesModel", "rowSize", "I", false)
  | 21 => ("SchemaTablesModel", "stagedSchema", "I", false)
  | 22 => ("SchemaTablesModel", "stagedCount", "I", false)
  | 23 => ("SchemaTablesModel", "staged", "[I", true)
  | 24 => ("SchemaTablesModel", "stagedBytes", "I", false)
  | 25 => ("SchemaTablesModel", "numbers", "[J", true)
  | 26 => ("SchemaTablesModel", "read", "I", false)
  | 27 => ("SchemaTablesModel", "bytes", "[I", true)
  | 28 => ("SchemaTablesModel", "size", "I", false)
  | 29 => ("SchemaTablesModel", "block", "[I", true)
  | 30 => ("SchemaTablesModel", "value", "[J", true)
  | 31 => ("SchemaTablesModel", "come", "[I", true)
  | 32 => ("SchemaTablesModel", "task", "[I", true)
  | 33 => ("SchemaTablesModel", "cursor", "I", false)
  | 34 => ("SchemaTablesModel", "tasks", "I", false)
  | _ => ("SchemaTablesModel", "out", "I", false)
def jt_Mo : Nat → FieldType := fun k => match k with
  | 0 => .int
  | 1 => (.array .int)
  | 2 => (.array .int)
  | 3 => (.array .int)
  | 4 => (.array .int)
  | 5 => (.array .int)
  | 6 => (.array .int)
  | 7 => (.array .int)
  | 8 => (.array .int)
  | 9 => (.array .boolean)
  | 10 => (.array .long)
  | 11 => (.array .boolean)
  | 12 => (.array .boolean)
  | 13 => .int
  | 14 => (.array .int)
  | 15 => .int
  | 16 => .boolean
  | 17 => .boolean
  | 18 => .int
  | 19 => (.array .long)
  | 20 => .int
  | 21 => .int
  | 22 => .int
  | 23 => (.array .int)
  | 24 => .int
  | 25 => (.array .long)
  | 26 => .int
  | 27 => (.array .int)
  | 28 => .int
  | 29 => (.array .int)
  | 30 => (.array .long)
  | 31 => (.array .int)
  | 32 => (.array .int)
  | 33 => .int
  | 34 => .int
  | _ => .int
theorem jn_Mo : ∀ a, a < 36 → ∀ b, b < 36 → a ≠ b → (jT_Mo a).2.1 ≠ (jT_Mo b).2.1 := by decide +kernel
theorem jt_Mo_ok : ∀ k, k < 36 → parseFieldDescriptor (jT_Mo k).2.2.1 = some (jt_Mo k) := by decide +kernel
def jT_Bytes : u_T := fun k => match k with
  | 0 => ("SchemaTables$Bytes", "octets", "[I", true)
  | _ => ("SchemaTables$Bytes", "size", "I", false)
def jt_Bytes : Nat → FieldType := fun k => match k with
  | 0 => (.array .int)
  | _ => .int
theorem jn_Bytes : ∀ a, a < 2 → ∀ b, b < 2 → a ≠ b → (jT_Bytes a).2.1 ≠ (jT_Bytes b).2.1 := by decide +kernel
theorem jt_Bytes_ok : ∀ k, k < 2 → parseFieldDescriptor (jT_Bytes k).2.2.1 = some (jt_Bytes k) := by decide +kernel
def jT_Coder : u_T := fun k => match k with
  | _ => ("", "", "", false)
def jt_Coder : Nat → FieldType := fun k => match k with
  | _ => .int
theorem jn_Coder : ∀ a, a < 0 → ∀ b, b < 0 → a ≠ b → (jT_Coder a).2.1 ≠ (jT_Coder b).2.1 := by decide +kernel
theorem jt_Coder_ok : ∀ k, k < 0 → parseFieldDescriptor (jT_Coder k).2.2.1 = some (jt_Coder k) := by decide +kernel
def jT_Disk : u_T := fun k => match k with
  | 0 => ("SchemaTables$Disk", "octets", "[I", true)
  | 1 => ("SchemaTables$Disk", "isUp", "Z", false)
  | 2 => ("SchemaTables$Disk", "writesLeft", "I", false)
  | _ => ("SchemaTables$Disk", "writesMade", "I", false)
def jt_Disk : Nat → FieldType := fun k => match k with
  | 0 => (.array .int)
  | 1 => .boolean
  | 2 => .int
  | _ => .int
theorem jn_Disk : ∀ a, a < 4 → ∀ b, b < 4 → a ≠ b → (jT_Disk a).2.1 ≠ (jT_Disk b).2.1 := by decide +kernel
theorem jt_Disk_ok : ∀ k, k < 4 → parseFieldDescriptor (jT_Disk k).2.2.1 = some (jt_Disk k) := by decide +kernel
def jT_Field : u_T := fun k => match k with
  | 0 => ("SchemaTables$Field", "name", "I", true)
  | 1 => ("SchemaTables$Field", "schema", "LSchemaTables$Schema;", true)
  | 2 => ("SchemaTables$Field", "hasDefault", "Z", true)
  | _ => ("SchemaTables$Field", "value", "J", true)
def jt_Field : Nat → FieldType := fun k => match k with
  | 0 => .int
  | 1 => (.object "SchemaTables$Schema")
  | 2 => .boolean
  | _ => .long
theorem jn_Field : ∀ a, a < 4 → ∀ b, b < 4 → a ≠ b → (jT_Field a).2.1 ≠ (jT_Field b).2.1 := by decide +kernel
theorem jt_Field_ok : ∀ k, k < 4 → parseFieldDescriptor (jT_Field k).2.2.1 = some (jt_Field k) := by decide +kernel
def jT_Manifest : u_T := fun k => match k with
  | 0 => ("SchemaTables$Manifest", "disk", "LSchemaTables$Disk;", true)
  | 1 => ("SchemaTables$Manifest", "file", "LSchemaTables$Bytes;", true)
  | _ => ("SchemaTables$Manifest", "draft", "LSchemaTables$Bytes;", true)
def jt_Manifest : Nat → FieldType := fun k => match k with
  | 0 => (.object "SchemaTables$Disk")
  | 1 => (.object "SchemaTables$Bytes")
  | _ => (.object "SchemaTables$Bytes")
theorem jn_Manifest : ∀ a, a < 3 → ∀ b, b < 3 → a ≠ b → (jT_Manifest a).2.1 ≠ (jT_Manifest b).2.1 := by decide +kernel
theorem jt_Manifest_ok : ∀ k, k < 3 → parseFieldDescriptor (jT_Manifest k).2.2.1 = some (jt_Manifest k) := by decide +kernel
def jT_Registry : u_T := fun k => match k with
  | 0 => ("SchemaTables$Registry", "disk", "LSchemaTables$Disk;", true)
  | _ => ("SchemaTables$Registry", "draft", "LSchemaTables$Bytes;", true)
def jt_Registry : Nat → FieldType := fun k => match k with
  | 0 => (.object "SchemaTables$Disk")
  | _ => (.object "SchemaTables$Bytes")
theorem jn_Registry : ∀ a, a < 2 → ∀ b, b < 2 → a ≠ b → (jT_Registry a).2.1 ≠ (jT_Registry b).2.1 := by decide +kernel
theorem jt_Registry_ok : ∀ k, k < 2 → parseFieldDescriptor (jT_Registry k).2.2.1 = some (jt_Registry k) := by decide +kernel
def jT_Resolver : u_T := fun k => match k with
  | _ => ("", "", "", false)
def jt_Resolver : Nat → FieldType := fun k => match k with
  | _ => .int
theorem jn_Resolver : ∀ a, a < 0 → ∀ b, b < 0 → a ≠ b → (jT_Resolver a).2.1 ≠ (jT_Resolver b).2.1 := by decide +kernel
theorem jt_Resolver_ok : ∀ k, k < 0 → parseFieldDescriptor (jT_Resolver k).2.2.1 = some (jt_Resolver k) := by decide +kernel
def jT_Row : u_T := fun k => match k with
  | 0 => ("SchemaTables$Row", "numbers", "[J", true)
  | _ => ("SchemaTables$Row", "size", "I", false)
def jt_Row : Nat → FieldType := fun k => match k with
  | 0 => (.array .long)
  | _ => .int
theorem jn_Row : ∀ a, a < 2 → ∀ b, b < 2 → a ≠ b → (jT_Row a).2.1 ≠ (jT_Row b).2.1 := by decide +kernel
theorem jt_Row_ok : ∀ k, k < 2 → parseFieldDescriptor (jT_Row k).2.2.1 = some (jt_Row k) := by decide +kernel
def jT_Schema : u_T := fun k => match k with
  | 0 => ("SchemaTables$Schema", "kind", "I", true)
  | 1 => ("SchemaTables$Schema", "name", "I", true)
  | 2 => ("SchemaTables$Schema", "symbols", "I", true)
  | 3 => ("SchemaTables$Schema", "otherSymbol", "I", true)
  | 4 => ("SchemaTables$Schema", "first", "LSchemaTables$Schema;", true)
  | 5 => ("SchemaTables$Schema", "second", "LSchemaTables$Schema;", true)
  | 6 => ("SchemaTables$Schema", "fields", "[LSchemaTables$Field;", true)
  | _ => ("SchemaTables$Schema", "depth", "I", true)
def jt_Schema : Nat → FieldType := fun k => match k with
  | 0 => .int
  | 1 => .int
  | 2 => .int
  | 3 => .int
  | 4 => (.object "SchemaTables$Schema")
  | 5 => (.object "SchemaTables$Schema")
  | 6 => (.array (.object "SchemaTables$Field"))
  | _ => .int
theorem jn_Schema : ∀ a, a < 8 → ∀ b, b < 8 → a ≠ b → (jT_Schema a).2.1 ≠ (jT_Schema b).2.1 := by decide +kernel
theorem jt_Schema_ok : ∀ k, k < 8 → parseFieldDescriptor (jT_Schema k).2.2.1 = some (jt_Schema k) := by decide +kernel
def jT_Schemas : u_T := fun k => match k with
  | 0 => ("SchemaTables$Schemas", "known", "[LSchemaTables$Schema;", true)
  | 1 => ("SchemaTables$Schemas", "pending", "[LSchemaTables$Field;", true)
  | 2 => ("SchemaTables$Schemas", "knownCount", "I", false)
  | _ => ("SchemaTables$Schemas", "pendingCount", "I", false)
def jt_Schemas : Nat → FieldType := fun k => match k with
  | 0 => (.array (.object "SchemaTables$Schema"))
  | 1 => (.array (.object "SchemaTables$Field"))
  | 2 => .int
  | _ => .int
theorem jn_Schemas : ∀ a, a < 4 → ∀ b, b < 4 → a ≠ b → (jT_Schemas a).2.1 ≠ (jT_Schemas b).2.1 := by decide +kernel
theorem jt_Schemas_ok : ∀ k, k < 4 → parseFieldDescriptor (jT_Schemas k).2.2.1 = some (jt_Schemas k) := by decide +kernel
def jT_Staging : u_T := fun k => match k with
  | 0 => ("SchemaTables$Staging", "coded", "LSchemaTables$Bytes;", true)
  | 1 => ("SchemaTables$Staging", "schema", "I", false)
  | _ => ("SchemaTables$Staging", "count", "I", false)
def jt_Staging : Nat → FieldType := fun k => match k with
  | 0 => (.object "SchemaTables$Bytes")
  | 1 => .int
  | _ => .int
theorem jn_Staging : ∀ a, a < 3 → ∀ b, b < 3 → a ≠ b → (jT_Staging a).2.1 ≠ (jT_Staging b).2.1 := by decide +kernel
theorem jt_Staging_ok : ∀ k, k < 3 → parseFieldDescriptor (jT_Staging k).2.2.1 = some (jt_Staging k) := by decide +kernel
abbrev classes : List vw_C := [("SchemaTables", jT_ST, 8), ("SchemaTablesModel", jT_Mo, 36), ("SchemaTables$Bytes", jT_Bytes, 2), ("SchemaTables$Coder", jT_Coder, 0), ("SchemaTables$Disk", jT_Disk, 4), ("SchemaTables$Field", jT_Field, 4), ("SchemaTables$Manifest", jT_Manifest, 3), ("SchemaTables$Registry", jT_Registry, 2), ("SchemaTables$Resolver", jT_Resolver, 0), ("SchemaTables$Row", jT_Row, 2), ("SchemaTables$Schema", jT_Schema, 8), ("SchemaTables$Schemas", jT_Schemas, 4), ("SchemaTables$Staging", jT_Staging, 3)]
def zT : List FieldType := [.int, .boolean, .long, (.object "SchemaTables$Schema"), (.object "SchemaTables$Field")]
def jM_ST_init : MethodName × ByteArray × Nat × Option FieldType := (⟨"SchemaTables", "<init>", "()V"⟩, prog_1_method_1_code, 2, none)
def jM_ST_field : MethodName × ByteArray × Nat × Option FieldType := (⟨"SchemaTables", "field", "(IIZJ)I"⟩, prog_1_method_2_code, 6, (some .int))
def jM_ST_make : MethodName × ByteArray × Nat × Option FieldType := (⟨"SchemaTables", "make", "(IIII)I"⟩, prog_1_method_3_code, 5, (some .int))
def jM_ST_canRead : MethodName × ByteArray × Nat × Option FieldType := (⟨"SchemaTables", "canRead", "(II)Z"⟩, prog_1_method_4_code, 5, (some .boolean))
def jM_ST_register : MethodName × ByteArray × Nat × Option FieldType := (⟨"SchemaTables", "register", "(II)I"⟩, prog_1_method_5_code, 5, (some .int))
def jM_ST_versions : MethodName × ByteArray × Nat × Option FieldType := (⟨"SchemaTables", "versions", "(I)I"⟩, prog_1_method_6_code, 2, (some .int))
def jM_ST_version : MethodName × ByteArray × Nat × Option FieldType := (⟨"SchemaTables", "version", "(II)I"⟩, prog_1_method_7_code, 3, (some .int))
def jM_ST_give : MethodName × ByteArray × Nat × Option FieldType := (⟨"SchemaTables", "give", "(J)I"⟩, prog_1_method_8_code, 3, (some .int))
def jM_ST_stage : MethodName × ByteArray × Nat × Option FieldType := (⟨"SchemaTables", "stage", "(I)I"⟩, prog_1_method_9_code, 4, (some .int))
def jM_ST_drop : MethodName × ByteArray × Nat × Option FieldType := (⟨"SchemaTables", "drop", "()I"⟩, prog_1_method_10_code, 1, (some .int))
def jM_ST_load : MethodName × ByteArray × Nat × Option FieldType := (⟨"SchemaTables", "load", "(I)I"⟩, prog_1_method_11_code, 3, (some .int))
def jM_ST_compact : MethodName × ByteArray × Nat × Option FieldType := (⟨"SchemaTables", "compact", "(I)I"⟩, prog_1_method_12_code, 5, (some .int))
def jM_ST_read : MethodName × ByteArray × Nat × Option FieldType := (⟨"SchemaTables", "read", "(III)I"⟩, prog_1_method_13_code, 7, (some .int))
def jM_ST_number : MethodName × ByteArray × Nat × Option FieldType := (⟨"SchemaTables", "number", "(I)J"⟩, prog_1_method_14_code, 2, (some .long))
def jM_ST_records : MethodName × ByteArray × Nat × Option FieldType := (⟨"SchemaTables", "records", "(I)I"⟩, prog_1_method_15_code, 2, (some .int))
def jM_ST_files : MethodName × ByteArray × Nat × Option FieldType := (⟨"SchemaTables", "files", "(I)I"⟩, prog_1_method_16_code, 2, (some .int))
def jM_ST_octet : MethodName × ByteArray × Nat × Option FieldType := (⟨"SchemaTables", "octet", "(II)I"⟩, prog_1_method_17_code, 3, (some .int))
def jM_ST_limit : MethodName × ByteArray × Nat × Option FieldType := (⟨"SchemaTables", "limit", "(I)I"⟩, prog_1_method_18_code, 2, (some .int))
def jM_ST_restart : MethodName × ByteArray × Nat × Option FieldType := (⟨"SchemaTables", "restart", "()Z"⟩, prog_1_method_19_code, 2, (some .boolean))
def jM_ST_writes : MethodName × ByteArray × Nat × Option FieldType := (⟨"SchemaTables", "writes", "()I"⟩, prog_1_method_20_code, 1, (some .int))
def jM_ST_isSubject : MethodName × ByteArray × Nat × Option FieldType := (⟨"SchemaTables", "isSubject", "(I)Z"⟩, prog_1_method_21_code, 1, (some .boolean))
def jM_ST_readsVersions : MethodName × ByteArray × Nat × Option FieldType := (⟨"SchemaTables", "readsVersions", "(LSchemaTables$Schema;I)Z"⟩, prog_1_method_22_code, 6, (some .boolean))
def jM_ST_goDown : MethodName × ByteArray × Nat × Option FieldType := (⟨"SchemaTables", "goDown", "()I"⟩, prog_1_method_23_code, 1, (some .int))
def jM_Mo_init : MethodName × ByteArray × Nat × Option FieldType := (⟨"SchemaTablesModel", "<init>", "()V"⟩, prog_14_method_1_code, 1, none)
def jM_Mo_noSchema : MethodName × ByteArray × Nat × Option FieldType := (⟨"SchemaTablesModel", "noSchema", "(I)Z"⟩, prog_14_method_2_code, 2, (some .boolean))
def jM_Mo_noName : MethodName × ByteArray × Nat × Option FieldType := (⟨"SchemaTablesModel", "noName", "(I)Z"⟩, prog_14_method_3_code, 1, (some .boolean))
def jM_Mo_isDefault : MethodName × ByteArray × Nat × Option FieldType := (⟨"SchemaTablesModel", "isDefault", "(IJ)Z"⟩, prog_14_method_4_code, 6, (some .boolean))
def jM_Mo_scalar : MethodName × ByteArray × Nat × Option FieldType := (⟨"SchemaTablesModel", "scalar", "(IJ)Z"⟩, prog_14_method_5_code, 5, (some .boolean))
def jM_Mo_field : MethodName × ByteArray × Nat × Option FieldType := (⟨"SchemaTablesModel", "field", "(IIZJ)I"⟩, prog_14_method_6_code, 7, (some .int))
def jM_Mo_badUnion : MethodName × ByteArray × Nat × Option FieldType := (⟨"SchemaTablesModel", "badUnion", "(II)Z"⟩, prog_14_method_7_code, 4, (some .boolean))
def jM_Mo_badEnum : MethodName × ByteArray × Nat × Option FieldType := (⟨"SchemaTablesModel", "badEnum", "(III)Z"⟩, prog_14_method_8_code, 4, (some .boolean))
def jM_Mo_make : MethodName × ByteArray × Nat × Option FieldType := (⟨"SchemaTablesModel", "make", "(IIII)I"⟩, prog_14_method_9_code, 8, (some .int))
def jM_Mo_compare : MethodName × ByteArray × Nat × Option FieldType := (⟨"SchemaTablesModel", "compare", "(II)V"⟩, prog_14_method_10_code, 7, none)
def jM_Mo_branch : MethodName × ByteArray × Nat × Option FieldType := (⟨"SchemaTablesModel", "branch", "(II)I"⟩, prog_14_method_11_code, 3, (some .int))
def jM_Mo_branchSchema : MethodName × ByteArray × Nat × Option FieldType := (⟨"SchemaTablesModel", "branchSchema", "(II)I"⟩, prog_14_method_12_code, 3, (some .int))
def jM_Mo_fieldOf : MethodName × ByteArray × Nat × Option FieldType := (⟨"SchemaTablesModel", "fieldOf", "(II)I"⟩, prog_14_method_13_code, 4, (some .int))
def jM_Mo_inside : MethodName × ByteArray × Nat × Option FieldType := (⟨"SchemaTablesModel", "inside", "(II)Z"⟩, prog_14_method_14_code, 6, (some .boolean))
def jM_Mo_canRead : MethodName × ByteArray × Nat × Option FieldType := (⟨"SchemaTablesModel", "canRead", "(II)Z"⟩, prog_14_method_15_code, 3, (some .boolean))
def jM_Mo_fieldsCome : MethodName × ByteArray × Nat × Option FieldType := (⟨"SchemaTablesModel", "fieldsCome", "(II)I"⟩, prog_14_method_16_code, 5, (some .int))
def jM_Mo_span : MethodName × ByteArray × Nat × Option FieldType := (⟨"SchemaTablesModel", "span", "(III)I"⟩, prog_14_method_17_code, 11, (some .int))
def jM_Mo_putByte : MethodName × ByteArray × Nat × Option FieldType := (⟨"SchemaTablesModel", "putByte", "(I)V"⟩, prog_14_method_18_code, 2, none)
def jM_Mo_putVarint : MethodName × ByteArray × Nat × Option FieldType := (⟨"SchemaTablesModel", "putVarint", "(J)V"⟩, prog_14_method_19_code, 5, none)
def jM_Mo_encode : MethodName × ByteArray × Nat × Option FieldType := (⟨"SchemaTablesModel", "encode", "(I)V"⟩, prog_14_method_20_code, 9, none)
def jM_Mo_below : MethodName × ByteArray × Nat × Option FieldType := (⟨"SchemaTablesModel", "below", "(II)I"⟩, prog_14_method_21_code, 4, (some .int))
def jM_Mo_symbol : MethodName × ByteArray × Nat × Option FieldType := (⟨"SchemaTablesModel", "symbol", "(II)I"⟩, prog_14_method_22_code, 3, (some .int))
def jM_Mo_varint : MethodName × ByteArray × Nat × Option FieldType := (⟨"SchemaTablesModel", "varint", "()J"⟩, prog_14_method_23_code, 5, (some .long))
def jM_Mo_decode : MethodName × ByteArray × Nat × Option FieldType := (⟨"SchemaTablesModel", "decode", "(I)I"⟩, prog_14_method_24_code, 9, (some .int))
def jM_Mo_write : MethodName × ByteArray × Nat × Option FieldType := (⟨"SchemaTablesModel", "write", "(I)Z"⟩, prog_14_method_26_code, 3, (some .boolean))
def jM_Mo_writeFile : MethodName × ByteArray × Nat × Option FieldType := (⟨"SchemaTablesModel", "writeFile", "(I)Z"⟩, prog_14_method_27_code, 4, (some .boolean))
def jM_Mo_fileSubject : MethodName × ByteArray × Nat × Option FieldType := (⟨"SchemaTablesModel", "fileSubject", "(I)I"⟩, prog_14_method_28_code, 2, (some .int))
def jM_Mo_fileAt : MethodName × ByteArray × Nat × Option FieldType := (⟨"SchemaTablesModel", "fileAt", "(I)I"⟩, prog_14_method_29_code, 2, (some .int))
def jM_Mo_fileSchema : MethodName × ByteArray × Nat × Option FieldType := (⟨"SchemaTablesModel", "fileSchema", "(I)I"⟩, prog_14_method_30_code, 2, (some .int))
def jM_Mo_fileRecords : MethodName × ByteArray × Nat × Option FieldType := (⟨"SchemaTablesModel", "fileRecords", "(I)I"⟩, prog_14_method_31_code, 2, (some .int))
def jM_Mo_fileBytes : MethodName × ByteArray × Nat × Option FieldType := (⟨"SchemaTablesModel", "fileBytes", "(I)I"⟩, prog_14_method_32_code, 2, (some .int))
def jM_Mo_used : MethodName × ByteArray × Nat × Option FieldType := (⟨"SchemaTablesModel", "used", "(I)Z"⟩, prog_14_method_33_code, 4, (some .boolean))
def jM_Mo_room : MethodName × ByteArray × Nat × Option FieldType := (⟨"SchemaTablesModel", "room", "(I)I"⟩, prog_14_method_34_code, 5, (some .int))
def jM_Mo_head : MethodName × ByteArray × Nat × Option FieldType := (⟨"SchemaTablesModel", "head", "(III)V"⟩, prog_14_method_35_code, 4, none)
def jM_Mo_check : MethodName × ByteArray × Nat × Option FieldType := (⟨"SchemaTablesModel", "check", "()V"⟩, prog_14_method_36_code, 3, none)
def jM_Mo_oldManifest : MethodName × ByteArray × Nat × Option FieldType := (⟨"SchemaTablesModel", "oldManifest", "()V"⟩, prog_14_method_37_code, 2, none)
def jM_Mo_noSubject : MethodName × ByteArray × Nat × Option FieldType := (⟨"SchemaTablesModel", "noSubject", "(I)Z"⟩, prog_14_method_38_code, 1, (some .boolean))
def jM_Mo_registered : MethodName × ByteArray × Nat × Option FieldType := (⟨"SchemaTablesModel", "registered", "(II)Z"⟩, prog_14_method_39_code, 5, (some .boolean))
def jM_Mo_register : MethodName × ByteArray × Nat × Option FieldType := (⟨"SchemaTablesModel", "register", "(II)I"⟩, prog_14_method_40_code, 5, (some .int))
def jM_Mo_versions : MethodName × ByteArray × Nat × Option FieldType := (⟨"SchemaTablesModel", "versions", "(I)I"⟩, prog_14_method_41_code, 4, (some .int))
def jM_Mo_version : MethodName × ByteArray × Nat × Option FieldType := (⟨"SchemaTablesModel", "version", "(II)I"⟩, prog_14_method_42_code, 5, (some .int))
def jM_Mo_give : MethodName × ByteArray × Nat × Option FieldType := (⟨"SchemaTablesModel", "give", "(J)I"⟩, prog_14_method_43_code, 3, (some .int))
def jM_Mo_stage : MethodName × ByteArray × Nat × Option FieldType := (⟨"SchemaTablesModel", "stage", "(I)I"⟩, prog_14_method_44_code, 3, (some .int))
def jM_Mo_drop : MethodName × ByteArray × Nat × Option FieldType := (⟨"SchemaTablesModel", "drop", "()I"⟩, prog_14_method_45_code, 1, (some .int))
def jM_Mo_load : MethodName × ByteArray × Nat × Option FieldType := (⟨"SchemaTablesModel", "load", "(I)I"⟩, prog_14_method_46_code, 5, (some .int))
def jM_Mo_behind : MethodName × ByteArray × Nat × Option FieldType := (⟨"SchemaTablesModel", "behind", "(I)I"⟩, prog_14_method_47_code, 3, (some .int))
def jM_Mo_joins : MethodName × ByteArray × Nat × Option FieldType := (⟨"SchemaTablesModel", "joins", "(II)Z"⟩, prog_14_method_48_code, 3, (some .boolean))
def jM_Mo_compact : MethodName × ByteArray × Nat × Option FieldType := (⟨"SchemaTablesModel", "compact", "(I)I"⟩, prog_14_method_49_code, 7, (some .int))
def jM_Mo_records : MethodName × ByteArray × Nat × Option FieldType := (⟨"SchemaTablesModel", "records", "(I)I"⟩, prog_14_method_50_code, 4, (some .int))
def jM_Mo_files : MethodName × ByteArray × Nat × Option FieldType := (⟨"SchemaTablesModel", "files", "(I)I"⟩, prog_14_method_51_code, 4, (some .int))
def jM_Mo_fetch : MethodName × ByteArray × Nat × Option FieldType := (⟨"SchemaTablesModel", "fetch", "(II)I"⟩, prog_14_method_52_code, 8, (some .int))
def jM_Mo_read : MethodName × ByteArray × Nat × Option FieldType := (⟨"SchemaTablesModel", "read", "(III)I"⟩, prog_14_method_53_code, 6, (some .int))
def jM_Mo_add : MethodName × ByteArray × Nat × Option FieldType := (⟨"SchemaTablesModel", "add", "(III)V"⟩, prog_14_method_54_code, 4, none)
def jM_Mo_give1 : MethodName × ByteArray × Nat × Option FieldType := (⟨"SchemaTablesModel", "give1", "(J)V"⟩, prog_14_method_55_code, 3, none)
def jM_Mo_resolve : MethodName × ByteArray × Nat × Option FieldType := (⟨"SchemaTablesModel", "resolve", "(II)I"⟩, prog_14_method_56_code, 6, (some .int))
def jM_Mo_defaults : MethodName × ByteArray × Nat × Option FieldType := (⟨"SchemaTablesModel", "defaults", "(I)V"⟩, prog_14_method_57_code, 3, none)
def jM_Mo_part : MethodName × ByteArray × Nat × Option FieldType := (⟨"SchemaTablesModel", "part", "(III)Z"⟩, prog_14_method_58_code, 5, (some .boolean))
def jM_Mo_symbolOf : MethodName × ByteArray × Nat × Option FieldType := (⟨"SchemaTablesModel", "symbolOf", "(II)Z"⟩, prog_14_method_59_code, 4, (some .boolean))
def jM_Mo_items : MethodName × ByteArray × Nat × Option FieldType := (⟨"SchemaTablesModel", "items", "(III)V"⟩, prog_14_method_60_code, 8, none)
def jM_Mo_placeOf : MethodName × ByteArray × Nat × Option FieldType := (⟨"SchemaTablesModel", "placeOf", "(III)I"⟩, prog_14_method_61_code, 6, (some .int))
def jM_Mo_ofRecord : MethodName × ByteArray × Nat × Option FieldType := (⟨"SchemaTablesModel", "ofRecord", "(III)Z"⟩, prog_14_method_62_code, 7, (some .boolean))
def jM_Mo_number : MethodName × ByteArray × Nat × Option FieldType := (⟨"SchemaTablesModel", "number", "(I)J"⟩, prog_14_method_63_code, 2, (some .long))
def jM_Mo_octet : MethodName × ByteArray × Nat × Option FieldType := (⟨"SchemaTablesModel", "octet", "(II)I"⟩, prog_14_method_64_code, 3, (some .int))
def jM_Mo_limit : MethodName × ByteArray × Nat × Option FieldType := (⟨"SchemaTablesModel", "limit", "(I)I"⟩, prog_14_method_65_code, 2, (some .int))
def jM_Mo_restart : MethodName × ByteArray × Nat × Option FieldType := (⟨"SchemaTablesModel", "restart", "()Z"⟩, prog_14_method_66_code, 1, (some .boolean))
def jM_Mo_writes : MethodName × ByteArray × Nat × Option FieldType := (⟨"SchemaTablesModel", "writes", "()I"⟩, prog_14_method_67_code, 1, (some .int))
def jM_Bytes_init : MethodName × ByteArray × Nat × Option FieldType := (⟨"SchemaTables$Bytes", "<init>", "(I)V"⟩, prog_2_method_1_code, 2, none)
def jM_Bytes_append : MethodName × ByteArray × Nat × Option FieldType := (⟨"SchemaTables$Bytes", "append", "(I)V"⟩, prog_2_method_2_code, 2, none)
def jM_Bytes_appendVarint : MethodName × ByteArray × Nat × Option FieldType := (⟨"SchemaTables$Bytes", "appendVarint", "(J)V"⟩, prog_2_method_3_code, 6, none)
def jM_Bytes_at : MethodName × ByteArray × Nat × Option FieldType := (⟨"SchemaTables$Bytes", "at", "(I)I"⟩, prog_2_method_4_code, 2, (some .int))
def jM_Bytes_cutTo : MethodName × ByteArray × Nat × Option FieldType := (⟨"SchemaTables$Bytes", "cutTo", "(I)V"⟩, prog_2_method_5_code, 2, none)
def jM_Bytes_sum : MethodName × ByteArray × Nat × Option FieldType := (⟨"SchemaTables$Bytes", "sum", "()I"⟩, prog_2_method_6_code, 3, (some .int))
def jM_Coder_encode : MethodName × ByteArray × Nat × Option FieldType := (⟨"SchemaTables$Coder", "encode", "(LSchemaTables$Schema;LSchemaTables$Row;ILSchemaTables$Bytes;)I"⟩, prog_3_method_2_code, 6, (some .int))
def jM_Coder_encodeNumber : MethodName × ByteArray × Nat × Option FieldType := (⟨"SchemaTables$Coder", "encodeNumber", "(LSchemaTables$Schema;JLSchemaTables$Bytes;)V"⟩, prog_3_method_3_code, 4, none)
def jM_Coder_encodeItems : MethodName × ByteArray × Nat × Option FieldType := (⟨"SchemaTables$Coder", "encodeItems", "(LSchemaTables$Schema;LSchemaTables$Row;ILSchemaTables$Bytes;)I"⟩, prog_3_method_4_code, 8, (some .int))
def jM_Coder_encodeFields : MethodName × ByteArray × Nat × Option FieldType := (⟨"SchemaTables$Coder", "encodeFields", "(LSchemaTables$Schema;LSchemaTables$Row;ILSchemaTables$Bytes;)I"⟩, prog_3_method_5_code, 6, (some .int))
def jM_Coder_decode : MethodName × ByteArray × Nat × Option FieldType := (⟨"SchemaTables$Coder", "decode", "(LSchemaTables$Schema;LSchemaTables$Disk;ILSchemaTables$Row;)I"⟩, prog_3_method_6_code, 6, (some .int))
def jM_Coder_decodeItems : MethodName × ByteArray × Nat × Option FieldType := (⟨"SchemaTables$Coder", "decodeItems", "(LSchemaTables$Schema;LSchemaTables$Disk;ILSchemaTables$Row;)I"⟩, prog_3_method_7_code, 8, (some .int))
def jM_Coder_decodeFields : MethodName × ByteArray × Nat × Option FieldType := (⟨"SchemaTables$Coder", "decodeFields", "(LSchemaTables$Schema;LSchemaTables$Disk;ILSchemaTables$Row;)I"⟩, prog_3_method_8_code, 6, (some .int))
def jM_Coder_varintAt : MethodName × ByteArray × Nat × Option FieldType := (⟨"SchemaTables$Coder", "varintAt", "(LSchemaTables$Disk;I)J"⟩, prog_3_method_9_code, 6, (some .long))
def jM_Coder_behindVarint : MethodName × ByteArray × Nat × Option FieldType := (⟨"SchemaTables$Coder", "behindVarint", "(LSchemaTables$Disk;I)I"⟩, prog_3_method_10_code, 4, (some .int))
def jM_Disk_init : MethodName × ByteArray × Nat × Option FieldType := (⟨"SchemaTables$Disk", "<init>", "()V"⟩, prog_4_method_1_code, 1, none)
def jM_Disk_startOf : MethodName × ByteArray × Nat × Option FieldType := (⟨"SchemaTables$Disk", "startOf", "(I)I"⟩, prog_4_method_2_code, 1, (some .int))
def jM_Disk_blocksFor : MethodName × ByteArray × Nat × Option FieldType := (⟨"SchemaTables$Disk", "blocksFor", "(I)I"⟩, prog_4_method_3_code, 1, (some .int))
def jM_Disk_at : MethodName × ByteArray × Nat × Option FieldType := (⟨"SchemaTables$Disk", "at", "(I)I"⟩, prog_4_method_4_code, 2, (some .int))
def jM_Disk_set : MethodName × ByteArray × Nat × Option FieldType := (⟨"SchemaTables$Disk", "set", "(II)V"⟩, prog_4_method_5_code, 3, none)
def jM_Disk_put : MethodName × ByteArray × Nat × Option FieldType := (⟨"SchemaTables$Disk", "put", "(ILSchemaTables$Bytes;I)Z"⟩, prog_4_method_6_code, 5, (some .boolean))
def jM_Disk_putAll : MethodName × ByteArray × Nat × Option FieldType := (⟨"SchemaTables$Disk", "putAll", "(ILSchemaTables$Bytes;)Z"⟩, prog_4_method_7_code, 5, (some .boolean))
def jM_Field_init : MethodName × ByteArray × Nat × Option FieldType := (⟨"SchemaTables$Field", "<init>", "(ILSchemaTables$Schema;ZJ)V"⟩, prog_5_method_1_code, 6, none)
def jM_Manifest_init : MethodName × ByteArray × Nat × Option FieldType := (⟨"SchemaTables$Manifest", "<init>", "(LSchemaTables$Disk;)V"⟩, prog_6_method_1_code, 2, none)
def jM_Manifest_isFull : MethodName × ByteArray × Nat × Option FieldType := (⟨"SchemaTables$Manifest", "isFull", "()Z"⟩, prog_6_method_2_code, 1, (some .boolean))
def jM_Manifest_filesOf : MethodName × ByteArray × Nat × Option FieldType := (⟨"SchemaTables$Manifest", "filesOf", "(I)I"⟩, prog_6_method_3_code, 5, (some .int))
def jM_Manifest_recordsOf : MethodName × ByteArray × Nat × Option FieldType := (⟨"SchemaTables$Manifest", "recordsOf", "(I)I"⟩, prog_6_method_4_code, 5, (some .int))
def jM_Manifest_nextFile : MethodName × ByteArray × Nat × Option FieldType := (⟨"SchemaTables$Manifest", "nextFile", "(II)I"⟩, prog_6_method_5_code, 5, (some .int))
def jM_Manifest_firstToJoin : MethodName × ByteArray × Nat × Option FieldType := (⟨"SchemaTables$Manifest", "firstToJoin", "(I)I"⟩, prog_6_method_6_code, 5, (some .int))
def jM_Manifest_canJoin : MethodName × ByteArray × Nat × Option FieldType := (⟨"SchemaTables$Manifest", "canJoin", "(II)Z"⟩, prog_6_method_7_code, 3, (some .boolean))
def jM_Manifest_fetch : MethodName × ByteArray × Nat × Option FieldType := (⟨"SchemaTables$Manifest", "fetch", "(IILSchemaTables$Schemas;LSchemaTables$Row;)LSchemaTables$Schema;"⟩, prog_6_method_8_code, 9, (some (.object "SchemaTables$Schema")))
def jM_Manifest_decodeRecord : MethodName × ByteArray × Nat × Option FieldType := (⟨"SchemaTables$Manifest", "decodeRecord", "(IILSchemaTables$Schema;LSchemaTables$Row;)V"⟩, prog_6_method_9_code, 7, none)
def jM_Manifest_draftStaged : MethodName × ByteArray × Nat × Option FieldType := (⟨"SchemaTables$Manifest", "draftStaged", "(LSchemaTables$Staging;)V"⟩, prog_6_method_10_code, 3, none)
def jM_Manifest_draftJoined : MethodName × ByteArray × Nat × Option FieldType := (⟨"SchemaTables$Manifest", "draftJoined", "(II)V"⟩, prog_6_method_11_code, 4, none)
def jM_Manifest_draftHead : MethodName × ByteArray × Nat × Option FieldType := (⟨"SchemaTables$Manifest", "draftHead", "(III)V"⟩, prog_6_method_12_code, 4, none)
def jM_Manifest_draftRecordsOf : MethodName × ByteArray × Nat × Option FieldType := (⟨"SchemaTables$Manifest", "draftRecordsOf", "(I)V"⟩, prog_6_method_13_code, 5, none)
def jM_Manifest_placeOfDraft : MethodName × ByteArray × Nat × Option FieldType := (⟨"SchemaTables$Manifest", "placeOfDraft", "()I"⟩, prog_6_method_14_code, 4, (some .int))
def jM_Manifest_isFree : MethodName × ByteArray × Nat × Option FieldType := (⟨"SchemaTables$Manifest", "isFree", "(I)Z"⟩, prog_6_method_15_code, 4, (some .boolean))
def jM_Manifest_commitNew : MethodName × ByteArray × Nat × Option FieldType := (⟨"SchemaTables$Manifest", "commitNew", "(II)Z"⟩, prog_6_method_16_code, 5, (some .boolean))
def jM_Manifest_commitJoined : MethodName × ByteArray × Nat × Option FieldType := (⟨"SchemaTables$Manifest", "commitJoined", "(III)Z"⟩, prog_6_method_17_code, 6, (some .boolean))
def jM_Manifest_draftEntry : MethodName × ByteArray × Nat × Option FieldType := (⟨"SchemaTables$Manifest", "draftEntry", "(III)V"⟩, prog_6_method_18_code, 4, none)
def jM_Manifest_entries : MethodName × ByteArray × Nat × Option FieldType := (⟨"SchemaTables$Manifest", "entries", "()I"⟩, prog_6_method_19_code, 1, (some .int))
def jM_Manifest_entryByte : MethodName × ByteArray × Nat × Option FieldType := (⟨"SchemaTables$Manifest", "entryByte", "(II)I"⟩, prog_6_method_20_code, 3, (some .int))
def jM_Manifest_subjectOf : MethodName × ByteArray × Nat × Option FieldType := (⟨"SchemaTables$Manifest", "subjectOf", "(I)I"⟩, prog_6_method_21_code, 2, (some .int))
def jM_Manifest_firstBlockOf : MethodName × ByteArray × Nat × Option FieldType := (⟨"SchemaTables$Manifest", "firstBlockOf", "(I)I"⟩, prog_6_method_22_code, 2, (some .int))
def jM_Manifest_blocksOf : MethodName × ByteArray × Nat × Option FieldType := (⟨"SchemaTables$Manifest", "blocksOf", "(I)I"⟩, prog_6_method_23_code, 2, (some .int))
def jM_Manifest_startOfFile : MethodName × ByteArray × Nat × Option FieldType := (⟨"SchemaTables$Manifest", "startOfFile", "(I)I"⟩, prog_6_method_24_code, 2, (some .int))
def jM_Manifest_schemaOf : MethodName × ByteArray × Nat × Option FieldType := (⟨"SchemaTables$Manifest", "schemaOf", "(I)I"⟩, prog_6_method_25_code, 2, (some .int))
def jM_Manifest_recordsIn : MethodName × ByteArray × Nat × Option FieldType := (⟨"SchemaTables$Manifest", "recordsIn", "(I)I"⟩, prog_6_method_26_code, 2, (some .int))
def jM_Manifest_bytesIn : MethodName × ByteArray × Nat × Option FieldType := (⟨"SchemaTables$Manifest", "bytesIn", "(I)I"⟩, prog_6_method_27_code, 2, (some .int))
def jM_Registry_init : MethodName × ByteArray × Nat × Option FieldType := (⟨"SchemaTables$Registry", "<init>", "(LSchemaTables$Disk;)V"⟩, prog_7_method_1_code, 2, none)
def jM_Registry_isFull : MethodName × ByteArray × Nat × Option FieldType := (⟨"SchemaTables$Registry", "isFull", "()Z"⟩, prog_7_method_2_code, 1, (some .boolean))
def jM_Registry_has : MethodName × ByteArray × Nat × Option FieldType := (⟨"SchemaTables$Registry", "has", "(II)Z"⟩, prog_7_method_3_code, 5, (some .boolean))
def jM_Registry_countOf : MethodName × ByteArray × Nat × Option FieldType := (⟨"SchemaTables$Registry", "countOf", "(I)I"⟩, prog_7_method_4_code, 5, (some .int))
def jM_Registry_schemaOf : MethodName × ByteArray × Nat × Option FieldType := (⟨"SchemaTables$Registry", "schemaOf", "(II)I"⟩, prog_7_method_5_code, 6, (some .int))
def jM_Registry_append : MethodName × ByteArray × Nat × Option FieldType := (⟨"SchemaTables$Registry", "append", "(II)Z"⟩, prog_7_method_6_code, 5, (some .boolean))
def jM_Registry_entries : MethodName × ByteArray × Nat × Option FieldType := (⟨"SchemaTables$Registry", "entries", "()I"⟩, prog_7_method_7_code, 1, (some .int))
def jM_Registry_entryByte : MethodName × ByteArray × Nat × Option FieldType := (⟨"SchemaTables$Registry", "entryByte", "(II)I"⟩, prog_7_method_8_code, 3, (some .int))
def jM_Resolver_resolve : MethodName × ByteArray × Nat × Option FieldType := (⟨"SchemaTables$Resolver", "resolve", "(LSchemaTables$Schema;LSchemaTables$Schema;LSchemaTables$Row;ILSchemaTables$Row;)Z"⟩, prog_8_method_2_code, 5, (some .boolean))
def jM_Resolver_resolveIntoUnion : MethodName × ByteArray × Nat × Option FieldType := (⟨"SchemaTables$Resolver", "resolveIntoUnion", "(LSchemaTables$Schema;LSchemaTables$Schema;LSchemaTables$Row;ILSchemaTables$Row;)Z"⟩, prog_8_method_3_code, 6, (some .boolean))
def jM_Resolver_resolveSymbol : MethodName × ByteArray × Nat × Option FieldType := (⟨"SchemaTables$Resolver", "resolveSymbol", "(LSchemaTables$Schema;LSchemaTables$Schema;JLSchemaTables$Row;)Z"⟩, prog_8_method_4_code, 6, (some .boolean))
def jM_Resolver_resolveItems : MethodName × ByteArray × Nat × Option FieldType := (⟨"SchemaTables$Resolver", "resolveItems", "(LSchemaTables$Schema;LSchemaTables$Schema;LSchemaTables$Row;ILSchemaTables$Row;)Z"⟩, prog_8_method_5_code, 9, (some .boolean))
def jM_Resolver_resolveFields : MethodName × ByteArray × Nat × Option FieldType := (⟨"SchemaTables$Resolver", "resolveFields", "(LSchemaTables$Schema;LSchemaTables$Schema;LSchemaTables$Row;ILSchemaTables$Row;)Z"⟩, prog_8_method_6_code, 6, (some .boolean))
def jM_Resolver_resolveField : MethodName × ByteArray × Nat × Option FieldType := (⟨"SchemaTables$Resolver", "resolveField", "(LSchemaTables$Schema;LSchemaTables$Field;LSchemaTables$Row;ILSchemaTables$Row;)Z"⟩, prog_8_method_7_code, 8, (some .boolean))
def jM_Resolver_appendDefault : MethodName × ByteArray × Nat × Option FieldType := (⟨"SchemaTables$Resolver", "appendDefault", "(LSchemaTables$Schema;JLSchemaTables$Row;)V"⟩, prog_8_method_8_code, 4, none)
def jM_Resolver_behind : MethodName × ByteArray × Nat × Option FieldType := (⟨"SchemaTables$Resolver", "behind", "(LSchemaTables$Schema;LSchemaTables$Row;I)I"⟩, prog_8_method_9_code, 3, (some .int))
def jM_Resolver_behindItems : MethodName × ByteArray × Nat × Option FieldType := (⟨"SchemaTables$Resolver", "behindItems", "(LSchemaTables$Schema;LSchemaTables$Row;I)I"⟩, prog_8_method_10_code, 7, (some .int))
def jM_Resolver_behindFields : MethodName × ByteArray × Nat × Option FieldType := (⟨"SchemaTables$Resolver", "behindFields", "(LSchemaTables$Schema;LSchemaTables$Row;I)I"⟩, prog_8_method_11_code, 5, (some .int))
def jM_Row_init : MethodName × ByteArray × Nat × Option FieldType := (⟨"SchemaTables$Row", "<init>", "(I)V"⟩, prog_9_method_1_code, 2, none)
def jM_Row_append : MethodName × ByteArray × Nat × Option FieldType := (⟨"SchemaTables$Row", "append", "(J)V"⟩, prog_9_method_2_code, 3, none)
def jM_Row_at : MethodName × ByteArray × Nat × Option FieldType := (⟨"SchemaTables$Row", "at", "(I)J"⟩, prog_9_method_3_code, 2, (some .long))
def jM_Row_clear : MethodName × ByteArray × Nat × Option FieldType := (⟨"SchemaTables$Row", "clear", "()V"⟩, prog_9_method_4_code, 1, none)
def jM_Schema_init : MethodName × ByteArray × Nat × Option FieldType := (⟨"SchemaTables$Schema", "<init>", "(IIIILSchemaTables$Schema;LSchemaTables$Schema;[LSchemaTables$Field;)V"⟩, prog_10_method_1_code, 8, none)
def jM_Schema_ofPlain : MethodName × ByteArray × Nat × Option FieldType := (⟨"SchemaTables$Schema", "ofPlain", "(I)LSchemaTables$Schema;"⟩, prog_10_method_2_code, 1, (some (.object "SchemaTables$Schema")))
def jM_Schema_ofEnum : MethodName × ByteArray × Nat × Option FieldType := (⟨"SchemaTables$Schema", "ofEnum", "(III)LSchemaTables$Schema;"⟩, prog_10_method_3_code, 3, (some (.object "SchemaTables$Schema")))
def jM_Schema_ofArray : MethodName × ByteArray × Nat × Option FieldType := (⟨"SchemaTables$Schema", "ofArray", "(LSchemaTables$Schema;)LSchemaTables$Schema;"⟩, prog_10_method_4_code, 1, (some (.object "SchemaTables$Schema")))
def jM_Schema_ofUnion : MethodName × ByteArray × Nat × Option FieldType := (⟨"SchemaTables$Schema", "ofUnion", "(LSchemaTables$Schema;LSchemaTables$Schema;)LSchemaTables$Schema;"⟩, prog_10_method_5_code, 2, (some (.object "SchemaTables$Schema")))
def jM_Schema_ofRecord : MethodName × ByteArray × Nat × Option FieldType := (⟨"SchemaTables$Schema", "ofRecord", "(I[LSchemaTables$Field;)LSchemaTables$Schema;"⟩, prog_10_method_6_code, 2, (some (.object "SchemaTables$Schema")))
def jM_Schema_depthAbove : MethodName × ByteArray × Nat × Option FieldType := (⟨"SchemaTables$Schema", "depthAbove", "(LSchemaTables$Schema;LSchemaTables$Schema;[LSchemaTables$Field;)I"⟩, prog_10_method_7_code, 5, (some .int))
def jM_Schema_isName : MethodName × ByteArray × Nat × Option FieldType := (⟨"SchemaTables$Schema", "isName", "(J)Z"⟩, prog_10_method_8_code, 2, (some .boolean))
def jM_Schema_hasSymbol : MethodName × ByteArray × Nat × Option FieldType := (⟨"SchemaTables$Schema", "hasSymbol", "(J)Z"⟩, prog_10_method_9_code, 3, (some .boolean))
def jM_Schema_rankOf : MethodName × ByteArray × Nat × Option FieldType := (⟨"SchemaTables$Schema", "rankOf", "(I)I"⟩, prog_10_method_10_code, 2, (some .int))
def jM_Schema_symbolOfRank : MethodName × ByteArray × Nat × Option FieldType := (⟨"SchemaTables$Schema", "symbolOfRank", "(I)I"⟩, prog_10_method_11_code, 3, (some .int))
def jM_Schema_branch : MethodName × ByteArray × Nat × Option FieldType := (⟨"SchemaTables$Schema", "branch", "(J)LSchemaTables$Schema;"⟩, prog_10_method_12_code, 3, (some (.object "SchemaTables$Schema")))
def jM_Schema_fieldOf : MethodName × ByteArray × Nat × Option FieldType := (⟨"SchemaTables$Schema", "fieldOf", "(I)LSchemaTables$Field;"⟩, prog_10_method_13_code, 3, (some (.object "SchemaTables$Field")))
def jM_Schema_isValue : MethodName × ByteArray × Nat × Option FieldType := (⟨"SchemaTables$Schema", "isValue", "(J)Z"⟩, prog_10_method_14_code, 3, (some .boolean))
def jM_Schema_isDefault : MethodName × ByteArray × Nat × Option FieldType := (⟨"SchemaTables$Schema", "isDefault", "(LSchemaTables$Schema;J)Z"⟩, prog_10_method_15_code, 3, (some .boolean))
def jM_Schema_haveFittingKinds : MethodName × ByteArray × Nat × Option FieldType := (⟨"SchemaTables$Schema", "haveFittingKinds", "(LSchemaTables$Schema;LSchemaTables$Schema;)Z"⟩, prog_10_method_16_code, 2, (some .boolean))
def jM_Schema_match : MethodName × ByteArray × Nat × Option FieldType := (⟨"SchemaTables$Schema", "match", "(LSchemaTables$Schema;LSchemaTables$Schema;)Z"⟩, prog_10_method_17_code, 2, (some .boolean))
def jM_Schema_matchingBranch : MethodName × ByteArray × Nat × Option FieldType := (⟨"SchemaTables$Schema", "matchingBranch", "(LSchemaTables$Schema;LSchemaTables$Schema;)I"⟩, prog_10_method_18_code, 2, (some .int))
def jM_Schema_reads : MethodName × ByteArray × Nat × Option FieldType := (⟨"SchemaTables$Schema", "reads", "(LSchemaTables$Schema;LSchemaTables$Schema;)Z"⟩, prog_10_method_19_code, 3, (some .boolean))
def jM_Schema_readsFields : MethodName × ByteArray × Nat × Option FieldType := (⟨"SchemaTables$Schema", "readsFields", "(LSchemaTables$Schema;LSchemaTables$Schema;)Z"⟩, prog_10_method_20_code, 6, (some .boolean))
def jM_Schemas_init : MethodName × ByteArray × Nat × Option FieldType := (⟨"SchemaTables$Schemas", "<init>", "()V"⟩, prog_11_method_1_code, 1, none)
def jM_Schemas_find : MethodName × ByteArray × Nat × Option FieldType := (⟨"SchemaTables$Schemas", "find", "(I)LSchemaTables$Schema;"⟩, prog_11_method_2_code, 2, (some (.object "SchemaTables$Schema")))
def jM_Schemas_addField : MethodName × ByteArray × Nat × Option FieldType := (⟨"SchemaTables$Schemas", "addField", "(ILSchemaTables$Schema;ZJ)I"⟩, prog_11_method_3_code, 6, (some .int))
def jM_Schemas_addSchema : MethodName × ByteArray × Nat × Option FieldType := (⟨"SchemaTables$Schemas", "addSchema", "(IIII)I"⟩, prog_11_method_4_code, 6, (some .int))
def jM_Schemas_isPending : MethodName × ByteArray × Nat × Option FieldType := (⟨"SchemaTables$Schemas", "isPending", "(I)Z"⟩, prog_11_method_5_code, 3, (some .boolean))
def jM_Schemas_build : MethodName × ByteArray × Nat × Option FieldType := (⟨"SchemaTables$Schemas", "build", "(IIII)LSchemaTables$Schema;"⟩, prog_11_method_6_code, 5, (some (.object "SchemaTables$Schema")))
def jM_Schemas_buildEnum : MethodName × ByteArray × Nat × Option FieldType := (⟨"SchemaTables$Schemas", "buildEnum", "(III)LSchemaTables$Schema;"⟩, prog_11_method_7_code, 4, (some (.object "SchemaTables$Schema")))
def jM_Schemas_buildArray : MethodName × ByteArray × Nat × Option FieldType := (⟨"SchemaTables$Schemas", "buildArray", "(LSchemaTables$Schema;)LSchemaTables$Schema;"⟩, prog_11_method_8_code, 1, (some (.object "SchemaTables$Schema")))
def jM_Schemas_buildUnion : MethodName × ByteArray × Nat × Option FieldType := (⟨"SchemaTables$Schemas", "buildUnion", "(LSchemaTables$Schema;LSchemaTables$Schema;)LSchemaTables$Schema;"⟩, prog_11_method_9_code, 3, (some (.object "SchemaTables$Schema")))
def jM_Schemas_haveDifferentNames : MethodName × ByteArray × Nat × Option FieldType := (⟨"SchemaTables$Schemas", "haveDifferentNames", "(LSchemaTables$Schema;LSchemaTables$Schema;)Z"⟩, prog_11_method_10_code, 3, (some .boolean))
def jM_Schemas_buildRecord : MethodName × ByteArray × Nat × Option FieldType := (⟨"SchemaTables$Schemas", "buildRecord", "(I)LSchemaTables$Schema;"⟩, prog_11_method_11_code, 4, (some (.object "SchemaTables$Schema")))
def jM_Staging_init : MethodName × ByteArray × Nat × Option FieldType := (⟨"SchemaTables$Staging", "<init>", "()V"⟩, prog_12_method_1_code, 1, none)
def jM_Staging_hasOtherThan : MethodName × ByteArray × Nat × Option FieldType := (⟨"SchemaTables$Staging", "hasOtherThan", "(I)Z"⟩, prog_12_method_2_code, 2, (some .boolean))
def jM_Staging_add : MethodName × ByteArray × Nat × Option FieldType := (⟨"SchemaTables$Staging", "add", "(ILSchemaTables$Schema;LSchemaTables$Row;)I"⟩, prog_12_method_3_code, 5, (some .int))
def jM_Staging_clear : MethodName × ByteArray × Nat × Option FieldType := (⟨"SchemaTables$Staging", "clear", "()V"⟩, prog_12_method_4_code, 1, none)
def jM_JInteger_bitCount : MethodName × ByteArray × Nat × Option FieldType := (⟨"java/lang/Integer", "bitCount", "(I)I"⟩, prog_15_method_49_code, 1, (some .int))
theorem pn_ST : plainName "SchemaTables" = true := by decide +kernel
theorem pn_Mo : plainName "SchemaTablesModel" = true := by decide +kernel
theorem pn_Bytes : plainName "SchemaTables$Bytes" = true := by decide +kernel
theorem pn_Coder : plainName "SchemaTables$Coder" = true := by decide +kernel
theorem pn_Disk : plainName "SchemaTables$Disk" = true := by decide +kernel
theorem pn_Field : plainName "SchemaTables$Field" = true := by decide +kernel
theorem pn_Manifest : plainName "SchemaTables$Manifest" = true := by decide +kernel
theorem pn_Registry : plainName "SchemaTables$Registry" = true := by decide +kernel
theorem pn_Resolver : plainName "SchemaTables$Resolver" = true := by decide +kernel
theorem pn_Row : plainName "SchemaTables$Row" = true := by decide +kernel
theorem pn_Schema : plainName "SchemaTables$Schema" = true := by decide +kernel
theorem pn_Schemas : plainName "SchemaTables$Schemas" = true := by decide +kernel
theorem pn_Staging : plainName "SchemaTables$Staging" = true := by decide +kernel
theorem pn_JInteger : plainName "java/lang/Integer" = true := by decide +kernel
end
section
/-! My own judgement over the kit's W: every context name is bound once, the heap is a numbered row of cells (cell k lies at base + k, the script is number 0), values are sums (int, long, reference or null). -/
abbrev zV : Type := Int32 ⊕ Int64 ⊕ Option Nat
abbrev zI (x : Int32) : zV := .inl x
abbrev zL (x : Int64) : zV := .inr (.inl x)
abbrev zR (r : Option Nat) : zV := .inr (.inr r)
abbrev zA : Type := (Nat → Int32) ⊕ (Nat → Int64) ⊕ (Nat → Option Nat)
-- an array: its kind in zT, its length, what it holds; an object: its class's place in classes, its fields
abbrev zC : Type := (Nat × Nat × zA) ⊕ (Nat × List zV)
abbrev zH : Type := (Nat → zC) × Nat
abbrev zQ : Type := Option zV × zH
-- the environment of one run: classes' numbers and slots, the array classes by their place in zT, base, the script's address, length, ints
abbrev zE : Type := va_G × (Nat → ClassId) × Nat × Nat × Nat × (Nat → Int32)
-- a method: name, bytes, locals, what it returns
abbrev zM : Type := MethodName × ByteArray × Nat × Option FieldType
def z_tb : List Cond := lw_tbl.filter goodWord
-- words that a contract can't carry in its list, but in its start: a nest mate's links, arrays over a class
def z_nest : Cond → Bool
  | .fieldLinkNest .. => true
  | .methodLinkNest .. => true
  | .arrayOver (.object _) => true
  | _ => false
def z_nb : List Cond := lw_tbl.filter z_nest
def z_NW (U : State) : Prop := ∀ w ∈ z_nb, w.before #[] U = true
theorem z_NW.warm {s U : State} (hW : s.WarmedH U.vm) (h : z_NW s) : z_NW U := by
  intro w hw
  have h1 := h w hw
  have h2 := (List.mem_filter.mp hw).2
  cases w with
  | fieldLinkNest a b c d e f => exact va_Nw.warmF hW h1
  | methodLinkNest a b c d => exact va_Nw.warmM hW h1
  | arrayOver ty =>
    cases ty with
    | object C => exact va_AO.moved hW.alike h1
    | _ => simp [z_nest] at h2
  | _ => simp [z_nest] at h2
theorem z_NW.same {u U : State} (hv : u.vm = U.vm) (h : z_NW u) : z_NW U := by
  intro w hw
  have h1 := h w hw
  have h2 := (List.mem_filter.mp hw).2
  cases w with
  | fieldLinkNest a b c d e f => exact va_Nw.same rfl hv h1
  | methodLinkNest a b c d => exact va_Nw.same rfl hv h1
  | arrayOver ty =>
    cases ty with
    | object C => exact va_AO.moved (by rw [hv]; exact Vm.Alike.refl _) h1
    | _ => simp [z_nest] at h2
  | _ => simp [z_nest] at h2
def z_ws (M : zM) : List Cond := .code M.1 M.2.1 M.2.2.1 M.2.2.2 :: z_tb
def z_rm (d C S : Nat) : Room := { frames := d, cells := C, slots := S, locals := 64 * d }
def z_B (E : zE) : Nat := E.2.2.1
def z_ad (E : zE) (k : Nat) : Nat := if k = 0 then E.2.2.2.1 else z_B E + k
def z_A (E : zE) : Nat → Prop := fun q => z_B E < q
def z_v (E : zE) (v : zV) : Value := match v with
  | .inl x => .int x
  | .inr (.inl x) => .long x
  | .inr (.inr r) => va_rf (r.map (z_ad E))
def z_cat (v : zV) : Nat := match v with
  | .inl _ => 1
  | .inr (.inl _) => 2
  | .inr (.inr _) => 1
def z_x (E : zE) (x : Nat × zA) : vp_A := (x.1, match x.2 with
  | .inl f => .inl f
  | .inr (.inl f) => .inr (.inl f)
  | .inr (.inr f) => .inr (.inr (.inr (.inr (fun j => (f j).map (z_ad E))))))
def z_c (E : zE) (c : zC) : va_E := match c with
  | .inl a => .inl (E.2.1 a.1, z_x E a.2)
  | .inr o => .inr (o.1, o.2.map (z_v E))
def z_w (E : zE) (H : zH) : va_W := (List.range (H.2 - 1)).map (fun j => (z_B E + (j + 1), z_c E (H.1 (j + 1))))
def z_ts (E : zE) : List (ClassId × FieldType) := zT.mapIdx (fun t ty => (E.2.1 t, ty))
def z_l (E : zE) (lv : List (Nat × zV)) : List (Nat × Value) := lv.map (fun q => (q.1, z_v E q.2))
def z_get (lv : List (Nat × zV)) (i : Nat) : Option zV := (lv.find? (fun q => q.1 == i)).map (fun q => q.2)
def z_put1 (lv : List (Nat × zV)) (i : Nat) (v : zV) : List (Nat × zV) := (i, v) :: lv.filter (fun q => !(q.1 == i) && !(q.1 + 1 == i && z_cat q.2 == 2))
def z_put2 (lv : List (Nat × zV)) (i : Nat) (v : zV) : List (Nat × zV) := (i, v) :: lv.filter (fun q => !(q.1 == i) && (!(q.1 == i + 1) && !(q.1 + 1 == i && z_cat q.2 == 2)))
-- what a state holds
def z_H (E : zE) (H : zH) (U : State) : Prop := U.heap.size = z_B E + H.2 ∧ 1 ≤ H.2 ∧ va_P E.1 classes (z_w E H) U.heap ∧ va_K E.1 classes (z_ts E) U ∧ va_X E.2.2.2.1 E.2.2.2.2.1 E.2.2.2.2.2 U U.heap ∧ E.2.2.2.1 ≤ z_B E ∧ z_NW U
-- a contract's end, and a contract
def z_Q (E : zE) (q : zQ) : Array Value → State → Outcome → State → Prop := fun _ st oc t => (oc = .returned (q.1.map (z_v E)) ∧ z_H E q.2 t) ∧ va_F (z_A E) st t
def z_M (E : zE) (M : zM) (d C S : Nat) (av : List zV) (H : zH) (q : zQ) : Prop := ∀ l : Launch, Met l M.1 (z_ws M) (z_rm d C S) (va_Pc (av.map (z_v E)) (z_H E H)) (z_Q E q) C S (z_A E)
def z_Cx (E : zE) (M : zM) (p : Program) (s : State) (m : MethodId) (args : Array Value) (meth : Method) (c : Code) : Prop :=
  p.tables.exec = Jvm.exec ∧ c.code = M.2.1 ∧ c.maxLocals = M.2.2.1 ∧ meth.sig.returnType = M.2.2.2 ∧ meth.locks = false ∧ (M.1.name = "<init>" → meth.name = "<init>") ∧ s.vm.findClass M.1.cls = some m.cls ∧ (∀ w ∈ z_tb, w.before args s = true) ∧
  va_K E.1 classes (z_ts E) s ∧ va_X E.2.2.2.1 E.2.2.2.2.1 E.2.2.2.2.2 s s.heap ∧ E.2.2.2.1 ≤ z_B E ∧ z_B E < s.heap.size ∧ z_NW s
def z_Wd (E : zE) (H : zH) (s : State) (Hp : Heap) (locs : List Loc) : Prop := Hp.size = z_B E + H.2 ∧ 1 ≤ H.2 ∧ va_P E.1 classes (z_w E H) Hp ∧ va_S (z_A E) s.heap Hp locs
def z_G (E : zE) (M : zM) (d C S : Nat) (q : zQ) (pc : Nat) (lv : List (Nat × zV)) (st : List zV) (H : zH) (cs ss : Nat) : Prop :=
  ∀ (p : Program) (l : Launch) (e : Env) (s : State) (m : MethodId) (args : Array Value) (below : List Frame) (meth : Method) (c : Code) (Hp : Heap) (locs : List Loc) (ls : Array Slot),
    z_Cx E M p s m args meth c → z_Wd E H s Hp locs → lv_has ls M.2.2.1 (z_l E lv) →
    W p l e (z_rm d C S) s m args below meth c Hp locs cs ss (MQ below (z_Q E q) args s C S (z_A E)) (F0 m pc ls (st.map (z_v E)))
-- the same, held against a function's answer: where it is 'some y', the walk ends with what y stands for
def z_S {ρ : Type} (E : zE) (M : zM) (d C S : Nat) (f : ρ → zQ) (pc : Nat) (lv : List (Nat × zV)) (st : List zV) (H : zH) (cs ss : Nat) (o : Option ρ) : Prop := ∀ y, o = some y → z_G E M d C S (f y) pc lv st H cs ss
def z_MS {ρ : Type} (E : zE) (M : zM) (d C S : Nat) (f : ρ → zQ) (av : List zV) (H : zH) (o : Option ρ) : Prop := ∀ y, o = some y → z_M E M d C S av H (f y)
-- what answers stand for: a reader leaves the heap as it was, a writer answers the new one
abbrev zrI (H : zH) : Int32 → zQ := fun x => (some (zI x), H)
abbrev zrL (H : zH) : Int64 → zQ := fun x => (some (zL x), H)
abbrev zrR (H : zH) : Option Nat → zQ := fun x => (some (zR x), H)
abbrev zwI : Int32 × zH → zQ := fun x => (some (zI x.1), x.2)
abbrev zwL : Int64 × zH → zQ := fun x => (some (zL x.1), x.2)
abbrev zwR : Option Nat × zH → zQ := fun x => (some (zR x.1), x.2)
abbrev zwV : zH → zQ := fun x => (none, x)
-- lists of cells
theorem z_w_at {E : zE} {H : zH} {k : Nat} (h1 : 1 ≤ k) (h2 : k < H.2) : (z_w E H)[k - 1]? = some (z_B E + k, z_c E (H.1 k)) := by
  unfold z_w
  rw [List.getElem?_map, List.getElem?_range (by omega)]
  simp only [Option.map_some, show k - 1 + 1 = k by omega]
theorem z_w_len {E : zE} {H : zH} : (z_w E H).length = H.2 - 1 := by simp [z_w]
theorem z_w_get {E : zE} {H : zH} {j : Nat} {q : Nat × va_E} (hq : (z_w E H)[j]? = some q) : j + 1 < H.2 ∧ q = (z_B E + (j + 1), z_c E (H.1 (j + 1))) := by
  have hl : j < (z_w E H).length := (List.getElem?_eq_some_iff.mp hq).1
  rw [z_w_len] at hl
  have h1 : j + 1 < H.2 := by omega
  have h2 := z_w_at (E := E) (H := H) (k := j + 1) (by omega) h1
  rw [Nat.add_sub_cancel] at h2
  exact ⟨h1, Option.some.inj (hq.symm.trans h2)⟩
theorem z_D {E : zE} {H : zH} : va_D (z_A E) (z_w E H) := by
  refine ⟨fun i j x y hi hj hxy => ?_, fun k q hk => ?_⟩
  · obtain ⟨-, rfl⟩ := z_w_get hi
    obtain ⟨-, rfl⟩ := z_w_get hj
    have : z_B E + (i + 1) = z_B E + (j + 1) := hxy
    omega
  · obtain ⟨-, rfl⟩ := z_w_get hk
    show z_B E < z_B E + (k + 1)
    omega
/-- one cell changed -/
theorem z_P_set {E : zE} {H : zH} {k : Nat} {x : zC} {Hp H1 : Heap} (hP : va_P E.1 classes (z_w E H) Hp) (h1 : 1 ≤ k) (h2 : k < H.2) (he : va_at E.1 classes (z_B E + k, z_c E x) H1) (oq : ∀ q : Nat, q ≠ z_B E + k → H1[q]? = Hp[q]?) : va_P E.1 classes (z_w E (va_up H.1 k x, H.2)) H1 := by
  intro j q hj
  obtain ⟨hl, rfl⟩ := z_w_get hj
  by_cases hjk : j + 1 = k
  · subst hjk
    simpa [va_up] using he
  · have hb := z_w_at (E := E) (H := H) (k := j + 1) (by omega) hl
    have hx : va_up H.1 k x (j + 1) = H.1 (j + 1) := by simp [va_up, hjk]
    show va_at E.1 classes (z_B E + (j + 1), z_c E (va_up H.1 k x (j + 1))) H1
    rw [hx]
    exact (hP _ _ hb).kept (oq _ (by show z_B E + (j + 1) ≠ z_B E + k; omega))
/-- a cell more -/
theorem z_P_push {E : zE} {H : zH} {x : zC} {Hp H1 : Heap} (hP : va_P E.1 classes (z_w E H) Hp) (hn : 1 ≤ H.2) (hz : Hp.size = z_B E + H.2) (he : va_at E.1 classes (z_B E + H.2, z_c E x) H1) (oq : ∀ q : Nat, q < Hp.size → H1[q]? = Hp[q]?) : va_P E.1 classes (z_w E (va_up H.1 H.2 x, H.2 + 1)) H1 := by
  intro j q hj
  obtain ⟨hl, rfl⟩ := z_w_get hj
  have hl' : j + 1 < H.2 + 1 := hl
  by_cases hjk : j + 1 = H.2
  · show va_at E.1 classes (z_B E + (j + 1), z_c E (va_up H.1 H.2 x (j + 1))) H1
    rw [hjk]
    simpa [va_up] using he
  · have hb := z_w_at (E := E) (H := H) (k := j + 1) (by omega) (by omega)
    have hx : va_up H.1 H.2 x (j + 1) = H.1 (j + 1) := by simp [va_up, hjk]
    show va_at E.1 classes (z_B E + (j + 1), z_c E (va_up H.1 H.2 x (j + 1))) H1
    rw [hx]
    exact (hP _ _ hb).kept (oq _ (hP _ _ hb).lt)
-- values
theorem z_v_cat (E : zE) (v : zV) : (z_v E v).category = z_cat v := by
  rcases v with x | x | _ | k <;> rfl
theorem z_get_mem {lv : List (Nat × zV)} {i : Nat} {v : zV} (h : z_get lv i = some v) : (i, v) ∈ lv := by
  unfold z_get at h
  obtain ⟨q, hq, rfl⟩ := Option.map_eq_some_iff.mp h
  have h1 := List.find?_some hq
  have h2 := List.mem_of_find?_eq_some hq
  have h3 : q.1 = i := by simpa using h1
  subst h3
  exact h2
theorem z_lget {E : zE} {ls : Array Slot} {nL : Nat} {lv : List (Nat × zV)} {i : Nat} {v : zV} (hl : lv_has ls nL (z_l E lv)) (h : z_get lv i = some v) : ls[i]? = some (.val (z_v E v)) :=
  hl.2.2 (i, z_v E v) (List.mem_map.mpr ⟨(i, v), z_get_mem h, rfl⟩)
theorem z_l_put1 (E : zE) (lv : List (Nat × zV)) (i : Nat) (v : zV) : z_l E (z_put1 lv i v) = (i, z_v E v) :: (z_l E lv).filter (fun q => !(q.1 == i) && !(q.1 + 1 == i && q.2.category == 2)) := by
  unfold z_l z_put1
  rw [List.map_cons, List.filter_map]
  congr 2
  apply List.filter_congr
  intro q _
  simp [Function.comp, z_v_cat]
theorem z_l_put2 (E : zE) (lv : List (Nat × zV)) (i : Nat) (v : zV) : z_l E (z_put2 lv i v) = (i, z_v E v) :: (z_l E lv).filter (fun q => !(q.1 == i) && (!(q.1 == i + 1) && !(q.1 + 1 == i && q.2.category == 2))) := by
  unfold z_l z_put2
  rw [List.map_cons, List.filter_map]
  congr 2
  apply List.filter_congr
  intro q _
  simp [Function.comp, z_v_cat]
-- heap operations of the functions that the methods are tied to
def zgo (H : zH) (r : Option Nat) : Option zC := r.bind fun k => if 1 ≤ k ∧ k < H.2 then some (H.1 k) else none
def zob (ci : Nat) (x : zC) : Option (List zV) := match x with
  | .inr (c, fs) => if c = ci then some fs else none
  | .inl _ => none
def zab (t : Nat) (x : zC) : Option (Nat × zA) := match x with
  | .inl (u, a) => if u = t then some a else none
  | .inr _ => none
def zfs (H : zH) (r : Option Nat) (ci : Nat) : Option (List zV) := (zgo H r).bind (zob ci)
def zar (H : zH) (r : Option Nat) (t : Nat) : Option (Nat × zA) := (zgo H r).bind (zab t)
def zvi (v : Option zV) : Option Int32 := match v with
  | some (.inl x) => some x
  | _ => none
def zvl (v : Option zV) : Option Int64 := match v with
  | some (.inr (.inl x)) => some x
  | _ => none
def zvr (v : Option zV) : Option (Option Nat) := match v with
  | some (.inr (.inr x)) => some x
  | _ => none
def zai (a : zA) (j : Nat) : Option Int32 := match a with
  | .inl f => some (f j)
  | _ => none
def zal (a : zA) (j : Nat) : Option Int64 := match a with
  | .inr (.inl f) => some (f j)
  | _ => none
def zaa (a : zA) (j : Nat) : Option (Option Nat) := match a with
  | .inr (.inr f) => some (f j)
  | _ => none
def zgI (H : zH) (r : Option Nat) (ci j : Nat) : Option Int32 := (zfs H r ci).bind fun fs => zvi fs[j]?
def zgL (H : zH) (r : Option Nat) (ci j : Nat) : Option Int64 := (zfs H r ci).bind fun fs => zvl fs[j]?
def zgR (H : zH) (r : Option Nat) (ci j : Nat) : Option (Option Nat) := (zfs H r ci).bind fun fs => zvr fs[j]?
def zok (H : zH) (r : Option Nat) (ci : Nat) : Option Unit := (zfs H r ci).bind fun _ => some ()
def zpV (H : zH) (r : Option Nat) (ci j : Nat) (v : zV) : Option zH := r.bind fun k => (zfs H r ci).bind fun fs => if j < fs.length then some (va_up H.1 k (.inr (ci, fs.set j v)), H.2) else none
def zpZ (H : zH) (r : Option Nat) (ci j : Nat) (x : Int32) : Option zH := if x = 0 ∨ x = 1 then zpV H r ci j (zI x) else none
def zix (i : Int32) (N : Nat) : Option Nat := if i < 0 ∨ N ≤ i.toNatClampNeg then none else some i.toNatClampNeg
def zle (H : zH) (r : Option Nat) (t : Nat) : Option Int32 := (zar H r t).bind fun a => some (nI a.1)
def zaI (H : zH) (r : Option Nat) (t : Nat) (i : Int32) : Option Int32 := (zar H r t).bind fun a => (zix i a.1).bind fun j => zai a.2 j
def zaL (H : zH) (r : Option Nat) (t : Nat) (i : Int32) : Option Int64 := (zar H r t).bind fun a => (zix i a.1).bind fun j => zal a.2 j
def zaR (H : zH) (r : Option Nat) (t : Nat) (i : Int32) : Option (Option Nat) := (zar H r t).bind fun a => (zix i a.1).bind fun j => zaa a.2 j
def zsi (a : zA) (j : Nat) (x : Int32) : Option zA := match a with
  | .inl f => some (.inl (va_up f j x))
  | _ => none
def zsl (a : zA) (j : Nat) (x : Int64) : Option zA := match a with
  | .inr (.inl f) => some (.inr (.inl (va_up f j x)))
  | _ => none
def zsa (a : zA) (j : Nat) (x : Option Nat) : Option zA := match a with
  | .inr (.inr f) => some (.inr (.inr (va_up f j x)))
  | _ => none
def zsI (H : zH) (r : Option Nat) (t : Nat) (i x : Int32) : Option zH := r.bind fun k => (zar H r t).bind fun a => (zix i a.1).bind fun j => (zsi a.2 j x).bind fun b => some (va_up H.1 k (.inl (t, a.1, b)), H.2)
def zsL (H : zH) (r : Option Nat) (t : Nat) (i : Int32) (x : Int64) : Option zH := r.bind fun k => (zar H r t).bind fun a => (zix i a.1).bind fun j => (zsl a.2 j x).bind fun b => some (va_up H.1 k (.inl (t, a.1, b)), H.2)
def zsR (H : zH) (r : Option Nat) (t : Nat) (i : Int32) (ci : Nat) (x : Option Nat) : Option zH := r.bind fun k => (zok H x ci).bind fun _ => (zar H r t).bind fun a => (zix i a.1).bind fun j => (zsa a.2 j x).bind fun b => some (va_up H.1 k (.inl (t, a.1, b)), H.2)
def zsZ (H : zH) (r : Option Nat) (t : Nat) (i x : Int32) : Option zH := if x = 0 ∨ x = 1 then zsI H r t i x else none
def znw (H : zH) (x : zC) : zH := (va_up H.1 H.2 x, H.2 + 1)
def znc (i : Int32) (cap : Nat) : Option Nat := if i < 0 ∨ cap < i.toNatClampNeg then none else some i.toNatClampNeg
-- the script
def zxl (L : Nat) (xs : Nat → Int32) (i : Int32) : Option Int32 := (zix i L).bind fun j => some (xs j)
theorem zgo_inv {H : zH} {r : Option Nat} {x : zC} (h : zgo H r = some x) : ∃ k, r = some k ∧ (1 ≤ k ∧ k < H.2) ∧ H.1 k = x := by
  unfold zgo at h
  obtain ⟨k, rfl, h'⟩ := Option.bind_eq_some_iff.mp h
  split at h'
  · next hk => exact ⟨k, rfl, hk, Option.some.inj h'⟩
  · cases h'
theorem zfs_inv {H : zH} {r : Option Nat} {ci : Nat} {fs : List zV} (h : zfs H r ci = some fs) : ∃ k, r = some k ∧ (1 ≤ k ∧ k < H.2) ∧ H.1 k = .inr (ci, fs) := by
  obtain ⟨x, hx, h'⟩ := Option.bind_eq_some_iff.mp h
  clear h
  obtain ⟨k, rfl, hk, rfl⟩ := zgo_inv hx
  refine ⟨k, rfl, hk, ?_⟩
  unfold zob at h'
  split at h'
  · next c gs heq =>
    split at h'
    · next hc => subst hc; cases h'; exact heq
    · cases h'
  · cases h'
theorem zar_inv {H : zH} {r : Option Nat} {t : Nat} {a : Nat × zA} (h : zar H r t = some a) : ∃ k, r = some k ∧ (1 ≤ k ∧ k < H.2) ∧ H.1 k = .inl (t, a) := by
  obtain ⟨x, hx, h'⟩ := Option.bind_eq_some_iff.mp h
  clear h
  obtain ⟨k, rfl, hk, rfl⟩ := zgo_inv hx
  refine ⟨k, rfl, hk, ?_⟩
  unfold zab at h'
  split at h'
  · next c gs heq =>
    split at h'
    · next hc => subst hc; cases h'; exact heq
    · cases h'
  · cases h'
theorem zix_inv {i : Int32} {N j : Nat} (h : zix i N = some j) : vp_in i N ∧ i.toNatClampNeg = j := by
  unfold zix at h
  split at h
  · cases h
  · next hn => exact ⟨hn, Option.some.inj h⟩
theorem zvi_inv {v : Option zV} {x : Int32} (h : zvi v = some x) : v = some (zI x) := by
  unfold zvi at h
  split at h
  · cases h; rfl
  · cases h
theorem zvl_inv {v : Option zV} {x : Int64} (h : zvl v = some x) : v = some (zL x) := by
  unfold zvl at h
  split at h
  · cases h; rfl
  · cases h
theorem zvr_inv {v : Option zV} {x : Option Nat} (h : zvr v = some x) : v = some (zR x) := by
  unfold zvr at h
  split at h
  · cases h; rfl
  · cases h
theorem zai_inv {a : zA} {j : Nat} {x : Int32} (h : zai a j = some x) : ∃ f, a = .inl f ∧ f j = x := by
  unfold zai at h
  split at h
  · cases h; exact ⟨_, rfl, rfl⟩
  · cases h
theorem zal_inv {a : zA} {j : Nat} {x : Int64} (h : zal a j = some x) : ∃ f, a = .inr (.inl f) ∧ f j = x := by
  unfold zal at h
  split at h
  · cases h; exact ⟨_, rfl, rfl⟩
  · cases h
theorem zaa_inv {a : zA} {j : Nat} {x : Option Nat} (h : zaa a j = some x) : ∃ f, a = .inr (.inr f) ∧ f j = x := by
  unfold zaa at h
  split at h
  · cases h; exact ⟨_, rfl, rfl⟩
  · cases h
theorem zsi_inv {a b : zA} {j : Nat} {x : Int32} (h : zsi a j x = some b) : ∃ f, a = .inl f ∧ b = .inl (va_up f j x) := by
  unfold zsi at h
  split at h
  · cases h; exact ⟨_, rfl, rfl⟩
  · cases h
theorem zsl_inv {a b : zA} {j : Nat} {x : Int64} (h : zsl a j x = some b) : ∃ f, a = .inr (.inl f) ∧ b = .inr (.inl (va_up f j x)) := by
  unfold zsl at h
  split at h
  · cases h; exact ⟨_, rfl, rfl⟩
  · cases h
theorem zsa_inv {a b : zA} {j : Nat} {x : Option Nat} (h : zsa a j x = some b) : ∃ f, a = .inr (.inr f) ∧ b = .inr (.inr (va_up f j x)) := by
  unfold zsa at h
  split at h
  · cases h; exact ⟨_, rfl, rfl⟩
  · cases h
end
section
/-! A row an instruction, for z_S: printed by mkrows.py. -/
section ZRows
variable {ρ : Type} {E : zE} {M : zM} {d C S : Nat} {f : ρ → zQ} {pc : Nat} {lv : List (Nat × zV)} {st : List zV} {H : zH} {cs ss : Nat} {o oa ob : Option ρ}
theorem zs_iconst {i : Int} {v : Int32} (hd : decode M.2.1 pc = .ok (.iconst i, 1)) (hv : Int32.ofInt i = v) (k : z_S E M d C S f (pc + 1) lv (zI v :: st) H cs ss o) : z_S E M d C S f pc lv st H cs ss o := by
  intro yy hyy p l e s m args below meth c Hp locs ls X hW hl
  exact lv_iconst X.1 X.2.1 hd hv (k yy hyy p l e s m args below meth c Hp locs ls X hW hl)
theorem zs_bipush {i : Int} {v : Int32} (hd : decode M.2.1 pc = .ok (.bipush i, 2)) (hv : (Int8.ofInt i).toInt32 = v) (k : z_S E M d C S f (pc + 2) lv (zI v :: st) H cs ss o) : z_S E M d C S f pc lv st H cs ss o := by
  intro yy hyy p l e s m args below meth c Hp locs ls X hW hl
  exact lv_bipush X.1 X.2.1 hd hv (k yy hyy p l e s m args below meth c Hp locs ls X hW hl)
theorem zs_sipush {i : Int} {v : Int32} (hd : decode M.2.1 pc = .ok (.sipush i, 3)) (hv : (Int16.ofInt i).toInt32 = v) (k : z_S E M d C S f (pc + 3) lv (zI v :: st) H cs ss o) : z_S E M d C S f pc lv st H cs ss o := by
  intro yy hyy p l e s m args below meth c Hp locs ls X hW hl
  exact lv_sipush X.1 X.2.1 hd hv (k yy hyy p l e s m args below meth c Hp locs ls X hW hl)
theorem zs_lconst {i : Fin 2} {v : Int64} (hd : decode M.2.1 pc = .ok (.lconst i, 1)) (hv : Int64.ofNat (i : Nat) = v) (k : z_S E M d C S f (pc + 1) lv (zL v :: st) H cs ss o) : z_S E M d C S f pc lv st H cs ss o := by
  intro yy hyy p l e s m args below meth c Hp locs ls X hW hl
  exact lv_lconst X.1 X.2.1 hd hv (k yy hyy p l e s m args below meth c Hp locs ls X hW hl)
theorem zs_null (hd : decode M.2.1 pc = .ok (.aconst_null, 1)) (k : z_S E M d C S f (pc + 1) lv (zR none :: st) H cs ss o) : z_S E M d C S f pc lv st H cs ss o := by
  intro yy hyy p l e s m args below meth c Hp locs ls X hW hl
  exact lv_null X.1 X.2.1 hd (k yy hyy p l e s m args below meth c Hp locs ls X hW hl)
theorem zs_iadd {x y : Int32} (hd : decode M.2.1 pc = .ok (.iadd, 1)) (k : z_S E M d C S f (pc + 1) lv (zI (x + y) :: st) H cs ss o) : z_S E M d C S f pc lv (zI y :: zI x :: st) H cs ss o := by
  intro yy hyy p l e s m args below meth c Hp locs ls X hW hl
  exact lv_iadd X.1 X.2.1 hd (k yy hyy p l e s m args below meth c Hp locs ls X hW hl)
theorem zs_isub {x y : Int32} (hd : decode M.2.1 pc = .ok (.isub, 1)) (k : z_S E M d C S f (pc + 1) lv (zI (x - y) :: st) H cs ss o) : z_S E M d C S f pc lv (zI y :: zI x :: st) H cs ss o := by
  intro yy hyy p l e s m args below meth c Hp locs ls X hW hl
  exact lv_isub X.1 X.2.1 hd (k yy hyy p l e s m args below meth c Hp locs ls X hW hl)
theorem zs_imul {x y : Int32} (hd : decode M.2.1 pc = .ok (.imul, 1)) (k : z_S E M d C S f (pc + 1) lv (zI (x * y) :: st) H cs ss o) : z_S E M d C S f pc lv (zI y :: zI x :: st) H cs ss o := by
  intro yy hyy p l e s m args below meth c Hp locs ls X hW hl
  exact lv_imul X.1 X.2.1 hd (k yy hyy p l e s m args below meth c Hp locs ls X hW hl)
theorem zs_iand {x y : Int32} (hd : decode M.2.1 pc = .ok (.iand, 1)) (k : z_S E M d C S f (pc + 1) lv (zI (x &&& y) :: st) H cs ss o) : z_S E M d C S f pc lv (zI y :: zI x :: st) H cs ss o := by
  intro yy hyy p l e s m args below meth c Hp locs ls X hW hl
  exact lv_iand X.1 X.2.1 hd (k yy hyy p l e s m args below meth c Hp locs ls X hW hl)
theorem zs_ior {x y : Int32} (hd : decode M.2.1 pc = .ok (.ior, 1)) (k : z_S E M d C S f (pc + 1) lv (zI (x ||| y) :: st) H cs ss o) : z_S E M d C S f pc lv (zI y :: zI x :: st) H cs ss o := by
  intro yy hyy p l e s m args below meth c Hp locs ls X hW hl
  exact lv_ior X.1 X.2.1 hd (k yy hyy p l e s m args below meth c Hp locs ls X hW hl)
theorem zs_ixor {x y : Int32} (hd : decode M.2.1 pc = .ok (.ixor, 1)) (k : z_S E M d C S f (pc + 1) lv (zI (x ^^^ y) :: st) H cs ss o) : z_S E M d C S f pc lv (zI y :: zI x :: st) H cs ss o := by
  intro yy hyy p l e s m args below meth c Hp locs ls X hW hl
  exact lv_ixor X.1 X.2.1 hd (k yy hyy p l e s m args below meth c Hp locs ls X hW hl)
theorem zs_ishl {x y : Int32} (hd : decode M.2.1 pc = .ok (.ishl, 1)) (k : z_S E M d C S f (pc + 1) lv (zI (x <<< (y &&& 31)) :: st) H cs ss o) : z_S E M d C S f pc lv (zI y :: zI x :: st) H cs ss o := by
  intro yy hyy p l e s m args below meth c Hp locs ls X hW hl
  exact lv_ishl X.1 X.2.1 hd (k yy hyy p l e s m args below meth c Hp locs ls X hW hl)
theorem zs_ishr {x y : Int32} (hd : decode M.2.1 pc = .ok (.ishr, 1)) (k : z_S E M d C S f (pc + 1) lv (zI (x >>> (y &&& 31)) :: st) H cs ss o) : z_S E M d C S f pc lv (zI y :: zI x :: st) H cs ss o := by
  intro yy hyy p l e s m args below meth c Hp locs ls X hW hl
  exact lv_ishr X.1 X.2.1 hd (k yy hyy p l e s m args below meth c Hp locs ls X hW hl)
theorem zs_idiv {x y : Int32} (hd : decode M.2.1 pc = .ok (.idiv, 1)) (hne : ¬ y = 0) (k : z_S E M d C S f (pc + 1) lv (zI (x / y) :: st) H cs ss o) : z_S E M d C S f pc lv (zI y :: zI x :: st) H cs ss o := by
  intro yy hyy p l e s m args below meth c Hp locs ls X hW hl
  exact lv_idiv X.1 X.2.1 hd hne (k yy hyy p l e s m args below meth c Hp locs ls X hW hl)
theorem zs_irem {x y : Int32} (hd : decode M.2.1 pc = .ok (.irem, 1)) (hne : ¬ y = 0) (k : z_S E M d C S f (pc + 1) lv (zI (x - x / y * y) :: st) H cs ss o) : z_S E M d C S f pc lv (zI y :: zI x :: st) H cs ss o := by
  intro yy hyy p l e s m args below meth c Hp locs ls X hW hl
  exact lv_irem X.1 X.2.1 hd hne (k yy hyy p l e s m args below meth c Hp locs ls X hW hl)
theorem zs_ineg {x : Int32} (hd : decode M.2.1 pc = .ok (.ineg, 1)) (k : z_S E M d C S f (pc + 1) lv (zI (-x) :: st) H cs ss o) : z_S E M d C S f pc lv (zI x :: st) H cs ss o := by
  intro yy hyy p l e s m args below meth c Hp locs ls X hW hl
  exact lv_ineg X.1 X.2.1 hd (k yy hyy p l e s m args below meth c Hp locs ls X hW hl)
theorem zs_ladd {x y : Int64} (hd : decode M.2.1 pc = .ok (.ladd, 1)) (k : z_S E M d C S f (pc + 1) lv (zL (x + y) :: st) H cs ss o) : z_S E M d C S f pc lv (zL y :: zL x :: st) H cs ss o := by
  intro yy hyy p l e s m args below meth c Hp locs ls X hW hl
  exact lv_ladd X.1 X.2.1 hd (k yy hyy p l e s m args below meth c Hp locs ls X hW hl)
theorem zs_lsub {x y : Int64} (hd : decode M.2.1 pc = .ok (.lsub, 1)) (k : z_S E M d C S f (pc + 1) lv (zL (x - y) :: st) H cs ss o) : z_S E M d C S f pc lv (zL y :: zL x :: st) H cs ss o := by
  intro yy hyy p l e s m args below meth c Hp locs ls X hW hl
  exact lv_lsub X.1 X.2.1 hd (k yy hyy p l e s m args below meth c Hp locs ls X hW hl)
theorem zs_lmul {x y : Int64} (hd : decode M.2.1 pc = .ok (.lmul, 1)) (k : z_S E M d C S f (pc + 1) lv (zL (x * y) :: st) H cs ss o) : z_S E M d C S f pc lv (zL y :: zL x :: st) H cs ss o := by
  intro yy hyy p l e s m args below meth c Hp locs ls X hW hl
  exact lv_lmul X.1 X.2.1 hd (k yy hyy p l e s m args below meth c Hp locs ls X hW hl)
theorem zs_land {x y : Int64} (hd : decode M.2.1 pc = .ok (.land, 1)) (k : z_S E M d C S f (pc + 1) lv (zL (x &&& y) :: st) H cs ss o) : z_S E M d C S f pc lv (zL y :: zL x :: st) H cs ss o := by
  intro yy hyy p l e s m args below meth c Hp locs ls X hW hl
  exact lv_land X.1 X.2.1 hd (k yy hyy p l e s m args below meth c Hp locs ls X hW hl)
theorem zs_lor {x y : Int64} (hd : decode M.2.1 pc = .ok (.lor, 1)) (k : z_S E M d C S f (pc + 1) lv (zL (x ||| y) :: st) H cs ss o) : z_S E M d C S f pc lv (zL y :: zL x :: st) H cs ss o := by
  intro yy hyy p l e s m args below meth c Hp locs ls X hW hl
  exact lv_lor X.1 X.2.1 hd (k yy hyy p l e s m args below meth c Hp locs ls X hW hl)
theorem zs_lxor {x y : Int64} (hd : decode M.2.1 pc = .ok (.lxor, 1)) (k : z_S E M d C S f (pc + 1) lv (zL (x ^^^ y) :: st) H cs ss o) : z_S E M d C S f pc lv (zL y :: zL x :: st) H cs ss o := by
  intro yy hyy p l e s m args below meth c Hp locs ls X hW hl
  exact lv_lxor X.1 X.2.1 hd (k yy hyy p l e s m args below meth c Hp locs ls X hW hl)
theorem zs_lneg {x : Int64} (hd : decode M.2.1 pc = .ok (.lneg, 1)) (k : z_S E M d C S f (pc + 1) lv (zL (-x) :: st) H cs ss o) : z_S E M d C S f pc lv (zL x :: st) H cs ss o := by
  intro yy hyy p l e s m args below meth c Hp locs ls X hW hl
  exact lv_lneg X.1 X.2.1 hd (k yy hyy p l e s m args below meth c Hp locs ls X hW hl)
theorem zs_i2l {x : Int32} (hd : decode M.2.1 pc = .ok (.i2l, 1)) (k : z_S E M d C S f (pc + 1) lv (zL x.toInt64 :: st) H cs ss o) : z_S E M d C S f pc lv (zI x :: st) H cs ss o := by
  intro yy hyy p l e s m args below meth c Hp locs ls X hW hl
  exact lv_i2l X.1 X.2.1 hd rfl (k yy hyy p l e s m args below meth c Hp locs ls X hW hl)
theorem zs_l2i {x : Int64} (hd : decode M.2.1 pc = .ok (.l2i, 1)) (k : z_S E M d C S f (pc + 1) lv (zI x.toInt32 :: st) H cs ss o) : z_S E M d C S f pc lv (zL x :: st) H cs ss o := by
  intro yy hyy p l e s m args below meth c Hp locs ls X hW hl
  exact lv_l2i X.1 X.2.1 hd rfl (k yy hyy p l e s m args below meth c Hp locs ls X hW hl)
theorem zs_iushr {x y : Int32} (hd : decode M.2.1 pc = .ok (.iushr, 1)) (k : z_S E M d C S f (pc + 1) lv (zI (x.toUInt32 >>> (y.toUInt32 &&& Int32.toUInt32 31)).toInt32 :: st) H cs ss o) : z_S E M d C S f pc lv (zI y :: zI x :: st) H cs ss o := by
  intro yy hyy p l e s m args below meth c Hp locs ls X hW hl
  exact lv_iushr X.1 X.2.1 hd rfl (k yy hyy p l e s m args below meth c Hp locs ls X hW hl)
theorem zs_lushr {x : Int64} {y : Int32} (hd : decode M.2.1 pc = .ok (.lushr, 1)) (k : z_S E M d C S f (pc + 1) lv (zL (x.toUInt64 >>> (y.toInt64.toUInt64 &&& Int64.toUInt64 63)).toInt64 :: st) H cs ss o) : z_S E M d C S f pc lv (zI y :: zL x :: st) H cs ss o := by
  intro yy hyy p l e s m args below meth c Hp locs ls X hW hl
  exact lv_lushr X.1 X.2.1 hd rfl (k yy hyy p l e s m args below meth c Hp locs ls X hW hl)
theorem zs_lshl {x : Int64} {y : Int32} (hd : decode M.2.1 pc = .ok (.lshl, 1)) (k : z_S E M d C S f (pc + 1) lv (zL (x <<< (y.toInt64 &&& 63)) :: st) H cs ss o) : z_S E M d C S f pc lv (zI y :: zL x :: st) H cs ss o := by
  intro yy hyy p l e s m args below meth c Hp locs ls X hW hl
  exact lv_lshl X.1 X.2.1 hd rfl (k yy hyy p l e s m args below meth c Hp locs ls X hW hl)
theorem zs_lshr {x : Int64} {y : Int32} (hd : decode M.2.1 pc = .ok (.lshr, 1)) (k : z_S E M d C S f (pc + 1) lv (zL (x >>> (y.toInt64 &&& 63)) :: st) H cs ss o) : z_S E M d C S f pc lv (zI y :: zL x :: st) H cs ss o := by
  intro yy hyy p l e s m args below meth c Hp locs ls X hW hl
  exact lv_lshr X.1 X.2.1 hd rfl (k yy hyy p l e s m args below meth c Hp locs ls X hW hl)
theorem zs_dup {va : zV} (hd : decode M.2.1 pc = .ok (.dup, 1)) (hva : z_cat va = 1) (k : z_S E M d C S f (pc + 1) lv (va :: va :: st) H cs ss o) : z_S E M d C S f pc lv (va :: st) H cs ss o := by
  intro yy hyy p l e s m args below meth c Hp locs ls X hW hl
  exact lv_dup X.1 X.2.1 hd ((z_v_cat E _).trans hva) (k yy hyy p l e s m args below meth c Hp locs ls X hW hl)
theorem zs_pop {va : zV} (hd : decode M.2.1 pc = .ok (.pop, 1)) (hva : z_cat va = 1) (k : z_S E M d C S f (pc + 1) lv st H cs ss o) : z_S E M d C S f pc lv (va :: st) H cs ss o := by
  intro yy hyy p l e s m args below meth c Hp locs ls X hW hl
  exact lv_pop X.1 X.2.1 hd ((z_v_cat E _).trans hva) (k yy hyy p l e s m args below meth c Hp locs ls X hW hl)
theorem zs_dup_x1 {va vb : zV} (hd : decode M.2.1 pc = .ok (.dup_x1, 1)) (hva : z_cat va = 1) (hvb : z_cat vb = 1) (k : z_S E M d C S f (pc + 1) lv (va :: vb :: va :: st) H cs ss o) : z_S E M d C S f pc lv (va :: vb :: st) H cs ss o := by
  intro yy hyy p l e s m args below meth c Hp locs ls X hW hl
  exact lv_dup_x1 X.1 X.2.1 hd ((z_v_cat E _).trans hva) ((z_v_cat E _).trans hvb) (k yy hyy p l e s m args below meth c Hp locs ls X hW hl)
theorem zs_dup_x2 {va vb vd : zV} (hd : decode M.2.1 pc = .ok (.dup_x2, 1)) (hva : z_cat va = 1) (hvb : z_cat vb = 1) (hvd : z_cat vd = 1) (k : z_S E M d C S f (pc + 1) lv (va :: vb :: vd :: va :: st) H cs ss o) : z_S E M d C S f pc lv (va :: vb :: vd :: st) H cs ss o := by
  intro yy hyy p l e s m args below meth c Hp locs ls X hW hl
  exact lv_dup_x2 X.1 X.2.1 hd ((z_v_cat E _).trans hva) ((z_v_cat E _).trans hvb) ((z_v_cat E _).trans hvd) (k yy hyy p l e s m args below meth c Hp locs ls X hW hl)
theorem zs_dup2 {va vb : zV} (hd : decode M.2.1 pc = .ok (.dup2, 1)) (hva : z_cat va = 1) (hvb : z_cat vb = 1) (k : z_S E M d C S f (pc + 1) lv (va :: vb :: va :: vb :: st) H cs ss o) : z_S E M d C S f pc lv (va :: vb :: st) H cs ss o := by
  intro yy hyy p l e s m args below meth c Hp locs ls X hW hl
  exact lv_dup2_11 X.1 X.2.1 hd ((z_v_cat E _).trans hva) ((z_v_cat E _).trans hvb) (k yy hyy p l e s m args below meth c Hp locs ls X hW hl)
theorem zs_dup2_2 {va : zV} (hd : decode M.2.1 pc = .ok (.dup2, 1)) (hva : z_cat va = 2) (k : z_S E M d C S f (pc + 1) lv (va :: va :: st) H cs ss o) : z_S E M d C S f pc lv (va :: st) H cs ss o := by
  intro yy hyy p l e s m args below meth c Hp locs ls X hW hl
  exact lv_dup2_2 X.1 X.2.1 hd ((z_v_cat E _).trans hva) (k yy hyy p l e s m args below meth c Hp locs ls X hW hl)
theorem zs_pop2_2 {va : zV} (hd : decode M.2.1 pc = .ok (.pop2, 1)) (hva : z_cat va = 2) (k : z_S E M d C S f (pc + 1) lv st H cs ss o) : z_S E M d C S f pc lv (va :: st) H cs ss o := by
  intro yy hyy p l e s m args below meth c Hp locs ls X hW hl
  exact lv_pop2_2 X.1 X.2.1 hd ((z_v_cat E _).trans hva) (k yy hyy p l e s m args below meth c Hp locs ls X hW hl)
theorem zs_icmp_eq {x y : Int32} {off : Int} {tgt : Nat} (hd : decode M.2.1 pc = .ok (.if_icmp .eq off, 3)) (ht : (pc : Int) + off = (tgt : Int)) (kt : (x = y) → z_S E M d C S f tgt lv st H cs ss oa) (kf : ¬ (x = y) → z_S E M d C S f (pc + 3) lv st H cs ss ob) : z_S E M d C S f pc lv (zI y :: zI x :: st) H cs ss (if (x = y) then oa else ob) := by
  intro yy hyy p l e s m args below meth c Hp locs ls X hW hl
  exact lv_icmp_eq X.1 X.2.1 hd ht (fun q => kt q yy ((if_pos q).symm.trans hyy) p l e s m args below meth c Hp locs ls X hW hl) (fun q => kf q yy ((if_neg q).symm.trans hyy) p l e s m args below meth c Hp locs ls X hW hl)
theorem zs_if_eq {x : Int32} {off : Int} {tgt : Nat} (hd : decode M.2.1 pc = .ok (.ifCond .eq off, 3)) (ht : (pc : Int) + off = (tgt : Int)) (kt : (x = 0) → z_S E M d C S f tgt lv st H cs ss oa) (kf : ¬ (x = 0) → z_S E M d C S f (pc + 3) lv st H cs ss ob) : z_S E M d C S f pc lv (zI x :: st) H cs ss (if (x = 0) then oa else ob) := by
  intro yy hyy p l e s m args below meth c Hp locs ls X hW hl
  exact lv_if_eq X.1 X.2.1 hd ht (fun q => kt q yy ((if_pos q).symm.trans hyy) p l e s m args below meth c Hp locs ls X hW hl) (fun q => kf q yy ((if_neg q).symm.trans hyy) p l e s m args below meth c Hp locs ls X hW hl)
theorem zs_icmp_ne {x y : Int32} {off : Int} {tgt : Nat} (hd : decode M.2.1 pc = .ok (.if_icmp .ne off, 3)) (ht : (pc : Int) + off = (tgt : Int)) (kt : ¬ (x = y) → z_S E M d C S f tgt lv st H cs ss ob) (kf : (x = y) → z_S E M d C S f (pc + 3) lv st H cs ss oa) : z_S E M d C S f pc lv (zI y :: zI x :: st) H cs ss (if (x = y) then oa else ob) := by
  intro yy hyy p l e s m args below meth c Hp locs ls X hW hl
  exact lv_icmp_ne X.1 X.2.1 hd ht (fun q => kt q yy ((if_neg q).symm.trans hyy) p l e s m args below meth c Hp locs ls X hW hl) (fun q => kf q yy ((if_pos q).symm.trans hyy) p l e s m args below meth c Hp locs ls X hW hl)
theorem zs_if_ne {x : Int32} {off : Int} {tgt : Nat} (hd : decode M.2.1 pc = .ok (.ifCond .ne off, 3)) (ht : (pc : Int) + off = (tgt : Int)) (kt : ¬ (x = 0) → z_S E M d C S f tgt lv st H cs ss ob) (kf : (x = 0) → z_S E M d C S f (pc + 3) lv st H cs ss oa) : z_S E M d C S f pc lv (zI x :: st) H cs ss (if (x = 0) then oa else ob) := by
  intro yy hyy p l e s m args below meth c Hp locs ls X hW hl
  exact lv_if_ne X.1 X.2.1 hd ht (fun q => kt q yy ((if_neg q).symm.trans hyy) p l e s m args below meth c Hp locs ls X hW hl) (fun q => kf q yy ((if_pos q).symm.trans hyy) p l e s m args below meth c Hp locs ls X hW hl)
theorem zs_icmp_lt {x y : Int32} {off : Int} {tgt : Nat} (hd : decode M.2.1 pc = .ok (.if_icmp .lt off, 3)) (ht : (pc : Int) + off = (tgt : Int)) (kt : (x < y) → z_S E M d C S f tgt lv st H cs ss oa) (kf : ¬ (x < y) → z_S E M d C S f (pc + 3) lv st H cs ss ob) : z_S E M d C S f pc lv (zI y :: zI x :: st) H cs ss (if (x < y) then oa else ob) := by
  intro yy hyy p l e s m args below meth c Hp locs ls X hW hl
  exact lv_icmp_lt X.1 X.2.1 hd ht (fun q => kt q yy ((if_pos q).symm.trans hyy) p l e s m args below meth c Hp locs ls X hW hl) (fun q => kf q yy ((if_neg q).symm.trans hyy) p l e s m args below meth c Hp locs ls X hW hl)
theorem zs_if_lt {x : Int32} {off : Int} {tgt : Nat} (hd : decode M.2.1 pc = .ok (.ifCond .lt off, 3)) (ht : (pc : Int) + off = (tgt : Int)) (kt : (x < 0) → z_S E M d C S f tgt lv st H cs ss oa) (kf : ¬ (x < 0) → z_S E M d C S f (pc + 3) lv st H cs ss ob) : z_S E M d C S f pc lv (zI x :: st) H cs ss (if (x < 0) then oa else ob) := by
  intro yy hyy p l e s m args below meth c Hp locs ls X hW hl
  exact lv_if_lt X.1 X.2.1 hd ht (fun q => kt q yy ((if_pos q).symm.trans hyy) p l e s m args below meth c Hp locs ls X hW hl) (fun q => kf q yy ((if_neg q).symm.trans hyy) p l e s m args below meth c Hp locs ls X hW hl)
theorem zs_icmp_ge {x y : Int32} {off : Int} {tgt : Nat} (hd : decode M.2.1 pc = .ok (.if_icmp .ge off, 3)) (ht : (pc : Int) + off = (tgt : Int)) (kt : (y ≤ x) → z_S E M d C S f tgt lv st H cs ss oa) (kf : ¬ (y ≤ x) → z_S E M d C S f (pc + 3) lv st H cs ss ob) : z_S E M d C S f pc lv (zI y :: zI x :: st) H cs ss (if (y ≤ x) then oa else ob) := by
  intro yy hyy p l e s m args below meth c Hp locs ls X hW hl
  exact lv_icmp_ge X.1 X.2.1 hd ht (fun q => kt q yy ((if_pos q).symm.trans hyy) p l e s m args below meth c Hp locs ls X hW hl) (fun q => kf q yy ((if_neg q).symm.trans hyy) p l e s m args below meth c Hp locs ls X hW hl)
theorem zs_if_ge {x : Int32} {off : Int} {tgt : Nat} (hd : decode M.2.1 pc = .ok (.ifCond .ge off, 3)) (ht : (pc : Int) + off = (tgt : Int)) (kt : (0 ≤ x) → z_S E M d C S f tgt lv st H cs ss oa) (kf : ¬ (0 ≤ x) → z_S E M d C S f (pc + 3) lv st H cs ss ob) : z_S E M d C S f pc lv (zI x :: st) H cs ss (if (0 ≤ x) then oa else ob) := by
  intro yy hyy p l e s m args below meth c Hp locs ls X hW hl
  exact lv_if_ge X.1 X.2.1 hd ht (fun q => kt q yy ((if_pos q).symm.trans hyy) p l e s m args below meth c Hp locs ls X hW hl) (fun q => kf q yy ((if_neg q).symm.trans hyy) p l e s m args below meth c Hp locs ls X hW hl)
theorem zs_icmp_gt {x y : Int32} {off : Int} {tgt : Nat} (hd : decode M.2.1 pc = .ok (.if_icmp .gt off, 3)) (ht : (pc : Int) + off = (tgt : Int)) (kt : (y < x) → z_S E M d C S f tgt lv st H cs ss oa) (kf : ¬ (y < x) → z_S E M d C S f (pc + 3) lv st H cs ss ob) : z_S E M d C S f pc lv (zI y :: zI x :: st) H cs ss (if (y < x) then oa else ob) := by
  intro yy hyy p l e s m args below meth c Hp locs ls X hW hl
  exact lv_icmp_gt X.1 X.2.1 hd ht (fun q => kt q yy ((if_pos q).symm.trans hyy) p l e s m args below meth c Hp locs ls X hW hl) (fun q => kf q yy ((if_neg q).symm.trans hyy) p l e s m args below meth c Hp locs ls X hW hl)
theorem zs_if_gt {x : Int32} {off : Int} {tgt : Nat} (hd : decode M.2.1 pc = .ok (.ifCond .gt off, 3)) (ht : (pc : Int) + off = (tgt : Int)) (kt : (0 < x) → z_S E M d C S f tgt lv st H cs ss oa) (kf : ¬ (0 < x) → z_S E M d C S f (pc + 3) lv st H cs ss ob) : z_S E M d C S f pc lv (zI x :: st) H cs ss (if (0 < x) then oa else ob) := by
  intro yy hyy p l e s m args below meth c Hp locs ls X hW hl
  exact lv_if_gt X.1 X.2.1 hd ht (fun q => kt q yy ((if_pos q).symm.trans hyy) p l e s m args below meth c Hp locs ls X hW hl) (fun q => kf q yy ((if_neg q).symm.trans hyy) p l e s m args below meth c Hp locs ls X hW hl)
theorem zs_icmp_le {x y : Int32} {off : Int} {tgt : Nat} (hd : decode M.2.1 pc = .ok (.if_icmp .le off, 3)) (ht : (pc : Int) + off = (tgt : Int)) (kt : (x ≤ y) → z_S E M d C S f tgt lv st H cs ss oa) (kf : ¬ (x ≤ y) → z_S E M d C S f (pc + 3) lv st H cs ss ob) : z_S E M d C S f pc lv (zI y :: zI x :: st) H cs ss (if (x ≤ y) then oa else ob) := by
  intro yy hyy p l e s m args below meth c Hp locs ls X hW hl
  exact lv_icmp_le X.1 X.2.1 hd ht (fun q => kt q yy ((if_pos q).symm.trans hyy) p l e s m args below meth c Hp locs ls X hW hl) (fun q => kf q yy ((if_neg q).symm.trans hyy) p l e s m args below meth c Hp locs ls X hW hl)
theorem zs_if_le {x : Int32} {off : Int} {tgt : Nat} (hd : decode M.2.1 pc = .ok (.ifCond .le off, 3)) (ht : (pc : Int) + off = (tgt : Int)) (kt : (x ≤ 0) → z_S E M d C S f tgt lv st H cs ss oa) (kf : ¬ (x ≤ 0) → z_S E M d C S f (pc + 3) lv st H cs ss ob) : z_S E M d C S f pc lv (zI x :: st) H cs ss (if (x ≤ 0) then oa else ob) := by
  intro yy hyy p l e s m args below meth c Hp locs ls X hW hl
  exact lv_if_le X.1 X.2.1 hd ht (fun q => kt q yy ((if_pos q).symm.trans hyy) p l e s m args below meth c Hp locs ls X hW hl) (fun q => kf q yy ((if_neg q).symm.trans hyy) p l e s m args below meth c Hp locs ls X hW hl)
theorem zs_lcmp0 {x y : Int64} (hd : decode M.2.1 pc = .ok (.lcmp, 1)) (k : z_S E M d C S f (pc + 1) lv (zI (lg_cmp x y) :: st) H cs ss o) : z_S E M d C S f pc lv (zL y :: zL x :: st) H cs ss o := by
  intro yy hyy p l e s m args below meth c Hp locs ls X hW hl
  exact W.lcmp X.1 X.2.1 hd (k yy hyy p l e s m args below meth c Hp locs ls X hW hl)
theorem zs_cm (x y : Int64) : (lg_cmp x y = 0 ↔ x = y) ∧ (lg_cmp x y < 0 ↔ x < y) ∧ (0 ≤ lg_cmp x y ↔ y ≤ x) ∧ (0 < lg_cmp x y ↔ y < x) ∧ (lg_cmp x y ≤ 0 ↔ x ≤ y) := by
  unfold lg_cmp
  simp only [gt_iff_lt, Int64.lt_iff_toInt_lt, Int64.le_iff_toInt_le, ← Int64.toInt_inj]
  by_cases h1 : y.toInt < x.toInt
  · rw [if_pos h1]
    refine ⟨?_, ?_, ?_, ?_, ?_⟩ <;> constructor <;> intro h <;> first | omega | decide | exact absurd h (by decide)
  · rw [if_neg h1]
    by_cases h2 : x.toInt = y.toInt
    · rw [if_pos h2]
      refine ⟨?_, ?_, ?_, ?_, ?_⟩ <;> constructor <;> intro h <;> first | omega | decide | exact absurd h (by decide)
    · rw [if_neg h2]
      refine ⟨?_, ?_, ?_, ?_, ?_⟩ <;> constructor <;> intro h <;> first | omega | decide | exact absurd h (by decide)
theorem zs_lcmp_eq {x y : Int64} {off : Int} {tgt : Nat} (hd : decode M.2.1 pc = .ok (.lcmp, 1)) (hd2 : decode M.2.1 (pc + 1) = .ok (.ifCond .eq off, 3)) (ht : ((pc + 1 : Nat) : Int) + off = (tgt : Int)) (kt : (x = y) → z_S E M d C S f tgt lv st H cs ss oa) (kf : ¬ (x = y) → z_S E M d C S f (pc + 1 + 3) lv st H cs ss ob) : z_S E M d C S f pc lv (zL y :: zL x :: st) H cs ss (if (x = y) then oa else ob) := by
  have hh : (if (x = y) then oa else ob) = (if (lg_cmp x y = 0) then oa else ob) := by simp only [(zs_cm x y).1]
  rw [hh]
  exact zs_lcmp0 hd (zs_if_eq hd2 ht (fun q => kt ((zs_cm x y).1.mp q)) (fun q => kf (fun q2 => q ((zs_cm x y).1.mpr q2))))
theorem zs_lcmp_ne {x y : Int64} {off : Int} {tgt : Nat} (hd : decode M.2.1 pc = .ok (.lcmp, 1)) (hd2 : decode M.2.1 (pc + 1) = .ok (.ifCond .ne off, 3)) (ht : ((pc + 1 : Nat) : Int) + off = (tgt : Int)) (kt : ¬ (x = y) → z_S E M d C S f tgt lv st H cs ss ob) (kf : (x = y) → z_S E M d C S f (pc + 1 + 3) lv st H cs ss oa) : z_S E M d C S f pc lv (zL y :: zL x :: st) H cs ss (if (x = y) then oa else ob) := by
  have hh : (if (x = y) then oa else ob) = (if (lg_cmp x y = 0) then oa else ob) := by simp only [(zs_cm x y).1]
  rw [hh]
  exact zs_lcmp0 hd (zs_if_ne hd2 ht (fun q => kt (fun q2 => q ((zs_cm x y).1.mpr q2))) (fun q => kf ((zs_cm x y).1.mp q)))
theorem zs_lcmp_lt {x y : Int64} {off : Int} {tgt : Nat} (hd : decode M.2.1 pc = .ok (.lcmp, 1)) (hd2 : decode M.2.1 (pc + 1) = .ok (.ifCond .lt off, 3)) (ht : ((pc + 1 : Nat) : Int) + off = (tgt : Int)) (kt : (x < y) → z_S E M d C S f tgt lv st H cs ss oa) (kf : ¬ (x < y) → z_S E M d C S f (pc + 1 + 3) lv st H cs ss ob) : z_S E M d C S f pc lv (zL y :: zL x :: st) H cs ss (if (x < y) then oa else ob) := by
  have hh : (if (x < y) then oa else ob) = (if (lg_cmp x y < 0) then oa else ob) := by simp only [(zs_cm x y).2.1]
  rw [hh]
  exact zs_lcmp0 hd (zs_if_lt hd2 ht (fun q => kt ((zs_cm x y).2.1.mp q)) (fun q => kf (fun q2 => q ((zs_cm x y).2.1.mpr q2))))
theorem zs_lcmp_ge {x y : Int64} {off : Int} {tgt : Nat} (hd : decode M.2.1 pc = .ok (.lcmp, 1)) (hd2 : decode M.2.1 (pc + 1) = .ok (.ifCond .ge off, 3)) (ht : ((pc + 1 : Nat) : Int) + off = (tgt : Int)) (kt : (y ≤ x) → z_S E M d C S f tgt lv st H cs ss oa) (kf : ¬ (y ≤ x) → z_S E M d C S f (pc + 1 + 3) lv st H cs ss ob) : z_S E M d C S f pc lv (zL y :: zL x :: st) H cs ss (if (y ≤ x) then oa else ob) := by
  have hh : (if (y ≤ x) then oa else ob) = (if (0 ≤ lg_cmp x y) then oa else ob) := by simp only [(zs_cm x y).2.2.1]
  rw [hh]
  exact zs_lcmp0 hd (zs_if_ge hd2 ht (fun q => kt ((zs_cm x y).2.2.1.mp q)) (fun q => kf (fun q2 => q ((zs_cm x y).2.2.1.mpr q2))))
theorem zs_lcmp_gt {x y : Int64} {off : Int} {tgt : Nat} (hd : decode M.2.1 pc = .ok (.lcmp, 1)) (hd2 : decode M.2.1 (pc + 1) = .ok (.ifCond .gt off, 3)) (ht : ((pc + 1 : Nat) : Int) + off = (tgt : Int)) (kt : (y < x) → z_S E M d C S f tgt lv st H cs ss oa) (kf : ¬ (y < x) → z_S E M d C S f (pc + 1 + 3) lv st H cs ss ob) : z_S E M d C S f pc lv (zL y :: zL x :: st) H cs ss (if (y < x) then oa else ob) := by
  have hh : (if (y < x) then oa else ob) = (if (0 < lg_cmp x y) then oa else ob) := by simp only [(zs_cm x y).2.2.2.1]
  rw [hh]
  exact zs_lcmp0 hd (zs_if_gt hd2 ht (fun q => kt ((zs_cm x y).2.2.2.1.mp q)) (fun q => kf (fun q2 => q ((zs_cm x y).2.2.2.1.mpr q2))))
theorem zs_lcmp_le {x y : Int64} {off : Int} {tgt : Nat} (hd : decode M.2.1 pc = .ok (.lcmp, 1)) (hd2 : decode M.2.1 (pc + 1) = .ok (.ifCond .le off, 3)) (ht : ((pc + 1 : Nat) : Int) + off = (tgt : Int)) (kt : (x ≤ y) → z_S E M d C S f tgt lv st H cs ss oa) (kf : ¬ (x ≤ y) → z_S E M d C S f (pc + 1 + 3) lv st H cs ss ob) : z_S E M d C S f pc lv (zL y :: zL x :: st) H cs ss (if (x ≤ y) then oa else ob) := by
  have hh : (if (x ≤ y) then oa else ob) = (if (lg_cmp x y ≤ 0) then oa else ob) := by simp only [(zs_cm x y).2.2.2.2]
  rw [hh]
  exact zs_lcmp0 hd (zs_if_le hd2 ht (fun q => kt ((zs_cm x y).2.2.2.2.mp q)) (fun q => kf (fun q2 => q ((zs_cm x y).2.2.2.2.mpr q2))))
theorem zs_ite {cnd : Prop} {_ : Decidable cnd} (ka : cnd → z_S E M d C S f pc lv st H cs ss oa) (kb : ¬ cnd → z_S E M d C S f pc lv st H cs ss ob) : z_S E M d C S f pc lv st H cs ss (if cnd then oa else ob) := by
  by_cases hq : cnd
  · rw [if_pos hq]; exact ka hq
  · rw [if_neg hq]; exact kb hq
theorem zs_goto {off : Int} {tgt : Nat} (hd : decode M.2.1 pc = .ok (.goto off, 3)) (ht : (pc : Int) + off = (tgt : Int)) (k : z_S E M d C S f tgt lv st H cs ss o) : z_S E M d C S f pc lv st H cs ss o := by
  intro yy hyy p l e s m args below meth c Hp locs ls X hW hl
  exact lv_goto X.1 X.2.1 hd ht (k yy hyy p l e s m args below meth c Hp locs ls X hW hl)
theorem zs_ifnull {r : Option Nat} {off : Int} {tgt : Nat} (hd : decode M.2.1 pc = .ok (.ifnull off, 3)) (ht : (pc : Int) + off = (tgt : Int)) (kt : r = none → z_S E M d C S f tgt lv st H cs ss oa) (kf : ¬ r = none → z_S E M d C S f (pc + 3) lv st H cs ss ob) : z_S E M d C S f pc lv (zR r :: st) H cs ss (if r = none then oa else ob) := by
  cases r with
  | none =>
    rw [if_pos rfl]
    intro yy hyy p l e s m args below meth c Hp locs ls X hW hl
    exact lv_ifnullN X.1 X.2.1 hd ht (kt rfl yy hyy p l e s m args below meth c Hp locs ls X hW hl)
  | some x =>
    rw [if_neg (by intro h; cases h)]
    intro yy hyy p l e s m args below meth c Hp locs ls X hW hl
    exact lv_ifnull X.1 X.2.1 hd (kf (by intro h; cases h) yy hyy p l e s m args below meth c Hp locs ls X hW hl)
theorem zs_ifnonnull {r : Option Nat} {off : Int} {tgt : Nat} (hd : decode M.2.1 pc = .ok (.ifnonnull off, 3)) (ht : (pc : Int) + off = (tgt : Int)) (kt : ¬ r = none → z_S E M d C S f tgt lv st H cs ss ob) (kf : r = none → z_S E M d C S f (pc + 3) lv st H cs ss oa) : z_S E M d C S f pc lv (zR r :: st) H cs ss (if r = none then oa else ob) := by
  cases r with
  | none =>
    rw [if_pos rfl]
    intro yy hyy p l e s m args below meth c Hp locs ls X hW hl
    exact lv_ifnonnullN X.1 X.2.1 hd (kf rfl yy hyy p l e s m args below meth c Hp locs ls X hW hl)
  | some x =>
    rw [if_neg (by intro h; cases h)]
    intro yy hyy p l e s m args below meth c Hp locs ls X hW hl
    exact lv_ifnonnull X.1 X.2.1 hd ht (kt (by intro h; cases h) yy hyy p l e s m args below meth c Hp locs ls X hW hl)
theorem zs_lookup {dflt : Int} {ps : Array (Int × Int)} {len : Nat} {x : Int32} {off : Int} {tgt : Nat} (hd : decode M.2.1 pc = .ok (.lookupswitch dflt ps, len)) (hp : (ps.toList.zip (ps.toList.drop 1)).all (fun (a, next) => a.1 < next.1) = true) (ho : Op.lookupswitch.offset ps.toList dflt x.toInt = off) (ht : (pc : Int) + off = (tgt : Int)) (k : z_S E M d C S f tgt lv st H cs ss o) : z_S E M d C S f pc lv (zI x :: st) H cs ss o := by
  intro yy hyy p l e s m args below meth c Hp locs ls X hW hl
  exact lv_lookup X.1 X.2.1 hd hp ho ht (k yy hyy p l e s m args below meth c Hp locs ls X hW hl)
theorem zs_tableOut {dflt lo hi : Int} {offs : Array Int} {len : Nat} {x : Int32} {tgt : Nat} (hd : decode M.2.1 pc = .ok (.tableswitch dflt lo hi offs, len)) (ho : x.toInt < lo ∨ hi < x.toInt) (ht : (pc : Int) + dflt = (tgt : Int)) (k : z_S E M d C S f tgt lv st H cs ss o) : z_S E M d C S f pc lv (zI x :: st) H cs ss o := by
  intro yy hyy p l e s m args below meth c Hp locs ls X hW hl
  exact lv_tableOut X.1 X.2.1 hd ho ht (k yy hyy p l e s m args below meth c Hp locs ls X hW hl)
theorem zs_tableIn {dflt lo hi : Int} {offs : Array Int} {len : Nat} {x : Int32} {off : Int} {tgt : Nat} (hd : decode M.2.1 pc = .ok (.tableswitch dflt lo hi offs, len)) (h1 : ¬ x.toInt < lo) (h2 : ¬ hi < x.toInt) (ho : offs[(x.toInt - lo).toNat]? = some off) (ht : (pc : Int) + off = (tgt : Int)) (k : z_S E M d C S f tgt lv st H cs ss o) : z_S E M d C S f pc lv (zI x :: st) H cs ss o := by
  intro yy hyy p l e s m args below meth c Hp locs ls X hW hl
  exact lv_tableIn X.1 X.2.1 hd h1 h2 ho ht (k yy hyy p l e s m args below meth c Hp locs ls X hW hl)
def z_tsw (pc : Nat) (dflt lo hi : Int) (offs : Array Int) (k : Int) : Int := (pc : Int) + (if k < lo ∨ hi < k then dflt else offs.getD (k - lo).toNat 0)
def z_twf (lo hi : Int) (offs : Array Int) : Bool := hi + 1 ≤ lo + (offs.size : Int)
theorem zs_table {dflt lo hi : Int} {offs : Array Int} {len : Nat} {x : Int32} {tgt : Nat} (hd : decode M.2.1 pc = .ok (.tableswitch dflt lo hi offs, len)) (hwf : z_twf lo hi offs = true) (ht : z_tsw pc dflt lo hi offs x.toInt = (tgt : Int)) (k : z_S E M d C S f tgt lv st H cs ss o) : z_S E M d C S f pc lv (zI x :: st) H cs ss o := by
  unfold z_tsw at ht
  by_cases hb : x.toInt < lo ∨ hi < x.toInt
  · rw [if_pos hb] at ht
    exact zs_tableOut hd hb ht k
  · rw [if_neg hb] at ht
    have h1 : ¬ x.toInt < lo := fun q => hb (Or.inl q)
    have h2 : ¬ hi < x.toInt := fun q => hb (Or.inr q)
    have h3 : hi + 1 ≤ lo + (offs.size : Int) := by simpa [z_twf] using hwf
    have h4 : (x.toInt - lo).toNat < offs.size := by omega
    refine zs_tableIn hd h1 h2 (off := offs[(x.toInt - lo).toNat]) (by rw [Array.getElem?_eq_getElem h4]) ?_ k
    rw [Array.getD, dif_pos h4] at ht
    exact ht
def z_lsw (pc : Nat) (dflt : Int) (ps : Array (Int × Int)) (k : Int) : Int := (pc : Int) + Op.lookupswitch.offset ps.toList dflt k
theorem zs_lookup2 {dflt : Int} {ps : Array (Int × Int)} {len : Nat} {x : Int32} {tgt : Nat} (hd : decode M.2.1 pc = .ok (.lookupswitch dflt ps, len)) (hp : (ps.toList.zip (ps.toList.drop 1)).all (fun (a, next) => a.1 < next.1) = true) (ht : z_lsw pc dflt ps x.toInt = (tgt : Int)) (k : z_S E M d C S f tgt lv st H cs ss o) : z_S E M d C S f pc lv (zI x :: st) H cs ss o := zs_lookup hd hp rfl ht k
theorem zs_tne {x kk : Int32} {k : Int} (h : ¬ x = kk) (hk : kk.toInt = k) : x.toInt ≠ k := fun e => h (Int32.toInt_inj.mp (e.trans hk.symm))
theorem zs_iload {i : Nat} {x : Int32} (hd : decode M.2.1 pc = .ok (.iload i, 2)) (hg : z_get lv i = some (zI x)) (k : z_S E M d C S f (pc + 2) lv (zI x :: st) H cs ss o) : z_S E M d C S f pc lv st H cs ss o := by
  intro yy hyy p l e s m args below meth c Hp locs ls X hW hl
  exact lv_iload X.1 X.2.1 hd (z_lget hl hg) (k yy hyy p l e s m args below meth c Hp locs ls X hW hl)
theorem zs_iload_n {i : Fin 4} {x : Int32} (hd : decode M.2.1 pc = .ok (.iload_n i, 1)) (hg : z_get lv (i : Nat) = some (zI x)) (k : z_S E M d C S f (pc + 1) lv (zI x :: st) H cs ss o) : z_S E M d C S f pc lv st H cs ss o := by
  intro yy hyy p l e s m args below meth c Hp locs ls X hW hl
  exact lv_iload_n X.1 X.2.1 hd rfl (z_lget hl hg) (k yy hyy p l e s m args below meth c Hp locs ls X hW hl)
theorem zs_lload {i : Nat} {x : Int64} (hd : decode M.2.1 pc = .ok (.lload i, 2)) (hg : z_get lv i = some (zL x)) (k : z_S E M d C S f (pc + 2) lv (zL x :: st) H cs ss o) : z_S E M d C S f pc lv st H cs ss o := by
  intro yy hyy p l e s m args below meth c Hp locs ls X hW hl
  exact lv_lload X.1 X.2.1 hd (z_lget hl hg) (k yy hyy p l e s m args below meth c Hp locs ls X hW hl)
theorem zs_lload_n {i : Fin 4} {x : Int64} (hd : decode M.2.1 pc = .ok (.lload_n i, 1)) (hg : z_get lv (i : Nat) = some (zL x)) (k : z_S E M d C S f (pc + 1) lv (zL x :: st) H cs ss o) : z_S E M d C S f pc lv st H cs ss o := by
  intro yy hyy p l e s m args below meth c Hp locs ls X hW hl
  exact lv_lload_n X.1 X.2.1 hd rfl (z_lget hl hg) (k yy hyy p l e s m args below meth c Hp locs ls X hW hl)
theorem zs_aload {i : Nat} {x : Option Nat} (hd : decode M.2.1 pc = .ok (.aload i, 2)) (hg : z_get lv i = some (zR x)) (k : z_S E M d C S f (pc + 2) lv (zR x :: st) H cs ss o) : z_S E M d C S f pc lv st H cs ss o := by
  intro yy hyy p l e s m args below meth c Hp locs ls X hW hl
  cases x with
  | none => exact lv_aloadN X.1 X.2.1 hd (z_lget hl hg) (k yy hyy p l e s m args below meth c Hp locs ls X hW hl)
  | some x => exact lv_aload X.1 X.2.1 hd (z_lget hl hg) (k yy hyy p l e s m args below meth c Hp locs ls X hW hl)
theorem zs_aload_n {i : Fin 4} {x : Option Nat} (hd : decode M.2.1 pc = .ok (.aload_n i, 1)) (hg : z_get lv (i : Nat) = some (zR x)) (k : z_S E M d C S f (pc + 1) lv (zR x :: st) H cs ss o) : z_S E M d C S f pc lv st H cs ss o := by
  intro yy hyy p l e s m args below meth c Hp locs ls X hW hl
  cases x with
  | none => exact lv_aload_nN X.1 X.2.1 hd rfl (z_lget hl hg) (k yy hyy p l e s m args below meth c Hp locs ls X hW hl)
  | some x => exact lv_aload_n X.1 X.2.1 hd rfl (z_lget hl hg) (k yy hyy p l e s m args below meth c Hp locs ls X hW hl)
theorem zs_istore {i : Nat} {x : Int32} {lv' : List (Nat × zV)} (hd : decode M.2.1 pc = .ok (.istore i, 2)) (hn : i < M.2.2.1) (hv : z_put1 lv i (zI x) = lv') (k : z_S E M d C S f (pc + 2) lv' st H cs ss o) : z_S E M d C S f pc lv (zI x :: st) H cs ss o := by
  subst hv
  intro yy hyy p l e s m args below meth c Hp locs ls X hW hl
  exact lv_istore X.1 X.2.1 hd hl hn (z_l_put1 E lv i (zI x)).symm (fun ls' hl' => k yy hyy p l e s m args below meth c Hp locs ls' X hW hl')
theorem zs_istore_n {i : Fin 4} {x : Int32} {lv' : List (Nat × zV)} (hd : decode M.2.1 pc = .ok (.istore_n i, 1)) (hn : (i : Nat) < M.2.2.1) (hv : z_put1 lv (i : Nat) (zI x) = lv') (k : z_S E M d C S f (pc + 1) lv' st H cs ss o) : z_S E M d C S f pc lv (zI x :: st) H cs ss o := by
  subst hv
  intro yy hyy p l e s m args below meth c Hp locs ls X hW hl
  exact lv_istore_n X.1 X.2.1 hd rfl hl hn (z_l_put1 E lv (i : Nat) (zI x)).symm (fun ls' hl' => k yy hyy p l e s m args below meth c Hp locs ls' X hW hl')
theorem zs_lstore {i : Nat} {x : Int64} {lv' : List (Nat × zV)} (hd : decode M.2.1 pc = .ok (.lstore i, 2)) (hn : i + 1 < M.2.2.1) (hv : z_put2 lv i (zL x) = lv') (k : z_S E M d C S f (pc + 2) lv' st H cs ss o) : z_S E M d C S f pc lv (zL x :: st) H cs ss o := by
  subst hv
  intro yy hyy p l e s m args below meth c Hp locs ls X hW hl
  exact lv_lstore X.1 X.2.1 hd hl hn (z_l_put2 E lv i (zL x)).symm (fun ls' hl' => k yy hyy p l e s m args below meth c Hp locs ls' X hW hl')
theorem zs_lstore_n {i : Fin 4} {x : Int64} {lv' : List (Nat × zV)} (hd : decode M.2.1 pc = .ok (.lstore_n i, 1)) (hn : (i : Nat) + 1 < M.2.2.1) (hv : z_put2 lv (i : Nat) (zL x) = lv') (k : z_S E M d C S f (pc + 1) lv' st H cs ss o) : z_S E M d C S f pc lv (zL x :: st) H cs ss o := by
  subst hv
  intro yy hyy p l e s m args below meth c Hp locs ls X hW hl
  exact lv_lstore_n X.1 X.2.1 hd rfl hl hn (z_l_put2 E lv (i : Nat) (zL x)).symm (fun ls' hl' => k yy hyy p l e s m args below meth c Hp locs ls' X hW hl')
theorem zs_astore {i : Nat} {x : Option Nat} {lv' : List (Nat × zV)} (hd : decode M.2.1 pc = .ok (.astore i, 2)) (hn : i < M.2.2.1) (hv : z_put1 lv i (zR x) = lv') (k : z_S E M d C S f (pc + 2) lv' st H cs ss o) : z_S E M d C S f pc lv (zR x :: st) H cs ss o := by
  subst hv
  intro yy hyy p l e s m args below meth c Hp locs ls X hW hl
  cases x with
  | none => exact lv_astoreN X.1 X.2.1 hd hl hn (z_l_put1 E lv i (zR none)).symm (fun ls' hl' => k yy hyy p l e s m args below meth c Hp locs ls' X hW hl')
  | some x => exact lv_astore X.1 X.2.1 hd hl hn (z_l_put1 E lv i (zR (some x))).symm (fun ls' hl' => k yy hyy p l e s m args below meth c Hp locs ls' X hW hl')
theorem zs_astore_n {i : Fin 4} {x : Option Nat} {lv' : List (Nat × zV)} (hd : decode M.2.1 pc = .ok (.astore_n i, 1)) (hn : (i : Nat) < M.2.2.1) (hv : z_put1 lv (i : Nat) (zR x) = lv') (k : z_S E M d C S f (pc + 1) lv' st H cs ss o) : z_S E M d C S f pc lv (zR x :: st) H cs ss o := by
  subst hv
  intro yy hyy p l e s m args below meth c Hp locs ls X hW hl
  cases x with
  | none => exact lv_astore_nN X.1 X.2.1 hd rfl hl hn (z_l_put1 E lv (i : Nat) (zR none)).symm (fun ls' hl' => k yy hyy p l e s m args below meth c Hp locs ls' X hW hl')
  | some x => exact lv_astore_n X.1 X.2.1 hd rfl hl hn (z_l_put1 E lv (i : Nat) (zR (some x))).symm (fun ls' hl' => k yy hyy p l e s m args below meth c Hp locs ls' X hW hl')
theorem zs_iinc {i : Nat} {a : Int} {x v : Int32} {lv' : List (Nat × zV)} (hd : decode M.2.1 pc = .ok (.iinc i a, 3)) (hg : z_get lv i = some (zI x)) (he : x + Int32.ofInt a = v) (hn : i < M.2.2.1) (hv : z_put1 lv i (zI v) = lv') (k : z_S E M d C S f (pc + 3) lv' st H cs ss o) : z_S E M d C S f pc lv st H cs ss o := by
  subst hv
  intro yy hyy p l e s m args below meth c Hp locs ls X hW hl
  obtain ⟨j, hj⟩ := List.getElem?_of_mem (List.mem_map.mpr ⟨(i, zI x), z_get_mem hg, rfl⟩ : (i, z_v E (zI x)) ∈ z_l E lv)
  exact lv_iinc (k := j) X.1 X.2.1 hd hl hj he hn (z_l_put1 E lv i (zI v)).symm (fun ls' hl' => k yy hyy p l e s m args below meth c Hp locs ls' X hW hl')
def z_pick (l : List (Nat × zV)) (ks : List Nat) : List (Nat × zV) := ks.filterMap (fun k => l[k]?)
theorem zs_sub {lv' : List (Nat × zV)} (ks : List Nat) (hv : z_pick lv ks = lv') (k : z_S E M d C S f pc lv' st H cs ss o) : z_S E M d C S f pc lv st H cs ss o := by
  intro yy hyy p l e s m args below meth c Hp locs ls X hW hl
  refine k yy hyy p l e s m args below meth c Hp locs ls X hW ⟨hl.1, hl.2.1, fun q hq => ?_⟩
  subst hv
  obtain ⟨v, hv, rfl⟩ := List.mem_map.mp hq
  obtain ⟨j, -, hj⟩ := List.mem_filterMap.mp hv
  exact hl.2.2 _ (List.mem_map.mpr ⟨v, List.mem_of_getElem? hj, rfl⟩)
theorem zs_ldc {i : Nat} {v : Int32} (hd : decode M.2.1 pc = .ok (.ldc i, 2)) (hw : Cond.constant M.1.cls i v ∈ z_tb) (k : z_S E M d C S f (pc + 2) lv (zI v :: st) H cs ss o) : z_S E M d C S f pc lv st H cs ss o := by
  intro yy hyy p l e s m args below meth c Hp locs ls X hW hl
  exact lv_ldc X.1 X.2.1 X.2.2.2.2.2.2.1 (X.2.2.2.2.2.2.2.1 _ hw) hd (k yy hyy p l e s m args below meth c Hp locs ls X hW hl)
theorem zs_ldcw {i : Nat} {v : Int32} (hd : decode M.2.1 pc = .ok (.ldc_w i, 3)) (hw : Cond.constant M.1.cls i v ∈ z_tb) (k : z_S E M d C S f (pc + 3) lv (zI v :: st) H cs ss o) : z_S E M d C S f pc lv st H cs ss o := by
  intro yy hyy p l e s m args below meth c Hp locs ls X hW hl
  exact lv_ldcw X.1 X.2.1 X.2.2.2.2.2.2.1 (X.2.2.2.2.2.2.2.1 _ hw) hd (k yy hyy p l e s m args below meth c Hp locs ls X hW hl)
theorem zs_ldc2 {i : Nat} {v : Int64} (hd : decode M.2.1 pc = .ok (.ldc2_w i, 3)) (hw : Cond.constantLong M.1.cls i v ∈ z_tb) (k : z_S E M d C S f (pc + 3) lv (zL v :: st) H cs ss o) : z_S E M d C S f pc lv st H cs ss o := by
  intro yy hyy p l e s m args below meth c Hp locs ls X hW hl
  exact lv_ldc2 X.1 X.2.1 X.2.2.2.2.2.2.1 (X.2.2.2.2.2.2.2.1 _ hw) hd (k yy hyy p l e s m args below meth c Hp locs ls X hW hl)
theorem zs_none : z_S E M d C S f pc lv st H cs ss none := fun _ h => by cases h
end ZRows
end
section
/-! Fields, arrays, new cells, calls, ends, entry: rows of z_S (printed by mkmem.py). -/
section ZMem
variable {ρ : Type} {E : zE} {M : zM} {d C S : Nat} {f : ρ → zQ} {pc : Nat} {lv : List (Nat × zV)} {st : List zV} {H : zH} {cs ss : Nat} {o oa ob : Option ρ} {q : zQ}
theorem z_ad_pos {k : Nat} (hk : 1 ≤ k) : z_ad E k = z_B E + k := by simp [z_ad, show k ≠ 0 by omega]
theorem z_cell {k : Nat} {x : zC} (hk : 1 ≤ k ∧ k < H.2) (hc : H.1 k = x) : (z_w E H)[k - 1]? = some (z_ad E k, z_c E x) := by
  rw [z_w_at hk.1 hk.2, hc, z_ad_pos hk.1]
section ZCx
variable {p : Program} {s : State} {m : MethodId} {args : Array Value} {meth : Method} {c : Code}
theorem z_Cx.words (X : z_Cx E M p s m args meth c) : ∀ w ∈ z_tb, w.before args s = true := X.2.2.2.2.2.2.2.1
theorem z_Cx.own (X : z_Cx E M p s m args meth c) : s.vm.findClass M.1.cls = some m.cls := X.2.2.2.2.2.2.1
theorem z_Cx.K (X : z_Cx E M p s m args meth c) : va_K E.1 classes (z_ts E) s := X.2.2.2.2.2.2.2.2.1
theorem z_Cx.base (X : z_Cx E M p s m args meth c) : E.2.2.2.1 ≤ z_B E ∧ z_B E < s.heap.size := ⟨X.2.2.2.2.2.2.2.2.2.2.1, X.2.2.2.2.2.2.2.2.2.2.2.1⟩
theorem z_Cx.NW (X : z_Cx E M p s m args meth c) : z_NW s := X.2.2.2.2.2.2.2.2.2.2.2.2
theorem z_Cx.A (X : z_Cx E M p s m args meth c) : ∀ q, s.heap.size ≤ q → z_A E q := fun q hq => Nat.lt_of_lt_of_le X.base.2 hq
/-- the script stays -/
theorem z_script {Hp : Heap} {locs : List Loc} (X : z_Cx E M p s m args meth c) (hS : va_S (z_A E) s.heap Hp locs) : va_X E.2.2.2.1 E.2.2.2.2.1 E.2.2.2.2.2 s Hp :=
  X.2.2.2.2.2.2.2.2.2.1.kept (hS.2.1 _ (Nat.lt_of_le_of_lt X.base.1 X.base.2) (by intro hq; have : z_B E < E.2.2.2.1 := hq; have := X.base.1; omega))
/-- what a state with this heap holds -/
theorem z_holds {U : State} {Hp : Heap} {locs : List Loc} (X : z_Cx E M p s m args meth c) (hW : z_Wd E H s Hp locs) (hU : U.heap = Hp) (hw : s.WarmedH U.vm) : z_H E H U := by
  refine ⟨by rw [hU]; exact hW.1, hW.2.1, by rw [hU]; exact hW.2.2.1, va_K.moved hw.alike X.K, ?_, X.base.1, X.NW.warm hw⟩
  rw [hU]
  exact (z_script X hW.2.2.2).moved hw.alike
end ZCx
theorem z_okb {β : Type} {r : Option Nat} {ci : Nat} {g : Unit → Option β} : ∀ y, (zok H r ci).bind g = some y → zok H r ci = some () := fun _ h => by
  obtain ⟨u, hu, -⟩ := Option.bind_eq_some_iff.mp h
  exact hu
theorem zs_bind {α : Type} {x : Option α} {g : α → Option ρ} (k : ∀ v, x = some v → z_S E M d C S f pc lv st H cs ss (g v)) : z_S E M d C S f pc lv st H cs ss (x.bind g) := by
  intro yy hyy
  obtain ⟨v, hv, h⟩ := Option.bind_eq_some_iff.mp hyy
  exact k v hv yy h
-- fields
def z_K (ci : Nat) (Cn : String) (T : u_T) (N : Nat) : Prop := classes[ci]? = some (Cn, T, N) ∧ ∀ w ∈ u_ws Cn T N, w ∈ z_tb
/-- field j of the class ci, by a place of own's pool -/
def z_F (own : String) (idx ci j : Nat) : Prop := ∃ (Cn : String) (T : u_T) (N : Nat), z_K ci Cn T N ∧ j < N ∧ (T j).1 = Cn ∧ (Cond.fieldLink own idx Cn (T j).2.1 (T j).2.2.1 ∈ z_tb ∨ ∃ host, Cond.fieldLinkNest own idx Cn (T j).2.1 (T j).2.2.1 host ∈ z_nb)
theorem z_getf {idx ci j k : Nat} {fs : List zV} {v : zV} (hd : decode M.2.1 pc = .ok (.getfield idx, 3)) (lk : z_F M.1.cls idx ci j) (hk : 1 ≤ k ∧ k < H.2) (hc : H.1 k = .inr (ci, fs)) (hv : fs[j]? = some v) (kk : z_G E M d C S q (pc + 3) lv (v :: st) H cs ss) : z_G E M d C S q pc lv (zR (some k) :: st) H cs ss := by
  intro p l e s m args below meth c Hp locs ls X hW hl
  obtain ⟨Cn, T, N, ⟨hcl, hin⟩, hj, hdec, hlk⟩ := lk
  have hw : (z_w E H)[k - 1]? = some (z_ad E k, .inr (ci, fs.map (z_v E))) := z_cell hk hc
  have hts := X.words
  have hv' : (fs.map (z_v E))[j]? = some (z_v E v) := by rw [List.getElem?_map, hv]; rfl
  have hs : ∀ x, s.fieldFound? (T j).1 (T j).2.1 (T j).2.2.1 = some x → s.fieldFound? Cn (T j).2.1 (T j).2.2.1 = some x := fun x hx => by rw [hdec] at hx; exact hx
  have kk' := kk p l e s m args below meth c Hp locs ls X hW hl
  rcases hlk with hlk | ⟨host, hlk⟩
  · exact va_get X.1 X.2.1 hts hin X.own X.K hW.2.2.1 (k - 1) hw hcl j hj (hts _ hlk) hs hv' hd kk'
  · exact va_getN X.1 X.2.1 hts hin X.own X.K hW.2.2.1 (k - 1) hw hcl j hj (va_Nw.use rfl (X.NW _ hlk)) hs hv' hd kk' 
theorem zs_getI {idx ci j : Nat} {r : Option Nat} {g : Int32 → Option ρ} (hd : decode M.2.1 pc = .ok (.getfield idx, 3)) (lk : z_F M.1.cls idx ci j) (k : ∀ v, z_S E M d C S f (pc + 3) lv (zI v :: st) H cs ss (g v)) : z_S E M d C S f pc lv (zR r :: st) H cs ss ((zgI H r ci j).bind g) := by
  intro yy hyy
  obtain ⟨v, hv, h⟩ := Option.bind_eq_some_iff.mp hyy
  obtain ⟨fs, hfs, hv2⟩ := Option.bind_eq_some_iff.mp hv
  obtain ⟨a, rfl, hk, hc⟩ := zfs_inv hfs
  exact z_getf hd lk hk hc (zvi_inv hv2) (k v yy h)
theorem zs_getL {idx ci j : Nat} {r : Option Nat} {g : Int64 → Option ρ} (hd : decode M.2.1 pc = .ok (.getfield idx, 3)) (lk : z_F M.1.cls idx ci j) (k : ∀ v, z_S E M d C S f (pc + 3) lv (zL v :: st) H cs ss (g v)) : z_S E M d C S f pc lv (zR r :: st) H cs ss ((zgL H r ci j).bind g) := by
  intro yy hyy
  obtain ⟨v, hv, h⟩ := Option.bind_eq_some_iff.mp hyy
  obtain ⟨fs, hfs, hv2⟩ := Option.bind_eq_some_iff.mp hv
  obtain ⟨a, rfl, hk, hc⟩ := zfs_inv hfs
  exact z_getf hd lk hk hc (zvl_inv hv2) (k v yy h)
theorem zs_getR {idx ci j : Nat} {r : Option Nat} {g : Option Nat → Option ρ} (hd : decode M.2.1 pc = .ok (.getfield idx, 3)) (lk : z_F M.1.cls idx ci j) (k : ∀ v, z_S E M d C S f (pc + 3) lv (zR v :: st) H cs ss (g v)) : z_S E M d C S f pc lv (zR r :: st) H cs ss ((zgR H r ci j).bind g) := by
  intro yy hyy
  obtain ⟨v, hv, h⟩ := Option.bind_eq_some_iff.mp hyy
  obtain ⟨fs, hfs, hv2⟩ := Option.bind_eq_some_iff.mp hv
  obtain ⟨a, rfl, hk, hc⟩ := zfs_inv hfs
  exact z_getf hd lk hk hc (zvr_inv hv2) (k v yy h)
/-- the same, to be written -/
def z_FP (own : String) (idx ci j : Nat) (ty : FieldType) (fin : Bool) : Prop := ∃ (Cn : String) (T : u_T) (N : Nat) (ty0 : Nat → FieldType), z_K ci Cn T N ∧ j < N ∧ (T j).1 = Cn ∧ (∀ k, k < N → parseFieldDescriptor (T k).2.2.1 = some (ty0 k)) ∧ (∀ a, a < N → ∀ b, b < N → a ≠ b → (T a).2.1 ≠ (T b).2.1) ∧ ty0 j = ty ∧ (T j).2.2.2 = fin ∧ (Cond.fieldLink own idx Cn (T j).2.1 (T j).2.2.1 ∈ z_tb ∨ (fin = false ∧ ∃ host, Cond.fieldLinkNest own idx Cn (T j).2.1 (T j).2.2.1 host ∈ z_nb)) ∧ (fin = true → Cn = own)
def z_fit (ty : FieldType) (v : zV) : Prop := ∀ E : zE, narrow ty (z_v E v) = z_v E v ∧ fits ty (z_v E v) = true
theorem z_fitI {x : Int32} : z_fit .int (zI x) := fun _ => ⟨rfl, rfl⟩
theorem z_fitL {x : Int64} : z_fit .long (zL x) := fun _ => ⟨rfl, rfl⟩
theorem z_fitR {x : Option Nat} {n : String} : z_fit (.object n) (zR x) := fun _ => by cases x <;> exact ⟨rfl, rfl⟩
theorem z_fitA {x : Option Nat} {t : FieldType} : z_fit (.array t) (zR x) := fun _ => by cases x <;> exact ⟨rfl, rfl⟩
theorem z_fitZ {x : Int32} (h : x = 0 ∨ x = 1) : z_fit .boolean (zI x) := fun _ => by rcases h with rfl | rfl <;> exact ⟨rfl, rfl⟩
theorem z_put_end {ci j k : Nat} {fs : List zV} {v : zV} {p : Program} {l : Launch} {e : Env} {s : State} {m : MethodId} {args : Array Value} {below : List Frame} {meth : Method} {c : Code} {Hp H' : Heap} {locs : List Loc} {ls : Array Slot} {Cn : String} {T : u_T} {N sl : Nat} {cell : Cell}
    (X : z_Cx E M p s m args meth c) (hW : z_Wd E H s Hp locs) (hl : lv_has ls M.2.2.1 (z_l E lv)) (hk : 1 ≤ k ∧ k < H.2) (hcl : classes[ci]? = some (Cn, T, N)) (hj : j < N) (hjl : j < fs.length) (hap : ∀ x y, x < N → y < N → x ≠ y → (E.1.2 ci) x ≠ (E.1.2 ci) y)
    (q2 : cell.cls = E.1.1 ci) (q3 : cell.vm = .none) (q4 : ∀ i, i < N → cell.slots[E.1.2 ci i]? = some (vp_V (fs.map (z_v E)) i)) (e1 : H'[z_ad E k]? = some (cell.setSlot (E.1.2 ci j) (z_v E v))) (e2 : H'.size = Hp.size) (e3 : ∀ q, q ≠ z_ad E k → H'[q]? = Hp[q]?)
    (kk : z_G E M d C S q (pc + 3) lv st (va_up H.1 k (.inr (ci, fs.set j v)), H.2) cs ss) : W p l e (z_rm d C S) s m args below meth c H' (locs ++ [⟨z_ad E k, sl⟩]) cs ss (MQ below (z_Q E q) args s C S (z_A E)) (F0 m (pc + 3) ls (st.map (z_v E))) := by
  refine kk p l e s m args below meth c H' _ ls X ⟨by rw [e2]; exact hW.1, hW.2.1, ?_, hW.2.2.2.put e2 e3 (by rw [z_ad_pos hk.1]; show z_B E < z_B E + k; omega)⟩ hl
  rw [z_ad_pos hk.1] at e1 e3
  refine z_P_set hW.2.2.1 hk.1 hk.2 ?_ e3
  refine ⟨_, hcl, ?_⟩
  show t_OB (z_B E + k) (E.1.1 ci) N (E.1.2 ci) H' (vp_V ((fs.set j v).map (z_v E)))
  rw [List.map_set]
  exact t_OB.to (V := updV (vp_V (fs.map (z_v E))) j (z_v E v)) ⟨_, e1, q2, q3, t_set q4 hap hj _⟩ (fun i _ => vp_updV_set (by rw [List.length_map]; exact hjl) _ i)
theorem z_putf {idx ci j k : Nat} {ty : FieldType} {fs : List zV} {v : zV} (hd : decode M.2.1 pc = .ok (.putfield idx, 3)) (lk : z_FP M.1.cls idx ci j ty false) (hk : 1 ≤ k ∧ k < H.2) (hc : H.1 k = .inr (ci, fs)) (hn : z_fit ty v) (hjl : j < fs.length)
    (kk : z_G E M d C S q (pc + 3) lv st (va_up H.1 k (.inr (ci, fs.set j v)), H.2) cs ss) : z_G E M d C S q pc lv (v :: zR (some k) :: st) H cs ss := by
  intro p l e s m args below meth c Hp locs ls X hW hl
  obtain ⟨Cn, T, N, ty0, ⟨hcl, hin⟩, hj, hdec, hty, hnm, htj, hfin, hlk, -⟩ := lk
  have hw : (z_w E H)[k - 1]? = some (z_ad E k, .inr (ci, fs.map (z_v E))) := z_cell hk hc
  have hts := X.words
  have hK := X.K
  have hs : ∀ x, s.fieldFound? (T j).1 (T j).2.1 (T j).2.2.1 = some x → s.fieldFound? Cn (T j).2.1 (T j).2.2.1 = some x := fun x hx => by rw [hdec] at hx; exact hx
  have hap := va_apart (own := M.1.cls) hts hin ty0 hty hnm hK hcl
  obtain ⟨r, h1, cell, q1, q2, q3, q4⟩ := hW.2.2.1 (k - 1) _ hw
  have hr : r = (Cn, T, N) := Option.some.inj (h1.symm.trans hcl)
  subst hr
  obtain ⟨hS, hfc, kC, hkC, hkind⟩ := hK.1 ci _ hcl
  obtain ⟨cf, kf, fi, f, hi, hsl⟩ := hS j hj
  have hlay := hts _ (hin _ (u_in_lay hj))
  unfold u_lay at hlay
  rw [if_neg (by rw [hfin]; decide)] at hlay
  have hst := (u_facts hfc hkC (u_lays hts hin hj) hi).1
  have h6 := u_store hfc hkC hkind hlay hi (by rw [← htj]; exact hty j hj) (hn E).1 (hn E).2
  rcases hlk with hlk | ⟨-, host, hlk⟩
  · refine W.putK X.1 X.2.1 (f := f) ⟨X.own, hts _ hlk, ⟨_, _, _, hs _ hi⟩, hst⟩ (by rw [q2]; exact h6) q1 q3 (by rw [hsl]; exact k2_hasslot (q4 j hj)) rfl rfl hd fun H' e1 e2 e3 => ?_
    rw [hsl] at e1
    exact z_put_end X hW hl hk hcl hj hjl hap q2 q3 q4 e1 e2 e3 kk
  · refine va_WputK X.1 X.2.1 (f := f) X.own (va_Nw.use rfl (X.NW _ hlk)) (hs _ hi) hst (by rw [q2]; exact h6) q1 q3 (by rw [hsl]; exact k2_hasslot (q4 j hj)) rfl rfl hd fun H' e1 e2 e3 => ?_
    rw [hsl] at e1
    exact z_put_end X hW hl hk hcl hj hjl hap q2 q3 q4 e1 e2 e3 kk
/-- a final field, in its class's constructor -/
theorem z_putF {idx ci j k : Nat} {ty : FieldType} {fs : List zV} {v : zV} (hd : decode M.2.1 pc = .ok (.putfield idx, 3)) (lk : z_FP M.1.cls idx ci j ty true) (hi0 : M.1.name = "<init>") (hk : 1 ≤ k ∧ k < H.2) (hc : H.1 k = .inr (ci, fs)) (hn : z_fit ty v) (hjl : j < fs.length)
    (kk : z_G E M d C S q (pc + 3) lv st (va_up H.1 k (.inr (ci, fs.set j v)), H.2) cs ss) : z_G E M d C S q pc lv (v :: zR (some k) :: st) H cs ss := by
  intro p l e s m args below meth c Hp locs ls X hW hl
  obtain ⟨Cn, T, N, ty0, ⟨hcl, hin⟩, hj, hdec, hty, hnm, htj, hfin, hlk, hown⟩ := lk
  have hlk : Cond.fieldLink M.1.cls idx Cn (T j).2.1 (T j).2.2.1 ∈ z_tb := by
    rcases hlk with h | ⟨h, -⟩
    · exact h
    · cases h
  have hCo : Cn = M.1.cls := hown rfl
  have hw : (z_w E H)[k - 1]? = some (z_ad E k, .inr (ci, fs.map (z_v E))) := z_cell hk hc
  have hts := X.words
  have hK := X.K
  have hs : ∀ x, s.fieldFound? (T j).1 (T j).2.1 (T j).2.2.1 = some x → s.fieldFound? Cn (T j).2.1 (T j).2.2.1 = some x := fun x hx => by rw [hdec] at hx; exact hx
  have hap := va_apart (own := M.1.cls) hts hin ty0 hty hnm hK hcl
  obtain ⟨r, h1, cell, q1, q2, q3, q4⟩ := hW.2.2.1 (k - 1) _ hw
  have hr : r = (Cn, T, N) := Option.some.inj (h1.symm.trans hcl)
  subst hr
  obtain ⟨hS, hfc, kC, hkC, hkind⟩ := hK.1 ci _ hcl
  obtain ⟨cf, kf, fi, f, hi, hsl⟩ := hS j hj
  have hlay := hts _ (hin _ (u_in_lay hj))
  unfold u_lay at hlay
  rw [if_pos hfin] at hlay
  have hst := (u_facts hfc hkC (u_lays hts hin hj) hi).1
  have hcf : m.cls = cf := by
    obtain ⟨_, _, c', _, _, _, -, -, hf', -, -, -, hown2, -⟩ := Cond.laysFinal_spec hlay
    have e1 : c' = cf := by have := hi.symm.trans hf'; simp at this; exact this.1.symm
    rw [hdec, hCo] at hown2
    rw [← e1]; exact Option.some.inj (X.own.symm.trans hown2)
  have h6 := u_fits hfc hkC hkind (Or.inr hlay) hi (by rw [← htj]; exact hty j hj) (hn E).1 (hn E).2
  refine W.putFinK X.1 X.2.1 X.own (hts _ hlk) (hs _ hi) hst hcf (X.2.2.2.2.2.1 hi0) (by rw [q2]; exact h6) q1 q3 (by rw [hsl]; exact k2_hasslot (q4 j hj)) rfl rfl hd fun H' e1 e2 e3 => ?_
  rw [hsl] at e1
  exact z_put_end X hW hl hk hcl hj hjl hap q2 q3 q4 e1 e2 e3 kk
theorem zpV_inv {r : Option Nat} {ci j : Nat} {v : zV} {H' : zH} (h : zpV H r ci j v = some H') : ∃ k fs, r = some k ∧ (1 ≤ k ∧ k < H.2) ∧ H.1 k = .inr (ci, fs) ∧ j < fs.length ∧ H' = (va_up H.1 k (.inr (ci, fs.set j v)), H.2) := by
  unfold zpV at h
  obtain ⟨k, hr, h1⟩ := Option.bind_eq_some_iff.mp h
  clear h
  obtain ⟨fs, hfs, h2⟩ := Option.bind_eq_some_iff.mp h1
  clear h1
  obtain ⟨a, ha, hk, hc⟩ := zfs_inv hfs
  have hkk : a = k := Option.some.inj (ha.symm.trans hr)
  subst hkk
  split at h2
  · next hj => exact ⟨a, fs, ha, hk, hc, hj, (Option.some.inj h2).symm⟩
  · cases h2
theorem zpZ_inv {r : Option Nat} {ci j : Nat} {x : Int32} {H' : zH} (h : zpZ H r ci j x = some H') : (x = 0 ∨ x = 1) ∧ zpV H r ci j (zI x) = some H' := by
  unfold zpZ at h
  split at h
  · next hx => exact ⟨hx, h⟩
  · cases h
theorem zs_put {idx ci j : Nat} {ty : FieldType} {r : Option Nat} {v : zV} {g : zH → Option ρ} (hd : decode M.2.1 pc = .ok (.putfield idx, 3)) (lk : z_FP M.1.cls idx ci j ty false) (hn : z_fit ty v) (k : ∀ H', z_S E M d C S f (pc + 3) lv st H' cs ss (g H')) : z_S E M d C S f pc lv (v :: zR r :: st) H cs ss ((zpV H r ci j v).bind g) := by
  intro yy hyy
  obtain ⟨H', hv, h⟩ := Option.bind_eq_some_iff.mp hyy
  obtain ⟨a, fs, rfl, hk, hc, hj, rfl⟩ := zpV_inv hv
  exact z_putf hd lk hk hc hn hj (k _ yy h)
theorem zs_putZ {idx ci j : Nat} {r : Option Nat} {x : Int32} {g : zH → Option ρ} (hd : decode M.2.1 pc = .ok (.putfield idx, 3)) (lk : z_FP M.1.cls idx ci j .boolean false) (k : ∀ H', z_S E M d C S f (pc + 3) lv st H' cs ss (g H')) : z_S E M d C S f pc lv (zI x :: zR r :: st) H cs ss ((zpZ H r ci j x).bind g) := by
  intro yy hyy
  obtain ⟨H', hv, h⟩ := Option.bind_eq_some_iff.mp hyy
  obtain ⟨hx, hv⟩ := zpZ_inv hv
  obtain ⟨a, fs, rfl, hk, hc, hj, rfl⟩ := zpV_inv hv
  exact z_putf hd lk hk hc (z_fitZ hx) hj (k _ yy h)
theorem zs_putF {idx ci j : Nat} {ty : FieldType} {r : Option Nat} {v : zV} {g : zH → Option ρ} (hd : decode M.2.1 pc = .ok (.putfield idx, 3)) (lk : z_FP M.1.cls idx ci j ty true) (hi0 : M.1.name = "<init>") (hn : z_fit ty v) (k : ∀ H', z_S E M d C S f (pc + 3) lv st H' cs ss (g H')) : z_S E M d C S f pc lv (v :: zR r :: st) H cs ss ((zpV H r ci j v).bind g) := by
  intro yy hyy
  obtain ⟨H', hv, h⟩ := Option.bind_eq_some_iff.mp hyy
  obtain ⟨a, fs, rfl, hk, hc, hj, rfl⟩ := zpV_inv hv
  exact z_putF hd lk hi0 hk hc hn hj (k _ yy h)
theorem zs_putFZ {idx ci j : Nat} {r : Option Nat} {x : Int32} {g : zH → Option ρ} (hd : decode M.2.1 pc = .ok (.putfield idx, 3)) (lk : z_FP M.1.cls idx ci j .boolean true) (hi0 : M.1.name = "<init>") (k : ∀ H', z_S E M d C S f (pc + 3) lv st H' cs ss (g H')) : z_S E M d C S f pc lv (zI x :: zR r :: st) H cs ss ((zpZ H r ci j x).bind g) := by
  intro yy hyy
  obtain ⟨H', hv, h⟩ := Option.bind_eq_some_iff.mp hyy
  obtain ⟨hx, hv⟩ := zpZ_inv hv
  obtain ⟨a, fs, rfl, hk, hc, hj, rfl⟩ := zpV_inv hv
  exact z_putF hd lk hi0 hk hc (z_fitZ hx) hj (k _ yy h)
-- arrays
theorem z_ts_at {t : Nat} {ty : FieldType} (ht : zT[t]? = some ty) : (z_ts E)[t]? = some (E.2.1 t, ty) := by
  unfold z_ts
  rw [List.getElem?_mapIdx, ht]
  rfl
theorem z_rf (r : Option Nat) : va_rf (r.map (z_ad E)) = z_v E (zR r) := rfl
theorem zs_alen {t : Nat} {ty : FieldType} {r : Option Nat} {g : Int32 → Option ρ} (hd : decode M.2.1 pc = .ok (.arraylength, 1)) (ht : zT[t]? = some ty) (k : ∀ v, z_S E M d C S f (pc + 1) lv (zI v :: st) H cs ss (g v)) : z_S E M d C S f pc lv (zR r :: st) H cs ss ((zle H r t).bind g) := by
  intro yy hyy
  obtain ⟨v, hv, h⟩ := Option.bind_eq_some_iff.mp hyy
  clear hyy
  obtain ⟨a, ha, hv2⟩ := Option.bind_eq_some_iff.mp hv
  clear hv
  obtain ⟨b, rfl, hk, hc⟩ := zar_inv ha
  cases hv2
  intro p l e s m args below meth c Hp locs ls X hW hl
  exact va_alen X.1 X.2.1 X.K hW.2.2.1 (b - 1) t (z_cell hk hc) (z_ts_at ht) rfl hd (k _ yy h p l e s m args below meth c Hp locs ls X hW hl)
theorem zs_iald {t : Nat} {r : Option Nat} {i : Int32} {g : Int32 → Option ρ} (hd : decode M.2.1 pc = .ok (.iaload, 1)) (ht : zT[t]? = some .int) (k : ∀ v, z_S E M d C S f (pc + 1) lv (zI v :: st) H cs ss (g v)) : z_S E M d C S f pc lv (zI i :: zR r :: st) H cs ss ((zaI H r t i).bind g) := by
  intro yy hyy
  obtain ⟨v, hv, h⟩ := Option.bind_eq_some_iff.mp hyy
  clear hyy
  obtain ⟨⟨N, a⟩, ha, hv2⟩ := Option.bind_eq_some_iff.mp hv
  clear hv
  obtain ⟨j, hj, hv3⟩ := Option.bind_eq_some_iff.mp hv2
  clear hv2
  obtain ⟨b, rfl, hk, hc⟩ := zar_inv ha
  obtain ⟨hin, rfl⟩ := zix_inv hj
  obtain ⟨ff, hff, rfl⟩ := zai_inv hv3
  have hff : a = _ := hff
  subst hff
  intro p l e s m args below meth c Hp locs ls X hW hl
  exact va_iald X.1 X.2.1 X.K hW.2.2.1 (b - 1) t (z_cell hk hc) (z_ts_at ht) hin hd (k _ yy h p l e s m args below meth c Hp locs ls X hW hl)
theorem zs_zald {t : Nat} {r : Option Nat} {i : Int32} {g : Int32 → Option ρ} (hd : decode M.2.1 pc = .ok (.baload, 1)) (ht : zT[t]? = some .boolean) (k : ∀ v, z_S E M d C S f (pc + 1) lv (zI v :: st) H cs ss (g v)) : z_S E M d C S f pc lv (zI i :: zR r :: st) H cs ss ((zaI H r t i).bind g) := by
  intro yy hyy
  obtain ⟨v, hv, h⟩ := Option.bind_eq_some_iff.mp hyy
  clear hyy
  obtain ⟨⟨N, a⟩, ha, hv2⟩ := Option.bind_eq_some_iff.mp hv
  clear hv
  obtain ⟨j, hj, hv3⟩ := Option.bind_eq_some_iff.mp hv2
  clear hv2
  obtain ⟨b, rfl, hk, hc⟩ := zar_inv ha
  obtain ⟨hin, rfl⟩ := zix_inv hj
  obtain ⟨ff, hff, rfl⟩ := zai_inv hv3
  have hff : a = _ := hff
  subst hff
  intro p l e s m args below meth c Hp locs ls X hW hl
  exact va_zald X.1 X.2.1 X.K hW.2.2.1 (b - 1) t (z_cell hk hc) (z_ts_at ht) hin hd (k _ yy h p l e s m args below meth c Hp locs ls X hW hl)
theorem zs_lald {t : Nat} {r : Option Nat} {i : Int32} {g : Int64 → Option ρ} (hd : decode M.2.1 pc = .ok (.laload, 1)) (ht : zT[t]? = some .long) (k : ∀ v, z_S E M d C S f (pc + 1) lv (zL v :: st) H cs ss (g v)) : z_S E M d C S f pc lv (zI i :: zR r :: st) H cs ss ((zaL H r t i).bind g) := by
  intro yy hyy
  obtain ⟨v, hv, h⟩ := Option.bind_eq_some_iff.mp hyy
  clear hyy
  obtain ⟨⟨N, a⟩, ha, hv2⟩ := Option.bind_eq_some_iff.mp hv
  clear hv
  obtain ⟨j, hj, hv3⟩ := Option.bind_eq_some_iff.mp hv2
  clear hv2
  obtain ⟨b, rfl, hk, hc⟩ := zar_inv ha
  obtain ⟨hin, rfl⟩ := zix_inv hj
  obtain ⟨ff, hff, rfl⟩ := zal_inv hv3
  have hff : a = _ := hff
  subst hff
  intro p l e s m args below meth c Hp locs ls X hW hl
  exact va_lald X.1 X.2.1 X.K hW.2.2.1 (b - 1) t (z_cell hk hc) (z_ts_at ht) hin hd (k _ yy h p l e s m args below meth c Hp locs ls X hW hl)
theorem zs_aald {t : Nat} {Cn : String} {r : Option Nat} {i : Int32} {g : Option Nat → Option ρ} (hd : decode M.2.1 pc = .ok (.aaload, 1)) (ht : zT[t]? = some (.object Cn)) (k : ∀ v, z_S E M d C S f (pc + 1) lv (zR v :: st) H cs ss (g v)) : z_S E M d C S f pc lv (zI i :: zR r :: st) H cs ss ((zaR H r t i).bind g) := by
  intro yy hyy
  obtain ⟨v, hv, h⟩ := Option.bind_eq_some_iff.mp hyy
  clear hyy
  obtain ⟨⟨N, a⟩, ha, hv2⟩ := Option.bind_eq_some_iff.mp hv
  clear hv
  obtain ⟨j, hj, hv3⟩ := Option.bind_eq_some_iff.mp hv2
  clear hv2
  obtain ⟨b, rfl, hk, hc⟩ := zar_inv ha
  obtain ⟨hin, rfl⟩ := zix_inv hj
  obtain ⟨ff, hff, rfl⟩ := zaa_inv hv3
  have hff : a = _ := hff
  subst hff
  intro p l e s m args below meth c Hp locs ls X hW hl
  exact va_aldq X.1 X.2.1 X.K hW.2.2.1 (b - 1) t (z_cell hk hc) (z_ts_at ht) hin hd (k _ yy h p l e s m args below meth c Hp locs ls X hW hl)
-- the script
theorem zs_slen {L : Nat} (hd : decode M.2.1 pc = .ok (.arraylength, 1)) (hL : E.2.2.2.2.1 = L) (k : z_S E M d C S f (pc + 1) lv (zI (nI L) :: st) H cs ss o) : z_S E M d C S f pc lv (zR (some 0) :: st) H cs ss o := by
  intro yy hyy p l e s m args below meth c Hp locs ls X hW hl
  subst hL
  exact va_slen (b := E.2.2.2.1) X.1 X.2.1 X.2.2.2.2.2.2.2.2.2.1 (Nat.lt_of_le_of_lt X.base.1 X.base.2) (by intro hq; have : z_B E < E.2.2.2.1 := hq; have := X.base.1; omega) hW.2.2.2 hd (k yy hyy p l e s m args below meth c Hp locs ls X hW hl)
theorem zs_sld {L : Nat} {xs : Nat → Int32} {i : Int32} {g : Int32 → Option ρ} (hd : decode M.2.1 pc = .ok (.iaload, 1)) (hL : E.2.2.2.2.1 = L) (hx : E.2.2.2.2.2 = xs) (k : ∀ v, z_S E M d C S f (pc + 1) lv (zI v :: st) H cs ss (g v)) : z_S E M d C S f pc lv (zI i :: zR (some 0) :: st) H cs ss ((zxl L xs i).bind g) := by
  intro yy hyy p l e s m args below meth c Hp locs ls X hW hl
  subst hL
  subst hx
  obtain ⟨v, hv, h⟩ := Option.bind_eq_some_iff.mp hyy
  obtain ⟨j, hj, hv2⟩ := Option.bind_eq_some_iff.mp hv
  obtain ⟨hin, rfl⟩ := zix_inv hj
  cases hv2
  exact va_sld (b := E.2.2.2.1) X.1 X.2.1 X.2.2.2.2.2.2.2.2.2.1 (Nat.lt_of_le_of_lt X.base.1 X.base.2) (by intro hq; have : z_B E < E.2.2.2.1 := hq; have := X.base.1; omega) hW.2.2.2 hin hd (k _ yy h p l e s m args below meth c Hp locs ls X hW hl)
theorem zs_wid {cs' ss' : Nat} (h1 : cs ≤ cs') (h2 : ss ≤ ss') (k : z_S E M d C S f pc lv st H cs' ss' o) : z_S E M d C S f pc lv st H cs ss o := by
  intro yy hyy p l e s m args below meth c Hp locs ls X hW hl
  exact W.widen h1 h2 (k yy hyy p l e s m args below meth c Hp locs ls X hW hl)
/-- behind a store into an array -/
theorem z_ast_end {k : Nat} {x : zC} {p : Program} {l : Launch} {e : Env} {s : State} {m : MethodId} {args : Array Value} {below : List Frame} {meth : Method} {c : Code} {Hp H' : Heap} {locs : List Loc} {ls : Array Slot} {sl : Nat}
    (X : z_Cx E M p s m args meth c) (hW : z_Wd E H s Hp locs) (hl : lv_has ls M.2.2.1 (z_l E lv)) (hk : 1 ≤ k ∧ k < H.2) (e1 : va_at E.1 classes (z_ad E k, z_c E x) H') (e2 : H'.size = Hp.size) (e3 : ∀ q, q ≠ z_ad E k → H'[q]? = Hp[q]?)
    (kk : z_G E M d C S q (pc + 1) lv st (va_up H.1 k x, H.2) cs ss) : W p l e (z_rm d C S) s m args below meth c H' (locs ++ [⟨z_ad E k, sl⟩]) cs ss (MQ below (z_Q E q) args s C S (z_A E)) (F0 m (pc + 1) ls (st.map (z_v E))) := by
  refine kk p l e s m args below meth c H' _ ls X ⟨by rw [e2]; exact hW.1, hW.2.1, ?_, hW.2.2.2.put e2 e3 (by rw [z_ad_pos hk.1]; show z_B E < z_B E + k; omega)⟩ hl
  rw [z_ad_pos hk.1] at e1 e3
  exact z_P_set hW.2.2.1 hk.1 hk.2 e1 e3
theorem z_iast {t k N : Nat} {g : Nat → Int32} {i x : Int32} (hd : decode M.2.1 pc = .ok (.iastore, 1)) (hk : 1 ≤ k ∧ k < H.2) (ht : zT[t]? = some .int) (hc : H.1 k = .inl (t, N, .inl g)) (hin : vp_in i N) (kk : z_G E M d C S q (pc + 1) lv st (va_up H.1 k (.inl (t, N, .inl (va_up g i.toNatClampNeg x))), H.2) cs ss) : z_G E M d C S q pc lv (zI x :: zI i :: zR (some k) :: st) H cs ss := by
  intro p l e s m args below meth c Hp locs ls X hW hl
  refine W.iast X.1 X.2.1 (hW.2.2.1 (k - 1) _ (z_cell hk hc)) ((X.K.2 t _ (z_ts_at ht)).1 N (fun j => .int (g j))) (fun q => by cases q) (by show ¬ (i < 0 ∨ (arrV _ _ _).slots.size ≤ _); rw [arrV_size]; exact hin) rfl rfl hd fun H1 e1 z oq => ?_
  refine z_ast_end X hW hl hk ?_ z oq kk
  show H1[z_ad E k]? = some (vp_cell _ (N, .inl _))
  rw [e1]
  show some ((vp_cell _ (N, .inl g)).setSlot _ _) = _
  rw [vp_cell_i, vp_cell_i, arrV_store]
  congr 2
  funext q
  by_cases hq : q = i.toNatClampNeg
  · subst hq; simp [updV, va_up]
  · simp [updV, va_up, hq]
theorem z_zast {t k N : Nat} {g : Nat → Int32} {i x : Int32} (hd : decode M.2.1 pc = .ok (.bastore, 1)) (hx : x = 0 ∨ x = 1) (hk : 1 ≤ k ∧ k < H.2) (ht : zT[t]? = some .boolean) (hc : H.1 k = .inl (t, N, .inl g)) (hin : vp_in i N) (kk : z_G E M d C S q (pc + 1) lv st (va_up H.1 k (.inl (t, N, .inl (va_up g i.toNatClampNeg x))), H.2) cs ss) : z_G E M d C S q pc lv (zI x :: zI i :: zR (some k) :: st) H cs ss := by
  intro p l e s m args below meth c Hp locs ls X hW hl
  refine W.zast X.1 X.2.1 (hW.2.2.1 (k - 1) _ (z_cell hk hc)) ((X.K.2 t _ (z_ts_at ht)).1 N (fun j => .int (g j))) (fun q => by cases q) (by show ¬ (i < 0 ∨ (arrV _ _ _).slots.size ≤ _); rw [arrV_size]; exact hin) rfl rfl hd fun H1 e1 z oq => ?_
  refine z_ast_end X hW hl hk ?_ z oq kk
  show H1[z_ad E k]? = some (vp_cell _ (N, .inl _))
  rw [e1]
  have hnx : narrow .boolean (.int x) = .int x := by rcases hx with rfl | rfl <;> decide
  show some ((vp_cell _ (N, .inl g)).setSlot _ _) = _
  rw [vp_cell_i, vp_cell_i, arrV_store]
  congr 2
  funext q
  by_cases hq : q = i.toNatClampNeg
  · subst hq; simp [updV, va_up, hnx]
  · simp [updV, va_up, hq]
theorem z_last {t k N : Nat} {g : Nat → Int64} {i : Int32} {x : Int64} (hd : decode M.2.1 pc = .ok (.lastore, 1)) (hk : 1 ≤ k ∧ k < H.2) (ht : zT[t]? = some .long) (hc : H.1 k = .inl (t, N, .inr (.inl g))) (hin : vp_in i N) (kk : z_G E M d C S q (pc + 1) lv st (va_up H.1 k (.inl (t, N, .inr (.inl (va_up g i.toNatClampNeg x)))), H.2) cs ss) : z_G E M d C S q pc lv (zL x :: zI i :: zR (some k) :: st) H cs ss := by
  intro p l e s m args below meth c Hp locs ls X hW hl
  refine W.last X.1 X.2.1 (hW.2.2.1 (k - 1) _ (z_cell hk hc)) ((X.K.2 t _ (z_ts_at ht)).1 N (fun j => .long (g j))) (fun q => by cases q) (by show ¬ (i < 0 ∨ (arrV _ _ _).slots.size ≤ _); rw [arrV_size]; exact hin) rfl rfl hd fun H1 e1 z oq => ?_
  refine z_ast_end X hW hl hk ?_ z oq kk
  show H1[z_ad E k]? = some (vp_cell _ (N, .inr (.inl _)))
  rw [e1]
  show some ((vp_cell _ (N, .inr (.inl g))).setSlot _ _) = _
  rw [vp_cell_l, vp_cell_l, arrV_store]
  congr 2
  funext q
  by_cases hq : q = i.toNatClampNeg
  · subst hq; simp [updV, va_up]
  · simp [updV, va_up, hq]
theorem z_aast {t k v ci N : Nat} {r : vw_C} {vs : List zV} {g : Nat → Option Nat} {i : Int32} (hd : decode M.2.1 pc = .ok (.aastore, 1)) (hk : 1 ≤ k ∧ k < H.2) (hv : 1 ≤ v ∧ v < H.2) (ht : zT[t]? = some (.object r.1)) (hc : H.1 k = .inl (t, N, .inr (.inr g))) (hcv : H.1 v = .inr (ci, vs)) (hcl : classes[ci]? = some r) (hin : vp_in i N) (kk : z_G E M d C S q (pc + 1) lv st (va_up H.1 k (.inl (t, N, .inr (.inr (va_up g i.toNatClampNeg (some v))))), H.2) cs ss) : z_G E M d C S q pc lv (zR (some v) :: zI i :: zR (some k) :: st) H cs ss := by
  intro p l e s m args below meth c Hp locs ls X hW hl
  have hlt : i.toNatClampNeg < N := Nat.not_le.mp fun q => hin (Or.inr q)
  have h0 : ¬ i < 0 := fun q => hin (Or.inl q)
  obtain ⟨r', hr', cellV, g1, g2, g3, -⟩ := hW.2.2.1 (v - 1) _ (z_cell hv hcv)
  have hcls := (X.K.1 ci r hcl).2
  obtain ⟨kA, comp, k1, k2, k3, -⟩ := (X.K.2 t _ (z_ts_at ht)).2
  have hcomp : comp = E.1.1 ci := Option.some.inj (k3.symm.trans hcls.1)
  subst hcomp
  obtain ⟨kC, hkC, -⟩ := hcls.2
  refine W.aast X.1 X.2.1 (hW.2.2.1 (k - 1) _ (z_cell hk hc)) (fun q h => by cases h) (fun h => by cases h) k1 k2 rfl hkC ⟨h0, by show _ < (arrV _ _ _).slots.size; rw [arrV_size]; exact hlt⟩ g1 (fun q h => by rw [g3] at h; cases h) (by rw [g2]; exact hkC) (by rw [g2]; exact va_assign hcls) rfl rfl hd fun H1 e1 z oq => ?_
  refine z_ast_end X hW hl hk ?_ z oq kk
  show H1[z_ad E k]? = some (vp_cell _ (N, .inr (.inr (.inr (.inr _)))))
  rw [e1]
  show some ((vp_cell _ (N, .inr (.inr (.inr (.inr (fun j => (g j).map (z_ad E))))))).setSlot _ _) = _
  rw [vp_cell_q, vp_cell_q, arrV_store]
  congr 2
  funext q
  by_cases hq : q = i.toNatClampNeg
  · subst hq; simp [updV, va_up, va_rf]
  · simp [updV, va_up, hq]

theorem zsI_inv {r : Option Nat} {t : Nat} {i : Int32} {x : Int32} {H' : zH} (h : zsI H r t i x = some H') : ∃ k N g, r = some k ∧ (1 ≤ k ∧ k < H.2) ∧ H.1 k = .inl (t, N, .inl g) ∧ vp_in i N ∧ H' = (va_up H.1 k (.inl (t, N, .inl (va_up g i.toNatClampNeg x))), H.2) := by
  unfold zsI at h
  obtain ⟨k, hr, h1⟩ := Option.bind_eq_some_iff.mp h
  clear h
  obtain ⟨⟨N, a⟩, ha, h2⟩ := Option.bind_eq_some_iff.mp h1
  clear h1
  obtain ⟨j, hj, h3⟩ := Option.bind_eq_some_iff.mp h2
  clear h2
  obtain ⟨b, hb, h4⟩ := Option.bind_eq_some_iff.mp h3
  clear h3
  obtain ⟨k', hk', hk, hc⟩ := zar_inv ha
  have hkk : k' = k := Option.some.inj (hk'.symm.trans hr)
  subst hkk
  obtain ⟨hin, hj2⟩ := zix_inv hj
  obtain ⟨g, hg, hb2⟩ := zsi_inv hb
  have hg : a = _ := hg
  subst hg
  exact ⟨k', N, g, hk', hk, hc, hin, by rw [← Option.some.inj h4, hb2, hj2]⟩
theorem zsL_inv {r : Option Nat} {t : Nat} {i : Int32} {x : Int64} {H' : zH} (h : zsL H r t i x = some H') : ∃ k N g, r = some k ∧ (1 ≤ k ∧ k < H.2) ∧ H.1 k = .inl (t, N, .inr (.inl g)) ∧ vp_in i N ∧ H' = (va_up H.1 k (.inl (t, N, .inr (.inl (va_up g i.toNatClampNeg x)))), H.2) := by
  unfold zsL at h
  obtain ⟨k, hr, h1⟩ := Option.bind_eq_some_iff.mp h
  clear h
  obtain ⟨⟨N, a⟩, ha, h2⟩ := Option.bind_eq_some_iff.mp h1
  clear h1
  obtain ⟨j, hj, h3⟩ := Option.bind_eq_some_iff.mp h2
  clear h2
  obtain ⟨b, hb, h4⟩ := Option.bind_eq_some_iff.mp h3
  clear h3
  obtain ⟨k', hk', hk, hc⟩ := zar_inv ha
  have hkk : k' = k := Option.some.inj (hk'.symm.trans hr)
  subst hkk
  obtain ⟨hin, hj2⟩ := zix_inv hj
  obtain ⟨g, hg, hb2⟩ := zsl_inv hb
  have hg : a = _ := hg
  subst hg
  exact ⟨k', N, g, hk', hk, hc, hin, by rw [← Option.some.inj h4, hb2, hj2]⟩
theorem zsR_inv {r : Option Nat} {t ci : Nat} {i : Int32} {x : Option Nat} {H' : zH} (h : zsR H r t i ci x = some H') : ∃ k N g v vs, r = some k ∧ x = some v ∧ (1 ≤ k ∧ k < H.2) ∧ (1 ≤ v ∧ v < H.2) ∧ H.1 v = .inr (ci, vs) ∧ H.1 k = .inl (t, N, .inr (.inr g)) ∧ vp_in i N ∧ H' = (va_up H.1 k (.inl (t, N, .inr (.inr (va_up g i.toNatClampNeg x)))), H.2) := by
  unfold zsR at h
  obtain ⟨k, hr, h0⟩ := Option.bind_eq_some_iff.mp h
  clear h
  obtain ⟨u, hx, h1⟩ := Option.bind_eq_some_iff.mp h0
  clear h0
  obtain ⟨⟨N, a⟩, ha, h2⟩ := Option.bind_eq_some_iff.mp h1
  clear h1
  obtain ⟨j, hj, h3⟩ := Option.bind_eq_some_iff.mp h2
  clear h2
  obtain ⟨b, hb, h4⟩ := Option.bind_eq_some_iff.mp h3
  clear h3
  obtain ⟨k', hk', hk, hc⟩ := zar_inv ha
  have hkk : k' = k := Option.some.inj (hk'.symm.trans hr)
  subst hkk
  obtain ⟨hin, hj2⟩ := zix_inv hj
  obtain ⟨g, hg, hb2⟩ := zsa_inv hb
  have hg : a = _ := hg
  subst hg
  obtain ⟨vs, hvs, -⟩ := Option.bind_eq_some_iff.mp hx
  obtain ⟨v, hv0, hv, hcv⟩ := zfs_inv hvs
  exact ⟨k', N, g, v, vs, hk', hv0, hk, hv, hcv, hc, hin, by rw [← Option.some.inj h4, hb2, hj2]⟩
theorem zsZ_inv {r : Option Nat} {t : Nat} {i x : Int32} {H' : zH} (h : zsZ H r t i x = some H') : (x = 0 ∨ x = 1) ∧ zsI H r t i x = some H' := by
  unfold zsZ at h
  split at h
  · next hx => exact ⟨hx, h⟩
  · cases h
theorem zs_iast {t : Nat} {r : Option Nat} {i : Int32} {x : Int32} {g : zH → Option ρ} (hd : decode M.2.1 pc = .ok (.iastore, 1)) (ht : zT[t]? = some .int) (k : ∀ H', z_S E M d C S f (pc + 1) lv st H' cs ss (g H')) : z_S E M d C S f pc lv (zI x :: zI i :: zR r :: st) H cs ss ((zsI H r t i x).bind g) := by
  intro yy hyy
  obtain ⟨H', hv, h⟩ := Option.bind_eq_some_iff.mp hyy
  obtain ⟨a, N, ff, rfl, hk, hc, hin, rfl⟩ := zsI_inv hv
  exact z_iast hd hk ht hc hin (k _ yy h)
theorem zs_last {t : Nat} {r : Option Nat} {i : Int32} {x : Int64} {g : zH → Option ρ} (hd : decode M.2.1 pc = .ok (.lastore, 1)) (ht : zT[t]? = some .long) (k : ∀ H', z_S E M d C S f (pc + 1) lv st H' cs ss (g H')) : z_S E M d C S f pc lv (zL x :: zI i :: zR r :: st) H cs ss ((zsL H r t i x).bind g) := by
  intro yy hyy
  obtain ⟨H', hv, h⟩ := Option.bind_eq_some_iff.mp hyy
  obtain ⟨a, N, ff, rfl, hk, hc, hin, rfl⟩ := zsL_inv hv
  exact z_last hd hk ht hc hin (k _ yy h)
theorem zs_zast {t : Nat} {r : Option Nat} {i x : Int32} {g : zH → Option ρ} (hd : decode M.2.1 pc = .ok (.bastore, 1)) (ht : zT[t]? = some .boolean) (k : ∀ H', z_S E M d C S f (pc + 1) lv st H' cs ss (g H')) : z_S E M d C S f pc lv (zI x :: zI i :: zR r :: st) H cs ss ((zsZ H r t i x).bind g) := by
  intro yy hyy
  obtain ⟨H', hv, h⟩ := Option.bind_eq_some_iff.mp hyy
  obtain ⟨hx, hv⟩ := zsZ_inv hv
  obtain ⟨a, N, ff, rfl, hk, hc, hin, rfl⟩ := zsI_inv hv
  exact z_zast hd hx hk ht hc hin (k _ yy h)
theorem zs_aast {t ci : Nat} {cl : vw_C} {r x : Option Nat} {i : Int32} {g : zH → Option ρ} (hd : decode M.2.1 pc = .ok (.aastore, 1)) (ht : zT[t]? = some (.object cl.1)) (hcl : classes[ci]? = some cl) (k : ∀ H', z_S E M d C S f (pc + 1) lv st H' cs ss (g H')) : z_S E M d C S f pc lv (zR x :: zI i :: zR r :: st) H cs ss ((zsR H r t i ci x).bind g) := by
  intro yy hyy
  obtain ⟨H', hv, h⟩ := Option.bind_eq_some_iff.mp hyy
  obtain ⟨a, N, ff, v, vs, rfl, rfl, hk, hvk, hcv, hc, hin, rfl⟩ := zsR_inv hv
  exact z_aast hd hk hvk ht hc hcv hcl hin (k _ yy h)
-- new cells
/-- behind a new cell -/
theorem z_new_end {x : zC} {len N : Nat} {p : Program} {l : Launch} {e : Env} {s : State} {m : MethodId} {args : Array Value} {below : List Frame} {meth : Method} {c : Code} {Hp H' : Heap} {locs : List Loc} {ls : Array Slot}
    (X : z_Cx E M p s m args meth c) (hW : z_Wd E H s Hp locs) (hl : lv_has ls M.2.2.1 (z_l E lv)) (e1 : va_at E.1 classes (z_B E + H.2, z_c E x) H') (e2 : H'.size = Hp.size + 1) (e3 : ∀ q, q < Hp.size → H'[q]? = Hp[q]?)
    (kk : z_G E M d C S q (pc + len) lv (zR (some H.2) :: st) (va_up H.1 H.2 x, H.2 + 1) (cs + 1) (ss + N)) : W p l e (z_rm d C S) s m args below meth c H' locs (cs + 1) (ss + N) (MQ below (z_Q E q) args s C S (z_A E)) (F0 m (pc + len) ls (.ref Hp.size :: st.map (z_v E))) := by
  have k1 := kk p l e s m args below meth c H' locs ls X ⟨by rw [e2, hW.1, Nat.add_assoc], by show 1 ≤ H.2 + 1; omega, z_P_push hW.2.2.1 hW.2.1 hW.1 e1 e3, ⟨Nat.le_trans hW.2.2.2.1 (by omega), fun q h1 h2 => (e3 q (Nat.lt_of_lt_of_le h1 hW.2.2.2.1)).trans (hW.2.2.2.2.1 q h1 h2), hW.2.2.2.2.2⟩⟩ hl
  rw [List.map_cons, show z_v E (zR (some H.2)) = .ref Hp.size by rw [hW.1]; show Value.ref (z_ad E H.2) = _; rw [z_ad_pos hW.2.1]] at k1
  exact k1
/-- a class that can be made, with the values of a new object -/
def z_N (own : String) (idx ci N : Nat) (fs : List zV) : Prop := ∃ (Cn : String) (T : u_T) (ty : Nat → FieldType), z_K ci Cn T N ∧ Cond.classLink own idx Cn ∈ z_tb ∧ Cond.instantiable Cn N ∈ z_tb ∧ Cond.initialized Cn ∈ z_tb ∧ (∀ k, k < N → parseFieldDescriptor (T k).2.2.1 = some (ty k)) ∧ ∀ E : zE, ∀ j, j < N → defaultValue (ty j) = vp_V (fs.map (z_v E)) j
def zno (H : zH) (x : zC) : Option zH := some (znw H x)
theorem zs_new {idx ci N : Nat} {fs : List zV} {g : zH → Option ρ} (hd : decode M.2.1 pc = .ok (.new idx, 3)) (lk : z_N M.1.cls idx ci N fs) (hcs : cs + 1 ≤ C) (hss : ss + N ≤ S) (k : ∀ H', z_S E M d C S f (pc + 3) lv (zR (some H.2) :: st) H' (cs + 1) (ss + N) (g H')) : z_S E M d C S f pc lv st H cs ss ((zno H (.inr (ci, fs))).bind g) := by
  intro yy hyy p l e s m args below meth c Hp locs ls X hW hl
  obtain ⟨Cn, T, ty, ⟨hcl, hin⟩, l1, l2, l3, hty, hfs⟩ := lk
  have hts := X.words
  have hKn := X.K.1 ci _ hcl
  refine W.newcK X.1 X.2.1 X.own (hts _ l1) (hts _ l2) (hts _ l3) rfl hd hcs hss hKn.2.1 rfl fun H1 kC hkC e1 z1 o1 => ?_
  refine z_new_end (len := 3) X hW hl ?_ z1 o1 (k _ yy hyy)
  rw [hW.1] at e1
  refine ⟨_, hcl, ?_⟩
  show t_OB (z_B E + H.2) (E.1.1 ci) N (E.1.2 ci) H1 (vp_V (fs.map (z_v E)))
  exact (u_born ty hts hin hKn hkC e1 hty).to (hfs E)
theorem znc_inv {i : Int32} {cap N : Nat} (h : znc i cap = some N) : ¬ i < 0 ∧ i.toNatClampNeg = N ∧ N ≤ cap := by
  unfold znc at h
  split at h
  · cases h
  · next hn =>
    cases h
    exact ⟨fun q => hn (Or.inl q), rfl, Nat.not_lt.mp fun q => hn (Or.inr q)⟩
theorem zs_newa {at_ : ArrayType} {t N cap : Nat} {i : Int32} {x : zA} {g : zH → Option ρ} (hd : decode M.2.1 pc = .ok (.newarray at_, 2)) (hw : Cond.arrayClass (newarray.typeOf at_) ∈ z_tb) (ht : zT[t]? = some (newarray.typeOf at_)) (hx : ∀ (E : zE) (cA : ClassId), vp_cell cA (z_x E (N, x)) = arrV cA N (fun _ => defaultValue (newarray.typeOf at_))) (hN : znc i cap = some N) (hb : cap * componentBytes (newarray.typeOf at_) ≤ 536870912) (hcs : cs + 1 ≤ C) (hss : ss + cap ≤ S) (k : ∀ H', z_S E M d C S f (pc + 2) lv (zR (some H.2) :: st) H' (cs + 1) (ss + cap) (g H')) : z_S E M d C S f pc lv (zI i :: st) H cs ss ((zno H (.inl (t, N, x))).bind g) := by
  intro yy hyy p l e s m args below meth c Hp locs ls X hW hl
  obtain ⟨h0, hN, hcap⟩ := znc_inv hN
  refine va_newaK X.1 X.2.1 (X.words _ hw) rfl hd rfl h0 hN (Nat.le_trans (Nat.mul_le_mul_right _ hcap) hb) hcs (Nat.le_trans (Nat.add_le_add_left hcap _) hss) rfl fun H1 cA e1 z1 o1 _ hNm => ?_
  have hcA : cA = E.2.1 t := by
    have hRA := (X.K.2 t _ (z_ts_at ht)).2
    have h2 : s.vm.findClass ("[" ++ (newarray.typeOf at_).toString) = some (E.2.1 t) := by cases at_ <;> exact hRA
    exact Option.some.inj (hNm.symm.trans h2)
  subst hcA
  refine W.widen (Nat.le_refl _) (Nat.add_le_add_left hcap _) ?_
  refine z_new_end (len := 2) X hW hl ?_ z1 o1 (k _ yy hyy)
  show H1[z_B E + H.2]? = some (vp_cell _ (z_x E (N, x)))
  rw [hx, ← hW.1]
  exact e1
theorem zs_anew {idx t N cap : Nat} {Cn : String} {i : Int32} {g : zH → Option ρ} (hd : decode M.2.1 pc = .ok (.anewarray idx, 3)) (hw : Cond.classLink M.1.cls idx Cn ∈ z_tb) (hw2 : Cond.arrayOver (.object Cn) ∈ z_nb) (ht : zT[t]? = some (.object Cn)) (hN : znc i cap = some N) (hb : cap * 4 ≤ 536870912) (hcs : cs + 1 ≤ C) (hss : ss + cap ≤ S) (k : ∀ H', z_S E M d C S f (pc + 3) lv (zR (some H.2) :: st) H' (cs + 1) (ss + cap) (g H')) : z_S E M d C S f pc lv (zI i :: st) H cs ss ((zno H (.inl (t, N, .inr (.inr (fun _ => none))))).bind g) := by
  intro yy hyy p l e s m args below meth c Hp locs ls X hW hl
  obtain ⟨h0, rfl, hcap⟩ := znc_inv hN
  refine W.anew X.1 X.2.1 X.own (X.words _ hw) (va_AO.use (X.NW _ hw2)) rfl hd rfl h0 (Nat.le_trans (Nat.mul_le_mul_right 4 hcap) hb) hcs (Nat.le_trans (Nat.add_le_add_left hcap _) hss) fun cA kA comp f1 f2 f3 f4 => ?_
  have hcA : cA = E.2.1 t := by
    obtain ⟨_, _, -, -, -, h4⟩ := (X.K.2 t _ (z_ts_at ht)).2
    exact Option.some.inj (f1.symm.trans h4)
  subst hcA
  generalize hH1 : Hp.push ({ cls := E.2.1 t, slots := Array.replicate i.toNatClampNeg .null, vm := .none } : Cell) = H1
  have z1 : H1.size = Hp.size + 1 := by rw [← hH1, Array.size_push]
  have e1 : H1[Hp.size]? = some (arrV (E.2.1 t) i.toNatClampNeg (fun _ => .null)) := by rw [← hH1, Array.getElem?_push_size, ← arrV_new]
  have o1 : ∀ q : Nat, q < Hp.size → H1[q]? = Hp[q]? := fun q hq => by rw [← hH1, Array.getElem?_push, if_neg (Nat.ne_of_lt hq)]
  refine W.widen (Nat.le_refl _) (Nat.add_le_add_left hcap _) ?_
  refine z_new_end (len := 3) X hW hl ?_ z1 o1 (k _ yy hyy)
  rw [hW.1] at e1
  exact e1
-- ends
theorem z_end {p : Program} {s : State} {m : MethodId} {args : Array Value} {meth : Method} {c : Code} {Hp : Heap} {locs : List Loc} {r : Option zV} (X : z_Cx E M p s m args meth c) (hW : z_Wd E H s Hp locs) : ∀ t : State, t.heap = Hp → s.WarmedH t.vm → z_Q E (r, H) args s (.returned (r.map (z_v E))) t :=
  fun t ht hv => ⟨⟨rfl, z_holds X hW ht hv⟩, hW.2.2.2.F ht⟩
theorem zs_iret {v : Int32} {y : ρ} (hd : decode M.2.1 pc = .ok (.ireturn, 1)) (hr : M.2.2.2 = some .int) (hcs : cs ≤ C) (hss : ss ≤ S) (hp : f y = (some (zI v), H)) : z_S E M d C S f pc lv [zI v] H cs ss (some y) := by
  intro yy hyy p l e s m args below meth c Hp locs ls X hW hl
  cases hyy
  rw [hp]
  exact W.widen hcs hss (W.iret (v := v) X.1 X.2.1 (X.2.2.2.1.trans hr) (z_end (r := some (zI v)) X hW) hW.2.2.2.2.2 hd X.2.2.2.2.1)
def zbo (x : Int32) : Option Int32 := if x = 0 ∨ x = 1 then some x else none
theorem zbo_inv {x y : Int32} (h : zbo x = some y) : (x = 0 ∨ x = 1) ∧ x = y := by
  unfold zbo at h
  split at h
  · next hx => exact ⟨hx, Option.some.inj h⟩
  · cases h
theorem zs_zret {v : Int32} {g : Int32 → ρ} (hd : decode M.2.1 pc = .ok (.ireturn, 1)) (hr : M.2.2.2 = some .boolean) (hcs : cs ≤ C) (hss : ss ≤ S) (hp : f (g v) = (some (zI v), H)) : z_S E M d C S f pc lv [zI v] H cs ss ((zbo v).bind fun x => some (g x)) := by
  intro yy hyy p l e s m args below meth c Hp locs ls X hW hl
  obtain ⟨v', hv, h⟩ := Option.bind_eq_some_iff.mp hyy
  obtain ⟨hx, rfl⟩ := zbo_inv hv
  cases h
  rw [hp]
  have hnx : narrow .boolean (.int v) = .int v := by rcases hx with rfl | rfl <;> decide
  exact W.widen hcs hss (W.zret (v := v) X.1 X.2.1 (X.2.2.2.1.trans hr) hnx (z_end (r := some (zI v)) X hW) hW.2.2.2.2.2 hd X.2.2.2.2.1)
theorem zs_zretc {v : Int32} {y : ρ} (hd : decode M.2.1 pc = .ok (.ireturn, 1)) (hr : M.2.2.2 = some .boolean) (hx : v = 0 ∨ v = 1) (hcs : cs ≤ C) (hss : ss ≤ S) (hp : f y = (some (zI v), H)) : z_S E M d C S f pc lv [zI v] H cs ss (some y) := by
  intro yy hyy p l e s m args below meth c Hp locs ls X hW hl
  cases hyy
  rw [hp]
  have hnx : narrow .boolean (.int v) = .int v := by rcases hx with rfl | rfl <;> decide
  exact W.widen hcs hss (W.zret (v := v) X.1 X.2.1 (X.2.2.2.1.trans hr) hnx (z_end (r := some (zI v)) X hW) hW.2.2.2.2.2 hd X.2.2.2.2.1)
theorem zs_lret {v : Int64} {y : ρ} (hd : decode M.2.1 pc = .ok (.lreturn, 1)) (hr : M.2.2.2 = some .long) (hcs : cs ≤ C) (hss : ss ≤ S) (hp : f y = (some (zL v), H)) : z_S E M d C S f pc lv [zL v] H cs ss (some y) := by
  intro yy hyy p l e s m args below meth c Hp locs ls X hW hl
  cases hyy
  rw [hp]
  exact W.widen hcs hss (W.lret (v := v) X.1 X.2.1 (X.2.2.2.1.trans hr) (z_end (r := some (zL v)) X hW) hW.2.2.2.2.2 hd X.2.2.2.2.1)
theorem zs_vret {y : ρ} (hd : decode M.2.1 pc = .ok (.return_, 1)) (hr : M.2.2.2 = none) (hcs : cs ≤ C) (hss : ss ≤ S) (hp : f y = (none, H)) : z_S E M d C S f pc lv [] H cs ss (some y) := by
  intro yy hyy p l e s m args below meth c Hp locs ls X hW hl
  cases hyy
  rw [hp]
  exact W.widen hcs hss (W.vret X.1 X.2.1 (X.2.2.2.1.trans hr) (z_end (r := none) X hW) hW.2.2.2.2.2 hd X.2.2.2.2.1)
theorem zs_aret {v : Option Nat} {n : String} {y : ρ} (hd : decode M.2.1 pc = .ok (.areturn, 1)) (hr : M.2.2.2 = some (.object n)) (hcs : cs ≤ C) (hss : ss ≤ S) (hp : f y = (some (zR v), H)) : z_S E M d C S f pc lv [zR v] H cs ss (some y) := by
  intro yy hyy p l e s m args below meth c Hp locs ls X hW hl
  cases hyy
  rw [hp]
  refine W.widen hcs hss (W.aret (v := z_v E (zR v)) X.1 X.2.1 (X.2.2.2.1.trans hr) (Or.inl ⟨_, rfl⟩) ?_ (z_end (r := some (zR v)) X hW) hW.2.2.2.2.2 hd X.2.2.2.2.1)
  cases v
  · exact Or.inl rfl
  · exact Or.inr ⟨_, rfl⟩
-- entry
def z_args (i : Nat) : List zV → List (Nat × zV)
  | [] => []
  | v :: t => (i, v) :: z_args (if z_cat v = 2 then i + 2 else i + 1) t
def z_sum : List zV → Nat
  | [] => 0
  | v :: t => z_cat v + z_sum t
theorem z_sl_len (E : zE) (av : List zV) : (lg_sl (av.map (z_v E))).length = z_sum av := by
  induction av with
  | nil => rfl
  | cons v t ih =>
    show (lg_sl (z_v E v :: t.map (z_v E))).length = z_cat v + z_sum t
    rw [← ih, ← z_v_cat E v]
    simp only [lg_sl, List.flatMap_cons, List.length_append]
    rcases v with x | x | _ | k <;> rfl
theorem z_args_eq (E : zE) : ∀ (av : List zV) (i : Nat), lv_args i (av.map (z_v E)) = z_l E (z_args i av)
  | [], _ => rfl
  | v :: t, i => by
    show (i, z_v E v) :: lv_args (if (z_v E v).category = 2 then i + 2 else i + 1) (t.map (z_v E)) = (i, z_v E v) :: z_l E (z_args (if z_cat v = 2 then i + 2 else i + 1) t)
    rw [z_v_cat, z_args_eq E t]
theorem zs_of {av : List zV} {lv0 : List (Nat × zV)} (hy : plainName M.1.cls = true) (hlen : z_sum av ≤ M.2.2.1) (hlv : z_args 0 av = lv0) (k : z_S E M d C S f 0 lv0 [] H 0 0 o) : z_MS E M d C S f av H o := by
  intro yy hyy l
  subst hlv
  refine Met.ofW (cc := M.2.1) (maxL := M.2.2.1) (ret := M.2.2.2) hy rfl ?_
  intro p e s m args below meth c s₁ B hml hv
  obtain ⟨rfl, hz, hn1, hP, hK, hX, hb, hNW⟩ := hv
  have hl := lv_entry (av.map (z_v E)) (n := M.2.2.1) (by rw [z_sl_len]; exact hlen)
  rw [lg_entry_eq]
  generalize (lg_sl (av.map (z_v E)) ++ List.replicate (M.2.2.1 - (lg_sl (av.map (z_v E))).length) Slot.unset).toArray = ls at hl ⊢
  rw [z_args_eq] at hl
  exact k yy hyy p l e s m _ below meth c s.heap [] ls ⟨B.exec, B.bytes, hml, B.returns, B.notSynchronized, fun h => (name_of_methodNamed B.named B.method).1.trans h, findClass_of_methodNamed B.named, fun w hw => atoms_spec (ws := z_ws M) B.pre w (List.mem_cons_of_mem _ hw), hK, hX, hb, by omega, hNW⟩ ⟨hz, hn1, hP, va_S.rf⟩ hl
-- calls
theorem z_go {q' : zQ} {p : Program} {l : Launch} {e : Env} {s : State} {m : MethodId} {args a : Array Value} {below : List Frame} {meth : Method} {c : Code} {Hp : Heap} {locs : List Loc} {ls : Array Slot} {R : Room} {mc ms : Nat} {Qw : State → Prop} {rest st0 : List Value}
    (hS : va_S (z_A E) s.heap Hp locs) (hr : va_Run p l e R s m args below meth c Hp locs cs ss mc ms (F0 m pc ls st0) rest (z_Q E q' a) (z_A E))
    (kk : ∀ (H1 : Heap) (locs1 : List Loc), z_Wd E q'.2 s H1 locs1 → W p l e R s m args below meth c H1 locs1 (cs + mc) (ss + ms) Qw (F0 m (pc + 3) ls ((q'.1.map (z_v E)).toList ++ rest))) : W p l e R s m args below meth c Hp locs cs ss Qw (F0 m pc ls st0) := by
  intro T hT X
  obtain ⟨v, st₀, t, T', L, h0, X', hL, e1, e2, ⟨⟨hv, hH⟩, hz, hk⟩, st⟩ := hr T hT X
  cases hv
  rw [h0] at hz hk
  obtain ⟨t2, a1, b1⟩ := kk T'.heap (locs ++ L) ⟨by rw [e1]; exact hH.1, hH.2.1, by rw [e1]; exact hH.2.2.1, Nat.le_trans hS.1 (by rw [e1]; exact hz), fun q h1 h2 => by rw [e1, hk q (Nat.lt_of_lt_of_le h1 hS.1) h2]; exact hS.2.1 q h1 h2, fun q hq => (List.mem_append.mp hq).elim (hS.2.2 q) (hL q)⟩ T' rfl X'
  exact ⟨t2, st t2 a1, b1⟩
theorem z_blind {av : List Value} : FrameBlind (va_Pc av (z_H E H)) := fun a U g mk q => by
  obtain ⟨q0, q1, q2, q3, q4, q5, q6, q7⟩ := q
  exact ⟨q0, q1, q2, q3, va_K.moved (u := U) (U := U.calling g mk a) (Vm.Alike.refl U.vm) q4, q5.moved (u := U) (U := U.calling g mk a) (Vm.Alike.refl U.vm), q6, z_NW.same (u := U) (U := U.calling g mk a) rfl q7⟩
theorem z_good {M' : zM} (hc : Cond.code M'.1 M'.2.1 M'.2.2.1 M'.2.2.2 ∈ z_tb) : GoodIn z_tb (z_ws M') := by
  intro w hw
  have hw' : w ∈ z_tb := by
    rcases List.mem_cons.mp hw with rfl | h
    · exact hc
    · exact h
  exact ⟨hw', good_of_word (List.mem_filter.mp hw').2⟩
/-- what a call's place of the pool stands for -/
def z_L (own : String) (idx : Nat) (M' : zM) (na : Nat) : Prop := (Cond.methodLink own idx M'.1 ∈ z_tb ∨ ∃ host, Cond.methodLinkNest own idx M'.1 host ∈ z_nb) ∧ Cond.code M'.1 M'.2.1 M'.2.2.1 M'.2.2.2 ∈ z_tb ∧ Cond.initialized M'.1.cls ∈ z_tb ∧ M'.1.cls ≠ "java/lang/invoke/MethodHandle" ∧ M'.1.cls ≠ "java/lang/invoke/VarHandle" ∧ (parseMethodDescriptor M'.1.desc).map (fun q => q.parameters.length) = some na ∧ M'.2.2.1 ≤ 45
theorem z_room {d' C' S' : Nat} {M' : zM} (hd : d' < d) (h45 : M'.2.2.1 ≤ 45) : (z_rm d' C' S').frames + 1 ≤ (z_rm d C S).frames ∧ 8 + (M'.2.2.1 + 11) + (z_rm d' C' S').locals ≤ (z_rm d C S).locals := by
  refine ⟨hd, ?_⟩
  show 8 + (M'.2.2.1 + 11) + 64 * d' ≤ 64 * d
  omega
theorem z_back {r : Option zV} : (r.map (z_v E)).toList ++ st.map (z_v E) = (r.toList ++ st).map (z_v E) := by cases r <;> rfl
theorem z_mon (st : List zV) : ((st.map (z_v E)).map fun v => v.category).sum = z_sum st := by
  induction st with
  | nil => rfl
  | cons v t ih =>
    show (z_v E v).category + ((t.map (z_v E)).map fun v => v.category).sum = z_cat v + z_sum t
    rw [ih, z_v_cat]
def z_LS (own : String) (idx : Nat) (M' : zM) (na : Nat) : Prop := z_L own idx M' na ∧ Cond.static M'.1 ∈ z_tb
def z_LV (own : String) (idx : Nat) (M' : zM) (na ci : Nat) : Prop := z_L own idx M' na ∧ Cond.instanceMethod M'.1 ∈ z_tb ∧ ∃ (Cn : String) (T : u_T) (N : Nat), classes[ci]? = some (Cn, T, N) ∧ Cond.selects Cn M'.1 M'.1 ∈ z_tb
def z_LI (own : String) (idx : Nat) (M' : zM) (na : Nat) : Prop := z_L own idx M' na ∧ Cond.instanceMethod M'.1 ∈ z_tb ∧ M'.1.name = "<init>" ∧ M'.2.2.2 = none
section ZCall
variable {σ : Type} {f' : σ → zQ} {o' : Option σ} {g : σ → Option ρ} {M' : zM} {d' C' S' idx na ci : Nat} {av st0 : List zV} {r : Option Nat}
theorem zs_calls0 (hd : decode M.2.1 pc = .ok (.invokestatic idx, 3)) (lk : z_LS M.1.cls idx M' na) (hM : z_MS E M' d' C' S' f' av H o') (hdd : d' < d) (hC : cs + C' ≤ C) (hS : ss + S' ≤ S) (hna : av.length = na) (hst : st0 = av.reverse ++ st) (h8 : z_sum st ≤ 8) (kk : ∀ y, z_S E M d C S f (pc + 3) lv ((f' y).1.toList ++ st) (f' y).2 (cs + C') (ss + S') (g y)) : z_S E M d C S f pc lv st0 H cs ss (o'.bind g) := by
  intro yy hyy p l e s m args below meth c Hp locs ls X hW hl
  obtain ⟨y, hy, h⟩ := Option.bind_eq_some_iff.mp hyy
  have hts := X.2.2.2.2.2.2.2.1
  have fin : ∀ (H1 : Heap) (locs1 : List Loc), z_Wd E (f' y).2 s H1 locs1 → W p l e (z_rm d C S) s m args below meth c H1 locs1 (cs + C') (ss + S') (MQ below (z_Q E (f yy)) args s C S (z_A E)) (F0 m (pc + 3) ls (((f' y).1.map (z_v E)).toList ++ st.map (z_v E))) := fun H1 locs1 hW' => by
    rw [z_back]
    exact kk y yy h p l e s m args below meth c H1 locs1 ls X hW' hl
  obtain ⟨⟨hlk, hcode, hini, hy1, hy2, hpar, h45⟩, hw⟩ := lk
  have hp : PreS s Hp (va_Pc (av.map (z_v E)) (z_H E H)) (av.map (z_v E)) := ⟨z_blind, fun U hU hv => ⟨rfl, z_holds X hW hU hv⟩⟩
  have hstk : st0.map (z_v E) = (av.map (z_v E)).reverse ++ st.map (z_v E) := by rw [hst, List.map_append, List.map_reverse]
  have hR := z_room (C := C) (S := S) (C' := C') (S' := S') (M' := M') hdd h45
  have hMl := hM y hy l
  rcases hlk with hlk | ⟨host, hlk⟩
  · exact z_go hW.2.2.2 (va_runS (As := av.map (z_v E)) (rest := st.map (z_v E)) ⟨X.1, X.2.1, X.2.2.1, X.own, hts⟩ hMl ⟨callB_of na hts (z_good hcode) rfl rfl rfl (X.words _ hini) (X.words _ hlk) ⟨hy1, hy2, hpar⟩ hR, X.words _ hw⟩ hp rfl (by rw [List.length_map]; exact hna) hl.1 hstk (lv_room (by rw [z_mon]; exact h8)) hd ⟨hC, hS⟩) fin
  · exact z_go hW.2.2.2 (va_runSN (As := av.map (z_v E)) (rest := st.map (z_v E)) ⟨X.1, X.2.1, X.2.2.1, X.own, hts⟩ hMl ⟨va_cnB na hts (z_good hcode) rfl rfl rfl (X.NW _ hlk) (X.words _ hini) ⟨hy1, hy2, hpar⟩ hR, X.words _ hw, trivial⟩ hp rfl (by rw [List.length_map]; exact hna) hl.1 hstk (lv_room (by rw [z_mon]; exact h8)) hd ⟨hC, hS⟩) fin
theorem zs_callv0 (hd : decode M.2.1 pc = .ok (.invokevirtual idx, 3)) (lk : z_LV M.1.cls idx M' na ci) (hok : ∀ y, o' = some y → zok H r ci = some ()) (hM : z_MS E M' d' C' S' f' (zR r :: av) H o') (hdd : d' < d) (hC : cs + C' ≤ C) (hS : ss + S' ≤ S) (hna : av.length = na) (hst : st0 = av.reverse ++ zR r :: st) (h8 : z_sum st ≤ 8) (kk : ∀ y, z_S E M d C S f (pc + 3) lv ((f' y).1.toList ++ st) (f' y).2 (cs + C') (ss + S') (g y)) : z_S E M d C S f pc lv st0 H cs ss (o'.bind g) := by
  intro yy hyy p l e s m args below meth c Hp locs ls X hW hl
  obtain ⟨y, hy, h⟩ := Option.bind_eq_some_iff.mp hyy
  have hts := X.2.2.2.2.2.2.2.1
  have fin : ∀ (H1 : Heap) (locs1 : List Loc), z_Wd E (f' y).2 s H1 locs1 → W p l e (z_rm d C S) s m args below meth c H1 locs1 (cs + C') (ss + S') (MQ below (z_Q E (f yy)) args s C S (z_A E)) (F0 m (pc + 3) ls (((f' y).1.map (z_v E)).toList ++ st.map (z_v E))) := fun H1 locs1 hW' => by
    rw [z_back]
    exact kk y yy h p l e s m args below meth c H1 locs1 ls X hW' hl
  obtain ⟨⟨hlk, hcode, hini, hy1, hy2, hpar, h45⟩, hw, Cn, T, N, hcl, hw2⟩ := lk
  obtain ⟨fs, hfs, -⟩ := Option.bind_eq_some_iff.mp (hok y hy)
  obtain ⟨k, rfl, hk, hc⟩ := zfs_inv hfs
  have hp : PreV s Hp Cn (z_ad E k) (va_Pc ((zR (some k) :: av).map (z_v E)) (z_H E H)) (av.map (z_v E)) := ⟨z_blind, va_recv X.K hW.2.2.1 hcl (z_cell hk hc), fun U hU hv => ⟨rfl, z_holds X hW hU hv⟩⟩
  have hstk : st0.map (z_v E) = (av.map (z_v E)).reverse ++ .ref (z_ad E k) :: st.map (z_v E) := by rw [hst, List.map_append, List.map_reverse]; rfl
  have hR := z_room (C := C) (S := S) (C' := C') (S' := S') (M' := M') hdd h45
  have hMl := hM y hy l
  rcases hlk with hlk | ⟨host, hlk⟩
  · exact z_go hW.2.2.2 (va_runV (C := Cn) (As := av.map (z_v E)) (rest := st.map (z_v E)) ⟨X.1, X.2.1, X.2.2.1, X.own, hts⟩ hMl ⟨callB_of na hts (z_good hcode) rfl rfl rfl (X.words _ hini) (X.words _ hlk) ⟨hy1, hy2, hpar⟩ hR, X.words _ hw, X.words _ hw2⟩ hp rfl (by rw [List.length_map]; exact hna) hl.1 hstk (lv_room (by rw [z_mon]; exact h8)) hd ⟨hC, hS⟩) fin
  · exact z_go hW.2.2.2 (va_runVN (C := Cn) (As := av.map (z_v E)) (rest := st.map (z_v E)) ⟨X.1, X.2.1, X.2.2.1, X.own, hts⟩ hMl ⟨va_cnB na hts (z_good hcode) rfl rfl rfl (X.NW _ hlk) (X.words _ hini) ⟨hy1, hy2, hpar⟩ hR, X.words _ hw, X.words _ hw2⟩ hp rfl (by rw [List.length_map]; exact hna) hl.1 hstk (lv_room (by rw [z_mon]; exact h8)) hd ⟨hC, hS⟩) fin
theorem zs_calli0 {k : Nat} (hd : decode M.2.1 pc = .ok (.invokespecial idx, 3)) (lk : z_LI M.1.cls idx M' na) (hM : z_MS E M' d' C' S' f' (zR (some k) :: av) H o') (hdd : d' < d) (hC : cs + C' ≤ C) (hS : ss + S' ≤ S) (hna : av.length = na) (hst : st0 = av.reverse ++ zR (some k) :: st) (h8 : z_sum st ≤ 8) (kk : ∀ y, z_S E M d C S f (pc + 3) lv ((f' y).1.toList ++ st) (f' y).2 (cs + C') (ss + S') (g y)) : z_S E M d C S f pc lv st0 H cs ss (o'.bind g) := by
  intro yy hyy p l e s m args below meth c Hp locs ls X hW hl
  obtain ⟨y, hy, h⟩ := Option.bind_eq_some_iff.mp hyy
  have hts := X.2.2.2.2.2.2.2.1
  have fin : ∀ (H1 : Heap) (locs1 : List Loc), z_Wd E (f' y).2 s H1 locs1 → W p l e (z_rm d C S) s m args below meth c H1 locs1 (cs + C') (ss + S') (MQ below (z_Q E (f yy)) args s C S (z_A E)) (F0 m (pc + 3) ls (((f' y).1.map (z_v E)).toList ++ st.map (z_v E))) := fun H1 locs1 hW' => by
    rw [z_back]
    exact kk y yy h p l e s m args below meth c H1 locs1 ls X hW' hl
  obtain ⟨⟨hlk, hcode, hini, hy1, hy2, hpar, h45⟩, hw, hw0, hr⟩ := lk
  have hp : PreS s Hp (va_Pc ((zR (some k) :: av).map (z_v E)) (z_H E H)) (.ref (z_ad E k) :: av.map (z_v E)) := ⟨z_blind, fun U hU hv => ⟨rfl, z_holds X hW hU hv⟩⟩
  have hstk : st0.map (z_v E) = (av.map (z_v E)).reverse ++ .ref (z_ad E k) :: st.map (z_v E) := by rw [hst, List.map_append, List.map_reverse]; rfl
  have hR := z_room (C := C) (S := S) (C' := C') (S' := S') (M' := M') hdd h45
  have hMl := hM y hy l
  have hws : z_ws M' = Cond.code M'.1 M'.2.1 M'.2.2.1 none :: z_tb := by unfold z_ws; rw [hr]
  rcases hlk with hlk | ⟨host, hlk⟩
  · exact z_go hW.2.2.2 (va_runI (As := av.map (z_v E)) (rest := st.map (z_v E)) ⟨X.1, X.2.1, X.2.2.1, X.own, hts⟩ hMl ⟨callB_of na hts (z_good hcode) hws rfl rfl (X.words _ hini) (X.words _ hlk) ⟨hy1, hy2, hpar⟩ hR, hw0, X.words _ hw⟩ hp rfl (by rw [List.length_map]; exact hna) hl.1 hstk (lv_room (by rw [z_mon]; exact h8)) hd ⟨hC, hS⟩) fin
  · exact z_go hW.2.2.2 (va_runIN (As := av.map (z_v E)) (rest := st.map (z_v E)) ⟨X.1, X.2.1, X.2.2.1, X.own, hts⟩ hMl ⟨va_cnB na hts (z_good hcode) hws rfl rfl (X.NW _ hlk) (X.words _ hini) ⟨hy1, hy2, hpar⟩ hR, hw0, X.words _ hw⟩ hp rfl (by rw [List.length_map]; exact hna) hl.1 hstk (lv_room (by rw [z_mon]; exact h8)) hd ⟨hC, hS⟩) fin
end ZCall
section ZCall2
variable {M' : zM} {d' C' S' idx na ci : Nat} {av st0 : List zV} {r : Option Nat}
theorem zs_calls_rI {o' : Option (Int32)} {g : Int32 → Option ρ} (hd : decode M.2.1 pc = .ok (.invokestatic idx, 3)) (lk : z_LS M.1.cls idx M' na) (hM : z_MS E M' d' C' S' (zrI H) av H o') (hdd : d' < d) (hC : cs + C' ≤ C) (hS : ss + S' ≤ S) (hna : av.length = na) (hst : st0 = av.reverse ++ st) (h8 : z_sum st ≤ 8) (kk : ∀ y, z_S E M d C S f (pc + 3) lv (zI y :: st) H (cs + C') (ss + S') (g y)) : z_S E M d C S f pc lv st0 H cs ss (o'.bind g) := zs_calls0 hd lk hM hdd hC hS hna hst h8 kk
theorem zs_callv_rI {o' : Option (Int32)} {g : Int32 → Option ρ} (hd : decode M.2.1 pc = .ok (.invokevirtual idx, 3)) (lk : z_LV M.1.cls idx M' na ci) (hok : ∀ y, o' = some y → zok H r ci = some ()) (hM : z_MS E M' d' C' S' (zrI H) (zR r :: av) H o') (hdd : d' < d) (hC : cs + C' ≤ C) (hS : ss + S' ≤ S) (hna : av.length = na) (hst : st0 = av.reverse ++ zR r :: st) (h8 : z_sum st ≤ 8) (kk : ∀ y, z_S E M d C S f (pc + 3) lv (zI y :: st) H (cs + C') (ss + S') (g y)) : z_S E M d C S f pc lv st0 H cs ss (o'.bind g) := zs_callv0 hd lk hok hM hdd hC hS hna hst h8 kk
theorem zs_calls_rL {o' : Option (Int64)} {g : Int64 → Option ρ} (hd : decode M.2.1 pc = .ok (.invokestatic idx, 3)) (lk : z_LS M.1.cls idx M' na) (hM : z_MS E M' d' C' S' (zrL H) av H o') (hdd : d' < d) (hC : cs + C' ≤ C) (hS : ss + S' ≤ S) (hna : av.length = na) (hst : st0 = av.reverse ++ st) (h8 : z_sum st ≤ 8) (kk : ∀ y, z_S E M d C S f (pc + 3) lv (zL y :: st) H (cs + C') (ss + S') (g y)) : z_S E M d C S f pc lv st0 H cs ss (o'.bind g) := zs_calls0 hd lk hM hdd hC hS hna hst h8 kk
theorem zs_callv_rL {o' : Option (Int64)} {g : Int64 → Option ρ} (hd : decode M.2.1 pc = .ok (.invokevirtual idx, 3)) (lk : z_LV M.1.cls idx M' na ci) (hok : ∀ y, o' = some y → zok H r ci = some ()) (hM : z_MS E M' d' C' S' (zrL H) (zR r :: av) H o') (hdd : d' < d) (hC : cs + C' ≤ C) (hS : ss + S' ≤ S) (hna : av.length = na) (hst : st0 = av.reverse ++ zR r :: st) (h8 : z_sum st ≤ 8) (kk : ∀ y, z_S E M d C S f (pc + 3) lv (zL y :: st) H (cs + C') (ss + S') (g y)) : z_S E M d C S f pc lv st0 H cs ss (o'.bind g) := zs_callv0 hd lk hok hM hdd hC hS hna hst h8 kk
theorem zs_calls_rR {o' : Option (Option Nat)} {g : Option Nat → Option ρ} (hd : decode M.2.1 pc = .ok (.invokestatic idx, 3)) (lk : z_LS M.1.cls idx M' na) (hM : z_MS E M' d' C' S' (zrR H) av H o') (hdd : d' < d) (hC : cs + C' ≤ C) (hS : ss + S' ≤ S) (hna : av.length = na) (hst : st0 = av.reverse ++ st) (h8 : z_sum st ≤ 8) (kk : ∀ y, z_S E M d C S f (pc + 3) lv (zR y :: st) H (cs + C') (ss + S') (g y)) : z_S E M d C S f pc lv st0 H cs ss (o'.bind g) := zs_calls0 hd lk hM hdd hC hS hna hst h8 kk
theorem zs_callv_rR {o' : Option (Option Nat)} {g : Option Nat → Option ρ} (hd : decode M.2.1 pc = .ok (.invokevirtual idx, 3)) (lk : z_LV M.1.cls idx M' na ci) (hok : ∀ y, o' = some y → zok H r ci = some ()) (hM : z_MS E M' d' C' S' (zrR H) (zR r :: av) H o') (hdd : d' < d) (hC : cs + C' ≤ C) (hS : ss + S' ≤ S) (hna : av.length = na) (hst : st0 = av.reverse ++ zR r :: st) (h8 : z_sum st ≤ 8) (kk : ∀ y, z_S E M d C S f (pc + 3) lv (zR y :: st) H (cs + C') (ss + S') (g y)) : z_S E M d C S f pc lv st0 H cs ss (o'.bind g) := zs_callv0 hd lk hok hM hdd hC hS hna hst h8 kk
theorem zs_calls_wI {o' : Option (Int32 × zH)} {g : Int32 × zH → Option ρ} (hd : decode M.2.1 pc = .ok (.invokestatic idx, 3)) (lk : z_LS M.1.cls idx M' na) (hM : z_MS E M' d' C' S' (zwI) av H o') (hdd : d' < d) (hC : cs + C' ≤ C) (hS : ss + S' ≤ S) (hna : av.length = na) (hst : st0 = av.reverse ++ st) (h8 : z_sum st ≤ 8) (kk : ∀ y, z_S E M d C S f (pc + 3) lv (zI y.1 :: st) y.2 (cs + C') (ss + S') (g y)) : z_S E M d C S f pc lv st0 H cs ss (o'.bind g) := zs_calls0 hd lk hM hdd hC hS hna hst h8 kk
theorem zs_callv_wI {o' : Option (Int32 × zH)} {g : Int32 × zH → Option ρ} (hd : decode M.2.1 pc = .ok (.invokevirtual idx, 3)) (lk : z_LV M.1.cls idx M' na ci) (hok : ∀ y, o' = some y → zok H r ci = some ()) (hM : z_MS E M' d' C' S' (zwI) (zR r :: av) H o') (hdd : d' < d) (hC : cs + C' ≤ C) (hS : ss + S' ≤ S) (hna : av.length = na) (hst : st0 = av.reverse ++ zR r :: st) (h8 : z_sum st ≤ 8) (kk : ∀ y, z_S E M d C S f (pc + 3) lv (zI y.1 :: st) y.2 (cs + C') (ss + S') (g y)) : z_S E M d C S f pc lv st0 H cs ss (o'.bind g) := zs_callv0 hd lk hok hM hdd hC hS hna hst h8 kk
theorem zs_calls_wL {o' : Option (Int64 × zH)} {g : Int64 × zH → Option ρ} (hd : decode M.2.1 pc = .ok (.invokestatic idx, 3)) (lk : z_LS M.1.cls idx M' na) (hM : z_MS E M' d' C' S' (zwL) av H o') (hdd : d' < d) (hC : cs + C' ≤ C) (hS : ss + S' ≤ S) (hna : av.length = na) (hst : st0 = av.reverse ++ st) (h8 : z_sum st ≤ 8) (kk : ∀ y, z_S E M d C S f (pc + 3) lv (zL y.1 :: st) y.2 (cs + C') (ss + S') (g y)) : z_S E M d C S f pc lv st0 H cs ss (o'.bind g) := zs_calls0 hd lk hM hdd hC hS hna hst h8 kk
theorem zs_callv_wL {o' : Option (Int64 × zH)} {g : Int64 × zH → Option ρ} (hd : decode M.2.1 pc = .ok (.invokevirtual idx, 3)) (lk : z_LV M.1.cls idx M' na ci) (hok : ∀ y, o' = some y → zok H r ci = some ()) (hM : z_MS E M' d' C' S' (zwL) (zR r :: av) H o') (hdd : d' < d) (hC : cs + C' ≤ C) (hS : ss + S' ≤ S) (hna : av.length = na) (hst : st0 = av.reverse ++ zR r :: st) (h8 : z_sum st ≤ 8) (kk : ∀ y, z_S E M d C S f (pc + 3) lv (zL y.1 :: st) y.2 (cs + C') (ss + S') (g y)) : z_S E M d C S f pc lv st0 H cs ss (o'.bind g) := zs_callv0 hd lk hok hM hdd hC hS hna hst h8 kk
theorem zs_calls_wR {o' : Option (Option Nat × zH)} {g : Option Nat × zH → Option ρ} (hd : decode M.2.1 pc = .ok (.invokestatic idx, 3)) (lk : z_LS M.1.cls idx M' na) (hM : z_MS E M' d' C' S' (zwR) av H o') (hdd : d' < d) (hC : cs + C' ≤ C) (hS : ss + S' ≤ S) (hna : av.length = na) (hst : st0 = av.reverse ++ st) (h8 : z_sum st ≤ 8) (kk : ∀ y, z_S E M d C S f (pc + 3) lv (zR y.1 :: st) y.2 (cs + C') (ss + S') (g y)) : z_S E M d C S f pc lv st0 H cs ss (o'.bind g) := zs_calls0 hd lk hM hdd hC hS hna hst h8 kk
theorem zs_callv_wR {o' : Option (Option Nat × zH)} {g : Option Nat × zH → Option ρ} (hd : decode M.2.1 pc = .ok (.invokevirtual idx, 3)) (lk : z_LV M.1.cls idx M' na ci) (hok : ∀ y, o' = some y → zok H r ci = some ()) (hM : z_MS E M' d' C' S' (zwR) (zR r :: av) H o') (hdd : d' < d) (hC : cs + C' ≤ C) (hS : ss + S' ≤ S) (hna : av.length = na) (hst : st0 = av.reverse ++ zR r :: st) (h8 : z_sum st ≤ 8) (kk : ∀ y, z_S E M d C S f (pc + 3) lv (zR y.1 :: st) y.2 (cs + C') (ss + S') (g y)) : z_S E M d C S f pc lv st0 H cs ss (o'.bind g) := zs_callv0 hd lk hok hM hdd hC hS hna hst h8 kk
theorem zs_calls_wV {o' : Option (zH)} {g : zH → Option ρ} (hd : decode M.2.1 pc = .ok (.invokestatic idx, 3)) (lk : z_LS M.1.cls idx M' na) (hM : z_MS E M' d' C' S' (zwV) av H o') (hdd : d' < d) (hC : cs + C' ≤ C) (hS : ss + S' ≤ S) (hna : av.length = na) (hst : st0 = av.reverse ++ st) (h8 : z_sum st ≤ 8) (kk : ∀ y, z_S E M d C S f (pc + 3) lv (st) y (cs + C') (ss + S') (g y)) : z_S E M d C S f pc lv st0 H cs ss (o'.bind g) := zs_calls0 hd lk hM hdd hC hS hna hst h8 kk
theorem zs_callv_wV {o' : Option (zH)} {g : zH → Option ρ} (hd : decode M.2.1 pc = .ok (.invokevirtual idx, 3)) (lk : z_LV M.1.cls idx M' na ci) (hok : ∀ y, o' = some y → zok H r ci = some ()) (hM : z_MS E M' d' C' S' (zwV) (zR r :: av) H o') (hdd : d' < d) (hC : cs + C' ≤ C) (hS : ss + S' ≤ S) (hna : av.length = na) (hst : st0 = av.reverse ++ zR r :: st) (h8 : z_sum st ≤ 8) (kk : ∀ y, z_S E M d C S f (pc + 3) lv (st) y (cs + C') (ss + S') (g y)) : z_S E M d C S f pc lv st0 H cs ss (o'.bind g) := zs_callv0 hd lk hok hM hdd hC hS hna hst h8 kk
theorem zs_calli {k : Nat} {o' : Option (zH)} {g : zH → Option ρ} (hd : decode M.2.1 pc = .ok (.invokespecial idx, 3)) (lk : z_LI M.1.cls idx M' na) (hM : z_MS E M' d' C' S' (zwV) (zR (some k) :: av) H o') (hdd : d' < d) (hC : cs + C' ≤ C) (hS : ss + S' ≤ S) (hna : av.length = na) (hst : st0 = av.reverse ++ zR (some k) :: st) (h8 : z_sum st ≤ 8) (kk : ∀ y, z_S E M d C S f (pc + 3) lv (st) y (cs + C') (ss + S') (g y)) : z_S E M d C S f pc lv st0 H cs ss (o'.bind g) := zs_calli0 hd lk hM hdd hC hS hna hst h8 kk
end ZCall2
theorem zs_objInit {idx k : Nat} (hd : decode M.2.1 pc = .ok (.invokespecial idx, 3)) (hw1 : Cond.methodLink M.1.cls idx Lib.objectInit ∈ z_tb) (hw2 : Cond.instanceMethod Lib.objectInit ∈ z_tb) (hw3 : Cond.code Lib.objectInit ⟨#[0xb1]⟩ 1 none ∈ z_tb) (hd1 : 1 ≤ d) (h8 : z_sum st ≤ 8) (kk : z_S E M d C S f (pc + 3) lv st H cs ss o) : z_S E M d C S f pc lv (zR (some k) :: st) H cs ss o := by
  intro yy hyy p l e s m args below meth c Hp locs ls X hW hl
  refine W.objInit X.1 X.2.1 X.own (X.words _ hw1) (X.words _ hw2) (X.words _ hw3) rfl (by rw [X.2.2.1]; exact hl.1) rfl hd hd1 ?_ (kk yy hyy p l e s m args below meth c Hp locs ls X hW hl)
  have h9 := lv_room (m := m) (pc := pc) (ls := ls) (rest := (zR (some k) :: st).map (z_v E)) (st := st.map (z_v E)) (by rw [z_mon]; exact h8)
  show _ + _ + 12 ≤ 64 * d
  omega
theorem zs_max {idx : Nat} {x y : Int32} (hd : decode M.2.1 pc = .ok (.invokestatic idx, 3)) (hw1 : Cond.methodLink M.1.cls idx Lib.Math.max.name ∈ z_tb) (hw2 : Cond.static Lib.Math.max.name ∈ z_tb) (hw3 : Cond.initialized "java/lang/Math" ∈ z_tb) (hw4 : Cond.code Lib.Math.max.name Lib.Math.max.code 2 (some .int) ∈ z_tb) (hd1 : 1 ≤ d) (hC : cs ≤ C) (hS : ss ≤ S) (h8 : z_sum st ≤ 8) (kk : z_S E M d C S f (pc + 3) lv (zI (if x < y then y else x) :: st) H cs ss o) : z_S E M d C S f pc lv (zI y :: zI x :: st) H cs ss o := by
  intro yy hyy p l e s m args below meth c Hp locs ls X hW hl
  refine va_mmax X.1 X.2.1 (X.2.2.1.trans hl.1.symm) X.own (X.words _ hw1) (X.words _ hw2) (X.words _ hw3) (X.words _ hw4) hd1 ?_ hC hS hd (kk yy hyy p l e s m args below meth c Hp locs ls X hW hl)
  rw [z_mon]
  show _ + 13 ≤ 64 * d
  omega
end ZMem
end
section
/-! What the heap operations answer where the cells are known. -/
section ZHeap
variable {H : zH} {k ci j t N : Nat} {fs : List zV} {i : Int32}
theorem zgo_of (hk : 1 ≤ k ∧ k < H.2) : zgo H (some k) = some (H.1 k) := by
  simp only [zgo, Option.bind_some, if_pos hk]
theorem zfs_of (hk : 1 ≤ k ∧ k < H.2) (h : H.1 k = .inr (ci, fs)) : zfs H (some k) ci = some fs := by
  simp only [zfs, zgo_of hk, Option.bind_some, h, zob, if_pos]
theorem zar_of {a : Nat × zA} (hk : 1 ≤ k ∧ k < H.2) (h : H.1 k = .inl (t, a)) : zar H (some k) t = some a := by
  simp only [zar, zgo_of hk, Option.bind_some, h, zab, if_pos]
theorem zok_of (hk : 1 ≤ k ∧ k < H.2) (h : H.1 k = .inr (ci, fs)) : zok H (some k) ci = some () := by
  simp only [zok, zfs_of hk h, Option.bind_some]
theorem zgI_of {x : Int32} (hk : 1 ≤ k ∧ k < H.2) (h : H.1 k = .inr (ci, fs)) (hj : fs[j]? = some (zI x)) : zgI H (some k) ci j = some x := by
  simp only [zgI, zfs_of hk h, Option.bind_some, hj, zvi]
theorem zgL_of {x : Int64} (hk : 1 ≤ k ∧ k < H.2) (h : H.1 k = .inr (ci, fs)) (hj : fs[j]? = some (zL x)) : zgL H (some k) ci j = some x := by
  simp only [zgL, zfs_of hk h, Option.bind_some, hj, zvl]
theorem zgR_of {x : Option Nat} (hk : 1 ≤ k ∧ k < H.2) (h : H.1 k = .inr (ci, fs)) (hj : fs[j]? = some (zR x)) : zgR H (some k) ci j = some x := by
  simp only [zgR, zfs_of hk h, Option.bind_some, hj, zvr]
theorem zpV_of {v : zV} (hk : 1 ≤ k ∧ k < H.2) (h : H.1 k = .inr (ci, fs)) (hj : j < fs.length) : zpV H (some k) ci j v = some (va_up H.1 k (.inr (ci, fs.set j v)), H.2) := by
  simp only [zpV, Option.bind_some, zfs_of hk h, if_pos hj]
theorem zpZ_of {x : Int32} (hx : x = 0 ∨ x = 1) (hk : 1 ≤ k ∧ k < H.2) (h : H.1 k = .inr (ci, fs)) (hj : j < fs.length) : zpZ H (some k) ci j x = some (va_up H.1 k (.inr (ci, fs.set j (zI x))), H.2) := by
  rw [zpZ, if_pos hx, zpV_of hk h hj]
theorem zle_of {a : zA} (hk : 1 ≤ k ∧ k < H.2) (h : H.1 k = .inl (t, N, a)) : zle H (some k) t = some (nI N) := by
  simp only [zle, zar_of hk h, Option.bind_some]
theorem zix_of (h0 : ¬ i < 0) (h1 : i.toNatClampNeg < N) : zix i N = some i.toNatClampNeg := by
  rw [zix, if_neg]
  rintro (h | h)
  · exact h0 h
  · omega
theorem zaI_of {f : Nat → Int32} (hk : 1 ≤ k ∧ k < H.2) (h : H.1 k = .inl (t, N, .inl f)) (h0 : ¬ i < 0) (h1 : i.toNatClampNeg < N) : zaI H (some k) t i = some (f i.toNatClampNeg) := by
  simp only [zaI, zar_of hk h, Option.bind_some, zix_of h0 h1, zai]
theorem zaL_of {f : Nat → Int64} (hk : 1 ≤ k ∧ k < H.2) (h : H.1 k = .inl (t, N, .inr (.inl f))) (h0 : ¬ i < 0) (h1 : i.toNatClampNeg < N) : zaL H (some k) t i = some (f i.toNatClampNeg) := by
  simp only [zaL, zar_of hk h, Option.bind_some, zix_of h0 h1, zal]
theorem zaR_of {f : Nat → Option Nat} (hk : 1 ≤ k ∧ k < H.2) (h : H.1 k = .inl (t, N, .inr (.inr f))) (h0 : ¬ i < 0) (h1 : i.toNatClampNeg < N) : zaR H (some k) t i = some (f i.toNatClampNeg) := by
  simp only [zaR, zar_of hk h, Option.bind_some, zix_of h0 h1, zaa]
theorem zsI_of {f : Nat → Int32} {x : Int32} (hk : 1 ≤ k ∧ k < H.2) (h : H.1 k = .inl (t, N, .inl f)) (h0 : ¬ i < 0) (h1 : i.toNatClampNeg < N) : zsI H (some k) t i x = some (va_up H.1 k (.inl (t, N, .inl (va_up f i.toNatClampNeg x))), H.2) := by
  simp only [zsI, zar_of hk h, Option.bind_some, zix_of h0 h1, zsi]
theorem zsZ_of {f : Nat → Int32} {x : Int32} (hx : x = 0 ∨ x = 1) (hk : 1 ≤ k ∧ k < H.2) (h : H.1 k = .inl (t, N, .inl f)) (h0 : ¬ i < 0) (h1 : i.toNatClampNeg < N) : zsZ H (some k) t i x = some (va_up H.1 k (.inl (t, N, .inl (va_up f i.toNatClampNeg x))), H.2) := by
  rw [zsZ, if_pos hx, zsI_of hk h h0 h1]
theorem zsL_of {f : Nat → Int64} {x : Int64} (hk : 1 ≤ k ∧ k < H.2) (h : H.1 k = .inl (t, N, .inr (.inl f))) (h0 : ¬ i < 0) (h1 : i.toNatClampNeg < N) : zsL H (some k) t i x = some (va_up H.1 k (.inl (t, N, .inr (.inl (va_up f i.toNatClampNeg x)))), H.2) := by
  simp only [zsL, zar_of hk h, Option.bind_some, zix_of h0 h1, zsl]
theorem zsR_of {f : Nat → Option Nat} {v : Nat} {vs : List zV} (hk : 1 ≤ k ∧ k < H.2) (h : H.1 k = .inl (t, N, .inr (.inr f))) (hv : 1 ≤ v ∧ v < H.2) (hc : H.1 v = .inr (ci, vs)) (h0 : ¬ i < 0) (h1 : i.toNatClampNeg < N) : zsR H (some k) t i ci (some v) = some (va_up H.1 k (.inl (t, N, .inr (.inr (va_up f i.toNatClampNeg (some v))))), H.2) := by
  simp only [zsR, zok_of hv hc, zar_of hk h, Option.bind_some, zix_of h0 h1, zsa]
theorem zup_same {α : Type} {f : Nat → α} {k : Nat} {x : α} : va_up f k x k = x := by simp [va_up]
theorem zup_ne {α : Type} {f : Nat → α} {k q : Nat} {x : α} (h : q ≠ k) : va_up f k x q = f q := by simp [va_up, h]
end ZHeap
-- small numbers (the kit's nI rows, and these)
theorem zn_mul (a b : Nat) : nI a * nI b = nI (a * b) := by
  unfold nI; exact (Int32.ofNat_mul a b).symm
end
