/-! Classes, their fields in the order of the slots, array kinds, methods (printed by emit.py). -/
def jT_ST : u_T := fun k => match k with
  | 0 => ("SchemaTables", "schemas", "LSchemaTables$Schemas;", true)
  | 1 => ("SchemaTables", "disk", "LSchemaTables$Disk;", true)
  | 2 => ("SchemaTables", "registry", "LSchemaTables$Registry;", true)
  | 3 => ("SchemaTables", "manifest", "LSchemaTables$Manifest;", true)
  | 4 => ("SchemaTables", "staging", "LSchemaTables$Staging;", true)
  | 5 => ("SchemaTables", "atHand", "LSchemaTables$Row;", true)
  | 6 => ("SchemaTables", "fetched", "LSchemaTables$Row;", true)
  | _ => ("SchemaTables", "found", "LSchemaTables$Row;", true)
def jt_ST : Nat → FieldType := fun k => match k with
  | 0 => (.object "SchemaTables$Schemas")
  | 1 => (.object "SchemaTables$Disk")
  | 2 => (.object "SchemaTables$Registry")
  | 3 => (.object "SchemaTables$Manifest")
  | 4 => (.object "SchemaTables$Staging")
  | 5 => (.object "SchemaTables$Row")
  | 6 => (.object "SchemaTables$Row")
  | _ => (.object "SchemaTables$Row")
theorem jn_ST : ∀ a, a < 8 → ∀ b, b < 8 → a ≠ b → (jT_ST a).2.1 ≠ (jT_ST b).2.1 := by decide +kernel
theorem jt_ST_ok : ∀ k, k < 8 → parseFieldDescriptor (jT_ST k).2.2.1 = some (jt_ST k) := by decide +kernel
def jT_Mo : u_T := fun k => match k with
  | 0 => ("SchemaTablesModel", "schemas", "I", false)
  | 1 => ("SchemaTablesModel", "kind", "[I", true)
  | 2 => ("SchemaTablesModel", "name", "[I", true)
  | 3 => ("SchemaTablesModel", "partA", "[I", true)
  | 4 => ("SchemaTablesModel", "partB", "[I", true)
  | 5 => ("SchemaTablesModel", "depth", "[I", true)
  | 6 => ("SchemaTablesModel", "fields", "[I", true)
  | 7 => ("SchemaTablesModel", "fieldName", "[I", true)
  | 8 => ("SchemaTablesModel", "fieldSchema", "[I", true)
  | 9 => ("SchemaTablesModel", "fieldHas", "[Z", true)
  | 10 => ("SchemaTablesModel", "fieldDefault", "[J", true)
  | 11 => ("SchemaTablesModel", "matches", "[Z", true)
  | 12 => ("SchemaTablesModel", "reads", "[Z", true)
  | 13 => ("SchemaTablesModel", "given", "I", false)
  | 14 => ("SchemaTablesModel", "disk", "[I", true)
  | 15 => ("SchemaTablesModel", "writes", "I", false)
  | 16 => ("SchemaTablesModel", "down", "Z", false)
  | 17 => ("SchemaTablesModel", "limited", "Z", false)
  | 18 => ("SchemaTablesModel", "limit", "I", false)
  | 19 => ("SchemaTablesModel", "row", "[J", true)
  | 20 => ("SchemaTablesModel", "rowSize", "I", false)
  | 21 => ("SchemaTablesModel", "stagedSchema", "I", false)
  | 22 => ("SchemaTablesModel", "stagedCount", "I", false)
  | 23 => ("SchemaTablesModel", "staged", "[I", true)
  | 24 => ("SchemaTablesModel", "stagedBytes", "I", false)
  | 25 => ("SchemaTablesModel", "numbers", "[J", true)
  | 26 => ("SchemaTablesModel", "read", "I", false)
  | 27 => ("SchemaTablesModel", "bytes", "[I", true)
  | 28 => ("SchemaTablesModel", "size", "I", false)
  | 29 => ("SchemaTablesModel", "block", "[I", true)
  | 30 => ("SchemaTablesModel", "value", "[J", true)
  | 31 => ("SchemaTablesModel", "come", "[I", true)
  | 32 => ("SchemaTablesModel", "task", "[I", true)
  | 33 => ("SchemaTablesModel", "cursor", "I", false)
  | 34 => ("SchemaTablesModel", "tasks", "I", false)
  | _ => ("SchemaTablesModel", "out", "I", false)
def jt_Mo : Nat → FieldType := fun k => match k with
  | 0 => .int
  | 1 => (.array .int)
  | 2 => (.array .int)
  | 3 => (.array .int)
  | 4 => (.array .int)
  | 5 => (.array .int)
  | 6 => (.array .int)
  | 7 => (.array .int)
  | 8 => (.array .int)
  | 9 => (.array .boolean)
  | 10 => (.array .long)
  | 11 => (.array .boolean)
  | 12 => (.array .boolean)
  | 13 => .int
  | 14 => (.array .int)
  | 15 => .int
  | 16 => .boolean
  | 17 => .boolean
  | 18 => .int
  | 19 => (.array .long)
  | 20 => .int
  | 21 => .int
  | 22 => .int
  | 23 => (.array .int)
  | 24 => .int
  | 25 => (.array .long)
  | 26 => .int
  | 27 => (.array .int)
  | 28 => .int
  | 29 => (.array .int)
  | 30 => (.array .long)
  | 31 => (.array .int)
  | 32 => (.array .int)
  | 33 => .int
  | 34 => .int
  | _ => .int
theorem jn_Mo : ∀ a, a < 36 → ∀ b, b < 36 → a ≠ b → (jT_Mo a).2.1 ≠ (jT_Mo b).2.1 := by decide +kernel
theorem jt_Mo_ok : ∀ k, k < 36 → parseFieldDescriptor (jT_Mo k).2.2.1 = some (jt_Mo k) := by decide +kernel
def jT_Bytes : u_T := fun k => match k with
  | 0 => ("SchemaTables$Bytes", "octets", "[I", true)
  | _ => ("SchemaTables$Bytes", "size", "I", false)
def jt_Bytes : Nat → FieldType := fun k => match k with
  | 0 => (.array .int)
  | _ => .int
theorem jn_Bytes : ∀ a, a < 2 → ∀ b, b < 2 → a ≠ b → (jT_Bytes a).2.1 ≠ (jT_Bytes b).2.1 := by decide +kernel
theorem jt_Bytes_ok : ∀ k, k < 2 → parseFieldDescriptor (jT_Bytes k).2.2.1 = some (jt_Bytes k) := by decide +kernel
def jT_Disk : u_T := fun k => match k with
  | 0 => ("SchemaTables$Disk", "octets", "[I", true)
  | 1 => ("SchemaTables$Disk", "isUp", "Z", false)
  | 2 => ("SchemaTables$Disk", "writesLeft", "I", false)
  | _ => ("SchemaTables$Disk", "writesMade", "I", false)
def jt_Disk : Nat → FieldType := fun k => match k with
  | 0 => (.array .int)
  | 1 => .boolean
  | 2 => .int
  | _ => .int
theorem jn_Disk : ∀ a, a < 4 → ∀ b, b < 4 → a ≠ b → (jT_Disk a).2.1 ≠ (jT_Disk b).2.1 := by decide +kernel
theorem jt_Disk_ok : ∀ k, k < 4 → parseFieldDescriptor (jT_Disk k).2.2.1 = some (jt_Disk k) := by decide +kernel
def jT_Field : u_T := fun k => match k with
  | 0 => ("SchemaTables$Field", "name", "I", true)
  | 1 => ("SchemaTables$Field", "schema", "LSchemaTables$Schema;", true)
  | 2 => ("SchemaTables$Field", "hasDefault", "Z", true)
  | _ => ("SchemaTables$Field", "value", "J", true)
def jt_Field : Nat → FieldType := fun k => match k with
  | 0 => .int
  | 1 => (.object "SchemaTables$Schema")
  | 2 => .boolean
  | _ => .long
theorem jn_Field : ∀ a, a < 4 → ∀ b, b < 4 → a ≠ b → (jT_Field a).2.1 ≠ (jT_Field b).2.1 := by decide +kernel
theorem jt_Field_ok : ∀ k, k < 4 → parseFieldDescriptor (jT_Field k).2.2.1 = some (jt_Field k) := by decide +kernel
def jT_Manifest : u_T := fun k => match k with
  | 0 => ("SchemaTables$Manifest", "disk", "LSchemaTables$Disk;", true)
  | 1 => ("SchemaTables$Manifest", "file", "LSchemaTables$Bytes;", true)
  | _ => ("SchemaTables$Manifest", "draft", "LSchemaTables$Bytes;", true)
def jt_Manifest : Nat → FieldType := fun k => match k with
  | 0 => (.object "SchemaTables$Disk")
  | 1 => (.object "SchemaTables$Bytes")
  | _ => (.object "SchemaTables$Bytes")
theorem jn_Manifest : ∀ a, a < 3 → ∀ b, b < 3 → a ≠ b → (jT_Manifest a).2.1 ≠ (jT_Manifest b).2.1 := by decide +kernel
theorem jt_Manifest_ok : ∀ k, k < 3 → parseFieldDescriptor (jT_Manifest k).2.2.1 = some (jt_Manifest k) := by decide +kernel
def jT_Registry : u_T := fun k => match k with
  | 0 => ("SchemaTables$Registry", "disk", "LSchemaTables$Disk;", true)
  | _ => ("SchemaTables$Registry", "draft", "LSchemaTables$Bytes;", true)
def jt_Registry : Nat → FieldType := fun k => match k with
  | 0 => (.object "SchemaTables$Disk")
  | _ => (.object "SchemaTables$Bytes")
theorem jn_Registry : ∀ a, a < 2 → ∀ b, b < 2 → a ≠ b → (jT_Registry a).2.1 ≠ (jT_Registry b).2.1 := by decide +kernel
theorem jt_Registry_ok : ∀ k, k < 2 → parseFieldDescriptor (jT_Registry k).2.2.1 = some (jt_Registry k) := by decide +kernel
def jT_Row : u_T := fun k => match k with
  | 0 => ("SchemaTables$Row", "numbers", "[J", true)
  | _ => ("SchemaTables$Row", "size", "I", false)
def jt_Row : Nat → FieldType := fun k => match k with
  | 0 => (.array .long)
  | _ => .int
theorem jn_Row : ∀ a, a < 2 → ∀ b, b < 2 → a ≠ b → (jT_Row a).2.1 ≠ (jT_Row b).2.1 := by decide +kernel
theorem jt_Row_ok : ∀ k, k < 2 → parseFieldDescriptor (jT_Row k).2.2.1 = some (jt_Row k) := by decide +kernel
def jT_Schema : u_T := fun k => match k with
  | 0 => ("SchemaTables$Schema", "kind", "I", true)
  | 1 => ("SchemaTables$Schema", "name", "I", true)
  | 2 => ("SchemaTables$Schema", "symbols", "I", true)
  | 3 => ("SchemaTables$Schema", "otherSymbol", "I", true)
  | 4 => ("SchemaTables$Schema", "first", "LSchemaTables$Schema;", true)
  | 5 => ("SchemaTables$Schema", "second", "LSchemaTables$Schema;", true)
  | 6 => ("SchemaTables$Schema", "fields", "[LSchemaTables$Field;", true)
  | _ => ("SchemaTables$Schema", "depth", "I", true)
def jt_Schema : Nat → FieldType := fun k => match k with
  | 0 => .int
  | 1 => .int
  | 2 => .int
  | 3 => .int
  | 4 => (.object "SchemaTables$Schema")
  | 5 => (.object "SchemaTables$Schema")
  | 6 => (.array (.object "SchemaTables$Field"))
  | _ => .int
theorem jn_Schema : ∀ a, a < 8 → ∀ b, b < 8 → a ≠ b → (jT_Schema a).2.1 ≠ (jT_Schema b).2.1 := by decide +kernel
theorem jt_Schema_ok : ∀ k, k < 8 → parseFieldDescriptor (jT_Schema k).2.2.1 = some (jt_Schema k) := by decide +kernel
def jT_Schemas : u_T := fun k => match k with
  | 0 => ("SchemaTables$Schemas", "known", "[LSchemaTables$Schema;", true)
  | 1 => ("SchemaTables$Schemas", "pending", "[LSchemaTables$Field;", true)
  | 2 => ("SchemaTables$Schemas", "knownCount", "I", false)
  | _ => ("SchemaTables$Schemas", "pendingCount", "I", false)
def jt_Schemas : Nat → FieldType := fun k => match k with
  | 0 => (.array (.object "SchemaTables$Schema"))
  | 1 => (.array (.object "SchemaTables$Field"))
  | 2 => .int
  | _ => .int
theorem jn_Schemas : ∀ a, a < 4 → ∀ b, b < 4 → a ≠ b → (jT_Schemas a).2.1 ≠ (jT_Schemas b).2.1 := by decide +kernel
theorem jt_Schemas_ok : ∀ k, k < 4 → parseFieldDescriptor (jT_Schemas k).2.2.1 = some (jt_Schemas k) := by decide +kernel
def jT_Staging : u_T := fun k => match k with
  | 0 => ("SchemaTables$Staging", "coded", "LSchemaTables$Bytes;", true)
  | 1 => ("SchemaTables$Staging", "schema", "I", false)
  | _ => ("SchemaTables$Staging", "count", "I", false)
def jt_Staging : Nat → FieldType := fun k => match k with
  | 0 => (.object "SchemaTables$Bytes")
  | 1 => .int
  | _ => .int
theorem jn_Staging : ∀ a, a < 3 → ∀ b, b < 3 → a ≠ b → (jT_Staging a).2.1 ≠ (jT_Staging b).2.1 := by decide +kernel
theorem jt_Staging_ok : ∀ k, k < 3 → parseFieldDescriptor (jT_Staging k).2.2.1 = some (jt_Staging k) := by decide +kernel
abbrev classes : List vw_C := [("SchemaTables", jT_ST, 8), ("SchemaTablesModel", jT_Mo, 36), ("SchemaTables$Bytes", jT_Bytes, 2), ("SchemaTables$Disk", jT_Disk, 4), ("SchemaTables$Field", jT_Field, 4), ("SchemaTables$Manifest", jT_Manifest, 3), ("SchemaTables$Registry", jT_Registry, 2), ("SchemaTables$Row", jT_Row, 2), ("SchemaTables$Schema", jT_Schema, 8), ("SchemaTables$Schemas", jT_Schemas, 4), ("SchemaTables$Staging", jT_Staging, 3)]
def zT : List FieldType := [.int, .boolean, .long, (.object "SchemaTables$Schema"), (.object "SchemaTables$Field")]
def jM_ST_init : MethodName × ByteArray × Nat × Option FieldType := (⟨"SchemaTables", "<init>", "()V"⟩, prog_1_method_1_code, 2, none)
def jM_ST_field : MethodName × ByteArray × Nat × Option FieldType := (⟨"SchemaTables", "field", "(IIZJ)I"⟩, prog_1_method_2_code, 6, (some .int))
def jM_ST_make : MethodName × ByteArray × Nat × Option FieldType := (⟨"SchemaTables", "make", "(IIII)I"⟩, prog_1_method_3_code, 5, (some .int))
def jM_ST_canRead : MethodName × ByteArray × Nat × Option FieldType := (⟨"SchemaTables", "canRead", "(II)Z"⟩, prog_1_method_4_code, 5, (some .boolean))
def jM_ST_register : MethodName × ByteArray × Nat × Option FieldType := (⟨"SchemaTables", "register", "(II)I"⟩, prog_1_method_5_code, 5, (some .int))
def jM_ST_versions : MethodName × ByteArray × Nat × Option FieldType := (⟨"SchemaTables", "versions", "(I)I"⟩, prog_1_method_6_code, 2, (some .int))
def jM_ST_version : MethodName × ByteArray × Nat × Option FieldType := (⟨"SchemaTables", "version", "(II)I"⟩, prog_1_method_7_code, 3, (some .int))
def jM_ST_give : MethodName × ByteArray × Nat × Option FieldType := (⟨"SchemaTables", "give", "(J)I"⟩, prog_1_method_8_code, 3, (some .int))
def jM_ST_stage : MethodName × ByteArray × Nat × Option FieldType := (⟨"SchemaTables", "stage", "(I)I"⟩, prog_1_method_9_code, 4, (some .int))
def jM_ST_drop : MethodName × ByteArray × Nat × Option FieldType := (⟨"SchemaTables", "drop", "()I"⟩, prog_1_method_10_code, 1, (some .int))
def jM_ST_load : MethodName × ByteArray × Nat × Option FieldType := (⟨"SchemaTables", "load", "(I)I"⟩, prog_1_method_11_code, 3, (some .int))
def jM_ST_compact : MethodName × ByteArray × Nat × Option FieldType := (⟨"SchemaTables", "compact", "(I)I"⟩, prog_1_method_12_code, 5, (some .int))
def jM_ST_read : MethodName × ByteArray × Nat × Option FieldType := (⟨"SchemaTables", "read", "(III)I"⟩, prog_1_method_13_code, 7, (some .int))
def jM_ST_number : MethodName × ByteArray × Nat × Option FieldType := (⟨"SchemaTables", "number", "(I)J"⟩, prog_1_method_14_code, 2, (some .long))
def jM_ST_records : MethodName × ByteArray × Nat × Option FieldType := (⟨"SchemaTables", "records", "(I)I"⟩, prog_1_method_15_code, 2, (some .int))
def jM_ST_files : MethodName × ByteArray × Nat × Option FieldType := (⟨"SchemaTables", "files", "(I)I"⟩, prog_1_method_16_code, 2, (some .int))
def jM_ST_octet : MethodName × ByteArray × Nat × Option FieldType := (⟨"SchemaTables", "octet", "(II)I"⟩, prog_1_method_17_code, 3, (some .int))
def jM_ST_limit : MethodName × ByteArray × Nat × Option FieldType := (⟨"SchemaTables", "limit", "(I)I"⟩, prog_1_method_18_code, 2, (some .int))
def jM_ST_restart : MethodName × ByteArray × Nat × Option FieldType := (⟨"SchemaTables", "restart", "()Z"⟩, prog_1_method_19_code, 2, (some .boolean))
def jM_ST_writes : MethodName × ByteArray × Nat × Option FieldType := (⟨"SchemaTables", "writes", "()I"⟩, prog_1_method_20_code, 1, (some .int))
def jM_ST_isSubject : MethodName × ByteArray × Nat × Option FieldType := (⟨"SchemaTables", "isSubject", "(I)Z"⟩, prog_1_method_21_code, 1, (some .boolean))
def jM_ST_readsVersions : MethodName × ByteArray × Nat × Option FieldType := (⟨"SchemaTables", "readsVersions", "(LSchemaTables$Schema;I)Z"⟩, prog_1_method_22_code, 6, (some .boolean))
def jM_ST_goDown : MethodName × ByteArray × Nat × Option FieldType := (⟨"SchemaTables", "goDown", "()I"⟩, prog_1_method_23_code, 1, (some .int))
def jM_Mo_init : MethodName × ByteArray × Nat × Option FieldType := (⟨"SchemaTablesModel", "<init>", "()V"⟩, prog_14_method_1_code, 1, none)
def jM_Mo_noSchema : MethodName × ByteArray × Nat × Option FieldType := (⟨"SchemaTablesModel", "noSchema", "(I)Z"⟩, prog_14_method_2_code, 2, (some .boolean))
def jM_Mo_noName : MethodName × ByteArray × Nat × Option FieldType := (⟨"SchemaTablesModel", "noName", "(I)Z"⟩, prog_14_method_3_code, 1, (some .boolean))
def jM_Mo_isDefault : MethodName × ByteArray × Nat × Option FieldType := (⟨"SchemaTablesModel", "isDefault", "(IJ)Z"⟩, prog_14_method_4_code, 6, (some .boolean))
def jM_Mo_scalar : MethodName × ByteArray × Nat × Option FieldType := (⟨"SchemaTablesModel", "scalar", "(IJ)Z"⟩, prog_14_method_5_code, 5, (some .boolean))
def jM_Mo_field : MethodName × ByteArray × Nat × Option FieldType := (⟨"SchemaTablesModel", "field", "(IIZJ)I"⟩, prog_14_method_6_code, 7, (some .int))
def jM_Mo_badUnion : MethodName × ByteArray × Nat × Option FieldType := (⟨"SchemaTablesModel", "badUnion", "(II)Z"⟩, prog_14_method_7_code, 4, (some .boolean))
def jM_Mo_badEnum : MethodName × ByteArray × Nat × Option FieldType := (⟨"SchemaTablesModel", "badEnum", "(III)Z"⟩, prog_14_method_8_code, 4, (some .boolean))
def jM_Mo_make : MethodName × ByteArray × Nat × Option FieldType := (⟨"SchemaTablesModel", "make", "(IIII)I"⟩, prog_14_method_9_code, 8, (some .int))
def jM_Mo_compare : MethodName × ByteArray × Nat × Option FieldType := (⟨"SchemaTablesModel", "compare", "(II)V"⟩, prog_14_method_10_code, 7, none)
def jM_Mo_branch : MethodName × ByteArray × Nat × Option FieldType := (⟨"SchemaTablesModel", "branch", "(II)I"⟩, prog_14_method_11_code, 3, (some .int))
def jM_Mo_branchSchema : MethodName × ByteArray × Nat × Option FieldType := (⟨"SchemaTablesModel", "branchSchema", "(II)I"⟩, prog_14_method_12_code, 3, (some .int))
def jM_Mo_fieldOf : MethodName × ByteArray × Nat × Option FieldType := (⟨"SchemaTablesModel", "fieldOf", "(II)I"⟩, prog_14_method_13_code, 4, (some .int))
def jM_Mo_inside : MethodName × ByteArray × Nat × Option FieldType := (⟨"SchemaTablesModel", "inside", "(II)Z"⟩, prog_14_method_14_code, 6, (some .boolean))
def jM_Mo_canRead : MethodName × ByteArray × Nat × Option FieldType := (⟨"SchemaTablesModel", "canRead", "(II)Z"⟩, prog_14_method_15_code, 3, (some .boolean))
def jM_Mo_fieldsCome : MethodName × ByteArray × Nat × Option FieldType := (⟨"SchemaTablesModel", "fieldsCome", "(II)I"⟩, prog_14_method_16_code, 5, (some .int))
def jM_Mo_span : MethodName × ByteArray × Nat × Option FieldType := (⟨"SchemaTablesModel", "span", "(III)I"⟩, prog_14_method_17_code, 11, (some .int))
def jM_Mo_putByte : MethodName × ByteArray × Nat × Option FieldType := (⟨"SchemaTablesModel", "putByte", "(I)V"⟩, prog_14_method_18_code, 2, none)
def jM_Mo_putVarint : MethodName × ByteArray × Nat × Option FieldType := (⟨"SchemaTablesModel", "putVarint", "(J)V"⟩, prog_14_method_19_code, 5, none)
def jM_Mo_encode : MethodName × ByteArray × Nat × Option FieldType := (⟨"SchemaTablesModel", "encode", "(I)V"⟩, prog_14_method_20_code, 9, none)
def jM_Mo_below : MethodName × ByteArray × Nat × Option FieldType := (⟨"SchemaTablesModel", "below", "(II)I"⟩, prog_14_method_21_code, 4, (some .int))
def jM_Mo_symbol : MethodName × ByteArray × Nat × Option FieldType := (⟨"SchemaTablesModel", "symbol", "(II)I"⟩, prog_14_method_22_code, 3, (some .int))
def jM_Mo_varint : MethodName × ByteArray × Nat × Option FieldType := (⟨"SchemaTablesModel", "varint", "()J"⟩, prog_14_method_23_code, 5, (some .long))
def jM_Mo_decode : MethodName × ByteArray × Nat × Option FieldType := (⟨"SchemaTablesModel", "decode", "(I)I"⟩, prog_14_method_24_code, 9, (some .int))
def jM_Mo_write : MethodName × ByteArray × Nat × Option FieldType := (⟨"SchemaTablesModel", "write", "(I)Z"⟩, prog_14_method_26_code, 3, (some .boolean))
def jM_Mo_writeFile : MethodName × ByteArray × Nat × Option FieldType := (⟨"SchemaTablesModel", "writeFile", "(I)Z"⟩, prog_14_method_27_code, 4, (some .boolean))
def jM_Mo_fileSubject : MethodName × ByteArray × Nat × Option FieldType := (⟨"SchemaTablesModel", "fileSubject", "(I)I"⟩, prog_14_method_28_code, 2, (some .int))
def jM_Mo_fileAt : MethodName × ByteArray × Nat × Option FieldType := (⟨"SchemaTablesModel", "fileAt", "(I)I"⟩, prog_14_method_29_code, 2, (some .int))
def jM_Mo_fileSchema : MethodName × ByteArray × Nat × Option FieldType := (⟨"SchemaTablesModel", "fileSchema", "(I)I"⟩, prog_14_method_30_code, 2, (some .int))
def jM_Mo_fileRecords : MethodName × ByteArray × Nat × Option FieldType := (⟨"SchemaTablesModel", "fileRecords", "(I)I"⟩, prog_14_method_31_code, 2, (some .int))
def jM_Mo_fileBytes : MethodName × ByteArray × Nat × Option FieldType := (⟨"SchemaTablesModel", "fileBytes", "(I)I"⟩, prog_14_method_32_code, 2, (some .int))
def jM_Mo_used : MethodName × ByteArray × Nat × Option FieldType := (⟨"SchemaTablesModel", "used", "(I)Z"⟩, prog_14_method_33_code, 4, (some .boolean))
def jM_Mo_room : MethodName × ByteArray × Nat × Option FieldType := (⟨"SchemaTablesModel", "room", "(I)I"⟩, prog_14_method_34_code, 5, (some .int))
def jM_Mo_head : MethodName × ByteArray × Nat × Option FieldType := (⟨"SchemaTablesModel", "head", "(III)V"⟩, prog_14_method_35_code, 4, none)
def jM_Mo_check : MethodName × ByteArray × Nat × Option FieldType := (⟨"SchemaTablesModel", "check", "()V"⟩, prog_14_method_36_code, 3, none)
def jM_Mo_oldManifest : MethodName × ByteArray × Nat × Option FieldType := (⟨"SchemaTablesModel", "oldManifest", "()V"⟩, prog_14_method_37_code, 2, none)
def jM_Mo_noSubject : MethodName × ByteArray × Nat × Option FieldType := (⟨"SchemaTablesModel", "noSubject", "(I)Z"⟩, prog_14_method_38_code, 1, (some .boolean))
def jM_Mo_registered : MethodName × ByteArray × Nat × Option FieldType := (⟨"SchemaTablesModel", "registered", "(II)Z"⟩, prog_14_method_39_code, 5, (some .boolean))
def jM_Mo_register : MethodName × ByteArray × Nat × Option FieldType := (⟨"SchemaTablesModel", "register", "(II)I"⟩, prog_14_method_40_code, 5, (some .int))
def jM_Mo_versions : MethodName × ByteArray × Nat × Option FieldType := (⟨"SchemaTablesModel", "versions", "(I)I"⟩, prog_14_method_41_code, 4, (some .int))
def jM_Mo_version : MethodName × ByteArray × Nat × Option FieldType := (⟨"SchemaTablesModel", "version", "(II)I"⟩, prog_14_method_42_code, 5, (some .int))
def jM_Mo_give : MethodName × ByteArray × Nat × Option FieldType := (⟨"SchemaTablesModel", "give", "(J)I"⟩, prog_14_method_43_code, 3, (some .int))
def jM_Mo_stage : MethodName × ByteArray × Nat × Option FieldType := (⟨"SchemaTablesModel", "stage", "(I)I"⟩, prog_14_method_44_code, 3, (some .int))
def jM_Mo_drop : MethodName × ByteArray × Nat × Option FieldType := (⟨"SchemaTablesModel", "drop", "()I"⟩, prog_14_method_45_code, 1, (some .int))
def jM_Mo_load : MethodName × ByteArray × Nat × Option FieldType := (⟨"SchemaTablesModel", "load", "(I)I"⟩, prog_14_method_46_code, 5, (some .int))
def jM_Mo_behind : MethodName × ByteArray × Nat × Option FieldType := (⟨"SchemaTablesModel", "behind", "(I)I"⟩, prog_14_method_47_code, 3, (some .int))
def jM_Mo_joins : MethodName × ByteArray × Nat × Option FieldType := (⟨"SchemaTablesModel", "joins", "(II)Z"⟩, prog_14_method_48_code, 3, (some .boolean))
def jM_Mo_compact : MethodName × ByteArray × Nat × Option FieldType := (⟨"SchemaTablesModel", "compact", "(I)I"⟩, prog_14_method_49_code, 7, (some .int))
def jM_Mo_records : MethodName × ByteArray × Nat × Option FieldType := (⟨"SchemaTablesModel", "records", "(I)I"⟩, prog_14_method_50_code, 4, (some .int))
def jM_Mo_files : MethodName × ByteArray × Nat × Option FieldType := (⟨"SchemaTablesModel", "files", "(I)I"⟩, prog_14_method_51_code, 4, (some .int))
def jM_Mo_fetch : MethodName × ByteArray × Nat × Option FieldType := (⟨"SchemaTablesModel", "fetch", "(II)I"⟩, prog_14_method_52_code, 8, (some .int))
def jM_Mo_read : MethodName × ByteArray × Nat × Option FieldType := (⟨"SchemaTablesModel", "read", "(III)I"⟩, prog_14_method_53_code, 6, (some .int))
def jM_Mo_add : MethodName × ByteArray × Nat × Option FieldType := (⟨"SchemaTablesModel", "add", "(III)V"⟩, prog_14_method_54_code, 4, none)
def jM_Mo_give1 : MethodName × ByteArray × Nat × Option FieldType := (⟨"SchemaTablesModel", "give1", "(J)V"⟩, prog_14_method_55_code, 3, none)
def jM_Mo_resolve : MethodName × ByteArray × Nat × Option FieldType := (⟨"SchemaTablesModel", "resolve", "(II)I"⟩, prog_14_method_56_code, 6, (some .int))
def jM_Mo_defaults : MethodName × ByteArray × Nat × Option FieldType := (⟨"SchemaTablesModel", "defaults", "(I)V"⟩, prog_14_method_57_code, 3, none)
def jM_Mo_part : MethodName × ByteArray × Nat × Option FieldType := (⟨"SchemaTablesModel", "part", "(III)Z"⟩, prog_14_method_58_code, 5, (some .boolean))
def jM_Mo_symbolOf : MethodName × ByteArray × Nat × Option FieldType := (⟨"SchemaTablesModel", "symbolOf", "(II)Z"⟩, prog_14_method_59_code, 4, (some .boolean))
def jM_Mo_items : MethodName × ByteArray × Nat × Option FieldType := (⟨"SchemaTablesModel", "items", "(III)V"⟩, prog_14_method_60_code, 8, none)
def jM_Mo_placeOf : MethodName × ByteArray × Nat × Option FieldType := (⟨"SchemaTablesModel", "placeOf", "(III)I"⟩, prog_14_method_61_code, 6, (some .int))
def jM_Mo_ofRecord : MethodName × ByteArray × Nat × Option FieldType := (⟨"SchemaTablesModel", "ofRecord", "(III)Z"⟩, prog_14_method_62_code, 7, (some .boolean))
def jM_Mo_number : MethodName × ByteArray × Nat × Option FieldType := (⟨"SchemaTablesModel", "number", "(I)J"⟩, prog_14_method_63_code, 2, (some .long))
def jM_Mo_octet : MethodName × ByteArray × Nat × Option FieldType := (⟨"SchemaTablesModel", "octet", "(II)I"⟩, prog_14_method_64_code, 3, (some .int))
def jM_Mo_limit : MethodName × ByteArray × Nat × Option FieldType := (⟨"SchemaTablesModel", "limit", "(I)I"⟩, prog_14_method_65_code, 2, (some .int))
def jM_Mo_restart : MethodName × ByteArray × Nat × Option FieldType := (⟨"SchemaTablesModel", "restart", "()Z"⟩, prog_14_method_66_code, 1, (some .boolean))
def jM_Mo_writes : MethodName × ByteArray × Nat × Option FieldType := (⟨"SchemaTablesModel", "writes", "()I"⟩, prog_14_method_67_code, 1, (some .int))
def jM_Bytes_init : MethodName × ByteArray × Nat × Option FieldType := (⟨"SchemaTables$Bytes", "<init>", "(I)V"⟩, prog_2_method_1_code, 2, none)
def jM_Bytes_append : MethodName × ByteArray × Nat × Option FieldType := (⟨"SchemaTables$Bytes", "append", "(I)V"⟩, prog_2_method_2_code, 2, none)
def jM_Bytes_appendVarint : MethodName × ByteArray × Nat × Option FieldType := (⟨"SchemaTables$Bytes", "appendVarint", "(J)V"⟩, prog_2_method_3_code, 6, none)
def jM_Bytes_at : MethodName × ByteArray × Nat × Option FieldType := (⟨"SchemaTables$Bytes", "at", "(I)I"⟩, prog_2_method_4_code, 2, (some .int))
def jM_Bytes_cutTo : MethodName × ByteArray × Nat × Option FieldType := (⟨"SchemaTables$Bytes", "cutTo", "(I)V"⟩, prog_2_method_5_code, 2, none)
def jM_Bytes_sum : MethodName × ByteArray × Nat × Option FieldType := (⟨"SchemaTables$Bytes", "sum", "()I"⟩, prog_2_method_6_code, 3, (some .int))
def jM_Coder_encode : MethodName × ByteArray × Nat × Option FieldType := (⟨"SchemaTables$Coder", "encode", "(LSchemaTables$Schema;LSchemaTables$Row;ILSchemaTables$Bytes;)I"⟩, prog_3_method_2_code, 6, (some .int))
def jM_Coder_encodeNumber : MethodName × ByteArray × Nat × Option FieldType := (⟨"SchemaTables$Coder", "encodeNumber", "(LSchemaTables$Schema;JLSchemaTables$Bytes;)V"⟩, prog_3_method_3_code, 4, none)
def jM_Coder_encodeItems : MethodName × ByteArray × Nat × Option FieldType := (⟨"SchemaTables$Coder", "encodeItems", "(LSchemaTables$Schema;LSchemaTables$Row;ILSchemaTables$Bytes;)I"⟩, prog_3_method_4_code, 8, (some .int))
def jM_Coder_encodeFields : MethodName × ByteArray × Nat × Option FieldType := (⟨"SchemaTables$Coder", "encodeFields", "(LSchemaTables$Schema;LSchemaTables$Row;ILSchemaTables$Bytes;)I"⟩, prog_3_method_5_code, 6, (some .int))
def jM_Coder_decode : MethodName × ByteArray × Nat × Option FieldType := (⟨"SchemaTables$Coder", "decode", "(LSchemaTables$Schema;LSchemaTables$Disk;ILSchemaTables$Row;)I"⟩, prog_3_method_6_code, 6, (some .int))
def jM_Coder_decodeItems : MethodName × ByteArray × Nat × Option FieldType := (⟨"SchemaTables$Coder", "decodeItems", "(LSchemaTables$Schema;LSchemaTables$Disk;ILSchemaTables$Row;)I"⟩, prog_3_method_7_code, 8, (some .int))
def jM_Coder_decodeFields : MethodName × ByteArray × Nat × Option FieldType := (⟨"SchemaTables$Coder", "decodeFields", "(LSchemaTables$Schema;LSchemaTables$Disk;ILSchemaTables$Row;)I"⟩, prog_3_method_8_code, 6, (some .int))
def jM_Coder_varintAt : MethodName × ByteArray × Nat × Option FieldType := (⟨"SchemaTables$Coder", "varintAt", "(LSchemaTables$Disk;I)J"⟩, prog_3_method_9_code, 6, (some .long))
def jM_Coder_behindVarint : MethodName × ByteArray × Nat × Option FieldType := (⟨"SchemaTables$Coder", "behindVarint", "(LSchemaTables$Disk;I)I"⟩, prog_3_method_10_code, 4, (some .int))
def jM_Disk_init : MethodName × ByteArray × Nat × Option FieldType := (⟨"SchemaTables$Disk", "<init>", "()V"⟩, prog_4_method_1_code, 1, none)
def jM_Disk_startOf : MethodName × ByteArray × Nat × Option FieldType := (⟨"SchemaTables$Disk", "startOf", "(I)I"⟩, prog_4_method_2_code, 1, (some .int))
def jM_Disk_blocksFor : MethodName × ByteArray × Nat × Option FieldType := (⟨"SchemaTables$Disk", "blocksFor", "(I)I"⟩, prog_4_method_3_code, 1, (some .int))
def jM_Disk_at : MethodName × ByteArray × Nat × Option FieldType := (⟨"SchemaTables$Disk", "at", "(I)I"⟩, prog_4_method_4_code, 2, (some .int))
def jM_Disk_set : MethodName × ByteArray × Nat × Option FieldType := (⟨"SchemaTables$Disk", "set", "(II)V"⟩, prog_4_method_5_code, 3, none)
def jM_Disk_put : MethodName × ByteArray × Nat × Option FieldType := (⟨"SchemaTables$Disk", "put", "(ILSchemaTables$Bytes;I)Z"⟩, prog_4_method_6_code, 5, (some .boolean))
def jM_Disk_putAll : MethodName × ByteArray × Nat × Option FieldType := (⟨"SchemaTables$Disk", "putAll", "(ILSchemaTables$Bytes;)Z"⟩, prog_4_method_7_code, 5, (some .boolean))
def jM_Field_init : MethodName × ByteArray × Nat × Option FieldType := (⟨"SchemaTables$Field", "<init>", "(ILSchemaTables$Schema;ZJ)V"⟩, prog_5_method_1_code, 6, none)
def jM_Manifest_init : MethodName × ByteArray × Nat × Option FieldType := (⟨"SchemaTables$Manifest", "<init>", "(LSchemaTables$Disk;)V"⟩, prog_6_method_1_code, 2, none)
def jM_Manifest_isFull : MethodName × ByteArray × Nat × Option FieldType := (⟨"SchemaTables$Manifest", "isFull", "()Z"⟩, prog_6_method_2_code, 1, (some .boolean))
def jM_Manifest_filesOf : MethodName × ByteArray × Nat × Option FieldType := (⟨"SchemaTables$Manifest", "filesOf", "(I)I"⟩, prog_6_method_3_code, 5, (some .int))
def jM_Manifest_recordsOf : MethodName × ByteArray × Nat × Option FieldType := (⟨"SchemaTables$Manifest", "recordsOf", "(I)I"⟩, prog_6_method_4_code, 5, (some .int))
def jM_Manifest_nextFile : MethodName × ByteArray × Nat × Option FieldType := (⟨"SchemaTables$Manifest", "nextFile", "(II)I"⟩, prog_6_method_5_code, 5, (some .int))
def jM_Manifest_firstToJoin : MethodName × ByteArray × Nat × Option FieldType := (⟨"SchemaTables$Manifest", "firstToJoin", "(I)I"⟩, prog_6_method_6_code, 5, (some .int))
def jM_Manifest_canJoin : MethodName × ByteArray × Nat × Option FieldType := (⟨"SchemaTables$Manifest", "canJoin", "(II)Z"⟩, prog_6_method_7_code, 3, (some .boolean))
def jM_Manifest_fetch : MethodName × ByteArray × Nat × Option FieldType := (⟨"SchemaTables$Manifest", "fetch", "(IILSchemaTables$Schemas;LSchemaTables$Row;)LSchemaTables$Schema;"⟩, prog_6_method_8_code, 9, (some (.object "SchemaTables$Schema")))
def jM_Manifest_decodeRecord : MethodName × ByteArray × Nat × Option FieldType := (⟨"SchemaTables$Manifest", "decodeRecord", "(IILSchemaTables$Schema;LSchemaTables$Row;)V"⟩, prog_6_method_9_code, 7, none)
def jM_Manifest_draftStaged : MethodName × ByteArray × Nat × Option FieldType := (⟨"SchemaTables$Manifest", "draftStaged", "(LSchemaTables$Staging;)V"⟩, prog_6_method_10_code, 3, none)
def jM_Manifest_draftJoined : MethodName × ByteArray × Nat × Option FieldType := (⟨"SchemaTables$Manifest", "draftJoined", "(II)V"⟩, prog_6_method_11_code, 4, none)
def jM_Manifest_draftHead : MethodName × ByteArray × Nat × Option FieldType := (⟨"SchemaTables$Manifest", "draftHead", "(III)V"⟩, prog_6_method_12_code, 4, none)
def jM_Manifest_draftRecordsOf : MethodName × ByteArray × Nat × Option FieldType := (⟨"SchemaTables$Manifest", "draftRecordsOf", "(I)V"⟩, prog_6_method_13_code, 5, none)
def jM_Manifest_placeOfDraft : MethodName × ByteArray × Nat × Option FieldType := (⟨"SchemaTables$Manifest", "placeOfDraft", "()I"⟩, prog_6_method_14_code, 4, (some .int))
def jM_Manifest_isFree : MethodName × ByteArray × Nat × Option FieldType := (⟨"SchemaTables$Manifest", "isFree", "(I)Z"⟩, prog_6_method_15_code, 4, (some .boolean))
def jM_Manifest_commitNew : MethodName × ByteArray × Nat × Option FieldType := (⟨"SchemaTables$Manifest", "commitNew", "(II)Z"⟩, prog_6_method_16_code, 5, (some .boolean))
def jM_Manifest_commitJoined : MethodName × ByteArray × Nat × Option FieldType := (⟨"SchemaTables$Manifest", "commitJoined", "(III)Z"⟩, prog_6_method_17_code, 6, (some .boolean))
def jM_Manifest_draftEntry : MethodName × ByteArray × Nat × Option FieldType := (⟨"SchemaTables$Manifest", "draftEntry", "(III)V"⟩, prog_6_method_18_code, 4, none)
def jM_Manifest_entries : MethodName × ByteArray × Nat × Option FieldType := (⟨"SchemaTables$Manifest", "entries", "()I"⟩, prog_6_method_19_code, 1, (some .int))
def jM_Manifest_entryByte : MethodName × ByteArray × Nat × Option FieldType := (⟨"SchemaTables$Manifest", "entryByte", "(II)I"⟩, prog_6_method_20_code, 3, (some .int))
def jM_Manifest_subjectOf : MethodName × ByteArray × Nat × Option FieldType := (⟨"SchemaTables$Manifest", "subjectOf", "(I)I"⟩, prog_6_method_21_code, 2, (some .int))
def jM_Manifest_firstBlockOf : MethodName × ByteArray × Nat × Option FieldType := (⟨"SchemaTables$Manifest", "firstBlockOf", "(I)I"⟩, prog_6_method_22_code, 2, (some .int))
def jM_Manifest_blocksOf : MethodName × ByteArray × Nat × Option FieldType := (⟨"SchemaTables$Manifest", "blocksOf", "(I)I"⟩, prog_6_method_23_code, 2, (some .int))
def jM_Manifest_startOfFile : MethodName × ByteArray × Nat × Option FieldType := (⟨"SchemaTables$Manifest", "startOfFile", "(I)I"⟩, prog_6_method_24_code, 2, (some .int))
def jM_Manifest_schemaOf : MethodName × ByteArray × Nat × Option FieldType := (⟨"SchemaTables$Manifest", "schemaOf", "(I)I"⟩, prog_6_method_25_code, 2, (some .int))
def jM_Manifest_recordsIn : MethodName × ByteArray × Nat × Option FieldType := (⟨"SchemaTables$Manifest", "recordsIn", "(I)I"⟩, prog_6_method_26_code, 2, (some .int))
def jM_Manifest_bytesIn : MethodName × ByteArray × Nat × Option FieldType := (⟨"SchemaTables$Manifest", "bytesIn", "(I)I"⟩, prog_6_method_27_code, 2, (some .int))
def jM_Registry_init : MethodName × ByteArray × Nat × Option FieldType := (⟨"SchemaTables$Registry", "<init>", "(LSchemaTables$Disk;)V"⟩, prog_7_method_1_code, 2, none)
def jM_Registry_isFull : MethodName × ByteArray × Nat × Option FieldType := (⟨"SchemaTables$Registry", "isFull", "()Z"⟩, prog_7_method_2_code, 1, (some .boolean))
def jM_Registry_has : MethodName × ByteArray × Nat × Option FieldType := (⟨"SchemaTables$Registry", "has", "(II)Z"⟩, prog_7_method_3_code, 5, (some .boolean))
def jM_Registry_countOf : MethodName × ByteArray × Nat × Option FieldType := (⟨"SchemaTables$Registry", "countOf", "(I)I"⟩, prog_7_method_4_code, 5, (some .int))
def jM_Registry_schemaOf : MethodName × ByteArray × Nat × Option FieldType := (⟨"SchemaTables$Registry", "schemaOf", "(II)I"⟩, prog_7_method_5_code, 6, (some .int))
def jM_Registry_append : MethodName × ByteArray × Nat × Option FieldType := (⟨"SchemaTables$Registry", "append", "(II)Z"⟩, prog_7_method_6_code, 5, (some .boolean))
def jM_Registry_entries : MethodName × ByteArray × Nat × Option FieldType := (⟨"SchemaTables$Registry", "entries", "()I"⟩, prog_7_method_7_code, 1, (some .int))
def jM_Registry_entryByte : MethodName × ByteArray × Nat × Option FieldType := (⟨"SchemaTables$Registry", "entryByte", "(II)I"⟩, prog_7_method_8_code, 3, (some .int))
def jM_Resolver_resolve : MethodName × ByteArray × Nat × Option FieldType := (⟨"SchemaTables$Resolver", "resolve", "(LSchemaTables$Schema;LSchemaTables$Schema;LSchemaTables$Row;ILSchemaTables$Row;)Z"⟩, prog_8_method_2_code, 5, (some .boolean))
def jM_Resolver_resolveIntoUnion : MethodName × ByteArray × Nat × Option FieldType := (⟨"SchemaTables$Resolver", "resolveIntoUnion", "(LSchemaTables$Schema;LSchemaTables$Schema;LSchemaTables$Row;ILSchemaTables$Row;)Z"⟩, prog_8_method_3_code, 6, (some .boolean))
def jM_Resolver_resolveSymbol : MethodName × ByteArray × Nat × Option FieldType := (⟨"SchemaTables$Resolver", "resolveSymbol", "(LSchemaTables$Schema;LSchemaTables$Schema;JLSchemaTables$Row;)Z"⟩, prog_8_method_4_code, 6, (some .boolean))
def jM_Resolver_resolveItems : MethodName × ByteArray × Nat × Option FieldType := (⟨"SchemaTables$Resolver", "resolveItems", "(LSchemaTables$Schema;LSchemaTables$Schema;LSchemaTables$Row;ILSchemaTables$Row;)Z"⟩, prog_8_method_5_code, 9, (some .boolean))
def jM_Resolver_resolveFields : MethodName × ByteArray × Nat × Option FieldType := (⟨"SchemaTables$Resolver", "resolveFields", "(LSchemaTables$Schema;LSchemaTables$Schema;LSchemaTables$Row;ILSchemaTables$Row;)Z"⟩, prog_8_method_6_code, 6, (some .boolean))
def jM_Resolver_resolveField : MethodName × ByteArray × Nat × Option FieldType := (⟨"SchemaTables$Resolver", "resolveField", "(LSchemaTables$Schema;LSchemaTables$Field;LSchemaTables$Row;ILSchemaTables$Row;)Z"⟩, prog_8_method_7_code, 8, (some .boolean))
def jM_Resolver_appendDefault : MethodName × ByteArray × Nat × Option FieldType := (⟨"SchemaTables$Resolver", "appendDefault", "(LSchemaTables$Schema;JLSchemaTables$Row;)V"⟩, prog_8_method_8_code, 4, none)
def jM_Resolver_behind : MethodName × ByteArray × Nat × Option FieldType := (⟨"SchemaTables$Resolver", "behind", "(LSchemaTables$Schema;LSchemaTables$Row;I)I"⟩, prog_8_method_9_code, 3, (some .int))
def jM_Resolver_behindItems : MethodName × ByteArray × Nat × Option FieldType := (⟨"SchemaTables$Resolver", "behindItems", "(LSchemaTables$Schema;LSchemaTables$Row;I)I"⟩, prog_8_method_10_code, 7, (some .int))
def jM_Resolver_behindFields : MethodName × ByteArray × Nat × Option FieldType := (⟨"SchemaTables$Resolver", "behindFields", "(LSchemaTables$Schema;LSchemaTables$Row;I)I"⟩, prog_8_method_11_code, 5, (some .int))
def jM_Row_init : MethodName × ByteArray × Nat × Option FieldType := (⟨"SchemaTables$Row", "<init>", "(I)V"⟩, prog_9_method_1_code, 2, none)
def jM_Row_append : MethodName × ByteArray × Nat × Option FieldType := (⟨"SchemaTables$Row", "append", "(J)V"⟩, prog_9_method_2_code, 3, none)
def jM_Row_at : MethodName × ByteArray × Nat × Option FieldType := (⟨"SchemaTables$Row", "at", "(I)J"⟩, prog_9_method_3_code, 2, (some .long))
def jM_Row_clear : MethodName × ByteArray × Nat × Option FieldType := (⟨"SchemaTables$Row", "clear", "()V"⟩, prog_9_method_4_code, 1, none)
def jM_Schema_init : MethodName × ByteArray × Nat × Option FieldType := (⟨"SchemaTables$Schema", "<init>", "(IIIILSchemaTables$Schema;LSchemaTables$Schema;[LSchemaTables$Field;)V"⟩, prog_10_method_1_code, 8, none)
def jM_Schema_ofPlain : MethodName × ByteArray × Nat × Option FieldType := (⟨"SchemaTables$Schema", "ofPlain", "(I)LSchemaTables$Schema;"⟩, prog_10_method_2_code, 1, (some (.object "SchemaTables$Schema")))
def jM_Schema_ofEnum : MethodName × ByteArray × Nat × Option FieldType := (⟨"SchemaTables$Schema", "ofEnum", "(III)LSchemaTables$Schema;"⟩, prog_10_method_3_code, 3, (some (.object "SchemaTables$Schema")))
def jM_Schema_ofArray : MethodName × ByteArray × Nat × Option FieldType := (⟨"SchemaTables$Schema", "ofArray", "(LSchemaTables$Schema;)LSchemaTables$Schema;"⟩, prog_10_method_4_code, 1, (some (.object "SchemaTables$Schema")))
def jM_Schema_ofUnion : MethodName × ByteArray × Nat × Option FieldType := (⟨"SchemaTables$Schema", "ofUnion", "(LSchemaTables$Schema;LSchemaTables$Schema;)LSchemaTables$Schema;"⟩, prog_10_method_5_code, 2, (some (.object "SchemaTables$Schema")))
def jM_Schema_ofRecord : MethodName × ByteArray × Nat × Option FieldType := (⟨"SchemaTables$Schema", "ofRecord", "(I[LSchemaTables$Field;)LSchemaTables$Schema;"⟩, prog_10_method_6_code, 2, (some (.object "SchemaTables$Schema")))
def jM_Schema_depthAbove : MethodName × ByteArray × Nat × Option FieldType := (⟨"SchemaTables$Schema", "depthAbove", "(LSchemaTables$Schema;LSchemaTables$Schema;[LSchemaTables$Field;)I"⟩, prog_10_method_7_code, 5, (some .int))
def jM_Schema_isName : MethodName × ByteArray × Nat × Option FieldType := (⟨"SchemaTables$Schema", "isName", "(J)Z"⟩, prog_10_method_8_code, 2, (some .boolean))
def jM_Schema_hasSymbol : MethodName × ByteArray × Nat × Option FieldType := (⟨"SchemaTables$Schema", "hasSymbol", "(J)Z"⟩, prog_10_method_9_code, 3, (some .boolean))
def jM_Schema_rankOf : MethodName × ByteArray × Nat × Option FieldType := (⟨"SchemaTables$Schema", "rankOf", "(I)I"⟩, prog_10_method_10_code, 2, (some .int))
def jM_Schema_symbolOfRank : MethodName × ByteArray × Nat × Option FieldType := (⟨"SchemaTables$Schema", "symbolOfRank", "(I)I"⟩, prog_10_method_11_code, 3, (some .int))
def jM_Schema_branch : MethodName × ByteArray × Nat × Option FieldType := (⟨"SchemaTables$Schema", "branch", "(J)LSchemaTables$Schema;"⟩, prog_10_method_12_code, 3, (some (.object "SchemaTables$Schema")))
def jM_Schema_fieldOf : MethodName × ByteArray × Nat × Option FieldType := (⟨"SchemaTables$Schema", "fieldOf", "(I)LSchemaTables$Field;"⟩, prog_10_method_13_code, 3, (some (.object "SchemaTables$Field")))
def jM_Schema_isValue : MethodName × ByteArray × Nat × Option FieldType := (⟨"SchemaTables$Schema", "isValue", "(J)Z"⟩, prog_10_method_14_code, 3, (some .boolean))
def jM_Schema_isDefault : MethodName × ByteArray × Nat × Option FieldType := (⟨"SchemaTables$Schema", "isDefault", "(LSchemaTables$Schema;J)Z"⟩, prog_10_method_15_code, 3, (some .boolean))
def jM_Schema_haveFittingKinds : MethodName × ByteArray × Nat × Option FieldType := (⟨"SchemaTables$Schema", "haveFittingKinds", "(LSchemaTables$Schema;LSchemaTables$Schema;)Z"⟩, prog_10_method_16_code, 2, (some .boolean))
def jM_Schema_match : MethodName × ByteArray × Nat × Option FieldType := (⟨"SchemaTables$Schema", "match", "(LSchemaTables$Schema;LSchemaTables$Schema;)Z"⟩, prog_10_method_17_code, 2, (some .boolean))
def jM_Schema_matchingBranch : MethodName × ByteArray × Nat × Option FieldType := (⟨"SchemaTables$Schema", "matchingBranch", "(LSchemaTables$Schema;LSchemaTables$Schema;)I"⟩, prog_10_method_18_code, 2, (some .int))
def jM_Schema_reads : MethodName × ByteArray × Nat × Option FieldType := (⟨"SchemaTables$Schema", "reads", "(LSchemaTables$Schema;LSchemaTables$Schema;)Z"⟩, prog_10_method_19_code, 3, (some .boolean))
def jM_Schema_readsFields : MethodName × ByteArray × Nat × Option FieldType := (⟨"SchemaTables$Schema", "readsFields", "(LSchemaTables$Schema;LSchemaTables$Schema;)Z"⟩, prog_10_method_20_code, 6, (some .boolean))
def jM_Schemas_init : MethodName × ByteArray × Nat × Option FieldType := (⟨"SchemaTables$Schemas", "<init>", "()V"⟩, prog_11_method_1_code, 1, none)
def jM_Schemas_find : MethodName × ByteArray × Nat × Option FieldType := (⟨"SchemaTables$Schemas", "find", "(I)LSchemaTables$Schema;"⟩, prog_11_method_2_code, 2, (some (.object "SchemaTables$Schema")))
def jM_Schemas_addField : MethodName × ByteArray × Nat × Option FieldType := (⟨"SchemaTables$Schemas", "addField", "(ILSchemaTables$Schema;ZJ)I"⟩, prog_11_method_3_code, 6, (some .int))
def jM_Schemas_addSchema : MethodName × ByteArray × Nat × Option FieldType := (⟨"SchemaTables$Schemas", "addSchema", "(IIII)I"⟩, prog_11_method_4_code, 6, (some .int))
def jM_Schemas_isPending : MethodName × ByteArray × Nat × Option FieldType := (⟨"SchemaTables$Schemas", "isPending", "(I)Z"⟩, prog_11_method_5_code, 3, (some .boolean))
def jM_Schemas_build : MethodName × ByteArray × Nat × Option FieldType := (⟨"SchemaTables$Schemas", "build", "(IIII)LSchemaTables$Schema;"⟩, prog_11_method_6_code, 5, (some (.object "SchemaTables$Schema")))
def jM_Schemas_buildEnum : MethodName × ByteArray × Nat × Option FieldType := (⟨"SchemaTables$Schemas", "buildEnum", "(III)LSchemaTables$Schema;"⟩, prog_11_method_7_code, 4, (some (.object "SchemaTables$Schema")))
def jM_Schemas_buildArray : MethodName × ByteArray × Nat × Option FieldType := (⟨"SchemaTables$Schemas", "buildArray", "(LSchemaTables$Schema;)LSchemaTables$Schema;"⟩, prog_11_method_8_code, 1, (some (.object "SchemaTables$Schema")))
def jM_Schemas_buildUnion : MethodName × ByteArray × Nat × Option FieldType := (⟨"SchemaTables$Schemas", "buildUnion", "(LSchemaTables$Schema;LSchemaTables$Schema;)LSchemaTables$Schema;"⟩, prog_11_method_9_code, 3, (some (.object "SchemaTables$Schema")))
def jM_Schemas_haveDifferentNames : MethodName × ByteArray × Nat × Option FieldType := (⟨"SchemaTables$Schemas", "haveDifferentNames", "(LSchemaTables$Schema;LSchemaTables$Schema;)Z"⟩, prog_11_method_10_code, 3, (some .boolean))
def jM_Schemas_buildRecord : MethodName × ByteArray × Nat × Option FieldType := (⟨"SchemaTables$Schemas", "buildRecord", "(I)LSchemaTables$Schema;"⟩, prog_11_method_11_code, 4, (some (.object "SchemaTables$Schema")))
def jM_Staging_init : MethodName × ByteArray × Nat × Option FieldType := (⟨"SchemaTables$Staging", "<init>", "()V"⟩, prog_12_method_1_code, 1, none)
def jM_Staging_hasOtherThan : MethodName × ByteArray × Nat × Option FieldType := (⟨"SchemaTables$Staging", "hasOtherThan", "(I)Z"⟩, prog_12_method_2_code, 2, (some .boolean))
def jM_Staging_add : MethodName × ByteArray × Nat × Option FieldType := (⟨"SchemaTables$Staging", "add", "(ILSchemaTables$Schema;LSchemaTables$Row;)I"⟩, prog_12_method_3_code, 5, (some .int))
def jM_Staging_clear : MethodName × ByteArray × Nat × Option FieldType := (⟨"SchemaTables$Staging", "clear", "()V"⟩, prog_12_method_4_code, 1, none)
def jM_JInteger_bitCount : MethodName × ByteArray × Nat × Option FieldType := (⟨"java/lang/Integer", "bitCount", "(I)I"⟩, prog_15_method_49_code, 1, (some .int))
theorem pn_ST : plainName "SchemaTables" = true := by decide +kernel
theorem pn_Mo : plainName "SchemaTablesModel" = true := by decide +kernel
theorem pn_Bytes : plainName "SchemaTables$Bytes" = true := by decide +kernel
theorem pn_Coder : plainName "SchemaTables$Coder" = true := by decide +kernel
theorem pn_Disk : plainName "SchemaTables$Disk" = true := by decide +kernel
theorem pn_Field : plainName "SchemaTables$Field" = true := by decide +kernel
theorem pn_Manifest : plainName "SchemaTables$Manifest" = true := by decide +kernel
theorem pn_Registry : plainName "SchemaTables$Registry" = true := by decide +kernel
theorem pn_Resolver : plainName "SchemaTables$Resolver" = true := by decide +kernel
theorem pn_Row : plainName "SchemaTables$Row" = true := by decide +kernel
theorem pn_Schema : plainName "SchemaTables$Schema" = true := by decide +kernel
theorem pn_Schemas : plainName "SchemaTables$Schemas" = true := by decide +kernel
theorem pn_Staging : plainName "SchemaTables$Staging" = true := by decide +kernel
theorem pn_JInteger : plainName "java/lang/Integer" = true := by decide +kernel

