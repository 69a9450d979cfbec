def jF_Disk_init (a0 : Nat) (H : zH) : Option zH :=
  (zno H (.inl (0, 1280, (.inl fun _ => 0)))).bind fun H8 =>
  (zpV H8 (some a0) 3 0 (zR (some H.2))).bind fun H10 =>
  (zpZ H10 (some a0) 3 1 (1 : Int32)).bind fun H15 =>
  (zpV H15 (some a0) 3 2 (zI (-1 : Int32))).bind fun H20 =>
  (zpV H20 (some a0) 3 3 (zI (0 : Int32))).bind fun H25 =>
  some H25
theorem jm_Disk_init {E : zE} {d : Nat} (hd : 1 ≤ d) (a0 : Nat) (H : zH) : z_MS E jM_Disk_init d 1 1280 zwV [zR (some a0)] H (jF_Disk_init a0 H) := by
  refine zs_of (lv0 := [(0, zR (some a0))]) pn_Disk (Nat.le_of_ble_eq_true rfl) rfl ?_
  unfold jF_Disk_init
  refine zs_aload_n (pc := 0) (x := (some a0)) d_Disk_init_0 rfl ?_
  refine zs_objInit (pc := 1) d_Disk_init_1 kO_Disk_1 z_oi2 z_oi3 (by omega) (Nat.le_of_ble_eq_true rfl) ?_
  refine zs_aload_n (pc := 4) (x := (some a0)) d_Disk_init_4 rfl ?_
  refine zs_sipush (pc := 5) (v := (1280 : Int32)) d_Disk_init_5 (by decide) ?_
  refine zs_newa (t := 0) (cap := 1280) (pc := 8) d_Disk_init_8 z_acI rfl (fun _ _ => rfl) (by decide) (by decide) (Nat.le_of_ble_eq_true rfl) (Nat.le_of_ble_eq_true rfl) fun H8 => ?_
  refine zs_putF (pc := 10) d_Disk_init_10 kP_Disk_9 rfl z_fitA fun H10 => ?_
  refine zs_aload_n (pc := 13) (x := (some a0)) d_Disk_init_13 rfl ?_
  refine zs_iconst (pc := 14) (v := (1 : Int32)) d_Disk_init_14 (by decide) ?_
  refine zs_putZ (pc := 15) d_Disk_init_15 kP_Disk_13 fun H15 => ?_
  refine zs_aload_n (pc := 18) (x := (some a0)) d_Disk_init_18 rfl ?_
  refine zs_iconst (pc := 19) (v := (-1 : Int32)) d_Disk_init_19 (by decide) ?_
  refine zs_put (pc := 20) d_Disk_init_20 kP_Disk_17 z_fitI fun H20 => ?_
  refine zs_aload_n (pc := 23) (x := (some a0)) d_Disk_init_23 rfl ?_
  refine zs_iconst (pc := 24) (v := (0 : Int32)) d_Disk_init_24 (by decide) ?_
  refine zs_put (pc := 25) d_Disk_init_25 kP_Disk_21 z_fitI fun H25 => ?_
  exact zs_vret (pc := 28) d_Disk_init_28 rfl (Nat.le_of_ble_eq_true rfl) (Nat.le_of_ble_eq_true rfl) rfl
def jF_Bytes_init (a0 : Nat) (a1 : Int32) (H : zH) : Option zH :=
  (znc a1 390).bind fun n6 =>
  (zno H (.inl (0, n6, (.inl fun _ => 0)))).bind fun H6 =>
  (zpV H6 (some a0) 2 0 (zR (some H.2))).bind fun H8 =>
  (zpV H8 (some a0) 2 1 (zI (0 : Int32))).bind fun H13 =>
  some H13
theorem jm_Bytes_init {E : zE} {d : Nat} (hd : 1 ≤ d) (a0 : Nat) (a1 : Int32) (H : zH) : z_MS E jM_Bytes_init d 1 390 zwV [zR (some a0), zI a1] H (jF_Bytes_init a0 a1 H) := by
  refine zs_of (lv0 := [(0, zR (some a0)), (1, zI a1)]) pn_Bytes (Nat.le_of_ble_eq_true rfl) rfl ?_
  unfold jF_Bytes_init
  refine zs_aload_n (pc := 0) (x := (some a0)) d_Bytes_init_0 rfl ?_
  refine zs_objInit (pc := 1) d_Bytes_init_1 kO_Bytes_1 z_oi2 z_oi3 (by omega) (Nat.le_of_ble_eq_true rfl) ?_
  refine zs_aload_n (pc := 4) (x := (some a0)) d_Bytes_init_4 rfl ?_
  refine zs_iload_n (pc := 5) (x := a1) d_Bytes_init_5 rfl ?_
  refine zs_bind fun n6 hn6 => ?_
  refine zs_newa (t := 0) (cap := 390) (pc := 6) d_Bytes_init_6 z_acI rfl (fun _ _ => rfl) hn6 (by decide) (Nat.le_of_ble_eq_true rfl) (Nat.le_of_ble_eq_true rfl) fun H6 => ?_
  refine zs_putF (pc := 8) d_Bytes_init_8 kP_Bytes_7 rfl z_fitA fun H8 => ?_
  refine zs_aload_n (pc := 11) (x := (some a0)) d_Bytes_init_11 rfl ?_
  refine zs_iconst (pc := 12) (v := (0 : Int32)) d_Bytes_init_12 (by decide) ?_
  refine zs_put (pc := 13) d_Bytes_init_13 kP_Bytes_13 z_fitI fun H13 => ?_
  exact zs_vret (pc := 16) d_Bytes_init_16 rfl (Nat.le_of_ble_eq_true rfl) (Nat.le_of_ble_eq_true rfl) rfl
def jF_Manifest_init (a0 : Nat) (a1 : Option Nat) (H : zH) : Option zH :=
  (zpV H (some a0) 5 0 (zR a1)).bind fun H6 =>
  (zno H6 (.inr (2, [zR none, zI 0]))).bind fun H10 =>
  (jF_Bytes_init H6.2 (206 : Int32) H10).bind fun y17 =>
  (zpV y17 (some a0) 5 1 (zR (some H6.2))).bind fun H20 =>
  (zno H20 (.inr (2, [zR none, zI 0]))).bind fun H24 =>
  (jF_Bytes_init H20.2 (32 : Int32) H24).bind fun y30 =>
  (zpV y30 (some a0) 5 2 (zR (some H20.2))).bind fun H33 =>
  some H33
theorem jm_Manifest_init {E : zE} {d : Nat} (hd : 2 ≤ d) (a0 : Nat) (a1 : Option Nat) (H : zH) : z_MS E jM_Manifest_init d 4 784 zwV [zR (some a0), zR a1] H (jF_Manifest_init a0 a1 H) := by
  refine zs_of (lv0 := [(0, zR (some a0)), (1, zR a1)]) pn_Manifest (Nat.le_of_ble_eq_true rfl) rfl ?_
  unfold jF_Manifest_init
  refine zs_aload_n (pc := 0) (x := (some a0)) d_Manifest_init_0 rfl ?_
  refine zs_objInit (pc := 1) d_Manifest_init_1 kO_Manifest_3 z_oi2 z_oi3 (by omega) (Nat.le_of_ble_eq_true rfl) ?_
  refine zs_aload_n (pc := 4) (x := (some a0)) d_Manifest_init_4 rfl ?_
  refine zs_aload_n (pc := 5) (x := a1) d_Manifest_init_5 rfl ?_
  refine zs_putF (pc := 6) d_Manifest_init_6 kP_Manifest_9 rfl z_fitR fun H6 => ?_
  refine zs_aload_n (pc := 9) (x := (some a0)) d_Manifest_init_9 rfl ?_
  refine zs_new (pc := 10) d_Manifest_init_10 kN_Manifest_15 (Nat.le_of_ble_eq_true rfl) (Nat.le_of_ble_eq_true rfl) fun H10 => ?_
  refine zs_dup (pc := 13) d_Manifest_init_13 rfl ?_
  refine zs_sipush (pc := 14) (v := (206 : Int32)) d_Manifest_init_14 (by decide) ?_
  refine zs_calli (pc := 17) (av := [zI (206 : Int32)]) (st := [zR (some H6.2), zR (some a0)]) (d' := 1) (C' := 1) (S' := 390) d_Manifest_init_17 kI_Manifest_17 (jm_Bytes_init (d := 1) (Nat.le_refl _) H6.2 (206 : Int32) H10) (by omega) (Nat.le_of_ble_eq_true rfl) (Nat.le_of_ble_eq_true rfl) rfl rfl (Nat.le_of_ble_eq_true rfl) fun y17 => ?_
  refine zs_putF (pc := 20) d_Manifest_init_20 kP_Manifest_20 rfl z_fitR fun H20 => ?_
  refine zs_aload_n (pc := 23) (x := (some a0)) d_Manifest_init_23 rfl ?_
  refine zs_new (pc := 24) d_Manifest_init_24 kN_Manifest_15 (Nat.le_of_ble_eq_true rfl) (Nat.le_of_ble_eq_true rfl) fun H24 => ?_
  refine zs_dup (pc := 27) d_Manifest_init_27 rfl ?_
  refine zs_bipush (pc := 28) (v := (32 : Int32)) d_Manifest_init_28 (by decide) ?_
  refine zs_calli (pc := 30) (av := [zI (32 : Int32)]) (st := [zR (some H20.2), zR (some a0)]) (d' := 1) (C' := 1) (S' := 390) d_Manifest_init_30 kI_Manifest_17 (jm_Bytes_init (d := 1) (Nat.le_refl _) H20.2 (32 : Int32) H24) (by omega) (Nat.le_of_ble_eq_true rfl) (Nat.le_of_ble_eq_true rfl) rfl rfl (Nat.le_of_ble_eq_true rfl) fun y30 => ?_
  refine zs_putF (pc := 33) d_Manifest_init_33 kP_Manifest_26 rfl z_fitR fun H33 => ?_
  exact zs_vret (pc := 36) d_Manifest_init_36 rfl (Nat.le_of_ble_eq_true rfl) (Nat.le_of_ble_eq_true rfl) rfl
def jF_Registry_init (a0 : Nat) (a1 : Option Nat) (H : zH) : Option zH :=
  (zpV H (some a0) 6 0 (zR a1)).bind fun H6 =>
  (zno H6 (.inr (2, [zR none, zI 0]))).bind fun H10 =>
  (jF_Bytes_init H6.2 (32 : Int32) H10).bind fun y16 =>
  (zpV y16 (some a0) 6 1 (zR (some H6.2))).bind fun H19 =>
  some H19
theorem jm_Registry_init {E : zE} {d : Nat} (hd : 2 ≤ d) (a0 : Nat) (a1 : Option Nat) (H : zH) : z_MS E jM_Registry_init d 2 392 zwV [zR (some a0), zR a1] H (jF_Registry_init a0 a1 H) := by
  refine zs_of (lv0 := [(0, zR (some a0)), (1, zR a1)]) pn_Registry (Nat.le_of_ble_eq_true rfl) rfl ?_
  unfold jF_Registry_init
  refine zs_aload_n (pc := 0) (x := (some a0)) d_Registry_init_0 rfl ?_
  refine zs_objInit (pc := 1) d_Registry_init_1 kO_Registry_3 z_oi2 z_oi3 (by omega) (Nat.le_of_ble_eq_true rfl) ?_
  refine zs_aload_n (pc := 4) (x := (some a0)) d_Registry_init_4 rfl ?_
  refine zs_aload_n (pc := 5) (x := a1) d_Registry_init_5 rfl ?_
  refine zs_putF (pc := 6) d_Registry_init_6 kP_Registry_9 rfl z_fitR fun H6 => ?_
  refine zs_aload_n (pc := 9) (x := (some a0)) d_Registry_init_9 rfl ?_
  refine zs_new (pc := 10) d_Registry_init_10 kN_Registry_15 (Nat.le_of_ble_eq_true rfl) (Nat.le_of_ble_eq_true rfl) fun H10 => ?_
  refine zs_dup (pc := 13) d_Registry_init_13 rfl ?_
  refine zs_bipush (pc := 14) (v := (32 : Int32)) d_Registry_init_14 (by decide) ?_
  refine zs_calli (pc := 16) (av := [zI (32 : Int32)]) (st := [zR (some H6.2), zR (some a0)]) (d' := 1) (C' := 1) (S' := 390) d_Registry_init_16 kI_Registry_19 (jm_Bytes_init (d := 1) (Nat.le_refl _) H6.2 (32 : Int32) H10) (by omega) (Nat.le_of_ble_eq_true rfl) (Nat.le_of_ble_eq_true rfl) rfl rfl (Nat.le_of_ble_eq_true rfl) fun y16 => ?_
  refine zs_putF (pc := 19) d_Registry_init_19 kP_Registry_22 rfl z_fitR fun H19 => ?_
  exact zs_vret (pc := 22) d_Registry_init_22 rfl (Nat.le_of_ble_eq_true rfl) (Nat.le_of_ble_eq_true rfl) rfl
def jF_Row_init (a0 : Nat) (a1 : Int32) (H : zH) : Option zH :=
  (znc a1 40).bind fun n6 =>
  (zno H (.inl (2, n6, (.inr (.inl fun _ => 0))))).bind fun H6 =>
  (zpV H6 (some a0) 7 0 (zR (some H.2))).bind fun H8 =>
  (zpV H8 (some a0) 7 1 (zI (0 : Int32))).bind fun H13 =>
  some H13
theorem jm_Row_init {E : zE} {d : Nat} (hd : 1 ≤ d) (a0 : Nat) (a1 : Int32) (H : zH) : z_MS E jM_Row_init d 1 40 zwV [zR (some a0), zI a1] H (jF_Row_init a0 a1 H) := by
  refine zs_of (lv0 := [(0, zR (some a0)), (1, zI a1)]) pn_Row (Nat.le_of_ble_eq_true rfl) rfl ?_
  unfold jF_Row_init
  refine zs_aload_n (pc := 0) (x := (some a0)) d_Row_init_0 rfl ?_
  refine zs_objInit (pc := 1) d_Row_init_1 kO_Row_1 z_oi2 z_oi3 (by omega) (Nat.le_of_ble_eq_true rfl) ?_
  refine zs_aload_n (pc := 4) (x := (some a0)) d_Row_init_4 rfl ?_
  refine zs_iload_n (pc := 5) (x := a1) d_Row_init_5 rfl ?_
  refine zs_bind fun n6 hn6 => ?_
  refine zs_newa (t := 2) (cap := 40) (pc := 6) d_Row_init_6 z_acJ rfl (fun _ _ => rfl) hn6 (by decide) (Nat.le_of_ble_eq_true rfl) (Nat.le_of_ble_eq_true rfl) fun H6 => ?_
  refine zs_putF (pc := 8) d_Row_init_8 kP_Row_7 rfl z_fitA fun H8 => ?_
  refine zs_aload_n (pc := 11) (x := (some a0)) d_Row_init_11 rfl ?_
  refine zs_iconst (pc := 12) (v := (0 : Int32)) d_Row_init_12 (by decide) ?_
  refine zs_put (pc := 13) d_Row_init_13 kP_Row_13 z_fitI fun H13 => ?_
  exact zs_vret (pc := 16) d_Row_init_16 rfl (Nat.le_of_ble_eq_true rfl) (Nat.le_of_ble_eq_true rfl) rfl
def jF_Schemas_init (a0 : Nat) (H : zH) : Option zH :=
  (zno H (.inl (3, 24, (.inr (.inr fun _ => none))))).bind fun H7 =>
  (zpV H7 (some a0) 9 0 (zR (some H.2))).bind fun H10 =>
  (zno H10 (.inl (4, 3, (.inr (.inr fun _ => none))))).bind fun H15 =>
  (zpV H15 (some a0) 9 1 (zR (some H10.2))).bind fun H18 =>
  (zpV H18 (some a0) 9 2 (zI (0 : Int32))).bind fun H23 =>
  (zpV H23 (some a0) 9 3 (zI (0 : Int32))).bind fun H28 =>
  some H28
theorem jm_Schemas_init {E : zE} {d : Nat} (hd : 1 ≤ d) (a0 : Nat) (H : zH) : z_MS E jM_Schemas_init d 2 27 zwV [zR (some a0)] H (jF_Schemas_init a0 H) := by
  refine zs_of (lv0 := [(0, zR (some a0))]) pn_Schemas (Nat.le_of_ble_eq_true rfl) rfl ?_
  unfold jF_Schemas_init
  refine zs_aload_n (pc := 0) (x := (some a0)) d_Schemas_init_0 rfl ?_
  refine zs_objInit (pc := 1) d_Schemas_init_1 kO_Schemas_3 z_oi2 z_oi3 (by omega) (Nat.le_of_ble_eq_true rfl) ?_
  refine zs_aload_n (pc := 4) (x := (some a0)) d_Schemas_init_4 rfl ?_
  refine zs_bipush (pc := 5) (v := (24 : Int32)) d_Schemas_init_5 (by decide) ?_
  refine zs_anew (t := 3) (cap := 24) (pc := 7) d_Schemas_init_7 kA_Schemas_11 z_ao3 rfl (by decide) (by decide) (Nat.le_of_ble_eq_true rfl) (Nat.le_of_ble_eq_true rfl) fun H7 => ?_
  refine zs_putF (pc := 10) d_Schemas_init_10 kP_Schemas_13 rfl z_fitA fun H10 => ?_
  refine zs_aload_n (pc := 13) (x := (some a0)) d_Schemas_init_13 rfl ?_
  refine zs_iconst (pc := 14) (v := (3 : Int32)) d_Schemas_init_14 (by decide) ?_
  refine zs_anew (t := 4) (cap := 3) (pc := 15) d_Schemas_init_15 kA_Schemas_17 z_ao4 rfl (by decide) (by decide) (Nat.le_of_ble_eq_true rfl) (Nat.le_of_ble_eq_true rfl) fun H15 => ?_
  refine zs_putF (pc := 18) d_Schemas_init_18 kP_Schemas_19 rfl z_fitA fun H18 => ?_
  refine zs_aload_n (pc := 21) (x := (some a0)) d_Schemas_init_21 rfl ?_
  refine zs_iconst (pc := 22) (v := (0 : Int32)) d_Schemas_init_22 (by decide) ?_
  refine zs_put (pc := 23) d_Schemas_init_23 kP_Schemas_23 z_fitI fun H23 => ?_
  refine zs_aload_n (pc := 26) (x := (some a0)) d_Schemas_init_26 rfl ?_
  refine zs_iconst (pc := 27) (v := (0 : Int32)) d_Schemas_init_27 (by decide) ?_
  refine zs_put (pc := 28) d_Schemas_init_28 kP_Schemas_27 z_fitI fun H28 => ?_
  exact zs_vret (pc := 31) d_Schemas_init_31 rfl (Nat.le_of_ble_eq_true rfl) (Nat.le_of_ble_eq_true rfl) rfl
def jF_Staging_init (a0 : Nat) (H : zH) : Option zH :=
  (zno H (.inr (2, [zR none, zI 0]))).bind fun H5 =>
  (jF_Bytes_init H.2 (390 : Int32) H5).bind fun y12 =>
  (zpV y12 (some a0) 10 0 (zR (some H.2))).bind fun H15 =>
  (zpV H15 (some a0) 10 1 (zI (-1 : Int32))).bind fun H20 =>
  (zpV H20 (some a0) 10 2 (zI (0 : Int32))).bind fun H25 =>
  some H25
theorem jm_Staging_init {E : zE} {d : Nat} (hd : 2 ≤ d) (a0 : Nat) (H : zH) : z_MS E jM_Staging_init d 2 392 zwV [zR (some a0)] H (jF_Staging_init a0 H) := by
  refine zs_of (lv0 := [(0, zR (some a0))]) pn_Staging (Nat.le_of_ble_eq_true rfl) rfl ?_
  unfold jF_Staging_init
  refine zs_aload_n (pc := 0) (x := (some a0)) d_Staging_init_0 rfl ?_
  refine zs_objInit (pc := 1) d_Staging_init_1 kO_Staging_3 z_oi2 z_oi3 (by omega) (Nat.le_of_ble_eq_true rfl) ?_
  refine zs_aload_n (pc := 4) (x := (some a0)) d_Staging_init_4 rfl ?_
  refine zs_new (pc := 5) d_Staging_init_5 kN_Staging_9 (Nat.le_of_ble_eq_true rfl) (Nat.le_of_ble_eq_true rfl) fun H5 => ?_
  refine zs_dup (pc := 8) d_Staging_init_8 rfl ?_
  refine zs_sipush (pc := 9) (v := (390 : Int32)) d_Staging_init_9 (by decide) ?_
  refine zs_calli (pc := 12) (av := [zI (390 : Int32)]) (st := [zR (some H.2), zR (some a0)]) (d' := 1) (C' := 1) (S' := 390) d_Staging_init_12 kI_Staging_13 (jm_Bytes_init (d := 1) (Nat.le_refl _) H.2 (390 : Int32) H5) (by omega) (Nat.le_of_ble_eq_true rfl) (Nat.le_of_ble_eq_true rfl) rfl rfl (Nat.le_of_ble_eq_true rfl) fun y12 => ?_
  refine zs_putF (pc := 15) d_Staging_init_15 kP_Staging_16 rfl z_fitR fun H15 => ?_
  refine zs_aload_n (pc := 18) (x := (some a0)) d_Staging_init_18 rfl ?_
  refine zs_iconst (pc := 19) (v := (-1 : Int32)) d_Staging_init_19 (by decide) ?_
  refine zs_put (pc := 20) d_Staging_init_20 kP_Staging_20 z_fitI fun H20 => ?_
  refine zs_aload_n (pc := 23) (x := (some a0)) d_Staging_init_23 rfl ?_
  refine zs_iconst (pc := 24) (v := (0 : Int32)) d_Staging_init_24 (by decide) ?_
  refine zs_put (pc := 25) d_Staging_init_25 kP_Staging_24 z_fitI fun H25 => ?_
  exact zs_vret (pc := 28) d_Staging_init_28 rfl (Nat.le_of_ble_eq_true rfl) (Nat.le_of_ble_eq_true rfl) rfl
def jF_ST_init (a0 : Nat) (H : zH) : Option zH :=
  (zno H (.inr (3, [zR none, zI 0, zI 0, zI 0]))).bind fun H4 =>
  (jF_Disk_init H.2 H4).bind fun y8 =>
  (zno y8 (.inr (9, [zR none, zR none, zI 0, zI 0]))).bind fun H13 =>
  (jF_Schemas_init y8.2 H13).bind fun y17 =>
  (zpV y17 (some a0) 0 0 (zR (some y8.2))).bind fun H20 =>
  (zpV H20 (some a0) 0 1 (zR (some H.2))).bind fun H25 =>
  (zno H25 (.inr (6, [zR none, zR none]))).bind fun H29 =>
  (jF_Registry_init H25.2 (some H.2) H29).bind fun y34 =>
  (zpV y34 (some a0) 0 2 (zR (some H25.2))).bind fun H37 =>
  (zno H37 (.inr (5, [zR none, zR none, zR none]))).bind fun H41 =>
  (jF_Manifest_init H37.2 (some H.2) H41).bind fun y46 =>
  (zpV y46 (some a0) 0 3 (zR (some H37.2))).bind fun H49 =>
  (zno H49 (.inr (10, [zR none, zI 0, zI 0]))).bind fun H53 =>
  (jF_Staging_init H49.2 H53).bind fun y57 =>
  (zpV y57 (some a0) 0 4 (zR (some H49.2))).bind fun H60 =>
  (zno H60 (.inr (7, [zR none, zI 0]))).bind fun H64 =>
  (jF_Row_init H60.2 (24 : Int32) H64).bind fun y70 =>
  (zpV y70 (some a0) 0 5 (zR (some H60.2))).bind fun H73 =>
  (zno H73 (.inr (7, [zR none, zI 0]))).bind fun H77 =>
  (jF_Row_init H73.2 (24 : Int32) H77).bind fun y83 =>
  (zpV y83 (some a0) 0 6 (zR (some H73.2))).bind fun H86 =>
  (zno H86 (.inr (7, [zR none, zI 0]))).bind fun H90 =>
  (jF_Row_init H86.2 (40 : Int32) H90).bind fun y96 =>
  (zpV y96 (some a0) 0 7 (zR (some H86.2))).bind fun H99 =>
  some H99
theorem jm_ST_init {E : zE} {d : Nat} (hd : 3 ≤ d) (a0 : Nat) (H : zH) : z_MS E jM_ST_init d 22 3017 zwV [zR (some a0)] H (jF_ST_init a0 H) := by
  refine zs_of (lv0 := [(0, zR (some a0))]) pn_ST (Nat.le_of_ble_eq_true rfl) rfl ?_
  unfold jF_ST_init
  refine zs_aload_n (pc := 0) (x := (some a0)) d_ST_init_0 rfl ?_
  refine zs_objInit (pc := 1) d_ST_init_1 kO_ST_1 z_oi2 z_oi3 (by omega) (Nat.le_of_ble_eq_true rfl) ?_
  refine zs_new (pc := 4) d_ST_init_4 kN_ST_7 (Nat.le_of_ble_eq_true rfl) (Nat.le_of_ble_eq_true rfl) fun H4 => ?_
  refine zs_dup (pc := 7) d_ST_init_7 rfl ?_
  refine zs_calli (pc := 8) (av := []) (st := [zR (some H.2)]) (d' := 1) (C' := 1) (S' := 1280) d_ST_init_8 kI_ST_9 (jm_Disk_init (d := 1) (Nat.le_refl _) H.2 H4) (by omega) (Nat.le_of_ble_eq_true rfl) (Nat.le_of_ble_eq_true rfl) rfl rfl (Nat.le_of_ble_eq_true rfl) fun y8 => ?_
  refine zs_astore_n (pc := 11) (lv' := [(1, zR (some H.2)), (0, zR (some a0))]) d_ST_init_11 (Nat.le_of_ble_eq_true rfl) rfl ?_
  refine zs_aload_n (pc := 12) (x := (some a0)) d_ST_init_12 rfl ?_
  refine zs_new (pc := 13) d_ST_init_13 kN_ST_10 (Nat.le_of_ble_eq_true rfl) (Nat.le_of_ble_eq_true rfl) fun H13 => ?_
  refine zs_dup (pc := 16) d_ST_init_16 rfl ?_
  refine zs_calli (pc := 17) (av := []) (st := [zR (some y8.2), zR (some a0)]) (d' := 1) (C' := 2) (S' := 27) d_ST_init_17 kI_ST_12 (jm_Schemas_init (d := 1) (Nat.le_refl _) y8.2 H13) (by omega) (Nat.le_of_ble_eq_true rfl) (Nat.le_of_ble_eq_true rfl) rfl rfl (Nat.le_of_ble_eq_true rfl) fun y17 => ?_
  refine zs_putF (pc := 20) d_ST_init_20 kP_ST_13 rfl z_fitR fun H20 => ?_
  refine zs_aload_n (pc := 23) (x := (some a0)) d_ST_init_23 rfl ?_
  refine zs_aload_n (pc := 24) (x := (some H.2)) d_ST_init_24 rfl ?_
  refine zs_putF (pc := 25) d_ST_init_25 kP_ST_19 rfl z_fitR fun H25 => ?_
  refine zs_aload_n (pc := 28) (x := (some a0)) d_ST_init_28 rfl ?_
  refine zs_new (pc := 29) d_ST_init_29 kN_ST_23 (Nat.le_of_ble_eq_true rfl) (Nat.le_of_ble_eq_true rfl) fun H29 => ?_
  refine zs_dup (pc := 32) d_ST_init_32 rfl ?_
  refine zs_aload_n (pc := 33) (x := (some H.2)) d_ST_init_33 rfl ?_
  refine zs_calli (pc := 34) (av := [zR (some H.2)]) (st := [zR (some H25.2), zR (some a0)]) (d' := 2) (C' := 2) (S' := 392) d_ST_init_34 kI_ST_25 (jm_Registry_init (d := 2) (Nat.le_refl _) H25.2 (some H.2) H29) (by omega) (Nat.le_of_ble_eq_true rfl) (Nat.le_of_ble_eq_true rfl) rfl rfl (Nat.le_of_ble_eq_true rfl) fun y34 => ?_
  refine zs_putF (pc := 37) d_ST_init_37 kP_ST_28 rfl z_fitR fun H37 => ?_
  refine zs_aload_n (pc := 40) (x := (some a0)) d_ST_init_40 rfl ?_
  refine zs_new (pc := 41) d_ST_init_41 kN_ST_32 (Nat.le_of_ble_eq_true rfl) (Nat.le_of_ble_eq_true rfl) fun H41 => ?_
  refine zs_dup (pc := 44) d_ST_init_44 rfl ?_
  refine zs_aload_n (pc := 45) (x := (some H.2)) d_ST_init_45 rfl ?_
  refine zs_calli (pc := 46) (av := [zR (some H.2)]) (st := [zR (some H37.2), zR (some a0)]) (d' := 2) (C' := 4) (S' := 784) d_ST_init_46 kI_ST_34 (jm_Manifest_init (d := 2) (Nat.le_refl _) H37.2 (some H.2) H41) (by omega) (Nat.le_of_ble_eq_true rfl) (Nat.le_of_ble_eq_true rfl) rfl rfl (Nat.le_of_ble_eq_true rfl) fun y46 => ?_
  refine zs_putF (pc := 49) d_ST_init_49 kP_ST_35 rfl z_fitR fun H49 => ?_
  refine zs_aload_n (pc := 52) (x := (some a0)) d_ST_init_52 rfl ?_
  refine zs_new (pc := 53) d_ST_init_53 kN_ST_39 (Nat.le_of_ble_eq_true rfl) (Nat.le_of_ble_eq_true rfl) fun H53 => ?_
  refine zs_dup (pc := 56) d_ST_init_56 rfl ?_
  refine zs_calli (pc := 57) (av := []) (st := [zR (some H49.2), zR (some a0)]) (d' := 2) (C' := 2) (S' := 392) d_ST_init_57 kI_ST_41 (jm_Staging_init (d := 2) (Nat.le_refl _) H49.2 H53) (by omega) (Nat.le_of_ble_eq_true rfl) (Nat.le_of_ble_eq_true rfl) rfl rfl (Nat.le_of_ble_eq_true rfl) fun y57 => ?_
  refine zs_putF (pc := 60) d_ST_init_60 kP_ST_42 rfl z_fitR fun H60 => ?_
  refine zs_aload_n (pc := 63) (x := (some a0)) d_ST_init_63 rfl ?_
  refine zs_new (pc := 64) d_ST_init_64 kN_ST_46 (Nat.le_of_ble_eq_true rfl) (Nat.le_of_ble_eq_true rfl) fun H64 => ?_
  refine zs_dup (pc := 67) d_ST_init_67 rfl ?_
  refine zs_bipush (pc := 68) (v := (24 : Int32)) d_ST_init_68 (by decide) ?_
  refine zs_calli (pc := 70) (av := [zI (24 : Int32)]) (st := [zR (some H60.2), zR (some a0)]) (d' := 1) (C' := 1) (S' := 40) d_ST_init_70 kI_ST_48 (jm_Row_init (d := 1) (Nat.le_refl _) H60.2 (24 : Int32) H64) (by omega) (Nat.le_of_ble_eq_true rfl) (Nat.le_of_ble_eq_true rfl) rfl rfl (Nat.le_of_ble_eq_true rfl) fun y70 => ?_
  refine zs_putF (pc := 73) d_ST_init_73 kP_ST_51 rfl z_fitR fun H73 => ?_
  refine zs_aload_n (pc := 76) (x := (some a0)) d_ST_init_76 rfl ?_
  refine zs_new (pc := 77) d_ST_init_77 kN_ST_46 (Nat.le_of_ble_eq_true rfl) (Nat.le_of_ble_eq_true rfl) fun H77 => ?_
  refine zs_dup (pc := 80) d_ST_init_80 rfl ?_
  refine zs_bipush (pc := 81) (v := (24 : Int32)) d_ST_init_81 (by decide) ?_
  refine zs_calli (pc := 83) (av := [zI (24 : Int32)]) (st := [zR (some H73.2), zR (some a0)]) (d' := 1) (C' := 1) (S' := 40) d_ST_init_83 kI_ST_48 (jm_Row_init (d := 1) (Nat.le_refl _) H73.2 (24 : Int32) H77) (by omega) (Nat.le_of_ble_eq_true rfl) (Nat.le_of_ble_eq_true rfl) rfl rfl (Nat.le_of_ble_eq_true rfl) fun y83 => ?_
  refine zs_putF (pc := 86) d_ST_init_86 kP_ST_55 rfl z_fitR fun H86 => ?_
  refine zs_aload_n (pc := 89) (x := (some a0)) d_ST_init_89 rfl ?_
  refine zs_new (pc := 90) d_ST_init_90 kN_ST_46 (Nat.le_of_ble_eq_true rfl) (Nat.le_of_ble_eq_true rfl) fun H90 => ?_
  refine zs_dup (pc := 93) d_ST_init_93 rfl ?_
  refine zs_bipush (pc := 94) (v := (40 : Int32)) d_ST_init_94 (by decide) ?_
  refine zs_calli (pc := 96) (av := [zI (40 : Int32)]) (st := [zR (some H86.2), zR (some a0)]) (d' := 1) (C' := 1) (S' := 40) d_ST_init_96 kI_ST_48 (jm_Row_init (d := 1) (Nat.le_refl _) H86.2 (40 : Int32) H90) (by omega) (Nat.le_of_ble_eq_true rfl) (Nat.le_of_ble_eq_true rfl) rfl rfl (Nat.le_of_ble_eq_true rfl) fun y96 => ?_
  refine zs_putF (pc := 99) d_ST_init_99 kP_ST_58 rfl z_fitR fun H99 => ?_
  exact zs_vret (pc := 102) d_ST_init_102 rfl (Nat.le_of_ble_eq_true rfl) (Nat.le_of_ble_eq_true rfl) rfl
def jF_Field_init (a0 : Nat) (a1 : Int32) (a2 : Option Nat) (a3 : Int32) (a4 : Int64) (H : zH) : Option zH :=
  (zpV H (some a0) 4 0 (zI a1)).bind fun H6 =>
  (zpV H6 (some a0) 4 1 (zR a2)).bind fun H11 =>
  (zpZ H11 (some a0) 4 2 a3).bind fun H16 =>
  (zpV H16 (some a0) 4 3 (zL a4)).bind fun H22 =>
  some H22
theorem jm_Field_init {E : zE} {d : Nat} (hd : 1 ≤ d) (a0 : Nat) (a1 : Int32) (a2 : Option Nat) (a3 : Int32) (a4 : Int64) (H : zH) : z_MS E jM_Field_init d 0 0 zwV [zR (some a0), zI a1, zR a2, zI a3, zL a4] H (jF_Field_init a0 a1 a2 a3 a4 H) := by
  refine zs_of (lv0 := [(0, zR (some a0)), (1, zI a1), (2, zR a2), (3, zI a3), (4, zL a4)]) pn_Field (Nat.le_of_ble_eq_true rfl) rfl ?_
  unfold jF_Field_init
  refine zs_aload_n (pc := 0) (x := (some a0)) d_Field_init_0 rfl ?_
  refine zs_objInit (pc := 1) d_Field_init_1 kO_Field_1 z_oi2 z_oi3 (by omega) (Nat.le_of_ble_eq_true rfl) ?_
  refine zs_aload_n (pc := 4) (x := (some a0)) d_Field_init_4 rfl ?_
  refine zs_iload_n (pc := 5) (x := a1) d_Field_init_5 rfl ?_
  refine zs_putF (pc := 6) d_Field_init_6 kP_Field_7 rfl z_fitI fun H6 => ?_
  refine zs_aload_n (pc := 9) (x := (some a0)) d_Field_init_9 rfl ?_
  refine zs_aload_n (pc := 10) (x := a2) d_Field_init_10 rfl ?_
  refine zs_putF (pc := 11) d_Field_init_11 kP_Field_13 rfl z_fitR fun H11 => ?_
  refine zs_aload_n (pc := 14) (x := (some a0)) d_Field_init_14 rfl ?_
  refine zs_iload_n (pc := 15) (x := a3) d_Field_init_15 rfl ?_
  refine zs_putFZ (pc := 16) d_Field_init_16 kP_Field_17 rfl fun H16 => ?_
  refine zs_aload_n (pc := 19) (x := (some a0)) d_Field_init_19 rfl ?_
  refine zs_lload (pc := 20) (x := a4) d_Field_init_20 rfl ?_
  refine zs_putF (pc := 22) d_Field_init_22 kP_Field_21 rfl z_fitL fun H22 => ?_
  exact zs_vret (pc := 25) d_Field_init_25 rfl (Nat.le_of_ble_eq_true rfl) (Nat.le_of_ble_eq_true rfl) rfl
def jF_Schema_isName (a0 : Int64) (H : zH) : Option Int32 :=
  if a0 < (0 : Int64) then (
    some (0 : Int32))
  else (
    if (8 : Int64) ≤ a0 then (
      some (0 : Int32))
    else (
      some (1 : Int32)))
theorem jm_Schema_isName {E : zE} {d : Nat} (hd : 0 ≤ d) (a0 : Int64) (H : zH) : z_MS E jM_Schema_isName d 0 0 (zrI H) [zL a0] H (jF_Schema_isName a0 H) := by
  refine zs_of (lv0 := [(0, zL a0)]) pn_Schema (Nat.le_of_ble_eq_true rfl) rfl ?_
  unfold jF_Schema_isName
  refine zs_lload_n (pc := 0) (x := a0) d_Schema_isName_0 rfl ?_
  refine zs_lconst (pc := 1) (v := (0 : Int64)) d_Schema_isName_1 (by decide) ?_
  refine zs_lcmp_lt (pc := 2) (tgt := 18) d_Schema_isName_2 d_Schema_isName_3 rfl (fun q2 => ?_) (fun q2 => ?_)
  · refine zs_iconst (pc := 18) (v := (0 : Int32)) d_Schema_isName_18 (by decide) ?_
    exact zs_zretc (pc := 19) d_Schema_isName_19 rfl (by decide) (Nat.le_of_ble_eq_true rfl) (Nat.le_of_ble_eq_true rfl) rfl
  · refine zs_lload_n (pc := 6) (x := a0) d_Schema_isName_6 rfl ?_
    refine zs_ldc2 (pc := 7) (v := (8 : Int64)) d_Schema_isName_7 kC_Schema_56 ?_
    refine zs_lcmp_ge (pc := 10) (tgt := 18) d_Schema_isName_10 d_Schema_isName_11 rfl (fun q10 => ?_) (fun q10 => ?_)
    · refine zs_iconst (pc := 18) (v := (0 : Int32)) d_Schema_isName_18 (by decide) ?_
      exact zs_zretc (pc := 19) d_Schema_isName_19 rfl (by decide) (Nat.le_of_ble_eq_true rfl) (Nat.le_of_ble_eq_true rfl) rfl
    · refine zs_iconst (pc := 14) (v := (1 : Int32)) d_Schema_isName_14 (by decide) ?_
      refine zs_goto (pc := 15) (tgt := 19) d_Schema_isName_15 rfl ?_
      exact zs_zretc (pc := 19) d_Schema_isName_19 rfl (by decide) (Nat.le_of_ble_eq_true rfl) (Nat.le_of_ble_eq_true rfl) rfl
def jF_Schema_hasSymbol (a0 : Option Nat) (a1 : Int64) (H : zH) : Option Int32 :=
  (zok H a0 8).bind fun _ =>
  (jF_Schema_isName a1 H).bind fun y1 =>
  if y1 = 0 then (
    some (0 : Int32))
  else (
    (zgI H a0 8 2).bind fun v8 =>
    if ((v8 >>> (a1.toInt32 &&& 31)) &&& (1 : Int32)) = (1 : Int32) then (
      some (1 : Int32))
    else (
      some (0 : Int32)))
theorem jm_Schema_hasSymbol {E : zE} {d : Nat} (hd : 1 ≤ d) (a0 : Option Nat) (a1 : Int64) (H : zH) : z_MS E jM_Schema_hasSymbol d 0 0 (zrI H) [zR a0, zL a1] H (jF_Schema_hasSymbol a0 a1 H) := by
  refine zs_of (lv0 := [(0, zR a0), (1, zL a1)]) pn_Schema (Nat.le_of_ble_eq_true rfl) rfl ?_
  unfold jF_Schema_hasSymbol
  refine zs_bind fun _ _ => ?_
  refine zs_lload_n (pc := 0) (x := a1) d_Schema_hasSymbol_0 rfl ?_
  refine zs_calls_rI (pc := 1) (av := [zL a1]) (st := []) (d' := 0) (C' := 0) (S' := 0) d_Schema_hasSymbol_1 kS_Schema_58 (jm_Schema_isName (d := 0) (Nat.le_refl _) a1 H) (by omega) (Nat.le_of_ble_eq_true rfl) (Nat.le_of_ble_eq_true rfl) rfl rfl (Nat.le_of_ble_eq_true rfl) fun y1 => ?_
  refine zs_if_eq (pc := 4) (tgt := 24) d_Schema_hasSymbol_4 rfl (fun q4 => ?_) (fun q4 => ?_)
  · refine zs_iconst (pc := 24) (v := (0 : Int32)) d_Schema_hasSymbol_24 (by decide) ?_
    exact zs_zretc (pc := 25) d_Schema_hasSymbol_25 rfl (by decide) (Nat.le_of_ble_eq_true rfl) (Nat.le_of_ble_eq_true rfl) rfl
  · refine zs_aload_n (pc := 7) (x := a0) d_Schema_hasSymbol_7 rfl ?_
    refine zs_getI (pc := 8) d_Schema_hasSymbol_8 kF_Schema_18 fun v8 => ?_
    refine zs_lload_n (pc := 11) (x := a1) d_Schema_hasSymbol_11 rfl ?_
    refine zs_l2i (pc := 12) d_Schema_hasSymbol_12 ?_
    refine zs_ishr (pc := 13) d_Schema_hasSymbol_13 ?_
    refine zs_iconst (pc := 14) (v := (1 : Int32)) d_Schema_hasSymbol_14 (by decide) ?_
    refine zs_iand (pc := 15) d_Schema_hasSymbol_15 ?_
    refine zs_iconst (pc := 16) (v := (1 : Int32)) d_Schema_hasSymbol_16 (by decide) ?_
    refine zs_icmp_ne (pc := 17) (tgt := 24) d_Schema_hasSymbol_17 rfl (fun q17 => ?_) (fun q17 => ?_)
    · refine zs_iconst (pc := 24) (v := (0 : Int32)) d_Schema_hasSymbol_24 (by decide) ?_
      exact zs_zretc (pc := 25) d_Schema_hasSymbol_25 rfl (by decide) (Nat.le_of_ble_eq_true rfl) (Nat.le_of_ble_eq_true rfl) rfl
    · refine zs_iconst (pc := 20) (v := (1 : Int32)) d_Schema_hasSymbol_20 (by decide) ?_
      refine zs_goto (pc := 21) (tgt := 25) d_Schema_hasSymbol_21 rfl ?_
      exact zs_zretc (pc := 25) d_Schema_hasSymbol_25 rfl (by decide) (Nat.le_of_ble_eq_true rfl) (Nat.le_of_ble_eq_true rfl) rfl
def jJ_Schema_isValue_48 (H : zH)  : Option Int32 :=
  some (1 : Int32)
def jF_Schema_isValue (a0 : Option Nat) (a1 : Int64) (H : zH) : Option Int32 :=
  (zok H a0 8).bind fun _ =>
  (zgI H a0 8 0).bind fun v1 =>
  if v1 = (1 : Int32) then (
    if a1 = (0 : Int64) then (
      jJ_Schema_isValue_48 H)
    else (
      if a1 = (1 : Int64) then (
        jJ_Schema_isValue_48 H)
      else (
        some (0 : Int32))))
  else (
    if v1 = (2 : Int32) then (
      if a1 = a1.toInt32.toInt64 then (
        some (1 : Int32))
      else (
        some (0 : Int32)))
    else (
      if v1 = (3 : Int32) then (
        some (1 : Int32))
      else (
        if v1 = (4 : Int32) then (
          (jF_Schema_hasSymbol a0 a1 H).bind fun y72 =>
          (zbo y72).bind fun x => some x)
        else (
          some (0 : Int32)))))
theorem jj_Schema_isValue_48 {E : zE} {d : Nat} (hd : 2 ≤ d) (H : zH) : z_S E jM_Schema_isValue d 0 0 (zrI H) 48 [] [] H 0 0 (jJ_Schema_isValue_48 H) := by
  unfold jJ_Schema_isValue_48
  refine zs_iconst (pc := 48) (v := (1 : Int32)) d_Schema_isValue_48 (by decide) ?_
  refine zs_goto (pc := 49) (tgt := 53) d_Schema_isValue_49 rfl ?_
  exact zs_zretc (pc := 53) d_Schema_isValue_53 rfl (by decide) (Nat.le_of_ble_eq_true rfl) (Nat.le_of_ble_eq_true rfl) rfl
theorem jm_Schema_isValue {E : zE} {d : Nat} (hd : 2 ≤ d) (a0 : Option Nat) (a1 : Int64) (H : zH) : z_MS E jM_Schema_isValue d 0 0 (zrI H) [zR a0, zL a1] H (jF_Schema_isValue a0 a1 H) := by
  refine zs_of (lv0 := [(0, zR a0), (1, zL a1)]) pn_Schema (Nat.le_of_ble_eq_true rfl) rfl ?_
  unfold jF_Schema_isValue
  refine zs_bind fun _ _ => ?_
  refine zs_aload_n (pc := 0) (x := a0) d_Schema_isValue_0 rfl ?_
  refine zs_getI (pc := 1) d_Schema_isValue_1 kF_Schema_9 fun v1 => ?_
  refine zs_ite (fun q => ?_) (fun q4_0 => ?_)
  · refine zs_table (pc := 4) (tgt := 36) d_Schema_isValue_4 rfl (by rcases q with q <;> (rw [q]; decide)) ?_
    refine zs_lload_n (pc := 36) (x := a1) d_Schema_isValue_36 rfl ?_
    refine zs_lconst (pc := 37) (v := (0 : Int64)) d_Schema_isValue_37 (by decide) ?_
    refine zs_lcmp_eq (pc := 38) (tgt := 48) d_Schema_isValue_38 d_Schema_isValue_39 rfl (fun q38 => ?_) (fun q38 => ?_)
    · refine zs_sub (lv' := []) [] rfl ?_
      exact jj_Schema_isValue_48 hd H
    · refine zs_lload_n (pc := 42) (x := a1) d_Schema_isValue_42 rfl ?_
      refine zs_lconst (pc := 43) (v := (1 : Int64)) d_Schema_isValue_43 (by decide) ?_
      refine zs_lcmp_ne (pc := 44) (tgt := 52) d_Schema_isValue_44 d_Schema_isValue_45 rfl (fun q44 => ?_) (fun q44 => ?_)
      · refine zs_iconst (pc := 52) (v := (0 : Int32)) d_Schema_isValue_52 (by decide) ?_
        exact zs_zretc (pc := 53) d_Schema_isValue_53 rfl (by decide) (Nat.le_of_ble_eq_true rfl) (Nat.le_of_ble_eq_true rfl) rfl
      · refine zs_sub (lv' := []) [] rfl ?_
        exact jj_Schema_isValue_48 hd H
  refine zs_ite (fun q => ?_) (fun q4_1 => ?_)
  · refine zs_table (pc := 4) (tgt := 54) d_Schema_isValue_4 rfl (by rcases q with q <;> (rw [q]; decide)) ?_
    refine zs_lload_n (pc := 54) (x := a1) d_Schema_isValue_54 rfl ?_
    refine zs_lload_n (pc := 55) (x := a1) d_Schema_isValue_55 rfl ?_
    refine zs_l2i (pc := 56) d_Schema_isValue_56 ?_
    refine zs_i2l (pc := 57) d_Schema_isValue_57 ?_
    refine zs_lcmp_ne (pc := 58) (tgt := 66) d_Schema_isValue_58 d_Schema_isValue_59 rfl (fun q58 => ?_) (fun q58 => ?_)
    · refine zs_iconst (pc := 66) (v := (0 : Int32)) d_Schema_isValue_66 (by decide) ?_
      exact zs_zretc (pc := 67) d_Schema_isValue_67 rfl (by decide) (Nat.le_of_ble_eq_true rfl) (Nat.le_of_ble_eq_true rfl) rfl
    · refine zs_iconst (pc := 62) (v := (1 : Int32)) d_Schema_isValue_62 (by decide) ?_
      refine zs_goto (pc := 63) (tgt := 67) d_Schema_isValue_63 rfl ?_
      exact zs_zretc (pc := 67) d_Schema_isValue_67 rfl (by decide) (Nat.le_of_ble_eq_true rfl) (Nat.le_of_ble_eq_true rfl) rfl
  refine zs_ite (fun q => ?_) (fun q4_2 => ?_)
  · refine zs_table (pc := 4) (tgt := 68) d_Schema_isValue_4 rfl (by rcases q with q <;> (rw [q]; decide)) ?_
    refine zs_iconst (pc := 68) (v := (1 : Int32)) d_Schema_isValue_68 (by decide) ?_
    exact zs_zretc (pc := 69) d_Schema_isValue_69 rfl (by decide) (Nat.le_of_ble_eq_true rfl) (Nat.le_of_ble_eq_true rfl) rfl
  refine zs_ite (fun q => ?_) (fun q4_3 => ?_)
  · refine zs_table (pc := 4) (tgt := 70) d_Schema_isValue_4 rfl (by rcases q with q <;> (rw [q]; decide)) ?_
    refine zs_aload_n (pc := 70) (x := a0) d_Schema_isValue_70 rfl ?_
    refine zs_lload_n (pc := 71) (x := a1) d_Schema_isValue_71 rfl ?_
    refine zs_callv_rI (pc := 72) (av := [zL a1]) (st := []) (d' := 1) (C' := 0) (S' := 0) d_Schema_isValue_72 kV_Schema_68 z_okb (jm_Schema_hasSymbol (d := 1) (Nat.le_refl _) a0 a1 H) (by omega) (Nat.le_of_ble_eq_true rfl) (Nat.le_of_ble_eq_true rfl) rfl rfl (Nat.le_of_ble_eq_true rfl) fun y72 => ?_
    exact zs_zret (g := fun x => x) (pc := 75) d_Schema_isValue_75 rfl (Nat.le_of_ble_eq_true rfl) (Nat.le_of_ble_eq_true rfl) rfl
  have h4_1 := zs_tne (k := 1) q4_0 (by decide)
  have h4_2 := zs_tne (k := 2) q4_1 (by decide)
  have h4_3 := zs_tne (k := 3) q4_2 (by decide)
  have h4_4 := zs_tne (k := 4) q4_3 (by decide)
  refine zs_table (pc := 4) (tgt := 76) d_Schema_isValue_4 rfl ?_ ?_
  · unfold z_tsw
    rw [if_pos (by omega)]
    decide
  · refine zs_iconst (pc := 76) (v := (0 : Int32)) d_Schema_isValue_76 (by decide) ?_
    exact zs_zretc (pc := 77) d_Schema_isValue_77 rfl (by decide) (Nat.le_of_ble_eq_true rfl) (Nat.le_of_ble_eq_true rfl) rfl
def jF_Schema_isDefault : Nat → Option Nat → Int64 → zH → Option Int32
  | 0, _, _, _ => none
  | rr + 1, a0, a1, H =>
    (zgI H a0 8 0).bind fun v1 =>
    if v1 = (0 : Int32) ∨ v1 = (5 : Int32) then (
      if a1 = (0 : Int64) then (
        some (1 : Int32))
      else (
        some (0 : Int32)))
    else (
      if v1 = (6 : Int32) then (
        (zgR H a0 8 4).bind fun v53 =>
        ((fun x0 x1 x2 => jF_Schema_isDefault rr x0 x1 x2) v53 a1 H).bind fun y57 =>
        (zbo y57).bind fun x => some x)
      else (
        (jF_Schema_isValue a0 a1 H).bind fun y63 =>
        (zbo y63).bind fun x => some x))
theorem jm_Schema_isDefault {E : zE} : ∀ (rr : Nat) {d : Nat} (hd : 3 * rr ≤ d) (a0 : Option Nat) (a1 : Int64) (H : zH), z_MS E jM_Schema_isDefault d 0 0 (zrI H) [zR a0, zL a1] H (jF_Schema_isDefault rr a0 a1 H) := by
  intro rr
  induction rr with
  | zero => intro d hd a0 a1 H y hy; rw [jF_Schema_isDefault] at hy; cases hy
  | succ rr ih =>
    intro d hd a0 a1 H
    have hrc : ∀ (x0 : Option Nat) (x1 : Int64) (H : zH), z_MS E jM_Schema_isDefault (3 * rr) 0 0 (zrI H) [zR x0, zL x1] H ((fun x0 x1 x2 => jF_Schema_isDefault rr x0 x1 x2) x0 x1 H) := fun x0 x1 x2 => ih (Nat.le_refl _) x0 x1 x2
    have hd : 3 * rr + 3 ≤ d := by omega
    refine zs_of (lv0 := [(0, zR a0), (1, zL a1)]) pn_Schema (Nat.le_of_ble_eq_true rfl) rfl ?_
    rw [jF_Schema_isDefault]
    refine zs_aload_n (pc := 0) (x := a0) d_Schema_isDefault_0 rfl ?_
    refine zs_getI (pc := 1) d_Schema_isDefault_1 kF_Schema_9 fun v1 => ?_
    refine zs_ite (fun q => ?_) (fun q4_0 => ?_)
    · refine zs_lookup2 (pc := 4) (tgt := 40) d_Schema_isDefault_4 rfl (by rcases q with q|q <;> (rw [q]; decide)) ?_
      refine zs_lload_n (pc := 40) (x := a1) d_Schema_isDefault_40 rfl ?_
      refine zs_lconst (pc := 41) (v := (0 : Int64)) d_Schema_isDefault_41 (by decide) ?_
      refine zs_lcmp_ne (pc := 42) (tgt := 50) d_Schema_isDefault_42 d_Schema_isDefault_43 rfl (fun q42 => ?_) (fun q42 => ?_)
      · refine zs_iconst (pc := 50) (v := (0 : Int32)) d_Schema_isDefault_50 (by decide) ?_
        exact zs_zretc (pc := 51) d_Schema_isDefault_51 rfl (by decide) (Nat.le_of_ble_eq_true rfl) (Nat.le_of_ble_eq_true rfl) rfl
      · refine zs_iconst (pc := 46) (v := (1 : Int32)) d_Schema_isDefault_46 (by decide) ?_
        refine zs_goto (pc := 47) (tgt := 51) d_Schema_isDefault_47 rfl ?_
        exact zs_zretc (pc := 51) d_Schema_isDefault_51 rfl (by decide) (Nat.le_of_ble_eq_true rfl) (Nat.le_of_ble_eq_true rfl) rfl
    refine zs_ite (fun q => ?_) (fun q4_1 => ?_)
    · refine zs_lookup2 (pc := 4) (tgt := 52) d_Schema_isDefault_4 rfl (by rcases q with q <;> (rw [q]; decide)) ?_
      refine zs_aload_n (pc := 52) (x := a0) d_Schema_isDefault_52 rfl ?_
      refine zs_getR (pc := 53) d_Schema_isDefault_53 kF_Schema_24 fun v53 => ?_
      refine zs_lload_n (pc := 56) (x := a1) d_Schema_isDefault_56 rfl ?_
      refine zs_calls_rI (pc := 57) (av := [zR v53, zL a1]) (st := []) (d' := (3 * rr)) (C' := 0) (S' := 0) d_Schema_isDefault_57 kS_Schema_75 (hrc v53 a1 H) (by omega) (Nat.le_of_ble_eq_true rfl) (Nat.le_of_ble_eq_true rfl) rfl rfl (Nat.le_of_ble_eq_true rfl) fun y57 => ?_
      exact zs_zret (g := fun x => x) (pc := 60) d_Schema_isDefault_60 rfl (Nat.le_of_ble_eq_true rfl) (Nat.le_of_ble_eq_true rfl) rfl
    have h4_0 := zs_tne (k := 0) (fun hh => q4_0 (Or.inl hh)) (by decide)
    have h4_5 := zs_tne (k := 5) (fun hh => q4_0 (Or.inr (hh))) (by decide)
    have h4_6 := zs_tne (k := 6) q4_1 (by decide)
    refine zs_lookup2 (pc := 4) (tgt := 61) d_Schema_isDefault_4 rfl ?_ ?_
    · unfold z_lsw
      simp only [Op.lookupswitch.offset, if_neg (Ne.symm h4_0), if_neg (Ne.symm h4_5), if_neg (Ne.symm h4_6)]
      first | done | decide | rfl
    · refine zs_aload_n (pc := 61) (x := a0) d_Schema_isDefault_61 rfl ?_
      refine zs_lload_n (pc := 62) (x := a1) d_Schema_isDefault_62 rfl ?_
      refine zs_callv_rI (pc := 63) (av := [zL a1]) (st := []) (d' := 2) (C' := 0) (S' := 0) d_Schema_isDefault_63 kV_Schema_79 z_okb (jm_Schema_isValue (d := 2) (Nat.le_refl _) a0 a1 H) (by omega) (Nat.le_of_ble_eq_true rfl) (Nat.le_of_ble_eq_true rfl) rfl rfl (Nat.le_of_ble_eq_true rfl) fun y63 => ?_
      exact zs_zret (g := fun x => x) (pc := 66) d_Schema_isDefault_66 rfl (Nat.le_of_ble_eq_true rfl) (Nat.le_of_ble_eq_true rfl) rfl
def jL_Schemas_isPending_2 (fu : Nat) (H : zH) : Nat → Option Nat → Int32 → Int32 → Option Int32
  | 0, _, _, _ => none
  | g + 1, a0, a1, a2 =>
    (zgI H a0 9 3).bind fun v4 =>
    if v4 ≤ a2 then (
      some (0 : Int32))
    else (
      (zgR H a0 9 1).bind fun v11 =>
      (zaR H v11 4 a2).bind fun v15 =>
      (zgI H v15 4 0).bind fun v16 =>
      if v16 = a1 then (
        some (1 : Int32))
      else (
        jL_Schemas_isPending_2 fu H g a0 a1 (a2 + (1 : Int32))))
def jF_Schemas_isPending (fu : Nat) (a0 : Option Nat) (a1 : Int32) (H : zH) : Option Int32 :=
  (zok H a0 9).bind fun _ =>
  jL_Schemas_isPending_2 fu H fu a0 a1 (0 : Int32)
theorem jl_Schemas_isPending_2 {E : zE} {d : Nat} (hd : 0 ≤ d) (fu : Nat) (H : zH) : ∀ (g : Nat), ∀ (a0 : Option Nat) (a1 : Int32) (a2 : Int32), z_S E jM_Schemas_isPending d 0 0 (zrI H) 2 [(0, zR a0), (1, zI a1), (2, zI a2)] [] H 0 0 (jL_Schemas_isPending_2 fu H g a0 a1 a2) := by
  intro g
  induction g with
  | zero => intros; exact zs_none
  | succ g ih =>
    intro a0 a1 a2
    rw [jL_Schemas_isPending_2]
    refine zs_iload_n (pc := 2) (x := a2) d_Schemas_isPending_2 rfl ?_
    refine zs_aload_n (pc := 3) (x := a0) d_Schemas_isPending_3 rfl ?_
    refine zs_getI (pc := 4) d_Schemas_isPending_4 kF_Schemas_27 fun v4 => ?_
    refine zs_icmp_ge (pc := 7) (tgt := 31) d_Schemas_isPending_7 rfl (fun q7 => ?_) (fun q7 => ?_)
    · refine zs_iconst (pc := 31) (v := (0 : Int32)) d_Schemas_isPending_31 (by decide) ?_
      exact zs_zretc (pc := 32) d_Schemas_isPending_32 rfl (by decide) (Nat.le_of_ble_eq_true rfl) (Nat.le_of_ble_eq_true rfl) rfl
    · refine zs_aload_n (pc := 10) (x := a0) d_Schemas_isPending_10 rfl ?_
      refine zs_getR (pc := 11) d_Schemas_isPending_11 kF_Schemas_19 fun v11 => ?_
      refine zs_iload_n (pc := 14) (x := a2) d_Schemas_isPending_14 rfl ?_
      refine zs_aald (t := 4) (pc := 15) d_Schemas_isPending_15 rfl fun v15 => ?_
      refine zs_getI (pc := 16) d_Schemas_isPending_16 kF_Schemas_52 fun v16 => ?_
      refine zs_iload_n (pc := 19) (x := a1) d_Schemas_isPending_19 rfl ?_
      refine zs_icmp_ne (pc := 20) (tgt := 25) d_Schemas_isPending_20 rfl (fun q20 => ?_) (fun q20 => ?_)
      · refine zs_iinc (pc := 25) (x := a2) (v := (a2 + (1 : Int32))) (lv' := [(2, zI (a2 + (1 : Int32))), (0, zR a0), (1, zI a1)]) d_Schemas_isPending_25 rfl rfl (Nat.le_of_ble_eq_true rfl) rfl ?_
        refine zs_goto (pc := 28) (tgt := 2) d_Schemas_isPending_28 rfl ?_
        refine zs_sub (lv' := [(0, zR a0), (1, zI a1), (2, zI (a2 + (1 : Int32)))]) [1, 2, 0] rfl ?_
        exact ih a0 a1 (a2 + (1 : Int32))
      · refine zs_iconst (pc := 23) (v := (1 : Int32)) d_Schemas_isPending_23 (by decide) ?_
        exact zs_zretc (pc := 24) d_Schemas_isPending_24 rfl (by decide) (Nat.le_of_ble_eq_true rfl) (Nat.le_of_ble_eq_true rfl) rfl
theorem jm_Schemas_isPending {E : zE} {d : Nat} (hd : 0 ≤ d) (fu : Nat) (a0 : Option Nat) (a1 : Int32) (H : zH) : z_MS E jM_Schemas_isPending d 0 0 (zrI H) [zR a0, zI a1] H (jF_Schemas_isPending fu a0 a1 H) := by
  refine zs_of (lv0 := [(0, zR a0), (1, zI a1)]) pn_Schemas (Nat.le_of_ble_eq_true rfl) rfl ?_
  unfold jF_Schemas_isPending
  refine zs_bind fun _ _ => ?_
  refine zs_iconst (pc := 0) (v := (0 : Int32)) d_Schemas_isPending_0 (by decide) ?_
  refine zs_istore_n (pc := 1) (lv' := [(2, zI (0 : Int32)), (0, zR a0), (1, zI a1)]) d_Schemas_isPending_1 (Nat.le_of_ble_eq_true rfl) rfl ?_
  refine zs_sub (lv' := [(0, zR a0), (1, zI a1), (2, zI (0 : Int32))]) [1, 2, 0] rfl ?_
  exact jl_Schemas_isPending_2 hd fu H fu a0 a1 (0 : Int32)
def jJ_Schemas_addField_45 (fu : Nat) (a0 : Option Nat) (a1 : Int32) (a2 : Option Nat) (a3 : Int32) (a4 : Int64) (H : zH) : Option (Int32 × zH) :=
  (zgR H a0 9 1).bind fun v46 =>
  (zgI H a0 9 3).bind fun v50 =>
  (zno H (.inr (4, [zI 0, zR none, zI 0, zL 0]))).bind fun H53 =>
  (jF_Field_init H.2 a1 a2 a3 a4 H53).bind fun y62 =>
  (zsR y62 v46 4 v50 4 (some H.2)).bind fun H65 =>
  (zgI H65 a0 9 3).bind fun v68 =>
  (zpV H65 a0 9 3 (zI (v68 + (1 : Int32)))).bind fun H73 =>
  (zgI H73 a0 9 3).bind fun v77 =>
  some (v77, H73)
def jF_Schemas_addField (fu : Nat) (a0 : Option Nat) (a1 : Int32) (a2 : Option Nat) (a3 : Int32) (a4 : Int64) (H : zH) : Option (Int32 × zH) :=
  (zok H a0 9).bind fun _ =>
  (zgI H a0 9 3).bind fun v1 =>
  if v1 = (3 : Int32) then (
    some ((-1 : Int32), H))
  else (
    (jF_Schema_isName a1.toInt64 H).bind fun y10 =>
    if y10 = 0 then (
      some ((-1 : Int32), H))
    else (
      (jF_Schemas_isPending fu a0 a1 H).bind fun y18 =>
      if y18 = 0 then (
        if a2 = none then (
          some ((-1 : Int32), H))
        else (
          if a3 = 0 then (
            jJ_Schemas_addField_45 fu a0 a1 a2 a3 a4 H)
          else (
            (jF_Schema_isDefault 7 a2 a4 H).bind fun y37 =>
            if y37 = 0 then (
              some ((-1 : Int32), H))
            else (
              jJ_Schemas_addField_45 fu a0 a1 a2 a3 a4 H))))
      else (
        some ((-1 : Int32), H))))
theorem jj_Schemas_addField_45 {E : zE} {d : Nat} (hd : 22 ≤ d) (fu : Nat) : ∀ (a0 : Option Nat) (a1 : Int32) (a2 : Option Nat) (a3 : Int32) (a4 : Int64) (H : zH), z_S E jM_Schemas_addField d 1 4 zwI 45 [(0, zR a0), (1, zI a1), (2, zR a2), (3, zI a3), (4, zL a4)] [] H 0 0 (jJ_Schemas_addField_45 fu a0 a1 a2 a3 a4 H) := by
  intro a0 a1 a2 a3 a4 H
  unfold jJ_Schemas_addField_45
  refine zs_aload_n (pc := 45) (x := a0) d_Schemas_addField_45 rfl ?_
  refine zs_getR (pc := 46) d_Schemas_addField_46 kF_Schemas_19 fun v46 => ?_
  refine zs_aload_n (pc := 49) (x := a0) d_Schemas_addField_49 rfl ?_
  refine zs_getI (pc := 50) d_Schemas_addField_50 kF_Schemas_27 fun v50 => ?_
  refine zs_new (pc := 53) d_Schemas_addField_53 kN_Schemas_17 (Nat.le_of_ble_eq_true rfl) (Nat.le_of_ble_eq_true rfl) fun H53 => ?_
  refine zs_dup (pc := 56) d_Schemas_addField_56 rfl ?_
  refine zs_iload_n (pc := 57) (x := a1) d_Schemas_addField_57 rfl ?_
  refine zs_aload_n (pc := 58) (x := a2) d_Schemas_addField_58 rfl ?_
  refine zs_iload_n (pc := 59) (x := a3) d_Schemas_addField_59 rfl ?_
  refine zs_lload (pc := 60) (x := a4) d_Schemas_addField_60 rfl ?_
  refine zs_calli (pc := 62) (av := [zI a1, zR a2, zI a3, zL a4]) (st := [zR (some H.2), zI v50, zR v46]) (d' := 1) (C' := 0) (S' := 0) d_Schemas_addField_62 kI_Schemas_42 (jm_Field_init (d := 1) (Nat.le_refl _) H.2 a1 a2 a3 a4 H53) (by omega) (Nat.le_of_ble_eq_true rfl) (Nat.le_of_ble_eq_true rfl) rfl rfl (Nat.le_of_ble_eq_true rfl) fun y62 => ?_
  refine zs_aast (t := 4) (ci := 4) (pc := 65) d_Schemas_addField_65 rfl rfl fun H65 => ?_
  refine zs_aload_n (pc := 66) (x := a0) d_Schemas_addField_66 rfl ?_
  refine zs_dup (pc := 67) d_Schemas_addField_67 rfl ?_
  refine zs_getI (pc := 68) d_Schemas_addField_68 kF_Schemas_27 fun v68 => ?_
  refine zs_iconst (pc := 71) (v := (1 : Int32)) d_Schemas_addField_71 (by decide) ?_
  refine zs_iadd (pc := 72) d_Schemas_addField_72 ?_
  refine zs_put (pc := 73) d_Schemas_addField_73 kP_Schemas_27 z_fitI fun H73 => ?_
  refine zs_aload_n (pc := 76) (x := a0) d_Schemas_addField_76 rfl ?_
  refine zs_getI (pc := 77) d_Schemas_addField_77 kF_Schemas_27 fun v77 => ?_
  exact zs_iret (pc := 80) d_Schemas_addField_80 rfl (Nat.le_of_ble_eq_true rfl) (Nat.le_of_ble_eq_true rfl) rfl
theorem jm_Schemas_addField {E : zE} {d : Nat} (hd : 22 ≤ d) (fu : Nat) (a0 : Option Nat) (a1 : Int32) (a2 : Option Nat) (a3 : Int32) (a4 : Int64) (H : zH) : z_MS E jM_Schemas_addField d 1 4 zwI [zR a0, zI a1, zR a2, zI a3, zL a4] H (jF_Schemas_addField fu a0 a1 a2 a3 a4 H) := by
  refine zs_of (lv0 := [(0, zR a0), (1, zI a1), (2, zR a2), (3, zI a3), (4, zL a4)]) pn_Schemas (Nat.le_of_ble_eq_true rfl) rfl ?_
  unfold jF_Schemas_addField
  refine zs_bind fun _ _ => ?_
  refine zs_aload_n (pc := 0) (x := a0) d_Schemas_addField_0 rfl ?_
  refine zs_getI (pc := 1) d_Schemas_addField_1 kF_Schemas_27 fun v1 => ?_
  refine zs_iconst (pc := 4) (v := (3 : Int32)) d_Schemas_addField_4 (by decide) ?_
  refine zs_icmp_eq (pc := 5) (tgt := 28) d_Schemas_addField_5 rfl (fun q5 => ?_) (fun q5 => ?_)
  · refine zs_iconst (pc := 28) (v := (-1 : Int32)) d_Schemas_addField_28 (by decide) ?_
    exact zs_iret (pc := 29) d_Schemas_addField_29 rfl (Nat.le_of_ble_eq_true rfl) (Nat.le_of_ble_eq_true rfl) rfl
  · refine zs_iload_n (pc := 8) (x := a1) d_Schemas_addField_8 rfl ?_
    refine zs_i2l (pc := 9) d_Schemas_addField_9 ?_
    refine zs_calls_rI (pc := 10) (av := [zL a1.toInt64]) (st := []) (d' := 0) (C' := 0) (S' := 0) d_Schemas_addField_10 kS_Schemas_30 (jm_Schema_isName (d := 0) (Nat.le_refl _) a1.toInt64 H) (by omega) (Nat.le_of_ble_eq_true rfl) (Nat.le_of_ble_eq_true rfl) rfl rfl (Nat.le_of_ble_eq_true rfl) fun y10 => ?_
    refine zs_if_eq (pc := 13) (tgt := 28) d_Schemas_addField_13 rfl (fun q13 => ?_) (fun q13 => ?_)
    · refine zs_iconst (pc := 28) (v := (-1 : Int32)) d_Schemas_addField_28 (by decide) ?_
      exact zs_iret (pc := 29) d_Schemas_addField_29 rfl (Nat.le_of_ble_eq_true rfl) (Nat.le_of_ble_eq_true rfl) rfl
    · refine zs_aload_n (pc := 16) (x := a0) d_Schemas_addField_16 rfl ?_
      refine zs_iload_n (pc := 17) (x := a1) d_Schemas_addField_17 rfl ?_
      refine zs_callv_rI (pc := 18) (av := [zI a1]) (st := []) (d' := 0) (C' := 0) (S' := 0) d_Schemas_addField_18 kV_Schemas_34 z_okb (jm_Schemas_isPending (d := 0) (Nat.le_refl _) fu a0 a1 H) (by omega) (Nat.le_of_ble_eq_true rfl) (Nat.le_of_ble_eq_true rfl) rfl rfl (Nat.le_of_ble_eq_true rfl) fun y18 => ?_
      refine zs_if_ne (pc := 21) (tgt := 28) d_Schemas_addField_21 rfl (fun q21 => ?_) (fun q21 => ?_)
      · refine zs_iconst (pc := 28) (v := (-1 : Int32)) d_Schemas_addField_28 (by decide) ?_
        exact zs_iret (pc := 29) d_Schemas_addField_29 rfl (Nat.le_of_ble_eq_true rfl) (Nat.le_of_ble_eq_true rfl) rfl
      · refine zs_aload_n (pc := 24) (x := a2) d_Schemas_addField_24 rfl ?_
        refine zs_ifnonnull (pc := 25) (tgt := 30) d_Schemas_addField_25 rfl (fun q25 => ?_) (fun q25 => ?_)
        · refine zs_iload_n (pc := 30) (x := a3) d_Schemas_addField_30 rfl ?_
          refine zs_if_eq (pc := 31) (tgt := 45) d_Schemas_addField_31 rfl (fun q31 => ?_) (fun q31 => ?_)
          · exact jj_Schemas_addField_45 hd fu a0 a1 a2 a3 a4 H
          · refine zs_aload_n (pc := 34) (x := a2) d_Schemas_addField_34 rfl ?_
            refine zs_lload (pc := 35) (x := a4) d_Schemas_addField_35 rfl ?_
            refine zs_calls_rI (pc := 37) (av := [zR a2, zL a4]) (st := []) (d' := 21) (C' := 0) (S' := 0) d_Schemas_addField_37 kS_Schemas_38 (jm_Schema_isDefault 7 (d := 21) (by decide) a2 a4 H) (by omega) (Nat.le_of_ble_eq_true rfl) (Nat.le_of_ble_eq_true rfl) rfl rfl (Nat.le_of_ble_eq_true rfl) fun y37 => ?_
            refine zs_if_ne (pc := 40) (tgt := 45) d_Schemas_addField_40 rfl (fun q40 => ?_) (fun q40 => ?_)
            · exact jj_Schemas_addField_45 hd fu a0 a1 a2 a3 a4 H
            · refine zs_iconst (pc := 43) (v := (-1 : Int32)) d_Schemas_addField_43 (by decide) ?_
              exact zs_iret (pc := 44) d_Schemas_addField_44 rfl (Nat.le_of_ble_eq_true rfl) (Nat.le_of_ble_eq_true rfl) rfl
        · refine zs_iconst (pc := 28) (v := (-1 : Int32)) d_Schemas_addField_28 (by decide) ?_
          exact zs_iret (pc := 29) d_Schemas_addField_29 rfl (Nat.le_of_ble_eq_true rfl) (Nat.le_of_ble_eq_true rfl) rfl
def jF_Schemas_find (a0 : Option Nat) (a1 : Int32) (H : zH) : Option (Option Nat) :=
  (zok H a0 9).bind fun _ =>
  if a1 < 0 then (
    some none)
  else (
    (zgI H a0 9 2).bind fun v6 =>
    if v6 ≤ a1 then (
      some none)
    else (
      (zgR H a0 9 0).bind fun v13 =>
      (zaR H v13 3 a1).bind fun v17 =>
      some v17))
theorem jm_Schemas_find {E : zE} {d : Nat} (hd : 0 ≤ d) (a0 : Option Nat) (a1 : Int32) (H : zH) : z_MS E jM_Schemas_find d 0 0 (zrR H) [zR a0, zI a1] H (jF_Schemas_find a0 a1 H) := by
  refine zs_of (lv0 := [(0, zR a0), (1, zI a1)]) pn_Schemas (Nat.le_of_ble_eq_true rfl) rfl ?_
  unfold jF_Schemas_find
  refine zs_bind fun _ _ => ?_
  refine zs_iload_n (pc := 0) (x := a1) d_Schemas_find_0 rfl ?_
  refine zs_if_lt (pc := 1) (tgt := 21) d_Schemas_find_1 rfl (fun q1 => ?_) (fun q1 => ?_)
  · refine zs_null (pc := 21) d_Schemas_find_21 ?_
    exact zs_aret (pc := 22) d_Schemas_find_22 rfl (Nat.le_of_ble_eq_true rfl) (Nat.le_of_ble_eq_true rfl) rfl
  · refine zs_iload_n (pc := 4) (x := a1) d_Schemas_find_4 rfl ?_
    refine zs_aload_n (pc := 5) (x := a0) d_Schemas_find_5 rfl ?_
    refine zs_getI (pc := 6) d_Schemas_find_6 kF_Schemas_23 fun v6 => ?_
    refine zs_icmp_ge (pc := 9) (tgt := 21) d_Schemas_find_9 rfl (fun q9 => ?_) (fun q9 => ?_)
    · refine zs_null (pc := 21) d_Schemas_find_21 ?_
      exact zs_aret (pc := 22) d_Schemas_find_22 rfl (Nat.le_of_ble_eq_true rfl) (Nat.le_of_ble_eq_true rfl) rfl
    · refine zs_aload_n (pc := 12) (x := a0) d_Schemas_find_12 rfl ?_
      refine zs_getR (pc := 13) d_Schemas_find_13 kF_Schemas_13 fun v13 => ?_
      refine zs_iload_n (pc := 16) (x := a1) d_Schemas_find_16 rfl ?_
      refine zs_aald (t := 3) (pc := 17) d_Schemas_find_17 rfl fun v17 => ?_
      refine zs_goto (pc := 18) (tgt := 22) d_Schemas_find_18 rfl ?_
      exact zs_aret (pc := 22) d_Schemas_find_22 rfl (Nat.le_of_ble_eq_true rfl) (Nat.le_of_ble_eq_true rfl) rfl
def jF_ST_field (fu : Nat) (a0 : Option Nat) (a1 : Int32) (a2 : Int32) (a3 : Int32) (a4 : Int64) (H : zH) : Option (Int32 × zH) :=
  (zok H a0 0).bind fun _ =>
  (zgR H a0 0 0).bind fun v1 =>
  (zgR H a0 0 0).bind fun v6 =>
  (jF_Schemas_find v6 a2 H).bind fun y10 =>
  (jF_Schemas_addField fu v1 a1 y10 a3 a4 H).bind fun y16 =>
  some (y16.1, y16.2)
theorem jm_ST_field {E : zE} {d : Nat} (hd : 23 ≤ d) (fu : Nat) (a0 : Option Nat) (a1 : Int32) (a2 : Int32) (a3 : Int32) (a4 : Int64) (H : zH) : z_MS E jM_ST_field d 1 4 zwI [zR a0, zI a1, zI a2, zI a3, zL a4] H (jF_ST_field fu a0 a1 a2 a3 a4 H) := by
  refine zs_of (lv0 := [(0, zR a0), (1, zI a1), (2, zI a2), (3, zI a3), (4, zL a4)]) pn_ST (Nat.le_of_ble_eq_true rfl) rfl ?_
  unfold jF_ST_field
  refine zs_bind fun _ _ => ?_
  refine zs_aload_n (pc := 0) (x := a0) d_ST_field_0 rfl ?_
  refine zs_getR (pc := 1) d_ST_field_1 kF_ST_13 fun v1 => ?_
  refine zs_iload_n (pc := 4) (x := a1) d_ST_field_4 rfl ?_
  refine zs_aload_n (pc := 5) (x := a0) d_ST_field_5 rfl ?_
  refine zs_getR (pc := 6) d_ST_field_6 kF_ST_13 fun v6 => ?_
  refine zs_iload_n (pc := 9) (x := a2) d_ST_field_9 rfl ?_
  refine zs_callv_rR (pc := 10) (av := [zI a2]) (st := [zI a1, zR v1]) (d' := 0) (C' := 0) (S' := 0) d_ST_field_10 kV_ST_61 z_okb (jm_Schemas_find (d := 0) (Nat.le_refl _) v6 a2 H) (by omega) (Nat.le_of_ble_eq_true rfl) (Nat.le_of_ble_eq_true rfl) rfl rfl (Nat.le_of_ble_eq_true rfl) fun y10 => ?_
  refine zs_iload_n (pc := 13) (x := a3) d_ST_field_13 rfl ?_
  refine zs_lload (pc := 14) (x := a4) d_ST_field_14 rfl ?_
  refine zs_callv_wI (pc := 16) (av := [zI a1, zR y10, zI a3, zL a4]) (st := []) (d' := 22) (C' := 1) (S' := 4) d_ST_field_16 kV_ST_65 z_okb (jm_Schemas_addField (d := 22) (Nat.le_refl _) fu v1 a1 y10 a3 a4 H) (by omega) (Nat.le_of_ble_eq_true rfl) (Nat.le_of_ble_eq_true rfl) rfl rfl (Nat.le_of_ble_eq_true rfl) fun y16 => ?_
  exact zs_iret (pc := 19) d_ST_field_19 rfl (Nat.le_of_ble_eq_true rfl) (Nat.le_of_ble_eq_true rfl) rfl
def jL_Schema_depthAbove_27 (fu : Nat) (H : zH) : Nat → Option Nat → Int32 → Int32 → Option Int32
  | 0, _, _, _ => none
  | g + 1, a2, a3, a4 =>
    (zle H a2 4).bind fun v30 =>
    if v30 ≤ a4 then (
      some (a3 + (1 : Int32)))
    else (
      (zaR H a2 4 a4).bind fun v38 =>
      (zgR H v38 4 1).bind fun v39 =>
      (zgI H v39 8 7).bind fun v42 =>
      jL_Schema_depthAbove_27 fu H g a2 (if a3 < v42 then v42 else a3) (a4 + (1 : Int32)))
def jJ_Schema_depthAbove_11 (fu : Nat) (H : zH) (a1 : Option Nat) (a2 : Option Nat) (a3 : Int32) : Option Int32 :=
  if a1 = none then (
    jL_Schema_depthAbove_27 fu H fu a2 a3 (0 : Int32))
  else (
    (zgI H a1 8 7).bind fun v17 =>
    jL_Schema_depthAbove_27 fu H fu a2 (if a3 < v17 then v17 else a3) (0 : Int32))
def jF_Schema_depthAbove (fu : Nat) (a0 : Option Nat) (a1 : Option Nat) (a2 : Option Nat) (H : zH) : Option Int32 :=
  if a0 = none then (
    jJ_Schema_depthAbove_11 fu H a1 a2 (0 : Int32))
  else (
    (zgI H a0 8 7).bind fun v7 =>
    jJ_Schema_depthAbove_11 fu H a1 a2 v7)
theorem jl_Schema_depthAbove_27 {E : zE} {d : Nat} (hd : 1 ≤ d) (fu : Nat) (H : zH) : ∀ (g : Nat), ∀ (a2 : Option Nat) (a3 : Int32) (a4 : Int32), z_S E jM_Schema_depthAbove d 0 0 (zrI H) 27 [(2, zR a2), (3, zI a3), (4, zI a4)] [] H 0 0 (jL_Schema_depthAbove_27 fu H g a2 a3 a4) := by
  intro g
  induction g with
  | zero => intros; exact zs_none
  | succ g ih =>
    intro a2 a3 a4
    rw [jL_Schema_depthAbove_27]
    refine zs_iload (pc := 27) (x := a4) d_Schema_depthAbove_27 rfl ?_
    refine zs_aload_n (pc := 29) (x := a2) d_Schema_depthAbove_29 rfl ?_
    refine zs_alen (t := 4) (pc := 30) d_Schema_depthAbove_30 rfl fun v30 => ?_
    refine zs_icmp_ge (pc := 31) (tgt := 55) d_Schema_depthAbove_31 rfl (fun q31 => ?_) (fun q31 => ?_)
    · refine zs_iload_n (pc := 55) (x := a3) d_Schema_depthAbove_55 rfl ?_
      refine zs_iconst (pc := 56) (v := (1 : Int32)) d_Schema_depthAbove_56 (by decide) ?_
      refine zs_iadd (pc := 57) d_Schema_depthAbove_57 ?_
      exact zs_iret (pc := 58) d_Schema_depthAbove_58 rfl (Nat.le_of_ble_eq_true rfl) (Nat.le_of_ble_eq_true rfl) rfl
    · refine zs_iload_n (pc := 34) (x := a3) d_Schema_depthAbove_34 rfl ?_
      refine zs_aload_n (pc := 35) (x := a2) d_Schema_depthAbove_35 rfl ?_
      refine zs_iload (pc := 36) (x := a4) d_Schema_depthAbove_36 rfl ?_
      refine zs_aald (t := 4) (pc := 38) d_Schema_depthAbove_38 rfl fun v38 => ?_
      refine zs_getR (pc := 39) d_Schema_depthAbove_39 kF_Schema_53 fun v39 => ?_
      refine zs_getI (pc := 42) d_Schema_depthAbove_42 kF_Schema_39 fun v42 => ?_
      refine zs_max (pc := 45) d_Schema_depthAbove_45 kX_Schema_47 z_mx2 z_mx3 z_mx4 (by omega) (Nat.le_of_ble_eq_true rfl) (Nat.le_of_ble_eq_true rfl) (Nat.le_of_ble_eq_true rfl) ?_
      refine zs_istore_n (pc := 48) (lv' := [(3, zI (if a3 < v42 then v42 else a3)), (2, zR a2), (4, zI a4)]) d_Schema_depthAbove_48 (Nat.le_of_ble_eq_true rfl) rfl ?_
      refine zs_iinc (pc := 49) (x := a4) (v := (a4 + (1 : Int32))) (lv' := [(4, zI (a4 + (1 : Int32))), (3, zI (if a3 < v42 then v42 else a3)), (2, zR a2)]) d_Schema_depthAbove_49 rfl rfl (Nat.le_of_ble_eq_true rfl) rfl ?_
      refine zs_goto (pc := 52) (tgt := 27) d_Schema_depthAbove_52 rfl ?_
      refine zs_sub (lv' := [(2, zR a2), (3, zI (if a3 < v42 then v42 else a3)), (4, zI (a4 + (1 : Int32)))]) [2, 1, 0] rfl ?_
      exact ih a2 (if a3 < v42 then v42 else a3) (a4 + (1 : Int32))
theorem jj_Schema_depthAbove_11 {E : zE} {d : Nat} (hd : 1 ≤ d) (fu : Nat) (H : zH) : ∀ (a1 : Option Nat) (a2 : Option Nat) (a3 : Int32), z_S E jM_Schema_depthAbove d 0 0 (zrI H) 11 [(1, zR a1), (2, zR a2), (3, zI a3)] [] H 0 0 (jJ_Schema_depthAbove_11 fu H a1 a2 a3) := by
  intro a1 a2 a3
  unfold jJ_Schema_depthAbove_11
  refine zs_aload_n (pc := 11) (x := a1) d_Schema_depthAbove_11 rfl ?_
  refine zs_ifnull (pc := 12) (tgt := 24) d_Schema_depthAbove_12 rfl (fun q12 => ?_) (fun q12 => ?_)
  · refine zs_iconst (pc := 24) (v := (0 : Int32)) d_Schema_depthAbove_24 (by decide) ?_
    refine zs_istore (pc := 25) (lv' := [(4, zI (0 : Int32)), (1, zR a1), (2, zR a2), (3, zI a3)]) d_Schema_depthAbove_25 (Nat.le_of_ble_eq_true rfl) rfl ?_
    refine zs_sub (lv' := [(2, zR a2), (3, zI a3), (4, zI (0 : Int32))]) [2, 3, 0] rfl ?_
    exact jl_Schema_depthAbove_27 hd fu H fu a2 a3 (0 : Int32)
  · refine zs_iload_n (pc := 15) (x := a3) d_Schema_depthAbove_15 rfl ?_
    refine zs_aload_n (pc := 16) (x := a1) d_Schema_depthAbove_16 rfl ?_
    refine zs_getI (pc := 17) d_Schema_depthAbove_17 kF_Schema_39 fun v17 => ?_
    refine zs_max (pc := 20) d_Schema_depthAbove_20 kX_Schema_47 z_mx2 z_mx3 z_mx4 (by omega) (Nat.le_of_ble_eq_true rfl) (Nat.le_of_ble_eq_true rfl) (Nat.le_of_ble_eq_true rfl) ?_
    refine zs_istore_n (pc := 23) (lv' := [(3, zI (if a3 < v17 then v17 else a3)), (1, zR a1), (2, zR a2)]) d_Schema_depthAbove_23 (Nat.le_of_ble_eq_true rfl) rfl ?_
    refine zs_iconst (pc := 24) (v := (0 : Int32)) d_Schema_depthAbove_24 (by decide) ?_
    refine zs_istore (pc := 25) (lv' := [(4, zI (0 : Int32)), (3, zI (if a3 < v17 then v17 else a3)), (1, zR a1), (2, zR a2)]) d_Schema_depthAbove_25 (Nat.le_of_ble_eq_true rfl) rfl ?_
    refine zs_sub (lv' := [(2, zR a2), (3, zI (if a3 < v17 then v17 else a3)), (4, zI (0 : Int32))]) [3, 1, 0] rfl ?_
    exact jl_Schema_depthAbove_27 hd fu H fu a2 (if a3 < v17 then v17 else a3) (0 : Int32)
theorem jm_Schema_depthAbove {E : zE} {d : Nat} (hd : 1 ≤ d) (fu : Nat) (a0 : Option Nat) (a1 : Option Nat) (a2 : Option Nat) (H : zH) : z_MS E jM_Schema_depthAbove d 0 0 (zrI H) [zR a0, zR a1, zR a2] H (jF_Schema_depthAbove fu a0 a1 a2 H) := by
  refine zs_of (lv0 := [(0, zR a0), (1, zR a1), (2, zR a2)]) pn_Schema (Nat.le_of_ble_eq_true rfl) rfl ?_
  unfold jF_Schema_depthAbove
  refine zs_iconst (pc := 0) (v := (0 : Int32)) d_Schema_depthAbove_0 (by decide) ?_
  refine zs_istore_n (pc := 1) (lv' := [(3, zI (0 : Int32)), (0, zR a0), (1, zR a1), (2, zR a2)]) d_Schema_depthAbove_1 (Nat.le_of_ble_eq_true rfl) rfl ?_
  refine zs_aload_n (pc := 2) (x := a0) d_Schema_depthAbove_2 rfl ?_
  refine zs_ifnull (pc := 3) (tgt := 11) d_Schema_depthAbove_3 rfl (fun q3 => ?_) (fun q3 => ?_)
  · refine zs_sub (lv' := [(1, zR a1), (2, zR a2), (3, zI (0 : Int32))]) [2, 3, 0] rfl ?_
    exact jj_Schema_depthAbove_11 hd fu H a1 a2 (0 : Int32)
  · refine zs_aload_n (pc := 6) (x := a0) d_Schema_depthAbove_6 rfl ?_
    refine zs_getI (pc := 7) d_Schema_depthAbove_7 kF_Schema_39 fun v7 => ?_
    refine zs_istore_n (pc := 10) (lv' := [(3, zI v7), (0, zR a0), (1, zR a1), (2, zR a2)]) d_Schema_depthAbove_10 (Nat.le_of_ble_eq_true rfl) rfl ?_
    refine zs_sub (lv' := [(1, zR a1), (2, zR a2), (3, zI v7)]) [2, 3, 0] rfl ?_
    exact jj_Schema_depthAbove_11 hd fu H a1 a2 v7
def jF_Schema_init (fu : Nat) (a0 : Nat) (a1 : Int32) (a2 : Int32) (a3 : Int32) (a4 : Int32) (a5 : Option Nat) (a6 : Option Nat) (a7 : Option Nat) (H : zH) : Option zH :=
  (zpV H (some a0) 8 0 (zI a1)).bind fun H6 =>
  (zpV H6 (some a0) 8 1 (zI a2)).bind fun H11 =>
  (zpV H11 (some a0) 8 2 (zI a3)).bind fun H16 =>
  (zpV H16 (some a0) 8 3 (zI a4)).bind fun H22 =>
  (zpV H22 (some a0) 8 4 (zR a5)).bind fun H28 =>
  (zpV H28 (some a0) 8 5 (zR a6)).bind fun H34 =>
  (zpV H34 (some a0) 8 6 (zR a7)).bind fun H40 =>
  (jF_Schema_depthAbove fu a5 a6 a7 H40).bind fun y50 =>
  (zpV H40 (some a0) 8 7 (zI y50)).bind fun H53 =>
  some H53
theorem jm_Schema_init {E : zE} {d : Nat} (hd : 2 ≤ d) (fu : Nat) (a0 : Nat) (a1 : Int32) (a2 : Int32) (a3 : Int32) (a4 : Int32) (a5 : Option Nat) (a6 : Option Nat) (a7 : Option Nat) (H : zH) : z_MS E jM_Schema_init d 0 0 zwV [zR (some a0), zI a1, zI a2, zI a3, zI a4, zR a5, zR a6, zR a7] H (jF_Schema_init fu a0 a1 a2 a3 a4 a5 a6 a7 H) := by
  refine zs_of (lv0 := [(0, zR (some a0)), (1, zI a1), (2, zI a2), (3, zI a3), (4, zI a4), (5, zR a5), (6, zR a6), (7, zR a7)]) pn_Schema (Nat.le_of_ble_eq_true rfl) rfl ?_
  unfold jF_Schema_init
  refine zs_aload_n (pc := 0) (x := (some a0)) d_Schema_init_0 rfl ?_
  refine zs_objInit (pc := 1) d_Schema_init_1 kO_Schema_3 z_oi2 z_oi3 (by omega) (Nat.le_of_ble_eq_true rfl) ?_
  refine zs_aload_n (pc := 4) (x := (some a0)) d_Schema_init_4 rfl ?_
  refine zs_iload_n (pc := 5) (x := a1) d_Schema_init_5 rfl ?_
  refine zs_putF (pc := 6) d_Schema_init_6 kP_Schema_9 rfl z_fitI fun H6 => ?_
  refine zs_aload_n (pc := 9) (x := (some a0)) d_Schema_init_9 rfl ?_
  refine zs_iload_n (pc := 10) (x := a2) d_Schema_init_10 rfl ?_
  refine zs_putF (pc := 11) d_Schema_init_11 kP_Schema_15 rfl z_fitI fun H11 => ?_
  refine zs_aload_n (pc := 14) (x := (some a0)) d_Schema_init_14 rfl ?_
  refine zs_iload_n (pc := 15) (x := a3) d_Schema_init_15 rfl ?_
  refine zs_putF (pc := 16) d_Schema_init_16 kP_Schema_18 rfl z_fitI fun H16 => ?_
  refine zs_aload_n (pc := 19) (x := (some a0)) d_Schema_init_19 rfl ?_
  refine zs_iload (pc := 20) (x := a4) d_Schema_init_20 rfl ?_
  refine zs_putF (pc := 22) d_Schema_init_22 kP_Schema_21 rfl z_fitI fun H22 => ?_
  refine zs_aload_n (pc := 25) (x := (some a0)) d_Schema_init_25 rfl ?_
  refine zs_aload (pc := 26) (x := a5) d_Schema_init_26 rfl ?_
  refine zs_putF (pc := 28) d_Schema_init_28 kP_Schema_24 rfl z_fitR fun H28 => ?_
  refine zs_aload_n (pc := 31) (x := (some a0)) d_Schema_init_31 rfl ?_
  refine zs_aload (pc := 32) (x := a6) d_Schema_init_32 rfl ?_
  refine zs_putF (pc := 34) d_Schema_init_34 kP_Schema_28 rfl z_fitR fun H34 => ?_
  refine zs_aload_n (pc := 37) (x := (some a0)) d_Schema_init_37 rfl ?_
  refine zs_aload (pc := 38) (x := a7) d_Schema_init_38 rfl ?_
  refine zs_putF (pc := 40) d_Schema_init_40 kP_Schema_31 rfl z_fitA fun H40 => ?_
  refine zs_aload_n (pc := 43) (x := (some a0)) d_Schema_init_43 rfl ?_
  refine zs_aload (pc := 44) (x := a5) d_Schema_init_44 rfl ?_
  refine zs_aload (pc := 46) (x := a6) d_Schema_init_46 rfl ?_
  refine zs_aload (pc := 48) (x := a7) d_Schema_init_48 rfl ?_
  refine zs_calls_rI (pc := 50) (av := [zR a5, zR a6, zR a7]) (st := [zR (some a0)]) (d' := 1) (C' := 0) (S' := 0) d_Schema_init_50 kS_Schema_35 (jm_Schema_depthAbove (d := 1) (Nat.le_refl _) fu a5 a6 a7 H40) (by omega) (Nat.le_of_ble_eq_true rfl) (Nat.le_of_ble_eq_true rfl) rfl rfl (Nat.le_of_ble_eq_true rfl) fun y50 => ?_
  refine zs_putF (pc := 53) d_Schema_init_53 kP_Schema_39 rfl z_fitI fun H53 => ?_
  exact zs_vret (pc := 56) d_Schema_init_56 rfl (Nat.le_of_ble_eq_true rfl) (Nat.le_of_ble_eq_true rfl) rfl
def jF_Schema_ofPlain (fu : Nat) (a0 : Int32) (H : zH) : Option (Option Nat × zH) :=
  (zno H (.inr (8, [zI 0, zI 0, zI 0, zI 0, zR none, zR none, zR none, zI 0]))).bind fun H0 =>
  (zno H0 (.inl (4, 0, (.inr (.inr fun _ => none))))).bind fun H11 =>
  (jF_Schema_init fu H.2 a0 (0 : Int32) (0 : Int32) (-1 : Int32) none none (some H0.2) H11).bind fun y14 =>
  some ((some H.2), y14)
theorem jm_Schema_ofPlain {E : zE} {d : Nat} (hd : 3 ≤ d) (fu : Nat) (a0 : Int32) (H : zH) : z_MS E jM_Schema_ofPlain d 2 8 zwR [zI a0] H (jF_Schema_ofPlain fu a0 H) := by
  refine zs_of (lv0 := [(0, zI a0)]) pn_Schema (Nat.le_of_ble_eq_true rfl) rfl ?_
  unfold jF_Schema_ofPlain
  refine zs_new (pc := 0) d_Schema_ofPlain_0 kN_Schema_10 (Nat.le_of_ble_eq_true rfl) (Nat.le_of_ble_eq_true rfl) fun H0 => ?_
  refine zs_dup (pc := 3) d_Schema_ofPlain_3 rfl ?_
  refine zs_iload_n (pc := 4) (x := a0) d_Schema_ofPlain_4 rfl ?_
  refine zs_iconst (pc := 5) (v := (0 : Int32)) d_Schema_ofPlain_5 (by decide) ?_
  refine zs_iconst (pc := 6) (v := (0 : Int32)) d_Schema_ofPlain_6 (by decide) ?_
  refine zs_iconst (pc := 7) (v := (-1 : Int32)) d_Schema_ofPlain_7 (by decide) ?_
  refine zs_null (pc := 8) d_Schema_ofPlain_8 ?_
  refine zs_null (pc := 9) d_Schema_ofPlain_9 ?_
  refine zs_iconst (pc := 10) (v := (0 : Int32)) d_Schema_ofPlain_10 (by decide) ?_
  refine zs_anew (t := 4) (cap := 0) (pc := 11) d_Schema_ofPlain_11 kA_Schema_42 z_ao4 rfl (by decide) (by decide) (Nat.le_of_ble_eq_true rfl) (Nat.le_of_ble_eq_true rfl) fun H11 => ?_
  refine zs_calli (pc := 14) (av := [zI a0, zI (0 : Int32), zI (0 : Int32), zI (-1 : Int32), zR none, zR none, zR (some H0.2)]) (st := [zR (some H.2)]) (d' := 2) (C' := 0) (S' := 0) d_Schema_ofPlain_14 kI_Schema_44 (jm_Schema_init (d := 2) (Nat.le_refl _) fu H.2 a0 (0 : Int32) (0 : Int32) (-1 : Int32) none none (some H0.2) H11) (by omega) (Nat.le_of_ble_eq_true rfl) (Nat.le_of_ble_eq_true rfl) rfl rfl (Nat.le_of_ble_eq_true rfl) fun y14 => ?_
  exact zs_aret (pc := 17) d_Schema_ofPlain_17 rfl (Nat.le_of_ble_eq_true rfl) (Nat.le_of_ble_eq_true rfl) rfl
def jF_Schema_ofArray (fu : Nat) (a0 : Option Nat) (H : zH) : Option (Option Nat × zH) :=
  (zno H (.inr (8, [zI 0, zI 0, zI 0, zI 0, zR none, zR none, zR none, zI 0]))).bind fun H0 =>
  (zno H0 (.inl (4, 0, (.inr (.inr fun _ => none))))).bind fun H11 =>
  (jF_Schema_init fu H.2 (5 : Int32) (0 : Int32) (0 : Int32) (-1 : Int32) a0 none (some H0.2) H11).bind fun y14 =>
  some ((some H.2), y14)
theorem jm_Schema_ofArray {E : zE} {d : Nat} (hd : 3 ≤ d) (fu : Nat) (a0 : Option Nat) (H : zH) : z_MS E jM_Schema_ofArray d 2 8 zwR [zR a0] H (jF_Schema_ofArray fu a0 H) := by
  refine zs_of (lv0 := [(0, zR a0)]) pn_Schema (Nat.le_of_ble_eq_true rfl) rfl ?_
  unfold jF_Schema_ofArray
  refine zs_new (pc := 0) d_Schema_ofArray_0 kN_Schema_10 (Nat.le_of_ble_eq_true rfl) (Nat.le_of_ble_eq_true rfl) fun H0 => ?_
  refine zs_dup (pc := 3) d_Schema_ofArray_3 rfl ?_
  refine zs_iconst (pc := 4) (v := (5 : Int32)) d_Schema_ofArray_4 (by decide) ?_
  refine zs_iconst (pc := 5) (v := (0 : Int32)) d_Schema_ofArray_5 (by decide) ?_
  refine zs_iconst (pc := 6) (v := (0 : Int32)) d_Schema_ofArray_6 (by decide) ?_
  refine zs_iconst (pc := 7) (v := (-1 : Int32)) d_Schema_ofArray_7 (by decide) ?_
  refine zs_aload_n (pc := 8) (x := a0) d_Schema_ofArray_8 rfl ?_
  refine zs_null (pc := 9) d_Schema_ofArray_9 ?_
  refine zs_iconst (pc := 10) (v := (0 : Int32)) d_Schema_ofArray_10 (by decide) ?_
  refine zs_anew (t := 4) (cap := 0) (pc := 11) d_Schema_ofArray_11 kA_Schema_42 z_ao4 rfl (by decide) (by decide) (Nat.le_of_ble_eq_true rfl) (Nat.le_of_ble_eq_true rfl) fun H11 => ?_
  refine zs_calli (pc := 14) (av := [zI (5 : Int32), zI (0 : Int32), zI (0 : Int32), zI (-1 : Int32), zR a0, zR none, zR (some H0.2)]) (st := [zR (some H.2)]) (d' := 2) (C' := 0) (S' := 0) d_Schema_ofArray_14 kI_Schema_44 (jm_Schema_init (d := 2) (Nat.le_refl _) fu H.2 (5 : Int32) (0 : Int32) (0 : Int32) (-1 : Int32) a0 none (some H0.2) H11) (by omega) (Nat.le_of_ble_eq_true rfl) (Nat.le_of_ble_eq_true rfl) rfl rfl (Nat.le_of_ble_eq_true rfl) fun y14 => ?_
  exact zs_aret (pc := 17) d_Schema_ofArray_17 rfl (Nat.le_of_ble_eq_true rfl) (Nat.le_of_ble_eq_true rfl) rfl
def jF_Schemas_buildArray (fu : Nat) (a0 : Option Nat) (H : zH) : Option (Option Nat × zH) :=
  if a0 = none then (
    some (none, H))
  else (
    (jF_Schema_ofArray fu a0 H).bind fun y9 =>
    some (y9.1, y9.2))
theorem jm_Schemas_buildArray {E : zE} {d : Nat} (hd : 4 ≤ d) (fu : Nat) (a0 : Option Nat) (H : zH) : z_MS E jM_Schemas_buildArray d 2 8 zwR [zR a0] H (jF_Schemas_buildArray fu a0 H) := by
  refine zs_of (lv0 := [(0, zR a0)]) pn_Schemas (Nat.le_of_ble_eq_true rfl) rfl ?_
  unfold jF_Schemas_buildArray
  refine zs_aload_n (pc := 0) (x := a0) d_Schemas_buildArray_0 rfl ?_
  refine zs_ifnonnull (pc := 1) (tgt := 8) d_Schemas_buildArray_1 rfl (fun q1 => ?_) (fun q1 => ?_)
  · refine zs_aload_n (pc := 8) (x := a0) d_Schemas_buildArray_8 rfl ?_
    refine zs_calls_wR (pc := 9) (av := [zR a0]) (st := []) (d' := 3) (C' := 2) (S' := 8) d_Schemas_buildArray_9 kS_Schemas_83 (jm_Schema_ofArray (d := 3) (Nat.le_refl _) fu a0 H) (by omega) (Nat.le_of_ble_eq_true rfl) (Nat.le_of_ble_eq_true rfl) rfl rfl (Nat.le_of_ble_eq_true rfl) fun y9 => ?_
    exact zs_aret (pc := 12) d_Schemas_buildArray_12 rfl (Nat.le_of_ble_eq_true rfl) (Nat.le_of_ble_eq_true rfl) rfl
  · refine zs_null (pc := 4) d_Schemas_buildArray_4 ?_
    refine zs_goto (pc := 5) (tgt := 12) d_Schemas_buildArray_5 rfl ?_
    exact zs_aret (pc := 12) d_Schemas_buildArray_12 rfl (Nat.le_of_ble_eq_true rfl) (Nat.le_of_ble_eq_true rfl) rfl
def jF_Schema_ofEnum (fu : Nat) (a0 : Int32) (a1 : Int32) (a2 : Int32) (H : zH) : Option (Option Nat × zH) :=
  (zno H (.inr (8, [zI 0, zI 0, zI 0, zI 0, zR none, zR none, zR none, zI 0]))).bind fun H0 =>
  (zno H0 (.inl (4, 0, (.inr (.inr fun _ => none))))).bind fun H11 =>
  (jF_Schema_init fu H.2 (4 : Int32) a0 a1 a2 none none (some H0.2) H11).bind fun y14 =>
  some ((some H.2), y14)
theorem jm_Schema_ofEnum {E : zE} {d : Nat} (hd : 3 ≤ d) (fu : Nat) (a0 : Int32) (a1 : Int32) (a2 : Int32) (H : zH) : z_MS E jM_Schema_ofEnum d 2 8 zwR [zI a0, zI a1, zI a2] H (jF_Schema_ofEnum fu a0 a1 a2 H) := by
  refine zs_of (lv0 := [(0, zI a0), (1, zI a1), (2, zI a2)]) pn_Schema (Nat.le_of_ble_eq_true rfl) rfl ?_
  unfold jF_Schema_ofEnum
  refine zs_new (pc := 0) d_Schema_ofEnum_0 kN_Schema_10 (Nat.le_of_ble_eq_true rfl) (Nat.le_of_ble_eq_true rfl) fun H0 => ?_
  refine zs_dup (pc := 3) d_Schema_ofEnum_3 rfl ?_
  refine zs_iconst (pc := 4) (v := (4 : Int32)) d_Schema_ofEnum_4 (by decide) ?_
  refine zs_iload_n (pc := 5) (x := a0) d_Schema_ofEnum_5 rfl ?_
  refine zs_iload_n (pc := 6) (x := a1) d_Schema_ofEnum_6 rfl ?_
  refine zs_iload_n (pc := 7) (x := a2) d_Schema_ofEnum_7 rfl ?_
  refine zs_null (pc := 8) d_Schema_ofEnum_8 ?_
  refine zs_null (pc := 9) d_Schema_ofEnum_9 ?_
  refine zs_iconst (pc := 10) (v := (0 : Int32)) d_Schema_ofEnum_10 (by decide) ?_
  refine zs_anew (t := 4) (cap := 0) (pc := 11) d_Schema_ofEnum_11 kA_Schema_42 z_ao4 rfl (by decide) (by decide) (Nat.le_of_ble_eq_true rfl) (Nat.le_of_ble_eq_true rfl) fun H11 => ?_
  refine zs_calli (pc := 14) (av := [zI (4 : Int32), zI a0, zI a1, zI a2, zR none, zR none, zR (some H0.2)]) (st := [zR (some H.2)]) (d' := 2) (C' := 0) (S' := 0) d_Schema_ofEnum_14 kI_Schema_44 (jm_Schema_init (d := 2) (Nat.le_refl _) fu H.2 (4 : Int32) a0 a1 a2 none none (some H0.2) H11) (by omega) (Nat.le_of_ble_eq_true rfl) (Nat.le_of_ble_eq_true rfl) rfl rfl (Nat.le_of_ble_eq_true rfl) fun y14 => ?_
  exact zs_aret (pc := 17) d_Schema_ofEnum_17 rfl (Nat.le_of_ble_eq_true rfl) (Nat.le_of_ble_eq_true rfl) rfl
def jJ_Schemas_buildEnum_43 (fu : Nat) (a3 : Option Nat) (H : zH) : Option (Option Nat × zH) :=
  some (a3, H)
def jF_Schemas_buildEnum (fu : Nat) (a0 : Int32) (a1 : Int32) (a2 : Int32) (H : zH) : Option (Option Nat × zH) :=
  (jF_Schema_isName a0.toInt64 H).bind fun y2 =>
  if y2 = 0 then (
    some (none, H))
  else (
    if a1 < (1 : Int32) then (
      some (none, H))
    else (
      if a1 ≤ (255 : Int32) then (
        (jF_Schema_ofEnum fu a0 a1 a2 H).bind fun y25 =>
        if a2 = (-1 : Int32) then (
          jJ_Schemas_buildEnum_43 fu y25.1 y25.2)
        else (
          (jF_Schema_hasSymbol y25.1 a2.toInt64 y25.2).bind fun y37 =>
          if y37 = 0 then (
            some (none, y25.2))
          else (
            jJ_Schemas_buildEnum_43 fu y25.1 y25.2)))
      else (
        some (none, H))))
theorem jj_Schemas_buildEnum_43 {E : zE} {d : Nat} (hd : 4 ≤ d) (fu : Nat) : ∀ (a3 : Option Nat) (H : zH), z_S E jM_Schemas_buildEnum d 2 8 zwR 43 [(3, zR a3)] [] H 2 8 (jJ_Schemas_buildEnum_43 fu a3 H) := by
  intro a3 H
  unfold jJ_Schemas_buildEnum_43
  refine zs_aload_n (pc := 43) (x := a3) d_Schemas_buildEnum_43 rfl ?_
  refine zs_goto (pc := 44) (tgt := 48) d_Schemas_buildEnum_44 rfl ?_
  exact zs_aret (pc := 48) d_Schemas_buildEnum_48 rfl (Nat.le_of_ble_eq_true rfl) (Nat.le_of_ble_eq_true rfl) rfl
theorem jm_Schemas_buildEnum {E : zE} {d : Nat} (hd : 4 ≤ d) (fu : Nat) (a0 : Int32) (a1 : Int32) (a2 : Int32) (H : zH) : z_MS E jM_Schemas_buildEnum d 2 8 zwR [zI a0, zI a1, zI a2] H (jF_Schemas_buildEnum fu a0 a1 a2 H) := by
  refine zs_of (lv0 := [(0, zI a0), (1, zI a1), (2, zI a2)]) pn_Schemas (Nat.le_of_ble_eq_true rfl) rfl ?_
  unfold jF_Schemas_buildEnum
  refine zs_iload_n (pc := 0) (x := a0) d_Schemas_buildEnum_0 rfl ?_
  refine zs_i2l (pc := 1) d_Schemas_buildEnum_1 ?_
  refine zs_calls_rI (pc := 2) (av := [zL a0.toInt64]) (st := []) (d' := 0) (C' := 0) (S' := 0) d_Schemas_buildEnum_2 kS_Schemas_30 (jm_Schema_isName (d := 0) (Nat.le_refl _) a0.toInt64 H) (by omega) (Nat.le_of_ble_eq_true rfl) (Nat.le_of_ble_eq_true rfl) rfl rfl (Nat.le_of_ble_eq_true rfl) fun y2 => ?_
  refine zs_if_eq (pc := 5) (tgt := 20) d_Schemas_buildEnum_5 rfl (fun q5 => ?_) (fun q5 => ?_)
  · refine zs_null (pc := 20) d_Schemas_buildEnum_20 ?_
    exact zs_aret (pc := 21) d_Schemas_buildEnum_21 rfl (Nat.le_of_ble_eq_true rfl) (Nat.le_of_ble_eq_true rfl) rfl
  · refine zs_iload_n (pc := 8) (x := a1) d_Schemas_buildEnum_8 rfl ?_
    refine zs_iconst (pc := 9) (v := (1 : Int32)) d_Schemas_buildEnum_9 (by decide) ?_
    refine zs_icmp_lt (pc := 10) (tgt := 20) d_Schemas_buildEnum_10 rfl (fun q10 => ?_) (fun q10 => ?_)
    · refine zs_null (pc := 20) d_Schemas_buildEnum_20 ?_
      exact zs_aret (pc := 21) d_Schemas_buildEnum_21 rfl (Nat.le_of_ble_eq_true rfl) (Nat.le_of_ble_eq_true rfl) rfl
    · refine zs_iload_n (pc := 13) (x := a1) d_Schemas_buildEnum_13 rfl ?_
      refine zs_sipush (pc := 14) (v := (255 : Int32)) d_Schemas_buildEnum_14 (by decide) ?_
      refine zs_icmp_le (pc := 17) (tgt := 22) d_Schemas_buildEnum_17 rfl (fun q17 => ?_) (fun q17 => ?_)
      · refine zs_iload_n (pc := 22) (x := a0) d_Schemas_buildEnum_22 rfl ?_
        refine zs_iload_n (pc := 23) (x := a1) d_Schemas_buildEnum_23 rfl ?_
        refine zs_iload_n (pc := 24) (x := a2) d_Schemas_buildEnum_24 rfl ?_
        refine zs_calls_wR (pc := 25) (av := [zI a0, zI a1, zI a2]) (st := []) (d' := 3) (C' := 2) (S' := 8) d_Schemas_buildEnum_25 kS_Schemas_77 (jm_Schema_ofEnum (d := 3) (Nat.le_refl _) fu a0 a1 a2 H) (by omega) (Nat.le_of_ble_eq_true rfl) (Nat.le_of_ble_eq_true rfl) rfl rfl (Nat.le_of_ble_eq_true rfl) fun y25 => ?_
        refine zs_astore_n (pc := 28) (lv' := [(3, zR y25.1), (0, zI a0), (1, zI a1), (2, zI a2)]) d_Schemas_buildEnum_28 (Nat.le_of_ble_eq_true rfl) rfl ?_
        refine zs_iload_n (pc := 29) (x := a2) d_Schemas_buildEnum_29 rfl ?_
        refine zs_iconst (pc := 30) (v := (-1 : Int32)) d_Schemas_buildEnum_30 (by decide) ?_
        refine zs_icmp_eq (pc := 31) (tgt := 43) d_Schemas_buildEnum_31 rfl (fun q31 => ?_) (fun q31 => ?_)
        · refine zs_sub (lv' := [(3, zR y25.1)]) [0] rfl ?_
          exact jj_Schemas_buildEnum_43 hd fu y25.1 y25.2
        · refine zs_aload_n (pc := 34) (x := y25.1) d_Schemas_buildEnum_34 rfl ?_
          refine zs_iload_n (pc := 35) (x := a2) d_Schemas_buildEnum_35 rfl ?_
          refine zs_i2l (pc := 36) d_Schemas_buildEnum_36 ?_
          refine zs_callv_rI (pc := 37) (av := [zL a2.toInt64]) (st := []) (d' := 1) (C' := 0) (S' := 0) d_Schemas_buildEnum_37 kV_Schemas_80 z_okb (jm_Schema_hasSymbol (d := 1) (Nat.le_refl _) y25.1 a2.toInt64 y25.2) (by omega) (Nat.le_of_ble_eq_true rfl) (Nat.le_of_ble_eq_true rfl) rfl rfl (Nat.le_of_ble_eq_true rfl) fun y37 => ?_
          refine zs_if_eq (pc := 40) (tgt := 47) d_Schemas_buildEnum_40 rfl (fun q40 => ?_) (fun q40 => ?_)
          · refine zs_null (pc := 47) d_Schemas_buildEnum_47 ?_
            exact zs_aret (pc := 48) d_Schemas_buildEnum_48 rfl (Nat.le_of_ble_eq_true rfl) (Nat.le_of_ble_eq_true rfl) rfl
          · refine zs_sub (lv' := [(3, zR y25.1)]) [0] rfl ?_
            exact jj_Schemas_buildEnum_43 hd fu y25.1 y25.2
      · refine zs_null (pc := 20) d_Schemas_buildEnum_20 ?_
        exact zs_aret (pc := 21) d_Schemas_buildEnum_21 rfl (Nat.le_of_ble_eq_true rfl) (Nat.le_of_ble_eq_true rfl) rfl
def jF_Schema_ofRecord (fu : Nat) (a0 : Int32) (a1 : Option Nat) (H : zH) : Option (Option Nat × zH) :=
  (zno H (.inr (8, [zI 0, zI 0, zI 0, zI 0, zR none, zR none, zR none, zI 0]))).bind fun H0 =>
  (jF_Schema_init fu H.2 (7 : Int32) a0 (0 : Int32) (-1 : Int32) none none a1 H0).bind fun y12 =>
  some ((some H.2), y12)
theorem jm_Schema_ofRecord {E : zE} {d : Nat} (hd : 3 ≤ d) (fu : Nat) (a0 : Int32) (a1 : Option Nat) (H : zH) : z_MS E jM_Schema_ofRecord d 1 8 zwR [zI a0, zR a1] H (jF_Schema_ofRecord fu a0 a1 H) := by
  refine zs_of (lv0 := [(0, zI a0), (1, zR a1)]) pn_Schema (Nat.le_of_ble_eq_true rfl) rfl ?_
  unfold jF_Schema_ofRecord
  refine zs_new (pc := 0) d_Schema_ofRecord_0 kN_Schema_10 (Nat.le_of_ble_eq_true rfl) (Nat.le_of_ble_eq_true rfl) fun H0 => ?_
  refine zs_dup (pc := 3) d_Schema_ofRecord_3 rfl ?_
  refine zs_bipush (pc := 4) (v := (7 : Int32)) d_Schema_ofRecord_4 (by decide) ?_
  refine zs_iload_n (pc := 6) (x := a0) d_Schema_ofRecord_6 rfl ?_
  refine zs_iconst (pc := 7) (v := (0 : Int32)) d_Schema_ofRecord_7 (by decide) ?_
  refine zs_iconst (pc := 8) (v := (-1 : Int32)) d_Schema_ofRecord_8 (by decide) ?_
  refine zs_null (pc := 9) d_Schema_ofRecord_9 ?_
  refine zs_null (pc := 10) d_Schema_ofRecord_10 ?_
  refine zs_aload_n (pc := 11) (x := a1) d_Schema_ofRecord_11 rfl ?_
  refine zs_calli (pc := 12) (av := [zI (7 : Int32), zI a0, zI (0 : Int32), zI (-1 : Int32), zR none, zR none, zR a1]) (st := [zR (some H.2)]) (d' := 2) (C' := 0) (S' := 0) d_Schema_ofRecord_12 kI_Schema_44 (jm_Schema_init (d := 2) (Nat.le_refl _) fu H.2 (7 : Int32) a0 (0 : Int32) (-1 : Int32) none none a1 H0) (by omega) (Nat.le_of_ble_eq_true rfl) (Nat.le_of_ble_eq_true rfl) rfl rfl (Nat.le_of_ble_eq_true rfl) fun y12 => ?_
  exact zs_aret (pc := 15) d_Schema_ofRecord_15 rfl (Nat.le_of_ble_eq_true rfl) (Nat.le_of_ble_eq_true rfl) rfl
def jL_Schemas_buildRecord_20 (fu : Nat) : Nat → Option Nat → Int32 → Option Nat → Int32 → zH → Option (Option Nat × zH)
  | 0, _, _, _, _, _ => none
  | g + 1, a0, a1, a2, a3, H =>
    (zgI H a0 9 3).bind fun v22 =>
    if v22 ≤ a3 then (
      (jF_Schema_ofRecord fu a1 a2 H).bind fun y45 =>
      some (y45.1, y45.2))
    else (
      (zgR H a0 9 1).bind fun v31 =>
      (zaR H v31 4 a3).bind fun v35 =>
      (zsR H a2 4 a3 4 v35).bind fun H36 =>
      jL_Schemas_buildRecord_20 fu g a0 a1 a2 (a3 + (1 : Int32)) H36)
def jF_Schemas_buildRecord (fu : Nat) (a0 : Option Nat) (a1 : Int32) (H : zH) : Option (Option Nat × zH) :=
  (zok H a0 9).bind fun _ =>
  (jF_Schema_isName a1.toInt64 H).bind fun y2 =>
  if y2 = 0 then (
    some (none, H))
  else (
    (zgI H a0 9 3).bind fun v11 =>
    (znc v11 3).bind fun n14 =>
    (zno H (.inl (4, n14, (.inr (.inr fun _ => none))))).bind fun H14 =>
    jL_Schemas_buildRecord_20 fu fu a0 a1 (some H.2) (0 : Int32) H14)
theorem jl_Schemas_buildRecord_20 {E : zE} {d : Nat} (hd : 4 ≤ d) (fu : Nat) : ∀ (g : Nat), ∀ (a0 : Option Nat) (a1 : Int32) (a2 : Option Nat) (a3 : Int32) (H : zH), z_S E jM_Schemas_buildRecord d 2 11 zwR 20 [(0, zR a0), (1, zI a1), (2, zR a2), (3, zI a3)] [] H 1 3 (jL_Schemas_buildRecord_20 fu g a0 a1 a2 a3 H) := by
  intro g
  induction g with
  | zero => intros; exact zs_none
  | succ g ih =>
    intro a0 a1 a2 a3 H
    rw [jL_Schemas_buildRecord_20]
    refine zs_iload_n (pc := 20) (x := a3) d_Schemas_buildRecord_20 rfl ?_
    refine zs_aload_n (pc := 21) (x := a0) d_Schemas_buildRecord_21 rfl ?_
    refine zs_getI (pc := 22) d_Schemas_buildRecord_22 kF_Schemas_27 fun v22 => ?_
    refine zs_icmp_ge (pc := 25) (tgt := 43) d_Schemas_buildRecord_25 rfl (fun q25 => ?_) (fun q25 => ?_)
    · refine zs_iload_n (pc := 43) (x := a1) d_Schemas_buildRecord_43 rfl ?_
      refine zs_aload_n (pc := 44) (x := a2) d_Schemas_buildRecord_44 rfl ?_
      refine zs_calls_wR (pc := 45) (av := [zI a1, zR a2]) (st := []) (d' := 3) (C' := 1) (S' := 8) d_Schemas_buildRecord_45 kS_Schemas_97 (jm_Schema_ofRecord (d := 3) (Nat.le_refl _) fu a1 a2 H) (by omega) (Nat.le_of_ble_eq_true rfl) (Nat.le_of_ble_eq_true rfl) rfl rfl (Nat.le_of_ble_eq_true rfl) fun y45 => ?_
      exact zs_aret (pc := 48) d_Schemas_buildRecord_48 rfl (Nat.le_of_ble_eq_true rfl) (Nat.le_of_ble_eq_true rfl) rfl
    · refine zs_aload_n (pc := 28) (x := a2) d_Schemas_buildRecord_28 rfl ?_
      refine zs_iload_n (pc := 29) (x := a3) d_Schemas_buildRecord_29 rfl ?_
      refine zs_aload_n (pc := 30) (x := a0) d_Schemas_buildRecord_30 rfl ?_
      refine zs_getR (pc := 31) d_Schemas_buildRecord_31 kF_Schemas_19 fun v31 => ?_
      refine zs_iload_n (pc := 34) (x := a3) d_Schemas_buildRecord_34 rfl ?_
      refine zs_aald (t := 4) (pc := 35) d_Schemas_buildRecord_35 rfl fun v35 => ?_
      refine zs_aast (t := 4) (ci := 4) (pc := 36) d_Schemas_buildRecord_36 rfl rfl fun H36 => ?_
      refine zs_iinc (pc := 37) (x := a3) (v := (a3 + (1 : Int32))) (lv' := [(3, zI (a3 + (1 : Int32))), (0, zR a0), (1, zI a1), (2, zR a2)]) d_Schemas_buildRecord_37 rfl rfl (Nat.le_of_ble_eq_true rfl) rfl ?_
      refine zs_goto (pc := 40) (tgt := 20) d_Schemas_buildRecord_40 rfl ?_
      refine zs_sub (lv' := [(0, zR a0), (1, zI a1), (2, zR a2), (3, zI (a3 + (1 : Int32)))]) [1, 2, 3, 0] rfl ?_
      exact ih a0 a1 a2 (a3 + (1 : Int32)) H36
theorem jm_Schemas_buildRecord {E : zE} {d : Nat} (hd : 4 ≤ d) (fu : Nat) (a0 : Option Nat) (a1 : Int32) (H : zH) : z_MS E jM_Schemas_buildRecord d 2 11 zwR [zR a0, zI a1] H (jF_Schemas_buildRecord fu a0 a1 H) := by
  refine zs_of (lv0 := [(0, zR a0), (1, zI a1)]) pn_Schemas (Nat.le_of_ble_eq_true rfl) rfl ?_
  unfold jF_Schemas_buildRecord
  refine zs_bind fun _ _ => ?_
  refine zs_iload_n (pc := 0) (x := a1) d_Schemas_buildRecord_0 rfl ?_
  refine zs_i2l (pc := 1) d_Schemas_buildRecord_1 ?_
  refine zs_calls_rI (pc := 2) (av := [zL a1.toInt64]) (st := []) (d' := 0) (C' := 0) (S' := 0) d_Schemas_buildRecord_2 kS_Schemas_30 (jm_Schema_isName (d := 0) (Nat.le_refl _) a1.toInt64 H) (by omega) (Nat.le_of_ble_eq_true rfl) (Nat.le_of_ble_eq_true rfl) rfl rfl (Nat.le_of_ble_eq_true rfl) fun y2 => ?_
  refine zs_if_ne (pc := 5) (tgt := 10) d_Schemas_buildRecord_5 rfl (fun q5 => ?_) (fun q5 => ?_)
  · refine zs_aload_n (pc := 10) (x := a0) d_Schemas_buildRecord_10 rfl ?_
    refine zs_getI (pc := 11) d_Schemas_buildRecord_11 kF_Schemas_27 fun v11 => ?_
    refine zs_bind fun n14 hn14 => ?_
    refine zs_anew (t := 4) (cap := 3) (pc := 14) d_Schemas_buildRecord_14 kA_Schemas_17 z_ao4 rfl hn14 (by decide) (Nat.le_of_ble_eq_true rfl) (Nat.le_of_ble_eq_true rfl) fun H14 => ?_
    refine zs_astore_n (pc := 17) (lv' := [(2, zR (some H.2)), (0, zR a0), (1, zI a1)]) d_Schemas_buildRecord_17 (Nat.le_of_ble_eq_true rfl) rfl ?_
    refine zs_iconst (pc := 18) (v := (0 : Int32)) d_Schemas_buildRecord_18 (by decide) ?_
    refine zs_istore_n (pc := 19) (lv' := [(3, zI (0 : Int32)), (2, zR (some H.2)), (0, zR a0), (1, zI a1)]) d_Schemas_buildRecord_19 (Nat.le_of_ble_eq_true rfl) rfl ?_
    refine zs_sub (lv' := [(0, zR a0), (1, zI a1), (2, zR (some H.2)), (3, zI (0 : Int32))]) [2, 3, 1, 0] rfl ?_
    exact jl_Schemas_buildRecord_20 hd fu fu a0 a1 (some H.2) (0 : Int32) H14
  · refine zs_null (pc := 8) d_Schemas_buildRecord_8 ?_
    exact zs_aret (pc := 9) d_Schemas_buildRecord_9 rfl (Nat.le_of_ble_eq_true rfl) (Nat.le_of_ble_eq_true rfl) rfl
def jF_Schema_ofUnion (fu : Nat) (a0 : Option Nat) (a1 : Option Nat) (H : zH) : Option (Option Nat × zH) :=
  (zno H (.inr (8, [zI 0, zI 0, zI 0, zI 0, zR none, zR none, zR none, zI 0]))).bind fun H0 =>
  (zno H0 (.inl (4, 0, (.inr (.inr fun _ => none))))).bind fun H12 =>
  (jF_Schema_init fu H.2 (6 : Int32) (0 : Int32) (0 : Int32) (-1 : Int32) a0 a1 (some H0.2) H12).bind fun y15 =>
  some ((some H.2), y15)
theorem jm_Schema_ofUnion {E : zE} {d : Nat} (hd : 3 ≤ d) (fu : Nat) (a0 : Option Nat) (a1 : Option Nat) (H : zH) : z_MS E jM_Schema_ofUnion d 2 8 zwR [zR a0, zR a1] H (jF_Schema_ofUnion fu a0 a1 H) := by
  refine zs_of (lv0 := [(0, zR a0), (1, zR a1)]) pn_Schema (Nat.le_of_ble_eq_true rfl) rfl ?_
  unfold jF_Schema_ofUnion
  refine zs_new (pc := 0) d_Schema_ofUnion_0 kN_Schema_10 (Nat.le_of_ble_eq_true rfl) (Nat.le_of_ble_eq_true rfl) fun H0 => ?_
  refine zs_dup (pc := 3) d_Schema_ofUnion_3 rfl ?_
  refine zs_bipush (pc := 4) (v := (6 : Int32)) d_Schema_ofUnion_4 (by decide) ?_
  refine zs_iconst (pc := 6) (v := (0 : Int32)) d_Schema_ofUnion_6 (by decide) ?_
  refine zs_iconst (pc := 7) (v := (0 : Int32)) d_Schema_ofUnion_7 (by decide) ?_
  refine zs_iconst (pc := 8) (v := (-1 : Int32)) d_Schema_ofUnion_8 (by decide) ?_
  refine zs_aload_n (pc := 9) (x := a0) d_Schema_ofUnion_9 rfl ?_
  refine zs_aload_n (pc := 10) (x := a1) d_Schema_ofUnion_10 rfl ?_
  refine zs_iconst (pc := 11) (v := (0 : Int32)) d_Schema_ofUnion_11 (by decide) ?_
  refine zs_anew (t := 4) (cap := 0) (pc := 12) d_Schema_ofUnion_12 kA_Schema_42 z_ao4 rfl (by decide) (by decide) (Nat.le_of_ble_eq_true rfl) (Nat.le_of_ble_eq_true rfl) fun H12 => ?_
  refine zs_calli (pc := 15) (av := [zI (6 : Int32), zI (0 : Int32), zI (0 : Int32), zI (-1 : Int32), zR a0, zR a1, zR (some H0.2)]) (st := [zR (some H.2)]) (d' := 2) (C' := 0) (S' := 0) d_Schema_ofUnion_15 kI_Schema_44 (jm_Schema_init (d := 2) (Nat.le_refl _) fu H.2 (6 : Int32) (0 : Int32) (0 : Int32) (-1 : Int32) a0 a1 (some H0.2) H12) (by omega) (Nat.le_of_ble_eq_true rfl) (Nat.le_of_ble_eq_true rfl) rfl rfl (Nat.le_of_ble_eq_true rfl) fun y15 => ?_
  exact zs_aret (pc := 18) d_Schema_ofUnion_18 rfl (Nat.le_of_ble_eq_true rfl) (Nat.le_of_ble_eq_true rfl) rfl
