def jL_Manifest_filesOf_10 (fu : Nat) (H : zH) : Nat → Option Nat → Int32 → Int32 → Int32 → Int32 → Option Int32
  | 0, _, _, _, _, _ => none
  | g + 1, a0, a1, a2, a3, a4 =>
    if a2 ≤ a4 then (
      some a3)
    else (
      (jF_Manifest_subjectOf a0 a4 H).bind fun y19 =>
      if y19 = a1 then (
        jL_Manifest_filesOf_10 fu H g a0 a1 a2 (a3 + (1 : Int32)) (a4 + (1 : Int32)))
      else (
        jL_Manifest_filesOf_10 fu H g a0 a1 a2 a3 (a4 + (1 : Int32))))
def jF_Manifest_filesOf (fu : Nat) (a0 : Option Nat) (a1 : Int32) (H : zH) : Option Int32 :=
  (zok H a0 5).bind fun _ =>
  (jF_Manifest_entries a0 H).bind fun y1 =>
  jL_Manifest_filesOf_10 fu H fu a0 a1 y1 (0 : Int32) (0 : Int32)
theorem jl_Manifest_filesOf_10 {E : zE} {d : Nat} (hd : 3 ≤ d) (fu : Nat) (H : zH) : ∀ (g : Nat), ∀ (a0 : Option Nat) (a1 : Int32) (a2 : Int32) (a3 : Int32) (a4 : Int32), z_S E jM_Manifest_filesOf d 0 0 (zrI H) 10 [(0, zR a0), (1, zI a1), (2, zI a2), (3, zI a3), (4, zI a4)] [] H 0 0 (jL_Manifest_filesOf_10 fu H g a0 a1 a2 a3 a4) := by
  intro g
  induction g with
  | zero => intros; exact zs_none
  | succ g ih =>
    intro a0 a1 a2 a3 a4
    rw [jL_Manifest_filesOf_10]
    refine zs_iload (pc := 10) (x := a4) d_Manifest_filesOf_10 rfl ?_
    refine zs_iload_n (pc := 12) (x := a2) d_Manifest_filesOf_12 rfl ?_
    refine zs_icmp_ge (pc := 13) (tgt := 35) d_Manifest_filesOf_13 rfl (fun q13 => ?_) (fun q13 => ?_)
    · refine zs_iload_n (pc := 35) (x := a3) d_Manifest_filesOf_35 rfl ?_
      exact zs_iret (pc := 36) d_Manifest_filesOf_36 rfl (Nat.le_of_ble_eq_true rfl) (Nat.le_of_ble_eq_true rfl) rfl
    · refine zs_aload_n (pc := 16) (x := a0) d_Manifest_filesOf_16 rfl ?_
      refine zs_iload (pc := 17) (x := a4) d_Manifest_filesOf_17 rfl ?_
      refine zs_callv_rI (pc := 19) (av := [zI a4]) (st := []) (d' := 2) (C' := 0) (S' := 0) d_Manifest_filesOf_19 kV_Manifest_33 z_okb (jm_Manifest_subjectOf (d := 2) (Nat.le_refl _) a0 a4 H) (by omega) (Nat.le_of_ble_eq_true rfl) (Nat.le_of_ble_eq_true rfl) rfl rfl (Nat.le_of_ble_eq_true rfl) fun y19 => ?_
      refine zs_iload_n (pc := 22) (x := a1) d_Manifest_filesOf_22 rfl ?_
      refine zs_icmp_ne (pc := 23) (tgt := 29) d_Manifest_filesOf_23 rfl (fun q23 => ?_) (fun q23 => ?_)
      · refine zs_iinc (pc := 29) (x := a4) (v := (a4 + (1 : Int32))) (lv' := [(4, zI (a4 + (1 : Int32))), (0, zR a0), (1, zI a1), (2, zI a2), (3, zI a3)]) d_Manifest_filesOf_29 rfl rfl (Nat.le_of_ble_eq_true rfl) rfl ?_
        refine zs_goto (pc := 32) (tgt := 10) d_Manifest_filesOf_32 rfl ?_
        refine zs_sub (lv' := [(0, zR a0), (1, zI a1), (2, zI a2), (3, zI a3), (4, zI (a4 + (1 : Int32)))]) [1, 2, 3, 4, 0] rfl ?_
        exact ih a0 a1 a2 a3 (a4 + (1 : Int32))
      · refine zs_iinc (pc := 26) (x := a3) (v := (a3 + (1 : Int32))) (lv' := [(3, zI (a3 + (1 : Int32))), (0, zR a0), (1, zI a1), (2, zI a2), (4, zI a4)]) d_Manifest_filesOf_26 rfl rfl (Nat.le_of_ble_eq_true rfl) rfl ?_
        refine zs_iinc (pc := 29) (x := a4) (v := (a4 + (1 : Int32))) (lv' := [(4, zI (a4 + (1 : Int32))), (3, zI (a3 + (1 : Int32))), (0, zR a0), (1, zI a1), (2, zI a2)]) d_Manifest_filesOf_29 rfl rfl (Nat.le_of_ble_eq_true rfl) rfl ?_
        refine zs_goto (pc := 32) (tgt := 10) d_Manifest_filesOf_32 rfl ?_
        refine zs_sub (lv' := [(0, zR a0), (1, zI a1), (2, zI a2), (3, zI (a3 + (1 : Int32))), (4, zI (a4 + (1 : Int32)))]) [2, 3, 4, 1, 0] rfl ?_
        exact ih a0 a1 a2 (a3 + (1 : Int32)) (a4 + (1 : Int32))
theorem jm_Manifest_filesOf {E : zE} {d : Nat} (hd : 3 ≤ d) (fu : Nat) (a0 : Option Nat) (a1 : Int32) (H : zH) : z_MS E jM_Manifest_filesOf d 0 0 (zrI H) [zR a0, zI a1] H (jF_Manifest_filesOf fu a0 a1 H) := by
  refine zs_of (lv0 := [(0, zR a0), (1, zI a1)]) pn_Manifest (Nat.le_of_ble_eq_true rfl) rfl ?_
  unfold jF_Manifest_filesOf
  refine zs_bind fun _ _ => ?_
  refine zs_aload_n (pc := 0) (x := a0) d_Manifest_filesOf_0 rfl ?_
  refine zs_callv_rI (pc := 1) (av := []) (st := []) (d' := 1) (C' := 0) (S' := 0) d_Manifest_filesOf_1 kV_Manifest_29 z_okb (jm_Manifest_entries (d := 1) (Nat.le_refl _) a0 H) (by omega) (Nat.le_of_ble_eq_true rfl) (Nat.le_of_ble_eq_true rfl) rfl rfl (Nat.le_of_ble_eq_true rfl) fun y1 => ?_
  refine zs_istore_n (pc := 4) (lv' := [(2, zI y1), (0, zR a0), (1, zI a1)]) d_Manifest_filesOf_4 (Nat.le_of_ble_eq_true rfl) rfl ?_
  refine zs_iconst (pc := 5) (v := (0 : Int32)) d_Manifest_filesOf_5 (by decide) ?_
  refine zs_istore_n (pc := 6) (lv' := [(3, zI (0 : Int32)), (2, zI y1), (0, zR a0), (1, zI a1)]) d_Manifest_filesOf_6 (Nat.le_of_ble_eq_true rfl) rfl ?_
  refine zs_iconst (pc := 7) (v := (0 : Int32)) d_Manifest_filesOf_7 (by decide) ?_
  refine zs_istore (pc := 8) (lv' := [(4, zI (0 : Int32)), (3, zI (0 : Int32)), (2, zI y1), (0, zR a0), (1, zI a1)]) d_Manifest_filesOf_8 (Nat.le_of_ble_eq_true rfl) rfl ?_
  refine zs_sub (lv' := [(0, zR a0), (1, zI a1), (2, zI y1), (3, zI (0 : Int32)), (4, zI (0 : Int32))]) [3, 4, 2, 1, 0] rfl ?_
  exact jl_Manifest_filesOf_10 hd fu H fu a0 a1 y1 (0 : Int32) (0 : Int32)
def jF_ST_files (fu : Nat) (a0 : Option Nat) (a1 : Int32) (H : zH) : Option Int32 :=
  (zok H a0 0).bind fun _ =>
  (jF_ST_isSubject a1 H).bind fun y1 =>
  if y1 = 0 then (
    some (-1 : Int32))
  else (
    (zgR H a0 0 1).bind fun v8 =>
    (zgI H v8 3 1).bind fun v11 =>
    if v11 = 0 then (
      some (-1 : Int32))
    else (
      (zgR H a0 0 3).bind fun v18 =>
      (jF_Manifest_filesOf fu v18 a1 H).bind fun y22 =>
      some y22))
theorem jm_ST_files {E : zE} {d : Nat} (hd : 4 ≤ d) (fu : Nat) (a0 : Option Nat) (a1 : Int32) (H : zH) : z_MS E jM_ST_files d 0 0 (zrI H) [zR a0, zI a1] H (jF_ST_files fu a0 a1 H) := by
  refine zs_of (lv0 := [(0, zR a0), (1, zI a1)]) pn_ST (Nat.le_of_ble_eq_true rfl) rfl ?_
  unfold jF_ST_files
  refine zs_bind fun _ _ => ?_
  refine zs_iload_n (pc := 0) (x := a1) d_ST_files_0 rfl ?_
  refine zs_calls_rI (pc := 1) (av := [zI a1]) (st := []) (d' := 0) (C' := 0) (S' := 0) d_ST_files_1 kS_ST_83 (jm_ST_isSubject (d := 0) (Nat.le_refl _) a1 H) (by omega) (Nat.le_of_ble_eq_true rfl) (Nat.le_of_ble_eq_true rfl) rfl rfl (Nat.le_of_ble_eq_true rfl) fun y1 => ?_
  refine zs_if_eq (pc := 4) (tgt := 28) d_ST_files_4 rfl (fun q4 => ?_) (fun q4 => ?_)
  · refine zs_iconst (pc := 28) (v := (-1 : Int32)) d_ST_files_28 (by decide) ?_
    exact zs_iret (pc := 29) d_ST_files_29 rfl (Nat.le_of_ble_eq_true rfl) (Nat.le_of_ble_eq_true rfl) rfl
  · refine zs_aload_n (pc := 7) (x := a0) d_ST_files_7 rfl ?_
    refine zs_getR (pc := 8) d_ST_files_8 kF_ST_19 fun v8 => ?_
    refine zs_getI (pc := 11) d_ST_files_11 kF_ST_79 fun v11 => ?_
    refine zs_if_eq (pc := 14) (tgt := 28) d_ST_files_14 rfl (fun q14 => ?_) (fun q14 => ?_)
    · refine zs_iconst (pc := 28) (v := (-1 : Int32)) d_ST_files_28 (by decide) ?_
      exact zs_iret (pc := 29) d_ST_files_29 rfl (Nat.le_of_ble_eq_true rfl) (Nat.le_of_ble_eq_true rfl) rfl
    · refine zs_aload_n (pc := 17) (x := a0) d_ST_files_17 rfl ?_
      refine zs_getR (pc := 18) d_ST_files_18 kF_ST_35 fun v18 => ?_
      refine zs_iload_n (pc := 21) (x := a1) d_ST_files_21 rfl ?_
      refine zs_callv_rI (pc := 22) (av := [zI a1]) (st := []) (d' := 3) (C' := 0) (S' := 0) d_ST_files_22 kV_ST_180 z_okb (jm_Manifest_filesOf (d := 3) (Nat.le_refl _) fu v18 a1 H) (by omega) (Nat.le_of_ble_eq_true rfl) (Nat.le_of_ble_eq_true rfl) rfl rfl (Nat.le_of_ble_eq_true rfl) fun y22 => ?_
      refine zs_goto (pc := 25) (tgt := 29) d_ST_files_25 rfl ?_
      exact zs_iret (pc := 29) d_ST_files_29 rfl (Nat.le_of_ble_eq_true rfl) (Nat.le_of_ble_eq_true rfl) rfl
def jF_ST_octet (a0 : Option Nat) (a1 : Int32) (a2 : Int32) (H : zH) : Option Int32 :=
  (zok H a0 0).bind fun _ =>
  if a1 < 0 then (
    some (-1 : Int32))
  else (
    if (40 : Int32) ≤ a1 then (
      some (-1 : Int32))
    else (
      if a2 < 0 then (
        some (-1 : Int32))
      else (
        if a2 < (32 : Int32) then (
          (zgR H a0 0 1).bind fun v23 =>
          (jF_Disk_startOf a1 H).bind fun y27 =>
          (jF_Disk_at v23 (y27 + a2) H).bind fun y32 =>
          some y32)
        else (
          some (-1 : Int32)))))
theorem jm_ST_octet {E : zE} {d : Nat} (hd : 1 ≤ d) (a0 : Option Nat) (a1 : Int32) (a2 : Int32) (H : zH) : z_MS E jM_ST_octet d 0 0 (zrI H) [zR a0, zI a1, zI a2] H (jF_ST_octet a0 a1 a2 H) := by
  refine zs_of (lv0 := [(0, zR a0), (1, zI a1), (2, zI a2)]) pn_ST (Nat.le_of_ble_eq_true rfl) rfl ?_
  unfold jF_ST_octet
  refine zs_bind fun _ _ => ?_
  refine zs_iload_n (pc := 0) (x := a1) d_ST_octet_0 rfl ?_
  refine zs_if_lt (pc := 1) (tgt := 20) d_ST_octet_1 rfl (fun q1 => ?_) (fun q1 => ?_)
  · refine zs_iconst (pc := 20) (v := (-1 : Int32)) d_ST_octet_20 (by decide) ?_
    exact zs_iret (pc := 21) d_ST_octet_21 rfl (Nat.le_of_ble_eq_true rfl) (Nat.le_of_ble_eq_true rfl) rfl
  · refine zs_iload_n (pc := 4) (x := a1) d_ST_octet_4 rfl ?_
    refine zs_bipush (pc := 5) (v := (40 : Int32)) d_ST_octet_5 (by decide) ?_
    refine zs_icmp_ge (pc := 7) (tgt := 20) d_ST_octet_7 rfl (fun q7 => ?_) (fun q7 => ?_)
    · refine zs_iconst (pc := 20) (v := (-1 : Int32)) d_ST_octet_20 (by decide) ?_
      exact zs_iret (pc := 21) d_ST_octet_21 rfl (Nat.le_of_ble_eq_true rfl) (Nat.le_of_ble_eq_true rfl) rfl
    · refine zs_iload_n (pc := 10) (x := a2) d_ST_octet_10 rfl ?_
      refine zs_if_lt (pc := 11) (tgt := 20) d_ST_octet_11 rfl (fun q11 => ?_) (fun q11 => ?_)
      · refine zs_iconst (pc := 20) (v := (-1 : Int32)) d_ST_octet_20 (by decide) ?_
        exact zs_iret (pc := 21) d_ST_octet_21 rfl (Nat.le_of_ble_eq_true rfl) (Nat.le_of_ble_eq_true rfl) rfl
      · refine zs_iload_n (pc := 14) (x := a2) d_ST_octet_14 rfl ?_
        refine zs_bipush (pc := 15) (v := (32 : Int32)) d_ST_octet_15 (by decide) ?_
        refine zs_icmp_lt (pc := 17) (tgt := 22) d_ST_octet_17 rfl (fun q17 => ?_) (fun q17 => ?_)
        · refine zs_aload_n (pc := 22) (x := a0) d_ST_octet_22 rfl ?_
          refine zs_getR (pc := 23) d_ST_octet_23 kF_ST_19 fun v23 => ?_
          refine zs_iload_n (pc := 26) (x := a1) d_ST_octet_26 rfl ?_
          refine zs_calls_rI (pc := 27) (av := [zI a1]) (st := [zR v23]) (d' := 0) (C' := 0) (S' := 0) d_ST_octet_27 kS_ST_183 (jm_Disk_startOf (d := 0) (Nat.le_refl _) a1 H) (by omega) (Nat.le_of_ble_eq_true rfl) (Nat.le_of_ble_eq_true rfl) rfl rfl (Nat.le_of_ble_eq_true rfl) fun y27 => ?_
          refine zs_iload_n (pc := 30) (x := a2) d_ST_octet_30 rfl ?_
          refine zs_iadd (pc := 31) d_ST_octet_31 ?_
          refine zs_callv_rI (pc := 32) (av := [zI (y27 + a2)]) (st := []) (d' := 0) (C' := 0) (S' := 0) d_ST_octet_32 kV_ST_186 z_okb (jm_Disk_at (d := 0) (Nat.le_refl _) v23 (y27 + a2) H) (by omega) (Nat.le_of_ble_eq_true rfl) (Nat.le_of_ble_eq_true rfl) rfl rfl (Nat.le_of_ble_eq_true rfl) fun y32 => ?_
          exact zs_iret (pc := 35) d_ST_octet_35 rfl (Nat.le_of_ble_eq_true rfl) (Nat.le_of_ble_eq_true rfl) rfl
        · refine zs_iconst (pc := 20) (v := (-1 : Int32)) d_ST_octet_20 (by decide) ?_
          exact zs_iret (pc := 21) d_ST_octet_21 rfl (Nat.le_of_ble_eq_true rfl) (Nat.le_of_ble_eq_true rfl) rfl
def jF_ST_limit (a0 : Option Nat) (a1 : Int32) (H : zH) : Option (Int32 × zH) :=
  (zok H a0 0).bind fun _ =>
  (zgR H a0 0 1).bind fun v1 =>
  (zgI H v1 3 1).bind fun v4 =>
  if v4 = 0 then (
    some ((-4 : Int32), H))
  else (
    if 0 ≤ a1 then (
      (zgR H a0 0 1).bind fun v20 =>
      (zpV H v20 3 2 (zI a1)).bind fun H24 =>
      some ((0 : Int32), H24))
    else (
      some ((-1 : Int32), H)))
theorem jm_ST_limit {E : zE} {d : Nat} (hd : 0 ≤ d) (a0 : Option Nat) (a1 : Int32) (H : zH) : z_MS E jM_ST_limit d 0 0 zwI [zR a0, zI a1] H (jF_ST_limit a0 a1 H) := by
  refine zs_of (lv0 := [(0, zR a0), (1, zI a1)]) pn_ST (Nat.le_of_ble_eq_true rfl) rfl ?_
  unfold jF_ST_limit
  refine zs_bind fun _ _ => ?_
  refine zs_aload_n (pc := 0) (x := a0) d_ST_limit_0 rfl ?_
  refine zs_getR (pc := 1) d_ST_limit_1 kF_ST_19 fun v1 => ?_
  refine zs_getI (pc := 4) d_ST_limit_4 kF_ST_79 fun v4 => ?_
  refine zs_if_ne (pc := 7) (tgt := 13) d_ST_limit_7 rfl (fun q7 => ?_) (fun q7 => ?_)
  · refine zs_iload_n (pc := 13) (x := a1) d_ST_limit_13 rfl ?_
    refine zs_if_ge (pc := 14) (tgt := 19) d_ST_limit_14 rfl (fun q14 => ?_) (fun q14 => ?_)
    · refine zs_aload_n (pc := 19) (x := a0) d_ST_limit_19 rfl ?_
      refine zs_getR (pc := 20) d_ST_limit_20 kF_ST_19 fun v20 => ?_
      refine zs_iload_n (pc := 23) (x := a1) d_ST_limit_23 rfl ?_
      refine zs_put (pc := 24) d_ST_limit_24 kP_ST_188 z_fitI fun H24 => ?_
      refine zs_iconst (pc := 27) (v := (0 : Int32)) d_ST_limit_27 (by decide) ?_
      exact zs_iret (pc := 28) d_ST_limit_28 rfl (Nat.le_of_ble_eq_true rfl) (Nat.le_of_ble_eq_true rfl) rfl
    · refine zs_iconst (pc := 17) (v := (-1 : Int32)) d_ST_limit_17 (by decide) ?_
      exact zs_iret (pc := 18) d_ST_limit_18 rfl (Nat.le_of_ble_eq_true rfl) (Nat.le_of_ble_eq_true rfl) rfl
  · refine zs_bipush (pc := 10) (v := (-4 : Int32)) d_ST_limit_10 (by decide) ?_
    exact zs_iret (pc := 12) d_ST_limit_12 rfl (Nat.le_of_ble_eq_true rfl) (Nat.le_of_ble_eq_true rfl) rfl
def jJ_ST_restart_15  (s0 : Int32) (a0 : Option Nat) (H : zH) : Option (Int32 × zH) :=
  (zgR H a0 0 1).bind fun v17 =>
  (zpZ H v17 3 1 (1 : Int32)).bind fun H21 =>
  (zbo s0).bind fun x => some (x, H21)
def jF_ST_restart (a0 : Option Nat) (H : zH) : Option (Int32 × zH) :=
  (zok H a0 0).bind fun _ =>
  (zgR H a0 0 1).bind fun v1 =>
  (zgI H v1 3 1).bind fun v4 =>
  if v4 = 0 then (
    jJ_ST_restart_15  (1 : Int32) a0 H)
  else (
    jJ_ST_restart_15  (0 : Int32) a0 H)
theorem jj_ST_restart_15 {E : zE} {d : Nat} (hd : 0 ≤ d)  : ∀ (s0 : Int32) (a0 : Option Nat) (H : zH), z_S E jM_ST_restart d 0 0 zwI 15 [(0, zR a0)] [zI s0] H 0 0 (jJ_ST_restart_15 s0 a0 H) := by
  intro s0 a0 H
  unfold jJ_ST_restart_15
  refine zs_istore_n (pc := 15) (lv' := [(1, zI s0), (0, zR a0)]) d_ST_restart_15 (Nat.le_of_ble_eq_true rfl) rfl ?_
  refine zs_aload_n (pc := 16) (x := a0) d_ST_restart_16 rfl ?_
  refine zs_getR (pc := 17) d_ST_restart_17 kF_ST_19 fun v17 => ?_
  refine zs_iconst (pc := 20) (v := (1 : Int32)) d_ST_restart_20 (by decide) ?_
  refine zs_putZ (pc := 21) d_ST_restart_21 kP_ST_79 fun H21 => ?_
  refine zs_iload_n (pc := 24) (x := s0) d_ST_restart_24 rfl ?_
  exact zs_zret (g := fun x => (x, H21)) (pc := 25) d_ST_restart_25 rfl (Nat.le_of_ble_eq_true rfl) (Nat.le_of_ble_eq_true rfl) rfl
theorem jm_ST_restart {E : zE} {d : Nat} (hd : 0 ≤ d) (a0 : Option Nat) (H : zH) : z_MS E jM_ST_restart d 0 0 zwI [zR a0] H (jF_ST_restart a0 H) := by
  refine zs_of (lv0 := [(0, zR a0)]) pn_ST (Nat.le_of_ble_eq_true rfl) rfl ?_
  unfold jF_ST_restart
  refine zs_bind fun _ _ => ?_
  refine zs_aload_n (pc := 0) (x := a0) d_ST_restart_0 rfl ?_
  refine zs_getR (pc := 1) d_ST_restart_1 kF_ST_19 fun v1 => ?_
  refine zs_getI (pc := 4) d_ST_restart_4 kF_ST_79 fun v4 => ?_
  refine zs_if_ne (pc := 7) (tgt := 14) d_ST_restart_7 rfl (fun q7 => ?_) (fun q7 => ?_)
  · refine zs_iconst (pc := 14) (v := (0 : Int32)) d_ST_restart_14 (by decide) ?_
    exact jj_ST_restart_15 hd  (0 : Int32) a0 H
  · refine zs_iconst (pc := 10) (v := (1 : Int32)) d_ST_restart_10 (by decide) ?_
    refine zs_goto (pc := 11) (tgt := 15) d_ST_restart_11 rfl ?_
    exact jj_ST_restart_15 hd  (1 : Int32) a0 H
def jF_ST_writes (a0 : Option Nat) (H : zH) : Option Int32 :=
  (zok H a0 0).bind fun _ =>
  (zgR H a0 0 1).bind fun v1 =>
  (zgI H v1 3 3).bind fun v4 =>
  some v4
theorem jm_ST_writes {E : zE} {d : Nat} (hd : 0 ≤ d) (a0 : Option Nat) (H : zH) : z_MS E jM_ST_writes d 0 0 (zrI H) [zR a0] H (jF_ST_writes a0 H) := by
  refine zs_of (lv0 := [(0, zR a0)]) pn_ST (Nat.le_of_ble_eq_true rfl) rfl ?_
  unfold jF_ST_writes
  refine zs_bind fun _ _ => ?_
  refine zs_aload_n (pc := 0) (x := a0) d_ST_writes_0 rfl ?_
  refine zs_getR (pc := 1) d_ST_writes_1 kF_ST_19 fun v1 => ?_
  refine zs_getI (pc := 4) d_ST_writes_4 kF_ST_191 fun v4 => ?_
  exact zs_iret (pc := 7) d_ST_writes_7 rfl (Nat.le_of_ble_eq_true rfl) (Nat.le_of_ble_eq_true rfl) rfl
def jF_Mo_init (a0 : Nat) (H : zH) : Option zH :=
  (zno H (.inl (0, 24, (.inl fun _ => 0)))).bind fun H7 =>
  (zpV H7 (some a0) 1 1 (zR (some H.2))).bind fun H9 =>
  (zno H9 (.inl (0, 24, (.inl fun _ => 0)))).bind fun H15 =>
  (zpV H15 (some a0) 1 2 (zR (some H9.2))).bind fun H17 =>
  (zno H17 (.inl (0, 24, (.inl fun _ => 0)))).bind fun H23 =>
  (zpV H23 (some a0) 1 3 (zR (some H17.2))).bind fun H25 =>
  (zno H25 (.inl (0, 24, (.inl fun _ => 0)))).bind fun H31 =>
  (zpV H31 (some a0) 1 4 (zR (some H25.2))).bind fun H33 =>
  (zno H33 (.inl (0, 24, (.inl fun _ => 0)))).bind fun H39 =>
  (zpV H39 (some a0) 1 5 (zR (some H33.2))).bind fun H41 =>
  (zno H41 (.inl (0, 24, (.inl fun _ => 0)))).bind fun H47 =>
  (zpV H47 (some a0) 1 6 (zR (some H41.2))).bind fun H49 =>
  (zno H49 (.inl (0, 75, (.inl fun _ => 0)))).bind fun H55 =>
  (zpV H55 (some a0) 1 7 (zR (some H49.2))).bind fun H57 =>
  (zno H57 (.inl (0, 75, (.inl fun _ => 0)))).bind fun H63 =>
  (zpV H63 (some a0) 1 8 (zR (some H57.2))).bind fun H65 =>
  (zno H65 (.inl (1, 75, (.inl fun _ => 0)))).bind fun H71 =>
  (zpV H71 (some a0) 1 9 (zR (some H65.2))).bind fun H73 =>
  (zno H73 (.inl (2, 75, (.inr (.inl fun _ => 0))))).bind fun H79 =>
  (zpV H79 (some a0) 1 10 (zR (some H73.2))).bind fun H81 =>
  (zno H81 (.inl (1, 576, (.inl fun _ => 0)))).bind fun H88 =>
  (zpV H88 (some a0) 1 11 (zR (some H81.2))).bind fun H90 =>
  (zno H90 (.inl (1, 576, (.inl fun _ => 0)))).bind fun H97 =>
  (zpV H97 (some a0) 1 12 (zR (some H90.2))).bind fun H99 =>
  (zno H99 (.inl (0, 1280, (.inl fun _ => 0)))).bind fun H106 =>
  (zpV H106 (some a0) 1 14 (zR (some H99.2))).bind fun H108 =>
  (zno H108 (.inl (2, 24, (.inr (.inl fun _ => 0))))).bind fun H114 =>
  (zpV H114 (some a0) 1 19 (zR (some H108.2))).bind fun H116 =>
  (zno H116 (.inl (0, 150, (.inl fun _ => 0)))).bind fun H123 =>
  (zpV H123 (some a0) 1 23 (zR (some H116.2))).bind fun H125 =>
  (zno H125 (.inl (2, 40, (.inr (.inl fun _ => 0))))).bind fun H131 =>
  (zpV H131 (some a0) 1 25 (zR (some H125.2))).bind fun H133 =>
  (zno H133 (.inl (0, 320, (.inl fun _ => 0)))).bind fun H140 =>
  (zpV H140 (some a0) 1 27 (zR (some H133.2))).bind fun H142 =>
  (zno H142 (.inl (0, 32, (.inl fun _ => 0)))).bind fun H148 =>
  (zpV H148 (some a0) 1 29 (zR (some H142.2))).bind fun H150 =>
  (zno H150 (.inl (2, 24, (.inr (.inl fun _ => 0))))).bind fun H156 =>
  (zpV H156 (some a0) 1 30 (zR (some H150.2))).bind fun H158 =>
  (zno H158 (.inl (0, 64, (.inl fun _ => 0)))).bind fun H164 =>
  (zpV H164 (some a0) 1 31 (zR (some H158.2))).bind fun H166 =>
  (zno H166 (.inl (0, 192, (.inl fun _ => 0)))).bind fun H173 =>
  (zpV H173 (some a0) 1 32 (zR (some H166.2))).bind fun H175 =>
  some H175
theorem jm_Mo_init {E : zE} {d : Nat} (hd : 1 ≤ d) (a0 : Nat) (H : zH) : z_MS E jM_Mo_init d 21 3722 zwV [zR (some a0)] H (jF_Mo_init a0 H) := by
  refine zs_of (lv0 := [(0, zR (some a0))]) pn_Mo (Nat.le_of_ble_eq_true rfl) rfl ?_
  unfold jF_Mo_init
  refine zs_aload_n (pc := 0) (x := (some a0)) d_Mo_init_0 rfl ?_
  refine zs_objInit (pc := 1) d_Mo_init_1 kO_Mo_1 z_oi2 z_oi3 (by omega) (Nat.le_of_ble_eq_true rfl) ?_
  refine zs_aload_n (pc := 4) (x := (some a0)) d_Mo_init_4 rfl ?_
  refine zs_bipush (pc := 5) (v := (24 : Int32)) d_Mo_init_5 (by decide) ?_
  refine zs_newa (t := 0) (cap := 24) (pc := 7) d_Mo_init_7 z_acI rfl (fun _ _ => rfl) (by decide) (by decide) (Nat.le_of_ble_eq_true rfl) (Nat.le_of_ble_eq_true rfl) fun H7 => ?_
  refine zs_putF (pc := 9) d_Mo_init_9 kP_Mo_7 rfl z_fitA fun H9 => ?_
  refine zs_aload_n (pc := 12) (x := (some a0)) d_Mo_init_12 rfl ?_
  refine zs_bipush (pc := 13) (v := (24 : Int32)) d_Mo_init_13 (by decide) ?_
  refine zs_newa (t := 0) (cap := 24) (pc := 15) d_Mo_init_15 z_acI rfl (fun _ _ => rfl) (by decide) (by decide) (Nat.le_of_ble_eq_true rfl) (Nat.le_of_ble_eq_true rfl) fun H15 => ?_
  refine zs_putF (pc := 17) d_Mo_init_17 kP_Mo_13 rfl z_fitA fun H17 => ?_
  refine zs_aload_n (pc := 20) (x := (some a0)) d_Mo_init_20 rfl ?_
  refine zs_bipush (pc := 21) (v := (24 : Int32)) d_Mo_init_21 (by decide) ?_
  refine zs_newa (t := 0) (cap := 24) (pc := 23) d_Mo_init_23 z_acI rfl (fun _ _ => rfl) (by decide) (by decide) (Nat.le_of_ble_eq_true rfl) (Nat.le_of_ble_eq_true rfl) fun H23 => ?_
  refine zs_putF (pc := 25) d_Mo_init_25 kP_Mo_16 rfl z_fitA fun H25 => ?_
  refine zs_aload_n (pc := 28) (x := (some a0)) d_Mo_init_28 rfl ?_
  refine zs_bipush (pc := 29) (v := (24 : Int32)) d_Mo_init_29 (by decide) ?_
  refine zs_newa (t := 0) (cap := 24) (pc := 31) d_Mo_init_31 z_acI rfl (fun _ _ => rfl) (by decide) (by decide) (Nat.le_of_ble_eq_true rfl) (Nat.le_of_ble_eq_true rfl) fun H31 => ?_
  refine zs_putF (pc := 33) d_Mo_init_33 kP_Mo_19 rfl z_fitA fun H33 => ?_
  refine zs_aload_n (pc := 36) (x := (some a0)) d_Mo_init_36 rfl ?_
  refine zs_bipush (pc := 37) (v := (24 : Int32)) d_Mo_init_37 (by decide) ?_
  refine zs_newa (t := 0) (cap := 24) (pc := 39) d_Mo_init_39 z_acI rfl (fun _ _ => rfl) (by decide) (by decide) (Nat.le_of_ble_eq_true rfl) (Nat.le_of_ble_eq_true rfl) fun H39 => ?_
  refine zs_putF (pc := 41) d_Mo_init_41 kP_Mo_22 rfl z_fitA fun H41 => ?_
  refine zs_aload_n (pc := 44) (x := (some a0)) d_Mo_init_44 rfl ?_
  refine zs_bipush (pc := 45) (v := (24 : Int32)) d_Mo_init_45 (by decide) ?_
  refine zs_newa (t := 0) (cap := 24) (pc := 47) d_Mo_init_47 z_acI rfl (fun _ _ => rfl) (by decide) (by decide) (Nat.le_of_ble_eq_true rfl) (Nat.le_of_ble_eq_true rfl) fun H47 => ?_
  refine zs_putF (pc := 49) d_Mo_init_49 kP_Mo_25 rfl z_fitA fun H49 => ?_
  refine zs_aload_n (pc := 52) (x := (some a0)) d_Mo_init_52 rfl ?_
  refine zs_bipush (pc := 53) (v := (75 : Int32)) d_Mo_init_53 (by decide) ?_
  refine zs_newa (t := 0) (cap := 75) (pc := 55) d_Mo_init_55 z_acI rfl (fun _ _ => rfl) (by decide) (by decide) (Nat.le_of_ble_eq_true rfl) (Nat.le_of_ble_eq_true rfl) fun H55 => ?_
  refine zs_putF (pc := 57) d_Mo_init_57 kP_Mo_28 rfl z_fitA fun H57 => ?_
  refine zs_aload_n (pc := 60) (x := (some a0)) d_Mo_init_60 rfl ?_
  refine zs_bipush (pc := 61) (v := (75 : Int32)) d_Mo_init_61 (by decide) ?_
  refine zs_newa (t := 0) (cap := 75) (pc := 63) d_Mo_init_63 z_acI rfl (fun _ _ => rfl) (by decide) (by decide) (Nat.le_of_ble_eq_true rfl) (Nat.le_of_ble_eq_true rfl) fun H63 => ?_
  refine zs_putF (pc := 65) d_Mo_init_65 kP_Mo_31 rfl z_fitA fun H65 => ?_
  refine zs_aload_n (pc := 68) (x := (some a0)) d_Mo_init_68 rfl ?_
  refine zs_bipush (pc := 69) (v := (75 : Int32)) d_Mo_init_69 (by decide) ?_
  refine zs_newa (t := 1) (cap := 75) (pc := 71) d_Mo_init_71 z_acZ rfl (fun _ _ => rfl) (by decide) (by decide) (Nat.le_of_ble_eq_true rfl) (Nat.le_of_ble_eq_true rfl) fun H71 => ?_
  refine zs_putF (pc := 73) d_Mo_init_73 kP_Mo_34 rfl z_fitA fun H73 => ?_
  refine zs_aload_n (pc := 76) (x := (some a0)) d_Mo_init_76 rfl ?_
  refine zs_bipush (pc := 77) (v := (75 : Int32)) d_Mo_init_77 (by decide) ?_
  refine zs_newa (t := 2) (cap := 75) (pc := 79) d_Mo_init_79 z_acJ rfl (fun _ _ => rfl) (by decide) (by decide) (Nat.le_of_ble_eq_true rfl) (Nat.le_of_ble_eq_true rfl) fun H79 => ?_
  refine zs_putF (pc := 81) d_Mo_init_81 kP_Mo_38 rfl z_fitA fun H81 => ?_
  refine zs_aload_n (pc := 84) (x := (some a0)) d_Mo_init_84 rfl ?_
  refine zs_sipush (pc := 85) (v := (576 : Int32)) d_Mo_init_85 (by decide) ?_
  refine zs_newa (t := 1) (cap := 576) (pc := 88) d_Mo_init_88 z_acZ rfl (fun _ _ => rfl) (by decide) (by decide) (Nat.le_of_ble_eq_true rfl) (Nat.le_of_ble_eq_true rfl) fun H88 => ?_
  refine zs_putF (pc := 90) d_Mo_init_90 kP_Mo_42 rfl z_fitA fun H90 => ?_
  refine zs_aload_n (pc := 93) (x := (some a0)) d_Mo_init_93 rfl ?_
  refine zs_sipush (pc := 94) (v := (576 : Int32)) d_Mo_init_94 (by decide) ?_
  refine zs_newa (t := 1) (cap := 576) (pc := 97) d_Mo_init_97 z_acZ rfl (fun _ _ => rfl) (by decide) (by decide) (Nat.le_of_ble_eq_true rfl) (Nat.le_of_ble_eq_true rfl) fun H97 => ?_
  refine zs_putF (pc := 99) d_Mo_init_99 kP_Mo_45 rfl z_fitA fun H99 => ?_
  refine zs_aload_n (pc := 102) (x := (some a0)) d_Mo_init_102 rfl ?_
  refine zs_sipush (pc := 103) (v := (1280 : Int32)) d_Mo_init_103 (by decide) ?_
  refine zs_newa (t := 0) (cap := 1280) (pc := 106) d_Mo_init_106 z_acI rfl (fun _ _ => rfl) (by decide) (by decide) (Nat.le_of_ble_eq_true rfl) (Nat.le_of_ble_eq_true rfl) fun H106 => ?_
  refine zs_putF (pc := 108) d_Mo_init_108 kP_Mo_48 rfl z_fitA fun H108 => ?_
  refine zs_aload_n (pc := 111) (x := (some a0)) d_Mo_init_111 rfl ?_
  refine zs_bipush (pc := 112) (v := (24 : Int32)) d_Mo_init_112 (by decide) ?_
  refine zs_newa (t := 2) (cap := 24) (pc := 114) d_Mo_init_114 z_acJ rfl (fun _ _ => rfl) (by decide) (by decide) (Nat.le_of_ble_eq_true rfl) (Nat.le_of_ble_eq_true rfl) fun H114 => ?_
  refine zs_putF (pc := 116) d_Mo_init_116 kP_Mo_51 rfl z_fitA fun H116 => ?_
  refine zs_aload_n (pc := 119) (x := (some a0)) d_Mo_init_119 rfl ?_
  refine zs_sipush (pc := 120) (v := (150 : Int32)) d_Mo_init_120 (by decide) ?_
  refine zs_newa (t := 0) (cap := 150) (pc := 123) d_Mo_init_123 z_acI rfl (fun _ _ => rfl) (by decide) (by decide) (Nat.le_of_ble_eq_true rfl) (Nat.le_of_ble_eq_true rfl) fun H123 => ?_
  refine zs_putF (pc := 125) d_Mo_init_125 kP_Mo_54 rfl z_fitA fun H125 => ?_
  refine zs_aload_n (pc := 128) (x := (some a0)) d_Mo_init_128 rfl ?_
  refine zs_bipush (pc := 129) (v := (40 : Int32)) d_Mo_init_129 (by decide) ?_
  refine zs_newa (t := 2) (cap := 40) (pc := 131) d_Mo_init_131 z_acJ rfl (fun _ _ => rfl) (by decide) (by decide) (Nat.le_of_ble_eq_true rfl) (Nat.le_of_ble_eq_true rfl) fun H131 => ?_
  refine zs_putF (pc := 133) d_Mo_init_133 kP_Mo_57 rfl z_fitA fun H133 => ?_
  refine zs_aload_n (pc := 136) (x := (some a0)) d_Mo_init_136 rfl ?_
  refine zs_sipush (pc := 137) (v := (320 : Int32)) d_Mo_init_137 (by decide) ?_
  refine zs_newa (t := 0) (cap := 320) (pc := 140) d_Mo_init_140 z_acI rfl (fun _ _ => rfl) (by decide) (by decide) (Nat.le_of_ble_eq_true rfl) (Nat.le_of_ble_eq_true rfl) fun H140 => ?_
  refine zs_putF (pc := 142) d_Mo_init_142 kP_Mo_60 rfl z_fitA fun H142 => ?_
  refine zs_aload_n (pc := 145) (x := (some a0)) d_Mo_init_145 rfl ?_
  refine zs_bipush (pc := 146) (v := (32 : Int32)) d_Mo_init_146 (by decide) ?_
  refine zs_newa (t := 0) (cap := 32) (pc := 148) d_Mo_init_148 z_acI rfl (fun _ _ => rfl) (by decide) (by decide) (Nat.le_of_ble_eq_true rfl) (Nat.le_of_ble_eq_true rfl) fun H148 => ?_
  refine zs_putF (pc := 150) d_Mo_init_150 kP_Mo_63 rfl z_fitA fun H150 => ?_
  refine zs_aload_n (pc := 153) (x := (some a0)) d_Mo_init_153 rfl ?_
  refine zs_bipush (pc := 154) (v := (24 : Int32)) d_Mo_init_154 (by decide) ?_
  refine zs_newa (t := 2) (cap := 24) (pc := 156) d_Mo_init_156 z_acJ rfl (fun _ _ => rfl) (by decide) (by decide) (Nat.le_of_ble_eq_true rfl) (Nat.le_of_ble_eq_true rfl) fun H156 => ?_
  refine zs_putF (pc := 158) d_Mo_init_158 kP_Mo_66 rfl z_fitA fun H158 => ?_
  refine zs_aload_n (pc := 161) (x := (some a0)) d_Mo_init_161 rfl ?_
  refine zs_bipush (pc := 162) (v := (64 : Int32)) d_Mo_init_162 (by decide) ?_
  refine zs_newa (t := 0) (cap := 64) (pc := 164) d_Mo_init_164 z_acI rfl (fun _ _ => rfl) (by decide) (by decide) (Nat.le_of_ble_eq_true rfl) (Nat.le_of_ble_eq_true rfl) fun H164 => ?_
  refine zs_putF (pc := 166) d_Mo_init_166 kP_Mo_69 rfl z_fitA fun H166 => ?_
  refine zs_aload_n (pc := 169) (x := (some a0)) d_Mo_init_169 rfl ?_
  refine zs_sipush (pc := 170) (v := (192 : Int32)) d_Mo_init_170 (by decide) ?_
  refine zs_newa (t := 0) (cap := 192) (pc := 173) d_Mo_init_173 z_acI rfl (fun _ _ => rfl) (by decide) (by decide) (Nat.le_of_ble_eq_true rfl) (Nat.le_of_ble_eq_true rfl) fun H173 => ?_
  refine zs_putF (pc := 175) d_Mo_init_175 kP_Mo_72 rfl z_fitA fun H175 => ?_
  exact zs_vret (pc := 178) d_Mo_init_178 rfl (Nat.le_of_ble_eq_true rfl) (Nat.le_of_ble_eq_true rfl) rfl
def jJ_Mo_noSchema_12 (H : zH)  : Option Int32 :=
  some (1 : Int32)
def jF_Mo_noSchema (a0 : Option Nat) (a1 : Int32) (H : zH) : Option Int32 :=
  (zok H a0 1).bind fun _ =>
  if a1 < 0 then (
    jJ_Mo_noSchema_12 H)
  else (
    (zgI H a0 1 0).bind fun v6 =>
    if a1 < v6 then (
      some (0 : Int32))
    else (
      jJ_Mo_noSchema_12 H))
theorem jj_Mo_noSchema_12 {E : zE} {d : Nat} (hd : 0 ≤ d) (H : zH) : z_S E jM_Mo_noSchema d 0 0 (zrI H) 12 [] [] H 0 0 (jJ_Mo_noSchema_12 H) := by
  unfold jJ_Mo_noSchema_12
  refine zs_iconst (pc := 12) (v := (1 : Int32)) d_Mo_noSchema_12 (by decide) ?_
  refine zs_goto (pc := 13) (tgt := 17) d_Mo_noSchema_13 rfl ?_
  exact zs_zretc (pc := 17) d_Mo_noSchema_17 rfl (by decide) (Nat.le_of_ble_eq_true rfl) (Nat.le_of_ble_eq_true rfl) rfl
theorem jm_Mo_noSchema {E : zE} {d : Nat} (hd : 0 ≤ d) (a0 : Option Nat) (a1 : Int32) (H : zH) : z_MS E jM_Mo_noSchema d 0 0 (zrI H) [zR a0, zI a1] H (jF_Mo_noSchema a0 a1 H) := by
  refine zs_of (lv0 := [(0, zR a0), (1, zI a1)]) pn_Mo (Nat.le_of_ble_eq_true rfl) rfl ?_
  unfold jF_Mo_noSchema
  refine zs_bind fun _ _ => ?_
  refine zs_iload_n (pc := 0) (x := a1) d_Mo_noSchema_0 rfl ?_
  refine zs_if_lt (pc := 1) (tgt := 12) d_Mo_noSchema_1 rfl (fun q1 => ?_) (fun q1 => ?_)
  · refine zs_sub (lv' := []) [] rfl ?_
    exact jj_Mo_noSchema_12 hd H
  · refine zs_iload_n (pc := 4) (x := a1) d_Mo_noSchema_4 rfl ?_
    refine zs_aload_n (pc := 5) (x := a0) d_Mo_noSchema_5 rfl ?_
    refine zs_getI (pc := 6) d_Mo_noSchema_6 kF_Mo_75 fun v6 => ?_
    refine zs_icmp_lt (pc := 9) (tgt := 16) d_Mo_noSchema_9 rfl (fun q9 => ?_) (fun q9 => ?_)
    · refine zs_iconst (pc := 16) (v := (0 : Int32)) d_Mo_noSchema_16 (by decide) ?_
      exact zs_zretc (pc := 17) d_Mo_noSchema_17 rfl (by decide) (Nat.le_of_ble_eq_true rfl) (Nat.le_of_ble_eq_true rfl) rfl
    · refine zs_sub (lv' := []) [] rfl ?_
      exact jj_Mo_noSchema_12 hd H
def jJ_Mo_noName_10 (H : zH)  : Option Int32 :=
  some (1 : Int32)
def jF_Mo_noName (a0 : Int32) (H : zH) : Option Int32 :=
  if a0 < 0 then (
    jJ_Mo_noName_10 H)
  else (
    if a0 ≤ (7 : Int32) then (
      some (0 : Int32))
    else (
      jJ_Mo_noName_10 H))
theorem jj_Mo_noName_10 {E : zE} {d : Nat} (hd : 0 ≤ d) (H : zH) : z_S E jM_Mo_noName d 0 0 (zrI H) 10 [] [] H 0 0 (jJ_Mo_noName_10 H) := by
  unfold jJ_Mo_noName_10
  refine zs_iconst (pc := 10) (v := (1 : Int32)) d_Mo_noName_10 (by decide) ?_
  refine zs_goto (pc := 11) (tgt := 15) d_Mo_noName_11 rfl ?_
  exact zs_zretc (pc := 15) d_Mo_noName_15 rfl (by decide) (Nat.le_of_ble_eq_true rfl) (Nat.le_of_ble_eq_true rfl) rfl
theorem jm_Mo_noName {E : zE} {d : Nat} (hd : 0 ≤ d) (a0 : Int32) (H : zH) : z_MS E jM_Mo_noName d 0 0 (zrI H) [zI a0] H (jF_Mo_noName a0 H) := by
  refine zs_of (lv0 := [(0, zI a0)]) pn_Mo (Nat.le_of_ble_eq_true rfl) rfl ?_
  unfold jF_Mo_noName
  refine zs_iload_n (pc := 0) (x := a0) d_Mo_noName_0 rfl ?_
  refine zs_if_lt (pc := 1) (tgt := 10) d_Mo_noName_1 rfl (fun q1 => ?_) (fun q1 => ?_)
  · refine zs_sub (lv' := []) [] rfl ?_
    exact jj_Mo_noName_10 hd H
  · refine zs_iload_n (pc := 4) (x := a0) d_Mo_noName_4 rfl ?_
    refine zs_bipush (pc := 5) (v := (7 : Int32)) d_Mo_noName_5 (by decide) ?_
    refine zs_icmp_le (pc := 7) (tgt := 14) d_Mo_noName_7 rfl (fun q7 => ?_) (fun q7 => ?_)
    · refine zs_iconst (pc := 14) (v := (0 : Int32)) d_Mo_noName_14 (by decide) ?_
      exact zs_zretc (pc := 15) d_Mo_noName_15 rfl (by decide) (Nat.le_of_ble_eq_true rfl) (Nat.le_of_ble_eq_true rfl) rfl
    · refine zs_sub (lv' := []) [] rfl ?_
      exact jj_Mo_noName_10 hd H
def jJ_Mo_scalar_26 (H : zH)  : Option Int32 :=
  some (1 : Int32)
def jF_Mo_scalar (a0 : Option Nat) (a1 : Int32) (a2 : Int64) (H : zH) : Option Int32 :=
  (zok H a0 1).bind fun _ =>
  (zgR H a0 1 1).bind fun v1 =>
  (zaI H v1 0 a1).bind fun v5 =>
  if v5 = (1 : Int32) then (
    if a2 = (0 : Int64) then (
      jJ_Mo_scalar_26 H)
    else (
      if a2 = (1 : Int64) then (
        jJ_Mo_scalar_26 H)
      else (
        some (0 : Int32))))
  else (
    if v5 = (2 : Int32) then (
      if a2 = a2.toInt32.toInt64 then (
        some (1 : Int32))
      else (
        some (0 : Int32)))
    else (
      if v5 = (4 : Int32) then (
        if a2 < (0 : Int64) then (
          some (0 : Int32))
        else (
          if (7 : Int64) < a2 then (
            some (0 : Int32))
          else (
            (zgR H a0 1 3).bind fun v73 =>
            (zaI H v73 0 a1).bind fun v77 =>
            if ((v77 >>> (a2.toInt32 &&& 31)) &&& (1 : Int32)) = (1 : Int32) then (
              some (1 : Int32))
            else (
              some (0 : Int32)))))
      else (
        some (1 : Int32))))
theorem jj_Mo_scalar_26 {E : zE} {d : Nat} (hd : 0 ≤ d) (H : zH) : z_S E jM_Mo_scalar d 0 0 (zrI H) 26 [] [] H 0 0 (jJ_Mo_scalar_26 H) := by
  unfold jJ_Mo_scalar_26
  refine zs_iconst (pc := 26) (v := (1 : Int32)) d_Mo_scalar_26 (by decide) ?_
  refine zs_goto (pc := 27) (tgt := 31) d_Mo_scalar_27 rfl ?_
  exact zs_zretc (pc := 31) d_Mo_scalar_31 rfl (by decide) (Nat.le_of_ble_eq_true rfl) (Nat.le_of_ble_eq_true rfl) rfl
theorem jm_Mo_scalar {E : zE} {d : Nat} (hd : 0 ≤ d) (a0 : Option Nat) (a1 : Int32) (a2 : Int64) (H : zH) : z_MS E jM_Mo_scalar d 0 0 (zrI H) [zR a0, zI a1, zL a2] H (jF_Mo_scalar a0 a1 a2 H) := by
  refine zs_of (lv0 := [(0, zR a0), (1, zI a1), (2, zL a2)]) pn_Mo (Nat.le_of_ble_eq_true rfl) rfl ?_
  unfold jF_Mo_scalar
  refine zs_bind fun _ _ => ?_
  refine zs_aload_n (pc := 0) (x := a0) d_Mo_scalar_0 rfl ?_
  refine zs_getR (pc := 1) d_Mo_scalar_1 kF_Mo_7 fun v1 => ?_
  refine zs_iload_n (pc := 4) (x := a1) d_Mo_scalar_4 rfl ?_
  refine zs_iald (t := 0) (pc := 5) d_Mo_scalar_5 rfl fun v5 => ?_
  refine zs_istore (pc := 6) (lv' := [(4, zI v5), (0, zR a0), (1, zI a1), (2, zL a2)]) d_Mo_scalar_6 (Nat.le_of_ble_eq_true rfl) rfl ?_
  refine zs_iload (pc := 8) (x := v5) d_Mo_scalar_8 rfl ?_
  refine zs_iconst (pc := 10) (v := (1 : Int32)) d_Mo_scalar_10 (by decide) ?_
  refine zs_icmp_ne (pc := 11) (tgt := 32) d_Mo_scalar_11 rfl (fun q11 => ?_) (fun q11 => ?_)
  · refine zs_iload (pc := 32) (x := v5) d_Mo_scalar_32 rfl ?_
    refine zs_iconst (pc := 34) (v := (2 : Int32)) d_Mo_scalar_34 (by decide) ?_
    refine zs_icmp_ne (pc := 35) (tgt := 52) d_Mo_scalar_35 rfl (fun q35 => ?_) (fun q35 => ?_)
    · refine zs_iload (pc := 52) (x := v5) d_Mo_scalar_52 rfl ?_
      refine zs_iconst (pc := 54) (v := (4 : Int32)) d_Mo_scalar_54 (by decide) ?_
      refine zs_icmp_ne (pc := 55) (tgt := 93) d_Mo_scalar_55 rfl (fun q55 => ?_) (fun q55 => ?_)
      · refine zs_iconst (pc := 93) (v := (1 : Int32)) d_Mo_scalar_93 (by decide) ?_
        exact zs_zretc (pc := 94) d_Mo_scalar_94 rfl (by decide) (Nat.le_of_ble_eq_true rfl) (Nat.le_of_ble_eq_true rfl) rfl
      · refine zs_lload_n (pc := 58) (x := a2) d_Mo_scalar_58 rfl ?_
        refine zs_lconst (pc := 59) (v := (0 : Int64)) d_Mo_scalar_59 (by decide) ?_
        refine zs_lcmp_lt (pc := 60) (tgt := 91) d_Mo_scalar_60 d_Mo_scalar_61 rfl (fun q60 => ?_) (fun q60 => ?_)
        · refine zs_iconst (pc := 91) (v := (0 : Int32)) d_Mo_scalar_91 (by decide) ?_
          exact zs_zretc (pc := 92) d_Mo_scalar_92 rfl (by decide) (Nat.le_of_ble_eq_true rfl) (Nat.le_of_ble_eq_true rfl) rfl
        · refine zs_lload_n (pc := 64) (x := a2) d_Mo_scalar_64 rfl ?_
          refine zs_ldc2 (pc := 65) (v := (7 : Int64)) d_Mo_scalar_65 kC_Mo_83 ?_
          refine zs_lcmp_gt (pc := 68) (tgt := 91) d_Mo_scalar_68 d_Mo_scalar_69 rfl (fun q68 => ?_) (fun q68 => ?_)
          · refine zs_iconst (pc := 91) (v := (0 : Int32)) d_Mo_scalar_91 (by decide) ?_
            exact zs_zretc (pc := 92) d_Mo_scalar_92 rfl (by decide) (Nat.le_of_ble_eq_true rfl) (Nat.le_of_ble_eq_true rfl) rfl
          · refine zs_aload_n (pc := 72) (x := a0) d_Mo_scalar_72 rfl ?_
            refine zs_getR (pc := 73) d_Mo_scalar_73 kF_Mo_16 fun v73 => ?_
            refine zs_iload_n (pc := 76) (x := a1) d_Mo_scalar_76 rfl ?_
            refine zs_iald (t := 0) (pc := 77) d_Mo_scalar_77 rfl fun v77 => ?_
            refine zs_lload_n (pc := 78) (x := a2) d_Mo_scalar_78 rfl ?_
            refine zs_l2i (pc := 79) d_Mo_scalar_79 ?_
            refine zs_ishr (pc := 80) d_Mo_scalar_80 ?_
            refine zs_iconst (pc := 81) (v := (1 : Int32)) d_Mo_scalar_81 (by decide) ?_
            refine zs_iand (pc := 82) d_Mo_scalar_82 ?_
            refine zs_iconst (pc := 83) (v := (1 : Int32)) d_Mo_scalar_83 (by decide) ?_
            refine zs_icmp_ne (pc := 84) (tgt := 91) d_Mo_scalar_84 rfl (fun q84 => ?_) (fun q84 => ?_)
            · refine zs_iconst (pc := 91) (v := (0 : Int32)) d_Mo_scalar_91 (by decide) ?_
              exact zs_zretc (pc := 92) d_Mo_scalar_92 rfl (by decide) (Nat.le_of_ble_eq_true rfl) (Nat.le_of_ble_eq_true rfl) rfl
            · refine zs_iconst (pc := 87) (v := (1 : Int32)) d_Mo_scalar_87 (by decide) ?_
              refine zs_goto (pc := 88) (tgt := 92) d_Mo_scalar_88 rfl ?_
              exact zs_zretc (pc := 92) d_Mo_scalar_92 rfl (by decide) (Nat.le_of_ble_eq_true rfl) (Nat.le_of_ble_eq_true rfl) rfl
    · refine zs_lload_n (pc := 38) (x := a2) d_Mo_scalar_38 rfl ?_
      refine zs_lload_n (pc := 39) (x := a2) d_Mo_scalar_39 rfl ?_
      refine zs_l2i (pc := 40) d_Mo_scalar_40 ?_
      refine zs_i2l (pc := 41) d_Mo_scalar_41 ?_
      refine zs_lcmp_ne (pc := 42) (tgt := 50) d_Mo_scalar_42 d_Mo_scalar_43 rfl (fun q42 => ?_) (fun q42 => ?_)
      · refine zs_iconst (pc := 50) (v := (0 : Int32)) d_Mo_scalar_50 (by decide) ?_
        exact zs_zretc (pc := 51) d_Mo_scalar_51 rfl (by decide) (Nat.le_of_ble_eq_true rfl) (Nat.le_of_ble_eq_true rfl) rfl
      · refine zs_iconst (pc := 46) (v := (1 : Int32)) d_Mo_scalar_46 (by decide) ?_
        refine zs_goto (pc := 47) (tgt := 51) d_Mo_scalar_47 rfl ?_
        exact zs_zretc (pc := 51) d_Mo_scalar_51 rfl (by decide) (Nat.le_of_ble_eq_true rfl) (Nat.le_of_ble_eq_true rfl) rfl
  · refine zs_lload_n (pc := 14) (x := a2) d_Mo_scalar_14 rfl ?_
    refine zs_lconst (pc := 15) (v := (0 : Int64)) d_Mo_scalar_15 (by decide) ?_
    refine zs_lcmp_eq (pc := 16) (tgt := 26) d_Mo_scalar_16 d_Mo_scalar_17 rfl (fun q16 => ?_) (fun q16 => ?_)
    · refine zs_sub (lv' := []) [] rfl ?_
      exact jj_Mo_scalar_26 hd H
    · refine zs_lload_n (pc := 20) (x := a2) d_Mo_scalar_20 rfl ?_
      refine zs_lconst (pc := 21) (v := (1 : Int64)) d_Mo_scalar_21 (by decide) ?_
      refine zs_lcmp_ne (pc := 22) (tgt := 30) d_Mo_scalar_22 d_Mo_scalar_23 rfl (fun q22 => ?_) (fun q22 => ?_)
      · refine zs_iconst (pc := 30) (v := (0 : Int32)) d_Mo_scalar_30 (by decide) ?_
        exact zs_zretc (pc := 31) d_Mo_scalar_31 rfl (by decide) (Nat.le_of_ble_eq_true rfl) (Nat.le_of_ble_eq_true rfl) rfl
      · refine zs_sub (lv' := []) [] rfl ?_
        exact jj_Mo_scalar_26 hd H
def jJ_Mo_isDefault_52 (H : zH) (a2 : Int64) : Option Int32 :=
  if a2 = (0 : Int64) then (
    some (1 : Int32))
  else (
    some (0 : Int32))
def jJ_Mo_isDefault_80 (H : zH)  : Option Int32 :=
  some (1 : Int32)
def jJ_Mo_isDefault_21 (H : zH) (s0 : Int32) (a0 : Option Nat) (a2 : Int64) : Option Int32 :=
  (zgR H a0 1 1).bind fun v24 =>
  (zaI H v24 0 s0).bind fun v29 =>
  if v29 = (7 : Int32) then (
    some (0 : Int32))
  else (
    if v29 = 0 then (
      jJ_Mo_isDefault_52 H a2)
    else (
      if v29 = (5 : Int32) then (
        jJ_Mo_isDefault_52 H a2)
      else (
        if v29 = (3 : Int32) then (
          jJ_Mo_isDefault_80 H)
        else (
          (jF_Mo_scalar a0 s0 a2 H).bind fun y74 =>
          if y74 = 0 then (
            some (0 : Int32))
          else (
            jJ_Mo_isDefault_80 H)))))
def jF_Mo_isDefault (a0 : Option Nat) (a1 : Int32) (a2 : Int64) (H : zH) : Option Int32 :=
  (zok H a0 1).bind fun _ =>
  (zgR H a0 1 1).bind fun v1 =>
  (zaI H v1 0 a1).bind fun v5 =>
  if v5 = (6 : Int32) then (
    (zgR H a0 1 3).bind fun v12 =>
    (zaI H v12 0 a1).bind fun v16 =>
    jJ_Mo_isDefault_21 H v16 a0 a2)
  else (
    jJ_Mo_isDefault_21 H a1 a0 a2)
theorem jj_Mo_isDefault_52 {E : zE} {d : Nat} (hd : 1 ≤ d) (H : zH) : ∀ (a2 : Int64), z_S E jM_Mo_isDefault d 0 0 (zrI H) 52 [(2, zL a2)] [] H 0 0 (jJ_Mo_isDefault_52 H a2) := by
  intro a2
  unfold jJ_Mo_isDefault_52
  refine zs_lload_n (pc := 52) (x := a2) d_Mo_isDefault_52 rfl ?_
  refine zs_lconst (pc := 53) (v := (0 : Int64)) d_Mo_isDefault_53 (by decide) ?_
  refine zs_lcmp_ne (pc := 54) (tgt := 62) d_Mo_isDefault_54 d_Mo_isDefault_55 rfl (fun q54 => ?_) (fun q54 => ?_)
  · refine zs_iconst (pc := 62) (v := (0 : Int32)) d_Mo_isDefault_62 (by decide) ?_
    exact zs_zretc (pc := 63) d_Mo_isDefault_63 rfl (by decide) (Nat.le_of_ble_eq_true rfl) (Nat.le_of_ble_eq_true rfl) rfl
  · refine zs_iconst (pc := 58) (v := (1 : Int32)) d_Mo_isDefault_58 (by decide) ?_
    refine zs_goto (pc := 59) (tgt := 63) d_Mo_isDefault_59 rfl ?_
    exact zs_zretc (pc := 63) d_Mo_isDefault_63 rfl (by decide) (Nat.le_of_ble_eq_true rfl) (Nat.le_of_ble_eq_true rfl) rfl
theorem jj_Mo_isDefault_80 {E : zE} {d : Nat} (hd : 1 ≤ d) (H : zH) : z_S E jM_Mo_isDefault d 0 0 (zrI H) 80 [] [] H 0 0 (jJ_Mo_isDefault_80 H) := by
  unfold jJ_Mo_isDefault_80
  refine zs_iconst (pc := 80) (v := (1 : Int32)) d_Mo_isDefault_80 (by decide) ?_
  refine zs_goto (pc := 81) (tgt := 85) d_Mo_isDefault_81 rfl ?_
  exact zs_zretc (pc := 85) d_Mo_isDefault_85 rfl (by decide) (Nat.le_of_ble_eq_true rfl) (Nat.le_of_ble_eq_true rfl) rfl
theorem jj_Mo_isDefault_21 {E : zE} {d : Nat} (hd : 1 ≤ d) (H : zH) : ∀ (s0 : Int32) (a0 : Option Nat) (a2 : Int64), z_S E jM_Mo_isDefault d 0 0 (zrI H) 21 [(0, zR a0), (2, zL a2)] [zI s0] H 0 0 (jJ_Mo_isDefault_21 H s0 a0 a2) := by
  intro s0 a0 a2
  unfold jJ_Mo_isDefault_21
  refine zs_istore (pc := 21) (lv' := [(4, zI s0), (0, zR a0), (2, zL a2)]) d_Mo_isDefault_21 (Nat.le_of_ble_eq_true rfl) rfl ?_
  refine zs_aload_n (pc := 23) (x := a0) d_Mo_isDefault_23 rfl ?_
  refine zs_getR (pc := 24) d_Mo_isDefault_24 kF_Mo_7 fun v24 => ?_
  refine zs_iload (pc := 27) (x := s0) d_Mo_isDefault_27 rfl ?_
  refine zs_iald (t := 0) (pc := 29) d_Mo_isDefault_29 rfl fun v29 => ?_
  refine zs_istore (pc := 30) (lv' := [(5, zI v29), (4, zI s0), (0, zR a0), (2, zL a2)]) d_Mo_isDefault_30 (Nat.le_of_ble_eq_true rfl) rfl ?_
  refine zs_iload (pc := 32) (x := v29) d_Mo_isDefault_32 rfl ?_
  refine zs_bipush (pc := 34) (v := (7 : Int32)) d_Mo_isDefault_34 (by decide) ?_
  refine zs_icmp_ne (pc := 36) (tgt := 41) d_Mo_isDefault_36 rfl (fun q36 => ?_) (fun q36 => ?_)
  · refine zs_iload (pc := 41) (x := v29) d_Mo_isDefault_41 rfl ?_
    refine zs_if_eq (pc := 43) (tgt := 52) d_Mo_isDefault_43 rfl (fun q43 => ?_) (fun q43 => ?_)
    · refine zs_sub (lv' := [(2, zL a2)]) [3] rfl ?_
      exact jj_Mo_isDefault_52 hd H a2
    · refine zs_iload (pc := 46) (x := v29) d_Mo_isDefault_46 rfl ?_
      refine zs_iconst (pc := 48) (v := (5 : Int32)) d_Mo_isDefault_48 (by decide) ?_
      refine zs_icmp_ne (pc := 49) (tgt := 64) d_Mo_isDefault_49 rfl (fun q49 => ?_) (fun q49 => ?_)
      · refine zs_iload (pc := 64) (x := v29) d_Mo_isDefault_64 rfl ?_
        refine zs_iconst (pc := 66) (v := (3 : Int32)) d_Mo_isDefault_66 (by decide) ?_
        refine zs_icmp_eq (pc := 67) (tgt := 80) d_Mo_isDefault_67 rfl (fun q67 => ?_) (fun q67 => ?_)
        · refine zs_sub (lv' := []) [] rfl ?_
          exact jj_Mo_isDefault_80 hd H
        · refine zs_aload_n (pc := 70) (x := a0) d_Mo_isDefault_70 rfl ?_
          refine zs_iload (pc := 71) (x := s0) d_Mo_isDefault_71 rfl ?_
          refine zs_lload_n (pc := 73) (x := a2) d_Mo_isDefault_73 rfl ?_
          refine zs_callv_rI (pc := 74) (av := [zI s0, zL a2]) (st := []) (d' := 0) (C' := 0) (S' := 0) d_Mo_isDefault_74 kV_Mo_79 z_okb (jm_Mo_scalar (d := 0) (Nat.le_refl _) a0 s0 a2 H) (by omega) (Nat.le_of_ble_eq_true rfl) (Nat.le_of_ble_eq_true rfl) rfl rfl (Nat.le_of_ble_eq_true rfl) fun y74 => ?_
          refine zs_if_eq (pc := 77) (tgt := 84) d_Mo_isDefault_77 rfl (fun q77 => ?_) (fun q77 => ?_)
          · refine zs_iconst (pc := 84) (v := (0 : Int32)) d_Mo_isDefault_84 (by decide) ?_
            exact zs_zretc (pc := 85) d_Mo_isDefault_85 rfl (by decide) (Nat.le_of_ble_eq_true rfl) (Nat.le_of_ble_eq_true rfl) rfl
          · refine zs_sub (lv' := []) [] rfl ?_
            exact jj_Mo_isDefault_80 hd H
      · refine zs_sub (lv' := [(2, zL a2)]) [3] rfl ?_
        exact jj_Mo_isDefault_52 hd H a2
  · refine zs_iconst (pc := 39) (v := (0 : Int32)) d_Mo_isDefault_39 (by decide) ?_
    exact zs_zretc (pc := 40) d_Mo_isDefault_40 rfl (by decide) (Nat.le_of_ble_eq_true rfl) (Nat.le_of_ble_eq_true rfl) rfl
theorem jm_Mo_isDefault {E : zE} {d : Nat} (hd : 1 ≤ d) (a0 : Option Nat) (a1 : Int32) (a2 : Int64) (H : zH) : z_MS E jM_Mo_isDefault d 0 0 (zrI H) [zR a0, zI a1, zL a2] H (jF_Mo_isDefault a0 a1 a2 H) := by
  refine zs_of (lv0 := [(0, zR a0), (1, zI a1), (2, zL a2)]) pn_Mo (Nat.le_of_ble_eq_true rfl) rfl ?_
  unfold jF_Mo_isDefault
  refine zs_bind fun _ _ => ?_
  refine zs_aload_n (pc := 0) (x := a0) d_Mo_isDefault_0 rfl ?_
  refine zs_getR (pc := 1) d_Mo_isDefault_1 kF_Mo_7 fun v1 => ?_
  refine zs_iload_n (pc := 4) (x := a1) d_Mo_isDefault_4 rfl ?_
  refine zs_iald (t := 0) (pc := 5) d_Mo_isDefault_5 rfl fun v5 => ?_
  refine zs_bipush (pc := 6) (v := (6 : Int32)) d_Mo_isDefault_6 (by decide) ?_
  refine zs_icmp_ne (pc := 8) (tgt := 20) d_Mo_isDefault_8 rfl (fun q8 => ?_) (fun q8 => ?_)
  · refine zs_iload_n (pc := 20) (x := a1) d_Mo_isDefault_20 rfl ?_
    refine zs_sub (lv' := [(0, zR a0), (2, zL a2)]) [0, 2] rfl ?_
    exact jj_Mo_isDefault_21 hd H a1 a0 a2
  · refine zs_aload_n (pc := 11) (x := a0) d_Mo_isDefault_11 rfl ?_
    refine zs_getR (pc := 12) d_Mo_isDefault_12 kF_Mo_16 fun v12 => ?_
    refine zs_iload_n (pc := 15) (x := a1) d_Mo_isDefault_15 rfl ?_
    refine zs_iald (t := 0) (pc := 16) d_Mo_isDefault_16 rfl fun v16 => ?_
    refine zs_goto (pc := 17) (tgt := 21) d_Mo_isDefault_17 rfl ?_
    refine zs_sub (lv' := [(0, zR a0), (2, zL a2)]) [0, 2] rfl ?_
    exact jj_Mo_isDefault_21 hd H v16 a0 a2
def jL_Mo_field_42 (fu : Nat) : Nat → Option Nat → Int32 → Int32 → Int32 → Int64 → Int32 → zH → Option (Int32 × zH)
  | 0, _, _, _, _, _, _, _ => none
  | g + 1, a0, a1, a2, a3, a4, a6, H =>
    (zgI H a0 1 13).bind fun v45 =>
    if v45 ≤ a6 then (
      (zgR H a0 1 7).bind fun v74 =>
      (zgI H a0 1 13).bind fun v80 =>
      (zsI H v74 0 ((72 : Int32) + v80) a1).bind fun H85 =>
      (zgR H85 a0 1 8).bind fun v87 =>
      (zgI H85 a0 1 13).bind fun v93 =>
      (zsI H85 v87 0 ((72 : Int32) + v93) a2).bind fun H98 =>
      (zgR H98 a0 1 9).bind fun v100 =>
      (zgI H98 a0 1 13).bind fun v106 =>
      (zsZ H98 v100 1 ((72 : Int32) + v106) a3).bind fun H111 =>
      (zgR H111 a0 1 10).bind fun v113 =>
      (zgI H111 a0 1 13).bind fun v119 =>
      (zsL H111 v113 2 ((72 : Int32) + v119) a4).bind fun H125 =>
      (zgI H125 a0 1 13).bind fun v128 =>
      (zpV H125 a0 1 13 (zI (v128 + (1 : Int32)))).bind fun H133 =>
      (zgI H133 a0 1 13).bind fun v137 =>
      some (v137, H133))
    else (
      (zgR H a0 1 7).bind fun v52 =>
      (zaI H v52 0 ((72 : Int32) + a6)).bind fun v60 =>
      if v60 = a1 then (
        some ((-1 : Int32), H))
      else (
        jL_Mo_field_42 fu g a0 a1 a2 a3 a4 (a6 + (1 : Int32)) H))
def jF_Mo_field (fu : Nat) (a0 : Option Nat) (a1 : Int32) (a2 : Int32) (a3 : Int32) (a4 : Int64) (H : zH) : Option (Int32 × zH) :=
  (zok H a0 1).bind fun _ =>
  (zgI H a0 1 13).bind fun v1 =>
  if v1 = (3 : Int32) then (
    some ((-1 : Int32), H))
  else (
    (jF_Mo_noName a1 H).bind fun y9 =>
    if y9 = 0 then (
      (jF_Mo_noSchema a0 a2 H).bind fun y17 =>
      if y17 = 0 then (
        if a3 = 0 then (
          jL_Mo_field_42 fu fu a0 a1 a2 a3 a4 (0 : Int32) H)
        else (
          (jF_Mo_isDefault a0 a2 a4 H).bind fun y31 =>
          if y31 = 0 then (
            some ((-1 : Int32), H))
          else (
            jL_Mo_field_42 fu fu a0 a1 a2 a3 a4 (0 : Int32) H)))
      else (
        some ((-1 : Int32), H)))
    else (
      some ((-1 : Int32), H)))
theorem jl_Mo_field_42 {E : zE} {d : Nat} (hd : 2 ≤ d) (fu : Nat) : ∀ (g : Nat), ∀ (a0 : Option Nat) (a1 : Int32) (a2 : Int32) (a3 : Int32) (a4 : Int64) (a6 : Int32) (H : zH), z_S E jM_Mo_field d 0 0 zwI 42 [(0, zR a0), (1, zI a1), (2, zI a2), (3, zI a3), (4, zL a4), (6, zI a6)] [] H 0 0 (jL_Mo_field_42 fu g a0 a1 a2 a3 a4 a6 H) := by
  intro g
  induction g with
  | zero => intros; exact zs_none
  | succ g ih =>
    intro a0 a1 a2 a3 a4 a6 H
    rw [jL_Mo_field_42]
    refine zs_iload (pc := 42) (x := a6) d_Mo_field_42 rfl ?_
    refine zs_aload_n (pc := 44) (x := a0) d_Mo_field_44 rfl ?_
    refine zs_getI (pc := 45) d_Mo_field_45 kF_Mo_85 fun v45 => ?_
    refine zs_icmp_ge (pc := 48) (tgt := 73) d_Mo_field_48 rfl (fun q48 => ?_) (fun q48 => ?_)
    · refine zs_aload_n (pc := 73) (x := a0) d_Mo_field_73 rfl ?_
      refine zs_getR (pc := 74) d_Mo_field_74 kF_Mo_28 fun v74 => ?_
      refine zs_bipush (pc := 77) (v := (72 : Int32)) d_Mo_field_77 (by decide) ?_
      refine zs_aload_n (pc := 79) (x := a0) d_Mo_field_79 rfl ?_
      refine zs_getI (pc := 80) d_Mo_field_80 kF_Mo_85 fun v80 => ?_
      refine zs_iadd (pc := 83) d_Mo_field_83 ?_
      refine zs_iload_n (pc := 84) (x := a1) d_Mo_field_84 rfl ?_
      refine zs_iast (t := 0) (pc := 85) d_Mo_field_85 rfl fun H85 => ?_
      refine zs_aload_n (pc := 86) (x := a0) d_Mo_field_86 rfl ?_
      refine zs_getR (pc := 87) d_Mo_field_87 kF_Mo_31 fun v87 => ?_
      refine zs_bipush (pc := 90) (v := (72 : Int32)) d_Mo_field_90 (by decide) ?_
      refine zs_aload_n (pc := 92) (x := a0) d_Mo_field_92 rfl ?_
      refine zs_getI (pc := 93) d_Mo_field_93 kF_Mo_85 fun v93 => ?_
      refine zs_iadd (pc := 96) d_Mo_field_96 ?_
      refine zs_iload_n (pc := 97) (x := a2) d_Mo_field_97 rfl ?_
      refine zs_iast (t := 0) (pc := 98) d_Mo_field_98 rfl fun H98 => ?_
      refine zs_aload_n (pc := 99) (x := a0) d_Mo_field_99 rfl ?_
      refine zs_getR (pc := 100) d_Mo_field_100 kF_Mo_34 fun v100 => ?_
      refine zs_bipush (pc := 103) (v := (72 : Int32)) d_Mo_field_103 (by decide) ?_
      refine zs_aload_n (pc := 105) (x := a0) d_Mo_field_105 rfl ?_
      refine zs_getI (pc := 106) d_Mo_field_106 kF_Mo_85 fun v106 => ?_
      refine zs_iadd (pc := 109) d_Mo_field_109 ?_
      refine zs_iload_n (pc := 110) (x := a3) d_Mo_field_110 rfl ?_
      refine zs_zast (t := 1) (pc := 111) d_Mo_field_111 rfl fun H111 => ?_
      refine zs_aload_n (pc := 112) (x := a0) d_Mo_field_112 rfl ?_
      refine zs_getR (pc := 113) d_Mo_field_113 kF_Mo_38 fun v113 => ?_
      refine zs_bipush (pc := 116) (v := (72 : Int32)) d_Mo_field_116 (by decide) ?_
      refine zs_aload_n (pc := 118) (x := a0) d_Mo_field_118 rfl ?_
      refine zs_getI (pc := 119) d_Mo_field_119 kF_Mo_85 fun v119 => ?_
      refine zs_iadd (pc := 122) d_Mo_field_122 ?_
      refine zs_lload (pc := 123) (x := a4) d_Mo_field_123 rfl ?_
      refine zs_last (t := 2) (pc := 125) d_Mo_field_125 rfl fun H125 => ?_
      refine zs_aload_n (pc := 126) (x := a0) d_Mo_field_126 rfl ?_
      refine zs_dup (pc := 127) d_Mo_field_127 rfl ?_
      refine zs_getI (pc := 128) d_Mo_field_128 kF_Mo_85 fun v128 => ?_
      refine zs_iconst (pc := 131) (v := (1 : Int32)) d_Mo_field_131 (by decide) ?_
      refine zs_iadd (pc := 132) d_Mo_field_132 ?_
      refine zs_put (pc := 133) d_Mo_field_133 kP_Mo_85 z_fitI fun H133 => ?_
      refine zs_aload_n (pc := 136) (x := a0) d_Mo_field_136 rfl ?_
      refine zs_getI (pc := 137) d_Mo_field_137 kF_Mo_85 fun v137 => ?_
      exact zs_iret (pc := 140) d_Mo_field_140 rfl (Nat.le_of_ble_eq_true rfl) (Nat.le_of_ble_eq_true rfl) rfl
    · refine zs_aload_n (pc := 51) (x := a0) d_Mo_field_51 rfl ?_
      refine zs_getR (pc := 52) d_Mo_field_52 kF_Mo_28 fun v52 => ?_
      refine zs_bipush (pc := 55) (v := (72 : Int32)) d_Mo_field_55 (by decide) ?_
      refine zs_iload (pc := 57) (x := a6) d_Mo_field_57 rfl ?_
      refine zs_iadd (pc := 59) d_Mo_field_59 ?_
      refine zs_iald (t := 0) (pc := 60) d_Mo_field_60 rfl fun v60 => ?_
      refine zs_iload_n (pc := 61) (x := a1) d_Mo_field_61 rfl ?_
      refine zs_icmp_ne (pc := 62) (tgt := 67) d_Mo_field_62 rfl (fun q62 => ?_) (fun q62 => ?_)
      · refine zs_iinc (pc := 67) (x := a6) (v := (a6 + (1 : Int32))) (lv' := [(6, zI (a6 + (1 : Int32))), (0, zR a0), (1, zI a1), (2, zI a2), (3, zI a3), (4, zL a4)]) d_Mo_field_67 rfl rfl (Nat.le_of_ble_eq_true rfl) rfl ?_
        refine zs_goto (pc := 70) (tgt := 42) d_Mo_field_70 rfl ?_
        refine zs_sub (lv' := [(0, zR a0), (1, zI a1), (2, zI a2), (3, zI a3), (4, zL a4), (6, zI (a6 + (1 : Int32)))]) [1, 2, 3, 4, 5, 0] rfl ?_
        exact ih a0 a1 a2 a3 a4 (a6 + (1 : Int32)) H
      · refine zs_iconst (pc := 65) (v := (-1 : Int32)) d_Mo_field_65 (by decide) ?_
        exact zs_iret (pc := 66) d_Mo_field_66 rfl (Nat.le_of_ble_eq_true rfl) (Nat.le_of_ble_eq_true rfl) rfl
theorem jm_Mo_field {E : zE} {d : Nat} (hd : 2 ≤ d) (fu : Nat) (a0 : Option Nat) (a1 : Int32) (a2 : Int32) (a3 : Int32) (a4 : Int64) (H : zH) : z_MS E jM_Mo_field d 0 0 zwI [zR a0, zI a1, zI a2, zI a3, zL a4] H (jF_Mo_field fu a0 a1 a2 a3 a4 H) := by
  refine zs_of (lv0 := [(0, zR a0), (1, zI a1), (2, zI a2), (3, zI a3), (4, zL a4)]) pn_Mo (Nat.le_of_ble_eq_true rfl) rfl ?_
  unfold jF_Mo_field
  refine zs_bind fun _ _ => ?_
  refine zs_aload_n (pc := 0) (x := a0) d_Mo_field_0 rfl ?_
  refine zs_getI (pc := 1) d_Mo_field_1 kF_Mo_85 fun v1 => ?_
  refine zs_iconst (pc := 4) (v := (3 : Int32)) d_Mo_field_4 (by decide) ?_
  refine zs_icmp_eq (pc := 5) (tgt := 37) d_Mo_field_5 rfl (fun q5 => ?_) (fun q5 => ?_)
  · refine zs_iconst (pc := 37) (v := (-1 : Int32)) d_Mo_field_37 (by decide) ?_
    exact zs_iret (pc := 38) d_Mo_field_38 rfl (Nat.le_of_ble_eq_true rfl) (Nat.le_of_ble_eq_true rfl) rfl
  · refine zs_iload_n (pc := 8) (x := a1) d_Mo_field_8 rfl ?_
    refine zs_calls_rI (pc := 9) (av := [zI a1]) (st := []) (d' := 0) (C' := 0) (S' := 0) d_Mo_field_9 kS_Mo_88 (jm_Mo_noName (d := 0) (Nat.le_refl _) a1 H) (by omega) (Nat.le_of_ble_eq_true rfl) (Nat.le_of_ble_eq_true rfl) rfl rfl (Nat.le_of_ble_eq_true rfl) fun y9 => ?_
    refine zs_if_ne (pc := 12) (tgt := 37) d_Mo_field_12 rfl (fun q12 => ?_) (fun q12 => ?_)
    · refine zs_iconst (pc := 37) (v := (-1 : Int32)) d_Mo_field_37 (by decide) ?_
      exact zs_iret (pc := 38) d_Mo_field_38 rfl (Nat.le_of_ble_eq_true rfl) (Nat.le_of_ble_eq_true rfl) rfl
    · refine zs_aload_n (pc := 15) (x := a0) d_Mo_field_15 rfl ?_
      refine zs_iload_n (pc := 16) (x := a2) d_Mo_field_16 rfl ?_
      refine zs_callv_rI (pc := 17) (av := [zI a2]) (st := []) (d' := 0) (C' := 0) (S' := 0) d_Mo_field_17 kV_Mo_92 z_okb (jm_Mo_noSchema (d := 0) (Nat.le_refl _) a0 a2 H) (by omega) (Nat.le_of_ble_eq_true rfl) (Nat.le_of_ble_eq_true rfl) rfl rfl (Nat.le_of_ble_eq_true rfl) fun y17 => ?_
      refine zs_if_ne (pc := 20) (tgt := 37) d_Mo_field_20 rfl (fun q20 => ?_) (fun q20 => ?_)
      · refine zs_iconst (pc := 37) (v := (-1 : Int32)) d_Mo_field_37 (by decide) ?_
        exact zs_iret (pc := 38) d_Mo_field_38 rfl (Nat.le_of_ble_eq_true rfl) (Nat.le_of_ble_eq_true rfl) rfl
      · refine zs_iload_n (pc := 23) (x := a3) d_Mo_field_23 rfl ?_
        refine zs_if_eq (pc := 24) (tgt := 39) d_Mo_field_24 rfl (fun q24 => ?_) (fun q24 => ?_)
        · refine zs_iconst (pc := 39) (v := (0 : Int32)) d_Mo_field_39 (by decide) ?_
          refine zs_istore (pc := 40) (lv' := [(6, zI (0 : Int32)), (0, zR a0), (1, zI a1), (2, zI a2), (3, zI a3), (4, zL a4)]) d_Mo_field_40 (Nat.le_of_ble_eq_true rfl) rfl ?_
          refine zs_sub (lv' := [(0, zR a0), (1, zI a1), (2, zI a2), (3, zI a3), (4, zL a4), (6, zI (0 : Int32))]) [1, 2, 3, 4, 5, 0] rfl ?_
          exact jl_Mo_field_42 hd fu fu a0 a1 a2 a3 a4 (0 : Int32) H
        · refine zs_aload_n (pc := 27) (x := a0) d_Mo_field_27 rfl ?_
          refine zs_iload_n (pc := 28) (x := a2) d_Mo_field_28 rfl ?_
          refine zs_lload (pc := 29) (x := a4) d_Mo_field_29 rfl ?_
          refine zs_callv_rI (pc := 31) (av := [zI a2, zL a4]) (st := []) (d' := 1) (C' := 0) (S' := 0) d_Mo_field_31 kV_Mo_95 z_okb (jm_Mo_isDefault (d := 1) (Nat.le_refl _) a0 a2 a4 H) (by omega) (Nat.le_of_ble_eq_true rfl) (Nat.le_of_ble_eq_true rfl) rfl rfl (Nat.le_of_ble_eq_true rfl) fun y31 => ?_
          refine zs_if_ne (pc := 34) (tgt := 39) d_Mo_field_34 rfl (fun q34 => ?_) (fun q34 => ?_)
          · refine zs_iconst (pc := 39) (v := (0 : Int32)) d_Mo_field_39 (by decide) ?_
            refine zs_istore (pc := 40) (lv' := [(6, zI (0 : Int32)), (0, zR a0), (1, zI a1), (2, zI a2), (3, zI a3), (4, zL a4)]) d_Mo_field_40 (Nat.le_of_ble_eq_true rfl) rfl ?_
            refine zs_sub (lv' := [(0, zR a0), (1, zI a1), (2, zI a2), (3, zI a3), (4, zL a4), (6, zI (0 : Int32))]) [1, 2, 3, 4, 5, 0] rfl ?_
            exact jl_Mo_field_42 hd fu fu a0 a1 a2 a3 a4 (0 : Int32) H
          · refine zs_iconst (pc := 37) (v := (-1 : Int32)) d_Mo_field_37 (by decide) ?_
            exact zs_iret (pc := 38) d_Mo_field_38 rfl (Nat.le_of_ble_eq_true rfl) (Nat.le_of_ble_eq_true rfl) rfl
def jJ_Mo_badUnion_101 (H : zH)  : Option Int32 :=
  some (1 : Int32)
def jJ_Mo_badUnion_66 (H : zH) (s0 : Int32) (a0 : Option Nat) (a1 : Int32) (a2 : Int32) : Option Int32 :=
  (zgR H a0 1 1).bind fun v68 =>
  (zaI H v68 0 a1).bind fun v72 =>
  (zgR H a0 1 1).bind fun v74 =>
  (zaI H v74 0 a2).bind fun v78 =>
  if v72 = v78 then (
    if s0 = 0 then (
      jJ_Mo_badUnion_101 H)
    else (
      (zgR H a0 1 2).bind fun v87 =>
      (zaI H v87 0 a1).bind fun v91 =>
      (zgR H a0 1 2).bind fun v93 =>
      (zaI H v93 0 a2).bind fun v97 =>
      if v91 = v97 then (
        jJ_Mo_badUnion_101 H)
      else (
        some (0 : Int32))))
  else (
    some (0 : Int32))
def jJ_Mo_badUnion_61 (H : zH) (a0 : Option Nat) (a1 : Int32) (a2 : Int32) : Option Int32 :=
  jJ_Mo_badUnion_66 H (1 : Int32) a0 a1 a2
def jF_Mo_badUnion (a0 : Option Nat) (a1 : Int32) (a2 : Int32) (H : zH) : Option Int32 :=
  (zok H a0 1).bind fun _ =>
  (jF_Mo_noSchema a0 a1 H).bind fun y2 =>
  if y2 = 0 then (
    (jF_Mo_noSchema a0 a2 H).bind fun y10 =>
    if y10 = 0 then (
      (zgR H a0 1 1).bind fun v17 =>
      (zaI H v17 0 a1).bind fun v21 =>
      if v21 = (6 : Int32) then (
        some (1 : Int32))
      else (
        (zgR H a0 1 1).bind fun v28 =>
        (zaI H v28 0 a2).bind fun v32 =>
        if v32 = (6 : Int32) then (
          some (1 : Int32))
        else (
          (zgR H a0 1 1).bind fun v41 =>
          (zaI H v41 0 a1).bind fun v45 =>
          if v45 = (4 : Int32) then (
            jJ_Mo_badUnion_61 H a0 a1 a2)
          else (
            (zgR H a0 1 1).bind fun v51 =>
            (zaI H v51 0 a1).bind fun v55 =>
            if v55 = (7 : Int32) then (
              jJ_Mo_badUnion_61 H a0 a1 a2)
            else (
              jJ_Mo_badUnion_66 H (0 : Int32) a0 a1 a2)))))
    else (
      some (1 : Int32)))
  else (
    some (1 : Int32))
theorem jj_Mo_badUnion_101 {E : zE} {d : Nat} (hd : 1 ≤ d) (H : zH) : z_S E jM_Mo_badUnion d 0 0 (zrI H) 101 [] [] H 0 0 (jJ_Mo_badUnion_101 H) := by
  unfold jJ_Mo_badUnion_101
  refine zs_iconst (pc := 101) (v := (1 : Int32)) d_Mo_badUnion_101 (by decide) ?_
  refine zs_goto (pc := 102) (tgt := 106) d_Mo_badUnion_102 rfl ?_
  exact zs_zretc (pc := 106) d_Mo_badUnion_106 rfl (by decide) (Nat.le_of_ble_eq_true rfl) (Nat.le_of_ble_eq_true rfl) rfl
theorem jj_Mo_badUnion_66 {E : zE} {d : Nat} (hd : 1 ≤ d) (H : zH) : ∀ (s0 : Int32) (a0 : Option Nat) (a1 : Int32) (a2 : Int32), z_S E jM_Mo_badUnion d 0 0 (zrI H) 66 [(0, zR a0), (1, zI a1), (2, zI a2)] [zI s0] H 0 0 (jJ_Mo_badUnion_66 H s0 a0 a1 a2) := by
  intro s0 a0 a1 a2
  unfold jJ_Mo_badUnion_66
  refine zs_istore_n (pc := 66) (lv' := [(3, zI s0), (0, zR a0), (1, zI a1), (2, zI a2)]) d_Mo_badUnion_66 (Nat.le_of_ble_eq_true rfl) rfl ?_
  refine zs_aload_n (pc := 67) (x := a0) d_Mo_badUnion_67 rfl ?_
  refine zs_getR (pc := 68) d_Mo_badUnion_68 kF_Mo_7 fun v68 => ?_
  refine zs_iload_n (pc := 71) (x := a1) d_Mo_badUnion_71 rfl ?_
  refine zs_iald (t := 0) (pc := 72) d_Mo_badUnion_72 rfl fun v72 => ?_
  refine zs_aload_n (pc := 73) (x := a0) d_Mo_badUnion_73 rfl ?_
  refine zs_getR (pc := 74) d_Mo_badUnion_74 kF_Mo_7 fun v74 => ?_
  refine zs_iload_n (pc := 77) (x := a2) d_Mo_badUnion_77 rfl ?_
  refine zs_iald (t := 0) (pc := 78) d_Mo_badUnion_78 rfl fun v78 => ?_
  refine zs_icmp_ne (pc := 79) (tgt := 105) d_Mo_badUnion_79 rfl (fun q79 => ?_) (fun q79 => ?_)
  · refine zs_iconst (pc := 105) (v := (0 : Int32)) d_Mo_badUnion_105 (by decide) ?_
    exact zs_zretc (pc := 106) d_Mo_badUnion_106 rfl (by decide) (Nat.le_of_ble_eq_true rfl) (Nat.le_of_ble_eq_true rfl) rfl
  · refine zs_iload_n (pc := 82) (x := s0) d_Mo_badUnion_82 rfl ?_
    refine zs_if_eq (pc := 83) (tgt := 101) d_Mo_badUnion_83 rfl (fun q83 => ?_) (fun q83 => ?_)
    · refine zs_sub (lv' := []) [] rfl ?_
      exact jj_Mo_badUnion_101 hd H
    · refine zs_aload_n (pc := 86) (x := a0) d_Mo_badUnion_86 rfl ?_
      refine zs_getR (pc := 87) d_Mo_badUnion_87 kF_Mo_13 fun v87 => ?_
      refine zs_iload_n (pc := 90) (x := a1) d_Mo_badUnion_90 rfl ?_
      refine zs_iald (t := 0) (pc := 91) d_Mo_badUnion_91 rfl fun v91 => ?_
      refine zs_aload_n (pc := 92) (x := a0) d_Mo_badUnion_92 rfl ?_
      refine zs_getR (pc := 93) d_Mo_badUnion_93 kF_Mo_13 fun v93 => ?_
      refine zs_iload_n (pc := 96) (x := a2) d_Mo_badUnion_96 rfl ?_
      refine zs_iald (t := 0) (pc := 97) d_Mo_badUnion_97 rfl fun v97 => ?_
      refine zs_icmp_ne (pc := 98) (tgt := 105) d_Mo_badUnion_98 rfl (fun q98 => ?_) (fun q98 => ?_)
      · refine zs_iconst (pc := 105) (v := (0 : Int32)) d_Mo_badUnion_105 (by decide) ?_
        exact zs_zretc (pc := 106) d_Mo_badUnion_106 rfl (by decide) (Nat.le_of_ble_eq_true rfl) (Nat.le_of_ble_eq_true rfl) rfl
      · refine zs_sub (lv' := []) [] rfl ?_
        exact jj_Mo_badUnion_101 hd H
theorem jj_Mo_badUnion_61 {E : zE} {d : Nat} (hd : 1 ≤ d) (H : zH) : ∀ (a0 : Option Nat) (a1 : Int32) (a2 : Int32), z_S E jM_Mo_badUnion d 0 0 (zrI H) 61 [(0, zR a0), (1, zI a1), (2, zI a2)] [] H 0 0 (jJ_Mo_badUnion_61 H a0 a1 a2) := by
  intro a0 a1 a2
  unfold jJ_Mo_badUnion_61
  refine zs_iconst (pc := 61) (v := (1 : Int32)) d_Mo_badUnion_61 (by decide) ?_
  refine zs_goto (pc := 62) (tgt := 66) d_Mo_badUnion_62 rfl ?_
  exact jj_Mo_badUnion_66 hd H (1 : Int32) a0 a1 a2
theorem jm_Mo_badUnion {E : zE} {d : Nat} (hd : 1 ≤ d) (a0 : Option Nat) (a1 : Int32) (a2 : Int32) (H : zH) : z_MS E jM_Mo_badUnion d 0 0 (zrI H) [zR a0, zI a1, zI a2] H (jF_Mo_badUnion a0 a1 a2 H) := by
  refine zs_of (lv0 := [(0, zR a0), (1, zI a1), (2, zI a2)]) pn_Mo (Nat.le_of_ble_eq_true rfl) rfl ?_
  unfold jF_Mo_badUnion
  refine zs_bind fun _ _ => ?_
  refine zs_aload_n (pc := 0) (x := a0) d_Mo_badUnion_0 rfl ?_
  refine zs_iload_n (pc := 1) (x := a1) d_Mo_badUnion_1 rfl ?_
  refine zs_callv_rI (pc := 2) (av := [zI a1]) (st := []) (d' := 0) (C' := 0) (S' := 0) d_Mo_badUnion_2 kV_Mo_92 z_okb (jm_Mo_noSchema (d := 0) (Nat.le_refl _) a0 a1 H) (by omega) (Nat.le_of_ble_eq_true rfl) (Nat.le_of_ble_eq_true rfl) rfl rfl (Nat.le_of_ble_eq_true rfl) fun y2 => ?_
  refine zs_if_ne (pc := 5) (tgt := 38) d_Mo_badUnion_5 rfl (fun q5 => ?_) (fun q5 => ?_)
  · refine zs_iconst (pc := 38) (v := (1 : Int32)) d_Mo_badUnion_38 (by decide) ?_
    exact zs_zretc (pc := 39) d_Mo_badUnion_39 rfl (by decide) (Nat.le_of_ble_eq_true rfl) (Nat.le_of_ble_eq_true rfl) rfl
  · refine zs_aload_n (pc := 8) (x := a0) d_Mo_badUnion_8 rfl ?_
    refine zs_iload_n (pc := 9) (x := a2) d_Mo_badUnion_9 rfl ?_
    refine zs_callv_rI (pc := 10) (av := [zI a2]) (st := []) (d' := 0) (C' := 0) (S' := 0) d_Mo_badUnion_10 kV_Mo_92 z_okb (jm_Mo_noSchema (d := 0) (Nat.le_refl _) a0 a2 H) (by omega) (Nat.le_of_ble_eq_true rfl) (Nat.le_of_ble_eq_true rfl) rfl rfl (Nat.le_of_ble_eq_true rfl) fun y10 => ?_
    refine zs_if_ne (pc := 13) (tgt := 38) d_Mo_badUnion_13 rfl (fun q13 => ?_) (fun q13 => ?_)
    · refine zs_iconst (pc := 38) (v := (1 : Int32)) d_Mo_badUnion_38 (by decide) ?_
      exact zs_zretc (pc := 39) d_Mo_badUnion_39 rfl (by decide) (Nat.le_of_ble_eq_true rfl) (Nat.le_of_ble_eq_true rfl) rfl
    · refine zs_aload_n (pc := 16) (x := a0) d_Mo_badUnion_16 rfl ?_
      refine zs_getR (pc := 17) d_Mo_badUnion_17 kF_Mo_7 fun v17 => ?_
      refine zs_iload_n (pc := 20) (x := a1) d_Mo_badUnion_20 rfl ?_
      refine zs_iald (t := 0) (pc := 21) d_Mo_badUnion_21 rfl fun v21 => ?_
      refine zs_bipush (pc := 22) (v := (6 : Int32)) d_Mo_badUnion_22 (by decide) ?_
      refine zs_icmp_eq (pc := 24) (tgt := 38) d_Mo_badUnion_24 rfl (fun q24 => ?_) (fun q24 => ?_)
      · refine zs_iconst (pc := 38) (v := (1 : Int32)) d_Mo_badUnion_38 (by decide) ?_
        exact zs_zretc (pc := 39) d_Mo_badUnion_39 rfl (by decide) (Nat.le_of_ble_eq_true rfl) (Nat.le_of_ble_eq_true rfl) rfl
      · refine zs_aload_n (pc := 27) (x := a0) d_Mo_badUnion_27 rfl ?_
        refine zs_getR (pc := 28) d_Mo_badUnion_28 kF_Mo_7 fun v28 => ?_
        refine zs_iload_n (pc := 31) (x := a2) d_Mo_badUnion_31 rfl ?_
        refine zs_iald (t := 0) (pc := 32) d_Mo_badUnion_32 rfl fun v32 => ?_
        refine zs_bipush (pc := 33) (v := (6 : Int32)) d_Mo_badUnion_33 (by decide) ?_
        refine zs_icmp_ne (pc := 35) (tgt := 40) d_Mo_badUnion_35 rfl (fun q35 => ?_) (fun q35 => ?_)
        · refine zs_aload_n (pc := 40) (x := a0) d_Mo_badUnion_40 rfl ?_
          refine zs_getR (pc := 41) d_Mo_badUnion_41 kF_Mo_7 fun v41 => ?_
          refine zs_iload_n (pc := 44) (x := a1) d_Mo_badUnion_44 rfl ?_
          refine zs_iald (t := 0) (pc := 45) d_Mo_badUnion_45 rfl fun v45 => ?_
          refine zs_iconst (pc := 46) (v := (4 : Int32)) d_Mo_badUnion_46 (by decide) ?_
          refine zs_icmp_eq (pc := 47) (tgt := 61) d_Mo_badUnion_47 rfl (fun q47 => ?_) (fun q47 => ?_)
          · exact jj_Mo_badUnion_61 hd H a0 a1 a2
          · refine zs_aload_n (pc := 50) (x := a0) d_Mo_badUnion_50 rfl ?_
            refine zs_getR (pc := 51) d_Mo_badUnion_51 kF_Mo_7 fun v51 => ?_
            refine zs_iload_n (pc := 54) (x := a1) d_Mo_badUnion_54 rfl ?_
            refine zs_iald (t := 0) (pc := 55) d_Mo_badUnion_55 rfl fun v55 => ?_
            refine zs_bipush (pc := 56) (v := (7 : Int32)) d_Mo_badUnion_56 (by decide) ?_
            refine zs_icmp_ne (pc := 58) (tgt := 65) d_Mo_badUnion_58 rfl (fun q58 => ?_) (fun q58 => ?_)
            · refine zs_iconst (pc := 65) (v := (0 : Int32)) d_Mo_badUnion_65 (by decide) ?_
              exact jj_Mo_badUnion_66 hd H (0 : Int32) a0 a1 a2
            · exact jj_Mo_badUnion_61 hd H a0 a1 a2
        · refine zs_iconst (pc := 38) (v := (1 : Int32)) d_Mo_badUnion_38 (by decide) ?_
          exact zs_zretc (pc := 39) d_Mo_badUnion_39 rfl (by decide) (Nat.le_of_ble_eq_true rfl) (Nat.le_of_ble_eq_true rfl) rfl
def jJ_Mo_badEnum_42 (H : zH)  : Option Int32 :=
  some (1 : Int32)
def jF_Mo_badEnum (a0 : Option Nat) (a1 : Int32) (a2 : Int32) (a3 : Int32) (H : zH) : Option Int32 :=
  (zok H a0 1).bind fun _ =>
  (jF_Mo_noName a1 H).bind fun y1 =>
  if y1 = 0 then (
    if a2 < (1 : Int32) then (
      jJ_Mo_badEnum_42 H)
    else (
      if (255 : Int32) < a2 then (
        jJ_Mo_badEnum_42 H)
      else (
        if a3 = (-1 : Int32) then (
          some (0 : Int32))
        else (
          if a3 < 0 then (
            jJ_Mo_badEnum_42 H)
          else (
            if (7 : Int32) < a3 then (
              jJ_Mo_badEnum_42 H)
            else (
              if ((a2 >>> (a3 &&& 31)) &&& (1 : Int32)) = 0 then (
                jJ_Mo_badEnum_42 H)
              else (
                some (0 : Int32))))))))
  else (
    jJ_Mo_badEnum_42 H)
theorem jj_Mo_badEnum_42 {E : zE} {d : Nat} (hd : 1 ≤ d) (H : zH) : z_S E jM_Mo_badEnum d 0 0 (zrI H) 42 [] [] H 0 0 (jJ_Mo_badEnum_42 H) := by
  unfold jJ_Mo_badEnum_42
  refine zs_iconst (pc := 42) (v := (1 : Int32)) d_Mo_badEnum_42 (by decide) ?_
  refine zs_goto (pc := 43) (tgt := 47) d_Mo_badEnum_43 rfl ?_
  exact zs_zretc (pc := 47) d_Mo_badEnum_47 rfl (by decide) (Nat.le_of_ble_eq_true rfl) (Nat.le_of_ble_eq_true rfl) rfl
theorem jm_Mo_badEnum {E : zE} {d : Nat} (hd : 1 ≤ d) (a0 : Option Nat) (a1 : Int32) (a2 : Int32) (a3 : Int32) (H : zH) : z_MS E jM_Mo_badEnum d 0 0 (zrI H) [zR a0, zI a1, zI a2, zI a3] H (jF_Mo_badEnum a0 a1 a2 a3 H) := by
  refine zs_of (lv0 := [(0, zR a0), (1, zI a1), (2, zI a2), (3, zI a3)]) pn_Mo (Nat.le_of_ble_eq_true rfl) rfl ?_
  unfold jF_Mo_badEnum
  refine zs_bind fun _ _ => ?_
  refine zs_iload_n (pc := 0) (x := a1) d_Mo_badEnum_0 rfl ?_
  refine zs_calls_rI (pc := 1) (av := [zI a1]) (st := []) (d' := 0) (C' := 0) (S' := 0) d_Mo_badEnum_1 kS_Mo_88 (jm_Mo_noName (d := 0) (Nat.le_refl _) a1 H) (by omega) (Nat.le_of_ble_eq_true rfl) (Nat.le_of_ble_eq_true rfl) rfl rfl (Nat.le_of_ble_eq_true rfl) fun y1 => ?_
  refine zs_if_ne (pc := 4) (tgt := 42) d_Mo_badEnum_4 rfl (fun q4 => ?_) (fun q4 => ?_)
  · refine zs_sub (lv' := []) [] rfl ?_
    exact jj_Mo_badEnum_42 hd H
  · refine zs_iload_n (pc := 7) (x := a2) d_Mo_badEnum_7 rfl ?_
    refine zs_iconst (pc := 8) (v := (1 : Int32)) d_Mo_badEnum_8 (by decide) ?_
    refine zs_icmp_lt (pc := 9) (tgt := 42) d_Mo_badEnum_9 rfl (fun q9 => ?_) (fun q9 => ?_)
    · refine zs_sub (lv' := []) [] rfl ?_
      exact jj_Mo_badEnum_42 hd H
    · refine zs_iload_n (pc := 12) (x := a2) d_Mo_badEnum_12 rfl ?_
      refine zs_sipush (pc := 13) (v := (255 : Int32)) d_Mo_badEnum_13 (by decide) ?_
      refine zs_icmp_gt (pc := 16) (tgt := 42) d_Mo_badEnum_16 rfl (fun q16 => ?_) (fun q16 => ?_)
      · refine zs_sub (lv' := []) [] rfl ?_
        exact jj_Mo_badEnum_42 hd H
      · refine zs_iload_n (pc := 19) (x := a3) d_Mo_badEnum_19 rfl ?_
        refine zs_iconst (pc := 20) (v := (-1 : Int32)) d_Mo_badEnum_20 (by decide) ?_
        refine zs_icmp_eq (pc := 21) (tgt := 46) d_Mo_badEnum_21 rfl (fun q21 => ?_) (fun q21 => ?_)
        · refine zs_iconst (pc := 46) (v := (0 : Int32)) d_Mo_badEnum_46 (by decide) ?_
          exact zs_zretc (pc := 47) d_Mo_badEnum_47 rfl (by decide) (Nat.le_of_ble_eq_true rfl) (Nat.le_of_ble_eq_true rfl) rfl
        · refine zs_iload_n (pc := 24) (x := a3) d_Mo_badEnum_24 rfl ?_
          refine zs_if_lt (pc := 25) (tgt := 42) d_Mo_badEnum_25 rfl (fun q25 => ?_) (fun q25 => ?_)
          · refine zs_sub (lv' := []) [] rfl ?_
            exact jj_Mo_badEnum_42 hd H
          · refine zs_iload_n (pc := 28) (x := a3) d_Mo_badEnum_28 rfl ?_
            refine zs_bipush (pc := 29) (v := (7 : Int32)) d_Mo_badEnum_29 (by decide) ?_
            refine zs_icmp_gt (pc := 31) (tgt := 42) d_Mo_badEnum_31 rfl (fun q31 => ?_) (fun q31 => ?_)
            · refine zs_sub (lv' := []) [] rfl ?_
              exact jj_Mo_badEnum_42 hd H
            · refine zs_iload_n (pc := 34) (x := a2) d_Mo_badEnum_34 rfl ?_
              refine zs_iload_n (pc := 35) (x := a3) d_Mo_badEnum_35 rfl ?_
              refine zs_ishr (pc := 36) d_Mo_badEnum_36 ?_
              refine zs_iconst (pc := 37) (v := (1 : Int32)) d_Mo_badEnum_37 (by decide) ?_
              refine zs_iand (pc := 38) d_Mo_badEnum_38 ?_
              refine zs_if_ne (pc := 39) (tgt := 46) d_Mo_badEnum_39 rfl (fun q39 => ?_) (fun q39 => ?_)
              · refine zs_iconst (pc := 46) (v := (0 : Int32)) d_Mo_badEnum_46 (by decide) ?_
                exact zs_zretc (pc := 47) d_Mo_badEnum_47 rfl (by decide) (Nat.le_of_ble_eq_true rfl) (Nat.le_of_ble_eq_true rfl) rfl
              · refine zs_sub (lv' := []) [] rfl ?_
                exact jj_Mo_badEnum_42 hd H
def jF_Mo_branch (a0 : Option Nat) (a1 : Int32) (a2 : Int32) (H : zH) : Option Int32 :=
  (zok H a0 1).bind fun _ =>
  (zgR H a0 1 11).bind fun v1 =>
  (zgR H a0 1 3).bind fun v7 =>
  (zaI H v7 0 a1).bind fun v11 =>
  (zaI H v1 1 (((24 : Int32) * v11) + a2)).bind fun v15 =>
  if v15 = 0 then (
    (zgR H a0 1 11).bind fun v24 =>
    (zgR H a0 1 4).bind fun v30 =>
    (zaI H v30 0 a1).bind fun v34 =>
    (zaI H v24 1 (((24 : Int32) * v34) + a2)).bind fun v38 =>
    if v38 = 0 then (
      some (-1 : Int32))
    else (
      some (1 : Int32)))
  else (
    some (0 : Int32))
theorem jm_Mo_branch {E : zE} {d : Nat} (hd : 0 ≤ d) (a0 : Option Nat) (a1 : Int32) (a2 : Int32) (H : zH) : z_MS E jM_Mo_branch d 0 0 (zrI H) [zR a0, zI a1, zI a2] H (jF_Mo_branch a0 a1 a2 H) := by
  refine zs_of (lv0 := [(0, zR a0), (1, zI a1), (2, zI a2)]) pn_Mo (Nat.le_of_ble_eq_true rfl) rfl ?_
  unfold jF_Mo_branch
  refine zs_bind fun _ _ => ?_
  refine zs_aload_n (pc := 0) (x := a0) d_Mo_branch_0 rfl ?_
  refine zs_getR (pc := 1) d_Mo_branch_1 kF_Mo_42 fun v1 => ?_
  refine zs_bipush (pc := 4) (v := (24 : Int32)) d_Mo_branch_4 (by decide) ?_
  refine zs_aload_n (pc := 6) (x := a0) d_Mo_branch_6 rfl ?_
  refine zs_getR (pc := 7) d_Mo_branch_7 kF_Mo_16 fun v7 => ?_
  refine zs_iload_n (pc := 10) (x := a1) d_Mo_branch_10 rfl ?_
  refine zs_iald (t := 0) (pc := 11) d_Mo_branch_11 rfl fun v11 => ?_
  refine zs_imul (pc := 12) d_Mo_branch_12 ?_
  refine zs_iload_n (pc := 13) (x := a2) d_Mo_branch_13 rfl ?_
  refine zs_iadd (pc := 14) d_Mo_branch_14 ?_
  refine zs_zald (t := 1) (pc := 15) d_Mo_branch_15 rfl fun v15 => ?_
  refine zs_if_eq (pc := 16) (tgt := 23) d_Mo_branch_16 rfl (fun q16 => ?_) (fun q16 => ?_)
  · refine zs_aload_n (pc := 23) (x := a0) d_Mo_branch_23 rfl ?_
    refine zs_getR (pc := 24) d_Mo_branch_24 kF_Mo_42 fun v24 => ?_
    refine zs_bipush (pc := 27) (v := (24 : Int32)) d_Mo_branch_27 (by decide) ?_
    refine zs_aload_n (pc := 29) (x := a0) d_Mo_branch_29 rfl ?_
    refine zs_getR (pc := 30) d_Mo_branch_30 kF_Mo_19 fun v30 => ?_
    refine zs_iload_n (pc := 33) (x := a1) d_Mo_branch_33 rfl ?_
    refine zs_iald (t := 0) (pc := 34) d_Mo_branch_34 rfl fun v34 => ?_
    refine zs_imul (pc := 35) d_Mo_branch_35 ?_
    refine zs_iload_n (pc := 36) (x := a2) d_Mo_branch_36 rfl ?_
    refine zs_iadd (pc := 37) d_Mo_branch_37 ?_
    refine zs_zald (t := 1) (pc := 38) d_Mo_branch_38 rfl fun v38 => ?_
    refine zs_if_eq (pc := 39) (tgt := 46) d_Mo_branch_39 rfl (fun q39 => ?_) (fun q39 => ?_)
    · refine zs_iconst (pc := 46) (v := (-1 : Int32)) d_Mo_branch_46 (by decide) ?_
      exact zs_iret (pc := 47) d_Mo_branch_47 rfl (Nat.le_of_ble_eq_true rfl) (Nat.le_of_ble_eq_true rfl) rfl
    · refine zs_iconst (pc := 42) (v := (1 : Int32)) d_Mo_branch_42 (by decide) ?_
      refine zs_goto (pc := 43) (tgt := 47) d_Mo_branch_43 rfl ?_
      exact zs_iret (pc := 47) d_Mo_branch_47 rfl (Nat.le_of_ble_eq_true rfl) (Nat.le_of_ble_eq_true rfl) rfl
  · refine zs_iconst (pc := 19) (v := (0 : Int32)) d_Mo_branch_19 (by decide) ?_
    refine zs_goto (pc := 20) (tgt := 47) d_Mo_branch_20 rfl ?_
    exact zs_iret (pc := 47) d_Mo_branch_47 rfl (Nat.le_of_ble_eq_true rfl) (Nat.le_of_ble_eq_true rfl) rfl
def jF_Mo_branchSchema (a0 : Option Nat) (a1 : Int32) (a2 : Int32) (H : zH) : Option Int32 :=
  (zok H a0 1).bind fun _ =>
  (jF_Mo_branch a0 a1 a2 H).bind fun y3 =>
  if y3 = 0 then (
    (zgR H a0 1 3).bind fun v10 =>
    (zaI H v10 0 a1).bind fun v14 =>
    some v14)
  else (
    (zgR H a0 1 4).bind fun v19 =>
    (zaI H v19 0 a1).bind fun v23 =>
    some v23)
theorem jm_Mo_branchSchema {E : zE} {d : Nat} (hd : 1 ≤ d) (a0 : Option Nat) (a1 : Int32) (a2 : Int32) (H : zH) : z_MS E jM_Mo_branchSchema d 0 0 (zrI H) [zR a0, zI a1, zI a2] H (jF_Mo_branchSchema a0 a1 a2 H) := by
  refine zs_of (lv0 := [(0, zR a0), (1, zI a1), (2, zI a2)]) pn_Mo (Nat.le_of_ble_eq_true rfl) rfl ?_
  unfold jF_Mo_branchSchema
  refine zs_bind fun _ _ => ?_
  refine zs_aload_n (pc := 0) (x := a0) d_Mo_branchSchema_0 rfl ?_
  refine zs_iload_n (pc := 1) (x := a1) d_Mo_branchSchema_1 rfl ?_
  refine zs_iload_n (pc := 2) (x := a2) d_Mo_branchSchema_2 rfl ?_
  refine zs_callv_rI (pc := 3) (av := [zI a1, zI a2]) (st := []) (d' := 0) (C' := 0) (S' := 0) d_Mo_branchSchema_3 kV_Mo_110 z_okb (jm_Mo_branch (d := 0) (Nat.le_refl _) a0 a1 a2 H) (by omega) (Nat.le_of_ble_eq_true rfl) (Nat.le_of_ble_eq_true rfl) rfl rfl (Nat.le_of_ble_eq_true rfl) fun y3 => ?_
  refine zs_if_ne (pc := 6) (tgt := 18) d_Mo_branchSchema_6 rfl (fun q6 => ?_) (fun q6 => ?_)
  · refine zs_aload_n (pc := 18) (x := a0) d_Mo_branchSchema_18 rfl ?_
    refine zs_getR (pc := 19) d_Mo_branchSchema_19 kF_Mo_19 fun v19 => ?_
    refine zs_iload_n (pc := 22) (x := a1) d_Mo_branchSchema_22 rfl ?_
    refine zs_iald (t := 0) (pc := 23) d_Mo_branchSchema_23 rfl fun v23 => ?_
    exact zs_iret (pc := 24) d_Mo_branchSchema_24 rfl (Nat.le_of_ble_eq_true rfl) (Nat.le_of_ble_eq_true rfl) rfl
  · refine zs_aload_n (pc := 9) (x := a0) d_Mo_branchSchema_9 rfl ?_
    refine zs_getR (pc := 10) d_Mo_branchSchema_10 kF_Mo_16 fun v10 => ?_
    refine zs_iload_n (pc := 13) (x := a1) d_Mo_branchSchema_13 rfl ?_
    refine zs_iald (t := 0) (pc := 14) d_Mo_branchSchema_14 rfl fun v14 => ?_
    refine zs_goto (pc := 15) (tgt := 24) d_Mo_branchSchema_15 rfl ?_
    exact zs_iret (pc := 24) d_Mo_branchSchema_24 rfl (Nat.le_of_ble_eq_true rfl) (Nat.le_of_ble_eq_true rfl) rfl
def jL_Mo_fieldOf_4 (fu : Nat) (H : zH) : Nat → Option Nat → Int32 → Int32 → Int32 → Option Int32
  | 0, _, _, _, _ => none
  | g + 1, a0, a1, a2, a3 =>
    (zgR H a0 1 6).bind fun v9 =>
    (zaI H v9 0 a1).bind fun v13 =>
    if (((3 : Int32) * a1) + v13) ≤ a3 then (
      some (-1 : Int32))
    else (
      (zgR H a0 1 7).bind fun v19 =>
      (zaI H v19 0 a3).bind fun v23 =>
      if v23 = a2 then (
        some a3)
      else (
        jL_Mo_fieldOf_4 fu H g a0 a1 a2 (a3 + (1 : Int32))))
def jF_Mo_fieldOf (fu : Nat) (a0 : Option Nat) (a1 : Int32) (a2 : Int32) (H : zH) : Option Int32 :=
  (zok H a0 1).bind fun _ =>
  jL_Mo_fieldOf_4 fu H fu a0 a1 a2 ((3 : Int32) * a1)
theorem jl_Mo_fieldOf_4 {E : zE} {d : Nat} (hd : 0 ≤ d) (fu : Nat) (H : zH) : ∀ (g : Nat), ∀ (a0 : Option Nat) (a1 : Int32) (a2 : Int32) (a3 : Int32), z_S E jM_Mo_fieldOf d 0 0 (zrI H) 4 [(0, zR a0), (1, zI a1), (2, zI a2), (3, zI a3)] [] H 0 0 (jL_Mo_fieldOf_4 fu H g a0 a1 a2 a3) := by
  intro g
  induction g with
  | zero => intros; exact zs_none
  | succ g ih =>
    intro a0 a1 a2 a3
    rw [jL_Mo_fieldOf_4]
    refine zs_iload_n (pc := 4) (x := a3) d_Mo_fieldOf_4 rfl ?_
    refine zs_iconst (pc := 5) (v := (3 : Int32)) d_Mo_fieldOf_5 (by decide) ?_
    refine zs_iload_n (pc := 6) (x := a1) d_Mo_fieldOf_6 rfl ?_
    refine zs_imul (pc := 7) d_Mo_fieldOf_7 ?_
    refine zs_aload_n (pc := 8) (x := a0) d_Mo_fieldOf_8 rfl ?_
    refine zs_getR (pc := 9) d_Mo_fieldOf_9 kF_Mo_25 fun v9 => ?_
    refine zs_iload_n (pc := 12) (x := a1) d_Mo_fieldOf_12 rfl ?_
    refine zs_iald (t := 0) (pc := 13) d_Mo_fieldOf_13 rfl fun v13 => ?_
    refine zs_iadd (pc := 14) d_Mo_fieldOf_14 ?_
    refine zs_icmp_ge (pc := 15) (tgt := 36) d_Mo_fieldOf_15 rfl (fun q15 => ?_) (fun q15 => ?_)
    · refine zs_iconst (pc := 36) (v := (-1 : Int32)) d_Mo_fieldOf_36 (by decide) ?_
      exact zs_iret (pc := 37) d_Mo_fieldOf_37 rfl (Nat.le_of_ble_eq_true rfl) (Nat.le_of_ble_eq_true rfl) rfl
    · refine zs_aload_n (pc := 18) (x := a0) d_Mo_fieldOf_18 rfl ?_
      refine zs_getR (pc := 19) d_Mo_fieldOf_19 kF_Mo_28 fun v19 => ?_
      refine zs_iload_n (pc := 22) (x := a3) d_Mo_fieldOf_22 rfl ?_
      refine zs_iald (t := 0) (pc := 23) d_Mo_fieldOf_23 rfl fun v23 => ?_
      refine zs_iload_n (pc := 24) (x := a2) d_Mo_fieldOf_24 rfl ?_
      refine zs_icmp_ne (pc := 25) (tgt := 30) d_Mo_fieldOf_25 rfl (fun q25 => ?_) (fun q25 => ?_)
      · refine zs_iinc (pc := 30) (x := a3) (v := (a3 + (1 : Int32))) (lv' := [(3, zI (a3 + (1 : Int32))), (0, zR a0), (1, zI a1), (2, zI a2)]) d_Mo_fieldOf_30 rfl rfl (Nat.le_of_ble_eq_true rfl) rfl ?_
        refine zs_goto (pc := 33) (tgt := 4) d_Mo_fieldOf_33 rfl ?_
        refine zs_sub (lv' := [(0, zR a0), (1, zI a1), (2, zI a2), (3, zI (a3 + (1 : Int32)))]) [1, 2, 3, 0] rfl ?_
        exact ih a0 a1 a2 (a3 + (1 : Int32))
      · refine zs_iload_n (pc := 28) (x := a3) d_Mo_fieldOf_28 rfl ?_
        exact zs_iret (pc := 29) d_Mo_fieldOf_29 rfl (Nat.le_of_ble_eq_true rfl) (Nat.le_of_ble_eq_true rfl) rfl
theorem jm_Mo_fieldOf {E : zE} {d : Nat} (hd : 0 ≤ d) (fu : Nat) (a0 : Option Nat) (a1 : Int32) (a2 : Int32) (H : zH) : z_MS E jM_Mo_fieldOf d 0 0 (zrI H) [zR a0, zI a1, zI a2] H (jF_Mo_fieldOf fu a0 a1 a2 H) := by
  refine zs_of (lv0 := [(0, zR a0), (1, zI a1), (2, zI a2)]) pn_Mo (Nat.le_of_ble_eq_true rfl) rfl ?_
  unfold jF_Mo_fieldOf
  refine zs_bind fun _ _ => ?_
  refine zs_iconst (pc := 0) (v := (3 : Int32)) d_Mo_fieldOf_0 (by decide) ?_
  refine zs_iload_n (pc := 1) (x := a1) d_Mo_fieldOf_1 rfl ?_
  refine zs_imul (pc := 2) d_Mo_fieldOf_2 ?_
  refine zs_istore_n (pc := 3) (lv' := [(3, zI ((3 : Int32) * a1)), (0, zR a0), (1, zI a1), (2, zI a2)]) d_Mo_fieldOf_3 (Nat.le_of_ble_eq_true rfl) rfl ?_
  refine zs_sub (lv' := [(0, zR a0), (1, zI a1), (2, zI a2), (3, zI ((3 : Int32) * a1))]) [1, 2, 3, 0] rfl ?_
  exact jl_Mo_fieldOf_4 hd fu H fu a0 a1 a2 ((3 : Int32) * a1)
