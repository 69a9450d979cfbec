def jF_Manifest_draftJoined (fu : Nat) (a0 : Option Nat) (a1 : Int32) (a2 : Int32) (H : zH) : Option zH :=
  (zok H a0 5).bind fun _ =>
  (jF_Manifest_recordsIn a0 a1 H).bind fun y2 =>
  (jF_Manifest_recordsIn a0 a2 H).bind fun y7 =>
  (jF_Manifest_schemaOf a0 a1 H).bind fun y15 =>
  (jF_Manifest_bytesIn a0 a1 H).bind fun y21 =>
  (jF_Manifest_bytesIn a0 a2 H).bind fun y26 =>
  (jF_Manifest_draftHead a0 y15 (y2 + y7) (y21 + y26) H).bind fun y30 =>
  (jF_Manifest_draftRecordsOf fu a0 a1 y30).bind fun y35 =>
  (jF_Manifest_draftRecordsOf fu a0 a2 y35).bind fun y40 =>
  (zgR y40 a0 5 1).bind fun v44 =>
  (zgR y40 a0 5 1).bind fun v48 =>
  (jF_Bytes_sum fu v48 y40).bind fun y51 =>
  (jF_Bytes_append v44 (y51 - y51 / (251 : Int32) * (251 : Int32)) y40).bind fun y58 =>
  some y58
theorem jm_Manifest_draftJoined {E : zE} {d : Nat} (hd : 6 ≤ d) (fu : Nat) (a0 : Option Nat) (a1 : Int32) (a2 : Int32) (H : zH) : z_MS E jM_Manifest_draftJoined d 0 0 zwV [zR a0, zI a1, zI a2] H (jF_Manifest_draftJoined fu a0 a1 a2 H) := by
  refine zs_of (lv0 := [(0, zR a0), (1, zI a1), (2, zI a2)]) pn_Manifest (Nat.le_of_ble_eq_true rfl) rfl ?_
  unfold jF_Manifest_draftJoined
  refine zs_bind fun _ _ => ?_
  refine zs_aload_n (pc := 0) (x := a0) d_Manifest_draftJoined_0 rfl ?_
  refine zs_iload_n (pc := 1) (x := a1) d_Manifest_draftJoined_1 rfl ?_
  refine zs_callv_rI (pc := 2) (av := [zI a1]) (st := []) (d' := 4) (C' := 0) (S' := 0) d_Manifest_draftJoined_2 kV_Manifest_37 z_okb (jm_Manifest_recordsIn (d := 4) (Nat.le_refl _) a0 a1 H) (by omega) (Nat.le_of_ble_eq_true rfl) (Nat.le_of_ble_eq_true rfl) rfl rfl (Nat.le_of_ble_eq_true rfl) fun y2 => ?_
  refine zs_aload_n (pc := 5) (x := a0) d_Manifest_draftJoined_5 rfl ?_
  refine zs_iload_n (pc := 6) (x := a2) d_Manifest_draftJoined_6 rfl ?_
  refine zs_callv_rI (pc := 7) (av := [zI a2]) (st := [zI y2]) (d' := 4) (C' := 0) (S' := 0) d_Manifest_draftJoined_7 kV_Manifest_37 z_okb (jm_Manifest_recordsIn (d := 4) (Nat.le_refl _) a0 a2 H) (by omega) (Nat.le_of_ble_eq_true rfl) (Nat.le_of_ble_eq_true rfl) rfl rfl (Nat.le_of_ble_eq_true rfl) fun y7 => ?_
  refine zs_iadd (pc := 10) d_Manifest_draftJoined_10 ?_
  refine zs_istore_n (pc := 11) (lv' := [(3, zI (y2 + y7)), (0, zR a0), (1, zI a1), (2, zI a2)]) d_Manifest_draftJoined_11 (Nat.le_of_ble_eq_true rfl) rfl ?_
  refine zs_aload_n (pc := 12) (x := a0) d_Manifest_draftJoined_12 rfl ?_
  refine zs_aload_n (pc := 13) (x := a0) d_Manifest_draftJoined_13 rfl ?_
  refine zs_iload_n (pc := 14) (x := a1) d_Manifest_draftJoined_14 rfl ?_
  refine zs_callv_rI (pc := 15) (av := [zI a1]) (st := [zR a0]) (d' := 4) (C' := 0) (S' := 0) d_Manifest_draftJoined_15 kV_Manifest_48 z_okb (jm_Manifest_schemaOf (d := 4) (Nat.le_refl _) a0 a1 H) (by omega) (Nat.le_of_ble_eq_true rfl) (Nat.le_of_ble_eq_true rfl) rfl rfl (Nat.le_of_ble_eq_true rfl) fun y15 => ?_
  refine zs_iload_n (pc := 18) (x := (y2 + y7)) d_Manifest_draftJoined_18 rfl ?_
  refine zs_aload_n (pc := 19) (x := a0) d_Manifest_draftJoined_19 rfl ?_
  refine zs_iload_n (pc := 20) (x := a1) d_Manifest_draftJoined_20 rfl ?_
  refine zs_callv_rI (pc := 21) (av := [zI a1]) (st := [zI (y2 + y7), zI y15, zR a0]) (d' := 4) (C' := 0) (S' := 0) d_Manifest_draftJoined_21 kV_Manifest_51 z_okb (jm_Manifest_bytesIn (d := 4) (Nat.le_refl _) a0 a1 H) (by omega) (Nat.le_of_ble_eq_true rfl) (Nat.le_of_ble_eq_true rfl) rfl rfl (Nat.le_of_ble_eq_true rfl) fun y21 => ?_
  refine zs_aload_n (pc := 24) (x := a0) d_Manifest_draftJoined_24 rfl ?_
  refine zs_iload_n (pc := 25) (x := a2) d_Manifest_draftJoined_25 rfl ?_
  refine zs_callv_rI (pc := 26) (av := [zI a2]) (st := [zI y21, zI (y2 + y7), zI y15, zR a0]) (d' := 4) (C' := 0) (S' := 0) d_Manifest_draftJoined_26 kV_Manifest_51 z_okb (jm_Manifest_bytesIn (d := 4) (Nat.le_refl _) a0 a2 H) (by omega) (Nat.le_of_ble_eq_true rfl) (Nat.le_of_ble_eq_true rfl) rfl rfl (Nat.le_of_ble_eq_true rfl) fun y26 => ?_
  refine zs_iadd (pc := 29) d_Manifest_draftJoined_29 ?_
  refine zs_callv_wV (pc := 30) (av := [zI y15, zI (y2 + y7), zI (y21 + y26)]) (st := []) (d' := 1) (C' := 0) (S' := 0) d_Manifest_draftJoined_30 kV_Manifest_93 z_okb (jm_Manifest_draftHead (d := 1) (Nat.le_refl _) a0 y15 (y2 + y7) (y21 + y26) H) (by omega) (Nat.le_of_ble_eq_true rfl) (Nat.le_of_ble_eq_true rfl) rfl rfl (Nat.le_of_ble_eq_true rfl) fun y30 => ?_
  refine zs_aload_n (pc := 33) (x := a0) d_Manifest_draftJoined_33 rfl ?_
  refine zs_iload_n (pc := 34) (x := a1) d_Manifest_draftJoined_34 rfl ?_
  refine zs_callv_wV (pc := 35) (av := [zI a1]) (st := []) (d' := 5) (C' := 0) (S' := 0) d_Manifest_draftJoined_35 kV_Manifest_106 z_okb (jm_Manifest_draftRecordsOf (d := 5) (Nat.le_refl _) fu a0 a1 y30) (by omega) (Nat.le_of_ble_eq_true rfl) (Nat.le_of_ble_eq_true rfl) rfl rfl (Nat.le_of_ble_eq_true rfl) fun y35 => ?_
  refine zs_aload_n (pc := 38) (x := a0) d_Manifest_draftJoined_38 rfl ?_
  refine zs_iload_n (pc := 39) (x := a2) d_Manifest_draftJoined_39 rfl ?_
  refine zs_callv_wV (pc := 40) (av := [zI a2]) (st := []) (d' := 5) (C' := 0) (S' := 0) d_Manifest_draftJoined_40 kV_Manifest_106 z_okb (jm_Manifest_draftRecordsOf (d := 5) (Nat.le_refl _) fu a0 a2 y35) (by omega) (Nat.le_of_ble_eq_true rfl) (Nat.le_of_ble_eq_true rfl) rfl rfl (Nat.le_of_ble_eq_true rfl) fun y40 => ?_
  refine zs_aload_n (pc := 43) (x := a0) d_Manifest_draftJoined_43 rfl ?_
  refine zs_getR (pc := 44) d_Manifest_draftJoined_44 kF_Manifest_20 fun v44 => ?_
  refine zs_aload_n (pc := 47) (x := a0) d_Manifest_draftJoined_47 rfl ?_
  refine zs_getR (pc := 48) d_Manifest_draftJoined_48 kF_Manifest_20 fun v48 => ?_
  refine zs_callv_rI (pc := 51) (av := []) (st := [zR v44]) (d' := 0) (C' := 0) (S' := 0) d_Manifest_draftJoined_51 kV_Manifest_103 z_okb (jm_Bytes_sum (d := 0) (Nat.le_refl _) fu v48 y40) (by omega) (Nat.le_of_ble_eq_true rfl) (Nat.le_of_ble_eq_true rfl) rfl rfl (Nat.le_of_ble_eq_true rfl) fun y51 => ?_
  refine zs_sipush (pc := 54) (v := (251 : Int32)) d_Manifest_draftJoined_54 (by decide) ?_
  refine zs_irem (pc := 57) d_Manifest_draftJoined_57 (by decide) ?_
  refine zs_callv_wV (pc := 58) (av := [zI (y51 - y51 / (251 : Int32) * (251 : Int32))]) (st := []) (d' := 0) (C' := 0) (S' := 0) d_Manifest_draftJoined_58 kV_Manifest_100 z_okb (jm_Bytes_append (d := 0) (Nat.le_refl _) v44 (y51 - y51 / (251 : Int32) * (251 : Int32)) y40) (by omega) (Nat.le_of_ble_eq_true rfl) (Nat.le_of_ble_eq_true rfl) rfl rfl (Nat.le_of_ble_eq_true rfl) fun y58 => ?_
  exact zs_vret (pc := 61) d_Manifest_draftJoined_61 rfl (Nat.le_of_ble_eq_true rfl) (Nat.le_of_ble_eq_true rfl) rfl
def jF_Manifest_canJoin (a0 : Option Nat) (a1 : Int32) (a2 : Int32) (H : zH) : Option Int32 :=
  (zok H a0 5).bind fun _ =>
  (jF_Manifest_schemaOf a0 a1 H).bind fun y2 =>
  (jF_Manifest_schemaOf a0 a2 H).bind fun y7 =>
  if y2 = y7 then (
    (jF_Manifest_recordsIn a0 a1 H).bind fun y15 =>
    (jF_Manifest_recordsIn a0 a2 H).bind fun y20 =>
    if (20 : Int32) < (y15 + y20) then (
      some (0 : Int32))
    else (
      (jF_Manifest_bytesIn a0 a1 H).bind fun y31 =>
      (jF_Manifest_bytesIn a0 a2 H).bind fun y36 =>
      if (200 : Int32) < (y31 + y36) then (
        some (0 : Int32))
      else (
        some (1 : Int32))))
  else (
    some (0 : Int32))
theorem jm_Manifest_canJoin {E : zE} {d : Nat} (hd : 5 ≤ d) (a0 : Option Nat) (a1 : Int32) (a2 : Int32) (H : zH) : z_MS E jM_Manifest_canJoin d 0 0 (zrI H) [zR a0, zI a1, zI a2] H (jF_Manifest_canJoin a0 a1 a2 H) := by
  refine zs_of (lv0 := [(0, zR a0), (1, zI a1), (2, zI a2)]) pn_Manifest (Nat.le_of_ble_eq_true rfl) rfl ?_
  unfold jF_Manifest_canJoin
  refine zs_bind fun _ _ => ?_
  refine zs_aload_n (pc := 0) (x := a0) d_Manifest_canJoin_0 rfl ?_
  refine zs_iload_n (pc := 1) (x := a1) d_Manifest_canJoin_1 rfl ?_
  refine zs_callv_rI (pc := 2) (av := [zI a1]) (st := []) (d' := 4) (C' := 0) (S' := 0) d_Manifest_canJoin_2 kV_Manifest_48 z_okb (jm_Manifest_schemaOf (d := 4) (Nat.le_refl _) a0 a1 H) (by omega) (Nat.le_of_ble_eq_true rfl) (Nat.le_of_ble_eq_true rfl) rfl rfl (Nat.le_of_ble_eq_true rfl) fun y2 => ?_
  refine zs_aload_n (pc := 5) (x := a0) d_Manifest_canJoin_5 rfl ?_
  refine zs_iload_n (pc := 6) (x := a2) d_Manifest_canJoin_6 rfl ?_
  refine zs_callv_rI (pc := 7) (av := [zI a2]) (st := [zI y2]) (d' := 4) (C' := 0) (S' := 0) d_Manifest_canJoin_7 kV_Manifest_48 z_okb (jm_Manifest_schemaOf (d := 4) (Nat.le_refl _) a0 a2 H) (by omega) (Nat.le_of_ble_eq_true rfl) (Nat.le_of_ble_eq_true rfl) rfl rfl (Nat.le_of_ble_eq_true rfl) fun y7 => ?_
  refine zs_icmp_ne (pc := 10) (tgt := 50) d_Manifest_canJoin_10 rfl (fun q10 => ?_) (fun q10 => ?_)
  · refine zs_iconst (pc := 50) (v := (0 : Int32)) d_Manifest_canJoin_50 (by decide) ?_
    exact zs_zretc (pc := 51) d_Manifest_canJoin_51 rfl (by decide) (Nat.le_of_ble_eq_true rfl) (Nat.le_of_ble_eq_true rfl) rfl
  · refine zs_aload_n (pc := 13) (x := a0) d_Manifest_canJoin_13 rfl ?_
    refine zs_iload_n (pc := 14) (x := a1) d_Manifest_canJoin_14 rfl ?_
    refine zs_callv_rI (pc := 15) (av := [zI a1]) (st := []) (d' := 4) (C' := 0) (S' := 0) d_Manifest_canJoin_15 kV_Manifest_37 z_okb (jm_Manifest_recordsIn (d := 4) (Nat.le_refl _) a0 a1 H) (by omega) (Nat.le_of_ble_eq_true rfl) (Nat.le_of_ble_eq_true rfl) rfl rfl (Nat.le_of_ble_eq_true rfl) fun y15 => ?_
    refine zs_aload_n (pc := 18) (x := a0) d_Manifest_canJoin_18 rfl ?_
    refine zs_iload_n (pc := 19) (x := a2) d_Manifest_canJoin_19 rfl ?_
    refine zs_callv_rI (pc := 20) (av := [zI a2]) (st := [zI y15]) (d' := 4) (C' := 0) (S' := 0) d_Manifest_canJoin_20 kV_Manifest_37 z_okb (jm_Manifest_recordsIn (d := 4) (Nat.le_refl _) a0 a2 H) (by omega) (Nat.le_of_ble_eq_true rfl) (Nat.le_of_ble_eq_true rfl) rfl rfl (Nat.le_of_ble_eq_true rfl) fun y20 => ?_
    refine zs_iadd (pc := 23) d_Manifest_canJoin_23 ?_
    refine zs_bipush (pc := 24) (v := (20 : Int32)) d_Manifest_canJoin_24 (by decide) ?_
    refine zs_icmp_gt (pc := 26) (tgt := 50) d_Manifest_canJoin_26 rfl (fun q26 => ?_) (fun q26 => ?_)
    · refine zs_iconst (pc := 50) (v := (0 : Int32)) d_Manifest_canJoin_50 (by decide) ?_
      exact zs_zretc (pc := 51) d_Manifest_canJoin_51 rfl (by decide) (Nat.le_of_ble_eq_true rfl) (Nat.le_of_ble_eq_true rfl) rfl
    · refine zs_aload_n (pc := 29) (x := a0) d_Manifest_canJoin_29 rfl ?_
      refine zs_iload_n (pc := 30) (x := a1) d_Manifest_canJoin_30 rfl ?_
      refine zs_callv_rI (pc := 31) (av := [zI a1]) (st := []) (d' := 4) (C' := 0) (S' := 0) d_Manifest_canJoin_31 kV_Manifest_51 z_okb (jm_Manifest_bytesIn (d := 4) (Nat.le_refl _) a0 a1 H) (by omega) (Nat.le_of_ble_eq_true rfl) (Nat.le_of_ble_eq_true rfl) rfl rfl (Nat.le_of_ble_eq_true rfl) fun y31 => ?_
      refine zs_aload_n (pc := 34) (x := a0) d_Manifest_canJoin_34 rfl ?_
      refine zs_iload_n (pc := 35) (x := a2) d_Manifest_canJoin_35 rfl ?_
      refine zs_callv_rI (pc := 36) (av := [zI a2]) (st := [zI y31]) (d' := 4) (C' := 0) (S' := 0) d_Manifest_canJoin_36 kV_Manifest_51 z_okb (jm_Manifest_bytesIn (d := 4) (Nat.le_refl _) a0 a2 H) (by omega) (Nat.le_of_ble_eq_true rfl) (Nat.le_of_ble_eq_true rfl) rfl rfl (Nat.le_of_ble_eq_true rfl) fun y36 => ?_
      refine zs_iadd (pc := 39) d_Manifest_canJoin_39 ?_
      refine zs_sipush (pc := 40) (v := (200 : Int32)) d_Manifest_canJoin_40 (by decide) ?_
      refine zs_icmp_gt (pc := 43) (tgt := 50) d_Manifest_canJoin_43 rfl (fun q43 => ?_) (fun q43 => ?_)
      · refine zs_iconst (pc := 50) (v := (0 : Int32)) d_Manifest_canJoin_50 (by decide) ?_
        exact zs_zretc (pc := 51) d_Manifest_canJoin_51 rfl (by decide) (Nat.le_of_ble_eq_true rfl) (Nat.le_of_ble_eq_true rfl) rfl
      · refine zs_iconst (pc := 46) (v := (1 : Int32)) d_Manifest_canJoin_46 (by decide) ?_
        refine zs_goto (pc := 47) (tgt := 51) d_Manifest_canJoin_47 rfl ?_
        exact zs_zretc (pc := 51) d_Manifest_canJoin_51 rfl (by decide) (Nat.le_of_ble_eq_true rfl) (Nat.le_of_ble_eq_true rfl) rfl
def jL_Manifest_nextFile_8 (fu : Nat) (H : zH) : Nat → Option Nat → Int32 → Int32 → Int32 → Option Int32
  | 0, _, _, _, _ => none
  | g + 1, a0, a1, a3, a4 =>
    if a3 ≤ a4 then (
      some (-1 : Int32))
    else (
      (jF_Manifest_subjectOf a0 a4 H).bind fun y17 =>
      if y17 = a1 then (
        some a4)
      else (
        jL_Manifest_nextFile_8 fu H g a0 a1 a3 (a4 + (1 : Int32))))
def jF_Manifest_nextFile (fu : Nat) (a0 : Option Nat) (a1 : Int32) (a2 : Int32) (H : zH) : Option Int32 :=
  (zok H a0 5).bind fun _ =>
  (jF_Manifest_entries a0 H).bind fun y1 =>
  jL_Manifest_nextFile_8 fu H fu a0 a1 y1 a2
theorem jl_Manifest_nextFile_8 {E : zE} {d : Nat} (hd : 3 ≤ d) (fu : Nat) (H : zH) : ∀ (g : Nat), ∀ (a0 : Option Nat) (a1 : Int32) (a3 : Int32) (a4 : Int32), z_S E jM_Manifest_nextFile d 0 0 (zrI H) 8 [(0, zR a0), (1, zI a1), (3, zI a3), (4, zI a4)] [] H 0 0 (jL_Manifest_nextFile_8 fu H g a0 a1 a3 a4) := by
  intro g
  induction g with
  | zero => intros; exact zs_none
  | succ g ih =>
    intro a0 a1 a3 a4
    rw [jL_Manifest_nextFile_8]
    refine zs_iload (pc := 8) (x := a4) d_Manifest_nextFile_8 rfl ?_
    refine zs_iload_n (pc := 10) (x := a3) d_Manifest_nextFile_10 rfl ?_
    refine zs_icmp_ge (pc := 11) (tgt := 33) d_Manifest_nextFile_11 rfl (fun q11 => ?_) (fun q11 => ?_)
    · refine zs_iconst (pc := 33) (v := (-1 : Int32)) d_Manifest_nextFile_33 (by decide) ?_
      exact zs_iret (pc := 34) d_Manifest_nextFile_34 rfl (Nat.le_of_ble_eq_true rfl) (Nat.le_of_ble_eq_true rfl) rfl
    · refine zs_aload_n (pc := 14) (x := a0) d_Manifest_nextFile_14 rfl ?_
      refine zs_iload (pc := 15) (x := a4) d_Manifest_nextFile_15 rfl ?_
      refine zs_callv_rI (pc := 17) (av := [zI a4]) (st := []) (d' := 2) (C' := 0) (S' := 0) d_Manifest_nextFile_17 kV_Manifest_33 z_okb (jm_Manifest_subjectOf (d := 2) (Nat.le_refl _) a0 a4 H) (by omega) (Nat.le_of_ble_eq_true rfl) (Nat.le_of_ble_eq_true rfl) rfl rfl (Nat.le_of_ble_eq_true rfl) fun y17 => ?_
      refine zs_iload_n (pc := 20) (x := a1) d_Manifest_nextFile_20 rfl ?_
      refine zs_icmp_ne (pc := 21) (tgt := 27) d_Manifest_nextFile_21 rfl (fun q21 => ?_) (fun q21 => ?_)
      · refine zs_iinc (pc := 27) (x := a4) (v := (a4 + (1 : Int32))) (lv' := [(4, zI (a4 + (1 : Int32))), (0, zR a0), (1, zI a1), (3, zI a3)]) d_Manifest_nextFile_27 rfl rfl (Nat.le_of_ble_eq_true rfl) rfl ?_
        refine zs_goto (pc := 30) (tgt := 8) d_Manifest_nextFile_30 rfl ?_
        refine zs_sub (lv' := [(0, zR a0), (1, zI a1), (3, zI a3), (4, zI (a4 + (1 : Int32)))]) [1, 2, 3, 0] rfl ?_
        exact ih a0 a1 a3 (a4 + (1 : Int32))
      · refine zs_iload (pc := 24) (x := a4) d_Manifest_nextFile_24 rfl ?_
        exact zs_iret (pc := 26) d_Manifest_nextFile_26 rfl (Nat.le_of_ble_eq_true rfl) (Nat.le_of_ble_eq_true rfl) rfl
theorem jm_Manifest_nextFile {E : zE} {d : Nat} (hd : 3 ≤ d) (fu : Nat) (a0 : Option Nat) (a1 : Int32) (a2 : Int32) (H : zH) : z_MS E jM_Manifest_nextFile d 0 0 (zrI H) [zR a0, zI a1, zI a2] H (jF_Manifest_nextFile fu a0 a1 a2 H) := by
  refine zs_of (lv0 := [(0, zR a0), (1, zI a1), (2, zI a2)]) pn_Manifest (Nat.le_of_ble_eq_true rfl) rfl ?_
  unfold jF_Manifest_nextFile
  refine zs_bind fun _ _ => ?_
  refine zs_aload_n (pc := 0) (x := a0) d_Manifest_nextFile_0 rfl ?_
  refine zs_callv_rI (pc := 1) (av := []) (st := []) (d' := 1) (C' := 0) (S' := 0) d_Manifest_nextFile_1 kV_Manifest_29 z_okb (jm_Manifest_entries (d := 1) (Nat.le_refl _) a0 H) (by omega) (Nat.le_of_ble_eq_true rfl) (Nat.le_of_ble_eq_true rfl) rfl rfl (Nat.le_of_ble_eq_true rfl) fun y1 => ?_
  refine zs_istore_n (pc := 4) (lv' := [(3, zI y1), (0, zR a0), (1, zI a1), (2, zI a2)]) d_Manifest_nextFile_4 (Nat.le_of_ble_eq_true rfl) rfl ?_
  refine zs_iload_n (pc := 5) (x := a2) d_Manifest_nextFile_5 rfl ?_
  refine zs_istore (pc := 6) (lv' := [(4, zI a2), (3, zI y1), (0, zR a0), (1, zI a1), (2, zI a2)]) d_Manifest_nextFile_6 (Nat.le_of_ble_eq_true rfl) rfl ?_
  refine zs_sub (lv' := [(0, zR a0), (1, zI a1), (3, zI y1), (4, zI a2)]) [2, 3, 1, 0] rfl ?_
  exact jl_Manifest_nextFile_8 hd fu H fu a0 a1 y1 a2
def jL_Manifest_firstToJoin_7 (fu : Nat) (H : zH) : Nat → Option Nat → Int32 → Int32 → Int32 → Option Int32
  | 0, _, _, _, _ => none
  | g + 1, a0, a1, a2, a3 =>
    if a2 ≤ a3 then (
      some (-1 : Int32))
    else (
      (jF_Manifest_subjectOf a0 a3 H).bind fun y14 =>
      if y14 = a1 then (
        (jF_Manifest_nextFile fu a0 a1 (a3 + (1 : Int32)) H).bind fun y26 =>
        if y26 = (-1 : Int32) then (
          jL_Manifest_firstToJoin_7 fu H g a0 a1 a2 (a3 + (1 : Int32)))
        else (
          (jF_Manifest_canJoin a0 a3 y26 H).bind fun y41 =>
          if y41 = 0 then (
            jL_Manifest_firstToJoin_7 fu H g a0 a1 a2 (a3 + (1 : Int32)))
          else (
            some a3)))
      else (
        jL_Manifest_firstToJoin_7 fu H g a0 a1 a2 (a3 + (1 : Int32))))
def jF_Manifest_firstToJoin (fu : Nat) (a0 : Option Nat) (a1 : Int32) (H : zH) : Option Int32 :=
  (zok H a0 5).bind fun _ =>
  (jF_Manifest_entries a0 H).bind fun y1 =>
  jL_Manifest_firstToJoin_7 fu H fu a0 a1 y1 (0 : Int32)
theorem jl_Manifest_firstToJoin_7 {E : zE} {d : Nat} (hd : 6 ≤ d) (fu : Nat) (H : zH) : ∀ (g : Nat), ∀ (a0 : Option Nat) (a1 : Int32) (a2 : Int32) (a3 : Int32), z_S E jM_Manifest_firstToJoin d 0 0 (zrI H) 7 [(0, zR a0), (1, zI a1), (2, zI a2), (3, zI a3)] [] H 0 0 (jL_Manifest_firstToJoin_7 fu H g a0 a1 a2 a3) := by
  intro g
  induction g with
  | zero => intros; exact zs_none
  | succ g ih =>
    intro a0 a1 a2 a3
    rw [jL_Manifest_firstToJoin_7]
    refine zs_iload_n (pc := 7) (x := a3) d_Manifest_firstToJoin_7 rfl ?_
    refine zs_iload_n (pc := 8) (x := a2) d_Manifest_firstToJoin_8 rfl ?_
    refine zs_icmp_ge (pc := 9) (tgt := 55) d_Manifest_firstToJoin_9 rfl (fun q9 => ?_) (fun q9 => ?_)
    · refine zs_iconst (pc := 55) (v := (-1 : Int32)) d_Manifest_firstToJoin_55 (by decide) ?_
      exact zs_iret (pc := 56) d_Manifest_firstToJoin_56 rfl (Nat.le_of_ble_eq_true rfl) (Nat.le_of_ble_eq_true rfl) rfl
    · refine zs_aload_n (pc := 12) (x := a0) d_Manifest_firstToJoin_12 rfl ?_
      refine zs_iload_n (pc := 13) (x := a3) d_Manifest_firstToJoin_13 rfl ?_
      refine zs_callv_rI (pc := 14) (av := [zI a3]) (st := []) (d' := 2) (C' := 0) (S' := 0) d_Manifest_firstToJoin_14 kV_Manifest_33 z_okb (jm_Manifest_subjectOf (d := 2) (Nat.le_refl _) a0 a3 H) (by omega) (Nat.le_of_ble_eq_true rfl) (Nat.le_of_ble_eq_true rfl) rfl rfl (Nat.le_of_ble_eq_true rfl) fun y14 => ?_
      refine zs_iload_n (pc := 17) (x := a1) d_Manifest_firstToJoin_17 rfl ?_
      refine zs_icmp_ne (pc := 18) (tgt := 49) d_Manifest_firstToJoin_18 rfl (fun q18 => ?_) (fun q18 => ?_)
      · refine zs_iinc (pc := 49) (x := a3) (v := (a3 + (1 : Int32))) (lv' := [(3, zI (a3 + (1 : Int32))), (0, zR a0), (1, zI a1), (2, zI a2)]) d_Manifest_firstToJoin_49 rfl rfl (Nat.le_of_ble_eq_true rfl) rfl ?_
        refine zs_goto (pc := 52) (tgt := 7) d_Manifest_firstToJoin_52 rfl ?_
        refine zs_sub (lv' := [(0, zR a0), (1, zI a1), (2, zI a2), (3, zI (a3 + (1 : Int32)))]) [1, 2, 3, 0] rfl ?_
        exact ih a0 a1 a2 (a3 + (1 : Int32))
      · refine zs_aload_n (pc := 21) (x := a0) d_Manifest_firstToJoin_21 rfl ?_
        refine zs_iload_n (pc := 22) (x := a1) d_Manifest_firstToJoin_22 rfl ?_
        refine zs_iload_n (pc := 23) (x := a3) d_Manifest_firstToJoin_23 rfl ?_
        refine zs_iconst (pc := 24) (v := (1 : Int32)) d_Manifest_firstToJoin_24 (by decide) ?_
        refine zs_iadd (pc := 25) d_Manifest_firstToJoin_25 ?_
        refine zs_callv_rI (pc := 26) (av := [zI a1, zI (a3 + (1 : Int32))]) (st := []) (d' := 3) (C' := 0) (S' := 0) d_Manifest_firstToJoin_26 kV_Manifest_40 z_okb (jm_Manifest_nextFile (d := 3) (Nat.le_refl _) fu a0 a1 (a3 + (1 : Int32)) H) (by omega) (Nat.le_of_ble_eq_true rfl) (Nat.le_of_ble_eq_true rfl) rfl rfl (Nat.le_of_ble_eq_true rfl) fun y26 => ?_
        refine zs_istore (pc := 29) (lv' := [(4, zI y26), (0, zR a0), (1, zI a1), (2, zI a2), (3, zI a3)]) d_Manifest_firstToJoin_29 (Nat.le_of_ble_eq_true rfl) rfl ?_
        refine zs_iload (pc := 31) (x := y26) d_Manifest_firstToJoin_31 rfl ?_
        refine zs_iconst (pc := 33) (v := (-1 : Int32)) d_Manifest_firstToJoin_33 (by decide) ?_
        refine zs_icmp_eq (pc := 34) (tgt := 49) d_Manifest_firstToJoin_34 rfl (fun q34 => ?_) (fun q34 => ?_)
        · refine zs_iinc (pc := 49) (x := a3) (v := (a3 + (1 : Int32))) (lv' := [(3, zI (a3 + (1 : Int32))), (4, zI y26), (0, zR a0), (1, zI a1), (2, zI a2)]) d_Manifest_firstToJoin_49 rfl rfl (Nat.le_of_ble_eq_true rfl) rfl ?_
          refine zs_goto (pc := 52) (tgt := 7) d_Manifest_firstToJoin_52 rfl ?_
          refine zs_sub (lv' := [(0, zR a0), (1, zI a1), (2, zI a2), (3, zI (a3 + (1 : Int32)))]) [2, 3, 4, 0] rfl ?_
          exact ih a0 a1 a2 (a3 + (1 : Int32))
        · refine zs_aload_n (pc := 37) (x := a0) d_Manifest_firstToJoin_37 rfl ?_
          refine zs_iload_n (pc := 38) (x := a3) d_Manifest_firstToJoin_38 rfl ?_
          refine zs_iload (pc := 39) (x := y26) d_Manifest_firstToJoin_39 rfl ?_
          refine zs_callv_rI (pc := 41) (av := [zI a3, zI y26]) (st := []) (d' := 5) (C' := 0) (S' := 0) d_Manifest_firstToJoin_41 kV_Manifest_44 z_okb (jm_Manifest_canJoin (d := 5) (Nat.le_refl _) a0 a3 y26 H) (by omega) (Nat.le_of_ble_eq_true rfl) (Nat.le_of_ble_eq_true rfl) rfl rfl (Nat.le_of_ble_eq_true rfl) fun y41 => ?_
          refine zs_if_eq (pc := 44) (tgt := 49) d_Manifest_firstToJoin_44 rfl (fun q44 => ?_) (fun q44 => ?_)
          · refine zs_iinc (pc := 49) (x := a3) (v := (a3 + (1 : Int32))) (lv' := [(3, zI (a3 + (1 : Int32))), (4, zI y26), (0, zR a0), (1, zI a1), (2, zI a2)]) d_Manifest_firstToJoin_49 rfl rfl (Nat.le_of_ble_eq_true rfl) rfl ?_
            refine zs_goto (pc := 52) (tgt := 7) d_Manifest_firstToJoin_52 rfl ?_
            refine zs_sub (lv' := [(0, zR a0), (1, zI a1), (2, zI a2), (3, zI (a3 + (1 : Int32)))]) [2, 3, 4, 0] rfl ?_
            exact ih a0 a1 a2 (a3 + (1 : Int32))
          · refine zs_iload_n (pc := 47) (x := a3) d_Manifest_firstToJoin_47 rfl ?_
            exact zs_iret (pc := 48) d_Manifest_firstToJoin_48 rfl (Nat.le_of_ble_eq_true rfl) (Nat.le_of_ble_eq_true rfl) rfl
theorem jm_Manifest_firstToJoin {E : zE} {d : Nat} (hd : 6 ≤ d) (fu : Nat) (a0 : Option Nat) (a1 : Int32) (H : zH) : z_MS E jM_Manifest_firstToJoin d 0 0 (zrI H) [zR a0, zI a1] H (jF_Manifest_firstToJoin fu a0 a1 H) := by
  refine zs_of (lv0 := [(0, zR a0), (1, zI a1)]) pn_Manifest (Nat.le_of_ble_eq_true rfl) rfl ?_
  unfold jF_Manifest_firstToJoin
  refine zs_bind fun _ _ => ?_
  refine zs_aload_n (pc := 0) (x := a0) d_Manifest_firstToJoin_0 rfl ?_
  refine zs_callv_rI (pc := 1) (av := []) (st := []) (d' := 1) (C' := 0) (S' := 0) d_Manifest_firstToJoin_1 kV_Manifest_29 z_okb (jm_Manifest_entries (d := 1) (Nat.le_refl _) a0 H) (by omega) (Nat.le_of_ble_eq_true rfl) (Nat.le_of_ble_eq_true rfl) rfl rfl (Nat.le_of_ble_eq_true rfl) fun y1 => ?_
  refine zs_istore_n (pc := 4) (lv' := [(2, zI y1), (0, zR a0), (1, zI a1)]) d_Manifest_firstToJoin_4 (Nat.le_of_ble_eq_true rfl) rfl ?_
  refine zs_iconst (pc := 5) (v := (0 : Int32)) d_Manifest_firstToJoin_5 (by decide) ?_
  refine zs_istore_n (pc := 6) (lv' := [(3, zI (0 : Int32)), (2, zI y1), (0, zR a0), (1, zI a1)]) d_Manifest_firstToJoin_6 (Nat.le_of_ble_eq_true rfl) rfl ?_
  refine zs_sub (lv' := [(0, zR a0), (1, zI a1), (2, zI y1), (3, zI (0 : Int32))]) [2, 3, 1, 0] rfl ?_
  exact jl_Manifest_firstToJoin_7 hd fu H fu a0 a1 y1 (0 : Int32)
def jF_ST_compact (fu : Nat) (a0 : Option Nat) (a1 : Int32) (H : zH) : Option (Int32 × zH) :=
  (zok H a0 0).bind fun _ =>
  (zgR H a0 0 1).bind fun v1 =>
  (zgI H v1 3 1).bind fun v4 =>
  if v4 = 0 then (
    some ((-4 : Int32), H))
  else (
    (jF_ST_isSubject a1 H).bind fun y14 =>
    if y14 = 0 then (
      some ((-1 : Int32), H))
    else (
      (zgR H a0 0 3).bind fun v23 =>
      (jF_Manifest_firstToJoin fu v23 a1 H).bind fun y27 =>
      if y27 = (-1 : Int32) then (
        some ((0 : Int32), H))
      else (
        (zgR H a0 0 3).bind fun v39 =>
        (jF_Manifest_nextFile fu v39 a1 (y27 + (1 : Int32)) H).bind fun y46 =>
        (zgR H a0 0 3).bind fun v51 =>
        (jF_Manifest_draftJoined fu v51 y27 y46 H).bind fun y56 =>
        (zgR y56 a0 0 3).bind fun v60 =>
        (jF_Manifest_placeOfDraft fu v60 y56).bind fun y63 =>
        if y63 = (-1 : Int32) then (
          some ((-3 : Int32), y56))
        else (
          (zgR y56 a0 0 3).bind fun v78 =>
          (jF_Manifest_commitJoined fu v78 y27 y46 y63 y56).bind fun y85 =>
          if y85.1 = 0 then (
            (jF_ST_goDown a0 y85.2).bind fun y96 =>
            some (y96.1, y96.2))
          else (
            some ((1 : Int32), y85.2))))))
theorem jm_ST_compact {E : zE} {d : Nat} (hd : 7 ≤ d) (fu : Nat) (a0 : Option Nat) (a1 : Int32) (H : zH) : z_MS E jM_ST_compact d 0 0 zwI [zR a0, zI a1] H (jF_ST_compact fu a0 a1 H) := by
  refine zs_of (lv0 := [(0, zR a0), (1, zI a1)]) pn_ST (Nat.le_of_ble_eq_true rfl) rfl ?_
  unfold jF_ST_compact
  refine zs_bind fun _ _ => ?_
  refine zs_aload_n (pc := 0) (x := a0) d_ST_compact_0 rfl ?_
  refine zs_getR (pc := 1) d_ST_compact_1 kF_ST_19 fun v1 => ?_
  refine zs_getI (pc := 4) d_ST_compact_4 kF_ST_79 fun v4 => ?_
  refine zs_if_ne (pc := 7) (tgt := 13) d_ST_compact_7 rfl (fun q7 => ?_) (fun q7 => ?_)
  · refine zs_iload_n (pc := 13) (x := a1) d_ST_compact_13 rfl ?_
    refine zs_calls_rI (pc := 14) (av := [zI a1]) (st := []) (d' := 0) (C' := 0) (S' := 0) d_ST_compact_14 kS_ST_83 (jm_ST_isSubject (d := 0) (Nat.le_refl _) a1 H) (by omega) (Nat.le_of_ble_eq_true rfl) (Nat.le_of_ble_eq_true rfl) rfl rfl (Nat.le_of_ble_eq_true rfl) fun y14 => ?_
    refine zs_if_ne (pc := 17) (tgt := 22) d_ST_compact_17 rfl (fun q17 => ?_) (fun q17 => ?_)
    · refine zs_aload_n (pc := 22) (x := a0) d_ST_compact_22 rfl ?_
      refine zs_getR (pc := 23) d_ST_compact_23 kF_ST_35 fun v23 => ?_
      refine zs_iload_n (pc := 26) (x := a1) d_ST_compact_26 rfl ?_
      refine zs_callv_rI (pc := 27) (av := [zI a1]) (st := []) (d' := 6) (C' := 0) (S' := 0) d_ST_compact_27 kV_ST_152 z_okb (jm_Manifest_firstToJoin (d := 6) (Nat.le_refl _) fu v23 a1 H) (by omega) (Nat.le_of_ble_eq_true rfl) (Nat.le_of_ble_eq_true rfl) rfl rfl (Nat.le_of_ble_eq_true rfl) fun y27 => ?_
      refine zs_istore_n (pc := 30) (lv' := [(2, zI y27), (0, zR a0), (1, zI a1)]) d_ST_compact_30 (Nat.le_of_ble_eq_true rfl) rfl ?_
      refine zs_iload_n (pc := 31) (x := y27) d_ST_compact_31 rfl ?_
      refine zs_iconst (pc := 32) (v := (-1 : Int32)) d_ST_compact_32 (by decide) ?_
      refine zs_icmp_ne (pc := 33) (tgt := 38) d_ST_compact_33 rfl (fun q33 => ?_) (fun q33 => ?_)
      · refine zs_aload_n (pc := 38) (x := a0) d_ST_compact_38 rfl ?_
        refine zs_getR (pc := 39) d_ST_compact_39 kF_ST_35 fun v39 => ?_
        refine zs_iload_n (pc := 42) (x := a1) d_ST_compact_42 rfl ?_
        refine zs_iload_n (pc := 43) (x := y27) d_ST_compact_43 rfl ?_
        refine zs_iconst (pc := 44) (v := (1 : Int32)) d_ST_compact_44 (by decide) ?_
        refine zs_iadd (pc := 45) d_ST_compact_45 ?_
        refine zs_callv_rI (pc := 46) (av := [zI a1, zI (y27 + (1 : Int32))]) (st := []) (d' := 3) (C' := 0) (S' := 0) d_ST_compact_46 kV_ST_155 z_okb (jm_Manifest_nextFile (d := 3) (Nat.le_refl _) fu v39 a1 (y27 + (1 : Int32)) H) (by omega) (Nat.le_of_ble_eq_true rfl) (Nat.le_of_ble_eq_true rfl) rfl rfl (Nat.le_of_ble_eq_true rfl) fun y46 => ?_
        refine zs_istore_n (pc := 49) (lv' := [(3, zI y46), (2, zI y27), (0, zR a0), (1, zI a1)]) d_ST_compact_49 (Nat.le_of_ble_eq_true rfl) rfl ?_
        refine zs_aload_n (pc := 50) (x := a0) d_ST_compact_50 rfl ?_
        refine zs_getR (pc := 51) d_ST_compact_51 kF_ST_35 fun v51 => ?_
        refine zs_iload_n (pc := 54) (x := y27) d_ST_compact_54 rfl ?_
        refine zs_iload_n (pc := 55) (x := y46) d_ST_compact_55 rfl ?_
        refine zs_callv_wV (pc := 56) (av := [zI y27, zI y46]) (st := []) (d' := 6) (C' := 0) (S' := 0) d_ST_compact_56 kV_ST_158 z_okb (jm_Manifest_draftJoined (d := 6) (Nat.le_refl _) fu v51 y27 y46 H) (by omega) (Nat.le_of_ble_eq_true rfl) (Nat.le_of_ble_eq_true rfl) rfl rfl (Nat.le_of_ble_eq_true rfl) fun y56 => ?_
        refine zs_aload_n (pc := 59) (x := a0) d_ST_compact_59 rfl ?_
        refine zs_getR (pc := 60) d_ST_compact_60 kF_ST_35 fun v60 => ?_
        refine zs_callv_rI (pc := 63) (av := []) (st := []) (d' := 4) (C' := 0) (S' := 0) d_ST_compact_63 kV_ST_143 z_okb (jm_Manifest_placeOfDraft (d := 4) (Nat.le_refl _) fu v60 y56) (by omega) (Nat.le_of_ble_eq_true rfl) (Nat.le_of_ble_eq_true rfl) rfl rfl (Nat.le_of_ble_eq_true rfl) fun y63 => ?_
        refine zs_istore (pc := 66) (lv' := [(4, zI y63), (3, zI y46), (2, zI y27), (0, zR a0), (1, zI a1)]) d_ST_compact_66 (Nat.le_of_ble_eq_true rfl) rfl ?_
        refine zs_iload (pc := 68) (x := y63) d_ST_compact_68 rfl ?_
        refine zs_iconst (pc := 70) (v := (-1 : Int32)) d_ST_compact_70 (by decide) ?_
        refine zs_icmp_ne (pc := 71) (tgt := 77) d_ST_compact_71 rfl (fun q71 => ?_) (fun q71 => ?_)
        · refine zs_aload_n (pc := 77) (x := a0) d_ST_compact_77 rfl ?_
          refine zs_getR (pc := 78) d_ST_compact_78 kF_ST_35 fun v78 => ?_
          refine zs_iload_n (pc := 81) (x := y27) d_ST_compact_81 rfl ?_
          refine zs_iload_n (pc := 82) (x := y46) d_ST_compact_82 rfl ?_
          refine zs_iload (pc := 83) (x := y63) d_ST_compact_83 rfl ?_
          refine zs_callv_wI (pc := 85) (av := [zI y27, zI y46, zI y63]) (st := []) (d' := 3) (C' := 0) (S' := 0) d_ST_compact_85 kV_ST_162 z_okb (jm_Manifest_commitJoined (d := 3) (Nat.le_refl _) fu v78 y27 y46 y63 y56) (by omega) (Nat.le_of_ble_eq_true rfl) (Nat.le_of_ble_eq_true rfl) rfl rfl (Nat.le_of_ble_eq_true rfl) fun y85 => ?_
          refine zs_if_eq (pc := 88) (tgt := 95) d_ST_compact_88 rfl (fun q88 => ?_) (fun q88 => ?_)
          · refine zs_aload_n (pc := 95) (x := a0) d_ST_compact_95 rfl ?_
            refine zs_callv_wI (pc := 96) (av := []) (st := []) (d' := 2) (C' := 0) (S' := 0) d_ST_compact_96 kV_ST_106 z_okb (jm_ST_goDown (d := 2) (Nat.le_refl _) a0 y85.2) (by omega) (Nat.le_of_ble_eq_true rfl) (Nat.le_of_ble_eq_true rfl) rfl rfl (Nat.le_of_ble_eq_true rfl) fun y96 => ?_
            exact zs_iret (pc := 99) d_ST_compact_99 rfl (Nat.le_of_ble_eq_true rfl) (Nat.le_of_ble_eq_true rfl) rfl
          · refine zs_iconst (pc := 91) (v := (1 : Int32)) d_ST_compact_91 (by decide) ?_
            refine zs_goto (pc := 92) (tgt := 99) d_ST_compact_92 rfl ?_
            exact zs_iret (pc := 99) d_ST_compact_99 rfl (Nat.le_of_ble_eq_true rfl) (Nat.le_of_ble_eq_true rfl) rfl
        · refine zs_bipush (pc := 74) (v := (-3 : Int32)) d_ST_compact_74 (by decide) ?_
          exact zs_iret (pc := 76) d_ST_compact_76 rfl (Nat.le_of_ble_eq_true rfl) (Nat.le_of_ble_eq_true rfl) rfl
      · refine zs_iconst (pc := 36) (v := (0 : Int32)) d_ST_compact_36 (by decide) ?_
        exact zs_iret (pc := 37) d_ST_compact_37 rfl (Nat.le_of_ble_eq_true rfl) (Nat.le_of_ble_eq_true rfl) rfl
    · refine zs_iconst (pc := 20) (v := (-1 : Int32)) d_ST_compact_20 (by decide) ?_
      exact zs_iret (pc := 21) d_ST_compact_21 rfl (Nat.le_of_ble_eq_true rfl) (Nat.le_of_ble_eq_true rfl) rfl
  · refine zs_bipush (pc := 10) (v := (-4 : Int32)) d_ST_compact_10 (by decide) ?_
    exact zs_iret (pc := 12) d_ST_compact_12 rfl (Nat.le_of_ble_eq_true rfl) (Nat.le_of_ble_eq_true rfl) rfl
def jL_Coder_behindVarint_4 (fu : Nat) (H : zH) : Nat → Option Nat → Int32 → Int32 → Option Int32
  | 0, _, _, _ => none
  | g + 1, a0, a2, a3 =>
    if (10 : Int32) ≤ a3 then (
      some (a2 + (1 : Int32)))
    else (
      (jF_Disk_at a0 a2 H).bind fun y12 =>
      if y12 < (128 : Int32) then (
        some (a2 + (1 : Int32)))
      else (
        jL_Coder_behindVarint_4 fu H g a0 (a2 + (1 : Int32)) (a3 + (1 : Int32))))
def jF_Coder_behindVarint (fu : Nat) (a0 : Option Nat) (a1 : Int32) (H : zH) : Option Int32 :=
  jL_Coder_behindVarint_4 fu H fu a0 a1 (1 : Int32)
theorem jl_Coder_behindVarint_4 {E : zE} {d : Nat} (hd : 1 ≤ d) (fu : Nat) (H : zH) : ∀ (g : Nat), ∀ (a0 : Option Nat) (a2 : Int32) (a3 : Int32), z_S E jM_Coder_behindVarint d 0 0 (zrI H) 4 [(0, zR a0), (2, zI a2), (3, zI a3)] [] H 0 0 (jL_Coder_behindVarint_4 fu H g a0 a2 a3) := by
  intro g
  induction g with
  | zero => intros; exact zs_none
  | succ g ih =>
    intro a0 a2 a3
    rw [jL_Coder_behindVarint_4]
    refine zs_iload_n (pc := 4) (x := a3) d_Coder_behindVarint_4 rfl ?_
    refine zs_bipush (pc := 5) (v := (10 : Int32)) d_Coder_behindVarint_5 (by decide) ?_
    refine zs_icmp_ge (pc := 7) (tgt := 30) d_Coder_behindVarint_7 rfl (fun q7 => ?_) (fun q7 => ?_)
    · refine zs_iload_n (pc := 30) (x := a2) d_Coder_behindVarint_30 rfl ?_
      refine zs_iconst (pc := 31) (v := (1 : Int32)) d_Coder_behindVarint_31 (by decide) ?_
      refine zs_iadd (pc := 32) d_Coder_behindVarint_32 ?_
      exact zs_iret (pc := 33) d_Coder_behindVarint_33 rfl (Nat.le_of_ble_eq_true rfl) (Nat.le_of_ble_eq_true rfl) rfl
    · refine zs_aload_n (pc := 10) (x := a0) d_Coder_behindVarint_10 rfl ?_
      refine zs_iload_n (pc := 11) (x := a2) d_Coder_behindVarint_11 rfl ?_
      refine zs_callv_rI (pc := 12) (av := [zI a2]) (st := []) (d' := 0) (C' := 0) (S' := 0) d_Coder_behindVarint_12 kV_Coder_77 z_okb (jm_Disk_at (d := 0) (Nat.le_refl _) a0 a2 H) (by omega) (Nat.le_of_ble_eq_true rfl) (Nat.le_of_ble_eq_true rfl) rfl rfl (Nat.le_of_ble_eq_true rfl) fun y12 => ?_
      refine zs_sipush (pc := 15) (v := (128 : Int32)) d_Coder_behindVarint_15 (by decide) ?_
      refine zs_icmp_lt (pc := 18) (tgt := 30) d_Coder_behindVarint_18 rfl (fun q18 => ?_) (fun q18 => ?_)
      · refine zs_iload_n (pc := 30) (x := a2) d_Coder_behindVarint_30 rfl ?_
        refine zs_iconst (pc := 31) (v := (1 : Int32)) d_Coder_behindVarint_31 (by decide) ?_
        refine zs_iadd (pc := 32) d_Coder_behindVarint_32 ?_
        exact zs_iret (pc := 33) d_Coder_behindVarint_33 rfl (Nat.le_of_ble_eq_true rfl) (Nat.le_of_ble_eq_true rfl) rfl
      · refine zs_iinc (pc := 21) (x := a2) (v := (a2 + (1 : Int32))) (lv' := [(2, zI (a2 + (1 : Int32))), (0, zR a0), (3, zI a3)]) d_Coder_behindVarint_21 rfl rfl (Nat.le_of_ble_eq_true rfl) rfl ?_
        refine zs_iinc (pc := 24) (x := a3) (v := (a3 + (1 : Int32))) (lv' := [(3, zI (a3 + (1 : Int32))), (2, zI (a2 + (1 : Int32))), (0, zR a0)]) d_Coder_behindVarint_24 rfl rfl (Nat.le_of_ble_eq_true rfl) rfl ?_
        refine zs_goto (pc := 27) (tgt := 4) d_Coder_behindVarint_27 rfl ?_
        refine zs_sub (lv' := [(0, zR a0), (2, zI (a2 + (1 : Int32))), (3, zI (a3 + (1 : Int32)))]) [2, 1, 0] rfl ?_
        exact ih a0 (a2 + (1 : Int32)) (a3 + (1 : Int32))
theorem jm_Coder_behindVarint {E : zE} {d : Nat} (hd : 1 ≤ d) (fu : Nat) (a0 : Option Nat) (a1 : Int32) (H : zH) : z_MS E jM_Coder_behindVarint d 0 0 (zrI H) [zR a0, zI a1] H (jF_Coder_behindVarint fu a0 a1 H) := by
  refine zs_of (lv0 := [(0, zR a0), (1, zI a1)]) pn_Coder (Nat.le_of_ble_eq_true rfl) rfl ?_
  unfold jF_Coder_behindVarint
  refine zs_iload_n (pc := 0) (x := a1) d_Coder_behindVarint_0 rfl ?_
  refine zs_istore_n (pc := 1) (lv' := [(2, zI a1), (0, zR a0), (1, zI a1)]) d_Coder_behindVarint_1 (Nat.le_of_ble_eq_true rfl) rfl ?_
  refine zs_iconst (pc := 2) (v := (1 : Int32)) d_Coder_behindVarint_2 (by decide) ?_
  refine zs_istore_n (pc := 3) (lv' := [(3, zI (1 : Int32)), (2, zI a1), (0, zR a0), (1, zI a1)]) d_Coder_behindVarint_3 (Nat.le_of_ble_eq_true rfl) rfl ?_
  refine zs_sub (lv' := [(0, zR a0), (2, zI a1), (3, zI (1 : Int32))]) [2, 1, 0] rfl ?_
  exact jl_Coder_behindVarint_4 hd fu H fu a0 a1 (1 : Int32)
def jL_Coder_varintAt_13 (fu : Nat) (H : zH) : Nat → Option Nat → Int32 → Int32 → Int64 → Int32 → Option Int64
  | 0, _, _, _, _, _ => none
  | g + 1, a0, a1, a2, a3, a5 =>
    if a2 ≤ a5 then (
      some (((a3.toUInt64 >>> ((1 : Int32).toInt64.toUInt64 &&& Int64.toUInt64 63)).toInt64) ^^^ (-(a3 &&& (1 : Int64)))))
    else (
      (jF_Disk_at a0 (a1 + a5) H).bind fun y25 =>
      jL_Coder_varintAt_13 fu H g a0 a1 a2 (a3 ||| (((y25 &&& (127 : Int32)).toInt64) <<< (((7 : Int32) * a5).toInt64 &&& 63))) (a5 + (1 : Int32)))
def jF_Coder_varintAt (fu : Nat) (a0 : Option Nat) (a1 : Int32) (H : zH) : Option Int64 :=
  (jF_Coder_behindVarint fu a0 a1 H).bind fun y2 =>
  jL_Coder_varintAt_13 fu H fu a0 a1 (y2 - a1) (0 : Int64) (0 : Int32)
theorem jl_Coder_varintAt_13 {E : zE} {d : Nat} (hd : 2 ≤ d) (fu : Nat) (H : zH) : ∀ (g : Nat), ∀ (a0 : Option Nat) (a1 : Int32) (a2 : Int32) (a3 : Int64) (a5 : Int32), z_S E jM_Coder_varintAt d 0 0 (zrL H) 13 [(0, zR a0), (1, zI a1), (2, zI a2), (3, zL a3), (5, zI a5)] [] H 0 0 (jL_Coder_varintAt_13 fu H g a0 a1 a2 a3 a5) := by
  intro g
  induction g with
  | zero => intros; exact zs_none
  | succ g ih =>
    intro a0 a1 a2 a3 a5
    rw [jL_Coder_varintAt_13]
    refine zs_iload (pc := 13) (x := a5) d_Coder_varintAt_13 rfl ?_
    refine zs_iload_n (pc := 15) (x := a2) d_Coder_varintAt_15 rfl ?_
    refine zs_icmp_ge (pc := 16) (tgt := 46) d_Coder_varintAt_16 rfl (fun q16 => ?_) (fun q16 => ?_)
    · refine zs_lload_n (pc := 46) (x := a3) d_Coder_varintAt_46 rfl ?_
      refine zs_iconst (pc := 47) (v := (1 : Int32)) d_Coder_varintAt_47 (by decide) ?_
      refine zs_lushr (pc := 48) d_Coder_varintAt_48 ?_
      refine zs_lload_n (pc := 49) (x := a3) d_Coder_varintAt_49 rfl ?_
      refine zs_lconst (pc := 50) (v := (1 : Int64)) d_Coder_varintAt_50 (by decide) ?_
      refine zs_land (pc := 51) d_Coder_varintAt_51 ?_
      refine zs_lneg (pc := 52) d_Coder_varintAt_52 ?_
      refine zs_lxor (pc := 53) d_Coder_varintAt_53 ?_
      exact zs_lret (pc := 54) d_Coder_varintAt_54 rfl (Nat.le_of_ble_eq_true rfl) (Nat.le_of_ble_eq_true rfl) rfl
    · refine zs_lload_n (pc := 19) (x := a3) d_Coder_varintAt_19 rfl ?_
      refine zs_aload_n (pc := 20) (x := a0) d_Coder_varintAt_20 rfl ?_
      refine zs_iload_n (pc := 21) (x := a1) d_Coder_varintAt_21 rfl ?_
      refine zs_iload (pc := 22) (x := a5) d_Coder_varintAt_22 rfl ?_
      refine zs_iadd (pc := 24) d_Coder_varintAt_24 ?_
      refine zs_callv_rI (pc := 25) (av := [zI (a1 + a5)]) (st := [zL a3]) (d' := 0) (C' := 0) (S' := 0) d_Coder_varintAt_25 kV_Coder_77 z_okb (jm_Disk_at (d := 0) (Nat.le_refl _) a0 (a1 + a5) H) (by omega) (Nat.le_of_ble_eq_true rfl) (Nat.le_of_ble_eq_true rfl) rfl rfl (Nat.le_of_ble_eq_true rfl) fun y25 => ?_
      refine zs_bipush (pc := 28) (v := (127 : Int32)) d_Coder_varintAt_28 (by decide) ?_
      refine zs_iand (pc := 30) d_Coder_varintAt_30 ?_
      refine zs_i2l (pc := 31) d_Coder_varintAt_31 ?_
      refine zs_bipush (pc := 32) (v := (7 : Int32)) d_Coder_varintAt_32 (by decide) ?_
      refine zs_iload (pc := 34) (x := a5) d_Coder_varintAt_34 rfl ?_
      refine zs_imul (pc := 36) d_Coder_varintAt_36 ?_
      refine zs_lshl (pc := 37) d_Coder_varintAt_37 ?_
      refine zs_lor (pc := 38) d_Coder_varintAt_38 ?_
      refine zs_lstore_n (pc := 39) (lv' := [(3, zL (a3 ||| (((y25 &&& (127 : Int32)).toInt64) <<< (((7 : Int32) * a5).toInt64 &&& 63)))), (0, zR a0), (1, zI a1), (2, zI a2), (5, zI a5)]) d_Coder_varintAt_39 (Nat.le_of_ble_eq_true rfl) rfl ?_
      refine zs_iinc (pc := 40) (x := a5) (v := (a5 + (1 : Int32))) (lv' := [(5, zI (a5 + (1 : Int32))), (3, zL (a3 ||| (((y25 &&& (127 : Int32)).toInt64) <<< (((7 : Int32) * a5).toInt64 &&& 63)))), (0, zR a0), (1, zI a1), (2, zI a2)]) d_Coder_varintAt_40 rfl rfl (Nat.le_of_ble_eq_true rfl) rfl ?_
      refine zs_goto (pc := 43) (tgt := 13) d_Coder_varintAt_43 rfl ?_
      refine zs_sub (lv' := [(0, zR a0), (1, zI a1), (2, zI a2), (3, zL (a3 ||| (((y25 &&& (127 : Int32)).toInt64) <<< (((7 : Int32) * a5).toInt64 &&& 63)))), (5, zI (a5 + (1 : Int32)))]) [2, 3, 4, 1, 0] rfl ?_
      exact ih a0 a1 a2 (a3 ||| (((y25 &&& (127 : Int32)).toInt64) <<< (((7 : Int32) * a5).toInt64 &&& 63))) (a5 + (1 : Int32))
theorem jm_Coder_varintAt {E : zE} {d : Nat} (hd : 2 ≤ d) (fu : Nat) (a0 : Option Nat) (a1 : Int32) (H : zH) : z_MS E jM_Coder_varintAt d 0 0 (zrL H) [zR a0, zI a1] H (jF_Coder_varintAt fu a0 a1 H) := by
  refine zs_of (lv0 := [(0, zR a0), (1, zI a1)]) pn_Coder (Nat.le_of_ble_eq_true rfl) rfl ?_
  unfold jF_Coder_varintAt
  refine zs_aload_n (pc := 0) (x := a0) d_Coder_varintAt_0 rfl ?_
  refine zs_iload_n (pc := 1) (x := a1) d_Coder_varintAt_1 rfl ?_
  refine zs_calls_rI (pc := 2) (av := [zR a0, zI a1]) (st := []) (d' := 1) (C' := 0) (S' := 0) d_Coder_varintAt_2 kS_Coder_90 (jm_Coder_behindVarint (d := 1) (Nat.le_refl _) fu a0 a1 H) (by omega) (Nat.le_of_ble_eq_true rfl) (Nat.le_of_ble_eq_true rfl) rfl rfl (Nat.le_of_ble_eq_true rfl) fun y2 => ?_
  refine zs_iload_n (pc := 5) (x := a1) d_Coder_varintAt_5 rfl ?_
  refine zs_isub (pc := 6) d_Coder_varintAt_6 ?_
  refine zs_istore_n (pc := 7) (lv' := [(2, zI (y2 - a1)), (0, zR a0), (1, zI a1)]) d_Coder_varintAt_7 (Nat.le_of_ble_eq_true rfl) rfl ?_
  refine zs_lconst (pc := 8) (v := (0 : Int64)) d_Coder_varintAt_8 (by decide) ?_
  refine zs_lstore_n (pc := 9) (lv' := [(3, zL (0 : Int64)), (2, zI (y2 - a1)), (0, zR a0), (1, zI a1)]) d_Coder_varintAt_9 (Nat.le_of_ble_eq_true rfl) rfl ?_
  refine zs_iconst (pc := 10) (v := (0 : Int32)) d_Coder_varintAt_10 (by decide) ?_
  refine zs_istore (pc := 11) (lv' := [(5, zI (0 : Int32)), (3, zL (0 : Int64)), (2, zI (y2 - a1)), (0, zR a0), (1, zI a1)]) d_Coder_varintAt_11 (Nat.le_of_ble_eq_true rfl) rfl ?_
  refine zs_sub (lv' := [(0, zR a0), (1, zI a1), (2, zI (y2 - a1)), (3, zL (0 : Int64)), (5, zI (0 : Int32))]) [3, 4, 2, 1, 0] rfl ?_
  exact jl_Coder_varintAt_13 hd fu H fu a0 a1 (y2 - a1) (0 : Int64) (0 : Int32)
def jL_Schema_symbolOfRank_2 (fu : Nat) (H : zH) : Nat → Option Nat → Int32 → Int32 → Option Int32
  | 0, _, _, _ => none
  | g + 1, a0, a1, a2 =>
    if (8 : Int32) ≤ a2 then (
      some (-1 : Int32))
    else (
      (jF_Schema_hasSymbol a0 a2.toInt64 H).bind fun y11 =>
      if y11 = 0 then (
        jL_Schema_symbolOfRank_2 fu H g a0 a1 (a2 + (1 : Int32)))
      else (
        (jF_Schema_rankOf a0 a2 H).bind fun y19 =>
        if y19 = a1 then (
          some a2)
        else (
          jL_Schema_symbolOfRank_2 fu H g a0 a1 (a2 + (1 : Int32)))))
def jF_Schema_symbolOfRank (fu : Nat) (a0 : Option Nat) (a1 : Int32) (H : zH) : Option Int32 :=
  (zok H a0 8).bind fun _ =>
  jL_Schema_symbolOfRank_2 fu H fu a0 a1 (0 : Int32)
theorem jl_Schema_symbolOfRank_2 {E : zE} {d : Nat} (hd : 2 ≤ d) (fu : Nat) (H : zH) : ∀ (g : Nat), ∀ (a0 : Option Nat) (a1 : Int32) (a2 : Int32), z_S E jM_Schema_symbolOfRank d 0 0 (zrI H) 2 [(0, zR a0), (1, zI a1), (2, zI a2)] [] H 0 0 (jL_Schema_symbolOfRank_2 fu H g a0 a1 a2) := by
  intro g
  induction g with
  | zero => intros; exact zs_none
  | succ g ih =>
    intro a0 a1 a2
    rw [jL_Schema_symbolOfRank_2]
    refine zs_iload_n (pc := 2) (x := a2) d_Schema_symbolOfRank_2 rfl ?_
    refine zs_bipush (pc := 3) (v := (8 : Int32)) d_Schema_symbolOfRank_3 (by decide) ?_
    refine zs_icmp_ge (pc := 5) (tgt := 34) d_Schema_symbolOfRank_5 rfl (fun q5 => ?_) (fun q5 => ?_)
    · refine zs_iconst (pc := 34) (v := (-1 : Int32)) d_Schema_symbolOfRank_34 (by decide) ?_
      exact zs_iret (pc := 35) d_Schema_symbolOfRank_35 rfl (Nat.le_of_ble_eq_true rfl) (Nat.le_of_ble_eq_true rfl) rfl
    · refine zs_aload_n (pc := 8) (x := a0) d_Schema_symbolOfRank_8 rfl ?_
      refine zs_iload_n (pc := 9) (x := a2) d_Schema_symbolOfRank_9 rfl ?_
      refine zs_i2l (pc := 10) d_Schema_symbolOfRank_10 ?_
      refine zs_callv_rI (pc := 11) (av := [zL a2.toInt64]) (st := []) (d' := 1) (C' := 0) (S' := 0) d_Schema_symbolOfRank_11 kV_Schema_68 z_okb (jm_Schema_hasSymbol (d := 1) (Nat.le_refl _) a0 a2.toInt64 H) (by omega) (Nat.le_of_ble_eq_true rfl) (Nat.le_of_ble_eq_true rfl) rfl rfl (Nat.le_of_ble_eq_true rfl) fun y11 => ?_
      refine zs_if_eq (pc := 14) (tgt := 28) d_Schema_symbolOfRank_14 rfl (fun q14 => ?_) (fun q14 => ?_)
      · refine zs_iinc (pc := 28) (x := a2) (v := (a2 + (1 : Int32))) (lv' := [(2, zI (a2 + (1 : Int32))), (0, zR a0), (1, zI a1)]) d_Schema_symbolOfRank_28 rfl rfl (Nat.le_of_ble_eq_true rfl) rfl ?_
        refine zs_goto (pc := 31) (tgt := 2) d_Schema_symbolOfRank_31 rfl ?_
        refine zs_sub (lv' := [(0, zR a0), (1, zI a1), (2, zI (a2 + (1 : Int32)))]) [1, 2, 0] rfl ?_
        exact ih a0 a1 (a2 + (1 : Int32))
      · refine zs_aload_n (pc := 17) (x := a0) d_Schema_symbolOfRank_17 rfl ?_
        refine zs_iload_n (pc := 18) (x := a2) d_Schema_symbolOfRank_18 rfl ?_
        refine zs_callv_rI (pc := 19) (av := [zI a2]) (st := []) (d' := 1) (C' := 0) (S' := 0) d_Schema_symbolOfRank_19 kV_Schema_71 z_okb (jm_Schema_rankOf (d := 1) (Nat.le_refl _) a0 a2 H) (by omega) (Nat.le_of_ble_eq_true rfl) (Nat.le_of_ble_eq_true rfl) rfl rfl (Nat.le_of_ble_eq_true rfl) fun y19 => ?_
        refine zs_iload_n (pc := 22) (x := a1) d_Schema_symbolOfRank_22 rfl ?_
        refine zs_icmp_ne (pc := 23) (tgt := 28) d_Schema_symbolOfRank_23 rfl (fun q23 => ?_) (fun q23 => ?_)
        · refine zs_iinc (pc := 28) (x := a2) (v := (a2 + (1 : Int32))) (lv' := [(2, zI (a2 + (1 : Int32))), (0, zR a0), (1, zI a1)]) d_Schema_symbolOfRank_28 rfl rfl (Nat.le_of_ble_eq_true rfl) rfl ?_
          refine zs_goto (pc := 31) (tgt := 2) d_Schema_symbolOfRank_31 rfl ?_
          refine zs_sub (lv' := [(0, zR a0), (1, zI a1), (2, zI (a2 + (1 : Int32)))]) [1, 2, 0] rfl ?_
          exact ih a0 a1 (a2 + (1 : Int32))
        · refine zs_iload_n (pc := 26) (x := a2) d_Schema_symbolOfRank_26 rfl ?_
          exact zs_iret (pc := 27) d_Schema_symbolOfRank_27 rfl (Nat.le_of_ble_eq_true rfl) (Nat.le_of_ble_eq_true rfl) rfl
theorem jm_Schema_symbolOfRank {E : zE} {d : Nat} (hd : 2 ≤ d) (fu : Nat) (a0 : Option Nat) (a1 : Int32) (H : zH) : z_MS E jM_Schema_symbolOfRank d 0 0 (zrI H) [zR a0, zI a1] H (jF_Schema_symbolOfRank fu a0 a1 H) := by
  refine zs_of (lv0 := [(0, zR a0), (1, zI a1)]) pn_Schema (Nat.le_of_ble_eq_true rfl) rfl ?_
  unfold jF_Schema_symbolOfRank
  refine zs_bind fun _ _ => ?_
  refine zs_iconst (pc := 0) (v := (0 : Int32)) d_Schema_symbolOfRank_0 (by decide) ?_
  refine zs_istore_n (pc := 1) (lv' := [(2, zI (0 : Int32)), (0, zR a0), (1, zI a1)]) d_Schema_symbolOfRank_1 (Nat.le_of_ble_eq_true rfl) rfl ?_
  refine zs_sub (lv' := [(0, zR a0), (1, zI a1), (2, zI (0 : Int32))]) [1, 2, 0] rfl ?_
  exact jl_Schema_symbolOfRank_2 hd fu H fu a0 a1 (0 : Int32)
def jL_Coder_decodeFields_6 (fu : Nat) (rc : Option Nat → Option Nat → Int32 → Option Nat → zH → Option (Int32 × zH)) : Nat → Option Nat → Option Nat → Option Nat → Int32 → Int32 → zH → Option (Int32 × zH)
  | 0, _, _, _, _, _, _ => none
  | g + 1, a0, a1, a3, a4, a5, H =>
    (zgR H a0 8 6).bind fun v9 =>
    (zle H v9 4).bind fun v12 =>
    if v12 ≤ a5 then (
      some (a4, H))
    else (
      (zgR H a0 8 6).bind fun v17 =>
      (zaR H v17 4 a5).bind fun v22 =>
      (zgR H v22 4 1).bind fun v23 =>
      (rc v23 a1 a4 a3 H).bind fun y30 =>
      jL_Coder_decodeFields_6 fu rc g a0 a1 a3 y30.1 (a5 + (1 : Int32)) y30.2)
def jF_Coder_decodeFields (fu : Nat) (rc : Option Nat → Option Nat → Int32 → Option Nat → zH → Option (Int32 × zH)) (a0 : Option Nat) (a1 : Option Nat) (a2 : Int32) (a3 : Option Nat) (H : zH) : Option (Int32 × zH) :=
  jL_Coder_decodeFields_6 fu rc fu a0 a1 a3 a2 (0 : Int32) H
theorem jl_Coder_decodeFields_6 {E : zE} {d dr : Nat} (hd : dr + 1 ≤ d) (fu : Nat) (rc : Option Nat → Option Nat → Int32 → Option Nat → zH → Option (Int32 × zH)) (hrc : ∀ (x0 : Option Nat) (x1 : Option Nat) (x2 : Int32) (x3 : Option Nat) (H : zH), z_MS E jM_Coder_decode dr 0 0 zwI [zR x0, zR x1, zI x2, zR x3] H (rc x0 x1 x2 x3 H)) : ∀ (g : Nat), ∀ (a0 : Option Nat) (a1 : Option Nat) (a3 : Option Nat) (a4 : Int32) (a5 : Int32) (H : zH), z_S E jM_Coder_decodeFields d 0 0 zwI 6 [(0, zR a0), (1, zR a1), (3, zR a3), (4, zI a4), (5, zI a5)] [] H 0 0 (jL_Coder_decodeFields_6 fu rc g a0 a1 a3 a4 a5 H) := by
  intro g
  induction g with
  | zero => intros; exact zs_none
  | succ g ih =>
    intro a0 a1 a3 a4 a5 H
    rw [jL_Coder_decodeFields_6]
    refine zs_iload (pc := 6) (x := a5) d_Coder_decodeFields_6 rfl ?_
    refine zs_aload_n (pc := 8) (x := a0) d_Coder_decodeFields_8 rfl ?_
    refine zs_getR (pc := 9) d_Coder_decodeFields_9 kF_Coder_68 fun v9 => ?_
    refine zs_alen (t := 4) (pc := 12) d_Coder_decodeFields_12 rfl fun v12 => ?_
    refine zs_icmp_ge (pc := 13) (tgt := 41) d_Coder_decodeFields_13 rfl (fun q13 => ?_) (fun q13 => ?_)
    · refine zs_iload (pc := 41) (x := a4) d_Coder_decodeFields_41 rfl ?_
      exact zs_iret (pc := 43) d_Coder_decodeFields_43 rfl (Nat.le_of_ble_eq_true rfl) (Nat.le_of_ble_eq_true rfl) rfl
    · refine zs_aload_n (pc := 16) (x := a0) d_Coder_decodeFields_16 rfl ?_
      refine zs_getR (pc := 17) d_Coder_decodeFields_17 kF_Coder_68 fun v17 => ?_
      refine zs_iload (pc := 20) (x := a5) d_Coder_decodeFields_20 rfl ?_
      refine zs_aald (t := 4) (pc := 22) d_Coder_decodeFields_22 rfl fun v22 => ?_
      refine zs_getR (pc := 23) d_Coder_decodeFields_23 kF_Coder_72 fun v23 => ?_
      refine zs_aload_n (pc := 26) (x := a1) d_Coder_decodeFields_26 rfl ?_
      refine zs_iload (pc := 27) (x := a4) d_Coder_decodeFields_27 rfl ?_
      refine zs_aload_n (pc := 29) (x := a3) d_Coder_decodeFields_29 rfl ?_
      refine zs_calls_wI (pc := 30) (av := [zR v23, zR a1, zI a4, zR a3]) (st := []) (d' := dr) (C' := 0) (S' := 0) d_Coder_decodeFields_30 kS_Coder_98 (hrc v23 a1 a4 a3 H) (by omega) (Nat.le_of_ble_eq_true rfl) (Nat.le_of_ble_eq_true rfl) rfl rfl (Nat.le_of_ble_eq_true rfl) fun y30 => ?_
      refine zs_istore (pc := 33) (lv' := [(4, zI y30.1), (0, zR a0), (1, zR a1), (3, zR a3), (5, zI a5)]) d_Coder_decodeFields_33 (Nat.le_of_ble_eq_true rfl) rfl ?_
      refine zs_iinc (pc := 35) (x := a5) (v := (a5 + (1 : Int32))) (lv' := [(5, zI (a5 + (1 : Int32))), (4, zI y30.1), (0, zR a0), (1, zR a1), (3, zR a3)]) d_Coder_decodeFields_35 rfl rfl (Nat.le_of_ble_eq_true rfl) rfl ?_
      refine zs_goto (pc := 38) (tgt := 6) d_Coder_decodeFields_38 rfl ?_
      refine zs_sub (lv' := [(0, zR a0), (1, zR a1), (3, zR a3), (4, zI y30.1), (5, zI (a5 + (1 : Int32)))]) [2, 3, 4, 1, 0] rfl ?_
      exact ih a0 a1 a3 y30.1 (a5 + (1 : Int32)) y30.2
theorem jm_Coder_decodeFields {E : zE} {d dr : Nat} (hd : dr + 1 ≤ d) (fu : Nat) (rc : Option Nat → Option Nat → Int32 → Option Nat → zH → Option (Int32 × zH)) (hrc : ∀ (x0 : Option Nat) (x1 : Option Nat) (x2 : Int32) (x3 : Option Nat) (H : zH), z_MS E jM_Coder_decode dr 0 0 zwI [zR x0, zR x1, zI x2, zR x3] H (rc x0 x1 x2 x3 H)) (a0 : Option Nat) (a1 : Option Nat) (a2 : Int32) (a3 : Option Nat) (H : zH) : z_MS E jM_Coder_decodeFields d 0 0 zwI [zR a0, zR a1, zI a2, zR a3] H (jF_Coder_decodeFields fu rc a0 a1 a2 a3 H) := by
  refine zs_of (lv0 := [(0, zR a0), (1, zR a1), (2, zI a2), (3, zR a3)]) pn_Coder (Nat.le_of_ble_eq_true rfl) rfl ?_
  unfold jF_Coder_decodeFields
  refine zs_iload_n (pc := 0) (x := a2) d_Coder_decodeFields_0 rfl ?_
  refine zs_istore (pc := 1) (lv' := [(4, zI a2), (0, zR a0), (1, zR a1), (2, zI a2), (3, zR a3)]) d_Coder_decodeFields_1 (Nat.le_of_ble_eq_true rfl) rfl ?_
  refine zs_iconst (pc := 3) (v := (0 : Int32)) d_Coder_decodeFields_3 (by decide) ?_
  refine zs_istore (pc := 4) (lv' := [(5, zI (0 : Int32)), (4, zI a2), (0, zR a0), (1, zR a1), (2, zI a2), (3, zR a3)]) d_Coder_decodeFields_4 (Nat.le_of_ble_eq_true rfl) rfl ?_
  refine zs_sub (lv' := [(0, zR a0), (1, zR a1), (3, zR a3), (4, zI a2), (5, zI (0 : Int32))]) [2, 3, 5, 1, 0] rfl ?_
  exact jl_Coder_decodeFields_6 hd fu rc hrc fu a0 a1 a3 a2 (0 : Int32) H
def jL_Coder_decodeItems_34 (fu : Nat) (rc : Option Nat → Option Nat → Int32 → Option Nat → zH → Option (Int32 × zH)) : Nat → Option Nat → Option Nat → Option Nat → Int64 → Int32 → Int32 → zH → Option (Int32 × zH)
  | 0, _, _, _, _, _, _, _ => none
  | g + 1, a0, a1, a3, a4, a6, a7, H =>
    if a4 ≤ a7.toInt64 then (
      some ((a6 + (1 : Int32)), H))
    else (
      if (3 : Int32) ≤ a7 then (
        some ((a6 + (1 : Int32)), H))
      else (
        (rc a0 a1 a6 a3 H).bind fun y54 =>
        jL_Coder_decodeItems_34 fu rc g a0 a1 a3 a4 y54.1 (a7 + (1 : Int32)) y54.2))
def jF_Coder_decodeItems (fu : Nat) (rc : Option Nat → Option Nat → Int32 → Option Nat → zH → Option (Int32 × zH)) (a0 : Option Nat) (a1 : Option Nat) (a2 : Int32) (a3 : Option Nat) (H : zH) : Option (Int32 × zH) :=
  (jF_Coder_varintAt fu a1 a2 H).bind fun y2 =>
  (jF_Row_append a3 y2 H).bind fun y10 =>
  if y2 = (0 : Int64) then (
    some ((a2 + (1 : Int32)), y10))
  else (
    (jF_Coder_behindVarint fu a1 a2 y10).bind fun y26 =>
    jL_Coder_decodeItems_34 fu rc fu a0 a1 a3 y2 y26 (0 : Int32) y10)
theorem jl_Coder_decodeItems_34 {E : zE} {d dr : Nat} (hd : dr + 3 ≤ d) (fu : Nat) (rc : Option Nat → Option Nat → Int32 → Option Nat → zH → Option (Int32 × zH)) (hrc : ∀ (x0 : Option Nat) (x1 : Option Nat) (x2 : Int32) (x3 : Option Nat) (H : zH), z_MS E jM_Coder_decode dr 0 0 zwI [zR x0, zR x1, zI x2, zR x3] H (rc x0 x1 x2 x3 H)) : ∀ (g : Nat), ∀ (a0 : Option Nat) (a1 : Option Nat) (a3 : Option Nat) (a4 : Int64) (a6 : Int32) (a7 : Int32) (H : zH), z_S E jM_Coder_decodeItems d 0 0 zwI 34 [(0, zR a0), (1, zR a1), (3, zR a3), (4, zL a4), (6, zI a6), (7, zI a7)] [] H 0 0 (jL_Coder_decodeItems_34 fu rc g a0 a1 a3 a4 a6 a7 H) := by
  intro g
  induction g with
  | zero => intros; exact zs_none
  | succ g ih =>
    intro a0 a1 a3 a4 a6 a7 H
    rw [jL_Coder_decodeItems_34]
    refine zs_iload (pc := 34) (x := a7) d_Coder_decodeItems_34 rfl ?_
    refine zs_i2l (pc := 36) d_Coder_decodeItems_36 ?_
    refine zs_lload (pc := 37) (x := a4) d_Coder_decodeItems_37 rfl ?_
    refine zs_lcmp_ge (pc := 39) (tgt := 65) d_Coder_decodeItems_39 d_Coder_decodeItems_40 rfl (fun q39 => ?_) (fun q39 => ?_)
    · refine zs_iload (pc := 65) (x := a6) d_Coder_decodeItems_65 rfl ?_
      refine zs_iconst (pc := 67) (v := (1 : Int32)) d_Coder_decodeItems_67 (by decide) ?_
      refine zs_iadd (pc := 68) d_Coder_decodeItems_68 ?_
      exact zs_iret (pc := 69) d_Coder_decodeItems_69 rfl (Nat.le_of_ble_eq_true rfl) (Nat.le_of_ble_eq_true rfl) rfl
    · refine zs_iload (pc := 43) (x := a7) d_Coder_decodeItems_43 rfl ?_
      refine zs_iconst (pc := 45) (v := (3 : Int32)) d_Coder_decodeItems_45 (by decide) ?_
      refine zs_icmp_ge (pc := 46) (tgt := 65) d_Coder_decodeItems_46 rfl (fun q46 => ?_) (fun q46 => ?_)
      · refine zs_iload (pc := 65) (x := a6) d_Coder_decodeItems_65 rfl ?_
        refine zs_iconst (pc := 67) (v := (1 : Int32)) d_Coder_decodeItems_67 (by decide) ?_
        refine zs_iadd (pc := 68) d_Coder_decodeItems_68 ?_
        exact zs_iret (pc := 69) d_Coder_decodeItems_69 rfl (Nat.le_of_ble_eq_true rfl) (Nat.le_of_ble_eq_true rfl) rfl
      · refine zs_aload_n (pc := 49) (x := a0) d_Coder_decodeItems_49 rfl ?_
        refine zs_aload_n (pc := 50) (x := a1) d_Coder_decodeItems_50 rfl ?_
        refine zs_iload (pc := 51) (x := a6) d_Coder_decodeItems_51 rfl ?_
        refine zs_aload_n (pc := 53) (x := a3) d_Coder_decodeItems_53 rfl ?_
        refine zs_calls_wI (pc := 54) (av := [zR a0, zR a1, zI a6, zR a3]) (st := []) (d' := dr) (C' := 0) (S' := 0) d_Coder_decodeItems_54 kS_Coder_98 (hrc a0 a1 a6 a3 H) (by omega) (Nat.le_of_ble_eq_true rfl) (Nat.le_of_ble_eq_true rfl) rfl rfl (Nat.le_of_ble_eq_true rfl) fun y54 => ?_
        refine zs_istore (pc := 57) (lv' := [(6, zI y54.1), (0, zR a0), (1, zR a1), (3, zR a3), (4, zL a4), (7, zI a7)]) d_Coder_decodeItems_57 (Nat.le_of_ble_eq_true rfl) rfl ?_
        refine zs_iinc (pc := 59) (x := a7) (v := (a7 + (1 : Int32))) (lv' := [(7, zI (a7 + (1 : Int32))), (6, zI y54.1), (0, zR a0), (1, zR a1), (3, zR a3), (4, zL a4)]) d_Coder_decodeItems_59 rfl rfl (Nat.le_of_ble_eq_true rfl) rfl ?_
        refine zs_goto (pc := 62) (tgt := 34) d_Coder_decodeItems_62 rfl ?_
        refine zs_sub (lv' := [(0, zR a0), (1, zR a1), (3, zR a3), (4, zL a4), (6, zI y54.1), (7, zI (a7 + (1 : Int32)))]) [2, 3, 4, 5, 1, 0] rfl ?_
        exact ih a0 a1 a3 a4 y54.1 (a7 + (1 : Int32)) y54.2
theorem jm_Coder_decodeItems {E : zE} {d dr : Nat} (hd : dr + 3 ≤ d) (fu : Nat) (rc : Option Nat → Option Nat → Int32 → Option Nat → zH → Option (Int32 × zH)) (hrc : ∀ (x0 : Option Nat) (x1 : Option Nat) (x2 : Int32) (x3 : Option Nat) (H : zH), z_MS E jM_Coder_decode dr 0 0 zwI [zR x0, zR x1, zI x2, zR x3] H (rc x0 x1 x2 x3 H)) (a0 : Option Nat) (a1 : Option Nat) (a2 : Int32) (a3 : Option Nat) (H : zH) : z_MS E jM_Coder_decodeItems d 0 0 zwI [zR a0, zR a1, zI a2, zR a3] H (jF_Coder_decodeItems fu rc a0 a1 a2 a3 H) := by
  refine zs_of (lv0 := [(0, zR a0), (1, zR a1), (2, zI a2), (3, zR a3)]) pn_Coder (Nat.le_of_ble_eq_true rfl) rfl ?_
  unfold jF_Coder_decodeItems
  refine zs_aload_n (pc := 0) (x := a1) d_Coder_decodeItems_0 rfl ?_
  refine zs_iload_n (pc := 1) (x := a2) d_Coder_decodeItems_1 rfl ?_
  refine zs_calls_rL (pc := 2) (av := [zR a1, zI a2]) (st := []) (d' := 2) (C' := 0) (S' := 0) d_Coder_decodeItems_2 kS_Coder_83 (jm_Coder_varintAt (d := 2) (Nat.le_refl _) fu a1 a2 H) (by omega) (Nat.le_of_ble_eq_true rfl) (Nat.le_of_ble_eq_true rfl) rfl rfl (Nat.le_of_ble_eq_true rfl) fun y2 => ?_
  refine zs_lstore (pc := 5) (lv' := [(4, zL y2), (0, zR a0), (1, zR a1), (2, zI a2), (3, zR a3)]) d_Coder_decodeItems_5 (Nat.le_of_ble_eq_true rfl) rfl ?_
  refine zs_aload_n (pc := 7) (x := a3) d_Coder_decodeItems_7 rfl ?_
  refine zs_lload (pc := 8) (x := y2) d_Coder_decodeItems_8 rfl ?_
  refine zs_callv_wV (pc := 10) (av := [zL y2]) (st := []) (d' := 0) (C' := 0) (S' := 0) d_Coder_decodeItems_10 kV_Coder_81 z_okb (jm_Row_append (d := 0) (Nat.le_refl _) a3 y2 H) (by omega) (Nat.le_of_ble_eq_true rfl) (Nat.le_of_ble_eq_true rfl) rfl rfl (Nat.le_of_ble_eq_true rfl) fun y10 => ?_
  refine zs_lload (pc := 13) (x := y2) d_Coder_decodeItems_13 rfl ?_
  refine zs_lconst (pc := 15) (v := (0 : Int64)) d_Coder_decodeItems_15 (by decide) ?_
  refine zs_lcmp_ne (pc := 16) (tgt := 24) d_Coder_decodeItems_16 d_Coder_decodeItems_17 rfl (fun q16 => ?_) (fun q16 => ?_)
  · refine zs_aload_n (pc := 24) (x := a1) d_Coder_decodeItems_24 rfl ?_
    refine zs_iload_n (pc := 25) (x := a2) d_Coder_decodeItems_25 rfl ?_
    refine zs_calls_rI (pc := 26) (av := [zR a1, zI a2]) (st := []) (d' := 1) (C' := 0) (S' := 0) d_Coder_decodeItems_26 kS_Coder_90 (jm_Coder_behindVarint (d := 1) (Nat.le_refl _) fu a1 a2 y10) (by omega) (Nat.le_of_ble_eq_true rfl) (Nat.le_of_ble_eq_true rfl) rfl rfl (Nat.le_of_ble_eq_true rfl) fun y26 => ?_
    refine zs_istore (pc := 29) (lv' := [(6, zI y26), (4, zL y2), (0, zR a0), (1, zR a1), (2, zI a2), (3, zR a3)]) d_Coder_decodeItems_29 (Nat.le_of_ble_eq_true rfl) rfl ?_
    refine zs_iconst (pc := 31) (v := (0 : Int32)) d_Coder_decodeItems_31 (by decide) ?_
    refine zs_istore (pc := 32) (lv' := [(7, zI (0 : Int32)), (6, zI y26), (4, zL y2), (0, zR a0), (1, zR a1), (2, zI a2), (3, zR a3)]) d_Coder_decodeItems_32 (Nat.le_of_ble_eq_true rfl) rfl ?_
    refine zs_sub (lv' := [(0, zR a0), (1, zR a1), (3, zR a3), (4, zL y2), (6, zI y26), (7, zI (0 : Int32))]) [3, 4, 6, 2, 1, 0] rfl ?_
    exact jl_Coder_decodeItems_34 hd fu rc hrc fu a0 a1 a3 y2 y26 (0 : Int32) y10
  · refine zs_iload_n (pc := 20) (x := a2) d_Coder_decodeItems_20 rfl ?_
    refine zs_iconst (pc := 21) (v := (1 : Int32)) d_Coder_decodeItems_21 (by decide) ?_
    refine zs_iadd (pc := 22) d_Coder_decodeItems_22 ?_
    exact zs_iret (pc := 23) d_Coder_decodeItems_23 rfl (Nat.le_of_ble_eq_true rfl) (Nat.le_of_ble_eq_true rfl) rfl
def jF_Coder_decode (fu : Nat) : Nat → Option Nat → Option Nat → Int32 → Option Nat → zH → Option (Int32 × zH)
  | 0, _, _, _, _, _ => none
  | rr + 1, a0, a1, a2, a3, H =>
    (zgI H a0 8 0).bind fun v1 =>
    if v1 = (0 : Int32) then (
      some (a2, H))
    else (
      if v1 = (1 : Int32) then (
        (jF_Disk_at a1 a2 H).bind fun y57 =>
        (jF_Row_append a3 y57.toInt64 H).bind fun y61 =>
        some ((a2 + (1 : Int32)), y61))
      else (
        if v1 = (4 : Int32) then (
          (jF_Coder_varintAt fu a1 a2 H).bind fun y72 =>
          (jF_Schema_symbolOfRank fu a0 y72.toInt32 H).bind fun y76 =>
          (jF_Row_append a3 y76.toInt64 H).bind fun y80 =>
          (jF_Coder_behindVarint fu a1 a2 y80).bind fun y85 =>
          some (y85, y80))
        else (
          if v1 = (5 : Int32) then (
            (zgR H a0 8 4).bind fun v90 =>
            (jF_Coder_decodeItems fu (fun x0 x1 x2 x3 x4 => jF_Coder_decode fu rr x0 x1 x2 x3 x4) v90 a1 a2 a3 H).bind fun y96 =>
            some (y96.1, y96.2))
          else (
            if v1 = (6 : Int32) then (
              (jF_Coder_varintAt fu a1 a2 H).bind fun y102 =>
              (jF_Row_append a3 y102 H).bind fun y110 =>
              (jF_Schema_branch a0 y102 y110).bind fun y116 =>
              (jF_Coder_behindVarint fu a1 a2 y110).bind fun y122 =>
              ((fun x0 x1 x2 x3 x4 => jF_Coder_decode fu rr x0 x1 x2 x3 x4) y116 a1 y122 a3 y110).bind fun y126 =>
              some (y126.1, y126.2))
            else (
              if v1 = (7 : Int32) then (
                (jF_Coder_decodeFields fu (fun x0 x1 x2 x3 x4 => jF_Coder_decode fu rr x0 x1 x2 x3 x4) a0 a1 a2 a3 H).bind fun y134 =>
                some (y134.1, y134.2))
              else (
                (jF_Coder_varintAt fu a1 a2 H).bind fun y141 =>
                (jF_Row_append a3 y141 H).bind fun y144 =>
                (jF_Coder_behindVarint fu a1 a2 y144).bind fun y149 =>
                some (y149, y144)))))))
theorem jm_Coder_decode {E : zE} (fu : Nat) : ∀ (rr : Nat) {d : Nat} (hd : 4 * rr ≤ d) (a0 : Option Nat) (a1 : Option Nat) (a2 : Int32) (a3 : Option Nat) (H : zH), z_MS E jM_Coder_decode d 0 0 zwI [zR a0, zR a1, zI a2, zR a3] H (jF_Coder_decode fu rr a0 a1 a2 a3 H) := by
  intro rr
  induction rr with
  | zero => intro d hd a0 a1 a2 a3 H y hy; rw [jF_Coder_decode] at hy; cases hy
  | succ rr ih =>
    intro d hd a0 a1 a2 a3 H
    have hrc : ∀ (x0 : Option Nat) (x1 : Option Nat) (x2 : Int32) (x3 : Option Nat) (H : zH), z_MS E jM_Coder_decode (4 * rr) 0 0 zwI [zR x0, zR x1, zI x2, zR x3] H ((fun x0 x1 x2 x3 x4 => jF_Coder_decode fu rr x0 x1 x2 x3 x4) x0 x1 x2 x3 H) := fun x0 x1 x2 x3 x4 => ih (Nat.le_refl _) x0 x1 x2 x3 x4
    have hd : 4 * rr + 4 ≤ d := by omega
    refine zs_of (lv0 := [(0, zR a0), (1, zR a1), (2, zI a2), (3, zR a3)]) pn_Coder (Nat.le_of_ble_eq_true rfl) rfl ?_
    rw [jF_Coder_decode]
    refine zs_aload_n (pc := 0) (x := a0) d_Coder_decode_0 rfl ?_
    refine zs_getI (pc := 1) d_Coder_decode_1 kF_Coder_9 fun v1 => ?_
    refine zs_ite (fun q => ?_) (fun q4_0 => ?_)
    · refine zs_table (pc := 4) (tgt := 52) d_Coder_decode_4 rfl (by rcases q with q <;> (rw [q]; decide)) ?_
      refine zs_iload_n (pc := 52) (x := a2) d_Coder_decode_52 rfl ?_
      exact zs_iret (pc := 53) d_Coder_decode_53 rfl (Nat.le_of_ble_eq_true rfl) (Nat.le_of_ble_eq_true rfl) rfl
    refine zs_ite (fun q => ?_) (fun q4_1 => ?_)
    · refine zs_table (pc := 4) (tgt := 54) d_Coder_decode_4 rfl (by rcases q with q <;> (rw [q]; decide)) ?_
      refine zs_aload_n (pc := 54) (x := a3) d_Coder_decode_54 rfl ?_
      refine zs_aload_n (pc := 55) (x := a1) d_Coder_decode_55 rfl ?_
      refine zs_iload_n (pc := 56) (x := a2) d_Coder_decode_56 rfl ?_
      refine zs_callv_rI (pc := 57) (av := [zI a2]) (st := [zR a3]) (d' := 0) (C' := 0) (S' := 0) d_Coder_decode_57 kV_Coder_77 z_okb (jm_Disk_at (d := 0) (Nat.le_refl _) a1 a2 H) (by omega) (Nat.le_of_ble_eq_true rfl) (Nat.le_of_ble_eq_true rfl) rfl rfl (Nat.le_of_ble_eq_true rfl) fun y57 => ?_
      refine zs_i2l (pc := 60) d_Coder_decode_60 ?_
      refine zs_callv_wV (pc := 61) (av := [zL y57.toInt64]) (st := []) (d' := 0) (C' := 0) (S' := 0) d_Coder_decode_61 kV_Coder_81 z_okb (jm_Row_append (d := 0) (Nat.le_refl _) a3 y57.toInt64 H) (by omega) (Nat.le_of_ble_eq_true rfl) (Nat.le_of_ble_eq_true rfl) rfl rfl (Nat.le_of_ble_eq_true rfl) fun y61 => ?_
      refine zs_iload_n (pc := 64) (x := a2) d_Coder_decode_64 rfl ?_
      refine zs_iconst (pc := 65) (v := (1 : Int32)) d_Coder_decode_65 (by decide) ?_
      refine zs_iadd (pc := 66) d_Coder_decode_66 ?_
      exact zs_iret (pc := 67) d_Coder_decode_67 rfl (Nat.le_of_ble_eq_true rfl) (Nat.le_of_ble_eq_true rfl) rfl
    refine zs_ite (fun q => ?_) (fun q4_2 => ?_)
    · refine zs_table (pc := 4) (tgt := 68) d_Coder_decode_4 rfl (by rcases q with q <;> (rw [q]; decide)) ?_
      refine zs_aload_n (pc := 68) (x := a3) d_Coder_decode_68 rfl ?_
      refine zs_aload_n (pc := 69) (x := a0) d_Coder_decode_69 rfl ?_
      refine zs_aload_n (pc := 70) (x := a1) d_Coder_decode_70 rfl ?_
      refine zs_iload_n (pc := 71) (x := a2) d_Coder_decode_71 rfl ?_
      refine zs_calls_rL (pc := 72) (av := [zR a1, zI a2]) (st := [zR a0, zR a3]) (d' := 2) (C' := 0) (S' := 0) d_Coder_decode_72 kS_Coder_83 (jm_Coder_varintAt (d := 2) (Nat.le_refl _) fu a1 a2 H) (by omega) (Nat.le_of_ble_eq_true rfl) (Nat.le_of_ble_eq_true rfl) rfl rfl (Nat.le_of_ble_eq_true rfl) fun y72 => ?_
      refine zs_l2i (pc := 75) d_Coder_decode_75 ?_
      refine zs_callv_rI (pc := 76) (av := [zI y72.toInt32]) (st := [zR a3]) (d' := 2) (C' := 0) (S' := 0) d_Coder_decode_76 kV_Coder_87 z_okb (jm_Schema_symbolOfRank (d := 2) (Nat.le_refl _) fu a0 y72.toInt32 H) (by omega) (Nat.le_of_ble_eq_true rfl) (Nat.le_of_ble_eq_true rfl) rfl rfl (Nat.le_of_ble_eq_true rfl) fun y76 => ?_
      refine zs_i2l (pc := 79) d_Coder_decode_79 ?_
      refine zs_callv_wV (pc := 80) (av := [zL y76.toInt64]) (st := []) (d' := 0) (C' := 0) (S' := 0) d_Coder_decode_80 kV_Coder_81 z_okb (jm_Row_append (d := 0) (Nat.le_refl _) a3 y76.toInt64 H) (by omega) (Nat.le_of_ble_eq_true rfl) (Nat.le_of_ble_eq_true rfl) rfl rfl (Nat.le_of_ble_eq_true rfl) fun y80 => ?_
      refine zs_aload_n (pc := 83) (x := a1) d_Coder_decode_83 rfl ?_
      refine zs_iload_n (pc := 84) (x := a2) d_Coder_decode_84 rfl ?_
      refine zs_calls_rI (pc := 85) (av := [zR a1, zI a2]) (st := []) (d' := 1) (C' := 0) (S' := 0) d_Coder_decode_85 kS_Coder_90 (jm_Coder_behindVarint (d := 1) (Nat.le_refl _) fu a1 a2 y80) (by omega) (Nat.le_of_ble_eq_true rfl) (Nat.le_of_ble_eq_true rfl) rfl rfl (Nat.le_of_ble_eq_true rfl) fun y85 => ?_
      exact zs_iret (pc := 88) d_Coder_decode_88 rfl (Nat.le_of_ble_eq_true rfl) (Nat.le_of_ble_eq_true rfl) rfl
    refine zs_ite (fun q => ?_) (fun q4_3 => ?_)
    · refine zs_table (pc := 4) (tgt := 89) d_Coder_decode_4 rfl (by rcases q with q <;> (rw [q]; decide)) ?_
      refine zs_aload_n (pc := 89) (x := a0) d_Coder_decode_89 rfl ?_
      refine zs_getR (pc := 90) d_Coder_decode_90 kF_Coder_30 fun v90 => ?_
      refine zs_aload_n (pc := 93) (x := a1) d_Coder_decode_93 rfl ?_
      refine zs_iload_n (pc := 94) (x := a2) d_Coder_decode_94 rfl ?_
      refine zs_aload_n (pc := 95) (x := a3) d_Coder_decode_95 rfl ?_
      refine zs_calls_wI (pc := 96) (av := [zR v90, zR a1, zI a2, zR a3]) (st := []) (d' := ((4 * rr) + 3)) (C' := 0) (S' := 0) d_Coder_decode_96 kS_Coder_94 (jm_Coder_decodeItems (d := (4 * rr) + 3) (dr := (4 * rr)) (Nat.le_refl _) fu (fun x0 x1 x2 x3 x4 => jF_Coder_decode fu rr x0 x1 x2 x3 x4) hrc v90 a1 a2 a3 H) (by omega) (Nat.le_of_ble_eq_true rfl) (Nat.le_of_ble_eq_true rfl) rfl rfl (Nat.le_of_ble_eq_true rfl) fun y96 => ?_
      exact zs_iret (pc := 99) d_Coder_decode_99 rfl (Nat.le_of_ble_eq_true rfl) (Nat.le_of_ble_eq_true rfl) rfl
    refine zs_ite (fun q => ?_) (fun q4_4 => ?_)
    · refine zs_table (pc := 4) (tgt := 100) d_Coder_decode_4 rfl (by rcases q with q <;> (rw [q]; decide)) ?_
      refine zs_aload_n (pc := 100) (x := a1) d_Coder_decode_100 rfl ?_
      refine zs_iload_n (pc := 101) (x := a2) d_Coder_decode_101 rfl ?_
      refine zs_calls_rL (pc := 102) (av := [zR a1, zI a2]) (st := []) (d' := 2) (C' := 0) (S' := 0) d_Coder_decode_102 kS_Coder_83 (jm_Coder_varintAt (d := 2) (Nat.le_refl _) fu a1 a2 H) (by omega) (Nat.le_of_ble_eq_true rfl) (Nat.le_of_ble_eq_true rfl) rfl rfl (Nat.le_of_ble_eq_true rfl) fun y102 => ?_
      refine zs_lstore (pc := 105) (lv' := [(4, zL y102), (0, zR a0), (1, zR a1), (2, zI a2), (3, zR a3)]) d_Coder_decode_105 (Nat.le_of_ble_eq_true rfl) rfl ?_
      refine zs_aload_n (pc := 107) (x := a3) d_Coder_decode_107 rfl ?_
      refine zs_lload (pc := 108) (x := y102) d_Coder_decode_108 rfl ?_
      refine zs_callv_wV (pc := 110) (av := [zL y102]) (st := []) (d' := 0) (C' := 0) (S' := 0) d_Coder_decode_110 kV_Coder_81 z_okb (jm_Row_append (d := 0) (Nat.le_refl _) a3 y102 H) (by omega) (Nat.le_of_ble_eq_true rfl) (Nat.le_of_ble_eq_true rfl) rfl rfl (Nat.le_of_ble_eq_true rfl) fun y110 => ?_
      refine zs_aload_n (pc := 113) (x := a0) d_Coder_decode_113 rfl ?_
      refine zs_lload (pc := 114) (x := y102) d_Coder_decode_114 rfl ?_
      refine zs_callv_rR (pc := 116) (av := [zL y102]) (st := []) (d' := 0) (C' := 0) (S' := 0) d_Coder_decode_116 kV_Coder_43 z_okb (jm_Schema_branch (d := 0) (Nat.le_refl _) a0 y102 y110) (by omega) (Nat.le_of_ble_eq_true rfl) (Nat.le_of_ble_eq_true rfl) rfl rfl (Nat.le_of_ble_eq_true rfl) fun y116 => ?_
      refine zs_aload_n (pc := 119) (x := a1) d_Coder_decode_119 rfl ?_
      refine zs_aload_n (pc := 120) (x := a1) d_Coder_decode_120 rfl ?_
      refine zs_iload_n (pc := 121) (x := a2) d_Coder_decode_121 rfl ?_
      refine zs_calls_rI (pc := 122) (av := [zR a1, zI a2]) (st := [zR a1, zR y116]) (d' := 1) (C' := 0) (S' := 0) d_Coder_decode_122 kS_Coder_90 (jm_Coder_behindVarint (d := 1) (Nat.le_refl _) fu a1 a2 y110) (by omega) (Nat.le_of_ble_eq_true rfl) (Nat.le_of_ble_eq_true rfl) rfl rfl (Nat.le_of_ble_eq_true rfl) fun y122 => ?_
      refine zs_aload_n (pc := 125) (x := a3) d_Coder_decode_125 rfl ?_
      refine zs_calls_wI (pc := 126) (av := [zR y116, zR a1, zI y122, zR a3]) (st := []) (d' := (4 * rr)) (C' := 0) (S' := 0) d_Coder_decode_126 kS_Coder_98 (hrc y116 a1 y122 a3 y110) (by omega) (Nat.le_of_ble_eq_true rfl) (Nat.le_of_ble_eq_true rfl) rfl rfl (Nat.le_of_ble_eq_true rfl) fun y126 => ?_
      exact zs_iret (pc := 129) d_Coder_decode_129 rfl (Nat.le_of_ble_eq_true rfl) (Nat.le_of_ble_eq_true rfl) rfl
    refine zs_ite (fun q => ?_) (fun q4_5 => ?_)
    · refine zs_table (pc := 4) (tgt := 130) d_Coder_decode_4 rfl (by rcases q with q <;> (rw [q]; decide)) ?_
      refine zs_aload_n (pc := 130) (x := a0) d_Coder_decode_130 rfl ?_
      refine zs_aload_n (pc := 131) (x := a1) d_Coder_decode_131 rfl ?_
      refine zs_iload_n (pc := 132) (x := a2) d_Coder_decode_132 rfl ?_
      refine zs_aload_n (pc := 133) (x := a3) d_Coder_decode_133 rfl ?_
      refine zs_calls_wI (pc := 134) (av := [zR a0, zR a1, zI a2, zR a3]) (st := []) (d' := ((4 * rr) + 1)) (C' := 0) (S' := 0) d_Coder_decode_134 kS_Coder_101 (jm_Coder_decodeFields (d := (4 * rr) + 1) (dr := (4 * rr)) (Nat.le_refl _) fu (fun x0 x1 x2 x3 x4 => jF_Coder_decode fu rr x0 x1 x2 x3 x4) hrc a0 a1 a2 a3 H) (by omega) (Nat.le_of_ble_eq_true rfl) (Nat.le_of_ble_eq_true rfl) rfl rfl (Nat.le_of_ble_eq_true rfl) fun y134 => ?_
      exact zs_iret (pc := 137) d_Coder_decode_137 rfl (Nat.le_of_ble_eq_true rfl) (Nat.le_of_ble_eq_true rfl) rfl
    have h4_0 := zs_tne (k := 0) q4_0 (by decide)
    have h4_1 := zs_tne (k := 1) q4_1 (by decide)
    have h4_4 := zs_tne (k := 4) q4_2 (by decide)
    have h4_5 := zs_tne (k := 5) q4_3 (by decide)
    have h4_6 := zs_tne (k := 6) q4_4 (by decide)
    have h4_7 := zs_tne (k := 7) q4_5 (by decide)
    refine zs_table (pc := 4) (tgt := 138) d_Coder_decode_4 rfl ?_ ?_
    · unfold z_tsw
      by_cases hb : (v1).toInt < 0 ∨ 7 < (v1).toInt
      · rw [if_pos hb]; decide
      · rw [if_neg hb]
        have hg : (v1).toInt = 2 ∨ (v1).toInt = 3 := by omega
        rcases hg with h|h <;> (rw [h]; decide)
    · refine zs_aload_n (pc := 138) (x := a3) d_Coder_decode_138 rfl ?_
      refine zs_aload_n (pc := 139) (x := a1) d_Coder_decode_139 rfl ?_
      refine zs_iload_n (pc := 140) (x := a2) d_Coder_decode_140 rfl ?_
      refine zs_calls_rL (pc := 141) (av := [zR a1, zI a2]) (st := [zR a3]) (d' := 2) (C' := 0) (S' := 0) d_Coder_decode_141 kS_Coder_83 (jm_Coder_varintAt (d := 2) (Nat.le_refl _) fu a1 a2 H) (by omega) (Nat.le_of_ble_eq_true rfl) (Nat.le_of_ble_eq_true rfl) rfl rfl (Nat.le_of_ble_eq_true rfl) fun y141 => ?_
      refine zs_callv_wV (pc := 144) (av := [zL y141]) (st := []) (d' := 0) (C' := 0) (S' := 0) d_Coder_decode_144 kV_Coder_81 z_okb (jm_Row_append (d := 0) (Nat.le_refl _) a3 y141 H) (by omega) (Nat.le_of_ble_eq_true rfl) (Nat.le_of_ble_eq_true rfl) rfl rfl (Nat.le_of_ble_eq_true rfl) fun y144 => ?_
      refine zs_aload_n (pc := 147) (x := a1) d_Coder_decode_147 rfl ?_
      refine zs_iload_n (pc := 148) (x := a2) d_Coder_decode_148 rfl ?_
      refine zs_calls_rI (pc := 149) (av := [zR a1, zI a2]) (st := []) (d' := 1) (C' := 0) (S' := 0) d_Coder_decode_149 kS_Coder_90 (jm_Coder_behindVarint (d := 1) (Nat.le_refl _) fu a1 a2 y144) (by omega) (Nat.le_of_ble_eq_true rfl) (Nat.le_of_ble_eq_true rfl) rfl rfl (Nat.le_of_ble_eq_true rfl) fun y149 => ?_
      exact zs_iret (pc := 152) d_Coder_decode_152 rfl (Nat.le_of_ble_eq_true rfl) (Nat.le_of_ble_eq_true rfl) rfl
def jL_Manifest_decodeRecord_12 (fu : Nat) : Nat → Option Nat → Int32 → Option Nat → Option Nat → Int32 → Int32 → zH → Option zH
  | 0, _, _, _, _, _, _, _ => none
  | g + 1, a0, a2, a3, a4, a5, a6, H =>
    if a2 < a6 then (
      some H)
    else (
      if a3 = none then (
        some H)
      else (
        (jF_Row_clear a4 H).bind fun y24 =>
        (zgR y24 a0 5 0).bind fun v29 =>
        (jF_Coder_decode fu 7 a3 v29 a5 a4 y24).bind fun y36 =>
        jL_Manifest_decodeRecord_12 fu g a0 a2 a3 a4 y36.1 (a6 + (1 : Int32)) y36.2))
def jF_Manifest_decodeRecord (fu : Nat) (a0 : Option Nat) (a1 : Int32) (a2 : Int32) (a3 : Option Nat) (a4 : Option Nat) (H : zH) : Option zH :=
  (zok H a0 5).bind fun _ =>
  (jF_Manifest_startOfFile a0 a1 H).bind fun y2 =>
  jL_Manifest_decodeRecord_12 fu fu a0 a2 a3 a4 (y2 + (5 : Int32)) (0 : Int32) H
theorem jl_Manifest_decodeRecord_12 {E : zE} {d : Nat} (hd : 29 ≤ d) (fu : Nat) : ∀ (g : Nat), ∀ (a0 : Option Nat) (a2 : Int32) (a3 : Option Nat) (a4 : Option Nat) (a5 : Int32) (a6 : Int32) (H : zH), z_S E jM_Manifest_decodeRecord d 0 0 zwV 12 [(0, zR a0), (2, zI a2), (3, zR a3), (4, zR a4), (5, zI a5), (6, zI a6)] [] H 0 0 (jL_Manifest_decodeRecord_12 fu g a0 a2 a3 a4 a5 a6 H) := by
  intro g
  induction g with
  | zero => intros; exact zs_none
  | succ g ih =>
    intro a0 a2 a3 a4 a5 a6 H
    rw [jL_Manifest_decodeRecord_12]
    refine zs_iload (pc := 12) (x := a6) d_Manifest_decodeRecord_12 rfl ?_
    refine zs_iload_n (pc := 14) (x := a2) d_Manifest_decodeRecord_14 rfl ?_
    refine zs_icmp_gt (pc := 15) (tgt := 47) d_Manifest_decodeRecord_15 rfl (fun q15 => ?_) (fun q15 => ?_)
    · exact zs_vret (pc := 47) d_Manifest_decodeRecord_47 rfl (Nat.le_of_ble_eq_true rfl) (Nat.le_of_ble_eq_true rfl) rfl
    · refine zs_aload_n (pc := 18) (x := a3) d_Manifest_decodeRecord_18 rfl ?_
      refine zs_ifnull (pc := 19) (tgt := 47) d_Manifest_decodeRecord_19 rfl (fun q19 => ?_) (fun q19 => ?_)
      · exact zs_vret (pc := 47) d_Manifest_decodeRecord_47 rfl (Nat.le_of_ble_eq_true rfl) (Nat.le_of_ble_eq_true rfl) rfl
      · refine zs_aload (pc := 22) (x := a4) d_Manifest_decodeRecord_22 rfl ?_
        refine zs_callv_wV (pc := 24) (av := []) (st := []) (d' := 0) (C' := 0) (S' := 0) d_Manifest_decodeRecord_24 kV_Manifest_67 z_okb (jm_Row_clear (d := 0) (Nat.le_refl _) a4 H) (by omega) (Nat.le_of_ble_eq_true rfl) (Nat.le_of_ble_eq_true rfl) rfl rfl (Nat.le_of_ble_eq_true rfl) fun y24 => ?_
        refine zs_aload_n (pc := 27) (x := a3) d_Manifest_decodeRecord_27 rfl ?_
        refine zs_aload_n (pc := 28) (x := a0) d_Manifest_decodeRecord_28 rfl ?_
        refine zs_getR (pc := 29) d_Manifest_decodeRecord_29 kF_Manifest_9 fun v29 => ?_
        refine zs_iload (pc := 32) (x := a5) d_Manifest_decodeRecord_32 rfl ?_
        refine zs_aload (pc := 34) (x := a4) d_Manifest_decodeRecord_34 rfl ?_
        refine zs_calls_wI (pc := 36) (av := [zR a3, zR v29, zI a5, zR a4]) (st := []) (d' := 28) (C' := 0) (S' := 0) d_Manifest_decodeRecord_36 kS_Manifest_72 (jm_Coder_decode fu 7 (d := 28) (by decide) a3 v29 a5 a4 y24) (by omega) (Nat.le_of_ble_eq_true rfl) (Nat.le_of_ble_eq_true rfl) rfl rfl (Nat.le_of_ble_eq_true rfl) fun y36 => ?_
        refine zs_istore (pc := 39) (lv' := [(5, zI y36.1), (0, zR a0), (2, zI a2), (3, zR a3), (4, zR a4), (6, zI a6)]) d_Manifest_decodeRecord_39 (Nat.le_of_ble_eq_true rfl) rfl ?_
        refine zs_iinc (pc := 41) (x := a6) (v := (a6 + (1 : Int32))) (lv' := [(6, zI (a6 + (1 : Int32))), (5, zI y36.1), (0, zR a0), (2, zI a2), (3, zR a3), (4, zR a4)]) d_Manifest_decodeRecord_41 rfl rfl (Nat.le_of_ble_eq_true rfl) rfl ?_
        refine zs_goto (pc := 44) (tgt := 12) d_Manifest_decodeRecord_44 rfl ?_
        refine zs_sub (lv' := [(0, zR a0), (2, zI a2), (3, zR a3), (4, zR a4), (5, zI y36.1), (6, zI (a6 + (1 : Int32)))]) [2, 3, 4, 5, 1, 0] rfl ?_
        exact ih a0 a2 a3 a4 y36.1 (a6 + (1 : Int32)) y36.2
theorem jm_Manifest_decodeRecord {E : zE} {d : Nat} (hd : 29 ≤ d) (fu : Nat) (a0 : Option Nat) (a1 : Int32) (a2 : Int32) (a3 : Option Nat) (a4 : Option Nat) (H : zH) : z_MS E jM_Manifest_decodeRecord d 0 0 zwV [zR a0, zI a1, zI a2, zR a3, zR a4] H (jF_Manifest_decodeRecord fu a0 a1 a2 a3 a4 H) := by
  refine zs_of (lv0 := [(0, zR a0), (1, zI a1), (2, zI a2), (3, zR a3), (4, zR a4)]) pn_Manifest (Nat.le_of_ble_eq_true rfl) rfl ?_
  unfold jF_Manifest_decodeRecord
  refine zs_bind fun _ _ => ?_
  refine zs_aload_n (pc := 0) (x := a0) d_Manifest_decodeRecord_0 rfl ?_
  refine zs_iload_n (pc := 1) (x := a1) d_Manifest_decodeRecord_1 rfl ?_
  refine zs_callv_rI (pc := 2) (av := [zI a1]) (st := []) (d' := 3) (C' := 0) (S' := 0) d_Manifest_decodeRecord_2 kV_Manifest_64 z_okb (jm_Manifest_startOfFile (d := 3) (Nat.le_refl _) a0 a1 H) (by omega) (Nat.le_of_ble_eq_true rfl) (Nat.le_of_ble_eq_true rfl) rfl rfl (Nat.le_of_ble_eq_true rfl) fun y2 => ?_
  refine zs_iconst (pc := 5) (v := (5 : Int32)) d_Manifest_decodeRecord_5 (by decide) ?_
  refine zs_iadd (pc := 6) d_Manifest_decodeRecord_6 ?_
  refine zs_istore (pc := 7) (lv' := [(5, zI (y2 + (5 : Int32))), (0, zR a0), (1, zI a1), (2, zI a2), (3, zR a3), (4, zR a4)]) d_Manifest_decodeRecord_7 (Nat.le_of_ble_eq_true rfl) rfl ?_
  refine zs_iconst (pc := 9) (v := (0 : Int32)) d_Manifest_decodeRecord_9 (by decide) ?_
  refine zs_istore (pc := 10) (lv' := [(6, zI (0 : Int32)), (5, zI (y2 + (5 : Int32))), (0, zR a0), (1, zI a1), (2, zI a2), (3, zR a3), (4, zR a4)]) d_Manifest_decodeRecord_10 (Nat.le_of_ble_eq_true rfl) rfl ?_
  refine zs_sub (lv' := [(0, zR a0), (2, zI a2), (3, zR a3), (4, zR a4), (5, zI (y2 + (5 : Int32))), (6, zI (0 : Int32))]) [2, 4, 5, 6, 1, 0] rfl ?_
  exact jl_Manifest_decodeRecord_12 hd fu fu a0 a2 a3 a4 (y2 + (5 : Int32)) (0 : Int32) H
def jL_Manifest_fetch_18 (fu : Nat) : Nat → Option Nat → Int32 → Int32 → Option Nat → Option Nat → Int32 → Int32 → Int32 → zH → Option (Option Nat × zH)
  | 0, _, _, _, _, _, _, _, _, _ => none
  | g + 1, a0, a1, a2, a3, a4, a5, a6, a7, H =>
    if a5 ≤ a7 then (
      some (none, H))
    else (
      (jF_Manifest_subjectOf a0 a7 H).bind fun y28 =>
      if y28 = a1 then (
        (jF_Manifest_recordsIn a0 a7 H).bind fun y42 =>
        if y42 ≤ (a2 - a6) then (
          (jF_Manifest_recordsIn a0 a7 H).bind fun y82 =>
          jL_Manifest_fetch_18 fu g a0 a1 a2 a3 a4 a5 (a6 + y82) (a7 + (1 : Int32)) H)
        else (
          (jF_Manifest_schemaOf a0 a7 H).bind fun y52 =>
          (jF_Schemas_find a3 y52 H).bind fun y55 =>
          (jF_Manifest_decodeRecord fu a0 a7 (a2 - a6) y55 a4 H).bind fun y71 =>
          some (y55, y71)))
      else (
        jL_Manifest_fetch_18 fu g a0 a1 a2 a3 a4 a5 a6 (a7 + (1 : Int32)) H))
def jF_Manifest_fetch (fu : Nat) (a0 : Option Nat) (a1 : Int32) (a2 : Int32) (a3 : Option Nat) (a4 : Option Nat) (H : zH) : Option (Option Nat × zH) :=
  (zok H a0 5).bind fun _ =>
  if 0 ≤ a2 then (
    (jF_Manifest_entries a0 H).bind fun y7 =>
    jL_Manifest_fetch_18 fu fu a0 a1 a2 a3 a4 y7 (0 : Int32) (0 : Int32) H)
  else (
    some (none, H))
theorem jl_Manifest_fetch_18 {E : zE} {d : Nat} (hd : 30 ≤ d) (fu : Nat) : ∀ (g : Nat), ∀ (a0 : Option Nat) (a1 : Int32) (a2 : Int32) (a3 : Option Nat) (a4 : Option Nat) (a5 : Int32) (a6 : Int32) (a7 : Int32) (H : zH), z_S E jM_Manifest_fetch d 0 0 zwR 18 [(0, zR a0), (1, zI a1), (2, zI a2), (3, zR a3), (4, zR a4), (5, zI a5), (6, zI a6), (7, zI a7)] [] H 0 0 (jL_Manifest_fetch_18 fu g a0 a1 a2 a3 a4 a5 a6 a7 H) := by
  intro g
  induction g with
  | zero => intros; exact zs_none
  | succ g ih =>
    intro a0 a1 a2 a3 a4 a5 a6 a7 H
    rw [jL_Manifest_fetch_18]
    refine zs_iload (pc := 18) (x := a7) d_Manifest_fetch_18 rfl ?_
    refine zs_iload (pc := 20) (x := a5) d_Manifest_fetch_20 rfl ?_
    refine zs_icmp_ge (pc := 22) (tgt := 94) d_Manifest_fetch_22 rfl (fun q22 => ?_) (fun q22 => ?_)
    · refine zs_null (pc := 94) d_Manifest_fetch_94 ?_
      exact zs_aret (pc := 95) d_Manifest_fetch_95 rfl (Nat.le_of_ble_eq_true rfl) (Nat.le_of_ble_eq_true rfl) rfl
    · refine zs_aload_n (pc := 25) (x := a0) d_Manifest_fetch_25 rfl ?_
      refine zs_iload (pc := 26) (x := a7) d_Manifest_fetch_26 rfl ?_
      refine zs_callv_rI (pc := 28) (av := [zI a7]) (st := []) (d' := 2) (C' := 0) (S' := 0) d_Manifest_fetch_28 kV_Manifest_33 z_okb (jm_Manifest_subjectOf (d := 2) (Nat.le_refl _) a0 a7 H) (by omega) (Nat.le_of_ble_eq_true rfl) (Nat.le_of_ble_eq_true rfl) rfl rfl (Nat.le_of_ble_eq_true rfl) fun y28 => ?_
      refine zs_iload_n (pc := 31) (x := a1) d_Manifest_fetch_31 rfl ?_
      refine zs_icmp_ne (pc := 32) (tgt := 88) d_Manifest_fetch_32 rfl (fun q32 => ?_) (fun q32 => ?_)
      · refine zs_iinc (pc := 88) (x := a7) (v := (a7 + (1 : Int32))) (lv' := [(7, zI (a7 + (1 : Int32))), (0, zR a0), (1, zI a1), (2, zI a2), (3, zR a3), (4, zR a4), (5, zI a5), (6, zI a6)]) d_Manifest_fetch_88 rfl rfl (Nat.le_of_ble_eq_true rfl) rfl ?_
        refine zs_goto (pc := 91) (tgt := 18) d_Manifest_fetch_91 rfl ?_
        refine zs_sub (lv' := [(0, zR a0), (1, zI a1), (2, zI a2), (3, zR a3), (4, zR a4), (5, zI a5), (6, zI a6), (7, zI (a7 + (1 : Int32)))]) [1, 2, 3, 4, 5, 6, 7, 0] rfl ?_
        exact ih a0 a1 a2 a3 a4 a5 a6 (a7 + (1 : Int32)) H
      · refine zs_iload_n (pc := 35) (x := a2) d_Manifest_fetch_35 rfl ?_
        refine zs_iload (pc := 36) (x := a6) d_Manifest_fetch_36 rfl ?_
        refine zs_isub (pc := 38) d_Manifest_fetch_38 ?_
        refine zs_aload_n (pc := 39) (x := a0) d_Manifest_fetch_39 rfl ?_
        refine zs_iload (pc := 40) (x := a7) d_Manifest_fetch_40 rfl ?_
        refine zs_callv_rI (pc := 42) (av := [zI a7]) (st := [zI (a2 - a6)]) (d' := 4) (C' := 0) (S' := 0) d_Manifest_fetch_42 kV_Manifest_37 z_okb (jm_Manifest_recordsIn (d := 4) (Nat.le_refl _) a0 a7 H) (by omega) (Nat.le_of_ble_eq_true rfl) (Nat.le_of_ble_eq_true rfl) rfl rfl (Nat.le_of_ble_eq_true rfl) fun y42 => ?_
        refine zs_icmp_ge (pc := 45) (tgt := 77) d_Manifest_fetch_45 rfl (fun q45 => ?_) (fun q45 => ?_)
        · refine zs_iload (pc := 77) (x := a6) d_Manifest_fetch_77 rfl ?_
          refine zs_aload_n (pc := 79) (x := a0) d_Manifest_fetch_79 rfl ?_
          refine zs_iload (pc := 80) (x := a7) d_Manifest_fetch_80 rfl ?_
          refine zs_callv_rI (pc := 82) (av := [zI a7]) (st := [zI a6]) (d' := 4) (C' := 0) (S' := 0) d_Manifest_fetch_82 kV_Manifest_37 z_okb (jm_Manifest_recordsIn (d := 4) (Nat.le_refl _) a0 a7 H) (by omega) (Nat.le_of_ble_eq_true rfl) (Nat.le_of_ble_eq_true rfl) rfl rfl (Nat.le_of_ble_eq_true rfl) fun y82 => ?_
          refine zs_iadd (pc := 85) d_Manifest_fetch_85 ?_
          refine zs_istore (pc := 86) (lv' := [(6, zI (a6 + y82)), (0, zR a0), (1, zI a1), (2, zI a2), (3, zR a3), (4, zR a4), (5, zI a5), (7, zI a7)]) d_Manifest_fetch_86 (Nat.le_of_ble_eq_true rfl) rfl ?_
          refine zs_iinc (pc := 88) (x := a7) (v := (a7 + (1 : Int32))) (lv' := [(7, zI (a7 + (1 : Int32))), (6, zI (a6 + y82)), (0, zR a0), (1, zI a1), (2, zI a2), (3, zR a3), (4, zR a4), (5, zI a5)]) d_Manifest_fetch_88 rfl rfl (Nat.le_of_ble_eq_true rfl) rfl ?_
          refine zs_goto (pc := 91) (tgt := 18) d_Manifest_fetch_91 rfl ?_
          refine zs_sub (lv' := [(0, zR a0), (1, zI a1), (2, zI a2), (3, zR a3), (4, zR a4), (5, zI a5), (6, zI (a6 + y82)), (7, zI (a7 + (1 : Int32)))]) [2, 3, 4, 5, 6, 7, 1, 0] rfl ?_
          exact ih a0 a1 a2 a3 a4 a5 (a6 + y82) (a7 + (1 : Int32)) H
        · refine zs_aload_n (pc := 48) (x := a3) d_Manifest_fetch_48 rfl ?_
          refine zs_aload_n (pc := 49) (x := a0) d_Manifest_fetch_49 rfl ?_
          refine zs_iload (pc := 50) (x := a7) d_Manifest_fetch_50 rfl ?_
          refine zs_callv_rI (pc := 52) (av := [zI a7]) (st := [zR a3]) (d' := 4) (C' := 0) (S' := 0) d_Manifest_fetch_52 kV_Manifest_48 z_okb (jm_Manifest_schemaOf (d := 4) (Nat.le_refl _) a0 a7 H) (by omega) (Nat.le_of_ble_eq_true rfl) (Nat.le_of_ble_eq_true rfl) rfl rfl (Nat.le_of_ble_eq_true rfl) fun y52 => ?_
          refine zs_callv_rR (pc := 55) (av := [zI y52]) (st := []) (d' := 0) (C' := 0) (S' := 0) d_Manifest_fetch_55 kV_Manifest_54 z_okb (jm_Schemas_find (d := 0) (Nat.le_refl _) a3 y52 H) (by omega) (Nat.le_of_ble_eq_true rfl) (Nat.le_of_ble_eq_true rfl) rfl rfl (Nat.le_of_ble_eq_true rfl) fun y55 => ?_
          refine zs_astore (pc := 58) (lv' := [(8, zR y55), (0, zR a0), (1, zI a1), (2, zI a2), (3, zR a3), (4, zR a4), (5, zI a5), (6, zI a6), (7, zI a7)]) d_Manifest_fetch_58 (Nat.le_of_ble_eq_true rfl) rfl ?_
          refine zs_aload_n (pc := 60) (x := a0) d_Manifest_fetch_60 rfl ?_
          refine zs_iload (pc := 61) (x := a7) d_Manifest_fetch_61 rfl ?_
          refine zs_iload_n (pc := 63) (x := a2) d_Manifest_fetch_63 rfl ?_
          refine zs_iload (pc := 64) (x := a6) d_Manifest_fetch_64 rfl ?_
          refine zs_isub (pc := 66) d_Manifest_fetch_66 ?_
          refine zs_aload (pc := 67) (x := y55) d_Manifest_fetch_67 rfl ?_
          refine zs_aload (pc := 69) (x := a4) d_Manifest_fetch_69 rfl ?_
          refine zs_callv_wV (pc := 71) (av := [zI a7, zI (a2 - a6), zR y55, zR a4]) (st := []) (d' := 29) (C' := 0) (S' := 0) d_Manifest_fetch_71 kV_Manifest_60 z_okb (jm_Manifest_decodeRecord (d := 29) (Nat.le_refl _) fu a0 a7 (a2 - a6) y55 a4 H) (by omega) (Nat.le_of_ble_eq_true rfl) (Nat.le_of_ble_eq_true rfl) rfl rfl (Nat.le_of_ble_eq_true rfl) fun y71 => ?_
          refine zs_aload (pc := 74) (x := y55) d_Manifest_fetch_74 rfl ?_
          exact zs_aret (pc := 76) d_Manifest_fetch_76 rfl (Nat.le_of_ble_eq_true rfl) (Nat.le_of_ble_eq_true rfl) rfl
theorem jm_Manifest_fetch {E : zE} {d : Nat} (hd : 30 ≤ d) (fu : Nat) (a0 : Option Nat) (a1 : Int32) (a2 : Int32) (a3 : Option Nat) (a4 : Option Nat) (H : zH) : z_MS E jM_Manifest_fetch d 0 0 zwR [zR a0, zI a1, zI a2, zR a3, zR a4] H (jF_Manifest_fetch fu a0 a1 a2 a3 a4 H) := by
  refine zs_of (lv0 := [(0, zR a0), (1, zI a1), (2, zI a2), (3, zR a3), (4, zR a4)]) pn_Manifest (Nat.le_of_ble_eq_true rfl) rfl ?_
  unfold jF_Manifest_fetch
  refine zs_bind fun _ _ => ?_
  refine zs_iload_n (pc := 0) (x := a2) d_Manifest_fetch_0 rfl ?_
  refine zs_if_ge (pc := 1) (tgt := 6) d_Manifest_fetch_1 rfl (fun q1 => ?_) (fun q1 => ?_)
  · refine zs_aload_n (pc := 6) (x := a0) d_Manifest_fetch_6 rfl ?_
    refine zs_callv_rI (pc := 7) (av := []) (st := []) (d' := 1) (C' := 0) (S' := 0) d_Manifest_fetch_7 kV_Manifest_29 z_okb (jm_Manifest_entries (d := 1) (Nat.le_refl _) a0 H) (by omega) (Nat.le_of_ble_eq_true rfl) (Nat.le_of_ble_eq_true rfl) rfl rfl (Nat.le_of_ble_eq_true rfl) fun y7 => ?_
    refine zs_istore (pc := 10) (lv' := [(5, zI y7), (0, zR a0), (1, zI a1), (2, zI a2), (3, zR a3), (4, zR a4)]) d_Manifest_fetch_10 (Nat.le_of_ble_eq_true rfl) rfl ?_
    refine zs_iconst (pc := 12) (v := (0 : Int32)) d_Manifest_fetch_12 (by decide) ?_
    refine zs_istore (pc := 13) (lv' := [(6, zI (0 : Int32)), (5, zI y7), (0, zR a0), (1, zI a1), (2, zI a2), (3, zR a3), (4, zR a4)]) d_Manifest_fetch_13 (Nat.le_of_ble_eq_true rfl) rfl ?_
    refine zs_iconst (pc := 15) (v := (0 : Int32)) d_Manifest_fetch_15 (by decide) ?_
    refine zs_istore (pc := 16) (lv' := [(7, zI (0 : Int32)), (6, zI (0 : Int32)), (5, zI y7), (0, zR a0), (1, zI a1), (2, zI a2), (3, zR a3), (4, zR a4)]) d_Manifest_fetch_16 (Nat.le_of_ble_eq_true rfl) rfl ?_
    refine zs_sub (lv' := [(0, zR a0), (1, zI a1), (2, zI a2), (3, zR a3), (4, zR a4), (5, zI y7), (6, zI (0 : Int32)), (7, zI (0 : Int32))]) [3, 4, 5, 6, 7, 2, 1, 0] rfl ?_
    exact jl_Manifest_fetch_18 hd fu fu a0 a1 a2 a3 a4 y7 (0 : Int32) (0 : Int32) H
  · refine zs_null (pc := 4) d_Manifest_fetch_4 ?_
    exact zs_aret (pc := 5) d_Manifest_fetch_5 rfl (Nat.le_of_ble_eq_true rfl) (Nat.le_of_ble_eq_true rfl) rfl
