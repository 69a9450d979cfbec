def jF_Manifest_firstBlockOf (a0 : Option Nat) (a1 : Int32) (H : zH) : Option Int32 :=
  (zok H a0 5).bind fun _ =>
  (jF_Manifest_entryByte a0 a1 (1 : Int32) H).bind fun y3 =>
  some y3
theorem jm_Manifest_firstBlockOf {E : zE} {d : Nat} (hd : 2 ≤ d) (a0 : Option Nat) (a1 : Int32) (H : zH) : z_MS E jM_Manifest_firstBlockOf d 0 0 (zrI H) [zR a0, zI a1] H (jF_Manifest_firstBlockOf a0 a1 H) := by
  refine zs_of (lv0 := [(0, zR a0), (1, zI a1)]) pn_Manifest (Nat.le_of_ble_eq_true rfl) rfl ?_
  unfold jF_Manifest_firstBlockOf
  refine zs_bind fun _ _ => ?_
  refine zs_aload_n (pc := 0) (x := a0) d_Manifest_firstBlockOf_0 rfl ?_
  refine zs_iload_n (pc := 1) (x := a1) d_Manifest_firstBlockOf_1 rfl ?_
  refine zs_iconst (pc := 2) (v := (1 : Int32)) d_Manifest_firstBlockOf_2 (by decide) ?_
  refine zs_callv_rI (pc := 3) (av := [zI a1, zI (1 : Int32)]) (st := []) (d' := 1) (C' := 0) (S' := 0) d_Manifest_firstBlockOf_3 kV_Manifest_140 z_okb (jm_Manifest_entryByte (d := 1) (Nat.le_refl _) a0 a1 (1 : Int32) H) (by omega) (Nat.le_of_ble_eq_true rfl) (Nat.le_of_ble_eq_true rfl) rfl rfl (Nat.le_of_ble_eq_true rfl) fun y3 => ?_
  exact zs_iret (pc := 6) d_Manifest_firstBlockOf_6 rfl (Nat.le_of_ble_eq_true rfl) (Nat.le_of_ble_eq_true rfl) rfl
def jF_Manifest_subjectOf (a0 : Option Nat) (a1 : Int32) (H : zH) : Option Int32 :=
  (zok H a0 5).bind fun _ =>
  (jF_Manifest_entryByte a0 a1 (0 : Int32) H).bind fun y3 =>
  some y3
theorem jm_Manifest_subjectOf {E : zE} {d : Nat} (hd : 2 ≤ d) (a0 : Option Nat) (a1 : Int32) (H : zH) : z_MS E jM_Manifest_subjectOf d 0 0 (zrI H) [zR a0, zI a1] H (jF_Manifest_subjectOf a0 a1 H) := by
  refine zs_of (lv0 := [(0, zR a0), (1, zI a1)]) pn_Manifest (Nat.le_of_ble_eq_true rfl) rfl ?_
  unfold jF_Manifest_subjectOf
  refine zs_bind fun _ _ => ?_
  refine zs_aload_n (pc := 0) (x := a0) d_Manifest_subjectOf_0 rfl ?_
  refine zs_iload_n (pc := 1) (x := a1) d_Manifest_subjectOf_1 rfl ?_
  refine zs_iconst (pc := 2) (v := (0 : Int32)) d_Manifest_subjectOf_2 (by decide) ?_
  refine zs_callv_rI (pc := 3) (av := [zI a1, zI (0 : Int32)]) (st := []) (d' := 1) (C' := 0) (S' := 0) d_Manifest_subjectOf_3 kV_Manifest_140 z_okb (jm_Manifest_entryByte (d := 1) (Nat.le_refl _) a0 a1 (0 : Int32) H) (by omega) (Nat.le_of_ble_eq_true rfl) (Nat.le_of_ble_eq_true rfl) rfl rfl (Nat.le_of_ble_eq_true rfl) fun y3 => ?_
  exact zs_iret (pc := 6) d_Manifest_subjectOf_6 rfl (Nat.le_of_ble_eq_true rfl) (Nat.le_of_ble_eq_true rfl) rfl
def jL_Manifest_commitNew_26 (fu : Nat) : Nat → Option Nat → Int32 → Int32 → Int32 → Int32 → zH → Option (Int32 × zH)
  | 0, _, _, _, _, _, _ => none
  | g + 1, a0, a1, a2, a3, a4, H =>
    if a3 ≤ a4 then (
      (zgR H a0 5 1).bind fun v64 =>
      (zgI H v64 2 1).bind fun v67 =>
      (jF_Disk_blocksFor v67 H).bind fun y70 =>
      (jF_Manifest_draftEntry a0 a1 a2 y70 H).bind fun y73 =>
      (zgR y73 a0 5 0).bind fun v77 =>
      (zgR y73 a0 5 1).bind fun v82 =>
      (jF_Disk_putAll fu v77 a2 v82 y73).bind fun y85 =>
      if y85.1 = 0 then (
        some ((0 : Int32), y85.2))
      else (
        (zgR y85.2 a0 5 0).bind fun v92 =>
        (zgR y85.2 a0 5 2).bind fun v97 =>
        (jF_Disk_put fu v92 (0 : Int32) v97 (0 : Int32) y85.2).bind fun y101 =>
        if y101.1 = 0 then (
          some ((0 : Int32), y101.2))
        else (
          some ((1 : Int32), y101.2))))
    else (
      (jF_Manifest_subjectOf a0 a4 H).bind fun y36 =>
      (jF_Manifest_firstBlockOf a0 a4 H).bind fun y42 =>
      (jF_Manifest_blocksOf a0 a4 H).bind fun y48 =>
      (jF_Manifest_draftEntry a0 y36 y42 y48 H).bind fun y51 =>
      jL_Manifest_commitNew_26 fu g a0 a1 a2 a3 (a4 + (1 : Int32)) y51)
def jF_Manifest_commitNew (fu : Nat) (a0 : Option Nat) (a1 : Int32) (a2 : Int32) (H : zH) : Option (Int32 × zH) :=
  (zok H a0 5).bind fun _ =>
  (jF_Manifest_entries a0 H).bind fun y1 =>
  (zgR H a0 5 2).bind fun v6 =>
  (jF_Bytes_cutTo v6 (0 : Int32) H).bind fun y10 =>
  (zgR y10 a0 5 2).bind fun v14 =>
  (jF_Bytes_append v14 (y1 + (1 : Int32)) y10).bind fun y20 =>
  jL_Manifest_commitNew_26 fu fu a0 a1 a2 y1 (0 : Int32) y20
theorem jl_Manifest_commitNew_26 {E : zE} {d : Nat} (hd : 3 ≤ d) (fu : Nat) : ∀ (g : Nat), ∀ (a0 : Option Nat) (a1 : Int32) (a2 : Int32) (a3 : Int32) (a4 : Int32) (H : zH), z_S E jM_Manifest_commitNew d 0 0 zwI 26 [(0, zR a0), (1, zI a1), (2, zI a2), (3, zI a3), (4, zI a4)] [] H 0 0 (jL_Manifest_commitNew_26 fu g a0 a1 a2 a3 a4 H) := by
  intro g
  induction g with
  | zero => intros; exact zs_none
  | succ g ih =>
    intro a0 a1 a2 a3 a4 H
    rw [jL_Manifest_commitNew_26]
    refine zs_iload (pc := 26) (x := a4) d_Manifest_commitNew_26 rfl ?_
    refine zs_iload_n (pc := 28) (x := a3) d_Manifest_commitNew_28 rfl ?_
    refine zs_icmp_ge (pc := 29) (tgt := 60) d_Manifest_commitNew_29 rfl (fun q29 => ?_) (fun q29 => ?_)
    · refine zs_aload_n (pc := 60) (x := a0) d_Manifest_commitNew_60 rfl ?_
      refine zs_iload_n (pc := 61) (x := a1) d_Manifest_commitNew_61 rfl ?_
      refine zs_iload_n (pc := 62) (x := a2) d_Manifest_commitNew_62 rfl ?_
      refine zs_aload_n (pc := 63) (x := a0) d_Manifest_commitNew_63 rfl ?_
      refine zs_getR (pc := 64) d_Manifest_commitNew_64 kF_Manifest_20 fun v64 => ?_
      refine zs_getI (pc := 67) d_Manifest_commitNew_67 kF_Manifest_90 fun v67 => ?_
      refine zs_calls_rI (pc := 70) (av := [zI v67]) (st := [zI a2, zI a1, zR a0]) (d' := 0) (C' := 0) (S' := 0) d_Manifest_commitNew_70 kS_Manifest_113 (jm_Disk_blocksFor (d := 0) (Nat.le_refl _) v67 H) (by omega) (Nat.le_of_ble_eq_true rfl) (Nat.le_of_ble_eq_true rfl) rfl rfl (Nat.le_of_ble_eq_true rfl) fun y70 => ?_
      refine zs_callv_wV (pc := 73) (av := [zI a1, zI a2, zI y70]) (st := []) (d' := 1) (C' := 0) (S' := 0) d_Manifest_commitNew_73 kV_Manifest_126 z_okb (jm_Manifest_draftEntry (d := 1) (Nat.le_refl _) a0 a1 a2 y70 H) (by omega) (Nat.le_of_ble_eq_true rfl) (Nat.le_of_ble_eq_true rfl) rfl rfl (Nat.le_of_ble_eq_true rfl) fun y73 => ?_
      refine zs_aload_n (pc := 76) (x := a0) d_Manifest_commitNew_76 rfl ?_
      refine zs_getR (pc := 77) d_Manifest_commitNew_77 kF_Manifest_9 fun v77 => ?_
      refine zs_iload_n (pc := 80) (x := a2) d_Manifest_commitNew_80 rfl ?_
      refine zs_aload_n (pc := 81) (x := a0) d_Manifest_commitNew_81 rfl ?_
      refine zs_getR (pc := 82) d_Manifest_commitNew_82 kF_Manifest_20 fun v82 => ?_
      refine zs_callv_wI (pc := 85) (av := [zI a2, zR v82]) (st := []) (d' := 2) (C' := 0) (S' := 0) d_Manifest_commitNew_85 kV_Manifest_129 z_okb (jm_Disk_putAll (d := 2) (Nat.le_refl _) fu v77 a2 v82 y73) (by omega) (Nat.le_of_ble_eq_true rfl) (Nat.le_of_ble_eq_true rfl) rfl rfl (Nat.le_of_ble_eq_true rfl) fun y85 => ?_
      refine zs_if_eq (pc := 88) (tgt := 111) d_Manifest_commitNew_88 rfl (fun q88 => ?_) (fun q88 => ?_)
      · refine zs_iconst (pc := 111) (v := (0 : Int32)) d_Manifest_commitNew_111 (by decide) ?_
        exact zs_zretc (pc := 112) d_Manifest_commitNew_112 rfl (by decide) (Nat.le_of_ble_eq_true rfl) (Nat.le_of_ble_eq_true rfl) rfl
      · refine zs_aload_n (pc := 91) (x := a0) d_Manifest_commitNew_91 rfl ?_
        refine zs_getR (pc := 92) d_Manifest_commitNew_92 kF_Manifest_9 fun v92 => ?_
        refine zs_iconst (pc := 95) (v := (0 : Int32)) d_Manifest_commitNew_95 (by decide) ?_
        refine zs_aload_n (pc := 96) (x := a0) d_Manifest_commitNew_96 rfl ?_
        refine zs_getR (pc := 97) d_Manifest_commitNew_97 kF_Manifest_26 fun v97 => ?_
        refine zs_iconst (pc := 100) (v := (0 : Int32)) d_Manifest_commitNew_100 (by decide) ?_
        refine zs_callv_wI (pc := 101) (av := [zI (0 : Int32), zR v97, zI (0 : Int32)]) (st := []) (d' := 1) (C' := 0) (S' := 0) d_Manifest_commitNew_101 kV_Manifest_133 z_okb (jm_Disk_put (d := 1) (Nat.le_refl _) fu v92 (0 : Int32) v97 (0 : Int32) y85.2) (by omega) (Nat.le_of_ble_eq_true rfl) (Nat.le_of_ble_eq_true rfl) rfl rfl (Nat.le_of_ble_eq_true rfl) fun y101 => ?_
        refine zs_if_eq (pc := 104) (tgt := 111) d_Manifest_commitNew_104 rfl (fun q104 => ?_) (fun q104 => ?_)
        · refine zs_iconst (pc := 111) (v := (0 : Int32)) d_Manifest_commitNew_111 (by decide) ?_
          exact zs_zretc (pc := 112) d_Manifest_commitNew_112 rfl (by decide) (Nat.le_of_ble_eq_true rfl) (Nat.le_of_ble_eq_true rfl) rfl
        · refine zs_iconst (pc := 107) (v := (1 : Int32)) d_Manifest_commitNew_107 (by decide) ?_
          refine zs_goto (pc := 108) (tgt := 112) d_Manifest_commitNew_108 rfl ?_
          exact zs_zretc (pc := 112) d_Manifest_commitNew_112 rfl (by decide) (Nat.le_of_ble_eq_true rfl) (Nat.le_of_ble_eq_true rfl) rfl
    · refine zs_aload_n (pc := 32) (x := a0) d_Manifest_commitNew_32 rfl ?_
      refine zs_aload_n (pc := 33) (x := a0) d_Manifest_commitNew_33 rfl ?_
      refine zs_iload (pc := 34) (x := a4) d_Manifest_commitNew_34 rfl ?_
      refine zs_callv_rI (pc := 36) (av := [zI a4]) (st := [zR a0]) (d' := 2) (C' := 0) (S' := 0) d_Manifest_commitNew_36 kV_Manifest_33 z_okb (jm_Manifest_subjectOf (d := 2) (Nat.le_refl _) a0 a4 H) (by omega) (Nat.le_of_ble_eq_true rfl) (Nat.le_of_ble_eq_true rfl) rfl rfl (Nat.le_of_ble_eq_true rfl) fun y36 => ?_
      refine zs_aload_n (pc := 39) (x := a0) d_Manifest_commitNew_39 rfl ?_
      refine zs_iload (pc := 40) (x := a4) d_Manifest_commitNew_40 rfl ?_
      refine zs_callv_rI (pc := 42) (av := [zI a4]) (st := [zI y36, zR a0]) (d' := 2) (C' := 0) (S' := 0) d_Manifest_commitNew_42 kV_Manifest_120 z_okb (jm_Manifest_firstBlockOf (d := 2) (Nat.le_refl _) a0 a4 H) (by omega) (Nat.le_of_ble_eq_true rfl) (Nat.le_of_ble_eq_true rfl) rfl rfl (Nat.le_of_ble_eq_true rfl) fun y42 => ?_
      refine zs_aload_n (pc := 45) (x := a0) d_Manifest_commitNew_45 rfl ?_
      refine zs_iload (pc := 46) (x := a4) d_Manifest_commitNew_46 rfl ?_
      refine zs_callv_rI (pc := 48) (av := [zI a4]) (st := [zI y42, zI y36, zR a0]) (d' := 2) (C' := 0) (S' := 0) d_Manifest_commitNew_48 kV_Manifest_123 z_okb (jm_Manifest_blocksOf (d := 2) (Nat.le_refl _) a0 a4 H) (by omega) (Nat.le_of_ble_eq_true rfl) (Nat.le_of_ble_eq_true rfl) rfl rfl (Nat.le_of_ble_eq_true rfl) fun y48 => ?_
      refine zs_callv_wV (pc := 51) (av := [zI y36, zI y42, zI y48]) (st := []) (d' := 1) (C' := 0) (S' := 0) d_Manifest_commitNew_51 kV_Manifest_126 z_okb (jm_Manifest_draftEntry (d := 1) (Nat.le_refl _) a0 y36 y42 y48 H) (by omega) (Nat.le_of_ble_eq_true rfl) (Nat.le_of_ble_eq_true rfl) rfl rfl (Nat.le_of_ble_eq_true rfl) fun y51 => ?_
      refine zs_iinc (pc := 54) (x := a4) (v := (a4 + (1 : Int32))) (lv' := [(4, zI (a4 + (1 : Int32))), (0, zR a0), (1, zI a1), (2, zI a2), (3, zI a3)]) d_Manifest_commitNew_54 rfl rfl (Nat.le_of_ble_eq_true rfl) rfl ?_
      refine zs_goto (pc := 57) (tgt := 26) d_Manifest_commitNew_57 rfl ?_
      refine zs_sub (lv' := [(0, zR a0), (1, zI a1), (2, zI a2), (3, zI a3), (4, zI (a4 + (1 : Int32)))]) [1, 2, 3, 4, 0] rfl ?_
      exact ih a0 a1 a2 a3 (a4 + (1 : Int32)) y51
theorem jm_Manifest_commitNew {E : zE} {d : Nat} (hd : 3 ≤ d) (fu : Nat) (a0 : Option Nat) (a1 : Int32) (a2 : Int32) (H : zH) : z_MS E jM_Manifest_commitNew d 0 0 zwI [zR a0, zI a1, zI a2] H (jF_Manifest_commitNew fu a0 a1 a2 H) := by
  refine zs_of (lv0 := [(0, zR a0), (1, zI a1), (2, zI a2)]) pn_Manifest (Nat.le_of_ble_eq_true rfl) rfl ?_
  unfold jF_Manifest_commitNew
  refine zs_bind fun _ _ => ?_
  refine zs_aload_n (pc := 0) (x := a0) d_Manifest_commitNew_0 rfl ?_
  refine zs_callv_rI (pc := 1) (av := []) (st := []) (d' := 1) (C' := 0) (S' := 0) d_Manifest_commitNew_1 kV_Manifest_29 z_okb (jm_Manifest_entries (d := 1) (Nat.le_refl _) a0 H) (by omega) (Nat.le_of_ble_eq_true rfl) (Nat.le_of_ble_eq_true rfl) rfl rfl (Nat.le_of_ble_eq_true rfl) fun y1 => ?_
  refine zs_istore_n (pc := 4) (lv' := [(3, zI y1), (0, zR a0), (1, zI a1), (2, zI a2)]) d_Manifest_commitNew_4 (Nat.le_of_ble_eq_true rfl) rfl ?_
  refine zs_aload_n (pc := 5) (x := a0) d_Manifest_commitNew_5 rfl ?_
  refine zs_getR (pc := 6) d_Manifest_commitNew_6 kF_Manifest_26 fun v6 => ?_
  refine zs_iconst (pc := 9) (v := (0 : Int32)) d_Manifest_commitNew_9 (by decide) ?_
  refine zs_callv_wV (pc := 10) (av := [zI (0 : Int32)]) (st := []) (d' := 0) (C' := 0) (S' := 0) d_Manifest_commitNew_10 kV_Manifest_109 z_okb (jm_Bytes_cutTo (d := 0) (Nat.le_refl _) v6 (0 : Int32) H) (by omega) (Nat.le_of_ble_eq_true rfl) (Nat.le_of_ble_eq_true rfl) rfl rfl (Nat.le_of_ble_eq_true rfl) fun y10 => ?_
  refine zs_aload_n (pc := 13) (x := a0) d_Manifest_commitNew_13 rfl ?_
  refine zs_getR (pc := 14) d_Manifest_commitNew_14 kF_Manifest_26 fun v14 => ?_
  refine zs_iload_n (pc := 17) (x := y1) d_Manifest_commitNew_17 rfl ?_
  refine zs_iconst (pc := 18) (v := (1 : Int32)) d_Manifest_commitNew_18 (by decide) ?_
  refine zs_iadd (pc := 19) d_Manifest_commitNew_19 ?_
  refine zs_callv_wV (pc := 20) (av := [zI (y1 + (1 : Int32))]) (st := []) (d' := 0) (C' := 0) (S' := 0) d_Manifest_commitNew_20 kV_Manifest_100 z_okb (jm_Bytes_append (d := 0) (Nat.le_refl _) v14 (y1 + (1 : Int32)) y10) (by omega) (Nat.le_of_ble_eq_true rfl) (Nat.le_of_ble_eq_true rfl) rfl rfl (Nat.le_of_ble_eq_true rfl) fun y20 => ?_
  refine zs_iconst (pc := 23) (v := (0 : Int32)) d_Manifest_commitNew_23 (by decide) ?_
  refine zs_istore (pc := 24) (lv' := [(4, zI (0 : Int32)), (3, zI y1), (0, zR a0), (1, zI a1), (2, zI a2)]) d_Manifest_commitNew_24 (Nat.le_of_ble_eq_true rfl) rfl ?_
  refine zs_sub (lv' := [(0, zR a0), (1, zI a1), (2, zI a2), (3, zI y1), (4, zI (0 : Int32))]) [2, 3, 4, 1, 0] rfl ?_
  exact jl_Manifest_commitNew_26 hd fu fu a0 a1 a2 y1 (0 : Int32) y20
def jL_Bytes_sum_4 (fu : Nat) (H : zH) : Nat → Option Nat → Int32 → Int32 → Option Int32
  | 0, _, _, _ => none
  | g + 1, a0, a1, a2 =>
    (zgI H a0 2 1).bind fun v6 =>
    if v6 ≤ a2 then (
      some a1)
    else (
      (zgR H a0 2 0).bind fun v14 =>
      (zaI H v14 0 a2).bind fun v18 =>
      jL_Bytes_sum_4 fu H g a0 (a1 + v18) (a2 + (1 : Int32)))
def jF_Bytes_sum (fu : Nat) (a0 : Option Nat) (H : zH) : Option Int32 :=
  (zok H a0 2).bind fun _ =>
  jL_Bytes_sum_4 fu H fu a0 (0 : Int32) (0 : Int32)
theorem jl_Bytes_sum_4 {E : zE} {d : Nat} (hd : 0 ≤ d) (fu : Nat) (H : zH) : ∀ (g : Nat), ∀ (a0 : Option Nat) (a1 : Int32) (a2 : Int32), z_S E jM_Bytes_sum d 0 0 (zrI H) 4 [(0, zR a0), (1, zI a1), (2, zI a2)] [] H 0 0 (jL_Bytes_sum_4 fu H g a0 a1 a2) := by
  intro g
  induction g with
  | zero => intros; exact zs_none
  | succ g ih =>
    intro a0 a1 a2
    rw [jL_Bytes_sum_4]
    refine zs_iload_n (pc := 4) (x := a2) d_Bytes_sum_4 rfl ?_
    refine zs_aload_n (pc := 5) (x := a0) d_Bytes_sum_5 rfl ?_
    refine zs_getI (pc := 6) d_Bytes_sum_6 kF_Bytes_13 fun v6 => ?_
    refine zs_icmp_ge (pc := 9) (tgt := 27) d_Bytes_sum_9 rfl (fun q9 => ?_) (fun q9 => ?_)
    · refine zs_iload_n (pc := 27) (x := a1) d_Bytes_sum_27 rfl ?_
      exact zs_iret (pc := 28) d_Bytes_sum_28 rfl (Nat.le_of_ble_eq_true rfl) (Nat.le_of_ble_eq_true rfl) rfl
    · refine zs_iload_n (pc := 12) (x := a1) d_Bytes_sum_12 rfl ?_
      refine zs_aload_n (pc := 13) (x := a0) d_Bytes_sum_13 rfl ?_
      refine zs_getR (pc := 14) d_Bytes_sum_14 kF_Bytes_7 fun v14 => ?_
      refine zs_iload_n (pc := 17) (x := a2) d_Bytes_sum_17 rfl ?_
      refine zs_iald (t := 0) (pc := 18) d_Bytes_sum_18 rfl fun v18 => ?_
      refine zs_iadd (pc := 19) d_Bytes_sum_19 ?_
      refine zs_istore_n (pc := 20) (lv' := [(1, zI (a1 + v18)), (0, zR a0), (2, zI a2)]) d_Bytes_sum_20 (Nat.le_of_ble_eq_true rfl) rfl ?_
      refine zs_iinc (pc := 21) (x := a2) (v := (a2 + (1 : Int32))) (lv' := [(2, zI (a2 + (1 : Int32))), (1, zI (a1 + v18)), (0, zR a0)]) d_Bytes_sum_21 rfl rfl (Nat.le_of_ble_eq_true rfl) rfl ?_
      refine zs_goto (pc := 24) (tgt := 4) d_Bytes_sum_24 rfl ?_
      refine zs_sub (lv' := [(0, zR a0), (1, zI (a1 + v18)), (2, zI (a2 + (1 : Int32)))]) [2, 1, 0] rfl ?_
      exact ih a0 (a1 + v18) (a2 + (1 : Int32))
theorem jm_Bytes_sum {E : zE} {d : Nat} (hd : 0 ≤ d) (fu : Nat) (a0 : Option Nat) (H : zH) : z_MS E jM_Bytes_sum d 0 0 (zrI H) [zR a0] H (jF_Bytes_sum fu a0 H) := by
  refine zs_of (lv0 := [(0, zR a0)]) pn_Bytes (Nat.le_of_ble_eq_true rfl) rfl ?_
  unfold jF_Bytes_sum
  refine zs_bind fun _ _ => ?_
  refine zs_iconst (pc := 0) (v := (0 : Int32)) d_Bytes_sum_0 (by decide) ?_
  refine zs_istore_n (pc := 1) (lv' := [(1, zI (0 : Int32)), (0, zR a0)]) d_Bytes_sum_1 (Nat.le_of_ble_eq_true rfl) rfl ?_
  refine zs_iconst (pc := 2) (v := (0 : Int32)) d_Bytes_sum_2 (by decide) ?_
  refine zs_istore_n (pc := 3) (lv' := [(2, zI (0 : Int32)), (1, zI (0 : Int32)), (0, zR a0)]) d_Bytes_sum_3 (Nat.le_of_ble_eq_true rfl) rfl ?_
  refine zs_sub (lv' := [(0, zR a0), (1, zI (0 : Int32)), (2, zI (0 : Int32))]) [2, 1, 0] rfl ?_
  exact jl_Bytes_sum_4 hd fu H fu a0 (0 : Int32) (0 : Int32)
def jF_Manifest_draftHead (a0 : Option Nat) (a1 : Int32) (a2 : Int32) (a3 : Int32) (H : zH) : Option zH :=
  (zok H a0 5).bind fun _ =>
  (zgR H a0 5 1).bind fun v1 =>
  (jF_Bytes_cutTo v1 (0 : Int32) H).bind fun y5 =>
  (zgR y5 a0 5 1).bind fun v9 =>
  (jF_Bytes_append v9 (83 : Int32) y5).bind fun y14 =>
  (zgR y14 a0 5 1).bind fun v18 =>
  (jF_Bytes_append v18 a1 y14).bind fun y22 =>
  (zgR y22 a0 5 1).bind fun v26 =>
  (jF_Bytes_append v26 a2 y22).bind fun y30 =>
  (zgR y30 a0 5 1).bind fun v34 =>
  (jF_Bytes_append v34 (a3 >>> ((8 : Int32) &&& 31)) y30).bind fun y41 =>
  (zgR y41 a0 5 1).bind fun v45 =>
  (jF_Bytes_append v45 (a3 &&& (255 : Int32)) y41).bind fun y53 =>
  some y53
theorem jm_Manifest_draftHead {E : zE} {d : Nat} (hd : 1 ≤ d) (a0 : Option Nat) (a1 : Int32) (a2 : Int32) (a3 : Int32) (H : zH) : z_MS E jM_Manifest_draftHead d 0 0 zwV [zR a0, zI a1, zI a2, zI a3] H (jF_Manifest_draftHead a0 a1 a2 a3 H) := by
  refine zs_of (lv0 := [(0, zR a0), (1, zI a1), (2, zI a2), (3, zI a3)]) pn_Manifest (Nat.le_of_ble_eq_true rfl) rfl ?_
  unfold jF_Manifest_draftHead
  refine zs_bind fun _ _ => ?_
  refine zs_aload_n (pc := 0) (x := a0) d_Manifest_draftHead_0 rfl ?_
  refine zs_getR (pc := 1) d_Manifest_draftHead_1 kF_Manifest_20 fun v1 => ?_
  refine zs_iconst (pc := 4) (v := (0 : Int32)) d_Manifest_draftHead_4 (by decide) ?_
  refine zs_callv_wV (pc := 5) (av := [zI (0 : Int32)]) (st := []) (d' := 0) (C' := 0) (S' := 0) d_Manifest_draftHead_5 kV_Manifest_109 z_okb (jm_Bytes_cutTo (d := 0) (Nat.le_refl _) v1 (0 : Int32) H) (by omega) (Nat.le_of_ble_eq_true rfl) (Nat.le_of_ble_eq_true rfl) rfl rfl (Nat.le_of_ble_eq_true rfl) fun y5 => ?_
  refine zs_aload_n (pc := 8) (x := a0) d_Manifest_draftHead_8 rfl ?_
  refine zs_getR (pc := 9) d_Manifest_draftHead_9 kF_Manifest_20 fun v9 => ?_
  refine zs_bipush (pc := 12) (v := (83 : Int32)) d_Manifest_draftHead_12 (by decide) ?_
  refine zs_callv_wV (pc := 14) (av := [zI (83 : Int32)]) (st := []) (d' := 0) (C' := 0) (S' := 0) d_Manifest_draftHead_14 kV_Manifest_100 z_okb (jm_Bytes_append (d := 0) (Nat.le_refl _) v9 (83 : Int32) y5) (by omega) (Nat.le_of_ble_eq_true rfl) (Nat.le_of_ble_eq_true rfl) rfl rfl (Nat.le_of_ble_eq_true rfl) fun y14 => ?_
  refine zs_aload_n (pc := 17) (x := a0) d_Manifest_draftHead_17 rfl ?_
  refine zs_getR (pc := 18) d_Manifest_draftHead_18 kF_Manifest_20 fun v18 => ?_
  refine zs_iload_n (pc := 21) (x := a1) d_Manifest_draftHead_21 rfl ?_
  refine zs_callv_wV (pc := 22) (av := [zI a1]) (st := []) (d' := 0) (C' := 0) (S' := 0) d_Manifest_draftHead_22 kV_Manifest_100 z_okb (jm_Bytes_append (d := 0) (Nat.le_refl _) v18 a1 y14) (by omega) (Nat.le_of_ble_eq_true rfl) (Nat.le_of_ble_eq_true rfl) rfl rfl (Nat.le_of_ble_eq_true rfl) fun y22 => ?_
  refine zs_aload_n (pc := 25) (x := a0) d_Manifest_draftHead_25 rfl ?_
  refine zs_getR (pc := 26) d_Manifest_draftHead_26 kF_Manifest_20 fun v26 => ?_
  refine zs_iload_n (pc := 29) (x := a2) d_Manifest_draftHead_29 rfl ?_
  refine zs_callv_wV (pc := 30) (av := [zI a2]) (st := []) (d' := 0) (C' := 0) (S' := 0) d_Manifest_draftHead_30 kV_Manifest_100 z_okb (jm_Bytes_append (d := 0) (Nat.le_refl _) v26 a2 y22) (by omega) (Nat.le_of_ble_eq_true rfl) (Nat.le_of_ble_eq_true rfl) rfl rfl (Nat.le_of_ble_eq_true rfl) fun y30 => ?_
  refine zs_aload_n (pc := 33) (x := a0) d_Manifest_draftHead_33 rfl ?_
  refine zs_getR (pc := 34) d_Manifest_draftHead_34 kF_Manifest_20 fun v34 => ?_
  refine zs_iload_n (pc := 37) (x := a3) d_Manifest_draftHead_37 rfl ?_
  refine zs_bipush (pc := 38) (v := (8 : Int32)) d_Manifest_draftHead_38 (by decide) ?_
  refine zs_ishr (pc := 40) d_Manifest_draftHead_40 ?_
  refine zs_callv_wV (pc := 41) (av := [zI (a3 >>> ((8 : Int32) &&& 31))]) (st := []) (d' := 0) (C' := 0) (S' := 0) d_Manifest_draftHead_41 kV_Manifest_100 z_okb (jm_Bytes_append (d := 0) (Nat.le_refl _) v34 (a3 >>> ((8 : Int32) &&& 31)) y30) (by omega) (Nat.le_of_ble_eq_true rfl) (Nat.le_of_ble_eq_true rfl) rfl rfl (Nat.le_of_ble_eq_true rfl) fun y41 => ?_
  refine zs_aload_n (pc := 44) (x := a0) d_Manifest_draftHead_44 rfl ?_
  refine zs_getR (pc := 45) d_Manifest_draftHead_45 kF_Manifest_20 fun v45 => ?_
  refine zs_iload_n (pc := 48) (x := a3) d_Manifest_draftHead_48 rfl ?_
  refine zs_sipush (pc := 49) (v := (255 : Int32)) d_Manifest_draftHead_49 (by decide) ?_
  refine zs_iand (pc := 52) d_Manifest_draftHead_52 ?_
  refine zs_callv_wV (pc := 53) (av := [zI (a3 &&& (255 : Int32))]) (st := []) (d' := 0) (C' := 0) (S' := 0) d_Manifest_draftHead_53 kV_Manifest_100 z_okb (jm_Bytes_append (d := 0) (Nat.le_refl _) v45 (a3 &&& (255 : Int32)) y41) (by omega) (Nat.le_of_ble_eq_true rfl) (Nat.le_of_ble_eq_true rfl) rfl rfl (Nat.le_of_ble_eq_true rfl) fun y53 => ?_
  exact zs_vret (pc := 56) d_Manifest_draftHead_56 rfl (Nat.le_of_ble_eq_true rfl) (Nat.le_of_ble_eq_true rfl) rfl
def jL_Manifest_draftStaged_21 (fu : Nat) : Nat → Option Nat → Option Nat → Int32 → zH → Option zH
  | 0, _, _, _, _ => none
  | g + 1, a0, a1, a2, H =>
    (zgR H a1 10 0).bind fun v23 =>
    (zgI H v23 2 1).bind fun v26 =>
    if v26 ≤ a2 then (
      (zgR H a0 5 1).bind fun v54 =>
      (zgR H a0 5 1).bind fun v58 =>
      (jF_Bytes_sum fu v58 H).bind fun y61 =>
      (jF_Bytes_append v54 (y61 - y61 / (251 : Int32) * (251 : Int32)) H).bind fun y68 =>
      some y68)
    else (
      (zgR H a0 5 1).bind fun v33 =>
      (zgR H a1 10 0).bind fun v37 =>
      (jF_Bytes_at v37 a2 H).bind fun y41 =>
      (jF_Bytes_append v33 y41 H).bind fun y44 =>
      jL_Manifest_draftStaged_21 fu g a0 a1 (a2 + (1 : Int32)) y44)
def jF_Manifest_draftStaged (fu : Nat) (a0 : Option Nat) (a1 : Option Nat) (H : zH) : Option zH :=
  (zok H a0 5).bind fun _ =>
  (zgI H a1 10 1).bind fun v2 =>
  (zgI H a1 10 2).bind fun v6 =>
  (zgR H a1 10 0).bind fun v10 =>
  (zgI H v10 2 1).bind fun v13 =>
  (jF_Manifest_draftHead a0 v2 v6 v13 H).bind fun y16 =>
  jL_Manifest_draftStaged_21 fu fu a0 a1 (0 : Int32) y16
theorem jl_Manifest_draftStaged_21 {E : zE} {d : Nat} (hd : 2 ≤ d) (fu : Nat) : ∀ (g : Nat), ∀ (a0 : Option Nat) (a1 : Option Nat) (a2 : Int32) (H : zH), z_S E jM_Manifest_draftStaged d 0 0 zwV 21 [(0, zR a0), (1, zR a1), (2, zI a2)] [] H 0 0 (jL_Manifest_draftStaged_21 fu g a0 a1 a2 H) := by
  intro g
  induction g with
  | zero => intros; exact zs_none
  | succ g ih =>
    intro a0 a1 a2 H
    rw [jL_Manifest_draftStaged_21]
    refine zs_iload_n (pc := 21) (x := a2) d_Manifest_draftStaged_21 rfl ?_
    refine zs_aload_n (pc := 22) (x := a1) d_Manifest_draftStaged_22 rfl ?_
    refine zs_getR (pc := 23) d_Manifest_draftStaged_23 kF_Manifest_87 fun v23 => ?_
    refine zs_getI (pc := 26) d_Manifest_draftStaged_26 kF_Manifest_90 fun v26 => ?_
    refine zs_icmp_ge (pc := 29) (tgt := 53) d_Manifest_draftStaged_29 rfl (fun q29 => ?_) (fun q29 => ?_)
    · refine zs_aload_n (pc := 53) (x := a0) d_Manifest_draftStaged_53 rfl ?_
      refine zs_getR (pc := 54) d_Manifest_draftStaged_54 kF_Manifest_20 fun v54 => ?_
      refine zs_aload_n (pc := 57) (x := a0) d_Manifest_draftStaged_57 rfl ?_
      refine zs_getR (pc := 58) d_Manifest_draftStaged_58 kF_Manifest_20 fun v58 => ?_
      refine zs_callv_rI (pc := 61) (av := []) (st := [zR v54]) (d' := 0) (C' := 0) (S' := 0) d_Manifest_draftStaged_61 kV_Manifest_103 z_okb (jm_Bytes_sum (d := 0) (Nat.le_refl _) fu v58 H) (by omega) (Nat.le_of_ble_eq_true rfl) (Nat.le_of_ble_eq_true rfl) rfl rfl (Nat.le_of_ble_eq_true rfl) fun y61 => ?_
      refine zs_sipush (pc := 64) (v := (251 : Int32)) d_Manifest_draftStaged_64 (by decide) ?_
      refine zs_irem (pc := 67) d_Manifest_draftStaged_67 (by decide) ?_
      refine zs_callv_wV (pc := 68) (av := [zI (y61 - y61 / (251 : Int32) * (251 : Int32))]) (st := []) (d' := 0) (C' := 0) (S' := 0) d_Manifest_draftStaged_68 kV_Manifest_100 z_okb (jm_Bytes_append (d := 0) (Nat.le_refl _) v54 (y61 - y61 / (251 : Int32) * (251 : Int32)) H) (by omega) (Nat.le_of_ble_eq_true rfl) (Nat.le_of_ble_eq_true rfl) rfl rfl (Nat.le_of_ble_eq_true rfl) fun y68 => ?_
      exact zs_vret (pc := 71) d_Manifest_draftStaged_71 rfl (Nat.le_of_ble_eq_true rfl) (Nat.le_of_ble_eq_true rfl) rfl
    · refine zs_aload_n (pc := 32) (x := a0) d_Manifest_draftStaged_32 rfl ?_
      refine zs_getR (pc := 33) d_Manifest_draftStaged_33 kF_Manifest_20 fun v33 => ?_
      refine zs_aload_n (pc := 36) (x := a1) d_Manifest_draftStaged_36 rfl ?_
      refine zs_getR (pc := 37) d_Manifest_draftStaged_37 kF_Manifest_87 fun v37 => ?_
      refine zs_iload_n (pc := 40) (x := a2) d_Manifest_draftStaged_40 rfl ?_
      refine zs_callv_rI (pc := 41) (av := [zI a2]) (st := [zR v33]) (d' := 0) (C' := 0) (S' := 0) d_Manifest_draftStaged_41 kV_Manifest_97 z_okb (jm_Bytes_at (d := 0) (Nat.le_refl _) v37 a2 H) (by omega) (Nat.le_of_ble_eq_true rfl) (Nat.le_of_ble_eq_true rfl) rfl rfl (Nat.le_of_ble_eq_true rfl) fun y41 => ?_
      refine zs_callv_wV (pc := 44) (av := [zI y41]) (st := []) (d' := 0) (C' := 0) (S' := 0) d_Manifest_draftStaged_44 kV_Manifest_100 z_okb (jm_Bytes_append (d := 0) (Nat.le_refl _) v33 y41 H) (by omega) (Nat.le_of_ble_eq_true rfl) (Nat.le_of_ble_eq_true rfl) rfl rfl (Nat.le_of_ble_eq_true rfl) fun y44 => ?_
      refine zs_iinc (pc := 47) (x := a2) (v := (a2 + (1 : Int32))) (lv' := [(2, zI (a2 + (1 : Int32))), (0, zR a0), (1, zR a1)]) d_Manifest_draftStaged_47 rfl rfl (Nat.le_of_ble_eq_true rfl) rfl ?_
      refine zs_goto (pc := 50) (tgt := 21) d_Manifest_draftStaged_50 rfl ?_
      refine zs_sub (lv' := [(0, zR a0), (1, zR a1), (2, zI (a2 + (1 : Int32)))]) [1, 2, 0] rfl ?_
      exact ih a0 a1 (a2 + (1 : Int32)) y44
theorem jm_Manifest_draftStaged {E : zE} {d : Nat} (hd : 2 ≤ d) (fu : Nat) (a0 : Option Nat) (a1 : Option Nat) (H : zH) : z_MS E jM_Manifest_draftStaged d 0 0 zwV [zR a0, zR a1] H (jF_Manifest_draftStaged fu a0 a1 H) := by
  refine zs_of (lv0 := [(0, zR a0), (1, zR a1)]) pn_Manifest (Nat.le_of_ble_eq_true rfl) rfl ?_
  unfold jF_Manifest_draftStaged
  refine zs_bind fun _ _ => ?_
  refine zs_aload_n (pc := 0) (x := a0) d_Manifest_draftStaged_0 rfl ?_
  refine zs_aload_n (pc := 1) (x := a1) d_Manifest_draftStaged_1 rfl ?_
  refine zs_getI (pc := 2) d_Manifest_draftStaged_2 kF_Manifest_78 fun v2 => ?_
  refine zs_aload_n (pc := 5) (x := a1) d_Manifest_draftStaged_5 rfl ?_
  refine zs_getI (pc := 6) d_Manifest_draftStaged_6 kF_Manifest_84 fun v6 => ?_
  refine zs_aload_n (pc := 9) (x := a1) d_Manifest_draftStaged_9 rfl ?_
  refine zs_getR (pc := 10) d_Manifest_draftStaged_10 kF_Manifest_87 fun v10 => ?_
  refine zs_getI (pc := 13) d_Manifest_draftStaged_13 kF_Manifest_90 fun v13 => ?_
  refine zs_callv_wV (pc := 16) (av := [zI v2, zI v6, zI v13]) (st := []) (d' := 1) (C' := 0) (S' := 0) d_Manifest_draftStaged_16 kV_Manifest_93 z_okb (jm_Manifest_draftHead (d := 1) (Nat.le_refl _) a0 v2 v6 v13 H) (by omega) (Nat.le_of_ble_eq_true rfl) (Nat.le_of_ble_eq_true rfl) rfl rfl (Nat.le_of_ble_eq_true rfl) fun y16 => ?_
  refine zs_iconst (pc := 19) (v := (0 : Int32)) d_Manifest_draftStaged_19 (by decide) ?_
  refine zs_istore_n (pc := 20) (lv' := [(2, zI (0 : Int32)), (0, zR a0), (1, zR a1)]) d_Manifest_draftStaged_20 (Nat.le_of_ble_eq_true rfl) rfl ?_
  refine zs_sub (lv' := [(0, zR a0), (1, zR a1), (2, zI (0 : Int32))]) [1, 2, 0] rfl ?_
  exact jl_Manifest_draftStaged_21 hd fu fu a0 a1 (0 : Int32) y16
def jF_Manifest_isFull (a0 : Option Nat) (H : zH) : Option Int32 :=
  (zok H a0 5).bind fun _ =>
  (jF_Manifest_entries a0 H).bind fun y1 =>
  if y1 < (9 : Int32) then (
    some (0 : Int32))
  else (
    some (1 : Int32))
theorem jm_Manifest_isFull {E : zE} {d : Nat} (hd : 2 ≤ d) (a0 : Option Nat) (H : zH) : z_MS E jM_Manifest_isFull d 0 0 (zrI H) [zR a0] H (jF_Manifest_isFull a0 H) := by
  refine zs_of (lv0 := [(0, zR a0)]) pn_Manifest (Nat.le_of_ble_eq_true rfl) rfl ?_
  unfold jF_Manifest_isFull
  refine zs_bind fun _ _ => ?_
  refine zs_aload_n (pc := 0) (x := a0) d_Manifest_isFull_0 rfl ?_
  refine zs_callv_rI (pc := 1) (av := []) (st := []) (d' := 1) (C' := 0) (S' := 0) d_Manifest_isFull_1 kV_Manifest_29 z_okb (jm_Manifest_entries (d := 1) (Nat.le_refl _) a0 H) (by omega) (Nat.le_of_ble_eq_true rfl) (Nat.le_of_ble_eq_true rfl) rfl rfl (Nat.le_of_ble_eq_true rfl) fun y1 => ?_
  refine zs_bipush (pc := 4) (v := (9 : Int32)) d_Manifest_isFull_4 (by decide) ?_
  refine zs_icmp_lt (pc := 6) (tgt := 13) d_Manifest_isFull_6 rfl (fun q6 => ?_) (fun q6 => ?_)
  · refine zs_iconst (pc := 13) (v := (0 : Int32)) d_Manifest_isFull_13 (by decide) ?_
    exact zs_zretc (pc := 14) d_Manifest_isFull_14 rfl (by decide) (Nat.le_of_ble_eq_true rfl) (Nat.le_of_ble_eq_true rfl) rfl
  · refine zs_iconst (pc := 9) (v := (1 : Int32)) d_Manifest_isFull_9 (by decide) ?_
    refine zs_goto (pc := 10) (tgt := 14) d_Manifest_isFull_10 rfl ?_
    exact zs_zretc (pc := 14) d_Manifest_isFull_14 rfl (by decide) (Nat.le_of_ble_eq_true rfl) (Nat.le_of_ble_eq_true rfl) rfl
def jL_Manifest_isFree_7 (fu : Nat) (H : zH) : Nat → Option Nat → Int32 → Int32 → Int32 → Option Int32
  | 0, _, _, _, _ => none
  | g + 1, a0, a1, a2, a3 =>
    if a2 ≤ a3 then (
      some (1 : Int32))
    else (
      (jF_Manifest_firstBlockOf a0 a3 H).bind fun y15 =>
      if a1 < y15 then (
        jL_Manifest_isFree_7 fu H g a0 a1 a2 (a3 + (1 : Int32)))
      else (
        (jF_Manifest_firstBlockOf a0 a3 H).bind fun y24 =>
        (jF_Manifest_blocksOf a0 a3 H).bind fun y29 =>
        if (y24 + y29) ≤ a1 then (
          jL_Manifest_isFree_7 fu H g a0 a1 a2 (a3 + (1 : Int32)))
        else (
          some (0 : Int32))))
def jF_Manifest_isFree (fu : Nat) (a0 : Option Nat) (a1 : Int32) (H : zH) : Option Int32 :=
  (zok H a0 5).bind fun _ =>
  (jF_Manifest_entries a0 H).bind fun y1 =>
  jL_Manifest_isFree_7 fu H fu a0 a1 y1 (0 : Int32)
theorem jl_Manifest_isFree_7 {E : zE} {d : Nat} (hd : 3 ≤ d) (fu : Nat) (H : zH) : ∀ (g : Nat), ∀ (a0 : Option Nat) (a1 : Int32) (a2 : Int32) (a3 : Int32), z_S E jM_Manifest_isFree d 0 0 (zrI H) 7 [(0, zR a0), (1, zI a1), (2, zI a2), (3, zI a3)] [] H 0 0 (jL_Manifest_isFree_7 fu H g a0 a1 a2 a3) := by
  intro g
  induction g with
  | zero => intros; exact zs_none
  | succ g ih =>
    intro a0 a1 a2 a3
    rw [jL_Manifest_isFree_7]
    refine zs_iload_n (pc := 7) (x := a3) d_Manifest_isFree_7 rfl ?_
    refine zs_iload_n (pc := 8) (x := a2) d_Manifest_isFree_8 rfl ?_
    refine zs_icmp_ge (pc := 9) (tgt := 44) d_Manifest_isFree_9 rfl (fun q9 => ?_) (fun q9 => ?_)
    · refine zs_iconst (pc := 44) (v := (1 : Int32)) d_Manifest_isFree_44 (by decide) ?_
      exact zs_zretc (pc := 45) d_Manifest_isFree_45 rfl (by decide) (Nat.le_of_ble_eq_true rfl) (Nat.le_of_ble_eq_true rfl) rfl
    · refine zs_iload_n (pc := 12) (x := a1) d_Manifest_isFree_12 rfl ?_
      refine zs_aload_n (pc := 13) (x := a0) d_Manifest_isFree_13 rfl ?_
      refine zs_iload_n (pc := 14) (x := a3) d_Manifest_isFree_14 rfl ?_
      refine zs_callv_rI (pc := 15) (av := [zI a3]) (st := [zI a1]) (d' := 2) (C' := 0) (S' := 0) d_Manifest_isFree_15 kV_Manifest_120 z_okb (jm_Manifest_firstBlockOf (d := 2) (Nat.le_refl _) a0 a3 H) (by omega) (Nat.le_of_ble_eq_true rfl) (Nat.le_of_ble_eq_true rfl) rfl rfl (Nat.le_of_ble_eq_true rfl) fun y15 => ?_
      refine zs_icmp_lt (pc := 18) (tgt := 38) d_Manifest_isFree_18 rfl (fun q18 => ?_) (fun q18 => ?_)
      · refine zs_iinc (pc := 38) (x := a3) (v := (a3 + (1 : Int32))) (lv' := [(3, zI (a3 + (1 : Int32))), (0, zR a0), (1, zI a1), (2, zI a2)]) d_Manifest_isFree_38 rfl rfl (Nat.le_of_ble_eq_true rfl) rfl ?_
        refine zs_goto (pc := 41) (tgt := 7) d_Manifest_isFree_41 rfl ?_
        refine zs_sub (lv' := [(0, zR a0), (1, zI a1), (2, zI a2), (3, zI (a3 + (1 : Int32)))]) [1, 2, 3, 0] rfl ?_
        exact ih a0 a1 a2 (a3 + (1 : Int32))
      · refine zs_iload_n (pc := 21) (x := a1) d_Manifest_isFree_21 rfl ?_
        refine zs_aload_n (pc := 22) (x := a0) d_Manifest_isFree_22 rfl ?_
        refine zs_iload_n (pc := 23) (x := a3) d_Manifest_isFree_23 rfl ?_
        refine zs_callv_rI (pc := 24) (av := [zI a3]) (st := [zI a1]) (d' := 2) (C' := 0) (S' := 0) d_Manifest_isFree_24 kV_Manifest_120 z_okb (jm_Manifest_firstBlockOf (d := 2) (Nat.le_refl _) a0 a3 H) (by omega) (Nat.le_of_ble_eq_true rfl) (Nat.le_of_ble_eq_true rfl) rfl rfl (Nat.le_of_ble_eq_true rfl) fun y24 => ?_
        refine zs_aload_n (pc := 27) (x := a0) d_Manifest_isFree_27 rfl ?_
        refine zs_iload_n (pc := 28) (x := a3) d_Manifest_isFree_28 rfl ?_
        refine zs_callv_rI (pc := 29) (av := [zI a3]) (st := [zI y24, zI a1]) (d' := 2) (C' := 0) (S' := 0) d_Manifest_isFree_29 kV_Manifest_123 z_okb (jm_Manifest_blocksOf (d := 2) (Nat.le_refl _) a0 a3 H) (by omega) (Nat.le_of_ble_eq_true rfl) (Nat.le_of_ble_eq_true rfl) rfl rfl (Nat.le_of_ble_eq_true rfl) fun y29 => ?_
        refine zs_iadd (pc := 32) d_Manifest_isFree_32 ?_
        refine zs_icmp_ge (pc := 33) (tgt := 38) d_Manifest_isFree_33 rfl (fun q33 => ?_) (fun q33 => ?_)
        · refine zs_iinc (pc := 38) (x := a3) (v := (a3 + (1 : Int32))) (lv' := [(3, zI (a3 + (1 : Int32))), (0, zR a0), (1, zI a1), (2, zI a2)]) d_Manifest_isFree_38 rfl rfl (Nat.le_of_ble_eq_true rfl) rfl ?_
          refine zs_goto (pc := 41) (tgt := 7) d_Manifest_isFree_41 rfl ?_
          refine zs_sub (lv' := [(0, zR a0), (1, zI a1), (2, zI a2), (3, zI (a3 + (1 : Int32)))]) [1, 2, 3, 0] rfl ?_
          exact ih a0 a1 a2 (a3 + (1 : Int32))
        · refine zs_iconst (pc := 36) (v := (0 : Int32)) d_Manifest_isFree_36 (by decide) ?_
          exact zs_zretc (pc := 37) d_Manifest_isFree_37 rfl (by decide) (Nat.le_of_ble_eq_true rfl) (Nat.le_of_ble_eq_true rfl) rfl
theorem jm_Manifest_isFree {E : zE} {d : Nat} (hd : 3 ≤ d) (fu : Nat) (a0 : Option Nat) (a1 : Int32) (H : zH) : z_MS E jM_Manifest_isFree d 0 0 (zrI H) [zR a0, zI a1] H (jF_Manifest_isFree fu a0 a1 H) := by
  refine zs_of (lv0 := [(0, zR a0), (1, zI a1)]) pn_Manifest (Nat.le_of_ble_eq_true rfl) rfl ?_
  unfold jF_Manifest_isFree
  refine zs_bind fun _ _ => ?_
  refine zs_aload_n (pc := 0) (x := a0) d_Manifest_isFree_0 rfl ?_
  refine zs_callv_rI (pc := 1) (av := []) (st := []) (d' := 1) (C' := 0) (S' := 0) d_Manifest_isFree_1 kV_Manifest_29 z_okb (jm_Manifest_entries (d := 1) (Nat.le_refl _) a0 H) (by omega) (Nat.le_of_ble_eq_true rfl) (Nat.le_of_ble_eq_true rfl) rfl rfl (Nat.le_of_ble_eq_true rfl) fun y1 => ?_
  refine zs_istore_n (pc := 4) (lv' := [(2, zI y1), (0, zR a0), (1, zI a1)]) d_Manifest_isFree_4 (Nat.le_of_ble_eq_true rfl) rfl ?_
  refine zs_iconst (pc := 5) (v := (0 : Int32)) d_Manifest_isFree_5 (by decide) ?_
  refine zs_istore_n (pc := 6) (lv' := [(3, zI (0 : Int32)), (2, zI y1), (0, zR a0), (1, zI a1)]) d_Manifest_isFree_6 (Nat.le_of_ble_eq_true rfl) rfl ?_
  refine zs_sub (lv' := [(0, zR a0), (1, zI a1), (2, zI y1), (3, zI (0 : Int32))]) [2, 3, 1, 0] rfl ?_
  exact jl_Manifest_isFree_7 hd fu H fu a0 a1 y1 (0 : Int32)
def jJ_Manifest_placeOfDraft_36 (fu : Nat) (H : zH) (k15 : Option Nat → Int32 → Int32 → Int32 → Option Int32) (s0 : Int32) (a0 : Option Nat) (a1 : Int32) (a3 : Int32) : Option Int32 :=
  if s0 = a1 then (
    some ((a3 - a1) + (1 : Int32)))
  else (
    k15 a0 a1 s0 (a3 + (1 : Int32)))
def jL_Manifest_placeOfDraft_15 (fu : Nat) (H : zH) : Nat → Option Nat → Int32 → Int32 → Int32 → Option Int32
  | 0, _, _, _, _ => none
  | g + 1, a0, a1, a2, a3 =>
    if (40 : Int32) ≤ a3 then (
      some (-1 : Int32))
    else (
      (jF_Manifest_isFree fu a0 a3 H).bind fun y23 =>
      if y23 = 0 then (
        jJ_Manifest_placeOfDraft_36 fu H (fun x0 x1 x2 x3 => jL_Manifest_placeOfDraft_15 fu H g x0 x1 x2 x3) (0 : Int32) a0 a1 a3)
      else (
        jJ_Manifest_placeOfDraft_36 fu H (fun x0 x1 x2 x3 => jL_Manifest_placeOfDraft_15 fu H g x0 x1 x2 x3) (a2 + (1 : Int32)) a0 a1 a3))
def jF_Manifest_placeOfDraft (fu : Nat) (a0 : Option Nat) (H : zH) : Option Int32 :=
  (zok H a0 5).bind fun _ =>
  (zgR H a0 5 1).bind fun v1 =>
  (zgI H v1 2 1).bind fun v4 =>
  (jF_Disk_blocksFor v4 H).bind fun y7 =>
  jL_Manifest_placeOfDraft_15 fu H fu a0 y7 (0 : Int32) (2 : Int32)
theorem jj_Manifest_placeOfDraft_36 {E : zE} {d : Nat} (hd : 4 ≤ d) (fu : Nat) (H : zH) (k15 : Option Nat → Int32 → Int32 → Int32 → Option Int32) (hk15 : ∀ (a0 : Option Nat) (a1 : Int32) (a2 : Int32) (a3 : Int32), z_S E jM_Manifest_placeOfDraft d 0 0 (zrI H) 15 [(0, zR a0), (1, zI a1), (2, zI a2), (3, zI a3)] [] H 0 0 (k15 a0 a1 a2 a3)) : ∀ (s0 : Int32) (a0 : Option Nat) (a1 : Int32) (a3 : Int32), z_S E jM_Manifest_placeOfDraft d 0 0 (zrI H) 36 [(0, zR a0), (1, zI a1), (3, zI a3)] [zI s0] H 0 0 (jJ_Manifest_placeOfDraft_36 fu H k15 s0 a0 a1 a3) := by
  intro s0 a0 a1 a3
  unfold jJ_Manifest_placeOfDraft_36
  refine zs_istore_n (pc := 36) (lv' := [(2, zI s0), (0, zR a0), (1, zI a1), (3, zI a3)]) d_Manifest_placeOfDraft_36 (Nat.le_of_ble_eq_true rfl) rfl ?_
  refine zs_iload_n (pc := 37) (x := s0) d_Manifest_placeOfDraft_37 rfl ?_
  refine zs_iload_n (pc := 38) (x := a1) d_Manifest_placeOfDraft_38 rfl ?_
  refine zs_icmp_ne (pc := 39) (tgt := 48) d_Manifest_placeOfDraft_39 rfl (fun q39 => ?_) (fun q39 => ?_)
  · refine zs_iinc (pc := 48) (x := a3) (v := (a3 + (1 : Int32))) (lv' := [(3, zI (a3 + (1 : Int32))), (2, zI s0), (0, zR a0), (1, zI a1)]) d_Manifest_placeOfDraft_48 rfl rfl (Nat.le_of_ble_eq_true rfl) rfl ?_
    refine zs_goto (pc := 51) (tgt := 15) d_Manifest_placeOfDraft_51 rfl ?_
    refine zs_sub (lv' := [(0, zR a0), (1, zI a1), (2, zI s0), (3, zI (a3 + (1 : Int32)))]) [2, 3, 1, 0] rfl ?_
    exact hk15 a0 a1 s0 (a3 + (1 : Int32))
  · refine zs_iload_n (pc := 42) (x := a3) d_Manifest_placeOfDraft_42 rfl ?_
    refine zs_iload_n (pc := 43) (x := a1) d_Manifest_placeOfDraft_43 rfl ?_
    refine zs_isub (pc := 44) d_Manifest_placeOfDraft_44 ?_
    refine zs_iconst (pc := 45) (v := (1 : Int32)) d_Manifest_placeOfDraft_45 (by decide) ?_
    refine zs_iadd (pc := 46) d_Manifest_placeOfDraft_46 ?_
    exact zs_iret (pc := 47) d_Manifest_placeOfDraft_47 rfl (Nat.le_of_ble_eq_true rfl) (Nat.le_of_ble_eq_true rfl) rfl
theorem jl_Manifest_placeOfDraft_15 {E : zE} {d : Nat} (hd : 4 ≤ d) (fu : Nat) (H : zH) : ∀ (g : Nat), ∀ (a0 : Option Nat) (a1 : Int32) (a2 : Int32) (a3 : Int32), z_S E jM_Manifest_placeOfDraft d 0 0 (zrI H) 15 [(0, zR a0), (1, zI a1), (2, zI a2), (3, zI a3)] [] H 0 0 (jL_Manifest_placeOfDraft_15 fu H g a0 a1 a2 a3) := by
  intro g
  induction g with
  | zero => intros; exact zs_none
  | succ g ih =>
    intro a0 a1 a2 a3
    rw [jL_Manifest_placeOfDraft_15]
    refine zs_iload_n (pc := 15) (x := a3) d_Manifest_placeOfDraft_15 rfl ?_
    refine zs_bipush (pc := 16) (v := (40 : Int32)) d_Manifest_placeOfDraft_16 (by decide) ?_
    refine zs_icmp_ge (pc := 18) (tgt := 54) d_Manifest_placeOfDraft_18 rfl (fun q18 => ?_) (fun q18 => ?_)
    · refine zs_iconst (pc := 54) (v := (-1 : Int32)) d_Manifest_placeOfDraft_54 (by decide) ?_
      exact zs_iret (pc := 55) d_Manifest_placeOfDraft_55 rfl (Nat.le_of_ble_eq_true rfl) (Nat.le_of_ble_eq_true rfl) rfl
    · refine zs_aload_n (pc := 21) (x := a0) d_Manifest_placeOfDraft_21 rfl ?_
      refine zs_iload_n (pc := 22) (x := a3) d_Manifest_placeOfDraft_22 rfl ?_
      refine zs_callv_rI (pc := 23) (av := [zI a3]) (st := []) (d' := 3) (C' := 0) (S' := 0) d_Manifest_placeOfDraft_23 kV_Manifest_116 z_okb (jm_Manifest_isFree (d := 3) (Nat.le_refl _) fu a0 a3 H) (by omega) (Nat.le_of_ble_eq_true rfl) (Nat.le_of_ble_eq_true rfl) rfl rfl (Nat.le_of_ble_eq_true rfl) fun y23 => ?_
      refine zs_if_eq (pc := 26) (tgt := 35) d_Manifest_placeOfDraft_26 rfl (fun q26 => ?_) (fun q26 => ?_)
      · refine zs_iconst (pc := 35) (v := (0 : Int32)) d_Manifest_placeOfDraft_35 (by decide) ?_
        refine zs_sub (lv' := [(0, zR a0), (1, zI a1), (3, zI a3)]) [0, 1, 3] rfl ?_
        exact jj_Manifest_placeOfDraft_36 hd fu H (fun x0 x1 x2 x3 => jL_Manifest_placeOfDraft_15 fu H g x0 x1 x2 x3) ih (0 : Int32) a0 a1 a3
      · refine zs_iload_n (pc := 29) (x := a2) d_Manifest_placeOfDraft_29 rfl ?_
        refine zs_iconst (pc := 30) (v := (1 : Int32)) d_Manifest_placeOfDraft_30 (by decide) ?_
        refine zs_iadd (pc := 31) d_Manifest_placeOfDraft_31 ?_
        refine zs_goto (pc := 32) (tgt := 36) d_Manifest_placeOfDraft_32 rfl ?_
        refine zs_sub (lv' := [(0, zR a0), (1, zI a1), (3, zI a3)]) [0, 1, 3] rfl ?_
        exact jj_Manifest_placeOfDraft_36 hd fu H (fun x0 x1 x2 x3 => jL_Manifest_placeOfDraft_15 fu H g x0 x1 x2 x3) ih (a2 + (1 : Int32)) a0 a1 a3
theorem jm_Manifest_placeOfDraft {E : zE} {d : Nat} (hd : 4 ≤ d) (fu : Nat) (a0 : Option Nat) (H : zH) : z_MS E jM_Manifest_placeOfDraft d 0 0 (zrI H) [zR a0] H (jF_Manifest_placeOfDraft fu a0 H) := by
  refine zs_of (lv0 := [(0, zR a0)]) pn_Manifest (Nat.le_of_ble_eq_true rfl) rfl ?_
  unfold jF_Manifest_placeOfDraft
  refine zs_bind fun _ _ => ?_
  refine zs_aload_n (pc := 0) (x := a0) d_Manifest_placeOfDraft_0 rfl ?_
  refine zs_getR (pc := 1) d_Manifest_placeOfDraft_1 kF_Manifest_20 fun v1 => ?_
  refine zs_getI (pc := 4) d_Manifest_placeOfDraft_4 kF_Manifest_90 fun v4 => ?_
  refine zs_calls_rI (pc := 7) (av := [zI v4]) (st := []) (d' := 0) (C' := 0) (S' := 0) d_Manifest_placeOfDraft_7 kS_Manifest_113 (jm_Disk_blocksFor (d := 0) (Nat.le_refl _) v4 H) (by omega) (Nat.le_of_ble_eq_true rfl) (Nat.le_of_ble_eq_true rfl) rfl rfl (Nat.le_of_ble_eq_true rfl) fun y7 => ?_
  refine zs_istore_n (pc := 10) (lv' := [(1, zI y7), (0, zR a0)]) d_Manifest_placeOfDraft_10 (Nat.le_of_ble_eq_true rfl) rfl ?_
  refine zs_iconst (pc := 11) (v := (0 : Int32)) d_Manifest_placeOfDraft_11 (by decide) ?_
  refine zs_istore_n (pc := 12) (lv' := [(2, zI (0 : Int32)), (1, zI y7), (0, zR a0)]) d_Manifest_placeOfDraft_12 (Nat.le_of_ble_eq_true rfl) rfl ?_
  refine zs_iconst (pc := 13) (v := (2 : Int32)) d_Manifest_placeOfDraft_13 (by decide) ?_
  refine zs_istore_n (pc := 14) (lv' := [(3, zI (2 : Int32)), (2, zI (0 : Int32)), (1, zI y7), (0, zR a0)]) d_Manifest_placeOfDraft_14 (Nat.le_of_ble_eq_true rfl) rfl ?_
  refine zs_sub (lv' := [(0, zR a0), (1, zI y7), (2, zI (0 : Int32)), (3, zI (2 : Int32))]) [3, 2, 1, 0] rfl ?_
  exact jl_Manifest_placeOfDraft_15 hd fu H fu a0 y7 (0 : Int32) (2 : Int32)
def jF_Manifest_startOfFile (a0 : Option Nat) (a1 : Int32) (H : zH) : Option Int32 :=
  (zok H a0 5).bind fun _ =>
  (jF_Manifest_firstBlockOf a0 a1 H).bind fun y2 =>
  (jF_Disk_startOf y2 H).bind fun y5 =>
  some y5
theorem jm_Manifest_startOfFile {E : zE} {d : Nat} (hd : 3 ≤ d) (a0 : Option Nat) (a1 : Int32) (H : zH) : z_MS E jM_Manifest_startOfFile d 0 0 (zrI H) [zR a0, zI a1] H (jF_Manifest_startOfFile a0 a1 H) := by
  refine zs_of (lv0 := [(0, zR a0), (1, zI a1)]) pn_Manifest (Nat.le_of_ble_eq_true rfl) rfl ?_
  unfold jF_Manifest_startOfFile
  refine zs_bind fun _ _ => ?_
  refine zs_aload_n (pc := 0) (x := a0) d_Manifest_startOfFile_0 rfl ?_
  refine zs_iload_n (pc := 1) (x := a1) d_Manifest_startOfFile_1 rfl ?_
  refine zs_callv_rI (pc := 2) (av := [zI a1]) (st := []) (d' := 2) (C' := 0) (S' := 0) d_Manifest_startOfFile_2 kV_Manifest_120 z_okb (jm_Manifest_firstBlockOf (d := 2) (Nat.le_refl _) a0 a1 H) (by omega) (Nat.le_of_ble_eq_true rfl) (Nat.le_of_ble_eq_true rfl) rfl rfl (Nat.le_of_ble_eq_true rfl) fun y2 => ?_
  refine zs_calls_rI (pc := 5) (av := [zI y2]) (st := []) (d' := 0) (C' := 0) (S' := 0) d_Manifest_startOfFile_5 kS_Manifest_137 (jm_Disk_startOf (d := 0) (Nat.le_refl _) y2 H) (by omega) (Nat.le_of_ble_eq_true rfl) (Nat.le_of_ble_eq_true rfl) rfl rfl (Nat.le_of_ble_eq_true rfl) fun y5 => ?_
  exact zs_iret (pc := 8) d_Manifest_startOfFile_8 rfl (Nat.le_of_ble_eq_true rfl) (Nat.le_of_ble_eq_true rfl) rfl
def jF_Manifest_recordsIn (a0 : Option Nat) (a1 : Int32) (H : zH) : Option Int32 :=
  (zok H a0 5).bind fun _ =>
  (zgR H a0 5 0).bind fun v1 =>
  (jF_Manifest_startOfFile a0 a1 H).bind fun y6 =>
  (jF_Disk_at v1 (y6 + (2 : Int32)) H).bind fun y11 =>
  some y11
theorem jm_Manifest_recordsIn {E : zE} {d : Nat} (hd : 4 ≤ d) (a0 : Option Nat) (a1 : Int32) (H : zH) : z_MS E jM_Manifest_recordsIn d 0 0 (zrI H) [zR a0, zI a1] H (jF_Manifest_recordsIn a0 a1 H) := by
  refine zs_of (lv0 := [(0, zR a0), (1, zI a1)]) pn_Manifest (Nat.le_of_ble_eq_true rfl) rfl ?_
  unfold jF_Manifest_recordsIn
  refine zs_bind fun _ _ => ?_
  refine zs_aload_n (pc := 0) (x := a0) d_Manifest_recordsIn_0 rfl ?_
  refine zs_getR (pc := 1) d_Manifest_recordsIn_1 kF_Manifest_9 fun v1 => ?_
  refine zs_aload_n (pc := 4) (x := a0) d_Manifest_recordsIn_4 rfl ?_
  refine zs_iload_n (pc := 5) (x := a1) d_Manifest_recordsIn_5 rfl ?_
  refine zs_callv_rI (pc := 6) (av := [zI a1]) (st := [zR v1]) (d' := 3) (C' := 0) (S' := 0) d_Manifest_recordsIn_6 kV_Manifest_64 z_okb (jm_Manifest_startOfFile (d := 3) (Nat.le_refl _) a0 a1 H) (by omega) (Nat.le_of_ble_eq_true rfl) (Nat.le_of_ble_eq_true rfl) rfl rfl (Nat.le_of_ble_eq_true rfl) fun y6 => ?_
  refine zs_iconst (pc := 9) (v := (2 : Int32)) d_Manifest_recordsIn_9 (by decide) ?_
  refine zs_iadd (pc := 10) d_Manifest_recordsIn_10 ?_
  refine zs_callv_rI (pc := 11) (av := [zI (y6 + (2 : Int32))]) (st := []) (d' := 0) (C' := 0) (S' := 0) d_Manifest_recordsIn_11 kV_Manifest_112 z_okb (jm_Disk_at (d := 0) (Nat.le_refl _) v1 (y6 + (2 : Int32)) H) (by omega) (Nat.le_of_ble_eq_true rfl) (Nat.le_of_ble_eq_true rfl) rfl rfl (Nat.le_of_ble_eq_true rfl) fun y11 => ?_
  exact zs_iret (pc := 14) d_Manifest_recordsIn_14 rfl (Nat.le_of_ble_eq_true rfl) (Nat.le_of_ble_eq_true rfl) rfl
def jL_Manifest_recordsOf_10 (fu : Nat) (H : zH) : Nat → Option Nat → Int32 → Int32 → Int32 → Int32 → Option Int32
  | 0, _, _, _, _, _ => none
  | g + 1, a0, a1, a2, a3, a4 =>
    if a2 ≤ a4 then (
      some a3)
    else (
      (jF_Manifest_subjectOf a0 a4 H).bind fun y19 =>
      if y19 = a1 then (
        (jF_Manifest_recordsIn a0 a4 H).bind fun y30 =>
        jL_Manifest_recordsOf_10 fu H g a0 a1 a2 (a3 + y30) (a4 + (1 : Int32)))
      else (
        jL_Manifest_recordsOf_10 fu H g a0 a1 a2 a3 (a4 + (1 : Int32))))
def jF_Manifest_recordsOf (fu : Nat) (a0 : Option Nat) (a1 : Int32) (H : zH) : Option Int32 :=
  (zok H a0 5).bind fun _ =>
  (jF_Manifest_entries a0 H).bind fun y1 =>
  jL_Manifest_recordsOf_10 fu H fu a0 a1 y1 (0 : Int32) (0 : Int32)
theorem jl_Manifest_recordsOf_10 {E : zE} {d : Nat} (hd : 5 ≤ d) (fu : Nat) (H : zH) : ∀ (g : Nat), ∀ (a0 : Option Nat) (a1 : Int32) (a2 : Int32) (a3 : Int32) (a4 : Int32), z_S E jM_Manifest_recordsOf d 0 0 (zrI H) 10 [(0, zR a0), (1, zI a1), (2, zI a2), (3, zI a3), (4, zI a4)] [] H 0 0 (jL_Manifest_recordsOf_10 fu H g a0 a1 a2 a3 a4) := by
  intro g
  induction g with
  | zero => intros; exact zs_none
  | succ g ih =>
    intro a0 a1 a2 a3 a4
    rw [jL_Manifest_recordsOf_10]
    refine zs_iload (pc := 10) (x := a4) d_Manifest_recordsOf_10 rfl ?_
    refine zs_iload_n (pc := 12) (x := a2) d_Manifest_recordsOf_12 rfl ?_
    refine zs_icmp_ge (pc := 13) (tgt := 41) d_Manifest_recordsOf_13 rfl (fun q13 => ?_) (fun q13 => ?_)
    · refine zs_iload_n (pc := 41) (x := a3) d_Manifest_recordsOf_41 rfl ?_
      exact zs_iret (pc := 42) d_Manifest_recordsOf_42 rfl (Nat.le_of_ble_eq_true rfl) (Nat.le_of_ble_eq_true rfl) rfl
    · refine zs_aload_n (pc := 16) (x := a0) d_Manifest_recordsOf_16 rfl ?_
      refine zs_iload (pc := 17) (x := a4) d_Manifest_recordsOf_17 rfl ?_
      refine zs_callv_rI (pc := 19) (av := [zI a4]) (st := []) (d' := 2) (C' := 0) (S' := 0) d_Manifest_recordsOf_19 kV_Manifest_33 z_okb (jm_Manifest_subjectOf (d := 2) (Nat.le_refl _) a0 a4 H) (by omega) (Nat.le_of_ble_eq_true rfl) (Nat.le_of_ble_eq_true rfl) rfl rfl (Nat.le_of_ble_eq_true rfl) fun y19 => ?_
      refine zs_iload_n (pc := 22) (x := a1) d_Manifest_recordsOf_22 rfl ?_
      refine zs_icmp_ne (pc := 23) (tgt := 35) d_Manifest_recordsOf_23 rfl (fun q23 => ?_) (fun q23 => ?_)
      · refine zs_iinc (pc := 35) (x := a4) (v := (a4 + (1 : Int32))) (lv' := [(4, zI (a4 + (1 : Int32))), (0, zR a0), (1, zI a1), (2, zI a2), (3, zI a3)]) d_Manifest_recordsOf_35 rfl rfl (Nat.le_of_ble_eq_true rfl) rfl ?_
        refine zs_goto (pc := 38) (tgt := 10) d_Manifest_recordsOf_38 rfl ?_
        refine zs_sub (lv' := [(0, zR a0), (1, zI a1), (2, zI a2), (3, zI a3), (4, zI (a4 + (1 : Int32)))]) [1, 2, 3, 4, 0] rfl ?_
        exact ih a0 a1 a2 a3 (a4 + (1 : Int32))
      · refine zs_iload_n (pc := 26) (x := a3) d_Manifest_recordsOf_26 rfl ?_
        refine zs_aload_n (pc := 27) (x := a0) d_Manifest_recordsOf_27 rfl ?_
        refine zs_iload (pc := 28) (x := a4) d_Manifest_recordsOf_28 rfl ?_
        refine zs_callv_rI (pc := 30) (av := [zI a4]) (st := [zI a3]) (d' := 4) (C' := 0) (S' := 0) d_Manifest_recordsOf_30 kV_Manifest_37 z_okb (jm_Manifest_recordsIn (d := 4) (Nat.le_refl _) a0 a4 H) (by omega) (Nat.le_of_ble_eq_true rfl) (Nat.le_of_ble_eq_true rfl) rfl rfl (Nat.le_of_ble_eq_true rfl) fun y30 => ?_
        refine zs_iadd (pc := 33) d_Manifest_recordsOf_33 ?_
        refine zs_istore_n (pc := 34) (lv' := [(3, zI (a3 + y30)), (0, zR a0), (1, zI a1), (2, zI a2), (4, zI a4)]) d_Manifest_recordsOf_34 (Nat.le_of_ble_eq_true rfl) rfl ?_
        refine zs_iinc (pc := 35) (x := a4) (v := (a4 + (1 : Int32))) (lv' := [(4, zI (a4 + (1 : Int32))), (3, zI (a3 + y30)), (0, zR a0), (1, zI a1), (2, zI a2)]) d_Manifest_recordsOf_35 rfl rfl (Nat.le_of_ble_eq_true rfl) rfl ?_
        refine zs_goto (pc := 38) (tgt := 10) d_Manifest_recordsOf_38 rfl ?_
        refine zs_sub (lv' := [(0, zR a0), (1, zI a1), (2, zI a2), (3, zI (a3 + y30)), (4, zI (a4 + (1 : Int32)))]) [2, 3, 4, 1, 0] rfl ?_
        exact ih a0 a1 a2 (a3 + y30) (a4 + (1 : Int32))
theorem jm_Manifest_recordsOf {E : zE} {d : Nat} (hd : 5 ≤ d) (fu : Nat) (a0 : Option Nat) (a1 : Int32) (H : zH) : z_MS E jM_Manifest_recordsOf d 0 0 (zrI H) [zR a0, zI a1] H (jF_Manifest_recordsOf fu a0 a1 H) := by
  refine zs_of (lv0 := [(0, zR a0), (1, zI a1)]) pn_Manifest (Nat.le_of_ble_eq_true rfl) rfl ?_
  unfold jF_Manifest_recordsOf
  refine zs_bind fun _ _ => ?_
  refine zs_aload_n (pc := 0) (x := a0) d_Manifest_recordsOf_0 rfl ?_
  refine zs_callv_rI (pc := 1) (av := []) (st := []) (d' := 1) (C' := 0) (S' := 0) d_Manifest_recordsOf_1 kV_Manifest_29 z_okb (jm_Manifest_entries (d := 1) (Nat.le_refl _) a0 H) (by omega) (Nat.le_of_ble_eq_true rfl) (Nat.le_of_ble_eq_true rfl) rfl rfl (Nat.le_of_ble_eq_true rfl) fun y1 => ?_
  refine zs_istore_n (pc := 4) (lv' := [(2, zI y1), (0, zR a0), (1, zI a1)]) d_Manifest_recordsOf_4 (Nat.le_of_ble_eq_true rfl) rfl ?_
  refine zs_iconst (pc := 5) (v := (0 : Int32)) d_Manifest_recordsOf_5 (by decide) ?_
  refine zs_istore_n (pc := 6) (lv' := [(3, zI (0 : Int32)), (2, zI y1), (0, zR a0), (1, zI a1)]) d_Manifest_recordsOf_6 (Nat.le_of_ble_eq_true rfl) rfl ?_
  refine zs_iconst (pc := 7) (v := (0 : Int32)) d_Manifest_recordsOf_7 (by decide) ?_
  refine zs_istore (pc := 8) (lv' := [(4, zI (0 : Int32)), (3, zI (0 : Int32)), (2, zI y1), (0, zR a0), (1, zI a1)]) d_Manifest_recordsOf_8 (Nat.le_of_ble_eq_true rfl) rfl ?_
  refine zs_sub (lv' := [(0, zR a0), (1, zI a1), (2, zI y1), (3, zI (0 : Int32)), (4, zI (0 : Int32))]) [3, 4, 2, 1, 0] rfl ?_
  exact jl_Manifest_recordsOf_10 hd fu H fu a0 a1 y1 (0 : Int32) (0 : Int32)
def jF_ST_load (fu : Nat) (a0 : Option Nat) (a1 : Int32) (H : zH) : Option (Int32 × zH) :=
  (zok H a0 0).bind fun _ =>
  (zgR H a0 0 1).bind fun v1 =>
  (zgI H v1 3 1).bind fun v4 =>
  if v4 = 0 then (
    some ((-4 : Int32), H))
  else (
    (jF_ST_isSubject a1 H).bind fun y14 =>
    if y14 = 0 then (
      some ((-1 : Int32), H))
    else (
      (zgR H a0 0 4).bind fun v21 =>
      (zgI H v21 10 2).bind fun v24 =>
      if v24 = 0 then (
        some ((-1 : Int32), H))
      else (
        (zgR H a0 0 2).bind fun v31 =>
        (zgR H a0 0 4).bind fun v36 =>
        (zgI H v36 10 1).bind fun v39 =>
        (jF_Registry_has fu v31 a1 v39 H).bind fun y42 =>
        if y42 = 0 then (
          some ((-1 : Int32), H))
        else (
          (zgR H a0 0 3).bind fun v51 =>
          (jF_Manifest_isFull v51 H).bind fun y54 =>
          if y54 = 0 then (
            (zgR H a0 0 3).bind fun v64 =>
            (zgR H a0 0 4).bind fun v68 =>
            (jF_Manifest_draftStaged fu v64 v68 H).bind fun y71 =>
            (zgR y71 a0 0 3).bind fun v75 =>
            (jF_Manifest_placeOfDraft fu v75 y71).bind fun y78 =>
            if y78 = (-1 : Int32) then (
              some ((-3 : Int32), y71))
            else (
              (zgR y71 a0 0 3).bind fun v91 =>
              (jF_Manifest_commitNew fu v91 a1 y78 y71).bind fun y96 =>
              if y96.1 = 0 then (
                (jF_ST_goDown a0 y96.2).bind fun y103 =>
                some (y103.1, y103.2))
              else (
                (zgR y96.2 a0 0 4).bind fun v108 =>
                (jF_Staging_clear v108 y96.2).bind fun y111 =>
                (zgR y111 a0 0 3).bind fun v115 =>
                (jF_Manifest_recordsOf fu v115 a1 y111).bind fun y119 =>
                some (y119, y111))))
          else (
            some ((-3 : Int32), H))))))
theorem jm_ST_load {E : zE} {d : Nat} (hd : 6 ≤ d) (fu : Nat) (a0 : Option Nat) (a1 : Int32) (H : zH) : z_MS E jM_ST_load d 0 0 zwI [zR a0, zI a1] H (jF_ST_load fu a0 a1 H) := by
  refine zs_of (lv0 := [(0, zR a0), (1, zI a1)]) pn_ST (Nat.le_of_ble_eq_true rfl) rfl ?_
  unfold jF_ST_load
  refine zs_bind fun _ _ => ?_
  refine zs_aload_n (pc := 0) (x := a0) d_ST_load_0 rfl ?_
  refine zs_getR (pc := 1) d_ST_load_1 kF_ST_19 fun v1 => ?_
  refine zs_getI (pc := 4) d_ST_load_4 kF_ST_79 fun v4 => ?_
  refine zs_if_ne (pc := 7) (tgt := 13) d_ST_load_7 rfl (fun q7 => ?_) (fun q7 => ?_)
  · refine zs_iload_n (pc := 13) (x := a1) d_ST_load_13 rfl ?_
    refine zs_calls_rI (pc := 14) (av := [zI a1]) (st := []) (d' := 0) (C' := 0) (S' := 0) d_ST_load_14 kS_ST_83 (jm_ST_isSubject (d := 0) (Nat.le_refl _) a1 H) (by omega) (Nat.le_of_ble_eq_true rfl) (Nat.le_of_ble_eq_true rfl) rfl rfl (Nat.le_of_ble_eq_true rfl) fun y14 => ?_
    refine zs_if_eq (pc := 17) (tgt := 48) d_ST_load_17 rfl (fun q17 => ?_) (fun q17 => ?_)
    · refine zs_iconst (pc := 48) (v := (-1 : Int32)) d_ST_load_48 (by decide) ?_
      exact zs_iret (pc := 49) d_ST_load_49 rfl (Nat.le_of_ble_eq_true rfl) (Nat.le_of_ble_eq_true rfl) rfl
    · refine zs_aload_n (pc := 20) (x := a0) d_ST_load_20 rfl ?_
      refine zs_getR (pc := 21) d_ST_load_21 kF_ST_42 fun v21 => ?_
      refine zs_getI (pc := 24) d_ST_load_24 kF_ST_132 fun v24 => ?_
      refine zs_if_eq (pc := 27) (tgt := 48) d_ST_load_27 rfl (fun q27 => ?_) (fun q27 => ?_)
      · refine zs_iconst (pc := 48) (v := (-1 : Int32)) d_ST_load_48 (by decide) ?_
        exact zs_iret (pc := 49) d_ST_load_49 rfl (Nat.le_of_ble_eq_true rfl) (Nat.le_of_ble_eq_true rfl) rfl
      · refine zs_aload_n (pc := 30) (x := a0) d_ST_load_30 rfl ?_
        refine zs_getR (pc := 31) d_ST_load_31 kF_ST_28 fun v31 => ?_
        refine zs_iload_n (pc := 34) (x := a1) d_ST_load_34 rfl ?_
        refine zs_aload_n (pc := 35) (x := a0) d_ST_load_35 rfl ?_
        refine zs_getR (pc := 36) d_ST_load_36 kF_ST_42 fun v36 => ?_
        refine zs_getI (pc := 39) d_ST_load_39 kF_ST_135 fun v39 => ?_
        refine zs_callv_rI (pc := 42) (av := [zI a1, zI v39]) (st := []) (d' := 2) (C' := 0) (S' := 0) d_ST_load_42 kV_ST_87 z_okb (jm_Registry_has (d := 2) (Nat.le_refl _) fu v31 a1 v39 H) (by omega) (Nat.le_of_ble_eq_true rfl) (Nat.le_of_ble_eq_true rfl) rfl rfl (Nat.le_of_ble_eq_true rfl) fun y42 => ?_
        refine zs_if_ne (pc := 45) (tgt := 50) d_ST_load_45 rfl (fun q45 => ?_) (fun q45 => ?_)
        · refine zs_aload_n (pc := 50) (x := a0) d_ST_load_50 rfl ?_
          refine zs_getR (pc := 51) d_ST_load_51 kF_ST_35 fun v51 => ?_
          refine zs_callv_rI (pc := 54) (av := []) (st := []) (d' := 2) (C' := 0) (S' := 0) d_ST_load_54 kV_ST_138 z_okb (jm_Manifest_isFull (d := 2) (Nat.le_refl _) v51 H) (by omega) (Nat.le_of_ble_eq_true rfl) (Nat.le_of_ble_eq_true rfl) rfl rfl (Nat.le_of_ble_eq_true rfl) fun y54 => ?_
          refine zs_if_eq (pc := 57) (tgt := 63) d_ST_load_57 rfl (fun q57 => ?_) (fun q57 => ?_)
          · refine zs_aload_n (pc := 63) (x := a0) d_ST_load_63 rfl ?_
            refine zs_getR (pc := 64) d_ST_load_64 kF_ST_35 fun v64 => ?_
            refine zs_aload_n (pc := 67) (x := a0) d_ST_load_67 rfl ?_
            refine zs_getR (pc := 68) d_ST_load_68 kF_ST_42 fun v68 => ?_
            refine zs_callv_wV (pc := 71) (av := [zR v68]) (st := []) (d' := 2) (C' := 0) (S' := 0) d_ST_load_71 kV_ST_139 z_okb (jm_Manifest_draftStaged (d := 2) (Nat.le_refl _) fu v64 v68 H) (by omega) (Nat.le_of_ble_eq_true rfl) (Nat.le_of_ble_eq_true rfl) rfl rfl (Nat.le_of_ble_eq_true rfl) fun y71 => ?_
            refine zs_aload_n (pc := 74) (x := a0) d_ST_load_74 rfl ?_
            refine zs_getR (pc := 75) d_ST_load_75 kF_ST_35 fun v75 => ?_
            refine zs_callv_rI (pc := 78) (av := []) (st := []) (d' := 4) (C' := 0) (S' := 0) d_ST_load_78 kV_ST_143 z_okb (jm_Manifest_placeOfDraft (d := 4) (Nat.le_refl _) fu v75 y71) (by omega) (Nat.le_of_ble_eq_true rfl) (Nat.le_of_ble_eq_true rfl) rfl rfl (Nat.le_of_ble_eq_true rfl) fun y78 => ?_
            refine zs_istore_n (pc := 81) (lv' := [(2, zI y78), (0, zR a0), (1, zI a1)]) d_ST_load_81 (Nat.le_of_ble_eq_true rfl) rfl ?_
            refine zs_iload_n (pc := 82) (x := y78) d_ST_load_82 rfl ?_
            refine zs_iconst (pc := 83) (v := (-1 : Int32)) d_ST_load_83 (by decide) ?_
            refine zs_icmp_ne (pc := 84) (tgt := 90) d_ST_load_84 rfl (fun q84 => ?_) (fun q84 => ?_)
            · refine zs_aload_n (pc := 90) (x := a0) d_ST_load_90 rfl ?_
              refine zs_getR (pc := 91) d_ST_load_91 kF_ST_35 fun v91 => ?_
              refine zs_iload_n (pc := 94) (x := a1) d_ST_load_94 rfl ?_
              refine zs_iload_n (pc := 95) (x := y78) d_ST_load_95 rfl ?_
              refine zs_callv_wI (pc := 96) (av := [zI a1, zI y78]) (st := []) (d' := 3) (C' := 0) (S' := 0) d_ST_load_96 kV_ST_146 z_okb (jm_Manifest_commitNew (d := 3) (Nat.le_refl _) fu v91 a1 y78 y71) (by omega) (Nat.le_of_ble_eq_true rfl) (Nat.le_of_ble_eq_true rfl) rfl rfl (Nat.le_of_ble_eq_true rfl) fun y96 => ?_
              refine zs_if_ne (pc := 99) (tgt := 107) d_ST_load_99 rfl (fun q99 => ?_) (fun q99 => ?_)
              · refine zs_aload_n (pc := 107) (x := a0) d_ST_load_107 rfl ?_
                refine zs_getR (pc := 108) d_ST_load_108 kF_ST_42 fun v108 => ?_
                refine zs_callv_wV (pc := 111) (av := []) (st := []) (d' := 1) (C' := 0) (S' := 0) d_ST_load_111 kV_ST_131 z_okb (jm_Staging_clear (d := 1) (Nat.le_refl _) v108 y96.2) (by omega) (Nat.le_of_ble_eq_true rfl) (Nat.le_of_ble_eq_true rfl) rfl rfl (Nat.le_of_ble_eq_true rfl) fun y111 => ?_
                refine zs_aload_n (pc := 114) (x := a0) d_ST_load_114 rfl ?_
                refine zs_getR (pc := 115) d_ST_load_115 kF_ST_35 fun v115 => ?_
                refine zs_iload_n (pc := 118) (x := a1) d_ST_load_118 rfl ?_
                refine zs_callv_rI (pc := 119) (av := [zI a1]) (st := []) (d' := 5) (C' := 0) (S' := 0) d_ST_load_119 kV_ST_149 z_okb (jm_Manifest_recordsOf (d := 5) (Nat.le_refl _) fu v115 a1 y111) (by omega) (Nat.le_of_ble_eq_true rfl) (Nat.le_of_ble_eq_true rfl) rfl rfl (Nat.le_of_ble_eq_true rfl) fun y119 => ?_
                exact zs_iret (pc := 122) d_ST_load_122 rfl (Nat.le_of_ble_eq_true rfl) (Nat.le_of_ble_eq_true rfl) rfl
              · refine zs_aload_n (pc := 102) (x := a0) d_ST_load_102 rfl ?_
                refine zs_callv_wI (pc := 103) (av := []) (st := []) (d' := 2) (C' := 0) (S' := 0) d_ST_load_103 kV_ST_106 z_okb (jm_ST_goDown (d := 2) (Nat.le_refl _) a0 y96.2) (by omega) (Nat.le_of_ble_eq_true rfl) (Nat.le_of_ble_eq_true rfl) rfl rfl (Nat.le_of_ble_eq_true rfl) fun y103 => ?_
                exact zs_iret (pc := 106) d_ST_load_106 rfl (Nat.le_of_ble_eq_true rfl) (Nat.le_of_ble_eq_true rfl) rfl
            · refine zs_bipush (pc := 87) (v := (-3 : Int32)) d_ST_load_87 (by decide) ?_
              exact zs_iret (pc := 89) d_ST_load_89 rfl (Nat.le_of_ble_eq_true rfl) (Nat.le_of_ble_eq_true rfl) rfl
          · refine zs_bipush (pc := 60) (v := (-3 : Int32)) d_ST_load_60 (by decide) ?_
            exact zs_iret (pc := 62) d_ST_load_62 rfl (Nat.le_of_ble_eq_true rfl) (Nat.le_of_ble_eq_true rfl) rfl
        · refine zs_iconst (pc := 48) (v := (-1 : Int32)) d_ST_load_48 (by decide) ?_
          exact zs_iret (pc := 49) d_ST_load_49 rfl (Nat.le_of_ble_eq_true rfl) (Nat.le_of_ble_eq_true rfl) rfl
  · refine zs_bipush (pc := 10) (v := (-4 : Int32)) d_ST_load_10 (by decide) ?_
    exact zs_iret (pc := 12) d_ST_load_12 rfl (Nat.le_of_ble_eq_true rfl) (Nat.le_of_ble_eq_true rfl) rfl
def jL_Manifest_commitJoined_28 (fu : Nat) : Nat → Option Nat → Int32 → Int32 → Int32 → Int32 → Int32 → zH → Option (Int32 × zH)
  | 0, _, _, _, _, _, _, _ => none
  | g + 1, a0, a1, a2, a3, a4, a5, H =>
    if a4 ≤ a5 then (
      (zgR H a0 5 0).bind fun v100 =>
      (zgR H a0 5 1).bind fun v105 =>
      (jF_Disk_putAll fu v100 a3 v105 H).bind fun y108 =>
      if y108.1 = 0 then (
        some ((0 : Int32), y108.2))
      else (
        (zgR y108.2 a0 5 0).bind fun v115 =>
        (zgR y108.2 a0 5 2).bind fun v120 =>
        (jF_Disk_put fu v115 (0 : Int32) v120 (0 : Int32) y108.2).bind fun y124 =>
        if y124.1 = 0 then (
          some ((0 : Int32), y124.2))
        else (
          some ((1 : Int32), y124.2))))
    else (
      if a5 = a1 then (
        (jF_Manifest_subjectOf a0 a5 H).bind fun y45 =>
        (zgR H a0 5 1).bind fun v50 =>
        (zgI H v50 2 1).bind fun v53 =>
        (jF_Disk_blocksFor v53 H).bind fun y56 =>
        (jF_Manifest_draftEntry a0 y45 a3 y56 H).bind fun y59 =>
        jL_Manifest_commitJoined_28 fu g a0 a1 a2 a3 a4 (a5 + (1 : Int32)) y59)
      else (
        if a5 = a2 then (
          jL_Manifest_commitJoined_28 fu g a0 a1 a2 a3 a4 (a5 + (1 : Int32)) H)
        else (
          (jF_Manifest_subjectOf a0 a5 H).bind fun y75 =>
          (jF_Manifest_firstBlockOf a0 a5 H).bind fun y81 =>
          (jF_Manifest_blocksOf a0 a5 H).bind fun y87 =>
          (jF_Manifest_draftEntry a0 y75 y81 y87 H).bind fun y90 =>
          jL_Manifest_commitJoined_28 fu g a0 a1 a2 a3 a4 (a5 + (1 : Int32)) y90)))
def jF_Manifest_commitJoined (fu : Nat) (a0 : Option Nat) (a1 : Int32) (a2 : Int32) (a3 : Int32) (H : zH) : Option (Int32 × zH) :=
  (zok H a0 5).bind fun _ =>
  (jF_Manifest_entries a0 H).bind fun y1 =>
  (zgR H a0 5 2).bind fun v7 =>
  (jF_Bytes_cutTo v7 (0 : Int32) H).bind fun y11 =>
  (zgR y11 a0 5 2).bind fun v15 =>
  (jF_Bytes_append v15 (y1 - (1 : Int32)) y11).bind fun y22 =>
  jL_Manifest_commitJoined_28 fu fu a0 a1 a2 a3 y1 (0 : Int32) y22
theorem jl_Manifest_commitJoined_28 {E : zE} {d : Nat} (hd : 3 ≤ d) (fu : Nat) : ∀ (g : Nat), ∀ (a0 : Option Nat) (a1 : Int32) (a2 : Int32) (a3 : Int32) (a4 : Int32) (a5 : Int32) (H : zH), z_S E jM_Manifest_commitJoined d 0 0 zwI 28 [(0, zR a0), (1, zI a1), (2, zI a2), (3, zI a3), (4, zI a4), (5, zI a5)] [] H 0 0 (jL_Manifest_commitJoined_28 fu g a0 a1 a2 a3 a4 a5 H) := by
  intro g
  induction g with
  | zero => intros; exact zs_none
  | succ g ih =>
    intro a0 a1 a2 a3 a4 a5 H
    rw [jL_Manifest_commitJoined_28]
    refine zs_iload (pc := 28) (x := a5) d_Manifest_commitJoined_28 rfl ?_
    refine zs_iload (pc := 30) (x := a4) d_Manifest_commitJoined_30 rfl ?_
    refine zs_icmp_ge (pc := 32) (tgt := 99) d_Manifest_commitJoined_32 rfl (fun q32 => ?_) (fun q32 => ?_)
    · refine zs_aload_n (pc := 99) (x := a0) d_Manifest_commitJoined_99 rfl ?_
      refine zs_getR (pc := 100) d_Manifest_commitJoined_100 kF_Manifest_9 fun v100 => ?_
      refine zs_iload_n (pc := 103) (x := a3) d_Manifest_commitJoined_103 rfl ?_
      refine zs_aload_n (pc := 104) (x := a0) d_Manifest_commitJoined_104 rfl ?_
      refine zs_getR (pc := 105) d_Manifest_commitJoined_105 kF_Manifest_20 fun v105 => ?_
      refine zs_callv_wI (pc := 108) (av := [zI a3, zR v105]) (st := []) (d' := 2) (C' := 0) (S' := 0) d_Manifest_commitJoined_108 kV_Manifest_129 z_okb (jm_Disk_putAll (d := 2) (Nat.le_refl _) fu v100 a3 v105 H) (by omega) (Nat.le_of_ble_eq_true rfl) (Nat.le_of_ble_eq_true rfl) rfl rfl (Nat.le_of_ble_eq_true rfl) fun y108 => ?_
      refine zs_if_eq (pc := 111) (tgt := 134) d_Manifest_commitJoined_111 rfl (fun q111 => ?_) (fun q111 => ?_)
      · refine zs_iconst (pc := 134) (v := (0 : Int32)) d_Manifest_commitJoined_134 (by decide) ?_
        exact zs_zretc (pc := 135) d_Manifest_commitJoined_135 rfl (by decide) (Nat.le_of_ble_eq_true rfl) (Nat.le_of_ble_eq_true rfl) rfl
      · refine zs_aload_n (pc := 114) (x := a0) d_Manifest_commitJoined_114 rfl ?_
        refine zs_getR (pc := 115) d_Manifest_commitJoined_115 kF_Manifest_9 fun v115 => ?_
        refine zs_iconst (pc := 118) (v := (0 : Int32)) d_Manifest_commitJoined_118 (by decide) ?_
        refine zs_aload_n (pc := 119) (x := a0) d_Manifest_commitJoined_119 rfl ?_
        refine zs_getR (pc := 120) d_Manifest_commitJoined_120 kF_Manifest_26 fun v120 => ?_
        refine zs_iconst (pc := 123) (v := (0 : Int32)) d_Manifest_commitJoined_123 (by decide) ?_
        refine zs_callv_wI (pc := 124) (av := [zI (0 : Int32), zR v120, zI (0 : Int32)]) (st := []) (d' := 1) (C' := 0) (S' := 0) d_Manifest_commitJoined_124 kV_Manifest_133 z_okb (jm_Disk_put (d := 1) (Nat.le_refl _) fu v115 (0 : Int32) v120 (0 : Int32) y108.2) (by omega) (Nat.le_of_ble_eq_true rfl) (Nat.le_of_ble_eq_true rfl) rfl rfl (Nat.le_of_ble_eq_true rfl) fun y124 => ?_
        refine zs_if_eq (pc := 127) (tgt := 134) d_Manifest_commitJoined_127 rfl (fun q127 => ?_) (fun q127 => ?_)
        · refine zs_iconst (pc := 134) (v := (0 : Int32)) d_Manifest_commitJoined_134 (by decide) ?_
          exact zs_zretc (pc := 135) d_Manifest_commitJoined_135 rfl (by decide) (Nat.le_of_ble_eq_true rfl) (Nat.le_of_ble_eq_true rfl) rfl
        · refine zs_iconst (pc := 130) (v := (1 : Int32)) d_Manifest_commitJoined_130 (by decide) ?_
          refine zs_goto (pc := 131) (tgt := 135) d_Manifest_commitJoined_131 rfl ?_
          exact zs_zretc (pc := 135) d_Manifest_commitJoined_135 rfl (by decide) (Nat.le_of_ble_eq_true rfl) (Nat.le_of_ble_eq_true rfl) rfl
    · refine zs_iload (pc := 35) (x := a5) d_Manifest_commitJoined_35 rfl ?_
      refine zs_iload_n (pc := 37) (x := a1) d_Manifest_commitJoined_37 rfl ?_
      refine zs_icmp_ne (pc := 38) (tgt := 65) d_Manifest_commitJoined_38 rfl (fun q38 => ?_) (fun q38 => ?_)
      · refine zs_iload (pc := 65) (x := a5) d_Manifest_commitJoined_65 rfl ?_
        refine zs_iload_n (pc := 67) (x := a2) d_Manifest_commitJoined_67 rfl ?_
        refine zs_icmp_eq (pc := 68) (tgt := 93) d_Manifest_commitJoined_68 rfl (fun q68 => ?_) (fun q68 => ?_)
        · refine zs_iinc (pc := 93) (x := a5) (v := (a5 + (1 : Int32))) (lv' := [(5, zI (a5 + (1 : Int32))), (0, zR a0), (1, zI a1), (2, zI a2), (3, zI a3), (4, zI a4)]) d_Manifest_commitJoined_93 rfl rfl (Nat.le_of_ble_eq_true rfl) rfl ?_
          refine zs_goto (pc := 96) (tgt := 28) d_Manifest_commitJoined_96 rfl ?_
          refine zs_sub (lv' := [(0, zR a0), (1, zI a1), (2, zI a2), (3, zI a3), (4, zI a4), (5, zI (a5 + (1 : Int32)))]) [1, 2, 3, 4, 5, 0] rfl ?_
          exact ih a0 a1 a2 a3 a4 (a5 + (1 : Int32)) H
        · refine zs_aload_n (pc := 71) (x := a0) d_Manifest_commitJoined_71 rfl ?_
          refine zs_aload_n (pc := 72) (x := a0) d_Manifest_commitJoined_72 rfl ?_
          refine zs_iload (pc := 73) (x := a5) d_Manifest_commitJoined_73 rfl ?_
          refine zs_callv_rI (pc := 75) (av := [zI a5]) (st := [zR a0]) (d' := 2) (C' := 0) (S' := 0) d_Manifest_commitJoined_75 kV_Manifest_33 z_okb (jm_Manifest_subjectOf (d := 2) (Nat.le_refl _) a0 a5 H) (by omega) (Nat.le_of_ble_eq_true rfl) (Nat.le_of_ble_eq_true rfl) rfl rfl (Nat.le_of_ble_eq_true rfl) fun y75 => ?_
          refine zs_aload_n (pc := 78) (x := a0) d_Manifest_commitJoined_78 rfl ?_
          refine zs_iload (pc := 79) (x := a5) d_Manifest_commitJoined_79 rfl ?_
          refine zs_callv_rI (pc := 81) (av := [zI a5]) (st := [zI y75, zR a0]) (d' := 2) (C' := 0) (S' := 0) d_Manifest_commitJoined_81 kV_Manifest_120 z_okb (jm_Manifest_firstBlockOf (d := 2) (Nat.le_refl _) a0 a5 H) (by omega) (Nat.le_of_ble_eq_true rfl) (Nat.le_of_ble_eq_true rfl) rfl rfl (Nat.le_of_ble_eq_true rfl) fun y81 => ?_
          refine zs_aload_n (pc := 84) (x := a0) d_Manifest_commitJoined_84 rfl ?_
          refine zs_iload (pc := 85) (x := a5) d_Manifest_commitJoined_85 rfl ?_
          refine zs_callv_rI (pc := 87) (av := [zI a5]) (st := [zI y81, zI y75, zR a0]) (d' := 2) (C' := 0) (S' := 0) d_Manifest_commitJoined_87 kV_Manifest_123 z_okb (jm_Manifest_blocksOf (d := 2) (Nat.le_refl _) a0 a5 H) (by omega) (Nat.le_of_ble_eq_true rfl) (Nat.le_of_ble_eq_true rfl) rfl rfl (Nat.le_of_ble_eq_true rfl) fun y87 => ?_
          refine zs_callv_wV (pc := 90) (av := [zI y75, zI y81, zI y87]) (st := []) (d' := 1) (C' := 0) (S' := 0) d_Manifest_commitJoined_90 kV_Manifest_126 z_okb (jm_Manifest_draftEntry (d := 1) (Nat.le_refl _) a0 y75 y81 y87 H) (by omega) (Nat.le_of_ble_eq_true rfl) (Nat.le_of_ble_eq_true rfl) rfl rfl (Nat.le_of_ble_eq_true rfl) fun y90 => ?_
          refine zs_iinc (pc := 93) (x := a5) (v := (a5 + (1 : Int32))) (lv' := [(5, zI (a5 + (1 : Int32))), (0, zR a0), (1, zI a1), (2, zI a2), (3, zI a3), (4, zI a4)]) d_Manifest_commitJoined_93 rfl rfl (Nat.le_of_ble_eq_true rfl) rfl ?_
          refine zs_goto (pc := 96) (tgt := 28) d_Manifest_commitJoined_96 rfl ?_
          refine zs_sub (lv' := [(0, zR a0), (1, zI a1), (2, zI a2), (3, zI a3), (4, zI a4), (5, zI (a5 + (1 : Int32)))]) [1, 2, 3, 4, 5, 0] rfl ?_
          exact ih a0 a1 a2 a3 a4 (a5 + (1 : Int32)) y90
      · refine zs_aload_n (pc := 41) (x := a0) d_Manifest_commitJoined_41 rfl ?_
        refine zs_aload_n (pc := 42) (x := a0) d_Manifest_commitJoined_42 rfl ?_
        refine zs_iload (pc := 43) (x := a5) d_Manifest_commitJoined_43 rfl ?_
        refine zs_callv_rI (pc := 45) (av := [zI a5]) (st := [zR a0]) (d' := 2) (C' := 0) (S' := 0) d_Manifest_commitJoined_45 kV_Manifest_33 z_okb (jm_Manifest_subjectOf (d := 2) (Nat.le_refl _) a0 a5 H) (by omega) (Nat.le_of_ble_eq_true rfl) (Nat.le_of_ble_eq_true rfl) rfl rfl (Nat.le_of_ble_eq_true rfl) fun y45 => ?_
        refine zs_iload_n (pc := 48) (x := a3) d_Manifest_commitJoined_48 rfl ?_
        refine zs_aload_n (pc := 49) (x := a0) d_Manifest_commitJoined_49 rfl ?_
        refine zs_getR (pc := 50) d_Manifest_commitJoined_50 kF_Manifest_20 fun v50 => ?_
        refine zs_getI (pc := 53) d_Manifest_commitJoined_53 kF_Manifest_90 fun v53 => ?_
        refine zs_calls_rI (pc := 56) (av := [zI v53]) (st := [zI a3, zI y45, zR a0]) (d' := 0) (C' := 0) (S' := 0) d_Manifest_commitJoined_56 kS_Manifest_113 (jm_Disk_blocksFor (d := 0) (Nat.le_refl _) v53 H) (by omega) (Nat.le_of_ble_eq_true rfl) (Nat.le_of_ble_eq_true rfl) rfl rfl (Nat.le_of_ble_eq_true rfl) fun y56 => ?_
        refine zs_callv_wV (pc := 59) (av := [zI y45, zI a3, zI y56]) (st := []) (d' := 1) (C' := 0) (S' := 0) d_Manifest_commitJoined_59 kV_Manifest_126 z_okb (jm_Manifest_draftEntry (d := 1) (Nat.le_refl _) a0 y45 a3 y56 H) (by omega) (Nat.le_of_ble_eq_true rfl) (Nat.le_of_ble_eq_true rfl) rfl rfl (Nat.le_of_ble_eq_true rfl) fun y59 => ?_
        refine zs_goto (pc := 62) (tgt := 93) d_Manifest_commitJoined_62 rfl ?_
        refine zs_iinc (pc := 93) (x := a5) (v := (a5 + (1 : Int32))) (lv' := [(5, zI (a5 + (1 : Int32))), (0, zR a0), (1, zI a1), (2, zI a2), (3, zI a3), (4, zI a4)]) d_Manifest_commitJoined_93 rfl rfl (Nat.le_of_ble_eq_true rfl) rfl ?_
        refine zs_goto (pc := 96) (tgt := 28) d_Manifest_commitJoined_96 rfl ?_
        refine zs_sub (lv' := [(0, zR a0), (1, zI a1), (2, zI a2), (3, zI a3), (4, zI a4), (5, zI (a5 + (1 : Int32)))]) [1, 2, 3, 4, 5, 0] rfl ?_
        exact ih a0 a1 a2 a3 a4 (a5 + (1 : Int32)) y59
theorem jm_Manifest_commitJoined {E : zE} {d : Nat} (hd : 3 ≤ d) (fu : Nat) (a0 : Option Nat) (a1 : Int32) (a2 : Int32) (a3 : Int32) (H : zH) : z_MS E jM_Manifest_commitJoined d 0 0 zwI [zR a0, zI a1, zI a2, zI a3] H (jF_Manifest_commitJoined fu a0 a1 a2 a3 H) := by
  refine zs_of (lv0 := [(0, zR a0), (1, zI a1), (2, zI a2), (3, zI a3)]) pn_Manifest (Nat.le_of_ble_eq_true rfl) rfl ?_
  unfold jF_Manifest_commitJoined
  refine zs_bind fun _ _ => ?_
  refine zs_aload_n (pc := 0) (x := a0) d_Manifest_commitJoined_0 rfl ?_
  refine zs_callv_rI (pc := 1) (av := []) (st := []) (d' := 1) (C' := 0) (S' := 0) d_Manifest_commitJoined_1 kV_Manifest_29 z_okb (jm_Manifest_entries (d := 1) (Nat.le_refl _) a0 H) (by omega) (Nat.le_of_ble_eq_true rfl) (Nat.le_of_ble_eq_true rfl) rfl rfl (Nat.le_of_ble_eq_true rfl) fun y1 => ?_
  refine zs_istore (pc := 4) (lv' := [(4, zI y1), (0, zR a0), (1, zI a1), (2, zI a2), (3, zI a3)]) d_Manifest_commitJoined_4 (Nat.le_of_ble_eq_true rfl) rfl ?_
  refine zs_aload_n (pc := 6) (x := a0) d_Manifest_commitJoined_6 rfl ?_
  refine zs_getR (pc := 7) d_Manifest_commitJoined_7 kF_Manifest_26 fun v7 => ?_
  refine zs_iconst (pc := 10) (v := (0 : Int32)) d_Manifest_commitJoined_10 (by decide) ?_
  refine zs_callv_wV (pc := 11) (av := [zI (0 : Int32)]) (st := []) (d' := 0) (C' := 0) (S' := 0) d_Manifest_commitJoined_11 kV_Manifest_109 z_okb (jm_Bytes_cutTo (d := 0) (Nat.le_refl _) v7 (0 : Int32) H) (by omega) (Nat.le_of_ble_eq_true rfl) (Nat.le_of_ble_eq_true rfl) rfl rfl (Nat.le_of_ble_eq_true rfl) fun y11 => ?_
  refine zs_aload_n (pc := 14) (x := a0) d_Manifest_commitJoined_14 rfl ?_
  refine zs_getR (pc := 15) d_Manifest_commitJoined_15 kF_Manifest_26 fun v15 => ?_
  refine zs_iload (pc := 18) (x := y1) d_Manifest_commitJoined_18 rfl ?_
  refine zs_iconst (pc := 20) (v := (1 : Int32)) d_Manifest_commitJoined_20 (by decide) ?_
  refine zs_isub (pc := 21) d_Manifest_commitJoined_21 ?_
  refine zs_callv_wV (pc := 22) (av := [zI (y1 - (1 : Int32))]) (st := []) (d' := 0) (C' := 0) (S' := 0) d_Manifest_commitJoined_22 kV_Manifest_100 z_okb (jm_Bytes_append (d := 0) (Nat.le_refl _) v15 (y1 - (1 : Int32)) y11) (by omega) (Nat.le_of_ble_eq_true rfl) (Nat.le_of_ble_eq_true rfl) rfl rfl (Nat.le_of_ble_eq_true rfl) fun y22 => ?_
  refine zs_iconst (pc := 25) (v := (0 : Int32)) d_Manifest_commitJoined_25 (by decide) ?_
  refine zs_istore (pc := 26) (lv' := [(5, zI (0 : Int32)), (4, zI y1), (0, zR a0), (1, zI a1), (2, zI a2), (3, zI a3)]) d_Manifest_commitJoined_26 (Nat.le_of_ble_eq_true rfl) rfl ?_
  refine zs_sub (lv' := [(0, zR a0), (1, zI a1), (2, zI a2), (3, zI a3), (4, zI y1), (5, zI (0 : Int32))]) [2, 3, 4, 5, 1, 0] rfl ?_
  exact jl_Manifest_commitJoined_28 hd fu fu a0 a1 a2 a3 y1 (0 : Int32) y22
def jF_Manifest_bytesIn (a0 : Option Nat) (a1 : Int32) (H : zH) : Option Int32 :=
  (zok H a0 5).bind fun _ =>
  (zgR H a0 5 0).bind fun v1 =>
  (jF_Manifest_startOfFile a0 a1 H).bind fun y6 =>
  (jF_Disk_at v1 (y6 + (3 : Int32)) H).bind fun y11 =>
  (zgR H a0 5 0).bind fun v19 =>
  (jF_Manifest_startOfFile a0 a1 H).bind fun y24 =>
  (jF_Disk_at v19 (y24 + (4 : Int32)) H).bind fun y29 =>
  some ((y11 * (256 : Int32)) + y29)
theorem jm_Manifest_bytesIn {E : zE} {d : Nat} (hd : 4 ≤ d) (a0 : Option Nat) (a1 : Int32) (H : zH) : z_MS E jM_Manifest_bytesIn d 0 0 (zrI H) [zR a0, zI a1] H (jF_Manifest_bytesIn a0 a1 H) := by
  refine zs_of (lv0 := [(0, zR a0), (1, zI a1)]) pn_Manifest (Nat.le_of_ble_eq_true rfl) rfl ?_
  unfold jF_Manifest_bytesIn
  refine zs_bind fun _ _ => ?_
  refine zs_aload_n (pc := 0) (x := a0) d_Manifest_bytesIn_0 rfl ?_
  refine zs_getR (pc := 1) d_Manifest_bytesIn_1 kF_Manifest_9 fun v1 => ?_
  refine zs_aload_n (pc := 4) (x := a0) d_Manifest_bytesIn_4 rfl ?_
  refine zs_iload_n (pc := 5) (x := a1) d_Manifest_bytesIn_5 rfl ?_
  refine zs_callv_rI (pc := 6) (av := [zI a1]) (st := [zR v1]) (d' := 3) (C' := 0) (S' := 0) d_Manifest_bytesIn_6 kV_Manifest_64 z_okb (jm_Manifest_startOfFile (d := 3) (Nat.le_refl _) a0 a1 H) (by omega) (Nat.le_of_ble_eq_true rfl) (Nat.le_of_ble_eq_true rfl) rfl rfl (Nat.le_of_ble_eq_true rfl) fun y6 => ?_
  refine zs_iconst (pc := 9) (v := (3 : Int32)) d_Manifest_bytesIn_9 (by decide) ?_
  refine zs_iadd (pc := 10) d_Manifest_bytesIn_10 ?_
  refine zs_callv_rI (pc := 11) (av := [zI (y6 + (3 : Int32))]) (st := []) (d' := 0) (C' := 0) (S' := 0) d_Manifest_bytesIn_11 kV_Manifest_112 z_okb (jm_Disk_at (d := 0) (Nat.le_refl _) v1 (y6 + (3 : Int32)) H) (by omega) (Nat.le_of_ble_eq_true rfl) (Nat.le_of_ble_eq_true rfl) rfl rfl (Nat.le_of_ble_eq_true rfl) fun y11 => ?_
  refine zs_sipush (pc := 14) (v := (256 : Int32)) d_Manifest_bytesIn_14 (by decide) ?_
  refine zs_imul (pc := 17) d_Manifest_bytesIn_17 ?_
  refine zs_aload_n (pc := 18) (x := a0) d_Manifest_bytesIn_18 rfl ?_
  refine zs_getR (pc := 19) d_Manifest_bytesIn_19 kF_Manifest_9 fun v19 => ?_
  refine zs_aload_n (pc := 22) (x := a0) d_Manifest_bytesIn_22 rfl ?_
  refine zs_iload_n (pc := 23) (x := a1) d_Manifest_bytesIn_23 rfl ?_
  refine zs_callv_rI (pc := 24) (av := [zI a1]) (st := [zR v19, zI (y11 * (256 : Int32))]) (d' := 3) (C' := 0) (S' := 0) d_Manifest_bytesIn_24 kV_Manifest_64 z_okb (jm_Manifest_startOfFile (d := 3) (Nat.le_refl _) a0 a1 H) (by omega) (Nat.le_of_ble_eq_true rfl) (Nat.le_of_ble_eq_true rfl) rfl rfl (Nat.le_of_ble_eq_true rfl) fun y24 => ?_
  refine zs_iconst (pc := 27) (v := (4 : Int32)) d_Manifest_bytesIn_27 (by decide) ?_
  refine zs_iadd (pc := 28) d_Manifest_bytesIn_28 ?_
  refine zs_callv_rI (pc := 29) (av := [zI (y24 + (4 : Int32))]) (st := [zI (y11 * (256 : Int32))]) (d' := 0) (C' := 0) (S' := 0) d_Manifest_bytesIn_29 kV_Manifest_112 z_okb (jm_Disk_at (d := 0) (Nat.le_refl _) v19 (y24 + (4 : Int32)) H) (by omega) (Nat.le_of_ble_eq_true rfl) (Nat.le_of_ble_eq_true rfl) rfl rfl (Nat.le_of_ble_eq_true rfl) fun y29 => ?_
  refine zs_iadd (pc := 32) d_Manifest_bytesIn_32 ?_
  exact zs_iret (pc := 33) d_Manifest_bytesIn_33 rfl (Nat.le_of_ble_eq_true rfl) (Nat.le_of_ble_eq_true rfl) rfl
def jL_Manifest_draftRecordsOf_17 (fu : Nat) : Nat → Option Nat → Int32 → Int32 → Int32 → zH → Option zH
  | 0, _, _, _, _, _ => none
  | g + 1, a0, a2, a3, a4, H =>
    if a3 ≤ a4 then (
      some H)
    else (
      (zgR H a0 5 1).bind fun v24 =>
      (zgR H a0 5 0).bind fun v28 =>
      (jF_Disk_at v28 (a2 + a4) H).bind fun y35 =>
      (jF_Bytes_append v24 y35 H).bind fun y38 =>
      jL_Manifest_draftRecordsOf_17 fu g a0 a2 a3 (a4 + (1 : Int32)) y38)
def jF_Manifest_draftRecordsOf (fu : Nat) (a0 : Option Nat) (a1 : Int32) (H : zH) : Option zH :=
  (zok H a0 5).bind fun _ =>
  (jF_Manifest_startOfFile a0 a1 H).bind fun y2 =>
  (jF_Manifest_bytesIn a0 a1 H).bind fun y10 =>
  jL_Manifest_draftRecordsOf_17 fu fu a0 (y2 + (5 : Int32)) y10 (0 : Int32) H
theorem jl_Manifest_draftRecordsOf_17 {E : zE} {d : Nat} (hd : 5 ≤ d) (fu : Nat) : ∀ (g : Nat), ∀ (a0 : Option Nat) (a2 : Int32) (a3 : Int32) (a4 : Int32) (H : zH), z_S E jM_Manifest_draftRecordsOf d 0 0 zwV 17 [(0, zR a0), (2, zI a2), (3, zI a3), (4, zI a4)] [] H 0 0 (jL_Manifest_draftRecordsOf_17 fu g a0 a2 a3 a4 H) := by
  intro g
  induction g with
  | zero => intros; exact zs_none
  | succ g ih =>
    intro a0 a2 a3 a4 H
    rw [jL_Manifest_draftRecordsOf_17]
    refine zs_iload (pc := 17) (x := a4) d_Manifest_draftRecordsOf_17 rfl ?_
    refine zs_iload_n (pc := 19) (x := a3) d_Manifest_draftRecordsOf_19 rfl ?_
    refine zs_icmp_ge (pc := 20) (tgt := 47) d_Manifest_draftRecordsOf_20 rfl (fun q20 => ?_) (fun q20 => ?_)
    · exact zs_vret (pc := 47) d_Manifest_draftRecordsOf_47 rfl (Nat.le_of_ble_eq_true rfl) (Nat.le_of_ble_eq_true rfl) rfl
    · refine zs_aload_n (pc := 23) (x := a0) d_Manifest_draftRecordsOf_23 rfl ?_
      refine zs_getR (pc := 24) d_Manifest_draftRecordsOf_24 kF_Manifest_20 fun v24 => ?_
      refine zs_aload_n (pc := 27) (x := a0) d_Manifest_draftRecordsOf_27 rfl ?_
      refine zs_getR (pc := 28) d_Manifest_draftRecordsOf_28 kF_Manifest_9 fun v28 => ?_
      refine zs_iload_n (pc := 31) (x := a2) d_Manifest_draftRecordsOf_31 rfl ?_
      refine zs_iload (pc := 32) (x := a4) d_Manifest_draftRecordsOf_32 rfl ?_
      refine zs_iadd (pc := 34) d_Manifest_draftRecordsOf_34 ?_
      refine zs_callv_rI (pc := 35) (av := [zI (a2 + a4)]) (st := [zR v24]) (d' := 0) (C' := 0) (S' := 0) d_Manifest_draftRecordsOf_35 kV_Manifest_112 z_okb (jm_Disk_at (d := 0) (Nat.le_refl _) v28 (a2 + a4) H) (by omega) (Nat.le_of_ble_eq_true rfl) (Nat.le_of_ble_eq_true rfl) rfl rfl (Nat.le_of_ble_eq_true rfl) fun y35 => ?_
      refine zs_callv_wV (pc := 38) (av := [zI y35]) (st := []) (d' := 0) (C' := 0) (S' := 0) d_Manifest_draftRecordsOf_38 kV_Manifest_100 z_okb (jm_Bytes_append (d := 0) (Nat.le_refl _) v24 y35 H) (by omega) (Nat.le_of_ble_eq_true rfl) (Nat.le_of_ble_eq_true rfl) rfl rfl (Nat.le_of_ble_eq_true rfl) fun y38 => ?_
      refine zs_iinc (pc := 41) (x := a4) (v := (a4 + (1 : Int32))) (lv' := [(4, zI (a4 + (1 : Int32))), (0, zR a0), (2, zI a2), (3, zI a3)]) d_Manifest_draftRecordsOf_41 rfl rfl (Nat.le_of_ble_eq_true rfl) rfl ?_
      refine zs_goto (pc := 44) (tgt := 17) d_Manifest_draftRecordsOf_44 rfl ?_
      refine zs_sub (lv' := [(0, zR a0), (2, zI a2), (3, zI a3), (4, zI (a4 + (1 : Int32)))]) [1, 2, 3, 0] rfl ?_
      exact ih a0 a2 a3 (a4 + (1 : Int32)) y38
theorem jm_Manifest_draftRecordsOf {E : zE} {d : Nat} (hd : 5 ≤ d) (fu : Nat) (a0 : Option Nat) (a1 : Int32) (H : zH) : z_MS E jM_Manifest_draftRecordsOf d 0 0 zwV [zR a0, zI a1] H (jF_Manifest_draftRecordsOf fu a0 a1 H) := by
  refine zs_of (lv0 := [(0, zR a0), (1, zI a1)]) pn_Manifest (Nat.le_of_ble_eq_true rfl) rfl ?_
  unfold jF_Manifest_draftRecordsOf
  refine zs_bind fun _ _ => ?_
  refine zs_aload_n (pc := 0) (x := a0) d_Manifest_draftRecordsOf_0 rfl ?_
  refine zs_iload_n (pc := 1) (x := a1) d_Manifest_draftRecordsOf_1 rfl ?_
  refine zs_callv_rI (pc := 2) (av := [zI a1]) (st := []) (d' := 3) (C' := 0) (S' := 0) d_Manifest_draftRecordsOf_2 kV_Manifest_64 z_okb (jm_Manifest_startOfFile (d := 3) (Nat.le_refl _) a0 a1 H) (by omega) (Nat.le_of_ble_eq_true rfl) (Nat.le_of_ble_eq_true rfl) rfl rfl (Nat.le_of_ble_eq_true rfl) fun y2 => ?_
  refine zs_iconst (pc := 5) (v := (5 : Int32)) d_Manifest_draftRecordsOf_5 (by decide) ?_
  refine zs_iadd (pc := 6) d_Manifest_draftRecordsOf_6 ?_
  refine zs_istore_n (pc := 7) (lv' := [(2, zI (y2 + (5 : Int32))), (0, zR a0), (1, zI a1)]) d_Manifest_draftRecordsOf_7 (Nat.le_of_ble_eq_true rfl) rfl ?_
  refine zs_aload_n (pc := 8) (x := a0) d_Manifest_draftRecordsOf_8 rfl ?_
  refine zs_iload_n (pc := 9) (x := a1) d_Manifest_draftRecordsOf_9 rfl ?_
  refine zs_callv_rI (pc := 10) (av := [zI a1]) (st := []) (d' := 4) (C' := 0) (S' := 0) d_Manifest_draftRecordsOf_10 kV_Manifest_51 z_okb (jm_Manifest_bytesIn (d := 4) (Nat.le_refl _) a0 a1 H) (by omega) (Nat.le_of_ble_eq_true rfl) (Nat.le_of_ble_eq_true rfl) rfl rfl (Nat.le_of_ble_eq_true rfl) fun y10 => ?_
  refine zs_istore_n (pc := 13) (lv' := [(3, zI y10), (2, zI (y2 + (5 : Int32))), (0, zR a0), (1, zI a1)]) d_Manifest_draftRecordsOf_13 (Nat.le_of_ble_eq_true rfl) rfl ?_
  refine zs_iconst (pc := 14) (v := (0 : Int32)) d_Manifest_draftRecordsOf_14 (by decide) ?_
  refine zs_istore (pc := 15) (lv' := [(4, zI (0 : Int32)), (3, zI y10), (2, zI (y2 + (5 : Int32))), (0, zR a0), (1, zI a1)]) d_Manifest_draftRecordsOf_15 (Nat.le_of_ble_eq_true rfl) rfl ?_
  refine zs_sub (lv' := [(0, zR a0), (2, zI (y2 + (5 : Int32))), (3, zI y10), (4, zI (0 : Int32))]) [3, 2, 1, 0] rfl ?_
  exact jl_Manifest_draftRecordsOf_17 hd fu fu a0 (y2 + (5 : Int32)) y10 (0 : Int32) H
def jF_Manifest_schemaOf (a0 : Option Nat) (a1 : Int32) (H : zH) : Option Int32 :=
  (zok H a0 5).bind fun _ =>
  (zgR H a0 5 0).bind fun v1 =>
  (jF_Manifest_startOfFile a0 a1 H).bind fun y6 =>
  (jF_Disk_at v1 (y6 + (1 : Int32)) H).bind fun y11 =>
  some y11
theorem jm_Manifest_schemaOf {E : zE} {d : Nat} (hd : 4 ≤ d) (a0 : Option Nat) (a1 : Int32) (H : zH) : z_MS E jM_Manifest_schemaOf d 0 0 (zrI H) [zR a0, zI a1] H (jF_Manifest_schemaOf a0 a1 H) := by
  refine zs_of (lv0 := [(0, zR a0), (1, zI a1)]) pn_Manifest (Nat.le_of_ble_eq_true rfl) rfl ?_
  unfold jF_Manifest_schemaOf
  refine zs_bind fun _ _ => ?_
  refine zs_aload_n (pc := 0) (x := a0) d_Manifest_schemaOf_0 rfl ?_
  refine zs_getR (pc := 1) d_Manifest_schemaOf_1 kF_Manifest_9 fun v1 => ?_
  refine zs_aload_n (pc := 4) (x := a0) d_Manifest_schemaOf_4 rfl ?_
  refine zs_iload_n (pc := 5) (x := a1) d_Manifest_schemaOf_5 rfl ?_
  refine zs_callv_rI (pc := 6) (av := [zI a1]) (st := [zR v1]) (d' := 3) (C' := 0) (S' := 0) d_Manifest_schemaOf_6 kV_Manifest_64 z_okb (jm_Manifest_startOfFile (d := 3) (Nat.le_refl _) a0 a1 H) (by omega) (Nat.le_of_ble_eq_true rfl) (Nat.le_of_ble_eq_true rfl) rfl rfl (Nat.le_of_ble_eq_true rfl) fun y6 => ?_
  refine zs_iconst (pc := 9) (v := (1 : Int32)) d_Manifest_schemaOf_9 (by decide) ?_
  refine zs_iadd (pc := 10) d_Manifest_schemaOf_10 ?_
  refine zs_callv_rI (pc := 11) (av := [zI (y6 + (1 : Int32))]) (st := []) (d' := 0) (C' := 0) (S' := 0) d_Manifest_schemaOf_11 kV_Manifest_112 z_okb (jm_Disk_at (d := 0) (Nat.le_refl _) v1 (y6 + (1 : Int32)) H) (by omega) (Nat.le_of_ble_eq_true rfl) (Nat.le_of_ble_eq_true rfl) rfl rfl (Nat.le_of_ble_eq_true rfl) fun y11 => ?_
  exact zs_iret (pc := 14) d_Manifest_schemaOf_14 rfl (Nat.le_of_ble_eq_true rfl) (Nat.le_of_ble_eq_true rfl) rfl
