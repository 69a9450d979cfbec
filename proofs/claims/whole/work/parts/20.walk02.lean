def jL_Registry_countOf_10 (fu : Nat) (H : zH) : Nat → Option Nat → Int32 → Int32 → Int32 → Int32 → Option Int32
  | 0, _, _, _, _, _ => none
  | g + 1, a0, a1, a2, a3, a4 =>
    if a2 ≤ a4 then (
      some a3)
    else (
      (jF_Registry_entryByte a0 a4 (0 : Int32) H).bind fun y20 =>
      if y20 = a1 then (
        jL_Registry_countOf_10 fu H g a0 a1 a2 (a3 + (1 : Int32)) (a4 + (1 : Int32)))
      else (
        jL_Registry_countOf_10 fu H g a0 a1 a2 a3 (a4 + (1 : Int32))))
def jF_Registry_countOf (fu : Nat) (a0 : Option Nat) (a1 : Int32) (H : zH) : Option Int32 :=
  (zok H a0 6).bind fun _ =>
  (jF_Registry_entries a0 H).bind fun y1 =>
  jL_Registry_countOf_10 fu H fu a0 a1 y1 (0 : Int32) (0 : Int32)
theorem jl_Registry_countOf_10 {E : zE} {d : Nat} (hd : 2 ≤ d) (fu : Nat) (H : zH) : ∀ (g : Nat), ∀ (a0 : Option Nat) (a1 : Int32) (a2 : Int32) (a3 : Int32) (a4 : Int32), z_S E jM_Registry_countOf d 0 0 (zrI H) 10 [(0, zR a0), (1, zI a1), (2, zI a2), (3, zI a3), (4, zI a4)] [] H 0 0 (jL_Registry_countOf_10 fu H g a0 a1 a2 a3 a4) := by
  intro g
  induction g with
  | zero => intros; exact zs_none
  | succ g ih =>
    intro a0 a1 a2 a3 a4
    rw [jL_Registry_countOf_10]
    refine zs_iload (pc := 10) (x := a4) d_Registry_countOf_10 rfl ?_
    refine zs_iload_n (pc := 12) (x := a2) d_Registry_countOf_12 rfl ?_
    refine zs_icmp_ge (pc := 13) (tgt := 36) d_Registry_countOf_13 rfl (fun q13 => ?_) (fun q13 => ?_)
    · refine zs_iload_n (pc := 36) (x := a3) d_Registry_countOf_36 rfl ?_
      exact zs_iret (pc := 37) d_Registry_countOf_37 rfl (Nat.le_of_ble_eq_true rfl) (Nat.le_of_ble_eq_true rfl) rfl
    · refine zs_aload_n (pc := 16) (x := a0) d_Registry_countOf_16 rfl ?_
      refine zs_iload (pc := 17) (x := a4) d_Registry_countOf_17 rfl ?_
      refine zs_iconst (pc := 19) (v := (0 : Int32)) d_Registry_countOf_19 (by decide) ?_
      refine zs_callv_rI (pc := 20) (av := [zI a4, zI (0 : Int32)]) (st := []) (d' := 1) (C' := 0) (S' := 0) d_Registry_countOf_20 kV_Registry_30 z_okb (jm_Registry_entryByte (d := 1) (Nat.le_refl _) a0 a4 (0 : Int32) H) (by omega) (Nat.le_of_ble_eq_true rfl) (Nat.le_of_ble_eq_true rfl) rfl rfl (Nat.le_of_ble_eq_true rfl) fun y20 => ?_
      refine zs_iload_n (pc := 23) (x := a1) d_Registry_countOf_23 rfl ?_
      refine zs_icmp_ne (pc := 24) (tgt := 30) d_Registry_countOf_24 rfl (fun q24 => ?_) (fun q24 => ?_)
      · refine zs_iinc (pc := 30) (x := a4) (v := (a4 + (1 : Int32))) (lv' := [(4, zI (a4 + (1 : Int32))), (0, zR a0), (1, zI a1), (2, zI a2), (3, zI a3)]) d_Registry_countOf_30 rfl rfl (Nat.le_of_ble_eq_true rfl) rfl ?_
        refine zs_goto (pc := 33) (tgt := 10) d_Registry_countOf_33 rfl ?_
        refine zs_sub (lv' := [(0, zR a0), (1, zI a1), (2, zI a2), (3, zI a3), (4, zI (a4 + (1 : Int32)))]) [1, 2, 3, 4, 0] rfl ?_
        exact ih a0 a1 a2 a3 (a4 + (1 : Int32))
      · refine zs_iinc (pc := 27) (x := a3) (v := (a3 + (1 : Int32))) (lv' := [(3, zI (a3 + (1 : Int32))), (0, zR a0), (1, zI a1), (2, zI a2), (4, zI a4)]) d_Registry_countOf_27 rfl rfl (Nat.le_of_ble_eq_true rfl) rfl ?_
        refine zs_iinc (pc := 30) (x := a4) (v := (a4 + (1 : Int32))) (lv' := [(4, zI (a4 + (1 : Int32))), (3, zI (a3 + (1 : Int32))), (0, zR a0), (1, zI a1), (2, zI a2)]) d_Registry_countOf_30 rfl rfl (Nat.le_of_ble_eq_true rfl) rfl ?_
        refine zs_goto (pc := 33) (tgt := 10) d_Registry_countOf_33 rfl ?_
        refine zs_sub (lv' := [(0, zR a0), (1, zI a1), (2, zI a2), (3, zI (a3 + (1 : Int32))), (4, zI (a4 + (1 : Int32)))]) [2, 3, 4, 1, 0] rfl ?_
        exact ih a0 a1 a2 (a3 + (1 : Int32)) (a4 + (1 : Int32))
theorem jm_Registry_countOf {E : zE} {d : Nat} (hd : 2 ≤ d) (fu : Nat) (a0 : Option Nat) (a1 : Int32) (H : zH) : z_MS E jM_Registry_countOf d 0 0 (zrI H) [zR a0, zI a1] H (jF_Registry_countOf fu a0 a1 H) := by
  refine zs_of (lv0 := [(0, zR a0), (1, zI a1)]) pn_Registry (Nat.le_of_ble_eq_true rfl) rfl ?_
  unfold jF_Registry_countOf
  refine zs_bind fun _ _ => ?_
  refine zs_aload_n (pc := 0) (x := a0) d_Registry_countOf_0 rfl ?_
  refine zs_callv_rI (pc := 1) (av := []) (st := []) (d' := 1) (C' := 0) (S' := 0) d_Registry_countOf_1 kV_Registry_26 z_okb (jm_Registry_entries (d := 1) (Nat.le_refl _) a0 H) (by omega) (Nat.le_of_ble_eq_true rfl) (Nat.le_of_ble_eq_true rfl) rfl rfl (Nat.le_of_ble_eq_true rfl) fun y1 => ?_
  refine zs_istore_n (pc := 4) (lv' := [(2, zI y1), (0, zR a0), (1, zI a1)]) d_Registry_countOf_4 (Nat.le_of_ble_eq_true rfl) rfl ?_
  refine zs_iconst (pc := 5) (v := (0 : Int32)) d_Registry_countOf_5 (by decide) ?_
  refine zs_istore_n (pc := 6) (lv' := [(3, zI (0 : Int32)), (2, zI y1), (0, zR a0), (1, zI a1)]) d_Registry_countOf_6 (Nat.le_of_ble_eq_true rfl) rfl ?_
  refine zs_iconst (pc := 7) (v := (0 : Int32)) d_Registry_countOf_7 (by decide) ?_
  refine zs_istore (pc := 8) (lv' := [(4, zI (0 : Int32)), (3, zI (0 : Int32)), (2, zI y1), (0, zR a0), (1, zI a1)]) d_Registry_countOf_8 (Nat.le_of_ble_eq_true rfl) rfl ?_
  refine zs_sub (lv' := [(0, zR a0), (1, zI a1), (2, zI y1), (3, zI (0 : Int32)), (4, zI (0 : Int32))]) [3, 4, 2, 1, 0] rfl ?_
  exact jl_Registry_countOf_10 hd fu H fu a0 a1 y1 (0 : Int32) (0 : Int32)
def jL_Registry_schemaOf_11 (fu : Nat) (H : zH) : Nat → Option Nat → Int32 → Int32 → Int32 → Int32 → Int32 → Option Int32
  | 0, _, _, _, _, _, _ => none
  | g + 1, a0, a1, a2, a3, a4, a5 =>
    if a3 ≤ a5 then (
      some (-1 : Int32))
    else (
      (jF_Registry_entryByte a0 a5 (0 : Int32) H).bind fun y21 =>
      if y21 = a1 then (
        if a4 = a2 then (
          (jF_Registry_entryByte a0 a5 (1 : Int32) H).bind fun y38 =>
          some y38)
        else (
          jL_Registry_schemaOf_11 fu H g a0 a1 a2 a3 (a4 + (1 : Int32)) (a5 + (1 : Int32))))
      else (
        jL_Registry_schemaOf_11 fu H g a0 a1 a2 a3 a4 (a5 + (1 : Int32))))
def jF_Registry_schemaOf (fu : Nat) (a0 : Option Nat) (a1 : Int32) (a2 : Int32) (H : zH) : Option Int32 :=
  (zok H a0 6).bind fun _ =>
  (jF_Registry_entries a0 H).bind fun y1 =>
  jL_Registry_schemaOf_11 fu H fu a0 a1 a2 y1 (0 : Int32) (0 : Int32)
theorem jl_Registry_schemaOf_11 {E : zE} {d : Nat} (hd : 2 ≤ d) (fu : Nat) (H : zH) : ∀ (g : Nat), ∀ (a0 : Option Nat) (a1 : Int32) (a2 : Int32) (a3 : Int32) (a4 : Int32) (a5 : Int32), z_S E jM_Registry_schemaOf d 0 0 (zrI H) 11 [(0, zR a0), (1, zI a1), (2, zI a2), (3, zI a3), (4, zI a4), (5, zI a5)] [] H 0 0 (jL_Registry_schemaOf_11 fu H g a0 a1 a2 a3 a4 a5) := by
  intro g
  induction g with
  | zero => intros; exact zs_none
  | succ g ih =>
    intro a0 a1 a2 a3 a4 a5
    rw [jL_Registry_schemaOf_11]
    refine zs_iload (pc := 11) (x := a5) d_Registry_schemaOf_11 rfl ?_
    refine zs_iload_n (pc := 13) (x := a3) d_Registry_schemaOf_13 rfl ?_
    refine zs_icmp_ge (pc := 14) (tgt := 51) d_Registry_schemaOf_14 rfl (fun q14 => ?_) (fun q14 => ?_)
    · refine zs_iconst (pc := 51) (v := (-1 : Int32)) d_Registry_schemaOf_51 (by decide) ?_
      exact zs_iret (pc := 52) d_Registry_schemaOf_52 rfl (Nat.le_of_ble_eq_true rfl) (Nat.le_of_ble_eq_true rfl) rfl
    · refine zs_aload_n (pc := 17) (x := a0) d_Registry_schemaOf_17 rfl ?_
      refine zs_iload (pc := 18) (x := a5) d_Registry_schemaOf_18 rfl ?_
      refine zs_iconst (pc := 20) (v := (0 : Int32)) d_Registry_schemaOf_20 (by decide) ?_
      refine zs_callv_rI (pc := 21) (av := [zI a5, zI (0 : Int32)]) (st := []) (d' := 1) (C' := 0) (S' := 0) d_Registry_schemaOf_21 kV_Registry_30 z_okb (jm_Registry_entryByte (d := 1) (Nat.le_refl _) a0 a5 (0 : Int32) H) (by omega) (Nat.le_of_ble_eq_true rfl) (Nat.le_of_ble_eq_true rfl) rfl rfl (Nat.le_of_ble_eq_true rfl) fun y21 => ?_
      refine zs_iload_n (pc := 24) (x := a1) d_Registry_schemaOf_24 rfl ?_
      refine zs_icmp_ne (pc := 25) (tgt := 45) d_Registry_schemaOf_25 rfl (fun q25 => ?_) (fun q25 => ?_)
      · refine zs_iinc (pc := 45) (x := a5) (v := (a5 + (1 : Int32))) (lv' := [(5, zI (a5 + (1 : Int32))), (0, zR a0), (1, zI a1), (2, zI a2), (3, zI a3), (4, zI a4)]) d_Registry_schemaOf_45 rfl rfl (Nat.le_of_ble_eq_true rfl) rfl ?_
        refine zs_goto (pc := 48) (tgt := 11) d_Registry_schemaOf_48 rfl ?_
        refine zs_sub (lv' := [(0, zR a0), (1, zI a1), (2, zI a2), (3, zI a3), (4, zI a4), (5, zI (a5 + (1 : Int32)))]) [1, 2, 3, 4, 5, 0] rfl ?_
        exact ih a0 a1 a2 a3 a4 (a5 + (1 : Int32))
      · refine zs_iload (pc := 28) (x := a4) d_Registry_schemaOf_28 rfl ?_
        refine zs_iload_n (pc := 30) (x := a2) d_Registry_schemaOf_30 rfl ?_
        refine zs_icmp_ne (pc := 31) (tgt := 42) d_Registry_schemaOf_31 rfl (fun q31 => ?_) (fun q31 => ?_)
        · refine zs_iinc (pc := 42) (x := a4) (v := (a4 + (1 : Int32))) (lv' := [(4, zI (a4 + (1 : Int32))), (0, zR a0), (1, zI a1), (2, zI a2), (3, zI a3), (5, zI a5)]) d_Registry_schemaOf_42 rfl rfl (Nat.le_of_ble_eq_true rfl) rfl ?_
          refine zs_iinc (pc := 45) (x := a5) (v := (a5 + (1 : Int32))) (lv' := [(5, zI (a5 + (1 : Int32))), (4, zI (a4 + (1 : Int32))), (0, zR a0), (1, zI a1), (2, zI a2), (3, zI a3)]) d_Registry_schemaOf_45 rfl rfl (Nat.le_of_ble_eq_true rfl) rfl ?_
          refine zs_goto (pc := 48) (tgt := 11) d_Registry_schemaOf_48 rfl ?_
          refine zs_sub (lv' := [(0, zR a0), (1, zI a1), (2, zI a2), (3, zI a3), (4, zI (a4 + (1 : Int32))), (5, zI (a5 + (1 : Int32)))]) [2, 3, 4, 5, 1, 0] rfl ?_
          exact ih a0 a1 a2 a3 (a4 + (1 : Int32)) (a5 + (1 : Int32))
        · refine zs_aload_n (pc := 34) (x := a0) d_Registry_schemaOf_34 rfl ?_
          refine zs_iload (pc := 35) (x := a5) d_Registry_schemaOf_35 rfl ?_
          refine zs_iconst (pc := 37) (v := (1 : Int32)) d_Registry_schemaOf_37 (by decide) ?_
          refine zs_callv_rI (pc := 38) (av := [zI a5, zI (1 : Int32)]) (st := []) (d' := 1) (C' := 0) (S' := 0) d_Registry_schemaOf_38 kV_Registry_30 z_okb (jm_Registry_entryByte (d := 1) (Nat.le_refl _) a0 a5 (1 : Int32) H) (by omega) (Nat.le_of_ble_eq_true rfl) (Nat.le_of_ble_eq_true rfl) rfl rfl (Nat.le_of_ble_eq_true rfl) fun y38 => ?_
          exact zs_iret (pc := 41) d_Registry_schemaOf_41 rfl (Nat.le_of_ble_eq_true rfl) (Nat.le_of_ble_eq_true rfl) rfl
theorem jm_Registry_schemaOf {E : zE} {d : Nat} (hd : 2 ≤ d) (fu : Nat) (a0 : Option Nat) (a1 : Int32) (a2 : Int32) (H : zH) : z_MS E jM_Registry_schemaOf d 0 0 (zrI H) [zR a0, zI a1, zI a2] H (jF_Registry_schemaOf fu a0 a1 a2 H) := by
  refine zs_of (lv0 := [(0, zR a0), (1, zI a1), (2, zI a2)]) pn_Registry (Nat.le_of_ble_eq_true rfl) rfl ?_
  unfold jF_Registry_schemaOf
  refine zs_bind fun _ _ => ?_
  refine zs_aload_n (pc := 0) (x := a0) d_Registry_schemaOf_0 rfl ?_
  refine zs_callv_rI (pc := 1) (av := []) (st := []) (d' := 1) (C' := 0) (S' := 0) d_Registry_schemaOf_1 kV_Registry_26 z_okb (jm_Registry_entries (d := 1) (Nat.le_refl _) a0 H) (by omega) (Nat.le_of_ble_eq_true rfl) (Nat.le_of_ble_eq_true rfl) rfl rfl (Nat.le_of_ble_eq_true rfl) fun y1 => ?_
  refine zs_istore_n (pc := 4) (lv' := [(3, zI y1), (0, zR a0), (1, zI a1), (2, zI a2)]) d_Registry_schemaOf_4 (Nat.le_of_ble_eq_true rfl) rfl ?_
  refine zs_iconst (pc := 5) (v := (0 : Int32)) d_Registry_schemaOf_5 (by decide) ?_
  refine zs_istore (pc := 6) (lv' := [(4, zI (0 : Int32)), (3, zI y1), (0, zR a0), (1, zI a1), (2, zI a2)]) d_Registry_schemaOf_6 (Nat.le_of_ble_eq_true rfl) rfl ?_
  refine zs_iconst (pc := 8) (v := (0 : Int32)) d_Registry_schemaOf_8 (by decide) ?_
  refine zs_istore (pc := 9) (lv' := [(5, zI (0 : Int32)), (4, zI (0 : Int32)), (3, zI y1), (0, zR a0), (1, zI a1), (2, zI a2)]) d_Registry_schemaOf_9 (Nat.le_of_ble_eq_true rfl) rfl ?_
  refine zs_sub (lv' := [(0, zR a0), (1, zI a1), (2, zI a2), (3, zI y1), (4, zI (0 : Int32)), (5, zI (0 : Int32))]) [3, 4, 5, 2, 1, 0] rfl ?_
  exact jl_Registry_schemaOf_11 hd fu H fu a0 a1 a2 y1 (0 : Int32) (0 : Int32)
def jL_ST_readsVersions_12 (fu : Nat) (H : zH) : Nat → Option Nat → Option Nat → Int32 → Int32 → Int32 → Option Int32
  | 0, _, _, _, _, _ => none
  | g + 1, a0, a1, a2, a3, a4 =>
    if a3 ≤ a4 then (
      some (1 : Int32))
    else (
      (zgR H a0 0 0).bind fun v19 =>
      (zgR H a0 0 2).bind fun v23 =>
      (jF_Registry_schemaOf fu v23 a2 a4 H).bind fun y29 =>
      (jF_Schemas_find v19 y29 H).bind fun y32 =>
      if y32 = none then (
        some (0 : Int32))
      else (
        (jF_Schema_reads fu 14 a1 y32 H).bind fun y45 =>
        if y45 = 0 then (
          some (0 : Int32))
        else (
          jL_ST_readsVersions_12 fu H g a0 a1 a2 a3 (a4 + (1 : Int32)))))
def jF_ST_readsVersions (fu : Nat) (a0 : Option Nat) (a1 : Option Nat) (a2 : Int32) (H : zH) : Option Int32 :=
  (zok H a0 0).bind fun _ =>
  (zgR H a0 0 2).bind fun v1 =>
  (jF_Registry_countOf fu v1 a2 H).bind fun y5 =>
  jL_ST_readsVersions_12 fu H fu a0 a1 a2 y5 (0 : Int32)
theorem jl_ST_readsVersions_12 {E : zE} {d : Nat} (hd : 127 ≤ d) (fu : Nat) (H : zH) : ∀ (g : Nat), ∀ (a0 : Option Nat) (a1 : Option Nat) (a2 : Int32) (a3 : Int32) (a4 : Int32), z_S E jM_ST_readsVersions d 0 0 (zrI H) 12 [(0, zR a0), (1, zR a1), (2, zI a2), (3, zI a3), (4, zI a4)] [] H 0 0 (jL_ST_readsVersions_12 fu H g a0 a1 a2 a3 a4) := by
  intro g
  induction g with
  | zero => intros; exact zs_none
  | succ g ih =>
    intro a0 a1 a2 a3 a4
    rw [jL_ST_readsVersions_12]
    refine zs_iload (pc := 12) (x := a4) d_ST_readsVersions_12 rfl ?_
    refine zs_iload_n (pc := 14) (x := a3) d_ST_readsVersions_14 rfl ?_
    refine zs_icmp_ge (pc := 15) (tgt := 59) d_ST_readsVersions_15 rfl (fun q15 => ?_) (fun q15 => ?_)
    · refine zs_iconst (pc := 59) (v := (1 : Int32)) d_ST_readsVersions_59 (by decide) ?_
      exact zs_zretc (pc := 60) d_ST_readsVersions_60 rfl (by decide) (Nat.le_of_ble_eq_true rfl) (Nat.le_of_ble_eq_true rfl) rfl
    · refine zs_aload_n (pc := 18) (x := a0) d_ST_readsVersions_18 rfl ?_
      refine zs_getR (pc := 19) d_ST_readsVersions_19 kF_ST_13 fun v19 => ?_
      refine zs_aload_n (pc := 22) (x := a0) d_ST_readsVersions_22 rfl ?_
      refine zs_getR (pc := 23) d_ST_readsVersions_23 kF_ST_28 fun v23 => ?_
      refine zs_iload_n (pc := 26) (x := a2) d_ST_readsVersions_26 rfl ?_
      refine zs_iload (pc := 27) (x := a4) d_ST_readsVersions_27 rfl ?_
      refine zs_callv_rI (pc := 29) (av := [zI a2, zI a4]) (st := [zR v19]) (d' := 2) (C' := 0) (S' := 0) d_ST_readsVersions_29 kV_ST_110 z_okb (jm_Registry_schemaOf (d := 2) (Nat.le_refl _) fu v23 a2 a4 H) (by omega) (Nat.le_of_ble_eq_true rfl) (Nat.le_of_ble_eq_true rfl) rfl rfl (Nat.le_of_ble_eq_true rfl) fun y29 => ?_
      refine zs_callv_rR (pc := 32) (av := [zI y29]) (st := []) (d' := 0) (C' := 0) (S' := 0) d_ST_readsVersions_32 kV_ST_61 z_okb (jm_Schemas_find (d := 0) (Nat.le_refl _) v19 y29 H) (by omega) (Nat.le_of_ble_eq_true rfl) (Nat.le_of_ble_eq_true rfl) rfl rfl (Nat.le_of_ble_eq_true rfl) fun y32 => ?_
      refine zs_astore (pc := 35) (lv' := [(5, zR y32), (0, zR a0), (1, zR a1), (2, zI a2), (3, zI a3), (4, zI a4)]) d_ST_readsVersions_35 (Nat.le_of_ble_eq_true rfl) rfl ?_
      refine zs_aload (pc := 37) (x := y32) d_ST_readsVersions_37 rfl ?_
      refine zs_ifnull (pc := 39) (tgt := 51) d_ST_readsVersions_39 rfl (fun q39 => ?_) (fun q39 => ?_)
      · refine zs_iconst (pc := 51) (v := (0 : Int32)) d_ST_readsVersions_51 (by decide) ?_
        exact zs_zretc (pc := 52) d_ST_readsVersions_52 rfl (by decide) (Nat.le_of_ble_eq_true rfl) (Nat.le_of_ble_eq_true rfl) rfl
      · refine zs_aload_n (pc := 42) (x := a1) d_ST_readsVersions_42 rfl ?_
        refine zs_aload (pc := 43) (x := y32) d_ST_readsVersions_43 rfl ?_
        refine zs_calls_rI (pc := 45) (av := [zR a1, zR y32]) (st := []) (d' := 126) (C' := 0) (S' := 0) d_ST_readsVersions_45 kS_ST_73 (jm_Schema_reads fu 14 (d := 126) (by decide) a1 y32 H) (by omega) (Nat.le_of_ble_eq_true rfl) (Nat.le_of_ble_eq_true rfl) rfl rfl (Nat.le_of_ble_eq_true rfl) fun y45 => ?_
        refine zs_if_ne (pc := 48) (tgt := 53) d_ST_readsVersions_48 rfl (fun q48 => ?_) (fun q48 => ?_)
        · refine zs_iinc (pc := 53) (x := a4) (v := (a4 + (1 : Int32))) (lv' := [(4, zI (a4 + (1 : Int32))), (5, zR y32), (0, zR a0), (1, zR a1), (2, zI a2), (3, zI a3)]) d_ST_readsVersions_53 rfl rfl (Nat.le_of_ble_eq_true rfl) rfl ?_
          refine zs_goto (pc := 56) (tgt := 12) d_ST_readsVersions_56 rfl ?_
          refine zs_sub (lv' := [(0, zR a0), (1, zR a1), (2, zI a2), (3, zI a3), (4, zI (a4 + (1 : Int32)))]) [2, 3, 4, 5, 0] rfl ?_
          exact ih a0 a1 a2 a3 (a4 + (1 : Int32))
        · refine zs_iconst (pc := 51) (v := (0 : Int32)) d_ST_readsVersions_51 (by decide) ?_
          exact zs_zretc (pc := 52) d_ST_readsVersions_52 rfl (by decide) (Nat.le_of_ble_eq_true rfl) (Nat.le_of_ble_eq_true rfl) rfl
theorem jm_ST_readsVersions {E : zE} {d : Nat} (hd : 127 ≤ d) (fu : Nat) (a0 : Option Nat) (a1 : Option Nat) (a2 : Int32) (H : zH) : z_MS E jM_ST_readsVersions d 0 0 (zrI H) [zR a0, zR a1, zI a2] H (jF_ST_readsVersions fu a0 a1 a2 H) := by
  refine zs_of (lv0 := [(0, zR a0), (1, zR a1), (2, zI a2)]) pn_ST (Nat.le_of_ble_eq_true rfl) rfl ?_
  unfold jF_ST_readsVersions
  refine zs_bind fun _ _ => ?_
  refine zs_aload_n (pc := 0) (x := a0) d_ST_readsVersions_0 rfl ?_
  refine zs_getR (pc := 1) d_ST_readsVersions_1 kF_ST_28 fun v1 => ?_
  refine zs_iload_n (pc := 4) (x := a2) d_ST_readsVersions_4 rfl ?_
  refine zs_callv_rI (pc := 5) (av := [zI a2]) (st := []) (d' := 2) (C' := 0) (S' := 0) d_ST_readsVersions_5 kV_ST_99 z_okb (jm_Registry_countOf (d := 2) (Nat.le_refl _) fu v1 a2 H) (by omega) (Nat.le_of_ble_eq_true rfl) (Nat.le_of_ble_eq_true rfl) rfl rfl (Nat.le_of_ble_eq_true rfl) fun y5 => ?_
  refine zs_istore_n (pc := 8) (lv' := [(3, zI y5), (0, zR a0), (1, zR a1), (2, zI a2)]) d_ST_readsVersions_8 (Nat.le_of_ble_eq_true rfl) rfl ?_
  refine zs_iconst (pc := 9) (v := (0 : Int32)) d_ST_readsVersions_9 (by decide) ?_
  refine zs_istore (pc := 10) (lv' := [(4, zI (0 : Int32)), (3, zI y5), (0, zR a0), (1, zR a1), (2, zI a2)]) d_ST_readsVersions_10 (Nat.le_of_ble_eq_true rfl) rfl ?_
  refine zs_sub (lv' := [(0, zR a0), (1, zR a1), (2, zI a2), (3, zI y5), (4, zI (0 : Int32))]) [2, 3, 4, 1, 0] rfl ?_
  exact jl_ST_readsVersions_12 hd fu H fu a0 a1 a2 y5 (0 : Int32)
def jF_Bytes_append (a0 : Option Nat) (a1 : Int32) (H : zH) : Option zH :=
  (zok H a0 2).bind fun _ =>
  (zgI H a0 2 1).bind fun v1 =>
  (zgR H a0 2 0).bind fun v5 =>
  (zle H v5 0).bind fun v8 =>
  if v8 ≤ v1 then (
    some H)
  else (
    (zgR H a0 2 0).bind fun v13 =>
    (zgI H a0 2 1).bind fun v17 =>
    (zsI H v13 0 v17 a1).bind fun H21 =>
    (zgI H21 a0 2 1).bind fun v24 =>
    (zpV H21 a0 2 1 (zI (v24 + (1 : Int32)))).bind fun H29 =>
    some H29)
theorem jm_Bytes_append {E : zE} {d : Nat} (hd : 0 ≤ d) (a0 : Option Nat) (a1 : Int32) (H : zH) : z_MS E jM_Bytes_append d 0 0 zwV [zR a0, zI a1] H (jF_Bytes_append a0 a1 H) := by
  refine zs_of (lv0 := [(0, zR a0), (1, zI a1)]) pn_Bytes (Nat.le_of_ble_eq_true rfl) rfl ?_
  unfold jF_Bytes_append
  refine zs_bind fun _ _ => ?_
  refine zs_aload_n (pc := 0) (x := a0) d_Bytes_append_0 rfl ?_
  refine zs_getI (pc := 1) d_Bytes_append_1 kF_Bytes_13 fun v1 => ?_
  refine zs_aload_n (pc := 4) (x := a0) d_Bytes_append_4 rfl ?_
  refine zs_getR (pc := 5) d_Bytes_append_5 kF_Bytes_7 fun v5 => ?_
  refine zs_alen (t := 0) (pc := 8) d_Bytes_append_8 rfl fun v8 => ?_
  refine zs_icmp_ge (pc := 9) (tgt := 32) d_Bytes_append_9 rfl (fun q9 => ?_) (fun q9 => ?_)
  · exact zs_vret (pc := 32) d_Bytes_append_32 rfl (Nat.le_of_ble_eq_true rfl) (Nat.le_of_ble_eq_true rfl) rfl
  · refine zs_aload_n (pc := 12) (x := a0) d_Bytes_append_12 rfl ?_
    refine zs_getR (pc := 13) d_Bytes_append_13 kF_Bytes_7 fun v13 => ?_
    refine zs_aload_n (pc := 16) (x := a0) d_Bytes_append_16 rfl ?_
    refine zs_getI (pc := 17) d_Bytes_append_17 kF_Bytes_13 fun v17 => ?_
    refine zs_iload_n (pc := 20) (x := a1) d_Bytes_append_20 rfl ?_
    refine zs_iast (t := 0) (pc := 21) d_Bytes_append_21 rfl fun H21 => ?_
    refine zs_aload_n (pc := 22) (x := a0) d_Bytes_append_22 rfl ?_
    refine zs_dup (pc := 23) d_Bytes_append_23 rfl ?_
    refine zs_getI (pc := 24) d_Bytes_append_24 kF_Bytes_13 fun v24 => ?_
    refine zs_iconst (pc := 27) (v := (1 : Int32)) d_Bytes_append_27 (by decide) ?_
    refine zs_iadd (pc := 28) d_Bytes_append_28 ?_
    refine zs_put (pc := 29) d_Bytes_append_29 kP_Bytes_13 z_fitI fun H29 => ?_
    exact zs_vret (pc := 32) d_Bytes_append_32 rfl (Nat.le_of_ble_eq_true rfl) (Nat.le_of_ble_eq_true rfl) rfl
def jF_Bytes_at (a0 : Option Nat) (a1 : Int32) (H : zH) : Option Int32 :=
  (zok H a0 2).bind fun _ =>
  if a1 < 0 then (
    some (0 : Int32))
  else (
    (zgI H a0 2 1).bind fun v6 =>
    if v6 ≤ a1 then (
      some (0 : Int32))
    else (
      (zgR H a0 2 0).bind fun v13 =>
      (zaI H v13 0 a1).bind fun v17 =>
      some v17))
theorem jm_Bytes_at {E : zE} {d : Nat} (hd : 0 ≤ d) (a0 : Option Nat) (a1 : Int32) (H : zH) : z_MS E jM_Bytes_at d 0 0 (zrI H) [zR a0, zI a1] H (jF_Bytes_at a0 a1 H) := by
  refine zs_of (lv0 := [(0, zR a0), (1, zI a1)]) pn_Bytes (Nat.le_of_ble_eq_true rfl) rfl ?_
  unfold jF_Bytes_at
  refine zs_bind fun _ _ => ?_
  refine zs_iload_n (pc := 0) (x := a1) d_Bytes_at_0 rfl ?_
  refine zs_if_lt (pc := 1) (tgt := 21) d_Bytes_at_1 rfl (fun q1 => ?_) (fun q1 => ?_)
  · refine zs_iconst (pc := 21) (v := (0 : Int32)) d_Bytes_at_21 (by decide) ?_
    exact zs_iret (pc := 22) d_Bytes_at_22 rfl (Nat.le_of_ble_eq_true rfl) (Nat.le_of_ble_eq_true rfl) rfl
  · refine zs_iload_n (pc := 4) (x := a1) d_Bytes_at_4 rfl ?_
    refine zs_aload_n (pc := 5) (x := a0) d_Bytes_at_5 rfl ?_
    refine zs_getI (pc := 6) d_Bytes_at_6 kF_Bytes_13 fun v6 => ?_
    refine zs_icmp_ge (pc := 9) (tgt := 21) d_Bytes_at_9 rfl (fun q9 => ?_) (fun q9 => ?_)
    · refine zs_iconst (pc := 21) (v := (0 : Int32)) d_Bytes_at_21 (by decide) ?_
      exact zs_iret (pc := 22) d_Bytes_at_22 rfl (Nat.le_of_ble_eq_true rfl) (Nat.le_of_ble_eq_true rfl) rfl
    · refine zs_aload_n (pc := 12) (x := a0) d_Bytes_at_12 rfl ?_
      refine zs_getR (pc := 13) d_Bytes_at_13 kF_Bytes_7 fun v13 => ?_
      refine zs_iload_n (pc := 16) (x := a1) d_Bytes_at_16 rfl ?_
      refine zs_iald (t := 0) (pc := 17) d_Bytes_at_17 rfl fun v17 => ?_
      refine zs_goto (pc := 18) (tgt := 22) d_Bytes_at_18 rfl ?_
      exact zs_iret (pc := 22) d_Bytes_at_22 rfl (Nat.le_of_ble_eq_true rfl) (Nat.le_of_ble_eq_true rfl) rfl
def jF_Disk_set (a0 : Option Nat) (a1 : Int32) (a2 : Int32) (H : zH) : Option zH :=
  (zok H a0 3).bind fun _ =>
  if a1 < 0 then (
    some H)
  else (
    (zgR H a0 3 0).bind fun v6 =>
    (zle H v6 0).bind fun v9 =>
    if v9 ≤ a1 then (
      some H)
    else (
      (zgR H a0 3 0).bind fun v14 =>
      (zsI H v14 0 a1 a2).bind fun H19 =>
      some H19))
theorem jm_Disk_set {E : zE} {d : Nat} (hd : 0 ≤ d) (a0 : Option Nat) (a1 : Int32) (a2 : Int32) (H : zH) : z_MS E jM_Disk_set d 0 0 zwV [zR a0, zI a1, zI a2] H (jF_Disk_set a0 a1 a2 H) := by
  refine zs_of (lv0 := [(0, zR a0), (1, zI a1), (2, zI a2)]) pn_Disk (Nat.le_of_ble_eq_true rfl) rfl ?_
  unfold jF_Disk_set
  refine zs_bind fun _ _ => ?_
  refine zs_iload_n (pc := 0) (x := a1) d_Disk_set_0 rfl ?_
  refine zs_if_lt (pc := 1) (tgt := 20) d_Disk_set_1 rfl (fun q1 => ?_) (fun q1 => ?_)
  · exact zs_vret (pc := 20) d_Disk_set_20 rfl (Nat.le_of_ble_eq_true rfl) (Nat.le_of_ble_eq_true rfl) rfl
  · refine zs_iload_n (pc := 4) (x := a1) d_Disk_set_4 rfl ?_
    refine zs_aload_n (pc := 5) (x := a0) d_Disk_set_5 rfl ?_
    refine zs_getR (pc := 6) d_Disk_set_6 kF_Disk_9 fun v6 => ?_
    refine zs_alen (t := 0) (pc := 9) d_Disk_set_9 rfl fun v9 => ?_
    refine zs_icmp_ge (pc := 10) (tgt := 20) d_Disk_set_10 rfl (fun q10 => ?_) (fun q10 => ?_)
    · exact zs_vret (pc := 20) d_Disk_set_20 rfl (Nat.le_of_ble_eq_true rfl) (Nat.le_of_ble_eq_true rfl) rfl
    · refine zs_aload_n (pc := 13) (x := a0) d_Disk_set_13 rfl ?_
      refine zs_getR (pc := 14) d_Disk_set_14 kF_Disk_9 fun v14 => ?_
      refine zs_iload_n (pc := 17) (x := a1) d_Disk_set_17 rfl ?_
      refine zs_iload_n (pc := 18) (x := a2) d_Disk_set_18 rfl ?_
      refine zs_iast (t := 0) (pc := 19) d_Disk_set_19 rfl fun H19 => ?_
      exact zs_vret (pc := 20) d_Disk_set_20 rfl (Nat.le_of_ble_eq_true rfl) (Nat.le_of_ble_eq_true rfl) rfl
def jJ_Disk_put_72 (fu : Nat) (a0 : Option Nat) (H : zH) : Option (Int32 × zH) :=
  (zgI H a0 3 3).bind fun v74 =>
  (zpV H a0 3 3 (zI (v74 + (1 : Int32)))).bind fun H79 =>
  some ((1 : Int32), H79)
def jL_Disk_put_22 (fu : Nat) : Nat → Option Nat → Int32 → Option Nat → Int32 → Int32 → zH → Option (Int32 × zH)
  | 0, _, _, _, _, _, _ => none
  | g + 1, a0, a1, a2, a3, a4, H =>
    if (32 : Int32) ≤ a4 then (
      (zgI H a0 3 2).bind fun v55 =>
      if v55 = (-1 : Int32) then (
        jJ_Disk_put_72 fu a0 H)
      else (
        (zgI H a0 3 2).bind fun v64 =>
        (zpV H a0 3 2 (zI (v64 - (1 : Int32)))).bind fun H69 =>
        jJ_Disk_put_72 fu a0 H69))
    else (
      (jF_Disk_startOf a1 H).bind fun y31 =>
      (jF_Bytes_at a2 (a3 + a4) H).bind fun y42 =>
      (jF_Disk_set a0 (y31 + a4) y42 H).bind fun y45 =>
      jL_Disk_put_22 fu g a0 a1 a2 a3 (a4 + (1 : Int32)) y45)
def jF_Disk_put (fu : Nat) (a0 : Option Nat) (a1 : Int32) (a2 : Option Nat) (a3 : Int32) (H : zH) : Option (Int32 × zH) :=
  (zok H a0 3).bind fun _ =>
  (zgI H a0 3 2).bind fun v1 =>
  if v1 = 0 then (
    (zpZ H a0 3 1 (0 : Int32)).bind fun H9 =>
    (zpV H9 a0 3 2 (zI (-1 : Int32))).bind fun H14 =>
    some ((0 : Int32), H14))
  else (
    jL_Disk_put_22 fu fu a0 a1 a2 a3 (0 : Int32) H)
theorem jj_Disk_put_72 {E : zE} {d : Nat} (hd : 1 ≤ d) (fu : Nat) : ∀ (a0 : Option Nat) (H : zH), z_S E jM_Disk_put d 0 0 zwI 72 [(0, zR a0)] [] H 0 0 (jJ_Disk_put_72 fu a0 H) := by
  intro a0 H
  unfold jJ_Disk_put_72
  refine zs_aload_n (pc := 72) (x := a0) d_Disk_put_72 rfl ?_
  refine zs_dup (pc := 73) d_Disk_put_73 rfl ?_
  refine zs_getI (pc := 74) d_Disk_put_74 kF_Disk_21 fun v74 => ?_
  refine zs_iconst (pc := 77) (v := (1 : Int32)) d_Disk_put_77 (by decide) ?_
  refine zs_iadd (pc := 78) d_Disk_put_78 ?_
  refine zs_put (pc := 79) d_Disk_put_79 kP_Disk_21 z_fitI fun H79 => ?_
  refine zs_iconst (pc := 82) (v := (1 : Int32)) d_Disk_put_82 (by decide) ?_
  exact zs_zretc (pc := 83) d_Disk_put_83 rfl (by decide) (Nat.le_of_ble_eq_true rfl) (Nat.le_of_ble_eq_true rfl) rfl
theorem jl_Disk_put_22 {E : zE} {d : Nat} (hd : 1 ≤ d) (fu : Nat) : ∀ (g : Nat), ∀ (a0 : Option Nat) (a1 : Int32) (a2 : Option Nat) (a3 : Int32) (a4 : Int32) (H : zH), z_S E jM_Disk_put d 0 0 zwI 22 [(0, zR a0), (1, zI a1), (2, zR a2), (3, zI a3), (4, zI a4)] [] H 0 0 (jL_Disk_put_22 fu g a0 a1 a2 a3 a4 H) := by
  intro g
  induction g with
  | zero => intros; exact zs_none
  | succ g ih =>
    intro a0 a1 a2 a3 a4 H
    rw [jL_Disk_put_22]
    refine zs_iload (pc := 22) (x := a4) d_Disk_put_22 rfl ?_
    refine zs_bipush (pc := 24) (v := (32 : Int32)) d_Disk_put_24 (by decide) ?_
    refine zs_icmp_ge (pc := 26) (tgt := 54) d_Disk_put_26 rfl (fun q26 => ?_) (fun q26 => ?_)
    · refine zs_aload_n (pc := 54) (x := a0) d_Disk_put_54 rfl ?_
      refine zs_getI (pc := 55) d_Disk_put_55 kF_Disk_17 fun v55 => ?_
      refine zs_iconst (pc := 58) (v := (-1 : Int32)) d_Disk_put_58 (by decide) ?_
      refine zs_icmp_eq (pc := 59) (tgt := 72) d_Disk_put_59 rfl (fun q59 => ?_) (fun q59 => ?_)
      · refine zs_sub (lv' := [(0, zR a0)]) [0] rfl ?_
        exact jj_Disk_put_72 hd fu a0 H
      · refine zs_aload_n (pc := 62) (x := a0) d_Disk_put_62 rfl ?_
        refine zs_dup (pc := 63) d_Disk_put_63 rfl ?_
        refine zs_getI (pc := 64) d_Disk_put_64 kF_Disk_17 fun v64 => ?_
        refine zs_iconst (pc := 67) (v := (1 : Int32)) d_Disk_put_67 (by decide) ?_
        refine zs_isub (pc := 68) d_Disk_put_68 ?_
        refine zs_put (pc := 69) d_Disk_put_69 kP_Disk_17 z_fitI fun H69 => ?_
        refine zs_sub (lv' := [(0, zR a0)]) [0] rfl ?_
        exact jj_Disk_put_72 hd fu a0 H69
    · refine zs_aload_n (pc := 29) (x := a0) d_Disk_put_29 rfl ?_
      refine zs_iload_n (pc := 30) (x := a1) d_Disk_put_30 rfl ?_
      refine zs_calls_rI (pc := 31) (av := [zI a1]) (st := [zR a0]) (d' := 0) (C' := 0) (S' := 0) d_Disk_put_31 kS_Disk_24 (jm_Disk_startOf (d := 0) (Nat.le_refl _) a1 H) (by omega) (Nat.le_of_ble_eq_true rfl) (Nat.le_of_ble_eq_true rfl) rfl rfl (Nat.le_of_ble_eq_true rfl) fun y31 => ?_
      refine zs_iload (pc := 34) (x := a4) d_Disk_put_34 rfl ?_
      refine zs_iadd (pc := 36) d_Disk_put_36 ?_
      refine zs_aload_n (pc := 37) (x := a2) d_Disk_put_37 rfl ?_
      refine zs_iload_n (pc := 38) (x := a3) d_Disk_put_38 rfl ?_
      refine zs_iload (pc := 39) (x := a4) d_Disk_put_39 rfl ?_
      refine zs_iadd (pc := 41) d_Disk_put_41 ?_
      refine zs_callv_rI (pc := 42) (av := [zI (a3 + a4)]) (st := [zI (y31 + a4), zR a0]) (d' := 0) (C' := 0) (S' := 0) d_Disk_put_42 kV_Disk_28 z_okb (jm_Bytes_at (d := 0) (Nat.le_refl _) a2 (a3 + a4) H) (by omega) (Nat.le_of_ble_eq_true rfl) (Nat.le_of_ble_eq_true rfl) rfl rfl (Nat.le_of_ble_eq_true rfl) fun y42 => ?_
      refine zs_callv_wV (pc := 45) (av := [zI (y31 + a4), zI y42]) (st := []) (d' := 0) (C' := 0) (S' := 0) d_Disk_put_45 kV_Disk_33 z_okb (jm_Disk_set (d := 0) (Nat.le_refl _) a0 (y31 + a4) y42 H) (by omega) (Nat.le_of_ble_eq_true rfl) (Nat.le_of_ble_eq_true rfl) rfl rfl (Nat.le_of_ble_eq_true rfl) fun y45 => ?_
      refine zs_iinc (pc := 48) (x := a4) (v := (a4 + (1 : Int32))) (lv' := [(4, zI (a4 + (1 : Int32))), (0, zR a0), (1, zI a1), (2, zR a2), (3, zI a3)]) d_Disk_put_48 rfl rfl (Nat.le_of_ble_eq_true rfl) rfl ?_
      refine zs_goto (pc := 51) (tgt := 22) d_Disk_put_51 rfl ?_
      refine zs_sub (lv' := [(0, zR a0), (1, zI a1), (2, zR a2), (3, zI a3), (4, zI (a4 + (1 : Int32)))]) [1, 2, 3, 4, 0] rfl ?_
      exact ih a0 a1 a2 a3 (a4 + (1 : Int32)) y45
theorem jm_Disk_put {E : zE} {d : Nat} (hd : 1 ≤ d) (fu : Nat) (a0 : Option Nat) (a1 : Int32) (a2 : Option Nat) (a3 : Int32) (H : zH) : z_MS E jM_Disk_put d 0 0 zwI [zR a0, zI a1, zR a2, zI a3] H (jF_Disk_put fu a0 a1 a2 a3 H) := by
  refine zs_of (lv0 := [(0, zR a0), (1, zI a1), (2, zR a2), (3, zI a3)]) pn_Disk (Nat.le_of_ble_eq_true rfl) rfl ?_
  unfold jF_Disk_put
  refine zs_bind fun _ _ => ?_
  refine zs_aload_n (pc := 0) (x := a0) d_Disk_put_0 rfl ?_
  refine zs_getI (pc := 1) d_Disk_put_1 kF_Disk_17 fun v1 => ?_
  refine zs_if_ne (pc := 4) (tgt := 19) d_Disk_put_4 rfl (fun q4 => ?_) (fun q4 => ?_)
  · refine zs_iconst (pc := 19) (v := (0 : Int32)) d_Disk_put_19 (by decide) ?_
    refine zs_istore (pc := 20) (lv' := [(4, zI (0 : Int32)), (0, zR a0), (1, zI a1), (2, zR a2), (3, zI a3)]) d_Disk_put_20 (Nat.le_of_ble_eq_true rfl) rfl ?_
    refine zs_sub (lv' := [(0, zR a0), (1, zI a1), (2, zR a2), (3, zI a3), (4, zI (0 : Int32))]) [1, 2, 3, 4, 0] rfl ?_
    exact jl_Disk_put_22 hd fu fu a0 a1 a2 a3 (0 : Int32) H
  · refine zs_aload_n (pc := 7) (x := a0) d_Disk_put_7 rfl ?_
    refine zs_iconst (pc := 8) (v := (0 : Int32)) d_Disk_put_8 (by decide) ?_
    refine zs_putZ (pc := 9) d_Disk_put_9 kP_Disk_13 fun H9 => ?_
    refine zs_aload_n (pc := 12) (x := a0) d_Disk_put_12 rfl ?_
    refine zs_iconst (pc := 13) (v := (-1 : Int32)) d_Disk_put_13 (by decide) ?_
    refine zs_put (pc := 14) d_Disk_put_14 kP_Disk_17 z_fitI fun H14 => ?_
    refine zs_iconst (pc := 17) (v := (0 : Int32)) d_Disk_put_17 (by decide) ?_
    exact zs_zretc (pc := 18) d_Disk_put_18 rfl (by decide) (Nat.le_of_ble_eq_true rfl) (Nat.le_of_ble_eq_true rfl) rfl
def jL_Registry_append_26 (fu : Nat) : Nat → Option Nat → Int32 → Int32 → Int32 → Int32 → zH → Option (Int32 × zH)
  | 0, _, _, _, _, _, _ => none
  | g + 1, a0, a1, a2, a3, a4, H =>
    if a3 ≤ a4 then (
      (zgR H a0 6 1).bind fun v67 =>
      (jF_Bytes_append v67 a1 H).bind fun y71 =>
      (zgR y71 a0 6 1).bind fun v75 =>
      (jF_Bytes_append v75 a2 y71).bind fun y79 =>
      (zgR y79 a0 6 0).bind fun v83 =>
      (zgR y79 a0 6 1).bind fun v88 =>
      (jF_Disk_put fu v83 (1 : Int32) v88 (0 : Int32) y79).bind fun y92 =>
      (zbo y92.1).bind fun x => some (x, y92.2))
    else (
      (zgR H a0 6 1).bind fun v33 =>
      (jF_Registry_entryByte a0 a4 (0 : Int32) H).bind fun y40 =>
      (jF_Bytes_append v33 y40 H).bind fun y43 =>
      (zgR y43 a0 6 1).bind fun v47 =>
      (jF_Registry_entryByte a0 a4 (1 : Int32) y43).bind fun y54 =>
      (jF_Bytes_append v47 y54 y43).bind fun y57 =>
      jL_Registry_append_26 fu g a0 a1 a2 a3 (a4 + (1 : Int32)) y57)
def jF_Registry_append (fu : Nat) (a0 : Option Nat) (a1 : Int32) (a2 : Int32) (H : zH) : Option (Int32 × zH) :=
  (zok H a0 6).bind fun _ =>
  (jF_Registry_entries a0 H).bind fun y1 =>
  (zgR H a0 6 1).bind fun v6 =>
  (jF_Bytes_cutTo v6 (0 : Int32) H).bind fun y10 =>
  (zgR y10 a0 6 1).bind fun v14 =>
  (jF_Bytes_append v14 (y1 + (1 : Int32)) y10).bind fun y20 =>
  jL_Registry_append_26 fu fu a0 a1 a2 y1 (0 : Int32) y20
theorem jl_Registry_append_26 {E : zE} {d : Nat} (hd : 2 ≤ d) (fu : Nat) : ∀ (g : Nat), ∀ (a0 : Option Nat) (a1 : Int32) (a2 : Int32) (a3 : Int32) (a4 : Int32) (H : zH), z_S E jM_Registry_append d 0 0 zwI 26 [(0, zR a0), (1, zI a1), (2, zI a2), (3, zI a3), (4, zI a4)] [] H 0 0 (jL_Registry_append_26 fu g a0 a1 a2 a3 a4 H) := by
  intro g
  induction g with
  | zero => intros; exact zs_none
  | succ g ih =>
    intro a0 a1 a2 a3 a4 H
    rw [jL_Registry_append_26]
    refine zs_iload (pc := 26) (x := a4) d_Registry_append_26 rfl ?_
    refine zs_iload_n (pc := 28) (x := a3) d_Registry_append_28 rfl ?_
    refine zs_icmp_ge (pc := 29) (tgt := 66) d_Registry_append_29 rfl (fun q29 => ?_) (fun q29 => ?_)
    · refine zs_aload_n (pc := 66) (x := a0) d_Registry_append_66 rfl ?_
      refine zs_getR (pc := 67) d_Registry_append_67 kF_Registry_22 fun v67 => ?_
      refine zs_iload_n (pc := 70) (x := a1) d_Registry_append_70 rfl ?_
      refine zs_callv_wV (pc := 71) (av := [zI a1]) (st := []) (d' := 0) (C' := 0) (S' := 0) d_Registry_append_71 kV_Registry_37 z_okb (jm_Bytes_append (d := 0) (Nat.le_refl _) v67 a1 H) (by omega) (Nat.le_of_ble_eq_true rfl) (Nat.le_of_ble_eq_true rfl) rfl rfl (Nat.le_of_ble_eq_true rfl) fun y71 => ?_
      refine zs_aload_n (pc := 74) (x := a0) d_Registry_append_74 rfl ?_
      refine zs_getR (pc := 75) d_Registry_append_75 kF_Registry_22 fun v75 => ?_
      refine zs_iload_n (pc := 78) (x := a2) d_Registry_append_78 rfl ?_
      refine zs_callv_wV (pc := 79) (av := [zI a2]) (st := []) (d' := 0) (C' := 0) (S' := 0) d_Registry_append_79 kV_Registry_37 z_okb (jm_Bytes_append (d := 0) (Nat.le_refl _) v75 a2 y71) (by omega) (Nat.le_of_ble_eq_true rfl) (Nat.le_of_ble_eq_true rfl) rfl rfl (Nat.le_of_ble_eq_true rfl) fun y79 => ?_
      refine zs_aload_n (pc := 82) (x := a0) d_Registry_append_82 rfl ?_
      refine zs_getR (pc := 83) d_Registry_append_83 kF_Registry_9 fun v83 => ?_
      refine zs_iconst (pc := 86) (v := (1 : Int32)) d_Registry_append_86 (by decide) ?_
      refine zs_aload_n (pc := 87) (x := a0) d_Registry_append_87 rfl ?_
      refine zs_getR (pc := 88) d_Registry_append_88 kF_Registry_22 fun v88 => ?_
      refine zs_iconst (pc := 91) (v := (0 : Int32)) d_Registry_append_91 (by decide) ?_
      refine zs_callv_wI (pc := 92) (av := [zI (1 : Int32), zR v88, zI (0 : Int32)]) (st := []) (d' := 1) (C' := 0) (S' := 0) d_Registry_append_92 kV_Registry_40 z_okb (jm_Disk_put (d := 1) (Nat.le_refl _) fu v83 (1 : Int32) v88 (0 : Int32) y79) (by omega) (Nat.le_of_ble_eq_true rfl) (Nat.le_of_ble_eq_true rfl) rfl rfl (Nat.le_of_ble_eq_true rfl) fun y92 => ?_
      exact zs_zret (g := fun x => (x, y92.2)) (pc := 95) d_Registry_append_95 rfl (Nat.le_of_ble_eq_true rfl) (Nat.le_of_ble_eq_true rfl) rfl
    · refine zs_aload_n (pc := 32) (x := a0) d_Registry_append_32 rfl ?_
      refine zs_getR (pc := 33) d_Registry_append_33 kF_Registry_22 fun v33 => ?_
      refine zs_aload_n (pc := 36) (x := a0) d_Registry_append_36 rfl ?_
      refine zs_iload (pc := 37) (x := a4) d_Registry_append_37 rfl ?_
      refine zs_iconst (pc := 39) (v := (0 : Int32)) d_Registry_append_39 (by decide) ?_
      refine zs_callv_rI (pc := 40) (av := [zI a4, zI (0 : Int32)]) (st := [zR v33]) (d' := 1) (C' := 0) (S' := 0) d_Registry_append_40 kV_Registry_30 z_okb (jm_Registry_entryByte (d := 1) (Nat.le_refl _) a0 a4 (0 : Int32) H) (by omega) (Nat.le_of_ble_eq_true rfl) (Nat.le_of_ble_eq_true rfl) rfl rfl (Nat.le_of_ble_eq_true rfl) fun y40 => ?_
      refine zs_callv_wV (pc := 43) (av := [zI y40]) (st := []) (d' := 0) (C' := 0) (S' := 0) d_Registry_append_43 kV_Registry_37 z_okb (jm_Bytes_append (d := 0) (Nat.le_refl _) v33 y40 H) (by omega) (Nat.le_of_ble_eq_true rfl) (Nat.le_of_ble_eq_true rfl) rfl rfl (Nat.le_of_ble_eq_true rfl) fun y43 => ?_
      refine zs_aload_n (pc := 46) (x := a0) d_Registry_append_46 rfl ?_
      refine zs_getR (pc := 47) d_Registry_append_47 kF_Registry_22 fun v47 => ?_
      refine zs_aload_n (pc := 50) (x := a0) d_Registry_append_50 rfl ?_
      refine zs_iload (pc := 51) (x := a4) d_Registry_append_51 rfl ?_
      refine zs_iconst (pc := 53) (v := (1 : Int32)) d_Registry_append_53 (by decide) ?_
      refine zs_callv_rI (pc := 54) (av := [zI a4, zI (1 : Int32)]) (st := [zR v47]) (d' := 1) (C' := 0) (S' := 0) d_Registry_append_54 kV_Registry_30 z_okb (jm_Registry_entryByte (d := 1) (Nat.le_refl _) a0 a4 (1 : Int32) y43) (by omega) (Nat.le_of_ble_eq_true rfl) (Nat.le_of_ble_eq_true rfl) rfl rfl (Nat.le_of_ble_eq_true rfl) fun y54 => ?_
      refine zs_callv_wV (pc := 57) (av := [zI y54]) (st := []) (d' := 0) (C' := 0) (S' := 0) d_Registry_append_57 kV_Registry_37 z_okb (jm_Bytes_append (d := 0) (Nat.le_refl _) v47 y54 y43) (by omega) (Nat.le_of_ble_eq_true rfl) (Nat.le_of_ble_eq_true rfl) rfl rfl (Nat.le_of_ble_eq_true rfl) fun y57 => ?_
      refine zs_iinc (pc := 60) (x := a4) (v := (a4 + (1 : Int32))) (lv' := [(4, zI (a4 + (1 : Int32))), (0, zR a0), (1, zI a1), (2, zI a2), (3, zI a3)]) d_Registry_append_60 rfl rfl (Nat.le_of_ble_eq_true rfl) rfl ?_
      refine zs_goto (pc := 63) (tgt := 26) d_Registry_append_63 rfl ?_
      refine zs_sub (lv' := [(0, zR a0), (1, zI a1), (2, zI a2), (3, zI a3), (4, zI (a4 + (1 : Int32)))]) [1, 2, 3, 4, 0] rfl ?_
      exact ih a0 a1 a2 a3 (a4 + (1 : Int32)) y57
theorem jm_Registry_append {E : zE} {d : Nat} (hd : 2 ≤ d) (fu : Nat) (a0 : Option Nat) (a1 : Int32) (a2 : Int32) (H : zH) : z_MS E jM_Registry_append d 0 0 zwI [zR a0, zI a1, zI a2] H (jF_Registry_append fu a0 a1 a2 H) := by
  refine zs_of (lv0 := [(0, zR a0), (1, zI a1), (2, zI a2)]) pn_Registry (Nat.le_of_ble_eq_true rfl) rfl ?_
  unfold jF_Registry_append
  refine zs_bind fun _ _ => ?_
  refine zs_aload_n (pc := 0) (x := a0) d_Registry_append_0 rfl ?_
  refine zs_callv_rI (pc := 1) (av := []) (st := []) (d' := 1) (C' := 0) (S' := 0) d_Registry_append_1 kV_Registry_26 z_okb (jm_Registry_entries (d := 1) (Nat.le_refl _) a0 H) (by omega) (Nat.le_of_ble_eq_true rfl) (Nat.le_of_ble_eq_true rfl) rfl rfl (Nat.le_of_ble_eq_true rfl) fun y1 => ?_
  refine zs_istore_n (pc := 4) (lv' := [(3, zI y1), (0, zR a0), (1, zI a1), (2, zI a2)]) d_Registry_append_4 (Nat.le_of_ble_eq_true rfl) rfl ?_
  refine zs_aload_n (pc := 5) (x := a0) d_Registry_append_5 rfl ?_
  refine zs_getR (pc := 6) d_Registry_append_6 kF_Registry_22 fun v6 => ?_
  refine zs_iconst (pc := 9) (v := (0 : Int32)) d_Registry_append_9 (by decide) ?_
  refine zs_callv_wV (pc := 10) (av := [zI (0 : Int32)]) (st := []) (d' := 0) (C' := 0) (S' := 0) d_Registry_append_10 kV_Registry_34 z_okb (jm_Bytes_cutTo (d := 0) (Nat.le_refl _) v6 (0 : Int32) H) (by omega) (Nat.le_of_ble_eq_true rfl) (Nat.le_of_ble_eq_true rfl) rfl rfl (Nat.le_of_ble_eq_true rfl) fun y10 => ?_
  refine zs_aload_n (pc := 13) (x := a0) d_Registry_append_13 rfl ?_
  refine zs_getR (pc := 14) d_Registry_append_14 kF_Registry_22 fun v14 => ?_
  refine zs_iload_n (pc := 17) (x := y1) d_Registry_append_17 rfl ?_
  refine zs_iconst (pc := 18) (v := (1 : Int32)) d_Registry_append_18 (by decide) ?_
  refine zs_iadd (pc := 19) d_Registry_append_19 ?_
  refine zs_callv_wV (pc := 20) (av := [zI (y1 + (1 : Int32))]) (st := []) (d' := 0) (C' := 0) (S' := 0) d_Registry_append_20 kV_Registry_37 z_okb (jm_Bytes_append (d := 0) (Nat.le_refl _) v14 (y1 + (1 : Int32)) y10) (by omega) (Nat.le_of_ble_eq_true rfl) (Nat.le_of_ble_eq_true rfl) rfl rfl (Nat.le_of_ble_eq_true rfl) fun y20 => ?_
  refine zs_iconst (pc := 23) (v := (0 : Int32)) d_Registry_append_23 (by decide) ?_
  refine zs_istore (pc := 24) (lv' := [(4, zI (0 : Int32)), (3, zI y1), (0, zR a0), (1, zI a1), (2, zI a2)]) d_Registry_append_24 (Nat.le_of_ble_eq_true rfl) rfl ?_
  refine zs_sub (lv' := [(0, zR a0), (1, zI a1), (2, zI a2), (3, zI y1), (4, zI (0 : Int32))]) [2, 3, 4, 1, 0] rfl ?_
  exact jl_Registry_append_26 hd fu fu a0 a1 a2 y1 (0 : Int32) y20
def jL_Registry_has_8 (fu : Nat) (H : zH) : Nat → Option Nat → Int32 → Int32 → Int32 → Int32 → Option Int32
  | 0, _, _, _, _, _ => none
  | g + 1, a0, a1, a2, a3, a4 =>
    if a3 ≤ a4 then (
      some (0 : Int32))
    else (
      (jF_Registry_entryByte a0 a4 (0 : Int32) H).bind fun y18 =>
      if y18 = a1 then (
        (jF_Registry_entryByte a0 a4 (1 : Int32) H).bind fun y29 =>
        if y29 = a2 then (
          some (1 : Int32))
        else (
          jL_Registry_has_8 fu H g a0 a1 a2 a3 (a4 + (1 : Int32))))
      else (
        jL_Registry_has_8 fu H g a0 a1 a2 a3 (a4 + (1 : Int32))))
def jF_Registry_has (fu : Nat) (a0 : Option Nat) (a1 : Int32) (a2 : Int32) (H : zH) : Option Int32 :=
  (zok H a0 6).bind fun _ =>
  (jF_Registry_entries a0 H).bind fun y1 =>
  jL_Registry_has_8 fu H fu a0 a1 a2 y1 (0 : Int32)
theorem jl_Registry_has_8 {E : zE} {d : Nat} (hd : 2 ≤ d) (fu : Nat) (H : zH) : ∀ (g : Nat), ∀ (a0 : Option Nat) (a1 : Int32) (a2 : Int32) (a3 : Int32) (a4 : Int32), z_S E jM_Registry_has d 0 0 (zrI H) 8 [(0, zR a0), (1, zI a1), (2, zI a2), (3, zI a3), (4, zI a4)] [] H 0 0 (jL_Registry_has_8 fu H g a0 a1 a2 a3 a4) := by
  intro g
  induction g with
  | zero => intros; exact zs_none
  | succ g ih =>
    intro a0 a1 a2 a3 a4
    rw [jL_Registry_has_8]
    refine zs_iload (pc := 8) (x := a4) d_Registry_has_8 rfl ?_
    refine zs_iload_n (pc := 10) (x := a3) d_Registry_has_10 rfl ?_
    refine zs_icmp_ge (pc := 11) (tgt := 44) d_Registry_has_11 rfl (fun q11 => ?_) (fun q11 => ?_)
    · refine zs_iconst (pc := 44) (v := (0 : Int32)) d_Registry_has_44 (by decide) ?_
      exact zs_zretc (pc := 45) d_Registry_has_45 rfl (by decide) (Nat.le_of_ble_eq_true rfl) (Nat.le_of_ble_eq_true rfl) rfl
    · refine zs_aload_n (pc := 14) (x := a0) d_Registry_has_14 rfl ?_
      refine zs_iload (pc := 15) (x := a4) d_Registry_has_15 rfl ?_
      refine zs_iconst (pc := 17) (v := (0 : Int32)) d_Registry_has_17 (by decide) ?_
      refine zs_callv_rI (pc := 18) (av := [zI a4, zI (0 : Int32)]) (st := []) (d' := 1) (C' := 0) (S' := 0) d_Registry_has_18 kV_Registry_30 z_okb (jm_Registry_entryByte (d := 1) (Nat.le_refl _) a0 a4 (0 : Int32) H) (by omega) (Nat.le_of_ble_eq_true rfl) (Nat.le_of_ble_eq_true rfl) rfl rfl (Nat.le_of_ble_eq_true rfl) fun y18 => ?_
      refine zs_iload_n (pc := 21) (x := a1) d_Registry_has_21 rfl ?_
      refine zs_icmp_ne (pc := 22) (tgt := 38) d_Registry_has_22 rfl (fun q22 => ?_) (fun q22 => ?_)
      · refine zs_iinc (pc := 38) (x := a4) (v := (a4 + (1 : Int32))) (lv' := [(4, zI (a4 + (1 : Int32))), (0, zR a0), (1, zI a1), (2, zI a2), (3, zI a3)]) d_Registry_has_38 rfl rfl (Nat.le_of_ble_eq_true rfl) rfl ?_
        refine zs_goto (pc := 41) (tgt := 8) d_Registry_has_41 rfl ?_
        refine zs_sub (lv' := [(0, zR a0), (1, zI a1), (2, zI a2), (3, zI a3), (4, zI (a4 + (1 : Int32)))]) [1, 2, 3, 4, 0] rfl ?_
        exact ih a0 a1 a2 a3 (a4 + (1 : Int32))
      · refine zs_aload_n (pc := 25) (x := a0) d_Registry_has_25 rfl ?_
        refine zs_iload (pc := 26) (x := a4) d_Registry_has_26 rfl ?_
        refine zs_iconst (pc := 28) (v := (1 : Int32)) d_Registry_has_28 (by decide) ?_
        refine zs_callv_rI (pc := 29) (av := [zI a4, zI (1 : Int32)]) (st := []) (d' := 1) (C' := 0) (S' := 0) d_Registry_has_29 kV_Registry_30 z_okb (jm_Registry_entryByte (d := 1) (Nat.le_refl _) a0 a4 (1 : Int32) H) (by omega) (Nat.le_of_ble_eq_true rfl) (Nat.le_of_ble_eq_true rfl) rfl rfl (Nat.le_of_ble_eq_true rfl) fun y29 => ?_
        refine zs_iload_n (pc := 32) (x := a2) d_Registry_has_32 rfl ?_
        refine zs_icmp_ne (pc := 33) (tgt := 38) d_Registry_has_33 rfl (fun q33 => ?_) (fun q33 => ?_)
        · refine zs_iinc (pc := 38) (x := a4) (v := (a4 + (1 : Int32))) (lv' := [(4, zI (a4 + (1 : Int32))), (0, zR a0), (1, zI a1), (2, zI a2), (3, zI a3)]) d_Registry_has_38 rfl rfl (Nat.le_of_ble_eq_true rfl) rfl ?_
          refine zs_goto (pc := 41) (tgt := 8) d_Registry_has_41 rfl ?_
          refine zs_sub (lv' := [(0, zR a0), (1, zI a1), (2, zI a2), (3, zI a3), (4, zI (a4 + (1 : Int32)))]) [1, 2, 3, 4, 0] rfl ?_
          exact ih a0 a1 a2 a3 (a4 + (1 : Int32))
        · refine zs_iconst (pc := 36) (v := (1 : Int32)) d_Registry_has_36 (by decide) ?_
          exact zs_zretc (pc := 37) d_Registry_has_37 rfl (by decide) (Nat.le_of_ble_eq_true rfl) (Nat.le_of_ble_eq_true rfl) rfl
theorem jm_Registry_has {E : zE} {d : Nat} (hd : 2 ≤ d) (fu : Nat) (a0 : Option Nat) (a1 : Int32) (a2 : Int32) (H : zH) : z_MS E jM_Registry_has d 0 0 (zrI H) [zR a0, zI a1, zI a2] H (jF_Registry_has fu a0 a1 a2 H) := by
  refine zs_of (lv0 := [(0, zR a0), (1, zI a1), (2, zI a2)]) pn_Registry (Nat.le_of_ble_eq_true rfl) rfl ?_
  unfold jF_Registry_has
  refine zs_bind fun _ _ => ?_
  refine zs_aload_n (pc := 0) (x := a0) d_Registry_has_0 rfl ?_
  refine zs_callv_rI (pc := 1) (av := []) (st := []) (d' := 1) (C' := 0) (S' := 0) d_Registry_has_1 kV_Registry_26 z_okb (jm_Registry_entries (d := 1) (Nat.le_refl _) a0 H) (by omega) (Nat.le_of_ble_eq_true rfl) (Nat.le_of_ble_eq_true rfl) rfl rfl (Nat.le_of_ble_eq_true rfl) fun y1 => ?_
  refine zs_istore_n (pc := 4) (lv' := [(3, zI y1), (0, zR a0), (1, zI a1), (2, zI a2)]) d_Registry_has_4 (Nat.le_of_ble_eq_true rfl) rfl ?_
  refine zs_iconst (pc := 5) (v := (0 : Int32)) d_Registry_has_5 (by decide) ?_
  refine zs_istore (pc := 6) (lv' := [(4, zI (0 : Int32)), (3, zI y1), (0, zR a0), (1, zI a1), (2, zI a2)]) d_Registry_has_6 (Nat.le_of_ble_eq_true rfl) rfl ?_
  refine zs_sub (lv' := [(0, zR a0), (1, zI a1), (2, zI a2), (3, zI y1), (4, zI (0 : Int32))]) [2, 3, 4, 1, 0] rfl ?_
  exact jl_Registry_has_8 hd fu H fu a0 a1 a2 y1 (0 : Int32)
def jF_Registry_isFull (a0 : Option Nat) (H : zH) : Option Int32 :=
  (zok H a0 6).bind fun _ =>
  (jF_Registry_entries a0 H).bind fun y1 =>
  if y1 < (10 : Int32) then (
    some (0 : Int32))
  else (
    some (1 : Int32))
theorem jm_Registry_isFull {E : zE} {d : Nat} (hd : 2 ≤ d) (a0 : Option Nat) (H : zH) : z_MS E jM_Registry_isFull d 0 0 (zrI H) [zR a0] H (jF_Registry_isFull a0 H) := by
  refine zs_of (lv0 := [(0, zR a0)]) pn_Registry (Nat.le_of_ble_eq_true rfl) rfl ?_
  unfold jF_Registry_isFull
  refine zs_bind fun _ _ => ?_
  refine zs_aload_n (pc := 0) (x := a0) d_Registry_isFull_0 rfl ?_
  refine zs_callv_rI (pc := 1) (av := []) (st := []) (d' := 1) (C' := 0) (S' := 0) d_Registry_isFull_1 kV_Registry_26 z_okb (jm_Registry_entries (d := 1) (Nat.le_refl _) a0 H) (by omega) (Nat.le_of_ble_eq_true rfl) (Nat.le_of_ble_eq_true rfl) rfl rfl (Nat.le_of_ble_eq_true rfl) fun y1 => ?_
  refine zs_bipush (pc := 4) (v := (10 : Int32)) d_Registry_isFull_4 (by decide) ?_
  refine zs_icmp_lt (pc := 6) (tgt := 13) d_Registry_isFull_6 rfl (fun q6 => ?_) (fun q6 => ?_)
  · refine zs_iconst (pc := 13) (v := (0 : Int32)) d_Registry_isFull_13 (by decide) ?_
    exact zs_zretc (pc := 14) d_Registry_isFull_14 rfl (by decide) (Nat.le_of_ble_eq_true rfl) (Nat.le_of_ble_eq_true rfl) rfl
  · refine zs_iconst (pc := 9) (v := (1 : Int32)) d_Registry_isFull_9 (by decide) ?_
    refine zs_goto (pc := 10) (tgt := 14) d_Registry_isFull_10 rfl ?_
    exact zs_zretc (pc := 14) d_Registry_isFull_14 rfl (by decide) (Nat.le_of_ble_eq_true rfl) (Nat.le_of_ble_eq_true rfl) rfl
def jF_ST_register (fu : Nat) (a0 : Option Nat) (a1 : Int32) (a2 : Int32) (H : zH) : Option (Int32 × zH) :=
  (zok H a0 0).bind fun _ =>
  (zgR H a0 0 1).bind fun v1 =>
  (zgI H v1 3 1).bind fun v4 =>
  if v4 = 0 then (
    some ((-4 : Int32), H))
  else (
    (zgR H a0 0 0).bind fun v14 =>
    (jF_Schemas_find v14 a2 H).bind fun y18 =>
    (jF_ST_isSubject a1 H).bind fun y23 =>
    if y23 = 0 then (
      some ((-1 : Int32), H))
    else (
      if y18 = none then (
        some ((-1 : Int32), H))
      else (
        (zgR H a0 0 2).bind fun v36 =>
        (jF_Registry_has fu v36 a1 a2 H).bind fun y41 =>
        if y41 = 0 then (
          (zgR H a0 0 2).bind fun v48 =>
          (jF_Registry_isFull v48 H).bind fun y51 =>
          if y51 = 0 then (
            (jF_ST_readsVersions fu a0 y18 a1 H).bind fun y62 =>
            if y62 = 0 then (
              some ((-2 : Int32), H))
            else (
              (zgR H a0 0 2).bind fun v72 =>
              (jF_Registry_countOf fu v72 a1 H).bind fun y76 =>
              (zgR H a0 0 2).bind fun v82 =>
              (jF_Registry_append fu v82 a1 a2 H).bind fun y87 =>
              if y87.1 = 0 then (
                (jF_ST_goDown a0 y87.2).bind fun y99 =>
                some (y99.1, y99.2))
              else (
                some (y76, y87.2))))
          else (
            some ((-1 : Int32), H)))
        else (
          some ((-1 : Int32), H)))))
theorem jm_ST_register {E : zE} {d : Nat} (hd : 128 ≤ d) (fu : Nat) (a0 : Option Nat) (a1 : Int32) (a2 : Int32) (H : zH) : z_MS E jM_ST_register d 0 0 zwI [zR a0, zI a1, zI a2] H (jF_ST_register fu a0 a1 a2 H) := by
  refine zs_of (lv0 := [(0, zR a0), (1, zI a1), (2, zI a2)]) pn_ST (Nat.le_of_ble_eq_true rfl) rfl ?_
  unfold jF_ST_register
  refine zs_bind fun _ _ => ?_
  refine zs_aload_n (pc := 0) (x := a0) d_ST_register_0 rfl ?_
  refine zs_getR (pc := 1) d_ST_register_1 kF_ST_19 fun v1 => ?_
  refine zs_getI (pc := 4) d_ST_register_4 kF_ST_79 fun v4 => ?_
  refine zs_if_ne (pc := 7) (tgt := 13) d_ST_register_7 rfl (fun q7 => ?_) (fun q7 => ?_)
  · refine zs_aload_n (pc := 13) (x := a0) d_ST_register_13 rfl ?_
    refine zs_getR (pc := 14) d_ST_register_14 kF_ST_13 fun v14 => ?_
    refine zs_iload_n (pc := 17) (x := a2) d_ST_register_17 rfl ?_
    refine zs_callv_rR (pc := 18) (av := [zI a2]) (st := []) (d' := 0) (C' := 0) (S' := 0) d_ST_register_18 kV_ST_61 z_okb (jm_Schemas_find (d := 0) (Nat.le_refl _) v14 a2 H) (by omega) (Nat.le_of_ble_eq_true rfl) (Nat.le_of_ble_eq_true rfl) rfl rfl (Nat.le_of_ble_eq_true rfl) fun y18 => ?_
    refine zs_astore_n (pc := 21) (lv' := [(3, zR y18), (0, zR a0), (1, zI a1), (2, zI a2)]) d_ST_register_21 (Nat.le_of_ble_eq_true rfl) rfl ?_
    refine zs_iload_n (pc := 22) (x := a1) d_ST_register_22 rfl ?_
    refine zs_calls_rI (pc := 23) (av := [zI a1]) (st := []) (d' := 0) (C' := 0) (S' := 0) d_ST_register_23 kS_ST_83 (jm_ST_isSubject (d := 0) (Nat.le_refl _) a1 H) (by omega) (Nat.le_of_ble_eq_true rfl) (Nat.le_of_ble_eq_true rfl) rfl rfl (Nat.le_of_ble_eq_true rfl) fun y23 => ?_
    refine zs_if_eq (pc := 26) (tgt := 33) d_ST_register_26 rfl (fun q26 => ?_) (fun q26 => ?_)
    · refine zs_iconst (pc := 33) (v := (-1 : Int32)) d_ST_register_33 (by decide) ?_
      exact zs_iret (pc := 34) d_ST_register_34 rfl (Nat.le_of_ble_eq_true rfl) (Nat.le_of_ble_eq_true rfl) rfl
    · refine zs_aload_n (pc := 29) (x := y18) d_ST_register_29 rfl ?_
      refine zs_ifnonnull (pc := 30) (tgt := 35) d_ST_register_30 rfl (fun q30 => ?_) (fun q30 => ?_)
      · refine zs_aload_n (pc := 35) (x := a0) d_ST_register_35 rfl ?_
        refine zs_getR (pc := 36) d_ST_register_36 kF_ST_28 fun v36 => ?_
        refine zs_iload_n (pc := 39) (x := a1) d_ST_register_39 rfl ?_
        refine zs_iload_n (pc := 40) (x := a2) d_ST_register_40 rfl ?_
        refine zs_callv_rI (pc := 41) (av := [zI a1, zI a2]) (st := []) (d' := 2) (C' := 0) (S' := 0) d_ST_register_41 kV_ST_87 z_okb (jm_Registry_has (d := 2) (Nat.le_refl _) fu v36 a1 a2 H) (by omega) (Nat.le_of_ble_eq_true rfl) (Nat.le_of_ble_eq_true rfl) rfl rfl (Nat.le_of_ble_eq_true rfl) fun y41 => ?_
        refine zs_if_ne (pc := 44) (tgt := 57) d_ST_register_44 rfl (fun q44 => ?_) (fun q44 => ?_)
        · refine zs_iconst (pc := 57) (v := (-1 : Int32)) d_ST_register_57 (by decide) ?_
          exact zs_iret (pc := 58) d_ST_register_58 rfl (Nat.le_of_ble_eq_true rfl) (Nat.le_of_ble_eq_true rfl) rfl
        · refine zs_aload_n (pc := 47) (x := a0) d_ST_register_47 rfl ?_
          refine zs_getR (pc := 48) d_ST_register_48 kF_ST_28 fun v48 => ?_
          refine zs_callv_rI (pc := 51) (av := []) (st := []) (d' := 2) (C' := 0) (S' := 0) d_ST_register_51 kV_ST_91 z_okb (jm_Registry_isFull (d := 2) (Nat.le_refl _) v48 H) (by omega) (Nat.le_of_ble_eq_true rfl) (Nat.le_of_ble_eq_true rfl) rfl rfl (Nat.le_of_ble_eq_true rfl) fun y51 => ?_
          refine zs_if_eq (pc := 54) (tgt := 59) d_ST_register_54 rfl (fun q54 => ?_) (fun q54 => ?_)
          · refine zs_aload_n (pc := 59) (x := a0) d_ST_register_59 rfl ?_
            refine zs_aload_n (pc := 60) (x := y18) d_ST_register_60 rfl ?_
            refine zs_iload_n (pc := 61) (x := a1) d_ST_register_61 rfl ?_
            refine zs_callv_rI (pc := 62) (av := [zR y18, zI a1]) (st := []) (d' := 127) (C' := 0) (S' := 0) d_ST_register_62 kV_ST_95 z_okb (jm_ST_readsVersions (d := 127) (Nat.le_refl _) fu a0 y18 a1 H) (by omega) (Nat.le_of_ble_eq_true rfl) (Nat.le_of_ble_eq_true rfl) rfl rfl (Nat.le_of_ble_eq_true rfl) fun y62 => ?_
            refine zs_if_ne (pc := 65) (tgt := 71) d_ST_register_65 rfl (fun q65 => ?_) (fun q65 => ?_)
            · refine zs_aload_n (pc := 71) (x := a0) d_ST_register_71 rfl ?_
              refine zs_getR (pc := 72) d_ST_register_72 kF_ST_28 fun v72 => ?_
              refine zs_iload_n (pc := 75) (x := a1) d_ST_register_75 rfl ?_
              refine zs_callv_rI (pc := 76) (av := [zI a1]) (st := []) (d' := 2) (C' := 0) (S' := 0) d_ST_register_76 kV_ST_99 z_okb (jm_Registry_countOf (d := 2) (Nat.le_refl _) fu v72 a1 H) (by omega) (Nat.le_of_ble_eq_true rfl) (Nat.le_of_ble_eq_true rfl) rfl rfl (Nat.le_of_ble_eq_true rfl) fun y76 => ?_
              refine zs_istore (pc := 79) (lv' := [(4, zI y76), (3, zR y18), (0, zR a0), (1, zI a1), (2, zI a2)]) d_ST_register_79 (Nat.le_of_ble_eq_true rfl) rfl ?_
              refine zs_aload_n (pc := 81) (x := a0) d_ST_register_81 rfl ?_
              refine zs_getR (pc := 82) d_ST_register_82 kF_ST_28 fun v82 => ?_
              refine zs_iload_n (pc := 85) (x := a1) d_ST_register_85 rfl ?_
              refine zs_iload_n (pc := 86) (x := a2) d_ST_register_86 rfl ?_
              refine zs_callv_wI (pc := 87) (av := [zI a1, zI a2]) (st := []) (d' := 2) (C' := 0) (S' := 0) d_ST_register_87 kV_ST_103 z_okb (jm_Registry_append (d := 2) (Nat.le_refl _) fu v82 a1 a2 H) (by omega) (Nat.le_of_ble_eq_true rfl) (Nat.le_of_ble_eq_true rfl) rfl rfl (Nat.le_of_ble_eq_true rfl) fun y87 => ?_
              refine zs_if_eq (pc := 90) (tgt := 98) d_ST_register_90 rfl (fun q90 => ?_) (fun q90 => ?_)
              · refine zs_aload_n (pc := 98) (x := a0) d_ST_register_98 rfl ?_
                refine zs_callv_wI (pc := 99) (av := []) (st := []) (d' := 2) (C' := 0) (S' := 0) d_ST_register_99 kV_ST_106 z_okb (jm_ST_goDown (d := 2) (Nat.le_refl _) a0 y87.2) (by omega) (Nat.le_of_ble_eq_true rfl) (Nat.le_of_ble_eq_true rfl) rfl rfl (Nat.le_of_ble_eq_true rfl) fun y99 => ?_
                exact zs_iret (pc := 102) d_ST_register_102 rfl (Nat.le_of_ble_eq_true rfl) (Nat.le_of_ble_eq_true rfl) rfl
              · refine zs_iload (pc := 93) (x := y76) d_ST_register_93 rfl ?_
                refine zs_goto (pc := 95) (tgt := 102) d_ST_register_95 rfl ?_
                exact zs_iret (pc := 102) d_ST_register_102 rfl (Nat.le_of_ble_eq_true rfl) (Nat.le_of_ble_eq_true rfl) rfl
            · refine zs_bipush (pc := 68) (v := (-2 : Int32)) d_ST_register_68 (by decide) ?_
              exact zs_iret (pc := 70) d_ST_register_70 rfl (Nat.le_of_ble_eq_true rfl) (Nat.le_of_ble_eq_true rfl) rfl
          · refine zs_iconst (pc := 57) (v := (-1 : Int32)) d_ST_register_57 (by decide) ?_
            exact zs_iret (pc := 58) d_ST_register_58 rfl (Nat.le_of_ble_eq_true rfl) (Nat.le_of_ble_eq_true rfl) rfl
      · refine zs_iconst (pc := 33) (v := (-1 : Int32)) d_ST_register_33 (by decide) ?_
        exact zs_iret (pc := 34) d_ST_register_34 rfl (Nat.le_of_ble_eq_true rfl) (Nat.le_of_ble_eq_true rfl) rfl
  · refine zs_bipush (pc := 10) (v := (-4 : Int32)) d_ST_register_10 (by decide) ?_
    exact zs_iret (pc := 12) d_ST_register_12 rfl (Nat.le_of_ble_eq_true rfl) (Nat.le_of_ble_eq_true rfl) rfl
def jF_ST_versions (fu : Nat) (a0 : Option Nat) (a1 : Int32) (H : zH) : Option Int32 :=
  (zok H a0 0).bind fun _ =>
  (jF_ST_isSubject a1 H).bind fun y1 =>
  if y1 = 0 then (
    some (-1 : Int32))
  else (
    (zgR H a0 0 1).bind fun v8 =>
    (zgI H v8 3 1).bind fun v11 =>
    if v11 = 0 then (
      some (-1 : Int32))
    else (
      (zgR H a0 0 2).bind fun v18 =>
      (jF_Registry_countOf fu v18 a1 H).bind fun y22 =>
      some y22))
theorem jm_ST_versions {E : zE} {d : Nat} (hd : 3 ≤ d) (fu : Nat) (a0 : Option Nat) (a1 : Int32) (H : zH) : z_MS E jM_ST_versions d 0 0 (zrI H) [zR a0, zI a1] H (jF_ST_versions fu a0 a1 H) := by
  refine zs_of (lv0 := [(0, zR a0), (1, zI a1)]) pn_ST (Nat.le_of_ble_eq_true rfl) rfl ?_
  unfold jF_ST_versions
  refine zs_bind fun _ _ => ?_
  refine zs_iload_n (pc := 0) (x := a1) d_ST_versions_0 rfl ?_
  refine zs_calls_rI (pc := 1) (av := [zI a1]) (st := []) (d' := 0) (C' := 0) (S' := 0) d_ST_versions_1 kS_ST_83 (jm_ST_isSubject (d := 0) (Nat.le_refl _) a1 H) (by omega) (Nat.le_of_ble_eq_true rfl) (Nat.le_of_ble_eq_true rfl) rfl rfl (Nat.le_of_ble_eq_true rfl) fun y1 => ?_
  refine zs_if_eq (pc := 4) (tgt := 28) d_ST_versions_4 rfl (fun q4 => ?_) (fun q4 => ?_)
  · refine zs_iconst (pc := 28) (v := (-1 : Int32)) d_ST_versions_28 (by decide) ?_
    exact zs_iret (pc := 29) d_ST_versions_29 rfl (Nat.le_of_ble_eq_true rfl) (Nat.le_of_ble_eq_true rfl) rfl
  · refine zs_aload_n (pc := 7) (x := a0) d_ST_versions_7 rfl ?_
    refine zs_getR (pc := 8) d_ST_versions_8 kF_ST_19 fun v8 => ?_
    refine zs_getI (pc := 11) d_ST_versions_11 kF_ST_79 fun v11 => ?_
    refine zs_if_eq (pc := 14) (tgt := 28) d_ST_versions_14 rfl (fun q14 => ?_) (fun q14 => ?_)
    · refine zs_iconst (pc := 28) (v := (-1 : Int32)) d_ST_versions_28 (by decide) ?_
      exact zs_iret (pc := 29) d_ST_versions_29 rfl (Nat.le_of_ble_eq_true rfl) (Nat.le_of_ble_eq_true rfl) rfl
    · refine zs_aload_n (pc := 17) (x := a0) d_ST_versions_17 rfl ?_
      refine zs_getR (pc := 18) d_ST_versions_18 kF_ST_28 fun v18 => ?_
      refine zs_iload_n (pc := 21) (x := a1) d_ST_versions_21 rfl ?_
      refine zs_callv_rI (pc := 22) (av := [zI a1]) (st := []) (d' := 2) (C' := 0) (S' := 0) d_ST_versions_22 kV_ST_99 z_okb (jm_Registry_countOf (d := 2) (Nat.le_refl _) fu v18 a1 H) (by omega) (Nat.le_of_ble_eq_true rfl) (Nat.le_of_ble_eq_true rfl) rfl rfl (Nat.le_of_ble_eq_true rfl) fun y22 => ?_
      refine zs_goto (pc := 25) (tgt := 29) d_ST_versions_25 rfl ?_
      exact zs_iret (pc := 29) d_ST_versions_29 rfl (Nat.le_of_ble_eq_true rfl) (Nat.le_of_ble_eq_true rfl) rfl
def jF_ST_version (fu : Nat) (a0 : Option Nat) (a1 : Int32) (a2 : Int32) (H : zH) : Option Int32 :=
  (zok H a0 0).bind fun _ =>
  (jF_ST_isSubject a1 H).bind fun y1 =>
  if y1 = 0 then (
    some (-1 : Int32))
  else (
    (zgR H a0 0 1).bind fun v8 =>
    (zgI H v8 3 1).bind fun v11 =>
    if v11 = 0 then (
      some (-1 : Int32))
    else (
      (zgR H a0 0 2).bind fun v18 =>
      (jF_Registry_schemaOf fu v18 a1 a2 H).bind fun y23 =>
      some y23))
theorem jm_ST_version {E : zE} {d : Nat} (hd : 3 ≤ d) (fu : Nat) (a0 : Option Nat) (a1 : Int32) (a2 : Int32) (H : zH) : z_MS E jM_ST_version d 0 0 (zrI H) [zR a0, zI a1, zI a2] H (jF_ST_version fu a0 a1 a2 H) := by
  refine zs_of (lv0 := [(0, zR a0), (1, zI a1), (2, zI a2)]) pn_ST (Nat.le_of_ble_eq_true rfl) rfl ?_
  unfold jF_ST_version
  refine zs_bind fun _ _ => ?_
  refine zs_iload_n (pc := 0) (x := a1) d_ST_version_0 rfl ?_
  refine zs_calls_rI (pc := 1) (av := [zI a1]) (st := []) (d' := 0) (C' := 0) (S' := 0) d_ST_version_1 kS_ST_83 (jm_ST_isSubject (d := 0) (Nat.le_refl _) a1 H) (by omega) (Nat.le_of_ble_eq_true rfl) (Nat.le_of_ble_eq_true rfl) rfl rfl (Nat.le_of_ble_eq_true rfl) fun y1 => ?_
  refine zs_if_eq (pc := 4) (tgt := 29) d_ST_version_4 rfl (fun q4 => ?_) (fun q4 => ?_)
  · refine zs_iconst (pc := 29) (v := (-1 : Int32)) d_ST_version_29 (by decide) ?_
    exact zs_iret (pc := 30) d_ST_version_30 rfl (Nat.le_of_ble_eq_true rfl) (Nat.le_of_ble_eq_true rfl) rfl
  · refine zs_aload_n (pc := 7) (x := a0) d_ST_version_7 rfl ?_
    refine zs_getR (pc := 8) d_ST_version_8 kF_ST_19 fun v8 => ?_
    refine zs_getI (pc := 11) d_ST_version_11 kF_ST_79 fun v11 => ?_
    refine zs_if_eq (pc := 14) (tgt := 29) d_ST_version_14 rfl (fun q14 => ?_) (fun q14 => ?_)
    · refine zs_iconst (pc := 29) (v := (-1 : Int32)) d_ST_version_29 (by decide) ?_
      exact zs_iret (pc := 30) d_ST_version_30 rfl (Nat.le_of_ble_eq_true rfl) (Nat.le_of_ble_eq_true rfl) rfl
    · refine zs_aload_n (pc := 17) (x := a0) d_ST_version_17 rfl ?_
      refine zs_getR (pc := 18) d_ST_version_18 kF_ST_28 fun v18 => ?_
      refine zs_iload_n (pc := 21) (x := a1) d_ST_version_21 rfl ?_
      refine zs_iload_n (pc := 22) (x := a2) d_ST_version_22 rfl ?_
      refine zs_callv_rI (pc := 23) (av := [zI a1, zI a2]) (st := []) (d' := 2) (C' := 0) (S' := 0) d_ST_version_23 kV_ST_110 z_okb (jm_Registry_schemaOf (d := 2) (Nat.le_refl _) fu v18 a1 a2 H) (by omega) (Nat.le_of_ble_eq_true rfl) (Nat.le_of_ble_eq_true rfl) rfl rfl (Nat.le_of_ble_eq_true rfl) fun y23 => ?_
      refine zs_goto (pc := 26) (tgt := 30) d_ST_version_26 rfl ?_
      exact zs_iret (pc := 30) d_ST_version_30 rfl (Nat.le_of_ble_eq_true rfl) (Nat.le_of_ble_eq_true rfl) rfl
def jJ_Row_append_22  (a0 : Option Nat) (H : zH) : Option zH :=
  (zgI H a0 7 1).bind fun v24 =>
  (zpV H a0 7 1 (zI (v24 + (1 : Int32)))).bind fun H29 =>
  some H29
def jF_Row_append (a0 : Option Nat) (a1 : Int64) (H : zH) : Option zH :=
  (zok H a0 7).bind fun _ =>
  (zgI H a0 7 1).bind fun v1 =>
  (zgR H a0 7 0).bind fun v5 =>
  (zle H v5 2).bind fun v8 =>
  if v8 ≤ v1 then (
    jJ_Row_append_22  a0 H)
  else (
    (zgR H a0 7 0).bind fun v13 =>
    (zgI H a0 7 1).bind fun v17 =>
    (zsL H v13 2 v17 a1).bind fun H21 =>
    jJ_Row_append_22  a0 H21)
theorem jj_Row_append_22 {E : zE} {d : Nat} (hd : 0 ≤ d)  : ∀ (a0 : Option Nat) (H : zH), z_S E jM_Row_append d 0 0 zwV 22 [(0, zR a0)] [] H 0 0 (jJ_Row_append_22 a0 H) := by
  intro a0 H
  unfold jJ_Row_append_22
  refine zs_aload_n (pc := 22) (x := a0) d_Row_append_22 rfl ?_
  refine zs_dup (pc := 23) d_Row_append_23 rfl ?_
  refine zs_getI (pc := 24) d_Row_append_24 kF_Row_13 fun v24 => ?_
  refine zs_iconst (pc := 27) (v := (1 : Int32)) d_Row_append_27 (by decide) ?_
  refine zs_iadd (pc := 28) d_Row_append_28 ?_
  refine zs_put (pc := 29) d_Row_append_29 kP_Row_13 z_fitI fun H29 => ?_
  exact zs_vret (pc := 32) d_Row_append_32 rfl (Nat.le_of_ble_eq_true rfl) (Nat.le_of_ble_eq_true rfl) rfl
theorem jm_Row_append {E : zE} {d : Nat} (hd : 0 ≤ d) (a0 : Option Nat) (a1 : Int64) (H : zH) : z_MS E jM_Row_append d 0 0 zwV [zR a0, zL a1] H (jF_Row_append a0 a1 H) := by
  refine zs_of (lv0 := [(0, zR a0), (1, zL a1)]) pn_Row (Nat.le_of_ble_eq_true rfl) rfl ?_
  unfold jF_Row_append
  refine zs_bind fun _ _ => ?_
  refine zs_aload_n (pc := 0) (x := a0) d_Row_append_0 rfl ?_
  refine zs_getI (pc := 1) d_Row_append_1 kF_Row_13 fun v1 => ?_
  refine zs_aload_n (pc := 4) (x := a0) d_Row_append_4 rfl ?_
  refine zs_getR (pc := 5) d_Row_append_5 kF_Row_7 fun v5 => ?_
  refine zs_alen (t := 2) (pc := 8) d_Row_append_8 rfl fun v8 => ?_
  refine zs_icmp_ge (pc := 9) (tgt := 22) d_Row_append_9 rfl (fun q9 => ?_) (fun q9 => ?_)
  · refine zs_sub (lv' := [(0, zR a0)]) [0] rfl ?_
    exact jj_Row_append_22 hd  a0 H
  · refine zs_aload_n (pc := 12) (x := a0) d_Row_append_12 rfl ?_
    refine zs_getR (pc := 13) d_Row_append_13 kF_Row_7 fun v13 => ?_
    refine zs_aload_n (pc := 16) (x := a0) d_Row_append_16 rfl ?_
    refine zs_getI (pc := 17) d_Row_append_17 kF_Row_13 fun v17 => ?_
    refine zs_lload_n (pc := 20) (x := a1) d_Row_append_20 rfl ?_
    refine zs_last (t := 2) (pc := 21) d_Row_append_21 rfl fun H21 => ?_
    refine zs_sub (lv' := [(0, zR a0)]) [0] rfl ?_
    exact jj_Row_append_22 hd  a0 H21
def jF_ST_give (a0 : Option Nat) (a1 : Int64) (H : zH) : Option (Int32 × zH) :=
  (zok H a0 0).bind fun _ =>
  (zgR H a0 0 1).bind fun v1 =>
  (zgI H v1 3 1).bind fun v4 =>
  if v4 = 0 then (
    some ((-4 : Int32), H))
  else (
    (zgR H a0 0 5).bind fun v14 =>
    (zgI H v14 7 1).bind fun v17 =>
    if v17 = (24 : Int32) then (
      some ((-1 : Int32), H))
    else (
      (zgR H a0 0 5).bind fun v28 =>
      (jF_Row_append v28 a1 H).bind fun y32 =>
      (zgR y32 a0 0 5).bind fun v36 =>
      (zgI y32 v36 7 1).bind fun v39 =>
      some (v39, y32)))
theorem jm_ST_give {E : zE} {d : Nat} (hd : 1 ≤ d) (a0 : Option Nat) (a1 : Int64) (H : zH) : z_MS E jM_ST_give d 0 0 zwI [zR a0, zL a1] H (jF_ST_give a0 a1 H) := by
  refine zs_of (lv0 := [(0, zR a0), (1, zL a1)]) pn_ST (Nat.le_of_ble_eq_true rfl) rfl ?_
  unfold jF_ST_give
  refine zs_bind fun _ _ => ?_
  refine zs_aload_n (pc := 0) (x := a0) d_ST_give_0 rfl ?_
  refine zs_getR (pc := 1) d_ST_give_1 kF_ST_19 fun v1 => ?_
  refine zs_getI (pc := 4) d_ST_give_4 kF_ST_79 fun v4 => ?_
  refine zs_if_ne (pc := 7) (tgt := 13) d_ST_give_7 rfl (fun q7 => ?_) (fun q7 => ?_)
  · refine zs_aload_n (pc := 13) (x := a0) d_ST_give_13 rfl ?_
    refine zs_getR (pc := 14) d_ST_give_14 kF_ST_51 fun v14 => ?_
    refine zs_getI (pc := 17) d_ST_give_17 kF_ST_114 fun v17 => ?_
    refine zs_bipush (pc := 20) (v := (24 : Int32)) d_ST_give_20 (by decide) ?_
    refine zs_icmp_ne (pc := 22) (tgt := 27) d_ST_give_22 rfl (fun q22 => ?_) (fun q22 => ?_)
    · refine zs_aload_n (pc := 27) (x := a0) d_ST_give_27 rfl ?_
      refine zs_getR (pc := 28) d_ST_give_28 kF_ST_51 fun v28 => ?_
      refine zs_lload_n (pc := 31) (x := a1) d_ST_give_31 rfl ?_
      refine zs_callv_wV (pc := 32) (av := [zL a1]) (st := []) (d' := 0) (C' := 0) (S' := 0) d_ST_give_32 kV_ST_118 z_okb (jm_Row_append (d := 0) (Nat.le_refl _) v28 a1 H) (by omega) (Nat.le_of_ble_eq_true rfl) (Nat.le_of_ble_eq_true rfl) rfl rfl (Nat.le_of_ble_eq_true rfl) fun y32 => ?_
      refine zs_aload_n (pc := 35) (x := a0) d_ST_give_35 rfl ?_
      refine zs_getR (pc := 36) d_ST_give_36 kF_ST_51 fun v36 => ?_
      refine zs_getI (pc := 39) d_ST_give_39 kF_ST_114 fun v39 => ?_
      exact zs_iret (pc := 42) d_ST_give_42 rfl (Nat.le_of_ble_eq_true rfl) (Nat.le_of_ble_eq_true rfl) rfl
    · refine zs_iconst (pc := 25) (v := (-1 : Int32)) d_ST_give_25 (by decide) ?_
      exact zs_iret (pc := 26) d_ST_give_26 rfl (Nat.le_of_ble_eq_true rfl) (Nat.le_of_ble_eq_true rfl) rfl
  · refine zs_bipush (pc := 10) (v := (-4 : Int32)) d_ST_give_10 (by decide) ?_
    exact zs_iret (pc := 12) d_ST_give_12 rfl (Nat.le_of_ble_eq_true rfl) (Nat.le_of_ble_eq_true rfl) rfl
def jJ_Bytes_appendVarint_53 (fu : Nat) (a0 : Option Nat) (a3 : Int64) (H : zH) : Option zH :=
  (jF_Bytes_append a0 a3.toInt32 H).bind fun y56 =>
  some y56
def jL_Bytes_appendVarint_12 (fu : Nat) : Nat → Option Nat → Int64 → Int32 → zH → Option zH
  | 0, _, _, _, _ => none
  | g + 1, a0, a3, a5, H =>
    if (10 : Int32) ≤ a5 then (
      jJ_Bytes_appendVarint_53 fu a0 a3 H)
    else (
      if ((a3.toUInt64 >>> ((7 : Int32).toInt64.toUInt64 &&& Int64.toUInt64 63)).toInt64) = (0 : Int64) then (
        jJ_Bytes_appendVarint_53 fu a0 a3 H)
      else (
        (jF_Bytes_append a0 (((a3 &&& (127 : Int64)).toInt32) + (128 : Int32)) H).bind fun y39 =>
        jL_Bytes_appendVarint_12 fu g a0 ((a3.toUInt64 >>> ((7 : Int32).toInt64.toUInt64 &&& Int64.toUInt64 63)).toInt64) (a5 + (1 : Int32)) y39))
def jF_Bytes_appendVarint (fu : Nat) (a0 : Option Nat) (a1 : Int64) (H : zH) : Option zH :=
  (zok H a0 2).bind fun _ =>
  jL_Bytes_appendVarint_12 fu fu a0 ((a1 <<< ((1 : Int32).toInt64 &&& 63)) ^^^ (a1 >>> ((63 : Int32).toInt64 &&& 63))) (1 : Int32) H
theorem jj_Bytes_appendVarint_53 {E : zE} {d : Nat} (hd : 1 ≤ d) (fu : Nat) : ∀ (a0 : Option Nat) (a3 : Int64) (H : zH), z_S E jM_Bytes_appendVarint d 0 0 zwV 53 [(0, zR a0), (3, zL a3)] [] H 0 0 (jJ_Bytes_appendVarint_53 fu a0 a3 H) := by
  intro a0 a3 H
  unfold jJ_Bytes_appendVarint_53
  refine zs_aload_n (pc := 53) (x := a0) d_Bytes_appendVarint_53 rfl ?_
  refine zs_lload_n (pc := 54) (x := a3) d_Bytes_appendVarint_54 rfl ?_
  refine zs_l2i (pc := 55) d_Bytes_appendVarint_55 ?_
  refine zs_callv_wV (pc := 56) (av := [zI a3.toInt32]) (st := []) (d' := 0) (C' := 0) (S' := 0) d_Bytes_appendVarint_56 kV_Bytes_19 z_okb (jm_Bytes_append (d := 0) (Nat.le_refl _) a0 a3.toInt32 H) (by omega) (Nat.le_of_ble_eq_true rfl) (Nat.le_of_ble_eq_true rfl) rfl rfl (Nat.le_of_ble_eq_true rfl) fun y56 => ?_
  exact zs_vret (pc := 59) d_Bytes_appendVarint_59 rfl (Nat.le_of_ble_eq_true rfl) (Nat.le_of_ble_eq_true rfl) rfl
theorem jl_Bytes_appendVarint_12 {E : zE} {d : Nat} (hd : 1 ≤ d) (fu : Nat) : ∀ (g : Nat), ∀ (a0 : Option Nat) (a3 : Int64) (a5 : Int32) (H : zH), z_S E jM_Bytes_appendVarint d 0 0 zwV 12 [(0, zR a0), (3, zL a3), (5, zI a5)] [] H 0 0 (jL_Bytes_appendVarint_12 fu g a0 a3 a5 H) := by
  intro g
  induction g with
  | zero => intros; exact zs_none
  | succ g ih =>
    intro a0 a3 a5 H
    rw [jL_Bytes_appendVarint_12]
    refine zs_iload (pc := 12) (x := a5) d_Bytes_appendVarint_12 rfl ?_
    refine zs_bipush (pc := 14) (v := (10 : Int32)) d_Bytes_appendVarint_14 (by decide) ?_
    refine zs_icmp_ge (pc := 16) (tgt := 53) d_Bytes_appendVarint_16 rfl (fun q16 => ?_) (fun q16 => ?_)
    · refine zs_sub (lv' := [(0, zR a0), (3, zL a3)]) [0, 1] rfl ?_
      exact jj_Bytes_appendVarint_53 hd fu a0 a3 H
    · refine zs_lload_n (pc := 19) (x := a3) d_Bytes_appendVarint_19 rfl ?_
      refine zs_bipush (pc := 20) (v := (7 : Int32)) d_Bytes_appendVarint_20 (by decide) ?_
      refine zs_lushr (pc := 22) d_Bytes_appendVarint_22 ?_
      refine zs_lconst (pc := 23) (v := (0 : Int64)) d_Bytes_appendVarint_23 (by decide) ?_
      refine zs_lcmp_eq (pc := 24) (tgt := 53) d_Bytes_appendVarint_24 d_Bytes_appendVarint_25 rfl (fun q24 => ?_) (fun q24 => ?_)
      · refine zs_sub (lv' := [(0, zR a0), (3, zL a3)]) [0, 1] rfl ?_
        exact jj_Bytes_appendVarint_53 hd fu a0 a3 H
      · refine zs_aload_n (pc := 28) (x := a0) d_Bytes_appendVarint_28 rfl ?_
        refine zs_lload_n (pc := 29) (x := a3) d_Bytes_appendVarint_29 rfl ?_
        refine zs_ldc2 (pc := 30) (v := (127 : Int64)) d_Bytes_appendVarint_30 kC_Bytes_17 ?_
        refine zs_land (pc := 33) d_Bytes_appendVarint_33 ?_
        refine zs_l2i (pc := 34) d_Bytes_appendVarint_34 ?_
        refine zs_sipush (pc := 35) (v := (128 : Int32)) d_Bytes_appendVarint_35 (by decide) ?_
        refine zs_iadd (pc := 38) d_Bytes_appendVarint_38 ?_
        refine zs_callv_wV (pc := 39) (av := [zI (((a3 &&& (127 : Int64)).toInt32) + (128 : Int32))]) (st := []) (d' := 0) (C' := 0) (S' := 0) d_Bytes_appendVarint_39 kV_Bytes_19 z_okb (jm_Bytes_append (d := 0) (Nat.le_refl _) a0 (((a3 &&& (127 : Int64)).toInt32) + (128 : Int32)) H) (by omega) (Nat.le_of_ble_eq_true rfl) (Nat.le_of_ble_eq_true rfl) rfl rfl (Nat.le_of_ble_eq_true rfl) fun y39 => ?_
        refine zs_lload_n (pc := 42) (x := a3) d_Bytes_appendVarint_42 rfl ?_
        refine zs_bipush (pc := 43) (v := (7 : Int32)) d_Bytes_appendVarint_43 (by decide) ?_
        refine zs_lushr (pc := 45) d_Bytes_appendVarint_45 ?_
        refine zs_lstore_n (pc := 46) (lv' := [(3, zL ((a3.toUInt64 >>> ((7 : Int32).toInt64.toUInt64 &&& Int64.toUInt64 63)).toInt64)), (0, zR a0), (5, zI a5)]) d_Bytes_appendVarint_46 (Nat.le_of_ble_eq_true rfl) rfl ?_
        refine zs_iinc (pc := 47) (x := a5) (v := (a5 + (1 : Int32))) (lv' := [(5, zI (a5 + (1 : Int32))), (3, zL ((a3.toUInt64 >>> ((7 : Int32).toInt64.toUInt64 &&& Int64.toUInt64 63)).toInt64)), (0, zR a0)]) d_Bytes_appendVarint_47 rfl rfl (Nat.le_of_ble_eq_true rfl) rfl ?_
        refine zs_goto (pc := 50) (tgt := 12) d_Bytes_appendVarint_50 rfl ?_
        refine zs_sub (lv' := [(0, zR a0), (3, zL ((a3.toUInt64 >>> ((7 : Int32).toInt64.toUInt64 &&& Int64.toUInt64 63)).toInt64)), (5, zI (a5 + (1 : Int32)))]) [2, 1, 0] rfl ?_
        exact ih a0 ((a3.toUInt64 >>> ((7 : Int32).toInt64.toUInt64 &&& Int64.toUInt64 63)).toInt64) (a5 + (1 : Int32)) y39
theorem jm_Bytes_appendVarint {E : zE} {d : Nat} (hd : 1 ≤ d) (fu : Nat) (a0 : Option Nat) (a1 : Int64) (H : zH) : z_MS E jM_Bytes_appendVarint d 0 0 zwV [zR a0, zL a1] H (jF_Bytes_appendVarint fu a0 a1 H) := by
  refine zs_of (lv0 := [(0, zR a0), (1, zL a1)]) pn_Bytes (Nat.le_of_ble_eq_true rfl) rfl ?_
  unfold jF_Bytes_appendVarint
  refine zs_bind fun _ _ => ?_
  refine zs_lload_n (pc := 0) (x := a1) d_Bytes_appendVarint_0 rfl ?_
  refine zs_iconst (pc := 1) (v := (1 : Int32)) d_Bytes_appendVarint_1 (by decide) ?_
  refine zs_lshl (pc := 2) d_Bytes_appendVarint_2 ?_
  refine zs_lload_n (pc := 3) (x := a1) d_Bytes_appendVarint_3 rfl ?_
  refine zs_bipush (pc := 4) (v := (63 : Int32)) d_Bytes_appendVarint_4 (by decide) ?_
  refine zs_lshr (pc := 6) d_Bytes_appendVarint_6 ?_
  refine zs_lxor (pc := 7) d_Bytes_appendVarint_7 ?_
  refine zs_lstore_n (pc := 8) (lv' := [(3, zL ((a1 <<< ((1 : Int32).toInt64 &&& 63)) ^^^ (a1 >>> ((63 : Int32).toInt64 &&& 63)))), (0, zR a0), (1, zL a1)]) d_Bytes_appendVarint_8 (Nat.le_of_ble_eq_true rfl) rfl ?_
  refine zs_iconst (pc := 9) (v := (1 : Int32)) d_Bytes_appendVarint_9 (by decide) ?_
  refine zs_istore (pc := 10) (lv' := [(5, zI (1 : Int32)), (3, zL ((a1 <<< ((1 : Int32).toInt64 &&& 63)) ^^^ (a1 >>> ((63 : Int32).toInt64 &&& 63)))), (0, zR a0), (1, zL a1)]) d_Bytes_appendVarint_10 (Nat.le_of_ble_eq_true rfl) rfl ?_
  refine zs_sub (lv' := [(0, zR a0), (3, zL ((a1 <<< ((1 : Int32).toInt64 &&& 63)) ^^^ (a1 >>> ((63 : Int32).toInt64 &&& 63)))), (5, zI (1 : Int32))]) [2, 1, 0] rfl ?_
  exact jl_Bytes_appendVarint_12 hd fu fu a0 ((a1 <<< ((1 : Int32).toInt64 &&& 63)) ^^^ (a1 >>> ((63 : Int32).toInt64 &&& 63))) (1 : Int32) H
