def jJ_Mo_registered_53 (fu : Nat) (H : zH) (k5 : Option Nat → Int32 → Int32 → Int32 → Int32 → Option Int32) (a0 : Option Nat) (a1 : Int32) (a2 : Int32) (a4 : Int32) : Option Int32 :=
  k5 a0 a1 a2 (1 : Int32) (a4 + (1 : Int32))
def jL_Mo_registered_5 (fu : Nat) (H : zH) : Nat → Option Nat → Int32 → Int32 → Int32 → Int32 → Option Int32
  | 0, _, _, _, _, _ => none
  | g + 1, a0, a1, a2, a3, a4 =>
    (zgR H a0 1 14).bind fun v8 =>
    (zaI H v8 0 (32 : Int32)).bind fun v13 =>
    if v13 ≤ a4 then (
      (zbo a3).bind fun x => some x)
    else (
      if a3 = 0 then (
        (zgR H a0 1 14).bind fun v22 =>
        (zaI H v22 0 ((33 : Int32) + ((2 : Int32) * a4))).bind fun v32 =>
        if v32 = a1 then (
          (zgR H a0 1 14).bind fun v38 =>
          (zaI H v38 0 ((34 : Int32) + ((2 : Int32) * a4))).bind fun v48 =>
          if v48 = a2 then (
            jJ_Mo_registered_53 fu H (fun x0 x1 x2 x3 x4 => jL_Mo_registered_5 fu H g x0 x1 x2 x3 x4) a0 a1 a2 a4)
          else (
            jL_Mo_registered_5 fu H g a0 a1 a2 (0 : Int32) (a4 + (1 : Int32))))
        else (
          jL_Mo_registered_5 fu H g a0 a1 a2 (0 : Int32) (a4 + (1 : Int32))))
      else (
        jJ_Mo_registered_53 fu H (fun x0 x1 x2 x3 x4 => jL_Mo_registered_5 fu H g x0 x1 x2 x3 x4) a0 a1 a2 a4))
def jF_Mo_registered (fu : Nat) (a0 : Option Nat) (a1 : Int32) (a2 : Int32) (H : zH) : Option Int32 :=
  (zok H a0 1).bind fun _ =>
  jL_Mo_registered_5 fu H fu a0 a1 a2 (0 : Int32) (0 : Int32)
theorem jj_Mo_registered_53 {E : zE} {d : Nat} (hd : 0 ≤ d) (fu : Nat) (H : zH) (k5 : Option Nat → Int32 → Int32 → Int32 → Int32 → Option Int32) (hk5 : ∀ (a0 : Option Nat) (a1 : Int32) (a2 : Int32) (a3 : Int32) (a4 : Int32), z_S E jM_Mo_registered d 0 0 (zrI H) 5 [(0, zR a0), (1, zI a1), (2, zI a2), (3, zI a3), (4, zI a4)] [] H 0 0 (k5 a0 a1 a2 a3 a4)) : ∀ (a0 : Option Nat) (a1 : Int32) (a2 : Int32) (a4 : Int32), z_S E jM_Mo_registered d 0 0 (zrI H) 53 [(0, zR a0), (1, zI a1), (2, zI a2), (4, zI a4)] [] H 0 0 (jJ_Mo_registered_53 fu H k5 a0 a1 a2 a4) := by
  intro a0 a1 a2 a4
  unfold jJ_Mo_registered_53
  refine zs_iconst (pc := 53) (v := (1 : Int32)) d_Mo_registered_53 (by decide) ?_
  refine zs_goto (pc := 54) (tgt := 58) d_Mo_registered_54 rfl ?_
  refine zs_istore_n (pc := 58) (lv' := [(3, zI (1 : Int32)), (0, zR a0), (1, zI a1), (2, zI a2), (4, zI a4)]) d_Mo_registered_58 (Nat.le_of_ble_eq_true rfl) rfl ?_
  refine zs_iinc (pc := 59) (x := a4) (v := (a4 + (1 : Int32))) (lv' := [(4, zI (a4 + (1 : Int32))), (3, zI (1 : Int32)), (0, zR a0), (1, zI a1), (2, zI a2)]) d_Mo_registered_59 rfl rfl (Nat.le_of_ble_eq_true rfl) rfl ?_
  refine zs_goto (pc := 62) (tgt := 5) d_Mo_registered_62 rfl ?_
  refine zs_sub (lv' := [(0, zR a0), (1, zI a1), (2, zI a2), (3, zI (1 : Int32)), (4, zI (a4 + (1 : Int32)))]) [2, 3, 4, 1, 0] rfl ?_
  exact hk5 a0 a1 a2 (1 : Int32) (a4 + (1 : Int32))
theorem jl_Mo_registered_5 {E : zE} {d : Nat} (hd : 0 ≤ d) (fu : Nat) (H : zH) : ∀ (g : Nat), ∀ (a0 : Option Nat) (a1 : Int32) (a2 : Int32) (a3 : Int32) (a4 : Int32), z_S E jM_Mo_registered d 0 0 (zrI H) 5 [(0, zR a0), (1, zI a1), (2, zI a2), (3, zI a3), (4, zI a4)] [] H 0 0 (jL_Mo_registered_5 fu H g a0 a1 a2 a3 a4) := by
  intro g
  induction g with
  | zero => intros; exact zs_none
  | succ g ih =>
    intro a0 a1 a2 a3 a4
    rw [jL_Mo_registered_5]
    refine zs_iload (pc := 5) (x := a4) d_Mo_registered_5 rfl ?_
    refine zs_aload_n (pc := 7) (x := a0) d_Mo_registered_7 rfl ?_
    refine zs_getR (pc := 8) d_Mo_registered_8 kF_Mo_48 fun v8 => ?_
    refine zs_bipush (pc := 11) (v := (32 : Int32)) d_Mo_registered_11 (by decide) ?_
    refine zs_iald (t := 0) (pc := 13) d_Mo_registered_13 rfl fun v13 => ?_
    refine zs_icmp_ge (pc := 14) (tgt := 65) d_Mo_registered_14 rfl (fun q14 => ?_) (fun q14 => ?_)
    · refine zs_iload_n (pc := 65) (x := a3) d_Mo_registered_65 rfl ?_
      exact zs_zret (g := fun x => x) (pc := 66) d_Mo_registered_66 rfl (Nat.le_of_ble_eq_true rfl) (Nat.le_of_ble_eq_true rfl) rfl
    · refine zs_iload_n (pc := 17) (x := a3) d_Mo_registered_17 rfl ?_
      refine zs_if_ne (pc := 18) (tgt := 53) d_Mo_registered_18 rfl (fun q18 => ?_) (fun q18 => ?_)
      · refine zs_sub (lv' := [(0, zR a0), (1, zI a1), (2, zI a2), (4, zI a4)]) [0, 1, 2, 4] rfl ?_
        exact jj_Mo_registered_53 hd fu H (fun x0 x1 x2 x3 x4 => jL_Mo_registered_5 fu H g x0 x1 x2 x3 x4) ih a0 a1 a2 a4
      · refine zs_aload_n (pc := 21) (x := a0) d_Mo_registered_21 rfl ?_
        refine zs_getR (pc := 22) d_Mo_registered_22 kF_Mo_48 fun v22 => ?_
        refine zs_bipush (pc := 25) (v := (33 : Int32)) d_Mo_registered_25 (by decide) ?_
        refine zs_iconst (pc := 27) (v := (2 : Int32)) d_Mo_registered_27 (by decide) ?_
        refine zs_iload (pc := 28) (x := a4) d_Mo_registered_28 rfl ?_
        refine zs_imul (pc := 30) d_Mo_registered_30 ?_
        refine zs_iadd (pc := 31) d_Mo_registered_31 ?_
        refine zs_iald (t := 0) (pc := 32) d_Mo_registered_32 rfl fun v32 => ?_
        refine zs_iload_n (pc := 33) (x := a1) d_Mo_registered_33 rfl ?_
        refine zs_icmp_ne (pc := 34) (tgt := 57) d_Mo_registered_34 rfl (fun q34 => ?_) (fun q34 => ?_)
        · refine zs_iconst (pc := 57) (v := (0 : Int32)) d_Mo_registered_57 (by decide) ?_
          refine zs_istore_n (pc := 58) (lv' := [(3, zI (0 : Int32)), (0, zR a0), (1, zI a1), (2, zI a2), (4, zI a4)]) d_Mo_registered_58 (Nat.le_of_ble_eq_true rfl) rfl ?_
          refine zs_iinc (pc := 59) (x := a4) (v := (a4 + (1 : Int32))) (lv' := [(4, zI (a4 + (1 : Int32))), (3, zI (0 : Int32)), (0, zR a0), (1, zI a1), (2, zI a2)]) d_Mo_registered_59 rfl rfl (Nat.le_of_ble_eq_true rfl) rfl ?_
          refine zs_goto (pc := 62) (tgt := 5) d_Mo_registered_62 rfl ?_
          refine zs_sub (lv' := [(0, zR a0), (1, zI a1), (2, zI a2), (3, zI (0 : Int32)), (4, zI (a4 + (1 : Int32)))]) [2, 3, 4, 1, 0] rfl ?_
          exact ih a0 a1 a2 (0 : Int32) (a4 + (1 : Int32))
        · refine zs_aload_n (pc := 37) (x := a0) d_Mo_registered_37 rfl ?_
          refine zs_getR (pc := 38) d_Mo_registered_38 kF_Mo_48 fun v38 => ?_
          refine zs_bipush (pc := 41) (v := (34 : Int32)) d_Mo_registered_41 (by decide) ?_
          refine zs_iconst (pc := 43) (v := (2 : Int32)) d_Mo_registered_43 (by decide) ?_
          refine zs_iload (pc := 44) (x := a4) d_Mo_registered_44 rfl ?_
          refine zs_imul (pc := 46) d_Mo_registered_46 ?_
          refine zs_iadd (pc := 47) d_Mo_registered_47 ?_
          refine zs_iald (t := 0) (pc := 48) d_Mo_registered_48 rfl fun v48 => ?_
          refine zs_iload_n (pc := 49) (x := a2) d_Mo_registered_49 rfl ?_
          refine zs_icmp_ne (pc := 50) (tgt := 57) d_Mo_registered_50 rfl (fun q50 => ?_) (fun q50 => ?_)
          · refine zs_iconst (pc := 57) (v := (0 : Int32)) d_Mo_registered_57 (by decide) ?_
            refine zs_istore_n (pc := 58) (lv' := [(3, zI (0 : Int32)), (0, zR a0), (1, zI a1), (2, zI a2), (4, zI a4)]) d_Mo_registered_58 (Nat.le_of_ble_eq_true rfl) rfl ?_
            refine zs_iinc (pc := 59) (x := a4) (v := (a4 + (1 : Int32))) (lv' := [(4, zI (a4 + (1 : Int32))), (3, zI (0 : Int32)), (0, zR a0), (1, zI a1), (2, zI a2)]) d_Mo_registered_59 rfl rfl (Nat.le_of_ble_eq_true rfl) rfl ?_
            refine zs_goto (pc := 62) (tgt := 5) d_Mo_registered_62 rfl ?_
            refine zs_sub (lv' := [(0, zR a0), (1, zI a1), (2, zI a2), (3, zI (0 : Int32)), (4, zI (a4 + (1 : Int32)))]) [2, 3, 4, 1, 0] rfl ?_
            exact ih a0 a1 a2 (0 : Int32) (a4 + (1 : Int32))
          · refine zs_sub (lv' := [(0, zR a0), (1, zI a1), (2, zI a2), (4, zI a4)]) [0, 1, 2, 4] rfl ?_
            exact jj_Mo_registered_53 hd fu H (fun x0 x1 x2 x3 x4 => jL_Mo_registered_5 fu H g x0 x1 x2 x3 x4) ih a0 a1 a2 a4
theorem jm_Mo_registered {E : zE} {d : Nat} (hd : 0 ≤ d) (fu : Nat) (a0 : Option Nat) (a1 : Int32) (a2 : Int32) (H : zH) : z_MS E jM_Mo_registered d 0 0 (zrI H) [zR a0, zI a1, zI a2] H (jF_Mo_registered fu a0 a1 a2 H) := by
  refine zs_of (lv0 := [(0, zR a0), (1, zI a1), (2, zI a2)]) pn_Mo (Nat.le_of_ble_eq_true rfl) rfl ?_
  unfold jF_Mo_registered
  refine zs_bind fun _ _ => ?_
  refine zs_iconst (pc := 0) (v := (0 : Int32)) d_Mo_registered_0 (by decide) ?_
  refine zs_istore_n (pc := 1) (lv' := [(3, zI (0 : Int32)), (0, zR a0), (1, zI a1), (2, zI a2)]) d_Mo_registered_1 (Nat.le_of_ble_eq_true rfl) rfl ?_
  refine zs_iconst (pc := 2) (v := (0 : Int32)) d_Mo_registered_2 (by decide) ?_
  refine zs_istore (pc := 3) (lv' := [(4, zI (0 : Int32)), (3, zI (0 : Int32)), (0, zR a0), (1, zI a1), (2, zI a2)]) d_Mo_registered_3 (Nat.le_of_ble_eq_true rfl) rfl ?_
  refine zs_sub (lv' := [(0, zR a0), (1, zI a1), (2, zI a2), (3, zI (0 : Int32)), (4, zI (0 : Int32))]) [2, 3, 4, 1, 0] rfl ?_
  exact jl_Mo_registered_5 hd fu H fu a0 a1 a2 (0 : Int32) (0 : Int32)
def jL_Mo_versions_20 (fu : Nat) (H : zH) : Nat → Option Nat → Int32 → Int32 → Int32 → Option Int32
  | 0, _, _, _, _ => none
  | g + 1, a0, a1, a2, a3 =>
    (zgR H a0 1 14).bind fun v22 =>
    (zaI H v22 0 (32 : Int32)).bind fun v27 =>
    if v27 ≤ a3 then (
      some a2)
    else (
      (zgR H a0 1 14).bind fun v33 =>
      (zaI H v33 0 ((33 : Int32) + ((2 : Int32) * a3))).bind fun v42 =>
      if v42 = a1 then (
        jL_Mo_versions_20 fu H g a0 a1 (a2 + (1 : Int32)) (a3 + (1 : Int32)))
      else (
        jL_Mo_versions_20 fu H g a0 a1 (a2 + (0 : Int32)) (a3 + (1 : Int32))))
def jF_Mo_versions (fu : Nat) (a0 : Option Nat) (a1 : Int32) (H : zH) : Option Int32 :=
  (zok H a0 1).bind fun _ =>
  (zgI H a0 1 16).bind fun v1 =>
  if v1 = 0 then (
    (jF_Mo_noSubject a1 H).bind fun y8 =>
    if y8 = 0 then (
      jL_Mo_versions_20 fu H fu a0 a1 (0 : Int32) (0 : Int32))
    else (
      some (-1 : Int32)))
  else (
    some (-1 : Int32))
theorem jl_Mo_versions_20 {E : zE} {d : Nat} (hd : 1 ≤ d) (fu : Nat) (H : zH) : ∀ (g : Nat), ∀ (a0 : Option Nat) (a1 : Int32) (a2 : Int32) (a3 : Int32), z_S E jM_Mo_versions d 0 0 (zrI H) 20 [(0, zR a0), (1, zI a1), (2, zI a2), (3, zI a3)] [] H 0 0 (jL_Mo_versions_20 fu H g a0 a1 a2 a3) := by
  intro g
  induction g with
  | zero => intros; exact zs_none
  | succ g ih =>
    intro a0 a1 a2 a3
    rw [jL_Mo_versions_20]
    refine zs_iload_n (pc := 20) (x := a3) d_Mo_versions_20 rfl ?_
    refine zs_aload_n (pc := 21) (x := a0) d_Mo_versions_21 rfl ?_
    refine zs_getR (pc := 22) d_Mo_versions_22 kF_Mo_48 fun v22 => ?_
    refine zs_bipush (pc := 25) (v := (32 : Int32)) d_Mo_versions_25 (by decide) ?_
    refine zs_iald (t := 0) (pc := 27) d_Mo_versions_27 rfl fun v27 => ?_
    refine zs_icmp_ge (pc := 28) (tgt := 60) d_Mo_versions_28 rfl (fun q28 => ?_) (fun q28 => ?_)
    · refine zs_iload_n (pc := 60) (x := a2) d_Mo_versions_60 rfl ?_
      exact zs_iret (pc := 61) d_Mo_versions_61 rfl (Nat.le_of_ble_eq_true rfl) (Nat.le_of_ble_eq_true rfl) rfl
    · refine zs_iload_n (pc := 31) (x := a2) d_Mo_versions_31 rfl ?_
      refine zs_aload_n (pc := 32) (x := a0) d_Mo_versions_32 rfl ?_
      refine zs_getR (pc := 33) d_Mo_versions_33 kF_Mo_48 fun v33 => ?_
      refine zs_bipush (pc := 36) (v := (33 : Int32)) d_Mo_versions_36 (by decide) ?_
      refine zs_iconst (pc := 38) (v := (2 : Int32)) d_Mo_versions_38 (by decide) ?_
      refine zs_iload_n (pc := 39) (x := a3) d_Mo_versions_39 rfl ?_
      refine zs_imul (pc := 40) d_Mo_versions_40 ?_
      refine zs_iadd (pc := 41) d_Mo_versions_41 ?_
      refine zs_iald (t := 0) (pc := 42) d_Mo_versions_42 rfl fun v42 => ?_
      refine zs_iload_n (pc := 43) (x := a1) d_Mo_versions_43 rfl ?_
      refine zs_icmp_ne (pc := 44) (tgt := 51) d_Mo_versions_44 rfl (fun q44 => ?_) (fun q44 => ?_)
      · refine zs_iconst (pc := 51) (v := (0 : Int32)) d_Mo_versions_51 (by decide) ?_
        refine zs_iadd (pc := 52) d_Mo_versions_52 ?_
        refine zs_istore_n (pc := 53) (lv' := [(2, zI (a2 + (0 : Int32))), (0, zR a0), (1, zI a1), (3, zI a3)]) d_Mo_versions_53 (Nat.le_of_ble_eq_true rfl) rfl ?_
        refine zs_iinc (pc := 54) (x := a3) (v := (a3 + (1 : Int32))) (lv' := [(3, zI (a3 + (1 : Int32))), (2, zI (a2 + (0 : Int32))), (0, zR a0), (1, zI a1)]) d_Mo_versions_54 rfl rfl (Nat.le_of_ble_eq_true rfl) rfl ?_
        refine zs_goto (pc := 57) (tgt := 20) d_Mo_versions_57 rfl ?_
        refine zs_sub (lv' := [(0, zR a0), (1, zI a1), (2, zI (a2 + (0 : Int32))), (3, zI (a3 + (1 : Int32)))]) [2, 3, 1, 0] rfl ?_
        exact ih a0 a1 (a2 + (0 : Int32)) (a3 + (1 : Int32))
      · refine zs_iconst (pc := 47) (v := (1 : Int32)) d_Mo_versions_47 (by decide) ?_
        refine zs_goto (pc := 48) (tgt := 52) d_Mo_versions_48 rfl ?_
        refine zs_iadd (pc := 52) d_Mo_versions_52 ?_
        refine zs_istore_n (pc := 53) (lv' := [(2, zI (a2 + (1 : Int32))), (0, zR a0), (1, zI a1), (3, zI a3)]) d_Mo_versions_53 (Nat.le_of_ble_eq_true rfl) rfl ?_
        refine zs_iinc (pc := 54) (x := a3) (v := (a3 + (1 : Int32))) (lv' := [(3, zI (a3 + (1 : Int32))), (2, zI (a2 + (1 : Int32))), (0, zR a0), (1, zI a1)]) d_Mo_versions_54 rfl rfl (Nat.le_of_ble_eq_true rfl) rfl ?_
        refine zs_goto (pc := 57) (tgt := 20) d_Mo_versions_57 rfl ?_
        refine zs_sub (lv' := [(0, zR a0), (1, zI a1), (2, zI (a2 + (1 : Int32))), (3, zI (a3 + (1 : Int32)))]) [2, 3, 1, 0] rfl ?_
        exact ih a0 a1 (a2 + (1 : Int32)) (a3 + (1 : Int32))
theorem jm_Mo_versions {E : zE} {d : Nat} (hd : 1 ≤ d) (fu : Nat) (a0 : Option Nat) (a1 : Int32) (H : zH) : z_MS E jM_Mo_versions d 0 0 (zrI H) [zR a0, zI a1] H (jF_Mo_versions fu a0 a1 H) := by
  refine zs_of (lv0 := [(0, zR a0), (1, zI a1)]) pn_Mo (Nat.le_of_ble_eq_true rfl) rfl ?_
  unfold jF_Mo_versions
  refine zs_bind fun _ _ => ?_
  refine zs_aload_n (pc := 0) (x := a0) d_Mo_versions_0 rfl ?_
  refine zs_getI (pc := 1) d_Mo_versions_1 kF_Mo_165 fun v1 => ?_
  refine zs_if_ne (pc := 4) (tgt := 14) d_Mo_versions_4 rfl (fun q4 => ?_) (fun q4 => ?_)
  · refine zs_iconst (pc := 14) (v := (-1 : Int32)) d_Mo_versions_14 (by decide) ?_
    exact zs_iret (pc := 15) d_Mo_versions_15 rfl (Nat.le_of_ble_eq_true rfl) (Nat.le_of_ble_eq_true rfl) rfl
  · refine zs_iload_n (pc := 7) (x := a1) d_Mo_versions_7 rfl ?_
    refine zs_calls_rI (pc := 8) (av := [zI a1]) (st := []) (d' := 0) (C' := 0) (S' := 0) d_Mo_versions_8 kS_Mo_193 (jm_Mo_noSubject (d := 0) (Nat.le_refl _) a1 H) (by omega) (Nat.le_of_ble_eq_true rfl) (Nat.le_of_ble_eq_true rfl) rfl rfl (Nat.le_of_ble_eq_true rfl) fun y8 => ?_
    refine zs_if_eq (pc := 11) (tgt := 16) d_Mo_versions_11 rfl (fun q11 => ?_) (fun q11 => ?_)
    · refine zs_iconst (pc := 16) (v := (0 : Int32)) d_Mo_versions_16 (by decide) ?_
      refine zs_istore_n (pc := 17) (lv' := [(2, zI (0 : Int32)), (0, zR a0), (1, zI a1)]) d_Mo_versions_17 (Nat.le_of_ble_eq_true rfl) rfl ?_
      refine zs_iconst (pc := 18) (v := (0 : Int32)) d_Mo_versions_18 (by decide) ?_
      refine zs_istore_n (pc := 19) (lv' := [(3, zI (0 : Int32)), (2, zI (0 : Int32)), (0, zR a0), (1, zI a1)]) d_Mo_versions_19 (Nat.le_of_ble_eq_true rfl) rfl ?_
      refine zs_sub (lv' := [(0, zR a0), (1, zI a1), (2, zI (0 : Int32)), (3, zI (0 : Int32))]) [2, 3, 1, 0] rfl ?_
      exact jl_Mo_versions_20 hd fu H fu a0 a1 (0 : Int32) (0 : Int32)
    · refine zs_iconst (pc := 14) (v := (-1 : Int32)) d_Mo_versions_14 (by decide) ?_
      exact zs_iret (pc := 15) d_Mo_versions_15 rfl (Nat.le_of_ble_eq_true rfl) (Nat.le_of_ble_eq_true rfl) rfl
def jL_Mo_register_118 (fu : Nat) : Nat → Option Nat → Int32 → Int32 → Int32 → Int32 → zH → Option (Int32 × zH)
  | 0, _, _, _, _, _, _ => none
  | g + 1, a0, a1, a2, a3, a4, H =>
    if (32 : Int32) ≤ a4 then (
      (zgR H a0 1 29).bind fun v149 =>
      (zgR H a0 1 29).bind fun v155 =>
      (zaI H v155 0 (0 : Int32)).bind fun v159 =>
      (zsI H v149 0 ((1 : Int32) + ((2 : Int32) * v159)) a1).bind fun H163 =>
      (zgR H163 a0 1 29).bind fun v165 =>
      (zgR H163 a0 1 29).bind fun v171 =>
      (zaI H163 v171 0 (0 : Int32)).bind fun v175 =>
      (zsI H163 v165 0 ((2 : Int32) + ((2 : Int32) * v175)) a2).bind fun H179 =>
      (zgR H179 a0 1 29).bind fun v181 =>
      (zaI H179 v181 0 (0 : Int32)).bind fun v186 =>
      (zsI H179 v181 0 (0 : Int32) (v186 + (1 : Int32))).bind fun H189 =>
      (jF_Mo_write fu a0 (1 : Int32) H189).bind fun y192 =>
      if y192.1 = 0 then (
        some ((-4 : Int32), y192.2))
      else (
        some (a3, y192.2)))
    else (
      (zgR H a0 1 29).bind fun v126 =>
      (zgR H a0 1 14).bind fun v132 =>
      (zaI H v132 0 ((32 : Int32) + a4)).bind fun v140 =>
      (zsI H v126 0 a4 v140).bind fun H141 =>
      jL_Mo_register_118 fu g a0 a1 a2 a3 (a4 + (1 : Int32)) H141)
def jL_Mo_register_50 (fu : Nat) : Nat → Option Nat → Int32 → Int32 → Int32 → zH → Option (Int32 × zH)
  | 0, _, _, _, _, _ => none
  | g + 1, a0, a1, a2, a3, H =>
    (zgR H a0 1 14).bind fun v52 =>
    (zaI H v52 0 (32 : Int32)).bind fun v57 =>
    if v57 ≤ a3 then (
      (jF_Mo_versions fu a0 a1 H).bind fun y111 =>
      jL_Mo_register_118 fu fu a0 a1 a2 y111 (0 : Int32) H)
    else (
      (zgR H a0 1 14).bind fun v62 =>
      (zaI H v62 0 ((33 : Int32) + ((2 : Int32) * a3))).bind fun v71 =>
      if v71 = a1 then (
        (zgR H a0 1 12).bind fun v77 =>
        (zgR H a0 1 14).bind fun v85 =>
        (zaI H v85 0 ((34 : Int32) + ((2 : Int32) * a3))).bind fun v94 =>
        (zaI H v77 1 (((24 : Int32) * a2) + v94)).bind fun v96 =>
        if v96 = 0 then (
          some ((-2 : Int32), H))
        else (
          jL_Mo_register_50 fu g a0 a1 a2 (a3 + (1 : Int32)) H))
      else (
        jL_Mo_register_50 fu g a0 a1 a2 (a3 + (1 : Int32)) H))
def jF_Mo_register (fu : Nat) (a0 : Option Nat) (a1 : Int32) (a2 : Int32) (H : zH) : Option (Int32 × zH) :=
  (zok H a0 1).bind fun _ =>
  (zgI H a0 1 16).bind fun v1 =>
  if v1 = 0 then (
    (jF_Mo_noSubject a1 H).bind fun y11 =>
    if y11 = 0 then (
      (jF_Mo_noSchema a0 a2 H).bind fun y19 =>
      if y19 = 0 then (
        (jF_Mo_registered fu a0 a1 a2 H).bind fun y28 =>
        if y28 = 0 then (
          (zgR H a0 1 14).bind fun v35 =>
          (zaI H v35 0 (32 : Int32)).bind fun v40 =>
          if v40 = (10 : Int32) then (
            some ((-1 : Int32), H))
          else (
            jL_Mo_register_50 fu fu a0 a1 a2 (0 : Int32) H))
        else (
          some ((-1 : Int32), H)))
      else (
        some ((-1 : Int32), H)))
    else (
      some ((-1 : Int32), H)))
  else (
    some ((-4 : Int32), H))
theorem jl_Mo_register_118 {E : zE} {d : Nat} (hd : 2 ≤ d) (fu : Nat) : ∀ (g : Nat), ∀ (a0 : Option Nat) (a1 : Int32) (a2 : Int32) (a3 : Int32) (a4 : Int32) (H : zH), z_S E jM_Mo_register d 0 0 zwI 118 [(0, zR a0), (1, zI a1), (2, zI a2), (3, zI a3), (4, zI a4)] [] H 0 0 (jL_Mo_register_118 fu g a0 a1 a2 a3 a4 H) := by
  intro g
  induction g with
  | zero => intros; exact zs_none
  | succ g ih =>
    intro a0 a1 a2 a3 a4 H
    rw [jL_Mo_register_118]
    refine zs_iload (pc := 118) (x := a4) d_Mo_register_118 rfl ?_
    refine zs_bipush (pc := 120) (v := (32 : Int32)) d_Mo_register_120 (by decide) ?_
    refine zs_icmp_ge (pc := 122) (tgt := 148) d_Mo_register_122 rfl (fun q122 => ?_) (fun q122 => ?_)
    · refine zs_aload_n (pc := 148) (x := a0) d_Mo_register_148 rfl ?_
      refine zs_getR (pc := 149) d_Mo_register_149 kF_Mo_63 fun v149 => ?_
      refine zs_iconst (pc := 152) (v := (1 : Int32)) d_Mo_register_152 (by decide) ?_
      refine zs_iconst (pc := 153) (v := (2 : Int32)) d_Mo_register_153 (by decide) ?_
      refine zs_aload_n (pc := 154) (x := a0) d_Mo_register_154 rfl ?_
      refine zs_getR (pc := 155) d_Mo_register_155 kF_Mo_63 fun v155 => ?_
      refine zs_iconst (pc := 158) (v := (0 : Int32)) d_Mo_register_158 (by decide) ?_
      refine zs_iald (t := 0) (pc := 159) d_Mo_register_159 rfl fun v159 => ?_
      refine zs_imul (pc := 160) d_Mo_register_160 ?_
      refine zs_iadd (pc := 161) d_Mo_register_161 ?_
      refine zs_iload_n (pc := 162) (x := a1) d_Mo_register_162 rfl ?_
      refine zs_iast (t := 0) (pc := 163) d_Mo_register_163 rfl fun H163 => ?_
      refine zs_aload_n (pc := 164) (x := a0) d_Mo_register_164 rfl ?_
      refine zs_getR (pc := 165) d_Mo_register_165 kF_Mo_63 fun v165 => ?_
      refine zs_iconst (pc := 168) (v := (2 : Int32)) d_Mo_register_168 (by decide) ?_
      refine zs_iconst (pc := 169) (v := (2 : Int32)) d_Mo_register_169 (by decide) ?_
      refine zs_aload_n (pc := 170) (x := a0) d_Mo_register_170 rfl ?_
      refine zs_getR (pc := 171) d_Mo_register_171 kF_Mo_63 fun v171 => ?_
      refine zs_iconst (pc := 174) (v := (0 : Int32)) d_Mo_register_174 (by decide) ?_
      refine zs_iald (t := 0) (pc := 175) d_Mo_register_175 rfl fun v175 => ?_
      refine zs_imul (pc := 176) d_Mo_register_176 ?_
      refine zs_iadd (pc := 177) d_Mo_register_177 ?_
      refine zs_iload_n (pc := 178) (x := a2) d_Mo_register_178 rfl ?_
      refine zs_iast (t := 0) (pc := 179) d_Mo_register_179 rfl fun H179 => ?_
      refine zs_aload_n (pc := 180) (x := a0) d_Mo_register_180 rfl ?_
      refine zs_getR (pc := 181) d_Mo_register_181 kF_Mo_63 fun v181 => ?_
      refine zs_iconst (pc := 184) (v := (0 : Int32)) d_Mo_register_184 (by decide) ?_
      refine zs_dup2 (pc := 185) d_Mo_register_185 rfl rfl ?_
      refine zs_iald (t := 0) (pc := 186) d_Mo_register_186 rfl fun v186 => ?_
      refine zs_iconst (pc := 187) (v := (1 : Int32)) d_Mo_register_187 (by decide) ?_
      refine zs_iadd (pc := 188) d_Mo_register_188 ?_
      refine zs_iast (t := 0) (pc := 189) d_Mo_register_189 rfl fun H189 => ?_
      refine zs_aload_n (pc := 190) (x := a0) d_Mo_register_190 rfl ?_
      refine zs_iconst (pc := 191) (v := (1 : Int32)) d_Mo_register_191 (by decide) ?_
      refine zs_callv_wI (pc := 192) (av := [zI (1 : Int32)]) (st := []) (d' := 0) (C' := 0) (S' := 0) d_Mo_register_192 kV_Mo_183 z_okb (jm_Mo_write (d := 0) (Nat.le_refl _) fu a0 (1 : Int32) H189) (by omega) (Nat.le_of_ble_eq_true rfl) (Nat.le_of_ble_eq_true rfl) rfl rfl (Nat.le_of_ble_eq_true rfl) fun y192 => ?_
      refine zs_if_eq (pc := 195) (tgt := 202) d_Mo_register_195 rfl (fun q195 => ?_) (fun q195 => ?_)
      · refine zs_bipush (pc := 202) (v := (-4 : Int32)) d_Mo_register_202 (by decide) ?_
        exact zs_iret (pc := 204) d_Mo_register_204 rfl (Nat.le_of_ble_eq_true rfl) (Nat.le_of_ble_eq_true rfl) rfl
      · refine zs_iload_n (pc := 198) (x := a3) d_Mo_register_198 rfl ?_
        refine zs_goto (pc := 199) (tgt := 204) d_Mo_register_199 rfl ?_
        exact zs_iret (pc := 204) d_Mo_register_204 rfl (Nat.le_of_ble_eq_true rfl) (Nat.le_of_ble_eq_true rfl) rfl
    · refine zs_aload_n (pc := 125) (x := a0) d_Mo_register_125 rfl ?_
      refine zs_getR (pc := 126) d_Mo_register_126 kF_Mo_63 fun v126 => ?_
      refine zs_iload (pc := 129) (x := a4) d_Mo_register_129 rfl ?_
      refine zs_aload_n (pc := 131) (x := a0) d_Mo_register_131 rfl ?_
      refine zs_getR (pc := 132) d_Mo_register_132 kF_Mo_48 fun v132 => ?_
      refine zs_bipush (pc := 135) (v := (32 : Int32)) d_Mo_register_135 (by decide) ?_
      refine zs_iload (pc := 137) (x := a4) d_Mo_register_137 rfl ?_
      refine zs_iadd (pc := 139) d_Mo_register_139 ?_
      refine zs_iald (t := 0) (pc := 140) d_Mo_register_140 rfl fun v140 => ?_
      refine zs_iast (t := 0) (pc := 141) d_Mo_register_141 rfl fun H141 => ?_
      refine zs_iinc (pc := 142) (x := a4) (v := (a4 + (1 : Int32))) (lv' := [(4, zI (a4 + (1 : Int32))), (0, zR a0), (1, zI a1), (2, zI a2), (3, zI a3)]) d_Mo_register_142 rfl rfl (Nat.le_of_ble_eq_true rfl) rfl ?_
      refine zs_goto (pc := 145) (tgt := 118) d_Mo_register_145 rfl ?_
      refine zs_sub (lv' := [(0, zR a0), (1, zI a1), (2, zI a2), (3, zI a3), (4, zI (a4 + (1 : Int32)))]) [1, 2, 3, 4, 0] rfl ?_
      exact ih a0 a1 a2 a3 (a4 + (1 : Int32)) H141
theorem jl_Mo_register_50 {E : zE} {d : Nat} (hd : 2 ≤ d) (fu : Nat) : ∀ (g : Nat), ∀ (a0 : Option Nat) (a1 : Int32) (a2 : Int32) (a3 : Int32) (H : zH), z_S E jM_Mo_register d 0 0 zwI 50 [(0, zR a0), (1, zI a1), (2, zI a2), (3, zI a3)] [] H 0 0 (jL_Mo_register_50 fu g a0 a1 a2 a3 H) := by
  intro g
  induction g with
  | zero => intros; exact zs_none
  | succ g ih =>
    intro a0 a1 a2 a3 H
    rw [jL_Mo_register_50]
    refine zs_iload_n (pc := 50) (x := a3) d_Mo_register_50 rfl ?_
    refine zs_aload_n (pc := 51) (x := a0) d_Mo_register_51 rfl ?_
    refine zs_getR (pc := 52) d_Mo_register_52 kF_Mo_48 fun v52 => ?_
    refine zs_bipush (pc := 55) (v := (32 : Int32)) d_Mo_register_55 (by decide) ?_
    refine zs_iald (t := 0) (pc := 57) d_Mo_register_57 rfl fun v57 => ?_
    refine zs_icmp_ge (pc := 58) (tgt := 109) d_Mo_register_58 rfl (fun q58 => ?_) (fun q58 => ?_)
    · refine zs_aload_n (pc := 109) (x := a0) d_Mo_register_109 rfl ?_
      refine zs_iload_n (pc := 110) (x := a1) d_Mo_register_110 rfl ?_
      refine zs_callv_rI (pc := 111) (av := [zI a1]) (st := []) (d' := 1) (C' := 0) (S' := 0) d_Mo_register_111 kV_Mo_199 z_okb (jm_Mo_versions (d := 1) (Nat.le_refl _) fu a0 a1 H) (by omega) (Nat.le_of_ble_eq_true rfl) (Nat.le_of_ble_eq_true rfl) rfl rfl (Nat.le_of_ble_eq_true rfl) fun y111 => ?_
      refine zs_istore_n (pc := 114) (lv' := [(3, zI y111), (0, zR a0), (1, zI a1), (2, zI a2)]) d_Mo_register_114 (Nat.le_of_ble_eq_true rfl) rfl ?_
      refine zs_iconst (pc := 115) (v := (0 : Int32)) d_Mo_register_115 (by decide) ?_
      refine zs_istore (pc := 116) (lv' := [(4, zI (0 : Int32)), (3, zI y111), (0, zR a0), (1, zI a1), (2, zI a2)]) d_Mo_register_116 (Nat.le_of_ble_eq_true rfl) rfl ?_
      refine zs_sub (lv' := [(0, zR a0), (1, zI a1), (2, zI a2), (3, zI y111), (4, zI (0 : Int32))]) [2, 3, 4, 1, 0] rfl ?_
      exact jl_Mo_register_118 hd fu fu a0 a1 a2 y111 (0 : Int32) H
    · refine zs_aload_n (pc := 61) (x := a0) d_Mo_register_61 rfl ?_
      refine zs_getR (pc := 62) d_Mo_register_62 kF_Mo_48 fun v62 => ?_
      refine zs_bipush (pc := 65) (v := (33 : Int32)) d_Mo_register_65 (by decide) ?_
      refine zs_iconst (pc := 67) (v := (2 : Int32)) d_Mo_register_67 (by decide) ?_
      refine zs_iload_n (pc := 68) (x := a3) d_Mo_register_68 rfl ?_
      refine zs_imul (pc := 69) d_Mo_register_69 ?_
      refine zs_iadd (pc := 70) d_Mo_register_70 ?_
      refine zs_iald (t := 0) (pc := 71) d_Mo_register_71 rfl fun v71 => ?_
      refine zs_iload_n (pc := 72) (x := a1) d_Mo_register_72 rfl ?_
      refine zs_icmp_ne (pc := 73) (tgt := 103) d_Mo_register_73 rfl (fun q73 => ?_) (fun q73 => ?_)
      · refine zs_iinc (pc := 103) (x := a3) (v := (a3 + (1 : Int32))) (lv' := [(3, zI (a3 + (1 : Int32))), (0, zR a0), (1, zI a1), (2, zI a2)]) d_Mo_register_103 rfl rfl (Nat.le_of_ble_eq_true rfl) rfl ?_
        refine zs_goto (pc := 106) (tgt := 50) d_Mo_register_106 rfl ?_
        refine zs_sub (lv' := [(0, zR a0), (1, zI a1), (2, zI a2), (3, zI (a3 + (1 : Int32)))]) [1, 2, 3, 0] rfl ?_
        exact ih a0 a1 a2 (a3 + (1 : Int32)) H
      · refine zs_aload_n (pc := 76) (x := a0) d_Mo_register_76 rfl ?_
        refine zs_getR (pc := 77) d_Mo_register_77 kF_Mo_45 fun v77 => ?_
        refine zs_bipush (pc := 80) (v := (24 : Int32)) d_Mo_register_80 (by decide) ?_
        refine zs_iload_n (pc := 82) (x := a2) d_Mo_register_82 rfl ?_
        refine zs_imul (pc := 83) d_Mo_register_83 ?_
        refine zs_aload_n (pc := 84) (x := a0) d_Mo_register_84 rfl ?_
        refine zs_getR (pc := 85) d_Mo_register_85 kF_Mo_48 fun v85 => ?_
        refine zs_bipush (pc := 88) (v := (34 : Int32)) d_Mo_register_88 (by decide) ?_
        refine zs_iconst (pc := 90) (v := (2 : Int32)) d_Mo_register_90 (by decide) ?_
        refine zs_iload_n (pc := 91) (x := a3) d_Mo_register_91 rfl ?_
        refine zs_imul (pc := 92) d_Mo_register_92 ?_
        refine zs_iadd (pc := 93) d_Mo_register_93 ?_
        refine zs_iald (t := 0) (pc := 94) d_Mo_register_94 rfl fun v94 => ?_
        refine zs_iadd (pc := 95) d_Mo_register_95 ?_
        refine zs_zald (t := 1) (pc := 96) d_Mo_register_96 rfl fun v96 => ?_
        refine zs_if_ne (pc := 97) (tgt := 103) d_Mo_register_97 rfl (fun q97 => ?_) (fun q97 => ?_)
        · refine zs_iinc (pc := 103) (x := a3) (v := (a3 + (1 : Int32))) (lv' := [(3, zI (a3 + (1 : Int32))), (0, zR a0), (1, zI a1), (2, zI a2)]) d_Mo_register_103 rfl rfl (Nat.le_of_ble_eq_true rfl) rfl ?_
          refine zs_goto (pc := 106) (tgt := 50) d_Mo_register_106 rfl ?_
          refine zs_sub (lv' := [(0, zR a0), (1, zI a1), (2, zI a2), (3, zI (a3 + (1 : Int32)))]) [1, 2, 3, 0] rfl ?_
          exact ih a0 a1 a2 (a3 + (1 : Int32)) H
        · refine zs_bipush (pc := 100) (v := (-2 : Int32)) d_Mo_register_100 (by decide) ?_
          exact zs_iret (pc := 102) d_Mo_register_102 rfl (Nat.le_of_ble_eq_true rfl) (Nat.le_of_ble_eq_true rfl) rfl
theorem jm_Mo_register {E : zE} {d : Nat} (hd : 2 ≤ d) (fu : Nat) (a0 : Option Nat) (a1 : Int32) (a2 : Int32) (H : zH) : z_MS E jM_Mo_register d 0 0 zwI [zR a0, zI a1, zI a2] H (jF_Mo_register fu a0 a1 a2 H) := by
  refine zs_of (lv0 := [(0, zR a0), (1, zI a1), (2, zI a2)]) pn_Mo (Nat.le_of_ble_eq_true rfl) rfl ?_
  unfold jF_Mo_register
  refine zs_bind fun _ _ => ?_
  refine zs_aload_n (pc := 0) (x := a0) d_Mo_register_0 rfl ?_
  refine zs_getI (pc := 1) d_Mo_register_1 kF_Mo_165 fun v1 => ?_
  refine zs_if_eq (pc := 4) (tgt := 10) d_Mo_register_4 rfl (fun q4 => ?_) (fun q4 => ?_)
  · refine zs_iload_n (pc := 10) (x := a1) d_Mo_register_10 rfl ?_
    refine zs_calls_rI (pc := 11) (av := [zI a1]) (st := []) (d' := 0) (C' := 0) (S' := 0) d_Mo_register_11 kS_Mo_193 (jm_Mo_noSubject (d := 0) (Nat.le_refl _) a1 H) (by omega) (Nat.le_of_ble_eq_true rfl) (Nat.le_of_ble_eq_true rfl) rfl rfl (Nat.le_of_ble_eq_true rfl) fun y11 => ?_
    refine zs_if_ne (pc := 14) (tgt := 46) d_Mo_register_14 rfl (fun q14 => ?_) (fun q14 => ?_)
    · refine zs_iconst (pc := 46) (v := (-1 : Int32)) d_Mo_register_46 (by decide) ?_
      exact zs_iret (pc := 47) d_Mo_register_47 rfl (Nat.le_of_ble_eq_true rfl) (Nat.le_of_ble_eq_true rfl) rfl
    · refine zs_aload_n (pc := 17) (x := a0) d_Mo_register_17 rfl ?_
      refine zs_iload_n (pc := 18) (x := a2) d_Mo_register_18 rfl ?_
      refine zs_callv_rI (pc := 19) (av := [zI a2]) (st := []) (d' := 0) (C' := 0) (S' := 0) d_Mo_register_19 kV_Mo_92 z_okb (jm_Mo_noSchema (d := 0) (Nat.le_refl _) a0 a2 H) (by omega) (Nat.le_of_ble_eq_true rfl) (Nat.le_of_ble_eq_true rfl) rfl rfl (Nat.le_of_ble_eq_true rfl) fun y19 => ?_
      refine zs_if_ne (pc := 22) (tgt := 46) d_Mo_register_22 rfl (fun q22 => ?_) (fun q22 => ?_)
      · refine zs_iconst (pc := 46) (v := (-1 : Int32)) d_Mo_register_46 (by decide) ?_
        exact zs_iret (pc := 47) d_Mo_register_47 rfl (Nat.le_of_ble_eq_true rfl) (Nat.le_of_ble_eq_true rfl) rfl
      · refine zs_aload_n (pc := 25) (x := a0) d_Mo_register_25 rfl ?_
        refine zs_iload_n (pc := 26) (x := a1) d_Mo_register_26 rfl ?_
        refine zs_iload_n (pc := 27) (x := a2) d_Mo_register_27 rfl ?_
        refine zs_callv_rI (pc := 28) (av := [zI a1, zI a2]) (st := []) (d' := 0) (C' := 0) (S' := 0) d_Mo_register_28 kV_Mo_196 z_okb (jm_Mo_registered (d := 0) (Nat.le_refl _) fu a0 a1 a2 H) (by omega) (Nat.le_of_ble_eq_true rfl) (Nat.le_of_ble_eq_true rfl) rfl rfl (Nat.le_of_ble_eq_true rfl) fun y28 => ?_
        refine zs_if_ne (pc := 31) (tgt := 46) d_Mo_register_31 rfl (fun q31 => ?_) (fun q31 => ?_)
        · refine zs_iconst (pc := 46) (v := (-1 : Int32)) d_Mo_register_46 (by decide) ?_
          exact zs_iret (pc := 47) d_Mo_register_47 rfl (Nat.le_of_ble_eq_true rfl) (Nat.le_of_ble_eq_true rfl) rfl
        · refine zs_aload_n (pc := 34) (x := a0) d_Mo_register_34 rfl ?_
          refine zs_getR (pc := 35) d_Mo_register_35 kF_Mo_48 fun v35 => ?_
          refine zs_bipush (pc := 38) (v := (32 : Int32)) d_Mo_register_38 (by decide) ?_
          refine zs_iald (t := 0) (pc := 40) d_Mo_register_40 rfl fun v40 => ?_
          refine zs_bipush (pc := 41) (v := (10 : Int32)) d_Mo_register_41 (by decide) ?_
          refine zs_icmp_ne (pc := 43) (tgt := 48) d_Mo_register_43 rfl (fun q43 => ?_) (fun q43 => ?_)
          · refine zs_iconst (pc := 48) (v := (0 : Int32)) d_Mo_register_48 (by decide) ?_
            refine zs_istore_n (pc := 49) (lv' := [(3, zI (0 : Int32)), (0, zR a0), (1, zI a1), (2, zI a2)]) d_Mo_register_49 (Nat.le_of_ble_eq_true rfl) rfl ?_
            refine zs_sub (lv' := [(0, zR a0), (1, zI a1), (2, zI a2), (3, zI (0 : Int32))]) [1, 2, 3, 0] rfl ?_
            exact jl_Mo_register_50 hd fu fu a0 a1 a2 (0 : Int32) H
          · refine zs_iconst (pc := 46) (v := (-1 : Int32)) d_Mo_register_46 (by decide) ?_
            exact zs_iret (pc := 47) d_Mo_register_47 rfl (Nat.le_of_ble_eq_true rfl) (Nat.le_of_ble_eq_true rfl) rfl
  · refine zs_bipush (pc := 7) (v := (-4 : Int32)) d_Mo_register_7 (by decide) ?_
    exact zs_iret (pc := 9) d_Mo_register_9 rfl (Nat.le_of_ble_eq_true rfl) (Nat.le_of_ble_eq_true rfl) rfl
def jL_Mo_version_25 (fu : Nat) (H : zH) : Nat → Option Nat → Int32 → Int32 → Int32 → Int32 → Option Int32
  | 0, _, _, _, _, _ => none
  | g + 1, a0, a1, a2, a3, a4 =>
    (zgR H a0 1 14).bind fun v28 =>
    (zaI H v28 0 (32 : Int32)).bind fun v33 =>
    if v33 ≤ a4 then (
      some (-1 : Int32))
    else (
      (zgR H a0 1 14).bind fun v38 =>
      (zaI H v38 0 ((33 : Int32) + ((2 : Int32) * a4))).bind fun v48 =>
      if v48 = a1 then (
        if a3 = a2 then (
          (zgR H a0 1 14).bind fun v59 =>
          (zaI H v59 0 ((34 : Int32) + ((2 : Int32) * a4))).bind fun v69 =>
          some v69)
        else (
          jL_Mo_version_25 fu H g a0 a1 a2 (a3 + (1 : Int32)) (a4 + (1 : Int32))))
      else (
        jL_Mo_version_25 fu H g a0 a1 a2 a3 (a4 + (1 : Int32))))
def jF_Mo_version (fu : Nat) (a0 : Option Nat) (a1 : Int32) (a2 : Int32) (H : zH) : Option Int32 :=
  (zok H a0 1).bind fun _ =>
  (zgI H a0 1 16).bind fun v1 =>
  if v1 = 0 then (
    (jF_Mo_noSubject a1 H).bind fun y8 =>
    if y8 = 0 then (
      if 0 ≤ a2 then (
        jL_Mo_version_25 fu H fu a0 a1 a2 (0 : Int32) (0 : Int32))
      else (
        some (-1 : Int32)))
    else (
      some (-1 : Int32)))
  else (
    some (-1 : Int32))
theorem jl_Mo_version_25 {E : zE} {d : Nat} (hd : 1 ≤ d) (fu : Nat) (H : zH) : ∀ (g : Nat), ∀ (a0 : Option Nat) (a1 : Int32) (a2 : Int32) (a3 : Int32) (a4 : Int32), z_S E jM_Mo_version d 0 0 (zrI H) 25 [(0, zR a0), (1, zI a1), (2, zI a2), (3, zI a3), (4, zI a4)] [] H 0 0 (jL_Mo_version_25 fu H g a0 a1 a2 a3 a4) := by
  intro g
  induction g with
  | zero => intros; exact zs_none
  | succ g ih =>
    intro a0 a1 a2 a3 a4
    rw [jL_Mo_version_25]
    refine zs_iload (pc := 25) (x := a4) d_Mo_version_25 rfl ?_
    refine zs_aload_n (pc := 27) (x := a0) d_Mo_version_27 rfl ?_
    refine zs_getR (pc := 28) d_Mo_version_28 kF_Mo_48 fun v28 => ?_
    refine zs_bipush (pc := 31) (v := (32 : Int32)) d_Mo_version_31 (by decide) ?_
    refine zs_iald (t := 0) (pc := 33) d_Mo_version_33 rfl fun v33 => ?_
    refine zs_icmp_ge (pc := 34) (tgt := 80) d_Mo_version_34 rfl (fun q34 => ?_) (fun q34 => ?_)
    · refine zs_iconst (pc := 80) (v := (-1 : Int32)) d_Mo_version_80 (by decide) ?_
      exact zs_iret (pc := 81) d_Mo_version_81 rfl (Nat.le_of_ble_eq_true rfl) (Nat.le_of_ble_eq_true rfl) rfl
    · refine zs_aload_n (pc := 37) (x := a0) d_Mo_version_37 rfl ?_
      refine zs_getR (pc := 38) d_Mo_version_38 kF_Mo_48 fun v38 => ?_
      refine zs_bipush (pc := 41) (v := (33 : Int32)) d_Mo_version_41 (by decide) ?_
      refine zs_iconst (pc := 43) (v := (2 : Int32)) d_Mo_version_43 (by decide) ?_
      refine zs_iload (pc := 44) (x := a4) d_Mo_version_44 rfl ?_
      refine zs_imul (pc := 46) d_Mo_version_46 ?_
      refine zs_iadd (pc := 47) d_Mo_version_47 ?_
      refine zs_iald (t := 0) (pc := 48) d_Mo_version_48 rfl fun v48 => ?_
      refine zs_iload_n (pc := 49) (x := a1) d_Mo_version_49 rfl ?_
      refine zs_icmp_ne (pc := 50) (tgt := 74) d_Mo_version_50 rfl (fun q50 => ?_) (fun q50 => ?_)
      · refine zs_iinc (pc := 74) (x := a4) (v := (a4 + (1 : Int32))) (lv' := [(4, zI (a4 + (1 : Int32))), (0, zR a0), (1, zI a1), (2, zI a2), (3, zI a3)]) d_Mo_version_74 rfl rfl (Nat.le_of_ble_eq_true rfl) rfl ?_
        refine zs_goto (pc := 77) (tgt := 25) d_Mo_version_77 rfl ?_
        refine zs_sub (lv' := [(0, zR a0), (1, zI a1), (2, zI a2), (3, zI a3), (4, zI (a4 + (1 : Int32)))]) [1, 2, 3, 4, 0] rfl ?_
        exact ih a0 a1 a2 a3 (a4 + (1 : Int32))
      · refine zs_iload_n (pc := 53) (x := a3) d_Mo_version_53 rfl ?_
        refine zs_iload_n (pc := 54) (x := a2) d_Mo_version_54 rfl ?_
        refine zs_icmp_ne (pc := 55) (tgt := 71) d_Mo_version_55 rfl (fun q55 => ?_) (fun q55 => ?_)
        · refine zs_iinc (pc := 71) (x := a3) (v := (a3 + (1 : Int32))) (lv' := [(3, zI (a3 + (1 : Int32))), (0, zR a0), (1, zI a1), (2, zI a2), (4, zI a4)]) d_Mo_version_71 rfl rfl (Nat.le_of_ble_eq_true rfl) rfl ?_
          refine zs_iinc (pc := 74) (x := a4) (v := (a4 + (1 : Int32))) (lv' := [(4, zI (a4 + (1 : Int32))), (3, zI (a3 + (1 : Int32))), (0, zR a0), (1, zI a1), (2, zI a2)]) d_Mo_version_74 rfl rfl (Nat.le_of_ble_eq_true rfl) rfl ?_
          refine zs_goto (pc := 77) (tgt := 25) d_Mo_version_77 rfl ?_
          refine zs_sub (lv' := [(0, zR a0), (1, zI a1), (2, zI a2), (3, zI (a3 + (1 : Int32))), (4, zI (a4 + (1 : Int32)))]) [2, 3, 4, 1, 0] rfl ?_
          exact ih a0 a1 a2 (a3 + (1 : Int32)) (a4 + (1 : Int32))
        · refine zs_aload_n (pc := 58) (x := a0) d_Mo_version_58 rfl ?_
          refine zs_getR (pc := 59) d_Mo_version_59 kF_Mo_48 fun v59 => ?_
          refine zs_bipush (pc := 62) (v := (34 : Int32)) d_Mo_version_62 (by decide) ?_
          refine zs_iconst (pc := 64) (v := (2 : Int32)) d_Mo_version_64 (by decide) ?_
          refine zs_iload (pc := 65) (x := a4) d_Mo_version_65 rfl ?_
          refine zs_imul (pc := 67) d_Mo_version_67 ?_
          refine zs_iadd (pc := 68) d_Mo_version_68 ?_
          refine zs_iald (t := 0) (pc := 69) d_Mo_version_69 rfl fun v69 => ?_
          exact zs_iret (pc := 70) d_Mo_version_70 rfl (Nat.le_of_ble_eq_true rfl) (Nat.le_of_ble_eq_true rfl) rfl
theorem jm_Mo_version {E : zE} {d : Nat} (hd : 1 ≤ d) (fu : Nat) (a0 : Option Nat) (a1 : Int32) (a2 : Int32) (H : zH) : z_MS E jM_Mo_version d 0 0 (zrI H) [zR a0, zI a1, zI a2] H (jF_Mo_version fu a0 a1 a2 H) := by
  refine zs_of (lv0 := [(0, zR a0), (1, zI a1), (2, zI a2)]) pn_Mo (Nat.le_of_ble_eq_true rfl) rfl ?_
  unfold jF_Mo_version
  refine zs_bind fun _ _ => ?_
  refine zs_aload_n (pc := 0) (x := a0) d_Mo_version_0 rfl ?_
  refine zs_getI (pc := 1) d_Mo_version_1 kF_Mo_165 fun v1 => ?_
  refine zs_if_ne (pc := 4) (tgt := 18) d_Mo_version_4 rfl (fun q4 => ?_) (fun q4 => ?_)
  · refine zs_iconst (pc := 18) (v := (-1 : Int32)) d_Mo_version_18 (by decide) ?_
    exact zs_iret (pc := 19) d_Mo_version_19 rfl (Nat.le_of_ble_eq_true rfl) (Nat.le_of_ble_eq_true rfl) rfl
  · refine zs_iload_n (pc := 7) (x := a1) d_Mo_version_7 rfl ?_
    refine zs_calls_rI (pc := 8) (av := [zI a1]) (st := []) (d' := 0) (C' := 0) (S' := 0) d_Mo_version_8 kS_Mo_193 (jm_Mo_noSubject (d := 0) (Nat.le_refl _) a1 H) (by omega) (Nat.le_of_ble_eq_true rfl) (Nat.le_of_ble_eq_true rfl) rfl rfl (Nat.le_of_ble_eq_true rfl) fun y8 => ?_
    refine zs_if_ne (pc := 11) (tgt := 18) d_Mo_version_11 rfl (fun q11 => ?_) (fun q11 => ?_)
    · refine zs_iconst (pc := 18) (v := (-1 : Int32)) d_Mo_version_18 (by decide) ?_
      exact zs_iret (pc := 19) d_Mo_version_19 rfl (Nat.le_of_ble_eq_true rfl) (Nat.le_of_ble_eq_true rfl) rfl
    · refine zs_iload_n (pc := 14) (x := a2) d_Mo_version_14 rfl ?_
      refine zs_if_ge (pc := 15) (tgt := 20) d_Mo_version_15 rfl (fun q15 => ?_) (fun q15 => ?_)
      · refine zs_iconst (pc := 20) (v := (0 : Int32)) d_Mo_version_20 (by decide) ?_
        refine zs_istore_n (pc := 21) (lv' := [(3, zI (0 : Int32)), (0, zR a0), (1, zI a1), (2, zI a2)]) d_Mo_version_21 (Nat.le_of_ble_eq_true rfl) rfl ?_
        refine zs_iconst (pc := 22) (v := (0 : Int32)) d_Mo_version_22 (by decide) ?_
        refine zs_istore (pc := 23) (lv' := [(4, zI (0 : Int32)), (3, zI (0 : Int32)), (0, zR a0), (1, zI a1), (2, zI a2)]) d_Mo_version_23 (Nat.le_of_ble_eq_true rfl) rfl ?_
        refine zs_sub (lv' := [(0, zR a0), (1, zI a1), (2, zI a2), (3, zI (0 : Int32)), (4, zI (0 : Int32))]) [2, 3, 4, 1, 0] rfl ?_
        exact jl_Mo_version_25 hd fu H fu a0 a1 a2 (0 : Int32) (0 : Int32)
      · refine zs_iconst (pc := 18) (v := (-1 : Int32)) d_Mo_version_18 (by decide) ?_
        exact zs_iret (pc := 19) d_Mo_version_19 rfl (Nat.le_of_ble_eq_true rfl) (Nat.le_of_ble_eq_true rfl) rfl
def jF_Mo_give (a0 : Option Nat) (a1 : Int64) (H : zH) : Option (Int32 × zH) :=
  (zok H a0 1).bind fun _ =>
  (zgI H a0 1 16).bind fun v1 =>
  if v1 = 0 then (
    (zgI H a0 1 20).bind fun v11 =>
    if v11 = (24 : Int32) then (
      some ((-1 : Int32), H))
    else (
      (zgR H a0 1 19).bind fun v22 =>
      (zgI H a0 1 20).bind fun v26 =>
      (zsL H v22 2 v26 a1).bind fun H30 =>
      (zgI H30 a0 1 20).bind fun v33 =>
      (zpV H30 a0 1 20 (zI (v33 + (1 : Int32)))).bind fun H38 =>
      (zgI H38 a0 1 20).bind fun v42 =>
      some (v42, H38)))
  else (
    some ((-4 : Int32), H))
theorem jm_Mo_give {E : zE} {d : Nat} (hd : 0 ≤ d) (a0 : Option Nat) (a1 : Int64) (H : zH) : z_MS E jM_Mo_give d 0 0 zwI [zR a0, zL a1] H (jF_Mo_give a0 a1 H) := by
  refine zs_of (lv0 := [(0, zR a0), (1, zL a1)]) pn_Mo (Nat.le_of_ble_eq_true rfl) rfl ?_
  unfold jF_Mo_give
  refine zs_bind fun _ _ => ?_
  refine zs_aload_n (pc := 0) (x := a0) d_Mo_give_0 rfl ?_
  refine zs_getI (pc := 1) d_Mo_give_1 kF_Mo_165 fun v1 => ?_
  refine zs_if_eq (pc := 4) (tgt := 10) d_Mo_give_4 rfl (fun q4 => ?_) (fun q4 => ?_)
  · refine zs_aload_n (pc := 10) (x := a0) d_Mo_give_10 rfl ?_
    refine zs_getI (pc := 11) d_Mo_give_11 kF_Mo_168 fun v11 => ?_
    refine zs_bipush (pc := 14) (v := (24 : Int32)) d_Mo_give_14 (by decide) ?_
    refine zs_icmp_ne (pc := 16) (tgt := 21) d_Mo_give_16 rfl (fun q16 => ?_) (fun q16 => ?_)
    · refine zs_aload_n (pc := 21) (x := a0) d_Mo_give_21 rfl ?_
      refine zs_getR (pc := 22) d_Mo_give_22 kF_Mo_51 fun v22 => ?_
      refine zs_aload_n (pc := 25) (x := a0) d_Mo_give_25 rfl ?_
      refine zs_getI (pc := 26) d_Mo_give_26 kF_Mo_168 fun v26 => ?_
      refine zs_lload_n (pc := 29) (x := a1) d_Mo_give_29 rfl ?_
      refine zs_last (t := 2) (pc := 30) d_Mo_give_30 rfl fun H30 => ?_
      refine zs_aload_n (pc := 31) (x := a0) d_Mo_give_31 rfl ?_
      refine zs_dup (pc := 32) d_Mo_give_32 rfl ?_
      refine zs_getI (pc := 33) d_Mo_give_33 kF_Mo_168 fun v33 => ?_
      refine zs_iconst (pc := 36) (v := (1 : Int32)) d_Mo_give_36 (by decide) ?_
      refine zs_iadd (pc := 37) d_Mo_give_37 ?_
      refine zs_put (pc := 38) d_Mo_give_38 kP_Mo_168 z_fitI fun H38 => ?_
      refine zs_aload_n (pc := 41) (x := a0) d_Mo_give_41 rfl ?_
      refine zs_getI (pc := 42) d_Mo_give_42 kF_Mo_168 fun v42 => ?_
      exact zs_iret (pc := 45) d_Mo_give_45 rfl (Nat.le_of_ble_eq_true rfl) (Nat.le_of_ble_eq_true rfl) rfl
    · refine zs_iconst (pc := 19) (v := (-1 : Int32)) d_Mo_give_19 (by decide) ?_
      exact zs_iret (pc := 20) d_Mo_give_20 rfl (Nat.le_of_ble_eq_true rfl) (Nat.le_of_ble_eq_true rfl) rfl
  · refine zs_bipush (pc := 7) (v := (-4 : Int32)) d_Mo_give_7 (by decide) ?_
    exact zs_iret (pc := 9) d_Mo_give_9 rfl (Nat.le_of_ble_eq_true rfl) (Nat.le_of_ble_eq_true rfl) rfl
def jL_Mo_stage_121 (fu : Nat) : Nat → Option Nat → Int32 → Int32 → zH → Option (Int32 × zH)
  | 0, _, _, _, _ => none
  | g + 1, a0, a1, a2, H =>
    (zgI H a0 1 28).bind fun v123 =>
    if v123 ≤ a2 then (
      (zgI H a0 1 24).bind fun v154 =>
      (zgI H a0 1 28).bind fun v158 =>
      (zpV H a0 1 24 (zI (v154 + v158))).bind fun H162 =>
      (zgI H162 a0 1 22).bind fun v167 =>
      (zpV H162 a0 1 22 (zI (v167 + (1 : Int32)))).bind fun H172 =>
      (zpV H172 a0 1 21 (zI a1)).bind fun H177 =>
      (zpV H177 a0 1 20 (zI (0 : Int32))).bind fun H182 =>
      (zgI H182 a0 1 28).bind fun v186 =>
      some (v186, H182))
    else (
      (zgR H a0 1 23).bind fun v130 =>
      (zgI H a0 1 24).bind fun v134 =>
      (zgR H a0 1 27).bind fun v140 =>
      (zaI H v140 0 a2).bind fun v144 =>
      (zsI H v130 0 (v134 + a2) v144).bind fun H145 =>
      jL_Mo_stage_121 fu g a0 a1 (a2 + (1 : Int32)) H145)
def jL_Mo_stage_37 (fu : Nat) : Nat → Option Nat → Int32 → Int32 → zH → Option (Int32 × zH)
  | 0, _, _, _, _ => none
  | g + 1, a0, a1, a2, H =>
    (zgI H a0 1 20).bind fun v39 =>
    if v39 ≤ a2 then (
      (zgI H a0 1 20).bind fun v67 =>
      (jF_Mo_span fu a0 a1 (0 : Int32) v67 H).bind fun y70 =>
      (zgI y70.2 a0 1 20).bind fun v74 =>
      if y70.1 = v74 then (
        (zpV y70.2 a0 1 28 (zI (0 : Int32))).bind fun H84 =>
        (jF_Mo_encode fu a0 a1 H84).bind fun y89 =>
        (zgI y89 a0 1 22).bind fun v93 =>
        if v93 = (10 : Int32) then (
          some ((-3 : Int32), y89))
        else (
          (zgI y89 a0 1 24).bind fun v102 =>
          (zgI y89 a0 1 28).bind fun v106 =>
          if (v102 + v106) ≤ (150 : Int32) then (
            jL_Mo_stage_121 fu fu a0 a1 (0 : Int32) y89)
          else (
            some ((-3 : Int32), y89))))
      else (
        some ((-1 : Int32), y70.2)))
    else (
      (zgR H a0 1 30).bind fun v46 =>
      (zgR H a0 1 19).bind fun v51 =>
      (zaL H v51 2 a2).bind fun v55 =>
      (zsL H v46 2 a2 v55).bind fun H56 =>
      jL_Mo_stage_37 fu g a0 a1 (a2 + (1 : Int32)) H56)
def jF_Mo_stage (fu : Nat) (a0 : Option Nat) (a1 : Int32) (H : zH) : Option (Int32 × zH) :=
  (zok H a0 1).bind fun _ =>
  (zgI H a0 1 16).bind fun v1 =>
  if v1 = 0 then (
    (jF_Mo_noSchema a0 a1 H).bind fun y12 =>
    if y12 = 0 then (
      (zgI H a0 1 22).bind fun v19 =>
      if v19 ≤ 0 then (
        jL_Mo_stage_37 fu fu a0 a1 (0 : Int32) H)
      else (
        (zgI H a0 1 21).bind fun v26 =>
        if v26 = a1 then (
          jL_Mo_stage_37 fu fu a0 a1 (0 : Int32) H)
        else (
          some ((-1 : Int32), H))))
    else (
      some ((-1 : Int32), H)))
  else (
    some ((-4 : Int32), H))
theorem jl_Mo_stage_121 {E : zE} {d : Nat} (hd : 3 ≤ d) (fu : Nat) : ∀ (g : Nat), ∀ (a0 : Option Nat) (a1 : Int32) (a2 : Int32) (H : zH), z_S E jM_Mo_stage d 0 0 zwI 121 [(0, zR a0), (1, zI a1), (2, zI a2)] [] H 0 0 (jL_Mo_stage_121 fu g a0 a1 a2 H) := by
  intro g
  induction g with
  | zero => intros; exact zs_none
  | succ g ih =>
    intro a0 a1 a2 H
    rw [jL_Mo_stage_121]
    refine zs_iload_n (pc := 121) (x := a2) d_Mo_stage_121 rfl ?_
    refine zs_aload_n (pc := 122) (x := a0) d_Mo_stage_122 rfl ?_
    refine zs_getI (pc := 123) d_Mo_stage_123 kF_Mo_128 fun v123 => ?_
    refine zs_icmp_ge (pc := 126) (tgt := 152) d_Mo_stage_126 rfl (fun q126 => ?_) (fun q126 => ?_)
    · refine zs_aload_n (pc := 152) (x := a0) d_Mo_stage_152 rfl ?_
      refine zs_dup (pc := 153) d_Mo_stage_153 rfl ?_
      refine zs_getI (pc := 154) d_Mo_stage_154 kF_Mo_174 fun v154 => ?_
      refine zs_aload_n (pc := 157) (x := a0) d_Mo_stage_157 rfl ?_
      refine zs_getI (pc := 158) d_Mo_stage_158 kF_Mo_128 fun v158 => ?_
      refine zs_iadd (pc := 161) d_Mo_stage_161 ?_
      refine zs_put (pc := 162) d_Mo_stage_162 kP_Mo_174 z_fitI fun H162 => ?_
      refine zs_aload_n (pc := 165) (x := a0) d_Mo_stage_165 rfl ?_
      refine zs_dup (pc := 166) d_Mo_stage_166 rfl ?_
      refine zs_getI (pc := 167) d_Mo_stage_167 kF_Mo_171 fun v167 => ?_
      refine zs_iconst (pc := 170) (v := (1 : Int32)) d_Mo_stage_170 (by decide) ?_
      refine zs_iadd (pc := 171) d_Mo_stage_171 ?_
      refine zs_put (pc := 172) d_Mo_stage_172 kP_Mo_171 z_fitI fun H172 => ?_
      refine zs_aload_n (pc := 175) (x := a0) d_Mo_stage_175 rfl ?_
      refine zs_iload_n (pc := 176) (x := a1) d_Mo_stage_176 rfl ?_
      refine zs_put (pc := 177) d_Mo_stage_177 kP_Mo_202 z_fitI fun H177 => ?_
      refine zs_aload_n (pc := 180) (x := a0) d_Mo_stage_180 rfl ?_
      refine zs_iconst (pc := 181) (v := (0 : Int32)) d_Mo_stage_181 (by decide) ?_
      refine zs_put (pc := 182) d_Mo_stage_182 kP_Mo_168 z_fitI fun H182 => ?_
      refine zs_aload_n (pc := 185) (x := a0) d_Mo_stage_185 rfl ?_
      refine zs_getI (pc := 186) d_Mo_stage_186 kF_Mo_128 fun v186 => ?_
      exact zs_iret (pc := 189) d_Mo_stage_189 rfl (Nat.le_of_ble_eq_true rfl) (Nat.le_of_ble_eq_true rfl) rfl
    · refine zs_aload_n (pc := 129) (x := a0) d_Mo_stage_129 rfl ?_
      refine zs_getR (pc := 130) d_Mo_stage_130 kF_Mo_54 fun v130 => ?_
      refine zs_aload_n (pc := 133) (x := a0) d_Mo_stage_133 rfl ?_
      refine zs_getI (pc := 134) d_Mo_stage_134 kF_Mo_174 fun v134 => ?_
      refine zs_iload_n (pc := 137) (x := a2) d_Mo_stage_137 rfl ?_
      refine zs_iadd (pc := 138) d_Mo_stage_138 ?_
      refine zs_aload_n (pc := 139) (x := a0) d_Mo_stage_139 rfl ?_
      refine zs_getR (pc := 140) d_Mo_stage_140 kF_Mo_60 fun v140 => ?_
      refine zs_iload_n (pc := 143) (x := a2) d_Mo_stage_143 rfl ?_
      refine zs_iald (t := 0) (pc := 144) d_Mo_stage_144 rfl fun v144 => ?_
      refine zs_iast (t := 0) (pc := 145) d_Mo_stage_145 rfl fun H145 => ?_
      refine zs_iinc (pc := 146) (x := a2) (v := (a2 + (1 : Int32))) (lv' := [(2, zI (a2 + (1 : Int32))), (0, zR a0), (1, zI a1)]) d_Mo_stage_146 rfl rfl (Nat.le_of_ble_eq_true rfl) rfl ?_
      refine zs_goto (pc := 149) (tgt := 121) d_Mo_stage_149 rfl ?_
      refine zs_sub (lv' := [(0, zR a0), (1, zI a1), (2, zI (a2 + (1 : Int32)))]) [1, 2, 0] rfl ?_
      exact ih a0 a1 (a2 + (1 : Int32)) H145
theorem jl_Mo_stage_37 {E : zE} {d : Nat} (hd : 3 ≤ d) (fu : Nat) : ∀ (g : Nat), ∀ (a0 : Option Nat) (a1 : Int32) (a2 : Int32) (H : zH), z_S E jM_Mo_stage d 0 0 zwI 37 [(0, zR a0), (1, zI a1), (2, zI a2)] [] H 0 0 (jL_Mo_stage_37 fu g a0 a1 a2 H) := by
  intro g
  induction g with
  | zero => intros; exact zs_none
  | succ g ih =>
    intro a0 a1 a2 H
    rw [jL_Mo_stage_37]
    refine zs_iload_n (pc := 37) (x := a2) d_Mo_stage_37 rfl ?_
    refine zs_aload_n (pc := 38) (x := a0) d_Mo_stage_38 rfl ?_
    refine zs_getI (pc := 39) d_Mo_stage_39 kF_Mo_168 fun v39 => ?_
    refine zs_icmp_ge (pc := 42) (tgt := 63) d_Mo_stage_42 rfl (fun q42 => ?_) (fun q42 => ?_)
    · refine zs_aload_n (pc := 63) (x := a0) d_Mo_stage_63 rfl ?_
      refine zs_iload_n (pc := 64) (x := a1) d_Mo_stage_64 rfl ?_
      refine zs_iconst (pc := 65) (v := (0 : Int32)) d_Mo_stage_65 (by decide) ?_
      refine zs_aload_n (pc := 66) (x := a0) d_Mo_stage_66 rfl ?_
      refine zs_getI (pc := 67) d_Mo_stage_67 kF_Mo_168 fun v67 => ?_
      refine zs_callv_wI (pc := 70) (av := [zI a1, zI (0 : Int32), zI v67]) (st := []) (d' := 1) (C' := 0) (S' := 0) d_Mo_stage_70 kV_Mo_205 z_okb (jm_Mo_span (d := 1) (Nat.le_refl _) fu a0 a1 (0 : Int32) v67 H) (by omega) (Nat.le_of_ble_eq_true rfl) (Nat.le_of_ble_eq_true rfl) rfl rfl (Nat.le_of_ble_eq_true rfl) fun y70 => ?_
      refine zs_aload_n (pc := 73) (x := a0) d_Mo_stage_73 rfl ?_
      refine zs_getI (pc := 74) d_Mo_stage_74 kF_Mo_168 fun v74 => ?_
      refine zs_icmp_eq (pc := 77) (tgt := 82) d_Mo_stage_77 rfl (fun q77 => ?_) (fun q77 => ?_)
      · refine zs_aload_n (pc := 82) (x := a0) d_Mo_stage_82 rfl ?_
        refine zs_iconst (pc := 83) (v := (0 : Int32)) d_Mo_stage_83 (by decide) ?_
        refine zs_put (pc := 84) d_Mo_stage_84 kP_Mo_128 z_fitI fun H84 => ?_
        refine zs_aload_n (pc := 87) (x := a0) d_Mo_stage_87 rfl ?_
        refine zs_iload_n (pc := 88) (x := a1) d_Mo_stage_88 rfl ?_
        refine zs_callv_wV (pc := 89) (av := [zI a1]) (st := []) (d' := 2) (C' := 0) (S' := 0) d_Mo_stage_89 kV_Mo_209 z_okb (jm_Mo_encode (d := 2) (Nat.le_refl _) fu a0 a1 H84) (by omega) (Nat.le_of_ble_eq_true rfl) (Nat.le_of_ble_eq_true rfl) rfl rfl (Nat.le_of_ble_eq_true rfl) fun y89 => ?_
        refine zs_aload_n (pc := 92) (x := a0) d_Mo_stage_92 rfl ?_
        refine zs_getI (pc := 93) d_Mo_stage_93 kF_Mo_171 fun v93 => ?_
        refine zs_bipush (pc := 96) (v := (10 : Int32)) d_Mo_stage_96 (by decide) ?_
        refine zs_icmp_eq (pc := 98) (tgt := 116) d_Mo_stage_98 rfl (fun q98 => ?_) (fun q98 => ?_)
        · refine zs_bipush (pc := 116) (v := (-3 : Int32)) d_Mo_stage_116 (by decide) ?_
          exact zs_iret (pc := 118) d_Mo_stage_118 rfl (Nat.le_of_ble_eq_true rfl) (Nat.le_of_ble_eq_true rfl) rfl
        · refine zs_aload_n (pc := 101) (x := a0) d_Mo_stage_101 rfl ?_
          refine zs_getI (pc := 102) d_Mo_stage_102 kF_Mo_174 fun v102 => ?_
          refine zs_aload_n (pc := 105) (x := a0) d_Mo_stage_105 rfl ?_
          refine zs_getI (pc := 106) d_Mo_stage_106 kF_Mo_128 fun v106 => ?_
          refine zs_iadd (pc := 109) d_Mo_stage_109 ?_
          refine zs_sipush (pc := 110) (v := (150 : Int32)) d_Mo_stage_110 (by decide) ?_
          refine zs_icmp_le (pc := 113) (tgt := 119) d_Mo_stage_113 rfl (fun q113 => ?_) (fun q113 => ?_)
          · refine zs_iconst (pc := 119) (v := (0 : Int32)) d_Mo_stage_119 (by decide) ?_
            refine zs_istore_n (pc := 120) (lv' := [(2, zI (0 : Int32)), (0, zR a0), (1, zI a1)]) d_Mo_stage_120 (Nat.le_of_ble_eq_true rfl) rfl ?_
            refine zs_sub (lv' := [(0, zR a0), (1, zI a1), (2, zI (0 : Int32))]) [1, 2, 0] rfl ?_
            exact jl_Mo_stage_121 hd fu fu a0 a1 (0 : Int32) y89
          · refine zs_bipush (pc := 116) (v := (-3 : Int32)) d_Mo_stage_116 (by decide) ?_
            exact zs_iret (pc := 118) d_Mo_stage_118 rfl (Nat.le_of_ble_eq_true rfl) (Nat.le_of_ble_eq_true rfl) rfl
      · refine zs_iconst (pc := 80) (v := (-1 : Int32)) d_Mo_stage_80 (by decide) ?_
        exact zs_iret (pc := 81) d_Mo_stage_81 rfl (Nat.le_of_ble_eq_true rfl) (Nat.le_of_ble_eq_true rfl) rfl
    · refine zs_aload_n (pc := 45) (x := a0) d_Mo_stage_45 rfl ?_
      refine zs_getR (pc := 46) d_Mo_stage_46 kF_Mo_66 fun v46 => ?_
      refine zs_iload_n (pc := 49) (x := a2) d_Mo_stage_49 rfl ?_
      refine zs_aload_n (pc := 50) (x := a0) d_Mo_stage_50 rfl ?_
      refine zs_getR (pc := 51) d_Mo_stage_51 kF_Mo_51 fun v51 => ?_
      refine zs_iload_n (pc := 54) (x := a2) d_Mo_stage_54 rfl ?_
      refine zs_lald (t := 2) (pc := 55) d_Mo_stage_55 rfl fun v55 => ?_
      refine zs_last (t := 2) (pc := 56) d_Mo_stage_56 rfl fun H56 => ?_
      refine zs_iinc (pc := 57) (x := a2) (v := (a2 + (1 : Int32))) (lv' := [(2, zI (a2 + (1 : Int32))), (0, zR a0), (1, zI a1)]) d_Mo_stage_57 rfl rfl (Nat.le_of_ble_eq_true rfl) rfl ?_
      refine zs_goto (pc := 60) (tgt := 37) d_Mo_stage_60 rfl ?_
      refine zs_sub (lv' := [(0, zR a0), (1, zI a1), (2, zI (a2 + (1 : Int32)))]) [1, 2, 0] rfl ?_
      exact ih a0 a1 (a2 + (1 : Int32)) H56
theorem jm_Mo_stage {E : zE} {d : Nat} (hd : 3 ≤ d) (fu : Nat) (a0 : Option Nat) (a1 : Int32) (H : zH) : z_MS E jM_Mo_stage d 0 0 zwI [zR a0, zI a1] H (jF_Mo_stage fu a0 a1 H) := by
  refine zs_of (lv0 := [(0, zR a0), (1, zI a1)]) pn_Mo (Nat.le_of_ble_eq_true rfl) rfl ?_
  unfold jF_Mo_stage
  refine zs_bind fun _ _ => ?_
  refine zs_aload_n (pc := 0) (x := a0) d_Mo_stage_0 rfl ?_
  refine zs_getI (pc := 1) d_Mo_stage_1 kF_Mo_165 fun v1 => ?_
  refine zs_if_eq (pc := 4) (tgt := 10) d_Mo_stage_4 rfl (fun q4 => ?_) (fun q4 => ?_)
  · refine zs_aload_n (pc := 10) (x := a0) d_Mo_stage_10 rfl ?_
    refine zs_iload_n (pc := 11) (x := a1) d_Mo_stage_11 rfl ?_
    refine zs_callv_rI (pc := 12) (av := [zI a1]) (st := []) (d' := 0) (C' := 0) (S' := 0) d_Mo_stage_12 kV_Mo_92 z_okb (jm_Mo_noSchema (d := 0) (Nat.le_refl _) a0 a1 H) (by omega) (Nat.le_of_ble_eq_true rfl) (Nat.le_of_ble_eq_true rfl) rfl rfl (Nat.le_of_ble_eq_true rfl) fun y12 => ?_
    refine zs_if_ne (pc := 15) (tgt := 33) d_Mo_stage_15 rfl (fun q15 => ?_) (fun q15 => ?_)
    · refine zs_iconst (pc := 33) (v := (-1 : Int32)) d_Mo_stage_33 (by decide) ?_
      exact zs_iret (pc := 34) d_Mo_stage_34 rfl (Nat.le_of_ble_eq_true rfl) (Nat.le_of_ble_eq_true rfl) rfl
    · refine zs_aload_n (pc := 18) (x := a0) d_Mo_stage_18 rfl ?_
      refine zs_getI (pc := 19) d_Mo_stage_19 kF_Mo_171 fun v19 => ?_
      refine zs_if_le (pc := 22) (tgt := 35) d_Mo_stage_22 rfl (fun q22 => ?_) (fun q22 => ?_)
      · refine zs_iconst (pc := 35) (v := (0 : Int32)) d_Mo_stage_35 (by decide) ?_
        refine zs_istore_n (pc := 36) (lv' := [(2, zI (0 : Int32)), (0, zR a0), (1, zI a1)]) d_Mo_stage_36 (Nat.le_of_ble_eq_true rfl) rfl ?_
        refine zs_sub (lv' := [(0, zR a0), (1, zI a1), (2, zI (0 : Int32))]) [1, 2, 0] rfl ?_
        exact jl_Mo_stage_37 hd fu fu a0 a1 (0 : Int32) H
      · refine zs_aload_n (pc := 25) (x := a0) d_Mo_stage_25 rfl ?_
        refine zs_getI (pc := 26) d_Mo_stage_26 kF_Mo_202 fun v26 => ?_
        refine zs_iload_n (pc := 29) (x := a1) d_Mo_stage_29 rfl ?_
        refine zs_icmp_eq (pc := 30) (tgt := 35) d_Mo_stage_30 rfl (fun q30 => ?_) (fun q30 => ?_)
        · refine zs_iconst (pc := 35) (v := (0 : Int32)) d_Mo_stage_35 (by decide) ?_
          refine zs_istore_n (pc := 36) (lv' := [(2, zI (0 : Int32)), (0, zR a0), (1, zI a1)]) d_Mo_stage_36 (Nat.le_of_ble_eq_true rfl) rfl ?_
          refine zs_sub (lv' := [(0, zR a0), (1, zI a1), (2, zI (0 : Int32))]) [1, 2, 0] rfl ?_
          exact jl_Mo_stage_37 hd fu fu a0 a1 (0 : Int32) H
        · refine zs_iconst (pc := 33) (v := (-1 : Int32)) d_Mo_stage_33 (by decide) ?_
          exact zs_iret (pc := 34) d_Mo_stage_34 rfl (Nat.le_of_ble_eq_true rfl) (Nat.le_of_ble_eq_true rfl) rfl
  · refine zs_bipush (pc := 7) (v := (-4 : Int32)) d_Mo_stage_7 (by decide) ?_
    exact zs_iret (pc := 9) d_Mo_stage_9 rfl (Nat.le_of_ble_eq_true rfl) (Nat.le_of_ble_eq_true rfl) rfl
def jF_Mo_drop (a0 : Option Nat) (H : zH) : Option (Int32 × zH) :=
  (zok H a0 1).bind fun _ =>
  (zgI H a0 1 16).bind fun v1 =>
  if v1 = 0 then (
    (zpV H a0 1 20 (zI (0 : Int32))).bind fun H12 =>
    (zpV H12 a0 1 22 (zI (0 : Int32))).bind fun H17 =>
    (zpV H17 a0 1 24 (zI (0 : Int32))).bind fun H22 =>
    some ((0 : Int32), H22))
  else (
    some ((-4 : Int32), H))
theorem jm_Mo_drop {E : zE} {d : Nat} (hd : 0 ≤ d) (a0 : Option Nat) (H : zH) : z_MS E jM_Mo_drop d 0 0 zwI [zR a0] H (jF_Mo_drop a0 H) := by
  refine zs_of (lv0 := [(0, zR a0)]) pn_Mo (Nat.le_of_ble_eq_true rfl) rfl ?_
  unfold jF_Mo_drop
  refine zs_bind fun _ _ => ?_
  refine zs_aload_n (pc := 0) (x := a0) d_Mo_drop_0 rfl ?_
  refine zs_getI (pc := 1) d_Mo_drop_1 kF_Mo_165 fun v1 => ?_
  refine zs_if_eq (pc := 4) (tgt := 10) d_Mo_drop_4 rfl (fun q4 => ?_) (fun q4 => ?_)
  · refine zs_aload_n (pc := 10) (x := a0) d_Mo_drop_10 rfl ?_
    refine zs_iconst (pc := 11) (v := (0 : Int32)) d_Mo_drop_11 (by decide) ?_
    refine zs_put (pc := 12) d_Mo_drop_12 kP_Mo_168 z_fitI fun H12 => ?_
    refine zs_aload_n (pc := 15) (x := a0) d_Mo_drop_15 rfl ?_
    refine zs_iconst (pc := 16) (v := (0 : Int32)) d_Mo_drop_16 (by decide) ?_
    refine zs_put (pc := 17) d_Mo_drop_17 kP_Mo_171 z_fitI fun H17 => ?_
    refine zs_aload_n (pc := 20) (x := a0) d_Mo_drop_20 rfl ?_
    refine zs_iconst (pc := 21) (v := (0 : Int32)) d_Mo_drop_21 (by decide) ?_
    refine zs_put (pc := 22) d_Mo_drop_22 kP_Mo_174 z_fitI fun H22 => ?_
    refine zs_iconst (pc := 25) (v := (0 : Int32)) d_Mo_drop_25 (by decide) ?_
    exact zs_iret (pc := 26) d_Mo_drop_26 rfl (Nat.le_of_ble_eq_true rfl) (Nat.le_of_ble_eq_true rfl) rfl
  · refine zs_bipush (pc := 7) (v := (-4 : Int32)) d_Mo_drop_7 (by decide) ?_
    exact zs_iret (pc := 9) d_Mo_drop_9 rfl (Nat.le_of_ble_eq_true rfl) (Nat.le_of_ble_eq_true rfl) rfl
def jL_Mo_records_20 (fu : Nat) (H : zH) : Nat → Option Nat → Int32 → Int32 → Int32 → Option Int32
  | 0, _, _, _, _ => none
  | g + 1, a0, a1, a2, a3 =>
    (zgR H a0 1 14).bind fun v22 =>
    (zaI H v22 0 (0 : Int32)).bind fun v26 =>
    if v26 ≤ a3 then (
      some a2)
    else (
      (jF_Mo_fileSubject a0 a3 H).bind fun y33 =>
      if y33 = a1 then (
        (jF_Mo_fileRecords a0 a3 H).bind fun y42 =>
        jL_Mo_records_20 fu H g a0 a1 (a2 + y42) (a3 + (1 : Int32)))
      else (
        jL_Mo_records_20 fu H g a0 a1 (a2 + (0 : Int32)) (a3 + (1 : Int32))))
def jF_Mo_records (fu : Nat) (a0 : Option Nat) (a1 : Int32) (H : zH) : Option Int32 :=
  (zok H a0 1).bind fun _ =>
  (zgI H a0 1 16).bind fun v1 =>
  if v1 = 0 then (
    (jF_Mo_noSubject a1 H).bind fun y8 =>
    if y8 = 0 then (
      jL_Mo_records_20 fu H fu a0 a1 (0 : Int32) (0 : Int32))
    else (
      some (-1 : Int32)))
  else (
    some (-1 : Int32))
theorem jl_Mo_records_20 {E : zE} {d : Nat} (hd : 2 ≤ d) (fu : Nat) (H : zH) : ∀ (g : Nat), ∀ (a0 : Option Nat) (a1 : Int32) (a2 : Int32) (a3 : Int32), z_S E jM_Mo_records d 0 0 (zrI H) 20 [(0, zR a0), (1, zI a1), (2, zI a2), (3, zI a3)] [] H 0 0 (jL_Mo_records_20 fu H g a0 a1 a2 a3) := by
  intro g
  induction g with
  | zero => intros; exact zs_none
  | succ g ih =>
    intro a0 a1 a2 a3
    rw [jL_Mo_records_20]
    refine zs_iload_n (pc := 20) (x := a3) d_Mo_records_20 rfl ?_
    refine zs_aload_n (pc := 21) (x := a0) d_Mo_records_21 rfl ?_
    refine zs_getR (pc := 22) d_Mo_records_22 kF_Mo_48 fun v22 => ?_
    refine zs_iconst (pc := 25) (v := (0 : Int32)) d_Mo_records_25 (by decide) ?_
    refine zs_iald (t := 0) (pc := 26) d_Mo_records_26 rfl fun v26 => ?_
    refine zs_icmp_ge (pc := 27) (tgt := 57) d_Mo_records_27 rfl (fun q27 => ?_) (fun q27 => ?_)
    · refine zs_iload_n (pc := 57) (x := a2) d_Mo_records_57 rfl ?_
      exact zs_iret (pc := 58) d_Mo_records_58 rfl (Nat.le_of_ble_eq_true rfl) (Nat.le_of_ble_eq_true rfl) rfl
    · refine zs_iload_n (pc := 30) (x := a2) d_Mo_records_30 rfl ?_
      refine zs_aload_n (pc := 31) (x := a0) d_Mo_records_31 rfl ?_
      refine zs_iload_n (pc := 32) (x := a3) d_Mo_records_32 rfl ?_
      refine zs_callv_rI (pc := 33) (av := [zI a3]) (st := [zI a2]) (d' := 0) (C' := 0) (S' := 0) d_Mo_records_33 kV_Mo_231 z_okb (jm_Mo_fileSubject (d := 0) (Nat.le_refl _) a0 a3 H) (by omega) (Nat.le_of_ble_eq_true rfl) (Nat.le_of_ble_eq_true rfl) rfl rfl (Nat.le_of_ble_eq_true rfl) fun y33 => ?_
      refine zs_iload_n (pc := 36) (x := a1) d_Mo_records_36 rfl ?_
      refine zs_icmp_ne (pc := 37) (tgt := 48) d_Mo_records_37 rfl (fun q37 => ?_) (fun q37 => ?_)
      · refine zs_iconst (pc := 48) (v := (0 : Int32)) d_Mo_records_48 (by decide) ?_
        refine zs_iadd (pc := 49) d_Mo_records_49 ?_
        refine zs_istore_n (pc := 50) (lv' := [(2, zI (a2 + (0 : Int32))), (0, zR a0), (1, zI a1), (3, zI a3)]) d_Mo_records_50 (Nat.le_of_ble_eq_true rfl) rfl ?_
        refine zs_iinc (pc := 51) (x := a3) (v := (a3 + (1 : Int32))) (lv' := [(3, zI (a3 + (1 : Int32))), (2, zI (a2 + (0 : Int32))), (0, zR a0), (1, zI a1)]) d_Mo_records_51 rfl rfl (Nat.le_of_ble_eq_true rfl) rfl ?_
        refine zs_goto (pc := 54) (tgt := 20) d_Mo_records_54 rfl ?_
        refine zs_sub (lv' := [(0, zR a0), (1, zI a1), (2, zI (a2 + (0 : Int32))), (3, zI (a3 + (1 : Int32)))]) [2, 3, 1, 0] rfl ?_
        exact ih a0 a1 (a2 + (0 : Int32)) (a3 + (1 : Int32))
      · refine zs_aload_n (pc := 40) (x := a0) d_Mo_records_40 rfl ?_
        refine zs_iload_n (pc := 41) (x := a3) d_Mo_records_41 rfl ?_
        refine zs_callv_rI (pc := 42) (av := [zI a3]) (st := [zI a2]) (d' := 1) (C' := 0) (S' := 0) d_Mo_records_42 kV_Mo_237 z_okb (jm_Mo_fileRecords (d := 1) (Nat.le_refl _) a0 a3 H) (by omega) (Nat.le_of_ble_eq_true rfl) (Nat.le_of_ble_eq_true rfl) rfl rfl (Nat.le_of_ble_eq_true rfl) fun y42 => ?_
        refine zs_goto (pc := 45) (tgt := 49) d_Mo_records_45 rfl ?_
        refine zs_iadd (pc := 49) d_Mo_records_49 ?_
        refine zs_istore_n (pc := 50) (lv' := [(2, zI (a2 + y42)), (0, zR a0), (1, zI a1), (3, zI a3)]) d_Mo_records_50 (Nat.le_of_ble_eq_true rfl) rfl ?_
        refine zs_iinc (pc := 51) (x := a3) (v := (a3 + (1 : Int32))) (lv' := [(3, zI (a3 + (1 : Int32))), (2, zI (a2 + y42)), (0, zR a0), (1, zI a1)]) d_Mo_records_51 rfl rfl (Nat.le_of_ble_eq_true rfl) rfl ?_
        refine zs_goto (pc := 54) (tgt := 20) d_Mo_records_54 rfl ?_
        refine zs_sub (lv' := [(0, zR a0), (1, zI a1), (2, zI (a2 + y42)), (3, zI (a3 + (1 : Int32)))]) [2, 3, 1, 0] rfl ?_
        exact ih a0 a1 (a2 + y42) (a3 + (1 : Int32))
theorem jm_Mo_records {E : zE} {d : Nat} (hd : 2 ≤ d) (fu : Nat) (a0 : Option Nat) (a1 : Int32) (H : zH) : z_MS E jM_Mo_records d 0 0 (zrI H) [zR a0, zI a1] H (jF_Mo_records fu a0 a1 H) := by
  refine zs_of (lv0 := [(0, zR a0), (1, zI a1)]) pn_Mo (Nat.le_of_ble_eq_true rfl) rfl ?_
  unfold jF_Mo_records
  refine zs_bind fun _ _ => ?_
  refine zs_aload_n (pc := 0) (x := a0) d_Mo_records_0 rfl ?_
  refine zs_getI (pc := 1) d_Mo_records_1 kF_Mo_165 fun v1 => ?_
  refine zs_if_ne (pc := 4) (tgt := 14) d_Mo_records_4 rfl (fun q4 => ?_) (fun q4 => ?_)
  · refine zs_iconst (pc := 14) (v := (-1 : Int32)) d_Mo_records_14 (by decide) ?_
    exact zs_iret (pc := 15) d_Mo_records_15 rfl (Nat.le_of_ble_eq_true rfl) (Nat.le_of_ble_eq_true rfl) rfl
  · refine zs_iload_n (pc := 7) (x := a1) d_Mo_records_7 rfl ?_
    refine zs_calls_rI (pc := 8) (av := [zI a1]) (st := []) (d' := 0) (C' := 0) (S' := 0) d_Mo_records_8 kS_Mo_193 (jm_Mo_noSubject (d := 0) (Nat.le_refl _) a1 H) (by omega) (Nat.le_of_ble_eq_true rfl) (Nat.le_of_ble_eq_true rfl) rfl rfl (Nat.le_of_ble_eq_true rfl) fun y8 => ?_
    refine zs_if_eq (pc := 11) (tgt := 16) d_Mo_records_11 rfl (fun q11 => ?_) (fun q11 => ?_)
    · refine zs_iconst (pc := 16) (v := (0 : Int32)) d_Mo_records_16 (by decide) ?_
      refine zs_istore_n (pc := 17) (lv' := [(2, zI (0 : Int32)), (0, zR a0), (1, zI a1)]) d_Mo_records_17 (Nat.le_of_ble_eq_true rfl) rfl ?_
      refine zs_iconst (pc := 18) (v := (0 : Int32)) d_Mo_records_18 (by decide) ?_
      refine zs_istore_n (pc := 19) (lv' := [(3, zI (0 : Int32)), (2, zI (0 : Int32)), (0, zR a0), (1, zI a1)]) d_Mo_records_19 (Nat.le_of_ble_eq_true rfl) rfl ?_
      refine zs_sub (lv' := [(0, zR a0), (1, zI a1), (2, zI (0 : Int32)), (3, zI (0 : Int32))]) [2, 3, 1, 0] rfl ?_
      exact jl_Mo_records_20 hd fu H fu a0 a1 (0 : Int32) (0 : Int32)
    · refine zs_iconst (pc := 14) (v := (-1 : Int32)) d_Mo_records_14 (by decide) ?_
      exact zs_iret (pc := 15) d_Mo_records_15 rfl (Nat.le_of_ble_eq_true rfl) (Nat.le_of_ble_eq_true rfl) rfl
def jL_Mo_load_56 (fu : Nat) : Nat → Option Nat → Int32 → Int32 → zH → Option (Int32 × zH)
  | 0, _, _, _, _ => none
  | g + 1, a0, a1, a2, H =>
    (zgI H a0 1 24).bind fun v58 =>
    if v58 ≤ a2 then (
      (jF_Mo_check fu a0 H).bind fun y81 =>
      (zgI y81 a0 1 28).bind fun v85 =>
      (jF_Mo_room fu a0 ((v85 + (31 : Int32)) / (32 : Int32)) y81).bind fun y97 =>
      (zgR y81 a0 1 14).bind fun v102 =>
      (zaI y81 v102 0 (0 : Int32)).bind fun v106 =>
      if v106 = (9 : Int32) then (
        some ((-3 : Int32), y81))
      else (
        if 0 ≤ y97 then (
          (jF_Mo_writeFile fu a0 y97 y81).bind fun y121 =>
          if y121.1 = 0 then (
            some ((-4 : Int32), y121.2))
          else (
            (jF_Mo_oldManifest fu a0 y121.2).bind fun y131 =>
            (zgR y131 a0 1 29).bind fun v137 =>
            (zaI y131 v137 0 (0 : Int32)).bind fun v141 =>
            (zgR y131 a0 1 29).bind fun v147 =>
            (zsI y131 v147 0 ((1 : Int32) + ((3 : Int32) * v141)) a1).bind fun H153 =>
            (zgR H153 a0 1 29).bind fun v155 =>
            (zsI H153 v155 0 (((1 : Int32) + ((3 : Int32) * v141)) + (1 : Int32)) y97).bind fun H163 =>
            (zgR H163 a0 1 29).bind fun v165 =>
            (zsI H163 v165 0 (((1 : Int32) + ((3 : Int32) * v141)) + (2 : Int32)) ((v85 + (31 : Int32)) / (32 : Int32))).bind fun H173 =>
            (zgR H173 a0 1 29).bind fun v175 =>
            (zaI H173 v175 0 (0 : Int32)).bind fun v180 =>
            (zsI H173 v175 0 (0 : Int32) (v180 + (1 : Int32))).bind fun H183 =>
            (jF_Mo_write fu a0 (0 : Int32) H183).bind fun y186 =>
            if y186.1 = 0 then (
              some ((-4 : Int32), y186.2))
            else (
              (zpV y186.2 a0 1 22 (zI (0 : Int32))).bind fun H197 =>
              (zpV H197 a0 1 24 (zI (0 : Int32))).bind fun H202 =>
              (jF_Mo_records fu a0 a1 H202).bind fun y207 =>
              some (y207, H202))))
        else (
          some ((-3 : Int32), y81))))
    else (
      (zgR H a0 1 23).bind fun v66 =>
      (zaI H v66 0 a2).bind fun v70 =>
      (jF_Mo_putByte a0 v70 H).bind fun y71 =>
      jL_Mo_load_56 fu g a0 a1 (a2 + (1 : Int32)) y71)
def jF_Mo_load (fu : Nat) (a0 : Option Nat) (a1 : Int32) (H : zH) : Option (Int32 × zH) :=
  (zok H a0 1).bind fun _ =>
  (zgI H a0 1 16).bind fun v1 =>
  if v1 = 0 then (
    (jF_Mo_noSubject a1 H).bind fun y11 =>
    if y11 = 0 then (
      (zgI H a0 1 22).bind fun v18 =>
      if v18 = 0 then (
        some ((-1 : Int32), H))
      else (
        (zgI H a0 1 21).bind fun v27 =>
        (jF_Mo_registered fu a0 a1 v27 H).bind fun y30 =>
        if y30 = 0 then (
          some ((-1 : Int32), H))
        else (
          (zgI H a0 1 21).bind fun v40 =>
          (zgI H a0 1 22).bind fun v44 =>
          (zgI H a0 1 24).bind fun v48 =>
          (jF_Mo_head a0 v40 v44 v48 H).bind fun y51 =>
          jL_Mo_load_56 fu fu a0 a1 (0 : Int32) y51)))
    else (
      some ((-1 : Int32), H)))
  else (
    some ((-4 : Int32), H))
theorem jl_Mo_load_56 {E : zE} {d : Nat} (hd : 3 ≤ d) (fu : Nat) : ∀ (g : Nat), ∀ (a0 : Option Nat) (a1 : Int32) (a2 : Int32) (H : zH), z_S E jM_Mo_load d 0 0 zwI 56 [(0, zR a0), (1, zI a1), (2, zI a2)] [] H 0 0 (jL_Mo_load_56 fu g a0 a1 a2 H) := by
  intro g
  induction g with
  | zero => intros; exact zs_none
  | succ g ih =>
    intro a0 a1 a2 H
    rw [jL_Mo_load_56]
    refine zs_iload_n (pc := 56) (x := a2) d_Mo_load_56 rfl ?_
    refine zs_aload_n (pc := 57) (x := a0) d_Mo_load_57 rfl ?_
    refine zs_getI (pc := 58) d_Mo_load_58 kF_Mo_174 fun v58 => ?_
    refine zs_icmp_ge (pc := 61) (tgt := 80) d_Mo_load_61 rfl (fun q61 => ?_) (fun q61 => ?_)
    · refine zs_aload_n (pc := 80) (x := a0) d_Mo_load_80 rfl ?_
      refine zs_callv_wV (pc := 81) (av := []) (st := []) (d' := 1) (C' := 0) (S' := 0) d_Mo_load_81 kV_Mo_216 z_okb (jm_Mo_check (d := 1) (Nat.le_refl _) fu a0 H) (by omega) (Nat.le_of_ble_eq_true rfl) (Nat.le_of_ble_eq_true rfl) rfl rfl (Nat.le_of_ble_eq_true rfl) fun y81 => ?_
      refine zs_aload_n (pc := 84) (x := a0) d_Mo_load_84 rfl ?_
      refine zs_getI (pc := 85) d_Mo_load_85 kF_Mo_128 fun v85 => ?_
      refine zs_bipush (pc := 88) (v := (31 : Int32)) d_Mo_load_88 (by decide) ?_
      refine zs_iadd (pc := 90) d_Mo_load_90 ?_
      refine zs_bipush (pc := 91) (v := (32 : Int32)) d_Mo_load_91 (by decide) ?_
      refine zs_idiv (pc := 93) d_Mo_load_93 (by decide) ?_
      refine zs_istore_n (pc := 94) (lv' := [(2, zI ((v85 + (31 : Int32)) / (32 : Int32))), (0, zR a0), (1, zI a1)]) d_Mo_load_94 (Nat.le_of_ble_eq_true rfl) rfl ?_
      refine zs_aload_n (pc := 95) (x := a0) d_Mo_load_95 rfl ?_
      refine zs_iload_n (pc := 96) (x := ((v85 + (31 : Int32)) / (32 : Int32))) d_Mo_load_96 rfl ?_
      refine zs_callv_rI (pc := 97) (av := [zI ((v85 + (31 : Int32)) / (32 : Int32))]) (st := []) (d' := 1) (C' := 0) (S' := 0) d_Mo_load_97 kV_Mo_219 z_okb (jm_Mo_room (d := 1) (Nat.le_refl _) fu a0 ((v85 + (31 : Int32)) / (32 : Int32)) y81) (by omega) (Nat.le_of_ble_eq_true rfl) (Nat.le_of_ble_eq_true rfl) rfl rfl (Nat.le_of_ble_eq_true rfl) fun y97 => ?_
      refine zs_istore_n (pc := 100) (lv' := [(3, zI y97), (2, zI ((v85 + (31 : Int32)) / (32 : Int32))), (0, zR a0), (1, zI a1)]) d_Mo_load_100 (Nat.le_of_ble_eq_true rfl) rfl ?_
      refine zs_aload_n (pc := 101) (x := a0) d_Mo_load_101 rfl ?_
      refine zs_getR (pc := 102) d_Mo_load_102 kF_Mo_48 fun v102 => ?_
      refine zs_iconst (pc := 105) (v := (0 : Int32)) d_Mo_load_105 (by decide) ?_
      refine zs_iald (t := 0) (pc := 106) d_Mo_load_106 rfl fun v106 => ?_
      refine zs_bipush (pc := 107) (v := (9 : Int32)) d_Mo_load_107 (by decide) ?_
      refine zs_icmp_eq (pc := 109) (tgt := 116) d_Mo_load_109 rfl (fun q109 => ?_) (fun q109 => ?_)
      · refine zs_bipush (pc := 116) (v := (-3 : Int32)) d_Mo_load_116 (by decide) ?_
        exact zs_iret (pc := 118) d_Mo_load_118 rfl (Nat.le_of_ble_eq_true rfl) (Nat.le_of_ble_eq_true rfl) rfl
      · refine zs_iload_n (pc := 112) (x := y97) d_Mo_load_112 rfl ?_
        refine zs_if_ge (pc := 113) (tgt := 119) d_Mo_load_113 rfl (fun q113 => ?_) (fun q113 => ?_)
        · refine zs_aload_n (pc := 119) (x := a0) d_Mo_load_119 rfl ?_
          refine zs_iload_n (pc := 120) (x := y97) d_Mo_load_120 rfl ?_
          refine zs_callv_wI (pc := 121) (av := [zI y97]) (st := []) (d' := 1) (C' := 0) (S' := 0) d_Mo_load_121 kV_Mo_222 z_okb (jm_Mo_writeFile (d := 1) (Nat.le_refl _) fu a0 y97 y81) (by omega) (Nat.le_of_ble_eq_true rfl) (Nat.le_of_ble_eq_true rfl) rfl rfl (Nat.le_of_ble_eq_true rfl) fun y121 => ?_
          refine zs_if_ne (pc := 124) (tgt := 130) d_Mo_load_124 rfl (fun q124 => ?_) (fun q124 => ?_)
          · refine zs_aload_n (pc := 130) (x := a0) d_Mo_load_130 rfl ?_
            refine zs_callv_wV (pc := 131) (av := []) (st := []) (d' := 0) (C' := 0) (S' := 0) d_Mo_load_131 kV_Mo_225 z_okb (jm_Mo_oldManifest (d := 0) (Nat.le_refl _) fu a0 y121.2) (by omega) (Nat.le_of_ble_eq_true rfl) (Nat.le_of_ble_eq_true rfl) rfl rfl (Nat.le_of_ble_eq_true rfl) fun y131 => ?_
            refine zs_iconst (pc := 134) (v := (1 : Int32)) d_Mo_load_134 (by decide) ?_
            refine zs_iconst (pc := 135) (v := (3 : Int32)) d_Mo_load_135 (by decide) ?_
            refine zs_aload_n (pc := 136) (x := a0) d_Mo_load_136 rfl ?_
            refine zs_getR (pc := 137) d_Mo_load_137 kF_Mo_63 fun v137 => ?_
            refine zs_iconst (pc := 140) (v := (0 : Int32)) d_Mo_load_140 (by decide) ?_
            refine zs_iald (t := 0) (pc := 141) d_Mo_load_141 rfl fun v141 => ?_
            refine zs_imul (pc := 142) d_Mo_load_142 ?_
            refine zs_iadd (pc := 143) d_Mo_load_143 ?_
            refine zs_istore (pc := 144) (lv' := [(4, zI ((1 : Int32) + ((3 : Int32) * v141))), (3, zI y97), (2, zI ((v85 + (31 : Int32)) / (32 : Int32))), (0, zR a0), (1, zI a1)]) d_Mo_load_144 (Nat.le_of_ble_eq_true rfl) rfl ?_
            refine zs_aload_n (pc := 146) (x := a0) d_Mo_load_146 rfl ?_
            refine zs_getR (pc := 147) d_Mo_load_147 kF_Mo_63 fun v147 => ?_
            refine zs_iload (pc := 150) (x := ((1 : Int32) + ((3 : Int32) * v141))) d_Mo_load_150 rfl ?_
            refine zs_iload_n (pc := 152) (x := a1) d_Mo_load_152 rfl ?_
            refine zs_iast (t := 0) (pc := 153) d_Mo_load_153 rfl fun H153 => ?_
            refine zs_aload_n (pc := 154) (x := a0) d_Mo_load_154 rfl ?_
            refine zs_getR (pc := 155) d_Mo_load_155 kF_Mo_63 fun v155 => ?_
            refine zs_iload (pc := 158) (x := ((1 : Int32) + ((3 : Int32) * v141))) d_Mo_load_158 rfl ?_
            refine zs_iconst (pc := 160) (v := (1 : Int32)) d_Mo_load_160 (by decide) ?_
            refine zs_iadd (pc := 161) d_Mo_load_161 ?_
            refine zs_iload_n (pc := 162) (x := y97) d_Mo_load_162 rfl ?_
            refine zs_iast (t := 0) (pc := 163) d_Mo_load_163 rfl fun H163 => ?_
            refine zs_aload_n (pc := 164) (x := a0) d_Mo_load_164 rfl ?_
            refine zs_getR (pc := 165) d_Mo_load_165 kF_Mo_63 fun v165 => ?_
            refine zs_iload (pc := 168) (x := ((1 : Int32) + ((3 : Int32) * v141))) d_Mo_load_168 rfl ?_
            refine zs_iconst (pc := 170) (v := (2 : Int32)) d_Mo_load_170 (by decide) ?_
            refine zs_iadd (pc := 171) d_Mo_load_171 ?_
            refine zs_iload_n (pc := 172) (x := ((v85 + (31 : Int32)) / (32 : Int32))) d_Mo_load_172 rfl ?_
            refine zs_iast (t := 0) (pc := 173) d_Mo_load_173 rfl fun H173 => ?_
            refine zs_aload_n (pc := 174) (x := a0) d_Mo_load_174 rfl ?_
            refine zs_getR (pc := 175) d_Mo_load_175 kF_Mo_63 fun v175 => ?_
            refine zs_iconst (pc := 178) (v := (0 : Int32)) d_Mo_load_178 (by decide) ?_
            refine zs_dup2 (pc := 179) d_Mo_load_179 rfl rfl ?_
            refine zs_iald (t := 0) (pc := 180) d_Mo_load_180 rfl fun v180 => ?_
            refine zs_iconst (pc := 181) (v := (1 : Int32)) d_Mo_load_181 (by decide) ?_
            refine zs_iadd (pc := 182) d_Mo_load_182 ?_
            refine zs_iast (t := 0) (pc := 183) d_Mo_load_183 rfl fun H183 => ?_
            refine zs_aload_n (pc := 184) (x := a0) d_Mo_load_184 rfl ?_
            refine zs_iconst (pc := 185) (v := (0 : Int32)) d_Mo_load_185 (by decide) ?_
            refine zs_callv_wI (pc := 186) (av := [zI (0 : Int32)]) (st := []) (d' := 0) (C' := 0) (S' := 0) d_Mo_load_186 kV_Mo_183 z_okb (jm_Mo_write (d := 0) (Nat.le_refl _) fu a0 (0 : Int32) H183) (by omega) (Nat.le_of_ble_eq_true rfl) (Nat.le_of_ble_eq_true rfl) rfl rfl (Nat.le_of_ble_eq_true rfl) fun y186 => ?_
            refine zs_if_ne (pc := 189) (tgt := 195) d_Mo_load_189 rfl (fun q189 => ?_) (fun q189 => ?_)
            · refine zs_aload_n (pc := 195) (x := a0) d_Mo_load_195 rfl ?_
              refine zs_iconst (pc := 196) (v := (0 : Int32)) d_Mo_load_196 (by decide) ?_
              refine zs_put (pc := 197) d_Mo_load_197 kP_Mo_171 z_fitI fun H197 => ?_
              refine zs_aload_n (pc := 200) (x := a0) d_Mo_load_200 rfl ?_
              refine zs_iconst (pc := 201) (v := (0 : Int32)) d_Mo_load_201 (by decide) ?_
              refine zs_put (pc := 202) d_Mo_load_202 kP_Mo_174 z_fitI fun H202 => ?_
              refine zs_aload_n (pc := 205) (x := a0) d_Mo_load_205 rfl ?_
              refine zs_iload_n (pc := 206) (x := a1) d_Mo_load_206 rfl ?_
              refine zs_callv_rI (pc := 207) (av := [zI a1]) (st := []) (d' := 2) (C' := 0) (S' := 0) d_Mo_load_207 kV_Mo_228 z_okb (jm_Mo_records (d := 2) (Nat.le_refl _) fu a0 a1 H202) (by omega) (Nat.le_of_ble_eq_true rfl) (Nat.le_of_ble_eq_true rfl) rfl rfl (Nat.le_of_ble_eq_true rfl) fun y207 => ?_
              exact zs_iret (pc := 210) d_Mo_load_210 rfl (Nat.le_of_ble_eq_true rfl) (Nat.le_of_ble_eq_true rfl) rfl
            · refine zs_bipush (pc := 192) (v := (-4 : Int32)) d_Mo_load_192 (by decide) ?_
              exact zs_iret (pc := 194) d_Mo_load_194 rfl (Nat.le_of_ble_eq_true rfl) (Nat.le_of_ble_eq_true rfl) rfl
          · refine zs_bipush (pc := 127) (v := (-4 : Int32)) d_Mo_load_127 (by decide) ?_
            exact zs_iret (pc := 129) d_Mo_load_129 rfl (Nat.le_of_ble_eq_true rfl) (Nat.le_of_ble_eq_true rfl) rfl
        · refine zs_bipush (pc := 116) (v := (-3 : Int32)) d_Mo_load_116 (by decide) ?_
          exact zs_iret (pc := 118) d_Mo_load_118 rfl (Nat.le_of_ble_eq_true rfl) (Nat.le_of_ble_eq_true rfl) rfl
    · refine zs_aload_n (pc := 64) (x := a0) d_Mo_load_64 rfl ?_
      refine zs_aload_n (pc := 65) (x := a0) d_Mo_load_65 rfl ?_
      refine zs_getR (pc := 66) d_Mo_load_66 kF_Mo_54 fun v66 => ?_
      refine zs_iload_n (pc := 69) (x := a2) d_Mo_load_69 rfl ?_
      refine zs_iald (t := 0) (pc := 70) d_Mo_load_70 rfl fun v70 => ?_
      refine zs_callv_wV (pc := 71) (av := [zI v70]) (st := []) (d' := 0) (C' := 0) (S' := 0) d_Mo_load_71 kV_Mo_137 z_okb (jm_Mo_putByte (d := 0) (Nat.le_refl _) a0 v70 H) (by omega) (Nat.le_of_ble_eq_true rfl) (Nat.le_of_ble_eq_true rfl) rfl rfl (Nat.le_of_ble_eq_true rfl) fun y71 => ?_
      refine zs_iinc (pc := 74) (x := a2) (v := (a2 + (1 : Int32))) (lv' := [(2, zI (a2 + (1 : Int32))), (0, zR a0), (1, zI a1)]) d_Mo_load_74 rfl rfl (Nat.le_of_ble_eq_true rfl) rfl ?_
      refine zs_goto (pc := 77) (tgt := 56) d_Mo_load_77 rfl ?_
      refine zs_sub (lv' := [(0, zR a0), (1, zI a1), (2, zI (a2 + (1 : Int32)))]) [1, 2, 0] rfl ?_
      exact ih a0 a1 (a2 + (1 : Int32)) y71
theorem jm_Mo_load {E : zE} {d : Nat} (hd : 3 ≤ d) (fu : Nat) (a0 : Option Nat) (a1 : Int32) (H : zH) : z_MS E jM_Mo_load d 0 0 zwI [zR a0, zI a1] H (jF_Mo_load fu a0 a1 H) := by
  refine zs_of (lv0 := [(0, zR a0), (1, zI a1)]) pn_Mo (Nat.le_of_ble_eq_true rfl) rfl ?_
  unfold jF_Mo_load
  refine zs_bind fun _ _ => ?_
  refine zs_aload_n (pc := 0) (x := a0) d_Mo_load_0 rfl ?_
  refine zs_getI (pc := 1) d_Mo_load_1 kF_Mo_165 fun v1 => ?_
  refine zs_if_eq (pc := 4) (tgt := 10) d_Mo_load_4 rfl (fun q4 => ?_) (fun q4 => ?_)
  · refine zs_iload_n (pc := 10) (x := a1) d_Mo_load_10 rfl ?_
    refine zs_calls_rI (pc := 11) (av := [zI a1]) (st := []) (d' := 0) (C' := 0) (S' := 0) d_Mo_load_11 kS_Mo_193 (jm_Mo_noSubject (d := 0) (Nat.le_refl _) a1 H) (by omega) (Nat.le_of_ble_eq_true rfl) (Nat.le_of_ble_eq_true rfl) rfl rfl (Nat.le_of_ble_eq_true rfl) fun y11 => ?_
    refine zs_if_ne (pc := 14) (tgt := 36) d_Mo_load_14 rfl (fun q14 => ?_) (fun q14 => ?_)
    · refine zs_iconst (pc := 36) (v := (-1 : Int32)) d_Mo_load_36 (by decide) ?_
      exact zs_iret (pc := 37) d_Mo_load_37 rfl (Nat.le_of_ble_eq_true rfl) (Nat.le_of_ble_eq_true rfl) rfl
    · refine zs_aload_n (pc := 17) (x := a0) d_Mo_load_17 rfl ?_
      refine zs_getI (pc := 18) d_Mo_load_18 kF_Mo_171 fun v18 => ?_
      refine zs_if_eq (pc := 21) (tgt := 36) d_Mo_load_21 rfl (fun q21 => ?_) (fun q21 => ?_)
      · refine zs_iconst (pc := 36) (v := (-1 : Int32)) d_Mo_load_36 (by decide) ?_
        exact zs_iret (pc := 37) d_Mo_load_37 rfl (Nat.le_of_ble_eq_true rfl) (Nat.le_of_ble_eq_true rfl) rfl
      · refine zs_aload_n (pc := 24) (x := a0) d_Mo_load_24 rfl ?_
        refine zs_iload_n (pc := 25) (x := a1) d_Mo_load_25 rfl ?_
        refine zs_aload_n (pc := 26) (x := a0) d_Mo_load_26 rfl ?_
        refine zs_getI (pc := 27) d_Mo_load_27 kF_Mo_202 fun v27 => ?_
        refine zs_callv_rI (pc := 30) (av := [zI a1, zI v27]) (st := []) (d' := 0) (C' := 0) (S' := 0) d_Mo_load_30 kV_Mo_196 z_okb (jm_Mo_registered (d := 0) (Nat.le_refl _) fu a0 a1 v27 H) (by omega) (Nat.le_of_ble_eq_true rfl) (Nat.le_of_ble_eq_true rfl) rfl rfl (Nat.le_of_ble_eq_true rfl) fun y30 => ?_
        refine zs_if_ne (pc := 33) (tgt := 38) d_Mo_load_33 rfl (fun q33 => ?_) (fun q33 => ?_)
        · refine zs_aload_n (pc := 38) (x := a0) d_Mo_load_38 rfl ?_
          refine zs_aload_n (pc := 39) (x := a0) d_Mo_load_39 rfl ?_
          refine zs_getI (pc := 40) d_Mo_load_40 kF_Mo_202 fun v40 => ?_
          refine zs_aload_n (pc := 43) (x := a0) d_Mo_load_43 rfl ?_
          refine zs_getI (pc := 44) d_Mo_load_44 kF_Mo_171 fun v44 => ?_
          refine zs_aload_n (pc := 47) (x := a0) d_Mo_load_47 rfl ?_
          refine zs_getI (pc := 48) d_Mo_load_48 kF_Mo_174 fun v48 => ?_
          refine zs_callv_wV (pc := 51) (av := [zI v40, zI v44, zI v48]) (st := []) (d' := 1) (C' := 0) (S' := 0) d_Mo_load_51 kV_Mo_212 z_okb (jm_Mo_head (d := 1) (Nat.le_refl _) a0 v40 v44 v48 H) (by omega) (Nat.le_of_ble_eq_true rfl) (Nat.le_of_ble_eq_true rfl) rfl rfl (Nat.le_of_ble_eq_true rfl) fun y51 => ?_
          refine zs_iconst (pc := 54) (v := (0 : Int32)) d_Mo_load_54 (by decide) ?_
          refine zs_istore_n (pc := 55) (lv' := [(2, zI (0 : Int32)), (0, zR a0), (1, zI a1)]) d_Mo_load_55 (Nat.le_of_ble_eq_true rfl) rfl ?_
          refine zs_sub (lv' := [(0, zR a0), (1, zI a1), (2, zI (0 : Int32))]) [1, 2, 0] rfl ?_
          exact jl_Mo_load_56 hd fu fu a0 a1 (0 : Int32) y51
        · refine zs_iconst (pc := 36) (v := (-1 : Int32)) d_Mo_load_36 (by decide) ?_
          exact zs_iret (pc := 37) d_Mo_load_37 rfl (Nat.le_of_ble_eq_true rfl) (Nat.le_of_ble_eq_true rfl) rfl
  · refine zs_bipush (pc := 7) (v := (-4 : Int32)) d_Mo_load_7 (by decide) ?_
    exact zs_iret (pc := 9) d_Mo_load_9 rfl (Nat.le_of_ble_eq_true rfl) (Nat.le_of_ble_eq_true rfl) rfl
def jL_Mo_behind_4 (fu : Nat) (H : zH) : Nat → Option Nat → Int32 → Int32 → Option Int32
  | 0, _, _, _ => none
  | g + 1, a0, a1, a2 =>
    (zgR H a0 1 14).bind fun v6 =>
    (zaI H v6 0 (0 : Int32)).bind fun v10 =>
    if v10 ≤ a2 then (
      some (-1 : Int32))
    else (
      (jF_Mo_fileSubject a0 a2 H).bind fun y16 =>
      (jF_Mo_fileSubject a0 a1 H).bind fun y21 =>
      if y16 = y21 then (
        some a2)
      else (
        jL_Mo_behind_4 fu H g a0 a1 (a2 + (1 : Int32))))
def jF_Mo_behind (fu : Nat) (a0 : Option Nat) (a1 : Int32) (H : zH) : Option Int32 :=
  (zok H a0 1).bind fun _ =>
  jL_Mo_behind_4 fu H fu a0 a1 (a1 + (1 : Int32))
theorem jl_Mo_behind_4 {E : zE} {d : Nat} (hd : 1 ≤ d) (fu : Nat) (H : zH) : ∀ (g : Nat), ∀ (a0 : Option Nat) (a1 : Int32) (a2 : Int32), z_S E jM_Mo_behind d 0 0 (zrI H) 4 [(0, zR a0), (1, zI a1), (2, zI a2)] [] H 0 0 (jL_Mo_behind_4 fu H g a0 a1 a2) := by
  intro g
  induction g with
  | zero => intros; exact zs_none
  | succ g ih =>
    intro a0 a1 a2
    rw [jL_Mo_behind_4]
    refine zs_iload_n (pc := 4) (x := a2) d_Mo_behind_4 rfl ?_
    refine zs_aload_n (pc := 5) (x := a0) d_Mo_behind_5 rfl ?_
    refine zs_getR (pc := 6) d_Mo_behind_6 kF_Mo_48 fun v6 => ?_
    refine zs_iconst (pc := 9) (v := (0 : Int32)) d_Mo_behind_9 (by decide) ?_
    refine zs_iald (t := 0) (pc := 10) d_Mo_behind_10 rfl fun v10 => ?_
    refine zs_icmp_ge (pc := 11) (tgt := 35) d_Mo_behind_11 rfl (fun q11 => ?_) (fun q11 => ?_)
    · refine zs_iconst (pc := 35) (v := (-1 : Int32)) d_Mo_behind_35 (by decide) ?_
      exact zs_iret (pc := 36) d_Mo_behind_36 rfl (Nat.le_of_ble_eq_true rfl) (Nat.le_of_ble_eq_true rfl) rfl
    · refine zs_aload_n (pc := 14) (x := a0) d_Mo_behind_14 rfl ?_
      refine zs_iload_n (pc := 15) (x := a2) d_Mo_behind_15 rfl ?_
      refine zs_callv_rI (pc := 16) (av := [zI a2]) (st := []) (d' := 0) (C' := 0) (S' := 0) d_Mo_behind_16 kV_Mo_231 z_okb (jm_Mo_fileSubject (d := 0) (Nat.le_refl _) a0 a2 H) (by omega) (Nat.le_of_ble_eq_true rfl) (Nat.le_of_ble_eq_true rfl) rfl rfl (Nat.le_of_ble_eq_true rfl) fun y16 => ?_
      refine zs_aload_n (pc := 19) (x := a0) d_Mo_behind_19 rfl ?_
      refine zs_iload_n (pc := 20) (x := a1) d_Mo_behind_20 rfl ?_
      refine zs_callv_rI (pc := 21) (av := [zI a1]) (st := [zI y16]) (d' := 0) (C' := 0) (S' := 0) d_Mo_behind_21 kV_Mo_231 z_okb (jm_Mo_fileSubject (d := 0) (Nat.le_refl _) a0 a1 H) (by omega) (Nat.le_of_ble_eq_true rfl) (Nat.le_of_ble_eq_true rfl) rfl rfl (Nat.le_of_ble_eq_true rfl) fun y21 => ?_
      refine zs_icmp_ne (pc := 24) (tgt := 29) d_Mo_behind_24 rfl (fun q24 => ?_) (fun q24 => ?_)
      · refine zs_iinc (pc := 29) (x := a2) (v := (a2 + (1 : Int32))) (lv' := [(2, zI (a2 + (1 : Int32))), (0, zR a0), (1, zI a1)]) d_Mo_behind_29 rfl rfl (Nat.le_of_ble_eq_true rfl) rfl ?_
        refine zs_goto (pc := 32) (tgt := 4) d_Mo_behind_32 rfl ?_
        refine zs_sub (lv' := [(0, zR a0), (1, zI a1), (2, zI (a2 + (1 : Int32)))]) [1, 2, 0] rfl ?_
        exact ih a0 a1 (a2 + (1 : Int32))
      · refine zs_iload_n (pc := 27) (x := a2) d_Mo_behind_27 rfl ?_
        exact zs_iret (pc := 28) d_Mo_behind_28 rfl (Nat.le_of_ble_eq_true rfl) (Nat.le_of_ble_eq_true rfl) rfl
theorem jm_Mo_behind {E : zE} {d : Nat} (hd : 1 ≤ d) (fu : Nat) (a0 : Option Nat) (a1 : Int32) (H : zH) : z_MS E jM_Mo_behind d 0 0 (zrI H) [zR a0, zI a1] H (jF_Mo_behind fu a0 a1 H) := by
  refine zs_of (lv0 := [(0, zR a0), (1, zI a1)]) pn_Mo (Nat.le_of_ble_eq_true rfl) rfl ?_
  unfold jF_Mo_behind
  refine zs_bind fun _ _ => ?_
  refine zs_iload_n (pc := 0) (x := a1) d_Mo_behind_0 rfl ?_
  refine zs_iconst (pc := 1) (v := (1 : Int32)) d_Mo_behind_1 (by decide) ?_
  refine zs_iadd (pc := 2) d_Mo_behind_2 ?_
  refine zs_istore_n (pc := 3) (lv' := [(2, zI (a1 + (1 : Int32))), (0, zR a0), (1, zI a1)]) d_Mo_behind_3 (Nat.le_of_ble_eq_true rfl) rfl ?_
  refine zs_sub (lv' := [(0, zR a0), (1, zI a1), (2, zI (a1 + (1 : Int32)))]) [1, 2, 0] rfl ?_
  exact jl_Mo_behind_4 hd fu H fu a0 a1 (a1 + (1 : Int32))
