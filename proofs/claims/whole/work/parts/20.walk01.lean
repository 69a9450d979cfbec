def jJ_Schemas_haveDifferentNames_22 (H : zH) (s0 : Int32) (a0 : Option Nat) (a1 : Option Nat) : Option Int32 :=
  if s0 = 0 then (
    some (0 : Int32))
  else (
    (zgI H a0 8 1).bind fun v28 =>
    (zgI H a1 8 1).bind fun v32 =>
    if v28 = v32 then (
      some (0 : Int32))
    else (
      some (1 : Int32)))
def jJ_Schemas_haveDifferentNames_17 (H : zH) (a0 : Option Nat) (a1 : Option Nat) : Option Int32 :=
  jJ_Schemas_haveDifferentNames_22 H (1 : Int32) a0 a1
def jF_Schemas_haveDifferentNames (a0 : Option Nat) (a1 : Option Nat) (H : zH) : Option Int32 :=
  (zgI H a0 8 0).bind fun v1 =>
  if v1 = (4 : Int32) then (
    jJ_Schemas_haveDifferentNames_17 H a0 a1)
  else (
    (zgI H a0 8 0).bind fun v9 =>
    if v9 = (7 : Int32) then (
      jJ_Schemas_haveDifferentNames_17 H a0 a1)
    else (
      jJ_Schemas_haveDifferentNames_22 H (0 : Int32) a0 a1))
theorem jj_Schemas_haveDifferentNames_22 {E : zE} {d : Nat} (hd : 0 ≤ d) (H : zH) : ∀ (s0 : Int32) (a0 : Option Nat) (a1 : Option Nat), z_S E jM_Schemas_haveDifferentNames d 0 0 (zrI H) 22 [(0, zR a0), (1, zR a1)] [zI s0] H 0 0 (jJ_Schemas_haveDifferentNames_22 H s0 a0 a1) := by
  intro s0 a0 a1
  unfold jJ_Schemas_haveDifferentNames_22
  refine zs_istore_n (pc := 22) (lv' := [(2, zI s0), (0, zR a0), (1, zR a1)]) d_Schemas_haveDifferentNames_22 (Nat.le_of_ble_eq_true rfl) rfl ?_
  refine zs_iload_n (pc := 23) (x := s0) d_Schemas_haveDifferentNames_23 rfl ?_
  refine zs_if_eq (pc := 24) (tgt := 42) d_Schemas_haveDifferentNames_24 rfl (fun q24 => ?_) (fun q24 => ?_)
  · refine zs_iconst (pc := 42) (v := (0 : Int32)) d_Schemas_haveDifferentNames_42 (by decide) ?_
    exact zs_zretc (pc := 43) d_Schemas_haveDifferentNames_43 rfl (by decide) (Nat.le_of_ble_eq_true rfl) (Nat.le_of_ble_eq_true rfl) rfl
  · refine zs_aload_n (pc := 27) (x := a0) d_Schemas_haveDifferentNames_27 rfl ?_
    refine zs_getI (pc := 28) d_Schemas_haveDifferentNames_28 kF_Schemas_96 fun v28 => ?_
    refine zs_aload_n (pc := 31) (x := a1) d_Schemas_haveDifferentNames_31 rfl ?_
    refine zs_getI (pc := 32) d_Schemas_haveDifferentNames_32 kF_Schemas_96 fun v32 => ?_
    refine zs_icmp_eq (pc := 35) (tgt := 42) d_Schemas_haveDifferentNames_35 rfl (fun q35 => ?_) (fun q35 => ?_)
    · refine zs_iconst (pc := 42) (v := (0 : Int32)) d_Schemas_haveDifferentNames_42 (by decide) ?_
      exact zs_zretc (pc := 43) d_Schemas_haveDifferentNames_43 rfl (by decide) (Nat.le_of_ble_eq_true rfl) (Nat.le_of_ble_eq_true rfl) rfl
    · refine zs_iconst (pc := 38) (v := (1 : Int32)) d_Schemas_haveDifferentNames_38 (by decide) ?_
      refine zs_goto (pc := 39) (tgt := 43) d_Schemas_haveDifferentNames_39 rfl ?_
      exact zs_zretc (pc := 43) d_Schemas_haveDifferentNames_43 rfl (by decide) (Nat.le_of_ble_eq_true rfl) (Nat.le_of_ble_eq_true rfl) rfl
theorem jj_Schemas_haveDifferentNames_17 {E : zE} {d : Nat} (hd : 0 ≤ d) (H : zH) : ∀ (a0 : Option Nat) (a1 : Option Nat), z_S E jM_Schemas_haveDifferentNames d 0 0 (zrI H) 17 [(0, zR a0), (1, zR a1)] [] H 0 0 (jJ_Schemas_haveDifferentNames_17 H a0 a1) := by
  intro a0 a1
  unfold jJ_Schemas_haveDifferentNames_17
  refine zs_iconst (pc := 17) (v := (1 : Int32)) d_Schemas_haveDifferentNames_17 (by decide) ?_
  refine zs_goto (pc := 18) (tgt := 22) d_Schemas_haveDifferentNames_18 rfl ?_
  exact jj_Schemas_haveDifferentNames_22 hd H (1 : Int32) a0 a1
theorem jm_Schemas_haveDifferentNames {E : zE} {d : Nat} (hd : 0 ≤ d) (a0 : Option Nat) (a1 : Option Nat) (H : zH) : z_MS E jM_Schemas_haveDifferentNames d 0 0 (zrI H) [zR a0, zR a1] H (jF_Schemas_haveDifferentNames a0 a1 H) := by
  refine zs_of (lv0 := [(0, zR a0), (1, zR a1)]) pn_Schemas (Nat.le_of_ble_eq_true rfl) rfl ?_
  unfold jF_Schemas_haveDifferentNames
  refine zs_aload_n (pc := 0) (x := a0) d_Schemas_haveDifferentNames_0 rfl ?_
  refine zs_getI (pc := 1) d_Schemas_haveDifferentNames_1 kF_Schemas_86 fun v1 => ?_
  refine zs_iconst (pc := 4) (v := (4 : Int32)) d_Schemas_haveDifferentNames_4 (by decide) ?_
  refine zs_icmp_eq (pc := 5) (tgt := 17) d_Schemas_haveDifferentNames_5 rfl (fun q5 => ?_) (fun q5 => ?_)
  · exact jj_Schemas_haveDifferentNames_17 hd H a0 a1
  · refine zs_aload_n (pc := 8) (x := a0) d_Schemas_haveDifferentNames_8 rfl ?_
    refine zs_getI (pc := 9) d_Schemas_haveDifferentNames_9 kF_Schemas_86 fun v9 => ?_
    refine zs_bipush (pc := 12) (v := (7 : Int32)) d_Schemas_haveDifferentNames_12 (by decide) ?_
    refine zs_icmp_ne (pc := 14) (tgt := 21) d_Schemas_haveDifferentNames_14 rfl (fun q14 => ?_) (fun q14 => ?_)
    · refine zs_iconst (pc := 21) (v := (0 : Int32)) d_Schemas_haveDifferentNames_21 (by decide) ?_
      exact jj_Schemas_haveDifferentNames_22 hd H (0 : Int32) a0 a1
    · exact jj_Schemas_haveDifferentNames_17 hd H a0 a1
def jJ_Schemas_buildUnion_54 (fu : Nat) (s0 : Int32) (a0 : Option Nat) (a1 : Option Nat) (H : zH) : Option (Option Nat × zH) :=
  if s0 = 0 then (
    some (none, H))
  else (
    (jF_Schema_ofUnion fu a0 a1 H).bind fun y61 =>
    some (y61.1, y61.2))
def jJ_Schemas_buildUnion_49 (fu : Nat) (a0 : Option Nat) (a1 : Option Nat) (H : zH) : Option (Option Nat × zH) :=
  jJ_Schemas_buildUnion_54 fu (1 : Int32) a0 a1 H
def jF_Schemas_buildUnion (fu : Nat) (a0 : Option Nat) (a1 : Option Nat) (H : zH) : Option (Option Nat × zH) :=
  if a0 = none then (
    some (none, H))
  else (
    if a1 = none then (
      some (none, H))
    else (
      (zgI H a0 8 0).bind fun v11 =>
      if v11 = (6 : Int32) then (
        some (none, H))
      else (
        (zgI H a1 8 0).bind fun v20 =>
        if v20 = (6 : Int32) then (
          some (none, H))
        else (
          (zgI H a0 8 0).bind fun v31 =>
          (zgI H a1 8 0).bind fun v35 =>
          if v31 = v35 then (
            (jF_Schemas_haveDifferentNames a0 a1 H).bind fun y43 =>
            if y43 = 0 then (
              jJ_Schemas_buildUnion_54 fu (0 : Int32) a0 a1 H)
            else (
              jJ_Schemas_buildUnion_49 fu a0 a1 H))
          else (
            jJ_Schemas_buildUnion_49 fu a0 a1 H)))))
theorem jj_Schemas_buildUnion_54 {E : zE} {d : Nat} (hd : 4 ≤ d) (fu : Nat) : ∀ (s0 : Int32) (a0 : Option Nat) (a1 : Option Nat) (H : zH), z_S E jM_Schemas_buildUnion d 2 8 zwR 54 [(0, zR a0), (1, zR a1)] [zI s0] H 0 0 (jJ_Schemas_buildUnion_54 fu s0 a0 a1 H) := by
  intro s0 a0 a1 H
  unfold jJ_Schemas_buildUnion_54
  refine zs_istore_n (pc := 54) (lv' := [(2, zI s0), (0, zR a0), (1, zR a1)]) d_Schemas_buildUnion_54 (Nat.le_of_ble_eq_true rfl) rfl ?_
  refine zs_iload_n (pc := 55) (x := s0) d_Schemas_buildUnion_55 rfl ?_
  refine zs_if_eq (pc := 56) (tgt := 67) d_Schemas_buildUnion_56 rfl (fun q56 => ?_) (fun q56 => ?_)
  · refine zs_null (pc := 67) d_Schemas_buildUnion_67 ?_
    exact zs_aret (pc := 68) d_Schemas_buildUnion_68 rfl (Nat.le_of_ble_eq_true rfl) (Nat.le_of_ble_eq_true rfl) rfl
  · refine zs_aload_n (pc := 59) (x := a0) d_Schemas_buildUnion_59 rfl ?_
    refine zs_aload_n (pc := 60) (x := a1) d_Schemas_buildUnion_60 rfl ?_
    refine zs_calls_wR (pc := 61) (av := [zR a0, zR a1]) (st := []) (d' := 3) (C' := 2) (S' := 8) d_Schemas_buildUnion_61 kS_Schemas_93 (jm_Schema_ofUnion (d := 3) (Nat.le_refl _) fu a0 a1 H) (by omega) (Nat.le_of_ble_eq_true rfl) (Nat.le_of_ble_eq_true rfl) rfl rfl (Nat.le_of_ble_eq_true rfl) fun y61 => ?_
    refine zs_goto (pc := 64) (tgt := 68) d_Schemas_buildUnion_64 rfl ?_
    exact zs_aret (pc := 68) d_Schemas_buildUnion_68 rfl (Nat.le_of_ble_eq_true rfl) (Nat.le_of_ble_eq_true rfl) rfl
theorem jj_Schemas_buildUnion_49 {E : zE} {d : Nat} (hd : 4 ≤ d) (fu : Nat) : ∀ (a0 : Option Nat) (a1 : Option Nat) (H : zH), z_S E jM_Schemas_buildUnion d 2 8 zwR 49 [(0, zR a0), (1, zR a1)] [] H 0 0 (jJ_Schemas_buildUnion_49 fu a0 a1 H) := by
  intro a0 a1 H
  unfold jJ_Schemas_buildUnion_49
  refine zs_iconst (pc := 49) (v := (1 : Int32)) d_Schemas_buildUnion_49 (by decide) ?_
  refine zs_goto (pc := 50) (tgt := 54) d_Schemas_buildUnion_50 rfl ?_
  exact jj_Schemas_buildUnion_54 hd fu (1 : Int32) a0 a1 H
theorem jm_Schemas_buildUnion {E : zE} {d : Nat} (hd : 4 ≤ d) (fu : Nat) (a0 : Option Nat) (a1 : Option Nat) (H : zH) : z_MS E jM_Schemas_buildUnion d 2 8 zwR [zR a0, zR a1] H (jF_Schemas_buildUnion fu a0 a1 H) := by
  refine zs_of (lv0 := [(0, zR a0), (1, zR a1)]) pn_Schemas (Nat.le_of_ble_eq_true rfl) rfl ?_
  unfold jF_Schemas_buildUnion
  refine zs_aload_n (pc := 0) (x := a0) d_Schemas_buildUnion_0 rfl ?_
  refine zs_ifnull (pc := 1) (tgt := 8) d_Schemas_buildUnion_1 rfl (fun q1 => ?_) (fun q1 => ?_)
  · refine zs_null (pc := 8) d_Schemas_buildUnion_8 ?_
    exact zs_aret (pc := 9) d_Schemas_buildUnion_9 rfl (Nat.le_of_ble_eq_true rfl) (Nat.le_of_ble_eq_true rfl) rfl
  · refine zs_aload_n (pc := 4) (x := a1) d_Schemas_buildUnion_4 rfl ?_
    refine zs_ifnonnull (pc := 5) (tgt := 10) d_Schemas_buildUnion_5 rfl (fun q5 => ?_) (fun q5 => ?_)
    · refine zs_aload_n (pc := 10) (x := a0) d_Schemas_buildUnion_10 rfl ?_
      refine zs_getI (pc := 11) d_Schemas_buildUnion_11 kF_Schemas_86 fun v11 => ?_
      refine zs_bipush (pc := 14) (v := (6 : Int32)) d_Schemas_buildUnion_14 (by decide) ?_
      refine zs_icmp_eq (pc := 16) (tgt := 28) d_Schemas_buildUnion_16 rfl (fun q16 => ?_) (fun q16 => ?_)
      · refine zs_null (pc := 28) d_Schemas_buildUnion_28 ?_
        exact zs_aret (pc := 29) d_Schemas_buildUnion_29 rfl (Nat.le_of_ble_eq_true rfl) (Nat.le_of_ble_eq_true rfl) rfl
      · refine zs_aload_n (pc := 19) (x := a1) d_Schemas_buildUnion_19 rfl ?_
        refine zs_getI (pc := 20) d_Schemas_buildUnion_20 kF_Schemas_86 fun v20 => ?_
        refine zs_bipush (pc := 23) (v := (6 : Int32)) d_Schemas_buildUnion_23 (by decide) ?_
        refine zs_icmp_ne (pc := 25) (tgt := 30) d_Schemas_buildUnion_25 rfl (fun q25 => ?_) (fun q25 => ?_)
        · refine zs_aload_n (pc := 30) (x := a0) d_Schemas_buildUnion_30 rfl ?_
          refine zs_getI (pc := 31) d_Schemas_buildUnion_31 kF_Schemas_86 fun v31 => ?_
          refine zs_aload_n (pc := 34) (x := a1) d_Schemas_buildUnion_34 rfl ?_
          refine zs_getI (pc := 35) d_Schemas_buildUnion_35 kF_Schemas_86 fun v35 => ?_
          refine zs_icmp_ne (pc := 38) (tgt := 49) d_Schemas_buildUnion_38 rfl (fun q38 => ?_) (fun q38 => ?_)
          · exact jj_Schemas_buildUnion_49 hd fu a0 a1 H
          · refine zs_aload_n (pc := 41) (x := a0) d_Schemas_buildUnion_41 rfl ?_
            refine zs_aload_n (pc := 42) (x := a1) d_Schemas_buildUnion_42 rfl ?_
            refine zs_calls_rI (pc := 43) (av := [zR a0, zR a1]) (st := []) (d' := 0) (C' := 0) (S' := 0) d_Schemas_buildUnion_43 kS_Schemas_89 (jm_Schemas_haveDifferentNames (d := 0) (Nat.le_refl _) a0 a1 H) (by omega) (Nat.le_of_ble_eq_true rfl) (Nat.le_of_ble_eq_true rfl) rfl rfl (Nat.le_of_ble_eq_true rfl) fun y43 => ?_
            refine zs_if_eq (pc := 46) (tgt := 53) d_Schemas_buildUnion_46 rfl (fun q46 => ?_) (fun q46 => ?_)
            · refine zs_iconst (pc := 53) (v := (0 : Int32)) d_Schemas_buildUnion_53 (by decide) ?_
              exact jj_Schemas_buildUnion_54 hd fu (0 : Int32) a0 a1 H
            · exact jj_Schemas_buildUnion_49 hd fu a0 a1 H
        · refine zs_null (pc := 28) d_Schemas_buildUnion_28 ?_
          exact zs_aret (pc := 29) d_Schemas_buildUnion_29 rfl (Nat.le_of_ble_eq_true rfl) (Nat.le_of_ble_eq_true rfl) rfl
    · refine zs_null (pc := 8) d_Schemas_buildUnion_8 ?_
      exact zs_aret (pc := 9) d_Schemas_buildUnion_9 rfl (Nat.le_of_ble_eq_true rfl) (Nat.le_of_ble_eq_true rfl) rfl
def jF_Schemas_build (fu : Nat) (a0 : Option Nat) (a1 : Int32) (a2 : Int32) (a3 : Int32) (a4 : Int32) (H : zH) : Option (Option Nat × zH) :=
  (zok H a0 9).bind fun _ =>
  if a1 = (0 : Int32) ∨ a1 = (1 : Int32) ∨ a1 = (2 : Int32) ∨ a1 = (3 : Int32) then (
    (jF_Schema_ofPlain fu a1 H).bind fun y49 =>
    some (y49.1, y49.2))
  else (
    if a1 = (4 : Int32) then (
      (jF_Schemas_buildEnum fu a2 a3 a4 H).bind fun y57 =>
      some (y57.1, y57.2))
    else (
      if a1 = (5 : Int32) then (
        (jF_Schemas_find a0 a3 H).bind fun y63 =>
        (jF_Schemas_buildArray fu y63 H).bind fun y66 =>
        some (y66.1, y66.2))
      else (
        if a1 = (6 : Int32) then (
          (jF_Schemas_find a0 a3 H).bind fun y72 =>
          (jF_Schemas_find a0 a4 H).bind fun y78 =>
          (jF_Schemas_buildUnion fu y72 y78 H).bind fun y81 =>
          some (y81.1, y81.2))
        else (
          if a1 = (7 : Int32) then (
            (jF_Schemas_buildRecord fu a0 a2 H).bind fun y87 =>
            some (y87.1, y87.2))
          else (
            some (none, H))))))
theorem jm_Schemas_build {E : zE} {d : Nat} (hd : 5 ≤ d) (fu : Nat) (a0 : Option Nat) (a1 : Int32) (a2 : Int32) (a3 : Int32) (a4 : Int32) (H : zH) : z_MS E jM_Schemas_build d 10 43 zwR [zR a0, zI a1, zI a2, zI a3, zI a4] H (jF_Schemas_build fu a0 a1 a2 a3 a4 H) := by
  refine zs_of (lv0 := [(0, zR a0), (1, zI a1), (2, zI a2), (3, zI a3), (4, zI a4)]) pn_Schemas (Nat.le_of_ble_eq_true rfl) rfl ?_
  unfold jF_Schemas_build
  refine zs_bind fun _ _ => ?_
  refine zs_iload_n (pc := 0) (x := a1) d_Schemas_build_0 rfl ?_
  refine zs_ite (fun q => ?_) (fun q1_0 => ?_)
  · refine zs_table (pc := 1) (tgt := 48) d_Schemas_build_1 rfl (by rcases q with q|q|q|q <;> (rw [q]; decide)) ?_
    refine zs_iload_n (pc := 48) (x := a1) d_Schemas_build_48 rfl ?_
    refine zs_calls_wR (pc := 49) (av := [zI a1]) (st := []) (d' := 3) (C' := 2) (S' := 8) d_Schemas_build_49 kS_Schemas_55 (jm_Schema_ofPlain (d := 3) (Nat.le_refl _) fu a1 H) (by omega) (Nat.le_of_ble_eq_true rfl) (Nat.le_of_ble_eq_true rfl) rfl rfl (Nat.le_of_ble_eq_true rfl) fun y49 => ?_
    exact zs_aret (pc := 52) d_Schemas_build_52 rfl (Nat.le_of_ble_eq_true rfl) (Nat.le_of_ble_eq_true rfl) rfl
  refine zs_ite (fun q => ?_) (fun q1_1 => ?_)
  · refine zs_table (pc := 1) (tgt := 53) d_Schemas_build_1 rfl (by rcases q with q <;> (rw [q]; decide)) ?_
    refine zs_iload_n (pc := 53) (x := a2) d_Schemas_build_53 rfl ?_
    refine zs_iload_n (pc := 54) (x := a3) d_Schemas_build_54 rfl ?_
    refine zs_iload (pc := 55) (x := a4) d_Schemas_build_55 rfl ?_
    refine zs_calls_wR (pc := 57) (av := [zI a2, zI a3, zI a4]) (st := []) (d' := 4) (C' := 2) (S' := 8) d_Schemas_build_57 kS_Schemas_59 (jm_Schemas_buildEnum (d := 4) (Nat.le_refl _) fu a2 a3 a4 H) (by omega) (Nat.le_of_ble_eq_true rfl) (Nat.le_of_ble_eq_true rfl) rfl rfl (Nat.le_of_ble_eq_true rfl) fun y57 => ?_
    exact zs_aret (pc := 60) d_Schemas_build_60 rfl (Nat.le_of_ble_eq_true rfl) (Nat.le_of_ble_eq_true rfl) rfl
  refine zs_ite (fun q => ?_) (fun q1_2 => ?_)
  · refine zs_table (pc := 1) (tgt := 61) d_Schemas_build_1 rfl (by rcases q with q <;> (rw [q]; decide)) ?_
    refine zs_aload_n (pc := 61) (x := a0) d_Schemas_build_61 rfl ?_
    refine zs_iload_n (pc := 62) (x := a3) d_Schemas_build_62 rfl ?_
    refine zs_callv_rR (pc := 63) (av := [zI a3]) (st := []) (d' := 0) (C' := 0) (S' := 0) d_Schemas_build_63 kV_Schemas_63 z_okb (jm_Schemas_find (d := 0) (Nat.le_refl _) a0 a3 H) (by omega) (Nat.le_of_ble_eq_true rfl) (Nat.le_of_ble_eq_true rfl) rfl rfl (Nat.le_of_ble_eq_true rfl) fun y63 => ?_
    refine zs_calls_wR (pc := 66) (av := [zR y63]) (st := []) (d' := 4) (C' := 2) (S' := 8) d_Schemas_build_66 kS_Schemas_66 (jm_Schemas_buildArray (d := 4) (Nat.le_refl _) fu y63 H) (by omega) (Nat.le_of_ble_eq_true rfl) (Nat.le_of_ble_eq_true rfl) rfl rfl (Nat.le_of_ble_eq_true rfl) fun y66 => ?_
    exact zs_aret (pc := 69) d_Schemas_build_69 rfl (Nat.le_of_ble_eq_true rfl) (Nat.le_of_ble_eq_true rfl) rfl
  refine zs_ite (fun q => ?_) (fun q1_3 => ?_)
  · refine zs_table (pc := 1) (tgt := 70) d_Schemas_build_1 rfl (by rcases q with q <;> (rw [q]; decide)) ?_
    refine zs_aload_n (pc := 70) (x := a0) d_Schemas_build_70 rfl ?_
    refine zs_iload_n (pc := 71) (x := a3) d_Schemas_build_71 rfl ?_
    refine zs_callv_rR (pc := 72) (av := [zI a3]) (st := []) (d' := 0) (C' := 0) (S' := 0) d_Schemas_build_72 kV_Schemas_63 z_okb (jm_Schemas_find (d := 0) (Nat.le_refl _) a0 a3 H) (by omega) (Nat.le_of_ble_eq_true rfl) (Nat.le_of_ble_eq_true rfl) rfl rfl (Nat.le_of_ble_eq_true rfl) fun y72 => ?_
    refine zs_aload_n (pc := 75) (x := a0) d_Schemas_build_75 rfl ?_
    refine zs_iload (pc := 76) (x := a4) d_Schemas_build_76 rfl ?_
    refine zs_callv_rR (pc := 78) (av := [zI a4]) (st := [zR y72]) (d' := 0) (C' := 0) (S' := 0) d_Schemas_build_78 kV_Schemas_63 z_okb (jm_Schemas_find (d := 0) (Nat.le_refl _) a0 a4 H) (by omega) (Nat.le_of_ble_eq_true rfl) (Nat.le_of_ble_eq_true rfl) rfl rfl (Nat.le_of_ble_eq_true rfl) fun y78 => ?_
    refine zs_calls_wR (pc := 81) (av := [zR y72, zR y78]) (st := []) (d' := 4) (C' := 2) (S' := 8) d_Schemas_build_81 kS_Schemas_70 (jm_Schemas_buildUnion (d := 4) (Nat.le_refl _) fu y72 y78 H) (by omega) (Nat.le_of_ble_eq_true rfl) (Nat.le_of_ble_eq_true rfl) rfl rfl (Nat.le_of_ble_eq_true rfl) fun y81 => ?_
    exact zs_aret (pc := 84) d_Schemas_build_84 rfl (Nat.le_of_ble_eq_true rfl) (Nat.le_of_ble_eq_true rfl) rfl
  refine zs_ite (fun q => ?_) (fun q1_4 => ?_)
  · refine zs_table (pc := 1) (tgt := 85) d_Schemas_build_1 rfl (by rcases q with q <;> (rw [q]; decide)) ?_
    refine zs_aload_n (pc := 85) (x := a0) d_Schemas_build_85 rfl ?_
    refine zs_iload_n (pc := 86) (x := a2) d_Schemas_build_86 rfl ?_
    refine zs_callv_wR (pc := 87) (av := [zI a2]) (st := []) (d' := 4) (C' := 2) (S' := 11) d_Schemas_build_87 kV_Schemas_74 z_okb (jm_Schemas_buildRecord (d := 4) (Nat.le_refl _) fu a0 a2 H) (by omega) (Nat.le_of_ble_eq_true rfl) (Nat.le_of_ble_eq_true rfl) rfl rfl (Nat.le_of_ble_eq_true rfl) fun y87 => ?_
    exact zs_aret (pc := 90) d_Schemas_build_90 rfl (Nat.le_of_ble_eq_true rfl) (Nat.le_of_ble_eq_true rfl) rfl
  have h1_0 := zs_tne (k := 0) (fun hh => q1_0 (Or.inl hh)) (by decide)
  have h1_1 := zs_tne (k := 1) (fun hh => q1_0 (Or.inr (Or.inl hh))) (by decide)
  have h1_2 := zs_tne (k := 2) (fun hh => q1_0 (Or.inr (Or.inr (Or.inl hh)))) (by decide)
  have h1_3 := zs_tne (k := 3) (fun hh => q1_0 (Or.inr (Or.inr (Or.inr (hh))))) (by decide)
  have h1_4 := zs_tne (k := 4) q1_1 (by decide)
  have h1_5 := zs_tne (k := 5) q1_2 (by decide)
  have h1_6 := zs_tne (k := 6) q1_3 (by decide)
  have h1_7 := zs_tne (k := 7) q1_4 (by decide)
  refine zs_table (pc := 1) (tgt := 91) d_Schemas_build_1 rfl ?_ ?_
  · unfold z_tsw
    rw [if_pos (by omega)]
    decide
  · refine zs_null (pc := 91) d_Schemas_build_91 ?_
    exact zs_aret (pc := 92) d_Schemas_build_92 rfl (Nat.le_of_ble_eq_true rfl) (Nat.le_of_ble_eq_true rfl) rfl
def jJ_Schemas_addSchema_50 (fu : Nat) (a0 : Option Nat) (a5 : Option Nat) (H : zH) : Option (Int32 × zH) :=
  (zgR H a0 9 0).bind fun v51 =>
  (zgI H a0 9 2).bind fun v55 =>
  (zsR H v51 3 v55 8 a5).bind fun H60 =>
  (zgI H60 a0 9 2).bind fun v63 =>
  (zpV H60 a0 9 2 (zI (v63 + (1 : Int32)))).bind fun H68 =>
  (zgI H68 a0 9 2).bind fun v72 =>
  some ((v72 - (1 : Int32)), H68)
def jF_Schemas_addSchema (fu : Nat) (a0 : Option Nat) (a1 : Int32) (a2 : Int32) (a3 : Int32) (a4 : Int32) (H : zH) : Option (Int32 × zH) :=
  (zok H a0 9).bind fun _ =>
  (zgI H a0 9 2).bind fun v1 =>
  if v1 = (24 : Int32) then (
    some ((-1 : Int32), H))
  else (
    (jF_Schemas_build fu a0 a1 a2 a3 a4 H).bind fun y17 =>
    if y17.1 = none then (
      some ((-1 : Int32), y17.2))
    else (
      (zgI y17.2 y17.1 8 7).bind fun v29 =>
      if v29 ≤ (6 : Int32) then (
        if a1 = (7 : Int32) then (
          (zpV y17.2 a0 9 3 (zI (0 : Int32))).bind fun H47 =>
          jJ_Schemas_addSchema_50 fu a0 y17.1 H47)
        else (
          jJ_Schemas_addSchema_50 fu a0 y17.1 y17.2))
      else (
        some ((-1 : Int32), y17.2))))
theorem jj_Schemas_addSchema_50 {E : zE} {d : Nat} (hd : 6 ≤ d) (fu : Nat) : ∀ (a0 : Option Nat) (a5 : Option Nat) (H : zH), z_S E jM_Schemas_addSchema d 10 43 zwI 50 [(0, zR a0), (5, zR a5)] [] H 10 43 (jJ_Schemas_addSchema_50 fu a0 a5 H) := by
  intro a0 a5 H
  unfold jJ_Schemas_addSchema_50
  refine zs_aload_n (pc := 50) (x := a0) d_Schemas_addSchema_50 rfl ?_
  refine zs_getR (pc := 51) d_Schemas_addSchema_51 kF_Schemas_13 fun v51 => ?_
  refine zs_aload_n (pc := 54) (x := a0) d_Schemas_addSchema_54 rfl ?_
  refine zs_getI (pc := 55) d_Schemas_addSchema_55 kF_Schemas_23 fun v55 => ?_
  refine zs_aload (pc := 58) (x := a5) d_Schemas_addSchema_58 rfl ?_
  refine zs_aast (t := 3) (ci := 8) (pc := 60) d_Schemas_addSchema_60 rfl rfl fun H60 => ?_
  refine zs_aload_n (pc := 61) (x := a0) d_Schemas_addSchema_61 rfl ?_
  refine zs_dup (pc := 62) d_Schemas_addSchema_62 rfl ?_
  refine zs_getI (pc := 63) d_Schemas_addSchema_63 kF_Schemas_23 fun v63 => ?_
  refine zs_iconst (pc := 66) (v := (1 : Int32)) d_Schemas_addSchema_66 (by decide) ?_
  refine zs_iadd (pc := 67) d_Schemas_addSchema_67 ?_
  refine zs_put (pc := 68) d_Schemas_addSchema_68 kP_Schemas_23 z_fitI fun H68 => ?_
  refine zs_aload_n (pc := 71) (x := a0) d_Schemas_addSchema_71 rfl ?_
  refine zs_getI (pc := 72) d_Schemas_addSchema_72 kF_Schemas_23 fun v72 => ?_
  refine zs_iconst (pc := 75) (v := (1 : Int32)) d_Schemas_addSchema_75 (by decide) ?_
  refine zs_isub (pc := 76) d_Schemas_addSchema_76 ?_
  exact zs_iret (pc := 77) d_Schemas_addSchema_77 rfl (Nat.le_of_ble_eq_true rfl) (Nat.le_of_ble_eq_true rfl) rfl
theorem jm_Schemas_addSchema {E : zE} {d : Nat} (hd : 6 ≤ d) (fu : Nat) (a0 : Option Nat) (a1 : Int32) (a2 : Int32) (a3 : Int32) (a4 : Int32) (H : zH) : z_MS E jM_Schemas_addSchema d 10 43 zwI [zR a0, zI a1, zI a2, zI a3, zI a4] H (jF_Schemas_addSchema fu a0 a1 a2 a3 a4 H) := by
  refine zs_of (lv0 := [(0, zR a0), (1, zI a1), (2, zI a2), (3, zI a3), (4, zI a4)]) pn_Schemas (Nat.le_of_ble_eq_true rfl) rfl ?_
  unfold jF_Schemas_addSchema
  refine zs_bind fun _ _ => ?_
  refine zs_aload_n (pc := 0) (x := a0) d_Schemas_addSchema_0 rfl ?_
  refine zs_getI (pc := 1) d_Schemas_addSchema_1 kF_Schemas_23 fun v1 => ?_
  refine zs_bipush (pc := 4) (v := (24 : Int32)) d_Schemas_addSchema_4 (by decide) ?_
  refine zs_icmp_ne (pc := 6) (tgt := 11) d_Schemas_addSchema_6 rfl (fun q6 => ?_) (fun q6 => ?_)
  · refine zs_aload_n (pc := 11) (x := a0) d_Schemas_addSchema_11 rfl ?_
    refine zs_iload_n (pc := 12) (x := a1) d_Schemas_addSchema_12 rfl ?_
    refine zs_iload_n (pc := 13) (x := a2) d_Schemas_addSchema_13 rfl ?_
    refine zs_iload_n (pc := 14) (x := a3) d_Schemas_addSchema_14 rfl ?_
    refine zs_iload (pc := 15) (x := a4) d_Schemas_addSchema_15 rfl ?_
    refine zs_callv_wR (pc := 17) (av := [zI a1, zI a2, zI a3, zI a4]) (st := []) (d' := 5) (C' := 10) (S' := 43) d_Schemas_addSchema_17 kV_Schemas_45 z_okb (jm_Schemas_build (d := 5) (Nat.le_refl _) fu a0 a1 a2 a3 a4 H) (by omega) (Nat.le_of_ble_eq_true rfl) (Nat.le_of_ble_eq_true rfl) rfl rfl (Nat.le_of_ble_eq_true rfl) fun y17 => ?_
    refine zs_astore (pc := 20) (lv' := [(5, zR y17.1), (0, zR a0), (1, zI a1), (2, zI a2), (3, zI a3), (4, zI a4)]) d_Schemas_addSchema_20 (Nat.le_of_ble_eq_true rfl) rfl ?_
    refine zs_aload (pc := 22) (x := y17.1) d_Schemas_addSchema_22 rfl ?_
    refine zs_ifnull (pc := 24) (tgt := 37) d_Schemas_addSchema_24 rfl (fun q24 => ?_) (fun q24 => ?_)
    · refine zs_iconst (pc := 37) (v := (-1 : Int32)) d_Schemas_addSchema_37 (by decide) ?_
      exact zs_iret (pc := 38) d_Schemas_addSchema_38 rfl (Nat.le_of_ble_eq_true rfl) (Nat.le_of_ble_eq_true rfl) rfl
    · refine zs_aload (pc := 27) (x := y17.1) d_Schemas_addSchema_27 rfl ?_
      refine zs_getI (pc := 29) d_Schemas_addSchema_29 kF_Schemas_49 fun v29 => ?_
      refine zs_bipush (pc := 32) (v := (6 : Int32)) d_Schemas_addSchema_32 (by decide) ?_
      refine zs_icmp_le (pc := 34) (tgt := 39) d_Schemas_addSchema_34 rfl (fun q34 => ?_) (fun q34 => ?_)
      · refine zs_iload_n (pc := 39) (x := a1) d_Schemas_addSchema_39 rfl ?_
        refine zs_bipush (pc := 40) (v := (7 : Int32)) d_Schemas_addSchema_40 (by decide) ?_
        refine zs_icmp_ne (pc := 42) (tgt := 50) d_Schemas_addSchema_42 rfl (fun q42 => ?_) (fun q42 => ?_)
        · refine zs_sub (lv' := [(0, zR a0), (5, zR y17.1)]) [1, 0] rfl ?_
          exact jj_Schemas_addSchema_50 hd fu a0 y17.1 y17.2
        · refine zs_aload_n (pc := 45) (x := a0) d_Schemas_addSchema_45 rfl ?_
          refine zs_iconst (pc := 46) (v := (0 : Int32)) d_Schemas_addSchema_46 (by decide) ?_
          refine zs_put (pc := 47) d_Schemas_addSchema_47 kP_Schemas_27 z_fitI fun H47 => ?_
          refine zs_sub (lv' := [(0, zR a0), (5, zR y17.1)]) [1, 0] rfl ?_
          exact jj_Schemas_addSchema_50 hd fu a0 y17.1 H47
      · refine zs_iconst (pc := 37) (v := (-1 : Int32)) d_Schemas_addSchema_37 (by decide) ?_
        exact zs_iret (pc := 38) d_Schemas_addSchema_38 rfl (Nat.le_of_ble_eq_true rfl) (Nat.le_of_ble_eq_true rfl) rfl
  · refine zs_iconst (pc := 9) (v := (-1 : Int32)) d_Schemas_addSchema_9 (by decide) ?_
    exact zs_iret (pc := 10) d_Schemas_addSchema_10 rfl (Nat.le_of_ble_eq_true rfl) (Nat.le_of_ble_eq_true rfl) rfl
def jF_ST_make (fu : Nat) (a0 : Option Nat) (a1 : Int32) (a2 : Int32) (a3 : Int32) (a4 : Int32) (H : zH) : Option (Int32 × zH) :=
  (zok H a0 0).bind fun _ =>
  (zgR H a0 0 0).bind fun v1 =>
  (jF_Schemas_addSchema fu v1 a1 a2 a3 a4 H).bind fun y9 =>
  some (y9.1, y9.2)
theorem jm_ST_make {E : zE} {d : Nat} (hd : 7 ≤ d) (fu : Nat) (a0 : Option Nat) (a1 : Int32) (a2 : Int32) (a3 : Int32) (a4 : Int32) (H : zH) : z_MS E jM_ST_make d 10 43 zwI [zR a0, zI a1, zI a2, zI a3, zI a4] H (jF_ST_make fu a0 a1 a2 a3 a4 H) := by
  refine zs_of (lv0 := [(0, zR a0), (1, zI a1), (2, zI a2), (3, zI a3), (4, zI a4)]) pn_ST (Nat.le_of_ble_eq_true rfl) rfl ?_
  unfold jF_ST_make
  refine zs_bind fun _ _ => ?_
  refine zs_aload_n (pc := 0) (x := a0) d_ST_make_0 rfl ?_
  refine zs_getR (pc := 1) d_ST_make_1 kF_ST_13 fun v1 => ?_
  refine zs_iload_n (pc := 4) (x := a1) d_ST_make_4 rfl ?_
  refine zs_iload_n (pc := 5) (x := a2) d_ST_make_5 rfl ?_
  refine zs_iload_n (pc := 6) (x := a3) d_ST_make_6 rfl ?_
  refine zs_iload (pc := 7) (x := a4) d_ST_make_7 rfl ?_
  refine zs_callv_wI (pc := 9) (av := [zI a1, zI a2, zI a3, zI a4]) (st := []) (d' := 6) (C' := 10) (S' := 43) d_ST_make_9 kV_ST_69 z_okb (jm_Schemas_addSchema (d := 6) (Nat.le_refl _) fu v1 a1 a2 a3 a4 H) (by omega) (Nat.le_of_ble_eq_true rfl) (Nat.le_of_ble_eq_true rfl) rfl rfl (Nat.le_of_ble_eq_true rfl) fun y9 => ?_
  exact zs_iret (pc := 12) d_ST_make_12 rfl (Nat.le_of_ble_eq_true rfl) (Nat.le_of_ble_eq_true rfl) rfl
def jF_Schema_branch (a0 : Option Nat) (a1 : Int64) (H : zH) : Option (Option Nat) :=
  (zok H a0 8).bind fun _ =>
  if a1 = (0 : Int64) then (
    (zgR H a0 8 4).bind fun v7 =>
    some v7)
  else (
    (zgR H a0 8 5).bind fun v14 =>
    some v14)
theorem jm_Schema_branch {E : zE} {d : Nat} (hd : 0 ≤ d) (a0 : Option Nat) (a1 : Int64) (H : zH) : z_MS E jM_Schema_branch d 0 0 (zrR H) [zR a0, zL a1] H (jF_Schema_branch a0 a1 H) := by
  refine zs_of (lv0 := [(0, zR a0), (1, zL a1)]) pn_Schema (Nat.le_of_ble_eq_true rfl) rfl ?_
  unfold jF_Schema_branch
  refine zs_bind fun _ _ => ?_
  refine zs_lload_n (pc := 0) (x := a1) d_Schema_branch_0 rfl ?_
  refine zs_lconst (pc := 1) (v := (0 : Int64)) d_Schema_branch_1 (by decide) ?_
  refine zs_lcmp_ne (pc := 2) (tgt := 13) d_Schema_branch_2 d_Schema_branch_3 rfl (fun q2 => ?_) (fun q2 => ?_)
  · refine zs_aload_n (pc := 13) (x := a0) d_Schema_branch_13 rfl ?_
    refine zs_getR (pc := 14) d_Schema_branch_14 kF_Schema_28 fun v14 => ?_
    exact zs_aret (pc := 17) d_Schema_branch_17 rfl (Nat.le_of_ble_eq_true rfl) (Nat.le_of_ble_eq_true rfl) rfl
  · refine zs_aload_n (pc := 6) (x := a0) d_Schema_branch_6 rfl ?_
    refine zs_getR (pc := 7) d_Schema_branch_7 kF_Schema_24 fun v7 => ?_
    refine zs_goto (pc := 10) (tgt := 17) d_Schema_branch_10 rfl ?_
    exact zs_aret (pc := 17) d_Schema_branch_17 rfl (Nat.le_of_ble_eq_true rfl) (Nat.le_of_ble_eq_true rfl) rfl
def jJ_Schema_haveFittingKinds_27 (H : zH)  : Option Int32 :=
  some (1 : Int32)
def jF_Schema_haveFittingKinds (a0 : Option Nat) (a1 : Option Nat) (H : zH) : Option Int32 :=
  (zgI H a1 8 0).bind fun v1 =>
  (zgI H a0 8 0).bind fun v5 =>
  if v1 = v5 then (
    jJ_Schema_haveFittingKinds_27 H)
  else (
    (zgI H a1 8 0).bind fun v12 =>
    if v12 = (2 : Int32) then (
      (zgI H a0 8 0).bind fun v20 =>
      if v20 = (3 : Int32) then (
        jJ_Schema_haveFittingKinds_27 H)
      else (
        some (0 : Int32)))
    else (
      some (0 : Int32)))
theorem jj_Schema_haveFittingKinds_27 {E : zE} {d : Nat} (hd : 0 ≤ d) (H : zH) : z_S E jM_Schema_haveFittingKinds d 0 0 (zrI H) 27 [] [] H 0 0 (jJ_Schema_haveFittingKinds_27 H) := by
  unfold jJ_Schema_haveFittingKinds_27
  refine zs_iconst (pc := 27) (v := (1 : Int32)) d_Schema_haveFittingKinds_27 (by decide) ?_
  refine zs_goto (pc := 28) (tgt := 32) d_Schema_haveFittingKinds_28 rfl ?_
  exact zs_zretc (pc := 32) d_Schema_haveFittingKinds_32 rfl (by decide) (Nat.le_of_ble_eq_true rfl) (Nat.le_of_ble_eq_true rfl) rfl
theorem jm_Schema_haveFittingKinds {E : zE} {d : Nat} (hd : 0 ≤ d) (a0 : Option Nat) (a1 : Option Nat) (H : zH) : z_MS E jM_Schema_haveFittingKinds d 0 0 (zrI H) [zR a0, zR a1] H (jF_Schema_haveFittingKinds a0 a1 H) := by
  refine zs_of (lv0 := [(0, zR a0), (1, zR a1)]) pn_Schema (Nat.le_of_ble_eq_true rfl) rfl ?_
  unfold jF_Schema_haveFittingKinds
  refine zs_aload_n (pc := 0) (x := a1) d_Schema_haveFittingKinds_0 rfl ?_
  refine zs_getI (pc := 1) d_Schema_haveFittingKinds_1 kF_Schema_9 fun v1 => ?_
  refine zs_aload_n (pc := 4) (x := a0) d_Schema_haveFittingKinds_4 rfl ?_
  refine zs_getI (pc := 5) d_Schema_haveFittingKinds_5 kF_Schema_9 fun v5 => ?_
  refine zs_icmp_eq (pc := 8) (tgt := 27) d_Schema_haveFittingKinds_8 rfl (fun q8 => ?_) (fun q8 => ?_)
  · refine zs_sub (lv' := []) [] rfl ?_
    exact jj_Schema_haveFittingKinds_27 hd H
  · refine zs_aload_n (pc := 11) (x := a1) d_Schema_haveFittingKinds_11 rfl ?_
    refine zs_getI (pc := 12) d_Schema_haveFittingKinds_12 kF_Schema_9 fun v12 => ?_
    refine zs_iconst (pc := 15) (v := (2 : Int32)) d_Schema_haveFittingKinds_15 (by decide) ?_
    refine zs_icmp_ne (pc := 16) (tgt := 31) d_Schema_haveFittingKinds_16 rfl (fun q16 => ?_) (fun q16 => ?_)
    · refine zs_iconst (pc := 31) (v := (0 : Int32)) d_Schema_haveFittingKinds_31 (by decide) ?_
      exact zs_zretc (pc := 32) d_Schema_haveFittingKinds_32 rfl (by decide) (Nat.le_of_ble_eq_true rfl) (Nat.le_of_ble_eq_true rfl) rfl
    · refine zs_aload_n (pc := 19) (x := a0) d_Schema_haveFittingKinds_19 rfl ?_
      refine zs_getI (pc := 20) d_Schema_haveFittingKinds_20 kF_Schema_9 fun v20 => ?_
      refine zs_iconst (pc := 23) (v := (3 : Int32)) d_Schema_haveFittingKinds_23 (by decide) ?_
      refine zs_icmp_ne (pc := 24) (tgt := 31) d_Schema_haveFittingKinds_24 rfl (fun q24 => ?_) (fun q24 => ?_)
      · refine zs_iconst (pc := 31) (v := (0 : Int32)) d_Schema_haveFittingKinds_31 (by decide) ?_
        exact zs_zretc (pc := 32) d_Schema_haveFittingKinds_32 rfl (by decide) (Nat.le_of_ble_eq_true rfl) (Nat.le_of_ble_eq_true rfl) rfl
      · refine zs_sub (lv' := []) [] rfl ?_
        exact jj_Schema_haveFittingKinds_27 hd H
def jF_Schema_match : Nat → Option Nat → Option Nat → zH → Option Int32
  | 0, _, _, _ => none
  | rr + 1, a0, a1, H =>
    (zgI H a0 8 0).bind fun v1 =>
    if v1 = (6 : Int32) then (
      some (1 : Int32))
    else (
      (zgI H a1 8 0).bind fun v10 =>
      if v10 = (6 : Int32) then (
        some (1 : Int32))
      else (
        (jF_Schema_haveFittingKinds a1 a0 H).bind fun y22 =>
        if y22 = 0 then (
          some (0 : Int32))
        else (
          (zgI H a1 8 0).bind fun v31 =>
          if v31 = (4 : Int32) ∨ v31 = (7 : Int32) then (
            (zgI H a0 8 1).bind fun v65 =>
            (zgI H a1 8 1).bind fun v69 =>
            if v65 = v69 then (
              some (1 : Int32))
            else (
              some (0 : Int32)))
          else (
            if v31 = (5 : Int32) then (
              (zgR H a0 8 4).bind fun v82 =>
              (zgR H a1 8 4).bind fun v86 =>
              ((fun x0 x1 x2 => jF_Schema_match rr x0 x1 x2) v82 v86 H).bind fun y89 =>
              (zbo y89).bind fun x => some x)
            else (
              some (1 : Int32))))))
theorem jm_Schema_match {E : zE} : ∀ (rr : Nat) {d : Nat} (hd : 1 * rr ≤ d) (a0 : Option Nat) (a1 : Option Nat) (H : zH), z_MS E jM_Schema_match d 0 0 (zrI H) [zR a0, zR a1] H (jF_Schema_match rr a0 a1 H) := by
  intro rr
  induction rr with
  | zero => intro d hd a0 a1 H y hy; rw [jF_Schema_match] at hy; cases hy
  | succ rr ih =>
    intro d hd a0 a1 H
    have hrc : ∀ (x0 : Option Nat) (x1 : Option Nat) (H : zH), z_MS E jM_Schema_match (1 * rr) 0 0 (zrI H) [zR x0, zR x1] H ((fun x0 x1 x2 => jF_Schema_match rr x0 x1 x2) x0 x1 H) := fun x0 x1 x2 => ih (Nat.le_refl _) x0 x1 x2
    have hd : 1 * rr + 1 ≤ d := by omega
    refine zs_of (lv0 := [(0, zR a0), (1, zR a1)]) pn_Schema (Nat.le_of_ble_eq_true rfl) rfl ?_
    rw [jF_Schema_match]
    refine zs_aload_n (pc := 0) (x := a0) d_Schema_match_0 rfl ?_
    refine zs_getI (pc := 1) d_Schema_match_1 kF_Schema_9 fun v1 => ?_
    refine zs_bipush (pc := 4) (v := (6 : Int32)) d_Schema_match_4 (by decide) ?_
    refine zs_icmp_eq (pc := 6) (tgt := 18) d_Schema_match_6 rfl (fun q6 => ?_) (fun q6 => ?_)
    · refine zs_iconst (pc := 18) (v := (1 : Int32)) d_Schema_match_18 (by decide) ?_
      exact zs_zretc (pc := 19) d_Schema_match_19 rfl (by decide) (Nat.le_of_ble_eq_true rfl) (Nat.le_of_ble_eq_true rfl) rfl
    · refine zs_aload_n (pc := 9) (x := a1) d_Schema_match_9 rfl ?_
      refine zs_getI (pc := 10) d_Schema_match_10 kF_Schema_9 fun v10 => ?_
      refine zs_bipush (pc := 13) (v := (6 : Int32)) d_Schema_match_13 (by decide) ?_
      refine zs_icmp_ne (pc := 15) (tgt := 20) d_Schema_match_15 rfl (fun q15 => ?_) (fun q15 => ?_)
      · refine zs_aload_n (pc := 20) (x := a1) d_Schema_match_20 rfl ?_
        refine zs_aload_n (pc := 21) (x := a0) d_Schema_match_21 rfl ?_
        refine zs_calls_rI (pc := 22) (av := [zR a1, zR a0]) (st := []) (d' := 0) (C' := 0) (S' := 0) d_Schema_match_22 kS_Schema_82 (jm_Schema_haveFittingKinds (d := 0) (Nat.le_refl _) a1 a0 H) (by omega) (Nat.le_of_ble_eq_true rfl) (Nat.le_of_ble_eq_true rfl) rfl rfl (Nat.le_of_ble_eq_true rfl) fun y22 => ?_
        refine zs_if_ne (pc := 25) (tgt := 30) d_Schema_match_25 rfl (fun q25 => ?_) (fun q25 => ?_)
        · refine zs_aload_n (pc := 30) (x := a1) d_Schema_match_30 rfl ?_
          refine zs_getI (pc := 31) d_Schema_match_31 kF_Schema_9 fun v31 => ?_
          refine zs_ite (fun q => ?_) (fun q34_0 => ?_)
          · refine zs_table (pc := 34) (tgt := 64) d_Schema_match_34 rfl (by rcases q with q|q <;> (rw [q]; decide)) ?_
            refine zs_aload_n (pc := 64) (x := a0) d_Schema_match_64 rfl ?_
            refine zs_getI (pc := 65) d_Schema_match_65 kF_Schema_15 fun v65 => ?_
            refine zs_aload_n (pc := 68) (x := a1) d_Schema_match_68 rfl ?_
            refine zs_getI (pc := 69) d_Schema_match_69 kF_Schema_15 fun v69 => ?_
            refine zs_icmp_ne (pc := 72) (tgt := 79) d_Schema_match_72 rfl (fun q72 => ?_) (fun q72 => ?_)
            · refine zs_iconst (pc := 79) (v := (0 : Int32)) d_Schema_match_79 (by decide) ?_
              exact zs_zretc (pc := 80) d_Schema_match_80 rfl (by decide) (Nat.le_of_ble_eq_true rfl) (Nat.le_of_ble_eq_true rfl) rfl
            · refine zs_iconst (pc := 75) (v := (1 : Int32)) d_Schema_match_75 (by decide) ?_
              refine zs_goto (pc := 76) (tgt := 80) d_Schema_match_76 rfl ?_
              exact zs_zretc (pc := 80) d_Schema_match_80 rfl (by decide) (Nat.le_of_ble_eq_true rfl) (Nat.le_of_ble_eq_true rfl) rfl
          refine zs_ite (fun q => ?_) (fun q34_1 => ?_)
          · refine zs_table (pc := 34) (tgt := 81) d_Schema_match_34 rfl (by rcases q with q <;> (rw [q]; decide)) ?_
            refine zs_aload_n (pc := 81) (x := a0) d_Schema_match_81 rfl ?_
            refine zs_getR (pc := 82) d_Schema_match_82 kF_Schema_24 fun v82 => ?_
            refine zs_aload_n (pc := 85) (x := a1) d_Schema_match_85 rfl ?_
            refine zs_getR (pc := 86) d_Schema_match_86 kF_Schema_24 fun v86 => ?_
            refine zs_calls_rI (pc := 89) (av := [zR v82, zR v86]) (st := []) (d' := (1 * rr)) (C' := 0) (S' := 0) d_Schema_match_89 kS_Schema_86 (hrc v82 v86 H) (by omega) (Nat.le_of_ble_eq_true rfl) (Nat.le_of_ble_eq_true rfl) rfl rfl (Nat.le_of_ble_eq_true rfl) fun y89 => ?_
            exact zs_zret (g := fun x => x) (pc := 92) d_Schema_match_92 rfl (Nat.le_of_ble_eq_true rfl) (Nat.le_of_ble_eq_true rfl) rfl
          have h34_4 := zs_tne (k := 4) (fun hh => q34_0 (Or.inl hh)) (by decide)
          have h34_7 := zs_tne (k := 7) (fun hh => q34_0 (Or.inr (hh))) (by decide)
          have h34_5 := zs_tne (k := 5) q34_1 (by decide)
          refine zs_table (pc := 34) (tgt := 93) d_Schema_match_34 rfl ?_ ?_
          · unfold z_tsw
            by_cases hb : (v31).toInt < 4 ∨ 7 < (v31).toInt
            · rw [if_pos hb]; decide
            · rw [if_neg hb]
              have hg : (v31).toInt = 6 := by omega
              rw [hg]; decide
          · refine zs_iconst (pc := 93) (v := (1 : Int32)) d_Schema_match_93 (by decide) ?_
            exact zs_zretc (pc := 94) d_Schema_match_94 rfl (by decide) (Nat.le_of_ble_eq_true rfl) (Nat.le_of_ble_eq_true rfl) rfl
        · refine zs_iconst (pc := 28) (v := (0 : Int32)) d_Schema_match_28 (by decide) ?_
          exact zs_zretc (pc := 29) d_Schema_match_29 rfl (by decide) (Nat.le_of_ble_eq_true rfl) (Nat.le_of_ble_eq_true rfl) rfl
      · refine zs_iconst (pc := 18) (v := (1 : Int32)) d_Schema_match_18 (by decide) ?_
        exact zs_zretc (pc := 19) d_Schema_match_19 rfl (by decide) (Nat.le_of_ble_eq_true rfl) (Nat.le_of_ble_eq_true rfl) rfl
def jF_Schema_matchingBranch (a0 : Option Nat) (a1 : Option Nat) (H : zH) : Option Int32 :=
  (zgR H a0 8 4).bind fun v2 =>
  (jF_Schema_match 7 a1 v2 H).bind fun y5 =>
  if y5 = 0 then (
    (zgR H a0 8 5).bind fun v15 =>
    (jF_Schema_match 7 a1 v15 H).bind fun y18 =>
    if y18 = 0 then (
      some (-1 : Int32))
    else (
      some (1 : Int32)))
  else (
    some (0 : Int32))
theorem jm_Schema_matchingBranch {E : zE} {d : Nat} (hd : 8 ≤ d) (a0 : Option Nat) (a1 : Option Nat) (H : zH) : z_MS E jM_Schema_matchingBranch d 0 0 (zrI H) [zR a0, zR a1] H (jF_Schema_matchingBranch a0 a1 H) := by
  refine zs_of (lv0 := [(0, zR a0), (1, zR a1)]) pn_Schema (Nat.le_of_ble_eq_true rfl) rfl ?_
  unfold jF_Schema_matchingBranch
  refine zs_aload_n (pc := 0) (x := a1) d_Schema_matchingBranch_0 rfl ?_
  refine zs_aload_n (pc := 1) (x := a0) d_Schema_matchingBranch_1 rfl ?_
  refine zs_getR (pc := 2) d_Schema_matchingBranch_2 kF_Schema_24 fun v2 => ?_
  refine zs_calls_rI (pc := 5) (av := [zR a1, zR v2]) (st := []) (d' := 7) (C' := 0) (S' := 0) d_Schema_matchingBranch_5 kS_Schema_86 (jm_Schema_match 7 (d := 7) (by decide) a1 v2 H) (by omega) (Nat.le_of_ble_eq_true rfl) (Nat.le_of_ble_eq_true rfl) rfl rfl (Nat.le_of_ble_eq_true rfl) fun y5 => ?_
  refine zs_if_eq (pc := 8) (tgt := 13) d_Schema_matchingBranch_8 rfl (fun q8 => ?_) (fun q8 => ?_)
  · refine zs_aload_n (pc := 13) (x := a1) d_Schema_matchingBranch_13 rfl ?_
    refine zs_aload_n (pc := 14) (x := a0) d_Schema_matchingBranch_14 rfl ?_
    refine zs_getR (pc := 15) d_Schema_matchingBranch_15 kF_Schema_28 fun v15 => ?_
    refine zs_calls_rI (pc := 18) (av := [zR a1, zR v15]) (st := []) (d' := 7) (C' := 0) (S' := 0) d_Schema_matchingBranch_18 kS_Schema_86 (jm_Schema_match 7 (d := 7) (by decide) a1 v15 H) (by omega) (Nat.le_of_ble_eq_true rfl) (Nat.le_of_ble_eq_true rfl) rfl rfl (Nat.le_of_ble_eq_true rfl) fun y18 => ?_
    refine zs_if_eq (pc := 21) (tgt := 28) d_Schema_matchingBranch_21 rfl (fun q21 => ?_) (fun q21 => ?_)
    · refine zs_iconst (pc := 28) (v := (-1 : Int32)) d_Schema_matchingBranch_28 (by decide) ?_
      exact zs_iret (pc := 29) d_Schema_matchingBranch_29 rfl (Nat.le_of_ble_eq_true rfl) (Nat.le_of_ble_eq_true rfl) rfl
    · refine zs_iconst (pc := 24) (v := (1 : Int32)) d_Schema_matchingBranch_24 (by decide) ?_
      refine zs_goto (pc := 25) (tgt := 29) d_Schema_matchingBranch_25 rfl ?_
      exact zs_iret (pc := 29) d_Schema_matchingBranch_29 rfl (Nat.le_of_ble_eq_true rfl) (Nat.le_of_ble_eq_true rfl) rfl
  · refine zs_iconst (pc := 11) (v := (0 : Int32)) d_Schema_matchingBranch_11 (by decide) ?_
    exact zs_iret (pc := 12) d_Schema_matchingBranch_12 rfl (Nat.le_of_ble_eq_true rfl) (Nat.le_of_ble_eq_true rfl) rfl
def jL_Schema_fieldOf_2 (fu : Nat) (H : zH) : Nat → Option Nat → Int32 → Int32 → Option (Option Nat)
  | 0, _, _, _ => none
  | g + 1, a0, a1, a2 =>
    (zgR H a0 8 6).bind fun v4 =>
    (zle H v4 4).bind fun v7 =>
    if v7 ≤ a2 then (
      some none)
    else (
      (zgR H a0 8 6).bind fun v12 =>
      (zaR H v12 4 a2).bind fun v16 =>
      (zgI H v16 4 0).bind fun v17 =>
      if v17 = a1 then (
        (zgR H a0 8 6).bind fun v25 =>
        (zaR H v25 4 a2).bind fun v29 =>
        some v29)
      else (
        jL_Schema_fieldOf_2 fu H g a0 a1 (a2 + (1 : Int32))))
def jF_Schema_fieldOf (fu : Nat) (a0 : Option Nat) (a1 : Int32) (H : zH) : Option (Option Nat) :=
  (zok H a0 8).bind fun _ =>
  jL_Schema_fieldOf_2 fu H fu a0 a1 (0 : Int32)
theorem jl_Schema_fieldOf_2 {E : zE} {d : Nat} (hd : 0 ≤ d) (fu : Nat) (H : zH) : ∀ (g : Nat), ∀ (a0 : Option Nat) (a1 : Int32) (a2 : Int32), z_S E jM_Schema_fieldOf d 0 0 (zrR H) 2 [(0, zR a0), (1, zI a1), (2, zI a2)] [] H 0 0 (jL_Schema_fieldOf_2 fu H g a0 a1 a2) := by
  intro g
  induction g with
  | zero => intros; exact zs_none
  | succ g ih =>
    intro a0 a1 a2
    rw [jL_Schema_fieldOf_2]
    refine zs_iload_n (pc := 2) (x := a2) d_Schema_fieldOf_2 rfl ?_
    refine zs_aload_n (pc := 3) (x := a0) d_Schema_fieldOf_3 rfl ?_
    refine zs_getR (pc := 4) d_Schema_fieldOf_4 kF_Schema_31 fun v4 => ?_
    refine zs_alen (t := 4) (pc := 7) d_Schema_fieldOf_7 rfl fun v7 => ?_
    refine zs_icmp_ge (pc := 8) (tgt := 37) d_Schema_fieldOf_8 rfl (fun q8 => ?_) (fun q8 => ?_)
    · refine zs_null (pc := 37) d_Schema_fieldOf_37 ?_
      exact zs_aret (pc := 38) d_Schema_fieldOf_38 rfl (Nat.le_of_ble_eq_true rfl) (Nat.le_of_ble_eq_true rfl) rfl
    · refine zs_aload_n (pc := 11) (x := a0) d_Schema_fieldOf_11 rfl ?_
      refine zs_getR (pc := 12) d_Schema_fieldOf_12 kF_Schema_31 fun v12 => ?_
      refine zs_iload_n (pc := 15) (x := a2) d_Schema_fieldOf_15 rfl ?_
      refine zs_aald (t := 4) (pc := 16) d_Schema_fieldOf_16 rfl fun v16 => ?_
      refine zs_getI (pc := 17) d_Schema_fieldOf_17 kF_Schema_74 fun v17 => ?_
      refine zs_iload_n (pc := 20) (x := a1) d_Schema_fieldOf_20 rfl ?_
      refine zs_icmp_ne (pc := 21) (tgt := 31) d_Schema_fieldOf_21 rfl (fun q21 => ?_) (fun q21 => ?_)
      · refine zs_iinc (pc := 31) (x := a2) (v := (a2 + (1 : Int32))) (lv' := [(2, zI (a2 + (1 : Int32))), (0, zR a0), (1, zI a1)]) d_Schema_fieldOf_31 rfl rfl (Nat.le_of_ble_eq_true rfl) rfl ?_
        refine zs_goto (pc := 34) (tgt := 2) d_Schema_fieldOf_34 rfl ?_
        refine zs_sub (lv' := [(0, zR a0), (1, zI a1), (2, zI (a2 + (1 : Int32)))]) [1, 2, 0] rfl ?_
        exact ih a0 a1 (a2 + (1 : Int32))
      · refine zs_aload_n (pc := 24) (x := a0) d_Schema_fieldOf_24 rfl ?_
        refine zs_getR (pc := 25) d_Schema_fieldOf_25 kF_Schema_31 fun v25 => ?_
        refine zs_iload_n (pc := 28) (x := a2) d_Schema_fieldOf_28 rfl ?_
        refine zs_aald (t := 4) (pc := 29) d_Schema_fieldOf_29 rfl fun v29 => ?_
        exact zs_aret (pc := 30) d_Schema_fieldOf_30 rfl (Nat.le_of_ble_eq_true rfl) (Nat.le_of_ble_eq_true rfl) rfl
theorem jm_Schema_fieldOf {E : zE} {d : Nat} (hd : 0 ≤ d) (fu : Nat) (a0 : Option Nat) (a1 : Int32) (H : zH) : z_MS E jM_Schema_fieldOf d 0 0 (zrR H) [zR a0, zI a1] H (jF_Schema_fieldOf fu a0 a1 H) := by
  refine zs_of (lv0 := [(0, zR a0), (1, zI a1)]) pn_Schema (Nat.le_of_ble_eq_true rfl) rfl ?_
  unfold jF_Schema_fieldOf
  refine zs_bind fun _ _ => ?_
  refine zs_iconst (pc := 0) (v := (0 : Int32)) d_Schema_fieldOf_0 (by decide) ?_
  refine zs_istore_n (pc := 1) (lv' := [(2, zI (0 : Int32)), (0, zR a0), (1, zI a1)]) d_Schema_fieldOf_1 (Nat.le_of_ble_eq_true rfl) rfl ?_
  refine zs_sub (lv' := [(0, zR a0), (1, zI a1), (2, zI (0 : Int32))]) [1, 2, 0] rfl ?_
  exact jl_Schema_fieldOf_2 hd fu H fu a0 a1 (0 : Int32)
def jJ_Schema_readsFields_52 (fu : Nat) (H : zH) (rc : Option Nat → Option Nat → zH → Option Int32) (k2 : Option Nat → Option Nat → Int32 → Option Int32) (s0 : Int32) (a0 : Option Nat) (a1 : Option Nat) (a2 : Int32) : Option Int32 :=
  if s0 = 0 then (
    some (0 : Int32))
  else (
    k2 a0 a1 (a2 + (1 : Int32)))
def jL_Schema_readsFields_2 (fu : Nat) (H : zH) (rc : Option Nat → Option Nat → zH → Option Int32) : Nat → Option Nat → Option Nat → Int32 → Option Int32
  | 0, _, _, _ => none
  | g + 1, a0, a1, a2 =>
    (zgR H a0 8 6).bind fun v4 =>
    (zle H v4 4).bind fun v7 =>
    if v7 ≤ a2 then (
      some (1 : Int32))
    else (
      (zgR H a0 8 6).bind fun v12 =>
      (zaR H v12 4 a2).bind fun v16 =>
      (zgI H v16 4 0).bind fun v20 =>
      (jF_Schema_fieldOf fu a1 v20 H).bind fun y23 =>
      if y23 = none then (
        (zgI H v16 4 2).bind fun v34 =>
        jJ_Schema_readsFields_52 fu H rc (fun x0 x1 x2 => jL_Schema_readsFields_2 fu H rc g x0 x1 x2) v34 a0 a1 a2)
      else (
        (zgR H v16 4 1).bind fun v41 =>
        (zgR H y23 4 1).bind fun v46 =>
        (rc v41 v46 H).bind fun y49 =>
        jJ_Schema_readsFields_52 fu H rc (fun x0 x1 x2 => jL_Schema_readsFields_2 fu H rc g x0 x1 x2) y49 a0 a1 a2))
def jF_Schema_readsFields (fu : Nat) (rc : Option Nat → Option Nat → zH → Option Int32) (a0 : Option Nat) (a1 : Option Nat) (H : zH) : Option Int32 :=
  jL_Schema_readsFields_2 fu H rc fu a0 a1 (0 : Int32)
theorem jj_Schema_readsFields_52 {E : zE} {d dr : Nat} (hd : dr + 1 ≤ d) (fu : Nat) (H : zH) (rc : Option Nat → Option Nat → zH → Option Int32) (hrc : ∀ (x0 : Option Nat) (x1 : Option Nat) (H : zH), z_MS E jM_Schema_reads dr 0 0 (zrI H) [zR x0, zR x1] H (rc x0 x1 H)) (k2 : Option Nat → Option Nat → Int32 → Option Int32) (hk2 : ∀ (a0 : Option Nat) (a1 : Option Nat) (a2 : Int32), z_S E jM_Schema_readsFields d 0 0 (zrI H) 2 [(0, zR a0), (1, zR a1), (2, zI a2)] [] H 0 0 (k2 a0 a1 a2)) : ∀ (s0 : Int32) (a0 : Option Nat) (a1 : Option Nat) (a2 : Int32), z_S E jM_Schema_readsFields d 0 0 (zrI H) 52 [(0, zR a0), (1, zR a1), (2, zI a2)] [zI s0] H 0 0 (jJ_Schema_readsFields_52 fu H rc k2 s0 a0 a1 a2) := by
  intro s0 a0 a1 a2
  unfold jJ_Schema_readsFields_52
  refine zs_istore (pc := 52) (lv' := [(5, zI s0), (0, zR a0), (1, zR a1), (2, zI a2)]) d_Schema_readsFields_52 (Nat.le_of_ble_eq_true rfl) rfl ?_
  refine zs_iload (pc := 54) (x := s0) d_Schema_readsFields_54 rfl ?_
  refine zs_if_ne (pc := 56) (tgt := 61) d_Schema_readsFields_56 rfl (fun q56 => ?_) (fun q56 => ?_)
  · refine zs_iinc (pc := 61) (x := a2) (v := (a2 + (1 : Int32))) (lv' := [(2, zI (a2 + (1 : Int32))), (5, zI s0), (0, zR a0), (1, zR a1)]) d_Schema_readsFields_61 rfl rfl (Nat.le_of_ble_eq_true rfl) rfl ?_
    refine zs_goto (pc := 64) (tgt := 2) d_Schema_readsFields_64 rfl ?_
    refine zs_sub (lv' := [(0, zR a0), (1, zR a1), (2, zI (a2 + (1 : Int32)))]) [2, 3, 0] rfl ?_
    exact hk2 a0 a1 (a2 + (1 : Int32))
  · refine zs_iconst (pc := 59) (v := (0 : Int32)) d_Schema_readsFields_59 (by decide) ?_
    exact zs_zretc (pc := 60) d_Schema_readsFields_60 rfl (by decide) (Nat.le_of_ble_eq_true rfl) (Nat.le_of_ble_eq_true rfl) rfl
theorem jl_Schema_readsFields_2 {E : zE} {d dr : Nat} (hd : dr + 1 ≤ d) (fu : Nat) (H : zH) (rc : Option Nat → Option Nat → zH → Option Int32) (hrc : ∀ (x0 : Option Nat) (x1 : Option Nat) (H : zH), z_MS E jM_Schema_reads dr 0 0 (zrI H) [zR x0, zR x1] H (rc x0 x1 H)) : ∀ (g : Nat), ∀ (a0 : Option Nat) (a1 : Option Nat) (a2 : Int32), z_S E jM_Schema_readsFields d 0 0 (zrI H) 2 [(0, zR a0), (1, zR a1), (2, zI a2)] [] H 0 0 (jL_Schema_readsFields_2 fu H rc g a0 a1 a2) := by
  intro g
  induction g with
  | zero => intros; exact zs_none
  | succ g ih =>
    intro a0 a1 a2
    rw [jL_Schema_readsFields_2]
    refine zs_iload_n (pc := 2) (x := a2) d_Schema_readsFields_2 rfl ?_
    refine zs_aload_n (pc := 3) (x := a0) d_Schema_readsFields_3 rfl ?_
    refine zs_getR (pc := 4) d_Schema_readsFields_4 kF_Schema_31 fun v4 => ?_
    refine zs_alen (t := 4) (pc := 7) d_Schema_readsFields_7 rfl fun v7 => ?_
    refine zs_icmp_ge (pc := 8) (tgt := 67) d_Schema_readsFields_8 rfl (fun q8 => ?_) (fun q8 => ?_)
    · refine zs_iconst (pc := 67) (v := (1 : Int32)) d_Schema_readsFields_67 (by decide) ?_
      exact zs_zretc (pc := 68) d_Schema_readsFields_68 rfl (by decide) (Nat.le_of_ble_eq_true rfl) (Nat.le_of_ble_eq_true rfl) rfl
    · refine zs_aload_n (pc := 11) (x := a0) d_Schema_readsFields_11 rfl ?_
      refine zs_getR (pc := 12) d_Schema_readsFields_12 kF_Schema_31 fun v12 => ?_
      refine zs_iload_n (pc := 15) (x := a2) d_Schema_readsFields_15 rfl ?_
      refine zs_aald (t := 4) (pc := 16) d_Schema_readsFields_16 rfl fun v16 => ?_
      refine zs_astore_n (pc := 17) (lv' := [(3, zR v16), (0, zR a0), (1, zR a1), (2, zI a2)]) d_Schema_readsFields_17 (Nat.le_of_ble_eq_true rfl) rfl ?_
      refine zs_aload_n (pc := 18) (x := a1) d_Schema_readsFields_18 rfl ?_
      refine zs_aload_n (pc := 19) (x := v16) d_Schema_readsFields_19 rfl ?_
      refine zs_getI (pc := 20) d_Schema_readsFields_20 kF_Schema_74 fun v20 => ?_
      refine zs_callv_rR (pc := 23) (av := [zI v20]) (st := []) (d' := 0) (C' := 0) (S' := 0) d_Schema_readsFields_23 kV_Schema_103 z_okb (jm_Schema_fieldOf (d := 0) (Nat.le_refl _) fu a1 v20 H) (by omega) (Nat.le_of_ble_eq_true rfl) (Nat.le_of_ble_eq_true rfl) rfl rfl (Nat.le_of_ble_eq_true rfl) fun y23 => ?_
      refine zs_astore (pc := 26) (lv' := [(4, zR y23), (3, zR v16), (0, zR a0), (1, zR a1), (2, zI a2)]) d_Schema_readsFields_26 (Nat.le_of_ble_eq_true rfl) rfl ?_
      refine zs_aload (pc := 28) (x := y23) d_Schema_readsFields_28 rfl ?_
      refine zs_ifnonnull (pc := 30) (tgt := 40) d_Schema_readsFields_30 rfl (fun q30 => ?_) (fun q30 => ?_)
      · refine zs_aload_n (pc := 40) (x := v16) d_Schema_readsFields_40 rfl ?_
        refine zs_getR (pc := 41) d_Schema_readsFields_41 kF_Schema_53 fun v41 => ?_
        refine zs_aload (pc := 44) (x := y23) d_Schema_readsFields_44 rfl ?_
        refine zs_getR (pc := 46) d_Schema_readsFields_46 kF_Schema_53 fun v46 => ?_
        refine zs_calls_rI (pc := 49) (av := [zR v41, zR v46]) (st := []) (d' := dr) (C' := 0) (S' := 0) d_Schema_readsFields_49 kS_Schema_89 (hrc v41 v46 H) (by omega) (Nat.le_of_ble_eq_true rfl) (Nat.le_of_ble_eq_true rfl) rfl rfl (Nat.le_of_ble_eq_true rfl) fun y49 => ?_
        refine zs_sub (lv' := [(0, zR a0), (1, zR a1), (2, zI a2)]) [2, 3, 4] rfl ?_
        exact jj_Schema_readsFields_52 hd fu H rc hrc (fun x0 x1 x2 => jL_Schema_readsFields_2 fu H rc g x0 x1 x2) ih y49 a0 a1 a2
      · refine zs_aload_n (pc := 33) (x := v16) d_Schema_readsFields_33 rfl ?_
        refine zs_getI (pc := 34) d_Schema_readsFields_34 kF_Schema_107 fun v34 => ?_
        refine zs_goto (pc := 37) (tgt := 52) d_Schema_readsFields_37 rfl ?_
        refine zs_sub (lv' := [(0, zR a0), (1, zR a1), (2, zI a2)]) [2, 3, 4] rfl ?_
        exact jj_Schema_readsFields_52 hd fu H rc hrc (fun x0 x1 x2 => jL_Schema_readsFields_2 fu H rc g x0 x1 x2) ih v34 a0 a1 a2
theorem jm_Schema_readsFields {E : zE} {d dr : Nat} (hd : dr + 1 ≤ d) (fu : Nat) (rc : Option Nat → Option Nat → zH → Option Int32) (hrc : ∀ (x0 : Option Nat) (x1 : Option Nat) (H : zH), z_MS E jM_Schema_reads dr 0 0 (zrI H) [zR x0, zR x1] H (rc x0 x1 H)) (a0 : Option Nat) (a1 : Option Nat) (H : zH) : z_MS E jM_Schema_readsFields d 0 0 (zrI H) [zR a0, zR a1] H (jF_Schema_readsFields fu rc a0 a1 H) := by
  refine zs_of (lv0 := [(0, zR a0), (1, zR a1)]) pn_Schema (Nat.le_of_ble_eq_true rfl) rfl ?_
  unfold jF_Schema_readsFields
  refine zs_iconst (pc := 0) (v := (0 : Int32)) d_Schema_readsFields_0 (by decide) ?_
  refine zs_istore_n (pc := 1) (lv' := [(2, zI (0 : Int32)), (0, zR a0), (1, zR a1)]) d_Schema_readsFields_1 (Nat.le_of_ble_eq_true rfl) rfl ?_
  refine zs_sub (lv' := [(0, zR a0), (1, zR a1), (2, zI (0 : Int32))]) [1, 2, 0] rfl ?_
  exact jl_Schema_readsFields_2 hd fu H rc hrc fu a0 a1 (0 : Int32)
def jJ_Schema_reads_153 (fu : Nat) (H : zH) (rc : Option Nat → Option Nat → zH → Option Int32)  : Option Int32 :=
  some (1 : Int32)
def jF_Schema_reads (fu : Nat) : Nat → Option Nat → Option Nat → zH → Option Int32
  | 0, _, _, _ => none
  | rr + 1, a0, a1, H =>
    (zgI H a1 8 0).bind fun v1 =>
    if v1 = (6 : Int32) then (
      (zgR H a1 8 4).bind fun v11 =>
      ((fun x0 x1 x2 => jF_Schema_reads fu rr x0 x1 x2) a0 v11 H).bind fun y14 =>
      if y14 = 0 then (
        some (0 : Int32))
      else (
        (zgR H a1 8 5).bind fun v22 =>
        ((fun x0 x1 x2 => jF_Schema_reads fu rr x0 x1 x2) a0 v22 H).bind fun y25 =>
        if y25 = 0 then (
          some (0 : Int32))
        else (
          some (1 : Int32))))
    else (
      (zgI H a0 8 0).bind fun v38 =>
      if v38 = (6 : Int32) then (
        (jF_Schema_matchingBranch a0 a1 H).bind fun y48 =>
        if y48 = (-1 : Int32) then (
          some (0 : Int32))
        else (
          (jF_Schema_branch a0 y48.toInt64 H).bind fun y60 =>
          ((fun x0 x1 x2 => jF_Schema_reads fu rr x0 x1 x2) y60 a1 H).bind fun y64 =>
          if y64 = 0 then (
            some (0 : Int32))
          else (
            some (1 : Int32))))
      else (
        (jF_Schema_haveFittingKinds a0 a1 H).bind fun y78 =>
        if y78 = 0 then (
          some (0 : Int32))
        else (
          (zgI H a0 8 0).bind fun v87 =>
          if v87 = (4 : Int32) then (
            (zgI H a0 8 1).bind fun v121 =>
            (zgI H a1 8 1).bind fun v125 =>
            if v121 = v125 then (
              (zgI H a0 8 3).bind fun v132 =>
              if v132 = (-1 : Int32) then (
                (zgI H a1 8 2).bind fun v140 =>
                (zgI H a0 8 2).bind fun v144 =>
                if (v140 &&& (v144 ^^^ (-1 : Int32))) = 0 then (
                  jJ_Schema_reads_153 fu H (fun x0 x1 x2 => jF_Schema_reads fu rr x0 x1 x2))
                else (
                  some (0 : Int32)))
              else (
                jJ_Schema_reads_153 fu H (fun x0 x1 x2 => jF_Schema_reads fu rr x0 x1 x2)))
            else (
              some (0 : Int32)))
          else (
            if v87 = (5 : Int32) then (
              (zgR H a0 8 4).bind fun v160 =>
              (zgR H a1 8 4).bind fun v164 =>
              ((fun x0 x1 x2 => jF_Schema_reads fu rr x0 x1 x2) v160 v164 H).bind fun y167 =>
              (zbo y167).bind fun x => some x)
            else (
              if v87 = (7 : Int32) then (
                (zgI H a0 8 1).bind fun v172 =>
                (zgI H a1 8 1).bind fun v176 =>
                if v172 = v176 then (
                  (jF_Schema_readsFields fu (fun x0 x1 x2 => jF_Schema_reads fu rr x0 x1 x2) a0 a1 H).bind fun y184 =>
                  if y184 = 0 then (
                    some (0 : Int32))
                  else (
                    some (1 : Int32)))
                else (
                  some (0 : Int32)))
              else (
                some (1 : Int32)))))))
theorem jj_Schema_reads_153 {E : zE} {d dr : Nat} (hd : dr + 9 ≤ d) (fu : Nat) (H : zH) (rc : Option Nat → Option Nat → zH → Option Int32) (hrc : ∀ (x0 : Option Nat) (x1 : Option Nat) (H : zH), z_MS E jM_Schema_reads dr 0 0 (zrI H) [zR x0, zR x1] H (rc x0 x1 H)) : z_S E jM_Schema_reads d 0 0 (zrI H) 153 [] [] H 0 0 (jJ_Schema_reads_153 fu H rc) := by
  unfold jJ_Schema_reads_153
  refine zs_iconst (pc := 153) (v := (1 : Int32)) d_Schema_reads_153 (by decide) ?_
  refine zs_goto (pc := 154) (tgt := 158) d_Schema_reads_154 rfl ?_
  exact zs_zretc (pc := 158) d_Schema_reads_158 rfl (by decide) (Nat.le_of_ble_eq_true rfl) (Nat.le_of_ble_eq_true rfl) rfl
theorem jm_Schema_reads {E : zE} (fu : Nat) : ∀ (rr : Nat) {d : Nat} (hd : 9 * rr ≤ d) (a0 : Option Nat) (a1 : Option Nat) (H : zH), z_MS E jM_Schema_reads d 0 0 (zrI H) [zR a0, zR a1] H (jF_Schema_reads fu rr a0 a1 H) := by
  intro rr
  induction rr with
  | zero => intro d hd a0 a1 H y hy; rw [jF_Schema_reads] at hy; cases hy
  | succ rr ih =>
    intro d hd a0 a1 H
    have hrc : ∀ (x0 : Option Nat) (x1 : Option Nat) (H : zH), z_MS E jM_Schema_reads (9 * rr) 0 0 (zrI H) [zR x0, zR x1] H ((fun x0 x1 x2 => jF_Schema_reads fu rr x0 x1 x2) x0 x1 H) := fun x0 x1 x2 => ih (Nat.le_refl _) x0 x1 x2
    have hd : 9 * rr + 9 ≤ d := by omega
    refine zs_of (lv0 := [(0, zR a0), (1, zR a1)]) pn_Schema (Nat.le_of_ble_eq_true rfl) rfl ?_
    rw [jF_Schema_reads]
    refine zs_aload_n (pc := 0) (x := a1) d_Schema_reads_0 rfl ?_
    refine zs_getI (pc := 1) d_Schema_reads_1 kF_Schema_9 fun v1 => ?_
    refine zs_bipush (pc := 4) (v := (6 : Int32)) d_Schema_reads_4 (by decide) ?_
    refine zs_icmp_ne (pc := 6) (tgt := 37) d_Schema_reads_6 rfl (fun q6 => ?_) (fun q6 => ?_)
    · refine zs_aload_n (pc := 37) (x := a0) d_Schema_reads_37 rfl ?_
      refine zs_getI (pc := 38) d_Schema_reads_38 kF_Schema_9 fun v38 => ?_
      refine zs_bipush (pc := 41) (v := (6 : Int32)) d_Schema_reads_41 (by decide) ?_
      refine zs_icmp_ne (pc := 43) (tgt := 76) d_Schema_reads_43 rfl (fun q43 => ?_) (fun q43 => ?_)
      · refine zs_aload_n (pc := 76) (x := a0) d_Schema_reads_76 rfl ?_
        refine zs_aload_n (pc := 77) (x := a1) d_Schema_reads_77 rfl ?_
        refine zs_calls_rI (pc := 78) (av := [zR a0, zR a1]) (st := []) (d' := 0) (C' := 0) (S' := 0) d_Schema_reads_78 kS_Schema_82 (jm_Schema_haveFittingKinds (d := 0) (Nat.le_refl _) a0 a1 H) (by omega) (Nat.le_of_ble_eq_true rfl) (Nat.le_of_ble_eq_true rfl) rfl rfl (Nat.le_of_ble_eq_true rfl) fun y78 => ?_
        refine zs_if_ne (pc := 81) (tgt := 86) d_Schema_reads_81 rfl (fun q81 => ?_) (fun q81 => ?_)
        · refine zs_aload_n (pc := 86) (x := a0) d_Schema_reads_86 rfl ?_
          refine zs_getI (pc := 87) d_Schema_reads_87 kF_Schema_9 fun v87 => ?_
          refine zs_ite (fun q => ?_) (fun q90_0 => ?_)
          · refine zs_table (pc := 90) (tgt := 120) d_Schema_reads_90 rfl (by rcases q with q <;> (rw [q]; decide)) ?_
            refine zs_aload_n (pc := 120) (x := a0) d_Schema_reads_120 rfl ?_
            refine zs_getI (pc := 121) d_Schema_reads_121 kF_Schema_15 fun v121 => ?_
            refine zs_aload_n (pc := 124) (x := a1) d_Schema_reads_124 rfl ?_
            refine zs_getI (pc := 125) d_Schema_reads_125 kF_Schema_15 fun v125 => ?_
            refine zs_icmp_ne (pc := 128) (tgt := 157) d_Schema_reads_128 rfl (fun q128 => ?_) (fun q128 => ?_)
            · refine zs_iconst (pc := 157) (v := (0 : Int32)) d_Schema_reads_157 (by decide) ?_
              exact zs_zretc (pc := 158) d_Schema_reads_158 rfl (by decide) (Nat.le_of_ble_eq_true rfl) (Nat.le_of_ble_eq_true rfl) rfl
            · refine zs_aload_n (pc := 131) (x := a0) d_Schema_reads_131 rfl ?_
              refine zs_getI (pc := 132) d_Schema_reads_132 kF_Schema_21 fun v132 => ?_
              refine zs_iconst (pc := 135) (v := (-1 : Int32)) d_Schema_reads_135 (by decide) ?_
              refine zs_icmp_ne (pc := 136) (tgt := 153) d_Schema_reads_136 rfl (fun q136 => ?_) (fun q136 => ?_)
              · refine zs_sub (lv' := []) [] rfl ?_
                exact jj_Schema_reads_153 hd fu H (fun x0 x1 x2 => jF_Schema_reads fu rr x0 x1 x2) hrc
              · refine zs_aload_n (pc := 139) (x := a1) d_Schema_reads_139 rfl ?_
                refine zs_getI (pc := 140) d_Schema_reads_140 kF_Schema_18 fun v140 => ?_
                refine zs_aload_n (pc := 143) (x := a0) d_Schema_reads_143 rfl ?_
                refine zs_getI (pc := 144) d_Schema_reads_144 kF_Schema_18 fun v144 => ?_
                refine zs_iconst (pc := 147) (v := (-1 : Int32)) d_Schema_reads_147 (by decide) ?_
                refine zs_ixor (pc := 148) d_Schema_reads_148 ?_
                refine zs_iand (pc := 149) d_Schema_reads_149 ?_
                refine zs_if_ne (pc := 150) (tgt := 157) d_Schema_reads_150 rfl (fun q150 => ?_) (fun q150 => ?_)
                · refine zs_iconst (pc := 157) (v := (0 : Int32)) d_Schema_reads_157 (by decide) ?_
                  exact zs_zretc (pc := 158) d_Schema_reads_158 rfl (by decide) (Nat.le_of_ble_eq_true rfl) (Nat.le_of_ble_eq_true rfl) rfl
                · refine zs_sub (lv' := []) [] rfl ?_
                  exact jj_Schema_reads_153 hd fu H (fun x0 x1 x2 => jF_Schema_reads fu rr x0 x1 x2) hrc
          refine zs_ite (fun q => ?_) (fun q90_1 => ?_)
          · refine zs_table (pc := 90) (tgt := 159) d_Schema_reads_90 rfl (by rcases q with q <;> (rw [q]; decide)) ?_
            refine zs_aload_n (pc := 159) (x := a0) d_Schema_reads_159 rfl ?_
            refine zs_getR (pc := 160) d_Schema_reads_160 kF_Schema_24 fun v160 => ?_
            refine zs_aload_n (pc := 163) (x := a1) d_Schema_reads_163 rfl ?_
            refine zs_getR (pc := 164) d_Schema_reads_164 kF_Schema_24 fun v164 => ?_
            refine zs_calls_rI (pc := 167) (av := [zR v160, zR v164]) (st := []) (d' := (9 * rr)) (C' := 0) (S' := 0) d_Schema_reads_167 kS_Schema_89 (hrc v160 v164 H) (by omega) (Nat.le_of_ble_eq_true rfl) (Nat.le_of_ble_eq_true rfl) rfl rfl (Nat.le_of_ble_eq_true rfl) fun y167 => ?_
            exact zs_zret (g := fun x => x) (pc := 170) d_Schema_reads_170 rfl (Nat.le_of_ble_eq_true rfl) (Nat.le_of_ble_eq_true rfl) rfl
          refine zs_ite (fun q => ?_) (fun q90_2 => ?_)
          · refine zs_table (pc := 90) (tgt := 171) d_Schema_reads_90 rfl (by rcases q with q <;> (rw [q]; decide)) ?_
            refine zs_aload_n (pc := 171) (x := a0) d_Schema_reads_171 rfl ?_
            refine zs_getI (pc := 172) d_Schema_reads_172 kF_Schema_15 fun v172 => ?_
            refine zs_aload_n (pc := 175) (x := a1) d_Schema_reads_175 rfl ?_
            refine zs_getI (pc := 176) d_Schema_reads_176 kF_Schema_15 fun v176 => ?_
            refine zs_icmp_ne (pc := 179) (tgt := 194) d_Schema_reads_179 rfl (fun q179 => ?_) (fun q179 => ?_)
            · refine zs_iconst (pc := 194) (v := (0 : Int32)) d_Schema_reads_194 (by decide) ?_
              exact zs_zretc (pc := 195) d_Schema_reads_195 rfl (by decide) (Nat.le_of_ble_eq_true rfl) (Nat.le_of_ble_eq_true rfl) rfl
            · refine zs_aload_n (pc := 182) (x := a0) d_Schema_reads_182 rfl ?_
              refine zs_aload_n (pc := 183) (x := a1) d_Schema_reads_183 rfl ?_
              refine zs_calls_rI (pc := 184) (av := [zR a0, zR a1]) (st := []) (d' := ((9 * rr) + 1)) (C' := 0) (S' := 0) d_Schema_reads_184 kS_Schema_100 (jm_Schema_readsFields (d := (9 * rr) + 1) (dr := (9 * rr)) (Nat.le_refl _) fu (fun x0 x1 x2 => jF_Schema_reads fu rr x0 x1 x2) hrc a0 a1 H) (by omega) (Nat.le_of_ble_eq_true rfl) (Nat.le_of_ble_eq_true rfl) rfl rfl (Nat.le_of_ble_eq_true rfl) fun y184 => ?_
              refine zs_if_eq (pc := 187) (tgt := 194) d_Schema_reads_187 rfl (fun q187 => ?_) (fun q187 => ?_)
              · refine zs_iconst (pc := 194) (v := (0 : Int32)) d_Schema_reads_194 (by decide) ?_
                exact zs_zretc (pc := 195) d_Schema_reads_195 rfl (by decide) (Nat.le_of_ble_eq_true rfl) (Nat.le_of_ble_eq_true rfl) rfl
              · refine zs_iconst (pc := 190) (v := (1 : Int32)) d_Schema_reads_190 (by decide) ?_
                refine zs_goto (pc := 191) (tgt := 195) d_Schema_reads_191 rfl ?_
                exact zs_zretc (pc := 195) d_Schema_reads_195 rfl (by decide) (Nat.le_of_ble_eq_true rfl) (Nat.le_of_ble_eq_true rfl) rfl
          have h90_4 := zs_tne (k := 4) q90_0 (by decide)
          have h90_5 := zs_tne (k := 5) q90_1 (by decide)
          have h90_7 := zs_tne (k := 7) q90_2 (by decide)
          refine zs_table (pc := 90) (tgt := 196) d_Schema_reads_90 rfl ?_ ?_
          · unfold z_tsw
            by_cases hb : (v87).toInt < 4 ∨ 7 < (v87).toInt
            · rw [if_pos hb]; decide
            · rw [if_neg hb]
              have hg : (v87).toInt = 6 := by omega
              rw [hg]; decide
          · refine zs_iconst (pc := 196) (v := (1 : Int32)) d_Schema_reads_196 (by decide) ?_
            exact zs_zretc (pc := 197) d_Schema_reads_197 rfl (by decide) (Nat.le_of_ble_eq_true rfl) (Nat.le_of_ble_eq_true rfl) rfl
        · refine zs_iconst (pc := 84) (v := (0 : Int32)) d_Schema_reads_84 (by decide) ?_
          exact zs_zretc (pc := 85) d_Schema_reads_85 rfl (by decide) (Nat.le_of_ble_eq_true rfl) (Nat.le_of_ble_eq_true rfl) rfl
      · refine zs_aload_n (pc := 46) (x := a0) d_Schema_reads_46 rfl ?_
        refine zs_aload_n (pc := 47) (x := a1) d_Schema_reads_47 rfl ?_
        refine zs_calls_rI (pc := 48) (av := [zR a0, zR a1]) (st := []) (d' := 8) (C' := 0) (S' := 0) d_Schema_reads_48 kS_Schema_92 (jm_Schema_matchingBranch (d := 8) (Nat.le_refl _) a0 a1 H) (by omega) (Nat.le_of_ble_eq_true rfl) (Nat.le_of_ble_eq_true rfl) rfl rfl (Nat.le_of_ble_eq_true rfl) fun y48 => ?_
        refine zs_istore_n (pc := 51) (lv' := [(2, zI y48), (0, zR a0), (1, zR a1)]) d_Schema_reads_51 (Nat.le_of_ble_eq_true rfl) rfl ?_
        refine zs_iload_n (pc := 52) (x := y48) d_Schema_reads_52 rfl ?_
        refine zs_iconst (pc := 53) (v := (-1 : Int32)) d_Schema_reads_53 (by decide) ?_
        refine zs_icmp_eq (pc := 54) (tgt := 74) d_Schema_reads_54 rfl (fun q54 => ?_) (fun q54 => ?_)
        · refine zs_iconst (pc := 74) (v := (0 : Int32)) d_Schema_reads_74 (by decide) ?_
          exact zs_zretc (pc := 75) d_Schema_reads_75 rfl (by decide) (Nat.le_of_ble_eq_true rfl) (Nat.le_of_ble_eq_true rfl) rfl
        · refine zs_aload_n (pc := 57) (x := a0) d_Schema_reads_57 rfl ?_
          refine zs_iload_n (pc := 58) (x := y48) d_Schema_reads_58 rfl ?_
          refine zs_i2l (pc := 59) d_Schema_reads_59 ?_
          refine zs_callv_rR (pc := 60) (av := [zL y48.toInt64]) (st := []) (d' := 0) (C' := 0) (S' := 0) d_Schema_reads_60 kV_Schema_96 z_okb (jm_Schema_branch (d := 0) (Nat.le_refl _) a0 y48.toInt64 H) (by omega) (Nat.le_of_ble_eq_true rfl) (Nat.le_of_ble_eq_true rfl) rfl rfl (Nat.le_of_ble_eq_true rfl) fun y60 => ?_
          refine zs_aload_n (pc := 63) (x := a1) d_Schema_reads_63 rfl ?_
          refine zs_calls_rI (pc := 64) (av := [zR y60, zR a1]) (st := []) (d' := (9 * rr)) (C' := 0) (S' := 0) d_Schema_reads_64 kS_Schema_89 (hrc y60 a1 H) (by omega) (Nat.le_of_ble_eq_true rfl) (Nat.le_of_ble_eq_true rfl) rfl rfl (Nat.le_of_ble_eq_true rfl) fun y64 => ?_
          refine zs_if_eq (pc := 67) (tgt := 74) d_Schema_reads_67 rfl (fun q67 => ?_) (fun q67 => ?_)
          · refine zs_iconst (pc := 74) (v := (0 : Int32)) d_Schema_reads_74 (by decide) ?_
            exact zs_zretc (pc := 75) d_Schema_reads_75 rfl (by decide) (Nat.le_of_ble_eq_true rfl) (Nat.le_of_ble_eq_true rfl) rfl
          · refine zs_iconst (pc := 70) (v := (1 : Int32)) d_Schema_reads_70 (by decide) ?_
            refine zs_goto (pc := 71) (tgt := 75) d_Schema_reads_71 rfl ?_
            exact zs_zretc (pc := 75) d_Schema_reads_75 rfl (by decide) (Nat.le_of_ble_eq_true rfl) (Nat.le_of_ble_eq_true rfl) rfl
    · refine zs_aload_n (pc := 9) (x := a0) d_Schema_reads_9 rfl ?_
      refine zs_aload_n (pc := 10) (x := a1) d_Schema_reads_10 rfl ?_
      refine zs_getR (pc := 11) d_Schema_reads_11 kF_Schema_24 fun v11 => ?_
      refine zs_calls_rI (pc := 14) (av := [zR a0, zR v11]) (st := []) (d' := (9 * rr)) (C' := 0) (S' := 0) d_Schema_reads_14 kS_Schema_89 (hrc a0 v11 H) (by omega) (Nat.le_of_ble_eq_true rfl) (Nat.le_of_ble_eq_true rfl) rfl rfl (Nat.le_of_ble_eq_true rfl) fun y14 => ?_
      refine zs_if_eq (pc := 17) (tgt := 35) d_Schema_reads_17 rfl (fun q17 => ?_) (fun q17 => ?_)
      · refine zs_iconst (pc := 35) (v := (0 : Int32)) d_Schema_reads_35 (by decide) ?_
        exact zs_zretc (pc := 36) d_Schema_reads_36 rfl (by decide) (Nat.le_of_ble_eq_true rfl) (Nat.le_of_ble_eq_true rfl) rfl
      · refine zs_aload_n (pc := 20) (x := a0) d_Schema_reads_20 rfl ?_
        refine zs_aload_n (pc := 21) (x := a1) d_Schema_reads_21 rfl ?_
        refine zs_getR (pc := 22) d_Schema_reads_22 kF_Schema_28 fun v22 => ?_
        refine zs_calls_rI (pc := 25) (av := [zR a0, zR v22]) (st := []) (d' := (9 * rr)) (C' := 0) (S' := 0) d_Schema_reads_25 kS_Schema_89 (hrc a0 v22 H) (by omega) (Nat.le_of_ble_eq_true rfl) (Nat.le_of_ble_eq_true rfl) rfl rfl (Nat.le_of_ble_eq_true rfl) fun y25 => ?_
        refine zs_if_eq (pc := 28) (tgt := 35) d_Schema_reads_28 rfl (fun q28 => ?_) (fun q28 => ?_)
        · refine zs_iconst (pc := 35) (v := (0 : Int32)) d_Schema_reads_35 (by decide) ?_
          exact zs_zretc (pc := 36) d_Schema_reads_36 rfl (by decide) (Nat.le_of_ble_eq_true rfl) (Nat.le_of_ble_eq_true rfl) rfl
        · refine zs_iconst (pc := 31) (v := (1 : Int32)) d_Schema_reads_31 (by decide) ?_
          refine zs_goto (pc := 32) (tgt := 36) d_Schema_reads_32 rfl ?_
          exact zs_zretc (pc := 36) d_Schema_reads_36 rfl (by decide) (Nat.le_of_ble_eq_true rfl) (Nat.le_of_ble_eq_true rfl) rfl
def jF_ST_canRead (fu : Nat) (a0 : Option Nat) (a1 : Int32) (a2 : Int32) (H : zH) : Option Int32 :=
  (zok H a0 0).bind fun _ =>
  (zgR H a0 0 0).bind fun v1 =>
  (jF_Schemas_find v1 a1 H).bind fun y5 =>
  (zgR H a0 0 0).bind fun v10 =>
  (jF_Schemas_find v10 a2 H).bind fun y14 =>
  if y5 = none then (
    some (0 : Int32))
  else (
    if y14 = none then (
      some (0 : Int32))
    else (
      (jF_Schema_reads fu 14 y5 y14 H).bind fun y31 =>
      if y31 = 0 then (
        some (0 : Int32))
      else (
        some (1 : Int32))))
theorem jm_ST_canRead {E : zE} {d : Nat} (hd : 127 ≤ d) (fu : Nat) (a0 : Option Nat) (a1 : Int32) (a2 : Int32) (H : zH) : z_MS E jM_ST_canRead d 0 0 (zrI H) [zR a0, zI a1, zI a2] H (jF_ST_canRead fu a0 a1 a2 H) := by
  refine zs_of (lv0 := [(0, zR a0), (1, zI a1), (2, zI a2)]) pn_ST (Nat.le_of_ble_eq_true rfl) rfl ?_
  unfold jF_ST_canRead
  refine zs_bind fun _ _ => ?_
  refine zs_aload_n (pc := 0) (x := a0) d_ST_canRead_0 rfl ?_
  refine zs_getR (pc := 1) d_ST_canRead_1 kF_ST_13 fun v1 => ?_
  refine zs_iload_n (pc := 4) (x := a1) d_ST_canRead_4 rfl ?_
  refine zs_callv_rR (pc := 5) (av := [zI a1]) (st := []) (d' := 0) (C' := 0) (S' := 0) d_ST_canRead_5 kV_ST_61 z_okb (jm_Schemas_find (d := 0) (Nat.le_refl _) v1 a1 H) (by omega) (Nat.le_of_ble_eq_true rfl) (Nat.le_of_ble_eq_true rfl) rfl rfl (Nat.le_of_ble_eq_true rfl) fun y5 => ?_
  refine zs_astore_n (pc := 8) (lv' := [(3, zR y5), (0, zR a0), (1, zI a1), (2, zI a2)]) d_ST_canRead_8 (Nat.le_of_ble_eq_true rfl) rfl ?_
  refine zs_aload_n (pc := 9) (x := a0) d_ST_canRead_9 rfl ?_
  refine zs_getR (pc := 10) d_ST_canRead_10 kF_ST_13 fun v10 => ?_
  refine zs_iload_n (pc := 13) (x := a2) d_ST_canRead_13 rfl ?_
  refine zs_callv_rR (pc := 14) (av := [zI a2]) (st := []) (d' := 0) (C' := 0) (S' := 0) d_ST_canRead_14 kV_ST_61 z_okb (jm_Schemas_find (d := 0) (Nat.le_refl _) v10 a2 H) (by omega) (Nat.le_of_ble_eq_true rfl) (Nat.le_of_ble_eq_true rfl) rfl rfl (Nat.le_of_ble_eq_true rfl) fun y14 => ?_
  refine zs_astore (pc := 17) (lv' := [(4, zR y14), (3, zR y5), (0, zR a0), (1, zI a1), (2, zI a2)]) d_ST_canRead_17 (Nat.le_of_ble_eq_true rfl) rfl ?_
  refine zs_aload_n (pc := 19) (x := y5) d_ST_canRead_19 rfl ?_
  refine zs_ifnull (pc := 20) (tgt := 41) d_ST_canRead_20 rfl (fun q20 => ?_) (fun q20 => ?_)
  · refine zs_iconst (pc := 41) (v := (0 : Int32)) d_ST_canRead_41 (by decide) ?_
    exact zs_zretc (pc := 42) d_ST_canRead_42 rfl (by decide) (Nat.le_of_ble_eq_true rfl) (Nat.le_of_ble_eq_true rfl) rfl
  · refine zs_aload (pc := 23) (x := y14) d_ST_canRead_23 rfl ?_
    refine zs_ifnull (pc := 25) (tgt := 41) d_ST_canRead_25 rfl (fun q25 => ?_) (fun q25 => ?_)
    · refine zs_iconst (pc := 41) (v := (0 : Int32)) d_ST_canRead_41 (by decide) ?_
      exact zs_zretc (pc := 42) d_ST_canRead_42 rfl (by decide) (Nat.le_of_ble_eq_true rfl) (Nat.le_of_ble_eq_true rfl) rfl
    · refine zs_aload_n (pc := 28) (x := y5) d_ST_canRead_28 rfl ?_
      refine zs_aload (pc := 29) (x := y14) d_ST_canRead_29 rfl ?_
      refine zs_calls_rI (pc := 31) (av := [zR y5, zR y14]) (st := []) (d' := 126) (C' := 0) (S' := 0) d_ST_canRead_31 kS_ST_73 (jm_Schema_reads fu 14 (d := 126) (by decide) y5 y14 H) (by omega) (Nat.le_of_ble_eq_true rfl) (Nat.le_of_ble_eq_true rfl) rfl rfl (Nat.le_of_ble_eq_true rfl) fun y31 => ?_
      refine zs_if_eq (pc := 34) (tgt := 41) d_ST_canRead_34 rfl (fun q34 => ?_) (fun q34 => ?_)
      · refine zs_iconst (pc := 41) (v := (0 : Int32)) d_ST_canRead_41 (by decide) ?_
        exact zs_zretc (pc := 42) d_ST_canRead_42 rfl (by decide) (Nat.le_of_ble_eq_true rfl) (Nat.le_of_ble_eq_true rfl) rfl
      · refine zs_iconst (pc := 37) (v := (1 : Int32)) d_ST_canRead_37 (by decide) ?_
        refine zs_goto (pc := 38) (tgt := 42) d_ST_canRead_38 rfl ?_
        exact zs_zretc (pc := 42) d_ST_canRead_42 rfl (by decide) (Nat.le_of_ble_eq_true rfl) (Nat.le_of_ble_eq_true rfl) rfl
def jF_Row_clear (a0 : Option Nat) (H : zH) : Option zH :=
  (zok H a0 7).bind fun _ =>
  (zpV H a0 7 1 (zI (0 : Int32))).bind fun H2 =>
  some H2
theorem jm_Row_clear {E : zE} {d : Nat} (hd : 0 ≤ d) (a0 : Option Nat) (H : zH) : z_MS E jM_Row_clear d 0 0 zwV [zR a0] H (jF_Row_clear a0 H) := by
  refine zs_of (lv0 := [(0, zR a0)]) pn_Row (Nat.le_of_ble_eq_true rfl) rfl ?_
  unfold jF_Row_clear
  refine zs_bind fun _ _ => ?_
  refine zs_aload_n (pc := 0) (x := a0) d_Row_clear_0 rfl ?_
  refine zs_iconst (pc := 1) (v := (0 : Int32)) d_Row_clear_1 (by decide) ?_
  refine zs_put (pc := 2) d_Row_clear_2 kP_Row_13 z_fitI fun H2 => ?_
  exact zs_vret (pc := 5) d_Row_clear_5 rfl (Nat.le_of_ble_eq_true rfl) (Nat.le_of_ble_eq_true rfl) rfl
def jF_Bytes_cutTo (a0 : Option Nat) (a1 : Int32) (H : zH) : Option zH :=
  (zok H a0 2).bind fun _ =>
  (zpV H a0 2 1 (zI a1)).bind fun H2 =>
  some H2
theorem jm_Bytes_cutTo {E : zE} {d : Nat} (hd : 0 ≤ d) (a0 : Option Nat) (a1 : Int32) (H : zH) : z_MS E jM_Bytes_cutTo d 0 0 zwV [zR a0, zI a1] H (jF_Bytes_cutTo a0 a1 H) := by
  refine zs_of (lv0 := [(0, zR a0), (1, zI a1)]) pn_Bytes (Nat.le_of_ble_eq_true rfl) rfl ?_
  unfold jF_Bytes_cutTo
  refine zs_bind fun _ _ => ?_
  refine zs_aload_n (pc := 0) (x := a0) d_Bytes_cutTo_0 rfl ?_
  refine zs_iload_n (pc := 1) (x := a1) d_Bytes_cutTo_1 rfl ?_
  refine zs_put (pc := 2) d_Bytes_cutTo_2 kP_Bytes_13 z_fitI fun H2 => ?_
  exact zs_vret (pc := 5) d_Bytes_cutTo_5 rfl (Nat.le_of_ble_eq_true rfl) (Nat.le_of_ble_eq_true rfl) rfl
def jF_Staging_clear (a0 : Option Nat) (H : zH) : Option zH :=
  (zok H a0 10).bind fun _ =>
  (zgR H a0 10 0).bind fun v1 =>
  (jF_Bytes_cutTo v1 (0 : Int32) H).bind fun y5 =>
  (zpV y5 a0 10 1 (zI (-1 : Int32))).bind fun H10 =>
  (zpV H10 a0 10 2 (zI (0 : Int32))).bind fun H15 =>
  some H15
theorem jm_Staging_clear {E : zE} {d : Nat} (hd : 1 ≤ d) (a0 : Option Nat) (H : zH) : z_MS E jM_Staging_clear d 0 0 zwV [zR a0] H (jF_Staging_clear a0 H) := by
  refine zs_of (lv0 := [(0, zR a0)]) pn_Staging (Nat.le_of_ble_eq_true rfl) rfl ?_
  unfold jF_Staging_clear
  refine zs_bind fun _ _ => ?_
  refine zs_aload_n (pc := 0) (x := a0) d_Staging_clear_0 rfl ?_
  refine zs_getR (pc := 1) d_Staging_clear_1 kF_Staging_16 fun v1 => ?_
  refine zs_iconst (pc := 4) (v := (0 : Int32)) d_Staging_clear_4 (by decide) ?_
  refine zs_callv_wV (pc := 5) (av := [zI (0 : Int32)]) (st := []) (d' := 0) (C' := 0) (S' := 0) d_Staging_clear_5 kV_Staging_39 z_okb (jm_Bytes_cutTo (d := 0) (Nat.le_refl _) v1 (0 : Int32) H) (by omega) (Nat.le_of_ble_eq_true rfl) (Nat.le_of_ble_eq_true rfl) rfl rfl (Nat.le_of_ble_eq_true rfl) fun y5 => ?_
  refine zs_aload_n (pc := 8) (x := a0) d_Staging_clear_8 rfl ?_
  refine zs_iconst (pc := 9) (v := (-1 : Int32)) d_Staging_clear_9 (by decide) ?_
  refine zs_put (pc := 10) d_Staging_clear_10 kP_Staging_20 z_fitI fun H10 => ?_
  refine zs_aload_n (pc := 13) (x := a0) d_Staging_clear_13 rfl ?_
  refine zs_iconst (pc := 14) (v := (0 : Int32)) d_Staging_clear_14 (by decide) ?_
  refine zs_put (pc := 15) d_Staging_clear_15 kP_Staging_24 z_fitI fun H15 => ?_
  exact zs_vret (pc := 18) d_Staging_clear_18 rfl (Nat.le_of_ble_eq_true rfl) (Nat.le_of_ble_eq_true rfl) rfl
def jF_ST_goDown (a0 : Option Nat) (H : zH) : Option (Int32 × zH) :=
  (zok H a0 0).bind fun _ =>
  (zgR H a0 0 5).bind fun v1 =>
  (jF_Row_clear v1 H).bind fun y4 =>
  (zgR y4 a0 0 4).bind fun v8 =>
  (jF_Staging_clear v8 y4).bind fun y11 =>
  (zgR y11 a0 0 7).bind fun v15 =>
  (jF_Row_clear v15 y11).bind fun y18 =>
  some ((-4 : Int32), y18)
theorem jm_ST_goDown {E : zE} {d : Nat} (hd : 2 ≤ d) (a0 : Option Nat) (H : zH) : z_MS E jM_ST_goDown d 0 0 zwI [zR a0] H (jF_ST_goDown a0 H) := by
  refine zs_of (lv0 := [(0, zR a0)]) pn_ST (Nat.le_of_ble_eq_true rfl) rfl ?_
  unfold jF_ST_goDown
  refine zs_bind fun _ _ => ?_
  refine zs_aload_n (pc := 0) (x := a0) d_ST_goDown_0 rfl ?_
  refine zs_getR (pc := 1) d_ST_goDown_1 kF_ST_51 fun v1 => ?_
  refine zs_callv_wV (pc := 4) (av := []) (st := []) (d' := 0) (C' := 0) (S' := 0) d_ST_goDown_4 kV_ST_128 z_okb (jm_Row_clear (d := 0) (Nat.le_refl _) v1 H) (by omega) (Nat.le_of_ble_eq_true rfl) (Nat.le_of_ble_eq_true rfl) rfl rfl (Nat.le_of_ble_eq_true rfl) fun y4 => ?_
  refine zs_aload_n (pc := 7) (x := a0) d_ST_goDown_7 rfl ?_
  refine zs_getR (pc := 8) d_ST_goDown_8 kF_ST_42 fun v8 => ?_
  refine zs_callv_wV (pc := 11) (av := []) (st := []) (d' := 1) (C' := 0) (S' := 0) d_ST_goDown_11 kV_ST_131 z_okb (jm_Staging_clear (d := 1) (Nat.le_refl _) v8 y4) (by omega) (Nat.le_of_ble_eq_true rfl) (Nat.le_of_ble_eq_true rfl) rfl rfl (Nat.le_of_ble_eq_true rfl) fun y11 => ?_
  refine zs_aload_n (pc := 14) (x := a0) d_ST_goDown_14 rfl ?_
  refine zs_getR (pc := 15) d_ST_goDown_15 kF_ST_58 fun v15 => ?_
  refine zs_callv_wV (pc := 18) (av := []) (st := []) (d' := 0) (C' := 0) (S' := 0) d_ST_goDown_18 kV_ST_128 z_okb (jm_Row_clear (d := 0) (Nat.le_refl _) v15 y11) (by omega) (Nat.le_of_ble_eq_true rfl) (Nat.le_of_ble_eq_true rfl) rfl rfl (Nat.le_of_ble_eq_true rfl) fun y18 => ?_
  refine zs_bipush (pc := 21) (v := (-4 : Int32)) d_ST_goDown_21 (by decide) ?_
  exact zs_iret (pc := 23) d_ST_goDown_23 rfl (Nat.le_of_ble_eq_true rfl) (Nat.le_of_ble_eq_true rfl) rfl
def jF_ST_isSubject (a0 : Int32) (H : zH) : Option Int32 :=
  if a0 < 0 then (
    some (0 : Int32))
  else (
    if (3 : Int32) ≤ a0 then (
      some (0 : Int32))
    else (
      some (1 : Int32)))
theorem jm_ST_isSubject {E : zE} {d : Nat} (hd : 0 ≤ d) (a0 : Int32) (H : zH) : z_MS E jM_ST_isSubject d 0 0 (zrI H) [zI a0] H (jF_ST_isSubject a0 H) := by
  refine zs_of (lv0 := [(0, zI a0)]) pn_ST (Nat.le_of_ble_eq_true rfl) rfl ?_
  unfold jF_ST_isSubject
  refine zs_iload_n (pc := 0) (x := a0) d_ST_isSubject_0 rfl ?_
  refine zs_if_lt (pc := 1) (tgt := 13) d_ST_isSubject_1 rfl (fun q1 => ?_) (fun q1 => ?_)
  · refine zs_iconst (pc := 13) (v := (0 : Int32)) d_ST_isSubject_13 (by decide) ?_
    exact zs_zretc (pc := 14) d_ST_isSubject_14 rfl (by decide) (Nat.le_of_ble_eq_true rfl) (Nat.le_of_ble_eq_true rfl) rfl
  · refine zs_iload_n (pc := 4) (x := a0) d_ST_isSubject_4 rfl ?_
    refine zs_iconst (pc := 5) (v := (3 : Int32)) d_ST_isSubject_5 (by decide) ?_
    refine zs_icmp_ge (pc := 6) (tgt := 13) d_ST_isSubject_6 rfl (fun q6 => ?_) (fun q6 => ?_)
    · refine zs_iconst (pc := 13) (v := (0 : Int32)) d_ST_isSubject_13 (by decide) ?_
      exact zs_zretc (pc := 14) d_ST_isSubject_14 rfl (by decide) (Nat.le_of_ble_eq_true rfl) (Nat.le_of_ble_eq_true rfl) rfl
    · refine zs_iconst (pc := 9) (v := (1 : Int32)) d_ST_isSubject_9 (by decide) ?_
      refine zs_goto (pc := 10) (tgt := 14) d_ST_isSubject_10 rfl ?_
      exact zs_zretc (pc := 14) d_ST_isSubject_14 rfl (by decide) (Nat.le_of_ble_eq_true rfl) (Nat.le_of_ble_eq_true rfl) rfl
def jF_Disk_at (a0 : Option Nat) (a1 : Int32) (H : zH) : Option Int32 :=
  (zok H a0 3).bind fun _ =>
  if a1 < 0 then (
    some (0 : Int32))
  else (
    (zgR H a0 3 0).bind fun v6 =>
    (zle H v6 0).bind fun v9 =>
    if v9 ≤ a1 then (
      some (0 : Int32))
    else (
      (zgR H a0 3 0).bind fun v14 =>
      (zaI H v14 0 a1).bind fun v18 =>
      some v18))
theorem jm_Disk_at {E : zE} {d : Nat} (hd : 0 ≤ d) (a0 : Option Nat) (a1 : Int32) (H : zH) : z_MS E jM_Disk_at d 0 0 (zrI H) [zR a0, zI a1] H (jF_Disk_at a0 a1 H) := by
  refine zs_of (lv0 := [(0, zR a0), (1, zI a1)]) pn_Disk (Nat.le_of_ble_eq_true rfl) rfl ?_
  unfold jF_Disk_at
  refine zs_bind fun _ _ => ?_
  refine zs_iload_n (pc := 0) (x := a1) d_Disk_at_0 rfl ?_
  refine zs_if_lt (pc := 1) (tgt := 22) d_Disk_at_1 rfl (fun q1 => ?_) (fun q1 => ?_)
  · refine zs_iconst (pc := 22) (v := (0 : Int32)) d_Disk_at_22 (by decide) ?_
    exact zs_iret (pc := 23) d_Disk_at_23 rfl (Nat.le_of_ble_eq_true rfl) (Nat.le_of_ble_eq_true rfl) rfl
  · refine zs_iload_n (pc := 4) (x := a1) d_Disk_at_4 rfl ?_
    refine zs_aload_n (pc := 5) (x := a0) d_Disk_at_5 rfl ?_
    refine zs_getR (pc := 6) d_Disk_at_6 kF_Disk_9 fun v6 => ?_
    refine zs_alen (t := 0) (pc := 9) d_Disk_at_9 rfl fun v9 => ?_
    refine zs_icmp_ge (pc := 10) (tgt := 22) d_Disk_at_10 rfl (fun q10 => ?_) (fun q10 => ?_)
    · refine zs_iconst (pc := 22) (v := (0 : Int32)) d_Disk_at_22 (by decide) ?_
      exact zs_iret (pc := 23) d_Disk_at_23 rfl (Nat.le_of_ble_eq_true rfl) (Nat.le_of_ble_eq_true rfl) rfl
    · refine zs_aload_n (pc := 13) (x := a0) d_Disk_at_13 rfl ?_
      refine zs_getR (pc := 14) d_Disk_at_14 kF_Disk_9 fun v14 => ?_
      refine zs_iload_n (pc := 17) (x := a1) d_Disk_at_17 rfl ?_
      refine zs_iald (t := 0) (pc := 18) d_Disk_at_18 rfl fun v18 => ?_
      refine zs_goto (pc := 19) (tgt := 23) d_Disk_at_19 rfl ?_
      exact zs_iret (pc := 23) d_Disk_at_23 rfl (Nat.le_of_ble_eq_true rfl) (Nat.le_of_ble_eq_true rfl) rfl
def jF_Disk_startOf (a0 : Int32) (H : zH) : Option Int32 :=
  some (a0 * (32 : Int32))
theorem jm_Disk_startOf {E : zE} {d : Nat} (hd : 0 ≤ d) (a0 : Int32) (H : zH) : z_MS E jM_Disk_startOf d 0 0 (zrI H) [zI a0] H (jF_Disk_startOf a0 H) := by
  refine zs_of (lv0 := [(0, zI a0)]) pn_Disk (Nat.le_of_ble_eq_true rfl) rfl ?_
  unfold jF_Disk_startOf
  refine zs_iload_n (pc := 0) (x := a0) d_Disk_startOf_0 rfl ?_
  refine zs_bipush (pc := 1) (v := (32 : Int32)) d_Disk_startOf_1 (by decide) ?_
  refine zs_imul (pc := 3) d_Disk_startOf_3 ?_
  exact zs_iret (pc := 4) d_Disk_startOf_4 rfl (Nat.le_of_ble_eq_true rfl) (Nat.le_of_ble_eq_true rfl) rfl
def jF_Registry_entries (a0 : Option Nat) (H : zH) : Option Int32 :=
  (zok H a0 6).bind fun _ =>
  (zgR H a0 6 0).bind fun v1 =>
  (jF_Disk_startOf (1 : Int32) H).bind fun y5 =>
  (jF_Disk_at v1 y5 H).bind fun y8 =>
  some y8
theorem jm_Registry_entries {E : zE} {d : Nat} (hd : 1 ≤ d) (a0 : Option Nat) (H : zH) : z_MS E jM_Registry_entries d 0 0 (zrI H) [zR a0] H (jF_Registry_entries a0 H) := by
  refine zs_of (lv0 := [(0, zR a0)]) pn_Registry (Nat.le_of_ble_eq_true rfl) rfl ?_
  unfold jF_Registry_entries
  refine zs_bind fun _ _ => ?_
  refine zs_aload_n (pc := 0) (x := a0) d_Registry_entries_0 rfl ?_
  refine zs_getR (pc := 1) d_Registry_entries_1 kF_Registry_9 fun v1 => ?_
  refine zs_iconst (pc := 4) (v := (1 : Int32)) d_Registry_entries_4 (by decide) ?_
  refine zs_calls_rI (pc := 5) (av := [zI (1 : Int32)]) (st := [zR v1]) (d' := 0) (C' := 0) (S' := 0) d_Registry_entries_5 kS_Registry_44 (jm_Disk_startOf (d := 0) (Nat.le_refl _) (1 : Int32) H) (by omega) (Nat.le_of_ble_eq_true rfl) (Nat.le_of_ble_eq_true rfl) rfl rfl (Nat.le_of_ble_eq_true rfl) fun y5 => ?_
  refine zs_callv_rI (pc := 8) (av := [zI y5]) (st := []) (d' := 0) (C' := 0) (S' := 0) d_Registry_entries_8 kV_Registry_48 z_okb (jm_Disk_at (d := 0) (Nat.le_refl _) v1 y5 H) (by omega) (Nat.le_of_ble_eq_true rfl) (Nat.le_of_ble_eq_true rfl) rfl rfl (Nat.le_of_ble_eq_true rfl) fun y8 => ?_
  exact zs_iret (pc := 11) d_Registry_entries_11 rfl (Nat.le_of_ble_eq_true rfl) (Nat.le_of_ble_eq_true rfl) rfl
def jF_Registry_entryByte (a0 : Option Nat) (a1 : Int32) (a2 : Int32) (H : zH) : Option Int32 :=
  (zok H a0 6).bind fun _ =>
  (zgR H a0 6 0).bind fun v1 =>
  (jF_Disk_startOf (1 : Int32) H).bind fun y5 =>
  (jF_Disk_at v1 (((y5 + (1 : Int32)) + (a1 * (2 : Int32))) + a2) H).bind fun y16 =>
  some y16
theorem jm_Registry_entryByte {E : zE} {d : Nat} (hd : 1 ≤ d) (a0 : Option Nat) (a1 : Int32) (a2 : Int32) (H : zH) : z_MS E jM_Registry_entryByte d 0 0 (zrI H) [zR a0, zI a1, zI a2] H (jF_Registry_entryByte a0 a1 a2 H) := by
  refine zs_of (lv0 := [(0, zR a0), (1, zI a1), (2, zI a2)]) pn_Registry (Nat.le_of_ble_eq_true rfl) rfl ?_
  unfold jF_Registry_entryByte
  refine zs_bind fun _ _ => ?_
  refine zs_aload_n (pc := 0) (x := a0) d_Registry_entryByte_0 rfl ?_
  refine zs_getR (pc := 1) d_Registry_entryByte_1 kF_Registry_9 fun v1 => ?_
  refine zs_iconst (pc := 4) (v := (1 : Int32)) d_Registry_entryByte_4 (by decide) ?_
  refine zs_calls_rI (pc := 5) (av := [zI (1 : Int32)]) (st := [zR v1]) (d' := 0) (C' := 0) (S' := 0) d_Registry_entryByte_5 kS_Registry_44 (jm_Disk_startOf (d := 0) (Nat.le_refl _) (1 : Int32) H) (by omega) (Nat.le_of_ble_eq_true rfl) (Nat.le_of_ble_eq_true rfl) rfl rfl (Nat.le_of_ble_eq_true rfl) fun y5 => ?_
  refine zs_iconst (pc := 8) (v := (1 : Int32)) d_Registry_entryByte_8 (by decide) ?_
  refine zs_iadd (pc := 9) d_Registry_entryByte_9 ?_
  refine zs_iload_n (pc := 10) (x := a1) d_Registry_entryByte_10 rfl ?_
  refine zs_iconst (pc := 11) (v := (2 : Int32)) d_Registry_entryByte_11 (by decide) ?_
  refine zs_imul (pc := 12) d_Registry_entryByte_12 ?_
  refine zs_iadd (pc := 13) d_Registry_entryByte_13 ?_
  refine zs_iload_n (pc := 14) (x := a2) d_Registry_entryByte_14 rfl ?_
  refine zs_iadd (pc := 15) d_Registry_entryByte_15 ?_
  refine zs_callv_rI (pc := 16) (av := [zI (((y5 + (1 : Int32)) + (a1 * (2 : Int32))) + a2)]) (st := []) (d' := 0) (C' := 0) (S' := 0) d_Registry_entryByte_16 kV_Registry_48 z_okb (jm_Disk_at (d := 0) (Nat.le_refl _) v1 (((y5 + (1 : Int32)) + (a1 * (2 : Int32))) + a2) H) (by omega) (Nat.le_of_ble_eq_true rfl) (Nat.le_of_ble_eq_true rfl) rfl rfl (Nat.le_of_ble_eq_true rfl) fun y16 => ?_
  exact zs_iret (pc := 19) d_Registry_entryByte_19 rfl (Nat.le_of_ble_eq_true rfl) (Nat.le_of_ble_eq_true rfl) rfl
