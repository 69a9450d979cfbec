def jJ_Mo_symbolOf_53  (s0 : Int64) (s1 : Option Nat) (H : zH) : Option (Int32 × zH) :=
  (jF_Mo_give1 s1 s0 H).bind fun y53 =>
  some ((1 : Int32), y53)
def jJ_Mo_symbolOf_36  (a0 : Option Nat) (a1 : Int32) (a2 : Int32) (a3 : Int32) (H : zH) : Option (Int32 × zH) :=
  if a3 = 0 then (
    (zgR H a0 1 4).bind fun v47 =>
    (zaI H v47 0 a1).bind fun v51 =>
    jJ_Mo_symbolOf_53  v51.toInt64 a0 H)
  else (
    jJ_Mo_symbolOf_53  a2.toInt64 a0 H)
def jJ_Mo_symbolOf_19  (s0 : Int32) (a0 : Option Nat) (a1 : Int32) (a2 : Int32) (H : zH) : Option (Int32 × zH) :=
  if s0 = 0 then (
    (zgR H a0 1 4).bind fun v25 =>
    (zaI H v25 0 a1).bind fun v29 =>
    if v29 = (-1 : Int32) then (
      some ((0 : Int32), H))
    else (
      jJ_Mo_symbolOf_36  a0 a1 a2 s0 H))
  else (
    jJ_Mo_symbolOf_36  a0 a1 a2 s0 H)
def jF_Mo_symbolOf (a0 : Option Nat) (a1 : Int32) (a2 : Int32) (H : zH) : Option (Int32 × zH) :=
  (zok H a0 1).bind fun _ =>
  (zgR H a0 1 3).bind fun v1 =>
  (zaI H v1 0 a1).bind fun v5 =>
  if ((v5 >>> (a2 &&& 31)) &&& (1 : Int32)) = (1 : Int32) then (
    jJ_Mo_symbolOf_19  (1 : Int32) a0 a1 a2 H)
  else (
    jJ_Mo_symbolOf_19  (0 : Int32) a0 a1 a2 H)
theorem jj_Mo_symbolOf_53 {E : zE} {d : Nat} (hd : 1 ≤ d)  : ∀ (s0 : Int64) (s1 : Option Nat) (H : zH), z_S E jM_Mo_symbolOf d 0 0 zwI 53 [] [zL s0, zR s1] H 0 0 (jJ_Mo_symbolOf_53 s0 s1 H) := by
  intro s0 s1 H
  unfold jJ_Mo_symbolOf_53
  refine zs_callv_wV (pc := 53) (av := [zL s0]) (st := []) (d' := 0) (C' := 0) (S' := 0) d_Mo_symbolOf_53 kV_Mo_273 z_okb (jm_Mo_give1 (d := 0) (Nat.le_refl _) s1 s0 H) (by omega) (Nat.le_of_ble_eq_true rfl) (Nat.le_of_ble_eq_true rfl) rfl rfl (Nat.le_of_ble_eq_true rfl) fun y53 => ?_
  refine zs_iconst (pc := 56) (v := (1 : Int32)) d_Mo_symbolOf_56 (by decide) ?_
  exact zs_zretc (pc := 57) d_Mo_symbolOf_57 rfl (by decide) (Nat.le_of_ble_eq_true rfl) (Nat.le_of_ble_eq_true rfl) rfl
theorem jj_Mo_symbolOf_36 {E : zE} {d : Nat} (hd : 1 ≤ d)  : ∀ (a0 : Option Nat) (a1 : Int32) (a2 : Int32) (a3 : Int32) (H : zH), z_S E jM_Mo_symbolOf d 0 0 zwI 36 [(0, zR a0), (1, zI a1), (2, zI a2), (3, zI a3)] [] H 0 0 (jJ_Mo_symbolOf_36 a0 a1 a2 a3 H) := by
  intro a0 a1 a2 a3 H
  unfold jJ_Mo_symbolOf_36
  refine zs_aload_n (pc := 36) (x := a0) d_Mo_symbolOf_36 rfl ?_
  refine zs_iload_n (pc := 37) (x := a3) d_Mo_symbolOf_37 rfl ?_
  refine zs_if_eq (pc := 38) (tgt := 46) d_Mo_symbolOf_38 rfl (fun q38 => ?_) (fun q38 => ?_)
  · refine zs_aload_n (pc := 46) (x := a0) d_Mo_symbolOf_46 rfl ?_
    refine zs_getR (pc := 47) d_Mo_symbolOf_47 kF_Mo_19 fun v47 => ?_
    refine zs_iload_n (pc := 50) (x := a1) d_Mo_symbolOf_50 rfl ?_
    refine zs_iald (t := 0) (pc := 51) d_Mo_symbolOf_51 rfl fun v51 => ?_
    refine zs_i2l (pc := 52) d_Mo_symbolOf_52 ?_
    refine zs_sub (lv' := []) [] rfl ?_
    exact jj_Mo_symbolOf_53 hd  v51.toInt64 a0 H
  · refine zs_iload_n (pc := 41) (x := a2) d_Mo_symbolOf_41 rfl ?_
    refine zs_i2l (pc := 42) d_Mo_symbolOf_42 ?_
    refine zs_goto (pc := 43) (tgt := 53) d_Mo_symbolOf_43 rfl ?_
    refine zs_sub (lv' := []) [] rfl ?_
    exact jj_Mo_symbolOf_53 hd  a2.toInt64 a0 H
theorem jj_Mo_symbolOf_19 {E : zE} {d : Nat} (hd : 1 ≤ d)  : ∀ (s0 : Int32) (a0 : Option Nat) (a1 : Int32) (a2 : Int32) (H : zH), z_S E jM_Mo_symbolOf d 0 0 zwI 19 [(0, zR a0), (1, zI a1), (2, zI a2)] [zI s0] H 0 0 (jJ_Mo_symbolOf_19 s0 a0 a1 a2 H) := by
  intro s0 a0 a1 a2 H
  unfold jJ_Mo_symbolOf_19
  refine zs_istore_n (pc := 19) (lv' := [(3, zI s0), (0, zR a0), (1, zI a1), (2, zI a2)]) d_Mo_symbolOf_19 (Nat.le_of_ble_eq_true rfl) rfl ?_
  refine zs_iload_n (pc := 20) (x := s0) d_Mo_symbolOf_20 rfl ?_
  refine zs_if_ne (pc := 21) (tgt := 36) d_Mo_symbolOf_21 rfl (fun q21 => ?_) (fun q21 => ?_)
  · refine zs_sub (lv' := [(0, zR a0), (1, zI a1), (2, zI a2), (3, zI s0)]) [1, 2, 3, 0] rfl ?_
    exact jj_Mo_symbolOf_36 hd  a0 a1 a2 s0 H
  · refine zs_aload_n (pc := 24) (x := a0) d_Mo_symbolOf_24 rfl ?_
    refine zs_getR (pc := 25) d_Mo_symbolOf_25 kF_Mo_19 fun v25 => ?_
    refine zs_iload_n (pc := 28) (x := a1) d_Mo_symbolOf_28 rfl ?_
    refine zs_iald (t := 0) (pc := 29) d_Mo_symbolOf_29 rfl fun v29 => ?_
    refine zs_iconst (pc := 30) (v := (-1 : Int32)) d_Mo_symbolOf_30 (by decide) ?_
    refine zs_icmp_ne (pc := 31) (tgt := 36) d_Mo_symbolOf_31 rfl (fun q31 => ?_) (fun q31 => ?_)
    · refine zs_sub (lv' := [(0, zR a0), (1, zI a1), (2, zI a2), (3, zI s0)]) [1, 2, 3, 0] rfl ?_
      exact jj_Mo_symbolOf_36 hd  a0 a1 a2 s0 H
    · refine zs_iconst (pc := 34) (v := (0 : Int32)) d_Mo_symbolOf_34 (by decide) ?_
      exact zs_zretc (pc := 35) d_Mo_symbolOf_35 rfl (by decide) (Nat.le_of_ble_eq_true rfl) (Nat.le_of_ble_eq_true rfl) rfl
theorem jm_Mo_symbolOf {E : zE} {d : Nat} (hd : 1 ≤ d) (a0 : Option Nat) (a1 : Int32) (a2 : Int32) (H : zH) : z_MS E jM_Mo_symbolOf d 0 0 zwI [zR a0, zI a1, zI a2] H (jF_Mo_symbolOf a0 a1 a2 H) := by
  refine zs_of (lv0 := [(0, zR a0), (1, zI a1), (2, zI a2)]) pn_Mo (Nat.le_of_ble_eq_true rfl) rfl ?_
  unfold jF_Mo_symbolOf
  refine zs_bind fun _ _ => ?_
  refine zs_aload_n (pc := 0) (x := a0) d_Mo_symbolOf_0 rfl ?_
  refine zs_getR (pc := 1) d_Mo_symbolOf_1 kF_Mo_16 fun v1 => ?_
  refine zs_iload_n (pc := 4) (x := a1) d_Mo_symbolOf_4 rfl ?_
  refine zs_iald (t := 0) (pc := 5) d_Mo_symbolOf_5 rfl fun v5 => ?_
  refine zs_iload_n (pc := 6) (x := a2) d_Mo_symbolOf_6 rfl ?_
  refine zs_ishr (pc := 7) d_Mo_symbolOf_7 ?_
  refine zs_iconst (pc := 8) (v := (1 : Int32)) d_Mo_symbolOf_8 (by decide) ?_
  refine zs_iand (pc := 9) d_Mo_symbolOf_9 ?_
  refine zs_iconst (pc := 10) (v := (1 : Int32)) d_Mo_symbolOf_10 (by decide) ?_
  refine zs_icmp_ne (pc := 11) (tgt := 18) d_Mo_symbolOf_11 rfl (fun q11 => ?_) (fun q11 => ?_)
  · refine zs_iconst (pc := 18) (v := (0 : Int32)) d_Mo_symbolOf_18 (by decide) ?_
    exact jj_Mo_symbolOf_19 hd  (0 : Int32) a0 a1 a2 H
  · refine zs_iconst (pc := 14) (v := (1 : Int32)) d_Mo_symbolOf_14 (by decide) ?_
    refine zs_goto (pc := 15) (tgt := 19) d_Mo_symbolOf_15 rfl ?_
    exact jj_Mo_symbolOf_19 hd  (1 : Int32) a0 a1 a2 H
def jJ_Mo_part_250 (fu : Nat) (a0 : Option Nat) (a1 : Int32) (a2 : Int32) (a3 : Int32) (H : zH) : Option (Int32 × zH) :=
  (zgR H a0 1 1).bind fun v251 =>
  (zaI H v251 0 a3).bind fun v255 =>
  if v255 = (5 : Int32) then (
    (jF_Mo_items fu a0 a1 a2 a3 H).bind fun y264 =>
    some ((1 : Int32), y264))
  else (
    some ((1 : Int32), H))
def jJ_Mo_part_38 (fu : Nat) (s0 : Int32) (s1 : Option Nat) (a2 : Int32) (a3 : Int32) (H : zH) : Option (Int32 × zH) :=
  (jF_Mo_add s1 s0 (a2 + (1 : Int32)) a3 H).bind fun y42 =>
  some ((1 : Int32), y42)
def jF_Mo_part (fu : Nat) (a0 : Option Nat) (a1 : Int32) (a2 : Int32) (a3 : Int32) (H : zH) : Option (Int32 × zH) :=
  (zok H a0 1).bind fun _ =>
  (zgR H a0 1 1).bind fun v1 =>
  (zaI H v1 0 a1).bind fun v5 =>
  if v5 = (6 : Int32) then (
    (zgR H a0 1 30).bind fun v13 =>
    (zaL H v13 2 a2).bind fun v17 =>
    if v17 = (0 : Int64) then (
      (zgR H a0 1 3).bind fun v24 =>
      (zaI H v24 0 a1).bind fun v28 =>
      jJ_Mo_part_38 fu v28 a0 a2 a3 H)
    else (
      (zgR H a0 1 4).bind fun v33 =>
      (zaI H v33 0 a1).bind fun v37 =>
      jJ_Mo_part_38 fu v37 a0 a2 a3 H))
  else (
    (zgR H a0 1 1).bind fun v48 =>
    (zaI H v48 0 a3).bind fun v52 =>
    if v52 = (6 : Int32) then (
      (jF_Mo_branch a0 a3 a1 H).bind fun y61 =>
      if 0 ≤ y61 then (
        (jF_Mo_give1 a0 y61.toInt64 H).bind fun y77 =>
        (jF_Mo_branchSchema a0 a3 a1 y77).bind fun y86 =>
        (jF_Mo_add a0 a1 a2 y86 y77).bind fun y89 =>
        some ((1 : Int32), y89))
      else (
        some ((0 : Int32), H)))
    else (
      (zgR H a0 1 1).bind fun v95 =>
      (zaI H v95 0 a1).bind fun v99 =>
      (zgR H a0 1 1).bind fun v101 =>
      (zaI H v101 0 a3).bind fun v105 =>
      if v99 = v105 then (
        (zgR H a0 1 1).bind fun v144 =>
        (zaI H v144 0 a3).bind fun v148 =>
        if v148 = (7 : Int32) then (
          (zgR H a0 1 2).bind fun v155 =>
          (zaI H v155 0 a1).bind fun v159 =>
          (zgR H a0 1 2).bind fun v161 =>
          (zaI H v161 0 a3).bind fun v165 =>
          if v159 = v165 then (
            (jF_Mo_ofRecord fu a0 a1 a2 a3 H).bind fun y173 =>
            if y173.1 = 0 then (
              some ((0 : Int32), y173.2))
            else (
              some ((1 : Int32), y173.2)))
          else (
            some ((0 : Int32), H)))
        else (
          (zgR H a0 1 1).bind fun v186 =>
          (zaI H v186 0 a3).bind fun v190 =>
          if v190 = (4 : Int32) then (
            (zgR H a0 1 2).bind fun v196 =>
            (zaI H v196 0 a1).bind fun v200 =>
            (zgR H a0 1 2).bind fun v202 =>
            (zaI H v202 0 a3).bind fun v206 =>
            if v200 = v206 then (
              (zgR H a0 1 30).bind fun v213 =>
              (zaL H v213 2 a2).bind fun v217 =>
              (jF_Mo_symbolOf a0 a3 v217.toInt32 H).bind fun y219 =>
              if y219.1 = 0 then (
                some ((0 : Int32), y219.2))
              else (
                some ((1 : Int32), y219.2)))
            else (
              some ((0 : Int32), H)))
          else (
            (zgR H a0 1 1).bind fun v232 =>
            (zaI H v232 0 a3).bind fun v236 =>
            if v236 = 0 then (
              jJ_Mo_part_250 fu a0 a1 a2 a3 H)
            else (
              (zgR H a0 1 30).bind fun v242 =>
              (zaL H v242 2 a2).bind fun v246 =>
              (jF_Mo_give1 a0 v246 H).bind fun y247 =>
              jJ_Mo_part_250 fu a0 a1 a2 a3 y247))))
      else (
        (zgR H a0 1 1).bind fun v110 =>
        (zaI H v110 0 a1).bind fun v114 =>
        if v114 = (2 : Int32) then (
          (zgR H a0 1 1).bind fun v120 =>
          (zaI H v120 0 a3).bind fun v124 =>
          if v124 = (3 : Int32) then (
            (zgR H a0 1 30).bind fun v133 =>
            (zaL H v133 2 a2).bind fun v137 =>
            (jF_Mo_give1 a0 v137 H).bind fun y138 =>
            some ((1 : Int32), y138))
          else (
            some ((0 : Int32), H)))
        else (
          some ((0 : Int32), H)))))
theorem jj_Mo_part_250 {E : zE} {d : Nat} (hd : 4 ≤ d) (fu : Nat) : ∀ (a0 : Option Nat) (a1 : Int32) (a2 : Int32) (a3 : Int32) (H : zH), z_S E jM_Mo_part d 0 0 zwI 250 [(0, zR a0), (1, zI a1), (2, zI a2), (3, zI a3)] [] H 0 0 (jJ_Mo_part_250 fu a0 a1 a2 a3 H) := by
  intro a0 a1 a2 a3 H
  unfold jJ_Mo_part_250
  refine zs_aload_n (pc := 250) (x := a0) d_Mo_part_250 rfl ?_
  refine zs_getR (pc := 251) d_Mo_part_251 kF_Mo_7 fun v251 => ?_
  refine zs_iload_n (pc := 254) (x := a3) d_Mo_part_254 rfl ?_
  refine zs_iald (t := 0) (pc := 255) d_Mo_part_255 rfl fun v255 => ?_
  refine zs_iconst (pc := 256) (v := (5 : Int32)) d_Mo_part_256 (by decide) ?_
  refine zs_icmp_ne (pc := 257) (tgt := 267) d_Mo_part_257 rfl (fun q257 => ?_) (fun q257 => ?_)
  · refine zs_iconst (pc := 267) (v := (1 : Int32)) d_Mo_part_267 (by decide) ?_
    exact zs_zretc (pc := 268) d_Mo_part_268 rfl (by decide) (Nat.le_of_ble_eq_true rfl) (Nat.le_of_ble_eq_true rfl) rfl
  · refine zs_aload_n (pc := 260) (x := a0) d_Mo_part_260 rfl ?_
    refine zs_iload_n (pc := 261) (x := a1) d_Mo_part_261 rfl ?_
    refine zs_iload_n (pc := 262) (x := a2) d_Mo_part_262 rfl ?_
    refine zs_iload_n (pc := 263) (x := a3) d_Mo_part_263 rfl ?_
    refine zs_callv_wV (pc := 264) (av := [zI a1, zI a2, zI a3]) (st := []) (d' := 2) (C' := 0) (S' := 0) d_Mo_part_264 kV_Mo_282 z_okb (jm_Mo_items (d := 2) (Nat.le_refl _) fu a0 a1 a2 a3 H) (by omega) (Nat.le_of_ble_eq_true rfl) (Nat.le_of_ble_eq_true rfl) rfl rfl (Nat.le_of_ble_eq_true rfl) fun y264 => ?_
    refine zs_iconst (pc := 267) (v := (1 : Int32)) d_Mo_part_267 (by decide) ?_
    exact zs_zretc (pc := 268) d_Mo_part_268 rfl (by decide) (Nat.le_of_ble_eq_true rfl) (Nat.le_of_ble_eq_true rfl) rfl
theorem jj_Mo_part_38 {E : zE} {d : Nat} (hd : 4 ≤ d) (fu : Nat) : ∀ (s0 : Int32) (s1 : Option Nat) (a2 : Int32) (a3 : Int32) (H : zH), z_S E jM_Mo_part d 0 0 zwI 38 [(2, zI a2), (3, zI a3)] [zI s0, zR s1] H 0 0 (jJ_Mo_part_38 fu s0 s1 a2 a3 H) := by
  intro s0 s1 a2 a3 H
  unfold jJ_Mo_part_38
  refine zs_iload_n (pc := 38) (x := a2) d_Mo_part_38 rfl ?_
  refine zs_iconst (pc := 39) (v := (1 : Int32)) d_Mo_part_39 (by decide) ?_
  refine zs_iadd (pc := 40) d_Mo_part_40 ?_
  refine zs_iload_n (pc := 41) (x := a3) d_Mo_part_41 rfl ?_
  refine zs_callv_wV (pc := 42) (av := [zI s0, zI (a2 + (1 : Int32)), zI a3]) (st := []) (d' := 0) (C' := 0) (S' := 0) d_Mo_part_42 kV_Mo_264 z_okb (jm_Mo_add (d := 0) (Nat.le_refl _) s1 s0 (a2 + (1 : Int32)) a3 H) (by omega) (Nat.le_of_ble_eq_true rfl) (Nat.le_of_ble_eq_true rfl) rfl rfl (Nat.le_of_ble_eq_true rfl) fun y42 => ?_
  refine zs_iconst (pc := 45) (v := (1 : Int32)) d_Mo_part_45 (by decide) ?_
  exact zs_zretc (pc := 46) d_Mo_part_46 rfl (by decide) (Nat.le_of_ble_eq_true rfl) (Nat.le_of_ble_eq_true rfl) rfl
theorem jm_Mo_part {E : zE} {d : Nat} (hd : 4 ≤ d) (fu : Nat) (a0 : Option Nat) (a1 : Int32) (a2 : Int32) (a3 : Int32) (H : zH) : z_MS E jM_Mo_part d 0 0 zwI [zR a0, zI a1, zI a2, zI a3] H (jF_Mo_part fu a0 a1 a2 a3 H) := by
  refine zs_of (lv0 := [(0, zR a0), (1, zI a1), (2, zI a2), (3, zI a3)]) pn_Mo (Nat.le_of_ble_eq_true rfl) rfl ?_
  unfold jF_Mo_part
  refine zs_bind fun _ _ => ?_
  refine zs_aload_n (pc := 0) (x := a0) d_Mo_part_0 rfl ?_
  refine zs_getR (pc := 1) d_Mo_part_1 kF_Mo_7 fun v1 => ?_
  refine zs_iload_n (pc := 4) (x := a1) d_Mo_part_4 rfl ?_
  refine zs_iald (t := 0) (pc := 5) d_Mo_part_5 rfl fun v5 => ?_
  refine zs_bipush (pc := 6) (v := (6 : Int32)) d_Mo_part_6 (by decide) ?_
  refine zs_icmp_ne (pc := 8) (tgt := 47) d_Mo_part_8 rfl (fun q8 => ?_) (fun q8 => ?_)
  · refine zs_aload_n (pc := 47) (x := a0) d_Mo_part_47 rfl ?_
    refine zs_getR (pc := 48) d_Mo_part_48 kF_Mo_7 fun v48 => ?_
    refine zs_iload_n (pc := 51) (x := a3) d_Mo_part_51 rfl ?_
    refine zs_iald (t := 0) (pc := 52) d_Mo_part_52 rfl fun v52 => ?_
    refine zs_bipush (pc := 53) (v := (6 : Int32)) d_Mo_part_53 (by decide) ?_
    refine zs_icmp_ne (pc := 55) (tgt := 94) d_Mo_part_55 rfl (fun q55 => ?_) (fun q55 => ?_)
    · refine zs_aload_n (pc := 94) (x := a0) d_Mo_part_94 rfl ?_
      refine zs_getR (pc := 95) d_Mo_part_95 kF_Mo_7 fun v95 => ?_
      refine zs_iload_n (pc := 98) (x := a1) d_Mo_part_98 rfl ?_
      refine zs_iald (t := 0) (pc := 99) d_Mo_part_99 rfl fun v99 => ?_
      refine zs_aload_n (pc := 100) (x := a0) d_Mo_part_100 rfl ?_
      refine zs_getR (pc := 101) d_Mo_part_101 kF_Mo_7 fun v101 => ?_
      refine zs_iload_n (pc := 104) (x := a3) d_Mo_part_104 rfl ?_
      refine zs_iald (t := 0) (pc := 105) d_Mo_part_105 rfl fun v105 => ?_
      refine zs_icmp_eq (pc := 106) (tgt := 143) d_Mo_part_106 rfl (fun q106 => ?_) (fun q106 => ?_)
      · refine zs_aload_n (pc := 143) (x := a0) d_Mo_part_143 rfl ?_
        refine zs_getR (pc := 144) d_Mo_part_144 kF_Mo_7 fun v144 => ?_
        refine zs_iload_n (pc := 147) (x := a3) d_Mo_part_147 rfl ?_
        refine zs_iald (t := 0) (pc := 148) d_Mo_part_148 rfl fun v148 => ?_
        refine zs_bipush (pc := 149) (v := (7 : Int32)) d_Mo_part_149 (by decide) ?_
        refine zs_icmp_ne (pc := 151) (tgt := 185) d_Mo_part_151 rfl (fun q151 => ?_) (fun q151 => ?_)
        · refine zs_aload_n (pc := 185) (x := a0) d_Mo_part_185 rfl ?_
          refine zs_getR (pc := 186) d_Mo_part_186 kF_Mo_7 fun v186 => ?_
          refine zs_iload_n (pc := 189) (x := a3) d_Mo_part_189 rfl ?_
          refine zs_iald (t := 0) (pc := 190) d_Mo_part_190 rfl fun v190 => ?_
          refine zs_iconst (pc := 191) (v := (4 : Int32)) d_Mo_part_191 (by decide) ?_
          refine zs_icmp_ne (pc := 192) (tgt := 231) d_Mo_part_192 rfl (fun q192 => ?_) (fun q192 => ?_)
          · refine zs_aload_n (pc := 231) (x := a0) d_Mo_part_231 rfl ?_
            refine zs_getR (pc := 232) d_Mo_part_232 kF_Mo_7 fun v232 => ?_
            refine zs_iload_n (pc := 235) (x := a3) d_Mo_part_235 rfl ?_
            refine zs_iald (t := 0) (pc := 236) d_Mo_part_236 rfl fun v236 => ?_
            refine zs_if_eq (pc := 237) (tgt := 250) d_Mo_part_237 rfl (fun q237 => ?_) (fun q237 => ?_)
            · exact jj_Mo_part_250 hd fu a0 a1 a2 a3 H
            · refine zs_aload_n (pc := 240) (x := a0) d_Mo_part_240 rfl ?_
              refine zs_aload_n (pc := 241) (x := a0) d_Mo_part_241 rfl ?_
              refine zs_getR (pc := 242) d_Mo_part_242 kF_Mo_66 fun v242 => ?_
              refine zs_iload_n (pc := 245) (x := a2) d_Mo_part_245 rfl ?_
              refine zs_lald (t := 2) (pc := 246) d_Mo_part_246 rfl fun v246 => ?_
              refine zs_callv_wV (pc := 247) (av := [zL v246]) (st := []) (d' := 0) (C' := 0) (S' := 0) d_Mo_part_247 kV_Mo_273 z_okb (jm_Mo_give1 (d := 0) (Nat.le_refl _) a0 v246 H) (by omega) (Nat.le_of_ble_eq_true rfl) (Nat.le_of_ble_eq_true rfl) rfl rfl (Nat.le_of_ble_eq_true rfl) fun y247 => ?_
              exact jj_Mo_part_250 hd fu a0 a1 a2 a3 y247
          · refine zs_aload_n (pc := 195) (x := a0) d_Mo_part_195 rfl ?_
            refine zs_getR (pc := 196) d_Mo_part_196 kF_Mo_13 fun v196 => ?_
            refine zs_iload_n (pc := 199) (x := a1) d_Mo_part_199 rfl ?_
            refine zs_iald (t := 0) (pc := 200) d_Mo_part_200 rfl fun v200 => ?_
            refine zs_aload_n (pc := 201) (x := a0) d_Mo_part_201 rfl ?_
            refine zs_getR (pc := 202) d_Mo_part_202 kF_Mo_13 fun v202 => ?_
            refine zs_iload_n (pc := 205) (x := a3) d_Mo_part_205 rfl ?_
            refine zs_iald (t := 0) (pc := 206) d_Mo_part_206 rfl fun v206 => ?_
            refine zs_icmp_ne (pc := 207) (tgt := 229) d_Mo_part_207 rfl (fun q207 => ?_) (fun q207 => ?_)
            · refine zs_iconst (pc := 229) (v := (0 : Int32)) d_Mo_part_229 (by decide) ?_
              exact zs_zretc (pc := 230) d_Mo_part_230 rfl (by decide) (Nat.le_of_ble_eq_true rfl) (Nat.le_of_ble_eq_true rfl) rfl
            · refine zs_aload_n (pc := 210) (x := a0) d_Mo_part_210 rfl ?_
              refine zs_iload_n (pc := 211) (x := a3) d_Mo_part_211 rfl ?_
              refine zs_aload_n (pc := 212) (x := a0) d_Mo_part_212 rfl ?_
              refine zs_getR (pc := 213) d_Mo_part_213 kF_Mo_66 fun v213 => ?_
              refine zs_iload_n (pc := 216) (x := a2) d_Mo_part_216 rfl ?_
              refine zs_lald (t := 2) (pc := 217) d_Mo_part_217 rfl fun v217 => ?_
              refine zs_l2i (pc := 218) d_Mo_part_218 ?_
              refine zs_callv_wI (pc := 219) (av := [zI a3, zI v217.toInt32]) (st := []) (d' := 1) (C' := 0) (S' := 0) d_Mo_part_219 kV_Mo_279 z_okb (jm_Mo_symbolOf (d := 1) (Nat.le_refl _) a0 a3 v217.toInt32 H) (by omega) (Nat.le_of_ble_eq_true rfl) (Nat.le_of_ble_eq_true rfl) rfl rfl (Nat.le_of_ble_eq_true rfl) fun y219 => ?_
              refine zs_if_eq (pc := 222) (tgt := 229) d_Mo_part_222 rfl (fun q222 => ?_) (fun q222 => ?_)
              · refine zs_iconst (pc := 229) (v := (0 : Int32)) d_Mo_part_229 (by decide) ?_
                exact zs_zretc (pc := 230) d_Mo_part_230 rfl (by decide) (Nat.le_of_ble_eq_true rfl) (Nat.le_of_ble_eq_true rfl) rfl
              · refine zs_iconst (pc := 225) (v := (1 : Int32)) d_Mo_part_225 (by decide) ?_
                refine zs_goto (pc := 226) (tgt := 230) d_Mo_part_226 rfl ?_
                exact zs_zretc (pc := 230) d_Mo_part_230 rfl (by decide) (Nat.le_of_ble_eq_true rfl) (Nat.le_of_ble_eq_true rfl) rfl
        · refine zs_aload_n (pc := 154) (x := a0) d_Mo_part_154 rfl ?_
          refine zs_getR (pc := 155) d_Mo_part_155 kF_Mo_13 fun v155 => ?_
          refine zs_iload_n (pc := 158) (x := a1) d_Mo_part_158 rfl ?_
          refine zs_iald (t := 0) (pc := 159) d_Mo_part_159 rfl fun v159 => ?_
          refine zs_aload_n (pc := 160) (x := a0) d_Mo_part_160 rfl ?_
          refine zs_getR (pc := 161) d_Mo_part_161 kF_Mo_13 fun v161 => ?_
          refine zs_iload_n (pc := 164) (x := a3) d_Mo_part_164 rfl ?_
          refine zs_iald (t := 0) (pc := 165) d_Mo_part_165 rfl fun v165 => ?_
          refine zs_icmp_ne (pc := 166) (tgt := 183) d_Mo_part_166 rfl (fun q166 => ?_) (fun q166 => ?_)
          · refine zs_iconst (pc := 183) (v := (0 : Int32)) d_Mo_part_183 (by decide) ?_
            exact zs_zretc (pc := 184) d_Mo_part_184 rfl (by decide) (Nat.le_of_ble_eq_true rfl) (Nat.le_of_ble_eq_true rfl) rfl
          · refine zs_aload_n (pc := 169) (x := a0) d_Mo_part_169 rfl ?_
            refine zs_iload_n (pc := 170) (x := a1) d_Mo_part_170 rfl ?_
            refine zs_iload_n (pc := 171) (x := a2) d_Mo_part_171 rfl ?_
            refine zs_iload_n (pc := 172) (x := a3) d_Mo_part_172 rfl ?_
            refine zs_callv_wI (pc := 173) (av := [zI a1, zI a2, zI a3]) (st := []) (d' := 3) (C' := 0) (S' := 0) d_Mo_part_173 kV_Mo_276 z_okb (jm_Mo_ofRecord (d := 3) (Nat.le_refl _) fu a0 a1 a2 a3 H) (by omega) (Nat.le_of_ble_eq_true rfl) (Nat.le_of_ble_eq_true rfl) rfl rfl (Nat.le_of_ble_eq_true rfl) fun y173 => ?_
            refine zs_if_eq (pc := 176) (tgt := 183) d_Mo_part_176 rfl (fun q176 => ?_) (fun q176 => ?_)
            · refine zs_iconst (pc := 183) (v := (0 : Int32)) d_Mo_part_183 (by decide) ?_
              exact zs_zretc (pc := 184) d_Mo_part_184 rfl (by decide) (Nat.le_of_ble_eq_true rfl) (Nat.le_of_ble_eq_true rfl) rfl
            · refine zs_iconst (pc := 179) (v := (1 : Int32)) d_Mo_part_179 (by decide) ?_
              refine zs_goto (pc := 180) (tgt := 184) d_Mo_part_180 rfl ?_
              exact zs_zretc (pc := 184) d_Mo_part_184 rfl (by decide) (Nat.le_of_ble_eq_true rfl) (Nat.le_of_ble_eq_true rfl) rfl
      · refine zs_aload_n (pc := 109) (x := a0) d_Mo_part_109 rfl ?_
        refine zs_getR (pc := 110) d_Mo_part_110 kF_Mo_7 fun v110 => ?_
        refine zs_iload_n (pc := 113) (x := a1) d_Mo_part_113 rfl ?_
        refine zs_iald (t := 0) (pc := 114) d_Mo_part_114 rfl fun v114 => ?_
        refine zs_iconst (pc := 115) (v := (2 : Int32)) d_Mo_part_115 (by decide) ?_
        refine zs_icmp_ne (pc := 116) (tgt := 129) d_Mo_part_116 rfl (fun q116 => ?_) (fun q116 => ?_)
        · refine zs_iconst (pc := 129) (v := (0 : Int32)) d_Mo_part_129 (by decide) ?_
          exact zs_zretc (pc := 130) d_Mo_part_130 rfl (by decide) (Nat.le_of_ble_eq_true rfl) (Nat.le_of_ble_eq_true rfl) rfl
        · refine zs_aload_n (pc := 119) (x := a0) d_Mo_part_119 rfl ?_
          refine zs_getR (pc := 120) d_Mo_part_120 kF_Mo_7 fun v120 => ?_
          refine zs_iload_n (pc := 123) (x := a3) d_Mo_part_123 rfl ?_
          refine zs_iald (t := 0) (pc := 124) d_Mo_part_124 rfl fun v124 => ?_
          refine zs_iconst (pc := 125) (v := (3 : Int32)) d_Mo_part_125 (by decide) ?_
          refine zs_icmp_eq (pc := 126) (tgt := 131) d_Mo_part_126 rfl (fun q126 => ?_) (fun q126 => ?_)
          · refine zs_aload_n (pc := 131) (x := a0) d_Mo_part_131 rfl ?_
            refine zs_aload_n (pc := 132) (x := a0) d_Mo_part_132 rfl ?_
            refine zs_getR (pc := 133) d_Mo_part_133 kF_Mo_66 fun v133 => ?_
            refine zs_iload_n (pc := 136) (x := a2) d_Mo_part_136 rfl ?_
            refine zs_lald (t := 2) (pc := 137) d_Mo_part_137 rfl fun v137 => ?_
            refine zs_callv_wV (pc := 138) (av := [zL v137]) (st := []) (d' := 0) (C' := 0) (S' := 0) d_Mo_part_138 kV_Mo_273 z_okb (jm_Mo_give1 (d := 0) (Nat.le_refl _) a0 v137 H) (by omega) (Nat.le_of_ble_eq_true rfl) (Nat.le_of_ble_eq_true rfl) rfl rfl (Nat.le_of_ble_eq_true rfl) fun y138 => ?_
            refine zs_iconst (pc := 141) (v := (1 : Int32)) d_Mo_part_141 (by decide) ?_
            exact zs_zretc (pc := 142) d_Mo_part_142 rfl (by decide) (Nat.le_of_ble_eq_true rfl) (Nat.le_of_ble_eq_true rfl) rfl
          · refine zs_iconst (pc := 129) (v := (0 : Int32)) d_Mo_part_129 (by decide) ?_
            exact zs_zretc (pc := 130) d_Mo_part_130 rfl (by decide) (Nat.le_of_ble_eq_true rfl) (Nat.le_of_ble_eq_true rfl) rfl
    · refine zs_aload_n (pc := 58) (x := a0) d_Mo_part_58 rfl ?_
      refine zs_iload_n (pc := 59) (x := a3) d_Mo_part_59 rfl ?_
      refine zs_iload_n (pc := 60) (x := a1) d_Mo_part_60 rfl ?_
      refine zs_callv_rI (pc := 61) (av := [zI a3, zI a1]) (st := []) (d' := 0) (C' := 0) (S' := 0) d_Mo_part_61 kV_Mo_110 z_okb (jm_Mo_branch (d := 0) (Nat.le_refl _) a0 a3 a1 H) (by omega) (Nat.le_of_ble_eq_true rfl) (Nat.le_of_ble_eq_true rfl) rfl rfl (Nat.le_of_ble_eq_true rfl) fun y61 => ?_
      refine zs_istore (pc := 64) (lv' := [(4, zI y61), (0, zR a0), (1, zI a1), (2, zI a2), (3, zI a3)]) d_Mo_part_64 (Nat.le_of_ble_eq_true rfl) rfl ?_
      refine zs_iload (pc := 66) (x := y61) d_Mo_part_66 rfl ?_
      refine zs_if_ge (pc := 68) (tgt := 73) d_Mo_part_68 rfl (fun q68 => ?_) (fun q68 => ?_)
      · refine zs_aload_n (pc := 73) (x := a0) d_Mo_part_73 rfl ?_
        refine zs_iload (pc := 74) (x := y61) d_Mo_part_74 rfl ?_
        refine zs_i2l (pc := 76) d_Mo_part_76 ?_
        refine zs_callv_wV (pc := 77) (av := [zL y61.toInt64]) (st := []) (d' := 0) (C' := 0) (S' := 0) d_Mo_part_77 kV_Mo_273 z_okb (jm_Mo_give1 (d := 0) (Nat.le_refl _) a0 y61.toInt64 H) (by omega) (Nat.le_of_ble_eq_true rfl) (Nat.le_of_ble_eq_true rfl) rfl rfl (Nat.le_of_ble_eq_true rfl) fun y77 => ?_
        refine zs_aload_n (pc := 80) (x := a0) d_Mo_part_80 rfl ?_
        refine zs_iload_n (pc := 81) (x := a1) d_Mo_part_81 rfl ?_
        refine zs_iload_n (pc := 82) (x := a2) d_Mo_part_82 rfl ?_
        refine zs_aload_n (pc := 83) (x := a0) d_Mo_part_83 rfl ?_
        refine zs_iload_n (pc := 84) (x := a3) d_Mo_part_84 rfl ?_
        refine zs_iload_n (pc := 85) (x := a1) d_Mo_part_85 rfl ?_
        refine zs_callv_rI (pc := 86) (av := [zI a3, zI a1]) (st := [zI a2, zI a1, zR a0]) (d' := 1) (C' := 0) (S' := 0) d_Mo_part_86 kV_Mo_114 z_okb (jm_Mo_branchSchema (d := 1) (Nat.le_refl _) a0 a3 a1 y77) (by omega) (Nat.le_of_ble_eq_true rfl) (Nat.le_of_ble_eq_true rfl) rfl rfl (Nat.le_of_ble_eq_true rfl) fun y86 => ?_
        refine zs_callv_wV (pc := 89) (av := [zI a1, zI a2, zI y86]) (st := []) (d' := 0) (C' := 0) (S' := 0) d_Mo_part_89 kV_Mo_264 z_okb (jm_Mo_add (d := 0) (Nat.le_refl _) a0 a1 a2 y86 y77) (by omega) (Nat.le_of_ble_eq_true rfl) (Nat.le_of_ble_eq_true rfl) rfl rfl (Nat.le_of_ble_eq_true rfl) fun y89 => ?_
        refine zs_iconst (pc := 92) (v := (1 : Int32)) d_Mo_part_92 (by decide) ?_
        exact zs_zretc (pc := 93) d_Mo_part_93 rfl (by decide) (Nat.le_of_ble_eq_true rfl) (Nat.le_of_ble_eq_true rfl) rfl
      · refine zs_iconst (pc := 71) (v := (0 : Int32)) d_Mo_part_71 (by decide) ?_
        exact zs_zretc (pc := 72) d_Mo_part_72 rfl (by decide) (Nat.le_of_ble_eq_true rfl) (Nat.le_of_ble_eq_true rfl) rfl
  · refine zs_aload_n (pc := 11) (x := a0) d_Mo_part_11 rfl ?_
    refine zs_aload_n (pc := 12) (x := a0) d_Mo_part_12 rfl ?_
    refine zs_getR (pc := 13) d_Mo_part_13 kF_Mo_66 fun v13 => ?_
    refine zs_iload_n (pc := 16) (x := a2) d_Mo_part_16 rfl ?_
    refine zs_lald (t := 2) (pc := 17) d_Mo_part_17 rfl fun v17 => ?_
    refine zs_lconst (pc := 18) (v := (0 : Int64)) d_Mo_part_18 (by decide) ?_
    refine zs_lcmp_ne (pc := 19) (tgt := 32) d_Mo_part_19 d_Mo_part_20 rfl (fun q19 => ?_) (fun q19 => ?_)
    · refine zs_aload_n (pc := 32) (x := a0) d_Mo_part_32 rfl ?_
      refine zs_getR (pc := 33) d_Mo_part_33 kF_Mo_19 fun v33 => ?_
      refine zs_iload_n (pc := 36) (x := a1) d_Mo_part_36 rfl ?_
      refine zs_iald (t := 0) (pc := 37) d_Mo_part_37 rfl fun v37 => ?_
      refine zs_sub (lv' := [(2, zI a2), (3, zI a3)]) [2, 3] rfl ?_
      exact jj_Mo_part_38 hd fu v37 a0 a2 a3 H
    · refine zs_aload_n (pc := 23) (x := a0) d_Mo_part_23 rfl ?_
      refine zs_getR (pc := 24) d_Mo_part_24 kF_Mo_16 fun v24 => ?_
      refine zs_iload_n (pc := 27) (x := a1) d_Mo_part_27 rfl ?_
      refine zs_iald (t := 0) (pc := 28) d_Mo_part_28 rfl fun v28 => ?_
      refine zs_goto (pc := 29) (tgt := 38) d_Mo_part_29 rfl ?_
      refine zs_sub (lv' := [(2, zI a2), (3, zI a3)]) [2, 3] rfl ?_
      exact jj_Mo_part_38 hd fu v28 a0 a2 a3 H
def jL_Mo_resolve_17 (fu : Nat) : Nat → Option Nat → zH → Option (Int32 × zH)
  | 0, _, _ => none
  | g + 1, a0, H =>
    (zgI H a0 1 34).bind fun v18 =>
    if v18 ≤ 0 then (
      (zgI H a0 1 35).bind fun v108 =>
      some (v108, H))
    else (
      (zgI H a0 1 34).bind fun v26 =>
      (zpV H a0 1 34 (zI (v26 - (1 : Int32)))).bind fun H31 =>
      (zgR H31 a0 1 32).bind fun v35 =>
      (zgI H31 a0 1 34).bind fun v40 =>
      (zaI H31 v35 0 ((3 : Int32) * v40)).bind fun v44 =>
      (zgR H31 a0 1 32).bind fun v47 =>
      (zgI H31 a0 1 34).bind fun v52 =>
      (zaI H31 v47 0 (((3 : Int32) * v52) + (1 : Int32))).bind fun v58 =>
      (zgR H31 a0 1 32).bind fun v62 =>
      (zgI H31 a0 1 34).bind fun v67 =>
      (zaI H31 v62 0 (((3 : Int32) * v67) + (2 : Int32))).bind fun v73 =>
      if 0 ≤ v44 then (
        (jF_Mo_part fu a0 v44 v58 v73 H31).bind fun y95 =>
        if y95.1 = 0 then (
          some ((-2 : Int32), y95.2))
        else (
          jL_Mo_resolve_17 fu g a0 y95.2))
      else (
        (jF_Mo_defaults a0 v73 H31).bind fun y83 =>
        jL_Mo_resolve_17 fu g a0 y83))
def jF_Mo_resolve (fu : Nat) (a0 : Option Nat) (a1 : Int32) (a2 : Int32) (H : zH) : Option (Int32 × zH) :=
  (zok H a0 1).bind fun _ =>
  (zpV H a0 1 34 (zI (0 : Int32))).bind fun H2 =>
  (zpV H2 a0 1 35 (zI (0 : Int32))).bind fun H7 =>
  (jF_Mo_add a0 a1 (0 : Int32) a2 H7).bind fun y14 =>
  jL_Mo_resolve_17 fu fu a0 y14
theorem jl_Mo_resolve_17 {E : zE} {d : Nat} (hd : 5 ≤ d) (fu : Nat) : ∀ (g : Nat), ∀ (a0 : Option Nat) (H : zH), z_S E jM_Mo_resolve d 0 0 zwI 17 [(0, zR a0)] [] H 0 0 (jL_Mo_resolve_17 fu g a0 H) := by
  intro g
  induction g with
  | zero => intros; exact zs_none
  | succ g ih =>
    intro a0 H
    rw [jL_Mo_resolve_17]
    refine zs_aload_n (pc := 17) (x := a0) d_Mo_resolve_17 rfl ?_
    refine zs_getI (pc := 18) d_Mo_resolve_18 kF_Mo_258 fun v18 => ?_
    refine zs_if_le (pc := 21) (tgt := 107) d_Mo_resolve_21 rfl (fun q21 => ?_) (fun q21 => ?_)
    · refine zs_aload_n (pc := 107) (x := a0) d_Mo_resolve_107 rfl ?_
      refine zs_getI (pc := 108) d_Mo_resolve_108 kF_Mo_261 fun v108 => ?_
      exact zs_iret (pc := 111) d_Mo_resolve_111 rfl (Nat.le_of_ble_eq_true rfl) (Nat.le_of_ble_eq_true rfl) rfl
    · refine zs_aload_n (pc := 24) (x := a0) d_Mo_resolve_24 rfl ?_
      refine zs_dup (pc := 25) d_Mo_resolve_25 rfl ?_
      refine zs_getI (pc := 26) d_Mo_resolve_26 kF_Mo_258 fun v26 => ?_
      refine zs_iconst (pc := 29) (v := (1 : Int32)) d_Mo_resolve_29 (by decide) ?_
      refine zs_isub (pc := 30) d_Mo_resolve_30 ?_
      refine zs_put (pc := 31) d_Mo_resolve_31 kP_Mo_258 z_fitI fun H31 => ?_
      refine zs_aload_n (pc := 34) (x := a0) d_Mo_resolve_34 rfl ?_
      refine zs_getR (pc := 35) d_Mo_resolve_35 kF_Mo_72 fun v35 => ?_
      refine zs_iconst (pc := 38) (v := (3 : Int32)) d_Mo_resolve_38 (by decide) ?_
      refine zs_aload_n (pc := 39) (x := a0) d_Mo_resolve_39 rfl ?_
      refine zs_getI (pc := 40) d_Mo_resolve_40 kF_Mo_258 fun v40 => ?_
      refine zs_imul (pc := 43) d_Mo_resolve_43 ?_
      refine zs_iald (t := 0) (pc := 44) d_Mo_resolve_44 rfl fun v44 => ?_
      refine zs_istore_n (pc := 45) (lv' := [(3, zI v44), (0, zR a0)]) d_Mo_resolve_45 (Nat.le_of_ble_eq_true rfl) rfl ?_
      refine zs_aload_n (pc := 46) (x := a0) d_Mo_resolve_46 rfl ?_
      refine zs_getR (pc := 47) d_Mo_resolve_47 kF_Mo_72 fun v47 => ?_
      refine zs_iconst (pc := 50) (v := (3 : Int32)) d_Mo_resolve_50 (by decide) ?_
      refine zs_aload_n (pc := 51) (x := a0) d_Mo_resolve_51 rfl ?_
      refine zs_getI (pc := 52) d_Mo_resolve_52 kF_Mo_258 fun v52 => ?_
      refine zs_imul (pc := 55) d_Mo_resolve_55 ?_
      refine zs_iconst (pc := 56) (v := (1 : Int32)) d_Mo_resolve_56 (by decide) ?_
      refine zs_iadd (pc := 57) d_Mo_resolve_57 ?_
      refine zs_iald (t := 0) (pc := 58) d_Mo_resolve_58 rfl fun v58 => ?_
      refine zs_istore (pc := 59) (lv' := [(4, zI v58), (3, zI v44), (0, zR a0)]) d_Mo_resolve_59 (Nat.le_of_ble_eq_true rfl) rfl ?_
      refine zs_aload_n (pc := 61) (x := a0) d_Mo_resolve_61 rfl ?_
      refine zs_getR (pc := 62) d_Mo_resolve_62 kF_Mo_72 fun v62 => ?_
      refine zs_iconst (pc := 65) (v := (3 : Int32)) d_Mo_resolve_65 (by decide) ?_
      refine zs_aload_n (pc := 66) (x := a0) d_Mo_resolve_66 rfl ?_
      refine zs_getI (pc := 67) d_Mo_resolve_67 kF_Mo_258 fun v67 => ?_
      refine zs_imul (pc := 70) d_Mo_resolve_70 ?_
      refine zs_iconst (pc := 71) (v := (2 : Int32)) d_Mo_resolve_71 (by decide) ?_
      refine zs_iadd (pc := 72) d_Mo_resolve_72 ?_
      refine zs_iald (t := 0) (pc := 73) d_Mo_resolve_73 rfl fun v73 => ?_
      refine zs_istore (pc := 74) (lv' := [(5, zI v73), (4, zI v58), (3, zI v44), (0, zR a0)]) d_Mo_resolve_74 (Nat.le_of_ble_eq_true rfl) rfl ?_
      refine zs_iload_n (pc := 76) (x := v44) d_Mo_resolve_76 rfl ?_
      refine zs_if_ge (pc := 77) (tgt := 89) d_Mo_resolve_77 rfl (fun q77 => ?_) (fun q77 => ?_)
      · refine zs_aload_n (pc := 89) (x := a0) d_Mo_resolve_89 rfl ?_
        refine zs_iload_n (pc := 90) (x := v44) d_Mo_resolve_90 rfl ?_
        refine zs_iload (pc := 91) (x := v58) d_Mo_resolve_91 rfl ?_
        refine zs_iload (pc := 93) (x := v73) d_Mo_resolve_93 rfl ?_
        refine zs_callv_wI (pc := 95) (av := [zI v44, zI v58, zI v73]) (st := []) (d' := 4) (C' := 0) (S' := 0) d_Mo_resolve_95 kV_Mo_270 z_okb (jm_Mo_part (d := 4) (Nat.le_refl _) fu a0 v44 v58 v73 H31) (by omega) (Nat.le_of_ble_eq_true rfl) (Nat.le_of_ble_eq_true rfl) rfl rfl (Nat.le_of_ble_eq_true rfl) fun y95 => ?_
        refine zs_if_ne (pc := 98) (tgt := 104) d_Mo_resolve_98 rfl (fun q98 => ?_) (fun q98 => ?_)
        · refine zs_goto (pc := 104) (tgt := 17) d_Mo_resolve_104 rfl ?_
          refine zs_sub (lv' := [(0, zR a0)]) [3] rfl ?_
          exact ih a0 y95.2
        · refine zs_bipush (pc := 101) (v := (-2 : Int32)) d_Mo_resolve_101 (by decide) ?_
          exact zs_iret (pc := 103) d_Mo_resolve_103 rfl (Nat.le_of_ble_eq_true rfl) (Nat.le_of_ble_eq_true rfl) rfl
      · refine zs_aload_n (pc := 80) (x := a0) d_Mo_resolve_80 rfl ?_
        refine zs_iload (pc := 81) (x := v73) d_Mo_resolve_81 rfl ?_
        refine zs_callv_wV (pc := 83) (av := [zI v73]) (st := []) (d' := 1) (C' := 0) (S' := 0) d_Mo_resolve_83 kV_Mo_267 z_okb (jm_Mo_defaults (d := 1) (Nat.le_refl _) a0 v73 H31) (by omega) (Nat.le_of_ble_eq_true rfl) (Nat.le_of_ble_eq_true rfl) rfl rfl (Nat.le_of_ble_eq_true rfl) fun y83 => ?_
        refine zs_goto (pc := 86) (tgt := 104) d_Mo_resolve_86 rfl ?_
        refine zs_goto (pc := 104) (tgt := 17) d_Mo_resolve_104 rfl ?_
        refine zs_sub (lv' := [(0, zR a0)]) [3] rfl ?_
        exact ih a0 y83
theorem jm_Mo_resolve {E : zE} {d : Nat} (hd : 5 ≤ d) (fu : Nat) (a0 : Option Nat) (a1 : Int32) (a2 : Int32) (H : zH) : z_MS E jM_Mo_resolve d 0 0 zwI [zR a0, zI a1, zI a2] H (jF_Mo_resolve fu a0 a1 a2 H) := by
  refine zs_of (lv0 := [(0, zR a0), (1, zI a1), (2, zI a2)]) pn_Mo (Nat.le_of_ble_eq_true rfl) rfl ?_
  unfold jF_Mo_resolve
  refine zs_bind fun _ _ => ?_
  refine zs_aload_n (pc := 0) (x := a0) d_Mo_resolve_0 rfl ?_
  refine zs_iconst (pc := 1) (v := (0 : Int32)) d_Mo_resolve_1 (by decide) ?_
  refine zs_put (pc := 2) d_Mo_resolve_2 kP_Mo_258 z_fitI fun H2 => ?_
  refine zs_aload_n (pc := 5) (x := a0) d_Mo_resolve_5 rfl ?_
  refine zs_iconst (pc := 6) (v := (0 : Int32)) d_Mo_resolve_6 (by decide) ?_
  refine zs_put (pc := 7) d_Mo_resolve_7 kP_Mo_261 z_fitI fun H7 => ?_
  refine zs_aload_n (pc := 10) (x := a0) d_Mo_resolve_10 rfl ?_
  refine zs_iload_n (pc := 11) (x := a1) d_Mo_resolve_11 rfl ?_
  refine zs_iconst (pc := 12) (v := (0 : Int32)) d_Mo_resolve_12 (by decide) ?_
  refine zs_iload_n (pc := 13) (x := a2) d_Mo_resolve_13 rfl ?_
  refine zs_callv_wV (pc := 14) (av := [zI a1, zI (0 : Int32), zI a2]) (st := []) (d' := 0) (C' := 0) (S' := 0) d_Mo_resolve_14 kV_Mo_264 z_okb (jm_Mo_add (d := 0) (Nat.le_refl _) a0 a1 (0 : Int32) a2 H7) (by omega) (Nat.le_of_ble_eq_true rfl) (Nat.le_of_ble_eq_true rfl) rfl rfl (Nat.le_of_ble_eq_true rfl) fun y14 => ?_
  refine zs_sub (lv' := [(0, zR a0)]) [0] rfl ?_
  exact jl_Mo_resolve_17 hd fu fu a0 y14
def jJ_Mo_read_90 (fu : Nat) (s0 : Int32) (s1 : Option Nat) (a5 : Int32) (H : zH) : Option (Int32 × zH) :=
  (zpV H s1 1 26 (zI s0)).bind fun H90 =>
  if a5 ≤ (40 : Int32) then (
    some (a5, H90))
  else (
    some ((-3 : Int32), H90))
def jJ_Mo_read_84 (fu : Nat) (s0 : Option Nat) (a5 : Int32) (H : zH) : Option (Int32 × zH) :=
  jJ_Mo_read_90 fu (0 : Int32) s0 a5 H
def jF_Mo_read (fu : Nat) (a0 : Option Nat) (a1 : Int32) (a2 : Int32) (a3 : Int32) (H : zH) : Option (Int32 × zH) :=
  (zok H a0 1).bind fun _ =>
  (zgI H a0 1 16).bind fun v1 =>
  if v1 = 0 then (
    (zpV H a0 1 26 (zI (0 : Int32))).bind fun H12 =>
    (jF_Mo_noSubject a1 H12).bind fun y16 =>
    if y16 = 0 then (
      (jF_Mo_noSchema a0 a3 H12).bind fun y24 =>
      if y24 = 0 then (
        (jF_Mo_registered fu a0 a1 a3 H12).bind fun y33 =>
        if y33 = 0 then (
          some ((-1 : Int32), H12))
        else (
          if a2 < 0 then (
            some ((-1 : Int32), H12))
          else (
            (jF_Mo_records fu a0 a1 H12).bind fun y46 =>
            if a2 < y46 then (
              (jF_Mo_fetch fu a0 a1 a2 H12).bind fun y57 =>
              (jF_Mo_resolve fu a0 y57.1 a3 y57.2).bind fun y66 =>
              if (40 : Int32) < y66.1 then (
                jJ_Mo_read_84 fu a0 y66.1 y66.2)
              else (
                if 0 ≤ y66.1 then (
                  jJ_Mo_read_90 fu y66.1 a0 y66.1 y66.2)
                else (
                  jJ_Mo_read_84 fu a0 y66.1 y66.2)))
            else (
              some ((-1 : Int32), H12)))))
      else (
        some ((-1 : Int32), H12)))
    else (
      some ((-1 : Int32), H12)))
  else (
    some ((-4 : Int32), H))
theorem jj_Mo_read_90 {E : zE} {d : Nat} (hd : 6 ≤ d) (fu : Nat) : ∀ (s0 : Int32) (s1 : Option Nat) (a5 : Int32) (H : zH), z_S E jM_Mo_read d 0 0 zwI 90 [(5, zI a5)] [zI s0, zR s1] H 0 0 (jJ_Mo_read_90 fu s0 s1 a5 H) := by
  intro s0 s1 a5 H
  unfold jJ_Mo_read_90
  refine zs_put (pc := 90) d_Mo_read_90 kP_Mo_177 z_fitI fun H90 => ?_
  refine zs_iload (pc := 93) (x := a5) d_Mo_read_93 rfl ?_
  refine zs_bipush (pc := 95) (v := (40 : Int32)) d_Mo_read_95 (by decide) ?_
  refine zs_icmp_le (pc := 97) (tgt := 105) d_Mo_read_97 rfl (fun q97 => ?_) (fun q97 => ?_)
  · refine zs_iload (pc := 105) (x := a5) d_Mo_read_105 rfl ?_
    exact zs_iret (pc := 107) d_Mo_read_107 rfl (Nat.le_of_ble_eq_true rfl) (Nat.le_of_ble_eq_true rfl) rfl
  · refine zs_bipush (pc := 100) (v := (-3 : Int32)) d_Mo_read_100 (by decide) ?_
    refine zs_goto (pc := 102) (tgt := 107) d_Mo_read_102 rfl ?_
    exact zs_iret (pc := 107) d_Mo_read_107 rfl (Nat.le_of_ble_eq_true rfl) (Nat.le_of_ble_eq_true rfl) rfl
theorem jj_Mo_read_84 {E : zE} {d : Nat} (hd : 6 ≤ d) (fu : Nat) : ∀ (s0 : Option Nat) (a5 : Int32) (H : zH), z_S E jM_Mo_read d 0 0 zwI 84 [(5, zI a5)] [zR s0] H 0 0 (jJ_Mo_read_84 fu s0 a5 H) := by
  intro s0 a5 H
  unfold jJ_Mo_read_84
  refine zs_iconst (pc := 84) (v := (0 : Int32)) d_Mo_read_84 (by decide) ?_
  refine zs_goto (pc := 85) (tgt := 90) d_Mo_read_85 rfl ?_
  exact jj_Mo_read_90 hd fu (0 : Int32) s0 a5 H
theorem jm_Mo_read {E : zE} {d : Nat} (hd : 6 ≤ d) (fu : Nat) (a0 : Option Nat) (a1 : Int32) (a2 : Int32) (a3 : Int32) (H : zH) : z_MS E jM_Mo_read d 0 0 zwI [zR a0, zI a1, zI a2, zI a3] H (jF_Mo_read fu a0 a1 a2 a3 H) := by
  refine zs_of (lv0 := [(0, zR a0), (1, zI a1), (2, zI a2), (3, zI a3)]) pn_Mo (Nat.le_of_ble_eq_true rfl) rfl ?_
  unfold jF_Mo_read
  refine zs_bind fun _ _ => ?_
  refine zs_aload_n (pc := 0) (x := a0) d_Mo_read_0 rfl ?_
  refine zs_getI (pc := 1) d_Mo_read_1 kF_Mo_165 fun v1 => ?_
  refine zs_if_eq (pc := 4) (tgt := 10) d_Mo_read_4 rfl (fun q4 => ?_) (fun q4 => ?_)
  · refine zs_aload_n (pc := 10) (x := a0) d_Mo_read_10 rfl ?_
    refine zs_iconst (pc := 11) (v := (0 : Int32)) d_Mo_read_11 (by decide) ?_
    refine zs_put (pc := 12) d_Mo_read_12 kP_Mo_177 z_fitI fun H12 => ?_
    refine zs_iload_n (pc := 15) (x := a1) d_Mo_read_15 rfl ?_
    refine zs_calls_rI (pc := 16) (av := [zI a1]) (st := []) (d' := 0) (C' := 0) (S' := 0) d_Mo_read_16 kS_Mo_193 (jm_Mo_noSubject (d := 0) (Nat.le_refl _) a1 H12) (by omega) (Nat.le_of_ble_eq_true rfl) (Nat.le_of_ble_eq_true rfl) rfl rfl (Nat.le_of_ble_eq_true rfl) fun y16 => ?_
    refine zs_if_ne (pc := 19) (tgt := 52) d_Mo_read_19 rfl (fun q19 => ?_) (fun q19 => ?_)
    · refine zs_iconst (pc := 52) (v := (-1 : Int32)) d_Mo_read_52 (by decide) ?_
      exact zs_iret (pc := 53) d_Mo_read_53 rfl (Nat.le_of_ble_eq_true rfl) (Nat.le_of_ble_eq_true rfl) rfl
    · refine zs_aload_n (pc := 22) (x := a0) d_Mo_read_22 rfl ?_
      refine zs_iload_n (pc := 23) (x := a3) d_Mo_read_23 rfl ?_
      refine zs_callv_rI (pc := 24) (av := [zI a3]) (st := []) (d' := 0) (C' := 0) (S' := 0) d_Mo_read_24 kV_Mo_92 z_okb (jm_Mo_noSchema (d := 0) (Nat.le_refl _) a0 a3 H12) (by omega) (Nat.le_of_ble_eq_true rfl) (Nat.le_of_ble_eq_true rfl) rfl rfl (Nat.le_of_ble_eq_true rfl) fun y24 => ?_
      refine zs_if_ne (pc := 27) (tgt := 52) d_Mo_read_27 rfl (fun q27 => ?_) (fun q27 => ?_)
      · refine zs_iconst (pc := 52) (v := (-1 : Int32)) d_Mo_read_52 (by decide) ?_
        exact zs_iret (pc := 53) d_Mo_read_53 rfl (Nat.le_of_ble_eq_true rfl) (Nat.le_of_ble_eq_true rfl) rfl
      · refine zs_aload_n (pc := 30) (x := a0) d_Mo_read_30 rfl ?_
        refine zs_iload_n (pc := 31) (x := a1) d_Mo_read_31 rfl ?_
        refine zs_iload_n (pc := 32) (x := a3) d_Mo_read_32 rfl ?_
        refine zs_callv_rI (pc := 33) (av := [zI a1, zI a3]) (st := []) (d' := 0) (C' := 0) (S' := 0) d_Mo_read_33 kV_Mo_196 z_okb (jm_Mo_registered (d := 0) (Nat.le_refl _) fu a0 a1 a3 H12) (by omega) (Nat.le_of_ble_eq_true rfl) (Nat.le_of_ble_eq_true rfl) rfl rfl (Nat.le_of_ble_eq_true rfl) fun y33 => ?_
        refine zs_if_eq (pc := 36) (tgt := 52) d_Mo_read_36 rfl (fun q36 => ?_) (fun q36 => ?_)
        · refine zs_iconst (pc := 52) (v := (-1 : Int32)) d_Mo_read_52 (by decide) ?_
          exact zs_iret (pc := 53) d_Mo_read_53 rfl (Nat.le_of_ble_eq_true rfl) (Nat.le_of_ble_eq_true rfl) rfl
        · refine zs_iload_n (pc := 39) (x := a2) d_Mo_read_39 rfl ?_
          refine zs_if_lt (pc := 40) (tgt := 52) d_Mo_read_40 rfl (fun q40 => ?_) (fun q40 => ?_)
          · refine zs_iconst (pc := 52) (v := (-1 : Int32)) d_Mo_read_52 (by decide) ?_
            exact zs_iret (pc := 53) d_Mo_read_53 rfl (Nat.le_of_ble_eq_true rfl) (Nat.le_of_ble_eq_true rfl) rfl
          · refine zs_iload_n (pc := 43) (x := a2) d_Mo_read_43 rfl ?_
            refine zs_aload_n (pc := 44) (x := a0) d_Mo_read_44 rfl ?_
            refine zs_iload_n (pc := 45) (x := a1) d_Mo_read_45 rfl ?_
            refine zs_callv_rI (pc := 46) (av := [zI a1]) (st := [zI a2]) (d' := 2) (C' := 0) (S' := 0) d_Mo_read_46 kV_Mo_228 z_okb (jm_Mo_records (d := 2) (Nat.le_refl _) fu a0 a1 H12) (by omega) (Nat.le_of_ble_eq_true rfl) (Nat.le_of_ble_eq_true rfl) rfl rfl (Nat.le_of_ble_eq_true rfl) fun y46 => ?_
            refine zs_icmp_lt (pc := 49) (tgt := 54) d_Mo_read_49 rfl (fun q49 => ?_) (fun q49 => ?_)
            · refine zs_aload_n (pc := 54) (x := a0) d_Mo_read_54 rfl ?_
              refine zs_iload_n (pc := 55) (x := a1) d_Mo_read_55 rfl ?_
              refine zs_iload_n (pc := 56) (x := a2) d_Mo_read_56 rfl ?_
              refine zs_callv_wI (pc := 57) (av := [zI a1, zI a2]) (st := []) (d' := 3) (C' := 0) (S' := 0) d_Mo_read_57 kV_Mo_252 z_okb (jm_Mo_fetch (d := 3) (Nat.le_refl _) fu a0 a1 a2 H12) (by omega) (Nat.le_of_ble_eq_true rfl) (Nat.le_of_ble_eq_true rfl) rfl rfl (Nat.le_of_ble_eq_true rfl) fun y57 => ?_
              refine zs_istore (pc := 60) (lv' := [(4, zI y57.1), (0, zR a0), (1, zI a1), (2, zI a2), (3, zI a3)]) d_Mo_read_60 (Nat.le_of_ble_eq_true rfl) rfl ?_
              refine zs_aload_n (pc := 62) (x := a0) d_Mo_read_62 rfl ?_
              refine zs_iload (pc := 63) (x := y57.1) d_Mo_read_63 rfl ?_
              refine zs_iload_n (pc := 65) (x := a3) d_Mo_read_65 rfl ?_
              refine zs_callv_wI (pc := 66) (av := [zI y57.1, zI a3]) (st := []) (d' := 5) (C' := 0) (S' := 0) d_Mo_read_66 kV_Mo_255 z_okb (jm_Mo_resolve (d := 5) (Nat.le_refl _) fu a0 y57.1 a3 y57.2) (by omega) (Nat.le_of_ble_eq_true rfl) (Nat.le_of_ble_eq_true rfl) rfl rfl (Nat.le_of_ble_eq_true rfl) fun y66 => ?_
              refine zs_istore (pc := 69) (lv' := [(5, zI y66.1), (4, zI y57.1), (0, zR a0), (1, zI a1), (2, zI a2), (3, zI a3)]) d_Mo_read_69 (Nat.le_of_ble_eq_true rfl) rfl ?_
              refine zs_aload_n (pc := 71) (x := a0) d_Mo_read_71 rfl ?_
              refine zs_iload (pc := 72) (x := y66.1) d_Mo_read_72 rfl ?_
              refine zs_bipush (pc := 74) (v := (40 : Int32)) d_Mo_read_74 (by decide) ?_
              refine zs_icmp_gt (pc := 76) (tgt := 84) d_Mo_read_76 rfl (fun q76 => ?_) (fun q76 => ?_)
              · refine zs_sub (lv' := [(5, zI y66.1)]) [0] rfl ?_
                exact jj_Mo_read_84 hd fu a0 y66.1 y66.2
              · refine zs_iload (pc := 79) (x := y66.1) d_Mo_read_79 rfl ?_
                refine zs_if_ge (pc := 81) (tgt := 88) d_Mo_read_81 rfl (fun q81 => ?_) (fun q81 => ?_)
                · refine zs_iload (pc := 88) (x := y66.1) d_Mo_read_88 rfl ?_
                  refine zs_sub (lv' := [(5, zI y66.1)]) [0] rfl ?_
                  exact jj_Mo_read_90 hd fu y66.1 a0 y66.1 y66.2
                · refine zs_sub (lv' := [(5, zI y66.1)]) [0] rfl ?_
                  exact jj_Mo_read_84 hd fu a0 y66.1 y66.2
            · refine zs_iconst (pc := 52) (v := (-1 : Int32)) d_Mo_read_52 (by decide) ?_
              exact zs_iret (pc := 53) d_Mo_read_53 rfl (Nat.le_of_ble_eq_true rfl) (Nat.le_of_ble_eq_true rfl) rfl
  · refine zs_bipush (pc := 7) (v := (-4 : Int32)) d_Mo_read_7 (by decide) ?_
    exact zs_iret (pc := 9) d_Mo_read_9 rfl (Nat.le_of_ble_eq_true rfl) (Nat.le_of_ble_eq_true rfl) rfl
def jF_Mo_number (a0 : Option Nat) (a1 : Int32) (H : zH) : Option Int64 :=
  (zok H a0 1).bind fun _ =>
  if a1 < 0 then (
    some (0 : Int64))
  else (
    (zgI H a0 1 26).bind fun v6 =>
    if v6 ≤ a1 then (
      some (0 : Int64))
    else (
      (zgR H a0 1 25).bind fun v13 =>
      (zaL H v13 2 a1).bind fun v17 =>
      some v17))
theorem jm_Mo_number {E : zE} {d : Nat} (hd : 0 ≤ d) (a0 : Option Nat) (a1 : Int32) (H : zH) : z_MS E jM_Mo_number d 0 0 (zrL H) [zR a0, zI a1] H (jF_Mo_number a0 a1 H) := by
  refine zs_of (lv0 := [(0, zR a0), (1, zI a1)]) pn_Mo (Nat.le_of_ble_eq_true rfl) rfl ?_
  unfold jF_Mo_number
  refine zs_bind fun _ _ => ?_
  refine zs_iload_n (pc := 0) (x := a1) d_Mo_number_0 rfl ?_
  refine zs_if_lt (pc := 1) (tgt := 21) d_Mo_number_1 rfl (fun q1 => ?_) (fun q1 => ?_)
  · refine zs_lconst (pc := 21) (v := (0 : Int64)) d_Mo_number_21 (by decide) ?_
    exact zs_lret (pc := 22) d_Mo_number_22 rfl (Nat.le_of_ble_eq_true rfl) (Nat.le_of_ble_eq_true rfl) rfl
  · refine zs_iload_n (pc := 4) (x := a1) d_Mo_number_4 rfl ?_
    refine zs_aload_n (pc := 5) (x := a0) d_Mo_number_5 rfl ?_
    refine zs_getI (pc := 6) d_Mo_number_6 kF_Mo_177 fun v6 => ?_
    refine zs_icmp_ge (pc := 9) (tgt := 21) d_Mo_number_9 rfl (fun q9 => ?_) (fun q9 => ?_)
    · refine zs_lconst (pc := 21) (v := (0 : Int64)) d_Mo_number_21 (by decide) ?_
      exact zs_lret (pc := 22) d_Mo_number_22 rfl (Nat.le_of_ble_eq_true rfl) (Nat.le_of_ble_eq_true rfl) rfl
    · refine zs_aload_n (pc := 12) (x := a0) d_Mo_number_12 rfl ?_
      refine zs_getR (pc := 13) d_Mo_number_13 kF_Mo_57 fun v13 => ?_
      refine zs_iload_n (pc := 16) (x := a1) d_Mo_number_16 rfl ?_
      refine zs_lald (t := 2) (pc := 17) d_Mo_number_17 rfl fun v17 => ?_
      refine zs_goto (pc := 18) (tgt := 22) d_Mo_number_18 rfl ?_
      exact zs_lret (pc := 22) d_Mo_number_22 rfl (Nat.le_of_ble_eq_true rfl) (Nat.le_of_ble_eq_true rfl) rfl
def jJ_Mo_octet_20 (H : zH)  : Option Int32 :=
  some (-1 : Int32)
def jF_Mo_octet (a0 : Option Nat) (a1 : Int32) (a2 : Int32) (H : zH) : Option Int32 :=
  (zok H a0 1).bind fun _ =>
  if a1 < 0 then (
    jJ_Mo_octet_20 H)
  else (
    if (39 : Int32) < a1 then (
      jJ_Mo_octet_20 H)
    else (
      if a2 < 0 then (
        jJ_Mo_octet_20 H)
      else (
        if a2 ≤ (31 : Int32) then (
          (zgR H a0 1 14).bind fun v25 =>
          (zaI H v25 0 (((32 : Int32) * a1) + a2)).bind fun v34 =>
          some v34)
        else (
          jJ_Mo_octet_20 H))))
theorem jj_Mo_octet_20 {E : zE} {d : Nat} (hd : 0 ≤ d) (H : zH) : z_S E jM_Mo_octet d 0 0 (zrI H) 20 [] [] H 0 0 (jJ_Mo_octet_20 H) := by
  unfold jJ_Mo_octet_20
  refine zs_iconst (pc := 20) (v := (-1 : Int32)) d_Mo_octet_20 (by decide) ?_
  refine zs_goto (pc := 21) (tgt := 35) d_Mo_octet_21 rfl ?_
  exact zs_iret (pc := 35) d_Mo_octet_35 rfl (Nat.le_of_ble_eq_true rfl) (Nat.le_of_ble_eq_true rfl) rfl
theorem jm_Mo_octet {E : zE} {d : Nat} (hd : 0 ≤ d) (a0 : Option Nat) (a1 : Int32) (a2 : Int32) (H : zH) : z_MS E jM_Mo_octet d 0 0 (zrI H) [zR a0, zI a1, zI a2] H (jF_Mo_octet a0 a1 a2 H) := by
  refine zs_of (lv0 := [(0, zR a0), (1, zI a1), (2, zI a2)]) pn_Mo (Nat.le_of_ble_eq_true rfl) rfl ?_
  unfold jF_Mo_octet
  refine zs_bind fun _ _ => ?_
  refine zs_iload_n (pc := 0) (x := a1) d_Mo_octet_0 rfl ?_
  refine zs_if_lt (pc := 1) (tgt := 20) d_Mo_octet_1 rfl (fun q1 => ?_) (fun q1 => ?_)
  · refine zs_sub (lv' := []) [] rfl ?_
    exact jj_Mo_octet_20 hd H
  · refine zs_iload_n (pc := 4) (x := a1) d_Mo_octet_4 rfl ?_
    refine zs_bipush (pc := 5) (v := (39 : Int32)) d_Mo_octet_5 (by decide) ?_
    refine zs_icmp_gt (pc := 7) (tgt := 20) d_Mo_octet_7 rfl (fun q7 => ?_) (fun q7 => ?_)
    · refine zs_sub (lv' := []) [] rfl ?_
      exact jj_Mo_octet_20 hd H
    · refine zs_iload_n (pc := 10) (x := a2) d_Mo_octet_10 rfl ?_
      refine zs_if_lt (pc := 11) (tgt := 20) d_Mo_octet_11 rfl (fun q11 => ?_) (fun q11 => ?_)
      · refine zs_sub (lv' := []) [] rfl ?_
        exact jj_Mo_octet_20 hd H
      · refine zs_iload_n (pc := 14) (x := a2) d_Mo_octet_14 rfl ?_
        refine zs_bipush (pc := 15) (v := (31 : Int32)) d_Mo_octet_15 (by decide) ?_
        refine zs_icmp_le (pc := 17) (tgt := 24) d_Mo_octet_17 rfl (fun q17 => ?_) (fun q17 => ?_)
        · refine zs_aload_n (pc := 24) (x := a0) d_Mo_octet_24 rfl ?_
          refine zs_getR (pc := 25) d_Mo_octet_25 kF_Mo_48 fun v25 => ?_
          refine zs_bipush (pc := 28) (v := (32 : Int32)) d_Mo_octet_28 (by decide) ?_
          refine zs_iload_n (pc := 30) (x := a1) d_Mo_octet_30 rfl ?_
          refine zs_imul (pc := 31) d_Mo_octet_31 ?_
          refine zs_iload_n (pc := 32) (x := a2) d_Mo_octet_32 rfl ?_
          refine zs_iadd (pc := 33) d_Mo_octet_33 ?_
          refine zs_iald (t := 0) (pc := 34) d_Mo_octet_34 rfl fun v34 => ?_
          exact zs_iret (pc := 35) d_Mo_octet_35 rfl (Nat.le_of_ble_eq_true rfl) (Nat.le_of_ble_eq_true rfl) rfl
        · refine zs_sub (lv' := []) [] rfl ?_
          exact jj_Mo_octet_20 hd H
def jF_Mo_limit (a0 : Option Nat) (a1 : Int32) (H : zH) : Option (Int32 × zH) :=
  (zok H a0 1).bind fun _ =>
  (zgI H a0 1 16).bind fun v1 =>
  if v1 = 0 then (
    if 0 ≤ a1 then (
      (zpZ H a0 1 17 (1 : Int32)).bind fun H18 =>
      (zpV H18 a0 1 18 (zI a1)).bind fun H23 =>
      some ((0 : Int32), H23))
    else (
      some ((-1 : Int32), H)))
  else (
    some ((-4 : Int32), H))
theorem jm_Mo_limit {E : zE} {d : Nat} (hd : 0 ≤ d) (a0 : Option Nat) (a1 : Int32) (H : zH) : z_MS E jM_Mo_limit d 0 0 zwI [zR a0, zI a1] H (jF_Mo_limit a0 a1 H) := by
  refine zs_of (lv0 := [(0, zR a0), (1, zI a1)]) pn_Mo (Nat.le_of_ble_eq_true rfl) rfl ?_
  unfold jF_Mo_limit
  refine zs_bind fun _ _ => ?_
  refine zs_aload_n (pc := 0) (x := a0) d_Mo_limit_0 rfl ?_
  refine zs_getI (pc := 1) d_Mo_limit_1 kF_Mo_165 fun v1 => ?_
  refine zs_if_eq (pc := 4) (tgt := 10) d_Mo_limit_4 rfl (fun q4 => ?_) (fun q4 => ?_)
  · refine zs_iload_n (pc := 10) (x := a1) d_Mo_limit_10 rfl ?_
    refine zs_if_ge (pc := 11) (tgt := 16) d_Mo_limit_11 rfl (fun q11 => ?_) (fun q11 => ?_)
    · refine zs_aload_n (pc := 16) (x := a0) d_Mo_limit_16 rfl ?_
      refine zs_iconst (pc := 17) (v := (1 : Int32)) d_Mo_limit_17 (by decide) ?_
      refine zs_putZ (pc := 18) d_Mo_limit_18 kP_Mo_158 fun H18 => ?_
      refine zs_aload_n (pc := 21) (x := a0) d_Mo_limit_21 rfl ?_
      refine zs_iload_n (pc := 22) (x := a1) d_Mo_limit_22 rfl ?_
      refine zs_put (pc := 23) d_Mo_limit_23 kP_Mo_162 z_fitI fun H23 => ?_
      refine zs_iconst (pc := 26) (v := (0 : Int32)) d_Mo_limit_26 (by decide) ?_
      exact zs_iret (pc := 27) d_Mo_limit_27 rfl (Nat.le_of_ble_eq_true rfl) (Nat.le_of_ble_eq_true rfl) rfl
    · refine zs_iconst (pc := 14) (v := (-1 : Int32)) d_Mo_limit_14 (by decide) ?_
      exact zs_iret (pc := 15) d_Mo_limit_15 rfl (Nat.le_of_ble_eq_true rfl) (Nat.le_of_ble_eq_true rfl) rfl
  · refine zs_bipush (pc := 7) (v := (-4 : Int32)) d_Mo_limit_7 (by decide) ?_
    exact zs_iret (pc := 9) d_Mo_limit_9 rfl (Nat.le_of_ble_eq_true rfl) (Nat.le_of_ble_eq_true rfl) rfl
def jF_Mo_restart (a0 : Option Nat) (H : zH) : Option (Int32 × zH) :=
  (zok H a0 1).bind fun _ =>
  (zgI H a0 1 16).bind fun v1 =>
  if v1 = 0 then (
    some ((0 : Int32), H))
  else (
    (zpZ H a0 1 16 (0 : Int32)).bind fun H11 =>
    some ((1 : Int32), H11))
theorem jm_Mo_restart {E : zE} {d : Nat} (hd : 0 ≤ d) (a0 : Option Nat) (H : zH) : z_MS E jM_Mo_restart d 0 0 zwI [zR a0] H (jF_Mo_restart a0 H) := by
  refine zs_of (lv0 := [(0, zR a0)]) pn_Mo (Nat.le_of_ble_eq_true rfl) rfl ?_
  unfold jF_Mo_restart
  refine zs_bind fun _ _ => ?_
  refine zs_aload_n (pc := 0) (x := a0) d_Mo_restart_0 rfl ?_
  refine zs_getI (pc := 1) d_Mo_restart_1 kF_Mo_165 fun v1 => ?_
  refine zs_if_ne (pc := 4) (tgt := 9) d_Mo_restart_4 rfl (fun q4 => ?_) (fun q4 => ?_)
  · refine zs_aload_n (pc := 9) (x := a0) d_Mo_restart_9 rfl ?_
    refine zs_iconst (pc := 10) (v := (0 : Int32)) d_Mo_restart_10 (by decide) ?_
    refine zs_putZ (pc := 11) d_Mo_restart_11 kP_Mo_165 fun H11 => ?_
    refine zs_iconst (pc := 14) (v := (1 : Int32)) d_Mo_restart_14 (by decide) ?_
    exact zs_zretc (pc := 15) d_Mo_restart_15 rfl (by decide) (Nat.le_of_ble_eq_true rfl) (Nat.le_of_ble_eq_true rfl) rfl
  · refine zs_iconst (pc := 7) (v := (0 : Int32)) d_Mo_restart_7 (by decide) ?_
    exact zs_zretc (pc := 8) d_Mo_restart_8 rfl (by decide) (Nat.le_of_ble_eq_true rfl) (Nat.le_of_ble_eq_true rfl) rfl
def jF_Mo_writes (a0 : Option Nat) (H : zH) : Option Int32 :=
  (zok H a0 1).bind fun _ =>
  (zgI H a0 1 15).bind fun v1 =>
  some v1
theorem jm_Mo_writes {E : zE} {d : Nat} (hd : 0 ≤ d) (a0 : Option Nat) (H : zH) : z_MS E jM_Mo_writes d 0 0 (zrI H) [zR a0] H (jF_Mo_writes a0 H) := by
  refine zs_of (lv0 := [(0, zR a0)]) pn_Mo (Nat.le_of_ble_eq_true rfl) rfl ?_
  unfold jF_Mo_writes
  refine zs_bind fun _ _ => ?_
  refine zs_aload_n (pc := 0) (x := a0) d_Mo_writes_0 rfl ?_
  refine zs_getI (pc := 1) d_Mo_writes_1 kF_Mo_180 fun v1 => ?_
  exact zs_iret (pc := 4) d_Mo_writes_4 rfl (Nat.le_of_ble_eq_true rfl) (Nat.le_of_ble_eq_true rfl) rfl
