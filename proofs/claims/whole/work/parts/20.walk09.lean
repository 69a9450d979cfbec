def jF_Mo_canRead (a0 : Option Nat) (a1 : Int32) (a2 : Int32) (H : zH) : Option Int32 :=
  (zok H a0 1).bind fun _ =>
  (jF_Mo_noSchema a0 a1 H).bind fun y2 =>
  if y2 = 0 then (
    (jF_Mo_noSchema a0 a2 H).bind fun y10 =>
    if y10 = 0 then (
      (zgR H a0 1 12).bind fun v17 =>
      (zaI H v17 1 (((24 : Int32) * a1) + a2)).bind fun v26 =>
      if v26 = 0 then (
        some (0 : Int32))
      else (
        some (1 : Int32)))
    else (
      some (0 : Int32)))
  else (
    some (0 : Int32))
theorem jm_Mo_canRead {E : zE} {d : Nat} (hd : 1 ≤ d) (a0 : Option Nat) (a1 : Int32) (a2 : Int32) (H : zH) : z_MS E jM_Mo_canRead d 0 0 (zrI H) [zR a0, zI a1, zI a2] H (jF_Mo_canRead a0 a1 a2 H) := by
  refine zs_of (lv0 := [(0, zR a0), (1, zI a1), (2, zI a2)]) pn_Mo (Nat.le_of_ble_eq_true rfl) rfl ?_
  unfold jF_Mo_canRead
  refine zs_bind fun _ _ => ?_
  refine zs_aload_n (pc := 0) (x := a0) d_Mo_canRead_0 rfl ?_
  refine zs_iload_n (pc := 1) (x := a1) d_Mo_canRead_1 rfl ?_
  refine zs_callv_rI (pc := 2) (av := [zI a1]) (st := []) (d' := 0) (C' := 0) (S' := 0) d_Mo_canRead_2 kV_Mo_92 z_okb (jm_Mo_noSchema (d := 0) (Nat.le_refl _) a0 a1 H) (by omega) (Nat.le_of_ble_eq_true rfl) (Nat.le_of_ble_eq_true rfl) rfl rfl (Nat.le_of_ble_eq_true rfl) fun y2 => ?_
  refine zs_if_ne (pc := 5) (tgt := 34) d_Mo_canRead_5 rfl (fun q5 => ?_) (fun q5 => ?_)
  · refine zs_iconst (pc := 34) (v := (0 : Int32)) d_Mo_canRead_34 (by decide) ?_
    exact zs_zretc (pc := 35) d_Mo_canRead_35 rfl (by decide) (Nat.le_of_ble_eq_true rfl) (Nat.le_of_ble_eq_true rfl) rfl
  · refine zs_aload_n (pc := 8) (x := a0) d_Mo_canRead_8 rfl ?_
    refine zs_iload_n (pc := 9) (x := a2) d_Mo_canRead_9 rfl ?_
    refine zs_callv_rI (pc := 10) (av := [zI a2]) (st := []) (d' := 0) (C' := 0) (S' := 0) d_Mo_canRead_10 kV_Mo_92 z_okb (jm_Mo_noSchema (d := 0) (Nat.le_refl _) a0 a2 H) (by omega) (Nat.le_of_ble_eq_true rfl) (Nat.le_of_ble_eq_true rfl) rfl rfl (Nat.le_of_ble_eq_true rfl) fun y10 => ?_
    refine zs_if_ne (pc := 13) (tgt := 34) d_Mo_canRead_13 rfl (fun q13 => ?_) (fun q13 => ?_)
    · refine zs_iconst (pc := 34) (v := (0 : Int32)) d_Mo_canRead_34 (by decide) ?_
      exact zs_zretc (pc := 35) d_Mo_canRead_35 rfl (by decide) (Nat.le_of_ble_eq_true rfl) (Nat.le_of_ble_eq_true rfl) rfl
    · refine zs_aload_n (pc := 16) (x := a0) d_Mo_canRead_16 rfl ?_
      refine zs_getR (pc := 17) d_Mo_canRead_17 kF_Mo_45 fun v17 => ?_
      refine zs_bipush (pc := 20) (v := (24 : Int32)) d_Mo_canRead_20 (by decide) ?_
      refine zs_iload_n (pc := 22) (x := a1) d_Mo_canRead_22 rfl ?_
      refine zs_imul (pc := 23) d_Mo_canRead_23 ?_
      refine zs_iload_n (pc := 24) (x := a2) d_Mo_canRead_24 rfl ?_
      refine zs_iadd (pc := 25) d_Mo_canRead_25 ?_
      refine zs_zald (t := 1) (pc := 26) d_Mo_canRead_26 rfl fun v26 => ?_
      refine zs_if_eq (pc := 27) (tgt := 34) d_Mo_canRead_27 rfl (fun q27 => ?_) (fun q27 => ?_)
      · refine zs_iconst (pc := 34) (v := (0 : Int32)) d_Mo_canRead_34 (by decide) ?_
        exact zs_zretc (pc := 35) d_Mo_canRead_35 rfl (by decide) (Nat.le_of_ble_eq_true rfl) (Nat.le_of_ble_eq_true rfl) rfl
      · refine zs_iconst (pc := 30) (v := (1 : Int32)) d_Mo_canRead_30 (by decide) ?_
        refine zs_goto (pc := 31) (tgt := 35) d_Mo_canRead_31 rfl ?_
        exact zs_zretc (pc := 35) d_Mo_canRead_35 rfl (by decide) (Nat.le_of_ble_eq_true rfl) (Nat.le_of_ble_eq_true rfl) rfl
def jL_Mo_fieldsCome_12 (fu : Nat) : Nat → Option Nat → Int32 → Int32 → Int32 → zH → Option (Int32 × zH)
  | 0, _, _, _, _, _ => none
  | g + 1, a0, a1, a3, a4, H =>
    if a4 < 0 then (
      some (a3, H))
    else (
      (zgR H a0 1 31).bind fun v18 =>
      (zgR H a0 1 8).bind fun v23 =>
      (zaI H v23 0 (((3 : Int32) * a1) + a4)).bind fun v32 =>
      (zsI H v18 0 a3 v32).bind fun H33 =>
      jL_Mo_fieldsCome_12 fu g a0 a1 (a3 + (1 : Int32)) (a4 + (-1 : Int32)) H33)
def jF_Mo_fieldsCome (fu : Nat) (a0 : Option Nat) (a1 : Int32) (a2 : Int32) (H : zH) : Option (Int32 × zH) :=
  (zok H a0 1).bind fun _ =>
  (zgR H a0 1 6).bind fun v3 =>
  (zaI H v3 0 a1).bind fun v7 =>
  jL_Mo_fieldsCome_12 fu fu a0 a1 a2 (v7 - (1 : Int32)) H
theorem jl_Mo_fieldsCome_12 {E : zE} {d : Nat} (hd : 0 ≤ d) (fu : Nat) : ∀ (g : Nat), ∀ (a0 : Option Nat) (a1 : Int32) (a3 : Int32) (a4 : Int32) (H : zH), z_S E jM_Mo_fieldsCome d 0 0 zwI 12 [(0, zR a0), (1, zI a1), (3, zI a3), (4, zI a4)] [] H 0 0 (jL_Mo_fieldsCome_12 fu g a0 a1 a3 a4 H) := by
  intro g
  induction g with
  | zero => intros; exact zs_none
  | succ g ih =>
    intro a0 a1 a3 a4 H
    rw [jL_Mo_fieldsCome_12]
    refine zs_iload (pc := 12) (x := a4) d_Mo_fieldsCome_12 rfl ?_
    refine zs_if_lt (pc := 14) (tgt := 43) d_Mo_fieldsCome_14 rfl (fun q14 => ?_) (fun q14 => ?_)
    · refine zs_iload_n (pc := 43) (x := a3) d_Mo_fieldsCome_43 rfl ?_
      exact zs_iret (pc := 44) d_Mo_fieldsCome_44 rfl (Nat.le_of_ble_eq_true rfl) (Nat.le_of_ble_eq_true rfl) rfl
    · refine zs_aload_n (pc := 17) (x := a0) d_Mo_fieldsCome_17 rfl ?_
      refine zs_getR (pc := 18) d_Mo_fieldsCome_18 kF_Mo_69 fun v18 => ?_
      refine zs_iload_n (pc := 21) (x := a3) d_Mo_fieldsCome_21 rfl ?_
      refine zs_aload_n (pc := 22) (x := a0) d_Mo_fieldsCome_22 rfl ?_
      refine zs_getR (pc := 23) d_Mo_fieldsCome_23 kF_Mo_31 fun v23 => ?_
      refine zs_iconst (pc := 26) (v := (3 : Int32)) d_Mo_fieldsCome_26 (by decide) ?_
      refine zs_iload_n (pc := 27) (x := a1) d_Mo_fieldsCome_27 rfl ?_
      refine zs_imul (pc := 28) d_Mo_fieldsCome_28 ?_
      refine zs_iload (pc := 29) (x := a4) d_Mo_fieldsCome_29 rfl ?_
      refine zs_iadd (pc := 31) d_Mo_fieldsCome_31 ?_
      refine zs_iald (t := 0) (pc := 32) d_Mo_fieldsCome_32 rfl fun v32 => ?_
      refine zs_iast (t := 0) (pc := 33) d_Mo_fieldsCome_33 rfl fun H33 => ?_
      refine zs_iinc (pc := 34) (x := a3) (v := (a3 + (1 : Int32))) (lv' := [(3, zI (a3 + (1 : Int32))), (0, zR a0), (1, zI a1), (4, zI a4)]) d_Mo_fieldsCome_34 rfl rfl (Nat.le_of_ble_eq_true rfl) rfl ?_
      refine zs_iinc (pc := 37) (x := a4) (v := (a4 + (-1 : Int32))) (lv' := [(4, zI (a4 + (-1 : Int32))), (3, zI (a3 + (1 : Int32))), (0, zR a0), (1, zI a1)]) d_Mo_fieldsCome_37 rfl rfl (Nat.le_of_ble_eq_true rfl) rfl ?_
      refine zs_goto (pc := 40) (tgt := 12) d_Mo_fieldsCome_40 rfl ?_
      refine zs_sub (lv' := [(0, zR a0), (1, zI a1), (3, zI (a3 + (1 : Int32))), (4, zI (a4 + (-1 : Int32)))]) [2, 3, 1, 0] rfl ?_
      exact ih a0 a1 (a3 + (1 : Int32)) (a4 + (-1 : Int32)) H33
theorem jm_Mo_fieldsCome {E : zE} {d : Nat} (hd : 0 ≤ d) (fu : Nat) (a0 : Option Nat) (a1 : Int32) (a2 : Int32) (H : zH) : z_MS E jM_Mo_fieldsCome d 0 0 zwI [zR a0, zI a1, zI a2] H (jF_Mo_fieldsCome fu a0 a1 a2 H) := by
  refine zs_of (lv0 := [(0, zR a0), (1, zI a1), (2, zI a2)]) pn_Mo (Nat.le_of_ble_eq_true rfl) rfl ?_
  unfold jF_Mo_fieldsCome
  refine zs_bind fun _ _ => ?_
  refine zs_iload_n (pc := 0) (x := a2) d_Mo_fieldsCome_0 rfl ?_
  refine zs_istore_n (pc := 1) (lv' := [(3, zI a2), (0, zR a0), (1, zI a1), (2, zI a2)]) d_Mo_fieldsCome_1 (Nat.le_of_ble_eq_true rfl) rfl ?_
  refine zs_aload_n (pc := 2) (x := a0) d_Mo_fieldsCome_2 rfl ?_
  refine zs_getR (pc := 3) d_Mo_fieldsCome_3 kF_Mo_25 fun v3 => ?_
  refine zs_iload_n (pc := 6) (x := a1) d_Mo_fieldsCome_6 rfl ?_
  refine zs_iald (t := 0) (pc := 7) d_Mo_fieldsCome_7 rfl fun v7 => ?_
  refine zs_iconst (pc := 8) (v := (1 : Int32)) d_Mo_fieldsCome_8 (by decide) ?_
  refine zs_isub (pc := 9) d_Mo_fieldsCome_9 ?_
  refine zs_istore (pc := 10) (lv' := [(4, zI (v7 - (1 : Int32))), (3, zI a2), (0, zR a0), (1, zI a1), (2, zI a2)]) d_Mo_fieldsCome_10 (Nat.le_of_ble_eq_true rfl) rfl ?_
  refine zs_sub (lv' := [(0, zR a0), (1, zI a1), (3, zI a2), (4, zI (v7 - (1 : Int32)))]) [2, 3, 1, 0] rfl ?_
  exact jl_Mo_fieldsCome_12 hd fu fu a0 a1 a2 (v7 - (1 : Int32)) H
def jL_Mo_span_171 (fu : Nat) (k13 : Option Nat → Int32 → Int32 → Int32 → Int32 → zH → Option (Int32 × zH)) : Nat → Option Nat → Int32 → Int32 → Int32 → Int32 → Int32 → Int64 → Int32 → zH → Option (Int32 × zH)
  | 0, _, _, _, _, _, _, _, _, _ => none
  | g + 1, a0, a2, a3, a4, a5, a6, a8, a10, H =>
    if a8.toInt32 ≤ a10 then (
      k13 a0 a2 a3 (a4 + a8.toInt32) a5 H)
    else (
      (zgR H a0 1 31).bind fun v180 =>
      (zgR H a0 1 3).bind fun v189 =>
      (zaI H v189 0 a6).bind fun v194 =>
      (zsI H v180 0 (a4 + a10) v194).bind fun H195 =>
      jL_Mo_span_171 fu k13 g a0 a2 a3 a4 a5 a6 a8 (a10 + (1 : Int32)) H195)
def jJ_Mo_span_137 (fu : Nat) (k13 : Option Nat → Int32 → Int32 → Int32 → Int32 → zH → Option (Int32 × zH)) (s0 : Int32) (s1 : Int32) (s2 : Option Nat) (a0 : Option Nat) (a2 : Int32) (a3 : Int32) (a4 : Int32) (a5 : Int32) (H : zH) : Option (Int32 × zH) :=
  (zsI H s2 0 s1 s0).bind fun H137 =>
  k13 a0 a2 a3 (a4 + (1 : Int32)) a5 H137
def jJ_Mo_span_107 (fu : Nat) (k13 : Option Nat → Int32 → Int32 → Int32 → Int32 → zH → Option (Int32 × zH)) (a0 : Option Nat) (a2 : Int32) (a3 : Int32) (a4 : Int32) (a5 : Int32) (a6 : Int32) (a8 : Int64) (H : zH) : Option (Int32 × zH) :=
  (zgR H a0 1 31).bind fun v108 =>
  if a8 = (0 : Int64) then (
    (zgR H a0 1 3).bind fun v121 =>
    (zaI H v121 0 a6).bind fun v126 =>
    jJ_Mo_span_137 fu k13 v126 a4 v108 a0 a2 a3 a4 a5 H)
  else (
    (zgR H a0 1 4).bind fun v131 =>
    (zaI H v131 0 a6).bind fun v136 =>
    jJ_Mo_span_137 fu k13 v136 a4 v108 a0 a2 a3 a4 a5 H)
def jL_Mo_span_13 (fu : Nat) : Nat → Option Nat → Int32 → Int32 → Int32 → Int32 → zH → Option (Int32 × zH)
  | 0, _, _, _, _, _, _ => none
  | g + 1, a0, a2, a3, a4, a5, H =>
    if a4 ≤ 0 then (
      some ((a5 - a2), H))
    else (
      (zgR H a0 1 31).bind fun v22 =>
      (zaI H v22 0 (a4 + (-1 : Int32))).bind fun v27 =>
      (zgR H a0 1 1).bind fun v31 =>
      (zaI H v31 0 v27).bind fun v36 =>
      if v36 = (7 : Int32) then (
        (jF_Mo_fieldsCome fu a0 v27 (a4 + (-1 : Int32)) H).bind fun y51 =>
        jL_Mo_span_13 fu g a0 a2 a3 y51.1 a5 y51.2)
      else (
        if v36 = 0 then (
          jL_Mo_span_13 fu g a0 a2 a3 (a4 + (-1 : Int32)) a5 H)
        else (
          if a5 < a3 then (
            (zgR H a0 1 30).bind fun v73 =>
            (zaL H v73 2 a5).bind fun v78 =>
            if v36 = (6 : Int32) then (
              if v78 = (0 : Int64) then (
                jJ_Mo_span_107 fu (fun x0 x1 x2 x3 x4 x5 => jL_Mo_span_13 fu g x0 x1 x2 x3 x4 x5) a0 a2 a3 (a4 + (-1 : Int32)) (a5 + (1 : Int32)) v27 v78 H)
              else (
                if v78 = (1 : Int64) then (
                  jJ_Mo_span_107 fu (fun x0 x1 x2 x3 x4 x5 => jL_Mo_span_13 fu g x0 x1 x2 x3 x4 x5) a0 a2 a3 (a4 + (-1 : Int32)) (a5 + (1 : Int32)) v27 v78 H)
                else (
                  some ((-1 : Int32), H))))
            else (
              if v36 = (5 : Int32) then (
                if v78 < (0 : Int64) then (
                  some ((-1 : Int32), H))
                else (
                  if v78 ≤ (3 : Int64) then (
                    jL_Mo_span_171 fu (fun x0 x1 x2 x3 x4 x5 => jL_Mo_span_13 fu g x0 x1 x2 x3 x4 x5) fu a0 a2 a3 (a4 + (-1 : Int32)) (a5 + (1 : Int32)) v27 v78 (0 : Int32) H)
                  else (
                    some ((-1 : Int32), H))))
              else (
                (jF_Mo_scalar a0 v27 v78 H).bind fun y218 =>
                if y218 = 0 then (
                  some ((-1 : Int32), H))
                else (
                  jL_Mo_span_13 fu g a0 a2 a3 (a4 + (-1 : Int32)) (a5 + (1 : Int32)) H))))
          else (
            some ((-1 : Int32), H)))))
def jF_Mo_span (fu : Nat) (a0 : Option Nat) (a1 : Int32) (a2 : Int32) (a3 : Int32) (H : zH) : Option (Int32 × zH) :=
  (zok H a0 1).bind fun _ =>
  (zgR H a0 1 31).bind fun v7 =>
  (zsI H v7 0 (0 : Int32) a1).bind fun H12 =>
  jL_Mo_span_13 fu fu a0 a2 a3 (1 : Int32) a2 H12
theorem jl_Mo_span_171 {E : zE} {d : Nat} (hd : 1 ≤ d) (fu : Nat) (k13 : Option Nat → Int32 → Int32 → Int32 → Int32 → zH → Option (Int32 × zH)) (hk13 : ∀ (a0 : Option Nat) (a2 : Int32) (a3 : Int32) (a4 : Int32) (a5 : Int32) (H : zH), z_S E jM_Mo_span d 0 0 zwI 13 [(0, zR a0), (2, zI a2), (3, zI a3), (4, zI a4), (5, zI a5)] [] H 0 0 (k13 a0 a2 a3 a4 a5 H)) : ∀ (g : Nat), ∀ (a0 : Option Nat) (a2 : Int32) (a3 : Int32) (a4 : Int32) (a5 : Int32) (a6 : Int32) (a8 : Int64) (a10 : Int32) (H : zH), z_S E jM_Mo_span d 0 0 zwI 171 [(0, zR a0), (2, zI a2), (3, zI a3), (4, zI a4), (5, zI a5), (6, zI a6), (8, zL a8), (10, zI a10)] [] H 0 0 (jL_Mo_span_171 fu k13 g a0 a2 a3 a4 a5 a6 a8 a10 H) := by
  intro g
  induction g with
  | zero => intros; exact zs_none
  | succ g ih =>
    intro a0 a2 a3 a4 a5 a6 a8 a10 H
    rw [jL_Mo_span_171]
    refine zs_iload (pc := 171) (x := a10) d_Mo_span_171 rfl ?_
    refine zs_lload (pc := 173) (x := a8) d_Mo_span_173 rfl ?_
    refine zs_l2i (pc := 175) d_Mo_span_175 ?_
    refine zs_icmp_ge (pc := 176) (tgt := 202) d_Mo_span_176 rfl (fun q176 => ?_) (fun q176 => ?_)
    · refine zs_iload (pc := 202) (x := a4) d_Mo_span_202 rfl ?_
      refine zs_lload (pc := 204) (x := a8) d_Mo_span_204 rfl ?_
      refine zs_l2i (pc := 206) d_Mo_span_206 ?_
      refine zs_iadd (pc := 207) d_Mo_span_207 ?_
      refine zs_istore (pc := 208) (lv' := [(4, zI (a4 + a8.toInt32)), (0, zR a0), (2, zI a2), (3, zI a3), (5, zI a5), (6, zI a6), (8, zL a8), (10, zI a10)]) d_Mo_span_208 (Nat.le_of_ble_eq_true rfl) rfl ?_
      refine zs_goto (pc := 210) (tgt := 226) d_Mo_span_210 rfl ?_
      refine zs_goto (pc := 226) (tgt := 13) d_Mo_span_226 rfl ?_
      refine zs_sub (lv' := [(0, zR a0), (2, zI a2), (3, zI a3), (4, zI (a4 + a8.toInt32)), (5, zI a5)]) [1, 2, 3, 0, 4] rfl ?_
      exact hk13 a0 a2 a3 (a4 + a8.toInt32) a5 H
    · refine zs_aload_n (pc := 179) (x := a0) d_Mo_span_179 rfl ?_
      refine zs_getR (pc := 180) d_Mo_span_180 kF_Mo_69 fun v180 => ?_
      refine zs_iload (pc := 183) (x := a4) d_Mo_span_183 rfl ?_
      refine zs_iload (pc := 185) (x := a10) d_Mo_span_185 rfl ?_
      refine zs_iadd (pc := 187) d_Mo_span_187 ?_
      refine zs_aload_n (pc := 188) (x := a0) d_Mo_span_188 rfl ?_
      refine zs_getR (pc := 189) d_Mo_span_189 kF_Mo_16 fun v189 => ?_
      refine zs_iload (pc := 192) (x := a6) d_Mo_span_192 rfl ?_
      refine zs_iald (t := 0) (pc := 194) d_Mo_span_194 rfl fun v194 => ?_
      refine zs_iast (t := 0) (pc := 195) d_Mo_span_195 rfl fun H195 => ?_
      refine zs_iinc (pc := 196) (x := a10) (v := (a10 + (1 : Int32))) (lv' := [(10, zI (a10 + (1 : Int32))), (0, zR a0), (2, zI a2), (3, zI a3), (4, zI a4), (5, zI a5), (6, zI a6), (8, zL a8)]) d_Mo_span_196 rfl rfl (Nat.le_of_ble_eq_true rfl) rfl ?_
      refine zs_goto (pc := 199) (tgt := 171) d_Mo_span_199 rfl ?_
      refine zs_sub (lv' := [(0, zR a0), (2, zI a2), (3, zI a3), (4, zI a4), (5, zI a5), (6, zI a6), (8, zL a8), (10, zI (a10 + (1 : Int32)))]) [1, 2, 3, 4, 5, 6, 7, 0] rfl ?_
      exact ih a0 a2 a3 a4 a5 a6 a8 (a10 + (1 : Int32)) H195
theorem jj_Mo_span_137 {E : zE} {d : Nat} (hd : 1 ≤ d) (fu : Nat) (k13 : Option Nat → Int32 → Int32 → Int32 → Int32 → zH → Option (Int32 × zH)) (hk13 : ∀ (a0 : Option Nat) (a2 : Int32) (a3 : Int32) (a4 : Int32) (a5 : Int32) (H : zH), z_S E jM_Mo_span d 0 0 zwI 13 [(0, zR a0), (2, zI a2), (3, zI a3), (4, zI a4), (5, zI a5)] [] H 0 0 (k13 a0 a2 a3 a4 a5 H)) : ∀ (s0 : Int32) (s1 : Int32) (s2 : Option Nat) (a0 : Option Nat) (a2 : Int32) (a3 : Int32) (a4 : Int32) (a5 : Int32) (H : zH), z_S E jM_Mo_span d 0 0 zwI 137 [(0, zR a0), (2, zI a2), (3, zI a3), (4, zI a4), (5, zI a5)] [zI s0, zI s1, zR s2] H 0 0 (jJ_Mo_span_137 fu k13 s0 s1 s2 a0 a2 a3 a4 a5 H) := by
  intro s0 s1 s2 a0 a2 a3 a4 a5 H
  unfold jJ_Mo_span_137
  refine zs_iast (t := 0) (pc := 137) d_Mo_span_137 rfl fun H137 => ?_
  refine zs_iinc (pc := 138) (x := a4) (v := (a4 + (1 : Int32))) (lv' := [(4, zI (a4 + (1 : Int32))), (0, zR a0), (2, zI a2), (3, zI a3), (5, zI a5)]) d_Mo_span_138 rfl rfl (Nat.le_of_ble_eq_true rfl) rfl ?_
  refine zs_goto (pc := 141) (tgt := 226) d_Mo_span_141 rfl ?_
  refine zs_goto (pc := 226) (tgt := 13) d_Mo_span_226 rfl ?_
  refine zs_sub (lv' := [(0, zR a0), (2, zI a2), (3, zI a3), (4, zI (a4 + (1 : Int32))), (5, zI a5)]) [1, 2, 3, 0, 4] rfl ?_
  exact hk13 a0 a2 a3 (a4 + (1 : Int32)) a5 H137
theorem jj_Mo_span_107 {E : zE} {d : Nat} (hd : 1 ≤ d) (fu : Nat) (k13 : Option Nat → Int32 → Int32 → Int32 → Int32 → zH → Option (Int32 × zH)) (hk13 : ∀ (a0 : Option Nat) (a2 : Int32) (a3 : Int32) (a4 : Int32) (a5 : Int32) (H : zH), z_S E jM_Mo_span d 0 0 zwI 13 [(0, zR a0), (2, zI a2), (3, zI a3), (4, zI a4), (5, zI a5)] [] H 0 0 (k13 a0 a2 a3 a4 a5 H)) : ∀ (a0 : Option Nat) (a2 : Int32) (a3 : Int32) (a4 : Int32) (a5 : Int32) (a6 : Int32) (a8 : Int64) (H : zH), z_S E jM_Mo_span d 0 0 zwI 107 [(0, zR a0), (2, zI a2), (3, zI a3), (4, zI a4), (5, zI a5), (6, zI a6), (8, zL a8)] [] H 0 0 (jJ_Mo_span_107 fu k13 a0 a2 a3 a4 a5 a6 a8 H) := by
  intro a0 a2 a3 a4 a5 a6 a8 H
  unfold jJ_Mo_span_107
  refine zs_aload_n (pc := 107) (x := a0) d_Mo_span_107 rfl ?_
  refine zs_getR (pc := 108) d_Mo_span_108 kF_Mo_69 fun v108 => ?_
  refine zs_iload (pc := 111) (x := a4) d_Mo_span_111 rfl ?_
  refine zs_lload (pc := 113) (x := a8) d_Mo_span_113 rfl ?_
  refine zs_lconst (pc := 115) (v := (0 : Int64)) d_Mo_span_115 (by decide) ?_
  refine zs_lcmp_ne (pc := 116) (tgt := 130) d_Mo_span_116 d_Mo_span_117 rfl (fun q116 => ?_) (fun q116 => ?_)
  · refine zs_aload_n (pc := 130) (x := a0) d_Mo_span_130 rfl ?_
    refine zs_getR (pc := 131) d_Mo_span_131 kF_Mo_19 fun v131 => ?_
    refine zs_iload (pc := 134) (x := a6) d_Mo_span_134 rfl ?_
    refine zs_iald (t := 0) (pc := 136) d_Mo_span_136 rfl fun v136 => ?_
    refine zs_sub (lv' := [(0, zR a0), (2, zI a2), (3, zI a3), (4, zI a4), (5, zI a5)]) [0, 1, 2, 3, 4] rfl ?_
    exact jj_Mo_span_137 hd fu k13 hk13 v136 a4 v108 a0 a2 a3 a4 a5 H
  · refine zs_aload_n (pc := 120) (x := a0) d_Mo_span_120 rfl ?_
    refine zs_getR (pc := 121) d_Mo_span_121 kF_Mo_16 fun v121 => ?_
    refine zs_iload (pc := 124) (x := a6) d_Mo_span_124 rfl ?_
    refine zs_iald (t := 0) (pc := 126) d_Mo_span_126 rfl fun v126 => ?_
    refine zs_goto (pc := 127) (tgt := 137) d_Mo_span_127 rfl ?_
    refine zs_sub (lv' := [(0, zR a0), (2, zI a2), (3, zI a3), (4, zI a4), (5, zI a5)]) [0, 1, 2, 3, 4] rfl ?_
    exact jj_Mo_span_137 hd fu k13 hk13 v126 a4 v108 a0 a2 a3 a4 a5 H
theorem jl_Mo_span_13 {E : zE} {d : Nat} (hd : 1 ≤ d) (fu : Nat) : ∀ (g : Nat), ∀ (a0 : Option Nat) (a2 : Int32) (a3 : Int32) (a4 : Int32) (a5 : Int32) (H : zH), z_S E jM_Mo_span d 0 0 zwI 13 [(0, zR a0), (2, zI a2), (3, zI a3), (4, zI a4), (5, zI a5)] [] H 0 0 (jL_Mo_span_13 fu g a0 a2 a3 a4 a5 H) := by
  intro g
  induction g with
  | zero => intros; exact zs_none
  | succ g ih =>
    intro a0 a2 a3 a4 a5 H
    rw [jL_Mo_span_13]
    refine zs_iload (pc := 13) (x := a4) d_Mo_span_13 rfl ?_
    refine zs_if_le (pc := 15) (tgt := 229) d_Mo_span_15 rfl (fun q15 => ?_) (fun q15 => ?_)
    · refine zs_iload (pc := 229) (x := a5) d_Mo_span_229 rfl ?_
      refine zs_iload_n (pc := 231) (x := a2) d_Mo_span_231 rfl ?_
      refine zs_isub (pc := 232) d_Mo_span_232 ?_
      exact zs_iret (pc := 233) d_Mo_span_233 rfl (Nat.le_of_ble_eq_true rfl) (Nat.le_of_ble_eq_true rfl) rfl
    · refine zs_iinc (pc := 18) (x := a4) (v := (a4 + (-1 : Int32))) (lv' := [(4, zI (a4 + (-1 : Int32))), (0, zR a0), (2, zI a2), (3, zI a3), (5, zI a5)]) d_Mo_span_18 rfl rfl (Nat.le_of_ble_eq_true rfl) rfl ?_
      refine zs_aload_n (pc := 21) (x := a0) d_Mo_span_21 rfl ?_
      refine zs_getR (pc := 22) d_Mo_span_22 kF_Mo_69 fun v22 => ?_
      refine zs_iload (pc := 25) (x := (a4 + (-1 : Int32))) d_Mo_span_25 rfl ?_
      refine zs_iald (t := 0) (pc := 27) d_Mo_span_27 rfl fun v27 => ?_
      refine zs_istore (pc := 28) (lv' := [(6, zI v27), (4, zI (a4 + (-1 : Int32))), (0, zR a0), (2, zI a2), (3, zI a3), (5, zI a5)]) d_Mo_span_28 (Nat.le_of_ble_eq_true rfl) rfl ?_
      refine zs_aload_n (pc := 30) (x := a0) d_Mo_span_30 rfl ?_
      refine zs_getR (pc := 31) d_Mo_span_31 kF_Mo_7 fun v31 => ?_
      refine zs_iload (pc := 34) (x := v27) d_Mo_span_34 rfl ?_
      refine zs_iald (t := 0) (pc := 36) d_Mo_span_36 rfl fun v36 => ?_
      refine zs_istore (pc := 37) (lv' := [(7, zI v36), (6, zI v27), (4, zI (a4 + (-1 : Int32))), (0, zR a0), (2, zI a2), (3, zI a3), (5, zI a5)]) d_Mo_span_37 (Nat.le_of_ble_eq_true rfl) rfl ?_
      refine zs_iload (pc := 39) (x := v36) d_Mo_span_39 rfl ?_
      refine zs_bipush (pc := 41) (v := (7 : Int32)) d_Mo_span_41 (by decide) ?_
      refine zs_icmp_ne (pc := 43) (tgt := 59) d_Mo_span_43 rfl (fun q43 => ?_) (fun q43 => ?_)
      · refine zs_iload (pc := 59) (x := v36) d_Mo_span_59 rfl ?_
        refine zs_if_eq (pc := 61) (tgt := 226) d_Mo_span_61 rfl (fun q61 => ?_) (fun q61 => ?_)
        · refine zs_goto (pc := 226) (tgt := 13) d_Mo_span_226 rfl ?_
          refine zs_sub (lv' := [(0, zR a0), (2, zI a2), (3, zI a3), (4, zI (a4 + (-1 : Int32))), (5, zI a5)]) [3, 4, 5, 2, 6] rfl ?_
          exact ih a0 a2 a3 (a4 + (-1 : Int32)) a5 H
        · refine zs_iload (pc := 64) (x := a5) d_Mo_span_64 rfl ?_
          refine zs_iload_n (pc := 66) (x := a3) d_Mo_span_66 rfl ?_
          refine zs_icmp_lt (pc := 67) (tgt := 72) d_Mo_span_67 rfl (fun q67 => ?_) (fun q67 => ?_)
          · refine zs_aload_n (pc := 72) (x := a0) d_Mo_span_72 rfl ?_
            refine zs_getR (pc := 73) d_Mo_span_73 kF_Mo_66 fun v73 => ?_
            refine zs_iload (pc := 76) (x := a5) d_Mo_span_76 rfl ?_
            refine zs_lald (t := 2) (pc := 78) d_Mo_span_78 rfl fun v78 => ?_
            refine zs_lstore (pc := 79) (lv' := [(8, zL v78), (7, zI v36), (6, zI v27), (4, zI (a4 + (-1 : Int32))), (0, zR a0), (2, zI a2), (3, zI a3), (5, zI a5)]) d_Mo_span_79 (Nat.le_of_ble_eq_true rfl) rfl ?_
            refine zs_iinc (pc := 81) (x := a5) (v := (a5 + (1 : Int32))) (lv' := [(5, zI (a5 + (1 : Int32))), (8, zL v78), (7, zI v36), (6, zI v27), (4, zI (a4 + (-1 : Int32))), (0, zR a0), (2, zI a2), (3, zI a3)]) d_Mo_span_81 rfl rfl (Nat.le_of_ble_eq_true rfl) rfl ?_
            refine zs_iload (pc := 84) (x := v36) d_Mo_span_84 rfl ?_
            refine zs_bipush (pc := 86) (v := (6 : Int32)) d_Mo_span_86 (by decide) ?_
            refine zs_icmp_ne (pc := 88) (tgt := 144) d_Mo_span_88 rfl (fun q88 => ?_) (fun q88 => ?_)
            · refine zs_iload (pc := 144) (x := v36) d_Mo_span_144 rfl ?_
              refine zs_iconst (pc := 146) (v := (5 : Int32)) d_Mo_span_146 (by decide) ?_
              refine zs_icmp_ne (pc := 147) (tgt := 213) d_Mo_span_147 rfl (fun q147 => ?_) (fun q147 => ?_)
              · refine zs_aload_n (pc := 213) (x := a0) d_Mo_span_213 rfl ?_
                refine zs_iload (pc := 214) (x := v27) d_Mo_span_214 rfl ?_
                refine zs_lload (pc := 216) (x := v78) d_Mo_span_216 rfl ?_
                refine zs_callv_rI (pc := 218) (av := [zI v27, zL v78]) (st := []) (d' := 0) (C' := 0) (S' := 0) d_Mo_span_218 kV_Mo_79 z_okb (jm_Mo_scalar (d := 0) (Nat.le_refl _) a0 v27 v78 H) (by omega) (Nat.le_of_ble_eq_true rfl) (Nat.le_of_ble_eq_true rfl) rfl rfl (Nat.le_of_ble_eq_true rfl) fun y218 => ?_
                refine zs_if_ne (pc := 221) (tgt := 226) d_Mo_span_221 rfl (fun q221 => ?_) (fun q221 => ?_)
                · refine zs_goto (pc := 226) (tgt := 13) d_Mo_span_226 rfl ?_
                  refine zs_sub (lv' := [(0, zR a0), (2, zI a2), (3, zI a3), (4, zI (a4 + (-1 : Int32))), (5, zI (a5 + (1 : Int32)))]) [5, 6, 7, 4, 0] rfl ?_
                  exact ih a0 a2 a3 (a4 + (-1 : Int32)) (a5 + (1 : Int32)) H
                · refine zs_iconst (pc := 224) (v := (-1 : Int32)) d_Mo_span_224 (by decide) ?_
                  exact zs_iret (pc := 225) d_Mo_span_225 rfl (Nat.le_of_ble_eq_true rfl) (Nat.le_of_ble_eq_true rfl) rfl
              · refine zs_lload (pc := 150) (x := v78) d_Mo_span_150 rfl ?_
                refine zs_lconst (pc := 152) (v := (0 : Int64)) d_Mo_span_152 (by decide) ?_
                refine zs_lcmp_lt (pc := 153) (tgt := 166) d_Mo_span_153 d_Mo_span_154 rfl (fun q153 => ?_) (fun q153 => ?_)
                · refine zs_iconst (pc := 166) (v := (-1 : Int32)) d_Mo_span_166 (by decide) ?_
                  exact zs_iret (pc := 167) d_Mo_span_167 rfl (Nat.le_of_ble_eq_true rfl) (Nat.le_of_ble_eq_true rfl) rfl
                · refine zs_lload (pc := 157) (x := v78) d_Mo_span_157 rfl ?_
                  refine zs_ldc2 (pc := 159) (v := (3 : Int64)) d_Mo_span_159 kC_Mo_126 ?_
                  refine zs_lcmp_le (pc := 162) (tgt := 168) d_Mo_span_162 d_Mo_span_163 rfl (fun q162 => ?_) (fun q162 => ?_)
                  · refine zs_iconst (pc := 168) (v := (0 : Int32)) d_Mo_span_168 (by decide) ?_
                    refine zs_istore (pc := 169) (lv' := [(10, zI (0 : Int32)), (5, zI (a5 + (1 : Int32))), (8, zL v78), (7, zI v36), (6, zI v27), (4, zI (a4 + (-1 : Int32))), (0, zR a0), (2, zI a2), (3, zI a3)]) d_Mo_span_169 (Nat.le_of_ble_eq_true rfl) rfl ?_
                    refine zs_sub (lv' := [(0, zR a0), (2, zI a2), (3, zI a3), (4, zI (a4 + (-1 : Int32))), (5, zI (a5 + (1 : Int32))), (6, zI v27), (8, zL v78), (10, zI (0 : Int32))]) [6, 7, 8, 5, 1, 4, 2, 0] rfl ?_
                    exact jl_Mo_span_171 hd fu (fun x0 x1 x2 x3 x4 x5 => jL_Mo_span_13 fu g x0 x1 x2 x3 x4 x5) ih fu a0 a2 a3 (a4 + (-1 : Int32)) (a5 + (1 : Int32)) v27 v78 (0 : Int32) H
                  · refine zs_iconst (pc := 166) (v := (-1 : Int32)) d_Mo_span_166 (by decide) ?_
                    exact zs_iret (pc := 167) d_Mo_span_167 rfl (Nat.le_of_ble_eq_true rfl) (Nat.le_of_ble_eq_true rfl) rfl
            · refine zs_lload (pc := 91) (x := v78) d_Mo_span_91 rfl ?_
              refine zs_lconst (pc := 93) (v := (0 : Int64)) d_Mo_span_93 (by decide) ?_
              refine zs_lcmp_eq (pc := 94) (tgt := 107) d_Mo_span_94 d_Mo_span_95 rfl (fun q94 => ?_) (fun q94 => ?_)
              · refine zs_sub (lv' := [(0, zR a0), (2, zI a2), (3, zI a3), (4, zI (a4 + (-1 : Int32))), (5, zI (a5 + (1 : Int32))), (6, zI v27), (8, zL v78)]) [5, 6, 7, 4, 0, 3, 1] rfl ?_
                exact jj_Mo_span_107 hd fu (fun x0 x1 x2 x3 x4 x5 => jL_Mo_span_13 fu g x0 x1 x2 x3 x4 x5) ih a0 a2 a3 (a4 + (-1 : Int32)) (a5 + (1 : Int32)) v27 v78 H
              · refine zs_lload (pc := 98) (x := v78) d_Mo_span_98 rfl ?_
                refine zs_lconst (pc := 100) (v := (1 : Int64)) d_Mo_span_100 (by decide) ?_
                refine zs_lcmp_eq (pc := 101) (tgt := 107) d_Mo_span_101 d_Mo_span_102 rfl (fun q101 => ?_) (fun q101 => ?_)
                · refine zs_sub (lv' := [(0, zR a0), (2, zI a2), (3, zI a3), (4, zI (a4 + (-1 : Int32))), (5, zI (a5 + (1 : Int32))), (6, zI v27), (8, zL v78)]) [5, 6, 7, 4, 0, 3, 1] rfl ?_
                  exact jj_Mo_span_107 hd fu (fun x0 x1 x2 x3 x4 x5 => jL_Mo_span_13 fu g x0 x1 x2 x3 x4 x5) ih a0 a2 a3 (a4 + (-1 : Int32)) (a5 + (1 : Int32)) v27 v78 H
                · refine zs_iconst (pc := 105) (v := (-1 : Int32)) d_Mo_span_105 (by decide) ?_
                  exact zs_iret (pc := 106) d_Mo_span_106 rfl (Nat.le_of_ble_eq_true rfl) (Nat.le_of_ble_eq_true rfl) rfl
          · refine zs_iconst (pc := 70) (v := (-1 : Int32)) d_Mo_span_70 (by decide) ?_
            exact zs_iret (pc := 71) d_Mo_span_71 rfl (Nat.le_of_ble_eq_true rfl) (Nat.le_of_ble_eq_true rfl) rfl
      · refine zs_aload_n (pc := 46) (x := a0) d_Mo_span_46 rfl ?_
        refine zs_iload (pc := 47) (x := v27) d_Mo_span_47 rfl ?_
        refine zs_iload (pc := 49) (x := (a4 + (-1 : Int32))) d_Mo_span_49 rfl ?_
        refine zs_callv_wI (pc := 51) (av := [zI v27, zI (a4 + (-1 : Int32))]) (st := []) (d' := 0) (C' := 0) (S' := 0) d_Mo_span_51 kV_Mo_123 z_okb (jm_Mo_fieldsCome (d := 0) (Nat.le_refl _) fu a0 v27 (a4 + (-1 : Int32)) H) (by omega) (Nat.le_of_ble_eq_true rfl) (Nat.le_of_ble_eq_true rfl) rfl rfl (Nat.le_of_ble_eq_true rfl) fun y51 => ?_
        refine zs_istore (pc := 54) (lv' := [(4, zI y51.1), (7, zI v36), (6, zI v27), (0, zR a0), (2, zI a2), (3, zI a3), (5, zI a5)]) d_Mo_span_54 (Nat.le_of_ble_eq_true rfl) rfl ?_
        refine zs_goto (pc := 56) (tgt := 226) d_Mo_span_56 rfl ?_
        refine zs_goto (pc := 226) (tgt := 13) d_Mo_span_226 rfl ?_
        refine zs_sub (lv' := [(0, zR a0), (2, zI a2), (3, zI a3), (4, zI y51.1), (5, zI a5)]) [3, 4, 5, 0, 6] rfl ?_
        exact ih a0 a2 a3 y51.1 a5 y51.2
theorem jm_Mo_span {E : zE} {d : Nat} (hd : 1 ≤ d) (fu : Nat) (a0 : Option Nat) (a1 : Int32) (a2 : Int32) (a3 : Int32) (H : zH) : z_MS E jM_Mo_span d 0 0 zwI [zR a0, zI a1, zI a2, zI a3] H (jF_Mo_span fu a0 a1 a2 a3 H) := by
  refine zs_of (lv0 := [(0, zR a0), (1, zI a1), (2, zI a2), (3, zI a3)]) pn_Mo (Nat.le_of_ble_eq_true rfl) rfl ?_
  unfold jF_Mo_span
  refine zs_bind fun _ _ => ?_
  refine zs_iconst (pc := 0) (v := (1 : Int32)) d_Mo_span_0 (by decide) ?_
  refine zs_istore (pc := 1) (lv' := [(4, zI (1 : Int32)), (0, zR a0), (1, zI a1), (2, zI a2), (3, zI a3)]) d_Mo_span_1 (Nat.le_of_ble_eq_true rfl) rfl ?_
  refine zs_iload_n (pc := 3) (x := a2) d_Mo_span_3 rfl ?_
  refine zs_istore (pc := 4) (lv' := [(5, zI a2), (4, zI (1 : Int32)), (0, zR a0), (1, zI a1), (2, zI a2), (3, zI a3)]) d_Mo_span_4 (Nat.le_of_ble_eq_true rfl) rfl ?_
  refine zs_aload_n (pc := 6) (x := a0) d_Mo_span_6 rfl ?_
  refine zs_getR (pc := 7) d_Mo_span_7 kF_Mo_69 fun v7 => ?_
  refine zs_iconst (pc := 10) (v := (0 : Int32)) d_Mo_span_10 (by decide) ?_
  refine zs_iload_n (pc := 11) (x := a1) d_Mo_span_11 rfl ?_
  refine zs_iast (t := 0) (pc := 12) d_Mo_span_12 rfl fun H12 => ?_
  refine zs_sub (lv' := [(0, zR a0), (2, zI a2), (3, zI a3), (4, zI (1 : Int32)), (5, zI a2)]) [2, 4, 5, 1, 0] rfl ?_
  exact jl_Mo_span_13 hd fu fu a0 a2 a3 (1 : Int32) a2 H12
def jF_Mo_putByte (a0 : Option Nat) (a1 : Int32) (H : zH) : Option zH :=
  (zok H a0 1).bind fun _ =>
  (zgR H a0 1 27).bind fun v1 =>
  (zgI H a0 1 28).bind fun v5 =>
  (zsI H v1 0 v5 a1).bind fun H9 =>
  (zgI H9 a0 1 28).bind fun v12 =>
  (zpV H9 a0 1 28 (zI (v12 + (1 : Int32)))).bind fun H17 =>
  some H17
theorem jm_Mo_putByte {E : zE} {d : Nat} (hd : 0 ≤ d) (a0 : Option Nat) (a1 : Int32) (H : zH) : z_MS E jM_Mo_putByte d 0 0 zwV [zR a0, zI a1] H (jF_Mo_putByte a0 a1 H) := by
  refine zs_of (lv0 := [(0, zR a0), (1, zI a1)]) pn_Mo (Nat.le_of_ble_eq_true rfl) rfl ?_
  unfold jF_Mo_putByte
  refine zs_bind fun _ _ => ?_
  refine zs_aload_n (pc := 0) (x := a0) d_Mo_putByte_0 rfl ?_
  refine zs_getR (pc := 1) d_Mo_putByte_1 kF_Mo_60 fun v1 => ?_
  refine zs_aload_n (pc := 4) (x := a0) d_Mo_putByte_4 rfl ?_
  refine zs_getI (pc := 5) d_Mo_putByte_5 kF_Mo_128 fun v5 => ?_
  refine zs_iload_n (pc := 8) (x := a1) d_Mo_putByte_8 rfl ?_
  refine zs_iast (t := 0) (pc := 9) d_Mo_putByte_9 rfl fun H9 => ?_
  refine zs_aload_n (pc := 10) (x := a0) d_Mo_putByte_10 rfl ?_
  refine zs_dup (pc := 11) d_Mo_putByte_11 rfl ?_
  refine zs_getI (pc := 12) d_Mo_putByte_12 kF_Mo_128 fun v12 => ?_
  refine zs_iconst (pc := 15) (v := (1 : Int32)) d_Mo_putByte_15 (by decide) ?_
  refine zs_iadd (pc := 16) d_Mo_putByte_16 ?_
  refine zs_put (pc := 17) d_Mo_putByte_17 kP_Mo_128 z_fitI fun H17 => ?_
  exact zs_vret (pc := 20) d_Mo_putByte_20 rfl (Nat.le_of_ble_eq_true rfl) (Nat.le_of_ble_eq_true rfl) rfl
def jL_Mo_putVarint_20 (fu : Nat) : Nat → Option Nat → Int64 → zH → Option zH
  | 0, _, _, _ => none
  | g + 1, a0, a3, H =>
    if (a3 &&& (-128 : Int64)) = (0 : Int64) then (
      (jF_Mo_putByte a0 a3.toInt32 H).bind fun y55 =>
      some y55)
    else (
      (jF_Mo_putByte a0 (((a3 &&& (127 : Int64)).toInt32) + (128 : Int32)) H).bind fun y41 =>
      jL_Mo_putVarint_20 fu g a0 ((a3.toUInt64 >>> ((7 : Int32).toInt64.toUInt64 &&& Int64.toUInt64 63)).toInt64) y41)
def jF_Mo_putVarint (fu : Nat) (a0 : Option Nat) (a1 : Int64) (H : zH) : Option zH :=
  (zok H a0 1).bind fun _ =>
  if (0 : Int64) ≤ a1 then (
    jL_Mo_putVarint_20 fu fu a0 (a1 <<< ((1 : Int32).toInt64 &&& 63)) H)
  else (
    jL_Mo_putVarint_20 fu fu a0 ((a1 <<< ((1 : Int32).toInt64 &&& 63)) ^^^ (-1 : Int64)) H)
theorem jl_Mo_putVarint_20 {E : zE} {d : Nat} (hd : 1 ≤ d) (fu : Nat) : ∀ (g : Nat), ∀ (a0 : Option Nat) (a3 : Int64) (H : zH), z_S E jM_Mo_putVarint d 0 0 zwV 20 [(0, zR a0), (3, zL a3)] [] H 0 0 (jL_Mo_putVarint_20 fu g a0 a3 H) := by
  intro g
  induction g with
  | zero => intros; exact zs_none
  | succ g ih =>
    intro a0 a3 H
    rw [jL_Mo_putVarint_20]
    refine zs_lload_n (pc := 20) (x := a3) d_Mo_putVarint_20 rfl ?_
    refine zs_ldc2 (pc := 21) (v := (-128 : Int64)) d_Mo_putVarint_21 kC_Mo_133 ?_
    refine zs_land (pc := 24) d_Mo_putVarint_24 ?_
    refine zs_lconst (pc := 25) (v := (0 : Int64)) d_Mo_putVarint_25 (by decide) ?_
    refine zs_lcmp_eq (pc := 26) (tgt := 52) d_Mo_putVarint_26 d_Mo_putVarint_27 rfl (fun q26 => ?_) (fun q26 => ?_)
    · refine zs_aload_n (pc := 52) (x := a0) d_Mo_putVarint_52 rfl ?_
      refine zs_lload_n (pc := 53) (x := a3) d_Mo_putVarint_53 rfl ?_
      refine zs_l2i (pc := 54) d_Mo_putVarint_54 ?_
      refine zs_callv_wV (pc := 55) (av := [zI a3.toInt32]) (st := []) (d' := 0) (C' := 0) (S' := 0) d_Mo_putVarint_55 kV_Mo_137 z_okb (jm_Mo_putByte (d := 0) (Nat.le_refl _) a0 a3.toInt32 H) (by omega) (Nat.le_of_ble_eq_true rfl) (Nat.le_of_ble_eq_true rfl) rfl rfl (Nat.le_of_ble_eq_true rfl) fun y55 => ?_
      exact zs_vret (pc := 58) d_Mo_putVarint_58 rfl (Nat.le_of_ble_eq_true rfl) (Nat.le_of_ble_eq_true rfl) rfl
    · refine zs_aload_n (pc := 30) (x := a0) d_Mo_putVarint_30 rfl ?_
      refine zs_lload_n (pc := 31) (x := a3) d_Mo_putVarint_31 rfl ?_
      refine zs_ldc2 (pc := 32) (v := (127 : Int64)) d_Mo_putVarint_32 kC_Mo_135 ?_
      refine zs_land (pc := 35) d_Mo_putVarint_35 ?_
      refine zs_l2i (pc := 36) d_Mo_putVarint_36 ?_
      refine zs_sipush (pc := 37) (v := (128 : Int32)) d_Mo_putVarint_37 (by decide) ?_
      refine zs_iadd (pc := 40) d_Mo_putVarint_40 ?_
      refine zs_callv_wV (pc := 41) (av := [zI (((a3 &&& (127 : Int64)).toInt32) + (128 : Int32))]) (st := []) (d' := 0) (C' := 0) (S' := 0) d_Mo_putVarint_41 kV_Mo_137 z_okb (jm_Mo_putByte (d := 0) (Nat.le_refl _) a0 (((a3 &&& (127 : Int64)).toInt32) + (128 : Int32)) H) (by omega) (Nat.le_of_ble_eq_true rfl) (Nat.le_of_ble_eq_true rfl) rfl rfl (Nat.le_of_ble_eq_true rfl) fun y41 => ?_
      refine zs_lload_n (pc := 44) (x := a3) d_Mo_putVarint_44 rfl ?_
      refine zs_bipush (pc := 45) (v := (7 : Int32)) d_Mo_putVarint_45 (by decide) ?_
      refine zs_lushr (pc := 47) d_Mo_putVarint_47 ?_
      refine zs_lstore_n (pc := 48) (lv' := [(3, zL ((a3.toUInt64 >>> ((7 : Int32).toInt64.toUInt64 &&& Int64.toUInt64 63)).toInt64)), (0, zR a0)]) d_Mo_putVarint_48 (Nat.le_of_ble_eq_true rfl) rfl ?_
      refine zs_goto (pc := 49) (tgt := 20) d_Mo_putVarint_49 rfl ?_
      refine zs_sub (lv' := [(0, zR a0), (3, zL ((a3.toUInt64 >>> ((7 : Int32).toInt64.toUInt64 &&& Int64.toUInt64 63)).toInt64))]) [1, 0] rfl ?_
      exact ih a0 ((a3.toUInt64 >>> ((7 : Int32).toInt64.toUInt64 &&& Int64.toUInt64 63)).toInt64) y41
theorem jm_Mo_putVarint {E : zE} {d : Nat} (hd : 1 ≤ d) (fu : Nat) (a0 : Option Nat) (a1 : Int64) (H : zH) : z_MS E jM_Mo_putVarint d 0 0 zwV [zR a0, zL a1] H (jF_Mo_putVarint fu a0 a1 H) := by
  refine zs_of (lv0 := [(0, zR a0), (1, zL a1)]) pn_Mo (Nat.le_of_ble_eq_true rfl) rfl ?_
  unfold jF_Mo_putVarint
  refine zs_bind fun _ _ => ?_
  refine zs_lload_n (pc := 0) (x := a1) d_Mo_putVarint_0 rfl ?_
  refine zs_lconst (pc := 1) (v := (0 : Int64)) d_Mo_putVarint_1 (by decide) ?_
  refine zs_lcmp_ge (pc := 2) (tgt := 16) d_Mo_putVarint_2 d_Mo_putVarint_3 rfl (fun q2 => ?_) (fun q2 => ?_)
  · refine zs_lload_n (pc := 16) (x := a1) d_Mo_putVarint_16 rfl ?_
    refine zs_iconst (pc := 17) (v := (1 : Int32)) d_Mo_putVarint_17 (by decide) ?_
    refine zs_lshl (pc := 18) d_Mo_putVarint_18 ?_
    refine zs_lstore_n (pc := 19) (lv' := [(3, zL (a1 <<< ((1 : Int32).toInt64 &&& 63))), (0, zR a0), (1, zL a1)]) d_Mo_putVarint_19 (Nat.le_of_ble_eq_true rfl) rfl ?_
    refine zs_sub (lv' := [(0, zR a0), (3, zL (a1 <<< ((1 : Int32).toInt64 &&& 63)))]) [1, 0] rfl ?_
    exact jl_Mo_putVarint_20 hd fu fu a0 (a1 <<< ((1 : Int32).toInt64 &&& 63)) H
  · refine zs_lload_n (pc := 6) (x := a1) d_Mo_putVarint_6 rfl ?_
    refine zs_iconst (pc := 7) (v := (1 : Int32)) d_Mo_putVarint_7 (by decide) ?_
    refine zs_lshl (pc := 8) d_Mo_putVarint_8 ?_
    refine zs_ldc2 (pc := 9) (v := (-1 : Int64)) d_Mo_putVarint_9 kC_Mo_131 ?_
    refine zs_lxor (pc := 12) d_Mo_putVarint_12 ?_
    refine zs_goto (pc := 13) (tgt := 19) d_Mo_putVarint_13 rfl ?_
    refine zs_lstore_n (pc := 19) (lv' := [(3, zL ((a1 <<< ((1 : Int32).toInt64 &&& 63)) ^^^ (-1 : Int64))), (0, zR a0), (1, zL a1)]) d_Mo_putVarint_19 (Nat.le_of_ble_eq_true rfl) rfl ?_
    refine zs_sub (lv' := [(0, zR a0), (3, zL ((a1 <<< ((1 : Int32).toInt64 &&& 63)) ^^^ (-1 : Int64)))]) [1, 0] rfl ?_
    exact jl_Mo_putVarint_20 hd fu fu a0 ((a1 <<< ((1 : Int32).toInt64 &&& 63)) ^^^ (-1 : Int64)) H
def jL_Mo_below_4 (fu : Nat) (H : zH) : Nat → Int32 → Int32 → Int32 → Int32 → Option Int32
  | 0, _, _, _, _ => none
  | g + 1, a0, a1, a2, a3 =>
    if a1 ≤ a3 then (
      some a2)
    else (
      jL_Mo_below_4 fu H g a0 a1 (a2 + ((a0 >>> (a3 &&& 31)) &&& (1 : Int32))) (a3 + (1 : Int32)))
def jF_Mo_below (fu : Nat) (a0 : Int32) (a1 : Int32) (H : zH) : Option Int32 :=
  jL_Mo_below_4 fu H fu a0 a1 (0 : Int32) (0 : Int32)
theorem jl_Mo_below_4 {E : zE} {d : Nat} (hd : 0 ≤ d) (fu : Nat) (H : zH) : ∀ (g : Nat), ∀ (a0 : Int32) (a1 : Int32) (a2 : Int32) (a3 : Int32), z_S E jM_Mo_below d 0 0 (zrI H) 4 [(0, zI a0), (1, zI a1), (2, zI a2), (3, zI a3)] [] H 0 0 (jL_Mo_below_4 fu H g a0 a1 a2 a3) := by
  intro g
  induction g with
  | zero => intros; exact zs_none
  | succ g ih =>
    intro a0 a1 a2 a3
    rw [jL_Mo_below_4]
    refine zs_iload_n (pc := 4) (x := a3) d_Mo_below_4 rfl ?_
    refine zs_iload_n (pc := 5) (x := a1) d_Mo_below_5 rfl ?_
    refine zs_icmp_ge (pc := 6) (tgt := 23) d_Mo_below_6 rfl (fun q6 => ?_) (fun q6 => ?_)
    · refine zs_iload_n (pc := 23) (x := a2) d_Mo_below_23 rfl ?_
      exact zs_iret (pc := 24) d_Mo_below_24 rfl (Nat.le_of_ble_eq_true rfl) (Nat.le_of_ble_eq_true rfl) rfl
    · refine zs_iload_n (pc := 9) (x := a2) d_Mo_below_9 rfl ?_
      refine zs_iload_n (pc := 10) (x := a0) d_Mo_below_10 rfl ?_
      refine zs_iload_n (pc := 11) (x := a3) d_Mo_below_11 rfl ?_
      refine zs_ishr (pc := 12) d_Mo_below_12 ?_
      refine zs_iconst (pc := 13) (v := (1 : Int32)) d_Mo_below_13 (by decide) ?_
      refine zs_iand (pc := 14) d_Mo_below_14 ?_
      refine zs_iadd (pc := 15) d_Mo_below_15 ?_
      refine zs_istore_n (pc := 16) (lv' := [(2, zI (a2 + ((a0 >>> (a3 &&& 31)) &&& (1 : Int32)))), (0, zI a0), (1, zI a1), (3, zI a3)]) d_Mo_below_16 (Nat.le_of_ble_eq_true rfl) rfl ?_
      refine zs_iinc (pc := 17) (x := a3) (v := (a3 + (1 : Int32))) (lv' := [(3, zI (a3 + (1 : Int32))), (2, zI (a2 + ((a0 >>> (a3 &&& 31)) &&& (1 : Int32)))), (0, zI a0), (1, zI a1)]) d_Mo_below_17 rfl rfl (Nat.le_of_ble_eq_true rfl) rfl ?_
      refine zs_goto (pc := 20) (tgt := 4) d_Mo_below_20 rfl ?_
      refine zs_sub (lv' := [(0, zI a0), (1, zI a1), (2, zI (a2 + ((a0 >>> (a3 &&& 31)) &&& (1 : Int32)))), (3, zI (a3 + (1 : Int32)))]) [2, 3, 1, 0] rfl ?_
      exact ih a0 a1 (a2 + ((a0 >>> (a3 &&& 31)) &&& (1 : Int32))) (a3 + (1 : Int32))
theorem jm_Mo_below {E : zE} {d : Nat} (hd : 0 ≤ d) (fu : Nat) (a0 : Int32) (a1 : Int32) (H : zH) : z_MS E jM_Mo_below d 0 0 (zrI H) [zI a0, zI a1] H (jF_Mo_below fu a0 a1 H) := by
  refine zs_of (lv0 := [(0, zI a0), (1, zI a1)]) pn_Mo (Nat.le_of_ble_eq_true rfl) rfl ?_
  unfold jF_Mo_below
  refine zs_iconst (pc := 0) (v := (0 : Int32)) d_Mo_below_0 (by decide) ?_
  refine zs_istore_n (pc := 1) (lv' := [(2, zI (0 : Int32)), (0, zI a0), (1, zI a1)]) d_Mo_below_1 (Nat.le_of_ble_eq_true rfl) rfl ?_
  refine zs_iconst (pc := 2) (v := (0 : Int32)) d_Mo_below_2 (by decide) ?_
  refine zs_istore_n (pc := 3) (lv' := [(3, zI (0 : Int32)), (2, zI (0 : Int32)), (0, zI a0), (1, zI a1)]) d_Mo_below_3 (Nat.le_of_ble_eq_true rfl) rfl ?_
  refine zs_sub (lv' := [(0, zI a0), (1, zI a1), (2, zI (0 : Int32)), (3, zI (0 : Int32))]) [2, 3, 1, 0] rfl ?_
  exact jl_Mo_below_4 hd fu H fu a0 a1 (0 : Int32) (0 : Int32)
def jJ_Mo_encode_253 (fu : Nat) (k11 : Option Nat → Int32 → Int32 → zH → Option zH) (s0 : Int64) (s1 : Option Nat) (a0 : Option Nat) (a2 : Int32) (a3 : Int32) (H : zH) : Option zH :=
  (jF_Mo_putVarint fu s1 s0 H).bind fun y253 =>
  k11 a0 a2 a3 y253
def jJ_Mo_encode_220 (fu : Nat) (k11 : Option Nat → Int32 → Int32 → zH → Option zH) (s0 : Int32) (s1 : Int32) (s2 : Option Nat) (a0 : Option Nat) (a2 : Int32) (a3 : Int32) (H : zH) : Option zH :=
  (zsI H s2 0 s1 s0).bind fun H220 =>
  k11 a0 (a2 + (1 : Int32)) a3 H220
def jL_Mo_encode_139 (fu : Nat) (k11 : Option Nat → Int32 → Int32 → zH → Option zH) : Nat → Option Nat → Int32 → Int32 → Int32 → Int64 → Int32 → zH → Option zH
  | 0, _, _, _, _, _, _, _ => none
  | g + 1, a0, a2, a3, a4, a6, a8, H =>
    if a6.toInt32 ≤ a8 then (
      k11 a0 (a2 + a6.toInt32) a3 H)
    else (
      (zgR H a0 1 31).bind fun v148 =>
      (zgR H a0 1 3).bind fun v156 =>
      (zaI H v156 0 a4).bind fun v161 =>
      (zsI H v148 0 (a2 + a8) v161).bind fun H162 =>
      jL_Mo_encode_139 fu k11 g a0 a2 a3 a4 a6 (a8 + (1 : Int32)) H162)
def jJ_Mo_encode_126 (fu : Nat) (k11 : Option Nat → Int32 → Int32 → zH → Option zH) (a0 : Option Nat) (a2 : Int32) (a3 : Int32) (a4 : Int32) (a6 : Int64) (H : zH) : Option zH :=
  (zgR H a0 1 31).bind fun v127 =>
  (zsI H v127 0 a2 (-1 : Int32)).bind fun H132 =>
  jL_Mo_encode_139 fu k11 fu a0 (a2 + (1 : Int32)) a3 a4 a6 (0 : Int32) H132
def jJ_Mo_encode_42 (fu : Nat) (k11 : Option Nat → Int32 → Int32 → zH → Option zH) (s0 : Int32) (a0 : Option Nat) (a2 : Int32) (a3 : Int32) (a4 : Int32) (H : zH) : Option zH :=
  if 0 ≤ s0 then (
    if s0 = (7 : Int32) then (
      (jF_Mo_fieldsCome fu a0 a4 a2 H).bind fun y68 =>
      k11 a0 y68.1 a3 y68.2)
    else (
      if s0 = 0 then (
        k11 a0 a2 a3 H)
      else (
        (zgR H a0 1 30).bind fun v81 =>
        (zaL H v81 2 a3).bind fun v85 =>
        if s0 = (1 : Int32) then (
          (jF_Mo_putByte a0 v85.toInt32 H).bind fun y101 =>
          k11 a0 a2 (a3 + (1 : Int32)) y101)
        else (
          if s0 = (5 : Int32) then (
            if v85 ≤ (0 : Int64) then (
              jJ_Mo_encode_126 fu k11 a0 a2 (a3 + (1 : Int32)) a4 v85 H)
            else (
              (jF_Mo_putVarint fu a0 v85 H).bind fun y123 =>
              jJ_Mo_encode_126 fu k11 a0 a2 (a3 + (1 : Int32)) a4 v85 y123))
          else (
            if s0 = (6 : Int32) then (
              (jF_Mo_putVarint fu a0 v85 H).bind fun y188 =>
              (zgR y188 a0 1 31).bind fun v192 =>
              if v85 = (0 : Int64) then (
                (zgR y188 a0 1 3).bind fun v204 =>
                (zaI y188 v204 0 a4).bind fun v209 =>
                jJ_Mo_encode_220 fu k11 v209 a2 v192 a0 a2 (a3 + (1 : Int32)) y188)
              else (
                (zgR y188 a0 1 4).bind fun v214 =>
                (zaI y188 v214 0 a4).bind fun v219 =>
                jJ_Mo_encode_220 fu k11 v219 a2 v192 a0 a2 (a3 + (1 : Int32)) y188))
            else (
              if s0 = (4 : Int32) then (
                (zgR H a0 1 3).bind fun v235 =>
                (zaI H v235 0 a4).bind fun v240 =>
                (jF_Mo_below fu v240 v85.toInt32 H).bind fun y244 =>
                jJ_Mo_encode_253 fu k11 y244.toInt64 a0 a0 a2 (a3 + (1 : Int32)) H)
              else (
                jJ_Mo_encode_253 fu k11 v85 a0 a0 a2 (a3 + (1 : Int32)) H)))))))
  else (
    (jF_Mo_putByte a0 (0 : Int32) H).bind fun y51 =>
    k11 a0 a2 a3 y51)
def jL_Mo_encode_11 (fu : Nat) : Nat → Option Nat → Int32 → Int32 → zH → Option zH
  | 0, _, _, _, _ => none
  | g + 1, a0, a2, a3, H =>
    if a2 ≤ 0 then (
      some H)
    else (
      (zgR H a0 1 31).bind fun v19 =>
      (zaI H v19 0 (a2 + (-1 : Int32))).bind fun v23 =>
      if 0 ≤ v23 then (
        (zgR H a0 1 1).bind fun v36 =>
        (zaI H v36 0 v23).bind fun v41 =>
        jJ_Mo_encode_42 fu (fun x0 x1 x2 x3 => jL_Mo_encode_11 fu g x0 x1 x2 x3) v41 a0 (a2 + (-1 : Int32)) a3 v23 H)
      else (
        jJ_Mo_encode_42 fu (fun x0 x1 x2 x3 => jL_Mo_encode_11 fu g x0 x1 x2 x3) (-1 : Int32) a0 (a2 + (-1 : Int32)) a3 v23 H))
def jF_Mo_encode (fu : Nat) (a0 : Option Nat) (a1 : Int32) (H : zH) : Option zH :=
  (zok H a0 1).bind fun _ =>
  (zgR H a0 1 31).bind fun v5 =>
  (zsI H v5 0 (0 : Int32) a1).bind fun H10 =>
  jL_Mo_encode_11 fu fu a0 (1 : Int32) (0 : Int32) H10
theorem jj_Mo_encode_253 {E : zE} {d : Nat} (hd : 2 ≤ d) (fu : Nat) (k11 : Option Nat → Int32 → Int32 → zH → Option zH) (hk11 : ∀ (a0 : Option Nat) (a2 : Int32) (a3 : Int32) (H : zH), z_S E jM_Mo_encode d 0 0 zwV 11 [(0, zR a0), (2, zI a2), (3, zI a3)] [] H 0 0 (k11 a0 a2 a3 H)) : ∀ (s0 : Int64) (s1 : Option Nat) (a0 : Option Nat) (a2 : Int32) (a3 : Int32) (H : zH), z_S E jM_Mo_encode d 0 0 zwV 253 [(0, zR a0), (2, zI a2), (3, zI a3)] [zL s0, zR s1] H 0 0 (jJ_Mo_encode_253 fu k11 s0 s1 a0 a2 a3 H) := by
  intro s0 s1 a0 a2 a3 H
  unfold jJ_Mo_encode_253
  refine zs_callv_wV (pc := 253) (av := [zL s0]) (st := []) (d' := 1) (C' := 0) (S' := 0) d_Mo_encode_253 kV_Mo_141 z_okb (jm_Mo_putVarint (d := 1) (Nat.le_refl _) fu s1 s0 H) (by omega) (Nat.le_of_ble_eq_true rfl) (Nat.le_of_ble_eq_true rfl) rfl rfl (Nat.le_of_ble_eq_true rfl) fun y253 => ?_
  refine zs_goto (pc := 256) (tgt := 11) d_Mo_encode_256 rfl ?_
  exact hk11 a0 a2 a3 y253
theorem jj_Mo_encode_220 {E : zE} {d : Nat} (hd : 2 ≤ d) (fu : Nat) (k11 : Option Nat → Int32 → Int32 → zH → Option zH) (hk11 : ∀ (a0 : Option Nat) (a2 : Int32) (a3 : Int32) (H : zH), z_S E jM_Mo_encode d 0 0 zwV 11 [(0, zR a0), (2, zI a2), (3, zI a3)] [] H 0 0 (k11 a0 a2 a3 H)) : ∀ (s0 : Int32) (s1 : Int32) (s2 : Option Nat) (a0 : Option Nat) (a2 : Int32) (a3 : Int32) (H : zH), z_S E jM_Mo_encode d 0 0 zwV 220 [(0, zR a0), (2, zI a2), (3, zI a3)] [zI s0, zI s1, zR s2] H 0 0 (jJ_Mo_encode_220 fu k11 s0 s1 s2 a0 a2 a3 H) := by
  intro s0 s1 s2 a0 a2 a3 H
  unfold jJ_Mo_encode_220
  refine zs_iast (t := 0) (pc := 220) d_Mo_encode_220 rfl fun H220 => ?_
  refine zs_iinc (pc := 221) (x := a2) (v := (a2 + (1 : Int32))) (lv' := [(2, zI (a2 + (1 : Int32))), (0, zR a0), (3, zI a3)]) d_Mo_encode_221 rfl rfl (Nat.le_of_ble_eq_true rfl) rfl ?_
  refine zs_goto (pc := 224) (tgt := 256) d_Mo_encode_224 rfl ?_
  refine zs_goto (pc := 256) (tgt := 11) d_Mo_encode_256 rfl ?_
  refine zs_sub (lv' := [(0, zR a0), (2, zI (a2 + (1 : Int32))), (3, zI a3)]) [1, 0, 2] rfl ?_
  exact hk11 a0 (a2 + (1 : Int32)) a3 H220
theorem jl_Mo_encode_139 {E : zE} {d : Nat} (hd : 2 ≤ d) (fu : Nat) (k11 : Option Nat → Int32 → Int32 → zH → Option zH) (hk11 : ∀ (a0 : Option Nat) (a2 : Int32) (a3 : Int32) (H : zH), z_S E jM_Mo_encode d 0 0 zwV 11 [(0, zR a0), (2, zI a2), (3, zI a3)] [] H 0 0 (k11 a0 a2 a3 H)) : ∀ (g : Nat), ∀ (a0 : Option Nat) (a2 : Int32) (a3 : Int32) (a4 : Int32) (a6 : Int64) (a8 : Int32) (H : zH), z_S E jM_Mo_encode d 0 0 zwV 139 [(0, zR a0), (2, zI a2), (3, zI a3), (4, zI a4), (6, zL a6), (8, zI a8)] [] H 0 0 (jL_Mo_encode_139 fu k11 g a0 a2 a3 a4 a6 a8 H) := by
  intro g
  induction g with
  | zero => intros; exact zs_none
  | succ g ih =>
    intro a0 a2 a3 a4 a6 a8 H
    rw [jL_Mo_encode_139]
    refine zs_iload (pc := 139) (x := a8) d_Mo_encode_139 rfl ?_
    refine zs_lload (pc := 141) (x := a6) d_Mo_encode_141 rfl ?_
    refine zs_l2i (pc := 143) d_Mo_encode_143 ?_
    refine zs_icmp_ge (pc := 144) (tgt := 169) d_Mo_encode_144 rfl (fun q144 => ?_) (fun q144 => ?_)
    · refine zs_iload_n (pc := 169) (x := a2) d_Mo_encode_169 rfl ?_
      refine zs_lload (pc := 170) (x := a6) d_Mo_encode_170 rfl ?_
      refine zs_l2i (pc := 172) d_Mo_encode_172 ?_
      refine zs_iadd (pc := 173) d_Mo_encode_173 ?_
      refine zs_istore_n (pc := 174) (lv' := [(2, zI (a2 + a6.toInt32)), (0, zR a0), (3, zI a3), (4, zI a4), (6, zL a6), (8, zI a8)]) d_Mo_encode_174 (Nat.le_of_ble_eq_true rfl) rfl ?_
      refine zs_goto (pc := 175) (tgt := 256) d_Mo_encode_175 rfl ?_
      refine zs_goto (pc := 256) (tgt := 11) d_Mo_encode_256 rfl ?_
      refine zs_sub (lv' := [(0, zR a0), (2, zI (a2 + a6.toInt32)), (3, zI a3)]) [1, 0, 2] rfl ?_
      exact hk11 a0 (a2 + a6.toInt32) a3 H
    · refine zs_aload_n (pc := 147) (x := a0) d_Mo_encode_147 rfl ?_
      refine zs_getR (pc := 148) d_Mo_encode_148 kF_Mo_69 fun v148 => ?_
      refine zs_iload_n (pc := 151) (x := a2) d_Mo_encode_151 rfl ?_
      refine zs_iload (pc := 152) (x := a8) d_Mo_encode_152 rfl ?_
      refine zs_iadd (pc := 154) d_Mo_encode_154 ?_
      refine zs_aload_n (pc := 155) (x := a0) d_Mo_encode_155 rfl ?_
      refine zs_getR (pc := 156) d_Mo_encode_156 kF_Mo_16 fun v156 => ?_
      refine zs_iload (pc := 159) (x := a4) d_Mo_encode_159 rfl ?_
      refine zs_iald (t := 0) (pc := 161) d_Mo_encode_161 rfl fun v161 => ?_
      refine zs_iast (t := 0) (pc := 162) d_Mo_encode_162 rfl fun H162 => ?_
      refine zs_iinc (pc := 163) (x := a8) (v := (a8 + (1 : Int32))) (lv' := [(8, zI (a8 + (1 : Int32))), (0, zR a0), (2, zI a2), (3, zI a3), (4, zI a4), (6, zL a6)]) d_Mo_encode_163 rfl rfl (Nat.le_of_ble_eq_true rfl) rfl ?_
      refine zs_goto (pc := 166) (tgt := 139) d_Mo_encode_166 rfl ?_
      refine zs_sub (lv' := [(0, zR a0), (2, zI a2), (3, zI a3), (4, zI a4), (6, zL a6), (8, zI (a8 + (1 : Int32)))]) [1, 2, 3, 4, 5, 0] rfl ?_
      exact ih a0 a2 a3 a4 a6 (a8 + (1 : Int32)) H162
theorem jj_Mo_encode_126 {E : zE} {d : Nat} (hd : 2 ≤ d) (fu : Nat) (k11 : Option Nat → Int32 → Int32 → zH → Option zH) (hk11 : ∀ (a0 : Option Nat) (a2 : Int32) (a3 : Int32) (H : zH), z_S E jM_Mo_encode d 0 0 zwV 11 [(0, zR a0), (2, zI a2), (3, zI a3)] [] H 0 0 (k11 a0 a2 a3 H)) : ∀ (a0 : Option Nat) (a2 : Int32) (a3 : Int32) (a4 : Int32) (a6 : Int64) (H : zH), z_S E jM_Mo_encode d 0 0 zwV 126 [(0, zR a0), (2, zI a2), (3, zI a3), (4, zI a4), (6, zL a6)] [] H 0 0 (jJ_Mo_encode_126 fu k11 a0 a2 a3 a4 a6 H) := by
  intro a0 a2 a3 a4 a6 H
  unfold jJ_Mo_encode_126
  refine zs_aload_n (pc := 126) (x := a0) d_Mo_encode_126 rfl ?_
  refine zs_getR (pc := 127) d_Mo_encode_127 kF_Mo_69 fun v127 => ?_
  refine zs_iload_n (pc := 130) (x := a2) d_Mo_encode_130 rfl ?_
  refine zs_iconst (pc := 131) (v := (-1 : Int32)) d_Mo_encode_131 (by decide) ?_
  refine zs_iast (t := 0) (pc := 132) d_Mo_encode_132 rfl fun H132 => ?_
  refine zs_iinc (pc := 133) (x := a2) (v := (a2 + (1 : Int32))) (lv' := [(2, zI (a2 + (1 : Int32))), (0, zR a0), (3, zI a3), (4, zI a4), (6, zL a6)]) d_Mo_encode_133 rfl rfl (Nat.le_of_ble_eq_true rfl) rfl ?_
  refine zs_iconst (pc := 136) (v := (0 : Int32)) d_Mo_encode_136 (by decide) ?_
  refine zs_istore (pc := 137) (lv' := [(8, zI (0 : Int32)), (2, zI (a2 + (1 : Int32))), (0, zR a0), (3, zI a3), (4, zI a4), (6, zL a6)]) d_Mo_encode_137 (Nat.le_of_ble_eq_true rfl) rfl ?_
  refine zs_sub (lv' := [(0, zR a0), (2, zI (a2 + (1 : Int32))), (3, zI a3), (4, zI a4), (6, zL a6), (8, zI (0 : Int32))]) [2, 1, 3, 4, 5, 0] rfl ?_
  exact jl_Mo_encode_139 hd fu k11 hk11 fu a0 (a2 + (1 : Int32)) a3 a4 a6 (0 : Int32) H132
theorem jj_Mo_encode_42 {E : zE} {d : Nat} (hd : 2 ≤ d) (fu : Nat) (k11 : Option Nat → Int32 → Int32 → zH → Option zH) (hk11 : ∀ (a0 : Option Nat) (a2 : Int32) (a3 : Int32) (H : zH), z_S E jM_Mo_encode d 0 0 zwV 11 [(0, zR a0), (2, zI a2), (3, zI a3)] [] H 0 0 (k11 a0 a2 a3 H)) : ∀ (s0 : Int32) (a0 : Option Nat) (a2 : Int32) (a3 : Int32) (a4 : Int32) (H : zH), z_S E jM_Mo_encode d 0 0 zwV 42 [(0, zR a0), (2, zI a2), (3, zI a3), (4, zI a4)] [zI s0] H 0 0 (jJ_Mo_encode_42 fu k11 s0 a0 a2 a3 a4 H) := by
  intro s0 a0 a2 a3 a4 H
  unfold jJ_Mo_encode_42
  refine zs_istore (pc := 42) (lv' := [(5, zI s0), (0, zR a0), (2, zI a2), (3, zI a3), (4, zI a4)]) d_Mo_encode_42 (Nat.le_of_ble_eq_true rfl) rfl ?_
  refine zs_iload (pc := 44) (x := s0) d_Mo_encode_44 rfl ?_
  refine zs_if_ge (pc := 46) (tgt := 57) d_Mo_encode_46 rfl (fun q46 => ?_) (fun q46 => ?_)
  · refine zs_iload (pc := 57) (x := s0) d_Mo_encode_57 rfl ?_
    refine zs_bipush (pc := 59) (v := (7 : Int32)) d_Mo_encode_59 (by decide) ?_
    refine zs_icmp_ne (pc := 61) (tgt := 75) d_Mo_encode_61 rfl (fun q61 => ?_) (fun q61 => ?_)
    · refine zs_iload (pc := 75) (x := s0) d_Mo_encode_75 rfl ?_
      refine zs_if_eq (pc := 77) (tgt := 256) d_Mo_encode_77 rfl (fun q77 => ?_) (fun q77 => ?_)
      · refine zs_goto (pc := 256) (tgt := 11) d_Mo_encode_256 rfl ?_
        refine zs_sub (lv' := [(0, zR a0), (2, zI a2), (3, zI a3)]) [1, 2, 3] rfl ?_
        exact hk11 a0 a2 a3 H
      · refine zs_aload_n (pc := 80) (x := a0) d_Mo_encode_80 rfl ?_
        refine zs_getR (pc := 81) d_Mo_encode_81 kF_Mo_66 fun v81 => ?_
        refine zs_iload_n (pc := 84) (x := a3) d_Mo_encode_84 rfl ?_
        refine zs_lald (t := 2) (pc := 85) d_Mo_encode_85 rfl fun v85 => ?_
        refine zs_lstore (pc := 86) (lv' := [(6, zL v85), (5, zI s0), (0, zR a0), (2, zI a2), (3, zI a3), (4, zI a4)]) d_Mo_encode_86 (Nat.le_of_ble_eq_true rfl) rfl ?_
        refine zs_iinc (pc := 88) (x := a3) (v := (a3 + (1 : Int32))) (lv' := [(3, zI (a3 + (1 : Int32))), (6, zL v85), (5, zI s0), (0, zR a0), (2, zI a2), (4, zI a4)]) d_Mo_encode_88 rfl rfl (Nat.le_of_ble_eq_true rfl) rfl ?_
        refine zs_iload (pc := 91) (x := s0) d_Mo_encode_91 rfl ?_
        refine zs_iconst (pc := 93) (v := (1 : Int32)) d_Mo_encode_93 (by decide) ?_
        refine zs_icmp_ne (pc := 94) (tgt := 107) d_Mo_encode_94 rfl (fun q94 => ?_) (fun q94 => ?_)
        · refine zs_iload (pc := 107) (x := s0) d_Mo_encode_107 rfl ?_
          refine zs_iconst (pc := 109) (v := (5 : Int32)) d_Mo_encode_109 (by decide) ?_
          refine zs_icmp_ne (pc := 110) (tgt := 178) d_Mo_encode_110 rfl (fun q110 => ?_) (fun q110 => ?_)
          · refine zs_iload (pc := 178) (x := s0) d_Mo_encode_178 rfl ?_
            refine zs_bipush (pc := 180) (v := (6 : Int32)) d_Mo_encode_180 (by decide) ?_
            refine zs_icmp_ne (pc := 182) (tgt := 227) d_Mo_encode_182 rfl (fun q182 => ?_) (fun q182 => ?_)
            · refine zs_aload_n (pc := 227) (x := a0) d_Mo_encode_227 rfl ?_
              refine zs_iload (pc := 228) (x := s0) d_Mo_encode_228 rfl ?_
              refine zs_iconst (pc := 230) (v := (4 : Int32)) d_Mo_encode_230 (by decide) ?_
              refine zs_icmp_ne (pc := 231) (tgt := 251) d_Mo_encode_231 rfl (fun q231 => ?_) (fun q231 => ?_)
              · refine zs_lload (pc := 251) (x := v85) d_Mo_encode_251 rfl ?_
                refine zs_sub (lv' := [(0, zR a0), (2, zI a2), (3, zI (a3 + (1 : Int32)))]) [3, 4, 0] rfl ?_
                exact jj_Mo_encode_253 hd fu k11 hk11 v85 a0 a0 a2 (a3 + (1 : Int32)) H
              · refine zs_aload_n (pc := 234) (x := a0) d_Mo_encode_234 rfl ?_
                refine zs_getR (pc := 235) d_Mo_encode_235 kF_Mo_16 fun v235 => ?_
                refine zs_iload (pc := 238) (x := a4) d_Mo_encode_238 rfl ?_
                refine zs_iald (t := 0) (pc := 240) d_Mo_encode_240 rfl fun v240 => ?_
                refine zs_lload (pc := 241) (x := v85) d_Mo_encode_241 rfl ?_
                refine zs_l2i (pc := 243) d_Mo_encode_243 ?_
                refine zs_calls_rI (pc := 244) (av := [zI v240, zI v85.toInt32]) (st := [zR a0]) (d' := 0) (C' := 0) (S' := 0) d_Mo_encode_244 kS_Mo_145 (jm_Mo_below (d := 0) (Nat.le_refl _) fu v240 v85.toInt32 H) (by omega) (Nat.le_of_ble_eq_true rfl) (Nat.le_of_ble_eq_true rfl) rfl rfl (Nat.le_of_ble_eq_true rfl) fun y244 => ?_
                refine zs_i2l (pc := 247) d_Mo_encode_247 ?_
                refine zs_goto (pc := 248) (tgt := 253) d_Mo_encode_248 rfl ?_
                refine zs_sub (lv' := [(0, zR a0), (2, zI a2), (3, zI (a3 + (1 : Int32)))]) [3, 4, 0] rfl ?_
                exact jj_Mo_encode_253 hd fu k11 hk11 y244.toInt64 a0 a0 a2 (a3 + (1 : Int32)) H
            · refine zs_aload_n (pc := 185) (x := a0) d_Mo_encode_185 rfl ?_
              refine zs_lload (pc := 186) (x := v85) d_Mo_encode_186 rfl ?_
              refine zs_callv_wV (pc := 188) (av := [zL v85]) (st := []) (d' := 1) (C' := 0) (S' := 0) d_Mo_encode_188 kV_Mo_141 z_okb (jm_Mo_putVarint (d := 1) (Nat.le_refl _) fu a0 v85 H) (by omega) (Nat.le_of_ble_eq_true rfl) (Nat.le_of_ble_eq_true rfl) rfl rfl (Nat.le_of_ble_eq_true rfl) fun y188 => ?_
              refine zs_aload_n (pc := 191) (x := a0) d_Mo_encode_191 rfl ?_
              refine zs_getR (pc := 192) d_Mo_encode_192 kF_Mo_69 fun v192 => ?_
              refine zs_iload_n (pc := 195) (x := a2) d_Mo_encode_195 rfl ?_
              refine zs_lload (pc := 196) (x := v85) d_Mo_encode_196 rfl ?_
              refine zs_lconst (pc := 198) (v := (0 : Int64)) d_Mo_encode_198 (by decide) ?_
              refine zs_lcmp_ne (pc := 199) (tgt := 213) d_Mo_encode_199 d_Mo_encode_200 rfl (fun q199 => ?_) (fun q199 => ?_)
              · refine zs_aload_n (pc := 213) (x := a0) d_Mo_encode_213 rfl ?_
                refine zs_getR (pc := 214) d_Mo_encode_214 kF_Mo_19 fun v214 => ?_
                refine zs_iload (pc := 217) (x := a4) d_Mo_encode_217 rfl ?_
                refine zs_iald (t := 0) (pc := 219) d_Mo_encode_219 rfl fun v219 => ?_
                refine zs_sub (lv' := [(0, zR a0), (2, zI a2), (3, zI (a3 + (1 : Int32)))]) [3, 4, 0] rfl ?_
                exact jj_Mo_encode_220 hd fu k11 hk11 v219 a2 v192 a0 a2 (a3 + (1 : Int32)) y188
              · refine zs_aload_n (pc := 203) (x := a0) d_Mo_encode_203 rfl ?_
                refine zs_getR (pc := 204) d_Mo_encode_204 kF_Mo_16 fun v204 => ?_
                refine zs_iload (pc := 207) (x := a4) d_Mo_encode_207 rfl ?_
                refine zs_iald (t := 0) (pc := 209) d_Mo_encode_209 rfl fun v209 => ?_
                refine zs_goto (pc := 210) (tgt := 220) d_Mo_encode_210 rfl ?_
                refine zs_sub (lv' := [(0, zR a0), (2, zI a2), (3, zI (a3 + (1 : Int32)))]) [3, 4, 0] rfl ?_
                exact jj_Mo_encode_220 hd fu k11 hk11 v209 a2 v192 a0 a2 (a3 + (1 : Int32)) y188
          · refine zs_lload (pc := 113) (x := v85) d_Mo_encode_113 rfl ?_
            refine zs_lconst (pc := 115) (v := (0 : Int64)) d_Mo_encode_115 (by decide) ?_
            refine zs_lcmp_le (pc := 116) (tgt := 126) d_Mo_encode_116 d_Mo_encode_117 rfl (fun q116 => ?_) (fun q116 => ?_)
            · refine zs_sub (lv' := [(0, zR a0), (2, zI a2), (3, zI (a3 + (1 : Int32))), (4, zI a4), (6, zL v85)]) [3, 4, 0, 5, 1] rfl ?_
              exact jj_Mo_encode_126 hd fu k11 hk11 a0 a2 (a3 + (1 : Int32)) a4 v85 H
            · refine zs_aload_n (pc := 120) (x := a0) d_Mo_encode_120 rfl ?_
              refine zs_lload (pc := 121) (x := v85) d_Mo_encode_121 rfl ?_
              refine zs_callv_wV (pc := 123) (av := [zL v85]) (st := []) (d' := 1) (C' := 0) (S' := 0) d_Mo_encode_123 kV_Mo_141 z_okb (jm_Mo_putVarint (d := 1) (Nat.le_refl _) fu a0 v85 H) (by omega) (Nat.le_of_ble_eq_true rfl) (Nat.le_of_ble_eq_true rfl) rfl rfl (Nat.le_of_ble_eq_true rfl) fun y123 => ?_
              refine zs_sub (lv' := [(0, zR a0), (2, zI a2), (3, zI (a3 + (1 : Int32))), (4, zI a4), (6, zL v85)]) [3, 4, 0, 5, 1] rfl ?_
              exact jj_Mo_encode_126 hd fu k11 hk11 a0 a2 (a3 + (1 : Int32)) a4 v85 y123
        · refine zs_aload_n (pc := 97) (x := a0) d_Mo_encode_97 rfl ?_
          refine zs_lload (pc := 98) (x := v85) d_Mo_encode_98 rfl ?_
          refine zs_l2i (pc := 100) d_Mo_encode_100 ?_
          refine zs_callv_wV (pc := 101) (av := [zI v85.toInt32]) (st := []) (d' := 0) (C' := 0) (S' := 0) d_Mo_encode_101 kV_Mo_137 z_okb (jm_Mo_putByte (d := 0) (Nat.le_refl _) a0 v85.toInt32 H) (by omega) (Nat.le_of_ble_eq_true rfl) (Nat.le_of_ble_eq_true rfl) rfl rfl (Nat.le_of_ble_eq_true rfl) fun y101 => ?_
          refine zs_goto (pc := 104) (tgt := 256) d_Mo_encode_104 rfl ?_
          refine zs_goto (pc := 256) (tgt := 11) d_Mo_encode_256 rfl ?_
          refine zs_sub (lv' := [(0, zR a0), (2, zI a2), (3, zI (a3 + (1 : Int32)))]) [3, 4, 0] rfl ?_
          exact hk11 a0 a2 (a3 + (1 : Int32)) y101
    · refine zs_aload_n (pc := 64) (x := a0) d_Mo_encode_64 rfl ?_
      refine zs_iload (pc := 65) (x := a4) d_Mo_encode_65 rfl ?_
      refine zs_iload_n (pc := 67) (x := a2) d_Mo_encode_67 rfl ?_
      refine zs_callv_wI (pc := 68) (av := [zI a4, zI a2]) (st := []) (d' := 0) (C' := 0) (S' := 0) d_Mo_encode_68 kV_Mo_123 z_okb (jm_Mo_fieldsCome (d := 0) (Nat.le_refl _) fu a0 a4 a2 H) (by omega) (Nat.le_of_ble_eq_true rfl) (Nat.le_of_ble_eq_true rfl) rfl rfl (Nat.le_of_ble_eq_true rfl) fun y68 => ?_
      refine zs_istore_n (pc := 71) (lv' := [(2, zI y68.1), (5, zI s0), (0, zR a0), (3, zI a3), (4, zI a4)]) d_Mo_encode_71 (Nat.le_of_ble_eq_true rfl) rfl ?_
      refine zs_goto (pc := 72) (tgt := 256) d_Mo_encode_72 rfl ?_
      refine zs_goto (pc := 256) (tgt := 11) d_Mo_encode_256 rfl ?_
      refine zs_sub (lv' := [(0, zR a0), (2, zI y68.1), (3, zI a3)]) [2, 0, 3] rfl ?_
      exact hk11 a0 y68.1 a3 y68.2
  · refine zs_aload_n (pc := 49) (x := a0) d_Mo_encode_49 rfl ?_
    refine zs_iconst (pc := 50) (v := (0 : Int32)) d_Mo_encode_50 (by decide) ?_
    refine zs_callv_wV (pc := 51) (av := [zI (0 : Int32)]) (st := []) (d' := 0) (C' := 0) (S' := 0) d_Mo_encode_51 kV_Mo_137 z_okb (jm_Mo_putByte (d := 0) (Nat.le_refl _) a0 (0 : Int32) H) (by omega) (Nat.le_of_ble_eq_true rfl) (Nat.le_of_ble_eq_true rfl) rfl rfl (Nat.le_of_ble_eq_true rfl) fun y51 => ?_
    refine zs_goto (pc := 54) (tgt := 256) d_Mo_encode_54 rfl ?_
    refine zs_goto (pc := 256) (tgt := 11) d_Mo_encode_256 rfl ?_
    refine zs_sub (lv' := [(0, zR a0), (2, zI a2), (3, zI a3)]) [1, 2, 3] rfl ?_
    exact hk11 a0 a2 a3 y51
theorem jl_Mo_encode_11 {E : zE} {d : Nat} (hd : 2 ≤ d) (fu : Nat) : ∀ (g : Nat), ∀ (a0 : Option Nat) (a2 : Int32) (a3 : Int32) (H : zH), z_S E jM_Mo_encode d 0 0 zwV 11 [(0, zR a0), (2, zI a2), (3, zI a3)] [] H 0 0 (jL_Mo_encode_11 fu g a0 a2 a3 H) := by
  intro g
  induction g with
  | zero => intros; exact zs_none
  | succ g ih =>
    intro a0 a2 a3 H
    rw [jL_Mo_encode_11]
    refine zs_iload_n (pc := 11) (x := a2) d_Mo_encode_11 rfl ?_
    refine zs_if_le (pc := 12) (tgt := 259) d_Mo_encode_12 rfl (fun q12 => ?_) (fun q12 => ?_)
    · exact zs_vret (pc := 259) d_Mo_encode_259 rfl (Nat.le_of_ble_eq_true rfl) (Nat.le_of_ble_eq_true rfl) rfl
    · refine zs_iinc (pc := 15) (x := a2) (v := (a2 + (-1 : Int32))) (lv' := [(2, zI (a2 + (-1 : Int32))), (0, zR a0), (3, zI a3)]) d_Mo_encode_15 rfl rfl (Nat.le_of_ble_eq_true rfl) rfl ?_
      refine zs_aload_n (pc := 18) (x := a0) d_Mo_encode_18 rfl ?_
      refine zs_getR (pc := 19) d_Mo_encode_19 kF_Mo_69 fun v19 => ?_
      refine zs_iload_n (pc := 22) (x := (a2 + (-1 : Int32))) d_Mo_encode_22 rfl ?_
      refine zs_iald (t := 0) (pc := 23) d_Mo_encode_23 rfl fun v23 => ?_
      refine zs_istore (pc := 24) (lv' := [(4, zI v23), (2, zI (a2 + (-1 : Int32))), (0, zR a0), (3, zI a3)]) d_Mo_encode_24 (Nat.le_of_ble_eq_true rfl) rfl ?_
      refine zs_iload (pc := 26) (x := v23) d_Mo_encode_26 rfl ?_
      refine zs_if_ge (pc := 28) (tgt := 35) d_Mo_encode_28 rfl (fun q28 => ?_) (fun q28 => ?_)
      · refine zs_aload_n (pc := 35) (x := a0) d_Mo_encode_35 rfl ?_
        refine zs_getR (pc := 36) d_Mo_encode_36 kF_Mo_7 fun v36 => ?_
        refine zs_iload (pc := 39) (x := v23) d_Mo_encode_39 rfl ?_
        refine zs_iald (t := 0) (pc := 41) d_Mo_encode_41 rfl fun v41 => ?_
        refine zs_sub (lv' := [(0, zR a0), (2, zI (a2 + (-1 : Int32))), (3, zI a3), (4, zI v23)]) [2, 1, 3, 0] rfl ?_
        exact jj_Mo_encode_42 hd fu (fun x0 x1 x2 x3 => jL_Mo_encode_11 fu g x0 x1 x2 x3) ih v41 a0 (a2 + (-1 : Int32)) a3 v23 H
      · refine zs_iconst (pc := 31) (v := (-1 : Int32)) d_Mo_encode_31 (by decide) ?_
        refine zs_goto (pc := 32) (tgt := 42) d_Mo_encode_32 rfl ?_
        refine zs_sub (lv' := [(0, zR a0), (2, zI (a2 + (-1 : Int32))), (3, zI a3), (4, zI v23)]) [2, 1, 3, 0] rfl ?_
        exact jj_Mo_encode_42 hd fu (fun x0 x1 x2 x3 => jL_Mo_encode_11 fu g x0 x1 x2 x3) ih (-1 : Int32) a0 (a2 + (-1 : Int32)) a3 v23 H
theorem jm_Mo_encode {E : zE} {d : Nat} (hd : 2 ≤ d) (fu : Nat) (a0 : Option Nat) (a1 : Int32) (H : zH) : z_MS E jM_Mo_encode d 0 0 zwV [zR a0, zI a1] H (jF_Mo_encode fu a0 a1 H) := by
  refine zs_of (lv0 := [(0, zR a0), (1, zI a1)]) pn_Mo (Nat.le_of_ble_eq_true rfl) rfl ?_
  unfold jF_Mo_encode
  refine zs_bind fun _ _ => ?_
  refine zs_iconst (pc := 0) (v := (1 : Int32)) d_Mo_encode_0 (by decide) ?_
  refine zs_istore_n (pc := 1) (lv' := [(2, zI (1 : Int32)), (0, zR a0), (1, zI a1)]) d_Mo_encode_1 (Nat.le_of_ble_eq_true rfl) rfl ?_
  refine zs_iconst (pc := 2) (v := (0 : Int32)) d_Mo_encode_2 (by decide) ?_
  refine zs_istore_n (pc := 3) (lv' := [(3, zI (0 : Int32)), (2, zI (1 : Int32)), (0, zR a0), (1, zI a1)]) d_Mo_encode_3 (Nat.le_of_ble_eq_true rfl) rfl ?_
  refine zs_aload_n (pc := 4) (x := a0) d_Mo_encode_4 rfl ?_
  refine zs_getR (pc := 5) d_Mo_encode_5 kF_Mo_69 fun v5 => ?_
  refine zs_iconst (pc := 8) (v := (0 : Int32)) d_Mo_encode_8 (by decide) ?_
  refine zs_iload_n (pc := 9) (x := a1) d_Mo_encode_9 rfl ?_
  refine zs_iast (t := 0) (pc := 10) d_Mo_encode_10 rfl fun H10 => ?_
  refine zs_sub (lv' := [(0, zR a0), (2, zI (1 : Int32)), (3, zI (0 : Int32))]) [2, 1, 0] rfl ?_
  exact jl_Mo_encode_11 hd fu fu a0 (1 : Int32) (0 : Int32) H10
def jL_Mo_symbol_2 (fu : Nat) (H : zH) : Nat → Int32 → Int32 → Int32 → Option Int32
  | 0, _, _, _ => none
  | g + 1, a0, a1, a2 =>
    if (7 : Int32) ≤ a2 then (
      some a2)
    else (
      (jF_Mo_below fu a0 a2 H).bind fun y10 =>
      if y10 = a1 then (
        if ((a0 >>> (a2 &&& 31)) &&& (1 : Int32)) = 0 then (
          jL_Mo_symbol_2 fu H g a0 a1 (a2 + (1 : Int32)))
        else (
          some a2))
      else (
        jL_Mo_symbol_2 fu H g a0 a1 (a2 + (1 : Int32))))
def jF_Mo_symbol (fu : Nat) (a0 : Int32) (a1 : Int32) (H : zH) : Option Int32 :=
  jL_Mo_symbol_2 fu H fu a0 a1 (0 : Int32)
theorem jl_Mo_symbol_2 {E : zE} {d : Nat} (hd : 1 ≤ d) (fu : Nat) (H : zH) : ∀ (g : Nat), ∀ (a0 : Int32) (a1 : Int32) (a2 : Int32), z_S E jM_Mo_symbol d 0 0 (zrI H) 2 [(0, zI a0), (1, zI a1), (2, zI a2)] [] H 0 0 (jL_Mo_symbol_2 fu H g a0 a1 a2) := by
  intro g
  induction g with
  | zero => intros; exact zs_none
  | succ g ih =>
    intro a0 a1 a2
    rw [jL_Mo_symbol_2]
    refine zs_iload_n (pc := 2) (x := a2) d_Mo_symbol_2 rfl ?_
    refine zs_bipush (pc := 3) (v := (7 : Int32)) d_Mo_symbol_3 (by decide) ?_
    refine zs_icmp_ge (pc := 5) (tgt := 31) d_Mo_symbol_5 rfl (fun q5 => ?_) (fun q5 => ?_)
    · refine zs_iload_n (pc := 31) (x := a2) d_Mo_symbol_31 rfl ?_
      exact zs_iret (pc := 32) d_Mo_symbol_32 rfl (Nat.le_of_ble_eq_true rfl) (Nat.le_of_ble_eq_true rfl) rfl
    · refine zs_iload_n (pc := 8) (x := a0) d_Mo_symbol_8 rfl ?_
      refine zs_iload_n (pc := 9) (x := a2) d_Mo_symbol_9 rfl ?_
      refine zs_calls_rI (pc := 10) (av := [zI a0, zI a2]) (st := []) (d' := 0) (C' := 0) (S' := 0) d_Mo_symbol_10 kS_Mo_145 (jm_Mo_below (d := 0) (Nat.le_refl _) fu a0 a2 H) (by omega) (Nat.le_of_ble_eq_true rfl) (Nat.le_of_ble_eq_true rfl) rfl rfl (Nat.le_of_ble_eq_true rfl) fun y10 => ?_
      refine zs_iload_n (pc := 13) (x := a1) d_Mo_symbol_13 rfl ?_
      refine zs_icmp_ne (pc := 14) (tgt := 25) d_Mo_symbol_14 rfl (fun q14 => ?_) (fun q14 => ?_)
      · refine zs_iinc (pc := 25) (x := a2) (v := (a2 + (1 : Int32))) (lv' := [(2, zI (a2 + (1 : Int32))), (0, zI a0), (1, zI a1)]) d_Mo_symbol_25 rfl rfl (Nat.le_of_ble_eq_true rfl) rfl ?_
        refine zs_goto (pc := 28) (tgt := 2) d_Mo_symbol_28 rfl ?_
        refine zs_sub (lv' := [(0, zI a0), (1, zI a1), (2, zI (a2 + (1 : Int32)))]) [1, 2, 0] rfl ?_
        exact ih a0 a1 (a2 + (1 : Int32))
      · refine zs_iload_n (pc := 17) (x := a0) d_Mo_symbol_17 rfl ?_
        refine zs_iload_n (pc := 18) (x := a2) d_Mo_symbol_18 rfl ?_
        refine zs_ishr (pc := 19) d_Mo_symbol_19 ?_
        refine zs_iconst (pc := 20) (v := (1 : Int32)) d_Mo_symbol_20 (by decide) ?_
        refine zs_iand (pc := 21) d_Mo_symbol_21 ?_
        refine zs_if_ne (pc := 22) (tgt := 31) d_Mo_symbol_22 rfl (fun q22 => ?_) (fun q22 => ?_)
        · refine zs_iload_n (pc := 31) (x := a2) d_Mo_symbol_31 rfl ?_
          exact zs_iret (pc := 32) d_Mo_symbol_32 rfl (Nat.le_of_ble_eq_true rfl) (Nat.le_of_ble_eq_true rfl) rfl
        · refine zs_iinc (pc := 25) (x := a2) (v := (a2 + (1 : Int32))) (lv' := [(2, zI (a2 + (1 : Int32))), (0, zI a0), (1, zI a1)]) d_Mo_symbol_25 rfl rfl (Nat.le_of_ble_eq_true rfl) rfl ?_
          refine zs_goto (pc := 28) (tgt := 2) d_Mo_symbol_28 rfl ?_
          refine zs_sub (lv' := [(0, zI a0), (1, zI a1), (2, zI (a2 + (1 : Int32)))]) [1, 2, 0] rfl ?_
          exact ih a0 a1 (a2 + (1 : Int32))
theorem jm_Mo_symbol {E : zE} {d : Nat} (hd : 1 ≤ d) (fu : Nat) (a0 : Int32) (a1 : Int32) (H : zH) : z_MS E jM_Mo_symbol d 0 0 (zrI H) [zI a0, zI a1] H (jF_Mo_symbol fu a0 a1 H) := by
  refine zs_of (lv0 := [(0, zI a0), (1, zI a1)]) pn_Mo (Nat.le_of_ble_eq_true rfl) rfl ?_
  unfold jF_Mo_symbol
  refine zs_iconst (pc := 0) (v := (0 : Int32)) d_Mo_symbol_0 (by decide) ?_
  refine zs_istore_n (pc := 1) (lv' := [(2, zI (0 : Int32)), (0, zI a0), (1, zI a1)]) d_Mo_symbol_1 (Nat.le_of_ble_eq_true rfl) rfl ?_
  refine zs_sub (lv' := [(0, zI a0), (1, zI a1), (2, zI (0 : Int32))]) [1, 2, 0] rfl ?_
  exact jl_Mo_symbol_2 hd fu H fu a0 a1 (0 : Int32)
def jJ_Mo_varint_61 (fu : Nat) (a1 : Int64) (H : zH) : Option (Int64 × zH) :=
  some ((((a1.toUInt64 >>> ((1 : Int32).toInt64.toUInt64 &&& Int64.toUInt64 63)).toInt64) ^^^ (-(a1 &&& (1 : Int64)))), H)
def jL_Mo_varint_9 (fu : Nat) : Nat → Option Nat → Int64 → Int32 → Int32 → zH → Option (Int64 × zH)
  | 0, _, _, _, _, _ => none
  | g + 1, a0, a1, a3, a4, H =>
    if a4 < (128 : Int32) then (
      jJ_Mo_varint_61 fu a1 H)
    else (
      if (70 : Int32) ≤ a3 then (
        jJ_Mo_varint_61 fu a1 H)
      else (
        (zgR H a0 1 14).bind fun v24 =>
        (zgI H a0 1 33).bind fun v28 =>
        (zaI H v24 0 v28).bind fun v31 =>
        (zgI H a0 1 33).bind fun v36 =>
        (zpV H a0 1 33 (zI (v36 + (1 : Int32)))).bind fun H41 =>
        jL_Mo_varint_9 fu g a0 (a1 ||| (((v31 &&& (127 : Int32)).toInt64) <<< (a3.toInt64 &&& 63))) (a3 + (7 : Int32)) v31 H41))
def jF_Mo_varint (fu : Nat) (a0 : Option Nat) (H : zH) : Option (Int64 × zH) :=
  (zok H a0 1).bind fun _ =>
  jL_Mo_varint_9 fu fu a0 (0 : Int64) (0 : Int32) (128 : Int32) H
theorem jj_Mo_varint_61 {E : zE} {d : Nat} (hd : 0 ≤ d) (fu : Nat) : ∀ (a1 : Int64) (H : zH), z_S E jM_Mo_varint d 0 0 zwL 61 [(1, zL a1)] [] H 0 0 (jJ_Mo_varint_61 fu a1 H) := by
  intro a1 H
  unfold jJ_Mo_varint_61
  refine zs_lload_n (pc := 61) (x := a1) d_Mo_varint_61 rfl ?_
  refine zs_iconst (pc := 62) (v := (1 : Int32)) d_Mo_varint_62 (by decide) ?_
  refine zs_lushr (pc := 63) d_Mo_varint_63 ?_
  refine zs_lload_n (pc := 64) (x := a1) d_Mo_varint_64 rfl ?_
  refine zs_lconst (pc := 65) (v := (1 : Int64)) d_Mo_varint_65 (by decide) ?_
  refine zs_land (pc := 66) d_Mo_varint_66 ?_
  refine zs_lneg (pc := 67) d_Mo_varint_67 ?_
  refine zs_lxor (pc := 68) d_Mo_varint_68 ?_
  exact zs_lret (pc := 69) d_Mo_varint_69 rfl (Nat.le_of_ble_eq_true rfl) (Nat.le_of_ble_eq_true rfl) rfl
theorem jl_Mo_varint_9 {E : zE} {d : Nat} (hd : 0 ≤ d) (fu : Nat) : ∀ (g : Nat), ∀ (a0 : Option Nat) (a1 : Int64) (a3 : Int32) (a4 : Int32) (H : zH), z_S E jM_Mo_varint d 0 0 zwL 9 [(0, zR a0), (1, zL a1), (3, zI a3), (4, zI a4)] [] H 0 0 (jL_Mo_varint_9 fu g a0 a1 a3 a4 H) := by
  intro g
  induction g with
  | zero => intros; exact zs_none
  | succ g ih =>
    intro a0 a1 a3 a4 H
    rw [jL_Mo_varint_9]
    refine zs_iload (pc := 9) (x := a4) d_Mo_varint_9 rfl ?_
    refine zs_sipush (pc := 11) (v := (128 : Int32)) d_Mo_varint_11 (by decide) ?_
    refine zs_icmp_lt (pc := 14) (tgt := 61) d_Mo_varint_14 rfl (fun q14 => ?_) (fun q14 => ?_)
    · refine zs_sub (lv' := [(1, zL a1)]) [1] rfl ?_
      exact jj_Mo_varint_61 hd fu a1 H
    · refine zs_iload_n (pc := 17) (x := a3) d_Mo_varint_17 rfl ?_
      refine zs_bipush (pc := 18) (v := (70 : Int32)) d_Mo_varint_18 (by decide) ?_
      refine zs_icmp_ge (pc := 20) (tgt := 61) d_Mo_varint_20 rfl (fun q20 => ?_) (fun q20 => ?_)
      · refine zs_sub (lv' := [(1, zL a1)]) [1] rfl ?_
        exact jj_Mo_varint_61 hd fu a1 H
      · refine zs_aload_n (pc := 23) (x := a0) d_Mo_varint_23 rfl ?_
        refine zs_getR (pc := 24) d_Mo_varint_24 kF_Mo_48 fun v24 => ?_
        refine zs_aload_n (pc := 27) (x := a0) d_Mo_varint_27 rfl ?_
        refine zs_getI (pc := 28) d_Mo_varint_28 kF_Mo_148 fun v28 => ?_
        refine zs_iald (t := 0) (pc := 31) d_Mo_varint_31 rfl fun v31 => ?_
        refine zs_istore (pc := 32) (lv' := [(4, zI v31), (0, zR a0), (1, zL a1), (3, zI a3)]) d_Mo_varint_32 (Nat.le_of_ble_eq_true rfl) rfl ?_
        refine zs_aload_n (pc := 34) (x := a0) d_Mo_varint_34 rfl ?_
        refine zs_dup (pc := 35) d_Mo_varint_35 rfl ?_
        refine zs_getI (pc := 36) d_Mo_varint_36 kF_Mo_148 fun v36 => ?_
        refine zs_iconst (pc := 39) (v := (1 : Int32)) d_Mo_varint_39 (by decide) ?_
        refine zs_iadd (pc := 40) d_Mo_varint_40 ?_
        refine zs_put (pc := 41) d_Mo_varint_41 kP_Mo_148 z_fitI fun H41 => ?_
        refine zs_lload_n (pc := 44) (x := a1) d_Mo_varint_44 rfl ?_
        refine zs_iload (pc := 45) (x := v31) d_Mo_varint_45 rfl ?_
        refine zs_bipush (pc := 47) (v := (127 : Int32)) d_Mo_varint_47 (by decide) ?_
        refine zs_iand (pc := 49) d_Mo_varint_49 ?_
        refine zs_i2l (pc := 50) d_Mo_varint_50 ?_
        refine zs_iload_n (pc := 51) (x := a3) d_Mo_varint_51 rfl ?_
        refine zs_lshl (pc := 52) d_Mo_varint_52 ?_
        refine zs_lor (pc := 53) d_Mo_varint_53 ?_
        refine zs_lstore_n (pc := 54) (lv' := [(1, zL (a1 ||| (((v31 &&& (127 : Int32)).toInt64) <<< (a3.toInt64 &&& 63)))), (4, zI v31), (0, zR a0), (3, zI a3)]) d_Mo_varint_54 (Nat.le_of_ble_eq_true rfl) rfl ?_
        refine zs_iinc (pc := 55) (x := a3) (v := (a3 + (7 : Int32))) (lv' := [(3, zI (a3 + (7 : Int32))), (1, zL (a1 ||| (((v31 &&& (127 : Int32)).toInt64) <<< (a3.toInt64 &&& 63)))), (4, zI v31), (0, zR a0)]) d_Mo_varint_55 rfl rfl (Nat.le_of_ble_eq_true rfl) rfl ?_
        refine zs_goto (pc := 58) (tgt := 9) d_Mo_varint_58 rfl ?_
        refine zs_sub (lv' := [(0, zR a0), (1, zL (a1 ||| (((v31 &&& (127 : Int32)).toInt64) <<< (a3.toInt64 &&& 63)))), (3, zI (a3 + (7 : Int32))), (4, zI v31)]) [3, 1, 0, 2] rfl ?_
        exact ih a0 (a1 ||| (((v31 &&& (127 : Int32)).toInt64) <<< (a3.toInt64 &&& 63))) (a3 + (7 : Int32)) v31 H41
theorem jm_Mo_varint {E : zE} {d : Nat} (hd : 0 ≤ d) (fu : Nat) (a0 : Option Nat) (H : zH) : z_MS E jM_Mo_varint d 0 0 zwL [zR a0] H (jF_Mo_varint fu a0 H) := by
  refine zs_of (lv0 := [(0, zR a0)]) pn_Mo (Nat.le_of_ble_eq_true rfl) rfl ?_
  unfold jF_Mo_varint
  refine zs_bind fun _ _ => ?_
  refine zs_lconst (pc := 0) (v := (0 : Int64)) d_Mo_varint_0 (by decide) ?_
  refine zs_lstore_n (pc := 1) (lv' := [(1, zL (0 : Int64)), (0, zR a0)]) d_Mo_varint_1 (Nat.le_of_ble_eq_true rfl) rfl ?_
  refine zs_iconst (pc := 2) (v := (0 : Int32)) d_Mo_varint_2 (by decide) ?_
  refine zs_istore_n (pc := 3) (lv' := [(3, zI (0 : Int32)), (1, zL (0 : Int64)), (0, zR a0)]) d_Mo_varint_3 (Nat.le_of_ble_eq_true rfl) rfl ?_
  refine zs_sipush (pc := 4) (v := (128 : Int32)) d_Mo_varint_4 (by decide) ?_
  refine zs_istore (pc := 7) (lv' := [(4, zI (128 : Int32)), (3, zI (0 : Int32)), (1, zL (0 : Int64)), (0, zR a0)]) d_Mo_varint_7 (Nat.le_of_ble_eq_true rfl) rfl ?_
  refine zs_sub (lv' := [(0, zR a0), (1, zL (0 : Int64)), (3, zI (0 : Int32)), (4, zI (128 : Int32))]) [3, 2, 1, 0] rfl ?_
  exact jl_Mo_varint_9 hd fu fu a0 (0 : Int64) (0 : Int32) (128 : Int32) H
