def jF_Mo_joins (a0 : Option Nat) (a1 : Int32) (a2 : Int32) (H : zH) : Option Int32 :=
  (zok H a0 1).bind fun _ =>
  if a2 ≤ 0 then (
    some (0 : Int32))
  else (
    (jF_Mo_fileSchema a0 a1 H).bind fun y6 =>
    (jF_Mo_fileSchema a0 a2 H).bind fun y11 =>
    if y6 = y11 then (
      (jF_Mo_fileRecords a0 a1 H).bind fun y19 =>
      (jF_Mo_fileRecords a0 a2 H).bind fun y24 =>
      if (20 : Int32) < (y19 + y24) then (
        some (0 : Int32))
      else (
        (jF_Mo_fileBytes a0 a1 H).bind fun y35 =>
        (jF_Mo_fileBytes a0 a2 H).bind fun y40 =>
        if (200 : Int32) < (y35 + y40) then (
          some (0 : Int32))
        else (
          some (1 : Int32))))
    else (
      some (0 : Int32)))
theorem jm_Mo_joins {E : zE} {d : Nat} (hd : 2 ≤ d) (a0 : Option Nat) (a1 : Int32) (a2 : Int32) (H : zH) : z_MS E jM_Mo_joins d 0 0 (zrI H) [zR a0, zI a1, zI a2] H (jF_Mo_joins a0 a1 a2 H) := by
  refine zs_of (lv0 := [(0, zR a0), (1, zI a1), (2, zI a2)]) pn_Mo (Nat.le_of_ble_eq_true rfl) rfl ?_
  unfold jF_Mo_joins
  refine zs_bind fun _ _ => ?_
  refine zs_iload_n (pc := 0) (x := a2) d_Mo_joins_0 rfl ?_
  refine zs_if_le (pc := 1) (tgt := 54) d_Mo_joins_1 rfl (fun q1 => ?_) (fun q1 => ?_)
  · refine zs_iconst (pc := 54) (v := (0 : Int32)) d_Mo_joins_54 (by decide) ?_
    exact zs_zretc (pc := 55) d_Mo_joins_55 rfl (by decide) (Nat.le_of_ble_eq_true rfl) (Nat.le_of_ble_eq_true rfl) rfl
  · refine zs_aload_n (pc := 4) (x := a0) d_Mo_joins_4 rfl ?_
    refine zs_iload_n (pc := 5) (x := a1) d_Mo_joins_5 rfl ?_
    refine zs_callv_rI (pc := 6) (av := [zI a1]) (st := []) (d' := 1) (C' := 0) (S' := 0) d_Mo_joins_6 kV_Mo_234 z_okb (jm_Mo_fileSchema (d := 1) (Nat.le_refl _) a0 a1 H) (by omega) (Nat.le_of_ble_eq_true rfl) (Nat.le_of_ble_eq_true rfl) rfl rfl (Nat.le_of_ble_eq_true rfl) fun y6 => ?_
    refine zs_aload_n (pc := 9) (x := a0) d_Mo_joins_9 rfl ?_
    refine zs_iload_n (pc := 10) (x := a2) d_Mo_joins_10 rfl ?_
    refine zs_callv_rI (pc := 11) (av := [zI a2]) (st := [zI y6]) (d' := 1) (C' := 0) (S' := 0) d_Mo_joins_11 kV_Mo_234 z_okb (jm_Mo_fileSchema (d := 1) (Nat.le_refl _) a0 a2 H) (by omega) (Nat.le_of_ble_eq_true rfl) (Nat.le_of_ble_eq_true rfl) rfl rfl (Nat.le_of_ble_eq_true rfl) fun y11 => ?_
    refine zs_icmp_ne (pc := 14) (tgt := 54) d_Mo_joins_14 rfl (fun q14 => ?_) (fun q14 => ?_)
    · refine zs_iconst (pc := 54) (v := (0 : Int32)) d_Mo_joins_54 (by decide) ?_
      exact zs_zretc (pc := 55) d_Mo_joins_55 rfl (by decide) (Nat.le_of_ble_eq_true rfl) (Nat.le_of_ble_eq_true rfl) rfl
    · refine zs_aload_n (pc := 17) (x := a0) d_Mo_joins_17 rfl ?_
      refine zs_iload_n (pc := 18) (x := a1) d_Mo_joins_18 rfl ?_
      refine zs_callv_rI (pc := 19) (av := [zI a1]) (st := []) (d' := 1) (C' := 0) (S' := 0) d_Mo_joins_19 kV_Mo_237 z_okb (jm_Mo_fileRecords (d := 1) (Nat.le_refl _) a0 a1 H) (by omega) (Nat.le_of_ble_eq_true rfl) (Nat.le_of_ble_eq_true rfl) rfl rfl (Nat.le_of_ble_eq_true rfl) fun y19 => ?_
      refine zs_aload_n (pc := 22) (x := a0) d_Mo_joins_22 rfl ?_
      refine zs_iload_n (pc := 23) (x := a2) d_Mo_joins_23 rfl ?_
      refine zs_callv_rI (pc := 24) (av := [zI a2]) (st := [zI y19]) (d' := 1) (C' := 0) (S' := 0) d_Mo_joins_24 kV_Mo_237 z_okb (jm_Mo_fileRecords (d := 1) (Nat.le_refl _) a0 a2 H) (by omega) (Nat.le_of_ble_eq_true rfl) (Nat.le_of_ble_eq_true rfl) rfl rfl (Nat.le_of_ble_eq_true rfl) fun y24 => ?_
      refine zs_iadd (pc := 27) d_Mo_joins_27 ?_
      refine zs_bipush (pc := 28) (v := (20 : Int32)) d_Mo_joins_28 (by decide) ?_
      refine zs_icmp_gt (pc := 30) (tgt := 54) d_Mo_joins_30 rfl (fun q30 => ?_) (fun q30 => ?_)
      · refine zs_iconst (pc := 54) (v := (0 : Int32)) d_Mo_joins_54 (by decide) ?_
        exact zs_zretc (pc := 55) d_Mo_joins_55 rfl (by decide) (Nat.le_of_ble_eq_true rfl) (Nat.le_of_ble_eq_true rfl) rfl
      · refine zs_aload_n (pc := 33) (x := a0) d_Mo_joins_33 rfl ?_
        refine zs_iload_n (pc := 34) (x := a1) d_Mo_joins_34 rfl ?_
        refine zs_callv_rI (pc := 35) (av := [zI a1]) (st := []) (d' := 1) (C' := 0) (S' := 0) d_Mo_joins_35 kV_Mo_240 z_okb (jm_Mo_fileBytes (d := 1) (Nat.le_refl _) a0 a1 H) (by omega) (Nat.le_of_ble_eq_true rfl) (Nat.le_of_ble_eq_true rfl) rfl rfl (Nat.le_of_ble_eq_true rfl) fun y35 => ?_
        refine zs_aload_n (pc := 38) (x := a0) d_Mo_joins_38 rfl ?_
        refine zs_iload_n (pc := 39) (x := a2) d_Mo_joins_39 rfl ?_
        refine zs_callv_rI (pc := 40) (av := [zI a2]) (st := [zI y35]) (d' := 1) (C' := 0) (S' := 0) d_Mo_joins_40 kV_Mo_240 z_okb (jm_Mo_fileBytes (d := 1) (Nat.le_refl _) a0 a2 H) (by omega) (Nat.le_of_ble_eq_true rfl) (Nat.le_of_ble_eq_true rfl) rfl rfl (Nat.le_of_ble_eq_true rfl) fun y40 => ?_
        refine zs_iadd (pc := 43) d_Mo_joins_43 ?_
        refine zs_sipush (pc := 44) (v := (200 : Int32)) d_Mo_joins_44 (by decide) ?_
        refine zs_icmp_gt (pc := 47) (tgt := 54) d_Mo_joins_47 rfl (fun q47 => ?_) (fun q47 => ?_)
        · refine zs_iconst (pc := 54) (v := (0 : Int32)) d_Mo_joins_54 (by decide) ?_
          exact zs_zretc (pc := 55) d_Mo_joins_55 rfl (by decide) (Nat.le_of_ble_eq_true rfl) (Nat.le_of_ble_eq_true rfl) rfl
        · refine zs_iconst (pc := 50) (v := (1 : Int32)) d_Mo_joins_50 (by decide) ?_
          refine zs_goto (pc := 51) (tgt := 55) d_Mo_joins_51 rfl ?_
          exact zs_zretc (pc := 55) d_Mo_joins_55 rfl (by decide) (Nat.le_of_ble_eq_true rfl) (Nat.le_of_ble_eq_true rfl) rfl
def jJ_Mo_compact_298 (fu : Nat) (k263 : Option Nat → Int32 → zH → Option (Int32 × zH)) (s0 : Int32) (s1 : Int32) (s2 : Option Nat) (a0 : Option Nat) (a6 : Int32) (H : zH) : Option (Int32 × zH) :=
  (zsI H s2 0 s1 s0).bind fun H298 =>
  k263 a0 (a6 + (1 : Int32)) H298
def jL_Mo_compact_263 (fu : Nat) : Nat → Option Nat → Int32 → zH → Option (Int32 × zH)
  | 0, _, _, _ => none
  | g + 1, a0, a6, H =>
    if (29 : Int32) ≤ a6 then (
      (zgR H a0 1 29).bind fun v306 =>
      (zaI H v306 0 (0 : Int32)).bind fun v311 =>
      (zsI H v306 0 (0 : Int32) (v311 - (1 : Int32))).bind fun H314 =>
      (jF_Mo_write fu a0 (0 : Int32) H314).bind fun y317 =>
      if y317.1 = 0 then (
        some ((-4 : Int32), y317.2))
      else (
        some ((1 : Int32), y317.2)))
    else (
      (zgR H a0 1 29).bind fun v271 =>
      if (29 : Int32) ≤ (a6 + (3 : Int32)) then (
        jJ_Mo_compact_298 fu (fun x0 x1 x2 => jL_Mo_compact_263 fu g x0 x1 x2) (0 : Int32) a6 v271 a0 a6 H)
      else (
        (zgR H a0 1 29).bind fun v286 =>
        (zaI H v286 0 (a6 + (3 : Int32))).bind fun v293 =>
        jJ_Mo_compact_298 fu (fun x0 x1 x2 => jL_Mo_compact_263 fu g x0 x1 x2) v293 a6 v271 a0 a6 H))
def jL_Mo_compact_149 (fu : Nat) : Nat → Option Nat → Int32 → Int32 → Int32 → zH → Option (Int32 × zH)
  | 0, _, _, _, _, _ => none
  | g + 1, a0, a2, a3, a4, H =>
    (jF_Mo_fileBytes a0 a3 H).bind fun y153 =>
    if y153 ≤ a4 then (
      (jF_Mo_check fu a0 H).bind fun y185 =>
      (zgI y185 a0 1 28).bind fun v189 =>
      (jF_Mo_room fu a0 ((v189 + (31 : Int32)) / (32 : Int32)) y185).bind fun y203 =>
      if 0 ≤ y203 then (
        (jF_Mo_writeFile fu a0 y203 y185).bind fun y219 =>
        if y219.1 = 0 then (
          some ((-4 : Int32), y219.2))
        else (
          (jF_Mo_oldManifest fu a0 y219.2).bind fun y229 =>
          (zgR y229 a0 1 29).bind fun v233 =>
          (zsI y229 v233 0 ((2 : Int32) + ((3 : Int32) * a2)) y203).bind fun H243 =>
          (zgR H243 a0 1 29).bind fun v245 =>
          (zsI H243 v245 0 ((3 : Int32) + ((3 : Int32) * a2)) ((v189 + (31 : Int32)) / (32 : Int32))).bind fun H255 =>
          jL_Mo_compact_263 fu fu a0 ((1 : Int32) + ((3 : Int32) * a3)) H255))
      else (
        some ((-3 : Int32), y185)))
    else (
      (zgR H a0 1 14).bind fun v161 =>
      (jF_Mo_fileAt a0 a3 H).bind fun y166 =>
      (zaI H v161 0 ((y166 + (5 : Int32)) + a4)).bind fun v174 =>
      (jF_Mo_putByte a0 v174 H).bind fun y175 =>
      jL_Mo_compact_149 fu g a0 a2 a3 (a4 + (1 : Int32)) y175)
def jL_Mo_compact_111 (fu : Nat) : Nat → Option Nat → Int32 → Int32 → Int32 → zH → Option (Int32 × zH)
  | 0, _, _, _, _, _ => none
  | g + 1, a0, a2, a3, a4, H =>
    (jF_Mo_fileBytes a0 a2 H).bind fun y115 =>
    if y115 ≤ a4 then (
      jL_Mo_compact_149 fu fu a0 a2 a3 (0 : Int32) H)
    else (
      (zgR H a0 1 14).bind fun v123 =>
      (jF_Mo_fileAt a0 a2 H).bind fun y128 =>
      (zaI H v123 0 ((y128 + (5 : Int32)) + a4)).bind fun v136 =>
      (jF_Mo_putByte a0 v136 H).bind fun y137 =>
      jL_Mo_compact_111 fu g a0 a2 a3 (a4 + (1 : Int32)) y137)
def jJ_Mo_compact_59 (fu : Nat) (a0 : Option Nat) (a2 : Int32) (H : zH) : Option (Int32 × zH) :=
  (zgR H a0 1 14).bind fun v61 =>
  (zaI H v61 0 (0 : Int32)).bind fun v65 =>
  if a2 = v65 then (
    some ((0 : Int32), H))
  else (
    (jF_Mo_behind fu a0 a2 H).bind fun y73 =>
    (jF_Mo_fileSchema a0 a2 H).bind fun y80 =>
    (jF_Mo_fileRecords a0 a2 H).bind fun y85 =>
    (jF_Mo_fileRecords a0 y73 H).bind fun y90 =>
    (jF_Mo_fileBytes a0 a2 H).bind fun y96 =>
    (jF_Mo_fileBytes a0 y73 H).bind fun y101 =>
    (jF_Mo_head a0 y80 (y85 + y90) (y96 + y101) H).bind fun y105 =>
    jL_Mo_compact_111 fu fu a0 a2 y73 (0 : Int32) y105)
def jL_Mo_compact_21 (fu : Nat) : Nat → Option Nat → Int32 → Int32 → zH → Option (Int32 × zH)
  | 0, _, _, _, _ => none
  | g + 1, a0, a1, a2, H =>
    (zgR H a0 1 14).bind fun v23 =>
    (zaI H v23 0 (0 : Int32)).bind fun v27 =>
    if v27 ≤ a2 then (
      jJ_Mo_compact_59 fu a0 a2 H)
    else (
      (jF_Mo_fileSubject a0 a2 H).bind fun y33 =>
      if y33 = a1 then (
        (jF_Mo_behind fu a0 a2 H).bind fun y44 =>
        (jF_Mo_joins a0 a2 y44 H).bind fun y47 =>
        if y47 = 0 then (
          jL_Mo_compact_21 fu g a0 a1 (a2 + (1 : Int32)) H)
        else (
          jJ_Mo_compact_59 fu a0 a2 H))
      else (
        jL_Mo_compact_21 fu g a0 a1 (a2 + (1 : Int32)) H))
def jF_Mo_compact (fu : Nat) (a0 : Option Nat) (a1 : Int32) (H : zH) : Option (Int32 × zH) :=
  (zok H a0 1).bind fun _ =>
  (zgI H a0 1 16).bind fun v1 =>
  if v1 = 0 then (
    (jF_Mo_noSubject a1 H).bind fun y11 =>
    if y11 = 0 then (
      jL_Mo_compact_21 fu fu a0 a1 (0 : Int32) H)
    else (
      some ((-1 : Int32), H)))
  else (
    some ((-4 : Int32), H))
theorem jj_Mo_compact_298 {E : zE} {d : Nat} (hd : 3 ≤ d) (fu : Nat) (k263 : Option Nat → Int32 → zH → Option (Int32 × zH)) (hk263 : ∀ (a0 : Option Nat) (a6 : Int32) (H : zH), z_S E jM_Mo_compact d 0 0 zwI 263 [(0, zR a0), (6, zI a6)] [] H 0 0 (k263 a0 a6 H)) : ∀ (s0 : Int32) (s1 : Int32) (s2 : Option Nat) (a0 : Option Nat) (a6 : Int32) (H : zH), z_S E jM_Mo_compact d 0 0 zwI 298 [(0, zR a0), (6, zI a6)] [zI s0, zI s1, zR s2] H 0 0 (jJ_Mo_compact_298 fu k263 s0 s1 s2 a0 a6 H) := by
  intro s0 s1 s2 a0 a6 H
  unfold jJ_Mo_compact_298
  refine zs_iast (t := 0) (pc := 298) d_Mo_compact_298 rfl fun H298 => ?_
  refine zs_iinc (pc := 299) (x := a6) (v := (a6 + (1 : Int32))) (lv' := [(6, zI (a6 + (1 : Int32))), (0, zR a0)]) d_Mo_compact_299 rfl rfl (Nat.le_of_ble_eq_true rfl) rfl ?_
  refine zs_goto (pc := 302) (tgt := 263) d_Mo_compact_302 rfl ?_
  refine zs_sub (lv' := [(0, zR a0), (6, zI (a6 + (1 : Int32)))]) [1, 0] rfl ?_
  exact hk263 a0 (a6 + (1 : Int32)) H298
theorem jl_Mo_compact_263 {E : zE} {d : Nat} (hd : 3 ≤ d) (fu : Nat) : ∀ (g : Nat), ∀ (a0 : Option Nat) (a6 : Int32) (H : zH), z_S E jM_Mo_compact d 0 0 zwI 263 [(0, zR a0), (6, zI a6)] [] H 0 0 (jL_Mo_compact_263 fu g a0 a6 H) := by
  intro g
  induction g with
  | zero => intros; exact zs_none
  | succ g ih =>
    intro a0 a6 H
    rw [jL_Mo_compact_263]
    refine zs_iload (pc := 263) (x := a6) d_Mo_compact_263 rfl ?_
    refine zs_bipush (pc := 265) (v := (29 : Int32)) d_Mo_compact_265 (by decide) ?_
    refine zs_icmp_ge (pc := 267) (tgt := 305) d_Mo_compact_267 rfl (fun q267 => ?_) (fun q267 => ?_)
    · refine zs_aload_n (pc := 305) (x := a0) d_Mo_compact_305 rfl ?_
      refine zs_getR (pc := 306) d_Mo_compact_306 kF_Mo_63 fun v306 => ?_
      refine zs_iconst (pc := 309) (v := (0 : Int32)) d_Mo_compact_309 (by decide) ?_
      refine zs_dup2 (pc := 310) d_Mo_compact_310 rfl rfl ?_
      refine zs_iald (t := 0) (pc := 311) d_Mo_compact_311 rfl fun v311 => ?_
      refine zs_iconst (pc := 312) (v := (1 : Int32)) d_Mo_compact_312 (by decide) ?_
      refine zs_isub (pc := 313) d_Mo_compact_313 ?_
      refine zs_iast (t := 0) (pc := 314) d_Mo_compact_314 rfl fun H314 => ?_
      refine zs_aload_n (pc := 315) (x := a0) d_Mo_compact_315 rfl ?_
      refine zs_iconst (pc := 316) (v := (0 : Int32)) d_Mo_compact_316 (by decide) ?_
      refine zs_callv_wI (pc := 317) (av := [zI (0 : Int32)]) (st := []) (d' := 0) (C' := 0) (S' := 0) d_Mo_compact_317 kV_Mo_183 z_okb (jm_Mo_write (d := 0) (Nat.le_refl _) fu a0 (0 : Int32) H314) (by omega) (Nat.le_of_ble_eq_true rfl) (Nat.le_of_ble_eq_true rfl) rfl rfl (Nat.le_of_ble_eq_true rfl) fun y317 => ?_
      refine zs_if_eq (pc := 320) (tgt := 327) d_Mo_compact_320 rfl (fun q320 => ?_) (fun q320 => ?_)
      · refine zs_bipush (pc := 327) (v := (-4 : Int32)) d_Mo_compact_327 (by decide) ?_
        exact zs_iret (pc := 329) d_Mo_compact_329 rfl (Nat.le_of_ble_eq_true rfl) (Nat.le_of_ble_eq_true rfl) rfl
      · refine zs_iconst (pc := 323) (v := (1 : Int32)) d_Mo_compact_323 (by decide) ?_
        refine zs_goto (pc := 324) (tgt := 329) d_Mo_compact_324 rfl ?_
        exact zs_iret (pc := 329) d_Mo_compact_329 rfl (Nat.le_of_ble_eq_true rfl) (Nat.le_of_ble_eq_true rfl) rfl
    · refine zs_aload_n (pc := 270) (x := a0) d_Mo_compact_270 rfl ?_
      refine zs_getR (pc := 271) d_Mo_compact_271 kF_Mo_63 fun v271 => ?_
      refine zs_iload (pc := 274) (x := a6) d_Mo_compact_274 rfl ?_
      refine zs_iload (pc := 276) (x := a6) d_Mo_compact_276 rfl ?_
      refine zs_iconst (pc := 278) (v := (3 : Int32)) d_Mo_compact_278 (by decide) ?_
      refine zs_iadd (pc := 279) d_Mo_compact_279 ?_
      refine zs_bipush (pc := 280) (v := (29 : Int32)) d_Mo_compact_280 (by decide) ?_
      refine zs_icmp_ge (pc := 282) (tgt := 297) d_Mo_compact_282 rfl (fun q282 => ?_) (fun q282 => ?_)
      · refine zs_iconst (pc := 297) (v := (0 : Int32)) d_Mo_compact_297 (by decide) ?_
        exact jj_Mo_compact_298 hd fu (fun x0 x1 x2 => jL_Mo_compact_263 fu g x0 x1 x2) ih (0 : Int32) a6 v271 a0 a6 H
      · refine zs_aload_n (pc := 285) (x := a0) d_Mo_compact_285 rfl ?_
        refine zs_getR (pc := 286) d_Mo_compact_286 kF_Mo_63 fun v286 => ?_
        refine zs_iload (pc := 289) (x := a6) d_Mo_compact_289 rfl ?_
        refine zs_iconst (pc := 291) (v := (3 : Int32)) d_Mo_compact_291 (by decide) ?_
        refine zs_iadd (pc := 292) d_Mo_compact_292 ?_
        refine zs_iald (t := 0) (pc := 293) d_Mo_compact_293 rfl fun v293 => ?_
        refine zs_goto (pc := 294) (tgt := 298) d_Mo_compact_294 rfl ?_
        exact jj_Mo_compact_298 hd fu (fun x0 x1 x2 => jL_Mo_compact_263 fu g x0 x1 x2) ih v293 a6 v271 a0 a6 H
theorem jl_Mo_compact_149 {E : zE} {d : Nat} (hd : 3 ≤ d) (fu : Nat) : ∀ (g : Nat), ∀ (a0 : Option Nat) (a2 : Int32) (a3 : Int32) (a4 : Int32) (H : zH), z_S E jM_Mo_compact d 0 0 zwI 149 [(0, zR a0), (2, zI a2), (3, zI a3), (4, zI a4)] [] H 0 0 (jL_Mo_compact_149 fu g a0 a2 a3 a4 H) := by
  intro g
  induction g with
  | zero => intros; exact zs_none
  | succ g ih =>
    intro a0 a2 a3 a4 H
    rw [jL_Mo_compact_149]
    refine zs_iload (pc := 149) (x := a4) d_Mo_compact_149 rfl ?_
    refine zs_aload_n (pc := 151) (x := a0) d_Mo_compact_151 rfl ?_
    refine zs_iload_n (pc := 152) (x := a3) d_Mo_compact_152 rfl ?_
    refine zs_callv_rI (pc := 153) (av := [zI a3]) (st := [zI a4]) (d' := 1) (C' := 0) (S' := 0) d_Mo_compact_153 kV_Mo_240 z_okb (jm_Mo_fileBytes (d := 1) (Nat.le_refl _) a0 a3 H) (by omega) (Nat.le_of_ble_eq_true rfl) (Nat.le_of_ble_eq_true rfl) rfl rfl (Nat.le_of_ble_eq_true rfl) fun y153 => ?_
    refine zs_icmp_ge (pc := 156) (tgt := 184) d_Mo_compact_156 rfl (fun q156 => ?_) (fun q156 => ?_)
    · refine zs_aload_n (pc := 184) (x := a0) d_Mo_compact_184 rfl ?_
      refine zs_callv_wV (pc := 185) (av := []) (st := []) (d' := 1) (C' := 0) (S' := 0) d_Mo_compact_185 kV_Mo_216 z_okb (jm_Mo_check (d := 1) (Nat.le_refl _) fu a0 H) (by omega) (Nat.le_of_ble_eq_true rfl) (Nat.le_of_ble_eq_true rfl) rfl rfl (Nat.le_of_ble_eq_true rfl) fun y185 => ?_
      refine zs_aload_n (pc := 188) (x := a0) d_Mo_compact_188 rfl ?_
      refine zs_getI (pc := 189) d_Mo_compact_189 kF_Mo_128 fun v189 => ?_
      refine zs_bipush (pc := 192) (v := (31 : Int32)) d_Mo_compact_192 (by decide) ?_
      refine zs_iadd (pc := 194) d_Mo_compact_194 ?_
      refine zs_bipush (pc := 195) (v := (32 : Int32)) d_Mo_compact_195 (by decide) ?_
      refine zs_idiv (pc := 197) d_Mo_compact_197 (by decide) ?_
      refine zs_istore (pc := 198) (lv' := [(4, zI ((v189 + (31 : Int32)) / (32 : Int32))), (0, zR a0), (2, zI a2), (3, zI a3)]) d_Mo_compact_198 (Nat.le_of_ble_eq_true rfl) rfl ?_
      refine zs_aload_n (pc := 200) (x := a0) d_Mo_compact_200 rfl ?_
      refine zs_iload (pc := 201) (x := ((v189 + (31 : Int32)) / (32 : Int32))) d_Mo_compact_201 rfl ?_
      refine zs_callv_rI (pc := 203) (av := [zI ((v189 + (31 : Int32)) / (32 : Int32))]) (st := []) (d' := 1) (C' := 0) (S' := 0) d_Mo_compact_203 kV_Mo_219 z_okb (jm_Mo_room (d := 1) (Nat.le_refl _) fu a0 ((v189 + (31 : Int32)) / (32 : Int32)) y185) (by omega) (Nat.le_of_ble_eq_true rfl) (Nat.le_of_ble_eq_true rfl) rfl rfl (Nat.le_of_ble_eq_true rfl) fun y203 => ?_
      refine zs_istore (pc := 206) (lv' := [(5, zI y203), (4, zI ((v189 + (31 : Int32)) / (32 : Int32))), (0, zR a0), (2, zI a2), (3, zI a3)]) d_Mo_compact_206 (Nat.le_of_ble_eq_true rfl) rfl ?_
      refine zs_iload (pc := 208) (x := y203) d_Mo_compact_208 rfl ?_
      refine zs_if_ge (pc := 210) (tgt := 216) d_Mo_compact_210 rfl (fun q210 => ?_) (fun q210 => ?_)
      · refine zs_aload_n (pc := 216) (x := a0) d_Mo_compact_216 rfl ?_
        refine zs_iload (pc := 217) (x := y203) d_Mo_compact_217 rfl ?_
        refine zs_callv_wI (pc := 219) (av := [zI y203]) (st := []) (d' := 1) (C' := 0) (S' := 0) d_Mo_compact_219 kV_Mo_222 z_okb (jm_Mo_writeFile (d := 1) (Nat.le_refl _) fu a0 y203 y185) (by omega) (Nat.le_of_ble_eq_true rfl) (Nat.le_of_ble_eq_true rfl) rfl rfl (Nat.le_of_ble_eq_true rfl) fun y219 => ?_
        refine zs_if_ne (pc := 222) (tgt := 228) d_Mo_compact_222 rfl (fun q222 => ?_) (fun q222 => ?_)
        · refine zs_aload_n (pc := 228) (x := a0) d_Mo_compact_228 rfl ?_
          refine zs_callv_wV (pc := 229) (av := []) (st := []) (d' := 0) (C' := 0) (S' := 0) d_Mo_compact_229 kV_Mo_225 z_okb (jm_Mo_oldManifest (d := 0) (Nat.le_refl _) fu a0 y219.2) (by omega) (Nat.le_of_ble_eq_true rfl) (Nat.le_of_ble_eq_true rfl) rfl rfl (Nat.le_of_ble_eq_true rfl) fun y229 => ?_
          refine zs_aload_n (pc := 232) (x := a0) d_Mo_compact_232 rfl ?_
          refine zs_getR (pc := 233) d_Mo_compact_233 kF_Mo_63 fun v233 => ?_
          refine zs_iconst (pc := 236) (v := (2 : Int32)) d_Mo_compact_236 (by decide) ?_
          refine zs_iconst (pc := 237) (v := (3 : Int32)) d_Mo_compact_237 (by decide) ?_
          refine zs_iload_n (pc := 238) (x := a2) d_Mo_compact_238 rfl ?_
          refine zs_imul (pc := 239) d_Mo_compact_239 ?_
          refine zs_iadd (pc := 240) d_Mo_compact_240 ?_
          refine zs_iload (pc := 241) (x := y203) d_Mo_compact_241 rfl ?_
          refine zs_iast (t := 0) (pc := 243) d_Mo_compact_243 rfl fun H243 => ?_
          refine zs_aload_n (pc := 244) (x := a0) d_Mo_compact_244 rfl ?_
          refine zs_getR (pc := 245) d_Mo_compact_245 kF_Mo_63 fun v245 => ?_
          refine zs_iconst (pc := 248) (v := (3 : Int32)) d_Mo_compact_248 (by decide) ?_
          refine zs_iconst (pc := 249) (v := (3 : Int32)) d_Mo_compact_249 (by decide) ?_
          refine zs_iload_n (pc := 250) (x := a2) d_Mo_compact_250 rfl ?_
          refine zs_imul (pc := 251) d_Mo_compact_251 ?_
          refine zs_iadd (pc := 252) d_Mo_compact_252 ?_
          refine zs_iload (pc := 253) (x := ((v189 + (31 : Int32)) / (32 : Int32))) d_Mo_compact_253 rfl ?_
          refine zs_iast (t := 0) (pc := 255) d_Mo_compact_255 rfl fun H255 => ?_
          refine zs_iconst (pc := 256) (v := (1 : Int32)) d_Mo_compact_256 (by decide) ?_
          refine zs_iconst (pc := 257) (v := (3 : Int32)) d_Mo_compact_257 (by decide) ?_
          refine zs_iload_n (pc := 258) (x := a3) d_Mo_compact_258 rfl ?_
          refine zs_imul (pc := 259) d_Mo_compact_259 ?_
          refine zs_iadd (pc := 260) d_Mo_compact_260 ?_
          refine zs_istore (pc := 261) (lv' := [(6, zI ((1 : Int32) + ((3 : Int32) * a3))), (5, zI y203), (4, zI ((v189 + (31 : Int32)) / (32 : Int32))), (0, zR a0), (2, zI a2), (3, zI a3)]) d_Mo_compact_261 (Nat.le_of_ble_eq_true rfl) rfl ?_
          refine zs_sub (lv' := [(0, zR a0), (6, zI ((1 : Int32) + ((3 : Int32) * a3)))]) [3, 0] rfl ?_
          exact jl_Mo_compact_263 hd fu fu a0 ((1 : Int32) + ((3 : Int32) * a3)) H255
        · refine zs_bipush (pc := 225) (v := (-4 : Int32)) d_Mo_compact_225 (by decide) ?_
          exact zs_iret (pc := 227) d_Mo_compact_227 rfl (Nat.le_of_ble_eq_true rfl) (Nat.le_of_ble_eq_true rfl) rfl
      · refine zs_bipush (pc := 213) (v := (-3 : Int32)) d_Mo_compact_213 (by decide) ?_
        exact zs_iret (pc := 215) d_Mo_compact_215 rfl (Nat.le_of_ble_eq_true rfl) (Nat.le_of_ble_eq_true rfl) rfl
    · refine zs_aload_n (pc := 159) (x := a0) d_Mo_compact_159 rfl ?_
      refine zs_aload_n (pc := 160) (x := a0) d_Mo_compact_160 rfl ?_
      refine zs_getR (pc := 161) d_Mo_compact_161 kF_Mo_48 fun v161 => ?_
      refine zs_aload_n (pc := 164) (x := a0) d_Mo_compact_164 rfl ?_
      refine zs_iload_n (pc := 165) (x := a3) d_Mo_compact_165 rfl ?_
      refine zs_callv_rI (pc := 166) (av := [zI a3]) (st := [zR v161, zR a0]) (d' := 0) (C' := 0) (S' := 0) d_Mo_compact_166 kV_Mo_186 z_okb (jm_Mo_fileAt (d := 0) (Nat.le_refl _) a0 a3 H) (by omega) (Nat.le_of_ble_eq_true rfl) (Nat.le_of_ble_eq_true rfl) rfl rfl (Nat.le_of_ble_eq_true rfl) fun y166 => ?_
      refine zs_iconst (pc := 169) (v := (5 : Int32)) d_Mo_compact_169 (by decide) ?_
      refine zs_iadd (pc := 170) d_Mo_compact_170 ?_
      refine zs_iload (pc := 171) (x := a4) d_Mo_compact_171 rfl ?_
      refine zs_iadd (pc := 173) d_Mo_compact_173 ?_
      refine zs_iald (t := 0) (pc := 174) d_Mo_compact_174 rfl fun v174 => ?_
      refine zs_callv_wV (pc := 175) (av := [zI v174]) (st := []) (d' := 0) (C' := 0) (S' := 0) d_Mo_compact_175 kV_Mo_137 z_okb (jm_Mo_putByte (d := 0) (Nat.le_refl _) a0 v174 H) (by omega) (Nat.le_of_ble_eq_true rfl) (Nat.le_of_ble_eq_true rfl) rfl rfl (Nat.le_of_ble_eq_true rfl) fun y175 => ?_
      refine zs_iinc (pc := 178) (x := a4) (v := (a4 + (1 : Int32))) (lv' := [(4, zI (a4 + (1 : Int32))), (0, zR a0), (2, zI a2), (3, zI a3)]) d_Mo_compact_178 rfl rfl (Nat.le_of_ble_eq_true rfl) rfl ?_
      refine zs_goto (pc := 181) (tgt := 149) d_Mo_compact_181 rfl ?_
      refine zs_sub (lv' := [(0, zR a0), (2, zI a2), (3, zI a3), (4, zI (a4 + (1 : Int32)))]) [1, 2, 3, 0] rfl ?_
      exact ih a0 a2 a3 (a4 + (1 : Int32)) y175
theorem jl_Mo_compact_111 {E : zE} {d : Nat} (hd : 3 ≤ d) (fu : Nat) : ∀ (g : Nat), ∀ (a0 : Option Nat) (a2 : Int32) (a3 : Int32) (a4 : Int32) (H : zH), z_S E jM_Mo_compact d 0 0 zwI 111 [(0, zR a0), (2, zI a2), (3, zI a3), (4, zI a4)] [] H 0 0 (jL_Mo_compact_111 fu g a0 a2 a3 a4 H) := by
  intro g
  induction g with
  | zero => intros; exact zs_none
  | succ g ih =>
    intro a0 a2 a3 a4 H
    rw [jL_Mo_compact_111]
    refine zs_iload (pc := 111) (x := a4) d_Mo_compact_111 rfl ?_
    refine zs_aload_n (pc := 113) (x := a0) d_Mo_compact_113 rfl ?_
    refine zs_iload_n (pc := 114) (x := a2) d_Mo_compact_114 rfl ?_
    refine zs_callv_rI (pc := 115) (av := [zI a2]) (st := [zI a4]) (d' := 1) (C' := 0) (S' := 0) d_Mo_compact_115 kV_Mo_240 z_okb (jm_Mo_fileBytes (d := 1) (Nat.le_refl _) a0 a2 H) (by omega) (Nat.le_of_ble_eq_true rfl) (Nat.le_of_ble_eq_true rfl) rfl rfl (Nat.le_of_ble_eq_true rfl) fun y115 => ?_
    refine zs_icmp_ge (pc := 118) (tgt := 146) d_Mo_compact_118 rfl (fun q118 => ?_) (fun q118 => ?_)
    · refine zs_iconst (pc := 146) (v := (0 : Int32)) d_Mo_compact_146 (by decide) ?_
      refine zs_istore (pc := 147) (lv' := [(4, zI (0 : Int32)), (0, zR a0), (2, zI a2), (3, zI a3)]) d_Mo_compact_147 (Nat.le_of_ble_eq_true rfl) rfl ?_
      refine zs_sub (lv' := [(0, zR a0), (2, zI a2), (3, zI a3), (4, zI (0 : Int32))]) [1, 2, 3, 0] rfl ?_
      exact jl_Mo_compact_149 hd fu fu a0 a2 a3 (0 : Int32) H
    · refine zs_aload_n (pc := 121) (x := a0) d_Mo_compact_121 rfl ?_
      refine zs_aload_n (pc := 122) (x := a0) d_Mo_compact_122 rfl ?_
      refine zs_getR (pc := 123) d_Mo_compact_123 kF_Mo_48 fun v123 => ?_
      refine zs_aload_n (pc := 126) (x := a0) d_Mo_compact_126 rfl ?_
      refine zs_iload_n (pc := 127) (x := a2) d_Mo_compact_127 rfl ?_
      refine zs_callv_rI (pc := 128) (av := [zI a2]) (st := [zR v123, zR a0]) (d' := 0) (C' := 0) (S' := 0) d_Mo_compact_128 kV_Mo_186 z_okb (jm_Mo_fileAt (d := 0) (Nat.le_refl _) a0 a2 H) (by omega) (Nat.le_of_ble_eq_true rfl) (Nat.le_of_ble_eq_true rfl) rfl rfl (Nat.le_of_ble_eq_true rfl) fun y128 => ?_
      refine zs_iconst (pc := 131) (v := (5 : Int32)) d_Mo_compact_131 (by decide) ?_
      refine zs_iadd (pc := 132) d_Mo_compact_132 ?_
      refine zs_iload (pc := 133) (x := a4) d_Mo_compact_133 rfl ?_
      refine zs_iadd (pc := 135) d_Mo_compact_135 ?_
      refine zs_iald (t := 0) (pc := 136) d_Mo_compact_136 rfl fun v136 => ?_
      refine zs_callv_wV (pc := 137) (av := [zI v136]) (st := []) (d' := 0) (C' := 0) (S' := 0) d_Mo_compact_137 kV_Mo_137 z_okb (jm_Mo_putByte (d := 0) (Nat.le_refl _) a0 v136 H) (by omega) (Nat.le_of_ble_eq_true rfl) (Nat.le_of_ble_eq_true rfl) rfl rfl (Nat.le_of_ble_eq_true rfl) fun y137 => ?_
      refine zs_iinc (pc := 140) (x := a4) (v := (a4 + (1 : Int32))) (lv' := [(4, zI (a4 + (1 : Int32))), (0, zR a0), (2, zI a2), (3, zI a3)]) d_Mo_compact_140 rfl rfl (Nat.le_of_ble_eq_true rfl) rfl ?_
      refine zs_goto (pc := 143) (tgt := 111) d_Mo_compact_143 rfl ?_
      refine zs_sub (lv' := [(0, zR a0), (2, zI a2), (3, zI a3), (4, zI (a4 + (1 : Int32)))]) [1, 2, 3, 0] rfl ?_
      exact ih a0 a2 a3 (a4 + (1 : Int32)) y137
theorem jj_Mo_compact_59 {E : zE} {d : Nat} (hd : 3 ≤ d) (fu : Nat) : ∀ (a0 : Option Nat) (a2 : Int32) (H : zH), z_S E jM_Mo_compact d 0 0 zwI 59 [(0, zR a0), (2, zI a2)] [] H 0 0 (jJ_Mo_compact_59 fu a0 a2 H) := by
  intro a0 a2 H
  unfold jJ_Mo_compact_59
  refine zs_iload_n (pc := 59) (x := a2) d_Mo_compact_59 rfl ?_
  refine zs_aload_n (pc := 60) (x := a0) d_Mo_compact_60 rfl ?_
  refine zs_getR (pc := 61) d_Mo_compact_61 kF_Mo_48 fun v61 => ?_
  refine zs_iconst (pc := 64) (v := (0 : Int32)) d_Mo_compact_64 (by decide) ?_
  refine zs_iald (t := 0) (pc := 65) d_Mo_compact_65 rfl fun v65 => ?_
  refine zs_icmp_ne (pc := 66) (tgt := 71) d_Mo_compact_66 rfl (fun q66 => ?_) (fun q66 => ?_)
  · refine zs_aload_n (pc := 71) (x := a0) d_Mo_compact_71 rfl ?_
    refine zs_iload_n (pc := 72) (x := a2) d_Mo_compact_72 rfl ?_
    refine zs_callv_rI (pc := 73) (av := [zI a2]) (st := []) (d' := 1) (C' := 0) (S' := 0) d_Mo_compact_73 kV_Mo_243 z_okb (jm_Mo_behind (d := 1) (Nat.le_refl _) fu a0 a2 H) (by omega) (Nat.le_of_ble_eq_true rfl) (Nat.le_of_ble_eq_true rfl) rfl rfl (Nat.le_of_ble_eq_true rfl) fun y73 => ?_
    refine zs_istore_n (pc := 76) (lv' := [(3, zI y73), (0, zR a0), (2, zI a2)]) d_Mo_compact_76 (Nat.le_of_ble_eq_true rfl) rfl ?_
    refine zs_aload_n (pc := 77) (x := a0) d_Mo_compact_77 rfl ?_
    refine zs_aload_n (pc := 78) (x := a0) d_Mo_compact_78 rfl ?_
    refine zs_iload_n (pc := 79) (x := a2) d_Mo_compact_79 rfl ?_
    refine zs_callv_rI (pc := 80) (av := [zI a2]) (st := [zR a0]) (d' := 1) (C' := 0) (S' := 0) d_Mo_compact_80 kV_Mo_234 z_okb (jm_Mo_fileSchema (d := 1) (Nat.le_refl _) a0 a2 H) (by omega) (Nat.le_of_ble_eq_true rfl) (Nat.le_of_ble_eq_true rfl) rfl rfl (Nat.le_of_ble_eq_true rfl) fun y80 => ?_
    refine zs_aload_n (pc := 83) (x := a0) d_Mo_compact_83 rfl ?_
    refine zs_iload_n (pc := 84) (x := a2) d_Mo_compact_84 rfl ?_
    refine zs_callv_rI (pc := 85) (av := [zI a2]) (st := [zI y80, zR a0]) (d' := 1) (C' := 0) (S' := 0) d_Mo_compact_85 kV_Mo_237 z_okb (jm_Mo_fileRecords (d := 1) (Nat.le_refl _) a0 a2 H) (by omega) (Nat.le_of_ble_eq_true rfl) (Nat.le_of_ble_eq_true rfl) rfl rfl (Nat.le_of_ble_eq_true rfl) fun y85 => ?_
    refine zs_aload_n (pc := 88) (x := a0) d_Mo_compact_88 rfl ?_
    refine zs_iload_n (pc := 89) (x := y73) d_Mo_compact_89 rfl ?_
    refine zs_callv_rI (pc := 90) (av := [zI y73]) (st := [zI y85, zI y80, zR a0]) (d' := 1) (C' := 0) (S' := 0) d_Mo_compact_90 kV_Mo_237 z_okb (jm_Mo_fileRecords (d := 1) (Nat.le_refl _) a0 y73 H) (by omega) (Nat.le_of_ble_eq_true rfl) (Nat.le_of_ble_eq_true rfl) rfl rfl (Nat.le_of_ble_eq_true rfl) fun y90 => ?_
    refine zs_iadd (pc := 93) d_Mo_compact_93 ?_
    refine zs_aload_n (pc := 94) (x := a0) d_Mo_compact_94 rfl ?_
    refine zs_iload_n (pc := 95) (x := a2) d_Mo_compact_95 rfl ?_
    refine zs_callv_rI (pc := 96) (av := [zI a2]) (st := [zI (y85 + y90), zI y80, zR a0]) (d' := 1) (C' := 0) (S' := 0) d_Mo_compact_96 kV_Mo_240 z_okb (jm_Mo_fileBytes (d := 1) (Nat.le_refl _) a0 a2 H) (by omega) (Nat.le_of_ble_eq_true rfl) (Nat.le_of_ble_eq_true rfl) rfl rfl (Nat.le_of_ble_eq_true rfl) fun y96 => ?_
    refine zs_aload_n (pc := 99) (x := a0) d_Mo_compact_99 rfl ?_
    refine zs_iload_n (pc := 100) (x := y73) d_Mo_compact_100 rfl ?_
    refine zs_callv_rI (pc := 101) (av := [zI y73]) (st := [zI y96, zI (y85 + y90), zI y80, zR a0]) (d' := 1) (C' := 0) (S' := 0) d_Mo_compact_101 kV_Mo_240 z_okb (jm_Mo_fileBytes (d := 1) (Nat.le_refl _) a0 y73 H) (by omega) (Nat.le_of_ble_eq_true rfl) (Nat.le_of_ble_eq_true rfl) rfl rfl (Nat.le_of_ble_eq_true rfl) fun y101 => ?_
    refine zs_iadd (pc := 104) d_Mo_compact_104 ?_
    refine zs_callv_wV (pc := 105) (av := [zI y80, zI (y85 + y90), zI (y96 + y101)]) (st := []) (d' := 1) (C' := 0) (S' := 0) d_Mo_compact_105 kV_Mo_212 z_okb (jm_Mo_head (d := 1) (Nat.le_refl _) a0 y80 (y85 + y90) (y96 + y101) H) (by omega) (Nat.le_of_ble_eq_true rfl) (Nat.le_of_ble_eq_true rfl) rfl rfl (Nat.le_of_ble_eq_true rfl) fun y105 => ?_
    refine zs_iconst (pc := 108) (v := (0 : Int32)) d_Mo_compact_108 (by decide) ?_
    refine zs_istore (pc := 109) (lv' := [(4, zI (0 : Int32)), (3, zI y73), (0, zR a0), (2, zI a2)]) d_Mo_compact_109 (Nat.le_of_ble_eq_true rfl) rfl ?_
    refine zs_sub (lv' := [(0, zR a0), (2, zI a2), (3, zI y73), (4, zI (0 : Int32))]) [2, 3, 1, 0] rfl ?_
    exact jl_Mo_compact_111 hd fu fu a0 a2 y73 (0 : Int32) y105
  · refine zs_iconst (pc := 69) (v := (0 : Int32)) d_Mo_compact_69 (by decide) ?_
    exact zs_iret (pc := 70) d_Mo_compact_70 rfl (Nat.le_of_ble_eq_true rfl) (Nat.le_of_ble_eq_true rfl) rfl
theorem jl_Mo_compact_21 {E : zE} {d : Nat} (hd : 3 ≤ d) (fu : Nat) : ∀ (g : Nat), ∀ (a0 : Option Nat) (a1 : Int32) (a2 : Int32) (H : zH), z_S E jM_Mo_compact d 0 0 zwI 21 [(0, zR a0), (1, zI a1), (2, zI a2)] [] H 0 0 (jL_Mo_compact_21 fu g a0 a1 a2 H) := by
  intro g
  induction g with
  | zero => intros; exact zs_none
  | succ g ih =>
    intro a0 a1 a2 H
    rw [jL_Mo_compact_21]
    refine zs_iload_n (pc := 21) (x := a2) d_Mo_compact_21 rfl ?_
    refine zs_aload_n (pc := 22) (x := a0) d_Mo_compact_22 rfl ?_
    refine zs_getR (pc := 23) d_Mo_compact_23 kF_Mo_48 fun v23 => ?_
    refine zs_iconst (pc := 26) (v := (0 : Int32)) d_Mo_compact_26 (by decide) ?_
    refine zs_iald (t := 0) (pc := 27) d_Mo_compact_27 rfl fun v27 => ?_
    refine zs_icmp_ge (pc := 28) (tgt := 59) d_Mo_compact_28 rfl (fun q28 => ?_) (fun q28 => ?_)
    · refine zs_sub (lv' := [(0, zR a0), (2, zI a2)]) [0, 2] rfl ?_
      exact jj_Mo_compact_59 hd fu a0 a2 H
    · refine zs_aload_n (pc := 31) (x := a0) d_Mo_compact_31 rfl ?_
      refine zs_iload_n (pc := 32) (x := a2) d_Mo_compact_32 rfl ?_
      refine zs_callv_rI (pc := 33) (av := [zI a2]) (st := []) (d' := 0) (C' := 0) (S' := 0) d_Mo_compact_33 kV_Mo_231 z_okb (jm_Mo_fileSubject (d := 0) (Nat.le_refl _) a0 a2 H) (by omega) (Nat.le_of_ble_eq_true rfl) (Nat.le_of_ble_eq_true rfl) rfl rfl (Nat.le_of_ble_eq_true rfl) fun y33 => ?_
      refine zs_iload_n (pc := 36) (x := a1) d_Mo_compact_36 rfl ?_
      refine zs_icmp_ne (pc := 37) (tgt := 53) d_Mo_compact_37 rfl (fun q37 => ?_) (fun q37 => ?_)
      · refine zs_iinc (pc := 53) (x := a2) (v := (a2 + (1 : Int32))) (lv' := [(2, zI (a2 + (1 : Int32))), (0, zR a0), (1, zI a1)]) d_Mo_compact_53 rfl rfl (Nat.le_of_ble_eq_true rfl) rfl ?_
        refine zs_goto (pc := 56) (tgt := 21) d_Mo_compact_56 rfl ?_
        refine zs_sub (lv' := [(0, zR a0), (1, zI a1), (2, zI (a2 + (1 : Int32)))]) [1, 2, 0] rfl ?_
        exact ih a0 a1 (a2 + (1 : Int32)) H
      · refine zs_aload_n (pc := 40) (x := a0) d_Mo_compact_40 rfl ?_
        refine zs_iload_n (pc := 41) (x := a2) d_Mo_compact_41 rfl ?_
        refine zs_aload_n (pc := 42) (x := a0) d_Mo_compact_42 rfl ?_
        refine zs_iload_n (pc := 43) (x := a2) d_Mo_compact_43 rfl ?_
        refine zs_callv_rI (pc := 44) (av := [zI a2]) (st := [zI a2, zR a0]) (d' := 1) (C' := 0) (S' := 0) d_Mo_compact_44 kV_Mo_243 z_okb (jm_Mo_behind (d := 1) (Nat.le_refl _) fu a0 a2 H) (by omega) (Nat.le_of_ble_eq_true rfl) (Nat.le_of_ble_eq_true rfl) rfl rfl (Nat.le_of_ble_eq_true rfl) fun y44 => ?_
        refine zs_callv_rI (pc := 47) (av := [zI a2, zI y44]) (st := []) (d' := 2) (C' := 0) (S' := 0) d_Mo_compact_47 kV_Mo_246 z_okb (jm_Mo_joins (d := 2) (Nat.le_refl _) a0 a2 y44 H) (by omega) (Nat.le_of_ble_eq_true rfl) (Nat.le_of_ble_eq_true rfl) rfl rfl (Nat.le_of_ble_eq_true rfl) fun y47 => ?_
        refine zs_if_ne (pc := 50) (tgt := 59) d_Mo_compact_50 rfl (fun q50 => ?_) (fun q50 => ?_)
        · refine zs_sub (lv' := [(0, zR a0), (2, zI a2)]) [0, 2] rfl ?_
          exact jj_Mo_compact_59 hd fu a0 a2 H
        · refine zs_iinc (pc := 53) (x := a2) (v := (a2 + (1 : Int32))) (lv' := [(2, zI (a2 + (1 : Int32))), (0, zR a0), (1, zI a1)]) d_Mo_compact_53 rfl rfl (Nat.le_of_ble_eq_true rfl) rfl ?_
          refine zs_goto (pc := 56) (tgt := 21) d_Mo_compact_56 rfl ?_
          refine zs_sub (lv' := [(0, zR a0), (1, zI a1), (2, zI (a2 + (1 : Int32)))]) [1, 2, 0] rfl ?_
          exact ih a0 a1 (a2 + (1 : Int32)) H
theorem jm_Mo_compact {E : zE} {d : Nat} (hd : 3 ≤ d) (fu : Nat) (a0 : Option Nat) (a1 : Int32) (H : zH) : z_MS E jM_Mo_compact d 0 0 zwI [zR a0, zI a1] H (jF_Mo_compact fu a0 a1 H) := by
  refine zs_of (lv0 := [(0, zR a0), (1, zI a1)]) pn_Mo (Nat.le_of_ble_eq_true rfl) rfl ?_
  unfold jF_Mo_compact
  refine zs_bind fun _ _ => ?_
  refine zs_aload_n (pc := 0) (x := a0) d_Mo_compact_0 rfl ?_
  refine zs_getI (pc := 1) d_Mo_compact_1 kF_Mo_165 fun v1 => ?_
  refine zs_if_eq (pc := 4) (tgt := 10) d_Mo_compact_4 rfl (fun q4 => ?_) (fun q4 => ?_)
  · refine zs_iload_n (pc := 10) (x := a1) d_Mo_compact_10 rfl ?_
    refine zs_calls_rI (pc := 11) (av := [zI a1]) (st := []) (d' := 0) (C' := 0) (S' := 0) d_Mo_compact_11 kS_Mo_193 (jm_Mo_noSubject (d := 0) (Nat.le_refl _) a1 H) (by omega) (Nat.le_of_ble_eq_true rfl) (Nat.le_of_ble_eq_true rfl) rfl rfl (Nat.le_of_ble_eq_true rfl) fun y11 => ?_
    refine zs_if_eq (pc := 14) (tgt := 19) d_Mo_compact_14 rfl (fun q14 => ?_) (fun q14 => ?_)
    · refine zs_iconst (pc := 19) (v := (0 : Int32)) d_Mo_compact_19 (by decide) ?_
      refine zs_istore_n (pc := 20) (lv' := [(2, zI (0 : Int32)), (0, zR a0), (1, zI a1)]) d_Mo_compact_20 (Nat.le_of_ble_eq_true rfl) rfl ?_
      refine zs_sub (lv' := [(0, zR a0), (1, zI a1), (2, zI (0 : Int32))]) [1, 2, 0] rfl ?_
      exact jl_Mo_compact_21 hd fu fu a0 a1 (0 : Int32) H
    · refine zs_iconst (pc := 17) (v := (-1 : Int32)) d_Mo_compact_17 (by decide) ?_
      exact zs_iret (pc := 18) d_Mo_compact_18 rfl (Nat.le_of_ble_eq_true rfl) (Nat.le_of_ble_eq_true rfl) rfl
  · refine zs_bipush (pc := 7) (v := (-4 : Int32)) d_Mo_compact_7 (by decide) ?_
    exact zs_iret (pc := 9) d_Mo_compact_9 rfl (Nat.le_of_ble_eq_true rfl) (Nat.le_of_ble_eq_true rfl) rfl
def jL_Mo_files_20 (fu : Nat) (H : zH) : Nat → Option Nat → Int32 → Int32 → Int32 → Option Int32
  | 0, _, _, _, _ => none
  | g + 1, a0, a1, a2, a3 =>
    (zgR H a0 1 14).bind fun v22 =>
    (zaI H v22 0 (0 : Int32)).bind fun v26 =>
    if v26 ≤ a3 then (
      some a2)
    else (
      (jF_Mo_fileSubject a0 a3 H).bind fun y33 =>
      if y33 = a1 then (
        jL_Mo_files_20 fu H g a0 a1 (a2 + (1 : Int32)) (a3 + (1 : Int32)))
      else (
        jL_Mo_files_20 fu H g a0 a1 (a2 + (0 : Int32)) (a3 + (1 : Int32))))
def jF_Mo_files (fu : Nat) (a0 : Option Nat) (a1 : Int32) (H : zH) : Option Int32 :=
  (zok H a0 1).bind fun _ =>
  (zgI H a0 1 16).bind fun v1 =>
  if v1 = 0 then (
    (jF_Mo_noSubject a1 H).bind fun y8 =>
    if y8 = 0 then (
      jL_Mo_files_20 fu H fu a0 a1 (0 : Int32) (0 : Int32))
    else (
      some (-1 : Int32)))
  else (
    some (-1 : Int32))
theorem jl_Mo_files_20 {E : zE} {d : Nat} (hd : 1 ≤ d) (fu : Nat) (H : zH) : ∀ (g : Nat), ∀ (a0 : Option Nat) (a1 : Int32) (a2 : Int32) (a3 : Int32), z_S E jM_Mo_files d 0 0 (zrI H) 20 [(0, zR a0), (1, zI a1), (2, zI a2), (3, zI a3)] [] H 0 0 (jL_Mo_files_20 fu H g a0 a1 a2 a3) := by
  intro g
  induction g with
  | zero => intros; exact zs_none
  | succ g ih =>
    intro a0 a1 a2 a3
    rw [jL_Mo_files_20]
    refine zs_iload_n (pc := 20) (x := a3) d_Mo_files_20 rfl ?_
    refine zs_aload_n (pc := 21) (x := a0) d_Mo_files_21 rfl ?_
    refine zs_getR (pc := 22) d_Mo_files_22 kF_Mo_48 fun v22 => ?_
    refine zs_iconst (pc := 25) (v := (0 : Int32)) d_Mo_files_25 (by decide) ?_
    refine zs_iald (t := 0) (pc := 26) d_Mo_files_26 rfl fun v26 => ?_
    refine zs_icmp_ge (pc := 27) (tgt := 53) d_Mo_files_27 rfl (fun q27 => ?_) (fun q27 => ?_)
    · refine zs_iload_n (pc := 53) (x := a2) d_Mo_files_53 rfl ?_
      exact zs_iret (pc := 54) d_Mo_files_54 rfl (Nat.le_of_ble_eq_true rfl) (Nat.le_of_ble_eq_true rfl) rfl
    · refine zs_iload_n (pc := 30) (x := a2) d_Mo_files_30 rfl ?_
      refine zs_aload_n (pc := 31) (x := a0) d_Mo_files_31 rfl ?_
      refine zs_iload_n (pc := 32) (x := a3) d_Mo_files_32 rfl ?_
      refine zs_callv_rI (pc := 33) (av := [zI a3]) (st := [zI a2]) (d' := 0) (C' := 0) (S' := 0) d_Mo_files_33 kV_Mo_231 z_okb (jm_Mo_fileSubject (d := 0) (Nat.le_refl _) a0 a3 H) (by omega) (Nat.le_of_ble_eq_true rfl) (Nat.le_of_ble_eq_true rfl) rfl rfl (Nat.le_of_ble_eq_true rfl) fun y33 => ?_
      refine zs_iload_n (pc := 36) (x := a1) d_Mo_files_36 rfl ?_
      refine zs_icmp_ne (pc := 37) (tgt := 44) d_Mo_files_37 rfl (fun q37 => ?_) (fun q37 => ?_)
      · refine zs_iconst (pc := 44) (v := (0 : Int32)) d_Mo_files_44 (by decide) ?_
        refine zs_iadd (pc := 45) d_Mo_files_45 ?_
        refine zs_istore_n (pc := 46) (lv' := [(2, zI (a2 + (0 : Int32))), (0, zR a0), (1, zI a1), (3, zI a3)]) d_Mo_files_46 (Nat.le_of_ble_eq_true rfl) rfl ?_
        refine zs_iinc (pc := 47) (x := a3) (v := (a3 + (1 : Int32))) (lv' := [(3, zI (a3 + (1 : Int32))), (2, zI (a2 + (0 : Int32))), (0, zR a0), (1, zI a1)]) d_Mo_files_47 rfl rfl (Nat.le_of_ble_eq_true rfl) rfl ?_
        refine zs_goto (pc := 50) (tgt := 20) d_Mo_files_50 rfl ?_
        refine zs_sub (lv' := [(0, zR a0), (1, zI a1), (2, zI (a2 + (0 : Int32))), (3, zI (a3 + (1 : Int32)))]) [2, 3, 1, 0] rfl ?_
        exact ih a0 a1 (a2 + (0 : Int32)) (a3 + (1 : Int32))
      · refine zs_iconst (pc := 40) (v := (1 : Int32)) d_Mo_files_40 (by decide) ?_
        refine zs_goto (pc := 41) (tgt := 45) d_Mo_files_41 rfl ?_
        refine zs_iadd (pc := 45) d_Mo_files_45 ?_
        refine zs_istore_n (pc := 46) (lv' := [(2, zI (a2 + (1 : Int32))), (0, zR a0), (1, zI a1), (3, zI a3)]) d_Mo_files_46 (Nat.le_of_ble_eq_true rfl) rfl ?_
        refine zs_iinc (pc := 47) (x := a3) (v := (a3 + (1 : Int32))) (lv' := [(3, zI (a3 + (1 : Int32))), (2, zI (a2 + (1 : Int32))), (0, zR a0), (1, zI a1)]) d_Mo_files_47 rfl rfl (Nat.le_of_ble_eq_true rfl) rfl ?_
        refine zs_goto (pc := 50) (tgt := 20) d_Mo_files_50 rfl ?_
        refine zs_sub (lv' := [(0, zR a0), (1, zI a1), (2, zI (a2 + (1 : Int32))), (3, zI (a3 + (1 : Int32)))]) [2, 3, 1, 0] rfl ?_
        exact ih a0 a1 (a2 + (1 : Int32)) (a3 + (1 : Int32))
theorem jm_Mo_files {E : zE} {d : Nat} (hd : 1 ≤ d) (fu : Nat) (a0 : Option Nat) (a1 : Int32) (H : zH) : z_MS E jM_Mo_files d 0 0 (zrI H) [zR a0, zI a1] H (jF_Mo_files fu a0 a1 H) := by
  refine zs_of (lv0 := [(0, zR a0), (1, zI a1)]) pn_Mo (Nat.le_of_ble_eq_true rfl) rfl ?_
  unfold jF_Mo_files
  refine zs_bind fun _ _ => ?_
  refine zs_aload_n (pc := 0) (x := a0) d_Mo_files_0 rfl ?_
  refine zs_getI (pc := 1) d_Mo_files_1 kF_Mo_165 fun v1 => ?_
  refine zs_if_ne (pc := 4) (tgt := 14) d_Mo_files_4 rfl (fun q4 => ?_) (fun q4 => ?_)
  · refine zs_iconst (pc := 14) (v := (-1 : Int32)) d_Mo_files_14 (by decide) ?_
    exact zs_iret (pc := 15) d_Mo_files_15 rfl (Nat.le_of_ble_eq_true rfl) (Nat.le_of_ble_eq_true rfl) rfl
  · refine zs_iload_n (pc := 7) (x := a1) d_Mo_files_7 rfl ?_
    refine zs_calls_rI (pc := 8) (av := [zI a1]) (st := []) (d' := 0) (C' := 0) (S' := 0) d_Mo_files_8 kS_Mo_193 (jm_Mo_noSubject (d := 0) (Nat.le_refl _) a1 H) (by omega) (Nat.le_of_ble_eq_true rfl) (Nat.le_of_ble_eq_true rfl) rfl rfl (Nat.le_of_ble_eq_true rfl) fun y8 => ?_
    refine zs_if_eq (pc := 11) (tgt := 16) d_Mo_files_11 rfl (fun q11 => ?_) (fun q11 => ?_)
    · refine zs_iconst (pc := 16) (v := (0 : Int32)) d_Mo_files_16 (by decide) ?_
      refine zs_istore_n (pc := 17) (lv' := [(2, zI (0 : Int32)), (0, zR a0), (1, zI a1)]) d_Mo_files_17 (Nat.le_of_ble_eq_true rfl) rfl ?_
      refine zs_iconst (pc := 18) (v := (0 : Int32)) d_Mo_files_18 (by decide) ?_
      refine zs_istore_n (pc := 19) (lv' := [(3, zI (0 : Int32)), (2, zI (0 : Int32)), (0, zR a0), (1, zI a1)]) d_Mo_files_19 (Nat.le_of_ble_eq_true rfl) rfl ?_
      refine zs_sub (lv' := [(0, zR a0), (1, zI a1), (2, zI (0 : Int32)), (3, zI (0 : Int32))]) [2, 3, 1, 0] rfl ?_
      exact jl_Mo_files_20 hd fu H fu a0 a1 (0 : Int32) (0 : Int32)
    · refine zs_iconst (pc := 14) (v := (-1 : Int32)) d_Mo_files_14 (by decide) ?_
      exact zs_iret (pc := 15) d_Mo_files_15 rfl (Nat.le_of_ble_eq_true rfl) (Nat.le_of_ble_eq_true rfl) rfl
def jJ_Mo_fetch_25 (fu : Nat) (k5 : Option Nat → Int32 → Int32 → Int32 → zH → Option (Int32 × zH)) (a0 : Option Nat) (a1 : Int32) (a3 : Int32) (a4 : Int32) (H : zH) : Option (Int32 × zH) :=
  (jF_Mo_fileSubject a0 a4 H).bind fun y29 =>
  if y29 = a1 then (
    (jF_Mo_fileRecords a0 a4 H).bind fun y39 =>
    k5 a0 a1 (a3 - y39) (a4 + (1 : Int32)) H)
  else (
    k5 a0 a1 (a3 - (0 : Int32)) (a4 + (1 : Int32)) H)
def jL_Mo_fetch_85 (fu : Nat) : Nat → Option Nat → Int32 → Int32 → Int32 → zH → Option (Int32 × zH)
  | 0, _, _, _, _, _ => none
  | g + 1, a0, a3, a5, a7, H =>
    if a3 ≤ a7 then (
      some (a5, H))
    else (
      (jF_Mo_decode fu a0 a5 H).bind fun y94 =>
      jL_Mo_fetch_85 fu g a0 a3 a5 (a7 + (1 : Int32)) y94.2)
def jL_Mo_fetch_5 (fu : Nat) : Nat → Option Nat → Int32 → Int32 → Int32 → zH → Option (Int32 × zH)
  | 0, _, _, _, _, _ => none
  | g + 1, a0, a1, a3, a4, H =>
    (jF_Mo_fileSubject a0 a4 H).bind fun y8 =>
    if y8 = a1 then (
      (jF_Mo_fileRecords a0 a4 H).bind fun y19 =>
      if a3 < y19 then (
        (jF_Mo_fileAt a0 a4 H).bind fun y58 =>
        (zpV H a0 1 33 (zI (y58 + (5 : Int32)))).bind fun H63 =>
        (jF_Mo_fileSchema a0 a4 H63).bind fun y69 =>
        (jF_Mo_decode fu a0 y69 H63).bind fun y77 =>
        jL_Mo_fetch_85 fu fu a0 a3 y69 (0 : Int32) y77.2)
      else (
        jJ_Mo_fetch_25 fu (fun x0 x1 x2 x3 x4 => jL_Mo_fetch_5 fu g x0 x1 x2 x3 x4) a0 a1 a3 a4 H))
    else (
      jJ_Mo_fetch_25 fu (fun x0 x1 x2 x3 x4 => jL_Mo_fetch_5 fu g x0 x1 x2 x3 x4) a0 a1 a3 a4 H)
def jF_Mo_fetch (fu : Nat) (a0 : Option Nat) (a1 : Int32) (a2 : Int32) (H : zH) : Option (Int32 × zH) :=
  (zok H a0 1).bind fun _ =>
  jL_Mo_fetch_5 fu fu a0 a1 a2 (0 : Int32) H
theorem jj_Mo_fetch_25 {E : zE} {d : Nat} (hd : 3 ≤ d) (fu : Nat) (k5 : Option Nat → Int32 → Int32 → Int32 → zH → Option (Int32 × zH)) (hk5 : ∀ (a0 : Option Nat) (a1 : Int32) (a3 : Int32) (a4 : Int32) (H : zH), z_S E jM_Mo_fetch d 0 0 zwI 5 [(0, zR a0), (1, zI a1), (3, zI a3), (4, zI a4)] [] H 0 0 (k5 a0 a1 a3 a4 H)) : ∀ (a0 : Option Nat) (a1 : Int32) (a3 : Int32) (a4 : Int32) (H : zH), z_S E jM_Mo_fetch d 0 0 zwI 25 [(0, zR a0), (1, zI a1), (3, zI a3), (4, zI a4)] [] H 0 0 (jJ_Mo_fetch_25 fu k5 a0 a1 a3 a4 H) := by
  intro a0 a1 a3 a4 H
  unfold jJ_Mo_fetch_25
  refine zs_iload_n (pc := 25) (x := a3) d_Mo_fetch_25 rfl ?_
  refine zs_aload_n (pc := 26) (x := a0) d_Mo_fetch_26 rfl ?_
  refine zs_iload (pc := 27) (x := a4) d_Mo_fetch_27 rfl ?_
  refine zs_callv_rI (pc := 29) (av := [zI a4]) (st := [zI a3]) (d' := 0) (C' := 0) (S' := 0) d_Mo_fetch_29 kV_Mo_231 z_okb (jm_Mo_fileSubject (d := 0) (Nat.le_refl _) a0 a4 H) (by omega) (Nat.le_of_ble_eq_true rfl) (Nat.le_of_ble_eq_true rfl) rfl rfl (Nat.le_of_ble_eq_true rfl) fun y29 => ?_
  refine zs_iload_n (pc := 32) (x := a1) d_Mo_fetch_32 rfl ?_
  refine zs_icmp_ne (pc := 33) (tgt := 45) d_Mo_fetch_33 rfl (fun q33 => ?_) (fun q33 => ?_)
  · refine zs_iconst (pc := 45) (v := (0 : Int32)) d_Mo_fetch_45 (by decide) ?_
    refine zs_isub (pc := 46) d_Mo_fetch_46 ?_
    refine zs_istore_n (pc := 47) (lv' := [(3, zI (a3 - (0 : Int32))), (0, zR a0), (1, zI a1), (4, zI a4)]) d_Mo_fetch_47 (Nat.le_of_ble_eq_true rfl) rfl ?_
    refine zs_iinc (pc := 48) (x := a4) (v := (a4 + (1 : Int32))) (lv' := [(4, zI (a4 + (1 : Int32))), (3, zI (a3 - (0 : Int32))), (0, zR a0), (1, zI a1)]) d_Mo_fetch_48 rfl rfl (Nat.le_of_ble_eq_true rfl) rfl ?_
    refine zs_goto (pc := 51) (tgt := 5) d_Mo_fetch_51 rfl ?_
    refine zs_sub (lv' := [(0, zR a0), (1, zI a1), (3, zI (a3 - (0 : Int32))), (4, zI (a4 + (1 : Int32)))]) [2, 3, 1, 0] rfl ?_
    exact hk5 a0 a1 (a3 - (0 : Int32)) (a4 + (1 : Int32)) H
  · refine zs_aload_n (pc := 36) (x := a0) d_Mo_fetch_36 rfl ?_
    refine zs_iload (pc := 37) (x := a4) d_Mo_fetch_37 rfl ?_
    refine zs_callv_rI (pc := 39) (av := [zI a4]) (st := [zI a3]) (d' := 1) (C' := 0) (S' := 0) d_Mo_fetch_39 kV_Mo_237 z_okb (jm_Mo_fileRecords (d := 1) (Nat.le_refl _) a0 a4 H) (by omega) (Nat.le_of_ble_eq_true rfl) (Nat.le_of_ble_eq_true rfl) rfl rfl (Nat.le_of_ble_eq_true rfl) fun y39 => ?_
    refine zs_goto (pc := 42) (tgt := 46) d_Mo_fetch_42 rfl ?_
    refine zs_isub (pc := 46) d_Mo_fetch_46 ?_
    refine zs_istore_n (pc := 47) (lv' := [(3, zI (a3 - y39)), (0, zR a0), (1, zI a1), (4, zI a4)]) d_Mo_fetch_47 (Nat.le_of_ble_eq_true rfl) rfl ?_
    refine zs_iinc (pc := 48) (x := a4) (v := (a4 + (1 : Int32))) (lv' := [(4, zI (a4 + (1 : Int32))), (3, zI (a3 - y39)), (0, zR a0), (1, zI a1)]) d_Mo_fetch_48 rfl rfl (Nat.le_of_ble_eq_true rfl) rfl ?_
    refine zs_goto (pc := 51) (tgt := 5) d_Mo_fetch_51 rfl ?_
    refine zs_sub (lv' := [(0, zR a0), (1, zI a1), (3, zI (a3 - y39)), (4, zI (a4 + (1 : Int32)))]) [2, 3, 1, 0] rfl ?_
    exact hk5 a0 a1 (a3 - y39) (a4 + (1 : Int32)) H
theorem jl_Mo_fetch_85 {E : zE} {d : Nat} (hd : 3 ≤ d) (fu : Nat) : ∀ (g : Nat), ∀ (a0 : Option Nat) (a3 : Int32) (a5 : Int32) (a7 : Int32) (H : zH), z_S E jM_Mo_fetch d 0 0 zwI 85 [(0, zR a0), (3, zI a3), (5, zI a5), (7, zI a7)] [] H 0 0 (jL_Mo_fetch_85 fu g a0 a3 a5 a7 H) := by
  intro g
  induction g with
  | zero => intros; exact zs_none
  | succ g ih =>
    intro a0 a3 a5 a7 H
    rw [jL_Mo_fetch_85]
    refine zs_iload (pc := 85) (x := a7) d_Mo_fetch_85 rfl ?_
    refine zs_iload_n (pc := 87) (x := a3) d_Mo_fetch_87 rfl ?_
    refine zs_icmp_ge (pc := 88) (tgt := 105) d_Mo_fetch_88 rfl (fun q88 => ?_) (fun q88 => ?_)
    · refine zs_iload (pc := 105) (x := a5) d_Mo_fetch_105 rfl ?_
      exact zs_iret (pc := 107) d_Mo_fetch_107 rfl (Nat.le_of_ble_eq_true rfl) (Nat.le_of_ble_eq_true rfl) rfl
    · refine zs_aload_n (pc := 91) (x := a0) d_Mo_fetch_91 rfl ?_
      refine zs_iload (pc := 92) (x := a5) d_Mo_fetch_92 rfl ?_
      refine zs_callv_wI (pc := 94) (av := [zI a5]) (st := []) (d' := 2) (C' := 0) (S' := 0) d_Mo_fetch_94 kV_Mo_249 z_okb (jm_Mo_decode (d := 2) (Nat.le_refl _) fu a0 a5 H) (by omega) (Nat.le_of_ble_eq_true rfl) (Nat.le_of_ble_eq_true rfl) rfl rfl (Nat.le_of_ble_eq_true rfl) fun y94 => ?_
      refine zs_istore (pc := 97) (lv' := [(6, zI y94.1), (0, zR a0), (3, zI a3), (5, zI a5), (7, zI a7)]) d_Mo_fetch_97 (Nat.le_of_ble_eq_true rfl) rfl ?_
      refine zs_iinc (pc := 99) (x := a7) (v := (a7 + (1 : Int32))) (lv' := [(7, zI (a7 + (1 : Int32))), (6, zI y94.1), (0, zR a0), (3, zI a3), (5, zI a5)]) d_Mo_fetch_99 rfl rfl (Nat.le_of_ble_eq_true rfl) rfl ?_
      refine zs_goto (pc := 102) (tgt := 85) d_Mo_fetch_102 rfl ?_
      refine zs_sub (lv' := [(0, zR a0), (3, zI a3), (5, zI a5), (7, zI (a7 + (1 : Int32)))]) [2, 3, 4, 0] rfl ?_
      exact ih a0 a3 a5 (a7 + (1 : Int32)) y94.2
theorem jl_Mo_fetch_5 {E : zE} {d : Nat} (hd : 3 ≤ d) (fu : Nat) : ∀ (g : Nat), ∀ (a0 : Option Nat) (a1 : Int32) (a3 : Int32) (a4 : Int32) (H : zH), z_S E jM_Mo_fetch d 0 0 zwI 5 [(0, zR a0), (1, zI a1), (3, zI a3), (4, zI a4)] [] H 0 0 (jL_Mo_fetch_5 fu g a0 a1 a3 a4 H) := by
  intro g
  induction g with
  | zero => intros; exact zs_none
  | succ g ih =>
    intro a0 a1 a3 a4 H
    rw [jL_Mo_fetch_5]
    refine zs_aload_n (pc := 5) (x := a0) d_Mo_fetch_5 rfl ?_
    refine zs_iload (pc := 6) (x := a4) d_Mo_fetch_6 rfl ?_
    refine zs_callv_rI (pc := 8) (av := [zI a4]) (st := []) (d' := 0) (C' := 0) (S' := 0) d_Mo_fetch_8 kV_Mo_231 z_okb (jm_Mo_fileSubject (d := 0) (Nat.le_refl _) a0 a4 H) (by omega) (Nat.le_of_ble_eq_true rfl) (Nat.le_of_ble_eq_true rfl) rfl rfl (Nat.le_of_ble_eq_true rfl) fun y8 => ?_
    refine zs_iload_n (pc := 11) (x := a1) d_Mo_fetch_11 rfl ?_
    refine zs_icmp_ne (pc := 12) (tgt := 25) d_Mo_fetch_12 rfl (fun q12 => ?_) (fun q12 => ?_)
    · exact jj_Mo_fetch_25 hd fu (fun x0 x1 x2 x3 x4 => jL_Mo_fetch_5 fu g x0 x1 x2 x3 x4) ih a0 a1 a3 a4 H
    · refine zs_iload_n (pc := 15) (x := a3) d_Mo_fetch_15 rfl ?_
      refine zs_aload_n (pc := 16) (x := a0) d_Mo_fetch_16 rfl ?_
      refine zs_iload (pc := 17) (x := a4) d_Mo_fetch_17 rfl ?_
      refine zs_callv_rI (pc := 19) (av := [zI a4]) (st := [zI a3]) (d' := 1) (C' := 0) (S' := 0) d_Mo_fetch_19 kV_Mo_237 z_okb (jm_Mo_fileRecords (d := 1) (Nat.le_refl _) a0 a4 H) (by omega) (Nat.le_of_ble_eq_true rfl) (Nat.le_of_ble_eq_true rfl) rfl rfl (Nat.le_of_ble_eq_true rfl) fun y19 => ?_
      refine zs_icmp_lt (pc := 22) (tgt := 54) d_Mo_fetch_22 rfl (fun q22 => ?_) (fun q22 => ?_)
      · refine zs_aload_n (pc := 54) (x := a0) d_Mo_fetch_54 rfl ?_
        refine zs_aload_n (pc := 55) (x := a0) d_Mo_fetch_55 rfl ?_
        refine zs_iload (pc := 56) (x := a4) d_Mo_fetch_56 rfl ?_
        refine zs_callv_rI (pc := 58) (av := [zI a4]) (st := [zR a0]) (d' := 0) (C' := 0) (S' := 0) d_Mo_fetch_58 kV_Mo_186 z_okb (jm_Mo_fileAt (d := 0) (Nat.le_refl _) a0 a4 H) (by omega) (Nat.le_of_ble_eq_true rfl) (Nat.le_of_ble_eq_true rfl) rfl rfl (Nat.le_of_ble_eq_true rfl) fun y58 => ?_
        refine zs_iconst (pc := 61) (v := (5 : Int32)) d_Mo_fetch_61 (by decide) ?_
        refine zs_iadd (pc := 62) d_Mo_fetch_62 ?_
        refine zs_put (pc := 63) d_Mo_fetch_63 kP_Mo_148 z_fitI fun H63 => ?_
        refine zs_aload_n (pc := 66) (x := a0) d_Mo_fetch_66 rfl ?_
        refine zs_iload (pc := 67) (x := a4) d_Mo_fetch_67 rfl ?_
        refine zs_callv_rI (pc := 69) (av := [zI a4]) (st := []) (d' := 1) (C' := 0) (S' := 0) d_Mo_fetch_69 kV_Mo_234 z_okb (jm_Mo_fileSchema (d := 1) (Nat.le_refl _) a0 a4 H63) (by omega) (Nat.le_of_ble_eq_true rfl) (Nat.le_of_ble_eq_true rfl) rfl rfl (Nat.le_of_ble_eq_true rfl) fun y69 => ?_
        refine zs_istore (pc := 72) (lv' := [(5, zI y69), (0, zR a0), (1, zI a1), (3, zI a3), (4, zI a4)]) d_Mo_fetch_72 (Nat.le_of_ble_eq_true rfl) rfl ?_
        refine zs_aload_n (pc := 74) (x := a0) d_Mo_fetch_74 rfl ?_
        refine zs_iload (pc := 75) (x := y69) d_Mo_fetch_75 rfl ?_
        refine zs_callv_wI (pc := 77) (av := [zI y69]) (st := []) (d' := 2) (C' := 0) (S' := 0) d_Mo_fetch_77 kV_Mo_249 z_okb (jm_Mo_decode (d := 2) (Nat.le_refl _) fu a0 y69 H63) (by omega) (Nat.le_of_ble_eq_true rfl) (Nat.le_of_ble_eq_true rfl) rfl rfl (Nat.le_of_ble_eq_true rfl) fun y77 => ?_
        refine zs_istore (pc := 80) (lv' := [(6, zI y77.1), (5, zI y69), (0, zR a0), (1, zI a1), (3, zI a3), (4, zI a4)]) d_Mo_fetch_80 (Nat.le_of_ble_eq_true rfl) rfl ?_
        refine zs_iconst (pc := 82) (v := (0 : Int32)) d_Mo_fetch_82 (by decide) ?_
        refine zs_istore (pc := 83) (lv' := [(7, zI (0 : Int32)), (6, zI y77.1), (5, zI y69), (0, zR a0), (1, zI a1), (3, zI a3), (4, zI a4)]) d_Mo_fetch_83 (Nat.le_of_ble_eq_true rfl) rfl ?_
        refine zs_sub (lv' := [(0, zR a0), (3, zI a3), (5, zI y69), (7, zI (0 : Int32))]) [3, 5, 2, 0] rfl ?_
        exact jl_Mo_fetch_85 hd fu fu a0 a3 y69 (0 : Int32) y77.2
      · exact jj_Mo_fetch_25 hd fu (fun x0 x1 x2 x3 x4 => jL_Mo_fetch_5 fu g x0 x1 x2 x3 x4) ih a0 a1 a3 a4 H
theorem jm_Mo_fetch {E : zE} {d : Nat} (hd : 3 ≤ d) (fu : Nat) (a0 : Option Nat) (a1 : Int32) (a2 : Int32) (H : zH) : z_MS E jM_Mo_fetch d 0 0 zwI [zR a0, zI a1, zI a2] H (jF_Mo_fetch fu a0 a1 a2 H) := by
  refine zs_of (lv0 := [(0, zR a0), (1, zI a1), (2, zI a2)]) pn_Mo (Nat.le_of_ble_eq_true rfl) rfl ?_
  unfold jF_Mo_fetch
  refine zs_bind fun _ _ => ?_
  refine zs_iload_n (pc := 0) (x := a2) d_Mo_fetch_0 rfl ?_
  refine zs_istore_n (pc := 1) (lv' := [(3, zI a2), (0, zR a0), (1, zI a1), (2, zI a2)]) d_Mo_fetch_1 (Nat.le_of_ble_eq_true rfl) rfl ?_
  refine zs_iconst (pc := 2) (v := (0 : Int32)) d_Mo_fetch_2 (by decide) ?_
  refine zs_istore (pc := 3) (lv' := [(4, zI (0 : Int32)), (3, zI a2), (0, zR a0), (1, zI a1), (2, zI a2)]) d_Mo_fetch_3 (Nat.le_of_ble_eq_true rfl) rfl ?_
  refine zs_sub (lv' := [(0, zR a0), (1, zI a1), (3, zI a2), (4, zI (0 : Int32))]) [2, 3, 1, 0] rfl ?_
  exact jl_Mo_fetch_5 hd fu fu a0 a1 a2 (0 : Int32) H
def jF_Mo_add (a0 : Option Nat) (a1 : Int32) (a2 : Int32) (a3 : Int32) (H : zH) : Option zH :=
  (zok H a0 1).bind fun _ =>
  (zgR H a0 1 32).bind fun v1 =>
  (zgI H a0 1 34).bind fun v6 =>
  (zsI H v1 0 ((3 : Int32) * v6) a1).bind fun H11 =>
  (zgR H11 a0 1 32).bind fun v13 =>
  (zgI H11 a0 1 34).bind fun v18 =>
  (zsI H11 v13 0 (((3 : Int32) * v18) + (1 : Int32)) a2).bind fun H25 =>
  (zgR H25 a0 1 32).bind fun v27 =>
  (zgI H25 a0 1 34).bind fun v32 =>
  (zsI H25 v27 0 (((3 : Int32) * v32) + (2 : Int32)) a3).bind fun H39 =>
  (zgI H39 a0 1 34).bind fun v42 =>
  (zpV H39 a0 1 34 (zI (v42 + (1 : Int32)))).bind fun H47 =>
  some H47
theorem jm_Mo_add {E : zE} {d : Nat} (hd : 0 ≤ d) (a0 : Option Nat) (a1 : Int32) (a2 : Int32) (a3 : Int32) (H : zH) : z_MS E jM_Mo_add d 0 0 zwV [zR a0, zI a1, zI a2, zI a3] H (jF_Mo_add a0 a1 a2 a3 H) := by
  refine zs_of (lv0 := [(0, zR a0), (1, zI a1), (2, zI a2), (3, zI a3)]) pn_Mo (Nat.le_of_ble_eq_true rfl) rfl ?_
  unfold jF_Mo_add
  refine zs_bind fun _ _ => ?_
  refine zs_aload_n (pc := 0) (x := a0) d_Mo_add_0 rfl ?_
  refine zs_getR (pc := 1) d_Mo_add_1 kF_Mo_72 fun v1 => ?_
  refine zs_iconst (pc := 4) (v := (3 : Int32)) d_Mo_add_4 (by decide) ?_
  refine zs_aload_n (pc := 5) (x := a0) d_Mo_add_5 rfl ?_
  refine zs_getI (pc := 6) d_Mo_add_6 kF_Mo_258 fun v6 => ?_
  refine zs_imul (pc := 9) d_Mo_add_9 ?_
  refine zs_iload_n (pc := 10) (x := a1) d_Mo_add_10 rfl ?_
  refine zs_iast (t := 0) (pc := 11) d_Mo_add_11 rfl fun H11 => ?_
  refine zs_aload_n (pc := 12) (x := a0) d_Mo_add_12 rfl ?_
  refine zs_getR (pc := 13) d_Mo_add_13 kF_Mo_72 fun v13 => ?_
  refine zs_iconst (pc := 16) (v := (3 : Int32)) d_Mo_add_16 (by decide) ?_
  refine zs_aload_n (pc := 17) (x := a0) d_Mo_add_17 rfl ?_
  refine zs_getI (pc := 18) d_Mo_add_18 kF_Mo_258 fun v18 => ?_
  refine zs_imul (pc := 21) d_Mo_add_21 ?_
  refine zs_iconst (pc := 22) (v := (1 : Int32)) d_Mo_add_22 (by decide) ?_
  refine zs_iadd (pc := 23) d_Mo_add_23 ?_
  refine zs_iload_n (pc := 24) (x := a2) d_Mo_add_24 rfl ?_
  refine zs_iast (t := 0) (pc := 25) d_Mo_add_25 rfl fun H25 => ?_
  refine zs_aload_n (pc := 26) (x := a0) d_Mo_add_26 rfl ?_
  refine zs_getR (pc := 27) d_Mo_add_27 kF_Mo_72 fun v27 => ?_
  refine zs_iconst (pc := 30) (v := (3 : Int32)) d_Mo_add_30 (by decide) ?_
  refine zs_aload_n (pc := 31) (x := a0) d_Mo_add_31 rfl ?_
  refine zs_getI (pc := 32) d_Mo_add_32 kF_Mo_258 fun v32 => ?_
  refine zs_imul (pc := 35) d_Mo_add_35 ?_
  refine zs_iconst (pc := 36) (v := (2 : Int32)) d_Mo_add_36 (by decide) ?_
  refine zs_iadd (pc := 37) d_Mo_add_37 ?_
  refine zs_iload_n (pc := 38) (x := a3) d_Mo_add_38 rfl ?_
  refine zs_iast (t := 0) (pc := 39) d_Mo_add_39 rfl fun H39 => ?_
  refine zs_aload_n (pc := 40) (x := a0) d_Mo_add_40 rfl ?_
  refine zs_dup (pc := 41) d_Mo_add_41 rfl ?_
  refine zs_getI (pc := 42) d_Mo_add_42 kF_Mo_258 fun v42 => ?_
  refine zs_iconst (pc := 45) (v := (1 : Int32)) d_Mo_add_45 (by decide) ?_
  refine zs_iadd (pc := 46) d_Mo_add_46 ?_
  refine zs_put (pc := 47) d_Mo_add_47 kP_Mo_258 z_fitI fun H47 => ?_
  exact zs_vret (pc := 50) d_Mo_add_50 rfl (Nat.le_of_ble_eq_true rfl) (Nat.le_of_ble_eq_true rfl) rfl
def jJ_Mo_give1_19  (a0 : Option Nat) (H : zH) : Option zH :=
  (zgI H a0 1 35).bind fun v21 =>
  (zpV H a0 1 35 (zI (v21 + (1 : Int32)))).bind fun H26 =>
  some H26
def jF_Mo_give1 (a0 : Option Nat) (a1 : Int64) (H : zH) : Option zH :=
  (zok H a0 1).bind fun _ =>
  (zgI H a0 1 35).bind fun v1 =>
  if (40 : Int32) ≤ v1 then (
    jJ_Mo_give1_19  a0 H)
  else (
    (zgR H a0 1 25).bind fun v10 =>
    (zgI H a0 1 35).bind fun v14 =>
    (zsL H v10 2 v14 a1).bind fun H18 =>
    jJ_Mo_give1_19  a0 H18)
theorem jj_Mo_give1_19 {E : zE} {d : Nat} (hd : 0 ≤ d)  : ∀ (a0 : Option Nat) (H : zH), z_S E jM_Mo_give1 d 0 0 zwV 19 [(0, zR a0)] [] H 0 0 (jJ_Mo_give1_19 a0 H) := by
  intro a0 H
  unfold jJ_Mo_give1_19
  refine zs_aload_n (pc := 19) (x := a0) d_Mo_give1_19 rfl ?_
  refine zs_dup (pc := 20) d_Mo_give1_20 rfl ?_
  refine zs_getI (pc := 21) d_Mo_give1_21 kF_Mo_261 fun v21 => ?_
  refine zs_iconst (pc := 24) (v := (1 : Int32)) d_Mo_give1_24 (by decide) ?_
  refine zs_iadd (pc := 25) d_Mo_give1_25 ?_
  refine zs_put (pc := 26) d_Mo_give1_26 kP_Mo_261 z_fitI fun H26 => ?_
  exact zs_vret (pc := 29) d_Mo_give1_29 rfl (Nat.le_of_ble_eq_true rfl) (Nat.le_of_ble_eq_true rfl) rfl
theorem jm_Mo_give1 {E : zE} {d : Nat} (hd : 0 ≤ d) (a0 : Option Nat) (a1 : Int64) (H : zH) : z_MS E jM_Mo_give1 d 0 0 zwV [zR a0, zL a1] H (jF_Mo_give1 a0 a1 H) := by
  refine zs_of (lv0 := [(0, zR a0), (1, zL a1)]) pn_Mo (Nat.le_of_ble_eq_true rfl) rfl ?_
  unfold jF_Mo_give1
  refine zs_bind fun _ _ => ?_
  refine zs_aload_n (pc := 0) (x := a0) d_Mo_give1_0 rfl ?_
  refine zs_getI (pc := 1) d_Mo_give1_1 kF_Mo_261 fun v1 => ?_
  refine zs_bipush (pc := 4) (v := (40 : Int32)) d_Mo_give1_4 (by decide) ?_
  refine zs_icmp_ge (pc := 6) (tgt := 19) d_Mo_give1_6 rfl (fun q6 => ?_) (fun q6 => ?_)
  · refine zs_sub (lv' := [(0, zR a0)]) [0] rfl ?_
    exact jj_Mo_give1_19 hd  a0 H
  · refine zs_aload_n (pc := 9) (x := a0) d_Mo_give1_9 rfl ?_
    refine zs_getR (pc := 10) d_Mo_give1_10 kF_Mo_57 fun v10 => ?_
    refine zs_aload_n (pc := 13) (x := a0) d_Mo_give1_13 rfl ?_
    refine zs_getI (pc := 14) d_Mo_give1_14 kF_Mo_261 fun v14 => ?_
    refine zs_lload_n (pc := 17) (x := a1) d_Mo_give1_17 rfl ?_
    refine zs_last (t := 2) (pc := 18) d_Mo_give1_18 rfl fun H18 => ?_
    refine zs_sub (lv' := [(0, zR a0)]) [0] rfl ?_
    exact jj_Mo_give1_19 hd  a0 H18
def jJ_Mo_defaults_30  (a0 : Option Nat) (a1 : Int32) (a2 : Int32) (H : zH) : Option zH :=
  (zgR H a0 1 1).bind fun v31 =>
  (zaI H v31 0 a2).bind fun v35 =>
  if v35 = 0 then (
    some H)
  else (
    (zgR H a0 1 10).bind fun v41 =>
    (zaL H v41 2 a1).bind fun v45 =>
    (jF_Mo_give1 a0 v45 H).bind fun y46 =>
    some y46)
def jF_Mo_defaults (a0 : Option Nat) (a1 : Int32) (H : zH) : Option zH :=
  (zok H a0 1).bind fun _ =>
  (zgR H a0 1 8).bind fun v1 =>
  (zaI H v1 0 a1).bind fun v5 =>
  (zgR H a0 1 1).bind fun v8 =>
  (zaI H v8 0 v5).bind fun v12 =>
  if v12 = (6 : Int32) then (
    (jF_Mo_give1 a0 (0 : Int64) H).bind fun y20 =>
    (zgR y20 a0 1 3).bind fun v24 =>
    (zaI y20 v24 0 v5).bind fun v28 =>
    jJ_Mo_defaults_30  a0 a1 v28 y20)
  else (
    jJ_Mo_defaults_30  a0 a1 v5 H)
theorem jj_Mo_defaults_30 {E : zE} {d : Nat} (hd : 1 ≤ d)  : ∀ (a0 : Option Nat) (a1 : Int32) (a2 : Int32) (H : zH), z_S E jM_Mo_defaults d 0 0 zwV 30 [(0, zR a0), (1, zI a1), (2, zI a2)] [] H 0 0 (jJ_Mo_defaults_30 a0 a1 a2 H) := by
  intro a0 a1 a2 H
  unfold jJ_Mo_defaults_30
  refine zs_aload_n (pc := 30) (x := a0) d_Mo_defaults_30 rfl ?_
  refine zs_getR (pc := 31) d_Mo_defaults_31 kF_Mo_7 fun v31 => ?_
  refine zs_iload_n (pc := 34) (x := a2) d_Mo_defaults_34 rfl ?_
  refine zs_iald (t := 0) (pc := 35) d_Mo_defaults_35 rfl fun v35 => ?_
  refine zs_if_eq (pc := 36) (tgt := 49) d_Mo_defaults_36 rfl (fun q36 => ?_) (fun q36 => ?_)
  · exact zs_vret (pc := 49) d_Mo_defaults_49 rfl (Nat.le_of_ble_eq_true rfl) (Nat.le_of_ble_eq_true rfl) rfl
  · refine zs_aload_n (pc := 39) (x := a0) d_Mo_defaults_39 rfl ?_
    refine zs_aload_n (pc := 40) (x := a0) d_Mo_defaults_40 rfl ?_
    refine zs_getR (pc := 41) d_Mo_defaults_41 kF_Mo_38 fun v41 => ?_
    refine zs_iload_n (pc := 44) (x := a1) d_Mo_defaults_44 rfl ?_
    refine zs_lald (t := 2) (pc := 45) d_Mo_defaults_45 rfl fun v45 => ?_
    refine zs_callv_wV (pc := 46) (av := [zL v45]) (st := []) (d' := 0) (C' := 0) (S' := 0) d_Mo_defaults_46 kV_Mo_273 z_okb (jm_Mo_give1 (d := 0) (Nat.le_refl _) a0 v45 H) (by omega) (Nat.le_of_ble_eq_true rfl) (Nat.le_of_ble_eq_true rfl) rfl rfl (Nat.le_of_ble_eq_true rfl) fun y46 => ?_
    exact zs_vret (pc := 49) d_Mo_defaults_49 rfl (Nat.le_of_ble_eq_true rfl) (Nat.le_of_ble_eq_true rfl) rfl
theorem jm_Mo_defaults {E : zE} {d : Nat} (hd : 1 ≤ d) (a0 : Option Nat) (a1 : Int32) (H : zH) : z_MS E jM_Mo_defaults d 0 0 zwV [zR a0, zI a1] H (jF_Mo_defaults a0 a1 H) := by
  refine zs_of (lv0 := [(0, zR a0), (1, zI a1)]) pn_Mo (Nat.le_of_ble_eq_true rfl) rfl ?_
  unfold jF_Mo_defaults
  refine zs_bind fun _ _ => ?_
  refine zs_aload_n (pc := 0) (x := a0) d_Mo_defaults_0 rfl ?_
  refine zs_getR (pc := 1) d_Mo_defaults_1 kF_Mo_31 fun v1 => ?_
  refine zs_iload_n (pc := 4) (x := a1) d_Mo_defaults_4 rfl ?_
  refine zs_iald (t := 0) (pc := 5) d_Mo_defaults_5 rfl fun v5 => ?_
  refine zs_istore_n (pc := 6) (lv' := [(2, zI v5), (0, zR a0), (1, zI a1)]) d_Mo_defaults_6 (Nat.le_of_ble_eq_true rfl) rfl ?_
  refine zs_aload_n (pc := 7) (x := a0) d_Mo_defaults_7 rfl ?_
  refine zs_getR (pc := 8) d_Mo_defaults_8 kF_Mo_7 fun v8 => ?_
  refine zs_iload_n (pc := 11) (x := v5) d_Mo_defaults_11 rfl ?_
  refine zs_iald (t := 0) (pc := 12) d_Mo_defaults_12 rfl fun v12 => ?_
  refine zs_bipush (pc := 13) (v := (6 : Int32)) d_Mo_defaults_13 (by decide) ?_
  refine zs_icmp_ne (pc := 15) (tgt := 30) d_Mo_defaults_15 rfl (fun q15 => ?_) (fun q15 => ?_)
  · refine zs_sub (lv' := [(0, zR a0), (1, zI a1), (2, zI v5)]) [1, 2, 0] rfl ?_
    exact jj_Mo_defaults_30 hd  a0 a1 v5 H
  · refine zs_aload_n (pc := 18) (x := a0) d_Mo_defaults_18 rfl ?_
    refine zs_lconst (pc := 19) (v := (0 : Int64)) d_Mo_defaults_19 (by decide) ?_
    refine zs_callv_wV (pc := 20) (av := [zL (0 : Int64)]) (st := []) (d' := 0) (C' := 0) (S' := 0) d_Mo_defaults_20 kV_Mo_273 z_okb (jm_Mo_give1 (d := 0) (Nat.le_refl _) a0 (0 : Int64) H) (by omega) (Nat.le_of_ble_eq_true rfl) (Nat.le_of_ble_eq_true rfl) rfl rfl (Nat.le_of_ble_eq_true rfl) fun y20 => ?_
    refine zs_aload_n (pc := 23) (x := a0) d_Mo_defaults_23 rfl ?_
    refine zs_getR (pc := 24) d_Mo_defaults_24 kF_Mo_16 fun v24 => ?_
    refine zs_iload_n (pc := 27) (x := v5) d_Mo_defaults_27 rfl ?_
    refine zs_iald (t := 0) (pc := 28) d_Mo_defaults_28 rfl fun v28 => ?_
    refine zs_istore_n (pc := 29) (lv' := [(2, zI v28), (0, zR a0), (1, zI a1)]) d_Mo_defaults_29 (Nat.le_of_ble_eq_true rfl) rfl ?_
    refine zs_sub (lv' := [(0, zR a0), (1, zI a1), (2, zI v28)]) [1, 2, 0] rfl ?_
    exact jj_Mo_defaults_30 hd  a0 a1 v28 y20
def jL_Mo_items_28 (fu : Nat) (k15 : Option Nat → Int32 → Int32 → Int32 → Int32 → zH → Option zH) : Nat → Option Nat → Int32 → Int32 → Int32 → Int32 → Int32 → Int32 → zH → Option zH
  | 0, _, _, _, _, _, _, _, _ => none
  | g + 1, a0, a1, a2, a3, a5, a6, a7, H =>
    if a5 ≤ a7 then (
      (zgR H a0 1 3).bind fun v62 =>
      (zaI H v62 0 a1).bind fun v66 =>
      (zgR H a0 1 3).bind fun v70 =>
      (zaI H v70 0 a3).bind fun v74 =>
      (jF_Mo_add a0 v66 a6 v74 H).bind fun y75 =>
      k15 a0 a1 a2 a3 (a5 + (-1 : Int32)) y75)
    else (
      (zgR H a0 1 3).bind fun v39 =>
      (zaI H v39 0 a1).bind fun v43 =>
      (jF_Mo_span fu a0 v43 a6 (24 : Int32) H).bind fun y48 =>
      jL_Mo_items_28 fu k15 g a0 a1 a2 a3 a5 (a6 + y48.1) (a7 + (1 : Int32)) y48.2)
def jL_Mo_items_15 (fu : Nat) : Nat → Option Nat → Int32 → Int32 → Int32 → Int32 → zH → Option zH
  | 0, _, _, _, _, _, _ => none
  | g + 1, a0, a1, a2, a3, a5, H =>
    if a5 < 0 then (
      some H)
    else (
      jL_Mo_items_28 fu (fun x0 x1 x2 x3 x4 x5 => jL_Mo_items_15 fu g x0 x1 x2 x3 x4 x5) fu a0 a1 a2 a3 a5 (a2 + (1 : Int32)) (0 : Int32) H)
def jF_Mo_items (fu : Nat) (a0 : Option Nat) (a1 : Int32) (a2 : Int32) (a3 : Int32) (H : zH) : Option zH :=
  (zok H a0 1).bind fun _ =>
  (zgR H a0 1 30).bind fun v1 =>
  (zaL H v1 2 a2).bind fun v5 =>
  jL_Mo_items_15 fu fu a0 a1 a2 a3 (v5.toInt32 - (1 : Int32)) H
theorem jl_Mo_items_28 {E : zE} {d : Nat} (hd : 2 ≤ d) (fu : Nat) (k15 : Option Nat → Int32 → Int32 → Int32 → Int32 → zH → Option zH) (hk15 : ∀ (a0 : Option Nat) (a1 : Int32) (a2 : Int32) (a3 : Int32) (a5 : Int32) (H : zH), z_S E jM_Mo_items d 0 0 zwV 15 [(0, zR a0), (1, zI a1), (2, zI a2), (3, zI a3), (5, zI a5)] [] H 0 0 (k15 a0 a1 a2 a3 a5 H)) : ∀ (g : Nat), ∀ (a0 : Option Nat) (a1 : Int32) (a2 : Int32) (a3 : Int32) (a5 : Int32) (a6 : Int32) (a7 : Int32) (H : zH), z_S E jM_Mo_items d 0 0 zwV 28 [(0, zR a0), (1, zI a1), (2, zI a2), (3, zI a3), (5, zI a5), (6, zI a6), (7, zI a7)] [] H 0 0 (jL_Mo_items_28 fu k15 g a0 a1 a2 a3 a5 a6 a7 H) := by
  intro g
  induction g with
  | zero => intros; exact zs_none
  | succ g ih =>
    intro a0 a1 a2 a3 a5 a6 a7 H
    rw [jL_Mo_items_28]
    refine zs_iload (pc := 28) (x := a7) d_Mo_items_28 rfl ?_
    refine zs_iload (pc := 30) (x := a5) d_Mo_items_30 rfl ?_
    refine zs_icmp_ge (pc := 32) (tgt := 60) d_Mo_items_32 rfl (fun q32 => ?_) (fun q32 => ?_)
    · refine zs_aload_n (pc := 60) (x := a0) d_Mo_items_60 rfl ?_
      refine zs_aload_n (pc := 61) (x := a0) d_Mo_items_61 rfl ?_
      refine zs_getR (pc := 62) d_Mo_items_62 kF_Mo_16 fun v62 => ?_
      refine zs_iload_n (pc := 65) (x := a1) d_Mo_items_65 rfl ?_
      refine zs_iald (t := 0) (pc := 66) d_Mo_items_66 rfl fun v66 => ?_
      refine zs_iload (pc := 67) (x := a6) d_Mo_items_67 rfl ?_
      refine zs_aload_n (pc := 69) (x := a0) d_Mo_items_69 rfl ?_
      refine zs_getR (pc := 70) d_Mo_items_70 kF_Mo_16 fun v70 => ?_
      refine zs_iload_n (pc := 73) (x := a3) d_Mo_items_73 rfl ?_
      refine zs_iald (t := 0) (pc := 74) d_Mo_items_74 rfl fun v74 => ?_
      refine zs_callv_wV (pc := 75) (av := [zI v66, zI a6, zI v74]) (st := []) (d' := 0) (C' := 0) (S' := 0) d_Mo_items_75 kV_Mo_264 z_okb (jm_Mo_add (d := 0) (Nat.le_refl _) a0 v66 a6 v74 H) (by omega) (Nat.le_of_ble_eq_true rfl) (Nat.le_of_ble_eq_true rfl) rfl rfl (Nat.le_of_ble_eq_true rfl) fun y75 => ?_
      refine zs_iinc (pc := 78) (x := a5) (v := (a5 + (-1 : Int32))) (lv' := [(5, zI (a5 + (-1 : Int32))), (0, zR a0), (1, zI a1), (2, zI a2), (3, zI a3), (6, zI a6), (7, zI a7)]) d_Mo_items_78 rfl rfl (Nat.le_of_ble_eq_true rfl) rfl ?_
      refine zs_goto (pc := 81) (tgt := 15) d_Mo_items_81 rfl ?_
      refine zs_sub (lv' := [(0, zR a0), (1, zI a1), (2, zI a2), (3, zI a3), (5, zI (a5 + (-1 : Int32)))]) [1, 2, 3, 4, 0] rfl ?_
      exact hk15 a0 a1 a2 a3 (a5 + (-1 : Int32)) y75
    · refine zs_iload (pc := 35) (x := a6) d_Mo_items_35 rfl ?_
      refine zs_aload_n (pc := 37) (x := a0) d_Mo_items_37 rfl ?_
      refine zs_aload_n (pc := 38) (x := a0) d_Mo_items_38 rfl ?_
      refine zs_getR (pc := 39) d_Mo_items_39 kF_Mo_16 fun v39 => ?_
      refine zs_iload_n (pc := 42) (x := a1) d_Mo_items_42 rfl ?_
      refine zs_iald (t := 0) (pc := 43) d_Mo_items_43 rfl fun v43 => ?_
      refine zs_iload (pc := 44) (x := a6) d_Mo_items_44 rfl ?_
      refine zs_bipush (pc := 46) (v := (24 : Int32)) d_Mo_items_46 (by decide) ?_
      refine zs_callv_wI (pc := 48) (av := [zI v43, zI a6, zI (24 : Int32)]) (st := [zI a6]) (d' := 1) (C' := 0) (S' := 0) d_Mo_items_48 kV_Mo_205 z_okb (jm_Mo_span (d := 1) (Nat.le_refl _) fu a0 v43 a6 (24 : Int32) H) (by omega) (Nat.le_of_ble_eq_true rfl) (Nat.le_of_ble_eq_true rfl) rfl rfl (Nat.le_of_ble_eq_true rfl) fun y48 => ?_
      refine zs_iadd (pc := 51) d_Mo_items_51 ?_
      refine zs_istore (pc := 52) (lv' := [(6, zI (a6 + y48.1)), (0, zR a0), (1, zI a1), (2, zI a2), (3, zI a3), (5, zI a5), (7, zI a7)]) d_Mo_items_52 (Nat.le_of_ble_eq_true rfl) rfl ?_
      refine zs_iinc (pc := 54) (x := a7) (v := (a7 + (1 : Int32))) (lv' := [(7, zI (a7 + (1 : Int32))), (6, zI (a6 + y48.1)), (0, zR a0), (1, zI a1), (2, zI a2), (3, zI a3), (5, zI a5)]) d_Mo_items_54 rfl rfl (Nat.le_of_ble_eq_true rfl) rfl ?_
      refine zs_goto (pc := 57) (tgt := 28) d_Mo_items_57 rfl ?_
      refine zs_sub (lv' := [(0, zR a0), (1, zI a1), (2, zI a2), (3, zI a3), (5, zI a5), (6, zI (a6 + y48.1)), (7, zI (a7 + (1 : Int32)))]) [2, 3, 4, 5, 6, 1, 0] rfl ?_
      exact ih a0 a1 a2 a3 a5 (a6 + y48.1) (a7 + (1 : Int32)) y48.2
theorem jl_Mo_items_15 {E : zE} {d : Nat} (hd : 2 ≤ d) (fu : Nat) : ∀ (g : Nat), ∀ (a0 : Option Nat) (a1 : Int32) (a2 : Int32) (a3 : Int32) (a5 : Int32) (H : zH), z_S E jM_Mo_items d 0 0 zwV 15 [(0, zR a0), (1, zI a1), (2, zI a2), (3, zI a3), (5, zI a5)] [] H 0 0 (jL_Mo_items_15 fu g a0 a1 a2 a3 a5 H) := by
  intro g
  induction g with
  | zero => intros; exact zs_none
  | succ g ih =>
    intro a0 a1 a2 a3 a5 H
    rw [jL_Mo_items_15]
    refine zs_iload (pc := 15) (x := a5) d_Mo_items_15 rfl ?_
    refine zs_if_lt (pc := 17) (tgt := 84) d_Mo_items_17 rfl (fun q17 => ?_) (fun q17 => ?_)
    · exact zs_vret (pc := 84) d_Mo_items_84 rfl (Nat.le_of_ble_eq_true rfl) (Nat.le_of_ble_eq_true rfl) rfl
    · refine zs_iload_n (pc := 20) (x := a2) d_Mo_items_20 rfl ?_
      refine zs_iconst (pc := 21) (v := (1 : Int32)) d_Mo_items_21 (by decide) ?_
      refine zs_iadd (pc := 22) d_Mo_items_22 ?_
      refine zs_istore (pc := 23) (lv' := [(6, zI (a2 + (1 : Int32))), (0, zR a0), (1, zI a1), (2, zI a2), (3, zI a3), (5, zI a5)]) d_Mo_items_23 (Nat.le_of_ble_eq_true rfl) rfl ?_
      refine zs_iconst (pc := 25) (v := (0 : Int32)) d_Mo_items_25 (by decide) ?_
      refine zs_istore (pc := 26) (lv' := [(7, zI (0 : Int32)), (6, zI (a2 + (1 : Int32))), (0, zR a0), (1, zI a1), (2, zI a2), (3, zI a3), (5, zI a5)]) d_Mo_items_26 (Nat.le_of_ble_eq_true rfl) rfl ?_
      refine zs_sub (lv' := [(0, zR a0), (1, zI a1), (2, zI a2), (3, zI a3), (5, zI a5), (6, zI (a2 + (1 : Int32))), (7, zI (0 : Int32))]) [2, 3, 4, 5, 6, 1, 0] rfl ?_
      exact jl_Mo_items_28 hd fu (fun x0 x1 x2 x3 x4 x5 => jL_Mo_items_15 fu g x0 x1 x2 x3 x4 x5) ih fu a0 a1 a2 a3 a5 (a2 + (1 : Int32)) (0 : Int32) H
theorem jm_Mo_items {E : zE} {d : Nat} (hd : 2 ≤ d) (fu : Nat) (a0 : Option Nat) (a1 : Int32) (a2 : Int32) (a3 : Int32) (H : zH) : z_MS E jM_Mo_items d 0 0 zwV [zR a0, zI a1, zI a2, zI a3] H (jF_Mo_items fu a0 a1 a2 a3 H) := by
  refine zs_of (lv0 := [(0, zR a0), (1, zI a1), (2, zI a2), (3, zI a3)]) pn_Mo (Nat.le_of_ble_eq_true rfl) rfl ?_
  unfold jF_Mo_items
  refine zs_bind fun _ _ => ?_
  refine zs_aload_n (pc := 0) (x := a0) d_Mo_items_0 rfl ?_
  refine zs_getR (pc := 1) d_Mo_items_1 kF_Mo_66 fun v1 => ?_
  refine zs_iload_n (pc := 4) (x := a2) d_Mo_items_4 rfl ?_
  refine zs_lald (t := 2) (pc := 5) d_Mo_items_5 rfl fun v5 => ?_
  refine zs_l2i (pc := 6) d_Mo_items_6 ?_
  refine zs_istore (pc := 7) (lv' := [(4, zI v5.toInt32), (0, zR a0), (1, zI a1), (2, zI a2), (3, zI a3)]) d_Mo_items_7 (Nat.le_of_ble_eq_true rfl) rfl ?_
  refine zs_iload (pc := 9) (x := v5.toInt32) d_Mo_items_9 rfl ?_
  refine zs_iconst (pc := 11) (v := (1 : Int32)) d_Mo_items_11 (by decide) ?_
  refine zs_isub (pc := 12) d_Mo_items_12 ?_
  refine zs_istore (pc := 13) (lv' := [(5, zI (v5.toInt32 - (1 : Int32))), (4, zI v5.toInt32), (0, zR a0), (1, zI a1), (2, zI a2), (3, zI a3)]) d_Mo_items_13 (Nat.le_of_ble_eq_true rfl) rfl ?_
  refine zs_sub (lv' := [(0, zR a0), (1, zI a1), (2, zI a2), (3, zI a3), (5, zI (v5.toInt32 - (1 : Int32)))]) [2, 3, 4, 5, 0] rfl ?_
  exact jl_Mo_items_15 hd fu fu a0 a1 a2 a3 (v5.toInt32 - (1 : Int32)) H
def jL_Mo_placeOf_8 (fu : Nat) : Nat → Option Nat → Int32 → Int32 → Int32 → zH → Option (Int32 × zH)
  | 0, _, _, _, _, _ => none
  | g + 1, a0, a3, a4, a5, H =>
    if a3 ≤ a5 then (
      some (a4, H))
    else (
      (zgR H a0 1 8).bind fun v18 =>
      (zaI H v18 0 a5).bind fun v23 =>
      (jF_Mo_span fu a0 v23 a4 (24 : Int32) H).bind fun y28 =>
      jL_Mo_placeOf_8 fu g a0 a3 (a4 + y28.1) (a5 + (1 : Int32)) y28.2)
def jF_Mo_placeOf (fu : Nat) (a0 : Option Nat) (a1 : Int32) (a2 : Int32) (a3 : Int32) (H : zH) : Option (Int32 × zH) :=
  (zok H a0 1).bind fun _ =>
  jL_Mo_placeOf_8 fu fu a0 a3 a2 ((3 : Int32) * a1) H
theorem jl_Mo_placeOf_8 {E : zE} {d : Nat} (hd : 2 ≤ d) (fu : Nat) : ∀ (g : Nat), ∀ (a0 : Option Nat) (a3 : Int32) (a4 : Int32) (a5 : Int32) (H : zH), z_S E jM_Mo_placeOf d 0 0 zwI 8 [(0, zR a0), (3, zI a3), (4, zI a4), (5, zI a5)] [] H 0 0 (jL_Mo_placeOf_8 fu g a0 a3 a4 a5 H) := by
  intro g
  induction g with
  | zero => intros; exact zs_none
  | succ g ih =>
    intro a0 a3 a4 a5 H
    rw [jL_Mo_placeOf_8]
    refine zs_iload (pc := 8) (x := a5) d_Mo_placeOf_8 rfl ?_
    refine zs_iload_n (pc := 10) (x := a3) d_Mo_placeOf_10 rfl ?_
    refine zs_icmp_ge (pc := 11) (tgt := 40) d_Mo_placeOf_11 rfl (fun q11 => ?_) (fun q11 => ?_)
    · refine zs_iload (pc := 40) (x := a4) d_Mo_placeOf_40 rfl ?_
      exact zs_iret (pc := 42) d_Mo_placeOf_42 rfl (Nat.le_of_ble_eq_true rfl) (Nat.le_of_ble_eq_true rfl) rfl
    · refine zs_iload (pc := 14) (x := a4) d_Mo_placeOf_14 rfl ?_
      refine zs_aload_n (pc := 16) (x := a0) d_Mo_placeOf_16 rfl ?_
      refine zs_aload_n (pc := 17) (x := a0) d_Mo_placeOf_17 rfl ?_
      refine zs_getR (pc := 18) d_Mo_placeOf_18 kF_Mo_31 fun v18 => ?_
      refine zs_iload (pc := 21) (x := a5) d_Mo_placeOf_21 rfl ?_
      refine zs_iald (t := 0) (pc := 23) d_Mo_placeOf_23 rfl fun v23 => ?_
      refine zs_iload (pc := 24) (x := a4) d_Mo_placeOf_24 rfl ?_
      refine zs_bipush (pc := 26) (v := (24 : Int32)) d_Mo_placeOf_26 (by decide) ?_
      refine zs_callv_wI (pc := 28) (av := [zI v23, zI a4, zI (24 : Int32)]) (st := [zI a4]) (d' := 1) (C' := 0) (S' := 0) d_Mo_placeOf_28 kV_Mo_205 z_okb (jm_Mo_span (d := 1) (Nat.le_refl _) fu a0 v23 a4 (24 : Int32) H) (by omega) (Nat.le_of_ble_eq_true rfl) (Nat.le_of_ble_eq_true rfl) rfl rfl (Nat.le_of_ble_eq_true rfl) fun y28 => ?_
      refine zs_iadd (pc := 31) d_Mo_placeOf_31 ?_
      refine zs_istore (pc := 32) (lv' := [(4, zI (a4 + y28.1)), (0, zR a0), (3, zI a3), (5, zI a5)]) d_Mo_placeOf_32 (Nat.le_of_ble_eq_true rfl) rfl ?_
      refine zs_iinc (pc := 34) (x := a5) (v := (a5 + (1 : Int32))) (lv' := [(5, zI (a5 + (1 : Int32))), (4, zI (a4 + y28.1)), (0, zR a0), (3, zI a3)]) d_Mo_placeOf_34 rfl rfl (Nat.le_of_ble_eq_true rfl) rfl ?_
      refine zs_goto (pc := 37) (tgt := 8) d_Mo_placeOf_37 rfl ?_
      refine zs_sub (lv' := [(0, zR a0), (3, zI a3), (4, zI (a4 + y28.1)), (5, zI (a5 + (1 : Int32)))]) [2, 3, 1, 0] rfl ?_
      exact ih a0 a3 (a4 + y28.1) (a5 + (1 : Int32)) y28.2
theorem jm_Mo_placeOf {E : zE} {d : Nat} (hd : 2 ≤ d) (fu : Nat) (a0 : Option Nat) (a1 : Int32) (a2 : Int32) (a3 : Int32) (H : zH) : z_MS E jM_Mo_placeOf d 0 0 zwI [zR a0, zI a1, zI a2, zI a3] H (jF_Mo_placeOf fu a0 a1 a2 a3 H) := by
  refine zs_of (lv0 := [(0, zR a0), (1, zI a1), (2, zI a2), (3, zI a3)]) pn_Mo (Nat.le_of_ble_eq_true rfl) rfl ?_
  unfold jF_Mo_placeOf
  refine zs_bind fun _ _ => ?_
  refine zs_iload_n (pc := 0) (x := a2) d_Mo_placeOf_0 rfl ?_
  refine zs_istore (pc := 1) (lv' := [(4, zI a2), (0, zR a0), (1, zI a1), (2, zI a2), (3, zI a3)]) d_Mo_placeOf_1 (Nat.le_of_ble_eq_true rfl) rfl ?_
  refine zs_iconst (pc := 3) (v := (3 : Int32)) d_Mo_placeOf_3 (by decide) ?_
  refine zs_iload_n (pc := 4) (x := a1) d_Mo_placeOf_4 rfl ?_
  refine zs_imul (pc := 5) d_Mo_placeOf_5 ?_
  refine zs_istore (pc := 6) (lv' := [(5, zI ((3 : Int32) * a1)), (4, zI a2), (0, zR a0), (1, zI a1), (2, zI a2), (3, zI a3)]) d_Mo_placeOf_6 (Nat.le_of_ble_eq_true rfl) rfl ?_
  refine zs_sub (lv' := [(0, zR a0), (3, zI a3), (4, zI a2), (5, zI ((3 : Int32) * a1))]) [2, 5, 1, 0] rfl ?_
  exact jl_Mo_placeOf_8 hd fu fu a0 a3 a2 ((3 : Int32) * a1) H
def jJ_Mo_ofRecord_53 (fu : Nat) (k14 : Option Nat → Int32 → Int32 → Int32 → Int32 → zH → Option (Int32 × zH)) (a0 : Option Nat) (a1 : Int32) (a2 : Int32) (a3 : Int32) (a4 : Int32) (a5 : Int32) (H : zH) : Option (Int32 × zH) :=
  if 0 ≤ a5 then (
    (jF_Mo_placeOf fu a0 a1 a2 a5 H).bind fun y74 =>
    (zgR y74.2 a0 1 8).bind fun v81 =>
    (zaI y74.2 v81 0 a5).bind fun v86 =>
    (zgR y74.2 a0 1 8).bind fun v90 =>
    (zaI y74.2 v90 0 a4).bind fun v95 =>
    (jF_Mo_add a0 v86 y74.1 v95 y74.2).bind fun y96 =>
    k14 a0 a1 a2 a3 (a4 + (-1 : Int32)) y96)
  else (
    (jF_Mo_add a0 (-1 : Int32) (0 : Int32) a4 H).bind fun y63 =>
    k14 a0 a1 a2 a3 (a4 + (-1 : Int32)) y63)
def jL_Mo_ofRecord_14 (fu : Nat) : Nat → Option Nat → Int32 → Int32 → Int32 → Int32 → zH → Option (Int32 × zH)
  | 0, _, _, _, _, _, _ => none
  | g + 1, a0, a1, a2, a3, a4, H =>
    if a4 < ((3 : Int32) * a3) then (
      some ((1 : Int32), H))
    else (
      (zgR H a0 1 7).bind fun v25 =>
      (zaI H v25 0 a4).bind fun v30 =>
      (jF_Mo_fieldOf fu a0 a1 v30 H).bind fun y31 =>
      if 0 ≤ y31 then (
        jJ_Mo_ofRecord_53 fu (fun x0 x1 x2 x3 x4 x5 => jL_Mo_ofRecord_14 fu g x0 x1 x2 x3 x4 x5) a0 a1 a2 a3 a4 y31 H)
      else (
        (zgR H a0 1 9).bind fun v42 =>
        (zaI H v42 1 a4).bind fun v47 =>
        if v47 = 0 then (
          some ((0 : Int32), H))
        else (
          jJ_Mo_ofRecord_53 fu (fun x0 x1 x2 x3 x4 x5 => jL_Mo_ofRecord_14 fu g x0 x1 x2 x3 x4 x5) a0 a1 a2 a3 a4 y31 H)))
def jF_Mo_ofRecord (fu : Nat) (a0 : Option Nat) (a1 : Int32) (a2 : Int32) (a3 : Int32) (H : zH) : Option (Int32 × zH) :=
  (zok H a0 1).bind fun _ =>
  (zgR H a0 1 6).bind fun v4 =>
  (zaI H v4 0 a3).bind fun v8 =>
  jL_Mo_ofRecord_14 fu fu a0 a1 a2 a3 ((((3 : Int32) * a3) + v8) - (1 : Int32)) H
theorem jj_Mo_ofRecord_53 {E : zE} {d : Nat} (hd : 3 ≤ d) (fu : Nat) (k14 : Option Nat → Int32 → Int32 → Int32 → Int32 → zH → Option (Int32 × zH)) (hk14 : ∀ (a0 : Option Nat) (a1 : Int32) (a2 : Int32) (a3 : Int32) (a4 : Int32) (H : zH), z_S E jM_Mo_ofRecord d 0 0 zwI 14 [(0, zR a0), (1, zI a1), (2, zI a2), (3, zI a3), (4, zI a4)] [] H 0 0 (k14 a0 a1 a2 a3 a4 H)) : ∀ (a0 : Option Nat) (a1 : Int32) (a2 : Int32) (a3 : Int32) (a4 : Int32) (a5 : Int32) (H : zH), z_S E jM_Mo_ofRecord d 0 0 zwI 53 [(0, zR a0), (1, zI a1), (2, zI a2), (3, zI a3), (4, zI a4), (5, zI a5)] [] H 0 0 (jJ_Mo_ofRecord_53 fu k14 a0 a1 a2 a3 a4 a5 H) := by
  intro a0 a1 a2 a3 a4 a5 H
  unfold jJ_Mo_ofRecord_53
  refine zs_iload (pc := 53) (x := a5) d_Mo_ofRecord_53 rfl ?_
  refine zs_if_ge (pc := 55) (tgt := 69) d_Mo_ofRecord_55 rfl (fun q55 => ?_) (fun q55 => ?_)
  · refine zs_aload_n (pc := 69) (x := a0) d_Mo_ofRecord_69 rfl ?_
    refine zs_iload_n (pc := 70) (x := a1) d_Mo_ofRecord_70 rfl ?_
    refine zs_iload_n (pc := 71) (x := a2) d_Mo_ofRecord_71 rfl ?_
    refine zs_iload (pc := 72) (x := a5) d_Mo_ofRecord_72 rfl ?_
    refine zs_callv_wI (pc := 74) (av := [zI a1, zI a2, zI a5]) (st := []) (d' := 2) (C' := 0) (S' := 0) d_Mo_ofRecord_74 kV_Mo_285 z_okb (jm_Mo_placeOf (d := 2) (Nat.le_refl _) fu a0 a1 a2 a5 H) (by omega) (Nat.le_of_ble_eq_true rfl) (Nat.le_of_ble_eq_true rfl) rfl rfl (Nat.le_of_ble_eq_true rfl) fun y74 => ?_
    refine zs_istore (pc := 77) (lv' := [(6, zI y74.1), (0, zR a0), (1, zI a1), (2, zI a2), (3, zI a3), (4, zI a4), (5, zI a5)]) d_Mo_ofRecord_77 (Nat.le_of_ble_eq_true rfl) rfl ?_
    refine zs_aload_n (pc := 79) (x := a0) d_Mo_ofRecord_79 rfl ?_
    refine zs_aload_n (pc := 80) (x := a0) d_Mo_ofRecord_80 rfl ?_
    refine zs_getR (pc := 81) d_Mo_ofRecord_81 kF_Mo_31 fun v81 => ?_
    refine zs_iload (pc := 84) (x := a5) d_Mo_ofRecord_84 rfl ?_
    refine zs_iald (t := 0) (pc := 86) d_Mo_ofRecord_86 rfl fun v86 => ?_
    refine zs_iload (pc := 87) (x := y74.1) d_Mo_ofRecord_87 rfl ?_
    refine zs_aload_n (pc := 89) (x := a0) d_Mo_ofRecord_89 rfl ?_
    refine zs_getR (pc := 90) d_Mo_ofRecord_90 kF_Mo_31 fun v90 => ?_
    refine zs_iload (pc := 93) (x := a4) d_Mo_ofRecord_93 rfl ?_
    refine zs_iald (t := 0) (pc := 95) d_Mo_ofRecord_95 rfl fun v95 => ?_
    refine zs_callv_wV (pc := 96) (av := [zI v86, zI y74.1, zI v95]) (st := []) (d' := 0) (C' := 0) (S' := 0) d_Mo_ofRecord_96 kV_Mo_264 z_okb (jm_Mo_add (d := 0) (Nat.le_refl _) a0 v86 y74.1 v95 y74.2) (by omega) (Nat.le_of_ble_eq_true rfl) (Nat.le_of_ble_eq_true rfl) rfl rfl (Nat.le_of_ble_eq_true rfl) fun y96 => ?_
    refine zs_iinc (pc := 99) (x := a4) (v := (a4 + (-1 : Int32))) (lv' := [(4, zI (a4 + (-1 : Int32))), (6, zI y74.1), (0, zR a0), (1, zI a1), (2, zI a2), (3, zI a3), (5, zI a5)]) d_Mo_ofRecord_99 rfl rfl (Nat.le_of_ble_eq_true rfl) rfl ?_
    refine zs_goto (pc := 102) (tgt := 14) d_Mo_ofRecord_102 rfl ?_
    refine zs_sub (lv' := [(0, zR a0), (1, zI a1), (2, zI a2), (3, zI a3), (4, zI (a4 + (-1 : Int32)))]) [2, 3, 4, 5, 0] rfl ?_
    exact hk14 a0 a1 a2 a3 (a4 + (-1 : Int32)) y96
  · refine zs_aload_n (pc := 58) (x := a0) d_Mo_ofRecord_58 rfl ?_
    refine zs_iconst (pc := 59) (v := (-1 : Int32)) d_Mo_ofRecord_59 (by decide) ?_
    refine zs_iconst (pc := 60) (v := (0 : Int32)) d_Mo_ofRecord_60 (by decide) ?_
    refine zs_iload (pc := 61) (x := a4) d_Mo_ofRecord_61 rfl ?_
    refine zs_callv_wV (pc := 63) (av := [zI (-1 : Int32), zI (0 : Int32), zI a4]) (st := []) (d' := 0) (C' := 0) (S' := 0) d_Mo_ofRecord_63 kV_Mo_264 z_okb (jm_Mo_add (d := 0) (Nat.le_refl _) a0 (-1 : Int32) (0 : Int32) a4 H) (by omega) (Nat.le_of_ble_eq_true rfl) (Nat.le_of_ble_eq_true rfl) rfl rfl (Nat.le_of_ble_eq_true rfl) fun y63 => ?_
    refine zs_goto (pc := 66) (tgt := 99) d_Mo_ofRecord_66 rfl ?_
    refine zs_iinc (pc := 99) (x := a4) (v := (a4 + (-1 : Int32))) (lv' := [(4, zI (a4 + (-1 : Int32))), (0, zR a0), (1, zI a1), (2, zI a2), (3, zI a3), (5, zI a5)]) d_Mo_ofRecord_99 rfl rfl (Nat.le_of_ble_eq_true rfl) rfl ?_
    refine zs_goto (pc := 102) (tgt := 14) d_Mo_ofRecord_102 rfl ?_
    refine zs_sub (lv' := [(0, zR a0), (1, zI a1), (2, zI a2), (3, zI a3), (4, zI (a4 + (-1 : Int32)))]) [1, 2, 3, 4, 0] rfl ?_
    exact hk14 a0 a1 a2 a3 (a4 + (-1 : Int32)) y63
theorem jl_Mo_ofRecord_14 {E : zE} {d : Nat} (hd : 3 ≤ d) (fu : Nat) : ∀ (g : Nat), ∀ (a0 : Option Nat) (a1 : Int32) (a2 : Int32) (a3 : Int32) (a4 : Int32) (H : zH), z_S E jM_Mo_ofRecord d 0 0 zwI 14 [(0, zR a0), (1, zI a1), (2, zI a2), (3, zI a3), (4, zI a4)] [] H 0 0 (jL_Mo_ofRecord_14 fu g a0 a1 a2 a3 a4 H) := by
  intro g
  induction g with
  | zero => intros; exact zs_none
  | succ g ih =>
    intro a0 a1 a2 a3 a4 H
    rw [jL_Mo_ofRecord_14]
    refine zs_iload (pc := 14) (x := a4) d_Mo_ofRecord_14 rfl ?_
    refine zs_iconst (pc := 16) (v := (3 : Int32)) d_Mo_ofRecord_16 (by decide) ?_
    refine zs_iload_n (pc := 17) (x := a3) d_Mo_ofRecord_17 rfl ?_
    refine zs_imul (pc := 18) d_Mo_ofRecord_18 ?_
    refine zs_icmp_lt (pc := 19) (tgt := 105) d_Mo_ofRecord_19 rfl (fun q19 => ?_) (fun q19 => ?_)
    · refine zs_iconst (pc := 105) (v := (1 : Int32)) d_Mo_ofRecord_105 (by decide) ?_
      exact zs_zretc (pc := 106) d_Mo_ofRecord_106 rfl (by decide) (Nat.le_of_ble_eq_true rfl) (Nat.le_of_ble_eq_true rfl) rfl
    · refine zs_aload_n (pc := 22) (x := a0) d_Mo_ofRecord_22 rfl ?_
      refine zs_iload_n (pc := 23) (x := a1) d_Mo_ofRecord_23 rfl ?_
      refine zs_aload_n (pc := 24) (x := a0) d_Mo_ofRecord_24 rfl ?_
      refine zs_getR (pc := 25) d_Mo_ofRecord_25 kF_Mo_28 fun v25 => ?_
      refine zs_iload (pc := 28) (x := a4) d_Mo_ofRecord_28 rfl ?_
      refine zs_iald (t := 0) (pc := 30) d_Mo_ofRecord_30 rfl fun v30 => ?_
      refine zs_callv_rI (pc := 31) (av := [zI a1, zI v30]) (st := []) (d' := 0) (C' := 0) (S' := 0) d_Mo_ofRecord_31 kV_Mo_120 z_okb (jm_Mo_fieldOf (d := 0) (Nat.le_refl _) fu a0 a1 v30 H) (by omega) (Nat.le_of_ble_eq_true rfl) (Nat.le_of_ble_eq_true rfl) rfl rfl (Nat.le_of_ble_eq_true rfl) fun y31 => ?_
      refine zs_istore (pc := 34) (lv' := [(5, zI y31), (0, zR a0), (1, zI a1), (2, zI a2), (3, zI a3), (4, zI a4)]) d_Mo_ofRecord_34 (Nat.le_of_ble_eq_true rfl) rfl ?_
      refine zs_iload (pc := 36) (x := y31) d_Mo_ofRecord_36 rfl ?_
      refine zs_if_ge (pc := 38) (tgt := 53) d_Mo_ofRecord_38 rfl (fun q38 => ?_) (fun q38 => ?_)
      · refine zs_sub (lv' := [(0, zR a0), (1, zI a1), (2, zI a2), (3, zI a3), (4, zI a4), (5, zI y31)]) [1, 2, 3, 4, 5, 0] rfl ?_
        exact jj_Mo_ofRecord_53 hd fu (fun x0 x1 x2 x3 x4 x5 => jL_Mo_ofRecord_14 fu g x0 x1 x2 x3 x4 x5) ih a0 a1 a2 a3 a4 y31 H
      · refine zs_aload_n (pc := 41) (x := a0) d_Mo_ofRecord_41 rfl ?_
        refine zs_getR (pc := 42) d_Mo_ofRecord_42 kF_Mo_34 fun v42 => ?_
        refine zs_iload (pc := 45) (x := a4) d_Mo_ofRecord_45 rfl ?_
        refine zs_zald (t := 1) (pc := 47) d_Mo_ofRecord_47 rfl fun v47 => ?_
        refine zs_if_ne (pc := 48) (tgt := 53) d_Mo_ofRecord_48 rfl (fun q48 => ?_) (fun q48 => ?_)
        · refine zs_sub (lv' := [(0, zR a0), (1, zI a1), (2, zI a2), (3, zI a3), (4, zI a4), (5, zI y31)]) [1, 2, 3, 4, 5, 0] rfl ?_
          exact jj_Mo_ofRecord_53 hd fu (fun x0 x1 x2 x3 x4 x5 => jL_Mo_ofRecord_14 fu g x0 x1 x2 x3 x4 x5) ih a0 a1 a2 a3 a4 y31 H
        · refine zs_iconst (pc := 51) (v := (0 : Int32)) d_Mo_ofRecord_51 (by decide) ?_
          exact zs_zretc (pc := 52) d_Mo_ofRecord_52 rfl (by decide) (Nat.le_of_ble_eq_true rfl) (Nat.le_of_ble_eq_true rfl) rfl
theorem jm_Mo_ofRecord {E : zE} {d : Nat} (hd : 3 ≤ d) (fu : Nat) (a0 : Option Nat) (a1 : Int32) (a2 : Int32) (a3 : Int32) (H : zH) : z_MS E jM_Mo_ofRecord d 0 0 zwI [zR a0, zI a1, zI a2, zI a3] H (jF_Mo_ofRecord fu a0 a1 a2 a3 H) := by
  refine zs_of (lv0 := [(0, zR a0), (1, zI a1), (2, zI a2), (3, zI a3)]) pn_Mo (Nat.le_of_ble_eq_true rfl) rfl ?_
  unfold jF_Mo_ofRecord
  refine zs_bind fun _ _ => ?_
  refine zs_iconst (pc := 0) (v := (3 : Int32)) d_Mo_ofRecord_0 (by decide) ?_
  refine zs_iload_n (pc := 1) (x := a3) d_Mo_ofRecord_1 rfl ?_
  refine zs_imul (pc := 2) d_Mo_ofRecord_2 ?_
  refine zs_aload_n (pc := 3) (x := a0) d_Mo_ofRecord_3 rfl ?_
  refine zs_getR (pc := 4) d_Mo_ofRecord_4 kF_Mo_25 fun v4 => ?_
  refine zs_iload_n (pc := 7) (x := a3) d_Mo_ofRecord_7 rfl ?_
  refine zs_iald (t := 0) (pc := 8) d_Mo_ofRecord_8 rfl fun v8 => ?_
  refine zs_iadd (pc := 9) d_Mo_ofRecord_9 ?_
  refine zs_iconst (pc := 10) (v := (1 : Int32)) d_Mo_ofRecord_10 (by decide) ?_
  refine zs_isub (pc := 11) d_Mo_ofRecord_11 ?_
  refine zs_istore (pc := 12) (lv' := [(4, zI ((((3 : Int32) * a3) + v8) - (1 : Int32))), (0, zR a0), (1, zI a1), (2, zI a2), (3, zI a3)]) d_Mo_ofRecord_12 (Nat.le_of_ble_eq_true rfl) rfl ?_
  refine zs_sub (lv' := [(0, zR a0), (1, zI a1), (2, zI a2), (3, zI a3), (4, zI ((((3 : Int32) * a3) + v8) - (1 : Int32)))]) [1, 2, 3, 4, 0] rfl ?_
  exact jl_Mo_ofRecord_14 hd fu fu a0 a1 a2 a3 ((((3 : Int32) * a3) + v8) - (1 : Int32)) H
