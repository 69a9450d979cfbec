def jJ_Resolver_resolveSymbol_49  (s0 : Int64) (s1 : Option Nat) (H : zH) : Option (Int32 × zH) :=
  (jF_Row_append s1 s0 H).bind fun y49 =>
  some ((1 : Int32), y49)
def jJ_Resolver_resolveSymbol_33  (a1 : Option Nat) (a2 : Int64) (a4 : Option Nat) (a5 : Int32) (H : zH) : Option (Int32 × zH) :=
  if a5 = 0 then (
    (zgI H a1 8 3).bind fun v45 =>
    jJ_Resolver_resolveSymbol_49  v45.toInt64 a4 H)
  else (
    jJ_Resolver_resolveSymbol_49  a2 a4 H)
def jF_Resolver_resolveSymbol (a0 : Option Nat) (a1 : Option Nat) (a2 : Int64) (a4 : Option Nat) (H : zH) : Option (Int32 × zH) :=
  (jF_Schema_hasSymbol a1 a2 H).bind fun y2 =>
  (zgI H a0 8 1).bind fun v8 =>
  (zgI H a1 8 1).bind fun v12 =>
  if v8 = v12 then (
    if y2 = 0 then (
      (zgI H a1 8 3).bind fun v24 =>
      if v24 = (-1 : Int32) then (
        some ((0 : Int32), H))
      else (
        jJ_Resolver_resolveSymbol_33  a1 a2 a4 y2 H))
    else (
      jJ_Resolver_resolveSymbol_33  a1 a2 a4 y2 H))
  else (
    some ((0 : Int32), H))
theorem jj_Resolver_resolveSymbol_49 {E : zE} {d : Nat} (hd : 2 ≤ d)  : ∀ (s0 : Int64) (s1 : Option Nat) (H : zH), z_S E jM_Resolver_resolveSymbol d 0 0 zwI 49 [] [zL s0, zR s1] H 0 0 (jJ_Resolver_resolveSymbol_49 s0 s1 H) := by
  intro s0 s1 H
  unfold jJ_Resolver_resolveSymbol_49
  refine zs_callv_wV (pc := 49) (av := [zL s0]) (st := []) (d' := 0) (C' := 0) (S' := 0) d_Resolver_resolveSymbol_49 kV_Resolver_52 z_okb (jm_Row_append (d := 0) (Nat.le_refl _) s1 s0 H) (by omega) (Nat.le_of_ble_eq_true rfl) (Nat.le_of_ble_eq_true rfl) rfl rfl (Nat.le_of_ble_eq_true rfl) fun y49 => ?_
  refine zs_iconst (pc := 52) (v := (1 : Int32)) d_Resolver_resolveSymbol_52 (by decide) ?_
  exact zs_zretc (pc := 53) d_Resolver_resolveSymbol_53 rfl (by decide) (Nat.le_of_ble_eq_true rfl) (Nat.le_of_ble_eq_true rfl) rfl
theorem jj_Resolver_resolveSymbol_33 {E : zE} {d : Nat} (hd : 2 ≤ d)  : ∀ (a1 : Option Nat) (a2 : Int64) (a4 : Option Nat) (a5 : Int32) (H : zH), z_S E jM_Resolver_resolveSymbol d 0 0 zwI 33 [(1, zR a1), (2, zL a2), (4, zR a4), (5, zI a5)] [] H 0 0 (jJ_Resolver_resolveSymbol_33 a1 a2 a4 a5 H) := by
  intro a1 a2 a4 a5 H
  unfold jJ_Resolver_resolveSymbol_33
  refine zs_aload (pc := 33) (x := a4) d_Resolver_resolveSymbol_33 rfl ?_
  refine zs_iload (pc := 35) (x := a5) d_Resolver_resolveSymbol_35 rfl ?_
  refine zs_if_eq (pc := 37) (tgt := 44) d_Resolver_resolveSymbol_37 rfl (fun q37 => ?_) (fun q37 => ?_)
  · refine zs_aload_n (pc := 44) (x := a1) d_Resolver_resolveSymbol_44 rfl ?_
    refine zs_getI (pc := 45) d_Resolver_resolveSymbol_45 kF_Resolver_67 fun v45 => ?_
    refine zs_i2l (pc := 48) d_Resolver_resolveSymbol_48 ?_
    refine zs_sub (lv' := []) [] rfl ?_
    exact jj_Resolver_resolveSymbol_49 hd  v45.toInt64 a4 H
  · refine zs_lload_n (pc := 40) (x := a2) d_Resolver_resolveSymbol_40 rfl ?_
    refine zs_goto (pc := 41) (tgt := 49) d_Resolver_resolveSymbol_41 rfl ?_
    refine zs_sub (lv' := []) [] rfl ?_
    exact jj_Resolver_resolveSymbol_49 hd  a2 a4 H
theorem jm_Resolver_resolveSymbol {E : zE} {d : Nat} (hd : 2 ≤ d) (a0 : Option Nat) (a1 : Option Nat) (a2 : Int64) (a4 : Option Nat) (H : zH) : z_MS E jM_Resolver_resolveSymbol d 0 0 zwI [zR a0, zR a1, zL a2, zR a4] H (jF_Resolver_resolveSymbol a0 a1 a2 a4 H) := by
  refine zs_of (lv0 := [(0, zR a0), (1, zR a1), (2, zL a2), (4, zR a4)]) pn_Resolver (Nat.le_of_ble_eq_true rfl) rfl ?_
  unfold jF_Resolver_resolveSymbol
  refine zs_aload_n (pc := 0) (x := a1) d_Resolver_resolveSymbol_0 rfl ?_
  refine zs_lload_n (pc := 1) (x := a2) d_Resolver_resolveSymbol_1 rfl ?_
  refine zs_callv_rI (pc := 2) (av := [zL a2]) (st := []) (d' := 1) (C' := 0) (S' := 0) d_Resolver_resolveSymbol_2 kV_Resolver_60 z_okb (jm_Schema_hasSymbol (d := 1) (Nat.le_refl _) a1 a2 H) (by omega) (Nat.le_of_ble_eq_true rfl) (Nat.le_of_ble_eq_true rfl) rfl rfl (Nat.le_of_ble_eq_true rfl) fun y2 => ?_
  refine zs_istore (pc := 5) (lv' := [(5, zI y2), (0, zR a0), (1, zR a1), (2, zL a2), (4, zR a4)]) d_Resolver_resolveSymbol_5 (Nat.le_of_ble_eq_true rfl) rfl ?_
  refine zs_aload_n (pc := 7) (x := a0) d_Resolver_resolveSymbol_7 rfl ?_
  refine zs_getI (pc := 8) d_Resolver_resolveSymbol_8 kF_Resolver_64 fun v8 => ?_
  refine zs_aload_n (pc := 11) (x := a1) d_Resolver_resolveSymbol_11 rfl ?_
  refine zs_getI (pc := 12) d_Resolver_resolveSymbol_12 kF_Resolver_64 fun v12 => ?_
  refine zs_icmp_ne (pc := 15) (tgt := 31) d_Resolver_resolveSymbol_15 rfl (fun q15 => ?_) (fun q15 => ?_)
  · refine zs_iconst (pc := 31) (v := (0 : Int32)) d_Resolver_resolveSymbol_31 (by decide) ?_
    exact zs_zretc (pc := 32) d_Resolver_resolveSymbol_32 rfl (by decide) (Nat.le_of_ble_eq_true rfl) (Nat.le_of_ble_eq_true rfl) rfl
  · refine zs_iload (pc := 18) (x := y2) d_Resolver_resolveSymbol_18 rfl ?_
    refine zs_if_ne (pc := 20) (tgt := 33) d_Resolver_resolveSymbol_20 rfl (fun q20 => ?_) (fun q20 => ?_)
    · refine zs_sub (lv' := [(1, zR a1), (2, zL a2), (4, zR a4), (5, zI y2)]) [2, 3, 4, 0] rfl ?_
      exact jj_Resolver_resolveSymbol_33 hd  a1 a2 a4 y2 H
    · refine zs_aload_n (pc := 23) (x := a1) d_Resolver_resolveSymbol_23 rfl ?_
      refine zs_getI (pc := 24) d_Resolver_resolveSymbol_24 kF_Resolver_67 fun v24 => ?_
      refine zs_iconst (pc := 27) (v := (-1 : Int32)) d_Resolver_resolveSymbol_27 (by decide) ?_
      refine zs_icmp_ne (pc := 28) (tgt := 33) d_Resolver_resolveSymbol_28 rfl (fun q28 => ?_) (fun q28 => ?_)
      · refine zs_sub (lv' := [(1, zR a1), (2, zL a2), (4, zR a4), (5, zI y2)]) [2, 3, 4, 0] rfl ?_
        exact jj_Resolver_resolveSymbol_33 hd  a1 a2 a4 y2 H
      · refine zs_iconst (pc := 31) (v := (0 : Int32)) d_Resolver_resolveSymbol_31 (by decide) ?_
        exact zs_zretc (pc := 32) d_Resolver_resolveSymbol_32 rfl (by decide) (Nat.le_of_ble_eq_true rfl) (Nat.le_of_ble_eq_true rfl) rfl
def jF_Resolver_appendDefault : Nat → Option Nat → Int64 → Option Nat → zH → Option zH
  | 0, _, _, _, _ => none
  | rr + 1, a0, a1, a3, H =>
    (zgI H a0 8 0).bind fun v1 =>
    if v1 = (6 : Int32) then (
      (jF_Row_append a3 (0 : Int64) H).bind fun y11 =>
      (zgR y11 a0 8 4).bind fun v15 =>
      ((fun x0 x1 x2 x3 => jF_Resolver_appendDefault rr x0 x1 x2 x3) v15 a1 a3 y11).bind fun y20 =>
      some y20)
    else (
      (zgI H a0 8 0).bind fun v27 =>
      if v27 = 0 then (
        some H)
      else (
        (jF_Row_append a3 a1 H).bind fun y35 =>
        some y35))
theorem jm_Resolver_appendDefault {E : zE} : ∀ (rr : Nat) {d : Nat} (hd : 1 * rr ≤ d) (a0 : Option Nat) (a1 : Int64) (a3 : Option Nat) (H : zH), z_MS E jM_Resolver_appendDefault d 0 0 zwV [zR a0, zL a1, zR a3] H (jF_Resolver_appendDefault rr a0 a1 a3 H) := by
  intro rr
  induction rr with
  | zero => intro d hd a0 a1 a3 H y hy; rw [jF_Resolver_appendDefault] at hy; cases hy
  | succ rr ih =>
    intro d hd a0 a1 a3 H
    have hrc : ∀ (x0 : Option Nat) (x1 : Int64) (x2 : Option Nat) (H : zH), z_MS E jM_Resolver_appendDefault (1 * rr) 0 0 zwV [zR x0, zL x1, zR x2] H ((fun x0 x1 x2 x3 => jF_Resolver_appendDefault rr x0 x1 x2 x3) x0 x1 x2 H) := fun x0 x1 x2 x3 => ih (Nat.le_refl _) x0 x1 x2 x3
    have hd : 1 * rr + 1 ≤ d := by omega
    refine zs_of (lv0 := [(0, zR a0), (1, zL a1), (3, zR a3)]) pn_Resolver (Nat.le_of_ble_eq_true rfl) rfl ?_
    rw [jF_Resolver_appendDefault]
    refine zs_aload_n (pc := 0) (x := a0) d_Resolver_appendDefault_0 rfl ?_
    refine zs_getI (pc := 1) d_Resolver_appendDefault_1 kF_Resolver_9 fun v1 => ?_
    refine zs_bipush (pc := 4) (v := (6 : Int32)) d_Resolver_appendDefault_4 (by decide) ?_
    refine zs_icmp_ne (pc := 6) (tgt := 26) d_Resolver_appendDefault_6 rfl (fun q6 => ?_) (fun q6 => ?_)
    · refine zs_aload_n (pc := 26) (x := a0) d_Resolver_appendDefault_26 rfl ?_
      refine zs_getI (pc := 27) d_Resolver_appendDefault_27 kF_Resolver_9 fun v27 => ?_
      refine zs_if_eq (pc := 30) (tgt := 38) d_Resolver_appendDefault_30 rfl (fun q30 => ?_) (fun q30 => ?_)
      · exact zs_vret (pc := 38) d_Resolver_appendDefault_38 rfl (Nat.le_of_ble_eq_true rfl) (Nat.le_of_ble_eq_true rfl) rfl
      · refine zs_aload_n (pc := 33) (x := a3) d_Resolver_appendDefault_33 rfl ?_
        refine zs_lload_n (pc := 34) (x := a1) d_Resolver_appendDefault_34 rfl ?_
        refine zs_callv_wV (pc := 35) (av := [zL a1]) (st := []) (d' := 0) (C' := 0) (S' := 0) d_Resolver_appendDefault_35 kV_Resolver_52 z_okb (jm_Row_append (d := 0) (Nat.le_refl _) a3 a1 H) (by omega) (Nat.le_of_ble_eq_true rfl) (Nat.le_of_ble_eq_true rfl) rfl rfl (Nat.le_of_ble_eq_true rfl) fun y35 => ?_
        exact zs_vret (pc := 38) d_Resolver_appendDefault_38 rfl (Nat.le_of_ble_eq_true rfl) (Nat.le_of_ble_eq_true rfl) rfl
    · refine zs_aload_n (pc := 9) (x := a3) d_Resolver_appendDefault_9 rfl ?_
      refine zs_lconst (pc := 10) (v := (0 : Int64)) d_Resolver_appendDefault_10 (by decide) ?_
      refine zs_callv_wV (pc := 11) (av := [zL (0 : Int64)]) (st := []) (d' := 0) (C' := 0) (S' := 0) d_Resolver_appendDefault_11 kV_Resolver_52 z_okb (jm_Row_append (d := 0) (Nat.le_refl _) a3 (0 : Int64) H) (by omega) (Nat.le_of_ble_eq_true rfl) (Nat.le_of_ble_eq_true rfl) rfl rfl (Nat.le_of_ble_eq_true rfl) fun y11 => ?_
      refine zs_aload_n (pc := 14) (x := a0) d_Resolver_appendDefault_14 rfl ?_
      refine zs_getR (pc := 15) d_Resolver_appendDefault_15 kF_Resolver_42 fun v15 => ?_
      refine zs_lload_n (pc := 18) (x := a1) d_Resolver_appendDefault_18 rfl ?_
      refine zs_aload_n (pc := 19) (x := a3) d_Resolver_appendDefault_19 rfl ?_
      refine zs_calls_wV (pc := 20) (av := [zR v15, zL a1, zR a3]) (st := []) (d' := (1 * rr)) (C' := 0) (S' := 0) d_Resolver_appendDefault_20 kS_Resolver_96 (hrc v15 a1 a3 y11) (by omega) (Nat.le_of_ble_eq_true rfl) (Nat.le_of_ble_eq_true rfl) rfl rfl (Nat.le_of_ble_eq_true rfl) fun y20 => ?_
      refine zs_goto (pc := 23) (tgt := 38) d_Resolver_appendDefault_23 rfl ?_
      exact zs_vret (pc := 38) d_Resolver_appendDefault_38 rfl (Nat.le_of_ble_eq_true rfl) (Nat.le_of_ble_eq_true rfl) rfl
def jL_Resolver_behindFields_5 (fu : Nat) (H : zH) (rc : Option Nat → Option Nat → Int32 → zH → Option Int32) : Nat → Option Nat → Option Nat → Int32 → Int32 → Option Int32
  | 0, _, _, _, _ => none
  | g + 1, a0, a1, a3, a4 =>
    (zgR H a0 8 6).bind fun v8 =>
    (zle H v8 4).bind fun v11 =>
    if v11 ≤ a4 then (
      some a3)
    else (
      (zgR H a0 8 6).bind fun v16 =>
      (zaR H v16 4 a4).bind fun v21 =>
      (zgR H v21 4 1).bind fun v22 =>
      (rc v22 a1 a3 H).bind fun y27 =>
      jL_Resolver_behindFields_5 fu H rc g a0 a1 y27 (a4 + (1 : Int32)))
def jF_Resolver_behindFields (fu : Nat) (rc : Option Nat → Option Nat → Int32 → zH → Option Int32) (a0 : Option Nat) (a1 : Option Nat) (a2 : Int32) (H : zH) : Option Int32 :=
  jL_Resolver_behindFields_5 fu H rc fu a0 a1 a2 (0 : Int32)
theorem jl_Resolver_behindFields_5 {E : zE} {d dr : Nat} (hd : dr + 1 ≤ d) (fu : Nat) (H : zH) (rc : Option Nat → Option Nat → Int32 → zH → Option Int32) (hrc : ∀ (x0 : Option Nat) (x1 : Option Nat) (x2 : Int32) (H : zH), z_MS E jM_Resolver_behind dr 0 0 (zrI H) [zR x0, zR x1, zI x2] H (rc x0 x1 x2 H)) : ∀ (g : Nat), ∀ (a0 : Option Nat) (a1 : Option Nat) (a3 : Int32) (a4 : Int32), z_S E jM_Resolver_behindFields d 0 0 (zrI H) 5 [(0, zR a0), (1, zR a1), (3, zI a3), (4, zI a4)] [] H 0 0 (jL_Resolver_behindFields_5 fu H rc g a0 a1 a3 a4) := by
  intro g
  induction g with
  | zero => intros; exact zs_none
  | succ g ih =>
    intro a0 a1 a3 a4
    rw [jL_Resolver_behindFields_5]
    refine zs_iload (pc := 5) (x := a4) d_Resolver_behindFields_5 rfl ?_
    refine zs_aload_n (pc := 7) (x := a0) d_Resolver_behindFields_7 rfl ?_
    refine zs_getR (pc := 8) d_Resolver_behindFields_8 kF_Resolver_74 fun v8 => ?_
    refine zs_alen (t := 4) (pc := 11) d_Resolver_behindFields_11 rfl fun v11 => ?_
    refine zs_icmp_ge (pc := 12) (tgt := 37) d_Resolver_behindFields_12 rfl (fun q12 => ?_) (fun q12 => ?_)
    · refine zs_iload_n (pc := 37) (x := a3) d_Resolver_behindFields_37 rfl ?_
      exact zs_iret (pc := 38) d_Resolver_behindFields_38 rfl (Nat.le_of_ble_eq_true rfl) (Nat.le_of_ble_eq_true rfl) rfl
    · refine zs_aload_n (pc := 15) (x := a0) d_Resolver_behindFields_15 rfl ?_
      refine zs_getR (pc := 16) d_Resolver_behindFields_16 kF_Resolver_74 fun v16 => ?_
      refine zs_iload (pc := 19) (x := a4) d_Resolver_behindFields_19 rfl ?_
      refine zs_aald (t := 4) (pc := 21) d_Resolver_behindFields_21 rfl fun v21 => ?_
      refine zs_getR (pc := 22) d_Resolver_behindFields_22 kF_Resolver_85 fun v22 => ?_
      refine zs_aload_n (pc := 25) (x := a1) d_Resolver_behindFields_25 rfl ?_
      refine zs_iload_n (pc := 26) (x := a3) d_Resolver_behindFields_26 rfl ?_
      refine zs_calls_rI (pc := 27) (av := [zR v22, zR a1, zI a3]) (st := []) (d' := dr) (C' := 0) (S' := 0) d_Resolver_behindFields_27 kS_Resolver_70 (hrc v22 a1 a3 H) (by omega) (Nat.le_of_ble_eq_true rfl) (Nat.le_of_ble_eq_true rfl) rfl rfl (Nat.le_of_ble_eq_true rfl) fun y27 => ?_
      refine zs_istore_n (pc := 30) (lv' := [(3, zI y27), (0, zR a0), (1, zR a1), (4, zI a4)]) d_Resolver_behindFields_30 (Nat.le_of_ble_eq_true rfl) rfl ?_
      refine zs_iinc (pc := 31) (x := a4) (v := (a4 + (1 : Int32))) (lv' := [(4, zI (a4 + (1 : Int32))), (3, zI y27), (0, zR a0), (1, zR a1)]) d_Resolver_behindFields_31 rfl rfl (Nat.le_of_ble_eq_true rfl) rfl ?_
      refine zs_goto (pc := 34) (tgt := 5) d_Resolver_behindFields_34 rfl ?_
      refine zs_sub (lv' := [(0, zR a0), (1, zR a1), (3, zI y27), (4, zI (a4 + (1 : Int32)))]) [2, 3, 1, 0] rfl ?_
      exact ih a0 a1 y27 (a4 + (1 : Int32))
theorem jm_Resolver_behindFields {E : zE} {d dr : Nat} (hd : dr + 1 ≤ d) (fu : Nat) (rc : Option Nat → Option Nat → Int32 → zH → Option Int32) (hrc : ∀ (x0 : Option Nat) (x1 : Option Nat) (x2 : Int32) (H : zH), z_MS E jM_Resolver_behind dr 0 0 (zrI H) [zR x0, zR x1, zI x2] H (rc x0 x1 x2 H)) (a0 : Option Nat) (a1 : Option Nat) (a2 : Int32) (H : zH) : z_MS E jM_Resolver_behindFields d 0 0 (zrI H) [zR a0, zR a1, zI a2] H (jF_Resolver_behindFields fu rc a0 a1 a2 H) := by
  refine zs_of (lv0 := [(0, zR a0), (1, zR a1), (2, zI a2)]) pn_Resolver (Nat.le_of_ble_eq_true rfl) rfl ?_
  unfold jF_Resolver_behindFields
  refine zs_iload_n (pc := 0) (x := a2) d_Resolver_behindFields_0 rfl ?_
  refine zs_istore_n (pc := 1) (lv' := [(3, zI a2), (0, zR a0), (1, zR a1), (2, zI a2)]) d_Resolver_behindFields_1 (Nat.le_of_ble_eq_true rfl) rfl ?_
  refine zs_iconst (pc := 2) (v := (0 : Int32)) d_Resolver_behindFields_2 (by decide) ?_
  refine zs_istore (pc := 3) (lv' := [(4, zI (0 : Int32)), (3, zI a2), (0, zR a0), (1, zR a1), (2, zI a2)]) d_Resolver_behindFields_3 (Nat.le_of_ble_eq_true rfl) rfl ?_
  refine zs_sub (lv' := [(0, zR a0), (1, zR a1), (3, zI a2), (4, zI (0 : Int32))]) [2, 3, 1, 0] rfl ?_
  exact jl_Resolver_behindFields_5 hd fu H rc hrc fu a0 a1 a2 (0 : Int32)
def jL_Resolver_behindItems_14 (fu : Nat) (H : zH) (rc : Option Nat → Option Nat → Int32 → zH → Option Int32) : Nat → Option Nat → Option Nat → Int64 → Int32 → Int32 → Option Int32
  | 0, _, _, _, _, _ => none
  | g + 1, a0, a1, a3, a5, a6 =>
    if a3 ≤ a6.toInt64 then (
      some a5)
    else (
      if (3 : Int32) ≤ a6 then (
        some a5)
      else (
        (rc a0 a1 a5 H).bind fun y32 =>
        jL_Resolver_behindItems_14 fu H rc g a0 a1 a3 y32 (a6 + (1 : Int32))))
def jF_Resolver_behindItems (fu : Nat) (rc : Option Nat → Option Nat → Int32 → zH → Option Int32) (a0 : Option Nat) (a1 : Option Nat) (a2 : Int32) (H : zH) : Option Int32 :=
  (jF_Row_at a1 a2 H).bind fun y2 =>
  jL_Resolver_behindItems_14 fu H rc fu a0 a1 y2 (a2 + (1 : Int32)) (0 : Int32)
theorem jl_Resolver_behindItems_14 {E : zE} {d dr : Nat} (hd : dr + 1 ≤ d) (fu : Nat) (H : zH) (rc : Option Nat → Option Nat → Int32 → zH → Option Int32) (hrc : ∀ (x0 : Option Nat) (x1 : Option Nat) (x2 : Int32) (H : zH), z_MS E jM_Resolver_behind dr 0 0 (zrI H) [zR x0, zR x1, zI x2] H (rc x0 x1 x2 H)) : ∀ (g : Nat), ∀ (a0 : Option Nat) (a1 : Option Nat) (a3 : Int64) (a5 : Int32) (a6 : Int32), z_S E jM_Resolver_behindItems d 0 0 (zrI H) 14 [(0, zR a0), (1, zR a1), (3, zL a3), (5, zI a5), (6, zI a6)] [] H 0 0 (jL_Resolver_behindItems_14 fu H rc g a0 a1 a3 a5 a6) := by
  intro g
  induction g with
  | zero => intros; exact zs_none
  | succ g ih =>
    intro a0 a1 a3 a5 a6
    rw [jL_Resolver_behindItems_14]
    refine zs_iload (pc := 14) (x := a6) d_Resolver_behindItems_14 rfl ?_
    refine zs_i2l (pc := 16) d_Resolver_behindItems_16 ?_
    refine zs_lload_n (pc := 17) (x := a3) d_Resolver_behindItems_17 rfl ?_
    refine zs_lcmp_ge (pc := 18) (tgt := 43) d_Resolver_behindItems_18 d_Resolver_behindItems_19 rfl (fun q18 => ?_) (fun q18 => ?_)
    · refine zs_iload (pc := 43) (x := a5) d_Resolver_behindItems_43 rfl ?_
      exact zs_iret (pc := 45) d_Resolver_behindItems_45 rfl (Nat.le_of_ble_eq_true rfl) (Nat.le_of_ble_eq_true rfl) rfl
    · refine zs_iload (pc := 22) (x := a6) d_Resolver_behindItems_22 rfl ?_
      refine zs_iconst (pc := 24) (v := (3 : Int32)) d_Resolver_behindItems_24 (by decide) ?_
      refine zs_icmp_ge (pc := 25) (tgt := 43) d_Resolver_behindItems_25 rfl (fun q25 => ?_) (fun q25 => ?_)
      · refine zs_iload (pc := 43) (x := a5) d_Resolver_behindItems_43 rfl ?_
        exact zs_iret (pc := 45) d_Resolver_behindItems_45 rfl (Nat.le_of_ble_eq_true rfl) (Nat.le_of_ble_eq_true rfl) rfl
      · refine zs_aload_n (pc := 28) (x := a0) d_Resolver_behindItems_28 rfl ?_
        refine zs_aload_n (pc := 29) (x := a1) d_Resolver_behindItems_29 rfl ?_
        refine zs_iload (pc := 30) (x := a5) d_Resolver_behindItems_30 rfl ?_
        refine zs_calls_rI (pc := 32) (av := [zR a0, zR a1, zI a5]) (st := []) (d' := dr) (C' := 0) (S' := 0) d_Resolver_behindItems_32 kS_Resolver_70 (hrc a0 a1 a5 H) (by omega) (Nat.le_of_ble_eq_true rfl) (Nat.le_of_ble_eq_true rfl) rfl rfl (Nat.le_of_ble_eq_true rfl) fun y32 => ?_
        refine zs_istore (pc := 35) (lv' := [(5, zI y32), (0, zR a0), (1, zR a1), (3, zL a3), (6, zI a6)]) d_Resolver_behindItems_35 (Nat.le_of_ble_eq_true rfl) rfl ?_
        refine zs_iinc (pc := 37) (x := a6) (v := (a6 + (1 : Int32))) (lv' := [(6, zI (a6 + (1 : Int32))), (5, zI y32), (0, zR a0), (1, zR a1), (3, zL a3)]) d_Resolver_behindItems_37 rfl rfl (Nat.le_of_ble_eq_true rfl) rfl ?_
        refine zs_goto (pc := 40) (tgt := 14) d_Resolver_behindItems_40 rfl ?_
        refine zs_sub (lv' := [(0, zR a0), (1, zR a1), (3, zL a3), (5, zI y32), (6, zI (a6 + (1 : Int32)))]) [2, 3, 4, 1, 0] rfl ?_
        exact ih a0 a1 a3 y32 (a6 + (1 : Int32))
theorem jm_Resolver_behindItems {E : zE} {d dr : Nat} (hd : dr + 1 ≤ d) (fu : Nat) (rc : Option Nat → Option Nat → Int32 → zH → Option Int32) (hrc : ∀ (x0 : Option Nat) (x1 : Option Nat) (x2 : Int32) (H : zH), z_MS E jM_Resolver_behind dr 0 0 (zrI H) [zR x0, zR x1, zI x2] H (rc x0 x1 x2 H)) (a0 : Option Nat) (a1 : Option Nat) (a2 : Int32) (H : zH) : z_MS E jM_Resolver_behindItems d 0 0 (zrI H) [zR a0, zR a1, zI a2] H (jF_Resolver_behindItems fu rc a0 a1 a2 H) := by
  refine zs_of (lv0 := [(0, zR a0), (1, zR a1), (2, zI a2)]) pn_Resolver (Nat.le_of_ble_eq_true rfl) rfl ?_
  unfold jF_Resolver_behindItems
  refine zs_aload_n (pc := 0) (x := a1) d_Resolver_behindItems_0 rfl ?_
  refine zs_iload_n (pc := 1) (x := a2) d_Resolver_behindItems_1 rfl ?_
  refine zs_callv_rL (pc := 2) (av := [zI a2]) (st := []) (d' := 0) (C' := 0) (S' := 0) d_Resolver_behindItems_2 kV_Resolver_15 z_okb (jm_Row_at (d := 0) (Nat.le_refl _) a1 a2 H) (by omega) (Nat.le_of_ble_eq_true rfl) (Nat.le_of_ble_eq_true rfl) rfl rfl (Nat.le_of_ble_eq_true rfl) fun y2 => ?_
  refine zs_lstore_n (pc := 5) (lv' := [(3, zL y2), (0, zR a0), (1, zR a1), (2, zI a2)]) d_Resolver_behindItems_5 (Nat.le_of_ble_eq_true rfl) rfl ?_
  refine zs_iload_n (pc := 6) (x := a2) d_Resolver_behindItems_6 rfl ?_
  refine zs_iconst (pc := 7) (v := (1 : Int32)) d_Resolver_behindItems_7 (by decide) ?_
  refine zs_iadd (pc := 8) d_Resolver_behindItems_8 ?_
  refine zs_istore (pc := 9) (lv' := [(5, zI (a2 + (1 : Int32))), (3, zL y2), (0, zR a0), (1, zR a1), (2, zI a2)]) d_Resolver_behindItems_9 (Nat.le_of_ble_eq_true rfl) rfl ?_
  refine zs_iconst (pc := 11) (v := (0 : Int32)) d_Resolver_behindItems_11 (by decide) ?_
  refine zs_istore (pc := 12) (lv' := [(6, zI (0 : Int32)), (5, zI (a2 + (1 : Int32))), (3, zL y2), (0, zR a0), (1, zR a1), (2, zI a2)]) d_Resolver_behindItems_12 (Nat.le_of_ble_eq_true rfl) rfl ?_
  refine zs_sub (lv' := [(0, zR a0), (1, zR a1), (3, zL y2), (5, zI (a2 + (1 : Int32))), (6, zI (0 : Int32))]) [3, 4, 2, 1, 0] rfl ?_
  exact jl_Resolver_behindItems_14 hd fu H rc hrc fu a0 a1 y2 (a2 + (1 : Int32)) (0 : Int32)
def jF_Resolver_behind (fu : Nat) : Nat → Option Nat → Option Nat → Int32 → zH → Option Int32
  | 0, _, _, _, _ => none
  | rr + 1, a0, a1, a2, H =>
    (zgI H a0 8 0).bind fun v1 =>
    if v1 = (0 : Int32) then (
      some a2)
    else (
      if v1 = (5 : Int32) then (
        (zgR H a0 8 4).bind fun v55 =>
        (jF_Resolver_behindItems fu (fun x0 x1 x2 x3 => jF_Resolver_behind fu rr x0 x1 x2 x3) v55 a1 a2 H).bind fun y60 =>
        some y60)
      else (
        if v1 = (6 : Int32) then (
          (jF_Row_at a1 a2 H).bind fun y67 =>
          (jF_Schema_branch a0 y67 H).bind fun y70 =>
          ((fun x0 x1 x2 x3 => jF_Resolver_behind fu rr x0 x1 x2 x3) y70 a1 (a2 + (1 : Int32)) H).bind fun y77 =>
          some y77)
        else (
          if v1 = (7 : Int32) then (
            (jF_Resolver_behindFields fu (fun x0 x1 x2 x3 => jF_Resolver_behind fu rr x0 x1 x2 x3) a0 a1 a2 H).bind fun y84 =>
            some y84)
          else (
            some (a2 + (1 : Int32))))))
theorem jm_Resolver_behind {E : zE} (fu : Nat) : ∀ (rr : Nat) {d : Nat} (hd : 2 * rr ≤ d) (a0 : Option Nat) (a1 : Option Nat) (a2 : Int32) (H : zH), z_MS E jM_Resolver_behind d 0 0 (zrI H) [zR a0, zR a1, zI a2] H (jF_Resolver_behind fu rr a0 a1 a2 H) := by
  intro rr
  induction rr with
  | zero => intro d hd a0 a1 a2 H y hy; rw [jF_Resolver_behind] at hy; cases hy
  | succ rr ih =>
    intro d hd a0 a1 a2 H
    have hrc : ∀ (x0 : Option Nat) (x1 : Option Nat) (x2 : Int32) (H : zH), z_MS E jM_Resolver_behind (2 * rr) 0 0 (zrI H) [zR x0, zR x1, zI x2] H ((fun x0 x1 x2 x3 => jF_Resolver_behind fu rr x0 x1 x2 x3) x0 x1 x2 H) := fun x0 x1 x2 x3 => ih (Nat.le_refl _) x0 x1 x2 x3
    have hd : 2 * rr + 2 ≤ d := by omega
    refine zs_of (lv0 := [(0, zR a0), (1, zR a1), (2, zI a2)]) pn_Resolver (Nat.le_of_ble_eq_true rfl) rfl ?_
    rw [jF_Resolver_behind]
    refine zs_aload_n (pc := 0) (x := a0) d_Resolver_behind_0 rfl ?_
    refine zs_getI (pc := 1) d_Resolver_behind_1 kF_Resolver_9 fun v1 => ?_
    refine zs_ite (fun q => ?_) (fun q4_0 => ?_)
    · refine zs_table (pc := 4) (tgt := 52) d_Resolver_behind_4 rfl (by rcases q with q <;> (rw [q]; decide)) ?_
      refine zs_iload_n (pc := 52) (x := a2) d_Resolver_behind_52 rfl ?_
      exact zs_iret (pc := 53) d_Resolver_behind_53 rfl (Nat.le_of_ble_eq_true rfl) (Nat.le_of_ble_eq_true rfl) rfl
    refine zs_ite (fun q => ?_) (fun q4_1 => ?_)
    · refine zs_table (pc := 4) (tgt := 54) d_Resolver_behind_4 rfl (by rcases q with q <;> (rw [q]; decide)) ?_
      refine zs_aload_n (pc := 54) (x := a0) d_Resolver_behind_54 rfl ?_
      refine zs_getR (pc := 55) d_Resolver_behind_55 kF_Resolver_42 fun v55 => ?_
      refine zs_aload_n (pc := 58) (x := a1) d_Resolver_behind_58 rfl ?_
      refine zs_iload_n (pc := 59) (x := a2) d_Resolver_behind_59 rfl ?_
      refine zs_calls_rI (pc := 60) (av := [zR v55, zR a1, zI a2]) (st := []) (d' := ((2 * rr) + 1)) (C' := 0) (S' := 0) d_Resolver_behind_60 kS_Resolver_100 (jm_Resolver_behindItems (d := (2 * rr) + 1) (dr := (2 * rr)) (Nat.le_refl _) fu (fun x0 x1 x2 x3 => jF_Resolver_behind fu rr x0 x1 x2 x3) hrc v55 a1 a2 H) (by omega) (Nat.le_of_ble_eq_true rfl) (Nat.le_of_ble_eq_true rfl) rfl rfl (Nat.le_of_ble_eq_true rfl) fun y60 => ?_
      exact zs_iret (pc := 63) d_Resolver_behind_63 rfl (Nat.le_of_ble_eq_true rfl) (Nat.le_of_ble_eq_true rfl) rfl
    refine zs_ite (fun q => ?_) (fun q4_2 => ?_)
    · refine zs_table (pc := 4) (tgt := 64) d_Resolver_behind_4 rfl (by rcases q with q <;> (rw [q]; decide)) ?_
      refine zs_aload_n (pc := 64) (x := a0) d_Resolver_behind_64 rfl ?_
      refine zs_aload_n (pc := 65) (x := a1) d_Resolver_behind_65 rfl ?_
      refine zs_iload_n (pc := 66) (x := a2) d_Resolver_behind_66 rfl ?_
      refine zs_callv_rL (pc := 67) (av := [zI a2]) (st := [zR a0]) (d' := 0) (C' := 0) (S' := 0) d_Resolver_behind_67 kV_Resolver_15 z_okb (jm_Row_at (d := 0) (Nat.le_refl _) a1 a2 H) (by omega) (Nat.le_of_ble_eq_true rfl) (Nat.le_of_ble_eq_true rfl) rfl rfl (Nat.le_of_ble_eq_true rfl) fun y67 => ?_
      refine zs_callv_rR (pc := 70) (av := [zL y67]) (st := []) (d' := 0) (C' := 0) (S' := 0) d_Resolver_behind_70 kV_Resolver_21 z_okb (jm_Schema_branch (d := 0) (Nat.le_refl _) a0 y67 H) (by omega) (Nat.le_of_ble_eq_true rfl) (Nat.le_of_ble_eq_true rfl) rfl rfl (Nat.le_of_ble_eq_true rfl) fun y70 => ?_
      refine zs_aload_n (pc := 73) (x := a1) d_Resolver_behind_73 rfl ?_
      refine zs_iload_n (pc := 74) (x := a2) d_Resolver_behind_74 rfl ?_
      refine zs_iconst (pc := 75) (v := (1 : Int32)) d_Resolver_behind_75 (by decide) ?_
      refine zs_iadd (pc := 76) d_Resolver_behind_76 ?_
      refine zs_calls_rI (pc := 77) (av := [zR y70, zR a1, zI (a2 + (1 : Int32))]) (st := []) (d' := (2 * rr)) (C' := 0) (S' := 0) d_Resolver_behind_77 kS_Resolver_70 (hrc y70 a1 (a2 + (1 : Int32)) H) (by omega) (Nat.le_of_ble_eq_true rfl) (Nat.le_of_ble_eq_true rfl) rfl rfl (Nat.le_of_ble_eq_true rfl) fun y77 => ?_
      exact zs_iret (pc := 80) d_Resolver_behind_80 rfl (Nat.le_of_ble_eq_true rfl) (Nat.le_of_ble_eq_true rfl) rfl
    refine zs_ite (fun q => ?_) (fun q4_3 => ?_)
    · refine zs_table (pc := 4) (tgt := 81) d_Resolver_behind_4 rfl (by rcases q with q <;> (rw [q]; decide)) ?_
      refine zs_aload_n (pc := 81) (x := a0) d_Resolver_behind_81 rfl ?_
      refine zs_aload_n (pc := 82) (x := a1) d_Resolver_behind_82 rfl ?_
      refine zs_iload_n (pc := 83) (x := a2) d_Resolver_behind_83 rfl ?_
      refine zs_calls_rI (pc := 84) (av := [zR a0, zR a1, zI a2]) (st := []) (d' := ((2 * rr) + 1)) (C' := 0) (S' := 0) d_Resolver_behind_84 kS_Resolver_103 (jm_Resolver_behindFields (d := (2 * rr) + 1) (dr := (2 * rr)) (Nat.le_refl _) fu (fun x0 x1 x2 x3 => jF_Resolver_behind fu rr x0 x1 x2 x3) hrc a0 a1 a2 H) (by omega) (Nat.le_of_ble_eq_true rfl) (Nat.le_of_ble_eq_true rfl) rfl rfl (Nat.le_of_ble_eq_true rfl) fun y84 => ?_
      exact zs_iret (pc := 87) d_Resolver_behind_87 rfl (Nat.le_of_ble_eq_true rfl) (Nat.le_of_ble_eq_true rfl) rfl
    have h4_0 := zs_tne (k := 0) q4_0 (by decide)
    have h4_5 := zs_tne (k := 5) q4_1 (by decide)
    have h4_6 := zs_tne (k := 6) q4_2 (by decide)
    have h4_7 := zs_tne (k := 7) q4_3 (by decide)
    refine zs_table (pc := 4) (tgt := 88) d_Resolver_behind_4 rfl ?_ ?_
    · unfold z_tsw
      by_cases hb : (v1).toInt < 0 ∨ 7 < (v1).toInt
      · rw [if_pos hb]; decide
      · rw [if_neg hb]
        have hg : (v1).toInt = 1 ∨ (v1).toInt = 2 ∨ (v1).toInt = 3 ∨ (v1).toInt = 4 := by omega
        rcases hg with h|h|h|h <;> (rw [h]; decide)
    · refine zs_iload_n (pc := 88) (x := a2) d_Resolver_behind_88 rfl ?_
      refine zs_iconst (pc := 89) (v := (1 : Int32)) d_Resolver_behind_89 (by decide) ?_
      refine zs_iadd (pc := 90) d_Resolver_behind_90 ?_
      exact zs_iret (pc := 91) d_Resolver_behind_91 rfl (Nat.le_of_ble_eq_true rfl) (Nat.le_of_ble_eq_true rfl) rfl
def jJ_Resolver_resolveField_94 (fu : Nat) (rc : Option Nat → Option Nat → Option Nat → Int32 → Option Nat → zH → Option (Int32 × zH)) (a1 : Option Nat) (H : zH) : Option (Int32 × zH) :=
  (zgI H a1 4 2).bind fun v95 =>
  (zbo v95).bind fun x => some (x, H)
def jL_Resolver_resolveField_6 (fu : Nat) (rc : Option Nat → Option Nat → Option Nat → Int32 → Option Nat → zH → Option (Int32 × zH)) : Nat → Option Nat → Option Nat → Option Nat → Option Nat → Int32 → Int32 → zH → Option (Int32 × zH)
  | 0, _, _, _, _, _, _, _ => none
  | g + 1, a0, a1, a2, a4, a5, a6, H =>
    (zgR H a0 8 6).bind fun v9 =>
    (zle H v9 4).bind fun v12 =>
    if v12 ≤ a6 then (
      (zgI H a1 4 2).bind fun v75 =>
      if v75 = 0 then (
        jJ_Resolver_resolveField_94 fu rc a1 H)
      else (
        (zgR H a1 4 1).bind fun v82 =>
        (zgL H a1 4 3).bind fun v86 =>
        (jF_Resolver_appendDefault 7 v82 v86 a4 H).bind fun y91 =>
        jJ_Resolver_resolveField_94 fu rc a1 y91))
    else (
      (zgR H a0 8 6).bind fun v17 =>
      (zaR H v17 4 a6).bind fun v22 =>
      (zgI H v22 4 0).bind fun v27 =>
      (zgI H a1 4 0).bind fun v31 =>
      if v27 = v31 then (
        (zgR H v22 4 1).bind fun v39 =>
        (zgR H a1 4 1).bind fun v43 =>
        (rc v39 v43 a2 a5 a4 H).bind fun y51 =>
        (zbo y51.1).bind fun x => some (x, y51.2))
      else (
        (zgR H v22 4 1).bind fun v57 =>
        (jF_Resolver_behind fu 7 v57 a2 a5 H).bind fun y63 =>
        jL_Resolver_resolveField_6 fu rc g a0 a1 a2 a4 y63 (a6 + (1 : Int32)) H))
def jF_Resolver_resolveField (fu : Nat) (rc : Option Nat → Option Nat → Option Nat → Int32 → Option Nat → zH → Option (Int32 × zH)) (a0 : Option Nat) (a1 : Option Nat) (a2 : Option Nat) (a3 : Int32) (a4 : Option Nat) (H : zH) : Option (Int32 × zH) :=
  jL_Resolver_resolveField_6 fu rc fu a0 a1 a2 a4 a3 (0 : Int32) H
theorem jj_Resolver_resolveField_94 {E : zE} {d dr : Nat} (hd : dr + 15 ≤ d) (fu : Nat) (rc : Option Nat → Option Nat → Option Nat → Int32 → Option Nat → zH → Option (Int32 × zH)) (hrc : ∀ (x0 : Option Nat) (x1 : Option Nat) (x2 : Option Nat) (x3 : Int32) (x4 : Option Nat) (H : zH), z_MS E jM_Resolver_resolve dr 0 0 zwI [zR x0, zR x1, zR x2, zI x3, zR x4] H (rc x0 x1 x2 x3 x4 H)) : ∀ (a1 : Option Nat) (H : zH), z_S E jM_Resolver_resolveField d 0 0 zwI 94 [(1, zR a1)] [] H 0 0 (jJ_Resolver_resolveField_94 fu rc a1 H) := by
  intro a1 H
  unfold jJ_Resolver_resolveField_94
  refine zs_aload_n (pc := 94) (x := a1) d_Resolver_resolveField_94 rfl ?_
  refine zs_getI (pc := 95) d_Resolver_resolveField_95 kF_Resolver_88 fun v95 => ?_
  exact zs_zret (g := fun x => (x, H)) (pc := 98) d_Resolver_resolveField_98 rfl (Nat.le_of_ble_eq_true rfl) (Nat.le_of_ble_eq_true rfl) rfl
theorem jl_Resolver_resolveField_6 {E : zE} {d dr : Nat} (hd : dr + 15 ≤ d) (fu : Nat) (rc : Option Nat → Option Nat → Option Nat → Int32 → Option Nat → zH → Option (Int32 × zH)) (hrc : ∀ (x0 : Option Nat) (x1 : Option Nat) (x2 : Option Nat) (x3 : Int32) (x4 : Option Nat) (H : zH), z_MS E jM_Resolver_resolve dr 0 0 zwI [zR x0, zR x1, zR x2, zI x3, zR x4] H (rc x0 x1 x2 x3 x4 H)) : ∀ (g : Nat), ∀ (a0 : Option Nat) (a1 : Option Nat) (a2 : Option Nat) (a4 : Option Nat) (a5 : Int32) (a6 : Int32) (H : zH), z_S E jM_Resolver_resolveField d 0 0 zwI 6 [(0, zR a0), (1, zR a1), (2, zR a2), (4, zR a4), (5, zI a5), (6, zI a6)] [] H 0 0 (jL_Resolver_resolveField_6 fu rc g a0 a1 a2 a4 a5 a6 H) := by
  intro g
  induction g with
  | zero => intros; exact zs_none
  | succ g ih =>
    intro a0 a1 a2 a4 a5 a6 H
    rw [jL_Resolver_resolveField_6]
    refine zs_iload (pc := 6) (x := a6) d_Resolver_resolveField_6 rfl ?_
    refine zs_aload_n (pc := 8) (x := a0) d_Resolver_resolveField_8 rfl ?_
    refine zs_getR (pc := 9) d_Resolver_resolveField_9 kF_Resolver_74 fun v9 => ?_
    refine zs_alen (t := 4) (pc := 12) d_Resolver_resolveField_12 rfl fun v12 => ?_
    refine zs_icmp_ge (pc := 13) (tgt := 74) d_Resolver_resolveField_13 rfl (fun q13 => ?_) (fun q13 => ?_)
    · refine zs_aload_n (pc := 74) (x := a1) d_Resolver_resolveField_74 rfl ?_
      refine zs_getI (pc := 75) d_Resolver_resolveField_75 kF_Resolver_88 fun v75 => ?_
      refine zs_if_eq (pc := 78) (tgt := 94) d_Resolver_resolveField_78 rfl (fun q78 => ?_) (fun q78 => ?_)
      · refine zs_sub (lv' := [(1, zR a1)]) [1] rfl ?_
        exact jj_Resolver_resolveField_94 hd fu rc hrc a1 H
      · refine zs_aload_n (pc := 81) (x := a1) d_Resolver_resolveField_81 rfl ?_
        refine zs_getR (pc := 82) d_Resolver_resolveField_82 kF_Resolver_85 fun v82 => ?_
        refine zs_aload_n (pc := 85) (x := a1) d_Resolver_resolveField_85 rfl ?_
        refine zs_getL (pc := 86) d_Resolver_resolveField_86 kF_Resolver_92 fun v86 => ?_
        refine zs_aload (pc := 89) (x := a4) d_Resolver_resolveField_89 rfl ?_
        refine zs_calls_wV (pc := 91) (av := [zR v82, zL v86, zR a4]) (st := []) (d' := 7) (C' := 0) (S' := 0) d_Resolver_resolveField_91 kS_Resolver_96 (jm_Resolver_appendDefault 7 (d := 7) (by decide) v82 v86 a4 H) (by omega) (Nat.le_of_ble_eq_true rfl) (Nat.le_of_ble_eq_true rfl) rfl rfl (Nat.le_of_ble_eq_true rfl) fun y91 => ?_
        refine zs_sub (lv' := [(1, zR a1)]) [1] rfl ?_
        exact jj_Resolver_resolveField_94 hd fu rc hrc a1 y91
    · refine zs_aload_n (pc := 16) (x := a0) d_Resolver_resolveField_16 rfl ?_
      refine zs_getR (pc := 17) d_Resolver_resolveField_17 kF_Resolver_74 fun v17 => ?_
      refine zs_iload (pc := 20) (x := a6) d_Resolver_resolveField_20 rfl ?_
      refine zs_aald (t := 4) (pc := 22) d_Resolver_resolveField_22 rfl fun v22 => ?_
      refine zs_astore (pc := 23) (lv' := [(7, zR v22), (0, zR a0), (1, zR a1), (2, zR a2), (4, zR a4), (5, zI a5), (6, zI a6)]) d_Resolver_resolveField_23 (Nat.le_of_ble_eq_true rfl) rfl ?_
      refine zs_aload (pc := 25) (x := v22) d_Resolver_resolveField_25 rfl ?_
      refine zs_getI (pc := 27) d_Resolver_resolveField_27 kF_Resolver_82 fun v27 => ?_
      refine zs_aload_n (pc := 30) (x := a1) d_Resolver_resolveField_30 rfl ?_
      refine zs_getI (pc := 31) d_Resolver_resolveField_31 kF_Resolver_82 fun v31 => ?_
      refine zs_icmp_ne (pc := 34) (tgt := 55) d_Resolver_resolveField_34 rfl (fun q34 => ?_) (fun q34 => ?_)
      · refine zs_aload (pc := 55) (x := v22) d_Resolver_resolveField_55 rfl ?_
        refine zs_getR (pc := 57) d_Resolver_resolveField_57 kF_Resolver_85 fun v57 => ?_
        refine zs_aload_n (pc := 60) (x := a2) d_Resolver_resolveField_60 rfl ?_
        refine zs_iload (pc := 61) (x := a5) d_Resolver_resolveField_61 rfl ?_
        refine zs_calls_rI (pc := 63) (av := [zR v57, zR a2, zI a5]) (st := []) (d' := 14) (C' := 0) (S' := 0) d_Resolver_resolveField_63 kS_Resolver_70 (jm_Resolver_behind fu 7 (d := 14) (by decide) v57 a2 a5 H) (by omega) (Nat.le_of_ble_eq_true rfl) (Nat.le_of_ble_eq_true rfl) rfl rfl (Nat.le_of_ble_eq_true rfl) fun y63 => ?_
        refine zs_istore (pc := 66) (lv' := [(5, zI y63), (7, zR v22), (0, zR a0), (1, zR a1), (2, zR a2), (4, zR a4), (6, zI a6)]) d_Resolver_resolveField_66 (Nat.le_of_ble_eq_true rfl) rfl ?_
        refine zs_iinc (pc := 68) (x := a6) (v := (a6 + (1 : Int32))) (lv' := [(6, zI (a6 + (1 : Int32))), (5, zI y63), (7, zR v22), (0, zR a0), (1, zR a1), (2, zR a2), (4, zR a4)]) d_Resolver_resolveField_68 rfl rfl (Nat.le_of_ble_eq_true rfl) rfl ?_
        refine zs_goto (pc := 71) (tgt := 6) d_Resolver_resolveField_71 rfl ?_
        refine zs_sub (lv' := [(0, zR a0), (1, zR a1), (2, zR a2), (4, zR a4), (5, zI y63), (6, zI (a6 + (1 : Int32)))]) [3, 4, 5, 6, 1, 0] rfl ?_
        exact ih a0 a1 a2 a4 y63 (a6 + (1 : Int32)) H
      · refine zs_aload (pc := 37) (x := v22) d_Resolver_resolveField_37 rfl ?_
        refine zs_getR (pc := 39) d_Resolver_resolveField_39 kF_Resolver_85 fun v39 => ?_
        refine zs_aload_n (pc := 42) (x := a1) d_Resolver_resolveField_42 rfl ?_
        refine zs_getR (pc := 43) d_Resolver_resolveField_43 kF_Resolver_85 fun v43 => ?_
        refine zs_aload_n (pc := 46) (x := a2) d_Resolver_resolveField_46 rfl ?_
        refine zs_iload (pc := 47) (x := a5) d_Resolver_resolveField_47 rfl ?_
        refine zs_aload (pc := 49) (x := a4) d_Resolver_resolveField_49 rfl ?_
        refine zs_calls_wI (pc := 51) (av := [zR v39, zR v43, zR a2, zI a5, zR a4]) (st := []) (d' := dr) (C' := 0) (S' := 0) d_Resolver_resolveField_51 kS_Resolver_25 (hrc v39 v43 a2 a5 a4 H) (by omega) (Nat.le_of_ble_eq_true rfl) (Nat.le_of_ble_eq_true rfl) rfl rfl (Nat.le_of_ble_eq_true rfl) fun y51 => ?_
        exact zs_zret (g := fun x => (x, y51.2)) (pc := 54) d_Resolver_resolveField_54 rfl (Nat.le_of_ble_eq_true rfl) (Nat.le_of_ble_eq_true rfl) rfl
theorem jm_Resolver_resolveField {E : zE} {d dr : Nat} (hd : dr + 15 ≤ d) (fu : Nat) (rc : Option Nat → Option Nat → Option Nat → Int32 → Option Nat → zH → Option (Int32 × zH)) (hrc : ∀ (x0 : Option Nat) (x1 : Option Nat) (x2 : Option Nat) (x3 : Int32) (x4 : Option Nat) (H : zH), z_MS E jM_Resolver_resolve dr 0 0 zwI [zR x0, zR x1, zR x2, zI x3, zR x4] H (rc x0 x1 x2 x3 x4 H)) (a0 : Option Nat) (a1 : Option Nat) (a2 : Option Nat) (a3 : Int32) (a4 : Option Nat) (H : zH) : z_MS E jM_Resolver_resolveField d 0 0 zwI [zR a0, zR a1, zR a2, zI a3, zR a4] H (jF_Resolver_resolveField fu rc a0 a1 a2 a3 a4 H) := by
  refine zs_of (lv0 := [(0, zR a0), (1, zR a1), (2, zR a2), (3, zI a3), (4, zR a4)]) pn_Resolver (Nat.le_of_ble_eq_true rfl) rfl ?_
  unfold jF_Resolver_resolveField
  refine zs_iload_n (pc := 0) (x := a3) d_Resolver_resolveField_0 rfl ?_
  refine zs_istore (pc := 1) (lv' := [(5, zI a3), (0, zR a0), (1, zR a1), (2, zR a2), (3, zI a3), (4, zR a4)]) d_Resolver_resolveField_1 (Nat.le_of_ble_eq_true rfl) rfl ?_
  refine zs_iconst (pc := 3) (v := (0 : Int32)) d_Resolver_resolveField_3 (by decide) ?_
  refine zs_istore (pc := 4) (lv' := [(6, zI (0 : Int32)), (5, zI a3), (0, zR a0), (1, zR a1), (2, zR a2), (3, zI a3), (4, zR a4)]) d_Resolver_resolveField_4 (Nat.le_of_ble_eq_true rfl) rfl ?_
  refine zs_sub (lv' := [(0, zR a0), (1, zR a1), (2, zR a2), (4, zR a4), (5, zI a3), (6, zI (0 : Int32))]) [2, 3, 4, 6, 1, 0] rfl ?_
  exact jl_Resolver_resolveField_6 hd fu rc hrc fu a0 a1 a2 a4 a3 (0 : Int32) H
def jL_Resolver_resolveFields_16 (fu : Nat) (rc : Option Nat → Option Nat → Option Nat → Int32 → Option Nat → zH → Option (Int32 × zH)) : Nat → Option Nat → Option Nat → Option Nat → Int32 → Option Nat → Int32 → zH → Option (Int32 × zH)
  | 0, _, _, _, _, _, _, _ => none
  | g + 1, a0, a1, a2, a3, a4, a5, H =>
    (zgR H a1 8 6).bind fun v19 =>
    (zle H v19 4).bind fun v22 =>
    if v22 ≤ a5 then (
      some ((1 : Int32), H))
    else (
      (zgR H a1 8 6).bind fun v28 =>
      (zaR H v28 4 a5).bind fun v33 =>
      (jF_Resolver_resolveField fu rc a0 v33 a2 a3 a4 H).bind fun y38 =>
      if y38.1 = 0 then (
        some ((0 : Int32), y38.2))
      else (
        jL_Resolver_resolveFields_16 fu rc g a0 a1 a2 a3 a4 (a5 + (1 : Int32)) y38.2))
def jF_Resolver_resolveFields (fu : Nat) (rc : Option Nat → Option Nat → Option Nat → Int32 → Option Nat → zH → Option (Int32 × zH)) (a0 : Option Nat) (a1 : Option Nat) (a2 : Option Nat) (a3 : Int32) (a4 : Option Nat) (H : zH) : Option (Int32 × zH) :=
  (zgI H a0 8 1).bind fun v1 =>
  (zgI H a1 8 1).bind fun v5 =>
  if v1 = v5 then (
    jL_Resolver_resolveFields_16 fu rc fu a0 a1 a2 a3 a4 (0 : Int32) H)
  else (
    some ((0 : Int32), H))
theorem jl_Resolver_resolveFields_16 {E : zE} {d dr : Nat} (hd : dr + 16 ≤ d) (fu : Nat) (rc : Option Nat → Option Nat → Option Nat → Int32 → Option Nat → zH → Option (Int32 × zH)) (hrc : ∀ (x0 : Option Nat) (x1 : Option Nat) (x2 : Option Nat) (x3 : Int32) (x4 : Option Nat) (H : zH), z_MS E jM_Resolver_resolve dr 0 0 zwI [zR x0, zR x1, zR x2, zI x3, zR x4] H (rc x0 x1 x2 x3 x4 H)) : ∀ (g : Nat), ∀ (a0 : Option Nat) (a1 : Option Nat) (a2 : Option Nat) (a3 : Int32) (a4 : Option Nat) (a5 : Int32) (H : zH), z_S E jM_Resolver_resolveFields d 0 0 zwI 16 [(0, zR a0), (1, zR a1), (2, zR a2), (3, zI a3), (4, zR a4), (5, zI a5)] [] H 0 0 (jL_Resolver_resolveFields_16 fu rc g a0 a1 a2 a3 a4 a5 H) := by
  intro g
  induction g with
  | zero => intros; exact zs_none
  | succ g ih =>
    intro a0 a1 a2 a3 a4 a5 H
    rw [jL_Resolver_resolveFields_16]
    refine zs_iload (pc := 16) (x := a5) d_Resolver_resolveFields_16 rfl ?_
    refine zs_aload_n (pc := 18) (x := a1) d_Resolver_resolveFields_18 rfl ?_
    refine zs_getR (pc := 19) d_Resolver_resolveFields_19 kF_Resolver_74 fun v19 => ?_
    refine zs_alen (t := 4) (pc := 22) d_Resolver_resolveFields_22 rfl fun v22 => ?_
    refine zs_icmp_ge (pc := 23) (tgt := 52) d_Resolver_resolveFields_23 rfl (fun q23 => ?_) (fun q23 => ?_)
    · refine zs_iconst (pc := 52) (v := (1 : Int32)) d_Resolver_resolveFields_52 (by decide) ?_
      exact zs_zretc (pc := 53) d_Resolver_resolveFields_53 rfl (by decide) (Nat.le_of_ble_eq_true rfl) (Nat.le_of_ble_eq_true rfl) rfl
    · refine zs_aload_n (pc := 26) (x := a0) d_Resolver_resolveFields_26 rfl ?_
      refine zs_aload_n (pc := 27) (x := a1) d_Resolver_resolveFields_27 rfl ?_
      refine zs_getR (pc := 28) d_Resolver_resolveFields_28 kF_Resolver_74 fun v28 => ?_
      refine zs_iload (pc := 31) (x := a5) d_Resolver_resolveFields_31 rfl ?_
      refine zs_aald (t := 4) (pc := 33) d_Resolver_resolveFields_33 rfl fun v33 => ?_
      refine zs_aload_n (pc := 34) (x := a2) d_Resolver_resolveFields_34 rfl ?_
      refine zs_iload_n (pc := 35) (x := a3) d_Resolver_resolveFields_35 rfl ?_
      refine zs_aload (pc := 36) (x := a4) d_Resolver_resolveFields_36 rfl ?_
      refine zs_calls_wI (pc := 38) (av := [zR a0, zR v33, zR a2, zI a3, zR a4]) (st := []) (d' := (dr + 15)) (C' := 0) (S' := 0) d_Resolver_resolveFields_38 kS_Resolver_78 (jm_Resolver_resolveField (d := dr + 15) (dr := dr) (Nat.le_refl _) fu rc hrc a0 v33 a2 a3 a4 H) (by omega) (Nat.le_of_ble_eq_true rfl) (Nat.le_of_ble_eq_true rfl) rfl rfl (Nat.le_of_ble_eq_true rfl) fun y38 => ?_
      refine zs_if_ne (pc := 41) (tgt := 46) d_Resolver_resolveFields_41 rfl (fun q41 => ?_) (fun q41 => ?_)
      · refine zs_iinc (pc := 46) (x := a5) (v := (a5 + (1 : Int32))) (lv' := [(5, zI (a5 + (1 : Int32))), (0, zR a0), (1, zR a1), (2, zR a2), (3, zI a3), (4, zR a4)]) d_Resolver_resolveFields_46 rfl rfl (Nat.le_of_ble_eq_true rfl) rfl ?_
        refine zs_goto (pc := 49) (tgt := 16) d_Resolver_resolveFields_49 rfl ?_
        refine zs_sub (lv' := [(0, zR a0), (1, zR a1), (2, zR a2), (3, zI a3), (4, zR a4), (5, zI (a5 + (1 : Int32)))]) [1, 2, 3, 4, 5, 0] rfl ?_
        exact ih a0 a1 a2 a3 a4 (a5 + (1 : Int32)) y38.2
      · refine zs_iconst (pc := 44) (v := (0 : Int32)) d_Resolver_resolveFields_44 (by decide) ?_
        exact zs_zretc (pc := 45) d_Resolver_resolveFields_45 rfl (by decide) (Nat.le_of_ble_eq_true rfl) (Nat.le_of_ble_eq_true rfl) rfl
theorem jm_Resolver_resolveFields {E : zE} {d dr : Nat} (hd : dr + 16 ≤ d) (fu : Nat) (rc : Option Nat → Option Nat → Option Nat → Int32 → Option Nat → zH → Option (Int32 × zH)) (hrc : ∀ (x0 : Option Nat) (x1 : Option Nat) (x2 : Option Nat) (x3 : Int32) (x4 : Option Nat) (H : zH), z_MS E jM_Resolver_resolve dr 0 0 zwI [zR x0, zR x1, zR x2, zI x3, zR x4] H (rc x0 x1 x2 x3 x4 H)) (a0 : Option Nat) (a1 : Option Nat) (a2 : Option Nat) (a3 : Int32) (a4 : Option Nat) (H : zH) : z_MS E jM_Resolver_resolveFields d 0 0 zwI [zR a0, zR a1, zR a2, zI a3, zR a4] H (jF_Resolver_resolveFields fu rc a0 a1 a2 a3 a4 H) := by
  refine zs_of (lv0 := [(0, zR a0), (1, zR a1), (2, zR a2), (3, zI a3), (4, zR a4)]) pn_Resolver (Nat.le_of_ble_eq_true rfl) rfl ?_
  unfold jF_Resolver_resolveFields
  refine zs_aload_n (pc := 0) (x := a0) d_Resolver_resolveFields_0 rfl ?_
  refine zs_getI (pc := 1) d_Resolver_resolveFields_1 kF_Resolver_64 fun v1 => ?_
  refine zs_aload_n (pc := 4) (x := a1) d_Resolver_resolveFields_4 rfl ?_
  refine zs_getI (pc := 5) d_Resolver_resolveFields_5 kF_Resolver_64 fun v5 => ?_
  refine zs_icmp_eq (pc := 8) (tgt := 13) d_Resolver_resolveFields_8 rfl (fun q8 => ?_) (fun q8 => ?_)
  · refine zs_iconst (pc := 13) (v := (0 : Int32)) d_Resolver_resolveFields_13 (by decide) ?_
    refine zs_istore (pc := 14) (lv' := [(5, zI (0 : Int32)), (0, zR a0), (1, zR a1), (2, zR a2), (3, zI a3), (4, zR a4)]) d_Resolver_resolveFields_14 (Nat.le_of_ble_eq_true rfl) rfl ?_
    refine zs_sub (lv' := [(0, zR a0), (1, zR a1), (2, zR a2), (3, zI a3), (4, zR a4), (5, zI (0 : Int32))]) [1, 2, 3, 4, 5, 0] rfl ?_
    exact jl_Resolver_resolveFields_16 hd fu rc hrc fu a0 a1 a2 a3 a4 (0 : Int32) H
  · refine zs_iconst (pc := 11) (v := (0 : Int32)) d_Resolver_resolveFields_11 (by decide) ?_
    exact zs_zretc (pc := 12) d_Resolver_resolveFields_12 rfl (by decide) (Nat.le_of_ble_eq_true rfl) (Nat.le_of_ble_eq_true rfl) rfl
def jF_Resolver_resolveIntoUnion (fu : Nat) (rc : Option Nat → Option Nat → Option Nat → Int32 → Option Nat → zH → Option (Int32 × zH)) (a0 : Option Nat) (a1 : Option Nat) (a2 : Option Nat) (a3 : Int32) (a4 : Option Nat) (H : zH) : Option (Int32 × zH) :=
  (jF_Schema_matchingBranch a1 a0 H).bind fun y2 =>
  if y2 = (-1 : Int32) then (
    some ((0 : Int32), H))
  else (
    (jF_Row_append a4 y2.toInt64 H).bind fun y20 =>
    (jF_Schema_branch a1 y2.toInt64 y20).bind fun y28 =>
    (rc a0 y28 a2 a3 a4 y20).bind fun y35 =>
    (zbo y35.1).bind fun x => some (x, y35.2))
theorem jm_Resolver_resolveIntoUnion {E : zE} {d dr : Nat} (hd : dr + 9 ≤ d) (fu : Nat) (rc : Option Nat → Option Nat → Option Nat → Int32 → Option Nat → zH → Option (Int32 × zH)) (hrc : ∀ (x0 : Option Nat) (x1 : Option Nat) (x2 : Option Nat) (x3 : Int32) (x4 : Option Nat) (H : zH), z_MS E jM_Resolver_resolve dr 0 0 zwI [zR x0, zR x1, zR x2, zI x3, zR x4] H (rc x0 x1 x2 x3 x4 H)) (a0 : Option Nat) (a1 : Option Nat) (a2 : Option Nat) (a3 : Int32) (a4 : Option Nat) (H : zH) : z_MS E jM_Resolver_resolveIntoUnion d 0 0 zwI [zR a0, zR a1, zR a2, zI a3, zR a4] H (jF_Resolver_resolveIntoUnion fu rc a0 a1 a2 a3 a4 H) := by
  refine zs_of (lv0 := [(0, zR a0), (1, zR a1), (2, zR a2), (3, zI a3), (4, zR a4)]) pn_Resolver (Nat.le_of_ble_eq_true rfl) rfl ?_
  unfold jF_Resolver_resolveIntoUnion
  refine zs_aload_n (pc := 0) (x := a1) d_Resolver_resolveIntoUnion_0 rfl ?_
  refine zs_aload_n (pc := 1) (x := a0) d_Resolver_resolveIntoUnion_1 rfl ?_
  refine zs_calls_rI (pc := 2) (av := [zR a1, zR a0]) (st := []) (d' := 8) (C' := 0) (S' := 0) d_Resolver_resolveIntoUnion_2 kS_Resolver_56 (jm_Schema_matchingBranch (d := 8) (Nat.le_refl _) a1 a0 H) (by omega) (Nat.le_of_ble_eq_true rfl) (Nat.le_of_ble_eq_true rfl) rfl rfl (Nat.le_of_ble_eq_true rfl) fun y2 => ?_
  refine zs_istore (pc := 5) (lv' := [(5, zI y2), (0, zR a0), (1, zR a1), (2, zR a2), (3, zI a3), (4, zR a4)]) d_Resolver_resolveIntoUnion_5 (Nat.le_of_ble_eq_true rfl) rfl ?_
  refine zs_iload (pc := 7) (x := y2) d_Resolver_resolveIntoUnion_7 rfl ?_
  refine zs_iconst (pc := 9) (v := (-1 : Int32)) d_Resolver_resolveIntoUnion_9 (by decide) ?_
  refine zs_icmp_ne (pc := 10) (tgt := 15) d_Resolver_resolveIntoUnion_10 rfl (fun q10 => ?_) (fun q10 => ?_)
  · refine zs_aload (pc := 15) (x := a4) d_Resolver_resolveIntoUnion_15 rfl ?_
    refine zs_iload (pc := 17) (x := y2) d_Resolver_resolveIntoUnion_17 rfl ?_
    refine zs_i2l (pc := 19) d_Resolver_resolveIntoUnion_19 ?_
    refine zs_callv_wV (pc := 20) (av := [zL y2.toInt64]) (st := []) (d' := 0) (C' := 0) (S' := 0) d_Resolver_resolveIntoUnion_20 kV_Resolver_52 z_okb (jm_Row_append (d := 0) (Nat.le_refl _) a4 y2.toInt64 H) (by omega) (Nat.le_of_ble_eq_true rfl) (Nat.le_of_ble_eq_true rfl) rfl rfl (Nat.le_of_ble_eq_true rfl) fun y20 => ?_
    refine zs_aload_n (pc := 23) (x := a0) d_Resolver_resolveIntoUnion_23 rfl ?_
    refine zs_aload_n (pc := 24) (x := a1) d_Resolver_resolveIntoUnion_24 rfl ?_
    refine zs_iload (pc := 25) (x := y2) d_Resolver_resolveIntoUnion_25 rfl ?_
    refine zs_i2l (pc := 27) d_Resolver_resolveIntoUnion_27 ?_
    refine zs_callv_rR (pc := 28) (av := [zL y2.toInt64]) (st := [zR a0]) (d' := 0) (C' := 0) (S' := 0) d_Resolver_resolveIntoUnion_28 kV_Resolver_21 z_okb (jm_Schema_branch (d := 0) (Nat.le_refl _) a1 y2.toInt64 y20) (by omega) (Nat.le_of_ble_eq_true rfl) (Nat.le_of_ble_eq_true rfl) rfl rfl (Nat.le_of_ble_eq_true rfl) fun y28 => ?_
    refine zs_aload_n (pc := 31) (x := a2) d_Resolver_resolveIntoUnion_31 rfl ?_
    refine zs_iload_n (pc := 32) (x := a3) d_Resolver_resolveIntoUnion_32 rfl ?_
    refine zs_aload (pc := 33) (x := a4) d_Resolver_resolveIntoUnion_33 rfl ?_
    refine zs_calls_wI (pc := 35) (av := [zR a0, zR y28, zR a2, zI a3, zR a4]) (st := []) (d' := dr) (C' := 0) (S' := 0) d_Resolver_resolveIntoUnion_35 kS_Resolver_25 (hrc a0 y28 a2 a3 a4 y20) (by omega) (Nat.le_of_ble_eq_true rfl) (Nat.le_of_ble_eq_true rfl) rfl rfl (Nat.le_of_ble_eq_true rfl) fun y35 => ?_
    exact zs_zret (g := fun x => (x, y35.2)) (pc := 38) d_Resolver_resolveIntoUnion_38 rfl (Nat.le_of_ble_eq_true rfl) (Nat.le_of_ble_eq_true rfl) rfl
  · refine zs_iconst (pc := 13) (v := (0 : Int32)) d_Resolver_resolveIntoUnion_13 (by decide) ?_
    exact zs_zretc (pc := 14) d_Resolver_resolveIntoUnion_14 rfl (by decide) (Nat.le_of_ble_eq_true rfl) (Nat.le_of_ble_eq_true rfl) rfl
def jL_Resolver_resolveItems_22 (fu : Nat) (rc : Option Nat → Option Nat → Option Nat → Int32 → Option Nat → zH → Option (Int32 × zH)) : Nat → Option Nat → Option Nat → Option Nat → Option Nat → Int64 → Int32 → Int32 → zH → Option (Int32 × zH)
  | 0, _, _, _, _, _, _, _, _ => none
  | g + 1, a0, a1, a2, a4, a5, a7, a8, H =>
    if a5 ≤ a8.toInt64 then (
      some ((1 : Int32), H))
    else (
      if (3 : Int32) ≤ a8 then (
        some ((1 : Int32), H))
      else (
        (rc a0 a1 a2 a7 a4 H).bind fun y44 =>
        if y44.1 = 0 then (
          some ((0 : Int32), y44.2))
        else (
          (jF_Resolver_behind fu 7 a0 a2 a7 y44.2).bind fun y56 =>
          jL_Resolver_resolveItems_22 fu rc g a0 a1 a2 a4 a5 y56 (a8 + (1 : Int32)) y44.2)))
def jF_Resolver_resolveItems (fu : Nat) (rc : Option Nat → Option Nat → Option Nat → Int32 → Option Nat → zH → Option (Int32 × zH)) (a0 : Option Nat) (a1 : Option Nat) (a2 : Option Nat) (a3 : Int32) (a4 : Option Nat) (H : zH) : Option (Int32 × zH) :=
  (jF_Row_at a2 a3 H).bind fun y2 =>
  (jF_Row_append a4 y2 H).bind fun y11 =>
  jL_Resolver_resolveItems_22 fu rc fu a0 a1 a2 a4 y2 (a3 + (1 : Int32)) (0 : Int32) y11
theorem jl_Resolver_resolveItems_22 {E : zE} {d dr : Nat} (hd : dr + 15 ≤ d) (fu : Nat) (rc : Option Nat → Option Nat → Option Nat → Int32 → Option Nat → zH → Option (Int32 × zH)) (hrc : ∀ (x0 : Option Nat) (x1 : Option Nat) (x2 : Option Nat) (x3 : Int32) (x4 : Option Nat) (H : zH), z_MS E jM_Resolver_resolve dr 0 0 zwI [zR x0, zR x1, zR x2, zI x3, zR x4] H (rc x0 x1 x2 x3 x4 H)) : ∀ (g : Nat), ∀ (a0 : Option Nat) (a1 : Option Nat) (a2 : Option Nat) (a4 : Option Nat) (a5 : Int64) (a7 : Int32) (a8 : Int32) (H : zH), z_S E jM_Resolver_resolveItems d 0 0 zwI 22 [(0, zR a0), (1, zR a1), (2, zR a2), (4, zR a4), (5, zL a5), (7, zI a7), (8, zI a8)] [] H 0 0 (jL_Resolver_resolveItems_22 fu rc g a0 a1 a2 a4 a5 a7 a8 H) := by
  intro g
  induction g with
  | zero => intros; exact zs_none
  | succ g ih =>
    intro a0 a1 a2 a4 a5 a7 a8 H
    rw [jL_Resolver_resolveItems_22]
    refine zs_iload (pc := 22) (x := a8) d_Resolver_resolveItems_22 rfl ?_
    refine zs_i2l (pc := 24) d_Resolver_resolveItems_24 ?_
    refine zs_lload (pc := 25) (x := a5) d_Resolver_resolveItems_25 rfl ?_
    refine zs_lcmp_ge (pc := 27) (tgt := 67) d_Resolver_resolveItems_27 d_Resolver_resolveItems_28 rfl (fun q27 => ?_) (fun q27 => ?_)
    · refine zs_iconst (pc := 67) (v := (1 : Int32)) d_Resolver_resolveItems_67 (by decide) ?_
      exact zs_zretc (pc := 68) d_Resolver_resolveItems_68 rfl (by decide) (Nat.le_of_ble_eq_true rfl) (Nat.le_of_ble_eq_true rfl) rfl
    · refine zs_iload (pc := 31) (x := a8) d_Resolver_resolveItems_31 rfl ?_
      refine zs_iconst (pc := 33) (v := (3 : Int32)) d_Resolver_resolveItems_33 (by decide) ?_
      refine zs_icmp_ge (pc := 34) (tgt := 67) d_Resolver_resolveItems_34 rfl (fun q34 => ?_) (fun q34 => ?_)
      · refine zs_iconst (pc := 67) (v := (1 : Int32)) d_Resolver_resolveItems_67 (by decide) ?_
        exact zs_zretc (pc := 68) d_Resolver_resolveItems_68 rfl (by decide) (Nat.le_of_ble_eq_true rfl) (Nat.le_of_ble_eq_true rfl) rfl
      · refine zs_aload_n (pc := 37) (x := a0) d_Resolver_resolveItems_37 rfl ?_
        refine zs_aload_n (pc := 38) (x := a1) d_Resolver_resolveItems_38 rfl ?_
        refine zs_aload_n (pc := 39) (x := a2) d_Resolver_resolveItems_39 rfl ?_
        refine zs_iload (pc := 40) (x := a7) d_Resolver_resolveItems_40 rfl ?_
        refine zs_aload (pc := 42) (x := a4) d_Resolver_resolveItems_42 rfl ?_
        refine zs_calls_wI (pc := 44) (av := [zR a0, zR a1, zR a2, zI a7, zR a4]) (st := []) (d' := dr) (C' := 0) (S' := 0) d_Resolver_resolveItems_44 kS_Resolver_25 (hrc a0 a1 a2 a7 a4 H) (by omega) (Nat.le_of_ble_eq_true rfl) (Nat.le_of_ble_eq_true rfl) rfl rfl (Nat.le_of_ble_eq_true rfl) fun y44 => ?_
        refine zs_if_ne (pc := 47) (tgt := 52) d_Resolver_resolveItems_47 rfl (fun q47 => ?_) (fun q47 => ?_)
        · refine zs_aload_n (pc := 52) (x := a0) d_Resolver_resolveItems_52 rfl ?_
          refine zs_aload_n (pc := 53) (x := a2) d_Resolver_resolveItems_53 rfl ?_
          refine zs_iload (pc := 54) (x := a7) d_Resolver_resolveItems_54 rfl ?_
          refine zs_calls_rI (pc := 56) (av := [zR a0, zR a2, zI a7]) (st := []) (d' := 14) (C' := 0) (S' := 0) d_Resolver_resolveItems_56 kS_Resolver_70 (jm_Resolver_behind fu 7 (d := 14) (by decide) a0 a2 a7 y44.2) (by omega) (Nat.le_of_ble_eq_true rfl) (Nat.le_of_ble_eq_true rfl) rfl rfl (Nat.le_of_ble_eq_true rfl) fun y56 => ?_
          refine zs_istore (pc := 59) (lv' := [(7, zI y56), (0, zR a0), (1, zR a1), (2, zR a2), (4, zR a4), (5, zL a5), (8, zI a8)]) d_Resolver_resolveItems_59 (Nat.le_of_ble_eq_true rfl) rfl ?_
          refine zs_iinc (pc := 61) (x := a8) (v := (a8 + (1 : Int32))) (lv' := [(8, zI (a8 + (1 : Int32))), (7, zI y56), (0, zR a0), (1, zR a1), (2, zR a2), (4, zR a4), (5, zL a5)]) d_Resolver_resolveItems_61 rfl rfl (Nat.le_of_ble_eq_true rfl) rfl ?_
          refine zs_goto (pc := 64) (tgt := 22) d_Resolver_resolveItems_64 rfl ?_
          refine zs_sub (lv' := [(0, zR a0), (1, zR a1), (2, zR a2), (4, zR a4), (5, zL a5), (7, zI y56), (8, zI (a8 + (1 : Int32)))]) [2, 3, 4, 5, 6, 1, 0] rfl ?_
          exact ih a0 a1 a2 a4 a5 y56 (a8 + (1 : Int32)) y44.2
        · refine zs_iconst (pc := 50) (v := (0 : Int32)) d_Resolver_resolveItems_50 (by decide) ?_
          exact zs_zretc (pc := 51) d_Resolver_resolveItems_51 rfl (by decide) (Nat.le_of_ble_eq_true rfl) (Nat.le_of_ble_eq_true rfl) rfl
theorem jm_Resolver_resolveItems {E : zE} {d dr : Nat} (hd : dr + 15 ≤ d) (fu : Nat) (rc : Option Nat → Option Nat → Option Nat → Int32 → Option Nat → zH → Option (Int32 × zH)) (hrc : ∀ (x0 : Option Nat) (x1 : Option Nat) (x2 : Option Nat) (x3 : Int32) (x4 : Option Nat) (H : zH), z_MS E jM_Resolver_resolve dr 0 0 zwI [zR x0, zR x1, zR x2, zI x3, zR x4] H (rc x0 x1 x2 x3 x4 H)) (a0 : Option Nat) (a1 : Option Nat) (a2 : Option Nat) (a3 : Int32) (a4 : Option Nat) (H : zH) : z_MS E jM_Resolver_resolveItems d 0 0 zwI [zR a0, zR a1, zR a2, zI a3, zR a4] H (jF_Resolver_resolveItems fu rc a0 a1 a2 a3 a4 H) := by
  refine zs_of (lv0 := [(0, zR a0), (1, zR a1), (2, zR a2), (3, zI a3), (4, zR a4)]) pn_Resolver (Nat.le_of_ble_eq_true rfl) rfl ?_
  unfold jF_Resolver_resolveItems
  refine zs_aload_n (pc := 0) (x := a2) d_Resolver_resolveItems_0 rfl ?_
  refine zs_iload_n (pc := 1) (x := a3) d_Resolver_resolveItems_1 rfl ?_
  refine zs_callv_rL (pc := 2) (av := [zI a3]) (st := []) (d' := 0) (C' := 0) (S' := 0) d_Resolver_resolveItems_2 kV_Resolver_15 z_okb (jm_Row_at (d := 0) (Nat.le_refl _) a2 a3 H) (by omega) (Nat.le_of_ble_eq_true rfl) (Nat.le_of_ble_eq_true rfl) rfl rfl (Nat.le_of_ble_eq_true rfl) fun y2 => ?_
  refine zs_lstore (pc := 5) (lv' := [(5, zL y2), (0, zR a0), (1, zR a1), (2, zR a2), (3, zI a3), (4, zR a4)]) d_Resolver_resolveItems_5 (Nat.le_of_ble_eq_true rfl) rfl ?_
  refine zs_aload (pc := 7) (x := a4) d_Resolver_resolveItems_7 rfl ?_
  refine zs_lload (pc := 9) (x := y2) d_Resolver_resolveItems_9 rfl ?_
  refine zs_callv_wV (pc := 11) (av := [zL y2]) (st := []) (d' := 0) (C' := 0) (S' := 0) d_Resolver_resolveItems_11 kV_Resolver_52 z_okb (jm_Row_append (d := 0) (Nat.le_refl _) a4 y2 H) (by omega) (Nat.le_of_ble_eq_true rfl) (Nat.le_of_ble_eq_true rfl) rfl rfl (Nat.le_of_ble_eq_true rfl) fun y11 => ?_
  refine zs_iload_n (pc := 14) (x := a3) d_Resolver_resolveItems_14 rfl ?_
  refine zs_iconst (pc := 15) (v := (1 : Int32)) d_Resolver_resolveItems_15 (by decide) ?_
  refine zs_iadd (pc := 16) d_Resolver_resolveItems_16 ?_
  refine zs_istore (pc := 17) (lv' := [(7, zI (a3 + (1 : Int32))), (5, zL y2), (0, zR a0), (1, zR a1), (2, zR a2), (3, zI a3), (4, zR a4)]) d_Resolver_resolveItems_17 (Nat.le_of_ble_eq_true rfl) rfl ?_
  refine zs_iconst (pc := 19) (v := (0 : Int32)) d_Resolver_resolveItems_19 (by decide) ?_
  refine zs_istore (pc := 20) (lv' := [(8, zI (0 : Int32)), (7, zI (a3 + (1 : Int32))), (5, zL y2), (0, zR a0), (1, zR a1), (2, zR a2), (3, zI a3), (4, zR a4)]) d_Resolver_resolveItems_20 (Nat.le_of_ble_eq_true rfl) rfl ?_
  refine zs_sub (lv' := [(0, zR a0), (1, zR a1), (2, zR a2), (4, zR a4), (5, zL y2), (7, zI (a3 + (1 : Int32))), (8, zI (0 : Int32))]) [3, 4, 5, 7, 2, 1, 0] rfl ?_
  exact jl_Resolver_resolveItems_22 hd fu rc hrc fu a0 a1 a2 a4 y2 (a3 + (1 : Int32)) (0 : Int32) y11
def jF_Resolver_resolve (fu : Nat) : Nat → Option Nat → Option Nat → Option Nat → Int32 → Option Nat → zH → Option (Int32 × zH)
  | 0, _, _, _, _, _, _ => none
  | rr + 1, a0, a1, a2, a3, a4, H =>
    (zgI H a0 8 0).bind fun v1 =>
    if v1 = (6 : Int32) then (
      (jF_Row_at a2 a3 H).bind fun y12 =>
      (jF_Schema_branch a0 y12 H).bind fun y15 =>
      ((fun x0 x1 x2 x3 x4 x5 => jF_Resolver_resolve fu rr x0 x1 x2 x3 x4 x5) y15 a1 a2 (a3 + (1 : Int32)) a4 H).bind fun y25 =>
      (zbo y25.1).bind fun x => some (x, y25.2))
    else (
      (zgI H a1 8 0).bind fun v30 =>
      if v30 = (6 : Int32) then (
        (jF_Resolver_resolveIntoUnion fu (fun x0 x1 x2 x3 x4 x5 => jF_Resolver_resolve fu rr x0 x1 x2 x3 x4 x5) a0 a1 a2 a3 a4 H).bind fun y44 =>
        (zbo y44.1).bind fun x => some (x, y44.2))
      else (
        (jF_Schema_haveFittingKinds a1 a0 H).bind fun y50 =>
        if y50 = 0 then (
          some ((0 : Int32), H))
        else (
          (zgI H a1 8 0).bind fun v59 =>
          if v59 = (0 : Int32) then (
            some ((1 : Int32), H))
          else (
            if v59 = (4 : Int32) then (
              (jF_Row_at a2 a3 H).bind fun y114 =>
              (jF_Resolver_resolveSymbol a0 a1 y114 a4 H).bind fun y119 =>
              (zbo y119.1).bind fun x => some (x, y119.2))
            else (
              if v59 = (5 : Int32) then (
                (zgR H a0 8 4).bind fun v124 =>
                (zgR H a1 8 4).bind fun v128 =>
                (jF_Resolver_resolveItems fu (fun x0 x1 x2 x3 x4 x5 => jF_Resolver_resolve fu rr x0 x1 x2 x3 x4 x5) v124 v128 a2 a3 a4 H).bind fun y135 =>
                (zbo y135.1).bind fun x => some (x, y135.2))
              else (
                if v59 = (7 : Int32) then (
                  (jF_Resolver_resolveFields fu (fun x0 x1 x2 x3 x4 x5 => jF_Resolver_resolve fu rr x0 x1 x2 x3 x4 x5) a0 a1 a2 a3 a4 H).bind fun y145 =>
                  (zbo y145.1).bind fun x => some (x, y145.2))
                else (
                  (jF_Row_at a2 a3 H).bind fun y153 =>
                  (jF_Row_append a4 y153 H).bind fun y156 =>
                  some ((1 : Int32), y156))))))))
theorem jm_Resolver_resolve {E : zE} (fu : Nat) : ∀ (rr : Nat) {d : Nat} (hd : 17 * rr ≤ d) (a0 : Option Nat) (a1 : Option Nat) (a2 : Option Nat) (a3 : Int32) (a4 : Option Nat) (H : zH), z_MS E jM_Resolver_resolve d 0 0 zwI [zR a0, zR a1, zR a2, zI a3, zR a4] H (jF_Resolver_resolve fu rr a0 a1 a2 a3 a4 H) := by
  intro rr
  induction rr with
  | zero => intro d hd a0 a1 a2 a3 a4 H y hy; rw [jF_Resolver_resolve] at hy; cases hy
  | succ rr ih =>
    intro d hd a0 a1 a2 a3 a4 H
    have hrc : ∀ (x0 : Option Nat) (x1 : Option Nat) (x2 : Option Nat) (x3 : Int32) (x4 : Option Nat) (H : zH), z_MS E jM_Resolver_resolve (17 * rr) 0 0 zwI [zR x0, zR x1, zR x2, zI x3, zR x4] H ((fun x0 x1 x2 x3 x4 x5 => jF_Resolver_resolve fu rr x0 x1 x2 x3 x4 x5) x0 x1 x2 x3 x4 H) := fun x0 x1 x2 x3 x4 x5 => ih (Nat.le_refl _) x0 x1 x2 x3 x4 x5
    have hd : 17 * rr + 17 ≤ d := by omega
    refine zs_of (lv0 := [(0, zR a0), (1, zR a1), (2, zR a2), (3, zI a3), (4, zR a4)]) pn_Resolver (Nat.le_of_ble_eq_true rfl) rfl ?_
    rw [jF_Resolver_resolve]
    refine zs_aload_n (pc := 0) (x := a0) d_Resolver_resolve_0 rfl ?_
    refine zs_getI (pc := 1) d_Resolver_resolve_1 kF_Resolver_9 fun v1 => ?_
    refine zs_bipush (pc := 4) (v := (6 : Int32)) d_Resolver_resolve_4 (by decide) ?_
    refine zs_icmp_ne (pc := 6) (tgt := 29) d_Resolver_resolve_6 rfl (fun q6 => ?_) (fun q6 => ?_)
    · refine zs_aload_n (pc := 29) (x := a1) d_Resolver_resolve_29 rfl ?_
      refine zs_getI (pc := 30) d_Resolver_resolve_30 kF_Resolver_9 fun v30 => ?_
      refine zs_bipush (pc := 33) (v := (6 : Int32)) d_Resolver_resolve_33 (by decide) ?_
      refine zs_icmp_ne (pc := 35) (tgt := 48) d_Resolver_resolve_35 rfl (fun q35 => ?_) (fun q35 => ?_)
      · refine zs_aload_n (pc := 48) (x := a1) d_Resolver_resolve_48 rfl ?_
        refine zs_aload_n (pc := 49) (x := a0) d_Resolver_resolve_49 rfl ?_
        refine zs_calls_rI (pc := 50) (av := [zR a1, zR a0]) (st := []) (d' := 0) (C' := 0) (S' := 0) d_Resolver_resolve_50 kS_Resolver_34 (jm_Schema_haveFittingKinds (d := 0) (Nat.le_refl _) a1 a0 H) (by omega) (Nat.le_of_ble_eq_true rfl) (Nat.le_of_ble_eq_true rfl) rfl rfl (Nat.le_of_ble_eq_true rfl) fun y50 => ?_
        refine zs_if_ne (pc := 53) (tgt := 58) d_Resolver_resolve_53 rfl (fun q53 => ?_) (fun q53 => ?_)
        · refine zs_aload_n (pc := 58) (x := a1) d_Resolver_resolve_58 rfl ?_
          refine zs_getI (pc := 59) d_Resolver_resolve_59 kF_Resolver_9 fun v59 => ?_
          refine zs_ite (fun q => ?_) (fun q62_0 => ?_)
          · refine zs_table (pc := 62) (tgt := 108) d_Resolver_resolve_62 rfl (by rcases q with q <;> (rw [q]; decide)) ?_
            refine zs_iconst (pc := 108) (v := (1 : Int32)) d_Resolver_resolve_108 (by decide) ?_
            exact zs_zretc (pc := 109) d_Resolver_resolve_109 rfl (by decide) (Nat.le_of_ble_eq_true rfl) (Nat.le_of_ble_eq_true rfl) rfl
          refine zs_ite (fun q => ?_) (fun q62_1 => ?_)
          · refine zs_table (pc := 62) (tgt := 110) d_Resolver_resolve_62 rfl (by rcases q with q <;> (rw [q]; decide)) ?_
            refine zs_aload_n (pc := 110) (x := a0) d_Resolver_resolve_110 rfl ?_
            refine zs_aload_n (pc := 111) (x := a1) d_Resolver_resolve_111 rfl ?_
            refine zs_aload_n (pc := 112) (x := a2) d_Resolver_resolve_112 rfl ?_
            refine zs_iload_n (pc := 113) (x := a3) d_Resolver_resolve_113 rfl ?_
            refine zs_callv_rL (pc := 114) (av := [zI a3]) (st := [zR a1, zR a0]) (d' := 0) (C' := 0) (S' := 0) d_Resolver_resolve_114 kV_Resolver_15 z_okb (jm_Row_at (d := 0) (Nat.le_refl _) a2 a3 H) (by omega) (Nat.le_of_ble_eq_true rfl) (Nat.le_of_ble_eq_true rfl) rfl rfl (Nat.le_of_ble_eq_true rfl) fun y114 => ?_
            refine zs_aload (pc := 117) (x := a4) d_Resolver_resolve_117 rfl ?_
            refine zs_calls_wI (pc := 119) (av := [zR a0, zR a1, zL y114, zR a4]) (st := []) (d' := 2) (C' := 0) (S' := 0) d_Resolver_resolve_119 kS_Resolver_38 (jm_Resolver_resolveSymbol (d := 2) (Nat.le_refl _) a0 a1 y114 a4 H) (by omega) (Nat.le_of_ble_eq_true rfl) (Nat.le_of_ble_eq_true rfl) rfl rfl (Nat.le_of_ble_eq_true rfl) fun y119 => ?_
            exact zs_zret (g := fun x => (x, y119.2)) (pc := 122) d_Resolver_resolve_122 rfl (Nat.le_of_ble_eq_true rfl) (Nat.le_of_ble_eq_true rfl) rfl
          refine zs_ite (fun q => ?_) (fun q62_2 => ?_)
          · refine zs_table (pc := 62) (tgt := 123) d_Resolver_resolve_62 rfl (by rcases q with q <;> (rw [q]; decide)) ?_
            refine zs_aload_n (pc := 123) (x := a0) d_Resolver_resolve_123 rfl ?_
            refine zs_getR (pc := 124) d_Resolver_resolve_124 kF_Resolver_42 fun v124 => ?_
            refine zs_aload_n (pc := 127) (x := a1) d_Resolver_resolve_127 rfl ?_
            refine zs_getR (pc := 128) d_Resolver_resolve_128 kF_Resolver_42 fun v128 => ?_
            refine zs_aload_n (pc := 131) (x := a2) d_Resolver_resolve_131 rfl ?_
            refine zs_iload_n (pc := 132) (x := a3) d_Resolver_resolve_132 rfl ?_
            refine zs_aload (pc := 133) (x := a4) d_Resolver_resolve_133 rfl ?_
            refine zs_calls_wI (pc := 135) (av := [zR v124, zR v128, zR a2, zI a3, zR a4]) (st := []) (d' := ((17 * rr) + 15)) (C' := 0) (S' := 0) d_Resolver_resolve_135 kS_Resolver_46 (jm_Resolver_resolveItems (d := (17 * rr) + 15) (dr := (17 * rr)) (Nat.le_refl _) fu (fun x0 x1 x2 x3 x4 x5 => jF_Resolver_resolve fu rr x0 x1 x2 x3 x4 x5) hrc v124 v128 a2 a3 a4 H) (by omega) (Nat.le_of_ble_eq_true rfl) (Nat.le_of_ble_eq_true rfl) rfl rfl (Nat.le_of_ble_eq_true rfl) fun y135 => ?_
            exact zs_zret (g := fun x => (x, y135.2)) (pc := 138) d_Resolver_resolve_138 rfl (Nat.le_of_ble_eq_true rfl) (Nat.le_of_ble_eq_true rfl) rfl
          refine zs_ite (fun q => ?_) (fun q62_3 => ?_)
          · refine zs_table (pc := 62) (tgt := 139) d_Resolver_resolve_62 rfl (by rcases q with q <;> (rw [q]; decide)) ?_
            refine zs_aload_n (pc := 139) (x := a0) d_Resolver_resolve_139 rfl ?_
            refine zs_aload_n (pc := 140) (x := a1) d_Resolver_resolve_140 rfl ?_
            refine zs_aload_n (pc := 141) (x := a2) d_Resolver_resolve_141 rfl ?_
            refine zs_iload_n (pc := 142) (x := a3) d_Resolver_resolve_142 rfl ?_
            refine zs_aload (pc := 143) (x := a4) d_Resolver_resolve_143 rfl ?_
            refine zs_calls_wI (pc := 145) (av := [zR a0, zR a1, zR a2, zI a3, zR a4]) (st := []) (d' := ((17 * rr) + 16)) (C' := 0) (S' := 0) d_Resolver_resolve_145 kS_Resolver_49 (jm_Resolver_resolveFields (d := (17 * rr) + 16) (dr := (17 * rr)) (Nat.le_refl _) fu (fun x0 x1 x2 x3 x4 x5 => jF_Resolver_resolve fu rr x0 x1 x2 x3 x4 x5) hrc a0 a1 a2 a3 a4 H) (by omega) (Nat.le_of_ble_eq_true rfl) (Nat.le_of_ble_eq_true rfl) rfl rfl (Nat.le_of_ble_eq_true rfl) fun y145 => ?_
            exact zs_zret (g := fun x => (x, y145.2)) (pc := 148) d_Resolver_resolve_148 rfl (Nat.le_of_ble_eq_true rfl) (Nat.le_of_ble_eq_true rfl) rfl
          have h62_0 := zs_tne (k := 0) q62_0 (by decide)
          have h62_4 := zs_tne (k := 4) q62_1 (by decide)
          have h62_5 := zs_tne (k := 5) q62_2 (by decide)
          have h62_7 := zs_tne (k := 7) q62_3 (by decide)
          refine zs_table (pc := 62) (tgt := 149) d_Resolver_resolve_62 rfl ?_ ?_
          · unfold z_tsw
            by_cases hb : (v59).toInt < 0 ∨ 7 < (v59).toInt
            · rw [if_pos hb]; decide
            · rw [if_neg hb]
              have hg : (v59).toInt = 1 ∨ (v59).toInt = 2 ∨ (v59).toInt = 3 ∨ (v59).toInt = 6 := by omega
              rcases hg with h|h|h|h <;> (rw [h]; decide)
          · refine zs_aload (pc := 149) (x := a4) d_Resolver_resolve_149 rfl ?_
            refine zs_aload_n (pc := 151) (x := a2) d_Resolver_resolve_151 rfl ?_
            refine zs_iload_n (pc := 152) (x := a3) d_Resolver_resolve_152 rfl ?_
            refine zs_callv_rL (pc := 153) (av := [zI a3]) (st := [zR a4]) (d' := 0) (C' := 0) (S' := 0) d_Resolver_resolve_153 kV_Resolver_15 z_okb (jm_Row_at (d := 0) (Nat.le_refl _) a2 a3 H) (by omega) (Nat.le_of_ble_eq_true rfl) (Nat.le_of_ble_eq_true rfl) rfl rfl (Nat.le_of_ble_eq_true rfl) fun y153 => ?_
            refine zs_callv_wV (pc := 156) (av := [zL y153]) (st := []) (d' := 0) (C' := 0) (S' := 0) d_Resolver_resolve_156 kV_Resolver_52 z_okb (jm_Row_append (d := 0) (Nat.le_refl _) a4 y153 H) (by omega) (Nat.le_of_ble_eq_true rfl) (Nat.le_of_ble_eq_true rfl) rfl rfl (Nat.le_of_ble_eq_true rfl) fun y156 => ?_
            refine zs_iconst (pc := 159) (v := (1 : Int32)) d_Resolver_resolve_159 (by decide) ?_
            exact zs_zretc (pc := 160) d_Resolver_resolve_160 rfl (by decide) (Nat.le_of_ble_eq_true rfl) (Nat.le_of_ble_eq_true rfl) rfl
        · refine zs_iconst (pc := 56) (v := (0 : Int32)) d_Resolver_resolve_56 (by decide) ?_
          exact zs_zretc (pc := 57) d_Resolver_resolve_57 rfl (by decide) (Nat.le_of_ble_eq_true rfl) (Nat.le_of_ble_eq_true rfl) rfl
      · refine zs_aload_n (pc := 38) (x := a0) d_Resolver_resolve_38 rfl ?_
        refine zs_aload_n (pc := 39) (x := a1) d_Resolver_resolve_39 rfl ?_
        refine zs_aload_n (pc := 40) (x := a2) d_Resolver_resolve_40 rfl ?_
        refine zs_iload_n (pc := 41) (x := a3) d_Resolver_resolve_41 rfl ?_
        refine zs_aload (pc := 42) (x := a4) d_Resolver_resolve_42 rfl ?_
        refine zs_calls_wI (pc := 44) (av := [zR a0, zR a1, zR a2, zI a3, zR a4]) (st := []) (d' := ((17 * rr) + 9)) (C' := 0) (S' := 0) d_Resolver_resolve_44 kS_Resolver_31 (jm_Resolver_resolveIntoUnion (d := (17 * rr) + 9) (dr := (17 * rr)) (Nat.le_refl _) fu (fun x0 x1 x2 x3 x4 x5 => jF_Resolver_resolve fu rr x0 x1 x2 x3 x4 x5) hrc a0 a1 a2 a3 a4 H) (by omega) (Nat.le_of_ble_eq_true rfl) (Nat.le_of_ble_eq_true rfl) rfl rfl (Nat.le_of_ble_eq_true rfl) fun y44 => ?_
        exact zs_zret (g := fun x => (x, y44.2)) (pc := 47) d_Resolver_resolve_47 rfl (Nat.le_of_ble_eq_true rfl) (Nat.le_of_ble_eq_true rfl) rfl
    · refine zs_aload_n (pc := 9) (x := a0) d_Resolver_resolve_9 rfl ?_
      refine zs_aload_n (pc := 10) (x := a2) d_Resolver_resolve_10 rfl ?_
      refine zs_iload_n (pc := 11) (x := a3) d_Resolver_resolve_11 rfl ?_
      refine zs_callv_rL (pc := 12) (av := [zI a3]) (st := [zR a0]) (d' := 0) (C' := 0) (S' := 0) d_Resolver_resolve_12 kV_Resolver_15 z_okb (jm_Row_at (d := 0) (Nat.le_refl _) a2 a3 H) (by omega) (Nat.le_of_ble_eq_true rfl) (Nat.le_of_ble_eq_true rfl) rfl rfl (Nat.le_of_ble_eq_true rfl) fun y12 => ?_
      refine zs_callv_rR (pc := 15) (av := [zL y12]) (st := []) (d' := 0) (C' := 0) (S' := 0) d_Resolver_resolve_15 kV_Resolver_21 z_okb (jm_Schema_branch (d := 0) (Nat.le_refl _) a0 y12 H) (by omega) (Nat.le_of_ble_eq_true rfl) (Nat.le_of_ble_eq_true rfl) rfl rfl (Nat.le_of_ble_eq_true rfl) fun y15 => ?_
      refine zs_aload_n (pc := 18) (x := a1) d_Resolver_resolve_18 rfl ?_
      refine zs_aload_n (pc := 19) (x := a2) d_Resolver_resolve_19 rfl ?_
      refine zs_iload_n (pc := 20) (x := a3) d_Resolver_resolve_20 rfl ?_
      refine zs_iconst (pc := 21) (v := (1 : Int32)) d_Resolver_resolve_21 (by decide) ?_
      refine zs_iadd (pc := 22) d_Resolver_resolve_22 ?_
      refine zs_aload (pc := 23) (x := a4) d_Resolver_resolve_23 rfl ?_
      refine zs_calls_wI (pc := 25) (av := [zR y15, zR a1, zR a2, zI (a3 + (1 : Int32)), zR a4]) (st := []) (d' := (17 * rr)) (C' := 0) (S' := 0) d_Resolver_resolve_25 kS_Resolver_25 (hrc y15 a1 a2 (a3 + (1 : Int32)) a4 H) (by omega) (Nat.le_of_ble_eq_true rfl) (Nat.le_of_ble_eq_true rfl) rfl rfl (Nat.le_of_ble_eq_true rfl) fun y25 => ?_
      exact zs_zret (g := fun x => (x, y25.2)) (pc := 28) d_Resolver_resolve_28 rfl (Nat.le_of_ble_eq_true rfl) (Nat.le_of_ble_eq_true rfl) rfl
def jJ_ST_read_125 (fu : Nat) (a0 : Option Nat) (a6 : Int32) (H : zH) : Option (Int32 × zH) :=
  (zgR H a0 0 7).bind fun v126 =>
  (jF_Row_clear v126 H).bind fun y129 =>
  if a6 = 0 then (
    some ((-2 : Int32), y129))
  else (
    some ((-3 : Int32), y129))
def jF_ST_read (fu : Nat) (a0 : Option Nat) (a1 : Int32) (a2 : Int32) (a3 : Int32) (H : zH) : Option (Int32 × zH) :=
  (zok H a0 0).bind fun _ =>
  (zgR H a0 0 7).bind fun v1 =>
  (jF_Row_clear v1 H).bind fun y4 =>
  (zgR y4 a0 0 1).bind fun v8 =>
  (zgI y4 v8 3 1).bind fun v11 =>
  if v11 = 0 then (
    some ((-4 : Int32), y4))
  else (
    (zgR y4 a0 0 0).bind fun v21 =>
    (jF_Schemas_find v21 a3 y4).bind fun y25 =>
    (jF_ST_isSubject a1 y4).bind fun y31 =>
    if y31 = 0 then (
      some ((-1 : Int32), y4))
    else (
      if y25 = none then (
        some ((-1 : Int32), y4))
      else (
        (zgR y4 a0 0 2).bind fun v43 =>
        (jF_Registry_has fu v43 a1 a3 y4).bind fun y48 =>
        if y48 = 0 then (
          some ((-1 : Int32), y4))
        else (
          (zgR y4 a0 0 3).bind fun v57 =>
          (zgR y4 a0 0 0).bind fun v63 =>
          (zgR y4 a0 0 6).bind fun v67 =>
          (jF_Manifest_fetch fu v57 a1 a2 v63 v67 y4).bind fun y70 =>
          if y70.1 = none then (
            some ((-1 : Int32), y70.2))
          else (
            (zgR y70.2 a0 0 6).bind fun v87 =>
            (zgR y70.2 a0 0 7).bind fun v92 =>
            (jF_Resolver_resolve fu 14 y70.1 y25 v87 (0 : Int32) v92 y70.2).bind fun y95 =>
            if y95.1 = 0 then (
              jJ_ST_read_125 fu a0 y95.1 y95.2)
            else (
              (zgR y95.2 a0 0 7).bind fun v106 =>
              (zgI y95.2 v106 7 1).bind fun v109 =>
              if (40 : Int32) < v109 then (
                jJ_ST_read_125 fu a0 y95.1 y95.2)
              else (
                (zgR y95.2 a0 0 7).bind fun v118 =>
                (zgI y95.2 v118 7 1).bind fun v121 =>
                some (v121, y95.2))))))))
theorem jj_ST_read_125 {E : zE} {d : Nat} (hd : 239 ≤ d) (fu : Nat) : ∀ (a0 : Option Nat) (a6 : Int32) (H : zH), z_S E jM_ST_read d 0 0 zwI 125 [(0, zR a0), (6, zI a6)] [] H 0 0 (jJ_ST_read_125 fu a0 a6 H) := by
  intro a0 a6 H
  unfold jJ_ST_read_125
  refine zs_aload_n (pc := 125) (x := a0) d_ST_read_125 rfl ?_
  refine zs_getR (pc := 126) d_ST_read_126 kF_ST_58 fun v126 => ?_
  refine zs_callv_wV (pc := 129) (av := []) (st := []) (d' := 0) (C' := 0) (S' := 0) d_ST_read_129 kV_ST_128 z_okb (jm_Row_clear (d := 0) (Nat.le_refl _) v126 H) (by omega) (Nat.le_of_ble_eq_true rfl) (Nat.le_of_ble_eq_true rfl) rfl rfl (Nat.le_of_ble_eq_true rfl) fun y129 => ?_
  refine zs_iload (pc := 132) (x := a6) d_ST_read_132 rfl ?_
  refine zs_if_eq (pc := 134) (tgt := 142) d_ST_read_134 rfl (fun q134 => ?_) (fun q134 => ?_)
  · refine zs_bipush (pc := 142) (v := (-2 : Int32)) d_ST_read_142 (by decide) ?_
    exact zs_iret (pc := 144) d_ST_read_144 rfl (Nat.le_of_ble_eq_true rfl) (Nat.le_of_ble_eq_true rfl) rfl
  · refine zs_bipush (pc := 137) (v := (-3 : Int32)) d_ST_read_137 (by decide) ?_
    refine zs_goto (pc := 139) (tgt := 144) d_ST_read_139 rfl ?_
    exact zs_iret (pc := 144) d_ST_read_144 rfl (Nat.le_of_ble_eq_true rfl) (Nat.le_of_ble_eq_true rfl) rfl
theorem jm_ST_read {E : zE} {d : Nat} (hd : 239 ≤ d) (fu : Nat) (a0 : Option Nat) (a1 : Int32) (a2 : Int32) (a3 : Int32) (H : zH) : z_MS E jM_ST_read d 0 0 zwI [zR a0, zI a1, zI a2, zI a3] H (jF_ST_read fu a0 a1 a2 a3 H) := by
  refine zs_of (lv0 := [(0, zR a0), (1, zI a1), (2, zI a2), (3, zI a3)]) pn_ST (Nat.le_of_ble_eq_true rfl) rfl ?_
  unfold jF_ST_read
  refine zs_bind fun _ _ => ?_
  refine zs_aload_n (pc := 0) (x := a0) d_ST_read_0 rfl ?_
  refine zs_getR (pc := 1) d_ST_read_1 kF_ST_58 fun v1 => ?_
  refine zs_callv_wV (pc := 4) (av := []) (st := []) (d' := 0) (C' := 0) (S' := 0) d_ST_read_4 kV_ST_128 z_okb (jm_Row_clear (d := 0) (Nat.le_refl _) v1 H) (by omega) (Nat.le_of_ble_eq_true rfl) (Nat.le_of_ble_eq_true rfl) rfl rfl (Nat.le_of_ble_eq_true rfl) fun y4 => ?_
  refine zs_aload_n (pc := 7) (x := a0) d_ST_read_7 rfl ?_
  refine zs_getR (pc := 8) d_ST_read_8 kF_ST_19 fun v8 => ?_
  refine zs_getI (pc := 11) d_ST_read_11 kF_ST_79 fun v11 => ?_
  refine zs_if_ne (pc := 14) (tgt := 20) d_ST_read_14 rfl (fun q14 => ?_) (fun q14 => ?_)
  · refine zs_aload_n (pc := 20) (x := a0) d_ST_read_20 rfl ?_
    refine zs_getR (pc := 21) d_ST_read_21 kF_ST_13 fun v21 => ?_
    refine zs_iload_n (pc := 24) (x := a3) d_ST_read_24 rfl ?_
    refine zs_callv_rR (pc := 25) (av := [zI a3]) (st := []) (d' := 0) (C' := 0) (S' := 0) d_ST_read_25 kV_ST_61 z_okb (jm_Schemas_find (d := 0) (Nat.le_refl _) v21 a3 y4) (by omega) (Nat.le_of_ble_eq_true rfl) (Nat.le_of_ble_eq_true rfl) rfl rfl (Nat.le_of_ble_eq_true rfl) fun y25 => ?_
    refine zs_astore (pc := 28) (lv' := [(4, zR y25), (0, zR a0), (1, zI a1), (2, zI a2), (3, zI a3)]) d_ST_read_28 (Nat.le_of_ble_eq_true rfl) rfl ?_
    refine zs_iload_n (pc := 30) (x := a1) d_ST_read_30 rfl ?_
    refine zs_calls_rI (pc := 31) (av := [zI a1]) (st := []) (d' := 0) (C' := 0) (S' := 0) d_ST_read_31 kS_ST_83 (jm_ST_isSubject (d := 0) (Nat.le_refl _) a1 y4) (by omega) (Nat.le_of_ble_eq_true rfl) (Nat.le_of_ble_eq_true rfl) rfl rfl (Nat.le_of_ble_eq_true rfl) fun y31 => ?_
    refine zs_if_eq (pc := 34) (tgt := 54) d_ST_read_34 rfl (fun q34 => ?_) (fun q34 => ?_)
    · refine zs_iconst (pc := 54) (v := (-1 : Int32)) d_ST_read_54 (by decide) ?_
      exact zs_iret (pc := 55) d_ST_read_55 rfl (Nat.le_of_ble_eq_true rfl) (Nat.le_of_ble_eq_true rfl) rfl
    · refine zs_aload (pc := 37) (x := y25) d_ST_read_37 rfl ?_
      refine zs_ifnull (pc := 39) (tgt := 54) d_ST_read_39 rfl (fun q39 => ?_) (fun q39 => ?_)
      · refine zs_iconst (pc := 54) (v := (-1 : Int32)) d_ST_read_54 (by decide) ?_
        exact zs_iret (pc := 55) d_ST_read_55 rfl (Nat.le_of_ble_eq_true rfl) (Nat.le_of_ble_eq_true rfl) rfl
      · refine zs_aload_n (pc := 42) (x := a0) d_ST_read_42 rfl ?_
        refine zs_getR (pc := 43) d_ST_read_43 kF_ST_28 fun v43 => ?_
        refine zs_iload_n (pc := 46) (x := a1) d_ST_read_46 rfl ?_
        refine zs_iload_n (pc := 47) (x := a3) d_ST_read_47 rfl ?_
        refine zs_callv_rI (pc := 48) (av := [zI a1, zI a3]) (st := []) (d' := 2) (C' := 0) (S' := 0) d_ST_read_48 kV_ST_87 z_okb (jm_Registry_has (d := 2) (Nat.le_refl _) fu v43 a1 a3 y4) (by omega) (Nat.le_of_ble_eq_true rfl) (Nat.le_of_ble_eq_true rfl) rfl rfl (Nat.le_of_ble_eq_true rfl) fun y48 => ?_
        refine zs_if_ne (pc := 51) (tgt := 56) d_ST_read_51 rfl (fun q51 => ?_) (fun q51 => ?_)
        · refine zs_aload_n (pc := 56) (x := a0) d_ST_read_56 rfl ?_
          refine zs_getR (pc := 57) d_ST_read_57 kF_ST_35 fun v57 => ?_
          refine zs_iload_n (pc := 60) (x := a1) d_ST_read_60 rfl ?_
          refine zs_iload_n (pc := 61) (x := a2) d_ST_read_61 rfl ?_
          refine zs_aload_n (pc := 62) (x := a0) d_ST_read_62 rfl ?_
          refine zs_getR (pc := 63) d_ST_read_63 kF_ST_13 fun v63 => ?_
          refine zs_aload_n (pc := 66) (x := a0) d_ST_read_66 rfl ?_
          refine zs_getR (pc := 67) d_ST_read_67 kF_ST_55 fun v67 => ?_
          refine zs_callv_wR (pc := 70) (av := [zI a1, zI a2, zR v63, zR v67]) (st := []) (d' := 30) (C' := 0) (S' := 0) d_ST_read_70 kV_ST_166 z_okb (jm_Manifest_fetch (d := 30) (Nat.le_refl _) fu v57 a1 a2 v63 v67 y4) (by omega) (Nat.le_of_ble_eq_true rfl) (Nat.le_of_ble_eq_true rfl) rfl rfl (Nat.le_of_ble_eq_true rfl) fun y70 => ?_
          refine zs_astore (pc := 73) (lv' := [(5, zR y70.1), (4, zR y25), (0, zR a0), (1, zI a1), (2, zI a2), (3, zI a3)]) d_ST_read_73 (Nat.le_of_ble_eq_true rfl) rfl ?_
          refine zs_aload (pc := 75) (x := y70.1) d_ST_read_75 rfl ?_
          refine zs_ifnonnull (pc := 77) (tgt := 82) d_ST_read_77 rfl (fun q77 => ?_) (fun q77 => ?_)
          · refine zs_aload (pc := 82) (x := y70.1) d_ST_read_82 rfl ?_
            refine zs_aload (pc := 84) (x := y25) d_ST_read_84 rfl ?_
            refine zs_aload_n (pc := 86) (x := a0) d_ST_read_86 rfl ?_
            refine zs_getR (pc := 87) d_ST_read_87 kF_ST_55 fun v87 => ?_
            refine zs_iconst (pc := 90) (v := (0 : Int32)) d_ST_read_90 (by decide) ?_
            refine zs_aload_n (pc := 91) (x := a0) d_ST_read_91 rfl ?_
            refine zs_getR (pc := 92) d_ST_read_92 kF_ST_58 fun v92 => ?_
            refine zs_calls_wI (pc := 95) (av := [zR y70.1, zR y25, zR v87, zI (0 : Int32), zR v92]) (st := []) (d' := 238) (C' := 0) (S' := 0) d_ST_read_95 kS_ST_170 (jm_Resolver_resolve fu 14 (d := 238) (by decide) y70.1 y25 v87 (0 : Int32) v92 y70.2) (by omega) (Nat.le_of_ble_eq_true rfl) (Nat.le_of_ble_eq_true rfl) rfl rfl (Nat.le_of_ble_eq_true rfl) fun y95 => ?_
            refine zs_istore (pc := 98) (lv' := [(6, zI y95.1), (5, zR y70.1), (4, zR y25), (0, zR a0), (1, zI a1), (2, zI a2), (3, zI a3)]) d_ST_read_98 (Nat.le_of_ble_eq_true rfl) rfl ?_
            refine zs_iload (pc := 100) (x := y95.1) d_ST_read_100 rfl ?_
            refine zs_if_eq (pc := 102) (tgt := 125) d_ST_read_102 rfl (fun q102 => ?_) (fun q102 => ?_)
            · refine zs_sub (lv' := [(0, zR a0), (6, zI y95.1)]) [3, 0] rfl ?_
              exact jj_ST_read_125 hd fu a0 y95.1 y95.2
            · refine zs_aload_n (pc := 105) (x := a0) d_ST_read_105 rfl ?_
              refine zs_getR (pc := 106) d_ST_read_106 kF_ST_58 fun v106 => ?_
              refine zs_getI (pc := 109) d_ST_read_109 kF_ST_114 fun v109 => ?_
              refine zs_bipush (pc := 112) (v := (40 : Int32)) d_ST_read_112 (by decide) ?_
              refine zs_icmp_gt (pc := 114) (tgt := 125) d_ST_read_114 rfl (fun q114 => ?_) (fun q114 => ?_)
              · refine zs_sub (lv' := [(0, zR a0), (6, zI y95.1)]) [3, 0] rfl ?_
                exact jj_ST_read_125 hd fu a0 y95.1 y95.2
              · refine zs_aload_n (pc := 117) (x := a0) d_ST_read_117 rfl ?_
                refine zs_getR (pc := 118) d_ST_read_118 kF_ST_58 fun v118 => ?_
                refine zs_getI (pc := 121) d_ST_read_121 kF_ST_114 fun v121 => ?_
                exact zs_iret (pc := 124) d_ST_read_124 rfl (Nat.le_of_ble_eq_true rfl) (Nat.le_of_ble_eq_true rfl) rfl
          · refine zs_iconst (pc := 80) (v := (-1 : Int32)) d_ST_read_80 (by decide) ?_
            exact zs_iret (pc := 81) d_ST_read_81 rfl (Nat.le_of_ble_eq_true rfl) (Nat.le_of_ble_eq_true rfl) rfl
        · refine zs_iconst (pc := 54) (v := (-1 : Int32)) d_ST_read_54 (by decide) ?_
          exact zs_iret (pc := 55) d_ST_read_55 rfl (Nat.le_of_ble_eq_true rfl) (Nat.le_of_ble_eq_true rfl) rfl
  · refine zs_bipush (pc := 17) (v := (-4 : Int32)) d_ST_read_17 (by decide) ?_
    exact zs_iret (pc := 19) d_ST_read_19 rfl (Nat.le_of_ble_eq_true rfl) (Nat.le_of_ble_eq_true rfl) rfl
def jF_ST_number (a0 : Option Nat) (a1 : Int32) (H : zH) : Option Int64 :=
  (zok H a0 0).bind fun _ =>
  (zgR H a0 0 7).bind fun v1 =>
  (jF_Row_at v1 a1 H).bind fun y5 =>
  some y5
theorem jm_ST_number {E : zE} {d : Nat} (hd : 1 ≤ d) (a0 : Option Nat) (a1 : Int32) (H : zH) : z_MS E jM_ST_number d 0 0 (zrL H) [zR a0, zI a1] H (jF_ST_number a0 a1 H) := by
  refine zs_of (lv0 := [(0, zR a0), (1, zI a1)]) pn_ST (Nat.le_of_ble_eq_true rfl) rfl ?_
  unfold jF_ST_number
  refine zs_bind fun _ _ => ?_
  refine zs_aload_n (pc := 0) (x := a0) d_ST_number_0 rfl ?_
  refine zs_getR (pc := 1) d_ST_number_1 kF_ST_58 fun v1 => ?_
  refine zs_iload_n (pc := 4) (x := a1) d_ST_number_4 rfl ?_
  refine zs_callv_rL (pc := 5) (av := [zI a1]) (st := []) (d' := 0) (C' := 0) (S' := 0) d_ST_number_5 kV_ST_176 z_okb (jm_Row_at (d := 0) (Nat.le_refl _) v1 a1 H) (by omega) (Nat.le_of_ble_eq_true rfl) (Nat.le_of_ble_eq_true rfl) rfl rfl (Nat.le_of_ble_eq_true rfl) fun y5 => ?_
  exact zs_lret (pc := 8) d_ST_number_8 rfl (Nat.le_of_ble_eq_true rfl) (Nat.le_of_ble_eq_true rfl) rfl
def jF_ST_records (fu : Nat) (a0 : Option Nat) (a1 : Int32) (H : zH) : Option Int32 :=
  (zok H a0 0).bind fun _ =>
  (jF_ST_isSubject a1 H).bind fun y1 =>
  if y1 = 0 then (
    some (-1 : Int32))
  else (
    (zgR H a0 0 1).bind fun v8 =>
    (zgI H v8 3 1).bind fun v11 =>
    if v11 = 0 then (
      some (-1 : Int32))
    else (
      (zgR H a0 0 3).bind fun v18 =>
      (jF_Manifest_recordsOf fu v18 a1 H).bind fun y22 =>
      some y22))
theorem jm_ST_records {E : zE} {d : Nat} (hd : 6 ≤ d) (fu : Nat) (a0 : Option Nat) (a1 : Int32) (H : zH) : z_MS E jM_ST_records d 0 0 (zrI H) [zR a0, zI a1] H (jF_ST_records fu a0 a1 H) := by
  refine zs_of (lv0 := [(0, zR a0), (1, zI a1)]) pn_ST (Nat.le_of_ble_eq_true rfl) rfl ?_
  unfold jF_ST_records
  refine zs_bind fun _ _ => ?_
  refine zs_iload_n (pc := 0) (x := a1) d_ST_records_0 rfl ?_
  refine zs_calls_rI (pc := 1) (av := [zI a1]) (st := []) (d' := 0) (C' := 0) (S' := 0) d_ST_records_1 kS_ST_83 (jm_ST_isSubject (d := 0) (Nat.le_refl _) a1 H) (by omega) (Nat.le_of_ble_eq_true rfl) (Nat.le_of_ble_eq_true rfl) rfl rfl (Nat.le_of_ble_eq_true rfl) fun y1 => ?_
  refine zs_if_eq (pc := 4) (tgt := 28) d_ST_records_4 rfl (fun q4 => ?_) (fun q4 => ?_)
  · refine zs_iconst (pc := 28) (v := (-1 : Int32)) d_ST_records_28 (by decide) ?_
    exact zs_iret (pc := 29) d_ST_records_29 rfl (Nat.le_of_ble_eq_true rfl) (Nat.le_of_ble_eq_true rfl) rfl
  · refine zs_aload_n (pc := 7) (x := a0) d_ST_records_7 rfl ?_
    refine zs_getR (pc := 8) d_ST_records_8 kF_ST_19 fun v8 => ?_
    refine zs_getI (pc := 11) d_ST_records_11 kF_ST_79 fun v11 => ?_
    refine zs_if_eq (pc := 14) (tgt := 28) d_ST_records_14 rfl (fun q14 => ?_) (fun q14 => ?_)
    · refine zs_iconst (pc := 28) (v := (-1 : Int32)) d_ST_records_28 (by decide) ?_
      exact zs_iret (pc := 29) d_ST_records_29 rfl (Nat.le_of_ble_eq_true rfl) (Nat.le_of_ble_eq_true rfl) rfl
    · refine zs_aload_n (pc := 17) (x := a0) d_ST_records_17 rfl ?_
      refine zs_getR (pc := 18) d_ST_records_18 kF_ST_35 fun v18 => ?_
      refine zs_iload_n (pc := 21) (x := a1) d_ST_records_21 rfl ?_
      refine zs_callv_rI (pc := 22) (av := [zI a1]) (st := []) (d' := 5) (C' := 0) (S' := 0) d_ST_records_22 kV_ST_149 z_okb (jm_Manifest_recordsOf (d := 5) (Nat.le_refl _) fu v18 a1 H) (by omega) (Nat.le_of_ble_eq_true rfl) (Nat.le_of_ble_eq_true rfl) rfl rfl (Nat.le_of_ble_eq_true rfl) fun y22 => ?_
      refine zs_goto (pc := 25) (tgt := 29) d_ST_records_25 rfl ?_
      exact zs_iret (pc := 29) d_ST_records_29 rfl (Nat.le_of_ble_eq_true rfl) (Nat.le_of_ble_eq_true rfl) rfl
