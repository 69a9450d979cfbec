def jJ_Mo_inside_160 (fu : Nat) (H : zH) (k83 : Option Nat → Int32 → Int32 → Int32 → Int32 → Option Int32) (a0 : Option Nat) (a1 : Int32) (a2 : Int32) (a4 : Int32) : Option Int32 :=
  k83 a0 a1 a2 (1 : Int32) (a4 + (1 : Int32))
def jL_Mo_inside_83 (fu : Nat) (H : zH) : Nat → Option Nat → Int32 → Int32 → Int32 → Int32 → Option Int32
  | 0, _, _, _, _, _ => none
  | g + 1, a0, a1, a2, a3, a4 =>
    (zgR H a0 1 6).bind fun v89 =>
    (zaI H v89 0 a1).bind fun v93 =>
    if (((3 : Int32) * a1) + v93) ≤ a4 then (
      (zbo a3).bind fun x => some x)
    else (
      (zgR H a0 1 7).bind fun v101 =>
      (zaI H v101 0 a4).bind fun v106 =>
      (jF_Mo_fieldOf fu a0 a2 v106 H).bind fun y107 =>
      if a3 = 0 then (
        jL_Mo_inside_83 fu H g a0 a1 a2 (0 : Int32) (a4 + (1 : Int32)))
      else (
        if 0 ≤ y107 then (
          (zgR H a0 1 12).bind fun v135 =>
          (zgR H a0 1 8).bind fun v141 =>
          (zaI H v141 0 a4).bind fun v146 =>
          (zgR H a0 1 8).bind fun v149 =>
          (zaI H v149 0 y107).bind fun v154 =>
          (zaI H v135 1 (((24 : Int32) * v146) + v154)).bind fun v156 =>
          if v156 = 0 then (
            jL_Mo_inside_83 fu H g a0 a1 a2 (0 : Int32) (a4 + (1 : Int32)))
          else (
            jJ_Mo_inside_160 fu H (fun x0 x1 x2 x3 x4 => jL_Mo_inside_83 fu H g x0 x1 x2 x3 x4) a0 a1 a2 a4))
        else (
          (zgR H a0 1 9).bind fun v122 =>
          (zaI H v122 1 a4).bind fun v127 =>
          if v127 = 0 then (
            jL_Mo_inside_83 fu H g a0 a1 a2 (0 : Int32) (a4 + (1 : Int32)))
          else (
            jJ_Mo_inside_160 fu H (fun x0 x1 x2 x3 x4 => jL_Mo_inside_83 fu H g x0 x1 x2 x3 x4) a0 a1 a2 a4))))
def jJ_Mo_inside_38 (fu : Nat) (H : zH)  : Option Int32 :=
  some (1 : Int32)
def jF_Mo_inside (fu : Nat) (a0 : Option Nat) (a1 : Int32) (a2 : Int32) (H : zH) : Option Int32 :=
  (zok H a0 1).bind fun _ =>
  (zgR H a0 1 1).bind fun v1 =>
  (zaI H v1 0 a1).bind fun v5 =>
  if v5 = (4 : Int32) then (
    (zgR H a0 1 4).bind fun v11 =>
    (zaI H v11 0 a1).bind fun v15 =>
    if v15 = (-1 : Int32) then (
      (zgR H a0 1 3).bind fun v21 =>
      (zaI H v21 0 a2).bind fun v25 =>
      (zgR H a0 1 3).bind fun v27 =>
      (zaI H v27 0 a1).bind fun v31 =>
      if (v25 &&& (v31 ^^^ (-1 : Int32))) = 0 then (
        jJ_Mo_inside_38 fu H)
      else (
        some (0 : Int32)))
    else (
      jJ_Mo_inside_38 fu H))
  else (
    (zgR H a0 1 1).bind fun v45 =>
    (zaI H v45 0 a1).bind fun v49 =>
    if v49 = (5 : Int32) then (
      (zgR H a0 1 12).bind fun v55 =>
      (zgR H a0 1 3).bind fun v61 =>
      (zaI H v61 0 a1).bind fun v65 =>
      (zgR H a0 1 3).bind fun v68 =>
      (zaI H v68 0 a2).bind fun v72 =>
      (zaI H v55 1 (((24 : Int32) * v65) + v72)).bind fun v74 =>
      (zbo v74).bind fun x => some x)
    else (
      jL_Mo_inside_83 fu H fu a0 a1 a2 (1 : Int32) ((3 : Int32) * a1)))
theorem jj_Mo_inside_160 {E : zE} {d : Nat} (hd : 1 ≤ d) (fu : Nat) (H : zH) (k83 : Option Nat → Int32 → Int32 → Int32 → Int32 → Option Int32) (hk83 : ∀ (a0 : Option Nat) (a1 : Int32) (a2 : Int32) (a3 : Int32) (a4 : Int32), z_S E jM_Mo_inside d 0 0 (zrI H) 83 [(0, zR a0), (1, zI a1), (2, zI a2), (3, zI a3), (4, zI a4)] [] H 0 0 (k83 a0 a1 a2 a3 a4)) : ∀ (a0 : Option Nat) (a1 : Int32) (a2 : Int32) (a4 : Int32), z_S E jM_Mo_inside d 0 0 (zrI H) 160 [(0, zR a0), (1, zI a1), (2, zI a2), (4, zI a4)] [] H 0 0 (jJ_Mo_inside_160 fu H k83 a0 a1 a2 a4) := by
  intro a0 a1 a2 a4
  unfold jJ_Mo_inside_160
  refine zs_iconst (pc := 160) (v := (1 : Int32)) d_Mo_inside_160 (by decide) ?_
  refine zs_goto (pc := 161) (tgt := 165) d_Mo_inside_161 rfl ?_
  refine zs_istore_n (pc := 165) (lv' := [(3, zI (1 : Int32)), (0, zR a0), (1, zI a1), (2, zI a2), (4, zI a4)]) d_Mo_inside_165 (Nat.le_of_ble_eq_true rfl) rfl ?_
  refine zs_iinc (pc := 166) (x := a4) (v := (a4 + (1 : Int32))) (lv' := [(4, zI (a4 + (1 : Int32))), (3, zI (1 : Int32)), (0, zR a0), (1, zI a1), (2, zI a2)]) d_Mo_inside_166 rfl rfl (Nat.le_of_ble_eq_true rfl) rfl ?_
  refine zs_goto (pc := 169) (tgt := 83) d_Mo_inside_169 rfl ?_
  refine zs_sub (lv' := [(0, zR a0), (1, zI a1), (2, zI a2), (3, zI (1 : Int32)), (4, zI (a4 + (1 : Int32)))]) [2, 3, 4, 1, 0] rfl ?_
  exact hk83 a0 a1 a2 (1 : Int32) (a4 + (1 : Int32))
theorem jl_Mo_inside_83 {E : zE} {d : Nat} (hd : 1 ≤ d) (fu : Nat) (H : zH) : ∀ (g : Nat), ∀ (a0 : Option Nat) (a1 : Int32) (a2 : Int32) (a3 : Int32) (a4 : Int32), z_S E jM_Mo_inside d 0 0 (zrI H) 83 [(0, zR a0), (1, zI a1), (2, zI a2), (3, zI a3), (4, zI a4)] [] H 0 0 (jL_Mo_inside_83 fu H g a0 a1 a2 a3 a4) := by
  intro g
  induction g with
  | zero => intros; exact zs_none
  | succ g ih =>
    intro a0 a1 a2 a3 a4
    rw [jL_Mo_inside_83]
    refine zs_iload (pc := 83) (x := a4) d_Mo_inside_83 rfl ?_
    refine zs_iconst (pc := 85) (v := (3 : Int32)) d_Mo_inside_85 (by decide) ?_
    refine zs_iload_n (pc := 86) (x := a1) d_Mo_inside_86 rfl ?_
    refine zs_imul (pc := 87) d_Mo_inside_87 ?_
    refine zs_aload_n (pc := 88) (x := a0) d_Mo_inside_88 rfl ?_
    refine zs_getR (pc := 89) d_Mo_inside_89 kF_Mo_25 fun v89 => ?_
    refine zs_iload_n (pc := 92) (x := a1) d_Mo_inside_92 rfl ?_
    refine zs_iald (t := 0) (pc := 93) d_Mo_inside_93 rfl fun v93 => ?_
    refine zs_iadd (pc := 94) d_Mo_inside_94 ?_
    refine zs_icmp_ge (pc := 95) (tgt := 172) d_Mo_inside_95 rfl (fun q95 => ?_) (fun q95 => ?_)
    · refine zs_iload_n (pc := 172) (x := a3) d_Mo_inside_172 rfl ?_
      exact zs_zret (g := fun x => x) (pc := 173) d_Mo_inside_173 rfl (Nat.le_of_ble_eq_true rfl) (Nat.le_of_ble_eq_true rfl) rfl
    · refine zs_aload_n (pc := 98) (x := a0) d_Mo_inside_98 rfl ?_
      refine zs_iload_n (pc := 99) (x := a2) d_Mo_inside_99 rfl ?_
      refine zs_aload_n (pc := 100) (x := a0) d_Mo_inside_100 rfl ?_
      refine zs_getR (pc := 101) d_Mo_inside_101 kF_Mo_28 fun v101 => ?_
      refine zs_iload (pc := 104) (x := a4) d_Mo_inside_104 rfl ?_
      refine zs_iald (t := 0) (pc := 106) d_Mo_inside_106 rfl fun v106 => ?_
      refine zs_callv_rI (pc := 107) (av := [zI a2, zI v106]) (st := []) (d' := 0) (C' := 0) (S' := 0) d_Mo_inside_107 kV_Mo_120 z_okb (jm_Mo_fieldOf (d := 0) (Nat.le_refl _) fu a0 a2 v106 H) (by omega) (Nat.le_of_ble_eq_true rfl) (Nat.le_of_ble_eq_true rfl) rfl rfl (Nat.le_of_ble_eq_true rfl) fun y107 => ?_
      refine zs_istore (pc := 110) (lv' := [(5, zI y107), (0, zR a0), (1, zI a1), (2, zI a2), (3, zI a3), (4, zI a4)]) d_Mo_inside_110 (Nat.le_of_ble_eq_true rfl) rfl ?_
      refine zs_iload_n (pc := 112) (x := a3) d_Mo_inside_112 rfl ?_
      refine zs_if_eq (pc := 113) (tgt := 164) d_Mo_inside_113 rfl (fun q113 => ?_) (fun q113 => ?_)
      · refine zs_iconst (pc := 164) (v := (0 : Int32)) d_Mo_inside_164 (by decide) ?_
        refine zs_istore_n (pc := 165) (lv' := [(3, zI (0 : Int32)), (5, zI y107), (0, zR a0), (1, zI a1), (2, zI a2), (4, zI a4)]) d_Mo_inside_165 (Nat.le_of_ble_eq_true rfl) rfl ?_
        refine zs_iinc (pc := 166) (x := a4) (v := (a4 + (1 : Int32))) (lv' := [(4, zI (a4 + (1 : Int32))), (3, zI (0 : Int32)), (5, zI y107), (0, zR a0), (1, zI a1), (2, zI a2)]) d_Mo_inside_166 rfl rfl (Nat.le_of_ble_eq_true rfl) rfl ?_
        refine zs_goto (pc := 169) (tgt := 83) d_Mo_inside_169 rfl ?_
        refine zs_sub (lv' := [(0, zR a0), (1, zI a1), (2, zI a2), (3, zI (0 : Int32)), (4, zI (a4 + (1 : Int32)))]) [3, 4, 5, 1, 0] rfl ?_
        exact ih a0 a1 a2 (0 : Int32) (a4 + (1 : Int32))
      · refine zs_iload (pc := 116) (x := y107) d_Mo_inside_116 rfl ?_
        refine zs_if_ge (pc := 118) (tgt := 134) d_Mo_inside_118 rfl (fun q118 => ?_) (fun q118 => ?_)
        · refine zs_aload_n (pc := 134) (x := a0) d_Mo_inside_134 rfl ?_
          refine zs_getR (pc := 135) d_Mo_inside_135 kF_Mo_45 fun v135 => ?_
          refine zs_bipush (pc := 138) (v := (24 : Int32)) d_Mo_inside_138 (by decide) ?_
          refine zs_aload_n (pc := 140) (x := a0) d_Mo_inside_140 rfl ?_
          refine zs_getR (pc := 141) d_Mo_inside_141 kF_Mo_31 fun v141 => ?_
          refine zs_iload (pc := 144) (x := a4) d_Mo_inside_144 rfl ?_
          refine zs_iald (t := 0) (pc := 146) d_Mo_inside_146 rfl fun v146 => ?_
          refine zs_imul (pc := 147) d_Mo_inside_147 ?_
          refine zs_aload_n (pc := 148) (x := a0) d_Mo_inside_148 rfl ?_
          refine zs_getR (pc := 149) d_Mo_inside_149 kF_Mo_31 fun v149 => ?_
          refine zs_iload (pc := 152) (x := y107) d_Mo_inside_152 rfl ?_
          refine zs_iald (t := 0) (pc := 154) d_Mo_inside_154 rfl fun v154 => ?_
          refine zs_iadd (pc := 155) d_Mo_inside_155 ?_
          refine zs_zald (t := 1) (pc := 156) d_Mo_inside_156 rfl fun v156 => ?_
          refine zs_if_eq (pc := 157) (tgt := 164) d_Mo_inside_157 rfl (fun q157 => ?_) (fun q157 => ?_)
          · refine zs_iconst (pc := 164) (v := (0 : Int32)) d_Mo_inside_164 (by decide) ?_
            refine zs_istore_n (pc := 165) (lv' := [(3, zI (0 : Int32)), (5, zI y107), (0, zR a0), (1, zI a1), (2, zI a2), (4, zI a4)]) d_Mo_inside_165 (Nat.le_of_ble_eq_true rfl) rfl ?_
            refine zs_iinc (pc := 166) (x := a4) (v := (a4 + (1 : Int32))) (lv' := [(4, zI (a4 + (1 : Int32))), (3, zI (0 : Int32)), (5, zI y107), (0, zR a0), (1, zI a1), (2, zI a2)]) d_Mo_inside_166 rfl rfl (Nat.le_of_ble_eq_true rfl) rfl ?_
            refine zs_goto (pc := 169) (tgt := 83) d_Mo_inside_169 rfl ?_
            refine zs_sub (lv' := [(0, zR a0), (1, zI a1), (2, zI a2), (3, zI (0 : Int32)), (4, zI (a4 + (1 : Int32)))]) [3, 4, 5, 1, 0] rfl ?_
            exact ih a0 a1 a2 (0 : Int32) (a4 + (1 : Int32))
          · refine zs_sub (lv' := [(0, zR a0), (1, zI a1), (2, zI a2), (4, zI a4)]) [1, 2, 3, 5] rfl ?_
            exact jj_Mo_inside_160 hd fu H (fun x0 x1 x2 x3 x4 => jL_Mo_inside_83 fu H g x0 x1 x2 x3 x4) ih a0 a1 a2 a4
        · refine zs_aload_n (pc := 121) (x := a0) d_Mo_inside_121 rfl ?_
          refine zs_getR (pc := 122) d_Mo_inside_122 kF_Mo_34 fun v122 => ?_
          refine zs_iload (pc := 125) (x := a4) d_Mo_inside_125 rfl ?_
          refine zs_zald (t := 1) (pc := 127) d_Mo_inside_127 rfl fun v127 => ?_
          refine zs_if_eq (pc := 128) (tgt := 164) d_Mo_inside_128 rfl (fun q128 => ?_) (fun q128 => ?_)
          · refine zs_iconst (pc := 164) (v := (0 : Int32)) d_Mo_inside_164 (by decide) ?_
            refine zs_istore_n (pc := 165) (lv' := [(3, zI (0 : Int32)), (5, zI y107), (0, zR a0), (1, zI a1), (2, zI a2), (4, zI a4)]) d_Mo_inside_165 (Nat.le_of_ble_eq_true rfl) rfl ?_
            refine zs_iinc (pc := 166) (x := a4) (v := (a4 + (1 : Int32))) (lv' := [(4, zI (a4 + (1 : Int32))), (3, zI (0 : Int32)), (5, zI y107), (0, zR a0), (1, zI a1), (2, zI a2)]) d_Mo_inside_166 rfl rfl (Nat.le_of_ble_eq_true rfl) rfl ?_
            refine zs_goto (pc := 169) (tgt := 83) d_Mo_inside_169 rfl ?_
            refine zs_sub (lv' := [(0, zR a0), (1, zI a1), (2, zI a2), (3, zI (0 : Int32)), (4, zI (a4 + (1 : Int32)))]) [3, 4, 5, 1, 0] rfl ?_
            exact ih a0 a1 a2 (0 : Int32) (a4 + (1 : Int32))
          · refine zs_goto (pc := 131) (tgt := 160) d_Mo_inside_131 rfl ?_
            refine zs_sub (lv' := [(0, zR a0), (1, zI a1), (2, zI a2), (4, zI a4)]) [1, 2, 3, 5] rfl ?_
            exact jj_Mo_inside_160 hd fu H (fun x0 x1 x2 x3 x4 => jL_Mo_inside_83 fu H g x0 x1 x2 x3 x4) ih a0 a1 a2 a4
theorem jj_Mo_inside_38 {E : zE} {d : Nat} (hd : 1 ≤ d) (fu : Nat) (H : zH) : z_S E jM_Mo_inside d 0 0 (zrI H) 38 [] [] H 0 0 (jJ_Mo_inside_38 fu H) := by
  unfold jJ_Mo_inside_38
  refine zs_iconst (pc := 38) (v := (1 : Int32)) d_Mo_inside_38 (by decide) ?_
  refine zs_goto (pc := 39) (tgt := 43) d_Mo_inside_39 rfl ?_
  exact zs_zretc (pc := 43) d_Mo_inside_43 rfl (by decide) (Nat.le_of_ble_eq_true rfl) (Nat.le_of_ble_eq_true rfl) rfl
theorem jm_Mo_inside {E : zE} {d : Nat} (hd : 1 ≤ d) (fu : Nat) (a0 : Option Nat) (a1 : Int32) (a2 : Int32) (H : zH) : z_MS E jM_Mo_inside d 0 0 (zrI H) [zR a0, zI a1, zI a2] H (jF_Mo_inside fu a0 a1 a2 H) := by
  refine zs_of (lv0 := [(0, zR a0), (1, zI a1), (2, zI a2)]) pn_Mo (Nat.le_of_ble_eq_true rfl) rfl ?_
  unfold jF_Mo_inside
  refine zs_bind fun _ _ => ?_
  refine zs_aload_n (pc := 0) (x := a0) d_Mo_inside_0 rfl ?_
  refine zs_getR (pc := 1) d_Mo_inside_1 kF_Mo_7 fun v1 => ?_
  refine zs_iload_n (pc := 4) (x := a1) d_Mo_inside_4 rfl ?_
  refine zs_iald (t := 0) (pc := 5) d_Mo_inside_5 rfl fun v5 => ?_
  refine zs_iconst (pc := 6) (v := (4 : Int32)) d_Mo_inside_6 (by decide) ?_
  refine zs_icmp_ne (pc := 7) (tgt := 44) d_Mo_inside_7 rfl (fun q7 => ?_) (fun q7 => ?_)
  · refine zs_aload_n (pc := 44) (x := a0) d_Mo_inside_44 rfl ?_
    refine zs_getR (pc := 45) d_Mo_inside_45 kF_Mo_7 fun v45 => ?_
    refine zs_iload_n (pc := 48) (x := a1) d_Mo_inside_48 rfl ?_
    refine zs_iald (t := 0) (pc := 49) d_Mo_inside_49 rfl fun v49 => ?_
    refine zs_iconst (pc := 50) (v := (5 : Int32)) d_Mo_inside_50 (by decide) ?_
    refine zs_icmp_ne (pc := 51) (tgt := 76) d_Mo_inside_51 rfl (fun q51 => ?_) (fun q51 => ?_)
    · refine zs_iconst (pc := 76) (v := (1 : Int32)) d_Mo_inside_76 (by decide) ?_
      refine zs_istore_n (pc := 77) (lv' := [(3, zI (1 : Int32)), (0, zR a0), (1, zI a1), (2, zI a2)]) d_Mo_inside_77 (Nat.le_of_ble_eq_true rfl) rfl ?_
      refine zs_iconst (pc := 78) (v := (3 : Int32)) d_Mo_inside_78 (by decide) ?_
      refine zs_iload_n (pc := 79) (x := a1) d_Mo_inside_79 rfl ?_
      refine zs_imul (pc := 80) d_Mo_inside_80 ?_
      refine zs_istore (pc := 81) (lv' := [(4, zI ((3 : Int32) * a1)), (3, zI (1 : Int32)), (0, zR a0), (1, zI a1), (2, zI a2)]) d_Mo_inside_81 (Nat.le_of_ble_eq_true rfl) rfl ?_
      refine zs_sub (lv' := [(0, zR a0), (1, zI a1), (2, zI a2), (3, zI (1 : Int32)), (4, zI ((3 : Int32) * a1))]) [2, 3, 4, 1, 0] rfl ?_
      exact jl_Mo_inside_83 hd fu H fu a0 a1 a2 (1 : Int32) ((3 : Int32) * a1)
    · refine zs_aload_n (pc := 54) (x := a0) d_Mo_inside_54 rfl ?_
      refine zs_getR (pc := 55) d_Mo_inside_55 kF_Mo_45 fun v55 => ?_
      refine zs_bipush (pc := 58) (v := (24 : Int32)) d_Mo_inside_58 (by decide) ?_
      refine zs_aload_n (pc := 60) (x := a0) d_Mo_inside_60 rfl ?_
      refine zs_getR (pc := 61) d_Mo_inside_61 kF_Mo_16 fun v61 => ?_
      refine zs_iload_n (pc := 64) (x := a1) d_Mo_inside_64 rfl ?_
      refine zs_iald (t := 0) (pc := 65) d_Mo_inside_65 rfl fun v65 => ?_
      refine zs_imul (pc := 66) d_Mo_inside_66 ?_
      refine zs_aload_n (pc := 67) (x := a0) d_Mo_inside_67 rfl ?_
      refine zs_getR (pc := 68) d_Mo_inside_68 kF_Mo_16 fun v68 => ?_
      refine zs_iload_n (pc := 71) (x := a2) d_Mo_inside_71 rfl ?_
      refine zs_iald (t := 0) (pc := 72) d_Mo_inside_72 rfl fun v72 => ?_
      refine zs_iadd (pc := 73) d_Mo_inside_73 ?_
      refine zs_zald (t := 1) (pc := 74) d_Mo_inside_74 rfl fun v74 => ?_
      exact zs_zret (g := fun x => x) (pc := 75) d_Mo_inside_75 rfl (Nat.le_of_ble_eq_true rfl) (Nat.le_of_ble_eq_true rfl) rfl
  · refine zs_aload_n (pc := 10) (x := a0) d_Mo_inside_10 rfl ?_
    refine zs_getR (pc := 11) d_Mo_inside_11 kF_Mo_19 fun v11 => ?_
    refine zs_iload_n (pc := 14) (x := a1) d_Mo_inside_14 rfl ?_
    refine zs_iald (t := 0) (pc := 15) d_Mo_inside_15 rfl fun v15 => ?_
    refine zs_iconst (pc := 16) (v := (-1 : Int32)) d_Mo_inside_16 (by decide) ?_
    refine zs_icmp_ne (pc := 17) (tgt := 38) d_Mo_inside_17 rfl (fun q17 => ?_) (fun q17 => ?_)
    · refine zs_sub (lv' := []) [] rfl ?_
      exact jj_Mo_inside_38 hd fu H
    · refine zs_aload_n (pc := 20) (x := a0) d_Mo_inside_20 rfl ?_
      refine zs_getR (pc := 21) d_Mo_inside_21 kF_Mo_16 fun v21 => ?_
      refine zs_iload_n (pc := 24) (x := a2) d_Mo_inside_24 rfl ?_
      refine zs_iald (t := 0) (pc := 25) d_Mo_inside_25 rfl fun v25 => ?_
      refine zs_aload_n (pc := 26) (x := a0) d_Mo_inside_26 rfl ?_
      refine zs_getR (pc := 27) d_Mo_inside_27 kF_Mo_16 fun v27 => ?_
      refine zs_iload_n (pc := 30) (x := a1) d_Mo_inside_30 rfl ?_
      refine zs_iald (t := 0) (pc := 31) d_Mo_inside_31 rfl fun v31 => ?_
      refine zs_iconst (pc := 32) (v := (-1 : Int32)) d_Mo_inside_32 (by decide) ?_
      refine zs_ixor (pc := 33) d_Mo_inside_33 ?_
      refine zs_iand (pc := 34) d_Mo_inside_34 ?_
      refine zs_if_ne (pc := 35) (tgt := 42) d_Mo_inside_35 rfl (fun q35 => ?_) (fun q35 => ?_)
      · refine zs_iconst (pc := 42) (v := (0 : Int32)) d_Mo_inside_42 (by decide) ?_
        exact zs_zretc (pc := 43) d_Mo_inside_43 rfl (by decide) (Nat.le_of_ble_eq_true rfl) (Nat.le_of_ble_eq_true rfl) rfl
      · refine zs_sub (lv' := []) [] rfl ?_
        exact jj_Mo_inside_38 hd fu H
def jJ_Mo_compare_335 (fu : Nat) (s0 : Int32) (s1 : Int32) (s2 : Option Nat) (H : zH) : Option zH :=
  (zsZ H s2 1 s1 s0).bind fun H335 =>
  some H335
def jJ_Mo_compare_334 (fu : Nat) (s0 : Int32) (s1 : Option Nat) (H : zH) : Option zH :=
  jJ_Mo_compare_335 fu (0 : Int32) s0 s1 H
def jJ_Mo_compare_312 (fu : Nat) (s0 : Int32) (s1 : Option Nat) (H : zH) : Option zH :=
  jJ_Mo_compare_335 fu (0 : Int32) s0 s1 H
def jJ_Mo_compare_265 (fu : Nat) (s0 : Int32) (s1 : Option Nat) (H : zH) : Option zH :=
  jJ_Mo_compare_335 fu (0 : Int32) s0 s1 H
def jJ_Mo_compare_201 (fu : Nat) (s0 : Int32) (s1 : Int32) (s2 : Option Nat) (a0 : Option Nat) (a1 : Int32) (a2 : Int32) (a5 : Int32) (H : zH) : Option zH :=
  (zsZ H s2 1 s1 s0).bind fun H201 =>
  (zgR H201 a0 1 12).bind fun v203 =>
  (zgR H201 a0 1 1).bind fun v213 =>
  (zaI H201 v213 0 a2).bind fun v217 =>
  if v217 = (6 : Int32) then (
    (zgR H201 a0 1 12).bind fun v224 =>
    (zgR H201 a0 1 3).bind fun v232 =>
    (zaI H201 v232 0 a2).bind fun v236 =>
    (zaI H201 v224 1 (((24 : Int32) * a1) + v236)).bind fun v238 =>
    if v238 = 0 then (
      jJ_Mo_compare_265 fu (((24 : Int32) * a1) + a2) v203 H201)
    else (
      (zgR H201 a0 1 12).bind fun v243 =>
      (zgR H201 a0 1 4).bind fun v251 =>
      (zaI H201 v251 0 a2).bind fun v255 =>
      (zaI H201 v243 1 (((24 : Int32) * a1) + v255)).bind fun v257 =>
      if v257 = 0 then (
        jJ_Mo_compare_265 fu (((24 : Int32) * a1) + a2) v203 H201)
      else (
        jJ_Mo_compare_335 fu (1 : Int32) (((24 : Int32) * a1) + a2) v203 H201)))
  else (
    (zgR H201 a0 1 1).bind fun v270 =>
    (zaI H201 v270 0 a1).bind fun v274 =>
    if v274 = (6 : Int32) then (
      (jF_Mo_branch a0 a1 a2 H201).bind fun y283 =>
      if y283 < 0 then (
        jJ_Mo_compare_312 fu (((24 : Int32) * a1) + a2) v203 H201)
      else (
        (zgR H201 a0 1 12).bind fun v290 =>
        (jF_Mo_branchSchema a0 a1 a2 H201).bind fun y298 =>
        (zaI H201 v290 1 (((24 : Int32) * y298) + a2)).bind fun v304 =>
        if v304 = 0 then (
          jJ_Mo_compare_312 fu (((24 : Int32) * a1) + a2) v203 H201)
        else (
          jJ_Mo_compare_335 fu (1 : Int32) (((24 : Int32) * a1) + a2) v203 H201)))
    else (
      if a5 = 0 then (
        jJ_Mo_compare_334 fu (((24 : Int32) * a1) + a2) v203 H201)
      else (
        (jF_Mo_inside fu a0 a1 a2 H201).bind fun y324 =>
        if y324 = 0 then (
          jJ_Mo_compare_334 fu (((24 : Int32) * a1) + a2) v203 H201)
        else (
          jJ_Mo_compare_335 fu (1 : Int32) (((24 : Int32) * a1) + a2) v203 H201))))
def jJ_Mo_compare_196 (fu : Nat) (s0 : Int32) (s1 : Option Nat) (a0 : Option Nat) (a1 : Int32) (a2 : Int32) (a5 : Int32) (H : zH) : Option zH :=
  jJ_Mo_compare_201 fu (1 : Int32) s0 s1 a0 a1 a2 a5 H
def jJ_Mo_compare_200 (fu : Nat) (s0 : Int32) (s1 : Option Nat) (a0 : Option Nat) (a1 : Int32) (a2 : Int32) (a5 : Int32) (H : zH) : Option zH :=
  jJ_Mo_compare_201 fu (0 : Int32) s0 s1 a0 a1 a2 a5 H
def jJ_Mo_compare_170 (fu : Nat) (s0 : Int32) (a0 : Option Nat) (a1 : Int32) (a2 : Int32) (a3 : Int32) (a5 : Int32) (H : zH) : Option zH :=
  (zgR H a0 1 11).bind fun v173 =>
  if a3 = 0 then (
    if a5 = 0 then (
      jJ_Mo_compare_200 fu (((24 : Int32) * a1) + a2) v173 a0 a1 a2 a5 H)
    else (
      if s0 = 0 then (
        jJ_Mo_compare_200 fu (((24 : Int32) * a1) + a2) v173 a0 a1 a2 a5 H)
      else (
        jJ_Mo_compare_196 fu (((24 : Int32) * a1) + a2) v173 a0 a1 a2 a5 H)))
  else (
    jJ_Mo_compare_196 fu (((24 : Int32) * a1) + a2) v173 a0 a1 a2 a5 H)
def jJ_Mo_compare_165 (fu : Nat) (a0 : Option Nat) (a1 : Int32) (a2 : Int32) (a3 : Int32) (a5 : Int32) (H : zH) : Option zH :=
  jJ_Mo_compare_170 fu (1 : Int32) a0 a1 a2 a3 a5 H
def jJ_Mo_compare_124 (fu : Nat) (s0 : Int32) (a0 : Option Nat) (a1 : Int32) (a2 : Int32) (a3 : Int32) (H : zH) : Option zH :=
  (zgR H a0 1 1).bind fun v127 =>
  (zaI H v127 0 a1).bind fun v131 =>
  if v131 = (5 : Int32) then (
    if s0 = 0 then (
      jJ_Mo_compare_165 fu a0 a1 a2 a3 s0 H)
    else (
      (zgR H a0 1 11).bind fun v142 =>
      (zgR H a0 1 3).bind fun v148 =>
      (zaI H v148 0 a1).bind fun v152 =>
      (zgR H a0 1 3).bind fun v155 =>
      (zaI H v155 0 a2).bind fun v159 =>
      (zaI H v142 1 (((24 : Int32) * v152) + v159)).bind fun v161 =>
      if v161 = 0 then (
        jJ_Mo_compare_170 fu (0 : Int32) a0 a1 a2 a3 s0 H)
      else (
        jJ_Mo_compare_165 fu a0 a1 a2 a3 s0 H)))
  else (
    jJ_Mo_compare_165 fu a0 a1 a2 a3 s0 H)
def jJ_Mo_compare_123 (fu : Nat) (a0 : Option Nat) (a1 : Int32) (a2 : Int32) (a3 : Int32) (H : zH) : Option zH :=
  jJ_Mo_compare_124 fu (0 : Int32) a0 a1 a2 a3 H
def jJ_Mo_compare_91 (fu : Nat) (a0 : Option Nat) (a1 : Int32) (a2 : Int32) (a3 : Int32) (H : zH) : Option zH :=
  jJ_Mo_compare_124 fu (1 : Int32) a0 a1 a2 a3 H
def jJ_Mo_compare_54 (fu : Nat) (s0 : Int32) (a0 : Option Nat) (a1 : Int32) (a2 : Int32) (a3 : Int32) (H : zH) : Option zH :=
  (zgR H a0 1 1).bind fun v57 =>
  (zaI H v57 0 a1).bind fun v61 =>
  (zgR H a0 1 1).bind fun v63 =>
  (zaI H v63 0 a2).bind fun v67 =>
  if v61 = v67 then (
    if s0 = 0 then (
      jJ_Mo_compare_91 fu a0 a1 a2 a3 H)
    else (
      (zgR H a0 1 2).bind fun v77 =>
      (zaI H v77 0 a1).bind fun v81 =>
      (zgR H a0 1 2).bind fun v83 =>
      (zaI H v83 0 a2).bind fun v87 =>
      if v81 = v87 then (
        jJ_Mo_compare_91 fu a0 a1 a2 a3 H)
      else (
        jJ_Mo_compare_124 fu (0 : Int32) a0 a1 a2 a3 H)))
  else (
    (zgR H a0 1 1).bind fun v100 =>
    (zaI H v100 0 a1).bind fun v104 =>
    if v104 = (3 : Int32) then (
      (zgR H a0 1 1).bind fun v110 =>
      (zaI H v110 0 a2).bind fun v114 =>
      if v114 = (2 : Int32) then (
        jJ_Mo_compare_124 fu (1 : Int32) a0 a1 a2 a3 H)
      else (
        jJ_Mo_compare_123 fu a0 a1 a2 a3 H))
    else (
      jJ_Mo_compare_123 fu a0 a1 a2 a3 H))
def jJ_Mo_compare_49 (fu : Nat) (a0 : Option Nat) (a1 : Int32) (a2 : Int32) (a3 : Int32) (H : zH) : Option zH :=
  jJ_Mo_compare_54 fu (1 : Int32) a0 a1 a2 a3 H
def jJ_Mo_compare_27 (fu : Nat) (s0 : Int32) (a0 : Option Nat) (a1 : Int32) (a2 : Int32) (H : zH) : Option zH :=
  (zgR H a0 1 1).bind fun v29 =>
  (zaI H v29 0 a1).bind fun v33 =>
  if v33 = (4 : Int32) then (
    jJ_Mo_compare_49 fu a0 a1 a2 s0 H)
  else (
    (zgR H a0 1 1).bind fun v39 =>
    (zaI H v39 0 a1).bind fun v43 =>
    if v43 = (7 : Int32) then (
      jJ_Mo_compare_49 fu a0 a1 a2 s0 H)
    else (
      jJ_Mo_compare_54 fu (0 : Int32) a0 a1 a2 s0 H))
def jJ_Mo_compare_22 (fu : Nat) (a0 : Option Nat) (a1 : Int32) (a2 : Int32) (H : zH) : Option zH :=
  jJ_Mo_compare_27 fu (1 : Int32) a0 a1 a2 H
def jF_Mo_compare (fu : Nat) (a0 : Option Nat) (a1 : Int32) (a2 : Int32) (H : zH) : Option zH :=
  (zok H a0 1).bind fun _ =>
  (zgR H a0 1 1).bind fun v1 =>
  (zaI H v1 0 a1).bind fun v5 =>
  if v5 = (6 : Int32) then (
    jJ_Mo_compare_22 fu a0 a1 a2 H)
  else (
    (zgR H a0 1 1).bind fun v12 =>
    (zaI H v12 0 a2).bind fun v16 =>
    if v16 = (6 : Int32) then (
      jJ_Mo_compare_22 fu a0 a1 a2 H)
    else (
      jJ_Mo_compare_27 fu (0 : Int32) a0 a1 a2 H))
theorem jj_Mo_compare_335 {E : zE} {d : Nat} (hd : 2 ≤ d) (fu : Nat) : ∀ (s0 : Int32) (s1 : Int32) (s2 : Option Nat) (H : zH), z_S E jM_Mo_compare d 0 0 zwV 335 [] [zI s0, zI s1, zR s2] H 0 0 (jJ_Mo_compare_335 fu s0 s1 s2 H) := by
  intro s0 s1 s2 H
  unfold jJ_Mo_compare_335
  refine zs_zast (t := 1) (pc := 335) d_Mo_compare_335 rfl fun H335 => ?_
  exact zs_vret (pc := 336) d_Mo_compare_336 rfl (Nat.le_of_ble_eq_true rfl) (Nat.le_of_ble_eq_true rfl) rfl
theorem jj_Mo_compare_334 {E : zE} {d : Nat} (hd : 2 ≤ d) (fu : Nat) : ∀ (s0 : Int32) (s1 : Option Nat) (H : zH), z_S E jM_Mo_compare d 0 0 zwV 334 [] [zI s0, zR s1] H 0 0 (jJ_Mo_compare_334 fu s0 s1 H) := by
  intro s0 s1 H
  unfold jJ_Mo_compare_334
  refine zs_iconst (pc := 334) (v := (0 : Int32)) d_Mo_compare_334 (by decide) ?_
  exact jj_Mo_compare_335 hd fu (0 : Int32) s0 s1 H
theorem jj_Mo_compare_312 {E : zE} {d : Nat} (hd : 2 ≤ d) (fu : Nat) : ∀ (s0 : Int32) (s1 : Option Nat) (H : zH), z_S E jM_Mo_compare d 0 0 zwV 312 [] [zI s0, zR s1] H 0 0 (jJ_Mo_compare_312 fu s0 s1 H) := by
  intro s0 s1 H
  unfold jJ_Mo_compare_312
  refine zs_iconst (pc := 312) (v := (0 : Int32)) d_Mo_compare_312 (by decide) ?_
  refine zs_goto (pc := 313) (tgt := 335) d_Mo_compare_313 rfl ?_
  exact jj_Mo_compare_335 hd fu (0 : Int32) s0 s1 H
theorem jj_Mo_compare_265 {E : zE} {d : Nat} (hd : 2 ≤ d) (fu : Nat) : ∀ (s0 : Int32) (s1 : Option Nat) (H : zH), z_S E jM_Mo_compare d 0 0 zwV 265 [] [zI s0, zR s1] H 0 0 (jJ_Mo_compare_265 fu s0 s1 H) := by
  intro s0 s1 H
  unfold jJ_Mo_compare_265
  refine zs_iconst (pc := 265) (v := (0 : Int32)) d_Mo_compare_265 (by decide) ?_
  refine zs_goto (pc := 266) (tgt := 335) d_Mo_compare_266 rfl ?_
  exact jj_Mo_compare_335 hd fu (0 : Int32) s0 s1 H
theorem jj_Mo_compare_201 {E : zE} {d : Nat} (hd : 2 ≤ d) (fu : Nat) : ∀ (s0 : Int32) (s1 : Int32) (s2 : Option Nat) (a0 : Option Nat) (a1 : Int32) (a2 : Int32) (a5 : Int32) (H : zH), z_S E jM_Mo_compare d 0 0 zwV 201 [(0, zR a0), (1, zI a1), (2, zI a2), (5, zI a5)] [zI s0, zI s1, zR s2] H 0 0 (jJ_Mo_compare_201 fu s0 s1 s2 a0 a1 a2 a5 H) := by
  intro s0 s1 s2 a0 a1 a2 a5 H
  unfold jJ_Mo_compare_201
  refine zs_zast (t := 1) (pc := 201) d_Mo_compare_201 rfl fun H201 => ?_
  refine zs_aload_n (pc := 202) (x := a0) d_Mo_compare_202 rfl ?_
  refine zs_getR (pc := 203) d_Mo_compare_203 kF_Mo_45 fun v203 => ?_
  refine zs_bipush (pc := 206) (v := (24 : Int32)) d_Mo_compare_206 (by decide) ?_
  refine zs_iload_n (pc := 208) (x := a1) d_Mo_compare_208 rfl ?_
  refine zs_imul (pc := 209) d_Mo_compare_209 ?_
  refine zs_iload_n (pc := 210) (x := a2) d_Mo_compare_210 rfl ?_
  refine zs_iadd (pc := 211) d_Mo_compare_211 ?_
  refine zs_aload_n (pc := 212) (x := a0) d_Mo_compare_212 rfl ?_
  refine zs_getR (pc := 213) d_Mo_compare_213 kF_Mo_7 fun v213 => ?_
  refine zs_iload_n (pc := 216) (x := a2) d_Mo_compare_216 rfl ?_
  refine zs_iald (t := 0) (pc := 217) d_Mo_compare_217 rfl fun v217 => ?_
  refine zs_bipush (pc := 218) (v := (6 : Int32)) d_Mo_compare_218 (by decide) ?_
  refine zs_icmp_ne (pc := 220) (tgt := 269) d_Mo_compare_220 rfl (fun q220 => ?_) (fun q220 => ?_)
  · refine zs_aload_n (pc := 269) (x := a0) d_Mo_compare_269 rfl ?_
    refine zs_getR (pc := 270) d_Mo_compare_270 kF_Mo_7 fun v270 => ?_
    refine zs_iload_n (pc := 273) (x := a1) d_Mo_compare_273 rfl ?_
    refine zs_iald (t := 0) (pc := 274) d_Mo_compare_274 rfl fun v274 => ?_
    refine zs_bipush (pc := 275) (v := (6 : Int32)) d_Mo_compare_275 (by decide) ?_
    refine zs_icmp_ne (pc := 277) (tgt := 316) d_Mo_compare_277 rfl (fun q277 => ?_) (fun q277 => ?_)
    · refine zs_iload (pc := 316) (x := a5) d_Mo_compare_316 rfl ?_
      refine zs_if_eq (pc := 318) (tgt := 334) d_Mo_compare_318 rfl (fun q318 => ?_) (fun q318 => ?_)
      · refine zs_sub (lv' := []) [] rfl ?_
        exact jj_Mo_compare_334 hd fu (((24 : Int32) * a1) + a2) v203 H201
      · refine zs_aload_n (pc := 321) (x := a0) d_Mo_compare_321 rfl ?_
        refine zs_iload_n (pc := 322) (x := a1) d_Mo_compare_322 rfl ?_
        refine zs_iload_n (pc := 323) (x := a2) d_Mo_compare_323 rfl ?_
        refine zs_callv_rI (pc := 324) (av := [zI a1, zI a2]) (st := [zI (((24 : Int32) * a1) + a2), zR v203]) (d' := 1) (C' := 0) (S' := 0) d_Mo_compare_324 kV_Mo_117 z_okb (jm_Mo_inside (d := 1) (Nat.le_refl _) fu a0 a1 a2 H201) (by omega) (Nat.le_of_ble_eq_true rfl) (Nat.le_of_ble_eq_true rfl) rfl rfl (Nat.le_of_ble_eq_true rfl) fun y324 => ?_
        refine zs_if_eq (pc := 327) (tgt := 334) d_Mo_compare_327 rfl (fun q327 => ?_) (fun q327 => ?_)
        · refine zs_sub (lv' := []) [] rfl ?_
          exact jj_Mo_compare_334 hd fu (((24 : Int32) * a1) + a2) v203 H201
        · refine zs_iconst (pc := 330) (v := (1 : Int32)) d_Mo_compare_330 (by decide) ?_
          refine zs_goto (pc := 331) (tgt := 335) d_Mo_compare_331 rfl ?_
          refine zs_sub (lv' := []) [] rfl ?_
          exact jj_Mo_compare_335 hd fu (1 : Int32) (((24 : Int32) * a1) + a2) v203 H201
    · refine zs_aload_n (pc := 280) (x := a0) d_Mo_compare_280 rfl ?_
      refine zs_iload_n (pc := 281) (x := a1) d_Mo_compare_281 rfl ?_
      refine zs_iload_n (pc := 282) (x := a2) d_Mo_compare_282 rfl ?_
      refine zs_callv_rI (pc := 283) (av := [zI a1, zI a2]) (st := [zI (((24 : Int32) * a1) + a2), zR v203]) (d' := 0) (C' := 0) (S' := 0) d_Mo_compare_283 kV_Mo_110 z_okb (jm_Mo_branch (d := 0) (Nat.le_refl _) a0 a1 a2 H201) (by omega) (Nat.le_of_ble_eq_true rfl) (Nat.le_of_ble_eq_true rfl) rfl rfl (Nat.le_of_ble_eq_true rfl) fun y283 => ?_
      refine zs_if_lt (pc := 286) (tgt := 312) d_Mo_compare_286 rfl (fun q286 => ?_) (fun q286 => ?_)
      · refine zs_sub (lv' := []) [] rfl ?_
        exact jj_Mo_compare_312 hd fu (((24 : Int32) * a1) + a2) v203 H201
      · refine zs_aload_n (pc := 289) (x := a0) d_Mo_compare_289 rfl ?_
        refine zs_getR (pc := 290) d_Mo_compare_290 kF_Mo_45 fun v290 => ?_
        refine zs_bipush (pc := 293) (v := (24 : Int32)) d_Mo_compare_293 (by decide) ?_
        refine zs_aload_n (pc := 295) (x := a0) d_Mo_compare_295 rfl ?_
        refine zs_iload_n (pc := 296) (x := a1) d_Mo_compare_296 rfl ?_
        refine zs_iload_n (pc := 297) (x := a2) d_Mo_compare_297 rfl ?_
        refine zs_callv_rI (pc := 298) (av := [zI a1, zI a2]) (st := [zI (24 : Int32), zR v290, zI (((24 : Int32) * a1) + a2), zR v203]) (d' := 1) (C' := 0) (S' := 0) d_Mo_compare_298 kV_Mo_114 z_okb (jm_Mo_branchSchema (d := 1) (Nat.le_refl _) a0 a1 a2 H201) (by omega) (Nat.le_of_ble_eq_true rfl) (Nat.le_of_ble_eq_true rfl) rfl rfl (Nat.le_of_ble_eq_true rfl) fun y298 => ?_
        refine zs_imul (pc := 301) d_Mo_compare_301 ?_
        refine zs_iload_n (pc := 302) (x := a2) d_Mo_compare_302 rfl ?_
        refine zs_iadd (pc := 303) d_Mo_compare_303 ?_
        refine zs_zald (t := 1) (pc := 304) d_Mo_compare_304 rfl fun v304 => ?_
        refine zs_if_eq (pc := 305) (tgt := 312) d_Mo_compare_305 rfl (fun q305 => ?_) (fun q305 => ?_)
        · refine zs_sub (lv' := []) [] rfl ?_
          exact jj_Mo_compare_312 hd fu (((24 : Int32) * a1) + a2) v203 H201
        · refine zs_iconst (pc := 308) (v := (1 : Int32)) d_Mo_compare_308 (by decide) ?_
          refine zs_goto (pc := 309) (tgt := 335) d_Mo_compare_309 rfl ?_
          refine zs_sub (lv' := []) [] rfl ?_
          exact jj_Mo_compare_335 hd fu (1 : Int32) (((24 : Int32) * a1) + a2) v203 H201
  · refine zs_aload_n (pc := 223) (x := a0) d_Mo_compare_223 rfl ?_
    refine zs_getR (pc := 224) d_Mo_compare_224 kF_Mo_45 fun v224 => ?_
    refine zs_bipush (pc := 227) (v := (24 : Int32)) d_Mo_compare_227 (by decide) ?_
    refine zs_iload_n (pc := 229) (x := a1) d_Mo_compare_229 rfl ?_
    refine zs_imul (pc := 230) d_Mo_compare_230 ?_
    refine zs_aload_n (pc := 231) (x := a0) d_Mo_compare_231 rfl ?_
    refine zs_getR (pc := 232) d_Mo_compare_232 kF_Mo_16 fun v232 => ?_
    refine zs_iload_n (pc := 235) (x := a2) d_Mo_compare_235 rfl ?_
    refine zs_iald (t := 0) (pc := 236) d_Mo_compare_236 rfl fun v236 => ?_
    refine zs_iadd (pc := 237) d_Mo_compare_237 ?_
    refine zs_zald (t := 1) (pc := 238) d_Mo_compare_238 rfl fun v238 => ?_
    refine zs_if_eq (pc := 239) (tgt := 265) d_Mo_compare_239 rfl (fun q239 => ?_) (fun q239 => ?_)
    · refine zs_sub (lv' := []) [] rfl ?_
      exact jj_Mo_compare_265 hd fu (((24 : Int32) * a1) + a2) v203 H201
    · refine zs_aload_n (pc := 242) (x := a0) d_Mo_compare_242 rfl ?_
      refine zs_getR (pc := 243) d_Mo_compare_243 kF_Mo_45 fun v243 => ?_
      refine zs_bipush (pc := 246) (v := (24 : Int32)) d_Mo_compare_246 (by decide) ?_
      refine zs_iload_n (pc := 248) (x := a1) d_Mo_compare_248 rfl ?_
      refine zs_imul (pc := 249) d_Mo_compare_249 ?_
      refine zs_aload_n (pc := 250) (x := a0) d_Mo_compare_250 rfl ?_
      refine zs_getR (pc := 251) d_Mo_compare_251 kF_Mo_19 fun v251 => ?_
      refine zs_iload_n (pc := 254) (x := a2) d_Mo_compare_254 rfl ?_
      refine zs_iald (t := 0) (pc := 255) d_Mo_compare_255 rfl fun v255 => ?_
      refine zs_iadd (pc := 256) d_Mo_compare_256 ?_
      refine zs_zald (t := 1) (pc := 257) d_Mo_compare_257 rfl fun v257 => ?_
      refine zs_if_eq (pc := 258) (tgt := 265) d_Mo_compare_258 rfl (fun q258 => ?_) (fun q258 => ?_)
      · refine zs_sub (lv' := []) [] rfl ?_
        exact jj_Mo_compare_265 hd fu (((24 : Int32) * a1) + a2) v203 H201
      · refine zs_iconst (pc := 261) (v := (1 : Int32)) d_Mo_compare_261 (by decide) ?_
        refine zs_goto (pc := 262) (tgt := 335) d_Mo_compare_262 rfl ?_
        refine zs_sub (lv' := []) [] rfl ?_
        exact jj_Mo_compare_335 hd fu (1 : Int32) (((24 : Int32) * a1) + a2) v203 H201
theorem jj_Mo_compare_196 {E : zE} {d : Nat} (hd : 2 ≤ d) (fu : Nat) : ∀ (s0 : Int32) (s1 : Option Nat) (a0 : Option Nat) (a1 : Int32) (a2 : Int32) (a5 : Int32) (H : zH), z_S E jM_Mo_compare d 0 0 zwV 196 [(0, zR a0), (1, zI a1), (2, zI a2), (5, zI a5)] [zI s0, zR s1] H 0 0 (jJ_Mo_compare_196 fu s0 s1 a0 a1 a2 a5 H) := by
  intro s0 s1 a0 a1 a2 a5 H
  unfold jJ_Mo_compare_196
  refine zs_iconst (pc := 196) (v := (1 : Int32)) d_Mo_compare_196 (by decide) ?_
  refine zs_goto (pc := 197) (tgt := 201) d_Mo_compare_197 rfl ?_
  exact jj_Mo_compare_201 hd fu (1 : Int32) s0 s1 a0 a1 a2 a5 H
theorem jj_Mo_compare_200 {E : zE} {d : Nat} (hd : 2 ≤ d) (fu : Nat) : ∀ (s0 : Int32) (s1 : Option Nat) (a0 : Option Nat) (a1 : Int32) (a2 : Int32) (a5 : Int32) (H : zH), z_S E jM_Mo_compare d 0 0 zwV 200 [(0, zR a0), (1, zI a1), (2, zI a2), (5, zI a5)] [zI s0, zR s1] H 0 0 (jJ_Mo_compare_200 fu s0 s1 a0 a1 a2 a5 H) := by
  intro s0 s1 a0 a1 a2 a5 H
  unfold jJ_Mo_compare_200
  refine zs_iconst (pc := 200) (v := (0 : Int32)) d_Mo_compare_200 (by decide) ?_
  exact jj_Mo_compare_201 hd fu (0 : Int32) s0 s1 a0 a1 a2 a5 H
theorem jj_Mo_compare_170 {E : zE} {d : Nat} (hd : 2 ≤ d) (fu : Nat) : ∀ (s0 : Int32) (a0 : Option Nat) (a1 : Int32) (a2 : Int32) (a3 : Int32) (a5 : Int32) (H : zH), z_S E jM_Mo_compare d 0 0 zwV 170 [(0, zR a0), (1, zI a1), (2, zI a2), (3, zI a3), (5, zI a5)] [zI s0] H 0 0 (jJ_Mo_compare_170 fu s0 a0 a1 a2 a3 a5 H) := by
  intro s0 a0 a1 a2 a3 a5 H
  unfold jJ_Mo_compare_170
  refine zs_istore (pc := 170) (lv' := [(6, zI s0), (0, zR a0), (1, zI a1), (2, zI a2), (3, zI a3), (5, zI a5)]) d_Mo_compare_170 (Nat.le_of_ble_eq_true rfl) rfl ?_
  refine zs_aload_n (pc := 172) (x := a0) d_Mo_compare_172 rfl ?_
  refine zs_getR (pc := 173) d_Mo_compare_173 kF_Mo_42 fun v173 => ?_
  refine zs_bipush (pc := 176) (v := (24 : Int32)) d_Mo_compare_176 (by decide) ?_
  refine zs_iload_n (pc := 178) (x := a1) d_Mo_compare_178 rfl ?_
  refine zs_imul (pc := 179) d_Mo_compare_179 ?_
  refine zs_iload_n (pc := 180) (x := a2) d_Mo_compare_180 rfl ?_
  refine zs_iadd (pc := 181) d_Mo_compare_181 ?_
  refine zs_iload_n (pc := 182) (x := a3) d_Mo_compare_182 rfl ?_
  refine zs_if_ne (pc := 183) (tgt := 196) d_Mo_compare_183 rfl (fun q183 => ?_) (fun q183 => ?_)
  · refine zs_sub (lv' := [(0, zR a0), (1, zI a1), (2, zI a2), (5, zI a5)]) [1, 2, 3, 5] rfl ?_
    exact jj_Mo_compare_196 hd fu (((24 : Int32) * a1) + a2) v173 a0 a1 a2 a5 H
  · refine zs_iload (pc := 186) (x := a5) d_Mo_compare_186 rfl ?_
    refine zs_if_eq (pc := 188) (tgt := 200) d_Mo_compare_188 rfl (fun q188 => ?_) (fun q188 => ?_)
    · refine zs_sub (lv' := [(0, zR a0), (1, zI a1), (2, zI a2), (5, zI a5)]) [1, 2, 3, 5] rfl ?_
      exact jj_Mo_compare_200 hd fu (((24 : Int32) * a1) + a2) v173 a0 a1 a2 a5 H
    · refine zs_iload (pc := 191) (x := s0) d_Mo_compare_191 rfl ?_
      refine zs_if_eq (pc := 193) (tgt := 200) d_Mo_compare_193 rfl (fun q193 => ?_) (fun q193 => ?_)
      · refine zs_sub (lv' := [(0, zR a0), (1, zI a1), (2, zI a2), (5, zI a5)]) [1, 2, 3, 5] rfl ?_
        exact jj_Mo_compare_200 hd fu (((24 : Int32) * a1) + a2) v173 a0 a1 a2 a5 H
      · refine zs_sub (lv' := [(0, zR a0), (1, zI a1), (2, zI a2), (5, zI a5)]) [1, 2, 3, 5] rfl ?_
        exact jj_Mo_compare_196 hd fu (((24 : Int32) * a1) + a2) v173 a0 a1 a2 a5 H
theorem jj_Mo_compare_165 {E : zE} {d : Nat} (hd : 2 ≤ d) (fu : Nat) : ∀ (a0 : Option Nat) (a1 : Int32) (a2 : Int32) (a3 : Int32) (a5 : Int32) (H : zH), z_S E jM_Mo_compare d 0 0 zwV 165 [(0, zR a0), (1, zI a1), (2, zI a2), (3, zI a3), (5, zI a5)] [] H 0 0 (jJ_Mo_compare_165 fu a0 a1 a2 a3 a5 H) := by
  intro a0 a1 a2 a3 a5 H
  unfold jJ_Mo_compare_165
  refine zs_iconst (pc := 165) (v := (1 : Int32)) d_Mo_compare_165 (by decide) ?_
  refine zs_goto (pc := 166) (tgt := 170) d_Mo_compare_166 rfl ?_
  exact jj_Mo_compare_170 hd fu (1 : Int32) a0 a1 a2 a3 a5 H
theorem jj_Mo_compare_124 {E : zE} {d : Nat} (hd : 2 ≤ d) (fu : Nat) : ∀ (s0 : Int32) (a0 : Option Nat) (a1 : Int32) (a2 : Int32) (a3 : Int32) (H : zH), z_S E jM_Mo_compare d 0 0 zwV 124 [(0, zR a0), (1, zI a1), (2, zI a2), (3, zI a3)] [zI s0] H 0 0 (jJ_Mo_compare_124 fu s0 a0 a1 a2 a3 H) := by
  intro s0 a0 a1 a2 a3 H
  unfold jJ_Mo_compare_124
  refine zs_istore (pc := 124) (lv' := [(5, zI s0), (0, zR a0), (1, zI a1), (2, zI a2), (3, zI a3)]) d_Mo_compare_124 (Nat.le_of_ble_eq_true rfl) rfl ?_
  refine zs_aload_n (pc := 126) (x := a0) d_Mo_compare_126 rfl ?_
  refine zs_getR (pc := 127) d_Mo_compare_127 kF_Mo_7 fun v127 => ?_
  refine zs_iload_n (pc := 130) (x := a1) d_Mo_compare_130 rfl ?_
  refine zs_iald (t := 0) (pc := 131) d_Mo_compare_131 rfl fun v131 => ?_
  refine zs_iconst (pc := 132) (v := (5 : Int32)) d_Mo_compare_132 (by decide) ?_
  refine zs_icmp_ne (pc := 133) (tgt := 165) d_Mo_compare_133 rfl (fun q133 => ?_) (fun q133 => ?_)
  · refine zs_sub (lv' := [(0, zR a0), (1, zI a1), (2, zI a2), (3, zI a3), (5, zI s0)]) [1, 2, 3, 4, 0] rfl ?_
    exact jj_Mo_compare_165 hd fu a0 a1 a2 a3 s0 H
  · refine zs_iload (pc := 136) (x := s0) d_Mo_compare_136 rfl ?_
    refine zs_if_eq (pc := 138) (tgt := 165) d_Mo_compare_138 rfl (fun q138 => ?_) (fun q138 => ?_)
    · refine zs_sub (lv' := [(0, zR a0), (1, zI a1), (2, zI a2), (3, zI a3), (5, zI s0)]) [1, 2, 3, 4, 0] rfl ?_
      exact jj_Mo_compare_165 hd fu a0 a1 a2 a3 s0 H
    · refine zs_aload_n (pc := 141) (x := a0) d_Mo_compare_141 rfl ?_
      refine zs_getR (pc := 142) d_Mo_compare_142 kF_Mo_42 fun v142 => ?_
      refine zs_bipush (pc := 145) (v := (24 : Int32)) d_Mo_compare_145 (by decide) ?_
      refine zs_aload_n (pc := 147) (x := a0) d_Mo_compare_147 rfl ?_
      refine zs_getR (pc := 148) d_Mo_compare_148 kF_Mo_16 fun v148 => ?_
      refine zs_iload_n (pc := 151) (x := a1) d_Mo_compare_151 rfl ?_
      refine zs_iald (t := 0) (pc := 152) d_Mo_compare_152 rfl fun v152 => ?_
      refine zs_imul (pc := 153) d_Mo_compare_153 ?_
      refine zs_aload_n (pc := 154) (x := a0) d_Mo_compare_154 rfl ?_
      refine zs_getR (pc := 155) d_Mo_compare_155 kF_Mo_16 fun v155 => ?_
      refine zs_iload_n (pc := 158) (x := a2) d_Mo_compare_158 rfl ?_
      refine zs_iald (t := 0) (pc := 159) d_Mo_compare_159 rfl fun v159 => ?_
      refine zs_iadd (pc := 160) d_Mo_compare_160 ?_
      refine zs_zald (t := 1) (pc := 161) d_Mo_compare_161 rfl fun v161 => ?_
      refine zs_if_eq (pc := 162) (tgt := 169) d_Mo_compare_162 rfl (fun q162 => ?_) (fun q162 => ?_)
      · refine zs_iconst (pc := 169) (v := (0 : Int32)) d_Mo_compare_169 (by decide) ?_
        refine zs_sub (lv' := [(0, zR a0), (1, zI a1), (2, zI a2), (3, zI a3), (5, zI s0)]) [1, 2, 3, 4, 0] rfl ?_
        exact jj_Mo_compare_170 hd fu (0 : Int32) a0 a1 a2 a3 s0 H
      · refine zs_sub (lv' := [(0, zR a0), (1, zI a1), (2, zI a2), (3, zI a3), (5, zI s0)]) [1, 2, 3, 4, 0] rfl ?_
        exact jj_Mo_compare_165 hd fu a0 a1 a2 a3 s0 H
theorem jj_Mo_compare_123 {E : zE} {d : Nat} (hd : 2 ≤ d) (fu : Nat) : ∀ (a0 : Option Nat) (a1 : Int32) (a2 : Int32) (a3 : Int32) (H : zH), z_S E jM_Mo_compare d 0 0 zwV 123 [(0, zR a0), (1, zI a1), (2, zI a2), (3, zI a3)] [] H 0 0 (jJ_Mo_compare_123 fu a0 a1 a2 a3 H) := by
  intro a0 a1 a2 a3 H
  unfold jJ_Mo_compare_123
  refine zs_iconst (pc := 123) (v := (0 : Int32)) d_Mo_compare_123 (by decide) ?_
  exact jj_Mo_compare_124 hd fu (0 : Int32) a0 a1 a2 a3 H
theorem jj_Mo_compare_91 {E : zE} {d : Nat} (hd : 2 ≤ d) (fu : Nat) : ∀ (a0 : Option Nat) (a1 : Int32) (a2 : Int32) (a3 : Int32) (H : zH), z_S E jM_Mo_compare d 0 0 zwV 91 [(0, zR a0), (1, zI a1), (2, zI a2), (3, zI a3)] [] H 0 0 (jJ_Mo_compare_91 fu a0 a1 a2 a3 H) := by
  intro a0 a1 a2 a3 H
  unfold jJ_Mo_compare_91
  refine zs_iconst (pc := 91) (v := (1 : Int32)) d_Mo_compare_91 (by decide) ?_
  refine zs_goto (pc := 92) (tgt := 124) d_Mo_compare_92 rfl ?_
  exact jj_Mo_compare_124 hd fu (1 : Int32) a0 a1 a2 a3 H
theorem jj_Mo_compare_54 {E : zE} {d : Nat} (hd : 2 ≤ d) (fu : Nat) : ∀ (s0 : Int32) (a0 : Option Nat) (a1 : Int32) (a2 : Int32) (a3 : Int32) (H : zH), z_S E jM_Mo_compare d 0 0 zwV 54 [(0, zR a0), (1, zI a1), (2, zI a2), (3, zI a3)] [zI s0] H 0 0 (jJ_Mo_compare_54 fu s0 a0 a1 a2 a3 H) := by
  intro s0 a0 a1 a2 a3 H
  unfold jJ_Mo_compare_54
  refine zs_istore (pc := 54) (lv' := [(4, zI s0), (0, zR a0), (1, zI a1), (2, zI a2), (3, zI a3)]) d_Mo_compare_54 (Nat.le_of_ble_eq_true rfl) rfl ?_
  refine zs_aload_n (pc := 56) (x := a0) d_Mo_compare_56 rfl ?_
  refine zs_getR (pc := 57) d_Mo_compare_57 kF_Mo_7 fun v57 => ?_
  refine zs_iload_n (pc := 60) (x := a1) d_Mo_compare_60 rfl ?_
  refine zs_iald (t := 0) (pc := 61) d_Mo_compare_61 rfl fun v61 => ?_
  refine zs_aload_n (pc := 62) (x := a0) d_Mo_compare_62 rfl ?_
  refine zs_getR (pc := 63) d_Mo_compare_63 kF_Mo_7 fun v63 => ?_
  refine zs_iload_n (pc := 66) (x := a2) d_Mo_compare_66 rfl ?_
  refine zs_iald (t := 0) (pc := 67) d_Mo_compare_67 rfl fun v67 => ?_
  refine zs_icmp_ne (pc := 68) (tgt := 99) d_Mo_compare_68 rfl (fun q68 => ?_) (fun q68 => ?_)
  · refine zs_aload_n (pc := 99) (x := a0) d_Mo_compare_99 rfl ?_
    refine zs_getR (pc := 100) d_Mo_compare_100 kF_Mo_7 fun v100 => ?_
    refine zs_iload_n (pc := 103) (x := a1) d_Mo_compare_103 rfl ?_
    refine zs_iald (t := 0) (pc := 104) d_Mo_compare_104 rfl fun v104 => ?_
    refine zs_iconst (pc := 105) (v := (3 : Int32)) d_Mo_compare_105 (by decide) ?_
    refine zs_icmp_ne (pc := 106) (tgt := 123) d_Mo_compare_106 rfl (fun q106 => ?_) (fun q106 => ?_)
    · refine zs_sub (lv' := [(0, zR a0), (1, zI a1), (2, zI a2), (3, zI a3)]) [1, 2, 3, 4] rfl ?_
      exact jj_Mo_compare_123 hd fu a0 a1 a2 a3 H
    · refine zs_aload_n (pc := 109) (x := a0) d_Mo_compare_109 rfl ?_
      refine zs_getR (pc := 110) d_Mo_compare_110 kF_Mo_7 fun v110 => ?_
      refine zs_iload_n (pc := 113) (x := a2) d_Mo_compare_113 rfl ?_
      refine zs_iald (t := 0) (pc := 114) d_Mo_compare_114 rfl fun v114 => ?_
      refine zs_iconst (pc := 115) (v := (2 : Int32)) d_Mo_compare_115 (by decide) ?_
      refine zs_icmp_ne (pc := 116) (tgt := 123) d_Mo_compare_116 rfl (fun q116 => ?_) (fun q116 => ?_)
      · refine zs_sub (lv' := [(0, zR a0), (1, zI a1), (2, zI a2), (3, zI a3)]) [1, 2, 3, 4] rfl ?_
        exact jj_Mo_compare_123 hd fu a0 a1 a2 a3 H
      · refine zs_iconst (pc := 119) (v := (1 : Int32)) d_Mo_compare_119 (by decide) ?_
        refine zs_goto (pc := 120) (tgt := 124) d_Mo_compare_120 rfl ?_
        refine zs_sub (lv' := [(0, zR a0), (1, zI a1), (2, zI a2), (3, zI a3)]) [1, 2, 3, 4] rfl ?_
        exact jj_Mo_compare_124 hd fu (1 : Int32) a0 a1 a2 a3 H
  · refine zs_iload (pc := 71) (x := s0) d_Mo_compare_71 rfl ?_
    refine zs_if_eq (pc := 73) (tgt := 91) d_Mo_compare_73 rfl (fun q73 => ?_) (fun q73 => ?_)
    · refine zs_sub (lv' := [(0, zR a0), (1, zI a1), (2, zI a2), (3, zI a3)]) [1, 2, 3, 4] rfl ?_
      exact jj_Mo_compare_91 hd fu a0 a1 a2 a3 H
    · refine zs_aload_n (pc := 76) (x := a0) d_Mo_compare_76 rfl ?_
      refine zs_getR (pc := 77) d_Mo_compare_77 kF_Mo_13 fun v77 => ?_
      refine zs_iload_n (pc := 80) (x := a1) d_Mo_compare_80 rfl ?_
      refine zs_iald (t := 0) (pc := 81) d_Mo_compare_81 rfl fun v81 => ?_
      refine zs_aload_n (pc := 82) (x := a0) d_Mo_compare_82 rfl ?_
      refine zs_getR (pc := 83) d_Mo_compare_83 kF_Mo_13 fun v83 => ?_
      refine zs_iload_n (pc := 86) (x := a2) d_Mo_compare_86 rfl ?_
      refine zs_iald (t := 0) (pc := 87) d_Mo_compare_87 rfl fun v87 => ?_
      refine zs_icmp_ne (pc := 88) (tgt := 95) d_Mo_compare_88 rfl (fun q88 => ?_) (fun q88 => ?_)
      · refine zs_iconst (pc := 95) (v := (0 : Int32)) d_Mo_compare_95 (by decide) ?_
        refine zs_goto (pc := 96) (tgt := 124) d_Mo_compare_96 rfl ?_
        refine zs_sub (lv' := [(0, zR a0), (1, zI a1), (2, zI a2), (3, zI a3)]) [1, 2, 3, 4] rfl ?_
        exact jj_Mo_compare_124 hd fu (0 : Int32) a0 a1 a2 a3 H
      · refine zs_sub (lv' := [(0, zR a0), (1, zI a1), (2, zI a2), (3, zI a3)]) [1, 2, 3, 4] rfl ?_
        exact jj_Mo_compare_91 hd fu a0 a1 a2 a3 H
theorem jj_Mo_compare_49 {E : zE} {d : Nat} (hd : 2 ≤ d) (fu : Nat) : ∀ (a0 : Option Nat) (a1 : Int32) (a2 : Int32) (a3 : Int32) (H : zH), z_S E jM_Mo_compare d 0 0 zwV 49 [(0, zR a0), (1, zI a1), (2, zI a2), (3, zI a3)] [] H 0 0 (jJ_Mo_compare_49 fu a0 a1 a2 a3 H) := by
  intro a0 a1 a2 a3 H
  unfold jJ_Mo_compare_49
  refine zs_iconst (pc := 49) (v := (1 : Int32)) d_Mo_compare_49 (by decide) ?_
  refine zs_goto (pc := 50) (tgt := 54) d_Mo_compare_50 rfl ?_
  exact jj_Mo_compare_54 hd fu (1 : Int32) a0 a1 a2 a3 H
theorem jj_Mo_compare_27 {E : zE} {d : Nat} (hd : 2 ≤ d) (fu : Nat) : ∀ (s0 : Int32) (a0 : Option Nat) (a1 : Int32) (a2 : Int32) (H : zH), z_S E jM_Mo_compare d 0 0 zwV 27 [(0, zR a0), (1, zI a1), (2, zI a2)] [zI s0] H 0 0 (jJ_Mo_compare_27 fu s0 a0 a1 a2 H) := by
  intro s0 a0 a1 a2 H
  unfold jJ_Mo_compare_27
  refine zs_istore_n (pc := 27) (lv' := [(3, zI s0), (0, zR a0), (1, zI a1), (2, zI a2)]) d_Mo_compare_27 (Nat.le_of_ble_eq_true rfl) rfl ?_
  refine zs_aload_n (pc := 28) (x := a0) d_Mo_compare_28 rfl ?_
  refine zs_getR (pc := 29) d_Mo_compare_29 kF_Mo_7 fun v29 => ?_
  refine zs_iload_n (pc := 32) (x := a1) d_Mo_compare_32 rfl ?_
  refine zs_iald (t := 0) (pc := 33) d_Mo_compare_33 rfl fun v33 => ?_
  refine zs_iconst (pc := 34) (v := (4 : Int32)) d_Mo_compare_34 (by decide) ?_
  refine zs_icmp_eq (pc := 35) (tgt := 49) d_Mo_compare_35 rfl (fun q35 => ?_) (fun q35 => ?_)
  · refine zs_sub (lv' := [(0, zR a0), (1, zI a1), (2, zI a2), (3, zI s0)]) [1, 2, 3, 0] rfl ?_
    exact jj_Mo_compare_49 hd fu a0 a1 a2 s0 H
  · refine zs_aload_n (pc := 38) (x := a0) d_Mo_compare_38 rfl ?_
    refine zs_getR (pc := 39) d_Mo_compare_39 kF_Mo_7 fun v39 => ?_
    refine zs_iload_n (pc := 42) (x := a1) d_Mo_compare_42 rfl ?_
    refine zs_iald (t := 0) (pc := 43) d_Mo_compare_43 rfl fun v43 => ?_
    refine zs_bipush (pc := 44) (v := (7 : Int32)) d_Mo_compare_44 (by decide) ?_
    refine zs_icmp_ne (pc := 46) (tgt := 53) d_Mo_compare_46 rfl (fun q46 => ?_) (fun q46 => ?_)
    · refine zs_iconst (pc := 53) (v := (0 : Int32)) d_Mo_compare_53 (by decide) ?_
      refine zs_sub (lv' := [(0, zR a0), (1, zI a1), (2, zI a2), (3, zI s0)]) [1, 2, 3, 0] rfl ?_
      exact jj_Mo_compare_54 hd fu (0 : Int32) a0 a1 a2 s0 H
    · refine zs_sub (lv' := [(0, zR a0), (1, zI a1), (2, zI a2), (3, zI s0)]) [1, 2, 3, 0] rfl ?_
      exact jj_Mo_compare_49 hd fu a0 a1 a2 s0 H
theorem jj_Mo_compare_22 {E : zE} {d : Nat} (hd : 2 ≤ d) (fu : Nat) : ∀ (a0 : Option Nat) (a1 : Int32) (a2 : Int32) (H : zH), z_S E jM_Mo_compare d 0 0 zwV 22 [(0, zR a0), (1, zI a1), (2, zI a2)] [] H 0 0 (jJ_Mo_compare_22 fu a0 a1 a2 H) := by
  intro a0 a1 a2 H
  unfold jJ_Mo_compare_22
  refine zs_iconst (pc := 22) (v := (1 : Int32)) d_Mo_compare_22 (by decide) ?_
  refine zs_goto (pc := 23) (tgt := 27) d_Mo_compare_23 rfl ?_
  exact jj_Mo_compare_27 hd fu (1 : Int32) a0 a1 a2 H
theorem jm_Mo_compare {E : zE} {d : Nat} (hd : 2 ≤ d) (fu : Nat) (a0 : Option Nat) (a1 : Int32) (a2 : Int32) (H : zH) : z_MS E jM_Mo_compare d 0 0 zwV [zR a0, zI a1, zI a2] H (jF_Mo_compare fu a0 a1 a2 H) := by
  refine zs_of (lv0 := [(0, zR a0), (1, zI a1), (2, zI a2)]) pn_Mo (Nat.le_of_ble_eq_true rfl) rfl ?_
  unfold jF_Mo_compare
  refine zs_bind fun _ _ => ?_
  refine zs_aload_n (pc := 0) (x := a0) d_Mo_compare_0 rfl ?_
  refine zs_getR (pc := 1) d_Mo_compare_1 kF_Mo_7 fun v1 => ?_
  refine zs_iload_n (pc := 4) (x := a1) d_Mo_compare_4 rfl ?_
  refine zs_iald (t := 0) (pc := 5) d_Mo_compare_5 rfl fun v5 => ?_
  refine zs_bipush (pc := 6) (v := (6 : Int32)) d_Mo_compare_6 (by decide) ?_
  refine zs_icmp_eq (pc := 8) (tgt := 22) d_Mo_compare_8 rfl (fun q8 => ?_) (fun q8 => ?_)
  · exact jj_Mo_compare_22 hd fu a0 a1 a2 H
  · refine zs_aload_n (pc := 11) (x := a0) d_Mo_compare_11 rfl ?_
    refine zs_getR (pc := 12) d_Mo_compare_12 kF_Mo_7 fun v12 => ?_
    refine zs_iload_n (pc := 15) (x := a2) d_Mo_compare_15 rfl ?_
    refine zs_iald (t := 0) (pc := 16) d_Mo_compare_16 rfl fun v16 => ?_
    refine zs_bipush (pc := 17) (v := (6 : Int32)) d_Mo_compare_17 (by decide) ?_
    refine zs_icmp_ne (pc := 19) (tgt := 26) d_Mo_compare_19 rfl (fun q19 => ?_) (fun q19 => ?_)
    · refine zs_iconst (pc := 26) (v := (0 : Int32)) d_Mo_compare_26 (by decide) ?_
      exact jj_Mo_compare_27 hd fu (0 : Int32) a0 a1 a2 H
    · exact jj_Mo_compare_22 hd fu a0 a1 a2 H
def jL_Mo_make_445 (fu : Nat) : Nat → Option Nat → Int32 → Int32 → zH → Option (Int32 × zH)
  | 0, _, _, _, _ => none
  | g + 1, a0, a6, a7, H =>
    if a6 < a7 then (
      some (a6, H))
    else (
      (jF_Mo_compare fu a0 a6 a7 H).bind fun y457 =>
      jL_Mo_make_445 fu g a0 a6 (a7 + (1 : Int32)) y457)
def jL_Mo_make_421 (fu : Nat) : Nat → Option Nat → Int32 → Int32 → zH → Option (Int32 × zH)
  | 0, _, _, _, _ => none
  | g + 1, a0, a6, a7, H =>
    if a6 ≤ a7 then (
      jL_Mo_make_445 fu fu a0 a6 (0 : Int32) H)
    else (
      (jF_Mo_compare fu a0 a7 a6 H).bind fun y433 =>
      jL_Mo_make_421 fu g a0 a6 (a7 + (1 : Int32)) y433)
def jJ_Mo_make_415 (fu : Nat) (s0 : Int32) (s1 : Option Nat) (a0 : Option Nat) (a6 : Int32) (H : zH) : Option (Int32 × zH) :=
  (zpV H s1 1 13 (zI s0)).bind fun H415 =>
  jL_Mo_make_421 fu fu a0 a6 (0 : Int32) H415
def jL_Mo_make_294 (fu : Nat) : Nat → Option Nat → Int32 → Int32 → Int32 → zH → Option (Int32 × zH)
  | 0, _, _, _, _, _ => none
  | g + 1, a0, a1, a6, a7, H =>
    (zgR H a0 1 6).bind fun v297 =>
    (zaI H v297 0 a6).bind fun v302 =>
    if v302 ≤ a7 then (
      if a1 = (7 : Int32) then (
        jJ_Mo_make_415 fu (0 : Int32) a0 a0 a6 H)
      else (
        (zgI H a0 1 13).bind fun v412 =>
        jJ_Mo_make_415 fu v412 a0 a0 a6 H))
    else (
      (zgR H a0 1 7).bind fun v307 =>
      (zgR H a0 1 7).bind fun v318 =>
      (zaI H v318 0 ((72 : Int32) + a7)).bind fun v326 =>
      (zsI H v307 0 (((3 : Int32) * a6) + a7) v326).bind fun H327 =>
      (zgR H327 a0 1 8).bind fun v329 =>
      (zgR H327 a0 1 8).bind fun v340 =>
      (zaI H327 v340 0 ((72 : Int32) + a7)).bind fun v348 =>
      (zsI H327 v329 0 (((3 : Int32) * a6) + a7) v348).bind fun H349 =>
      (zgR H349 a0 1 9).bind fun v351 =>
      (zgR H349 a0 1 9).bind fun v362 =>
      (zaI H349 v362 1 ((72 : Int32) + a7)).bind fun v370 =>
      (zsZ H349 v351 1 (((3 : Int32) * a6) + a7) v370).bind fun H371 =>
      (zgR H371 a0 1 10).bind fun v373 =>
      (zgR H371 a0 1 10).bind fun v384 =>
      (zaL H371 v384 2 ((72 : Int32) + a7)).bind fun v392 =>
      (zsL H371 v373 2 (((3 : Int32) * a6) + a7) v392).bind fun H393 =>
      jL_Mo_make_294 fu g a0 a1 a6 (a7 + (1 : Int32)) H393)
def jJ_Mo_make_290 (fu : Nat) (s0 : Int32) (s1 : Int32) (s2 : Option Nat) (a0 : Option Nat) (a1 : Int32) (a6 : Int32) (H : zH) : Option (Int32 × zH) :=
  (zsI H s2 0 s1 s0).bind fun H290 =>
  jL_Mo_make_294 fu fu a0 a1 a6 (0 : Int32) H290
def jJ_Mo_make_201 (fu : Nat) (a0 : Option Nat) (a1 : Int32) (a2 : Int32) (a3 : Int32) (a4 : Int32) (a5 : Int32) (H : zH) : Option (Int32 × zH) :=
  if a5 < (6 : Int32) then (
    (zgI H a0 1 0).bind fun v211 =>
    (zgI H a0 1 0).bind fun v218 =>
    (zpV H a0 1 0 (zI (v218 + (1 : Int32)))).bind fun H223 =>
    (zgR H223 a0 1 1).bind fun v227 =>
    (zsI H223 v227 0 v211 a1).bind fun H233 =>
    (zgR H233 a0 1 2).bind fun v235 =>
    (zsI H233 v235 0 v211 a2).bind fun H241 =>
    (zgR H241 a0 1 3).bind fun v243 =>
    (zsI H241 v243 0 v211 a3).bind fun H249 =>
    (zgR H249 a0 1 4).bind fun v251 =>
    (zsI H249 v251 0 v211 a4).bind fun H258 =>
    (zgR H258 a0 1 5).bind fun v260 =>
    (zsI H258 v260 0 v211 (a5 + (1 : Int32))).bind fun H269 =>
    (zgR H269 a0 1 6).bind fun v271 =>
    if a1 = (7 : Int32) then (
      (zgI H269 a0 1 13).bind fun v283 =>
      jJ_Mo_make_290 fu v283 v211 v271 a0 a1 v211 H269)
    else (
      jJ_Mo_make_290 fu (0 : Int32) v211 v271 a0 a1 v211 H269))
  else (
    some ((-1 : Int32), H))
def jL_Mo_make_141 (fu : Nat) : Nat → Option Nat → Int32 → Int32 → Int32 → Int32 → Int32 → Int32 → zH → Option (Int32 × zH)
  | 0, _, _, _, _, _, _, _, _ => none
  | g + 1, a0, a1, a2, a3, a4, a5, a6, H =>
    if a1 = (7 : Int32) then (
      (zgI H a0 1 13).bind fun v152 =>
      if ((72 : Int32) + v152) ≤ a6 then (
        jJ_Mo_make_201 fu a0 a1 a2 a3 a4 a5 H)
      else (
        (zgR H a0 1 5).bind fun v160 =>
        (zgR H a0 1 8).bind fun v164 =>
        (zaI H v164 0 a6).bind fun v169 =>
        (zaI H v160 0 v169).bind fun v170 =>
        if v170 ≤ a5 then (
          jL_Mo_make_141 fu g a0 a1 a2 a3 a4 a5 (a6 + (1 : Int32)) H)
        else (
          (zgR H a0 1 5).bind fun v177 =>
          (zgR H a0 1 8).bind fun v181 =>
          (zaI H v181 0 a6).bind fun v186 =>
          (zaI H v177 0 v186).bind fun v187 =>
          jL_Mo_make_141 fu g a0 a1 a2 a3 a4 v187 (a6 + (1 : Int32)) H)))
    else (
      jJ_Mo_make_201 fu a0 a1 a2 a3 a4 a5 H)
def jJ_Mo_make_79 (fu : Nat) (a0 : Option Nat) (a1 : Int32) (a2 : Int32) (a3 : Int32) (a4 : Int32) (H : zH) : Option (Int32 × zH) :=
  if a1 = (5 : Int32) then (
    (zgR H a0 1 5).bind fun v85 =>
    (zaI H v85 0 a3).bind fun v89 =>
    jL_Mo_make_141 fu fu a0 a1 a2 a3 a4 v89 (72 : Int32) H)
  else (
    if a1 = (6 : Int32) then (
      (zgR H a0 1 5).bind fun v100 =>
      (zaI H v100 0 a3).bind fun v104 =>
      (zgR H a0 1 5).bind fun v106 =>
      (zaI H v106 0 a4).bind fun v111 =>
      if v104 ≤ v111 then (
        (zgR H a0 1 5).bind fun v125 =>
        (zaI H v125 0 a4).bind fun v130 =>
        jL_Mo_make_141 fu fu a0 a1 a2 a3 a4 v130 (72 : Int32) H)
      else (
        (zgR H a0 1 5).bind fun v116 =>
        (zaI H v116 0 a3).bind fun v120 =>
        jL_Mo_make_141 fu fu a0 a1 a2 a3 a4 v120 (72 : Int32) H))
    else (
      jL_Mo_make_141 fu fu a0 a1 a2 a3 a4 (0 : Int32) (72 : Int32) H))
def jJ_Mo_make_64 (fu : Nat) (a0 : Option Nat) (a1 : Int32) (a2 : Int32) (a3 : Int32) (a4 : Int32) (H : zH) : Option (Int32 × zH) :=
  if a1 = (7 : Int32) then (
    (jF_Mo_noName a2 H).bind fun y71 =>
    if y71 = 0 then (
      jJ_Mo_make_79 fu a0 a1 a2 a3 a4 H)
    else (
      some ((-1 : Int32), H)))
  else (
    jJ_Mo_make_79 fu a0 a1 a2 a3 a4 H)
def jJ_Mo_make_48 (fu : Nat) (a0 : Option Nat) (a1 : Int32) (a2 : Int32) (a3 : Int32) (a4 : Int32) (H : zH) : Option (Int32 × zH) :=
  if a1 = (6 : Int32) then (
    (jF_Mo_badUnion a0 a3 a4 H).bind fun y58 =>
    if y58 = 0 then (
      jJ_Mo_make_64 fu a0 a1 a2 a3 a4 H)
    else (
      some ((-1 : Int32), H)))
  else (
    jJ_Mo_make_64 fu a0 a1 a2 a3 a4 H)
def jJ_Mo_make_35 (fu : Nat) (a0 : Option Nat) (a1 : Int32) (a2 : Int32) (a3 : Int32) (a4 : Int32) (H : zH) : Option (Int32 × zH) :=
  if a1 = (5 : Int32) then (
    (jF_Mo_noSchema a0 a3 H).bind fun y42 =>
    if y42 = 0 then (
      jJ_Mo_make_48 fu a0 a1 a2 a3 a4 H)
    else (
      some ((-1 : Int32), H)))
  else (
    jJ_Mo_make_48 fu a0 a1 a2 a3 a4 H)
def jF_Mo_make (fu : Nat) (a0 : Option Nat) (a1 : Int32) (a2 : Int32) (a3 : Int32) (a4 : Int32) (H : zH) : Option (Int32 × zH) :=
  (zok H a0 1).bind fun _ =>
  (zgI H a0 1 0).bind fun v1 =>
  if v1 = (24 : Int32) then (
    some ((-1 : Int32), H))
  else (
    if a1 < 0 then (
      some ((-1 : Int32), H))
    else (
      if (7 : Int32) < a1 then (
        some ((-1 : Int32), H))
      else (
        if a1 = (4 : Int32) then (
          (jF_Mo_badEnum a0 a2 a3 a4 H).bind fun y29 =>
          if y29 = 0 then (
            jJ_Mo_make_35 fu a0 a1 a2 a3 a4 H)
          else (
            some ((-1 : Int32), H)))
        else (
          jJ_Mo_make_35 fu a0 a1 a2 a3 a4 H))))
theorem jl_Mo_make_445 {E : zE} {d : Nat} (hd : 3 ≤ d) (fu : Nat) : ∀ (g : Nat), ∀ (a0 : Option Nat) (a6 : Int32) (a7 : Int32) (H : zH), z_S E jM_Mo_make d 0 0 zwI 445 [(0, zR a0), (6, zI a6), (7, zI a7)] [] H 0 0 (jL_Mo_make_445 fu g a0 a6 a7 H) := by
  intro g
  induction g with
  | zero => intros; exact zs_none
  | succ g ih =>
    intro a0 a6 a7 H
    rw [jL_Mo_make_445]
    refine zs_iload (pc := 445) (x := a7) d_Mo_make_445 rfl ?_
    refine zs_iload (pc := 447) (x := a6) d_Mo_make_447 rfl ?_
    refine zs_icmp_gt (pc := 449) (tgt := 466) d_Mo_make_449 rfl (fun q449 => ?_) (fun q449 => ?_)
    · refine zs_iload (pc := 466) (x := a6) d_Mo_make_466 rfl ?_
      exact zs_iret (pc := 468) d_Mo_make_468 rfl (Nat.le_of_ble_eq_true rfl) (Nat.le_of_ble_eq_true rfl) rfl
    · refine zs_aload_n (pc := 452) (x := a0) d_Mo_make_452 rfl ?_
      refine zs_iload (pc := 453) (x := a6) d_Mo_make_453 rfl ?_
      refine zs_iload (pc := 455) (x := a7) d_Mo_make_455 rfl ?_
      refine zs_callv_wV (pc := 457) (av := [zI a6, zI a7]) (st := []) (d' := 2) (C' := 0) (S' := 0) d_Mo_make_457 kV_Mo_106 z_okb (jm_Mo_compare (d := 2) (Nat.le_refl _) fu a0 a6 a7 H) (by omega) (Nat.le_of_ble_eq_true rfl) (Nat.le_of_ble_eq_true rfl) rfl rfl (Nat.le_of_ble_eq_true rfl) fun y457 => ?_
      refine zs_iinc (pc := 460) (x := a7) (v := (a7 + (1 : Int32))) (lv' := [(7, zI (a7 + (1 : Int32))), (0, zR a0), (6, zI a6)]) d_Mo_make_460 rfl rfl (Nat.le_of_ble_eq_true rfl) rfl ?_
      refine zs_goto (pc := 463) (tgt := 445) d_Mo_make_463 rfl ?_
      refine zs_sub (lv' := [(0, zR a0), (6, zI a6), (7, zI (a7 + (1 : Int32)))]) [1, 2, 0] rfl ?_
      exact ih a0 a6 (a7 + (1 : Int32)) y457
theorem jl_Mo_make_421 {E : zE} {d : Nat} (hd : 3 ≤ d) (fu : Nat) : ∀ (g : Nat), ∀ (a0 : Option Nat) (a6 : Int32) (a7 : Int32) (H : zH), z_S E jM_Mo_make d 0 0 zwI 421 [(0, zR a0), (6, zI a6), (7, zI a7)] [] H 0 0 (jL_Mo_make_421 fu g a0 a6 a7 H) := by
  intro g
  induction g with
  | zero => intros; exact zs_none
  | succ g ih =>
    intro a0 a6 a7 H
    rw [jL_Mo_make_421]
    refine zs_iload (pc := 421) (x := a7) d_Mo_make_421 rfl ?_
    refine zs_iload (pc := 423) (x := a6) d_Mo_make_423 rfl ?_
    refine zs_icmp_ge (pc := 425) (tgt := 442) d_Mo_make_425 rfl (fun q425 => ?_) (fun q425 => ?_)
    · refine zs_iconst (pc := 442) (v := (0 : Int32)) d_Mo_make_442 (by decide) ?_
      refine zs_istore (pc := 443) (lv' := [(7, zI (0 : Int32)), (0, zR a0), (6, zI a6)]) d_Mo_make_443 (Nat.le_of_ble_eq_true rfl) rfl ?_
      refine zs_sub (lv' := [(0, zR a0), (6, zI a6), (7, zI (0 : Int32))]) [1, 2, 0] rfl ?_
      exact jl_Mo_make_445 hd fu fu a0 a6 (0 : Int32) H
    · refine zs_aload_n (pc := 428) (x := a0) d_Mo_make_428 rfl ?_
      refine zs_iload (pc := 429) (x := a7) d_Mo_make_429 rfl ?_
      refine zs_iload (pc := 431) (x := a6) d_Mo_make_431 rfl ?_
      refine zs_callv_wV (pc := 433) (av := [zI a7, zI a6]) (st := []) (d' := 2) (C' := 0) (S' := 0) d_Mo_make_433 kV_Mo_106 z_okb (jm_Mo_compare (d := 2) (Nat.le_refl _) fu a0 a7 a6 H) (by omega) (Nat.le_of_ble_eq_true rfl) (Nat.le_of_ble_eq_true rfl) rfl rfl (Nat.le_of_ble_eq_true rfl) fun y433 => ?_
      refine zs_iinc (pc := 436) (x := a7) (v := (a7 + (1 : Int32))) (lv' := [(7, zI (a7 + (1 : Int32))), (0, zR a0), (6, zI a6)]) d_Mo_make_436 rfl rfl (Nat.le_of_ble_eq_true rfl) rfl ?_
      refine zs_goto (pc := 439) (tgt := 421) d_Mo_make_439 rfl ?_
      refine zs_sub (lv' := [(0, zR a0), (6, zI a6), (7, zI (a7 + (1 : Int32)))]) [1, 2, 0] rfl ?_
      exact ih a0 a6 (a7 + (1 : Int32)) y433
theorem jj_Mo_make_415 {E : zE} {d : Nat} (hd : 3 ≤ d) (fu : Nat) : ∀ (s0 : Int32) (s1 : Option Nat) (a0 : Option Nat) (a6 : Int32) (H : zH), z_S E jM_Mo_make d 0 0 zwI 415 [(0, zR a0), (6, zI a6)] [zI s0, zR s1] H 0 0 (jJ_Mo_make_415 fu s0 s1 a0 a6 H) := by
  intro s0 s1 a0 a6 H
  unfold jJ_Mo_make_415
  refine zs_put (pc := 415) d_Mo_make_415 kP_Mo_85 z_fitI fun H415 => ?_
  refine zs_iconst (pc := 418) (v := (0 : Int32)) d_Mo_make_418 (by decide) ?_
  refine zs_istore (pc := 419) (lv' := [(7, zI (0 : Int32)), (0, zR a0), (6, zI a6)]) d_Mo_make_419 (Nat.le_of_ble_eq_true rfl) rfl ?_
  refine zs_sub (lv' := [(0, zR a0), (6, zI a6), (7, zI (0 : Int32))]) [1, 2, 0] rfl ?_
  exact jl_Mo_make_421 hd fu fu a0 a6 (0 : Int32) H415
theorem jl_Mo_make_294 {E : zE} {d : Nat} (hd : 3 ≤ d) (fu : Nat) : ∀ (g : Nat), ∀ (a0 : Option Nat) (a1 : Int32) (a6 : Int32) (a7 : Int32) (H : zH), z_S E jM_Mo_make d 0 0 zwI 294 [(0, zR a0), (1, zI a1), (6, zI a6), (7, zI a7)] [] H 0 0 (jL_Mo_make_294 fu g a0 a1 a6 a7 H) := by
  intro g
  induction g with
  | zero => intros; exact zs_none
  | succ g ih =>
    intro a0 a1 a6 a7 H
    rw [jL_Mo_make_294]
    refine zs_iload (pc := 294) (x := a7) d_Mo_make_294 rfl ?_
    refine zs_aload_n (pc := 296) (x := a0) d_Mo_make_296 rfl ?_
    refine zs_getR (pc := 297) d_Mo_make_297 kF_Mo_25 fun v297 => ?_
    refine zs_iload (pc := 300) (x := a6) d_Mo_make_300 rfl ?_
    refine zs_iald (t := 0) (pc := 302) d_Mo_make_302 rfl fun v302 => ?_
    refine zs_icmp_ge (pc := 303) (tgt := 400) d_Mo_make_303 rfl (fun q303 => ?_) (fun q303 => ?_)
    · refine zs_aload_n (pc := 400) (x := a0) d_Mo_make_400 rfl ?_
      refine zs_iload_n (pc := 401) (x := a1) d_Mo_make_401 rfl ?_
      refine zs_bipush (pc := 402) (v := (7 : Int32)) d_Mo_make_402 (by decide) ?_
      refine zs_icmp_ne (pc := 404) (tgt := 411) d_Mo_make_404 rfl (fun q404 => ?_) (fun q404 => ?_)
      · refine zs_aload_n (pc := 411) (x := a0) d_Mo_make_411 rfl ?_
        refine zs_getI (pc := 412) d_Mo_make_412 kF_Mo_85 fun v412 => ?_
        refine zs_sub (lv' := [(0, zR a0), (6, zI a6)]) [0, 2] rfl ?_
        exact jj_Mo_make_415 hd fu v412 a0 a0 a6 H
      · refine zs_iconst (pc := 407) (v := (0 : Int32)) d_Mo_make_407 (by decide) ?_
        refine zs_goto (pc := 408) (tgt := 415) d_Mo_make_408 rfl ?_
        refine zs_sub (lv' := [(0, zR a0), (6, zI a6)]) [0, 2] rfl ?_
        exact jj_Mo_make_415 hd fu (0 : Int32) a0 a0 a6 H
    · refine zs_aload_n (pc := 306) (x := a0) d_Mo_make_306 rfl ?_
      refine zs_getR (pc := 307) d_Mo_make_307 kF_Mo_28 fun v307 => ?_
      refine zs_iconst (pc := 310) (v := (3 : Int32)) d_Mo_make_310 (by decide) ?_
      refine zs_iload (pc := 311) (x := a6) d_Mo_make_311 rfl ?_
      refine zs_imul (pc := 313) d_Mo_make_313 ?_
      refine zs_iload (pc := 314) (x := a7) d_Mo_make_314 rfl ?_
      refine zs_iadd (pc := 316) d_Mo_make_316 ?_
      refine zs_aload_n (pc := 317) (x := a0) d_Mo_make_317 rfl ?_
      refine zs_getR (pc := 318) d_Mo_make_318 kF_Mo_28 fun v318 => ?_
      refine zs_bipush (pc := 321) (v := (72 : Int32)) d_Mo_make_321 (by decide) ?_
      refine zs_iload (pc := 323) (x := a7) d_Mo_make_323 rfl ?_
      refine zs_iadd (pc := 325) d_Mo_make_325 ?_
      refine zs_iald (t := 0) (pc := 326) d_Mo_make_326 rfl fun v326 => ?_
      refine zs_iast (t := 0) (pc := 327) d_Mo_make_327 rfl fun H327 => ?_
      refine zs_aload_n (pc := 328) (x := a0) d_Mo_make_328 rfl ?_
      refine zs_getR (pc := 329) d_Mo_make_329 kF_Mo_31 fun v329 => ?_
      refine zs_iconst (pc := 332) (v := (3 : Int32)) d_Mo_make_332 (by decide) ?_
      refine zs_iload (pc := 333) (x := a6) d_Mo_make_333 rfl ?_
      refine zs_imul (pc := 335) d_Mo_make_335 ?_
      refine zs_iload (pc := 336) (x := a7) d_Mo_make_336 rfl ?_
      refine zs_iadd (pc := 338) d_Mo_make_338 ?_
      refine zs_aload_n (pc := 339) (x := a0) d_Mo_make_339 rfl ?_
      refine zs_getR (pc := 340) d_Mo_make_340 kF_Mo_31 fun v340 => ?_
      refine zs_bipush (pc := 343) (v := (72 : Int32)) d_Mo_make_343 (by decide) ?_
      refine zs_iload (pc := 345) (x := a7) d_Mo_make_345 rfl ?_
      refine zs_iadd (pc := 347) d_Mo_make_347 ?_
      refine zs_iald (t := 0) (pc := 348) d_Mo_make_348 rfl fun v348 => ?_
      refine zs_iast (t := 0) (pc := 349) d_Mo_make_349 rfl fun H349 => ?_
      refine zs_aload_n (pc := 350) (x := a0) d_Mo_make_350 rfl ?_
      refine zs_getR (pc := 351) d_Mo_make_351 kF_Mo_34 fun v351 => ?_
      refine zs_iconst (pc := 354) (v := (3 : Int32)) d_Mo_make_354 (by decide) ?_
      refine zs_iload (pc := 355) (x := a6) d_Mo_make_355 rfl ?_
      refine zs_imul (pc := 357) d_Mo_make_357 ?_
      refine zs_iload (pc := 358) (x := a7) d_Mo_make_358 rfl ?_
      refine zs_iadd (pc := 360) d_Mo_make_360 ?_
      refine zs_aload_n (pc := 361) (x := a0) d_Mo_make_361 rfl ?_
      refine zs_getR (pc := 362) d_Mo_make_362 kF_Mo_34 fun v362 => ?_
      refine zs_bipush (pc := 365) (v := (72 : Int32)) d_Mo_make_365 (by decide) ?_
      refine zs_iload (pc := 367) (x := a7) d_Mo_make_367 rfl ?_
      refine zs_iadd (pc := 369) d_Mo_make_369 ?_
      refine zs_zald (t := 1) (pc := 370) d_Mo_make_370 rfl fun v370 => ?_
      refine zs_zast (t := 1) (pc := 371) d_Mo_make_371 rfl fun H371 => ?_
      refine zs_aload_n (pc := 372) (x := a0) d_Mo_make_372 rfl ?_
      refine zs_getR (pc := 373) d_Mo_make_373 kF_Mo_38 fun v373 => ?_
      refine zs_iconst (pc := 376) (v := (3 : Int32)) d_Mo_make_376 (by decide) ?_
      refine zs_iload (pc := 377) (x := a6) d_Mo_make_377 rfl ?_
      refine zs_imul (pc := 379) d_Mo_make_379 ?_
      refine zs_iload (pc := 380) (x := a7) d_Mo_make_380 rfl ?_
      refine zs_iadd (pc := 382) d_Mo_make_382 ?_
      refine zs_aload_n (pc := 383) (x := a0) d_Mo_make_383 rfl ?_
      refine zs_getR (pc := 384) d_Mo_make_384 kF_Mo_38 fun v384 => ?_
      refine zs_bipush (pc := 387) (v := (72 : Int32)) d_Mo_make_387 (by decide) ?_
      refine zs_iload (pc := 389) (x := a7) d_Mo_make_389 rfl ?_
      refine zs_iadd (pc := 391) d_Mo_make_391 ?_
      refine zs_lald (t := 2) (pc := 392) d_Mo_make_392 rfl fun v392 => ?_
      refine zs_last (t := 2) (pc := 393) d_Mo_make_393 rfl fun H393 => ?_
      refine zs_iinc (pc := 394) (x := a7) (v := (a7 + (1 : Int32))) (lv' := [(7, zI (a7 + (1 : Int32))), (0, zR a0), (1, zI a1), (6, zI a6)]) d_Mo_make_394 rfl rfl (Nat.le_of_ble_eq_true rfl) rfl ?_
      refine zs_goto (pc := 397) (tgt := 294) d_Mo_make_397 rfl ?_
      refine zs_sub (lv' := [(0, zR a0), (1, zI a1), (6, zI a6), (7, zI (a7 + (1 : Int32)))]) [1, 2, 3, 0] rfl ?_
      exact ih a0 a1 a6 (a7 + (1 : Int32)) H393
theorem jj_Mo_make_290 {E : zE} {d : Nat} (hd : 3 ≤ d) (fu : Nat) : ∀ (s0 : Int32) (s1 : Int32) (s2 : Option Nat) (a0 : Option Nat) (a1 : Int32) (a6 : Int32) (H : zH), z_S E jM_Mo_make d 0 0 zwI 290 [(0, zR a0), (1, zI a1), (6, zI a6)] [zI s0, zI s1, zR s2] H 0 0 (jJ_Mo_make_290 fu s0 s1 s2 a0 a1 a6 H) := by
  intro s0 s1 s2 a0 a1 a6 H
  unfold jJ_Mo_make_290
  refine zs_iast (t := 0) (pc := 290) d_Mo_make_290 rfl fun H290 => ?_
  refine zs_iconst (pc := 291) (v := (0 : Int32)) d_Mo_make_291 (by decide) ?_
  refine zs_istore (pc := 292) (lv' := [(7, zI (0 : Int32)), (0, zR a0), (1, zI a1), (6, zI a6)]) d_Mo_make_292 (Nat.le_of_ble_eq_true rfl) rfl ?_
  refine zs_sub (lv' := [(0, zR a0), (1, zI a1), (6, zI a6), (7, zI (0 : Int32))]) [1, 2, 3, 0] rfl ?_
  exact jl_Mo_make_294 hd fu fu a0 a1 a6 (0 : Int32) H290
theorem jj_Mo_make_201 {E : zE} {d : Nat} (hd : 3 ≤ d) (fu : Nat) : ∀ (a0 : Option Nat) (a1 : Int32) (a2 : Int32) (a3 : Int32) (a4 : Int32) (a5 : Int32) (H : zH), z_S E jM_Mo_make d 0 0 zwI 201 [(0, zR a0), (1, zI a1), (2, zI a2), (3, zI a3), (4, zI a4), (5, zI a5)] [] H 0 0 (jJ_Mo_make_201 fu a0 a1 a2 a3 a4 a5 H) := by
  intro a0 a1 a2 a3 a4 a5 H
  unfold jJ_Mo_make_201
  refine zs_iload (pc := 201) (x := a5) d_Mo_make_201 rfl ?_
  refine zs_bipush (pc := 203) (v := (6 : Int32)) d_Mo_make_203 (by decide) ?_
  refine zs_icmp_lt (pc := 205) (tgt := 210) d_Mo_make_205 rfl (fun q205 => ?_) (fun q205 => ?_)
  · refine zs_aload_n (pc := 210) (x := a0) d_Mo_make_210 rfl ?_
    refine zs_getI (pc := 211) d_Mo_make_211 kF_Mo_75 fun v211 => ?_
    refine zs_istore (pc := 214) (lv' := [(6, zI v211), (0, zR a0), (1, zI a1), (2, zI a2), (3, zI a3), (4, zI a4), (5, zI a5)]) d_Mo_make_214 (Nat.le_of_ble_eq_true rfl) rfl ?_
    refine zs_aload_n (pc := 216) (x := a0) d_Mo_make_216 rfl ?_
    refine zs_dup (pc := 217) d_Mo_make_217 rfl ?_
    refine zs_getI (pc := 218) d_Mo_make_218 kF_Mo_75 fun v218 => ?_
    refine zs_iconst (pc := 221) (v := (1 : Int32)) d_Mo_make_221 (by decide) ?_
    refine zs_iadd (pc := 222) d_Mo_make_222 ?_
    refine zs_put (pc := 223) d_Mo_make_223 kP_Mo_75 z_fitI fun H223 => ?_
    refine zs_aload_n (pc := 226) (x := a0) d_Mo_make_226 rfl ?_
    refine zs_getR (pc := 227) d_Mo_make_227 kF_Mo_7 fun v227 => ?_
    refine zs_iload (pc := 230) (x := v211) d_Mo_make_230 rfl ?_
    refine zs_iload_n (pc := 232) (x := a1) d_Mo_make_232 rfl ?_
    refine zs_iast (t := 0) (pc := 233) d_Mo_make_233 rfl fun H233 => ?_
    refine zs_aload_n (pc := 234) (x := a0) d_Mo_make_234 rfl ?_
    refine zs_getR (pc := 235) d_Mo_make_235 kF_Mo_13 fun v235 => ?_
    refine zs_iload (pc := 238) (x := v211) d_Mo_make_238 rfl ?_
    refine zs_iload_n (pc := 240) (x := a2) d_Mo_make_240 rfl ?_
    refine zs_iast (t := 0) (pc := 241) d_Mo_make_241 rfl fun H241 => ?_
    refine zs_aload_n (pc := 242) (x := a0) d_Mo_make_242 rfl ?_
    refine zs_getR (pc := 243) d_Mo_make_243 kF_Mo_16 fun v243 => ?_
    refine zs_iload (pc := 246) (x := v211) d_Mo_make_246 rfl ?_
    refine zs_iload_n (pc := 248) (x := a3) d_Mo_make_248 rfl ?_
    refine zs_iast (t := 0) (pc := 249) d_Mo_make_249 rfl fun H249 => ?_
    refine zs_aload_n (pc := 250) (x := a0) d_Mo_make_250 rfl ?_
    refine zs_getR (pc := 251) d_Mo_make_251 kF_Mo_19 fun v251 => ?_
    refine zs_iload (pc := 254) (x := v211) d_Mo_make_254 rfl ?_
    refine zs_iload (pc := 256) (x := a4) d_Mo_make_256 rfl ?_
    refine zs_iast (t := 0) (pc := 258) d_Mo_make_258 rfl fun H258 => ?_
    refine zs_aload_n (pc := 259) (x := a0) d_Mo_make_259 rfl ?_
    refine zs_getR (pc := 260) d_Mo_make_260 kF_Mo_22 fun v260 => ?_
    refine zs_iload (pc := 263) (x := v211) d_Mo_make_263 rfl ?_
    refine zs_iload (pc := 265) (x := a5) d_Mo_make_265 rfl ?_
    refine zs_iconst (pc := 267) (v := (1 : Int32)) d_Mo_make_267 (by decide) ?_
    refine zs_iadd (pc := 268) d_Mo_make_268 ?_
    refine zs_iast (t := 0) (pc := 269) d_Mo_make_269 rfl fun H269 => ?_
    refine zs_aload_n (pc := 270) (x := a0) d_Mo_make_270 rfl ?_
    refine zs_getR (pc := 271) d_Mo_make_271 kF_Mo_25 fun v271 => ?_
    refine zs_iload (pc := 274) (x := v211) d_Mo_make_274 rfl ?_
    refine zs_iload_n (pc := 276) (x := a1) d_Mo_make_276 rfl ?_
    refine zs_bipush (pc := 277) (v := (7 : Int32)) d_Mo_make_277 (by decide) ?_
    refine zs_icmp_ne (pc := 279) (tgt := 289) d_Mo_make_279 rfl (fun q279 => ?_) (fun q279 => ?_)
    · refine zs_iconst (pc := 289) (v := (0 : Int32)) d_Mo_make_289 (by decide) ?_
      refine zs_sub (lv' := [(0, zR a0), (1, zI a1), (6, zI v211)]) [1, 2, 0] rfl ?_
      exact jj_Mo_make_290 hd fu (0 : Int32) v211 v271 a0 a1 v211 H269
    · refine zs_aload_n (pc := 282) (x := a0) d_Mo_make_282 rfl ?_
      refine zs_getI (pc := 283) d_Mo_make_283 kF_Mo_85 fun v283 => ?_
      refine zs_goto (pc := 286) (tgt := 290) d_Mo_make_286 rfl ?_
      refine zs_sub (lv' := [(0, zR a0), (1, zI a1), (6, zI v211)]) [1, 2, 0] rfl ?_
      exact jj_Mo_make_290 hd fu v283 v211 v271 a0 a1 v211 H269
  · refine zs_iconst (pc := 208) (v := (-1 : Int32)) d_Mo_make_208 (by decide) ?_
    exact zs_iret (pc := 209) d_Mo_make_209 rfl (Nat.le_of_ble_eq_true rfl) (Nat.le_of_ble_eq_true rfl) rfl
theorem jl_Mo_make_141 {E : zE} {d : Nat} (hd : 3 ≤ d) (fu : Nat) : ∀ (g : Nat), ∀ (a0 : Option Nat) (a1 : Int32) (a2 : Int32) (a3 : Int32) (a4 : Int32) (a5 : Int32) (a6 : Int32) (H : zH), z_S E jM_Mo_make d 0 0 zwI 141 [(0, zR a0), (1, zI a1), (2, zI a2), (3, zI a3), (4, zI a4), (5, zI a5), (6, zI a6)] [] H 0 0 (jL_Mo_make_141 fu g a0 a1 a2 a3 a4 a5 a6 H) := by
  intro g
  induction g with
  | zero => intros; exact zs_none
  | succ g ih =>
    intro a0 a1 a2 a3 a4 a5 a6 H
    rw [jL_Mo_make_141]
    refine zs_iload_n (pc := 141) (x := a1) d_Mo_make_141 rfl ?_
    refine zs_bipush (pc := 142) (v := (7 : Int32)) d_Mo_make_142 (by decide) ?_
    refine zs_icmp_ne (pc := 144) (tgt := 201) d_Mo_make_144 rfl (fun q144 => ?_) (fun q144 => ?_)
    · refine zs_sub (lv' := [(0, zR a0), (1, zI a1), (2, zI a2), (3, zI a3), (4, zI a4), (5, zI a5)]) [0, 1, 2, 3, 4, 5] rfl ?_
      exact jj_Mo_make_201 hd fu a0 a1 a2 a3 a4 a5 H
    · refine zs_iload (pc := 147) (x := a6) d_Mo_make_147 rfl ?_
      refine zs_bipush (pc := 149) (v := (72 : Int32)) d_Mo_make_149 (by decide) ?_
      refine zs_aload_n (pc := 151) (x := a0) d_Mo_make_151 rfl ?_
      refine zs_getI (pc := 152) d_Mo_make_152 kF_Mo_85 fun v152 => ?_
      refine zs_iadd (pc := 155) d_Mo_make_155 ?_
      refine zs_icmp_ge (pc := 156) (tgt := 201) d_Mo_make_156 rfl (fun q156 => ?_) (fun q156 => ?_)
      · refine zs_sub (lv' := [(0, zR a0), (1, zI a1), (2, zI a2), (3, zI a3), (4, zI a4), (5, zI a5)]) [0, 1, 2, 3, 4, 5] rfl ?_
        exact jj_Mo_make_201 hd fu a0 a1 a2 a3 a4 a5 H
      · refine zs_aload_n (pc := 159) (x := a0) d_Mo_make_159 rfl ?_
        refine zs_getR (pc := 160) d_Mo_make_160 kF_Mo_22 fun v160 => ?_
        refine zs_aload_n (pc := 163) (x := a0) d_Mo_make_163 rfl ?_
        refine zs_getR (pc := 164) d_Mo_make_164 kF_Mo_31 fun v164 => ?_
        refine zs_iload (pc := 167) (x := a6) d_Mo_make_167 rfl ?_
        refine zs_iald (t := 0) (pc := 169) d_Mo_make_169 rfl fun v169 => ?_
        refine zs_iald (t := 0) (pc := 170) d_Mo_make_170 rfl fun v170 => ?_
        refine zs_iload (pc := 171) (x := a5) d_Mo_make_171 rfl ?_
        refine zs_icmp_le (pc := 173) (tgt := 191) d_Mo_make_173 rfl (fun q173 => ?_) (fun q173 => ?_)
        · refine zs_iload (pc := 191) (x := a5) d_Mo_make_191 rfl ?_
          refine zs_istore (pc := 193) (lv' := [(5, zI a5), (0, zR a0), (1, zI a1), (2, zI a2), (3, zI a3), (4, zI a4), (6, zI a6)]) d_Mo_make_193 (Nat.le_of_ble_eq_true rfl) rfl ?_
          refine zs_iinc (pc := 195) (x := a6) (v := (a6 + (1 : Int32))) (lv' := [(6, zI (a6 + (1 : Int32))), (5, zI a5), (0, zR a0), (1, zI a1), (2, zI a2), (3, zI a3), (4, zI a4)]) d_Mo_make_195 rfl rfl (Nat.le_of_ble_eq_true rfl) rfl ?_
          refine zs_goto (pc := 198) (tgt := 141) d_Mo_make_198 rfl ?_
          refine zs_sub (lv' := [(0, zR a0), (1, zI a1), (2, zI a2), (3, zI a3), (4, zI a4), (5, zI a5), (6, zI (a6 + (1 : Int32)))]) [2, 3, 4, 5, 6, 1, 0] rfl ?_
          exact ih a0 a1 a2 a3 a4 a5 (a6 + (1 : Int32)) H
        · refine zs_aload_n (pc := 176) (x := a0) d_Mo_make_176 rfl ?_
          refine zs_getR (pc := 177) d_Mo_make_177 kF_Mo_22 fun v177 => ?_
          refine zs_aload_n (pc := 180) (x := a0) d_Mo_make_180 rfl ?_
          refine zs_getR (pc := 181) d_Mo_make_181 kF_Mo_31 fun v181 => ?_
          refine zs_iload (pc := 184) (x := a6) d_Mo_make_184 rfl ?_
          refine zs_iald (t := 0) (pc := 186) d_Mo_make_186 rfl fun v186 => ?_
          refine zs_iald (t := 0) (pc := 187) d_Mo_make_187 rfl fun v187 => ?_
          refine zs_goto (pc := 188) (tgt := 193) d_Mo_make_188 rfl ?_
          refine zs_istore (pc := 193) (lv' := [(5, zI v187), (0, zR a0), (1, zI a1), (2, zI a2), (3, zI a3), (4, zI a4), (6, zI a6)]) d_Mo_make_193 (Nat.le_of_ble_eq_true rfl) rfl ?_
          refine zs_iinc (pc := 195) (x := a6) (v := (a6 + (1 : Int32))) (lv' := [(6, zI (a6 + (1 : Int32))), (5, zI v187), (0, zR a0), (1, zI a1), (2, zI a2), (3, zI a3), (4, zI a4)]) d_Mo_make_195 rfl rfl (Nat.le_of_ble_eq_true rfl) rfl ?_
          refine zs_goto (pc := 198) (tgt := 141) d_Mo_make_198 rfl ?_
          refine zs_sub (lv' := [(0, zR a0), (1, zI a1), (2, zI a2), (3, zI a3), (4, zI a4), (5, zI v187), (6, zI (a6 + (1 : Int32)))]) [2, 3, 4, 5, 6, 1, 0] rfl ?_
          exact ih a0 a1 a2 a3 a4 v187 (a6 + (1 : Int32)) H
theorem jj_Mo_make_79 {E : zE} {d : Nat} (hd : 3 ≤ d) (fu : Nat) : ∀ (a0 : Option Nat) (a1 : Int32) (a2 : Int32) (a3 : Int32) (a4 : Int32) (H : zH), z_S E jM_Mo_make d 0 0 zwI 79 [(0, zR a0), (1, zI a1), (2, zI a2), (3, zI a3), (4, zI a4)] [] H 0 0 (jJ_Mo_make_79 fu a0 a1 a2 a3 a4 H) := by
  intro a0 a1 a2 a3 a4 H
  unfold jJ_Mo_make_79
  refine zs_iload_n (pc := 79) (x := a1) d_Mo_make_79 rfl ?_
  refine zs_iconst (pc := 80) (v := (5 : Int32)) d_Mo_make_80 (by decide) ?_
  refine zs_icmp_ne (pc := 81) (tgt := 93) d_Mo_make_81 rfl (fun q81 => ?_) (fun q81 => ?_)
  · refine zs_iload_n (pc := 93) (x := a1) d_Mo_make_93 rfl ?_
    refine zs_bipush (pc := 94) (v := (6 : Int32)) d_Mo_make_94 (by decide) ?_
    refine zs_icmp_ne (pc := 96) (tgt := 134) d_Mo_make_96 rfl (fun q96 => ?_) (fun q96 => ?_)
    · refine zs_iconst (pc := 134) (v := (0 : Int32)) d_Mo_make_134 (by decide) ?_
      refine zs_istore (pc := 135) (lv' := [(5, zI (0 : Int32)), (0, zR a0), (1, zI a1), (2, zI a2), (3, zI a3), (4, zI a4)]) d_Mo_make_135 (Nat.le_of_ble_eq_true rfl) rfl ?_
      refine zs_bipush (pc := 137) (v := (72 : Int32)) d_Mo_make_137 (by decide) ?_
      refine zs_istore (pc := 139) (lv' := [(6, zI (72 : Int32)), (5, zI (0 : Int32)), (0, zR a0), (1, zI a1), (2, zI a2), (3, zI a3), (4, zI a4)]) d_Mo_make_139 (Nat.le_of_ble_eq_true rfl) rfl ?_
      refine zs_sub (lv' := [(0, zR a0), (1, zI a1), (2, zI a2), (3, zI a3), (4, zI a4), (5, zI (0 : Int32)), (6, zI (72 : Int32))]) [2, 3, 4, 5, 6, 1, 0] rfl ?_
      exact jl_Mo_make_141 hd fu fu a0 a1 a2 a3 a4 (0 : Int32) (72 : Int32) H
    · refine zs_aload_n (pc := 99) (x := a0) d_Mo_make_99 rfl ?_
      refine zs_getR (pc := 100) d_Mo_make_100 kF_Mo_22 fun v100 => ?_
      refine zs_iload_n (pc := 103) (x := a3) d_Mo_make_103 rfl ?_
      refine zs_iald (t := 0) (pc := 104) d_Mo_make_104 rfl fun v104 => ?_
      refine zs_aload_n (pc := 105) (x := a0) d_Mo_make_105 rfl ?_
      refine zs_getR (pc := 106) d_Mo_make_106 kF_Mo_22 fun v106 => ?_
      refine zs_iload (pc := 109) (x := a4) d_Mo_make_109 rfl ?_
      refine zs_iald (t := 0) (pc := 111) d_Mo_make_111 rfl fun v111 => ?_
      refine zs_icmp_le (pc := 112) (tgt := 124) d_Mo_make_112 rfl (fun q112 => ?_) (fun q112 => ?_)
      · refine zs_aload_n (pc := 124) (x := a0) d_Mo_make_124 rfl ?_
        refine zs_getR (pc := 125) d_Mo_make_125 kF_Mo_22 fun v125 => ?_
        refine zs_iload (pc := 128) (x := a4) d_Mo_make_128 rfl ?_
        refine zs_iald (t := 0) (pc := 130) d_Mo_make_130 rfl fun v130 => ?_
        refine zs_goto (pc := 131) (tgt := 135) d_Mo_make_131 rfl ?_
        refine zs_istore (pc := 135) (lv' := [(5, zI v130), (0, zR a0), (1, zI a1), (2, zI a2), (3, zI a3), (4, zI a4)]) d_Mo_make_135 (Nat.le_of_ble_eq_true rfl) rfl ?_
        refine zs_bipush (pc := 137) (v := (72 : Int32)) d_Mo_make_137 (by decide) ?_
        refine zs_istore (pc := 139) (lv' := [(6, zI (72 : Int32)), (5, zI v130), (0, zR a0), (1, zI a1), (2, zI a2), (3, zI a3), (4, zI a4)]) d_Mo_make_139 (Nat.le_of_ble_eq_true rfl) rfl ?_
        refine zs_sub (lv' := [(0, zR a0), (1, zI a1), (2, zI a2), (3, zI a3), (4, zI a4), (5, zI v130), (6, zI (72 : Int32))]) [2, 3, 4, 5, 6, 1, 0] rfl ?_
        exact jl_Mo_make_141 hd fu fu a0 a1 a2 a3 a4 v130 (72 : Int32) H
      · refine zs_aload_n (pc := 115) (x := a0) d_Mo_make_115 rfl ?_
        refine zs_getR (pc := 116) d_Mo_make_116 kF_Mo_22 fun v116 => ?_
        refine zs_iload_n (pc := 119) (x := a3) d_Mo_make_119 rfl ?_
        refine zs_iald (t := 0) (pc := 120) d_Mo_make_120 rfl fun v120 => ?_
        refine zs_goto (pc := 121) (tgt := 135) d_Mo_make_121 rfl ?_
        refine zs_istore (pc := 135) (lv' := [(5, zI v120), (0, zR a0), (1, zI a1), (2, zI a2), (3, zI a3), (4, zI a4)]) d_Mo_make_135 (Nat.le_of_ble_eq_true rfl) rfl ?_
        refine zs_bipush (pc := 137) (v := (72 : Int32)) d_Mo_make_137 (by decide) ?_
        refine zs_istore (pc := 139) (lv' := [(6, zI (72 : Int32)), (5, zI v120), (0, zR a0), (1, zI a1), (2, zI a2), (3, zI a3), (4, zI a4)]) d_Mo_make_139 (Nat.le_of_ble_eq_true rfl) rfl ?_
        refine zs_sub (lv' := [(0, zR a0), (1, zI a1), (2, zI a2), (3, zI a3), (4, zI a4), (5, zI v120), (6, zI (72 : Int32))]) [2, 3, 4, 5, 6, 1, 0] rfl ?_
        exact jl_Mo_make_141 hd fu fu a0 a1 a2 a3 a4 v120 (72 : Int32) H
  · refine zs_aload_n (pc := 84) (x := a0) d_Mo_make_84 rfl ?_
    refine zs_getR (pc := 85) d_Mo_make_85 kF_Mo_22 fun v85 => ?_
    refine zs_iload_n (pc := 88) (x := a3) d_Mo_make_88 rfl ?_
    refine zs_iald (t := 0) (pc := 89) d_Mo_make_89 rfl fun v89 => ?_
    refine zs_goto (pc := 90) (tgt := 135) d_Mo_make_90 rfl ?_
    refine zs_istore (pc := 135) (lv' := [(5, zI v89), (0, zR a0), (1, zI a1), (2, zI a2), (3, zI a3), (4, zI a4)]) d_Mo_make_135 (Nat.le_of_ble_eq_true rfl) rfl ?_
    refine zs_bipush (pc := 137) (v := (72 : Int32)) d_Mo_make_137 (by decide) ?_
    refine zs_istore (pc := 139) (lv' := [(6, zI (72 : Int32)), (5, zI v89), (0, zR a0), (1, zI a1), (2, zI a2), (3, zI a3), (4, zI a4)]) d_Mo_make_139 (Nat.le_of_ble_eq_true rfl) rfl ?_
    refine zs_sub (lv' := [(0, zR a0), (1, zI a1), (2, zI a2), (3, zI a3), (4, zI a4), (5, zI v89), (6, zI (72 : Int32))]) [2, 3, 4, 5, 6, 1, 0] rfl ?_
    exact jl_Mo_make_141 hd fu fu a0 a1 a2 a3 a4 v89 (72 : Int32) H
theorem jj_Mo_make_64 {E : zE} {d : Nat} (hd : 3 ≤ d) (fu : Nat) : ∀ (a0 : Option Nat) (a1 : Int32) (a2 : Int32) (a3 : Int32) (a4 : Int32) (H : zH), z_S E jM_Mo_make d 0 0 zwI 64 [(0, zR a0), (1, zI a1), (2, zI a2), (3, zI a3), (4, zI a4)] [] H 0 0 (jJ_Mo_make_64 fu a0 a1 a2 a3 a4 H) := by
  intro a0 a1 a2 a3 a4 H
  unfold jJ_Mo_make_64
  refine zs_iload_n (pc := 64) (x := a1) d_Mo_make_64 rfl ?_
  refine zs_bipush (pc := 65) (v := (7 : Int32)) d_Mo_make_65 (by decide) ?_
  refine zs_icmp_ne (pc := 67) (tgt := 79) d_Mo_make_67 rfl (fun q67 => ?_) (fun q67 => ?_)
  · exact jj_Mo_make_79 hd fu a0 a1 a2 a3 a4 H
  · refine zs_iload_n (pc := 70) (x := a2) d_Mo_make_70 rfl ?_
    refine zs_calls_rI (pc := 71) (av := [zI a2]) (st := []) (d' := 0) (C' := 0) (S' := 0) d_Mo_make_71 kS_Mo_88 (jm_Mo_noName (d := 0) (Nat.le_refl _) a2 H) (by omega) (Nat.le_of_ble_eq_true rfl) (Nat.le_of_ble_eq_true rfl) rfl rfl (Nat.le_of_ble_eq_true rfl) fun y71 => ?_
    refine zs_if_eq (pc := 74) (tgt := 79) d_Mo_make_74 rfl (fun q74 => ?_) (fun q74 => ?_)
    · exact jj_Mo_make_79 hd fu a0 a1 a2 a3 a4 H
    · refine zs_iconst (pc := 77) (v := (-1 : Int32)) d_Mo_make_77 (by decide) ?_
      exact zs_iret (pc := 78) d_Mo_make_78 rfl (Nat.le_of_ble_eq_true rfl) (Nat.le_of_ble_eq_true rfl) rfl
theorem jj_Mo_make_48 {E : zE} {d : Nat} (hd : 3 ≤ d) (fu : Nat) : ∀ (a0 : Option Nat) (a1 : Int32) (a2 : Int32) (a3 : Int32) (a4 : Int32) (H : zH), z_S E jM_Mo_make d 0 0 zwI 48 [(0, zR a0), (1, zI a1), (2, zI a2), (3, zI a3), (4, zI a4)] [] H 0 0 (jJ_Mo_make_48 fu a0 a1 a2 a3 a4 H) := by
  intro a0 a1 a2 a3 a4 H
  unfold jJ_Mo_make_48
  refine zs_iload_n (pc := 48) (x := a1) d_Mo_make_48 rfl ?_
  refine zs_bipush (pc := 49) (v := (6 : Int32)) d_Mo_make_49 (by decide) ?_
  refine zs_icmp_ne (pc := 51) (tgt := 64) d_Mo_make_51 rfl (fun q51 => ?_) (fun q51 => ?_)
  · exact jj_Mo_make_64 hd fu a0 a1 a2 a3 a4 H
  · refine zs_aload_n (pc := 54) (x := a0) d_Mo_make_54 rfl ?_
    refine zs_iload_n (pc := 55) (x := a3) d_Mo_make_55 rfl ?_
    refine zs_iload (pc := 56) (x := a4) d_Mo_make_56 rfl ?_
    refine zs_callv_rI (pc := 58) (av := [zI a3, zI a4]) (st := []) (d' := 1) (C' := 0) (S' := 0) d_Mo_make_58 kV_Mo_102 z_okb (jm_Mo_badUnion (d := 1) (Nat.le_refl _) a0 a3 a4 H) (by omega) (Nat.le_of_ble_eq_true rfl) (Nat.le_of_ble_eq_true rfl) rfl rfl (Nat.le_of_ble_eq_true rfl) fun y58 => ?_
    refine zs_if_ne (pc := 61) (tgt := 77) d_Mo_make_61 rfl (fun q61 => ?_) (fun q61 => ?_)
    · refine zs_iconst (pc := 77) (v := (-1 : Int32)) d_Mo_make_77 (by decide) ?_
      exact zs_iret (pc := 78) d_Mo_make_78 rfl (Nat.le_of_ble_eq_true rfl) (Nat.le_of_ble_eq_true rfl) rfl
    · exact jj_Mo_make_64 hd fu a0 a1 a2 a3 a4 H
theorem jj_Mo_make_35 {E : zE} {d : Nat} (hd : 3 ≤ d) (fu : Nat) : ∀ (a0 : Option Nat) (a1 : Int32) (a2 : Int32) (a3 : Int32) (a4 : Int32) (H : zH), z_S E jM_Mo_make d 0 0 zwI 35 [(0, zR a0), (1, zI a1), (2, zI a2), (3, zI a3), (4, zI a4)] [] H 0 0 (jJ_Mo_make_35 fu a0 a1 a2 a3 a4 H) := by
  intro a0 a1 a2 a3 a4 H
  unfold jJ_Mo_make_35
  refine zs_iload_n (pc := 35) (x := a1) d_Mo_make_35 rfl ?_
  refine zs_iconst (pc := 36) (v := (5 : Int32)) d_Mo_make_36 (by decide) ?_
  refine zs_icmp_ne (pc := 37) (tgt := 48) d_Mo_make_37 rfl (fun q37 => ?_) (fun q37 => ?_)
  · exact jj_Mo_make_48 hd fu a0 a1 a2 a3 a4 H
  · refine zs_aload_n (pc := 40) (x := a0) d_Mo_make_40 rfl ?_
    refine zs_iload_n (pc := 41) (x := a3) d_Mo_make_41 rfl ?_
    refine zs_callv_rI (pc := 42) (av := [zI a3]) (st := []) (d' := 0) (C' := 0) (S' := 0) d_Mo_make_42 kV_Mo_92 z_okb (jm_Mo_noSchema (d := 0) (Nat.le_refl _) a0 a3 H) (by omega) (Nat.le_of_ble_eq_true rfl) (Nat.le_of_ble_eq_true rfl) rfl rfl (Nat.le_of_ble_eq_true rfl) fun y42 => ?_
    refine zs_if_ne (pc := 45) (tgt := 77) d_Mo_make_45 rfl (fun q45 => ?_) (fun q45 => ?_)
    · refine zs_iconst (pc := 77) (v := (-1 : Int32)) d_Mo_make_77 (by decide) ?_
      exact zs_iret (pc := 78) d_Mo_make_78 rfl (Nat.le_of_ble_eq_true rfl) (Nat.le_of_ble_eq_true rfl) rfl
    · exact jj_Mo_make_48 hd fu a0 a1 a2 a3 a4 H
theorem jm_Mo_make {E : zE} {d : Nat} (hd : 3 ≤ d) (fu : Nat) (a0 : Option Nat) (a1 : Int32) (a2 : Int32) (a3 : Int32) (a4 : Int32) (H : zH) : z_MS E jM_Mo_make d 0 0 zwI [zR a0, zI a1, zI a2, zI a3, zI a4] H (jF_Mo_make fu a0 a1 a2 a3 a4 H) := by
  refine zs_of (lv0 := [(0, zR a0), (1, zI a1), (2, zI a2), (3, zI a3), (4, zI a4)]) pn_Mo (Nat.le_of_ble_eq_true rfl) rfl ?_
  unfold jF_Mo_make
  refine zs_bind fun _ _ => ?_
  refine zs_aload_n (pc := 0) (x := a0) d_Mo_make_0 rfl ?_
  refine zs_getI (pc := 1) d_Mo_make_1 kF_Mo_75 fun v1 => ?_
  refine zs_bipush (pc := 4) (v := (24 : Int32)) d_Mo_make_4 (by decide) ?_
  refine zs_icmp_eq (pc := 6) (tgt := 77) d_Mo_make_6 rfl (fun q6 => ?_) (fun q6 => ?_)
  · refine zs_iconst (pc := 77) (v := (-1 : Int32)) d_Mo_make_77 (by decide) ?_
    exact zs_iret (pc := 78) d_Mo_make_78 rfl (Nat.le_of_ble_eq_true rfl) (Nat.le_of_ble_eq_true rfl) rfl
  · refine zs_iload_n (pc := 9) (x := a1) d_Mo_make_9 rfl ?_
    refine zs_if_lt (pc := 10) (tgt := 77) d_Mo_make_10 rfl (fun q10 => ?_) (fun q10 => ?_)
    · refine zs_iconst (pc := 77) (v := (-1 : Int32)) d_Mo_make_77 (by decide) ?_
      exact zs_iret (pc := 78) d_Mo_make_78 rfl (Nat.le_of_ble_eq_true rfl) (Nat.le_of_ble_eq_true rfl) rfl
    · refine zs_iload_n (pc := 13) (x := a1) d_Mo_make_13 rfl ?_
      refine zs_bipush (pc := 14) (v := (7 : Int32)) d_Mo_make_14 (by decide) ?_
      refine zs_icmp_gt (pc := 16) (tgt := 77) d_Mo_make_16 rfl (fun q16 => ?_) (fun q16 => ?_)
      · refine zs_iconst (pc := 77) (v := (-1 : Int32)) d_Mo_make_77 (by decide) ?_
        exact zs_iret (pc := 78) d_Mo_make_78 rfl (Nat.le_of_ble_eq_true rfl) (Nat.le_of_ble_eq_true rfl) rfl
      · refine zs_iload_n (pc := 19) (x := a1) d_Mo_make_19 rfl ?_
        refine zs_iconst (pc := 20) (v := (4 : Int32)) d_Mo_make_20 (by decide) ?_
        refine zs_icmp_ne (pc := 21) (tgt := 35) d_Mo_make_21 rfl (fun q21 => ?_) (fun q21 => ?_)
        · exact jj_Mo_make_35 hd fu a0 a1 a2 a3 a4 H
        · refine zs_aload_n (pc := 24) (x := a0) d_Mo_make_24 rfl ?_
          refine zs_iload_n (pc := 25) (x := a2) d_Mo_make_25 rfl ?_
          refine zs_iload_n (pc := 26) (x := a3) d_Mo_make_26 rfl ?_
          refine zs_iload (pc := 27) (x := a4) d_Mo_make_27 rfl ?_
          refine zs_callv_rI (pc := 29) (av := [zI a2, zI a3, zI a4]) (st := []) (d' := 1) (C' := 0) (S' := 0) d_Mo_make_29 kV_Mo_98 z_okb (jm_Mo_badEnum (d := 1) (Nat.le_refl _) a0 a2 a3 a4 H) (by omega) (Nat.le_of_ble_eq_true rfl) (Nat.le_of_ble_eq_true rfl) rfl rfl (Nat.le_of_ble_eq_true rfl) fun y29 => ?_
          refine zs_if_ne (pc := 32) (tgt := 77) d_Mo_make_32 rfl (fun q32 => ?_) (fun q32 => ?_)
          · refine zs_iconst (pc := 77) (v := (-1 : Int32)) d_Mo_make_77 (by decide) ?_
            exact zs_iret (pc := 78) d_Mo_make_78 rfl (Nat.le_of_ble_eq_true rfl) (Nat.le_of_ble_eq_true rfl) rfl
          · exact jj_Mo_make_35 hd fu a0 a1 a2 a3 a4 H
