def jL_Mo_decode_230 (fu : Nat) (k11 : Option Nat → Int32 → Int32 → zH → Option (Int32 × zH)) : Nat → Option Nat → Int32 → Int32 → Int32 → Int64 → Int32 → zH → Option (Int32 × zH)
  | 0, _, _, _, _, _, _, _ => none
  | g + 1, a0, a2, a3, a4, a6, a8, H =>
    if a6.toInt32 ≤ a8 then (
      k11 a0 (a2 + a6.toInt32) a3 H)
    else (
      (zgR H a0 1 31).bind fun v239 =>
      (zgR H a0 1 3).bind fun v247 =>
      (zaI H v247 0 a4).bind fun v252 =>
      (zsI H v239 0 (a2 + a8) v252).bind fun H253 =>
      jL_Mo_decode_230 fu k11 g a0 a2 a3 a4 a6 (a8 + (1 : Int32)) H253)
def jJ_Mo_decode_204 (fu : Nat) (k11 : Option Nat → Int32 → Int32 → zH → Option (Int32 × zH)) (a0 : Option Nat) (a2 : Int32) (a3 : Int32) (a4 : Int32) (a5 : Int32) (a6 : Int64) (H : zH) : Option (Int32 × zH) :=
  if a5 = (5 : Int32) then (
    if a6 ≤ (0 : Int64) then (
      k11 a0 a2 a3 H)
    else (
      (zgR H a0 1 31).bind fun v218 =>
      (zsI H v218 0 a2 (-1 : Int32)).bind fun H223 =>
      jL_Mo_decode_230 fu k11 fu a0 (a2 + (1 : Int32)) a3 a4 a6 (0 : Int32) H223))
  else (
    k11 a0 a2 a3 H)
def jJ_Mo_decode_200 (fu : Nat) (k11 : Option Nat → Int32 → Int32 → zH → Option (Int32 × zH)) (s0 : Int32) (s1 : Int32) (s2 : Option Nat) (a0 : Option Nat) (a2 : Int32) (a3 : Int32) (a4 : Int32) (a5 : Int32) (a6 : Int64) (H : zH) : Option (Int32 × zH) :=
  (zsI H s2 0 s1 s0).bind fun H200 =>
  jJ_Mo_decode_204 fu k11 a0 (a2 + (1 : Int32)) a3 a4 a5 a6 H200
def jJ_Mo_decode_160 (fu : Nat) (k11 : Option Nat → Int32 → Int32 → zH → Option (Int32 × zH)) (s0 : Int64) (s1 : Int32) (s2 : Option Nat) (a0 : Option Nat) (a2 : Int32) (a3 : Int32) (a4 : Int32) (a5 : Int32) (a6 : Int64) (H : zH) : Option (Int32 × zH) :=
  (zsL H s2 2 s1 s0).bind fun H160 =>
  if a5 = (6 : Int32) then (
    (zgR H160 a0 1 31).bind fun v172 =>
    if a6 = (0 : Int64) then (
      (zgR H160 a0 1 3).bind fun v184 =>
      (zaI H160 v184 0 a4).bind fun v189 =>
      jJ_Mo_decode_200 fu k11 v189 a2 v172 a0 a2 (a3 + (1 : Int32)) a4 a5 a6 H160)
    else (
      (zgR H160 a0 1 4).bind fun v194 =>
      (zaI H160 v194 0 a4).bind fun v199 =>
      jJ_Mo_decode_200 fu k11 v199 a2 v172 a0 a2 (a3 + (1 : Int32)) a4 a5 a6 H160))
  else (
    jJ_Mo_decode_204 fu k11 a0 a2 (a3 + (1 : Int32)) a4 a5 a6 H160)
def jJ_Mo_decode_126 (fu : Nat) (k11 : Option Nat → Int32 → Int32 → zH → Option (Int32 × zH)) (s0 : Int32) (s1 : Int32) (s2 : Option Nat) (a0 : Option Nat) (a2 : Int32) (a3 : Int32) (a4 : Int32) (a5 : Int32) (a6 : Int64) (H : zH) : Option (Int32 × zH) :=
  (zpV H s2 1 33 (zI (s1 + s0))).bind fun H127 =>
  (zgR H127 a0 1 30).bind fun v131 =>
  if a5 = (4 : Int32) then (
    (zgR H127 a0 1 3).bind fun v142 =>
    (zaI H127 v142 0 a4).bind fun v147 =>
    (jF_Mo_symbol fu v147 a6.toInt32 H127).bind fun y151 =>
    jJ_Mo_decode_160 fu k11 y151.toInt64 a3 v131 a0 a2 a3 a4 a5 a6 H127)
  else (
    jJ_Mo_decode_160 fu k11 a6 a3 v131 a0 a2 a3 a4 a5 a6 H127)
def jJ_Mo_decode_108 (fu : Nat) (k11 : Option Nat → Int32 → Int32 → zH → Option (Int32 × zH)) (s0 : Int64) (a0 : Option Nat) (a2 : Int32) (a3 : Int32) (a4 : Int32) (a5 : Int32) (H : zH) : Option (Int32 × zH) :=
  (zgI H a0 1 33).bind fun v112 =>
  if a5 = (1 : Int32) then (
    jJ_Mo_decode_126 fu k11 (1 : Int32) v112 a0 a0 a2 a3 a4 a5 s0 H)
  else (
    jJ_Mo_decode_126 fu k11 (0 : Int32) v112 a0 a0 a2 a3 a4 a5 s0 H)
def jJ_Mo_decode_42 (fu : Nat) (k11 : Option Nat → Int32 → Int32 → zH → Option (Int32 × zH)) (s0 : Int32) (a0 : Option Nat) (a2 : Int32) (a3 : Int32) (a4 : Int32) (H : zH) : Option (Int32 × zH) :=
  if 0 ≤ s0 then (
    if s0 = (7 : Int32) then (
      (jF_Mo_fieldsCome fu a0 a4 a2 H).bind fun y73 =>
      k11 a0 y73.1 a3 y73.2)
    else (
      if s0 = 0 then (
        k11 a0 a2 a3 H)
      else (
        if s0 = (1 : Int32) then (
          (zgR H a0 1 14).bind fun v92 =>
          (zgI H a0 1 33).bind fun v96 =>
          (zaI H v92 0 v96).bind fun v99 =>
          jJ_Mo_decode_108 fu k11 v99.toInt64 a0 a2 a3 a4 s0 H)
        else (
          (jF_Mo_varint fu a0 H).bind fun y105 =>
          jJ_Mo_decode_108 fu k11 y105.1 a0 a2 a3 a4 s0 y105.2))))
  else (
    (zgI H a0 1 33).bind fun v51 =>
    (zpV H a0 1 33 (zI (v51 + (1 : Int32)))).bind fun H56 =>
    k11 a0 a2 a3 H56)
def jL_Mo_decode_11 (fu : Nat) : Nat → Option Nat → Int32 → Int32 → zH → Option (Int32 × zH)
  | 0, _, _, _, _ => none
  | g + 1, a0, a2, a3, H =>
    if a2 ≤ 0 then (
      some (a3, H))
    else (
      (zgR H a0 1 31).bind fun v19 =>
      (zaI H v19 0 (a2 + (-1 : Int32))).bind fun v23 =>
      if 0 ≤ v23 then (
        (zgR H a0 1 1).bind fun v36 =>
        (zaI H v36 0 v23).bind fun v41 =>
        jJ_Mo_decode_42 fu (fun x0 x1 x2 x3 => jL_Mo_decode_11 fu g x0 x1 x2 x3) v41 a0 (a2 + (-1 : Int32)) a3 v23 H)
      else (
        jJ_Mo_decode_42 fu (fun x0 x1 x2 x3 => jL_Mo_decode_11 fu g x0 x1 x2 x3) (-1 : Int32) a0 (a2 + (-1 : Int32)) a3 v23 H))
def jF_Mo_decode (fu : Nat) (a0 : Option Nat) (a1 : Int32) (H : zH) : Option (Int32 × zH) :=
  (zok H a0 1).bind fun _ =>
  (zgR H a0 1 31).bind fun v5 =>
  (zsI H v5 0 (0 : Int32) a1).bind fun H10 =>
  jL_Mo_decode_11 fu fu a0 (1 : Int32) (0 : Int32) H10
theorem jl_Mo_decode_230 {E : zE} {d : Nat} (hd : 2 ≤ d) (fu : Nat) (k11 : Option Nat → Int32 → Int32 → zH → Option (Int32 × zH)) (hk11 : ∀ (a0 : Option Nat) (a2 : Int32) (a3 : Int32) (H : zH), z_S E jM_Mo_decode d 0 0 zwI 11 [(0, zR a0), (2, zI a2), (3, zI a3)] [] H 0 0 (k11 a0 a2 a3 H)) : ∀ (g : Nat), ∀ (a0 : Option Nat) (a2 : Int32) (a3 : Int32) (a4 : Int32) (a6 : Int64) (a8 : Int32) (H : zH), z_S E jM_Mo_decode d 0 0 zwI 230 [(0, zR a0), (2, zI a2), (3, zI a3), (4, zI a4), (6, zL a6), (8, zI a8)] [] H 0 0 (jL_Mo_decode_230 fu k11 g a0 a2 a3 a4 a6 a8 H) := by
  intro g
  induction g with
  | zero => intros; exact zs_none
  | succ g ih =>
    intro a0 a2 a3 a4 a6 a8 H
    rw [jL_Mo_decode_230]
    refine zs_iload (pc := 230) (x := a8) d_Mo_decode_230 rfl ?_
    refine zs_lload (pc := 232) (x := a6) d_Mo_decode_232 rfl ?_
    refine zs_l2i (pc := 234) d_Mo_decode_234 ?_
    refine zs_icmp_ge (pc := 235) (tgt := 260) d_Mo_decode_235 rfl (fun q235 => ?_) (fun q235 => ?_)
    · refine zs_iload_n (pc := 260) (x := a2) d_Mo_decode_260 rfl ?_
      refine zs_lload (pc := 261) (x := a6) d_Mo_decode_261 rfl ?_
      refine zs_l2i (pc := 263) d_Mo_decode_263 ?_
      refine zs_iadd (pc := 264) d_Mo_decode_264 ?_
      refine zs_istore_n (pc := 265) (lv' := [(2, zI (a2 + a6.toInt32)), (0, zR a0), (3, zI a3), (4, zI a4), (6, zL a6), (8, zI a8)]) d_Mo_decode_265 (Nat.le_of_ble_eq_true rfl) rfl ?_
      refine zs_goto (pc := 266) (tgt := 11) d_Mo_decode_266 rfl ?_
      refine zs_sub (lv' := [(0, zR a0), (2, zI (a2 + a6.toInt32)), (3, zI a3)]) [1, 0, 2] rfl ?_
      exact hk11 a0 (a2 + a6.toInt32) a3 H
    · refine zs_aload_n (pc := 238) (x := a0) d_Mo_decode_238 rfl ?_
      refine zs_getR (pc := 239) d_Mo_decode_239 kF_Mo_69 fun v239 => ?_
      refine zs_iload_n (pc := 242) (x := a2) d_Mo_decode_242 rfl ?_
      refine zs_iload (pc := 243) (x := a8) d_Mo_decode_243 rfl ?_
      refine zs_iadd (pc := 245) d_Mo_decode_245 ?_
      refine zs_aload_n (pc := 246) (x := a0) d_Mo_decode_246 rfl ?_
      refine zs_getR (pc := 247) d_Mo_decode_247 kF_Mo_16 fun v247 => ?_
      refine zs_iload (pc := 250) (x := a4) d_Mo_decode_250 rfl ?_
      refine zs_iald (t := 0) (pc := 252) d_Mo_decode_252 rfl fun v252 => ?_
      refine zs_iast (t := 0) (pc := 253) d_Mo_decode_253 rfl fun H253 => ?_
      refine zs_iinc (pc := 254) (x := a8) (v := (a8 + (1 : Int32))) (lv' := [(8, zI (a8 + (1 : Int32))), (0, zR a0), (2, zI a2), (3, zI a3), (4, zI a4), (6, zL a6)]) d_Mo_decode_254 rfl rfl (Nat.le_of_ble_eq_true rfl) rfl ?_
      refine zs_goto (pc := 257) (tgt := 230) d_Mo_decode_257 rfl ?_
      refine zs_sub (lv' := [(0, zR a0), (2, zI a2), (3, zI a3), (4, zI a4), (6, zL a6), (8, zI (a8 + (1 : Int32)))]) [1, 2, 3, 4, 5, 0] rfl ?_
      exact ih a0 a2 a3 a4 a6 (a8 + (1 : Int32)) H253
theorem jj_Mo_decode_204 {E : zE} {d : Nat} (hd : 2 ≤ d) (fu : Nat) (k11 : Option Nat → Int32 → Int32 → zH → Option (Int32 × zH)) (hk11 : ∀ (a0 : Option Nat) (a2 : Int32) (a3 : Int32) (H : zH), z_S E jM_Mo_decode d 0 0 zwI 11 [(0, zR a0), (2, zI a2), (3, zI a3)] [] H 0 0 (k11 a0 a2 a3 H)) : ∀ (a0 : Option Nat) (a2 : Int32) (a3 : Int32) (a4 : Int32) (a5 : Int32) (a6 : Int64) (H : zH), z_S E jM_Mo_decode d 0 0 zwI 204 [(0, zR a0), (2, zI a2), (3, zI a3), (4, zI a4), (5, zI a5), (6, zL a6)] [] H 0 0 (jJ_Mo_decode_204 fu k11 a0 a2 a3 a4 a5 a6 H) := by
  intro a0 a2 a3 a4 a5 a6 H
  unfold jJ_Mo_decode_204
  refine zs_iload (pc := 204) (x := a5) d_Mo_decode_204 rfl ?_
  refine zs_iconst (pc := 206) (v := (5 : Int32)) d_Mo_decode_206 (by decide) ?_
  refine zs_icmp_ne (pc := 207) (tgt := 266) d_Mo_decode_207 rfl (fun q207 => ?_) (fun q207 => ?_)
  · refine zs_goto (pc := 266) (tgt := 11) d_Mo_decode_266 rfl ?_
    refine zs_sub (lv' := [(0, zR a0), (2, zI a2), (3, zI a3)]) [0, 1, 2] rfl ?_
    exact hk11 a0 a2 a3 H
  · refine zs_lload (pc := 210) (x := a6) d_Mo_decode_210 rfl ?_
    refine zs_lconst (pc := 212) (v := (0 : Int64)) d_Mo_decode_212 (by decide) ?_
    refine zs_lcmp_le (pc := 213) (tgt := 266) d_Mo_decode_213 d_Mo_decode_214 rfl (fun q213 => ?_) (fun q213 => ?_)
    · refine zs_goto (pc := 266) (tgt := 11) d_Mo_decode_266 rfl ?_
      refine zs_sub (lv' := [(0, zR a0), (2, zI a2), (3, zI a3)]) [0, 1, 2] rfl ?_
      exact hk11 a0 a2 a3 H
    · refine zs_aload_n (pc := 217) (x := a0) d_Mo_decode_217 rfl ?_
      refine zs_getR (pc := 218) d_Mo_decode_218 kF_Mo_69 fun v218 => ?_
      refine zs_iload_n (pc := 221) (x := a2) d_Mo_decode_221 rfl ?_
      refine zs_iconst (pc := 222) (v := (-1 : Int32)) d_Mo_decode_222 (by decide) ?_
      refine zs_iast (t := 0) (pc := 223) d_Mo_decode_223 rfl fun H223 => ?_
      refine zs_iinc (pc := 224) (x := a2) (v := (a2 + (1 : Int32))) (lv' := [(2, zI (a2 + (1 : Int32))), (0, zR a0), (3, zI a3), (4, zI a4), (5, zI a5), (6, zL a6)]) d_Mo_decode_224 rfl rfl (Nat.le_of_ble_eq_true rfl) rfl ?_
      refine zs_iconst (pc := 227) (v := (0 : Int32)) d_Mo_decode_227 (by decide) ?_
      refine zs_istore (pc := 228) (lv' := [(8, zI (0 : Int32)), (2, zI (a2 + (1 : Int32))), (0, zR a0), (3, zI a3), (4, zI a4), (5, zI a5), (6, zL a6)]) d_Mo_decode_228 (Nat.le_of_ble_eq_true rfl) rfl ?_
      refine zs_sub (lv' := [(0, zR a0), (2, zI (a2 + (1 : Int32))), (3, zI a3), (4, zI a4), (6, zL a6), (8, zI (0 : Int32))]) [2, 1, 3, 4, 6, 0] rfl ?_
      exact jl_Mo_decode_230 hd fu k11 hk11 fu a0 (a2 + (1 : Int32)) a3 a4 a6 (0 : Int32) H223
theorem jj_Mo_decode_200 {E : zE} {d : Nat} (hd : 2 ≤ d) (fu : Nat) (k11 : Option Nat → Int32 → Int32 → zH → Option (Int32 × zH)) (hk11 : ∀ (a0 : Option Nat) (a2 : Int32) (a3 : Int32) (H : zH), z_S E jM_Mo_decode d 0 0 zwI 11 [(0, zR a0), (2, zI a2), (3, zI a3)] [] H 0 0 (k11 a0 a2 a3 H)) : ∀ (s0 : Int32) (s1 : Int32) (s2 : Option Nat) (a0 : Option Nat) (a2 : Int32) (a3 : Int32) (a4 : Int32) (a5 : Int32) (a6 : Int64) (H : zH), z_S E jM_Mo_decode d 0 0 zwI 200 [(0, zR a0), (2, zI a2), (3, zI a3), (4, zI a4), (5, zI a5), (6, zL a6)] [zI s0, zI s1, zR s2] H 0 0 (jJ_Mo_decode_200 fu k11 s0 s1 s2 a0 a2 a3 a4 a5 a6 H) := by
  intro s0 s1 s2 a0 a2 a3 a4 a5 a6 H
  unfold jJ_Mo_decode_200
  refine zs_iast (t := 0) (pc := 200) d_Mo_decode_200 rfl fun H200 => ?_
  refine zs_iinc (pc := 201) (x := a2) (v := (a2 + (1 : Int32))) (lv' := [(2, zI (a2 + (1 : Int32))), (0, zR a0), (3, zI a3), (4, zI a4), (5, zI a5), (6, zL a6)]) d_Mo_decode_201 rfl rfl (Nat.le_of_ble_eq_true rfl) rfl ?_
  refine zs_sub (lv' := [(0, zR a0), (2, zI (a2 + (1 : Int32))), (3, zI a3), (4, zI a4), (5, zI a5), (6, zL a6)]) [1, 0, 2, 3, 4, 5] rfl ?_
  exact jj_Mo_decode_204 hd fu k11 hk11 a0 (a2 + (1 : Int32)) a3 a4 a5 a6 H200
theorem jj_Mo_decode_160 {E : zE} {d : Nat} (hd : 2 ≤ d) (fu : Nat) (k11 : Option Nat → Int32 → Int32 → zH → Option (Int32 × zH)) (hk11 : ∀ (a0 : Option Nat) (a2 : Int32) (a3 : Int32) (H : zH), z_S E jM_Mo_decode d 0 0 zwI 11 [(0, zR a0), (2, zI a2), (3, zI a3)] [] H 0 0 (k11 a0 a2 a3 H)) : ∀ (s0 : Int64) (s1 : Int32) (s2 : Option Nat) (a0 : Option Nat) (a2 : Int32) (a3 : Int32) (a4 : Int32) (a5 : Int32) (a6 : Int64) (H : zH), z_S E jM_Mo_decode d 0 0 zwI 160 [(0, zR a0), (2, zI a2), (3, zI a3), (4, zI a4), (5, zI a5), (6, zL a6)] [zL s0, zI s1, zR s2] H 0 0 (jJ_Mo_decode_160 fu k11 s0 s1 s2 a0 a2 a3 a4 a5 a6 H) := by
  intro s0 s1 s2 a0 a2 a3 a4 a5 a6 H
  unfold jJ_Mo_decode_160
  refine zs_last (t := 2) (pc := 160) d_Mo_decode_160 rfl fun H160 => ?_
  refine zs_iinc (pc := 161) (x := a3) (v := (a3 + (1 : Int32))) (lv' := [(3, zI (a3 + (1 : Int32))), (0, zR a0), (2, zI a2), (4, zI a4), (5, zI a5), (6, zL a6)]) d_Mo_decode_161 rfl rfl (Nat.le_of_ble_eq_true rfl) rfl ?_
  refine zs_iload (pc := 164) (x := a5) d_Mo_decode_164 rfl ?_
  refine zs_bipush (pc := 166) (v := (6 : Int32)) d_Mo_decode_166 (by decide) ?_
  refine zs_icmp_ne (pc := 168) (tgt := 204) d_Mo_decode_168 rfl (fun q168 => ?_) (fun q168 => ?_)
  · refine zs_sub (lv' := [(0, zR a0), (2, zI a2), (3, zI (a3 + (1 : Int32))), (4, zI a4), (5, zI a5), (6, zL a6)]) [1, 2, 0, 3, 4, 5] rfl ?_
    exact jj_Mo_decode_204 hd fu k11 hk11 a0 a2 (a3 + (1 : Int32)) a4 a5 a6 H160
  · refine zs_aload_n (pc := 171) (x := a0) d_Mo_decode_171 rfl ?_
    refine zs_getR (pc := 172) d_Mo_decode_172 kF_Mo_69 fun v172 => ?_
    refine zs_iload_n (pc := 175) (x := a2) d_Mo_decode_175 rfl ?_
    refine zs_lload (pc := 176) (x := a6) d_Mo_decode_176 rfl ?_
    refine zs_lconst (pc := 178) (v := (0 : Int64)) d_Mo_decode_178 (by decide) ?_
    refine zs_lcmp_ne (pc := 179) (tgt := 193) d_Mo_decode_179 d_Mo_decode_180 rfl (fun q179 => ?_) (fun q179 => ?_)
    · refine zs_aload_n (pc := 193) (x := a0) d_Mo_decode_193 rfl ?_
      refine zs_getR (pc := 194) d_Mo_decode_194 kF_Mo_19 fun v194 => ?_
      refine zs_iload (pc := 197) (x := a4) d_Mo_decode_197 rfl ?_
      refine zs_iald (t := 0) (pc := 199) d_Mo_decode_199 rfl fun v199 => ?_
      refine zs_sub (lv' := [(0, zR a0), (2, zI a2), (3, zI (a3 + (1 : Int32))), (4, zI a4), (5, zI a5), (6, zL a6)]) [1, 2, 0, 3, 4, 5] rfl ?_
      exact jj_Mo_decode_200 hd fu k11 hk11 v199 a2 v172 a0 a2 (a3 + (1 : Int32)) a4 a5 a6 H160
    · refine zs_aload_n (pc := 183) (x := a0) d_Mo_decode_183 rfl ?_
      refine zs_getR (pc := 184) d_Mo_decode_184 kF_Mo_16 fun v184 => ?_
      refine zs_iload (pc := 187) (x := a4) d_Mo_decode_187 rfl ?_
      refine zs_iald (t := 0) (pc := 189) d_Mo_decode_189 rfl fun v189 => ?_
      refine zs_goto (pc := 190) (tgt := 200) d_Mo_decode_190 rfl ?_
      refine zs_sub (lv' := [(0, zR a0), (2, zI a2), (3, zI (a3 + (1 : Int32))), (4, zI a4), (5, zI a5), (6, zL a6)]) [1, 2, 0, 3, 4, 5] rfl ?_
      exact jj_Mo_decode_200 hd fu k11 hk11 v189 a2 v172 a0 a2 (a3 + (1 : Int32)) a4 a5 a6 H160
theorem jj_Mo_decode_126 {E : zE} {d : Nat} (hd : 2 ≤ d) (fu : Nat) (k11 : Option Nat → Int32 → Int32 → zH → Option (Int32 × zH)) (hk11 : ∀ (a0 : Option Nat) (a2 : Int32) (a3 : Int32) (H : zH), z_S E jM_Mo_decode d 0 0 zwI 11 [(0, zR a0), (2, zI a2), (3, zI a3)] [] H 0 0 (k11 a0 a2 a3 H)) : ∀ (s0 : Int32) (s1 : Int32) (s2 : Option Nat) (a0 : Option Nat) (a2 : Int32) (a3 : Int32) (a4 : Int32) (a5 : Int32) (a6 : Int64) (H : zH), z_S E jM_Mo_decode d 0 0 zwI 126 [(0, zR a0), (2, zI a2), (3, zI a3), (4, zI a4), (5, zI a5), (6, zL a6)] [zI s0, zI s1, zR s2] H 0 0 (jJ_Mo_decode_126 fu k11 s0 s1 s2 a0 a2 a3 a4 a5 a6 H) := by
  intro s0 s1 s2 a0 a2 a3 a4 a5 a6 H
  unfold jJ_Mo_decode_126
  refine zs_iadd (pc := 126) d_Mo_decode_126 ?_
  refine zs_put (pc := 127) d_Mo_decode_127 kP_Mo_148 z_fitI fun H127 => ?_
  refine zs_aload_n (pc := 130) (x := a0) d_Mo_decode_130 rfl ?_
  refine zs_getR (pc := 131) d_Mo_decode_131 kF_Mo_66 fun v131 => ?_
  refine zs_iload_n (pc := 134) (x := a3) d_Mo_decode_134 rfl ?_
  refine zs_iload (pc := 135) (x := a5) d_Mo_decode_135 rfl ?_
  refine zs_iconst (pc := 137) (v := (4 : Int32)) d_Mo_decode_137 (by decide) ?_
  refine zs_icmp_ne (pc := 138) (tgt := 158) d_Mo_decode_138 rfl (fun q138 => ?_) (fun q138 => ?_)
  · refine zs_lload (pc := 158) (x := a6) d_Mo_decode_158 rfl ?_
    exact jj_Mo_decode_160 hd fu k11 hk11 a6 a3 v131 a0 a2 a3 a4 a5 a6 H127
  · refine zs_aload_n (pc := 141) (x := a0) d_Mo_decode_141 rfl ?_
    refine zs_getR (pc := 142) d_Mo_decode_142 kF_Mo_16 fun v142 => ?_
    refine zs_iload (pc := 145) (x := a4) d_Mo_decode_145 rfl ?_
    refine zs_iald (t := 0) (pc := 147) d_Mo_decode_147 rfl fun v147 => ?_
    refine zs_lload (pc := 148) (x := a6) d_Mo_decode_148 rfl ?_
    refine zs_l2i (pc := 150) d_Mo_decode_150 ?_
    refine zs_calls_rI (pc := 151) (av := [zI v147, zI a6.toInt32]) (st := [zI a3, zR v131]) (d' := 1) (C' := 0) (S' := 0) d_Mo_decode_151 kS_Mo_155 (jm_Mo_symbol (d := 1) (Nat.le_refl _) fu v147 a6.toInt32 H127) (by omega) (Nat.le_of_ble_eq_true rfl) (Nat.le_of_ble_eq_true rfl) rfl rfl (Nat.le_of_ble_eq_true rfl) fun y151 => ?_
    refine zs_i2l (pc := 154) d_Mo_decode_154 ?_
    refine zs_goto (pc := 155) (tgt := 160) d_Mo_decode_155 rfl ?_
    exact jj_Mo_decode_160 hd fu k11 hk11 y151.toInt64 a3 v131 a0 a2 a3 a4 a5 a6 H127
theorem jj_Mo_decode_108 {E : zE} {d : Nat} (hd : 2 ≤ d) (fu : Nat) (k11 : Option Nat → Int32 → Int32 → zH → Option (Int32 × zH)) (hk11 : ∀ (a0 : Option Nat) (a2 : Int32) (a3 : Int32) (H : zH), z_S E jM_Mo_decode d 0 0 zwI 11 [(0, zR a0), (2, zI a2), (3, zI a3)] [] H 0 0 (k11 a0 a2 a3 H)) : ∀ (s0 : Int64) (a0 : Option Nat) (a2 : Int32) (a3 : Int32) (a4 : Int32) (a5 : Int32) (H : zH), z_S E jM_Mo_decode d 0 0 zwI 108 [(0, zR a0), (2, zI a2), (3, zI a3), (4, zI a4), (5, zI a5)] [zL s0] H 0 0 (jJ_Mo_decode_108 fu k11 s0 a0 a2 a3 a4 a5 H) := by
  intro s0 a0 a2 a3 a4 a5 H
  unfold jJ_Mo_decode_108
  refine zs_lstore (pc := 108) (lv' := [(6, zL s0), (0, zR a0), (2, zI a2), (3, zI a3), (4, zI a4), (5, zI a5)]) d_Mo_decode_108 (Nat.le_of_ble_eq_true rfl) rfl ?_
  refine zs_aload_n (pc := 110) (x := a0) d_Mo_decode_110 rfl ?_
  refine zs_dup (pc := 111) d_Mo_decode_111 rfl ?_
  refine zs_getI (pc := 112) d_Mo_decode_112 kF_Mo_148 fun v112 => ?_
  refine zs_iload (pc := 115) (x := a5) d_Mo_decode_115 rfl ?_
  refine zs_iconst (pc := 117) (v := (1 : Int32)) d_Mo_decode_117 (by decide) ?_
  refine zs_icmp_ne (pc := 118) (tgt := 125) d_Mo_decode_118 rfl (fun q118 => ?_) (fun q118 => ?_)
  · refine zs_iconst (pc := 125) (v := (0 : Int32)) d_Mo_decode_125 (by decide) ?_
    refine zs_sub (lv' := [(0, zR a0), (2, zI a2), (3, zI a3), (4, zI a4), (5, zI a5), (6, zL s0)]) [1, 2, 3, 4, 5, 0] rfl ?_
    exact jj_Mo_decode_126 hd fu k11 hk11 (0 : Int32) v112 a0 a0 a2 a3 a4 a5 s0 H
  · refine zs_iconst (pc := 121) (v := (1 : Int32)) d_Mo_decode_121 (by decide) ?_
    refine zs_goto (pc := 122) (tgt := 126) d_Mo_decode_122 rfl ?_
    refine zs_sub (lv' := [(0, zR a0), (2, zI a2), (3, zI a3), (4, zI a4), (5, zI a5), (6, zL s0)]) [1, 2, 3, 4, 5, 0] rfl ?_
    exact jj_Mo_decode_126 hd fu k11 hk11 (1 : Int32) v112 a0 a0 a2 a3 a4 a5 s0 H
theorem jj_Mo_decode_42 {E : zE} {d : Nat} (hd : 2 ≤ d) (fu : Nat) (k11 : Option Nat → Int32 → Int32 → zH → Option (Int32 × zH)) (hk11 : ∀ (a0 : Option Nat) (a2 : Int32) (a3 : Int32) (H : zH), z_S E jM_Mo_decode d 0 0 zwI 11 [(0, zR a0), (2, zI a2), (3, zI a3)] [] H 0 0 (k11 a0 a2 a3 H)) : ∀ (s0 : Int32) (a0 : Option Nat) (a2 : Int32) (a3 : Int32) (a4 : Int32) (H : zH), z_S E jM_Mo_decode d 0 0 zwI 42 [(0, zR a0), (2, zI a2), (3, zI a3), (4, zI a4)] [zI s0] H 0 0 (jJ_Mo_decode_42 fu k11 s0 a0 a2 a3 a4 H) := by
  intro s0 a0 a2 a3 a4 H
  unfold jJ_Mo_decode_42
  refine zs_istore (pc := 42) (lv' := [(5, zI s0), (0, zR a0), (2, zI a2), (3, zI a3), (4, zI a4)]) d_Mo_decode_42 (Nat.le_of_ble_eq_true rfl) rfl ?_
  refine zs_iload (pc := 44) (x := s0) d_Mo_decode_44 rfl ?_
  refine zs_if_ge (pc := 46) (tgt := 62) d_Mo_decode_46 rfl (fun q46 => ?_) (fun q46 => ?_)
  · refine zs_iload (pc := 62) (x := s0) d_Mo_decode_62 rfl ?_
    refine zs_bipush (pc := 64) (v := (7 : Int32)) d_Mo_decode_64 (by decide) ?_
    refine zs_icmp_ne (pc := 66) (tgt := 80) d_Mo_decode_66 rfl (fun q66 => ?_) (fun q66 => ?_)
    · refine zs_iload (pc := 80) (x := s0) d_Mo_decode_80 rfl ?_
      refine zs_if_eq (pc := 82) (tgt := 266) d_Mo_decode_82 rfl (fun q82 => ?_) (fun q82 => ?_)
      · refine zs_goto (pc := 266) (tgt := 11) d_Mo_decode_266 rfl ?_
        refine zs_sub (lv' := [(0, zR a0), (2, zI a2), (3, zI a3)]) [1, 2, 3] rfl ?_
        exact hk11 a0 a2 a3 H
      · refine zs_iload (pc := 85) (x := s0) d_Mo_decode_85 rfl ?_
        refine zs_iconst (pc := 87) (v := (1 : Int32)) d_Mo_decode_87 (by decide) ?_
        refine zs_icmp_ne (pc := 88) (tgt := 104) d_Mo_decode_88 rfl (fun q88 => ?_) (fun q88 => ?_)
        · refine zs_aload_n (pc := 104) (x := a0) d_Mo_decode_104 rfl ?_
          refine zs_callv_wL (pc := 105) (av := []) (st := []) (d' := 0) (C' := 0) (S' := 0) d_Mo_decode_105 kV_Mo_151 z_okb (jm_Mo_varint (d := 0) (Nat.le_refl _) fu a0 H) (by omega) (Nat.le_of_ble_eq_true rfl) (Nat.le_of_ble_eq_true rfl) rfl rfl (Nat.le_of_ble_eq_true rfl) fun y105 => ?_
          refine zs_sub (lv' := [(0, zR a0), (2, zI a2), (3, zI a3), (4, zI a4), (5, zI s0)]) [1, 2, 3, 4, 0] rfl ?_
          exact jj_Mo_decode_108 hd fu k11 hk11 y105.1 a0 a2 a3 a4 s0 y105.2
        · refine zs_aload_n (pc := 91) (x := a0) d_Mo_decode_91 rfl ?_
          refine zs_getR (pc := 92) d_Mo_decode_92 kF_Mo_48 fun v92 => ?_
          refine zs_aload_n (pc := 95) (x := a0) d_Mo_decode_95 rfl ?_
          refine zs_getI (pc := 96) d_Mo_decode_96 kF_Mo_148 fun v96 => ?_
          refine zs_iald (t := 0) (pc := 99) d_Mo_decode_99 rfl fun v99 => ?_
          refine zs_i2l (pc := 100) d_Mo_decode_100 ?_
          refine zs_goto (pc := 101) (tgt := 108) d_Mo_decode_101 rfl ?_
          refine zs_sub (lv' := [(0, zR a0), (2, zI a2), (3, zI a3), (4, zI a4), (5, zI s0)]) [1, 2, 3, 4, 0] rfl ?_
          exact jj_Mo_decode_108 hd fu k11 hk11 v99.toInt64 a0 a2 a3 a4 s0 H
    · refine zs_aload_n (pc := 69) (x := a0) d_Mo_decode_69 rfl ?_
      refine zs_iload (pc := 70) (x := a4) d_Mo_decode_70 rfl ?_
      refine zs_iload_n (pc := 72) (x := a2) d_Mo_decode_72 rfl ?_
      refine zs_callv_wI (pc := 73) (av := [zI a4, zI a2]) (st := []) (d' := 0) (C' := 0) (S' := 0) d_Mo_decode_73 kV_Mo_123 z_okb (jm_Mo_fieldsCome (d := 0) (Nat.le_refl _) fu a0 a4 a2 H) (by omega) (Nat.le_of_ble_eq_true rfl) (Nat.le_of_ble_eq_true rfl) rfl rfl (Nat.le_of_ble_eq_true rfl) fun y73 => ?_
      refine zs_istore_n (pc := 76) (lv' := [(2, zI y73.1), (5, zI s0), (0, zR a0), (3, zI a3), (4, zI a4)]) d_Mo_decode_76 (Nat.le_of_ble_eq_true rfl) rfl ?_
      refine zs_goto (pc := 77) (tgt := 266) d_Mo_decode_77 rfl ?_
      refine zs_goto (pc := 266) (tgt := 11) d_Mo_decode_266 rfl ?_
      refine zs_sub (lv' := [(0, zR a0), (2, zI y73.1), (3, zI a3)]) [2, 0, 3] rfl ?_
      exact hk11 a0 y73.1 a3 y73.2
  · refine zs_aload_n (pc := 49) (x := a0) d_Mo_decode_49 rfl ?_
    refine zs_dup (pc := 50) d_Mo_decode_50 rfl ?_
    refine zs_getI (pc := 51) d_Mo_decode_51 kF_Mo_148 fun v51 => ?_
    refine zs_iconst (pc := 54) (v := (1 : Int32)) d_Mo_decode_54 (by decide) ?_
    refine zs_iadd (pc := 55) d_Mo_decode_55 ?_
    refine zs_put (pc := 56) d_Mo_decode_56 kP_Mo_148 z_fitI fun H56 => ?_
    refine zs_goto (pc := 59) (tgt := 266) d_Mo_decode_59 rfl ?_
    refine zs_goto (pc := 266) (tgt := 11) d_Mo_decode_266 rfl ?_
    refine zs_sub (lv' := [(0, zR a0), (2, zI a2), (3, zI a3)]) [1, 2, 3] rfl ?_
    exact hk11 a0 a2 a3 H56
theorem jl_Mo_decode_11 {E : zE} {d : Nat} (hd : 2 ≤ d) (fu : Nat) : ∀ (g : Nat), ∀ (a0 : Option Nat) (a2 : Int32) (a3 : Int32) (H : zH), z_S E jM_Mo_decode d 0 0 zwI 11 [(0, zR a0), (2, zI a2), (3, zI a3)] [] H 0 0 (jL_Mo_decode_11 fu g a0 a2 a3 H) := by
  intro g
  induction g with
  | zero => intros; exact zs_none
  | succ g ih =>
    intro a0 a2 a3 H
    rw [jL_Mo_decode_11]
    refine zs_iload_n (pc := 11) (x := a2) d_Mo_decode_11 rfl ?_
    refine zs_if_le (pc := 12) (tgt := 269) d_Mo_decode_12 rfl (fun q12 => ?_) (fun q12 => ?_)
    · refine zs_iload_n (pc := 269) (x := a3) d_Mo_decode_269 rfl ?_
      exact zs_iret (pc := 270) d_Mo_decode_270 rfl (Nat.le_of_ble_eq_true rfl) (Nat.le_of_ble_eq_true rfl) rfl
    · refine zs_iinc (pc := 15) (x := a2) (v := (a2 + (-1 : Int32))) (lv' := [(2, zI (a2 + (-1 : Int32))), (0, zR a0), (3, zI a3)]) d_Mo_decode_15 rfl rfl (Nat.le_of_ble_eq_true rfl) rfl ?_
      refine zs_aload_n (pc := 18) (x := a0) d_Mo_decode_18 rfl ?_
      refine zs_getR (pc := 19) d_Mo_decode_19 kF_Mo_69 fun v19 => ?_
      refine zs_iload_n (pc := 22) (x := (a2 + (-1 : Int32))) d_Mo_decode_22 rfl ?_
      refine zs_iald (t := 0) (pc := 23) d_Mo_decode_23 rfl fun v23 => ?_
      refine zs_istore (pc := 24) (lv' := [(4, zI v23), (2, zI (a2 + (-1 : Int32))), (0, zR a0), (3, zI a3)]) d_Mo_decode_24 (Nat.le_of_ble_eq_true rfl) rfl ?_
      refine zs_iload (pc := 26) (x := v23) d_Mo_decode_26 rfl ?_
      refine zs_if_ge (pc := 28) (tgt := 35) d_Mo_decode_28 rfl (fun q28 => ?_) (fun q28 => ?_)
      · refine zs_aload_n (pc := 35) (x := a0) d_Mo_decode_35 rfl ?_
        refine zs_getR (pc := 36) d_Mo_decode_36 kF_Mo_7 fun v36 => ?_
        refine zs_iload (pc := 39) (x := v23) d_Mo_decode_39 rfl ?_
        refine zs_iald (t := 0) (pc := 41) d_Mo_decode_41 rfl fun v41 => ?_
        refine zs_sub (lv' := [(0, zR a0), (2, zI (a2 + (-1 : Int32))), (3, zI a3), (4, zI v23)]) [2, 1, 3, 0] rfl ?_
        exact jj_Mo_decode_42 hd fu (fun x0 x1 x2 x3 => jL_Mo_decode_11 fu g x0 x1 x2 x3) ih v41 a0 (a2 + (-1 : Int32)) a3 v23 H
      · refine zs_iconst (pc := 31) (v := (-1 : Int32)) d_Mo_decode_31 (by decide) ?_
        refine zs_goto (pc := 32) (tgt := 42) d_Mo_decode_32 rfl ?_
        refine zs_sub (lv' := [(0, zR a0), (2, zI (a2 + (-1 : Int32))), (3, zI a3), (4, zI v23)]) [2, 1, 3, 0] rfl ?_
        exact jj_Mo_decode_42 hd fu (fun x0 x1 x2 x3 => jL_Mo_decode_11 fu g x0 x1 x2 x3) ih (-1 : Int32) a0 (a2 + (-1 : Int32)) a3 v23 H
theorem jm_Mo_decode {E : zE} {d : Nat} (hd : 2 ≤ d) (fu : Nat) (a0 : Option Nat) (a1 : Int32) (H : zH) : z_MS E jM_Mo_decode d 0 0 zwI [zR a0, zI a1] H (jF_Mo_decode fu a0 a1 H) := by
  refine zs_of (lv0 := [(0, zR a0), (1, zI a1)]) pn_Mo (Nat.le_of_ble_eq_true rfl) rfl ?_
  unfold jF_Mo_decode
  refine zs_bind fun _ _ => ?_
  refine zs_iconst (pc := 0) (v := (1 : Int32)) d_Mo_decode_0 (by decide) ?_
  refine zs_istore_n (pc := 1) (lv' := [(2, zI (1 : Int32)), (0, zR a0), (1, zI a1)]) d_Mo_decode_1 (Nat.le_of_ble_eq_true rfl) rfl ?_
  refine zs_iconst (pc := 2) (v := (0 : Int32)) d_Mo_decode_2 (by decide) ?_
  refine zs_istore_n (pc := 3) (lv' := [(3, zI (0 : Int32)), (2, zI (1 : Int32)), (0, zR a0), (1, zI a1)]) d_Mo_decode_3 (Nat.le_of_ble_eq_true rfl) rfl ?_
  refine zs_aload_n (pc := 4) (x := a0) d_Mo_decode_4 rfl ?_
  refine zs_getR (pc := 5) d_Mo_decode_5 kF_Mo_69 fun v5 => ?_
  refine zs_iconst (pc := 8) (v := (0 : Int32)) d_Mo_decode_8 (by decide) ?_
  refine zs_iload_n (pc := 9) (x := a1) d_Mo_decode_9 rfl ?_
  refine zs_iast (t := 0) (pc := 10) d_Mo_decode_10 rfl fun H10 => ?_
  refine zs_sub (lv' := [(0, zR a0), (2, zI (1 : Int32)), (3, zI (0 : Int32))]) [2, 1, 0] rfl ?_
  exact jl_Mo_decode_11 hd fu fu a0 (1 : Int32) (0 : Int32) H10
def jL_Mo_write_79 (fu : Nat) : Nat → Option Nat → Int32 → Int32 → zH → Option (Int32 × zH)
  | 0, _, _, _, _ => none
  | g + 1, a0, a1, a2, H =>
    if (32 : Int32) ≤ a2 then (
      some ((1 : Int32), H))
    else (
      (zgR H a0 1 14).bind fun v86 =>
      (zgR H a0 1 29).bind fun v96 =>
      (zaI H v96 0 a2).bind fun v100 =>
      (zsI H v86 0 (((32 : Int32) * a1) + a2) v100).bind fun H101 =>
      jL_Mo_write_79 fu g a0 a1 (a2 + (1 : Int32)) H101)
def jJ_Mo_write_63 (fu : Nat) (s0 : Int32) (s1 : Int32) (s2 : Option Nat) (a0 : Option Nat) (a1 : Int32) (H : zH) : Option (Int32 × zH) :=
  (zpV H s2 1 18 (zI (s1 - s0))).bind fun H64 =>
  (zgI H64 a0 1 15).bind fun v69 =>
  (zpV H64 a0 1 15 (zI (v69 + (1 : Int32)))).bind fun H74 =>
  jL_Mo_write_79 fu fu a0 a1 (0 : Int32) H74
def jJ_Mo_write_46 (fu : Nat) (a0 : Option Nat) (a1 : Int32) (H : zH) : Option (Int32 × zH) :=
  (zgI H a0 1 18).bind fun v48 =>
  (zgI H a0 1 17).bind fun v52 =>
  if v52 = 0 then (
    jJ_Mo_write_63 fu (0 : Int32) v48 a0 a0 a1 H)
  else (
    jJ_Mo_write_63 fu (1 : Int32) v48 a0 a0 a1 H)
def jF_Mo_write (fu : Nat) (a0 : Option Nat) (a1 : Int32) (H : zH) : Option (Int32 × zH) :=
  (zok H a0 1).bind fun _ =>
  (zgI H a0 1 17).bind fun v1 =>
  if v1 = 0 then (
    jJ_Mo_write_46 fu a0 a1 H)
  else (
    (zgI H a0 1 18).bind fun v8 =>
    if v8 = 0 then (
      (zpZ H a0 1 16 (1 : Int32)).bind fun H16 =>
      (zpV H16 a0 1 20 (zI (0 : Int32))).bind fun H21 =>
      (zpV H21 a0 1 22 (zI (0 : Int32))).bind fun H26 =>
      (zpV H26 a0 1 24 (zI (0 : Int32))).bind fun H31 =>
      (zpZ H31 a0 1 17 (0 : Int32)).bind fun H36 =>
      (zpV H36 a0 1 26 (zI (0 : Int32))).bind fun H41 =>
      some ((0 : Int32), H41))
    else (
      jJ_Mo_write_46 fu a0 a1 H))
theorem jl_Mo_write_79 {E : zE} {d : Nat} (hd : 0 ≤ d) (fu : Nat) : ∀ (g : Nat), ∀ (a0 : Option Nat) (a1 : Int32) (a2 : Int32) (H : zH), z_S E jM_Mo_write d 0 0 zwI 79 [(0, zR a0), (1, zI a1), (2, zI a2)] [] H 0 0 (jL_Mo_write_79 fu g a0 a1 a2 H) := by
  intro g
  induction g with
  | zero => intros; exact zs_none
  | succ g ih =>
    intro a0 a1 a2 H
    rw [jL_Mo_write_79]
    refine zs_iload_n (pc := 79) (x := a2) d_Mo_write_79 rfl ?_
    refine zs_bipush (pc := 80) (v := (32 : Int32)) d_Mo_write_80 (by decide) ?_
    refine zs_icmp_ge (pc := 82) (tgt := 108) d_Mo_write_82 rfl (fun q82 => ?_) (fun q82 => ?_)
    · refine zs_iconst (pc := 108) (v := (1 : Int32)) d_Mo_write_108 (by decide) ?_
      exact zs_zretc (pc := 109) d_Mo_write_109 rfl (by decide) (Nat.le_of_ble_eq_true rfl) (Nat.le_of_ble_eq_true rfl) rfl
    · refine zs_aload_n (pc := 85) (x := a0) d_Mo_write_85 rfl ?_
      refine zs_getR (pc := 86) d_Mo_write_86 kF_Mo_48 fun v86 => ?_
      refine zs_bipush (pc := 89) (v := (32 : Int32)) d_Mo_write_89 (by decide) ?_
      refine zs_iload_n (pc := 91) (x := a1) d_Mo_write_91 rfl ?_
      refine zs_imul (pc := 92) d_Mo_write_92 ?_
      refine zs_iload_n (pc := 93) (x := a2) d_Mo_write_93 rfl ?_
      refine zs_iadd (pc := 94) d_Mo_write_94 ?_
      refine zs_aload_n (pc := 95) (x := a0) d_Mo_write_95 rfl ?_
      refine zs_getR (pc := 96) d_Mo_write_96 kF_Mo_63 fun v96 => ?_
      refine zs_iload_n (pc := 99) (x := a2) d_Mo_write_99 rfl ?_
      refine zs_iald (t := 0) (pc := 100) d_Mo_write_100 rfl fun v100 => ?_
      refine zs_iast (t := 0) (pc := 101) d_Mo_write_101 rfl fun H101 => ?_
      refine zs_iinc (pc := 102) (x := a2) (v := (a2 + (1 : Int32))) (lv' := [(2, zI (a2 + (1 : Int32))), (0, zR a0), (1, zI a1)]) d_Mo_write_102 rfl rfl (Nat.le_of_ble_eq_true rfl) rfl ?_
      refine zs_goto (pc := 105) (tgt := 79) d_Mo_write_105 rfl ?_
      refine zs_sub (lv' := [(0, zR a0), (1, zI a1), (2, zI (a2 + (1 : Int32)))]) [1, 2, 0] rfl ?_
      exact ih a0 a1 (a2 + (1 : Int32)) H101
theorem jj_Mo_write_63 {E : zE} {d : Nat} (hd : 0 ≤ d) (fu : Nat) : ∀ (s0 : Int32) (s1 : Int32) (s2 : Option Nat) (a0 : Option Nat) (a1 : Int32) (H : zH), z_S E jM_Mo_write d 0 0 zwI 63 [(0, zR a0), (1, zI a1)] [zI s0, zI s1, zR s2] H 0 0 (jJ_Mo_write_63 fu s0 s1 s2 a0 a1 H) := by
  intro s0 s1 s2 a0 a1 H
  unfold jJ_Mo_write_63
  refine zs_isub (pc := 63) d_Mo_write_63 ?_
  refine zs_put (pc := 64) d_Mo_write_64 kP_Mo_162 z_fitI fun H64 => ?_
  refine zs_aload_n (pc := 67) (x := a0) d_Mo_write_67 rfl ?_
  refine zs_dup (pc := 68) d_Mo_write_68 rfl ?_
  refine zs_getI (pc := 69) d_Mo_write_69 kF_Mo_180 fun v69 => ?_
  refine zs_iconst (pc := 72) (v := (1 : Int32)) d_Mo_write_72 (by decide) ?_
  refine zs_iadd (pc := 73) d_Mo_write_73 ?_
  refine zs_put (pc := 74) d_Mo_write_74 kP_Mo_180 z_fitI fun H74 => ?_
  refine zs_iconst (pc := 77) (v := (0 : Int32)) d_Mo_write_77 (by decide) ?_
  refine zs_istore_n (pc := 78) (lv' := [(2, zI (0 : Int32)), (0, zR a0), (1, zI a1)]) d_Mo_write_78 (Nat.le_of_ble_eq_true rfl) rfl ?_
  refine zs_sub (lv' := [(0, zR a0), (1, zI a1), (2, zI (0 : Int32))]) [1, 2, 0] rfl ?_
  exact jl_Mo_write_79 hd fu fu a0 a1 (0 : Int32) H74
theorem jj_Mo_write_46 {E : zE} {d : Nat} (hd : 0 ≤ d) (fu : Nat) : ∀ (a0 : Option Nat) (a1 : Int32) (H : zH), z_S E jM_Mo_write d 0 0 zwI 46 [(0, zR a0), (1, zI a1)] [] H 0 0 (jJ_Mo_write_46 fu a0 a1 H) := by
  intro a0 a1 H
  unfold jJ_Mo_write_46
  refine zs_aload_n (pc := 46) (x := a0) d_Mo_write_46 rfl ?_
  refine zs_dup (pc := 47) d_Mo_write_47 rfl ?_
  refine zs_getI (pc := 48) d_Mo_write_48 kF_Mo_162 fun v48 => ?_
  refine zs_aload_n (pc := 51) (x := a0) d_Mo_write_51 rfl ?_
  refine zs_getI (pc := 52) d_Mo_write_52 kF_Mo_158 fun v52 => ?_
  refine zs_if_eq (pc := 55) (tgt := 62) d_Mo_write_55 rfl (fun q55 => ?_) (fun q55 => ?_)
  · refine zs_iconst (pc := 62) (v := (0 : Int32)) d_Mo_write_62 (by decide) ?_
    exact jj_Mo_write_63 hd fu (0 : Int32) v48 a0 a0 a1 H
  · refine zs_iconst (pc := 58) (v := (1 : Int32)) d_Mo_write_58 (by decide) ?_
    refine zs_goto (pc := 59) (tgt := 63) d_Mo_write_59 rfl ?_
    exact jj_Mo_write_63 hd fu (1 : Int32) v48 a0 a0 a1 H
theorem jm_Mo_write {E : zE} {d : Nat} (hd : 0 ≤ d) (fu : Nat) (a0 : Option Nat) (a1 : Int32) (H : zH) : z_MS E jM_Mo_write d 0 0 zwI [zR a0, zI a1] H (jF_Mo_write fu a0 a1 H) := by
  refine zs_of (lv0 := [(0, zR a0), (1, zI a1)]) pn_Mo (Nat.le_of_ble_eq_true rfl) rfl ?_
  unfold jF_Mo_write
  refine zs_bind fun _ _ => ?_
  refine zs_aload_n (pc := 0) (x := a0) d_Mo_write_0 rfl ?_
  refine zs_getI (pc := 1) d_Mo_write_1 kF_Mo_158 fun v1 => ?_
  refine zs_if_eq (pc := 4) (tgt := 46) d_Mo_write_4 rfl (fun q4 => ?_) (fun q4 => ?_)
  · exact jj_Mo_write_46 hd fu a0 a1 H
  · refine zs_aload_n (pc := 7) (x := a0) d_Mo_write_7 rfl ?_
    refine zs_getI (pc := 8) d_Mo_write_8 kF_Mo_162 fun v8 => ?_
    refine zs_if_ne (pc := 11) (tgt := 46) d_Mo_write_11 rfl (fun q11 => ?_) (fun q11 => ?_)
    · exact jj_Mo_write_46 hd fu a0 a1 H
    · refine zs_aload_n (pc := 14) (x := a0) d_Mo_write_14 rfl ?_
      refine zs_iconst (pc := 15) (v := (1 : Int32)) d_Mo_write_15 (by decide) ?_
      refine zs_putZ (pc := 16) d_Mo_write_16 kP_Mo_165 fun H16 => ?_
      refine zs_aload_n (pc := 19) (x := a0) d_Mo_write_19 rfl ?_
      refine zs_iconst (pc := 20) (v := (0 : Int32)) d_Mo_write_20 (by decide) ?_
      refine zs_put (pc := 21) d_Mo_write_21 kP_Mo_168 z_fitI fun H21 => ?_
      refine zs_aload_n (pc := 24) (x := a0) d_Mo_write_24 rfl ?_
      refine zs_iconst (pc := 25) (v := (0 : Int32)) d_Mo_write_25 (by decide) ?_
      refine zs_put (pc := 26) d_Mo_write_26 kP_Mo_171 z_fitI fun H26 => ?_
      refine zs_aload_n (pc := 29) (x := a0) d_Mo_write_29 rfl ?_
      refine zs_iconst (pc := 30) (v := (0 : Int32)) d_Mo_write_30 (by decide) ?_
      refine zs_put (pc := 31) d_Mo_write_31 kP_Mo_174 z_fitI fun H31 => ?_
      refine zs_aload_n (pc := 34) (x := a0) d_Mo_write_34 rfl ?_
      refine zs_iconst (pc := 35) (v := (0 : Int32)) d_Mo_write_35 (by decide) ?_
      refine zs_putZ (pc := 36) d_Mo_write_36 kP_Mo_158 fun H36 => ?_
      refine zs_aload_n (pc := 39) (x := a0) d_Mo_write_39 rfl ?_
      refine zs_iconst (pc := 40) (v := (0 : Int32)) d_Mo_write_40 (by decide) ?_
      refine zs_put (pc := 41) d_Mo_write_41 kP_Mo_177 z_fitI fun H41 => ?_
      refine zs_iconst (pc := 44) (v := (0 : Int32)) d_Mo_write_44 (by decide) ?_
      exact zs_zretc (pc := 45) d_Mo_write_45 rfl (by decide) (Nat.le_of_ble_eq_true rfl) (Nat.le_of_ble_eq_true rfl) rfl
def jJ_Mo_writeFile_54 (fu : Nat) (k2 : Option Nat → Int32 → Int32 → zH → Option (Int32 × zH)) (k15 : Option Nat → Int32 → Int32 → Int32 → zH → Option (Int32 × zH)) (s0 : Int32) (s1 : Int32) (s2 : Option Nat) (a0 : Option Nat) (a1 : Int32) (a2 : Int32) (a3 : Int32) (H : zH) : Option (Int32 × zH) :=
  (zsI H s2 0 s1 s0).bind fun H54 =>
  k15 a0 a1 a2 (a3 + (1 : Int32)) H54
def jL_Mo_writeFile_15 (fu : Nat) (k2 : Option Nat → Int32 → Int32 → zH → Option (Int32 × zH)) : Nat → Option Nat → Int32 → Int32 → Int32 → zH → Option (Int32 × zH)
  | 0, _, _, _, _, _ => none
  | g + 1, a0, a1, a2, a3, H =>
    if (32 : Int32) ≤ a3 then (
      (jF_Mo_write fu a0 (a1 + a2) H).bind fun y65 =>
      if y65.1 = 0 then (
        some ((0 : Int32), y65.2))
      else (
        k2 a0 a1 (a2 + (1 : Int32)) y65.2))
    else (
      (zgR H a0 1 29).bind fun v22 =>
      (zgI H a0 1 28).bind fun v33 =>
      if v33 ≤ (((32 : Int32) * a2) + a3) then (
        jJ_Mo_writeFile_54 fu k2 (fun x0 x1 x2 x3 x4 => jL_Mo_writeFile_15 fu k2 g x0 x1 x2 x3 x4) (0 : Int32) a3 v22 a0 a1 a2 a3 H)
      else (
        (zgR H a0 1 27).bind fun v40 =>
        (zaI H v40 0 (((32 : Int32) * a2) + a3)).bind fun v49 =>
        jJ_Mo_writeFile_54 fu k2 (fun x0 x1 x2 x3 x4 => jL_Mo_writeFile_15 fu k2 g x0 x1 x2 x3 x4) v49 a3 v22 a0 a1 a2 a3 H))
def jL_Mo_writeFile_2 (fu : Nat) : Nat → Option Nat → Int32 → Int32 → zH → Option (Int32 × zH)
  | 0, _, _, _, _ => none
  | g + 1, a0, a1, a2, H =>
    (zgI H a0 1 28).bind fun v7 =>
    if v7 ≤ ((32 : Int32) * a2) then (
      some ((1 : Int32), H))
    else (
      jL_Mo_writeFile_15 fu (fun x0 x1 x2 x3 => jL_Mo_writeFile_2 fu g x0 x1 x2 x3) fu a0 a1 a2 (0 : Int32) H)
def jF_Mo_writeFile (fu : Nat) (a0 : Option Nat) (a1 : Int32) (H : zH) : Option (Int32 × zH) :=
  (zok H a0 1).bind fun _ =>
  jL_Mo_writeFile_2 fu fu a0 a1 (0 : Int32) H
theorem jj_Mo_writeFile_54 {E : zE} {d : Nat} (hd : 1 ≤ d) (fu : Nat) (k2 : Option Nat → Int32 → Int32 → zH → Option (Int32 × zH)) (hk2 : ∀ (a0 : Option Nat) (a1 : Int32) (a2 : Int32) (H : zH), z_S E jM_Mo_writeFile d 0 0 zwI 2 [(0, zR a0), (1, zI a1), (2, zI a2)] [] H 0 0 (k2 a0 a1 a2 H)) (k15 : Option Nat → Int32 → Int32 → Int32 → zH → Option (Int32 × zH)) (hk15 : ∀ (a0 : Option Nat) (a1 : Int32) (a2 : Int32) (a3 : Int32) (H : zH), z_S E jM_Mo_writeFile d 0 0 zwI 15 [(0, zR a0), (1, zI a1), (2, zI a2), (3, zI a3)] [] H 0 0 (k15 a0 a1 a2 a3 H)) : ∀ (s0 : Int32) (s1 : Int32) (s2 : Option Nat) (a0 : Option Nat) (a1 : Int32) (a2 : Int32) (a3 : Int32) (H : zH), z_S E jM_Mo_writeFile d 0 0 zwI 54 [(0, zR a0), (1, zI a1), (2, zI a2), (3, zI a3)] [zI s0, zI s1, zR s2] H 0 0 (jJ_Mo_writeFile_54 fu k2 k15 s0 s1 s2 a0 a1 a2 a3 H) := by
  intro s0 s1 s2 a0 a1 a2 a3 H
  unfold jJ_Mo_writeFile_54
  refine zs_iast (t := 0) (pc := 54) d_Mo_writeFile_54 rfl fun H54 => ?_
  refine zs_iinc (pc := 55) (x := a3) (v := (a3 + (1 : Int32))) (lv' := [(3, zI (a3 + (1 : Int32))), (0, zR a0), (1, zI a1), (2, zI a2)]) d_Mo_writeFile_55 rfl rfl (Nat.le_of_ble_eq_true rfl) rfl ?_
  refine zs_goto (pc := 58) (tgt := 15) d_Mo_writeFile_58 rfl ?_
  refine zs_sub (lv' := [(0, zR a0), (1, zI a1), (2, zI a2), (3, zI (a3 + (1 : Int32)))]) [1, 2, 3, 0] rfl ?_
  exact hk15 a0 a1 a2 (a3 + (1 : Int32)) H54
theorem jl_Mo_writeFile_15 {E : zE} {d : Nat} (hd : 1 ≤ d) (fu : Nat) (k2 : Option Nat → Int32 → Int32 → zH → Option (Int32 × zH)) (hk2 : ∀ (a0 : Option Nat) (a1 : Int32) (a2 : Int32) (H : zH), z_S E jM_Mo_writeFile d 0 0 zwI 2 [(0, zR a0), (1, zI a1), (2, zI a2)] [] H 0 0 (k2 a0 a1 a2 H)) : ∀ (g : Nat), ∀ (a0 : Option Nat) (a1 : Int32) (a2 : Int32) (a3 : Int32) (H : zH), z_S E jM_Mo_writeFile d 0 0 zwI 15 [(0, zR a0), (1, zI a1), (2, zI a2), (3, zI a3)] [] H 0 0 (jL_Mo_writeFile_15 fu k2 g a0 a1 a2 a3 H) := by
  intro g
  induction g with
  | zero => intros; exact zs_none
  | succ g ih =>
    intro a0 a1 a2 a3 H
    rw [jL_Mo_writeFile_15]
    refine zs_iload_n (pc := 15) (x := a3) d_Mo_writeFile_15 rfl ?_
    refine zs_bipush (pc := 16) (v := (32 : Int32)) d_Mo_writeFile_16 (by decide) ?_
    refine zs_icmp_ge (pc := 18) (tgt := 61) d_Mo_writeFile_18 rfl (fun q18 => ?_) (fun q18 => ?_)
    · refine zs_aload_n (pc := 61) (x := a0) d_Mo_writeFile_61 rfl ?_
      refine zs_iload_n (pc := 62) (x := a1) d_Mo_writeFile_62 rfl ?_
      refine zs_iload_n (pc := 63) (x := a2) d_Mo_writeFile_63 rfl ?_
      refine zs_iadd (pc := 64) d_Mo_writeFile_64 ?_
      refine zs_callv_wI (pc := 65) (av := [zI (a1 + a2)]) (st := []) (d' := 0) (C' := 0) (S' := 0) d_Mo_writeFile_65 kV_Mo_183 z_okb (jm_Mo_write (d := 0) (Nat.le_refl _) fu a0 (a1 + a2) H) (by omega) (Nat.le_of_ble_eq_true rfl) (Nat.le_of_ble_eq_true rfl) rfl rfl (Nat.le_of_ble_eq_true rfl) fun y65 => ?_
      refine zs_if_ne (pc := 68) (tgt := 73) d_Mo_writeFile_68 rfl (fun q68 => ?_) (fun q68 => ?_)
      · refine zs_iinc (pc := 73) (x := a2) (v := (a2 + (1 : Int32))) (lv' := [(2, zI (a2 + (1 : Int32))), (0, zR a0), (1, zI a1), (3, zI a3)]) d_Mo_writeFile_73 rfl rfl (Nat.le_of_ble_eq_true rfl) rfl ?_
        refine zs_goto (pc := 76) (tgt := 2) d_Mo_writeFile_76 rfl ?_
        refine zs_sub (lv' := [(0, zR a0), (1, zI a1), (2, zI (a2 + (1 : Int32)))]) [1, 2, 0] rfl ?_
        exact hk2 a0 a1 (a2 + (1 : Int32)) y65.2
      · refine zs_iconst (pc := 71) (v := (0 : Int32)) d_Mo_writeFile_71 (by decide) ?_
        exact zs_zretc (pc := 72) d_Mo_writeFile_72 rfl (by decide) (Nat.le_of_ble_eq_true rfl) (Nat.le_of_ble_eq_true rfl) rfl
    · refine zs_aload_n (pc := 21) (x := a0) d_Mo_writeFile_21 rfl ?_
      refine zs_getR (pc := 22) d_Mo_writeFile_22 kF_Mo_63 fun v22 => ?_
      refine zs_iload_n (pc := 25) (x := a3) d_Mo_writeFile_25 rfl ?_
      refine zs_bipush (pc := 26) (v := (32 : Int32)) d_Mo_writeFile_26 (by decide) ?_
      refine zs_iload_n (pc := 28) (x := a2) d_Mo_writeFile_28 rfl ?_
      refine zs_imul (pc := 29) d_Mo_writeFile_29 ?_
      refine zs_iload_n (pc := 30) (x := a3) d_Mo_writeFile_30 rfl ?_
      refine zs_iadd (pc := 31) d_Mo_writeFile_31 ?_
      refine zs_aload_n (pc := 32) (x := a0) d_Mo_writeFile_32 rfl ?_
      refine zs_getI (pc := 33) d_Mo_writeFile_33 kF_Mo_128 fun v33 => ?_
      refine zs_icmp_ge (pc := 36) (tgt := 53) d_Mo_writeFile_36 rfl (fun q36 => ?_) (fun q36 => ?_)
      · refine zs_iconst (pc := 53) (v := (0 : Int32)) d_Mo_writeFile_53 (by decide) ?_
        exact jj_Mo_writeFile_54 hd fu k2 hk2 (fun x0 x1 x2 x3 x4 => jL_Mo_writeFile_15 fu k2 g x0 x1 x2 x3 x4) ih (0 : Int32) a3 v22 a0 a1 a2 a3 H
      · refine zs_aload_n (pc := 39) (x := a0) d_Mo_writeFile_39 rfl ?_
        refine zs_getR (pc := 40) d_Mo_writeFile_40 kF_Mo_60 fun v40 => ?_
        refine zs_bipush (pc := 43) (v := (32 : Int32)) d_Mo_writeFile_43 (by decide) ?_
        refine zs_iload_n (pc := 45) (x := a2) d_Mo_writeFile_45 rfl ?_
        refine zs_imul (pc := 46) d_Mo_writeFile_46 ?_
        refine zs_iload_n (pc := 47) (x := a3) d_Mo_writeFile_47 rfl ?_
        refine zs_iadd (pc := 48) d_Mo_writeFile_48 ?_
        refine zs_iald (t := 0) (pc := 49) d_Mo_writeFile_49 rfl fun v49 => ?_
        refine zs_goto (pc := 50) (tgt := 54) d_Mo_writeFile_50 rfl ?_
        exact jj_Mo_writeFile_54 hd fu k2 hk2 (fun x0 x1 x2 x3 x4 => jL_Mo_writeFile_15 fu k2 g x0 x1 x2 x3 x4) ih v49 a3 v22 a0 a1 a2 a3 H
theorem jl_Mo_writeFile_2 {E : zE} {d : Nat} (hd : 1 ≤ d) (fu : Nat) : ∀ (g : Nat), ∀ (a0 : Option Nat) (a1 : Int32) (a2 : Int32) (H : zH), z_S E jM_Mo_writeFile d 0 0 zwI 2 [(0, zR a0), (1, zI a1), (2, zI a2)] [] H 0 0 (jL_Mo_writeFile_2 fu g a0 a1 a2 H) := by
  intro g
  induction g with
  | zero => intros; exact zs_none
  | succ g ih =>
    intro a0 a1 a2 H
    rw [jL_Mo_writeFile_2]
    refine zs_bipush (pc := 2) (v := (32 : Int32)) d_Mo_writeFile_2 (by decide) ?_
    refine zs_iload_n (pc := 4) (x := a2) d_Mo_writeFile_4 rfl ?_
    refine zs_imul (pc := 5) d_Mo_writeFile_5 ?_
    refine zs_aload_n (pc := 6) (x := a0) d_Mo_writeFile_6 rfl ?_
    refine zs_getI (pc := 7) d_Mo_writeFile_7 kF_Mo_128 fun v7 => ?_
    refine zs_icmp_ge (pc := 10) (tgt := 79) d_Mo_writeFile_10 rfl (fun q10 => ?_) (fun q10 => ?_)
    · refine zs_iconst (pc := 79) (v := (1 : Int32)) d_Mo_writeFile_79 (by decide) ?_
      exact zs_zretc (pc := 80) d_Mo_writeFile_80 rfl (by decide) (Nat.le_of_ble_eq_true rfl) (Nat.le_of_ble_eq_true rfl) rfl
    · refine zs_iconst (pc := 13) (v := (0 : Int32)) d_Mo_writeFile_13 (by decide) ?_
      refine zs_istore_n (pc := 14) (lv' := [(3, zI (0 : Int32)), (0, zR a0), (1, zI a1), (2, zI a2)]) d_Mo_writeFile_14 (Nat.le_of_ble_eq_true rfl) rfl ?_
      refine zs_sub (lv' := [(0, zR a0), (1, zI a1), (2, zI a2), (3, zI (0 : Int32))]) [1, 2, 3, 0] rfl ?_
      exact jl_Mo_writeFile_15 hd fu (fun x0 x1 x2 x3 => jL_Mo_writeFile_2 fu g x0 x1 x2 x3) ih fu a0 a1 a2 (0 : Int32) H
theorem jm_Mo_writeFile {E : zE} {d : Nat} (hd : 1 ≤ d) (fu : Nat) (a0 : Option Nat) (a1 : Int32) (H : zH) : z_MS E jM_Mo_writeFile d 0 0 zwI [zR a0, zI a1] H (jF_Mo_writeFile fu a0 a1 H) := by
  refine zs_of (lv0 := [(0, zR a0), (1, zI a1)]) pn_Mo (Nat.le_of_ble_eq_true rfl) rfl ?_
  unfold jF_Mo_writeFile
  refine zs_bind fun _ _ => ?_
  refine zs_iconst (pc := 0) (v := (0 : Int32)) d_Mo_writeFile_0 (by decide) ?_
  refine zs_istore_n (pc := 1) (lv' := [(2, zI (0 : Int32)), (0, zR a0), (1, zI a1)]) d_Mo_writeFile_1 (Nat.le_of_ble_eq_true rfl) rfl ?_
  refine zs_sub (lv' := [(0, zR a0), (1, zI a1), (2, zI (0 : Int32))]) [1, 2, 0] rfl ?_
  exact jl_Mo_writeFile_2 hd fu fu a0 a1 (0 : Int32) H
def jF_Mo_fileSubject (a0 : Option Nat) (a1 : Int32) (H : zH) : Option Int32 :=
  (zok H a0 1).bind fun _ =>
  (zgR H a0 1 14).bind fun v1 =>
  (zaI H v1 0 ((1 : Int32) + ((3 : Int32) * a1))).bind fun v9 =>
  some v9
theorem jm_Mo_fileSubject {E : zE} {d : Nat} (hd : 0 ≤ d) (a0 : Option Nat) (a1 : Int32) (H : zH) : z_MS E jM_Mo_fileSubject d 0 0 (zrI H) [zR a0, zI a1] H (jF_Mo_fileSubject a0 a1 H) := by
  refine zs_of (lv0 := [(0, zR a0), (1, zI a1)]) pn_Mo (Nat.le_of_ble_eq_true rfl) rfl ?_
  unfold jF_Mo_fileSubject
  refine zs_bind fun _ _ => ?_
  refine zs_aload_n (pc := 0) (x := a0) d_Mo_fileSubject_0 rfl ?_
  refine zs_getR (pc := 1) d_Mo_fileSubject_1 kF_Mo_48 fun v1 => ?_
  refine zs_iconst (pc := 4) (v := (1 : Int32)) d_Mo_fileSubject_4 (by decide) ?_
  refine zs_iconst (pc := 5) (v := (3 : Int32)) d_Mo_fileSubject_5 (by decide) ?_
  refine zs_iload_n (pc := 6) (x := a1) d_Mo_fileSubject_6 rfl ?_
  refine zs_imul (pc := 7) d_Mo_fileSubject_7 ?_
  refine zs_iadd (pc := 8) d_Mo_fileSubject_8 ?_
  refine zs_iald (t := 0) (pc := 9) d_Mo_fileSubject_9 rfl fun v9 => ?_
  exact zs_iret (pc := 10) d_Mo_fileSubject_10 rfl (Nat.le_of_ble_eq_true rfl) (Nat.le_of_ble_eq_true rfl) rfl
def jF_Mo_fileAt (a0 : Option Nat) (a1 : Int32) (H : zH) : Option Int32 :=
  (zok H a0 1).bind fun _ =>
  (zgR H a0 1 14).bind fun v3 =>
  (zaI H v3 0 ((2 : Int32) + ((3 : Int32) * a1))).bind fun v11 =>
  some ((32 : Int32) * v11)
theorem jm_Mo_fileAt {E : zE} {d : Nat} (hd : 0 ≤ d) (a0 : Option Nat) (a1 : Int32) (H : zH) : z_MS E jM_Mo_fileAt d 0 0 (zrI H) [zR a0, zI a1] H (jF_Mo_fileAt a0 a1 H) := by
  refine zs_of (lv0 := [(0, zR a0), (1, zI a1)]) pn_Mo (Nat.le_of_ble_eq_true rfl) rfl ?_
  unfold jF_Mo_fileAt
  refine zs_bind fun _ _ => ?_
  refine zs_bipush (pc := 0) (v := (32 : Int32)) d_Mo_fileAt_0 (by decide) ?_
  refine zs_aload_n (pc := 2) (x := a0) d_Mo_fileAt_2 rfl ?_
  refine zs_getR (pc := 3) d_Mo_fileAt_3 kF_Mo_48 fun v3 => ?_
  refine zs_iconst (pc := 6) (v := (2 : Int32)) d_Mo_fileAt_6 (by decide) ?_
  refine zs_iconst (pc := 7) (v := (3 : Int32)) d_Mo_fileAt_7 (by decide) ?_
  refine zs_iload_n (pc := 8) (x := a1) d_Mo_fileAt_8 rfl ?_
  refine zs_imul (pc := 9) d_Mo_fileAt_9 ?_
  refine zs_iadd (pc := 10) d_Mo_fileAt_10 ?_
  refine zs_iald (t := 0) (pc := 11) d_Mo_fileAt_11 rfl fun v11 => ?_
  refine zs_imul (pc := 12) d_Mo_fileAt_12 ?_
  exact zs_iret (pc := 13) d_Mo_fileAt_13 rfl (Nat.le_of_ble_eq_true rfl) (Nat.le_of_ble_eq_true rfl) rfl
def jF_Mo_fileSchema (a0 : Option Nat) (a1 : Int32) (H : zH) : Option Int32 :=
  (zok H a0 1).bind fun _ =>
  (zgR H a0 1 14).bind fun v1 =>
  (jF_Mo_fileAt a0 a1 H).bind fun y6 =>
  (zaI H v1 0 (y6 + (1 : Int32))).bind fun v11 =>
  some v11
theorem jm_Mo_fileSchema {E : zE} {d : Nat} (hd : 1 ≤ d) (a0 : Option Nat) (a1 : Int32) (H : zH) : z_MS E jM_Mo_fileSchema d 0 0 (zrI H) [zR a0, zI a1] H (jF_Mo_fileSchema a0 a1 H) := by
  refine zs_of (lv0 := [(0, zR a0), (1, zI a1)]) pn_Mo (Nat.le_of_ble_eq_true rfl) rfl ?_
  unfold jF_Mo_fileSchema
  refine zs_bind fun _ _ => ?_
  refine zs_aload_n (pc := 0) (x := a0) d_Mo_fileSchema_0 rfl ?_
  refine zs_getR (pc := 1) d_Mo_fileSchema_1 kF_Mo_48 fun v1 => ?_
  refine zs_aload_n (pc := 4) (x := a0) d_Mo_fileSchema_4 rfl ?_
  refine zs_iload_n (pc := 5) (x := a1) d_Mo_fileSchema_5 rfl ?_
  refine zs_callv_rI (pc := 6) (av := [zI a1]) (st := [zR v1]) (d' := 0) (C' := 0) (S' := 0) d_Mo_fileSchema_6 kV_Mo_186 z_okb (jm_Mo_fileAt (d := 0) (Nat.le_refl _) a0 a1 H) (by omega) (Nat.le_of_ble_eq_true rfl) (Nat.le_of_ble_eq_true rfl) rfl rfl (Nat.le_of_ble_eq_true rfl) fun y6 => ?_
  refine zs_iconst (pc := 9) (v := (1 : Int32)) d_Mo_fileSchema_9 (by decide) ?_
  refine zs_iadd (pc := 10) d_Mo_fileSchema_10 ?_
  refine zs_iald (t := 0) (pc := 11) d_Mo_fileSchema_11 rfl fun v11 => ?_
  exact zs_iret (pc := 12) d_Mo_fileSchema_12 rfl (Nat.le_of_ble_eq_true rfl) (Nat.le_of_ble_eq_true rfl) rfl
def jF_Mo_fileRecords (a0 : Option Nat) (a1 : Int32) (H : zH) : Option Int32 :=
  (zok H a0 1).bind fun _ =>
  (zgR H a0 1 14).bind fun v1 =>
  (jF_Mo_fileAt a0 a1 H).bind fun y6 =>
  (zaI H v1 0 (y6 + (2 : Int32))).bind fun v11 =>
  some v11
theorem jm_Mo_fileRecords {E : zE} {d : Nat} (hd : 1 ≤ d) (a0 : Option Nat) (a1 : Int32) (H : zH) : z_MS E jM_Mo_fileRecords d 0 0 (zrI H) [zR a0, zI a1] H (jF_Mo_fileRecords a0 a1 H) := by
  refine zs_of (lv0 := [(0, zR a0), (1, zI a1)]) pn_Mo (Nat.le_of_ble_eq_true rfl) rfl ?_
  unfold jF_Mo_fileRecords
  refine zs_bind fun _ _ => ?_
  refine zs_aload_n (pc := 0) (x := a0) d_Mo_fileRecords_0 rfl ?_
  refine zs_getR (pc := 1) d_Mo_fileRecords_1 kF_Mo_48 fun v1 => ?_
  refine zs_aload_n (pc := 4) (x := a0) d_Mo_fileRecords_4 rfl ?_
  refine zs_iload_n (pc := 5) (x := a1) d_Mo_fileRecords_5 rfl ?_
  refine zs_callv_rI (pc := 6) (av := [zI a1]) (st := [zR v1]) (d' := 0) (C' := 0) (S' := 0) d_Mo_fileRecords_6 kV_Mo_186 z_okb (jm_Mo_fileAt (d := 0) (Nat.le_refl _) a0 a1 H) (by omega) (Nat.le_of_ble_eq_true rfl) (Nat.le_of_ble_eq_true rfl) rfl rfl (Nat.le_of_ble_eq_true rfl) fun y6 => ?_
  refine zs_iconst (pc := 9) (v := (2 : Int32)) d_Mo_fileRecords_9 (by decide) ?_
  refine zs_iadd (pc := 10) d_Mo_fileRecords_10 ?_
  refine zs_iald (t := 0) (pc := 11) d_Mo_fileRecords_11 rfl fun v11 => ?_
  exact zs_iret (pc := 12) d_Mo_fileRecords_12 rfl (Nat.le_of_ble_eq_true rfl) (Nat.le_of_ble_eq_true rfl) rfl
def jF_Mo_fileBytes (a0 : Option Nat) (a1 : Int32) (H : zH) : Option Int32 :=
  (zok H a0 1).bind fun _ =>
  (zgR H a0 1 14).bind fun v4 =>
  (jF_Mo_fileAt a0 a1 H).bind fun y9 =>
  (zaI H v4 0 (y9 + (3 : Int32))).bind fun v14 =>
  (zgR H a0 1 14).bind fun v17 =>
  (jF_Mo_fileAt a0 a1 H).bind fun y22 =>
  (zaI H v17 0 (y22 + (4 : Int32))).bind fun v27 =>
  some (((256 : Int32) * v14) + v27)
theorem jm_Mo_fileBytes {E : zE} {d : Nat} (hd : 1 ≤ d) (a0 : Option Nat) (a1 : Int32) (H : zH) : z_MS E jM_Mo_fileBytes d 0 0 (zrI H) [zR a0, zI a1] H (jF_Mo_fileBytes a0 a1 H) := by
  refine zs_of (lv0 := [(0, zR a0), (1, zI a1)]) pn_Mo (Nat.le_of_ble_eq_true rfl) rfl ?_
  unfold jF_Mo_fileBytes
  refine zs_bind fun _ _ => ?_
  refine zs_sipush (pc := 0) (v := (256 : Int32)) d_Mo_fileBytes_0 (by decide) ?_
  refine zs_aload_n (pc := 3) (x := a0) d_Mo_fileBytes_3 rfl ?_
  refine zs_getR (pc := 4) d_Mo_fileBytes_4 kF_Mo_48 fun v4 => ?_
  refine zs_aload_n (pc := 7) (x := a0) d_Mo_fileBytes_7 rfl ?_
  refine zs_iload_n (pc := 8) (x := a1) d_Mo_fileBytes_8 rfl ?_
  refine zs_callv_rI (pc := 9) (av := [zI a1]) (st := [zR v4, zI (256 : Int32)]) (d' := 0) (C' := 0) (S' := 0) d_Mo_fileBytes_9 kV_Mo_186 z_okb (jm_Mo_fileAt (d := 0) (Nat.le_refl _) a0 a1 H) (by omega) (Nat.le_of_ble_eq_true rfl) (Nat.le_of_ble_eq_true rfl) rfl rfl (Nat.le_of_ble_eq_true rfl) fun y9 => ?_
  refine zs_iconst (pc := 12) (v := (3 : Int32)) d_Mo_fileBytes_12 (by decide) ?_
  refine zs_iadd (pc := 13) d_Mo_fileBytes_13 ?_
  refine zs_iald (t := 0) (pc := 14) d_Mo_fileBytes_14 rfl fun v14 => ?_
  refine zs_imul (pc := 15) d_Mo_fileBytes_15 ?_
  refine zs_aload_n (pc := 16) (x := a0) d_Mo_fileBytes_16 rfl ?_
  refine zs_getR (pc := 17) d_Mo_fileBytes_17 kF_Mo_48 fun v17 => ?_
  refine zs_aload_n (pc := 20) (x := a0) d_Mo_fileBytes_20 rfl ?_
  refine zs_iload_n (pc := 21) (x := a1) d_Mo_fileBytes_21 rfl ?_
  refine zs_callv_rI (pc := 22) (av := [zI a1]) (st := [zR v17, zI ((256 : Int32) * v14)]) (d' := 0) (C' := 0) (S' := 0) d_Mo_fileBytes_22 kV_Mo_186 z_okb (jm_Mo_fileAt (d := 0) (Nat.le_refl _) a0 a1 H) (by omega) (Nat.le_of_ble_eq_true rfl) (Nat.le_of_ble_eq_true rfl) rfl rfl (Nat.le_of_ble_eq_true rfl) fun y22 => ?_
  refine zs_iconst (pc := 25) (v := (4 : Int32)) d_Mo_fileBytes_25 (by decide) ?_
  refine zs_iadd (pc := 26) d_Mo_fileBytes_26 ?_
  refine zs_iald (t := 0) (pc := 27) d_Mo_fileBytes_27 rfl fun v27 => ?_
  refine zs_iadd (pc := 28) d_Mo_fileBytes_28 ?_
  exact zs_iret (pc := 29) d_Mo_fileBytes_29 rfl (Nat.le_of_ble_eq_true rfl) (Nat.le_of_ble_eq_true rfl) rfl
def jJ_Mo_used_72 (fu : Nat) (H : zH) (k19 : Option Nat → Int32 → Int32 → Int32 → Option Int32) (a0 : Option Nat) (a1 : Int32) (a3 : Int32) : Option Int32 :=
  k19 a0 a1 (1 : Int32) (a3 + (1 : Int32))
def jL_Mo_used_19 (fu : Nat) (H : zH) : Nat → Option Nat → Int32 → Int32 → Int32 → Option Int32
  | 0, _, _, _, _ => none
  | g + 1, a0, a1, a2, a3 =>
    (zgR H a0 1 14).bind fun v21 =>
    (zaI H v21 0 (0 : Int32)).bind fun v25 =>
    if v25 ≤ a3 then (
      (zbo a2).bind fun x => some x)
    else (
      if a2 = 0 then (
        (zgR H a0 1 14).bind fun v35 =>
        (zaI H v35 0 ((2 : Int32) + ((3 : Int32) * a3))).bind fun v43 =>
        if a1 < v43 then (
          jL_Mo_used_19 fu H g a0 a1 (0 : Int32) (a3 + (1 : Int32)))
        else (
          (zgR H a0 1 14).bind fun v49 =>
          (zaI H v49 0 ((2 : Int32) + ((3 : Int32) * a3))).bind fun v57 =>
          (zgR H a0 1 14).bind fun v59 =>
          (zaI H v59 0 ((3 : Int32) + ((3 : Int32) * a3))).bind fun v67 =>
          if (v57 + v67) ≤ a1 then (
            jL_Mo_used_19 fu H g a0 a1 (0 : Int32) (a3 + (1 : Int32)))
          else (
            jJ_Mo_used_72 fu H (fun x0 x1 x2 x3 => jL_Mo_used_19 fu H g x0 x1 x2 x3) a0 a1 a3)))
      else (
        jJ_Mo_used_72 fu H (fun x0 x1 x2 x3 => jL_Mo_used_19 fu H g x0 x1 x2 x3) a0 a1 a3))
def jJ_Mo_used_11 (fu : Nat) (H : zH) (a0 : Option Nat) (a1 : Int32) : Option Int32 :=
  jL_Mo_used_19 fu H fu a0 a1 (1 : Int32) (0 : Int32)
def jF_Mo_used (fu : Nat) (a0 : Option Nat) (a1 : Int32) (H : zH) : Option Int32 :=
  (zok H a0 1).bind fun _ =>
  if a1 < (2 : Int32) then (
    jJ_Mo_used_11 fu H a0 a1)
  else (
    if a1 ≤ (39 : Int32) then (
      jL_Mo_used_19 fu H fu a0 a1 (0 : Int32) (0 : Int32))
    else (
      jJ_Mo_used_11 fu H a0 a1))
theorem jj_Mo_used_72 {E : zE} {d : Nat} (hd : 0 ≤ d) (fu : Nat) (H : zH) (k19 : Option Nat → Int32 → Int32 → Int32 → Option Int32) (hk19 : ∀ (a0 : Option Nat) (a1 : Int32) (a2 : Int32) (a3 : Int32), z_S E jM_Mo_used d 0 0 (zrI H) 19 [(0, zR a0), (1, zI a1), (2, zI a2), (3, zI a3)] [] H 0 0 (k19 a0 a1 a2 a3)) : ∀ (a0 : Option Nat) (a1 : Int32) (a3 : Int32), z_S E jM_Mo_used d 0 0 (zrI H) 72 [(0, zR a0), (1, zI a1), (3, zI a3)] [] H 0 0 (jJ_Mo_used_72 fu H k19 a0 a1 a3) := by
  intro a0 a1 a3
  unfold jJ_Mo_used_72
  refine zs_iconst (pc := 72) (v := (1 : Int32)) d_Mo_used_72 (by decide) ?_
  refine zs_goto (pc := 73) (tgt := 77) d_Mo_used_73 rfl ?_
  refine zs_istore_n (pc := 77) (lv' := [(2, zI (1 : Int32)), (0, zR a0), (1, zI a1), (3, zI a3)]) d_Mo_used_77 (Nat.le_of_ble_eq_true rfl) rfl ?_
  refine zs_iinc (pc := 78) (x := a3) (v := (a3 + (1 : Int32))) (lv' := [(3, zI (a3 + (1 : Int32))), (2, zI (1 : Int32)), (0, zR a0), (1, zI a1)]) d_Mo_used_78 rfl rfl (Nat.le_of_ble_eq_true rfl) rfl ?_
  refine zs_goto (pc := 81) (tgt := 19) d_Mo_used_81 rfl ?_
  refine zs_sub (lv' := [(0, zR a0), (1, zI a1), (2, zI (1 : Int32)), (3, zI (a3 + (1 : Int32)))]) [2, 3, 1, 0] rfl ?_
  exact hk19 a0 a1 (1 : Int32) (a3 + (1 : Int32))
theorem jl_Mo_used_19 {E : zE} {d : Nat} (hd : 0 ≤ d) (fu : Nat) (H : zH) : ∀ (g : Nat), ∀ (a0 : Option Nat) (a1 : Int32) (a2 : Int32) (a3 : Int32), z_S E jM_Mo_used d 0 0 (zrI H) 19 [(0, zR a0), (1, zI a1), (2, zI a2), (3, zI a3)] [] H 0 0 (jL_Mo_used_19 fu H g a0 a1 a2 a3) := by
  intro g
  induction g with
  | zero => intros; exact zs_none
  | succ g ih =>
    intro a0 a1 a2 a3
    rw [jL_Mo_used_19]
    refine zs_iload_n (pc := 19) (x := a3) d_Mo_used_19 rfl ?_
    refine zs_aload_n (pc := 20) (x := a0) d_Mo_used_20 rfl ?_
    refine zs_getR (pc := 21) d_Mo_used_21 kF_Mo_48 fun v21 => ?_
    refine zs_iconst (pc := 24) (v := (0 : Int32)) d_Mo_used_24 (by decide) ?_
    refine zs_iald (t := 0) (pc := 25) d_Mo_used_25 rfl fun v25 => ?_
    refine zs_icmp_ge (pc := 26) (tgt := 84) d_Mo_used_26 rfl (fun q26 => ?_) (fun q26 => ?_)
    · refine zs_iload_n (pc := 84) (x := a2) d_Mo_used_84 rfl ?_
      exact zs_zret (g := fun x => x) (pc := 85) d_Mo_used_85 rfl (Nat.le_of_ble_eq_true rfl) (Nat.le_of_ble_eq_true rfl) rfl
    · refine zs_iload_n (pc := 29) (x := a2) d_Mo_used_29 rfl ?_
      refine zs_if_ne (pc := 30) (tgt := 72) d_Mo_used_30 rfl (fun q30 => ?_) (fun q30 => ?_)
      · refine zs_sub (lv' := [(0, zR a0), (1, zI a1), (3, zI a3)]) [0, 1, 3] rfl ?_
        exact jj_Mo_used_72 hd fu H (fun x0 x1 x2 x3 => jL_Mo_used_19 fu H g x0 x1 x2 x3) ih a0 a1 a3
      · refine zs_iload_n (pc := 33) (x := a1) d_Mo_used_33 rfl ?_
        refine zs_aload_n (pc := 34) (x := a0) d_Mo_used_34 rfl ?_
        refine zs_getR (pc := 35) d_Mo_used_35 kF_Mo_48 fun v35 => ?_
        refine zs_iconst (pc := 38) (v := (2 : Int32)) d_Mo_used_38 (by decide) ?_
        refine zs_iconst (pc := 39) (v := (3 : Int32)) d_Mo_used_39 (by decide) ?_
        refine zs_iload_n (pc := 40) (x := a3) d_Mo_used_40 rfl ?_
        refine zs_imul (pc := 41) d_Mo_used_41 ?_
        refine zs_iadd (pc := 42) d_Mo_used_42 ?_
        refine zs_iald (t := 0) (pc := 43) d_Mo_used_43 rfl fun v43 => ?_
        refine zs_icmp_lt (pc := 44) (tgt := 76) d_Mo_used_44 rfl (fun q44 => ?_) (fun q44 => ?_)
        · refine zs_iconst (pc := 76) (v := (0 : Int32)) d_Mo_used_76 (by decide) ?_
          refine zs_istore_n (pc := 77) (lv' := [(2, zI (0 : Int32)), (0, zR a0), (1, zI a1), (3, zI a3)]) d_Mo_used_77 (Nat.le_of_ble_eq_true rfl) rfl ?_
          refine zs_iinc (pc := 78) (x := a3) (v := (a3 + (1 : Int32))) (lv' := [(3, zI (a3 + (1 : Int32))), (2, zI (0 : Int32)), (0, zR a0), (1, zI a1)]) d_Mo_used_78 rfl rfl (Nat.le_of_ble_eq_true rfl) rfl ?_
          refine zs_goto (pc := 81) (tgt := 19) d_Mo_used_81 rfl ?_
          refine zs_sub (lv' := [(0, zR a0), (1, zI a1), (2, zI (0 : Int32)), (3, zI (a3 + (1 : Int32)))]) [2, 3, 1, 0] rfl ?_
          exact ih a0 a1 (0 : Int32) (a3 + (1 : Int32))
        · refine zs_iload_n (pc := 47) (x := a1) d_Mo_used_47 rfl ?_
          refine zs_aload_n (pc := 48) (x := a0) d_Mo_used_48 rfl ?_
          refine zs_getR (pc := 49) d_Mo_used_49 kF_Mo_48 fun v49 => ?_
          refine zs_iconst (pc := 52) (v := (2 : Int32)) d_Mo_used_52 (by decide) ?_
          refine zs_iconst (pc := 53) (v := (3 : Int32)) d_Mo_used_53 (by decide) ?_
          refine zs_iload_n (pc := 54) (x := a3) d_Mo_used_54 rfl ?_
          refine zs_imul (pc := 55) d_Mo_used_55 ?_
          refine zs_iadd (pc := 56) d_Mo_used_56 ?_
          refine zs_iald (t := 0) (pc := 57) d_Mo_used_57 rfl fun v57 => ?_
          refine zs_aload_n (pc := 58) (x := a0) d_Mo_used_58 rfl ?_
          refine zs_getR (pc := 59) d_Mo_used_59 kF_Mo_48 fun v59 => ?_
          refine zs_iconst (pc := 62) (v := (3 : Int32)) d_Mo_used_62 (by decide) ?_
          refine zs_iconst (pc := 63) (v := (3 : Int32)) d_Mo_used_63 (by decide) ?_
          refine zs_iload_n (pc := 64) (x := a3) d_Mo_used_64 rfl ?_
          refine zs_imul (pc := 65) d_Mo_used_65 ?_
          refine zs_iadd (pc := 66) d_Mo_used_66 ?_
          refine zs_iald (t := 0) (pc := 67) d_Mo_used_67 rfl fun v67 => ?_
          refine zs_iadd (pc := 68) d_Mo_used_68 ?_
          refine zs_icmp_ge (pc := 69) (tgt := 76) d_Mo_used_69 rfl (fun q69 => ?_) (fun q69 => ?_)
          · refine zs_iconst (pc := 76) (v := (0 : Int32)) d_Mo_used_76 (by decide) ?_
            refine zs_istore_n (pc := 77) (lv' := [(2, zI (0 : Int32)), (0, zR a0), (1, zI a1), (3, zI a3)]) d_Mo_used_77 (Nat.le_of_ble_eq_true rfl) rfl ?_
            refine zs_iinc (pc := 78) (x := a3) (v := (a3 + (1 : Int32))) (lv' := [(3, zI (a3 + (1 : Int32))), (2, zI (0 : Int32)), (0, zR a0), (1, zI a1)]) d_Mo_used_78 rfl rfl (Nat.le_of_ble_eq_true rfl) rfl ?_
            refine zs_goto (pc := 81) (tgt := 19) d_Mo_used_81 rfl ?_
            refine zs_sub (lv' := [(0, zR a0), (1, zI a1), (2, zI (0 : Int32)), (3, zI (a3 + (1 : Int32)))]) [2, 3, 1, 0] rfl ?_
            exact ih a0 a1 (0 : Int32) (a3 + (1 : Int32))
          · refine zs_sub (lv' := [(0, zR a0), (1, zI a1), (3, zI a3)]) [0, 1, 3] rfl ?_
            exact jj_Mo_used_72 hd fu H (fun x0 x1 x2 x3 => jL_Mo_used_19 fu H g x0 x1 x2 x3) ih a0 a1 a3
theorem jj_Mo_used_11 {E : zE} {d : Nat} (hd : 0 ≤ d) (fu : Nat) (H : zH) : ∀ (a0 : Option Nat) (a1 : Int32), z_S E jM_Mo_used d 0 0 (zrI H) 11 [(0, zR a0), (1, zI a1)] [] H 0 0 (jJ_Mo_used_11 fu H a0 a1) := by
  intro a0 a1
  unfold jJ_Mo_used_11
  refine zs_iconst (pc := 11) (v := (1 : Int32)) d_Mo_used_11 (by decide) ?_
  refine zs_goto (pc := 12) (tgt := 16) d_Mo_used_12 rfl ?_
  refine zs_istore_n (pc := 16) (lv' := [(2, zI (1 : Int32)), (0, zR a0), (1, zI a1)]) d_Mo_used_16 (Nat.le_of_ble_eq_true rfl) rfl ?_
  refine zs_iconst (pc := 17) (v := (0 : Int32)) d_Mo_used_17 (by decide) ?_
  refine zs_istore_n (pc := 18) (lv' := [(3, zI (0 : Int32)), (2, zI (1 : Int32)), (0, zR a0), (1, zI a1)]) d_Mo_used_18 (Nat.le_of_ble_eq_true rfl) rfl ?_
  refine zs_sub (lv' := [(0, zR a0), (1, zI a1), (2, zI (1 : Int32)), (3, zI (0 : Int32))]) [2, 3, 1, 0] rfl ?_
  exact jl_Mo_used_19 hd fu H fu a0 a1 (1 : Int32) (0 : Int32)
theorem jm_Mo_used {E : zE} {d : Nat} (hd : 0 ≤ d) (fu : Nat) (a0 : Option Nat) (a1 : Int32) (H : zH) : z_MS E jM_Mo_used d 0 0 (zrI H) [zR a0, zI a1] H (jF_Mo_used fu a0 a1 H) := by
  refine zs_of (lv0 := [(0, zR a0), (1, zI a1)]) pn_Mo (Nat.le_of_ble_eq_true rfl) rfl ?_
  unfold jF_Mo_used
  refine zs_bind fun _ _ => ?_
  refine zs_iload_n (pc := 0) (x := a1) d_Mo_used_0 rfl ?_
  refine zs_iconst (pc := 1) (v := (2 : Int32)) d_Mo_used_1 (by decide) ?_
  refine zs_icmp_lt (pc := 2) (tgt := 11) d_Mo_used_2 rfl (fun q2 => ?_) (fun q2 => ?_)
  · exact jj_Mo_used_11 hd fu H a0 a1
  · refine zs_iload_n (pc := 5) (x := a1) d_Mo_used_5 rfl ?_
    refine zs_bipush (pc := 6) (v := (39 : Int32)) d_Mo_used_6 (by decide) ?_
    refine zs_icmp_le (pc := 8) (tgt := 15) d_Mo_used_8 rfl (fun q8 => ?_) (fun q8 => ?_)
    · refine zs_iconst (pc := 15) (v := (0 : Int32)) d_Mo_used_15 (by decide) ?_
      refine zs_istore_n (pc := 16) (lv' := [(2, zI (0 : Int32)), (0, zR a0), (1, zI a1)]) d_Mo_used_16 (Nat.le_of_ble_eq_true rfl) rfl ?_
      refine zs_iconst (pc := 17) (v := (0 : Int32)) d_Mo_used_17 (by decide) ?_
      refine zs_istore_n (pc := 18) (lv' := [(3, zI (0 : Int32)), (2, zI (0 : Int32)), (0, zR a0), (1, zI a1)]) d_Mo_used_18 (Nat.le_of_ble_eq_true rfl) rfl ?_
      refine zs_sub (lv' := [(0, zR a0), (1, zI a1), (2, zI (0 : Int32)), (3, zI (0 : Int32))]) [2, 3, 1, 0] rfl ?_
      exact jl_Mo_used_19 hd fu H fu a0 a1 (0 : Int32) (0 : Int32)
    · exact jj_Mo_used_11 hd fu H a0 a1
def jL_Mo_room_13 (fu : Nat) (H : zH) (k2 : Option Nat → Int32 → Int32 → Option Int32) : Nat → Option Nat → Int32 → Int32 → Int32 → Int32 → Option Int32
  | 0, _, _, _, _, _ => none
  | g + 1, a0, a1, a2, a3, a4 =>
    if (a2 + a1) ≤ a4 then (
      if a3 = 0 then (
        k2 a0 a1 (a2 + (1 : Int32)))
      else (
        some a2))
    else (
      if a3 = 0 then (
        jL_Mo_room_13 fu H k2 g a0 a1 a2 (0 : Int32) (a4 + (1 : Int32)))
      else (
        (jF_Mo_used fu a0 a4 H).bind fun y28 =>
        if y28 = 0 then (
          jL_Mo_room_13 fu H k2 g a0 a1 a2 (1 : Int32) (a4 + (1 : Int32)))
        else (
          jL_Mo_room_13 fu H k2 g a0 a1 a2 (0 : Int32) (a4 + (1 : Int32)))))
def jL_Mo_room_2 (fu : Nat) (H : zH) : Nat → Option Nat → Int32 → Int32 → Option Int32
  | 0, _, _, _ => none
  | g + 1, a0, a1, a2 =>
    if (39 : Int32) < a2 then (
      some (-1 : Int32))
    else (
      jL_Mo_room_13 fu H (fun x0 x1 x2 => jL_Mo_room_2 fu H g x0 x1 x2) fu a0 a1 a2 (1 : Int32) a2)
def jF_Mo_room (fu : Nat) (a0 : Option Nat) (a1 : Int32) (H : zH) : Option Int32 :=
  (zok H a0 1).bind fun _ =>
  jL_Mo_room_2 fu H fu a0 a1 (2 : Int32)
theorem jl_Mo_room_13 {E : zE} {d : Nat} (hd : 1 ≤ d) (fu : Nat) (H : zH) (k2 : Option Nat → Int32 → Int32 → Option Int32) (hk2 : ∀ (a0 : Option Nat) (a1 : Int32) (a2 : Int32), z_S E jM_Mo_room d 0 0 (zrI H) 2 [(0, zR a0), (1, zI a1), (2, zI a2)] [] H 0 0 (k2 a0 a1 a2)) : ∀ (g : Nat), ∀ (a0 : Option Nat) (a1 : Int32) (a2 : Int32) (a3 : Int32) (a4 : Int32), z_S E jM_Mo_room d 0 0 (zrI H) 13 [(0, zR a0), (1, zI a1), (2, zI a2), (3, zI a3), (4, zI a4)] [] H 0 0 (jL_Mo_room_13 fu H k2 g a0 a1 a2 a3 a4) := by
  intro g
  induction g with
  | zero => intros; exact zs_none
  | succ g ih =>
    intro a0 a1 a2 a3 a4
    rw [jL_Mo_room_13]
    refine zs_iload (pc := 13) (x := a4) d_Mo_room_13 rfl ?_
    refine zs_iload_n (pc := 15) (x := a2) d_Mo_room_15 rfl ?_
    refine zs_iload_n (pc := 16) (x := a1) d_Mo_room_16 rfl ?_
    refine zs_iadd (pc := 17) d_Mo_room_17 ?_
    refine zs_icmp_ge (pc := 18) (tgt := 46) d_Mo_room_18 rfl (fun q18 => ?_) (fun q18 => ?_)
    · refine zs_iload_n (pc := 46) (x := a3) d_Mo_room_46 rfl ?_
      refine zs_if_eq (pc := 47) (tgt := 52) d_Mo_room_47 rfl (fun q47 => ?_) (fun q47 => ?_)
      · refine zs_iinc (pc := 52) (x := a2) (v := (a2 + (1 : Int32))) (lv' := [(2, zI (a2 + (1 : Int32))), (0, zR a0), (1, zI a1), (3, zI a3), (4, zI a4)]) d_Mo_room_52 rfl rfl (Nat.le_of_ble_eq_true rfl) rfl ?_
        refine zs_goto (pc := 55) (tgt := 2) d_Mo_room_55 rfl ?_
        refine zs_sub (lv' := [(0, zR a0), (1, zI a1), (2, zI (a2 + (1 : Int32)))]) [1, 2, 0] rfl ?_
        exact hk2 a0 a1 (a2 + (1 : Int32))
      · refine zs_iload_n (pc := 50) (x := a2) d_Mo_room_50 rfl ?_
        exact zs_iret (pc := 51) d_Mo_room_51 rfl (Nat.le_of_ble_eq_true rfl) (Nat.le_of_ble_eq_true rfl) rfl
    · refine zs_iload_n (pc := 21) (x := a3) d_Mo_room_21 rfl ?_
      refine zs_if_eq (pc := 22) (tgt := 38) d_Mo_room_22 rfl (fun q22 => ?_) (fun q22 => ?_)
      · refine zs_iconst (pc := 38) (v := (0 : Int32)) d_Mo_room_38 (by decide) ?_
        refine zs_istore_n (pc := 39) (lv' := [(3, zI (0 : Int32)), (0, zR a0), (1, zI a1), (2, zI a2), (4, zI a4)]) d_Mo_room_39 (Nat.le_of_ble_eq_true rfl) rfl ?_
        refine zs_iinc (pc := 40) (x := a4) (v := (a4 + (1 : Int32))) (lv' := [(4, zI (a4 + (1 : Int32))), (3, zI (0 : Int32)), (0, zR a0), (1, zI a1), (2, zI a2)]) d_Mo_room_40 rfl rfl (Nat.le_of_ble_eq_true rfl) rfl ?_
        refine zs_goto (pc := 43) (tgt := 13) d_Mo_room_43 rfl ?_
        refine zs_sub (lv' := [(0, zR a0), (1, zI a1), (2, zI a2), (3, zI (0 : Int32)), (4, zI (a4 + (1 : Int32)))]) [2, 3, 4, 1, 0] rfl ?_
        exact ih a0 a1 a2 (0 : Int32) (a4 + (1 : Int32))
      · refine zs_aload_n (pc := 25) (x := a0) d_Mo_room_25 rfl ?_
        refine zs_iload (pc := 26) (x := a4) d_Mo_room_26 rfl ?_
        refine zs_callv_rI (pc := 28) (av := [zI a4]) (st := []) (d' := 0) (C' := 0) (S' := 0) d_Mo_room_28 kV_Mo_190 z_okb (jm_Mo_used (d := 0) (Nat.le_refl _) fu a0 a4 H) (by omega) (Nat.le_of_ble_eq_true rfl) (Nat.le_of_ble_eq_true rfl) rfl rfl (Nat.le_of_ble_eq_true rfl) fun y28 => ?_
        refine zs_if_ne (pc := 31) (tgt := 38) d_Mo_room_31 rfl (fun q31 => ?_) (fun q31 => ?_)
        · refine zs_iconst (pc := 38) (v := (0 : Int32)) d_Mo_room_38 (by decide) ?_
          refine zs_istore_n (pc := 39) (lv' := [(3, zI (0 : Int32)), (0, zR a0), (1, zI a1), (2, zI a2), (4, zI a4)]) d_Mo_room_39 (Nat.le_of_ble_eq_true rfl) rfl ?_
          refine zs_iinc (pc := 40) (x := a4) (v := (a4 + (1 : Int32))) (lv' := [(4, zI (a4 + (1 : Int32))), (3, zI (0 : Int32)), (0, zR a0), (1, zI a1), (2, zI a2)]) d_Mo_room_40 rfl rfl (Nat.le_of_ble_eq_true rfl) rfl ?_
          refine zs_goto (pc := 43) (tgt := 13) d_Mo_room_43 rfl ?_
          refine zs_sub (lv' := [(0, zR a0), (1, zI a1), (2, zI a2), (3, zI (0 : Int32)), (4, zI (a4 + (1 : Int32)))]) [2, 3, 4, 1, 0] rfl ?_
          exact ih a0 a1 a2 (0 : Int32) (a4 + (1 : Int32))
        · refine zs_iconst (pc := 34) (v := (1 : Int32)) d_Mo_room_34 (by decide) ?_
          refine zs_goto (pc := 35) (tgt := 39) d_Mo_room_35 rfl ?_
          refine zs_istore_n (pc := 39) (lv' := [(3, zI (1 : Int32)), (0, zR a0), (1, zI a1), (2, zI a2), (4, zI a4)]) d_Mo_room_39 (Nat.le_of_ble_eq_true rfl) rfl ?_
          refine zs_iinc (pc := 40) (x := a4) (v := (a4 + (1 : Int32))) (lv' := [(4, zI (a4 + (1 : Int32))), (3, zI (1 : Int32)), (0, zR a0), (1, zI a1), (2, zI a2)]) d_Mo_room_40 rfl rfl (Nat.le_of_ble_eq_true rfl) rfl ?_
          refine zs_goto (pc := 43) (tgt := 13) d_Mo_room_43 rfl ?_
          refine zs_sub (lv' := [(0, zR a0), (1, zI a1), (2, zI a2), (3, zI (1 : Int32)), (4, zI (a4 + (1 : Int32)))]) [2, 3, 4, 1, 0] rfl ?_
          exact ih a0 a1 a2 (1 : Int32) (a4 + (1 : Int32))
theorem jl_Mo_room_2 {E : zE} {d : Nat} (hd : 1 ≤ d) (fu : Nat) (H : zH) : ∀ (g : Nat), ∀ (a0 : Option Nat) (a1 : Int32) (a2 : Int32), z_S E jM_Mo_room d 0 0 (zrI H) 2 [(0, zR a0), (1, zI a1), (2, zI a2)] [] H 0 0 (jL_Mo_room_2 fu H g a0 a1 a2) := by
  intro g
  induction g with
  | zero => intros; exact zs_none
  | succ g ih =>
    intro a0 a1 a2
    rw [jL_Mo_room_2]
    refine zs_iload_n (pc := 2) (x := a2) d_Mo_room_2 rfl ?_
    refine zs_bipush (pc := 3) (v := (39 : Int32)) d_Mo_room_3 (by decide) ?_
    refine zs_icmp_gt (pc := 5) (tgt := 58) d_Mo_room_5 rfl (fun q5 => ?_) (fun q5 => ?_)
    · refine zs_iconst (pc := 58) (v := (-1 : Int32)) d_Mo_room_58 (by decide) ?_
      exact zs_iret (pc := 59) d_Mo_room_59 rfl (Nat.le_of_ble_eq_true rfl) (Nat.le_of_ble_eq_true rfl) rfl
    · refine zs_iconst (pc := 8) (v := (1 : Int32)) d_Mo_room_8 (by decide) ?_
      refine zs_istore_n (pc := 9) (lv' := [(3, zI (1 : Int32)), (0, zR a0), (1, zI a1), (2, zI a2)]) d_Mo_room_9 (Nat.le_of_ble_eq_true rfl) rfl ?_
      refine zs_iload_n (pc := 10) (x := a2) d_Mo_room_10 rfl ?_
      refine zs_istore (pc := 11) (lv' := [(4, zI a2), (3, zI (1 : Int32)), (0, zR a0), (1, zI a1), (2, zI a2)]) d_Mo_room_11 (Nat.le_of_ble_eq_true rfl) rfl ?_
      refine zs_sub (lv' := [(0, zR a0), (1, zI a1), (2, zI a2), (3, zI (1 : Int32)), (4, zI a2)]) [2, 3, 4, 1, 0] rfl ?_
      exact jl_Mo_room_13 hd fu H (fun x0 x1 x2 => jL_Mo_room_2 fu H g x0 x1 x2) ih fu a0 a1 a2 (1 : Int32) a2
theorem jm_Mo_room {E : zE} {d : Nat} (hd : 1 ≤ d) (fu : Nat) (a0 : Option Nat) (a1 : Int32) (H : zH) : z_MS E jM_Mo_room d 0 0 (zrI H) [zR a0, zI a1] H (jF_Mo_room fu a0 a1 H) := by
  refine zs_of (lv0 := [(0, zR a0), (1, zI a1)]) pn_Mo (Nat.le_of_ble_eq_true rfl) rfl ?_
  unfold jF_Mo_room
  refine zs_bind fun _ _ => ?_
  refine zs_iconst (pc := 0) (v := (2 : Int32)) d_Mo_room_0 (by decide) ?_
  refine zs_istore_n (pc := 1) (lv' := [(2, zI (2 : Int32)), (0, zR a0), (1, zI a1)]) d_Mo_room_1 (Nat.le_of_ble_eq_true rfl) rfl ?_
  refine zs_sub (lv' := [(0, zR a0), (1, zI a1), (2, zI (2 : Int32))]) [1, 2, 0] rfl ?_
  exact jl_Mo_room_2 hd fu H fu a0 a1 (2 : Int32)
def jF_Mo_head (a0 : Option Nat) (a1 : Int32) (a2 : Int32) (a3 : Int32) (H : zH) : Option zH :=
  (zok H a0 1).bind fun _ =>
  (zpV H a0 1 28 (zI (0 : Int32))).bind fun H2 =>
  (jF_Mo_putByte a0 (83 : Int32) H2).bind fun y8 =>
  (jF_Mo_putByte a0 a1 y8).bind fun y13 =>
  (jF_Mo_putByte a0 a2 y13).bind fun y18 =>
  (jF_Mo_putByte a0 (a3 / (256 : Int32)) y18).bind fun y27 =>
  (jF_Mo_putByte a0 (a3 - a3 / (256 : Int32) * (256 : Int32)) y27).bind fun y36 =>
  some y36
theorem jm_Mo_head {E : zE} {d : Nat} (hd : 1 ≤ d) (a0 : Option Nat) (a1 : Int32) (a2 : Int32) (a3 : Int32) (H : zH) : z_MS E jM_Mo_head d 0 0 zwV [zR a0, zI a1, zI a2, zI a3] H (jF_Mo_head a0 a1 a2 a3 H) := by
  refine zs_of (lv0 := [(0, zR a0), (1, zI a1), (2, zI a2), (3, zI a3)]) pn_Mo (Nat.le_of_ble_eq_true rfl) rfl ?_
  unfold jF_Mo_head
  refine zs_bind fun _ _ => ?_
  refine zs_aload_n (pc := 0) (x := a0) d_Mo_head_0 rfl ?_
  refine zs_iconst (pc := 1) (v := (0 : Int32)) d_Mo_head_1 (by decide) ?_
  refine zs_put (pc := 2) d_Mo_head_2 kP_Mo_128 z_fitI fun H2 => ?_
  refine zs_aload_n (pc := 5) (x := a0) d_Mo_head_5 rfl ?_
  refine zs_bipush (pc := 6) (v := (83 : Int32)) d_Mo_head_6 (by decide) ?_
  refine zs_callv_wV (pc := 8) (av := [zI (83 : Int32)]) (st := []) (d' := 0) (C' := 0) (S' := 0) d_Mo_head_8 kV_Mo_137 z_okb (jm_Mo_putByte (d := 0) (Nat.le_refl _) a0 (83 : Int32) H2) (by omega) (Nat.le_of_ble_eq_true rfl) (Nat.le_of_ble_eq_true rfl) rfl rfl (Nat.le_of_ble_eq_true rfl) fun y8 => ?_
  refine zs_aload_n (pc := 11) (x := a0) d_Mo_head_11 rfl ?_
  refine zs_iload_n (pc := 12) (x := a1) d_Mo_head_12 rfl ?_
  refine zs_callv_wV (pc := 13) (av := [zI a1]) (st := []) (d' := 0) (C' := 0) (S' := 0) d_Mo_head_13 kV_Mo_137 z_okb (jm_Mo_putByte (d := 0) (Nat.le_refl _) a0 a1 y8) (by omega) (Nat.le_of_ble_eq_true rfl) (Nat.le_of_ble_eq_true rfl) rfl rfl (Nat.le_of_ble_eq_true rfl) fun y13 => ?_
  refine zs_aload_n (pc := 16) (x := a0) d_Mo_head_16 rfl ?_
  refine zs_iload_n (pc := 17) (x := a2) d_Mo_head_17 rfl ?_
  refine zs_callv_wV (pc := 18) (av := [zI a2]) (st := []) (d' := 0) (C' := 0) (S' := 0) d_Mo_head_18 kV_Mo_137 z_okb (jm_Mo_putByte (d := 0) (Nat.le_refl _) a0 a2 y13) (by omega) (Nat.le_of_ble_eq_true rfl) (Nat.le_of_ble_eq_true rfl) rfl rfl (Nat.le_of_ble_eq_true rfl) fun y18 => ?_
  refine zs_aload_n (pc := 21) (x := a0) d_Mo_head_21 rfl ?_
  refine zs_iload_n (pc := 22) (x := a3) d_Mo_head_22 rfl ?_
  refine zs_sipush (pc := 23) (v := (256 : Int32)) d_Mo_head_23 (by decide) ?_
  refine zs_idiv (pc := 26) d_Mo_head_26 (by decide) ?_
  refine zs_callv_wV (pc := 27) (av := [zI (a3 / (256 : Int32))]) (st := []) (d' := 0) (C' := 0) (S' := 0) d_Mo_head_27 kV_Mo_137 z_okb (jm_Mo_putByte (d := 0) (Nat.le_refl _) a0 (a3 / (256 : Int32)) y18) (by omega) (Nat.le_of_ble_eq_true rfl) (Nat.le_of_ble_eq_true rfl) rfl rfl (Nat.le_of_ble_eq_true rfl) fun y27 => ?_
  refine zs_aload_n (pc := 30) (x := a0) d_Mo_head_30 rfl ?_
  refine zs_iload_n (pc := 31) (x := a3) d_Mo_head_31 rfl ?_
  refine zs_sipush (pc := 32) (v := (256 : Int32)) d_Mo_head_32 (by decide) ?_
  refine zs_irem (pc := 35) d_Mo_head_35 (by decide) ?_
  refine zs_callv_wV (pc := 36) (av := [zI (a3 - a3 / (256 : Int32) * (256 : Int32))]) (st := []) (d' := 0) (C' := 0) (S' := 0) d_Mo_head_36 kV_Mo_137 z_okb (jm_Mo_putByte (d := 0) (Nat.le_refl _) a0 (a3 - a3 / (256 : Int32) * (256 : Int32)) y27) (by omega) (Nat.le_of_ble_eq_true rfl) (Nat.le_of_ble_eq_true rfl) rfl rfl (Nat.le_of_ble_eq_true rfl) fun y36 => ?_
  exact zs_vret (pc := 39) d_Mo_head_39 rfl (Nat.le_of_ble_eq_true rfl) (Nat.le_of_ble_eq_true rfl) rfl
def jL_Mo_check_4 (fu : Nat) : Nat → Option Nat → Int32 → Int32 → zH → Option zH
  | 0, _, _, _, _ => none
  | g + 1, a0, a1, a2, H =>
    (zgI H a0 1 28).bind fun v6 =>
    if v6 ≤ a2 then (
      (jF_Mo_putByte a0 (a1 - a1 / (251 : Int32) * (251 : Int32)) H).bind fun y33 =>
      some y33)
    else (
      (zgR H a0 1 27).bind fun v14 =>
      (zaI H v14 0 a2).bind fun v18 =>
      jL_Mo_check_4 fu g a0 (a1 + v18) (a2 + (1 : Int32)) H)
def jF_Mo_check (fu : Nat) (a0 : Option Nat) (H : zH) : Option zH :=
  (zok H a0 1).bind fun _ =>
  jL_Mo_check_4 fu fu a0 (0 : Int32) (0 : Int32) H
theorem jl_Mo_check_4 {E : zE} {d : Nat} (hd : 1 ≤ d) (fu : Nat) : ∀ (g : Nat), ∀ (a0 : Option Nat) (a1 : Int32) (a2 : Int32) (H : zH), z_S E jM_Mo_check d 0 0 zwV 4 [(0, zR a0), (1, zI a1), (2, zI a2)] [] H 0 0 (jL_Mo_check_4 fu g a0 a1 a2 H) := by
  intro g
  induction g with
  | zero => intros; exact zs_none
  | succ g ih =>
    intro a0 a1 a2 H
    rw [jL_Mo_check_4]
    refine zs_iload_n (pc := 4) (x := a2) d_Mo_check_4 rfl ?_
    refine zs_aload_n (pc := 5) (x := a0) d_Mo_check_5 rfl ?_
    refine zs_getI (pc := 6) d_Mo_check_6 kF_Mo_128 fun v6 => ?_
    refine zs_icmp_ge (pc := 9) (tgt := 27) d_Mo_check_9 rfl (fun q9 => ?_) (fun q9 => ?_)
    · refine zs_aload_n (pc := 27) (x := a0) d_Mo_check_27 rfl ?_
      refine zs_iload_n (pc := 28) (x := a1) d_Mo_check_28 rfl ?_
      refine zs_sipush (pc := 29) (v := (251 : Int32)) d_Mo_check_29 (by decide) ?_
      refine zs_irem (pc := 32) d_Mo_check_32 (by decide) ?_
      refine zs_callv_wV (pc := 33) (av := [zI (a1 - a1 / (251 : Int32) * (251 : Int32))]) (st := []) (d' := 0) (C' := 0) (S' := 0) d_Mo_check_33 kV_Mo_137 z_okb (jm_Mo_putByte (d := 0) (Nat.le_refl _) a0 (a1 - a1 / (251 : Int32) * (251 : Int32)) H) (by omega) (Nat.le_of_ble_eq_true rfl) (Nat.le_of_ble_eq_true rfl) rfl rfl (Nat.le_of_ble_eq_true rfl) fun y33 => ?_
      exact zs_vret (pc := 36) d_Mo_check_36 rfl (Nat.le_of_ble_eq_true rfl) (Nat.le_of_ble_eq_true rfl) rfl
    · refine zs_iload_n (pc := 12) (x := a1) d_Mo_check_12 rfl ?_
      refine zs_aload_n (pc := 13) (x := a0) d_Mo_check_13 rfl ?_
      refine zs_getR (pc := 14) d_Mo_check_14 kF_Mo_60 fun v14 => ?_
      refine zs_iload_n (pc := 17) (x := a2) d_Mo_check_17 rfl ?_
      refine zs_iald (t := 0) (pc := 18) d_Mo_check_18 rfl fun v18 => ?_
      refine zs_iadd (pc := 19) d_Mo_check_19 ?_
      refine zs_istore_n (pc := 20) (lv' := [(1, zI (a1 + v18)), (0, zR a0), (2, zI a2)]) d_Mo_check_20 (Nat.le_of_ble_eq_true rfl) rfl ?_
      refine zs_iinc (pc := 21) (x := a2) (v := (a2 + (1 : Int32))) (lv' := [(2, zI (a2 + (1 : Int32))), (1, zI (a1 + v18)), (0, zR a0)]) d_Mo_check_21 rfl rfl (Nat.le_of_ble_eq_true rfl) rfl ?_
      refine zs_goto (pc := 24) (tgt := 4) d_Mo_check_24 rfl ?_
      refine zs_sub (lv' := [(0, zR a0), (1, zI (a1 + v18)), (2, zI (a2 + (1 : Int32)))]) [2, 1, 0] rfl ?_
      exact ih a0 (a1 + v18) (a2 + (1 : Int32)) H
theorem jm_Mo_check {E : zE} {d : Nat} (hd : 1 ≤ d) (fu : Nat) (a0 : Option Nat) (H : zH) : z_MS E jM_Mo_check d 0 0 zwV [zR a0] H (jF_Mo_check fu a0 H) := by
  refine zs_of (lv0 := [(0, zR a0)]) pn_Mo (Nat.le_of_ble_eq_true rfl) rfl ?_
  unfold jF_Mo_check
  refine zs_bind fun _ _ => ?_
  refine zs_iconst (pc := 0) (v := (0 : Int32)) d_Mo_check_0 (by decide) ?_
  refine zs_istore_n (pc := 1) (lv' := [(1, zI (0 : Int32)), (0, zR a0)]) d_Mo_check_1 (Nat.le_of_ble_eq_true rfl) rfl ?_
  refine zs_iconst (pc := 2) (v := (0 : Int32)) d_Mo_check_2 (by decide) ?_
  refine zs_istore_n (pc := 3) (lv' := [(2, zI (0 : Int32)), (1, zI (0 : Int32)), (0, zR a0)]) d_Mo_check_3 (Nat.le_of_ble_eq_true rfl) rfl ?_
  refine zs_sub (lv' := [(0, zR a0), (1, zI (0 : Int32)), (2, zI (0 : Int32))]) [2, 1, 0] rfl ?_
  exact jl_Mo_check_4 hd fu fu a0 (0 : Int32) (0 : Int32) H
def jL_Mo_oldManifest_2 (fu : Nat) : Nat → Option Nat → Int32 → zH → Option zH
  | 0, _, _, _ => none
  | g + 1, a0, a1, H =>
    if (32 : Int32) ≤ a1 then (
      some H)
    else (
      (zgR H a0 1 29).bind fun v9 =>
      (zgR H a0 1 14).bind fun v14 =>
      (zaI H v14 0 a1).bind fun v18 =>
      (zsI H v9 0 a1 v18).bind fun H19 =>
      jL_Mo_oldManifest_2 fu g a0 (a1 + (1 : Int32)) H19)
def jF_Mo_oldManifest (fu : Nat) (a0 : Option Nat) (H : zH) : Option zH :=
  (zok H a0 1).bind fun _ =>
  jL_Mo_oldManifest_2 fu fu a0 (0 : Int32) H
theorem jl_Mo_oldManifest_2 {E : zE} {d : Nat} (hd : 0 ≤ d) (fu : Nat) : ∀ (g : Nat), ∀ (a0 : Option Nat) (a1 : Int32) (H : zH), z_S E jM_Mo_oldManifest d 0 0 zwV 2 [(0, zR a0), (1, zI a1)] [] H 0 0 (jL_Mo_oldManifest_2 fu g a0 a1 H) := by
  intro g
  induction g with
  | zero => intros; exact zs_none
  | succ g ih =>
    intro a0 a1 H
    rw [jL_Mo_oldManifest_2]
    refine zs_iload_n (pc := 2) (x := a1) d_Mo_oldManifest_2 rfl ?_
    refine zs_bipush (pc := 3) (v := (32 : Int32)) d_Mo_oldManifest_3 (by decide) ?_
    refine zs_icmp_ge (pc := 5) (tgt := 26) d_Mo_oldManifest_5 rfl (fun q5 => ?_) (fun q5 => ?_)
    · exact zs_vret (pc := 26) d_Mo_oldManifest_26 rfl (Nat.le_of_ble_eq_true rfl) (Nat.le_of_ble_eq_true rfl) rfl
    · refine zs_aload_n (pc := 8) (x := a0) d_Mo_oldManifest_8 rfl ?_
      refine zs_getR (pc := 9) d_Mo_oldManifest_9 kF_Mo_63 fun v9 => ?_
      refine zs_iload_n (pc := 12) (x := a1) d_Mo_oldManifest_12 rfl ?_
      refine zs_aload_n (pc := 13) (x := a0) d_Mo_oldManifest_13 rfl ?_
      refine zs_getR (pc := 14) d_Mo_oldManifest_14 kF_Mo_48 fun v14 => ?_
      refine zs_iload_n (pc := 17) (x := a1) d_Mo_oldManifest_17 rfl ?_
      refine zs_iald (t := 0) (pc := 18) d_Mo_oldManifest_18 rfl fun v18 => ?_
      refine zs_iast (t := 0) (pc := 19) d_Mo_oldManifest_19 rfl fun H19 => ?_
      refine zs_iinc (pc := 20) (x := a1) (v := (a1 + (1 : Int32))) (lv' := [(1, zI (a1 + (1 : Int32))), (0, zR a0)]) d_Mo_oldManifest_20 rfl rfl (Nat.le_of_ble_eq_true rfl) rfl ?_
      refine zs_goto (pc := 23) (tgt := 2) d_Mo_oldManifest_23 rfl ?_
      refine zs_sub (lv' := [(0, zR a0), (1, zI (a1 + (1 : Int32)))]) [1, 0] rfl ?_
      exact ih a0 (a1 + (1 : Int32)) H19
theorem jm_Mo_oldManifest {E : zE} {d : Nat} (hd : 0 ≤ d) (fu : Nat) (a0 : Option Nat) (H : zH) : z_MS E jM_Mo_oldManifest d 0 0 zwV [zR a0] H (jF_Mo_oldManifest fu a0 H) := by
  refine zs_of (lv0 := [(0, zR a0)]) pn_Mo (Nat.le_of_ble_eq_true rfl) rfl ?_
  unfold jF_Mo_oldManifest
  refine zs_bind fun _ _ => ?_
  refine zs_iconst (pc := 0) (v := (0 : Int32)) d_Mo_oldManifest_0 (by decide) ?_
  refine zs_istore_n (pc := 1) (lv' := [(1, zI (0 : Int32)), (0, zR a0)]) d_Mo_oldManifest_1 (Nat.le_of_ble_eq_true rfl) rfl ?_
  refine zs_sub (lv' := [(0, zR a0), (1, zI (0 : Int32))]) [1, 0] rfl ?_
  exact jl_Mo_oldManifest_2 hd fu fu a0 (0 : Int32) H
def jJ_Mo_noSubject_9 (H : zH)  : Option Int32 :=
  some (1 : Int32)
def jF_Mo_noSubject (a0 : Int32) (H : zH) : Option Int32 :=
  if a0 < 0 then (
    jJ_Mo_noSubject_9 H)
  else (
    if a0 ≤ (2 : Int32) then (
      some (0 : Int32))
    else (
      jJ_Mo_noSubject_9 H))
theorem jj_Mo_noSubject_9 {E : zE} {d : Nat} (hd : 0 ≤ d) (H : zH) : z_S E jM_Mo_noSubject d 0 0 (zrI H) 9 [] [] H 0 0 (jJ_Mo_noSubject_9 H) := by
  unfold jJ_Mo_noSubject_9
  refine zs_iconst (pc := 9) (v := (1 : Int32)) d_Mo_noSubject_9 (by decide) ?_
  refine zs_goto (pc := 10) (tgt := 14) d_Mo_noSubject_10 rfl ?_
  exact zs_zretc (pc := 14) d_Mo_noSubject_14 rfl (by decide) (Nat.le_of_ble_eq_true rfl) (Nat.le_of_ble_eq_true rfl) rfl
theorem jm_Mo_noSubject {E : zE} {d : Nat} (hd : 0 ≤ d) (a0 : Int32) (H : zH) : z_MS E jM_Mo_noSubject d 0 0 (zrI H) [zI a0] H (jF_Mo_noSubject a0 H) := by
  refine zs_of (lv0 := [(0, zI a0)]) pn_Mo (Nat.le_of_ble_eq_true rfl) rfl ?_
  unfold jF_Mo_noSubject
  refine zs_iload_n (pc := 0) (x := a0) d_Mo_noSubject_0 rfl ?_
  refine zs_if_lt (pc := 1) (tgt := 9) d_Mo_noSubject_1 rfl (fun q1 => ?_) (fun q1 => ?_)
  · refine zs_sub (lv' := []) [] rfl ?_
    exact jj_Mo_noSubject_9 hd H
  · refine zs_iload_n (pc := 4) (x := a0) d_Mo_noSubject_4 rfl ?_
    refine zs_iconst (pc := 5) (v := (2 : Int32)) d_Mo_noSubject_5 (by decide) ?_
    refine zs_icmp_le (pc := 6) (tgt := 13) d_Mo_noSubject_6 rfl (fun q6 => ?_) (fun q6 => ?_)
    · refine zs_iconst (pc := 13) (v := (0 : Int32)) d_Mo_noSubject_13 (by decide) ?_
      exact zs_zretc (pc := 14) d_Mo_noSubject_14 rfl (by decide) (Nat.le_of_ble_eq_true rfl) (Nat.le_of_ble_eq_true rfl) rfl
    · refine zs_sub (lv' := []) [] rfl ?_
      exact jj_Mo_noSubject_9 hd H
