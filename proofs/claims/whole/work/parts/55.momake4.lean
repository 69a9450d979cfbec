/-! The reference's make, to its end. -/
section MM4
variable {H : zH} {v : Nat → Int32} {T : yT} {P : List yF} {fu : Nat}
theorem Mo_make201 (h : MSB H v T P) (hB : MTb H T (fun a b => a < T.length ∧ b < T.length)) (hT : TOk T) (hp : TPos T) (hP : POk T P) {k n a b : Int32} {x : yS} (hx : mkB T P k n a b = some x) (h6 : x.2.2.2.2.1 ≤ 6) (h24 : T.length < 24) (hfu : 30 ≤ fu) :
    ∃ H' v', jJ_Mo_make_201 fu (some 24) k n a b (nI (x.2.2.2.2.1 - 1)) H = some (nI T.length, H') ∧ MSB H' v' (T ++ [x]) (if k = 7 then [] else P) ∧ MTb H' (T ++ [x]) (fun a b => a < (T ++ [x]).length ∧ b < (T ++ [x]).length) ∧ (∀ j, j ≠ 0 → j ≠ 13 → v' j = v j) ∧ Fr H H' (fun q => 24 ≤ q ∧ q ≤ 36) := by
  have hl := hT.1
  have hP3 := hP.1
  have hf := mkB_facts hT hP hx
  obtain ⟨x2, x3, x4⟩ := mkB_args hx
  have hT' := (hT.snoc hp hP hf h6 h24).1
  have hp' := (hT.snoc hp hP hf h6 h24).2
  obtain ⟨n1, n2, n3, n4, n5, n6⟩ := yG_new' (T := T) (x := x)
  obtain ⟨f1, f2, f3, f4, f5, f6, f7, f8, f9⟩ := hf
  have hv0 := h.2.1
  have hv13 := h.2.2.1
  obtain ⟨m0, -, -, ⟨g3, a3, b3⟩, ⟨g4, a4, b4⟩, ⟨g5, a5, b5⟩, ⟨g6, a6, b6⟩, ⟨g7, a7, b7⟩, ⟨g8, a8, b8⟩, ⟨g9, a9, b9, c9⟩, ⟨g10, a10, b10, c10⟩, ⟨g11, a11, b11, c11⟩, ⟨g12, a12, b12, c12⟩⟩ := h
  have hz0 : zgI H (some 24) 1 0 = some (nI T.length) := by rw [← hv0]; exact qgI m0 rfl
  unfold jJ_Mo_make_201
  rw [if_pos (show nI (x.2.2.2.2.1 - 1) < (6 : Int32) from (nI_ltI (b := 6) (by omega) (by omega)).mpr (by omega)), hz0, Option.bind_some, Option.bind_some, nI_1, m0.set (by omega), Option.bind_some]
  generalize hv1 : va_up v 0 (nI (T.length + 1)) = v1
  have hv1j : ∀ j, j ≠ 0 → v1 j = v j := fun j hj => by rw [← hv1]; exact zup_ne hj
  have hv10 : v1 0 = nI (T.length + 1) := by rw [← hv1]; exact zup_same
  generalize hH1 : zset H 24 (.inr (1, MoF v1)) = H1
  have F1 : Fr H H1 (fun q => q = 24) := by rw [← hH1]; exact Fr.set rfl
  have m1 : MoAt H1 v1 := by rw [← hH1]; exact m0.new
  -- kind
  have q3 := a3.fr F1 (by omega)
  rw [qgR m1 rfl, Option.bind_some, qsI q3 h24 (by omega), Option.bind_some]
  generalize hH2 : zset H1 25 (.inl (0, 24, .inl (va_up g3 T.length k))) = H2
  have F2 : Fr H1 H2 (fun q => q = 25) := by rw [← hH2]; exact Fr.set rfl
  have r3 : AI H2 25 24 (va_up g3 T.length k) := by rw [← hH2]; exact zgo_set_same q3
  have m2 := m1.fr F2 (by omega)
  -- name
  have q4 := (a4.fr F1 (by omega)).fr F2 (by omega)
  rw [qgR m2 rfl, Option.bind_some, qsI q4 h24 (by omega), Option.bind_some]
  generalize hH3 : zset H2 26 (.inl (0, 24, .inl (va_up g4 T.length n))) = H3
  have F3 : Fr H2 H3 (fun q => q = 26) := by rw [← hH3]; exact Fr.set rfl
  have r4 : AI H3 26 24 (va_up g4 T.length n) := by rw [← hH3]; exact zgo_set_same q4
  have m3 := m2.fr F3 (by omega)
  -- a
  have q5 := ((a5.fr F1 (by omega)).fr F2 (by omega)).fr F3 (by omega)
  rw [qgR m3 rfl, Option.bind_some, qsI q5 h24 (by omega), Option.bind_some]
  generalize hH4 : zset H3 27 (.inl (0, 24, .inl (va_up g5 T.length a))) = H4
  have F4 : Fr H3 H4 (fun q => q = 27) := by rw [← hH4]; exact Fr.set rfl
  have r5 : AI H4 27 24 (va_up g5 T.length a) := by rw [← hH4]; exact zgo_set_same q5
  have m4 := m3.fr F4 (by omega)
  -- b
  have q6 := (((a6.fr F1 (by omega)).fr F2 (by omega)).fr F3 (by omega)).fr F4 (by omega)
  rw [qgR m4 rfl, Option.bind_some, qsI q6 h24 (by omega), Option.bind_some]
  generalize hH5 : zset H4 28 (.inl (0, 24, .inl (va_up g6 T.length b))) = H5
  have F5 : Fr H4 H5 (fun q => q = 28) := by rw [← hH5]; exact Fr.set rfl
  have r6 : AI H5 28 24 (va_up g6 T.length b) := by rw [← hH5]; exact zgo_set_same q6
  have m5 := m4.fr F5 (by omega)
  -- depth
  have q7 := ((((a7.fr F1 (by omega)).fr F2 (by omega)).fr F3 (by omega)).fr F4 (by omega)).fr F5 (by omega)
  rw [qgR m5 rfl, Option.bind_some, qsI q7 h24 (by omega), Option.bind_some, nI_1, show x.2.2.2.2.1 - 1 + 1 = x.2.2.2.2.1 by omega]
  generalize hH6 : zset H5 29 (.inl (0, 24, .inl (va_up g7 T.length (nI x.2.2.2.2.1)))) = H6
  have F6 : Fr H5 H6 (fun q => q = 29) := by rw [← hH6]; exact Fr.set rfl
  have r7 : AI H6 29 24 (va_up g7 T.length (nI x.2.2.2.2.1)) := by rw [← hH6]; exact zgo_set_same q7
  have m6 := m5.fr F6 (by omega)
  have q8 := (((((a8.fr F1 (by omega)).fr F2 (by omega)).fr F3 (by omega)).fr F4 (by omega)).fr F5 (by omega)).fr F6 (by omega)
  have F16 : Fr H H6 (fun q => 24 ≤ q ∧ q ≤ 29) := (((((F1.up (fun q hq => by omega)).tr (F2.up (fun q hq => by omega))).tr (F3.up (fun q hq => by omega))).tr (F4.up (fun q hq => by omega))).tr (F5.up (fun q hq => by omega))).tr (F6.up (fun q hq => by omega))
  have hz13 : zgI H6 (some 24) 1 13 = some (nI P.length) := by rw [← hv13, ← hv1j 13 (by omega)]; exact qgI m6 rfl
  rw [qgR m6 rfl, Option.bind_some, hz13, Option.bind_some]
  have hnf : x.2.2.2.2.2.length ≤ P.length ∧ (x.1 = 7 → x.2.2.2.2.2 = P) := by
    refine ⟨?_, f6⟩
    by_cases q : x.1 = 7
    · rw [f6 q]; exact Nat.le_refl _
    · rw [f5 q]; simp
  have hk7 : k = 7 ↔ x.1 = 7 := by rw [f2]; exact nI_eq (b := 7) (by omega) (by omega)
  have hsel : (if k = 7 then jJ_Mo_make_290 fu (nI P.length) (nI T.length) (some 30) (some 24) k (nI T.length) H6 else jJ_Mo_make_290 fu 0 (nI T.length) (some 30) (some 24) k (nI T.length) H6) = jJ_Mo_make_290 fu (nI x.2.2.2.2.2.length) (nI T.length) (some 30) (some 24) k (nI T.length) H6 := by
    by_cases q : k = 7
    · rw [if_pos q, f6 (hk7.mp q)]
    · rw [if_neg q, f5 (fun hh => q (hk7.mpr hh))]; rfl
  rw [hsel]
  unfold jJ_Mo_make_290
  rw [qsI q8 h24 (by omega), Option.bind_some]
  generalize hH7 : zset H6 30 (.inl (0, 24, .inl (va_up g8 T.length (nI x.2.2.2.2.2.length)))) = H7
  have F7 : Fr H6 H7 (fun q => q = 30) := by rw [← hH7]; exact Fr.set rfl
  have r8 : AI H7 30 24 (va_up g8 T.length (nI x.2.2.2.2.2.length)) := by rw [← hH7]; exact zgo_set_same q8
  have m7 := m6.fr F7 (by omega)
  have F17 : Fr H H7 (fun q => 24 ≤ q ∧ q ≤ 30) := (F16.up (fun q hq => by omega)).tr (F7.up (fun q hq => by omega))
  have hFd0 : MFd H7 T P T.length 0 := ⟨⟨g9, a9.fr F17 (by omega), b9, c9, fun i hi => by omega⟩, ⟨g10, a10.fr F17 (by omega), b10, c10, fun i hi => by omega⟩, ⟨g11, a11.fr F17 (by omega), b11, c11, fun i hi => by omega⟩, ⟨g12, a12.fr F17 (by omega), b12, c12, fun i hi => by omega⟩⟩
  obtain ⟨H8, e1, e2, e3⟩ := Mo_copyL (fu := fu) (k := k) (nf := x.2.2.2.2.2.length) hT hP3 rfl h24 hnf.1 (f8 := va_up g8 T.length (nI x.2.2.2.2.2.length)) zup_same x.2.2.2.2.2.length 0 fu H7 (by omega) (by omega) m7 r8 hFd0
  rw [nI_0] at e1
  rw [e1]
  have m8 := m7.fr e3 (by omega)
  have hz13' : zgI H8 (some 24) 1 13 = some (nI P.length) := by rw [← hv13, ← hv1j 13 (by omega)]; exact qgI m8 rfl
  rw [hz13', Option.bind_some]
  have hsel2 : (if k = 7 then jJ_Mo_make_415 fu 0 (some 24) (some 24) (nI T.length) H8 else jJ_Mo_make_415 fu (nI P.length) (some 24) (some 24) (nI T.length) H8) = jJ_Mo_make_415 fu (nI (if k = 7 then ([] : List yF) else P).length) (some 24) (some 24) (nI T.length) H8 := by
    by_cases q : k = 7
    · rw [if_pos q, if_pos q]; rfl
    · rw [if_neg q, if_neg q]
  rw [hsel2]
  unfold jJ_Mo_make_415
  rw [m8.set (by omega), Option.bind_some]
  generalize hv2 : va_up v1 13 (nI (if k = 7 then ([] : List yF) else P).length) = v2
  have hv2j : ∀ j, j ≠ 13 → v2 j = v1 j := fun j hj => by rw [← hv2]; exact zup_ne hj
  have hv213 : v2 13 = nI (if k = 7 then ([] : List yF) else P).length := by rw [← hv2]; exact zup_same
  generalize hH9 : zset H8 24 (.inr (1, MoF v2)) = H9
  have F9 : Fr H8 H9 (fun q => q = 24) := by rw [← hH9]; exact Fr.set rfl
  have m9 : MoAt H9 v2 := by rw [← hH9]; exact m8.new
  have F89 : Fr H7 H9 (fun q => q = 24 ∨ 31 ≤ q) := (e3.up (fun q hq => by omega)).tr (F9.up (fun q hq => by omega))
  -- arrays of one number a schema
  have one : ∀ {g : Nat → Int32} {w : Int32} {G : yT → Nat → Int32}, (∀ s, s < T.length → g s = G T s) → (∀ s, s < T.length → G (T ++ [x]) s = G T s) → w = G (T ++ [x]) T.length → ∀ s, s < (T ++ [x]).length → va_up g T.length w s = G (T ++ [x]) s := by
    intro g w G p1 p2 p3 s hs
    rw [List.length_append, List.length_singleton] at hs
    by_cases he : s = T.length
    · subst he; rw [zup_same, p3]
    · rw [zup_ne he, p1 s (by omega), p2 s (by omega)]
  have rows : ∀ {α : Type} {f : Nat → α} {G : yF → α}, (∀ q i, q < T.length → i < (fl T q).length → f (3 * q + i) = G ((fl T q).getD i yF0)) → (∀ i, i < P.length → f (72 + i) = G (P.getD i yF0)) → (∀ i, i < x.2.2.2.2.2.length → f (3 * T.length + i) = G (P.getD i yF0)) →
      (∀ s i, s < (T ++ [x]).length → i < (fl (T ++ [x]) s).length → f (3 * s + i) = G ((fl (T ++ [x]) s).getD i yF0)) ∧ ∀ i, i < (if k = 7 then ([] : List yF) else P).length → f (72 + i) = G ((if k = 7 then ([] : List yF) else P).getD i yF0) := by
    intro α f G p1 p2 p3
    refine ⟨fun s i hs hi => ?_, fun i hi => ?_⟩
    · rw [List.length_append, List.length_singleton] at hs
      by_cases he : s = T.length
      · subst he
        rw [n6] at hi ⊢
        rw [p3 i hi]
        by_cases q : x.1 = 7
        · rw [f6 q]
        · rw [f5 q] at hi; simp at hi
      · rw [fl_app (show s < T.length by omega)] at hi ⊢
        exact p1 s i (by omega) hi
    · by_cases q : k = 7
      · rw [if_pos q] at hi; simp at hi
      · rw [if_neg q] at hi ⊢; exact p2 i hi
  obtain ⟨⟨y9, z9, w9, u9, t9⟩, ⟨y10, z10, w10, u10, t10⟩, ⟨y11, z11, w11, u11, t11⟩, ⟨y12, z12, w12, u12, t12⟩⟩ := e2
  have hM9 : MSB H9 v2 (T ++ [x]) (if k = 7 then [] else P) := by
    refine ⟨m9, ?_, hv213, ⟨_, (((((r3.fr F3 (by omega)).fr F4 (by omega)).fr F5 (by omega)).fr F6 (by omega)).fr F7 (by omega)).fr F89 (by omega), ?_⟩, ⟨_, ((((r4.fr F4 (by omega)).fr F5 (by omega)).fr F6 (by omega)).fr F7 (by omega)).fr F89 (by omega), ?_⟩, ⟨_, (((r5.fr F5 (by omega)).fr F6 (by omega)).fr F7 (by omega)).fr F89 (by omega), ?_⟩, ⟨_, ((r6.fr F6 (by omega)).fr F7 (by omega)).fr F89 (by omega), ?_⟩, ⟨_, (r7.fr F7 (by omega)).fr F89 (by omega), ?_⟩, ⟨_, r8.fr F89 (by omega), ?_⟩, ⟨y9, z9.fr F9 (by omega), rows (G := fun y => y.1) w9 u9 t9⟩, ⟨y10, z10.fr F9 (by omega), rows (G := fun y => nI y.2.1) w10 u10 t10⟩, ⟨y11, z11.fr F9 (by omega), rows (G := fun y => bI y.2.2.1) w11 u11 t11⟩, ⟨y12, z12.fr F9 (by omega), rows (G := fun y => y.2.2.2) w12 u12 t12⟩⟩
    · rw [hv2j 0 (by omega), hv10, List.length_append]; rfl
    · exact one (G := fun T s => nI (kd T s)) b3 (fun s hs => by show nI _ = nI _; rw [kd_app hs]) (by show k = nI _; rw [n1]; exact f2)
    · exact one (G := fun T s => nm T s) b4 (fun s hs => nm_app hs) (by show n = nm _ _; rw [n2, x2])
    · exact one (G := fun T s => pA T s) b5 (fun s hs => pA_app hs) (by show a = pA _ _; rw [n3, x3])
    · exact one (G := fun T s => pB T s) b6 (fun s hs => pB_app hs) (by show b = pB _ _; rw [n4, x4])
    · exact one (G := fun T s => nI (dp T s)) b7 (fun s hs => by show nI _ = nI _; rw [dp_app hs]) (by show nI _ = nI _; rw [n5])
    · exact one (G := fun T s => nI (fl T s).length) b8 (fun s hs => by show nI _ = nI _; rw [fl_app hs]) (by show nI _ = nI _; rw [n6])
  have F09 : Fr H H9 (fun q => 24 ≤ q ∧ q ≤ 34) := ((F17.up (fun q hq => by omega)).tr (e3.up (fun q hq => by omega))).tr (F9.up (fun q hq => by omega))
  have hB9 : MTb H9 (T ++ [x]) (fun a b => (a < T.length ∧ b < T.length) ∨ (b = T.length ∧ a < 0)) := by
    have hB' := hB.fr F09 (by omega) (by omega)
    obtain ⟨⟨f, p1, p2⟩, g, p3, p4⟩ := hB'
    refine ⟨⟨f, p1, fun r w q => ?_⟩, g, p3, fun r w q => ?_⟩
    · have q' : r < T.length ∧ w < T.length := by omega
      rw [p2 r w q', matchS_app hT 7 w r q'.2 q'.1]
    · have q' : r < T.length ∧ w < T.length := by omega
      rw [p4 r w q', readsS_app hT 14 r w q'.1 q'.2]
  obtain ⟨HE, o1, o2, o3, o4⟩ := Mo_colL (fu := fu) (s := T.length) hT' hp' (by rw [List.length_append]; rfl) hfu T.length 0 fu H9 (by omega) (by omega) hM9 hB9
  rw [nI_0] at o1
  refine ⟨HE, v2, o1, o2, o3.mono (fun a b hab => ?_), fun j h1 h2 => by rw [hv2j j h2, hv1j j h1], (F09.up (fun q hq => by omega)).tr (o4.up (fun q hq => by unfold A2 at hq; omega))⟩
  rw [List.length_append, List.length_singleton] at hab
  omega
theorem Mo_make (h : MSB H v T P) (hB : MTb H T (fun a b => a < T.length ∧ b < T.length)) (hT : TOk T) (hp : TPos T) (hP : POk T P) (hfu : 30 ≤ fu) {k n a b : Int32} :
    (mkS T P k n a b = none → jF_Mo_make fu (some 24) k n a b H = some (-1, H)) ∧
    (∀ x, mkS T P k n a b = some x → ∃ H' v', jF_Mo_make fu (some 24) k n a b H = some (nI T.length, H') ∧ MSB H' v' (T ++ [x]) (if k = 7 then [] else P) ∧ MTb H' (T ++ [x]) (fun a b => a < (T ++ [x]).length ∧ b < (T ++ [x]).length) ∧ (∀ j, j ≠ 0 → j ≠ 13 → v' j = v j) ∧ Fr H H' (fun q => 24 ≤ q ∧ q ≤ 36)) := by
  have hl := hT.1
  rw [Mo_make0 h hT hP (by omega)]
  unfold mkS
  by_cases c1 : T.length = 24
  · rw [if_pos c1, if_pos c1]
    exact ⟨fun _ => rfl, fun x hx => by cases hx⟩
  · rw [if_neg c1, if_neg c1]
    cases hm : mkB T P k n a b with
    | none => exact ⟨fun _ => rfl, fun x hx => by cases hx⟩
    | some x =>
      have hf := mkB_facts hT hP hm
      dsimp only
      by_cases c2 : x.2.2.2.2.1 ≤ 6
      · rw [if_pos c2]
        refine ⟨fun q => (by cases q), fun y hy => ?_⟩
        cases hy
        exact Mo_make201 h hB hT hp hP hm c2 (by omega) hfu
      · rw [if_neg c2]
        refine ⟨fun _ => ?_, fun y hy => by cases hy⟩
        unfold jJ_Mo_make_201
        have h7 := hf.2.2.1
        rw [if_neg (show ¬ nI (x.2.2.2.2.1 - 1) < (6 : Int32) from fun q => by
          have := (nI_ltI (b := 6) (by omega) (by omega)).mp q
          omega)]
end MM4
