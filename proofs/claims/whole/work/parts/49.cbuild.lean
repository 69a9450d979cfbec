/-! The class's make: what is built, and that it is added. -/
def mkB (T : yT) (P : List yF) (k n a b : Int32) : Option yS :=
  if k = 0 ∨ k = 1 ∨ k = 2 ∨ k = 3 then some (k.toNatClampNeg, n, a, b, 1, [])
  else if k = 4 then (if nmOk n ∧ ¬ a < 1 ∧ a ≤ 255 ∧ (b = -1 ∨ hasSy a b.toInt64 = true) then some (4, n, a, b, 1, []) else none)
  else if k = 5 then (match scOf T a with
    | none => none
    | some i => some (5, n, a, b, dp T i + 1, []))
  else if k = 6 then (match scOf T a with
    | none => none
    | some i => match scOf T b with
      | none => none
      | some j => if kd T i ≠ 6 ∧ kd T j ≠ 6 ∧ (kd T i ≠ kd T j ∨ ((kd T i = 4 ∨ kd T i = 7) ∧ nm T i ≠ nm T j)) then some (6, n, a, b, mx2 (dp T i) (dp T j) + 1, []) else none)
  else if k = 7 then (if nmOk n then some (7, n, a, b, mxF T P P.length 0 0 + 1, P) else none)
  else none
def NewSch (H : zH) (R : Nat → Nat) (x : yS) (ad : Nat) : Prop := ∃ (nv sy ot : Int32) (fi se : Option Nat) (fa : Nat) (g : Nat → Option Nat), 46 ≤ ad ∧ 46 ≤ fa ∧
  zgo H (some ad) = some (.inr (8, [zI (nI x.1), zI nv, zI sy, zI ot, zR fi, zR se, zR (some fa), zI (nI x.2.2.2.2.1)])) ∧
  zgo H (some fa) = some (.inl (4, x.2.2.2.2.2.length, .inr (.inr g))) ∧ FieldsAt H R x.2.2.2.2.2 g ∧
  (x.1 = 4 → nv = x.2.1 ∧ sy = x.2.2.1 ∧ ot = x.2.2.2.1) ∧ (x.1 = 7 → nv = x.2.1) ∧ (x.1 = 5 → fi = some (R x.2.2.1.toNatClampNeg)) ∧ (x.1 = 6 → fi = some (R x.2.2.1.toNatClampNeg) ∧ se = some (R x.2.2.2.1.toNatClampNeg))
section CB
variable {H : zH} {T : yT} {P : List yF} {R : Nat → Nat} {fu : Nat}
theorem C_of0 (hS : SchT H T R) (hT : TOk T) (h46 : 46 ≤ H.2) {k n sy ot : Int32} {fi se : Option Nat} (h1 : ∀ i, fi = some i → i < T.length) (h2 : ∀ i, se = some i → i < T.length) (hfu : 5 ≤ fu) :
    ∃ H', ((zno H (.inr (8, [zI 0, zI 0, zI 0, zI 0, zR none, zR none, zR none, zI 0]))).bind fun H0 => (zno H0 (.inl (4, 0, (.inr (.inr fun _ => none))))).bind fun H1 => (jF_Schema_init fu H.2 k n sy ot (fi.map R) (se.map R) (some H0.2) H1).bind fun y => some ((some H.2), y)) = some (some H.2, H') ∧
      zgo H' (some H.2) = some (.inr (8, [zI k, zI n, zI sy, zI ot, zR (fi.map R), zR (se.map R), zR (some (H.2 + 1)), zI (nI (dAb T fi se [] + 1))])) ∧ zgo H' (some (H.2 + 1)) = some (.inl (4, 0, .inr (.inr fun _ => none))) ∧ Fr H H' (fun _ => False) := by
  unfold zno
  simp only [Option.bind_some]
  have c0 : zgo (znw H (.inr (8, [zI 0, zI 0, zI 0, zI 0, zR none, zR none, zR none, zI 0]))) (some H.2) = some (.inr (8, [zI 0, zI 0, zI 0, zI 0, zR none, zR none, zR none, zI 0])) := znw_new (by omega)
  have F0 : Fr H (znw H (.inr (8, [zI 0, zI 0, zI 0, zI 0, zR none, zR none, zR none, zI 0]))) (fun _ => False) := Fr.new
  have hn0 : (znw H (.inr (8, [zI 0, zI 0, zI 0, zI 0, zR none, zR none, zR none, zI 0]))).2 = H.2 + 1 := rfl
  generalize znw H (.inr (8, [zI 0, zI 0, zI 0, zI 0, zR none, zR none, zR none, zI 0])) = H0 at c0 F0 hn0 ⊢
  have c1 : zgo (znw H0 (.inl (4, 0, .inr (.inr fun _ => none)))) (some H0.2) = some (.inl (4, 0, .inr (.inr fun _ => none))) := znw_new (by omega)
  have c0' := znw_old (x := .inl (4, 0, .inr (.inr fun _ => none))) c0
  have F1 : Fr H (znw H0 (.inl (4, 0, .inr (.inr fun _ => none)))) (fun _ => False) := F0.tr Fr.new
  obtain ⟨H', g1, g2, g3, g4, g5⟩ := C_init (fu := fu) (k := k) (n := n) (sy := sy) (ot := ot) (fi := fi) (se := se) (l := []) hS hT F1 (Nat.le_refl _) c0' c1 (by omega) FieldsAt.nil (by simp) (fun i hi => by simp at hi) h1 h2 hfu
  rw [g1, Option.bind_some]
  rw [hn0] at g2 g3
  exact ⟨H', rfl, g2, g3, g4⟩
theorem dAb_00 : dAb T none none [] = 0 := rfl
theorem C_plain (hS : SchT H T R) (hT : TOk T) (h46 : 46 ≤ H.2) (hfu : 5 ≤ fu) {k : Nat} {n a b : Int32} (hk : k ≤ 3) : ∃ H', jF_Schema_ofPlain fu (nI k) H = some (some H.2, H') ∧ NewSch H' R (k, n, a, b, 1, []) H.2 ∧ Fr H H' (fun _ => False) := by
  obtain ⟨H', g1, g2, g3, g4⟩ := C_of0 (fu := fu) (k := nI k) (n := 0) (sy := 0) (ot := -1) (fi := none) (se := none) hS hT h46 (fun i h => by cases h) (fun i h => by cases h) hfu
  exact ⟨H', g1, ⟨_, _, _, _, _, _, _, h46, by omega, g2, g3, FieldsAt.nil, fun q => (by have : k = 4 := q; omega), fun q => (by have : k = 7 := q; omega), fun q => (by have : k = 5 := q; omega), fun q => (by have : k = 6 := q; omega)⟩, g4⟩
theorem C_enum (hS : SchT H T R) (hT : TOk T) (h46 : 46 ≤ H.2) (hfu : 5 ≤ fu) {n a b : Int32} : ∃ o H', jF_Schemas_buildEnum fu n a b H = some (o, H') ∧ Fr H H' (fun _ => False) ∧ ((o = none ∧ ¬ (nmOk n ∧ ¬ a < 1 ∧ a ≤ 255 ∧ (b = -1 ∨ hasSy a b.toInt64 = true))) ∨ (o = some H.2 ∧ (nmOk n ∧ ¬ a < 1 ∧ a ≤ 255 ∧ (b = -1 ∨ hasSy a b.toInt64 = true)) ∧ NewSch H' R (4, n, a, b, 1, []) H.2)) := by
  unfold jF_Schemas_buildEnum jJ_Schemas_buildEnum_43
  rw [C_isName, Option.bind_some, if_bI]
  by_cases c1 : nmOk n
  · rw [if_pos (decide_eq_true c1)]
    by_cases c2 : a < 1
    · rw [if_pos c2]
      exact ⟨_, _, rfl, Fr.rf, Or.inl ⟨rfl, fun q => q.2.1 c2⟩⟩
    · rw [if_neg c2]
      by_cases c3 : a ≤ 255
      · rw [if_pos c3]
        obtain ⟨H', g1, g2, g3, g4⟩ := C_of0 (fu := fu) (k := 4) (n := n) (sy := a) (ot := b) (fi := none) (se := none) hS hT h46 (fun i h => by cases h) (fun i h => by cases h) hfu
        have g1' : jF_Schema_ofEnum fu n a b H = some (some H.2, H') := g1
        rw [g1', Option.bind_some]
        have hN : NewSch H' R (4, n, a, b, 1, []) H.2 := ⟨_, _, _, _, _, _, _, h46, by omega, g2, g3, FieldsAt.nil, fun _ => ⟨rfl, rfl, rfl⟩, fun q => (by cases q), fun q => (by cases q), fun q => (by cases q)⟩
        by_cases c4 : b = -1
        · rw [if_pos c4]
          exact ⟨_, _, rfl, g4, Or.inr ⟨rfl, ⟨c1, c2, c3, Or.inl c4⟩, hN⟩⟩
        · rw [if_neg c4]
          have hh : jF_Schema_hasSymbol (some H.2) b.toInt64 H' = some (bI (hasSy a b.toInt64)) := by
            unfold jF_Schema_hasSymbol jF_Schema_isName hasSy
            rw [qok g2, Option.bind_some]
            by_cases h1 : b.toInt64 < 0
            · rw [if_pos h1, Option.bind_some, if_pos rfl, decide_eq_false (fun q => q.1 h1)]; rfl
            · rw [if_neg h1]
              by_cases h2 : (8 : Int64) ≤ b.toInt64
              · rw [if_pos h2, Option.bind_some, if_pos rfl, decide_eq_false (fun q => q.2.1 h2)]; rfl
              · rw [if_neg h2, Option.bind_some, if_neg (by decide), qgI g2 rfl, Option.bind_some, bI_if]
                simp only [h1, h2, not_false_eq_true, true_and]
          rw [hh, Option.bind_some, if_bI]
          cases c5 : hasSy a b.toInt64 with
          | true =>
            rw [if_pos rfl]
            exact ⟨_, _, rfl, g4, Or.inr ⟨rfl, ⟨c1, c2, c3, Or.inr rfl⟩, hN⟩⟩
          | false =>
            rw [if_neg Bool.false_ne_true]
            exact ⟨_, _, rfl, g4, Or.inl ⟨rfl, fun q => (by rcases q.2.2.2 with q | q; exact c4 q; cases q)⟩⟩
      · rw [if_neg c3]
        exact ⟨_, _, rfl, Fr.rf, Or.inl ⟨rfl, fun q => c3 q.2.2.1⟩⟩
  · rw [if_neg (by rw [decide_eq_false c1]; exact Bool.false_ne_true)]
    exact ⟨_, _, rfl, Fr.rf, Or.inl ⟨rfl, fun q => c1 q.1⟩⟩
theorem C_array (hS : SchT H T R) (hT : TOk T) (h46 : 46 ≤ H.2) (hfu : 5 ≤ fu) {n a b : Int32} {i : Nat} (hi : scOf T a = some i) : ∃ H', jF_Schemas_buildArray fu (some (R i)) H = some (some H.2, H') ∧ NewSch H' R (5, n, a, b, dp T i + 1, []) H.2 ∧ Fr H H' (fun _ => False) := by
  obtain ⟨hil, rfl⟩ := scOf_some hi
  have h24 := hT.1
  obtain ⟨H', g1, g2, g3, g4⟩ := C_of0 (fu := fu) (k := 5) (n := 0) (sy := 0) (ot := -1) (fi := some i) (se := none) hS hT h46 (fun j h => by cases h; exact hil) (fun i h => by cases h) hfu
  unfold jF_Schemas_buildArray
  have g1' : jF_Schema_ofArray fu (some (R i)) H = some (some H.2, H') := g1
  rw [if_neg (by simp), g1', Option.bind_some]
  exact ⟨H', rfl, ⟨_, _, _, _, _, _, _, h46, by omega, g2, g3, FieldsAt.nil, fun q => (by cases q), fun q => (by cases q), fun _ => (by show some (R i) = some (R (nI i).toNatClampNeg); rw [nI_clamp (by omega)]), fun q => (by cases q)⟩, g4⟩
theorem C_diff (hS : SchT H T R) (hT : TOk T) {i j : Nat} (hi : i < T.length) (hj : j < T.length) (he : kd T i = kd T j) : jF_Schemas_haveDifferentNames (some (R i)) (some (R j)) H = some (bI (decide ((kd T i = 4 ∨ kd T i = 7) ∧ nm T i ≠ nm T j))) := by
  have t1 := (hT.2 i hi).1
  have key : (kd T i = 4 ∨ kd T i = 7) → jJ_Schemas_haveDifferentNames_22 H 1 (some (R i)) (some (R j)) = some (bI (decide ((kd T i = 4 ∨ kd T i = 7) ∧ nm T i ≠ nm T j))) := by
    intro c4
    unfold jJ_Schemas_haveDifferentNames_22
    rw [if_neg (by decide), hS.n hi c4, Option.bind_some, hS.n hj (by omega), Option.bind_some]
    by_cases c5 : nm T i = nm T j
    · rw [if_pos c5, decide_eq_false (fun q => q.2 c5)]; rfl
    · rw [if_neg c5, decide_eq_true ⟨c4, c5⟩]; rfl
  unfold jF_Schemas_haveDifferentNames jJ_Schemas_haveDifferentNames_17
  rw [hS.k hi, Option.bind_some, Option.bind_some, li4, li7, if_eqN (by omega) (by omega), if_eqN (by omega) (by omega)]
  by_cases c4 : kd T i = 4
  · rw [if_pos c4]; exact key (Or.inl c4)
  · rw [if_neg c4]
    by_cases c7 : kd T i = 7
    · rw [if_pos c7]; exact key (Or.inr c7)
    · rw [if_neg c7, decide_eq_false (fun q => by rcases q.1 with q | q; exact c4 q; exact c7 q)]
      unfold jJ_Schemas_haveDifferentNames_22
      rw [if_pos rfl]; rfl
theorem C_union (hS : SchT H T R) (hT : TOk T) (h46 : 46 ≤ H.2) (hfu : 5 ≤ fu) {n a b : Int32} {i j : Nat} (hi : scOf T a = some i) (hj : scOf T b = some j) : ∃ o H', jF_Schemas_buildUnion fu (some (R i)) (some (R j)) H = some (o, H') ∧ Fr H H' (fun _ => False) ∧ ((o = none ∧ ¬ (kd T i ≠ 6 ∧ kd T j ≠ 6 ∧ (kd T i ≠ kd T j ∨ ((kd T i = 4 ∨ kd T i = 7) ∧ nm T i ≠ nm T j)))) ∨ (o = some H.2 ∧ (kd T i ≠ 6 ∧ kd T j ≠ 6 ∧ (kd T i ≠ kd T j ∨ ((kd T i = 4 ∨ kd T i = 7) ∧ nm T i ≠ nm T j))) ∧ NewSch H' R (6, n, a, b, mx2 (dp T i) (dp T j) + 1, []) H.2)) := by
  obtain ⟨hil, rfl⟩ := scOf_some hi
  obtain ⟨hjl, rfl⟩ := scOf_some hj
  have h24 := hT.1
  have t1 := (hT.2 i hil).1
  have t2 := (hT.2 j hjl).1
  obtain ⟨H', g1, g2, g3, g4⟩ := C_of0 (fu := fu) (k := 6) (n := 0) (sy := 0) (ot := -1) (fi := some i) (se := some j) hS hT h46 (fun j h => by cases h; exact hil) (fun i h => by cases h; exact hjl) hfu
  have g1' : jF_Schema_ofUnion fu (some (R i)) (some (R j)) H = some (some H.2, H') := g1
  have hN : NewSch H' R (6, n, nI i, nI j, mx2 (dp T i) (dp T j) + 1, []) H.2 := ⟨_, _, _, _, _, _, _, h46, by omega, g2, g3, FieldsAt.nil, fun q => (by cases q), fun q => (by cases q), fun q => (by cases q), fun _ => ⟨(by show some (R i) = some (R (nI i).toNatClampNeg); rw [nI_clamp (by omega)]), (by show some (R j) = some (R (nI j).toNatClampNeg); rw [nI_clamp (by omega)])⟩⟩
  unfold jF_Schemas_buildUnion jJ_Schemas_buildUnion_49
  rw [if_neg (by simp), if_neg (by simp)]
  simp only [hS.k hil, hS.k hjl, Option.bind_some]
  rw [li6, if_eqN (by omega) (by omega), if_eqN (by omega) (by omega), if_eqN (by omega) (by omega)]
  have good : (kd T i ≠ 6 ∧ kd T j ≠ 6 ∧ (kd T i ≠ kd T j ∨ ((kd T i = 4 ∨ kd T i = 7) ∧ nm T i ≠ nm T j))) → ∃ o K, jJ_Schemas_buildUnion_54 fu 1 (some (R i)) (some (R j)) H = some (o, K) ∧ Fr H K (fun _ => False) ∧ ((o = none ∧ ¬ (kd T i ≠ 6 ∧ kd T j ≠ 6 ∧ (kd T i ≠ kd T j ∨ ((kd T i = 4 ∨ kd T i = 7) ∧ nm T i ≠ nm T j)))) ∨ (o = some H.2 ∧ (kd T i ≠ 6 ∧ kd T j ≠ 6 ∧ (kd T i ≠ kd T j ∨ ((kd T i = 4 ∨ kd T i = 7) ∧ nm T i ≠ nm T j))) ∧ NewSch K R (6, n, nI i, nI j, mx2 (dp T i) (dp T j) + 1, []) H.2)) := by
    intro q
    unfold jJ_Schemas_buildUnion_54
    rw [if_neg (by decide), g1', Option.bind_some]
    exact ⟨_, H', rfl, g4, Or.inr ⟨rfl, q, hN⟩⟩
  by_cases c1 : kd T i = 6
  · rw [if_pos c1]; exact ⟨_, _, rfl, Fr.rf, Or.inl ⟨rfl, fun q => q.1 c1⟩⟩
  · rw [if_neg c1]
    by_cases c2 : kd T j = 6
    · rw [if_pos c2]; exact ⟨_, _, rfl, Fr.rf, Or.inl ⟨rfl, fun q => q.2.1 c2⟩⟩
    · rw [if_neg c2]
      by_cases c3 : kd T i = kd T j
      · rw [if_pos c3, C_diff hS hT hil hjl c3, Option.bind_some, if_bI]
        by_cases c4 : (kd T i = 4 ∨ kd T i = 7) ∧ nm T i ≠ nm T j
        · rw [if_pos (decide_eq_true c4)]
          exact good ⟨c1, c2, Or.inr c4⟩
        · rw [if_neg (by rw [decide_eq_false c4]; exact Bool.false_ne_true)]
          unfold jJ_Schemas_buildUnion_54
          rw [if_pos rfl]
          exact ⟨none, H, rfl, Fr.rf, Or.inl ⟨rfl, fun q => (by rcases q.2.2 with q | q; exact q c3; exact c4 q)⟩⟩
      · rw [if_neg c3]
        exact good ⟨c1, c2, Or.inl c3⟩
end CB
