/-! The class's make, to its end. -/
def POk (T : yT) (P : List yF) : Prop := P.length ≤ 3 ∧ ∀ i, i < P.length → (P.getD i yF0).2.1 < T.length
theorem FieldsAt.ext {H : zH} {R R' : Nat → Nat} {l : List yF} {g : Nat → Option Nat} {n : Nat} (h : FieldsAt H R l g) (hl : ∀ i, i < l.length → (l.getD i yF0).2.1 < n) (hR : ∀ q, q < n → R' q = R q) : FieldsAt H R' l g := by
  intro i hi
  obtain ⟨k, h1, h2, h3⟩ := h i hi
  refine ⟨k, h1, h2, ?_⟩
  unfold FieldAt
  rw [hR _ (hl i hi)]
  exact h3
theorem SchemaAt.ext {H : zH} {T : yT} {R R' : Nat → Nat} {s : Nat} {x : yS} (h : SchemaAt H T R s) (hs : s < T.length) (hT : TOk T) (hR : ∀ q, q < T.length → R' q = R q) : SchemaAt H (T ++ [x]) R' s := by
  obtain ⟨t1, t2, t3, t4, t5, t6, t7, t8⟩ := hT.2 s hs
  obtain ⟨nv, sy, ot, fi, se, fa, g, h1, h2, h3, h4, h5, h6, h7, h8, h9⟩ := h
  have e1 := kd_app (x := x) hs
  have e2 := dp_app (x := x) hs
  have e3 := fl_app (x := x) hs
  refine ⟨nv, sy, ot, fi, se, fa, g, by rw [hR s hs]; exact h1, h2, by rw [hR s hs, e1, e2]; exact h3, by rw [e3]; exact h4, by rw [e3]; exact h5.ext (fun i hi => by have := t8 i hi; omega) hR, ?_, ?_, ?_, ?_⟩
  · intro q; rw [e1] at q; rw [nm_app hs, pA_app hs, pB_app hs]; exact h6 q
  · intro q; rw [e1] at q; rw [nm_app hs]; exact h7 q
  · intro q; rw [e1] at q; have := t6 q; rw [sA_app hs, hR _ (by omega)]; exact h8 q
  · intro q; rw [e1] at q; have := t7 q; rw [sA_app hs, sB_app hs, hR _ (by omega), hR _ (by omega)]; exact h9 q
section CA
variable {H : zH} {T : yT} {P : List yF} {R : Nat → Nat} {fu : Nat}
theorem C_recL {Hb : zH} (h : SchemasAt Hb T P R) (hT : TOk T) (hP : POk T P) (h46 : 46 ≤ Hb.2) (hfu : 5 ≤ fu) {n a b : Int32} {pd : Nat → Option Nat} (e1 : zgo Hb (some 4) = some (.inr (9, [zR (some 5), zR (some 6), zI (nI T.length), zI (nI P.length)]))) (e3 : zgo Hb (some 6) = some (.inl (4, 3, .inr (.inr pd)))) (e5 : FieldsAt Hb R P pd) :
    ∀ (k i g : Nat) (H : zH) (gi : Nat → Option Nat), i + k = P.length → k < g → Fr Hb H (fun _ => False) → H.2 = Hb.2 + 1 → zgo H (some Hb.2) = some (.inl (4, P.length, .inr (.inr gi))) → (∀ j, j < i → gi j = pd j) →
    ∃ H', jL_Schemas_buildRecord_20 fu g (some 4) n (some Hb.2) (nI i) H = some (some (Hb.2 + 1), H') ∧ NewSch H' R (7, n, a, b, mxF T P P.length 0 0 + 1, P) (Hb.2 + 1) ∧ Fr Hb H' (fun _ => False) := by
  have hS := h.tab
  intro k
  induction k with
  | zero =>
    intro i g H gi h1 h2 hF hn hz hg
    obtain ⟨q, rfl⟩ : ∃ q, g = q + 1 := ⟨g - 1, by omega⟩
    have hP3 := hP.1
    have e1' := hF.2 _ _ e1 (fun q => q)
    rw [jL_Schemas_buildRecord_20, qgI e1' rfl, Option.bind_some, if_pos (nI_le (by omega) (by omega))]
    unfold jF_Schema_ofRecord zno
    simp only [Option.bind_some]
    have c0 : zgo (znw H (.inr (8, [zI 0, zI 0, zI 0, zI 0, zR none, zR none, zR none, zI 0]))) (some H.2) = some (.inr (8, [zI 0, zI 0, zI 0, zI 0, zR none, zR none, zR none, zI 0])) := znw_new (by omega)
    have hz' := znw_old (x := .inr (8, [zI 0, zI 0, zI 0, zI 0, zR none, zR none, zR none, zI 0])) hz
    have hfi : FieldsAt Hb R P gi := by
      intro j hj
      obtain ⟨m, m1, m2, m3⟩ := e5 j hj
      exact ⟨m, m1, by rw [hg j (by omega)]; exact m2, m3⟩
    obtain ⟨H', g1, g2, g3, g4, g5⟩ := C_init (fu := fu) (k := 7) (n := n) (sy := 0) (ot := -1) (fi := none) (se := none) (l := P) hS hT (hF.tr Fr.new) (show Hb.2 ≤ H.2 by omega) c0 hz' (by omega) hfi hP.1 hP.2 (fun i h => by cases h) (fun i h => by cases h) hfu
    rw [show jF_Schema_init fu H.2 7 n 0 (-1) none none (some Hb.2) (znw H (.inr (8, [zI 0, zI 0, zI 0, zI 0, zR none, zR none, zR none, zI 0]))) = some H' from g1, Option.bind_some, Option.bind_some]
    rw [hn] at g2 ⊢
    exact ⟨H', rfl, ⟨_, _, _, _, _, _, _, by omega, h46, g2, g3, hfi.fr g4 (fun q hq => hq.elim), fun q => (by cases q), fun _ => rfl, fun q => (by cases q), fun q => (by cases q)⟩, g4⟩
  | succ k ih =>
    intro i g H gi h1 h2 hF hn hz hg
    obtain ⟨q, rfl⟩ : ∃ q, g = q + 1 := ⟨g - 1, by omega⟩
    have e1' := hF.2 _ _ e1 (fun q => q)
    have e3' := hF.2 _ _ e3 (fun q => q)
    have hP3 := hP.1
    obtain ⟨m, m1, m2, m3⟩ := e5 i (by omega)
    have m3' := hF.2 _ _ m3 (fun q => q)
    rw [jL_Schemas_buildRecord_20, qgI e1' rfl, Option.bind_some, if_neg (nI_ge (by omega) (by omega)), qgR e1' rfl, Option.bind_some, qaR e3' (by omega) (by omega), Option.bind_some, m2, qsR hz m3' (by omega) (by omega), Option.bind_some, nI_1]
    refine ih (i + 1) q _ (va_up gi i (some m)) (by omega) (by omega) (hF.fresh ((Fr.set (A := fun q => q = Hb.2) rfl).up (fun q hq => Or.inr (by rw [hq]; exact Nat.le_refl _)))) hn (zgo_set_same hz) ?_
    intro j hj
    unfold va_up
    by_cases he : j = i
    · rw [if_pos he, he, m2]
    · rw [if_neg he]; exact hg j (by omega)
theorem C_record (h : SchemasAt H T P R) (hT : TOk T) (hP : POk T P) (h46 : 46 ≤ H.2) (hfu : 5 ≤ fu) {n a b : Int32} : ∃ o H', jF_Schemas_buildRecord fu (some 4) n H = some (o, H') ∧ Fr H H' (fun _ => False) ∧ ((o = none ∧ ¬ nmOk n) ∨ (o = some (H.2 + 1) ∧ nmOk n ∧ NewSch H' R (7, n, a, b, mxF T P P.length 0 0 + 1, P) (H.2 + 1))) := by
  have h' := h
  obtain ⟨kn, pd, e1, e2, e3, e4, e5⟩ := h'
  have hP3 := hP.1
  unfold jF_Schemas_buildRecord
  rw [qok e1, Option.bind_some, C_isName, Option.bind_some, if_bI]
  by_cases c1 : nmOk n
  · rw [if_pos (decide_eq_true c1), qgI e1 rfl, Option.bind_some]
    have hc : znc (nI P.length) 3 = some P.length := by
      unfold znc
      rw [nI_clamp (by omega), if_neg (by rintro (q | q); exact nI_pos (by omega) q; omega)]
    rw [hc, Option.bind_some]
    unfold zno
    rw [Option.bind_some]
    obtain ⟨H', g1, g2, g3⟩ := C_recL (fu := fu) (n := n) (a := a) (b := b) h hT hP h46 hfu e1 e3 e5 P.length 0 fu (znw H (.inl (4, P.length, .inr (.inr fun _ => none)))) (fun _ => none) (by omega) (by omega) Fr.new rfl (znw_new (by omega)) (fun j hj => by omega)
    exact ⟨_, H', g1, g3, Or.inr ⟨rfl, c1, g2⟩⟩
  · rw [if_neg (by rw [decide_eq_false c1]; exact Bool.false_ne_true)]
    exact ⟨_, _, rfl, Fr.rf, Or.inl ⟨rfl, c1⟩⟩
theorem C_build (h : SchemasAt H T P R) (hT : TOk T) (hP : POk T P) (h46 : 46 ≤ H.2) (hfu : 5 ≤ fu) {k n a b : Int32} : ∃ o H', jF_Schemas_build fu (some 4) k n a b H = some (o, H') ∧ Fr H H' (fun _ => False) ∧ ((o = none ∧ mkB T P k n a b = none) ∨ ∃ ad x, o = some ad ∧ mkB T P k n a b = some x ∧ NewSch H' R x ad) := by
  have hS := h.tab
  have h' := h
  obtain ⟨kn, pd, e1, e2, e3, e4, e5⟩ := h'
  unfold jF_Schemas_build mkB
  rw [qok e1, Option.bind_some]
  by_cases c0 : k = 0 ∨ k = 1 ∨ k = 2 ∨ k = 3
  · rw [if_pos c0, if_pos c0]
    obtain ⟨m, hm, rfl⟩ : ∃ m : Nat, m ≤ 3 ∧ k = nI m := by
      rcases c0 with q | q | q | q
      · exact ⟨0, by omega, q⟩
      · exact ⟨1, by omega, q⟩
      · exact ⟨2, by omega, q⟩
      · exact ⟨3, by omega, q⟩
    obtain ⟨H', g1, g2, g3⟩ := C_plain (fu := fu) (n := n) (a := a) (b := b) hS hT h46 hfu hm
    rw [g1, Option.bind_some, nI_clamp (by omega)]
    exact ⟨_, H', rfl, g3, Or.inr ⟨_, _, rfl, rfl, g2⟩⟩
  · rw [if_neg c0, if_neg c0]
    by_cases c4 : k = 4
    · rw [if_pos c4, if_pos c4]
      obtain ⟨o, H', g1, g2, g3⟩ := C_enum (fu := fu) (n := n) (a := a) (b := b) hS hT h46 hfu
      rw [g1, Option.bind_some]
      rcases g3 with ⟨q1, q2⟩ | ⟨q1, q2, q3⟩
      · rw [if_neg q2]; exact ⟨_, H', rfl, g2, Or.inl ⟨q1, rfl⟩⟩
      · rw [if_pos q2]; exact ⟨_, H', rfl, g2, Or.inr ⟨_, _, q1, rfl, q3⟩⟩
    · rw [if_neg c4, if_neg c4]
      by_cases c5 : k = 5
      · rw [if_pos c5, if_pos c5, C_find h hT.1, Option.bind_some]
        cases hs : scOf T a with
        | none =>
          unfold jF_Schemas_buildArray
          rw [if_pos (show (none : Option Nat).map R = none from rfl), Option.bind_some]
          exact ⟨_, H, rfl, Fr.rf, Or.inl ⟨rfl, rfl⟩⟩
        | some i =>
          obtain ⟨H', g1, g2, g3⟩ := C_array (fu := fu) (n := n) (b := b) hS hT h46 hfu hs
          rw [show (some i).map R = some (R i) from rfl, g1, Option.bind_some]
          exact ⟨_, H', rfl, g3, Or.inr ⟨_, _, rfl, rfl, g2⟩⟩
      · rw [if_neg c5, if_neg c5]
        by_cases c6 : k = 6
        · rw [if_pos c6, if_pos c6, C_find h hT.1, Option.bind_some, C_find h hT.1, Option.bind_some]
          cases hs : scOf T a with
          | none =>
            unfold jF_Schemas_buildUnion
            rw [if_pos (show (none : Option Nat).map R = none from rfl), Option.bind_some]
            exact ⟨_, H, rfl, Fr.rf, Or.inl ⟨rfl, rfl⟩⟩
          | some i =>
            cases hs2 : scOf T b with
            | none =>
              unfold jF_Schemas_buildUnion
              rw [if_neg (show ¬ (some i).map R = none by simp), if_pos (show (none : Option Nat).map R = none from rfl), Option.bind_some]
              exact ⟨_, H, rfl, Fr.rf, Or.inl ⟨rfl, rfl⟩⟩
            | some j =>
              obtain ⟨o, H', g1, g2, g3⟩ := C_union (fu := fu) (n := n) hS hT h46 hfu hs hs2
              rw [show (some i).map R = some (R i) from rfl, show (some j).map R = some (R j) from rfl, g1, Option.bind_some]
              rcases g3 with ⟨q1, q2⟩ | ⟨q1, q2, q3⟩
              · exact ⟨_, H', rfl, g2, Or.inl ⟨q1, if_neg q2⟩⟩
              · exact ⟨_, H', rfl, g2, Or.inr ⟨_, _, q1, if_pos q2, q3⟩⟩
        · rw [if_neg c6, if_neg c6]
          by_cases c7 : k = 7
          · rw [if_pos c7, if_pos c7]
            obtain ⟨o, H', g1, g2, g3⟩ := C_record (fu := fu) (n := n) (a := a) (b := b) h hT hP h46 hfu
            rw [g1, Option.bind_some]
            rcases g3 with ⟨q1, q2⟩ | ⟨q1, q2, q3⟩
            · rw [if_neg q2]; exact ⟨_, H', rfl, g2, Or.inl ⟨q1, rfl⟩⟩
            · rw [if_pos q2]; exact ⟨_, H', rfl, g2, Or.inr ⟨_, _, q1, rfl, q3⟩⟩
          · rw [if_neg c7, if_neg c7]
            exact ⟨_, H, rfl, Fr.rf, Or.inl ⟨rfl, rfl⟩⟩
/-- what is made: nothing where there are 24, or where it would be too deep -/
def mkS (T : yT) (P : List yF) (k n a b : Int32) : Option yS := if T.length = 24 then none else match mkB T P k n a b with
  | none => none
  | some x => if x.2.2.2.2.1 ≤ 6 then some x else none
/-- what a made schema is like -/
def mkFacts (T : yT) (P : List yF) (k : Int32) (x : yS) : Prop := x.1 ≤ 7 ∧ k = nI x.1 ∧ x.2.2.2.2.1 ≤ 7 ∧ 1 ≤ x.2.2.2.2.1 ∧ (x.1 ≠ 7 → x.2.2.2.2.2 = []) ∧ (x.1 = 7 → x.2.2.2.2.2 = P) ∧
  (x.1 = 5 → 0 ≤ x.2.2.1 ∧ x.2.2.1.toNatClampNeg < T.length ∧ dp T x.2.2.1.toNatClampNeg < x.2.2.2.2.1) ∧ (x.1 = 6 → 0 ≤ x.2.2.1 ∧ 0 ≤ x.2.2.2.1 ∧ x.2.2.1.toNatClampNeg < T.length ∧ x.2.2.2.1.toNatClampNeg < T.length ∧ dp T x.2.2.1.toNatClampNeg < x.2.2.2.2.1 ∧ dp T x.2.2.2.1.toNatClampNeg < x.2.2.2.2.1 ∧ kd T x.2.2.1.toNatClampNeg ≠ 6 ∧ kd T x.2.2.2.1.toNatClampNeg ≠ 6) ∧
  (x.1 = 7 → ∀ i, i < P.length → dp T (P.getD i yF0).2.1 < x.2.2.2.2.1)
theorem mxF_ge (hT : TOk T) (hP : POk T P) : ∀ (k i a : Nat), i + k = P.length → a ≤ 6 → a ≤ mxF T P k i a ∧ mxF T P k i a ≤ 6 ∧ ∀ j, i ≤ j → j < P.length → dp T (P.getD j yF0).2.1 ≤ mxF T P k i a := by
  intro k
  induction k with
  | zero => intro i a h1 h2; exact ⟨Nat.le_refl _, h2, fun j hj hj2 => by omega⟩
  | succ k ih =>
    intro i a h1 h2
    have hs := hP.2 i (by omega)
    have hd := (hT.2 _ hs).2.2.1
    rw [mxF]
    obtain ⟨q1, q2, q3⟩ := ih (i + 1) (if a < dp T (P.getD i yF0).2.1 then dp T (P.getD i yF0).2.1 else a) (by omega) (by split <;> omega)
    have hm : a ≤ (if a < dp T (P.getD i yF0).2.1 then dp T (P.getD i yF0).2.1 else a) ∧ dp T (P.getD i yF0).2.1 ≤ (if a < dp T (P.getD i yF0).2.1 then dp T (P.getD i yF0).2.1 else a) := by split <;> omega
    refine ⟨by omega, q2, fun j hj hj2 => ?_⟩
    by_cases he : j = i
    · subst he; omega
    · exact q3 j (by omega) hj2
theorem mkB_facts (hT : TOk T) (hP : POk T P) {k n a b : Int32} {x : yS} (hx : mkB T P k n a b = some x) : mkFacts T P k x := by
  have h24 := hT.1
  unfold mkB at hx
  split at hx
  · next c0 =>
    obtain ⟨m, hm, rfl⟩ : ∃ m : Nat, m ≤ 3 ∧ k = nI m := by
      rcases c0 with q | q | q | q
      · exact ⟨0, by omega, q⟩
      · exact ⟨1, by omega, q⟩
      · exact ⟨2, by omega, q⟩
      · exact ⟨3, by omega, q⟩
    rw [nI_clamp (by omega)] at hx
    cases hx
    exact ⟨by show m ≤ 7; omega, rfl, by show 1 ≤ 7; omega, Nat.le_refl _, fun _ => rfl, fun q => (by have : m = 7 := q; omega), fun q => (by have : m = 5 := q; omega), fun q => (by have : m = 6 := q; omega), fun q => (by have : m = 7 := q; omega)⟩
  · split at hx
    · next c4 =>
      subst c4
      split at hx
      · cases hx
        exact ⟨by show 4 ≤ 7; omega, rfl, by show 1 ≤ 7; omega, Nat.le_refl _, fun _ => rfl, fun q => (by cases q), fun q => (by cases q), fun q => (by cases q), fun q => (by cases q)⟩
      · cases hx
    · split at hx
      · next c5 =>
        subst c5
        split at hx
        · cases hx
        · next i hi =>
          cases hx
          obtain ⟨hil, rfl⟩ := scOf_some hi
          have hd := (hT.2 i hil).2.2.1
          exact ⟨by show 5 ≤ 7; omega, rfl, by show dp T i + 1 ≤ 7; omega, by show 1 ≤ dp T i + 1; omega, fun _ => rfl, fun q => (by cases q), fun _ => ⟨nI_pos' (by omega), by show (nI i).toNatClampNeg < _; rw [nI_clamp (by omega)]; exact hil, by show dp T (nI i).toNatClampNeg < dp T i + 1; rw [nI_clamp (by omega)]; omega⟩, fun q => (by cases q), fun q => (by cases q)⟩
      · split at hx
        · next c6 =>
          subst c6
          split at hx
          · cases hx
          · next i hi =>
            split at hx
            · cases hx
            · next j hj =>
              split at hx
              · next hc =>
                cases hx
                obtain ⟨hil, rfl⟩ := scOf_some hi
                obtain ⟨hjl, rfl⟩ := scOf_some hj
                have hd := (hT.2 i hil).2.2.1
                have hd2 := (hT.2 j hjl).2.2.1
                have hm : dp T i ≤ mx2 (dp T i) (dp T j) ∧ dp T j ≤ mx2 (dp T i) (dp T j) ∧ mx2 (dp T i) (dp T j) ≤ 6 := by unfold mx2; split <;> omega
                refine ⟨by show 6 ≤ 7; omega, rfl, by show mx2 (dp T i) (dp T j) + 1 ≤ 7; omega, by show 1 ≤ mx2 (dp T i) (dp T j) + 1; omega, fun _ => rfl, fun q => (by cases q), fun q => (by cases q), fun _ => ?_, fun q => (by cases q)⟩
                show 0 ≤ nI i ∧ 0 ≤ nI j ∧ (nI i).toNatClampNeg < T.length ∧ (nI j).toNatClampNeg < T.length ∧ dp T (nI i).toNatClampNeg < mx2 (dp T i) (dp T j) + 1 ∧ dp T (nI j).toNatClampNeg < mx2 (dp T i) (dp T j) + 1 ∧ kd T (nI i).toNatClampNeg ≠ 6 ∧ kd T (nI j).toNatClampNeg ≠ 6
                rw [nI_clamp (by omega), nI_clamp (by omega)]
                exact ⟨nI_pos' (by omega), nI_pos' (by omega), hil, hjl, by omega, by omega, hc.1, hc.2.1⟩
              · cases hx
        · split at hx
          · next c7 =>
            subst c7
            split at hx
            · cases hx
              obtain ⟨q1, q2, q3⟩ := mxF_ge hT hP P.length 0 0 (by omega) (by omega)
              exact ⟨by show 7 ≤ 7; omega, rfl, by show mxF T P P.length 0 0 + 1 ≤ 7; omega, by show 1 ≤ mxF T P P.length 0 0 + 1; omega, fun q => absurd rfl q, fun _ => rfl, fun q => (by cases q), fun q => (by cases q), fun _ i hi => Nat.lt_succ_of_le (q3 i (by omega) hi)⟩
            · cases hx
          · cases hx
end CA
