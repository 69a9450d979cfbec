/-! A schema more, on the class's side. -/
section CA2
variable {H : zH} {T : yT} {P : List yF} {R : Nat → Nat} {fu : Nat}
theorem yG_new' {x : yS} : kd (T ++ [x]) T.length = x.1 ∧ nm (T ++ [x]) T.length = x.2.1 ∧ pA (T ++ [x]) T.length = x.2.2.1 ∧ pB (T ++ [x]) T.length = x.2.2.2.1 ∧ dp (T ++ [x]) T.length = x.2.2.2.2.1 ∧ fl (T ++ [x]) T.length = x.2.2.2.2.2 := by
  unfold kd nm pA pB dp fl
  rw [yG_new]
  exact ⟨rfl, rfl, rfl, rfl, rfl, rfl⟩
theorem TOk.snoc (hT : TOk T) (hp : TPos T) (hP : POk T P) {k : Int32} {x : yS} (hf : mkFacts T P k x) (h6 : x.2.2.2.2.1 ≤ 6) (h24 : T.length < 24) : TOk (T ++ [x]) ∧ TPos (T ++ [x]) := by
  obtain ⟨n1, n2, n3, n4, n5, n6⟩ := yG_new' (T := T) (x := x)
  obtain ⟨f1, f2, f3, f4, f5, f6, f7, f8, f9⟩ := hf
  have n7 : sA (T ++ [x]) T.length = x.2.2.1.toNatClampNeg := by unfold sA; rw [n3]
  have n8 : sB (T ++ [x]) T.length = x.2.2.2.1.toNatClampNeg := by unfold sB; rw [n4]
  refine ⟨⟨by rw [List.length_append]; simp; omega, fun s hs => ?_⟩, fun s hs => ?_⟩
  · rw [List.length_append, List.length_singleton] at hs
    by_cases he : s = T.length
    · subst he
      rw [n1, n5, n6, n7, n8]
      refine ⟨f1, f4, h6, ?_, f5, ?_, ?_, ?_⟩
      · by_cases h7 : x.1 = 7
        · rw [f6 h7]; exact hP.1
        · rw [f5 h7]; simp
      · intro q
        have := f7 q
        exact ⟨this.2.1, by rw [dp_app this.2.1]; exact this.2.2⟩
      · intro q
        have := f8 q
        exact ⟨this.2.2.1, this.2.2.2.1, by rw [dp_app this.2.2.1]; exact this.2.2.2.2.1, by rw [dp_app this.2.2.2.1]; exact this.2.2.2.2.2.1, by rw [kd_app this.2.2.1]; exact this.2.2.2.2.2.2.1, by rw [kd_app this.2.2.2.1]; exact this.2.2.2.2.2.2.2⟩
      · intro i hi
        by_cases h7 : x.1 = 7
        · rw [f6 h7] at hi ⊢
          have h1 := hP.2 i hi
          exact ⟨h1, by rw [dp_app h1]; exact f9 h7 i hi⟩
        · rw [f5 h7] at hi; simp at hi
    · have hs' : s < T.length := by omega
      obtain ⟨t1, t2, t3, t4, t5, t6, t7, t8⟩ := hT.2 s hs'
      rw [kd_app hs', dp_app hs', fl_app hs', sA_app hs', sB_app hs']
      refine ⟨t1, t2, t3, t4, t5, ?_, ?_, ?_⟩
      · intro q
        have := t6 q
        exact ⟨this.1, by rw [dp_app (by omega)]; exact this.2⟩
      · intro q
        have := t7 q
        rw [dp_app (show sA T s < T.length by omega), dp_app (show sB T s < T.length by omega), kd_app (show sA T s < T.length by omega), kd_app (show sB T s < T.length by omega)]
        exact this
      · intro i hi
        have := t8 i hi
        exact ⟨this.1, by rw [dp_app (by omega)]; exact this.2⟩
  · rw [List.length_append, List.length_singleton] at hs
    by_cases he : s = T.length
    · subst he
      rw [n1, n3, n4]
      exact ⟨fun q => (f7 q).1, fun q => ⟨(f8 q).1, (f8 q).2.1⟩⟩
    · have hs' : s < T.length := by omega
      rw [kd_app hs', pA_app hs', pB_app hs']
      exact hp s hs'
theorem NewSch.at {x : yS} {ad : Nat} {k : Int32} (h : NewSch H R x ad) (hP : POk T P) (hf : mkFacts T P k x) : SchemaAt H (T ++ [x]) (va_up R T.length ad) T.length := by
  obtain ⟨n1, n2, n3, n4, n5, n6⟩ := yG_new' (T := T) (x := x)
  obtain ⟨f1, f2, f3, f4, f5, f6, f7, f8, f9⟩ := hf
  have n7 : sA (T ++ [x]) T.length = x.2.2.1.toNatClampNeg := by unfold sA; rw [n3]
  have n8 : sB (T ++ [x]) T.length = x.2.2.2.1.toNatClampNeg := by unfold sB; rw [n4]
  obtain ⟨nv, sy, ot, fi, se, fa, g, h1, h2, h3, h4, h5, h6, h7, h8, h9⟩ := h
  have hR : ∀ q, q < T.length → va_up R T.length ad q = R q := fun q hq => zup_ne (by omega)
  refine ⟨nv, sy, ot, fi, se, fa, g, by rw [zup_same]; exact h1, h2, by rw [zup_same, n1, n5]; exact h3, by rw [n6]; exact h4, ?_, ?_, ?_, ?_, ?_⟩
  · rw [n6]
    refine h5.ext (n := T.length) (fun i hi => ?_) hR
    by_cases hk : x.1 = 7
    · rw [f6 hk] at hi ⊢; exact hP.2 i hi
    · rw [f5 hk] at hi; simp at hi
  · rw [n1, n2, n3, n4]; exact h6
  · rw [n1, n2]; exact h7
  · intro q; rw [n1] at q; rw [n7, hR _ (f7 q).2.1]; exact h8 q
  · intro q; rw [n1] at q; rw [n7, n8, hR _ (f8 q).2.2.1, hR _ (f8 q).2.2.2.1]; exact h9 q
theorem C_addSchema (h : SchemasAt H T P R) (hT : TOk T) (hP : POk T P) (h46 : 46 ≤ H.2) (hfu : 5 ≤ fu) {k n a b : Int32} :
    (mkS T P k n a b = none → ∃ H', jF_Schemas_addSchema fu (some 4) k n a b H = some (-1, H') ∧ SchemasAt H' T P R ∧ Fr H H' (fun _ => False)) ∧
    (∀ x, mkS T P k n a b = some x → ∃ H' R', jF_Schemas_addSchema fu (some 4) k n a b H = some (nI T.length, H') ∧ SchemasAt H' (T ++ [x]) (if k = 7 then [] else P) R' ∧ (∀ s, s < T.length → R' s = R s) ∧ Fr H H' (A2 4 5)) := by
  have h24 := hT.1
  have h' := h
  obtain ⟨kn, pd, e1, e2, e3, e4, e5⟩ := h'
  unfold jF_Schemas_addSchema mkS
  rw [qok e1, Option.bind_some, qgI e1 rfl, Option.bind_some, show (24 : Int32) = nI 24 from rfl, if_eqN (by omega) (by omega)]
  by_cases c1 : T.length = 24
  · rw [if_pos c1, if_pos c1]
    exact ⟨fun _ => ⟨H, rfl, h, Fr.rf⟩, fun x hx => by cases hx⟩
  · rw [if_neg c1, if_neg c1]
    obtain ⟨o, H1, g1, g2, g3⟩ := C_build (fu := fu) (k := k) (n := n) (a := a) (b := b) h hT hP h46 hfu
    rw [g1, Option.bind_some]
    have h1 : SchemasAt H1 T P R := h.fr g2 (fun q hq => hq.elim) (fun q => q) (fun q => q) (fun q => q)
    rcases g3 with ⟨rfl, hm⟩ | ⟨ad, x, rfl, hm, hN⟩
    · rw [hm, if_pos rfl]
      exact ⟨fun _ => ⟨H1, rfl, h1, g2⟩, fun x hx => by cases hx⟩
    · rw [hm, if_neg (by simp)]
      have hf := mkB_facts hT hP hm
      have hN' := hN
      obtain ⟨nv, sy, ot, fi, se, fa, g, m1, m2, m3, m4, m5⟩ := hN'
      have hd : zgI H1 (some ad) 8 7 = some (nI x.2.2.2.2.1) := qgI m3 rfl
      have hx7 := hf.2.2.1
      dsimp only
      rw [hd, Option.bind_some, li6, if_leN (by omega) (by omega)]
      by_cases c2 : x.2.2.2.2.1 ≤ 6
      · rw [if_pos c2, if_pos c2]
        refine ⟨fun q => (by cases q), fun y hy => ?_⟩
        cases hy
        -- the heap behind the pending count
        have key : ∀ (H2 : zH) (P' : List yF), SchemasAt H2 T P' R → (∀ i, i < P'.length → (P'.getD i yF0).2.1 < T.length) → Fr H1 H2 (A2 4 5) → ∃ H' R', jJ_Schemas_addSchema_50 fu (some 4) (some ad) H2 = some (nI T.length, H') ∧ SchemasAt H' (T ++ [x]) P' R' ∧ (∀ s, s < T.length → R' s = R s) ∧ Fr H H' (A2 4 5) := by
          intro H2 P' hS2 hPl F2
          obtain ⟨kn2, pd2, d1, d2, d3, d4, d5⟩ := hS2
          have m3' := F2.2 _ _ m3 (by unfold A2; omega)
          unfold jJ_Schemas_addSchema_50
          rw [qgR d1 rfl, Option.bind_some, qgI d1 rfl, Option.bind_some, qsR d2 m3' (by omega) (by omega), Option.bind_some]
          generalize hH3 : zset H2 5 (.inl (3, 24, .inr (.inr (va_up kn2 T.length (some ad))))) = H3
          have F3 : Fr H2 H3 (A2 4 5) := by rw [← hH3]; exact Fr.set (Or.inr rfl)
          have d1' : zgo H3 (some 4) = some (.inr (9, [zR (some 5), zR (some 6), zI (nI T.length), zI (nI P'.length)])) := by rw [← hH3, zgo_set_ne (by decide)]; exact d1
          have d2' : zgo H3 (some 5) = some (.inl (3, 24, .inr (.inr (va_up kn2 T.length (some ad))))) := by rw [← hH3]; exact zgo_set_same d2
          rw [qgI d1' rfl, Option.bind_some, qpV d1' (by simp), Option.bind_some, nI_1]
          have d9 := zgo_set_same (x := .inr (9, [zR (some 5), zR (some 6), zI (nI (T.length + 1)), zI (nI P'.length)])) d1'
          rw [show (([zR (some 5), zR (some 6), zI (nI T.length), zI (nI P'.length)] : List zV).set 2 (zI (nI (T.length + 1)))) = [zR (some 5), zR (some 6), zI (nI (T.length + 1)), zI (nI P'.length)] from rfl, qgI d9 rfl, Option.bind_some, nI_pred]
          have F4 : Fr H3 (zset H3 4 (.inr (9, [zR (some 5), zR (some 6), zI (nI (T.length + 1)), zI (nI P'.length)]))) (A2 4 5) := Fr.set (Or.inl rfl)
          have F24 := F3.tr F4
          have FH := (g2.up (fun q hq => hq.elim)).tr (F2.tr F24)
          have hA : ∀ q, A2 4 5 q → q < 46 := fun q hq => by unfold A2 at hq; omega
          have hR : ∀ q, q < T.length → va_up R T.length ad q = R q := fun q hq => zup_ne (by omega)
          refine ⟨_, va_up R T.length ad, rfl, ⟨va_up kn2 T.length (some ad), pd2, ?_, ?_, ?_, ?_, ?_⟩, hR, FH⟩
          · rw [List.length_append, d9]; rfl
          · rw [zgo_set_ne (by decide)]; exact d2'
          · exact F24.2 _ _ d3 (by unfold A2; omega)
          · intro s hs
            rw [List.length_append, List.length_singleton] at hs
            by_cases he : s = T.length
            · subst he
              refine ⟨by rw [zup_same, zup_same], ?_⟩
              have hN2 : NewSch (zset H3 4 (.inr (9, [zR (some 5), zR (some 6), zI (nI (T.length + 1)), zI (nI P'.length)]))) R x ad := by
                have Fx := F2.tr F24
                exact ⟨nv, sy, ot, fi, se, fa, g, m1, m2, Fx.2 _ _ m3 (by unfold A2; omega), Fx.2 _ _ m4 (by unfold A2; omega), m5.1.fr Fx hA, m5.2⟩
              exact hN2.at hP hf
            · have hs' : s < T.length := by omega
              refine ⟨by rw [zup_ne he, hR s hs']; exact (d4 s hs').1, ?_⟩
              exact (((d4 s hs').2).fr F24 hA).ext hs' hT hR
          · exact (d5.fr F24 hA).ext (n := T.length) hPl hR
        by_cases c7 : k = 7
        · rw [if_pos c7, if_pos c7]
          obtain ⟨kn1, pd1, b1, b2, b3, b4, b5⟩ := h1
          rw [qpV b1 (by simp), Option.bind_some]
          have hA : ∀ q, A2 4 5 q → q < 46 := fun q hq => by unfold A2 at hq; omega
          have F5 : Fr H1 (zset H1 4 (.inr (9, [zR (some 5), zR (some 6), zI (nI T.length), zI 0]))) (A2 4 5) := Fr.set (Or.inl rfl)
          refine key _ [] ⟨kn1, pd1, ?_, ?_, ?_, ?_, FieldsAt.nil⟩ (fun i hi => by simp at hi) F5
          · exact zgo_set_same b1
          · rw [zgo_set_ne (by decide)]; exact b2
          · rw [zgo_set_ne (by decide)]; exact b3
          · exact fun s hs => ⟨(b4 s hs).1, (b4 s hs).2.fr F5 hA⟩
        · rw [if_neg c7, if_neg c7]
          exact key H1 P h1 hP.2 Fr.rf
      · rw [if_neg c2, if_neg c2]
        exact ⟨fun _ => ⟨H1, rfl, h1, g2⟩, fun x hx => by cases hx⟩
end CA2
