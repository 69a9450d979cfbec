/-! Each call of both sides: equal answers, and all is kept. -/
section SR
variable {fu : Nat}
theorem st_canRead (hfu : 2000 ≤ fu) (a b : Int32) : yStepR (fun H => jF_ST_canRead fu (some 1) a b H) (fun H => jF_Mo_canRead (some 24) a b H) := by
  rintro H ⟨W, R, h1, ⟨v, h2⟩, h3, h4⟩
  exact ⟨_, C_canRead h1 h3.1 (by omega), Mo_canRead h2 h3.1⟩
theorem st_versions (hfu : 2000 ≤ fu) (a : Int32) : yStepR (fun H => jF_ST_versions fu (some 1) a H) (fun H => jF_Mo_versions fu (some 24) a H) := by
  rintro H ⟨W, R, h1, ⟨v, h2⟩, h3, h4⟩
  exact ⟨_, C_versions h1 h3.2.2.2.2.1.1 (by omega), Mo_versions h2 h3.2.2.2.2.1.1 (by omega)⟩
theorem st_version (hfu : 2000 ≤ fu) (a b : Int32) : yStepR (fun H => jF_ST_version fu (some 1) a b H) (fun H => jF_Mo_version fu (some 24) a b H) := by
  rintro H ⟨W, R, h1, ⟨v, h2⟩, h3, h4⟩
  exact ⟨_, C_version h1 h3.2.2.2.2.1.1 (by omega), Mo_version h2 h3.2.2.2.2.1.1 (by omega)⟩
theorem st_number (a : Int32) : yStepR (fun H => jF_ST_number (some 1) a H) (fun H => jF_Mo_number (some 24) a H) := by
  rintro H ⟨⟨T, P, D, xs, g, fo⟩, R, h1, ⟨v, h2⟩, h3, h4⟩
  exact ⟨_, C_number h1 h3.2.2.2.2.2.2.2.1, Mo_number h2 h3.2.2.2.2.2.2.2.1⟩
theorem st_records (hfu : 2000 ≤ fu) (a : Int32) : yStepR (fun H => jF_ST_records fu (some 1) a H) (fun H => jF_Mo_records fu (some 24) a H) := by
  rintro H ⟨W, R, h1, ⟨v, h2⟩, h3, h4⟩
  exact ⟨_, C_records h1 h3.2.2.2.2.1.1 h3.2.2.2.2.1.2.2.1 (by omega), Mo_records h2 h3.2.2.2.2.1.1 h3.2.2.2.2.1.2.2.1 (by omega)⟩
theorem st_files (hfu : 2000 ≤ fu) (a : Int32) : yStepR (fun H => jF_ST_files fu (some 1) a H) (fun H => jF_Mo_files fu (some 24) a H) := by
  rintro H ⟨W, R, h1, ⟨v, h2⟩, h3, h4⟩
  exact ⟨_, C_files h1 h3.2.2.2.2.1.1 h3.2.2.2.2.1.2.2.1 (by omega), Mo_files h2 h3.2.2.2.2.1.1 h3.2.2.2.2.1.2.2.1 (by omega)⟩
theorem st_octet (a b : Int32) : yStepR (fun H => jF_ST_octet (some 1) a b H) (fun H => jF_Mo_octet (some 24) a b H) := by
  rintro H ⟨W, R, h1, ⟨v, h2⟩, h3, h4⟩
  exact ⟨_, C_octet h1, Mo_octet h2⟩
theorem st_writes : yStepR (fun H => jF_ST_writes (some 1) H) (fun H => jF_Mo_writes (some 24) H) := by
  rintro H ⟨W, R, h1, ⟨v, h2⟩, h3, h4⟩
  exact ⟨_, C_writes h1, Mo_writes h2⟩
theorem st_give (x : Int64) : yStep (fun H => jF_ST_give (some 1) x H) (fun H => jF_Mo_give (some 24) x H) := by
  rintro H ⟨⟨T, P, D, xs, g, fo⟩, R, h1, h2, h3, h4⟩
  have hw : WOk (giveS x (T, P, D, xs, g, fo)).2 := by
    unfold giveS
    split
    · split
      · exact h3
      · next hl =>
        obtain ⟨a1, a2, a3, a4, a5, a6, a7, a8, a9⟩ := h3
        dsimp only at hl a6
        exact ⟨a1, a2, a3, a4, a5, by show (xs ++ [x]).length ≤ 24; rw [List.length_append, List.length_singleton]; omega, a7, a8, a9⟩
    · exact h3
  exact yStep.of h2 h4 hw (C_give h1 h3.2.2.2.2.2.1) (fun H1 v hv => Mo_give hv h3.2.2.2.2.2.1)
theorem st_drop : yStep (fun H => jF_ST_drop (some 1) H) (fun H => jF_Mo_drop (some 24) H) := by
  rintro H ⟨⟨T, P, D, xs, g, fo⟩, R, h1, h2, h3, h4⟩
  have hw : WOk (dropS (T, P, D, xs, g, fo)).2 := by
    unfold dropS
    split
    · obtain ⟨a1, a2, a3, a4, a5, a6, a7, a8, a9⟩ := h3
      exact ⟨a1, a2, a3, a4, a5, by simp, SOk.nil, a8, a9⟩
    · exact h3
  exact yStep.of h2 h4 hw (C_drop h1) (fun H1 v hv => Mo_drop hv)
theorem st_stage (hfu : 2000 ≤ fu) (s : Int32) : yStep (fun H => jF_ST_stage fu (some 1) s H) (fun H => jF_Mo_stage fu (some 24) s H) := by
  rintro H ⟨⟨T, P, D, xs, ⟨ss, sc, sb⟩, fo⟩, R, h1, h2, h3, h4⟩
  obtain ⟨a1, a2, a3, a4, a5, a6, ⟨s1, s2, s3, rs, s4, s5⟩, a8, a9⟩ := id h3
  dsimp only at a1 a2 a3 a4 a5 a6 s1 s2 s3 s4 s5 a8 a9
  have hw : WOk (stageS s (T, P, D, xs, (ss, sc, sb), fo)).2 := by
    unfold stageS
    dsimp only
    split
    · split
      · exact h3
      · next k hk =>
        obtain ⟨hkl, rfl⟩ := scOf_some hk
        split
        · exact h3
        · next hne =>
          split
          · exact h3
          · next r hr =>
            split
            · next hrl =>
              split
              · exact h3
              · next hno =>
                refine ⟨a1, a2, a3, a4, a5, by simp, ⟨by show sc + 1 ≤ 10; omega, by show (sb ++ r.2).length ≤ 150; rw [List.length_append]; omega, fun _ => hkl, rs ++ [xs], ?_, by show (rs ++ [xs]).length = sc + 1; rw [List.length_append, s5]; rfl⟩, a8, a9⟩
                show recsB T k (rs ++ [xs]) (sb ++ r.2)
                have hone : recsB T k [xs] r.2 := ⟨a6, r.2, [], by rw [← hrl]; exact hr, by rw [List.append_nil], rfl⟩
                have hold : recsB T k rs sb := by
                  by_cases h0 : 0 < sc
                  · have : ss = k := Classical.byContradiction (fun q => hne ⟨h0, q⟩)
                    rw [← this]; exact s4
                  · have hn : rs = [] := List.eq_nil_of_length_eq_zero (by omega)
                    subst hn
                    exact s4
                exact hone.app _ _ hold
            · exact h3
    · exact h3
  exact yStep.of h2 h4 hw (C_stage h1 a1 a2 a6 s1 s2 s3 (by omega)) (fun H1 v hv => Mo_stage hv a1 a3 a6 s1 s2 s3 (by omega))
theorem WOk.down {T : yT} {P : List yF} {D D' : yD} {xs fo : List Int64} {g : Nat × Nat × List Nat} (h : WOk (T, P, D, xs, g, fo)) (hD : DOk T D') : WOk (downW (T, P, D, xs, g, fo) D') := by
  obtain ⟨a1, a2, a3, a4, a5, a6, a7, a8, a9⟩ := h
  exact ⟨a1, a2, a3, a4, hD, by show 0 ≤ 24; omega, SOk.nil, by show 0 ≤ 40; omega, fun _ => rfl⟩
theorem st_load (hfu : 2000 ≤ fu) (u : Int32) : yStep (fun H => jF_ST_load fu (some 1) u H) (fun H => jF_Mo_load fu (some 24) u H) := by
  rintro H ⟨⟨T, P, D, xs, ⟨ss, sc, sb⟩, fo⟩, R, h1, h2, h3, h4⟩
  obtain ⟨a1, a2, a3, a4, a5, a6, ⟨s1, s2, s3, rs, s4, s5⟩, a8, a9⟩ := id h3
  dsimp only at a1 a2 a3 a4 a5 a6 s1 s2 s3 s4 s5 a8 a9
  have h24 := a1.1
  have hD : ∀ k b, k < 3 → 0 < sc → D.2.2.2 0 < 9 → roomS D.2.2.2 (nBl (fileB ss sc sb)) = some b → DOk T (commS D b (fileB ss sc sb) (manB D.2.2.2 k b (nBl (fileB ss sc sb)))).2 := by
    intro k b hk h0 h9 hr
    exact a5.load (by omega) (s3 h0) h24 (by omega) (by omega) s4 s5 h9 hr
  have hok : ∀ k b, suOf u = some k → roomS D.2.2.2 (nBl (fileB ss sc sb)) = some b → (commS D b (fileB ss sc sb) (manB D.2.2.2 k b (nBl (fileB ss sc sb)))).1 = true → 0 < sc → D.2.2.2 0 < 9 → dkOk (commS D b (fileB ss sc sb) (manB D.2.2.2 k b (nBl (fileB ss sc sb)))).2.2.2.2 ∧ mOk (commS D b (fileB ss sc sb) (manB D.2.2.2 k b (nBl (fileB ss sc sb)))).2.2.2.2 := by
    intro k b hk hr _ h0 h9
    have := hD k b (suOf_some hk).1 h0 h9 hr
    exact ⟨this.1, this.2.2.1⟩
  have hw : WOk (loadS u (T, P, D, xs, (ss, sc, sb), fo)).2 := by
    unfold loadS
    dsimp only
    split
    · split
      · exact h3
      · next k hk =>
        split
        · exact h3
        · next hne =>
          split
          · exact h3
          · next h9 =>
            split
            · exact h3
            · next b hr =>
              have h0 : 0 < sc := by
                have : ¬ sc = 0 := fun q => hne (Or.inl q)
                omega
              have hd' := hD k b (suOf_some hk).1 h0 (by omega) hr
              split
              · next hc =>
                refine ⟨a1, a2, a3, a4, hd', a6, SOk.nil, a8, fun q => ?_⟩
                have := commS_up hc
                dsimp only at q
                rw [this] at q
                exact a9 q
              · exact h3.down hd'
    · exact h3
  exact yStep.of h2 h4 hw (C_load h1 a5.1 a5.2.2.1 a5.2.2.2.1 a5.2.2.2.2.1 s1 s2 (fun q => by have := s3 q; omega) (s4.ok) hok (by omega)) (fun H1 v hv => Mo_load hv a5.1 a5.2.2.1 a5.2.2.2.2.1 s1 s2 (fun q => by have := s3 q; omega) (s4.ok) hok (by omega))
theorem st_compact (hfu : 2000 ≤ fu) (u : Int32) : yStep (fun H => jF_ST_compact fu (some 1) u H) (fun H => jF_Mo_compact fu (some 24) u H) := by
  rintro H ⟨⟨T, P, D, xs, g, fo⟩, R, h1, h2, h3, h4⟩
  obtain ⟨a1, a2, a3, a4, a5, a6, a7, a8, a9⟩ := id h3
  dsimp only at a1 a2 a3 a4 a5 a6 a8 a9
  have h24 := a1.1
  have hw : WOk (compS u (T, P, D, xs, g, fo)).2 := by
    unfold compS
    dsimp only
    split
    · split
      · exact h3
      · next k hk =>
        split
        · exact h3
        · next a c hj =>
          obtain ⟨j1, j2, j3, j4, j5, j6, j7⟩ := mJoin_lt _ _ _ _ hj
          rw [Nat.zero_add] at j3
          split
          · exact h3
          · next b hr =>
            have hd' := a5.join h24 j2 j3 j6 hr
            split
            · next hc =>
              refine ⟨a1, a2, a3, a4, hd', a6, a7, a8, fun q => ?_⟩
              have := commS_up hc
              dsimp only at q
              rw [this] at q
              exact a9 q
            · exact h3.down hd'
    · exact h3
  have hfb : ∀ i, i < D.2.2.2 0 → fAt D.2.2.2 i + 5 + fByt D.2.2.2 i ≤ 1280 := by
    intro i hi
    obtain ⟨rs, -, r2, -⟩ := a5.2.2.2.2.2.2 i hi
    have := fAt_lt a5.2.2.1 hi
    omega
  exact yStep.of h2 h4 hw (C_compact h1 a5.1 a5.2.2.1 a5.2.2.2.1 a5.2.2.2.2.1 hfb (by omega)) (fun H1 v hv => Mo_compact hv a5.1 a5.2.2.1 a5.2.2.2.2.1 hfb (by omega))
theorem st_register (hfu : 2000 ≤ fu) (u s : Int32) : yStep (fun H => jF_ST_register fu (some 1) u s H) (fun H => jF_Mo_register fu (some 24) u s H) := by
  rintro H ⟨⟨T, P, D, xs, g, fo⟩, R, h1, h2, h3, h4⟩
  obtain ⟨a1, a2, a3, a4, a5, a6, a7, a8, a9⟩ := id h3
  dsimp only at a1 a2 a3 a4 a5 a6 a8 a9
  have h24 := a1.1
  have hw : WOk (regS u s (T, P, D, xs, g, fo)).2 := by
    unfold regS
    dsimp only
    split
    · split
      · exact h3
      · next k hk =>
        split
        · exact h3
        · next r hr =>
          split
          · exact h3
          · split
            · exact h3
            · next h10 =>
              split
              · have hd' : DOk T (wrS D 1 (regB D.2.2.2 k r)).2 := a5.reg h24 (by have := (suOf_some hk).1; omega) (scOf_some hr).1 (by omega)
                split
                · next hc =>
                  refine ⟨a1, a2, a3, a4, hd', a6, a7, a8, fun q => ?_⟩
                  have := wrS_up hc
                  dsimp only at q
                  rw [this] at q
                  exact a9 q
                · exact h3.down hd'
              · exact h3
    · exact h3
  exact yStep.of h2 h4 hw (C_register h1 a1 a5 (by omega)) (fun H1 v hv => Mo_register hv a1 a5 (by omega))
theorem st_read (hfu : 2000 ≤ fu) (u k s : Int32) : yStep (fun H => jF_ST_read fu (some 1) u k s H) (fun H => jF_Mo_read fu (some 24) u k s H) := by
  rintro H ⟨⟨T, P, D, xs, g, fo⟩, R, h1, h2, h3, h4⟩
  obtain ⟨a1, a2, a3, a4, a5, a6, a7, a8, a9⟩ := id h3
  dsimp only at a1 a2 a3 a4 a5 a6 a8 a9
  have hex : ∀ i, ∃ rs : List (List Int64), i < D.2.2.2 0 → FOr T D.2.2.2 i rs := by
    intro i
    by_cases hi : i < D.2.2.2 0
    · obtain ⟨rs, hrs⟩ := a5.2.2.2.2.2.2 i hi
      exact ⟨rs, fun _ => hrs⟩
    · exact ⟨[], fun q => absurd q hi⟩
  have hr : ∀ i, i < D.2.2.2 0 → FOr T D.2.2.2 i ((fun i => (hex i).choose) i) := fun i hi => (hex i).choose_spec hi
  generalize (fun i => (hex i).choose) = rsf at hr
  have hset : ∀ o : List Int64, o.length ≤ 40 → (D.1 = false → o = []) → WOk (setF (T, P, D, xs, g, fo) o) := fun o ho hn => ⟨a1, a2, a3, a4, a5, a6, a7, ho, hn⟩
  have hnil := hset [] (by simp) (fun _ => rfl)
  have hw : WOk (readS rsf u k s (T, P, D, xs, g, fo)).2 := by
    unfold readS
    dsimp only
    split
    · next hup =>
      split
      · exact hnil
      · split
        · exact hnil
        · split
          · split
            · exact hnil
            · split
              · exact hnil
              · split
                · exact hnil
                · split
                  · next hl => exact hset _ hl (fun q => by rw [hup] at q; cases q)
                  · exact hnil
          · exact hnil
    · exact hnil
  exact yStep.of h2 h4 hw (C_read h1 a1 a2 a5.1 a5.2.2.1 hr (by omega)) (fun H1 v hv => Mo_read hv a1 a2 a3 a5.1 a5.2.2.1 hr a9 (by omega))
theorem st_limit (x : Int32) : yStep (fun H => jF_ST_limit (some 1) x H) (fun H => jF_Mo_limit (some 24) x H) := by
  rintro H ⟨⟨T, P, D, xs, g, fo⟩, R, h1, h2, h3, h4⟩
  have hw : WOk (limS x (T, P, D, xs, g, fo)).2 := by
    unfold limS
    split
    · split
      · exact h3
      · next hx =>
        obtain ⟨a1, a2, a3, a4, ⟨d1, d2, d3, d4, d5, d6, d7⟩, a6, a7, a8, a9⟩ := h3
        refine ⟨a1, a2, a3, a4, ⟨d1, d2, d3, d4, ?_, d6, d7⟩, a6, a7, a8, a9⟩
        intro n hn
        obtain ⟨m, hm, rfl⟩ := nI_of hx
        rw [nI_clamp hm] at hn
        cases hn
        exact hm
    · exact h3
  exact yStep.of h2 h4 hw (C_limit h1) (fun H1 v hv => Mo_limit hv)
theorem st_restart : yStep (fun H => jF_ST_restart (some 1) H) (fun H => jF_Mo_restart (some 24) H) := by
  rintro H ⟨⟨T, P, D, xs, g, fo⟩, R, h1, h2, h3, h4⟩
  have hw : WOk (rstS (T, P, D, xs, g, fo)).2 := by
    obtain ⟨a1, a2, a3, a4, ⟨d1, d2, d3, d4, d5, d6, d7⟩, a6, a7, a8, a9⟩ := h3
    exact ⟨a1, a2, a3, a4, ⟨d1, d2, d3, d4, d5, d6, d7⟩, a6, a7, a8, fun q => by cases q⟩
  exact yStep.of h2 h4 hw (C_restart h1) (fun H1 v hv => Mo_restart hv)
theorem st_field (hfu : 2000 ≤ fu) (n s : Int32) (has : Bool) (x : Int64) : yStep (fun H => jF_ST_field fu (some 1) n s (bI has) x H) (fun H => jF_Mo_field fu (some 24) n s (bI has) x H) := by
  rintro H ⟨⟨T, P, D, xs, g, fo⟩, R, h1, ⟨v, h2⟩, h3, h4⟩
  obtain ⟨a1, a2, a3, a4, a5, a6, a7, a8, a9⟩ := id h3
  dsimp only at a1 a2 a3 a4 a5 a6 a8 a9
  obtain ⟨k1, k2, k3, -⟩ := id h1
  dsimp only at k3
  obtain ⟨c1, c2⟩ := C_addField (fu := fu) (n := n) (s := s) (has := has) (val := x) k3 a1 a4.1 h4 (by omega)
  have hj : ∀ {y : Int32 × zH}, jF_Schemas_addField fu (some 4) n ((scOf T s).map R) (bI has) x H = some y → jF_ST_field fu (some 1) n s (bI has) x H = some y := by
    intro y hy
    unfold jF_ST_field
    rw [qok k1.1, Option.bind_some, qgR k1.1 rfl, Option.bind_some, Option.bind_some, C_find k3 a1.1, Option.bind_some, hy]
    rfl
  by_cases hf : fldOk T P n s has x
  · obtain ⟨k, H1, e0, e1, e2, e3⟩ := c1 hf
    have E3 : Fr H H1 (fun q => q = 4 ∨ q = 5 ∨ q = 6) := e3.up (fun q hq => by unfold A2 at hq; omega)
    have r1 := h1.sch E3 e2
    have h2' := h2.fr (e3.up (fun q hq => hq)) (fun q hq => by unfold A2 at hq; omega)
    obtain ⟨k', H2, f0, f1, f2, f3⟩ := (Mo_field (fu := fu) (n := n) (s := s) (has := has) (val := x) h2'.1 a1 a3 a4.1 (by omega)).1 hf
    have hkk : k' = k := by rw [e0] at f0; cases f0; rfl
    subst hkk
    have hsl := (scOf_some e0).1
    obtain ⟨w1, w2, w3, w4, w5, w6, w7⟩ := id h2'
    have m2 := f2.1
    have nA : ∀ q, 35 ≤ q → ¬ (q = 24 ∨ 31 ≤ q ∧ q ≤ 34) := fun q hq => by omega
    refine ⟨_, H1, H2, hj e1, f1, (T, P ++ [(n, k', has, x)], D, xs, g, fo), R, r1.fr f3 (fun q hq => by omega), ⟨_, ⟨f2, w2.fr f3 (nA _ (by omega)) (nA _ (by omega)), w3.fr f3 (nA _ (by omega)) m2 rfl rfl rfl rfl, w4.fr f3 (nA _ (by omega)) rfl, w5.fr f3 (nA _ (by omega)) rfl rfl rfl, w6.fr f3 (nA _ (by omega)) rfl, w7.fr f3 (fun q hq => by omega)⟩⟩, ⟨a1, a2, a3, ⟨?_, ?_⟩, a5, a6, a7, a8, a9⟩, ?_⟩
    · have := hf.1
      have := a4.1
      show (P ++ [(n, k', has, x)]).length ≤ 3
      rw [List.length_append, List.length_singleton]
      omega
    · intro i hi
      dsimp only at hi ⊢
      rw [List.length_append, List.length_singleton] at hi
      rw [getD_snoc _ _ _ _ hi]
      split
      · exact hsl
      · exact a4.2 i (by omega)
    · have := e3.1
      have := f3.1
      omega
  · have hm := (Mo_field (fu := fu) (n := n) (s := s) (has := has) (val := x) h2.1 a1 a3 a4.1 (by omega)).2 hf
    exact ⟨-1, H, H, hj (c2 hf), hm, _, R, h1, ⟨v, h2⟩, h3, h4⟩
theorem st_make (hfu : 2000 ≤ fu) (k n a b : Int32) : yStep (fun H => jF_ST_make fu (some 1) k n a b H) (fun H => jF_Mo_make fu (some 24) k n a b H) := by
  rintro H ⟨⟨T, P, D, xs, g, fo⟩, R, h1, ⟨v, h2⟩, h3, h4⟩
  obtain ⟨a1, a2, a3, a4, a5, a6, ⟨s1, s2, s3, rs, s4, s5⟩, a8, a9⟩ := id h3
  dsimp only at a1 a2 a3 a4 a5 a6 s1 s2 s3 s4 s5 a8 a9
  obtain ⟨k1, k2, k3, -⟩ := id h1
  dsimp only at k3
  obtain ⟨c1, c2⟩ := C_addSchema (fu := fu) (k := k) (n := n) (a := a) (b := b) k3 a1 a4 h4 (by omega)
  have hj : ∀ {y : Int32 × zH}, jF_Schemas_addSchema fu (some 4) k n a b H = some y → jF_ST_make fu (some 1) k n a b H = some y := by
    intro y hy
    unfold jF_ST_make
    rw [qok k1.1, Option.bind_some, qgR k1.1 rfl, Option.bind_some, hy]
    rfl
  cases hmk : mkS T P k n a b with
  | none =>
    obtain ⟨H1, e1, e2, e3⟩ := c1 hmk
    have r1 := h1.sch (e3.up (fun q hq => hq.elim)) e2
    have h2' := h2.fr e3 (fun q hq => hq.elim)
    have hm := (Mo_make (fu := fu) (k := k) (n := n) (a := a) (b := b) h2'.1 h2'.2.1 a1 a3 a4 (by omega)).1 hmk
    exact ⟨-1, H1, H1, hj e1, hm, _, R, r1, ⟨v, h2'⟩, h3, by have := e3.1; omega⟩
  | some x =>
    obtain ⟨H1, R', e1, e2, e4, e3⟩ := c2 x hmk
    have r1 := h1.sch (e3.up (fun q hq => by unfold A2 at hq; omega)) e2
    have h2' := h2.fr e3 (fun q hq => by unfold A2 at hq; omega)
    obtain ⟨H2, v2, f1, f2, f4, f5, f3⟩ := (Mo_make (fu := fu) (k := k) (n := n) (a := a) (b := b) h2'.1 h2'.2.1 a1 a3 a4 (by omega)).2 x hmk
    obtain ⟨w1, w2, w3, w4, w5, w6, w7⟩ := id h2'
    have nA : ∀ q, 37 ≤ q → ¬ (24 ≤ q ∧ q ≤ 36) := fun q hq => by omega
    have ve : ∀ j, 14 ≤ j → v2 j = v j := fun j hj => f5 j (by omega) (by omega)
    have hmk' := hmk
    unfold mkS at hmk'
    split at hmk'
    · cases hmk'
    · next h24 =>
      cases hB : mkB T P k n a b with
      | none => rw [hB] at hmk'; cases hmk'
      | some y =>
        rw [hB] at hmk'
        dsimp only at hmk'
        split at hmk'
        · next h6 =>
          cases hmk'
          have hfc := mkB_facts a1 a4 hB
          obtain ⟨t1, t2⟩ := a1.snoc a3 a4 hfc h6 (by have := a1.1; omega)
          have hG : ∀ s, s < T.length → yG (T ++ [x]) s = yG T s := fun s hs => yG_app hs
          have hlen : (T ++ [x]).length = T.length + 1 := by rw [List.length_append, List.length_singleton]
          refine ⟨_, H1, H2, hj e1, f1, (T ++ [x], if k = 7 then [] else P, D, xs, g, fo), R', r1.fr f3 (fun q hq => by omega), ⟨v2, ⟨f2, f4, w3.fr f3 (nA _ (by omega)) f2.1 (ve _ (by omega)) (ve _ (by omega)) (ve _ (by omega)) (ve _ (by omega)), w4.fr f3 (nA _ (by omega)) (ve _ (by omega)), w5.fr f3 (nA _ (by omega)) (ve _ (by omega)) (ve _ (by omega)) (ve _ (by omega)), w6.fr f3 (nA _ (by omega)) (ve _ (by omega)), w7.fr f3 (fun q hq => by omega)⟩⟩, ⟨t1, a2.snoc hB, t2, ?_, a5.more a1 hG (show T.length ≤ (T ++ [x]).length by omega), a6, ?_, a8, a9⟩, ?_⟩
          · refine ⟨?_, fun i hi => ?_⟩
            · show (if k = 7 then [] else P).length ≤ 3
              split
              · show 0 ≤ 3; omega
              · exact a4.1
            · dsimp only at hi ⊢
              split at hi
              · simp at hi
              · next hk7 =>
                rw [if_neg hk7, hlen]
                have := a4.2 i hi
                omega
          · refine ⟨s1, s2, fun q => ?_, rs, ?_, s5⟩
            · have := s3 q
              show g.1 < (T ++ [x]).length
              omega
            · by_cases h0 : 0 < g.2.1
              · exact recsB.more a1 hG (s3 h0) _ _ s4
              · have hn : rs = [] := List.eq_nil_of_length_eq_zero (by omega)
                subst hn
                exact s4
          · have := e3.1
            have := f3.1
            omega
        · cases hmk'
end SR
