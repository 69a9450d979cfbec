/-! stage of the reference. -/
theorem getD_right {α : Type} {a b : List α} {i : Nat} {d : α} : (a ++ b).getD (a.length + i) d = b.getD i d := by
  simp only [List.getD]
  rw [List.getElem?_append_right (Nat.le_add_right _ _), Nat.add_sub_cancel_left]
section MStg2
variable {H H' : zH} {v v' : Nat → Int32} {T : yT} {P : List yF} {D D' : yD} {xs fo : List Int64} {ss sc : Nat} {sb : List Nat} {g : Nat × Nat × List Nat} {fu : Nat}
theorem MX.any {A : Nat → Prop} (h : MX H) (hF : Fr H H' A) (h1 : A 41 → ∃ f, AI H' 41 320 f) (h2 : A 42 → ∃ f, AI H' 42 32 f) (h3 : A 43 → ∃ f, AJ H' 43 24 f) (h4 : A 44 → ∃ f, AI H' 44 64 f) (h5 : A 45 → ∃ f, AI H' 45 192 f) : MX H' := by
  obtain ⟨⟨f1, a1⟩, ⟨f2, a2⟩, ⟨f3, a3⟩, ⟨f4, a4⟩, ⟨f5, a5⟩⟩ := h
  refine ⟨?_, ?_, ?_, ?_, ?_⟩
  · by_cases hA : A 41
    · exact h1 hA
    · exact ⟨f1, a1.fr hF hA⟩
  · by_cases hA : A 42
    · exact h2 hA
    · exact ⟨f2, a2.fr hF hA⟩
  · by_cases hA : A 43
    · exact h3 hA
    · exact ⟨f3, a3.fr hF hA⟩
  · by_cases hA : A 44
    · exact h4 hA
    · exact ⟨f4, a4.fr hF hA⟩
  · by_cases hA : A 45
    · exact h5 hA
    · exact ⟨f5, a5.fr hF hA⟩
theorem Mo_stageV {a1 : Int32} (hxs : xs.length ≤ 24) : ∀ (m i g' : Nat) (H : zH), i + m = xs.length → MRv H v (T, P, D, xs, g, fo) → (∃ f, AJ H 43 24 f ∧ ∀ j, j < i → f j = xs.getD j 0) →
    ∃ H', jL_Mo_stage_37 fu (g' + 1 + m) (some 24) a1 (nI i) H = jL_Mo_stage_37 fu (g' + 1) (some 24) a1 (nI xs.length) H' ∧ MRv H' v (T, P, D, xs, g, fo) ∧ MVal H' xs ∧ Fr H H' (fun q => q = 43) := by
  intro m
  induction m with
  | zero =>
    intro i g' H h1 h hv
    have : i = xs.length := by omega
    subst this
    exact ⟨H, rfl, h, hv, Fr.rf⟩
  | succ m ih =>
    intro i g' H h1 h hv
    obtain ⟨m20, fr, ar, br⟩ := h.2.2.2.1
    obtain ⟨f, a, b⟩ := hv
    dsimp only at m20 br
    have hz : zgI H (some 24) 1 20 = some (nI xs.length) := by rw [← m20]; exact qgI h.m rfl
    rw [show g' + 1 + (m + 1) = (g' + 1 + m) + 1 by omega, jL_Mo_stage_37, hz, Option.bind_some, if_neg (nI_ge (by omega) (by omega)), qgR h.m rfl, Option.bind_some, qgR h.m rfl, Option.bind_some, qaL ar (by omega) (by omega), Option.bind_some, br i (by omega), qsL a (by omega) (by omega), Option.bind_some, nI_1]
    generalize hH1 : zset H 43 (.inl (2, 24, .inr (.inl (va_up f i (xs.getD i 0))))) = H1
    have F1 : Fr H H1 (fun q => q = 43) := by rw [← hH1]; exact Fr.set rfl
    have a1' : AJ H1 43 24 (va_up f i (xs.getD i 0)) := by rw [← hH1]; exact zgo_set_same a
    have h' : MRv H1 v (T, P, D, xs, g, fo) := h.scr F1 (fun q hq => by omega) (h.m.fr F1 (by omega)) vE.rf (h.2.2.2.2.2.2.any F1 (fun q => by omega) (fun q => by omega) (fun q => ⟨_, a1'⟩) (fun q => by omega) (fun q => by omega))
    obtain ⟨H2, f1, f2, f3, f4⟩ := ih (i + 1) g' H1 (by omega) h' ⟨_, a1', fun j hj => by
      by_cases hji : j = i
      · subst hji; rw [zup_same]
      · rw [zup_ne hji]; exact b j (by omega)⟩
    exact ⟨H2, f1, f2, f3, F1.tr f4⟩
theorem Mo_stageC {k : Nat} {b : List Nat} (hb : sb.length + b.length ≤ 150) (hsc : sc < 10) : ∀ (m i g' : Nat) (H : zH), i + m = b.length → m < g' → MRv H v (T, P, D, xs, (ss, sc, sb), fo) → MBy H v b → (∃ f, AI H 39 150 f ∧ ∀ j, j < sb.length + i → f j = nI ((sb ++ b).getD j 0)) →
    ∃ H', jL_Mo_stage_121 fu g' (some 24) (nI k) (nI i) H = some (nI b.length, H') ∧ MRep H' (T, P, D, [], (k, sc + 1, sb ++ b), fo) ∧ Fr H H' AM := by
  intro m
  induction m with
  | zero =>
    intro i g' H h1 h2 h hB hf
    obtain ⟨q, rfl⟩ : ∃ q, g' = q + 1 := ⟨g' - 1, by omega⟩
    obtain ⟨hM, h28, -⟩ := hB
    obtain ⟨w1, w2, w3, ⟨m20, fr, ar, br⟩, ⟨q1, q2, q3, f5, q4, q5⟩, w6, w7⟩ := id h
    dsimp only at q1 q2 q3 q5
    obtain ⟨f, a, hf'⟩ := hf
    have hz : zgI H (some 24) 1 28 = some (nI b.length) := by rw [← h28]; exact qgI h.m rfl
    have hz4 : zgI H (some 24) 1 24 = some (nI sb.length) := by rw [← q3]; exact qgI h.m rfl
    rw [jL_Mo_stage_121, hz, Option.bind_some, if_pos (nI_le (by omega) (by omega)), hz4, Option.bind_some, Option.bind_some, nI_add, h.m.set (by omega), Option.bind_some]
    have hz2 : zgI (zset H 24 (.inr (1, MoF (va_up v 24 (nI (sb.length + b.length)))))) (some 24) 1 22 = some (nI sc) := by
      rw [← q1]; exact qgI (h.m.new (w := va_up v 24 (nI (sb.length + b.length)))) rfl
    rw [hz2, Option.bind_some, nI_1, (h.m.new).set (by omega), Option.bind_some, (h.m.new.new).set (by omega), Option.bind_some, (h.m.new.new.new).set (by omega), Option.bind_some]
    have m4 := h.m.new (w := va_up v 24 (nI (sb.length + b.length))) |>.new (w := va_up (va_up v 24 (nI (sb.length + b.length))) 22 (nI (sc + 1))) |>.new (w := va_up (va_up (va_up v 24 (nI (sb.length + b.length))) 22 (nI (sc + 1))) 21 (nI k)) |>.new (w := va_up (va_up (va_up (va_up v 24 (nI (sb.length + b.length))) 22 (nI (sc + 1))) 21 (nI k)) 20 0)
    generalize hv' : va_up (va_up (va_up (va_up v 24 (nI (sb.length + b.length))) 22 (nI (sc + 1))) 21 (nI k)) 20 0 = v' at m4
    generalize hH2 : zset (zset (zset (zset H 24 (.inr (1, MoF (va_up v 24 (nI (sb.length + b.length)))))) 24 (.inr (1, MoF (va_up (va_up v 24 (nI (sb.length + b.length))) 22 (nI (sc + 1)))))) 24 (.inr (1, MoF (va_up (va_up (va_up v 24 (nI (sb.length + b.length))) 22 (nI (sc + 1))) 21 (nI k))))) 24 (.inr (1, MoF v')) = H2 at m4
    have F2 : Fr H H2 (fun q => q = 24) := by rw [← hH2]; exact (((Fr.set (A := fun q => q = 24) rfl).tr (Fr.set (A := fun q => q = 24) rfl)).tr (Fr.set (A := fun q => q = 24) rfl)).tr (Fr.set (A := fun q => q = 24) rfl)
    have hz3 : zgI H2 (some 24) 1 28 = some (nI b.length) := by
      have : v' 28 = nI b.length := by rw [← hv', ← h28]; rfl
      rw [← this]; exact qgI m4 rfl
    rw [hz3, Option.bind_some]
    refine ⟨H2, rfl, ⟨v', h.mk2 F2 (fun q hq => by omega) m4 (by rw [← hv']; rfl) (by rw [← hv']; rfl) (w3.fr F2 (by omega) m4 (by rw [← hv']; rfl) (by rw [← hv']; rfl) (by rw [← hv']; rfl) (by rw [← hv']; rfl)) ⟨by rw [← hv']; rfl, fr, ar.fr F2 (by omega), fun i hi => by simp at hi⟩ ⟨by rw [← hv']; rfl, fun _ => by rw [← hv']; rfl, ?_, f, a.fr F2 (by omega), ?_⟩ (w6.fr F2 (by omega) (by rw [← hv']; rfl)) (w7.fr F2 (fun q hq => by omega))⟩, F2.up (fun q hq => by unfold AM; omega)⟩
    · rw [← hv', List.length_append]; rfl
    · intro j hj
      rw [List.length_append] at hj
      exact hf' j (by omega)
  | succ m ih =>
    intro i g' H h1 h2 h hB hf
    obtain ⟨q, rfl⟩ : ∃ q, g' = q + 1 := ⟨g' - 1, by omega⟩
    obtain ⟨hM, h28, fb, ab, bb⟩ := id hB
    obtain ⟨w1, w2, w3, w4, ⟨q1, q2, q3, f5, q4, q5⟩, w6, w7⟩ := id h
    dsimp only at q1 q2 q3 q5
    obtain ⟨f, a, hf'⟩ := hf
    have hz : zgI H (some 24) 1 28 = some (nI b.length) := by rw [← h28]; exact qgI h.m rfl
    have hz4 : zgI H (some 24) 1 24 = some (nI sb.length) := by rw [← q3]; exact qgI h.m rfl
    rw [jL_Mo_stage_121, hz, Option.bind_some, if_neg (nI_ge (by omega) (by omega)), qgR h.m rfl, Option.bind_some, hz4, Option.bind_some, qgR h.m rfl, Option.bind_some, qaI ab (by omega) (by omega), Option.bind_some, bb i (by omega), nI_add, qsI a (by omega) (by omega), Option.bind_some, nI_1]
    generalize hH1 : zset H 39 (.inl (0, 150, .inl (va_up f (sb.length + i) (nI (b.getD i 0))))) = H1
    have F1 : Fr H H1 (fun q => q = 39) := by rw [← hH1]; exact Fr.set rfl
    have a1' : AI H1 39 150 (va_up f (sb.length + i) (nI (b.getD i 0))) := by rw [← hH1]; exact zgo_set_same a
    have m1 := h.m.fr F1 (by omega)
    have hcp : ∀ j, j < sb.length + (i + 1) → va_up f (sb.length + i) (nI (b.getD i 0)) j = nI ((sb ++ b).getD j 0) := by
      intro j hj
      by_cases hji : j = sb.length + i
      · subst hji
        rw [zup_same, getD_right]
      · rw [zup_ne hji]; exact hf' j (by omega)
    have h' : MRv H1 v (T, P, D, xs, (ss, sc, sb), fo) := h.mk2 F1 (fun q hq => by omega) m1 rfl rfl (w3.fr F1 (by omega) m1 rfl rfl rfl rfl) (w4.fr F1 (by omega) rfl) ⟨q1, q2, q3, _, a1', fun j hj => by
      dsimp only at hj ⊢
      rw [hcp j (by omega)]
      simp [List.getD, List.getElem?_append_left hj]⟩ (w6.fr F1 (by omega) rfl) (w7.fr F1 (fun q hq => by omega))
    obtain ⟨H2, f1, f2, f3⟩ := ih (i + 1) q H1 (by omega) (by omega) h' ⟨m1, h28, fb, ab.fr F1 (by omega), bb⟩ ⟨_, a1', hcp⟩
    exact ⟨H2, f1, f2, (F1.up (fun q hq => by unfold AM; omega)).tr f3⟩
theorem Mo_stage (h : MRv H v (T, P, D, xs, (ss, sc, sb), fo)) (hT : TOk T) (hp : TPos T) (hxs : xs.length ≤ 24) (hsc : sc ≤ 10) (hsb : sb.length ≤ 150) (hss : 0 < sc → ss < T.length) (hfu : 600 ≤ fu) {s : Int32} :
    ∃ H', jF_Mo_stage fu (some 24) s H = some ((stageS s (T, P, D, xs, (ss, sc, sb), fo)).1, H') ∧ MRep H' (stageS s (T, P, D, xs, (ss, sc, sb), fo)).2 ∧ Fr H H' AM := by
  obtain ⟨w1, w2, w3, w4, ⟨q1, q2, q3, f5, q4, q5⟩, w6, w7⟩ := id h
  have h24 := hT.1
  unfold jF_Mo_stage stageS
  rw [qok h.m, Option.bind_some, M_up h, Option.bind_some, if_nbI]
  dsimp only at *
  cases D.1 with
  | false => exact ⟨H, rfl, ⟨v, h⟩, Fr.rf⟩
  | true =>
    rw [if_pos rfl, if_pos rfl, Mo_noSchema w1 hT.1, Option.bind_some, if_bI]
    cases hsc' : scOf T s with
    | none => exact ⟨H, rfl, ⟨v, h⟩, Fr.rf⟩
    | some k =>
      obtain ⟨hk, rfl⟩ := scOf_some hsc'
      rw [show (some k).isNone = false from rfl, if_neg Bool.false_ne_true]
      have hz2 : zgI H (some 24) 1 22 = some (nI sc) := by rw [← q1]; exact qgI h.m rfl
      have main : ¬ (0 < sc ∧ ss ≠ k) → ∃ H', jL_Mo_stage_37 fu fu (some 24) (nI k) 0 H = some ((match encP T xs 7 k 0 with
          | none => ((-1 : Int32), (T, P, D, xs, (ss, sc, sb), fo))
          | some r => if r.1 = xs.length then (if sc = 10 ∨ ¬ sb.length + r.2.length ≤ 150 then (-3, T, P, D, xs, (ss, sc, sb), fo) else (nI r.2.length, T, P, D, [], (k, sc + 1, sb ++ r.2), fo)) else (-1, T, P, D, xs, (ss, sc, sb), fo)).1, H') ∧ MRep H' (match encP T xs 7 k 0 with
          | none => ((-1 : Int32), (T, P, D, xs, (ss, sc, sb), fo))
          | some r => if r.1 = xs.length then (if sc = 10 ∨ ¬ sb.length + r.2.length ≤ 150 then (-3, T, P, D, xs, (ss, sc, sb), fo) else (nI r.2.length, T, P, D, [], (k, sc + 1, sb ++ r.2), fo)) else (-1, T, P, D, xs, (ss, sc, sb), fo)).2 ∧ Fr H H' AM := by
        intro _
        obtain ⟨H1, e1, e2, e3, e4⟩ := Mo_stageV (fu := fu) (a1 := nI k) hxs xs.length 0 (fu - 1 - xs.length) H (by omega) h (by
          obtain ⟨-, -, ⟨f3, a3⟩, -⟩ := w7
          exact ⟨f3, a3, fun j hj => by omega⟩)
        rw [nI_0, show fu - 1 - xs.length + 1 + xs.length = fu by omega] at e1
        have F1 : Fr H H1 AM := e4.up (fun q hq => by unfold AM; omega)
        obtain ⟨m20, -⟩ := e2.2.2.2.1
        dsimp only at m20
        have hz : ∀ {K : zH}, MoAt K v → zgI K (some 24) 1 20 = some (nI xs.length) := fun hm => by rw [← m20]; exact qgI hm rfl
        obtain ⟨f4, a4⟩ := e2.2.2.2.2.2.2.2.2.2.1
        obtain ⟨H2, g1, g2, g3⟩ := Mo_span (fu := fu) (fr := 0) hT hp hxs (by omega) hk (Nat.zero_le _) e2.1 e3 ⟨[], f4, a4, True.intro⟩
        rw [e1, jL_Mo_stage_37, hz e2.m, Option.bind_some, if_pos (nI_le (Nat.le_refl _) (by omega)), Option.bind_some]
        have m2 := e2.m.fr g3 (by omega)
        have r2 : MRv H2 v (T, P, D, xs, (ss, sc, sb), fo) := e2.scr g3 (fun q hq => by omega) m2 vE.rf (e2.2.2.2.2.2.2.any g3 (fun q => by omega) (fun q => by omega) (fun q => by omega) (fun _ => by obtain ⟨l, f, a, -⟩ := g2; exact ⟨f, a⟩) (fun q => by omega))
        have F2 : Fr H H2 AM := F1.tr (g3.up (fun q hq => by unfold AM; omega))
        cases hE' : encP T xs 7 k 0 with
        | none =>
          have g1' : jF_Mo_span fu (some 24) (nI k) 0 (nI xs.length) H1 = some (-1, H2) := by rw [hE'] at g1; exact g1
          rw [g1', Option.bind_some]
          dsimp only
          rw [hz m2, Option.bind_some, if_neg (fun q => nI_m1 (by omega) q.symm)]
          exact ⟨H2, rfl, ⟨v, r2⟩, F2⟩
        | some r =>
          have hb := encP_bd 7 k 0 r.1 r.2 (Nat.zero_le _) hE'
          have g1' : jF_Mo_span fu (some 24) (nI k) 0 (nI xs.length) H1 = some (nI r.1, H2) := by
            rw [hE'] at g1
            have h9 : nI r.1 - nI 0 = nI r.1 := by rw [pk_sub (Nat.zero_le _), Nat.sub_zero]
            rw [← h9]; exact g1
          rw [g1', Option.bind_some]
          dsimp only
          rw [hz m2, Option.bind_some, if_eqN (by omega) (by omega)]
          by_cases hr : r.1 = xs.length
          · rw [if_pos hr, if_pos hr, m2.set (by omega), Option.bind_some]
            have m3 := m2.new (w := va_up v 28 0)
            generalize hH3 : zset H2 24 (.inr (1, MoF (va_up v 28 0))) = H3 at m3
            have F3 : Fr H2 H3 (fun q => q = 24) := by rw [← hH3]; exact Fr.set rfl
            have r3 := r2.scr F3 (fun q hq => by omega) m3 (vE.up (by omega)) (r2.2.2.2.2.2.2.any F3 (fun q => by omega) (fun q => by omega) (fun q => by omega) (fun q => by omega) (fun q => by omega))
            have e3' := (e3.fr g3 (by omega)).fr F3 (by omega)
            obtain ⟨f41, a41⟩ := r3.2.2.2.2.2.2.1
            obtain ⟨f44, a44⟩ := r3.2.2.2.2.2.2.2.2.2.1
            obtain ⟨H4, k1, k2, k3, k4⟩ := Mo_enc (fu := fu) hT hp hxs (by omega) hk hE' r3.1 ⟨m3, rfl, f41, a41, fun i hi => by simp at hi⟩ e3' ⟨f44, a44, True.intro⟩
            rw [k1, Option.bind_some]
            rw [zup_idem] at k2
            have r4 := r3.scr k4 (fun q hq => by unfold A3e at hq; omega) k2.1 (by
              intro i i1 i2 i3 i4
              rw [zup_ne i1, zup_ne i1]) (r3.2.2.2.2.2.2.any k4 (fun _ => by obtain ⟨-, -, f, a, -⟩ := k2; exact ⟨f, a⟩) (fun q => by unfold A3e at q; omega) (fun q => by unfold A3e at q; omega) (fun _ => by obtain ⟨f, a, -⟩ := k3; exact ⟨f, a⟩) (fun q => by unfold A3e at q; omega))
            have F4 : Fr H H4 AM := (F2.tr (F3.up (fun q hq => by unfold AM; omega))).tr (k4.up (fun q hq => by unfold A3e at hq; unfold AM; omega))
            have hz22 : zgI H4 (some 24) 1 22 = some (nI sc) := by rw [← q1]; exact qgI r4.m rfl
            have hz24 : zgI H4 (some 24) 1 24 = some (nI sb.length) := by rw [← q3]; exact qgI r4.m rfl
            have hz28 : zgI H4 (some 24) 1 28 = some (nI r.2.length) := qgI r4.m rfl
            rw [hz22, Option.bind_some, li10, if_eqN (by omega) (by omega)]
            by_cases h10 : sc = 10
            · rw [if_pos h10, if_pos (Or.inl h10)]
              exact ⟨H4, rfl, ⟨_, r4⟩, F4⟩
            · rw [if_neg h10, hz24, Option.bind_some, hz28, Option.bind_some, nI_add, li150, if_leN (by omega) (by omega)]
              by_cases h150 : sb.length + r.2.length ≤ 150
              · rw [if_pos h150, if_neg (by omega)]
                obtain ⟨H5, l1, l2, l3⟩ := Mo_stageC (fu := fu) (k := k) h150 (by omega) r.2.length 0 fu H4 (by omega) (by omega) r4 k2 (by
                  obtain ⟨-, -, -, f, a, b⟩ := r4.2.2.2.2.1
                  dsimp only at b
                  refine ⟨f, a, fun j hj => ?_⟩
                  rw [b j (by omega)]
                  simp [List.getD, List.getElem?_append_left (show j < sb.length by omega)])
                exact ⟨H5, l1, l2, F4.tr l3⟩
              · rw [if_neg h150, if_pos (Or.inr h150)]
                exact ⟨H4, rfl, ⟨_, r4⟩, F4⟩
          · rw [if_neg hr, if_neg hr]
            exact ⟨H2, rfl, ⟨v, r2⟩, F2⟩
      dsimp only
      rw [hz2, Option.bind_some, li0, if_leN (by omega) (by omega)]
      by_cases h0 : 0 < sc
      · have hz1 : zgI H (some 24) 1 21 = some (nI ss) := by rw [← q2 h0]; exact qgI h.m rfl
        rw [if_neg (by omega), hz1, Option.bind_some, if_eqN (by have := hss h0; omega) (by omega)]
        by_cases hs : ss = k
        · rw [if_pos hs, if_neg (fun q => q.2 hs)]
          exact main (fun q => q.2 hs)
        · rw [if_neg hs, if_pos ⟨h0, hs⟩]
          exact ⟨H, rfl, ⟨v, h⟩, Fr.rf⟩
      · rw [if_pos (by omega), if_neg (fun q => h0 q.1)]
        exact main (fun q => h0 q.1)
end MStg2
