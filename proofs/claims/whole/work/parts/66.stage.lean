/-! give, drop, stage: both sides. -/
def stageS (s : Int32) (W : yW) : Int32 × yW := if W.2.2.1.1 then (match scOf W.1 s with
    | none => (-1, W)
    | some k => if 0 < W.2.2.2.2.1.2.1 ∧ W.2.2.2.2.1.1 ≠ k then (-1, W) else match encP W.1 W.2.2.2.1 7 k 0 with
      | none => (-1, W)
      | some r => if r.1 = W.2.2.2.1.length then (if W.2.2.2.2.1.2.1 = 10 ∨ ¬ W.2.2.2.2.1.2.2.length + r.2.length ≤ 150 then (-3, W) else (nI r.2.length, W.1, W.2.1, W.2.2.1, [], (k, W.2.2.2.2.1.2.1 + 1, W.2.2.2.2.1.2.2 ++ r.2), W.2.2.2.2.2)) else (-1, W))
  else (-4, W)
section CStg
variable {H : zH} {T : yT} {P : List yF} {D : yD} {xs fo : List Int64} {ss sc : Nat} {sb : List Nat} {R : Nat → Nat} {fu : Nat}
theorem C_other (h : StagAt H ss sc) {k : Nat} (h1 : sc ≤ 10) (h2 : 0 < sc → ss < 2 ^ 31) (hk : k < 2 ^ 31) : jF_Staging_hasOtherThan (some 15) (nI k) H = some (bI (decide (0 < sc ∧ ss ≠ k))) := by
  obtain ⟨sv, e1, e2⟩ := h
  unfold jF_Staging_hasOtherThan
  rw [qok e1, Option.bind_some, qgI e1 rfl, Option.bind_some, li0, if_leN (by omega) (by omega)]
  by_cases h0 : 0 < sc
  · rw [if_neg (by omega), qgI e1 rfl, Option.bind_some, e2 h0, if_eqN (h2 h0) hk]
    by_cases hs : ss = k
    · rw [if_pos hs, decide_eq_false (fun q => q.2 hs)]; rfl
    · rw [if_neg hs, decide_eq_true ⟨h0, hs⟩]; rfl
  · rw [if_pos (by omega), decide_eq_false (fun q => h0 q.1)]; rfl
theorem C_stage (h : CRep H (T, P, D, xs, (ss, sc, sb), fo) R) (hT : TOk T) (hE : TEn T) (hxs : xs.length ≤ 24) (hsc : sc ≤ 10) (hsb : sb.length ≤ 150) (hss : 0 < sc → ss < T.length) (hfu : 10 ≤ fu) {s : Int32} :
    ∃ H', jF_ST_stage fu (some 1) s H = some ((stageS s (T, P, D, xs, (ss, sc, sb), fo)).1, H') ∧ CRep H' (stageS s (T, P, D, xs, (ss, sc, sb), fo)).2 R ∧ Fr H H' AC := by
  have h' := h
  obtain ⟨h1, h2, h3, -, -, -, h15, h16, h18, -, h22⟩ := h
  have h24 := hT.1
  unfold jF_ST_stage stageS
  rw [qok h1.1, Option.bind_some, qgR h1.1 rfl, Option.bind_some, C_up h2, Option.bind_some, if_bI]
  dsimp only at *
  cases D.1 with
  | false => exact ⟨H, rfl, h', Fr.rf⟩
  | true =>
    rw [if_pos rfl, if_pos rfl, qgR h1.1 rfl, Option.bind_some, C_find h3 hT.1, Option.bind_some]
    cases hsc' : scOf T s with
    | none => exact ⟨H, rfl, h', Fr.rf⟩
    | some k =>
      obtain ⟨hk, rfl⟩ := scOf_some hsc'
      dsimp only [Option.map_some]
      rw [if_neg (by simp), qgR h1.1 rfl, Option.bind_some, C_other h15 hsc (fun q => by have := hss q; omega) (by omega), Option.bind_some, if_bI]
      by_cases ho : 0 < sc ∧ ss ≠ k
      · rw [decide_eq_true ho, if_pos rfl, if_pos ho]
        exact ⟨H, rfl, h', Fr.rf⟩
      · rw [decide_eq_false ho, if_neg Bool.false_ne_true, if_neg ho, Option.bind_some, qgR h1.1 rfl, Option.bind_some]
        obtain ⟨sv, g1, g2⟩ := h15
        unfold jF_Staging_add
        rw [qok g1, Option.bind_some, qgR g1 rfl, Option.bind_some, h16.size, Option.bind_some, Option.bind_some]
        obtain ⟨H1, F1, k1, k2⟩ := C_enc (fu := fu) (R := R) (xs := xs) hT hE hxs hfu 7 k 0 H sb ⟨hk, by have := (hT.2 k hk).2.2.1; omega⟩ (Nat.zero_le _) ⟨h3.tab, h18, h16⟩ (by omega)
        dsimp only at k1 k2
        have g1' := F1.2 _ _ g1 (by unfold A2; omega)
        have h18' := h18.fr F1 (by unfold A2; omega) (by unfold A2; omega)
        have F1' : Fr H H1 (fun q => q = 15 ∨ q = 16 ∨ q = 17) := F1.up (fun q hq => by unfold A2 at hq; omega)
        have cut : ∀ (j : List Nat) (a : Int32), a < 0 → BL H1 16 390 (sb ++ j) → ∃ H', (((jF_Bytes_cutTo (some 16) (nI sb.length) H1).bind fun y32 => some (a, y32)).bind fun y49 => if y49.1 < 0 then some (y49.1, y49.2) else (zgR y49.2 (some 1) 0 5).bind fun v58 => (jF_Row_clear v58 y49.2).bind fun y61 => some (y49.1, y61)) = some (a, H') ∧ CRep H' (T, P, D, xs, (ss, sc, sb), fo) R ∧ Fr H H' AC := by
          intro j a ha hB
          obtain ⟨H2, f1, f2, f3⟩ := hB.cut (n := sb.length) (by rw [List.length_append]; omega)
          rw [f1, Option.bind_some, Option.bind_some, if_pos ha]
          have F2 : Fr H H2 (fun q => q = 15 ∨ q = 16 ∨ q = 17) := F1'.tr (f3.up (fun q hq => by omega))
          rw [List.take_left] at f2
          exact ⟨H2, rfl, h'.stag (g' := (ss, sc, sb)) F2 ⟨sv, f3.2 _ _ g1' (by omega), g2⟩ f2, F2.up (fun q hq => by unfold AC; omega)⟩
        cases hE' : encP T xs 7 k 0 with
        | none =>
          obtain ⟨r1, j, r2⟩ := k2 hE'
          have r1' : jF_Coder_encode fu 7 (some (R k)) (some 18) 0 (some 16) H = _ := r1
          rw [r1', Option.bind_some]
          dsimp only
          rw [h18'.size, Option.bind_some, if_neg (fun q => nI_m1 (by omega) q.symm), qgR g1' rfl, Option.bind_some]
          exact cut j (-1) (by decide) r2
        | some r =>
          obtain ⟨r1, r2⟩ := k1 r hE'
          have hb := encP_bd 7 k 0 r.1 r.2 (Nat.zero_le _) hE'
          have r1' : jF_Coder_encode fu 7 (some (R k)) (some 18) 0 (some 16) H = _ := r1
          rw [r1', Option.bind_some]
          dsimp only
          rw [h18'.size, Option.bind_some, if_eqN (by omega) (by omega)]
          by_cases hr : r.1 = xs.length
          · rw [if_pos hr, if_pos hr, qgI g1' rfl, Option.bind_some, li10, if_eqN (by omega) (by omega)]
            unfold jJ_Staging_add_59
            by_cases h10 : sc = 10
            · rw [if_pos h10, if_pos (Or.inl h10), qgR g1' rfl, Option.bind_some]
              exact cut r.2 (-3) (by decide) r2
            · rw [if_neg h10, qgR g1' rfl, Option.bind_some, r2.size, Option.bind_some, li150, if_leN (by rw [List.length_append]; omega) (by omega), List.length_append]
              by_cases h150 : sb.length + r.2.length ≤ 150
              · rw [if_pos h150, if_neg (by omega), qpV g1' (by simp), Option.bind_some]
                have g3 : zgo (zset H1 15 (.inr (10, [zR (some 16), zI (nI k), zI (nI sc)]))) (some 15) = some (.inr (10, [zR (some 16), zI (nI k), zI (nI sc)])) := zgo_set_same g1'
                rw [show (([zR (some 16), zI sv, zI (nI sc)] : List zV).set 1 (zI (nI k))) = [zR (some 16), zI (nI k), zI (nI sc)] from rfl, qgI g3 rfl, Option.bind_some, qpV g3 (by simp), Option.bind_some]
                have g4 : zgo (zset (zset H1 15 (.inr (10, [zR (some 16), zI (nI k), zI (nI sc)]))) 15 (.inr (10, [zR (some 16), zI (nI k), zI (nI sc + 1)]))) (some 15) = some (.inr (10, [zR (some 16), zI (nI k), zI (nI sc + 1)])) := zgo_set_same g3
                rw [show (([zR (some 16), zI (nI k), zI (nI sc)] : List zV).set 2 (zI (nI sc + 1))) = [zR (some 16), zI (nI k), zI (nI sc + 1)] from rfl, qgR g4 rfl, Option.bind_some]
                generalize hH2 : zset (zset H1 15 (.inr (10, [zR (some 16), zI (nI k), zI (nI sc)]))) 15 (.inr (10, [zR (some 16), zI (nI k), zI (nI sc + 1)])) = H2 at g4
                have F2 : Fr H1 H2 (fun q => q = 15) := by rw [← hH2]; exact (Fr.set (A := fun q => q = 15) rfl).tr (Fr.set (A := fun q => q = 15) rfl)
                have r2' := r2.fr F2 (by omega) (by omega)
                rw [r2'.size, Option.bind_some, Option.bind_some, List.length_append, pk_sub (by omega), Nat.add_sub_cancel_left]
                dsimp only
                rw [if_neg (nI_pos (by omega))]
                have FF : Fr H H2 (fun q => q = 15 ∨ q = 16 ∨ q = 17) := F1'.tr (F2.up (fun q hq => Or.inl hq))
                have c2 := h'.stag (g' := (k, sc + 1, sb ++ r.2)) FF ⟨nI k, by rw [g4, nI_1], fun _ => rfl⟩ r2'
                have hF2 := c2.1
                obtain ⟨-, -, -, -, -, -, -, -, k18, -⟩ := id c2
                obtain ⟨H3, l1, l2, l3⟩ := k18.clear
                rw [qgR hF2.1 rfl, Option.bind_some, l1, Option.bind_some]
                exact ⟨H3, rfl, c2.row l3 l2, (FF.up (fun q hq => by unfold AC; omega)).tr (l3.up (fun q hq => by unfold AC; omega))⟩
              · rw [if_neg h150, if_pos (Or.inr h150), Option.bind_some]
                exact cut r.2 (-3) (by decide) r2
          · rw [if_neg hr, if_neg hr, qgR g1' rfl, Option.bind_some]
            exact cut r.2 (-1) (by decide) r2
end CStg
section MStg
variable {H H' : zH} {v v' : Nat → Int32} {T : yT} {P : List yF} {D D' : yD} {xs xs' fo fo' : List Int64} {ss sc : Nat} {sb : List Nat} {g g' : Nat × Nat × List Nat} {fu : Nat}
theorem MRv.mk2 {A : Nat → Prop} (h : MRv H v (T, P, D, xs, g, fo)) (hF : Fr H H' A) (hA : ∀ q, A q → q = 24 ∨ 37 ≤ q) (hM : MoAt H' v') (h0 : v' 0 = v 0) (h13 : v' 13 = v 13) (hD : MDisk H' v' D') (hR : MRow H' v' xs') (hG : MSg H' v' g') (hO : MFo H' v' fo') (hX : MX H') : MRv H' v' (T, P, D', xs', g', fo') :=
  ⟨h.1.upd hF (fun q hq => by have := hA q hq; omega) hM h0 h13, h.2.1.fr hF (fun q => by have := hA _ q; omega) (fun q => by have := hA _ q; omega), hD, hR, hG, hO, hX⟩
theorem MRv.m {W : yW} (h : MRv H v W) : MoAt H v := h.1.1
theorem M_up {W : yW} (h : MRv H v W) : zgI H (some 24) 1 16 = some (bI (!W.2.2.1.1)) := by
  rw [← h.2.2.1.2.2.2.1]; exact qgI h.m rfl
theorem if_nbI {α : Sort _} {b : Bool} {x y : α} : (if bI (!b) = 0 then x else y) = (if b then x else y) := by cases b <;> rfl
theorem Mo_give (h : MRv H v (T, P, D, xs, g, fo)) (hl : xs.length ≤ 24) {x : Int64} : ∃ H', jF_Mo_give (some 24) x H = some ((giveS x (T, P, D, xs, g, fo)).1, H') ∧ MRep H' (giveS x (T, P, D, xs, g, fo)).2 ∧ Fr H H' AM := by
  obtain ⟨h1, h2, h3, ⟨m20, f, a, b⟩, h5, h6, h7⟩ := id h
  unfold jF_Mo_give giveS
  dsimp only at m20 b ⊢
  rw [qok h.m, Option.bind_some, M_up h, Option.bind_some, if_nbI]
  dsimp only
  cases D.1 with
  | false => exact ⟨H, rfl, ⟨v, h⟩, Fr.rf⟩
  | true =>
    have hz : zgI H (some 24) 1 20 = some (nI xs.length) := by rw [← m20]; exact qgI h.m rfl
    rw [if_pos rfl, if_pos rfl, hz, Option.bind_some, li24, if_eqN (by omega) (by omega)]
    by_cases h24 : xs.length = 24
    · rw [if_pos h24, if_pos h24]
      exact ⟨H, rfl, ⟨v, h⟩, Fr.rf⟩
    · rw [if_neg h24, if_neg h24, qgR h.m rfl, Option.bind_some, Option.bind_some, qsL a (by omega) (by omega), Option.bind_some]
      generalize hH1 : zset H 38 (.inl (2, 24, .inr (.inl (va_up f xs.length x)))) = H1
      have F1 : Fr H H1 AM := by rw [← hH1]; exact Fr.set ⟨by omega, by omega⟩
      have F1' : Fr H H1 (fun q => q = 38) := by rw [← hH1]; exact Fr.set rfl
      have m1 : MoAt H1 v := h.m.fr F1' (by omega)
      have a1 : AJ H1 38 24 (va_up f xs.length x) := by rw [← hH1]; exact zgo_set_same a
      have hz1 : zgI H1 (some 24) 1 20 = some (nI xs.length) := by rw [← m20]; exact qgI m1 rfl
      rw [hz1, Option.bind_some, nI_1, m1.set (by omega), Option.bind_some]
      have m2 := m1.new (w := va_up v 20 (nI (xs.length + 1)))
      generalize hH2 : zset H1 24 (.inr (1, MoF (va_up v 20 (nI (xs.length + 1))))) = H2 at m2
      have F2 : Fr H1 H2 (fun q => q = 24) := by rw [← hH2]; exact Fr.set rfl
      have hz2 : zgI H2 (some 24) 1 20 = some (nI (xs.length + 1)) := qgI m2 rfl
      rw [hz2, Option.bind_some]
      have FF : Fr H H2 (fun q => q = 24 ∨ q = 38) := (F1'.up (fun q hq => Or.inr hq)).tr (F2.up (fun q hq => Or.inl hq))
      refine ⟨H2, rfl, ⟨_, h.mk2 FF (fun q hq => by omega) m2 rfl rfl (h3.fr FF (by omega) m2 rfl rfl rfl rfl) ⟨?_, va_up f xs.length x, a1.fr F2 (by omega), ?_⟩ (h5.fr FF (by omega) rfl rfl rfl) (h6.fr FF (by omega) rfl) ?_⟩, FF.up (fun q hq => by unfold AM; omega)⟩
      · rw [zup_same, List.length_append]; rfl
      · intro i hi
        rw [List.length_append, List.length_singleton] at hi
        rw [getD_snoc _ _ _ _ hi]
        unfold va_up
        split
        · rfl
        · exact b i (by omega)
      · exact h7.fr FF (fun q hq => by omega)
theorem Mo_drop (h : MRv H v (T, P, D, xs, g, fo)) : ∃ H', jF_Mo_drop (some 24) H = some ((dropS (T, P, D, xs, g, fo)).1, H') ∧ MRep H' (dropS (T, P, D, xs, g, fo)).2 ∧ Fr H H' AM := by
  obtain ⟨h1, h2, h3, ⟨m20, f, a, b⟩, ⟨q1, q2, q3, f5, q4, q5⟩, h6, h7⟩ := id h
  unfold jF_Mo_drop dropS
  rw [qok h.m, Option.bind_some, M_up h, Option.bind_some, if_nbI]
  dsimp only
  cases D.1 with
  | false => exact ⟨H, rfl, ⟨v, h⟩, Fr.rf⟩
  | true =>
    rw [if_pos rfl, if_pos rfl, h.m.set (by omega), Option.bind_some, (h.m.new).set (by omega), Option.bind_some, (h.m.new.new).set (by omega), Option.bind_some]
    have m3 := h.m.new (w := va_up v 20 0) |>.new (w := va_up (va_up v 20 0) 22 0) |>.new (w := va_up (va_up (va_up v 20 0) 22 0) 24 0)
    generalize hH2 : zset (zset (zset H 24 (.inr (1, MoF (va_up v 20 0)))) 24 (.inr (1, MoF (va_up (va_up v 20 0) 22 0)))) 24 (.inr (1, MoF (va_up (va_up (va_up v 20 0) 22 0) 24 0))) = H2 at m3
    have F2 : Fr H H2 (fun q => q = 24) := by rw [← hH2]; exact ((Fr.set (A := fun q => q = 24) rfl).tr (Fr.set (A := fun q => q = 24) rfl)).tr (Fr.set (A := fun q => q = 24) rfl)
    exact ⟨H2, rfl, ⟨_, h.mk2 F2 (fun q hq => by omega) m3 rfl rfl (h3.fr F2 (by omega) m3 rfl rfl rfl rfl) ⟨rfl, f, a.fr F2 (by omega), fun i hi => by simp at hi⟩ ⟨rfl, fun q => by dsimp only at q; omega, rfl, f5, q4.fr F2 (by omega), fun i hi => by simp at hi⟩ (h6.fr F2 (by omega) rfl) (h7.fr F2 (fun q hq => by omega))⟩, F2.up (fun q hq => by unfold AM; omega)⟩
end MStg
