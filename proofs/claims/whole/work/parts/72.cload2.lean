/-! load and compact of the class. -/
section CL2
variable {H : zH} {T : yT} {P : List yF} {D : yD} {xs fo : List Int64} {ss sc : Nat} {sb : List Nat} {g : Nat × Nat × List Nat} {R : Nat → Nat} {fu : Nat}
theorem C_goDown (h : CRep H (T, P, D, xs, g, fo) R) {k : Nat} : ∃ H', jF_ST_goDown (some 1) H = some (-4, H') ∧ CRep H' (T, P, D, [], (k, 0, []), []) R ∧ Fr H H' AC := by
  obtain ⟨h1, h2, h3, -, -, -, h15, h16, h18, -, h22⟩ := id h
  unfold jF_ST_goDown
  rw [qok h1.1, Option.bind_some, qgR h1.1 rfl, Option.bind_some]
  obtain ⟨H1, e1, e2, e3⟩ := h18.clear
  have r1 := h.row e3 e2
  obtain ⟨k1, -, -, -, -, -, k15, k16, -, -, -⟩ := id r1
  rw [e1, Option.bind_some, qgR k1.1 rfl, Option.bind_some]
  obtain ⟨H2, f1, f2, f3, f4⟩ := C_stclear (k := k) k15 k16
  have r2 := r1.stag (g' := (k, 0, [])) f4 f2 f3
  obtain ⟨l1, -, -, -, -, -, -, -, -, -, l22⟩ := id r2
  rw [f1, Option.bind_some, qgR l1.1 rfl, Option.bind_some]
  obtain ⟨H3, g1, g2, g3⟩ := l22.clear
  rw [g1, Option.bind_some]
  exact ⟨H3, rfl, r2.foun g3 g2, ((e3.up (fun q hq => by unfold AC; omega)).tr (f4.up (fun q hq => by unfold AC; omega))).tr (g3.up (fun q hq => by unfold AC; omega))⟩
theorem C_load {u : Int32} (h : CRep H (T, P, D, xs, (ss, sc, sb), fo) R) (hd : dkOk D.2.2.2) (hm : mOk D.2.2.2) (hz : mZero D.2.2.2) (hl : limOk D) (hsc : sc ≤ 10) (hsb : sb.length ≤ 150) (hss : 0 < sc → ss < 24) (hy : byOk sb) (hok : ∀ k b, suOf u = some k → roomS D.2.2.2 (nBl (fileB ss sc sb)) = some b → (commS D b (fileB ss sc sb) (manB D.2.2.2 k b (nBl (fileB ss sc sb)))).1 = true → 0 < sc → D.2.2.2 0 < 9 → dkOk (commS D b (fileB ss sc sb) (manB D.2.2.2 k b (nBl (fileB ss sc sb)))).2.2.2.2 ∧ mOk (commS D b (fileB ss sc sb) (manB D.2.2.2 k b (nBl (fileB ss sc sb)))).2.2.2.2) (hfu : 300 ≤ fu) :
    ∃ H', jF_ST_load fu (some 1) u H = some ((loadS u (T, P, D, xs, (ss, sc, sb), fo)).1, H') ∧ CRep H' (loadS u (T, P, D, xs, (ss, sc, sb), fo)).2 R ∧ Fr H H' AC := by
  have hm1 := hm.1
  obtain ⟨h1, h2, h3, h8, h11, h13, h15, h16, h18, -, h22⟩ := id h
  unfold jF_ST_load loadS
  rw [qok h1.1, Option.bind_some, qgR h1.1 rfl, Option.bind_some, C_up h2, Option.bind_some, if_bI]
  dsimp only at *
  cases D.1 with
  | false => exact ⟨H, rfl, h, Fr.rf⟩
  | true =>
    rw [if_pos rfl, if_pos rfl, C_isSub, Option.bind_some, if_bI]
    cases hsu : suOf u with
    | none => exact ⟨H, rfl, h, Fr.rf⟩
    | some k =>
      obtain ⟨hk, rfl⟩ := suOf_some hsu
      obtain ⟨sv, s1, s2⟩ := id h15
      rw [show (some k).isSome = true from rfl, if_pos rfl, qgR h1.1 rfl, Option.bind_some, qgI s1 rfl, Option.bind_some, if_0N (by omega)]
      dsimp only
      by_cases h0 : sc = 0
      · rw [if_pos h0, if_pos (Or.inl h0)]
        exact ⟨H, rfl, h, Fr.rf⟩
      · have hss' := hss (by omega)
        rw [if_neg h0, qgR h1.1 rfl, Option.bind_some, Option.bind_some, qgI s1 rfl, Option.bind_some, s2 (by omega), Reg_has h1 h2 hd (by omega) (by omega) (by omega), Option.bind_some, if_bI]
        cases hr : rHas D.2.2.2 k ss (D.2.2.2 32) with
        | false =>
          rw [if_neg Bool.false_ne_true, if_pos (Or.inr rfl)]
          exact ⟨H, rfl, h, Fr.rf⟩
        | true =>
          rw [if_pos rfl, if_neg (by rintro (q | q); exact h0 q; cases q), qgR h1.1 rfl, Option.bind_some]
          unfold jF_Manifest_isFull
          rw [qok h1.2.2, Option.bind_some, Man_entries h1 h2, Option.bind_some, li9, if_ltN (by omega) (by omega)]
          by_cases h9 : 9 ≤ D.2.2.2 0
          · rw [if_neg (by omega), if_pos h9]
            exact ⟨H, rfl, h, Fr.rf⟩
          · rw [if_pos (by omega), if_neg h9, Option.bind_some, if_pos rfl, Option.bind_some, Option.bind_some]
            obtain ⟨H1, e1, e2, e3⟩ := C_staged (fu := fu) h1 h15 (by omega) (by omega) (by omega) h16 hsb hy h11 (by omega)
            rw [e1, Option.bind_some]
            have E3 : Fr H H1 (fun q => q = 2 ∨ q = 3 ∨ q = 8 ∨ q = 9 ∨ q = 11 ∨ q = 12 ∨ q = 13 ∨ q = 14) := e3.up (fun q hq => by omega)
            have F1 := h1.fr e3 (by omega) (by omega) (by omega)
            have D1 := h2.fr e3 (by omega) (by omega)
            obtain ⟨b8, B8⟩ := h8
            obtain ⟨b13, B13⟩ := h13
            have r1 := h.disk E3 D1 ⟨b8, B8.fr e3 (by omega) (by omega)⟩ ⟨_, e2⟩ ⟨b13, B13.fr e3 (by omega) (by omega)⟩
            have hfl := fileB_len ss sc sb
            rw [qgR F1.1 rfl, Option.bind_some, Man_place F1 D1 hd hm (by omega) e2 (by omega), Option.bind_some]
            have hnb : (((fileB ss sc sb).length + 31) / 32) = nBl (fileB ss sc sb) := rfl
            rw [hnb]
            cases hrm : roomS D.2.2.2 (nBl (fileB ss sc sb)) with
            | none =>
              rw [if_pos (show limI none = -1 from rfl)]
              exact ⟨H1, rfl, r1, E3.up (fun q hq => by unfold AC; omega)⟩
            | some b =>
              obtain ⟨q1, q2, q3⟩ := room_fit (by unfold nBl; omega) hrm
              dsimp only
              rw [show limI (some b) = nI b from rfl, if_neg (nI_m1 (by omega)), Option.bind_some]
              obtain ⟨H2, f1, f2, f3, f4, f5⟩ := C_new (fu := fu) (u := k) hd hm hz (by omega) hl q2 (by omega) F1 D1 e2 ⟨b13, B13.fr e3 (by omega) (by omega)⟩
              rw [f1, Option.bind_some]
              dsimp only
              have r2 := r1.disk (f5.up (fun q hq => by omega)) f2 ⟨b8, (B8.fr e3 (by omega) (by omega)).fr f5 (by omega) (by omega)⟩ ⟨_, f3⟩ f4
              have E5 : Fr H H2 AC := (e3.up (fun q hq => by unfold AC; omega)).tr (f5.up (fun q hq => by unfold AC; omega))
              rw [if_bI]
              have hok' := hok k b hsu hrm
              cases hc : (commS D b (fileB ss sc sb) (manB D.2.2.2 k b (nBl (fileB ss sc sb)))).1 with
              | false =>
                rw [if_neg Bool.false_ne_true, if_neg Bool.false_ne_true]
                obtain ⟨H3, g1, g2, g3⟩ := C_goDown (k := ss) r2
                rw [g1, Option.bind_some]
                exact ⟨H3, rfl, g2, E5.tr g3⟩
              | true =>
                obtain ⟨o1, o2⟩ := hok' hc (by omega) (by omega)
                rw [if_pos rfl, if_pos rfl]
                obtain ⟨k1, -, -, -, -, -, k15, k16, -, -, -⟩ := id r2
                rw [qgR k1.1 rfl, Option.bind_some]
                obtain ⟨H3, g1, g2, g3, g4⟩ := C_stclear (k := ss) k15 k16
                have r3 := r2.stag (g' := (ss, 0, [])) g4 g2 g3
                obtain ⟨l1, l2, -⟩ := id r3
                rw [g1, Option.bind_some, qgR l1.1 rfl, Option.bind_some, Man_records l1 l2 o1 o2 (by omega) (by omega), Option.bind_some]
                exact ⟨H3, rfl, r3, E5.tr (g4.up (fun q hq => by unfold AC; omega))⟩
theorem C_compact (h : CRep H (T, P, D, xs, g, fo) R) (hd : dkOk D.2.2.2) (hm : mOk D.2.2.2) (hz : mZero D.2.2.2) (hl : limOk D) (hfb : ∀ i, i < D.2.2.2 0 → fAt D.2.2.2 i + 5 + fByt D.2.2.2 i ≤ 1280) (hfu : 300 ≤ fu) {u : Int32} :
    ∃ H', jF_ST_compact fu (some 1) u H = some ((compS u (T, P, D, xs, g, fo)).1, H') ∧ CRep H' (compS u (T, P, D, xs, g, fo)).2 R ∧ Fr H H' AC := by
  have hm1 := hm.1
  obtain ⟨h1, h2, h3, h8, h11, h13, h15, h16, h18, -, h22⟩ := id h
  unfold jF_ST_compact compS
  rw [qok h1.1, Option.bind_some, qgR h1.1 rfl, Option.bind_some, C_up h2, Option.bind_some, if_bI]
  dsimp only at *
  cases D.1 with
  | false => exact ⟨H, rfl, h, Fr.rf⟩
  | true =>
    rw [if_pos rfl, if_pos rfl, C_isSub, Option.bind_some, if_bI]
    cases hsu : suOf u with
    | none => exact ⟨H, rfl, h, Fr.rf⟩
    | some k =>
      obtain ⟨hk, rfl⟩ := suOf_some hsu
      rw [show (some k).isSome = true from rfl, if_pos rfl, qgR h1.1 rfl, Option.bind_some, Man_join h1 h2 hd hm (by omega) (by omega), Option.bind_some]
      dsimp only
      cases hj : mJoin D.2.2.2 k (D.2.2.2 0) 0 with
      | none => exact ⟨H, rfl, h, Fr.rf⟩
      | some fg =>
        obtain ⟨f, gg⟩ := fg
        obtain ⟨j1, j2, j3, j4, j5, j6, j7⟩ := mJoin_lt _ _ _ _ hj
        rw [Nat.zero_add] at j3 j7
        have hc := of_decide_eq_true j6
        rw [show limI (Option.map Prod.fst (some (f, gg))) = nI f from rfl]
        dsimp only
        rw [if_neg (nI_m1 (by omega)), Option.bind_some, nI_1, Man_next h1 h2 hd hm (by omega) (by omega) (by omega), Option.bind_some, j7, show limI (some gg) = nI gg from rfl, Option.bind_some]
        obtain ⟨H1, e1, e2, e3⟩ := C_joinB (fu := fu) h1 h2 hd hm (show f < D.2.2.2 0 by omega) j3 (hfb f (by omega)) (hfb gg j3) hc.2.1 hc.2.2 h11 (by omega)
        rw [e1, Option.bind_some]
        have E3 : Fr H H1 (fun q => q = 2 ∨ q = 3 ∨ q = 8 ∨ q = 9 ∨ q = 11 ∨ q = 12 ∨ q = 13 ∨ q = 14) := e3.up (fun q hq => by omega)
        have F1 := h1.fr e3 (by omega) (by omega) (by omega)
        have D1 := h2.fr e3 (by omega) (by omega)
        obtain ⟨b8, B8⟩ := h8
        obtain ⟨b13, B13⟩ := h13
        have r1 := h.disk E3 D1 ⟨b8, B8.fr e3 (by omega) (by omega)⟩ ⟨_, e2⟩ ⟨b13, B13.fr e3 (by omega) (by omega)⟩
        have hfl : 1 ≤ (joinB D.2.2.2 f gg).length := by unfold joinB; rw [fileB_len]; omega
        rw [qgR F1.1 rfl, Option.bind_some, Man_place F1 D1 hd hm (by omega) e2 hfl, Option.bind_some]
        have hnb : (((joinB D.2.2.2 f gg).length + 31) / 32) = nBl (joinB D.2.2.2 f gg) := rfl
        rw [hnb]
        cases hrm : roomS D.2.2.2 (nBl (joinB D.2.2.2 f gg)) with
        | none =>
          rw [if_pos (show limI none = -1 from rfl)]
          exact ⟨H1, rfl, r1, E3.up (fun q hq => by unfold AC; omega)⟩
        | some b =>
          obtain ⟨q1, q2, q3⟩ := room_fit (by unfold nBl; omega) hrm
          dsimp only
          rw [show limI (some b) = nI b from rfl, if_neg (nI_m1 (by omega)), Option.bind_some]
          obtain ⟨H2, f1, f2, f3, f4, f5⟩ := C_joined (fu := fu) hd hm hz j2 j3 hl q2 (by omega) F1 D1 e2 ⟨b13, B13.fr e3 (by omega) (by omega)⟩
          rw [f1, Option.bind_some]
          dsimp only
          have r2 := r1.disk (f5.up (fun q hq => by omega)) f2 ⟨b8, (B8.fr e3 (by omega) (by omega)).fr f5 (by omega) (by omega)⟩ ⟨_, f3⟩ f4
          have E5 : Fr H H2 AC := (e3.up (fun q hq => by unfold AC; omega)).tr (f5.up (fun q hq => by unfold AC; omega))
          rw [if_bI]
          cases hc : (commS D b (joinB D.2.2.2 f gg) (manJ D.2.2.2 f gg b (nBl (joinB D.2.2.2 f gg)))).1 with
          | false =>
            rw [if_neg Bool.false_ne_true, if_neg Bool.false_ne_true]
            obtain ⟨H3, g1, g2, g3⟩ := C_goDown (k := g.1) r2
            rw [g1, Option.bind_some]
            exact ⟨H3, rfl, g2, E5.tr g3⟩
          | true =>
            rw [if_pos rfl, if_pos rfl]
            exact ⟨H2, rfl, r2, E5⟩
end CL2
