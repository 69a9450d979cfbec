/-! The reference resolves: one task, all tasks. -/
section MP2
variable {T : yT} {P : List yF} {D : yD} {xs xs0 : List Int64} {g0 : Nat × Nat × List Nat} {fu : Nat}
variable {H : zH} {v : Nat → Int32} {tk : List tkT} {o : List Int64}
theorem TSt.k (h : TSt H v T P D xs0 g0 xs tk o) (hT : TOk T) {s : Nat} (hs : s < T.length) : zaI H (some 25) 0 (nI s) = some (nI (kd T s)) := h.1.1.k hT.1 hs
theorem Mo_symOf (h : TSt H v T P D xs0 g0 xs tk o) (hT : TOk T) (hl : o.length < 1000000) {r y : Nat} (hr : r < T.length) (hy : y < 8) :
    ((hasSy (pA T r) (lN y) = true ∨ pB T r ≠ -1) → ∃ H' v', jF_Mo_symbolOf (some 24) (nI r) (nI y) H = some (1, H') ∧ TSt H' v' T P D xs0 g0 xs tk (o ++ [if hasSy (pA T r) (lN y) then lN y else (pB T r).toInt64]) ∧ Fr H H' A5r) ∧
    (hasSy (pA T r) (lN y) = false → pB T r = -1 → jF_Mo_symbolOf (some 24) (nI r) (nI y) H = some (0, H)) := by
  have za : zaI H (some 27) 0 (nI r) = some (pA T r) := h.1.1.a hT.1 hr
  have zb : zaI H (some 28) 0 (nI r) = some (pB T r) := h.1.1.b hT.1 hr
  unfold jF_Mo_symbolOf jJ_Mo_symbolOf_19 jJ_Mo_symbolOf_36 jJ_Mo_symbolOf_53
  rw [qok h.1.m, Option.bind_some, qgR h.1.m rfl, Option.bind_some, za, Option.bind_some, hasSy_lN hy]
  by_cases hb : (pA T r >>> (nI y &&& 31)) &&& 1 = 1
  · rw [if_pos hb, decide_eq_true hb]
    refine ⟨fun _ => ?_, fun q => by cases q⟩
    obtain ⟨H1, v1, e1, e2, e3⟩ := Mo_g1 (x := (nI y).toInt64) h hl
    rw [if_neg (show ¬ (1 : Int32) = 0 by decide), if_neg (show ¬ (1 : Int32) = 0 by decide), e1, Option.bind_some, if_pos rfl]
    rw [nI_l (by omega)] at e2
    exact ⟨H1, v1, rfl, e2, e3⟩
  · rw [if_neg hb, decide_eq_false hb]
    refine ⟨fun q => ?_, fun _ q => ?_⟩
    · have hm : pB T r ≠ -1 := by
        rcases q with q | q
        · cases q
        · exact q
      obtain ⟨H1, v1, e1, e2, e3⟩ := Mo_g1 (x := (pB T r).toInt64) h hl
      rw [if_pos rfl, qgR h.1.m rfl, Option.bind_some, zb, Option.bind_some, if_neg hm, if_pos rfl, Option.bind_some, zb, Option.bind_some, e1, Option.bind_some, if_neg Bool.false_ne_true]
      exact ⟨H1, v1, rfl, e2, e3⟩
    · rw [if_pos rfl, qgR h.1.m rfl, Option.bind_some, zb, Option.bind_some, if_pos q]
theorem Mo_dflt (h : TSt H v T P D xs0 g0 xs tk o) (hT : TOk T) (hp : TPos T) (hl : o.length + 2 < 1000000) {s i : Nat} (hs : s < T.length) (hi : i < (fl T s).length) :
    ∃ H' v', jF_Mo_defaults (some 24) (nI (3 * s + i)) H = some H' ∧ TSt H' v' T P D xs0 g0 xs tk (o ++ dfS T 7 ((fl T s).getD i yF0).2.1 ((fl T s).getD i yF0).2.2.2) ∧ (dfS T 7 ((fl T s).getD i yF0).2.1 ((fl T s).getD i yF0).2.2.2).length ≤ 2 ∧ Fr H H' A5r := by
  obtain ⟨t1, t2, t3, t4, t5, t6, t7, t8⟩ := hT.2 s hs
  have t8' := t8 i hi
  have h24 := hT.1
  generalize hq : ((fl T s).getD i yF0).2.1 = q at t8'
  have hql : q < T.length := by omega
  obtain ⟨u1, u2, u3, u4, u5, u6, u7, u8⟩ := hT.2 q hql
  -- the number, unless the schema is NULL
  have tail : ∀ (K : zH) (u : Nat → Int32) (o' : List Int64) (z : Nat), TSt K u T P D xs0 g0 xs tk o' → o'.length < 1000000 → z < T.length → ∃ H' v', jJ_Mo_defaults_30 (some 24) (nI (3 * s + i)) (nI z) K = some H' ∧ TSt H' v' T P D xs0 g0 xs tk (o' ++ (if kd T z = 0 then [] else [((fl T s).getD i yF0).2.2.2])) ∧ Fr K H' A5r := by
    intro K u o' z hK ho' hz
    have hkz := (hT.2 z hz).1
    have zv : zaL K (some 34) 2 (nI (3 * s + i)) = some ((fl T s).getD i yF0).2.2.2 := hK.1.1.fv h24 hs hi t4
    unfold jJ_Mo_defaults_30
    rw [qgR hK.1.m rfl, Option.bind_some, hK.k hT hz, Option.bind_some, if_0N (by omega)]
    by_cases h0 : kd T z = 0
    · rw [if_pos h0, if_pos h0, List.append_nil]
      exact ⟨K, u, rfl, hK, Fr.rf⟩
    · obtain ⟨H1, v1, e1, e2, e3⟩ := Mo_g1 (x := ((fl T s).getD i yF0).2.2.2) hK ho'
      rw [if_neg h0, if_neg h0, qgR hK.1.m rfl, Option.bind_some, zv, Option.bind_some, e1, Option.bind_some]
      exact ⟨H1, v1, rfl, e2, e3⟩
  have zs : zaI H (some 32) 0 (nI (3 * s + i)) = some (nI q) := by rw [← hq]; exact h.1.1.fs h24 hs hi t4
  unfold jF_Mo_defaults
  rw [qok h.1.m, Option.bind_some, qgR h.1.m rfl, Option.bind_some, zs, Option.bind_some, qgR h.1.m rfl, Option.bind_some, h.k hT hql, Option.bind_some, li6, if_eqN (by omega) (by omega), dfS]
  by_cases h6 : kd T q = 6
  · have u7' := u7 h6
    have hps := (hp q hql).2 h6
    obtain ⟨H1, v1, e1, e2, e3⟩ := Mo_g1 (x := 0) h (by omega)
    have za : zaI H1 (some 27) 0 (nI q) = some (nI (sA T q)) := by rw [← pA_nI hps.1]; exact e2.1.1.a h24 hql
    obtain ⟨H2, v2, f1, f2, f3⟩ := tail H1 v1 (o ++ [0]) (sA T q) e2 (by rw [List.length_append, List.length_singleton]; omega) (by omega)
    rw [if_pos h6, if_pos h6, e1, Option.bind_some, qgR e2.1.m rfl, Option.bind_some, za, Option.bind_some, dfS, if_neg u7'.2.2.2.2.1]
    refine ⟨H2, v2, f1, ?_, ?_, e3.tr f3⟩
    · rw [List.append_assoc] at f2
      exact f2
    · split <;> simp
  · rw [if_neg h6, if_neg h6]
    obtain ⟨H2, v2, f1, f2, f3⟩ := tail H v o q h (by omega) hql
    refine ⟨H2, v2, f1, f2, ?_, f3⟩
    split <;> simp
/-- what becomes of a task -/
def PtR (H : zH) (T : yT) (P : List yF) (D : yD) (xs0 : List Int64) (g0 : Nat × Nat × List Nat) (xs : List Int64) (tk : List tkT) (o : List Int64) (N d : Nat) (e : Option (List Int64)) (res : Option (Int32 × zH)) : Prop :=
  (∃ H' v' S a, res = some (1, H') ∧ TSt H' v' T P D xs0 g0 xs (S ++ tk) (o ++ a) ∧ TkV T xs (S ++ tk) ∧ e = (tkR T xs N S).map (a ++ ·) ∧ tkW T S + 1 ≤ d ∧ a.length ≤ 1 ∧ Fr H H' A5r) ∨
  (∃ H' v', res = some (0, H') ∧ MRv H' v' (T, P, D, xs0, g0, []) ∧ e = none ∧ Fr H H' A5r)
theorem Mo_part (hT : TOk T) (hp : TPos T) (hxs : xs.length ≤ 24) (hfu : 500 ≤ fu) (h : TSt H v T P D xs0 g0 xs tk o) (hV : TkV T xs tk) {w r p N : Nat} (hv : tkv T xs tk.length (some (w, p), r)) (hol : o.length + 2 < 1000000) (hN : 12 ≤ N) :
    PtR H T P D xs0 g0 xs tk o N (tF (dp T w + dp T r)) (resP T xs N w r p) (jF_Mo_part fu (some 24) (nI w) (nI p) (nI r) H) := by
  obtain ⟨hw, hr, ⟨⟨p', b⟩, henc⟩, hpl, htl⟩ := hv
  dsimp only at hw hr henc hpl htl
  obtain ⟨t1, t2, t3, t4, t5, t6, t7, t8⟩ := hT.2 w hw
  obtain ⟨u1, u2, u3, u4, u5, u6, u7, u8⟩ := hT.2 r hr
  have h24 := hT.1
  have hinv := encP_inv7 hT hw henc
  have hbd := encP_bd 7 w p p' b hpl henc
  rw [resP_up hT N w r p hw hr (by omega), resP]
  unfold jF_Mo_part
  rw [qok h.1.m, Option.bind_some, qgR h.1.m rfl, Option.bind_some, h.k hT hw, Option.bind_some, li6, if_eqN (by omega) (by omega)]
  by_cases w6 : kd T w = 6
  · have t7' := t7 w6
    have hps := (hp w hw).2 w6
    obtain ⟨hpx, b', k⟩ : p < xs.length ∧ ∃ b', encP T xs 7 (if xs.getD p 0 = 0 then sA T w else sB T w) (p + 1) = some (p', b') := by
      rcases hinv with q | q | q | q | q
      · omega
      · omega
      · omega
      · exact ⟨q.2.1, q.2.2.2.choose, q.2.2.2.choose_spec.1⟩
      · omega
    have za : zaI H (some 27) 0 (nI w) = some (nI (sA T w)) := by rw [← pA_nI hps.1]; exact h.1.1.a h24 hw
    have zb : zaI H (some 28) 0 (nI w) = some (nI (sB T w)) := by rw [← pB_nI hps.2]; exact h.1.1.b h24 hw
    have pu : ∀ cc, cc < w → dp T cc < dp T w → (if xs.getD p 0 = 0 then sA T w else sB T w) = cc → PtR H T P D xs0 g0 xs tk o N (tF (dp T w + dp T r)) (resP T xs N cc r (p + 1)) (jJ_Mo_part_38 fu (nI cc) (some 24) (nI p) (nI r) H) := by
      intro cc hc hd he
      rw [he] at k
      obtain ⟨H1, v1, e1, e2, e3⟩ := Mo_add (t := (some (cc, p + 1), r)) h (by omega) rfl rfl rfl
      have e1' : jF_Mo_add (some 24) (nI cc) (nI (p + 1)) (nI r) H = some H1 := e1
      unfold jJ_Mo_part_38
      rw [nI_1, e1', Option.bind_some]
      refine Or.inl ⟨H1, v1, [(some (cc, p + 1), r)], [], rfl, by rw [List.append_nil]; exact e2, ⟨⟨by show cc < T.length; omega, hr, ⟨_, k⟩, by show p + 1 ≤ xs.length; omega, htl⟩, hV⟩, ?_, ?_, by simp, e3⟩
      · unfold tkR tkR tkO
        dsimp only
        cases resP T xs N cc r (p + 1) <;> simp
      · have := tF_1 (a := dp T cc + dp T r) (b := dp T w + dp T r) (by omega) (by omega)
        show tF (dp T cc + dp T r) + 0 + 1 ≤ _
        omega
    rw [if_pos w6, if_pos w6, qgR h.1.m rfl, Option.bind_some, h.2.1.at hxs hpx, Option.bind_some]
    by_cases c0 : xs.getD p 0 = 0
    · rw [if_pos c0, if_pos c0, qgR h.1.m rfl, Option.bind_some, za, Option.bind_some]
      exact pu _ t7'.1 t7'.2.2.1 (if_pos c0)
    · rw [if_neg c0, if_neg c0, qgR h.1.m rfl, Option.bind_some, zb, Option.bind_some]
      exact pu _ t7'.2.1 t7'.2.2.2.1 (if_neg c0)
  rw [if_neg w6, if_neg w6, Option.bind_some, h.k hT hr, Option.bind_some, if_eqN (by omega) (by omega)]
  by_cases r6 : kd T r = 6
  · have u7' := u7 r6
    have va1 : allT T (sA T r) w := ⟨by omega, hw⟩
    have va2 : allT T (sB T r) w := ⟨by omega, hw⟩
    rw [if_pos r6, if_pos r6, Mo_branch h.1.1 h.1.2.1 hT hp hr hw r6 va1 va2, Option.bind_some]
    cases hb : brS T 7 r w with
    | none =>
      rw [show limI none = (-1 : Int32) from rfl, if_neg (show ¬ (0 : Int32) ≤ -1 by decide)]
      exact Or.inr ⟨H, v, rfl, h.1, rfl, Fr.rf⟩
    | some bb =>
      have hb2 : bb = 0 ∨ bb = 1 := by
        unfold brS at hb
        split at hb
        · cases hb; exact Or.inl rfl
        · split at hb
          · cases hb; exact Or.inr rfl
          · cases hb
      have hlt : brT T r bb < T.length ∧ dp T (brT T r bb) < dp T r := by
        unfold brT
        split
        · exact ⟨by omega, by omega⟩
        · exact ⟨by omega, by omega⟩
      have hdb := (hT.2 _ hlt.1).2.1
      obtain ⟨H1, v1, e1, e2, e3⟩ := Mo_g1 (x := lN bb) h (by omega)
      have hbs := Mo_branchSchema e2.1.1 e2.1.2.1 hT hp hr hw r6 va1 va2 hb
      obtain ⟨H2, v2, f1, f2, f3⟩ := Mo_add (t := (some (w, p), brT T r bb)) e2 (by omega) rfl rfl rfl
      have f1' : jF_Mo_add (some 24) (nI w) (nI p) (nI (brT T r bb)) H1 = some H2 := f1
      rw [show limI (some bb) = nI bb from rfl, if_pos (nI_pos' (by omega)), nI_l (by omega), e1, Option.bind_some, hbs, Option.bind_some, f1', Option.bind_some]
      refine Or.inl ⟨H2, v2, [(some (w, p), brT T r bb)], [lN bb], rfl, f2, ⟨⟨hw, hlt.1, ⟨_, henc⟩, hpl, by show tk.length + 1 + 3 * dp T (brT T r bb) ≤ 64; omega⟩, hV⟩, ?_, ?_, by simp, e3.tr f3⟩
      · unfold tkR tkR tkO
        dsimp only
        cases resP T xs N w (brT T r bb) p <;> simp
      · have := tF_1 (a := dp T w + dp T (brT T r bb)) (b := dp T w + dp T r) (by omega) (by omega)
        show tF (dp T w + dp T (brT T r bb)) + 0 + 1 ≤ _
        omega
  have hN1 : ∀ a b q, a < T.length → b < T.length → resP T xs N a b q = resP T xs N a b q := fun _ _ _ _ _ => rfl
  have hFp := tF_pos (dp T w + dp T r)
  have give : ∀ x : Int64, PtR H T P D xs0 g0 xs tk o N (tF (dp T w + dp T r)) (some [x]) ((jF_Mo_give1 (some 24) x H).bind fun y => some ((1 : Int32), y)) := by
    intro x
    obtain ⟨H1, v1, e1, e2, e3⟩ := Mo_g1 (x := x) h (by omega)
    rw [e1, Option.bind_some]
    exact Or.inl ⟨H1, v1, [], [x], rfl, e2, hV, rfl, by show 0 + 1 ≤ _; omega, by simp, e3⟩
  rw [if_neg r6, if_neg r6, Option.bind_some, h.k hT hw, Option.bind_some, Option.bind_some, h.k hT hr, Option.bind_some, if_eqN (by omega) (by omega)]
  by_cases hkk : kd T w = kd T r
  · rw [if_pos hkk, Option.bind_some, h.k hT hr, Option.bind_some, li7, if_eqN (by omega) (by omega), show fitK (kd T w) (kd T r) = true from decide_eq_true (Or.inl hkk), if_pos rfl]
    by_cases r7 : kd T r = 7
    · have w7 : kd T w = 7 := by omega
      have k : seqP (encP T xs 7) (subs T w) p = some (p', b) := by
        rcases hinv with q | q | q | q | q
        · omega
        · exact q.2
        · omega
        · omega
        · omega
      have zn1 : zaI H (some 26) 0 (nI w) = some (nm T w) := h.1.1.nm h24 hw
      have zn2 : zaI H (some 26) 0 (nI r) = some (nm T r) := h.1.1.nm h24 hr
      rw [if_pos r7, if_neg (show ¬ kd T r = 0 by omega), if_neg (show ¬ kd T r = 4 by omega), if_neg (show ¬ kd T r = 5 by omega), if_pos r7, qgR h.1.m rfl, Option.bind_some, zn1, Option.bind_some, Option.bind_some, zn2, Option.bind_some]
      by_cases hn : nm T w = nm T r
      · rw [if_pos hn, if_pos hn]
        have zn : zaI H (some 30) 0 (nI r) = some (nI (fl T r).length) := h.1.1.n h24 hr
        unfold jF_Mo_ofRecord
        rw [qok h.1.m, Option.bind_some, qgR h.1.m rfl, Option.bind_some, zn, Option.bind_some, li3, pk_mul, nI_add]
        have hfl : flR (fdR T xs (resP T xs N) w r p) ((fl T r).length - (fl T r).length) (fl T r).length = some [] := by rw [Nat.sub_self]; rfl
        rcases Mo_orL (fu := fu) (N := N) hT hp hxs hfu hw hr hpl k hV htl (by omega) (fl T r).length fu [] H v (Nat.le_refl _) (by omega) (by rw [Nat.sub_self]; rfl) (by rw [hfl]; rfl) (Nat.zero_le _) hV h with ⟨H1, v1, S, e1, e2, e3, e4, e5, e6⟩ | ⟨H1, v1, e1, e2, e3, e4⟩
        · rw [e1, Option.bind_some]
          dsimp only
          rw [if_neg (show ¬ (1 : Int32) = 0 by decide)]
          refine Or.inl ⟨H1, v1, S, [], rfl, by rw [List.append_nil]; exact e2, e3, ?_, ?_, by simp, e6⟩
          · rw [← e4]
            cases tkR T xs N S <;> rfl
          · have h3 := tF_3 (a := dp T w + dp T r - 2) (b := dp T w + dp T r) (by omega)
            have hmul : (fl T r).length * tF (dp T w + dp T r - 2) ≤ 3 * tF (dp T w + dp T r - 2) := Nat.mul_le_mul_right _ u4
            omega
        · rw [e1, Option.bind_some]
          dsimp only
          rw [if_pos rfl]
          exact Or.inr ⟨H1, v1, rfl, e2, e3, e4⟩
      · rw [if_neg hn, if_neg hn]
        exact Or.inr ⟨H, v, rfl, h.1, rfl, Fr.rf⟩
    · rw [if_neg r7, if_neg r7, Option.bind_some, h.k hT hr, Option.bind_some, li4, if_eqN (by omega) (by omega)]
      by_cases r4 : kd T r = 4
      · have w4 : kd T w = 4 := by omega
        have zn1 : zaI H (some 26) 0 (nI w) = some (nm T w) := h.1.1.nm h24 hw
        have zn2 : zaI H (some 26) 0 (nI r) = some (nm T r) := h.1.1.nm h24 hr
        obtain ⟨hpx, hval⟩ : p < xs.length ∧ isVal T w (xs.getD p 0) = true := by
          rcases hinv with q | q | q | q | q
          · omega
          · omega
          · omega
          · omega
          · exact ⟨q.2.2.1, q.2.2.2.1⟩
        unfold isVal at hval
        rw [if_neg (by omega), if_neg (by omega), if_neg (by omega), if_pos w4] at hval
        obtain ⟨y, hy, hxy, -⟩ := hasSy_of hval
        rw [if_pos r4, if_neg (show ¬ kd T r = 0 by omega), if_pos r4, qgR h.1.m rfl, Option.bind_some, zn1, Option.bind_some, Option.bind_some, zn2, Option.bind_some]
        by_cases hn : nm T w = nm T r
        · obtain ⟨s1, s2⟩ := Mo_symOf h hT (by omega) hr hy
          rw [if_pos hn, if_pos hn, qgR h.1.m rfl, Option.bind_some, h.2.1.at hxs hpx, Option.bind_some, hxy, lN_i]
          cases hsy : hasSy (pA T r) (lN y) with
          | true =>
            obtain ⟨H1, v1, e1, e2, e3⟩ := s1 (Or.inl hsy)
            rw [hsy, if_pos rfl] at e2
            rw [if_pos rfl, e1, Option.bind_some]
            exact Or.inl ⟨H1, v1, [], [lN y], rfl, e2, hV, rfl, by show 0 + 1 ≤ _; omega, by simp, e3⟩
          | false =>
            rw [if_neg Bool.false_ne_true]
            by_cases hm : pB T r = -1
            · rw [s2 hsy hm, if_pos hm, Option.bind_some]
              exact Or.inr ⟨H, v, rfl, h.1, rfl, Fr.rf⟩
            · obtain ⟨H1, v1, e1, e2, e3⟩ := s1 (Or.inr hm)
              rw [hsy, if_neg Bool.false_ne_true] at e2
              rw [if_neg hm, e1, Option.bind_some]
              exact Or.inl ⟨H1, v1, [], [(pB T r).toInt64], rfl, e2, hV, rfl, by show 0 + 1 ≤ _; omega, by simp, e3⟩
        · rw [if_neg hn, if_neg hn]
          exact Or.inr ⟨H, v, rfl, h.1, rfl, Fr.rf⟩
      · rw [if_neg r4, if_neg r4, Option.bind_some, h.k hT hr, Option.bind_some, if_0N (by omega)]
        unfold jJ_Mo_part_250
        by_cases r0 : kd T r = 0
        · rw [if_pos r0, if_pos r0, qgR h.1.m rfl, Option.bind_some, h.k hT hr, Option.bind_some, if_neg (show ¬ nI (kd T r) = (5 : Int32) by rw [r0]; decide)]
          exact Or.inl ⟨H, v, [], [], rfl, by rw [List.append_nil]; exact h, hV, rfl, by show 0 + 1 ≤ _; omega, by simp, Fr.rf⟩
        · have hpx : p < xs.length := by
            rcases hinv with q | q | q | q | q
            · omega
            · omega
            · exact q.2.1
            · omega
            · exact q.2.2.1
          obtain ⟨H1, v1, e1, e2, e3⟩ := Mo_g1 (x := xs.getD p 0) h (by omega)
          rw [if_neg r0, if_neg r0, qgR h.1.m rfl, Option.bind_some, h.2.1.at hxs hpx, Option.bind_some, e1, Option.bind_some, qgR e2.1.m rfl, Option.bind_some, e2.k hT hr, Option.bind_some, li5, if_eqN (by omega) (by omega)]
          by_cases r5 : kd T r = 5
          · have w5 : kd T w = 5 := by omega
            have t6' := t6 w5
            have u6' := u6 r5
            obtain ⟨c, b', hc, hx, k⟩ : ∃ c b', c ≤ 3 ∧ xs.getD p 0 = lN c ∧ seqP (encP T xs 7) (List.replicate c (sA T w)) (p + 1) = some (p', b') := by
              rcases hinv with q | q | ⟨-, -, c, b', q1, q2, q3, -⟩ | q | q
              · omega
              · omega
              · exact ⟨c, b', q1, q2, q3⟩
              · omega
              · omega
            obtain ⟨H2, v2, f1, f2, f3⟩ := Mo_items (fu := fu) hT hp hxs hfu hw hr w5 r5 hpx hx k hc (by omega) e2
            rw [if_pos r5, if_pos r5, f1, Option.bind_some]
            have tv : ∀ m j, j + m = c → TkV T xs (itT T xs (sA T w) (sA T r) (p + 1) m j ++ tk) := by
              intro m
              induction m with
              | zero => intro j _; exact hV
              | succ m ih =>
                intro j hj
                obtain ⟨b2, hb2⟩ := nxI_enc (show p + 1 ≤ xs.length by omega) k (show j < c by omega)
                have hb3 := (nxI_ok (show p + 1 ≤ xs.length by omega) k j (by omega)).2
                refine ⟨⟨by show sA T w < T.length; omega, by show sA T r < T.length; omega, ⟨_, hb2⟩, hb3, ?_⟩, ih (j + 1) (by omega)⟩
                show (itT T xs (sA T w) (sA T r) (p + 1) m (j + 1) ++ tk).length + 1 + 3 * dp T (sA T r) ≤ 64
                rw [List.length_append, itT_len]
                omega
            refine Or.inl ⟨H2, v2, itT T xs (sA T w) (sA T r) (p + 1) c 0, [xs.getD p 0], rfl, f2, tv c 0 (by omega), ?_, ?_, by simp, e3.tr f3⟩
            · rw [itT_R, hx, lN_i, nI_clamp (by omega)]
              rfl
            · rw [itT_W]
              have h3 := tF_3 (a := dp T (sA T w) + dp T (sA T r)) (b := dp T w + dp T r) (by omega)
              have hmul : c * tF (dp T (sA T w) + dp T (sA T r)) ≤ 3 * tF (dp T (sA T w) + dp T (sA T r)) := Nat.mul_le_mul_right _ hc
              omega
          · rw [if_neg r5, if_neg r5]
            exact Or.inl ⟨H1, v1, [], [xs.getD p 0], rfl, e2, hV, rfl, by show 0 + 1 ≤ _; omega, by simp, e3⟩
  · rw [if_neg hkk, Option.bind_some, h.k hT hw, Option.bind_some, li2, if_eqN (by omega) (by omega)]
    by_cases w2 : kd T w = 2
    · rw [if_pos w2, Option.bind_some, h.k hT hr, Option.bind_some, li3, if_eqN (by omega) (by omega)]
      by_cases r3 : kd T r = 3
      · have hpx : p < xs.length := by
          rcases hinv with q | q | q | q | q
          · omega
          · omega
          · omega
          · omega
          · exact q.2.2.1
        rw [if_pos r3, show fitK (kd T w) (kd T r) = true from decide_eq_true (Or.inr ⟨w2, r3⟩), if_pos rfl, if_neg (show ¬ kd T r = 0 by omega), if_neg (show ¬ kd T r = 4 by omega), if_neg (show ¬ kd T r = 5 by omega), if_neg (show ¬ kd T r = 7 by omega), qgR h.1.m rfl, Option.bind_some, h.2.1.at hxs hpx, Option.bind_some]
        exact give _
      · rw [if_neg r3, show fitK (kd T w) (kd T r) = false from decide_eq_false (by rintro (q | q); exact hkk q; exact r3 q.2), if_neg Bool.false_ne_true]
        exact Or.inr ⟨H, v, rfl, h.1, rfl, Fr.rf⟩
    · rw [if_neg w2, show fitK (kd T w) (kd T r) = false from decide_eq_false (by rintro (q | q); exact hkk q; exact w2 q.1), if_neg Bool.false_ne_true]
      exact Or.inr ⟨H, v, rfl, h.1, rfl, Fr.rf⟩
end MP2
