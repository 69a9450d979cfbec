/-! The reference codes a row. -/
theorem MSB.upd {H H' : zH} {v v' : Nat → Int32} {T : yT} {P : List yF} {A : Nat → Prop} (h : MSB H v T P) (hF : Fr H H' A) (hA : ∀ q, A q → ¬ (25 ≤ q ∧ q ≤ 34)) (hM : MoAt H' v') (h00 : v' 0 = v 0) (h13 : v' 13 = v 13) : MSB H' v' T P := by
  have k : ∀ {a N : Nat} {f : Nat → Int32}, AI H a N f → 25 ≤ a → a ≤ 34 → AI H' a N f := fun h1 h2 h3 => h1.fr hF (fun q => hA _ q ⟨h2, h3⟩)
  obtain ⟨h0, h1, h2, ⟨f3, a3, b3⟩, ⟨f4, a4, b4⟩, ⟨f5, a5, b5⟩, ⟨f6, a6, b6⟩, ⟨f7, a7, b7⟩, ⟨f8, a8, b8⟩, ⟨f9, a9, b9⟩, ⟨f10, a10, b10⟩, ⟨f11, a11, b11⟩, ⟨f12, a12, b12⟩⟩ := h
  exact ⟨hM, by rw [h00]; exact h1, by rw [h13]; exact h2, ⟨f3, k a3 (by omega) (by omega), b3⟩, ⟨f4, k a4 (by omega) (by omega), b4⟩, ⟨f5, k a5 (by omega) (by omega), b5⟩, ⟨f6, k a6 (by omega) (by omega), b6⟩, ⟨f7, k a7 (by omega) (by omega), b7⟩, ⟨f8, k a8 (by omega) (by omega), b8⟩, ⟨f9, k a9 (by omega) (by omega), b9⟩, ⟨f10, k a10 (by omega) (by omega), b10⟩, ⟨f11, a11.fr hF (fun q => hA _ q ⟨by omega, by omega⟩), b11⟩, ⟨f12, a12.fr hF (fun q => hA _ q ⟨by omega, by omega⟩), b12⟩⟩
theorem zup_self {f : Nat → Int32} {k : Nat} {x : Int32} (h : f k = x) : va_up f k x = f := by
  funext i
  unfold va_up
  split
  · next e => subst e; exact h.symm
  · rfl
def seqO (T : yT) (xs : List Int64) : List (Option Nat) → Nat → Option (Nat × List Nat)
  | [], p => some (p, [])
  | none :: l, p => (seqO T xs l p).map fun t => (t.1, 0 :: t.2)
  | some s :: l, p => match encP T xs 7 s p with
    | none => none
    | some r => (seqO T xs l r.1).map fun t => (t.1, r.2 ++ t.2)
theorem seqO_app {T : yT} {xs : List Int64} {l : List (Option Nat)} : ∀ (a : List Nat) (p : Nat), seqO T xs (a.map some ++ l) p = match seqP (encP T xs 7) a p with
    | none => none
    | some r => (seqO T xs l r.1).map fun t => (t.1, r.2 ++ t.2) := by
  intro a
  induction a with
  | nil =>
    intro p
    rw [seqP]
    dsimp only
    rw [List.map_nil, List.nil_append]
    cases seqO T xs l p with
    | none => rfl
    | some t => rfl
  | cons q a ih =>
    intro p
    rw [List.map_cons, List.cons_append, seqO, seqP]
    cases encP T xs 7 q p with
    | none => rfl
    | some r =>
      dsimp only
      rw [ih]
      cases seqP (encP T xs 7) a r.1 with
      | none => rfl
      | some t =>
        dsimp only
        cases seqO T xs l t.1 with
        | none => rfl
        | some z => simp
section MEnc
variable {T : yT} {P : List yF} {xs : List Int64} {fu : Nat}
abbrev k4T : Type := Option Nat → Int32 → Int32 → zH → Option zH
theorem Mo_encI {k11 : k4T} {v : Nat → Int32} {s c : Nat} {a3 : Int32} (hT : TOk T) (hp : TPos T) (hs : s < T.length) (h5 : kd T s = 5) (hc : c ≤ 3) {l : List (Option Nat)} (hl : l.length + 3 * dp T s ≤ 64) : ∀ (m i g : Nat) (H : zH), i + m = c → m < g → MSB H v T P → MSt H T ((List.replicate i (sA T s)).map some ++ l) →
    ∃ H', jL_Mo_encode_139 fu k11 g (some 24) (nI l.length) a3 (nI s) (lN c) (nI i) H = k11 (some 24) (nI ((List.replicate c (sA T s)).map some ++ l).length) a3 H' ∧ MSt H' T ((List.replicate c (sA T s)).map some ++ l) ∧ Fr H H' (fun q => q = 44) := by
  obtain ⟨t1, t2, t3, t4, t5, t6, t7, t8⟩ := hT.2 s hs
  have t6' := t6 h5
  intro m
  induction m with
  | zero =>
    intro i g H h1 h2 h hS
    obtain ⟨q, rfl⟩ : ∃ q, g = q + 1 := ⟨g - 1, by omega⟩
    have : i = c := by omega
    subst this
    rw [jL_Mo_encode_139, lN_i, if_pos (nI_le (Nat.le_refl _) (by omega)), nI_add, List.length_append, List.length_map, List.length_replicate, Nat.add_comm l.length]
    exact ⟨H, rfl, hS, Fr.rf⟩
  | succ m ih =>
    intro i g H h1 h2 h hS
    obtain ⟨q, rfl⟩ : ∃ q, g = q + 1 := ⟨g - 1, by omega⟩
    have hlen : ((List.replicate i (sA T s)).map some ++ l).length = l.length + i := by
      rw [List.length_append, List.length_map, List.length_replicate, Nat.add_comm]
    obtain ⟨H1, e1, e2, e3⟩ := hS.push (q := some (sA T s)) (by
      show _ + 3 * dp T _ ≤ 64
      rw [hlen]; omega) (fun x hx => by cases hx; omega)
    rw [hlen] at e1
    have e1' : zsI H (some 44) 0 (nI (l.length + i)) (nI (sA T s)) = some H1 := e1
    rw [jL_Mo_encode_139, lN_i, if_neg (nI_ge (by omega) (by omega)), qgR h.1 rfl, Option.bind_some, qgR h.1 rfl, Option.bind_some, h.a hT.1 hs, Option.bind_some, nI_add, pA_nI ((hp s hs).1 h5), e1', Option.bind_some, nI_1]
    obtain ⟨H2, f1, f2, f3⟩ := ih (i + 1) q H1 (by omega) (by omega) (h.fr e3 (fun q hq => by omega)) (by
      rw [List.replicate_succ]
      exact e2)
    exact ⟨H2, f1, f2, e3.tr f3⟩
abbrev A3e : Nat → Prop := fun q => q = 24 ∨ q = 41 ∨ q = 44
theorem map_pre {o : Option (Nat × List Nat)} {p' : Nat} {b c : List Nat} (h : (o.map fun t => (t.1, c ++ t.2)) = some (p', b)) : ∃ b', o = some (p', b') ∧ b = c ++ b' := by
  cases o with
  | none => cases h
  | some t => cases h; exact ⟨t.2, rfl, rfl⟩
theorem Mo_encL (hT : TOk T) (hp : TPos T) (hxs : xs.length ≤ 24) (hfu : 12 ≤ fu) : ∀ (g : Nat) (st : List (Option Nat)) (p p' : Nat) (b bs : List Nat) (H : zH) (v : Nat → Int32), MSB H v T P → MBy H v bs → MVal H xs → MSt H T st → wS T st < g → seqO T xs st p = some (p', b) → bs.length + b.length ≤ 300 →
    ∃ H', jL_Mo_encode_11 fu g (some 24) (nI st.length) (nI p) H = some H' ∧ MBy H' (va_up v 28 (nI (bs ++ b).length)) (bs ++ b) ∧ MSt H' T [] ∧ Fr H H' A3e := by
  intro g
  induction g with
  | zero => intro st p p' b bs H v _ _ _ _ h; omega
  | succ g ih =>
    intro st p p' b bs H v h hB hV hS hw hq hr
    have hv28 := hB.2.1
    cases st with
    | nil =>
      cases hq
      rw [jL_Mo_encode_11, if_pos (show nI ([] : List (Option Nat)).length ≤ 0 by decide), List.append_nil, zup_self hv28]
      exact ⟨H, rfl, hB, hS, Fr.rf⟩
    | cons o l =>
      have hok := hS.ok
      have hpop := hS.pop
      have htop := hS.top
      rw [jL_Mo_encode_11, show (o :: l).length = l.length + 1 from rfl, if_neg (nI_nle (by omega) (by omega)), qgR h.1 rfl, Option.bind_some, pk_m1, htop, Option.bind_some]
      -- others in its place, some bytes more
      have go : ∀ (st' : List (Option Nat)) (q : Nat) (c b' : List Nat) (H1 : zH) (v1 : Nat → Int32), MSB H1 v1 T P → MBy H1 v1 (bs ++ c) → v1 = va_up v 28 (nI (bs ++ c).length) → MSt H1 T st' → Fr H H1 A3e → wS T st' < g → seqO T xs st' q = some (p', b') → b = c ++ b' →
          ∃ H', jL_Mo_encode_11 fu g (some 24) (nI st'.length) (nI q) H1 = some H' ∧ MBy H' (va_up v 28 (nI (bs ++ b).length)) (bs ++ b) ∧ MSt H' T [] ∧ Fr H H' A3e := by
        intro st' q c b' H1 v1 h1 hB1 hv1 hS1 F hw1 hq1 hb
        subst hb
        obtain ⟨H2, f1, f2, f3, f4⟩ := ih st' q p' b' (bs ++ c) H1 v1 h1 hB1 (hV.fr F (by unfold A3e; omega)) hS1 hw1 hq1 (by rw [List.length_append] at hr ⊢; omega)
        rw [hv1, zup_idem, List.append_assoc] at f2
        exact ⟨H2, f1, f2, f3, F.tr f4⟩
      have hw' : wO T o + wS T l < g + 1 := hw
      have up : ∀ {H1 : zH} {v1 : Nat → Int32} {bs1 : List Nat} {x : Int32}, MBy H1 v1 bs1 → v1 = va_up v 28 x → Fr H H1 (A2 24 41) → MSB H1 v1 T P := fun hB1 hv1 F1 => h.upd F1 (fun q hq => by unfold A2 at hq; omega) hB1.1 (by rw [hv1]; rfl) (by rw [hv1]; rfl)
      have upF : ∀ {H1 : zH}, Fr H H1 (A2 24 41) → Fr H H1 A3e := fun F => F.up (fun q hq => by unfold A2 at hq; unfold A3e; omega)
      cases o with
      | none =>
        have hw1 : wO T (none : Option Nat) = 1 := rfl
        obtain ⟨b', hq1, hb⟩ := map_pre (c := [0]) hq
        show ∃ H', (if (0 : Int32) ≤ -1 then _ else _) = some H' ∧ _
        rw [if_neg (show ¬ (0 : Int32) ≤ -1 by decide)]
        unfold jJ_Mo_encode_42
        rw [if_neg (show ¬ (0 : Int32) ≤ -1 by decide), li0]
        have hbl : b.length = [0].length + b'.length := by rw [hb, List.length_append]
        obtain ⟨H1, e1, e2, e3⟩ := Mo_putByte (b := 0) hB (by omega)
        rw [e1, Option.bind_some]
        have e2' : MBy H1 (va_up v 28 (nI (bs ++ [0]).length)) (bs ++ [0]) := by rw [List.length_append]; exact e2
        exact go l p [0] b' H1 _ (up e2' rfl e3) e2' rfl (hpop.fr e3 (by unfold A2; omega)) (upF e3) (by omega) hq1 hb
      | some s =>
        have hs := hok.2 s rfl
        have hh : l.length + 1 + 3 * dp T s ≤ 64 := hok.1
        obtain ⟨t1, t2, t3, t4, t5, t6, t7, t8⟩ := hT.2 s hs
        have hwp := wd_pos (dp T s)
        have hwo : wO T (some s) = wd (dp T s) := rfl
        have hpos : (0 : Int32) ≤ limI (some s) := nI_pos' (by have := hT.1; omega)
        rw [if_pos hpos, qgR h.1 rfl, Option.bind_some]
        show ∃ H', ((zaI H (some 25) 0 (nI s)).bind _) = some H' ∧ _
        rw [h.k hT.1 hs, Option.bind_some]
        show ∃ H', jJ_Mo_encode_42 fu _ (nI (kd T s)) (some 24) (nI l.length) (nI p) (nI s) H = some H' ∧ _
        unfold jJ_Mo_encode_42
        rw [if_pos (nI_pos' (by omega)), li7, if_eqN (by omega) (by omega)]
        have heq := encP_eq (xs := xs) (p := p) hT hs
        rw [seqO] at hq
        have goN : ∀ (st' : List (Option Nat)) (q : Nat) (H1 : zH), MSB H1 v T P → MBy H1 v bs → MSt H1 T st' → Fr H H1 A3e → wS T st' < g → seqO T xs st' q = some (p', b) → ∃ H', jL_Mo_encode_11 fu g (some 24) (nI st'.length) (nI q) H1 = some H' ∧ MBy H' (va_up v 28 (nI (bs ++ b).length)) (bs ++ b) ∧ MSt H' T [] ∧ Fr H H' A3e := by
          intro st' q H1 a1 a2 a3 a4 a5 a6
          exact go st' q [] b H1 v a1 (by rw [List.append_nil]; exact a2) (by rw [List.append_nil, zup_self hv28]) a3 a4 a5 a6 rfl
        by_cases h7 : kd T s = 7
        · rw [if_neg (by omega), if_pos h7] at heq
          rw [if_pos h7]
          obtain ⟨H1, e1, e2, e3⟩ := Mo_come (fu := fu) hT hs hh h hpop (by omega)
          rw [e1, Option.bind_some]
          dsimp only
          refine goN _ p H1 (h.fr e3 (fun q hq => by omega)) ?_ e2 (e3.up (fun q hq => Or.inr (Or.inr hq))) ?_ ?_
          · obtain ⟨m, m28, f, a, c⟩ := hB
            exact ⟨m.fr e3 (by omega), m28, f, a.fr e3 (by omega), c⟩
          · have := (wS_in (T := T) (s := s) (l := subs T s) (by rw [subs_len]; exact t4) (fun q hq => by have h1 := subs_mem hT hs hq; have h2 := (hT.2 q (by omega)).2.1; omega)).1
            rw [wS_app]; omega
          · rw [seqO_app, ← heq]; exact hq
        · rw [if_neg h7, if_0N (by omega)]
          by_cases h0 : kd T s = 0
          · rw [if_pos h0] at heq
            rw [if_pos h0]
            dsimp only
            refine goN l p H h hB hpop Fr.rf (by omega) ?_
            rw [heq] at hq
            dsimp only at hq
            obtain ⟨b', k1, k2⟩ := map_pre (c := []) hq
            rw [k1, k2]; rfl
          · rw [if_neg h0, if_neg h7] at heq
            rw [if_neg h0]
            by_cases hlt : p < xs.length
            · rw [if_neg (by omega)] at heq
              rw [qgR h.1 rfl, Option.bind_some]
              show ∃ H', ((zaL H (some 43) 2 (nI p)).bind _) = some H' ∧ _
              rw [hV.at hxs hlt, Option.bind_some, nI_1, li1, if_eqN (by omega) (by omega)]
              generalize xs.getD p 0 = x at heq ⊢
              by_cases h1 : kd T s = 1
              · rw [if_neg (by omega), if_neg (by omega)] at heq
                rw [if_pos h1]
                cases hvv : isVal T s x with
                | false => rw [hvv, if_neg Bool.false_ne_true] at heq; rw [heq] at hq; cases hq
                | true =>
                  rw [hvv, if_pos rfl] at heq
                  rw [heq] at hq
                  obtain ⟨b', k1, k2⟩ := map_pre hq
                  unfold cod at k2
                  rw [if_pos h1] at k2
                  have hbl : b.length = 1 + b'.length := by rw [k2, List.length_append]; rfl
                  unfold isVal at hvv
                  rw [if_pos h1] at hvv
                  have hx := of_decide_eq_true hvv
                  have hb : x.toInt32 = nI (if x = 0 then 0 else 1) := by
                    rcases hx with rfl | rfl
                    · decide
                    · decide
                  obtain ⟨H1, e1, e2, e3⟩ := Mo_putByte (b := if x = 0 then 0 else 1) hB (by omega)
                  rw [hb, e1, Option.bind_some]
                  have e2' : MBy H1 (va_up v 28 (nI (bs ++ [if x = 0 then 0 else 1]).length)) (bs ++ [if x = 0 then 0 else 1]) := by rw [List.length_append]; exact e2
                  exact go l (p + 1) _ b' H1 _ (up e2' rfl e3) e2' rfl (hpop.fr e3 (by unfold A2; omega)) (upF e3) (by omega) k1 k2
              · rw [if_neg h1, li5, if_eqN (by omega) (by omega)]
                by_cases h5 : kd T s = 5
                · have t6' := t6 h5
                  rw [if_pos h5] at heq
                  rw [if_pos h5]
                  by_cases hc0 : x < 0 ∨ ¬ x ≤ 3
                  · rw [if_pos hc0] at heq; rw [heq] at hq; cases hq
                  · rw [if_neg hc0] at heq
                    obtain ⟨c, hc, hcx⟩ : ∃ c : Nat, c ≤ 3 ∧ x = lN c := by
                      rcases i64_03 (fun q => hc0 (Or.inl q)) (Decidable.of_not_not (fun q => hc0 (Or.inr q))) with q | q | q | q
                      · exact ⟨0, by omega, q⟩
                      · exact ⟨1, by omega, q⟩
                      · exact ⟨2, by omega, q⟩
                      · exact ⟨3, by omega, q⟩
                    subst hcx
                    rw [lN_i, nI_clamp (by omega)] at heq
                    cases hsq : seqP (encP T xs 7) (List.replicate c (sA T s)) (p + 1) with
                    | none => rw [hsq] at heq; rw [heq] at hq; cases hq
                    | some r =>
                      rw [hsq] at heq
                      rw [heq] at hq
                      dsimp only [Option.map_some] at hq
                      have items : ∀ (pre b' : List Nat) (H1 : zH) (v1 : Nat → Int32), MSB H1 v1 T P → MBy H1 v1 (bs ++ pre) → v1 = va_up v 28 (nI (bs ++ pre).length) → Fr H H1 (A2 24 41) → b = pre ++ b' → (seqO T xs l r.1).map (fun t => (t.1, (r.2 ++ [0]) ++ t.2)) = some (p', b') →
                          ∃ H', jJ_Mo_encode_126 fu (fun x0 x1 x2 x3 => jL_Mo_encode_11 fu g x0 x1 x2 x3) (some 24) (nI l.length) (nI (p + 1)) (nI s) (lN c) H1 = some H' ∧ MBy H' (va_up v 28 (nI (bs ++ b).length)) (bs ++ b) ∧ MSt H' T [] ∧ Fr H H' A3e := by
                        intro pre b' H1 v1 m1 m2 m3 F1 m4 m5
                        unfold jJ_Mo_encode_126
                        obtain ⟨H2, e1, e2, e3⟩ := (hpop.fr F1 (by unfold A2; omega)).push (q := none) (by show _ + 3 * 0 ≤ 64; omega) (fun y hy => by cases hy)
                        have e1' : zsI H1 (some 44) 0 (nI l.length) (-1) = some H2 := e1
                        rw [qgR m1.1 rfl, Option.bind_some]
                        show ∃ H', ((zsI H1 (some 44) 0 (nI l.length) (-1)).bind _) = some H' ∧ _
                        rw [e1', Option.bind_some, nI_1]
                        have m1' := m1.fr e3 (fun q hq => by omega)
                        obtain ⟨H3, f1, f2, f3⟩ := Mo_encI (fu := fu) (k11 := fun x0 x1 x2 x3 => jL_Mo_encode_11 fu g x0 x1 x2 x3) (a3 := nI (p + 1)) hT hp hs h5 hc (l := none :: l) (by show l.length + 1 + _ ≤ 64; omega) c 0 fu H2 (by omega) (by omega) m1' e2
                        rw [nI_0, show (none :: l).length = l.length + 1 from rfl] at f1
                        rw [f1]
                        have F3 : Fr H1 H3 (fun q => q = 44) := e3.tr f3
                        refine go _ (p + 1) pre b' H3 v1 (m1.fr F3 (fun q hq => by omega)) ?_ m3 f2 ((upF F1).tr (F3.up (fun q hq => Or.inr (Or.inr hq)))) ?_ ?_ m4
                        · obtain ⟨m, m28, f, a, cc⟩ := m2
                          exact ⟨m.fr F3 (by omega), m28, f, a.fr F3 (by omega), cc⟩
                        · have := (wS_in (T := T) (s := s) (l := List.replicate c (sA T s)) (by rw [List.length_replicate]; exact hc) (fun q hq => by
                            have := List.eq_of_mem_replicate hq
                            subst this
                            exact ⟨(hT.2 _ (by omega)).2.1, t6'.2⟩))
                          have hw2 := wd_step (hT.2 _ (show sA T s < T.length by omega)).2.1 t6'.2
                          have hwn : wS T (none :: l) = 1 + wS T l := rfl
                          rw [wS_app, hwn]
                          by_cases hcc : List.replicate c (sA T s) = []
                          · rw [hcc]
                            show 0 + _ < g
                            omega
                          · have := this.2 hcc
                            omega
                        · rw [seqO_app, hsq]
                          dsimp only
                          rw [seqO, Option.map_map]
                          rw [← m5]
                          congr 1
                          funext t
                          simp
                      by_cases c3 : lN c ≤ 0
                      · rw [if_pos c3]
                        rw [if_pos c3] at hq
                        exact items [] b H v h (by rw [List.append_nil]; exact hB) (by rw [List.append_nil, zup_self hv28]) Fr.rf rfl hq
                      · rw [if_neg c3]
                        rw [if_neg c3] at hq
                        have hq' : ((seqO T xs l r.1).map fun t => (t.1, varB (lN c) ++ ((r.2 ++ [0]) ++ t.2))) = some (p', b) := by
                          rw [← hq]
                          congr 1
                          funext t
                          simp
                        obtain ⟨t, ht1, ht2⟩ := Option.map_eq_some_iff.mp hq'
                        have hbb : b = varB (lN c) ++ ((r.2 ++ [0]) ++ t.2) := by injection ht2 with z1 z2; exact z2.symm
                        have hpp : t.1 = p' := by injection ht2
                        have hbl : b.length = (varB (lN c)).length + ((r.2 ++ [0]) ++ t.2).length := by rw [hbb, List.length_append]
                        obtain ⟨H1, e1, e2, e3⟩ := Mo_putVar (fu := fu) (x := lN c) hB (by omega) (by omega)
                        rw [e1, Option.bind_some]
                        exact items (varB (lN c)) ((r.2 ++ [0]) ++ t.2) H1 _ (up e2 rfl e3) e2 rfl e3 hbb (by rw [ht1, ← hpp]; rfl)
                · rw [if_neg h5] at heq
                  rw [if_neg h5, li6, if_eqN (by omega) (by omega)]
                  by_cases h6 : kd T s = 6
                  · have t7' := t7 h6
                    have hps := (hp s hs).2 h6
                    rw [if_pos h6] at heq
                    rw [if_pos h6]
                    by_cases hx : x = 0 ∨ x = 1
                    · rw [if_pos hx] at heq
                      have pu : ∀ cc, cc < s → dp T cc < dp T s → (if x = 0 then sA T s else sB T s) = cc → ∀ (H1 : zH), MBy H1 (va_up v 28 (nI (bs ++ varB x).length)) (bs ++ varB x) → Fr H H1 (A2 24 41) → ∃ H', (jJ_Mo_encode_220 fu (fun x0 x1 x2 x3 => jL_Mo_encode_11 fu g x0 x1 x2 x3) (nI cc) (nI l.length) (some 44) (some 24) (nI l.length) (nI (p + 1)) H1) = some H' ∧ MBy H' (va_up v 28 (nI (bs ++ b).length)) (bs ++ b) ∧ MSt H' T [] ∧ Fr H H' A3e := by
                        intro cc hc hd he H1 m2 F1
                        rw [he] at heq
                        rw [heq] at hq
                        unfold jJ_Mo_encode_220
                        obtain ⟨H2, e1, e2, e3⟩ := (hpop.fr F1 (by unfold A2; omega)).push (q := some cc) (by show _ + 3 * dp T cc ≤ 64; omega) (fun y hy => by cases hy; omega)
                        have e1' : zsI H1 (some 44) 0 (nI l.length) (nI cc) = some H2 := e1
                        rw [e1', Option.bind_some, nI_1]
                        cases hE : encP T xs 7 cc (p + 1) with
                        | none => rw [hE] at hq; cases hq
                        | some r =>
                          rw [hE] at hq
                          dsimp only [Option.map_some] at hq
                          have hq' : (((seqO T xs l r.1).map fun t => (t.1, r.2 ++ t.2)).map fun t => (t.1, varB x ++ t.2)) = some (p', b) := by
                            rw [Option.map_map, ← hq]
                            congr 1
                            funext t
                            simp
                          obtain ⟨b', k1, k2⟩ := map_pre hq'
                          refine go (some cc :: l) (p + 1) (varB x) b' H2 _ ((up m2 rfl F1).fr e3 (fun q hq => by omega)) ?_ rfl e2 ((upF F1).tr (e3.up (fun q hq => Or.inr (Or.inr hq)))) ?_ ?_ k2
                          · obtain ⟨m, m28, f, a, cc⟩ := m2
                            exact ⟨m.fr e3 (by omega), m28, f, a.fr e3 (by omega), cc⟩
                          · have := wd_step (hT.2 cc (by omega)).2.1 hd
                            show wd (dp T cc) + wS T l < g
                            omega
                          · rw [seqO, hE]; exact k1
                      have hvl := varB_len x
                      have hroom : bs.length + 10 ≤ 320 := by omega
                      obtain ⟨H1, e1, e2, e3⟩ := Mo_putVar (fu := fu) (x := x) hB hroom (by omega)
                      have h1' := up e2 rfl e3
                      rw [e1, Option.bind_some, qgR h1'.1 rfl, Option.bind_some]
                      by_cases c0 : x = 0
                      · rw [if_pos c0, qgR h1'.1 rfl, Option.bind_some, h1'.a hT.1 hs, Option.bind_some, pA_nI hps.1]
                        exact pu _ t7'.1 t7'.2.2.1 (if_pos c0) H1 e2 e3
                      · rw [if_neg c0, qgR h1'.1 rfl, Option.bind_some, h1'.b hT.1 hs, Option.bind_some, pB_nI hps.2]
                        exact pu _ t7'.2.1 t7'.2.2.2.1 (if_neg c0) H1 e2 e3
                    · rw [if_neg hx] at heq; rw [heq] at hq; cases hq
                  · rw [if_neg h6] at heq
                    rw [if_neg h6]
                    cases hvv : isVal T s x with
                    | false => rw [hvv, if_neg Bool.false_ne_true] at heq; rw [heq] at hq; cases hq
                    | true =>
                      rw [hvv, if_pos rfl] at heq
                      rw [heq] at hq
                      obtain ⟨b', k1, k2⟩ := map_pre hq
                      unfold cod at k2
                      rw [if_neg h1] at k2
                      have var : ∀ z, b = varB z ++ b' → ∃ H', (jJ_Mo_encode_253 fu (fun x0 x1 x2 x3 => jL_Mo_encode_11 fu g x0 x1 x2 x3) z (some 24) (some 24) (nI l.length) (nI (p + 1)) H) = some H' ∧ MBy H' (va_up v 28 (nI (bs ++ b).length)) (bs ++ b) ∧ MSt H' T [] ∧ Fr H H' A3e := by
                        intro z hz
                        unfold jJ_Mo_encode_253
                        obtain ⟨H1, e1, e2, e3⟩ := Mo_putVar (fu := fu) (x := z) hB (by omega) (by omega)
                        rw [e1, Option.bind_some]
                        exact go l (p + 1) _ b' H1 _ (up e2 rfl e3) e2 rfl (hpop.fr e3 (by unfold A2; omega)) (upF e3) (by omega) k1 hz
                      rw [li4, if_eqN (by omega) (by omega)]
                      by_cases h4 : kd T s = 4
                      · rw [if_pos h4] at k2
                        rw [if_pos h4, qgR h.1 rfl, Option.bind_some]
                        show ∃ H', ((zaI H (some 27) 0 (nI s)).bind _) = some H' ∧ _
                        rw [h.a hT.1 hs, Option.bind_some]
                        unfold isVal at hvv
                        rw [if_neg h1, if_neg (by omega), if_neg (by omega), if_pos h4] at hvv
                        have hx := of_decide_eq_true hvv
                        obtain ⟨y, hy, hxy⟩ : ∃ y : Nat, y < 8 ∧ x = lN y := by
                          obtain ⟨y, hy, rfl⟩ := pk_lOf hx.1
                          refine ⟨y, ?_, rfl⟩
                          have h9 : ¬ lN 8 ≤ lN y := hx.2.1
                          rw [pk_lLE (by omega) hy] at h9
                          omega
                        subst hxy
                        rw [lN_i, nI_clamp (by omega)] at k2
                        rw [lN_i, Mo_below (by omega) (by omega), Option.bind_some]
                        exact var _ k2
                      · rw [if_neg h4] at k2
                        rw [if_neg h4]
                        exact var _ k2
            · rw [if_pos (by omega)] at heq; rw [heq] at hq; cases hq
theorem Mo_enc (hT : TOk T) (hp : TPos T) (hxs : xs.length ≤ 24) (hfu : 500 ≤ fu) {s p' : Nat} {b : List Nat} (hs : s < T.length) (hb : encP T xs 7 s 0 = some (p', b)) {H : zH} {v : Nat → Int32} (h : MSB H v T P) (hB : MBy H v []) (hV : MVal H xs) (hS : MSt H T []) :
    ∃ H', jF_Mo_encode fu (some 24) (nI s) H = some H' ∧ MBy H' (va_up v 28 (nI b.length)) b ∧ MSt H' T [] ∧ Fr H H' A3e := by
  obtain ⟨t1, t2, t3, t4, t5, t6, t7, t8⟩ := hT.2 s hs
  have hbd := encP_bd 7 s 0 p' b (Nat.zero_le _) hb
  obtain ⟨H1, e1, e2, e3⟩ := hS.push (q := some s) (by show 0 + 1 + 3 * dp T s ≤ 64; omega) (fun y hy => by cases hy; exact hs)
  have e1' : zsI H (some 44) 0 0 (nI s) = some H1 := e1
  have hw : wS T [some s] < fu := by
    have : wd (dp T s) ≤ wd 6 := wd_mono _ _ t3
    have h6 : wd 6 = 485 := rfl
    show wd (dp T s) + 0 < fu
    omega
  have hB1 : MBy H1 v [] := by
    obtain ⟨m, m28, f, a, cc⟩ := hB
    exact ⟨m.fr e3 (by omega), m28, f, a.fr e3 (by omega), cc⟩
  obtain ⟨H2, f1, f2, f3, f4⟩ := Mo_encL (fu := fu) hT hp hxs (by omega) fu [some s] 0 p' b [] H1 v (h.fr e3 (fun q hq => by omega)) hB1 (hV.fr e3 (by omega)) e2 hw (by rw [seqO, hb]; simp [seqO]) (by simp; omega)
  rw [List.nil_append] at f2
  unfold jF_Mo_encode
  rw [qok h.1, Option.bind_some, qgR h.1 rfl, Option.bind_some, e1', Option.bind_some]
  exact ⟨H2, f1, f2, f3, (e3.up (fun q hq => Or.inr (Or.inr hq))).tr f4⟩
end MEnc
