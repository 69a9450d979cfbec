/-! The reference's span: where a value ends. -/
def MVal (H : zH) (xs : List Int64) : Prop := ∃ f, AJ H 43 24 f ∧ ∀ i, i < xs.length → f i = xs.getD i 0
theorem MVal.fr {H H' : zH} {xs : List Int64} {A : Nat → Prop} (h : MVal H xs) (hF : Fr H H' A) (hA : ¬ A 43) : MVal H' xs := by
  obtain ⟨f, a, b⟩ := h
  exact ⟨f, a.fr hF hA, b⟩
theorem MVal.at {H : zH} {xs : List Int64} {p : Nat} (h : MVal H xs) (hx : xs.length ≤ 24) (hp : p < xs.length) : zaL H (some 43) 2 (nI p) = some (xs.getD p 0) := by
  obtain ⟨f, a, b⟩ := h
  rw [qaL a (by omega) (by omega), b p hp]
def spA (fr : Nat) : Option Nat → Int32
  | none => -1
  | some n => nI n - nI fr
theorem seqP_app {g : Nat → Nat → Option (Nat × List Nat)} : ∀ (a b : List Nat) (p : Nat), seqP g (a ++ b) p = match seqP g a p with
    | none => none
    | some r => match seqP g b r.1 with
      | none => none
      | some t => some (t.1, r.2 ++ t.2) := by
  intro a
  induction a with
  | nil =>
    intro b p
    rw [List.nil_append, seqP]
    dsimp only
    cases seqP g b p with
    | none => rfl
    | some t => rfl
  | cons q a ih =>
    intro b p
    rw [List.cons_append, seqP, seqP]
    cases g q p with
    | none => rfl
    | some r =>
      dsimp only
      rw [ih]
      cases seqP g a r.1 with
      | none => rfl
      | some t =>
        dsimp only
        cases seqP g b t.1 with
        | none => rfl
        | some z => simp only [List.append_assoc]
/-- a schema on the stack in place of which others came -/
theorem seqP_fst {g : Nat → Nat → Option (Nat × List Nat)} {s p q : Nat} {a l : List Nat} (h : (g s p).map Prod.fst = (seqP g a q).map Prod.fst) : (seqP g (s :: l) p).map Prod.fst = (seqP g (a ++ l) q).map Prod.fst := by
  rw [seqP_app, seqP]
  cases h1 : g s p with
  | none =>
    rw [h1] at h
    cases h2 : seqP g a q with
    | none => rfl
    | some t => rw [h2] at h; cases h
  | some r =>
    rw [h1] at h
    cases h2 : seqP g a q with
    | none => rw [h2] at h; cases h
    | some t =>
      rw [h2] at h
      have h3 : r.1 = t.1 := by injection h
      dsimp only
      rw [h3]
      cases seqP g l t.1 with
      | none => rfl
      | some z => rfl
theorem MSt.nil {H : zH} {T : yT} {l : List (Option Nat)} (h : MSt H T l) : MSt H T [] := by
  obtain ⟨f, a, -⟩ := h
  exact ⟨f, a, True.intro⟩
section Span
variable {v : Nat → Int32} {T : yT} {P : List yF} {xs : List Int64} {fu : Nat}
abbrev k5T : Type := Option Nat → Int32 → Int32 → Int32 → Int32 → zH → Option (Int32 × zH)
theorem Mo_spanI {k13 : k5T} {s c : Nat} {a2 a3 a5 : Int32} (hT : TOk T) (hp : TPos T) (hs : s < T.length) (h5 : kd T s = 5) (hc : c ≤ 3) {l : List (Option Nat)} (hl : l.length + 1 + 3 * dp T s ≤ 64) : ∀ (m i g : Nat) (H : zH), i + m = c → m < g → MSB H v T P → MSt H T ((List.replicate i (sA T s)).map some ++ l) →
    ∃ H', jL_Mo_span_171 fu k13 g (some 24) a2 a3 (nI l.length) a5 (nI s) (lN c) (nI i) H = k13 (some 24) a2 a3 (nI ((List.replicate c (sA T s)).map some ++ l).length) a5 H' ∧ MSt H' T ((List.replicate c (sA T s)).map some ++ l) ∧ Fr H H' (fun q => q = 44) := by
  obtain ⟨t1, t2, t3, t4, t5, t6, t7, t8⟩ := hT.2 s hs
  have t6' := t6 h5
  intro m
  induction m with
  | zero =>
    intro i g H h1 h2 h hS
    obtain ⟨q, rfl⟩ : ∃ q, g = q + 1 := ⟨g - 1, by omega⟩
    have : i = c := by omega
    subst this
    rw [jL_Mo_span_171, lN_i, if_pos (nI_le (Nat.le_refl _) (by omega)), nI_add, List.length_append, List.length_map, List.length_replicate, Nat.add_comm l.length]
    exact ⟨H, rfl, hS, Fr.rf⟩
  | succ m ih =>
    intro i g H h1 h2 h hS
    obtain ⟨q, rfl⟩ : ∃ q, g = q + 1 := ⟨g - 1, by omega⟩
    have hlen : ((List.replicate i (sA T s)).map some ++ l).length = l.length + i := by
      rw [List.length_append, List.length_map, List.length_replicate, Nat.add_comm]
    obtain ⟨H1, e1, e2, e3⟩ := hS.push (q := some (sA T s)) (by
      show _ + 3 * dp T _ ≤ 64
      rw [hlen]; omega) (fun x hx => by cases hx; omega)
    rw [hlen] at e1
    have e1' : zsI H (some 44) 0 (nI (l.length + i)) (nI (sA T s)) = some H1 := e1
    rw [jL_Mo_span_171, lN_i, if_neg (nI_ge (by omega) (by omega)), qgR h.1 rfl, Option.bind_some, qgR h.1 rfl, Option.bind_some, h.a hT.1 hs, Option.bind_some, nI_add, pA_nI ((hp s hs).1 h5), e1', Option.bind_some, nI_1]
    obtain ⟨H2, f1, f2, f3⟩ := ih (i + 1) q H1 (by omega) (by omega) (h.fr e3 (fun q hq => by omega)) (by
      rw [List.replicate_succ]
      exact e2)
    exact ⟨H2, f1, f2, e3.tr f3⟩
theorem Mo_spanL (hT : TOk T) (hp : TPos T) (hxs : xs.length ≤ 24) (hfu : 5 ≤ fu) {fr : Nat} : ∀ (g : Nat) (st : List Nat) (p : Nat) (H : zH), MSB H v T P → MVal H xs → MSt H T (st.map some) → p ≤ xs.length → wS T (st.map some) < g →
    ∃ H', jL_Mo_span_13 fu g (some 24) (nI fr) (nI xs.length) (nI st.length) (nI p) H = some (spA fr ((seqP (encP T xs 7) st p).map Prod.fst), H') ∧ MSt H' T [] ∧ Fr H H' (fun q => q = 44) := by
  intro g
  induction g with
  | zero => intro st p H _ _ _ _ h; omega
  | succ g ih =>
    intro st p H h hV hS hpx hw
    cases st with
    | nil =>
      rw [jL_Mo_span_13, if_pos (show nI ([] : List Nat).length ≤ 0 by decide)]
      exact ⟨H, rfl, hS.nil, Fr.rf⟩
    | cons s l =>
      have hS' : MSt H T (some s :: l.map some) := hS
      have hok := hS'.ok
      have hs := hok.2 s rfl
      have hh : (l.map some).length + 1 + 3 * dp T s ≤ 64 := hok.1
      have hll : (l.map (some : Nat → Option Nat)).length = l.length := List.length_map ..
      obtain ⟨t1, t2, t3, t4, t5, t6, t7, t8⟩ := hT.2 s hs
      have hpop := hS'.pop
      have htop := hS'.top
      rw [hll] at htop
      have htop' : zaI H (some 44) 0 (nI l.length) = some (nI s) := htop
      have hw' : wd (dp T s) + wS T (l.map some) < g + 1 := hw
      have hwp := wd_pos (dp T s)
      rw [jL_Mo_span_13, show (s :: l).length = l.length + 1 from rfl, if_neg (nI_nle (by omega) (by omega)), qgR h.1 rfl, Option.bind_some, pk_m1, htop', Option.bind_some, qgR h.1 rfl, Option.bind_some, h.k hT.1 hs, Option.bind_some, li7, if_eqN (by omega) (by omega)]
      -- others in its place
      have go : ∀ (a : List Nat) (q : Nat) (H1 : zH), Fr H H1 (fun q => q = 44) → MSt H1 T (a.map some ++ l.map some) → (encP T xs 7 s p).map Prod.fst = (seqP (encP T xs 7) a q).map Prod.fst → q ≤ xs.length → wS T (a.map some) < wd (dp T s) →
          ∃ H', jL_Mo_span_13 fu g (some 24) (nI fr) (nI xs.length) (nI (a.map some ++ l.map some).length) (nI q) H1 = some (spA fr ((seqP (encP T xs 7) (s :: l) p).map Prod.fst), H') ∧ MSt H' T [] ∧ Fr H H' (fun q => q = 44) := by
        intro a q H1 F hS1 he hq hwa
        obtain ⟨H2, f1, f0, f2⟩ := ih (a ++ l) q H1 (h.fr F (fun q hq => by omega)) (hV.fr F (by omega)) (by rw [List.map_append]; exact hS1) hq (by rw [List.map_append, wS_app]; omega)
        rw [seqP_fst he, ← List.map_append, List.length_map]
        exact ⟨H2, f1, f0, F.tr f2⟩
      have heq := encP_eq (xs := xs) (p := p) hT hs
      by_cases h7 : kd T s = 7
      · rw [if_neg (by omega), if_pos h7] at heq
        rw [if_pos h7]
        obtain ⟨H1, e1, e2, e3⟩ := Mo_come (fu := fu) hT hs hh h hpop hfu
        rw [hll] at e1
        rw [e1, Option.bind_some]
        exact go (subs T s) p H1 e3 e2 (by rw [heq]) hpx (by
          have := (wS_in (T := T) (s := s) (l := subs T s) (by rw [subs_len]; exact t4) (fun q hq => by have h1 := subs_mem hT hs hq; have h2 := (hT.2 q (by omega)).2.1; omega)).1
          omega)
      · rw [if_neg h7, if_0N (by omega)]
        by_cases h0 : kd T s = 0
        · rw [if_pos h0] at heq
          rw [if_pos h0]
          have := go [] p H Fr.rf hpop (by rw [heq]; rfl) hpx (by show 0 < _; omega)
          rw [List.map_nil, List.nil_append, hll] at this
          exact this
        · rw [if_neg h0, if_neg h7] at heq
          rw [if_neg h0, if_ltN (by omega) (by omega)]
          by_cases hlt : p < xs.length
          · rw [if_neg (by omega)] at heq
            rw [if_pos hlt, qgR h.1 rfl, Option.bind_some, hV.at hxs hlt, Option.bind_some, li6, if_eqN (by omega) (by omega), nI_1]
            generalize xs.getD p 0 = x at heq
            by_cases h6 : kd T s = 6
            · have t7' := t7 h6
              have hps := (hp s hs).2 h6
              rw [if_neg (by omega), if_pos h6] at heq
              rw [if_pos h6]
              have key : ∀ (H0 : zH), H0 = H → (x = 0 ∨ x = 1) → ∃ H', jJ_Mo_span_107 fu (fun x0 x1 x2 x3 x4 x5 => jL_Mo_span_13 fu g x0 x1 x2 x3 x4 x5) (some 24) (nI fr) (nI xs.length) (nI l.length) (nI (p + 1)) (nI s) x H0 = some (spA fr ((seqP (encP T xs 7) (s :: l) p).map Prod.fst), H') ∧ MSt H' T [] ∧ Fr H H' (fun q => q = 44) := by
                intro H0 hH0 hx
                subst hH0
                rw [if_pos hx] at heq
                unfold jJ_Mo_span_107 jJ_Mo_span_137
                have pu : ∀ c, c < s → dp T c < dp T s → (if x = 0 then sA T s else sB T s) = c → ∃ H', ((zsI H0 (some 44) 0 (nI l.length) (nI c)).bind fun H137 => jL_Mo_span_13 fu g (some 24) (nI fr) (nI xs.length) (nI l.length + 1) (nI (p + 1)) H137) = some (spA fr ((seqP (encP T xs 7) (s :: l) p).map Prod.fst), H') ∧ MSt H' T [] ∧ Fr H0 H' (fun q => q = 44) := by
                  intro c hc hd he
                  rw [he] at heq
                  obtain ⟨H1, e1, e2, e3⟩ := hpop.push (q := some c) (by show _ + 3 * dp T c ≤ 64; omega) (fun y hy => by cases hy; omega)
                  rw [hll] at e1
                  have e1' : zsI H0 (some 44) 0 (nI l.length) (nI c) = some H1 := e1
                  rw [e1', Option.bind_some, nI_1]
                  have := go [c] (p + 1) H1 e3 e2 (by
                    rw [heq, seqP]
                    cases encP T xs 7 c (p + 1) with
                    | none => rfl
                    | some r => rfl) (by omega) (by
                    have := (wS_in (T := T) (s := s) (l := [c]) (by simp) (fun q hq => by
                      have : q = c := by simpa using hq
                      subst this
                      exact ⟨(hT.2 q (by omega)).2.1, hd⟩)).1
                    omega)
                  rw [List.length_append, hll] at this
                  rw [List.length_map, show [c].length = 1 from rfl, Nat.add_comm 1] at this
                  exact this
                rw [qgR h.1 rfl, Option.bind_some]
                by_cases c0 : x = 0
                · rw [if_pos c0, qgR h.1 rfl, Option.bind_some, h.a hT.1 hs, Option.bind_some, pA_nI hps.1]
                  exact pu _ t7'.1 t7'.2.2.1 (if_pos c0)
                · rw [if_neg c0, qgR h.1 rfl, Option.bind_some, h.b hT.1 hs, Option.bind_some, pB_nI hps.2]
                  exact pu _ t7'.2.1 t7'.2.2.2.1 (if_neg c0)
              by_cases c0 : x = 0
              · rw [if_pos c0]; exact key H rfl (Or.inl c0)
              · rw [if_neg c0]
                by_cases c1 : x = 1
                · rw [if_pos c1]; exact key H rfl (Or.inr c1)
                · rw [if_neg c1]
                  rw [if_neg (show ¬ (x = 0 ∨ x = 1) by rintro (q | q); exact c0 q; exact c1 q)] at heq
                  refine ⟨H, ?_, hS.nil, Fr.rf⟩
                  rw [seqP, heq]; rfl
            · rw [if_neg h6, li5, if_eqN (by omega) (by omega)]
              by_cases h5 : kd T s = 5
              · have t6' := t6 h5
                rw [if_pos h5] at heq
                rw [if_pos h5]
                by_cases c1 : x < 0
                · rw [if_pos (Or.inl c1)] at heq
                  rw [if_pos c1]
                  refine ⟨H, ?_, hS.nil, Fr.rf⟩
                  rw [seqP, heq]; rfl
                · rw [if_neg c1]
                  by_cases c2 : x ≤ 3
                  · rw [if_neg (by rintro (q | q); exact c1 q; exact q c2)] at heq
                    rw [if_pos c2]
                    obtain ⟨c, hc, hcx⟩ : ∃ c : Nat, c ≤ 3 ∧ x = lN c := by
                      rcases i64_03 c1 c2 with q | q | q | q
                      · exact ⟨0, by omega, q⟩
                      · exact ⟨1, by omega, q⟩
                      · exact ⟨2, by omega, q⟩
                      · exact ⟨3, by omega, q⟩
                    subst hcx
                    rw [lN_i, nI_clamp (by omega)] at heq
                    obtain ⟨H1, e1, e2, e3⟩ := Mo_spanI (fu := fu) (k13 := fun x0 x1 x2 x3 x4 x5 => jL_Mo_span_13 fu g x0 x1 x2 x3 x4 x5) (a2 := nI fr) (a3 := nI xs.length) (a5 := nI (p + 1)) hT hp hs h5 hc hh c 0 fu H (by omega) (by omega) h hpop
                    rw [hll, nI_0] at e1
                    rw [e1]
                    exact go (List.replicate c (sA T s)) (p + 1) H1 e3 e2 (by
                      rw [heq]
                      cases seqP (encP T xs 7) (List.replicate c (sA T s)) (p + 1) with
                      | none => rfl
                      | some r => rfl) (by omega) (by
                      have := (wS_in (T := T) (s := s) (l := List.replicate c (sA T s)) (by rw [List.length_replicate]; exact hc) (fun q hq => by
                        have := List.eq_of_mem_replicate hq
                        subst this
                        exact ⟨(hT.2 _ (by omega)).2.1, t6'.2⟩)).1
                      omega)
                  · rw [if_pos (Or.inr c2)] at heq
                    rw [if_neg c2]
                    refine ⟨H, ?_, hS.nil, Fr.rf⟩
                    rw [seqP, heq]; rfl
              · rw [if_neg h5, if_neg h6] at heq
                rw [if_neg h5, Mo_scalar h hT hs (by omega), Option.bind_some, if_bI]
                cases hv : isVal T s x with
                | false =>
                  rw [hv, if_neg Bool.false_ne_true] at heq
                  rw [if_neg Bool.false_ne_true]
                  refine ⟨H, ?_, hS.nil, Fr.rf⟩
                  rw [seqP, heq]; rfl
                | true =>
                  rw [hv, if_pos rfl] at heq
                  rw [if_pos rfl]
                  have := go [] (p + 1) H Fr.rf hpop (by rw [heq]; rfl) (by omega) (by show 0 < _; omega)
                  rw [List.map_nil, List.nil_append, hll] at this
                  exact this
          · rw [if_pos (by omega)] at heq
            rw [if_neg hlt]
            refine ⟨H, ?_, hS.nil, Fr.rf⟩
            rw [seqP, heq]; rfl
theorem Mo_span (hT : TOk T) (hp : TPos T) (hxs : xs.length ≤ 24) (hfu : 500 ≤ fu) {fr s : Nat} (hs : s < T.length) (hfr : fr ≤ xs.length) {H : zH} (h : MSB H v T P) (hV : MVal H xs) (hS : ∃ l, MSt H T l) :
    ∃ H', jF_Mo_span fu (some 24) (nI s) (nI fr) (nI xs.length) H = some (spA fr ((encP T xs 7 s fr).map Prod.fst), H') ∧ (∃ l, MSt H' T l) ∧ Fr H H' (fun q => q = 44) := by
  obtain ⟨l, f, a, -⟩ := hS
  obtain ⟨t1, t2, t3, t4, t5, t6, t7, t8⟩ := hT.2 s hs
  have hS0 : MSt H T [] := ⟨f, a, True.intro⟩
  obtain ⟨H1, e1, e2, e3⟩ := hS0.push (q := some s) (by show 0 + 1 + 3 * dp T s ≤ 64; omega) (fun y hy => by cases hy; exact hs)
  have e1' : zsI H (some 44) 0 0 (nI s) = some H1 := e1
  have hw : wS T ([s].map some) < fu := by
    have : wd (dp T s) ≤ wd 6 := wd_mono _ _ t3
    have h6 : wd 6 = 485 := rfl
    show wd (dp T s) + 0 < fu
    omega
  obtain ⟨H2, f1, f0, f2⟩ := Mo_spanL (fu := fu) (fr := fr) hT hp hxs (by omega) fu [s] fr H1 (h.fr e3 (fun q hq => by omega)) (hV.fr e3 (by omega)) e2 hfr hw
  have hq : (seqP (encP T xs 7) [s] fr).map Prod.fst = (encP T xs 7 s fr).map Prod.fst := by
    rw [seqP]
    cases encP T xs 7 s fr with
    | none => rfl
    | some r => rfl
  rw [hq] at f1
  unfold jF_Mo_span
  rw [qok h.1, Option.bind_some, qgR h.1 rfl, Option.bind_some, e1', Option.bind_some]
  have f1' : jL_Mo_span_13 fu fu (some 24) (nI fr) (nI xs.length) 1 (nI fr) H1 = some (spA fr ((encP T xs 7 s fr).map Prod.fst), H2) := f1
  exact ⟨H2, f1', ⟨[], f0⟩, e3.tr f2⟩
end Span
