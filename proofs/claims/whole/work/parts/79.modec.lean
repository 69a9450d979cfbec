/-! The reference reads a coded record back. -/
theorem encP_inv7 {T : yT} {xs : List Int64} {s p p' : Nat} {b : List Nat} (hT : TOk T) (hs : s < T.length) (h : encP T xs 7 s p = some (p', b)) : EnW T xs (encP T xs 7) s p p' b := by
  obtain ⟨t1, t2, t3, t4, t5, t6, t7, t8⟩ := hT.2 s hs
  have hup : ∀ q, q < T.length → dp T q < dp T s → ∀ p r, encP T xs 6 q p = some r → encP T xs 7 q p = some r := by
    intro q hq hd p r hh
    rw [← encP_up hT 6 q p hq (by omega)]
    exact hh
  rcases encP_inv h with ⟨h0, rfl, rfl⟩ | ⟨h7, k⟩ | ⟨h5, hp, c, b', hc, hx, k, rfl⟩ | ⟨h6, hp, hx, b', k, rfl⟩ | ⟨h1, h4, hp, hv, rfl, rfl⟩
  · exact Or.inl ⟨h0, rfl, rfl⟩
  · exact Or.inr (Or.inl ⟨h7, seqP_mono _ _ _ (fun q hq p r hh => by have := subs_mem hT hs hq; exact hup q (by omega) this.2 p r hh) k⟩)
  · refine Or.inr (Or.inr (Or.inl ⟨h5, hp, c, b', hc, hx, seqP_mono _ _ _ (fun q hq p r hh => ?_) k, rfl⟩))
    have e := List.eq_of_mem_replicate hq
    have := t6 h5
    subst e
    exact hup _ (by omega) this.2 p r hh
  · refine Or.inr (Or.inr (Or.inr (Or.inl ⟨h6, hp, hx, b', ?_, rfl⟩)))
    have := t7 h6
    refine hup _ ?_ ?_ _ _ k
    · split <;> omega
    · split <;> omega
  · exact Or.inr (Or.inr (Or.inr (Or.inr ⟨h1, h4, hp, hv, rfl, rfl⟩)))
def MVp (H : zH) (xs : List Int64) (p : Nat) : Prop := ∃ f, AJ H 43 24 f ∧ ∀ i, i < p → f i = xs.getD i 0
theorem MVp.fr {H H' : zH} {xs : List Int64} {p : Nat} {A : Nat → Prop} (h : MVp H xs p) (hF : Fr H H' A) (hA : ¬ A 43) : MVp H' xs p := by
  obtain ⟨f, a, b⟩ := h
  exact ⟨f, a.fr hF hA, b⟩
abbrev A3d : Nat → Prop := fun q => q = 24 ∨ q = 43 ∨ q = 44
section MD
variable {T : yT} {P : List yF} {D : yD} {xs xs0 fo : List Int64} {g0 : Nat × Nat × List Nat} {fu : Nat}
theorem MRv.st {H H' : zH} {v : Nat → Int32} {W : yW} {l : List (Option Nat)} (h : MRv H v W) (hF : Fr H H' (fun q => q = 44)) (hS : MSt H' T l) : MRv H' v W :=
  h.scr hF (fun q hq => by omega) (h.m.fr hF (by omega)) vE.rf (h.2.2.2.2.2.2.any hF (fun q => by omega) (fun q => by omega) (fun q => by omega) (fun _ => by obtain ⟨f, a, -⟩ := hS; exact ⟨f, a⟩) (fun q => by omega))
theorem MVp.put {H : zH} {v : Nat → Int32} {W : yW} {p : Nat} {x : Int64} (h : MRv H v W) (hV : MVp H xs p) (hxs : xs.length ≤ 24) (hp : p < xs.length) (hx : x = xs.getD p 0) : ∃ H', zsL H (some 43) 2 (nI p) x = some H' ∧ MRv H' v W ∧ MVp H' xs (p + 1) ∧ Fr H H' (fun q => q = 43) := by
  obtain ⟨f, a, b⟩ := hV
  have F1 : Fr H (zset H 43 (.inl (2, 24, .inr (.inl (va_up f p x))))) (fun q => q = 43) := Fr.set rfl
  have a1 : AJ (zset H 43 (.inl (2, 24, .inr (.inl (va_up f p x))))) 43 24 (va_up f p x) := zgo_set_same a
  refine ⟨_, qsL a (by omega) (by omega), h.scr F1 (fun q hq => by omega) (h.m.fr F1 (by omega)) vE.rf (h.2.2.2.2.2.2.any F1 (fun q => by omega) (fun q => by omega) (fun _ => ⟨_, a1⟩) (fun q => by omega) (fun q => by omega)), ⟨_, a1, fun i hi => ?_⟩, F1⟩
  by_cases hip : i = p
  · subst hip; rw [zup_same]; exact hx
  · rw [zup_ne hip]; exact b i (by omega)
theorem Mo_symL {H : zH} {A : Int32} {y : Nat} (hy : y < 8) (hb : (A >>> (nI y &&& 31)) &&& 1 = 1) (hfu : 9 ≤ fu) : ∀ (k j g : Nat), j + k = y → k < g → jL_Mo_symbol_2 fu H g A (nI (rk A y)) (nI j) = some (nI y) := by
  have hr := rk_le A y
  intro k
  induction k with
  | zero =>
    intro j g h1 h2
    obtain ⟨q, rfl⟩ : ∃ q, g = q + 1 := ⟨g - 1, by omega⟩
    have : j = y := by omega
    subst this
    rw [jL_Mo_symbol_2, li7, if_leN (by omega) (by omega)]
    by_cases h7 : 7 ≤ j
    · rw [if_pos h7]
    · rw [if_neg h7, Mo_below (by omega) (by omega), Option.bind_some, if_pos rfl, if_neg (by rw [hb]; decide)]
  | succ k ih =>
    intro j g h1 h2
    obtain ⟨q, rfl⟩ : ∃ q, g = q + 1 := ⟨g - 1, by omega⟩
    have hj := rk_le A j
    have ih' := ih (j + 1) q (by omega) (by omega)
    rw [jL_Mo_symbol_2, li7, if_leN (by omega) (by omega), if_neg (by omega), Mo_below (by omega) (by omega), Option.bind_some, if_eqN (by omega) (by omega), nI_1]
    by_cases he : rk A j = rk A y
    · rw [if_pos he]
      by_cases hb2 : (A >>> (nI j &&& 31)) &&& 1 = 0
      · rw [if_pos hb2]; exact ih'
      · have hb3 : (A >>> (nI j &&& 31)) &&& 1 = 1 := by
          rcases and1 (A >>> (nI j &&& 31)) with q | q
          · exact absurd q hb2
          · exact q
        have := rk_ne hb3 (show j < y by omega)
        omega
    · rw [if_neg he]; exact ih'
theorem Mo_sym {H : zH} {A : Int32} {y : Nat} (hy : y < 8) (hb : (A >>> (nI y &&& 31)) &&& 1 = 1) (hfu : 9 ≤ fu) : jF_Mo_symbol fu A (nI (rk A y)) H = some (nI y) := Mo_symL hy hb hfu y 0 fu (by omega) (by omega)
abbrev k4D : Type := Option Nat → Int32 → Int32 → zH → Option (Int32 × zH)
theorem Mo_decI {k11 : k4D} {v : Nat → Int32} {s c : Nat} {a3 : Int32} (hT : TOk T) (hp : TPos T) (hs : s < T.length) (h5 : kd T s = 5) (hc : c ≤ 3) {l : List (Option Nat)} (hl : l.length + 3 * dp T s ≤ 64) : ∀ (m i g : Nat) (H : zH), i + m = c → m < g → MSB H v T P → MSt H T ((List.replicate i (sA T s)).map some ++ l) →
    ∃ H', jL_Mo_decode_230 fu k11 g (some 24) (nI l.length) a3 (nI s) (lN c) (nI i) H = k11 (some 24) (nI ((List.replicate c (sA T s)).map some ++ l).length) a3 H' ∧ MSt H' T ((List.replicate c (sA T s)).map some ++ l) ∧ Fr H H' (fun q => q = 44) := by
  obtain ⟨t1, t2, t3, t4, t5, t6, t7, t8⟩ := hT.2 s hs
  have t6' := t6 h5
  intro m
  induction m with
  | zero =>
    intro i g H h1 h2 h hS
    obtain ⟨q, rfl⟩ : ∃ q, g = q + 1 := ⟨g - 1, by omega⟩
    have : i = c := by omega
    subst this
    rw [jL_Mo_decode_230, lN_i, if_pos (nI_le (Nat.le_refl _) (by omega)), nI_add, List.length_append, List.length_map, List.length_replicate, Nat.add_comm l.length]
    exact ⟨H, rfl, hS, Fr.rf⟩
  | succ m ih =>
    intro i g H h1 h2 h hS
    obtain ⟨q, rfl⟩ : ∃ q, g = q + 1 := ⟨g - 1, by omega⟩
    have hlen : ((List.replicate i (sA T s)).map some ++ l).length = l.length + i := by
      rw [List.length_append, List.length_map, List.length_replicate, Nat.add_comm]
    obtain ⟨H1, e1, e2, e3⟩ := hS.push (q := some (sA T s)) (by
      show _ + 3 * dp T _ ≤ 64
      rw [hlen]; omega) (fun x hx => by cases hx; omega)
    rw [hlen] at e1
    have e1' : zsI H (some 44) 0 (nI (l.length + i)) (nI (sA T s)) = some H1 := e1
    rw [jL_Mo_decode_230, lN_i, if_neg (nI_ge (by omega) (by omega)), qgR h.1 rfl, Option.bind_some, qgR h.1 rfl, Option.bind_some, h.a hT.1 hs, Option.bind_some, nI_add, pA_nI ((hp s hs).1 h5), e1', Option.bind_some, nI_1]
    obtain ⟨H2, f1, f2, f3⟩ := ih (i + 1) q H1 (by omega) (by omega) (h.fr e3 (fun q hq => by omega)) (by
      rw [List.replicate_succ]
      exact e2)
    exact ⟨H2, f1, f2, e3.tr f3⟩
theorem seqO_cons {s p p' : Nat} {l : List (Option Nat)} {b : List Nat} (h : seqO T xs (some s :: l) p = some (p', b)) : ∃ p1 b1 b2, encP T xs 7 s p = some (p1, b1) ∧ seqO T xs l p1 = some (p', b2) ∧ b = b1 ++ b2 := by
  rw [seqO] at h
  cases hg : encP T xs 7 s p with
  | none => rw [hg] at h; cases h
  | some t =>
    rw [hg] at h
    obtain ⟨b', k1, k2⟩ := map_pre h
    exact ⟨t.1, t.2, b', rfl, k1, k2⟩
theorem seqO_mk {a : List Nat} {p p1 p' : Nat} {l : List (Option Nat)} {b1 b2 : List Nat} (h : seqP (encP T xs 7) a p = some (p1, b1)) (h2 : seqO T xs l p1 = some (p', b2)) : seqO T xs (a.map some ++ l) p = some (p', b1 ++ b2) := by
  rw [seqO_app, h]
  dsimp only
  rw [h2]
  rfl
theorem Mo_decL (hT : TOk T) (hE : TEn T) (hp : TPos T) (hxs : xs.length ≤ 24) (hfu : 12 ≤ fu) : ∀ (g : Nat) (st : List (Option Nat)) (p p' a : Nat) (b : List Nat) (H : zH) (v : Nat → Int32), MRv H v (T, P, D, xs0, g0, fo) → v 33 = nI a → MVp H xs p → MSt H T st → wS T st < g → seqO T xs st p = some (p', b) → p ≤ xs.length → onD D.2.2.2 a b → a + b.length ≤ 1280 →
    ∃ H' v', jL_Mo_decode_11 fu g (some 24) (nI st.length) (nI p) H = some (nI p', H') ∧ MRv H' v' (T, P, D, xs0, g0, fo) ∧ v' 33 = nI (a + b.length) ∧ MVp H' xs p' ∧ MSt H' T [] ∧ Fr H H' A3d := by
  intro g
  induction g with
  | zero => intro st p p' a b H v _ _ _ _ h; omega
  | succ g ih =>
    intro st p p' a b H v h hv hV hS hw hq hpl ho ha
    cases st with
    | nil =>
      cases hq
      rw [jL_Mo_decode_11, if_pos (show nI ([] : List (Option Nat)).length ≤ 0 by decide)]
      exact ⟨H, v, rfl, h, hv, hV, hS, Fr.rf⟩
    | cons o l =>
      have hok := hS.ok
      have hpop := hS.pop
      have htop := hS.top
      have hw' : wO T o + wS T l < g + 1 := hw
      have hz33 : ∀ {K : zH} {u : Nat → Int32} {c : Nat}, MRv K u (T, P, D, xs0, g0, fo) → u 33 = nI c → zgI K (some 24) 1 33 = some (nI c) := fun hK hu => by rw [← hu]; exact qgI hK.m rfl
      rw [jL_Mo_decode_11, show (o :: l).length = l.length + 1 from rfl, if_neg (nI_nle (by omega) (by omega)), qgR h.m rfl, Option.bind_some, pk_m1, htop, Option.bind_some]
      -- others in its place, some bytes read
      have go : ∀ (st' : List (Option Nat)) (q : Nat) (c b' : List Nat) (H1 : zH) (v1 : Nat → Int32), MRv H1 v1 (T, P, D, xs0, g0, fo) → v1 33 = nI (a + c.length) → MVp H1 xs q → MSt H1 T st' → Fr H H1 A3d → wS T st' < g → seqO T xs st' q = some (p', b') → q ≤ xs.length → b = c ++ b' →
          ∃ H' v', jL_Mo_decode_11 fu g (some 24) (nI st'.length) (nI q) H1 = some (nI p', H') ∧ MRv H' v' (T, P, D, xs0, g0, fo) ∧ v' 33 = nI (a + b.length) ∧ MVp H' xs p' ∧ MSt H' T [] ∧ Fr H H' A3d := by
        intro st' q c b' H1 v1 h1 hv1 hV1 hS1 F hw1 hq1 hql hb
        subst hb
        rw [List.length_append] at ha
        obtain ⟨H2, v2, f1, f2, f3, f4, f5, f6⟩ := ih st' q p' (a + c.length) b' H1 v1 h1 hv1 hV1 hS1 hw1 hq1 hql ho.r (by omega)
        exact ⟨H2, v2, f1, f2, by rw [f3, List.length_append, Nat.add_assoc], f4, f5, F.tr f6⟩
      cases o with
      | none =>
        have hw1 : wO T (none : Option Nat) = 1 := rfl
        obtain ⟨b', hq1, hb⟩ := map_pre (c := [0]) hq
        show ∃ H' v', (if (0 : Int32) ≤ -1 then _ else _) = some (nI p', H') ∧ _
        rw [if_neg (show ¬ (0 : Int32) ≤ -1 by decide)]
        unfold jJ_Mo_decode_42
        obtain ⟨H1, e1, e2, e3⟩ := Mo_curs (x := nI (a + 1)) h
        rw [if_neg (show ¬ (0 : Int32) ≤ -1 by decide), hz33 h hv, Option.bind_some, nI_1, e1, Option.bind_some]
        exact go l p [0] b' H1 _ e2 zup_same (hV.fr e3 (by omega)) (hpop.fr e3 (by omega)) (e3.up (fun q hq => Or.inl hq)) (by omega) hq1 hpl hb
      | some s =>
        have hs := hok.2 s rfl
        have hh : l.length + 1 + 3 * dp T s ≤ 64 := hok.1
        obtain ⟨t1, t2, t3, t4, t5, t6, t7, t8⟩ := hT.2 s hs
        have hwp := wd_pos (dp T s)
        have hwo : wO T (some s) = wd (dp T s) := rfl
        have hpos : (0 : Int32) ≤ limI (some s) := nI_pos' (by have := hT.1; omega)
        have hkk : zaI H (some 25) 0 (limI (some s)) = some (nI (kd T s)) := h.1.k hT.1 hs
        rw [if_pos hpos, qgR h.m rfl, Option.bind_some, hkk, Option.bind_some]
        show ∃ H' v', jJ_Mo_decode_42 fu _ (nI (kd T s)) (some 24) (nI l.length) (nI p) (nI s) H = some (nI p', H') ∧ _
        unfold jJ_Mo_decode_42
        rw [if_pos (nI_pos' (by omega)), li7, if_eqN (by omega) (by omega)]
        obtain ⟨p1, b1, b2, henc, hq2, hb⟩ := seqO_cons hq
        have hinv := encP_inv7 hT hs henc
        have hbd := encP_bd 7 s p p1 b1 hpl henc
        have ho1 : onD D.2.2.2 a b1 := by rw [hb] at ho; exact ho.l
        have ha1 : a + b1.length + b2.length ≤ 1280 := by rw [hb, List.length_append] at ha; omega
        by_cases h7 : kd T s = 7
        · rw [if_pos h7]
          have k : seqP (encP T xs 7) (subs T s) p = some (p1, b1) := by
            rcases hinv with q | q | q | q | q
            · omega
            · exact q.2
            · omega
            · omega
            · omega
          obtain ⟨H1, e1, e2, e3⟩ := Mo_come (fu := fu) hT hs hh h.1 hpop (by omega)
          rw [e1, Option.bind_some]
          dsimp only
          have hwi := (wS_in (T := T) (s := s) (l := subs T s) (by rw [subs_len]; exact t4) (fun q hq => by have h1 := subs_mem hT hs hq; have h2 := (hT.2 q (by omega)).2.1; omega)).1
          exact go _ p [] b H1 v (h.st e3 e2) hv (hV.fr e3 (by omega)) e2 (e3.up (fun q hq => Or.inr (Or.inr hq))) (by rw [wS_app]; omega) (by rw [hb]; exact seqO_mk k hq2) hpl rfl
        · rw [if_neg h7, if_0N (by omega)]
          by_cases h0 : kd T s = 0
          · rw [if_pos h0]
            dsimp only
            have k : p1 = p ∧ b1 = [] := by
              rcases hinv with q | q | q | q | q
              · exact q.2
              · omega
              · omega
              · omega
              · omega
            rw [k.1] at hq2
            rw [k.2, List.nil_append] at hb
            exact go l p [] b H v h hv hV hpop Fr.rf (by omega) (by rw [hb]; exact hq2) hpl rfl
          · rw [if_neg h0, li1, if_eqN (by omega) (by omega)]
            have hplt : p < xs.length := by
              rcases hinv with q | q | q | q | q
              · omega
              · omega
              · exact q.2.1
              · exact q.2.1
              · exact q.2.2.1
            by_cases h1 : kd T s = 1
            · rw [if_pos h1]
              have k : isVal T s (xs.getD p 0) = true ∧ p1 = p + 1 ∧ b1 = cod T s (xs.getD p 0) := by
                rcases hinv with q | q | q | q | q
                · omega
                · omega
                · omega
                · omega
                · exact q.2.2.2
              obtain ⟨k1, k2, k3⟩ := k
              have hcod : cod T s (xs.getD p 0) = [if xs.getD p 0 = 0 then 0 else 1] := by unfold cod; rw [if_pos h1]
              have hx : (nI (if xs.getD p 0 = 0 then 0 else 1)).toInt64 = xs.getD p 0 := by
                unfold isVal at k1
                rw [if_pos h1] at k1
                rcases of_decide_eq_true k1 with q | q <;> rw [q] <;> decide
              rw [hcod] at k3
              subst k3
              rw [List.length_singleton] at ha1
              have hd : zaI H (some 37) 0 (nI a) = some (nI (if xs.getD p 0 = 0 then 0 else 1)) := by
                rw [← ho1.hd]; exact Mo_dk h.2.2.1 (show a < 1280 by omega)
              obtain ⟨H1, e1, e2, e3⟩ := Mo_curs (x := nI (a + 1)) h
              obtain ⟨H2, f1, f2, f3, f4⟩ := MVp.put e2 (hV.fr e3 (by omega)) hxs hplt hx
              rw [qgR h.m rfl, Option.bind_some, hz33 h hv, Option.bind_some, hd, Option.bind_some]
              unfold jJ_Mo_decode_108
              rw [hz33 h hv, Option.bind_some, if_pos (show nI (kd T s) = 1 by rw [h1]; rfl)]
              unfold jJ_Mo_decode_126
              rw [nI_1, e1, Option.bind_some, qgR e2.m rfl, Option.bind_some, if_neg (show ¬ nI (kd T s) = 4 by rw [h1]; decide)]
              unfold jJ_Mo_decode_160
              rw [f1, Option.bind_some, if_neg (show ¬ nI (kd T s) = 6 by rw [h1]; decide)]
              unfold jJ_Mo_decode_204
              rw [if_neg (show ¬ nI (kd T s) = 5 by rw [h1]; decide), nI_1]
              dsimp only
              rw [k2] at hq2
              exact go l (p + 1) _ b2 H2 _ f2 zup_same f3 ((hpop.fr e3 (by omega)).fr f4 (by omega)) ((e3.up (fun q hq => Or.inl hq)).tr (f4.up (fun q hq => Or.inr (Or.inl hq)))) (by omega) hq2 (by omega) hb
            · rw [if_neg h1]
              -- a number z is read, y is kept; then the rest
              have num : ∀ (z y : Int64) (c b' : List Nat), (kd T s = 4 → ∃ w, w < 8 ∧ z.toInt32 = nI (rk (pA T s) w) ∧ (pA T s >>> (nI w &&& 31)) &&& 1 = 1 ∧ y = (nI w).toInt64) → (kd T s ≠ 4 → y = z) → y = xs.getD p 0 → b = c ++ b' → c = varB z →
                  (∀ (H2 : zH) (v2 : Nat → Int32), MRv H2 v2 (T, P, D, xs0, g0, fo) → v2 33 = nI (a + c.length) → MVp H2 xs (p + 1) → MSt H2 T l → Fr H H2 A3d → ∃ H' v', (if nI (kd T s) = (6 : Int32) then (
                      (zgR H2 (some 24) 1 31).bind fun v172 =>
                      if z = (0 : Int64) then (
                        (zgR H2 (some 24) 1 3).bind fun v184 =>
                        (zaI H2 v184 0 (nI s)).bind fun v189 =>
                        jJ_Mo_decode_200 fu (fun x0 x1 x2 x3 => jL_Mo_decode_11 fu g x0 x1 x2 x3) v189 (nI l.length) v172 (some 24) (nI l.length) (nI p + (1 : Int32)) (nI s) (nI (kd T s)) z H2)
                      else (
                        (zgR H2 (some 24) 1 4).bind fun v194 =>
                        (zaI H2 v194 0 (nI s)).bind fun v199 =>
                        jJ_Mo_decode_200 fu (fun x0 x1 x2 x3 => jL_Mo_decode_11 fu g x0 x1 x2 x3) v199 (nI l.length) v172 (some 24) (nI l.length) (nI p + (1 : Int32)) (nI s) (nI (kd T s)) z H2))
                    else (
                      jJ_Mo_decode_204 fu (fun x0 x1 x2 x3 => jL_Mo_decode_11 fu g x0 x1 x2 x3) (some 24) (nI l.length) (nI p + (1 : Int32)) (nI s) (nI (kd T s)) z H2)) = some (nI p', H') ∧ MRv H' v' (T, P, D, xs0, g0, fo) ∧ v' 33 = nI (a + b.length) ∧ MVp H' xs p' ∧ MSt H' T [] ∧ Fr H H' A3d) →
                  ∃ H' v', ((jF_Mo_varint fu (some 24) H).bind fun y105 => jJ_Mo_decode_108 fu (fun x0 x1 x2 x3 => jL_Mo_decode_11 fu g x0 x1 x2 x3) y105.1 (some 24) (nI l.length) (nI p) (nI s) (nI (kd T s)) y105.2) = some (nI p', H') ∧ MRv H' v' (T, P, D, xs0, g0, fo) ∧ v' 33 = nI (a + b.length) ∧ MVp H' xs p' ∧ MSt H' T [] ∧ Fr H H' A3d := by
                intro z y c b' hz4 hzn hyx hbc hcz rest
                subst hcz
                rw [hbc] at ho
                rw [hbc, List.length_append] at ha
                obtain ⟨H1, v1, e1, e2, e3, e4⟩ := Mo_var (fu := fu) h hv ho.l (by omega) (by omega)
                obtain ⟨H2, f1, f2, f3⟩ := Mo_curs (x := nI (a + (varB z).length)) e2
                have F2 : Fr H H2 (fun q => q = 24) := e4.tr f3
                obtain ⟨H3, k1, k2, k3, k4⟩ := MVp.put f2 (hV.fr F2 (by omega)) hxs hplt hyx
                rw [e1, Option.bind_some]
                dsimp only
                unfold jJ_Mo_decode_108
                rw [hz33 e2 e3, Option.bind_some, if_neg (show ¬ nI (kd T s) = (1 : Int32) from fun q => h1 ((kdI (n := 1) t1 (by omega)).mp q))]
                unfold jJ_Mo_decode_126
                rw [show nI (a + (varB z).length) + (0 : Int32) = nI (a + (varB z).length) by rw [li0, nI_add]; rfl, f1, Option.bind_some, qgR f2.m rfl, Option.bind_some]
                have rest' := rest H3 _ k2 zup_same k3 ((hpop.fr F2 (by omega)).fr k4 (by omega)) ((F2.up (fun q hq => Or.inl hq)).tr (k4.up (fun q hq => Or.inr (Or.inl hq))))
                by_cases h4 : kd T s = 4
                · obtain ⟨w, w1, w2, w3, w4⟩ := hz4 h4
                  have hpa : zaI H2 (some 27) 0 (nI s) = some (pA T s) := f2.1.a hT.1 hs
                  rw [if_pos (show nI (kd T s) = 4 by rw [h4]; rfl), qgR f2.m rfl, Option.bind_some, hpa, Option.bind_some, w2, Mo_sym w1 w3 (by omega), Option.bind_some, ← w4]
                  unfold jJ_Mo_decode_160
                  rw [k1, Option.bind_some]
                  exact rest'
                · rw [if_neg (show ¬ nI (kd T s) = (4 : Int32) from fun q => h4 ((kdI (n := 4) t1 (by omega)).mp q)), ← hzn h4]
                  unfold jJ_Mo_decode_160
                  rw [k1, Option.bind_some, hzn h4]
                  exact rest'
              rcases hinv with q | q | ⟨h5, -, c, b', hc, hx, k, hb1⟩ | ⟨h6, -, hx, b', k, hb1⟩ | ⟨-, h4, -, hval, hp1, hb1⟩
              · omega
              · omega
              · have t6' := t6 h5
                by_cases hc0 : c = 0
                · subst hc0
                  rw [List.replicate_zero, seqP] at k
                  cases k
                  have hb0 : (if 0 = 0 then ([] : List Nat) else varB (lN 0)) ++ [] ++ [0] = varB (lN 0) := by decide
                  rw [hb0] at hb1
                  refine num (lN 0) (lN 0) b1 b2 (fun q => by omega) (fun _ => rfl) hx.symm hb hb1 ?_
                  intro H2 v2 m1 m2 m3 m4 m5
                  rw [if_neg (show ¬ nI (kd T s) = 6 by rw [h5]; decide)]
                  unfold jJ_Mo_decode_204
                  rw [if_pos (show nI (kd T s) = 5 by rw [h5]; rfl), if_pos (show lN 0 ≤ 0 by decide), nI_1]
                  dsimp only
                  exact go l (p + 1) b1 b2 H2 v2 m1 m2 m3 m4 m5 (by omega) hq2 (by omega) hb
                · rw [if_neg hc0] at hb1
                  have hbb : b = varB (lN c) ++ (b' ++ (0 :: b2)) := by rw [hb, hb1]; simp
                  refine num (lN c) (lN c) (varB (lN c)) (b' ++ (0 :: b2)) (fun q => by omega) (fun _ => rfl) hx.symm hbb rfl ?_
                  intro H2 v2 m1 m2 m3 m4 m5
                  rw [if_neg (show ¬ nI (kd T s) = 6 by rw [h5]; decide)]
                  unfold jJ_Mo_decode_204
                  rw [if_pos (show nI (kd T s) = 5 by rw [h5]; rfl), if_neg (fun q => hc0 ((lN_le0 hc).mp q)), nI_1, qgR m1.m rfl, Option.bind_some]
                  obtain ⟨H3, e1, e2, e3⟩ := m4.push (q := none) (by show _ + 3 * 0 ≤ 64; omega) (fun y hy => by cases hy)
                  have e1' : zsI H2 (some 44) 0 (nI l.length) (-1) = some H3 := e1
                  rw [e1', Option.bind_some, nI_1]
                  have n1 := m1.st e3 e2
                  obtain ⟨H4, f1, f2, f3⟩ := Mo_decI (fu := fu) (k11 := fun x0 x1 x2 x3 => jL_Mo_decode_11 fu g x0 x1 x2 x3) (a3 := nI (p + 1)) hT hp hs h5 hc (l := none :: l) (by show l.length + 1 + _ ≤ 64; omega) c 0 fu H3 (by omega) (by omega) n1.1 e2
                  rw [nI_0, show (none :: l).length = l.length + 1 from rfl] at f1
                  rw [f1]
                  have F3 : Fr H2 H4 (fun q => q = 44) := e3.tr f3
                  refine go _ (p + 1) (varB (lN c)) (b' ++ (0 :: b2)) H4 v2 (n1.st f3 f2) m2 (m3.fr F3 (by omega)) f2 (m5.tr (F3.up (fun q hq => Or.inr (Or.inr hq)))) ?_ ?_ (by omega) hbb
                  · have := (wS_in (T := T) (s := s) (l := List.replicate c (sA T s)) (by rw [List.length_replicate]; exact hc) (fun q hq => by
                      have := List.eq_of_mem_replicate hq
                      subst this
                      exact ⟨(hT.2 _ (by omega)).2.1, t6'.2⟩)).2 (by
                        intro q
                        have := congrArg List.length q
                        rw [List.length_replicate] at this
                        exact hc0 this)
                    have hwn : wS T (none :: l) = 1 + wS T l := rfl
                    rw [wS_app, hwn]
                    omega
                  · refine seqO_mk k ?_
                    rw [seqO, hq2]
                    rfl
              · have t7' := t7 h6
                have hps := (hp s hs).2 h6
                have hbb : b = varB (xs.getD p 0) ++ (b' ++ b2) := by rw [hb, hb1, List.append_assoc]
                refine num (xs.getD p 0) (xs.getD p 0) (varB (xs.getD p 0)) (b' ++ b2) (fun q => by omega) (fun _ => rfl) rfl hbb rfl ?_
                intro H2 v2 m1 m2 m3 m4 m5
                have pu : ∀ cc, cc < s → dp T cc < dp T s → (if xs.getD p 0 = 0 then sA T s else sB T s) = cc → ∃ H' v', (jJ_Mo_decode_200 fu (fun x0 x1 x2 x3 => jL_Mo_decode_11 fu g x0 x1 x2 x3) (nI cc) (nI l.length) (some 44) (some 24) (nI l.length) (nI p + (1 : Int32)) (nI s) (nI (kd T s)) (xs.getD p 0) H2) = some (nI p', H') ∧ MRv H' v' (T, P, D, xs0, g0, fo) ∧ v' 33 = nI (a + b.length) ∧ MVp H' xs p' ∧ MSt H' T [] ∧ Fr H H' A3d := by
                  intro cc hc hd he
                  rw [he] at k
                  unfold jJ_Mo_decode_200
                  obtain ⟨H3, e1, e2, e3⟩ := m4.push (q := some cc) (by show _ + 3 * dp T cc ≤ 64; omega) (fun y hy => by cases hy; omega)
                  have e1' : zsI H2 (some 44) 0 (nI l.length) (nI cc) = some H3 := e1
                  rw [e1', Option.bind_some, nI_1]
                  unfold jJ_Mo_decode_204
                  rw [if_neg (show ¬ nI (kd T s) = 5 by rw [h6]; decide), nI_1]
                  dsimp only
                  refine go (some cc :: l) (p + 1) (varB (xs.getD p 0)) (b' ++ b2) H3 v2 (m1.st e3 e2) m2 (m3.fr e3 (by omega)) e2 (m5.tr (e3.up (fun q hq => Or.inr (Or.inr hq)))) ?_ ?_ (by omega) hbb
                  · have := wd_step (hT.2 cc (by omega)).2.1 hd
                    show wd (dp T cc) + wS T l < g
                    omega
                  · rw [seqO, k]
                    dsimp only
                    rw [hq2]
                    rfl
                rw [if_pos (show nI (kd T s) = 6 by rw [h6]; rfl), qgR m1.m rfl, Option.bind_some]
                have za : zaI H2 (some 27) 0 (nI s) = some (nI (sA T s)) := by rw [← pA_nI hps.1]; exact m1.1.a hT.1 hs
                have zb : zaI H2 (some 28) 0 (nI s) = some (nI (sB T s)) := by rw [← pB_nI hps.2]; exact m1.1.b hT.1 hs
                by_cases c0 : xs.getD p 0 = 0
                · rw [if_pos c0, qgR m1.m rfl, Option.bind_some, za, Option.bind_some]
                  exact pu _ t7'.1 t7'.2.2.1 (if_pos c0)
                · rw [if_neg c0, qgR m1.m rfl, Option.bind_some, zb, Option.bind_some]
                  exact pu _ t7'.2.1 t7'.2.2.2.1 (if_neg c0)
              · subst hp1
                have fin : ∀ z, b1 = varB z → ∀ (H2 : zH) (v2 : Nat → Int32), MRv H2 v2 (T, P, D, xs0, g0, fo) → v2 33 = nI (a + b1.length) → MVp H2 xs (p + 1) → MSt H2 T l → Fr H H2 A3d → ∃ H' v', (if nI (kd T s) = (6 : Int32) then (
                      (zgR H2 (some 24) 1 31).bind fun v172 =>
                      if z = (0 : Int64) then (
                        (zgR H2 (some 24) 1 3).bind fun v184 =>
                        (zaI H2 v184 0 (nI s)).bind fun v189 =>
                        jJ_Mo_decode_200 fu (fun x0 x1 x2 x3 => jL_Mo_decode_11 fu g x0 x1 x2 x3) v189 (nI l.length) v172 (some 24) (nI l.length) (nI p + (1 : Int32)) (nI s) (nI (kd T s)) z H2)
                      else (
                        (zgR H2 (some 24) 1 4).bind fun v194 =>
                        (zaI H2 v194 0 (nI s)).bind fun v199 =>
                        jJ_Mo_decode_200 fu (fun x0 x1 x2 x3 => jL_Mo_decode_11 fu g x0 x1 x2 x3) v199 (nI l.length) v172 (some 24) (nI l.length) (nI p + (1 : Int32)) (nI s) (nI (kd T s)) z H2))
                    else (
                      jJ_Mo_decode_204 fu (fun x0 x1 x2 x3 => jL_Mo_decode_11 fu g x0 x1 x2 x3) (some 24) (nI l.length) (nI p + (1 : Int32)) (nI s) (nI (kd T s)) z H2)) = some (nI p', H') ∧ MRv H' v' (T, P, D, xs0, g0, fo) ∧ v' 33 = nI (a + b.length) ∧ MVp H' xs p' ∧ MSt H' T [] ∧ Fr H H' A3d := by
                  intro z hz H2 v2 m1 m2 m3 m4 m5
                  rw [if_neg (show ¬ nI (kd T s) = (6 : Int32) from fun q => by have := (kdI (n := 6) t1 (by omega)).mp q; omega)]
                  unfold jJ_Mo_decode_204
                  rw [if_neg (show ¬ nI (kd T s) = (5 : Int32) from fun q => by have := (kdI (n := 5) t1 (by omega)).mp q; omega), nI_1]
                  dsimp only
                  exact go l (p + 1) b1 b2 H2 v2 m1 m2 m3 m4 m5 (by omega) hq2 (by omega) hb
                by_cases c4 : kd T s = 4
                · unfold isVal at hval
                  rw [if_neg h1, if_neg (by omega), if_neg (by omega), if_pos c4] at hval
                  obtain ⟨y, hy, hxy, hbit⟩ := hasSy_of hval
                  have hrl := rk_le (pA T s) y
                  have hcod : cod T s (xs.getD p 0) = varB (nI (rk (pA T s) y)).toInt64 := by
                    unfold cod
                    rw [if_neg h1, if_pos c4, hxy, lN_i, nI_clamp (by omega)]
                  rw [hcod] at hb1
                  have h32 : (nI (rk (pA T s) y)).toInt64.toInt32 = nI (rk (pA T s) y) := by rw [nI_l (by omega), lN_i]
                  exact num _ (nI y).toInt64 b1 b2 (fun _ => ⟨y, hy, h32, hbit, rfl⟩) (fun q => absurd c4 q) (by rw [hxy, nI_l (by omega)]) hb hb1 (fin _ hb1)
                · have hcod : cod T s (xs.getD p 0) = varB (xs.getD p 0) := by unfold cod; rw [if_neg h1, if_neg c4]
                  rw [hcod] at hb1
                  exact num _ _ b1 b2 (fun q => absurd q c4) (fun _ => rfl) rfl hb hb1 (fin _ hb1)
theorem Mo_dec (hT : TOk T) (hE : TEn T) (hp : TPos T) (hxs : xs.length ≤ 24) (hfu : 500 ≤ fu) {s p' a : Nat} {b : List Nat} (hs : s < T.length) (hb : encP T xs 7 s 0 = some (p', b)) {H : zH} {v : Nat → Int32} (h : MRv H v (T, P, D, xs0, g0, fo)) (hv : v 33 = nI a) (ho : onD D.2.2.2 a b) (ha : a + b.length ≤ 1280) :
    ∃ H' v', jF_Mo_decode fu (some 24) (nI s) H = some (nI p', H') ∧ MRv H' v' (T, P, D, xs0, g0, fo) ∧ v' 33 = nI (a + b.length) ∧ MVp H' xs p' ∧ Fr H H' A3d := by
  obtain ⟨t1, t2, t3, t4, t5, t6, t7, t8⟩ := hT.2 s hs
  obtain ⟨f43, a43⟩ := h.2.2.2.2.2.2.2.2.1
  obtain ⟨f44, a44⟩ := h.2.2.2.2.2.2.2.2.2.1
  have hS : MSt H T [] := ⟨f44, a44, True.intro⟩
  obtain ⟨H1, e1, e2, e3⟩ := hS.push (q := some s) (by show 0 + 1 + 3 * dp T s ≤ 64; omega) (fun y hy => by cases hy; exact hs)
  have e1' : zsI H (some 44) 0 0 (nI s) = some H1 := e1
  have hw : wS T [some s] < fu := by
    have : wd (dp T s) ≤ wd 6 := wd_mono _ _ t3
    have h6 : wd 6 = 485 := rfl
    show wd (dp T s) + 0 < fu
    omega
  obtain ⟨H2, v2, f1, f2, f3, f4, f5, f6⟩ := Mo_decL (fu := fu) (xs := xs) hT hE hp hxs (by omega) fu [some s] 0 p' a b H1 v (h.st e3 e2) hv ⟨f43, a43.fr e3 (by omega), fun i hi => by omega⟩ e2 hw (by rw [seqO, hb]; simp [seqO]) (by omega) ho ha
  unfold jF_Mo_decode
  rw [qok h.m, Option.bind_some, qgR h.m rfl, Option.bind_some, e1', Option.bind_some]
  exact ⟨H2, v2, f1, f2, f3, f4, (e3.up (fun q hq => Or.inr (Or.inr hq))).tr f6⟩
end MD
