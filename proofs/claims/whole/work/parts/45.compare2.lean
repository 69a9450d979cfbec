/-! The reference's compare, to its end; the loops that fill the tables. -/
def V1 (V : Nat → Nat → Prop) (r w : Nat) : Nat → Nat → Prop := fun a b => V a b ∨ (a = r ∧ b = w)
section Cmp2
variable {H : zH} {v : Nat → Int32} {T : yT} {P : List yF} {r w fu : Nat} {V : Nat → Nat → Prop}
theorem tab_set {f : Nat → Int32} {g : Nat → Nat → Bool} (hV : ∀ a b, V a b → a < 24 ∧ b < 24) (hr : r < 24) (hw : w < 24) (h : ∀ a b, V a b → f (24 * a + b) = bI (g a b)) : ∀ a b, V1 V r w a b → va_up f (24 * r + w) (bI (g r w)) (24 * a + b) = bI (g a b) := by
  intro a b hab
  unfold va_up
  by_cases he : 24 * a + b = 24 * r + w
  · have hb : b < 24 := by
      rcases hab with q | q
      · exact (hV a b q).2
      · omega
    have h1 : a = r := by omega
    have h2 : b = w := by omega
    rw [if_pos he, h1, h2]
  · rw [if_neg he]
    rcases hab with q | q
    · exact h a b q
    · exact absurd (by rw [q.1, q.2]) he
theorem cmp201 (h : MSB H v T P) (hb : MTb H T V) (hT : TOk T) (hp : TPos T) (hr : r < T.length) (hw : w < T.length) (hfu : 5 ≤ fu) (hV : ∀ a b, V a b → a < 24 ∧ b < 24) (hVV : ∀ a b, a ≤ r → b ≤ w → ¬ (a = r ∧ b = w) → V a b) :
    ∃ H', jJ_Mo_compare_201 fu (bI (matchS T 7 w r)) (nI (24 * r + w)) (some 35) (some 24) (nI r) (nI w) (bI (alk T r w)) H = some H' ∧ MTb H' T (V1 V r w) ∧ Fr H H' (A2 35 36) := by
  have hl := hT.1
  obtain ⟨u1, u2, u3, u4, u5, u6, u7, u8⟩ := hT.2 r hr
  obtain ⟨t1, t2, t3, t4, t5, t6, t7, t8⟩ := hT.2 w hw
  obtain ⟨⟨fm, am, bm⟩, fr, ar, br⟩ := hb
  have hzb : ∀ b : Bool, bI b = 0 ∨ bI b = 1 := fun b => by cases b; exact Or.inl rfl; exact Or.inr rfl
  unfold jJ_Mo_compare_201
  rw [qsZ (hzb _) am (by omega) (by omega), Option.bind_some]
  generalize hH1 : zset H 35 (.inl (1, 576, .inl (va_up fm (24 * r + w) (bI (matchS T 7 w r))))) = H1
  have hF1 : Fr H H1 (A2 35 36) := by rw [← hH1]; exact Fr.set (Or.inl rfl)
  have h1 : MSB H1 v T P := h.fr hF1 (fun q hq => by unfold A2 at hq; omega)
  have am1 : AZ H1 35 576 (va_up fm (24 * r + w) (bI (matchS T 7 w r))) := by rw [← hH1]; exact zgo_set_same am
  have ar1 : AZ H1 36 576 fr := by rw [← hH1]; unfold AZ; rw [zgo_set_ne (by decide)]; exact ar
  have bm1 := tab_set (g := fun a b => matchS T 7 b a) hV (show r < 24 by omega) (show w < 24 by omega) bm
  have hb1 : MTb H1 T V := ⟨⟨_, am1, fun a b q => bm1 a b (Or.inl q)⟩, fr, ar1, br⟩
  have fin : ∀ rv : Bool, rv = readsS T 14 r w → ∃ H', jJ_Mo_compare_335 fu (bI rv) (nI (24 * r + w)) (some 36) H1 = some H' ∧ MTb H' T (V1 V r w) ∧ Fr H H' (A2 35 36) := by
    intro rv hrv
    subst hrv
    unfold jJ_Mo_compare_335
    rw [qsZ (hzb _) ar1 (by omega) (by omega), Option.bind_some]
    refine ⟨_, rfl, ⟨⟨_, ?_, bm1⟩, _, zgo_set_same ar1, tab_set (g := fun a b => readsS T 14 a b) hV (show r < 24 by omega) (show w < 24 by omega) br⟩, hF1.tr (Fr.set (Or.inr rfl))⟩
    unfold AZ
    rw [zgo_set_ne (by decide)]
    exact am1
  have hre := readsS_eq hT hr hw
  have f0 : ∀ {b : Bool}, b = false → b = readsS T 14 r w → ∃ H', jJ_Mo_compare_335 fu 0 (nI (24 * r + w)) (some 36) H1 = some H' ∧ MTb H' T (V1 V r w) ∧ Fr H H' (A2 35 36) := fun hb0 hb1 => fin false (by rw [← hb0]; exact hb1)
  have f1 : ∀ {b : Bool}, b = true → b = readsS T 14 r w → ∃ H', jJ_Mo_compare_335 fu 1 (nI (24 * r + w)) (some 36) H1 = some H' ∧ MTb H' T (V1 V r w) ∧ Fr H H' (A2 35 36) := fun hb0 hb1 => fin true (by rw [← hb0]; exact hb1)
  simp only [qgR (j := 12) h1.m rfl, qgR (j := 1) h1.m rfl, qgR (j := 3) h1.m rfl, qgR (j := 4) h1.m rfl, h1.k hl hr, h1.k hl hw, h1.a hl hw, h1.b hl hw, Option.bind_some]
  unfold jJ_Mo_compare_265 jJ_Mo_compare_312 jJ_Mo_compare_334
  rw [li6, if_eqN (by omega) (by omega), if_eqN (by omega) (by omega), li24, pk_mul, nI_add]
  by_cases h6 : kd T w = 6
  · have t7' := t7 h6
    have hp' := (hp w hw).2 h6
    rw [if_pos h6] at hre ⊢
    rw [pA_nI hp'.1, pB_nI hp'.2, nI_add, nI_add, hb1.rd (by omega) (by omega) (hVV _ _ (Nat.le_refl _) (by omega) (by omega)), Option.bind_some, if_bI, hb1.rd (by omega) (by omega) (hVV _ _ (Nat.le_refl _) (by omega) (by omega)), Option.bind_some, if_bI]
    cases ha : readsS T 14 r (sA T w) with
    | false => rw [if_neg Bool.false_ne_true]; exact f0 rfl (by rw [hre, ha, Bool.false_and])
    | true =>
      rw [if_pos rfl]
      cases hc : readsS T 14 r (sB T w) with
      | false => rw [if_neg Bool.false_ne_true]; exact f0 rfl (by rw [hre, ha, hc, Bool.true_and])
      | true => rw [if_pos rfl]; exact f1 rfl (by rw [hre, ha, hc, Bool.true_and])
  · rw [if_neg h6] at hre ⊢
    by_cases h6' : kd T r = 6
    · have u7' := u7 h6'
      rw [if_pos h6'] at hre ⊢
      have w1 : V (sA T r) w := hVV _ _ (by omega) (Nat.le_refl _) (by omega)
      have w2 : V (sB T r) w := hVV _ _ (by omega) (Nat.le_refl _) (by omega)
      rw [Mo_branch h1 hb1 hT hp hr hw h6' w1 w2, Option.bind_some]
      cases hbr : brS T 7 r w with
      | none => rw [if_pos (show limI none < 0 by decide)]; exact f0 rfl (by rw [hre, hbr])
      | some b =>
        have hlt : brT T r b < r := by
          unfold brT
          split <;> omega
        have hb2 : b = 0 ∨ b = 1 := by
          unfold brS at hbr
          split at hbr
          · cases hbr; exact Or.inl rfl
          · split at hbr
            · cases hbr; exact Or.inr rfl
            · cases hbr
        have hneg : ¬ limI (some b) < 0 := by rcases hb2 with rfl | rfl <;> decide
        rw [if_neg hneg, Mo_branchSchema h1 hb1 hT hp hr hw h6' w1 w2 hbr, Option.bind_some, pk_mul, nI_add, hb1.rd (by omega) (by omega) (hVV _ _ (by omega) (Nat.le_refl _) (by omega)), Option.bind_some, if_bI]
        cases ha : readsS T 14 (brT T r b) w with
        | false => rw [if_neg Bool.false_ne_true]; exact f0 rfl (by rw [hre, hbr]; exact ha.symm)
        | true => rw [if_pos rfl]; exact f1 rfl (by rw [hre, hbr]; exact ha.symm)
    · rw [if_neg h6'] at hre ⊢
      rw [if_bI]
      cases ha : alk T r w with
      | false => rw [if_neg Bool.false_ne_true]; exact f0 rfl (by rw [hre, ha, Bool.false_and])
      | true =>
        have hk : kd T r = 5 → kd T w = 5 := by
          intro q
          have := of_decide_eq_true ha
          omega
        rw [if_pos rfl, Mo_inside h1 hb1 hT hp hr hw hfu (fun a b q1 q2 => hVV a b (by omega) (by omega) (by omega)) hk, Option.bind_some, if_bI]
        cases hc : insS T r w with
        | false => rw [if_neg Bool.false_ne_true]; exact f0 rfl (by rw [hre, ha, hc, Bool.true_and])
        | true => rw [if_pos rfl]; exact f1 rfl (by rw [hre, ha, hc, Bool.true_and])
theorem Mo_compare (h : MSB H v T P) (hb : MTb H T V) (hT : TOk T) (hp : TPos T) (hr : r < T.length) (hw : w < T.length) (hfu : 5 ≤ fu) (hV : ∀ a b, V a b → a < 24 ∧ b < 24) (hVV : ∀ a b, a ≤ r → b ≤ w → ¬ (a = r ∧ b = w) → V a b) :
    ∃ H', jF_Mo_compare fu (some 24) (nI r) (nI w) H = some H' ∧ MTb H' T (V1 V r w) ∧ Fr H H' (A2 35 36) := by
  have hl := hT.1
  obtain ⟨u1, u2, u3, u4, u5, u6, u7, u8⟩ := hT.2 r hr
  obtain ⟨t1, t2, t3, t4, t5, t6, t7, t8⟩ := hT.2 w hw
  have hme := matchS_eq hT hr hw
  have k201 := cmp201 (fu := fu) h hb hT hp hr hw hfu hV hVV
  -- from the answer of alike on
  have k170 : ∀ (it un : Bool), it = (if kd T r = 5 ∧ alk T r w = true then matchS T 7 (sA T w) (sA T r) else true) → un = decide (kd T r = 6 ∨ kd T w = 6) → ∃ H', jJ_Mo_compare_170 fu (bI it) (some 24) (nI r) (nI w) (bI un) (bI (alk T r w)) H = some H' ∧ MTb H' T (V1 V r w) ∧ Fr H H' (A2 35 36) := by
    intro it un hit hun
    rw [← hit, ← hun] at hme
    unfold jJ_Mo_compare_170 jJ_Mo_compare_196 jJ_Mo_compare_200
    simp only [qgR (j := 11) h.m rfl, Option.bind_some, li24, pk_mul, nI_add]
    rw [if_bI, if_bI, if_bI]
    have g1 : matchS T 7 w r = true → ∃ H', jJ_Mo_compare_201 fu 1 (nI (24 * r + w)) (some 35) (some 24) (nI r) (nI w) (bI (alk T r w)) H = some H' ∧ MTb H' T (V1 V r w) ∧ Fr H H' (A2 35 36) := fun q => by rw [q] at k201; exact k201
    have g0 : matchS T 7 w r = false → ∃ H', jJ_Mo_compare_201 fu 0 (nI (24 * r + w)) (some 35) (some 24) (nI r) (nI w) (bI (alk T r w)) H = some H' ∧ MTb H' T (V1 V r w) ∧ Fr H H' (A2 35 36) := fun q => by rw [q] at k201; exact k201
    cases un with
    | true => rw [if_pos rfl]; exact g1 (by rw [hme, Bool.true_or])
    | false =>
      rw [if_neg Bool.false_ne_true]
      rw [Bool.false_or] at hme
      by_cases ha : alk T r w = true
      · rw [if_pos ha]
        rw [ha, Bool.true_and] at hme
        cases it with
        | true => rw [if_pos rfl]; exact g1 hme
        | false => rw [if_neg Bool.false_ne_true]; exact g0 hme
      · rw [if_neg ha]
        have ha' : alk T r w = false := by cases hq : alk T r w; rfl; exact absurd hq ha
        rw [ha', Bool.false_and] at hme
        exact g0 hme
  have k124 : ∀ un : Bool, un = decide (kd T r = 6 ∨ kd T w = 6) → ∃ H', jJ_Mo_compare_124 fu (bI (alk T r w)) (some 24) (nI r) (nI w) (bI un) H = some H' ∧ MTb H' T (V1 V r w) ∧ Fr H H' (A2 35 36) := by
    intro un hun
    unfold jJ_Mo_compare_124 jJ_Mo_compare_165
    simp only [qgR (j := 1) h.m rfl, qgR (j := 11) h.m rfl, qgR (j := 3) h.m rfl, h.k hl hr, h.a hl hr, h.a hl hw, Option.bind_some]
    rw [li5, if_eqN (by omega) (by omega)]
    by_cases h5 : kd T r = 5
    · rw [if_pos h5, if_bI]
      by_cases ha : alk T r w = true
      · have hw5 : kd T w = 5 := by
          have := of_decide_eq_true ha
          omega
        have t6' := t6 hw5
        have u6' := u6 h5
        rw [if_pos ha, pA_nI ((hp r hr).1 h5), pA_nI ((hp w hw).1 hw5), li24, pk_mul, nI_add, hb.mt (by omega) (by omega) (hVV _ _ (by omega) (by omega) (by omega)), Option.bind_some, if_bI]
        have k1 := k170 (matchS T 7 (sA T w) (sA T r)) un (by rw [if_pos ⟨h5, ha⟩]) hun
        cases hm : matchS T 7 (sA T w) (sA T r) with
        | true => rw [if_pos rfl]; rw [hm] at k1; exact k1
        | false => rw [if_neg Bool.false_ne_true]; rw [hm] at k1; exact k1
      · rw [if_neg ha]
        exact k170 true un (by rw [if_neg (fun q => ha q.2)]) hun
    · rw [if_neg h5]
      exact k170 true un (by rw [if_neg (fun q => h5 q.1)]) hun
  have k54 : ∀ un nd : Bool, un = decide (kd T r = 6 ∨ kd T w = 6) → nd = decide (kd T r = 4 ∨ kd T r = 7) → ∃ H', jJ_Mo_compare_54 fu (bI nd) (some 24) (nI r) (nI w) (bI un) H = some H' ∧ MTb H' T (V1 V r w) ∧ Fr H H' (A2 35 36) := by
    intro un nd hun hnd
    have k := k124 un hun
    have g1 : alk T r w = true → ∃ H', jJ_Mo_compare_124 fu 1 (some 24) (nI r) (nI w) (bI un) H = some H' ∧ MTb H' T (V1 V r w) ∧ Fr H H' (A2 35 36) := fun q => by rw [q] at k; exact k
    have g0 : alk T r w = false → ∃ H', jJ_Mo_compare_124 fu 0 (some 24) (nI r) (nI w) (bI un) H = some H' ∧ MTb H' T (V1 V r w) ∧ Fr H H' (A2 35 36) := fun q => by rw [q] at k; exact k
    unfold jJ_Mo_compare_54 jJ_Mo_compare_91 jJ_Mo_compare_123
    simp only [qgR (j := 1) h.m rfl, qgR (j := 2) h.m rfl, h.k hl hr, h.k hl hw, h.nm hl hr, h.nm hl hw, Option.bind_some]
    rw [if_bI, li3, li2, if_eqN (by omega) (by omega), if_eqN (by omega) (by omega), if_eqN (by omega) (by omega)]
    by_cases c1 : kd T r = kd T w
    · rw [if_pos c1]
      cases hn : nd with
      | false =>
        rw [if_neg Bool.false_ne_true]
        rw [hn] at hnd
        have := of_decide_eq_false hnd.symm
        exact g1 (decide_eq_true (Or.inl ⟨c1, fun q => absurd q this⟩))
      | true =>
        rw [if_pos rfl]
        rw [hn] at hnd
        have h47 := of_decide_eq_true hnd.symm
        by_cases c2 : nm T r = nm T w
        · rw [if_pos c2]
          exact g1 (decide_eq_true (Or.inl ⟨c1, fun _ => c2⟩))
        · rw [if_neg c2]
          exact g0 (decide_eq_false (by
            rintro (⟨-, q⟩ | ⟨q1, q2⟩)
            · exact c2 (q h47)
            · omega))
    · rw [if_neg c1]
      by_cases c3 : kd T r = 3
      · rw [if_pos c3]
        by_cases c4 : kd T w = 2
        · rw [if_pos c4]
          exact g1 (decide_eq_true (Or.inr ⟨c3, c4⟩))
        · rw [if_neg c4]
          exact g0 (decide_eq_false (by
            rintro (⟨q, -⟩ | ⟨q1, q2⟩)
            · exact c1 q
            · exact c4 q2))
      · rw [if_neg c3]
        exact g0 (decide_eq_false (by
          rintro (⟨q, -⟩ | ⟨q1, q2⟩)
          · exact c1 q
          · exact c3 q1))
  have k27 : ∀ un : Bool, un = decide (kd T r = 6 ∨ kd T w = 6) → ∃ H', jJ_Mo_compare_27 fu (bI un) (some 24) (nI r) (nI w) H = some H' ∧ MTb H' T (V1 V r w) ∧ Fr H H' (A2 35 36) := by
    intro un hun
    unfold jJ_Mo_compare_27 jJ_Mo_compare_49
    simp only [qgR (j := 1) h.m rfl, h.k hl hr, Option.bind_some]
    rw [li4, li7, if_eqN (by omega) (by omega), if_eqN (by omega) (by omega)]
    by_cases h4 : kd T r = 4
    · rw [if_pos h4]; exact k54 un true hun (decide_eq_true (Or.inl h4)).symm
    · rw [if_neg h4]
      by_cases h7 : kd T r = 7
      · rw [if_pos h7]; exact k54 un true hun (decide_eq_true (Or.inr h7)).symm
      · rw [if_neg h7]; exact k54 un false hun (decide_eq_false (by omega)).symm
  unfold jF_Mo_compare jJ_Mo_compare_22
  simp only [qok h.m, qgR (j := 1) h.m rfl, h.k hl hr, h.k hl hw, Option.bind_some]
  rw [li6, if_eqN (by omega) (by omega), if_eqN (by omega) (by omega)]
  by_cases h6 : kd T r = 6
  · rw [if_pos h6]; exact k27 true (decide_eq_true (Or.inl h6)).symm
  · rw [if_neg h6]
    by_cases h6' : kd T w = 6
    · rw [if_pos h6']; exact k27 true (decide_eq_true (Or.inr h6')).symm
    · rw [if_neg h6']; exact k27 false (decide_eq_false (by omega)).symm
end Cmp2
