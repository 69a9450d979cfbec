/-! The reference's field. -/
section MF
variable {H : zH} {v : Nat → Int32} {T : yT} {P : List yF} {s fu : Nat}
theorem Mo_scalar (h : MSB H v T P) (hT : TOk T) (hs : s < T.length) (hk : 1 ≤ kd T s ∧ kd T s ≤ 4) {x : Int64} : jF_Mo_scalar (some 24) (nI s) x H = some (bI (isVal T s x)) := by
  have hl := hT.1
  unfold jF_Mo_scalar jJ_Mo_scalar_26 isVal
  simp only [qok h.m, qgR (j := 1) h.m rfl, qgR (j := 3) h.m rfl, h.k hl hs, h.a hl hs, Option.bind_some]
  rw [li1, li2, li4, if_eqN (by omega) (by omega), if_eqN (by omega) (by omega), if_eqN (by omega) (by omega)]
  by_cases h1 : kd T s = 1
  · rw [if_pos h1, if_pos h1]
    by_cases ha : x = 0
    · rw [if_pos ha, decide_eq_true (Or.inl ha)]; rfl
    · rw [if_neg ha]
      by_cases hb : x = 1
      · rw [if_pos hb, decide_eq_true (Or.inr hb)]; rfl
      · rw [if_neg hb, decide_eq_false (by rintro (q | q); exact ha q; exact hb q)]; rfl
  · rw [if_neg h1, if_neg h1]
    by_cases h2 : kd T s = 2
    · rw [if_pos h2, if_pos h2]
      exact bI_if
    · rw [if_neg h2, if_neg h2]
      by_cases h4 : kd T s = 4
      · rw [if_pos h4, if_neg (show ¬ kd T s = 3 by omega), if_pos h4]
        unfold hasSy
        have e2 : (7 : Int64) < x ↔ 8 ≤ x := by
          rw [Int64.le_iff_toInt_le, Int64.lt_iff_toInt_lt]
          show (7 : Int) < x.toInt ↔ (8 : Int) ≤ x.toInt
          omega
        by_cases c1 : x < 0
        · rw [if_pos c1, decide_eq_false (fun q => q.1 c1)]; rfl
        · rw [if_neg c1]
          by_cases c2 : (7 : Int64) < x
          · rw [if_pos c2, decide_eq_false (fun q => q.2.1 (e2.mp c2))]; rfl
          · rw [if_neg c2]
            have c3 : ¬ (8 : Int64) ≤ x := fun q => c2 (e2.mpr q)
            refine bI_if.trans ?_
            simp only [c1, c3, not_false_eq_true, true_and]
            rfl
      · rw [if_neg h4, if_pos (show kd T s = 3 by omega)]; rfl
theorem Mo_isDefault (h : MSB H v T P) (hT : TOk T) (hp : TPos T) (hs : s < T.length) {x : Int64} : jF_Mo_isDefault (some 24) (nI s) x H = some (bI (isDf T 7 s x)) := by
  have hl := hT.1
  have key : ∀ (f q : Nat), q < T.length → kd T q ≠ 6 → jJ_Mo_isDefault_21 H (nI q) (some 24) x = some (bI (isDf T (f + 1) q x)) := by
    intro f q hq h6
    obtain ⟨t1, t2, t3, t4, t5, t6, t7, t8⟩ := hT.2 q hq
    unfold jJ_Mo_isDefault_21 jJ_Mo_isDefault_52 jJ_Mo_isDefault_80
    rw [isDf]
    simp only [qgR (j := 1) h.m rfl, h.k hl hq, Option.bind_some]
    rw [li7, li5, li3, if_eqN (by omega) (by omega), if_0N (by omega), if_eqN (by omega) (by omega), if_eqN (by omega) (by omega), if_neg h6]
    by_cases h7 : kd T q = 7
    · rw [if_pos h7, if_neg (show ¬ (kd T q = 0 ∨ kd T q = 5) by omega)]
      unfold isVal
      rw [if_neg (by omega), if_neg (by omega), if_neg (by omega), if_neg (by omega)]; rfl
    · rw [if_neg h7]
      by_cases h0 : kd T q = 0
      · rw [if_pos h0, if_pos (Or.inl h0)]
        exact bI_if
      · rw [if_neg h0]
        by_cases h5 : kd T q = 5
        · rw [if_pos h5, if_pos (Or.inr h5)]
          exact bI_if
        · rw [if_neg h5, if_neg (show ¬ (kd T q = 0 ∨ kd T q = 5) by omega)]
          by_cases h3 : kd T q = 3
          · rw [if_pos h3]
            unfold isVal
            rw [if_neg (by omega), if_neg (by omega), if_pos h3]; rfl
          · rw [if_neg h3, Mo_scalar h hT hq (by omega), Option.bind_some, if_bI]
            cases isVal T q x <;> rfl
  obtain ⟨t1, t2, t3, t4, t5, t6, t7, t8⟩ := hT.2 s hs
  unfold jF_Mo_isDefault
  simp only [qok h.m, qgR (j := 1) h.m rfl, qgR (j := 3) h.m rfl, h.k hl hs, h.a hl hs, Option.bind_some]
  rw [li6, if_eqN (by omega) (by omega)]
  by_cases h6 : kd T s = 6
  · have t7' := t7 h6
    have e : isDf T 7 s x = isDf T (5 + 1) (sA T s) x := by
      rw [show isDf T 7 s x = isDf T (6 + 1) s x from rfl, isDf, if_neg (show ¬ (kd T s = 0 ∨ kd T s = 5) by omega), if_pos h6]
    rw [if_pos h6, pA_nI ((hp s hs).2 h6).1, key 5 (sA T s) (by omega) t7'.2.2.2.2.1, e]
  · rw [if_neg h6]
    exact key 6 s hs h6
theorem Mo_noName {n : Int32} : jF_Mo_noName n H = some (bI (!decide (nmOk n))) := by
  unfold jF_Mo_noName jJ_Mo_noName_10
  by_cases h1 : n < 0
  · rw [if_pos h1, decide_eq_false (fun q => q.1 h1)]; rfl
  · rw [if_neg h1]
    have e : n ≤ 7 ↔ ¬ 7 < n := by rw [Int32.le_iff_toInt_le, Int32.lt_iff_toInt_lt]; omega
    by_cases h2 : 7 < n
    · rw [if_neg (fun q => (e.mp q) h2), decide_eq_false (fun q => q.2 h2)]; rfl
    · rw [if_pos (e.mpr h2), decide_eq_true ⟨h1, h2⟩]; rfl
theorem Mo_noSchema (h : MSB H v T P) (hT : T.length ≤ 24) {n : Int32} : jF_Mo_noSchema (some 24) n H = some (bI (scOf T n).isNone) := by
  unfold jF_Mo_noSchema jJ_Mo_noSchema_12 scOf
  rw [qok h.m, Option.bind_some]
  by_cases h0 : n < 0
  · rw [if_pos h0, if_pos h0]; rfl
  · rw [if_neg h0, if_neg h0]
    obtain ⟨k, hk, rfl⟩ := nI_of h0
    rw [qgI h.m rfl, Option.bind_some]
    show (if nI k < v 0 then some (0 : Int32) else some 1) = _
    rw [h.2.1, if_ltN hk (by omega), nI_clamp hk]
    by_cases h1 : k < T.length
    · rw [if_pos h1, if_pos h1]; rfl
    · rw [if_neg h1, if_neg h1]; rfl
theorem Mo_fieldL (h : MSB H v T P) (hT : TOk T) (hP : P.length < 3) {n : Int32} {k : Nat} {has : Bool} {val : Int64} (hk : k < T.length) : ∀ (m i g : Nat), i + m = P.length → m < g →
    (fOf P n m i ≠ none → jL_Mo_field_42 fu g (some 24) n (nI k) (bI has) val (nI i) H = some (-1, H)) ∧
    (fOf P n m i = none → ∃ H', jL_Mo_field_42 fu g (some 24) n (nI k) (bI has) val (nI i) H = some (nI (P.length + 1), H') ∧ MSB H' (va_up v 13 (nI (P.length + 1))) T (P ++ [(n, k, has, val)]) ∧ Fr H H' (fun q => q = 24 ∨ 31 ≤ q ∧ q ≤ 34)) := by
  have hl := hT.1
  have h13 := h.2.2.1
  have hzb : bI has = 0 ∨ bI has = 1 := by cases has; exact Or.inl rfl; exact Or.inr rfl
  intro m
  induction m with
  | zero =>
    intro i g h1 h2
    obtain ⟨g', rfl⟩ : ∃ q, g = q + 1 := ⟨g - 1, by omega⟩
    refine ⟨fun q => absurd rfl q, fun _ => ?_⟩
    have h21 := h.2.1
    obtain ⟨h0, -, -, r3, r4, r5, r6, r7, r8, ⟨f9, a9, b9, c9⟩, ⟨f10, a10, b10, c10⟩, ⟨f11, a11, b11, c11⟩, ⟨f12, a12, b12, c12⟩⟩ := h
    rw [jL_Mo_field_42, qgI h0 rfl, Option.bind_some]
    show ∃ H', (if v 13 ≤ nI i then _ else _) = _ ∧ _
    rw [if_pos (by rw [h13]; exact nI_le (by omega) (by omega))]
    have m0 : MoAt H v := h0
    rw [qgR h0 rfl, Option.bind_some, Option.bind_some]
    show ∃ H', ((zsI H (some 31) 0 (72 + v 13) n).bind _) = _ ∧ _
    rw [h13, li72, nI_add, qsI a9 (by omega) (by omega), Option.bind_some]
    generalize hH1 : zset H 31 (.inl (0, 75, .inl (va_up f9 (72 + P.length) n))) = H1
    have F1 : Fr H H1 (fun q => q = 24 ∨ 31 ≤ q ∧ q ≤ 34) := by rw [← hH1]; exact Fr.set (Or.inr (by omega))
    have m1 : MoAt H1 v := by rw [← hH1]; unfold MoAt; rw [zgo_set_ne (by decide)]; exact m0
    have a9' : AI H1 31 75 (va_up f9 (72 + P.length) n) := by rw [← hH1]; exact zgo_set_same a9
    have a10' : AI H1 32 75 f10 := by rw [← hH1]; unfold AI; rw [zgo_set_ne (by decide)]; exact a10
    have a11' : AZ H1 33 75 f11 := by rw [← hH1]; unfold AZ; rw [zgo_set_ne (by decide)]; exact a11
    have a12' : AJ H1 34 75 f12 := by rw [← hH1]; unfold AJ; rw [zgo_set_ne (by decide)]; exact a12
    rw [qgR m1 rfl, Option.bind_some, qgI m1 rfl, Option.bind_some]
    show ∃ H', ((zsI H1 (some 32) 0 (nI 72 + v 13) (nI k)).bind _) = _ ∧ _
    rw [h13, nI_add, qsI a10' (by omega) (by omega), Option.bind_some]
    generalize hH2 : zset H1 32 (.inl (0, 75, .inl (va_up f10 (72 + P.length) (nI k)))) = H2
    have F2 : Fr H1 H2 (fun q => q = 24 ∨ 31 ≤ q ∧ q ≤ 34) := by rw [← hH2]; exact Fr.set (Or.inr (by omega))
    have m2 : MoAt H2 v := by rw [← hH2]; unfold MoAt; rw [zgo_set_ne (by decide)]; exact m1
    have a9'' : AI H2 31 75 (va_up f9 (72 + P.length) n) := by rw [← hH2]; unfold AI; rw [zgo_set_ne (by decide)]; exact a9'
    have a10'' : AI H2 32 75 (va_up f10 (72 + P.length) (nI k)) := by rw [← hH2]; exact zgo_set_same a10'
    have a11'' : AZ H2 33 75 f11 := by rw [← hH2]; unfold AZ; rw [zgo_set_ne (by decide)]; exact a11'
    have a12'' : AJ H2 34 75 f12 := by rw [← hH2]; unfold AJ; rw [zgo_set_ne (by decide)]; exact a12'
    rw [qgR m2 rfl, Option.bind_some, qgI m2 rfl, Option.bind_some]
    show ∃ H', ((zsZ H2 (some 33) 1 (nI 72 + v 13) (bI has)).bind _) = _ ∧ _
    rw [h13, nI_add, qsZ hzb a11'' (by omega) (by omega), Option.bind_some]
    generalize hH3 : zset H2 33 (.inl (1, 75, .inl (va_up f11 (72 + P.length) (bI has)))) = H3
    have F3 : Fr H2 H3 (fun q => q = 24 ∨ 31 ≤ q ∧ q ≤ 34) := by rw [← hH3]; exact Fr.set (Or.inr (by omega))
    have m3 : MoAt H3 v := by rw [← hH3]; unfold MoAt; rw [zgo_set_ne (by decide)]; exact m2
    have d9 : AI H3 31 75 (va_up f9 (72 + P.length) n) := by rw [← hH3]; unfold AI; rw [zgo_set_ne (by decide)]; exact a9''
    have d10 : AI H3 32 75 (va_up f10 (72 + P.length) (nI k)) := by rw [← hH3]; unfold AI; rw [zgo_set_ne (by decide)]; exact a10''
    have d11 : AZ H3 33 75 (va_up f11 (72 + P.length) (bI has)) := by rw [← hH3]; exact zgo_set_same a11''
    have d12 : AJ H3 34 75 f12 := by rw [← hH3]; unfold AJ; rw [zgo_set_ne (by decide)]; exact a12''
    rw [qgR m3 rfl, Option.bind_some, qgI m3 rfl, Option.bind_some]
    show ∃ H', ((zsL H3 (some 34) 2 (nI 72 + v 13) val).bind _) = _ ∧ _
    rw [h13, nI_add, qsL d12 (by omega) (by omega), Option.bind_some]
    generalize hH4 : zset H3 34 (.inl (2, 75, .inr (.inl (va_up f12 (72 + P.length) val)))) = H4
    have F4 : Fr H3 H4 (fun q => q = 24 ∨ 31 ≤ q ∧ q ≤ 34) := by rw [← hH4]; exact Fr.set (Or.inr (by omega))
    have m4 : MoAt H4 v := by rw [← hH4]; unfold MoAt; rw [zgo_set_ne (by decide)]; exact m3
    have e9 : AI H4 31 75 (va_up f9 (72 + P.length) n) := by rw [← hH4]; unfold AI; rw [zgo_set_ne (by decide)]; exact d9
    have e10 : AI H4 32 75 (va_up f10 (72 + P.length) (nI k)) := by rw [← hH4]; unfold AI; rw [zgo_set_ne (by decide)]; exact d10
    have e11 : AZ H4 33 75 (va_up f11 (72 + P.length) (bI has)) := by rw [← hH4]; unfold AZ; rw [zgo_set_ne (by decide)]; exact d11
    have e12 : AJ H4 34 75 (va_up f12 (72 + P.length) val) := by rw [← hH4]; exact zgo_set_same d12
    rw [qgI m4 rfl, Option.bind_some]
    show ∃ H', ((zpV H4 (some 24) 1 13 (zI (v 13 + 1))).bind _) = _ ∧ _
    rw [h13, nI_1, m4.set (by omega), Option.bind_some]
    have m5 := m4.new (w := va_up v 13 (nI (P.length + 1)))
    rw [qgI m5 rfl, Option.bind_some]
    have F5 : Fr H4 (zset H4 24 (.inr (1, MoF (va_up v 13 (nI (P.length + 1)))))) (fun q => q = 24 ∨ 31 ≤ q ∧ q ≤ 34) := Fr.set (Or.inl rfl)
    have Fa := (((F1.tr F2).tr F3).tr F4).tr F5
    have low : ∀ {a N : Nat} {f : Nat → Int32}, AI H a N f → 25 ≤ a → a ≤ 30 → AI (zset H4 24 (.inr (1, MoF (va_up v 13 (nI (P.length + 1)))))) a N f := fun hh q1 q2 => hh.fr Fa (by omega)
    have tl : ∀ {α : Type} (f : Nat → α) (x : α) (s i : Nat), s < T.length → i < (fl T s).length → va_up f (72 + P.length) x (3 * s + i) = f (3 * s + i) := by
      intro α f x s i hs hi
      have := (hT.2 s hs).2.2.2.1
      exact zup_ne (by omega)
    have tp : ∀ {α : Type} (f : Nat → α) (x : α) (g : yF → α) (hx : g (n, k, has, val) = x), (∀ i, i < P.length → f (72 + i) = g (P.getD i yF0)) → ∀ i, i < (P ++ [(n, k, has, val)]).length → va_up f (72 + P.length) x (72 + i) = g ((P ++ [(n, k, has, val)]).getD i yF0) := by
      intro α f x g hx hc i hi
      rw [List.length_append, List.length_singleton] at hi
      rw [getD_snoc _ _ _ _ hi]
      unfold va_up
      by_cases he : i = P.length
      · rw [if_pos (by omega), if_pos he, hx]
      · rw [if_neg (by omega), if_neg he]
        exact hc i (by omega)
    refine ⟨_, rfl, ⟨m5, ?_, ?_, ?_, ?_, ?_, ?_, ?_, ?_, ?_, ?_, ?_, ?_⟩, Fa⟩
    · exact h21
    · rw [List.length_append]; rfl
    · obtain ⟨f, q1, q2⟩ := r3; exact ⟨f, low q1 (by omega) (by omega), q2⟩
    · obtain ⟨f, q1, q2⟩ := r4; exact ⟨f, low q1 (by omega) (by omega), q2⟩
    · obtain ⟨f, q1, q2⟩ := r5; exact ⟨f, low q1 (by omega) (by omega), q2⟩
    · obtain ⟨f, q1, q2⟩ := r6; exact ⟨f, low q1 (by omega) (by omega), q2⟩
    · obtain ⟨f, q1, q2⟩ := r7; exact ⟨f, low q1 (by omega) (by omega), q2⟩
    · obtain ⟨f, q1, q2⟩ := r8; exact ⟨f, low q1 (by omega) (by omega), q2⟩
    · exact ⟨_, (by unfold AI; rw [zgo_set_ne (by decide)]; exact e9), fun s i hs hi => by rw [tl f9 _ s i hs hi]; exact b9 s i hs hi, tp f9 n (fun q => q.1) rfl c9⟩
    · exact ⟨_, (by unfold AI; rw [zgo_set_ne (by decide)]; exact e10), fun s i hs hi => by rw [tl f10 _ s i hs hi]; exact b10 s i hs hi, tp f10 (nI k) (fun q => nI q.2.1) rfl c10⟩
    · exact ⟨_, (by unfold AZ; rw [zgo_set_ne (by decide)]; exact e11), fun s i hs hi => by rw [tl f11 _ s i hs hi]; exact b11 s i hs hi, tp f11 (bI has) (fun q => bI q.2.2.1) rfl c11⟩
    · exact ⟨_, (by unfold AJ; rw [zgo_set_ne (by decide)]; exact e12), fun s i hs hi => by rw [tl f12 _ s i hs hi]; exact b12 s i hs hi, tp f12 val (fun q => q.2.2.2) rfl c12⟩
  | succ m ih =>
    intro i g h1 h2
    obtain ⟨g', rfl⟩ : ∃ q, g = q + 1 := ⟨g - 1, by omega⟩
    obtain ⟨f9, a9, b9, c9⟩ := h.2.2.2.2.2.2.2.2.2.1
    have hv : zgI H (some 24) 1 13 = some (nI P.length) := by rw [← h13]; exact qgI h.m rfl
    have hstep : jL_Mo_field_42 fu (g' + 1) (some 24) n (nI k) (bI has) val (nI i) H = if (P.getD i yF0).1 = n then some (-1, H) else jL_Mo_field_42 fu g' (some 24) n (nI k) (bI has) val (nI (i + 1)) H := by
      rw [jL_Mo_field_42, hv, Option.bind_some, if_neg (nI_ge (by omega) (by omega)), qgR h.m rfl, Option.bind_some, li72, nI_add, qaI a9 (by omega) (by omega), Option.bind_some, c9 i (by omega), nI_1]
    rw [hstep, fOf]
    by_cases hn : (P.getD i yF0).1 = n
    · rw [if_pos hn, if_pos hn]
      exact ⟨fun _ => rfl, fun q => by cases q⟩
    · rw [if_neg hn, if_neg hn]
      exact ih (i + 1) g' (by omega) (by omega)
theorem Mo_field (h : MSB H v T P) (hT : TOk T) (hp : TPos T) (hP : P.length ≤ 3) (hfu : 5 ≤ fu) {n s : Int32} {has : Bool} {val : Int64} :
    (fldOk T P n s has val → ∃ k H', scOf T s = some k ∧ jF_Mo_field fu (some 24) n s (bI has) val H = some (nI (P.length + 1), H') ∧ MSB H' (va_up v 13 (nI (P.length + 1))) T (P ++ [(n, k, has, val)]) ∧ Fr H H' (fun q => q = 24 ∨ 31 ≤ q ∧ q ≤ 34)) ∧
    (¬ fldOk T P n s has val → jF_Mo_field fu (some 24) n s (bI has) val H = some (-1, H)) := by
  have hv : zgI H (some 24) 1 13 = some (nI P.length) := by rw [← h.2.2.1]; exact qgI h.m rfl
  unfold jF_Mo_field
  simp only [qok h.m, hv, Option.bind_some, Mo_noName, Mo_noSchema h hT.1]
  rw [li3, if_eqN (by omega) (by omega), if_bI, if_bI, if_bI]
  by_cases c1 : P.length = 3
  · rw [if_pos c1]
    exact ⟨fun q => absurd c1 q.1, fun _ => rfl⟩
  · rw [if_neg c1]
    by_cases c2 : nmOk n
    · rw [if_neg (by rw [decide_eq_true c2]; exact Bool.false_ne_true)]
      cases c4 : scOf T s with
      | none =>
        rw [if_pos (show (none : Option Nat).isNone = true from rfl)]
        exact ⟨fun q => (by obtain ⟨k, q1, -⟩ := q.2.2.2; rw [c4] at q1; cases q1), fun _ => rfl⟩
      | some k =>
        obtain ⟨hk, rfl⟩ := scOf_some c4
        rw [if_neg (show ¬ (some k).isNone = true from Bool.false_ne_true)]
        have hL := Mo_fieldL (fu := fu) (n := n) (has := has) (val := val) h hT (by omega) hk P.length 0 fu (by omega) (by omega)
        rw [nI_0] at hL
        have fin : (has = true → isDf T 7 k val = true) → (fldOk T P n (nI k) has val → ∃ k' H', some k = some k' ∧ jL_Mo_field_42 fu fu (some 24) n (nI k) (bI has) val 0 H = some (nI (P.length + 1), H') ∧ MSB H' (va_up v 13 (nI (P.length + 1))) T (P ++ [(n, k', has, val)]) ∧ Fr H H' (fun q => q = 24 ∨ 31 ≤ q ∧ q ≤ 34)) ∧ (¬ fldOk T P n (nI k) has val → jL_Mo_field_42 fu fu (some 24) n (nI k) (bI has) val 0 H = some (-1, H)) := by
          intro hd
          refine ⟨fun q => ?_, fun q => hL.1 (fun hh => q ⟨c1, c2, hh, k, c4, hd⟩)⟩
          obtain ⟨H', g1, g2, g3⟩ := hL.2 q.2.2.1
          exact ⟨k, H', rfl, g1, g2, g3⟩
        cases has with
        | false => rw [if_neg Bool.false_ne_true]; exact fin (fun q => by cases q)
        | true =>
          rw [if_pos rfl, Mo_isDefault h hT hp hk, Option.bind_some, if_bI]
          cases c5 : isDf T 7 k val with
          | true => rw [if_pos rfl]; exact fin (fun _ => c5)
          | false =>
            rw [if_neg Bool.false_ne_true]
            exact ⟨fun q => (by obtain ⟨k', q1, q2⟩ := q.2.2.2; rw [c4] at q1; cases q1; rw [q2 rfl] at c5; cases c5), fun _ => rfl⟩
    · rw [if_pos (by rw [decide_eq_false c2]; rfl)]
      exact ⟨fun q => absurd q.2.1 c2, fun _ => rfl⟩
end MF
