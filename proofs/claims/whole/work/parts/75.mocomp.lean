/-! compact of the reference. -/
section MC
variable {T : yT} {P : List yF} {D : yD} {xs fo : List Int64} {g : Nat × Nat × List Nat} {fu : Nat}
def jnA (dk : Nat → Nat) : Option (Nat × Nat) → Nat
  | none => dk 0
  | some p => p.1
theorem Mo_joinsN {H : zH} {v : Nat → Int32} (h : MDisk H v D) {i : Int32} : jF_Mo_joins (some 24) i (-1) H = some 0 := by
  unfold jF_Mo_joins
  rw [qok h.1, Option.bind_some, if_pos (by decide)]
theorem Mo_compL {H : zH} {v : Nat → Int32} (h : MDisk H v D) (hd : dkOk D.2.2.2) (hm : mOk D.2.2.2) {u : Nat} (hu : u < 256) (hfu : 11 ≤ fu) : ∀ (k i g' : Nat), i + k = D.2.2.2 0 → k < g' → jL_Mo_compact_21 fu g' (some 24) (nI u) (nI i) H = jJ_Mo_compact_59 fu (some 24) (nI (jnA D.2.2.2 (mJoin D.2.2.2 u k i))) H := by
  have hm1 := hm.1
  have hd1 := hd.1
  intro k
  induction k with
  | zero =>
    intro i g' h1 h2
    obtain ⟨q, rfl⟩ : ∃ q, g' = q + 1 := ⟨g' - 1, by omega⟩
    rw [jL_Mo_compact_21, qgR h.1 rfl, Option.bind_some, Mo_d0 h, Option.bind_some, if_pos (nI_le (by omega) (by omega)), show i = D.2.2.2 0 by omega]
    rfl
  | succ k ih =>
    intro i g' h1 h2
    obtain ⟨q, rfl⟩ : ∃ q, g' = q + 1 := ⟨g' - 1, by omega⟩
    have ih' := ih (i + 1) q (by omega) (by omega)
    rw [jL_Mo_compact_21, qgR h.1 rfl, Option.bind_some, Mo_d0 h, Option.bind_some, if_neg (nI_ge (by omega) (by omega)), Mo_fsub h (by omega), Option.bind_some, nI_1, if_eqN (by have := hd1 (1 + 3 * i); omega) (by omega), mJoin]
    by_cases h4 : D.2.2.2 (1 + 3 * i) = u
    · rw [if_pos h4, if_pos h4, Mo_next h hd hm (by omega) (by omega), Option.bind_some, h4, show D.2.2.2 0 - (i + 1) = k by omega]
      cases hn : mNext D.2.2.2 u k (i + 1) with
      | none =>
        dsimp only
        rw [show limI none = (-1 : Int32) from rfl, Mo_joinsN h, Option.bind_some, if_pos rfl]
        exact ih'
      | some j =>
        have hj := mNext_lt _ _ _ hn
        dsimp only
        rw [show limI (some j) = nI j from rfl, Mo_joins h hd hm (by omega) (by omega) (by omega), Option.bind_some, if_bI]
        cases hc : canJ D.2.2.2 i j with
        | false =>
          rw [if_neg Bool.false_ne_true, if_neg Bool.false_ne_true]
          exact ih'
        | true =>
          rw [if_pos rfl, if_pos rfl]
          rfl
    · rw [if_neg h4, if_neg h4]
      exact ih'
theorem Mo_cp1 {f : Nat} {a3 : Int32} {hd : List Nat} (hm : mOk D.2.2.2) (hf : f < D.2.2.2 0) (hb : fByt D.2.2.2 f < 70000) (ha : fAt D.2.2.2 f + 5 + fByt D.2.2.2 f ≤ 1280) (hl : hd.length + fByt D.2.2.2 f < 320) : ∀ (m i g' : Nat) (H : zH) (v : Nat → Int32), i + m = fByt D.2.2.2 f → MRv H v (T, P, D, xs, g, fo) → MBy H v (hd ++ dB D.2.2.2 (fAt D.2.2.2 f + 5) i) →
    ∃ H' v', jL_Mo_compact_111 fu (g' + 1 + m) (some 24) (nI f) a3 (nI i) H = jL_Mo_compact_111 fu (g' + 1) (some 24) (nI f) a3 (nI (fByt D.2.2.2 f)) H' ∧ MRv H' v' (T, P, D, xs, g, fo) ∧ MBy H' v' (hd ++ dB D.2.2.2 (fAt D.2.2.2 f + 5) (fByt D.2.2.2 f)) ∧ Fr H H' (A2 24 41) := by
  have hm1 := hm.1
  intro m
  induction m with
  | zero =>
    intro i g' H v h1 h hB
    have : i = fByt D.2.2.2 f := by omega
    subst this
    exact ⟨H, v, rfl, h, hB, Fr.rf⟩
  | succ m ih =>
    intro i g' H v h1 h hB
    have z1 : jF_Mo_fileBytes (some 24) (nI f) H = some (nI (fByt D.2.2.2 f)) := Mo_fbyt h.2.2.1 hm hf
    have z2 : jF_Mo_fileAt (some 24) (nI f) H = some (nI (fAt D.2.2.2 f)) := Mo_fat h.2.2.1 (by omega)
    have z3 : zaI H (some 37) 0 (nI (fAt D.2.2.2 f + 5 + i)) = some (nI (D.2.2.2 (fAt D.2.2.2 f + 5 + i))) := Mo_dk h.2.2.1 (by omega)
    rw [show g' + 1 + (m + 1) = (g' + 1 + m) + 1 by omega, jL_Mo_compact_111, z1, Option.bind_some, if_neg (nI_ge (by omega) (by omega)), qgR h.m rfl, Option.bind_some, z2, Option.bind_some, li5, nI_add, nI_add, z3, Option.bind_some, nI_1]
    obtain ⟨H1, v1, e1, e2, e3, e4⟩ := Mo_pb (b := D.2.2.2 (fAt D.2.2.2 f + 5 + i)) h hB (by rw [List.length_append, dB_len]; omega)
    rw [e1, Option.bind_some]
    rw [List.append_assoc] at e3
    obtain ⟨H2, v2, f1, f2, f3, f4⟩ := ih (i + 1) g' H1 v1 (by omega) e2 e3
    exact ⟨H2, v2, f1, f2, f3, e4.tr f4⟩
theorem Mo_cp2 {f : Nat} {a2 : Int32} {hd : List Nat} (hm : mOk D.2.2.2) (hf : f < D.2.2.2 0) (hb : fByt D.2.2.2 f < 70000) (ha : fAt D.2.2.2 f + 5 + fByt D.2.2.2 f ≤ 1280) (hl : hd.length + fByt D.2.2.2 f < 320) : ∀ (m i g' : Nat) (H : zH) (v : Nat → Int32), i + m = fByt D.2.2.2 f → MRv H v (T, P, D, xs, g, fo) → MBy H v (hd ++ dB D.2.2.2 (fAt D.2.2.2 f + 5) i) →
    ∃ H' v', jL_Mo_compact_149 fu (g' + 1 + m) (some 24) a2 (nI f) (nI i) H = jL_Mo_compact_149 fu (g' + 1) (some 24) a2 (nI f) (nI (fByt D.2.2.2 f)) H' ∧ MRv H' v' (T, P, D, xs, g, fo) ∧ MBy H' v' (hd ++ dB D.2.2.2 (fAt D.2.2.2 f + 5) (fByt D.2.2.2 f)) ∧ Fr H H' (A2 24 41) := by
  have hm1 := hm.1
  intro m
  induction m with
  | zero =>
    intro i g' H v h1 h hB
    have : i = fByt D.2.2.2 f := by omega
    subst this
    exact ⟨H, v, rfl, h, hB, Fr.rf⟩
  | succ m ih =>
    intro i g' H v h1 h hB
    have z1 : jF_Mo_fileBytes (some 24) (nI f) H = some (nI (fByt D.2.2.2 f)) := Mo_fbyt h.2.2.1 hm hf
    have z2 : jF_Mo_fileAt (some 24) (nI f) H = some (nI (fAt D.2.2.2 f)) := Mo_fat h.2.2.1 (by omega)
    have z3 : zaI H (some 37) 0 (nI (fAt D.2.2.2 f + 5 + i)) = some (nI (D.2.2.2 (fAt D.2.2.2 f + 5 + i))) := Mo_dk h.2.2.1 (by omega)
    rw [show g' + 1 + (m + 1) = (g' + 1 + m) + 1 by omega, jL_Mo_compact_149, z1, Option.bind_some, if_neg (nI_ge (by omega) (by omega)), qgR h.m rfl, Option.bind_some, z2, Option.bind_some, li5, nI_add, nI_add, z3, Option.bind_some, nI_1]
    obtain ⟨H1, v1, e1, e2, e3, e4⟩ := Mo_pb (b := D.2.2.2 (fAt D.2.2.2 f + 5 + i)) h hB (by rw [List.length_append, dB_len]; omega)
    rw [e1, Option.bind_some]
    rw [List.append_assoc] at e3
    obtain ⟨H2, v2, f1, f2, f3, f4⟩ := ih (i + 1) g' H1 v1 (by omega) e2 e3
    exact ⟨H2, v2, f1, f2, f3, e4.tr f4⟩
def shf (f0 : Nat → Int32) (a q : Nat) : Nat → Int32 := fun j => if a ≤ j ∧ j < q then (if j + 3 < 29 then f0 (j + 3) else 0) else f0 j
theorem Mo_shL {W : yW} {f0 : Nat → Int32} {a : Nat} : ∀ (m q g' : Nat) (H : zH) (v : Nat → Int32), q + m = 29 → a ≤ q → MRv H v W → (∃ f, AI H 42 32 f ∧ ∀ j, j < 32 → f j = shf f0 a q j) →
    ∃ H', jL_Mo_compact_263 fu (g' + 1 + m) (some 24) (nI q) H = jL_Mo_compact_263 fu (g' + 1) (some 24) (nI 29) H' ∧ MRv H' v W ∧ (∃ f, AI H' 42 32 f ∧ ∀ j, j < 32 → f j = shf f0 a 29 j) ∧ Fr H H' (fun q => q = 42) := by
  intro m
  induction m with
  | zero =>
    intro q g' H v h1 h2 h hf
    have : q = 29 := by omega
    subst this
    exact ⟨H, rfl, h, hf, Fr.rf⟩
  | succ m ih =>
    intro q g' H v h1 h2 h hf
    obtain ⟨f, ha, hb⟩ := hf
    have hst : ∀ x : Int32, x = (if q + 3 < 29 then f0 (q + 3) else 0) → ∃ H', jJ_Mo_compact_298 fu (fun x0 x1 x2 => jL_Mo_compact_263 fu (g' + 1 + m) x0 x1 x2) x (nI q) (some 42) (some 24) (nI q) H = jL_Mo_compact_263 fu (g' + 1) (some 24) (nI 29) H' ∧ MRv H' v W ∧ (∃ f, AI H' 42 32 f ∧ ∀ j, j < 32 → f j = shf f0 a 29 j) ∧ Fr H H' (fun q => q = 42) := by
      intro x hx
      obtain ⟨H1, e1, e2, e3, e4⟩ := Mo_blk (i := q) (x := x) h ha (by omega)
      rw [jJ_Mo_compact_298, e1, Option.bind_some, nI_1]
      obtain ⟨H2, f1, f2, f3, f4⟩ := ih (q + 1) g' H1 v (by omega) (by omega) e2 ⟨_, e3, fun j hj => by
        by_cases hjq : j = q
        · subst hjq
          rw [zup_same, hx, shf, if_pos (show a ≤ j ∧ j < j + 1 by omega)]
        · rw [zup_ne hjq, hb j hj]
          unfold shf
          by_cases hc : a ≤ j ∧ j < q
          · rw [if_pos hc, if_pos (show a ≤ j ∧ j < q + 1 by omega)]
          · rw [if_neg hc, if_neg (show ¬ (a ≤ j ∧ j < q + 1) by omega)]⟩
      exact ⟨H2, f1, f2, f3, e4.tr f4⟩
    rw [show g' + 1 + (m + 1) = (g' + 1 + m) + 1 by omega, jL_Mo_compact_263, if_neg (show ¬ (29 : Int32) ≤ nI q from nI_ge (b := 29) (by omega) (by omega)), qgR h.m rfl, Option.bind_some, li29, li3, nI_add, if_leN (by omega) (by omega)]
    by_cases hc : 29 ≤ q + 3
    · rw [if_pos hc]
      exact hst 0 (by rw [if_neg (by omega)])
    · rw [if_neg hc, Option.bind_some, qaI ha (by omega) (by omega), Option.bind_some]
      exact hst _ (by rw [hb _ (by omega), shf, if_neg (show ¬ (a ≤ q + 3 ∧ q + 3 < q) by omega), if_pos (show q + 3 < 29 by omega)])
/-- behind the joined file: the manifest without the second -/
theorem Mo_manJ {H : zH} {v : Nat → Int32} {dk : Nat → Nat} {a c b nb : Nat} (h : MRv H v (T, P, D, xs, g, fo)) (hdk : ∀ q, q < 64 → D.2.2.2 q = dk q) (hac : a < c) (hc : c < dk 0) (h9 : dk 0 ≤ 9) (hl : limOk D) (hfu : 60 ≤ fu) :
    ∃ H' v', ((jF_Mo_oldManifest fu (some 24) H).bind fun y229 =>
          (zgR y229 (some 24) 1 29).bind fun v233 =>
          (zsI y229 v233 0 ((2 : Int32) + ((3 : Int32) * nI a)) (nI b)).bind fun H243 =>
          (zgR H243 (some 24) 1 29).bind fun v245 =>
          (zsI H243 v245 0 ((3 : Int32) + ((3 : Int32) * nI a)) (nI nb)).bind fun H255 =>
          jL_Mo_compact_263 fu fu (some 24) ((1 : Int32) + ((3 : Int32) * nI c)) H255) = some (if (wrS D 0 (manJ dk a c b nb)).1 then 1 else -4, H') ∧ MRv H' v' (if (wrS D 0 (manJ dk a c b nb)).1 then (T, P, (wrS D 0 (manJ dk a c b nb)).2, xs, g, fo) else downW (T, P, D, xs, g, fo) (wrS D 0 (manJ dk a c b nb)).2) ∧ Fr H H' AM := by
  obtain ⟨H1, e1, e2, ⟨f0, a0, b0⟩, e4⟩ := Mo_old (fu := fu) h (by omega)
  rw [e1, Option.bind_some, qgR e2.m rfl, Option.bind_some, li3, li2, li1, pk_mul, pk_mul, nI_add, nI_add, nI_add]
  obtain ⟨H2, g1, g2, g3, g4⟩ := Mo_blk (i := 2 + 3 * a) (x := nI b) e2 a0 (by omega)
  rw [g1, Option.bind_some, qgR g2.m rfl, Option.bind_some]
  obtain ⟨H3, i1, i2, i3, i4⟩ := Mo_blk (i := 3 + 3 * a) (x := nI nb) g2 g3 (by omega)
  rw [i1, Option.bind_some]
  generalize hf1 : va_up (va_up f0 (2 + 3 * a) (nI b)) (3 + 3 * a) (nI nb) = f1 at i3
  obtain ⟨H4, j1, j2, ⟨f2, j3, j4⟩, j5⟩ := Mo_shL (fu := fu) (f0 := f1) (a := 1 + 3 * c) (29 - (1 + 3 * c)) (1 + 3 * c) (fu - 1 - (29 - (1 + 3 * c))) H3 v (by omega) (Nat.le_refl _) i2 ⟨f1, i3, fun j hj => by rw [shf, if_neg (by omega)]⟩
  rw [show fu - 1 - (29 - (1 + 3 * c)) + 1 + (29 - (1 + 3 * c)) = fu by omega] at j1
  rw [j1, jL_Mo_compact_263, if_pos (show (29 : Int32) ≤ nI 29 from nI_le (Nat.le_refl _) (by omega)), qgR j2.m rfl, Option.bind_some]
  have hf1v : ∀ j, j < 32 → f1 j = if j = 3 + 3 * a then nI nb else if j = 2 + 3 * a then nI b else nI (dk j) := by
    intro j hj
    rw [← hf1]
    show (if j = 3 + 3 * a then nI nb else if j = 2 + 3 * a then nI b else f0 j) = _
    rw [b0 j hj, hdk j (by omega)]
  have h20 : f2 0 = nI (dk 0) := by
    rw [j4 0 (by omega), shf, if_neg (by omega), hf1v 0 (by omega), if_neg (by omega), if_neg (by omega)]
  have z4 : zaI H4 (some 42) 0 0 = some (nI (dk 0)) := by
    rw [← h20]; exact qaI (i := 0) j3 (by omega) (by omega)
  rw [z4, Option.bind_some]
  have hpr : nI (dk 0) - 1 = nI (dk 0 - 1) := by
    obtain ⟨k, hk⟩ : ∃ k, dk 0 = k + 1 := ⟨dk 0 - 1, by omega⟩
    rw [hk]; exact nI_pred k
  obtain ⟨H5, k1, k2, k3, k4⟩ := Mo_blk (i := 0) (x := nI (dk 0 - 1)) j2 j3 (by omega)
  have k1' : zsI H4 (some 42) 0 0 (nI (dk 0 - 1)) = some H5 := k1
  rw [hpr, k1', Option.bind_some]
  obtain ⟨H6, v6, l1, l2, l3, l4⟩ := Mo_wr (fu := fu) (b := 0) (g' := manJ dk a c b nb) (by omega) k2 hl ⟨_, k3, fun j hj => by
    unfold manJ
    by_cases c0 : j = 0
    · subst c0; rw [zup_same, if_pos rfl]
    · rw [zup_ne c0, if_neg c0, j4 j hj, shf]
      by_cases c1 : 1 + 3 * c ≤ j ∧ j < 29
      · rw [if_pos c1, if_neg (show ¬ j = 2 + 3 * a by omega), if_neg (show ¬ j = 3 + 3 * a by omega), if_neg (show ¬ j < 1 + 3 * c by omega), if_pos c1.2]
        by_cases c2 : j + 3 < 29
        · rw [if_pos c2, if_pos c2, hf1v _ (by omega), if_neg (by omega), if_neg (by omega)]
        · rw [if_neg c2, if_neg c2]; rfl
      · rw [if_neg c1, hf1v j hj]
        by_cases c3 : j = 3 + 3 * a
        · rw [if_pos c3, if_neg (show ¬ j = 2 + 3 * a by omega), if_pos c3]
        · rw [if_neg c3]
          by_cases c4 : j = 2 + 3 * a
          · rw [if_pos c4, if_pos c4]
          · rw [if_neg c4, if_neg c4, if_neg c3]
            by_cases c5 : j < 1 + 3 * c
            · rw [if_pos c5]
            · rw [if_neg c5, if_neg (show ¬ j < 29 by omega)]⟩ (by omega)
  have l1' : jF_Mo_write fu (some 24) 0 H5 = some (bI (wrS D 0 (manJ dk a c b nb)).1, H6) := l1
  rw [l1', Option.bind_some]
  dsimp only
  rw [if_bI]
  have E : Fr H H6 AM := ((((((e4.tr g4).tr i4).tr j5).tr k4).up (fun q hq => by unfold AM; omega)).tr (l4.up (fun q hq => by unfold A2 at hq; unfold AM; omega)))
  cases hw : (wrS D 0 (manJ dk a c b nb)).1 with
  | false =>
    rw [hw] at l2
    exact ⟨H6, v6, rfl, l2, E⟩
  | true =>
    rw [hw] at l2
    exact ⟨H6, v6, rfl, l2, E⟩
theorem Mo_compact {H : zH} {v : Nat → Int32} {u : Int32} (h : MRv H v (T, P, D, xs, g, fo)) (hd : dkOk D.2.2.2) (hm : mOk D.2.2.2) (hl : limOk D) (hfb : ∀ i, i < D.2.2.2 0 → fAt D.2.2.2 i + 5 + fByt D.2.2.2 i ≤ 1280) (hfu : 600 ≤ fu) :
    ∃ H', jF_Mo_compact fu (some 24) u H = some ((compS u (T, P, D, xs, g, fo)).1, H') ∧ MRep H' (compS u (T, P, D, xs, g, fo)).2 ∧ Fr H H' AM := by
  have hm1 := hm.1
  unfold jF_Mo_compact compS
  rw [qok h.m, Option.bind_some, M_up h, Option.bind_some, if_nbI]
  dsimp only at *
  cases hup : D.1 with
  | false => exact ⟨H, rfl, ⟨v, h⟩, Fr.rf⟩
  | true =>
    rw [if_pos rfl, if_pos rfl, Mo_noSub, Option.bind_some, if_bI]
    cases hsu : suOf u with
    | none => exact ⟨H, rfl, ⟨v, h⟩, Fr.rf⟩
    | some k =>
      obtain ⟨hk, rfl⟩ := suOf_some hsu
      have hL : jL_Mo_compact_21 fu fu (some 24) (nI k) 0 H = jJ_Mo_compact_59 fu (some 24) (nI (jnA D.2.2.2 (mJoin D.2.2.2 k (D.2.2.2 0) 0))) H := Mo_compL (D := D) h.2.2.1 hd hm (by omega) (by omega) (D.2.2.2 0) 0 fu (by omega) (by omega)
      have hd0 : zaI H (some 37) 0 0 = some (nI (D.2.2.2 0)) := Mo_d0 h.2.2.1
      rw [show (some k).isNone = false from rfl, if_neg Bool.false_ne_true, hL, jJ_Mo_compact_59, qgR h.m rfl, Option.bind_some, hd0, Option.bind_some]
      dsimp only
      cases hj : mJoin D.2.2.2 k (D.2.2.2 0) 0 with
      | none =>
        rw [show jnA D.2.2.2 none = D.2.2.2 0 from rfl, if_pos rfl]
        exact ⟨H, rfl, ⟨v, h⟩, Fr.rf⟩
      | some fg =>
        obtain ⟨a, c⟩ := fg
        obtain ⟨j1, j2, j3, j4, j5, j6, j7⟩ := mJoin_lt _ _ _ _ hj
        rw [Nat.zero_add] at j3 j7
        have hc := of_decide_eq_true j6
        have ba := fByt_lt hd a
        have bc := fByt_lt hd c
        have z1 : jF_Mo_behind fu (some 24) (nI a) H = some (nI c) := by
          have := Mo_next (fu := fu) (D := D) h.2.2.1 hd hm (a := a) (by omega) (by omega)
          rw [j4, j7] at this
          exact this
        have z2 : jF_Mo_fileSchema (some 24) (nI a) H = some (nI (fSch D.2.2.2 a)) := Mo_fsch h.2.2.1 hm (show a < D.2.2.2 0 by omega)
        have z3 : jF_Mo_fileRecords (some 24) (nI a) H = some (nI (fRec D.2.2.2 a)) := Mo_frec h.2.2.1 hm (show a < D.2.2.2 0 by omega)
        have z4 : jF_Mo_fileRecords (some 24) (nI c) H = some (nI (fRec D.2.2.2 c)) := Mo_frec h.2.2.1 hm j3
        have z5 : jF_Mo_fileBytes (some 24) (nI a) H = some (nI (fByt D.2.2.2 a)) := Mo_fbyt h.2.2.1 hm (show a < D.2.2.2 0 by omega)
        have z6 : jF_Mo_fileBytes (some 24) (nI c) H = some (nI (fByt D.2.2.2 c)) := Mo_fbyt h.2.2.1 hm j3
        rw [show jnA D.2.2.2 (some (a, c)) = a from rfl, if_neg (fun q => by have := (nI_eq (by omega) (by omega)).mp q; omega), z1, Option.bind_some, z2, Option.bind_some, z3, Option.bind_some, z4, Option.bind_some, z5, Option.bind_some, z6, Option.bind_some, nI_add, nI_add]
        obtain ⟨H1, v1, e1, e2, e3, e4⟩ := Mo_head (s := fSch D.2.2.2 a) (n := fRec D.2.2.2 a + fRec D.2.2.2 c) (L := fByt D.2.2.2 a + fByt D.2.2.2 c) h (by omega)
        generalize hhd : fileH (fSch D.2.2.2 a) (fRec D.2.2.2 a + fRec D.2.2.2 c) (fByt D.2.2.2 a + fByt D.2.2.2 c) = hd' at e3
        have hhl : hd'.length = 5 := by rw [← hhd]; rfl
        obtain ⟨H2, v2, f1, f2, f3, f4⟩ := Mo_cp1 (fu := fu) (f := a) (a3 := nI c) (hd := hd') hm (by omega) (by omega) (hfb a (by omega)) (by omega) (fByt D.2.2.2 a) 0 (fu - 1 - fByt D.2.2.2 a) H1 v1 (by omega) e2 (by rw [dB, List.append_nil]; exact e3)
        rw [show fu - 1 - fByt D.2.2.2 a + 1 + fByt D.2.2.2 a = fu by omega] at f1
        have f1' : jL_Mo_compact_111 fu fu (some 24) (nI a) (nI c) 0 H1 = _ := f1
        have y5 : jF_Mo_fileBytes (some 24) (nI a) H2 = some (nI (fByt D.2.2.2 a)) := Mo_fbyt f2.2.2.1 hm (show a < D.2.2.2 0 by omega)
        rw [e1, Option.bind_some, f1', jL_Mo_compact_111, y5, Option.bind_some, if_pos (nI_le (Nat.le_refl _) (by omega))]
        obtain ⟨H3, v3, g1, g2, g3, g4⟩ := Mo_cp2 (fu := fu) (f := c) (a2 := nI a) (hd := hd' ++ dB D.2.2.2 (fAt D.2.2.2 a + 5) (fByt D.2.2.2 a)) hm j3 (by omega) (hfb c j3) (by rw [List.length_append, dB_len]; omega) (fByt D.2.2.2 c) 0 (fu - 1 - fByt D.2.2.2 c) H2 v2 (by omega) f2 (by rw [show dB D.2.2.2 (fAt D.2.2.2 c + 5) 0 = [] from rfl, List.append_nil]; exact f3)
        rw [show fu - 1 - fByt D.2.2.2 c + 1 + fByt D.2.2.2 c = fu by omega] at g1
        have g1' : jL_Mo_compact_149 fu fu (some 24) (nI a) (nI c) 0 H2 = _ := g1
        have y6 : jF_Mo_fileBytes (some 24) (nI c) H3 = some (nI (fByt D.2.2.2 c)) := Mo_fbyt g2.2.2.1 hm j3
        rw [g1', jL_Mo_compact_149, y6, Option.bind_some, if_pos (nI_le (Nat.le_refl _) (by omega))]
        rw [List.append_assoc] at g3
        have hll : (dB D.2.2.2 (fAt D.2.2.2 a + 5) (fByt D.2.2.2 a) ++ dB D.2.2.2 (fAt D.2.2.2 c + 5) (fByt D.2.2.2 c)).length = fByt D.2.2.2 a + fByt D.2.2.2 c := by rw [List.length_append, dB_len, dB_len]
        obtain ⟨H4, v4, i1, i2, i3, i4⟩ := Mo_check (fu := fu) g2 g3 (by rw [List.length_append, hll]; omega) (by rw [← hhd]; exact (byOk.head (by omega) (by omega) (by omega)).app ((dB_ok hd _ _).app (dB_ok hd _ _))) (by omega)
        have E4 : Fr H H4 AM := ((((e4.tr f4).tr g4).tr i4)).up (fun q hq => by unfold A2 at hq; unfold AM; omega)
        have hfe : hd' ++ (dB D.2.2.2 (fAt D.2.2.2 a + 5) (fByt D.2.2.2 a) ++ dB D.2.2.2 (fAt D.2.2.2 c + 5) (fByt D.2.2.2 c)) ++ [(hd' ++ (dB D.2.2.2 (fAt D.2.2.2 a + 5) (fByt D.2.2.2 a) ++ dB D.2.2.2 (fAt D.2.2.2 c + 5) (fByt D.2.2.2 c))).sum % 251] = joinB D.2.2.2 a c := by
          unfold joinB fileB
          rw [hll, hhd]
        rw [hfe] at i3
        have hfl : (joinB D.2.2.2 a c).length = fByt D.2.2.2 a + fByt D.2.2.2 c + 6 := by
          unfold joinB
          rw [fileB_len, hll]
        generalize hF : joinB D.2.2.2 a c = F at *
        have hz8 : zgI H4 (some 24) 1 28 = some (nI F.length) := by rw [← i3.2.1]; exact qgI i2.m rfl
        have hnb : ((F.length + 31) / 32) = nBl F := rfl
        have hnl : nBl F ≤ 8 := by unfold nBl; omega
        have hro : jF_Mo_room fu (some 24) (nI (nBl F)) H4 = some (limI (roomS D.2.2.2 (nBl F))) := Mo_room i2.2.2.1 hd hm (by omega) (by omega) (by omega)
        rw [i1, Option.bind_some, hz8, Option.bind_some, li31, nI_add, li32, pk_div (by omega) (by omega) (by omega), hnb, hro, Option.bind_some]
        dsimp only
        rw [hF]
        cases hrm : roomS D.2.2.2 (nBl F) with
        | none =>
          rw [show limI none = (-1 : Int32) from rfl, if_neg (show ¬ (0 : Int32) ≤ -1 by decide)]
          exact ⟨H4, rfl, ⟨v4, i2⟩, E4⟩
        | some b =>
          obtain ⟨r1, r2, r3⟩ := room_fit (by unfold nBl; omega) hrm
          rw [show limI (some b) = nI b from rfl, if_pos (nI_pos' (by omega))]
          dsimp only
          obtain ⟨H5, v5, k1, k2, k3, k4⟩ := Mo_wf (fu := fu) (first := b) i2 i3 (by omega) r2 hl (by omega)
          rw [k1, Option.bind_some]
          dsimp only
          rw [if_bI]
          cases hw : (wrAll b F (nBl F) 0 D).1 with
          | false =>
            rw [hw, if_neg Bool.false_ne_true] at k2
            rw [if_neg Bool.false_ne_true, commS_f hw, hw, if_neg Bool.false_ne_true]
            exact ⟨H5, rfl, ⟨v5, k2⟩, E4.tr k4⟩
          | true =>
            rw [hw, if_pos rfl] at k2
            rw [if_pos rfl]
            obtain ⟨H6, v6, l1, l2, l3⟩ := Mo_manJ (fu := fu) (dk := D.2.2.2) (a := a) (c := c) (b := b) (nb := nBl F) k2 (fun q hq => wrAll_out _ _ _ _ (by omega)) j2 j3 hm1 (limOk_wrAll _ _ _ hl) (by omega)
            have E6 := (E4.tr k4).tr l3
            rw [← commS_t hw (mb := manJ D.2.2.2 a c b (nBl F))] at l1 l2
            rw [l1]
            cases hc : (commS D b F (manJ D.2.2.2 a c b (nBl F))).1 with
            | false =>
              rw [hc] at l2
              rw [if_neg Bool.false_ne_true, if_neg Bool.false_ne_true]
              exact ⟨H6, rfl, ⟨v6, l2⟩, E6⟩
            | true =>
              rw [hc] at l2
              rw [if_pos rfl, if_pos rfl]
              exact ⟨H6, rfl, ⟨v6, l2⟩, E6⟩
end MC
