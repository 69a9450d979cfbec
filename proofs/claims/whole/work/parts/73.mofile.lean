/-! The reference writes files and manifests. -/
theorem wrAll_out {first : Nat} {fl : List Nat} : ∀ (m i : Nat) (D : yD) (q : Nat), (q < 32 * (first + i) ∨ 32 * (first + i + m) ≤ q) → (wrAll first fl m i D).2.2.2.2 q = D.2.2.2 q := by
  intro m
  induction m with
  | zero => intro i D q _; rfl
  | succ m ih =>
    intro i D q hq
    have h1 : (wrS D (first + i) (fun q => fl.getD (i * 32 + q) 0)).2.2.2.2 q = D.2.2.2 q := by
      unfold wrS
      split
      · rfl
      · dsimp only
        unfold dput
        rw [if_neg (by omega)]
    rw [wrAll]
    split
    · rw [ih (i + 1) _ q (by omega), h1]
    · exact h1
theorem exN (f : Nat → Int32) (n : Nat) (g : Nat → Nat) (h : ∀ j, j < n → f j = nI (g j)) : ∃ g' : Nat → Nat, f = (fun q => nI (g' q)) ∧ ∀ j, j < n → g' j = g j := by
  refine ⟨fun q => if q < n then g q else (f q).toUInt32.toNat, ?_, fun j hj => if_pos hj⟩
  funext q
  show f q = nI (if q < n then g q else (f q).toUInt32.toNat)
  by_cases hq : q < n
  · rw [h q hq, if_pos hq]
  · rw [if_neg hq]
    show f q = Int32.ofNat (f q).toUInt32.toNat
    apply Int32.toBitVec_inj.mp
    show (f q).toBitVec = BitVec.ofNat 32 (f q).toUInt32.toNat
    apply BitVec.eq_of_toNat_eq
    rw [BitVec.toNat_ofNat]
    show (f q).toBitVec.toNat = (f q).toBitVec.toNat % 2 ^ 32
    exact (Nat.mod_eq_of_lt (f q).toBitVec.isLt).symm
section MW
variable {T : yT} {P : List yF} {xs fo : List Int64} {g : Nat × Nat × List Nat} {fu : Nat}
theorem Mo_pb {H : zH} {v : Nat → Int32} {W : yW} {bs : List Nat} {b : Nat} (h : MRv H v W) (hB : MBy H v bs) (hl : bs.length < 320) : ∃ H' v', jF_Mo_putByte (some 24) (nI b) H = some H' ∧ MRv H' v' W ∧ MBy H' v' (bs ++ [b]) ∧ Fr H H' (A2 24 41) := by
  obtain ⟨H1, e1, e2, e3⟩ := Mo_putByte (b := b) hB hl
  refine ⟨H1, _, e1, h.scr e3 (fun q hq => by unfold A2 at hq; omega) e2.1 (vE.up (by omega)) (h.2.2.2.2.2.2.any e3 (fun _ => ?_) (fun q => by unfold A2 at q; omega) (fun q => by unfold A2 at q; omega) (fun q => by unfold A2 at q; omega) (fun q => by unfold A2 at q; omega)), e2, e3⟩
  obtain ⟨-, -, f, a, -⟩ := e2
  exact ⟨f, a⟩
theorem Mo_head {H : zH} {v : Nat → Int32} {W : yW} (h : MRv H v W) {s n L : Nat} (hL : L < 60000) : ∃ H' v', jF_Mo_head (some 24) (nI s) (nI n) (nI L) H = some H' ∧ MRv H' v' W ∧ MBy H' v' (fileH s n L) ∧ Fr H H' (A2 24 41) := by
  unfold jF_Mo_head
  rw [qok h.m, Option.bind_some, h.m.set (by omega), Option.bind_some]
  have m1 := h.m.new (w := va_up v 28 0)
  generalize hH1 : zset H 24 (.inr (1, MoF (va_up v 28 0))) = H1 at m1
  have F1 : Fr H H1 (A2 24 41) := by rw [← hH1]; exact Fr.set (Or.inl rfl)
  have F1' : Fr H H1 (fun q => q = 24) := by rw [← hH1]; exact Fr.set rfl
  have r1 : MRv H1 (va_up v 28 0) W := h.scr F1' (fun q hq => by omega) m1 (vE.up (by omega)) (h.2.2.2.2.2.2.fr F1' (fun q hq => by omega))
  have b1 : MBy H1 (va_up v 28 0) [] := by
    obtain ⟨⟨f, a⟩, -⟩ := r1.2.2.2.2.2.2
    exact ⟨m1, rfl, f, a, fun i hi => by simp at hi⟩
  obtain ⟨H2, v2, e1, e2, e3, e4⟩ := Mo_pb (b := 83) r1 b1 (by simp)
  rw [li83, e1, Option.bind_some]
  obtain ⟨H3, v3, f1, f2, f3, f4⟩ := Mo_pb (b := s) e2 e3 (by simp)
  rw [f1, Option.bind_some]
  obtain ⟨H4, v4, g1, g2, g3, g4⟩ := Mo_pb (b := n) f2 f3 (by simp)
  rw [g1, Option.bind_some, li256, pk_div (by omega) (by omega) (by omega), pk_mul]
  obtain ⟨H5, v5, i1, i2, i3, i4⟩ := Mo_pb (b := L / 256) g2 g3 (by simp)
  rw [i1, Option.bind_some, pk_sub (Nat.div_mul_le_self _ _), show L - L / 256 * 256 = L % 256 by omega]
  obtain ⟨H6, v6, j1, j2, j3, j4⟩ := Mo_pb (b := L % 256) i2 i3 (by simp)
  rw [j1, Option.bind_some]
  exact ⟨H6, v6, rfl, j2, j3, ((((F1.tr e4).tr f4).tr g4).tr i4).tr j4⟩
theorem Mo_checkL {H : zH} {v : Nat → Int32} {W : yW} {bs : List Nat} (h : MRv H v W) (hB : MBy H v bs) (hl : bs.length < 320) (hy : byOk bs) : ∀ (m i g : Nat), i + m = bs.length → m < g →
    ∃ H' v', jL_Mo_check_4 fu g (some 24) (nI (bs.take i).sum) (nI i) H = some H' ∧ MRv H' v' W ∧ MBy H' v' (bs ++ [bs.sum % 251]) ∧ Fr H H' (A2 24 41) := by
  intro m
  obtain ⟨-, h28, f, a, b⟩ := id hB
  have hz : zgI H (some 24) 1 28 = some (nI bs.length) := by rw [← h28]; exact qgI h.m rfl
  induction m with
  | zero =>
    intro i g h1 h2
    obtain ⟨q, rfl⟩ : ∃ q, g = q + 1 := ⟨g - 1, by omega⟩
    have hi : i = bs.length := by omega
    subst hi
    have hs := hy.sum
    rw [jL_Mo_check_4, hz, Option.bind_some, if_pos (nI_le (Nat.le_refl _) (by omega)), List.take_length, li251, pk_rem (by omega) (by omega) (by omega)]
    obtain ⟨H1, v1, e1, e2, e3, e4⟩ := Mo_pb (b := bs.sum % 251) h hB hl
    rw [e1, Option.bind_some]
    exact ⟨H1, v1, rfl, e2, e3, e4⟩
  | succ m ih =>
    intro i g h1 h2
    obtain ⟨q, rfl⟩ : ∃ q, g = q + 1 := ⟨g - 1, by omega⟩
    rw [jL_Mo_check_4, hz, Option.bind_some, if_neg (nI_ge (by omega) (by omega)), qgR h.m rfl, Option.bind_some, qaI a (by omega) (by omega), Option.bind_some, b i (by omega), nI_add, nI_1, ← sum_take_succ bs i (by omega)]
    exact ih (i + 1) q (by omega) (by omega)
theorem Mo_check {H : zH} {v : Nat → Int32} {W : yW} {bs : List Nat} (h : MRv H v W) (hB : MBy H v bs) (hl : bs.length < 320) (hy : byOk bs) (hfu : 321 ≤ fu) :
    ∃ H' v', jF_Mo_check fu (some 24) H = some H' ∧ MRv H' v' W ∧ MBy H' v' (bs ++ [bs.sum % 251]) ∧ Fr H H' (A2 24 41) := by
  unfold jF_Mo_check
  rw [qok h.m, Option.bind_some]
  exact Mo_checkL h hB hl hy bs.length 0 fu (by omega) (by omega)
/-- a write: made, or refused -/
theorem Mo_wr {H : zH} {v : Nat → Int32} {D : yD} {b : Nat} {g' : Nat → Nat} (hb : b < 40) (h : MRv H v (T, P, D, xs, g, fo)) (hlim : limOk D) (hg : ∃ f, AI H 42 32 f ∧ ∀ j, j < 32 → f j = nI (g' j)) (hfu : 33 ≤ fu) :
    ∃ H' v', jF_Mo_write fu (some 24) (nI b) H = some (bI (wrS D b g').1, H') ∧ MRv H' v' (if (wrS D b g').1 then (T, P, (wrS D b g').2, xs, g, fo) else downW (T, P, D, xs, g, fo) (wrS D b g').2) ∧ (∀ bs, MBy H v bs → MBy H' v' bs) ∧ Fr H H' (A2 24 37) := by
  obtain ⟨f, hf, hfg⟩ := hg
  obtain ⟨g2, rfl, hg2⟩ := exN f 32 g' hfg
  have hw : wrS D b g' = wrS D b g2 := wrS_congr (fun j hj => (hg2 j hj).symm)
  rw [hw]
  obtain ⟨w1, w2, w3, w4, w5, w6, w7⟩ := id h
  obtain ⟨H1, e1, e2, e3⟩ := Mo_write (fu := fu) hb w3 hlim hf hfu
  dsimp only at e1 e2
  have hX : MX H1 := w7.fr e3 (fun q hq => by unfold A2 at hq; omega)
  have hA : ∀ q, A2 24 37 q → q = 24 ∨ 37 ≤ q := fun q hq => by unfold A2 at hq; omega
  have n38 : ¬ A2 24 37 38 := by unfold A2; omega
  have n39 : ¬ A2 24 37 39 := by unfold A2; omega
  have n40 : ¬ A2 24 37 40 := by unfold A2; omega
  have n41 : ¬ A2 24 37 41 := by unfold A2; omega
  cases hc : (wrS D b g2).1 with
  | true =>
    rw [hc, if_pos rfl] at e2
    rw [hc] at e1
    refine ⟨H1, vMade v, e1, ?_, ?_, e3⟩
    · rw [if_pos rfl]
      exact h.mk2 e3 hA e2.1 rfl rfl e2 (w4.fr e3 n38 rfl) (w5.fr e3 n39 rfl rfl rfl) (w6.fr e3 n40 rfl) hX
    · rintro bs ⟨-, b1, f1, b2, b3⟩
      exact ⟨e2.1, b1, f1, b2.fr e3 n41, b3⟩
  | false =>
    rw [hc, if_neg Bool.false_ne_true] at e2
    rw [hc] at e1
    refine ⟨H1, vDown v, e1, ?_, ?_, e3⟩
    · rw [if_neg Bool.false_ne_true]
      obtain ⟨-, f4, a4, -⟩ := w4
      obtain ⟨-, -, -, f5, a5, -⟩ := w5
      obtain ⟨-, f6, a6, -⟩ := w6
      exact h.mk2 e3 hA e2.1 rfl rfl e2 ⟨rfl, f4, a4.fr e3 n38, fun i hi => by simp at hi⟩ ⟨rfl, fun q => by dsimp only at q; omega, rfl, f5, a5.fr e3 n39, fun i hi => by simp at hi⟩ ⟨rfl, f6, a6.fr e3 n40, fun i hi => by simp at hi⟩ hX
    · rintro bs ⟨-, b1, f1, b2, b3⟩
      exact ⟨e2.1, b1, f1, b2.fr e3 n41, b3⟩
abbrev k4W : Type := Option Nat → Int32 → Int32 → zH → Option (Int32 × zH)
theorem Mo_wfI {W : yW} {fl : List Nat} (hl : fl.length < 320) {k2 : k4W} {first i : Nat} (hi : i ≤ 20) : ∀ (m j g : Nat) (H : zH) (v : Nat → Int32), j + m = 32 → MRv H v W → MBy H v fl → (∃ f, AI H 42 32 f ∧ ∀ q, q < j → f q = nI (fl.getD (i * 32 + q) 0)) →
    ∃ H', jL_Mo_writeFile_15 fu k2 (g + 1 + m) (some 24) (nI first) (nI i) (nI j) H = jL_Mo_writeFile_15 fu k2 (g + 1) (some 24) (nI first) (nI i) (nI 32) H' ∧ MRv H' v W ∧ MBy H' v fl ∧ (∃ f, AI H' 42 32 f ∧ ∀ q, q < 32 → f q = nI (fl.getD (i * 32 + q) 0)) ∧ Fr H H' (fun q => q = 42) := by
  intro m
  induction m with
  | zero =>
    intro j g H v h1 h hB hf
    have : j = 32 := by omega
    subst this
    exact ⟨H, rfl, h, hB, hf, Fr.rf⟩
  | succ m ih =>
    intro j g H v h1 h hB hf
    obtain ⟨f, a, b⟩ := hf
    obtain ⟨-, h28, fb, ab, bb⟩ := id hB
    have hz : zgI H (some 24) 1 28 = some (nI fl.length) := by rw [← h28]; exact qgI h.m rfl
    have hst : ∀ x : Int32, x = nI (fl.getD (i * 32 + j) 0) → ∃ H', jJ_Mo_writeFile_54 fu k2 (fun x0 x1 x2 x3 x4 => jL_Mo_writeFile_15 fu k2 (g + 1 + m) x0 x1 x2 x3 x4) x (nI j) (some 42) (some 24) (nI first) (nI i) (nI j) H = jL_Mo_writeFile_15 fu k2 (g + 1) (some 24) (nI first) (nI i) (nI 32) H' ∧ MRv H' v W ∧ MBy H' v fl ∧ (∃ f, AI H' 42 32 f ∧ ∀ q, q < 32 → f q = nI (fl.getD (i * 32 + q) 0)) ∧ Fr H H' (fun q => q = 42) := by
      intro x hx
      subst hx
      rw [jJ_Mo_writeFile_54, qsI a (by omega) (by omega), Option.bind_some, nI_1]
      generalize hH1 : zset H 42 (.inl (0, 32, .inl (va_up f j (nI (fl.getD (i * 32 + j) 0))))) = H1
      have F1 : Fr H H1 (fun q => q = 42) := by rw [← hH1]; exact Fr.set rfl
      have a1 : AI H1 42 32 (va_up f j (nI (fl.getD (i * 32 + j) 0))) := by rw [← hH1]; exact zgo_set_same a
      have m1 := h.m.fr F1 (by omega)
      obtain ⟨H2, f1, f2, f3, f4, f5⟩ := ih (j + 1) g H1 v (by omega) (h.scr F1 (fun q hq => by omega) m1 vE.rf (h.2.2.2.2.2.2.any F1 (fun q => by omega) (fun _ => ⟨_, a1⟩) (fun q => by omega) (fun q => by omega) (fun q => by omega))) ⟨m1, h28, fb, ab.fr F1 (by omega), bb⟩ ⟨_, a1, fun q hq => by
        by_cases hqj : q = j
        · subst hqj; rw [zup_same]
        · rw [zup_ne hqj]; exact b q (by omega)⟩
      exact ⟨H2, f1, f2, f3, f4, F1.tr f5⟩
    rw [show g + 1 + (m + 1) = (g + 1 + m) + 1 by omega, jL_Mo_writeFile_15, if_neg (show ¬ (32 : Int32) ≤ nI j from nI_ge (b := 32) (by omega) (by omega)), qgR h.m rfl, Option.bind_some, hz, Option.bind_some, li32, pk_mul, nI_add, if_leN (by omega) (by omega)]
    by_cases hc : fl.length ≤ 32 * i + j
    · rw [if_pos hc]
      exact hst 0 (by rw [getD_out (by omega)]; rfl)
    · rw [if_neg hc, qgR h.m rfl, Option.bind_some, qaI ab (by omega) (by omega), Option.bind_some, bb _ (by omega)]
      exact hst _ (by rw [Nat.mul_comm])
theorem Mo_wfL {first : Nat} {fl : List Nat} (hl : fl.length < 320) (hn : first + nBl fl ≤ 40) (hfu : 40 ≤ fu) : ∀ (m i g' : Nat) (H : zH) (v : Nat → Int32) (D : yD), i + m = nBl fl → m < g' → MRv H v (T, P, D, xs, g, fo) → MBy H v fl → limOk D →
    ∃ H' v', jL_Mo_writeFile_2 fu g' (some 24) (nI first) (nI i) H = some (bI (wrAll first fl m i D).1, H') ∧ MRv H' v' (if (wrAll first fl m i D).1 then (T, P, (wrAll first fl m i D).2, xs, g, fo) else downW (T, P, D, xs, g, fo) (wrAll first fl m i D).2) ∧ MBy H' v' fl ∧ Fr H H' AM := by
  intro m
  induction m with
  | zero =>
    intro i g' H v D h1 h2 h hB hl'
    obtain ⟨q, rfl⟩ : ∃ q, g' = q + 1 := ⟨g' - 1, by omega⟩
    obtain ⟨-, h28, -⟩ := id hB
    have hz : zgI H (some 24) 1 28 = some (nI fl.length) := by rw [← h28]; exact qgI h.m rfl
    unfold nBl at h1
    rw [jL_Mo_writeFile_2, hz, Option.bind_some, li32, pk_mul, if_pos (nI_le (by omega) (by omega))]
    exact ⟨H, v, rfl, h, hB, Fr.rf⟩
  | succ m ih =>
    intro i g' H v D h1 h2 h hB hl'
    obtain ⟨q, rfl⟩ : ∃ q, g' = q + 1 := ⟨g' - 1, by omega⟩
    obtain ⟨-, h28, -⟩ := id hB
    have hz : zgI H (some 24) 1 28 = some (nI fl.length) := by rw [← h28]; exact qgI h.m rfl
    have h1' := h1
    unfold nBl at h1'
    rw [jL_Mo_writeFile_2, hz, Option.bind_some, li32, pk_mul, if_neg (nI_ge (by omega) (by omega))]
    obtain ⟨f42, a42⟩ := h.2.2.2.2.2.2.2.1
    obtain ⟨H1, e1, e2, e3, e4, e5⟩ := Mo_wfI (fu := fu) hl (k2 := fun x0 x1 x2 x3 => jL_Mo_writeFile_2 fu q x0 x1 x2 x3) (first := first) (i := i) (by omega) 32 0 (fu - 1 - 32) H v rfl h hB ⟨f42, a42, fun q hq => by omega⟩
    rw [show fu - 1 - 32 + 1 + 32 = fu by omega] at e1
    have e1' : jL_Mo_writeFile_15 fu (fun x0 x1 x2 x3 => jL_Mo_writeFile_2 fu q x0 x1 x2 x3) fu (some 24) (nI first) (nI i) 0 H = _ := e1
    obtain ⟨H2, v2, f1, f2, f3, f4⟩ := Mo_wr (fu := fu) (b := first + i) (g' := fun q => fl.getD (i * 32 + q) 0) (by omega) e2 hl' e4 (by omega)
    have E5 : Fr H H2 AM := (e5.up (fun q hq => by unfold AM; omega)).tr (f4.up (fun q hq => by unfold A2 at hq; unfold AM; omega))
    rw [e1', jL_Mo_writeFile_15, if_pos (show (32 : Int32) ≤ nI 32 from nI_le (Nat.le_refl _) (by omega)), nI_add, f1, Option.bind_some]
    dsimp only
    rw [if_bI, wrAll]
    cases hw : (wrS D (first + i) (fun q => fl.getD (i * 32 + q) 0)).1 with
    | false =>
      rw [if_neg Bool.false_ne_true, if_neg Bool.false_ne_true]
      rw [hw, if_neg Bool.false_ne_true] at f2
      exact ⟨H2, v2, rfl, f2, f3 _ e3, E5⟩
    | true =>
      rw [if_pos rfl, if_pos rfl, nI_1]
      rw [hw, if_pos rfl] at f2
      obtain ⟨H3, v3, k1, k2, k3, k4⟩ := ih (i + 1) q H2 v2 _ (by omega) (by omega) f2 (f3 _ e3) (limOk_wr hl')
      exact ⟨H3, v3, k1, k2, k3, E5.tr k4⟩
theorem Mo_wf {H : zH} {v : Nat → Int32} {D : yD} {first : Nat} {fl : List Nat} (h : MRv H v (T, P, D, xs, g, fo)) (hB : MBy H v fl) (hl : fl.length < 320) (hn : first + nBl fl ≤ 40) (hlim : limOk D) (hfu : 41 ≤ fu) :
    ∃ H' v', jF_Mo_writeFile fu (some 24) (nI first) H = some (bI (wrAll first fl (nBl fl) 0 D).1, H') ∧ MRv H' v' (if (wrAll first fl (nBl fl) 0 D).1 then (T, P, (wrAll first fl (nBl fl) 0 D).2, xs, g, fo) else downW (T, P, D, xs, g, fo) (wrAll first fl (nBl fl) 0 D).2) ∧ MBy H' v' fl ∧ Fr H H' AM := by
  unfold jF_Mo_writeFile
  rw [qok h.m, Option.bind_some]
  exact Mo_wfL hl hn (by omega) (nBl fl) 0 fu H v D (by omega) (by omega) h hB hlim
/-- the manifest's block is copied -/
theorem Mo_oldL {D : yD} : ∀ (m i g' : Nat) (H : zH) (v : Nat → Int32), i + m = 32 → m < g' → MRv H v (T, P, D, xs, g, fo) → (∃ f, AI H 42 32 f ∧ ∀ q, q < i → f q = nI (D.2.2.2 q)) →
    ∃ H', jL_Mo_oldManifest_2 fu g' (some 24) (nI i) H = some H' ∧ MRv H' v (T, P, D, xs, g, fo) ∧ (∃ f, AI H' 42 32 f ∧ ∀ q, q < 32 → f q = nI (D.2.2.2 q)) ∧ Fr H H' (fun q => q = 42) := by
  intro m
  induction m with
  | zero =>
    intro i g' H v h1 h2 h hf
    obtain ⟨q, rfl⟩ : ∃ q, g' = q + 1 := ⟨g' - 1, by omega⟩
    have : i = 32 := by omega
    subst this
    rw [jL_Mo_oldManifest_2, if_pos (show (32 : Int32) ≤ nI 32 from nI_le (Nat.le_refl _) (by omega))]
    exact ⟨H, rfl, h, hf, Fr.rf⟩
  | succ m ih =>
    intro i g' H v h1 h2 h hf
    obtain ⟨q, rfl⟩ : ∃ q, g' = q + 1 := ⟨g' - 1, by omega⟩
    obtain ⟨f, a, b⟩ := hf
    rw [jL_Mo_oldManifest_2, if_neg (show ¬ (32 : Int32) ≤ nI i from nI_ge (b := 32) (by omega) (by omega)), qgR h.m rfl, Option.bind_some, qgR h.m rfl, Option.bind_some, Mo_dk h.2.2.1 (by omega), Option.bind_some, qsI a (by omega) (by omega), Option.bind_some, nI_1]
    dsimp only
    generalize hH1 : zset H 42 (.inl (0, 32, .inl (va_up f i (nI (D.2.2.2 i))))) = H1
    have F1 : Fr H H1 (fun q => q = 42) := by rw [← hH1]; exact Fr.set rfl
    have a1 : AI H1 42 32 (va_up f i (nI (D.2.2.2 i))) := by rw [← hH1]; exact zgo_set_same a
    have m1 := h.m.fr F1 (by omega)
    obtain ⟨H2, f1, f2, f3, f4⟩ := ih (i + 1) q H1 v (by omega) (by omega) (h.scr F1 (fun q hq => by omega) m1 vE.rf (h.2.2.2.2.2.2.any F1 (fun q => by omega) (fun _ => ⟨_, a1⟩) (fun q => by omega) (fun q => by omega) (fun q => by omega))) ⟨_, a1, fun q hq => by
      by_cases hqj : q = i
      · subst hqj; rw [zup_same]
      · rw [zup_ne hqj]; exact b q (by omega)⟩
    exact ⟨H2, f1, f2, f3, F1.tr f4⟩
theorem Mo_old {D : yD} {H : zH} {v : Nat → Int32} (h : MRv H v (T, P, D, xs, g, fo)) (hfu : 33 ≤ fu) :
    ∃ H', jF_Mo_oldManifest fu (some 24) H = some H' ∧ MRv H' v (T, P, D, xs, g, fo) ∧ (∃ f, AI H' 42 32 f ∧ ∀ q, q < 32 → f q = nI (D.2.2.2 q)) ∧ Fr H H' (fun q => q = 42) := by
  obtain ⟨f42, a42⟩ := h.2.2.2.2.2.2.2.1
  unfold jF_Mo_oldManifest
  rw [qok h.m, Option.bind_some]
  exact Mo_oldL 32 0 fu H v rfl (by omega) h ⟨f42, a42, fun q hq => by omega⟩
/-- one byte of the block is set -/
theorem Mo_blk {H : zH} {v : Nat → Int32} {W : yW} {f : Nat → Int32} {i : Nat} {x : Int32} (h : MRv H v W) (a : AI H 42 32 f) (hi : i < 32) : ∃ H', zsI H (some 42) 0 (nI i) x = some H' ∧ MRv H' v W ∧ AI H' 42 32 (va_up f i x) ∧ Fr H H' (fun q => q = 42) := by
  refine ⟨_, qsI a hi (by omega), ?_, zgo_set_same a, Fr.set rfl⟩
  have F1 : Fr H (zset H 42 (.inl (0, 32, .inl (va_up f i x)))) (fun q => q = 42) := Fr.set rfl
  exact h.scr F1 (fun q hq => by omega) (h.m.fr F1 (by omega)) vE.rf (h.2.2.2.2.2.2.any F1 (fun q => by omega) (fun _ => ⟨_, zgo_set_same a⟩) (fun q => by omega) (fun q => by omega) (fun q => by omega))
end MW
