/-! The class reads a coded record back. -/
theorem rk_mono (A : Int32) : ∀ (n a : Nat), rk A a ≤ rk A (a + n)
  | 0, _ => Nat.le_refl _
  | n + 1, a => by
    have := rk_mono A n a
    show rk A a ≤ rk A (a + n + 1)
    rw [rk]
    omega
theorem rk_ne {A : Int32} {j y : Nat} (hb : (A >>> (nI j &&& 31)) &&& 1 = 1) (h : j < y) : rk A j < rk A y := by
  have h1 : rk A (j + 1) = rk A j + 1 := by rw [rk, if_pos hb]
  have h2 := rk_mono A (y - (j + 1)) (j + 1)
  rw [show j + 1 + (y - (j + 1)) = y by omega] at h2
  omega
theorem hasSy_lN {A : Int32} {j : Nat} (hj : j < 8) : hasSy A (lN j) = decide ((A >>> (nI j &&& 31)) &&& 1 = 1) := by
  unfold hasSy
  have h1 : ¬ lN j < 0 ∧ ¬ 8 ≤ lN j := by
    have : j = 0 ∨ j = 1 ∨ j = 2 ∨ j = 3 ∨ j = 4 ∨ j = 5 ∨ j = 6 ∨ j = 7 := by omega
    rcases this with rfl | rfl | rfl | rfl | rfl | rfl | rfl | rfl <;> decide
  rw [lN_i]
  simp only [h1, not_false_eq_true, true_and]
theorem hasSy_of {A : Int32} {x : Int64} (h : hasSy A x = true) : ∃ y, y < 8 ∧ x = lN y ∧ (A >>> (nI y &&& 31)) &&& 1 = 1 := by
  have hx := of_decide_eq_true h
  obtain ⟨y, hy, rfl⟩ := pk_lOf hx.1
  refine ⟨y, ?_, rfl, ?_⟩
  · have h9 : ¬ lN 8 ≤ lN y := hx.2.1
    rw [pk_lLE (by omega) hy] at h9
    omega
  · have := hx.2.2
    rw [lN_i] at this
    exact this
theorem take_snoc {xs : List Int64} {p : Nat} (h : p < xs.length) : xs.take p ++ [xs.getD p 0] = xs.take (p + 1) := by
  rw [List.take_succ]
  simp [List.getD, List.getElem?_eq_getElem h]
section CD
variable {T : yT} {R : Nat → Nat} {xs : List Int64} {D : yD} {fu : Nat}
theorem C_symL {H : zH} {s y : Nat} (hS : SchT H T R) (hE : TEn T) (hs : s < T.length) (h4 : kd T s = 4) (hy : y < 8) (hb : (pA T s >>> (nI y &&& 31)) &&& 1 = 1) : ∀ (k j g : Nat), j + k = y → k < g → jL_Schema_symbolOfRank_2 fu H g (some (R s)) (nI (rk (pA T s) y)) (nI j) = some (nI y) := by
  have hr := rk_le (pA T s) y
  intro k
  induction k with
  | zero =>
    intro j g h1 h2
    obtain ⟨q, rfl⟩ : ∃ q, g = q + 1 := ⟨g - 1, by omega⟩
    have : j = y := by omega
    subst this
    rw [jL_Schema_symbolOfRank_2, if_neg (show ¬ (8 : Int32) ≤ nI j from nI_ge (b := 8) (by omega) (by omega)), C_hasSymbol hS hs h4, Option.bind_some, nI_l (by omega), hasSy_lN hy, decide_eq_true hb, if_bI, if_pos rfl, C_rank hS hE hs h4 hy, Option.bind_some, if_pos rfl]
  | succ k ih =>
    intro j g h1 h2
    obtain ⟨q, rfl⟩ : ∃ q, g = q + 1 := ⟨g - 1, by omega⟩
    rw [jL_Schema_symbolOfRank_2, if_neg (show ¬ (8 : Int32) ≤ nI j from nI_ge (b := 8) (by omega) (by omega)), C_hasSymbol hS hs h4, Option.bind_some, nI_l (by omega), hasSy_lN (by omega), if_bI, nI_1]
    have ih' := ih (j + 1) q (by omega) (by omega)
    by_cases hj : (pA T s >>> (nI j &&& 31)) &&& 1 = 1
    · have hlt := rk_ne hj (show j < y by omega)
      rw [decide_eq_true hj, if_pos rfl, C_rank hS hE hs h4 (by omega), Option.bind_some, if_eqN (by omega) (by omega), if_neg (by omega)]
      exact ih'
    · rw [decide_eq_false hj, if_neg Bool.false_ne_true]
      exact ih'
theorem C_sym {H : zH} {s y : Nat} (hS : SchT H T R) (hE : TEn T) (hs : s < T.length) (h4 : kd T s = 4) (hy : y < 8) (hb : (pA T s >>> (nI y &&& 31)) &&& 1 = 1) (hfu : 9 ≤ fu) : jF_Schema_symbolOfRank fu (some (R s)) (nI (rk (pA T s) y)) H = some (nI y) := by
  unfold jF_Schema_symbolOfRank
  rw [hS.ok hs, Option.bind_some]
  exact C_symL hS hE hs h4 hy hb y 0 fu (by omega) (by omega)
/-- where the decoder works -/
def DCx (H : zH) (T : yT) (R : Nat → Nat) (D : yD) (ys : List Int64) : Prop := SchT H T R ∧ DiskAt H D ∧ RL H 20 24 ys
theorem DCx.fr {H H' : zH} {ys ys' : List Int64} (h : DCx H T R D ys) (hF : Fr H H' (fun q => q = 20 ∨ q = 21)) (hR : RL H' 20 24 ys') : DCx H' T R D ys' := ⟨h.1.fr hF (fun q hq => by omega), h.2.1.fr hF (by omega) (by omega), hR⟩
theorem DCx.push {H : zH} {p : Nat} (h : DCx H T R D (xs.take p)) (hxs : xs.length ≤ 24) (hp : p < xs.length) {x : Int64} (hx : x = xs.getD p 0) : ∃ H', jF_Row_append (some 20) x H = some H' ∧ DCx H' T R D (xs.take (p + 1)) ∧ Fr H H' (fun q => q = 20 ∨ q = 21) := by
  obtain ⟨H1, e1, e2, e3⟩ := h.2.2.append (x := x) (by rw [List.length_take]; omega) (by omega)
  rw [hx, take_snoc hp] at e2
  exact ⟨H1, e1, h.fr e3 e2, e3⟩
/-- the decoder's call for the schemas of a set -/
def DrcOk (T : yT) (R : Nat → Nat) (xs : List Int64) (D : yD) (ok : Nat → Prop) (g : Nat → Nat → Option (Nat × List Nat)) (rc : rcT) : Prop := ∀ (s p p' : Nat) (b : List Nat) (a : Nat) (H : zH), ok s → g s p = some (p', b) → p ≤ xs.length → onD D.2.2.2 a b → a + b.length ≤ 1280 → DCx H T R D (xs.take p) →
  ∃ H', rc (some (R s)) (some 2) (nI a) (some 20) H = some (nI (a + b.length), H') ∧ DCx H' T R D (xs.take p') ∧ p' ≤ xs.length ∧ Fr H H' (fun q => q = 20 ∨ q = 21)
theorem C_decF {s : Nat} {rc : rcT} {g : Nat → Nat → Option (Nat × List Nat)} {ok : Nat → Prop} (hrc : DrcOk T R xs D ok g rc) (hs : s < T.length) (hl : (fl T s).length ≤ 3) (hok : ∀ i, i < (fl T s).length → ok ((fl T s).getD i yF0).2.1) :
    ∀ (m i g' p p' a : Nat) (b : List Nat) (H : zH), i + m = (fl T s).length → m < g' → seqP g ((subs T s).drop i) p = some (p', b) → p ≤ xs.length → onD D.2.2.2 a b → a + b.length ≤ 1280 → DCx H T R D (xs.take p) →
    ∃ H', jL_Coder_decodeFields_6 fu rc g' (some (R s)) (some 2) (some 20) (nI a) (nI i) H = some (nI (a + b.length), H') ∧ DCx H' T R D (xs.take p') ∧ p' ≤ xs.length ∧ Fr H H' (fun q => q = 20 ∨ q = 21) := by
  intro m
  induction m with
  | zero =>
    intro i g' p p' a b H h1 h2 hq hp ho ha h
    obtain ⟨q, rfl⟩ : ∃ q, g' = q + 1 := ⟨g' - 1, by omega⟩
    obtain ⟨fa, gg, e1, e2, e3, e4⟩ := h.1.fs hs
    rw [List.drop_eq_nil_of_le (by rw [subs_len]; omega), seqP] at hq
    cases hq
    rw [jL_Coder_decodeFields_6, e1, Option.bind_some, e2, Option.bind_some, if_pos (nI_le (by omega) (by omega))]
    exact ⟨H, rfl, h, hp, Fr.rf⟩
  | succ m ih =>
    intro i g' p p' a b H h1 h2 hq hp ho ha h
    obtain ⟨q, rfl⟩ : ∃ q, g' = q + 1 := ⟨g' - 1, by omega⟩
    have hi : i < (fl T s).length := by omega
    obtain ⟨fa, gg, e1, e2, e3, e4⟩ := h.1.fs hs
    obtain ⟨ad, f1, f2, f3, f4, f5⟩ := e4.at e3 hl hi
    rw [subs_get hi] at hq
    obtain ⟨p1, b1, b2, q1, q2, rfl⟩ := seqP_cons hq
    rw [List.length_append] at ha
    obtain ⟨H1, k1, k2, k3, k4⟩ := hrc _ p p1 b1 a H (hok i hi) q1 hp ho.l (by omega) h
    obtain ⟨H2, l1, l2, l3, l4⟩ := ih (i + 1) q p1 p' (a + b1.length) b2 H1 (by omega) (by omega) q2 k3 ho.r (by omega) k2
    rw [jL_Coder_decodeFields_6, e1, Option.bind_some, e2, Option.bind_some, if_neg (nI_ge (by omega) (by omega)), Option.bind_some, f1, Option.bind_some, f3, Option.bind_some, nI_1, k1, Option.bind_some]
    refine ⟨H2, ?_, l2, l3, k4.tr l4⟩
    rw [List.length_append, ← Nat.add_assoc]
    exact l1
theorem C_decI {it c : Nat} {rc : rcT} {g : Nat → Nat → Option (Nat × List Nat)} {ok : Nat → Prop} (hrc : DrcOk T R xs D ok g rc) (hok : ok it) (hc : c ≤ 3) :
    ∀ (m i g' p p' a : Nat) (b : List Nat) (H : zH), i + m = c → m < g' → seqP g (List.replicate m it) p = some (p', b) → p ≤ xs.length → onD D.2.2.2 a b → a + b.length ≤ 1280 → DCx H T R D (xs.take p) →
    ∃ H', jL_Coder_decodeItems_34 fu rc g' (some (R it)) (some 2) (some 20) (lN c) (nI a) (nI i) H = some (nI (a + b.length + 1), H') ∧ DCx H' T R D (xs.take p') ∧ p' ≤ xs.length ∧ Fr H H' (fun q => q = 20 ∨ q = 21) := by
  intro m
  induction m with
  | zero =>
    intro i g' p p' a b H h1 h2 hq hp ho ha h
    obtain ⟨q, rfl⟩ : ∃ q, g' = q + 1 := ⟨g' - 1, by omega⟩
    rw [List.replicate_zero, seqP] at hq
    cases hq
    rw [jL_Coder_decodeItems_34, nI_l (by omega), if_pos ((lN_le (by omega) (by omega)).mpr (by omega)), nI_1]
    exact ⟨H, rfl, h, hp, Fr.rf⟩
  | succ m ih =>
    intro i g' p p' a b H h1 h2 hq hp ho ha h
    obtain ⟨q, rfl⟩ : ∃ q, g' = q + 1 := ⟨g' - 1, by omega⟩
    rw [List.replicate_succ] at hq
    obtain ⟨p1, b1, b2, q1, q2, rfl⟩ := seqP_cons hq
    rw [List.length_append] at ha
    obtain ⟨H1, k1, k2, k3, k4⟩ := hrc _ p p1 b1 a H hok q1 hp ho.l (by omega) h
    obtain ⟨H2, l1, l2, l3, l4⟩ := ih (i + 1) q p1 p' (a + b1.length) b2 H1 (by omega) (by omega) q2 k3 ho.r (by omega) k2
    rw [jL_Coder_decodeItems_34, nI_l (by omega), if_neg (fun hh => by have := (lN_le (by omega) (by omega)).mp hh; omega), if_neg (show ¬ (3 : Int32) ≤ nI i from nI_ge (b := 3) (by omega) (by omega)), nI_1, k1, Option.bind_some]
    refine ⟨H2, ?_, l2, l3, k4.tr l4⟩
    rw [List.length_append, ← Nat.add_assoc]
    exact l1
theorem C_dec (hT : TOk T) (hE : TEn T) (hxs : xs.length ≤ 24) (hfu : 12 ≤ fu) : ∀ f : Nat, DrcOk T R xs D (fun s => s < T.length ∧ dp T s ≤ f) (encP T xs f) (fun x0 x1 x2 x3 x4 => jF_Coder_decode fu f x0 x1 x2 x3 x4) := by
  intro f
  induction f with
  | zero => intro s p p' b a H hs; have := (hT.2 s hs.1).2.1; omega
  | succ f ih =>
    intro s p p' b a H hs henc hp ho ha h
    obtain ⟨hs, hd⟩ := hs
    obtain ⟨t1, t2, t3, t4, t5, t6, t7, t8⟩ := hT.2 s hs
    dsimp only
    rw [jF_Coder_decode, h.1.k hs, Option.bind_some, if_0N (by omega), li1, li4, li5, li6, li7, if_eqN (by omega) (by omega), if_eqN (by omega) (by omega), if_eqN (by omega) (by omega), if_eqN (by omega) (by omega), if_eqN (by omega) (by omega)]
    rcases encP_inv henc with ⟨h0, rfl, rfl⟩ | ⟨h7, k⟩ | ⟨h5, hpl, c, b', hc, hx, k, rfl⟩ | ⟨h6, hpl, hx, b', k, rfl⟩ | ⟨h1, h4, hpl, hv, rfl, rfl⟩
    · rw [if_pos h0]
      exact ⟨H, rfl, h, hp, Fr.rf⟩
    · rw [if_neg (by omega), if_neg (show ¬ kd T s = 1 by omega), if_neg (show ¬ kd T s = 4 by omega), if_neg (show ¬ kd T s = 5 by omega), if_neg (show ¬ kd T s = 6 by omega), if_pos h7]
      unfold jF_Coder_decodeFields
      obtain ⟨H1, e1, e2, e3, e4⟩ := C_decF (fu := fu) ih hs t4 (fun i hi => by have := t8 i hi; exact ⟨by omega, by omega⟩) (fl T s).length 0 fu p p' a b H (by omega) (by omega) (by rw [List.drop_zero]; exact k) hp ho ha h
      rw [nI_0] at e1
      rw [e1]
      exact ⟨H1, rfl, e2, e3, e4⟩
    · have t6' := t6 h5
      rw [if_neg (by omega), if_neg (show ¬ kd T s = 1 by omega), if_neg (show ¬ kd T s = 4 by omega), if_pos h5, h.1.fi hs (Or.inl h5), Option.bind_some]
      unfold jF_Coder_decodeItems
      by_cases h0 : c = 0
      · subst h0
        rw [List.replicate_zero, seqP] at k
        cases k
        have hb0 : (if 0 = 0 then ([] : List Nat) else varB (lN 0)) ++ [] ++ [0] = varB (lN 0) := by decide
        rw [hb0] at ho ha ⊢
        obtain ⟨H1, e1, e2, e3⟩ := h.push hxs hpl hx.symm
        rw [C_va h.2.1 ho ha (by omega), Option.bind_some, e1, Option.bind_some, if_pos (show lN 0 = 0 from rfl), nI_1, show (varB (lN 0)).length = 1 by decide]
        exact ⟨H1, rfl, e2, by omega, e3⟩
      · rw [if_neg h0, List.append_assoc] at ho ha ⊢
        rw [List.length_append, List.length_append] at ha
        obtain ⟨H1, e1, e2, e3⟩ := h.push hxs hpl hx.symm
        have hne : ¬ lN c = 0 := fun q => h0 ((lN_0 (by omega)).mp q)
        rw [C_va h.2.1 ho.l (by omega) (by omega), Option.bind_some, e1, Option.bind_some, if_neg hne, C_bv e2.2.1 ho.l (by omega) (by omega), Option.bind_some]
        obtain ⟨H2, f1, f2, f3, f4⟩ := C_decI (fu := fu) (it := sA T s) (c := c) ih ⟨by omega, by omega⟩ hc c 0 fu (p + 1) p' (a + (varB (lN c)).length) b' H1 (by omega) (by omega) k (by omega) ho.r.l (by omega) e2
        rw [nI_0] at f1
        rw [f1, Option.bind_some]
        refine ⟨H2, ?_, f2, f3, e3.tr f4⟩
        rw [List.length_append, List.length_append, List.length_singleton, ← Nat.add_assoc, ← Nat.add_assoc]
    · have t7' := t7 h6
      rw [if_neg (by omega), if_neg (show ¬ kd T s = 1 by omega), if_neg (show ¬ kd T s = 4 by omega), if_neg (show ¬ kd T s = 5 by omega), if_pos h6]
      rw [List.length_append] at ha
      obtain ⟨H1, e1, e2, e3⟩ := h.push (x := xs.getD p 0) hxs hpl rfl
      rw [C_va h.2.1 ho.l (by omega) (by omega), Option.bind_some, e1, Option.bind_some, C_branch e2.1 hs h6, Option.bind_some, C_bv e2.2.1 ho.l (by omega) (by omega), Option.bind_some]
      obtain ⟨H2, f1, f2, f3, f4⟩ := ih _ (p + 1) p' b' (a + (varB (xs.getD p 0)).length) H1 (by split <;> exact ⟨by omega, by omega⟩) k (by omega) ho.r (by omega) e2
      dsimp only at f1 ⊢
      rw [f1, Option.bind_some, List.length_append, ← Nat.add_assoc]
      exact ⟨H2, rfl, f2, f3, e3.tr f4⟩
    · rw [if_neg (by omega)]
      by_cases c1 : kd T s = 1
      · have hcod : cod T s (xs.getD p 0) = [if xs.getD p 0 = 0 then 0 else 1] := by unfold cod; rw [if_pos c1]
        rw [hcod] at ho ha ⊢
        have hx : (nI (if xs.getD p 0 = 0 then 0 else 1)).toInt64 = xs.getD p 0 := by
          unfold isVal at hv
          rw [if_pos c1] at hv
          rcases of_decide_eq_true hv with q | q <;> rw [q] <;> decide
        rw [List.length_singleton] at ha
        obtain ⟨H1, e1, e2, e3⟩ := h.push (x := (nI (if xs.getD p 0 = 0 then 0 else 1)).toInt64) hxs hpl hx
        rw [if_pos c1, Disk_at h.2.1 (by omega), Option.bind_some, dget, if_pos (show a < 1280 by omega), ho.hd, e1, Option.bind_some, nI_add]
        exact ⟨H1, rfl, e2, by omega, e3⟩
      · rw [if_neg c1]
        by_cases c4 : kd T s = 4
        · have hcod : cod T s (xs.getD p 0) = varB (nI (rk (pA T s) (xs.getD p 0).toInt32.toNatClampNeg)).toInt64 := by unfold cod; rw [if_neg c1, if_pos c4]
          rw [hcod] at ho ha ⊢
          unfold isVal at hv
          rw [if_neg c1, if_neg (by omega), if_neg (by omega), if_pos c4] at hv
          obtain ⟨y, hy, hxy, hb⟩ := hasSy_of hv
          have hrl := rk_le (pA T s) y
          rw [hxy, lN_i, nI_clamp (by omega)] at ho ha ⊢
          obtain ⟨H1, e1, e2, e3⟩ := h.push (x := (nI y).toInt64) hxs hpl (by rw [hxy, nI_l (by omega)])
          rw [if_pos c4, C_va h.2.1 ho ha (by omega), Option.bind_some]
          have h32 : (nI (rk (pA T s) y)).toInt64.toInt32 = nI (rk (pA T s) y) := by rw [nI_l (by omega), lN_i]
          rw [h32, C_sym h.1 hE hs c4 hy hb (by omega), Option.bind_some, e1, Option.bind_some, C_bv e2.2.1 ho ha (by omega), Option.bind_some]
          exact ⟨H1, rfl, e2, by omega, e3⟩
        · have hcod : cod T s (xs.getD p 0) = varB (xs.getD p 0) := by unfold cod; rw [if_neg c1, if_neg c4]
          rw [hcod] at ho ha ⊢
          obtain ⟨H1, e1, e2, e3⟩ := h.push (x := xs.getD p 0) hxs hpl rfl
          rw [if_neg c4, if_neg (by omega), if_neg (by omega), if_neg (by omega), C_va h.2.1 ho ha (by omega), Option.bind_some, e1, Option.bind_some, C_bv e2.2.1 ho ha (by omega), Option.bind_some]
          exact ⟨H1, rfl, e2, by omega, e3⟩
/-- the place behind a value -/
def BhOk (T : yT) (R : Nat → Nat) (xs : List Int64) (ok : Nat → Prop) (g : Nat → Nat → Option (Nat × List Nat)) (rc : Option Nat → Option Nat → Int32 → zH → Option Int32) (H : zH) : Prop := ∀ (s p p' : Nat) (b : List Nat), ok s → g s p = some (p', b) → p ≤ xs.length → rc (some (R s)) (some 20) (nI p) H = some (nI p')
theorem C_bhF {H : zH} {s : Nat} {rc : Option Nat → Option Nat → Int32 → zH → Option Int32} {g : Nat → Nat → Option (Nat × List Nat)} {ok : Nat → Prop} (hrc : BhOk T R xs ok g rc H) (hS : SchT H T R) (hbd : ∀ q p p' b, p ≤ xs.length → g q p = some (p', b) → p ≤ p' ∧ p' ≤ xs.length ∧ b.length ≤ 10 * (p' - p)) (hs : s < T.length) (hl : (fl T s).length ≤ 3) (hok : ∀ i, i < (fl T s).length → ok ((fl T s).getD i yF0).2.1) :
    ∀ (m i g' p p' : Nat) (b : List Nat), i + m = (fl T s).length → m < g' → seqP g ((subs T s).drop i) p = some (p', b) → p ≤ xs.length → jL_Resolver_behindFields_5 fu H rc g' (some (R s)) (some 20) (nI p) (nI i) = some (nI p') := by
  obtain ⟨fa, gg, e1, e2, e3, e4⟩ := hS.fs hs
  intro m
  induction m with
  | zero =>
    intro i g' p p' b h1 h2 hq hp
    obtain ⟨q, rfl⟩ : ∃ q, g' = q + 1 := ⟨g' - 1, by omega⟩
    rw [List.drop_eq_nil_of_le (by rw [subs_len]; omega), seqP] at hq
    cases hq
    rw [jL_Resolver_behindFields_5, e1, Option.bind_some, e2, Option.bind_some, if_pos (nI_le (by omega) (by omega))]
  | succ m ih =>
    intro i g' p p' b h1 h2 hq hp
    obtain ⟨q, rfl⟩ : ∃ q, g' = q + 1 := ⟨g' - 1, by omega⟩
    have hi : i < (fl T s).length := by omega
    obtain ⟨ad, f1, f2, f3, f4, f5⟩ := e4.at e3 hl hi
    rw [subs_get hi] at hq
    obtain ⟨p1, b1, b2, q1, q2, rfl⟩ := seqP_cons hq
    rw [jL_Resolver_behindFields_5, e1, Option.bind_some, e2, Option.bind_some, if_neg (nI_ge (by omega) (by omega)), Option.bind_some, f1, Option.bind_some, f3, Option.bind_some, nI_1, hrc _ p p1 b1 (hok i hi) q1 hp, Option.bind_some]
    exact ih (i + 1) q p1 p' b2 (by omega) (by omega) q2 (hbd _ _ _ _ hp q1).2.1
theorem C_bhI {H : zH} {it c : Nat} {rc : Option Nat → Option Nat → Int32 → zH → Option Int32} {g : Nat → Nat → Option (Nat × List Nat)} {ok : Nat → Prop} (hrc : BhOk T R xs ok g rc H) (hbd : ∀ q p p' b, p ≤ xs.length → g q p = some (p', b) → p ≤ p' ∧ p' ≤ xs.length ∧ b.length ≤ 10 * (p' - p)) (hok : ok it) (hc : c ≤ 3) :
    ∀ (m i g' p p' : Nat) (b : List Nat), i + m = c → m < g' → seqP g (List.replicate m it) p = some (p', b) → p ≤ xs.length → jL_Resolver_behindItems_14 fu H rc g' (some (R it)) (some 20) (lN c) (nI p) (nI i) = some (nI p') := by
  intro m
  induction m with
  | zero =>
    intro i g' p p' b h1 h2 hq hp
    obtain ⟨q, rfl⟩ : ∃ q, g' = q + 1 := ⟨g' - 1, by omega⟩
    rw [List.replicate_zero, seqP] at hq
    cases hq
    rw [jL_Resolver_behindItems_14, nI_l (by omega), if_pos ((lN_le (by omega) (by omega)).mpr (by omega))]
  | succ m ih =>
    intro i g' p p' b h1 h2 hq hp
    obtain ⟨q, rfl⟩ : ∃ q, g' = q + 1 := ⟨g' - 1, by omega⟩
    rw [List.replicate_succ] at hq
    obtain ⟨p1, b1, b2, q1, q2, rfl⟩ := seqP_cons hq
    rw [jL_Resolver_behindItems_14, nI_l (by omega), if_neg (fun hh => by have := (lN_le (by omega) (by omega)).mp hh; omega), if_neg (show ¬ (3 : Int32) ≤ nI i from nI_ge (b := 3) (by omega) (by omega)), nI_1, hrc _ p p1 b1 hok q1 hp, Option.bind_some]
    exact ih (i + 1) q p1 p' b2 (by omega) (by omega) q2 (hbd _ _ _ _ hp q1).2.1
theorem C_bh {H : zH} (hT : TOk T) (hxs : xs.length ≤ 24) (hS : SchT H T R) (hR : RL H 20 24 xs) (hfu : 5 ≤ fu) : ∀ f : Nat, BhOk T R xs (fun s => s < T.length ∧ dp T s ≤ f) (encP T xs f) (fun x0 x1 x2 x3 => jF_Resolver_behind fu f x0 x1 x2 x3) H := by
  intro f
  induction f with
  | zero => intro s p p' b hs; have := (hT.2 s hs.1).2.1; omega
  | succ f ih =>
    intro s p p' b hs henc hp
    obtain ⟨hs, hd⟩ := hs
    obtain ⟨t1, t2, t3, t4, t5, t6, t7, t8⟩ := hT.2 s hs
    have hbd : ∀ q p p' b, p ≤ xs.length → encP T xs f q p = some (p', b) → p ≤ p' ∧ p' ≤ xs.length ∧ b.length ≤ 10 * (p' - p) := fun q p p' b hp hh => encP_bd f q p p' b hp hh
    dsimp only
    rw [jF_Resolver_behind, hS.k hs, Option.bind_some, if_0N (by omega), li5, li6, li7, if_eqN (by omega) (by omega), if_eqN (by omega) (by omega), if_eqN (by omega) (by omega)]
    rcases encP_inv henc with ⟨h0, rfl, rfl⟩ | ⟨h7, k⟩ | ⟨h5, hpl, c, b', hc, hx, k, rfl⟩ | ⟨h6, hpl, hx, b', k, rfl⟩ | ⟨h1, h4, hpl, hv, rfl, rfl⟩
    · rw [if_pos h0]
    · rw [if_neg (by omega), if_neg (show ¬ kd T s = 5 by omega), if_neg (show ¬ kd T s = 6 by omega), if_pos h7]
      unfold jF_Resolver_behindFields
      have := C_bhF (fu := fu) ih hS hbd hs t4 (fun i hi => by have := t8 i hi; exact ⟨by omega, by omega⟩) (fl T s).length 0 fu p p' b (by omega) (by omega) (by rw [List.drop_zero]; exact k) hp
      rw [nI_0] at this
      rw [this]; rfl
    · have t6' := t6 h5
      rw [if_neg (by omega), if_pos h5, hS.fi hs (Or.inl h5), Option.bind_some]
      unfold jF_Resolver_behindItems
      rw [hR.at (by omega) (by omega) (by omega), hx, Option.bind_some, nI_1]
      have := C_bhI (fu := fu) (it := sA T s) (c := c) ih hbd ⟨by omega, by omega⟩ hc c 0 fu (p + 1) p' b' (by omega) (by omega) k (by omega)
      rw [nI_0] at this
      rw [this]; rfl
    · have t7' := t7 h6
      rw [if_neg (by omega), if_neg (show ¬ kd T s = 5 by omega), if_pos h6, hR.at (by omega) (by omega) (by omega), Option.bind_some, C_branch hS hs h6, Option.bind_some, nI_1]
      have := ih _ (p + 1) p' b' (by split <;> exact ⟨by omega, by omega⟩) k (by omega)
      dsimp only at this ⊢
      rw [this]; rfl
    · rw [if_neg (by omega), if_neg (by omega), if_neg (by omega), if_neg (by omega), nI_1]
end CD
