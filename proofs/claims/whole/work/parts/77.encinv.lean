/-! What it means that a value is coded; what does not change it. -/
/-- the five ways in which a value of schema s lies at place p -/
def EnW (T : yT) (xs : List Int64) (g : Nat → Nat → Option (Nat × List Nat)) (s p p' : Nat) (b : List Nat) : Prop :=
  (kd T s = 0 ∧ p' = p ∧ b = []) ∨
  (kd T s = 7 ∧ seqP g (subs T s) p = some (p', b)) ∨
  (kd T s = 5 ∧ p < xs.length ∧ ∃ c b', c ≤ 3 ∧ xs.getD p 0 = lN c ∧ seqP g (List.replicate c (sA T s)) (p + 1) = some (p', b') ∧ b = (if c = 0 then [] else varB (lN c)) ++ b' ++ [0]) ∨
  (kd T s = 6 ∧ p < xs.length ∧ (xs.getD p 0 = 0 ∨ xs.getD p 0 = 1) ∧ ∃ b', g (if xs.getD p 0 = 0 then sA T s else sB T s) (p + 1) = some (p', b') ∧ b = varB (xs.getD p 0) ++ b') ∨
  (1 ≤ kd T s ∧ kd T s ≤ 4 ∧ p < xs.length ∧ isVal T s (xs.getD p 0) = true ∧ p' = p + 1 ∧ b = cod T s (xs.getD p 0))
theorem lN_le0 {c : Nat} (hc : c ≤ 3) : (lN c ≤ 0 ↔ c = 0) := by
  have := lN_le (a := c) (b := 0) (by omega) (by omega)
  rw [show (0 : Int64) = lN 0 from rfl, this]
  omega
theorem isVal_k {T : yT} {s : Nat} {x : Int64} (h : isVal T s x = true) : 1 ≤ kd T s ∧ kd T s ≤ 4 := by
  unfold isVal at h
  split at h
  · omega
  · split at h
    · omega
    · split at h
      · omega
      · split at h
        · omega
        · cases h
theorem encP_inv {T : yT} {xs : List Int64} {f s p p' : Nat} {b : List Nat} (h : encP T xs (f + 1) s p = some (p', b)) : EnW T xs (encP T xs f) s p p' b := by
  unfold EnW
  rw [encP] at h
  split at h
  · next h0 => cases h; exact Or.inl ⟨h0, rfl, rfl⟩
  · split at h
    · next h7 => exact Or.inr (Or.inl ⟨h7, h⟩)
    · split at h
      · cases h
      · next hp =>
        split at h
        · next h5 =>
          split at h
          · cases h
          · next hx =>
            have c1 : ¬ xs.getD p 0 < 0 := fun q => hx (Or.inl q)
            have c2 : xs.getD p 0 ≤ 3 := Classical.byContradiction (fun q => hx (Or.inr q))
            obtain ⟨c, hc, hcx⟩ : ∃ c : Nat, c ≤ 3 ∧ xs.getD p 0 = lN c := by
              rcases i64_03 c1 c2 with q | q | q | q
              · exact ⟨0, by omega, q⟩
              · exact ⟨1, by omega, q⟩
              · exact ⟨2, by omega, q⟩
              · exact ⟨3, by omega, q⟩
            obtain ⟨t, ht, hb⟩ := Option.map_eq_some_iff.mp h
            rw [hcx, lN_i, nI_clamp (by omega)] at ht
            rw [hcx] at hb
            cases hb
            refine Or.inr (Or.inr (Or.inl ⟨h5, by omega, c, t.2, hc, hcx, ht, ?_⟩))
            by_cases h0 : c = 0
            · rw [if_pos h0, if_pos ((lN_le0 hc).mpr h0)]
            · rw [if_neg h0, if_neg (fun q => h0 ((lN_le0 hc).mp q))]
        · split at h
          · next h6 =>
            split at h
            · next hx =>
              obtain ⟨t, ht, hb⟩ := Option.map_eq_some_iff.mp h
              cases hb
              exact Or.inr (Or.inr (Or.inr (Or.inl ⟨h6, by omega, hx, t.2, ht, rfl⟩)))
            · cases h
          · split at h
            · next hv =>
              cases h
              have := isVal_k hv
              exact Or.inr (Or.inr (Or.inr (Or.inr ⟨this.1, this.2, by omega, hv, rfl, rfl⟩)))
            · cases h
theorem encP_mk {T : yT} {xs : List Int64} {f s p p' : Nat} {b : List Nat} (h : EnW T xs (encP T xs f) s p p' b) : encP T xs (f + 1) s p = some (p', b) := by
  rw [encP]
  rcases h with ⟨h0, rfl, rfl⟩ | ⟨h7, h⟩ | ⟨h5, hp, c, b', hc, hx, h, rfl⟩ | ⟨h6, hp, hx, b', h, rfl⟩ | ⟨h1, h4, hp, hv, rfl, rfl⟩
  · rw [if_pos h0]
  · rw [if_neg (by omega), if_pos h7]
    exact h
  · have c1 : ¬ (lN c < 0 ∨ ¬ lN c ≤ 3) := by
      have : c = 0 ∨ c = 1 ∨ c = 2 ∨ c = 3 := by omega
      rcases this with rfl | rfl | rfl | rfl <;> decide
    rw [if_neg (by omega), if_neg (by omega), if_neg (by omega), if_pos h5, hx, if_neg c1, lN_i, nI_clamp (by omega), h]
    by_cases h0 : c = 0
    · rw [if_pos h0, if_pos ((lN_le0 hc).mpr h0)]; rfl
    · rw [if_neg h0, if_neg (fun q => h0 ((lN_le0 hc).mp q))]; rfl
  · rw [if_neg (by omega), if_neg (by omega), if_neg (by omega), if_neg (by omega), if_pos h6, if_pos hx, h]
    rfl
  · rw [if_neg (by omega), if_neg (by omega), if_neg (by omega), if_neg (by omega), if_neg (by omega), hv, if_pos rfl]
theorem seqP_mono {g g' : Nat → Nat → Option (Nat × List Nat)} : ∀ (l : List Nat) (p : Nat) (r : Nat × List Nat), (∀ q, q ∈ l → ∀ p r, g q p = some r → g' q p = some r) → seqP g l p = some r → seqP g' l p = some r := by
  intro l
  induction l with
  | nil => intro p r _ h; exact h
  | cons q l ih =>
    intro p r hq h
    rw [seqP] at h ⊢
    cases hg : g q p with
    | none => rw [hg] at h; cases h
    | some t =>
      rw [hg] at h
      dsimp only at h
      rw [hq q List.mem_cons_self p t hg]
      dsimp only
      cases ht : seqP g l t.1 with
      | none => rw [ht] at h; cases h
      | some u =>
        rw [ht] at h
        rw [ih t.1 u (fun q' hq' => hq q' (List.mem_cons_of_mem _ hq')) ht]
        exact h
theorem seqP_cons {g : Nat → Nat → Option (Nat × List Nat)} {q p p' : Nat} {l b : List Nat} (h : seqP g (q :: l) p = some (p', b)) : ∃ p1 b1 b2, g q p = some (p1, b1) ∧ seqP g l p1 = some (p', b2) ∧ b = b1 ++ b2 := by
  rw [seqP] at h
  cases hg : g q p with
  | none => rw [hg] at h; cases h
  | some t =>
    rw [hg] at h
    dsimp only at h
    cases ht : seqP g l t.1 with
    | none => rw [ht] at h; cases h
    | some u =>
      rw [ht] at h
      cases h
      exact ⟨t.1, t.2, u.2, rfl, ht, rfl⟩
/-- a longer row holds the same value -/
theorem encP_ext {T : yT} {xs ys : List Int64} (hl : xs.length ≤ ys.length) (hg : ∀ i, i < xs.length → ys.getD i 0 = xs.getD i 0) : ∀ (f s p : Nat) (r : Nat × List Nat), encP T xs f s p = some r → encP T ys f s p = some r := by
  intro f
  induction f with
  | zero => intro s p r h; cases h
  | succ f ih =>
    intro s p r h
    obtain ⟨p', b⟩ := r
    apply encP_mk
    rcases encP_inv h with ⟨h0, rfl, rfl⟩ | ⟨h7, k⟩ | ⟨h5, hp, c, b', hc, hx, k, rfl⟩ | ⟨h6, hp, hx, b', k, rfl⟩ | ⟨h1, h4, hp, hv, rfl, rfl⟩
    · exact Or.inl ⟨h0, rfl, rfl⟩
    · exact Or.inr (Or.inl ⟨h7, seqP_mono _ _ _ (fun q _ p r => ih q p r) k⟩)
    · exact Or.inr (Or.inr (Or.inl ⟨h5, by omega, c, b', hc, by rw [hg p hp]; exact hx, seqP_mono _ _ _ (fun q _ p r => ih q p r) k, rfl⟩))
    · refine Or.inr (Or.inr (Or.inr (Or.inl ⟨h6, by omega, by rw [hg p hp]; exact hx, b', ?_, by rw [hg p hp]⟩)))
      rw [hg p hp]
      exact ih _ _ _ k
    · exact Or.inr (Or.inr (Or.inr (Or.inr ⟨h1, h4, by omega, by rw [hg p hp]; exact hv, rfl, by rw [hg p hp]⟩)))
theorem isVal_congr {T T' : yT} {s : Nat} {x : Int64} (h : yG T' s = yG T s) : isVal T' s x = isVal T s x := by
  unfold isVal kd pA
  rw [h]
theorem cod_congr {T T' : yT} {s : Nat} {x : Int64} (h : yG T' s = yG T s) : cod T' s x = cod T s x := by
  unfold cod kd pA
  rw [h]
/-- more schemas do not change it -/
theorem encP_more {T T' : yT} {xs : List Int64} (hT : TOk T) (hG : ∀ s, s < T.length → yG T' s = yG T s) : ∀ (f s p : Nat) (r : Nat × List Nat), s < T.length → encP T xs f s p = some r → encP T' xs f s p = some r := by
  intro f
  induction f with
  | zero => intro s p r hs h; cases h
  | succ f ih =>
    intro s p r hs h
    obtain ⟨p', b⟩ := r
    obtain ⟨t1, t2, t3, t4, t5, t6, t7, t8⟩ := hT.2 s hs
    have hG' := hG s hs
    have hk : kd T' s = kd T s := by unfold kd; rw [hG']
    have hA : sA T' s = sA T s := by unfold sA pA; rw [hG']
    have hB : sB T' s = sB T s := by unfold sB pB; rw [hG']
    have hf : subs T' s = subs T s := by unfold subs fl; rw [hG']
    apply encP_mk
    unfold EnW
    rw [hk, hA, hB, hf, isVal_congr hG', cod_congr hG']
    rcases encP_inv h with ⟨h0, rfl, rfl⟩ | ⟨h7, k⟩ | ⟨h5, hp, c, b', hc, hx, k, rfl⟩ | ⟨h6, hp, hx, b', k, rfl⟩ | ⟨h1, h4, hp, hv, rfl, rfl⟩
    · exact Or.inl ⟨h0, rfl, rfl⟩
    · exact Or.inr (Or.inl ⟨h7, seqP_mono _ _ _ (fun q hq p r hh => ih q p r (by have := subs_mem hT hs hq; omega) hh) k⟩)
    · refine Or.inr (Or.inr (Or.inl ⟨h5, hp, c, b', hc, hx, seqP_mono _ _ _ (fun q hq p r hh => ih q p r ?_ hh) k, rfl⟩))
      have := List.eq_of_mem_replicate hq
      have := t6 h5
      omega
    · refine Or.inr (Or.inr (Or.inr (Or.inl ⟨h6, hp, hx, b', ih _ _ _ ?_ k, rfl⟩)))
      have := t7 h6
      split <;> omega
    · exact Or.inr (Or.inr (Or.inr (Or.inr ⟨h1, h4, hp, hv, rfl, rfl⟩)))
theorem vb_ok : ∀ (f n : Nat), n < 2 ^ (7 * f + 8) → byOk (vb f n)
  | 0, n => fun h x hx => by
    have : x = n := by simpa [vb] using hx
    rw [this]; exact h
  | f + 1, n => fun h x hx => by
    rw [vb] at hx
    split at hx
    · next hz =>
      have : x = n := by simpa using hx
      omega
    · rcases List.mem_cons.mp hx with rfl | hx
      · omega
      · refine vb_ok f (n / 128) ?_ x hx
        have : 2 ^ (7 * (f + 1) + 8) = 2 ^ (7 * f + 8) * 128 := by rw [show 7 * (f + 1) + 8 = 7 * f + 8 + 7 by omega, Nat.pow_add]
        rw [this] at h
        exact Nat.div_lt_of_lt_mul (by rw [Nat.mul_comm]; exact h)
theorem varB_ok (x : Int64) : byOk (varB x) := vb_ok 9 _ (Nat.lt_of_lt_of_le (zz_lt x) (Nat.pow_le_pow_right (by omega) (by omega)))
theorem cod_ok (T : yT) (s : Nat) (x : Int64) : byOk (cod T s x) := by
  unfold cod
  split
  · intro y hy
    have : y = if x = 0 then 0 else 1 := by simpa using hy
    rw [this]
    split <;> omega
  · split
    · exact varB_ok _
    · exact varB_ok _
theorem seqP_ok {g : Nat → Nat → Option (Nat × List Nat)} (hg : ∀ q p p' b, g q p = some (p', b) → byOk b) : ∀ (l : List Nat) (p p' : Nat) (b : List Nat), seqP g l p = some (p', b) → byOk b := by
  intro l
  induction l with
  | nil => intro p p' b h x hx; cases h; simp at hx
  | cons q l ih =>
    intro p p' b h
    obtain ⟨p1, b1, b2, h1, h2, rfl⟩ := seqP_cons h
    exact (hg _ _ _ _ h1).app (ih _ _ _ h2)
theorem encP_ok {T : yT} {xs : List Int64} : ∀ (f s p p' : Nat) (b : List Nat), encP T xs f s p = some (p', b) → byOk b := by
  intro f
  induction f with
  | zero => intro s p p' b h; cases h
  | succ f ih =>
    intro s p p' b h
    rcases encP_inv h with ⟨h0, rfl, rfl⟩ | ⟨h7, k⟩ | ⟨h5, hp, c, b', hc, hx, k, rfl⟩ | ⟨h6, hp, hx, b', k, rfl⟩ | ⟨h1, h4, hp, hv, rfl, rfl⟩
    · intro x hx; simp at hx
    · exact seqP_ok (fun q p p' b hh => ih q p p' b hh) _ _ _ _ k
    · have h0 : byOk [0] := by
        intro x hx
        have : x = 0 := by simpa using hx
        omega
      refine (byOk.app ?_ (seqP_ok (fun q p p' b hh => ih q p p' b hh) _ _ _ _ k)).app h0
      split
      · intro x hx; simp at hx
      · exact varB_ok _
    · exact (varB_ok _).app (ih _ _ _ _ k)
    · exact cod_ok _ _ _
