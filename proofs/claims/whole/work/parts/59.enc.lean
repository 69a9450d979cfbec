/-! How a value is coded: the pure function, its bounds; appending where there may be no room. -/
/-- one after the other -/
def seqP (g : Nat → Nat → Option (Nat × List Nat)) : List Nat → Nat → Option (Nat × List Nat)
  | [], p => some (p, [])
  | q :: l, p => match g q p with
    | none => none
    | some r => match seqP g l r.1 with
      | none => none
      | some t => some (t.1, r.2 ++ t.2)
/-- a number alone -/
def cod (T : yT) (s : Nat) (x : Int64) : List Nat := if kd T s = 1 then [if x = 0 then 0 else 1] else if kd T s = 4 then varB (nI (rk (pA T s) x.toInt32.toNatClampNeg)).toInt64 else varB x
/-- the value of schema s that begins at place p of the row xs: the place behind it, and its bytes -/
def encP (T : yT) (xs : List Int64) : Nat → Nat → Nat → Option (Nat × List Nat)
  | 0, _, _ => none
  | f + 1, s, p => if kd T s = 0 then some (p, []) else if kd T s = 7 then seqP (encP T xs f) ((fl T s).map fun y => y.2.1) p
    else if xs.length ≤ p then none
    else if kd T s = 5 then (if xs.getD p 0 < 0 ∨ ¬ xs.getD p 0 ≤ 3 then none else (seqP (encP T xs f) (List.replicate (xs.getD p 0).toInt32.toNatClampNeg (sA T s)) (p + 1)).map fun r => (r.1, (if xs.getD p 0 ≤ 0 then [] else varB (xs.getD p 0)) ++ r.2 ++ [0]))
    else if kd T s = 6 then (if xs.getD p 0 = 0 ∨ xs.getD p 0 = 1 then (encP T xs f (if xs.getD p 0 = 0 then sA T s else sB T s) (p + 1)).map fun r => (r.1, varB (xs.getD p 0) ++ r.2) else none)
    else if isVal T s (xs.getD p 0) then some (p + 1, cod T s (xs.getD p 0)) else none
theorem varB_len (x : Int64) : (varB x).length ≤ 10 := vb_len 9 _
theorem i64_03 {x : Int64} (h1 : ¬ x < 0) (h2 : x ≤ 3) : x = 0 ∨ x = 1 ∨ x = 2 ∨ x = 3 := by
  rw [Int64.lt_iff_toInt_lt] at h1
  rw [Int64.le_iff_toInt_le] at h2
  have h1' : ¬ x.toInt < 0 := h1
  have h2' : x.toInt ≤ 3 := h2
  have : x.toInt = 0 ∨ x.toInt = 1 ∨ x.toInt = 2 ∨ x.toInt = 3 := by omega
  rcases this with q | q | q | q
  · exact Or.inl (Int64.toInt_inj.mp q)
  · exact Or.inr (Or.inl (Int64.toInt_inj.mp q))
  · exact Or.inr (Or.inr (Or.inl (Int64.toInt_inj.mp q)))
  · exact Or.inr (Or.inr (Or.inr (Int64.toInt_inj.mp q)))
theorem varB_03 {x : Int64} (h1 : ¬ x < 0) (h2 : x ≤ 3) : (varB x).length = 1 := by
  rcases i64_03 h1 h2 with rfl | rfl | rfl | rfl <;> decide
theorem cod_len (T : yT) (s : Nat) (x : Int64) : (cod T s x).length ≤ 10 := by
  unfold cod
  split
  · simp
  · split
    · exact varB_len _
    · exact varB_len _
theorem seqP_bd {xs : List Int64} {g : Nat → Nat → Option (Nat × List Nat)} (hg : ∀ q p p' b, p ≤ xs.length → g q p = some (p', b) → p ≤ p' ∧ p' ≤ xs.length ∧ b.length ≤ 10 * (p' - p)) : ∀ (l : List Nat) (p p' : Nat) (b : List Nat), p ≤ xs.length → seqP g l p = some (p', b) → p ≤ p' ∧ p' ≤ xs.length ∧ b.length ≤ 10 * (p' - p) := by
  intro l
  induction l with
  | nil =>
    intro p p' b hp h
    cases h
    exact ⟨Nat.le_refl _, hp, by simp⟩
  | cons q l ih =>
    intro p p' b hp h
    rw [seqP] at h
    cases hq : g q p with
    | none => rw [hq] at h; cases h
    | some r =>
      rw [hq] at h
      dsimp only at h
      obtain ⟨h1, h2, h3⟩ := hg q p r.1 r.2 hp hq
      cases ht : seqP g l r.1 with
      | none => rw [ht] at h; cases h
      | some t =>
        rw [ht] at h
        cases h
        obtain ⟨i1, i2, i3⟩ := ih r.1 t.1 t.2 h2 ht
        exact ⟨by omega, i2, by rw [List.length_append]; omega⟩
theorem encP_bd {T : yT} {xs : List Int64} : ∀ (f s p p' : Nat) (b : List Nat), p ≤ xs.length → encP T xs f s p = some (p', b) → p ≤ p' ∧ p' ≤ xs.length ∧ b.length ≤ 10 * (p' - p) := by
  intro f
  induction f with
  | zero => intro s p p' b _ h; cases h
  | succ f ih =>
    intro s p p' b hp h
    rw [encP] at h
    split at h
    · cases h; exact ⟨Nat.le_refl _, hp, by simp⟩
    · split at h
      · exact seqP_bd (fun q p p' b hp hh => ih q p p' b hp hh) _ p p' b hp h
      · split at h
        · cases h
        · next hlt =>
          split at h
          · split at h
            · cases h
            · next hc =>
              obtain ⟨r, hr, he⟩ := Option.map_eq_some_iff.mp h
              cases he
              obtain ⟨i1, i2, i3⟩ := seqP_bd (fun q p p' b hp hh => ih q p p' b hp hh) _ (p + 1) r.1 r.2 (by omega) hr
              have hv : (if xs.getD p 0 ≤ 0 then ([] : List Nat) else varB (xs.getD p 0)).length ≤ 1 := by
                split
                · simp
                · exact Nat.le_of_eq (varB_03 (fun q => hc (Or.inl q)) (Decidable.of_not_not (fun q => hc (Or.inr q))))
              refine ⟨by omega, i2, ?_⟩
              rw [List.length_append, List.length_append, List.length_singleton]
              omega
          · split at h
            · split at h
              · obtain ⟨r, hr, he⟩ := Option.map_eq_some_iff.mp h
                cases he
                obtain ⟨i1, i2, i3⟩ := ih _ (p + 1) r.1 r.2 (by omega) hr
                have := varB_len (xs.getD p 0)
                exact ⟨by omega, i2, by rw [List.length_append]; omega⟩
              · cases h
            · split at h
              · cases h
                have := cod_len T s (xs.getD p 0)
                exact ⟨by omega, by omega, by omega⟩
              · cases h
-- appending, room or none
section Any
variable {k N fu : Nat}
theorem BL.any {H : zH} {bs : List Nat} {x : Int32} (hB : BL H k N bs) (hN : N ≤ 1000000000) (hx : ∃ b, x = nI b) : ∃ H' j, jF_Bytes_append (some k) x H = some H' ∧ BL H' k N (bs ++ j) ∧ Fr H H' (fun q => q = k ∨ q = k + 1) := by
  obtain ⟨b, rfl⟩ := hx
  by_cases hc : bs.length < N
  · obtain ⟨H', e1, e2, e3⟩ := hB.append (b := b) hN hc
    exact ⟨H', [b], e1, e2, e3⟩
  · have hB' := hB
    obtain ⟨hl, f, hf, hg⟩ := hB'
    have he : bs.length = N := by omega
    rw [he] at hf
    exact ⟨H, [], Bytes_full hf hN, by rw [List.append_nil]; exact hB, Fr.rf⟩
theorem BL.varAnyL (hN : N ≤ 1000000000) : ∀ (f g n : Nat) (H : zH) (bs : List Nat), f ≤ 9 → f < g → n < 2 ^ 64 → BL H k N bs →
    ∃ H' j, jL_Bytes_appendVarint_12 fu g (some k) (lN n) (nI (10 - f)) H = some H' ∧ BL H' k N (bs ++ j) ∧ Fr H H' (fun q => q = k ∨ q = k + 1) := by
  intro f
  induction f with
  | zero =>
    intro g n H bs h1 h2 h4 hB
    obtain ⟨q, rfl⟩ : ∃ q, g = q + 1 := ⟨g - 1, by omega⟩
    rw [jL_Bytes_appendVarint_12, if_pos (show (10 : Int32) ≤ nI (10 - 0) from nI_le (Nat.le_refl _) (by omega))]
    unfold jJ_Bytes_appendVarint_53
    obtain ⟨H', j, e1, e2, e3⟩ := hB.any (x := nI n) hN ⟨n, rfl⟩
    rw [lN_i, e1, Option.bind_some]
    exact ⟨H', j, rfl, e2, e3⟩
  | succ f ih =>
    intro g n H bs h1 h2 h4 hB
    obtain ⟨q, rfl⟩ : ∃ q, g = q + 1 := ⟨g - 1, by omega⟩
    rw [jL_Bytes_appendVarint_12, if_neg (show ¬ (10 : Int32) ≤ nI (10 - (f + 1)) from nI_ge (b := 10) (by omega) (by omega)), lN_shr7 h4]
    by_cases hz : n / 128 = 0
    · rw [if_pos ((lN_0 (by omega)).mpr hz)]
      unfold jJ_Bytes_appendVarint_53
      obtain ⟨H', j, e1, e2, e3⟩ := hB.any (x := nI n) hN ⟨n, rfl⟩
      rw [lN_i, e1, Option.bind_some]
      exact ⟨H', j, rfl, e2, e3⟩
    · rw [if_neg (fun hh => hz ((lN_0 (by omega)).mp hh)), lN_and127 h4, lN_i, li128, nI_add]
      obtain ⟨H1, j1, e1, e2, e3⟩ := hB.any (x := nI (n % 128 + 128)) hN ⟨_, rfl⟩
      rw [e1, Option.bind_some, nI_1, show 10 - (f + 1) + 1 = 10 - f by omega]
      obtain ⟨H2, j2, f1, f2, f3⟩ := ih q (n / 128) H1 (bs ++ j1) (by omega) (by omega) (by omega) e2
      exact ⟨H2, j1 ++ j2, f1, by rw [← List.append_assoc]; exact f2, e3.tr f3⟩
theorem BL.varAny {H : zH} {bs : List Nat} {x : Int64} (hN : N ≤ 1000000000) (hB : BL H k N bs) (hfu : 10 ≤ fu) : ∃ H' j, jF_Bytes_appendVarint fu (some k) x H = some H' ∧ BL H' k N (bs ++ j) ∧ Fr H H' (fun q => q = k ∨ q = k + 1) := by
  have hok : zok H (some k) 2 = some () := by obtain ⟨-, f, hf, -⟩ := hB; exact qok hf.1
  unfold jF_Bytes_appendVarint
  rw [hok, Option.bind_some, zz_eq]
  exact BL.varAnyL hN 9 fu (zz x) H bs (by omega) (by omega) (zz_lt x) hB
end Any
