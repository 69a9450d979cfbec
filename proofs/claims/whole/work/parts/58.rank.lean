/-! Ranks of symbols. -/
def rk (A : Int32) : Nat → Nat
  | 0 => 0
  | s + 1 => rk A s + (if (A >>> (nI s &&& 31)) &&& 1 = 1 then 1 else 0)
theorem rk_le (A : Int32) : ∀ s, rk A s ≤ s
  | 0 => Nat.le_refl _
  | s + 1 => by
    have := rk_le A s
    rw [rk]
    split <;> omega
theorem rk_tab : ∀ m, m < 256 → ∀ s, s < 8 → jF_JInteger_bitCount (nI m &&& (((1 : Int32) <<< (nI s &&& 31)) - 1)) (fun _ => .inr (0, []), 1) = some (nI (rk (nI m) s)) := by decide +kernel
/-- the sets of symbols are sets of eight, and another symbol is one of them -/
def TEn (T : yT) : Prop := ∀ s, s < T.length → kd T s = 4 → (∃ m, m < 256 ∧ pA T s = nI m) ∧ (pB T s = -1 ∨ hasSy (pA T s) (pB T s).toInt64 = true)
theorem TEn.snoc {T : yT} {P : List yF} {k n a b : Int32} {x : yS} (h : TEn T) (hx : mkB T P k n a b = some x) : TEn (T ++ [x]) := by
  intro s hs h4
  rw [List.length_append, List.length_singleton] at hs
  by_cases he : s = T.length
  · subst he
    obtain ⟨n1, n2, n3, n4, n5, n6⟩ := yG_new' (T := T) (x := x)
    obtain ⟨x2, x3, x4⟩ := mkB_args hx
    rw [n1] at h4
    rw [n3, n4, x3, x4]
    unfold mkB at hx
    split at hx
    · next c0 =>
      cases hx
      have : k.toNatClampNeg = 4 := h4
      rcases c0 with q | q | q | q <;> (rw [q] at this; exact absurd this (by decide))
    · split at hx
      · split at hx
        · next hc =>
          refine ⟨?_, hc.2.2.2⟩
          obtain ⟨m, hm, rfl⟩ := nI_of (x := a) (by
            intro q
            apply hc.2.1
            rw [Int32.lt_iff_toInt_lt] at q ⊢
            have q' : a.toInt < 0 := q
            show a.toInt < 1
            omega)
          have h255 : nI m ≤ nI 255 := hc.2.2.1
          rw [nI_leI hm (by omega)] at h255
          exact ⟨m, by omega, rfl⟩
        · cases hx
      · split at hx
        · split at hx
          · cases hx
          · cases hx; cases h4
        · split at hx
          · split at hx
            · cases hx
            · split at hx
              · cases hx
              · split at hx
                · cases hx; cases h4
                · cases hx
          · split at hx
            · split at hx
              · cases hx; cases h4
              · cases hx
            · cases hx
  · have hs' : s < T.length := by omega
    rw [kd_app hs'] at h4
    rw [pA_app hs', pB_app hs']
    exact h s hs' h4
section RK
variable {H : zH} {T : yT} {R : Nat → Nat} {s fu : Nat}
theorem C_rank (hS : SchT H T R) (hE : TEn T) (hs : s < T.length) (h4 : kd T s = 4) {y : Nat} (hy : y < 8) : jF_Schema_rankOf (some (R s)) (nI y) H = some (nI (rk (pA T s) y)) := by
  obtain ⟨⟨m, hm, he⟩, -⟩ := hE s hs h4
  unfold jF_Schema_rankOf
  rw [hS.ok hs, Option.bind_some, hS.sy hs h4, Option.bind_some, he]
  have := rk_tab m hm y hy
  rw [show jF_JInteger_bitCount (nI m &&& (((1 : Int32) <<< (nI y &&& 31)) - 1)) H = some (nI (rk (nI m) y)) from this, Option.bind_some]
theorem Mo_belowL {A : Int32} {y : Nat} (hy : y ≤ 1000) : ∀ (k i g : Nat), i + k = y → k < g → jL_Mo_below_4 fu H g A (nI y) (nI (rk A i)) (nI i) = some (nI (rk A y)) := by
  intro k
  induction k with
  | zero =>
    intro i g h1 h2
    obtain ⟨q, rfl⟩ : ∃ q, g = q + 1 := ⟨g - 1, by omega⟩
    rw [jL_Mo_below_4, if_pos (nI_le (by omega) (by omega)), show i = y by omega]
  | succ k ih =>
    intro i g h1 h2
    obtain ⟨q, rfl⟩ : ∃ q, g = q + 1 := ⟨g - 1, by omega⟩
    rw [jL_Mo_below_4, if_neg (nI_ge (by omega) (by omega)), nI_1]
    have hstep : nI (rk A i) + ((A >>> (nI i &&& 31)) &&& 1) = nI (rk A (i + 1)) := by
      rw [rk]
      rcases and1 (A >>> (nI i &&& 31)) with q | q
      · rw [q, if_neg (by decide), li0, nI_add]
      · rw [q, if_pos rfl, nI_1]
    rw [hstep]
    exact ih (i + 1) q (by omega) (by omega)
theorem Mo_below {A : Int32} {y : Nat} (hy : y ≤ 1000) (hfu : y < fu) : jF_Mo_below fu A (nI y) H = some (nI (rk A y)) := by
  unfold jF_Mo_below
  exact Mo_belowL hy y 0 fu (by omega) (by omega)
end RK
