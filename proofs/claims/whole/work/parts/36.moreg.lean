/-! The reference: its registry, and its write of a block. -/
section MoReg
variable {H : zH} {v : Nat → Int32} {D : yD} {fu : Nat}
theorem Mo_dk (h : MDisk H v D) {i : Nat} (hi : i < 1280) : zaI H (some 37) 0 (nI i) = some (nI (D.2.2.2 i)) := qaI h.2.1 hi (by omega)
theorem Mo_hasL (h : MDisk H v D) (hd : dkOk D.2.2.2) {u s : Nat} (hu : u < 256) (hs : s < 256) : ∀ (g i : Nat) (b : Bool), i ≤ D.2.2.2 32 → D.2.2.2 32 < i + g → rHas D.2.2.2 u s i = b → jL_Mo_registered_5 fu H g (some 24) (nI u) (nI s) (bI b) (nI i) = some (bI (rHas D.2.2.2 u s (D.2.2.2 32))) := by
  intro g
  induction g with
  | zero => intro i b h1 h2; omega
  | succ g ih =>
    intro i b h1 h2 h3
    have hd1 := hd.1
    have hd2 := hd.2
    rw [jL_Mo_registered_5, qgR h.1 rfl, Option.bind_some, li32, Mo_dk h (by omega), Option.bind_some]
    by_cases hc : i < D.2.2.2 32
    · rw [if_neg (nI_ge hc (by omega)), if_bI]
      cases b with
      | true =>
        rw [if_pos rfl, jJ_Mo_registered_53]
        show jL_Mo_registered_5 fu H g (some 24) (nI u) (nI s) (bI true) (nI i + 1) = _
        rw [nI_1]
        exact ih (i + 1) true (by omega) (by omega) (by rw [rHas, h3]; rfl)
      | false =>
        rw [if_neg (by decide), Option.bind_some, li33, li34, li2, pk_mul, nI_add, nI_add, Mo_dk h (by omega), Option.bind_some, Option.bind_some, Mo_dk h (by omega), Option.bind_some, nI_1, if_eqN (by have := hd1 (33 + 2 * i); omega) (by omega), if_eqN (by have := hd1 (34 + 2 * i); omega) (by omega)]
        by_cases h4 : D.2.2.2 (33 + 2 * i) = u
        · by_cases h5 : D.2.2.2 (34 + 2 * i) = s
          · rw [if_pos h4, if_pos h5, jJ_Mo_registered_53]
            show jL_Mo_registered_5 fu H g (some 24) (nI u) (nI s) (bI true) (nI i + 1) = _
            rw [nI_1]
            exact ih (i + 1) true (by omega) (by omega) (by rw [rHas, h3]; simp [h4, h5])
          · rw [if_pos h4, if_neg h5]
            exact ih (i + 1) false (by omega) (by omega) (by rw [rHas, h3]; simp [h5])
        · rw [if_neg h4]
          exact ih (i + 1) false (by omega) (by omega) (by rw [rHas, h3]; simp [h4])
    · have hi : i = D.2.2.2 32 := by omega
      rw [if_pos (nI_le (by omega) (by omega)), zbo_bI, Option.bind_some, ← hi, h3]
theorem Mo_has (h : MDisk H v D) (hd : dkOk D.2.2.2) {u s : Nat} (hu : u < 256) (hs : s < 256) (hfu : 11 ≤ fu) : jF_Mo_registered fu (some 24) (nI u) (nI s) H = some (bI (rHas D.2.2.2 u s (D.2.2.2 32))) := by
  unfold jF_Mo_registered
  rw [qok h.1, Option.bind_some]
  exact Mo_hasL h hd hu hs fu 0 false (by omega) (by have := hd.2; omega) rfl
theorem Mo_countL (h : MDisk H v D) (hd : dkOk D.2.2.2) {u : Nat} (hu : u < 256) : ∀ (g i : Nat), i ≤ D.2.2.2 32 → D.2.2.2 32 < i + g → jL_Mo_versions_20 fu H g (some 24) (nI u) (nI (rCnt D.2.2.2 u i)) (nI i) = some (nI (rCnt D.2.2.2 u (D.2.2.2 32))) := by
  intro g
  induction g with
  | zero => intro i h1 h2; omega
  | succ g ih =>
    intro i h1 h2
    have hd1 := hd.1
    have hd2 := hd.2
    rw [jL_Mo_versions_20, qgR h.1 rfl, Option.bind_some, li32, Mo_dk h (by omega), Option.bind_some]
    by_cases hc : i < D.2.2.2 32
    · rw [if_neg (nI_ge hc (by omega)), Option.bind_some, li33, li2, pk_mul, nI_add, Mo_dk h (by omega), Option.bind_some, nI_1, nI_1, li0, nI_add, if_eqN (by have := hd1 (33 + 2 * i); omega) (by omega)]
      have h6 := ih (i + 1) (by omega) (by omega)
      rw [rCnt] at h6
      by_cases h4 : D.2.2.2 (33 + 2 * i) = u
      · rw [if_pos h4] at h6 ⊢
        exact h6
      · rw [if_neg h4] at h6 ⊢
        exact h6
    · have hi : i = D.2.2.2 32 := by omega
      rw [if_pos (nI_le (by omega) (by omega)), ← hi]
theorem Mo_verL (h : MDisk H v D) (hd : dkOk D.2.2.2) {u : Nat} {w : Int32} (hu : u < 256) : ∀ (g n i c : Nat), i + n = D.2.2.2 32 → n < g → jL_Mo_version_25 fu H g (some 24) (nI u) w (nI c) (nI i) = some (limI (rVe D.2.2.2 u w n i c)) := by
  intro g
  induction g with
  | zero => intro n i c h1 h2; omega
  | succ g ih =>
    intro n i c h1 h2
    have hd1 := hd.1
    have hd2 := hd.2
    rw [jL_Mo_version_25, qgR h.1 rfl, Option.bind_some, li32, Mo_dk h (by omega), Option.bind_some]
    cases n with
    | zero => rw [if_pos (nI_le (by omega) (by omega))]; rfl
    | succ n =>
      rw [if_neg (nI_ge (show i < D.2.2.2 32 by omega) (by omega)), Option.bind_some, li33, li34, li2, pk_mul, nI_add, nI_add, Mo_dk h (by omega), Option.bind_some, Option.bind_some, Mo_dk h (by omega), Option.bind_some, nI_1, nI_1, if_eqN (by have := hd1 (33 + 2 * i); omega) (by omega), rVe]
      by_cases h4 : D.2.2.2 (33 + 2 * i) = u
      · rw [if_pos h4, if_pos h4]
        by_cases h5 : nI c = w
        · rw [if_pos h5, if_pos h5]; rfl
        · rw [if_neg h5, if_neg h5]
          exact ih n (i + 1) (c + 1) (by omega) (by omega)
      · rw [if_neg h4, if_neg h4]
        exact ih n (i + 1) c (by omega) (by omega)
theorem rVe_neg {dk : Nat → Nat} {u : Nat} {w : Int32} (hw : w < 0) : ∀ (n i c : Nat), c + n < 2 ^ 31 → rVe dk u w n i c = none := by
  intro n
  induction n with
  | zero => intro i c _; rfl
  | succ n ih =>
    intro i c hc
    have hne : ¬ nI c = w := fun h => nI_pos (show c < 2 ^ 31 by omega) (by rw [h]; exact hw)
    rw [rVe, ih (i + 1) (c + 1) (by omega), ih (i + 1) c (by omega), if_neg hne]
    split <;> rfl
end MoReg
