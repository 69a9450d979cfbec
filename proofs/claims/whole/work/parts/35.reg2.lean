/-! The registry: versions, its new block; the reference's registry and its write. -/
/-- the schema of version v, looked for from entry i on, where c versions were passed; n entries more -/
def rVe (dk : Nat → Nat) (u : Nat) (v : Int32) : Nat → Nat → Nat → Option Nat
  | 0, _, _ => none
  | n + 1, i, c => if dk (33 + 2 * i) = u then (if nI c = v then some (dk (34 + 2 * i)) else rVe dk u v n (i + 1) (c + 1)) else rVe dk u v n (i + 1) c
theorem getD_out {α : Type} {l : List α} {j : Nat} {d : α} (h : l.length ≤ j) : l.getD j d = d := by
  simp [List.getD, List.getElem?_eq_none h]
def regL (dk : Nat → Nat) : Nat → List Nat
  | 0 => [dk 32 + 1]
  | i + 1 => regL dk i ++ [dk (33 + 2 * i)] ++ [dk (34 + 2 * i)]
theorem regL_len (dk : Nat → Nat) : ∀ i, (regL dk i).length = 1 + 2 * i
  | 0 => rfl
  | i + 1 => by rw [regL, List.length_append, List.length_append, regL_len dk i]; simp; omega
theorem regL_get (dk : Nat → Nat) : ∀ (i j : Nat), j < 1 + 2 * i → (regL dk i).getD j 0 = if j = 0 then dk 32 + 1 else dk (32 + j)
  | 0, j, h => by
    have : j = 0 := by omega
    subst this; rfl
  | i + 1, j, h => by
    have hl := regL_len dk i
    rw [regL, getD_snoc _ _ _ _ (by rw [List.length_append, hl]; simp; omega), List.length_append, hl]
    by_cases h1 : j = 1 + 2 * i + 1
    · subst h1
      rw [if_pos (by simp), if_neg (by omega)]
      congr 1; omega
    · rw [if_neg (by simpa using h1), getD_snoc _ _ _ _ (by rw [hl]; omega), hl]
      by_cases h2 : j = 1 + 2 * i
      · subst h2
        rw [if_pos rfl, if_neg (by omega)]
        congr 1; omega
      · rw [if_neg h2, regL_get dk i j (by omega)]
/-- the registry's block with an entry more -/
def regB (dk : Nat → Nat) (u s : Nat) : Nat → Nat := fun i => if i = 0 then dk 32 + 1 else if i = 1 + 2 * dk 32 then u else if i = 2 + 2 * dk 32 then s else dk (32 + i)
theorem dput_congr {dk : Nat → Nat} {p n : Nat} {g g' : Nat → Nat} (h : ∀ i, i < n → g i = g' i) : dput dk p n g = dput dk p n g' := by
  funext q
  unfold dput
  by_cases hq : p ≤ q ∧ q < p + n
  · rw [if_pos hq, if_pos hq, h _ (by omega)]
  · rw [if_neg hq, if_neg hq]
theorem wrS_congr {D : yD} {b : Nat} {g g' : Nat → Nat} (h : ∀ i, i < 32 → g i = g' i) : wrS D b g = wrS D b g' := by
  unfold wrS
  rw [dput_congr h]
/-- behind the registry's entries its block is 0 -/
def rZero (dk : Nat → Nat) : Prop := ∀ i, 1 + 2 * dk 32 ≤ i → i < 32 → dk (32 + i) = 0
section RegD
variable {H : zH} {D : yD} {fu : Nat}
theorem Reg_verL (hF : FixAt H) (h : DiskAt H D) (hd : dkOk D.2.2.2) {u : Nat} {v : Int32} (hu : u < 256) : ∀ (g n i c : Nat), i + n = D.2.2.2 32 → n < g → jL_Registry_schemaOf_11 fu H g (some 7) (nI u) v (nI (D.2.2.2 32)) (nI c) (nI i) = some (limI (rVe D.2.2.2 u v n i c)) := by
  intro g
  induction g with
  | zero => intro n i c h1 h2; omega
  | succ g ih =>
    intro n i c h1 h2
    have hd1 := hd.1
    have hd2 := hd.2
    rw [jL_Registry_schemaOf_11]
    cases n with
    | zero => rw [if_pos (nI_le (by omega) (by omega))]; rfl
    | succ n =>
      rw [if_neg (nI_ge (show i < D.2.2.2 32 by omega) (by omega)), Reg_b0 hF h (by omega), Option.bind_some, Reg_b1 hF h (by omega), Option.bind_some, nI_1, nI_1, if_eqN (by have := hd1 (33 + 2 * i); omega) (by omega), rVe]
      by_cases h4 : D.2.2.2 (33 + 2 * i) = u
      · rw [if_pos h4, if_pos h4]
        by_cases h5 : nI c = v
        · rw [if_pos h5, if_pos h5]; rfl
        · rw [if_neg h5, if_neg h5]
          exact ih n (i + 1) (c + 1) (by omega) (by omega)
      · rw [if_neg h4, if_neg h4]
        exact ih n (i + 1) c (by omega) (by omega)
theorem Reg_ver (hF : FixAt H) (h : DiskAt H D) (hd : dkOk D.2.2.2) {u : Nat} {v : Int32} (hu : u < 256) (hfu : 11 ≤ fu) : jF_Registry_schemaOf fu (some 7) (nI u) v H = some (limI (rVe D.2.2.2 u v (D.2.2.2 32) 0 0)) := by
  unfold jF_Registry_schemaOf
  rw [qok hF.2.1, Option.bind_some, Reg_entries hF h, Option.bind_some]
  exact Reg_verL hF h hd hu fu _ 0 0 (by omega) (by have := hd.2; omega)
theorem Reg_appendL (hd : dkOk D.2.2.2) (hz : rZero D.2.2.2) (hlim : limOk D) (hfu : 33 ≤ fu) (h10 : D.2.2.2 32 < 10) {u s : Nat} : ∀ (g i : Nat) (H : zH), FixAt H → DiskAt H D → i ≤ D.2.2.2 32 → D.2.2.2 32 < i + g → BL H 8 32 (regL D.2.2.2 i) →
    ∃ H', jL_Registry_append_26 fu g (some 7) (nI u) (nI s) (nI (D.2.2.2 32)) (nI i) H = some (bI (wrS D 1 (regB D.2.2.2 u s)).1, H') ∧ DiskAt H' (wrS D 1 (regB D.2.2.2 u s)).2 ∧ (∃ b, BL H' 8 32 b) ∧ Fr H H' (fun q => q = 2 ∨ q = 3 ∨ q = 8 ∨ q = 9) := by
  intro g
  induction g with
  | zero => intro i H hF h h1 h2; omega
  | succ g ih =>
    intro i H hF h h1 h2 hB
    have hl := regL_len D.2.2.2 i
    rw [jL_Registry_append_26]
    by_cases hc : i < D.2.2.2 32
    · rw [if_neg (nI_ge hc (by omega)), qgR hF.2.1 rfl, Option.bind_some, Reg_b0 hF h (by omega), Option.bind_some]
      obtain ⟨H1, e1, e2, e3⟩ := hB.append (b := D.2.2.2 (33 + 2 * i)) (by omega) (by omega)
      have hF1 : FixAt H1 := hF.fr e3 (by omega) (by omega) (by omega)
      have hD1 : DiskAt H1 D := h.fr e3 (by omega) (by omega)
      rw [e1, Option.bind_some, qgR hF1.2.1 rfl, Option.bind_some, Reg_b1 hF1 hD1 (by omega), Option.bind_some]
      obtain ⟨H2, f1, f2, f3⟩ := e2.append (b := D.2.2.2 (34 + 2 * i)) (by omega) (by rw [List.length_append]; simp; omega)
      rw [f1, Option.bind_some, nI_1]
      have hF2 : FixAt H2 := hF1.fr f3 (by omega) (by omega) (by omega)
      have hD2 : DiskAt H2 D := hD1.fr f3 (by omega) (by omega)
      obtain ⟨H3, g1, g2, g3, g4⟩ := ih (i + 1) H2 hF2 hD2 (by omega) (by omega) f2
      exact ⟨H3, g1, g2, g3, ((e3.tr f3).up (fun q hq => by omega)).tr g4⟩
    · have hi : i = D.2.2.2 32 := by omega
      rw [if_pos (nI_le (by omega) (by omega)), qgR hF.2.1 rfl, Option.bind_some]
      obtain ⟨H1, e1, e2, e3⟩ := hB.append (b := u) (by omega) (by omega)
      have hF1 : FixAt H1 := hF.fr e3 (by omega) (by omega) (by omega)
      have hD1 : DiskAt H1 D := h.fr e3 (by omega) (by omega)
      rw [e1, Option.bind_some, qgR hF1.2.1 rfl, Option.bind_some]
      obtain ⟨H2, f1, f2, f3⟩ := e2.append (b := s) (by omega) (by rw [List.length_append]; simp; omega)
      have hF2 : FixAt H2 := hF1.fr f3 (by omega) (by omega) (by omega)
      have hD2 : DiskAt H2 D := hD1.fr f3 (by omega) (by omega)
      rw [f1, Option.bind_some, qgR hF2.2.1 rfl, Option.bind_some, qgR hF2.2.1 rfl, Option.bind_some]
      obtain ⟨H3, g1, g2, g3⟩ := Disk_put (b := 1) (fr := 0) (fu := fu) hD2 f2 (by omega) (by omega) (by omega) (by omega) hlim hfu
      have hcg : wrS D 1 (fun q => (regL D.2.2.2 i ++ [u] ++ [s]).getD (0 + q) 0) = wrS D 1 (regB D.2.2.2 u s) := by
        apply wrS_congr
        intro j hj
        rw [Nat.zero_add]
        by_cases h5 : j < 1 + 2 * i + 2
        · rw [getD_snoc _ _ _ _ (by rw [List.length_append, hl]; simp; omega), List.length_append, hl]
          unfold regB
          by_cases h6 : j = 1 + 2 * i + 1
          · rw [if_pos (by simpa using h6), if_neg (by omega), if_neg (by omega), if_pos (by omega)]
          · rw [if_neg (by simpa using h6), getD_snoc _ _ _ _ (by rw [hl]; omega), hl]
            by_cases h7 : j = 1 + 2 * i
            · rw [if_pos h7, if_neg (by omega), if_pos (by omega)]
            · rw [if_neg h7, regL_get _ _ _ (by omega)]
              by_cases h8 : j = 0
              · rw [if_pos h8, if_pos h8]
              · rw [if_neg h8, if_neg h8, if_neg (by omega), if_neg (by omega)]
        · have h9 : (regL D.2.2.2 i ++ [u] ++ [s]).length ≤ j := by rw [List.length_append, List.length_append, hl]; simp; omega
          unfold regB
          rw [if_neg (by omega), if_neg (by omega), if_neg (by omega), hz j (by omega) hj]
          exact getD_out h9
      rw [hcg] at g1 g2
      rw [show jF_Disk_put fu (some 2) 1 (some 8) 0 H2 = jF_Disk_put fu (some 2) (nI 1) (some 8) (nI 0) H2 from rfl, g1, Option.bind_some, zbo_bI, Option.bind_some]
      exact ⟨H3, rfl, g2, ⟨_, f2.fr g3 (by unfold A2; omega) (by unfold A2; omega)⟩, ((e3.tr f3).up (fun q hq => by omega)).tr (g3.up (fun q hq => by unfold A2 at hq; omega))⟩
theorem Reg_append (hF : FixAt H) (h : DiskAt H D) (hB : ∃ b, BL H 8 32 b) (hd : dkOk D.2.2.2) (hz : rZero D.2.2.2) (hlim : limOk D) (hfu : 33 ≤ fu) (h10 : D.2.2.2 32 < 10) {u s : Nat} :
    ∃ H', jF_Registry_append fu (some 7) (nI u) (nI s) H = some (bI (wrS D 1 (regB D.2.2.2 u s)).1, H') ∧ DiskAt H' (wrS D 1 (regB D.2.2.2 u s)).2 ∧ (∃ b, BL H' 8 32 b) ∧ Fr H H' (fun q => q = 2 ∨ q = 3 ∨ q = 8 ∨ q = 9) := by
  obtain ⟨b, hb⟩ := hB
  unfold jF_Registry_append
  rw [qok hF.2.1, Option.bind_some, Reg_entries hF h, Option.bind_some, qgR hF.2.1 rfl, Option.bind_some, li0]
  obtain ⟨H1, e1, e2, e3⟩ := hb.cut (n := 0) (by omega)
  have hF1 : FixAt H1 := hF.fr e3 (by omega) (by omega) (by omega)
  have hD1 : DiskAt H1 D := h.fr e3 (by omega) (by omega)
  rw [e1, Option.bind_some, qgR hF1.2.1 rfl, Option.bind_some, nI_1]
  obtain ⟨H2, f1, f2, f3⟩ := e2.append (b := D.2.2.2 32 + 1) (by omega) (by simp)
  have hF2 : FixAt H2 := hF1.fr f3 (by omega) (by omega) (by omega)
  have hD2 : DiskAt H2 D := hD1.fr f3 (by omega) (by omega)
  rw [f1, Option.bind_some]
  obtain ⟨H3, g1, g2, g3, g4⟩ := Reg_appendL (fu := fu) (u := u) (s := s) hd hz hlim hfu h10 fu 0 H2 hF2 hD2 (by omega) (by omega) (by simpa [regL] using f2)
  exact ⟨H3, g1, g2, g3, ((e3.tr f3).up (fun q hq => by omega)).tr g4⟩
end RegD
