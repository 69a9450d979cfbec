/-! Files and manifests as bytes; the class writes them. -/
def fileH (s n L : Nat) : List Nat := [83, s, n, L / 256, L % 256]
def fileB (s n : Nat) (b : List Nat) : List Nat := fileH s n b.length ++ b ++ [(fileH s n b.length ++ b).sum % 251]
def wrAll (first : Nat) (fl : List Nat) : Nat → Nat → yD → Bool × yD
  | 0, _, D => (true, D)
  | m + 1, i, D => if (wrS D (first + i) (fun q => fl.getD (i * 32 + q) 0)).1 then wrAll first fl m (i + 1) (wrS D (first + i) (fun q => fl.getD (i * 32 + q) 0)).2 else (false, (wrS D (first + i) (fun q => fl.getD (i * 32 + q) 0)).2)
def nBl (fl : List Nat) : Nat := (fl.length + 31) / 32
def commS (D : yD) (first : Nat) (fl : List Nat) (mb : Nat → Nat) : Bool × yD := if (wrAll first fl (nBl fl) 0 D).1 then wrS (wrAll first fl (nBl fl) 0 D).2 0 mb else wrAll first fl (nBl fl) 0 D
theorem limOk_wr {D : yD} {b : Nat} {g : Nat → Nat} (h : limOk D) : limOk (wrS D b g).2 := by
  unfold wrS
  split
  · intro n hn; cases hn
  · intro n hn
    obtain ⟨k, hk, rfl⟩ := Option.map_eq_some_iff.mp hn
    have := h k hk
    omega
theorem limOk_wrAll {first : Nat} {fl : List Nat} : ∀ (m i : Nat) (D : yD), limOk D → limOk (wrAll first fl m i D).2 := by
  intro m
  induction m with
  | zero => intro i D h; exact h
  | succ m ih =>
    intro i D h
    rw [wrAll]
    split
    · exact ih (i + 1) _ (limOk_wr h)
    · exact limOk_wr h
/-- the manifest's block with an entry more -/
def manB (dk : Nat → Nat) (u fb nb : Nat) : Nat → Nat := fun i => if i = 0 then dk 0 + 1 else if i = 1 + 3 * dk 0 then u else if i = 2 + 3 * dk 0 then fb else if i = 3 + 3 * dk 0 then nb else dk i
/-- the manifest's block with file f in another place, and without file g -/
def manJ (dk : Nat → Nat) (f g fb nb : Nat) : Nat → Nat := fun i => if i = 0 then dk 0 - 1 else if i = 2 + 3 * f then fb else if i = 3 + 3 * f then nb else if i < 1 + 3 * g then dk i else if i < 29 then (if i + 3 < 29 then dk (i + 3) else 0) else dk i
def mZero (dk : Nat → Nat) : Prop := ∀ i, 1 + 3 * dk 0 ≤ i → i < 32 → dk i = 0
def app3 (l : List Nat) (a b c : Nat) : List Nat := l ++ [a] ++ [b] ++ [c]
theorem app3_len (l : List Nat) (a b c : Nat) : (app3 l a b c).length = l.length + 3 := by simp [app3]
theorem app3_get (l : List Nat) (a b c j : Nat) : (app3 l a b c).getD j 0 = if j < l.length then l.getD j 0 else if j = l.length then a else if j = l.length + 1 then b else if j = l.length + 2 then c else 0 := by
  by_cases h0 : j < l.length + 3
  · unfold app3
    rw [getD_snoc _ _ _ _ (by simp; omega)]
    simp only [List.length_append, List.length_singleton]
    by_cases h1 : j = l.length + 1 + 1
    · rw [if_pos h1, if_neg (by omega), if_neg (by omega), if_neg (by omega), if_pos (by omega)]
    · rw [if_neg h1, getD_snoc _ _ _ _ (by simp; omega)]
      simp only [List.length_append, List.length_singleton]
      by_cases h2 : j = l.length + 1
      · rw [if_pos h2, if_neg (by omega), if_neg (by omega), if_pos h2]
      · rw [if_neg h2, getD_snoc _ _ _ _ (by omega)]
        by_cases h3 : j = l.length
        · rw [if_pos h3, if_neg (by omega), if_pos h3]
        · rw [if_neg h3, if_pos (by omega)]
  · rw [getD_out (by rw [app3_len]; omega), if_neg (by omega), if_neg (by omega), if_neg (by omega), if_neg (by omega)]
def manL (dk : Nat → Nat) : Nat → List Nat
  | 0 => [dk 0 + 1]
  | i + 1 => app3 (manL dk i) (dk (1 + 3 * i)) (dk (2 + 3 * i)) (dk (3 + 3 * i))
theorem manL_len (dk : Nat → Nat) : ∀ i, (manL dk i).length = 1 + 3 * i
  | 0 => rfl
  | i + 1 => by rw [manL, app3_len, manL_len dk i]; omega
theorem manL_get (dk : Nat → Nat) : ∀ (i j : Nat), j < 1 + 3 * i → (manL dk i).getD j 0 = if j = 0 then dk 0 + 1 else dk j
  | 0, j, h => by
    have : j = 0 := by omega
    subst this; rfl
  | i + 1, j, h => by
    have hl := manL_len dk i
    rw [manL, app3_get, hl]
    by_cases h1 : j < 1 + 3 * i
    · rw [if_pos h1, manL_get dk i j h1]
    · rw [if_neg h1, if_neg (show ¬ j = 0 by omega)]
      by_cases h2 : j = 1 + 3 * i
      · rw [if_pos h2, h2]
      · rw [if_neg h2]
        by_cases h3 : j = 1 + 3 * i + 1
        · rw [if_pos h3, h3, show 1 + 3 * i + 1 = 2 + 3 * i by omega]
        · rw [if_neg h3, if_pos (by omega)]
          congr 1; omega
theorem manL_B {dk : Nat → Nat} (hz : mZero dk) (hm : dk 0 ≤ 9) {u fb nb : Nat} (j : Nat) (hj : j < 32) : (app3 (manL dk (dk 0)) u fb nb).getD j 0 = manB dk u fb nb j := by
  rw [app3_get, manL_len]
  unfold manB
  by_cases h1 : j < 1 + 3 * dk 0
  · rw [if_pos h1, manL_get _ _ _ h1]
    by_cases h0 : j = 0
    · rw [if_pos h0, if_pos h0]
    · rw [if_neg h0, if_neg h0, if_neg (by omega), if_neg (by omega), if_neg (by omega)]
  · rw [if_neg h1, if_neg (show ¬ j = 0 by omega)]
    by_cases h2 : j = 1 + 3 * dk 0
    · rw [if_pos h2, if_pos h2]
    · rw [if_neg h2, if_neg h2]
      by_cases h3 : j = 2 + 3 * dk 0
      · rw [if_pos (by omega), if_pos h3]
      · rw [if_neg (by omega), if_neg h3]
        by_cases h4 : j = 3 + 3 * dk 0
        · rw [if_pos (by omega), if_pos h4]
        · rw [if_neg (by omega), if_neg h4, hz j (by omega) hj]
def jmL (dk : Nat → Nat) (f g fb nb : Nat) : Nat → List Nat
  | 0 => [dk 0 - 1]
  | i + 1 => if i = f then app3 (jmL dk f g fb nb i) (dk (1 + 3 * i)) fb nb else if i = g then jmL dk f g fb nb i else app3 (jmL dk f g fb nb i) (dk (1 + 3 * i)) (dk (2 + 3 * i)) (dk (3 + 3 * i))
theorem jmL_len (dk : Nat → Nat) {f g fb nb : Nat} (hfg : f < g) : ∀ i, (jmL dk f g fb nb i).length = 1 + 3 * (if i ≤ g then i else i - 1)
  | 0 => by rw [if_pos (by omega)]; rfl
  | i + 1 => by
    have ih := jmL_len dk (fb := fb) (nb := nb) hfg i
    rw [jmL]
    by_cases h1 : i = f
    · rw [if_pos h1, app3_len, ih, if_pos (by omega), if_pos (by omega)]; omega
    · rw [if_neg h1]
      by_cases h2 : i = g
      · rw [if_pos h2, ih, if_pos (by omega), if_neg (by omega)]; omega
      · rw [if_neg h2, app3_len, ih]
        by_cases h3 : i ≤ g
        · rw [if_pos h3, if_pos (by omega)]; omega
        · rw [if_neg h3, if_neg (by omega)]; omega
theorem jmL_get (dk : Nat → Nat) {f g fb nb : Nat} (hfg : f < g) : ∀ (i j : Nat), j < 1 + 3 * (if i ≤ g then i else i - 1) → (jmL dk f g fb nb i).getD j 0 = if j = 0 then dk 0 - 1 else if j = 2 + 3 * f then fb else if j = 3 + 3 * f then nb else if j < 1 + 3 * g then dk j else dk (j + 3)
  | 0, j, h => by
    rw [if_pos (by omega)] at h
    have : j = 0 := by omega
    subst this; rfl
  | i + 1, j, h => by
    have ih := jmL_get dk (fb := fb) (nb := nb) hfg i j
    have hl := jmL_len dk (fb := fb) (nb := nb) hfg i
    rw [jmL]
    by_cases h1 : i = f
    · have hig : i ≤ g := by omega
      rw [if_pos h1, app3_get, hl]
      rw [if_pos hig] at hl ih ⊢
      rw [if_pos (by omega)] at h
      by_cases h2 : j < 1 + 3 * i
      · rw [if_pos h2, ih h2]
      · rw [if_neg h2, if_neg (show ¬ j = 0 by omega)]
        by_cases h3 : j = 1 + 3 * i
        · rw [if_pos h3, if_neg (by omega), if_neg (by omega), if_pos (by omega), h3]
        · rw [if_neg h3]
          by_cases h4 : j = 1 + 3 * i + 1
          · rw [if_pos h4, if_pos (by omega)]
          · rw [if_neg h4, if_pos (by omega), if_neg (by omega), if_pos (by omega)]
    · rw [if_neg h1]
      by_cases h2 : i = g
      · rw [if_pos h2]
        rw [if_pos (by omega)] at ih
        rw [if_neg (by omega)] at h
        exact ih (by omega)
      · rw [if_neg h2, app3_get, hl]
        by_cases h3 : i ≤ g
        · rw [if_pos h3] at hl ih ⊢
          rw [if_pos (by omega)] at h
          by_cases h5 : j < 1 + 3 * i
          · rw [if_pos h5, ih h5]
          · rw [if_neg h5, if_neg (show ¬ j = 0 by omega), if_neg (show ¬ j = 2 + 3 * f by omega), if_neg (show ¬ j = 3 + 3 * f by omega), if_pos (show j < 1 + 3 * g by omega)]
            by_cases h6 : j = 1 + 3 * i
            · rw [if_pos h6, h6]
            · rw [if_neg h6]
              by_cases h7 : j = 1 + 3 * i + 1
              · rw [if_pos h7, h7, show 1 + 3 * i + 1 = 2 + 3 * i by omega]
              · rw [if_neg h7, if_pos (by omega)]
                congr 1; omega
        · rw [if_neg h3] at hl ih ⊢
          rw [if_neg (by omega)] at h
          by_cases h5 : j < 1 + 3 * (i - 1)
          · rw [if_pos h5, ih h5]
          · rw [if_neg h5, if_neg (show ¬ j = 0 by omega), if_neg (show ¬ j = 2 + 3 * f by omega), if_neg (show ¬ j = 3 + 3 * f by omega), if_neg (show ¬ j < 1 + 3 * g by omega)]
            by_cases h6 : j = 1 + 3 * (i - 1)
            · rw [if_pos h6]
              congr 1; omega
            · rw [if_neg h6]
              by_cases h7 : j = 1 + 3 * (i - 1) + 1
              · rw [if_pos h7]
                congr 1; omega
              · rw [if_neg h7, if_pos (by omega)]
                congr 1; omega
theorem jmL_J {dk : Nat → Nat} (hz : mZero dk) (hm : dk 0 ≤ 9) {f g fb nb : Nat} (hfg : f < g) (hg : g < dk 0) (j : Nat) (hj : j < 32) : (jmL dk f g fb nb (dk 0)).getD j 0 = manJ dk f g fb nb j := by
  have hl := jmL_len dk (fb := fb) (nb := nb) hfg (dk 0)
  rw [if_neg (by omega)] at hl
  unfold manJ
  by_cases h1 : j < 1 + 3 * (dk 0 - 1)
  · rw [jmL_get dk hfg (dk 0) j (by rw [if_neg (by omega)]; exact h1)]
    by_cases h0 : j = 0
    · rw [if_pos h0, if_pos h0]
    · rw [if_neg h0, if_neg h0]
      by_cases h2 : j = 2 + 3 * f
      · rw [if_pos h2, if_pos h2]
      · rw [if_neg h2, if_neg h2]
        by_cases h3 : j = 3 + 3 * f
        · rw [if_pos h3, if_pos h3]
        · rw [if_neg h3, if_neg h3]
          by_cases h4 : j < 1 + 3 * g
          · rw [if_pos h4, if_pos h4]
          · rw [if_neg h4, if_neg h4, if_pos (by omega), if_pos (by omega)]
  · rw [getD_out (by omega), if_neg (show ¬ j = 0 by omega), if_neg (show ¬ j = 2 + 3 * f by omega), if_neg (show ¬ j = 3 + 3 * f by omega), if_neg (show ¬ j < 1 + 3 * g by omega)]
    split
    · split
      · exact (hz (j + 3) (by omega) (by omega)).symm
      · rfl
    · exact (hz j (by omega) hj).symm
section CW
variable {fu : Nat}
theorem C_putAllL {first nb : Nat} {fl : List Nat} (hfl : fl.length ≤ 206) (hn : first + nb ≤ 40) (hfu : 33 ≤ fu) : ∀ (m i g : Nat) (H : zH) (D : yD), i + m = nb → m < g → DiskAt H D → BL H 11 206 fl → limOk D →
    ∃ H', jL_Disk_putAll_11 fu g (some 2) (nI first) (some 11) (nI nb) (nI i) H = some (bI (wrAll first fl m i D).1, H') ∧ DiskAt H' (wrAll first fl m i D).2 ∧ Fr H H' (A2 2 3) := by
  intro m
  induction m with
  | zero =>
    intro i g H D h1 h2 hD hB hl
    obtain ⟨q, rfl⟩ : ∃ q, g = q + 1 := ⟨g - 1, by omega⟩
    rw [jL_Disk_putAll_11, if_pos (nI_le (by omega) (by omega))]
    exact ⟨H, rfl, hD, Fr.rf⟩
  | succ m ih =>
    intro i g H D h1 h2 hD hB hl
    obtain ⟨q, rfl⟩ : ∃ q, g = q + 1 := ⟨g - 1, by omega⟩
    rw [jL_Disk_putAll_11, if_neg (nI_ge (by omega) (by omega)), jF_Disk_startOf, Option.bind_some, li32, pk_mul, nI_add, nI_1]
    obtain ⟨H1, e1, e2, e3⟩ := Disk_put (b := first + i) (fr := i * 32) (fu := fu) hD hB (by omega) (by omega) (by omega) (by omega) hl hfu
    rw [e1, Option.bind_some]
    dsimp only
    rw [if_bI, wrAll]
    cases hw : (wrS D (first + i) (fun q => fl.getD (i * 32 + q) 0)).1 with
    | false =>
      rw [if_neg Bool.false_ne_true, if_neg Bool.false_ne_true]
      exact ⟨H1, rfl, e2, e3⟩
    | true =>
      rw [if_pos rfl, if_pos rfl]
      obtain ⟨H2, f1, f2, f3⟩ := ih (i + 1) q H1 _ (by omega) (by omega) e2 (hB.fr e3 (by unfold A2; omega) (by unfold A2; omega)) (limOk_wr hl)
      exact ⟨H2, f1, f2, e3.tr f3⟩
theorem C_putAll {H : zH} {D : yD} {first : Nat} {fl : List Nat} (hD : DiskAt H D) (hB : BL H 11 206 fl) (hl : limOk D) (hn : first + nBl fl ≤ 40) (hfu : 33 ≤ fu) :
    ∃ H', jF_Disk_putAll fu (some 2) (nI first) (some 11) H = some (bI (wrAll first fl (nBl fl) 0 D).1, H') ∧ DiskAt H' (wrAll first fl (nBl fl) 0 D).2 ∧ Fr H H' (A2 2 3) := by
  have hfl := hB.1
  unfold jF_Disk_putAll
  rw [qok hD.1, Option.bind_some, hB.size, Option.bind_some, blocksFor_eq (by omega), Option.bind_some]
  exact C_putAllL hfl hn hfu (nBl fl) 0 fu H D (by omega) (by unfold nBl; omega) hD hB hl
theorem C_entry {H : zH} {l : List Nat} {a b c : Nat} (hF : FixAt H) (hB : BL H 13 32 l) (hl : l.length + 3 ≤ 32) : ∃ H', jF_Manifest_draftEntry (some 10) (nI a) (nI b) (nI c) H = some H' ∧ BL H' 13 32 (app3 l a b c) ∧ Fr H H' (fun q => q = 13 ∨ q = 14) := by
  unfold jF_Manifest_draftEntry app3
  rw [qok hF.2.2, Option.bind_some, qgR hF.2.2 rfl, Option.bind_some]
  obtain ⟨H1, e1, e2, e3⟩ := hB.append (b := a) (by omega) (by omega)
  have hF1 := hF.fr e3 (by omega) (by omega) (by omega)
  rw [e1, Option.bind_some, qgR hF1.2.2 rfl, Option.bind_some]
  obtain ⟨H2, f1, f2, f3⟩ := e2.append (b := b) (by omega) (by simp; omega)
  have hF2 := hF1.fr f3 (by omega) (by omega) (by omega)
  rw [f1, Option.bind_some, qgR hF2.2.2 rfl, Option.bind_some]
  obtain ⟨H3, g1, g2, g3⟩ := f2.append (b := c) (by omega) (by simp; omega)
  rw [g1, Option.bind_some]
  exact ⟨H3, rfl, g2, (e3.tr f3).tr g3⟩
/-- the file, then the manifest -/
theorem C_both {H : zH} {D : yD} {first : Nat} {fl mb : List Nat} {g : Nat → Nat} (hF : FixAt H) (hD : DiskAt H D) (hB : BL H 11 206 fl) (hM : BL H 13 32 mb) (hg : ∀ j, j < 32 → mb.getD j 0 = g j) (hl : limOk D) (hn : first + nBl fl ≤ 40) (hfu : 33 ≤ fu) :
    ∃ H', ((jF_Disk_putAll fu (some 2) (nI first) (some 11) H).bind fun y85 => if y85.1 = 0 then some ((0 : Int32), y85.2) else (zgR y85.2 (some 10) 5 0).bind fun v92 => (zgR y85.2 (some 10) 5 2).bind fun v97 => (jF_Disk_put fu v92 (0 : Int32) v97 (0 : Int32) y85.2).bind fun y101 => if y101.1 = 0 then some ((0 : Int32), y101.2) else some ((1 : Int32), y101.2)) = some (bI (commS D first fl g).1, H') ∧ DiskAt H' (commS D first fl g).2 ∧ Fr H H' (A2 2 3) := by
  obtain ⟨H1, e1, e2, e3⟩ := C_putAll (fu := fu) hD hB hl hn hfu
  have hF1 := hF.fr e3 (by unfold A2; omega) (by unfold A2; omega) (by unfold A2; omega)
  rw [e1, Option.bind_some]
  dsimp only
  unfold commS
  rw [if_bI]
  cases hw : (wrAll first fl (nBl fl) 0 D).1 with
  | false =>
    rw [if_neg Bool.false_ne_true, if_neg Bool.false_ne_true, hw]
    exact ⟨H1, rfl, e2, e3⟩
  | true =>
    rw [if_pos rfl, if_pos rfl, qgR hF1.2.2 rfl, Option.bind_some, qgR hF1.2.2 rfl, Option.bind_some]
    obtain ⟨H2, f1, f2, f3⟩ := Disk_put (b := 0) (fr := 0) (fu := fu) e2 (hM.fr e3 (by unfold A2; omega) (by unfold A2; omega)) (by omega) (by omega) (by omega) (by omega) (limOk_wrAll _ _ _ hl) hfu
    have hc : wrS (wrAll first fl (nBl fl) 0 D).2 0 (fun q => mb.getD (0 + q) 0) = wrS (wrAll first fl (nBl fl) 0 D).2 0 g := wrS_congr (fun j hj => by rw [Nat.zero_add]; exact hg j hj)
    rw [hc] at f1 f2
    have f1' : jF_Disk_put fu (some 2) 0 (some 13) 0 H1 = _ := f1
    rw [f1', Option.bind_some]
    dsimp only
    rw [if_bI]
    cases hw2 : (wrS (wrAll first fl (nBl fl) 0 D).2 0 g).1 with
    | false => rw [if_neg Bool.false_ne_true]; exact ⟨H2, rfl, f2, e3.tr f3⟩
    | true => rw [if_pos rfl]; exact ⟨H2, rfl, f2, e3.tr f3⟩
theorem C_newL {D : yD} {first u : Nat} {fl : List Nat} (hd : dkOk D.2.2.2) (hm : mOk D.2.2.2) (hz : mZero D.2.2.2) (h9 : D.2.2.2 0 < 9) (hl : limOk D) (hn : first + nBl fl ≤ 40) (hfu : 33 ≤ fu) : ∀ (m i g : Nat) (H : zH), i + m = D.2.2.2 0 → m < g → FixAt H → DiskAt H D → BL H 11 206 fl → BL H 13 32 (manL D.2.2.2 i) →
    ∃ H', jL_Manifest_commitNew_26 fu g (some 10) (nI u) (nI first) (nI (D.2.2.2 0)) (nI i) H = some (bI (commS D first fl (manB D.2.2.2 u first (nBl fl))).1, H') ∧ DiskAt H' (commS D first fl (manB D.2.2.2 u first (nBl fl))).2 ∧ BL H' 11 206 fl ∧ (∃ b, BL H' 13 32 b) ∧ Fr H H' (fun q => q = 2 ∨ q = 3 ∨ q = 13 ∨ q = 14) := by
  intro m
  induction m with
  | zero =>
    intro i g H h1 h2 hF hD hB hM
    obtain ⟨q, rfl⟩ : ∃ q, g = q + 1 := ⟨g - 1, by omega⟩
    have hi : i = D.2.2.2 0 := by omega
    subst hi
    have hfl := hB.1
    have hl' := manL_len D.2.2.2 (D.2.2.2 0)
    rw [jL_Manifest_commitNew_26, if_pos (nI_le (Nat.le_refl _) (by omega)), qgR hF.2.2 rfl, Option.bind_some, hB.size, Option.bind_some, blocksFor_eq (by omega), Option.bind_some]
    obtain ⟨H1, e1, e2, e3⟩ := C_entry (a := u) (b := first) (c := nBl fl) hF hM (by omega)
    have e1' : jF_Manifest_draftEntry (some 10) (nI u) (nI first) (nI ((fl.length + 31) / 32)) H = _ := e1
    have hF1 := hF.fr e3 (by omega) (by omega) (by omega)
    have hB1 := hB.fr e3 (by omega) (by omega)
    rw [e1', Option.bind_some, qgR hF1.2.2 rfl, Option.bind_some, qgR hF1.2.2 rfl, Option.bind_some]
    obtain ⟨H2, f1, f2, f3⟩ := C_both (fu := fu) hF1 (hD.fr e3 (by omega) (by omega)) hB1 e2 (fun j hj => manL_B hz hm.1 j hj) hl hn hfu
    exact ⟨H2, f1, f2, hB1.fr f3 (by unfold A2; omega) (by unfold A2; omega), ⟨_, e2.fr f3 (by unfold A2; omega) (by unfold A2; omega)⟩, (e3.up (fun q hq => by omega)).tr (f3.up (fun q hq => by unfold A2 at hq; omega))⟩
  | succ m ih =>
    intro i g H h1 h2 hF hD hB hM
    obtain ⟨q, rfl⟩ : ∃ q, g = q + 1 := ⟨g - 1, by omega⟩
    have hl' := manL_len D.2.2.2 i
    rw [jL_Manifest_commitNew_26, if_neg (nI_ge (by omega) (by omega)), Man_sub hF hD (by omega), Option.bind_some, Man_first hF hD (by omega), Option.bind_some, Man_blocks hF hD (by omega), Option.bind_some, nI_1]
    obtain ⟨H1, e1, e2, e3⟩ := C_entry (a := D.2.2.2 (1 + 3 * i)) (b := D.2.2.2 (2 + 3 * i)) (c := D.2.2.2 (3 + 3 * i)) hF hM (by omega)
    rw [e1, Option.bind_some]
    obtain ⟨H2, f1, f2, f3, f4, f5⟩ := ih (i + 1) q H1 (by omega) (by omega) (hF.fr e3 (by omega) (by omega) (by omega)) (hD.fr e3 (by omega) (by omega)) (hB.fr e3 (by omega) (by omega)) e2
    exact ⟨H2, f1, f2, f3, f4, (e3.up (fun q hq => by omega)).tr f5⟩
theorem C_new {H : zH} {D : yD} {first u : Nat} {fl : List Nat} (hd : dkOk D.2.2.2) (hm : mOk D.2.2.2) (hz : mZero D.2.2.2) (h9 : D.2.2.2 0 < 9) (hl : limOk D) (hn : first + nBl fl ≤ 40) (hfu : 33 ≤ fu) (hF : FixAt H) (hD : DiskAt H D) (hB : BL H 11 206 fl) (hM : ∃ b, BL H 13 32 b) :
    ∃ H', jF_Manifest_commitNew fu (some 10) (nI u) (nI first) H = some (bI (commS D first fl (manB D.2.2.2 u first (nBl fl))).1, H') ∧ DiskAt H' (commS D first fl (manB D.2.2.2 u first (nBl fl))).2 ∧ BL H' 11 206 fl ∧ (∃ b, BL H' 13 32 b) ∧ Fr H H' (fun q => q = 2 ∨ q = 3 ∨ q = 13 ∨ q = 14) := by
  obtain ⟨b, hM⟩ := hM
  unfold jF_Manifest_commitNew
  rw [qok hF.2.2, Option.bind_some, Man_entries hF hD, Option.bind_some, qgR hF.2.2 rfl, Option.bind_some]
  obtain ⟨H1, e1, e2, e3⟩ := hM.cut (n := 0) (by omega)
  have e1' : jF_Bytes_cutTo (some 13) 0 H = _ := e1
  have hF1 := hF.fr e3 (by omega) (by omega) (by omega)
  rw [e1', Option.bind_some, qgR hF1.2.2 rfl, Option.bind_some, nI_1]
  obtain ⟨H2, f1, f2, f3⟩ := e2.append (b := D.2.2.2 0 + 1) (by omega) (by simp)
  have FF := e3.tr f3
  rw [f1, Option.bind_some]
  obtain ⟨H3, g1, g2, g3, g4, g5⟩ := C_newL (fu := fu) (u := u) hd hm hz h9 hl hn hfu (D.2.2.2 0) 0 fu H2 (by omega) (by omega) (hF.fr FF (by omega) (by omega) (by omega)) (hD.fr FF (by omega) (by omega)) (hB.fr FF (by omega) (by omega)) (by simpa [manL] using f2)
  exact ⟨H3, g1, g2, g3, g4, (FF.up (fun q hq => by omega)).tr g5⟩
theorem C_joinL {D : yD} {first f g : Nat} {fl : List Nat} (hd : dkOk D.2.2.2) (hm : mOk D.2.2.2) (hz : mZero D.2.2.2) (hfg : f < g) (hg : g < D.2.2.2 0) (hl : limOk D) (hn : first + nBl fl ≤ 40) (hfu : 33 ≤ fu) : ∀ (m i gu : Nat) (H : zH), i + m = D.2.2.2 0 → m < gu → FixAt H → DiskAt H D → BL H 11 206 fl → BL H 13 32 (jmL D.2.2.2 f g first (nBl fl) i) →
    ∃ H', jL_Manifest_commitJoined_28 fu gu (some 10) (nI f) (nI g) (nI first) (nI (D.2.2.2 0)) (nI i) H = some (bI (commS D first fl (manJ D.2.2.2 f g first (nBl fl))).1, H') ∧ DiskAt H' (commS D first fl (manJ D.2.2.2 f g first (nBl fl))).2 ∧ BL H' 11 206 fl ∧ (∃ b, BL H' 13 32 b) ∧ Fr H H' (fun q => q = 2 ∨ q = 3 ∨ q = 13 ∨ q = 14) := by
  have hm1 := hm.1
  intro m
  induction m with
  | zero =>
    intro i gu H h1 h2 hF hD hB hM
    obtain ⟨q, rfl⟩ : ∃ q, gu = q + 1 := ⟨gu - 1, by omega⟩
    have hi : i = D.2.2.2 0 := by omega
    subst hi
    rw [jL_Manifest_commitJoined_28, if_pos (nI_le (Nat.le_refl _) (by omega)), qgR hF.2.2 rfl, Option.bind_some, qgR hF.2.2 rfl, Option.bind_some]
    obtain ⟨H2, f1, f2, f3⟩ := C_both (fu := fu) hF hD hB hM (fun j hj => jmL_J hz hm.1 hfg hg j hj) hl hn hfu
    exact ⟨H2, f1, f2, hB.fr f3 (by unfold A2; omega) (by unfold A2; omega), ⟨_, hM.fr f3 (by unfold A2; omega) (by unfold A2; omega)⟩, f3.up (fun q hq => by unfold A2 at hq; omega)⟩
  | succ m ih =>
    intro i gu H h1 h2 hF hD hB hM
    obtain ⟨q, rfl⟩ : ∃ q, gu = q + 1 := ⟨gu - 1, by omega⟩
    have hfl := hB.1
    have hl' := jmL_len D.2.2.2 (fb := first) (nb := nBl fl) hfg i
    have hl3 : (jmL D.2.2.2 f g first (nBl fl) i).length + 3 ≤ 32 := by
      rw [hl']
      split <;> omega
    rw [jL_Manifest_commitJoined_28, if_neg (nI_ge (by omega) (by omega)), Man_sub hF hD (by omega), Option.bind_some, qgR hF.2.2 rfl, Option.bind_some, hB.size, Option.bind_some, blocksFor_eq (by omega), Option.bind_some, Option.bind_some, Man_first hF hD (by omega), Option.bind_some, Man_blocks hF hD (by omega), Option.bind_some, nI_1, if_eqN (by omega) (by omega), if_eqN (by omega) (by omega)]
    have hj : jmL D.2.2.2 f g first (nBl fl) (i + 1) = if i = f then app3 (jmL D.2.2.2 f g first (nBl fl) i) (D.2.2.2 (1 + 3 * i)) first (nBl fl) else if i = g then jmL D.2.2.2 f g first (nBl fl) i else app3 (jmL D.2.2.2 f g first (nBl fl) i) (D.2.2.2 (1 + 3 * i)) (D.2.2.2 (2 + 3 * i)) (D.2.2.2 (3 + 3 * i)) := rfl
    by_cases hif : i = f
    · rw [if_pos hif] at hj ⊢
      obtain ⟨H1, e1, e2, e3⟩ := C_entry (a := D.2.2.2 (1 + 3 * i)) (b := first) (c := nBl fl) hF hM hl3
      have e1' : jF_Manifest_draftEntry (some 10) (nI (D.2.2.2 (1 + 3 * i))) (nI first) (nI ((fl.length + 31) / 32)) H = _ := e1
      rw [e1', Option.bind_some]
      obtain ⟨H2, f1, f2, f3, f4, f5⟩ := ih (i + 1) q H1 (by omega) (by omega) (hF.fr e3 (by omega) (by omega) (by omega)) (hD.fr e3 (by omega) (by omega)) (hB.fr e3 (by omega) (by omega)) (by rw [hj]; exact e2)
      exact ⟨H2, f1, f2, f3, f4, (e3.up (fun q hq => by omega)).tr f5⟩
    · rw [if_neg hif] at hj ⊢
      by_cases hig : i = g
      · rw [if_pos hig] at hj ⊢
        exact ih (i + 1) q H (by omega) (by omega) hF hD hB (by rw [hj]; exact hM)
      · rw [if_neg hig] at hj ⊢
        obtain ⟨H1, e1, e2, e3⟩ := C_entry (a := D.2.2.2 (1 + 3 * i)) (b := D.2.2.2 (2 + 3 * i)) (c := D.2.2.2 (3 + 3 * i)) hF hM hl3
        rw [e1, Option.bind_some]
        obtain ⟨H2, f1, f2, f3, f4, f5⟩ := ih (i + 1) q H1 (by omega) (by omega) (hF.fr e3 (by omega) (by omega) (by omega)) (hD.fr e3 (by omega) (by omega)) (hB.fr e3 (by omega) (by omega)) (by rw [hj]; exact e2)
        exact ⟨H2, f1, f2, f3, f4, (e3.up (fun q hq => by omega)).tr f5⟩
theorem C_joined {H : zH} {D : yD} {first f g : Nat} {fl : List Nat} (hd : dkOk D.2.2.2) (hm : mOk D.2.2.2) (hz : mZero D.2.2.2) (hfg : f < g) (hg : g < D.2.2.2 0) (hl : limOk D) (hn : first + nBl fl ≤ 40) (hfu : 33 ≤ fu) (hF : FixAt H) (hD : DiskAt H D) (hB : BL H 11 206 fl) (hM : ∃ b, BL H 13 32 b) :
    ∃ H', jF_Manifest_commitJoined fu (some 10) (nI f) (nI g) (nI first) H = some (bI (commS D first fl (manJ D.2.2.2 f g first (nBl fl))).1, H') ∧ DiskAt H' (commS D first fl (manJ D.2.2.2 f g first (nBl fl))).2 ∧ BL H' 11 206 fl ∧ (∃ b, BL H' 13 32 b) ∧ Fr H H' (fun q => q = 2 ∨ q = 3 ∨ q = 13 ∨ q = 14) := by
  have hm1 := hm.1
  obtain ⟨b, hM⟩ := hM
  unfold jF_Manifest_commitJoined
  rw [qok hF.2.2, Option.bind_some, Man_entries hF hD, Option.bind_some, qgR hF.2.2 rfl, Option.bind_some]
  obtain ⟨H1, e1, e2, e3⟩ := hM.cut (n := 0) (by omega)
  have e1' : jF_Bytes_cutTo (some 13) 0 H = _ := e1
  have hF1 := hF.fr e3 (by omega) (by omega) (by omega)
  rw [e1', Option.bind_some, qgR hF1.2.2 rfl, Option.bind_some, show nI (D.2.2.2 0) - 1 = nI (D.2.2.2 0 - 1) from pk_sub (b := 1) (by omega)]
  obtain ⟨H2, f1, f2, f3⟩ := e2.append (b := D.2.2.2 0 - 1) (by omega) (by simp)
  have FF := e3.tr f3
  rw [f1, Option.bind_some]
  obtain ⟨H3, g1, g2, g3, g4, g5⟩ := C_joinL (fu := fu) hd hm hz hfg hg hl hn hfu (D.2.2.2 0) 0 fu H2 (by omega) (by omega) (hF.fr FF (by omega) (by omega) (by omega)) (hD.fr FF (by omega) (by omega)) (hB.fr FF (by omega) (by omega)) (by simpa [jmL] using f2)
  exact ⟨H3, g1, g2, g3, g4, (FF.up (fun q hq => by omega)).tr g5⟩
end CW
