/-! The reference's write of one block. -/
/-- its numbers behind a write that is refused, and behind one that is made -/
def vDown (v : Nat → Int32) : Nat → Int32 := va_up (va_up (va_up (va_up (va_up (va_up v 16 1) 20 0) 22 0) 24 0) 17 0) 26 0
def vMade (v : Nat → Int32) : Nat → Int32 := va_up (va_up v 18 (v 18 - v 17)) 15 (v 15 + 1)
section MoWr
variable {v : Nat → Int32} {fu : Nat}
theorem Mo_writeL {b : Nat} {dk g' : Nat → Nat} (hb : b < 40) : ∀ (g i : Nat) (H : zH), MoAt H v → AI H 37 1280 (fun q => nI (dput dk (32 * b) i g' q)) → AI H 42 32 (fun q => nI (g' q)) → i ≤ 32 → 32 < i + g →
    ∃ H', jL_Mo_write_79 fu g (some 24) (nI b) (nI i) H = some (1, H') ∧ MoAt H' v ∧ AI H' 37 1280 (fun q => nI (dput dk (32 * b) 32 g' q)) ∧ Fr H H' (fun q => q = 37) := by
  intro g
  induction g with
  | zero => intro i H _ _ _ h1 h2; omega
  | succ g ih =>
    intro i H hM hd hb2 h1 h2
    rw [jL_Mo_write_79]
    by_cases hc : i < 32
    · rw [if_neg (show ¬ (32 : Int32) ≤ nI i from nI_ge (b := 32) hc (by omega)), qgR hM rfl, Option.bind_some, qgR hM rfl, Option.bind_some, qaI hb2 hc (by omega), Option.bind_some, li32, pk_mul, nI_add, qsI hd (by omega) (by omega), Option.bind_some, nI_1]
      have hd1 : AI (zset H 37 (.inl (0, 1280, .inl (va_up (fun q => nI (dput dk (32 * b) i g' q)) (32 * b + i) (nI (g' i)))))) 37 1280 (fun q => nI (dput dk (32 * b) (i + 1) g' q)) := by
        unfold AI
        rw [zgo_set_same hd, zup_nI, dput_succ]
      obtain ⟨H2, f1, f2, f3, f4⟩ := ih (i + 1) _ (by unfold MoAt; rw [zgo_set_ne (by decide)]; exact hM) hd1 (by unfold AI; rw [zgo_set_ne (by decide)]; exact hb2) (by omega) (by omega)
      exact ⟨H2, f1, f2, f3, (Fr.set (A := fun q => q = 37) rfl).tr f4⟩
    · have hi : i = 32 := by omega
      subst hi
      rw [if_pos (show (32 : Int32) ≤ nI 32 from nI_le (Nat.le_refl _) (by omega))]
      exact ⟨H, rfl, hM, hd, Fr.rf⟩
theorem Mo_write46 {H : zH} {b : Nat} {dk g' : Nat → Nat} {lm : Bool} (hb : b < 40) (hM : MoAt H v) (hv : v 17 = bI lm) (hd : AI H 37 1280 (fun q => nI (dk q))) (hg : AI H 42 32 (fun q => nI (g' q))) (hfu : 33 ≤ fu) :
    ∃ H', jJ_Mo_write_46 fu (some 24) (nI b) H = some (1, H') ∧ MoAt H' (vMade v) ∧ AI H' 37 1280 (fun q => nI (dput dk (32 * b) 32 g' q)) ∧ Fr H H' (A2 24 37) := by
  unfold jJ_Mo_write_46
  rw [qgI hM rfl, Option.bind_some, qgI hM rfl, Option.bind_some]
  have key : ∀ x : Int32, x = v 17 → ∃ H', jJ_Mo_write_63 fu x (v 18) (some 24) (some 24) (nI b) H = some (1, H') ∧ MoAt H' (vMade v) ∧ AI H' 37 1280 (fun q => nI (dput dk (32 * b) 32 g' q)) ∧ Fr H H' (A2 24 37) := by
    intro x hx
    subst hx
    unfold jJ_Mo_write_63
    rw [hM.set (by omega), Option.bind_some]
    have hM1 : MoAt (zset H 24 (.inr (1, MoF (va_up v 18 (v 18 - v 17))))) (va_up v 18 (v 18 - v 17)) := hM.new
    rw [qgI hM1 rfl, Option.bind_some, hM1.set (by omega), Option.bind_some]
    have hM2 := hM1.new (w := vMade v)
    obtain ⟨H2, f1, f2, f3, f4⟩ := Mo_writeL (fu := fu) (dk := dk) (g' := g') hb fu 0 _ hM2 (by unfold AI; rw [zgo_set_ne (by decide), zgo_set_ne (by decide), dput_0]; exact hd) (by unfold AI; rw [zgo_set_ne (by decide), zgo_set_ne (by decide)]; exact hg) (by omega) (by omega)
    exact ⟨H2, f1, f2, f3, ((Fr.set (Or.inl rfl)).tr (Fr.set (Or.inl rfl))).tr (f4.up (fun q hq => Or.inr hq))⟩
  rw [hv, if_bI]
  cases lm with
  | true => rw [if_pos rfl]; exact key 1 (by rw [hv]; rfl)
  | false => rw [if_neg (by decide)]; exact key 0 (by rw [hv]; rfl)
theorem Mo_write {H : zH} {D : yD} {b : Nat} {g' : Nat → Nat} (hb : b < 40) (h : MDisk H v D) (hlim : limOk D) (hg : AI H 42 32 (fun q => nI (g' q))) (hfu : 33 ≤ fu) :
    ∃ H', jF_Mo_write fu (some 24) (nI b) H = some (bI (wrS D b g').1, H') ∧ MDisk H' (if (wrS D b g').1 then vMade v else vDown v) (wrS D b g').2 ∧ Fr H H' (A2 24 37) := by
  obtain ⟨hM, hd, h15, h16, h17, h18⟩ := h
  unfold jF_Mo_write
  rw [qok hM, Option.bind_some, qgI hM rfl, Option.bind_some, h17, if_bI]
  cases hl : D.2.1 with
  | none =>
    rw [if_neg (by decide)]
    obtain ⟨H2, f1, f2, f3, f4⟩ := Mo_write46 (fu := fu) (lm := false) hb hM (by rw [h17, hl]; rfl) hd hg hfu
    have hw : wrS D b g' = (true, D.1, none, D.2.2.1 + 1, dput D.2.2.2 (32 * b) 32 g') := by unfold wrS; rw [if_neg (by rw [hl]; simp), hl]; rfl
    rw [hw, f1]
    refine ⟨H2, rfl, ⟨f2, f3, ?_, h16, ?_, fun n hn => by cases hn⟩, f4⟩
    · show v 15 + 1 = nI (D.2.2.1 + 1)
      rw [h15, nI_1]
    · show v 17 = bI false
      rw [h17, hl]; rfl
  | some n =>
    have hn := hlim n hl
    have h18' := h18 n hl
    rw [if_pos (show (some n).isSome = true from rfl), qgI hM rfl, Option.bind_some, h18', if_0N hn]
    by_cases h0 : n = 0
    · subst h0
      have hw : wrS D b g' = (false, false, none, D.2.2.1, D.2.2.2) := by unfold wrS; rw [if_pos hl]
      rw [if_pos rfl, hM.setZ (Or.inr rfl) (by omega), Option.bind_some, (hM.new).set (by omega), Option.bind_some, (hM.new.new).set (by omega), Option.bind_some, (hM.new.new.new).set (by omega), Option.bind_some, (hM.new.new.new.new).setZ (Or.inl rfl) (by omega), Option.bind_some, (hM.new.new.new.new.new).set (by omega), Option.bind_some, hw]
      refine ⟨_, rfl, ⟨hM.new.new.new.new.new.new, ?_, h15, rfl, rfl, fun n hn => by cases hn⟩, ?_⟩
      · unfold AI; rw [zgo_set_ne (by decide), zgo_set_ne (by decide), zgo_set_ne (by decide), zgo_set_ne (by decide), zgo_set_ne (by decide), zgo_set_ne (by decide)]; exact hd
      · exact (((((Fr.set (Or.inl rfl)).tr (Fr.set (Or.inl rfl))).tr (Fr.set (Or.inl rfl))).tr (Fr.set (Or.inl rfl))).tr (Fr.set (Or.inl rfl))).tr (Fr.set (Or.inl rfl))
    · rw [if_neg h0]
      obtain ⟨H2, f1, f2, f3, f4⟩ := Mo_write46 (fu := fu) (lm := true) hb hM (by rw [h17, hl]; rfl) hd hg hfu
      have hw : wrS D b g' = (true, D.1, some (n - 1), D.2.2.1 + 1, dput D.2.2.2 (32 * b) 32 g') := by unfold wrS; rw [if_neg (by rw [hl]; simpa using h0), hl]; rfl
      rw [hw, f1]
      refine ⟨H2, rfl, ⟨f2, f3, ?_, h16, ?_, fun k hk => ?_⟩, f4⟩
      · show v 15 + 1 = nI (D.2.2.1 + 1)
        rw [h15, nI_1]
      · show v 17 = bI true
        rw [h17, hl]; rfl
      · cases hk
        show v 18 - v 17 = nI (n - 1)
        rw [h18', h17, hl]
        obtain ⟨k, rfl⟩ : ∃ k, n = k + 1 := ⟨n - 1, by omega⟩
        exact nI_pred k
end MoWr
