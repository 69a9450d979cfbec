/-! The reference's make: what it refuses, and how deep the new one is. -/
theorem and1 (x : Int32) : x &&& 1 = 0 ∨ x &&& 1 = 1 := by
  obtain ⟨j, hj, he⟩ := pk_andE x (m := 1) 1 (by decide)
  have : j = 0 ∨ j = 1 := by omega
  rcases this with rfl | rfl
  · exact Or.inl he
  · exact Or.inr he
section MM
variable {H : zH} {v : Nat → Int32} {T : yT} {P : List yF} {fu : Nat}
theorem Mo_badEnum (h : MSB H v T P) {n a b : Int32} : jF_Mo_badEnum (some 24) n a b H = some (bI (!decide (nmOk n ∧ ¬ a < 1 ∧ a ≤ 255 ∧ (b = -1 ∨ hasSy a b.toInt64 = true)))) := by
  unfold jF_Mo_badEnum jJ_Mo_badEnum_42
  rw [qok h.m, Option.bind_some, Mo_noName, Option.bind_some, if_bI]
  have e255 : a ≤ 255 ↔ ¬ 255 < a := by rw [Int32.le_iff_toInt_le, Int32.lt_iff_toInt_lt]; omega
  by_cases c1 : nmOk n
  · rw [if_neg (by rw [decide_eq_true c1]; exact Bool.false_ne_true)]
    by_cases c2 : a < 1
    · rw [if_pos c2, decide_eq_false (fun q => q.2.1 c2)]; rfl
    · rw [if_neg c2]
      by_cases c3 : 255 < a
      · rw [if_pos c3, decide_eq_false (fun q => (e255.mp q.2.2.1) c3)]; rfl
      · rw [if_neg c3]
        have c3' := e255.mpr c3
        by_cases c4 : b = -1
        · rw [if_pos c4, decide_eq_true ⟨c1, c2, c3', Or.inl c4⟩]; rfl
        · rw [if_neg c4]
          have e1 : (b.toInt64 < 0) ↔ b < 0 := by rw [Int64.lt_iff_toInt_lt, Int32.toInt_toInt64, Int32.lt_iff_toInt_lt]; rfl
          have e2 : (8 ≤ b.toInt64) ↔ 7 < b := by
            rw [Int64.le_iff_toInt_le, Int32.toInt_toInt64, Int32.lt_iff_toInt_lt]
            show (8 : Int) ≤ b.toInt ↔ (7 : Int) < b.toInt
            omega
          have e3 : b.toInt64.toInt32 = b := by simp
          have hs : hasSy a b.toInt64 = true ↔ (¬ b < 0 ∧ ¬ 7 < b ∧ (a >>> (b &&& 31)) &&& 1 = 1) := by
            unfold hasSy
            rw [decide_eq_true_iff, e1, e2, e3]
          by_cases c5 : b < 0
          · rw [if_pos c5, decide_eq_false (fun q => by rcases q.2.2.2 with q | q; exact c4 q; exact (hs.mp q).1 c5)]; rfl
          · rw [if_neg c5]
            by_cases c6 : 7 < b
            · rw [if_pos c6, decide_eq_false (fun q => by rcases q.2.2.2 with q | q; exact c4 q; exact (hs.mp q).2.1 c6)]; rfl
            · rw [if_neg c6]
              rcases and1 (a >>> (b &&& 31)) with c7 | c7
              · rw [if_pos c7, decide_eq_false (fun q => by
                  rcases q.2.2.2 with q | q
                  · exact c4 q
                  · have := (hs.mp q).2.2
                    rw [c7] at this
                    exact absurd this (by decide))]
                rfl
              · rw [if_neg (by rw [c7]; decide), decide_eq_true ⟨c1, c2, c3', Or.inr (hs.mpr ⟨c5, c6, c7⟩)⟩]; rfl
  · rw [if_pos (by rw [decide_eq_false c1]; rfl), decide_eq_false (fun q => c1 q.1)]; rfl
theorem Mo_badUnion (h : MSB H v T P) (hT : TOk T) {a b : Int32} : jF_Mo_badUnion (some 24) a b H = some (bI (match scOf T a with
    | none => true
    | some i => match scOf T b with
      | none => true
      | some j => !decide (kd T i ≠ 6 ∧ kd T j ≠ 6 ∧ (kd T i ≠ kd T j ∨ ((kd T i = 4 ∨ kd T i = 7) ∧ nm T i ≠ nm T j))))) := by
  have hl := hT.1
  unfold jF_Mo_badUnion
  rw [qok h.m, Option.bind_some, Mo_noSchema h hl, Option.bind_some, if_bI, Mo_noSchema h hl, Option.bind_some, if_bI]
  cases hi : scOf T a with
  | none => rfl
  | some i =>
    obtain ⟨hil, rfl⟩ := scOf_some hi
    rw [if_neg (show ¬ (some i).isNone = true from Bool.false_ne_true)]
    cases hj : scOf T b with
    | none => rfl
    | some j =>
      obtain ⟨hjl, rfl⟩ := scOf_some hj
      rw [if_neg (show ¬ (some j).isNone = true from Bool.false_ne_true)]
      have t1 := (hT.2 i hil).1
      have t2 := (hT.2 j hjl).1
      unfold jJ_Mo_badUnion_61 jJ_Mo_badUnion_66 jJ_Mo_badUnion_101
      simp only [qgR (j := 1) h.m rfl, qgR (j := 2) h.m rfl, h.k hl hil, h.k hl hjl, h.nm hl hil, h.nm hl hjl, Option.bind_some]
      rw [li6, li4, li7, if_eqN (by omega) (by omega), if_eqN (by omega) (by omega), if_eqN (by omega) (by omega), if_eqN (by omega) (by omega), if_eqN (by omega) (by omega)]
      by_cases c1 : kd T i = 6
      · rw [if_pos c1, decide_eq_false (fun q => q.1 c1)]; rfl
      · rw [if_neg c1]
        by_cases c2 : kd T j = 6
        · rw [if_pos c2, decide_eq_false (fun q => q.2.1 c2)]; rfl
        · rw [if_neg c2]
          by_cases c3 : kd T i = kd T j
          · rw [if_pos c3]
            by_cases c4 : kd T i = 4 ∨ kd T i = 7
            · have hz : ∀ α : Type, ∀ x y z : α, (if kd T i = 4 then x else if kd T i = 7 then x else y) = x := by
                intro α x y z
                rcases c4 with q | q
                · rw [if_pos q]
                · rw [if_neg (by omega), if_pos q]
              rw [hz (Option Int32) _ _ none, if_neg (by decide)]
              by_cases c5 : nm T i = nm T j
              · rw [if_pos c5, decide_eq_false (fun q => by rcases q.2.2 with q | q; exact q c3; exact q.2 c5)]; rfl
              · rw [if_neg c5, decide_eq_true ⟨c1, c2, Or.inr ⟨c4, c5⟩⟩]; rfl
            · rw [if_neg (show ¬ kd T i = 4 by omega), if_neg (show ¬ kd T i = 7 by omega), decide_eq_false (fun q => by rcases q.2.2 with q | q; exact q c3; exact c4 q.1), if_pos (congrArg nI c3)]
              rfl
          · rw [if_neg c3, decide_eq_true ⟨c1, c2, Or.inl c3⟩]
            split
            · rfl
            · split
              · rfl
              · rw [if_neg (fun q => c3 ((nI_eq (by omega) (by omega)).mp q))]; rfl
theorem Mo_deepL (h : MSB H v T P) (hT : TOk T) (hP : POk T P) {n a b : Int32} : ∀ (m i g d : Nat), i + m = P.length → m < g → d ≤ 6 → jL_Mo_make_141 fu g (some 24) 7 n a b (nI d) (nI (72 + i)) H = jJ_Mo_make_201 fu (some 24) 7 n a b (nI (mxF T P m i d)) H := by
  have hl := hT.1
  have hP3 := hP.1
  have hv : zgI H (some 24) 1 13 = some (nI P.length) := by rw [← h.2.2.1]; exact qgI h.m rfl
  intro m
  induction m with
  | zero =>
    intro i g d h1 h2 hd
    obtain ⟨q, rfl⟩ : ∃ q, g = q + 1 := ⟨g - 1, by omega⟩
    rw [jL_Mo_make_141, if_pos rfl, hv, Option.bind_some, li72, nI_add, if_pos (nI_le (by omega) (by omega))]; rfl
  | succ m ih =>
    intro i g d h1 h2 hd
    obtain ⟨q, rfl⟩ : ∃ q, g = q + 1 := ⟨g - 1, by omega⟩
    obtain ⟨f, a1, a2, a3⟩ := h.2.2.2.2.2.2.2.2.2.2.1
    have hs := hP.2 i (by omega)
    have hdd := (hT.2 _ hs).2.2.1
    rw [jL_Mo_make_141, if_pos rfl, hv, Option.bind_some, li72, nI_add, if_neg (nI_ge (by omega) (by omega))]
    simp only [qgR (j := 5) h.m rfl, qgR (j := 8) h.m rfl, Option.bind_some]
    rw [qaI a1 (by omega) (by omega), a3 i (by omega)]
    simp only [Option.bind_some, h.d hl hs, nI_1]
    rw [if_leN (by omega) (by omega), mxF]
    by_cases hc : d < dp T (P.getD i yF0).2.1
    · rw [if_neg (by omega), if_pos hc]; exact ih (i + 1) q _ (by omega) (by omega) (by omega)
    · rw [if_pos (by omega), if_neg hc]; exact ih (i + 1) q _ (by omega) (by omega) (by omega)
end MM
