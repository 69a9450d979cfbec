/-! The reference's make, up to the new schema. -/
section MM2
variable {H : zH} {v : Nat → Int32} {T : yT} {P : List yF} {fu : Nat}
theorem Mo_make79 (h : MSB H v T P) (hT : TOk T) (hP : POk T P) {k n a b : Int32} {x : yS} (hx : mkB T P k n a b = some x) (hfu : 5 ≤ fu) : jJ_Mo_make_79 fu (some 24) k n a b H = jJ_Mo_make_201 fu (some 24) k n a b (nI (x.2.2.2.2.1 - 1)) H := by
  have hl := hT.1
  have hP3 := hP.1
  have hno : k ≠ 7 → ∀ d : Int32, jL_Mo_make_141 fu fu (some 24) k n a b d 72 H = jJ_Mo_make_201 fu (some 24) k n a b d H := by
    intro q d
    obtain ⟨g, hg⟩ : ∃ g, fu = g + 1 := ⟨fu - 1, by omega⟩
    have : jL_Mo_make_141 fu (g + 1) (some 24) k n a b d 72 H = jJ_Mo_make_201 fu (some 24) k n a b d H := by rw [jL_Mo_make_141, if_neg q]
    rw [← hg] at this
    exact this
  unfold mkB at hx
  unfold jJ_Mo_make_79
  split at hx
  · next c0 =>
    cases hx
    have h5 : ¬ k = 5 := by rintro rfl; rcases c0 with q | q | q | q <;> exact absurd q (by decide)
    have h6 : ¬ k = 6 := by rintro rfl; rcases c0 with q | q | q | q <;> exact absurd q (by decide)
    have h7 : ¬ k = 7 := by rintro rfl; rcases c0 with q | q | q | q <;> exact absurd q (by decide)
    rw [if_neg h5, if_neg h6, hno h7]; rfl
  · split at hx
    · next c4 =>
      subst c4
      split at hx
      · cases hx
        rw [if_neg (by decide), if_neg (by decide), hno (by decide)]; rfl
      · cases hx
    · split at hx
      · next c5 =>
        subst c5
        split at hx
        · cases hx
        · next i hi =>
          cases hx
          obtain ⟨hil, rfl⟩ := scOf_some hi
          rw [if_pos rfl, qgR h.m rfl, Option.bind_some, h.d hl hil, Option.bind_some, hno (by decide)]; rfl
      · split at hx
        · next c6 =>
          subst c6
          split at hx
          · cases hx
          · next i hi =>
            split at hx
            · cases hx
            · next j hj =>
              split at hx
              · next hc =>
                cases hx
                obtain ⟨hil, rfl⟩ := scOf_some hi
                obtain ⟨hjl, rfl⟩ := scOf_some hj
                have hd := (hT.2 i hil).2.2.1
                have hd2 := (hT.2 j hjl).2.2.1
                rw [if_neg (by decide), if_pos rfl]
                simp only [qgR (j := 5) h.m rfl, h.d hl hil, h.d hl hjl, Option.bind_some]
                rw [if_leN (by omega) (by omega), hno (by decide), hno (by decide)]
                show _ = jJ_Mo_make_201 fu (some 24) 6 n (nI i) (nI j) (nI (mx2 (dp T i) (dp T j) + 1 - 1)) H
                rw [Nat.add_sub_cancel]
                unfold mx2
                by_cases q : dp T i ≤ dp T j
                · rw [if_pos q]
                  by_cases q2 : dp T i < dp T j
                  · rw [if_pos q2]
                  · rw [if_neg q2, show dp T j = dp T i by omega]
                · rw [if_neg q, if_neg (by omega)]
              · cases hx
        · split at hx
          · next c7 =>
            subst c7
            split at hx
            · cases hx
              rw [if_neg (by decide), if_neg (by decide)]
              have := Mo_deepL (fu := fu) (n := n) (a := a) (b := b) h hT hP P.length 0 fu 0 (by omega) (by omega) (by omega)
              rw [nI_0, Nat.add_zero] at this
              exact this
            · cases hx
          · cases hx
theorem Mo_make0 (h : MSB H v T P) (hT : TOk T) (hP : POk T P) {k n a b : Int32} (hfu : 5 ≤ fu) : jF_Mo_make fu (some 24) k n a b H = if T.length = 24 then some (-1, H) else match mkB T P k n a b with
    | none => some (-1, H)
    | some x => jJ_Mo_make_201 fu (some 24) k n a b (nI (x.2.2.2.2.1 - 1)) H := by
  have hl := hT.1
  have hv : zgI H (some 24) 1 0 = some (nI T.length) := by rw [← h.2.1]; exact qgI h.m rfl
  unfold jF_Mo_make
  rw [qok h.m, Option.bind_some, hv, Option.bind_some, show (24 : Int32) = nI 24 from rfl, if_eqN (by omega) (by omega)]
  by_cases c24 : T.length = 24
  · rw [if_pos c24, if_pos c24]
  · rw [if_neg c24, if_neg c24]
    by_cases cn : k < 0
    · have hm : mkB T P k n a b = none := by
        unfold mkB
        rw [if_neg (by rintro (q | q | q | q) <;> rw [q] at cn <;> exact absurd cn (by decide)), if_neg (by rintro rfl; exact absurd cn (by decide)), if_neg (by rintro rfl; exact absurd cn (by decide)), if_neg (by rintro rfl; exact absurd cn (by decide)), if_neg (by rintro rfl; exact absurd cn (by decide))]
      rw [if_pos cn, hm]
    · rw [if_neg cn]
      by_cases cb : 7 < k
      · have hm : mkB T P k n a b = none := by
          unfold mkB
          rw [if_neg (by rintro (q | q | q | q) <;> rw [q] at cb <;> exact absurd cb (by decide)), if_neg (by rintro rfl; exact absurd cb (by decide)), if_neg (by rintro rfl; exact absurd cb (by decide)), if_neg (by rintro rfl; exact absurd cb (by decide)), if_neg (by rintro rfl; exact absurd cb (by decide))]
        rw [if_pos cb, hm]
      · rw [if_neg cb]
        obtain ⟨m, hm, rfl⟩ := nI_of cn
        have hm7 : m ≤ 7 := by
          have : ¬ nI 7 < nI m := cb
          rw [nI_ltI (by omega) hm] at this
          omega
        have k79 : ∀ x, mkB T P (nI m) n a b = some x → jJ_Mo_make_79 fu (some 24) (nI m) n a b H = jJ_Mo_make_201 fu (some 24) (nI m) n a b (nI (x.2.2.2.2.1 - 1)) H := fun x hx => Mo_make79 h hT hP hx hfu
        -- a kind with nothing to refuse, or with one check
        by_cases c4 : m = 4
        · subst c4
          rw [if_pos (show nI 4 = (4 : Int32) from rfl), Mo_badEnum h, Option.bind_some, if_bI]
          have e : mkB T P (nI 4) n a b = if nmOk n ∧ ¬ a < 1 ∧ a ≤ 255 ∧ (b = -1 ∨ hasSy a b.toInt64 = true) then some (4, n, a, b, 1, []) else none := by
            unfold mkB; rw [if_neg (by decide), if_pos (show nI 4 = (4 : Int32) from rfl)]
          by_cases hc : nmOk n ∧ ¬ a < 1 ∧ a ≤ 255 ∧ (b = -1 ∨ hasSy a b.toInt64 = true)
          · rw [if_neg (by rw [decide_eq_true hc]; exact Bool.false_ne_true)]
            rw [if_pos hc] at e
            rw [e]
            unfold jJ_Mo_make_35 jJ_Mo_make_48 jJ_Mo_make_64
            rw [if_neg (by decide), if_neg (by decide), if_neg (by decide)]
            exact k79 _ e
          · rw [if_pos (by rw [decide_eq_false hc]; rfl)]
            rw [if_neg hc] at e
            rw [e]
        · rw [if_neg (show ¬ nI m = (4 : Int32) from fun q => c4 ((nI_eq (b := 4) (by omega) (by omega)).mp q))]
          unfold jJ_Mo_make_35
          by_cases c5 : m = 5
          · subst c5
            rw [if_pos (show nI 5 = (5 : Int32) from rfl), Mo_noSchema h hl, Option.bind_some, if_bI]
            have e : mkB T P (nI 5) n a b = match scOf T a with
              | none => none
              | some i => some (5, n, a, b, dp T i + 1, []) := by
              unfold mkB; rw [if_neg (by decide), if_neg (by decide), if_pos (show nI 5 = (5 : Int32) from rfl)]
              cases scOf T a <;> rfl
            cases hs : scOf T a with
            | none =>
              rw [if_pos (show (none : Option Nat).isNone = true from rfl)]
              rw [hs] at e
              rw [e]
            | some i =>
              rw [if_neg (show ¬ (some i).isNone = true from Bool.false_ne_true)]
              rw [hs] at e
              rw [e]
              unfold jJ_Mo_make_48 jJ_Mo_make_64
              rw [if_neg (by decide), if_neg (by decide)]
              exact k79 _ e
          · rw [if_neg (show ¬ nI m = (5 : Int32) from fun q => c5 ((nI_eq (b := 5) (by omega) (by omega)).mp q))]
            unfold jJ_Mo_make_48
            by_cases c6 : m = 6
            · subst c6
              rw [if_pos (show nI 6 = (6 : Int32) from rfl), Mo_badUnion h hT, Option.bind_some, if_bI]
              have e : mkB T P (nI 6) n a b = match scOf T a with
                | none => none
                | some i => match scOf T b with
                  | none => none
                  | some j => if kd T i ≠ 6 ∧ kd T j ≠ 6 ∧ (kd T i ≠ kd T j ∨ ((kd T i = 4 ∨ kd T i = 7) ∧ nm T i ≠ nm T j)) then some (6, n, a, b, mx2 (dp T i) (dp T j) + 1, []) else none := by
                unfold mkB; rw [if_neg (by decide), if_neg (by decide), if_neg (by decide), if_pos (show nI 6 = (6 : Int32) from rfl)]
                cases scOf T a with
                | none => rfl
                | some i => cases scOf T b <;> rfl
              cases hs : scOf T a with
              | none =>
                rw [if_pos rfl]
                rw [hs] at e
                rw [e]
              | some i =>
                rw [hs] at e
                cases hs2 : scOf T b with
                | none =>
                  rw [if_pos rfl]
                  rw [hs2] at e
                  rw [e]
                | some j =>
                  rw [hs2] at e
                  dsimp only at e ⊢
                  by_cases hc : kd T i ≠ 6 ∧ kd T j ≠ 6 ∧ (kd T i ≠ kd T j ∨ ((kd T i = 4 ∨ kd T i = 7) ∧ nm T i ≠ nm T j))
                  · rw [if_neg (by rw [decide_eq_true hc]; exact Bool.false_ne_true)]
                    rw [if_pos hc] at e
                    rw [e]
                    unfold jJ_Mo_make_64
                    rw [if_neg (by decide)]
                    exact k79 _ e
                  · rw [if_pos (by rw [decide_eq_false hc]; rfl)]
                    rw [if_neg hc] at e
                    rw [e]
            · rw [if_neg (show ¬ nI m = (6 : Int32) from fun q => c6 ((nI_eq (b := 6) (by omega) (by omega)).mp q))]
              unfold jJ_Mo_make_64
              by_cases c7 : m = 7
              · subst c7
                rw [if_pos (show nI 7 = (7 : Int32) from rfl), Mo_noName, Option.bind_some, if_bI]
                have e : mkB T P (nI 7) n a b = if nmOk n then some (7, n, a, b, mxF T P P.length 0 0 + 1, P) else none := by
                  unfold mkB; rw [if_neg (by decide), if_neg (by decide), if_neg (by decide), if_neg (by decide), if_pos (show nI 7 = (7 : Int32) from rfl)]
                by_cases hc : nmOk n
                · rw [if_neg (by rw [decide_eq_true hc]; exact Bool.false_ne_true)]
                  rw [if_pos hc] at e
                  rw [e]
                  exact k79 _ e
                · rw [if_pos (by rw [decide_eq_false hc]; rfl)]
                  rw [if_neg hc] at e
                  rw [e]
              · rw [if_neg (show ¬ nI m = (7 : Int32) from fun q => c7 ((nI_eq (b := 7) (by omega) (by omega)).mp q))]
                have e : mkB T P (nI m) n a b = some ((nI m).toNatClampNeg, n, a, b, 1, []) := by
                  unfold mkB
                  rw [if_pos]
                  have : m = 0 ∨ m = 1 ∨ m = 2 ∨ m = 3 := by omega
                  rcases this with rfl | rfl | rfl | rfl
                  · exact Or.inl rfl
                  · exact Or.inr (Or.inl rfl)
                  · exact Or.inr (Or.inr (Or.inl rfl))
                  · exact Or.inr (Or.inr (Or.inr rfl))
                rw [e]
                exact k79 _ e
end MM2
