/-! matchS and readsS: more fuel, and a schema more, change nothing. -/
section Fuel
variable {T : yT}
theorem matchS_up (hT : TOk T) : ∀ (f w r : Nat), w < T.length → r < T.length → dp T w ≤ f → matchS T f w r = matchS T (f + 1) w r := by
  intro f
  induction f with
  | zero => intro w r hw hr hd; have := (hT.2 w hw).2.1; omega
  | succ f ih =>
    intro w r hw hr hd
    obtain ⟨t1, t2, t3, t4, t5, t6, t7, t8⟩ := hT.2 w hw
    obtain ⟨u1, u2, u3, u4, u5, u6, u7, u8⟩ := hT.2 r hr
    rw [matchS, matchS]
    by_cases h6 : kd T w = 6 ∨ kd T r = 6
    · rw [if_pos h6, if_pos h6]
    · rw [if_neg h6, if_neg h6]
      cases hfit : fitK (kd T w) (kd T r) with
      | false => rw [if_neg Bool.false_ne_true, if_neg Bool.false_ne_true]
      | true =>
        have hf2 : kd T w = kd T r ∨ kd T w = 2 ∧ kd T r = 3 := by unfold fitK at hfit; exact of_decide_eq_true hfit
        rw [if_pos rfl, if_pos rfl]
        by_cases h4 : kd T r = 4 ∨ kd T r = 7
        · rw [if_pos h4, if_pos h4]
        · rw [if_neg h4, if_neg h4]
          by_cases h5 : kd T r = 5
          · have hw5 : kd T w = 5 := by omega
            have t6' := t6 hw5
            have u6' := u6 h5
            rw [if_pos h5, if_pos h5]
            exact ih _ _ (by omega) (by omega) (by omega)
          · rw [if_neg h5, if_neg h5]
theorem matchS_7 (hT : TOk T) {f w r : Nat} (hw : w < T.length) (hr : r < T.length) (hd : dp T w ≤ f) (hf : f ≤ 7) : matchS T f w r = matchS T 7 w r := by
  obtain ⟨k, hk⟩ : ∃ k, f + k = 7 := ⟨7 - f, by omega⟩
  induction k generalizing f with
  | zero => rw [show f = 7 by omega]
  | succ k ih => rw [matchS_up hT f w r hw hr hd]; exact ih (by omega) (by omega) (by omega)
theorem rdF_congr {rd rd' : Nat → Nat → Bool} {lr lw : List yF} : ∀ (k i : Nat), (∀ a b, a < lr.length → b < lw.length → rd (lr.getD a yF0).2.1 (lw.getD b yF0).2.1 = rd' (lr.getD a yF0).2.1 (lw.getD b yF0).2.1) → i + k ≤ lr.length → rdF rd lr lw k i = rdF rd' lr lw k i := by
  intro k
  induction k with
  | zero => intro i _ _; rfl
  | succ k ih =>
    intro i h hk
    rw [rdF, rdF, ih (i + 1) h (by omega)]
    congr 1
    cases hj : fOf lw (lr.getD i yF0).1 lw.length 0 with
    | none => rfl
    | some j =>
      have := fOf_lt _ _ _ hj
      exact h i j (by omega) (by omega)
theorem readsS_up (hT : TOk T) : ∀ (f r w : Nat), r < T.length → w < T.length → dp T r + dp T w ≤ f → readsS T f r w = readsS T (f + 1) r w := by
  intro f
  induction f with
  | zero => intro r w hr hw hd; have := (hT.2 w hw).2.1; omega
  | succ f ih =>
    intro r w hr hw hd
    obtain ⟨t1, t2, t3, t4, t5, t6, t7, t8⟩ := hT.2 w hw
    obtain ⟨u1, u2, u3, u4, u5, u6, u7, u8⟩ := hT.2 r hr
    rw [readsS, readsS]
    by_cases h6 : kd T w = 6
    · have t7' := t7 h6
      rw [if_pos h6, if_pos h6, ih r (sA T w) hr (by omega) (by omega), ih r (sB T w) hr (by omega) (by omega)]
    · rw [if_neg h6, if_neg h6]
      by_cases h6' : kd T r = 6
      · have u7' := u7 h6'
        rw [if_pos h6', if_pos h6']
        cases hb : brS T 7 r w with
        | none => rfl
        | some b =>
          have hlt : brT T r b < T.length ∧ dp T (brT T r b) < dp T r := by
            unfold brT
            split
            · exact ⟨by omega, by omega⟩
            · exact ⟨by omega, by omega⟩
          exact ih _ _ hlt.1 hw (by omega)
      · rw [if_neg h6', if_neg h6']
        cases hfit : fitK (kd T w) (kd T r) with
        | false => rw [if_neg Bool.false_ne_true, if_neg Bool.false_ne_true]
        | true =>
          have hf2 : kd T w = kd T r ∨ kd T w = 2 ∧ kd T r = 3 := by unfold fitK at hfit; exact of_decide_eq_true hfit
          rw [if_pos rfl, if_pos rfl]
          by_cases h4 : kd T r = 4
          · rw [if_pos h4, if_pos h4]
          · rw [if_neg h4, if_neg h4]
            by_cases h5 : kd T r = 5
            · have hw5 : kd T w = 5 := by omega
              have t6' := t6 hw5
              have u6' := u6 h5
              rw [if_pos h5, if_pos h5]
              exact ih _ _ (by omega) (by omega) (by omega)
            · rw [if_neg h5, if_neg h5]
              by_cases h7 : kd T r = 7
              · rw [if_pos h7, if_pos h7]
                congr 1
                refine rdF_congr _ 0 (fun a b ha hb => ?_) (by omega)
                have v1 := u8 a ha
                have v2 := t8 b hb
                exact ih _ _ (by omega) (by omega) (by omega)
              · rw [if_neg h7, if_neg h7]
theorem readsS_14 (hT : TOk T) {f r w : Nat} (hr : r < T.length) (hw : w < T.length) (hd : dp T r + dp T w ≤ f) (hf : f ≤ 14) : readsS T f r w = readsS T 14 r w := by
  obtain ⟨k, hk⟩ : ∃ k, f + k = 14 := ⟨14 - f, by omega⟩
  induction k generalizing f with
  | zero => rw [show f = 14 by omega]
  | succ k ih => rw [readsS_up hT f r w hr hw hd]; exact ih (by omega) (by omega) (by omega)
-- a schema more
theorem yG_app {x : yS} {s : Nat} (hs : s < T.length) : yG (T ++ [x]) s = yG T s := by
  unfold yG
  rw [getD_snoc _ _ _ _ (by omega), if_neg (by omega)]
theorem kd_app {x : yS} {s : Nat} (hs : s < T.length) : kd (T ++ [x]) s = kd T s := by unfold kd; rw [yG_app hs]
theorem nm_app {x : yS} {s : Nat} (hs : s < T.length) : nm (T ++ [x]) s = nm T s := by unfold nm; rw [yG_app hs]
theorem pA_app {x : yS} {s : Nat} (hs : s < T.length) : pA (T ++ [x]) s = pA T s := by unfold pA; rw [yG_app hs]
theorem pB_app {x : yS} {s : Nat} (hs : s < T.length) : pB (T ++ [x]) s = pB T s := by unfold pB; rw [yG_app hs]
theorem sA_app {x : yS} {s : Nat} (hs : s < T.length) : sA (T ++ [x]) s = sA T s := by unfold sA; rw [pA_app hs]
theorem sB_app {x : yS} {s : Nat} (hs : s < T.length) : sB (T ++ [x]) s = sB T s := by unfold sB; rw [pB_app hs]
theorem dp_app {x : yS} {s : Nat} (hs : s < T.length) : dp (T ++ [x]) s = dp T s := by unfold dp; rw [yG_app hs]
theorem fl_app {x : yS} {s : Nat} (hs : s < T.length) : fl (T ++ [x]) s = fl T s := by unfold fl; rw [yG_app hs]
theorem yG_new {x : yS} : yG (T ++ [x]) T.length = x := by
  unfold yG
  rw [getD_snoc _ _ _ _ (by omega), if_pos rfl]
theorem matchS_app (hT : TOk T) {x : yS} : ∀ (f w r : Nat), w < T.length → r < T.length → matchS (T ++ [x]) f w r = matchS T f w r := by
  intro f
  induction f with
  | zero => intro w r _ _; rfl
  | succ f ih =>
    intro w r hw hr
    obtain ⟨t1, t2, t3, t4, t5, t6, t7, t8⟩ := hT.2 w hw
    obtain ⟨u1, u2, u3, u4, u5, u6, u7, u8⟩ := hT.2 r hr
    have e1 : kd (T ++ [x]) w = kd T w := kd_app hw
    have e2 : kd (T ++ [x]) r = kd T r := kd_app hr
    have e3 : sA (T ++ [x]) w = sA T w := sA_app hw
    have e5 : sA (T ++ [x]) r = sA T r := sA_app hr
    have e7 : nm (T ++ [x]) w = nm T w := nm_app hw
    have e8 : nm (T ++ [x]) r = nm T r := nm_app hr
    rw [matchS, matchS, e1, e2, e3, e5, e7, e8]
    by_cases h6 : kd T w = 6 ∨ kd T r = 6
    · rw [if_pos h6, if_pos h6]
    · rw [if_neg h6, if_neg h6]
      cases hfit : fitK (kd T w) (kd T r) with
      | false => rw [if_neg Bool.false_ne_true, if_neg Bool.false_ne_true]
      | true =>
        have hf2 : kd T w = kd T r ∨ kd T w = 2 ∧ kd T r = 3 := by unfold fitK at hfit; exact of_decide_eq_true hfit
        rw [if_pos rfl, if_pos rfl]
        by_cases h4 : kd T r = 4 ∨ kd T r = 7
        · rw [if_pos h4, if_pos h4]
        · rw [if_neg h4, if_neg h4]
          by_cases h5 : kd T r = 5
          · have hw5 : kd T w = 5 := by omega
            have t6' := t6 hw5
            have u6' := u6 h5
            rw [if_pos h5, if_pos h5]
            exact ih (sA T w) (sA T r) (by omega) (by omega)
          · rw [if_neg h5, if_neg h5]
theorem readsS_app (hT : TOk T) {x : yS} : ∀ (f r w : Nat), r < T.length → w < T.length → readsS (T ++ [x]) f r w = readsS T f r w := by
  intro f
  induction f with
  | zero => intro r w _ _; rfl
  | succ f ih =>
    intro r w hr hw
    obtain ⟨t1, t2, t3, t4, t5, t6, t7, t8⟩ := hT.2 w hw
    obtain ⟨u1, u2, u3, u4, u5, u6, u7, u8⟩ := hT.2 r hr
    have e1 : kd (T ++ [x]) w = kd T w := by unfold kd; rw [yG_app hw]
    have e2 : kd (T ++ [x]) r = kd T r := by unfold kd; rw [yG_app hr]
    have e3 : sA (T ++ [x]) w = sA T w := by unfold sA pA; rw [yG_app hw]
    have e4 : sB (T ++ [x]) w = sB T w := by unfold sB pB; rw [yG_app hw]
    have e5 : sA (T ++ [x]) r = sA T r := by unfold sA pA; rw [yG_app hr]
    have e6 : sB (T ++ [x]) r = sB T r := by unfold sB pB; rw [yG_app hr]
    have e7 : nm (T ++ [x]) w = nm T w := by unfold nm; rw [yG_app hw]
    have e8 : nm (T ++ [x]) r = nm T r := by unfold nm; rw [yG_app hr]
    have e9 : pA (T ++ [x]) w = pA T w := by unfold pA; rw [yG_app hw]
    have e10 : pA (T ++ [x]) r = pA T r := by unfold pA; rw [yG_app hr]
    have e11 : pB (T ++ [x]) r = pB T r := by unfold pB; rw [yG_app hr]
    have e12 : fl (T ++ [x]) w = fl T w := by unfold fl; rw [yG_app hw]
    have e13 : fl (T ++ [x]) r = fl T r := by unfold fl; rw [yG_app hr]
    rw [readsS, readsS, e1, e2, e3, e4, e7, e8, e9, e10, e11, e12, e13, e5]
    by_cases h6 : kd T w = 6
    · have t7' := t7 h6
      rw [if_pos h6, if_pos h6, ih r (sA T w) hr (by omega), ih r (sB T w) hr (by omega)]
    · rw [if_neg h6, if_neg h6]
      by_cases h6' : kd T r = 6
      · have u7' := u7 h6'
        have hb : brS (T ++ [x]) 7 r w = brS T 7 r w := by
          unfold brS
          rw [e5, e6, matchS_app hT 7 w _ hw (by omega), matchS_app hT 7 w _ hw (by omega)]
        rw [if_pos h6', if_pos h6', hb]
        cases hb2 : brS T 7 r w with
        | none => rfl
        | some b =>
          have hlt : brT T r b < T.length := by
            unfold brT
            split <;> omega
          have hbt : brT (T ++ [x]) r b = brT T r b := by unfold brT; rw [e5, e6]
          show readsS (T ++ [x]) f (brT (T ++ [x]) r b) w = readsS T f (brT T r b) w
          rw [hbt]
          exact ih _ _ hlt hw
      · rw [if_neg h6', if_neg h6']
        cases hfit : fitK (kd T w) (kd T r) with
        | false => rw [if_neg Bool.false_ne_true, if_neg Bool.false_ne_true]
        | true =>
          have hf2 : kd T w = kd T r ∨ kd T w = 2 ∧ kd T r = 3 := by unfold fitK at hfit; exact of_decide_eq_true hfit
          rw [if_pos rfl, if_pos rfl]
          by_cases h4 : kd T r = 4
          · rw [if_pos h4, if_pos h4]
          · rw [if_neg h4, if_neg h4]
            by_cases h5 : kd T r = 5
            · have hw5 : kd T w = 5 := by omega
              have t6' := t6 hw5
              have u6' := u6 h5
              rw [if_pos h5, if_pos h5]
              exact ih _ _ (by omega) (by omega)
            · rw [if_neg h5, if_neg h5]
              by_cases h7 : kd T r = 7
              · rw [if_pos h7, if_pos h7]
                congr 1
                refine rdF_congr _ 0 (fun a b ha hb => ?_) (by omega)
                have v1 := u8 a ha
                have v2 := t8 b hb
                exact ih _ _ (by omega) (by omega)
              · rw [if_neg h7, if_neg h7]
end Fuel
