/-! The reference's compare: one pair of its tables. -/
def alk (T : yT) (r w : Nat) : Bool := decide ((kd T r = kd T w ∧ ((kd T r = 4 ∨ kd T r = 7) → nm T r = nm T w)) ∨ (kd T r = 3 ∧ kd T w = 2))
def insS (T : yT) (r w : Nat) : Bool := if kd T r = 4 then decide (pB T r ≠ -1 ∨ (pA T w &&& (pA T r ^^^ (-1 : Int32))) = 0) else if kd T r = 5 then readsS T 14 (sA T r) (sA T w) else rdF (readsS T 14) (fl T r) (fl T w) (fl T r).length 0
section Cmp
variable {H : zH} {v : Nat → Int32} {T : yT} {P : List yF} {r w fu : Nat} {V : Nat → Nat → Prop}
theorem Mo_insideL (h : MSB H v T P) (hb : MTb H T V) (hT : TOk T) (hr : r < T.length) (hw : w < T.length) (hfu : 5 ≤ fu) (hV : ∀ a b, a < r → b < w → V a b) :
    ∀ (k i g : Nat) (good : Bool), i + k = (fl T r).length → k < g → jL_Mo_inside_83 fu H g (some 24) (nI r) (nI w) (bI good) (nI (3 * r + i)) = some (bI (good && rdF (readsS T 14) (fl T r) (fl T w) k i)) := by
  have hl := hT.1
  obtain ⟨u1, u2, u3, u4, u5, u6, u7, u8⟩ := hT.2 r hr
  obtain ⟨t1, t2, t3, t4, t5, t6, t7, t8⟩ := hT.2 w hw
  intro k
  induction k with
  | zero =>
    intro i g good h1 h2
    obtain ⟨g', rfl⟩ : ∃ q, g = q + 1 := ⟨g - 1, by omega⟩
    rw [jL_Mo_inside_83]
    simp only [qgR (j := 6) h.m rfl, h.n hl hr, Option.bind_some, li3, pk_mul, nI_add]
    rw [if_pos (nI_le (by omega) (by omega)), zbo_bI, Option.bind_some, rdF, Bool.and_true]
  | succ k ih =>
    intro i g good h1 h2
    obtain ⟨g', rfl⟩ : ∃ q, g = q + 1 := ⟨g - 1, by omega⟩
    have hi : i < (fl T r).length := by omega
    have v1 := u8 i hi
    rw [jL_Mo_inside_83]
    simp only [qgR (j := 6) h.m rfl, qgR (j := 7) h.m rfl, h.n hl hr, h.fn hl hr hi u4, Option.bind_some, li3, pk_mul, nI_add, nI_1]
    rw [if_neg (nI_ge (by omega) (by omega)), Mo_fieldOf h hT hw hfu, Option.bind_some, if_bI, rdF]
    have hk : ∀ b : Bool, jL_Mo_inside_83 fu H g' (some 24) (nI r) (nI w) (bI b) (nI (3 * r + i + 1)) = some (bI (b && rdF (readsS T 14) (fl T r) (fl T w) k (i + 1))) := fun b => ih (i + 1) g' b (by omega) (by omega)
    cases good with
    | false => rw [if_neg Bool.false_ne_true, Bool.false_and]; exact hk false
    | true =>
      rw [if_pos rfl, Bool.true_and]
      cases hj : fOf (fl T w) ((fl T r).getD i yF0).1 (fl T w).length 0 with
      | none =>
        rw [if_neg (show ¬ (0 : Int32) ≤ limI ((none : Option Nat).map fun j => 3 * w + j) from (by decide : ¬ (0 : Int32) ≤ -1)), qgR h.m rfl, Option.bind_some, h.fh hl hr hi u4, Option.bind_some, if_bI]
        cases ((fl T r).getD i yF0).2.2.1 with
        | false => rw [if_neg Bool.false_ne_true]; exact hk false
        | true => rw [if_pos rfl, jJ_Mo_inside_160, nI_1]; exact hk true
      | some j =>
        have hjl := fOf_lt _ _ _ hj
        have v2 := t8 j (by omega)
        rw [if_pos (show (0 : Int32) ≤ limI ((some j).map fun j => 3 * w + j) from nI_pos' (n := 3 * w + j) (by omega))]
        simp only [qgR (j := 12) h.m rfl, qgR (j := 8) h.m rfl, h.fs hl hr hi u4, Option.bind_some, li24, pk_mul, nI_add, Option.map_some, limI]
        rw [h.fs hl hw (show j < (fl T w).length by omega) t4, Option.bind_some, nI_add, hb.rd (by omega) (by omega) (hV _ _ v1.1 v2.1), Option.bind_some, if_bI]
        cases readsS T 14 ((fl T r).getD i yF0).2.1 ((fl T w).getD j yF0).2.1 with
        | false => rw [if_neg Bool.false_ne_true]; exact hk false
        | true => rw [if_pos rfl, jJ_Mo_inside_160, nI_1]; exact hk true
theorem Mo_inside (h : MSB H v T P) (hb : MTb H T V) (hT : TOk T) (hp : TPos T) (hr : r < T.length) (hw : w < T.length) (hfu : 5 ≤ fu) (hV : ∀ a b, a < r → b < w → V a b) (hk : kd T r = 5 → kd T w = 5) : jF_Mo_inside fu (some 24) (nI r) (nI w) H = some (bI (insS T r w)) := by
  have hl := hT.1
  obtain ⟨u1, u2, u3, u4, u5, u6, u7, u8⟩ := hT.2 r hr
  obtain ⟨t1, t2, t3, t4, t5, t6, t7, t8⟩ := hT.2 w hw
  unfold jF_Mo_inside jJ_Mo_inside_38 insS
  simp only [qok h.m, qgR (j := 1) h.m rfl, qgR (j := 4) h.m rfl, qgR (j := 3) h.m rfl, qgR (j := 12) h.m rfl, h.k hl hr, h.b hl hr, h.a hl hr, h.a hl hw, Option.bind_some]
  rw [li4, li5, if_eqN (by omega) (by omega), if_eqN (by omega) (by omega)]
  by_cases h4 : kd T r = 4
  · rw [if_pos h4, if_pos h4]
    by_cases c2 : pB T r = -1
    · rw [if_pos c2, bI_if]
      simp only [c2, ne_eq, not_true_eq_false, false_or]
    · rw [if_neg c2, decide_eq_true (Or.inl c2)]; rfl
  · rw [if_neg h4, if_neg h4]
    by_cases h5 : kd T r = 5
    · have hw5 := hk h5
      have u6' := u6 h5
      have t6' := t6 hw5
      rw [if_pos h5, if_pos h5, pA_nI ((hp r hr).1 h5), pA_nI ((hp w hw).1 hw5), li24, pk_mul, nI_add, hb.rd (by omega) (by omega) (hV _ _ u6'.1 t6'.1), Option.bind_some, zbo_bI, Option.bind_some]
    · rw [if_neg h5, if_neg h5]
      have hq := Mo_insideL (fu := fu) h hb hT hr hw hfu hV (fl T r).length 0 fu true (by omega) (by omega)
      rw [Bool.true_and] at hq
      rw [li3, pk_mul]
      exact hq
theorem readsS_eq (hT : TOk T) (hr : r < T.length) (hw : w < T.length) : readsS T 14 r w = (if kd T w = 6 then readsS T 14 r (sA T w) && readsS T 14 r (sB T w) else if kd T r = 6 then (match brS T 7 r w with
      | none => false
      | some b => readsS T 14 (brT T r b) w) else alk T r w && insS T r w) := by
  obtain ⟨u1, u2, u3, u4, u5, u6, u7, u8⟩ := hT.2 r hr
  obtain ⟨t1, t2, t3, t4, t5, t6, t7, t8⟩ := hT.2 w hw
  rw [show readsS T 14 r w = readsS T (13 + 1) r w from rfl, readsS]
  by_cases h6 : kd T w = 6
  · have t7' := t7 h6
    rw [if_pos h6, if_pos h6, readsS_14 hT hr (show sA T w < T.length by omega) (by omega) (by omega), readsS_14 hT hr (show sB T w < T.length by omega) (by omega) (by omega)]
  · rw [if_neg h6, if_neg h6]
    by_cases h6' : kd T r = 6
    · have u7' := u7 h6'
      rw [if_pos h6', if_pos h6']
      cases hb : brS T 7 r w with
      | none => rfl
      | some b =>
        have hlt : brT T r b < T.length ∧ dp T (brT T r b) < dp T r := by
          unfold brT
          split
          · exact ⟨by omega, by omega⟩
          · exact ⟨by omega, by omega⟩
        exact readsS_14 hT hlt.1 hw (by omega) (by omega)
    · rw [if_neg h6', if_neg h6']
      cases hfit : fitK (kd T w) (kd T r) with
      | false =>
        have hf2 : ¬ (kd T w = kd T r ∨ kd T w = 2 ∧ kd T r = 3) := by unfold fitK at hfit; exact of_decide_eq_false hfit
        have ha : alk T r w = false := decide_eq_false (by
          rintro (⟨q, -⟩ | ⟨q1, q2⟩)
          · exact hf2 (Or.inl q.symm)
          · exact hf2 (Or.inr ⟨q2, q1⟩))
        rw [if_neg Bool.false_ne_true, ha, Bool.false_and]
      | true =>
        have hf2 : kd T w = kd T r ∨ kd T w = 2 ∧ kd T r = 3 := by unfold fitK at hfit; exact of_decide_eq_true hfit
        rw [if_pos rfl]
        unfold insS
        by_cases h4 : kd T r = 4
        · rw [if_pos h4, if_pos h4]
          by_cases c1 : nm T r = nm T w
          · have ha : alk T r w = true := decide_eq_true (Or.inl ⟨by omega, fun _ => c1⟩)
            rw [ha, Bool.true_and]
            simp only [c1, true_and]
          · have ha : alk T r w = false := decide_eq_false (by
              rintro (⟨-, q⟩ | ⟨q1, q2⟩)
              · exact c1 (q (Or.inl h4))
              · omega)
            rw [ha, Bool.false_and, decide_eq_false (fun q => c1 q.1)]
        · rw [if_neg h4, if_neg h4]
          by_cases h5 : kd T r = 5
          · have hw5 : kd T w = 5 := by omega
            have t6' := t6 hw5
            have u6' := u6 h5
            have ha : alk T r w = true := decide_eq_true (Or.inl ⟨by omega, fun q => by omega⟩)
            rw [if_pos h5, if_pos h5, ha, Bool.true_and]
            exact readsS_14 hT (by omega) (by omega) (by omega) (by omega)
          · rw [if_neg h5, if_neg h5]
            by_cases h7 : kd T r = 7
            · rw [if_pos h7]
              have hcg : rdF (readsS T 13) (fl T r) (fl T w) (fl T r).length 0 = rdF (readsS T 14) (fl T r) (fl T w) (fl T r).length 0 := by
                refine rdF_congr _ 0 (fun a b ha hb => ?_) (by omega)
                have v1 := u8 a ha
                have v2 := t8 b hb
                exact readsS_14 hT (by omega) (by omega) (by omega) (by omega)
              rw [hcg]
              by_cases c1 : nm T r = nm T w
              · have ha : alk T r w = true := decide_eq_true (Or.inl ⟨by omega, fun _ => c1⟩)
                rw [ha, decide_eq_true c1]
              · have ha : alk T r w = false := decide_eq_false (by
                  rintro (⟨-, q⟩ | ⟨q1, q2⟩)
                  · exact c1 (q (Or.inr h7))
                  · omega)
                rw [ha, decide_eq_false c1, Bool.false_and]
            · have ha : alk T r w = true := decide_eq_true (by
                rcases hf2 with q | q
                · exact Or.inl ⟨q.symm, fun q => by omega⟩
                · exact Or.inr ⟨q.2, q.1⟩)
              rw [if_neg h7, ha, Bool.true_and, u5 h7]
              rfl
theorem matchS_eq (hT : TOk T) (hr : r < T.length) (hw : w < T.length) : matchS T 7 w r = (decide (kd T r = 6 ∨ kd T w = 6) || (alk T r w && (if kd T r = 5 ∧ alk T r w = true then matchS T 7 (sA T w) (sA T r) else true))) := by
  obtain ⟨u1, u2, u3, u4, u5, u6, u7, u8⟩ := hT.2 r hr
  obtain ⟨t1, t2, t3, t4, t5, t6, t7, t8⟩ := hT.2 w hw
  rw [show matchS T 7 w r = matchS T (6 + 1) w r from rfl, matchS]
  by_cases h6 : kd T w = 6 ∨ kd T r = 6
  · rw [if_pos h6, decide_eq_true (Or.comm.mp h6), Bool.true_or]
  · rw [if_neg h6, decide_eq_false (fun q => h6 (Or.comm.mp q)), Bool.false_or]
    cases hfit : fitK (kd T w) (kd T r) with
    | false =>
      have hf2 : ¬ (kd T w = kd T r ∨ kd T w = 2 ∧ kd T r = 3) := by unfold fitK at hfit; exact of_decide_eq_false hfit
      have ha : alk T r w = false := decide_eq_false (by
        rintro (⟨q, -⟩ | ⟨q1, q2⟩)
        · exact hf2 (Or.inl q.symm)
        · exact hf2 (Or.inr ⟨q2, q1⟩))
      rw [if_neg Bool.false_ne_true, ha, Bool.false_and]
    | true =>
      have hf2 : kd T w = kd T r ∨ kd T w = 2 ∧ kd T r = 3 := by unfold fitK at hfit; exact of_decide_eq_true hfit
      rw [if_pos rfl]
      by_cases h4 : kd T r = 4 ∨ kd T r = 7
      · rw [if_pos h4, if_neg (show ¬ (kd T r = 5 ∧ alk T r w = true) by omega), Bool.and_true]
        by_cases c1 : nm T w = nm T r
        · rw [decide_eq_true c1]
          exact (decide_eq_true (Or.inl ⟨by omega, fun _ => c1.symm⟩)).symm
        · rw [decide_eq_false c1]
          exact (decide_eq_false (by
            rintro (⟨-, q⟩ | ⟨q1, q2⟩)
            · exact c1 (q h4).symm
            · omega)).symm
      · rw [if_neg h4]
        have ha : alk T r w = true := decide_eq_true (by
          rcases hf2 with q | q
          · exact Or.inl ⟨q.symm, fun q => absurd q h4⟩
          · exact Or.inr ⟨q.2, q.1⟩)
        rw [ha, Bool.true_and]
        by_cases h5 : kd T r = 5
        · have hw5 : kd T w = 5 := by omega
          have t6' := t6 hw5
          have u6' := u6 h5
          rw [if_pos h5, if_pos ⟨h5, rfl⟩]
          exact matchS_7 hT (by omega) (by omega) (by omega) (by omega)
        · rw [if_neg h5, if_neg (by omega)]
end Cmp
