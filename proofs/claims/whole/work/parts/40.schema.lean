/-! Schemas: what the class's own objects answer; values, defaults, matching and reading. -/
/-- a store of schemas is well made -/
def TOk (T : yT) : Prop := T.length ≤ 24 ∧ ∀ s, s < T.length → kd T s ≤ 7 ∧ 1 ≤ dp T s ∧ dp T s ≤ 6 ∧ (fl T s).length ≤ 3 ∧ (kd T s ≠ 7 → fl T s = []) ∧
  (kd T s = 5 → sA T s < s ∧ dp T (sA T s) < dp T s) ∧ (kd T s = 6 → sA T s < s ∧ sB T s < s ∧ dp T (sA T s) < dp T s ∧ dp T (sB T s) < dp T s ∧ kd T (sA T s) ≠ 6 ∧ kd T (sB T s) ≠ 6) ∧
  (∀ i, i < (fl T s).length → ((fl T s).getD i yF0).2.1 < s ∧ dp T ((fl T s).getD i yF0).2.1 < dp T s)
def SchT (H : zH) (T : yT) (R : Nat → Nat) : Prop := ∀ s, s < T.length → SchemaAt H T R s
section Sch
variable {H : zH} {T : yT} {R : Nat → Nat} {s w r fu : Nat}
theorem SchT.k (h : SchT H T R) (hs : s < T.length) : zgI H (some (R s)) 8 0 = some (nI (kd T s)) := by
  obtain ⟨nv, sy, ot, fi, se, fa, g, h1, h2, h3, h4⟩ := h s hs
  exact qgI h3 rfl
theorem SchT.d (h : SchT H T R) (hs : s < T.length) : zgI H (some (R s)) 8 7 = some (nI (dp T s)) := by
  obtain ⟨nv, sy, ot, fi, se, fa, g, h1, h2, h3, h4⟩ := h s hs
  exact qgI h3 rfl
theorem SchT.ok (h : SchT H T R) (hs : s < T.length) : zok H (some (R s)) 8 = some () := by
  obtain ⟨nv, sy, ot, fi, se, fa, g, h1, h2, h3, h4⟩ := h s hs
  exact qok h3
theorem SchT.n (h : SchT H T R) (hs : s < T.length) (hk : kd T s = 4 ∨ kd T s = 7) : zgI H (some (R s)) 8 1 = some (nm T s) := by
  obtain ⟨nv, sy, ot, fi, se, fa, g, h1, h2, h3, h4, h5, h6, h7, h8⟩ := h s hs
  have : nv = nm T s := by
    rcases hk with hk | hk
    · exact (h6 hk).1
    · exact h7 hk
  rw [← this]
  exact qgI h3 rfl
theorem SchT.sy (h : SchT H T R) (hs : s < T.length) (hk : kd T s = 4) : zgI H (some (R s)) 8 2 = some (pA T s) := by
  obtain ⟨nv, sy, ot, fi, se, fa, g, h1, h2, h3, h4, h5, h6, h7, h8⟩ := h s hs
  rw [← (h6 hk).2.1]
  exact qgI h3 rfl
theorem SchT.ot (h : SchT H T R) (hs : s < T.length) (hk : kd T s = 4) : zgI H (some (R s)) 8 3 = some (pB T s) := by
  obtain ⟨nv, sy, ot, fi, se, fa, g, h1, h2, h3, h4, h5, h6, h7, h8⟩ := h s hs
  rw [← (h6 hk).2.2]
  exact qgI h3 rfl
theorem SchT.fi (h : SchT H T R) (hs : s < T.length) (hk : kd T s = 5 ∨ kd T s = 6) : zgR H (some (R s)) 8 4 = some (some (R (sA T s))) := by
  obtain ⟨nv, sy, ot, fi, se, fa, g, h1, h2, h3, h4, h5, h6, h7, h8, h9⟩ := h s hs
  have : fi = some (R (sA T s)) := by
    rcases hk with hk | hk
    · exact h8 hk
    · exact (h9 hk).1
  rw [← this]
  exact qgR h3 rfl
theorem SchT.se (h : SchT H T R) (hs : s < T.length) (hk : kd T s = 6) : zgR H (some (R s)) 8 5 = some (some (R (sB T s))) := by
  obtain ⟨nv, sy, ot, fi, se, fa, g, h1, h2, h3, h4, h5, h6, h7, h8, h9⟩ := h s hs
  rw [← (h9 hk).2]
  exact qgR h3 rfl
/-- its row of fields -/
theorem SchT.fs (h : SchT H T R) (hs : s < T.length) : ∃ fa g, zgR H (some (R s)) 8 6 = some (some fa) ∧ zle H (some fa) 4 = some (nI (fl T s).length) ∧ zgo H (some fa) = some (.inl (4, (fl T s).length, .inr (.inr g))) ∧ FieldsAt H R (fl T s) g := by
  obtain ⟨nv, sy, ot, fi, se, fa, g, h1, h2, h3, h4, h5, h6⟩ := h s hs
  exact ⟨fa, g, qgR h3 rfl, qle h4, h4, h5⟩
theorem FieldsAt.at {l : List yF} {g : Nat → Option Nat} {fa i : Nat} (h : FieldsAt H R l g) (hz : zgo H (some fa) = some (.inl (4, l.length, .inr (.inr g)))) (hl : l.length ≤ 3) (hi : i < l.length) : ∃ k, zaR H (some fa) 4 (nI i) = some (some k) ∧ zgI H (some k) 4 0 = some (l.getD i yF0).1 ∧ zgR H (some k) 4 1 = some (some (R (l.getD i yF0).2.1)) ∧ zgI H (some k) 4 2 = some (bI (l.getD i yF0).2.2.1) ∧ zgL H (some k) 4 3 = some (l.getD i yF0).2.2.2 := by
  obtain ⟨k, h1, h2, h3⟩ := h i hi
  exact ⟨k, by rw [qaR hz hi (by omega), h2], qgI h3 rfl, qgR h3 rfl, qgI h3 rfl, qgL h3 rfl⟩
theorem kdI {n : Nat} (hk : kd T s ≤ 7) (hn : n < 2 ^ 31) : nI (kd T s) = nI n ↔ kd T s = n := nI_eq (by omega) hn
-- values
def hasSy (A : Int32) (x : Int64) : Bool := decide (¬ x < 0 ∧ ¬ 8 ≤ x ∧ (A >>> (x.toInt32 &&& 31)) &&& 1 = 1)
def isVal (T : yT) (s : Nat) (x : Int64) : Bool := if kd T s = 1 then decide (x = 0 ∨ x = 1) else if kd T s = 2 then decide (x = x.toInt32.toInt64) else if kd T s = 3 then true else if kd T s = 4 then hasSy (pA T s) x else false
def isDf (T : yT) : Nat → Nat → Int64 → Bool
  | 0, _, _ => false
  | f + 1, s, x => if kd T s = 0 ∨ kd T s = 5 then decide (x = 0) else if kd T s = 6 then isDf T f (sA T s) x else isVal T s x
theorem bI_if {p : Prop} [Decidable p] : (if p then some (1 : Int32) else some (0 : Int32)) = some (bI (decide p)) := by
  by_cases h : p
  · rw [if_pos h, decide_eq_true h]; rfl
  · rw [if_neg h, decide_eq_false h]; rfl
theorem C_hasSymbol (h : SchT H T R) (hs : s < T.length) (hk : kd T s = 4) {x : Int64} : jF_Schema_hasSymbol (some (R s)) x H = some (bI (hasSy (pA T s) x)) := by
  unfold jF_Schema_hasSymbol jF_Schema_isName hasSy
  rw [h.ok hs, Option.bind_some]
  by_cases h1 : x < 0
  · rw [if_pos h1, Option.bind_some, if_pos rfl, decide_eq_false (fun q => q.1 h1)]; rfl
  · rw [if_neg h1]
    by_cases h2 : (8 : Int64) ≤ x
    · rw [if_pos h2, Option.bind_some, if_pos rfl, decide_eq_false (fun q => q.2.1 h2)]; rfl
    · rw [if_neg h2, Option.bind_some, if_neg (by decide), h.sy hs hk, Option.bind_some, bI_if]
      simp only [h1, h2, not_false_eq_true, true_and]
theorem C_isValue (h : SchT H T R) (hs : s < T.length) (h7 : kd T s ≤ 7) {x : Int64} : jF_Schema_isValue (some (R s)) x H = some (bI (isVal T s x)) := by
  unfold jF_Schema_isValue jJ_Schema_isValue_48 isVal
  rw [h.ok hs, Option.bind_some, h.k hs, Option.bind_some, li1, li2, li3, li4, if_eqN (by omega) (by omega), if_eqN (by omega) (by omega), if_eqN (by omega) (by omega), if_eqN (by omega) (by omega)]
  by_cases h1 : kd T s = 1
  · rw [if_pos h1, if_pos h1]
    by_cases ha : x = 0
    · rw [if_pos ha, decide_eq_true (Or.inl ha)]; rfl
    · rw [if_neg ha]
      by_cases hb : x = 1
      · rw [if_pos hb, decide_eq_true (Or.inr hb)]; rfl
      · rw [if_neg hb, decide_eq_false (by rintro (q | q); exact ha q; exact hb q)]; rfl
  · rw [if_neg h1, if_neg h1]
    by_cases h2 : kd T s = 2
    · rw [if_pos h2, if_pos h2]
      exact bI_if
    · rw [if_neg h2, if_neg h2]
      by_cases h3 : kd T s = 3
      · rw [if_pos h3, if_pos h3]; rfl
      · rw [if_neg h3, if_neg h3]
        by_cases h4 : kd T s = 4
        · rw [if_pos h4, if_pos h4, C_hasSymbol h hs h4, Option.bind_some, zbo_bI, Option.bind_some]
        · rw [if_neg h4, if_neg h4]; rfl
theorem C_isDefault (h : SchT H T R) (hT : TOk T) {x : Int64} : ∀ (f s : Nat), s < T.length → dp T s ≤ f → jF_Schema_isDefault f (some (R s)) x H = some (bI (isDf T f s x)) := by
  intro f
  induction f with
  | zero => intro s hs hd; have := (hT.2 s hs).2.1; omega
  | succ f ih =>
    intro s hs hd
    obtain ⟨t1, t2, t3, t4, t5, t6, t7, t8⟩ := hT.2 s hs
    rw [jF_Schema_isDefault, isDf, h.k hs, Option.bind_some]
    by_cases h0 : kd T s = 0 ∨ kd T s = 5
    · rw [if_pos (by rcases h0 with q | q <;> rw [q]; exact Or.inl rfl; exact Or.inr rfl), if_pos h0]
      exact bI_if
    · have hn : ¬ (nI (kd T s) = 0 ∨ nI (kd T s) = 5) := by
        rintro (q | q)
        · exact h0 (Or.inl ((kdI (n := 0) t1 (by omega)).mp q))
        · exact h0 (Or.inr ((kdI (n := 5) t1 (by omega)).mp q))
      rw [if_neg hn, if_neg h0, li6, if_eqN (by omega) (by omega)]
      by_cases h6 : kd T s = 6
      · have t7' := t7 h6
        rw [if_pos h6, if_pos h6, h.fi hs (Or.inr h6), Option.bind_some]
        dsimp only
        rw [ih (sA T s) (by omega) (by omega), Option.bind_some, zbo_bI, Option.bind_some]
      · rw [if_neg h6, if_neg h6, C_isValue h hs t1, Option.bind_some, zbo_bI, Option.bind_some]
-- matching
def fitK (w r : Nat) : Bool := decide (w = r ∨ w = 2 ∧ r = 3)
def matchS (T : yT) : Nat → Nat → Nat → Bool
  | 0, _, _ => false
  | f + 1, w, r => if kd T w = 6 ∨ kd T r = 6 then true else if fitK (kd T w) (kd T r) then (if kd T r = 4 ∨ kd T r = 7 then decide (nm T w = nm T r) else if kd T r = 5 then matchS T f (sA T w) (sA T r) else true) else false
theorem C_fit (h : SchT H T R) (hT : TOk T) (hw : w < T.length) (hr : r < T.length) : jF_Schema_haveFittingKinds (some (R r)) (some (R w)) H = some (bI (fitK (kd T w) (kd T r))) := by
  have t1 := (hT.2 w hw).1
  have t2 := (hT.2 r hr).1
  unfold jF_Schema_haveFittingKinds jJ_Schema_haveFittingKinds_27 fitK
  rw [h.k hw, Option.bind_some, h.k hr, Option.bind_some, Option.bind_some, Option.bind_some, li2, li3, if_eqN (by omega) (by omega), if_eqN (by omega) (by omega), if_eqN (by omega) (by omega)]
  by_cases h1 : kd T w = kd T r
  · rw [if_pos h1, decide_eq_true (Or.inl h1)]; rfl
  · rw [if_neg h1]
    by_cases h2 : kd T w = 2
    · rw [if_pos h2]
      by_cases h3 : kd T r = 3
      · rw [if_pos h3, decide_eq_true (Or.inr ⟨h2, h3⟩)]; rfl
      · rw [if_neg h3, decide_eq_false (by rintro (q | q); exact h1 q; exact h3 q.2)]; rfl
    · rw [if_neg h2, decide_eq_false (by rintro (q | q); exact h1 q; exact h2 q.1)]; rfl
theorem C_match (h : SchT H T R) (hT : TOk T) : ∀ (f w r : Nat), w < T.length → r < T.length → dp T w ≤ f → jF_Schema_match f (some (R w)) (some (R r)) H = some (bI (matchS T f w r)) := by
  intro f
  induction f with
  | zero => intro w r hw hr hd; have := (hT.2 w hw).2.1; omega
  | succ f ih =>
    intro w r hw hr hd
    obtain ⟨t1, t2, t3, t4, t5, t6, t7, t8⟩ := hT.2 w hw
    obtain ⟨u1, u2, u3, u4, u5, u6, u7, u8⟩ := hT.2 r hr
    rw [jF_Schema_match, matchS, h.k hw, Option.bind_some, h.k hr, Option.bind_some, li6, if_eqN (by omega) (by omega), if_eqN (by omega) (by omega)]
    by_cases h6 : kd T w = 6
    · rw [if_pos h6, if_pos (Or.inl h6)]; rfl
    · rw [if_neg h6]
      by_cases h6' : kd T r = 6
      · rw [if_pos h6', if_pos (Or.inr h6')]; rfl
      · rw [if_neg h6', if_neg (by rintro (q | q); exact h6 q; exact h6' q), C_fit h hT hw hr, Option.bind_some, if_bI, Option.bind_some]
        cases hfit : fitK (kd T w) (kd T r) with
        | false => rw [if_neg (by decide), if_neg (by decide)]; rfl
        | true =>
          rw [if_pos rfl, if_pos rfl]
          have hf2 : kd T w = kd T r ∨ kd T w = 2 ∧ kd T r = 3 := by unfold fitK at hfit; exact of_decide_eq_true hfit
          by_cases h4 : kd T r = 4 ∨ kd T r = 7
          · rw [if_pos (by rcases h4 with q | q <;> rw [q]; exact Or.inl rfl; exact Or.inr rfl), if_pos h4, h.n hw (by omega), Option.bind_some, h.n hr h4, Option.bind_some]
            exact bI_if
          · have hn : ¬ (nI (kd T r) = 4 ∨ nI (kd T r) = 7) := by
              rintro (q | q)
              · exact h4 (Or.inl ((kdI (n := 4) u1 (by omega)).mp q))
              · exact h4 (Or.inr ((kdI (n := 7) u1 (by omega)).mp q))
            rw [if_neg hn, if_neg h4, li5, if_eqN (by omega) (by omega)]
            by_cases h5 : kd T r = 5
            · have hw5 : kd T w = 5 := by omega
              have t6' := t6 hw5
              have u6' := u6 h5
              rw [if_pos h5, if_pos h5, h.fi hw (Or.inl hw5), Option.bind_some, h.fi hr (Or.inl h5), Option.bind_some]
              dsimp only
              rw [ih (sA T w) (sA T r) (by omega) (by omega) (by omega), Option.bind_some, zbo_bI, Option.bind_some]
            · rw [if_neg h5, if_neg h5]; rfl
end Sch
