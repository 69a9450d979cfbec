/-! Can read: the class's answer. -/
/-- the number of the field of a name in a list of fields, from i on -/
def fOf (l : List yF) (n : Int32) : Nat → Nat → Option Nat
  | 0, _ => none
  | k + 1, i => if (l.getD i yF0).1 = n then some i else fOf l n k (i + 1)
/-- all fields that are asked for, from i on, are there and can be read, or have a default -/
def rdF (rd : Nat → Nat → Bool) (lr lw : List yF) : Nat → Nat → Bool
  | 0, _ => true
  | k + 1, i => (match fOf lw (lr.getD i yF0).1 lw.length 0 with
    | none => (lr.getD i yF0).2.2.1
    | some j => rd (lr.getD i yF0).2.1 (lw.getD j yF0).2.1) && rdF rd lr lw k (i + 1)
def brS (T : yT) (f r w : Nat) : Option Nat := if matchS T f w (sA T r) then some 0 else if matchS T f w (sB T r) then some 1 else none
def brT (T : yT) (r b : Nat) : Nat := if b = 0 then sA T r else sB T r
def readsS (T : yT) : Nat → Nat → Nat → Bool
  | 0, _, _ => false
  | f + 1, r, w => if kd T w = 6 then readsS T f r (sA T w) && readsS T f r (sB T w) else if kd T r = 6 then (match brS T 7 r w with
      | none => false
      | some b => readsS T f (brT T r b) w)
    else if fitK (kd T w) (kd T r) then (if kd T r = 4 then decide (nm T r = nm T w ∧ (pB T r ≠ -1 ∨ (pA T w &&& (pA T r ^^^ (-1 : Int32))) = 0)) else if kd T r = 5 then readsS T f (sA T r) (sA T w) else if kd T r = 7 then decide (nm T r = nm T w) && rdF (readsS T f) (fl T r) (fl T w) (fl T r).length 0 else true) else false
section Rd
variable {H : zH} {T : yT} {R : Nat → Nat} {s w r fu : Nat}
theorem C_fieldOfL (h : SchT H T R) (hT : TOk T) (hs : s < T.length) {n : Int32} {fa : Nat} {g : Nat → Option Nat} (e1 : zgR H (some (R s)) 8 6 = some (some fa)) (e2 : zle H (some fa) 4 = some (nI (fl T s).length)) (e3 : zgo H (some fa) = some (.inl (4, (fl T s).length, .inr (.inr g)))) (e4 : FieldsAt H R (fl T s) g) :
    ∀ (k i g' : Nat), i + k = (fl T s).length → k < g' → jL_Schema_fieldOf_2 fu H g' (some (R s)) n (nI i) = some ((fOf (fl T s) n k i).bind g) := by
  have hl := (hT.2 s hs).2.2.2.1
  intro k
  induction k with
  | zero =>
    intro i g' h1 h2
    obtain ⟨g'', rfl⟩ : ∃ q, g' = q + 1 := ⟨g' - 1, by omega⟩
    rw [jL_Schema_fieldOf_2, e1, Option.bind_some, e2, Option.bind_some, if_pos (nI_le (by omega) (by omega))]
    rfl
  | succ k ih =>
    intro i g' h1 h2
    obtain ⟨g'', rfl⟩ : ∃ q, g' = q + 1 := ⟨g' - 1, by omega⟩
    obtain ⟨q, f1, f2, f3, f4, f5⟩ := e4.at e3 hl (show i < (fl T s).length by omega)
    obtain ⟨q', p1, p2, p3⟩ := e4 i (by omega)
    have hq : g i = some q := by
      have := f1
      rw [qaR e3 (by omega) (by omega)] at this
      exact Option.some.inj this
    rw [jL_Schema_fieldOf_2]
    simp only [e1, e2, f1, f2, Option.bind_some]
    rw [if_neg (nI_ge (by omega) (by omega)), fOf, nI_1]
    by_cases hn : ((fl T s).getD i yF0).1 = n
    · rw [if_pos hn, if_pos hn, Option.bind_some, hq]
    · rw [if_neg hn, if_neg hn]
      exact ih (i + 1) g'' (by omega) (by omega)
theorem fOf_lt {l : List yF} {n : Int32} : ∀ (k i j : Nat), fOf l n k i = some j → i ≤ j ∧ j < i + k ∧ (l.getD j yF0).1 = n := by
  intro k
  induction k with
  | zero => intro i j h; cases h
  | succ k ih =>
    intro i j h
    rw [fOf] at h
    by_cases hn : (l.getD i yF0).1 = n
    · rw [if_pos hn] at h
      cases h
      exact ⟨Nat.le_refl _, by omega, hn⟩
    · rw [if_neg hn] at h
      have := ih (i + 1) j h
      exact ⟨by omega, by omega, this.2.2⟩
theorem C_readsF (h : SchT H T R) (hT : TOk T) (hr : r < T.length) (hw : w < T.length) (hfu : 5 ≤ fu) {rc : Option Nat → Option Nat → zH → Option Int32} {rd : Nat → Nat → Bool}
    (hrc : ∀ a b, a < T.length → b < T.length → dp T a < dp T r → dp T b < dp T w → rc (some (R a)) (some (R b)) H = some (bI (rd a b))) :
    ∀ (k i g : Nat), i + k = (fl T r).length → k < g → jL_Schema_readsFields_2 fu H rc g (some (R r)) (some (R w)) (nI i) = some (bI (rdF rd (fl T r) (fl T w) k i)) := by
  obtain ⟨u1, u2, u3, u4, u5, u6, u7, u8⟩ := hT.2 r hr
  obtain ⟨t1, t2, t3, t4, t5, t6, t7, t8⟩ := hT.2 w hw
  obtain ⟨fa, gg, e1, e2, e3, e4⟩ := h.fs hr
  obtain ⟨fb, gw, b1, b2, b3, b4⟩ := h.fs hw
  intro k
  induction k with
  | zero =>
    intro i g h1 h2
    obtain ⟨g', rfl⟩ : ∃ q, g = q + 1 := ⟨g - 1, by omega⟩
    rw [jL_Schema_readsFields_2, e1, Option.bind_some, e2, Option.bind_some, if_pos (nI_le (by omega) (by omega))]
    rfl
  | succ k ih =>
    intro i g h1 h2
    obtain ⟨g', rfl⟩ : ∃ q, g = q + 1 := ⟨g - 1, by omega⟩
    obtain ⟨q, f1, f2, f3, f4, f5⟩ := e4.at e3 u4 (show i < (fl T r).length by omega)
    have hfo : jF_Schema_fieldOf fu (some (R w)) ((fl T r).getD i yF0).1 H = some ((fOf (fl T w) ((fl T r).getD i yF0).1 (fl T w).length 0).bind gw) := by
      unfold jF_Schema_fieldOf
      rw [h.ok hw, Option.bind_some]
      exact C_fieldOfL h hT hw b1 b2 b3 b4 _ 0 fu (by omega) (by omega)
    have hkont : ∀ b : Bool, jJ_Schema_readsFields_52 fu H rc (fun x0 x1 x2 => jL_Schema_readsFields_2 fu H rc g' x0 x1 x2) (bI b) (some (R r)) (some (R w)) (nI i) = some (bI (b && rdF rd (fl T r) (fl T w) k (i + 1))) := by
      intro b
      unfold jJ_Schema_readsFields_52
      rw [if_bI]
      cases b with
      | false => rfl
      | true =>
        rw [if_pos rfl, nI_1]
        exact ih (i + 1) g' (by omega) (by omega)
    rw [jL_Schema_readsFields_2, e1, Option.bind_some, e2, Option.bind_some, if_neg (nI_ge (by omega) (by omega)), Option.bind_some, f1, Option.bind_some, f2, Option.bind_some, hfo, Option.bind_some, rdF]
    cases hj : fOf (fl T w) ((fl T r).getD i yF0).1 (fl T w).length 0 with
    | none =>
      rw [if_pos (show (none : Option Nat).bind gw = none from rfl), f4, Option.bind_some]
      exact hkont _
    | some j =>
      have hjl := fOf_lt _ _ _ hj
      obtain ⟨q', p1, p2, p3, p4, p5⟩ := b4.at b3 t4 (show j < (fl T w).length by omega)
      have hq : gw j = some q' := by
        have := p1
        rw [qaR b3 (by omega) (by omega)] at this
        exact Option.some.inj this
      have v1 := u8 i (by omega)
      have v2 := t8 j (by omega)
      rw [show (some j).bind gw = some q' from hq, if_neg (by simp), f3, Option.bind_some, p3, Option.bind_some, hrc _ _ (by omega) (by omega) v1.2 v2.2, Option.bind_some]
      exact hkont _
theorem C_branchOf (h : SchT H T R) (hT : TOk T) (hr : r < T.length) (hw : w < T.length) (h6 : kd T r = 6) : jF_Schema_matchingBranch (some (R r)) (some (R w)) H = some (limI (brS T 7 r w)) := by
  obtain ⟨u1, u2, u3, u4, u5, u6, u7, u8⟩ := hT.2 r hr
  obtain ⟨t1, t2, t3, t4, t5, t6, t7, t8⟩ := hT.2 w hw
  have u7' := u7 h6
  unfold jF_Schema_matchingBranch brS
  rw [h.fi hr (Or.inr h6), Option.bind_some, C_match h hT 7 w (sA T r) hw (by omega) (by omega), Option.bind_some, if_bI]
  cases matchS T 7 w (sA T r) with
  | true => rfl
  | false =>
    rw [if_neg (by decide), if_neg (by decide), h.se hr h6, Option.bind_some, C_match h hT 7 w (sB T r) hw (by omega) (by omega), Option.bind_some, if_bI]
    cases matchS T 7 w (sB T r) <;> rfl
theorem C_branch (h : SchT H T R) (hr : r < T.length) (h6 : kd T r = 6) {x : Int64} : jF_Schema_branch (some (R r)) x H = some (some (R (if x = 0 then sA T r else sB T r))) := by
  unfold jF_Schema_branch
  rw [h.ok hr, Option.bind_some, h.fi hr (Or.inr h6), Option.bind_some, h.se hr h6, Option.bind_some]
  split <;> rfl
theorem C_reads (h : SchT H T R) (hT : TOk T) (hfu : 5 ≤ fu) : ∀ (f r w : Nat), r < T.length → w < T.length → dp T r + dp T w ≤ f → jF_Schema_reads fu f (some (R r)) (some (R w)) H = some (bI (readsS T f r w)) := by
  intro f
  induction f with
  | zero => intro r w hr hw hd; have := (hT.2 w hw).2.1; omega
  | succ f ih =>
    intro r w hr hw hd
    obtain ⟨u1, u2, u3, u4, u5, u6, u7, u8⟩ := hT.2 r hr
    obtain ⟨t1, t2, t3, t4, t5, t6, t7, t8⟩ := hT.2 w hw
    rw [jF_Schema_reads, readsS, h.k hw, Option.bind_some, h.k hr, Option.bind_some, li6, if_eqN (by omega) (by omega), if_eqN (by omega) (by omega)]
    by_cases h6 : kd T w = 6
    · have t7' := t7 h6
      rw [if_pos h6, if_pos h6, h.fi hw (Or.inr h6), Option.bind_some]
      dsimp only
      rw [ih r (sA T w) hr (by omega) (by omega), Option.bind_some, if_bI, h.se hw h6, Option.bind_some]
      rw [ih r (sB T w) hr (by omega) (by omega), Option.bind_some, if_bI]
      cases readsS T f r (sA T w) <;> cases readsS T f r (sB T w) <;> rfl
    · rw [if_neg h6, if_neg h6]
      by_cases h6' : kd T r = 6
      · have u7' := u7 h6'
        rw [if_pos h6', if_pos h6', C_branchOf h hT hr hw h6', Option.bind_some]
        cases hb : brS T 7 r w with
        | none => rfl
        | some b =>
          have hb2 : b = 0 ∨ b = 1 := by
            unfold brS at hb
            split at hb
            · cases hb; exact Or.inl rfl
            · split at hb
              · cases hb; exact Or.inr rfl
              · cases hb
          have hne : ¬ limI (some b) = -1 := by rcases hb2 with rfl | rfl <;> decide
          have hx : (if (limI (some b)).toInt64 = 0 then sA T r else sB T r) = brT T r b := by
            rcases hb2 with rfl | rfl <;> rfl
          have hlt : brT T r b < T.length ∧ dp T (brT T r b) < dp T r := by
            unfold brT
            split
            · exact ⟨by omega, by omega⟩
            · exact ⟨by omega, by omega⟩
          rw [if_neg hne, C_branch h hr h6', hx, Option.bind_some]
          dsimp only
          rw [ih (brT T r b) w hlt.1 hw (by omega), Option.bind_some, if_bI]
          cases readsS T f (brT T r b) w <;> rfl
      · rw [if_neg h6', if_neg h6', C_fit h hT hw hr, Option.bind_some, if_bI, Option.bind_some]
        cases hfit : fitK (kd T w) (kd T r) with
        | false => rfl
        | true =>
          rw [if_pos rfl, if_pos rfl]
          have hf2 : kd T w = kd T r ∨ kd T w = 2 ∧ kd T r = 3 := by unfold fitK at hfit; exact of_decide_eq_true hfit
          rw [li4, li5, li7, if_eqN (by omega) (by omega), if_eqN (by omega) (by omega), if_eqN (by omega) (by omega)]
          by_cases h4 : kd T r = 4
          · have hw4 : kd T w = 4 := by omega
            rw [if_pos h4, if_pos h4, h.n hr (Or.inl h4), Option.bind_some, h.n hw (Or.inl hw4), Option.bind_some, h.ot hr h4, Option.bind_some, h.sy hw hw4, Option.bind_some, h.sy hr h4, Option.bind_some]
            unfold jJ_Schema_reads_153
            by_cases c1 : nm T r = nm T w
            · rw [if_pos c1]
              by_cases c2 : pB T r = -1
              · rw [if_pos c2, bI_if]
                simp only [c1, c2, ne_eq, not_true_eq_false, false_or, true_and]
              · rw [if_neg c2, decide_eq_true ⟨c1, Or.inl c2⟩]; rfl
            · rw [if_neg c1, decide_eq_false (fun q => c1 q.1)]; rfl
          · rw [if_neg h4, if_neg h4]
            by_cases h5 : kd T r = 5
            · have hw5 : kd T w = 5 := by omega
              have t6' := t6 hw5
              have u6' := u6 h5
              rw [if_pos h5, if_pos h5, h.fi hr (Or.inl h5), Option.bind_some, h.fi hw (Or.inl hw5), Option.bind_some]
              dsimp only
              rw [ih (sA T r) (sA T w) (by omega) (by omega) (by omega), Option.bind_some, zbo_bI, Option.bind_some]
            · rw [if_neg h5, if_neg h5]
              by_cases h7 : kd T r = 7
              · have hw7 : kd T w = 7 := by omega
                rw [if_pos h7, if_pos h7, h.n hr (Or.inr h7), Option.bind_some, h.n hw (Or.inr hw7), Option.bind_some]
                by_cases c1 : nm T r = nm T w
                · rw [if_pos c1, decide_eq_true c1]
                  unfold jF_Schema_readsFields
                  have hq := C_readsF (fu := fu) (rc := fun x0 x1 x2 => jF_Schema_reads fu f x0 x1 x2) (rd := readsS T f) h hT hr hw hfu (fun a b ha hb d1 d2 => ih a b ha hb (by omega)) (fl T r).length 0 fu (by omega) (by omega)
                  rw [nI_0] at hq
                  rw [hq, Option.bind_some, if_bI]
                  cases rdF (readsS T f) (fl T r) (fl T w) (fl T r).length 0 <;> rfl
                · rw [if_neg c1, decide_eq_false c1]; rfl
              · rw [if_neg h7, if_neg h7]; rfl
end Rd
