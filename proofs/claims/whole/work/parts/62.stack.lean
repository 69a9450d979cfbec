/-! The reference's stack of schemas that come; how a value is coded, with one fuel for all. -/
theorem seqP_congr {g g' : Nat → Nat → Option (Nat × List Nat)} : ∀ (l : List Nat) (p : Nat), (∀ q, q ∈ l → ∀ p, g q p = g' q p) → seqP g l p = seqP g' l p := by
  intro l
  induction l with
  | nil => intro p _; rfl
  | cons q l ih =>
    intro p h
    rw [seqP, seqP, h q (List.mem_cons_self ..) p]
    cases g' q p with
    | none => rfl
    | some r =>
      dsimp only
      rw [ih r.1 (fun q hq => h q (List.mem_cons_of_mem _ hq))]
def subs (T : yT) (s : Nat) : List Nat := (fl T s).map fun y => y.2.1
section EncUp
variable {T : yT} {xs : List Int64} {s : Nat}
theorem subs_mem (hT : TOk T) (hs : s < T.length) {q : Nat} (hq : q ∈ subs T s) : q < s ∧ dp T q < dp T s := by
  obtain ⟨y, hy, rfl⟩ := List.mem_map.mp hq
  obtain ⟨i, hi, he⟩ := List.mem_iff_getElem.mp hy
  have := (hT.2 s hs).2.2.2.2.2.2.2 i hi
  have h2 : (fl T s).getD i yF0 = y := by rw [← he]; simp [List.getD, List.getElem?_eq_getElem hi]
  rw [h2] at this
  exact this
theorem encP_up (hT : TOk T) : ∀ (f s p : Nat), s < T.length → dp T s ≤ f → encP T xs f s p = encP T xs (f + 1) s p := by
  intro f
  induction f with
  | zero => intro s p hs hd; have := (hT.2 s hs).2.1; omega
  | succ f ih =>
    intro s p hs hd
    obtain ⟨t1, t2, t3, t4, t5, t6, t7, t8⟩ := hT.2 s hs
    rw [encP, encP]
    by_cases h0 : kd T s = 0
    · rw [if_pos h0, if_pos h0]
    rw [if_neg h0, if_neg h0]
    by_cases h7 : kd T s = 7
    · rw [if_pos h7, if_pos h7]
      exact seqP_congr _ p (fun q hq p => by have := subs_mem hT hs hq; exact ih q p (by omega) (by omega))
    rw [if_neg h7, if_neg h7]
    by_cases hl : xs.length ≤ p
    · rw [if_pos hl, if_pos hl]
    rw [if_neg hl, if_neg hl]
    by_cases h5 : kd T s = 5
    · have t6' := t6 h5
      rw [if_pos h5, if_pos h5, seqP_congr (g' := encP T xs (f + 1)) _ (p + 1) (fun q hq p => by
        have := List.eq_of_mem_replicate hq
        subst this
        exact ih _ p (by omega) (by omega))]
    rw [if_neg h5, if_neg h5]
    by_cases h6 : kd T s = 6
    · have t7' := t7 h6
      rw [if_pos h6, if_pos h6, ih _ (p + 1) (by split <;> omega) (by split <;> omega)]
    rw [if_neg h6, if_neg h6]
theorem encP_7 (hT : TOk T) (hs : s < T.length) {f p : Nat} (hd : dp T s ≤ f) : encP T xs f s p = encP T xs 7 s p := by
  have up : ∀ k, encP T xs (dp T s + k) s p = encP T xs (dp T s) s p := by
    intro k
    induction k with
    | zero => rfl
    | succ k ih => rw [← Nat.add_assoc, ← encP_up hT _ s p hs (by omega), ih]
  have t3 := (hT.2 s hs).2.2.1
  rw [show f = dp T s + (f - dp T s) by omega, up, show 7 = dp T s + (7 - dp T s) by omega, up]
/-- how it is coded, all parts with one fuel -/
theorem encP_eq (hT : TOk T) (hs : s < T.length) {p : Nat} : encP T xs 7 s p = if kd T s = 0 then some (p, []) else if kd T s = 7 then seqP (encP T xs 7) (subs T s) p
    else if xs.length ≤ p then none
    else if kd T s = 5 then (if xs.getD p 0 < 0 ∨ ¬ xs.getD p 0 ≤ 3 then none else (seqP (encP T xs 7) (List.replicate (xs.getD p 0).toInt32.toNatClampNeg (sA T s)) (p + 1)).map fun r => (r.1, (if xs.getD p 0 ≤ 0 then [] else varB (xs.getD p 0)) ++ r.2 ++ [0]))
    else if kd T s = 6 then (if xs.getD p 0 = 0 ∨ xs.getD p 0 = 1 then (encP T xs 7 (if xs.getD p 0 = 0 then sA T s else sB T s) (p + 1)).map fun r => (r.1, varB (xs.getD p 0) ++ r.2) else none)
    else if isVal T s (xs.getD p 0) then some (p + 1, cod T s (xs.getD p 0)) else none := by
  obtain ⟨t1, t2, t3, t4, t5, t6, t7, t8⟩ := hT.2 s hs
  rw [encP]
  by_cases h0 : kd T s = 0
  · rw [if_pos h0, if_pos h0]
  rw [if_neg h0, if_neg h0]
  by_cases h7 : kd T s = 7
  · rw [if_pos h7, if_pos h7]
    exact seqP_congr _ p (fun q hq p => by have := subs_mem hT hs hq; exact encP_7 hT (by omega) (by omega))
  rw [if_neg h7, if_neg h7]
  by_cases hl : xs.length ≤ p
  · rw [if_pos hl, if_pos hl]
  rw [if_neg hl, if_neg hl]
  by_cases h5 : kd T s = 5
  · have t6' := t6 h5
    rw [if_pos h5, if_pos h5, seqP_congr (g' := encP T xs 7) _ (p + 1) (fun q hq p => by
      have := List.eq_of_mem_replicate hq
      subst this
      exact encP_7 hT (by omega) (by omega))]
  rw [if_neg h5, if_neg h5]
  by_cases h6 : kd T s = 6
  · have t7' := t7 h6
    rw [if_pos h6, if_pos h6, encP_7 hT (by split <;> omega) (by split <;> omega)]
  rw [if_neg h6, if_neg h6]
end EncUp
-- weights: how many turns a schema may take
def wd : Nat → Nat
  | 0 => 1
  | 1 => 1
  | d + 2 => 3 * wd (d + 1) + 2
theorem wd_mono : ∀ (a b : Nat), a ≤ b → wd a ≤ wd b := by
  have st : ∀ b, wd b ≤ wd (b + 1) := by
    intro b
    cases b with
    | zero => exact Nat.le_refl _
    | succ b => show wd (b + 1) ≤ 3 * wd (b + 1) + 2; omega
  intro a b h
  induction b with
  | zero => have : a = 0 := by omega
            subst this; exact Nat.le_refl _
  | succ b ih =>
    by_cases hb : a = b + 1
    · subst hb; exact Nat.le_refl _
    · exact Nat.le_trans (ih (by omega)) (st b)
theorem wd_pos (d : Nat) : 1 ≤ wd d := wd_mono 0 d (Nat.zero_le _)
theorem wd_step {a d : Nat} (h1 : 1 ≤ a) (h : a < d) : 3 * wd a + 2 ≤ wd d := by
  obtain ⟨e, rfl⟩ : ∃ e, d = e + 2 := ⟨d - 2, by omega⟩
  have := wd_mono a (e + 1) (by omega)
  show _ ≤ 3 * wd (e + 1) + 2
  omega
def wO (T : yT) : Option Nat → Nat
  | none => 1
  | some s => wd (dp T s)
def wS (T : yT) : List (Option Nat) → Nat
  | [] => 0
  | q :: l => wO T q + wS T l
theorem wS_app {T : yT} : ∀ (a b : List (Option Nat)), wS T (a ++ b) = wS T a + wS T b := by
  intro a
  induction a with
  | nil => intro b; show _ = 0 + _; rw [Nat.zero_add]; rfl
  | cons q a ih => intro b; show wO T q + wS T (a ++ b) = wO T q + wS T a + wS T b; rw [ih, Nat.add_assoc]
theorem wS_le {T : yT} {d : Nat} : ∀ (l : List Nat), (∀ q, q ∈ l → wd (dp T q) ≤ d) → wS T (l.map some) ≤ l.length * d := by
  intro l
  induction l with
  | nil => intro _; exact Nat.zero_le _
  | cons q l ih =>
    intro h
    have h1 := h q (List.mem_cons_self ..)
    have h2 := ih (fun q hq => h q (List.mem_cons_of_mem _ hq))
    show wd (dp T q) + wS T (l.map some) ≤ (l.length + 1) * d
    rw [Nat.add_mul, Nat.one_mul]
    omega
theorem wS_in {T : yT} {s : Nat} {l : List Nat} (hl : l.length ≤ 3) (hq : ∀ q, q ∈ l → 1 ≤ dp T q ∧ dp T q < dp T s) : wS T (l.map some) + 1 ≤ wd (dp T s) ∧ (l ≠ [] → wS T (l.map some) + 2 ≤ wd (dp T s)) := by
  cases l with
  | nil => exact ⟨wd_pos _, fun h => absurd rfl h⟩
  | cons q l =>
    obtain ⟨h1, h2⟩ := hq q (List.mem_cons_self ..)
    have h3 := wS_le (T := T) (d := wd (dp T s - 1)) (q :: l) (fun q hh => by have := hq q hh; exact wd_mono _ _ (by omega))
    have h4 := wd_step (a := dp T s - 1) (d := dp T s) (by omega) (by omega)
    have h5 : (q :: l).length * wd (dp T s - 1) ≤ 3 * wd (dp T s - 1) := Nat.mul_le_mul_right _ hl
    exact ⟨by omega, fun _ => by omega⟩
-- the stack
def dO (T : yT) : Option Nat → Nat
  | none => 0
  | some s => dp T s
def StA (T : yT) (f : Nat → Int32) : List (Option Nat) → Prop
  | [] => True
  | q :: l => f l.length = limI q ∧ l.length + 1 + 3 * dO T q ≤ 64 ∧ (∀ s, q = some s → s < T.length) ∧ StA T f l
theorem StA.up {T : yT} {f : Nat → Int32} {i : Nat} {x : Int32} : ∀ (l : List (Option Nat)), StA T f l → l.length ≤ i → StA T (va_up f i x) l := by
  intro l
  induction l with
  | nil => intro _ _; exact True.intro
  | cons q l ih =>
    intro h hi
    have hi' : l.length + 1 ≤ i := hi
    exact ⟨by rw [zup_ne (by omega)]; exact h.1, h.2.1, h.2.2.1, ih h.2.2.2 (by omega)⟩
def MSt (H : zH) (T : yT) (st : List (Option Nat)) : Prop := ∃ f, AI H 44 64 f ∧ StA T f st
section St
variable {H : zH} {T : yT} {l : List (Option Nat)} {q : Option Nat}
theorem MSt.fr {H' : zH} {A : Nat → Prop} (h : MSt H T l) (hF : Fr H H' A) (hA : ¬ A 44) : MSt H' T l := by
  obtain ⟨f, a, b⟩ := h
  exact ⟨f, a.fr hF hA, b⟩
theorem MSt.pop (h : MSt H T (q :: l)) : MSt H T l := by
  obtain ⟨f, a, b⟩ := h
  exact ⟨f, a, b.2.2.2⟩
theorem MSt.ok (h : MSt H T (q :: l)) : l.length + 1 + 3 * dO T q ≤ 64 ∧ ∀ s, q = some s → s < T.length := by
  obtain ⟨f, a, b⟩ := h
  exact ⟨b.2.1, b.2.2.1⟩
theorem MSt.top (h : MSt H T (q :: l)) : zaI H (some 44) 0 (nI l.length) = some (limI q) := by
  obtain ⟨f, a, b⟩ := h
  rw [qaI a (by have := b.2.1; omega) (by omega), b.1]
theorem MSt.push (h : MSt H T l) (h1 : l.length + 1 + 3 * dO T q ≤ 64) (h2 : ∀ s, q = some s → s < T.length) : ∃ H', zsI H (some 44) 0 (nI l.length) (limI q) = some H' ∧ MSt H' T (q :: l) ∧ Fr H H' (fun x => x = 44) := by
  obtain ⟨f, a, b⟩ := h
  refine ⟨_, qsI a (by omega) (by omega), ⟨va_up f l.length (limI q), zgo_set_same a, zup_same, h1, h2, StA.up l b (Nat.le_refl _)⟩, Fr.set rfl⟩
end St
theorem nI_am1 (m : Nat) : nI m + (-1 : Int32) = nI m - 1 := by
  cases m with
  | zero => decide
  | succ m => rw [pk_m1, nI_pred]
section Come
variable {v : Nat → Int32} {T : yT} {P : List yF} {s fu : Nat}
theorem subs_get {i : Nat} (hi : i < (fl T s).length) : (subs T s).drop i = ((fl T s).getD i yF0).2.1 :: (subs T s).drop (i + 1) := by
  unfold subs
  rw [List.drop_eq_getElem_cons (by rw [List.length_map]; exact hi), List.getElem_map]
  simp [List.getD, List.getElem?_eq_getElem hi]
theorem subs_len : (subs T s).length = (fl T s).length := List.length_map ..
theorem Mo_comeL (hT : TOk T) (hs : s < T.length) {l : List (Option Nat)} (hl : l.length + 1 + 3 * dp T s ≤ 64) : ∀ (m g : Nat) (H : zH), m ≤ (fl T s).length → m < g → MSB H v T P → MSt H T (((subs T s).drop m).map some ++ l) →
    ∃ H', jL_Mo_fieldsCome_12 fu g (some 24) (nI s) (nI ((fl T s).length - m + l.length)) (nI m - 1) H = some (nI ((fl T s).length + l.length), H') ∧ MSt H' T ((subs T s).map some ++ l) ∧ Fr H H' (fun q => q = 44) := by
  obtain ⟨t1, t2, t3, t4, t5, t6, t7, t8⟩ := hT.2 s hs
  intro m
  induction m with
  | zero =>
    intro g H h1 h2 h hS
    obtain ⟨q, rfl⟩ : ∃ q, g = q + 1 := ⟨g - 1, by omega⟩
    rw [jL_Mo_fieldsCome_12, if_pos (show nI 0 - 1 < 0 by decide)]
    exact ⟨H, rfl, hS, Fr.rf⟩
  | succ m ih =>
    intro g H h1 h2 h hS
    obtain ⟨q, rfl⟩ : ∃ q, g = q + 1 := ⟨g - 1, by omega⟩
    have h8 := t8 m (by omega)
    have hlen : (((subs T s).drop (m + 1)).map some ++ l).length = (fl T s).length - (m + 1) + l.length := by
      rw [List.length_append, List.length_map, List.length_drop, subs_len]
    obtain ⟨H1, e1, e2, e3⟩ := hS.push (q := some ((fl T s).getD m yF0).2.1) (by
      show _ + 3 * dp T _ ≤ 64
      rw [hlen]; omega) (fun x hx => by cases hx; omega)
    rw [hlen] at e1
    rw [jL_Mo_fieldsCome_12, nI_pred, if_neg (nI_pos (by omega)), qgR h.1 rfl, Option.bind_some, qgR h.1 rfl, Option.bind_some, li3, pk_mul, nI_add, h.fs hT.1 hs (by omega) t4, Option.bind_some]
    have e1' : zsI H (some 44) 0 (nI ((fl T s).length - (m + 1) + l.length)) (nI ((fl T s).getD m yF0).2.1) = some H1 := e1
    rw [e1', Option.bind_some, nI_1, nI_am1, show (fl T s).length - (m + 1) + l.length + 1 = (fl T s).length - m + l.length by omega]
    obtain ⟨H2, f1, f2, f3⟩ := ih q H1 (by omega) (by omega) (h.fr e3 (fun q hq => by omega)) (by
      rw [subs_get (by omega)]
      exact e2)
    exact ⟨H2, f1, f2, e3.tr f3⟩
theorem Mo_come (hT : TOk T) (hs : s < T.length) {l : List (Option Nat)} (hl : l.length + 1 + 3 * dp T s ≤ 64) {H : zH} (h : MSB H v T P) (hS : MSt H T l) (hfu : 5 ≤ fu) :
    ∃ H', jF_Mo_fieldsCome fu (some 24) (nI s) (nI l.length) H = some (nI ((subs T s).map some ++ l).length, H') ∧ MSt H' T ((subs T s).map some ++ l) ∧ Fr H H' (fun q => q = 44) := by
  obtain ⟨t1, t2, t3, t4, t5, t6, t7, t8⟩ := hT.2 s hs
  obtain ⟨H1, e1, e2, e3⟩ := Mo_comeL (fu := fu) hT hs hl (fl T s).length fu H (by omega) (by omega) h (by
    rw [List.drop_eq_nil_of_le (by rw [subs_len]; exact Nat.le_refl _)]
    exact hS)
  rw [Nat.sub_self, Nat.zero_add] at e1
  unfold jF_Mo_fieldsCome
  rw [qok h.1, Option.bind_some, qgR h.1 rfl, Option.bind_some, h.n hT.1 hs, Option.bind_some, e1, List.length_append, List.length_map, subs_len]
  exact ⟨H1, rfl, e2, e3⟩
end Come
