/-! A record of one schema under another: the pure function, and the class. -/
/-- the place behind the value of schema s at p -/
def bhP (T : yT) (xs : List Int64) (s p : Nat) : Nat := ((encP T xs 7 s p).map Prod.fst).getD 0
theorem bhP_eq {T : yT} {xs : List Int64} {s p p' : Nat} {b : List Nat} (h : encP T xs 7 s p = some (p', b)) : bhP T xs s p = p' := by
  unfold bhP
  rw [h]
  rfl
/-- the place of field j of a record of schema w at p -/
def fpl (T : yT) (xs : List Int64) (w p : Nat) : Nat → Nat
  | 0 => p
  | j + 1 => bhP T xs ((fl T w).getD j yF0).2.1 (fpl T xs w p j)
def itR (g : Nat → Option (List Int64)) (nx : Nat → Nat) : Nat → Nat → Option (List Int64)
  | 0, _ => some []
  | m + 1, q => match g q with
    | none => none
    | some a => (itR g nx m (nx q)).map (a ++ ·)
def flR (g : Nat → Option (List Int64)) : Nat → Nat → Option (List Int64)
  | 0, _ => some []
  | m + 1, i => match g i with
    | none => none
    | some a => (flR g m (i + 1)).map (a ++ ·)
def dfS (T : yT) : Nat → Nat → Int64 → List Int64
  | 0, _, _ => []
  | f + 1, s, x => if kd T s = 6 then 0 :: dfS T f (sA T s) x else if kd T s = 0 then [] else [x]
/-- field i of the reader's record -/
def fdR (T : yT) (xs : List Int64) (g : Nat → Nat → Nat → Option (List Int64)) (w r p i : Nat) : Option (List Int64) := match fOf (fl T w) ((fl T r).getD i yF0).1 (fl T w).length 0 with
  | none => if ((fl T r).getD i yF0).2.2.1 then some (dfS T 7 ((fl T r).getD i yF0).2.1 ((fl T r).getD i yF0).2.2.2) else none
  | some j => g ((fl T w).getD j yF0).2.1 ((fl T r).getD i yF0).2.1 (fpl T xs w p j)
def resP (T : yT) (xs : List Int64) : Nat → Nat → Nat → Nat → Option (List Int64)
  | 0, _, _, _ => none
  | f + 1, w, r, p => if kd T w = 6 then resP T xs f (if xs.getD p 0 = 0 then sA T w else sB T w) r (p + 1)
    else if kd T r = 6 then (match brS T 7 r w with
      | none => none
      | some b => (resP T xs f w (brT T r b) p).map (lN b :: ·))
    else if fitK (kd T w) (kd T r) then (if kd T r = 0 then some []
      else if kd T r = 4 then (if nm T w = nm T r then (if hasSy (pA T r) (xs.getD p 0) then some [xs.getD p 0] else if pB T r = -1 then none else some [(pB T r).toInt64]) else none)
      else if kd T r = 5 then (itR (resP T xs f (sA T w) (sA T r)) (bhP T xs (sA T w)) (xs.getD p 0).toInt32.toNatClampNeg (p + 1)).map (xs.getD p 0 :: ·)
      else if kd T r = 7 then (if nm T w = nm T r then flR (fdR T xs (resP T xs f) w r p) (fl T r).length 0 else none)
      else some [xs.getD p 0]) else none
section Fpl
variable {T : yT} {xs : List Int64} {w p p' : Nat} {b : List Nat}
theorem fpl_seq (hpl : p ≤ xs.length) (h : seqP (encP T xs 7) (subs T w) p = some (p', b)) : ∀ j, j ≤ (fl T w).length → (∃ b', seqP (encP T xs 7) ((subs T w).drop j) (fpl T xs w p j) = some (p', b')) ∧ fpl T xs w p j ≤ xs.length := by
  intro j
  induction j with
  | zero => intro _; exact ⟨⟨b, by rw [List.drop_zero]; exact h⟩, hpl⟩
  | succ j ih =>
    intro hj
    obtain ⟨⟨b', h1⟩, h2⟩ := ih (by omega)
    rw [subs_get (by omega)] at h1
    obtain ⟨p1, b1, b2, q1, q2, rfl⟩ := seqP_cons h1
    have hb := encP_bd 7 _ _ _ _ h2 q1
    show (∃ b', seqP (encP T xs 7) ((subs T w).drop (j + 1)) (bhP T xs ((fl T w).getD j yF0).2.1 (fpl T xs w p j)) = some (p', b')) ∧ bhP T xs ((fl T w).getD j yF0).2.1 (fpl T xs w p j) ≤ xs.length
    rw [bhP_eq q1]
    exact ⟨⟨b2, q2⟩, hb.2.1⟩
theorem fpl_ok (hpl : p ≤ xs.length) (h : seqP (encP T xs 7) (subs T w) p = some (p', b)) {j : Nat} (hj : j < (fl T w).length) : (∃ b', encP T xs 7 ((fl T w).getD j yF0).2.1 (fpl T xs w p j) = some (fpl T xs w p (j + 1), b')) ∧ fpl T xs w p j ≤ xs.length := by
  obtain ⟨⟨b', h1⟩, h2⟩ := fpl_seq hpl h j (by omega)
  rw [subs_get hj] at h1
  obtain ⟨p1, b1, b2, q1, q2, rfl⟩ := seqP_cons h1
  refine ⟨⟨b1, ?_⟩, h2⟩
  show _ = some (bhP T xs ((fl T w).getD j yF0).2.1 (fpl T xs w p j), b1)
  rw [bhP_eq q1]
  exact q1
end Fpl
section CR
variable {T : yT} {R : Nat → Nat} {xs : List Int64} {fu : Nat}
abbrev A22 : Nat → Prop := fun q => q = 22 ∨ q = 23
def RCx (H : zH) (T : yT) (R : Nat → Nat) (xs o : List Int64) : Prop := SchT H T R ∧ RL H 20 24 xs ∧ RL H 22 40 o
theorem RCx.fr {H H' : zH} {o o' : List Int64} (h : RCx H T R xs o) (hF : Fr H H' A22) (ho : RL H' 22 40 o') : RCx H' T R xs o' := ⟨h.1.fr hF (fun q hq => by unfold A22 at hq; omega), h.2.1.fr hF (by unfold A22; omega) (by unfold A22; omega), ho⟩
theorem RCx.push {H : zH} {o : List Int64} (h : RCx H T R xs o) (hl : o.length ≤ 1000000) {x : Int64} : ∃ H', jF_Row_append (some 22) x H = some H' ∧ RCx H' T R xs (o ++ [x]) ∧ Fr H H' A22 := by
  obtain ⟨H1, e1, e2, e3⟩ := h.2.2.append (x := x) (by omega) (by omega)
  exact ⟨H1, e1, h.fr e3 e2, e3⟩
/-- an answer of the resolver: which numbers it appended -/
def ResR (H : zH) (T : yT) (R : Nat → Nat) (xs o : List Int64) (d : Nat) (e : Option (List Int64)) (res : Option (Int32 × zH)) : Prop := ∃ H' o', res = some (bI e.isSome, H') ∧ RCx H' T R xs (o ++ o') ∧ o'.length ≤ d ∧ (∀ l, e = some l → o' = l) ∧ Fr H H' A22
theorem ResR.no {H : zH} {o : List Int64} {d : Nat} (h : RCx H T R xs o) : ResR H T R xs o d none (some (0, H)) := ⟨H, [], rfl, by rw [List.append_nil]; exact h, Nat.zero_le _, fun l hl => (by cases hl), Fr.rf⟩
theorem ResR.zb {H : zH} {o : List Int64} {d : Nat} {e : Option (List Int64)} {res : Option (Int32 × zH)} (h : ResR H T R xs o d e res) : ResR H T R xs o d e (res.bind fun y => (zbo y.1).bind fun x => some (x, y.2)) := by
  obtain ⟨H1, o1, e1, e2⟩ := h
  refine ⟨H1, o1, ?_, e2⟩
  rw [e1, Option.bind_some]
  dsimp only
  rw [zbo_bI]
  rfl
theorem ResR.up {H : zH} {o : List Int64} {d d' : Nat} {e : Option (List Int64)} {res : Option (Int32 × zH)} (h : ResR H T R xs o d e res) (hd : d ≤ d') : ResR H T R xs o d' e res := by
  obtain ⟨H1, o1, e1, e2, e3, e4, e5⟩ := h
  exact ⟨H1, o1, e1, e2, by omega, e4, e5⟩
theorem ResR.one {H : zH} {o : List Int64} {d : Nat} {x : Int64} (h : RCx H T R xs o) (hl : o.length ≤ 1000000) (hd : 1 ≤ d) : ResR H T R xs o d (some [x]) ((jF_Row_append (some 22) x H).bind fun y => some ((1 : Int32), y)) := by
  obtain ⟨H1, e1, e2, e3⟩ := h.push (x := x) hl
  rw [e1, Option.bind_some]
  exact ⟨H1, [x], rfl, e2, hd, fun l hl => by cases hl; rfl, e3⟩
/-- some numbers before -/
theorem ResR.pre {H H1 : zH} {o a : List Int64} {d d' : Nat} {e : Option (List Int64)} {res : Option (Int32 × zH)} (hF : Fr H H1 A22) (h : ResR H1 T R xs (o ++ a) d e res) (hd : a.length + d ≤ d') : ResR H T R xs o d' (e.map (a ++ ·)) res := by
  obtain ⟨H2, o1, e1, e2, e3, e4, e5⟩ := h
  refine ⟨H2, a ++ o1, ?_, by rw [← List.append_assoc]; exact e2, by rw [List.length_append]; omega, fun l hl => ?_, hF.tr e5⟩
  · rw [e1]
    cases e <;> rfl
  · obtain ⟨t, ht, rfl⟩ := Option.map_eq_some_iff.mp hl
    rw [e4 t ht]
abbrev rc6 : Type := Option Nat → Option Nat → Option Nat → Int32 → Option Nat → zH → Option (Int32 × zH)
def RrcOk (T : yT) (R : Nat → Nat) (xs : List Int64) (ok : Nat → Nat → Prop) (g : Nat → Nat → Nat → Option (List Int64)) (rc : rc6) : Prop := ∀ (w r p p' : Nat) (b : List Nat) (H : zH) (o : List Int64), ok w r → encP T xs 7 w p = some (p', b) → p ≤ xs.length → RCx H T R xs o → o.length + wd (dp T r) ≤ 1000000 → ResR H T R xs o (wd (dp T r)) (g w r p) (rc (some (R w)) (some (R r)) (some 20) (nI p) (some 22) H)
theorem C_dflt (hT : TOk T) {x : Int64} : ∀ (f s : Nat) (H : zH) (o : List Int64), s < T.length → dp T s ≤ f → RCx H T R xs o → o.length + wd (dp T s) ≤ 1000000 → ∃ H', jF_Resolver_appendDefault f (some (R s)) x (some 22) H = some H' ∧ RCx H' T R xs (o ++ dfS T f s x) ∧ (dfS T f s x).length ≤ wd (dp T s) ∧ Fr H H' A22 := by
  intro f
  induction f with
  | zero => intro s H o hs hd; have := (hT.2 s hs).2.1; omega
  | succ f ih =>
    intro s H o hs hd h hl
    obtain ⟨t1, t2, t3, t4, t5, t6, t7, t8⟩ := hT.2 s hs
    have hwp := wd_pos (dp T s)
    rw [jF_Resolver_appendDefault, dfS, h.1.k hs, Option.bind_some, li6, if_eqN (by omega) (by omega)]
    by_cases h6 : kd T s = 6
    · have t7' := t7 h6
      have hws := wd_step (hT.2 (sA T s) (by omega)).2.1 t7'.2.2.1
      rw [if_pos h6, if_pos h6]
      obtain ⟨H1, e1, e2, e3⟩ := h.push (x := 0) (by omega)
      rw [e1, Option.bind_some, e2.1.fi hs (Or.inr h6), Option.bind_some]
      obtain ⟨H2, f1, f2, f3, f4⟩ := ih (sA T s) H1 (o ++ [0]) (by omega) (by omega) e2 (by rw [List.length_append, List.length_singleton]; omega)
      dsimp only
      rw [f1, Option.bind_some]
      refine ⟨H2, rfl, ?_, ?_, e3.tr f4⟩
      · rw [List.append_assoc] at f2
        exact f2
      · rw [List.length_cons]; omega
    · rw [if_neg h6, if_neg h6, Option.bind_some, if_0N (by omega)]
      by_cases h0 : kd T s = 0
      · rw [if_pos h0, if_pos h0]
        exact ⟨H, rfl, by rw [List.append_nil]; exact h, Nat.zero_le _, Fr.rf⟩
      · rw [if_neg h0, if_neg h0]
        obtain ⟨H1, e1, e2, e3⟩ := h.push (x := x) (by omega)
        rw [e1, Option.bind_some]
        exact ⟨H1, rfl, e2, hwp, e3⟩
theorem C_resI {wi ri c : Nat} {rc : rc6} {g : Nat → Nat → Nat → Option (List Int64)} {ok : Nat → Nat → Prop} (hrc : RrcOk T R xs ok g rc) (hT : TOk T) (hxs : xs.length ≤ 24) (hfu : 5 ≤ fu) (hok : ok wi ri) (hwi : wi < T.length) (hc : c ≤ 3) :
    ∀ (m i g' q p' : Nat) (b : List Nat) (H : zH) (o : List Int64), i + m = c → m < g' → seqP (encP T xs 7) (List.replicate m wi) q = some (p', b) → q ≤ xs.length → RCx H T R xs o → o.length + m * wd (dp T ri) ≤ 1000000 → ResR H T R xs o (m * wd (dp T ri)) (itR (g wi ri) (bhP T xs wi) m q) (jL_Resolver_resolveItems_22 fu rc g' (some (R wi)) (some (R ri)) (some 20) (some 22) (lN c) (nI q) (nI i) H) := by
  intro m
  induction m with
  | zero =>
    intro i g' q p' b H o h1 h2 hq hql h hl
    obtain ⟨q', rfl⟩ : ∃ q, g' = q + 1 := ⟨g' - 1, by omega⟩
    rw [jL_Resolver_resolveItems_22, nI_l (by omega), if_pos ((lN_le (by omega) (by omega)).mpr (by omega))]
    exact ⟨H, [], rfl, by rw [List.append_nil]; exact h, Nat.zero_le _, fun l hl => by cases hl; rfl, Fr.rf⟩
  | succ m ih =>
    intro i g' q p' b H o h1 h2 hq hql h hl
    obtain ⟨q', rfl⟩ : ∃ q, g' = q + 1 := ⟨g' - 1, by omega⟩
    rw [List.replicate_succ] at hq
    obtain ⟨p1, b1, b2, q1, q2, rfl⟩ := seqP_cons hq
    have hbd := encP_bd 7 wi q p1 b1 hql q1
    have hmul : (m + 1) * wd (dp T ri) = m * wd (dp T ri) + wd (dp T ri) := by rw [Nat.add_mul, Nat.one_mul]
    rw [hmul] at hl ⊢
    rw [jL_Resolver_resolveItems_22, nI_l (by omega), if_neg (fun hh => by have := (lN_le (by omega) (by omega)).mp hh; omega), if_neg (show ¬ (3 : Int32) ≤ nI i from nI_ge (b := 3) (by omega) (by omega)), nI_1, itR]
    obtain ⟨H1, o1, e1, e2, e3, e4, e5⟩ := hrc wi ri q p1 b1 H o hok q1 hql h (by omega)
    rw [e1, Option.bind_some]
    dsimp only
    rw [if_bI]
    cases hg : g wi ri q with
    | none =>
      rw [if_neg (show ¬ (none : Option (List Int64)).isSome = true by simp)]
      exact ⟨H1, o1, rfl, e2, by omega, fun l hl => (by cases hl), e5⟩
    | some a =>
      have := e4 a hg
      subst this
      have hbh := C_bh (fu := fu) hT hxs e2.1 e2.2.1 hfu 7 wi q p1 b1 ⟨hwi, by have := (hT.2 wi hwi).2.2.1; omega⟩ q1 hql
      dsimp only at hbh
      rw [if_pos (show (some o1).isSome = true from rfl), hbh, Option.bind_some, bhP_eq q1]
      exact ResR.pre e5 (ih (i + 1) q' p1 p' b2 H1 (o ++ o1) (by omega) (by omega) q2 hbd.2.1 e2 (by rw [List.length_append]; omega)) (by omega)
theorem C_resF1 {w r p p' i : Nat} {b : List Nat} {rc : rc6} {g : Nat → Nat → Nat → Option (List Int64)} {ok : Nat → Nat → Prop} (hrc : RrcOk T R xs ok g rc) (hT : TOk T) (hxs : xs.length ≤ 24) (hfu : 5 ≤ fu) (hw : w < T.length) (hr : r < T.length) (hi : i < (fl T r).length) (hok : ∀ j, j < (fl T w).length → ok ((fl T w).getD j yF0).2.1 ((fl T r).getD i yF0).2.1)
    (hpl : p ≤ xs.length) (hq : seqP (encP T xs 7) (subs T w) p = some (p', b)) {H : zH} {o : List Int64} {ad : Nat} (f2 : zgI H (some ad) 4 0 = some ((fl T r).getD i yF0).1) (f3 : zgR H (some ad) 4 1 = some (some (R ((fl T r).getD i yF0).2.1))) (f4 : zgI H (some ad) 4 2 = some (bI ((fl T r).getD i yF0).2.2.1)) (f5 : zgL H (some ad) 4 3 = some ((fl T r).getD i yF0).2.2.2) (had : 46 ≤ ad) (h : RCx H T R xs o) (hl : o.length + wd (dp T ((fl T r).getD i yF0).2.1) ≤ 1000000) (f4' : ∀ H' : zH, Fr H H' A22 → zgI H' (some ad) 4 2 = some (bI ((fl T r).getD i yF0).2.2.1)) :
    ∀ (m j g' : Nat), j + m = (fl T w).length → m < g' → fOf (fl T w) ((fl T r).getD i yF0).1 (fl T w).length 0 = fOf (fl T w) ((fl T r).getD i yF0).1 m j → ResR H T R xs o (wd (dp T ((fl T r).getD i yF0).2.1)) (fdR T xs g w r p i) (jL_Resolver_resolveField_6 fu rc g' (some (R w)) (some ad) (some 20) (some 22) (nI (fpl T xs w p j)) (nI j) H) := by
  obtain ⟨t1, t2, t3, t4, t5, t6, t7, t8⟩ := hT.2 w hw
  obtain ⟨u1, u2, u3, u4, u5, u6, u7, u8⟩ := hT.2 r hr
  obtain ⟨fa, gg, e1, e2, e3, e4⟩ := h.1.fs hw
  have u8' := u8 i hi
  intro m
  induction m with
  | zero =>
    intro j g' h1 h2 hf
    obtain ⟨q', rfl⟩ : ∃ q, g' = q + 1 := ⟨g' - 1, by omega⟩
    rw [fOf] at hf
    rw [jL_Resolver_resolveField_6, e1, Option.bind_some, e2, Option.bind_some, if_pos (nI_le (by omega) (by omega)), f4, Option.bind_some, if_bI]
    unfold fdR jJ_Resolver_resolveField_94
    rw [hf]
    dsimp only
    cases hd : ((fl T r).getD i yF0).2.2.1 with
    | false =>
      rw [if_neg Bool.false_ne_true, if_neg Bool.false_ne_true, f4, hd, Option.bind_some, zbo_bI, Option.bind_some]
      exact ResR.no h
    | true =>
      rw [if_pos rfl, if_pos rfl, f3, Option.bind_some, f5, Option.bind_some]
      obtain ⟨H1, k1, k2, k3, k4⟩ := C_dflt (x := ((fl T r).getD i yF0).2.2.2) hT 7 _ H o (show ((fl T r).getD i yF0).2.1 < T.length by omega) (by omega) h hl
      rw [k1, Option.bind_some, f4' H1 k4, hd, Option.bind_some, zbo_bI, Option.bind_some]
      exact ⟨H1, _, rfl, k2, k3, fun l hl => (by cases hl; rfl), k4⟩
  | succ m ih =>
    intro j g' h1 h2 hf
    obtain ⟨q', rfl⟩ : ∃ q, g' = q + 1 := ⟨g' - 1, by omega⟩
    have hj : j < (fl T w).length := by omega
    obtain ⟨aw, g1, g2, g3, g4, g5⟩ := e4.at e3 t4 hj
    obtain ⟨⟨b', hv⟩, hvl⟩ := fpl_ok hpl hq hj
    have t8' := t8 j hj
    rw [jL_Resolver_resolveField_6, e1, Option.bind_some, e2, Option.bind_some, if_neg (nI_ge (by omega) (by omega)), Option.bind_some, g1, Option.bind_some, g2, Option.bind_some, f2, Option.bind_some, nI_1]
    rw [fOf] at hf
    by_cases hn : ((fl T w).getD j yF0).1 = ((fl T r).getD i yF0).1
    · rw [if_pos hn] at hf
      rw [if_pos hn, g3, Option.bind_some, f3, Option.bind_some]
      unfold fdR
      rw [hf]
      exact ResR.zb (hrc _ _ _ _ b' H o (hok j hj) hv hvl h hl)
    · rw [if_neg hn] at hf
      have hbh := C_bh (fu := fu) hT hxs h.1 h.2.1 hfu 7 _ _ _ b' ⟨show ((fl T w).getD j yF0).2.1 < T.length by omega, by omega⟩ hv hvl
      dsimp only at hbh
      rw [if_neg hn, g3, Option.bind_some, hbh, Option.bind_some]
      exact ih (j + 1) q' (by omega) (by omega) hf
theorem C_resF {w r p p' : Nat} {b : List Nat} {rc : rc6} {g : Nat → Nat → Nat → Option (List Int64)} {ok : Nat → Nat → Prop} (hrc : RrcOk T R xs ok g rc) (hT : TOk T) (hxs : xs.length ≤ 24) (hfu : 5 ≤ fu) (hw : w < T.length) (hr : r < T.length) (hok : ∀ i j, i < (fl T r).length → j < (fl T w).length → ok ((fl T w).getD j yF0).2.1 ((fl T r).getD i yF0).2.1)
    (hpl : p ≤ xs.length) (hq : seqP (encP T xs 7) (subs T w) p = some (p', b)) {d : Nat} (hd : ∀ i, i < (fl T r).length → wd (dp T ((fl T r).getD i yF0).2.1) ≤ d) :
    ∀ (m i g' : Nat) (H : zH) (o : List Int64), i + m = (fl T r).length → m < g' → RCx H T R xs o → o.length + m * d ≤ 1000000 → ResR H T R xs o (m * d) (flR (fdR T xs g w r p) m i) (jL_Resolver_resolveFields_16 fu rc g' (some (R w)) (some (R r)) (some 20) (nI p) (some 22) (nI i) H) := by
  obtain ⟨u1, u2, u3, u4, u5, u6, u7, u8⟩ := hT.2 r hr
  obtain ⟨t1, t2, t3, t4, t5, t6, t7, t8⟩ := hT.2 w hw
  intro m
  induction m with
  | zero =>
    intro i g' H o h1 h2 h hl
    obtain ⟨q', rfl⟩ : ∃ q, g' = q + 1 := ⟨g' - 1, by omega⟩
    obtain ⟨fa, gg, e1, e2, e3, e4⟩ := h.1.fs hr
    rw [jL_Resolver_resolveFields_16, e1, Option.bind_some, e2, Option.bind_some, if_pos (nI_le (by omega) (by omega))]
    exact ⟨H, [], rfl, by rw [List.append_nil]; exact h, Nat.zero_le _, fun l hl => by cases hl; rfl, Fr.rf⟩
  | succ m ih =>
    intro i g' H o h1 h2 h hl
    obtain ⟨q', rfl⟩ : ∃ q, g' = q + 1 := ⟨g' - 1, by omega⟩
    obtain ⟨fa, gg, e1, e2, e3, e4⟩ := h.1.fs hr
    have hi : i < (fl T r).length := by omega
    obtain ⟨ad, p1, p2, p3⟩ := e4 i hi
    have hdi := hd i hi
    have hmul : (m + 1) * d = m * d + d := by rw [Nat.add_mul, Nat.one_mul]
    rw [hmul] at hl ⊢
    have fA : ∀ H' : zH, Fr H H' A22 → FieldAt H' R ((fl T r).getD i yF0) ad := fun H' hF => hF.2 _ _ p3 (by unfold A22; omega)
    have key := C_resF1 (fu := fu) (p' := p') (b := b) hrc hT hxs hfu hw hr hi (fun j hj => hok i j hi hj) hpl hq (qgI p3 rfl) (qgR p3 rfl) (qgI p3 rfl) (qgL p3 rfl) p1 h (by omega) (fun H' hF => qgI (fA H' hF) rfl) (fl T w).length 0 fu (by omega) (by omega) rfl
    rw [nI_0] at key
    rw [jL_Resolver_resolveFields_16, e1, Option.bind_some, e2, Option.bind_some, if_neg (nI_ge (by omega) (by omega)), Option.bind_some, qaR e3 hi (by omega), Option.bind_some, p2, nI_1, flR]
    unfold jF_Resolver_resolveField
    obtain ⟨H1, o1, k1, k2, k3, k4, k5⟩ := key
    have k1' : jL_Resolver_resolveField_6 fu rc fu (some (R w)) (some ad) (some 20) (some 22) (nI p) 0 H = _ := k1
    rw [k1', Option.bind_some]
    dsimp only
    rw [if_bI]
    cases hg : fdR T xs g w r p i with
    | none =>
      rw [if_neg (show ¬ (none : Option (List Int64)).isSome = true by simp)]
      exact ⟨H1, o1, rfl, k2, by omega, fun l hl => (by cases hl), k5⟩
    | some a =>
      have := k4 a hg
      subst this
      rw [if_pos (show (some o1).isSome = true from rfl)]
      exact ResR.pre k5 (ih (i + 1) q' H1 (o ++ o1) (by omega) (by omega) k2 (by rw [List.length_append]; omega)) (by omega)
theorem C_res (hT : TOk T) (hxs : xs.length ≤ 24) (hfu : 5 ≤ fu) : ∀ f : Nat, RrcOk T R xs (fun w r => w < T.length ∧ r < T.length ∧ dp T w + dp T r ≤ f) (resP T xs f) (fun x0 x1 x2 x3 x4 x5 => jF_Resolver_resolve fu f x0 x1 x2 x3 x4 x5) := by
  intro f
  induction f with
  | zero => intro w r p p' b H o hok; have := (hT.2 w hok.1).2.1; omega
  | succ f ih =>
    intro w r p p' b H o hok henc hpl h hl
    obtain ⟨hw, hr, hd⟩ := hok
    obtain ⟨t1, t2, t3, t4, t5, t6, t7, t8⟩ := hT.2 w hw
    obtain ⟨u1, u2, u3, u4, u5, u6, u7, u8⟩ := hT.2 r hr
    have hinv := encP_inv7 hT hw henc
    have hwp := wd_pos (dp T r)
    dsimp only
    rw [jF_Resolver_resolve, resP, h.1.k hw, Option.bind_some, h.1.k hr, Option.bind_some, li6, if_eqN (by omega) (by omega), if_eqN (by omega) (by omega)]
    by_cases w6 : kd T w = 6
    · have t7' := t7 w6
      obtain ⟨hpx, b', k⟩ : p < xs.length ∧ ∃ b', encP T xs 7 (if xs.getD p 0 = 0 then sA T w else sB T w) (p + 1) = some (p', b') := by
        rcases hinv with q | q | q | q | q
        · omega
        · omega
        · omega
        · exact ⟨q.2.1, q.2.2.2.choose, q.2.2.2.choose_spec.1⟩
        · omega
      rw [if_pos w6, if_pos w6, h.2.1.at (by omega) (by omega) (by omega), Option.bind_some, C_branch h.1 hw w6, Option.bind_some, nI_1]
      dsimp only
      apply ResR.zb
      exact ih _ r (p + 1) p' b' H o ⟨by split <;> omega, hr, by split <;> omega⟩ k (by omega) h hl
    · rw [if_neg w6, if_neg w6]
      by_cases r6 : kd T r = 6
      · have u7' := u7 r6
        rw [if_pos r6, if_pos r6]
        unfold jF_Resolver_resolveIntoUnion
        apply ResR.zb
        rw [C_branchOf h.1 hT hr hw r6, Option.bind_some]
        cases hb : brS T 7 r w with
        | none => exact ResR.no h
        | some bb =>
          have hb2 : bb = 0 ∨ bb = 1 := by
            unfold brS at hb
            split at hb
            · cases hb; exact Or.inl rfl
            · split at hb
              · cases hb; exact Or.inr rfl
              · cases hb
          have hne : ¬ limI (some bb) = -1 := by rcases hb2 with rfl | rfl <;> decide
          have hx : (if (limI (some bb)).toInt64 = 0 then sA T r else sB T r) = brT T r bb := by
            rcases hb2 with rfl | rfl <;> rfl
          have hxl : (limI (some bb)).toInt64 = lN bb := nI_l (by omega)
          have hlt : brT T r bb < T.length ∧ dp T (brT T r bb) < dp T r := by
            unfold brT
            split
            · exact ⟨by omega, by omega⟩
            · exact ⟨by omega, by omega⟩
          have hws := wd_step (hT.2 _ hlt.1).2.1 hlt.2
          obtain ⟨H1, e1, e2, e3⟩ := h.push (x := lN bb) (by omega)
          have hx' : (if lN bb = 0 then sA T r else sB T r) = brT T r bb := by
            rcases hb2 with rfl | rfl <;> rfl
          rw [if_neg hne, hxl, e1, Option.bind_some, C_branch e2.1 hr r6, hx', Option.bind_some]
          have := ih w (brT T r bb) p p' b H1 (o ++ [lN bb]) ⟨hw, hlt.1, by omega⟩ henc hpl e2 (by rw [List.length_append, List.length_singleton]; omega)
          dsimp only at this ⊢
          exact ResR.pre e3 (ResR.zb this) (by rw [List.length_singleton]; omega)
      · rw [if_neg r6, if_neg r6, C_fit h.1 hT hw hr, Option.bind_some, if_bI]
        cases hfit : fitK (kd T w) (kd T r) with
        | false => exact ResR.no h
        | true =>
          have hf2 : kd T w = kd T r ∨ kd T w = 2 ∧ kd T r = 3 := by unfold fitK at hfit; exact of_decide_eq_true hfit
          rw [if_pos rfl, if_pos rfl, Option.bind_some, if_0N (by omega), li4, li5, li7, if_eqN (by omega) (by omega), if_eqN (by omega) (by omega), if_eqN (by omega) (by omega)]
          by_cases r0 : kd T r = 0
          · rw [if_pos r0, if_pos r0]
            exact ⟨H, [], rfl, by rw [List.append_nil]; exact h, Nat.zero_le _, fun l hl => (by cases hl; rfl), Fr.rf⟩
          · rw [if_neg r0, if_neg r0]
            have hpx : kd T r ≠ 7 → p < xs.length := by
              intro r7
              rcases hinv with q | q | q | q | q
              · omega
              · omega
              · exact q.2.1
              · omega
              · exact q.2.2.1
            by_cases r4 : kd T r = 4
            · have hw4 : kd T w = 4 := by omega
              have hpx' := hpx (by omega)
              rw [if_pos r4, if_pos r4, h.2.1.at (by omega) (by omega) (by omega), Option.bind_some]
              apply ResR.zb
              unfold jF_Resolver_resolveSymbol jJ_Resolver_resolveSymbol_33 jJ_Resolver_resolveSymbol_49
              rw [C_hasSymbol h.1 hr r4, Option.bind_some, h.1.n hw (Or.inl hw4), Option.bind_some, h.1.n hr (Or.inl r4), Option.bind_some]
              by_cases hn : nm T w = nm T r
              · rw [if_pos hn, if_pos hn, if_bI]
                cases hsy : hasSy (pA T r) (xs.getD p 0) with
                | true =>
                  rw [if_pos rfl, if_pos rfl, if_neg (show ¬ bI true = 0 by decide)]
                  exact ResR.one h (by omega) hwp
                | false =>
                  rw [if_neg Bool.false_ne_true, if_neg Bool.false_ne_true, h.1.ot hr r4, Option.bind_some]
                  by_cases hm1 : pB T r = -1
                  · rw [if_pos hm1, if_pos hm1]
                    exact ResR.no h
                  · rw [if_neg hm1, if_neg hm1, if_pos (show bI false = 0 from rfl), Option.bind_some]
                    exact ResR.one h (by omega) hwp
              · rw [if_neg hn, if_neg hn]
                exact ResR.no h
            · rw [if_neg r4, if_neg r4]
              by_cases r5 : kd T r = 5
              · have hw5 : kd T w = 5 := by omega
                have t6' := t6 hw5
                have u6' := u6 r5
                have hpx' := hpx (by omega)
                obtain ⟨c, b', hc, hx, k⟩ : ∃ c b', c ≤ 3 ∧ xs.getD p 0 = lN c ∧ seqP (encP T xs 7) (List.replicate c (sA T w)) (p + 1) = some (p', b') := by
                  rcases hinv with q | q | ⟨-, -, c, b', q1, q2, q3, -⟩ | q | q
                  · omega
                  · omega
                  · exact ⟨c, b', q1, q2, q3⟩
                  · omega
                  · omega
                have hws := wd_step (hT.2 _ (show sA T r < T.length by omega)).2.1 u6'.2
                have hmul : c * wd (dp T (sA T r)) ≤ 3 * wd (dp T (sA T r)) := Nat.mul_le_mul_right _ hc
                rw [if_pos r5, if_pos r5, h.1.fi hw (Or.inl hw5), Option.bind_some, h.1.fi hr (Or.inl r5), Option.bind_some]
                apply ResR.zb
                unfold jF_Resolver_resolveItems
                obtain ⟨H1, e1, e2, e3⟩ := h.push (x := xs.getD p 0) (by omega)
                rw [h.2.1.at (by omega) (by omega) (by omega), Option.bind_some, e1, Option.bind_some, hx, lN_i, nI_clamp (by omega), nI_1]
                have key := C_resI (fu := fu) (c := c) (wi := sA T w) (ri := sA T r) ih hT hxs hfu ⟨by omega, by omega, by omega⟩ (by omega) hc c 0 fu (p + 1) p' b' H1 (o ++ [xs.getD p 0]) (by omega) (by omega) k (by omega) e2 (by rw [List.length_append, List.length_singleton]; omega)
                rw [nI_0, hx] at key
                exact ResR.pre e3 key (by rw [List.length_singleton]; omega)
              · rw [if_neg r5, if_neg r5]
                by_cases r7 : kd T r = 7
                · have hw7 : kd T w = 7 := by omega
                  have k : seqP (encP T xs 7) (subs T w) p = some (p', b) := by
                    rcases hinv with q | q | q | q | q
                    · omega
                    · exact q.2
                    · omega
                    · omega
                    · omega
                  rw [if_pos r7, if_pos r7]
                  apply ResR.zb
                  unfold jF_Resolver_resolveFields
                  rw [h.1.n hw (Or.inr hw7), Option.bind_some, h.1.n hr (Or.inr r7), Option.bind_some]
                  by_cases hn : nm T w = nm T r
                  · rw [if_pos hn, if_pos hn]
                    by_cases hlen : (fl T r).length = 0
                    · have key := C_resF (fu := fu) (p' := p') (b := b) (w := w) (r := r) (p := p) (d := 0) ih hT hxs hfu hw hr (fun i j hi => by omega) hpl k (fun i hi => by omega) (fl T r).length 0 fu H o (by omega) (by omega) h (by omega)
                      rw [nI_0] at key
                      exact key.up (by omega)
                    · have u80 := u8 0 (by omega)
                      have h1d := (hT.2 _ (show ((fl T r).getD 0 yF0).2.1 < T.length by omega)).2.1
                      have hws := wd_step (a := dp T r - 1) (d := dp T r) (by omega) (by omega)
                      have hmul : (fl T r).length * wd (dp T r - 1) ≤ 3 * wd (dp T r - 1) := Nat.mul_le_mul_right _ u4
                      have key := C_resF (fu := fu) (p' := p') (b := b) (w := w) (r := r) (p := p) (d := wd (dp T r - 1)) ih hT hxs hfu hw hr (fun i j hi hj => by
                        have h1 := u8 i hi
                        have h2 := t8 j hj
                        exact ⟨by omega, by omega, by omega⟩) hpl k (fun i hi => by have := u8 i hi; exact wd_mono _ _ (by omega)) (fl T r).length 0 fu H o (by omega) (by omega) h (by omega)
                      rw [nI_0] at key
                      exact key.up (by omega)
                  · rw [if_neg hn, if_neg hn]
                    exact ResR.no h
                · have hpx' := hpx r7
                  rw [if_neg r7, if_neg r7, h.2.1.at (by omega) (by omega) (by omega), Option.bind_some]
                  exact ResR.one h (by omega) hwp
end CR
