/-! New cells; the class's field. -/
section New
variable {H : zH} {x y : zC} {q : Nat}
theorem znw_old (h : zgo H (some q) = some y) : zgo (znw H x) (some q) = some y := by
  have hk := zgo_lt h
  have he := zgo_eq h
  rw [zgo_of (H := znw H x) (show 1 ≤ q ∧ q < H.2 + 1 by omega)]
  show some (va_up H.1 H.2 x q) = some y
  rw [zup_ne (by omega), he]
theorem znw_new (h : 1 ≤ H.2) : zgo (znw H x) (some H.2) = some x := by
  rw [zgo_of (H := znw H x) (show 1 ≤ H.2 ∧ H.2 < H.2 + 1 by omega)]
  show some (va_up H.1 H.2 x H.2) = some x
  rw [zup_same]
theorem Fr.new {A : Nat → Prop} : Fr H (znw H x) A := ⟨Nat.le_succ _, fun _ _ h _ => znw_old h⟩
/-- what was not known, or may change: a new cell's number -/
theorem Fr.fresh {H' H'' : zH} {A : Nat → Prop} (h : Fr H H' A) (h' : Fr H' H'' (fun q => A q ∨ H.2 ≤ q)) : Fr H H'' A := ⟨Nat.le_trans h.1 h'.1, fun q x hq hA => h'.2 q x (h.2 q x hq hA) (fun hh => by
  rcases hh with hh | hh
  · exact hA hh
  · have := (zgo_lt hq).2
    omega)⟩
end New
abbrev nmOk (n : Int32) : Prop := ¬ n < 0 ∧ ¬ 7 < n
theorem C_isName {n : Int32} {H : zH} : jF_Schema_isName n.toInt64 H = some (bI (decide (nmOk n))) := by
  unfold jF_Schema_isName
  have e1 : (n.toInt64 < 0) ↔ n < 0 := by rw [Int64.lt_iff_toInt_lt, Int32.toInt_toInt64, Int32.lt_iff_toInt_lt]; rfl
  have e2 : (8 ≤ n.toInt64) ↔ 7 < n := by
    rw [Int64.le_iff_toInt_le, Int32.toInt_toInt64, Int32.lt_iff_toInt_lt]
    show (8 : Int) ≤ n.toInt ↔ (7 : Int) < n.toInt
    omega
  by_cases h1 : n < 0
  · rw [if_pos (e1.mpr h1), decide_eq_false (fun q => q.1 h1)]; rfl
  · rw [if_neg (fun q => h1 (e1.mp q))]
    by_cases h2 : 7 < n
    · rw [if_pos (e2.mpr h2), decide_eq_false (fun q => q.2 h2)]; rfl
    · rw [if_neg (fun q => h2 (e2.mp q)), decide_eq_true ⟨h1, h2⟩]; rfl
/-- a number of a schema that is there -/
def scOf (T : yT) (s : Int32) : Option Nat := if s < 0 then none else if s.toNatClampNeg < T.length then some s.toNatClampNeg else none
theorem scOf_some {T : yT} {s : Int32} {n : Nat} (h : scOf T s = some n) : n < T.length ∧ s = nI n := by
  unfold scOf at h
  split at h
  · cases h
  · next h0 =>
    split at h
    · next h1 =>
      cases h
      obtain ⟨k, hk, rfl⟩ := nI_of h0
      rw [nI_clamp hk] at h1 ⊢
      exact ⟨h1, rfl⟩
    · cases h
section CF
variable {H : zH} {T : yT} {P : List yF} {R : Nat → Nat} {fu : Nat}
theorem SchemasAt.tab (h : SchemasAt H T P R) : SchT H T R := by
  obtain ⟨kn, pd, e1, e2, e3, e4, e5⟩ := h
  exact fun s hs => (e4 s hs).2
theorem C_find (h : SchemasAt H T P R) (hT : T.length ≤ 24) {s : Int32} : jF_Schemas_find (some 4) s H = some ((scOf T s).map R) := by
  obtain ⟨kn, pd, e1, e2, e3, e4, e5⟩ := h
  unfold jF_Schemas_find scOf
  rw [qok e1, Option.bind_some]
  by_cases h0 : s < 0
  · rw [if_pos h0, if_pos h0]; rfl
  · rw [if_neg h0, if_neg h0]
    obtain ⟨n, hn, rfl⟩ := nI_of h0
    rw [qgI e1 rfl, Option.bind_some, if_leN (by omega) hn, nI_clamp hn]
    by_cases h1 : n < T.length
    · rw [if_neg (by omega), if_pos h1, qgR e1 rfl, Option.bind_some, qaR e2 (by omega) (by omega), Option.bind_some, (e4 n h1).1]; rfl
    · rw [if_pos (by omega), if_neg h1]; rfl
theorem C_pendL {kn pd : Nat → Option Nat} (e1 : zgo H (some 4) = some (.inr (9, [zR (some 5), zR (some 6), zI (nI T.length), zI (nI P.length)]))) (e3 : zgo H (some 6) = some (.inl (4, 3, .inr (.inr pd)))) (e5 : FieldsAt H R P pd) (hP : P.length ≤ 3) {n : Int32} : ∀ (k i g : Nat), i + k = P.length → k < g → jL_Schemas_isPending_2 fu H g (some 4) n (nI i) = some (bI (fOf P n k i).isSome) := by
  intro k
  induction k with
  | zero =>
    intro i g h1 h2
    obtain ⟨g', rfl⟩ : ∃ q, g = q + 1 := ⟨g - 1, by omega⟩
    rw [jL_Schemas_isPending_2, qgI e1 rfl, Option.bind_some, if_pos (nI_le (by omega) (by omega))]; rfl
  | succ k ih =>
    intro i g h1 h2
    obtain ⟨g', rfl⟩ : ∃ q, g = q + 1 := ⟨g - 1, by omega⟩
    obtain ⟨q, p1, p2, p3⟩ := e5 i (by omega)
    rw [jL_Schemas_isPending_2, qgI e1 rfl, Option.bind_some, if_neg (nI_ge (by omega) (by omega)), qgR e1 rfl, Option.bind_some, qaR e3 (by omega) (by omega), Option.bind_some, p2, qgI p3 rfl, Option.bind_some, nI_1, fOf]
    by_cases hn : (P.getD i yF0).1 = n
    · rw [if_pos hn, if_pos hn]; rfl
    · rw [if_neg hn, if_neg hn]
      exact ih (i + 1) g' (by omega) (by omega)
/-- whether a field is taken -/
def fldOk (T : yT) (P : List yF) (n s : Int32) (has : Bool) (val : Int64) : Prop := P.length ≠ 3 ∧ nmOk n ∧ fOf P n P.length 0 = none ∧ ∃ k, scOf T s = some k ∧ (has = true → isDf T 7 k val = true)
theorem FieldsAt.snoc {H' : zH} {l : List yF} {g : Nat → Option Nat} {x : yF} {k : Nat} {A : Nat → Prop} (h : FieldsAt H R l g) (hF : Fr H H' A) (hA : ∀ q, A q → q < 46) (hk : 46 ≤ k) (hx : FieldAt H' R x k) : FieldsAt H' R (l ++ [x]) (va_up g l.length (some k)) := by
  intro i hi
  rw [List.length_append, List.length_singleton] at hi
  rw [getD_snoc _ _ _ _ hi]
  unfold va_up
  by_cases he : i = l.length
  · rw [if_pos he, if_pos he]
    exact ⟨k, hk, rfl, hx⟩
  · rw [if_neg he, if_neg he]
    obtain ⟨q, p1, p2, p3⟩ := h i (by omega)
    exact ⟨q, p1, p2, hF.2 _ _ p3 (fun qq => by have := hA _ qq; omega)⟩
theorem C_addNew (h : SchemasAt H T P R) (hP : P.length < 3) (h46 : 46 ≤ H.2) {n : Int32} {k : Nat} {has : Bool} {val : Int64} :
    ∃ H', jJ_Schemas_addField_45 fu (some 4) n (some (R k)) (bI has) val H = some (nI (P.length + 1), H') ∧ SchemasAt H' T (P ++ [(n, k, has, val)]) R ∧ Fr H H' (A2 4 6) := by
  obtain ⟨kn, pd, e1, e2, e3, e4, e5⟩ := h
  have hzb : bI has = 0 ∨ bI has = 1 := by cases has; exact Or.inl rfl; exact Or.inr rfl
  unfold jJ_Schemas_addField_45 jF_Field_init zno
  simp only [qgR (j := 1) e1 rfl, qgI (j := 3) e1 rfl, Option.bind_some]
  have c0 : zgo (znw H (.inr (4, [zI 0, zR none, zI 0, zL 0]))) (some H.2) = some (.inr (4, [zI 0, zR none, zI 0, zL 0])) := znw_new (by omega)
  generalize hH0 : znw H (.inr (4, [zI 0, zR none, zI 0, zL 0])) = H0 at c0 ⊢
  have F0 : Fr H H0 (A2 4 6) := by rw [← hH0]; exact Fr.new
  rw [qpV c0 (by simp), Option.bind_some]
  have c1 := zgo_set_same (x := .inr (4, [zI n, zR none, zI 0, zL 0])) c0
  rw [show (([zI 0, zR none, zI 0, zL 0] : List zV).set 0 (zI n)) = [zI n, zR none, zI 0, zL 0] from rfl, qpV c1 (by simp), Option.bind_some]
  have c2 := zgo_set_same (x := .inr (4, [zI n, zR (some (R k)), zI 0, zL 0])) c1
  rw [show (([zI n, zR none, zI 0, zL 0] : List zV).set 1 (zR (some (R k)))) = [zI n, zR (some (R k)), zI 0, zL 0] from rfl, qpZ hzb c2 (by simp), Option.bind_some]
  have c3 := zgo_set_same (x := .inr (4, [zI n, zR (some (R k)), zI (bI has), zL 0])) c2
  rw [show (([zI n, zR (some (R k)), zI 0, zL 0] : List zV).set 2 (zI (bI has))) = [zI n, zR (some (R k)), zI (bI has), zL 0] from rfl, qpV c3 (by simp), Option.bind_some]
  have c4 := zgo_set_same (x := .inr (4, [zI n, zR (some (R k)), zI (bI has), zL val])) c3
  rw [show (([zI n, zR (some (R k)), zI (bI has), zL 0] : List zV).set 3 (zL val)) = [zI n, zR (some (R k)), zI (bI has), zL val] from rfl]
  generalize hH4 : zset (zset (zset (zset H0 H.2 (.inr (4, [zI n, zR none, zI 0, zL 0]))) H.2 (.inr (4, [zI n, zR (some (R k)), zI 0, zL 0]))) H.2 (.inr (4, [zI n, zR (some (R k)), zI (bI has), zL 0]))) H.2 (.inr (4, [zI n, zR (some (R k)), zI (bI has), zL val])) = H4 at c4 ⊢
  have F4 : Fr H H4 (A2 4 6) := by
    refine F0.fresh ?_
    rw [← hH4]
    exact (((Fr.set (Or.inr (Nat.le_refl _))).tr (Fr.set (Or.inr (Nat.le_refl _)))).tr (Fr.set (Or.inr (Nat.le_refl _)))).tr (Fr.set (Or.inr (Nat.le_refl _)))
  have F4' : Fr H H4 (fun _ => False) := by
    refine (show Fr H H0 (fun _ => False) by rw [← hH0]; exact Fr.new).fresh ?_
    rw [← hH4]
    exact (((Fr.set (Or.inr (Nat.le_refl _))).tr (Fr.set (Or.inr (Nat.le_refl _)))).tr (Fr.set (Or.inr (Nat.le_refl _)))).tr (Fr.set (Or.inr (Nat.le_refl _)))
  have e3' := F4'.2 _ _ e3 (fun q => q)
  have e1' := F4'.2 _ _ e1 (fun q => q)
  have e2' := F4'.2 _ _ e2 (fun q => q)
  rw [Option.bind_some, qsR e3' c4 (by omega) (by omega), Option.bind_some]
  have e1'' : zgo (zset H4 6 (.inl (4, 3, .inr (.inr (va_up pd P.length (some H.2)))))) (some 4) = some (.inr (9, [zR (some 5), zR (some 6), zI (nI T.length), zI (nI P.length)])) := by rw [zgo_set_ne (by decide)]; exact e1'
  rw [qgI e1'' rfl, Option.bind_some, qpV e1'' (by simp), Option.bind_some, nI_1]
  have e9 := zgo_set_same (x := .inr (9, [zR (some 5), zR (some 6), zI (nI T.length), zI (nI (P.length + 1))])) e1''
  rw [show (([zR (some 5), zR (some 6), zI (nI T.length), zI (nI P.length)] : List zV).set 3 (zI (nI (P.length + 1)))) = [zR (some 5), zR (some 6), zI (nI T.length), zI (nI (P.length + 1))] from rfl, qgI e9 rfl, Option.bind_some]
  have F5 : Fr H4 (zset (zset H4 6 (.inl (4, 3, .inr (.inr (va_up pd P.length (some H.2)))))) 4 (.inr (9, [zR (some 5), zR (some 6), zI (nI T.length), zI (nI (P.length + 1))]))) (A2 4 6) := (Fr.set (Or.inr rfl)).tr (Fr.set (Or.inl rfl))
  have F6 := F4.tr F5
  have hA : ∀ q, A2 4 6 q → q < 46 := fun q hq => by unfold A2 at hq; omega
  refine ⟨_, rfl, ⟨kn, va_up pd P.length (some H.2), ?_, ?_, ?_, ?_, ?_⟩, F6⟩
  · rw [List.length_append, e9]; rfl
  · exact F5.2 _ _ e2' (by unfold A2; omega)
  · rw [zgo_set_ne (by decide), zgo_set_same e3']
  · exact fun s hs => ⟨(e4 s hs).1, (e4 s hs).2.fr F6 hA⟩
  · exact e5.snoc F6 hA h46 (F5.2 _ _ c4 (by unfold A2; omega))
theorem C_addField (h : SchemasAt H T P R) (hT : TOk T) (hP : P.length ≤ 3) (h46 : 46 ≤ H.2) (hfu : 5 ≤ fu) {n s : Int32} {has : Bool} {val : Int64} :
    (fldOk T P n s has val → ∃ k H', scOf T s = some k ∧ jF_Schemas_addField fu (some 4) n ((scOf T s).map R) (bI has) val H = some (nI (P.length + 1), H') ∧ SchemasAt H' T (P ++ [(n, k, has, val)]) R ∧ Fr H H' (A2 4 6)) ∧
    (¬ fldOk T P n s has val → jF_Schemas_addField fu (some 4) n ((scOf T s).map R) (bI has) val H = some (-1, H)) := by
  have hS := h.tab
  have h' := h
  obtain ⟨kn, pd, e1, e2, e3, e4, e5⟩ := h'
  have hpn : jF_Schemas_isPending fu (some 4) n H = some (bI (fOf P n P.length 0).isSome) := by
    unfold jF_Schemas_isPending
    rw [qok e1, Option.bind_some]
    exact C_pendL (kn := kn) e1 e3 e5 hP _ 0 fu (by omega) (by omega)
  unfold jF_Schemas_addField
  simp only [qok e1, qgI (j := 3) e1 rfl, Option.bind_some, C_isName, hpn]
  rw [li3, if_eqN (by omega) (by omega), if_bI, if_bI]
  by_cases c1 : P.length = 3
  · rw [if_pos c1]
    exact ⟨fun q => absurd c1 q.1, fun _ => rfl⟩
  · rw [if_neg c1]
    by_cases c2 : nmOk n
    · rw [if_pos (decide_eq_true c2)]
      cases c3 : fOf P n P.length 0 with
      | some j =>
        rw [if_pos (show (some j).isSome = true from rfl)]
        exact ⟨fun q => (by have := q.2.2.1; rw [c3] at this; cases this), fun _ => rfl⟩
      | none =>
        rw [if_neg (show ¬ (none : Option Nat).isSome = true from Bool.false_ne_true)]
        cases c4 : scOf T s with
        | none =>
          rw [if_pos (show (none : Option Nat).map R = none from rfl)]
          exact ⟨fun q => (by obtain ⟨k, q1, -⟩ := q.2.2.2; rw [c4] at q1; cases q1), fun _ => rfl⟩
        | some k =>
          obtain ⟨hk, rfl⟩ := scOf_some c4
          rw [if_neg (show ¬ (some k).map R = none by simp), if_bI]
          have hnew := C_addNew (fu := fu) h (by omega) h46 (n := n) (k := k) (has := has) (val := val)
          obtain ⟨H', g1, g2, g3⟩ := hnew
          cases has with
          | false =>
            rw [if_neg Bool.false_ne_true]
            exact ⟨fun _ => ⟨k, H', rfl, g1, g2, g3⟩, fun q => absurd ⟨c1, c2, c3, k, c4, fun hh => by cases hh⟩ q⟩
          | true =>
            rw [if_pos rfl]
            have hdd := (hT.2 k hk).2.2.1
            rw [show (some k).map R = some (R k) from rfl, C_isDefault hS hT 7 k hk (by omega), Option.bind_some, if_bI]
            cases c5 : isDf T 7 k val with
            | false =>
              rw [if_neg Bool.false_ne_true]
              exact ⟨fun q => (by obtain ⟨k', q1, q2⟩ := q.2.2.2; rw [c4] at q1; cases q1; rw [q2 rfl] at c5; cases c5), fun _ => rfl⟩
            | true =>
              rw [if_pos rfl]
              exact ⟨fun _ => ⟨k, H', rfl, g1, g2, g3⟩, fun q => absurd ⟨c1, c2, c3, k, c4, fun _ => c5⟩ q⟩
    · rw [if_neg (by rw [decide_eq_false c2]; exact Bool.false_ne_true)]
      exact ⟨fun q => absurd q.2.1 c2, fun _ => rfl⟩
end CF
