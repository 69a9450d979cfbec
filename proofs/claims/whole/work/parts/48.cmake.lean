/-! The class's make: depth, a new schema. -/
def mxF (T : yT) (l : List yF) : Nat → Nat → Nat → Nat
  | 0, _, a => a
  | k + 1, i, a => mxF T l k (i + 1) (if a < dp T (l.getD i yF0).2.1 then dp T (l.getD i yF0).2.1 else a)
def mx2 (a b : Nat) : Nat := if a < b then b else a
/-- how deep the parts are -/
def dAb (T : yT) (fi se : Option Nat) (l : List yF) : Nat := mxF T l l.length 0 (match se with
  | none => (fi.map (dp T)).getD 0
  | some j => mx2 ((fi.map (dp T)).getD 0) (dp T j))
section CM
variable {H : zH} {T : yT} {P : List yF} {R : Nat → Nat} {fu : Nat}
theorem C_depthL (hS : SchT H T R) (hT : TOk T) {l : List yF} {g : Nat → Option Nat} {fa : Nat} (hz : zgo H (some fa) = some (.inl (4, l.length, .inr (.inr g)))) (hf : FieldsAt H R l g) (hl : l.length ≤ 3) (hlt : ∀ i, i < l.length → (l.getD i yF0).2.1 < T.length) : ∀ (k i g' a : Nat), i + k = l.length → k < g' → a ≤ 6 → jL_Schema_depthAbove_27 fu H g' (some fa) (nI a) (nI i) = some (nI (mxF T l k i a + 1)) := by
  intro k
  induction k with
  | zero =>
    intro i g' a h1 h2 ha
    obtain ⟨q, rfl⟩ : ∃ q, g' = q + 1 := ⟨g' - 1, by omega⟩
    rw [jL_Schema_depthAbove_27, qle hz, Option.bind_some, if_pos (nI_le (by omega) (by omega)), nI_1]; rfl
  | succ k ih =>
    intro i g' a h1 h2 ha
    obtain ⟨q, rfl⟩ : ∃ q, g' = q + 1 := ⟨g' - 1, by omega⟩
    obtain ⟨m, f1, f2, f3, f4, f5⟩ := hf.at hz hl (show i < l.length by omega)
    have hs := hlt i (by omega)
    have hd := (hT.2 _ hs).2.2.1
    rw [jL_Schema_depthAbove_27, qle hz, Option.bind_some, if_neg (nI_ge (by omega) (by omega)), f1, Option.bind_some, f3, Option.bind_some, hS.d hs, Option.bind_some, nI_1, if_ltN (by omega) (by omega), mxF]
    by_cases hc : a < dp T (l.getD i yF0).2.1
    · rw [if_pos hc, if_pos hc]; exact ih (i + 1) q _ (by omega) (by omega) (by omega)
    · rw [if_neg hc, if_neg hc]; exact ih (i + 1) q _ (by omega) (by omega) (by omega)
theorem C_depth (hS : SchT H T R) (hT : TOk T) {l : List yF} {g : Nat → Option Nat} {fa : Nat} {fi se : Option Nat} (hz : zgo H (some fa) = some (.inl (4, l.length, .inr (.inr g)))) (hf : FieldsAt H R l g) (hl : l.length ≤ 3) (hlt : ∀ i, i < l.length → (l.getD i yF0).2.1 < T.length) (h1 : ∀ i, fi = some i → i < T.length) (h2 : ∀ i, se = some i → i < T.length) (hfu : 5 ≤ fu) : jF_Schema_depthAbove fu (fi.map R) (se.map R) (some fa) H = some (nI (dAb T fi se l + 1)) := by
  have key : ∀ a, a ≤ 6 → a = (fi.map (dp T)).getD 0 → jJ_Schema_depthAbove_11 fu H (se.map R) (some fa) (nI a) = some (nI (dAb T fi se l + 1)) := by
    intro a ha hae
    unfold jJ_Schema_depthAbove_11 dAb
    rw [← hae]
    cases se with
    | none =>
      rw [if_pos (show (none : Option Nat).map R = none from rfl)]
      exact C_depthL hS hT hz hf hl hlt l.length 0 fu a (by omega) (by omega) ha
    | some j =>
      have hj := h2 j rfl
      have hd := (hT.2 _ hj).2.2.1
      rw [if_neg (show ¬ (some j).map R = none by simp), show (some j).map R = some (R j) from rfl, hS.d hj, Option.bind_some, if_ltN (by omega) (by omega)]
      show _ = some (nI (mxF T l l.length 0 (mx2 a (dp T j)) + 1))
      unfold mx2
      by_cases hc : a < dp T j
      · rw [if_pos hc, if_pos hc]; exact C_depthL hS hT hz hf hl hlt l.length 0 fu _ (by omega) (by omega) (by omega)
      · rw [if_neg hc, if_neg hc]; exact C_depthL hS hT hz hf hl hlt l.length 0 fu _ (by omega) (by omega) (by omega)
  unfold jF_Schema_depthAbove
  cases fi with
  | none =>
    rw [if_pos (show (none : Option Nat).map R = none from rfl)]
    exact key 0 (by omega) rfl
  | some i =>
    have hi := h1 i rfl
    have hd := (hT.2 _ hi).2.2.1
    rw [if_neg (show ¬ (some i).map R = none by simp), show (some i).map R = some (R i) from rfl, hS.d hi, Option.bind_some]
    exact key _ hd rfl
theorem FieldsAt.nil {g : Nat → Option Nat} : FieldsAt H R [] g := fun i hi => by simp at hi
theorem SchT.fr {H' : zH} {A : Nat → Prop} (h : SchT H T R) (hF : Fr H H' A) (hA : ∀ q, A q → q < 46) : SchT H' T R := fun s hs => (h s hs).fr hF hA
/-- a schema's own cell, from new to made -/
theorem C_init {Hb : zH} (hS : SchT Hb T R) (hT : TOk T) {a fa : Nat} {k n sy ot : Int32} {fi se : Option Nat} {l : List yF} {g : Nat → Option Nat} (hF : Fr Hb H (fun _ => False)) (hab : Hb.2 ≤ a) (ha : zgo H (some a) = some (.inr (8, [zI 0, zI 0, zI 0, zI 0, zR none, zR none, zR none, zI 0])))
    (hz : zgo H (some fa) = some (.inl (4, l.length, .inr (.inr g)))) (hfa : fa ≠ a) (hf : FieldsAt Hb R l g) (hl : l.length ≤ 3) (hlt : ∀ i, i < l.length → (l.getD i yF0).2.1 < T.length) (h1 : ∀ i, fi = some i → i < T.length) (h2 : ∀ i, se = some i → i < T.length) (hfu : 5 ≤ fu) :
    ∃ H', jF_Schema_init fu a k n sy ot (fi.map R) (se.map R) (some fa) H = some H' ∧ zgo H' (some a) = some (.inr (8, [zI k, zI n, zI sy, zI ot, zR (fi.map R), zR (se.map R), zR (some fa), zI (nI (dAb T fi se l + 1))])) ∧ zgo H' (some fa) = some (.inl (4, l.length, .inr (.inr g))) ∧ Fr Hb H' (fun _ => False) ∧ H'.2 = H.2 := by
  unfold jF_Schema_init
  rw [qpV ha (by simp), Option.bind_some]
  have c1 := zgo_set_same (x := .inr (8, [zI k, zI 0, zI 0, zI 0, zR none, zR none, zR none, zI 0])) ha
  rw [show (([zI 0, zI 0, zI 0, zI 0, zR none, zR none, zR none, zI 0] : List zV).set 0 (zI k)) = [zI k, zI 0, zI 0, zI 0, zR none, zR none, zR none, zI 0] from rfl, qpV c1 (by simp), Option.bind_some]
  have c2 := zgo_set_same (x := .inr (8, [zI k, zI n, zI 0, zI 0, zR none, zR none, zR none, zI 0])) c1
  rw [show (([zI k, zI 0, zI 0, zI 0, zR none, zR none, zR none, zI 0] : List zV).set 1 (zI n)) = [zI k, zI n, zI 0, zI 0, zR none, zR none, zR none, zI 0] from rfl, qpV c2 (by simp), Option.bind_some]
  have c3 := zgo_set_same (x := .inr (8, [zI k, zI n, zI sy, zI 0, zR none, zR none, zR none, zI 0])) c2
  rw [show (([zI k, zI n, zI 0, zI 0, zR none, zR none, zR none, zI 0] : List zV).set 2 (zI sy)) = [zI k, zI n, zI sy, zI 0, zR none, zR none, zR none, zI 0] from rfl, qpV c3 (by simp), Option.bind_some]
  have c4 := zgo_set_same (x := .inr (8, [zI k, zI n, zI sy, zI ot, zR none, zR none, zR none, zI 0])) c3
  rw [show (([zI k, zI n, zI sy, zI 0, zR none, zR none, zR none, zI 0] : List zV).set 3 (zI ot)) = [zI k, zI n, zI sy, zI ot, zR none, zR none, zR none, zI 0] from rfl, qpV c4 (by simp), Option.bind_some]
  have c5 := zgo_set_same (x := .inr (8, [zI k, zI n, zI sy, zI ot, zR (fi.map R), zR none, zR none, zI 0])) c4
  rw [show (([zI k, zI n, zI sy, zI ot, zR none, zR none, zR none, zI 0] : List zV).set 4 (zR (fi.map R))) = [zI k, zI n, zI sy, zI ot, zR (fi.map R), zR none, zR none, zI 0] from rfl, qpV c5 (by simp), Option.bind_some]
  have c6 := zgo_set_same (x := .inr (8, [zI k, zI n, zI sy, zI ot, zR (fi.map R), zR (se.map R), zR none, zI 0])) c5
  rw [show (([zI k, zI n, zI sy, zI ot, zR (fi.map R), zR none, zR none, zI 0] : List zV).set 5 (zR (se.map R))) = [zI k, zI n, zI sy, zI ot, zR (fi.map R), zR (se.map R), zR none, zI 0] from rfl, qpV c6 (by simp), Option.bind_some]
  have c7 := zgo_set_same (x := .inr (8, [zI k, zI n, zI sy, zI ot, zR (fi.map R), zR (se.map R), zR (some fa), zI 0])) c6
  rw [show (([zI k, zI n, zI sy, zI ot, zR (fi.map R), zR (se.map R), zR none, zI 0] : List zV).set 6 (zR (some fa))) = [zI k, zI n, zI sy, zI ot, zR (fi.map R), zR (se.map R), zR (some fa), zI 0] from rfl]
  have F1 : ∀ {K : zH} {y : zC}, Fr K (zset K a y) (fun q => q = a) := fun {K y} => Fr.set rfl
  have F7 := (((((F1 (K := H) (y := .inr (8, [zI k, zI 0, zI 0, zI 0, zR none, zR none, zR none, zI 0]))).tr (F1 (y := .inr (8, [zI k, zI n, zI 0, zI 0, zR none, zR none, zR none, zI 0])))).tr (F1 (y := .inr (8, [zI k, zI n, zI sy, zI 0, zR none, zR none, zR none, zI 0])))).tr (F1 (y := .inr (8, [zI k, zI n, zI sy, zI ot, zR none, zR none, zR none, zI 0])))).tr (F1 (y := .inr (8, [zI k, zI n, zI sy, zI ot, zR (fi.map R), zR none, zR none, zI 0])))).tr ((F1 (y := .inr (8, [zI k, zI n, zI sy, zI ot, zR (fi.map R), zR (se.map R), zR none, zI 0]))).tr (F1 (y := .inr (8, [zI k, zI n, zI sy, zI ot, zR (fi.map R), zR (se.map R), zR (some fa), zI 0]))))
  generalize hK : zset (zset (zset (zset (zset (zset (zset H a (.inr (8, [zI k, zI 0, zI 0, zI 0, zR none, zR none, zR none, zI 0]))) a (.inr (8, [zI k, zI n, zI 0, zI 0, zR none, zR none, zR none, zI 0]))) a (.inr (8, [zI k, zI n, zI sy, zI 0, zR none, zR none, zR none, zI 0]))) a (.inr (8, [zI k, zI n, zI sy, zI ot, zR none, zR none, zR none, zI 0]))) a (.inr (8, [zI k, zI n, zI sy, zI ot, zR (fi.map R), zR none, zR none, zI 0]))) a (.inr (8, [zI k, zI n, zI sy, zI ot, zR (fi.map R), zR (se.map R), zR none, zI 0]))) a (.inr (8, [zI k, zI n, zI sy, zI ot, zR (fi.map R), zR (se.map R), zR (some fa), zI 0])) = K at c7 F7 ⊢
  have hK2 : K.2 = H.2 := by rw [← hK]; rfl
  have hz7 := F7.2 _ _ hz hfa
  have G7 : Fr Hb K (fun _ => False) := hF.fresh (F7.up (fun q hq => Or.inr (by rw [hq]; exact hab)))
  have hS7 : SchT K T R := hS.fr G7 (fun q hq => hq.elim)
  rw [C_depth hS7 hT hz7 (hf.fr G7 (fun q hq => hq.elim)) hl hlt h1 h2 hfu, Option.bind_some, qpV c7 (by simp), Option.bind_some]
  refine ⟨_, rfl, ?_, ?_, ?_, hK2⟩
  · rw [zgo_set_same c7]; rfl
  · rw [zgo_set_ne hfa]; exact hz7
  · exact G7.fresh ((Fr.set (A := fun q => q = a) rfl).up (fun q hq => Or.inr (by rw [hq]; exact hab)))
end CM
