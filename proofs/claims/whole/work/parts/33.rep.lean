/-! What the two sides stand for: literals, schemas, the class's cells, the reference's cells. -/
theorem li0 : (0 : Int32) = nI 0 := rfl
theorem li1 : (1 : Int32) = nI 1 := rfl
theorem li2 : (2 : Int32) = nI 2 := rfl
theorem li3 : (3 : Int32) = nI 3 := rfl
theorem li4 : (4 : Int32) = nI 4 := rfl
theorem li5 : (5 : Int32) = nI 5 := rfl
theorem li6 : (6 : Int32) = nI 6 := rfl
theorem li7 : (7 : Int32) = nI 7 := rfl
theorem li8 : (8 : Int32) = nI 8 := rfl
theorem li9 : (9 : Int32) = nI 9 := rfl
theorem li10 : (10 : Int32) = nI 10 := rfl
theorem li11 : (11 : Int32) = nI 11 := rfl
theorem li12 : (12 : Int32) = nI 12 := rfl
theorem li13 : (13 : Int32) = nI 13 := rfl
theorem li14 : (14 : Int32) = nI 14 := rfl
theorem li15 : (15 : Int32) = nI 15 := rfl
theorem li16 : (16 : Int32) = nI 16 := rfl
theorem li17 : (17 : Int32) = nI 17 := rfl
theorem li18 : (18 : Int32) = nI 18 := rfl
theorem li19 : (19 : Int32) = nI 19 := rfl
theorem li20 : (20 : Int32) = nI 20 := rfl
theorem li21 : (21 : Int32) = nI 21 := rfl
theorem li22 : (22 : Int32) = nI 22 := rfl
theorem li23 : (23 : Int32) = nI 23 := rfl
theorem li24 : (24 : Int32) = nI 24 := rfl
theorem li25 : (25 : Int32) = nI 25 := rfl
theorem li26 : (26 : Int32) = nI 26 := rfl
theorem li27 : (27 : Int32) = nI 27 := rfl
theorem li28 : (28 : Int32) = nI 28 := rfl
theorem li29 : (29 : Int32) = nI 29 := rfl
theorem li30 : (30 : Int32) = nI 30 := rfl
theorem li31 : (31 : Int32) = nI 31 := rfl
theorem li32 : (32 : Int32) = nI 32 := rfl
theorem li33 : (33 : Int32) = nI 33 := rfl
theorem li34 : (34 : Int32) = nI 34 := rfl
theorem li35 : (35 : Int32) = nI 35 := rfl
theorem li36 : (36 : Int32) = nI 36 := rfl
theorem li37 : (37 : Int32) = nI 37 := rfl
theorem li38 : (38 : Int32) = nI 38 := rfl
theorem li39 : (39 : Int32) = nI 39 := rfl
theorem li40 : (40 : Int32) = nI 40 := rfl
theorem li41 : (41 : Int32) = nI 41 := rfl
theorem li63 : (63 : Int32) = nI 63 := rfl
theorem li72 : (72 : Int32) = nI 72 := rfl
theorem li75 : (75 : Int32) = nI 75 := rfl
theorem li83 : (83 : Int32) = nI 83 := rfl
theorem li127 : (127 : Int32) = nI 127 := rfl
theorem li128 : (128 : Int32) = nI 128 := rfl
theorem li150 : (150 : Int32) = nI 150 := rfl
theorem li192 : (192 : Int32) = nI 192 := rfl
theorem li200 : (200 : Int32) = nI 200 := rfl
theorem li206 : (206 : Int32) = nI 206 := rfl
theorem li251 : (251 : Int32) = nI 251 := rfl
theorem li255 : (255 : Int32) = nI 255 := rfl
theorem li256 : (256 : Int32) = nI 256 := rfl
theorem li320 : (320 : Int32) = nI 320 := rfl
theorem li390 : (390 : Int32) = nI 390 := rfl
theorem li576 : (576 : Int32) = nI 576 := rfl
theorem li1280 : (1280 : Int32) = nI 1280 := rfl
-- a field: name, schema, whether it has a default, the default; a schema: kind, name, a, b, depth, fields
abbrev yF : Type := Int32 × Nat × Bool × Int64
abbrev yS : Type := Nat × Int32 × Int32 × Int32 × Nat × List yF
abbrev yT : Type := List yS
def yF0 : yF := (0, 0, false, 0)
def yG (T : yT) (s : Nat) : yS := T.getD s (0, 0, 0, 0, 0, [])
def kd (T : yT) (s : Nat) : Nat := (yG T s).1
def nm (T : yT) (s : Nat) : Int32 := (yG T s).2.1
def pA (T : yT) (s : Nat) : Int32 := (yG T s).2.2.1
def pB (T : yT) (s : Nat) : Int32 := (yG T s).2.2.2.1
def dp (T : yT) (s : Nat) : Nat := (yG T s).2.2.2.2.1
def fl (T : yT) (s : Nat) : List yF := (yG T s).2.2.2.2.2
def sA (T : yT) (s : Nat) : Nat := (pA T s).toNatClampNeg
def sB (T : yT) (s : Nat) : Nat := (pB T s).toNatClampNeg
-- schemas, fields of the next record, the disk, the row at hand, what is staged (schema, records, bytes), what was read
abbrev yW : Type := yT × List yF × yD × List Int64 × (Nat × Nat × List Nat) × List Int64
-- the class's cells
def FieldAt (H : zH) (r : Nat → Nat) (x : yF) (k : Nat) : Prop := zgo H (some k) = some (.inr (4, [zI x.1, zR (some (r x.2.1)), zI (bI x.2.2.1), zL x.2.2.2]))
def FieldsAt (H : zH) (r : Nat → Nat) (l : List yF) (g : Nat → Option Nat) : Prop := ∀ i, i < l.length → ∃ k, 46 ≤ k ∧ g i = some k ∧ FieldAt H r (l.getD i yF0) k
def SchemaAt (H : zH) (T : yT) (r : Nat → Nat) (s : Nat) : Prop := ∃ (nv sy ot : Int32) (fi se : Option Nat) (fa : Nat) (g : Nat → Option Nat), 46 ≤ r s ∧ 46 ≤ fa ∧
  zgo H (some (r s)) = some (.inr (8, [zI (nI (kd T s)), zI nv, zI sy, zI ot, zR fi, zR se, zR (some fa), zI (nI (dp T s))])) ∧
  zgo H (some fa) = some (.inl (4, (fl T s).length, .inr (.inr g))) ∧ FieldsAt H r (fl T s) g ∧
  (kd T s = 4 → nv = nm T s ∧ sy = pA T s ∧ ot = pB T s) ∧ (kd T s = 7 → nv = nm T s) ∧ (kd T s = 5 → fi = some (r (sA T s))) ∧ (kd T s = 6 → fi = some (r (sA T s)) ∧ se = some (r (sB T s)))
def SchemasAt (H : zH) (T : yT) (P : List yF) (r : Nat → Nat) : Prop := ∃ kn pd, zgo H (some 4) = some (.inr (9, [zR (some 5), zR (some 6), zI (nI T.length), zI (nI P.length)])) ∧
  zgo H (some 5) = some (.inl (3, 24, .inr (.inr kn))) ∧ zgo H (some 6) = some (.inl (4, 3, .inr (.inr pd))) ∧ (∀ s, s < T.length → kn s = some (r s) ∧ SchemaAt H T r s) ∧ FieldsAt H r P pd
theorem FieldsAt.fr {H H' : zH} {r : Nat → Nat} {l : List yF} {g : Nat → Option Nat} {A : Nat → Prop} (h : FieldsAt H r l g) (hF : Fr H H' A) (hA : ∀ q, A q → q < 46) : FieldsAt H' r l g := by
  intro i hi
  obtain ⟨k, h1, h2, h3⟩ := h i hi
  exact ⟨k, h1, h2, hF.2 _ _ h3 (fun q => by have := hA _ q; omega)⟩
theorem SchemaAt.fr {H H' : zH} {T : yT} {r : Nat → Nat} {s : Nat} {A : Nat → Prop} (h : SchemaAt H T r s) (hF : Fr H H' A) (hA : ∀ q, A q → q < 46) : SchemaAt H' T r s := by
  obtain ⟨nv, sy, ot, fi, se, fa, g, h1, h2, h3, h4, h5, h6⟩ := h
  exact ⟨nv, sy, ot, fi, se, fa, g, h1, h2, hF.2 _ _ h3 (fun q => by have := hA _ q; omega), hF.2 _ _ h4 (fun q => by have := hA _ q; omega), h5.fr hF hA, h6⟩
theorem SchemasAt.fr {H H' : zH} {T : yT} {P : List yF} {r : Nat → Nat} {A : Nat → Prop} (h : SchemasAt H T P r) (hF : Fr H H' A) (hA : ∀ q, A q → q < 46) (h4 : ¬ A 4) (h5 : ¬ A 5) (h6 : ¬ A 6) : SchemasAt H' T P r := by
  obtain ⟨kn, pd, e1, e2, e3, e4, e5⟩ := h
  exact ⟨kn, pd, hF.2 _ _ e1 h4, hF.2 _ _ e2 h5, hF.2 _ _ e3 h6, fun s hs => ⟨(e4 s hs).1, (e4 s hs).2.fr hF hA⟩, e5.fr hF hA⟩
/-- the class's fixed objects -/
def FixAt (H : zH) : Prop := zgo H (some 1) = some (.inr (0, [zR (some 4), zR (some 2), zR (some 7), zR (some 10), zR (some 15), zR (some 18), zR (some 20), zR (some 22)])) ∧
  zgo H (some 7) = some (.inr (6, [zR (some 2), zR (some 8)])) ∧ zgo H (some 10) = some (.inr (5, [zR (some 2), zR (some 11), zR (some 13)]))
def StagAt (H : zH) (s c : Nat) : Prop := ∃ sv : Int32, zgo H (some 15) = some (.inr (10, [zR (some 16), zI sv, zI (nI c)])) ∧ (0 < c → sv = nI s)
def CRep (H : zH) (W : yW) (r : Nat → Nat) : Prop := FixAt H ∧ DiskAt H W.2.2.1 ∧ SchemasAt H W.1 W.2.1 r ∧ (∃ b, BL H 8 32 b) ∧ (∃ b, BL H 11 206 b) ∧ (∃ b, BL H 13 32 b) ∧ StagAt H W.2.2.2.2.1.1 W.2.2.2.2.1.2.1 ∧ BL H 16 390 W.2.2.2.2.1.2.2 ∧ RL H 18 24 W.2.2.2.1 ∧ (∃ x, RL H 20 24 x) ∧ RL H 22 40 W.2.2.2.2.2
theorem FixAt.fr {H H' : zH} {A : Nat → Prop} (h : FixAt H) (hF : Fr H H' A) (h1 : ¬ A 1) (h7 : ¬ A 7) (h10 : ¬ A 10) : FixAt H' := ⟨hF.2 _ _ h.1 h1, hF.2 _ _ h.2.1 h7, hF.2 _ _ h.2.2 h10⟩
theorem StagAt.fr {H H' : zH} {s c : Nat} {A : Nat → Prop} (h : StagAt H s c) (hF : Fr H H' A) (h1 : ¬ A 15) : StagAt H' s c := by
  obtain ⟨sv, e1, e2⟩ := h
  exact ⟨sv, hF.2 _ _ e1 h1, e2⟩
-- the reference's cells: its int fields by their places, its arrays at 25 .. 45
def MoF (v : Nat → Int32) : List zV := [zI (v 0), zR (some 25), zR (some 26), zR (some 27), zR (some 28), zR (some 29), zR (some 30), zR (some 31), zR (some 32), zR (some 33), zR (some 34), zR (some 35), zR (some 36), zI (v 13), zR (some 37), zI (v 15), zI (v 16), zI (v 17), zI (v 18), zR (some 38), zI (v 20), zI (v 21), zI (v 22), zR (some 39), zI (v 24), zR (some 40), zI (v 26), zR (some 41), zI (v 28), zR (some 42), zR (some 43), zR (some 44), zR (some 45), zI (v 33), zI (v 34), zI (v 35)]
def MoAt (H : zH) (v : Nat → Int32) : Prop := zgo H (some 24) = some (.inr (1, MoF v))
def AI (H : zH) (a N : Nat) (f : Nat → Int32) : Prop := zgo H (some a) = some (.inl (0, N, .inl f))
def AZ (H : zH) (a N : Nat) (f : Nat → Int32) : Prop := zgo H (some a) = some (.inl (1, N, .inl f))
def AJ (H : zH) (a N : Nat) (f : Nat → Int64) : Prop := zgo H (some a) = some (.inl (2, N, .inr (.inl f)))
theorem MoAt.set {H : zH} {v : Nat → Int32} {j : Nat} {x : Int32} (h : MoAt H v) (hj : j = 0 ∨ j = 13 ∨ j = 15 ∨ j = 18 ∨ j = 20 ∨ j = 21 ∨ j = 22 ∨ j = 24 ∨ j = 26 ∨ j = 28 ∨ j = 33 ∨ j = 34 ∨ j = 35) : zpV H (some 24) 1 j (zI x) = some (zset H 24 (.inr (1, MoF (va_up v j x)))) := by
  rw [qpV h (by rcases hj with rfl | rfl | rfl | rfl | rfl | rfl | rfl | rfl | rfl | rfl | rfl | rfl | rfl <;> exact Nat.le_of_ble_eq_true rfl)]
  rcases hj with rfl | rfl | rfl | rfl | rfl | rfl | rfl | rfl | rfl | rfl | rfl | rfl | rfl <;> rfl
theorem MoAt.setZ {H : zH} {v : Nat → Int32} {j : Nat} {x : Int32} (h : MoAt H v) (hx : x = 0 ∨ x = 1) (hj : j = 16 ∨ j = 17) : zpZ H (some 24) 1 j x = some (zset H 24 (.inr (1, MoF (va_up v j x)))) := by
  rw [qpZ hx h (by rcases hj with rfl | rfl <;> exact Nat.le_of_ble_eq_true rfl)]
  rcases hj with rfl | rfl <;> rfl
theorem MoAt.new {H : zH} {v w : Nat → Int32} (h : MoAt H v) : MoAt (zset H 24 (.inr (1, MoF w))) w := zgo_set_same h
theorem MoAt.fr {H H' : zH} {v : Nat → Int32} {A : Nat → Prop} (h : MoAt H v) (hF : Fr H H' A) (h1 : ¬ A 24) : MoAt H' v := hF.2 _ _ h h1
theorem AI.fr {H H' : zH} {a N : Nat} {f : Nat → Int32} {A : Nat → Prop} (h : AI H a N f) (hF : Fr H H' A) (h1 : ¬ A a) : AI H' a N f := hF.2 _ _ h h1
theorem AZ.fr {H H' : zH} {a N : Nat} {f : Nat → Int32} {A : Nat → Prop} (h : AZ H a N f) (hF : Fr H H' A) (h1 : ¬ A a) : AZ H' a N f := hF.2 _ _ h h1
theorem AJ.fr {H H' : zH} {a N : Nat} {f : Nat → Int64} {A : Nat → Prop} (h : AJ H a N f) (hF : Fr H H' A) (h1 : ¬ A a) : AJ H' a N f := hF.2 _ _ h h1
/-- the reference's disk and machine -/
def MDisk (H : zH) (v : Nat → Int32) (D : yD) : Prop := MoAt H v ∧ AI H 37 1280 (fun i => nI (D.2.2.2 i)) ∧ v 15 = nI D.2.2.1 ∧ v 16 = bI (!D.1) ∧ v 17 = bI D.2.1.isSome ∧ ∀ n, D.2.1 = some n → v 18 = nI n
theorem if_eqN {α : Sort _} {a b : Nat} {x y : α} (ha : a < 2 ^ 31) (hb : b < 2 ^ 31) : (if nI a = nI b then x else y) = (if a = b then x else y) := by
  by_cases h : a = b
  · rw [if_pos h, if_pos (congrArg nI h)]
  · rw [if_neg h, if_neg (fun hh => h ((nI_eq ha hb).mp hh))]
theorem if_leN {α : Sort _} {a b : Nat} {x y : α} (ha : a < 2 ^ 31) (hb : b < 2 ^ 31) : (if nI a ≤ nI b then x else y) = (if a ≤ b then x else y) := by
  by_cases h : a ≤ b
  · rw [if_pos h, if_pos ((nI_leI ha hb).mpr h)]
  · rw [if_neg h, if_neg (fun hh => h ((nI_leI ha hb).mp hh))]
theorem if_ltN {α : Sort _} {a b : Nat} {x y : α} (ha : a < 2 ^ 31) (hb : b < 2 ^ 31) : (if nI a < nI b then x else y) = (if a < b then x else y) := by
  by_cases h : a < b
  · rw [if_pos h, if_pos ((nI_ltI ha hb).mpr h)]
  · rw [if_neg h, if_neg (fun hh => h ((nI_ltI ha hb).mp hh))]
theorem if_0N {α : Sort _} {a : Nat} {x y : α} (ha : a < 2 ^ 31) : (if nI a = 0 then x else y) = (if a = 0 then x else y) := if_eqN (b := 0) ha (by omega)
theorem if_bI {α : Sort _} {b : Bool} {x y : α} : (if bI b = 0 then x else y) = (if b then y else x) := by
  cases b <;> rfl
theorem zbo_bI {b : Bool} : zbo (bI b) = some (bI b) := by cases b <;> rfl
