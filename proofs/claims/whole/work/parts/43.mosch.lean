/-! The reference's schemas: its arrays, and what its readers answer. -/
def MSB (H : zH) (v : Nat → Int32) (T : yT) (P : List yF) : Prop := MoAt H v ∧ v 0 = nI T.length ∧ v 13 = nI P.length ∧
  (∃ f, AI H 25 24 f ∧ ∀ s, s < T.length → f s = nI (kd T s)) ∧ (∃ f, AI H 26 24 f ∧ ∀ s, s < T.length → f s = nm T s) ∧ (∃ f, AI H 27 24 f ∧ ∀ s, s < T.length → f s = pA T s) ∧
  (∃ f, AI H 28 24 f ∧ ∀ s, s < T.length → f s = pB T s) ∧ (∃ f, AI H 29 24 f ∧ ∀ s, s < T.length → f s = nI (dp T s)) ∧ (∃ f, AI H 30 24 f ∧ ∀ s, s < T.length → f s = nI (fl T s).length) ∧
  (∃ f, AI H 31 75 f ∧ (∀ s i, s < T.length → i < (fl T s).length → f (3 * s + i) = ((fl T s).getD i yF0).1) ∧ ∀ i, i < P.length → f (72 + i) = (P.getD i yF0).1) ∧
  (∃ f, AI H 32 75 f ∧ (∀ s i, s < T.length → i < (fl T s).length → f (3 * s + i) = nI ((fl T s).getD i yF0).2.1) ∧ ∀ i, i < P.length → f (72 + i) = nI (P.getD i yF0).2.1) ∧
  (∃ f, AZ H 33 75 f ∧ (∀ s i, s < T.length → i < (fl T s).length → f (3 * s + i) = bI ((fl T s).getD i yF0).2.2.1) ∧ ∀ i, i < P.length → f (72 + i) = bI (P.getD i yF0).2.2.1) ∧
  (∃ f, AJ H 34 75 f ∧ (∀ s i, s < T.length → i < (fl T s).length → f (3 * s + i) = ((fl T s).getD i yF0).2.2.2) ∧ ∀ i, i < P.length → f (72 + i) = (P.getD i yF0).2.2.2)
/-- the tables hold at the pairs of V -/
def MTb (H : zH) (T : yT) (V : Nat → Nat → Prop) : Prop := (∃ f, AZ H 35 576 f ∧ ∀ r w, V r w → f (24 * r + w) = bI (matchS T 7 w r)) ∧ ∃ f, AZ H 36 576 f ∧ ∀ r w, V r w → f (24 * r + w) = bI (readsS T 14 r w)
theorem MSB.fr {H H' : zH} {v : Nat → Int32} {T : yT} {P : List yF} {A : Nat → Prop} (h : MSB H v T P) (hF : Fr H H' A) (hA : ∀ q, A q → ¬ (24 ≤ q ∧ q ≤ 34)) : MSB H' v T P := by
  have k : ∀ {a N : Nat} {f : Nat → Int32}, AI H a N f → 24 ≤ a → a ≤ 34 → AI H' a N f := fun h1 h2 h3 => h1.fr hF (fun q => hA _ q ⟨h2, h3⟩)
  obtain ⟨h0, h1, h2, ⟨f3, a3, b3⟩, ⟨f4, a4, b4⟩, ⟨f5, a5, b5⟩, ⟨f6, a6, b6⟩, ⟨f7, a7, b7⟩, ⟨f8, a8, b8⟩, ⟨f9, a9, b9⟩, ⟨f10, a10, b10⟩, ⟨f11, a11, b11⟩, ⟨f12, a12, b12⟩⟩ := h
  exact ⟨h0.fr hF (fun q => hA _ q ⟨by omega, by omega⟩), h1, h2, ⟨f3, k a3 (by omega) (by omega), b3⟩, ⟨f4, k a4 (by omega) (by omega), b4⟩, ⟨f5, k a5 (by omega) (by omega), b5⟩, ⟨f6, k a6 (by omega) (by omega), b6⟩, ⟨f7, k a7 (by omega) (by omega), b7⟩, ⟨f8, k a8 (by omega) (by omega), b8⟩, ⟨f9, k a9 (by omega) (by omega), b9⟩, ⟨f10, k a10 (by omega) (by omega), b10⟩, ⟨f11, a11.fr hF (fun q => hA _ q ⟨by omega, by omega⟩), b11⟩, ⟨f12, a12.fr hF (fun q => hA _ q ⟨by omega, by omega⟩), b12⟩⟩
section MoS
variable {H : zH} {v : Nat → Int32} {T : yT} {P : List yF} {s r w fu : Nat}
theorem MSB.m (h : MSB H v T P) : MoAt H v := h.1
theorem MSB.k (h : MSB H v T P) (hT : T.length ≤ 24) (hs : s < T.length) : zaI H (some 25) 0 (nI s) = some (nI (kd T s)) := by
  obtain ⟨f, a, b⟩ := h.2.2.2.1
  rw [qaI a (by omega) (by omega), b s hs]
theorem MSB.nm (h : MSB H v T P) (hT : T.length ≤ 24) (hs : s < T.length) : zaI H (some 26) 0 (nI s) = some (nm T s) := by
  obtain ⟨f, a, b⟩ := h.2.2.2.2.1
  rw [qaI a (by omega) (by omega), b s hs]
theorem MSB.a (h : MSB H v T P) (hT : T.length ≤ 24) (hs : s < T.length) : zaI H (some 27) 0 (nI s) = some (pA T s) := by
  obtain ⟨f, a, b⟩ := h.2.2.2.2.2.1
  rw [qaI a (by omega) (by omega), b s hs]
theorem MSB.b (h : MSB H v T P) (hT : T.length ≤ 24) (hs : s < T.length) : zaI H (some 28) 0 (nI s) = some (pB T s) := by
  obtain ⟨f, a, b⟩ := h.2.2.2.2.2.2.1
  rw [qaI a (by omega) (by omega), b s hs]
theorem MSB.d (h : MSB H v T P) (hT : T.length ≤ 24) (hs : s < T.length) : zaI H (some 29) 0 (nI s) = some (nI (dp T s)) := by
  obtain ⟨f, a, b⟩ := h.2.2.2.2.2.2.2.1
  rw [qaI a (by omega) (by omega), b s hs]
theorem MSB.n (h : MSB H v T P) (hT : T.length ≤ 24) (hs : s < T.length) : zaI H (some 30) 0 (nI s) = some (nI (fl T s).length) := by
  obtain ⟨f, a, b⟩ := h.2.2.2.2.2.2.2.2.1
  rw [qaI a (by omega) (by omega), b s hs]
theorem MSB.fn (h : MSB H v T P) (hT : T.length ≤ 24) (hs : s < T.length) {i : Nat} (hi : i < (fl T s).length) (h3 : (fl T s).length ≤ 3) : zaI H (some 31) 0 (nI (3 * s + i)) = some ((fl T s).getD i yF0).1 := by
  obtain ⟨f, a, b, c⟩ := h.2.2.2.2.2.2.2.2.2.1
  rw [qaI a (by omega) (by omega), b s i hs hi]
theorem MSB.fs (h : MSB H v T P) (hT : T.length ≤ 24) (hs : s < T.length) {i : Nat} (hi : i < (fl T s).length) (h3 : (fl T s).length ≤ 3) : zaI H (some 32) 0 (nI (3 * s + i)) = some (nI ((fl T s).getD i yF0).2.1) := by
  obtain ⟨f, a, b, c⟩ := h.2.2.2.2.2.2.2.2.2.2.1
  rw [qaI a (by omega) (by omega), b s i hs hi]
theorem MSB.fh (h : MSB H v T P) (hT : T.length ≤ 24) (hs : s < T.length) {i : Nat} (hi : i < (fl T s).length) (h3 : (fl T s).length ≤ 3) : zaI H (some 33) 1 (nI (3 * s + i)) = some (bI ((fl T s).getD i yF0).2.2.1) := by
  obtain ⟨f, a, b, c⟩ := h.2.2.2.2.2.2.2.2.2.2.2.1
  rw [qaI a (by omega) (by omega), b s i hs hi]
theorem MSB.fv (h : MSB H v T P) (hT : T.length ≤ 24) (hs : s < T.length) {i : Nat} (hi : i < (fl T s).length) (h3 : (fl T s).length ≤ 3) : zaL H (some 34) 2 (nI (3 * s + i)) = some ((fl T s).getD i yF0).2.2.2 := by
  obtain ⟨f, a, b, c⟩ := h.2.2.2.2.2.2.2.2.2.2.2.2
  rw [qaL a (by omega) (by omega), b s i hs hi]
theorem MTb.mt {V : Nat → Nat → Prop} (h : MTb H T V) (hr : r < 24) (hw : w < 24) (hV : V r w) : zaI H (some 35) 1 (nI (24 * r + w)) = some (bI (matchS T 7 w r)) := by
  obtain ⟨⟨f, a, b⟩, -⟩ := h
  rw [qaI a (by omega) (by omega), b r w hV]
theorem MTb.rd {V : Nat → Nat → Prop} (h : MTb H T V) (hr : r < 24) (hw : w < 24) (hV : V r w) : zaI H (some 36) 1 (nI (24 * r + w)) = some (bI (readsS T 14 r w)) := by
  obtain ⟨-, f, a, b⟩ := h
  rw [qaI a (by omega) (by omega), b r w hV]
/-- of a schema that is an array or a union: its parts are numbers of schemas -/
theorem pA_nI (h : 0 ≤ pA T s) : pA T s = nI (sA T s) := by
  obtain ⟨n, hn, he⟩ := nI_of (x := pA T s) (by
    intro hlt
    rw [Int32.lt_iff_toInt_lt] at hlt
    rw [Int32.le_iff_toInt_le] at h
    omega)
  unfold sA
  rw [he, nI_clamp hn]
theorem pB_nI (h : 0 ≤ pB T s) : pB T s = nI (sB T s) := by
  obtain ⟨n, hn, he⟩ := nI_of (x := pB T s) (by
    intro hlt
    rw [Int32.lt_iff_toInt_lt] at hlt
    rw [Int32.le_iff_toInt_le] at h
    omega)
  unfold sB
  rw [he, nI_clamp hn]
/-- the parts' numbers are no negative ones -/
def TPos (T : yT) : Prop := ∀ s, s < T.length → (kd T s = 5 → 0 ≤ pA T s) ∧ (kd T s = 6 → 0 ≤ pA T s ∧ 0 ≤ pB T s)
theorem Mo_branch {V : Nat → Nat → Prop} (h : MSB H v T P) (hb : MTb H T V) (hT : TOk T) (hp : TPos T) (hr : r < T.length) (hw : w < T.length) (h6 : kd T r = 6) (v1 : V (sA T r) w) (v2 : V (sB T r) w) : jF_Mo_branch (some 24) (nI r) (nI w) H = some (limI (brS T 7 r w)) := by
  have hl := hT.1
  obtain ⟨u1, u2, u3, u4, u5, u6, u7, u8⟩ := hT.2 r hr
  have u7' := u7 h6
  have hp' := (hp r hr).2 h6
  have ea := h.a hl hr
  rw [pA_nI hp'.1] at ea
  have eb := h.b hl hr
  rw [pB_nI hp'.2] at eb
  unfold jF_Mo_branch brS
  simp only [qok h.m, qgR (j := 11) h.m rfl, qgR (j := 3) h.m rfl, qgR (j := 4) h.m rfl, ea, eb, Option.bind_some, li24, pk_mul, nI_add]
  rw [hb.mt (by omega) (by omega) v1, Option.bind_some, if_bI, hb.mt (by omega) (by omega) v2, Option.bind_some, if_bI]
  cases matchS T 7 w (sA T r) <;> cases matchS T 7 w (sB T r) <;> rfl
theorem Mo_branchSchema {V : Nat → Nat → Prop} {b : Nat} (h : MSB H v T P) (hb : MTb H T V) (hT : TOk T) (hp : TPos T) (hr : r < T.length) (hw : w < T.length) (h6 : kd T r = 6) (v1 : V (sA T r) w) (v2 : V (sB T r) w) (hbr : brS T 7 r w = some b) : jF_Mo_branchSchema (some 24) (nI r) (nI w) H = some (nI (brT T r b)) := by
  have hl := hT.1
  have hp' := (hp r hr).2 h6
  have ea := h.a hl hr
  rw [pA_nI hp'.1] at ea
  have eb := h.b hl hr
  rw [pB_nI hp'.2] at eb
  have hb2 : b = 0 ∨ b = 1 := by
    unfold brS at hbr
    split at hbr
    · cases hbr; exact Or.inl rfl
    · split at hbr
      · cases hbr; exact Or.inr rfl
      · cases hbr
  unfold jF_Mo_branchSchema brT
  simp only [qok h.m, qgR (j := 3) h.m rfl, qgR (j := 4) h.m rfl, ea, eb, Option.bind_some, Mo_branch h hb hT hp hr hw h6 v1 v2, hbr]
  rcases hb2 with rfl | rfl <;> rfl
theorem Mo_fieldOfL (h : MSB H v T P) (hT : TOk T) (hs : s < T.length) {n : Int32} : ∀ (k i g : Nat), i + k = (fl T s).length → k < g → jL_Mo_fieldOf_4 fu H g (some 24) (nI s) n (nI (3 * s + i)) = some (limI ((fOf (fl T s) n k i).map (fun j => 3 * s + j))) := by
  have hl := hT.1
  have h3 := (hT.2 s hs).2.2.2.1
  intro k
  induction k with
  | zero =>
    intro i g h1 h2
    obtain ⟨g', rfl⟩ : ∃ q, g = q + 1 := ⟨g - 1, by omega⟩
    rw [jL_Mo_fieldOf_4]
    simp only [qgR (j := 6) h.m rfl, h.n hl hs, Option.bind_some, li3, pk_mul, nI_add]
    rw [if_pos (nI_le (by omega) (by omega))]
    rfl
  | succ k ih =>
    intro i g h1 h2
    obtain ⟨g', rfl⟩ : ∃ q, g = q + 1 := ⟨g - 1, by omega⟩
    rw [jL_Mo_fieldOf_4]
    simp only [qgR (j := 6) h.m rfl, qgR (j := 7) h.m rfl, h.n hl hs, h.fn hl hs (show i < (fl T s).length by omega) h3, Option.bind_some, li3, pk_mul, nI_add, nI_1]
    rw [if_neg (nI_ge (by omega) (by omega)), fOf]
    by_cases hn : ((fl T s).getD i yF0).1 = n
    · rw [if_pos hn, if_pos hn]; rfl
    · rw [if_neg hn, if_neg hn]
      exact ih (i + 1) g' (by omega) (by omega)
theorem Mo_fieldOf (h : MSB H v T P) (hT : TOk T) (hs : s < T.length) {n : Int32} (hfu : 5 ≤ fu) : jF_Mo_fieldOf fu (some 24) (nI s) n H = some (limI ((fOf (fl T s) n (fl T s).length 0).map (fun j => 3 * s + j))) := by
  have h3 := (hT.2 s hs).2.2.2.1
  unfold jF_Mo_fieldOf
  rw [qok h.m, Option.bind_some, li3, pk_mul]
  exact Mo_fieldOfL h hT hs _ 0 fu (by omega) (by omega)
end MoS
