/-! Parts of the heap: facts 'zgo H (some k) = some cell', what the operations answer under them, and what stays. -/
def zset (H : zH) (k : Nat) (x : zC) : zH := (va_up H.1 k x, H.2)
section QHeap
variable {H : zH} {k q ci j t N i : Nat} {fs : List zV} {x y : zC}
theorem zgo_set_same (h : zgo H (some k) = some y) : zgo (zset H k x) (some k) = some x := by
  obtain ⟨k', hk', hk, -⟩ := zgo_inv h
  cases hk'
  rw [zgo_of (H := zset H k x) hk]
  simp [zset, va_up]
theorem zgo_set_ne (h : q ≠ k) : zgo (zset H k x) (some q) = zgo H (some q) := by
  simp [zgo, zset, va_up, h]
theorem zgo_lt (h : zgo H (some k) = some y) : 1 ≤ k ∧ k < H.2 := by
  obtain ⟨k', hk', hk, -⟩ := zgo_inv h
  cases hk'
  exact hk
theorem zgo_eq (h : zgo H (some k) = some y) : H.1 k = y := by
  obtain ⟨k', hk', -, hk⟩ := zgo_inv h
  cases hk'
  exact hk
theorem qfs (h : zgo H (some k) = some (.inr (ci, fs))) : zfs H (some k) ci = some fs := zfs_of (zgo_lt h) (zgo_eq h)
theorem qok (h : zgo H (some k) = some (.inr (ci, fs))) : zok H (some k) ci = some () := zok_of (zgo_lt h) (zgo_eq h)
theorem qgI {x : Int32} (h : zgo H (some k) = some (.inr (ci, fs))) (hj : fs[j]? = some (zI x)) : zgI H (some k) ci j = some x := zgI_of (zgo_lt h) (zgo_eq h) hj
theorem qgL {x : Int64} (h : zgo H (some k) = some (.inr (ci, fs))) (hj : fs[j]? = some (zL x)) : zgL H (some k) ci j = some x := zgL_of (zgo_lt h) (zgo_eq h) hj
theorem qgR {x : Option Nat} (h : zgo H (some k) = some (.inr (ci, fs))) (hj : fs[j]? = some (zR x)) : zgR H (some k) ci j = some x := zgR_of (zgo_lt h) (zgo_eq h) hj
theorem qpV {v : zV} (h : zgo H (some k) = some (.inr (ci, fs))) (hj : j < fs.length) : zpV H (some k) ci j v = some (zset H k (.inr (ci, fs.set j v))) := zpV_of (zgo_lt h) (zgo_eq h) hj
theorem qpZ {x : Int32} (hx : x = 0 ∨ x = 1) (h : zgo H (some k) = some (.inr (ci, fs))) (hj : j < fs.length) : zpZ H (some k) ci j x = some (zset H k (.inr (ci, fs.set j (zI x)))) := zpZ_of hx (zgo_lt h) (zgo_eq h) hj
theorem qle {a : zA} (h : zgo H (some k) = some (.inl (t, N, a))) : zle H (some k) t = some (nI N) := zle_of (zgo_lt h) (zgo_eq h)
theorem qaI {f : Nat → Int32} (h : zgo H (some k) = some (.inl (t, N, .inl f))) (hi : i < N) (hN : N ≤ 2000000000) : zaI H (some k) t (nI i) = some (f i) := by
  have h1 : i < 2 ^ 31 := by omega
  rw [zaI_of (zgo_lt h) (zgo_eq h) (nI_pos h1) (by rw [nI_clamp h1]; exact hi), nI_clamp h1]
theorem qaL {f : Nat → Int64} (h : zgo H (some k) = some (.inl (t, N, .inr (.inl f)))) (hi : i < N) (hN : N ≤ 2000000000) : zaL H (some k) t (nI i) = some (f i) := by
  have h1 : i < 2 ^ 31 := by omega
  rw [zaL_of (zgo_lt h) (zgo_eq h) (nI_pos h1) (by rw [nI_clamp h1]; exact hi), nI_clamp h1]
theorem qaR {f : Nat → Option Nat} (h : zgo H (some k) = some (.inl (t, N, .inr (.inr f)))) (hi : i < N) (hN : N ≤ 2000000000) : zaR H (some k) t (nI i) = some (f i) := by
  have h1 : i < 2 ^ 31 := by omega
  rw [zaR_of (zgo_lt h) (zgo_eq h) (nI_pos h1) (by rw [nI_clamp h1]; exact hi), nI_clamp h1]
theorem qsI {f : Nat → Int32} {x : Int32} (h : zgo H (some k) = some (.inl (t, N, .inl f))) (hi : i < N) (hN : N ≤ 2000000000) : zsI H (some k) t (nI i) x = some (zset H k (.inl (t, N, .inl (va_up f i x)))) := by
  have h1 : i < 2 ^ 31 := by omega
  rw [zsI_of (zgo_lt h) (zgo_eq h) (nI_pos h1) (by rw [nI_clamp h1]; exact hi), nI_clamp h1]
  rfl
theorem qsZ {f : Nat → Int32} {x : Int32} (hx : x = 0 ∨ x = 1) (h : zgo H (some k) = some (.inl (t, N, .inl f))) (hi : i < N) (hN : N ≤ 2000000000) : zsZ H (some k) t (nI i) x = some (zset H k (.inl (t, N, .inl (va_up f i x)))) := by
  rw [zsZ, if_pos hx, qsI h hi hN]
theorem qsL {f : Nat → Int64} {x : Int64} (h : zgo H (some k) = some (.inl (t, N, .inr (.inl f)))) (hi : i < N) (hN : N ≤ 2000000000) : zsL H (some k) t (nI i) x = some (zset H k (.inl (t, N, .inr (.inl (va_up f i x))))) := by
  have h1 : i < 2 ^ 31 := by omega
  rw [zsL_of (zgo_lt h) (zgo_eq h) (nI_pos h1) (by rw [nI_clamp h1]; exact hi), nI_clamp h1]
  rfl
theorem qsR {f : Nat → Option Nat} {v : Nat} {vs : List zV} (h : zgo H (some k) = some (.inl (t, N, .inr (.inr f)))) (hv : zgo H (some v) = some (.inr (ci, vs))) (hi : i < N) (hN : N ≤ 2000000000) : zsR H (some k) t (nI i) ci (some v) = some (zset H k (.inl (t, N, .inr (.inr (va_up f i (some v)))))) := by
  have h1 : i < 2 ^ 31 := by omega
  rw [zsR_of (zgo_lt h) (zgo_eq h) (zgo_lt hv) (zgo_eq hv) (nI_pos h1) (by rw [nI_clamp h1]; exact hi), nI_clamp h1]
  rfl
end QHeap
/-- what was known stays known, but at the places of A -/
def Fr (H H' : zH) (A : Nat → Prop) : Prop := H.2 ≤ H'.2 ∧ ∀ q x, zgo H (some q) = some x → ¬ A q → zgo H' (some q) = some x
theorem Fr.rf {H : zH} {A : Nat → Prop} : Fr H H A := ⟨Nat.le_refl _, fun _ _ h _ => h⟩
theorem Fr.tr {H H' H'' : zH} {A : Nat → Prop} (h : Fr H H' A) (h' : Fr H' H'' A) : Fr H H'' A := ⟨Nat.le_trans h.1 h'.1, fun q x hq hA => h'.2 q x (h.2 q x hq hA) hA⟩
theorem Fr.up {H H' : zH} {A B : Nat → Prop} (h : Fr H H' A) (hAB : ∀ q, A q → B q) : Fr H H' B := ⟨h.1, fun q x hq hB => h.2 q x hq (fun ha => hB (hAB q ha))⟩
theorem Fr.set {H : zH} {k : Nat} {x : zC} {A : Nat → Prop} (hk : A k) : Fr H (zset H k x) A := ⟨Nat.le_refl _, fun q y hq hA => by rw [zgo_set_ne (fun e => hA (by rw [e]; exact hk))]; exact hq⟩
-- a row of numbers
def RowAt (H : zH) (k N sz : Nat) (f : Nat → Int64) : Prop := zgo H (some k) = some (.inr (7, [zR (some (k + 1)), zI (nI sz)])) ∧ zgo H (some (k + 1)) = some (.inl (2, N, .inr (.inl f)))
theorem RowAt.fr {H H' : zH} {k N sz : Nat} {f : Nat → Int64} {A : Nat → Prop} (h : RowAt H k N sz f) (hF : Fr H H' A) (h1 : ¬ A k) (h2 : ¬ A (k + 1)) : RowAt H' k N sz f := ⟨hF.2 _ _ h.1 h1, hF.2 _ _ h.2 h2⟩
def rowPush (N sz : Nat) (f : Nat → Int64) (x : Int64) : Nat → Int64 := if sz < N then va_up f sz x else f
theorem Row_append {H : zH} {k N sz : Nat} {f : Nat → Int64} {x : Int64} (h : RowAt H k N sz f) (hs : sz ≤ 1000000000) (hN : N ≤ 1000000000) : ∃ H', jF_Row_append (some k) x H = some H' ∧ RowAt H' k N (sz + 1) (rowPush N sz f x) ∧ Fr H H' (fun q => q = k ∨ q = k + 1) := by
  have h1 := h.1
  have h2 := h.2
  unfold jF_Row_append jJ_Row_append_22
  rw [qok h1, Option.bind_some, qgI h1 rfl, Option.bind_some, qgR h1 rfl, Option.bind_some, qle h2, Option.bind_some]
  by_cases hc : sz < N
  · rw [if_neg (nI_ge hc (by omega))]
    simp only [Option.bind_some]
    rw [qsL h2 hc (by omega), Option.bind_some]
    have h1' : zgo (zset H (k + 1) (.inl (2, N, .inr (.inl (va_up f sz x))))) (some k) = some (.inr (7, [zR (some (k + 1)), zI (nI sz)])) := by rw [zgo_set_ne (by omega)]; exact h1
    rw [qgI h1' rfl, Option.bind_some, qpV h1' (by simp), Option.bind_some]
    refine ⟨_, rfl, ⟨?_, ?_⟩, (Fr.set (Or.inr rfl)).tr (Fr.set (Or.inl rfl))⟩
    · rw [zgo_set_same h1', nI_1]; rfl
    · rw [zgo_set_ne (by omega), zgo_set_same h2, rowPush, if_pos hc]
  · rw [if_pos (nI_le (by omega) (by omega)), Option.bind_some, qpV h1 (by simp), Option.bind_some]
    refine ⟨_, rfl, ⟨?_, ?_⟩, Fr.set (Or.inl rfl)⟩
    · rw [zgo_set_same h1, nI_1]; rfl
    · rw [zgo_set_ne (by omega), h2, rowPush, if_neg hc]
theorem Row_clear {H : zH} {k N sz : Nat} {f : Nat → Int64} (h : RowAt H k N sz f) : ∃ H', jF_Row_clear (some k) H = some H' ∧ RowAt H' k N 0 f ∧ Fr H H' (fun q => q = k ∨ q = k + 1) := by
  unfold jF_Row_clear
  rw [qok h.1, Option.bind_some, qpV h.1 (by simp), Option.bind_some]
  refine ⟨_, rfl, ⟨?_, ?_⟩, Fr.set (Or.inl rfl)⟩
  · rw [zgo_set_same h.1]; rfl
  · rw [zgo_set_ne (by omega)]; exact h.2
/-- number i of a row, 0 where there is none -/
def rowGet (N sz : Nat) (f : Nat → Int64) (i : Int32) : Int64 := if i < 0 then 0 else if i.toNatClampNeg < sz ∧ i.toNatClampNeg < N then f i.toNatClampNeg else 0
theorem Row_at {H : zH} {k N sz : Nat} {f : Nat → Int64} {i : Int32} (h : RowAt H k N sz f) (hs : sz ≤ 1000000000) (hN : N ≤ 1000000000) : jF_Row_at (some k) i H = some (rowGet N sz f i) := by
  have h1 := h.1
  have h2 := h.2
  unfold jF_Row_at rowGet
  rw [qok h1, Option.bind_some]
  by_cases h0 : i < 0
  · rw [if_pos h0, if_pos h0]
  · rw [if_neg h0, if_neg h0]
    obtain ⟨n, hn, rfl⟩ := nI_of h0
    rw [qgI h1 rfl, Option.bind_some, nI_clamp hn]
    by_cases hc : n < sz
    · rw [if_neg (nI_ge hc (by omega)), qgR h1 rfl, Option.bind_some, qle h2, Option.bind_some]
      by_cases hd : n < N
      · rw [if_neg (nI_ge hd (by omega)), if_pos ⟨hc, hd⟩, Option.bind_some, qaL h2 hd (by omega), Option.bind_some]
      · rw [if_pos (nI_le (by omega) hn), if_neg (by omega)]
    · rw [if_pos (nI_le (by omega) hn), if_neg (by omega)]
-- a row of bytes
def BytesAt (H : zH) (k N sz : Nat) (f : Nat → Int32) : Prop := zgo H (some k) = some (.inr (2, [zR (some (k + 1)), zI (nI sz)])) ∧ zgo H (some (k + 1)) = some (.inl (0, N, .inl f))
theorem BytesAt.fr {H H' : zH} {k N sz : Nat} {f : Nat → Int32} {A : Nat → Prop} (h : BytesAt H k N sz f) (hF : Fr H H' A) (h1 : ¬ A k) (h2 : ¬ A (k + 1)) : BytesAt H' k N sz f := ⟨hF.2 _ _ h.1 h1, hF.2 _ _ h.2 h2⟩
theorem Bytes_append {H : zH} {k N sz : Nat} {f : Nat → Int32} {x : Int32} (h : BytesAt H k N sz f) (hN : N ≤ 1000000000) (hc : sz < N) : ∃ H', jF_Bytes_append (some k) x H = some H' ∧ BytesAt H' k N (sz + 1) (va_up f sz x) ∧ Fr H H' (fun q => q = k ∨ q = k + 1) := by
  have h1 := h.1
  have h2 := h.2
  unfold jF_Bytes_append
  rw [qok h1, Option.bind_some, qgI h1 rfl, Option.bind_some, qgR h1 rfl, Option.bind_some, qle h2, Option.bind_some]
  rw [if_neg (nI_ge hc (by omega))]
  simp only [Option.bind_some]
  rw [qsI h2 hc (by omega), Option.bind_some]
  have h1' : zgo (zset H (k + 1) (.inl (0, N, .inl (va_up f sz x)))) (some k) = some (.inr (2, [zR (some (k + 1)), zI (nI sz)])) := by rw [zgo_set_ne (by omega)]; exact h1
  rw [qgI h1' rfl, Option.bind_some, qpV h1' (by simp), Option.bind_some]
  refine ⟨_, rfl, ⟨?_, ?_⟩, (Fr.set (Or.inr rfl)).tr (Fr.set (Or.inl rfl))⟩
  · rw [zgo_set_same h1', nI_1]; rfl
  · rw [zgo_set_ne (by omega), zgo_set_same h2]
theorem Bytes_full {H : zH} {k N : Nat} {f : Nat → Int32} {x : Int32} (h : BytesAt H k N N f) (hN : N ≤ 1000000000) : jF_Bytes_append (some k) x H = some H := by
  unfold jF_Bytes_append
  rw [qok h.1, Option.bind_some, qgI h.1 rfl, Option.bind_some, qgR h.1 rfl, Option.bind_some, qle h.2, Option.bind_some, if_pos (nI_le (Nat.le_refl _) (by omega))]
theorem Bytes_cutTo {H : zH} {k N sz n : Nat} {f : Nat → Int32} (h : BytesAt H k N sz f) : ∃ H', jF_Bytes_cutTo (some k) (nI n) H = some H' ∧ BytesAt H' k N n f ∧ Fr H H' (fun q => q = k ∨ q = k + 1) := by
  unfold jF_Bytes_cutTo
  rw [qok h.1, Option.bind_some, qpV h.1 (by simp), Option.bind_some]
  refine ⟨_, rfl, ⟨?_, ?_⟩, Fr.set (Or.inl rfl)⟩
  · rw [zgo_set_same h.1]; rfl
  · rw [zgo_set_ne (by omega)]; exact h.2
/-- byte i of a row, 0 behind its end -/
def byteGet (sz : Nat) (f : Nat → Int32) (i : Int32) : Int32 := if i < 0 then 0 else if i.toNatClampNeg < sz then f i.toNatClampNeg else 0
theorem Bytes_at {H : zH} {k N sz : Nat} {f : Nat → Int32} {i : Int32} (h : BytesAt H k N sz f) (hs : sz ≤ N) (hN : N ≤ 1000000000) : jF_Bytes_at (some k) i H = some (byteGet sz f i) := by
  have h1 := h.1
  have h2 := h.2
  unfold jF_Bytes_at byteGet
  rw [qok h1, Option.bind_some]
  by_cases h0 : i < 0
  · rw [if_pos h0, if_pos h0]
  · rw [if_neg h0, if_neg h0]
    obtain ⟨n, hn, rfl⟩ := nI_of h0
    rw [qgI h1 rfl, Option.bind_some, nI_clamp hn]
    by_cases hc : n < sz
    · rw [if_neg (nI_ge hc (by omega)), qgR h1 rfl, Option.bind_some, qaI h2 (by omega) (by omega), Option.bind_some, if_pos hc]
    · rw [if_pos (nI_le (by omega) hn), if_neg hc]
