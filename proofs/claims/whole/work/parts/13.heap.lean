/-! What the heap operations answer where the cells are known. -/
section ZHeap
variable {H : zH} {k ci j t N : Nat} {fs : List zV} {i : Int32}
theorem zgo_of (hk : 1 ≤ k ∧ k < H.2) : zgo H (some k) = some (H.1 k) := by
  simp only [zgo, Option.bind_some, if_pos hk]
theorem zfs_of (hk : 1 ≤ k ∧ k < H.2) (h : H.1 k = .inr (ci, fs)) : zfs H (some k) ci = some fs := by
  simp only [zfs, zgo_of hk, Option.bind_some, h, zob, if_pos]
theorem zar_of {a : Nat × zA} (hk : 1 ≤ k ∧ k < H.2) (h : H.1 k = .inl (t, a)) : zar H (some k) t = some a := by
  simp only [zar, zgo_of hk, Option.bind_some, h, zab, if_pos]
theorem zok_of (hk : 1 ≤ k ∧ k < H.2) (h : H.1 k = .inr (ci, fs)) : zok H (some k) ci = some () := by
  simp only [zok, zfs_of hk h, Option.bind_some]
theorem zgI_of {x : Int32} (hk : 1 ≤ k ∧ k < H.2) (h : H.1 k = .inr (ci, fs)) (hj : fs[j]? = some (zI x)) : zgI H (some k) ci j = some x := by
  simp only [zgI, zfs_of hk h, Option.bind_some, hj, zvi]
theorem zgL_of {x : Int64} (hk : 1 ≤ k ∧ k < H.2) (h : H.1 k = .inr (ci, fs)) (hj : fs[j]? = some (zL x)) : zgL H (some k) ci j = some x := by
  simp only [zgL, zfs_of hk h, Option.bind_some, hj, zvl]
theorem zgR_of {x : Option Nat} (hk : 1 ≤ k ∧ k < H.2) (h : H.1 k = .inr (ci, fs)) (hj : fs[j]? = some (zR x)) : zgR H (some k) ci j = some x := by
  simp only [zgR, zfs_of hk h, Option.bind_some, hj, zvr]
theorem zpV_of {v : zV} (hk : 1 ≤ k ∧ k < H.2) (h : H.1 k = .inr (ci, fs)) (hj : j < fs.length) : zpV H (some k) ci j v = some (va_up H.1 k (.inr (ci, fs.set j v)), H.2) := by
  simp only [zpV, Option.bind_some, zfs_of hk h, if_pos hj]
theorem zpZ_of {x : Int32} (hx : x = 0 ∨ x = 1) (hk : 1 ≤ k ∧ k < H.2) (h : H.1 k = .inr (ci, fs)) (hj : j < fs.length) : zpZ H (some k) ci j x = some (va_up H.1 k (.inr (ci, fs.set j (zI x))), H.2) := by
  rw [zpZ, if_pos hx, zpV_of hk h hj]
theorem zle_of {a : zA} (hk : 1 ≤ k ∧ k < H.2) (h : H.1 k = .inl (t, N, a)) : zle H (some k) t = some (nI N) := by
  simp only [zle, zar_of hk h, Option.bind_some]
theorem zix_of (h0 : ¬ i < 0) (h1 : i.toNatClampNeg < N) : zix i N = some i.toNatClampNeg := by
  rw [zix, if_neg]
  rintro (h | h)
  · exact h0 h
  · omega
theorem zaI_of {f : Nat → Int32} (hk : 1 ≤ k ∧ k < H.2) (h : H.1 k = .inl (t, N, .inl f)) (h0 : ¬ i < 0) (h1 : i.toNatClampNeg < N) : zaI H (some k) t i = some (f i.toNatClampNeg) := by
  simp only [zaI, zar_of hk h, Option.bind_some, zix_of h0 h1, zai]
theorem zaL_of {f : Nat → Int64} (hk : 1 ≤ k ∧ k < H.2) (h : H.1 k = .inl (t, N, .inr (.inl f))) (h0 : ¬ i < 0) (h1 : i.toNatClampNeg < N) : zaL H (some k) t i = some (f i.toNatClampNeg) := by
  simp only [zaL, zar_of hk h, Option.bind_some, zix_of h0 h1, zal]
theorem zaR_of {f : Nat → Option Nat} (hk : 1 ≤ k ∧ k < H.2) (h : H.1 k = .inl (t, N, .inr (.inr f))) (h0 : ¬ i < 0) (h1 : i.toNatClampNeg < N) : zaR H (some k) t i = some (f i.toNatClampNeg) := by
  simp only [zaR, zar_of hk h, Option.bind_some, zix_of h0 h1, zaa]
theorem zsI_of {f : Nat → Int32} {x : Int32} (hk : 1 ≤ k ∧ k < H.2) (h : H.1 k = .inl (t, N, .inl f)) (h0 : ¬ i < 0) (h1 : i.toNatClampNeg < N) : zsI H (some k) t i x = some (va_up H.1 k (.inl (t, N, .inl (va_up f i.toNatClampNeg x))), H.2) := by
  simp only [zsI, zar_of hk h, Option.bind_some, zix_of h0 h1, zsi]
theorem zsZ_of {f : Nat → Int32} {x : Int32} (hx : x = 0 ∨ x = 1) (hk : 1 ≤ k ∧ k < H.2) (h : H.1 k = .inl (t, N, .inl f)) (h0 : ¬ i < 0) (h1 : i.toNatClampNeg < N) : zsZ H (some k) t i x = some (va_up H.1 k (.inl (t, N, .inl (va_up f i.toNatClampNeg x))), H.2) := by
  rw [zsZ, if_pos hx, zsI_of hk h h0 h1]
theorem zsL_of {f : Nat → Int64} {x : Int64} (hk : 1 ≤ k ∧ k < H.2) (h : H.1 k = .inl (t, N, .inr (.inl f))) (h0 : ¬ i < 0) (h1 : i.toNatClampNeg < N) : zsL H (some k) t i x = some (va_up H.1 k (.inl (t, N, .inr (.inl (va_up f i.toNatClampNeg x)))), H.2) := by
  simp only [zsL, zar_of hk h, Option.bind_some, zix_of h0 h1, zsl]
theorem zsR_of {f : Nat → Option Nat} {v : Nat} {vs : List zV} (hk : 1 ≤ k ∧ k < H.2) (h : H.1 k = .inl (t, N, .inr (.inr f))) (hv : 1 ≤ v ∧ v < H.2) (hc : H.1 v = .inr (ci, vs)) (h0 : ¬ i < 0) (h1 : i.toNatClampNeg < N) : zsR H (some k) t i ci (some v) = some (va_up H.1 k (.inl (t, N, .inr (.inr (va_up f i.toNatClampNeg (some v))))), H.2) := by
  simp only [zsR, zok_of hv hc, zar_of hk h, Option.bind_some, zix_of h0 h1, zsa]
theorem zup_same {α : Type} {f : Nat → α} {k : Nat} {x : α} : va_up f k x k = x := by simp [va_up]
theorem zup_ne {α : Type} {f : Nat → α} {k q : Nat} {x : α} (h : q ≠ k) : va_up f k x q = f q := by simp [va_up, h]
end ZHeap
-- small numbers (the kit's nI rows, and these)
theorem zn_mul (a b : Nat) : nI a * nI b = nI (a * b) := by
  unfold nI; exact (Int32.ofNat_mul a b).symm
