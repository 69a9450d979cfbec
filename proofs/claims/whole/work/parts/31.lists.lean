/-! Bytes and numbers as lists; the disk. -/
theorem zup_nI (g : Nat → Nat) (k b : Nat) : va_up (fun i => nI (g i)) k (nI b) = fun i => nI (va_up g k b i) := by
  funext i
  unfold va_up
  split <;> rfl
/-- a row of bytes that holds the list bs -/
def BL (H : zH) (k N : Nat) (bs : List Nat) : Prop := bs.length ≤ N ∧ ∃ f, BytesAt H k N bs.length f ∧ ∀ i, i < bs.length → f i = nI (bs.getD i 0)
theorem BL.fr {H H' : zH} {k N : Nat} {bs : List Nat} {A : Nat → Prop} (h : BL H k N bs) (hF : Fr H H' A) (h1 : ¬ A k) (h2 : ¬ A (k + 1)) : BL H' k N bs := by
  obtain ⟨hl, f, hf, hg⟩ := h
  exact ⟨hl, f, hf.fr hF h1 h2, hg⟩
theorem getD_snoc {α : Type} (l : List α) (x d : α) (i : Nat) (h : i < l.length + 1) : (l ++ [x]).getD i d = if i = l.length then x else l.getD i d := by
  by_cases hi : i = l.length
  · subst hi
    simp [List.getD]
  · have h2 : i < l.length := by omega
    simp [List.getD, hi, List.getElem?_append_left h2]
theorem BL.append {H : zH} {k N b : Nat} {bs : List Nat} (h : BL H k N bs) (hN : N ≤ 1000000000) (hc : bs.length < N) : ∃ H', jF_Bytes_append (some k) (nI b) H = some H' ∧ BL H' k N (bs ++ [b]) ∧ Fr H H' (fun q => q = k ∨ q = k + 1) := by
  obtain ⟨hl, f, hf, hg⟩ := h
  obtain ⟨H', e1, e2, e3⟩ := Bytes_append (x := nI b) hf hN hc
  refine ⟨H', e1, ⟨by rw [List.length_append]; exact hc, va_up f bs.length (nI b), ?_, ?_⟩, e3⟩
  · rw [List.length_append]; exact e2
  · intro i hi
    rw [List.length_append, List.length_singleton] at hi
    rw [getD_snoc _ _ _ _ hi]
    unfold va_up
    split
    · rfl
    · exact hg i (by omega)
theorem BL.cut {H : zH} {k N n : Nat} {bs : List Nat} (h : BL H k N bs) (hn : n ≤ bs.length) : ∃ H', jF_Bytes_cutTo (some k) (nI n) H = some H' ∧ BL H' k N (bs.take n) ∧ Fr H H' (fun q => q = k ∨ q = k + 1) := by
  obtain ⟨hl, f, hf, hg⟩ := h
  obtain ⟨H', e1, e2, e3⟩ := Bytes_cutTo (n := n) hf
  have hle : (bs.take n).length = n := by rw [List.length_take]; omega
  refine ⟨H', e1, ⟨by omega, f, by rw [hle]; exact e2, ?_⟩, e3⟩
  intro i hi
  rw [hle] at hi
  rw [hg i (by omega)]
  simp [List.getD, List.getElem?_take, hi]
theorem BL.at {H : zH} {k N i : Nat} {bs : List Nat} (h : BL H k N bs) (hN : N ≤ 1000000000) (hi : i < 2 ^ 31) : jF_Bytes_at (some k) (nI i) H = some (nI (bs.getD i 0)) := by
  obtain ⟨hl, f, hf, hg⟩ := h
  rw [Bytes_at hf hl hN, byteGet, if_neg (nI_pos hi), nI_clamp hi]
  by_cases hc : i < bs.length
  · rw [if_pos hc, hg i hc]
  · rw [if_neg hc]
    simp [List.getD, List.getElem?_eq_none (Nat.le_of_not_lt hc), nI_0]
theorem BL.size {H : zH} {k N : Nat} {bs : List Nat} (h : BL H k N bs) : zgI H (some k) 2 1 = some (nI bs.length) := by
  obtain ⟨-, f, hf, -⟩ := h
  exact qgI hf.1 rfl
theorem sum_take_succ (bs : List Nat) (i : Nat) (h : i < bs.length) : (bs.take (i + 1)).sum = (bs.take i).sum + bs.getD i 0 := by
  rw [List.take_succ, List.sum_append]
  simp [List.getD, List.getElem?_eq_getElem h]
theorem BL.sumL {H : zH} {k N fu : Nat} {bs : List Nat} (h : BL H k N bs) (hN : N ≤ 1000000000) : ∀ (g i : Nat), i ≤ bs.length → bs.length < i + g → jL_Bytes_sum_4 fu H g (some k) (nI (bs.take i).sum) (nI i) = some (nI bs.sum) := by
  obtain ⟨hl, f, hf, hg⟩ := h
  intro g
  induction g with
  | zero => intro i h1 h2; omega
  | succ g ih =>
    intro i h1 h2
    rw [jL_Bytes_sum_4, qgI hf.1 rfl, Option.bind_some]
    by_cases hc : i < bs.length
    · rw [if_neg (nI_ge hc (by omega)), qgR hf.1 rfl, Option.bind_some, qaI hf.2 (by omega) (by omega), Option.bind_some, hg i hc, nI_add, nI_1, ← sum_take_succ bs i hc]
      exact ih (i + 1) (by omega) (by omega)
    · rw [if_pos (nI_le (by omega) (by omega))]
      have hi : i = bs.length := by omega
      rw [hi, List.take_length]
theorem BL.sum {H : zH} {k N fu : Nat} {bs : List Nat} (h : BL H k N bs) (hN : N ≤ 1000000000) (hf : bs.length < fu) : jF_Bytes_sum fu (some k) H = some (nI bs.sum) := by
  have h1 := h.sumL (fu := fu) hN fu 0 (Nat.zero_le _) (by omega)
  obtain ⟨hl, f, hf, hg⟩ := h
  unfold jF_Bytes_sum
  rw [qok hf.1, Option.bind_some]
  exact h1
/-- a row of numbers that holds the list xs (what is beyond its room is only counted) -/
def RL (H : zH) (k N : Nat) (xs : List Int64) : Prop := ∃ f, RowAt H k N xs.length f ∧ ∀ i, i < xs.length → i < N → f i = xs.getD i 0
theorem RL.fr {H H' : zH} {k N : Nat} {xs : List Int64} {A : Nat → Prop} (h : RL H k N xs) (hF : Fr H H' A) (h1 : ¬ A k) (h2 : ¬ A (k + 1)) : RL H' k N xs := by
  obtain ⟨f, hf, hg⟩ := h
  exact ⟨f, hf.fr hF h1 h2, hg⟩
theorem RL.append {H : zH} {k N : Nat} {xs : List Int64} {x : Int64} (h : RL H k N xs) (hs : xs.length ≤ 1000000000) (hN : N ≤ 1000000000) : ∃ H', jF_Row_append (some k) x H = some H' ∧ RL H' k N (xs ++ [x]) ∧ Fr H H' (fun q => q = k ∨ q = k + 1) := by
  obtain ⟨f, hf, hg⟩ := h
  obtain ⟨H', e1, e2, e3⟩ := Row_append (x := x) hf hs hN
  refine ⟨H', e1, ⟨rowPush N xs.length f x, ?_, ?_⟩, e3⟩
  · rw [List.length_append]; exact e2
  · intro i hi hiN
    rw [List.length_append, List.length_singleton] at hi
    rw [getD_snoc _ _ _ _ hi]
    unfold rowPush
    by_cases hc : xs.length < N
    · rw [if_pos hc]
      unfold va_up
      split
      · rfl
      · exact hg i (by omega) hiN
    · rw [if_neg hc, if_neg (by omega)]
      exact hg i (by omega) hiN
theorem RL.clear {H : zH} {k N : Nat} {xs : List Int64} (h : RL H k N xs) : ∃ H', jF_Row_clear (some k) H = some H' ∧ RL H' k N [] ∧ Fr H H' (fun q => q = k ∨ q = k + 1) := by
  obtain ⟨f, hf, hg⟩ := h
  obtain ⟨H', e1, e2, e3⟩ := Row_clear hf
  exact ⟨H', e1, ⟨f, e2, fun i hi => by simp at hi⟩, e3⟩
theorem RL.size {H : zH} {k N : Nat} {xs : List Int64} (h : RL H k N xs) : zgI H (some k) 7 1 = some (nI xs.length) := by
  obtain ⟨f, hf, -⟩ := h
  exact qgI hf.1 rfl
theorem RL.at {H : zH} {k N i : Nat} {xs : List Int64} (h : RL H k N xs) (hs : xs.length ≤ 1000000000) (hN : N ≤ 1000000000) (hi : i < N) : jF_Row_at (some k) (nI i) H = some (xs.getD i 0) := by
  obtain ⟨f, hf, hg⟩ := h
  have h1 : i < 2 ^ 31 := by omega
  rw [Row_at hf hs hN, rowGet, if_neg (nI_pos h1), nI_clamp h1]
  by_cases hc : i < xs.length
  · rw [if_pos ⟨hc, hi⟩, hg i hc hi]
  · rw [if_neg (by omega)]
    simp [List.getD, List.getElem?_eq_none (Nat.le_of_not_lt hc)]
theorem RL.neg {H : zH} {k N : Nat} {i : Int32} {xs : List Int64} (h : RL H k N xs) (hs : xs.length ≤ 1000000000) (hN : N ≤ 1000000000) (hi : i < 0) : jF_Row_at (some k) i H = some 0 := by
  obtain ⟨f, hf, hg⟩ := h
  rw [Row_at hf hs hN, rowGet, if_pos hi]
-- the disk: up or down, the limit, writes made, its bytes
abbrev yD : Type := Bool × Option Nat × Nat × (Nat → Nat)
def limI : Option Nat → Int32
  | none => -1
  | some n => nI n
def bI (b : Bool) : Int32 := if b then 1 else 0
def DiskAt (H : zH) (D : yD) : Prop := zgo H (some 2) = some (.inr (3, [zR (some 3), zI (bI D.1), zI (limI D.2.1), zI (nI D.2.2.1)])) ∧ zgo H (some 3) = some (.inl (0, 1280, .inl (fun i => nI (D.2.2.2 i))))
def A2 (a b : Nat) : Nat → Prop := fun q => q = a ∨ q = b
theorem DiskAt.fr {H H' : zH} {D : yD} {A : Nat → Prop} (h : DiskAt H D) (hF : Fr H H' A) (h1 : ¬ A 2) (h2 : ¬ A 3) : DiskAt H' D := ⟨hF.2 _ _ h.1 h1, hF.2 _ _ h.2 h2⟩
def dget (dk : Nat → Nat) (i : Nat) : Nat := if i < 1280 then dk i else 0
theorem Disk_at {H : zH} {D : yD} {i : Nat} (h : DiskAt H D) (hi : i < 2 ^ 31) : jF_Disk_at (some 2) (nI i) H = some (nI (dget D.2.2.2 i)) := by
  unfold jF_Disk_at dget
  rw [qok h.1, Option.bind_some, if_neg (nI_pos hi), qgR h.1 rfl, Option.bind_some, qle h.2, Option.bind_some]
  by_cases hc : i < 1280
  · rw [if_neg (nI_ge hc (by omega)), Option.bind_some, qaI h.2 hc (by omega), Option.bind_some, if_pos hc]
  · rw [if_pos (nI_le (by omega) hi), if_neg hc, nI_0]
theorem Disk_set {H : zH} {D : yD} {i b : Nat} (h : DiskAt H D) (hi : i < 1280) : ∃ H', jF_Disk_set (some 2) (nI i) (nI b) H = some H' ∧ DiskAt H' (D.1, D.2.1, D.2.2.1, va_up D.2.2.2 i b) ∧ Fr H H' (A2 2 3) := by
  unfold jF_Disk_set
  rw [qok h.1, Option.bind_some, if_neg (nI_pos (by omega)), qgR h.1 rfl, Option.bind_some, qle h.2, Option.bind_some, if_neg (nI_ge hi (by omega)), Option.bind_some, qsI h.2 hi (by omega), Option.bind_some]
  refine ⟨_, rfl, ⟨?_, ?_⟩, Fr.set (Or.inr rfl)⟩
  · rw [zgo_set_ne (by decide)]; exact h.1
  · rw [zgo_set_same h.2, zup_nI]
