/-! Numbers as bytes. -/
theorem i64_ext {x y : Int64} (h : x.toUInt64 = y.toUInt64) : x = y := by
  cases x; cases y; cases h; rfl
theorem lN_ofU (n : Nat) : (UInt64.ofNat n).toInt64 = lN n := rfl
theorem lN_toU (n : Nat) : (lN n).toUInt64 = UInt64.ofNat n := rfl
theorem lN_all (x : Int64) : ∃ n, n < 2 ^ 64 ∧ x = lN n := by
  refine ⟨x.toUInt64.toNat, UInt64.toNat_lt _, ?_⟩
  show x = Int64.ofNat x.toUInt64.toNat
  apply i64_ext
  show x.toUInt64 = UInt64.ofNat x.toUInt64.toNat
  exact (UInt64.ofNat_toNat).symm
theorem lN_shr7 {n : Nat} (hn : n < 2 ^ 64) : ((lN n).toUInt64 >>> ((7 : Int32).toInt64.toUInt64 &&& Int64.toUInt64 63)).toInt64 = lN (n / 128) := by
  rw [show ((7 : Int32).toInt64.toUInt64 &&& Int64.toUInt64 63) = (7 : UInt64) by decide, lN_toU, ← lN_ofU]
  congr 1
  apply UInt64.toNat_inj.mp
  rw [UInt64.toNat_shiftRight, UInt64.toNat_ofNat_of_lt' hn, UInt64.toNat_ofNat_of_lt' (Nat.lt_of_le_of_lt (Nat.div_le_self n 128) hn), Nat.shiftRight_eq_div_pow]
  rfl
theorem lN_and127 {n : Nat} (hn : n < 2 ^ 64) : lN n &&& 127 = lN (n % 128) := by
  apply i64_ext
  show UInt64.ofNat n &&& 127 = UInt64.ofNat (n % 128)
  apply UInt64.toNat_inj.mp
  rw [UInt64.toNat_and, UInt64.toNat_ofNat_of_lt' hn, UInt64.toNat_ofNat_of_lt' (Nat.lt_of_le_of_lt (Nat.mod_le n 128) hn)]
  exact Nat.and_two_pow_sub_one_eq_mod n 7
theorem lN_0 {n : Nat} (hn : n < 2 ^ 64) : lN n = 0 ↔ n = 0 := by
  constructor
  · intro h
    have h1 := congrArg (fun x => x.toUInt64.toNat) h
    have h2 : (UInt64.ofNat n).toNat = 0 := h1
    rw [UInt64.toNat_ofNat_of_lt' hn] at h2
    exact h2
  · rintro rfl; rfl
def vb : Nat → Nat → List Nat
  | 0, n => [n]
  | f + 1, n => if n / 128 = 0 then [n] else (n % 128 + 128) :: vb f (n / 128)
theorem vb_len : ∀ (f n : Nat), (vb f n).length ≤ f + 1
  | 0, _ => Nat.le_refl _
  | f + 1, n => by
    rw [vb]
    split
    · simp
    · have := vb_len f (n / 128)
      simp only [List.length_cons]; omega
/-- a number, its sign in the last place -/
def zz (x : Int64) : Nat := ((x <<< ((1 : Int32).toInt64 &&& 63)) ^^^ (x >>> ((63 : Int32).toInt64 &&& 63))).toUInt64.toNat
def varB (x : Int64) : List Nat := vb 9 (zz x)
theorem zz_lt (x : Int64) : zz x < 2 ^ 64 := UInt64.toNat_lt _
theorem zz_eq (x : Int64) : (x <<< ((1 : Int32).toInt64 &&& 63)) ^^^ (x >>> ((63 : Int32).toInt64 &&& 63)) = lN (zz x) := by
  unfold zz
  apply i64_ext
  show _ = UInt64.ofNat _
  exact (UInt64.ofNat_toNat).symm
section VB
variable {k N fu : Nat}
theorem BL.varL (hN : N ≤ 1000000000) : ∀ (f g n : Nat) (H : zH) (bs : List Nat), f ≤ 9 → f < g → n < 2 ^ (7 * f + 7) → n < 2 ^ 64 → BL H k N bs → bs.length + (f + 1) ≤ N →
    ∃ H', jL_Bytes_appendVarint_12 fu g (some k) (lN n) (nI (10 - f)) H = some H' ∧ BL H' k N (bs ++ vb f n) ∧ Fr H H' (fun q => q = k ∨ q = k + 1) := by
  intro f
  induction f with
  | zero =>
    intro g n H bs h1 h2 h3 h4 hB hl
    obtain ⟨q, rfl⟩ : ∃ q, g = q + 1 := ⟨g - 1, by omega⟩
    rw [jL_Bytes_appendVarint_12, if_pos (show (10 : Int32) ≤ nI (10 - 0) from nI_le (Nat.le_refl _) (by omega))]
    unfold jJ_Bytes_appendVarint_53
    obtain ⟨H', e1, e2, e3⟩ := hB.append (b := n) hN (by omega)
    rw [lN_i, e1, Option.bind_some]
    exact ⟨H', rfl, e2, e3⟩
  | succ f ih =>
    intro g n H bs h1 h2 h3 h4 hB hl
    obtain ⟨q, rfl⟩ : ∃ q, g = q + 1 := ⟨g - 1, by omega⟩
    rw [jL_Bytes_appendVarint_12, if_neg (show ¬ (10 : Int32) ≤ nI (10 - (f + 1)) from nI_ge (b := 10) (by omega) (by omega)), lN_shr7 h4, vb]
    by_cases hz : n / 128 = 0
    · rw [if_pos ((lN_0 (by omega)).mpr hz), if_pos hz]
      unfold jJ_Bytes_appendVarint_53
      obtain ⟨H', e1, e2, e3⟩ := hB.append (b := n) hN (by omega)
      rw [lN_i, e1, Option.bind_some]
      exact ⟨H', rfl, e2, e3⟩
    · rw [if_neg (fun hh => hz ((lN_0 (by omega)).mp hh)), if_neg hz, lN_and127 h4, lN_i, li128, nI_add]
      obtain ⟨H1, e1, e2, e3⟩ := hB.append (b := n % 128 + 128) hN (by omega)
      rw [e1, Option.bind_some, nI_1, show 10 - (f + 1) + 1 = 10 - f by omega]
      have hp : n / 128 < 2 ^ (7 * f + 7) := by
        have : 2 ^ (7 * (f + 1) + 7) = 2 ^ (7 * f + 7) * 128 := by rw [show 7 * (f + 1) + 7 = 7 * f + 7 + 7 by omega, Nat.pow_add]
        rw [this] at h3
        exact Nat.div_lt_of_lt_mul (by rw [Nat.mul_comm]; exact h3)
      obtain ⟨H2, f1, f2, f3⟩ := ih q (n / 128) H1 (bs ++ [n % 128 + 128]) (by omega) (by omega) hp (by omega) e2 (by rw [List.length_append]; simp; omega)
      refine ⟨H2, f1, ?_, e3.tr f3⟩
      rw [List.append_assoc] at f2
      exact f2
theorem BL.var {H : zH} {bs : List Nat} {x : Int64} (hN : N ≤ 1000000000) (hB : BL H k N bs) (hl : bs.length + 10 ≤ N) (hfu : 10 ≤ fu) : ∃ H', jF_Bytes_appendVarint fu (some k) x H = some H' ∧ BL H' k N (bs ++ varB x) ∧ Fr H H' (fun q => q = k ∨ q = k + 1) := by
  have hok : zok H (some k) 2 = some () := by obtain ⟨-, f, hf, -⟩ := hB; exact qok hf.1
  unfold jF_Bytes_appendVarint varB
  rw [hok, Option.bind_some, zz_eq]
  exact BL.varL hN 9 fu (zz x) H bs (by omega) (by omega) (Nat.lt_of_lt_of_le (zz_lt x) (Nat.pow_le_pow_right (by omega) (by omega))) (zz_lt x) hB hl
end VB
