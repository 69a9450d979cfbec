/-! The reference's bytes; ranks of symbols. -/
theorem l_shr63 (x : Int64) : (x >>> ((63 : Int32).toInt64 &&& 63)).toInt = x.toInt >>> 63 := by
  show (x.toBitVec.sshiftRight ((((63 : Int32).toInt64 &&& 63).toBitVec.smod 64).toNat)).toInt = _
  rw [show ((((63 : Int32).toInt64 &&& 63).toBitVec.smod 64).toNat) = 63 by decide, BitVec.toInt_sshiftRight]
  rfl
theorem l_sgn (x : Int64) : (0 ≤ x → x >>> ((63 : Int32).toInt64 &&& 63) = 0) ∧ (¬ 0 ≤ x → x >>> ((63 : Int32).toInt64 &&& 63) = -1) := by
  have h1 := l_shr63 x
  have h2 := Int64.toInt_lt x
  have h3 := Int64.le_toInt x
  rw [Int.shiftRight_eq_div_pow] at h1
  constructor
  · intro h
    rw [Int64.le_iff_toInt_le] at h
    have h' : (0 : Int) ≤ x.toInt := h
    apply Int64.toInt_inj.mp
    rw [h1]
    show x.toInt / (2 ^ 63 : Nat) = 0
    exact Int.ediv_eq_zero_of_lt h' (by omega)
  · intro h
    rw [Int64.le_iff_toInt_le] at h
    have h' : x.toInt < 0 := by
      have h9 : ¬ (0 : Int) ≤ x.toInt := h
      omega
    apply Int64.toInt_inj.mp
    rw [h1]
    show x.toInt / (2 ^ 63 : Nat) = -1
    omega
theorem zz_pos {x : Int64} (h : 0 ≤ x) : x <<< ((1 : Int32).toInt64 &&& 63) = lN (zz x) := by
  rw [← zz_eq, (l_sgn x).1 h]
  simp
theorem zz_neg {x : Int64} (h : ¬ 0 ≤ x) : (x <<< ((1 : Int32).toInt64 &&& 63)) ^^^ (-1 : Int64) = lN (zz x) := by
  rw [← zz_eq, (l_sgn x).2 h]
theorem lN_hi {n : Nat} (hn : n < 2 ^ 64) : (lN n &&& (-128 : Int64)) = 0 ↔ n / 128 = 0 := by
  have e : (lN n &&& (-128 : Int64)) = lN (n / 128 * 128) := by
    apply i64_ext
    show UInt64.ofNat n &&& (-128 : Int64).toUInt64 = UInt64.ofNat (n / 128 * 128)
    apply UInt64.toNat_inj.mp
    have h2 : n / 128 * 128 ≤ n := Nat.div_mul_le_self n 128
    rw [UInt64.toNat_and, UInt64.toNat_ofNat_of_lt' hn, UInt64.toNat_ofNat_of_lt' (Nat.lt_of_le_of_lt h2 hn), show ((-128 : Int64).toUInt64).toNat = 2 ^ 64 - 2 ^ 7 by decide]
    apply Nat.eq_of_testBit_eq
    intro i
    rw [Nat.testBit_and, show n / 128 * 128 = (n >>> 7) <<< 7 by rw [Nat.shiftLeft_eq, Nat.shiftRight_eq_div_pow], Nat.testBit_shiftLeft, Nat.testBit_shiftRight]
    rw [show 2 ^ 64 - 2 ^ 7 = (2 ^ 57 - 1) <<< 7 by decide, Nat.testBit_shiftLeft, Nat.testBit_two_pow_sub_one]
    by_cases hi : 7 ≤ i
    · rw [show 7 + (i - 7) = i by omega]
      by_cases hj : i - 7 < 57
      · simp [hi, hj]
      · have : n.testBit i = false := Nat.testBit_lt_two_pow (Nat.lt_of_lt_of_le hn (Nat.pow_le_pow_right (by omega) (by omega)))
        simp [hi, hj, this]
    · simp [hi]
  have hb : n / 128 * 128 < 2 ^ 64 := Nat.lt_of_le_of_lt (Nat.div_mul_le_self n 128) hn
  rw [e, lN_0 hb]
  omega
/-- the reference's row of bytes -/
def MBy (H : zH) (v : Nat → Int32) (bs : List Nat) : Prop := MoAt H v ∧ v 28 = nI bs.length ∧ ∃ f, AI H 41 320 f ∧ ∀ i, i < bs.length → f i = nI (bs.getD i 0)
section MB
variable {H : zH} {v : Nat → Int32} {fu : Nat}
theorem Mo_putByte {bs : List Nat} {b : Nat} (h : MBy H v bs) (hl : bs.length < 320) : ∃ H', jF_Mo_putByte (some 24) (nI b) H = some H' ∧ MBy H' (va_up v 28 (nI (bs.length + 1))) (bs ++ [b]) ∧ Fr H H' (A2 24 41) := by
  obtain ⟨m, h28, f, a, c⟩ := h
  have hz : zgI H (some 24) 1 28 = some (nI bs.length) := by rw [← h28]; exact qgI m rfl
  unfold jF_Mo_putByte
  rw [qok m, Option.bind_some, qgR m rfl, Option.bind_some, hz, Option.bind_some, qsI a hl (by omega), Option.bind_some]
  generalize hH1 : zset H 41 (.inl (0, 320, .inl (va_up f bs.length (nI b)))) = H1
  have F1 : Fr H H1 (A2 24 41) := by rw [← hH1]; exact Fr.set (Or.inr rfl)
  have m1 : MoAt H1 v := by rw [← hH1]; unfold MoAt; rw [zgo_set_ne (by decide)]; exact m
  have a1 : AI H1 41 320 (va_up f bs.length (nI b)) := by rw [← hH1]; exact zgo_set_same a
  have hz1 : zgI H1 (some 24) 1 28 = some (nI bs.length) := by rw [← h28]; exact qgI m1 rfl
  rw [hz1, Option.bind_some, nI_1, m1.set (by omega), Option.bind_some]
  refine ⟨_, rfl, ⟨m1.new, ?_, va_up f bs.length (nI b), ?_, ?_⟩, F1.tr (Fr.set (Or.inl rfl))⟩
  · rw [zup_same, List.length_append]; rfl
  · unfold AI; rw [zgo_set_ne (by decide)]; exact a1
  · intro i hi
    rw [List.length_append, List.length_singleton] at hi
    rw [getD_snoc _ _ _ _ hi]
    unfold va_up
    split
    · rfl
    · exact c i (by omega)
theorem zup_idem {f : Nat → Int32} {k : Nat} {x y : Int32} : va_up (va_up f k x) k y = va_up f k y := by
  funext i
  unfold va_up
  split <;> rfl
theorem Mo_putVarL : ∀ (f g n : Nat) (H : zH) (v : Nat → Int32) (bs : List Nat), f < g → n < 2 ^ (7 * f + 7) → n < 2 ^ 64 → MBy H v bs → bs.length + (f + 1) ≤ 320 →
    ∃ H', jL_Mo_putVarint_20 fu g (some 24) (lN n) H = some H' ∧ MBy H' (va_up v 28 (nI (bs ++ vb f n).length)) (bs ++ vb f n) ∧ Fr H H' (A2 24 41) := by
  intro f
  induction f with
  | zero =>
    intro g n H v bs h2 h3 h4 hB hl
    obtain ⟨q, rfl⟩ : ∃ q, g = q + 1 := ⟨g - 1, by omega⟩
    rw [jL_Mo_putVarint_20, if_pos ((lN_hi h4).mpr (by have : n < 128 := h3; omega))]
    obtain ⟨H', e1, e2, e3⟩ := Mo_putByte (b := n) hB (by omega)
    rw [lN_i, e1, Option.bind_some]
    exact ⟨H', rfl, by rw [List.length_append]; exact e2, e3⟩
  | succ f ih =>
    intro g n H v bs h2 h3 h4 hB hl
    obtain ⟨q, rfl⟩ : ∃ q, g = q + 1 := ⟨g - 1, by omega⟩
    rw [jL_Mo_putVarint_20, vb]
    by_cases hz : n / 128 = 0
    · rw [if_pos ((lN_hi h4).mpr hz), if_pos hz]
      obtain ⟨H', e1, e2, e3⟩ := Mo_putByte (b := n) hB (by omega)
      rw [lN_i, e1, Option.bind_some]
      exact ⟨H', rfl, by rw [List.length_append]; exact e2, e3⟩
    · rw [if_neg (fun hh => hz ((lN_hi h4).mp hh)), if_neg hz, lN_and127 h4, lN_i, li128, nI_add]
      obtain ⟨H1, e1, e2, e3⟩ := Mo_putByte (b := n % 128 + 128) hB (by omega)
      rw [e1, Option.bind_some, lN_shr7 h4]
      have hp : n / 128 < 2 ^ (7 * f + 7) := by
        have : 2 ^ (7 * (f + 1) + 7) = 2 ^ (7 * f + 7) * 128 := by rw [show 7 * (f + 1) + 7 = 7 * f + 7 + 7 by omega, Nat.pow_add]
        rw [this] at h3
        exact Nat.div_lt_of_lt_mul (by rw [Nat.mul_comm]; exact h3)
      obtain ⟨H2, f1, f2, f3⟩ := ih q (n / 128) H1 _ (bs ++ [n % 128 + 128]) (by omega) hp (by omega) e2 (by rw [List.length_append]; simp; omega)
      refine ⟨H2, f1, ?_, e3.tr f3⟩
      rw [zup_idem, List.append_assoc] at f2
      exact f2
theorem Mo_putVar {bs : List Nat} {x : Int64} (hB : MBy H v bs) (hl : bs.length + 10 ≤ 320) (hfu : 10 ≤ fu) : ∃ H', jF_Mo_putVarint fu (some 24) x H = some H' ∧ MBy H' (va_up v 28 (nI (bs ++ varB x).length)) (bs ++ varB x) ∧ Fr H H' (A2 24 41) := by
  have key := Mo_putVarL (fu := fu) 9 fu (zz x) H v bs (by omega) (Nat.lt_of_lt_of_le (zz_lt x) (Nat.pow_le_pow_right (by omega) (by omega))) (zz_lt x) hB hl
  unfold jF_Mo_putVarint
  rw [qok hB.1, Option.bind_some]
  by_cases h0 : (0 : Int64) ≤ x
  · rw [if_pos h0, zz_pos h0]; exact key
  · rw [if_neg h0, zz_neg h0]; exact key
end MB
