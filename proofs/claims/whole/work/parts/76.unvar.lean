/-! Numbers out of bytes. -/
theorem zzB (x : BitVec 64) : (((x <<< 1) ^^^ (x.sshiftRight 63)) >>> 1) ^^^ (-(((x <<< 1) ^^^ (x.sshiftRight 63)) &&& 1#64)) = x := by
  have h1 : ∀ b : Bool, x.msb = b → (((x <<< 1) ^^^ (x.sshiftRight 63)) &&& 1#64) = if b then 1#64 else 0#64 := by
    intro b hb
    apply BitVec.eq_of_getLsbD_eq
    intro i hi
    by_cases h0 : i = 0
    · subst h0
      rw [BitVec.msb_eq_getLsbD_last] at hb
      cases b <;> simp at hb ⊢ <;> rw [BitVec.getElem_sshiftRight] <;> simp [hb]
    · cases b <;> simp [h0, BitVec.getLsbD_one]
  have hm : x.getLsbD 63 = x.msb := (BitVec.msb_eq_getLsbD_last x).symm
  cases hb : x.msb with
  | false =>
    rw [h1 false hb]
    rw [hb] at hm
    apply BitVec.eq_of_getLsbD_eq
    intro i hi
    simp [BitVec.getLsbD_sshiftRight, BitVec.getLsbD_shiftLeft, hb]
    by_cases h63 : i = 63
    · subst h63; simpa using hm
    · have a1 : 1 + i < 64 := by omega
      have a2 : ¬ 64 ≤ 1 + i := by omega
      have a3 : ¬ 63 + (1 + i) < 64 := by omega
      simp [a1, a3]
  | true =>
    rw [h1 true hb]
    rw [hb] at hm
    have ha : (-(1#64)) = BitVec.allOnes 64 := by decide
    rw [if_pos rfl, ha]
    apply BitVec.eq_of_getLsbD_eq
    intro i hi
    rw [BitVec.getLsbD_xor, BitVec.getLsbD_allOnes]
    simp [BitVec.getLsbD_sshiftRight, BitVec.getLsbD_shiftLeft, hb]
    by_cases h63 : i = 63
    · subst h63; simp [hm]
    · have a1 : 1 + i < 64 := by omega
      have a2 : ¬ 64 ≤ 1 + i := by omega
      have a3 : ¬ 63 + (1 + i) < 64 := by omega
      simp [a1, a2, a3, hi]
theorem zz_dec (x : Int64) : (((lN (zz x)).toUInt64 >>> ((1 : Int32).toInt64.toUInt64 &&& Int64.toUInt64 63)).toInt64) ^^^ (-(lN (zz x) &&& (1 : Int64))) = x := by
  rw [← zz_eq]
  apply Int64.toBitVec_inj.mp
  exact zzB x.toBitVec
theorem var_or {m i y : Nat} (hi : i ≤ 9) (hm : m < 2 ^ (7 * i)) (hy : m + y * 2 ^ (7 * i) < 2 ^ 64) (hy2 : y < 128) : lN m ||| ((nI y).toInt64 <<< ((nI (7 * i)).toInt64 &&& 63)) = lN (m + y * 2 ^ (7 * i)) := by
  rw [nI_l (by omega), nI_l (by omega)]
  have h9 : i = 0 ∨ i = 1 ∨ i = 2 ∨ i = 3 ∨ i = 4 ∨ i = 5 ∨ i = 6 ∨ i = 7 ∨ i = 8 ∨ i = 9 := by omega
  have hs : lN (7 * i) &&& 63 = lN (7 * i) := by rcases h9 with rfl | rfl | rfl | rfl | rfl | rfl | rfl | rfl | rfl | rfl <;> decide
  rw [hs]
  have hsm : (lN (7 * i)).toBitVec.smod 64 = BitVec.ofNat 64 (7 * i) := by rcases h9 with rfl | rfl | rfl | rfl | rfl | rfl | rfl | rfl | rfl | rfl <;> decide
  apply Int64.toBitVec_inj.mp
  show (lN m).toBitVec ||| ((lN y).toBitVec <<< ((lN (7 * i)).toBitVec.smod 64)) = BitVec.ofNat 64 (m + y * 2 ^ (7 * i))
  rw [hsm]
  show BitVec.ofNat 64 m ||| (BitVec.ofNat 64 y <<< BitVec.ofNat 64 (7 * i)) = BitVec.ofNat 64 (m + y * 2 ^ (7 * i))
  apply BitVec.eq_of_toNat_eq
  have e1 : m < 2 ^ 64 := by omega
  rw [BitVec.toNat_or, BitVec.shiftLeft_eq', BitVec.toNat_shiftLeft, BitVec.toNat_ofNat, BitVec.toNat_ofNat, BitVec.toNat_ofNat, BitVec.toNat_ofNat, Nat.mod_eq_of_lt e1, Nat.mod_eq_of_lt (by omega : y < 2 ^ 64), Nat.mod_eq_of_lt (by omega : 7 * i < 2 ^ 64), Nat.mod_eq_of_lt hy, Nat.shiftLeft_eq, Nat.mod_eq_of_lt (by omega : y * 2 ^ (7 * i) < 2 ^ 64), Nat.or_comm, Nat.mul_comm, ← Nat.two_pow_add_eq_or_of_lt hm, Nat.add_comm]
def zdec (y : Int64) : Int64 := ((y.toUInt64 >>> ((1 : Int32).toInt64.toUInt64 &&& Int64.toUInt64 63)).toInt64) ^^^ (-(y &&& (1 : Int64)))
theorem zdec_zz (x : Int64) : zdec (lN (zz x)) = x := zz_dec x
/-- these bytes lie at that place -/
def onD (dk : Nat → Nat) (a : Nat) (b : List Nat) : Prop := ∀ i, i < b.length → dk (a + i) = b.getD i 0
theorem getD_left {α : Type} {a b : List α} {i : Nat} {d : α} (h : i < a.length) : (a ++ b).getD i d = a.getD i d := by
  simp [List.getD, List.getElem?_append_left h]
theorem getD_rt {α : Type} {a b : List α} {i : Nat} {d : α} : (a ++ b).getD (a.length + i) d = b.getD i d := by
  simp [List.getD, List.getElem?_append_right]
theorem onD.l {dk : Nat → Nat} {a : Nat} {b c : List Nat} (h : onD dk a (b ++ c)) : onD dk a b := fun i hi => by
  rw [h i (by rw [List.length_append]; omega), getD_left hi]
theorem onD.r {dk : Nat → Nat} {a : Nat} {b c : List Nat} (h : onD dk a (b ++ c)) : onD dk (a + b.length) c := fun i hi => by
  rw [Nat.add_assoc, h (b.length + i) (by rw [List.length_append]; omega), getD_rt]
theorem onD.hd {dk : Nat → Nat} {a x : Nat} {b : List Nat} (h : onD dk a (x :: b)) : dk a = x := h 0 (by simp)
theorem onD.tl {dk : Nat → Nat} {a x : Nat} {b : List Nat} (h : onD dk a (x :: b)) : onD dk (a + 1) b := onD.r (b := [x]) h
theorem vb_pos : ∀ (f n : Nat), 1 ≤ (vb f n).length
  | 0, _ => by simp [vb]
  | f + 1, n => by
    rw [vb]
    split <;> simp
theorem pw_step {m n i : Nat} : m + n % 128 * 2 ^ (7 * i) + n / 128 * 2 ^ (7 * (i + 1)) = m + n * 2 ^ (7 * i) := by
  have h1 : 2 ^ (7 * (i + 1)) = 128 * 2 ^ (7 * i) := by rw [show 7 * (i + 1) = 7 + 7 * i by omega, Nat.pow_add]
  rw [h1, ← Nat.mul_assoc, Nat.add_assoc, ← Nat.add_mul]
  congr 2
  omega
theorem pw_lt {m n i : Nat} (hm : m < 2 ^ (7 * i)) : m + n % 128 * 2 ^ (7 * i) < 2 ^ (7 * (i + 1)) := by
  have h1 : 2 ^ (7 * (i + 1)) = 128 * 2 ^ (7 * i) := by rw [show 7 * (i + 1) = 7 + 7 * i by omega, Nat.pow_add]
  have h2 : n % 128 * 2 ^ (7 * i) ≤ 127 * 2 ^ (7 * i) := Nat.mul_le_mul_right _ (by omega)
  rw [h1]
  omega
section CV
variable {H : zH} {D : yD} {fu : Nat}
theorem C_bvL (h : DiskAt H D) : ∀ (f g n a : Nat), f ≤ 9 → f < g → onD D.2.2.2 a (vb f n) → n < 2 ^ 64 → a + (vb f n).length ≤ 1280 → jL_Coder_behindVarint_4 fu H g (some 2) (nI a) (nI (10 - f)) = some (nI (a + (vb f n).length)) := by
  intro f
  induction f with
  | zero =>
    intro g n a h1 h2 ho hn ha
    obtain ⟨q, rfl⟩ : ∃ q, g = q + 1 := ⟨g - 1, by omega⟩
    rw [jL_Coder_behindVarint_4, if_pos (show (10 : Int32) ≤ nI (10 - 0) from nI_le (Nat.le_refl _) (by omega)), nI_1]
    rfl
  | succ f ih =>
    intro g n a h1 h2 ho hn ha
    obtain ⟨q, rfl⟩ : ∃ q, g = q + 1 := ⟨g - 1, by omega⟩
    have hp := vb_pos (f + 1) n
    rw [jL_Coder_behindVarint_4, if_neg (show ¬ (10 : Int32) ≤ nI (10 - (f + 1)) from nI_ge (b := 10) (by omega) (by omega)), Disk_at h (by omega), Option.bind_some, dget, if_pos (show a < 1280 by omega), li128]
    rw [vb] at ho ha ⊢
    by_cases hz : n / 128 = 0
    · rw [if_pos hz] at ho ha ⊢
      rw [ho.hd, if_ltN (by omega) (by omega), if_pos (by omega), nI_1]
      rfl
    · rw [if_neg hz] at ho ha ⊢
      rw [List.length_cons] at ha
      rw [ho.hd, if_ltN (by omega) (by omega), if_neg (by omega), nI_1, nI_1, show 10 - (f + 1) + 1 = 10 - f by omega, ih q (n / 128) (a + 1) (by omega) (by omega) ho.tl (by omega) (by omega), List.length_cons]
      congr 2
      omega
theorem C_bv (h : DiskAt H D) {a : Nat} {x : Int64} (ho : onD D.2.2.2 a (varB x)) (ha : a + (varB x).length ≤ 1280) (hfu : 10 ≤ fu) : jF_Coder_behindVarint fu (some 2) (nI a) H = some (nI (a + (varB x).length)) :=
  C_bvL h 9 fu (zz x) a (by omega) (by omega) ho (zz_lt x) ha
theorem C_vaL (h : DiskAt H D) {a : Nat} : ∀ (f g n m i : Nat), i + f = 9 → f + 1 < g → onD D.2.2.2 (a + i) (vb f n) → a + i + (vb f n).length ≤ 1280 → m < 2 ^ (7 * i) → m + n * 2 ^ (7 * i) < 2 ^ 64 → jL_Coder_varintAt_13 fu H g (some 2) (nI a) (nI (i + (vb f n).length)) (lN m) (nI i) = some (zdec (lN (m + n * 2 ^ (7 * i)))) := by
  intro f
  have last : ∀ (g n m i : Nat), i ≤ 9 → 1 < g → D.2.2.2 (a + i) = n → a + i < 1280 → n < 128 → m < 2 ^ (7 * i) → m + n * 2 ^ (7 * i) < 2 ^ 64 → jL_Coder_varintAt_13 fu H g (some 2) (nI a) (nI (i + 1)) (lN m) (nI i) = some (zdec (lN (m + n * 2 ^ (7 * i)))) := by
    intro g n m i h1 h2 h3 h4 h5 h6 h7
    obtain ⟨q, rfl⟩ : ∃ q, g = q + 1 + 1 := ⟨g - 2, by omega⟩
    rw [jL_Coder_varintAt_13, if_neg (nI_ge (by omega) (by omega)), nI_add, Disk_at h (by omega), Option.bind_some, dget, if_pos (by omega), h3, pk_andN (by omega) 7 (by decide), li7, pk_mul, Nat.mod_eq_of_lt (show n < 2 ^ 7 by omega), var_or h1 h6 h7 h5, nI_1, jL_Coder_varintAt_13, if_pos (nI_le (Nat.le_refl _) (by omega))]
    rfl
  induction f with
  | zero =>
    intro g n m i h1 h2 ho ha hm hmn
    have hi : i = 9 := by omega
    subst hi
    exact last g n m 9 (by omega) (by omega) ho.hd (by simp [vb] at ha; omega) (by omega) hm hmn
  | succ f ih =>
    intro g n m i h1 h2 ho ha hm hmn
    rw [vb] at ho ha ⊢
    by_cases hz : n / 128 = 0
    · rw [if_pos hz] at ho ha ⊢
      exact last g n m i (by omega) (by omega) ho.hd (by simp at ha; omega) (by omega) hm hmn
    · rw [if_neg hz] at ho ha ⊢
      rw [List.length_cons] at ha
      obtain ⟨q, rfl⟩ : ∃ q, g = q + 1 := ⟨g - 1, by omega⟩
      have hb : n < 2 ^ 64 := by
        have := Nat.le_mul_of_pos_right n (show 0 < 2 ^ (7 * i) from Nat.pow_pos (by omega))
        omega
      have hst := pw_step (m := m) (n := n) (i := i)
      rw [jL_Coder_varintAt_13, List.length_cons, if_neg (nI_ge (by omega) (by omega)), nI_add, Disk_at h (by omega), Option.bind_some, dget, if_pos (by omega), ho.hd, pk_andN (by omega) 7 (by decide), li7, pk_mul, show (n % 128 + 128) % 2 ^ 7 = n % 128 by omega, var_or (by omega) hm (by omega) (by omega), nI_1, show i + ((vb f (n / 128)).length + 1) = i + 1 + (vb f (n / 128)).length by omega, ih q (n / 128) (m + n % 128 * 2 ^ (7 * i)) (i + 1) (by omega) (by omega) ho.tl (by omega) (pw_lt hm) (by rw [hst]; exact hmn), hst]
theorem C_va (h : DiskAt H D) {a : Nat} {x : Int64} (ho : onD D.2.2.2 a (varB x)) (ha : a + (varB x).length ≤ 1280) (hfu : 12 ≤ fu) : jF_Coder_varintAt fu (some 2) (nI a) H = some x := by
  unfold jF_Coder_varintAt
  have hz := zz_lt x
  rw [C_bv h ho ha (by omega), Option.bind_some, pk_sub (by omega), Nat.add_sub_cancel_left]
  have := C_vaL (fu := fu) h (a := a) 9 fu (zz x) 0 0 rfl (by omega) ho ha (by simp) (by simpa using hz)
  rw [Nat.zero_add, nI_0] at this
  rw [show (0 : Int64) = lN 0 from rfl]
  have e : varB x = vb 9 (zz x) := rfl
  rw [e, this]
  congr 1
  rw [Nat.mul_zero, Nat.pow_zero, Nat.mul_one, Nat.zero_add]
  exact zdec_zz x
end CV
section MV
theorem li70 : (70 : Int32) = nI 70 := rfl
variable {D : yD} {fu : Nat} {W : yW}
theorem Mo_curs {H : zH} {v : Nat → Int32} (h : MRv H v W) {x : Int32} : ∃ H', zpV H (some 24) 1 33 (zI x) = some H' ∧ MRv H' (va_up v 33 x) W ∧ Fr H H' (fun q => q = 24) := by
  refine ⟨_, h.m.set (by omega), ?_, Fr.set rfl⟩
  have F1 : Fr H (zset H 24 (.inr (1, MoF (va_up v 33 x)))) (fun q => q = 24) := Fr.set rfl
  exact h.scr F1 (fun q hq => by omega) h.m.new (vE.up (by omega)) (h.2.2.2.2.2.2.fr F1 (fun q hq => by omega))
theorem Mo_varL {a : Nat} : ∀ (f g n m i : Nat) (H : zH) (v : Nat → Int32) (lb : Nat), i + f = 9 → f + 1 < g → 128 ≤ lb → lb < 256 → MRv H v W → v 33 = nI (a + i) → onD W.2.2.1.2.2.2 (a + i) (vb f n) → a + i + (vb f n).length ≤ 1280 → m < 2 ^ (7 * i) → m + n * 2 ^ (7 * i) < 2 ^ 64 →
    ∃ H' v', jL_Mo_varint_9 fu g (some 24) (lN m) (nI (7 * i)) (nI lb) H = some (zdec (lN (m + n * 2 ^ (7 * i))), H') ∧ MRv H' v' W ∧ v' 33 = nI (a + i + (vb f n).length) ∧ Fr H H' (fun q => q = 24) := by
  intro f
  have last : ∀ (g n m i : Nat) (H : zH) (v : Nat → Int32) (lb : Nat), i ≤ 9 → 1 < g → 128 ≤ lb → lb < 256 → MRv H v W → v 33 = nI (a + i) → W.2.2.1.2.2.2 (a + i) = n → a + i < 1280 → n < 128 → m < 2 ^ (7 * i) → m + n * 2 ^ (7 * i) < 2 ^ 64 →
      ∃ H' v', jL_Mo_varint_9 fu g (some 24) (lN m) (nI (7 * i)) (nI lb) H = some (zdec (lN (m + n * 2 ^ (7 * i))), H') ∧ MRv H' v' W ∧ v' 33 = nI (a + i + 1) ∧ Fr H H' (fun q => q = 24) := by
    intro g n m i H v lb h1 h2 l1 l2 h hv h3 h4 h5 h6 h7
    obtain ⟨q, rfl⟩ : ∃ q, g = q + 1 + 1 := ⟨g - 2, by omega⟩
    have hz : zgI H (some 24) 1 33 = some (nI (a + i)) := by rw [← hv]; exact qgI h.m rfl
    have hd : zaI H (some 37) 0 (nI (a + i)) = some (nI n) := by rw [← h3]; exact Mo_dk h.2.2.1 h4
    obtain ⟨H1, e1, e2, e3⟩ := Mo_curs (x := nI (a + i + 1)) h
    rw [jL_Mo_varint_9, li128, if_ltN (by omega) (by omega), if_neg (by omega), li70, if_leN (by omega) (by omega), if_neg (by omega), qgR h.m rfl, Option.bind_some, hz, Option.bind_some, hd, Option.bind_some, Option.bind_some, nI_1, e1, Option.bind_some, pk_andN (by omega) 7 (by decide), Nat.mod_eq_of_lt (show n < 2 ^ 7 by omega), var_or h1 h6 h7 h5, jL_Mo_varint_9, li128, if_ltN (by omega) (by omega), if_pos (by omega)]
    exact ⟨H1, _, rfl, e2, zup_same, e3⟩
  induction f with
  | zero =>
    intro g n m i H v lb h1 h2 l1 l2 h hv ho ha hm hmn
    have hi : i = 9 := by omega
    subst hi
    exact last g n m 9 H v lb (by omega) (by omega) l1 l2 h hv ho.hd (by simp [vb] at ha; omega) (by omega) hm hmn
  | succ f ih =>
    intro g n m i H v lb h1 h2 l1 l2 h hv ho ha hm hmn
    rw [vb] at ho ha ⊢
    by_cases hz : n / 128 = 0
    · rw [if_pos hz] at ho ha ⊢
      exact last g n m i H v lb (by omega) (by omega) l1 l2 h hv ho.hd (by simp at ha; omega) (by omega) hm hmn
    · rw [if_neg hz] at ho ha ⊢
      rw [List.length_cons] at ha
      obtain ⟨q, rfl⟩ : ∃ q, g = q + 1 := ⟨g - 1, by omega⟩
      have hst := pw_step (m := m) (n := n) (i := i)
      have hz3 : zgI H (some 24) 1 33 = some (nI (a + i)) := by rw [← hv]; exact qgI h.m rfl
      have hd : zaI H (some 37) 0 (nI (a + i)) = some (nI (n % 128 + 128)) := by rw [← ho.hd]; exact Mo_dk h.2.2.1 (by omega)
      obtain ⟨H1, e1, e2, e3⟩ := Mo_curs (x := nI (a + i + 1)) h
      rw [jL_Mo_varint_9, li128, if_ltN (by omega) (by omega), if_neg (by omega), li70, if_leN (by omega) (by omega), if_neg (by omega), qgR h.m rfl, Option.bind_some, hz3, Option.bind_some, hd, Option.bind_some, Option.bind_some, nI_1, e1, Option.bind_some, pk_andN (by omega) 7 (by decide), show (n % 128 + 128) % 2 ^ 7 = n % 128 by omega, var_or (by omega) hm (by omega) (by omega), li7, nI_add, show 7 * i + 7 = 7 * (i + 1) by omega]
      obtain ⟨H2, v2, f1, f2, f3, f4⟩ := ih q (n / 128) (m + n % 128 * 2 ^ (7 * i)) (i + 1) H1 _ (n % 128 + 128) (by omega) (by omega) (by omega) (by omega) e2 (by rw [zup_same, Nat.add_assoc]) ho.tl (by omega) (pw_lt hm) (by rw [hst]; exact hmn)
      rw [hst] at f1
      refine ⟨H2, v2, f1, f2, ?_, e3.tr f4⟩
      rw [f3, List.length_cons]
      congr 1
      omega
theorem Mo_var {H : zH} {v : Nat → Int32} {a : Nat} {x : Int64} (h : MRv H v W) (hv : v 33 = nI a) (ho : onD W.2.2.1.2.2.2 a (varB x)) (ha : a + (varB x).length ≤ 1280) (hfu : 12 ≤ fu) :
    ∃ H' v', jF_Mo_varint fu (some 24) H = some (x, H') ∧ MRv H' v' W ∧ v' 33 = nI (a + (varB x).length) ∧ Fr H H' (fun q => q = 24) := by
  have hz := zz_lt x
  obtain ⟨H1, v1, e1, e2, e3, e4⟩ := Mo_varL (fu := fu) (W := W) (a := a) 9 fu (zz x) 0 0 H v 128 rfl (by omega) (by omega) (by omega) h (by rw [hv]; rfl) ho ha (by simp) (by simpa using hz)
  unfold jF_Mo_varint
  rw [qok h.m, Option.bind_some]
  refine ⟨H1, v1, ?_, e2, e3, e4⟩
  rw [Nat.mul_zero, Nat.pow_zero, Nat.mul_one, Nat.zero_add, zdec_zz] at e1
  exact e1
end MV
