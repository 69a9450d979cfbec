/-! Writes of blocks. -/
def dput (dk : Nat → Nat) (p n : Nat) (g : Nat → Nat) : Nat → Nat := fun q => if p ≤ q ∧ q < p + n then g (q - p) else dk q
theorem dput_0 {dk : Nat → Nat} {p : Nat} {g : Nat → Nat} : dput dk p 0 g = dk := by
  funext q
  unfold dput
  rw [if_neg (by omega)]
theorem dput_succ {dk : Nat → Nat} {p n : Nat} {g : Nat → Nat} : va_up (dput dk p n g) (p + n) (g n) = dput dk p (n + 1) g := by
  funext q
  unfold dput va_up
  by_cases h1 : q = p + n
  · subst h1
    rw [if_pos rfl, if_pos (by omega), Nat.add_sub_cancel_left]
  · rw [if_neg h1]
    show (if p ≤ q ∧ q < p + n then g (q - p) else dk q) = _
    by_cases h2 : p ≤ q ∧ q < p + n
    · rw [if_pos h2, if_pos (by omega)]
    · rw [if_neg h2, if_neg (by omega)]
def wrS (D : yD) (b : Nat) (g : Nat → Nat) : Bool × yD := if D.2.1 = some 0 then (false, false, none, D.2.2.1, D.2.2.2) else (true, D.1, D.2.1.map (· - 1), D.2.2.1 + 1, dput D.2.2.2 (32 * b) 32 g)
def limOk (D : yD) : Prop := ∀ n, D.2.1 = some n → n < 2 ^ 31
theorem limI_0 {D : yD} (h : limOk D) : limI D.2.1 = 0 ↔ D.2.1 = some 0 := by
  cases hl : D.2.1 with
  | none => simp only [limI]; constructor <;> intro h <;> first | cases h | exact absurd h (by decide)
  | some n =>
    have hn := h n hl
    show nI n = 0 ↔ some n = some 0
    rw [← nI_0, nI_eq hn (by omega)]
    constructor
    · rintro rfl; rfl
    · intro h; cases h; rfl
theorem limI_m1 {D : yD} (h : limOk D) : limI D.2.1 = -1 ↔ D.2.1 = none := by
  cases hl : D.2.1 with
  | none => simp only [limI]
  | some n =>
    have hn := h n hl
    show nI n = -1 ↔ some n = none
    constructor
    · intro h
      have h1 := congrArg Int32.toInt h
      rw [nI_toInt hn] at h1
      have h2 : ((-1 : Int32)).toInt = -1 := by decide
      rw [h2] at h1
      omega
    · intro h; cases h
theorem Disk_made {H : zH} {D : yD} {fu : Nat} (h : DiskAt H D) : ∃ H', jJ_Disk_put_72 fu (some 2) H = some (1, H') ∧ DiskAt H' (D.1, D.2.1, D.2.2.1 + 1, D.2.2.2) ∧ Fr H H' (A2 2 3) := by
  unfold jJ_Disk_put_72
  rw [qgI h.1 rfl, Option.bind_some, qpV h.1 (by simp), Option.bind_some]
  refine ⟨_, rfl, ⟨?_, ?_⟩, Fr.set (Or.inl rfl)⟩
  · rw [zgo_set_same h.1, nI_1]; rfl
  · rw [zgo_set_ne (by decide)]; exact h.2
theorem Disk_putL {kb N b fr fu : Nat} {bs : List Nat} (hN : N ≤ 1000000000) (hk : 4 ≤ kb) (hb : b < 40) (hfr : fr ≤ 1000000) : ∀ (g i : Nat) (H : zH) (D : yD), i ≤ 32 → 32 < i + g → limOk D → D.2.1 ≠ some 0 → BL H kb N bs → DiskAt H (D.1, D.2.1, D.2.2.1, dput D.2.2.2 (32 * b) i (fun q => bs.getD (fr + q) 0)) →
    ∃ H', jL_Disk_put_22 fu g (some 2) (nI b) (some kb) (nI fr) (nI i) H = some (1, H') ∧ DiskAt H' (D.1, D.2.1.map (· - 1), D.2.2.1 + 1, dput D.2.2.2 (32 * b) 32 (fun q => bs.getD (fr + q) 0)) ∧ Fr H H' (A2 2 3) := by
  intro g
  induction g with
  | zero => intro i H D h1 h2; omega
  | succ g ih =>
    intro i H D h1 h2 hlim h0 hB hD
    rw [jL_Disk_put_22]
    by_cases hc : i < 32
    · rw [if_neg (show ¬ (32 : Int32) ≤ nI i from nI_ge (b := 32) hc (by omega)), jF_Disk_startOf, Option.bind_some, nI_add, hB.at hN (by omega), Option.bind_some]
      rw [show nI b * (32 : Int32) + nI i = nI (32 * b + i) by rw [show (32 : Int32) = nI 32 from rfl, pk_mul, nI_add, Nat.mul_comm]]
      obtain ⟨H1, e1, e2, e3⟩ := Disk_set (b := bs.getD (fr + i) 0) hD (show 32 * b + i < 1280 by omega)
      rw [e1, Option.bind_some, nI_1]
      have e2' : DiskAt H1 (D.1, D.2.1, D.2.2.1, dput D.2.2.2 (32 * b) (i + 1) (fun q => bs.getD (fr + q) 0)) := by
        have h9 := dput_succ (dk := D.2.2.2) (p := 32 * b) (n := i) (g := fun q => bs.getD (fr + q) 0)
        rw [← h9]
        exact e2
      obtain ⟨H2, f1, f2, f3⟩ := ih (i + 1) H1 D (by omega) (by omega) hlim h0 (hB.fr e3 (by unfold A2; omega) (by unfold A2; omega)) e2'
      exact ⟨H2, f1, f2, e3.tr f3⟩
    · have hi : i = 32 := by omega
      subst hi
      rw [if_pos (show (32 : Int32) ≤ nI 32 from nI_le (Nat.le_refl _) (by omega)), qgI hD.1 rfl, Option.bind_some]
      by_cases hl : D.2.1 = none
      · rw [if_pos ((limI_m1 hlim).mpr hl)]
        obtain ⟨H2, f1, f2, f3⟩ := Disk_made (fu := fu) hD
        refine ⟨H2, f1, ?_, f3⟩
        rw [hl] at f2 ⊢
        exact f2
      · rw [if_neg (fun h => hl ((limI_m1 hlim).mp h)), Option.bind_some, qpV hD.1 (by simp), Option.bind_some]
        obtain ⟨n, hn⟩ := Option.ne_none_iff_exists'.mp hl
        have hn0 : n ≠ 0 := fun h => h0 (by rw [hn, h])
        have hD1 : DiskAt (zset H 2 (.inr (3, [zR (some 3), zI (bI D.1), zI (limI D.2.1 - 1), zI (nI D.2.2.1)]))) (D.1, D.2.1.map (· - 1), D.2.2.1, dput D.2.2.2 (32 * b) 32 (fun q => bs.getD (fr + q) 0)) := by
          refine ⟨?_, ?_⟩
          · rw [zgo_set_same hD.1, hn]
            show some (Sum.inr (3, [zR (some 3), zI (bI D.1), zI (nI n - 1), zI (nI D.2.2.1)])) = some (Sum.inr (3, [zR (some 3), zI (bI D.1), zI (nI (n - 1)), zI (nI D.2.2.1)]))
            obtain ⟨k, rfl⟩ : ∃ k, n = k + 1 := ⟨n - 1, by omega⟩
            rw [nI_pred, Nat.add_sub_cancel]
          · rw [zgo_set_ne (by decide)]; exact hD.2
        obtain ⟨H2, f1, f2, f3⟩ := Disk_made (fu := fu) hD1
        exact ⟨H2, f1, f2, (Fr.set (Or.inl rfl)).tr f3⟩
theorem Disk_put {H : zH} {D : yD} {kb N b fr fu : Nat} {bs : List Nat} (h : DiskAt H D) (hB : BL H kb N bs) (hN : N ≤ 1000000000) (hk : 4 ≤ kb) (hb : b < 40) (hfr : fr ≤ 1000000) (hlim : limOk D) (hfu : 33 ≤ fu) :
    ∃ H', jF_Disk_put fu (some 2) (nI b) (some kb) (nI fr) H = some (bI (wrS D b (fun q => bs.getD (fr + q) 0)).1, H') ∧ DiskAt H' (wrS D b (fun q => bs.getD (fr + q) 0)).2 ∧ Fr H H' (A2 2 3) := by
  unfold jF_Disk_put wrS
  rw [qok h.1, Option.bind_some, qgI h.1 rfl, Option.bind_some]
  by_cases h0 : D.2.1 = some 0
  · rw [if_pos ((limI_0 hlim).mpr h0), if_pos h0, qpZ (Or.inl rfl) h.1 (by simp), Option.bind_some]
    have h1 : zgo (zset H 2 (.inr (3, [zR (some 3), zI 0, zI (limI D.2.1), zI (nI D.2.2.1)]))) (some 2) = some (.inr (3, [zR (some 3), zI 0, zI (limI D.2.1), zI (nI D.2.2.1)])) := zgo_set_same h.1
    rw [show (([zR (some 3), zI (bI D.1), zI (limI D.2.1), zI (nI D.2.2.1)] : List zV).set 1 (zI 0)) = [zR (some 3), zI 0, zI (limI D.2.1), zI (nI D.2.2.1)] from rfl, qpV h1 (by simp), Option.bind_some]
    refine ⟨_, rfl, ⟨?_, ?_⟩, (Fr.set (Or.inl rfl)).tr (Fr.set (Or.inl rfl))⟩
    · rw [zgo_set_same h1]; rfl
    · rw [zgo_set_ne (by decide), zgo_set_ne (by decide)]; exact h.2
  · rw [if_neg (fun hh => h0 ((limI_0 hlim).mp hh)), if_neg h0]
    exact Disk_putL hN hk hb hfr fu 0 H D (by omega) (by omega) hlim h0 hB (by rw [dput_0]; exact h)
