/-! The registry's block: which entries it has; both sides' readers. -/
def rHas (dk : Nat → Nat) (u s : Nat) : Nat → Bool
  | 0 => false
  | n + 1 => rHas dk u s n || (dk (33 + 2 * n) == u && dk (34 + 2 * n) == s)
def rCnt (dk : Nat → Nat) (u : Nat) : Nat → Nat
  | 0 => 0
  | n + 1 => rCnt dk u n + if dk (33 + 2 * n) = u then 1 else 0
/-- the schema of version v, looked for from entry i on, where c versions were passed; n entries more -/
def rVer (dk : Nat → Nat) (u v : Nat) : Nat → Nat → Nat → Option Nat
  | 0, _, _ => none
  | n + 1, i, c => if dk (33 + 2 * i) = u then (if c = v then some (dk (34 + 2 * i)) else rVer dk u v n (i + 1) (c + 1)) else rVer dk u v n (i + 1) c
/-- bytes are bytes, and the registry has at most ten entries -/
def dkOk (dk : Nat → Nat) : Prop := (∀ i, dk i < 256) ∧ dk 32 ≤ 10
section RegC
variable {H : zH} {D : yD} {fu : Nat}
theorem Reg_entries (hF : FixAt H) (h : DiskAt H D) : jF_Registry_entries (some 7) H = some (nI (D.2.2.2 32)) := by
  unfold jF_Registry_entries
  rw [qok hF.2.1, Option.bind_some, qgR hF.2.1 rfl, Option.bind_some, jF_Disk_startOf, Option.bind_some, show (1 : Int32) * 32 = nI 32 from rfl, Disk_at h (by omega)]
  rfl
theorem Reg_byte (hF : FixAt H) (h : DiskAt H D) {i k : Nat} (hi : i ≤ 300) (hk : k ≤ 2) : jF_Registry_entryByte (some 7) (nI i) (nI k) H = some (nI (D.2.2.2 (33 + 2 * i + k))) := by
  unfold jF_Registry_entryByte
  rw [qok hF.2.1, Option.bind_some, qgR hF.2.1 rfl, Option.bind_some, jF_Disk_startOf, Option.bind_some, show (1 : Int32) * 32 + 1 = nI 33 from rfl, li2, pk_mul, nI_add, nI_add, Disk_at h (by omega), Nat.mul_comm i 2]
  rw [dget, if_pos (by omega)]
  rfl
theorem Reg_b0 (hF : FixAt H) (h : DiskAt H D) {i : Nat} (hi : i ≤ 300) : jF_Registry_entryByte (some 7) (nI i) 0 H = some (nI (D.2.2.2 (33 + 2 * i))) := Reg_byte (k := 0) hF h hi (by omega)
theorem Reg_b1 (hF : FixAt H) (h : DiskAt H D) {i : Nat} (hi : i ≤ 300) : jF_Registry_entryByte (some 7) (nI i) 1 H = some (nI (D.2.2.2 (34 + 2 * i))) := by
  have h1 := Reg_byte (k := 1) hF h hi (by omega)
  rw [show 33 + 2 * i + 1 = 34 + 2 * i by omega] at h1
  exact h1
theorem Reg_hasL (hF : FixAt H) (h : DiskAt H D) (hd : dkOk D.2.2.2) {u s : Nat} (hu : u < 256) (hs : s < 256) : ∀ (g i : Nat), i ≤ D.2.2.2 32 → D.2.2.2 32 < i + g → rHas D.2.2.2 u s i = false → jL_Registry_has_8 fu H g (some 7) (nI u) (nI s) (nI (D.2.2.2 32)) (nI i) = some (bI (rHas D.2.2.2 u s (D.2.2.2 32))) := by
  intro g
  induction g with
  | zero => intro i h1 h2; omega
  | succ g ih =>
    intro i h1 h2 h3
    have hd1 := hd.1
    have hd2 := hd.2
    rw [jL_Registry_has_8]
    by_cases hc : i < D.2.2.2 32
    · rw [if_neg (nI_ge hc (by omega)), Reg_b0 hF h (by omega), Option.bind_some, Reg_b1 hF h (by omega), Option.bind_some, nI_1, if_eqN (by have := hd1 (33 + 2 * i); omega) (by omega), if_eqN (by have := hd1 (34 + 2 * i); omega) (by omega)]
      by_cases h4 : D.2.2.2 (33 + 2 * i) = u
      · by_cases h5 : D.2.2.2 (34 + 2 * i) = s
        · rw [if_pos h4, if_pos h5]
          have : rHas D.2.2.2 u s (D.2.2.2 32) = true := by
            have hm : ∀ n, i < n → rHas D.2.2.2 u s n = true := by
              intro n
              induction n with
              | zero => intro h; omega
              | succ n ihn =>
                intro hn
                rw [rHas]
                by_cases hin : i = n
                · subst hin; simp [h4, h5]
                · rw [ihn (by omega)]; rfl
            exact hm _ hc
          rw [this]; rfl
        · rw [if_pos h4, if_neg h5]
          exact ih (i + 1) (by omega) (by omega) (by rw [rHas, h3]; simp [h5])
      · rw [if_neg h4]
        exact ih (i + 1) (by omega) (by omega) (by rw [rHas, h3]; simp [h4])
    · have hi : i = D.2.2.2 32 := by omega
      rw [if_pos (nI_le (by omega) (by omega)), ← hi, h3]
      rfl
theorem Reg_has (hF : FixAt H) (h : DiskAt H D) (hd : dkOk D.2.2.2) {u s : Nat} (hu : u < 256) (hs : s < 256) (hfu : 11 ≤ fu) : jF_Registry_has fu (some 7) (nI u) (nI s) H = some (bI (rHas D.2.2.2 u s (D.2.2.2 32))) := by
  unfold jF_Registry_has
  rw [qok hF.2.1, Option.bind_some, Reg_entries hF h, Option.bind_some]
  exact Reg_hasL hF h hd hu hs fu 0 (by omega) (by have := hd.2; omega) rfl
theorem Reg_countL (hF : FixAt H) (h : DiskAt H D) (hd : dkOk D.2.2.2) {u : Nat} (hu : u < 256) : ∀ (g i : Nat), i ≤ D.2.2.2 32 → D.2.2.2 32 < i + g → jL_Registry_countOf_10 fu H g (some 7) (nI u) (nI (D.2.2.2 32)) (nI (rCnt D.2.2.2 u i)) (nI i) = some (nI (rCnt D.2.2.2 u (D.2.2.2 32))) := by
  intro g
  induction g with
  | zero => intro i h1 h2; omega
  | succ g ih =>
    intro i h1 h2
    have hd1 := hd.1
    have hd2 := hd.2
    rw [jL_Registry_countOf_10]
    by_cases hc : i < D.2.2.2 32
    · rw [if_neg (nI_ge hc (by omega)), Reg_b0 hF h (by omega), Option.bind_some, nI_1, nI_1, if_eqN (by have := hd1 (33 + 2 * i); omega) (by omega)]
      have h6 := ih (i + 1) (by omega) (by omega)
      rw [rCnt] at h6
      by_cases h4 : D.2.2.2 (33 + 2 * i) = u
      · rw [if_pos h4] at h6 ⊢
        exact h6
      · rw [if_neg h4] at h6 ⊢
        exact h6
    · have hi : i = D.2.2.2 32 := by omega
      rw [if_pos (nI_le (by omega) (by omega)), ← hi]
theorem Reg_count (hF : FixAt H) (h : DiskAt H D) (hd : dkOk D.2.2.2) {u : Nat} (hu : u < 256) (hfu : 11 ≤ fu) : jF_Registry_countOf fu (some 7) (nI u) H = some (nI (rCnt D.2.2.2 u (D.2.2.2 32))) := by
  unfold jF_Registry_countOf
  rw [qok hF.2.1, Option.bind_some, Reg_entries hF h, Option.bind_some]
  exact Reg_countL hF h hd hu fu 0 (by omega) (by have := hd.2; omega)
end RegC
