/-! Where a file finds room. -/
def cov (dk : Nat → Nat) (b : Nat) : Nat → Bool
  | 0 => false
  | n + 1 => cov dk b n || decide (dk (2 + 3 * n) ≤ b ∧ b < dk (2 + 3 * n) + dk (3 + 3 * n))
def afr (dk : Nat → Nat) (b : Nat) : Nat → Bool
  | 0 => true
  | n + 1 => afr dk b n && (decide (b + n < 40) && !cov dk (b + n) (dk 0))
def roomF (dk : Nat → Nat) (n : Nat) : Nat → Nat → Option Nat
  | 0, _ => none
  | k + 1, b => if afr dk b n then some b else roomF dk n k (b + 1)
def roomS (dk : Nat → Nat) (n : Nat) : Option Nat := roomF dk n 38 2
section RmP
variable {dk : Nat → Nat}
theorem afr_iff {b : Nat} : ∀ n, afr dk b n = true ↔ ∀ k, b ≤ k → k < b + n → k < 40 ∧ cov dk k (dk 0) = false := by
  intro n
  induction n with
  | zero => exact ⟨fun _ k h1 h2 => by omega, fun _ => rfl⟩
  | succ n ih =>
    rw [afr, Bool.and_eq_true, Bool.and_eq_true, ih, decide_eq_true_eq, Bool.not_eq_true']
    constructor
    · rintro ⟨h1, h2, h3⟩ k hk1 hk2
      by_cases hk : k = b + n
      · subst hk; exact ⟨h2, h3⟩
      · exact h1 k hk1 (by omega)
    · intro h
      exact ⟨fun k h1 h2 => h k h1 (by omega), (h (b + n) (by omega) (by omega)).1, (h (b + n) (by omega) (by omega)).2⟩
theorem afr_no {b n x : Nat} (h1 : b ≤ x) (h2 : x < b + n) (h : ¬ (x < 40 ∧ cov dk x (dk 0) = false)) : afr dk b n = false := by
  cases ha : afr dk b n with
  | false => rfl
  | true => exact absurd ((afr_iff n).mp ha x h1 h2) h
theorem roomF_skip {n : Nat} : ∀ (m b k : Nat), (∀ b', b ≤ b' → b' < b + m → afr dk b' n = false) → roomF dk n (k + m) b = roomF dk n k (b + m) := by
  intro m
  induction m with
  | zero => intro b k _; rfl
  | succ m ih =>
    intro b k h
    rw [← Nat.add_assoc, roomF, h b (Nat.le_refl _) (by omega), if_neg Bool.false_ne_true, ih (b + 1) k (fun b' h1 h2 => h b' (by omega) (by omega)), show b + 1 + m = b + (m + 1) by omega]
theorem roomF_some {n b : Nat} : ∀ (k i : Nat), roomF dk n k i = some b → i ≤ b ∧ b < i + k ∧ afr dk b n = true := by
  intro k
  induction k with
  | zero => intro i h; cases h
  | succ k ih =>
    intro i h
    rw [roomF] at h
    split at h
    · next ha => cases h; exact ⟨Nat.le_refl _, by omega, ha⟩
    · have := ih (i + 1) h
      exact ⟨by omega, by omega, this.2.2⟩
end RmP
section RmC
variable {H : zH} {D : yD} {fu : Nat}
theorem cov_up {dk : Nat → Nat} {b i : Nat} : ∀ n, i < n → decide (dk (2 + 3 * i) ≤ b ∧ b < dk (2 + 3 * i) + dk (3 + 3 * i)) = true → cov dk b n = true := by
  intro n
  induction n with
  | zero => intro h; omega
  | succ n ih =>
    intro hn hd
    rw [cov]
    by_cases hin : i = n
    · subst hin; rw [hd]; simp
    · rw [ih (by omega) hd]; rfl
theorem Man_freeL (hF : FixAt H) (h : DiskAt H D) (hd : dkOk D.2.2.2) (hm : mOk D.2.2.2) {b : Nat} (hb : b < 40) : ∀ (g i : Nat), i ≤ D.2.2.2 0 → D.2.2.2 0 < i + g → cov D.2.2.2 b i = false → jL_Manifest_isFree_7 fu H g (some 10) (nI b) (nI (D.2.2.2 0)) (nI i) = some (bI (!cov D.2.2.2 b (D.2.2.2 0))) := by
  intro g
  induction g with
  | zero => intro i h1 h2; omega
  | succ g ih =>
    intro i h1 h2 h3
    have hd1 := hd.1
    have hm1 := hm.1
    rw [jL_Manifest_isFree_7]
    by_cases hc : i < D.2.2.2 0
    · have q1 := hd1 (2 + 3 * i)
      have q2 := hd1 (3 + 3 * i)
      rw [if_neg (nI_ge hc (by omega)), Man_first hF h (by omega), Option.bind_some, Option.bind_some, Man_blocks hF h (by omega), Option.bind_some, nI_1, nI_add, if_ltN (by omega) (by omega), if_leN (by omega) (by omega)]
      by_cases h4 : b < D.2.2.2 (2 + 3 * i)
      · rw [if_pos h4]
        exact ih (i + 1) (by omega) (by omega) (by rw [cov, h3, decide_eq_false (by omega)]; rfl)
      · rw [if_neg h4]
        by_cases h5 : D.2.2.2 (2 + 3 * i) + D.2.2.2 (3 + 3 * i) ≤ b
        · rw [if_pos h5]
          exact ih (i + 1) (by omega) (by omega) (by rw [cov, h3, decide_eq_false (by omega)]; rfl)
        · rw [if_neg h5, cov_up (D.2.2.2 0) hc (decide_eq_true ⟨by omega, by omega⟩)]
          rfl
    · have hi : i = D.2.2.2 0 := by omega
      rw [if_pos (nI_le (by omega) (by omega)), ← hi, h3]
      rfl
theorem Man_free (hF : FixAt H) (h : DiskAt H D) (hd : dkOk D.2.2.2) (hm : mOk D.2.2.2) {b : Nat} (hb : b < 40) (hfu : 11 ≤ fu) : jF_Manifest_isFree fu (some 10) (nI b) H = some (bI (!cov D.2.2.2 b (D.2.2.2 0))) := by
  unfold jF_Manifest_isFree
  rw [qok hF.2.2, Option.bind_some, Man_entries hF h, Option.bind_some]
  exact Man_freeL hF h hd hm hb fu 0 (by omega) (by have := hm.1; omega) rfl
theorem Man_placeL (hF : FixAt H) (h : DiskAt H D) (hd : dkOk D.2.2.2) (hm : mOk D.2.2.2) (hfu : 11 ≤ fu) {n : Nat} (hn : 1 ≤ n) (hn2 : n ≤ 1000) : ∀ (m x r g : Nat), x + m = 40 → m < g → r < n → r + 2 ≤ x → (∀ k, x - r ≤ k → k < x → cov D.2.2.2 k (D.2.2.2 0) = false) →
    jL_Manifest_placeOfDraft_15 fu H g (some 10) (nI n) (nI r) (nI x) = some (limI (roomF D.2.2.2 n (m + r) (x - r))) := by
  intro m
  induction m with
  | zero =>
    intro x r g h1 h2 h3 h4 h5
    obtain ⟨q, rfl⟩ : ∃ q, g = q + 1 := ⟨g - 1, by omega⟩
    have hx : x = 40 := by omega
    subst hx
    rw [jL_Manifest_placeOfDraft_15, if_pos (show (40 : Int32) ≤ nI 40 from nI_le (Nat.le_refl _) (by omega)), roomF_skip r (40 - r) 0 (fun b h6 h7 => afr_no (x := 40) (by omega) (by omega) (by omega))]
    rfl
  | succ m ih =>
    intro x r g h1 h2 h3 h4 h5
    obtain ⟨q, rfl⟩ : ∃ q, g = q + 1 := ⟨g - 1, by omega⟩
    rw [jL_Manifest_placeOfDraft_15, if_neg (show ¬ (40 : Int32) ≤ nI x from nI_ge (b := 40) (by omega) (by omega)), Man_free hF h hd hm (by omega) hfu, Option.bind_some, if_nbI]
    unfold jJ_Manifest_placeOfDraft_36
    cases hc : cov D.2.2.2 x (D.2.2.2 0) with
    | true =>
      rw [if_pos rfl, li0, if_eqN (by omega) (by omega), if_neg (by omega), nI_1]
      rw [show m + 1 + r = m + (r + 1) by omega, roomF_skip (r + 1) (x - r) m (fun b h6 h7 => afr_no (x := x) (by omega) (by omega) (by rw [hc]; simp))]
      have := ih (x + 1) 0 q (by omega) (by omega) (by omega) (by omega) (fun k h6 h7 => by omega)
      rw [show x - r + (r + 1) = x + 1 by omega]
      exact this
    | false =>
      rw [if_neg Bool.false_ne_true, nI_1, if_eqN (by omega) (by omega)]
      have h5' : ∀ k, x + 1 - (r + 1) ≤ k → k < x + 1 → cov D.2.2.2 k (D.2.2.2 0) = false := by
        intro k h6 h7
        by_cases hk : k = x
        · subst hk; exact hc
        · exact h5 k (by omega) (by omega)
      by_cases hr : r + 1 = n
      · rw [if_pos hr]
        have ha : afr D.2.2.2 (x - r) n = true := (afr_iff n).mpr (fun k h6 h7 => ⟨by omega, h5' k (by omega) (by omega)⟩)
        rw [show m + 1 + r = m + r + 1 by omega, roomF, if_pos ha, pk_sub (by omega), nI_1, show x - n + 1 = x - r by omega]
        rfl
      · rw [if_neg hr, nI_1]
        have := ih (x + 1) (r + 1) q (by omega) (by omega) (by omega) (by omega) h5'
        rw [show m + 1 + r = m + (r + 1) by omega, show x - r = x + 1 - (r + 1) by omega]
        exact this
theorem blocksFor_eq {H : zH} {n : Nat} (hn : n ≤ 1000000) : jF_Disk_blocksFor (nI n) H = some (nI ((n + 31) / 32)) := by
  unfold jF_Disk_blocksFor
  rw [li32, nI_add, li1, pk_sub (by omega), pk_div (by omega) (by omega) (by omega), show n + 32 - 1 = n + 31 by omega]
theorem Man_place (hF : FixAt H) (h : DiskAt H D) (hd : dkOk D.2.2.2) (hm : mOk D.2.2.2) (hfu : 40 ≤ fu) {b : List Nat} (hB : BL H 11 206 b) (hb : 1 ≤ b.length) : jF_Manifest_placeOfDraft fu (some 10) H = some (limI (roomS D.2.2.2 ((b.length + 31) / 32))) := by
  have hl := hB.1
  unfold jF_Manifest_placeOfDraft roomS
  rw [qok hF.2.2, Option.bind_some, qgR hF.2.2 rfl, Option.bind_some, hB.size, Option.bind_some, blocksFor_eq (by omega), Option.bind_some]
  exact Man_placeL hF h hd hm (by omega) (by omega) (by omega) 38 2 0 fu (by omega) (by omega) (by omega) (by omega) (fun k h6 h7 => by omega)
end RmC
section RmM
variable {H : zH} {v : Nat → Int32} {D : yD} {fu : Nat}
theorem Mo_usedL (h : MDisk H v D) (hd : dkOk D.2.2.2) (hm : mOk D.2.2.2) {b : Nat} (hb : b < 100000) {c : Bool} : ∀ (g i : Nat), i ≤ D.2.2.2 0 → D.2.2.2 0 < i + g → jL_Mo_used_19 fu H g (some 24) (nI b) (bI (c || cov D.2.2.2 b i)) (nI i) = some (bI (c || cov D.2.2.2 b (D.2.2.2 0))) := by
  intro g
  induction g with
  | zero => intro i h1 h2; omega
  | succ g ih =>
    intro i h1 h2
    have hd1 := hd.1
    have hm1 := hm.1
    rw [jL_Mo_used_19, qgR h.1 rfl, Option.bind_some, Mo_d0 h, Option.bind_some]
    by_cases hc : i < D.2.2.2 0
    · have q1 := hd1 (2 + 3 * i)
      have q2 := hd1 (3 + 3 * i)
      have h6 := ih (i + 1) (by omega) (by omega)
      rw [cov] at h6
      rw [if_neg (nI_ge hc (by omega)), if_bI]
      unfold jJ_Mo_used_72
      rw [nI_1]
      cases hcc : (c || cov D.2.2.2 b i) with
      | true =>
        rw [if_pos rfl]
        rw [← Bool.or_assoc, hcc] at h6
        exact h6
      | false =>
        rw [← Bool.or_assoc, hcc] at h6
        rw [if_neg Bool.false_ne_true, Option.bind_some, li2, li3, pk_mul, nI_add, nI_add, Mo_dk h (by omega), Option.bind_some, Option.bind_some, Mo_dk h (by omega), Option.bind_some, Option.bind_some, Mo_dk h (by omega), Option.bind_some, nI_add, if_ltN (by omega) (by omega), if_leN (by omega) (by omega)]
        by_cases h4 : b < D.2.2.2 (2 + 3 * i)
        · rw [if_pos h4]
          rw [decide_eq_false (by omega)] at h6
          exact h6
        · rw [if_neg h4]
          by_cases h5 : D.2.2.2 (2 + 3 * i) + D.2.2.2 (3 + 3 * i) ≤ b
          · rw [if_pos h5]
            rw [decide_eq_false (by omega)] at h6
            exact h6
          · rw [if_neg h5]
            rw [decide_eq_true ⟨by omega, by omega⟩] at h6
            exact h6
    · have hi : i = D.2.2.2 0 := by omega
      rw [if_pos (nI_le (by omega) (by omega)), ← hi, zbo_bI]
      rfl
theorem Mo_used (h : MDisk H v D) (hd : dkOk D.2.2.2) (hm : mOk D.2.2.2) {b : Nat} (hb : b < 100000) (hb2 : 2 ≤ b) (hfu : 11 ≤ fu) : jF_Mo_used fu (some 24) (nI b) H = some (bI (!(decide (b < 40) && !cov D.2.2.2 b (D.2.2.2 0)))) := by
  have hm1 := hm.1
  unfold jF_Mo_used jJ_Mo_used_11
  rw [qok h.1, Option.bind_some, li2, if_ltN (by omega) (by omega), if_neg (by omega), li39, if_leN (by omega) (by omega)]
  by_cases h40 : b < 40
  · rw [if_pos (by omega), decide_eq_true h40]
    have := Mo_usedL (fu := fu) (c := false) h hd hm hb fu 0 (by omega) (by omega)
    have e : jL_Mo_used_19 fu H fu (some 24) (nI b) 0 0 = _ := this
    rw [e]
    simp
  · rw [if_neg (by omega), decide_eq_false h40]
    have := Mo_usedL (fu := fu) (c := true) h hd hm hb fu 0 (by omega) (by omega)
    rw [Bool.true_or, Bool.true_or] at this
    exact this
theorem Mo_roomI (h : MDisk H v D) (hd : dkOk D.2.2.2) (hm : mOk D.2.2.2) (hfu : 11 ≤ fu) {n b : Nat} (hn : n ≤ 1000) (hb : b < 1000) (hb2 : 2 ≤ b) {k2 : Option Nat → Int32 → Int32 → Option Int32} : ∀ (m i g : Nat), i + m = n → m < g →
    jL_Mo_room_13 fu H k2 g (some 24) (nI n) (nI b) (bI (afr D.2.2.2 b i)) (nI (b + i)) = if afr D.2.2.2 b n then some (nI b) else k2 (some 24) (nI n) (nI (b + 1)) := by
  intro m
  induction m with
  | zero =>
    intro i g h1 h2
    obtain ⟨q, rfl⟩ : ∃ q, g = q + 1 := ⟨g - 1, by omega⟩
    have hi : i = n := by omega
    subst hi
    rw [jL_Mo_room_13, nI_add, if_pos (nI_le (Nat.le_refl _) (by omega)), if_bI, nI_1]
  | succ m ih =>
    intro i g h1 h2
    obtain ⟨q, rfl⟩ : ∃ q, g = q + 1 := ⟨g - 1, by omega⟩
    have h6 := ih (i + 1) q (by omega) (by omega)
    rw [jL_Mo_room_13, nI_add, if_neg (nI_ge (by omega) (by omega)), if_bI, nI_1, show b + i + 1 = b + (i + 1) by omega, Mo_used h hd hm (by omega) (by omega) hfu, Option.bind_some, if_nbI]
    rw [afr] at h6
    cases ha : afr D.2.2.2 b i with
    | false =>
      rw [if_neg Bool.false_ne_true]
      rw [ha] at h6
      exact h6
    | true =>
      rw [if_pos rfl]
      rw [ha, Bool.true_and] at h6
      cases hc : (decide (b + i < 40) && !cov D.2.2.2 (b + i) (D.2.2.2 0)) with
      | true => rw [if_pos rfl]; rw [hc] at h6; exact h6
      | false => rw [if_neg Bool.false_ne_true]; rw [hc] at h6; exact h6
theorem Mo_roomL (h : MDisk H v D) (hd : dkOk D.2.2.2) (hm : mOk D.2.2.2) {n : Nat} (hn : n ≤ 1000) (hfu : 11 ≤ fu) (hfn : n < fu) : ∀ (k b g : Nat), b + k = 40 → k < g → 2 ≤ b → jL_Mo_room_2 fu H g (some 24) (nI n) (nI b) = some (limI (roomF D.2.2.2 n k b)) := by
  intro k
  induction k with
  | zero =>
    intro b g h1 h2 h3
    obtain ⟨q, rfl⟩ : ∃ q, g = q + 1 := ⟨g - 1, by omega⟩
    rw [jL_Mo_room_2, li39, if_ltN (by omega) (by omega), if_pos (by omega)]; rfl
  | succ k ih =>
    intro b g h1 h2 h3
    obtain ⟨q, rfl⟩ : ∃ q, g = q + 1 := ⟨g - 1, by omega⟩
    rw [jL_Mo_room_2, li39, if_ltN (by omega) (by omega), if_neg (by omega)]
    have := Mo_roomI (fu := fu) (k2 := fun x0 x1 x2 => jL_Mo_room_2 fu H q x0 x1 x2) h hd hm hfu hn (show b < 1000 by omega) h3 n 0 fu (by omega) hfn
    have e1 : jL_Mo_room_13 fu H (fun x0 x1 x2 => jL_Mo_room_2 fu H q x0 x1 x2) fu (some 24) (nI n) (nI b) 1 (nI b) = _ := this
    rw [e1, roomF]
    by_cases ha : afr D.2.2.2 b n = true
    · rw [if_pos ha, if_pos ha]; rfl
    · rw [if_neg ha, if_neg ha]
      exact ih (b + 1) q (by omega) (by omega) (by omega)
theorem Mo_room (h : MDisk H v D) (hd : dkOk D.2.2.2) (hm : mOk D.2.2.2) {n : Nat} (hn : n ≤ 1000) (hfu : 40 ≤ fu) (hfn : n < fu) : jF_Mo_room fu (some 24) (nI n) H = some (limI (roomS D.2.2.2 n)) := by
  unfold jF_Mo_room roomS
  rw [qok h.1, Option.bind_some]
  exact Mo_roomL h hd hm hn (by omega) hfn 38 2 fu (by omega) (by omega) (by omega)
end RmM
