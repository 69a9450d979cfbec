/-! The manifest: its entries and the heads of its files; both sides' readers. -/
def mOk (dk : Nat → Nat) : Prop := dk 0 ≤ 9 ∧ ∀ i, i < dk 0 → 2 ≤ dk (2 + 3 * i) ∧ 1 ≤ dk (3 + 3 * i) ∧ dk (2 + 3 * i) + dk (3 + 3 * i) ≤ 40
def fAt (dk : Nat → Nat) (i : Nat) : Nat := 32 * dk (2 + 3 * i)
def fSch (dk : Nat → Nat) (i : Nat) : Nat := dk (fAt dk i + 1)
def fRec (dk : Nat → Nat) (i : Nat) : Nat := dk (fAt dk i + 2)
def fByt (dk : Nat → Nat) (i : Nat) : Nat := 256 * dk (fAt dk i + 3) + dk (fAt dk i + 4)
def mCnt (dk : Nat → Nat) (u : Nat) : Nat → Nat
  | 0 => 0
  | n + 1 => mCnt dk u n + if dk (1 + 3 * n) = u then 1 else 0
def mRec (dk : Nat → Nat) (u : Nat) : Nat → Nat
  | 0 => 0
  | n + 1 => mRec dk u n + if dk (1 + 3 * n) = u then fRec dk n else 0
def mNext (dk : Nat → Nat) (u : Nat) : Nat → Nat → Option Nat
  | 0, _ => none
  | k + 1, i => if dk (1 + 3 * i) = u then some i else mNext dk u k (i + 1)
def canJ (dk : Nat → Nat) (i j : Nat) : Bool := decide (fSch dk i = fSch dk j ∧ fRec dk i + fRec dk j ≤ 20 ∧ fByt dk i + fByt dk j ≤ 200)
def mJoin (dk : Nat → Nat) (u : Nat) : Nat → Nat → Option (Nat × Nat)
  | 0, _ => none
  | k + 1, i => if dk (1 + 3 * i) = u then (match mNext dk u k (i + 1) with
      | none => mJoin dk u k (i + 1)
      | some j => if canJ dk i j then some (i, j) else mJoin dk u k (i + 1)) else mJoin dk u k (i + 1)
theorem mNext_lt {dk : Nat → Nat} {u : Nat} : ∀ (k i j : Nat), mNext dk u k i = some j → i ≤ j ∧ j < i + k ∧ dk (1 + 3 * j) = u := by
  intro k
  induction k with
  | zero => intro i j h; cases h
  | succ k ih =>
    intro i j h
    rw [mNext] at h
    split at h
    · next hu => cases h; exact ⟨Nat.le_refl _, by omega, hu⟩
    · have := ih (i + 1) j h
      exact ⟨by omega, by omega, this.2.2⟩
theorem mJoin_lt {dk : Nat → Nat} {u : Nat} : ∀ (k i a b : Nat), mJoin dk u k i = some (a, b) → i ≤ a ∧ a < b ∧ b < i + k ∧ dk (1 + 3 * a) = u ∧ dk (1 + 3 * b) = u ∧ canJ dk a b = true ∧ mNext dk u (i + k - (a + 1)) (a + 1) = some b := by
  intro k
  induction k with
  | zero => intro i a b h; cases h
  | succ k ih =>
    intro i a b h
    have up : mJoin dk u k (i + 1) = some (a, b) → i ≤ a ∧ a < b ∧ b < i + (k + 1) ∧ dk (1 + 3 * a) = u ∧ dk (1 + 3 * b) = u ∧ canJ dk a b = true ∧ mNext dk u (i + (k + 1) - (a + 1)) (a + 1) = some b := by
      intro h
      obtain ⟨h1, h2, h3, h4, h5, h6, h7⟩ := ih (i + 1) a b h
      exact ⟨by omega, h2, by omega, h4, h5, h6, by rw [show i + (k + 1) - (a + 1) = i + 1 + k - (a + 1) by omega]; exact h7⟩
    rw [mJoin] at h
    split at h
    · next hu =>
      cases hn : mNext dk u k (i + 1) with
      | none => rw [hn] at h; exact up h
      | some j =>
        rw [hn] at h
        dsimp only at h
        split at h
        · next hc =>
          cases h
          have := mNext_lt k (i + 1) b hn
          exact ⟨Nat.le_refl _, by omega, by omega, hu, this.2.2, hc, by rw [show i + (k + 1) - (i + 1) = k by omega]; exact hn⟩
        · exact up h
    · exact up h
section ManC
variable {H : zH} {D : yD} {fu : Nat}
theorem Man_entries (hF : FixAt H) (h : DiskAt H D) : jF_Manifest_entries (some 10) H = some (nI (D.2.2.2 0)) := by
  unfold jF_Manifest_entries
  rw [qok hF.2.2, Option.bind_some, qgR hF.2.2 rfl, Option.bind_some, jF_Disk_startOf, Option.bind_some, show (0 : Int32) * 32 = nI 0 from rfl, Disk_at h (by omega)]
  rfl
theorem Man_byte (hF : FixAt H) (h : DiskAt H D) {i k : Nat} (hi : i ≤ 300) (hk : k ≤ 2) : jF_Manifest_entryByte (some 10) (nI i) (nI k) H = some (nI (D.2.2.2 (1 + 3 * i + k))) := by
  unfold jF_Manifest_entryByte
  rw [qok hF.2.2, Option.bind_some, qgR hF.2.2 rfl, Option.bind_some, jF_Disk_startOf, Option.bind_some, show (0 : Int32) * 32 + 1 = nI 1 from rfl, li3, pk_mul, nI_add, nI_add, Disk_at h (by omega), Nat.mul_comm i 3]
  rw [dget, if_pos (by omega)]
  rfl
theorem Man_sub (hF : FixAt H) (h : DiskAt H D) {i : Nat} (hi : i ≤ 300) : jF_Manifest_subjectOf (some 10) (nI i) H = some (nI (D.2.2.2 (1 + 3 * i))) := by
  unfold jF_Manifest_subjectOf
  rw [qok hF.2.2, Option.bind_some, li0, Man_byte hF h hi (by omega)]
  rfl
theorem Man_first (hF : FixAt H) (h : DiskAt H D) {i : Nat} (hi : i ≤ 300) : jF_Manifest_firstBlockOf (some 10) (nI i) H = some (nI (D.2.2.2 (2 + 3 * i))) := by
  unfold jF_Manifest_firstBlockOf
  rw [qok hF.2.2, Option.bind_some, li1, Man_byte hF h hi (by omega), show 1 + 3 * i + 1 = 2 + 3 * i by omega]
  rfl
theorem Man_blocks (hF : FixAt H) (h : DiskAt H D) {i : Nat} (hi : i ≤ 300) : jF_Manifest_blocksOf (some 10) (nI i) H = some (nI (D.2.2.2 (3 + 3 * i))) := by
  unfold jF_Manifest_blocksOf
  rw [qok hF.2.2, Option.bind_some, li2, Man_byte hF h hi (by omega), show 1 + 3 * i + 2 = 3 + 3 * i by omega]
  rfl
theorem Man_start (hF : FixAt H) (h : DiskAt H D) {i : Nat} (hi : i ≤ 300) : jF_Manifest_startOfFile (some 10) (nI i) H = some (nI (fAt D.2.2.2 i)) := by
  unfold jF_Manifest_startOfFile
  rw [qok hF.2.2, Option.bind_some, Man_first hF h hi, Option.bind_some, jF_Disk_startOf, Option.bind_some, li32, pk_mul, Nat.mul_comm]
  rfl
theorem fAt_lt {dk : Nat → Nat} (hm : mOk dk) {i : Nat} (hi : i < dk 0) : fAt dk i + 32 * dk (3 + 3 * i) ≤ 1280 ∧ fAt dk i + 32 ≤ 1280 ∧ 64 ≤ fAt dk i := by
  have := hm.2 i hi
  unfold fAt
  omega
theorem Man_rec (hF : FixAt H) (h : DiskAt H D) (hm : mOk D.2.2.2) {i : Nat} (hi : i < D.2.2.2 0) : jF_Manifest_recordsIn (some 10) (nI i) H = some (nI (fRec D.2.2.2 i)) := by
  have h1 := fAt_lt hm hi
  have h2 := hm.1
  unfold jF_Manifest_recordsIn fRec
  rw [qok hF.2.2, Option.bind_some, qgR hF.2.2 rfl, Option.bind_some, Man_start hF h (by omega), Option.bind_some, li2, nI_add, Disk_at h (by omega), Option.bind_some, dget, if_pos (by omega)]
theorem Man_sch (hF : FixAt H) (h : DiskAt H D) (hm : mOk D.2.2.2) {i : Nat} (hi : i < D.2.2.2 0) : jF_Manifest_schemaOf (some 10) (nI i) H = some (nI (fSch D.2.2.2 i)) := by
  have h1 := fAt_lt hm hi
  have h2 := hm.1
  unfold jF_Manifest_schemaOf fSch
  rw [qok hF.2.2, Option.bind_some, qgR hF.2.2 rfl, Option.bind_some, Man_start hF h (by omega), Option.bind_some, li1, nI_add, Disk_at h (by omega), Option.bind_some, dget, if_pos (by omega)]
theorem Man_byt (hF : FixAt H) (h : DiskAt H D) (hm : mOk D.2.2.2) {i : Nat} (hi : i < D.2.2.2 0) : jF_Manifest_bytesIn (some 10) (nI i) H = some (nI (fByt D.2.2.2 i)) := by
  have h1 := fAt_lt hm hi
  have h2 := hm.1
  unfold jF_Manifest_bytesIn fByt
  rw [qok hF.2.2, Option.bind_some, qgR hF.2.2 rfl, Option.bind_some, Man_start hF h (by omega), Option.bind_some, li3, nI_add, Disk_at h (by omega), Option.bind_some, Option.bind_some, Option.bind_some, li4, nI_add, Disk_at h (by omega), Option.bind_some, dget, if_pos (by omega), dget, if_pos (by omega), li256, pk_mul, nI_add, Nat.mul_comm 256]
theorem Man_recL (hF : FixAt H) (h : DiskAt H D) (hd : dkOk D.2.2.2) (hm : mOk D.2.2.2) {u : Nat} (hu : u < 256) : ∀ (g i : Nat), i ≤ D.2.2.2 0 → D.2.2.2 0 < i + g → jL_Manifest_recordsOf_10 fu H g (some 10) (nI u) (nI (D.2.2.2 0)) (nI (mRec D.2.2.2 u i)) (nI i) = some (nI (mRec D.2.2.2 u (D.2.2.2 0))) := by
  intro g
  induction g with
  | zero => intro i h1 h2; omega
  | succ g ih =>
    intro i h1 h2
    have hd1 := hd.1
    have hm1 := hm.1
    rw [jL_Manifest_recordsOf_10]
    by_cases hc : i < D.2.2.2 0
    · rw [if_neg (nI_ge hc (by omega)), Man_sub hF h (by omega), Option.bind_some, Man_rec hF h hm hc, Option.bind_some, nI_1, nI_add, if_eqN (by have := hd1 (1 + 3 * i); omega) (by omega)]
      have h6 := ih (i + 1) (by omega) (by omega)
      rw [mRec] at h6
      by_cases h4 : D.2.2.2 (1 + 3 * i) = u
      · rw [if_pos h4] at h6 ⊢
        exact h6
      · rw [if_neg h4] at h6 ⊢
        exact h6
    · have hi : i = D.2.2.2 0 := by omega
      rw [if_pos (nI_le (by omega) (by omega)), ← hi]
theorem Man_records (hF : FixAt H) (h : DiskAt H D) (hd : dkOk D.2.2.2) (hm : mOk D.2.2.2) {u : Nat} (hu : u < 256) (hfu : 11 ≤ fu) : jF_Manifest_recordsOf fu (some 10) (nI u) H = some (nI (mRec D.2.2.2 u (D.2.2.2 0))) := by
  unfold jF_Manifest_recordsOf
  rw [qok hF.2.2, Option.bind_some, Man_entries hF h, Option.bind_some]
  exact Man_recL hF h hd hm hu fu 0 (by omega) (by have := hm.1; omega)
theorem Man_filL (hF : FixAt H) (h : DiskAt H D) (hd : dkOk D.2.2.2) (hm : mOk D.2.2.2) {u : Nat} (hu : u < 256) : ∀ (g i : Nat), i ≤ D.2.2.2 0 → D.2.2.2 0 < i + g → jL_Manifest_filesOf_10 fu H g (some 10) (nI u) (nI (D.2.2.2 0)) (nI (mCnt D.2.2.2 u i)) (nI i) = some (nI (mCnt D.2.2.2 u (D.2.2.2 0))) := by
  intro g
  induction g with
  | zero => intro i h1 h2; omega
  | succ g ih =>
    intro i h1 h2
    have hd1 := hd.1
    have hm1 := hm.1
    rw [jL_Manifest_filesOf_10]
    by_cases hc : i < D.2.2.2 0
    · rw [if_neg (nI_ge hc (by omega)), Man_sub hF h (by omega), Option.bind_some, nI_1, nI_1, if_eqN (by have := hd1 (1 + 3 * i); omega) (by omega)]
      have h6 := ih (i + 1) (by omega) (by omega)
      rw [mCnt] at h6
      by_cases h4 : D.2.2.2 (1 + 3 * i) = u
      · rw [if_pos h4] at h6 ⊢
        exact h6
      · rw [if_neg h4] at h6 ⊢
        exact h6
    · have hi : i = D.2.2.2 0 := by omega
      rw [if_pos (nI_le (by omega) (by omega)), ← hi]
theorem Man_files (hF : FixAt H) (h : DiskAt H D) (hd : dkOk D.2.2.2) (hm : mOk D.2.2.2) {u : Nat} (hu : u < 256) (hfu : 11 ≤ fu) : jF_Manifest_filesOf fu (some 10) (nI u) H = some (nI (mCnt D.2.2.2 u (D.2.2.2 0))) := by
  unfold jF_Manifest_filesOf
  rw [qok hF.2.2, Option.bind_some, Man_entries hF h, Option.bind_some]
  exact Man_filL hF h hd hm hu fu 0 (by omega) (by have := hm.1; omega)
theorem Man_nextL (hF : FixAt H) (h : DiskAt H D) (hd : dkOk D.2.2.2) (hm : mOk D.2.2.2) {u : Nat} (hu : u < 256) : ∀ (k i g : Nat), i + k = D.2.2.2 0 → k < g → jL_Manifest_nextFile_8 fu H g (some 10) (nI u) (nI (D.2.2.2 0)) (nI i) = some (limI (mNext D.2.2.2 u k i)) := by
  have hd1 := hd.1
  have hm1 := hm.1
  intro k
  induction k with
  | zero =>
    intro i g h1 h2
    obtain ⟨q, rfl⟩ : ∃ q, g = q + 1 := ⟨g - 1, by omega⟩
    rw [jL_Manifest_nextFile_8, if_pos (nI_le (by omega) (by omega))]; rfl
  | succ k ih =>
    intro i g h1 h2
    obtain ⟨q, rfl⟩ : ∃ q, g = q + 1 := ⟨g - 1, by omega⟩
    rw [jL_Manifest_nextFile_8, if_neg (nI_ge (by omega) (by omega)), Man_sub hF h (by omega), Option.bind_some, nI_1, if_eqN (by have := hd1 (1 + 3 * i); omega) (by omega), mNext]
    by_cases h4 : D.2.2.2 (1 + 3 * i) = u
    · rw [if_pos h4, if_pos h4]; rfl
    · rw [if_neg h4, if_neg h4]
      exact ih (i + 1) q (by omega) (by omega)
theorem Man_next (hF : FixAt H) (h : DiskAt H D) (hd : dkOk D.2.2.2) (hm : mOk D.2.2.2) {u i : Nat} (hu : u < 256) (hi : i ≤ D.2.2.2 0) (hfu : 11 ≤ fu) : jF_Manifest_nextFile fu (some 10) (nI u) (nI i) H = some (limI (mNext D.2.2.2 u (D.2.2.2 0 - i) i)) := by
  unfold jF_Manifest_nextFile
  rw [qok hF.2.2, Option.bind_some, Man_entries hF h, Option.bind_some]
  exact Man_nextL hF h hd hm hu _ i fu (by omega) (by have := hm.1; omega)
theorem fByt_lt {dk : Nat → Nat} (hd : dkOk dk) (i : Nat) : fByt dk i < 70000 ∧ fRec dk i < 256 ∧ fSch dk i < 256 := by
  have h1 := hd.1 (fAt dk i + 3)
  have h2 := hd.1 (fAt dk i + 4)
  unfold fByt fRec fSch
  exact ⟨by omega, hd.1 _, hd.1 _⟩
theorem Man_can (hF : FixAt H) (h : DiskAt H D) (hd : dkOk D.2.2.2) (hm : mOk D.2.2.2) {i j : Nat} (hi : i < D.2.2.2 0) (hj : j < D.2.2.2 0) : jF_Manifest_canJoin (some 10) (nI i) (nI j) H = some (bI (canJ D.2.2.2 i j)) := by
  have hbi := fByt_lt hd i
  have hbj := fByt_lt hd j
  unfold jF_Manifest_canJoin canJ
  rw [qok hF.2.2, Option.bind_some, Man_sch hF h hm hi, Option.bind_some, Man_sch hF h hm hj, Option.bind_some, if_eqN (by omega) (by omega)]
  by_cases h1 : fSch D.2.2.2 i = fSch D.2.2.2 j
  · rw [if_pos h1, Man_rec hF h hm hi, Option.bind_some, Man_rec hF h hm hj, Option.bind_some, nI_add, li20, if_ltN (by omega) (by omega)]
    by_cases h2 : 20 < fRec D.2.2.2 i + fRec D.2.2.2 j
    · rw [if_pos h2, decide_eq_false (by omega)]; rfl
    · rw [if_neg h2, Man_byt hF h hm hi, Option.bind_some, Man_byt hF h hm hj, Option.bind_some, nI_add, li200, if_ltN (by omega) (by omega)]
      by_cases h3 : 200 < fByt D.2.2.2 i + fByt D.2.2.2 j
      · rw [if_pos h3, decide_eq_false (by omega)]; rfl
      · rw [if_neg h3, decide_eq_true ⟨h1, by omega, by omega⟩]; rfl
  · rw [if_neg h1, decide_eq_false (fun q => h1 q.1)]; rfl
theorem Man_joinL (hF : FixAt H) (h : DiskAt H D) (hd : dkOk D.2.2.2) (hm : mOk D.2.2.2) {u : Nat} (hu : u < 256) (hfu : 11 ≤ fu) : ∀ (k i g : Nat), i + k = D.2.2.2 0 → k < g → jL_Manifest_firstToJoin_7 fu H g (some 10) (nI u) (nI (D.2.2.2 0)) (nI i) = some (limI ((mJoin D.2.2.2 u k i).map Prod.fst)) := by
  have hd1 := hd.1
  have hm1 := hm.1
  intro k
  induction k with
  | zero =>
    intro i g h1 h2
    obtain ⟨q, rfl⟩ : ∃ q, g = q + 1 := ⟨g - 1, by omega⟩
    rw [jL_Manifest_firstToJoin_7, if_pos (nI_le (by omega) (by omega))]; rfl
  | succ k ih =>
    intro i g h1 h2
    obtain ⟨q, rfl⟩ : ∃ q, g = q + 1 := ⟨g - 1, by omega⟩
    have h6 := ih (i + 1) q (by omega) (by omega)
    rw [jL_Manifest_firstToJoin_7, if_neg (nI_ge (by omega) (by omega)), Man_sub hF h (by omega), Option.bind_some, nI_1, if_eqN (by have := hd1 (1 + 3 * i); omega) (by omega), mJoin]
    by_cases h4 : D.2.2.2 (1 + 3 * i) = u
    · rw [if_pos h4, if_pos h4, Man_next hF h hd hm hu (by omega) hfu, Option.bind_some, show D.2.2.2 0 - (i + 1) = k by omega]
      cases hn : mNext D.2.2.2 u k (i + 1) with
      | none => rw [if_pos (show limI none = -1 from rfl)]; exact h6
      | some j =>
        have hj := mNext_lt k (i + 1) j hn
        dsimp only
        rw [show limI (some j) = nI j from rfl, if_neg (nI_m1 (by omega)), Man_can hF h hd hm (by omega) (by omega), Option.bind_some, if_bI]
        cases hc : canJ D.2.2.2 i j with
        | true => rfl
        | false => exact h6
    · rw [if_neg h4, if_neg h4]
      exact h6
theorem Man_join (hF : FixAt H) (h : DiskAt H D) (hd : dkOk D.2.2.2) (hm : mOk D.2.2.2) {u : Nat} (hu : u < 256) (hfu : 11 ≤ fu) : jF_Manifest_firstToJoin fu (some 10) (nI u) H = some (limI ((mJoin D.2.2.2 u (D.2.2.2 0) 0).map Prod.fst)) := by
  unfold jF_Manifest_firstToJoin
  rw [qok hF.2.2, Option.bind_some, Man_entries hF h, Option.bind_some]
  exact Man_joinL hF h hd hm hu hfu _ 0 fu (by omega) (by have := hm.1; omega)
end ManC
section ManM
variable {H : zH} {v : Nat → Int32} {D : yD} {fu : Nat}
theorem Mo_d0 (h : MDisk H v D) : zaI H (some 37) 0 0 = some (nI (D.2.2.2 0)) := Mo_dk (i := 0) h (by omega)
theorem Mo_fsub (h : MDisk H v D) {i : Nat} (hi : i ≤ 300) : jF_Mo_fileSubject (some 24) (nI i) H = some (nI (D.2.2.2 (1 + 3 * i))) := by
  unfold jF_Mo_fileSubject
  rw [qok h.1, Option.bind_some, qgR h.1 rfl, Option.bind_some, li1, li3, pk_mul, nI_add, Mo_dk h (by omega)]
  rfl
theorem Mo_fat (h : MDisk H v D) {i : Nat} (hi : i ≤ 300) : jF_Mo_fileAt (some 24) (nI i) H = some (nI (fAt D.2.2.2 i)) := by
  unfold jF_Mo_fileAt
  rw [qok h.1, Option.bind_some, qgR h.1 rfl, Option.bind_some, li2, li3, pk_mul, nI_add, Mo_dk h (by omega), Option.bind_some, li32, pk_mul]
  rfl
theorem Mo_frec (h : MDisk H v D) (hm : mOk D.2.2.2) {i : Nat} (hi : i < D.2.2.2 0) : jF_Mo_fileRecords (some 24) (nI i) H = some (nI (fRec D.2.2.2 i)) := by
  have h1 := fAt_lt hm hi
  have h2 := hm.1
  unfold jF_Mo_fileRecords
  rw [qok h.1, Option.bind_some, qgR h.1 rfl, Option.bind_some, Mo_fat h (by omega), Option.bind_some, li2, nI_add, Mo_dk h (by omega)]
  rfl
theorem Mo_fsch (h : MDisk H v D) (hm : mOk D.2.2.2) {i : Nat} (hi : i < D.2.2.2 0) : jF_Mo_fileSchema (some 24) (nI i) H = some (nI (fSch D.2.2.2 i)) := by
  have h1 := fAt_lt hm hi
  have h2 := hm.1
  unfold jF_Mo_fileSchema
  rw [qok h.1, Option.bind_some, qgR h.1 rfl, Option.bind_some, Mo_fat h (by omega), Option.bind_some, li1, nI_add, Mo_dk h (by omega)]
  rfl
theorem Mo_fbyt (h : MDisk H v D) (hm : mOk D.2.2.2) {i : Nat} (hi : i < D.2.2.2 0) : jF_Mo_fileBytes (some 24) (nI i) H = some (nI (fByt D.2.2.2 i)) := by
  have h1 := fAt_lt hm hi
  have h2 := hm.1
  unfold jF_Mo_fileBytes fByt
  rw [qok h.1, Option.bind_some, qgR h.1 rfl, Option.bind_some, Mo_fat h (by omega), Option.bind_some, li3, nI_add, Mo_dk h (by omega), Option.bind_some, Option.bind_some, Option.bind_some, li4, nI_add, Mo_dk h (by omega), Option.bind_some, li256, pk_mul, nI_add]
theorem Mo_recL (h : MDisk H v D) (hd : dkOk D.2.2.2) (hm : mOk D.2.2.2) {u : Nat} (hu : u < 256) : ∀ (g i : Nat), i ≤ D.2.2.2 0 → D.2.2.2 0 < i + g → jL_Mo_records_20 fu H g (some 24) (nI u) (nI (mRec D.2.2.2 u i)) (nI i) = some (nI (mRec D.2.2.2 u (D.2.2.2 0))) := by
  intro g
  induction g with
  | zero => intro i h1 h2; omega
  | succ g ih =>
    intro i h1 h2
    have hd1 := hd.1
    have hm1 := hm.1
    rw [jL_Mo_records_20, qgR h.1 rfl, Option.bind_some, Mo_d0 h, Option.bind_some]
    by_cases hc : i < D.2.2.2 0
    · rw [if_neg (nI_ge hc (by omega)), Mo_fsub h (by omega), Option.bind_some, Mo_frec h hm hc, Option.bind_some, nI_1, nI_add, li0, nI_add, if_eqN (by have := hd1 (1 + 3 * i); omega) (by omega)]
      have h6 := ih (i + 1) (by omega) (by omega)
      rw [mRec] at h6
      by_cases h4 : D.2.2.2 (1 + 3 * i) = u
      · rw [if_pos h4] at h6 ⊢
        exact h6
      · rw [if_neg h4] at h6 ⊢
        exact h6
    · have hi : i = D.2.2.2 0 := by omega
      rw [if_pos (nI_le (by omega) (by omega)), ← hi]
theorem Mo_filL (h : MDisk H v D) (hd : dkOk D.2.2.2) (hm : mOk D.2.2.2) {u : Nat} (hu : u < 256) : ∀ (g i : Nat), i ≤ D.2.2.2 0 → D.2.2.2 0 < i + g → jL_Mo_files_20 fu H g (some 24) (nI u) (nI (mCnt D.2.2.2 u i)) (nI i) = some (nI (mCnt D.2.2.2 u (D.2.2.2 0))) := by
  intro g
  induction g with
  | zero => intro i h1 h2; omega
  | succ g ih =>
    intro i h1 h2
    have hd1 := hd.1
    have hm1 := hm.1
    rw [jL_Mo_files_20, qgR h.1 rfl, Option.bind_some, Mo_d0 h, Option.bind_some]
    by_cases hc : i < D.2.2.2 0
    · rw [if_neg (nI_ge hc (by omega)), Mo_fsub h (by omega), Option.bind_some, nI_1, nI_1, li0, nI_add, if_eqN (by have := hd1 (1 + 3 * i); omega) (by omega)]
      have h6 := ih (i + 1) (by omega) (by omega)
      rw [mCnt] at h6
      by_cases h4 : D.2.2.2 (1 + 3 * i) = u
      · rw [if_pos h4] at h6 ⊢
        exact h6
      · rw [if_neg h4] at h6 ⊢
        exact h6
    · have hi : i = D.2.2.2 0 := by omega
      rw [if_pos (nI_le (by omega) (by omega)), ← hi]
theorem Mo_nextL (h : MDisk H v D) (hd : dkOk D.2.2.2) (hm : mOk D.2.2.2) {a : Nat} (ha : a ≤ 300) : ∀ (k i g : Nat), i + k = D.2.2.2 0 → k < g → jL_Mo_behind_4 fu H g (some 24) (nI a) (nI i) = some (limI (mNext D.2.2.2 (D.2.2.2 (1 + 3 * a)) k i)) := by
  have hd1 := hd.1
  have hm1 := hm.1
  intro k
  induction k with
  | zero =>
    intro i g h1 h2
    obtain ⟨q, rfl⟩ : ∃ q, g = q + 1 := ⟨g - 1, by omega⟩
    rw [jL_Mo_behind_4, qgR h.1 rfl, Option.bind_some, Mo_d0 h, Option.bind_some, if_pos (nI_le (by omega) (by omega))]; rfl
  | succ k ih =>
    intro i g h1 h2
    obtain ⟨q, rfl⟩ : ∃ q, g = q + 1 := ⟨g - 1, by omega⟩
    rw [jL_Mo_behind_4, qgR h.1 rfl, Option.bind_some, Mo_d0 h, Option.bind_some, if_neg (nI_ge (by omega) (by omega)), Mo_fsub h (by omega), Option.bind_some, Mo_fsub h ha, Option.bind_some, nI_1, if_eqN (by have := hd1 (1 + 3 * i); omega) (by have := hd1 (1 + 3 * a); omega), mNext]
    by_cases h4 : D.2.2.2 (1 + 3 * i) = D.2.2.2 (1 + 3 * a)
    · rw [if_pos h4, if_pos h4]; rfl
    · rw [if_neg h4, if_neg h4]
      exact ih (i + 1) q (by omega) (by omega)
theorem Mo_next (h : MDisk H v D) (hd : dkOk D.2.2.2) (hm : mOk D.2.2.2) {a : Nat} (ha : a < D.2.2.2 0) (hfu : 11 ≤ fu) : jF_Mo_behind fu (some 24) (nI a) H = some (limI (mNext D.2.2.2 (D.2.2.2 (1 + 3 * a)) (D.2.2.2 0 - (a + 1)) (a + 1))) := by
  have hm1 := hm.1
  unfold jF_Mo_behind
  rw [qok h.1, Option.bind_some, nI_1]
  exact Mo_nextL h hd hm (by omega) _ (a + 1) fu (by omega) (by omega)
theorem Mo_joins (h : MDisk H v D) (hd : dkOk D.2.2.2) (hm : mOk D.2.2.2) {i j : Nat} (hi : i < D.2.2.2 0) (hj : j < D.2.2.2 0) (hj0 : 0 < j) : jF_Mo_joins (some 24) (nI i) (nI j) H = some (bI (canJ D.2.2.2 i j)) := by
  have hbi := fByt_lt hd i
  have hbj := fByt_lt hd j
  have hm1 := hm.1
  unfold jF_Mo_joins canJ
  rw [qok h.1, Option.bind_some, if_neg (nI_nle hj0 (by omega)), Mo_fsch h hm hi, Option.bind_some, Mo_fsch h hm hj, Option.bind_some, if_eqN (by omega) (by omega)]
  by_cases h1 : fSch D.2.2.2 i = fSch D.2.2.2 j
  · rw [if_pos h1, Mo_frec h hm hi, Option.bind_some, Mo_frec h hm hj, Option.bind_some, nI_add, li20, if_ltN (by omega) (by omega)]
    by_cases h2 : 20 < fRec D.2.2.2 i + fRec D.2.2.2 j
    · rw [if_pos h2, decide_eq_false (by omega)]; rfl
    · rw [if_neg h2, Mo_fbyt h hm hi, Option.bind_some, Mo_fbyt h hm hj, Option.bind_some, nI_add, li200, if_ltN (by omega) (by omega)]
      by_cases h3 : 200 < fByt D.2.2.2 i + fByt D.2.2.2 j
      · rw [if_pos h3, decide_eq_false (by omega)]; rfl
      · rw [if_neg h3, decide_eq_true ⟨h1, by omega, by omega⟩]; rfl
  · rw [if_neg h1, decide_eq_false (fun q => h1 q.1)]; rfl
end ManM
