/-! load and compact: what they do, and the class. -/
def byOk (l : List Nat) : Prop := ∀ x, x ∈ l → x < 256
theorem byOk.sum : ∀ {l : List Nat}, byOk l → l.sum ≤ 256 * l.length := by
  intro l
  induction l with
  | nil => intro _; exact Nat.le_refl _
  | cons x l ih =>
    intro h
    have h1 := h x (List.mem_cons_self ..)
    have h2 := ih (fun y hy => h y (List.mem_cons_of_mem _ hy))
    rw [List.sum_cons, List.length_cons]
    omega
theorem byOk.app {a b : List Nat} (ha : byOk a) (hb : byOk b) : byOk (a ++ b) := fun x hx => by
  rcases List.mem_append.mp hx with h | h
  · exact ha x h
  · exact hb x h
theorem byOk.head {s n L : Nat} (hs : s < 256) (hn : n < 256) (hL : L < 60000) : byOk (fileH s n L) := by
  intro x hx
  have : x = 83 ∨ x = s ∨ x = n ∨ x = L / 256 ∨ x = L % 256 := by simpa [fileH] using hx
  omega
def dB (dk : Nat → Nat) (a : Nat) : Nat → List Nat
  | 0 => []
  | n + 1 => dB dk a n ++ [dk (a + n)]
theorem dB_len (dk : Nat → Nat) (a : Nat) : ∀ n, (dB dk a n).length = n
  | 0 => rfl
  | n + 1 => by rw [dB, List.length_append, dB_len dk a n]; rfl
theorem dB_ok {dk : Nat → Nat} (hd : dkOk dk) (a : Nat) : ∀ n, byOk (dB dk a n)
  | 0 => fun x hx => by simp [dB] at hx
  | n + 1 => by
    rw [dB]
    exact (dB_ok hd a n).app (fun x hx => by
      have : x = dk (a + n) := by simpa using hx
      rw [this]; exact hd.1 _)
def suOf (u : Int32) : Option Nat := if u < 0 then none else if u.toNatClampNeg < 3 then some u.toNatClampNeg else none
theorem suOf_some {u : Int32} {n : Nat} (h : suOf u = some n) : n < 3 ∧ u = nI n := by
  unfold suOf at h
  split at h
  · cases h
  · next h0 =>
    obtain ⟨j, hj, rfl⟩ := nI_of h0
    rw [nI_clamp hj] at h
    split at h
    · next h3 => cases h; exact ⟨h3, rfl⟩
    · cases h
theorem C_isSub {u : Int32} {H : zH} : jF_ST_isSubject u H = some (bI (suOf u).isSome) := by
  unfold jF_ST_isSubject suOf
  by_cases h0 : u < 0
  · rw [if_pos h0, if_pos h0]; rfl
  · rw [if_neg h0, if_neg h0]
    obtain ⟨j, hj, rfl⟩ := nI_of h0
    rw [nI_clamp hj, li3, if_leN (by omega) hj]
    by_cases h3 : j < 3
    · rw [if_neg (by omega), if_pos h3]; rfl
    · rw [if_pos (by omega), if_neg h3]; rfl
theorem Mo_noSub {u : Int32} {H : zH} : jF_Mo_noSubject u H = some (bI (suOf u).isNone) := by
  unfold jF_Mo_noSubject jJ_Mo_noSubject_9 suOf
  by_cases h0 : u < 0
  · rw [if_pos h0, if_pos h0]; rfl
  · rw [if_neg h0, if_neg h0]
    obtain ⟨j, hj, rfl⟩ := nI_of h0
    rw [nI_clamp hj, li2, if_leN hj (by omega)]
    by_cases h3 : j < 3
    · rw [if_pos (by omega), if_pos h3]; rfl
    · rw [if_neg (by omega), if_neg h3]; rfl
def downW (W : yW) (D : yD) : yW := (W.1, W.2.1, D, [], (W.2.2.2.2.1.1, 0, []), [])
def loadS (u : Int32) (W : yW) : Int32 × yW := if W.2.2.1.1 then (match suOf u with
    | none => (-1, W)
    | some k => if W.2.2.2.2.1.2.1 = 0 ∨ rHas W.2.2.1.2.2.2 k W.2.2.2.2.1.1 (W.2.2.1.2.2.2 32) = false then (-1, W) else if 9 ≤ W.2.2.1.2.2.2 0 then (-3, W) else
      match roomS W.2.2.1.2.2.2 (nBl (fileB W.2.2.2.2.1.1 W.2.2.2.2.1.2.1 W.2.2.2.2.1.2.2)) with
      | none => (-3, W)
      | some b => if (commS W.2.2.1 b (fileB W.2.2.2.2.1.1 W.2.2.2.2.1.2.1 W.2.2.2.2.1.2.2) (manB W.2.2.1.2.2.2 k b (nBl (fileB W.2.2.2.2.1.1 W.2.2.2.2.1.2.1 W.2.2.2.2.1.2.2)))).1 then
          (nI (mRec (commS W.2.2.1 b (fileB W.2.2.2.2.1.1 W.2.2.2.2.1.2.1 W.2.2.2.2.1.2.2) (manB W.2.2.1.2.2.2 k b (nBl (fileB W.2.2.2.2.1.1 W.2.2.2.2.1.2.1 W.2.2.2.2.1.2.2)))).2.2.2.2 k ((commS W.2.2.1 b (fileB W.2.2.2.2.1.1 W.2.2.2.2.1.2.1 W.2.2.2.2.1.2.2) (manB W.2.2.1.2.2.2 k b (nBl (fileB W.2.2.2.2.1.1 W.2.2.2.2.1.2.1 W.2.2.2.2.1.2.2)))).2.2.2.2 0)),
            W.1, W.2.1, (commS W.2.2.1 b (fileB W.2.2.2.2.1.1 W.2.2.2.2.1.2.1 W.2.2.2.2.1.2.2) (manB W.2.2.1.2.2.2 k b (nBl (fileB W.2.2.2.2.1.1 W.2.2.2.2.1.2.1 W.2.2.2.2.1.2.2)))).2, W.2.2.2.1, (W.2.2.2.2.1.1, 0, []), W.2.2.2.2.2)
        else (-4, downW W (commS W.2.2.1 b (fileB W.2.2.2.2.1.1 W.2.2.2.2.1.2.1 W.2.2.2.2.1.2.2) (manB W.2.2.1.2.2.2 k b (nBl (fileB W.2.2.2.2.1.1 W.2.2.2.2.1.2.1 W.2.2.2.2.1.2.2)))).2)) else (-4, W)
/-- the file of two joined -/
def joinB (dk : Nat → Nat) (f g : Nat) : List Nat := fileB (fSch dk f) (fRec dk f + fRec dk g) (dB dk (fAt dk f + 5) (fByt dk f) ++ dB dk (fAt dk g + 5) (fByt dk g))
def compS (u : Int32) (W : yW) : Int32 × yW := if W.2.2.1.1 then (match suOf u with
    | none => (-1, W)
    | some k => match mJoin W.2.2.1.2.2.2 k (W.2.2.1.2.2.2 0) 0 with
      | none => (0, W)
      | some (f, g) => match roomS W.2.2.1.2.2.2 (nBl (joinB W.2.2.1.2.2.2 f g)) with
        | none => (-3, W)
        | some b => if (commS W.2.2.1 b (joinB W.2.2.1.2.2.2 f g) (manJ W.2.2.1.2.2.2 f g b (nBl (joinB W.2.2.1.2.2.2 f g)))).1 then
            (1, W.1, W.2.1, (commS W.2.2.1 b (joinB W.2.2.1.2.2.2 f g) (manJ W.2.2.1.2.2.2 f g b (nBl (joinB W.2.2.1.2.2.2 f g)))).2, W.2.2.2)
          else (-4, downW W (commS W.2.2.1 b (joinB W.2.2.1.2.2.2 f g) (manJ W.2.2.1.2.2.2 f g b (nBl (joinB W.2.2.1.2.2.2 f g)))).2)) else (-4, W)
theorem room_fit {dk : Nat → Nat} {n b : Nat} (hn : 1 ≤ n) (h : roomS dk n = some b) : 2 ≤ b ∧ b + n ≤ 40 ∧ ∀ k, b ≤ k → k < b + n → cov dk k (dk 0) = false := by
  obtain ⟨h1, h2, h3⟩ := roomF_some 38 2 h
  have h4 := (afr_iff n).mp h3
  have h5 := h4 (b + n - 1) (by omega) (by omega)
  exact ⟨h1, by omega, fun k k1 k2 => (h4 k k1 k2).2⟩
theorem fileB_len (s n : Nat) (b : List Nat) : (fileB s n b).length = b.length + 6 := by
  unfold fileB fileH
  rw [List.length_append, List.length_append]
  simp; omega
section CL
variable {H : zH} {D : yD} {fu : Nat}
theorem C_head (hF : FixAt H) (hB : ∃ b, BL H 11 206 b) {s n L : Nat} (hL : L < 60000) : ∃ H', jF_Manifest_draftHead (some 10) (nI s) (nI n) (nI L) H = some H' ∧ BL H' 11 206 (fileH s n L) ∧ Fr H H' (fun q => q = 11 ∨ q = 12) := by
  obtain ⟨b, hB⟩ := hB
  unfold jF_Manifest_draftHead
  rw [qok hF.2.2, Option.bind_some, qgR hF.2.2 rfl, Option.bind_some]
  obtain ⟨H1, e1, e2, e3⟩ := hB.cut (n := 0) (by omega)
  have e1' : jF_Bytes_cutTo (some 11) 0 H = _ := e1
  have f1 := hF.fr e3 (by omega) (by omega) (by omega)
  rw [List.take_zero] at e2
  rw [e1', Option.bind_some, qgR f1.2.2 rfl, Option.bind_some, li83]
  obtain ⟨H2, g1, g2, g3⟩ := e2.append (b := 83) (by omega) (by simp)
  have f2 := f1.fr g3 (by omega) (by omega) (by omega)
  rw [g1, Option.bind_some, qgR f2.2.2 rfl, Option.bind_some]
  obtain ⟨H3, i1, i2, i3⟩ := g2.append (b := s) (by omega) (by simp)
  have f3 := f2.fr i3 (by omega) (by omega) (by omega)
  rw [i1, Option.bind_some, qgR f3.2.2 rfl, Option.bind_some]
  obtain ⟨H4, j1, j2, j3⟩ := i2.append (b := n) (by omega) (by simp)
  have f4 := f3.fr j3 (by omega) (by omega) (by omega)
  rw [j1, Option.bind_some, qgR f4.2.2 rfl, Option.bind_some, pk_shrN (by omega) ((8 : Int32) &&& 31) 8 (by decide)]
  obtain ⟨H5, k1, k2, k3⟩ := j2.append (b := L / 2 ^ 8) (by omega) (by simp)
  have f5 := f4.fr k3 (by omega) (by omega) (by omega)
  rw [k1, Option.bind_some, qgR f5.2.2 rfl, Option.bind_some, pk_andN (by omega) 8 (by decide)]
  obtain ⟨H6, l1, l2, l3⟩ := k2.append (b := L % 2 ^ 8) (by omega) (by simp)
  rw [l1, Option.bind_some]
  refine ⟨H6, rfl, ?_, ((((e3.tr g3).tr i3).tr j3).tr k3).tr l3⟩
  exact l2
/-- the sum behind the file -/
theorem C_sum (hF : FixAt H) {l : List Nat} (hB : BL H 11 206 l) (hl : l.length < 206) (hy : byOk l) (hfu : 207 ≤ fu) : ∃ H', ((jF_Bytes_sum fu (some 11) H).bind fun y61 => (jF_Bytes_append (some 11) (y61 - y61 / (251 : Int32) * (251 : Int32)) H).bind fun y68 => some y68) = some H' ∧ BL H' 11 206 (l ++ [l.sum % 251]) ∧ Fr H H' (fun q => q = 11 ∨ q = 12) := by
  have hs := hy.sum
  rw [hB.sum (by omega) (by omega), Option.bind_some, li251, pk_rem (by omega) (by omega) (by omega)]
  obtain ⟨H1, e1, e2, e3⟩ := hB.append (b := l.sum % 251) (by omega) hl
  rw [e1, Option.bind_some]
  exact ⟨H1, rfl, e2, e3⟩
theorem C_stagedL {ss sc : Nat} {sb hd : List Nat} (hy : byOk (hd ++ sb)) (hl : hd.length + sb.length < 206) (hfu : 207 ≤ fu) : ∀ (m i g : Nat) (H : zH), i + m = sb.length → m < g → FixAt H → StagAt H ss sc → BL H 16 390 sb → BL H 11 206 (hd ++ sb.take i) →
    ∃ H', jL_Manifest_draftStaged_21 fu g (some 10) (some 15) (nI i) H = some H' ∧ BL H' 11 206 (hd ++ sb ++ [(hd ++ sb).sum % 251]) ∧ Fr H H' (fun q => q = 11 ∨ q = 12) := by
  intro m
  induction m with
  | zero =>
    intro i g H h1 h2 hF hS hB hM
    obtain ⟨q, rfl⟩ : ∃ q, g = q + 1 := ⟨g - 1, by omega⟩
    obtain ⟨sv, g1, g2⟩ := hS
    have hi : i = sb.length := by omega
    subst hi
    rw [List.take_length] at hM
    rw [jL_Manifest_draftStaged_21, qgR g1 rfl, Option.bind_some, hB.size, Option.bind_some, if_pos (nI_le (Nat.le_refl _) (by omega)), qgR hF.2.2 rfl, Option.bind_some, Option.bind_some]
    exact C_sum hF hM (by rw [List.length_append]; exact hl) hy hfu
  | succ m ih =>
    intro i g H h1 h2 hF hS hB hM
    obtain ⟨q, rfl⟩ : ∃ q, g = q + 1 := ⟨g - 1, by omega⟩
    obtain ⟨sv, g1, g2⟩ := id hS
    rw [jL_Manifest_draftStaged_21, qgR g1 rfl, Option.bind_some, hB.size, Option.bind_some, if_neg (nI_ge (by omega) (by omega)), qgR hF.2.2 rfl, Option.bind_some, Option.bind_some, hB.at (by omega) (by omega), Option.bind_some, nI_1]
    obtain ⟨H1, e1, e2, e3⟩ := hM.append (b := sb.getD i 0) (by omega) (by rw [List.length_append, List.length_take]; omega)
    rw [e1, Option.bind_some]
    have ht : hd ++ sb.take i ++ [sb.getD i 0] = hd ++ sb.take (i + 1) := by
      rw [List.append_assoc, List.take_succ]
      simp [List.getD, List.getElem?_eq_getElem (show i < sb.length by omega)]
    rw [ht] at e2
    obtain ⟨H2, f1, f2, f3⟩ := ih (i + 1) q H1 (by omega) (by omega) (hF.fr e3 (by omega) (by omega) (by omega)) (hS.fr e3 (by omega)) (hB.fr e3 (by omega) (by omega)) e2
    exact ⟨H2, f1, f2, e3.tr f3⟩
theorem C_staged (hF : FixAt H) {ss sc : Nat} {sb : List Nat} (hS : StagAt H ss sc) (hsc : 0 < sc) (h1 : ss < 256) (h2 : sc < 256) (hB : BL H 16 390 sb) (hb : sb.length ≤ 150) (hy : byOk sb) (h11 : ∃ b, BL H 11 206 b) (hfu : 207 ≤ fu) : ∃ H', jF_Manifest_draftStaged fu (some 10) (some 15) H = some H' ∧ BL H' 11 206 (fileB ss sc sb) ∧ Fr H H' (fun q => q = 11 ∨ q = 12) := by
  obtain ⟨sv, g1, g2⟩ := id hS
  unfold jF_Manifest_draftStaged
  rw [qok hF.2.2, Option.bind_some, qgI g1 rfl, Option.bind_some, qgI g1 rfl, Option.bind_some, qgR g1 rfl, Option.bind_some, hB.size, Option.bind_some, g2 hsc]
  obtain ⟨H1, e1, e2, e3⟩ := C_head (s := ss) (n := sc) (L := sb.length) hF h11 (by omega)
  rw [e1, Option.bind_some]
  have hh : byOk (fileH ss sc sb.length ++ sb) := (byOk.head h1 h2 (by omega)).app hy
  obtain ⟨H2, f1, f2, f3⟩ := C_stagedL (fu := fu) (ss := ss) (sc := sc) hh (by show 5 + _ < 206; omega) hfu sb.length 0 fu H1 (by omega) (by omega) (hF.fr e3 (by omega) (by omega) (by omega)) (hS.fr e3 (by omega)) (hB.fr e3 (by omega) (by omega)) (by rw [List.take_zero, List.append_nil]; exact e2)
  exact ⟨H2, f1, f2, e3.tr f3⟩
theorem C_recsL {l : List Nat} {a n : Nat} (ha : a + n ≤ 1280) (hl : l.length + n ≤ 206) : ∀ (m i g : Nat) (H : zH), i + m = n → m < g → FixAt H → DiskAt H D → BL H 11 206 (l ++ dB D.2.2.2 a i) →
    ∃ H', jL_Manifest_draftRecordsOf_17 fu g (some 10) (nI a) (nI n) (nI i) H = some H' ∧ BL H' 11 206 (l ++ dB D.2.2.2 a n) ∧ Fr H H' (fun q => q = 11 ∨ q = 12) := by
  intro m
  induction m with
  | zero =>
    intro i g H h1 h2 hF hD hM
    obtain ⟨q, rfl⟩ : ∃ q, g = q + 1 := ⟨g - 1, by omega⟩
    have hi : i = n := by omega
    subst hi
    rw [jL_Manifest_draftRecordsOf_17, if_pos (nI_le (Nat.le_refl _) (by omega))]
    exact ⟨H, rfl, hM, Fr.rf⟩
  | succ m ih =>
    intro i g H h1 h2 hF hD hM
    obtain ⟨q, rfl⟩ : ∃ q, g = q + 1 := ⟨g - 1, by omega⟩
    rw [jL_Manifest_draftRecordsOf_17, if_neg (nI_ge (by omega) (by omega)), qgR hF.2.2 rfl, Option.bind_some, qgR hF.2.2 rfl, Option.bind_some, nI_add, Disk_at hD (by omega), Option.bind_some, dget, if_pos (by omega), nI_1]
    obtain ⟨H1, e1, e2, e3⟩ := hM.append (b := D.2.2.2 (a + i)) (by omega) (by rw [List.length_append, dB_len]; omega)
    rw [e1, Option.bind_some]
    rw [List.append_assoc] at e2
    obtain ⟨H2, f1, f2, f3⟩ := ih (i + 1) q H1 (by omega) (by omega) (hF.fr e3 (by omega) (by omega) (by omega)) (hD.fr e3 (by omega) (by omega)) e2
    exact ⟨H2, f1, f2, e3.tr f3⟩
theorem C_recs (hF : FixAt H) (hD : DiskAt H D) (hm : mOk D.2.2.2) {i : Nat} (hi : i < D.2.2.2 0) {l : List Nat} (hB : BL H 11 206 l) (ha : fAt D.2.2.2 i + 5 + fByt D.2.2.2 i ≤ 1280) (hl : l.length + fByt D.2.2.2 i ≤ 206) (hfu : 207 ≤ fu) : ∃ H', jF_Manifest_draftRecordsOf fu (some 10) (nI i) H = some H' ∧ BL H' 11 206 (l ++ dB D.2.2.2 (fAt D.2.2.2 i + 5) (fByt D.2.2.2 i)) ∧ Fr H H' (fun q => q = 11 ∨ q = 12) := by
  have hm1 := hm.1
  unfold jF_Manifest_draftRecordsOf
  rw [qok hF.2.2, Option.bind_some, Man_start hF hD (by omega), Option.bind_some, Man_byt hF hD hm hi, Option.bind_some, li5, nI_add]
  exact C_recsL ha hl (fByt D.2.2.2 i) 0 fu H (by omega) (by omega) hF hD (by rw [dB, List.append_nil]; exact hB)
theorem C_joinB (hF : FixAt H) (hD : DiskAt H D) (hd : dkOk D.2.2.2) (hm : mOk D.2.2.2) {f g : Nat} (hf : f < D.2.2.2 0) (hg : g < D.2.2.2 0) (ha : fAt D.2.2.2 f + 5 + fByt D.2.2.2 f ≤ 1280) (hb : fAt D.2.2.2 g + 5 + fByt D.2.2.2 g ≤ 1280) (hr : fRec D.2.2.2 f + fRec D.2.2.2 g ≤ 20) (hl : fByt D.2.2.2 f + fByt D.2.2.2 g ≤ 200) (h11 : ∃ b, BL H 11 206 b) (hfu : 207 ≤ fu) : ∃ H', jF_Manifest_draftJoined fu (some 10) (nI f) (nI g) H = some H' ∧ BL H' 11 206 (joinB D.2.2.2 f g) ∧ Fr H H' (fun q => q = 11 ∨ q = 12) := by
  unfold jF_Manifest_draftJoined
  rw [qok hF.2.2, Option.bind_some, Man_rec hF hD hm hf, Option.bind_some, Man_rec hF hD hm hg, Option.bind_some, Man_sch hF hD hm hf, Option.bind_some, Man_byt hF hD hm hf, Option.bind_some, Man_byt hF hD hm hg, Option.bind_some, nI_add, nI_add]
  obtain ⟨H1, e1, e2, e3⟩ := C_head (s := fSch D.2.2.2 f) (n := fRec D.2.2.2 f + fRec D.2.2.2 g) (L := fByt D.2.2.2 f + fByt D.2.2.2 g) hF h11 (by omega)
  have F1 := hF.fr e3 (by omega) (by omega) (by omega)
  rw [e1, Option.bind_some]
  obtain ⟨H2, f1, f2, f3⟩ := C_recs (fu := fu) F1 (hD.fr e3 (by omega) (by omega)) hm hf e2 ha (by show 5 + _ ≤ 206; omega) hfu
  have F2 := F1.fr f3 (by omega) (by omega) (by omega)
  rw [f1, Option.bind_some]
  obtain ⟨H3, g1, g2, g3⟩ := C_recs (fu := fu) F2 ((hD.fr e3 (by omega) (by omega)).fr f3 (by omega) (by omega)) hm hg f2 hb (by rw [List.length_append, dB_len]; show 5 + _ + _ ≤ 206; omega) hfu
  have F3 := F2.fr g3 (by omega) (by omega) (by omega)
  rw [g1, Option.bind_some, qgR F3.2.2 rfl, Option.bind_some, Option.bind_some]
  rw [List.append_assoc] at g2
  have hll : (dB D.2.2.2 (fAt D.2.2.2 f + 5) (fByt D.2.2.2 f) ++ dB D.2.2.2 (fAt D.2.2.2 g + 5) (fByt D.2.2.2 g)).length = fByt D.2.2.2 f + fByt D.2.2.2 g := by rw [List.length_append, dB_len, dB_len]
  have hbl := fByt_lt hd f
  obtain ⟨H4, i1, i2, i3⟩ := C_sum (fu := fu) F3 g2 (by rw [List.length_append, hll]; show 5 + _ < 206; omega) ((byOk.head hbl.2.2 (by omega) (by omega)).app ((dB_ok hd _ _).app (dB_ok hd _ _))) hfu
  refine ⟨H4, i1, ?_, ((e3.tr f3).tr g3).tr i3⟩
  unfold joinB fileB
  rw [hll]
  exact i2
end CL
