/-! The law: the start, and call after call. -/
def zHs : zH := (fun _ => .inr (0, []), 1)
def zS1o : Option zH := (zno zHs (.inr (0, [zR none, zR none, zR none, zR none, zR none, zR none, zR none, zR none]))).bind fun H0 => jF_ST_init zHs.2 H0
def zS1 : zH := zS1o.getD zHs
def zS2o : Option zH := (zno zS1 (.inr (1, [zI 0, zR none, zR none, zR none, zR none, zR none, zR none, zR none, zR none, zR none, zR none, zR none, zR none, zI 0, zR none, zI 0, zI 0, zI 0, zI 0, zR none, zI 0, zI 0, zI 0, zR none, zI 0, zR none, zI 0, zR none, zI 0, zR none, zR none, zR none, zR none, zI 0, zI 0, zI 0]))).bind fun H8 => jF_Mo_init zS1.2 H8
def zS2 : zH := zS2o.getD zHs
theorem zS1_eq : zS1o = some zS1 := rfl
theorem zS1_2 : zS1.2 = 24 := rfl
theorem zS2_eq : zS2o = some zS2 := rfl
theorem zS2_2 : zS2.2 = 46 := rfl
def zW0 : yW := ([], [], (true, none, 0, fun _ => 0), [], (0, 0, []), [])
set_option maxRecDepth 20000 in
theorem zC0 : CRep zS2 zW0 (fun _ => 0) := by
  refine ⟨⟨rfl, rfl, rfl⟩, ⟨rfl, rfl⟩, ⟨_, _, rfl, rfl, rfl, fun s hs => ?_, fun i hi => ?_⟩, ⟨[], ?_, _, ⟨rfl, rfl⟩, fun i hi => ?_⟩, ⟨[], ?_, _, ⟨rfl, rfl⟩, fun i hi => ?_⟩, ⟨[], ?_, _, ⟨rfl, rfl⟩, fun i hi => ?_⟩, ⟨_, rfl, fun h => ?_⟩, ⟨?_, _, ⟨rfl, rfl⟩, fun i hi => ?_⟩, ⟨_, ⟨rfl, rfl⟩, fun i hi => ?_⟩, ⟨[], _, ⟨rfl, rfl⟩, fun i hi => ?_⟩, ⟨_, ⟨rfl, rfl⟩, fun i hi => ?_⟩⟩
  · simp [zW0] at hs
  · simp [zW0] at hi
  · simp
  · simp at hi
  · simp
  · simp at hi
  · simp
  · simp at hi
  · simp [zW0] at h
  · simp [zW0]
  · simp [zW0] at hi
  · simp [zW0] at hi
  · simp at hi
  · simp [zW0] at hi
set_option maxRecDepth 20000 in
theorem zM0 : MRv zS2 (fun _ => 0) zW0 := by
  have n0 : ∀ s, s < (zW0.1 : yT).length → False := fun s hs => by simp [zW0] at hs
  have n1 : ∀ s, s < (zW0.2.1 : List yF).length → False := fun s hs => by simp [zW0] at hs
  refine ⟨⟨rfl, rfl, rfl, ?_⟩, ⟨⟨_, rfl, fun r w h => ?_⟩, ⟨_, rfl, fun r w h => ?_⟩⟩, ⟨rfl, rfl, rfl, rfl, rfl, fun n hn => ?_⟩, ⟨rfl, _, rfl, fun i hi => ?_⟩, ⟨rfl, fun h => ?_, rfl, _, rfl, fun i hi => ?_⟩, ⟨rfl, _, rfl, fun i hi => ?_⟩, ⟨⟨_, rfl⟩, ⟨_, rfl⟩, ⟨_, rfl⟩, ⟨_, rfl⟩, ⟨_, rfl⟩⟩⟩
  · exact ⟨⟨_, rfl, fun s hs => (n0 s hs).elim⟩, ⟨_, rfl, fun s hs => (n0 s hs).elim⟩, ⟨_, rfl, fun s hs => (n0 s hs).elim⟩, ⟨_, rfl, fun s hs => (n0 s hs).elim⟩, ⟨_, rfl, fun s hs => (n0 s hs).elim⟩, ⟨_, rfl, fun s hs => (n0 s hs).elim⟩, ⟨_, rfl, fun s i hs => (n0 s hs).elim, fun i hi => (n1 i hi).elim⟩, ⟨_, rfl, fun s i hs => (n0 s hs).elim, fun i hi => (n1 i hi).elim⟩, ⟨_, rfl, fun s i hs => (n0 s hs).elim, fun i hi => (n1 i hi).elim⟩, ⟨_, rfl, fun s i hs => (n0 s hs).elim, fun i hi => (n1 i hi).elim⟩⟩
  · exact (n0 _ h.1).elim
  · exact (n0 _ h.1).elim
  · cases hn
  · simp [zW0] at hi
  · simp [zW0] at h
  · simp [zW0] at hi
  · simp [zW0] at hi
theorem zWO : WOk zW0 := by
  refine ⟨⟨by simp [zW0], fun s hs => by simp [zW0] at hs⟩, fun s hs => by simp [zW0] at hs, fun s hs => by simp [zW0] at hs, ⟨by simp [zW0], fun i hi => by simp [zW0] at hi⟩, ⟨⟨fun i => ?_, ?_⟩, fun i h1 h2 => rfl, ⟨?_, fun i hi => ?_⟩, fun i h1 h2 => rfl, fun n hn => ?_, fun i hi => ?_, fun i hi => ?_⟩, by simp [zW0], SOk.nil, by simp [zW0], fun _ => rfl⟩
  · show 0 < 256; omega
  · show 0 ≤ 10; omega
  · show 0 ≤ 9; omega
  · have : i < 0 := hi
    omega
  · cases hn
  · have : i < 0 := hi
    omega
  · have : i < 0 := hi
    omega
theorem zI0 : yInv zS2 := ⟨zW0, _, zC0, ⟨_, zM0⟩, zWO, by rw [zS2_2]; omega⟩
section Lw
variable {L fu : Nat} {xs : Nat → Int32}
theorem zxl_at {i : Nat} (hi : i < L) (hL : L ≤ 3072) : zxl L xs (nI i) = some (xs i) := by
  unfold zxl
  rw [zix_of (nI_pos (by omega)) (by rw [nI_clamp (by omega)]; exact hi), nI_clamp (by omega)]
  rfl
theorem bStep {c m : zH → Option (Int32 × zH)} {K : zH → Option (Int32 × zH)} {H : zH} (hs : yStep c m) (hI : yInv H) (hK : ∀ H2, yInv H2 → ∃ Hz, K H2 = some (1, Hz)) : ∃ Hz, ((c H).bind fun y => (m y.2).bind fun z => if y.1 = z.1 then K z.2 else some ((0 : Int32), z.2)) = some (1, Hz) := by
  obtain ⟨a, H1, H2, e1, e2, e3⟩ := hs H hI
  rw [e1, Option.bind_some]
  dsimp only
  rw [e2, Option.bind_some]
  dsimp only
  rw [if_pos rfl]
  exact hK H2 e3
theorem bStepR {α : Type} [DecidableEq α] {c m : zH → Option α} {K : zH → Option (Int32 × zH)} {H : zH} (hs : yStepR c m) (hI : yInv H) (hK : ∀ H2, yInv H2 → ∃ Hz, K H2 = some (1, Hz)) : ∃ Hz, ((c H).bind fun y => (m H).bind fun z => if y = z then K H else some ((0 : Int32), H)) = some (1, Hz) := by
  obtain ⟨a, e1, e2⟩ := hs H hI
  rw [e1, Option.bind_some, e2, Option.bind_some, if_pos rfl]
  exact hK H hI
theorem law_end {j : Nat} (hL : L ≤ 3072) (hj0 : 6 * j ≤ L) (hj : L < 6 * j + 6) : nI L - 6 < nI (6 * j) := by
  by_cases h6 : 6 ≤ L
  · rw [li6, pk_sub h6]
    exact (nI_ltI (by omega) (by omega)).mpr (by omega)
  · have : L = 0 ∨ L = 1 ∨ L = 2 ∨ L = 3 ∨ L = 4 ∨ L = 5 := by omega
    have hlt : nI L - 6 < 0 := by rcases this with rfl | rfl | rfl | rfl | rfl | rfl <;> decide
    rw [Int32.lt_iff_toInt_lt] at hlt ⊢
    rw [nI_toInt (by omega)]
    have hlt' : (nI L - 6).toInt < (0 : Int) := hlt
    omega
theorem law_loop (hL : L ≤ 3072) (hfu : 2000 ≤ fu) : ∀ (m j g : Nat) (H : zH), (6 * (j + m) ≤ L ∧ L < 6 * (j + m) + 6) → m < g → yInv H → ∃ Hz, jL_Law_law_18 fu L xs g (some 1) (some 24) (nI (6 * j)) H = some (1, Hz) := by
  intro m
  induction m with
  | zero =>
    intro j g H h1 h2 hI
    obtain ⟨q, rfl⟩ : ∃ q, g = q + 1 := ⟨g - 1, by omega⟩
    rw [jL_Law_law_18, if_pos (law_end hL (by omega) (by omega))]
    exact ⟨H, rfl⟩
  | succ m ih =>
    intro j g H h1 h2 hI
    obtain ⟨q, rfl⟩ : ∃ q, g = q + 1 := ⟨g - 1, by omega⟩
    have hn : ¬ nI L - 6 < nI (6 * j) := by
      rw [li6, pk_sub (by omega), nI_ltI (by omega) (by omega)]
      omega
    have x0 : zxl L xs (nI (6 * j)) = some (xs (6 * j)) := zxl_at (by omega) hL
    have x1 : zxl L xs (nI (6 * j) + 1) = some (xs (6 * j + 1)) := by rw [nI_1]; exact zxl_at (by omega) hL
    have x2 : zxl L xs (nI (6 * j) + 2) = some (xs (6 * j + 2)) := by rw [li2, nI_add]; exact zxl_at (by omega) hL
    have x3 : zxl L xs (nI (6 * j) + 3) = some (xs (6 * j + 3)) := by rw [li3, nI_add]; exact zxl_at (by omega) hL
    have x4 : zxl L xs (nI (6 * j) + 4) = some (xs (6 * j + 4)) := by rw [li4, nI_add]; exact zxl_at (by omega) hL
    have x5 : zxl L xs (nI (6 * j) + 5) = some (xs (6 * j + 5)) := by rw [li5, nI_add]; exact zxl_at (by omega) hL
    have hK : ∀ H2, yInv H2 → ∃ Hz, jL_Law_law_18 fu L xs q (some 1) (some 24) (nI (6 * j) + 6) H2 = some (1, Hz) := by
      intro H2 hI2
      rw [li6, nI_add, show 6 * j + 6 = 6 * (j + 1) by omega]
      exact ih (j + 1) q H2 (by omega) (by omega) hI2
    rw [jL_Law_law_18, if_neg hn, x0, Option.bind_some]
    simp only [x1, x2, x3, x4, x5, Option.bind_some]
    generalize xs (6 * j) &&& 31 = cmd
    by_cases c0 : cmd = 0
    · rw [if_pos c0]
      by_cases c3 : xs (6 * j + 3) = 0
      · rw [if_pos c3]
        simp only [if_pos c3]
        exact bStep (st_field hfu _ _ false _) hI hK
      · rw [if_neg c3]
        simp only [if_neg c3]
        exact bStep (st_field hfu _ _ true _) hI hK
    rw [if_neg c0]
    by_cases c1 : cmd = 1
    · rw [if_pos c1]
      exact bStep (st_make hfu _ _ _ _) hI hK
    rw [if_neg c1]
    by_cases c2 : cmd = 2
    · rw [if_pos c2]
      exact bStepR (st_canRead hfu _ _) hI hK
    rw [if_neg c2]
    by_cases c3 : cmd = 3
    · rw [if_pos c3]
      exact bStep (st_register hfu _ _) hI hK
    rw [if_neg c3]
    by_cases c4 : cmd = 4
    · rw [if_pos c4]
      exact bStepR (st_versions hfu _) hI hK
    rw [if_neg c4]
    by_cases c5 : cmd = 5
    · rw [if_pos c5]
      exact bStepR (st_version hfu _ _) hI hK
    rw [if_neg c5]
    by_cases c6 : cmd = 6
    · rw [if_pos c6]
      exact bStep (st_give _) hI hK
    rw [if_neg c6]
    by_cases c7 : cmd = 7
    · rw [if_pos c7]
      exact bStep (st_stage hfu _) hI hK
    rw [if_neg c7]
    by_cases c8 : cmd = 8
    · rw [if_pos c8]
      exact bStep st_drop hI hK
    rw [if_neg c8]
    by_cases c9 : cmd = 9
    · rw [if_pos c9]
      exact bStep (st_load hfu _) hI hK
    rw [if_neg c9]
    by_cases c10 : cmd = 10
    · rw [if_pos c10]
      exact bStep (st_compact hfu _) hI hK
    rw [if_neg c10]
    by_cases c11 : cmd = 11
    · rw [if_pos c11]
      exact bStep (st_read hfu _ _ _) hI hK
    rw [if_neg c11]
    by_cases c12 : cmd = 12
    · rw [if_pos c12]
      exact bStepR (st_number _) hI hK
    rw [if_neg c12]
    by_cases c13 : cmd = 13
    · rw [if_pos c13]
      exact bStepR (st_records hfu _) hI hK
    rw [if_neg c13]
    by_cases c14 : cmd = 14
    · rw [if_pos c14]
      exact bStepR (st_files hfu _) hI hK
    rw [if_neg c14]
    by_cases c15 : cmd = 15
    · rw [if_pos c15]
      exact bStepR (st_octet _ _) hI hK
    rw [if_neg c15]
    by_cases c16 : cmd = 16
    · rw [if_pos c16]
      exact bStep (st_limit _) hI hK
    rw [if_neg c16]
    by_cases c17 : cmd = 17
    · rw [if_pos c17]
      exact bStep st_restart hI hK
    rw [if_neg c17]
    by_cases c18 : cmd = 18
    · rw [if_pos c18]
      exact bStepR st_writes hI hK
    rw [if_neg c18]
    exact hK H hI
theorem law_all (L : Nat) (xs : Nat → Int32) (hL : L ≤ 3072) : ∃ Hz, jF_Law_law 4000 L xs zHs = some (1, Hz) := by
  obtain ⟨Hz, hz⟩ := law_loop (fu := 4000) (xs := xs) hL (by omega) (L / 6) 0 520 zS2 (by omega) (by omega) zI0
  refine ⟨Hz, ?_⟩
  have e1 : jF_Law_law 4000 L xs zHs = zS1o.bind fun y4 => (zno y4 (.inr (1, [zI 0, zR none, zR none, zR none, zR none, zR none, zR none, zR none, zR none, zR none, zR none, zR none, zR none, zI 0, zR none, zI 0, zI 0, zI 0, zI 0, zR none, zI 0, zI 0, zI 0, zR none, zI 0, zR none, zI 0, zR none, zI 0, zR none, zR none, zR none, zR none, zI 0, zI 0, zI 0]))).bind fun H8 => (jF_Mo_init y4.2 H8).bind fun y12 => jL_Law_law_18 4000 L xs 520 (some 1) (some y4.2) 0 y12 := by
    unfold jF_Law_law zS1o
    rw [Option.bind_assoc]
    rfl
  rw [e1, zS1_eq, Option.bind_some]
  have e2 : ((zno zS1 (.inr (1, [zI 0, zR none, zR none, zR none, zR none, zR none, zR none, zR none, zR none, zR none, zR none, zR none, zR none, zI 0, zR none, zI 0, zI 0, zI 0, zI 0, zR none, zI 0, zI 0, zI 0, zR none, zI 0, zR none, zI 0, zR none, zI 0, zR none, zR none, zR none, zR none, zI 0, zI 0, zI 0]))).bind fun H8 => (jF_Mo_init zS1.2 H8).bind fun y12 => jL_Law_law_18 4000 L xs 520 (some 1) (some zS1.2) 0 y12) = zS2o.bind fun y12 => jL_Law_law_18 4000 L xs 520 (some 1) (some zS1.2) 0 y12 := by
    unfold zS2o
    rw [Option.bind_assoc]
  rw [e2, zS2_eq, Option.bind_some, zS1_2]
  exact hz
end Lw
