/-! register, versions, version, canRead. -/
def vL (dk : Nat → Nat) (u : Nat) : Nat → Nat → List Nat
  | 0, _ => []
  | n + 1, i => if dk (33 + 2 * i) = u then dk (34 + 2 * i) :: vL dk u n (i + 1) else vL dk u n (i + 1)
theorem vL_len {dk : Nat → Nat} {u : Nat} : ∀ (n i : Nat), (vL dk u n i).length + rCnt dk u i = rCnt dk u (i + n) := by
  intro n
  induction n with
  | zero => intro i; simp [vL]
  | succ n ih =>
    intro i
    have := ih (i + 1)
    have hs : rCnt dk u (i + 1) = rCnt dk u i + if dk (33 + 2 * i) = u then 1 else 0 := rfl
    rw [vL, show i + (n + 1) = i + 1 + n by omega, ← this, hs]
    split
    · rw [List.length_cons]; omega
    · omega
theorem rVe_vL {dk : Nat → Nat} {u : Nat} : ∀ (n i c v : Nat), c ≤ v → v < 2 ^ 31 → c + n < 2 ^ 31 → rVe dk u (nI v) n i c = (vL dk u n i)[v - c]? := by
  intro n
  induction n with
  | zero => intro i c v _ _ _; simp [rVe, vL]
  | succ n ih =>
    intro i c v h1 h2 h3
    rw [rVe, vL]
    by_cases hu : dk (33 + 2 * i) = u
    · rw [if_pos hu, if_pos hu, if_eqN (by omega) h2]
      by_cases hc : c = v
      · rw [if_pos hc, hc, Nat.sub_self]; rfl
      · rw [if_neg hc, ih (i + 1) (c + 1) v (by omega) h2 (by omega)]
        rw [show v - c = (v - (c + 1)) + 1 by omega]
        rfl
    · rw [if_neg hu, if_neg hu]
      exact ih (i + 1) c v h1 h2 (by omega)
theorem vL_mem {dk : Nat → Nat} {u m : Nat} (h : ∀ i, i < dk 32 → dk (34 + 2 * i) < m) : ∀ (n i : Nat), i + n ≤ dk 32 → ∀ q, q ∈ vL dk u n i → q < m := by
  intro n
  induction n with
  | zero => intro i _ q hq; simp [vL] at hq
  | succ n ih =>
    intro i hi q hq
    rw [vL] at hq
    split at hq
    · rcases List.mem_cons.mp hq with rfl | hq
      · exact h i (by omega)
      · exact ih (i + 1) (by omega) q hq
    · exact ih (i + 1) (by omega) q hq
/-- the new schema reads all earlier ones -/
def rdV (T : yT) (dk : Nat → Nat) (u s : Nat) : Bool := (vL dk u (dk 32) 0).all (readsS T 14 s)
def regS (u s : Int32) (W : yW) : Int32 × yW := if W.2.2.1.1 then (match suOf u with
    | none => (-1, W)
    | some k => match scOf W.1 s with
      | none => (-1, W)
      | some r => if rHas W.2.2.1.2.2.2 k r (W.2.2.1.2.2.2 32) then (-1, W) else if 10 ≤ W.2.2.1.2.2.2 32 then (-1, W) else if rdV W.1 W.2.2.1.2.2.2 k r then
          (if (wrS W.2.2.1 1 (regB W.2.2.1.2.2.2 k r)).1 then (nI (rCnt W.2.2.1.2.2.2 k (W.2.2.1.2.2.2 32)), W.1, W.2.1, (wrS W.2.2.1 1 (regB W.2.2.1.2.2.2 k r)).2, W.2.2.2) else (-4, downW W (wrS W.2.2.1 1 (regB W.2.2.1.2.2.2 k r)).2))
        else (-2, W)) else (-4, W)
def verS (u : Int32) (W : yW) : Int32 := if W.2.2.1.1 then (match suOf u with
    | none => -1
    | some k => nI (rCnt W.2.2.1.2.2.2 k (W.2.2.1.2.2.2 32))) else -1
def veS (u w : Int32) (W : yW) : Int32 := if W.2.2.1.1 then (match suOf u with
    | none => -1
    | some k => limI (rVe W.2.2.1.2.2.2 k w (W.2.2.1.2.2.2 32) 0 0)) else -1
section CRg
variable {H : zH} {T : yT} {P : List yF} {D : yD} {xs fo : List Int64} {g : Nat × Nat × List Nat} {R : Nat → Nat} {fu : Nat}
theorem C_versions {W : yW} (h : CRep H W R) (hd : dkOk W.2.2.1.2.2.2) (hfu : 11 ≤ fu) {u : Int32} : jF_ST_versions fu (some 1) u H = some (verS u W) := by
  obtain ⟨h1, h2, -⟩ := h
  unfold jF_ST_versions verS
  rw [qok h1.1, Option.bind_some, C_isSub, Option.bind_some, if_bI]
  cases hsu : suOf u with
  | none => cases W.2.2.1.1 <;> rfl
  | some k =>
    obtain ⟨hk, rfl⟩ := suOf_some hsu
    rw [show (some k).isSome = true from rfl, if_pos rfl, qgR h1.1 rfl, Option.bind_some, C_up h2, Option.bind_some, if_bI]
    cases W.2.2.1.1 with
    | false => rfl
    | true => rw [if_pos rfl, if_pos rfl, qgR h1.1 rfl, Option.bind_some, Reg_count h1 h2 hd (by omega) hfu, Option.bind_some]
theorem C_version {W : yW} (h : CRep H W R) (hd : dkOk W.2.2.1.2.2.2) (hfu : 11 ≤ fu) {u w : Int32} : jF_ST_version fu (some 1) u w H = some (veS u w W) := by
  obtain ⟨h1, h2, -⟩ := h
  unfold jF_ST_version veS
  rw [qok h1.1, Option.bind_some, C_isSub, Option.bind_some, if_bI]
  cases hsu : suOf u with
  | none => cases W.2.2.1.1 <;> rfl
  | some k =>
    obtain ⟨hk, rfl⟩ := suOf_some hsu
    rw [show (some k).isSome = true from rfl, if_pos rfl, qgR h1.1 rfl, Option.bind_some, C_up h2, Option.bind_some, if_bI]
    cases W.2.2.1.1 with
    | false => rfl
    | true => rw [if_pos rfl, if_pos rfl, qgR h1.1 rfl, Option.bind_some, Reg_ver h1 h2 hd (by omega) hfu, Option.bind_some]
theorem C_records {W : yW} (h : CRep H W R) (hd : dkOk W.2.2.1.2.2.2) (hm : mOk W.2.2.1.2.2.2) (hfu : 11 ≤ fu) {u : Int32} : jF_ST_records fu (some 1) u H = some (recS u W) := by
  obtain ⟨h1, h2, -⟩ := h
  unfold jF_ST_records recS
  rw [qok h1.1, Option.bind_some, C_isSub, Option.bind_some, if_bI]
  cases hsu : suOf u with
  | none => cases W.2.2.1.1 <;> rfl
  | some k =>
    obtain ⟨hk, rfl⟩ := suOf_some hsu
    rw [show (some k).isSome = true from rfl, if_pos rfl, qgR h1.1 rfl, Option.bind_some, C_up h2, Option.bind_some, if_bI]
    cases W.2.2.1.1 with
    | false => rfl
    | true => rw [if_pos rfl, if_pos rfl, qgR h1.1 rfl, Option.bind_some, Man_records h1 h2 hd hm (by omega) hfu, Option.bind_some]
theorem C_files {W : yW} (h : CRep H W R) (hd : dkOk W.2.2.1.2.2.2) (hm : mOk W.2.2.1.2.2.2) (hfu : 11 ≤ fu) {u : Int32} : jF_ST_files fu (some 1) u H = some (filS u W) := by
  obtain ⟨h1, h2, -⟩ := h
  unfold jF_ST_files filS
  rw [qok h1.1, Option.bind_some, C_isSub, Option.bind_some, if_bI]
  cases hsu : suOf u with
  | none => cases W.2.2.1.1 <;> rfl
  | some k =>
    obtain ⟨hk, rfl⟩ := suOf_some hsu
    rw [show (some k).isSome = true from rfl, if_pos rfl, qgR h1.1 rfl, Option.bind_some, C_up h2, Option.bind_some, if_bI]
    cases W.2.2.1.1 with
    | false => rfl
    | true => rw [if_pos rfl, if_pos rfl, qgR h1.1 rfl, Option.bind_some, Man_files h1 h2 hd hm (by omega) hfu, Option.bind_some]
theorem C_canRead {W : yW} (h : CRep H W R) (hT : TOk W.1) (hfu : 5 ≤ fu) {r w : Int32} : jF_ST_canRead fu (some 1) r w H = some (match scOf W.1 r with
    | none => 0
    | some a => match scOf W.1 w with
      | none => 0
      | some b => bI (readsS W.1 14 a b)) := by
  obtain ⟨h1, -, h3, -⟩ := h
  unfold jF_ST_canRead
  rw [qok h1.1, Option.bind_some, qgR h1.1 rfl, Option.bind_some, C_find h3 hT.1, Option.bind_some, Option.bind_some, C_find h3 hT.1, Option.bind_some]
  cases hr : scOf W.1 r with
  | none => rfl
  | some a =>
    obtain ⟨ha, -⟩ := scOf_some hr
    rw [if_neg (show ¬ (some a).map R = none by simp)]
    cases hw : scOf W.1 w with
    | none => rfl
    | some b =>
      obtain ⟨hb, -⟩ := scOf_some hw
      have d1 := (hT.2 a ha).2.2.1
      have d2 := (hT.2 b hb).2.2.1
      have := C_reads (fu := fu) h3.tab hT hfu 14 a b ha hb (by omega)
      rw [if_neg (show ¬ (some b).map R = none by simp)]
      show ((jF_Schema_reads fu 14 (some (R a)) (some (R b)) H).bind _) = _
      rw [this, Option.bind_some, if_bI]
      dsimp only
      cases readsS W.1 14 a b <;> rfl
theorem C_rdVL (h : CRep H (T, P, D, xs, g, fo) R) (hT : TOk T) (hd : dkOk D.2.2.2) (hv : ∀ i, i < D.2.2.2 32 → D.2.2.2 (34 + 2 * i) < T.length) (hfu : 15 ≤ fu) {u s : Nat} (hu : u < 256) (hs : s < T.length) : ∀ (m v g' : Nat), v + m = (vL D.2.2.2 u (D.2.2.2 32) 0).length → m < g' → jL_ST_readsVersions_12 fu H g' (some 1) (some (R s)) (nI u) (nI (vL D.2.2.2 u (D.2.2.2 32) 0).length) (nI v) = some (bI (((vL D.2.2.2 u (D.2.2.2 32) 0).drop v).all (readsS T 14 s))) := by
  obtain ⟨h1, h2, h3, -⟩ := h
  dsimp only at h1 h2 h3
  have hd2 := hd.2
  have hlen : (vL D.2.2.2 u (D.2.2.2 32) 0).length ≤ 10 := by
    have := vL_len (dk := D.2.2.2) (u := u) (D.2.2.2 32) 0
    have hr : ∀ n, rCnt D.2.2.2 u n ≤ n := by
      intro n
      induction n with
      | zero => exact Nat.le_refl _
      | succ n ih => rw [rCnt]; split <;> omega
    have := hr (0 + D.2.2.2 32)
    omega
  intro m
  induction m with
  | zero =>
    intro v g' e1 e2
    obtain ⟨q, rfl⟩ : ∃ q, g' = q + 1 := ⟨g' - 1, by omega⟩
    rw [jL_ST_readsVersions_12, if_pos (nI_le (by omega) (by omega)), List.drop_eq_nil_of_le (by omega)]
    rfl
  | succ m ih =>
    intro v g' e1 e2
    obtain ⟨q, rfl⟩ : ∃ q, g' = q + 1 := ⟨g' - 1, by omega⟩
    have hvl : v < (vL D.2.2.2 u (D.2.2.2 32) 0).length := by omega
    have hve := rVe_vL (dk := D.2.2.2) (u := u) (D.2.2.2 32) 0 0 v (by omega) (by omega) (by omega)
    rw [Nat.sub_zero, List.getElem?_eq_getElem hvl] at hve
    have hmem := vL_mem (u := u) hv (D.2.2.2 32) 0 (by omega) _ (List.getElem_mem hvl)
    generalize hx : (vL D.2.2.2 u (D.2.2.2 32) 0)[v] = x at hve hmem
    have d1 := (hT.2 s hs).2.2.1
    have d2 := (hT.2 x hmem).2.2.1
    have hrd := C_reads (fu := fu) h3.tab hT (by omega) 14 s x hs hmem (by omega)
    have hfind : jF_Schemas_find (some 4) (nI x) H = some (some (R x)) := by rw [C_find h3 hT.1, scOf_nI hmem hT.1]; rfl
    have hver : jF_Registry_schemaOf fu (some 7) (nI u) (nI v) H = some (nI x) := by
      rw [Reg_ver h1 h2 hd hu (by omega)]
      show some (limI (rVe D.2.2.2 u (nI v) (D.2.2.2 32) 0 0)) = _
      rw [hve]; rfl
    rw [jL_ST_readsVersions_12, if_neg (nI_ge (by omega) (by omega)), qgR h1.1 rfl, Option.bind_some, qgR h1.1 rfl, Option.bind_some, hver, Option.bind_some, hfind, Option.bind_some, if_neg (by simp), hrd, Option.bind_some, if_bI, nI_1, List.drop_eq_getElem_cons hvl, List.all_cons, hx]
    cases readsS T 14 s x with
    | false => rfl
    | true =>
      rw [if_pos rfl, Bool.true_and]
      exact ih (v + 1) q (by omega) (by omega)
theorem C_register (h : CRep H (T, P, D, xs, g, fo) R) (hT : TOk T) (hD : DOk T D) (hfu : 40 ≤ fu) {u s : Int32} :
    ∃ H', jF_ST_register fu (some 1) u s H = some ((regS u s (T, P, D, xs, g, fo)).1, H') ∧ CRep H' (regS u s (T, P, D, xs, g, fo)).2 R ∧ Fr H H' AC := by
  obtain ⟨h1, h2, h3, h8, h11, h13, -⟩ := id h
  obtain ⟨hd, hz, hm, hmz, hl, hv, -⟩ := hD
  have hd2 := hd.2
  have h24 := hT.1
  unfold jF_ST_register regS
  rw [qok h1.1, Option.bind_some, qgR h1.1 rfl, Option.bind_some, C_up h2, Option.bind_some, if_bI]
  dsimp only at *
  cases D.1 with
  | false => exact ⟨H, rfl, h, Fr.rf⟩
  | true =>
    rw [if_pos rfl, if_pos rfl, qgR h1.1 rfl, Option.bind_some, C_find h3 h24, Option.bind_some, C_isSub, Option.bind_some, if_bI]
    cases hsu : suOf u with
    | none => exact ⟨H, rfl, h, Fr.rf⟩
    | some k =>
      obtain ⟨hk, rfl⟩ := suOf_some hsu
      rw [show (some k).isSome = true from rfl, if_pos rfl]
      dsimp only
      cases hsc : scOf T s with
      | none => exact ⟨H, rfl, h, Fr.rf⟩
      | some r =>
        obtain ⟨hr, rfl⟩ := scOf_some hsc
        rw [if_neg (show ¬ (some r).map R = none by simp), qgR h1.1 rfl, Option.bind_some, Reg_has h1 h2 hd (by omega) (by omega) (by omega), Option.bind_some, if_bI]
        dsimp only
        cases hreg : rHas D.2.2.2 k r (D.2.2.2 32) with
        | true => exact ⟨H, rfl, h, Fr.rf⟩
        | false =>
          rw [if_neg Bool.false_ne_true, if_neg Bool.false_ne_true]
          unfold jF_Registry_isFull
          rw [Option.bind_some, qok h1.2.1, Option.bind_some, Reg_entries h1 h2, Option.bind_some, li10, if_ltN (by omega) (by omega)]
          by_cases h10 : 10 ≤ D.2.2.2 32
          · rw [if_neg (by omega), if_pos h10]
            exact ⟨H, rfl, h, Fr.rf⟩
          · rw [if_pos (by omega), if_neg h10, Option.bind_some, if_pos rfl]
            have hcnt : rCnt D.2.2.2 k (D.2.2.2 32) = (vL D.2.2.2 k (D.2.2.2 32) 0).length := by
              have := vL_len (dk := D.2.2.2) (u := k) (D.2.2.2 32) 0
              rw [Nat.zero_add, show rCnt D.2.2.2 k 0 = 0 from rfl, Nat.add_zero] at this
              exact this.symm
            have hrv : jF_ST_readsVersions fu (some 1) ((some r).map R) (nI k) H = some (bI (rdV T D.2.2.2 k r)) := by
              unfold jF_ST_readsVersions
              rw [qok h1.1, Option.bind_some, qgR h1.1 rfl, Option.bind_some, Reg_count h1 h2 hd (by omega) (by omega), Option.bind_some, hcnt]
              have := C_rdVL (fu := fu) h hT hd hv (by omega) (show k < 256 by omega) hr _ 0 fu (by rw [Nat.zero_add]) (by
                have hq : ∀ n, rCnt D.2.2.2 k n ≤ n := by
                  intro n
                  induction n with
                  | zero => exact Nat.le_refl _
                  | succ n ih => rw [rCnt]; split <;> omega
                have := hq (D.2.2.2 32)
                omega)
              rw [List.drop_zero] at this
              exact this
            rw [hrv, Option.bind_some, if_bI]
            cases hrd : rdV T D.2.2.2 k r with
            | false => exact ⟨H, rfl, h, Fr.rf⟩
            | true =>
              rw [if_pos rfl, if_pos rfl, Option.bind_some, Reg_count h1 h2 hd (by omega) (by omega), Option.bind_some]
              obtain ⟨H1, e1, e2, e3, e4⟩ := Reg_append (fu := fu) (u := k) (s := r) h1 h2 h8 hd hz hl (by omega) (by omega)
              rw [Option.bind_some, e1, Option.bind_some]
              dsimp only
              obtain ⟨b11, B11⟩ := h11
              obtain ⟨b13, B13⟩ := h13
              have r1 := h.disk (e4.up (fun q hq => by omega)) e2 e3 ⟨b11, B11.fr e4 (by omega) (by omega)⟩ ⟨b13, B13.fr e4 (by omega) (by omega)⟩
              have E4 : Fr H H1 AC := e4.up (fun q hq => by unfold AC; omega)
              rw [if_bI]
              cases hw : (wrS D 1 (regB D.2.2.2 k r)).1 with
              | false =>
                rw [if_neg Bool.false_ne_true, if_neg Bool.false_ne_true]
                obtain ⟨H2, f1, f2, f3⟩ := C_goDown (k := g.1) r1
                rw [f1, Option.bind_some]
                exact ⟨H2, rfl, f2, E4.tr f3⟩
              | true =>
                rw [if_pos rfl, if_pos rfl]
                exact ⟨H1, rfl, r1, E4⟩
end CRg
section MRg
variable {H : zH} {v : Nat → Int32} {T : yT} {P : List yF} {D : yD} {xs fo : List Int64} {g : Nat × Nat × List Nat} {fu : Nat}
theorem Mo_versions {W : yW} (h : MRv H v W) (hd : dkOk W.2.2.1.2.2.2) (hfu : 11 ≤ fu) {u : Int32} : jF_Mo_versions fu (some 24) u H = some (verS u W) := by
  have hd2 := hd.2
  unfold jF_Mo_versions verS
  rw [qok h.m, Option.bind_some, M_up h, Option.bind_some, if_nbI]
  cases W.2.2.1.1 with
  | false => rfl
  | true =>
    rw [if_pos rfl, if_pos rfl, Mo_noSub, Option.bind_some, if_bI]
    cases hsu : suOf u with
    | none => rfl
    | some k =>
      obtain ⟨hk, rfl⟩ := suOf_some hsu
      rw [show (some k).isNone = false from rfl, if_neg Bool.false_ne_true]
      exact Mo_countL h.2.2.1 hd (by omega) fu 0 (by omega) (by omega)
theorem Mo_version {W : yW} (h : MRv H v W) (hd : dkOk W.2.2.1.2.2.2) (hfu : 11 ≤ fu) {u w : Int32} : jF_Mo_version fu (some 24) u w H = some (veS u w W) := by
  have hd2 := hd.2
  unfold jF_Mo_version veS
  rw [qok h.m, Option.bind_some, M_up h, Option.bind_some, if_nbI]
  cases W.2.2.1.1 with
  | false => rfl
  | true =>
    rw [if_pos rfl, if_pos rfl, Mo_noSub, Option.bind_some, if_bI]
    cases hsu : suOf u with
    | none => rfl
    | some k =>
      obtain ⟨hk, rfl⟩ := suOf_some hsu
      rw [show (some k).isNone = false from rfl, if_neg Bool.false_ne_true]
      dsimp only
      by_cases hw : w < 0
      · have hng : ¬ (0 : Int32) ≤ w := by
          rw [Int32.le_iff_toInt_le]
          rw [Int32.lt_iff_toInt_lt] at hw
          have a : w.toInt < (0 : Int32).toInt := hw
          intro b
          have b' : (0 : Int32).toInt ≤ w.toInt := b
          omega
        rw [if_neg hng, rVe_neg hw _ _ _ (by omega)]
        rfl
      · obtain ⟨n, hn, rfl⟩ := nI_of hw
        rw [if_pos (nI_pos' hn)]
        exact Mo_verL h.2.2.1 hd (by omega) fu _ 0 0 (by omega) (by omega)
theorem Mo_canRead {W : yW} (h : MRv H v W) (hT : TOk W.1) {r w : Int32} : jF_Mo_canRead (some 24) r w H = some (match scOf W.1 r with
    | none => 0
    | some a => match scOf W.1 w with
      | none => 0
      | some b => bI (readsS W.1 14 a b)) := by
  have h24 := hT.1
  unfold jF_Mo_canRead
  rw [qok h.m, Option.bind_some, Mo_noSchema h.1 h24, Option.bind_some, if_bI]
  cases hr : scOf W.1 r with
  | none => rfl
  | some a =>
    obtain ⟨ha, rfl⟩ := scOf_some hr
    rw [show (some a).isNone = false from rfl, if_neg Bool.false_ne_true, Mo_noSchema h.1 h24, Option.bind_some, if_bI]
    cases hw : scOf W.1 w with
    | none => rfl
    | some b =>
      obtain ⟨hb, rfl⟩ := scOf_some hw
      rw [show (some b).isNone = false from rfl, if_neg Bool.false_ne_true, qgR h.m rfl, Option.bind_some, li24, pk_mul, nI_add, h.2.1.rd (by omega) (by omega) ⟨ha, hb⟩, Option.bind_some, if_bI]
      dsimp only
      cases readsS W.1 14 a b <;> rfl
/-- the new block of the registry, and the write -/
theorem Mo_regL {k r : Nat} {a3 : Int32} (h10 : D.2.2.2 32 < 10) (hl : limOk D) (hfu : 40 ≤ fu) : ∀ (m i g' : Nat) (H : zH) (v : Nat → Int32), i + m = 32 → m < g' → MRv H v (T, P, D, xs, g, fo) → (∃ f, AI H 42 32 f ∧ ∀ q, q < i → f q = nI (D.2.2.2 (32 + q))) →
    ∃ H', jL_Mo_register_118 fu g' (some 24) (nI k) (nI r) a3 (nI i) H = some (if (wrS D 1 (regB D.2.2.2 k r)).1 then a3 else -4, H') ∧ MRep H' (if (wrS D 1 (regB D.2.2.2 k r)).1 then (T, P, (wrS D 1 (regB D.2.2.2 k r)).2, xs, g, fo) else downW (T, P, D, xs, g, fo) (wrS D 1 (regB D.2.2.2 k r)).2) ∧ Fr H H' AM := by
  intro m
  induction m with
  | zero =>
    intro i g' H v h1 h2 h hf
    obtain ⟨q, rfl⟩ : ∃ q, g' = q + 1 := ⟨g' - 1, by omega⟩
    have : i = 32 := by omega
    subst this
    obtain ⟨f0, a0, b0⟩ := hf
    have h0 : f0 0 = nI (D.2.2.2 32) := b0 0 (by omega)
    have z0 : zaI H (some 42) 0 0 = some (nI (D.2.2.2 32)) := by rw [← h0]; exact qaI (i := 0) a0 (by omega) (by omega)
    obtain ⟨H2, g1, g2, g3, g4⟩ := Mo_blk (i := 1 + 2 * D.2.2.2 32) (x := nI k) h a0 (by omega)
    have z2 : zaI H2 (some 42) 0 0 = some (nI (D.2.2.2 32)) := by
      have := qaI (i := 0) g3 (by omega) (by omega)
      rw [zup_ne (by omega), h0] at this
      exact this
    obtain ⟨H3, i1, i2, i3, i4⟩ := Mo_blk (i := 2 + 2 * D.2.2.2 32) (x := nI r) g2 g3 (by omega)
    have z3 : zaI H3 (some 42) 0 0 = some (nI (D.2.2.2 32)) := by
      have := qaI (i := 0) i3 (by omega) (by omega)
      rw [zup_ne (by omega), zup_ne (by omega), h0] at this
      exact this
    obtain ⟨H5, k1, k2, k3, k4⟩ := Mo_blk (i := 0) (x := nI (D.2.2.2 32 + 1)) i2 i3 (by omega)
    have k1' : zsI H3 (some 42) 0 0 (nI (D.2.2.2 32 + 1)) = some H5 := k1
    have g1' : zsI H (some 42) 0 ((1 : Int32) + (2 : Int32) * nI (D.2.2.2 32)) (nI k) = some H2 := by rw [li1, li2, pk_mul, nI_add]; exact g1
    have i1' : zsI H2 (some 42) 0 ((2 : Int32) + (2 : Int32) * nI (D.2.2.2 32)) (nI r) = some H3 := by rw [li2, pk_mul, nI_add]; exact i1
    obtain ⟨H6, v6, l1, l2, l3, l4⟩ := Mo_wr (fu := fu) (b := 1) (g' := regB D.2.2.2 k r) (by omega) k2 hl ⟨_, k3, fun j hj => by
      show (if j = 0 then nI (D.2.2.2 32 + 1) else if j = 2 + 2 * D.2.2.2 32 then nI r else if j = 1 + 2 * D.2.2.2 32 then nI k else f0 j) = nI (if j = 0 then D.2.2.2 32 + 1 else if j = 1 + 2 * D.2.2.2 32 then k else if j = 2 + 2 * D.2.2.2 32 then r else D.2.2.2 (32 + j))
      by_cases c0 : j = 0
      · rw [if_pos c0, if_pos c0]
      · rw [if_neg c0, if_neg c0]
        by_cases c1 : j = 1 + 2 * D.2.2.2 32
        · rw [if_neg (show ¬ j = 2 + 2 * D.2.2.2 32 by omega), if_pos c1, if_pos c1]
        · by_cases c2 : j = 2 + 2 * D.2.2.2 32
          · rw [if_pos c2, if_neg c1, if_pos c2]
          · rw [if_neg c2, if_neg c1, if_neg c1, if_neg c2, b0 j hj]⟩ (by omega)
    have l1' : jF_Mo_write fu (some 24) 1 H5 = some (bI (wrS D 1 (regB D.2.2.2 k r)).1, H6) := l1
    rw [jL_Mo_register_118, if_pos (show (32 : Int32) ≤ nI 32 from nI_le (Nat.le_refl _) (by omega)), qgR h.m rfl, Option.bind_some, Option.bind_some, z0, Option.bind_some, g1', Option.bind_some, qgR g2.m rfl, Option.bind_some, Option.bind_some, z2, Option.bind_some, i1', Option.bind_some, qgR i2.m rfl, Option.bind_some, z3, Option.bind_some, nI_1, k1', Option.bind_some, l1', Option.bind_some]
    dsimp only
    rw [if_bI]
    have E : Fr H H6 AM := ((((g4.tr i4).tr k4).up (fun q hq => by unfold AM; omega)).tr (l4.up (fun q hq => by unfold A2 at hq; unfold AM; omega)))
    cases hw : (wrS D 1 (regB D.2.2.2 k r)).1 with
    | false => rw [hw] at l2; exact ⟨H6, rfl, ⟨v6, l2⟩, E⟩
    | true => rw [hw] at l2; exact ⟨H6, rfl, ⟨v6, l2⟩, E⟩
  | succ m ih =>
    intro i g' H v h1 h2 h hf
    obtain ⟨q, rfl⟩ : ∃ q, g' = q + 1 := ⟨g' - 1, by omega⟩
    obtain ⟨f, a, b⟩ := hf
    have hdk : zaI H (some 37) 0 (nI (32 + i)) = some (nI (D.2.2.2 (32 + i))) := Mo_dk h.2.2.1 (by omega)
    obtain ⟨H1, e1, e2, e3, e4⟩ := Mo_blk (i := i) (x := nI (D.2.2.2 (32 + i))) h a (by omega)
    rw [jL_Mo_register_118, if_neg (show ¬ (32 : Int32) ≤ nI i from nI_ge (b := 32) (by omega) (by omega)), qgR h.m rfl, Option.bind_some, qgR h.m rfl, Option.bind_some, li32, nI_add, hdk, Option.bind_some, e1, Option.bind_some, nI_1]
    obtain ⟨H2, f1, f2, f3⟩ := ih (i + 1) q H1 v (by omega) (by omega) e2 ⟨_, e3, fun q hq => by
      by_cases hqi : q = i
      · subst hqi; rw [zup_same]
      · rw [zup_ne hqi]; exact b q (by omega)⟩
    exact ⟨H2, f1, f2, (e4.up (fun q hq => by unfold AM; omega)).tr f3⟩
theorem Mo_reg50 {k r : Nat} (hk : k < 3) (hr : r < T.length) (hT : TOk T) (hD : DOk T D) (hup : D.1 = true) (h10 : D.2.2.2 32 < 10) (hfu : 50 ≤ fu) {H : zH} {v : Nat → Int32} (h : MRv H v (T, P, D, xs, g, fo)) : ∀ (n i g' : Nat), i + n = D.2.2.2 32 → n < g' →
    ((vL D.2.2.2 k n i).all (readsS T 14 r) = false → jL_Mo_register_50 fu g' (some 24) (nI k) (nI r) (nI i) H = some (-2, H)) ∧
    ((vL D.2.2.2 k n i).all (readsS T 14 r) = true → ∃ H', jL_Mo_register_50 fu g' (some 24) (nI k) (nI r) (nI i) H = some (if (wrS D 1 (regB D.2.2.2 k r)).1 then nI (rCnt D.2.2.2 k (D.2.2.2 32)) else -4, H') ∧ MRep H' (if (wrS D 1 (regB D.2.2.2 k r)).1 then (T, P, (wrS D 1 (regB D.2.2.2 k r)).2, xs, g, fo) else downW (T, P, D, xs, g, fo) (wrS D 1 (regB D.2.2.2 k r)).2) ∧ Fr H H' AM) := by
  obtain ⟨hd, hz, hm, hmz, hl, hv, -⟩ := hD
  have h24 := hT.1
  have z32 : zaI H (some 37) 0 (32 : Int32) = some (nI (D.2.2.2 32)) := Mo_dk (i := 32) h.2.2.1 (by omega)
  intro n
  induction n with
  | zero =>
    intro i g' h1 h2
    obtain ⟨q, rfl⟩ : ∃ q, g' = q + 1 := ⟨g' - 1, by omega⟩
    refine ⟨fun hh => (by cases hh), fun _ => ?_⟩
    have hver : jF_Mo_versions fu (some 24) (nI k) H = some (nI (rCnt D.2.2.2 k (D.2.2.2 32))) := by
      rw [Mo_versions h hd (by omega)]
      have hsu : suOf (nI k) = some k := by
        unfold suOf
        rw [if_neg (nI_pos (by omega)), nI_clamp (by omega), if_pos hk]
      unfold verS
      dsimp only
      rw [hup, if_pos rfl, hsu]
    obtain ⟨f42, a42⟩ := h.2.2.2.2.2.2.2.1
    rw [jL_Mo_register_50, qgR h.m rfl, Option.bind_some, z32, Option.bind_some, if_pos (nI_le (by omega) (by omega)), hver, Option.bind_some]
    exact Mo_regL h10 hl (by omega) 32 0 fu H v rfl (by omega) h ⟨f42, a42, fun q hq => by omega⟩
  | succ n ih =>
    intro i g' h1 h2
    obtain ⟨q, rfl⟩ : ∃ q, g' = q + 1 := ⟨g' - 1, by omega⟩
    have ih' := ih (i + 1) q (by omega) (by omega)
    have z1 : zaI H (some 37) 0 ((33 : Int32) + (2 : Int32) * nI i) = some (nI (D.2.2.2 (33 + 2 * i))) := by rw [li33, li2, pk_mul, nI_add]; exact Mo_dk h.2.2.1 (by omega)
    have z2 : zaI H (some 37) 0 ((34 : Int32) + (2 : Int32) * nI i) = some (nI (D.2.2.2 (34 + 2 * i))) := by rw [li34, li2, pk_mul, nI_add]; exact Mo_dk h.2.2.1 (by omega)
    have hvi := hv i (by omega)
    have z3 : zaI H (some 36) 1 ((24 : Int32) * nI r + nI (D.2.2.2 (34 + 2 * i))) = some (bI (readsS T 14 r (D.2.2.2 (34 + 2 * i)))) := by rw [li24, pk_mul, nI_add]; exact h.2.1.rd (by omega) (by omega) ⟨hr, hvi⟩
    have hdd := hd.1 (33 + 2 * i)
    rw [jL_Mo_register_50, qgR h.m rfl, Option.bind_some, z32, Option.bind_some, if_neg (nI_ge (by omega) (by omega)), Option.bind_some, z1, Option.bind_some, if_eqN (by omega) (by omega), vL, nI_1]
    by_cases hu : D.2.2.2 (33 + 2 * i) = k
    · rw [if_pos hu, if_pos hu, qgR h.m rfl, Option.bind_some, Option.bind_some, z2, Option.bind_some, z3, Option.bind_some, if_bI, List.all_cons]
      cases readsS T 14 r (D.2.2.2 (34 + 2 * i)) with
      | false => exact ⟨fun _ => rfl, fun hh => (by cases hh)⟩
      | true =>
        rw [if_pos rfl, Bool.true_and]
        exact ih'
    · rw [if_neg hu, if_neg hu]
      exact ih'
theorem Mo_register (h : MRv H v (T, P, D, xs, g, fo)) (hT : TOk T) (hD : DOk T D) (hfu : 50 ≤ fu) {u s : Int32} :
    ∃ H', jF_Mo_register fu (some 24) u s H = some ((regS u s (T, P, D, xs, g, fo)).1, H') ∧ MRep H' (regS u s (T, P, D, xs, g, fo)).2 ∧ Fr H H' AM := by
  have hd := hD.1
  have hd2 := hd.2
  have h24 := hT.1
  unfold jF_Mo_register regS
  rw [qok h.m, Option.bind_some, M_up h, Option.bind_some, if_nbI]
  dsimp only at *
  cases hup : D.1 with
  | false => exact ⟨H, rfl, ⟨v, h⟩, Fr.rf⟩
  | true =>
    rw [if_pos rfl, if_pos rfl, Mo_noSub, Option.bind_some, if_bI]
    cases hsu : suOf u with
    | none => exact ⟨H, rfl, ⟨v, h⟩, Fr.rf⟩
    | some k =>
      obtain ⟨hk, rfl⟩ := suOf_some hsu
      rw [show (some k).isNone = false from rfl, if_neg Bool.false_ne_true, Mo_noSchema h.1 h24, Option.bind_some, if_bI]
      dsimp only
      cases hsc : scOf T s with
      | none => exact ⟨H, rfl, ⟨v, h⟩, Fr.rf⟩
      | some r =>
        obtain ⟨hr, rfl⟩ := scOf_some hsc
        have z32 : zaI H (some 37) 0 (32 : Int32) = some (nI (D.2.2.2 32)) := Mo_dk (i := 32) h.2.2.1 (by omega)
        rw [show (some r).isNone = false from rfl, if_neg Bool.false_ne_true, Mo_has h.2.2.1 hd (by omega) (by omega) (by omega), Option.bind_some, if_bI]
        dsimp only
        cases hreg : rHas D.2.2.2 k r (D.2.2.2 32) with
        | true => exact ⟨H, rfl, ⟨v, h⟩, Fr.rf⟩
        | false =>
          rw [if_neg Bool.false_ne_true, if_neg Bool.false_ne_true, qgR h.m rfl, Option.bind_some, z32, Option.bind_some, li10, if_eqN (by omega) (by omega)]
          by_cases h10 : D.2.2.2 32 = 10
          · rw [if_pos h10, if_pos (show 10 ≤ D.2.2.2 32 by omega)]
            exact ⟨H, rfl, ⟨v, h⟩, Fr.rf⟩
          · rw [if_neg h10, if_neg (show ¬ 10 ≤ D.2.2.2 32 by omega)]
            obtain ⟨k1, k2⟩ := Mo_reg50 (fu := fu) hk hr hT hD hup (by omega) hfu h (D.2.2.2 32) 0 fu (by omega) (by omega)
            rw [nI_0] at k1 k2
            cases hrd : rdV T D.2.2.2 k r with
            | false =>
              rw [k1 hrd]
              exact ⟨H, rfl, ⟨v, h⟩, Fr.rf⟩
            | true =>
              obtain ⟨H1, e1, e2, e3⟩ := k2 hrd
              rw [e1, if_pos rfl]
              cases hw : (wrS D 1 (regB D.2.2.2 k r)).1 with
              | false => rw [hw] at e2; exact ⟨H1, rfl, e2, e3⟩
              | true => rw [hw] at e2; exact ⟨H1, rfl, e2, e3⟩
end MRg
