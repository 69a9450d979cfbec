/-! load of the reference. -/
def recS (u : Int32) (W : yW) : Int32 := if W.2.2.1.1 then (match suOf u with
    | none => -1
    | some k => nI (mRec W.2.2.1.2.2.2 k (W.2.2.1.2.2.2 0))) else -1
def filS (u : Int32) (W : yW) : Int32 := if W.2.2.1.1 then (match suOf u with
    | none => -1
    | some k => nI (mCnt W.2.2.1.2.2.2 k (W.2.2.1.2.2.2 0))) else -1
theorem commS_f {D : yD} {first : Nat} {fl : List Nat} {mb : Nat → Nat} (h : (wrAll first fl (nBl fl) 0 D).1 = false) : commS D first fl mb = wrAll first fl (nBl fl) 0 D := by
  unfold commS
  rw [h, if_neg Bool.false_ne_true]
theorem commS_t {D : yD} {first : Nat} {fl : List Nat} {mb : Nat → Nat} (h : (wrAll first fl (nBl fl) 0 D).1 = true) : commS D first fl mb = wrS (wrAll first fl (nBl fl) 0 D).2 0 mb := by
  unfold commS
  rw [h, if_pos rfl]
theorem wrS_up {D : yD} {b : Nat} {g : Nat → Nat} (h : (wrS D b g).1 = true) : (wrS D b g).2.1 = D.1 := by
  unfold wrS at *
  split
  · next hc => rw [if_pos hc] at h; cases h
  · rfl
theorem wrAll_up {first : Nat} {fl : List Nat} : ∀ (m i : Nat) (D : yD), (wrAll first fl m i D).1 = true → (wrAll first fl m i D).2.1 = D.1 := by
  intro m
  induction m with
  | zero => intro i D _; rfl
  | succ m ih =>
    intro i D h
    rw [wrAll] at h ⊢
    cases hw : (wrS D (first + i) (fun q => fl.getD (i * 32 + q) 0)).1 with
    | false => rw [hw, if_neg Bool.false_ne_true] at h; cases h
    | true =>
      rw [hw, if_pos rfl] at h
      rw [if_pos rfl, ih (i + 1) _ h, wrS_up hw]
theorem commS_up {D : yD} {first : Nat} {fl : List Nat} {mb : Nat → Nat} (h : (commS D first fl mb).1 = true) : (commS D first fl mb).2.1 = D.1 := by
  cases hw : (wrAll first fl (nBl fl) 0 D).1 with
  | false => rw [commS_f hw] at h; rw [hw] at h; cases h
  | true =>
    rw [commS_t hw] at h ⊢
    rw [wrS_up h, wrAll_up _ _ _ hw]
section ML
variable {T : yT} {P : List yF} {D : yD} {xs fo : List Int64} {ss sc : Nat} {sb : List Nat} {g : Nat × Nat × List Nat} {fu : Nat}
theorem Mo_records {H : zH} {v : Nat → Int32} {W : yW} (h : MRv H v W) (hd : dkOk W.2.2.1.2.2.2) (hm : mOk W.2.2.1.2.2.2) (hfu : 11 ≤ fu) {u : Int32} : jF_Mo_records fu (some 24) u H = some (recS u W) := by
  have hm1 := hm.1
  unfold jF_Mo_records recS
  rw [qok h.m, Option.bind_some, M_up h, Option.bind_some, if_nbI]
  cases W.2.2.1.1 with
  | false => rfl
  | true =>
    rw [if_pos rfl, if_pos rfl, Mo_noSub, Option.bind_some, if_bI]
    cases hsu : suOf u with
    | none => rfl
    | some k =>
      obtain ⟨hk, rfl⟩ := suOf_some hsu
      rw [show (some k).isNone = false from rfl, if_neg Bool.false_ne_true]
      exact Mo_recL h.2.2.1 hd hm (by omega) fu 0 (by omega) (by omega)
theorem Mo_files {H : zH} {v : Nat → Int32} {W : yW} (h : MRv H v W) (hd : dkOk W.2.2.1.2.2.2) (hm : mOk W.2.2.1.2.2.2) (hfu : 11 ≤ fu) {u : Int32} : jF_Mo_files fu (some 24) u H = some (filS u W) := by
  have hm1 := hm.1
  unfold jF_Mo_files filS
  rw [qok h.m, Option.bind_some, M_up h, Option.bind_some, if_nbI]
  cases W.2.2.1.1 with
  | false => rfl
  | true =>
    rw [if_pos rfl, if_pos rfl, Mo_noSub, Option.bind_some, if_bI]
    cases hsu : suOf u with
    | none => rfl
    | some k =>
      obtain ⟨hk, rfl⟩ := suOf_some hsu
      rw [show (some k).isNone = false from rfl, if_neg Bool.false_ne_true]
      exact Mo_filL h.2.2.1 hd hm (by omega) fu 0 (by omega) (by omega)
theorem Mo_loadL {u : Int32} {hd : List Nat} (hl : hd.length + sb.length < 320) (hsb : sb.length ≤ 150) : ∀ (m i g' : Nat) (H : zH) (v : Nat → Int32), i + m = sb.length → MRv H v (T, P, D, xs, (ss, sc, sb), fo) → MBy H v (hd ++ sb.take i) →
    ∃ H' v', jL_Mo_load_56 fu (g' + 1 + m) (some 24) u (nI i) H = jL_Mo_load_56 fu (g' + 1) (some 24) u (nI sb.length) H' ∧ MRv H' v' (T, P, D, xs, (ss, sc, sb), fo) ∧ MBy H' v' (hd ++ sb) ∧ Fr H H' (A2 24 41) := by
  intro m
  induction m with
  | zero =>
    intro i g' H v h1 h hB
    have : i = sb.length := by omega
    subst this
    rw [List.take_length] at hB
    exact ⟨H, v, rfl, h, hB, Fr.rf⟩
  | succ m ih =>
    intro i g' H v h1 h hB
    obtain ⟨q1, q2, q3, f5, q4, q5⟩ := id h.2.2.2.2.1
    dsimp only at q3 q5
    have hz4 : zgI H (some 24) 1 24 = some (nI sb.length) := by rw [← q3]; exact qgI h.m rfl
    rw [show g' + 1 + (m + 1) = (g' + 1 + m) + 1 by omega, jL_Mo_load_56, hz4, Option.bind_some, if_neg (nI_ge (by omega) (by omega)), qgR h.m rfl, Option.bind_some, qaI q4 (by omega) (by omega), Option.bind_some, q5 i (by omega), nI_1]
    obtain ⟨H1, v1, e1, e2, e3, e4⟩ := Mo_pb (b := sb.getD i 0) h hB (by rw [List.length_append, List.length_take]; omega)
    rw [e1, Option.bind_some]
    have hb : hd ++ sb.take i ++ [sb.getD i 0] = hd ++ sb.take (i + 1) := by
      rw [List.append_assoc, List.take_succ]
      simp [List.getD, List.getElem?_eq_getElem (show i < sb.length by omega)]
    rw [hb] at e3
    obtain ⟨H2, v2, f1, f2, f3, f4⟩ := ih (i + 1) g' H1 v1 (by omega) e2 e3
    exact ⟨H2, v2, f1, f2, f3, e4.tr f4⟩
/-- behind a file that has been written: the manifest with an entry more -/
theorem Mo_manB {H : zH} {v : Nat → Int32} {dk : Nat → Nat} {k b nb : Nat} (h : MRv H v (T, P, D, xs, g, fo)) (hdk : ∀ q, q < 64 → D.2.2.2 q = dk q) (h9 : dk 0 < 9) (hl : limOk D) (hfu : 40 ≤ fu) {K : (Int32 × zH) → Option (Int32 × zH)} :
    ∃ H' v', ((jF_Mo_oldManifest fu (some 24) H).bind fun y131 =>
            (zgR y131 (some 24) 1 29).bind fun v137 =>
            (zaI y131 v137 0 (0 : Int32)).bind fun v141 =>
            (zgR y131 (some 24) 1 29).bind fun v147 =>
            (zsI y131 v147 0 ((1 : Int32) + ((3 : Int32) * v141)) (nI k)).bind fun H153 =>
            (zgR H153 (some 24) 1 29).bind fun v155 =>
            (zsI H153 v155 0 (((1 : Int32) + ((3 : Int32) * v141)) + (1 : Int32)) (nI b)).bind fun H163 =>
            (zgR H163 (some 24) 1 29).bind fun v165 =>
            (zsI H163 v165 0 (((1 : Int32) + ((3 : Int32) * v141)) + (2 : Int32)) (nI nb)).bind fun H173 =>
            (zgR H173 (some 24) 1 29).bind fun v175 =>
            (zaI H173 v175 0 (0 : Int32)).bind fun v180 =>
            (zsI H173 v175 0 (0 : Int32) (v180 + (1 : Int32))).bind fun H183 =>
            (jF_Mo_write fu (some 24) (0 : Int32) H183).bind K) = K (bI (wrS D 0 (manB dk k b nb)).1, H') ∧ MRv H' v' (if (wrS D 0 (manB dk k b nb)).1 then (T, P, (wrS D 0 (manB dk k b nb)).2, xs, g, fo) else downW (T, P, D, xs, g, fo) (wrS D 0 (manB dk k b nb)).2) ∧ Fr H H' AM := by
  obtain ⟨H1, e1, e2, ⟨f0, a0, b0⟩, e4⟩ := Mo_old (fu := fu) h (by omega)
  have h0 : f0 0 = nI (dk 0) := by rw [b0 0 (by omega), hdk 0 (by omega)]
  have z0 : zaI H1 (some 42) 0 0 = some (nI (dk 0)) := by rw [← h0]; exact qaI (i := 0) a0 (by omega) (by omega)
  rw [e1, Option.bind_some, qgR e2.m rfl, Option.bind_some, z0, Option.bind_some, li3, li2, li1, pk_mul, nI_add, nI_add, nI_add, Option.bind_some]
  obtain ⟨H2, g1, g2, g3, g4⟩ := Mo_blk (i := 1 + 3 * dk 0) (x := nI k) e2 a0 (by omega)
  rw [g1, Option.bind_some, qgR g2.m rfl, Option.bind_some]
  obtain ⟨H3, i1, i2, i3, i4⟩ := Mo_blk (i := 1 + 3 * dk 0 + 1) (x := nI b) g2 g3 (by omega)
  rw [i1, Option.bind_some, qgR i2.m rfl, Option.bind_some]
  obtain ⟨H4, j1, j2, j3, j4⟩ := Mo_blk (i := 1 + 3 * dk 0 + 2) (x := nI nb) i2 i3 (by omega)
  have z4 : zaI H4 (some 42) 0 0 = some (nI (dk 0)) := by
    rw [← h0]
    have := qaI (i := 0) j3 (by omega) (by omega)
    rw [zup_ne (by omega), zup_ne (by omega), zup_ne (by omega)] at this
    exact this
  rw [j1, Option.bind_some, qgR j2.m rfl, Option.bind_some, z4, Option.bind_some, nI_add]
  obtain ⟨H5, k1, k2, k3, k4⟩ := Mo_blk (i := 0) (x := nI (dk 0 + 1)) j2 j3 (by omega)
  have k1' : zsI H4 (some 42) 0 0 (nI (dk 0 + 1)) = some H5 := k1
  rw [k1', Option.bind_some]
  obtain ⟨H6, v6, l1, l2, l3, l4⟩ := Mo_wr (fu := fu) (b := 0) (g' := manB dk k b nb) (by omega) k2 hl ⟨_, k3, fun j hj => by
    show (if j = 0 then nI (dk 0 + 1) else if j = 1 + 3 * dk 0 + 2 then nI nb else if j = 1 + 3 * dk 0 + 1 then nI b else if j = 1 + 3 * dk 0 then nI k else f0 j) = nI (if j = 0 then dk 0 + 1 else if j = 1 + 3 * dk 0 then k else if j = 2 + 3 * dk 0 then b else if j = 3 + 3 * dk 0 then nb else dk j)
    by_cases c0 : j = 0
    · rw [if_pos c0, if_pos c0]
    · rw [if_neg c0, if_neg c0]
      by_cases c1 : j = 1 + 3 * dk 0
      · rw [if_neg (show ¬ j = 1 + 3 * dk 0 + 2 by omega), if_neg (show ¬ j = 1 + 3 * dk 0 + 1 by omega), if_pos c1, if_pos c1]
      · by_cases c2 : j = 2 + 3 * dk 0
        · rw [if_neg (show ¬ j = 1 + 3 * dk 0 + 2 by omega), if_pos (show j = 1 + 3 * dk 0 + 1 by omega), if_neg c1, if_pos c2]
        · by_cases c3 : j = 3 + 3 * dk 0
          · rw [if_pos (show j = 1 + 3 * dk 0 + 2 by omega), if_neg c1, if_neg c2, if_pos c3]
          · rw [if_neg (show ¬ j = 1 + 3 * dk 0 + 2 by omega), if_neg (show ¬ j = 1 + 3 * dk 0 + 1 by omega), if_neg c1, if_neg c1, if_neg c2, if_neg c3, b0 j hj, hdk j (by omega)]⟩ (by omega)
  have l1' : jF_Mo_write fu (some 24) 0 H5 = some (bI (wrS D 0 (manB dk k b nb)).1, H6) := l1
  rw [l1', Option.bind_some]
  refine ⟨H6, v6, rfl, l2, ?_⟩
  exact ((((((e4.tr g4).tr i4).tr j4).tr k4).up (fun q hq => by unfold AM; omega)).tr (l4.up (fun q hq => by unfold A2 at hq; unfold AM; omega)))
theorem Mo_load {H : zH} {v : Nat → Int32} {u : Int32} (h : MRv H v (T, P, D, xs, (ss, sc, sb), fo)) (hd : dkOk D.2.2.2) (hm : mOk D.2.2.2) (hl : limOk D) (hsc : sc ≤ 10) (hsb : sb.length ≤ 150) (hss : 0 < sc → ss < 24) (hy : byOk sb) (hok : ∀ k b, suOf u = some k → roomS D.2.2.2 (nBl (fileB ss sc sb)) = some b → (commS D b (fileB ss sc sb) (manB D.2.2.2 k b (nBl (fileB ss sc sb)))).1 = true → 0 < sc → D.2.2.2 0 < 9 → dkOk (commS D b (fileB ss sc sb) (manB D.2.2.2 k b (nBl (fileB ss sc sb)))).2.2.2.2 ∧ mOk (commS D b (fileB ss sc sb) (manB D.2.2.2 k b (nBl (fileB ss sc sb)))).2.2.2.2) (hfu : 600 ≤ fu) :
    ∃ H', jF_Mo_load fu (some 24) u H = some ((loadS u (T, P, D, xs, (ss, sc, sb), fo)).1, H') ∧ MRep H' (loadS u (T, P, D, xs, (ss, sc, sb), fo)).2 ∧ Fr H H' AM := by
  have hm1 := hm.1
  obtain ⟨q1, q2, q3, f5, q4, q5⟩ := id h.2.2.2.2.1
  unfold jF_Mo_load loadS
  rw [qok h.m, Option.bind_some, M_up h, Option.bind_some, if_nbI]
  dsimp only at *
  cases hup : D.1 with
  | false => exact ⟨H, rfl, ⟨v, h⟩, Fr.rf⟩
  | true =>
    rw [if_pos rfl, if_pos rfl, Mo_noSub, Option.bind_some, if_bI]
    cases hsu : suOf u with
    | none => exact ⟨H, rfl, ⟨v, h⟩, Fr.rf⟩
    | some k =>
      obtain ⟨hk, rfl⟩ := suOf_some hsu
      have hz2 : zgI H (some 24) 1 22 = some (nI sc) := by rw [← q1]; exact qgI h.m rfl
      rw [show (some k).isNone = false from rfl, if_neg Bool.false_ne_true, hz2, Option.bind_some, if_0N (by omega)]
      dsimp only
      by_cases h0 : sc = 0
      · rw [if_pos h0, if_pos (Or.inl h0)]
        exact ⟨H, rfl, ⟨v, h⟩, Fr.rf⟩
      · have hss' := hss (by omega)
        have hz1 : zgI H (some 24) 1 21 = some (nI ss) := by rw [← q2 (by omega)]; exact qgI h.m rfl
        rw [if_neg h0, hz1, Option.bind_some, Mo_has h.2.2.1 hd (by omega) (by omega) (by omega), Option.bind_some, if_bI]
        dsimp only
        cases hr : rHas D.2.2.2 k ss (D.2.2.2 32) with
        | false =>
          rw [if_neg Bool.false_ne_true, if_pos (Or.inr rfl)]
          exact ⟨H, rfl, ⟨v, h⟩, Fr.rf⟩
        | true =>
          have hz4 : zgI H (some 24) 1 24 = some (nI sb.length) := by rw [← q3]; exact qgI h.m rfl
          rw [if_pos rfl, if_neg (by rintro (q | q); exact h0 q; cases q), Option.bind_some, Option.bind_some, hz4, Option.bind_some]
          obtain ⟨H1, v1, e1, e2, e3, e4⟩ := Mo_head (s := ss) (n := sc) (L := sb.length) h (by omega)
          have hhl : (fileH ss sc sb.length).length = 5 := rfl
          obtain ⟨H2, v2, f1, f2, f3, f4⟩ := Mo_loadL (fu := fu) (u := nI k) (hd := fileH ss sc sb.length) (by omega) hsb sb.length 0 (fu - 1 - sb.length) H1 v1 (by omega) e2 (by rw [List.take_zero, List.append_nil]; exact e3)
          rw [show fu - 1 - sb.length + 1 + sb.length = fu by omega] at f1
          have f1' : jL_Mo_load_56 fu fu (some 24) (nI k) 0 H1 = _ := f1
          have hz42 : zgI H2 (some 24) 1 24 = some (nI sb.length) := by rw [← f2.2.2.2.2.1.2.2.1]; exact qgI f2.m rfl
          rw [e1, Option.bind_some, f1', jL_Mo_load_56, hz42, Option.bind_some, if_pos (nI_le (Nat.le_refl _) (by omega))]
          obtain ⟨H3, v3, g1, g2, g3, g4⟩ := Mo_check (fu := fu) f2 f3 (by rw [List.length_append]; omega) ((byOk.head (by omega) (by omega) (by omega)).app hy) (by omega)
          have E3 : Fr H H3 AM := ((e4.tr f4).tr g4).up (fun q hq => by unfold A2 at hq; unfold AM; omega)
          have hfl := fileB_len ss sc sb
          have hfe : fileH ss sc sb.length ++ sb ++ [(fileH ss sc sb.length ++ sb).sum % 251] = fileB ss sc sb := rfl
          rw [hfe] at g3
          generalize hF : fileB ss sc sb = F at *
          have hz8 : zgI H3 (some 24) 1 28 = some (nI F.length) := by rw [← g3.2.1]; exact qgI g2.m rfl
          have hnb : ((F.length + 31) / 32) = nBl F := rfl
          have hnl : nBl F ≤ 6 := by unfold nBl; omega
          have hro : jF_Mo_room fu (some 24) (nI (nBl F)) H3 = some (limI (roomS D.2.2.2 (nBl F))) := Mo_room g2.2.2.1 hd hm (by omega) (by omega) (by omega)
          have hd0 : zaI H3 (some 37) 0 0 = some (nI (D.2.2.2 0)) := Mo_d0 g2.2.2.1
          rw [g1, Option.bind_some, hz8, Option.bind_some, li31, nI_add, li32, pk_div (by omega) (by omega) (by omega), hnb, hro, Option.bind_some, qgR g2.m rfl, Option.bind_some, hd0, Option.bind_some, li9, if_eqN (by omega) (by omega)]
          by_cases h9 : D.2.2.2 0 = 9
          · rw [if_pos h9, if_pos (by omega)]
            exact ⟨H3, rfl, ⟨v3, g2⟩, E3⟩
          · rw [if_neg h9, if_neg (show ¬ 9 ≤ D.2.2.2 0 by omega)]
            cases hrm : roomS D.2.2.2 (nBl F) with
            | none =>
              rw [show limI none = (-1 : Int32) from rfl, if_neg (show ¬ (0 : Int32) ≤ -1 by decide)]
              exact ⟨H3, rfl, ⟨v3, g2⟩, E3⟩
            | some b =>
              obtain ⟨r1, r2, r3⟩ := room_fit (by unfold nBl; omega) hrm
              rw [show limI (some b) = nI b from rfl, if_pos (nI_pos' (by omega))]
              dsimp only
              obtain ⟨H4, v4, i1, i2, i3, i4⟩ := Mo_wf (fu := fu) (first := b) g2 g3 (by omega) r2 hl (by omega)
              rw [i1, Option.bind_some]
              dsimp only
              rw [if_bI]
              have hok' := hok k b hsu hrm
              cases hw : (wrAll b F (nBl F) 0 D).1 with
              | false =>
                rw [hw, if_neg Bool.false_ne_true] at i2
                rw [if_neg Bool.false_ne_true, commS_f hw, hw, if_neg Bool.false_ne_true]
                exact ⟨H4, rfl, ⟨v4, i2⟩, E3.tr i4⟩
              | true =>
                rw [hw, if_pos rfl] at i2
                rw [if_pos rfl]
                obtain ⟨H5, v5, j1, j2, j3⟩ := Mo_manB (fu := fu) (dk := D.2.2.2) (k := k) (b := b) (nb := nBl F) i2 (fun q hq => wrAll_out _ _ _ _ (by omega)) (by omega) (limOk_wrAll _ _ _ hl) (by omega) (K := fun y186 => if y186.1 = 0 then (
                    some ((-4 : Int32), y186.2))
                  else (
                    (zpV y186.2 (some 24) 1 22 (zI (0 : Int32))).bind fun H197 =>
                    (zpV H197 (some 24) 1 24 (zI (0 : Int32))).bind fun H202 =>
                    (jF_Mo_records fu (some 24) (nI k) H202).bind fun y207 =>
                    some (y207, H202)))
                have E5 := (E3.tr i4).tr j3
                rw [← commS_t hw (mb := manB D.2.2.2 k b (nBl F))] at j1 j2
                refine Exists.elim (?_ : ∃ H', _ ∧ _ ∧ _) (fun H' hh => ⟨H', j1.trans hh.1, hh.2⟩)
                dsimp only
                rw [if_bI]
                cases hc : (commS D b F (manB D.2.2.2 k b (nBl F))).1 with
                | false =>
                  rw [hc, if_neg Bool.false_ne_true] at j2
                  rw [if_neg Bool.false_ne_true, if_neg Bool.false_ne_true]
                  exact ⟨H5, rfl, ⟨v5, j2⟩, E5⟩
                | true =>
                  rw [hc, if_pos rfl] at j2
                  obtain ⟨o1, o2⟩ := hok' hc (by omega) (by omega)
                  rw [if_pos rfl, if_pos rfl, j2.m.set (by omega), Option.bind_some, (j2.m.new).set (by omega), Option.bind_some]
                  have m3 := j2.m.new (w := va_up v5 22 0) |>.new (w := va_up (va_up v5 22 0) 24 0)
                  generalize hH6 : zset (zset H5 24 (.inr (1, MoF (va_up v5 22 0)))) 24 (.inr (1, MoF (va_up (va_up v5 22 0) 24 0))) = H6 at m3
                  have F6 : Fr H5 H6 (fun q => q = 24) := by rw [← hH6]; exact (Fr.set (A := fun q => q = 24) rfl).tr (Fr.set (A := fun q => q = 24) rfl)
                  obtain ⟨w1, w2, w3, w4, ⟨-, -, -, f9, x4, -⟩, w6, w7⟩ := id j2
                  have r6 : MRv H6 (va_up (va_up v5 22 0) 24 0) (T, P, (commS D b F (manB D.2.2.2 k b (nBl F))).2, xs, (ss, 0, []), fo) := j2.mk2 F6 (fun q hq => by omega) m3 rfl rfl (w3.fr F6 (by omega) m3 rfl rfl rfl rfl) (w4.fr F6 (by omega) rfl) ⟨rfl, fun q => by dsimp only at q; omega, rfl, f9, x4.fr F6 (by omega), fun i hi => by simp at hi⟩ (w6.fr F6 (by omega) rfl) (w7.fr F6 (fun q hq => by omega))
                  rw [Mo_records r6 o1 o2 (by omega), Option.bind_some]
                  refine ⟨H6, ?_, ⟨_, r6⟩, E5.tr (F6.up (fun q hq => by unfold AM; omega))⟩
                  unfold recS
                  dsimp only
                  rw [commS_up hc, hup, if_pos rfl, hsu]
end ML
