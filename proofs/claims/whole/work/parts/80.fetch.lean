/-! Records in files; both sides fetch the same one. -/
def recsB (T : yT) (s : Nat) : List (List Int64) → List Nat → Prop
  | [], b => b = []
  | xs :: rs, b => xs.length ≤ 24 ∧ ∃ b1 b2, encP T xs 7 s 0 = some (xs.length, b1) ∧ b = b1 ++ b2 ∧ recsB T s rs b2
theorem recsB.app {T : yT} {s : Nat} {rs' : List (List Int64)} {b' : List Nat} (h' : recsB T s rs' b') : ∀ (rs : List (List Int64)) (b : List Nat), recsB T s rs b → recsB T s (rs ++ rs') (b ++ b') := by
  intro rs
  induction rs with
  | nil => intro b h; cases h; exact h'
  | cons xs rs ih =>
    intro b h
    obtain ⟨h1, b1, b2, h2, rfl, h3⟩ := h
    exact ⟨h1, b1, b2 ++ b', h2, by rw [List.append_assoc], ih b2 h3⟩
theorem recsB.more {T T' : yT} {s : Nat} (hT : TOk T) (hG : ∀ s, s < T.length → yG T' s = yG T s) (hs : s < T.length) : ∀ (rs : List (List Int64)) (b : List Nat), recsB T s rs b → recsB T' s rs b := by
  intro rs
  induction rs with
  | nil => intro b h; exact h
  | cons xs rs ih =>
    intro b h
    obtain ⟨h1, b1, b2, h2, rfl, h3⟩ := h
    exact ⟨h1, b1, b2, encP_more hT hG 7 s 0 _ hs h2, rfl, ih b2 h3⟩
theorem recsB.ok {T : yT} {s : Nat} : ∀ (rs : List (List Int64)) (b : List Nat), recsB T s rs b → byOk b := by
  intro rs
  induction rs with
  | nil => intro b h x hx; cases h; simp at hx
  | cons xs rs ih =>
    intro b h
    obtain ⟨h1, b1, b2, h2, rfl, h3⟩ := h
    exact (encP_ok _ _ _ _ _ h2).app (ih b2 h3)
def FOr (T : yT) (dk : Nat → Nat) (i : Nat) (rs : List (List Int64)) : Prop := fSch dk i < T.length ∧ fByt dk i + 6 ≤ 32 * dk (3 + 3 * i) ∧ recsB T (fSch dk i) rs (dB dk (fAt dk i + 5) (fByt dk i)) ∧ rs.length = fRec dk i
theorem dB_get {dk : Nat → Nat} {a : Nat} : ∀ (n i : Nat), i < n → (dB dk a n).getD i 0 = dk (a + i) := by
  intro n
  induction n with
  | zero => intro i h; omega
  | succ n ih =>
    intro i h
    rw [dB, getD_snoc _ _ _ _ (by rw [dB_len]; omega), dB_len]
    by_cases hi : i = n
    · rw [if_pos hi, hi]
    · rw [if_neg hi, ih i (by omega)]
theorem dB_on {dk : Nat → Nat} {a n : Nat} : onD dk a (dB dk a n) := fun i hi => by
  rw [dB_len] at hi
  rw [dB_get n i hi]
/-- the file and the record in it -/
def fetS (dk : Nat → Nat) (u : Nat) : Nat → Nat → Nat → Option (Nat × Nat)
  | 0, _, _ => none
  | n + 1, i, k => if dk (1 + 3 * i) = u then (if k < fRec dk i then some (i, k) else fetS dk u n (i + 1) (k - fRec dk i)) else fetS dk u n (i + 1) k
theorem mRec_mono {dk : Nat → Nat} {u : Nat} : ∀ (n i : Nat), mRec dk u i ≤ mRec dk u (i + n) := by
  intro n
  induction n with
  | zero => intro i; exact Nat.le_refl _
  | succ n ih =>
    intro i
    have := ih i
    show _ ≤ mRec dk u (i + n + 1)
    rw [mRec]
    omega
theorem fetS_none {dk : Nat → Nat} {u : Nat} : ∀ (n i k : Nat), fetS dk u n i k = none ↔ mRec dk u (i + n) ≤ k + mRec dk u i := by
  intro n
  induction n with
  | zero => intro i k; simp [fetS]
  | succ n ih =>
    intro i k
    have hm := mRec_mono (dk := dk) (u := u) n (i + 1)
    have hs : mRec dk u (i + 1) = mRec dk u i + if dk (1 + 3 * i) = u then fRec dk i else 0 := rfl
    have e : i + (n + 1) = i + 1 + n := by omega
    rw [fetS, e]
    by_cases hu : dk (1 + 3 * i) = u
    · rw [if_pos hu] at hs ⊢
      by_cases hk : k < fRec dk i
      · rw [if_pos hk]
        constructor
        · intro h; cases h
        · intro h; omega
      · rw [if_neg hk, ih]
        omega
    · rw [if_neg hu] at hs ⊢
      rw [ih]
      omega
theorem fetS_lt {dk : Nat → Nat} {u : Nat} : ∀ (n i k a m : Nat), fetS dk u n i k = some (a, m) → i ≤ a ∧ a < i + n ∧ m < fRec dk a := by
  intro n
  induction n with
  | zero => intro i k a m h; cases h
  | succ n ih =>
    intro i k a m h
    rw [fetS] at h
    split at h
    · split at h
      · cases h; exact ⟨Nat.le_refl _, by omega, by assumption⟩
      · have := ih _ _ _ _ h
        omega
    · have := ih _ _ _ _ h
      omega
section CF
variable {T : yT} {P : List yF} {R : Nat → Nat} {D : yD} {fu : Nat}
theorem C_drL (hT : TOk T) (hE : TEn T) {s k : Nat} (hs : s < T.length) (hk : k < 256) (hfu : 12 ≤ fu) : ∀ (m j g : Nat) (rs : List (List Int64)) (b : List Nat) (a : Nat) (H : zH), j + m = k → m + 1 < g → recsB T s rs b → m < rs.length → onD D.2.2.2 a b → a + b.length ≤ 1280 → FixAt H → SchT H T R → DiskAt H D → (∃ x, RL H 20 24 x) →
    ∃ H', jL_Manifest_decodeRecord_12 fu g (some 10) (nI k) (some (R s)) (some 20) (nI a) (nI j) H = some H' ∧ RL H' 20 24 (rs.getD m []) ∧ Fr H H' (fun q => q = 20 ∨ q = 21) := by
  obtain ⟨t1, t2, t3, -⟩ := hT.2 s hs
  intro m
  induction m with
  | zero =>
    intro j g rs b a H h1 h2 hr hl ho ha hF hS hD hx
    obtain ⟨q, rfl⟩ : ∃ q, g = q + 1 + 1 := ⟨g - 2, by omega⟩
    obtain ⟨x, hx⟩ := hx
    cases rs with
    | nil => simp at hl
    | cons ys rs =>
      obtain ⟨r1, b1, b2, r2, rfl, r3⟩ := hr
      rw [List.length_append] at ha
      obtain ⟨H1, e1, e2, e3⟩ := hx.clear
      have F1 := hF.fr e3 (by omega) (by omega) (by omega)
      obtain ⟨H2, f1, f2, f3, f4⟩ := C_dec (fu := fu) hT hE r1 hfu 7 s 0 ys.length b1 a H1 ⟨hs, by omega⟩ r2 (by omega) ho.l (by omega) ⟨hS.fr e3 (fun q hq => by omega), hD.fr e3 (by omega) (by omega), by rw [List.take_zero]; exact e2⟩
      dsimp only at f1
      rw [jL_Manifest_decodeRecord_12, if_ltN (by omega) (by omega), if_neg (by omega), if_neg (by simp), e1, Option.bind_some, qgR F1.2.2 rfl, Option.bind_some, f1, Option.bind_some, nI_1, jL_Manifest_decodeRecord_12, if_ltN (by omega) (by omega), if_pos (by omega)]
      refine ⟨H2, rfl, ?_, e3.tr f4⟩
      have := f2.2.2
      rw [List.take_length] at this
      exact this
  | succ m ih =>
    intro j g rs b a H h1 h2 hr hl ho ha hF hS hD hx
    obtain ⟨q, rfl⟩ : ∃ q, g = q + 1 := ⟨g - 1, by omega⟩
    obtain ⟨x, hx⟩ := hx
    cases rs with
    | nil => simp at hl
    | cons ys rs =>
      obtain ⟨r1, b1, b2, r2, rfl, r3⟩ := hr
      rw [List.length_append] at ha
      obtain ⟨H1, e1, e2, e3⟩ := hx.clear
      have F1 := hF.fr e3 (by omega) (by omega) (by omega)
      obtain ⟨H2, f1, f2, f3, f4⟩ := C_dec (fu := fu) hT hE r1 hfu 7 s 0 ys.length b1 a H1 ⟨hs, by omega⟩ r2 (by omega) ho.l (by omega) ⟨hS.fr e3 (fun q hq => by omega), hD.fr e3 (by omega) (by omega), by rw [List.take_zero]; exact e2⟩
      dsimp only at f1
      rw [jL_Manifest_decodeRecord_12, if_ltN (by omega) (by omega), if_neg (by omega), if_neg (by simp), e1, Option.bind_some, qgR F1.2.2 rfl, Option.bind_some, f1, Option.bind_some, nI_1]
      obtain ⟨H3, g1, g2, g3⟩ := ih (j + 1) q rs b2 (a + b1.length) H2 (by omega) (by omega) r3 (by simpa using hl) ho.r (by omega) (F1.fr f4 (by omega) (by omega) (by omega)) f2.1 f2.2.1 ⟨_, f2.2.2⟩
      refine ⟨H3, g1, ?_, (e3.tr f4).tr g3⟩
      exact g2
theorem scOf_nI {s : Nat} (hs : s < T.length) (hT : T.length ≤ 24) : scOf T (nI s) = some s := by
  unfold scOf
  rw [if_neg (nI_pos (by omega)), nI_clamp (by omega), if_pos hs]
theorem C_fetL {H : zH} {rsf : Nat → List (List Int64)} (hT : TOk T) (hE : TEn T) (hF : FixAt H) (hD : DiskAt H D) (hS : SchemasAt H T P R) (hd : dkOk D.2.2.2) (hm : mOk D.2.2.2) (hr : ∀ i, i < D.2.2.2 0 → FOr T D.2.2.2 i (rsf i)) (hx : ∃ x, RL H 20 24 x) {u k : Nat} (hu : u < 256) (hk : k < 2 ^ 31) (hfu : 300 ≤ fu) : ∀ (n i bf g : Nat), i + n = D.2.2.2 0 → n < g → bf ≤ k → 
    (fetS D.2.2.2 u n i (k - bf) = none → jL_Manifest_fetch_18 fu g (some 10) (nI u) (nI k) (some 4) (some 20) (nI (D.2.2.2 0)) (nI bf) (nI i) H = some (none, H)) ∧
    (∀ a m, fetS D.2.2.2 u n i (k - bf) = some (a, m) → ∃ H', jL_Manifest_fetch_18 fu g (some 10) (nI u) (nI k) (some 4) (some 20) (nI (D.2.2.2 0)) (nI bf) (nI i) H = some (some (R (fSch D.2.2.2 a)), H') ∧ RL H' 20 24 ((rsf a).getD m []) ∧ Fr H H' (fun q => q = 20 ∨ q = 21)) := by
  have hm1 := hm.1
  intro n
  induction n with
  | zero =>
    intro i bf g h1 h2 h3
    obtain ⟨q, rfl⟩ : ∃ q, g = q + 1 := ⟨g - 1, by omega⟩
    refine ⟨fun _ => ?_, fun a m h => (by cases h)⟩
    rw [jL_Manifest_fetch_18, if_pos (nI_le (by omega) (by omega))]
  | succ n ih =>
    intro i bf g h1 h2 h3
    obtain ⟨q, rfl⟩ : ∃ q, g = q + 1 := ⟨g - 1, by omega⟩
    have hb := fByt_lt hd i
    have hfa := fAt_lt hm (show i < D.2.2.2 0 by omega)
    obtain ⟨r1, r2, r3, r4⟩ := hr i (by omega)
    rw [jL_Manifest_fetch_18, if_neg (nI_ge (by omega) (by omega)), Man_sub hF hD (by omega), Option.bind_some, nI_1, if_eqN (by have := hd.1 (1 + 3 * i); omega) (by omega), fetS]
    by_cases hu' : D.2.2.2 (1 + 3 * i) = u
    · rw [if_pos hu', if_pos hu', Man_rec hF hD hm (by omega), Option.bind_some, pk_sub h3, if_leN (by omega) (by omega)]
      by_cases hc : k - bf < fRec D.2.2.2 i
      · rw [if_neg (show ¬ fRec D.2.2.2 i ≤ k - bf by omega), if_pos hc, Man_sch hF hD hm (by omega), Option.bind_some, C_find hS hT.1, Option.bind_some, scOf_nI r1 hT.1]
        refine ⟨fun h => (by cases h), fun a m h => ?_⟩
        cases h
        unfold jF_Manifest_decodeRecord
        obtain ⟨H1, e1, e2, e3⟩ := C_drL (fu := fu) (R := R) (D := D) hT hE r1 (show k - bf < 256 by omega) (by omega) (k - bf) 0 fu (rsf i) _ (fAt D.2.2.2 i + 5) H (by omega) (by omega) r3 (by omega) dB_on (by rw [dB_len]; omega) hF hS.tab hD hx
        rw [nI_0] at e1
        rw [qok hF.2.2, Option.bind_some, Man_start hF hD (by omega), Option.bind_some, li5, nI_add]
        show ∃ H', ((jL_Manifest_decodeRecord_12 fu fu (some 10) (nI (k - bf)) (some (R (fSch D.2.2.2 i))) (some 20) (nI (fAt D.2.2.2 i + 5)) 0 H).bind _) = _ ∧ _
        rw [e1, Option.bind_some]
        exact ⟨H1, rfl, e2, e3⟩
      · rw [if_pos (show fRec D.2.2.2 i ≤ k - bf by omega), if_neg hc, Option.bind_some, nI_add]
        have := ih (i + 1) (bf + fRec D.2.2.2 i) q (by omega) (by omega) (by omega)
        rw [show k - (bf + fRec D.2.2.2 i) = k - bf - fRec D.2.2.2 i by omega] at this
        exact this
    · rw [if_neg hu', if_neg hu']
      exact ih (i + 1) bf q (by omega) (by omega) h3
theorem C_fetch {H : zH} {rsf : Nat → List (List Int64)} (hT : TOk T) (hE : TEn T) (hF : FixAt H) (hD : DiskAt H D) (hS : SchemasAt H T P R) (hd : dkOk D.2.2.2) (hm : mOk D.2.2.2) (hr : ∀ i, i < D.2.2.2 0 → FOr T D.2.2.2 i (rsf i)) (hx : ∃ x, RL H 20 24 x) {u k : Nat} (hu : u < 256) (hk : k < 2 ^ 31) (hfu : 300 ≤ fu) :
    (fetS D.2.2.2 u (D.2.2.2 0) 0 k = none → jF_Manifest_fetch fu (some 10) (nI u) (nI k) (some 4) (some 20) H = some (none, H)) ∧
    (∀ a m, fetS D.2.2.2 u (D.2.2.2 0) 0 k = some (a, m) → ∃ H', jF_Manifest_fetch fu (some 10) (nI u) (nI k) (some 4) (some 20) H = some (some (R (fSch D.2.2.2 a)), H') ∧ RL H' 20 24 ((rsf a).getD m []) ∧ Fr H H' (fun q => q = 20 ∨ q = 21)) := by
  have hm1 := hm.1
  have := C_fetL (fu := fu) hT hE hF hD hS hd hm hr hx hu hk hfu (D.2.2.2 0) 0 0 fu (by omega) (by omega) (by omega)
  unfold jF_Manifest_fetch
  rw [qok hF.2.2, Option.bind_some, if_pos (nI_pos' hk), Man_entries hF hD, Option.bind_some]
  exact this
end CF
section MF
variable {T : yT} {P : List yF} {D : yD} {xs0 fo : List Int64} {g0 : Nat × Nat × List Nat} {fu : Nat}
theorem Mo_f85 (hT : TOk T) (hE : TEn T) (hp : TPos T) {s k : Nat} (hs : s < T.length) (hk : k < 256) (hfu : 500 ≤ fu) : ∀ (m j g : Nat) (cur : List Int64) (rs : List (List Int64)) (b : List Nat) (a : Nat) (H : zH) (v : Nat → Int32), j + m = k → m < g → recsB T s rs b → m ≤ rs.length → onD D.2.2.2 a b → a + b.length ≤ 1280 → MRv H v (T, P, D, xs0, g0, fo) → v 33 = nI a → MVp H cur cur.length →
    ∃ H' v', jL_Mo_fetch_85 fu g (some 24) (nI k) (nI s) (nI j) H = some (nI s, H') ∧ MRv H' v' (T, P, D, xs0, g0, fo) ∧ MVp H' ((cur :: rs).getD m []) ((cur :: rs).getD m []).length ∧ Fr H H' A3d := by
  intro m
  induction m with
  | zero =>
    intro j g cur rs b a H v h1 h2 hr hl ho ha h hv hV
    obtain ⟨q, rfl⟩ : ∃ q, g = q + 1 := ⟨g - 1, by omega⟩
    rw [jL_Mo_fetch_85, if_pos (nI_le (by omega) (by omega))]
    exact ⟨H, v, rfl, h, hV, Fr.rf⟩
  | succ m ih =>
    intro j g cur rs b a H v h1 h2 hr hl ho ha h hv hV
    obtain ⟨q, rfl⟩ : ∃ q, g = q + 1 := ⟨g - 1, by omega⟩
    cases rs with
    | nil => simp at hl
    | cons ys rs =>
      obtain ⟨r1, b1, b2, r2, rfl, r3⟩ := hr
      rw [List.length_append] at ha
      obtain ⟨H1, v1, e1, e2, e3, e4, e5⟩ := Mo_dec (fu := fu) hT hE hp r1 hfu hs r2 h hv ho.l (by omega)
      rw [jL_Mo_fetch_85, if_neg (nI_ge (by omega) (by omega)), e1, Option.bind_some, nI_1]
      obtain ⟨H2, v2, f1, f2, f3, f4⟩ := ih (j + 1) q ys rs b2 (a + b1.length) H1 v1 (by omega) (by omega) r3 (by simpa using hl) ho.r (by omega) e2 e3 e4
      exact ⟨H2, v2, f1, f2, f3, e5.tr f4⟩
theorem Mo_fetL {H : zH} {v : Nat → Int32} {rsf : Nat → List (List Int64)} (hT : TOk T) (hE : TEn T) (hp : TPos T) (h : MRv H v (T, P, D, xs0, g0, fo)) (hd : dkOk D.2.2.2) (hm : mOk D.2.2.2) (hr : ∀ i, i < D.2.2.2 0 → FOr T D.2.2.2 i (rsf i)) {u : Nat} (hu : u < 256) (hfu : 500 ≤ fu) {a m : Nat} : ∀ (n i k g : Nat), i + n = D.2.2.2 0 → n < g → k < 2 ^ 31 → fetS D.2.2.2 u n i k = some (a, m) →
    ∃ H' v', jL_Mo_fetch_5 fu g (some 24) (nI u) (nI k) (nI i) H = some (nI (fSch D.2.2.2 a), H') ∧ MRv H' v' (T, P, D, xs0, g0, fo) ∧ MVp H' ((rsf a).getD m []) ((rsf a).getD m []).length ∧ Fr H H' A3d := by
  have hm1 := hm.1
  intro n
  induction n with
  | zero => intro i k g h1 h2 h3 hf; cases hf
  | succ n ih =>
    intro i k g h1 h2 h3 hf
    obtain ⟨q, rfl⟩ : ∃ q, g = q + 1 := ⟨g - 1, by omega⟩
    have hb := fByt_lt hd i
    have hfa := fAt_lt hm (show i < D.2.2.2 0 by omega)
    obtain ⟨r1, r2, r3, r4⟩ := hr i (by omega)
    have z1 : jF_Mo_fileSubject (some 24) (nI i) H = some (nI (D.2.2.2 (1 + 3 * i))) := Mo_fsub h.2.2.1 (by omega)
    have z2 : jF_Mo_fileRecords (some 24) (nI i) H = some (nI (fRec D.2.2.2 i)) := Mo_frec h.2.2.1 hm (show i < D.2.2.2 0 by omega)
    have z3 : jF_Mo_fileAt (some 24) (nI i) H = some (nI (fAt D.2.2.2 i)) := Mo_fat h.2.2.1 (by omega)
    rw [fetS] at hf
    rw [jL_Mo_fetch_5, z1, Option.bind_some, if_eqN (by have := hd.1 (1 + 3 * i); omega) (by omega)]
    unfold jJ_Mo_fetch_25
    rw [z1, Option.bind_some, if_eqN (by have := hd.1 (1 + 3 * i); omega) (by omega), nI_1]
    by_cases hu' : D.2.2.2 (1 + 3 * i) = u
    · rw [if_pos hu'] at hf
      rw [if_pos hu', z2, Option.bind_some, if_ltN (by omega) (by omega)]
      by_cases hc : k < fRec D.2.2.2 i
      · rw [if_pos hc] at hf
        cases hf
        obtain ⟨H1, e1, e2, e3⟩ := Mo_curs (x := nI (fAt D.2.2.2 a + 5)) h
        have z4 : jF_Mo_fileSchema (some 24) (nI a) H1 = some (nI (fSch D.2.2.2 a)) := Mo_fsch e2.2.2.1 hm (show a < D.2.2.2 0 by omega)
        rw [if_pos hc, z3, Option.bind_some, li5, nI_add, e1, Option.bind_some, z4, Option.bind_some]
        cases hrs : rsf a with
        | nil => rw [hrs] at r4; simp at r4; omega
        | cons ys rs =>
          rw [hrs] at r3 r4
          obtain ⟨q1, b1, b2, q2, q3, q4⟩ := r3
          have ho : onD D.2.2.2 (fAt D.2.2.2 a + 5) (b1 ++ b2) := by rw [← q3]; exact dB_on
          have hl := congrArg List.length q3
          rw [dB_len, List.length_append] at hl
          rw [List.length_cons] at r4
          obtain ⟨H2, v2, f1, f2, f3, f4, f5⟩ := Mo_dec (fu := fu) hT hE hp q1 hfu r1 q2 e2 zup_same ho.l (by omega)
          rw [f1, Option.bind_some]
          obtain ⟨H3, v3, g1, g2, g3, g4⟩ := Mo_f85 (fu := fu) hT hE hp r1 (show m < 256 by omega) hfu m 0 fu ys rs b2 (fAt D.2.2.2 a + 5 + b1.length) H2 v2 (by omega) (by omega) q4 (by omega) ho.r (by omega) f2 f3 f4
          exact ⟨H3, v3, g1, g2, g3, ((e3.up (fun q hq => Or.inl hq)).tr f5).tr g4⟩
      · rw [if_neg hc] at hf
        rw [if_neg hc, if_pos hu', Option.bind_some, pk_sub (by omega)]
        exact ih (i + 1) (k - fRec D.2.2.2 i) q (by omega) (by omega) (by omega) hf
    · rw [if_neg hu'] at hf
      rw [if_neg hu', if_neg hu', li0, pk_sub (Nat.zero_le _), Nat.sub_zero]
      exact ih (i + 1) k q (by omega) (by omega) h3 hf
theorem Mo_fetch {H : zH} {v : Nat → Int32} {rsf : Nat → List (List Int64)} (hT : TOk T) (hE : TEn T) (hp : TPos T) (h : MRv H v (T, P, D, xs0, g0, fo)) (hd : dkOk D.2.2.2) (hm : mOk D.2.2.2) (hr : ∀ i, i < D.2.2.2 0 → FOr T D.2.2.2 i (rsf i)) {u k : Nat} (hu : u < 256) (hk : k < 2 ^ 31) (hfu : 500 ≤ fu) {a m : Nat} (hf : fetS D.2.2.2 u (D.2.2.2 0) 0 k = some (a, m)) :
    ∃ H' v', jF_Mo_fetch fu (some 24) (nI u) (nI k) H = some (nI (fSch D.2.2.2 a), H') ∧ MRv H' v' (T, P, D, xs0, g0, fo) ∧ MVp H' ((rsf a).getD m []) ((rsf a).getD m []).length ∧ Fr H H' A3d := by
  have hm1 := hm.1
  unfold jF_Mo_fetch
  rw [qok h.m, Option.bind_some]
  exact Mo_fetL hT hE hp h hd hm hr hu hfu (D.2.2.2 0) 0 k fu (by omega) (by omega) hk hf
end MF
