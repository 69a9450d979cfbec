/-! What the disk keeps to, and that each commit keeps it. -/
def DOk (T : yT) (D : yD) : Prop := dkOk D.2.2.2 ∧ rZero D.2.2.2 ∧ mOk D.2.2.2 ∧ mZero D.2.2.2 ∧ limOk D ∧ (∀ i, i < D.2.2.2 32 → D.2.2.2 (34 + 2 * i) < T.length) ∧ ∀ i, i < D.2.2.2 0 → ∃ rs, FOr T D.2.2.2 i rs
section DI
variable {T : yT} {dk dk' : Nat → Nat} {D : yD}
theorem dB_congr {a : Nat} : ∀ n, (∀ q, a ≤ q → q < a + n → dk' q = dk q) → dB dk' a n = dB dk a n := by
  intro n
  induction n with
  | zero => intro _; rfl
  | succ n ih => intro h; rw [dB, dB, ih (fun q h1 h2 => h q h1 (by omega)), h (a + n) (by omega) (by omega)]
theorem dB_onD {a : Nat} : ∀ (b : List Nat), onD dk a b → dB dk a b.length = b := by
  intro b h
  apply List.ext_getElem
  · rw [dB_len]
  · intro i h1 h2
    rw [dB_len] at h1
    have e1 := dB_get (dk := dk) (a := a) b.length i h1
    have e2 := h i h1
    simp only [List.getD, List.getElem?_eq_getElem (show i < (dB dk a b.length).length by rw [dB_len]; exact h1), List.getElem?_eq_getElem h1, Option.getD_some] at e1 e2
    rw [e1, e2]
theorem FOr.congr {a : Nat} {rs : List (List Int64)} (h : FOr T dk a rs) (ha : a ≤ 9) (h64 : ∀ q, q < 32 → dk' q = dk q) (hb : ∀ q, fAt dk a ≤ q → q < fAt dk a + 32 * dk (3 + 3 * a) → dk' q = dk q) : FOr T dk' a rs := by
  obtain ⟨h1, h2, h3, h4⟩ := h
  have e0 : fAt dk' a = fAt dk a := by unfold fAt; rw [h64 _ (by omega)]
  have e1 : fSch dk' a = fSch dk a := by unfold fSch; rw [e0, hb _ (by omega) (by omega)]
  have e2 : fRec dk' a = fRec dk a := by unfold fRec; rw [e0, hb _ (by omega) (by omega)]
  have e3 : fByt dk' a = fByt dk a := by unfold fByt; rw [e0, hb _ (by omega) (by omega), hb _ (by omega) (by omega)]
  refine ⟨by rw [e1]; exact h1, by rw [e3, h64 _ (by omega)]; exact h2, ?_, by rw [e2]; exact h4⟩
  rw [e0, e1, e3, dB_congr _ (fun q q1 q2 => hb q (by omega) (by omega))]
  exact h3
/-- an entry under another number -/
theorem FOr.ren {a c : Nat} {rs : List (List Int64)} (h : FOr T dk a rs) (h2 : dk' (2 + 3 * c) = dk (2 + 3 * a)) (h3 : dk' (3 + 3 * c) = dk (3 + 3 * a)) (hb : ∀ q, fAt dk a ≤ q → q < fAt dk a + 32 * dk (3 + 3 * a) → dk' q = dk q) : FOr T dk' c rs := by
  obtain ⟨q1, q2, q3, q4⟩ := h
  have e0 : fAt dk' c = fAt dk a := by unfold fAt; rw [h2]
  have e1 : fSch dk' c = fSch dk a := by unfold fSch; rw [e0, hb _ (by omega) (by omega)]
  have e2 : fRec dk' c = fRec dk a := by unfold fRec; rw [e0, hb _ (by omega) (by omega)]
  have e3 : fByt dk' c = fByt dk a := by unfold fByt; rw [e0, hb _ (by omega) (by omega), hb _ (by omega) (by omega)]
  refine ⟨by rw [e1]; exact q1, by rw [e3, h3]; exact q2, ?_, by rw [e2]; exact q4⟩
  rw [e0, e1, e3, dB_congr _ (fun q r1 r2 => hb q (by omega) (by omega))]
  exact q3
theorem FOr.new {i b s n : Nat} {bts : List Nat} {rs : List (List Int64)} (hi : dk (2 + 3 * i) = b) (ho : onD dk (32 * b) (fileB s n bts)) (hs : s < T.length) (hl : bts.length + 6 ≤ 32 * dk (3 + 3 * i)) (hr : recsB T s rs bts) (hn : rs.length = n) : FOr T dk i rs := by
  unfold fileB fileH at ho
  have e0 : fAt dk i = 32 * b := by unfold fAt; rw [hi]
  have o1 : onD dk (32 * b) ([83, s, n, bts.length / 256, bts.length % 256] ++ bts) := ho.l
  have o2 : onD dk (32 * b + 5) bts := o1.r
  have o3 : onD dk (32 * b) [83, s, n, bts.length / 256, bts.length % 256] := o1.l
  have g1 : dk (32 * b + 1) = s := o3 1 (by simp)
  have g2 : dk (32 * b + 2) = n := o3 2 (by simp)
  have g3 : dk (32 * b + 3) = bts.length / 256 := o3 3 (by simp)
  have g4 : dk (32 * b + 4) = bts.length % 256 := o3 4 (by simp)
  have e1 : fSch dk i = s := by unfold fSch; rw [e0, g1]
  have e2 : fRec dk i = n := by unfold fRec; rw [e0, g2]
  have e3 : fByt dk i = bts.length := by unfold fByt; rw [e0, g3, g4]; omega
  refine ⟨by rw [e1]; exact hs, by rw [e3]; exact hl, ?_, by rw [e2]; exact hn⟩
  rw [e0, e1, e3, dB_onD bts o2]
  exact hr
theorem FOr.more {T' : yT} {a : Nat} {rs : List (List Int64)} (h : FOr T dk a rs) (hT : TOk T) (hG : ∀ s, s < T.length → yG T' s = yG T s) (hl : T.length ≤ T'.length) : FOr T' dk a rs := by
  obtain ⟨h1, h2, h3, h4⟩ := h
  exact ⟨by omega, h2, recsB.more hT hG h1 _ _ h3, h4⟩
theorem wrS_dk {b : Nat} {g : Nat → Nat} (h : (wrS D b g).1 = true) : (wrS D b g).2.2.2.2 = dput D.2.2.2 (32 * b) 32 g := by
  unfold wrS at *
  split
  · next hc => rw [if_pos hc] at h; cases h
  · rfl
theorem wrS_no {b : Nat} {g : Nat → Nat} (h : (wrS D b g).1 = false) : (wrS D b g).2.2.2.2 = D.2.2.2 ∧ (wrS D b g).2.1 = false := by
  unfold wrS at *
  split
  · exact ⟨rfl, rfl⟩
  · next hc => rw [if_neg hc] at h; cases h
theorem wrS_lt {b : Nat} {g : Nat → Nat} (hd : ∀ i, D.2.2.2 i < 256) (hg : ∀ i, i < 32 → g i < 256) (q : Nat) : (wrS D b g).2.2.2.2 q < 256 := by
  unfold wrS
  split
  · exact hd q
  · dsimp only
    unfold dput
    split
    · exact hg _ (by omega)
    · exact hd q
theorem wrAll_lt {first : Nat} {fl : List Nat} (hf : byOk fl) : ∀ (m i : Nat) (D : yD), (∀ i, D.2.2.2 i < 256) → ∀ q, (wrAll first fl m i D).2.2.2.2 q < 256 := by
  have hg : ∀ j, fl.getD j 0 < 256 := by
    intro j
    by_cases hj : j < fl.length
    · have : fl.getD j 0 = fl[j] := by simp [List.getD, List.getElem?_eq_getElem hj]
      rw [this]
      exact hf _ (List.getElem_mem hj)
    · rw [getD_out (by omega)]; omega
  intro m
  induction m with
  | zero => intro i D hd q; exact hd q
  | succ m ih =>
    intro i D hd q
    rw [wrAll]
    split
    · exact ih (i + 1) _ (fun q => wrS_lt hd (fun i _ => hg _) q) q
    · exact wrS_lt hd (fun i _ => hg _) q
theorem wrAll_in {first : Nat} {fl : List Nat} : ∀ (m i : Nat) (D : yD), (wrAll first fl m i D).1 = true → ∀ j, 32 * i ≤ j → j < 32 * (i + m) → (wrAll first fl m i D).2.2.2.2 (32 * first + j) = fl.getD j 0 := by
  intro m
  induction m with
  | zero => intro i D _ j h1 h2; omega
  | succ m ih =>
    intro i D h j h1 h2
    rw [wrAll] at h ⊢
    cases hw : (wrS D (first + i) (fun q => fl.getD (i * 32 + q) 0)).1 with
    | false => rw [hw, if_neg Bool.false_ne_true] at h; cases h
    | true =>
      rw [hw, if_pos rfl] at h
      rw [if_pos rfl]
      by_cases hj : 32 * (i + 1) ≤ j
      · exact ih (i + 1) _ h j hj (by omega)
      · rw [wrAll_out m (i + 1) _ _ (by omega), wrS_dk hw]
        unfold dput
        rw [if_pos (by omega)]
        show fl.getD (i * 32 + (32 * first + j - 32 * (first + i))) 0 = fl.getD j 0
        rw [show i * 32 + (32 * first + j - 32 * (first + i)) = j by omega]
theorem wrAll_no {first : Nat} {fl : List Nat} : ∀ (m i : Nat) (D : yD), (wrAll first fl m i D).1 = false → (wrAll first fl m i D).2.1 = false := by
  intro m
  induction m with
  | zero => intro i D h; cases h
  | succ m ih =>
    intro i D h
    rw [wrAll] at h ⊢
    cases hw : (wrS D (first + i) (fun q => fl.getD (i * 32 + q) 0)).1 with
    | false => rw [if_neg Bool.false_ne_true]; exact (wrS_no hw).2
    | true =>
      rw [hw, if_pos rfl] at h
      rw [if_pos rfl]
      exact ih (i + 1) _ h
theorem commS_no {first : Nat} {fl : List Nat} {mb : Nat → Nat} (h : (commS D first fl mb).1 = false) : (commS D first fl mb).2.1 = false := by
  cases hw : (wrAll first fl (nBl fl) 0 D).1 with
  | false => rw [commS_f hw] at h ⊢; exact wrAll_no _ _ _ hw
  | true => rw [commS_t hw] at h ⊢; exact (wrS_no h).2
/-- no file lies where there is room -/
theorem room_ap {b n a q : Nat} (hf : ∀ k, b ≤ k → k < b + n → cov dk k (dk 0) = false) (ha : a < dk 0) (h1 : fAt dk a ≤ q) (h2 : q < fAt dk a + 32 * dk (3 + 3 * a)) : q < 32 * b ∨ 32 * (b + n) ≤ q := by
  unfold fAt at h1 h2
  by_cases hc : q < 32 * b ∨ 32 * (b + n) ≤ q
  · exact hc
  · have h3 := hf (q / 32) (by omega) (by omega)
    have h4 := cov_up (dk := dk) (b := q / 32) (i := a) (dk 0) ha (decide_eq_true ⟨by omega, by omega⟩)
    rw [h3] at h4
    cases h4
/-- blocks written where there is room: all is as it was -/
theorem DOk.room {b : Nat} {fl : List Nat} (h : DOk T D) (hf : byOk fl) (hn : 1 ≤ nBl fl) (hr : roomS D.2.2.2 (nBl fl) = some b) : DOk T (wrAll b fl (nBl fl) 0 D).2 := by
  obtain ⟨h1, h2, h3, h4, h5, h6, h7⟩ := h
  obtain ⟨r1, r2, r3⟩ := room_fit hn hr
  have ho : ∀ q, q < 64 → (wrAll b fl (nBl fl) 0 D).2.2.2.2 q = D.2.2.2 q := fun q hq => wrAll_out _ _ _ _ (by omega)
  have hm := h3.1
  have hd := h1.2
  refine ⟨⟨wrAll_lt hf _ _ _ h1.1, by rw [ho 32 (by omega)]; exact h1.2⟩, ?_, ⟨by rw [ho 0 (by omega)]; exact h3.1, ?_⟩, ?_, limOk_wrAll _ _ _ h5, ?_, ?_⟩
  · intro i i1 i2
    rw [ho 32 (by omega)] at i1
    rw [ho _ (by omega)]
    exact h2 i i1 i2
  · intro i hi
    rw [ho 0 (by omega)] at hi
    rw [ho _ (by omega), ho _ (by omega)]
    exact h3.2 i hi
  · intro i i1 i2
    rw [ho 0 (by omega)] at i1
    rw [ho _ (by omega)]
    exact h4 i i1 i2
  · intro i hi
    rw [ho 32 (by omega)] at hi
    rw [ho _ (by omega)]
    exact h6 i hi
  · intro i hi
    rw [ho 0 (by omega)] at hi
    obtain ⟨rs, hrs⟩ := h7 i hi
    refine ⟨rs, hrs.congr (by omega) (fun q hq => ho q (by omega)) (fun q q1 q2 => wrAll_out _ _ _ _ ?_)⟩
    have := room_ap r3 hi q1 q2
    omega
theorem fileB_ok {s n : Nat} {b : List Nat} (hs : s < 256) (hn : n < 256) (hb : b.length < 60000) (hy : byOk b) : byOk (fileB s n b) := by
  unfold fileB
  refine ((byOk.head hs hn hb).app hy).app ?_
  intro x hx
  have : x = (fileH s n b.length ++ b).sum % 251 := by simpa using hx
  omega
/-- the file and the manifest with an entry more -/
theorem DOk.load {b u s n : Nat} {bts : List Nat} {rs : List (List Int64)} (h : DOk T D) (hu : u < 256) (hs : s < T.length) (hT : T.length ≤ 24) (hn : n ≤ 20) (hbl : bts.length ≤ 200) (hrs : recsB T s rs bts) (hrn : rs.length = n) (h9 : D.2.2.2 0 < 9) (hr : roomS D.2.2.2 (nBl (fileB s n bts)) = some b) :
    DOk T (commS D b (fileB s n bts) (manB D.2.2.2 u b (nBl (fileB s n bts)))).2 := by
  have hfl := fileB_len s n bts
  have hnb : nBl (fileB s n bts) ≤ 7 := by unfold nBl; omega
  have hnb1 : 1 ≤ nBl (fileB s n bts) := by unfold nBl; omega
  have hnb2 : bts.length + 6 ≤ 32 * nBl (fileB s n bts) := by unfold nBl; omega
  have hby := fileB_ok (s := s) (n := n) (by omega) (by omega) (by omega) (hrs.ok)
  obtain ⟨r1, r2, r3⟩ := room_fit hnb1 hr
  have h' := h.room hby hnb1 hr
  generalize hF : fileB s n bts = F at *
  cases hw : (wrAll b F (nBl F) 0 D).1 with
  | false => rw [commS_f hw]; exact h'
  | true =>
    rw [commS_t hw]
    have ho : ∀ q, q < 64 → (wrAll b F (nBl F) 0 D).2.2.2.2 q = D.2.2.2 q := fun q hq => wrAll_out _ _ _ _ (by omega)
    cases hc : (wrS (wrAll b F (nBl F) 0 D).2 0 (manB D.2.2.2 u b (nBl F))).1 with
    | false =>
      obtain ⟨q1, q2, q3, q4, q5, q6, q7⟩ := h'
      have e := (wrS_no hc).1
      unfold DOk
      rw [e]
      exact ⟨q1, q2, q3, q4, limOk_wr q5, q6, q7⟩
    | true =>
      have e := wrS_dk hc
      have hin := wrAll_in _ _ _ hw
      have hl5 := limOk_wr (b := 0) (g := manB D.2.2.2 u b (nBl F)) h'.2.2.2.2.1
      generalize (wrAll b F (nBl F) 0 D).2 = D1 at *
      unfold DOk
      rw [e]
      obtain ⟨q1, q2, q3, q4, q5, q6, q7⟩ := h'
      have d0 : D1.2.2.2 0 = D.2.2.2 0 := ho 0 (by omega)
      have hq32 := h.1.2
      have dM : ∀ q, q < 32 → dput D1.2.2.2 (32 * 0) 32 (manB D.2.2.2 u b (nBl F)) q = manB D.2.2.2 u b (nBl F) q := by
        intro q hq
        unfold dput
        rw [if_pos (by omega)]
        rfl
      have dH : ∀ q, 32 ≤ q → dput D1.2.2.2 (32 * 0) 32 (manB D.2.2.2 u b (nBl F)) q = D1.2.2.2 q := by
        intro q hq
        unfold dput
        rw [if_neg (by omega)]
      have m0 : manB D.2.2.2 u b (nBl F) 0 = D.2.2.2 0 + 1 := rfl
      have mO : ∀ q, q ≠ 0 → q < 1 + 3 * D.2.2.2 0 → manB D.2.2.2 u b (nBl F) q = D.2.2.2 q := by
        intro q a1 a2
        unfold manB
        rw [if_neg a1, if_neg (by omega), if_neg (by omega), if_neg (by omega)]
      have m1 : manB D.2.2.2 u b (nBl F) (1 + 3 * D.2.2.2 0) = u := by
        unfold manB; rw [if_neg (by omega), if_pos rfl]
      have m2 : manB D.2.2.2 u b (nBl F) (2 + 3 * D.2.2.2 0) = b := by
        unfold manB; rw [if_neg (by omega), if_neg (by omega), if_pos rfl]
      have m3 : manB D.2.2.2 u b (nBl F) (3 + 3 * D.2.2.2 0) = nBl F := by
        unfold manB; rw [if_neg (by omega), if_neg (by omega), if_neg (by omega), if_pos rfl]
      refine ⟨⟨?_, ?_⟩, ?_, ⟨?_, ?_⟩, ?_, hl5, ?_, ?_⟩
      · intro q
        by_cases hq : q < 32
        · rw [dM q hq]
          have := h.1.1 q
          unfold manB
          split
          · omega
          · split
            · omega
            · split
              · omega
              · split
                · omega
                · exact h.1.1 q
        · rw [dH q (by omega)]; exact q1.1 q
      · rw [dH 32 (by omega)]; exact q1.2
      · intro i i1 i2
        rw [dH 32 (by omega)] at i1
        rw [dH _ (by omega)]
        exact q2 i i1 i2
      · rw [dM 0 (by omega), m0]; omega
      · intro i hi
        rw [dM 0 (by omega), m0] at hi
        by_cases hie : i = D.2.2.2 0
        · subst hie
          rw [dM _ (by omega), dM _ (by omega), m2, m3]
          omega
        · rw [dM _ (by omega), dM _ (by omega), mO _ (by omega) (by omega), mO _ (by omega) (by omega)]
          exact h.2.2.1.2 i (by omega)
      · intro i i1 i2
        rw [dM 0 (by omega), m0] at i1
        rw [dM i i2]
        unfold manB
        rw [if_neg (by omega), if_neg (by omega), if_neg (by omega), if_neg (by omega)]
        exact h.2.2.2.1 i (by omega) i2
      · intro i hi
        rw [dH 32 (by omega)] at hi
        rw [dH _ (by omega)]
        exact q6 i hi
      · intro i hi
        rw [dM 0 (by omega), m0] at hi
        by_cases hie : i = D.2.2.2 0
        · subst hie
          refine ⟨rs, FOr.new (b := b) (s := s) (n := n) (bts := bts) (by rw [dM _ (by omega), m2]) ?_ hs (by rw [dM _ (by omega), m3]; exact hnb2) hrs hrn⟩
          rw [hF]
          intro j hj
          rw [dH _ (by omega)]
          exact hin j (by omega) (by unfold nBl; omega)
        · obtain ⟨rs', hrs'⟩ := q7 i (by rw [d0]; omega)
          have hfa := fAt_lt q3 (show i < D1.2.2.2 0 by rw [d0]; omega)
          refine ⟨rs', hrs'.ren ?_ ?_ (fun q a1 a2 => dH q (by omega))⟩
          · rw [dM _ (by omega), mO _ (by omega) (by omega), ho _ (by omega)]
          · rw [dM _ (by omega), mO _ (by omega) (by omega), ho _ (by omega)]
end DI
