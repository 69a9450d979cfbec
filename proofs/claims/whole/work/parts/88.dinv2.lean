/-! The disk keeps to it: joining, registering. -/
section DJ
variable {T : yT} {dk dk' : Nat → Nat} {D : yD}
theorem DOk.more {T' : yT} (h : DOk T D) (hT : TOk T) (hG : ∀ s, s < T.length → yG T' s = yG T s) (hl : T.length ≤ T'.length) : DOk T' D := by
  obtain ⟨h1, h2, h3, h4, h5, h6, h7⟩ := h
  exact ⟨h1, h2, h3, h4, h5, fun i hi => by have := h6 i hi; omega, fun i hi => by obtain ⟨rs, hrs⟩ := h7 i hi; exact ⟨rs, hrs.more hT hG hl⟩⟩
theorem DOk.join {b a c : Nat} (h : DOk T D) (hT : T.length ≤ 24) (hac : a < c) (hc : c < D.2.2.2 0) (hj : canJ D.2.2.2 a c = true) (hr : roomS D.2.2.2 (nBl (joinB D.2.2.2 a c)) = some b) :
    DOk T (commS D b (joinB D.2.2.2 a c) (manJ D.2.2.2 a c b (nBl (joinB D.2.2.2 a c)))).2 := by
  have hcj := of_decide_eq_true hj
  obtain ⟨ra, fa1, fa2, fa3, fa4⟩ := h.2.2.2.2.2.2 a (by omega)
  obtain ⟨rc, fc1, fc2, fc3, fc4⟩ := h.2.2.2.2.2.2 c hc
  rw [← hcj.1] at fc3
  have hrs := fc3.app _ _ fa3
  have hm9 := h.2.2.1.1
  have hbl : (dB D.2.2.2 (fAt D.2.2.2 a + 5) (fByt D.2.2.2 a) ++ dB D.2.2.2 (fAt D.2.2.2 c + 5) (fByt D.2.2.2 c)).length = fByt D.2.2.2 a + fByt D.2.2.2 c := by rw [List.length_append, dB_len, dB_len]
  have hrl : (ra ++ rc).length = fRec D.2.2.2 a + fRec D.2.2.2 c := by rw [List.length_append, fa4, fc4]
  have hjb : joinB D.2.2.2 a c = fileB (fSch D.2.2.2 a) (fRec D.2.2.2 a + fRec D.2.2.2 c) (dB D.2.2.2 (fAt D.2.2.2 a + 5) (fByt D.2.2.2 a) ++ dB D.2.2.2 (fAt D.2.2.2 c + 5) (fByt D.2.2.2 c)) := rfl
  have hfl : (joinB D.2.2.2 a c).length = fByt D.2.2.2 a + fByt D.2.2.2 c + 6 := by rw [hjb, fileB_len, hbl]
  have hnb : nBl (joinB D.2.2.2 a c) ≤ 7 := by unfold nBl; omega
  have hnb1 : 1 ≤ nBl (joinB D.2.2.2 a c) := by unfold nBl; omega
  have hnb2 : fByt D.2.2.2 a + fByt D.2.2.2 c + 6 ≤ 32 * nBl (joinB D.2.2.2 a c) := by unfold nBl; omega
  have hby : byOk (joinB D.2.2.2 a c) := by rw [hjb]; exact fileB_ok (by omega) (by omega) (by omega) (hrs.ok)
  obtain ⟨r1, r2, r3⟩ := room_fit hnb1 hr
  have h' := h.room hby hnb1 hr
  generalize hF : joinB D.2.2.2 a c = F at *
  cases hw : (wrAll b F (nBl F) 0 D).1 with
  | false => rw [commS_f hw]; exact h'
  | true =>
    rw [commS_t hw]
    have ho : ∀ q, q < 64 → (wrAll b F (nBl F) 0 D).2.2.2.2 q = D.2.2.2 q := fun q hq => wrAll_out _ _ _ _ (by omega)
    cases hcc : (wrS (wrAll b F (nBl F) 0 D).2 0 (manJ D.2.2.2 a c b (nBl F))).1 with
    | false =>
      obtain ⟨q1, q2, q3, q4, q5, q6, q7⟩ := h'
      have e := (wrS_no hcc).1
      unfold DOk
      rw [e]
      exact ⟨q1, q2, q3, q4, limOk_wr q5, q6, q7⟩
    | true =>
      have e := wrS_dk hcc
      have hin := wrAll_in _ _ _ hw
      have hl5 := limOk_wr (b := 0) (g := manJ D.2.2.2 a c b (nBl F)) h'.2.2.2.2.1
      generalize (wrAll b F (nBl F) 0 D).2 = D1 at *
      unfold DOk
      rw [e]
      obtain ⟨q1, q2, q3, q4, q5, q6, q7⟩ := h'
      have d0 : D1.2.2.2 0 = D.2.2.2 0 := ho 0 (by omega)
      have hq32 := h.1.2
      have dM : ∀ q, q < 32 → dput D1.2.2.2 (32 * 0) 32 (manJ D.2.2.2 a c b (nBl F)) q = manJ D.2.2.2 a c b (nBl F) q := by
        intro q hq
        unfold dput
        rw [if_pos (by omega)]
        rfl
      have dH : ∀ q, 32 ≤ q → dput D1.2.2.2 (32 * 0) 32 (manJ D.2.2.2 a c b (nBl F)) q = D1.2.2.2 q := by
        intro q hq
        unfold dput
        rw [if_neg (by omega)]
      have m0 : manJ D.2.2.2 a c b (nBl F) 0 = D.2.2.2 0 - 1 := rfl
      have m2 : manJ D.2.2.2 a c b (nBl F) (2 + 3 * a) = b := by
        unfold manJ; rw [if_neg (by omega), if_pos rfl]
      have m3 : manJ D.2.2.2 a c b (nBl F) (3 + 3 * a) = nBl F := by
        unfold manJ; rw [if_neg (by omega), if_neg (by omega), if_pos rfl]
      have mL : ∀ q, q ≠ 0 → q ≠ 2 + 3 * a → q ≠ 3 + 3 * a → q < 1 + 3 * c → manJ D.2.2.2 a c b (nBl F) q = D.2.2.2 q := by
        intro q a1 a2 a3 a4
        unfold manJ
        rw [if_neg a1, if_neg a2, if_neg a3, if_pos a4]
      have mR : ∀ q, 1 + 3 * c ≤ q → q + 3 < 29 → manJ D.2.2.2 a c b (nBl F) q = D.2.2.2 (q + 3) := by
        intro q a1 a2
        unfold manJ
        rw [if_neg (by omega), if_neg (by omega), if_neg (by omega), if_neg (by omega), if_pos (by omega), if_pos a2]
      refine ⟨⟨?_, ?_⟩, ?_, ⟨?_, ?_⟩, ?_, hl5, ?_, ?_⟩
      · intro q
        by_cases hq : q < 32
        · rw [dM q hq]
          have g0 := h.1.1 q
          have g3 := h.1.1 (q + 3)
          unfold manJ
          split
          · omega
          · split
            · omega
            · split
              · omega
              · split
                · omega
                · split
                  · split
                    · omega
                    · omega
                  · omega
        · rw [dH q (by omega)]; exact q1.1 q
      · rw [dH 32 (by omega)]; exact q1.2
      · intro i i1 i2
        rw [dH 32 (by omega)] at i1
        rw [dH _ (by omega)]
        exact q2 i i1 i2
      · rw [dM 0 (by omega), m0]; omega
      · intro i hi
        rw [dM 0 (by omega), m0] at hi
        rw [dM _ (by omega), dM _ (by omega)]
        by_cases hia : i = a
        · subst hia
          rw [m2, m3]; omega
        · by_cases hic : i < c
          · rw [mL _ (by omega) (by omega) (by omega) (by omega), mL _ (by omega) (by omega) (by omega) (by omega)]
            exact h.2.2.1.2 i (by omega)
          · rw [mR _ (by omega) (by omega), mR _ (by omega) (by omega)]
            have := h.2.2.1.2 (i + 1) (by omega)
            rw [show 2 + 3 * (i + 1) = 2 + 3 * i + 3 by omega, show 3 + 3 * (i + 1) = 3 + 3 * i + 3 by omega] at this
            exact this
      · intro i i1 i2
        rw [dM 0 (by omega), m0] at i1
        rw [dM i i2]
        unfold manJ
        rw [if_neg (by omega), if_neg (by omega), if_neg (by omega), if_neg (by omega)]
        split
        · split
          · exact h.2.2.2.1 (i + 3) (by omega) (by omega)
          · rfl
        · exact h.2.2.2.1 i (by omega) i2
      · intro i hi
        rw [dH 32 (by omega)] at hi
        rw [dH _ (by omega)]
        exact q6 i hi
      · intro i hi
        rw [dM 0 (by omega), m0] at hi
        by_cases hia : i = a
        · subst hia
          refine ⟨ra ++ rc, FOr.new (b := b) (s := fSch D.2.2.2 i) (n := fRec D.2.2.2 i + fRec D.2.2.2 c) (bts := dB D.2.2.2 (fAt D.2.2.2 i + 5) (fByt D.2.2.2 i) ++ dB D.2.2.2 (fAt D.2.2.2 c + 5) (fByt D.2.2.2 c)) (by rw [dM _ (by omega), m2]) ?_ fa1 (by rw [dM _ (by omega), m3, hbl]; exact hnb2) hrs hrl⟩
          rw [← hjb]
          intro j hj
          rw [dH _ (by omega)]
          exact hin j (by omega) (by unfold nBl; omega)
        · by_cases hic : i < c
          · obtain ⟨rs', hrs'⟩ := q7 i (by rw [d0]; omega)
            have hfa := fAt_lt q3 (show i < D1.2.2.2 0 by rw [d0]; omega)
            refine ⟨rs', hrs'.ren ?_ ?_ (fun q a1 a2 => dH q (by omega))⟩
            · rw [dM _ (by omega), mL _ (by omega) (by omega) (by omega) (by omega), ho _ (by omega)]
            · rw [dM _ (by omega), mL _ (by omega) (by omega) (by omega) (by omega), ho _ (by omega)]
          · obtain ⟨rs', hrs'⟩ := q7 (i + 1) (by rw [d0]; omega)
            have hfa := fAt_lt q3 (show i + 1 < D1.2.2.2 0 by rw [d0]; omega)
            refine ⟨rs', hrs'.ren ?_ ?_ (fun q a1 a2 => dH q (by omega))⟩
            · rw [dM _ (by omega), mR _ (by omega) (by omega), ho _ (by omega)]
              congr 1
            · rw [dM _ (by omega), mR _ (by omega) (by omega), ho _ (by omega)]
              congr 1
theorem DOk.reg {u s : Nat} (h : DOk T D) (hT : T.length ≤ 24) (hu : u < 256) (hs : s < T.length) (h10 : D.2.2.2 32 < 10) : DOk T (wrS D 1 (regB D.2.2.2 u s)).2 := by
  obtain ⟨q1, q2, q3, q4, q5, q6, q7⟩ := id h
  have hm9 := q3.1
  have hl5 := limOk_wr (b := 1) (g := regB D.2.2.2 u s) q5
  cases hc : (wrS D 1 (regB D.2.2.2 u s)).1 with
  | false =>
    have e := (wrS_no hc).1
    unfold DOk
    rw [e]
    exact ⟨q1, q2, q3, q4, hl5, q6, q7⟩
  | true =>
    have e := wrS_dk hc
    unfold DOk
    rw [e]
    have dM : ∀ q, q < 32 → dput D.2.2.2 (32 * 1) 32 (regB D.2.2.2 u s) (32 + q) = regB D.2.2.2 u s q := by
      intro q hq
      unfold dput
      rw [if_pos (by omega)]
      show regB D.2.2.2 u s (32 + q - 32) = _
      rw [Nat.add_sub_cancel_left]
    have dH : ∀ q, (q < 32 ∨ 64 ≤ q) → dput D.2.2.2 (32 * 1) 32 (regB D.2.2.2 u s) q = D.2.2.2 q := by
      intro q hq
      unfold dput
      rw [if_neg (by omega)]
    have m0 : dput D.2.2.2 (32 * 1) 32 (regB D.2.2.2 u s) 32 = D.2.2.2 32 + 1 := dM 0 (by omega)
    refine ⟨⟨?_, ?_⟩, ?_, ⟨?_, ?_⟩, ?_, hl5, ?_, ?_⟩
    · intro q
      by_cases hq : q < 32 ∨ 64 ≤ q
      · rw [dH q hq]; exact q1.1 q
      · rw [show q = 32 + (q - 32) by omega, dM _ (by omega)]
        have := q1.1 (32 + (q - 32))
        unfold regB
        split
        · omega
        · split
          · omega
          · split
            · omega
            · exact this
    · rw [m0]; omega
    · intro i i1 i2
      rw [m0] at i1
      rw [dM i i2]
      unfold regB
      rw [if_neg (by omega), if_neg (by omega), if_neg (by omega)]
      exact q2 i (by omega) i2
    · rw [dH 0 (by omega)]; exact q3.1
    · intro i hi
      rw [dH 0 (by omega)] at hi
      rw [dH _ (by omega), dH _ (by omega)]
      exact q3.2 i hi
    · intro i i1 i2
      rw [dH 0 (by omega)] at i1
      rw [dH i (by omega)]
      exact q4 i i1 i2
    · intro i hi
      rw [m0] at hi
      rw [show 34 + 2 * i = 32 + (2 + 2 * i) by omega, dM _ (by omega)]
      unfold regB
      rw [if_neg (by omega), if_neg (by omega)]
      by_cases hie : i = D.2.2.2 32
      · rw [if_pos (by omega)]; exact hs
      · rw [if_neg (by omega), show 32 + (2 + 2 * i) = 34 + 2 * i by omega]
        exact q6 i (by omega)
    · intro i hi
      rw [dH 0 (by omega)] at hi
      obtain ⟨rs, hrs⟩ := q7 i hi
      have hfa := fAt_lt q3 hi
      exact ⟨rs, hrs.congr (by omega) (fun q hq => dH q (by omega)) (fun q a1 a2 => dH q (by omega))⟩
end DJ
