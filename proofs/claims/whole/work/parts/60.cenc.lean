/-! The class codes a row. -/
/-- where the coder works: schemas, the row at hand (18), the staged bytes (16) -/
def ECx (H : zH) (T : yT) (R : Nat → Nat) (xs : List Int64) (bs : List Nat) : Prop := SchT H T R ∧ RL H 18 24 xs ∧ BL H 16 390 bs
def EncR (H : zH) (bs : List Nat) (o : Option (Nat × List Nat)) (res : Option (Int32 × zH)) : Prop := ∃ H', Fr H H' (A2 16 17) ∧ (∀ r, o = some r → res = some (nI r.1, H') ∧ BL H' 16 390 (bs ++ r.2)) ∧ (o = none → res = some (-1, H') ∧ ∃ j, BL H' 16 390 (bs ++ j))
theorem EncR.yes {H H' : zH} {bs b : List Nat} {p : Nat} (hF : Fr H H' (A2 16 17)) (hB : BL H' 16 390 (bs ++ b)) : EncR H bs (some (p, b)) (some (nI p, H')) := ⟨H', hF, fun r hr => (by cases hr; exact ⟨rfl, hB⟩), fun h => (by cases h)⟩
theorem EncR.no {H H' : zH} {bs j : List Nat} (hF : Fr H H' (A2 16 17)) (hB : BL H' 16 390 (bs ++ j)) : EncR H bs none (some (-1, H')) := ⟨H', hF, fun r hr => (by cases hr), fun _ => ⟨rfl, j, hB⟩⟩
theorem EncR.no0 {H : zH} {bs : List Nat} (hB : BL H 16 390 bs) : EncR H bs none (some (-1, H)) := EncR.no (j := []) Fr.rf (by rw [List.append_nil]; exact hB)
theorem nI_m1 {p : Nat} (hp : p < 2 ^ 31) : ¬ nI p = -1 := by
  intro h
  have h1 := congrArg Int32.toInt h
  rw [nI_toInt hp, show ((-1 : Int32)).toInt = -1 by decide] at h1
  omega
section CE
variable {T : yT} {R : Nat → Nat} {xs : List Int64} {fu : Nat}
theorem ECx.fr {H H' : zH} {bs bs' : List Nat} (h : ECx H T R xs bs) (hF : Fr H H' (A2 16 17)) (hB : BL H' 16 390 bs') : ECx H' T R xs bs' := ⟨h.1.fr hF (fun q hq => by unfold A2 at hq; omega), h.2.1.fr hF (by unfold A2; omega) (by unfold A2; omega), hB⟩
abbrev rcT : Type := Option Nat → Option Nat → Int32 → Option Nat → zH → Option (Int32 × zH)
/-- the call of the coder for the schemas of a set -/
def RcOk (T : yT) (R : Nat → Nat) (xs : List Int64) (ok : Nat → Prop) (g : Nat → Nat → Option (Nat × List Nat)) (rc : rcT) : Prop := ∀ (q p : Nat) (H : zH) (bs : List Nat), ok q → p ≤ xs.length → ECx H T R xs bs → bs.length + 10 * (xs.length - p) ≤ 390 → EncR H bs (g q p) (rc (some (R q)) (some 18) (nI p) (some 16) H)
theorem C_encFm1 {s i g' : Nat} {rc : rcT} {H : zH} {bs : List Nat} (h : ECx H T R xs bs) (hs : s < T.length) (hl : (fl T s).length ≤ 3) (hi : i ≤ 3) : jL_Coder_encodeFields_6 fu rc (g' + 1) (some (R s)) (some 18) (some 16) (-1) (nI i) H = some (-1, H) := by
  obtain ⟨fa, gg, e1, e2, e3, e4⟩ := h.1.fs hs
  rw [jL_Coder_encodeFields_6, e1, Option.bind_some, e2, Option.bind_some, if_leN (by omega) (by omega), if_pos rfl]
  split <;> rfl
theorem C_encF {s : Nat} {rc : rcT} {g : Nat → Nat → Option (Nat × List Nat)} {ok : Nat → Prop} (hrc : RcOk T R xs ok g rc) (hxs : xs.length ≤ 24) (hbd : ∀ q p p' b, p ≤ xs.length → g q p = some (p', b) → p ≤ p' ∧ p' ≤ xs.length ∧ b.length ≤ 10 * (p' - p)) (hs : s < T.length) (hl : (fl T s).length ≤ 3) (hok : ∀ i, i < (fl T s).length → ok ((fl T s).getD i yF0).2.1) :
    ∀ (m i g' p : Nat) (H : zH) (bs : List Nat), i + m = (fl T s).length → m < g' → p ≤ xs.length → ECx H T R xs bs → bs.length + 10 * (xs.length - p) ≤ 390 → EncR H bs (seqP g (((fl T s).map fun y => y.2.1).drop i) p) (jL_Coder_encodeFields_6 fu rc g' (some (R s)) (some 18) (some 16) (nI p) (nI i) H) := by
  intro m
  induction m with
  | zero =>
    intro i g' p H bs h1 h2 hp h hr
    obtain ⟨q, rfl⟩ : ∃ q, g' = q + 1 := ⟨g' - 1, by omega⟩
    obtain ⟨fa, gg, e1, e2, e3, e4⟩ := h.1.fs hs
    rw [jL_Coder_encodeFields_6, e1, Option.bind_some, e2, Option.bind_some, if_pos (nI_le (by omega) (by omega)), List.drop_eq_nil_of_le (by rw [List.length_map]; omega), seqP]
    exact EncR.yes (b := []) Fr.rf (by rw [List.append_nil]; exact h.2.2)
  | succ m ih =>
    intro i g' p H bs h1 h2 hp h hr
    obtain ⟨q, rfl⟩ : ∃ q, g' = q + 1 := ⟨g' - 1, by omega⟩
    have hi : i < (fl T s).length := by omega
    obtain ⟨fa, gg, e1, e2, e3, e4⟩ := h.1.fs hs
    obtain ⟨ad, f1, f2, f3, f4, f5⟩ := e4.at e3 hl hi
    rw [jL_Coder_encodeFields_6, e1, Option.bind_some, e2, Option.bind_some, if_neg (nI_ge (by omega) (by omega)), if_neg (nI_m1 (by omega)), Option.bind_some, f1, Option.bind_some, f3, Option.bind_some, nI_1]
    have hd : ((fl T s).map fun y => y.2.1).drop i = ((fl T s).getD i yF0).2.1 :: ((fl T s).map fun y => y.2.1).drop (i + 1) := by
      rw [List.drop_eq_getElem_cons (by rw [List.length_map]; exact hi), List.getElem_map]
      simp [List.getD, List.getElem?_eq_getElem hi]
    rw [hd, seqP]
    obtain ⟨H1, F1, k1, k2⟩ := hrc _ p H bs (hok i hi) hp h hr
    cases hg : g ((fl T s).getD i yF0).2.1 p with
    | none =>
      obtain ⟨r1, j, r2⟩ := k2 hg
      rw [r1, Option.bind_some]
      obtain ⟨q', rfl⟩ : ∃ q', q = q' + 1 := ⟨q - 1, by omega⟩
      rw [C_encFm1 (h.fr F1 r2) hs hl (by omega)]
      exact EncR.no F1 r2
    | some r =>
      obtain ⟨r1, r2⟩ := k1 r hg
      obtain ⟨b1, b2, b3⟩ := hbd _ p r.1 r.2 hp hg
      rw [r1, Option.bind_some]
      obtain ⟨H2, F2, l1, l2⟩ := ih (i + 1) q r.1 H1 (bs ++ r.2) (by omega) (by omega) b2 (h.fr F1 r2) (by rw [List.length_append]; omega)
      dsimp only
      cases ht : seqP g (((fl T s).map fun y => y.2.1).drop (i + 1)) r.1 with
      | none =>
        obtain ⟨m1, j, m2⟩ := l2 ht
        rw [m1]
        exact EncR.no (j := r.2 ++ j) (F1.tr F2) (by rw [← List.append_assoc]; exact m2)
      | some t =>
        obtain ⟨m1, m2⟩ := l1 t ht
        rw [m1]
        exact EncR.yes (F1.tr F2) (by rw [← List.append_assoc]; exact m2)
/-- the end of an array -/
theorem C_enc0 {rc : rcT} {H0 H : zH} {bs b : List Nat} {p : Nat} (hF : Fr H0 H (A2 16 17)) (hB : BL H 16 390 (bs ++ b)) (hr : (bs ++ b).length < 390) : EncR H0 bs (some (p, b ++ [0])) (jJ_Coder_encodeItems_77 fu rc (some 16) (nI p) H) := by
  obtain ⟨H1, e1, e2, e3⟩ := hB.append (b := 0) (by omega) hr
  unfold jJ_Coder_encodeItems_77
  rw [li0, e1, Option.bind_some]
  exact EncR.yes (hF.tr e3) (by rw [← List.append_assoc]; exact e2)
theorem C_enc0m {rc : rcT} {H0 H : zH} {bs j : List Nat} (hF : Fr H0 H (A2 16 17)) (hB : BL H 16 390 (bs ++ j)) : EncR H0 bs none (jJ_Coder_encodeItems_77 fu rc (some 16) (-1) H) := by
  obtain ⟨H1, j', e1, e2, e3⟩ := hB.any (x := nI 0) (by omega) ⟨0, rfl⟩
  unfold jJ_Coder_encodeItems_77
  rw [li0, e1, Option.bind_some]
  exact EncR.no (j := j ++ j') (hF.tr e3) (by rw [← List.append_assoc]; exact e2)
theorem C_encI {it c : Nat} {rc : rcT} {g : Nat → Nat → Option (Nat × List Nat)} {ok : Nat → Prop} (hrc : RcOk T R xs ok g rc) (hxs : xs.length ≤ 24) (hbd : ∀ q p p' b, p ≤ xs.length → g q p = some (p', b) → p ≤ p' ∧ p' ≤ xs.length ∧ b.length ≤ 10 * (p' - p)) (hok : ok it) (hc : c ≤ 3) :
    ∀ (m i g' p : Nat) (H : zH) (bs : List Nat), i + m = c → m + 1 < g' → p ≤ xs.length → ECx H T R xs bs → bs.length + 10 * (xs.length - p) + 1 ≤ 390 → EncR H bs ((seqP g (List.replicate m it) p).map fun r => (r.1, r.2 ++ [0])) (jL_Coder_encodeItems_46 fu rc g' (some (R it)) (some 18) (some 16) (lN c) (nI p) (nI i) H) := by
  intro m
  induction m with
  | zero =>
    intro i g' p H bs h1 h2 hp h hr
    obtain ⟨q, rfl⟩ : ∃ q, g' = q + 1 := ⟨g' - 1, by omega⟩
    rw [jL_Coder_encodeItems_46, nI_l (by omega), if_pos ((lN_le (by omega) (by omega)).mpr (by omega))]
    exact C_enc0 (b := []) Fr.rf (by rw [List.append_nil]; exact h.2.2) (by rw [List.append_nil]; omega)
  | succ m ih =>
    intro i g' p H bs h1 h2 hp h hr
    obtain ⟨q, rfl⟩ : ∃ q, g' = q + 1 := ⟨g' - 1, by omega⟩
    rw [jL_Coder_encodeItems_46, nI_l (by omega), if_neg (fun hh => by have := (lN_le (by omega) (by omega)).mp hh; omega), if_neg (nI_m1 (by omega)), nI_1, List.replicate_succ, seqP]
    obtain ⟨H1, F1, k1, k2⟩ := hrc it p H bs hok hp h (by omega)
    cases hg : g it p with
    | none =>
      obtain ⟨r1, j, r2⟩ := k2 hg
      rw [r1, Option.bind_some]
      obtain ⟨q', rfl⟩ : ∃ q', q = q' + 1 := ⟨q - 1, by omega⟩
      have : jL_Coder_encodeItems_46 fu rc (q' + 1) (some (R it)) (some 18) (some 16) (lN c) (-1) (nI (i + 1)) H1 = jJ_Coder_encodeItems_77 fu rc (some 16) (-1) H1 := by
        rw [jL_Coder_encodeItems_46, if_pos rfl]
        split <;> rfl
      rw [this]
      exact C_enc0m F1 r2
    | some r =>
      obtain ⟨r1, r2⟩ := k1 r hg
      obtain ⟨b1, b2, b3⟩ := hbd _ p r.1 r.2 hp hg
      rw [r1, Option.bind_some]
      obtain ⟨H2, F2, l1, l2⟩ := ih (i + 1) q r.1 H1 (bs ++ r.2) (by omega) (by omega) b2 (h.fr F1 r2) (by rw [List.length_append]; omega)
      dsimp only
      cases ht : seqP g (List.replicate m it) r.1 with
      | none =>
        rw [ht] at l2
        obtain ⟨m1, j, m2⟩ := l2 rfl
        rw [m1]
        exact EncR.no (j := r.2 ++ j) (F1.tr F2) (by rw [← List.append_assoc]; exact m2)
      | some t =>
        rw [ht] at l1
        obtain ⟨m1, m2⟩ := l1 _ rfl
        rw [m1]
        exact EncR.yes (p := t.1) (b := r.2 ++ t.2 ++ [0]) (F1.tr F2) (by rw [List.append_assoc, ← List.append_assoc bs]; exact m2)
end CE
