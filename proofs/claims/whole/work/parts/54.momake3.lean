/-! The reference's make: the tables' loops. -/
theorem mkB_args {T : yT} {P : List yF} {k n a b : Int32} {x : yS} (hx : mkB T P k n a b = some x) : x.2.1 = n ∧ x.2.2.1 = a ∧ x.2.2.2.1 = b := by
  unfold mkB at hx
  split at hx
  · cases hx; exact ⟨rfl, rfl, rfl⟩
  · split at hx
    · split at hx
      · cases hx; exact ⟨rfl, rfl, rfl⟩
      · cases hx
    · split at hx
      · split at hx
        · cases hx
        · cases hx; exact ⟨rfl, rfl, rfl⟩
      · split at hx
        · split at hx
          · cases hx
          · split at hx
            · cases hx
            · split at hx
              · cases hx; exact ⟨rfl, rfl, rfl⟩
              · cases hx
        · split at hx
          · split at hx
            · cases hx; exact ⟨rfl, rfl, rfl⟩
            · cases hx
          · cases hx
section MM3
variable {v : Nat → Int32} {T : yT} {P : List yF} {fu s : Nat}
theorem MTb.mono {H : zH} {V V' : Nat → Nat → Prop} (h : MTb H T V) (hV : ∀ a b, V' a b → V a b) : MTb H T V' := by
  obtain ⟨⟨f, a, b⟩, g, c, d⟩ := h
  exact ⟨⟨f, a, fun r w q => b r w (hV r w q)⟩, g, c, fun r w q => d r w (hV r w q)⟩
theorem MTb.fr {H H' : zH} {V : Nat → Nat → Prop} {A : Nat → Prop} (h : MTb H T V) (hF : Fr H H' A) (h1 : ¬ A 35) (h2 : ¬ A 36) : MTb H' T V := by
  obtain ⟨⟨f, a, b⟩, g, c, d⟩ := h
  exact ⟨⟨f, a.fr hF h1, b⟩, g, c.fr hF h2, d⟩
theorem Mo_rowL (hT : TOk T) (hp : TPos T) (hs : T.length = s + 1) (hfu : 5 ≤ fu) : ∀ (m i g : Nat) (H : zH), i + m = s + 1 → m < g → MSB H v T P → MTb H T (fun a b => (a < s ∧ b ≤ s) ∨ (a = s ∧ b < i)) →
    ∃ H', jL_Mo_make_445 fu g (some 24) (nI s) (nI i) H = some (nI s, H') ∧ MSB H' v T P ∧ MTb H' T (fun a b => a ≤ s ∧ b ≤ s) ∧ Fr H H' (A2 35 36) := by
  have hl := hT.1
  intro m
  induction m with
  | zero =>
    intro i g H h1 h2 hM hB
    obtain ⟨q, rfl⟩ : ∃ q, g = q + 1 := ⟨g - 1, by omega⟩
    rw [jL_Mo_make_445, if_ltN (by omega) (by omega), if_pos (by omega)]
    exact ⟨H, rfl, hM, hB.mono (fun a b hab => by omega), Fr.rf⟩
  | succ m ih =>
    intro i g H h1 h2 hM hB
    obtain ⟨q, rfl⟩ : ∃ q, g = q + 1 := ⟨g - 1, by omega⟩
    rw [jL_Mo_make_445, if_ltN (by omega) (by omega), if_neg (by omega)]
    obtain ⟨H1, e1, e2, e3⟩ := Mo_compare (fu := fu) (r := s) (w := i) hM hB hT hp (by omega) (by omega) hfu (fun a b hab => by omega) (fun a b q1 q2 q3 => by omega)
    rw [e1, Option.bind_some, nI_1]
    obtain ⟨H2, f1, f2, f3, f4⟩ := ih (i + 1) q H1 (by omega) (by omega) (hM.fr e3 (fun q hq => by unfold A2 at hq; omega)) (e2.mono (fun a b hab => by unfold V1; omega))
    exact ⟨H2, f1, f2, f3, e3.tr f4⟩
theorem Mo_colL (hT : TOk T) (hp : TPos T) (hs : T.length = s + 1) (hfu : 30 ≤ fu) : ∀ (m i g : Nat) (H : zH), i + m = s → m < g → MSB H v T P → MTb H T (fun a b => (a < s ∧ b < s) ∨ (b = s ∧ a < i)) →
    ∃ H', jL_Mo_make_421 fu g (some 24) (nI s) (nI i) H = some (nI s, H') ∧ MSB H' v T P ∧ MTb H' T (fun a b => a ≤ s ∧ b ≤ s) ∧ Fr H H' (A2 35 36) := by
  have hl := hT.1
  intro m
  induction m with
  | zero =>
    intro i g H h1 h2 hM hB
    obtain ⟨q, rfl⟩ : ∃ q, g = q + 1 := ⟨g - 1, by omega⟩
    rw [jL_Mo_make_421, if_leN (by omega) (by omega), if_pos (by omega)]
    exact Mo_rowL hT hp hs (by omega) (s + 1) 0 fu H (by omega) (by omega) hM (hB.mono (fun a b hab => by omega))
  | succ m ih =>
    intro i g H h1 h2 hM hB
    obtain ⟨q, rfl⟩ : ∃ q, g = q + 1 := ⟨g - 1, by omega⟩
    rw [jL_Mo_make_421, if_leN (by omega) (by omega), if_neg (by omega)]
    obtain ⟨H1, e1, e2, e3⟩ := Mo_compare (fu := fu) (r := i) (w := s) hM hB hT hp (by omega) (by omega) (by omega) (fun a b hab => by omega) (fun a b q1 q2 q3 => by omega)
    rw [e1, Option.bind_some, nI_1]
    obtain ⟨H2, f1, f2, f3, f4⟩ := ih (i + 1) q H1 (by omega) (by omega) (hM.fr e3 (fun q hq => by unfold A2 at hq; omega)) (e2.mono (fun a b hab => by unfold V1; omega))
    exact ⟨H2, f1, f2, f3, e3.tr f4⟩
/-- the rows of fields while those of the new schema s are copied: j of them are there -/
def MFd (H : zH) (T : yT) (P : List yF) (s j : Nat) : Prop :=
  (∃ f, AI H 31 75 f ∧ (∀ q i, q < T.length → i < (fl T q).length → f (3 * q + i) = ((fl T q).getD i yF0).1) ∧ (∀ i, i < P.length → f (72 + i) = (P.getD i yF0).1) ∧ ∀ i, i < j → f (3 * s + i) = (P.getD i yF0).1) ∧
  (∃ f, AI H 32 75 f ∧ (∀ q i, q < T.length → i < (fl T q).length → f (3 * q + i) = nI ((fl T q).getD i yF0).2.1) ∧ (∀ i, i < P.length → f (72 + i) = nI (P.getD i yF0).2.1) ∧ ∀ i, i < j → f (3 * s + i) = nI (P.getD i yF0).2.1) ∧
  (∃ f, AZ H 33 75 f ∧ (∀ q i, q < T.length → i < (fl T q).length → f (3 * q + i) = bI ((fl T q).getD i yF0).2.2.1) ∧ (∀ i, i < P.length → f (72 + i) = bI (P.getD i yF0).2.2.1) ∧ ∀ i, i < j → f (3 * s + i) = bI (P.getD i yF0).2.2.1) ∧
  (∃ f, AJ H 34 75 f ∧ (∀ q i, q < T.length → i < (fl T q).length → f (3 * q + i) = ((fl T q).getD i yF0).2.2.2) ∧ (∀ i, i < P.length → f (72 + i) = (P.getD i yF0).2.2.2) ∧ ∀ i, i < j → f (3 * s + i) = (P.getD i yF0).2.2.2)
theorem fd_step {α : Type} {f : Nat → α} {G : yF → α} {i : Nat} (hT : TOk T) (hs : T.length = s) (h24 : s < 24) (hi : i < 3) (b : ∀ q i, q < T.length → i < (fl T q).length → f (3 * q + i) = G ((fl T q).getD i yF0)) (c : ∀ i, i < P.length → f (72 + i) = G (P.getD i yF0)) (d : ∀ j, j < i → f (3 * s + j) = G (P.getD j yF0)) (hP : i < P.length) :
    (∀ q j, q < T.length → j < (fl T q).length → va_up f (3 * s + i) (f (72 + i)) (3 * q + j) = G ((fl T q).getD j yF0)) ∧ (∀ j, j < P.length → va_up f (3 * s + i) (f (72 + i)) (72 + j) = G (P.getD j yF0)) ∧ ∀ j, j < i + 1 → va_up f (3 * s + i) (f (72 + i)) (3 * s + j) = G (P.getD j yF0) := by
  refine ⟨fun q j hq hj => ?_, fun j hj => ?_, fun j hj => ?_⟩
  · have := (hT.2 q hq).2.2.2.1
    rw [zup_ne (by omega)]; exact b q j hq hj
  · rw [zup_ne (by omega)]; exact c j hj
  · by_cases he : j = i
    · subst he; rw [zup_same]; exact c j hP
    · rw [zup_ne (by omega)]; exact d j (by omega)
theorem Mo_copyL (hT : TOk T) (hP : P.length ≤ 3) (hs : T.length = s) (h24 : s < 24) {k : Int32} {nf : Nat} (hnf : nf ≤ P.length) {f8 : Nat → Int32} (h8 : f8 s = nI nf) : ∀ (m i g : Nat) (H : zH), i + m = nf → m < g → MoAt H v → AI H 30 24 f8 → MFd H T P s i →
    ∃ H', jL_Mo_make_294 fu g (some 24) k (nI s) (nI i) H = (if k = 7 then jJ_Mo_make_415 fu 0 (some 24) (some 24) (nI s) H' else (zgI H' (some 24) 1 13).bind fun v412 => jJ_Mo_make_415 fu v412 (some 24) (some 24) (nI s) H') ∧ MFd H' T P s nf ∧ Fr H H' (fun q => 31 ≤ q ∧ q ≤ 34) := by
  intro m
  induction m with
  | zero =>
    intro i g H h1 h2 hM h30 hF
    obtain ⟨q, rfl⟩ : ∃ q, g = q + 1 := ⟨g - 1, by omega⟩
    rw [jL_Mo_make_294, qgR hM rfl, Option.bind_some, qaI h30 h24 (by omega), Option.bind_some, h8, if_pos (nI_le (by omega) (by omega))]
    have hi : i = nf := by omega
    rw [← hi]
    exact ⟨H, rfl, hF, Fr.rf⟩
  | succ m ih =>
    intro i g H h1 h2 hM h30 hF
    obtain ⟨q, rfl⟩ : ∃ q, g = q + 1 := ⟨g - 1, by omega⟩
    obtain ⟨⟨f9, a9, b9, c9, d9⟩, ⟨f10, a10, b10, c10, d10⟩, ⟨f11, a11, b11, c11, d11⟩, ⟨f12, a12, b12, c12, d12⟩⟩ := hF
    have hzb : f11 (72 + i) = 0 ∨ f11 (72 + i) = 1 := by
      rw [c11 i (by omega)]
      cases (P.getD i yF0).2.2.1
      · exact Or.inl rfl
      · exact Or.inr rfl
    rw [jL_Mo_make_294, qgR hM rfl, Option.bind_some, qaI h30 h24 (by omega), Option.bind_some, h8, if_neg (nI_ge (by omega) (by omega)), qgR hM rfl, Option.bind_some, Option.bind_some, li72, nI_add, li3, pk_mul, nI_add, qaI a9 (by omega) (by omega), Option.bind_some, qsI a9 (by omega) (by omega), Option.bind_some]
    generalize hH1 : zset H 31 (.inl (0, 75, .inl (va_up f9 (3 * s + i) (f9 (72 + i))))) = H1
    have F1 : Fr H H1 (fun q => q = 31) := by rw [← hH1]; exact Fr.set rfl
    have n9 : AI H1 31 75 (va_up f9 (3 * s + i) (f9 (72 + i))) := by rw [← hH1]; exact zgo_set_same a9
    have m1 := hM.fr F1 (by omega)
    have p10 := a10.fr F1 (by omega)
    rw [qgR m1 rfl, Option.bind_some, Option.bind_some, qaI p10 (by omega) (by omega), Option.bind_some, qsI p10 (by omega) (by omega), Option.bind_some]
    generalize hH2 : zset H1 32 (.inl (0, 75, .inl (va_up f10 (3 * s + i) (f10 (72 + i))))) = H2
    have F2 : Fr H1 H2 (fun q => q = 32) := by rw [← hH2]; exact Fr.set rfl
    have n10 : AI H2 32 75 (va_up f10 (3 * s + i) (f10 (72 + i))) := by rw [← hH2]; exact zgo_set_same p10
    have m2 := m1.fr F2 (by omega)
    have p11 := (a11.fr F1 (by omega)).fr F2 (by omega)
    rw [qgR m2 rfl, Option.bind_some, Option.bind_some, qaI p11 (by omega) (by omega), Option.bind_some, qsZ hzb p11 (by omega) (by omega), Option.bind_some]
    generalize hH3 : zset H2 33 (.inl (1, 75, .inl (va_up f11 (3 * s + i) (f11 (72 + i))))) = H3
    have F3 : Fr H2 H3 (fun q => q = 33) := by rw [← hH3]; exact Fr.set rfl
    have n11 : AZ H3 33 75 (va_up f11 (3 * s + i) (f11 (72 + i))) := by rw [← hH3]; exact zgo_set_same p11
    have m3 := m2.fr F3 (by omega)
    have p12 := ((a12.fr F1 (by omega)).fr F2 (by omega)).fr F3 (by omega)
    rw [qgR m3 rfl, Option.bind_some, Option.bind_some, qaL p12 (by omega) (by omega), Option.bind_some, qsL p12 (by omega) (by omega), Option.bind_some, nI_1]
    generalize hH4 : zset H3 34 (.inl (2, 75, .inr (.inl (va_up f12 (3 * s + i) (f12 (72 + i)))))) = H4
    have F4 : Fr H3 H4 (fun q => q = 34) := by rw [← hH4]; exact Fr.set rfl
    have n12 : AJ H4 34 75 (va_up f12 (3 * s + i) (f12 (72 + i))) := by rw [← hH4]; exact zgo_set_same p12
    have hF4 : MFd H4 T P s (i + 1) := by
      have s9 := fd_step (G := fun y => y.1) hT hs h24 (show i < 3 by omega) b9 c9 d9 (by omega)
      have s10 := fd_step (G := fun y => nI y.2.1) hT hs h24 (show i < 3 by omega) b10 c10 d10 (by omega)
      have s11 := fd_step (G := fun y => bI y.2.2.1) hT hs h24 (show i < 3 by omega) b11 c11 d11 (by omega)
      have s12 := fd_step (G := fun y => y.2.2.2) hT hs h24 (show i < 3 by omega) b12 c12 d12 (by omega)
      exact ⟨⟨_, ((n9.fr F2 (by omega)).fr F3 (by omega)).fr F4 (by omega), s9.1, s9.2.1, s9.2.2⟩, ⟨_, (n10.fr F3 (by omega)).fr F4 (by omega), s10.1, s10.2.1, s10.2.2⟩, ⟨_, n11.fr F4 (by omega), s11.1, s11.2.1, s11.2.2⟩, ⟨_, n12, s12.1, s12.2.1, s12.2.2⟩⟩
    have FF : Fr H H4 (fun q => 31 ≤ q ∧ q ≤ 34) := (((F1.up (fun q hq => by omega)).tr (F2.up (fun q hq => by omega))).tr (F3.up (fun q hq => by omega))).tr (F4.up (fun q hq => by omega))
    obtain ⟨H5, g1, g2, g3⟩ := ih (i + 1) q H4 (by omega) (by omega) (m3.fr F4 (by omega)) (h30.fr FF (by omega)) hF4
    exact ⟨H5, g1, g2, FF.tr g3⟩
end MM3
