/-! The reference resolves with a stack of tasks. -/
theorem itR_congr {g g' : Nat → Option (List Int64)} {nx : Nat → Nat} (h : ∀ q, g q = g' q) : ∀ m q, itR g nx m q = itR g' nx m q := by
  intro m
  induction m with
  | zero => intro q; rfl
  | succ m ih => intro q; rw [itR, itR, h q, ih]
theorem flR_congr {g g' : Nat → Option (List Int64)} {n : Nat} (h : ∀ i, i < n → g i = g' i) : ∀ m i, i + m ≤ n → flR g m i = flR g' m i := by
  intro m
  induction m with
  | zero => intro i _; rfl
  | succ m ih => intro i hi; rw [flR, flR, h i (by omega), ih (i + 1) (by omega)]
theorem resP_up {T : yT} {xs : List Int64} (hT : TOk T) : ∀ (f w r p : Nat), w < T.length → r < T.length → dp T w + dp T r ≤ f → resP T xs f w r p = resP T xs (f + 1) w r p := by
  intro f
  induction f with
  | zero => intro w r p hw hr hd; have := (hT.2 w hw).2.1; omega
  | succ f ih =>
    intro w r p hw hr hd
    obtain ⟨t1, t2, t3, t4, t5, t6, t7, t8⟩ := hT.2 w hw
    obtain ⟨u1, u2, u3, u4, u5, u6, u7, u8⟩ := hT.2 r hr
    rw [resP, resP]
    by_cases w6 : kd T w = 6
    · have t7' := t7 w6
      rw [if_pos w6, if_pos w6]
      exact ih _ r (p + 1) (by split <;> omega) hr (by split <;> omega)
    rw [if_neg w6, if_neg w6]
    by_cases r6 : kd T r = 6
    · have u7' := u7 r6
      rw [if_pos r6, if_pos r6]
      cases brS T 7 r w with
      | none => rfl
      | some b =>
        dsimp only
        rw [ih w (brT T r b) p hw (by unfold brT; split <;> omega) (by unfold brT; split <;> omega)]
    rw [if_neg r6, if_neg r6]
    cases hfit : fitK (kd T w) (kd T r) with
    | false => rfl
    | true =>
      have hf2 : kd T w = kd T r ∨ kd T w = 2 ∧ kd T r = 3 := by unfold fitK at hfit; exact of_decide_eq_true hfit
      rw [if_pos rfl, if_pos rfl]
      by_cases r0 : kd T r = 0
      · rw [if_pos r0, if_pos r0]
      rw [if_neg r0, if_neg r0]
      by_cases r4 : kd T r = 4
      · rw [if_pos r4, if_pos r4]
      rw [if_neg r4, if_neg r4]
      by_cases r5 : kd T r = 5
      · have t6' := t6 (by omega)
        have u6' := u6 r5
        rw [if_pos r5, if_pos r5, itR_congr (fun q => ih (sA T w) (sA T r) q (by omega) (by omega) (by omega))]
      rw [if_neg r5, if_neg r5]
      by_cases r7 : kd T r = 7
      · rw [if_pos r7, if_pos r7]
        by_cases hn : nm T w = nm T r
        · rw [if_pos hn, if_pos hn]
          refine flR_congr (n := (fl T r).length) (fun i hi => ?_) _ 0 (by omega)
          unfold fdR
          cases hj : fOf (fl T w) ((fl T r).getD i yF0).1 (fl T w).length 0 with
          | none => rfl
          | some j =>
            have := fOf_lt _ _ _ hj
            have h1 := t8 j (by omega)
            have h2 := u8 i hi
            exact ih _ _ _ (by omega) (by omega) (by omega)
        · rw [if_neg hn, if_neg hn]
      rw [if_neg r7, if_neg r7]
theorem resP_le {T : yT} {xs : List Int64} (hT : TOk T) {w r p : Nat} (hw : w < T.length) (hr : r < T.length) : ∀ (n f : Nat), dp T w + dp T r ≤ f → resP T xs f w r p = resP T xs (f + n) w r p := by
  intro n
  induction n with
  | zero => intro f _; rfl
  | succ n ih =>
    intro f hf
    rw [ih f hf, resP_up hT (f + n) w r p hw hr (by omega)]
    rfl
theorem resP_14 {T : yT} {xs : List Int64} (hT : TOk T) {w r p : Nat} (hw : w < T.length) (hr : r < T.length) : resP T xs 13 w r p = resP T xs 14 w r p := by
  have := (hT.2 w hw).2.2.1
  have := (hT.2 r hr).2.2.1
  exact resP_le hT hw hr 1 13 (by omega)
-- tasks
abbrev tkT : Type := Option (Nat × Nat) × Nat
def tk1 (t : tkT) : Int32 := match t.1 with
  | none => -1
  | some q => nI q.1
def tk2 (t : tkT) : Int32 := match t.1 with
  | none => 0
  | some q => nI q.2
def tF : Nat → Nat
  | 0 => 1
  | 1 => 1
  | n + 2 => 1 + max (tF (n + 1)) (3 * tF n)
theorem tF_up : ∀ n, tF n ≤ tF (n + 1)
  | 0 => Nat.le_refl _
  | n + 1 => by
    show tF (n + 1) ≤ 1 + max (tF (n + 1)) (3 * tF n)
    omega
theorem tF_mono : ∀ (k n : Nat), tF n ≤ tF (n + k)
  | 0, _ => Nat.le_refl _
  | k + 1, n => Nat.le_trans (tF_mono k n) (tF_up (n + k))
theorem tF_pos (n : Nat) : 1 ≤ tF n := by
  have := tF_mono n 0
  rw [Nat.zero_add] at this
  exact this
theorem tF_1 {a b : Nat} (ha : 1 ≤ a) (h : a < b) : tF a + 1 ≤ tF b := by
  obtain ⟨n, rfl⟩ : ∃ n, b = n + 2 := ⟨b - 2, by omega⟩
  have h1 := tF_mono (n + 1 - a) a
  rw [show a + (n + 1 - a) = n + 1 by omega] at h1
  show _ ≤ 1 + max (tF (n + 1)) (3 * tF n)
  omega
theorem tF_3 {a b : Nat} (h : a + 2 ≤ b) : 3 * tF a + 1 ≤ tF b := by
  obtain ⟨n, rfl⟩ : ∃ n, b = n + 2 := ⟨b - 2, by omega⟩
  have h1 := tF_mono (n - a) a
  rw [show a + (n - a) = n by omega] at h1
  show _ ≤ 1 + max (tF (n + 1)) (3 * tF n)
  omega
def tkw (T : yT) (t : tkT) : Nat := match t.1 with
  | none => 1
  | some q => tF (dp T q.1 + dp T t.2)
def tkW (T : yT) : List tkT → Nat
  | [] => 0
  | t :: l => tkw T t + tkW T l
theorem tkW_app {T : yT} : ∀ (a b : List tkT), tkW T (a ++ b) = tkW T a + tkW T b := by
  intro a
  induction a with
  | nil => intro b; show _ = 0 + _; rw [Nat.zero_add]; rfl
  | cons t a ih => intro b; show tkw T t + tkW T (a ++ b) = tkw T t + tkW T a + tkW T b; rw [ih, Nat.add_assoc]
/-- what a task gives -/
def tkO (T : yT) (xs : List Int64) (N : Nat) (t : tkT) : Option (List Int64) := match t.1 with
  | none => some (dfS T 7 ((fl T (t.2 / 3)).getD (t.2 % 3) yF0).2.1 ((fl T (t.2 / 3)).getD (t.2 % 3) yF0).2.2.2)
  | some q => resP T xs N q.1 t.2 q.2
def tkR (T : yT) (xs : List Int64) (N : Nat) : List tkT → Option (List Int64)
  | [] => some []
  | t :: l => match tkO T xs N t with
    | none => none
    | some a => (tkR T xs N l).map (a ++ ·)
theorem tkR_app {T : yT} {xs : List Int64} {N : Nat} {b : List tkT} : ∀ (a : List tkT), tkR T xs N (a ++ b) = match tkR T xs N a with
    | none => none
    | some x => (tkR T xs N b).map (x ++ ·) := by
  intro a
  induction a with
  | nil =>
    show tkR T xs N b = (tkR T xs N b).map (fun y => [] ++ y)
    cases tkR T xs N b <;> rfl
  | cons t a ih =>
    show (match tkO T xs N t with
      | none => none
      | some x => (tkR T xs N (a ++ b)).map (x ++ ·)) = _
    rw [tkR]
    cases tkO T xs N t with
    | none => rfl
    | some x =>
      dsimp only
      rw [ih]
      cases tkR T xs N a with
      | none => rfl
      | some y =>
        dsimp only
        cases tkR T xs N b with
        | none => rfl
        | some z => simp
def tkv (T : yT) (xs : List Int64) (n : Nat) (t : tkT) : Prop := match t.1 with
  | none => t.2 / 3 < T.length ∧ t.2 % 3 < (fl T (t.2 / 3)).length ∧ n + 1 ≤ 64
  | some q => q.1 < T.length ∧ t.2 < T.length ∧ (∃ r, encP T xs 7 q.1 q.2 = some r) ∧ q.2 ≤ xs.length ∧ n + 1 + 3 * dp T t.2 ≤ 64
def TkV (T : yT) (xs : List Int64) : List tkT → Prop
  | [] => True
  | t :: l => tkv T xs l.length t ∧ TkV T xs l
def TkA (f : Nat → Int32) : List tkT → Prop
  | [] => True
  | t :: l => f (3 * l.length) = tk1 t ∧ f (3 * l.length + 1) = tk2 t ∧ f (3 * l.length + 2) = nI t.2 ∧ TkA f l
theorem TkA.up {f : Nat → Int32} {i : Nat} {x : Int32} : ∀ (l : List tkT), TkA f l → 3 * l.length ≤ i → TkA (va_up f i x) l := by
  intro l
  induction l with
  | nil => intro _ _; exact True.intro
  | cons t l ih =>
    intro h hi
    have hi' : 3 * (l.length + 1) ≤ i := hi
    exact ⟨by rw [zup_ne (by omega)]; exact h.1, by rw [zup_ne (by omega)]; exact h.2.1, by rw [zup_ne (by omega)]; exact h.2.2.1, ih h.2.2.2 (by omega)⟩
abbrev A5r : Nat → Prop := fun q => q = 24 ∨ q = 40 ∨ q = 44 ∨ q = 45
section TS
variable {T : yT} {P : List yF} {D : yD} {xs xs0 : List Int64} {g0 : Nat × Nat × List Nat} {fu : Nat}
/-- the reference while it resolves: tasks, numbers given -/
def TSt (H : zH) (v : Nat → Int32) (T : yT) (P : List yF) (D : yD) (xs0 : List Int64) (g0 : Nat × Nat × List Nat) (xs : List Int64) (tk : List tkT) (o : List Int64) : Prop :=
  MRv H v (T, P, D, xs0, g0, []) ∧ MVal H xs ∧ v 34 = nI tk.length ∧ v 35 = nI o.length ∧ (∃ f, AJ H 40 40 f ∧ ∀ i, i < o.length → i < 40 → f i = o.getD i 0) ∧ (∃ f, AI H 45 192 f ∧ TkA f tk)
variable {H : zH} {v : Nat → Int32} {tk : List tkT} {o : List Int64}
theorem TSt.z34 (h : TSt H v T P D xs0 g0 xs tk o) : zgI H (some 24) 1 34 = some (nI tk.length) := by rw [← h.2.2.1]; exact qgI h.1.m rfl
theorem TSt.z35 (h : TSt H v T P D xs0 g0 xs tk o) : zgI H (some 24) 1 35 = some (nI o.length) := by rw [← h.2.2.2.1]; exact qgI h.1.m rfl
/-- scratch of the span -/
theorem TSt.sp (h : TSt H v T P D xs0 g0 xs tk o) {H' : zH} (hF : Fr H H' (fun q => q = 44)) (hS : ∃ l, MSt H' T l) : TSt H' v T P D xs0 g0 xs tk o := by
  obtain ⟨h1, h2, h3, h4, ⟨f5, a5, b5⟩, ⟨f6, a6, b6⟩⟩ := h
  obtain ⟨l, hS⟩ := hS
  exact ⟨h1.st hF hS, h2.fr hF (by omega), h3, h4, ⟨f5, a5.fr hF (by omega), b5⟩, ⟨f6, a6.fr hF (by omega), b6⟩⟩
theorem Mo_g1 (h : TSt H v T P D xs0 g0 xs tk o) (hl : o.length < 1000000) {x : Int64} : ∃ H' v', jF_Mo_give1 (some 24) x H = some H' ∧ TSt H' v' T P D xs0 g0 xs tk (o ++ [x]) ∧ Fr H H' A5r := by
  have hz := h.z35
  obtain ⟨h1, h2, h3, h4, ⟨f5, a5, b5⟩, ⟨f6, a6, b6⟩⟩ := id h
  have key : ∀ (K : zH) (f : Nat → Int64), TSt K v T P D xs0 g0 xs tk o → AJ K 40 40 f → (∀ i, i < o.length + 1 → i < 40 → f i = (o ++ [x]).getD i 0) → ∃ H' v', jJ_Mo_give1_19 (some 24) K = some H' ∧ TSt H' v' T P D xs0 g0 xs tk (o ++ [x]) ∧ Fr K H' A5r := by
    intro K f hK aK bK
    unfold jJ_Mo_give1_19
    rw [hK.z35, Option.bind_some, nI_1, hK.1.m.set (by omega), Option.bind_some]
    have F1 : Fr K (zset K 24 (.inr (1, MoF (va_up v 35 (nI (o.length + 1)))))) (fun q => q = 24) := Fr.set rfl
    refine ⟨_, va_up v 35 (nI (o.length + 1)), rfl, ⟨hK.1.scr F1 (fun q hq => by omega) hK.1.m.new (vE.up (by omega)) (hK.1.2.2.2.2.2.2.fr F1 (fun q hq => by omega)), hK.2.1.fr F1 (by omega), ?_, ?_, ⟨f, aK.fr F1 (by omega), fun i hi => bK i (by rw [List.length_append] at hi; exact hi)⟩, ?_⟩, F1.up (fun q hq => Or.inl hq)⟩
    · show v 34 = _
      exact h3
    · rw [zup_same, List.length_append]; rfl
    · obtain ⟨-, -, -, -, -, ⟨f7, a7, b7⟩⟩ := hK
      exact ⟨f7, a7.fr F1 (by omega), b7⟩
  unfold jF_Mo_give1
  rw [qok h1.m, Option.bind_some, hz, Option.bind_some, li40, if_leN (by omega) (by omega)]
  by_cases hc : 40 ≤ o.length
  · rw [if_pos hc]
    exact key H f5 h a5 (fun i hi h40 => by rw [getD_left (by omega)]; exact b5 i (by omega) h40)
  · rw [if_neg hc, qgR h1.m rfl, Option.bind_some, Option.bind_some, qsL a5 (by omega) (by omega), Option.bind_some]
    have F1 : Fr H (zset H 40 (.inl (2, 40, .inr (.inl (va_up f5 o.length x))))) (fun q => q = 40) := Fr.set rfl
    have a1 : AJ (zset H 40 (.inl (2, 40, .inr (.inl (va_up f5 o.length x))))) 40 40 (va_up f5 o.length x) := zgo_set_same a5
    obtain ⟨w1, w2, w3, w4, w5, w6, w7⟩ := id h1
    have r1 : MRv (zset H 40 (.inl (2, 40, .inr (.inl (va_up f5 o.length x))))) v (T, P, D, xs0, g0, []) := h1.mk2 F1 (fun q hq => by omega) (h1.m.fr F1 (by omega)) rfl rfl (w3.fr F1 (by omega) (h1.m.fr F1 (by omega)) rfl rfl rfl rfl) (w4.fr F1 (by omega) rfl) (w5.fr F1 (by omega) rfl rfl rfl) ⟨w6.1, _, a1, fun i hi => by simp at hi⟩ (w7.fr F1 (fun q hq => by omega))
    obtain ⟨H2, v2, e1, e2, e3⟩ := key _ _ ⟨r1, h2.fr F1 (by omega), h3, h4, ⟨_, a1, fun i hi h40 => by rw [zup_ne (by omega)]; exact b5 i hi h40⟩, ⟨f6, a6.fr F1 (by omega), b6⟩⟩ a1 (fun i hi h40 => by
      rw [getD_snoc _ _ _ _ hi]
      by_cases hio : i = o.length
      · rw [if_pos hio, hio, zup_same]
      · rw [if_neg hio, zup_ne hio]; exact b5 i (by omega) h40)
    exact ⟨H2, v2, e1, e2, (F1.up (fun q hq => Or.inr (Or.inl hq))).tr e3⟩
theorem Mo_add (h : TSt H v T P D xs0 g0 xs tk o) (hl : tk.length < 64) {t : tkT} {a1 a2 a3 : Int32} (h1 : a1 = tk1 t) (h2 : a2 = tk2 t) (h3 : a3 = nI t.2) : ∃ H' v', jF_Mo_add (some 24) a1 a2 a3 H = some H' ∧ TSt H' v' T P D xs0 g0 xs (t :: tk) o ∧ Fr H H' A5r := by
  have hz := h.z34
  obtain ⟨r1, r2, r3, r4, ⟨f5, a5, b5⟩, ⟨f6, a6, b6⟩⟩ := id h
  subst h1; subst h2; subst h3
  have st : ∀ (K : zH) (f : Nat → Int32) (i : Nat) (x : Int32), TSt K v T P D xs0 g0 xs tk o → AI K 45 192 f → TkA f tk → 3 * tk.length ≤ i → i < 192 → ∃ K', zsI K (some 45) 0 (nI i) x = some K' ∧ TSt K' v T P D xs0 g0 xs tk o ∧ AI K' 45 192 (va_up f i x) ∧ TkA (va_up f i x) tk ∧ Fr K K' (fun q => q = 45) := by
    intro K f i x hK aK tK hi1 hi2
    have F1 : Fr K (zset K 45 (.inl (0, 192, .inl (va_up f i x)))) (fun q => q = 45) := Fr.set rfl
    have a1 : AI (zset K 45 (.inl (0, 192, .inl (va_up f i x)))) 45 192 (va_up f i x) := zgo_set_same aK
    obtain ⟨k1, k2, k3, k4, ⟨f7, a7, b7⟩, -⟩ := hK
    exact ⟨_, qsI aK hi2 (by omega), ⟨k1.scr F1 (fun q hq => by omega) (k1.m.fr F1 (by omega)) vE.rf (k1.2.2.2.2.2.2.any F1 (fun q => by omega) (fun q => by omega) (fun q => by omega) (fun q => by omega) (fun _ => ⟨_, a1⟩)), k2.fr F1 (by omega), k3, k4, ⟨f7, a7.fr F1 (by omega), b7⟩, ⟨_, a1, TkA.up tk tK hi1⟩⟩, a1, TkA.up tk tK hi1, F1⟩
  obtain ⟨H1, e1, e2, e3, e4, e5⟩ := st H f6 (3 * tk.length) (tk1 t) h a6 b6 (Nat.le_refl _) (by omega)
  obtain ⟨H2, i1, i2, i3, i4, i5⟩ := st H1 _ (3 * tk.length + 1) (tk2 t) e2 e3 e4 (by omega) (by omega)
  obtain ⟨H3, j1, j2, j3, j4, j5⟩ := st H2 _ (3 * tk.length + 2) (nI t.2) i2 i3 i4 (by omega) (by omega)
  unfold jF_Mo_add
  rw [qok r1.m, Option.bind_some, qgR r1.m rfl, Option.bind_some, hz, Option.bind_some, li3, pk_mul, e1, Option.bind_some, qgR e2.1.m rfl, Option.bind_some, e2.z34, Option.bind_some, pk_mul, nI_1, i1, Option.bind_some, qgR i2.1.m rfl, Option.bind_some, i2.z34, Option.bind_some, pk_mul, li2, nI_add, j1, Option.bind_some, j2.z34, Option.bind_some, nI_1, j2.1.m.set (by omega), Option.bind_some]
  have F4 : Fr H3 (zset H3 24 (.inr (1, MoF (va_up v 34 (nI (tk.length + 1)))))) (fun q => q = 24) := Fr.set rfl
  obtain ⟨k1, k2, k3, k4, ⟨f7, a7, b7⟩, -⟩ := id j2
  refine ⟨_, va_up v 34 (nI (tk.length + 1)), rfl, ⟨k1.scr F4 (fun q hq => by omega) k1.m.new (vE.up (by omega)) (k1.2.2.2.2.2.2.fr F4 (fun q hq => by omega)), k2.fr F4 (by omega), zup_same, k4, ⟨f7, a7.fr F4 (by omega), b7⟩, ⟨_, j3.fr F4 (by omega), ?_, ?_, ?_, j4⟩⟩, (((e5.tr i5).tr j5).up (fun q hq => Or.inr (Or.inr (Or.inr hq)))).tr (F4.up (fun q hq => Or.inl hq))⟩
  · rw [zup_ne (by omega), zup_ne (by omega), zup_same]
  · rw [zup_ne (by omega), zup_same]
  · rw [zup_same]
/-- the span of a value that is there -/
theorem Mo_sp24 (h : TSt H v T P D xs0 g0 xs tk o) (hT : TOk T) (hp : TPos T) (hxs : xs.length ≤ 24) (hfu : 500 ≤ fu) {s p p' : Nat} {b : List Nat} (hs : s < T.length) (he : encP T xs 7 s p = some (p', b)) (hpl : p ≤ xs.length) : ∃ H', jF_Mo_span fu (some 24) (nI s) (nI p) (24 : Int32) H = some (nI (p' - p), H') ∧ TSt H' v T P D xs0 g0 xs tk o ∧ Fr H H' A5r := by
  obtain ⟨r1, ⟨f, a, c⟩, -⟩ := id h
  have hlen : ((List.range 24).map f).length = 24 := by simp
  have hget : ∀ i, i < 24 → ((List.range 24).map f).getD i 0 = f i := by
    intro i hi
    simp [List.getD, List.getElem?_map, List.getElem?_range hi]
  have he' := encP_ext (xs := xs) (ys := (List.range 24).map f) (by omega) (fun i hi => by rw [hget i (by omega), c i hi]) 7 s p _ he
  have hbd := encP_bd 7 s p p' b hpl he
  obtain ⟨f4, a4⟩ := r1.2.2.2.2.2.2.2.2.2.1
  obtain ⟨H1, e1, e2, e3⟩ := Mo_span (fu := fu) (xs := (List.range 24).map f) (fr := p) hT hp (by omega) hfu hs (by omega) r1.1 ⟨f, a, fun i hi => by rw [hget i (by omega)]⟩ ⟨[], f4, a4, True.intro⟩
  rw [hlen, he'] at e1
  have e1' : jF_Mo_span fu (some 24) (nI s) (nI p) 24 H = some (nI p' - nI p, H1) := e1
  rw [pk_sub hbd.1] at e1'
  exact ⟨H1, e1', h.sp e3 e2, e3.up (fun q hq => Or.inr (Or.inr (Or.inl hq)))⟩
end TS
