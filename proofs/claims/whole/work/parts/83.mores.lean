/-! The reference resolves: the parts of a task. -/
def nxI (T : yT) (xs : List Int64) (it q : Nat) : Nat → Nat
  | 0 => q
  | j + 1 => bhP T xs it (nxI T xs it q j)
theorem nxI_ok {T : yT} {xs : List Int64} {it q p' c : Nat} {b : List Nat} (hql : q ≤ xs.length) (h : seqP (encP T xs 7) (List.replicate c it) q = some (p', b)) : ∀ j, j ≤ c → (∃ b', seqP (encP T xs 7) (List.replicate (c - j) it) (nxI T xs it q j) = some (p', b')) ∧ nxI T xs it q j ≤ xs.length := by
  intro j
  induction j with
  | zero => intro _; exact ⟨⟨b, h⟩, hql⟩
  | succ j ih =>
    intro hj
    obtain ⟨⟨b', h1⟩, h2⟩ := ih (by omega)
    rw [show c - j = (c - (j + 1)) + 1 by omega, List.replicate_succ] at h1
    obtain ⟨p1, b1, b2, q1, q2, rfl⟩ := seqP_cons h1
    have hb := encP_bd 7 _ _ _ _ h2 q1
    show (∃ b', seqP (encP T xs 7) (List.replicate (c - (j + 1)) it) (bhP T xs it (nxI T xs it q j)) = some (p', b')) ∧ bhP T xs it (nxI T xs it q j) ≤ xs.length
    rw [bhP_eq q1]
    exact ⟨⟨b2, q2⟩, hb.2.1⟩
theorem nxI_enc {T : yT} {xs : List Int64} {it q p' c : Nat} {b : List Nat} (hql : q ≤ xs.length) (h : seqP (encP T xs 7) (List.replicate c it) q = some (p', b)) {j : Nat} (hj : j < c) : ∃ b', encP T xs 7 it (nxI T xs it q j) = some (nxI T xs it q (j + 1), b') := by
  obtain ⟨⟨b', h1⟩, h2⟩ := nxI_ok hql h j (by omega)
  rw [show c - j = (c - (j + 1)) + 1 by omega, List.replicate_succ] at h1
  obtain ⟨p1, b1, b2, q1, q2, rfl⟩ := seqP_cons h1
  refine ⟨b1, ?_⟩
  show _ = some (bhP T xs it (nxI T xs it q j), b1)
  rw [bhP_eq q1]
  exact q1
/-- the tasks of the items from j on -/
def itT (T : yT) (xs : List Int64) (wi ri q : Nat) : Nat → Nat → List tkT
  | 0, _ => []
  | m + 1, j => (some (wi, nxI T xs wi q j), ri) :: itT T xs wi ri q m (j + 1)
theorem itT_len {T : yT} {xs : List Int64} {wi ri q : Nat} : ∀ (m j : Nat), (itT T xs wi ri q m j).length = m
  | 0, _ => rfl
  | m + 1, j => by show (itT T xs wi ri q m (j + 1)).length + 1 = _; rw [itT_len]
theorem itT_R {T : yT} {xs : List Int64} {N : Nat} {wi ri q : Nat} : ∀ (m j : Nat), tkR T xs N (itT T xs wi ri q m j) = itR (resP T xs N wi ri) (bhP T xs wi) m (nxI T xs wi q j) := by
  intro m
  induction m with
  | zero => intro j; rfl
  | succ m ih =>
    intro j
    rw [itT, tkR, itR, ih]
    rfl
theorem itT_W {T : yT} {xs : List Int64} {wi ri q : Nat} : ∀ (m j : Nat), tkW T (itT T xs wi ri q m j) = m * tF (dp T wi + dp T ri) := by
  intro m
  induction m with
  | zero => intro j; rw [Nat.zero_mul]; rfl
  | succ m ih =>
    intro j
    show tF (dp T wi + dp T ri) + tkW T (itT T xs wi ri q m (j + 1)) = _
    rw [ih, Nat.add_mul, Nat.one_mul, Nat.add_comm]
theorem flR_none {g : Nat → Option (List Int64)} {k : Nat} (hk : g k = none) : ∀ (m i : Nat), i ≤ k → k < i + m → flR g m i = none := by
  intro m
  induction m with
  | zero => intro i h1 h2; omega
  | succ m ih =>
    intro i h1 h2
    rw [flR]
    by_cases he : i = k
    · rw [he, hk]
    · rw [ih (i + 1) (by omega) (by omega)]
      cases g i <;> rfl
theorem nI_p1 {m : Nat} (hm : m < 2 ^ 31) : nI m - 1 < nI m := by
  cases m with
  | zero => decide
  | succ m => rw [nI_pred]; exact (nI_ltI (by omega) hm).mpr (by omega)
section MP
variable {T : yT} {P : List yF} {D : yD} {xs xs0 : List Int64} {g0 : Nat × Nat × List Nat} {fu : Nat}
abbrev k5I : Type := Option Nat → Int32 → Int32 → Int32 → Int32 → zH → Option zH
/-- the place of item a5, and its task -/
theorem Mo_itI {w r c q p' j : Nat} {b : List Nat} {a2 : Int32} {k15 : k5I} (hT : TOk T) (hp : TPos T) (hxs : xs.length ≤ 24) (hfu : 500 ≤ fu) (hw : w < T.length) (hr : r < T.length) (w5 : kd T w = 5) (r5 : kd T r = 5) (hql : q ≤ xs.length) (hq : seqP (encP T xs 7) (List.replicate c (sA T w)) q = some (p', b)) (hj : j < c) (hc : c ≤ 3) {tk : List tkT} {o : List Int64} (htl : tk.length < 64) :
    ∀ (m i g' : Nat) (H : zH) (v : Nat → Int32), i + m = j → m < g' → TSt H v T P D xs0 g0 xs tk o →
    ∃ H' v', jL_Mo_items_28 fu k15 g' (some 24) (nI w) a2 (nI r) (nI j) (nI (nxI T xs (sA T w) q i)) (nI i) H = k15 (some 24) (nI w) a2 (nI r) (nI j + (-1 : Int32)) H' ∧ TSt H' v' T P D xs0 g0 xs ((some (sA T w, nxI T xs (sA T w) q j), sA T r) :: tk) o ∧ Fr H H' A5r := by
  have t6 := (hT.2 w hw).2.2.2.2.2.1 w5
  have hpw := (hp w hw).1 w5
  have hpr := (hp r hr).1 r5
  intro m
  induction m with
  | zero =>
    intro i g' H v h1 h2 h
    obtain ⟨q', rfl⟩ : ∃ q, g' = q + 1 := ⟨g' - 1, by omega⟩
    have : i = j := by omega
    subst this
    have za : zaI H (some 27) 0 (nI w) = some (nI (sA T w)) := by rw [← pA_nI hpw]; exact h.1.1.a hT.1 hw
    have zb : zaI H (some 27) 0 (nI r) = some (nI (sA T r)) := by rw [← pA_nI hpr]; exact h.1.1.a hT.1 hr
    obtain ⟨H1, v1, e1, e2, e3⟩ := Mo_add (t := (some (sA T w, nxI T xs (sA T w) q i), sA T r)) h htl rfl rfl rfl
    have e1' : jF_Mo_add (some 24) (nI (sA T w)) (nI (nxI T xs (sA T w) q i)) (nI (sA T r)) H = some H1 := e1
    rw [jL_Mo_items_28, if_pos (nI_le (Nat.le_refl _) (by omega)), qgR h.1.m rfl, Option.bind_some, za, Option.bind_some, Option.bind_some, zb, Option.bind_some, e1', Option.bind_some]
    exact ⟨H1, v1, rfl, e2, e3⟩
  | succ m ih =>
    intro i g' H v h1 h2 h
    obtain ⟨q', rfl⟩ : ∃ q, g' = q + 1 := ⟨g' - 1, by omega⟩
    have za : zaI H (some 27) 0 (nI w) = some (nI (sA T w)) := by rw [← pA_nI hpw]; exact h.1.1.a hT.1 hw
    obtain ⟨b', hv⟩ := nxI_enc hql hq (show i < c by omega)
    have hvl := (nxI_ok hql hq i (by omega)).2
    have hbd := encP_bd 7 _ _ _ _ hvl hv
    obtain ⟨H1, e1, e2, e3⟩ := Mo_sp24 (fu := fu) h hT hp hxs hfu (show sA T w < T.length by omega) hv hvl
    obtain ⟨H2, v2, f1, f2, f3⟩ := ih (i + 1) q' H1 v (by omega) (by omega) e2
    rw [jL_Mo_items_28, if_neg (nI_ge (by omega) (by omega)), qgR h.1.m rfl, Option.bind_some, za, Option.bind_some, e1, Option.bind_some, nI_1, nI_add, Nat.add_sub_cancel' hbd.1]
    exact ⟨H2, v2, f1, f2, e3.tr f3⟩
theorem Mo_itL {w r c q p' : Nat} {b : List Nat} {a2 : Nat} (hT : TOk T) (hp : TPos T) (hxs : xs.length ≤ 24) (hfu : 500 ≤ fu) (hw : w < T.length) (hr : r < T.length) (w5 : kd T w = 5) (r5 : kd T r = 5) (hqe : q = a2 + 1) (hql : q ≤ xs.length) (hq : seqP (encP T xs 7) (List.replicate c (sA T w)) q = some (p', b)) (hc : c ≤ 3) {tk : List tkT} {o : List Int64} (htl : tk.length + 3 ≤ 64) :
    ∀ (m g' : Nat) (H : zH) (v : Nat → Int32), m ≤ c → m < g' → TSt H v T P D xs0 g0 xs (itT T xs (sA T w) (sA T r) q (c - m) m ++ tk) o →
    ∃ H' v', jL_Mo_items_15 fu g' (some 24) (nI w) (nI a2) (nI r) (nI m - 1) H = some H' ∧ TSt H' v' T P D xs0 g0 xs (itT T xs (sA T w) (sA T r) q c 0 ++ tk) o ∧ Fr H H' A5r := by
  intro m
  induction m with
  | zero =>
    intro g' H v h1 h2 h
    obtain ⟨q', rfl⟩ : ∃ q, g' = q + 1 := ⟨g' - 1, by omega⟩
    rw [jL_Mo_items_15, if_pos (show nI 0 - 1 < 0 by decide)]
    exact ⟨H, v, rfl, h, Fr.rf⟩
  | succ m ih =>
    intro g' H v h1 h2 h
    obtain ⟨q', rfl⟩ : ∃ q, g' = q + 1 := ⟨g' - 1, by omega⟩
    obtain ⟨H1, v1, e1, e2, e3⟩ := Mo_itI (fu := fu) (a2 := nI a2) (k15 := fun x0 x1 x2 x3 x4 x5 => jL_Mo_items_15 fu q' x0 x1 x2 x3 x4 x5) hT hp hxs hfu hw hr w5 r5 hql hq (show m < c by omega) hc (by rw [List.length_append, itT_len]; omega) m 0 fu H v (by omega) (by omega) h
    rw [jL_Mo_items_15, nI_pred, if_neg (nI_pos (by omega)), nI_1, ← hqe]
    have e1' : jL_Mo_items_28 fu (fun x0 x1 x2 x3 x4 x5 => jL_Mo_items_15 fu q' x0 x1 x2 x3 x4 x5) fu (some 24) (nI w) (nI a2) (nI r) (nI m) (nI q) 0 H = _ := e1
    rw [e1', nI_am1]
    obtain ⟨H2, v2, f1, f2, f3⟩ := ih q' H1 v1 (by omega) (by omega) (by
      rw [show c - m = (c - (m + 1)) + 1 by omega]
      exact e2)
    exact ⟨H2, v2, f1, f2, e3.tr f3⟩
theorem Mo_items {H : zH} {v : Nat → Int32} {w r c p p' : Nat} {b : List Nat} (hT : TOk T) (hp : TPos T) (hxs : xs.length ≤ 24) (hfu : 500 ≤ fu) (hw : w < T.length) (hr : r < T.length) (w5 : kd T w = 5) (r5 : kd T r = 5) (hpl : p < xs.length) (hx : xs.getD p 0 = lN c) (hq : seqP (encP T xs 7) (List.replicate c (sA T w)) (p + 1) = some (p', b)) (hc : c ≤ 3) {tk : List tkT} {o : List Int64} (htl : tk.length + 3 ≤ 64) (h : TSt H v T P D xs0 g0 xs tk o) :
    ∃ H' v', jF_Mo_items fu (some 24) (nI w) (nI p) (nI r) H = some H' ∧ TSt H' v' T P D xs0 g0 xs (itT T xs (sA T w) (sA T r) (p + 1) c 0 ++ tk) o ∧ Fr H H' A5r := by
  unfold jF_Mo_items
  rw [qok h.1.m, Option.bind_some, qgR h.1.m rfl, Option.bind_some, h.2.1.at hxs hpl, Option.bind_some, hx, lN_i]
  exact Mo_itL (fu := fu) hT hp hxs hfu hw hr w5 r5 rfl (by omega) hq hc htl c fu H v (Nat.le_refl _) (by omega) (by rw [Nat.sub_self]; exact h)
/-- the place of a field -/
theorem Mo_plL {w p p' j : Nat} {b : List Nat} (hT : TOk T) (hp : TPos T) (hxs : xs.length ≤ 24) (hfu : 500 ≤ fu) (hw : w < T.length) (hpl : p ≤ xs.length) (hq : seqP (encP T xs 7) (subs T w) p = some (p', b)) (hj : j < (fl T w).length) {tk : List tkT} {o : List Int64} :
    ∀ (m i g' : Nat) (H : zH) (v : Nat → Int32), i + m = j → m < g' → TSt H v T P D xs0 g0 xs tk o →
    ∃ H', jL_Mo_placeOf_8 fu g' (some 24) (nI (3 * w + j)) (nI (fpl T xs w p i)) (nI (3 * w + i)) H = some (nI (fpl T xs w p j), H') ∧ TSt H' v T P D xs0 g0 xs tk o ∧ Fr H H' A5r := by
  obtain ⟨t1, t2, t3, t4, t5, t6, t7, t8⟩ := hT.2 w hw
  have h24 := hT.1
  intro m
  induction m with
  | zero =>
    intro i g' H v h1 h2 h
    obtain ⟨q', rfl⟩ : ∃ q, g' = q + 1 := ⟨g' - 1, by omega⟩
    have : i = j := by omega
    subst this
    rw [jL_Mo_placeOf_8, if_pos (nI_le (Nat.le_refl _) (by omega))]
    exact ⟨H, rfl, h, Fr.rf⟩
  | succ m ih =>
    intro i g' H v h1 h2 h
    obtain ⟨q', rfl⟩ : ∃ q, g' = q + 1 := ⟨g' - 1, by omega⟩
    have hi : i < (fl T w).length := by omega
    have t8' := t8 i hi
    obtain ⟨⟨b', hv⟩, hvl⟩ := fpl_ok hpl hq hi
    have hbd := encP_bd 7 _ _ _ _ hvl hv
    have zs : zaI H (some 32) 0 (nI (3 * w + i)) = some (nI ((fl T w).getD i yF0).2.1) := h.1.1.fs h24 hw hi t4
    obtain ⟨H1, e1, e2, e3⟩ := Mo_sp24 (fu := fu) h hT hp hxs hfu (show ((fl T w).getD i yF0).2.1 < T.length by omega) hv hvl
    obtain ⟨H2, f1, f2, f3⟩ := ih (i + 1) q' H1 v (by omega) (by omega) e2
    rw [jL_Mo_placeOf_8, if_neg (nI_ge (by omega) (by omega)), qgR h.1.m rfl, Option.bind_some, zs, Option.bind_some, e1, Option.bind_some, nI_1, nI_add, Nat.add_sub_cancel' hbd.1]
    exact ⟨H2, f1, f2, e3.tr f3⟩
/-- what field i of the reader's record gives is what its task gives -/
def fdT (T : yT) (xs : List Int64) (w r p i : Nat) : Option tkT := match fOf (fl T w) ((fl T r).getD i yF0).1 (fl T w).length 0 with
  | none => if ((fl T r).getD i yF0).2.2.1 then some (none, 3 * r + i) else none
  | some j => some (some (((fl T w).getD j yF0).2.1, fpl T xs w p j), ((fl T r).getD i yF0).2.1)
theorem fdT_R {N w r p i : Nat} (hi : i < 3) : fdR T xs (resP T xs N) w r p i = (fdT T xs w r p i).bind (tkO T xs N) := by
  unfold fdR fdT tkO
  generalize resP T xs N = G
  cases fOf (fl T w) ((fl T r).getD i yF0).1 (fl T w).length 0 with
  | none =>
    dsimp only
    cases ((fl T r).getD i yF0).2.2.1 with
    | false => rfl
    | true =>
      rw [if_pos rfl, if_pos rfl]
      show _ = some (dfS T 7 ((fl T ((3 * r + i) / 3)).getD ((3 * r + i) % 3) yF0).2.1 ((fl T ((3 * r + i) / 3)).getD ((3 * r + i) % 3) yF0).2.2.2)
      rw [show (3 * r + i) / 3 = r by omega, show (3 * r + i) % 3 = i by omega]
  | some j => rfl
theorem Mo_orL {N w r p p' : Nat} {b : List Nat} (hT : TOk T) (hp : TPos T) (hxs : xs.length ≤ 24) (hfu : 500 ≤ fu) (hw : w < T.length) (hr : r < T.length) (hpl : p ≤ xs.length) (hq : seqP (encP T xs 7) (subs T w) p = some (p', b)) {tk : List tkT} {o : List Int64} (hv : TkV T xs tk) (htl : tk.length + 1 + 3 * dp T r ≤ 64) (hdw : 2 ≤ dp T w + dp T r) :
    ∀ (m g' : Nat) (S : List tkT) (H : zH) (v : Nat → Int32), m ≤ (fl T r).length → m < g' → S.length = (fl T r).length - m → tkR T xs N S = flR (fdR T xs (resP T xs N) w r p) ((fl T r).length - m) m → tkW T S ≤ ((fl T r).length - m) * tF (dp T w + dp T r - 2) → TkV T xs (S ++ tk) → TSt H v T P D xs0 g0 xs (S ++ tk) o →
    (∃ H' v' S', jL_Mo_ofRecord_14 fu g' (some 24) (nI w) (nI p) (nI r) (nI (3 * r + m) - 1) H = some (1, H') ∧ TSt H' v' T P D xs0 g0 xs (S' ++ tk) o ∧ TkV T xs (S' ++ tk) ∧ tkR T xs N S' = flR (fdR T xs (resP T xs N) w r p) (fl T r).length 0 ∧ tkW T S' ≤ (fl T r).length * tF (dp T w + dp T r - 2) ∧ Fr H H' A5r) ∨
    (∃ H' v', jL_Mo_ofRecord_14 fu g' (some 24) (nI w) (nI p) (nI r) (nI (3 * r + m) - 1) H = some (0, H') ∧ MRv H' v' (T, P, D, xs0, g0, []) ∧ flR (fdR T xs (resP T xs N) w r p) (fl T r).length 0 = none ∧ Fr H H' A5r) := by
  obtain ⟨t1, t2, t3, t4, t5, t6, t7, t8⟩ := hT.2 w hw
  obtain ⟨u1, u2, u3, u4, u5, u6, u7, u8⟩ := hT.2 r hr
  have h24 := hT.1
  intro m
  induction m with
  | zero =>
    intro g' S H v h1 h2 hS hR hW hV h
    obtain ⟨q', rfl⟩ : ∃ q, g' = q + 1 := ⟨g' - 1, by omega⟩
    left
    rw [Nat.sub_zero] at hR hW
    have hlt : nI (3 * r + 0) - 1 < nI (3 * r) := nI_p1 (m := 3 * r) (by omega)
    rw [jL_Mo_ofRecord_14, li3, pk_mul, if_pos hlt]
    exact ⟨H, v, S, rfl, h, hV, hR, hW, Fr.rf⟩
  | succ m ih =>
    intro g' S H v h1 h2 hS hR hW hV h
    obtain ⟨q', rfl⟩ : ∃ q, g' = q + 1 := ⟨g' - 1, by omega⟩
    have hm : m < (fl T r).length := by omega
    have u8' := u8 m hm
    have hnm : zaI H (some 31) 0 (nI (3 * r + m)) = some ((fl T r).getD m yF0).1 := h.1.1.fn h24 hr hm u4
    have hfo := Mo_fieldOf (fu := fu) (n := ((fl T r).getD m yF0).1) h.1.1 hT hw (by omega)
    have hst : flR (fdR T xs (resP T xs N) w r p) ((fl T r).length - m) m = match fdR T xs (resP T xs N) w r p m with
        | none => none
        | some a => (flR (fdR T xs (resP T xs N) w r p) ((fl T r).length - (m + 1)) (m + 1)).map (a ++ ·) := by
      rw [show (fl T r).length - m = ((fl T r).length - (m + 1)) + 1 by omega, flR]
      cases fdR T xs (resP T xs N) w r p m <;> rfl
    have hdT := fdT_R (T := T) (xs := xs) (N := N) (w := w) (r := r) (p := p) (i := m) (by omega)
    have hmul : ((fl T r).length - m) * tF (dp T w + dp T r - 2) = ((fl T r).length - (m + 1)) * tF (dp T w + dp T r - 2) + tF (dp T w + dp T r - 2) := by
      rw [show (fl T r).length - m = ((fl T r).length - (m + 1)) + 1 by omega, Nat.add_mul, Nat.one_mul]
    have hlen : (S ++ tk).length = (fl T r).length - (m + 1) + tk.length := by rw [List.length_append, hS]
    -- its task is there: go on
    have go : ∀ (t : tkT) (H1 : zH) (v1 : Nat → Int32), fdT T xs w r p m = some t → tkw T t ≤ tF (dp T w + dp T r - 2) → tkv T xs (S ++ tk).length t → TSt H1 v1 T P D xs0 g0 xs (t :: (S ++ tk)) o → Fr H H1 A5r →
        (∃ H' v' S', jL_Mo_ofRecord_14 fu q' (some 24) (nI w) (nI p) (nI r) (nI (3 * r + m) - 1) H1 = some (1, H') ∧ TSt H' v' T P D xs0 g0 xs (S' ++ tk) o ∧ TkV T xs (S' ++ tk) ∧ tkR T xs N S' = flR (fdR T xs (resP T xs N) w r p) (fl T r).length 0 ∧ tkW T S' ≤ (fl T r).length * tF (dp T w + dp T r - 2) ∧ Fr H H' A5r) ∨
        (∃ H' v', jL_Mo_ofRecord_14 fu q' (some 24) (nI w) (nI p) (nI r) (nI (3 * r + m) - 1) H1 = some (0, H') ∧ MRv H' v' (T, P, D, xs0, g0, []) ∧ flR (fdR T xs (resP T xs N) w r p) (fl T r).length 0 = none ∧ Fr H H' A5r) := by
      intro t H1 v1 ht hwt hvt h' F1
      rcases ih q' (t :: S) H1 v1 (by omega) (by omega) (by rw [List.length_cons, hS]; omega) (by
        rw [tkR, hst, hdT, ht, Option.bind_some, ← hR]
        cases tkO T xs N t <;> rfl) (by
        show tkw T t + tkW T S ≤ _
        rw [hmul]; omega) ⟨hvt, hV⟩ h' with ⟨H2, v2, S', f1, f2, f3, f4, f5, f6⟩ | ⟨H2, v2, f1, f2, f3, f4⟩
      · exact Or.inl ⟨H2, v2, S', f1, f2, f3, f4, f5, F1.tr f6⟩
      · exact Or.inr ⟨H2, v2, f1, f2, f3, F1.tr f4⟩
    rw [jL_Mo_ofRecord_14, show 3 * r + (m + 1) = 3 * r + m + 1 by omega, nI_pred, li3, pk_mul, if_ltN (by omega) (by omega), if_neg (by omega), qgR h.1.m rfl, Option.bind_some, hnm, Option.bind_some, hfo, Option.bind_some]
    unfold jJ_Mo_ofRecord_53
    cases hj : fOf (fl T w) ((fl T r).getD m yF0).1 (fl T w).length 0 with
    | none =>
      have hdf : zaI H (some 33) 1 (nI (3 * r + m)) = some (bI ((fl T r).getD m yF0).2.2.1) := h.1.1.fh h24 hr hm u4
      rw [show limI (Option.map (fun j => 3 * w + j) none) = (-1 : Int32) from rfl, if_neg (show ¬ (0 : Int32) ≤ -1 by decide), qgR h.1.m rfl, Option.bind_some, hdf, Option.bind_some, if_bI]
      cases hh : ((fl T r).getD m yF0).2.2.1 with
      | false =>
        right
        rw [if_neg Bool.false_ne_true]
        refine ⟨H, v, rfl, h.1, flR_none (k := m) ?_ _ 0 (by omega) (by omega), Fr.rf⟩
        unfold fdR
        rw [hj]
        dsimp only
        rw [hh, if_neg Bool.false_ne_true]
      | true =>
        rw [if_pos rfl, if_neg (show ¬ (0 : Int32) ≤ -1 by decide)]
        obtain ⟨H1, v1, e1, e2, e3⟩ := Mo_add (t := (none, 3 * r + m)) h (by omega) rfl rfl rfl
        have e1' : jF_Mo_add (some 24) (-1) 0 (nI (3 * r + m)) H = some H1 := e1
        rw [e1', Option.bind_some, nI_am1]
        dsimp only
        refine go (none, 3 * r + m) H1 v1 ?_ (tF_pos _) ?_ e2 e3
        · unfold fdT
          rw [hj]
          dsimp only
          rw [hh, if_pos rfl]
        · show (3 * r + m) / 3 < T.length ∧ (3 * r + m) % 3 < (fl T ((3 * r + m) / 3)).length ∧ (S ++ tk).length + 1 ≤ 64
          rw [show (3 * r + m) / 3 = r by omega, show (3 * r + m) % 3 = m by omega]
          exact ⟨hr, hm, by omega⟩
    | some j =>
      have hjl := fOf_lt _ _ _ hj
      have hj' : j < (fl T w).length := by omega
      have t8' := t8 j hj'
      obtain ⟨⟨b', hve⟩, hvl⟩ := fpl_ok hpl hq hj'
      have hlim : limI (Option.map (fun j => 3 * w + j) (some j)) = nI (3 * w + j) := rfl
      obtain ⟨H1, e1, e2, e3⟩ := Mo_plL (fu := fu) hT hp hxs hfu hw hpl hq hj' j 0 fu H v (by omega) (by omega) h
      have e1' : jL_Mo_placeOf_8 fu fu (some 24) (nI (3 * w + j)) (nI p) (nI (3 * w)) H = _ := e1
      have zs1 : zaI H1 (some 32) 0 (nI (3 * w + j)) = some (nI ((fl T w).getD j yF0).2.1) := e2.1.1.fs h24 hw hj' t4
      have zs2 : zaI H1 (some 32) 0 (nI (3 * r + m)) = some (nI ((fl T r).getD m yF0).2.1) := e2.1.1.fs h24 hr hm u4
      obtain ⟨H2, v2, f1, f2, f3⟩ := Mo_add (t := (some (((fl T w).getD j yF0).2.1, fpl T xs w p j), ((fl T r).getD m yF0).2.1)) e2 (by omega) rfl rfl rfl
      have f1' : jF_Mo_add (some 24) (nI ((fl T w).getD j yF0).2.1) (nI (fpl T xs w p j)) (nI ((fl T r).getD m yF0).2.1) H1 = some H2 := f1
      rw [hlim, if_pos (nI_pos' (by omega)), if_pos (nI_pos' (by omega))]
      unfold jF_Mo_placeOf
      rw [qok h.1.m, Option.bind_some, li3, pk_mul, e1', Option.bind_some]
      dsimp only
      rw [qgR e2.1.m rfl, Option.bind_some, zs1, Option.bind_some, Option.bind_some, zs2, Option.bind_some, f1', Option.bind_some, nI_am1]
      refine go (some (((fl T w).getD j yF0).2.1, fpl T xs w p j), ((fl T r).getD m yF0).2.1) H2 v2 ?_ ?_ ?_ f2 (e3.tr f3)
      · unfold fdT
        rw [hj]
      · show tF (dp T ((fl T w).getD j yF0).2.1 + dp T ((fl T r).getD m yF0).2.1) ≤ _
        have := tF_mono (dp T w + dp T r - 2 - (dp T ((fl T w).getD j yF0).2.1 + dp T ((fl T r).getD m yF0).2.1)) (dp T ((fl T w).getD j yF0).2.1 + dp T ((fl T r).getD m yF0).2.1)
        rw [show dp T ((fl T w).getD j yF0).2.1 + dp T ((fl T r).getD m yF0).2.1 + (dp T w + dp T r - 2 - (dp T ((fl T w).getD j yF0).2.1 + dp T ((fl T r).getD m yF0).2.1)) = dp T w + dp T r - 2 by omega] at this
        exact this
      · show ((fl T w).getD j yF0).2.1 < T.length ∧ ((fl T r).getD m yF0).2.1 < T.length ∧ (∃ r, encP T xs 7 ((fl T w).getD j yF0).2.1 (fpl T xs w p j) = some r) ∧ fpl T xs w p j ≤ xs.length ∧ (S ++ tk).length + 1 + 3 * dp T ((fl T r).getD m yF0).2.1 ≤ 64
        exact ⟨by omega, by omega, ⟨_, hve⟩, hvl, by omega⟩
end MP
