/-! read: both sides. -/
theorem recsB_get {T : yT} {s : Nat} : ∀ (rs : List (List Int64)) (b : List Nat) (m : Nat), recsB T s rs b → m < rs.length → (rs.getD m []).length ≤ 24 ∧ ∃ b', encP T (rs.getD m []) 7 s 0 = some ((rs.getD m []).length, b') := by
  intro rs
  induction rs with
  | nil => intro b m _ h; simp at h
  | cons xs rs ih =>
    intro b m h hm
    obtain ⟨h1, b1, b2, h2, -, h3⟩ := h
    cases m with
    | zero => exact ⟨h1, b1, h2⟩
    | succ m => exact ih b2 m h3 (by simpa using hm)
def setF (W : yW) (o : List Int64) : yW := (W.1, W.2.1, W.2.2.1, W.2.2.2.1, W.2.2.2.2.1, o)
def readS (rsf : Nat → List (List Int64)) (u k s : Int32) (W : yW) : Int32 × yW := if W.2.2.1.1 then (match suOf u with
    | none => (-1, setF W [])
    | some uu => match scOf W.1 s with
      | none => (-1, setF W [])
      | some r => if rHas W.2.2.1.2.2.2 uu r (W.2.2.1.2.2.2 32) then (if k < 0 then (-1, setF W []) else match fetS W.2.2.1.2.2.2 uu (W.2.2.1.2.2.2 0) 0 k.toNatClampNeg with
          | none => (-1, setF W [])
          | some am => match resP W.1 ((rsf am.1).getD am.2 []) 14 (fSch W.2.2.1.2.2.2 am.1) r 0 with
            | none => (-2, setF W [])
            | some o => if o.length ≤ 40 then (nI o.length, setF W o) else (-3, setF W []))
        else (-1, setF W []))
  else (-4, setF W [])
section MR
variable {T : yT} {P : List yF} {D : yD} {xs xs0 fo : List Int64} {g0 : Nat × Nat × List Nat} {fu : Nat}
theorem Mo_resL (hT : TOk T) (hp : TPos T) (hxs : xs.length ≤ 24) (hfu : 500 ≤ fu) {N : Nat} (hN : 12 ≤ N) : ∀ (g : Nat) (tk : List tkT) (o : List Int64) (H : zH) (v : Nat → Int32), tkW T tk < g → TSt H v T P D xs0 g0 xs tk o → TkV T xs tk → o.length + 2 * tkW T tk + 5 < 1000000 →
    ∃ H', Fr H H' A5r ∧ (∀ a, tkR T xs N tk = some a → jL_Mo_resolve_17 fu g (some 24) H = some (nI (o ++ a).length, H') ∧ (o ++ a).length + 5 < 1000000 ∧ ∃ v', TSt H' v' T P D xs0 g0 xs [] (o ++ a)) ∧ (tkR T xs N tk = none → jL_Mo_resolve_17 fu g (some 24) H = some (-2, H') ∧ ∃ v', MRv H' v' (T, P, D, xs0, g0, [])) := by
  intro g
  induction g with
  | zero => intro tk o H v h; omega
  | succ g ih =>
    intro tk o H v hw h hV hl
    cases tk with
    | nil =>
      refine ⟨H, Fr.rf, fun a ha => ?_, fun q => by cases q⟩
      cases ha
      have hz : zgI H (some 24) 1 34 = some (nI 0) := h.z34
      rw [jL_Mo_resolve_17, hz, Option.bind_some, if_pos (show nI 0 ≤ 0 by decide), h.z35, Option.bind_some, List.append_nil]
      have hl0 : o.length + 2 * 0 + 5 < 1000000 := hl
      exact ⟨rfl, by omega, v, h⟩
    | cons t l =>
      obtain ⟨hvt, hVl⟩ := hV
      have hll : l.length + 1 ≤ 64 := by
        unfold tkv at hvt
        split at hvt
        · omega
        · omega
      have hw' : tkw T t + tkW T l < g + 1 := hw
      have hl' : o.length + 2 * (tkw T t + tkW T l) + 5 < 1000000 := hl
      have hz : zgI H (some 24) 1 34 = some (nI (l.length + 1)) := h.z34
      obtain ⟨h1, h2, h3, h4, ⟨f5, a5, b5⟩, ⟨f6, a6, b6, b7, b8, b9⟩⟩ := id h
      rw [jL_Mo_resolve_17, hz, Option.bind_some, if_neg (nI_nle (by omega) (by omega)), Option.bind_some, nI_pred, h1.m.set (by omega), Option.bind_some]
      have m1 := h1.m.new (w := va_up v 34 (nI l.length))
      generalize hH1 : zset H 24 (.inr (1, MoF (va_up v 34 (nI l.length)))) = H1 at m1
      have F1 : Fr H H1 (fun q => q = 24) := by rw [← hH1]; exact Fr.set rfl
      have r1 : TSt H1 (va_up v 34 (nI l.length)) T P D xs0 g0 xs l o := ⟨h1.scr F1 (fun q hq => by omega) m1 (vE.up (by omega)) (h1.2.2.2.2.2.2.fr F1 (fun q hq => by omega)), h2.fr F1 (by omega), zup_same, h4, ⟨f5, a5.fr F1 (by omega), b5⟩, ⟨f6, a6.fr F1 (by omega), b9⟩⟩
      have A6 := a6.fr F1 (show ¬ 45 = 24 by omega)
      have z1 : zaI H1 (some 45) 0 ((3 : Int32) * nI l.length) = some (tk1 t) := by rw [li3, pk_mul, ← b6]; exact qaI A6 (by omega) (by omega)
      have z2 : zaI H1 (some 45) 0 (((3 : Int32) * nI l.length) + (1 : Int32)) = some (tk2 t) := by rw [li3, pk_mul, nI_1, ← b7]; exact qaI A6 (by omega) (by omega)
      have z3 : zaI H1 (some 45) 0 (((3 : Int32) * nI l.length) + (2 : Int32)) = some (nI t.2) := by rw [li3, li2, pk_mul, nI_add, ← b8]; exact qaI A6 (by omega) (by omega)
      have F1' : Fr H H1 A5r := F1.up (fun q hq => Or.inl hq)
      rw [qgR m1 rfl, Option.bind_some, r1.z34, Option.bind_some, z1, Option.bind_some, Option.bind_some, Option.bind_some, z2, Option.bind_some, Option.bind_some, Option.bind_some, z3, Option.bind_some]
      obtain ⟨t0, tr⟩ := t
      cases t0 with
      | none =>
        obtain ⟨v1, v2, v3⟩ := hvt
        dsimp only at v1 v2 v3
        have hw1 : tkw T ((none : Option (Nat × Nat)), tr) = 1 := rfl
        obtain ⟨H2, u2, e1, e2, e3, e4⟩ := Mo_dflt r1 hT hp (by omega) v1 v2
        rw [show 3 * (tr / 3) + tr % 3 = tr by omega] at e1
        rw [if_neg (show ¬ (0 : Int32) ≤ tk1 (none, tr) by show ¬ (0 : Int32) ≤ -1; decide)]
        dsimp only
        rw [e1, Option.bind_some, tkR]
        obtain ⟨H3, f1, f2, f3⟩ := ih l _ H2 u2 (by omega) e2 hVl (by rw [List.length_append]; omega)
        refine ⟨H3, (F1'.tr e4).tr f1, fun a ha => ?_, fun hn => ?_⟩
        · obtain ⟨a', ha', rfl⟩ := Option.map_eq_some_iff.mp ha
          have := f2 a' ha'
          rw [List.append_assoc] at this
          exact this
        · refine f3 ?_
          have hn' : (tkR T xs N l).map (dfS T 7 ((fl T (tr / 3)).getD (tr % 3) yF0).2.1 ((fl T (tr / 3)).getD (tr % 3) yF0).2.2.2 ++ ·) = none := hn
          exact Option.map_eq_none_iff.mp hn'
      | some wp =>
        obtain ⟨w, p⟩ := wp
        have hvt' := hvt
        obtain ⟨q1, q2, q3, q4, q5⟩ := hvt
        dsimp only at q1 q2 q3 q4 q5
        have h24 := hT.1
        have hwt : tkw T (some (w, p), tr) = tF (dp T w + dp T tr) := rfl
        rw [if_pos (show (0 : Int32) ≤ tk1 (some (w, p), tr) from nI_pos' (by omega))]
        show ∃ H', Fr H H' A5r ∧ (∀ a, _ → ((jF_Mo_part fu (some 24) (nI w) (nI p) (nI tr) H1).bind _) = _ ∧ _) ∧ (_ → ((jF_Mo_part fu (some 24) (nI w) (nI p) (nI tr) H1).bind _) = _ ∧ _)
        have hO : tkO T xs N (some (w, p), tr) = resP T xs N w tr p := rfl
        rw [tkR, hO]
        rcases Mo_part (fu := fu) hT hp hxs hfu r1 hVl hvt' (by omega) hN with ⟨H2, v2, S, a, e1, e2, e3, e4, e5, e6, e7⟩ | ⟨H2, v2, e1, e2, e3, e4⟩
        · rw [e1, Option.bind_some, e4]
          dsimp only
          rw [if_neg (show ¬ (1 : Int32) = 0 by decide)]
          obtain ⟨H3, f1, f2, f3⟩ := ih (S ++ l) (o ++ a) H2 v2 (by rw [tkW_app]; omega) e2 e3 (by rw [List.length_append, tkW_app]; omega)
          rw [tkR_app] at f2 f3
          refine ⟨H3, (F1'.tr e7).tr f1, fun c hc => ?_, fun hn => ?_⟩
          · cases hS : tkR T xs N S with
            | none => rw [hS] at hc; cases hc
            | some y =>
              rw [hS] at hc f2
              dsimp only [Option.map_some] at hc
              obtain ⟨z, hz1, hz2⟩ := Option.map_eq_some_iff.mp hc
              have := f2 (y ++ z) (by rw [hz1]; rfl)
              rw [← hz2]
              rw [List.append_assoc] at this
              simp only [List.append_assoc] at this ⊢
              exact this
          · apply f3
            cases hS : tkR T xs N S with
            | none => rfl
            | some y =>
              rw [hS] at hn
              dsimp only [Option.map_some] at hn ⊢
              rw [Option.map_eq_none_iff] at hn ⊢
              exact hn
        · rw [e1, Option.bind_some, e3]
          dsimp only
          rw [if_pos rfl]
          exact ⟨H2, F1'.tr e4, fun c hc => (by cases hc), fun _ => ⟨rfl, v2, e2⟩⟩
theorem Mo_resolve {H : zH} {v : Nat → Int32} (hT : TOk T) (hp : TPos T) (hxs : xs.length ≤ 24) (hfu : 1100 ≤ fu) {N w r p' : Nat} {b : List Nat} (hN : 12 ≤ N) (hw : w < T.length) (hr : r < T.length) (henc : encP T xs 7 w 0 = some (p', b)) (h : MRv H v (T, P, D, xs0, g0, [])) (hV : MVal H xs) :
    ∃ H', Fr H H' A5r ∧ (∀ a, resP T xs N w r 0 = some a → jF_Mo_resolve fu (some 24) (nI w) (nI r) H = some (nI a.length, H') ∧ a.length + 5 < 1000000 ∧ ∃ v', TSt H' v' T P D xs0 g0 xs [] a) ∧ (resP T xs N w r 0 = none → jF_Mo_resolve fu (some 24) (nI w) (nI r) H = some (-2, H') ∧ ∃ v', MRv H' v' (T, P, D, xs0, g0, [])) := by
  obtain ⟨t1, t2, t3, -⟩ := hT.2 w hw
  obtain ⟨u1, u2, u3, -⟩ := hT.2 r hr
  unfold jF_Mo_resolve
  rw [qok h.m, Option.bind_some, h.m.set (by omega), Option.bind_some, (h.m.new).set (by omega), Option.bind_some]
  have m1 := h.m.new (w := va_up v 34 0) |>.new (w := va_up (va_up v 34 0) 35 0)
  generalize hH1 : zset (zset H 24 (.inr (1, MoF (va_up v 34 0)))) 24 (.inr (1, MoF (va_up (va_up v 34 0) 35 0))) = H1 at m1
  have F1 : Fr H H1 (fun q => q = 24) := by rw [← hH1]; exact (Fr.set (A := fun q => q = 24) rfl).tr (Fr.set (A := fun q => q = 24) rfl)
  have r1 : MRv H1 (va_up (va_up v 34 0) 35 0) (T, P, D, xs0, g0, []) := h.scr F1 (fun q hq => by omega) m1 ((vE.up (by omega)).tr (vE.up (by omega))) (h.2.2.2.2.2.2.fr F1 (fun q hq => by omega))
  obtain ⟨-, f40, a40, -⟩ := r1.2.2.2.2.2.1
  obtain ⟨f45, a45⟩ := r1.2.2.2.2.2.2.2.2.2.2
  have s1 : TSt H1 (va_up (va_up v 34 0) 35 0) T P D xs0 g0 xs [] [] := ⟨r1, hV.fr F1 (by omega), rfl, rfl, ⟨f40, a40, fun i hi => by simp at hi⟩, ⟨f45, a45, True.intro⟩⟩
  obtain ⟨H2, v2, e1, e2, e3⟩ := Mo_add (t := (some (w, 0), r)) s1 (by simp) rfl rfl rfl
  have e1' : jF_Mo_add (some 24) (nI w) 0 (nI r) H1 = some H2 := e1
  have hF : tF (dp T w + dp T r) ≤ 1093 := by
    have := tF_mono (12 - (dp T w + dp T r)) (dp T w + dp T r)
    rw [show dp T w + dp T r + (12 - (dp T w + dp T r)) = 12 by omega] at this
    have h12 : tF 12 = 1093 := by decide
    omega
  have hwk : tkW T [(some (w, 0), r)] = tF (dp T w + dp T r) := rfl
  obtain ⟨H3, f1, f2, f3⟩ := Mo_resL (fu := fu) hT hp hxs (by omega) hN fu [(some (w, 0), r)] [] H2 v2 (by rw [hwk]; omega) e2 ⟨⟨hw, hr, ⟨_, henc⟩, Nat.zero_le _, by show 0 + 1 + 3 * dp T r ≤ 64; omega⟩, True.intro⟩ (by rw [hwk]; show 0 + _ + 5 < _; omega)
  have hO : tkR T xs N [(some (w, 0), r)] = resP T xs N w r 0 := by
    unfold tkR tkR tkO
    dsimp only
    cases resP T xs N w r 0 <;> simp
  rw [hO] at f2 f3
  rw [e1', Option.bind_some]
  exact ⟨H3, ((F1.up (fun q hq => Or.inl hq)).tr e3).tr f1, f2, f3⟩
end MR
