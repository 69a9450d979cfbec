/-! read: the two calls; number. -/
theorem mRec_le {dk : Nat → Nat} (hd : dkOk dk) {u : Nat} : ∀ n, mRec dk u n ≤ 255 * n
  | 0 => Nat.le_refl _
  | n + 1 => by
    have := mRec_le hd (u := u) n
    have h2 := (fByt_lt hd n).2.1
    rw [mRec]
    split <;> omega
section CRd
variable {H : zH} {T : yT} {P : List yF} {D : yD} {xs fo : List Int64} {g : Nat × Nat × List Nat} {R : Nat → Nat} {fu : Nat} {rsf : Nat → List (List Int64)}
theorem C_read (h : CRep H (T, P, D, xs, g, fo) R) (hT : TOk T) (hE : TEn T) (hd : dkOk D.2.2.2) (hm : mOk D.2.2.2) (hr : ∀ i, i < D.2.2.2 0 → FOr T D.2.2.2 i (rsf i)) (hfu : 600 ≤ fu) {u k s : Int32} :
    ∃ H', jF_ST_read fu (some 1) u k s H = some ((readS rsf u k s (T, P, D, xs, g, fo)).1, H') ∧ CRep H' (readS rsf u k s (T, P, D, xs, g, fo)).2 R ∧ Fr H H' AC := by
  obtain ⟨h1, h2, h3, h8, h11, h13, h15, h16, h18, h20, h22⟩ := id h
  have h24 := hT.1
  unfold jF_ST_read readS
  obtain ⟨H1, e1, e2, e3⟩ := h22.clear
  have r1 := h.foun e3 e2
  obtain ⟨k1, k2, k3, -, -, -, -, -, -, k20, k22⟩ := id r1
  have E3 : Fr H H1 AC := e3.up (fun q hq => by unfold AC; omega)
  rw [qok h1.1, Option.bind_some, qgR h1.1 rfl, Option.bind_some, e1, Option.bind_some, qgR k1.1 rfl, Option.bind_some, C_up k2, Option.bind_some, if_bI]
  dsimp only at *
  cases D.1 with
  | false => exact ⟨H1, rfl, r1, E3⟩
  | true =>
    rw [if_pos rfl, if_pos rfl, qgR k1.1 rfl, Option.bind_some, C_find k3 h24, Option.bind_some, C_isSub, Option.bind_some, if_bI]
    cases hsu : suOf u with
    | none => exact ⟨H1, rfl, r1, E3⟩
    | some uu =>
      obtain ⟨hk, rfl⟩ := suOf_some hsu
      rw [show (some uu).isSome = true from rfl, if_pos rfl]
      dsimp only
      cases hsc : scOf T s with
      | none => exact ⟨H1, rfl, r1, E3⟩
      | some r =>
        obtain ⟨hrl, rfl⟩ := scOf_some hsc
        rw [if_neg (show ¬ (some r).map R = none by simp), qgR k1.1 rfl, Option.bind_some, Reg_has k1 k2 hd (by omega) (by omega) (by omega), Option.bind_some, if_bI]
        dsimp only
        cases hreg : rHas D.2.2.2 uu r (D.2.2.2 32) with
        | false => exact ⟨H1, rfl, r1, E3⟩
        | true =>
          rw [if_pos rfl, if_pos rfl, qgR k1.1 rfl, Option.bind_some, Option.bind_some, qgR k1.1 rfl, Option.bind_some]
          by_cases hk0 : k < 0
          · have hng : ¬ (0 : Int32) ≤ k := by
              rw [Int32.le_iff_toInt_le]
              rw [Int32.lt_iff_toInt_lt] at hk0
              have a : k.toInt < (0 : Int32).toInt := hk0
              intro b
              have b' : (0 : Int32).toInt ≤ k.toInt := b
              omega
            have hf : jF_Manifest_fetch fu (some 10) (nI uu) k (some 4) (some 20) H1 = some (none, H1) := by
              unfold jF_Manifest_fetch
              rw [qok k1.2.2, Option.bind_some, if_neg hng]
            rw [hf, Option.bind_some, if_pos rfl, if_pos hk0]
            exact ⟨H1, rfl, r1, E3⟩
          · obtain ⟨kk, hkk, rfl⟩ := nI_of hk0
            rw [if_neg hk0, nI_clamp hkk]
            obtain ⟨c1, c2⟩ := C_fetch (fu := fu) (rsf := rsf) hT hE k1 k2 k3 hd hm hr k20 (show uu < 256 by omega) hkk (by omega)
            cases hft : fetS D.2.2.2 uu (D.2.2.2 0) 0 kk with
            | none =>
              rw [c1 hft, Option.bind_some, if_pos rfl]
              exact ⟨H1, rfl, r1, E3⟩
            | some am =>
              obtain ⟨a, m⟩ := am
              have hlt := fetS_lt _ _ _ _ _ hft
              obtain ⟨q1, q2, q3, q4⟩ := hr a (by omega)
              obtain ⟨hx24, b', henc⟩ := recsB_get _ _ m q3 (by omega)
              obtain ⟨H2, f1, f2, f3⟩ := c2 a m hft
              have r2 := r1.fetc f3 ⟨_, f2⟩
              obtain ⟨l1, l2, l3, -, -, -, -, -, -, -, l22⟩ := id r2
              have E4 : Fr H H2 AC := E3.tr (f3.up (fun q hq => by unfold AC; omega))
              have hdw := (hT.2 _ q1).2.2.1
              have hdr := (hT.2 _ hrl).2.2.1
              have hwd : wd (dp T r) ≤ 485 := wd_mono (dp T r) 6 hdr
              obtain ⟨H3, o', g1, g2, g3, g4, g5⟩ := C_res (fu := fu) (R := R) hT hx24 (by omega) 14 (fSch D.2.2.2 a) r 0 _ b' H2 [] ⟨q1, hrl, by omega⟩ henc (Nat.zero_le _) ⟨l3.tab, f2, l22⟩ (by simp; omega)
              dsimp only at g1
              rw [List.nil_append] at g2
              have r3 := r2.foun g5 g2.2.2
              obtain ⟨j1, -, -, -, -, -, -, -, -, -, j22⟩ := id r3
              have E5 : Fr H H3 AC := E4.tr (g5.up (fun q hq => by unfold A22 at hq; unfold AC; omega))
              have g1' : jF_Resolver_resolve fu 14 (some (R (fSch D.2.2.2 a))) ((some r).map R) (some 20) 0 (some 22) H2 = _ := g1
              obtain ⟨H4, i1, i2, i3⟩ := j22.clear
              have r4 := r3.foun i3 i2
              have E6 : Fr H H4 AC := E5.tr (i3.up (fun q hq => by unfold AC; omega))
              rw [f1, Option.bind_some, if_neg (by simp)]
              dsimp only
              rw [qgR l1.1 rfl, Option.bind_some, qgR l1.1 rfl, Option.bind_some, g1', Option.bind_some]
              dsimp only
              have hJ : ∀ x : Int32, jJ_ST_read_125 fu (some 1) x H3 = if x = 0 then some (-2, H4) else some (-3, H4) := by
                intro x
                unfold jJ_ST_read_125
                rw [qgR j1.1 rfl, Option.bind_some, i1, Option.bind_some]
              rw [if_bI, hJ]
              cases hres : resP T ((rsf a).getD m []) 14 (fSch D.2.2.2 a) r 0 with
              | none =>
                exact ⟨H4, rfl, r4, E6⟩
              | some o =>
                have := g4 o hres
                subst this
                have hsz : zgI H3 (some 22) 7 1 = some (nI o'.length) := j22.size
                rw [if_pos (show (some o').isSome = true from rfl), qgR j1.1 rfl, Option.bind_some, hsz, Option.bind_some, li40, if_ltN (by omega) (by omega)]
                by_cases h40 : o'.length ≤ 40
                · rw [if_neg (show ¬ 40 < o'.length by omega), Option.bind_some, hsz, Option.bind_some]
                  dsimp only
                  rw [if_pos h40]
                  exact ⟨H3, rfl, r3, E5⟩
                · rw [if_pos (show 40 < o'.length by omega)]
                  dsimp only
                  rw [if_neg h40]
                  exact ⟨H4, rfl, r4, E6⟩
theorem C_number (h : CRep H (T, P, D, xs, g, fo) R) (hfo : fo.length ≤ 40) {i : Int32} : jF_ST_number (some 1) i H = some (if i < 0 then 0 else fo.getD i.toNatClampNeg 0) := by
  obtain ⟨h1, -, -, -, -, -, -, -, -, -, h22⟩ := h
  unfold jF_ST_number
  rw [qok h1.1, Option.bind_some, qgR h1.1 rfl, Option.bind_some]
  by_cases h0 : i < 0
  · rw [h22.neg (by dsimp only; omega) (by omega) h0, if_pos h0, Option.bind_some]
  · obtain ⟨n, hn, rfl⟩ := nI_of h0
    rw [if_neg h0, nI_clamp hn]
    dsimp only at h22
    by_cases h40 : n < 40
    · rw [h22.at (by omega) (by omega) h40, Option.bind_some]
    · obtain ⟨f, hf, hg⟩ := h22
      rw [Row_at hf (by omega) (by omega), Option.bind_some, rowGet, if_neg h0, nI_clamp hn, if_neg (by omega), getD_out (by omega)]
end CRd
section MRd
variable {H : zH} {v : Nat → Int32} {T : yT} {P : List yF} {D : yD} {xs fo : List Int64} {g : Nat × Nat × List Nat} {fu : Nat} {rsf : Nat → List (List Int64)}
theorem MRv.f26 {fo' : List Int64} (h : MRv H v (T, P, D, xs, g, fo)) {x : Int32} (hx : x = nI fo'.length) (hf : ∃ f, AJ H 40 40 f ∧ ∀ i, i < fo'.length → f i = fo'.getD i 0) : ∃ H', zpV H (some 24) 1 26 (zI x) = some H' ∧ MRv H' (va_up v 26 x) (T, P, D, xs, g, fo') ∧ Fr H H' (fun q => q = 24) := by
  have F1 : Fr H (zset H 24 (.inr (1, MoF (va_up v 26 x)))) (fun q => q = 24) := Fr.set rfl
  have m1 : MoAt (zset H 24 (.inr (1, MoF (va_up v 26 x)))) (va_up v 26 x) := h.m.new
  obtain ⟨w1, w2, w3, w4, w5, w6, w7⟩ := id h
  obtain ⟨f, a, b⟩ := hf
  exact ⟨_, h.m.set (by omega), h.mk2 F1 (fun q hq => by omega) m1 rfl rfl (w3.fr F1 (by omega) m1 rfl rfl rfl rfl) (w4.fr F1 (by omega) rfl) (w5.fr F1 (by omega) rfl rfl rfl) ⟨by rw [zup_same]; exact hx, f, a.fr F1 (by omega), b⟩ (w7.fr F1 (fun q hq => by omega)), F1⟩
theorem Mo_read (h : MRv H v (T, P, D, xs, g, fo)) (hT : TOk T) (hE : TEn T) (hp : TPos T) (hd : dkOk D.2.2.2) (hm : mOk D.2.2.2) (hr : ∀ i, i < D.2.2.2 0 → FOr T D.2.2.2 i (rsf i)) (hdn : D.1 = false → fo = []) (hfu : 1100 ≤ fu) {u k s : Int32} :
    ∃ H', jF_Mo_read fu (some 24) u k s H = some ((readS rsf u k s (T, P, D, xs, g, fo)).1, H') ∧ MRep H' (readS rsf u k s (T, P, D, xs, g, fo)).2 ∧ Fr H H' AM := by
  have h24 := hT.1
  have hm1 := hm.1
  unfold jF_Mo_read readS
  rw [qok h.m, Option.bind_some, M_up h, Option.bind_some, if_nbI]
  dsimp only at *
  cases hup : D.1 with
  | false =>
    refine ⟨H, rfl, ⟨v, ?_⟩, Fr.rf⟩
    have := hdn hup
    subst this
    exact h
  | true =>
    obtain ⟨-, f40, a40, -⟩ := id h.2.2.2.2.2.1
    obtain ⟨H1, e1, e2, e3⟩ := h.f26 (fo' := []) (x := 0) rfl ⟨f40, a40, fun i hi => by simp at hi⟩
    have E3 : Fr H H1 AM := e3.up (fun q hq => by unfold AM; omega)
    have no : ∃ H', some ((-1 : Int32), H1) = some (-1, H') ∧ MRep H' (T, P, D, xs, g, []) ∧ Fr H H' AM := ⟨H1, rfl, ⟨_, e2⟩, E3⟩
    rw [if_pos rfl, if_pos rfl, e1, Option.bind_some, Mo_noSub, Option.bind_some, if_bI]
    cases hsu : suOf u with
    | none => exact no
    | some uu =>
      obtain ⟨hk, rfl⟩ := suOf_some hsu
      rw [show (some uu).isNone = false from rfl, if_neg Bool.false_ne_true, Mo_noSchema e2.1 h24, Option.bind_some, if_bI]
      dsimp only
      cases hsc : scOf T s with
      | none => exact no
      | some r =>
        obtain ⟨hrl, rfl⟩ := scOf_some hsc
        rw [show (some r).isNone = false from rfl, if_neg Bool.false_ne_true, Mo_has e2.2.2.1 hd (by omega) (by omega) (by omega), Option.bind_some, if_bI]
        dsimp only
        cases hreg : rHas D.2.2.2 uu r (D.2.2.2 32) with
        | false => exact no
        | true =>
          rw [if_pos rfl, if_pos rfl]
          by_cases hk0 : k < 0
          · rw [if_pos hk0, if_pos hk0]
            exact no
          · obtain ⟨kk, hkk, rfl⟩ := nI_of hk0
            have hrec : jF_Mo_records fu (some 24) (nI uu) H1 = some (nI (mRec D.2.2.2 uu (D.2.2.2 0))) := by
              rw [Mo_records e2 hd hm (by omega)]
              unfold recS
              dsimp only
              rw [hup, if_pos rfl, hsu]
            have hml := mRec_le hd (u := uu) (D.2.2.2 0)
            have hfn := fetS_none (dk := D.2.2.2) (u := uu) (D.2.2.2 0) 0 kk
            rw [Nat.zero_add, show mRec D.2.2.2 uu 0 = 0 from rfl, Nat.add_zero] at hfn
            rw [if_neg hk0, if_neg hk0, hrec, Option.bind_some, nI_clamp hkk, if_ltN hkk (by omega)]
            cases hft : fetS D.2.2.2 uu (D.2.2.2 0) 0 kk with
            | none =>
              rw [if_neg (by have := hfn.mp hft; omega)]
              exact no
            | some am =>
              obtain ⟨a, m⟩ := am
              have hlt := fetS_lt _ _ _ _ _ hft
              obtain ⟨q1, q2, q3, q4⟩ := hr a (by omega)
              obtain ⟨hx24, b', henc⟩ := recsB_get _ _ m q3 (by omega)
              obtain ⟨H2, v2, f1, f2, f3, f4⟩ := Mo_fetch (fu := fu) hT hE hp e2 hd hm hr (show uu < 256 by omega) hkk (by omega) hft
              have E4 : Fr H H2 AM := E3.tr (f4.up (fun q hq => by unfold A3d at hq; unfold AM; omega))
              rw [if_pos (by
                by_cases hq : kk < mRec D.2.2.2 uu (D.2.2.2 0)
                · exact hq
                · have := hfn.mpr (by omega)
                  rw [hft] at this
                  cases this), f1, Option.bind_some]
              dsimp only
              obtain ⟨H3, g1, g2, g3⟩ := Mo_resolve (fu := fu) (N := 14) (r := r) hT hp hx24 hfu (by omega) q1 hrl henc f2 f3
              have E5 : Fr H H3 AM := E4.tr (g1.up (fun q hq => by unfold A5r at hq; unfold AM; omega))
              unfold jJ_Mo_read_84 jJ_Mo_read_90
              cases hres : resP T ((rsf a).getD m []) 14 (fSch D.2.2.2 a) r 0 with
              | none =>
                obtain ⟨g4, v3, g5⟩ := g3 hres
                obtain ⟨-, f40', a40', -⟩ := id g5.2.2.2.2.2.1
                obtain ⟨H4, i1, i2, i3⟩ := g5.f26 (fo' := []) (x := 0) rfl ⟨f40', a40', fun i hi => by simp at hi⟩
                rw [g4, Option.bind_some]
                dsimp only
                rw [if_neg (show ¬ (40 : Int32) < -2 by decide), if_neg (show ¬ (0 : Int32) ≤ -2 by decide), i1, Option.bind_some, if_pos (show (-2 : Int32) ≤ 40 by decide)]
                exact ⟨H4, rfl, ⟨_, i2⟩, E5.tr (i3.up (fun q hq => by unfold AM; omega))⟩
              | some o =>
                obtain ⟨g4, hob, v3, g5⟩ := g2 o hres
                obtain ⟨p1, p2, p3, p4, ⟨f7, a7, b7⟩, -⟩ := g5
                rw [g4, Option.bind_some]
                dsimp only
                have hol : o.length < 2 ^ 31 := by omega
                rw [li40, if_ltN (by omega) hol]
                by_cases h40 : o.length ≤ 40
                · obtain ⟨H4, i1, i2, i3⟩ := p1.f26 (fo' := o) (x := nI o.length) rfl ⟨f7, a7, fun i hi => b7 i hi (by omega)⟩
                  rw [if_neg (show ¬ 40 < o.length by omega), if_pos (nI_pos' hol), i1, Option.bind_some, if_leN hol (by omega), if_pos h40, if_pos h40]
                  exact ⟨H4, rfl, ⟨_, i2⟩, E5.tr (i3.up (fun q hq => by unfold AM; omega))⟩
                · obtain ⟨H4, i1, i2, i3⟩ := p1.f26 (fo' := []) (x := 0) rfl ⟨f7, a7, fun i hi => by simp at hi⟩
                  rw [if_pos (show 40 < o.length by omega), i1, Option.bind_some, if_leN hol (by omega), if_neg h40, if_neg h40]
                  exact ⟨H4, rfl, ⟨_, i2⟩, E5.tr (i3.up (fun q hq => by unfold AM; omega))⟩
theorem Mo_number (h : MRv H v (T, P, D, xs, g, fo)) (hfo : fo.length ≤ 40) {i : Int32} : jF_Mo_number (some 24) i H = some (if i < 0 then 0 else fo.getD i.toNatClampNeg 0) := by
  obtain ⟨h26, f, a, b⟩ := id h.2.2.2.2.2.1
  dsimp only at h26 b
  have hz : zgI H (some 24) 1 26 = some (nI fo.length) := by rw [← h26]; exact qgI h.m rfl
  unfold jF_Mo_number
  rw [qok h.m, Option.bind_some]
  by_cases h0 : i < 0
  · rw [if_pos h0, if_pos h0]
  · obtain ⟨n, hn, rfl⟩ := nI_of h0
    rw [if_neg h0, if_neg h0, hz, Option.bind_some, nI_clamp hn, if_leN (by omega) hn]
    by_cases hc : fo.length ≤ n
    · rw [if_pos hc, getD_out hc]
    · rw [if_neg hc, qgR h.m rfl, Option.bind_some, qaL a (by omega) (by omega), Option.bind_some, b n (by omega)]
end MRd
