/-! The other calls. -/
def limS (x : Int32) (W : yW) : Int32 × yW := if W.2.2.1.1 then (if x < 0 then (-1, W) else (0, W.1, W.2.1, (W.2.2.1.1, some x.toNatClampNeg, W.2.2.1.2.2), W.2.2.2)) else (-4, W)
def rstS (W : yW) : Int32 × yW := (bI (!W.2.2.1.1), W.1, W.2.1, (true, W.2.2.1.2), W.2.2.2)
def octS (a b : Int32) (W : yW) : Int32 := if a < 0 then -1 else if 40 ≤ a.toNatClampNeg then -1 else if b < 0 then -1 else if 32 ≤ b.toNatClampNeg then -1 else nI (W.2.2.1.2.2.2 (32 * a.toNatClampNeg + b.toNatClampNeg))
theorem le0_lt {k : Int32} (h : k < 0) : ¬ (0 : Int32) ≤ k := by
  rw [Int32.le_iff_toInt_le]
  rw [Int32.lt_iff_toInt_lt] at h
  have a : k.toInt < (0 : Int32).toInt := h
  intro b
  have b' : (0 : Int32).toInt ≤ k.toInt := b
  omega
section COc
variable {H H' : zH} {T T' : yT} {P P' : List yF} {D : yD} {xs fo : List Int64} {g : Nat × Nat × List Nat} {R R' : Nat → Nat} {fu : Nat}
theorem CRep.sch (h : CRep H (T, P, D, xs, g, fo) R) (hF : Fr H H' (fun q => q = 4 ∨ q = 5 ∨ q = 6)) (h' : SchemasAt H' T' P' R') : CRep H' (T', P', D, xs, g, fo) R' := by
  obtain ⟨h1, h2, h3, ⟨b8, h8⟩, ⟨b11, h11⟩, ⟨b13, h13⟩, h15, h16, h18, ⟨x20, h20⟩, h22⟩ := h
  exact ⟨h1.fr hF (by omega) (by omega) (by omega), h2.fr hF (by omega) (by omega), h', ⟨b8, h8.fr hF (by omega) (by omega)⟩, ⟨b11, h11.fr hF (by omega) (by omega)⟩, ⟨b13, h13.fr hF (by omega) (by omega)⟩, h15.fr hF (by omega), h16.fr hF (by omega) (by omega), h18.fr hF (by omega) (by omega), ⟨x20, h20.fr hF (by omega) (by omega)⟩, h22.fr hF (by omega) (by omega)⟩
theorem CRep.dsk {D' : yD} (h : CRep H (T, P, D, xs, g, fo) R) (hF : Fr H H' (fun q => q = 2)) (h' : DiskAt H' D') : CRep H' (T, P, D', xs, g, fo) R := by
  obtain ⟨-, -, -, ⟨b8, h8⟩, ⟨b11, h11⟩, ⟨b13, h13⟩, -⟩ := id h
  exact h.disk (hF.up (fun q hq => Or.inl hq)) h' ⟨b8, h8.fr hF (by omega) (by omega)⟩ ⟨b11, h11.fr hF (by omega) (by omega)⟩ ⟨b13, h13.fr hF (by omega) (by omega)⟩
theorem C_writes {W : yW} (h : CRep H W R) : jF_ST_writes (some 1) H = some (nI W.2.2.1.2.2.1) := by
  obtain ⟨h1, h2, -⟩ := h
  unfold jF_ST_writes
  rw [qok h1.1, Option.bind_some, qgR h1.1 rfl, Option.bind_some, qgI h2.1 rfl, Option.bind_some]
theorem C_octet {W : yW} (h : CRep H W R) {a b : Int32} : jF_ST_octet (some 1) a b H = some (octS a b W) := by
  obtain ⟨h1, h2, -⟩ := h
  unfold jF_ST_octet octS
  rw [qok h1.1, Option.bind_some]
  by_cases ha : a < 0
  · rw [if_pos ha, if_pos ha]
  · obtain ⟨m, hm, rfl⟩ := nI_of ha
    rw [if_neg ha, if_neg ha, nI_clamp hm, li40, if_leN (by omega) hm]
    by_cases h40 : 40 ≤ m
    · rw [if_pos h40, if_pos h40]
    · rw [if_neg h40, if_neg h40]
      by_cases hb : b < 0
      · rw [if_pos hb, if_pos hb]
      · obtain ⟨n, hn, rfl⟩ := nI_of hb
        rw [if_neg hb, if_neg hb, nI_clamp hn, li32, if_ltN hn (by omega)]
        by_cases h32 : n < 32
        · rw [if_pos h32, if_neg (by omega), qgR h1.1 rfl, Option.bind_some, jF_Disk_startOf, Option.bind_some, li32, pk_mul, nI_add, Disk_at h2 (by omega), Option.bind_some, dget, if_pos (by omega), Nat.mul_comm]
        · rw [if_neg h32, if_pos (by omega)]
theorem C_limit (h : CRep H (T, P, D, xs, g, fo) R) {x : Int32} : ∃ H', jF_ST_limit (some 1) x H = some ((limS x (T, P, D, xs, g, fo)).1, H') ∧ CRep H' (limS x (T, P, D, xs, g, fo)).2 R ∧ Fr H H' AC := by
  obtain ⟨h1, h2, -⟩ := id h
  unfold jF_ST_limit limS
  rw [qok h1.1, Option.bind_some, qgR h1.1 rfl, Option.bind_some, C_up h2, Option.bind_some, if_bI]
  dsimp only at *
  cases hup : D.1 with
  | false => exact ⟨H, rfl, h, Fr.rf⟩
  | true =>
    rw [if_pos rfl, if_pos rfl]
    by_cases hx : x < 0
    · rw [if_neg (le0_lt hx), if_pos hx]
      exact ⟨H, rfl, h, Fr.rf⟩
    · obtain ⟨n, hn, rfl⟩ := nI_of hx
      rw [if_pos (nI_pos' hn), if_neg hx, nI_clamp hn, Option.bind_some, qpV h2.1 (by simp), Option.bind_some]
      have F1 : Fr H (zset H 2 (.inr (3, ([zR (some 3), zI (bI D.1), zI (limI D.2.1), zI (nI D.2.2.1)] : List zV).set 2 (zI (nI n))))) (fun q => q = 2) := Fr.set rfl
      refine ⟨_, rfl, h.dsk F1 ⟨?_, ?_⟩, F1.up (fun q hq => by unfold AC; omega)⟩
      · rw [zgo_set_same h2.1, hup]; rfl
      · rw [zgo_set_ne (by decide)]; exact h2.2
theorem C_restart (h : CRep H (T, P, D, xs, g, fo) R) : ∃ H', jF_ST_restart (some 1) H = some ((rstS (T, P, D, xs, g, fo)).1, H') ∧ CRep H' (rstS (T, P, D, xs, g, fo)).2 R ∧ Fr H H' AC := by
  obtain ⟨h1, h2, -⟩ := id h
  have key : ∀ x : Bool, ∃ H', jJ_ST_restart_15 (bI x) (some 1) H = some (bI x, H') ∧ CRep H' (T, P, (true, D.2), xs, g, fo) R ∧ Fr H H' AC := by
    intro x
    unfold jJ_ST_restart_15
    rw [qgR h1.1 rfl, Option.bind_some, qpZ (Or.inr rfl) h2.1 (by simp), Option.bind_some, zbo_bI, Option.bind_some]
    have F1 : Fr H (zset H 2 (.inr (3, ([zR (some 3), zI (bI D.1), zI (limI D.2.1), zI (nI D.2.2.1)] : List zV).set 1 (zI 1)))) (fun q => q = 2) := Fr.set rfl
    refine ⟨_, rfl, h.dsk F1 ⟨?_, ?_⟩, F1.up (fun q hq => by unfold AC; omega)⟩
    · rw [zgo_set_same h2.1]; rfl
    · rw [zgo_set_ne (by decide)]; exact h2.2
  unfold jF_ST_restart rstS
  rw [qok h1.1, Option.bind_some, qgR h1.1 rfl, Option.bind_some, C_up h2, Option.bind_some, if_bI]
  dsimp only at *
  cases D.1 with
  | false => exact key true
  | true => exact key false
end COc
section MOc
variable {H : zH} {v : Nat → Int32} {T : yT} {P : List yF} {D : yD} {xs fo : List Int64} {g : Nat × Nat × List Nat} {fu : Nat}
theorem Mo_writes {W : yW} (h : MRv H v W) : jF_Mo_writes (some 24) H = some (nI W.2.2.1.2.2.1) := by
  unfold jF_Mo_writes
  have hz : zgI H (some 24) 1 15 = some (nI W.2.2.1.2.2.1) := by rw [← h.2.2.1.2.2.1]; exact qgI h.m rfl
  rw [qok h.m, Option.bind_some, hz, Option.bind_some]
theorem Mo_octet {W : yW} (h : MRv H v W) {a b : Int32} : jF_Mo_octet (some 24) a b H = some (octS a b W) := by
  unfold jF_Mo_octet octS jJ_Mo_octet_20
  rw [qok h.m, Option.bind_some]
  by_cases ha : a < 0
  · rw [if_pos ha, if_pos ha]
  · obtain ⟨m, hm, rfl⟩ := nI_of ha
    rw [if_neg ha, if_neg ha, nI_clamp hm, show (39 : Int32) = nI 39 from rfl, if_ltN (by omega) hm]
    by_cases h40 : 40 ≤ m
    · rw [if_pos (show 39 < m by omega), if_pos h40]
    · rw [if_neg (show ¬ 39 < m by omega), if_neg h40]
      by_cases hb : b < 0
      · rw [if_pos hb, if_pos hb]
      · obtain ⟨n, hn, rfl⟩ := nI_of hb
        rw [if_neg hb, if_neg hb, nI_clamp hn, li31, if_leN hn (by omega)]
        by_cases h32 : n < 32
        · rw [if_pos (show n ≤ 31 by omega), if_neg (show ¬ 32 ≤ n by omega), qgR h.m rfl, Option.bind_some, li32, pk_mul, nI_add, Mo_dk h.2.2.1 (by omega), Option.bind_some]
        · rw [if_neg (show ¬ n ≤ 31 by omega), if_pos (show 32 ≤ n by omega)]
theorem Mo_limit (h : MRv H v (T, P, D, xs, g, fo)) {x : Int32} : ∃ H', jF_Mo_limit (some 24) x H = some ((limS x (T, P, D, xs, g, fo)).1, H') ∧ MRep H' (limS x (T, P, D, xs, g, fo)).2 ∧ Fr H H' AM := by
  unfold jF_Mo_limit limS
  rw [qok h.m, Option.bind_some, M_up h, Option.bind_some, if_nbI]
  dsimp only at *
  cases hup : D.1 with
  | false => exact ⟨H, rfl, ⟨v, h⟩, Fr.rf⟩
  | true =>
    rw [if_pos rfl, if_pos rfl]
    by_cases hx : x < 0
    · rw [if_neg (le0_lt hx), if_pos hx]
      exact ⟨H, rfl, ⟨v, h⟩, Fr.rf⟩
    · obtain ⟨n, hn, rfl⟩ := nI_of hx
      rw [if_pos (nI_pos' hn), if_neg hx, nI_clamp hn, h.m.setZ (Or.inr rfl) (by omega), Option.bind_some, (h.m.new).set (by omega), Option.bind_some]
      have m1 := h.m.new (w := va_up v 17 1) |>.new (w := va_up (va_up v 17 1) 18 (nI n))
      generalize hH1 : zset (zset H 24 (.inr (1, MoF (va_up v 17 1)))) 24 (.inr (1, MoF (va_up (va_up v 17 1) 18 (nI n)))) = H1 at m1
      have F1 : Fr H H1 (fun q => q = 24) := by rw [← hH1]; exact (Fr.set (A := fun q => q = 24) rfl).tr (Fr.set (A := fun q => q = 24) rfl)
      obtain ⟨w1, w2, ⟨-, d2, d3, d4, d5, d6⟩, w4, w5, w6, w7⟩ := id h
      dsimp only at d2 d3 d4
      rw [hup] at d4
      refine ⟨H1, rfl, ⟨_, h.mk2 F1 (fun q hq => by omega) m1 rfl rfl ⟨m1, d2.fr F1 (by omega), d3, d4, rfl, fun k hk => ?_⟩ (w4.fr F1 (by omega) rfl) (w5.fr F1 (by omega) rfl rfl rfl) (w6.fr F1 (by omega) rfl) (w7.fr F1 (fun q hq => by omega))⟩, F1.up (fun q hq => by unfold AM; omega)⟩
      cases hk
      exact zup_same
theorem Mo_restart (h : MRv H v (T, P, D, xs, g, fo)) : ∃ H', jF_Mo_restart (some 24) H = some ((rstS (T, P, D, xs, g, fo)).1, H') ∧ MRep H' (rstS (T, P, D, xs, g, fo)).2 ∧ Fr H H' AM := by
  unfold jF_Mo_restart rstS
  rw [qok h.m, Option.bind_some, M_up h, Option.bind_some, if_nbI]
  dsimp only at *
  cases hup : D.1 with
  | true =>
    rw [if_pos rfl]
    refine ⟨H, rfl, ⟨v, ?_⟩, Fr.rf⟩
    have : (true, D.2) = D := by rw [← hup]
    rw [this]
    exact h
  | false =>
    rw [if_neg Bool.false_ne_true, h.m.setZ (Or.inl rfl) (by omega), Option.bind_some]
    have m1 := h.m.new (w := va_up v 16 0)
    generalize hH1 : zset H 24 (.inr (1, MoF (va_up v 16 0))) = H1 at m1
    have F1 : Fr H H1 (fun q => q = 24) := by rw [← hH1]; exact Fr.set rfl
    obtain ⟨w1, w2, ⟨-, d2, d3, d4, d5, d6⟩, w4, w5, w6, w7⟩ := id h
    exact ⟨H1, rfl, ⟨_, h.mk2 F1 (fun q hq => by omega) m1 rfl rfl ⟨m1, d2.fr F1 (by omega), d3, rfl, d5, d6⟩ (w4.fr F1 (by omega) rfl) (w5.fr F1 (by omega) rfl rfl rfl) (w6.fr F1 (by omega) rfl) (w7.fr F1 (fun q hq => by omega))⟩, F1.up (fun q hq => by unfold AM; omega)⟩
end MOc
-- what a run keeps
def SOk (T : yT) (g : Nat × Nat × List Nat) : Prop := g.2.1 ≤ 10 ∧ g.2.2.length ≤ 150 ∧ (0 < g.2.1 → g.1 < T.length) ∧ ∃ rs, recsB T g.1 rs g.2.2 ∧ rs.length = g.2.1
theorem SOk.nil {T : yT} {k : Nat} : SOk T (k, 0, []) := ⟨by show 0 ≤ 10; omega, by simp, fun h => (by cases h), [], rfl, rfl⟩
def WOk (W : yW) : Prop := TOk W.1 ∧ TEn W.1 ∧ TPos W.1 ∧ POk W.1 W.2.1 ∧ DOk W.1 W.2.2.1 ∧ W.2.2.2.1.length ≤ 24 ∧ SOk W.1 W.2.2.2.2.1 ∧ W.2.2.2.2.2.length ≤ 40 ∧ (W.2.2.1.1 = false → W.2.2.2.2.2 = [])
def yInv (H : zH) : Prop := ∃ W R, CRep H W R ∧ MRep H W ∧ WOk W ∧ 46 ≤ H.2
/-- a call of both sides: equal answers, and all is kept -/
def yStep (c m : zH → Option (Int32 × zH)) : Prop := ∀ H, yInv H → ∃ a H1 H2, c H = some (a, H1) ∧ m H1 = some (a, H2) ∧ yInv H2
def yStepR {α : Type} (c m : zH → Option α) : Prop := ∀ H, yInv H → ∃ a, c H = some a ∧ m H = some a
theorem yStep.of {c m : zH → Option (Int32 × zH)} {H : zH} {W W' : yW} {R' : Nat → Nat} {a : Int32} (hM : MRep H W) (h46 : 46 ≤ H.2) (hW : WOk W')
    (hc : ∃ H1, c H = some (a, H1) ∧ CRep H1 W' R' ∧ Fr H H1 AC) (hm : ∀ H1 v, MRv H1 v W → ∃ H2, m H1 = some (a, H2) ∧ MRep H2 W' ∧ Fr H1 H2 AM) : ∃ a H1 H2, c H = some (a, H1) ∧ m H1 = some (a, H2) ∧ yInv H2 := by
  obtain ⟨H1, e1, e2, e3⟩ := hc
  obtain ⟨v, hv⟩ := hM.fr e3 (fun q hq => by unfold AC at hq; omega)
  obtain ⟨H2, f1, f2, f3⟩ := hm H1 v hv
  refine ⟨a, H1, H2, e1, f1, W', R', e2.fr f3 (fun q hq => hq), f2, hW, ?_⟩
  have := e3.1
  have := f3.1
  omega
