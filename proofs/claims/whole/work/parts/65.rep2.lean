/-! What both sides keep: one row of the heap changed at a time. -/
abbrev AC : Nat → Prop := fun q => q ≤ 23
abbrev AM : Nat → Prop := fun q => 24 ≤ q ∧ q ≤ 45
section CU
variable {H H' : zH} {T : yT} {P : List yF} {D : yD} {xs fo : List Int64} {g : Nat × Nat × List Nat} {R : Nat → Nat}
theorem CRep.fr {W : yW} {A : Nat → Prop} (h : CRep H W R) (hF : Fr H H' A) (hA : ∀ q, A q → 24 ≤ q ∧ q ≤ 45) : CRep H' W R := by
  obtain ⟨h1, h2, h3, ⟨b8, h8⟩, ⟨b11, h11⟩, ⟨b13, h13⟩, h15, h16, h18, ⟨x20, h20⟩, h22⟩ := h
  have n : ∀ q, q < 24 → ¬ A q := fun q hq ha => by have := hA q ha; omega
  exact ⟨h1.fr hF (n _ (by omega)) (n _ (by omega)) (n _ (by omega)), h2.fr hF (n _ (by omega)) (n _ (by omega)), h3.fr hF (fun q hq => by have := hA q hq; omega) (n _ (by omega)) (n _ (by omega)) (n _ (by omega)), ⟨b8, h8.fr hF (n _ (by omega)) (n _ (by omega))⟩, ⟨b11, h11.fr hF (n _ (by omega)) (n _ (by omega))⟩, ⟨b13, h13.fr hF (n _ (by omega)) (n _ (by omega))⟩, h15.fr hF (n _ (by omega)), h16.fr hF (n _ (by omega)) (n _ (by omega)), h18.fr hF (n _ (by omega)) (n _ (by omega)), ⟨x20, h20.fr hF (n _ (by omega)) (n _ (by omega))⟩, h22.fr hF (n _ (by omega)) (n _ (by omega))⟩
theorem CRep.row {xs' : List Int64} (h : CRep H (T, P, D, xs, g, fo) R) (hF : Fr H H' (fun q => q = 18 ∨ q = 19)) (h' : RL H' 18 24 xs') : CRep H' (T, P, D, xs', g, fo) R := by
  obtain ⟨h1, h2, h3, ⟨b8, h8⟩, ⟨b11, h11⟩, ⟨b13, h13⟩, h15, h16, h18, ⟨x20, h20⟩, h22⟩ := h
  exact ⟨h1.fr hF (by omega) (by omega) (by omega), h2.fr hF (by omega) (by omega), h3.fr hF (fun q hq => by omega) (by omega) (by omega) (by omega), ⟨b8, h8.fr hF (by omega) (by omega)⟩, ⟨b11, h11.fr hF (by omega) (by omega)⟩, ⟨b13, h13.fr hF (by omega) (by omega)⟩, h15.fr hF (by omega), h16.fr hF (by omega) (by omega), h', ⟨x20, h20.fr hF (by omega) (by omega)⟩, h22.fr hF (by omega) (by omega)⟩
theorem CRep.stag {g' : Nat × Nat × List Nat} (h : CRep H (T, P, D, xs, g, fo) R) (hF : Fr H H' (fun q => q = 15 ∨ q = 16 ∨ q = 17)) (h' : StagAt H' g'.1 g'.2.1) (h'' : BL H' 16 390 g'.2.2) : CRep H' (T, P, D, xs, g', fo) R := by
  obtain ⟨h1, h2, h3, ⟨b8, h8⟩, ⟨b11, h11⟩, ⟨b13, h13⟩, h15, h16, h18, ⟨x20, h20⟩, h22⟩ := h
  exact ⟨h1.fr hF (by omega) (by omega) (by omega), h2.fr hF (by omega) (by omega), h3.fr hF (fun q hq => by omega) (by omega) (by omega) (by omega), ⟨b8, h8.fr hF (by omega) (by omega)⟩, ⟨b11, h11.fr hF (by omega) (by omega)⟩, ⟨b13, h13.fr hF (by omega) (by omega)⟩, h', h'', h18.fr hF (by omega) (by omega), ⟨x20, h20.fr hF (by omega) (by omega)⟩, h22.fr hF (by omega) (by omega)⟩
theorem CRep.foun {fo' : List Int64} (h : CRep H (T, P, D, xs, g, fo) R) (hF : Fr H H' (fun q => q = 22 ∨ q = 23)) (h' : RL H' 22 40 fo') : CRep H' (T, P, D, xs, g, fo') R := by
  obtain ⟨h1, h2, h3, ⟨b8, h8⟩, ⟨b11, h11⟩, ⟨b13, h13⟩, h15, h16, h18, ⟨x20, h20⟩, h22⟩ := h
  exact ⟨h1.fr hF (by omega) (by omega) (by omega), h2.fr hF (by omega) (by omega), h3.fr hF (fun q hq => by omega) (by omega) (by omega) (by omega), ⟨b8, h8.fr hF (by omega) (by omega)⟩, ⟨b11, h11.fr hF (by omega) (by omega)⟩, ⟨b13, h13.fr hF (by omega) (by omega)⟩, h15.fr hF (by omega), h16.fr hF (by omega) (by omega), h18.fr hF (by omega) (by omega), ⟨x20, h20.fr hF (by omega) (by omega)⟩, h'⟩
theorem CRep.fetc (h : CRep H (T, P, D, xs, g, fo) R) (hF : Fr H H' (fun q => q = 20 ∨ q = 21)) (h' : ∃ x, RL H' 20 24 x) : CRep H' (T, P, D, xs, g, fo) R := by
  obtain ⟨h1, h2, h3, ⟨b8, h8⟩, ⟨b11, h11⟩, ⟨b13, h13⟩, h15, h16, h18, ⟨x20, h20⟩, h22⟩ := h
  exact ⟨h1.fr hF (by omega) (by omega) (by omega), h2.fr hF (by omega) (by omega), h3.fr hF (fun q hq => by omega) (by omega) (by omega) (by omega), ⟨b8, h8.fr hF (by omega) (by omega)⟩, ⟨b11, h11.fr hF (by omega) (by omega)⟩, ⟨b13, h13.fr hF (by omega) (by omega)⟩, h15.fr hF (by omega), h16.fr hF (by omega) (by omega), h18.fr hF (by omega) (by omega), h', h22.fr hF (by omega) (by omega)⟩
theorem CRep.disk {D' : yD} (h : CRep H (T, P, D, xs, g, fo) R) (hF : Fr H H' (fun q => q = 2 ∨ q = 3 ∨ q = 8 ∨ q = 9 ∨ q = 11 ∨ q = 12 ∨ q = 13 ∨ q = 14)) (h' : DiskAt H' D') (h8' : ∃ b, BL H' 8 32 b) (h11' : ∃ b, BL H' 11 206 b) (h13' : ∃ b, BL H' 13 32 b) : CRep H' (T, P, D', xs, g, fo) R := by
  obtain ⟨h1, h2, h3, ⟨b8, h8⟩, ⟨b11, h11⟩, ⟨b13, h13⟩, h15, h16, h18, ⟨x20, h20⟩, h22⟩ := h
  exact ⟨h1.fr hF (by omega) (by omega) (by omega), h', h3.fr hF (fun q hq => by omega) (by omega) (by omega) (by omega), h8', h11', h13', h15.fr hF (by omega), h16.fr hF (by omega) (by omega), h18.fr hF (by omega) (by omega), ⟨x20, h20.fr hF (by omega) (by omega)⟩, h22.fr hF (by omega) (by omega)⟩
end CU
-- the reference
def MRow (H : zH) (v : Nat → Int32) (xs : List Int64) : Prop := v 20 = nI xs.length ∧ ∃ f, AJ H 38 24 f ∧ ∀ i, i < xs.length → f i = xs.getD i 0
def MSg (H : zH) (v : Nat → Int32) (g : Nat × Nat × List Nat) : Prop := v 22 = nI g.2.1 ∧ (0 < g.2.1 → v 21 = nI g.1) ∧ v 24 = nI g.2.2.length ∧ ∃ f, AI H 39 150 f ∧ ∀ i, i < g.2.2.length → f i = nI (g.2.2.getD i 0)
def MFo (H : zH) (v : Nat → Int32) (xs : List Int64) : Prop := v 26 = nI xs.length ∧ ∃ f, AJ H 40 40 f ∧ ∀ i, i < xs.length → f i = xs.getD i 0
def MX (H : zH) : Prop := (∃ f, AI H 41 320 f) ∧ (∃ f, AI H 42 32 f) ∧ (∃ f, AJ H 43 24 f) ∧ (∃ f, AI H 44 64 f) ∧ (∃ f, AI H 45 192 f)
def allT (T : yT) : Nat → Nat → Prop := fun a b => a < T.length ∧ b < T.length
def MRv (H : zH) (v : Nat → Int32) (W : yW) : Prop := MSB H v W.1 W.2.1 ∧ MTb H W.1 (allT W.1) ∧ MDisk H v W.2.2.1 ∧ MRow H v W.2.2.2.1 ∧ MSg H v W.2.2.2.2.1 ∧ MFo H v W.2.2.2.2.2 ∧ MX H
def MRep (H : zH) (W : yW) : Prop := ∃ v, MRv H v W
def vE (v v' : Nat → Int32) : Prop := ∀ i, i ≠ 28 → i ≠ 33 → i ≠ 34 → i ≠ 35 → v' i = v i
theorem vE.rf {v : Nat → Int32} : vE v v := fun _ _ _ _ _ => rfl
theorem vE.tr {v v' v'' : Nat → Int32} (h : vE v v') (h' : vE v' v'') : vE v v'' := fun i a b c d => (h' i a b c d).trans (h i a b c d)
theorem vE.up {v : Nat → Int32} {k : Nat} {x : Int32} (hk : k = 28 ∨ k = 33 ∨ k = 34 ∨ k = 35) : vE v (va_up v k x) := fun i a b c d => zup_ne (by omega)
section MU
variable {H H' : zH} {v v' : Nat → Int32} {W : yW}
theorem MRow.fr {A : Nat → Prop} {xs : List Int64} (h : MRow H v xs) (hF : Fr H H' A) (hA : ¬ A 38) (hv : v' 20 = v 20) : MRow H' v' xs := by
  obtain ⟨a, f, b, c⟩ := h
  exact ⟨by rw [hv]; exact a, f, b.fr hF hA, c⟩
theorem MSg.fr {A : Nat → Prop} {g : Nat × Nat × List Nat} (h : MSg H v g) (hF : Fr H H' A) (hA : ¬ A 39) (hv : v' 22 = v 22) (hv1 : v' 21 = v 21) (hv2 : v' 24 = v 24) : MSg H' v' g := by
  obtain ⟨a, b, c, f, d, e⟩ := h
  exact ⟨by rw [hv]; exact a, fun q => by rw [hv1]; exact b q, by rw [hv2]; exact c, f, d.fr hF hA, e⟩
theorem MFo.fr {A : Nat → Prop} {xs : List Int64} (h : MFo H v xs) (hF : Fr H H' A) (hA : ¬ A 40) (hv : v' 26 = v 26) : MFo H' v' xs := by
  obtain ⟨a, f, b, c⟩ := h
  exact ⟨by rw [hv]; exact a, f, b.fr hF hA, c⟩
theorem MX.fr {A : Nat → Prop} (h : MX H) (hF : Fr H H' A) (hA : ∀ q, A q → q < 41) : MX H' := by
  have n : ∀ q, 41 ≤ q → ¬ A q := fun q hq ha => by have := hA q ha; omega
  obtain ⟨⟨f1, a1⟩, ⟨f2, a2⟩, ⟨f3, a3⟩, ⟨f4, a4⟩, ⟨f5, a5⟩⟩ := h
  exact ⟨⟨f1, a1.fr hF (n _ (by omega))⟩, ⟨f2, a2.fr hF (n _ (by omega))⟩, ⟨f3, a3.fr hF (n _ (by omega))⟩, ⟨f4, a4.fr hF (n _ (by omega))⟩, ⟨f5, a5.fr hF (n _ (by omega))⟩⟩
theorem MDisk.fr {A : Nat → Prop} {D : yD} (h : MDisk H v D) (hF : Fr H H' A) (hA : ¬ A 37) (hM : MoAt H' v') (h15 : v' 15 = v 15) (h16 : v' 16 = v 16) (h17 : v' 17 = v 17) (h18 : v' 18 = v 18) : MDisk H' v' D := by
  obtain ⟨a, b, c, d, e, f⟩ := h
  exact ⟨hM, b.fr hF hA, by rw [h15]; exact c, by rw [h16]; exact d, by rw [h17]; exact e, fun n hn => by rw [h18]; exact f n hn⟩
/-- scratch: the reference's bytes, block, value, stacks, and their counts -/
theorem MRv.scr {A : Nat → Prop} (h : MRv H v W) (hF : Fr H H' A) (hA : ∀ q, A q → q = 24 ∨ 41 ≤ q) (hM : MoAt H' v') (hv : vE v v') (hX : MX H') : MRv H' v' W := by
  have n : ∀ q, 25 ≤ q → q ≤ 40 → ¬ A q := fun q h1 h2 ha => by have := hA q ha; omega
  have e : ∀ i, i < 28 → v' i = v i := fun i hi => hv i (by omega) (by omega) (by omega) (by omega)
  obtain ⟨h1, h2, h3, h4, h5, h6, h7⟩ := h
  exact ⟨h1.upd hF (fun q hq => by have := hA q hq; omega) hM (e _ (by omega)) (e _ (by omega)), h2.fr hF (n _ (by omega) (by omega)) (n _ (by omega) (by omega)), h3.fr hF (n _ (by omega) (by omega)) hM (e _ (by omega)) (e _ (by omega)) (e _ (by omega)) (e _ (by omega)), h4.fr hF (n _ (by omega) (by omega)) (e _ (by omega)), h5.fr hF (n _ (by omega) (by omega)) (e _ (by omega)) (e _ (by omega)) (e _ (by omega)), h6.fr hF (n _ (by omega) (by omega)) (e _ (by omega)), hX⟩
theorem MRv.fr {A : Nat → Prop} (h : MRv H v W) (hF : Fr H H' A) (hA : ∀ q, A q → q < 24 ∨ 46 ≤ q) : MRv H' v W := by
  have n : ∀ q, 24 ≤ q → q ≤ 45 → ¬ A q := fun q h1 h2 ha => by have := hA q ha; omega
  obtain ⟨h1, h2, h3, h4, h5, h6, ⟨⟨f1, a1⟩, ⟨f2, a2⟩, ⟨f3, a3⟩, ⟨f4, a4⟩, ⟨f5, a5⟩⟩⟩ := h
  exact ⟨h1.fr hF (fun q hq => by have := hA q hq; omega), h2.fr hF (n _ (by omega) (by omega)) (n _ (by omega) (by omega)), h3.fr hF (n _ (by omega) (by omega)) (h1.1.fr hF (n _ (by omega) (by omega))) rfl rfl rfl rfl, h4.fr hF (n _ (by omega) (by omega)) rfl, h5.fr hF (n _ (by omega) (by omega)) rfl rfl rfl, h6.fr hF (n _ (by omega) (by omega)) rfl, ⟨⟨f1, a1.fr hF (n _ (by omega) (by omega))⟩, ⟨f2, a2.fr hF (n _ (by omega) (by omega))⟩, ⟨f3, a3.fr hF (n _ (by omega) (by omega))⟩, ⟨f4, a4.fr hF (n _ (by omega) (by omega))⟩, ⟨f5, a5.fr hF (n _ (by omega) (by omega))⟩⟩⟩
theorem MRep.fr {A : Nat → Prop} (h : MRep H W) (hF : Fr H H' A) (hA : ∀ q, A q → q < 24 ∨ 46 ≤ q) : MRep H' W := by
  obtain ⟨v, h⟩ := h
  exact ⟨v, h.fr hF hA⟩
end MU
-- a number more, all thrown away
def giveS (x : Int64) (W : yW) : Int32 × yW := if W.2.2.1.1 then (if W.2.2.2.1.length = 24 then (-1, W) else (nI (W.2.2.2.1.length + 1), W.1, W.2.1, W.2.2.1, W.2.2.2.1 ++ [x], W.2.2.2.2)) else (-4, W)
def dropS (W : yW) : Int32 × yW := if W.2.2.1.1 then (0, W.1, W.2.1, W.2.2.1, [], (W.2.2.2.2.1.1, 0, []), W.2.2.2.2.2) else (-4, W)
section GD
variable {H : zH} {W : yW} {R : Nat → Nat}
theorem C_up {D : yD} (h : DiskAt H D) : zgI H (some 2) 3 1 = some (bI D.1) := qgI h.1 rfl
theorem C_give (h : CRep H W R) (hl : W.2.2.2.1.length ≤ 24) {x : Int64} : ∃ H', jF_ST_give (some 1) x H = some ((giveS x W).1, H') ∧ CRep H' (giveS x W).2 R ∧ Fr H H' AC := by
  obtain ⟨T, P, D, xs, g, fo⟩ := W
  have h' := h
  obtain ⟨h1, h2, h3, -, -, -, h15, h16, h18, -, h22⟩ := h
  unfold jF_ST_give giveS
  rw [qok h1.1, Option.bind_some, qgR h1.1 rfl, Option.bind_some, C_up h2, Option.bind_some, if_bI]
  dsimp only at *
  cases D.1 with
  | false => exact ⟨H, rfl, h', Fr.rf⟩
  | true =>
    rw [if_pos rfl, if_pos rfl, qgR h1.1 rfl, Option.bind_some, h18.size, Option.bind_some, li24, if_eqN (by omega) (by omega)]
    by_cases h24 : xs.length = 24
    · rw [if_pos h24, if_pos h24]
      exact ⟨H, rfl, h', Fr.rf⟩
    · rw [if_neg h24, if_neg h24, Option.bind_some]
      obtain ⟨H1, e1, e2, e3⟩ := h18.append (x := x) (by omega) (by omega)
      have hF1 := h1.fr e3 (by omega) (by omega) (by omega)
      rw [e1, Option.bind_some, qgR hF1.1 rfl, Option.bind_some, e2.size, Option.bind_some, List.length_append]
      exact ⟨H1, rfl, h'.row e3 e2, e3.up (fun q hq => by unfold AC; omega)⟩
theorem C_stclear {s c : Nat} {bs : List Nat} (h : StagAt H s c) (hB : BL H 16 390 bs) {k : Nat} : ∃ H', jF_Staging_clear (some 15) H = some H' ∧ StagAt H' k 0 ∧ BL H' 16 390 [] ∧ Fr H H' (fun q => q = 15 ∨ q = 16 ∨ q = 17) := by
  obtain ⟨sv, e1, e2⟩ := h
  unfold jF_Staging_clear
  obtain ⟨H1, f1, f2, f3⟩ := hB.cut (n := 0) (by omega)
  rw [qok e1, Option.bind_some, qgR e1 rfl, Option.bind_some, li0, f1, Option.bind_some]
  have e1' := f3.2 _ _ e1 (by omega)
  rw [qpV e1' (by simp), Option.bind_some]
  have e1'' : zgo (zset H1 15 (.inr (10, [zR (some 16), zI (-1), zI (nI c)]))) (some 15) = some (.inr (10, [zR (some 16), zI (-1), zI (nI c)])) := zgo_set_same e1'
  rw [show (([zR (some 16), zI sv, zI (nI c)] : List zV).set 1 (zI (-1))) = [zR (some 16), zI (-1), zI (nI c)] from rfl, qpV e1'' (by simp), Option.bind_some]
  refine ⟨_, rfl, ⟨-1, ?_, fun q => by omega⟩, ?_, ?_⟩
  · rw [zgo_set_same e1'']; rfl
  · exact f2.fr ((Fr.set (A := fun q => q = 15) rfl).tr (Fr.set (A := fun q => q = 15) rfl)) (by omega) (by omega)
  · exact (f3.up (fun q hq => by omega)).tr ((Fr.set (A := fun q => q = 15 ∨ q = 16 ∨ q = 17) (Or.inl rfl)).tr (Fr.set (A := fun q => q = 15 ∨ q = 16 ∨ q = 17) (Or.inl rfl)))
theorem C_drop (h : CRep H W R) : ∃ H', jF_ST_drop (some 1) H = some ((dropS W).1, H') ∧ CRep H' (dropS W).2 R ∧ Fr H H' AC := by
  obtain ⟨T, P, D, xs, ⟨ss, sc, sb⟩, fo⟩ := W
  have h' := h
  obtain ⟨h1, h2, h3, -, -, -, h15, h16, h18, -, h22⟩ := h
  unfold jF_ST_drop dropS
  rw [qok h1.1, Option.bind_some, qgR h1.1 rfl, Option.bind_some, C_up h2, Option.bind_some, if_bI]
  dsimp only at *
  cases D.1 with
  | false => exact ⟨H, rfl, h', Fr.rf⟩
  | true =>
    rw [if_pos rfl, if_pos rfl, qgR h1.1 rfl, Option.bind_some]
    obtain ⟨H1, e1, e2, e3⟩ := h18.clear
    have r1 := h'.row e3 e2
    have hF1 := r1.1
    rw [e1, Option.bind_some, qgR hF1.1 rfl, Option.bind_some]
    obtain ⟨-, -, -, -, -, -, k15, k16, -⟩ := r1
    obtain ⟨H2, f1, f2, f3, f4⟩ := C_stclear (k := ss) k15 k16
    rw [f1, Option.bind_some]
    exact ⟨H2, rfl, (h'.row e3 e2).stag (g' := (ss, 0, [])) f4 f2 f3, (e3.up (fun q hq => by unfold AC; omega)).tr (f4.up (fun q hq => by unfold AC; omega))⟩
end GD
