/-! The class codes a row: all kinds. -/
theorem EncR.re {H : zH} {bs : List Nat} {o : Option (Nat × List Nat)} {res : Option (Int32 × zH)} (h : EncR H bs o res) : EncR H bs o (res.bind fun y => some (y.1, y.2)) := by
  obtain ⟨H', F, k1, k2⟩ := h
  refine ⟨H', F, fun r hr => ?_, fun hr => ?_⟩
  · obtain ⟨e1, e2⟩ := k1 r hr; rw [e1]; exact ⟨rfl, e2⟩
  · obtain ⟨e1, e2⟩ := k2 hr; rw [e1]; exact ⟨rfl, e2⟩
theorem EncR.pre {H H1 : zH} {bs pre : List Nat} {o : Option (Nat × List Nat)} {res : Option (Int32 × zH)} (hF : Fr H H1 (A2 16 17)) (h : EncR H1 (bs ++ pre) o res) : EncR H bs (o.map fun r => (r.1, pre ++ r.2)) res := by
  obtain ⟨H', F, k1, k2⟩ := h
  refine ⟨H', hF.tr F, fun r hr => ?_, fun hr => ?_⟩
  · obtain ⟨t, ht, rfl⟩ := Option.map_eq_some_iff.mp hr
    obtain ⟨e1, e2⟩ := k1 t ht
    exact ⟨e1, by rw [← List.append_assoc]; exact e2⟩
  · obtain ⟨e1, j, e2⟩ := k2 (by cases o; rfl; cases hr)
    exact ⟨e1, pre ++ j, by rw [← List.append_assoc]; exact e2⟩
section CE2
variable {T : yT} {R : Nat → Nat} {xs : List Int64} {fu : Nat}
theorem C_encNum {H : zH} {bs : List Nat} {s : Nat} {x : Int64} (h : ECx H T R xs bs) (hT : TOk T) (hE : TEn T) (hs : s < T.length) (hk : 1 ≤ kd T s ∧ kd T s ≤ 4) (hv : isVal T s x = true) (hr : bs.length + 10 ≤ 390) (hfu : 10 ≤ fu) : ∃ H', jF_Coder_encodeNumber fu (some (R s)) x (some 16) H = some H' ∧ BL H' 16 390 (bs ++ cod T s x) ∧ Fr H H' (A2 16 17) := by
  unfold jF_Coder_encodeNumber cod
  rw [h.1.k hs, Option.bind_some, li1, li4, if_eqN (by omega) (by omega), if_eqN (by omega) (by omega)]
  by_cases h1 : kd T s = 1
  · rw [if_pos h1, if_pos h1]
    unfold isVal at hv
    rw [if_pos h1] at hv
    have hx := of_decide_eq_true hv
    have hb : x.toInt32 = nI (if x = 0 then 0 else 1) := by
      rcases hx with rfl | rfl
      · decide
      · decide
    obtain ⟨H', e1, e2, e3⟩ := h.2.2.append (b := if x = 0 then 0 else 1) (by omega) (by omega)
    rw [hb, e1, Option.bind_some]
    exact ⟨H', rfl, e2, e3⟩
  · rw [if_neg h1, if_neg h1]
    by_cases h4 : kd T s = 4
    · rw [if_pos h4, if_pos h4]
      unfold isVal at hv
      rw [if_neg h1, if_neg (by omega), if_neg (by omega), if_pos h4] at hv
      have hx := of_decide_eq_true hv
      obtain ⟨y, hy, hxy⟩ : ∃ y : Nat, y < 8 ∧ x = lN y := by
        obtain ⟨y, hy, rfl⟩ := pk_lOf hx.1
        refine ⟨y, ?_, rfl⟩
        have h9 : ¬ lN 8 ≤ lN y := hx.2.1
        rw [pk_lLE (by omega) hy] at h9
        omega
      subst hxy
      rw [lN_i, C_rank h.1 hE hs h4 hy, Option.bind_some, nI_clamp (by omega)]
      obtain ⟨H', e1, e2, e3⟩ := h.2.2.var (fu := fu) (x := (nI (rk (pA T s) y)).toInt64) (by omega) (by omega) hfu
      rw [e1, Option.bind_some]
      exact ⟨H', rfl, e2, e3⟩
    · rw [if_neg h4, if_neg h4]
      obtain ⟨H', e1, e2, e3⟩ := h.2.2.var (fu := fu) (x := x) (by omega) (by omega) hfu
      rw [e1, Option.bind_some]
      exact ⟨H', rfl, e2, e3⟩
theorem EncR.cong {H : zH} {bs : List Nat} {o : Option (Nat × List Nat)} {a b : Option (Int32 × zH)} (e : a = b) : EncR H bs o a ↔ EncR H bs o b := by rw [e]

theorem C_enc (hT : TOk T) (hE : TEn T) (hxs : xs.length ≤ 24) (hfu : 10 ≤ fu) : ∀ f : Nat, RcOk T R xs (fun s => s < T.length ∧ dp T s ≤ f) (encP T xs f) (fun x0 x1 x2 x3 x4 => jF_Coder_encode fu f x0 x1 x2 x3 x4) := by
  intro f
  induction f with
  | zero => intro s p H bs hs hp h hr; have := (hT.2 s hs.1).2.1; omega
  | succ f ih =>
    intro s p H bs hs hp h hr
    obtain ⟨hs, hd⟩ := hs
    obtain ⟨t1, t2, t3, t4, t5, t6, t7, t8⟩ := hT.2 s hs
    have hbd : ∀ q p p' b, p ≤ xs.length → encP T xs f q p = some (p', b) → p ≤ p' ∧ p' ≤ xs.length ∧ b.length ≤ 10 * (p' - p) := fun q p p' b hp hh => encP_bd f q p p' b hp hh
    dsimp only
    rw [jF_Coder_encode, encP, h.1.k hs, Option.bind_some, if_0N (by omega)]
    by_cases h0 : kd T s = 0
    · rw [if_pos h0, if_pos h0]
      exact EncR.yes (b := []) Fr.rf (by rw [List.append_nil]; exact h.2.2)
    · rw [if_neg h0, if_neg h0, Option.bind_some, li7, if_eqN (by omega) (by omega)]
      by_cases h7 : kd T s = 7
      · rw [if_pos h7, if_pos h7]
        apply EncR.re
        unfold jF_Coder_encodeFields
        have := C_encF (fu := fu) (s := s) ih hxs hbd hs t4 (fun i hi => by have := t8 i hi; exact ⟨by omega, by omega⟩) (fl T s).length 0 fu p H bs (by omega) (by omega) hp h hr
        rw [List.drop_zero, nI_0] at this
        exact this
      · rw [if_neg h7, if_neg h7, h.2.1.size, Option.bind_some, if_ltN (by omega) (by omega)]
        by_cases hlt : p < xs.length
        · rw [if_pos hlt, if_neg (by omega), h.2.1.at (by omega) (by omega) (by omega), Option.bind_some, Option.bind_some, li5, if_eqN (by omega) (by omega)]
          by_cases h5 : kd T s = 5
          · have t6' := t6 h5
            rw [if_pos h5, if_pos h5, h.1.fi hs (Or.inl h5), Option.bind_some]
            apply EncR.re
            unfold jF_Coder_encodeItems jJ_Coder_encodeItems_38
            rw [h.2.1.at (by omega) (by omega) (by omega), Option.bind_some]
            by_cases c1 : xs.getD p 0 < 0
            · rw [if_pos c1, if_pos (Or.inl c1)]
              exact EncR.no0 h.2.2
            · rw [if_neg c1]
              by_cases c2 : xs.getD p 0 ≤ 3
              · rw [if_pos c2, if_neg (by rintro (q | q); exact c1 q; exact q c2), nI_1]
                obtain ⟨c, hc, hcx⟩ : ∃ c : Nat, c ≤ 3 ∧ xs.getD p 0 = lN c := by
                  rcases i64_03 c1 c2 with q | q | q | q
                  · exact ⟨0, by omega, q⟩
                  · exact ⟨1, by omega, q⟩
                  · exact ⟨2, by omega, q⟩
                  · exact ⟨3, by omega, q⟩
                have hv1 := varB_03 c1 c2
                rw [hcx] at hv1 ⊢
                rw [lN_i, nI_clamp (by omega)]
                have hI := fun (K : zH) (bs' : List Nat) (hK : ECx K T R xs bs') (hrm : bs'.length + 10 * (xs.length - (p + 1)) + 1 ≤ 390) => C_encI (fu := fu) (it := sA T s) (c := c) ih hxs hbd ⟨by omega, by omega⟩ hc c 0 fu (p + 1) K bs' (by omega) (by omega) (by omega) hK hrm
                by_cases c3 : lN c ≤ 0
                · rw [if_pos c3, if_pos c3]
                  have := hI H bs h (by omega)
                  rw [nI_0] at this
                  simp only [List.nil_append]
                  exact this
                · rw [if_neg c3, if_neg c3]
                  obtain ⟨H1, e1, e2, e3⟩ := h.2.2.var (fu := fu) (x := lN c) (by omega) (by omega) hfu
                  rw [e1, Option.bind_some]
                  have := hI H1 (bs ++ varB (lN c)) (h.fr e3 e2) (by rw [List.length_append]; omega)
                  rw [nI_0] at this
                  have hq := EncR.pre e3 this
                  rw [Option.map_map] at hq
                  have hfun : ((fun r : Nat × List Nat => (r.1, varB (lN c) ++ r.2)) ∘ fun r : Nat × List Nat => (r.1, r.2 ++ [0])) = fun r : Nat × List Nat => (r.1, varB (lN c) ++ r.2 ++ [0]) := by
                    funext r
                    simp [Function.comp]
                  rw [hfun] at hq
                  exact hq
              · rw [if_neg c2, if_pos (Or.inr c2)]
                exact EncR.no0 h.2.2
          · rw [if_neg h5, if_neg h5, Option.bind_some, li6, if_eqN (by omega) (by omega)]
            by_cases h6 : kd T s = 6
            · have t7' := t7 h6
              rw [if_pos h6, if_pos h6]
              have key : (xs.getD p 0 = 0 ∨ xs.getD p 0 = 1) → EncR H bs ((encP T xs f (if xs.getD p 0 = 0 then sA T s else sB T s) (p + 1)).map fun r => (r.1, varB (xs.getD p 0) ++ r.2)) (jJ_Coder_encode_87 fu (fun x0 x1 x2 x3 x4 => jF_Coder_encode fu f x0 x1 x2 x3 x4) (some (R s)) (some 18) (nI p) (some 16) (xs.getD p 0) H) := by
                intro hx
                unfold jJ_Coder_encode_87
                obtain ⟨H1, e1, e2, e3⟩ := h.2.2.var (fu := fu) (x := xs.getD p 0) (by omega) (by omega) hfu
                have h1 := h.fr e3 e2
                have hvl := varB_len (xs.getD p 0)
                rw [e1, Option.bind_some, C_branch h1.1 hs h6, Option.bind_some, nI_1]
                apply EncR.re
                apply EncR.pre e3
                refine ih _ (p + 1) H1 (bs ++ varB (xs.getD p 0)) ?_ (by omega) h1 (by rw [List.length_append]; omega)
                split
                · exact ⟨by omega, by omega⟩
                · exact ⟨by omega, by omega⟩
              by_cases c0 : xs.getD p 0 = 0
              · have k0 := key (Or.inl c0)
                rw [if_pos (show xs.getD p 0 = 0 ∨ xs.getD p 0 = 1 from Or.inl c0)]
                exact (EncR.cong (if_pos c0)).mpr k0
              · by_cases c1 : xs.getD p 0 = 1
                · have k0 := key (Or.inr c1)
                  rw [if_pos (show xs.getD p 0 = 0 ∨ xs.getD p 0 = 1 from Or.inr c1)]
                  exact (EncR.cong ((if_neg c0).trans (if_pos c1))).mpr k0
                · rw [if_neg (show ¬(xs.getD p 0 = 0 ∨ xs.getD p 0 = 1) by rintro (q | q); exact c0 q; exact c1 q)]
                  exact (EncR.cong ((if_neg c0).trans (if_neg c1))).mpr (EncR.no0 h.2.2)
            · rw [if_neg h6, if_neg h6, C_isValue h.1 hs t1, Option.bind_some, if_bI]
              cases hv : isVal T s (xs.getD p 0) with
              | false =>
                rw [if_neg Bool.false_ne_true, if_neg Bool.false_ne_true]
                exact EncR.no0 h.2.2
              | true =>
                rw [if_pos rfl, if_pos rfl]
                obtain ⟨H1, e1, e2, e3⟩ := C_encNum (fu := fu) h hT hE hs (by omega) hv (by omega) hfu
                rw [e1, Option.bind_some, nI_1]
                exact EncR.yes e3 e2
        · rw [if_neg hlt, if_pos (by omega)]
          exact EncR.no0 h.2.2
end CE2
