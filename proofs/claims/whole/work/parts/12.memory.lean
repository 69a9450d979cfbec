/-! Fields, arrays, new cells, calls, ends, entry: rows of z_S (printed by mkmem.py). -/
section ZMem
variable {ρ : Type} {E : zE} {M : zM} {d C S : Nat} {f : ρ → zQ} {pc : Nat} {lv : List (Nat × zV)} {st : List zV} {H : zH} {cs ss : Nat} {o oa ob : Option ρ} {q : zQ}
theorem z_ad_pos {k : Nat} (hk : 1 ≤ k) : z_ad E k = z_B E + k := by simp [z_ad, show k ≠ 0 by omega]
theorem z_cell {k : Nat} {x : zC} (hk : 1 ≤ k ∧ k < H.2) (hc : H.1 k = x) : (z_w E H)[k - 1]? = some (z_ad E k, z_c E x) := by
  rw [z_w_at hk.1 hk.2, hc, z_ad_pos hk.1]
section ZCx
variable {p : Program} {s : State} {m : MethodId} {args : Array Value} {meth : Method} {c : Code}
theorem z_Cx.words (X : z_Cx E M p s m args meth c) : ∀ w ∈ z_tb, w.before args s = true := X.2.2.2.2.2.2.2.1
theorem z_Cx.own (X : z_Cx E M p s m args meth c) : s.vm.findClass M.1.cls = some m.cls := X.2.2.2.2.2.2.1
theorem z_Cx.K (X : z_Cx E M p s m args meth c) : va_K E.1 classes (z_ts E) s := X.2.2.2.2.2.2.2.2.1
theorem z_Cx.base (X : z_Cx E M p s m args meth c) : E.2.2.2.1 ≤ z_B E ∧ z_B E < s.heap.size := ⟨X.2.2.2.2.2.2.2.2.2.2.1, X.2.2.2.2.2.2.2.2.2.2.2.1⟩
theorem z_Cx.NW (X : z_Cx E M p s m args meth c) : z_NW s := X.2.2.2.2.2.2.2.2.2.2.2.2
theorem z_Cx.A (X : z_Cx E M p s m args meth c) : ∀ q, s.heap.size ≤ q → z_A E q := fun q hq => Nat.lt_of_lt_of_le X.base.2 hq
/-- the script stays -/
theorem z_script {Hp : Heap} {locs : List Loc} (X : z_Cx E M p s m args meth c) (hS : va_S (z_A E) s.heap Hp locs) : va_X E.2.2.2.1 E.2.2.2.2.1 E.2.2.2.2.2 s Hp :=
  X.2.2.2.2.2.2.2.2.2.1.kept (hS.2.1 _ (Nat.lt_of_le_of_lt X.base.1 X.base.2) (by intro hq; have : z_B E < E.2.2.2.1 := hq; have := X.base.1; omega))
/-- what a state with this heap holds -/
theorem z_holds {U : State} {Hp : Heap} {locs : List Loc} (X : z_Cx E M p s m args meth c) (hW : z_Wd E H s Hp locs) (hU : U.heap = Hp) (hw : s.WarmedH U.vm) : z_H E H U := by
  refine ⟨by rw [hU]; exact hW.1, hW.2.1, by rw [hU]; exact hW.2.2.1, va_K.moved hw.alike X.K, ?_, X.base.1, X.NW.warm hw⟩
  rw [hU]
  exact (z_script X hW.2.2.2).moved hw.alike
end ZCx
theorem z_okb {β : Type} {r : Option Nat} {ci : Nat} {g : Unit → Option β} : ∀ y, (zok H r ci).bind g = some y → zok H r ci = some () := fun _ h => by
  obtain ⟨u, hu, -⟩ := Option.bind_eq_some_iff.mp h
  exact hu
theorem zs_bind {α : Type} {x : Option α} {g : α → Option ρ} (k : ∀ v, x = some v → z_S E M d C S f pc lv st H cs ss (g v)) : z_S E M d C S f pc lv st H cs ss (x.bind g) := by
  intro yy hyy
  obtain ⟨v, hv, h⟩ := Option.bind_eq_some_iff.mp hyy
  exact k v hv yy h
-- fields
def z_K (ci : Nat) (Cn : String) (T : u_T) (N : Nat) : Prop := classes[ci]? = some (Cn, T, N) ∧ ∀ w ∈ u_ws Cn T N, w ∈ z_tb
/-- field j of the class ci, by a place of own's pool -/
def z_F (own : String) (idx ci j : Nat) : Prop := ∃ (Cn : String) (T : u_T) (N : Nat), z_K ci Cn T N ∧ j < N ∧ (T j).1 = Cn ∧ (Cond.fieldLink own idx Cn (T j).2.1 (T j).2.2.1 ∈ z_tb ∨ ∃ host, Cond.fieldLinkNest own idx Cn (T j).2.1 (T j).2.2.1 host ∈ z_nb)
theorem z_getf {idx ci j k : Nat} {fs : List zV} {v : zV} (hd : decode M.2.1 pc = .ok (.getfield idx, 3)) (lk : z_F M.1.cls idx ci j) (hk : 1 ≤ k ∧ k < H.2) (hc : H.1 k = .inr (ci, fs)) (hv : fs[j]? = some v) (kk : z_G E M d C S q (pc + 3) lv (v :: st) H cs ss) : z_G E M d C S q pc lv (zR (some k) :: st) H cs ss := by
  intro p l e s m args below meth c Hp locs ls X hW hl
  obtain ⟨Cn, T, N, ⟨hcl, hin⟩, hj, hdec, hlk⟩ := lk
  have hw : (z_w E H)[k - 1]? = some (z_ad E k, .inr (ci, fs.map (z_v E))) := z_cell hk hc
  have hts := X.words
  have hv' : (fs.map (z_v E))[j]? = some (z_v E v) := by rw [List.getElem?_map, hv]; rfl
  have hs : ∀ x, s.fieldFound? (T j).1 (T j).2.1 (T j).2.2.1 = some x → s.fieldFound? Cn (T j).2.1 (T j).2.2.1 = some x := fun x hx => by rw [hdec] at hx; exact hx
  have kk' := kk p l e s m args below meth c Hp locs ls X hW hl
  rcases hlk with hlk | ⟨host, hlk⟩
  · exact va_get X.1 X.2.1 hts hin X.own X.K hW.2.2.1 (k - 1) hw hcl j hj (hts _ hlk) hs hv' hd kk'
  · exact va_getN X.1 X.2.1 hts hin X.own X.K hW.2.2.1 (k - 1) hw hcl j hj (va_Nw.use rfl (X.NW _ hlk)) hs hv' hd kk' 
theorem zs_getI {idx ci j : Nat} {r : Option Nat} {g : Int32 → Option ρ} (hd : decode M.2.1 pc = .ok (.getfield idx, 3)) (lk : z_F M.1.cls idx ci j) (k : ∀ v, z_S E M d C S f (pc + 3) lv (zI v :: st) H cs ss (g v)) : z_S E M d C S f pc lv (zR r :: st) H cs ss ((zgI H r ci j).bind g) := by
  intro yy hyy
  obtain ⟨v, hv, h⟩ := Option.bind_eq_some_iff.mp hyy
  obtain ⟨fs, hfs, hv2⟩ := Option.bind_eq_some_iff.mp hv
  obtain ⟨a, rfl, hk, hc⟩ := zfs_inv hfs
  exact z_getf hd lk hk hc (zvi_inv hv2) (k v yy h)
theorem zs_getL {idx ci j : Nat} {r : Option Nat} {g : Int64 → Option ρ} (hd : decode M.2.1 pc = .ok (.getfield idx, 3)) (lk : z_F M.1.cls idx ci j) (k : ∀ v, z_S E M d C S f (pc + 3) lv (zL v :: st) H cs ss (g v)) : z_S E M d C S f pc lv (zR r :: st) H cs ss ((zgL H r ci j).bind g) := by
  intro yy hyy
  obtain ⟨v, hv, h⟩ := Option.bind_eq_some_iff.mp hyy
  obtain ⟨fs, hfs, hv2⟩ := Option.bind_eq_some_iff.mp hv
  obtain ⟨a, rfl, hk, hc⟩ := zfs_inv hfs
  exact z_getf hd lk hk hc (zvl_inv hv2) (k v yy h)
theorem zs_getR {idx ci j : Nat} {r : Option Nat} {g : Option Nat → Option ρ} (hd : decode M.2.1 pc = .ok (.getfield idx, 3)) (lk : z_F M.1.cls idx ci j) (k : ∀ v, z_S E M d C S f (pc + 3) lv (zR v :: st) H cs ss (g v)) : z_S E M d C S f pc lv (zR r :: st) H cs ss ((zgR H r ci j).bind g) := by
  intro yy hyy
  obtain ⟨v, hv, h⟩ := Option.bind_eq_some_iff.mp hyy
  obtain ⟨fs, hfs, hv2⟩ := Option.bind_eq_some_iff.mp hv
  obtain ⟨a, rfl, hk, hc⟩ := zfs_inv hfs
  exact z_getf hd lk hk hc (zvr_inv hv2) (k v yy h)
/-- the same, to be written -/
def z_FP (own : String) (idx ci j : Nat) (ty : FieldType) (fin : Bool) : Prop := ∃ (Cn : String) (T : u_T) (N : Nat) (ty0 : Nat → FieldType), z_K ci Cn T N ∧ j < N ∧ (T j).1 = Cn ∧ (∀ k, k < N → parseFieldDescriptor (T k).2.2.1 = some (ty0 k)) ∧ (∀ a, a < N → ∀ b, b < N → a ≠ b → (T a).2.1 ≠ (T b).2.1) ∧ ty0 j = ty ∧ (T j).2.2.2 = fin ∧ (Cond.fieldLink own idx Cn (T j).2.1 (T j).2.2.1 ∈ z_tb ∨ (fin = false ∧ ∃ host, Cond.fieldLinkNest own idx Cn (T j).2.1 (T j).2.2.1 host ∈ z_nb)) ∧ (fin = true → Cn = own)
def z_fit (ty : FieldType) (v : zV) : Prop := ∀ E : zE, narrow ty (z_v E v) = z_v E v ∧ fits ty (z_v E v) = true
theorem z_fitI {x : Int32} : z_fit .int (zI x) := fun _ => ⟨rfl, rfl⟩
theorem z_fitL {x : Int64} : z_fit .long (zL x) := fun _ => ⟨rfl, rfl⟩
theorem z_fitR {x : Option Nat} {n : String} : z_fit (.object n) (zR x) := fun _ => by cases x <;> exact ⟨rfl, rfl⟩
theorem z_fitA {x : Option Nat} {t : FieldType} : z_fit (.array t) (zR x) := fun _ => by cases x <;> exact ⟨rfl, rfl⟩
theorem z_fitZ {x : Int32} (h : x = 0 ∨ x = 1) : z_fit .boolean (zI x) := fun _ => by rcases h with rfl | rfl <;> exact ⟨rfl, rfl⟩
theorem z_put_end {ci j k : Nat} {fs : List zV} {v : zV} {p : Program} {l : Launch} {e : Env} {s : State} {m : MethodId} {args : Array Value} {below : List Frame} {meth : Method} {c : Code} {Hp H' : Heap} {locs : List Loc} {ls : Array Slot} {Cn : String} {T : u_T} {N sl : Nat} {cell : Cell}
    (X : z_Cx E M p s m args meth c) (hW : z_Wd E H s Hp locs) (hl : lv_has ls M.2.2.1 (z_l E lv)) (hk : 1 ≤ k ∧ k < H.2) (hcl : classes[ci]? = some (Cn, T, N)) (hj : j < N) (hjl : j < fs.length) (hap : ∀ x y, x < N → y < N → x ≠ y → (E.1.2 ci) x ≠ (E.1.2 ci) y)
    (q2 : cell.cls = E.1.1 ci) (q3 : cell.vm = .none) (q4 : ∀ i, i < N → cell.slots[E.1.2 ci i]? = some (vp_V (fs.map (z_v E)) i)) (e1 : H'[z_ad E k]? = some (cell.setSlot (E.1.2 ci j) (z_v E v))) (e2 : H'.size = Hp.size) (e3 : ∀ q, q ≠ z_ad E k → H'[q]? = Hp[q]?)
    (kk : z_G E M d C S q (pc + 3) lv st (va_up H.1 k (.inr (ci, fs.set j v)), H.2) cs ss) : W p l e (z_rm d C S) s m args below meth c H' (locs ++ [⟨z_ad E k, sl⟩]) cs ss (MQ below (z_Q E q) args s C S (z_A E)) (F0 m (pc + 3) ls (st.map (z_v E))) := by
  refine kk p l e s m args below meth c H' _ ls X ⟨by rw [e2]; exact hW.1, hW.2.1, ?_, hW.2.2.2.put e2 e3 (by rw [z_ad_pos hk.1]; show z_B E < z_B E + k; omega)⟩ hl
  rw [z_ad_pos hk.1] at e1 e3
  refine z_P_set hW.2.2.1 hk.1 hk.2 ?_ e3
  refine ⟨_, hcl, ?_⟩
  show t_OB (z_B E + k) (E.1.1 ci) N (E.1.2 ci) H' (vp_V ((fs.set j v).map (z_v E)))
  rw [List.map_set]
  exact t_OB.to (V := updV (vp_V (fs.map (z_v E))) j (z_v E v)) ⟨_, e1, q2, q3, t_set q4 hap hj _⟩ (fun i _ => vp_updV_set (by rw [List.length_map]; exact hjl) _ i)
theorem z_putf {idx ci j k : Nat} {ty : FieldType} {fs : List zV} {v : zV} (hd : decode M.2.1 pc = .ok (.putfield idx, 3)) (lk : z_FP M.1.cls idx ci j ty false) (hk : 1 ≤ k ∧ k < H.2) (hc : H.1 k = .inr (ci, fs)) (hn : z_fit ty v) (hjl : j < fs.length)
    (kk : z_G E M d C S q (pc + 3) lv st (va_up H.1 k (.inr (ci, fs.set j v)), H.2) cs ss) : z_G E M d C S q pc lv (v :: zR (some k) :: st) H cs ss := by
  intro p l e s m args below meth c Hp locs ls X hW hl
  obtain ⟨Cn, T, N, ty0, ⟨hcl, hin⟩, hj, hdec, hty, hnm, htj, hfin, hlk, -⟩ := lk
  have hw : (z_w E H)[k - 1]? = some (z_ad E k, .inr (ci, fs.map (z_v E))) := z_cell hk hc
  have hts := X.words
  have hK := X.K
  have hs : ∀ x, s.fieldFound? (T j).1 (T j).2.1 (T j).2.2.1 = some x → s.fieldFound? Cn (T j).2.1 (T j).2.2.1 = some x := fun x hx => by rw [hdec] at hx; exact hx
  have hap := va_apart (own := M.1.cls) hts hin ty0 hty hnm hK hcl
  obtain ⟨r, h1, cell, q1, q2, q3, q4⟩ := hW.2.2.1 (k - 1) _ hw
  have hr : r = (Cn, T, N) := Option.some.inj (h1.symm.trans hcl)
  subst hr
  obtain ⟨hS, hfc, kC, hkC, hkind⟩ := hK.1 ci _ hcl
  obtain ⟨cf, kf, fi, f, hi, hsl⟩ := hS j hj
  have hlay := hts _ (hin _ (u_in_lay hj))
  unfold u_lay at hlay
  rw [if_neg (by rw [hfin]; decide)] at hlay
  have hst := (u_facts hfc hkC (u_lays hts hin hj) hi).1
  have h6 := u_store hfc hkC hkind hlay hi (by rw [← htj]; exact hty j hj) (hn E).1 (hn E).2
  rcases hlk with hlk | ⟨-, host, hlk⟩
  · refine W.putK X.1 X.2.1 (f := f) ⟨X.own, hts _ hlk, ⟨_, _, _, hs _ hi⟩, hst⟩ (by rw [q2]; exact h6) q1 q3 (by rw [hsl]; exact k2_hasslot (q4 j hj)) rfl rfl hd fun H' e1 e2 e3 => ?_
    rw [hsl] at e1
    exact z_put_end X hW hl hk hcl hj hjl hap q2 q3 q4 e1 e2 e3 kk
  · refine va_WputK X.1 X.2.1 (f := f) X.own (va_Nw.use rfl (X.NW _ hlk)) (hs _ hi) hst (by rw [q2]; exact h6) q1 q3 (by rw [hsl]; exact k2_hasslot (q4 j hj)) rfl rfl hd fun H' e1 e2 e3 => ?_
    rw [hsl] at e1
    exact z_put_end X hW hl hk hcl hj hjl hap q2 q3 q4 e1 e2 e3 kk
/-- a final field, in its class's constructor -/
theorem z_putF {idx ci j k : Nat} {ty : FieldType} {fs : List zV} {v : zV} (hd : decode M.2.1 pc = .ok (.putfield idx, 3)) (lk : z_FP M.1.cls idx ci j ty true) (hi0 : M.1.name = "<init>") (hk : 1 ≤ k ∧ k < H.2) (hc : H.1 k = .inr (ci, fs)) (hn : z_fit ty v) (hjl : j < fs.length)
    (kk : z_G E M d C S q (pc + 3) lv st (va_up H.1 k (.inr (ci, fs.set j v)), H.2) cs ss) : z_G E M d C S q pc lv (v :: zR (some k) :: st) H cs ss := by
  intro p l e s m args below meth c Hp locs ls X hW hl
  obtain ⟨Cn, T, N, ty0, ⟨hcl, hin⟩, hj, hdec, hty, hnm, htj, hfin, hlk, hown⟩ := lk
  have hlk : Cond.fieldLink M.1.cls idx Cn (T j).2.1 (T j).2.2.1 ∈ z_tb := by
    rcases hlk with h | ⟨h, -⟩
    · exact h
    · cases h
  have hCo : Cn = M.1.cls := hown rfl
  have hw : (z_w E H)[k - 1]? = some (z_ad E k, .inr (ci, fs.map (z_v E))) := z_cell hk hc
  have hts := X.words
  have hK := X.K
  have hs : ∀ x, s.fieldFound? (T j).1 (T j).2.1 (T j).2.2.1 = some x → s.fieldFound? Cn (T j).2.1 (T j).2.2.1 = some x := fun x hx => by rw [hdec] at hx; exact hx
  have hap := va_apart (own := M.1.cls) hts hin ty0 hty hnm hK hcl
  obtain ⟨r, h1, cell, q1, q2, q3, q4⟩ := hW.2.2.1 (k - 1) _ hw
  have hr : r = (Cn, T, N) := Option.some.inj (h1.symm.trans hcl)
  subst hr
  obtain ⟨hS, hfc, kC, hkC, hkind⟩ := hK.1 ci _ hcl
  obtain ⟨cf, kf, fi, f, hi, hsl⟩ := hS j hj
  have hlay := hts _ (hin _ (u_in_lay hj))
  unfold u_lay at hlay
  rw [if_pos hfin] at hlay
  have hst := (u_facts hfc hkC (u_lays hts hin hj) hi).1
  have hcf : m.cls = cf := by
    obtain ⟨_, _, c', _, _, _, -, -, hf', -, -, -, hown2, -⟩ := Cond.laysFinal_spec hlay
    have e1 : c' = cf := by have := hi.symm.trans hf'; simp at this; exact this.1.symm
    rw [hdec, hCo] at hown2
    rw [← e1]; exact Option.some.inj (X.own.symm.trans hown2)
  have h6 := u_fits hfc hkC hkind (Or.inr hlay) hi (by rw [← htj]; exact hty j hj) (hn E).1 (hn E).2
  refine W.putFinK X.1 X.2.1 X.own (hts _ hlk) (hs _ hi) hst hcf (X.2.2.2.2.2.1 hi0) (by rw [q2]; exact h6) q1 q3 (by rw [hsl]; exact k2_hasslot (q4 j hj)) rfl rfl hd fun H' e1 e2 e3 => ?_
  rw [hsl] at e1
  exact z_put_end X hW hl hk hcl hj hjl hap q2 q3 q4 e1 e2 e3 kk
theorem zpV_inv {r : Option Nat} {ci j : Nat} {v : zV} {H' : zH} (h : zpV H r ci j v = some H') : ∃ k fs, r = some k ∧ (1 ≤ k ∧ k < H.2) ∧ H.1 k = .inr (ci, fs) ∧ j < fs.length ∧ H' = (va_up H.1 k (.inr (ci, fs.set j v)), H.2) := by
  unfold zpV at h
  obtain ⟨k, hr, h1⟩ := Option.bind_eq_some_iff.mp h
  clear h
  obtain ⟨fs, hfs, h2⟩ := Option.bind_eq_some_iff.mp h1
  clear h1
  obtain ⟨a, ha, hk, hc⟩ := zfs_inv hfs
  have hkk : a = k := Option.some.inj (ha.symm.trans hr)
  subst hkk
  split at h2
  · next hj => exact ⟨a, fs, ha, hk, hc, hj, (Option.some.inj h2).symm⟩
  · cases h2
theorem zpZ_inv {r : Option Nat} {ci j : Nat} {x : Int32} {H' : zH} (h : zpZ H r ci j x = some H') : (x = 0 ∨ x = 1) ∧ zpV H r ci j (zI x) = some H' := by
  unfold zpZ at h
  split at h
  · next hx => exact ⟨hx, h⟩
  · cases h
theorem zs_put {idx ci j : Nat} {ty : FieldType} {r : Option Nat} {v : zV} {g : zH → Option ρ} (hd : decode M.2.1 pc = .ok (.putfield idx, 3)) (lk : z_FP M.1.cls idx ci j ty false) (hn : z_fit ty v) (k : ∀ H', z_S E M d C S f (pc + 3) lv st H' cs ss (g H')) : z_S E M d C S f pc lv (v :: zR r :: st) H cs ss ((zpV H r ci j v).bind g) := by
  intro yy hyy
  obtain ⟨H', hv, h⟩ := Option.bind_eq_some_iff.mp hyy
  obtain ⟨a, fs, rfl, hk, hc, hj, rfl⟩ := zpV_inv hv
  exact z_putf hd lk hk hc hn hj (k _ yy h)
theorem zs_putZ {idx ci j : Nat} {r : Option Nat} {x : Int32} {g : zH → Option ρ} (hd : decode M.2.1 pc = .ok (.putfield idx, 3)) (lk : z_FP M.1.cls idx ci j .boolean false) (k : ∀ H', z_S E M d C S f (pc + 3) lv st H' cs ss (g H')) : z_S E M d C S f pc lv (zI x :: zR r :: st) H cs ss ((zpZ H r ci j x).bind g) := by
  intro yy hyy
  obtain ⟨H', hv, h⟩ := Option.bind_eq_some_iff.mp hyy
  obtain ⟨hx, hv⟩ := zpZ_inv hv
  obtain ⟨a, fs, rfl, hk, hc, hj, rfl⟩ := zpV_inv hv
  exact z_putf hd lk hk hc (z_fitZ hx) hj (k _ yy h)
theorem zs_putF {idx ci j : Nat} {ty : FieldType} {r : Option Nat} {v : zV} {g : zH → Option ρ} (hd : decode M.2.1 pc = .ok (.putfield idx, 3)) (lk : z_FP M.1.cls idx ci j ty true) (hi0 : M.1.name = "<init>") (hn : z_fit ty v) (k : ∀ H', z_S E M d C S f (pc + 3) lv st H' cs ss (g H')) : z_S E M d C S f pc lv (v :: zR r :: st) H cs ss ((zpV H r ci j v).bind g) := by
  intro yy hyy
  obtain ⟨H', hv, h⟩ := Option.bind_eq_some_iff.mp hyy
  obtain ⟨a, fs, rfl, hk, hc, hj, rfl⟩ := zpV_inv hv
  exact z_putF hd lk hi0 hk hc hn hj (k _ yy h)
theorem zs_putFZ {idx ci j : Nat} {r : Option Nat} {x : Int32} {g : zH → Option ρ} (hd : decode M.2.1 pc = .ok (.putfield idx, 3)) (lk : z_FP M.1.cls idx ci j .boolean true) (hi0 : M.1.name = "<init>") (k : ∀ H', z_S E M d C S f (pc + 3) lv st H' cs ss (g H')) : z_S E M d C S f pc lv (zI x :: zR r :: st) H cs ss ((zpZ H r ci j x).bind g) := by
  intro yy hyy
  obtain ⟨H', hv, h⟩ := Option.bind_eq_some_iff.mp hyy
  obtain ⟨hx, hv⟩ := zpZ_inv hv
  obtain ⟨a, fs, rfl, hk, hc, hj, rfl⟩ := zpV_inv hv
  exact z_putF hd lk hi0 hk hc (z_fitZ hx) hj (k _ yy h)
-- arrays
theorem z_ts_at {t : Nat} {ty : FieldType} (ht : zT[t]? = some ty) : (z_ts E)[t]? = some (E.2.1 t, ty) := by
  unfold z_ts
  rw [List.getElem?_mapIdx, ht]
  rfl
theorem z_rf (r : Option Nat) : va_rf (r.map (z_ad E)) = z_v E (zR r) := rfl
theorem zs_alen {t : Nat} {ty : FieldType} {r : Option Nat} {g : Int32 → Option ρ} (hd : decode M.2.1 pc = .ok (.arraylength, 1)) (ht : zT[t]? = some ty) (k : ∀ v, z_S E M d C S f (pc + 1) lv (zI v :: st) H cs ss (g v)) : z_S E M d C S f pc lv (zR r :: st) H cs ss ((zle H r t).bind g) := by
  intro yy hyy
  obtain ⟨v, hv, h⟩ := Option.bind_eq_some_iff.mp hyy
  clear hyy
  obtain ⟨a, ha, hv2⟩ := Option.bind_eq_some_iff.mp hv
  clear hv
  obtain ⟨b, rfl, hk, hc⟩ := zar_inv ha
  cases hv2
  intro p l e s m args below meth c Hp locs ls X hW hl
  exact va_alen X.1 X.2.1 X.K hW.2.2.1 (b - 1) t (z_cell hk hc) (z_ts_at ht) rfl hd (k _ yy h p l e s m args below meth c Hp locs ls X hW hl)
theorem zs_iald {t : Nat} {r : Option Nat} {i : Int32} {g : Int32 → Option ρ} (hd : decode M.2.1 pc = .ok (.iaload, 1)) (ht : zT[t]? = some .int) (k : ∀ v, z_S E M d C S f (pc + 1) lv (zI v :: st) H cs ss (g v)) : z_S E M d C S f pc lv (zI i :: zR r :: st) H cs ss ((zaI H r t i).bind g) := by
  intro yy hyy
  obtain ⟨v, hv, h⟩ := Option.bind_eq_some_iff.mp hyy
  clear hyy
  obtain ⟨⟨N, a⟩, ha, hv2⟩ := Option.bind_eq_some_iff.mp hv
  clear hv
  obtain ⟨j, hj, hv3⟩ := Option.bind_eq_some_iff.mp hv2
  clear hv2
  obtain ⟨b, rfl, hk, hc⟩ := zar_inv ha
  obtain ⟨hin, rfl⟩ := zix_inv hj
  obtain ⟨ff, hff, rfl⟩ := zai_inv hv3
  have hff : a = _ := hff
  subst hff
  intro p l e s m args below meth c Hp locs ls X hW hl
  exact va_iald X.1 X.2.1 X.K hW.2.2.1 (b - 1) t (z_cell hk hc) (z_ts_at ht) hin hd (k _ yy h p l e s m args below meth c Hp locs ls X hW hl)
theorem zs_zald {t : Nat} {r : Option Nat} {i : Int32} {g : Int32 → Option ρ} (hd : decode M.2.1 pc = .ok (.baload, 1)) (ht : zT[t]? = some .boolean) (k : ∀ v, z_S E M d C S f (pc + 1) lv (zI v :: st) H cs ss (g v)) : z_S E M d C S f pc lv (zI i :: zR r :: st) H cs ss ((zaI H r t i).bind g) := by
  intro yy hyy
  obtain ⟨v, hv, h⟩ := Option.bind_eq_some_iff.mp hyy
  clear hyy
  obtain ⟨⟨N, a⟩, ha, hv2⟩ := Option.bind_eq_some_iff.mp hv
  clear hv
  obtain ⟨j, hj, hv3⟩ := Option.bind_eq_some_iff.mp hv2
  clear hv2
  obtain ⟨b, rfl, hk, hc⟩ := zar_inv ha
  obtain ⟨hin, rfl⟩ := zix_inv hj
  obtain ⟨ff, hff, rfl⟩ := zai_inv hv3
  have hff : a = _ := hff
  subst hff
  intro p l e s m args below meth c Hp locs ls X hW hl
  exact va_zald X.1 X.2.1 X.K hW.2.2.1 (b - 1) t (z_cell hk hc) (z_ts_at ht) hin hd (k _ yy h p l e s m args below meth c Hp locs ls X hW hl)
theorem zs_lald {t : Nat} {r : Option Nat} {i : Int32} {g : Int64 → Option ρ} (hd : decode M.2.1 pc = .ok (.laload, 1)) (ht : zT[t]? = some .long) (k : ∀ v, z_S E M d C S f (pc + 1) lv (zL v :: st) H cs ss (g v)) : z_S E M d C S f pc lv (zI i :: zR r :: st) H cs ss ((zaL H r t i).bind g) := by
  intro yy hyy
  obtain ⟨v, hv, h⟩ := Option.bind_eq_some_iff.mp hyy
  clear hyy
  obtain ⟨⟨N, a⟩, ha, hv2⟩ := Option.bind_eq_some_iff.mp hv
  clear hv
  obtain ⟨j, hj, hv3⟩ := Option.bind_eq_some_iff.mp hv2
  clear hv2
  obtain ⟨b, rfl, hk, hc⟩ := zar_inv ha
  obtain ⟨hin, rfl⟩ := zix_inv hj
  obtain ⟨ff, hff, rfl⟩ := zal_inv hv3
  have hff : a = _ := hff
  subst hff
  intro p l e s m args below meth c Hp locs ls X hW hl
  exact va_lald X.1 X.2.1 X.K hW.2.2.1 (b - 1) t (z_cell hk hc) (z_ts_at ht) hin hd (k _ yy h p l e s m args below meth c Hp locs ls X hW hl)
theorem zs_aald {t : Nat} {Cn : String} {r : Option Nat} {i : Int32} {g : Option Nat → Option ρ} (hd : decode M.2.1 pc = .ok (.aaload, 1)) (ht : zT[t]? = some (.object Cn)) (k : ∀ v, z_S E M d C S f (pc + 1) lv (zR v :: st) H cs ss (g v)) : z_S E M d C S f pc lv (zI i :: zR r :: st) H cs ss ((zaR H r t i).bind g) := by
  intro yy hyy
  obtain ⟨v, hv, h⟩ := Option.bind_eq_some_iff.mp hyy
  clear hyy
  obtain ⟨⟨N, a⟩, ha, hv2⟩ := Option.bind_eq_some_iff.mp hv
  clear hv
  obtain ⟨j, hj, hv3⟩ := Option.bind_eq_some_iff.mp hv2
  clear hv2
  obtain ⟨b, rfl, hk, hc⟩ := zar_inv ha
  obtain ⟨hin, rfl⟩ := zix_inv hj
  obtain ⟨ff, hff, rfl⟩ := zaa_inv hv3
  have hff : a = _ := hff
  subst hff
  intro p l e s m args below meth c Hp locs ls X hW hl
  exact va_aldq X.1 X.2.1 X.K hW.2.2.1 (b - 1) t (z_cell hk hc) (z_ts_at ht) hin hd (k _ yy h p l e s m args below meth c Hp locs ls X hW hl)
-- the script
theorem zs_slen {L : Nat} (hd : decode M.2.1 pc = .ok (.arraylength, 1)) (hL : E.2.2.2.2.1 = L) (k : z_S E M d C S f (pc + 1) lv (zI (nI L) :: st) H cs ss o) : z_S E M d C S f pc lv (zR (some 0) :: st) H cs ss o := by
  intro yy hyy p l e s m args below meth c Hp locs ls X hW hl
  subst hL
  exact va_slen (b := E.2.2.2.1) X.1 X.2.1 X.2.2.2.2.2.2.2.2.2.1 (Nat.lt_of_le_of_lt X.base.1 X.base.2) (by intro hq; have : z_B E < E.2.2.2.1 := hq; have := X.base.1; omega) hW.2.2.2 hd (k yy hyy p l e s m args below meth c Hp locs ls X hW hl)
theorem zs_sld {L : Nat} {xs : Nat → Int32} {i : Int32} {g : Int32 → Option ρ} (hd : decode M.2.1 pc = .ok (.iaload, 1)) (hL : E.2.2.2.2.1 = L) (hx : E.2.2.2.2.2 = xs) (k : ∀ v, z_S E M d C S f (pc + 1) lv (zI v :: st) H cs ss (g v)) : z_S E M d C S f pc lv (zI i :: zR (some 0) :: st) H cs ss ((zxl L xs i).bind g) := by
  intro yy hyy p l e s m args below meth c Hp locs ls X hW hl
  subst hL
  subst hx
  obtain ⟨v, hv, h⟩ := Option.bind_eq_some_iff.mp hyy
  obtain ⟨j, hj, hv2⟩ := Option.bind_eq_some_iff.mp hv
  obtain ⟨hin, rfl⟩ := zix_inv hj
  cases hv2
  exact va_sld (b := E.2.2.2.1) X.1 X.2.1 X.2.2.2.2.2.2.2.2.2.1 (Nat.lt_of_le_of_lt X.base.1 X.base.2) (by intro hq; have : z_B E < E.2.2.2.1 := hq; have := X.base.1; omega) hW.2.2.2 hin hd (k _ yy h p l e s m args below meth c Hp locs ls X hW hl)
theorem zs_wid {cs' ss' : Nat} (h1 : cs ≤ cs') (h2 : ss ≤ ss') (k : z_S E M d C S f pc lv st H cs' ss' o) : z_S E M d C S f pc lv st H cs ss o := by
  intro yy hyy p l e s m args below meth c Hp locs ls X hW hl
  exact W.widen h1 h2 (k yy hyy p l e s m args below meth c Hp locs ls X hW hl)
/-- behind a store into an array -/
theorem z_ast_end {k : Nat} {x : zC} {p : Program} {l : Launch} {e : Env} {s : State} {m : MethodId} {args : Array Value} {below : List Frame} {meth : Method} {c : Code} {Hp H' : Heap} {locs : List Loc} {ls : Array Slot} {sl : Nat}
    (X : z_Cx E M p s m args meth c) (hW : z_Wd E H s Hp locs) (hl : lv_has ls M.2.2.1 (z_l E lv)) (hk : 1 ≤ k ∧ k < H.2) (e1 : va_at E.1 classes (z_ad E k, z_c E x) H') (e2 : H'.size = Hp.size) (e3 : ∀ q, q ≠ z_ad E k → H'[q]? = Hp[q]?)
    (kk : z_G E M d C S q (pc + 1) lv st (va_up H.1 k x, H.2) cs ss) : W p l e (z_rm d C S) s m args below meth c H' (locs ++ [⟨z_ad E k, sl⟩]) cs ss (MQ below (z_Q E q) args s C S (z_A E)) (F0 m (pc + 1) ls (st.map (z_v E))) := by
  refine kk p l e s m args below meth c H' _ ls X ⟨by rw [e2]; exact hW.1, hW.2.1, ?_, hW.2.2.2.put e2 e3 (by rw [z_ad_pos hk.1]; show z_B E < z_B E + k; omega)⟩ hl
  rw [z_ad_pos hk.1] at e1 e3
  exact z_P_set hW.2.2.1 hk.1 hk.2 e1 e3
theorem z_iast {t k N : Nat} {g : Nat → Int32} {i x : Int32} (hd : decode M.2.1 pc = .ok (.iastore, 1)) (hk : 1 ≤ k ∧ k < H.2) (ht : zT[t]? = some .int) (hc : H.1 k = .inl (t, N, .inl g)) (hin : vp_in i N) (kk : z_G E M d C S q (pc + 1) lv st (va_up H.1 k (.inl (t, N, .inl (va_up g i.toNatClampNeg x))), H.2) cs ss) : z_G E M d C S q pc lv (zI x :: zI i :: zR (some k) :: st) H cs ss := by
  intro p l e s m args below meth c Hp locs ls X hW hl
  refine W.iast X.1 X.2.1 (hW.2.2.1 (k - 1) _ (z_cell hk hc)) ((X.K.2 t _ (z_ts_at ht)).1 N (fun j => .int (g j))) (fun q => by cases q) (by show ¬ (i < 0 ∨ (arrV _ _ _).slots.size ≤ _); rw [arrV_size]; exact hin) rfl rfl hd fun H1 e1 z oq => ?_
  refine z_ast_end X hW hl hk ?_ z oq kk
  show H1[z_ad E k]? = some (vp_cell _ (N, .inl _))
  rw [e1]
  show some ((vp_cell _ (N, .inl g)).setSlot _ _) = _
  rw [vp_cell_i, vp_cell_i, arrV_store]
  congr 2
  funext q
  by_cases hq : q = i.toNatClampNeg
  · subst hq; simp [updV, va_up]
  · simp [updV, va_up, hq]
theorem z_zast {t k N : Nat} {g : Nat → Int32} {i x : Int32} (hd : decode M.2.1 pc = .ok (.bastore, 1)) (hx : x = 0 ∨ x = 1) (hk : 1 ≤ k ∧ k < H.2) (ht : zT[t]? = some .boolean) (hc : H.1 k = .inl (t, N, .inl g)) (hin : vp_in i N) (kk : z_G E M d C S q (pc + 1) lv st (va_up H.1 k (.inl (t, N, .inl (va_up g i.toNatClampNeg x))), H.2) cs ss) : z_G E M d C S q pc lv (zI x :: zI i :: zR (some k) :: st) H cs ss := by
  intro p l e s m args below meth c Hp locs ls X hW hl
  refine W.zast X.1 X.2.1 (hW.2.2.1 (k - 1) _ (z_cell hk hc)) ((X.K.2 t _ (z_ts_at ht)).1 N (fun j => .int (g j))) (fun q => by cases q) (by show ¬ (i < 0 ∨ (arrV _ _ _).slots.size ≤ _); rw [arrV_size]; exact hin) rfl rfl hd fun H1 e1 z oq => ?_
  refine z_ast_end X hW hl hk ?_ z oq kk
  show H1[z_ad E k]? = some (vp_cell _ (N, .inl _))
  rw [e1]
  have hnx : narrow .boolean (.int x) = .int x := by rcases hx with rfl | rfl <;> decide
  show some ((vp_cell _ (N, .inl g)).setSlot _ _) = _
  rw [vp_cell_i, vp_cell_i, arrV_store]
  congr 2
  funext q
  by_cases hq : q = i.toNatClampNeg
  · subst hq; simp [updV, va_up, hnx]
  · simp [updV, va_up, hq]
theorem z_last {t k N : Nat} {g : Nat → Int64} {i : Int32} {x : Int64} (hd : decode M.2.1 pc = .ok (.lastore, 1)) (hk : 1 ≤ k ∧ k < H.2) (ht : zT[t]? = some .long) (hc : H.1 k = .inl (t, N, .inr (.inl g))) (hin : vp_in i N) (kk : z_G E M d C S q (pc + 1) lv st (va_up H.1 k (.inl (t, N, .inr (.inl (va_up g i.toNatClampNeg x)))), H.2) cs ss) : z_G E M d C S q pc lv (zL x :: zI i :: zR (some k) :: st) H cs ss := by
  intro p l e s m args below meth c Hp locs ls X hW hl
  refine W.last X.1 X.2.1 (hW.2.2.1 (k - 1) _ (z_cell hk hc)) ((X.K.2 t _ (z_ts_at ht)).1 N (fun j => .long (g j))) (fun q => by cases q) (by show ¬ (i < 0 ∨ (arrV _ _ _).slots.size ≤ _); rw [arrV_size]; exact hin) rfl rfl hd fun H1 e1 z oq => ?_
  refine z_ast_end X hW hl hk ?_ z oq kk
  show H1[z_ad E k]? = some (vp_cell _ (N, .inr (.inl _)))
  rw [e1]
  show some ((vp_cell _ (N, .inr (.inl g))).setSlot _ _) = _
  rw [vp_cell_l, vp_cell_l, arrV_store]
  congr 2
  funext q
  by_cases hq : q = i.toNatClampNeg
  · subst hq; simp [updV, va_up]
  · simp [updV, va_up, hq]
theorem z_aast {t k v ci N : Nat} {r : vw_C} {vs : List zV} {g : Nat → Option Nat} {i : Int32} (hd : decode M.2.1 pc = .ok (.aastore, 1)) (hk : 1 ≤ k ∧ k < H.2) (hv : 1 ≤ v ∧ v < H.2) (ht : zT[t]? = some (.object r.1)) (hc : H.1 k = .inl (t, N, .inr (.inr g))) (hcv : H.1 v = .inr (ci, vs)) (hcl : classes[ci]? = some r) (hin : vp_in i N) (kk : z_G E M d C S q (pc + 1) lv st (va_up H.1 k (.inl (t, N, .inr (.inr (va_up g i.toNatClampNeg (some v))))), H.2) cs ss) : z_G E M d C S q pc lv (zR (some v) :: zI i :: zR (some k) :: st) H cs ss := by
  intro p l e s m args below meth c Hp locs ls X hW hl
  have hlt : i.toNatClampNeg < N := Nat.not_le.mp fun q => hin (Or.inr q)
  have h0 : ¬ i < 0 := fun q => hin (Or.inl q)
  obtain ⟨r', hr', cellV, g1, g2, g3, -⟩ := hW.2.2.1 (v - 1) _ (z_cell hv hcv)
  have hcls := (X.K.1 ci r hcl).2
  obtain ⟨kA, comp, k1, k2, k3, -⟩ := (X.K.2 t _ (z_ts_at ht)).2
  have hcomp : comp = E.1.1 ci := Option.some.inj (k3.symm.trans hcls.1)
  subst hcomp
  obtain ⟨kC, hkC, -⟩ := hcls.2
  refine W.aast X.1 X.2.1 (hW.2.2.1 (k - 1) _ (z_cell hk hc)) (fun q h => by cases h) (fun h => by cases h) k1 k2 rfl hkC ⟨h0, by show _ < (arrV _ _ _).slots.size; rw [arrV_size]; exact hlt⟩ g1 (fun q h => by rw [g3] at h; cases h) (by rw [g2]; exact hkC) (by rw [g2]; exact va_assign hcls) rfl rfl hd fun H1 e1 z oq => ?_
  refine z_ast_end X hW hl hk ?_ z oq kk
  show H1[z_ad E k]? = some (vp_cell _ (N, .inr (.inr (.inr (.inr _)))))
  rw [e1]
  show some ((vp_cell _ (N, .inr (.inr (.inr (.inr (fun j => (g j).map (z_ad E))))))).setSlot _ _) = _
  rw [vp_cell_q, vp_cell_q, arrV_store]
  congr 2
  funext q
  by_cases hq : q = i.toNatClampNeg
  · subst hq; simp [updV, va_up, va_rf]
  · simp [updV, va_up, hq]

theorem zsI_inv {r : Option Nat} {t : Nat} {i : Int32} {x : Int32} {H' : zH} (h : zsI H r t i x = some H') : ∃ k N g, r = some k ∧ (1 ≤ k ∧ k < H.2) ∧ H.1 k = .inl (t, N, .inl g) ∧ vp_in i N ∧ H' = (va_up H.1 k (.inl (t, N, .inl (va_up g i.toNatClampNeg x))), H.2) := by
  unfold zsI at h
  obtain ⟨k, hr, h1⟩ := Option.bind_eq_some_iff.mp h
  clear h
  obtain ⟨⟨N, a⟩, ha, h2⟩ := Option.bind_eq_some_iff.mp h1
  clear h1
  obtain ⟨j, hj, h3⟩ := Option.bind_eq_some_iff.mp h2
  clear h2
  obtain ⟨b, hb, h4⟩ := Option.bind_eq_some_iff.mp h3
  clear h3
  obtain ⟨k', hk', hk, hc⟩ := zar_inv ha
  have hkk : k' = k := Option.some.inj (hk'.symm.trans hr)
  subst hkk
  obtain ⟨hin, hj2⟩ := zix_inv hj
  obtain ⟨g, hg, hb2⟩ := zsi_inv hb
  have hg : a = _ := hg
  subst hg
  exact ⟨k', N, g, hk', hk, hc, hin, by rw [← Option.some.inj h4, hb2, hj2]⟩
theorem zsL_inv {r : Option Nat} {t : Nat} {i : Int32} {x : Int64} {H' : zH} (h : zsL H r t i x = some H') : ∃ k N g, r = some k ∧ (1 ≤ k ∧ k < H.2) ∧ H.1 k = .inl (t, N, .inr (.inl g)) ∧ vp_in i N ∧ H' = (va_up H.1 k (.inl (t, N, .inr (.inl (va_up g i.toNatClampNeg x)))), H.2) := by
  unfold zsL at h
  obtain ⟨k, hr, h1⟩ := Option.bind_eq_some_iff.mp h
  clear h
  obtain ⟨⟨N, a⟩, ha, h2⟩ := Option.bind_eq_some_iff.mp h1
  clear h1
  obtain ⟨j, hj, h3⟩ := Option.bind_eq_some_iff.mp h2
  clear h2
  obtain ⟨b, hb, h4⟩ := Option.bind_eq_some_iff.mp h3
  clear h3
  obtain ⟨k', hk', hk, hc⟩ := zar_inv ha
  have hkk : k' = k := Option.some.inj (hk'.symm.trans hr)
  subst hkk
  obtain ⟨hin, hj2⟩ := zix_inv hj
  obtain ⟨g, hg, hb2⟩ := zsl_inv hb
  have hg : a = _ := hg
  subst hg
  exact ⟨k', N, g, hk', hk, hc, hin, by rw [← Option.some.inj h4, hb2, hj2]⟩
theorem zsR_inv {r : Option Nat} {t ci : Nat} {i : Int32} {x : Option Nat} {H' : zH} (h : zsR H r t i ci x = some H') : ∃ k N g v vs, r = some k ∧ x = some v ∧ (1 ≤ k ∧ k < H.2) ∧ (1 ≤ v ∧ v < H.2) ∧ H.1 v = .inr (ci, vs) ∧ H.1 k = .inl (t, N, .inr (.inr g)) ∧ vp_in i N ∧ H' = (va_up H.1 k (.inl (t, N, .inr (.inr (va_up g i.toNatClampNeg x)))), H.2) := by
  unfold zsR at h
  obtain ⟨k, hr, h0⟩ := Option.bind_eq_some_iff.mp h
  clear h
  obtain ⟨u, hx, h1⟩ := Option.bind_eq_some_iff.mp h0
  clear h0
  obtain ⟨⟨N, a⟩, ha, h2⟩ := Option.bind_eq_some_iff.mp h1
  clear h1
  obtain ⟨j, hj, h3⟩ := Option.bind_eq_some_iff.mp h2
  clear h2
  obtain ⟨b, hb, h4⟩ := Option.bind_eq_some_iff.mp h3
  clear h3
  obtain ⟨k', hk', hk, hc⟩ := zar_inv ha
  have hkk : k' = k := Option.some.inj (hk'.symm.trans hr)
  subst hkk
  obtain ⟨hin, hj2⟩ := zix_inv hj
  obtain ⟨g, hg, hb2⟩ := zsa_inv hb
  have hg : a = _ := hg
  subst hg
  obtain ⟨vs, hvs, -⟩ := Option.bind_eq_some_iff.mp hx
  obtain ⟨v, hv0, hv, hcv⟩ := zfs_inv hvs
  exact ⟨k', N, g, v, vs, hk', hv0, hk, hv, hcv, hc, hin, by rw [← Option.some.inj h4, hb2, hj2]⟩
theorem zsZ_inv {r : Option Nat} {t : Nat} {i x : Int32} {H' : zH} (h : zsZ H r t i x = some H') : (x = 0 ∨ x = 1) ∧ zsI H r t i x = some H' := by
  unfold zsZ at h
  split at h
  · next hx => exact ⟨hx, h⟩
  · cases h
theorem zs_iast {t : Nat} {r : Option Nat} {i : Int32} {x : Int32} {g : zH → Option ρ} (hd : decode M.2.1 pc = .ok (.iastore, 1)) (ht : zT[t]? = some .int) (k : ∀ H', z_S E M d C S f (pc + 1) lv st H' cs ss (g H')) : z_S E M d C S f pc lv (zI x :: zI i :: zR r :: st) H cs ss ((zsI H r t i x).bind g) := by
  intro yy hyy
  obtain ⟨H', hv, h⟩ := Option.bind_eq_some_iff.mp hyy
  obtain ⟨a, N, ff, rfl, hk, hc, hin, rfl⟩ := zsI_inv hv
  exact z_iast hd hk ht hc hin (k _ yy h)
theorem zs_last {t : Nat} {r : Option Nat} {i : Int32} {x : Int64} {g : zH → Option ρ} (hd : decode M.2.1 pc = .ok (.lastore, 1)) (ht : zT[t]? = some .long) (k : ∀ H', z_S E M d C S f (pc + 1) lv st H' cs ss (g H')) : z_S E M d C S f pc lv (zL x :: zI i :: zR r :: st) H cs ss ((zsL H r t i x).bind g) := by
  intro yy hyy
  obtain ⟨H', hv, h⟩ := Option.bind_eq_some_iff.mp hyy
  obtain ⟨a, N, ff, rfl, hk, hc, hin, rfl⟩ := zsL_inv hv
  exact z_last hd hk ht hc hin (k _ yy h)
theorem zs_zast {t : Nat} {r : Option Nat} {i x : Int32} {g : zH → Option ρ} (hd : decode M.2.1 pc = .ok (.bastore, 1)) (ht : zT[t]? = some .boolean) (k : ∀ H', z_S E M d C S f (pc + 1) lv st H' cs ss (g H')) : z_S E M d C S f pc lv (zI x :: zI i :: zR r :: st) H cs ss ((zsZ H r t i x).bind g) := by
  intro yy hyy
  obtain ⟨H', hv, h⟩ := Option.bind_eq_some_iff.mp hyy
  obtain ⟨hx, hv⟩ := zsZ_inv hv
  obtain ⟨a, N, ff, rfl, hk, hc, hin, rfl⟩ := zsI_inv hv
  exact z_zast hd hx hk ht hc hin (k _ yy h)
theorem zs_aast {t ci : Nat} {cl : vw_C} {r x : Option Nat} {i : Int32} {g : zH → Option ρ} (hd : decode M.2.1 pc = .ok (.aastore, 1)) (ht : zT[t]? = some (.object cl.1)) (hcl : classes[ci]? = some cl) (k : ∀ H', z_S E M d C S f (pc + 1) lv st H' cs ss (g H')) : z_S E M d C S f pc lv (zR x :: zI i :: zR r :: st) H cs ss ((zsR H r t i ci x).bind g) := by
  intro yy hyy
  obtain ⟨H', hv, h⟩ := Option.bind_eq_some_iff.mp hyy
  obtain ⟨a, N, ff, v, vs, rfl, rfl, hk, hvk, hcv, hc, hin, rfl⟩ := zsR_inv hv
  exact z_aast hd hk hvk ht hc hcv hcl hin (k _ yy h)
-- new cells
/-- behind a new cell -/
theorem z_new_end {x : zC} {len N : Nat} {p : Program} {l : Launch} {e : Env} {s : State} {m : MethodId} {args : Array Value} {below : List Frame} {meth : Method} {c : Code} {Hp H' : Heap} {locs : List Loc} {ls : Array Slot}
    (X : z_Cx E M p s m args meth c) (hW : z_Wd E H s Hp locs) (hl : lv_has ls M.2.2.1 (z_l E lv)) (e1 : va_at E.1 classes (z_B E + H.2, z_c E x) H') (e2 : H'.size = Hp.size + 1) (e3 : ∀ q, q < Hp.size → H'[q]? = Hp[q]?)
    (kk : z_G E M d C S q (pc + len) lv (zR (some H.2) :: st) (va_up H.1 H.2 x, H.2 + 1) (cs + 1) (ss + N)) : W p l e (z_rm d C S) s m args below meth c H' locs (cs + 1) (ss + N) (MQ below (z_Q E q) args s C S (z_A E)) (F0 m (pc + len) ls (.ref Hp.size :: st.map (z_v E))) := by
  have k1 := kk p l e s m args below meth c H' locs ls X ⟨by rw [e2, hW.1, Nat.add_assoc], by show 1 ≤ H.2 + 1; omega, z_P_push hW.2.2.1 hW.2.1 hW.1 e1 e3, ⟨Nat.le_trans hW.2.2.2.1 (by omega), fun q h1 h2 => (e3 q (Nat.lt_of_lt_of_le h1 hW.2.2.2.1)).trans (hW.2.2.2.2.1 q h1 h2), hW.2.2.2.2.2⟩⟩ hl
  rw [List.map_cons, show z_v E (zR (some H.2)) = .ref Hp.size by rw [hW.1]; show Value.ref (z_ad E H.2) = _; rw [z_ad_pos hW.2.1]] at k1
  exact k1
/-- a class that can be made, with the values of a new object -/
def z_N (own : String) (idx ci N : Nat) (fs : List zV) : Prop := ∃ (Cn : String) (T : u_T) (ty : Nat → FieldType), z_K ci Cn T N ∧ Cond.classLink own idx Cn ∈ z_tb ∧ Cond.instantiable Cn N ∈ z_tb ∧ Cond.initialized Cn ∈ z_tb ∧ (∀ k, k < N → parseFieldDescriptor (T k).2.2.1 = some (ty k)) ∧ ∀ E : zE, ∀ j, j < N → defaultValue (ty j) = vp_V (fs.map (z_v E)) j
def zno (H : zH) (x : zC) : Option zH := some (znw H x)
theorem zs_new {idx ci N : Nat} {fs : List zV} {g : zH → Option ρ} (hd : decode M.2.1 pc = .ok (.new idx, 3)) (lk : z_N M.1.cls idx ci N fs) (hcs : cs + 1 ≤ C) (hss : ss + N ≤ S) (k : ∀ H', z_S E M d C S f (pc + 3) lv (zR (some H.2) :: st) H' (cs + 1) (ss + N) (g H')) : z_S E M d C S f pc lv st H cs ss ((zno H (.inr (ci, fs))).bind g) := by
  intro yy hyy p l e s m args below meth c Hp locs ls X hW hl
  obtain ⟨Cn, T, ty, ⟨hcl, hin⟩, l1, l2, l3, hty, hfs⟩ := lk
  have hts := X.words
  have hKn := X.K.1 ci _ hcl
  refine W.newcK X.1 X.2.1 X.own (hts _ l1) (hts _ l2) (hts _ l3) rfl hd hcs hss hKn.2.1 rfl fun H1 kC hkC e1 z1 o1 => ?_
  refine z_new_end (len := 3) X hW hl ?_ z1 o1 (k _ yy hyy)
  rw [hW.1] at e1
  refine ⟨_, hcl, ?_⟩
  show t_OB (z_B E + H.2) (E.1.1 ci) N (E.1.2 ci) H1 (vp_V (fs.map (z_v E)))
  exact (u_born ty hts hin hKn hkC e1 hty).to (hfs E)
theorem znc_inv {i : Int32} {cap N : Nat} (h : znc i cap = some N) : ¬ i < 0 ∧ i.toNatClampNeg = N ∧ N ≤ cap := by
  unfold znc at h
  split at h
  · cases h
  · next hn =>
    cases h
    exact ⟨fun q => hn (Or.inl q), rfl, Nat.not_lt.mp fun q => hn (Or.inr q)⟩
theorem zs_newa {at_ : ArrayType} {t N cap : Nat} {i : Int32} {x : zA} {g : zH → Option ρ} (hd : decode M.2.1 pc = .ok (.newarray at_, 2)) (hw : Cond.arrayClass (newarray.typeOf at_) ∈ z_tb) (ht : zT[t]? = some (newarray.typeOf at_)) (hx : ∀ (E : zE) (cA : ClassId), vp_cell cA (z_x E (N, x)) = arrV cA N (fun _ => defaultValue (newarray.typeOf at_))) (hN : znc i cap = some N) (hb : cap * componentBytes (newarray.typeOf at_) ≤ 536870912) (hcs : cs + 1 ≤ C) (hss : ss + cap ≤ S) (k : ∀ H', z_S E M d C S f (pc + 2) lv (zR (some H.2) :: st) H' (cs + 1) (ss + cap) (g H')) : z_S E M d C S f pc lv (zI i :: st) H cs ss ((zno H (.inl (t, N, x))).bind g) := by
  intro yy hyy p l e s m args below meth c Hp locs ls X hW hl
  obtain ⟨h0, hN, hcap⟩ := znc_inv hN
  refine va_newaK X.1 X.2.1 (X.words _ hw) rfl hd rfl h0 hN (Nat.le_trans (Nat.mul_le_mul_right _ hcap) hb) hcs (Nat.le_trans (Nat.add_le_add_left hcap _) hss) rfl fun H1 cA e1 z1 o1 _ hNm => ?_
  have hcA : cA = E.2.1 t := by
    have hRA := (X.K.2 t _ (z_ts_at ht)).2
    have h2 : s.vm.findClass ("[" ++ (newarray.typeOf at_).toString) = some (E.2.1 t) := by cases at_ <;> exact hRA
    exact Option.some.inj (hNm.symm.trans h2)
  subst hcA
  refine W.widen (Nat.le_refl _) (Nat.add_le_add_left hcap _) ?_
  refine z_new_end (len := 2) X hW hl ?_ z1 o1 (k _ yy hyy)
  show H1[z_B E + H.2]? = some (vp_cell _ (z_x E (N, x)))
  rw [hx, ← hW.1]
  exact e1
theorem zs_anew {idx t N cap : Nat} {Cn : String} {i : Int32} {g : zH → Option ρ} (hd : decode M.2.1 pc = .ok (.anewarray idx, 3)) (hw : Cond.classLink M.1.cls idx Cn ∈ z_tb) (hw2 : Cond.arrayOver (.object Cn) ∈ z_nb) (ht : zT[t]? = some (.object Cn)) (hN : znc i cap = some N) (hb : cap * 4 ≤ 536870912) (hcs : cs + 1 ≤ C) (hss : ss + cap ≤ S) (k : ∀ H', z_S E M d C S f (pc + 3) lv (zR (some H.2) :: st) H' (cs + 1) (ss + cap) (g H')) : z_S E M d C S f pc lv (zI i :: st) H cs ss ((zno H (.inl (t, N, .inr (.inr (fun _ => none))))).bind g) := by
  intro yy hyy p l e s m args below meth c Hp locs ls X hW hl
  obtain ⟨h0, rfl, hcap⟩ := znc_inv hN
  refine W.anew X.1 X.2.1 X.own (X.words _ hw) (va_AO.use (X.NW _ hw2)) rfl hd rfl h0 (Nat.le_trans (Nat.mul_le_mul_right 4 hcap) hb) hcs (Nat.le_trans (Nat.add_le_add_left hcap _) hss) fun cA kA comp f1 f2 f3 f4 => ?_
  have hcA : cA = E.2.1 t := by
    obtain ⟨_, _, -, -, -, h4⟩ := (X.K.2 t _ (z_ts_at ht)).2
    exact Option.some.inj (f1.symm.trans h4)
  subst hcA
  generalize hH1 : Hp.push ({ cls := E.2.1 t, slots := Array.replicate i.toNatClampNeg .null, vm := .none } : Cell) = H1
  have z1 : H1.size = Hp.size + 1 := by rw [← hH1, Array.size_push]
  have e1 : H1[Hp.size]? = some (arrV (E.2.1 t) i.toNatClampNeg (fun _ => .null)) := by rw [← hH1, Array.getElem?_push_size, ← arrV_new]
  have o1 : ∀ q : Nat, q < Hp.size → H1[q]? = Hp[q]? := fun q hq => by rw [← hH1, Array.getElem?_push, if_neg (Nat.ne_of_lt hq)]
  refine W.widen (Nat.le_refl _) (Nat.add_le_add_left hcap _) ?_
  refine z_new_end (len := 3) X hW hl ?_ z1 o1 (k _ yy hyy)
  rw [hW.1] at e1
  exact e1
-- ends
theorem z_end {p : Program} {s : State} {m : MethodId} {args : Array Value} {meth : Method} {c : Code} {Hp : Heap} {locs : List Loc} {r : Option zV} (X : z_Cx E M p s m args meth c) (hW : z_Wd E H s Hp locs) : ∀ t : State, t.heap = Hp → s.WarmedH t.vm → z_Q E (r, H) args s (.returned (r.map (z_v E))) t :=
  fun t ht hv => ⟨⟨rfl, z_holds X hW ht hv⟩, hW.2.2.2.F ht⟩
theorem zs_iret {v : Int32} {y : ρ} (hd : decode M.2.1 pc = .ok (.ireturn, 1)) (hr : M.2.2.2 = some .int) (hcs : cs ≤ C) (hss : ss ≤ S) (hp : f y = (some (zI v), H)) : z_S E M d C S f pc lv [zI v] H cs ss (some y) := by
  intro yy hyy p l e s m args below meth c Hp locs ls X hW hl
  cases hyy
  rw [hp]
  exact W.widen hcs hss (W.iret (v := v) X.1 X.2.1 (X.2.2.2.1.trans hr) (z_end (r := some (zI v)) X hW) hW.2.2.2.2.2 hd X.2.2.2.2.1)
def zbo (x : Int32) : Option Int32 := if x = 0 ∨ x = 1 then some x else none
theorem zbo_inv {x y : Int32} (h : zbo x = some y) : (x = 0 ∨ x = 1) ∧ x = y := by
  unfold zbo at h
  split at h
  · next hx => exact ⟨hx, Option.some.inj h⟩
  · cases h
theorem zs_zret {v : Int32} {g : Int32 → ρ} (hd : decode M.2.1 pc = .ok (.ireturn, 1)) (hr : M.2.2.2 = some .boolean) (hcs : cs ≤ C) (hss : ss ≤ S) (hp : f (g v) = (some (zI v), H)) : z_S E M d C S f pc lv [zI v] H cs ss ((zbo v).bind fun x => some (g x)) := by
  intro yy hyy p l e s m args below meth c Hp locs ls X hW hl
  obtain ⟨v', hv, h⟩ := Option.bind_eq_some_iff.mp hyy
  obtain ⟨hx, rfl⟩ := zbo_inv hv
  cases h
  rw [hp]
  have hnx : narrow .boolean (.int v) = .int v := by rcases hx with rfl | rfl <;> decide
  exact W.widen hcs hss (W.zret (v := v) X.1 X.2.1 (X.2.2.2.1.trans hr) hnx (z_end (r := some (zI v)) X hW) hW.2.2.2.2.2 hd X.2.2.2.2.1)
theorem zs_zretc {v : Int32} {y : ρ} (hd : decode M.2.1 pc = .ok (.ireturn, 1)) (hr : M.2.2.2 = some .boolean) (hx : v = 0 ∨ v = 1) (hcs : cs ≤ C) (hss : ss ≤ S) (hp : f y = (some (zI v), H)) : z_S E M d C S f pc lv [zI v] H cs ss (some y) := by
  intro yy hyy p l e s m args below meth c Hp locs ls X hW hl
  cases hyy
  rw [hp]
  have hnx : narrow .boolean (.int v) = .int v := by rcases hx with rfl | rfl <;> decide
  exact W.widen hcs hss (W.zret (v := v) X.1 X.2.1 (X.2.2.2.1.trans hr) hnx (z_end (r := some (zI v)) X hW) hW.2.2.2.2.2 hd X.2.2.2.2.1)
theorem zs_lret {v : Int64} {y : ρ} (hd : decode M.2.1 pc = .ok (.lreturn, 1)) (hr : M.2.2.2 = some .long) (hcs : cs ≤ C) (hss : ss ≤ S) (hp : f y = (some (zL v), H)) : z_S E M d C S f pc lv [zL v] H cs ss (some y) := by
  intro yy hyy p l e s m args below meth c Hp locs ls X hW hl
  cases hyy
  rw [hp]
  exact W.widen hcs hss (W.lret (v := v) X.1 X.2.1 (X.2.2.2.1.trans hr) (z_end (r := some (zL v)) X hW) hW.2.2.2.2.2 hd X.2.2.2.2.1)
theorem zs_vret {y : ρ} (hd : decode M.2.1 pc = .ok (.return_, 1)) (hr : M.2.2.2 = none) (hcs : cs ≤ C) (hss : ss ≤ S) (hp : f y = (none, H)) : z_S E M d C S f pc lv [] H cs ss (some y) := by
  intro yy hyy p l e s m args below meth c Hp locs ls X hW hl
  cases hyy
  rw [hp]
  exact W.widen hcs hss (W.vret X.1 X.2.1 (X.2.2.2.1.trans hr) (z_end (r := none) X hW) hW.2.2.2.2.2 hd X.2.2.2.2.1)
theorem zs_aret {v : Option Nat} {n : String} {y : ρ} (hd : decode M.2.1 pc = .ok (.areturn, 1)) (hr : M.2.2.2 = some (.object n)) (hcs : cs ≤ C) (hss : ss ≤ S) (hp : f y = (some (zR v), H)) : z_S E M d C S f pc lv [zR v] H cs ss (some y) := by
  intro yy hyy p l e s m args below meth c Hp locs ls X hW hl
  cases hyy
  rw [hp]
  refine W.widen hcs hss (W.aret (v := z_v E (zR v)) X.1 X.2.1 (X.2.2.2.1.trans hr) (Or.inl ⟨_, rfl⟩) ?_ (z_end (r := some (zR v)) X hW) hW.2.2.2.2.2 hd X.2.2.2.2.1)
  cases v
  · exact Or.inl rfl
  · exact Or.inr ⟨_, rfl⟩
-- entry
def z_args (i : Nat) : List zV → List (Nat × zV)
  | [] => []
  | v :: t => (i, v) :: z_args (if z_cat v = 2 then i + 2 else i + 1) t
def z_sum : List zV → Nat
  | [] => 0
  | v :: t => z_cat v + z_sum t
theorem z_sl_len (E : zE) (av : List zV) : (lg_sl (av.map (z_v E))).length = z_sum av := by
  induction av with
  | nil => rfl
  | cons v t ih =>
    show (lg_sl (z_v E v :: t.map (z_v E))).length = z_cat v + z_sum t
    rw [← ih, ← z_v_cat E v]
    simp only [lg_sl, List.flatMap_cons, List.length_append]
    rcases v with x | x | _ | k <;> rfl
theorem z_args_eq (E : zE) : ∀ (av : List zV) (i : Nat), lv_args i (av.map (z_v E)) = z_l E (z_args i av)
  | [], _ => rfl
  | v :: t, i => by
    show (i, z_v E v) :: lv_args (if (z_v E v).category = 2 then i + 2 else i + 1) (t.map (z_v E)) = (i, z_v E v) :: z_l E (z_args (if z_cat v = 2 then i + 2 else i + 1) t)
    rw [z_v_cat, z_args_eq E t]
theorem zs_of {av : List zV} {lv0 : List (Nat × zV)} (hy : plainName M.1.cls = true) (hlen : z_sum av ≤ M.2.2.1) (hlv : z_args 0 av = lv0) (k : z_S E M d C S f 0 lv0 [] H 0 0 o) : z_MS E M d C S f av H o := by
  intro yy hyy l
  subst hlv
  refine Met.ofW (cc := M.2.1) (maxL := M.2.2.1) (ret := M.2.2.2) hy rfl ?_
  intro p e s m args below meth c s₁ B hml hv
  obtain ⟨rfl, hz, hn1, hP, hK, hX, hb, hNW⟩ := hv
  have hl := lv_entry (av.map (z_v E)) (n := M.2.2.1) (by rw [z_sl_len]; exact hlen)
  rw [lg_entry_eq]
  generalize (lg_sl (av.map (z_v E)) ++ List.replicate (M.2.2.1 - (lg_sl (av.map (z_v E))).length) Slot.unset).toArray = ls at hl ⊢
  rw [z_args_eq] at hl
  exact k yy hyy p l e s m _ below meth c s.heap [] ls ⟨B.exec, B.bytes, hml, B.returns, B.notSynchronized, fun h => (name_of_methodNamed B.named B.method).1.trans h, findClass_of_methodNamed B.named, fun w hw => atoms_spec (ws := z_ws M) B.pre w (List.mem_cons_of_mem _ hw), hK, hX, hb, by omega, hNW⟩ ⟨hz, hn1, hP, va_S.rf⟩ hl
-- calls
theorem z_go {q' : zQ} {p : Program} {l : Launch} {e : Env} {s : State} {m : MethodId} {args a : Array Value} {below : List Frame} {meth : Method} {c : Code} {Hp : Heap} {locs : List Loc} {ls : Array Slot} {R : Room} {mc ms : Nat} {Qw : State → Prop} {rest st0 : List Value}
    (hS : va_S (z_A E) s.heap Hp locs) (hr : va_Run p l e R s m args below meth c Hp locs cs ss mc ms (F0 m pc ls st0) rest (z_Q E q' a) (z_A E))
    (kk : ∀ (H1 : Heap) (locs1 : List Loc), z_Wd E q'.2 s H1 locs1 → W p l e R s m args below meth c H1 locs1 (cs + mc) (ss + ms) Qw (F0 m (pc + 3) ls ((q'.1.map (z_v E)).toList ++ rest))) : W p l e R s m args below meth c Hp locs cs ss Qw (F0 m pc ls st0) := by
  intro T hT X
  obtain ⟨v, st₀, t, T', L, h0, X', hL, e1, e2, ⟨⟨hv, hH⟩, hz, hk⟩, st⟩ := hr T hT X
  cases hv
  rw [h0] at hz hk
  obtain ⟨t2, a1, b1⟩ := kk T'.heap (locs ++ L) ⟨by rw [e1]; exact hH.1, hH.2.1, by rw [e1]; exact hH.2.2.1, Nat.le_trans hS.1 (by rw [e1]; exact hz), fun q h1 h2 => by rw [e1, hk q (Nat.lt_of_lt_of_le h1 hS.1) h2]; exact hS.2.1 q h1 h2, fun q hq => (List.mem_append.mp hq).elim (hS.2.2 q) (hL q)⟩ T' rfl X'
  exact ⟨t2, st t2 a1, b1⟩
theorem z_blind {av : List Value} : FrameBlind (va_Pc av (z_H E H)) := fun a U g mk q => by
  obtain ⟨q0, q1, q2, q3, q4, q5, q6, q7⟩ := q
  exact ⟨q0, q1, q2, q3, va_K.moved (u := U) (U := U.calling g mk a) (Vm.Alike.refl U.vm) q4, q5.moved (u := U) (U := U.calling g mk a) (Vm.Alike.refl U.vm), q6, z_NW.same (u := U) (U := U.calling g mk a) rfl q7⟩
theorem z_good {M' : zM} (hc : Cond.code M'.1 M'.2.1 M'.2.2.1 M'.2.2.2 ∈ z_tb) : GoodIn z_tb (z_ws M') := by
  intro w hw
  have hw' : w ∈ z_tb := by
    rcases List.mem_cons.mp hw with rfl | h
    · exact hc
    · exact h
  exact ⟨hw', good_of_word (List.mem_filter.mp hw').2⟩
/-- what a call's place of the pool stands for -/
def z_L (own : String) (idx : Nat) (M' : zM) (na : Nat) : Prop := (Cond.methodLink own idx M'.1 ∈ z_tb ∨ ∃ host, Cond.methodLinkNest own idx M'.1 host ∈ z_nb) ∧ Cond.code M'.1 M'.2.1 M'.2.2.1 M'.2.2.2 ∈ z_tb ∧ Cond.initialized M'.1.cls ∈ z_tb ∧ M'.1.cls ≠ "java/lang/invoke/MethodHandle" ∧ M'.1.cls ≠ "java/lang/invoke/VarHandle" ∧ (parseMethodDescriptor M'.1.desc).map (fun q => q.parameters.length) = some na ∧ M'.2.2.1 ≤ 45
theorem z_room {d' C' S' : Nat} {M' : zM} (hd : d' < d) (h45 : M'.2.2.1 ≤ 45) : (z_rm d' C' S').frames + 1 ≤ (z_rm d C S).frames ∧ 8 + (M'.2.2.1 + 11) + (z_rm d' C' S').locals ≤ (z_rm d C S).locals := by
  refine ⟨hd, ?_⟩
  show 8 + (M'.2.2.1 + 11) + 64 * d' ≤ 64 * d
  omega
theorem z_back {r : Option zV} : (r.map (z_v E)).toList ++ st.map (z_v E) = (r.toList ++ st).map (z_v E) := by cases r <;> rfl
theorem z_mon (st : List zV) : ((st.map (z_v E)).map fun v => v.category).sum = z_sum st := by
  induction st with
  | nil => rfl
  | cons v t ih =>
    show (z_v E v).category + ((t.map (z_v E)).map fun v => v.category).sum = z_cat v + z_sum t
    rw [ih, z_v_cat]
def z_LS (own : String) (idx : Nat) (M' : zM) (na : Nat) : Prop := z_L own idx M' na ∧ Cond.static M'.1 ∈ z_tb
def z_LV (own : String) (idx : Nat) (M' : zM) (na ci : Nat) : Prop := z_L own idx M' na ∧ Cond.instanceMethod M'.1 ∈ z_tb ∧ ∃ (Cn : String) (T : u_T) (N : Nat), classes[ci]? = some (Cn, T, N) ∧ Cond.selects Cn M'.1 M'.1 ∈ z_tb
def z_LI (own : String) (idx : Nat) (M' : zM) (na : Nat) : Prop := z_L own idx M' na ∧ Cond.instanceMethod M'.1 ∈ z_tb ∧ M'.1.name = "<init>" ∧ M'.2.2.2 = none
section ZCall
variable {σ : Type} {f' : σ → zQ} {o' : Option σ} {g : σ → Option ρ} {M' : zM} {d' C' S' idx na ci : Nat} {av st0 : List zV} {r : Option Nat}
theorem zs_calls0 (hd : decode M.2.1 pc = .ok (.invokestatic idx, 3)) (lk : z_LS M.1.cls idx M' na) (hM : z_MS E M' d' C' S' f' av H o') (hdd : d' < d) (hC : cs + C' ≤ C) (hS : ss + S' ≤ S) (hna : av.length = na) (hst : st0 = av.reverse ++ st) (h8 : z_sum st ≤ 8) (kk : ∀ y, z_S E M d C S f (pc + 3) lv ((f' y).1.toList ++ st) (f' y).2 (cs + C') (ss + S') (g y)) : z_S E M d C S f pc lv st0 H cs ss (o'.bind g) := by
  intro yy hyy p l e s m args below meth c Hp locs ls X hW hl
  obtain ⟨y, hy, h⟩ := Option.bind_eq_some_iff.mp hyy
  have hts := X.2.2.2.2.2.2.2.1
  have fin : ∀ (H1 : Heap) (locs1 : List Loc), z_Wd E (f' y).2 s H1 locs1 → W p l e (z_rm d C S) s m args below meth c H1 locs1 (cs + C') (ss + S') (MQ below (z_Q E (f yy)) args s C S (z_A E)) (F0 m (pc + 3) ls (((f' y).1.map (z_v E)).toList ++ st.map (z_v E))) := fun H1 locs1 hW' => by
    rw [z_back]
    exact kk y yy h p l e s m args below meth c H1 locs1 ls X hW' hl
  obtain ⟨⟨hlk, hcode, hini, hy1, hy2, hpar, h45⟩, hw⟩ := lk
  have hp : PreS s Hp (va_Pc (av.map (z_v E)) (z_H E H)) (av.map (z_v E)) := ⟨z_blind, fun U hU hv => ⟨rfl, z_holds X hW hU hv⟩⟩
  have hstk : st0.map (z_v E) = (av.map (z_v E)).reverse ++ st.map (z_v E) := by rw [hst, List.map_append, List.map_reverse]
  have hR := z_room (C := C) (S := S) (C' := C') (S' := S') (M' := M') hdd h45
  have hMl := hM y hy l
  rcases hlk with hlk | ⟨host, hlk⟩
  · exact z_go hW.2.2.2 (va_runS (As := av.map (z_v E)) (rest := st.map (z_v E)) ⟨X.1, X.2.1, X.2.2.1, X.own, hts⟩ hMl ⟨callB_of na hts (z_good hcode) rfl rfl rfl (X.words _ hini) (X.words _ hlk) ⟨hy1, hy2, hpar⟩ hR, X.words _ hw⟩ hp rfl (by rw [List.length_map]; exact hna) hl.1 hstk (lv_room (by rw [z_mon]; exact h8)) hd ⟨hC, hS⟩) fin
  · exact z_go hW.2.2.2 (va_runSN (As := av.map (z_v E)) (rest := st.map (z_v E)) ⟨X.1, X.2.1, X.2.2.1, X.own, hts⟩ hMl ⟨va_cnB na hts (z_good hcode) rfl rfl rfl (X.NW _ hlk) (X.words _ hini) ⟨hy1, hy2, hpar⟩ hR, X.words _ hw, trivial⟩ hp rfl (by rw [List.length_map]; exact hna) hl.1 hstk (lv_room (by rw [z_mon]; exact h8)) hd ⟨hC, hS⟩) fin
theorem zs_callv0 (hd : decode M.2.1 pc = .ok (.invokevirtual idx, 3)) (lk : z_LV M.1.cls idx M' na ci) (hok : ∀ y, o' = some y → zok H r ci = some ()) (hM : z_MS E M' d' C' S' f' (zR r :: av) H o') (hdd : d' < d) (hC : cs + C' ≤ C) (hS : ss + S' ≤ S) (hna : av.length = na) (hst : st0 = av.reverse ++ zR r :: st) (h8 : z_sum st ≤ 8) (kk : ∀ y, z_S E M d C S f (pc + 3) lv ((f' y).1.toList ++ st) (f' y).2 (cs + C') (ss + S') (g y)) : z_S E M d C S f pc lv st0 H cs ss (o'.bind g) := by
  intro yy hyy p l e s m args below meth c Hp locs ls X hW hl
  obtain ⟨y, hy, h⟩ := Option.bind_eq_some_iff.mp hyy
  have hts := X.2.2.2.2.2.2.2.1
  have fin : ∀ (H1 : Heap) (locs1 : List Loc), z_Wd E (f' y).2 s H1 locs1 → W p l e (z_rm d C S) s m args below meth c H1 locs1 (cs + C') (ss + S') (MQ below (z_Q E (f yy)) args s C S (z_A E)) (F0 m (pc + 3) ls (((f' y).1.map (z_v E)).toList ++ st.map (z_v E))) := fun H1 locs1 hW' => by
    rw [z_back]
    exact kk y yy h p l e s m args below meth c H1 locs1 ls X hW' hl
  obtain ⟨⟨hlk, hcode, hini, hy1, hy2, hpar, h45⟩, hw, Cn, T, N, hcl, hw2⟩ := lk
  obtain ⟨fs, hfs, -⟩ := Option.bind_eq_some_iff.mp (hok y hy)
  obtain ⟨k, rfl, hk, hc⟩ := zfs_inv hfs
  have hp : PreV s Hp Cn (z_ad E k) (va_Pc ((zR (some k) :: av).map (z_v E)) (z_H E H)) (av.map (z_v E)) := ⟨z_blind, va_recv X.K hW.2.2.1 hcl (z_cell hk hc), fun U hU hv => ⟨rfl, z_holds X hW hU hv⟩⟩
  have hstk : st0.map (z_v E) = (av.map (z_v E)).reverse ++ .ref (z_ad E k) :: st.map (z_v E) := by rw [hst, List.map_append, List.map_reverse]; rfl
  have hR := z_room (C := C) (S := S) (C' := C') (S' := S') (M' := M') hdd h45
  have hMl := hM y hy l
  rcases hlk with hlk | ⟨host, hlk⟩
  · exact z_go hW.2.2.2 (va_runV (C := Cn) (As := av.map (z_v E)) (rest := st.map (z_v E)) ⟨X.1, X.2.1, X.2.2.1, X.own, hts⟩ hMl ⟨callB_of na hts (z_good hcode) rfl rfl rfl (X.words _ hini) (X.words _ hlk) ⟨hy1, hy2, hpar⟩ hR, X.words _ hw, X.words _ hw2⟩ hp rfl (by rw [List.length_map]; exact hna) hl.1 hstk (lv_room (by rw [z_mon]; exact h8)) hd ⟨hC, hS⟩) fin
  · exact z_go hW.2.2.2 (va_runVN (C := Cn) (As := av.map (z_v E)) (rest := st.map (z_v E)) ⟨X.1, X.2.1, X.2.2.1, X.own, hts⟩ hMl ⟨va_cnB na hts (z_good hcode) rfl rfl rfl (X.NW _ hlk) (X.words _ hini) ⟨hy1, hy2, hpar⟩ hR, X.words _ hw, X.words _ hw2⟩ hp rfl (by rw [List.length_map]; exact hna) hl.1 hstk (lv_room (by rw [z_mon]; exact h8)) hd ⟨hC, hS⟩) fin
theorem zs_calli0 {k : Nat} (hd : decode M.2.1 pc = .ok (.invokespecial idx, 3)) (lk : z_LI M.1.cls idx M' na) (hM : z_MS E M' d' C' S' f' (zR (some k) :: av) H o') (hdd : d' < d) (hC : cs + C' ≤ C) (hS : ss + S' ≤ S) (hna : av.length = na) (hst : st0 = av.reverse ++ zR (some k) :: st) (h8 : z_sum st ≤ 8) (kk : ∀ y, z_S E M d C S f (pc + 3) lv ((f' y).1.toList ++ st) (f' y).2 (cs + C') (ss + S') (g y)) : z_S E M d C S f pc lv st0 H cs ss (o'.bind g) := by
  intro yy hyy p l e s m args below meth c Hp locs ls X hW hl
  obtain ⟨y, hy, h⟩ := Option.bind_eq_some_iff.mp hyy
  have hts := X.2.2.2.2.2.2.2.1
  have fin : ∀ (H1 : Heap) (locs1 : List Loc), z_Wd E (f' y).2 s H1 locs1 → W p l e (z_rm d C S) s m args below meth c H1 locs1 (cs + C') (ss + S') (MQ below (z_Q E (f yy)) args s C S (z_A E)) (F0 m (pc + 3) ls (((f' y).1.map (z_v E)).toList ++ st.map (z_v E))) := fun H1 locs1 hW' => by
    rw [z_back]
    exact kk y yy h p l e s m args below meth c H1 locs1 ls X hW' hl
  obtain ⟨⟨hlk, hcode, hini, hy1, hy2, hpar, h45⟩, hw, hw0, hr⟩ := lk
  have hp : PreS s Hp (va_Pc ((zR (some k) :: av).map (z_v E)) (z_H E H)) (.ref (z_ad E k) :: av.map (z_v E)) := ⟨z_blind, fun U hU hv => ⟨rfl, z_holds X hW hU hv⟩⟩
  have hstk : st0.map (z_v E) = (av.map (z_v E)).reverse ++ .ref (z_ad E k) :: st.map (z_v E) := by rw [hst, List.map_append, List.map_reverse]; rfl
  have hR := z_room (C := C) (S := S) (C' := C') (S' := S') (M' := M') hdd h45
  have hMl := hM y hy l
  have hws : z_ws M' = Cond.code M'.1 M'.2.1 M'.2.2.1 none :: z_tb := by unfold z_ws; rw [hr]
  rcases hlk with hlk | ⟨host, hlk⟩
  · exact z_go hW.2.2.2 (va_runI (As := av.map (z_v E)) (rest := st.map (z_v E)) ⟨X.1, X.2.1, X.2.2.1, X.own, hts⟩ hMl ⟨callB_of na hts (z_good hcode) hws rfl rfl (X.words _ hini) (X.words _ hlk) ⟨hy1, hy2, hpar⟩ hR, hw0, X.words _ hw⟩ hp rfl (by rw [List.length_map]; exact hna) hl.1 hstk (lv_room (by rw [z_mon]; exact h8)) hd ⟨hC, hS⟩) fin
  · exact z_go hW.2.2.2 (va_runIN (As := av.map (z_v E)) (rest := st.map (z_v E)) ⟨X.1, X.2.1, X.2.2.1, X.own, hts⟩ hMl ⟨va_cnB na hts (z_good hcode) hws rfl rfl (X.NW _ hlk) (X.words _ hini) ⟨hy1, hy2, hpar⟩ hR, hw0, X.words _ hw⟩ hp rfl (by rw [List.length_map]; exact hna) hl.1 hstk (lv_room (by rw [z_mon]; exact h8)) hd ⟨hC, hS⟩) fin
end ZCall
section ZCall2
variable {M' : zM} {d' C' S' idx na ci : Nat} {av st0 : List zV} {r : Option Nat}
theorem zs_calls_rI {o' : Option (Int32)} {g : Int32 → Option ρ} (hd : decode M.2.1 pc = .ok (.invokestatic idx, 3)) (lk : z_LS M.1.cls idx M' na) (hM : z_MS E M' d' C' S' (zrI H) av H o') (hdd : d' < d) (hC : cs + C' ≤ C) (hS : ss + S' ≤ S) (hna : av.length = na) (hst : st0 = av.reverse ++ st) (h8 : z_sum st ≤ 8) (kk : ∀ y, z_S E M d C S f (pc + 3) lv (zI y :: st) H (cs + C') (ss + S') (g y)) : z_S E M d C S f pc lv st0 H cs ss (o'.bind g) := zs_calls0 hd lk hM hdd hC hS hna hst h8 kk
theorem zs_callv_rI {o' : Option (Int32)} {g : Int32 → Option ρ} (hd : decode M.2.1 pc = .ok (.invokevirtual idx, 3)) (lk : z_LV M.1.cls idx M' na ci) (hok : ∀ y, o' = some y → zok H r ci = some ()) (hM : z_MS E M' d' C' S' (zrI H) (zR r :: av) H o') (hdd : d' < d) (hC : cs + C' ≤ C) (hS : ss + S' ≤ S) (hna : av.length = na) (hst : st0 = av.reverse ++ zR r :: st) (h8 : z_sum st ≤ 8) (kk : ∀ y, z_S E M d C S f (pc + 3) lv (zI y :: st) H (cs + C') (ss + S') (g y)) : z_S E M d C S f pc lv st0 H cs ss (o'.bind g) := zs_callv0 hd lk hok hM hdd hC hS hna hst h8 kk
theorem zs_calls_rL {o' : Option (Int64)} {g : Int64 → Option ρ} (hd : decode M.2.1 pc = .ok (.invokestatic idx, 3)) (lk : z_LS M.1.cls idx M' na) (hM : z_MS E M' d' C' S' (zrL H) av H o') (hdd : d' < d) (hC : cs + C' ≤ C) (hS : ss + S' ≤ S) (hna : av.length = na) (hst : st0 = av.reverse ++ st) (h8 : z_sum st ≤ 8) (kk : ∀ y, z_S E M d C S f (pc + 3) lv (zL y :: st) H (cs + C') (ss + S') (g y)) : z_S E M d C S f pc lv st0 H cs ss (o'.bind g) := zs_calls0 hd lk hM hdd hC hS hna hst h8 kk
theorem zs_callv_rL {o' : Option (Int64)} {g : Int64 → Option ρ} (hd : decode M.2.1 pc = .ok (.invokevirtual idx, 3)) (lk : z_LV M.1.cls idx M' na ci) (hok : ∀ y, o' = some y → zok H r ci = some ()) (hM : z_MS E M' d' C' S' (zrL H) (zR r :: av) H o') (hdd : d' < d) (hC : cs + C' ≤ C) (hS : ss + S' ≤ S) (hna : av.length = na) (hst : st0 = av.reverse ++ zR r :: st) (h8 : z_sum st ≤ 8) (kk : ∀ y, z_S E M d C S f (pc + 3) lv (zL y :: st) H (cs + C') (ss + S') (g y)) : z_S E M d C S f pc lv st0 H cs ss (o'.bind g) := zs_callv0 hd lk hok hM hdd hC hS hna hst h8 kk
theorem zs_calls_rR {o' : Option (Option Nat)} {g : Option Nat → Option ρ} (hd : decode M.2.1 pc = .ok (.invokestatic idx, 3)) (lk : z_LS M.1.cls idx M' na) (hM : z_MS E M' d' C' S' (zrR H) av H o') (hdd : d' < d) (hC : cs + C' ≤ C) (hS : ss + S' ≤ S) (hna : av.length = na) (hst : st0 = av.reverse ++ st) (h8 : z_sum st ≤ 8) (kk : ∀ y, z_S E M d C S f (pc + 3) lv (zR y :: st) H (cs + C') (ss + S') (g y)) : z_S E M d C S f pc lv st0 H cs ss (o'.bind g) := zs_calls0 hd lk hM hdd hC hS hna hst h8 kk
theorem zs_callv_rR {o' : Option (Option Nat)} {g : Option Nat → Option ρ} (hd : decode M.2.1 pc = .ok (.invokevirtual idx, 3)) (lk : z_LV M.1.cls idx M' na ci) (hok : ∀ y, o' = some y → zok H r ci = some ()) (hM : z_MS E M' d' C' S' (zrR H) (zR r :: av) H o') (hdd : d' < d) (hC : cs + C' ≤ C) (hS : ss + S' ≤ S) (hna : av.length = na) (hst : st0 = av.reverse ++ zR r :: st) (h8 : z_sum st ≤ 8) (kk : ∀ y, z_S E M d C S f (pc + 3) lv (zR y :: st) H (cs + C') (ss + S') (g y)) : z_S E M d C S f pc lv st0 H cs ss (o'.bind g) := zs_callv0 hd lk hok hM hdd hC hS hna hst h8 kk
theorem zs_calls_wI {o' : Option (Int32 × zH)} {g : Int32 × zH → Option ρ} (hd : decode M.2.1 pc = .ok (.invokestatic idx, 3)) (lk : z_LS M.1.cls idx M' na) (hM : z_MS E M' d' C' S' (zwI) av H o') (hdd : d' < d) (hC : cs + C' ≤ C) (hS : ss + S' ≤ S) (hna : av.length = na) (hst : st0 = av.reverse ++ st) (h8 : z_sum st ≤ 8) (kk : ∀ y, z_S E M d C S f (pc + 3) lv (zI y.1 :: st) y.2 (cs + C') (ss + S') (g y)) : z_S E M d C S f pc lv st0 H cs ss (o'.bind g) := zs_calls0 hd lk hM hdd hC hS hna hst h8 kk
theorem zs_callv_wI {o' : Option (Int32 × zH)} {g : Int32 × zH → Option ρ} (hd : decode M.2.1 pc = .ok (.invokevirtual idx, 3)) (lk : z_LV M.1.cls idx M' na ci) (hok : ∀ y, o' = some y → zok H r ci = some ()) (hM : z_MS E M' d' C' S' (zwI) (zR r :: av) H o') (hdd : d' < d) (hC : cs + C' ≤ C) (hS : ss + S' ≤ S) (hna : av.length = na) (hst : st0 = av.reverse ++ zR r :: st) (h8 : z_sum st ≤ 8) (kk : ∀ y, z_S E M d C S f (pc + 3) lv (zI y.1 :: st) y.2 (cs + C') (ss + S') (g y)) : z_S E M d C S f pc lv st0 H cs ss (o'.bind g) := zs_callv0 hd lk hok hM hdd hC hS hna hst h8 kk
theorem zs_calls_wL {o' : Option (Int64 × zH)} {g : Int64 × zH → Option ρ} (hd : decode M.2.1 pc = .ok (.invokestatic idx, 3)) (lk : z_LS M.1.cls idx M' na) (hM : z_MS E M' d' C' S' (zwL) av H o') (hdd : d' < d) (hC : cs + C' ≤ C) (hS : ss + S' ≤ S) (hna : av.length = na) (hst : st0 = av.reverse ++ st) (h8 : z_sum st ≤ 8) (kk : ∀ y, z_S E M d C S f (pc + 3) lv (zL y.1 :: st) y.2 (cs + C') (ss + S') (g y)) : z_S E M d C S f pc lv st0 H cs ss (o'.bind g) := zs_calls0 hd lk hM hdd hC hS hna hst h8 kk
theorem zs_callv_wL {o' : Option (Int64 × zH)} {g : Int64 × zH → Option ρ} (hd : decode M.2.1 pc = .ok (.invokevirtual idx, 3)) (lk : z_LV M.1.cls idx M' na ci) (hok : ∀ y, o' = some y → zok H r ci = some ()) (hM : z_MS E M' d' C' S' (zwL) (zR r :: av) H o') (hdd : d' < d) (hC : cs + C' ≤ C) (hS : ss + S' ≤ S) (hna : av.length = na) (hst : st0 = av.reverse ++ zR r :: st) (h8 : z_sum st ≤ 8) (kk : ∀ y, z_S E M d C S f (pc + 3) lv (zL y.1 :: st) y.2 (cs + C') (ss + S') (g y)) : z_S E M d C S f pc lv st0 H cs ss (o'.bind g) := zs_callv0 hd lk hok hM hdd hC hS hna hst h8 kk
theorem zs_calls_wR {o' : Option (Option Nat × zH)} {g : Option Nat × zH → Option ρ} (hd : decode M.2.1 pc = .ok (.invokestatic idx, 3)) (lk : z_LS M.1.cls idx M' na) (hM : z_MS E M' d' C' S' (zwR) av H o') (hdd : d' < d) (hC : cs + C' ≤ C) (hS : ss + S' ≤ S) (hna : av.length = na) (hst : st0 = av.reverse ++ st) (h8 : z_sum st ≤ 8) (kk : ∀ y, z_S E M d C S f (pc + 3) lv (zR y.1 :: st) y.2 (cs + C') (ss + S') (g y)) : z_S E M d C S f pc lv st0 H cs ss (o'.bind g) := zs_calls0 hd lk hM hdd hC hS hna hst h8 kk
theorem zs_callv_wR {o' : Option (Option Nat × zH)} {g : Option Nat × zH → Option ρ} (hd : decode M.2.1 pc = .ok (.invokevirtual idx, 3)) (lk : z_LV M.1.cls idx M' na ci) (hok : ∀ y, o' = some y → zok H r ci = some ()) (hM : z_MS E M' d' C' S' (zwR) (zR r :: av) H o') (hdd : d' < d) (hC : cs + C' ≤ C) (hS : ss + S' ≤ S) (hna : av.length = na) (hst : st0 = av.reverse ++ zR r :: st) (h8 : z_sum st ≤ 8) (kk : ∀ y, z_S E M d C S f (pc + 3) lv (zR y.1 :: st) y.2 (cs + C') (ss + S') (g y)) : z_S E M d C S f pc lv st0 H cs ss (o'.bind g) := zs_callv0 hd lk hok hM hdd hC hS hna hst h8 kk
theorem zs_calls_wV {o' : Option (zH)} {g : zH → Option ρ} (hd : decode M.2.1 pc = .ok (.invokestatic idx, 3)) (lk : z_LS M.1.cls idx M' na) (hM : z_MS E M' d' C' S' (zwV) av H o') (hdd : d' < d) (hC : cs + C' ≤ C) (hS : ss + S' ≤ S) (hna : av.length = na) (hst : st0 = av.reverse ++ st) (h8 : z_sum st ≤ 8) (kk : ∀ y, z_S E M d C S f (pc + 3) lv (st) y (cs + C') (ss + S') (g y)) : z_S E M d C S f pc lv st0 H cs ss (o'.bind g) := zs_calls0 hd lk hM hdd hC hS hna hst h8 kk
theorem zs_callv_wV {o' : Option (zH)} {g : zH → Option ρ} (hd : decode M.2.1 pc = .ok (.invokevirtual idx, 3)) (lk : z_LV M.1.cls idx M' na ci) (hok : ∀ y, o' = some y → zok H r ci = some ()) (hM : z_MS E M' d' C' S' (zwV) (zR r :: av) H o') (hdd : d' < d) (hC : cs + C' ≤ C) (hS : ss + S' ≤ S) (hna : av.length = na) (hst : st0 = av.reverse ++ zR r :: st) (h8 : z_sum st ≤ 8) (kk : ∀ y, z_S E M d C S f (pc + 3) lv (st) y (cs + C') (ss + S') (g y)) : z_S E M d C S f pc lv st0 H cs ss (o'.bind g) := zs_callv0 hd lk hok hM hdd hC hS hna hst h8 kk
theorem zs_calli {k : Nat} {o' : Option (zH)} {g : zH → Option ρ} (hd : decode M.2.1 pc = .ok (.invokespecial idx, 3)) (lk : z_LI M.1.cls idx M' na) (hM : z_MS E M' d' C' S' (zwV) (zR (some k) :: av) H o') (hdd : d' < d) (hC : cs + C' ≤ C) (hS : ss + S' ≤ S) (hna : av.length = na) (hst : st0 = av.reverse ++ zR (some k) :: st) (h8 : z_sum st ≤ 8) (kk : ∀ y, z_S E M d C S f (pc + 3) lv (st) y (cs + C') (ss + S') (g y)) : z_S E M d C S f pc lv st0 H cs ss (o'.bind g) := zs_calli0 hd lk hM hdd hC hS hna hst h8 kk
end ZCall2
theorem zs_objInit {idx k : Nat} (hd : decode M.2.1 pc = .ok (.invokespecial idx, 3)) (hw1 : Cond.methodLink M.1.cls idx Lib.objectInit ∈ z_tb) (hw2 : Cond.instanceMethod Lib.objectInit ∈ z_tb) (hw3 : Cond.code Lib.objectInit ⟨#[0xb1]⟩ 1 none ∈ z_tb) (hd1 : 1 ≤ d) (h8 : z_sum st ≤ 8) (kk : z_S E M d C S f (pc + 3) lv st H cs ss o) : z_S E M d C S f pc lv (zR (some k) :: st) H cs ss o := by
  intro yy hyy p l e s m args below meth c Hp locs ls X hW hl
  refine W.objInit X.1 X.2.1 X.own (X.words _ hw1) (X.words _ hw2) (X.words _ hw3) rfl (by rw [X.2.2.1]; exact hl.1) rfl hd hd1 ?_ (kk yy hyy p l e s m args below meth c Hp locs ls X hW hl)
  have h9 := lv_room (m := m) (pc := pc) (ls := ls) (rest := (zR (some k) :: st).map (z_v E)) (st := st.map (z_v E)) (by rw [z_mon]; exact h8)
  show _ + _ + 12 ≤ 64 * d
  omega
theorem zs_max {idx : Nat} {x y : Int32} (hd : decode M.2.1 pc = .ok (.invokestatic idx, 3)) (hw1 : Cond.methodLink M.1.cls idx Lib.Math.max.name ∈ z_tb) (hw2 : Cond.static Lib.Math.max.name ∈ z_tb) (hw3 : Cond.initialized "java/lang/Math" ∈ z_tb) (hw4 : Cond.code Lib.Math.max.name Lib.Math.max.code 2 (some .int) ∈ z_tb) (hd1 : 1 ≤ d) (hC : cs ≤ C) (hS : ss ≤ S) (h8 : z_sum st ≤ 8) (kk : z_S E M d C S f (pc + 3) lv (zI (if x < y then y else x) :: st) H cs ss o) : z_S E M d C S f pc lv (zI y :: zI x :: st) H cs ss o := by
  intro yy hyy p l e s m args below meth c Hp locs ls X hW hl
  refine va_mmax X.1 X.2.1 (X.2.2.1.trans hl.1.symm) X.own (X.words _ hw1) (X.words _ hw2) (X.words _ hw3) (X.words _ hw4) hd1 ?_ hC hS hd (kk yy hyy p l e s m args below meth c Hp locs ls X hW hl)
  rw [z_mon]
  show _ + 13 ≤ 64 * d
  omega
end ZMem
