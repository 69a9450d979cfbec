/-! My own judgement over the kit's W: every context name is bound once, the heap is a numbered row of cells (cell k lies at base + k, the script is number 0), values are sums (int, long, reference or null). -/
abbrev zV : Type := Int32 ⊕ Int64 ⊕ Option Nat
abbrev zI (x : Int32) : zV := .inl x
abbrev zL (x : Int64) : zV := .inr (.inl x)
abbrev zR (r : Option Nat) : zV := .inr (.inr r)
abbrev zA : Type := (Nat → Int32) ⊕ (Nat → Int64) ⊕ (Nat → Option Nat)
-- an array: its kind in zT, its length, what it holds; an object: its class's place in classes, its fields
abbrev zC : Type := (Nat × Nat × zA) ⊕ (Nat × List zV)
abbrev zH : Type := (Nat → zC) × Nat
abbrev zQ : Type := Option zV × zH
-- the environment of one run: classes' numbers and slots, the array classes by their place in zT, base, the script's address, length, ints
abbrev zE : Type := va_G × (Nat → ClassId) × Nat × Nat × Nat × (Nat → Int32)
-- a method: name, bytes, locals, what it returns
abbrev zM : Type := MethodName × ByteArray × Nat × Option FieldType
def z_tb : List Cond := lw_tbl.filter goodWord
-- words that a contract can't carry in its list, but in its start: a nest mate's links, arrays over a class
def z_nest : Cond → Bool
  | .fieldLinkNest .. => true
  | .methodLinkNest .. => true
  | .arrayOver (.object _) => true
  | _ => false
def z_nb : List Cond := lw_tbl.filter z_nest
def z_NW (U : State) : Prop := ∀ w ∈ z_nb, w.before #[] U = true
theorem z_NW.warm {s U : State} (hW : s.WarmedH U.vm) (h : z_NW s) : z_NW U := by
  intro w hw
  have h1 := h w hw
  have h2 := (List.mem_filter.mp hw).2
  cases w with
  | fieldLinkNest a b c d e f => exact va_Nw.warmF hW h1
  | methodLinkNest a b c d => exact va_Nw.warmM hW h1
  | arrayOver ty =>
    cases ty with
    | object C => exact va_AO.moved hW.alike h1
    | _ => simp [z_nest] at h2
  | _ => simp [z_nest] at h2
theorem z_NW.same {u U : State} (hv : u.vm = U.vm) (h : z_NW u) : z_NW U := by
  intro w hw
  have h1 := h w hw
  have h2 := (List.mem_filter.mp hw).2
  cases w with
  | fieldLinkNest a b c d e f => exact va_Nw.same rfl hv h1
  | methodLinkNest a b c d => exact va_Nw.same rfl hv h1
  | arrayOver ty =>
    cases ty with
    | object C => exact va_AO.moved (by rw [hv]; exact Vm.Alike.refl _) h1
    | _ => simp [z_nest] at h2
  | _ => simp [z_nest] at h2
def z_ws (M : zM) : List Cond := .code M.1 M.2.1 M.2.2.1 M.2.2.2 :: z_tb
def z_rm (d C S : Nat) : Room := { frames := d, cells := C, slots := S, locals := 64 * d }
def z_B (E : zE) : Nat := E.2.2.1
def z_ad (E : zE) (k : Nat) : Nat := if k = 0 then E.2.2.2.1 else z_B E + k
def z_A (E : zE) : Nat → Prop := fun q => z_B E < q
def z_v (E : zE) (v : zV) : Value := match v with
  | .inl x => .int x
  | .inr (.inl x) => .long x
  | .inr (.inr r) => va_rf (r.map (z_ad E))
def z_cat (v : zV) : Nat := match v with
  | .inl _ => 1
  | .inr (.inl _) => 2
  | .inr (.inr _) => 1
def z_x (E : zE) (x : Nat × zA) : vp_A := (x.1, match x.2 with
  | .inl f => .inl f
  | .inr (.inl f) => .inr (.inl f)
  | .inr (.inr f) => .inr (.inr (.inr (.inr (fun j => (f j).map (z_ad E))))))
def z_c (E : zE) (c : zC) : va_E := match c with
  | .inl a => .inl (E.2.1 a.1, z_x E a.2)
  | .inr o => .inr (o.1, o.2.map (z_v E))
def z_w (E : zE) (H : zH) : va_W := (List.range (H.2 - 1)).map (fun j => (z_B E + (j + 1), z_c E (H.1 (j + 1))))
def z_ts (E : zE) : List (ClassId × FieldType) := zT.mapIdx (fun t ty => (E.2.1 t, ty))
def z_l (E : zE) (lv : List (Nat × zV)) : List (Nat × Value) := lv.map (fun q => (q.1, z_v E q.2))
def z_get (lv : List (Nat × zV)) (i : Nat) : Option zV := (lv.find? (fun q => q.1 == i)).map (fun q => q.2)
def z_put1 (lv : List (Nat × zV)) (i : Nat) (v : zV) : List (Nat × zV) := (i, v) :: lv.filter (fun q => !(q.1 == i) && !(q.1 + 1 == i && z_cat q.2 == 2))
def z_put2 (lv : List (Nat × zV)) (i : Nat) (v : zV) : List (Nat × zV) := (i, v) :: lv.filter (fun q => !(q.1 == i) && (!(q.1 == i + 1) && !(q.1 + 1 == i && z_cat q.2 == 2)))
-- what a state holds
def z_H (E : zE) (H : zH) (U : State) : Prop := U.heap.size = z_B E + H.2 ∧ 1 ≤ H.2 ∧ va_P E.1 classes (z_w E H) U.heap ∧ va_K E.1 classes (z_ts E) U ∧ va_X E.2.2.2.1 E.2.2.2.2.1 E.2.2.2.2.2 U U.heap ∧ E.2.2.2.1 ≤ z_B E ∧ z_NW U
-- a contract's end, and a contract
def z_Q (E : zE) (q : zQ) : Array Value → State → Outcome → State → Prop := fun _ st oc t => (oc = .returned (q.1.map (z_v E)) ∧ z_H E q.2 t) ∧ va_F (z_A E) st t
def z_M (E : zE) (M : zM) (d C S : Nat) (av : List zV) (H : zH) (q : zQ) : Prop := ∀ l : Launch, Met l M.1 (z_ws M) (z_rm d C S) (va_Pc (av.map (z_v E)) (z_H E H)) (z_Q E q) C S (z_A E)
def z_Cx (E : zE) (M : zM) (p : Program) (s : State) (m : MethodId) (args : Array Value) (meth : Method) (c : Code) : Prop :=
  p.tables.exec = Jvm.exec ∧ c.code = M.2.1 ∧ c.maxLocals = M.2.2.1 ∧ meth.sig.returnType = M.2.2.2 ∧ meth.locks = false ∧ (M.1.name = "<init>" → meth.name = "<init>") ∧ s.vm.findClass M.1.cls = some m.cls ∧ (∀ w ∈ z_tb, w.before args s = true) ∧
  va_K E.1 classes (z_ts E) s ∧ va_X E.2.2.2.1 E.2.2.2.2.1 E.2.2.2.2.2 s s.heap ∧ E.2.2.2.1 ≤ z_B E ∧ z_B E < s.heap.size ∧ z_NW s
def z_Wd (E : zE) (H : zH) (s : State) (Hp : Heap) (locs : List Loc) : Prop := Hp.size = z_B E + H.2 ∧ 1 ≤ H.2 ∧ va_P E.1 classes (z_w E H) Hp ∧ va_S (z_A E) s.heap Hp locs
def z_G (E : zE) (M : zM) (d C S : Nat) (q : zQ) (pc : Nat) (lv : List (Nat × zV)) (st : List zV) (H : zH) (cs ss : Nat) : Prop :=
  ∀ (p : Program) (l : Launch) (e : Env) (s : State) (m : MethodId) (args : Array Value) (below : List Frame) (meth : Method) (c : Code) (Hp : Heap) (locs : List Loc) (ls : Array Slot),
    z_Cx E M p s m args meth c → z_Wd E H s Hp locs → lv_has ls M.2.2.1 (z_l E lv) →
    W p l e (z_rm d C S) s m args below meth c Hp locs cs ss (MQ below (z_Q E q) args s C S (z_A E)) (F0 m pc ls (st.map (z_v E)))
-- the same, held against a function's answer: where it is 'some y', the walk ends with what y stands for
def z_S {ρ : Type} (E : zE) (M : zM) (d C S : Nat) (f : ρ → zQ) (pc : Nat) (lv : List (Nat × zV)) (st : List zV) (H : zH) (cs ss : Nat) (o : Option ρ) : Prop := ∀ y, o = some y → z_G E M d C S (f y) pc lv st H cs ss
def z_MS {ρ : Type} (E : zE) (M : zM) (d C S : Nat) (f : ρ → zQ) (av : List zV) (H : zH) (o : Option ρ) : Prop := ∀ y, o = some y → z_M E M d C S av H (f y)
-- what answers stand for: a reader leaves the heap as it was, a writer answers the new one
abbrev zrI (H : zH) : Int32 → zQ := fun x => (some (zI x), H)
abbrev zrL (H : zH) : Int64 → zQ := fun x => (some (zL x), H)
abbrev zrR (H : zH) : Option Nat → zQ := fun x => (some (zR x), H)
abbrev zwI : Int32 × zH → zQ := fun x => (some (zI x.1), x.2)
abbrev zwL : Int64 × zH → zQ := fun x => (some (zL x.1), x.2)
abbrev zwR : Option Nat × zH → zQ := fun x => (some (zR x.1), x.2)
abbrev zwV : zH → zQ := fun x => (none, x)
-- lists of cells
theorem z_w_at {E : zE} {H : zH} {k : Nat} (h1 : 1 ≤ k) (h2 : k < H.2) : (z_w E H)[k - 1]? = some (z_B E + k, z_c E (H.1 k)) := by
  unfold z_w
  rw [List.getElem?_map, List.getElem?_range (by omega)]
  simp only [Option.map_some, show k - 1 + 1 = k by omega]
theorem z_w_len {E : zE} {H : zH} : (z_w E H).length = H.2 - 1 := by simp [z_w]
theorem z_w_get {E : zE} {H : zH} {j : Nat} {q : Nat × va_E} (hq : (z_w E H)[j]? = some q) : j + 1 < H.2 ∧ q = (z_B E + (j + 1), z_c E (H.1 (j + 1))) := by
  have hl : j < (z_w E H).length := (List.getElem?_eq_some_iff.mp hq).1
  rw [z_w_len] at hl
  have h1 : j + 1 < H.2 := by omega
  have h2 := z_w_at (E := E) (H := H) (k := j + 1) (by omega) h1
  rw [Nat.add_sub_cancel] at h2
  exact ⟨h1, Option.some.inj (hq.symm.trans h2)⟩
theorem z_D {E : zE} {H : zH} : va_D (z_A E) (z_w E H) := by
  refine ⟨fun i j x y hi hj hxy => ?_, fun k q hk => ?_⟩
  · obtain ⟨-, rfl⟩ := z_w_get hi
    obtain ⟨-, rfl⟩ := z_w_get hj
    have : z_B E + (i + 1) = z_B E + (j + 1) := hxy
    omega
  · obtain ⟨-, rfl⟩ := z_w_get hk
    show z_B E < z_B E + (k + 1)
    omega
/-- one cell changed -/
theorem z_P_set {E : zE} {H : zH} {k : Nat} {x : zC} {Hp H1 : Heap} (hP : va_P E.1 classes (z_w E H) Hp) (h1 : 1 ≤ k) (h2 : k < H.2) (he : va_at E.1 classes (z_B E + k, z_c E x) H1) (oq : ∀ q : Nat, q ≠ z_B E + k → H1[q]? = Hp[q]?) : va_P E.1 classes (z_w E (va_up H.1 k x, H.2)) H1 := by
  intro j q hj
  obtain ⟨hl, rfl⟩ := z_w_get hj
  by_cases hjk : j + 1 = k
  · subst hjk
    simpa [va_up] using he
  · have hb := z_w_at (E := E) (H := H) (k := j + 1) (by omega) hl
    have hx : va_up H.1 k x (j + 1) = H.1 (j + 1) := by simp [va_up, hjk]
    show va_at E.1 classes (z_B E + (j + 1), z_c E (va_up H.1 k x (j + 1))) H1
    rw [hx]
    exact (hP _ _ hb).kept (oq _ (by show z_B E + (j + 1) ≠ z_B E + k; omega))
/-- a cell more -/
theorem z_P_push {E : zE} {H : zH} {x : zC} {Hp H1 : Heap} (hP : va_P E.1 classes (z_w E H) Hp) (hn : 1 ≤ H.2) (hz : Hp.size = z_B E + H.2) (he : va_at E.1 classes (z_B E + H.2, z_c E x) H1) (oq : ∀ q : Nat, q < Hp.size → H1[q]? = Hp[q]?) : va_P E.1 classes (z_w E (va_up H.1 H.2 x, H.2 + 1)) H1 := by
  intro j q hj
  obtain ⟨hl, rfl⟩ := z_w_get hj
  have hl' : j + 1 < H.2 + 1 := hl
  by_cases hjk : j + 1 = H.2
  · show va_at E.1 classes (z_B E + (j + 1), z_c E (va_up H.1 H.2 x (j + 1))) H1
    rw [hjk]
    simpa [va_up] using he
  · have hb := z_w_at (E := E) (H := H) (k := j + 1) (by omega) (by omega)
    have hx : va_up H.1 H.2 x (j + 1) = H.1 (j + 1) := by simp [va_up, hjk]
    show va_at E.1 classes (z_B E + (j + 1), z_c E (va_up H.1 H.2 x (j + 1))) H1
    rw [hx]
    exact (hP _ _ hb).kept (oq _ (hP _ _ hb).lt)
-- values
theorem z_v_cat (E : zE) (v : zV) : (z_v E v).category = z_cat v := by
  rcases v with x | x | _ | k <;> rfl
theorem z_get_mem {lv : List (Nat × zV)} {i : Nat} {v : zV} (h : z_get lv i = some v) : (i, v) ∈ lv := by
  unfold z_get at h
  obtain ⟨q, hq, rfl⟩ := Option.map_eq_some_iff.mp h
  have h1 := List.find?_some hq
  have h2 := List.mem_of_find?_eq_some hq
  have h3 : q.1 = i := by simpa using h1
  subst h3
  exact h2
theorem z_lget {E : zE} {ls : Array Slot} {nL : Nat} {lv : List (Nat × zV)} {i : Nat} {v : zV} (hl : lv_has ls nL (z_l E lv)) (h : z_get lv i = some v) : ls[i]? = some (.val (z_v E v)) :=
  hl.2.2 (i, z_v E v) (List.mem_map.mpr ⟨(i, v), z_get_mem h, rfl⟩)
theorem z_l_put1 (E : zE) (lv : List (Nat × zV)) (i : Nat) (v : zV) : z_l E (z_put1 lv i v) = (i, z_v E v) :: (z_l E lv).filter (fun q => !(q.1 == i) && !(q.1 + 1 == i && q.2.category == 2)) := by
  unfold z_l z_put1
  rw [List.map_cons, List.filter_map]
  congr 2
  apply List.filter_congr
  intro q _
  simp [Function.comp, z_v_cat]
theorem z_l_put2 (E : zE) (lv : List (Nat × zV)) (i : Nat) (v : zV) : z_l E (z_put2 lv i v) = (i, z_v E v) :: (z_l E lv).filter (fun q => !(q.1 == i) && (!(q.1 == i + 1) && !(q.1 + 1 == i && q.2.category == 2))) := by
  unfold z_l z_put2
  rw [List.map_cons, List.filter_map]
  congr 2
  apply List.filter_congr
  intro q _
  simp [Function.comp, z_v_cat]
-- heap operations of the functions that the methods are tied to
def zgo (H : zH) (r : Option Nat) : Option zC := r.bind fun k => if 1 ≤ k ∧ k < H.2 then some (H.1 k) else none
def zob (ci : Nat) (x : zC) : Option (List zV) := match x with
  | .inr (c, fs) => if c = ci then some fs else none
  | .inl _ => none
def zab (t : Nat) (x : zC) : Option (Nat × zA) := match x with
  | .inl (u, a) => if u = t then some a else none
  | .inr _ => none
def zfs (H : zH) (r : Option Nat) (ci : Nat) : Option (List zV) := (zgo H r).bind (zob ci)
def zar (H : zH) (r : Option Nat) (t : Nat) : Option (Nat × zA) := (zgo H r).bind (zab t)
def zvi (v : Option zV) : Option Int32 := match v with
  | some (.inl x) => some x
  | _ => none
def zvl (v : Option zV) : Option Int64 := match v with
  | some (.inr (.inl x)) => some x
  | _ => none
def zvr (v : Option zV) : Option (Option Nat) := match v with
  | some (.inr (.inr x)) => some x
  | _ => none
def zai (a : zA) (j : Nat) : Option Int32 := match a with
  | .inl f => some (f j)
  | _ => none
def zal (a : zA) (j : Nat) : Option Int64 := match a with
  | .inr (.inl f) => some (f j)
  | _ => none
def zaa (a : zA) (j : Nat) : Option (Option Nat) := match a with
  | .inr (.inr f) => some (f j)
  | _ => none
def zgI (H : zH) (r : Option Nat) (ci j : Nat) : Option Int32 := (zfs H r ci).bind fun fs => zvi fs[j]?
def zgL (H : zH) (r : Option Nat) (ci j : Nat) : Option Int64 := (zfs H r ci).bind fun fs => zvl fs[j]?
def zgR (H : zH) (r : Option Nat) (ci j : Nat) : Option (Option Nat) := (zfs H r ci).bind fun fs => zvr fs[j]?
def zok (H : zH) (r : Option Nat) (ci : Nat) : Option Unit := (zfs H r ci).bind fun _ => some ()
def zpV (H : zH) (r : Option Nat) (ci j : Nat) (v : zV) : Option zH := r.bind fun k => (zfs H r ci).bind fun fs => if j < fs.length then some (va_up H.1 k (.inr (ci, fs.set j v)), H.2) else none
def zpZ (H : zH) (r : Option Nat) (ci j : Nat) (x : Int32) : Option zH := if x = 0 ∨ x = 1 then zpV H r ci j (zI x) else none
def zix (i : Int32) (N : Nat) : Option Nat := if i < 0 ∨ N ≤ i.toNatClampNeg then none else some i.toNatClampNeg
def zle (H : zH) (r : Option Nat) (t : Nat) : Option Int32 := (zar H r t).bind fun a => some (nI a.1)
def zaI (H : zH) (r : Option Nat) (t : Nat) (i : Int32) : Option Int32 := (zar H r t).bind fun a => (zix i a.1).bind fun j => zai a.2 j
def zaL (H : zH) (r : Option Nat) (t : Nat) (i : Int32) : Option Int64 := (zar H r t).bind fun a => (zix i a.1).bind fun j => zal a.2 j
def zaR (H : zH) (r : Option Nat) (t : Nat) (i : Int32) : Option (Option Nat) := (zar H r t).bind fun a => (zix i a.1).bind fun j => zaa a.2 j
def zsi (a : zA) (j : Nat) (x : Int32) : Option zA := match a with
  | .inl f => some (.inl (va_up f j x))
  | _ => none
def zsl (a : zA) (j : Nat) (x : Int64) : Option zA := match a with
  | .inr (.inl f) => some (.inr (.inl (va_up f j x)))
  | _ => none
def zsa (a : zA) (j : Nat) (x : Option Nat) : Option zA := match a with
  | .inr (.inr f) => some (.inr (.inr (va_up f j x)))
  | _ => none
def zsI (H : zH) (r : Option Nat) (t : Nat) (i x : Int32) : Option zH := r.bind fun k => (zar H r t).bind fun a => (zix i a.1).bind fun j => (zsi a.2 j x).bind fun b => some (va_up H.1 k (.inl (t, a.1, b)), H.2)
def zsL (H : zH) (r : Option Nat) (t : Nat) (i : Int32) (x : Int64) : Option zH := r.bind fun k => (zar H r t).bind fun a => (zix i a.1).bind fun j => (zsl a.2 j x).bind fun b => some (va_up H.1 k (.inl (t, a.1, b)), H.2)
def zsR (H : zH) (r : Option Nat) (t : Nat) (i : Int32) (ci : Nat) (x : Option Nat) : Option zH := r.bind fun k => (zok H x ci).bind fun _ => (zar H r t).bind fun a => (zix i a.1).bind fun j => (zsa a.2 j x).bind fun b => some (va_up H.1 k (.inl (t, a.1, b)), H.2)
def zsZ (H : zH) (r : Option Nat) (t : Nat) (i x : Int32) : Option zH := if x = 0 ∨ x = 1 then zsI H r t i x else none
def znw (H : zH) (x : zC) : zH := (va_up H.1 H.2 x, H.2 + 1)
def znc (i : Int32) (cap : Nat) : Option Nat := if i < 0 ∨ cap < i.toNatClampNeg then none else some i.toNatClampNeg
-- the script
def zxl (L : Nat) (xs : Nat → Int32) (i : Int32) : Option Int32 := (zix i L).bind fun j => some (xs j)
theorem zgo_inv {H : zH} {r : Option Nat} {x : zC} (h : zgo H r = some x) : ∃ k, r = some k ∧ (1 ≤ k ∧ k < H.2) ∧ H.1 k = x := by
  unfold zgo at h
  obtain ⟨k, rfl, h'⟩ := Option.bind_eq_some_iff.mp h
  split at h'
  · next hk => exact ⟨k, rfl, hk, Option.some.inj h'⟩
  · cases h'
theorem zfs_inv {H : zH} {r : Option Nat} {ci : Nat} {fs : List zV} (h : zfs H r ci = some fs) : ∃ k, r = some k ∧ (1 ≤ k ∧ k < H.2) ∧ H.1 k = .inr (ci, fs) := by
  obtain ⟨x, hx, h'⟩ := Option.bind_eq_some_iff.mp h
  clear h
  obtain ⟨k, rfl, hk, rfl⟩ := zgo_inv hx
  refine ⟨k, rfl, hk, ?_⟩
  unfold zob at h'
  split at h'
  · next c gs heq =>
    split at h'
    · next hc => subst hc; cases h'; exact heq
    · cases h'
  · cases h'
theorem zar_inv {H : zH} {r : Option Nat} {t : Nat} {a : Nat × zA} (h : zar H r t = some a) : ∃ k, r = some k ∧ (1 ≤ k ∧ k < H.2) ∧ H.1 k = .inl (t, a) := by
  obtain ⟨x, hx, h'⟩ := Option.bind_eq_some_iff.mp h
  clear h
  obtain ⟨k, rfl, hk, rfl⟩ := zgo_inv hx
  refine ⟨k, rfl, hk, ?_⟩
  unfold zab at h'
  split at h'
  · next c gs heq =>
    split at h'
    · next hc => subst hc; cases h'; exact heq
    · cases h'
  · cases h'
theorem zix_inv {i : Int32} {N j : Nat} (h : zix i N = some j) : vp_in i N ∧ i.toNatClampNeg = j := by
  unfold zix at h
  split at h
  · cases h
  · next hn => exact ⟨hn, Option.some.inj h⟩
theorem zvi_inv {v : Option zV} {x : Int32} (h : zvi v = some x) : v = some (zI x) := by
  unfold zvi at h
  split at h
  · cases h; rfl
  · cases h
theorem zvl_inv {v : Option zV} {x : Int64} (h : zvl v = some x) : v = some (zL x) := by
  unfold zvl at h
  split at h
  · cases h; rfl
  · cases h
theorem zvr_inv {v : Option zV} {x : Option Nat} (h : zvr v = some x) : v = some (zR x) := by
  unfold zvr at h
  split at h
  · cases h; rfl
  · cases h
theorem zai_inv {a : zA} {j : Nat} {x : Int32} (h : zai a j = some x) : ∃ f, a = .inl f ∧ f j = x := by
  unfold zai at h
  split at h
  · cases h; exact ⟨_, rfl, rfl⟩
  · cases h
theorem zal_inv {a : zA} {j : Nat} {x : Int64} (h : zal a j = some x) : ∃ f, a = .inr (.inl f) ∧ f j = x := by
  unfold zal at h
  split at h
  · cases h; exact ⟨_, rfl, rfl⟩
  · cases h
theorem zaa_inv {a : zA} {j : Nat} {x : Option Nat} (h : zaa a j = some x) : ∃ f, a = .inr (.inr f) ∧ f j = x := by
  unfold zaa at h
  split at h
  · cases h; exact ⟨_, rfl, rfl⟩
  · cases h
theorem zsi_inv {a b : zA} {j : Nat} {x : Int32} (h : zsi a j x = some b) : ∃ f, a = .inl f ∧ b = .inl (va_up f j x) := by
  unfold zsi at h
  split at h
  · cases h; exact ⟨_, rfl, rfl⟩
  · cases h
theorem zsl_inv {a b : zA} {j : Nat} {x : Int64} (h : zsl a j x = some b) : ∃ f, a = .inr (.inl f) ∧ b = .inr (.inl (va_up f j x)) := by
  unfold zsl at h
  split at h
  · cases h; exact ⟨_, rfl, rfl⟩
  · cases h
theorem zsa_inv {a b : zA} {j : Nat} {x : Option Nat} (h : zsa a j x = some b) : ∃ f, a = .inr (.inr f) ∧ b = .inr (.inr (va_up f j x)) := by
  unfold zsa at h
  split at h
  · cases h; exact ⟨_, rfl, rfl⟩
  · cases h
