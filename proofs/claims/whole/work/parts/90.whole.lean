/-! From the law's walk and the answer of its function to the claim. -/
theorem zin_0 : Cond.instantiable "SchemaTables" 8 ∈ z_tb := zi (i := 17) (by decide +kernel) (by decide +kernel)
theorem zin_1 : Cond.instantiable "SchemaTablesModel" 36 ∈ z_tb := zi (i := 743) (by decide +kernel) (by decide +kernel)
theorem zin_2 : Cond.instantiable "SchemaTables$Bytes" 2 ∈ z_tb := zi (i := 77) (by decide +kernel) (by decide +kernel)
theorem zin_3 : Cond.instantiable "SchemaTables$Disk" 4 ∈ z_tb := zi (i := 25) (by decide +kernel) (by decide +kernel)
theorem zin_4 : Cond.instantiable "SchemaTables$Field" 4 ∈ z_tb := zi (i := 215) (by decide +kernel) (by decide +kernel)
theorem zin_5 : Cond.instantiable "SchemaTables$Manifest" 3 ∈ z_tb := zi (i := 100) (by decide +kernel) (by decide +kernel)
theorem zin_6 : Cond.instantiable "SchemaTables$Registry" 2 ∈ z_tb := zi (i := 71) (by decide +kernel) (by decide +kernel)
theorem zin_7 : Cond.instantiable "SchemaTables$Row" 2 ∈ z_tb := zi (i := 141) (by decide +kernel) (by decide +kernel)
theorem zin_8 : Cond.instantiable "SchemaTables$Schema" 8 ∈ z_tb := zi (i := 258) (by decide +kernel) (by decide +kernel)
theorem zin_9 : Cond.instantiable "SchemaTables$Schemas" 4 ∈ z_tb := zi (i := 48) (by decide +kernel) (by decide +kernel)
theorem zin_10 : Cond.instantiable "SchemaTables$Staging" 3 ∈ z_tb := zi (i := 118) (by decide +kernel) (by decide +kernel)
theorem z_hasRoom {s : State} {pl : Platform} {R R' : Room} (h : s.hasRoom pl R = true) (h1 : R'.frames ≤ R.frames) (h2 : R'.cells ≤ R.cells) (h3 : R'.slots ≤ R.slots) (h4 : R'.locals ≤ R.locals) : s.hasRoom pl R' = true := by
  simp only [State.hasRoom, Bool.and_eq_true, decide_eq_true_eq] at h ⊢
  obtain ⟨⟨⟨⟨a, b⟩, c⟩, d⟩, e⟩ := h
  exact ⟨⟨⟨⟨by omega, by omega, by omega, by omega, by omega, b.2.2.2.2⟩, by omega⟩, by omega⟩, e⟩
theorem z_less {p : Program} {l : Launch} {e : Env} {R R' : Room} {s : State} {m : MethodId} {args : Array Value} {below : List Frame} {meth : Method} {c : Code} {H : Heap} {locs : List Loc} {cells slots : Nat} {Q : State → Prop} {g : JFrame} (h1 : R'.frames ≤ R.frames) (h2 : R'.cells ≤ R.cells) (h3 : R'.slots ≤ R.slots) (h4 : R'.locals ≤ R.locals) (k : W p l e R' s m args below meth c H locs cells slots Q g) : W p l e R s m args below meth c H locs cells slots Q g :=
  fun T hT X => k T hT { X with room := z_hasRoom X.room h1 h2 h3 h4 }
theorem z_classes {s : State} {args : Array Value} (hz : ∀ w ∈ z_tb, w.before args s = true) : ∀ c : Nat, ∃ q : ClassId × (Nat → Nat), ∀ cl : vw_C, classes[c]? = some cl → u_Kn s cl.1 cl.2.1 cl.2.2 q.1 q.2
  | 0 => by
    obtain ⟨a, b, h⟩ := u_known hz zK_0.2 (hz _ zin_0)
    exact ⟨(a, b), fun cl hcl => by cases hcl; exact h⟩
  | 1 => by
    obtain ⟨a, b, h⟩ := u_known hz zK_1.2 (hz _ zin_1)
    exact ⟨(a, b), fun cl hcl => by cases hcl; exact h⟩
  | 2 => by
    obtain ⟨a, b, h⟩ := u_known hz zK_2.2 (hz _ zin_2)
    exact ⟨(a, b), fun cl hcl => by cases hcl; exact h⟩
  | 3 => by
    obtain ⟨a, b, h⟩ := u_known hz zK_3.2 (hz _ zin_3)
    exact ⟨(a, b), fun cl hcl => by cases hcl; exact h⟩
  | 4 => by
    obtain ⟨a, b, h⟩ := u_known hz zK_4.2 (hz _ zin_4)
    exact ⟨(a, b), fun cl hcl => by cases hcl; exact h⟩
  | 5 => by
    obtain ⟨a, b, h⟩ := u_known hz zK_5.2 (hz _ zin_5)
    exact ⟨(a, b), fun cl hcl => by cases hcl; exact h⟩
  | 6 => by
    obtain ⟨a, b, h⟩ := u_known hz zK_6.2 (hz _ zin_6)
    exact ⟨(a, b), fun cl hcl => by cases hcl; exact h⟩
  | 7 => by
    obtain ⟨a, b, h⟩ := u_known hz zK_7.2 (hz _ zin_7)
    exact ⟨(a, b), fun cl hcl => by cases hcl; exact h⟩
  | 8 => by
    obtain ⟨a, b, h⟩ := u_known hz zK_8.2 (hz _ zin_8)
    exact ⟨(a, b), fun cl hcl => by cases hcl; exact h⟩
  | 9 => by
    obtain ⟨a, b, h⟩ := u_known hz zK_9.2 (hz _ zin_9)
    exact ⟨(a, b), fun cl hcl => by cases hcl; exact h⟩
  | 10 => by
    obtain ⟨a, b, h⟩ := u_known hz zK_10.2 (hz _ zin_10)
    exact ⟨(a, b), fun cl hcl => by cases hcl; exact h⟩
  | n + 11 => ⟨(0, fun _ => 0), fun cl hcl => by cases hcl⟩
theorem z_arrays {s : State} {args : Array Value} (hz : ∀ w ∈ z_tb, w.before args s = true) (hn : ∀ w ∈ z_nb, w.before args s = true) : ∀ t : Nat, ∃ cA : ClassId, ∀ ty : FieldType, zT[t]? = some ty → ArrOfT s cA ty ∧ va_RA s cA ty
  | 0 => by
    obtain ⟨c, k, comp, h1, h2, h3⟩ := Cond.arrayClass_spec (hz _ z_acI)
    exact ⟨c, fun ty hty => by cases hty; exact ⟨fun n z => ⟨fun k h => (by cases h), k, h2, comp, h3⟩, h1⟩⟩
  | 1 => by
    obtain ⟨c, k, comp, h1, h2, h3⟩ := Cond.arrayClass_spec (hz _ z_acZ)
    exact ⟨c, fun ty hty => by cases hty; exact ⟨fun n z => ⟨fun k h => (by cases h), k, h2, comp, h3⟩, h1⟩⟩
  | 2 => by
    obtain ⟨c, k, comp, h1, h2, h3⟩ := Cond.arrayClass_spec (hz _ z_acJ)
    exact ⟨c, fun ty hty => by cases hty; exact ⟨fun n z => ⟨fun k h => (by cases h), k, h2, comp, h3⟩, h1⟩⟩
  | 3 => by
    obtain ⟨comp, c, k, h1, -, h2, h3, h4⟩ := Cond.arrayOver_spec (hn _ z_ao3)
    exact ⟨c, fun ty hty => by cases hty; exact ⟨fun n z => ⟨fun k h => (by cases h), k, h2, comp, h3⟩, k, comp, h2, h3, h1, h4⟩⟩
  | 4 => by
    obtain ⟨comp, c, k, h1, -, h2, h3, h4⟩ := Cond.arrayOver_spec (hn _ z_ao4)
    exact ⟨c, fun ty hty => by cases hty; exact ⟨fun n z => ⟨fun k h => (by cases h), k, h2, comp, h3⟩, k, comp, h2, h3, h1, h4⟩⟩
  | n + 5 => ⟨0, fun ty hty => by cases hty⟩
/-! THE CLAIM OUT OF ONE WALK OF THE LAW'S BODY. Your part is whole_start (and what it stands on); all else here is the same for every law, but numbers. -/
def R_law : String := "SchemaTablesLaw"
def lw_P (b : Addr) (xs : List Int32) (args : Array Value) (s : State) : Prop := args = #[.ref b] ∧ s.IntsAt b xs ∧ xs.length ≤ 3072 ∧ (Jvm.Cond.and given_1 narrow_1).before args s = true
def lw_Q (_ : Array Value) (s : State) (o : Outcome) (t : State) : Prop := o = .returned (some (.int 1)) ∧ Framed s o t [] 600000 7302250
def lw_Z (below : List Frame) (a : Array Value) (s : State) : State → Prop := fun t => ∃ o, t.status = .running ∧ Ended t below o ∧ lw_Q a s o t
/-- the law's own end, with 1 on the stack, nothing written that was there before, its room as the claim has it -/
theorem lw_ret {p : Program} {l : Launch} {e : Env} {s : State} {m : MethodId} {below : List Frame} {meth : Method} {c : Code} {b : Nat} (hx : p.tables.exec = Jvm.exec) (hb : c.code = code) (hr : meth.sig.returnType = ret) (hlocks : meth.locks = false) {pc : Nat} {H : Heap} {ls : Array Slot} (hdg : decode code pc = .ok (.ireturn, 1)) : W p l e room_1 s m #[Value.ref b] below meth c H [] 600000 7302250 (lw_Z below #[Value.ref b] s) (F0 m pc ls [.int 1]) := by
  intro T hT X
  obtain ⟨fs, hret, hrun, hended, hW, hframe⟩ := X.leave (v := some (.int 1)) (hlocks := hlocks) (fun h => by rw [hr] at h; cases h)
  have hmeth' : T.vm.method? m = some meth := X.method'
  refine ⟨T.setFrames fs, ?_, .returned (some (.int 1)), hrun, hended, rfl, ⟨_, rfl⟩, hW, hframe⟩
  jvm_step X.here [X.here.top, hx, hb, hdg, hmeth', hr, ret, narrow_b1]
  (try refine ⟨rfl, ?_⟩); (try refine ⟨rfl, ?_⟩)
  first | (intro acts; rw [hret _ acts rfl rfl rfl]) | rw [hret _ _ rfl rfl rfl]
  exact Steps.refl _
/-- what holds at the law's entry: the machine, the code, the tables' words (any of lw_tbl by 'hts w (by decide +kernel)'), the script of L ints xs at the cell b, what the Statement gives of the start (any of its parts by flat_of_before) -/
def lw_At (p : Program) (s : State) (m : MethodId) (meth : Method) (c : Code) (b L : Nat) (xs : Nat → Int32) : Prop :=
  p.tables.exec = Jvm.exec ∧ c.code = code ∧ meth.sig.returnType = ret ∧ c.maxLocals = 4 ∧ s.vm.findClass R_law = some m.cls ∧ (∀ w ∈ lw_tbl, w.before #[Value.ref b] s = true) ∧ va_X b L xs s s.heap ∧ b < s.heap.size ∧ meth.locks = false ∧ (Jvm.Cond.and given_1 narrow_1).before #[Value.ref b] s = true
/-- the empty heap that a run begins with: the script alone, number 0 -/
def zH0 : zH := (fun _ => .inr (0, []), 1)
/-- what is left: on every script the law's function answers 1 -/
def z_Goal : Prop := ∀ (L : Nat) (xs : Nat → Int32), L ≤ 3072 → ∃ Hz, jF_Law_law 4000 L xs zH0 = some (1, Hz)
theorem whole_start_of {p : Program} {e : Env} {s : State} {m : MethodId} {below : List Frame} {meth : Method} {c : Code} (hG : z_Goal) (l : Launch) {b L : Nat} {xs : Nat → Int32} (hL : L ≤ 3072) (C0 : lw_At p s m meth c b L xs) : W p l e room_1 s m #[Value.ref b] below meth c s.heap [] 0 0 (lw_Z below #[Value.ref b] s) (entryFrame m ([Value.ref b] : List Value).toArray 4) := by
  obtain ⟨a1, a2, a3, a4, a5, a6, a7, a8, a9, a10⟩ := C0
  have hz : ∀ w ∈ z_tb, w.before #[Value.ref b] s = true := fun w hw => a6 w (List.mem_filter.mp hw).1
  have hn : ∀ w ∈ z_nb, w.before #[Value.ref b] s = true := fun w hw => a6 w (List.mem_filter.mp hw).1
  have hNW : z_NW s := by
    intro w hw
    have h1 := hn w hw
    have h2 := (List.mem_filter.mp hw).2
    cases w with
    | fieldLinkNest a b c d e f => exact va_Nw.of rfl h1
    | methodLinkNest a b c d => exact va_Nw.of rfl h1
    | arrayOver ty =>
      cases ty with
      | object C => exact va_AO.of h1
      | _ => simp [z_nest] at h2
    | _ => simp [z_nest] at h2
  let D : va_G := (fun c => (Classical.choose (z_classes hz c)).1, fun c => (Classical.choose (z_classes hz c)).2)
  let cA : Nat → ClassId := fun t => Classical.choose (z_arrays hz hn t)
  let E : zE := (D, cA, s.heap.size - 1, b, L, xs)
  have hK : va_K E.1 classes (z_ts E) s := by
    refine ⟨fun c q hq => Classical.choose_spec (z_classes hz c) q hq, fun k q hk => ?_⟩
    unfold z_ts at hk
    rw [List.getElem?_mapIdx] at hk
    obtain ⟨ty, hty, rfl⟩ := Option.map_eq_some_iff.mp hk
    exact Classical.choose_spec (z_arrays hz hn k) ty hty
  obtain ⟨Hz, hGz⟩ := hG L xs hL
  have hw := js_Law_law (E := E) (d := 240) (Nat.le_refl _) 4000 L xs rfl rfl zH0 _ hGz
  have hl := lv_entry ([Value.ref b]) (n := 4) (Nat.le_of_ble_eq_true rfl)
  rw [lg_entry_eq]
  generalize (lg_sl [Value.ref b] ++ List.replicate (4 - (lg_sl [Value.ref b]).length) Slot.unset).toArray = ls at hl ⊢
  have hB : z_B E + 1 = s.heap.size := by show s.heap.size - 1 + 1 = s.heap.size; omega
  have h1 := hw p l e s m #[Value.ref b] below meth c s.heap [] ls ⟨a1, a2, a4, a3, a9, fun h => absurd h (by decide), a5, hz, hK, a7, by show b ≤ s.heap.size - 1; omega, by omega, hNW⟩ ⟨hB.symm, Nat.le_refl _, fun k q hk => by simp [z_w, zH0] at hk, va_S.rf⟩ hl
  refine z_less (R' := z_rm 240 5765 31223) (by decide) (by decide) (by decide) (by decide) ?_
  intro T hT X
  obtain ⟨t, st, o, r1, r2, ⟨⟨r3, -⟩, -⟩, Lc, r5, r6⟩ := h1 T hT X
  refine ⟨t, st, o, r1, r2, r3, r5.1, r5.2.1, ?_⟩
  exact r5.2.2.weaken (fun y hy hlt => by
    have h9 : z_B E < y.base := r6 y hy
    exact absurd hlt (Nat.not_lt.mpr (by rw [← hB]; exact h9))) (by decide) (by decide)
theorem z_goal : z_Goal := law_all
/-- YOUR PART: from the entry, for every script of at most 3072 ints, the law comes to its end with true -/
theorem whole_start {p : Program} {e : Env} {s : State} {m : MethodId} {below : List Frame} {meth : Method} {c : Code} (l : Launch) {b L : Nat} {xs : Nat → Int32} (hL : L ≤ 3072) (C0 : lw_At p s m meth c b L xs) : W p l e room_1 s m #[Value.ref b] below meth c s.heap [] 0 0 (lw_Z below #[Value.ref b] s) (entryFrame m ([Value.ref b] : List Value).toArray 4) := by exact whole_start_of z_goal l hL C0
set_option maxHeartbeats 4000000 in
theorem lw_walk (l : Launch) (b : Addr) (xs : List Int32) : MetFree l x (headSpec (Jvm.Cond.code x code maxLocals ret :: tables_1) room_1) (lw_P b xs) (fun _ _ _ _ _ => True) lw_Q := by
  refine MetFree.of_bodyS (code := code) (maxLocals := maxLocals) (ret := ret) (by decide) ?_ ?_
  · intro args s m h hn
    obtain ⟨meth, c, h1, h2, h3, h4, h5, h6, -, -⟩ := Cond.code_spec hn (atoms_spec (ws := Jvm.Cond.code x code maxLocals ret :: tables_1) h _ List.mem_cons_self)
    exact ⟨meth, c, h1, h2, h3, h4, h5, h6⟩
  · intro p e s m args below meth c s₁ B hml0 hP _
    obtain ⟨rfl, hx, hbd, hgv⟩ := hP
    obtain ⟨scr, harrAt, hlist, hof, hsmall⟩ := hx
    obtain ⟨hcb, hkn, -, -⟩ := State.arrayAt?_spec harrAt
    have hown : s.vm.findClass R_law = some m.cls := findClass_of_methodNamed B.named
    have hts0 : ∀ c ∈ (Jvm.Cond.code x code maxLocals ret :: tables_1), c.before #[Value.ref b] s = true := atoms_spec (ws := Jvm.Cond.code x code maxLocals ret :: tables_1) B.pre
    have hts : ∀ w ∈ lw_tbl, w.before #[Value.ref b] s = true := k2_hts_sels lw_privs (fun w hw => hts0 w (List.mem_cons_of_mem _ hw)) lw_privs_ok
    have hml : c.maxLocals = 4 := B.maxLocals_eq (hts0 _ List.mem_cons_self)
    have X₀ : Stand p l e room_1 s m #[Value.ref b] below meth c s₁ [] 0 0 := Stand.of_body B
    have hh0 : s₁.heap = s.heap := by rw [B.state]; rfl
    have hsz : scr.slots.size = xs.length := by rw [← Array.length_toList, hlist, List.length_map]
    have hval : ∀ j : Nat, j < xs.length → scr.slots[j]? = some (.int (xs.getD j 0)) := fun j hj => by
      rw [← Array.getElem?_toList, hlist]
      simp [hj]
    have hbl : b < s.heap.size := (Array.getElem?_eq_some_iff.mp hcb).1
    have hX : va_X b xs.length (fun j => xs.getD j 0) s s.heap := ⟨scr, hcb, hof, hkn, hsz, hval⟩
    have K : W p l e room_1 s m #[Value.ref b] below meth c s₁.heap [] 0 0 (lw_Z below #[Value.ref b] s) (entryFrame m ([Value.ref b] : List Value).toArray 4) := by
      rw [hh0]
      exact whole_start l hbd ⟨B.exec, B.bytes, B.returns, hml, hown, hts, hX, hbl, B.notSynchronized, hgv⟩
    obtain ⟨t, a1, o, b1, b2, b3⟩ := K s₁ rfl X₀
    exact ⟨t, o, a1, b1, b2, b3⟩
theorem lw_pre_spec {args : Array Value} {s : State} (h : (Jvm.Cond.and given_1 narrow_1).before args s = true) (hr : rest_1_c.before args s = true) : ∃ (b : Addr) (xs : List Int32), lw_P b xs args s := by
  have hs := flat_of_before _ h
  have hq := flat_of_before _ hr
  have hc : (Cond.count 1).before args s = true := hs _ (by decide +kernel)
  have harr : (Cond.arrayOf (.arg 0) .int).before args s = true := hs _ (by decide +kernel)
  have hle : (Cond.le (.length (.arg 0)) (.int 3072)).before args s = true := hs _ (by decide +kernel)
  have hlen : (Cond.isInt (.length (.arg 0))).before args s = true := hq _ (by decide +kernel)
  have hall : (Cond.all (.arg 0) (.isInt (.elem (.arg 0) (.index 0)))).before args s = true := hq _ (by decide +kernel)
  obtain ⟨b, xs, hb, hx⟩ := State.ints_of_pre rfl harr hlen hall
  have hsm : xs.length < 2 ^ 31 := hx.choose_spec.2.2.2
  have hev : (Term.length (.arg 0)).eval args s none [] s = some (.int xs.length.toInt32) := hx.length_eval hb
  have hv := Cond.le_ints hev (show (Term.int 3072).eval args s none [] s = some (.int 3072) from rfl)
  have hd : xs.length.toInt32 ≤ 3072 := by
    simpa [Cond.before, Cond.holds, hv] using hle
  have hN : xs.length ≤ 3072 := (Int32.ofNat_le_ofNat hsm (by decide)).mp (show Int32.ofNat xs.length ≤ Int32.ofNat 3072 from hd)
  exact ⟨b, xs, Cond.one_arg hc (show args[0]? = some (.ref b) from hb), hx, hN, h⟩
theorem lw_comes (l : Launch) : Comes l x (Jvm.Cond.code x code maxLocals ret :: tables_1) room_1 (fun tb e args s => Calls_1 tb e args s ∧ rest_1 tb e args s ∧ Pre_1 tb e args s)
    (fun _ _ args s o t => lw_Q args s o t) := by
  intro p e ha hc hk s m args below hf hfit hheap happ hpre
  obtain ⟨b, xs, hP⟩ := lw_pre_spec hpre.2.2 hpre.2.1
  obtain ⟨k, o, h1, h2, h3, hQ⟩ := lw_walk l b xs p e ha hc hk s m args below hf ((Spec.applies_iff_loose hf).mp happ).1 hP trivial
  exact ⟨k, o, h1, h2, h3, hQ⟩
theorem lw_frame {s t : State} {o : Outcome} {args : Array Value} (h : Framed s o t [] 600000 7302250) :
    Framed s o t (fieldLocs frame_1_writes args s ++ arrayLocs frame_1_arrays args s ++ staticLocs frame_1_statics s) 600000 7302250 := h
theorem lw_limb (L : Cond) (hL : ∀ (args : Array Value) (s t : State), L.after args s (.returned (some (.int 1))) t = true) :
    ArmFor flags0 classFile x code maxLocals ret World_1 tables_1 room_1 Calls_1 rest_1 Pre_1
      (fun tb e a s o t => postC L tb e a s o t ∧ Framed s o t (fieldLocs frame_1_writes a s ++ arrayLocs frame_1_arrays a s ++ staticLocs frame_1_statics s) 600000 7302250) := by
  intro l _ _ _ p e ha hc hk s m args below hf hfit hheap happ hpre
  obtain ⟨k, o, h1, h2, h3, rfl, hF⟩ := lw_comes l p e ha hc hk s m args below hf hfit hheap happ hpre
  exact ⟨k, _, h1, h2, h3, hL args s _, lw_frame hF⟩
theorem i_vc : Claimed_1_1 ∧ Claimed_1_2 := ⟨lw_limb limb_1_1 (fun args s t => by simp [limb_1_1, Cond.after, Cond.holds, Cond.value]), lw_limb limb_1_2 (fun args s t => Cond.after_iff.mpr (by
  first | (rw [show limb_1_2 = Cond.eq .result (.int 1) from rfl, Cond.eq_ints (x := 1) (y := 1) rfl rfl]; simp; done) | (simp [limb_1_2, Cond.value, Term.eval]; done)))⟩
