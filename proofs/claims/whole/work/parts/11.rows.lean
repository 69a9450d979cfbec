/-! A row an instruction, for z_S: printed by mkrows.py. -/
section ZRows
variable {ρ : Type} {E : zE} {M : zM} {d C S : Nat} {f : ρ → zQ} {pc : Nat} {lv : List (Nat × zV)} {st : List zV} {H : zH} {cs ss : Nat} {o oa ob : Option ρ}
theorem zs_iconst {i : Int} {v : Int32} (hd : decode M.2.1 pc = .ok (.iconst i, 1)) (hv : Int32.ofInt i = v) (k : z_S E M d C S f (pc + 1) lv (zI v :: st) H cs ss o) : z_S E M d C S f pc lv st H cs ss o := by
  intro yy hyy p l e s m args below meth c Hp locs ls X hW hl
  exact lv_iconst X.1 X.2.1 hd hv (k yy hyy p l e s m args below meth c Hp locs ls X hW hl)
theorem zs_bipush {i : Int} {v : Int32} (hd : decode M.2.1 pc = .ok (.bipush i, 2)) (hv : (Int8.ofInt i).toInt32 = v) (k : z_S E M d C S f (pc + 2) lv (zI v :: st) H cs ss o) : z_S E M d C S f pc lv st H cs ss o := by
  intro yy hyy p l e s m args below meth c Hp locs ls X hW hl
  exact lv_bipush X.1 X.2.1 hd hv (k yy hyy p l e s m args below meth c Hp locs ls X hW hl)
theorem zs_sipush {i : Int} {v : Int32} (hd : decode M.2.1 pc = .ok (.sipush i, 3)) (hv : (Int16.ofInt i).toInt32 = v) (k : z_S E M d C S f (pc + 3) lv (zI v :: st) H cs ss o) : z_S E M d C S f pc lv st H cs ss o := by
  intro yy hyy p l e s m args below meth c Hp locs ls X hW hl
  exact lv_sipush X.1 X.2.1 hd hv (k yy hyy p l e s m args below meth c Hp locs ls X hW hl)
theorem zs_lconst {i : Fin 2} {v : Int64} (hd : decode M.2.1 pc = .ok (.lconst i, 1)) (hv : Int64.ofNat (i : Nat) = v) (k : z_S E M d C S f (pc + 1) lv (zL v :: st) H cs ss o) : z_S E M d C S f pc lv st H cs ss o := by
  intro yy hyy p l e s m args below meth c Hp locs ls X hW hl
  exact lv_lconst X.1 X.2.1 hd hv (k yy hyy p l e s m args below meth c Hp locs ls X hW hl)
theorem zs_null (hd : decode M.2.1 pc = .ok (.aconst_null, 1)) (k : z_S E M d C S f (pc + 1) lv (zR none :: st) H cs ss o) : z_S E M d C S f pc lv st H cs ss o := by
  intro yy hyy p l e s m args below meth c Hp locs ls X hW hl
  exact lv_null X.1 X.2.1 hd (k yy hyy p l e s m args below meth c Hp locs ls X hW hl)
theorem zs_iadd {x y : Int32} (hd : decode M.2.1 pc = .ok (.iadd, 1)) (k : z_S E M d C S f (pc + 1) lv (zI (x + y) :: st) H cs ss o) : z_S E M d C S f pc lv (zI y :: zI x :: st) H cs ss o := by
  intro yy hyy p l e s m args below meth c Hp locs ls X hW hl
  exact lv_iadd X.1 X.2.1 hd (k yy hyy p l e s m args below meth c Hp locs ls X hW hl)
theorem zs_isub {x y : Int32} (hd : decode M.2.1 pc = .ok (.isub, 1)) (k : z_S E M d C S f (pc + 1) lv (zI (x - y) :: st) H cs ss o) : z_S E M d C S f pc lv (zI y :: zI x :: st) H cs ss o := by
  intro yy hyy p l e s m args below meth c Hp locs ls X hW hl
  exact lv_isub X.1 X.2.1 hd (k yy hyy p l e s m args below meth c Hp locs ls X hW hl)
theorem zs_imul {x y : Int32} (hd : decode M.2.1 pc = .ok (.imul, 1)) (k : z_S E M d C S f (pc + 1) lv (zI (x * y) :: st) H cs ss o) : z_S E M d C S f pc lv (zI y :: zI x :: st) H cs ss o := by
  intro yy hyy p l e s m args below meth c Hp locs ls X hW hl
  exact lv_imul X.1 X.2.1 hd (k yy hyy p l e s m args below meth c Hp locs ls X hW hl)
theorem zs_iand {x y : Int32} (hd : decode M.2.1 pc = .ok (.iand, 1)) (k : z_S E M d C S f (pc + 1) lv (zI (x &&& y) :: st) H cs ss o) : z_S E M d C S f pc lv (zI y :: zI x :: st) H cs ss o := by
  intro yy hyy p l e s m args below meth c Hp locs ls X hW hl
  exact lv_iand X.1 X.2.1 hd (k yy hyy p l e s m args below meth c Hp locs ls X hW hl)
theorem zs_ior {x y : Int32} (hd : decode M.2.1 pc = .ok (.ior, 1)) (k : z_S E M d C S f (pc + 1) lv (zI (x ||| y) :: st) H cs ss o) : z_S E M d C S f pc lv (zI y :: zI x :: st) H cs ss o := by
  intro yy hyy p l e s m args below meth c Hp locs ls X hW hl
  exact lv_ior X.1 X.2.1 hd (k yy hyy p l e s m args below meth c Hp locs ls X hW hl)
theorem zs_ixor {x y : Int32} (hd : decode M.2.1 pc = .ok (.ixor, 1)) (k : z_S E M d C S f (pc + 1) lv (zI (x ^^^ y) :: st) H cs ss o) : z_S E M d C S f pc lv (zI y :: zI x :: st) H cs ss o := by
  intro yy hyy p l e s m args below meth c Hp locs ls X hW hl
  exact lv_ixor X.1 X.2.1 hd (k yy hyy p l e s m args below meth c Hp locs ls X hW hl)
theorem zs_ishl {x y : Int32} (hd : decode M.2.1 pc = .ok (.ishl, 1)) (k : z_S E M d C S f (pc + 1) lv (zI (x <<< (y &&& 31)) :: st) H cs ss o) : z_S E M d C S f pc lv (zI y :: zI x :: st) H cs ss o := by
  intro yy hyy p l e s m args below meth c Hp locs ls X hW hl
  exact lv_ishl X.1 X.2.1 hd (k yy hyy p l e s m args below meth c Hp locs ls X hW hl)
theorem zs_ishr {x y : Int32} (hd : decode M.2.1 pc = .ok (.ishr, 1)) (k : z_S E M d C S f (pc + 1) lv (zI (x >>> (y &&& 31)) :: st) H cs ss o) : z_S E M d C S f pc lv (zI y :: zI x :: st) H cs ss o := by
  intro yy hyy p l e s m args below meth c Hp locs ls X hW hl
  exact lv_ishr X.1 X.2.1 hd (k yy hyy p l e s m args below meth c Hp locs ls X hW hl)
theorem zs_idiv {x y : Int32} (hd : decode M.2.1 pc = .ok (.idiv, 1)) (hne : ¬ y = 0) (k : z_S E M d C S f (pc + 1) lv (zI (x / y) :: st) H cs ss o) : z_S E M d C S f pc lv (zI y :: zI x :: st) H cs ss o := by
  intro yy hyy p l e s m args below meth c Hp locs ls X hW hl
  exact lv_idiv X.1 X.2.1 hd hne (k yy hyy p l e s m args below meth c Hp locs ls X hW hl)
theorem zs_irem {x y : Int32} (hd : decode M.2.1 pc = .ok (.irem, 1)) (hne : ¬ y = 0) (k : z_S E M d C S f (pc + 1) lv (zI (x - x / y * y) :: st) H cs ss o) : z_S E M d C S f pc lv (zI y :: zI x :: st) H cs ss o := by
  intro yy hyy p l e s m args below meth c Hp locs ls X hW hl
  exact lv_irem X.1 X.2.1 hd hne (k yy hyy p l e s m args below meth c Hp locs ls X hW hl)
theorem zs_ineg {x : Int32} (hd : decode M.2.1 pc = .ok (.ineg, 1)) (k : z_S E M d C S f (pc + 1) lv (zI (-x) :: st) H cs ss o) : z_S E M d C S f pc lv (zI x :: st) H cs ss o := by
  intro yy hyy p l e s m args below meth c Hp locs ls X hW hl
  exact lv_ineg X.1 X.2.1 hd (k yy hyy p l e s m args below meth c Hp locs ls X hW hl)
theorem zs_ladd {x y : Int64} (hd : decode M.2.1 pc = .ok (.ladd, 1)) (k : z_S E M d C S f (pc + 1) lv (zL (x + y) :: st) H cs ss o) : z_S E M d C S f pc lv (zL y :: zL x :: st) H cs ss o := by
  intro yy hyy p l e s m args below meth c Hp locs ls X hW hl
  exact lv_ladd X.1 X.2.1 hd (k yy hyy p l e s m args below meth c Hp locs ls X hW hl)
theorem zs_lsub {x y : Int64} (hd : decode M.2.1 pc = .ok (.lsub, 1)) (k : z_S E M d C S f (pc + 1) lv (zL (x - y) :: st) H cs ss o) : z_S E M d C S f pc lv (zL y :: zL x :: st) H cs ss o := by
  intro yy hyy p l e s m args below meth c Hp locs ls X hW hl
  exact lv_lsub X.1 X.2.1 hd (k yy hyy p l e s m args below meth c Hp locs ls X hW hl)
theorem zs_lmul {x y : Int64} (hd : decode M.2.1 pc = .ok (.lmul, 1)) (k : z_S E M d C S f (pc + 1) lv (zL (x * y) :: st) H cs ss o) : z_S E M d C S f pc lv (zL y :: zL x :: st) H cs ss o := by
  intro yy hyy p l e s m args below meth c Hp locs ls X hW hl
  exact lv_lmul X.1 X.2.1 hd (k yy hyy p l e s m args below meth c Hp locs ls X hW hl)
theorem zs_land {x y : Int64} (hd : decode M.2.1 pc = .ok (.land, 1)) (k : z_S E M d C S f (pc + 1) lv (zL (x &&& y) :: st) H cs ss o) : z_S E M d C S f pc lv (zL y :: zL x :: st) H cs ss o := by
  intro yy hyy p l e s m args below meth c Hp locs ls X hW hl
  exact lv_land X.1 X.2.1 hd (k yy hyy p l e s m args below meth c Hp locs ls X hW hl)
theorem zs_lor {x y : Int64} (hd : decode M.2.1 pc = .ok (.lor, 1)) (k : z_S E M d C S f (pc + 1) lv (zL (x ||| y) :: st) H cs ss o) : z_S E M d C S f pc lv (zL y :: zL x :: st) H cs ss o := by
  intro yy hyy p l e s m args below meth c Hp locs ls X hW hl
  exact lv_lor X.1 X.2.1 hd (k yy hyy p l e s m args below meth c Hp locs ls X hW hl)
theorem zs_lxor {x y : Int64} (hd : decode M.2.1 pc = .ok (.lxor, 1)) (k : z_S E M d C S f (pc + 1) lv (zL (x ^^^ y) :: st) H cs ss o) : z_S E M d C S f pc lv (zL y :: zL x :: st) H cs ss o := by
  intro yy hyy p l e s m args below meth c Hp locs ls X hW hl
  exact lv_lxor X.1 X.2.1 hd (k yy hyy p l e s m args below meth c Hp locs ls X hW hl)
theorem zs_lneg {x : Int64} (hd : decode M.2.1 pc = .ok (.lneg, 1)) (k : z_S E M d C S f (pc + 1) lv (zL (-x) :: st) H cs ss o) : z_S E M d C S f pc lv (zL x :: st) H cs ss o := by
  intro yy hyy p l e s m args below meth c Hp locs ls X hW hl
  exact lv_lneg X.1 X.2.1 hd (k yy hyy p l e s m args below meth c Hp locs ls X hW hl)
theorem zs_i2l {x : Int32} (hd : decode M.2.1 pc = .ok (.i2l, 1)) (k : z_S E M d C S f (pc + 1) lv (zL x.toInt64 :: st) H cs ss o) : z_S E M d C S f pc lv (zI x :: st) H cs ss o := by
  intro yy hyy p l e s m args below meth c Hp locs ls X hW hl
  exact lv_i2l X.1 X.2.1 hd rfl (k yy hyy p l e s m args below meth c Hp locs ls X hW hl)
theorem zs_l2i {x : Int64} (hd : decode M.2.1 pc = .ok (.l2i, 1)) (k : z_S E M d C S f (pc + 1) lv (zI x.toInt32 :: st) H cs ss o) : z_S E M d C S f pc lv (zL x :: st) H cs ss o := by
  intro yy hyy p l e s m args below meth c Hp locs ls X hW hl
  exact lv_l2i X.1 X.2.1 hd rfl (k yy hyy p l e s m args below meth c Hp locs ls X hW hl)
theorem zs_iushr {x y : Int32} (hd : decode M.2.1 pc = .ok (.iushr, 1)) (k : z_S E M d C S f (pc + 1) lv (zI (x.toUInt32 >>> (y.toUInt32 &&& Int32.toUInt32 31)).toInt32 :: st) H cs ss o) : z_S E M d C S f pc lv (zI y :: zI x :: st) H cs ss o := by
  intro yy hyy p l e s m args below meth c Hp locs ls X hW hl
  exact lv_iushr X.1 X.2.1 hd rfl (k yy hyy p l e s m args below meth c Hp locs ls X hW hl)
theorem zs_lushr {x : Int64} {y : Int32} (hd : decode M.2.1 pc = .ok (.lushr, 1)) (k : z_S E M d C S f (pc + 1) lv (zL (x.toUInt64 >>> (y.toInt64.toUInt64 &&& Int64.toUInt64 63)).toInt64 :: st) H cs ss o) : z_S E M d C S f pc lv (zI y :: zL x :: st) H cs ss o := by
  intro yy hyy p l e s m args below meth c Hp locs ls X hW hl
  exact lv_lushr X.1 X.2.1 hd rfl (k yy hyy p l e s m args below meth c Hp locs ls X hW hl)
theorem zs_lshl {x : Int64} {y : Int32} (hd : decode M.2.1 pc = .ok (.lshl, 1)) (k : z_S E M d C S f (pc + 1) lv (zL (x <<< (y.toInt64 &&& 63)) :: st) H cs ss o) : z_S E M d C S f pc lv (zI y :: zL x :: st) H cs ss o := by
  intro yy hyy p l e s m args below meth c Hp locs ls X hW hl
  exact lv_lshl X.1 X.2.1 hd rfl (k yy hyy p l e s m args below meth c Hp locs ls X hW hl)
theorem zs_lshr {x : Int64} {y : Int32} (hd : decode M.2.1 pc = .ok (.lshr, 1)) (k : z_S E M d C S f (pc + 1) lv (zL (x >>> (y.toInt64 &&& 63)) :: st) H cs ss o) : z_S E M d C S f pc lv (zI y :: zL x :: st) H cs ss o := by
  intro yy hyy p l e s m args below meth c Hp locs ls X hW hl
  exact lv_lshr X.1 X.2.1 hd rfl (k yy hyy p l e s m args below meth c Hp locs ls X hW hl)
theorem zs_dup {va : zV} (hd : decode M.2.1 pc = .ok (.dup, 1)) (hva : z_cat va = 1) (k : z_S E M d C S f (pc + 1) lv (va :: va :: st) H cs ss o) : z_S E M d C S f pc lv (va :: st) H cs ss o := by
  intro yy hyy p l e s m args below meth c Hp locs ls X hW hl
  exact lv_dup X.1 X.2.1 hd ((z_v_cat E _).trans hva) (k yy hyy p l e s m args below meth c Hp locs ls X hW hl)
theorem zs_pop {va : zV} (hd : decode M.2.1 pc = .ok (.pop, 1)) (hva : z_cat va = 1) (k : z_S E M d C S f (pc + 1) lv st H cs ss o) : z_S E M d C S f pc lv (va :: st) H cs ss o := by
  intro yy hyy p l e s m args below meth c Hp locs ls X hW hl
  exact lv_pop X.1 X.2.1 hd ((z_v_cat E _).trans hva) (k yy hyy p l e s m args below meth c Hp locs ls X hW hl)
theorem zs_dup_x1 {va vb : zV} (hd : decode M.2.1 pc = .ok (.dup_x1, 1)) (hva : z_cat va = 1) (hvb : z_cat vb = 1) (k : z_S E M d C S f (pc + 1) lv (va :: vb :: va :: st) H cs ss o) : z_S E M d C S f pc lv (va :: vb :: st) H cs ss o := by
  intro yy hyy p l e s m args below meth c Hp locs ls X hW hl
  exact lv_dup_x1 X.1 X.2.1 hd ((z_v_cat E _).trans hva) ((z_v_cat E _).trans hvb) (k yy hyy p l e s m args below meth c Hp locs ls X hW hl)
theorem zs_dup_x2 {va vb vd : zV} (hd : decode M.2.1 pc = .ok (.dup_x2, 1)) (hva : z_cat va = 1) (hvb : z_cat vb = 1) (hvd : z_cat vd = 1) (k : z_S E M d C S f (pc + 1) lv (va :: vb :: vd :: va :: st) H cs ss o) : z_S E M d C S f pc lv (va :: vb :: vd :: st) H cs ss o := by
  intro yy hyy p l e s m args below meth c Hp locs ls X hW hl
  exact lv_dup_x2 X.1 X.2.1 hd ((z_v_cat E _).trans hva) ((z_v_cat E _).trans hvb) ((z_v_cat E _).trans hvd) (k yy hyy p l e s m args below meth c Hp locs ls X hW hl)
theorem zs_dup2 {va vb : zV} (hd : decode M.2.1 pc = .ok (.dup2, 1)) (hva : z_cat va = 1) (hvb : z_cat vb = 1) (k : z_S E M d C S f (pc + 1) lv (va :: vb :: va :: vb :: st) H cs ss o) : z_S E M d C S f pc lv (va :: vb :: st) H cs ss o := by
  intro yy hyy p l e s m args below meth c Hp locs ls X hW hl
  exact lv_dup2_11 X.1 X.2.1 hd ((z_v_cat E _).trans hva) ((z_v_cat E _).trans hvb) (k yy hyy p l e s m args below meth c Hp locs ls X hW hl)
theorem zs_dup2_2 {va : zV} (hd : decode M.2.1 pc = .ok (.dup2, 1)) (hva : z_cat va = 2) (k : z_S E M d C S f (pc + 1) lv (va :: va :: st) H cs ss o) : z_S E M d C S f pc lv (va :: st) H cs ss o := by
  intro yy hyy p l e s m args below meth c Hp locs ls X hW hl
  exact lv_dup2_2 X.1 X.2.1 hd ((z_v_cat E _).trans hva) (k yy hyy p l e s m args below meth c Hp locs ls X hW hl)
theorem zs_pop2_2 {va : zV} (hd : decode M.2.1 pc = .ok (.pop2, 1)) (hva : z_cat va = 2) (k : z_S E M d C S f (pc + 1) lv st H cs ss o) : z_S E M d C S f pc lv (va :: st) H cs ss o := by
  intro yy hyy p l e s m args below meth c Hp locs ls X hW hl
  exact lv_pop2_2 X.1 X.2.1 hd ((z_v_cat E _).trans hva) (k yy hyy p l e s m args below meth c Hp locs ls X hW hl)
theorem zs_icmp_eq {x y : Int32} {off : Int} {tgt : Nat} (hd : decode M.2.1 pc = .ok (.if_icmp .eq off, 3)) (ht : (pc : Int) + off = (tgt : Int)) (kt : (x = y) → z_S E M d C S f tgt lv st H cs ss oa) (kf : ¬ (x = y) → z_S E M d C S f (pc + 3) lv st H cs ss ob) : z_S E M d C S f pc lv (zI y :: zI x :: st) H cs ss (if (x = y) then oa else ob) := by
  intro yy hyy p l e s m args below meth c Hp locs ls X hW hl
  exact lv_icmp_eq X.1 X.2.1 hd ht (fun q => kt q yy ((if_pos q).symm.trans hyy) p l e s m args below meth c Hp locs ls X hW hl) (fun q => kf q yy ((if_neg q).symm.trans hyy) p l e s m args below meth c Hp locs ls X hW hl)
theorem zs_if_eq {x : Int32} {off : Int} {tgt : Nat} (hd : decode M.2.1 pc = .ok (.ifCond .eq off, 3)) (ht : (pc : Int) + off = (tgt : Int)) (kt : (x = 0) → z_S E M d C S f tgt lv st H cs ss oa) (kf : ¬ (x = 0) → z_S E M d C S f (pc + 3) lv st H cs ss ob) : z_S E M d C S f pc lv (zI x :: st) H cs ss (if (x = 0) then oa else ob) := by
  intro yy hyy p l e s m args below meth c Hp locs ls X hW hl
  exact lv_if_eq X.1 X.2.1 hd ht (fun q => kt q yy ((if_pos q).symm.trans hyy) p l e s m args below meth c Hp locs ls X hW hl) (fun q => kf q yy ((if_neg q).symm.trans hyy) p l e s m args below meth c Hp locs ls X hW hl)
theorem zs_icmp_ne {x y : Int32} {off : Int} {tgt : Nat} (hd : decode M.2.1 pc = .ok (.if_icmp .ne off, 3)) (ht : (pc : Int) + off = (tgt : Int)) (kt : ¬ (x = y) → z_S E M d C S f tgt lv st H cs ss ob) (kf : (x = y) → z_S E M d C S f (pc + 3) lv st H cs ss oa) : z_S E M d C S f pc lv (zI y :: zI x :: st) H cs ss (if (x = y) then oa else ob) := by
  intro yy hyy p l e s m args below meth c Hp locs ls X hW hl
  exact lv_icmp_ne X.1 X.2.1 hd ht (fun q => kt q yy ((if_neg q).symm.trans hyy) p l e s m args below meth c Hp locs ls X hW hl) (fun q => kf q yy ((if_pos q).symm.trans hyy) p l e s m args below meth c Hp locs ls X hW hl)
theorem zs_if_ne {x : Int32} {off : Int} {tgt : Nat} (hd : decode M.2.1 pc = .ok (.ifCond .ne off, 3)) (ht : (pc : Int) + off = (tgt : Int)) (kt : ¬ (x = 0) → z_S E M d C S f tgt lv st H cs ss ob) (kf : (x = 0) → z_S E M d C S f (pc + 3) lv st H cs ss oa) : z_S E M d C S f pc lv (zI x :: st) H cs ss (if (x = 0) then oa else ob) := by
  intro yy hyy p l e s m args below meth c Hp locs ls X hW hl
  exact lv_if_ne X.1 X.2.1 hd ht (fun q => kt q yy ((if_neg q).symm.trans hyy) p l e s m args below meth c Hp locs ls X hW hl) (fun q => kf q yy ((if_pos q).symm.trans hyy) p l e s m args below meth c Hp locs ls X hW hl)
theorem zs_icmp_lt {x y : Int32} {off : Int} {tgt : Nat} (hd : decode M.2.1 pc = .ok (.if_icmp .lt off, 3)) (ht : (pc : Int) + off = (tgt : Int)) (kt : (x < y) → z_S E M d C S f tgt lv st H cs ss oa) (kf : ¬ (x < y) → z_S E M d C S f (pc + 3) lv st H cs ss ob) : z_S E M d C S f pc lv (zI y :: zI x :: st) H cs ss (if (x < y) then oa else ob) := by
  intro yy hyy p l e s m args below meth c Hp locs ls X hW hl
  exact lv_icmp_lt X.1 X.2.1 hd ht (fun q => kt q yy ((if_pos q).symm.trans hyy) p l e s m args below meth c Hp locs ls X hW hl) (fun q => kf q yy ((if_neg q).symm.trans hyy) p l e s m args below meth c Hp locs ls X hW hl)
theorem zs_if_lt {x : Int32} {off : Int} {tgt : Nat} (hd : decode M.2.1 pc = .ok (.ifCond .lt off, 3)) (ht : (pc : Int) + off = (tgt : Int)) (kt : (x < 0) → z_S E M d C S f tgt lv st H cs ss oa) (kf : ¬ (x < 0) → z_S E M d C S f (pc + 3) lv st H cs ss ob) : z_S E M d C S f pc lv (zI x :: st) H cs ss (if (x < 0) then oa else ob) := by
  intro yy hyy p l e s m args below meth c Hp locs ls X hW hl
  exact lv_if_lt X.1 X.2.1 hd ht (fun q => kt q yy ((if_pos q).symm.trans hyy) p l e s m args below meth c Hp locs ls X hW hl) (fun q => kf q yy ((if_neg q).symm.trans hyy) p l e s m args below meth c Hp locs ls X hW hl)
theorem zs_icmp_ge {x y : Int32} {off : Int} {tgt : Nat} (hd : decode M.2.1 pc = .ok (.if_icmp .ge off, 3)) (ht : (pc : Int) + off = (tgt : Int)) (kt : (y ≤ x) → z_S E M d C S f tgt lv st H cs ss oa) (kf : ¬ (y ≤ x) → z_S E M d C S f (pc + 3) lv st H cs ss ob) : z_S E M d C S f pc lv (zI y :: zI x :: st) H cs ss (if (y ≤ x) then oa else ob) := by
  intro yy hyy p l e s m args below meth c Hp locs ls X hW hl
  exact lv_icmp_ge X.1 X.2.1 hd ht (fun q => kt q yy ((if_pos q).symm.trans hyy) p l e s m args below meth c Hp locs ls X hW hl) (fun q => kf q yy ((if_neg q).symm.trans hyy) p l e s m args below meth c Hp locs ls X hW hl)
theorem zs_if_ge {x : Int32} {off : Int} {tgt : Nat} (hd : decode M.2.1 pc = .ok (.ifCond .ge off, 3)) (ht : (pc : Int) + off = (tgt : Int)) (kt : (0 ≤ x) → z_S E M d C S f tgt lv st H cs ss oa) (kf : ¬ (0 ≤ x) → z_S E M d C S f (pc + 3) lv st H cs ss ob) : z_S E M d C S f pc lv (zI x :: st) H cs ss (if (0 ≤ x) then oa else ob) := by
  intro yy hyy p l e s m args below meth c Hp locs ls X hW hl
  exact lv_if_ge X.1 X.2.1 hd ht (fun q => kt q yy ((if_pos q).symm.trans hyy) p l e s m args below meth c Hp locs ls X hW hl) (fun q => kf q yy ((if_neg q).symm.trans hyy) p l e s m args below meth c Hp locs ls X hW hl)
theorem zs_icmp_gt {x y : Int32} {off : Int} {tgt : Nat} (hd : decode M.2.1 pc = .ok (.if_icmp .gt off, 3)) (ht : (pc : Int) + off = (tgt : Int)) (kt : (y < x) → z_S E M d C S f tgt lv st H cs ss oa) (kf : ¬ (y < x) → z_S E M d C S f (pc + 3) lv st H cs ss ob) : z_S E M d C S f pc lv (zI y :: zI x :: st) H cs ss (if (y < x) then oa else ob) := by
  intro yy hyy p l e s m args below meth c Hp locs ls X hW hl
  exact lv_icmp_gt X.1 X.2.1 hd ht (fun q => kt q yy ((if_pos q).symm.trans hyy) p l e s m args below meth c Hp locs ls X hW hl) (fun q => kf q yy ((if_neg q).symm.trans hyy) p l e s m args below meth c Hp locs ls X hW hl)
theorem zs_if_gt {x : Int32} {off : Int} {tgt : Nat} (hd : decode M.2.1 pc = .ok (.ifCond .gt off, 3)) (ht : (pc : Int) + off = (tgt : Int)) (kt : (0 < x) → z_S E M d C S f tgt lv st H cs ss oa) (kf : ¬ (0 < x) → z_S E M d C S f (pc + 3) lv st H cs ss ob) : z_S E M d C S f pc lv (zI x :: st) H cs ss (if (0 < x) then oa else ob) := by
  intro yy hyy p l e s m args below meth c Hp locs ls X hW hl
  exact lv_if_gt X.1 X.2.1 hd ht (fun q => kt q yy ((if_pos q).symm.trans hyy) p l e s m args below meth c Hp locs ls X hW hl) (fun q => kf q yy ((if_neg q).symm.trans hyy) p l e s m args below meth c Hp locs ls X hW hl)
theorem zs_icmp_le {x y : Int32} {off : Int} {tgt : Nat} (hd : decode M.2.1 pc = .ok (.if_icmp .le off, 3)) (ht : (pc : Int) + off = (tgt : Int)) (kt : (x ≤ y) → z_S E M d C S f tgt lv st H cs ss oa) (kf : ¬ (x ≤ y) → z_S E M d C S f (pc + 3) lv st H cs ss ob) : z_S E M d C S f pc lv (zI y :: zI x :: st) H cs ss (if (x ≤ y) then oa else ob) := by
  intro yy hyy p l e s m args below meth c Hp locs ls X hW hl
  exact lv_icmp_le X.1 X.2.1 hd ht (fun q => kt q yy ((if_pos q).symm.trans hyy) p l e s m args below meth c Hp locs ls X hW hl) (fun q => kf q yy ((if_neg q).symm.trans hyy) p l e s m args below meth c Hp locs ls X hW hl)
theorem zs_if_le {x : Int32} {off : Int} {tgt : Nat} (hd : decode M.2.1 pc = .ok (.ifCond .le off, 3)) (ht : (pc : Int) + off = (tgt : Int)) (kt : (x ≤ 0) → z_S E M d C S f tgt lv st H cs ss oa) (kf : ¬ (x ≤ 0) → z_S E M d C S f (pc + 3) lv st H cs ss ob) : z_S E M d C S f pc lv (zI x :: st) H cs ss (if (x ≤ 0) then oa else ob) := by
  intro yy hyy p l e s m args below meth c Hp locs ls X hW hl
  exact lv_if_le X.1 X.2.1 hd ht (fun q => kt q yy ((if_pos q).symm.trans hyy) p l e s m args below meth c Hp locs ls X hW hl) (fun q => kf q yy ((if_neg q).symm.trans hyy) p l e s m args below meth c Hp locs ls X hW hl)
theorem zs_lcmp0 {x y : Int64} (hd : decode M.2.1 pc = .ok (.lcmp, 1)) (k : z_S E M d C S f (pc + 1) lv (zI (lg_cmp x y) :: st) H cs ss o) : z_S E M d C S f pc lv (zL y :: zL x :: st) H cs ss o := by
  intro yy hyy p l e s m args below meth c Hp locs ls X hW hl
  exact W.lcmp X.1 X.2.1 hd (k yy hyy p l e s m args below meth c Hp locs ls X hW hl)
theorem zs_cm (x y : Int64) : (lg_cmp x y = 0 ↔ x = y) ∧ (lg_cmp x y < 0 ↔ x < y) ∧ (0 ≤ lg_cmp x y ↔ y ≤ x) ∧ (0 < lg_cmp x y ↔ y < x) ∧ (lg_cmp x y ≤ 0 ↔ x ≤ y) := by
  unfold lg_cmp
  simp only [gt_iff_lt, Int64.lt_iff_toInt_lt, Int64.le_iff_toInt_le, ← Int64.toInt_inj]
  by_cases h1 : y.toInt < x.toInt
  · rw [if_pos h1]
    refine ⟨?_, ?_, ?_, ?_, ?_⟩ <;> constructor <;> intro h <;> first | omega | decide | exact absurd h (by decide)
  · rw [if_neg h1]
    by_cases h2 : x.toInt = y.toInt
    · rw [if_pos h2]
      refine ⟨?_, ?_, ?_, ?_, ?_⟩ <;> constructor <;> intro h <;> first | omega | decide | exact absurd h (by decide)
    · rw [if_neg h2]
      refine ⟨?_, ?_, ?_, ?_, ?_⟩ <;> constructor <;> intro h <;> first | omega | decide | exact absurd h (by decide)
theorem zs_lcmp_eq {x y : Int64} {off : Int} {tgt : Nat} (hd : decode M.2.1 pc = .ok (.lcmp, 1)) (hd2 : decode M.2.1 (pc + 1) = .ok (.ifCond .eq off, 3)) (ht : ((pc + 1 : Nat) : Int) + off = (tgt : Int)) (kt : (x = y) → z_S E M d C S f tgt lv st H cs ss oa) (kf : ¬ (x = y) → z_S E M d C S f (pc + 1 + 3) lv st H cs ss ob) : z_S E M d C S f pc lv (zL y :: zL x :: st) H cs ss (if (x = y) then oa else ob) := by
  have hh : (if (x = y) then oa else ob) = (if (lg_cmp x y = 0) then oa else ob) := by simp only [(zs_cm x y).1]
  rw [hh]
  exact zs_lcmp0 hd (zs_if_eq hd2 ht (fun q => kt ((zs_cm x y).1.mp q)) (fun q => kf (fun q2 => q ((zs_cm x y).1.mpr q2))))
theorem zs_lcmp_ne {x y : Int64} {off : Int} {tgt : Nat} (hd : decode M.2.1 pc = .ok (.lcmp, 1)) (hd2 : decode M.2.1 (pc + 1) = .ok (.ifCond .ne off, 3)) (ht : ((pc + 1 : Nat) : Int) + off = (tgt : Int)) (kt : ¬ (x = y) → z_S E M d C S f tgt lv st H cs ss ob) (kf : (x = y) → z_S E M d C S f (pc + 1 + 3) lv st H cs ss oa) : z_S E M d C S f pc lv (zL y :: zL x :: st) H cs ss (if (x = y) then oa else ob) := by
  have hh : (if (x = y) then oa else ob) = (if (lg_cmp x y = 0) then oa else ob) := by simp only [(zs_cm x y).1]
  rw [hh]
  exact zs_lcmp0 hd (zs_if_ne hd2 ht (fun q => kt (fun q2 => q ((zs_cm x y).1.mpr q2))) (fun q => kf ((zs_cm x y).1.mp q)))
theorem zs_lcmp_lt {x y : Int64} {off : Int} {tgt : Nat} (hd : decode M.2.1 pc = .ok (.lcmp, 1)) (hd2 : decode M.2.1 (pc + 1) = .ok (.ifCond .lt off, 3)) (ht : ((pc + 1 : Nat) : Int) + off = (tgt : Int)) (kt : (x < y) → z_S E M d C S f tgt lv st H cs ss oa) (kf : ¬ (x < y) → z_S E M d C S f (pc + 1 + 3) lv st H cs ss ob) : z_S E M d C S f pc lv (zL y :: zL x :: st) H cs ss (if (x < y) then oa else ob) := by
  have hh : (if (x < y) then oa else ob) = (if (lg_cmp x y < 0) then oa else ob) := by simp only [(zs_cm x y).2.1]
  rw [hh]
  exact zs_lcmp0 hd (zs_if_lt hd2 ht (fun q => kt ((zs_cm x y).2.1.mp q)) (fun q => kf (fun q2 => q ((zs_cm x y).2.1.mpr q2))))
theorem zs_lcmp_ge {x y : Int64} {off : Int} {tgt : Nat} (hd : decode M.2.1 pc = .ok (.lcmp, 1)) (hd2 : decode M.2.1 (pc + 1) = .ok (.ifCond .ge off, 3)) (ht : ((pc + 1 : Nat) : Int) + off = (tgt : Int)) (kt : (y ≤ x) → z_S E M d C S f tgt lv st H cs ss oa) (kf : ¬ (y ≤ x) → z_S E M d C S f (pc + 1 + 3) lv st H cs ss ob) : z_S E M d C S f pc lv (zL y :: zL x :: st) H cs ss (if (y ≤ x) then oa else ob) := by
  have hh : (if (y ≤ x) then oa else ob) = (if (0 ≤ lg_cmp x y) then oa else ob) := by simp only [(zs_cm x y).2.2.1]
  rw [hh]
  exact zs_lcmp0 hd (zs_if_ge hd2 ht (fun q => kt ((zs_cm x y).2.2.1.mp q)) (fun q => kf (fun q2 => q ((zs_cm x y).2.2.1.mpr q2))))
theorem zs_lcmp_gt {x y : Int64} {off : Int} {tgt : Nat} (hd : decode M.2.1 pc = .ok (.lcmp, 1)) (hd2 : decode M.2.1 (pc + 1) = .ok (.ifCond .gt off, 3)) (ht : ((pc + 1 : Nat) : Int) + off = (tgt : Int)) (kt : (y < x) → z_S E M d C S f tgt lv st H cs ss oa) (kf : ¬ (y < x) → z_S E M d C S f (pc + 1 + 3) lv st H cs ss ob) : z_S E M d C S f pc lv (zL y :: zL x :: st) H cs ss (if (y < x) then oa else ob) := by
  have hh : (if (y < x) then oa else ob) = (if (0 < lg_cmp x y) then oa else ob) := by simp only [(zs_cm x y).2.2.2.1]
  rw [hh]
  exact zs_lcmp0 hd (zs_if_gt hd2 ht (fun q => kt ((zs_cm x y).2.2.2.1.mp q)) (fun q => kf (fun q2 => q ((zs_cm x y).2.2.2.1.mpr q2))))
theorem zs_lcmp_le {x y : Int64} {off : Int} {tgt : Nat} (hd : decode M.2.1 pc = .ok (.lcmp, 1)) (hd2 : decode M.2.1 (pc + 1) = .ok (.ifCond .le off, 3)) (ht : ((pc + 1 : Nat) : Int) + off = (tgt : Int)) (kt : (x ≤ y) → z_S E M d C S f tgt lv st H cs ss oa) (kf : ¬ (x ≤ y) → z_S E M d C S f (pc + 1 + 3) lv st H cs ss ob) : z_S E M d C S f pc lv (zL y :: zL x :: st) H cs ss (if (x ≤ y) then oa else ob) := by
  have hh : (if (x ≤ y) then oa else ob) = (if (lg_cmp x y ≤ 0) then oa else ob) := by simp only [(zs_cm x y).2.2.2.2]
  rw [hh]
  exact zs_lcmp0 hd (zs_if_le hd2 ht (fun q => kt ((zs_cm x y).2.2.2.2.mp q)) (fun q => kf (fun q2 => q ((zs_cm x y).2.2.2.2.mpr q2))))
theorem zs_ite {cnd : Prop} {_ : Decidable cnd} (ka : cnd → z_S E M d C S f pc lv st H cs ss oa) (kb : ¬ cnd → z_S E M d C S f pc lv st H cs ss ob) : z_S E M d C S f pc lv st H cs ss (if cnd then oa else ob) := by
  by_cases hq : cnd
  · rw [if_pos hq]; exact ka hq
  · rw [if_neg hq]; exact kb hq
theorem zs_goto {off : Int} {tgt : Nat} (hd : decode M.2.1 pc = .ok (.goto off, 3)) (ht : (pc : Int) + off = (tgt : Int)) (k : z_S E M d C S f tgt lv st H cs ss o) : z_S E M d C S f pc lv st H cs ss o := by
  intro yy hyy p l e s m args below meth c Hp locs ls X hW hl
  exact lv_goto X.1 X.2.1 hd ht (k yy hyy p l e s m args below meth c Hp locs ls X hW hl)
theorem zs_ifnull {r : Option Nat} {off : Int} {tgt : Nat} (hd : decode M.2.1 pc = .ok (.ifnull off, 3)) (ht : (pc : Int) + off = (tgt : Int)) (kt : r = none → z_S E M d C S f tgt lv st H cs ss oa) (kf : ¬ r = none → z_S E M d C S f (pc + 3) lv st H cs ss ob) : z_S E M d C S f pc lv (zR r :: st) H cs ss (if r = none then oa else ob) := by
  cases r with
  | none =>
    rw [if_pos rfl]
    intro yy hyy p l e s m args below meth c Hp locs ls X hW hl
    exact lv_ifnullN X.1 X.2.1 hd ht (kt rfl yy hyy p l e s m args below meth c Hp locs ls X hW hl)
  | some x =>
    rw [if_neg (by intro h; cases h)]
    intro yy hyy p l e s m args below meth c Hp locs ls X hW hl
    exact lv_ifnull X.1 X.2.1 hd (kf (by intro h; cases h) yy hyy p l e s m args below meth c Hp locs ls X hW hl)
theorem zs_ifnonnull {r : Option Nat} {off : Int} {tgt : Nat} (hd : decode M.2.1 pc = .ok (.ifnonnull off, 3)) (ht : (pc : Int) + off = (tgt : Int)) (kt : ¬ r = none → z_S E M d C S f tgt lv st H cs ss ob) (kf : r = none → z_S E M d C S f (pc + 3) lv st H cs ss oa) : z_S E M d C S f pc lv (zR r :: st) H cs ss (if r = none then oa else ob) := by
  cases r with
  | none =>
    rw [if_pos rfl]
    intro yy hyy p l e s m args below meth c Hp locs ls X hW hl
    exact lv_ifnonnullN X.1 X.2.1 hd (kf rfl yy hyy p l e s m args below meth c Hp locs ls X hW hl)
  | some x =>
    rw [if_neg (by intro h; cases h)]
    intro yy hyy p l e s m args below meth c Hp locs ls X hW hl
    exact lv_ifnonnull X.1 X.2.1 hd ht (kt (by intro h; cases h) yy hyy p l e s m args below meth c Hp locs ls X hW hl)
theorem zs_lookup {dflt : Int} {ps : Array (Int × Int)} {len : Nat} {x : Int32} {off : Int} {tgt : Nat} (hd : decode M.2.1 pc = .ok (.lookupswitch dflt ps, len)) (hp : (ps.toList.zip (ps.toList.drop 1)).all (fun (a, next) => a.1 < next.1) = true) (ho : Op.lookupswitch.offset ps.toList dflt x.toInt = off) (ht : (pc : Int) + off = (tgt : Int)) (k : z_S E M d C S f tgt lv st H cs ss o) : z_S E M d C S f pc lv (zI x :: st) H cs ss o := by
  intro yy hyy p l e s m args below meth c Hp locs ls X hW hl
  exact lv_lookup X.1 X.2.1 hd hp ho ht (k yy hyy p l e s m args below meth c Hp locs ls X hW hl)
theorem zs_tableOut {dflt lo hi : Int} {offs : Array Int} {len : Nat} {x : Int32} {tgt : Nat} (hd : decode M.2.1 pc = .ok (.tableswitch dflt lo hi offs, len)) (ho : x.toInt < lo ∨ hi < x.toInt) (ht : (pc : Int) + dflt = (tgt : Int)) (k : z_S E M d C S f tgt lv st H cs ss o) : z_S E M d C S f pc lv (zI x :: st) H cs ss o := by
  intro yy hyy p l e s m args below meth c Hp locs ls X hW hl
  exact lv_tableOut X.1 X.2.1 hd ho ht (k yy hyy p l e s m args below meth c Hp locs ls X hW hl)
theorem zs_tableIn {dflt lo hi : Int} {offs : Array Int} {len : Nat} {x : Int32} {off : Int} {tgt : Nat} (hd : decode M.2.1 pc = .ok (.tableswitch dflt lo hi offs, len)) (h1 : ¬ x.toInt < lo) (h2 : ¬ hi < x.toInt) (ho : offs[(x.toInt - lo).toNat]? = some off) (ht : (pc : Int) + off = (tgt : Int)) (k : z_S E M d C S f tgt lv st H cs ss o) : z_S E M d C S f pc lv (zI x :: st) H cs ss o := by
  intro yy hyy p l e s m args below meth c Hp locs ls X hW hl
  exact lv_tableIn X.1 X.2.1 hd h1 h2 ho ht (k yy hyy p l e s m args below meth c Hp locs ls X hW hl)
def z_tsw (pc : Nat) (dflt lo hi : Int) (offs : Array Int) (k : Int) : Int := (pc : Int) + (if k < lo ∨ hi < k then dflt else offs.getD (k - lo).toNat 0)
def z_twf (lo hi : Int) (offs : Array Int) : Bool := hi + 1 ≤ lo + (offs.size : Int)
theorem zs_table {dflt lo hi : Int} {offs : Array Int} {len : Nat} {x : Int32} {tgt : Nat} (hd : decode M.2.1 pc = .ok (.tableswitch dflt lo hi offs, len)) (hwf : z_twf lo hi offs = true) (ht : z_tsw pc dflt lo hi offs x.toInt = (tgt : Int)) (k : z_S E M d C S f tgt lv st H cs ss o) : z_S E M d C S f pc lv (zI x :: st) H cs ss o := by
  unfold z_tsw at ht
  by_cases hb : x.toInt < lo ∨ hi < x.toInt
  · rw [if_pos hb] at ht
    exact zs_tableOut hd hb ht k
  · rw [if_neg hb] at ht
    have h1 : ¬ x.toInt < lo := fun q => hb (Or.inl q)
    have h2 : ¬ hi < x.toInt := fun q => hb (Or.inr q)
    have h3 : hi + 1 ≤ lo + (offs.size : Int) := by simpa [z_twf] using hwf
    have h4 : (x.toInt - lo).toNat < offs.size := by omega
    refine zs_tableIn hd h1 h2 (off := offs[(x.toInt - lo).toNat]) (by rw [Array.getElem?_eq_getElem h4]) ?_ k
    rw [Array.getD, dif_pos h4] at ht
    exact ht
def z_lsw (pc : Nat) (dflt : Int) (ps : Array (Int × Int)) (k : Int) : Int := (pc : Int) + Op.lookupswitch.offset ps.toList dflt k
theorem zs_lookup2 {dflt : Int} {ps : Array (Int × Int)} {len : Nat} {x : Int32} {tgt : Nat} (hd : decode M.2.1 pc = .ok (.lookupswitch dflt ps, len)) (hp : (ps.toList.zip (ps.toList.drop 1)).all (fun (a, next) => a.1 < next.1) = true) (ht : z_lsw pc dflt ps x.toInt = (tgt : Int)) (k : z_S E M d C S f tgt lv st H cs ss o) : z_S E M d C S f pc lv (zI x :: st) H cs ss o := zs_lookup hd hp rfl ht k
theorem zs_tne {x kk : Int32} {k : Int} (h : ¬ x = kk) (hk : kk.toInt = k) : x.toInt ≠ k := fun e => h (Int32.toInt_inj.mp (e.trans hk.symm))
theorem zs_iload {i : Nat} {x : Int32} (hd : decode M.2.1 pc = .ok (.iload i, 2)) (hg : z_get lv i = some (zI x)) (k : z_S E M d C S f (pc + 2) lv (zI x :: st) H cs ss o) : z_S E M d C S f pc lv st H cs ss o := by
  intro yy hyy p l e s m args below meth c Hp locs ls X hW hl
  exact lv_iload X.1 X.2.1 hd (z_lget hl hg) (k yy hyy p l e s m args below meth c Hp locs ls X hW hl)
theorem zs_iload_n {i : Fin 4} {x : Int32} (hd : decode M.2.1 pc = .ok (.iload_n i, 1)) (hg : z_get lv (i : Nat) = some (zI x)) (k : z_S E M d C S f (pc + 1) lv (zI x :: st) H cs ss o) : z_S E M d C S f pc lv st H cs ss o := by
  intro yy hyy p l e s m args below meth c Hp locs ls X hW hl
  exact lv_iload_n X.1 X.2.1 hd rfl (z_lget hl hg) (k yy hyy p l e s m args below meth c Hp locs ls X hW hl)
theorem zs_lload {i : Nat} {x : Int64} (hd : decode M.2.1 pc = .ok (.lload i, 2)) (hg : z_get lv i = some (zL x)) (k : z_S E M d C S f (pc + 2) lv (zL x :: st) H cs ss o) : z_S E M d C S f pc lv st H cs ss o := by
  intro yy hyy p l e s m args below meth c Hp locs ls X hW hl
  exact lv_lload X.1 X.2.1 hd (z_lget hl hg) (k yy hyy p l e s m args below meth c Hp locs ls X hW hl)
theorem zs_lload_n {i : Fin 4} {x : Int64} (hd : decode M.2.1 pc = .ok (.lload_n i, 1)) (hg : z_get lv (i : Nat) = some (zL x)) (k : z_S E M d C S f (pc + 1) lv (zL x :: st) H cs ss o) : z_S E M d C S f pc lv st H cs ss o := by
  intro yy hyy p l e s m args below meth c Hp locs ls X hW hl
  exact lv_lload_n X.1 X.2.1 hd rfl (z_lget hl hg) (k yy hyy p l e s m args below meth c Hp locs ls X hW hl)
theorem zs_aload {i : Nat} {x : Option Nat} (hd : decode M.2.1 pc = .ok (.aload i, 2)) (hg : z_get lv i = some (zR x)) (k : z_S E M d C S f (pc + 2) lv (zR x :: st) H cs ss o) : z_S E M d C S f pc lv st H cs ss o := by
  intro yy hyy p l e s m args below meth c Hp locs ls X hW hl
  cases x with
  | none => exact lv_aloadN X.1 X.2.1 hd (z_lget hl hg) (k yy hyy p l e s m args below meth c Hp locs ls X hW hl)
  | some x => exact lv_aload X.1 X.2.1 hd (z_lget hl hg) (k yy hyy p l e s m args below meth c Hp locs ls X hW hl)
theorem zs_aload_n {i : Fin 4} {x : Option Nat} (hd : decode M.2.1 pc = .ok (.aload_n i, 1)) (hg : z_get lv (i : Nat) = some (zR x)) (k : z_S E M d C S f (pc + 1) lv (zR x :: st) H cs ss o) : z_S E M d C S f pc lv st H cs ss o := by
  intro yy hyy p l e s m args below meth c Hp locs ls X hW hl
  cases x with
  | none => exact lv_aload_nN X.1 X.2.1 hd rfl (z_lget hl hg) (k yy hyy p l e s m args below meth c Hp locs ls X hW hl)
  | some x => exact lv_aload_n X.1 X.2.1 hd rfl (z_lget hl hg) (k yy hyy p l e s m args below meth c Hp locs ls X hW hl)
theorem zs_istore {i : Nat} {x : Int32} {lv' : List (Nat × zV)} (hd : decode M.2.1 pc = .ok (.istore i, 2)) (hn : i < M.2.2.1) (hv : z_put1 lv i (zI x) = lv') (k : z_S E M d C S f (pc + 2) lv' st H cs ss o) : z_S E M d C S f pc lv (zI x :: st) H cs ss o := by
  subst hv
  intro yy hyy p l e s m args below meth c Hp locs ls X hW hl
  exact lv_istore X.1 X.2.1 hd hl hn (z_l_put1 E lv i (zI x)).symm (fun ls' hl' => k yy hyy p l e s m args below meth c Hp locs ls' X hW hl')
theorem zs_istore_n {i : Fin 4} {x : Int32} {lv' : List (Nat × zV)} (hd : decode M.2.1 pc = .ok (.istore_n i, 1)) (hn : (i : Nat) < M.2.2.1) (hv : z_put1 lv (i : Nat) (zI x) = lv') (k : z_S E M d C S f (pc + 1) lv' st H cs ss o) : z_S E M d C S f pc lv (zI x :: st) H cs ss o := by
  subst hv
  intro yy hyy p l e s m args below meth c Hp locs ls X hW hl
  exact lv_istore_n X.1 X.2.1 hd rfl hl hn (z_l_put1 E lv (i : Nat) (zI x)).symm (fun ls' hl' => k yy hyy p l e s m args below meth c Hp locs ls' X hW hl')
theorem zs_lstore {i : Nat} {x : Int64} {lv' : List (Nat × zV)} (hd : decode M.2.1 pc = .ok (.lstore i, 2)) (hn : i + 1 < M.2.2.1) (hv : z_put2 lv i (zL x) = lv') (k : z_S E M d C S f (pc + 2) lv' st H cs ss o) : z_S E M d C S f pc lv (zL x :: st) H cs ss o := by
  subst hv
  intro yy hyy p l e s m args below meth c Hp locs ls X hW hl
  exact lv_lstore X.1 X.2.1 hd hl hn (z_l_put2 E lv i (zL x)).symm (fun ls' hl' => k yy hyy p l e s m args below meth c Hp locs ls' X hW hl')
theorem zs_lstore_n {i : Fin 4} {x : Int64} {lv' : List (Nat × zV)} (hd : decode M.2.1 pc = .ok (.lstore_n i, 1)) (hn : (i : Nat) + 1 < M.2.2.1) (hv : z_put2 lv (i : Nat) (zL x) = lv') (k : z_S E M d C S f (pc + 1) lv' st H cs ss o) : z_S E M d C S f pc lv (zL x :: st) H cs ss o := by
  subst hv
  intro yy hyy p l e s m args below meth c Hp locs ls X hW hl
  exact lv_lstore_n X.1 X.2.1 hd rfl hl hn (z_l_put2 E lv (i : Nat) (zL x)).symm (fun ls' hl' => k yy hyy p l e s m args below meth c Hp locs ls' X hW hl')
theorem zs_astore {i : Nat} {x : Option Nat} {lv' : List (Nat × zV)} (hd : decode M.2.1 pc = .ok (.astore i, 2)) (hn : i < M.2.2.1) (hv : z_put1 lv i (zR x) = lv') (k : z_S E M d C S f (pc + 2) lv' st H cs ss o) : z_S E M d C S f pc lv (zR x :: st) H cs ss o := by
  subst hv
  intro yy hyy p l e s m args below meth c Hp locs ls X hW hl
  cases x with
  | none => exact lv_astoreN X.1 X.2.1 hd hl hn (z_l_put1 E lv i (zR none)).symm (fun ls' hl' => k yy hyy p l e s m args below meth c Hp locs ls' X hW hl')
  | some x => exact lv_astore X.1 X.2.1 hd hl hn (z_l_put1 E lv i (zR (some x))).symm (fun ls' hl' => k yy hyy p l e s m args below meth c Hp locs ls' X hW hl')
theorem zs_astore_n {i : Fin 4} {x : Option Nat} {lv' : List (Nat × zV)} (hd : decode M.2.1 pc = .ok (.astore_n i, 1)) (hn : (i : Nat) < M.2.2.1) (hv : z_put1 lv (i : Nat) (zR x) = lv') (k : z_S E M d C S f (pc + 1) lv' st H cs ss o) : z_S E M d C S f pc lv (zR x :: st) H cs ss o := by
  subst hv
  intro yy hyy p l e s m args below meth c Hp locs ls X hW hl
  cases x with
  | none => exact lv_astore_nN X.1 X.2.1 hd rfl hl hn (z_l_put1 E lv (i : Nat) (zR none)).symm (fun ls' hl' => k yy hyy p l e s m args below meth c Hp locs ls' X hW hl')
  | some x => exact lv_astore_n X.1 X.2.1 hd rfl hl hn (z_l_put1 E lv (i : Nat) (zR (some x))).symm (fun ls' hl' => k yy hyy p l e s m args below meth c Hp locs ls' X hW hl')
theorem zs_iinc {i : Nat} {a : Int} {x v : Int32} {lv' : List (Nat × zV)} (hd : decode M.2.1 pc = .ok (.iinc i a, 3)) (hg : z_get lv i = some (zI x)) (he : x + Int32.ofInt a = v) (hn : i < M.2.2.1) (hv : z_put1 lv i (zI v) = lv') (k : z_S E M d C S f (pc + 3) lv' st H cs ss o) : z_S E M d C S f pc lv st H cs ss o := by
  subst hv
  intro yy hyy p l e s m args below meth c Hp locs ls X hW hl
  obtain ⟨j, hj⟩ := List.getElem?_of_mem (List.mem_map.mpr ⟨(i, zI x), z_get_mem hg, rfl⟩ : (i, z_v E (zI x)) ∈ z_l E lv)
  exact lv_iinc (k := j) X.1 X.2.1 hd hl hj he hn (z_l_put1 E lv i (zI v)).symm (fun ls' hl' => k yy hyy p l e s m args below meth c Hp locs ls' X hW hl')
def z_pick (l : List (Nat × zV)) (ks : List Nat) : List (Nat × zV) := ks.filterMap (fun k => l[k]?)
theorem zs_sub {lv' : List (Nat × zV)} (ks : List Nat) (hv : z_pick lv ks = lv') (k : z_S E M d C S f pc lv' st H cs ss o) : z_S E M d C S f pc lv st H cs ss o := by
  intro yy hyy p l e s m args below meth c Hp locs ls X hW hl
  refine k yy hyy p l e s m args below meth c Hp locs ls X hW ⟨hl.1, hl.2.1, fun q hq => ?_⟩
  subst hv
  obtain ⟨v, hv, rfl⟩ := List.mem_map.mp hq
  obtain ⟨j, -, hj⟩ := List.mem_filterMap.mp hv
  exact hl.2.2 _ (List.mem_map.mpr ⟨v, List.mem_of_getElem? hj, rfl⟩)
theorem zs_ldc {i : Nat} {v : Int32} (hd : decode M.2.1 pc = .ok (.ldc i, 2)) (hw : Cond.constant M.1.cls i v ∈ z_tb) (k : z_S E M d C S f (pc + 2) lv (zI v :: st) H cs ss o) : z_S E M d C S f pc lv st H cs ss o := by
  intro yy hyy p l e s m args below meth c Hp locs ls X hW hl
  exact lv_ldc X.1 X.2.1 X.2.2.2.2.2.2.1 (X.2.2.2.2.2.2.2.1 _ hw) hd (k yy hyy p l e s m args below meth c Hp locs ls X hW hl)
theorem zs_ldcw {i : Nat} {v : Int32} (hd : decode M.2.1 pc = .ok (.ldc_w i, 3)) (hw : Cond.constant M.1.cls i v ∈ z_tb) (k : z_S E M d C S f (pc + 3) lv (zI v :: st) H cs ss o) : z_S E M d C S f pc lv st H cs ss o := by
  intro yy hyy p l e s m args below meth c Hp locs ls X hW hl
  exact lv_ldcw X.1 X.2.1 X.2.2.2.2.2.2.1 (X.2.2.2.2.2.2.2.1 _ hw) hd (k yy hyy p l e s m args below meth c Hp locs ls X hW hl)
theorem zs_ldc2 {i : Nat} {v : Int64} (hd : decode M.2.1 pc = .ok (.ldc2_w i, 3)) (hw : Cond.constantLong M.1.cls i v ∈ z_tb) (k : z_S E M d C S f (pc + 3) lv (zL v :: st) H cs ss o) : z_S E M d C S f pc lv st H cs ss o := by
  intro yy hyy p l e s m args below meth c Hp locs ls X hW hl
  exact lv_ldc2 X.1 X.2.1 X.2.2.2.2.2.2.1 (X.2.2.2.2.2.2.2.1 _ hw) hd (k yy hyy p l e s m args below meth c Hp locs ls X hW hl)
theorem zs_none : z_S E M d C S f pc lv st H cs ss none := fun _ h => by cases h
end ZRows
