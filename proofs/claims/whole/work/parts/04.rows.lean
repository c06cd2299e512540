section ZROWS
variable {g : zm_Sig} {post : zm_Post} {pc : Nat} {lv : List (Nat × Value)} {st : List Value} {mem : zm_Mem}
/-- fewer locals, in another order -/
theorem z_sub {lv' : List (Nat × Value)} (ks : List Nat) (h : lv_pick lv ks = lv') (k : zm_Z g post pc lv' st mem) : zm_Z g post pc lv st mem := by
  intro p l e s m args below meth c D c1 c2 ad A C H locs ls Dy hl
  refine k p l e s m args below meth c D c1 c2 ad A C H locs ls Dy (lv_sub hl ks ?_)
  rw [← h]
  simp [zm_lv, lv_pick, List.map_filterMap, Function.comp_def]
  
theorem z_iconst {n : Int} {v : Int32} (hd : decode g.2.1 pc = .ok (.iconst n, 1)) (hv : Int32.ofInt n = v) (k : zm_Z g post (pc + 1) lv (.int v :: st) mem) : zm_Z g post pc lv (st) mem := by
  intro p l e s m args below meth c D c1 c2 ad A C H locs ls Dy hl
  exact lv_iconst C.1 C.2.1 hd hv (k p l e s m args below meth c D c1 c2 ad A C H locs ls Dy hl)
theorem z_bipush {n : Int} {v : Int32} (hd : decode g.2.1 pc = .ok (.bipush n, 2)) (hv : (Int8.ofInt n).toInt32 = v) (k : zm_Z g post (pc + 2) lv (.int v :: st) mem) : zm_Z g post pc lv (st) mem := by
  intro p l e s m args below meth c D c1 c2 ad A C H locs ls Dy hl
  exact lv_bipush C.1 C.2.1 hd hv (k p l e s m args below meth c D c1 c2 ad A C H locs ls Dy hl)
theorem z_sipush {n : Int} {v : Int32} (hd : decode g.2.1 pc = .ok (.sipush n, 3)) (hv : (Int16.ofInt n).toInt32 = v) (k : zm_Z g post (pc + 3) lv (.int v :: st) mem) : zm_Z g post pc lv (st) mem := by
  intro p l e s m args below meth c D c1 c2 ad A C H locs ls Dy hl
  exact lv_sipush C.1 C.2.1 hd hv (k p l e s m args below meth c D c1 c2 ad A C H locs ls Dy hl)
theorem z_lconst {n : Fin 2} {v : Int64} (hd : decode g.2.1 pc = .ok (.lconst n, 1)) (hv : Int64.ofNat (n : Nat) = v) (k : zm_Z g post (pc + 1) lv (.long v :: st) mem) : zm_Z g post pc lv (st) mem := by
  intro p l e s m args below meth c D c1 c2 ad A C H locs ls Dy hl
  exact lv_lconst C.1 C.2.1 hd hv (k p l e s m args below meth c D c1 c2 ad A C H locs ls Dy hl)
theorem z_ldc2 {idx : Nat} {v : Int64} (hd : decode g.2.1 pc = .ok (.ldc2_w idx, 3)) (hc : Cond.constantLong g.1.cls idx v ∈ zm_tb) (k : zm_Z g post (pc + 3) lv (.long v :: st) mem) : zm_Z g post pc lv (st) mem := by
  intro p l e s m args below meth c D c1 c2 ad A C H locs ls Dy hl
  exact lv_ldc2 C.1 C.2.1 C.2.2.2.2.2.1 (C.2.2.2.2.2.2.1 _ hc) hd (k p l e s m args below meth c D c1 c2 ad A C H locs ls Dy hl)
theorem z_ldcw {idx : Nat} {v : Int32} (hd : decode g.2.1 pc = .ok (.ldc_w idx, 3)) (hc : Cond.constant g.1.cls idx v ∈ zm_tb) (k : zm_Z g post (pc + 3) lv (.int v :: st) mem) : zm_Z g post pc lv (st) mem := by
  intro p l e s m args below meth c D c1 c2 ad A C H locs ls Dy hl
  exact lv_ldcw C.1 C.2.1 C.2.2.2.2.2.1 (C.2.2.2.2.2.2.1 _ hc) hd (k p l e s m args below meth c D c1 c2 ad A C H locs ls Dy hl)
theorem z_iload_n {n : Fin 4} {i : Nat} {x : Int32} (hd : decode g.2.1 pc = .ok (.iload_n n, 1)) (hi : (n : Nat) = i) (j : Nat) (h : lv[j]? = some (i, .int x)) (k : zm_Z g post (pc + 1) lv (.int x :: st) mem) : zm_Z g post pc lv (st) mem := by
  intro p l e s m args below meth c D c1 c2 ad A C H locs ls Dy hl
  exact lv_iload_n C.1 C.2.1 hd hi (zm_lv_at hl h) (k p l e s m args below meth c D c1 c2 ad A C H locs ls Dy hl)
theorem z_iload {i : Nat} {x : Int32} (hd : decode g.2.1 pc = .ok (.iload i, 2)) (j : Nat) (h : lv[j]? = some (i, .int x)) (k : zm_Z g post (pc + 2) lv (.int x :: st) mem) : zm_Z g post pc lv (st) mem := by
  intro p l e s m args below meth c D c1 c2 ad A C H locs ls Dy hl
  exact lv_iload C.1 C.2.1 hd (zm_lv_at hl h) (k p l e s m args below meth c D c1 c2 ad A C H locs ls Dy hl)
theorem z_lload_n {n : Fin 4} {i : Nat} {x : Int64} (hd : decode g.2.1 pc = .ok (.lload_n n, 1)) (hi : (n : Nat) = i) (j : Nat) (h : lv[j]? = some (i, .long x)) (k : zm_Z g post (pc + 1) lv (.long x :: st) mem) : zm_Z g post pc lv (st) mem := by
  intro p l e s m args below meth c D c1 c2 ad A C H locs ls Dy hl
  exact lv_lload_n C.1 C.2.1 hd hi (zm_lv_at hl h) (k p l e s m args below meth c D c1 c2 ad A C H locs ls Dy hl)
theorem z_lload {i : Nat} {x : Int64} (hd : decode g.2.1 pc = .ok (.lload i, 2)) (j : Nat) (h : lv[j]? = some (i, .long x)) (k : zm_Z g post (pc + 2) lv (.long x :: st) mem) : zm_Z g post pc lv (st) mem := by
  intro p l e s m args below meth c D c1 c2 ad A C H locs ls Dy hl
  exact lv_lload C.1 C.2.1 hd (zm_lv_at hl h) (k p l e s m args below meth c D c1 c2 ad A C H locs ls Dy hl)
theorem z_aload_n {n : Fin 4} {i : Nat} {x : Nat} (hd : decode g.2.1 pc = .ok (.aload_n n, 1)) (hi : (n : Nat) = i) (j : Nat) (h : lv[j]? = some (i, .ref x)) (k : zm_Z g post (pc + 1) lv (.ref x :: st) mem) : zm_Z g post pc lv (st) mem := by
  intro p l e s m args below meth c D c1 c2 ad A C H locs ls Dy hl
  exact lv_aload_n C.1 C.2.1 hd hi (zm_lv_at hl h) (k p l e s m args below meth c D c1 c2 ad A C H locs ls Dy hl)
theorem z_istore_n {i : Nat} {n : Fin 4} {x : Int32} {lv' : List (Nat × Value)} (hd : decode g.2.1 pc = .ok (.istore_n n, 1)) (hi : (n : Nat) = i) (hn : i < g.2.2.1) (hp : zm_put1 i (.int x) lv = lv') (k : zm_Z g post (pc + 1) lv' st mem) : zm_Z g post pc lv (.int x :: st) mem := by
  intro p l e s m args below meth c D c1 c2 ad A C H locs ls Dy hl
  exact lv_istore_n C.1 C.2.1 hd hi hl hn ((zm_put1_map ad i (.int x) lv).trans (by rw [hp])) (fun ls hl => k p l e s m args below meth c D c1 c2 ad A C H locs ls Dy hl)
theorem z_istore {i : Nat} {x : Int32} {lv' : List (Nat × Value)} (hd : decode g.2.1 pc = .ok (.istore i, 2)) (hn : i < g.2.2.1) (hp : zm_put1 i (.int x) lv = lv') (k : zm_Z g post (pc + 2) lv' st mem) : zm_Z g post pc lv (.int x :: st) mem := by
  intro p l e s m args below meth c D c1 c2 ad A C H locs ls Dy hl
  exact lv_istore C.1 C.2.1 hd hl hn ((zm_put1_map ad i (.int x) lv).trans (by rw [hp])) (fun ls hl => k p l e s m args below meth c D c1 c2 ad A C H locs ls Dy hl)
theorem z_lstore_n {i : Nat} {n : Fin 4} {x : Int64} {lv' : List (Nat × Value)} (hd : decode g.2.1 pc = .ok (.lstore_n n, 1)) (hi : (n : Nat) = i) (hn : i + 1 < g.2.2.1) (hp : zm_put2 i (.long x) lv = lv') (k : zm_Z g post (pc + 1) lv' st mem) : zm_Z g post pc lv (.long x :: st) mem := by
  intro p l e s m args below meth c D c1 c2 ad A C H locs ls Dy hl
  exact lv_lstore_n C.1 C.2.1 hd hi hl hn ((zm_put2_map ad i (.long x) lv).trans (by rw [hp])) (fun ls hl => k p l e s m args below meth c D c1 c2 ad A C H locs ls Dy hl)
theorem z_lstore {i : Nat} {x : Int64} {lv' : List (Nat × Value)} (hd : decode g.2.1 pc = .ok (.lstore i, 2)) (hn : i + 1 < g.2.2.1) (hp : zm_put2 i (.long x) lv = lv') (k : zm_Z g post (pc + 2) lv' st mem) : zm_Z g post pc lv (.long x :: st) mem := by
  intro p l e s m args below meth c D c1 c2 ad A C H locs ls Dy hl
  exact lv_lstore C.1 C.2.1 hd hl hn ((zm_put2_map ad i (.long x) lv).trans (by rw [hp])) (fun ls hl => k p l e s m args below meth c D c1 c2 ad A C H locs ls Dy hl)
theorem z_iinc {i : Nat} {n : Int} {x v : Int32} {lv' : List (Nat × Value)} (hd : decode g.2.1 pc = .ok (.iinc i n, 3)) (j : Nat) (h : lv[j]? = some (i, .int x)) (hv : x + Int32.ofInt n = v) (hn : i < g.2.2.1) (hp : zm_put1 i (.int v) lv = lv') (k : zm_Z g post (pc + 3) lv' st mem) : zm_Z g post pc lv st mem := by
  intro p l e s m args below meth c D c1 c2 ad A C H locs ls Dy hl
  exact lv_iinc C.1 C.2.1 hd hl (k := j) (by simp [zm_lv, List.getElem?_map, h]; rfl) hv hn ((zm_put1_map ad i (.int v) lv).trans (by rw [hp])) (fun ls hl => k p l e s m args below meth c D c1 c2 ad A C H locs ls Dy hl)
theorem z_iadd {x y : Int32} (hd : decode g.2.1 pc = .ok (.iadd, 1)) (k : zm_Z g post (pc + 1) lv (.int (x + y) :: st) mem) : zm_Z g post pc lv (.int y :: .int x :: st) mem := by
  intro p l e s m args below meth c D c1 c2 ad A C H locs ls Dy hl
  exact lv_iadd C.1 C.2.1 hd (k p l e s m args below meth c D c1 c2 ad A C H locs ls Dy hl)
theorem z_isub {x y : Int32} (hd : decode g.2.1 pc = .ok (.isub, 1)) (k : zm_Z g post (pc + 1) lv (.int (x - y) :: st) mem) : zm_Z g post pc lv (.int y :: .int x :: st) mem := by
  intro p l e s m args below meth c D c1 c2 ad A C H locs ls Dy hl
  exact lv_isub C.1 C.2.1 hd (k p l e s m args below meth c D c1 c2 ad A C H locs ls Dy hl)
theorem z_imul {x y : Int32} (hd : decode g.2.1 pc = .ok (.imul, 1)) (k : zm_Z g post (pc + 1) lv (.int (x * y) :: st) mem) : zm_Z g post pc lv (.int y :: .int x :: st) mem := by
  intro p l e s m args below meth c D c1 c2 ad A C H locs ls Dy hl
  exact lv_imul C.1 C.2.1 hd (k p l e s m args below meth c D c1 c2 ad A C H locs ls Dy hl)
theorem z_iand {x y : Int32} (hd : decode g.2.1 pc = .ok (.iand, 1)) (k : zm_Z g post (pc + 1) lv (.int (x &&& y) :: st) mem) : zm_Z g post pc lv (.int y :: .int x :: st) mem := by
  intro p l e s m args below meth c D c1 c2 ad A C H locs ls Dy hl
  exact lv_iand C.1 C.2.1 hd (k p l e s m args below meth c D c1 c2 ad A C H locs ls Dy hl)
theorem z_ior {x y : Int32} (hd : decode g.2.1 pc = .ok (.ior, 1)) (k : zm_Z g post (pc + 1) lv (.int (x ||| y) :: st) mem) : zm_Z g post pc lv (.int y :: .int x :: st) mem := by
  intro p l e s m args below meth c D c1 c2 ad A C H locs ls Dy hl
  exact lv_ior C.1 C.2.1 hd (k p l e s m args below meth c D c1 c2 ad A C H locs ls Dy hl)
theorem z_ixor {x y : Int32} (hd : decode g.2.1 pc = .ok (.ixor, 1)) (k : zm_Z g post (pc + 1) lv (.int (x ^^^ y) :: st) mem) : zm_Z g post pc lv (.int y :: .int x :: st) mem := by
  intro p l e s m args below meth c D c1 c2 ad A C H locs ls Dy hl
  exact lv_ixor C.1 C.2.1 hd (k p l e s m args below meth c D c1 c2 ad A C H locs ls Dy hl)
theorem z_ishl {x y : Int32} (hd : decode g.2.1 pc = .ok (.ishl, 1)) (k : zm_Z g post (pc + 1) lv (.int (x <<< (y &&& 31)) :: st) mem) : zm_Z g post pc lv (.int y :: .int x :: st) mem := by
  intro p l e s m args below meth c D c1 c2 ad A C H locs ls Dy hl
  exact lv_ishl C.1 C.2.1 hd (k p l e s m args below meth c D c1 c2 ad A C H locs ls Dy hl)
theorem z_ishr {x y : Int32} (hd : decode g.2.1 pc = .ok (.ishr, 1)) (k : zm_Z g post (pc + 1) lv (.int (x >>> (y &&& 31)) :: st) mem) : zm_Z g post pc lv (.int y :: .int x :: st) mem := by
  intro p l e s m args below meth c D c1 c2 ad A C H locs ls Dy hl
  exact lv_ishr C.1 C.2.1 hd (k p l e s m args below meth c D c1 c2 ad A C H locs ls Dy hl)
theorem z_idiv {x y : Int32} (hd : decode g.2.1 pc = .ok (.idiv, 1)) (hne : ¬ y = 0) (k : zm_Z g post (pc + 1) lv (.int (x / y) :: st) mem) : zm_Z g post pc lv (.int y :: .int x :: st) mem := by
  intro p l e s m args below meth c D c1 c2 ad A C H locs ls Dy hl
  exact lv_idiv C.1 C.2.1 hd hne (k p l e s m args below meth c D c1 c2 ad A C H locs ls Dy hl)
theorem z_irem {x y : Int32} (hd : decode g.2.1 pc = .ok (.irem, 1)) (hne : ¬ y = 0) (k : zm_Z g post (pc + 1) lv (.int (x - x / y * y) :: st) mem) : zm_Z g post pc lv (.int y :: .int x :: st) mem := by
  intro p l e s m args below meth c D c1 c2 ad A C H locs ls Dy hl
  exact lv_irem C.1 C.2.1 hd hne (k p l e s m args below meth c D c1 c2 ad A C H locs ls Dy hl)
theorem z_iushr {x y v : Int32} (hd : decode g.2.1 pc = .ok (.iushr, 1)) (hv : (x.toUInt32 >>> (y.toUInt32 &&& Int32.toUInt32 31)).toInt32 = v) (k : zm_Z g post (pc + 1) lv (.int v :: st) mem) : zm_Z g post pc lv (.int y :: .int x :: st) mem := by
  intro p l e s m args below meth c D c1 c2 ad A C H locs ls Dy hl
  exact lv_iushr C.1 C.2.1 hd hv (k p l e s m args below meth c D c1 c2 ad A C H locs ls Dy hl)
theorem z_ineg {x : Int32} (hd : decode g.2.1 pc = .ok (.ineg, 1)) (k : zm_Z g post (pc + 1) lv (.int (-x) :: st) mem) : zm_Z g post pc lv (.int x :: st) mem := by
  intro p l e s m args below meth c D c1 c2 ad A C H locs ls Dy hl
  exact lv_ineg C.1 C.2.1 hd (k p l e s m args below meth c D c1 c2 ad A C H locs ls Dy hl)
theorem z_ladd {x y : Int64} (hd : decode g.2.1 pc = .ok (.ladd, 1)) (k : zm_Z g post (pc + 1) lv (.long (x + y) :: st) mem) : zm_Z g post pc lv (.long y :: .long x :: st) mem := by
  intro p l e s m args below meth c D c1 c2 ad A C H locs ls Dy hl
  exact lv_ladd C.1 C.2.1 hd (k p l e s m args below meth c D c1 c2 ad A C H locs ls Dy hl)
theorem z_lmul {x y : Int64} (hd : decode g.2.1 pc = .ok (.lmul, 1)) (k : zm_Z g post (pc + 1) lv (.long (x * y) :: st) mem) : zm_Z g post pc lv (.long y :: .long x :: st) mem := by
  intro p l e s m args below meth c D c1 c2 ad A C H locs ls Dy hl
  exact lv_lmul C.1 C.2.1 hd (k p l e s m args below meth c D c1 c2 ad A C H locs ls Dy hl)
theorem z_ldiv {x y : Int64} (hd : decode g.2.1 pc = .ok (.ldiv, 1)) (hne : ¬ y = 0) (k : zm_Z g post (pc + 1) lv (.long (x / y) :: st) mem) : zm_Z g post pc lv (.long y :: .long x :: st) mem := by
  intro p l e s m args below meth c D c1 c2 ad A C H locs ls Dy hl
  exact lv_ldiv C.1 C.2.1 hd hne (k p l e s m args below meth c D c1 c2 ad A C H locs ls Dy hl)
theorem z_i2l {x : Int32} (hd : decode g.2.1 pc = .ok (.i2l, 1)) (k : zm_Z g post (pc + 1) lv (.long x.toInt64 :: st) mem) : zm_Z g post pc lv (.int x :: st) mem := by
  intro p l e s m args below meth c D c1 c2 ad A C H locs ls Dy hl
  exact lv_i2l C.1 C.2.1 hd rfl (k p l e s m args below meth c D c1 c2 ad A C H locs ls Dy hl)
theorem z_lcmp {x y : Int64} (hd : decode g.2.1 pc = .ok (.lcmp, 1)) (k : zm_Z g post (pc + 1) lv (.int (lg_cmp x y) :: st) mem) : zm_Z g post pc lv (.long y :: .long x :: st) mem := by
  intro p l e s m args below meth c D c1 c2 ad A C H locs ls Dy hl
  exact W.lcmp C.1 C.2.1 hd (k p l e s m args below meth c D c1 c2 ad A C H locs ls Dy hl)
theorem z_dupi {x : Int32} (hd : decode g.2.1 pc = .ok (.dup, 1)) (k : zm_Z g post (pc + 1) lv (.int x :: .int x :: st) mem) : zm_Z g post pc lv (.int x :: st) mem := by
  intro p l e s m args below meth c D c1 c2 ad A C H locs ls Dy hl
  exact lv_dup C.1 C.2.1 hd rfl (k p l e s m args below meth c D c1 c2 ad A C H locs ls Dy hl)
theorem z_dupr {x : Nat} (hd : decode g.2.1 pc = .ok (.dup, 1)) (k : zm_Z g post (pc + 1) lv (.ref x :: .ref x :: st) mem) : zm_Z g post pc lv (.ref x :: st) mem := by
  intro p l e s m args below meth c D c1 c2 ad A C H locs ls Dy hl
  exact lv_dup C.1 C.2.1 hd rfl (k p l e s m args below meth c D c1 c2 ad A C H locs ls Dy hl)
theorem z_dup2 {x : Nat} {y : Int32} (hd : decode g.2.1 pc = .ok (.dup2, 1)) (k : zm_Z g post (pc + 1) lv (.int y :: .ref x :: .int y :: .ref x :: st) mem) : zm_Z g post pc lv (.int y :: .ref x :: st) mem := by
  intro p l e s m args below meth c D c1 c2 ad A C H locs ls Dy hl
  exact lv_dup2_11 C.1 C.2.1 hd rfl rfl (k p l e s m args below meth c D c1 c2 ad A C H locs ls Dy hl)
theorem z_popi {x : Int32} (hd : decode g.2.1 pc = .ok (.pop, 1)) (k : zm_Z g post (pc + 1) lv (st) mem) : zm_Z g post pc lv (.int x :: st) mem := by
  intro p l e s m args below meth c D c1 c2 ad A C H locs ls Dy hl
  exact lv_pop C.1 C.2.1 hd rfl (k p l e s m args below meth c D c1 c2 ad A C H locs ls Dy hl)
theorem z_if_eq {x : Int32} {off : Int} {tgt : Nat} (hd : decode g.2.1 pc = .ok (.ifCond .eq off, 3)) (ht : (pc : Int) + off = (tgt : Int)) (kt : x = 0 → zm_Z g post tgt lv st mem) (kf : ¬ x = 0 → zm_Z g post (pc + 3) lv st mem) : zm_Z g post pc lv (.int x :: st) mem := by
  intro p l e s m args below meth c D c1 c2 ad A C H locs ls Dy hl
  exact lv_if_eq C.1 C.2.1 hd ht (fun q => kt q p l e s m args below meth c D c1 c2 ad A C H locs ls Dy hl) (fun q => kf q p l e s m args below meth c D c1 c2 ad A C H locs ls Dy hl)
theorem z_icmp_eq {x y : Int32} {off : Int} {tgt : Nat} (hd : decode g.2.1 pc = .ok (.if_icmp .eq off, 3)) (ht : (pc : Int) + off = (tgt : Int)) (kt : x = y → zm_Z g post tgt lv st mem) (kf : ¬ x = y → zm_Z g post (pc + 3) lv st mem) : zm_Z g post pc lv (.int y :: .int x :: st) mem := by
  intro p l e s m args below meth c D c1 c2 ad A C H locs ls Dy hl
  exact lv_icmp_eq C.1 C.2.1 hd ht (fun q => kt q p l e s m args below meth c D c1 c2 ad A C H locs ls Dy hl) (fun q => kf q p l e s m args below meth c D c1 c2 ad A C H locs ls Dy hl)
theorem z_if_ne {x : Int32} {off : Int} {tgt : Nat} (hd : decode g.2.1 pc = .ok (.ifCond .ne off, 3)) (ht : (pc : Int) + off = (tgt : Int)) (kt : ¬ x = 0 → zm_Z g post tgt lv st mem) (kf : x = 0 → zm_Z g post (pc + 3) lv st mem) : zm_Z g post pc lv (.int x :: st) mem := by
  intro p l e s m args below meth c D c1 c2 ad A C H locs ls Dy hl
  exact lv_if_ne C.1 C.2.1 hd ht (fun q => kt q p l e s m args below meth c D c1 c2 ad A C H locs ls Dy hl) (fun q => kf q p l e s m args below meth c D c1 c2 ad A C H locs ls Dy hl)
theorem z_icmp_ne {x y : Int32} {off : Int} {tgt : Nat} (hd : decode g.2.1 pc = .ok (.if_icmp .ne off, 3)) (ht : (pc : Int) + off = (tgt : Int)) (kt : ¬ x = y → zm_Z g post tgt lv st mem) (kf : x = y → zm_Z g post (pc + 3) lv st mem) : zm_Z g post pc lv (.int y :: .int x :: st) mem := by
  intro p l e s m args below meth c D c1 c2 ad A C H locs ls Dy hl
  exact lv_icmp_ne C.1 C.2.1 hd ht (fun q => kt q p l e s m args below meth c D c1 c2 ad A C H locs ls Dy hl) (fun q => kf q p l e s m args below meth c D c1 c2 ad A C H locs ls Dy hl)
theorem z_if_lt {x : Int32} {off : Int} {tgt : Nat} (hd : decode g.2.1 pc = .ok (.ifCond .lt off, 3)) (ht : (pc : Int) + off = (tgt : Int)) (kt : x < 0 → zm_Z g post tgt lv st mem) (kf : ¬ x < 0 → zm_Z g post (pc + 3) lv st mem) : zm_Z g post pc lv (.int x :: st) mem := by
  intro p l e s m args below meth c D c1 c2 ad A C H locs ls Dy hl
  exact lv_if_lt C.1 C.2.1 hd ht (fun q => kt q p l e s m args below meth c D c1 c2 ad A C H locs ls Dy hl) (fun q => kf q p l e s m args below meth c D c1 c2 ad A C H locs ls Dy hl)
theorem z_icmp_lt {x y : Int32} {off : Int} {tgt : Nat} (hd : decode g.2.1 pc = .ok (.if_icmp .lt off, 3)) (ht : (pc : Int) + off = (tgt : Int)) (kt : x < y → zm_Z g post tgt lv st mem) (kf : ¬ x < y → zm_Z g post (pc + 3) lv st mem) : zm_Z g post pc lv (.int y :: .int x :: st) mem := by
  intro p l e s m args below meth c D c1 c2 ad A C H locs ls Dy hl
  exact lv_icmp_lt C.1 C.2.1 hd ht (fun q => kt q p l e s m args below meth c D c1 c2 ad A C H locs ls Dy hl) (fun q => kf q p l e s m args below meth c D c1 c2 ad A C H locs ls Dy hl)
theorem z_if_ge {x : Int32} {off : Int} {tgt : Nat} (hd : decode g.2.1 pc = .ok (.ifCond .ge off, 3)) (ht : (pc : Int) + off = (tgt : Int)) (kt : 0 ≤ x → zm_Z g post tgt lv st mem) (kf : ¬ 0 ≤ x → zm_Z g post (pc + 3) lv st mem) : zm_Z g post pc lv (.int x :: st) mem := by
  intro p l e s m args below meth c D c1 c2 ad A C H locs ls Dy hl
  exact lv_if_ge C.1 C.2.1 hd ht (fun q => kt q p l e s m args below meth c D c1 c2 ad A C H locs ls Dy hl) (fun q => kf q p l e s m args below meth c D c1 c2 ad A C H locs ls Dy hl)
theorem z_icmp_ge {x y : Int32} {off : Int} {tgt : Nat} (hd : decode g.2.1 pc = .ok (.if_icmp .ge off, 3)) (ht : (pc : Int) + off = (tgt : Int)) (kt : y ≤ x → zm_Z g post tgt lv st mem) (kf : ¬ y ≤ x → zm_Z g post (pc + 3) lv st mem) : zm_Z g post pc lv (.int y :: .int x :: st) mem := by
  intro p l e s m args below meth c D c1 c2 ad A C H locs ls Dy hl
  exact lv_icmp_ge C.1 C.2.1 hd ht (fun q => kt q p l e s m args below meth c D c1 c2 ad A C H locs ls Dy hl) (fun q => kf q p l e s m args below meth c D c1 c2 ad A C H locs ls Dy hl)
theorem z_if_gt {x : Int32} {off : Int} {tgt : Nat} (hd : decode g.2.1 pc = .ok (.ifCond .gt off, 3)) (ht : (pc : Int) + off = (tgt : Int)) (kt : 0 < x → zm_Z g post tgt lv st mem) (kf : ¬ 0 < x → zm_Z g post (pc + 3) lv st mem) : zm_Z g post pc lv (.int x :: st) mem := by
  intro p l e s m args below meth c D c1 c2 ad A C H locs ls Dy hl
  exact lv_if_gt C.1 C.2.1 hd ht (fun q => kt q p l e s m args below meth c D c1 c2 ad A C H locs ls Dy hl) (fun q => kf q p l e s m args below meth c D c1 c2 ad A C H locs ls Dy hl)
theorem z_icmp_gt {x y : Int32} {off : Int} {tgt : Nat} (hd : decode g.2.1 pc = .ok (.if_icmp .gt off, 3)) (ht : (pc : Int) + off = (tgt : Int)) (kt : y < x → zm_Z g post tgt lv st mem) (kf : ¬ y < x → zm_Z g post (pc + 3) lv st mem) : zm_Z g post pc lv (.int y :: .int x :: st) mem := by
  intro p l e s m args below meth c D c1 c2 ad A C H locs ls Dy hl
  exact lv_icmp_gt C.1 C.2.1 hd ht (fun q => kt q p l e s m args below meth c D c1 c2 ad A C H locs ls Dy hl) (fun q => kf q p l e s m args below meth c D c1 c2 ad A C H locs ls Dy hl)
theorem z_if_le {x : Int32} {off : Int} {tgt : Nat} (hd : decode g.2.1 pc = .ok (.ifCond .le off, 3)) (ht : (pc : Int) + off = (tgt : Int)) (kt : x ≤ 0 → zm_Z g post tgt lv st mem) (kf : ¬ x ≤ 0 → zm_Z g post (pc + 3) lv st mem) : zm_Z g post pc lv (.int x :: st) mem := by
  intro p l e s m args below meth c D c1 c2 ad A C H locs ls Dy hl
  exact lv_if_le C.1 C.2.1 hd ht (fun q => kt q p l e s m args below meth c D c1 c2 ad A C H locs ls Dy hl) (fun q => kf q p l e s m args below meth c D c1 c2 ad A C H locs ls Dy hl)
theorem z_icmp_le {x y : Int32} {off : Int} {tgt : Nat} (hd : decode g.2.1 pc = .ok (.if_icmp .le off, 3)) (ht : (pc : Int) + off = (tgt : Int)) (kt : x ≤ y → zm_Z g post tgt lv st mem) (kf : ¬ x ≤ y → zm_Z g post (pc + 3) lv st mem) : zm_Z g post pc lv (.int y :: .int x :: st) mem := by
  intro p l e s m args below meth c D c1 c2 ad A C H locs ls Dy hl
  exact lv_icmp_le C.1 C.2.1 hd ht (fun q => kt q p l e s m args below meth c D c1 c2 ad A C H locs ls Dy hl) (fun q => kf q p l e s m args below meth c D c1 c2 ad A C H locs ls Dy hl)
theorem z_goto {off : Int} {tgt : Nat} (hd : decode g.2.1 pc = .ok (.goto off, 3)) (ht : (pc : Int) + off = (tgt : Int)) (k : zm_Z g post tgt lv st mem) : zm_Z g post pc lv st mem := by
  intro p l e s m args below meth c D c1 c2 ad A C H locs ls Dy hl
  exact lv_goto C.1 C.2.1 hd ht (k p l e s m args below meth c D c1 c2 ad A C H locs ls Dy hl)
theorem z_tableOut {dflt lo hi : Int} {offs : Array Int} {len : Nat} {x : Int32} {tgt : Nat} (hd : decode g.2.1 pc = .ok (.tableswitch dflt lo hi offs, len)) (h : x.toInt < lo ∨ hi < x.toInt) (ht : (pc : Int) + dflt = (tgt : Int)) (k : zm_Z g post tgt lv st mem) : zm_Z g post pc lv (.int x :: st) mem := by
  intro p l e s m args below meth c D c1 c2 ad A C H locs ls Dy hl
  exact lv_tableOut C.1 C.2.1 hd h ht (k p l e s m args below meth c D c1 c2 ad A C H locs ls Dy hl)
theorem z_tableIn {dflt lo hi : Int} {offs : Array Int} {len : Nat} {x : Int32} {off : Int} {tgt : Nat} (hd : decode g.2.1 pc = .ok (.tableswitch dflt lo hi offs, len)) (h1 : ¬ x.toInt < lo) (h2 : ¬ hi < x.toInt) (ho : offs[(x.toInt - lo).toNat]? = some off) (ht : (pc : Int) + off = (tgt : Int)) (k : zm_Z g post tgt lv st mem) : zm_Z g post pc lv (.int x :: st) mem := by
  intro p l e s m args below meth c D c1 c2 ad A C H locs ls Dy hl
  exact lv_tableIn C.1 C.2.1 hd h1 h2 ho ht (k p l e s m args below meth c D c1 c2 ad A C H locs ls Dy hl)
theorem z_lookup {dflt : Int} {ps : Array (Int × Int)} {len : Nat} {x : Int32} {off : Int} {tgt : Nat} (hd : decode g.2.1 pc = .ok (.lookupswitch dflt ps, len)) (hp : (ps.toList.zip (ps.toList.drop 1)).all (fun (a, next) => a.1 < next.1) = true) (ho : Op.lookupswitch.offset ps.toList dflt x.toInt = off) (ht : (pc : Int) + off = (tgt : Int)) (k : zm_Z g post tgt lv st mem) : zm_Z g post pc lv (.int x :: st) mem := by
  intro p l e s m args below meth c D c1 c2 ad A C H locs ls Dy hl
  exact lv_lookup C.1 C.2.1 hd hp ho ht (k p l e s m args below meth c D c1 c2 ad A C H locs ls Dy hl)
theorem z_getr {ci j idx q r : Nat} {fl : List (Option Nat)} {Cn : String} {T : u_T} {N : Nat} (hs : zm_sh[q]? = some (.inl (ci, fl))) (hc : zm_classes[ci]? = some (Cn, T, N)) (hin : ∀ w ∈ u_ws Cn T N, w ∈ zm_tb) (hj : fl[j]? = some (some r)) (hN : j < N) (hk : Cond.fieldLink g.1.cls idx (T j).1 (T j).2.1 (T j).2.2.1 ∈ zm_tb) (hd : decode g.2.1 pc = .ok (.getfield idx, 3)) (k : zm_Z g post (pc + 3) lv (.ref r :: st) mem) : zm_Z g post pc lv (.ref q :: st) mem := by
  intro p l e s m args below meth c D c1 c2 ad A C H locs ls Dy hl
  exact va_get (D := D) C.1 C.2.1 C.2.2.2.2.2.2.1 hin C.2.2.2.2.2.1 C.2.2.2.2.2.2.2.1 Dy.1 q (zm_at hs) hc j hN (C.2.2.2.2.2.2.1 _ hk) (fun _ h9 => h9) (v := .ref (ad r)) (by simp [List.getElem?_mapIdx, hj, zm_fv]) hd (k p l e s m args below meth c D c1 c2 ad A C H locs ls Dy hl)
theorem z_geti {ci j idx q : Nat} {fl : List (Option Nat)} {Cn : String} {T : u_T} {N : Nat} (hs : zm_sh[q]? = some (.inl (ci, fl))) (hc : zm_classes[ci]? = some (Cn, T, N)) (hin : ∀ w ∈ u_ws Cn T N, w ∈ zm_tb) (hj : fl[j]? = some none) (hN : j < N) (hk : Cond.fieldLink g.1.cls idx (T j).1 (T j).2.1 (T j).2.2.1 ∈ zm_tb) (hd : decode g.2.1 pc = .ok (.getfield idx, 3)) (k : zm_Z g post (pc + 3) lv (.int (mem q j) :: st) mem) : zm_Z g post pc lv (.ref q :: st) mem := by
  intro p l e s m args below meth c D c1 c2 ad A C H locs ls Dy hl
  exact va_get (D := D) C.1 C.2.1 C.2.2.2.2.2.2.1 hin C.2.2.2.2.2.1 C.2.2.2.2.2.2.2.1 Dy.1 q (zm_at hs) hc j hN (C.2.2.2.2.2.2.1 _ hk) (fun _ h9 => h9) (v := .int (mem q j)) (by simp [List.getElem?_mapIdx, hj, zm_fv]) hd (k p l e s m args below meth c D c1 c2 ad A C H locs ls Dy hl)
theorem z_getrN {ci j idx q r : Nat} {fl : List (Option Nat)} {Cn host : String} {T : u_T} {N : Nat} (hs : zm_sh[q]? = some (.inl (ci, fl))) (hc : zm_classes[ci]? = some (Cn, T, N)) (hin : ∀ w ∈ u_ws Cn T N, w ∈ zm_tb) (hj : fl[j]? = some (some r)) (hN : j < N) (hk : (g.1.cls, idx, (T j).1, (T j).2.1, (T j).2.2.1, host) ∈ zm_NW) (hd : decode g.2.1 pc = .ok (.getfield idx, 3)) (k : zm_Z g post (pc + 3) lv (.ref r :: st) mem) : zm_Z g post pc lv (.ref q :: st) mem := by
  intro p l e s m args below meth c D c1 c2 ad A C H locs ls Dy hl
  exact va_getN (D := D) C.1 C.2.1 C.2.2.2.2.2.2.1 hin C.2.2.2.2.2.1 C.2.2.2.2.2.2.2.1 Dy.1 q (zm_at hs) hc j hN (va_Nw.use rfl (C.2.2.2.2.2.2.2.2.2.1 _ hk)) (fun _ h9 => h9) (v := .ref (ad r)) (by simp [List.getElem?_mapIdx, hj, zm_fv]) hd (k p l e s m args below meth c D c1 c2 ad A C H locs ls Dy hl)
theorem z_getiN {ci j idx q : Nat} {fl : List (Option Nat)} {Cn host : String} {T : u_T} {N : Nat} (hs : zm_sh[q]? = some (.inl (ci, fl))) (hc : zm_classes[ci]? = some (Cn, T, N)) (hin : ∀ w ∈ u_ws Cn T N, w ∈ zm_tb) (hj : fl[j]? = some none) (hN : j < N) (hk : (g.1.cls, idx, (T j).1, (T j).2.1, (T j).2.2.1, host) ∈ zm_NW) (hd : decode g.2.1 pc = .ok (.getfield idx, 3)) (k : zm_Z g post (pc + 3) lv (.int (mem q j) :: st) mem) : zm_Z g post pc lv (.ref q :: st) mem := by
  intro p l e s m args below meth c D c1 c2 ad A C H locs ls Dy hl
  exact va_getN (D := D) C.1 C.2.1 C.2.2.2.2.2.2.1 hin C.2.2.2.2.2.1 C.2.2.2.2.2.2.2.1 Dy.1 q (zm_at hs) hc j hN (va_Nw.use rfl (C.2.2.2.2.2.2.2.2.2.1 _ hk)) (fun _ h9 => h9) (v := .int (mem q j)) (by simp [List.getElem?_mapIdx, hj, zm_fv]) hd (k p l e s m args below meth c D c1 c2 ad A C H locs ls Dy hl)
theorem zm_fields_set {ad : Nat → Nat} {mem : zm_Mem} {q j : Nat} {x : Int32} {fl : List (Option Nat)} (hj : fl[j]? = some none) : (fl.mapIdx (zm_fv ad (mem q))).set j (.int x) = fl.mapIdx (zm_fv ad (zm_st mem q j x q)) := by
  apply List.ext_getElem?
  intro i
  have hl : j < fl.length := (List.getElem?_eq_some_iff.mp hj).1
  by_cases hi : i = j
  · subst hi
    rw [List.getElem?_set_self (by simpa using hl)]
    simp [List.getElem?_mapIdx, hj, zm_fv, zm_st]
  · rw [List.getElem?_set_ne (Ne.symm hi)]
    simp only [List.getElem?_mapIdx]
    congr 1
    funext a
    cases a <;> simp [zm_fv, zm_st, hi]
theorem z_put {ci j idx q : Nat} {x : Int32} {fl : List (Option Nat)} {Cn : String} {T : u_T} {N : Nat} {ty0 : Nat → FieldType} (hs : zm_sh[q]? = some (.inl (ci, fl))) (hc : zm_classes[ci]? = some (Cn, T, N)) (hin : ∀ w ∈ u_ws Cn T N, w ∈ zm_tb) (hty : ∀ k, k < N → parseFieldDescriptor (T k).2.2.1 = some (ty0 k)) (hnm : ∀ a, a < N → ∀ b, b < N → a ≠ b → (T a).2.1 ≠ (T b).2.1) (hj : fl[j]? = some none) (hN : j < N) (hk : Cond.fieldLink g.1.cls idx (T j).1 (T j).2.1 (T j).2.2.1 ∈ zm_tb) (hf : (T j).2.2.2 = false) (hn : narrow (ty0 j) (.int x) = .int x) (hfit : fits (ty0 j) (.int x) = true) (hd : decode g.2.1 pc = .ok (.putfield idx, 3)) (k : zm_Z g post (pc + 3) lv st (zm_st mem q j x)) : zm_Z g post pc lv (.int x :: .ref q :: st) mem := by
  intro p l e s m args below meth c D c1 c2 ad A C H locs ls Dy hl
  have hl2 : j < fl.length := (List.getElem?_eq_some_iff.mp hj).1
  refine va_put (D := D) C.1 C.2.1 C.2.2.2.2.2.2.1 hin ty0 hty hnm C.2.2.2.2.2.1 C.2.2.2.2.2.2.2.1 Dy.1 Dy.2.1 Dy.2.2 q (zm_at hs) hc j hN (C.2.2.2.2.2.2.1 _ hk) (fun _ h9 => h9) hf (v := .int x) (hty j hN) hn hfit (by simpa using hl2) hd (fun H1 locs1 hP hD hS => ?_)
  have e0 : (Sum.inr (ci, (fl.mapIdx (zm_fv ad (mem q))).set j (.int x)) : va_E) = zm_cell c1 c2 ad (zm_st mem q j x q) (.inl (ci, fl)) := by
    rw [zm_fields_set hj]
    rfl
  have e1 := zm_set (c1 := c1) (c2 := c2) (ad := ad) (mem := mem) (mem' := zm_st mem q j x) hs (fun q' hq' => by funext j'; simp [zm_st, hq'])
  rw [e0, e1] at hP hD
  exact k p l e s m args below meth c D c1 c2 ad A C H1 locs1 ls ⟨hP, hD, hS⟩ hl
theorem z_putN {ci j idx q : Nat} {x : Int32} {fl : List (Option Nat)} {Cn host : String} {T : u_T} {N : Nat} {ty0 : Nat → FieldType} (hs : zm_sh[q]? = some (.inl (ci, fl))) (hc : zm_classes[ci]? = some (Cn, T, N)) (hin : ∀ w ∈ u_ws Cn T N, w ∈ zm_tb) (hty : ∀ k, k < N → parseFieldDescriptor (T k).2.2.1 = some (ty0 k)) (hnm : ∀ a, a < N → ∀ b, b < N → a ≠ b → (T a).2.1 ≠ (T b).2.1) (hj : fl[j]? = some none) (hN : j < N) (hk : (g.1.cls, idx, (T j).1, (T j).2.1, (T j).2.2.1, host) ∈ zm_NW) (hf : (T j).2.2.2 = false) (hn : narrow (ty0 j) (.int x) = .int x) (hfit : fits (ty0 j) (.int x) = true) (hd : decode g.2.1 pc = .ok (.putfield idx, 3)) (k : zm_Z g post (pc + 3) lv st (zm_st mem q j x)) : zm_Z g post pc lv (.int x :: .ref q :: st) mem := by
  intro p l e s m args below meth c D c1 c2 ad A C H locs ls Dy hl
  have hl2 : j < fl.length := (List.getElem?_eq_some_iff.mp hj).1
  refine va_putN (D := D) C.1 C.2.1 C.2.2.2.2.2.2.1 hin ty0 hty hnm C.2.2.2.2.2.1 C.2.2.2.2.2.2.2.1 Dy.1 Dy.2.1 Dy.2.2 q (zm_at hs) hc j hN (va_Nw.use rfl (C.2.2.2.2.2.2.2.2.2.1 _ hk)) (fun _ h9 => h9) hf (v := .int x) (hty j hN) hn hfit (by simpa using hl2) hd (fun H1 locs1 hP hD hS => ?_)
  have e0 : (Sum.inr (ci, (fl.mapIdx (zm_fv ad (mem q))).set j (.int x)) : va_E) = zm_cell c1 c2 ad (zm_st mem q j x q) (.inl (ci, fl)) := by
    rw [zm_fields_set hj]
    rfl
  have e1 := zm_set (c1 := c1) (c2 := c2) (ad := ad) (mem := mem) (mem' := zm_st mem q j x) hs (fun q' hq' => by funext j'; simp [zm_st, hq'])
  rw [e0, e1] at hP hD
  exact k p l e s m args below meth c D c1 c2 ad A C H1 locs1 ls ⟨hP, hD, hS⟩ hl
theorem z_iald {q n : Nat} {i : Int32} (hs : zm_sh[q]? = some (.inr (false, n))) (hin : vp_in i n) (hd : decode g.2.1 pc = .ok (.iaload, 1)) (k : zm_Z g post (pc + 1) lv (.int (mem q i.toNatClampNeg) :: st) mem) : zm_Z g post pc lv (.int i :: .ref q :: st) mem := by
  intro p l e s m args below meth c D c1 c2 ad A C H locs ls Dy hl
  exact va_iald (D := D) C.1 C.2.1 C.2.2.2.2.2.2.2.1 Dy.1 q 0 (cA := c1) (f := mem q) (zm_at hs) rfl hin hd (k p l e s m args below meth c D c1 c2 ad A C H locs ls Dy hl)
theorem z_bald {q n : Nat} {i : Int32} (hs : zm_sh[q]? = some (.inr (true, n))) (hin : vp_in i n) (hd : decode g.2.1 pc = .ok (.baload, 1)) (k : zm_Z g post (pc + 1) lv (.int (mem q i.toNatClampNeg) :: st) mem) : zm_Z g post pc lv (.int i :: .ref q :: st) mem := by
  intro p l e s m args below meth c D c1 c2 ad A C H locs ls Dy hl
  exact va_zald (D := D) C.1 C.2.1 C.2.2.2.2.2.2.2.1 Dy.1 q 1 (cA := c2) (f := mem q) (zm_at hs) rfl hin hd (k p l e s m args below meth c D c1 c2 ad A C H locs ls Dy hl)
theorem z_iast {q n : Nat} {i x : Int32} (hs : zm_sh[q]? = some (.inr (false, n))) (hin : vp_in i n) (hd : decode g.2.1 pc = .ok (.iastore, 1)) (k : zm_Z g post (pc + 1) lv st (zm_st mem q i.toNatClampNeg x)) : zm_Z g post pc lv (.int x :: .int i :: .ref q :: st) mem := by
  intro p l e s m args below meth c D c1 c2 ad A C H locs ls Dy hl
  refine va_iast (D := D) C.1 C.2.1 C.2.2.2.2.2.2.2.1 Dy.1 Dy.2.1 Dy.2.2 q 0 (cA := c1) (f := mem q) (zm_at hs) rfl hin hd (fun H1 locs1 hP hD hS => ?_)
  have e0 : zm_st mem q i.toNatClampNeg x q = upd (mem q) i.toNatClampNeg x := by funext j; simp [zm_st, upd]
  have e2 : (Sum.inl (c1, n, Sum.inl (upd (mem q) i.toNatClampNeg x)) : va_E) = zm_cell c1 c2 ad (zm_st mem q i.toNatClampNeg x q) (.inr (false, n)) := by
    rw [← e0]
    rfl
  have e1 := zm_set (c1 := c1) (c2 := c2) (ad := ad) (mem := mem) (mem' := zm_st mem q i.toNatClampNeg x) hs (fun q' hq' => by funext j'; simp [zm_st, hq'])
  rw [e2, e1] at hP hD
  exact k p l e s m args below meth c D c1 c2 ad A C H1 locs1 ls ⟨hP, hD, hS⟩ hl
theorem zm_nar {x : Int32} (h : x = 0 ∨ x = 1) : vp_nar .boolean x = x := by rcases h with rfl | rfl <;> decide
theorem z_bast {q n : Nat} {i x : Int32} (hs : zm_sh[q]? = some (.inr (true, n))) (hin : vp_in i n) (hb : x = 0 ∨ x = 1) (hd : decode g.2.1 pc = .ok (.bastore, 1)) (k : zm_Z g post (pc + 1) lv st (zm_st mem q i.toNatClampNeg x)) : zm_Z g post pc lv (.int x :: .int i :: .ref q :: st) mem := by
  intro p l e s m args below meth c D c1 c2 ad A C H locs ls Dy hl
  refine va_zast (D := D) C.1 C.2.1 C.2.2.2.2.2.2.2.1 Dy.1 Dy.2.1 Dy.2.2 q 1 (cA := c2) (f := mem q) (zm_at hs) rfl hin hd (fun H1 locs1 hP hD hS => ?_)
  rw [zm_nar hb] at hP hD
  have e0 : zm_st mem q i.toNatClampNeg x q = upd (mem q) i.toNatClampNeg x := by funext j; simp [zm_st, upd]
  have e2 : (Sum.inl (c2, n, Sum.inl (upd (mem q) i.toNatClampNeg x)) : va_E) = zm_cell c1 c2 ad (zm_st mem q i.toNatClampNeg x q) (.inr (true, n)) := by
    rw [← e0]
    rfl
  have e1 := zm_set (c1 := c1) (c2 := c2) (ad := ad) (mem := mem) (mem' := zm_st mem q i.toNatClampNeg x) hs (fun q' hq' => by funext j'; simp [zm_st, hq'])
  rw [e2, e1] at hP hD
  exact k p l e s m args below meth c D c1 c2 ad A C H1 locs1 ls ⟨hP, hD, hS⟩ hl
theorem z_iret {r : Int32} (hr : g.2.2.2.1 = some .int) (hd : decode g.2.1 pc = .ok (.ireturn, 1)) (k : post r 0 mem) : zm_Z g post pc lv [.int r] mem := by
  intro p l e s m args below meth c D c1 c2 ad A C H locs ls Dy hl
  rw [hr]
  exact W.iret (v := r) C.1 C.2.1 (C.2.2.1.trans hr) (fun t ht hW => ⟨⟨r, mem, rfl, k, by rw [ht]; exact Dy.1, va_K.moved hW.alike C.2.2.2.2.2.2.2.1, Dy.2.1⟩, Dy.2.2.F ht⟩) Dy.2.2.2.2 hd C.2.2.2.1
theorem z_zret {r : Int32} (hr : g.2.2.2.1 = some .boolean) (hb : r = 0 ∨ r = 1) (hd : decode g.2.1 pc = .ok (.ireturn, 1)) (k : post r 0 mem) : zm_Z g post pc lv [.int r] mem := by
  intro p l e s m args below meth c D c1 c2 ad A C H locs ls Dy hl
  rw [hr]
  exact W.zret (v := r) (ty := .boolean) C.1 C.2.1 (C.2.2.1.trans hr) (by rcases hb with rfl | rfl <;> rfl) (fun t ht hW => ⟨⟨r, mem, rfl, k, by rw [ht]; exact Dy.1, va_K.moved hW.alike C.2.2.2.2.2.2.2.1, Dy.2.1⟩, Dy.2.2.F ht⟩) Dy.2.2.2.2 hd C.2.2.2.1
theorem z_lret {r : Int64} (hr : g.2.2.2.1 = some .long) (hd : decode g.2.1 pc = .ok (.lreturn, 1)) (k : post 0 r mem) : zm_Z g post pc lv [.long r] mem := by
  intro p l e s m args below meth c D c1 c2 ad A C H locs ls Dy hl
  rw [hr]
  exact W.lret (v := r) C.1 C.2.1 (C.2.2.1.trans hr) (fun t ht hW => ⟨⟨r, mem, rfl, k, by rw [ht]; exact Dy.1, va_K.moved hW.alike C.2.2.2.2.2.2.2.1, Dy.2.1⟩, Dy.2.2.F ht⟩) Dy.2.2.2.2 hd C.2.2.2.1
theorem z_vret (hr : g.2.2.2.1 = none) (hd : decode g.2.1 pc = .ok (.return_, 1)) (k : post 0 0 mem) : zm_Z g post pc lv [] mem := by
  intro p l e s m args below meth c D c1 c2 ad A C H locs ls Dy hl
  rw [hr]
  exact W.vret C.1 C.2.1 (C.2.2.1.trans hr) (fun t ht hW => ⟨⟨mem, rfl, k, by rw [ht]; exact Dy.1, va_K.moved hW.alike C.2.2.2.2.2.2.2.1, Dy.2.1⟩, Dy.2.2.F ht⟩) Dy.2.2.2.2 hd C.2.2.2.1
theorem zm_blind {D : va_G} {c1 c2 : ClassId} {ad : Nat → Nat} {sz : Nat} {as : List Value} {mem : zm_Mem} : FrameBlind (zm_Pc D c1 c2 ad sz as mem) := by
  intro a U f mk q
  obtain ⟨q1, q2, q3, q4, q5, q6⟩ := q
  refine ⟨q1, q2, q3, va_K.moved (u := U) (U := U.calling f mk a) (Vm.Alike.refl U.vm) q4, q5, ?_⟩
  obtain ⟨h1, r, h2, h3⟩ := q6
  exact ⟨fun t ht => va_Nw.same rfl (u := U) (U := U.calling f mk a) rfl (h1 t ht), r, va_Z.moved (u := U) (U := U.calling f mk a) (Vm.Alike.refl U.vm) h2, va_T.moved (u := U) (U := U.calling f mk a) (Vm.Alike.refl U.vm) h3⟩
/-- what a call needs of the tables, and of the room -/
def zm_okV (g : zm_Sig) (idx : Nat) (g' : zm_Sig) (n : Nat) : Prop := (∀ w ∈ wsV g.1.cls idx g'.1.cls g'.1 [Cond.code g'.1 g'.2.1 g'.2.2.1 g'.2.2.2.1], w ∈ zm_tb) ∧ (g'.1.cls ≠ "java/lang/invoke/MethodHandle" ∧ g'.1.cls ≠ "java/lang/invoke/VarHandle" ∧ (parseMethodDescriptor g'.1.desc).map (fun d => d.parameters.length) = some n) ∧ g'.2.2.2.2.1 + 1 ≤ g.2.2.2.2.1 ∧ 8 + (g'.2.2.1 + 11) + g'.2.2.2.2.2 ≤ g.2.2.2.2.2
def zm_okS (g : zm_Sig) (idx : Nat) (g' : zm_Sig) (n : Nat) : Prop := (∀ w ∈ va_wsS g.1.cls idx g'.1 [Cond.code g'.1 g'.2.1 g'.2.2.1 g'.2.2.2.1], w ∈ zm_tb) ∧ (g'.1.cls ≠ "java/lang/invoke/MethodHandle" ∧ g'.1.cls ≠ "java/lang/invoke/VarHandle" ∧ (parseMethodDescriptor g'.1.desc).map (fun d => d.parameters.length) = some n) ∧ g'.2.2.2.2.1 + 1 ≤ g.2.2.2.2.1 ∧ 8 + (g'.2.2.1 + 11) + g'.2.2.2.2.2 ≤ g.2.2.2.2.2
theorem zm_goodV {g g' : zm_Sig} {idx n : Nat} (h : zm_okV g idx g' n) : GoodIn zm_tb (wsV g.1.cls idx g'.1.cls g'.1 (zm_ws g')) := zm_tb_good (fun w hw => by
  simp only [wsV, zm_ws, List.mem_append, List.mem_cons] at hw
  rcases hw with hw | hw | hw
  · exact h.1 w (by simp only [wsV, List.mem_append, List.mem_cons]; exact Or.inl hw)
  · exact h.1 w (by simp only [wsV, List.mem_append, List.mem_cons]; exact Or.inr (Or.inl hw))
  · exact hw)
theorem zm_goodS {g g' : zm_Sig} {idx n : Nat} (h : zm_okS g idx g' n) : GoodIn zm_tb (va_wsS g.1.cls idx g'.1 (zm_ws g')) := zm_tb_good (fun w hw => by
  simp only [va_wsS, zm_ws, List.mem_append, List.mem_cons] at hw
  rcases hw with hw | hw | hw
  · exact h.1 w (by simp only [va_wsS, List.mem_append, List.mem_cons]; exact Or.inl hw)
  · exact h.1 w (by simp only [va_wsS, List.mem_append, List.mem_cons]; exact Or.inr (Or.inl hw))
  · exact hw)
theorem zm_pre {g : zm_Sig} {p : Program} {s : State} {m : MethodId} {args : Array Value} {meth : Method} {c : Code} {D : va_G} {c1 c2 : ClassId} {A : Nat → Prop} (C : zm_At g p s m args meth c D c1 c2 A) {ad : Nat → Nat} {H : Heap} {locs : List Loc} (Dy : zm_Dy D c1 c2 ad A mem s H locs) (as : List Value) : ∀ U : State, U.heap = H → s.WarmedH U.vm → zm_Pc D c1 c2 ad H.size as mem (as.map (zm_v ad)).toArray U := by
  intro U hU hW
  refine ⟨rfl, by rw [hU], by rw [hU]; exact Dy.1, va_K.moved hW.alike C.2.2.2.2.2.2.2.1, Dy.2.1.weaken (fun _ _ _ _ => trivial), ?_⟩
  rw [hU]
  refine zm_env.go C.2.2.2.2.2.2.2.2.2 hW Dy.2.2 (fun q hq => ?_)
  rcases hq with ⟨k, e, hk⟩ | hq
  · exact Dy.2.1.2 k _ hk
  · exact C.2.2.2.2.2.2.2.2.1 q (Nat.le_trans Dy.2.2.1 hq)
theorem zm_sub {g : zm_Sig} {p : Program} {s : State} {m : MethodId} {args : Array Value} {meth : Method} {c : Code} {D : va_G} {c1 c2 : ClassId} {A : Nat → Prop} (C : zm_At g p s m args meth c D c1 c2 A) {ad : Nat → Nat} {H : Heap} {locs : List Loc} (Dy : zm_Dy D c1 c2 ad A mem s H locs) : ∀ q, va_A (zm_pic c1 c2 ad mem) H.size q → A q := by
  intro q hq
  rcases hq with ⟨k, e, hk⟩ | hq
  · exact Dy.2.1.2 k _ hk
  · exact C.2.2.2.2.2.2.2.2.1 q (Nat.le_trans Dy.2.2.1 hq)
theorem zm_stk (ad : Nat → Nat) (as st : List Value) (q : Nat) : (as.reverse ++ .ref q :: st).map (zm_v ad) = (as.map (zm_v ad)).reverse ++ .ref (ad q) :: st.map (zm_v ad) := by
  simp [zm_v]
theorem zm_stkS (ad : Nat → Nat) (as st : List Value) : (as.reverse ++ st).map (zm_v ad) = (as.map (zm_v ad)).reverse ++ st.map (zm_v ad) := by
  simp
theorem zm_catsum (ad : Nat → Nat) (st : List Value) : ((st.map (zm_v ad)).map fun v => v.category).sum = (st.map fun v => v.category).sum := by
  simp [List.map_map, Function.comp_def, zm_v_cat]
theorem z_callVi {g' : zm_Sig} {idx : Nat} {stk : List Value} (as : List Value) {q ci : Nat} {fl : List (Option Nat)} {T : u_T} {N : Nat} (hs : zm_sh[q]? = some (.inl (ci, fl))) (hc : zm_classes[ci]? = some (g'.1.cls, T, N)) (ok : zm_okV g idx g' as.length) (hr : ∃ ty, g'.2.2.2.1 = some ty ∧ ¬ ty = .long) (hstk : stk = as.reverse ++ .ref q :: st) (hw : (st.map fun v => v.category).sum ≤ 8) (hd : decode g.2.1 pc = .ok (.invokevirtual idx, 3)) (k : zm_Call g' (.ref q :: as) mem (fun r w u => zm_Z g post (pc + 3) lv (.int r :: st) u)) : zm_Z g post pc lv stk mem := by
  intro p l e s m args below meth c D c1 c2 ad A C H locs ls Dy hl
  have eQ : ∀ (Y : zm_Post) (B : zm_Mem → State → Prop) (A1 : Nat → Prop), zm_Q g'.2.2.2.1 Y B A1 = va_Qi (fun r u => Y r 0 u) B A1 := by
    obtain ⟨ty, hr, hnl⟩ := hr
    intro Y B A1
    rw [hr]
    cases ty <;> first | rfl | exact absurd rfl hnl
  subst hstk
  rw [zm_stk ad as st q]
  have hrun : va_Run p l e (zm_rm g) s m args below meth c H locs 0 0 0 0 (F0 m pc ls ((as.map (zm_v ad)).reverse ++ .ref (ad q) :: st.map (zm_v ad))) (st.map (zm_v ad)) (zm_Q g'.2.2.2.1 (fun r w u => zm_Z g post (pc + 3) lv (.int r :: st) u) (zm_B D c1 c2 ad (va_A (zm_pic c1 c2 ad mem) H.size)) (va_A (zm_pic c1 c2 ad mem) H.size) (Value.ref (ad q) :: as.map (zm_v ad)).toArray) (va_A (zm_pic c1 c2 ad mem) H.size) := va_runV (As := as.map (zm_v ad)) (rest := st.map (zm_v ad)) (C := g'.1.cls) (n := as.length) (b := ad q) ⟨C.1, C.2.1, C.2.2.2.2.1, C.2.2.2.2.2.1, C.2.2.2.2.2.2.1⟩ (k l D c1 c2 ad H.size) (cwV as.length C.2.2.2.2.2.2.1 (zm_goodV ok) rfl rfl rfl ⟨rfl, ok.2.1⟩ ok.2.2) ⟨zm_blind, va_recv C.2.2.2.2.2.2.2.1 Dy.1 hc (zm_at hs), zm_pre C Dy (.ref q :: as)⟩ rfl (by simp) hl.1 rfl (lv_room (by rw [zm_catsum]; exact hw)) hd ⟨Nat.zero_le _, Nat.zero_le _⟩
  rw [eQ] at hrun
  refine va_calli hrun Dy.2.2 (fun q _ h => zm_sub C Dy q h) (zm_sub C Dy) (fun r u t H1 locs1 ht hvm hp hB hz hk hS => ?_)
  obtain ⟨hP1, hK1, hD1⟩ := hB
  rw [ht] at hP1
  exact hp p l e s m args below meth c D c1 c2 ad A C H1 locs1 ls ⟨hP1, hD1.weaken (fun _ q _ h => zm_sub C Dy _ h), hS⟩ hl
theorem z_callSi {g' : zm_Sig} {idx : Nat} {stk : List Value} (as : List Value) (ok : zm_okS g idx g' as.length) (hr : ∃ ty, g'.2.2.2.1 = some ty ∧ ¬ ty = .long) (hstk : stk = as.reverse ++ st) (hw : (st.map fun v => v.category).sum ≤ 8) (hd : decode g.2.1 pc = .ok (.invokestatic idx, 3)) (k : zm_Call g' (as) mem (fun r w u => zm_Z g post (pc + 3) lv (.int r :: st) u)) : zm_Z g post pc lv stk mem := by
  intro p l e s m args below meth c D c1 c2 ad A C H locs ls Dy hl
  have eQ : ∀ (Y : zm_Post) (B : zm_Mem → State → Prop) (A1 : Nat → Prop), zm_Q g'.2.2.2.1 Y B A1 = va_Qi (fun r u => Y r 0 u) B A1 := by
    obtain ⟨ty, hr, hnl⟩ := hr
    intro Y B A1
    rw [hr]
    cases ty <;> first | rfl | exact absurd rfl hnl
  subst hstk
  rw [zm_stkS ad as st]
  have hrun : va_Run p l e (zm_rm g) s m args below meth c H locs 0 0 0 0 (F0 m pc ls ((as.map (zm_v ad)).reverse ++ st.map (zm_v ad))) (st.map (zm_v ad)) (zm_Q g'.2.2.2.1 (fun r w u => zm_Z g post (pc + 3) lv (.int r :: st) u) (zm_B D c1 c2 ad (va_A (zm_pic c1 c2 ad mem) H.size)) (va_A (zm_pic c1 c2 ad mem) H.size) (as.map (zm_v ad)).toArray) (va_A (zm_pic c1 c2 ad mem) H.size) := va_runS (As := as.map (zm_v ad)) (rest := st.map (zm_v ad)) (n := as.length) ⟨C.1, C.2.1, C.2.2.2.2.1, C.2.2.2.2.2.1, C.2.2.2.2.2.2.1⟩ (k l D c1 c2 ad H.size) (va_cwS as.length C.2.2.2.2.2.2.1 (zm_goodS ok) rfl rfl rfl ok.2.1 ok.2.2) ⟨zm_blind, zm_pre C Dy as⟩ rfl (by simp) hl.1 rfl (lv_room (by rw [zm_catsum]; exact hw)) hd ⟨Nat.zero_le _, Nat.zero_le _⟩
  rw [eQ] at hrun
  refine va_calli hrun Dy.2.2 (fun q _ h => zm_sub C Dy q h) (zm_sub C Dy) (fun r u t H1 locs1 ht hvm hp hB hz hk hS => ?_)
  obtain ⟨hP1, hK1, hD1⟩ := hB
  rw [ht] at hP1
  exact hp p l e s m args below meth c D c1 c2 ad A C H1 locs1 ls ⟨hP1, hD1.weaken (fun _ q _ h => zm_sub C Dy _ h), hS⟩ hl
theorem z_callVl {g' : zm_Sig} {idx : Nat} {stk : List Value} (as : List Value) {q ci : Nat} {fl : List (Option Nat)} {T : u_T} {N : Nat} (hs : zm_sh[q]? = some (.inl (ci, fl))) (hc : zm_classes[ci]? = some (g'.1.cls, T, N)) (ok : zm_okV g idx g' as.length) (hr : g'.2.2.2.1 = some .long) (hstk : stk = as.reverse ++ .ref q :: st) (hw : (st.map fun v => v.category).sum ≤ 8) (hd : decode g.2.1 pc = .ok (.invokevirtual idx, 3)) (k : zm_Call g' (.ref q :: as) mem (fun r w u => zm_Z g post (pc + 3) lv (.long w :: st) u)) : zm_Z g post pc lv stk mem := by
  intro p l e s m args below meth c D c1 c2 ad A C H locs ls Dy hl
  have eQ : ∀ (Y : zm_Post) (B : zm_Mem → State → Prop) (A1 : Nat → Prop), zm_Q g'.2.2.2.1 Y B A1 = va_Ql (fun r u => Y 0 r u) B A1 := by
    intro Y B A1
    rw [hr]
    rfl
  subst hstk
  rw [zm_stk ad as st q]
  have hrun : va_Run p l e (zm_rm g) s m args below meth c H locs 0 0 0 0 (F0 m pc ls ((as.map (zm_v ad)).reverse ++ .ref (ad q) :: st.map (zm_v ad))) (st.map (zm_v ad)) (zm_Q g'.2.2.2.1 (fun r w u => zm_Z g post (pc + 3) lv (.long w :: st) u) (zm_B D c1 c2 ad (va_A (zm_pic c1 c2 ad mem) H.size)) (va_A (zm_pic c1 c2 ad mem) H.size) (Value.ref (ad q) :: as.map (zm_v ad)).toArray) (va_A (zm_pic c1 c2 ad mem) H.size) := va_runV (As := as.map (zm_v ad)) (rest := st.map (zm_v ad)) (C := g'.1.cls) (n := as.length) (b := ad q) ⟨C.1, C.2.1, C.2.2.2.2.1, C.2.2.2.2.2.1, C.2.2.2.2.2.2.1⟩ (k l D c1 c2 ad H.size) (cwV as.length C.2.2.2.2.2.2.1 (zm_goodV ok) rfl rfl rfl ⟨rfl, ok.2.1⟩ ok.2.2) ⟨zm_blind, va_recv C.2.2.2.2.2.2.2.1 Dy.1 hc (zm_at hs), zm_pre C Dy (.ref q :: as)⟩ rfl (by simp) hl.1 rfl (lv_room (by rw [zm_catsum]; exact hw)) hd ⟨Nat.zero_le _, Nat.zero_le _⟩
  rw [eQ] at hrun
  refine va_calll hrun Dy.2.2 (fun q _ h => zm_sub C Dy q h) (zm_sub C Dy) (fun r u t H1 locs1 ht hvm hp hB hz hk hS => ?_)
  obtain ⟨hP1, hK1, hD1⟩ := hB
  rw [ht] at hP1
  exact hp p l e s m args below meth c D c1 c2 ad A C H1 locs1 ls ⟨hP1, hD1.weaken (fun _ q _ h => zm_sub C Dy _ h), hS⟩ hl
theorem z_callSl {g' : zm_Sig} {idx : Nat} {stk : List Value} (as : List Value) (ok : zm_okS g idx g' as.length) (hr : g'.2.2.2.1 = some .long) (hstk : stk = as.reverse ++ st) (hw : (st.map fun v => v.category).sum ≤ 8) (hd : decode g.2.1 pc = .ok (.invokestatic idx, 3)) (k : zm_Call g' (as) mem (fun r w u => zm_Z g post (pc + 3) lv (.long w :: st) u)) : zm_Z g post pc lv stk mem := by
  intro p l e s m args below meth c D c1 c2 ad A C H locs ls Dy hl
  have eQ : ∀ (Y : zm_Post) (B : zm_Mem → State → Prop) (A1 : Nat → Prop), zm_Q g'.2.2.2.1 Y B A1 = va_Ql (fun r u => Y 0 r u) B A1 := by
    intro Y B A1
    rw [hr]
    rfl
  subst hstk
  rw [zm_stkS ad as st]
  have hrun : va_Run p l e (zm_rm g) s m args below meth c H locs 0 0 0 0 (F0 m pc ls ((as.map (zm_v ad)).reverse ++ st.map (zm_v ad))) (st.map (zm_v ad)) (zm_Q g'.2.2.2.1 (fun r w u => zm_Z g post (pc + 3) lv (.long w :: st) u) (zm_B D c1 c2 ad (va_A (zm_pic c1 c2 ad mem) H.size)) (va_A (zm_pic c1 c2 ad mem) H.size) (as.map (zm_v ad)).toArray) (va_A (zm_pic c1 c2 ad mem) H.size) := va_runS (As := as.map (zm_v ad)) (rest := st.map (zm_v ad)) (n := as.length) ⟨C.1, C.2.1, C.2.2.2.2.1, C.2.2.2.2.2.1, C.2.2.2.2.2.2.1⟩ (k l D c1 c2 ad H.size) (va_cwS as.length C.2.2.2.2.2.2.1 (zm_goodS ok) rfl rfl rfl ok.2.1 ok.2.2) ⟨zm_blind, zm_pre C Dy as⟩ rfl (by simp) hl.1 rfl (lv_room (by rw [zm_catsum]; exact hw)) hd ⟨Nat.zero_le _, Nat.zero_le _⟩
  rw [eQ] at hrun
  refine va_calll hrun Dy.2.2 (fun q _ h => zm_sub C Dy q h) (zm_sub C Dy) (fun r u t H1 locs1 ht hvm hp hB hz hk hS => ?_)
  obtain ⟨hP1, hK1, hD1⟩ := hB
  rw [ht] at hP1
  exact hp p l e s m args below meth c D c1 c2 ad A C H1 locs1 ls ⟨hP1, hD1.weaken (fun _ q _ h => zm_sub C Dy _ h), hS⟩ hl
theorem z_callVv {g' : zm_Sig} {idx : Nat} {stk : List Value} (as : List Value) {q ci : Nat} {fl : List (Option Nat)} {T : u_T} {N : Nat} (hs : zm_sh[q]? = some (.inl (ci, fl))) (hc : zm_classes[ci]? = some (g'.1.cls, T, N)) (ok : zm_okV g idx g' as.length) (hr : g'.2.2.2.1 = none) (hstk : stk = as.reverse ++ .ref q :: st) (hw : (st.map fun v => v.category).sum ≤ 8) (hd : decode g.2.1 pc = .ok (.invokevirtual idx, 3)) (k : zm_Call g' (.ref q :: as) mem (fun r w u => zm_Z g post (pc + 3) lv (st) u)) : zm_Z g post pc lv stk mem := by
  intro p l e s m args below meth c D c1 c2 ad A C H locs ls Dy hl
  have eQ : ∀ (Y : zm_Post) (B : zm_Mem → State → Prop) (A1 : Nat → Prop), zm_Q g'.2.2.2.1 Y B A1 = va_Qv (fun u => Y 0 0 u) B A1 := by
    intro Y B A1
    rw [hr]
    rfl
  subst hstk
  rw [zm_stk ad as st q]
  have hrun : va_Run p l e (zm_rm g) s m args below meth c H locs 0 0 0 0 (F0 m pc ls ((as.map (zm_v ad)).reverse ++ .ref (ad q) :: st.map (zm_v ad))) (st.map (zm_v ad)) (zm_Q g'.2.2.2.1 (fun r w u => zm_Z g post (pc + 3) lv (st) u) (zm_B D c1 c2 ad (va_A (zm_pic c1 c2 ad mem) H.size)) (va_A (zm_pic c1 c2 ad mem) H.size) (Value.ref (ad q) :: as.map (zm_v ad)).toArray) (va_A (zm_pic c1 c2 ad mem) H.size) := va_runV (As := as.map (zm_v ad)) (rest := st.map (zm_v ad)) (C := g'.1.cls) (n := as.length) (b := ad q) ⟨C.1, C.2.1, C.2.2.2.2.1, C.2.2.2.2.2.1, C.2.2.2.2.2.2.1⟩ (k l D c1 c2 ad H.size) (cwV as.length C.2.2.2.2.2.2.1 (zm_goodV ok) rfl rfl rfl ⟨rfl, ok.2.1⟩ ok.2.2) ⟨zm_blind, va_recv C.2.2.2.2.2.2.2.1 Dy.1 hc (zm_at hs), zm_pre C Dy (.ref q :: as)⟩ rfl (by simp) hl.1 rfl (lv_room (by rw [zm_catsum]; exact hw)) hd ⟨Nat.zero_le _, Nat.zero_le _⟩
  rw [eQ] at hrun
  refine va_callv hrun Dy.2.2 (fun q _ h => zm_sub C Dy q h) (zm_sub C Dy) (fun u t H1 locs1 ht hvm hp hB hz hk hS => ?_)
  obtain ⟨hP1, hK1, hD1⟩ := hB
  rw [ht] at hP1
  exact hp p l e s m args below meth c D c1 c2 ad A C H1 locs1 ls ⟨hP1, hD1.weaken (fun _ q _ h => zm_sub C Dy _ h), hS⟩ hl
theorem z_callSv {g' : zm_Sig} {idx : Nat} {stk : List Value} (as : List Value) (ok : zm_okS g idx g' as.length) (hr : g'.2.2.2.1 = none) (hstk : stk = as.reverse ++ st) (hw : (st.map fun v => v.category).sum ≤ 8) (hd : decode g.2.1 pc = .ok (.invokestatic idx, 3)) (k : zm_Call g' (as) mem (fun r w u => zm_Z g post (pc + 3) lv (st) u)) : zm_Z g post pc lv stk mem := by
  intro p l e s m args below meth c D c1 c2 ad A C H locs ls Dy hl
  have eQ : ∀ (Y : zm_Post) (B : zm_Mem → State → Prop) (A1 : Nat → Prop), zm_Q g'.2.2.2.1 Y B A1 = va_Qv (fun u => Y 0 0 u) B A1 := by
    intro Y B A1
    rw [hr]
    rfl
  subst hstk
  rw [zm_stkS ad as st]
  have hrun : va_Run p l e (zm_rm g) s m args below meth c H locs 0 0 0 0 (F0 m pc ls ((as.map (zm_v ad)).reverse ++ st.map (zm_v ad))) (st.map (zm_v ad)) (zm_Q g'.2.2.2.1 (fun r w u => zm_Z g post (pc + 3) lv (st) u) (zm_B D c1 c2 ad (va_A (zm_pic c1 c2 ad mem) H.size)) (va_A (zm_pic c1 c2 ad mem) H.size) (as.map (zm_v ad)).toArray) (va_A (zm_pic c1 c2 ad mem) H.size) := va_runS (As := as.map (zm_v ad)) (rest := st.map (zm_v ad)) (n := as.length) ⟨C.1, C.2.1, C.2.2.2.2.1, C.2.2.2.2.2.1, C.2.2.2.2.2.2.1⟩ (k l D c1 c2 ad H.size) (va_cwS as.length C.2.2.2.2.2.2.1 (zm_goodS ok) rfl rfl rfl ok.2.1 ok.2.2) ⟨zm_blind, zm_pre C Dy as⟩ rfl (by simp) hl.1 rfl (lv_room (by rw [zm_catsum]; exact hw)) hd ⟨Nat.zero_le _, Nat.zero_le _⟩
  rw [eQ] at hrun
  refine va_callv hrun Dy.2.2 (fun q _ h => zm_sub C Dy q h) (zm_sub C Dy) (fun u t H1 locs1 ht hvm hp hB hz hk hS => ?_)
  obtain ⟨hP1, hK1, hD1⟩ := hB
  rw [ht] at hP1
  exact hp p l e s m args below meth c D c1 c2 ad A C H1 locs1 ls ⟨hP1, hD1.weaken (fun _ q _ h => zm_sub C Dy _ h), hS⟩ hl
theorem zm_args (ad : Nat → Nat) (as : List Value) : ∀ i, lv_args i (as.map (zm_v ad)) = zm_lv ad (lv_args i as) := by
  induction as with
  | nil => intro i; rfl
  | cons a as ih =>
    intro i
    simp only [List.map_cons, lv_args, zm_v_cat, ih]
    rfl
theorem zm_sl (ad : Nat → Nat) (as : List Value) : (lg_sl (as.map (zm_v ad))).length = (lg_sl as).length := by
  induction as with
  | nil => rfl
  | cons a as ih =>
    simp only [lg_sl, List.map_cons, List.flatMap_cons, List.length_append] at ih ⊢
    rw [ih, zm_v_cat]
    by_cases h : a.category = 2 <;> simp [h]
/-- from its entry -/
theorem z_entry {as : List Value} (hy : plainName g.1.cls = true) (hn : (lg_sl as).length ≤ g.2.2.1) (k : zm_Z g post 0 (lv_args 0 as) [] mem) : zm_Call g as mem post := by
  intro l D c1 c2 ad sz
  refine Met.ofW (cc := g.2.1) (maxL := g.2.2.1) (ret := g.2.2.2.1) hy rfl ?_
  intro p e s m args below meth c s₁ B hml hv
  obtain ⟨rfl, hsz, hP, hK, hD0, hE⟩ := hv
  have hts := atoms_spec (ws := zm_ws g) B.pre
  subst hsz
  have hl := lv_entry (as.map (zm_v ad)) (n := g.2.2.1) (by rw [zm_sl]; exact hn)
  rw [zm_args] at hl
  rw [lg_entry_eq]
  refine k p l e s m _ below meth c D c1 c2 ad _ ⟨B.exec, B.bytes, B.returns, B.notSynchronized, hml, findClass_of_methodNamed B.named, fun w hw => hts w (List.mem_cons_of_mem _ hw), hK, fun q h => Or.inr h, hE⟩ s.heap [] _ ⟨hP, hD0.self, va_S.rf⟩ hl
/-- a weaker end -/
theorem zm_Call.mono {as : List Value} {p1 p2 : zm_Post} (h : zm_Call g as mem p1) (hp : ∀ r w u, p1 r w u → p2 r w u) : zm_Call g as mem p2 := by
  intro l D c1 c2 ad sz p e ha hc hk s m args below hf h1 h2 h3
  obtain ⟨n, o, a1, a2, a3, a4, a5⟩ := h l D c1 c2 ad sz p e ha hc hk s m args below hf h1 h2 h3
  refine ⟨n, o, a1, a2, a3, ?_, a5⟩
  generalize g.2.2.2.1 = ret at a4 ⊢
  cases ret with
  | none => exact ⟨let ⟨u, e1, e2, e3⟩ := a4.1; ⟨u, e1, hp _ _ _ e2, e3⟩, a4.2⟩
  | some ty => cases ty <;> exact ⟨let ⟨r, u, e1, e2, e3⟩ := a4.1; ⟨r, u, e1, hp _ _ _ e2, e3⟩, a4.2⟩
end ZROWS
