section ZR
variable {G : ZG} {Y : ZY} {d pc q : Nat} {lv lv1 : List (Nat × Value)} {st : List Value} {σ σ1 σ9 : ZM} {r9 : Option Value}
theorem zf_iconst {n : Int} {v : Int32} (hq : pc + 1 = q) (hd : decode Y.2.1 pc = .ok (.iconst n, 1)) (hv : Int32.ofInt n = v) (k : zF G Y d q lv (.int v :: st) σ r9 σ9) : zF G Y d pc lv (st) σ r9 σ9 := by
  intro p e s m args below meth c C H locs ls hP hS hl
  subst hq
  exact lv_iconst C.1 C.2.1 hd hv (k p e s m args below meth c C H locs ls hP hS hl)
theorem zf_bipush {n : Int} {v : Int32} (hq : pc + 2 = q) (hd : decode Y.2.1 pc = .ok (.bipush n, 2)) (hv : (Int8.ofInt n).toInt32 = v) (k : zF G Y d q lv (.int v :: st) σ r9 σ9) : zF G Y d pc lv (st) σ r9 σ9 := by
  intro p e s m args below meth c C H locs ls hP hS hl
  subst hq
  exact lv_bipush C.1 C.2.1 hd hv (k p e s m args below meth c C H locs ls hP hS hl)
theorem zf_sipush {n : Int} {v : Int32} (hq : pc + 3 = q) (hd : decode Y.2.1 pc = .ok (.sipush n, 3)) (hv : (Int16.ofInt n).toInt32 = v) (k : zF G Y d q lv (.int v :: st) σ r9 σ9) : zF G Y d pc lv (st) σ r9 σ9 := by
  intro p e s m args below meth c C H locs ls hP hS hl
  subst hq
  exact lv_sipush C.1 C.2.1 hd hv (k p e s m args below meth c C H locs ls hP hS hl)
theorem zf_lconst {n : Fin 2} {v : Int64} (hq : pc + 1 = q) (hd : decode Y.2.1 pc = .ok (.lconst n, 1)) (hv : Int64.ofNat (n : Nat) = v) (k : zF G Y d q lv (.long v :: st) σ r9 σ9) : zF G Y d pc lv (st) σ r9 σ9 := by
  intro p e s m args below meth c C H locs ls hP hS hl
  subst hq
  exact lv_lconst C.1 C.2.1 hd hv (k p e s m args below meth c C H locs ls hP hS hl)
theorem zf_ldc {n : Nat} {v : Int32} (hq : pc + 2 = q) (hd : decode Y.2.1 pc = .ok (.ldc n, 2)) (hv : Jvm.Cond.constant Y.1.cls n v ∈ ztb) (k : zF G Y d q lv (.int v :: st) σ r9 σ9) : zF G Y d pc lv (st) σ r9 σ9 := by
  intro p e s m args below meth c C H locs ls hP hS hl
  subst hq
  exact lv_ldc C.1 C.2.1 C.2.2.2.2.1 (C.2.2.2.2.2.1 _ hv) hd (k p e s m args below meth c C H locs ls hP hS hl)
theorem zf_ldcw {n : Nat} {v : Int32} (hq : pc + 3 = q) (hd : decode Y.2.1 pc = .ok (.ldc_w n, 3)) (hv : Jvm.Cond.constant Y.1.cls n v ∈ ztb) (k : zF G Y d q lv (.int v :: st) σ r9 σ9) : zF G Y d pc lv (st) σ r9 σ9 := by
  intro p e s m args below meth c C H locs ls hP hS hl
  subst hq
  exact lv_ldcw C.1 C.2.1 C.2.2.2.2.1 (C.2.2.2.2.2.1 _ hv) hd (k p e s m args below meth c C H locs ls hP hS hl)
theorem zf_ldc2 {n : Nat} {v : Int64} (hq : pc + 3 = q) (hd : decode Y.2.1 pc = .ok (.ldc2_w n, 3)) (hv : Jvm.Cond.constantLong Y.1.cls n v ∈ ztb) (k : zF G Y d q lv (.long v :: st) σ r9 σ9) : zF G Y d pc lv (st) σ r9 σ9 := by
  intro p e s m args below meth c C H locs ls hP hS hl
  subst hq
  exact lv_ldc2 C.1 C.2.1 C.2.2.2.2.1 (C.2.2.2.2.2.1 _ hv) hd (k p e s m args below meth c C H locs ls hP hS hl)
theorem zf_iload_n {i : Fin 4} {j : Nat} {x : Int32} (n : Nat) (hq : pc + 1 = q) (hd : decode Y.2.1 pc = .ok (.iload_n i, 1)) (hi : (i : Nat) = j) (hn : lv[n]? = some (j, .int x)) (k : zF G Y d q lv (.int x :: st) σ r9 σ9) : zF G Y d pc lv (st) σ r9 σ9 := by
  intro p e s m args below meth c C H locs ls hP hS hl
  subst hq
  exact lv_iload_n C.1 C.2.1 hd hi (lv_at hl n hn) (k p e s m args below meth c C H locs ls hP hS hl)
theorem zf_iload {i : Nat} {x : Int32} (n : Nat) (hq : pc + 2 = q) (hd : decode Y.2.1 pc = .ok (.iload i, 2)) (hn : lv[n]? = some (i, .int x)) (k : zF G Y d q lv (.int x :: st) σ r9 σ9) : zF G Y d pc lv (st) σ r9 σ9 := by
  intro p e s m args below meth c C H locs ls hP hS hl
  subst hq
  exact lv_iload C.1 C.2.1 hd (lv_at hl n hn) (k p e s m args below meth c C H locs ls hP hS hl)
theorem zf_lload_n {i : Fin 4} {j : Nat} {x : Int64} (n : Nat) (hq : pc + 1 = q) (hd : decode Y.2.1 pc = .ok (.lload_n i, 1)) (hi : (i : Nat) = j) (hn : lv[n]? = some (j, .long x)) (k : zF G Y d q lv (.long x :: st) σ r9 σ9) : zF G Y d pc lv (st) σ r9 σ9 := by
  intro p e s m args below meth c C H locs ls hP hS hl
  subst hq
  exact lv_lload_n C.1 C.2.1 hd hi (lv_at hl n hn) (k p e s m args below meth c C H locs ls hP hS hl)
theorem zf_lload {i : Nat} {x : Int64} (n : Nat) (hq : pc + 2 = q) (hd : decode Y.2.1 pc = .ok (.lload i, 2)) (hn : lv[n]? = some (i, .long x)) (k : zF G Y d q lv (.long x :: st) σ r9 σ9) : zF G Y d pc lv (st) σ r9 σ9 := by
  intro p e s m args below meth c C H locs ls hP hS hl
  subst hq
  exact lv_lload C.1 C.2.1 hd (lv_at hl n hn) (k p e s m args below meth c C H locs ls hP hS hl)
theorem zf_aload_n {i : Fin 4} {j : Nat} {x : Nat} (n : Nat) (hq : pc + 1 = q) (hd : decode Y.2.1 pc = .ok (.aload_n i, 1)) (hi : (i : Nat) = j) (hn : lv[n]? = some (j, .ref x)) (k : zF G Y d q lv (.ref x :: st) σ r9 σ9) : zF G Y d pc lv (st) σ r9 σ9 := by
  intro p e s m args below meth c C H locs ls hP hS hl
  subst hq
  exact lv_aload_n C.1 C.2.1 hd hi (lv_at hl n hn) (k p e s m args below meth c C H locs ls hP hS hl)
theorem zf_aload {i : Nat} {x : Nat} (n : Nat) (hq : pc + 2 = q) (hd : decode Y.2.1 pc = .ok (.aload i, 2)) (hn : lv[n]? = some (i, .ref x)) (k : zF G Y d q lv (.ref x :: st) σ r9 σ9) : zF G Y d pc lv (st) σ r9 σ9 := by
  intro p e s m args below meth c C H locs ls hP hS hl
  subst hq
  exact lv_aload C.1 C.2.1 hd (lv_at hl n hn) (k p e s m args below meth c C H locs ls hP hS hl)
theorem zf_istore_n {j : Fin 4} {i : Nat} {x y : Int32} (hq : pc + 1 = q) (hd : decode Y.2.1 pc = .ok (.istore_n j, 1)) (hi : (j : Nat) = i) (hn : i < Y.2.2.1) (hx : some x = some y) (hl1 : (i, Value.int y) :: lv.filter (fun q => !(q.1 == i) && !(q.1 + 1 == i && q.2.category == 2)) = lv1) (k : zF G Y d q lv1 st σ r9 σ9) : zF G Y d pc lv (.int x :: st) σ r9 σ9 := by
  intro p e s m args below meth c C H locs ls hP hS hl
  subst hq
  cases hx
  exact lv_istore_n C.1 C.2.1 hd hi hl hn hl1 (fun ls hl => k p e s m args below meth c C H locs ls hP hS hl)
theorem zf_istore {i : Nat} {x y : Int32} (hq : pc + 2 = q) (hd : decode Y.2.1 pc = .ok (.istore i, 2)) (hn : i < Y.2.2.1) (hx : some x = some y) (hl1 : (i, Value.int y) :: lv.filter (fun q => !(q.1 == i) && !(q.1 + 1 == i && q.2.category == 2)) = lv1) (k : zF G Y d q lv1 st σ r9 σ9) : zF G Y d pc lv (.int x :: st) σ r9 σ9 := by
  intro p e s m args below meth c C H locs ls hP hS hl
  subst hq
  cases hx
  exact lv_istore C.1 C.2.1 hd hl hn hl1 (fun ls hl => k p e s m args below meth c C H locs ls hP hS hl)
theorem zf_lstore_n {j : Fin 4} {i : Nat} {x y : Int64} (hq : pc + 1 = q) (hd : decode Y.2.1 pc = .ok (.lstore_n j, 1)) (hi : (j : Nat) = i) (hn : i + 1 < Y.2.2.1) (hx : some x = some y) (hl1 : (i, Value.long y) :: lv.filter (fun q => !(q.1 == i) && (!(q.1 == i + 1) && !(q.1 + 1 == i && q.2.category == 2))) = lv1) (k : zF G Y d q lv1 st σ r9 σ9) : zF G Y d pc lv (.long x :: st) σ r9 σ9 := by
  intro p e s m args below meth c C H locs ls hP hS hl
  subst hq
  cases hx
  exact lv_lstore_n C.1 C.2.1 hd hi hl hn hl1 (fun ls hl => k p e s m args below meth c C H locs ls hP hS hl)
theorem zf_lstore {i : Nat} {x y : Int64} (hq : pc + 2 = q) (hd : decode Y.2.1 pc = .ok (.lstore i, 2)) (hn : i + 1 < Y.2.2.1) (hx : some x = some y) (hl1 : (i, Value.long y) :: lv.filter (fun q => !(q.1 == i) && (!(q.1 == i + 1) && !(q.1 + 1 == i && q.2.category == 2))) = lv1) (k : zF G Y d q lv1 st σ r9 σ9) : zF G Y d pc lv (.long x :: st) σ r9 σ9 := by
  intro p e s m args below meth c C H locs ls hP hS hl
  subst hq
  cases hx
  exact lv_lstore C.1 C.2.1 hd hl hn hl1 (fun ls hl => k p e s m args below meth c C H locs ls hP hS hl)
theorem zf_astore_n {j : Fin 4} {i : Nat} {x y : Nat} (hq : pc + 1 = q) (hd : decode Y.2.1 pc = .ok (.astore_n j, 1)) (hi : (j : Nat) = i) (hn : i < Y.2.2.1) (hx : some x = some y) (hl1 : (i, Value.ref y) :: lv.filter (fun q => !(q.1 == i) && !(q.1 + 1 == i && q.2.category == 2)) = lv1) (k : zF G Y d q lv1 st σ r9 σ9) : zF G Y d pc lv (.ref x :: st) σ r9 σ9 := by
  intro p e s m args below meth c C H locs ls hP hS hl
  subst hq
  cases hx
  exact lv_astore_n C.1 C.2.1 hd hi hl hn hl1 (fun ls hl => k p e s m args below meth c C H locs ls hP hS hl)
theorem zf_astore {i : Nat} {x y : Nat} (hq : pc + 2 = q) (hd : decode Y.2.1 pc = .ok (.astore i, 2)) (hn : i < Y.2.2.1) (hx : some x = some y) (hl1 : (i, Value.ref y) :: lv.filter (fun q => !(q.1 == i) && !(q.1 + 1 == i && q.2.category == 2)) = lv1) (k : zF G Y d q lv1 st σ r9 σ9) : zF G Y d pc lv (.ref x :: st) σ r9 σ9 := by
  intro p e s m args below meth c C H locs ls hP hS hl
  subst hq
  cases hx
  exact lv_astore C.1 C.2.1 hd hl hn hl1 (fun ls hl => k p e s m args below meth c C H locs ls hP hS hl)
theorem zf_iinc {i : Nat} {n : Int} {x v : Int32} (j : Nat) (hq : pc + 3 = q) (hd : decode Y.2.1 pc = .ok (.iinc i n, 3)) (hj : lv[j]? = some (i, .int x)) (hv : some (x + Int32.ofInt n) = some v) (hn : i < Y.2.2.1) (hl1 : (i, Value.int v) :: lv.filter (fun q => !(q.1 == i) && !(q.1 + 1 == i && q.2.category == 2)) = lv1) (k : zF G Y d q lv1 st σ r9 σ9) : zF G Y d pc lv st σ r9 σ9 := by
  intro p e s m args below meth c C H locs ls hP hS hl
  subst hq
  exact lv_iinc C.1 C.2.1 hd hl hj (Option.some.inj hv) hn hl1 (fun ls hl => k p e s m args below meth c C H locs ls hP hS hl)
theorem zf_sub (ks : List Nat) (h : lv_pick lv ks = lv1) (k : zF G Y d pc lv1 st σ r9 σ9) : zF G Y d pc lv st σ r9 σ9 := fun p e s m args below meth c C H locs ls hP hS hl => k p e s m args below meth c C H locs ls hP hS (lv_sub hl ks h)
theorem zf_iadd {x y : Int32} (hq : pc + 1 = q) (hd : decode Y.2.1 pc = .ok (.iadd, 1)) (k : zF G Y d q lv (.int (x + y) :: st) σ r9 σ9) : zF G Y d pc lv (.int y :: .int x :: st) σ r9 σ9 := by
  intro p e s m args below meth c C H locs ls hP hS hl
  subst hq
  exact lv_iadd C.1 C.2.1 hd (k p e s m args below meth c C H locs ls hP hS hl)
theorem zf_isub {x y : Int32} (hq : pc + 1 = q) (hd : decode Y.2.1 pc = .ok (.isub, 1)) (k : zF G Y d q lv (.int (x - y) :: st) σ r9 σ9) : zF G Y d pc lv (.int y :: .int x :: st) σ r9 σ9 := by
  intro p e s m args below meth c C H locs ls hP hS hl
  subst hq
  exact lv_isub C.1 C.2.1 hd (k p e s m args below meth c C H locs ls hP hS hl)
theorem zf_imul {x y : Int32} (hq : pc + 1 = q) (hd : decode Y.2.1 pc = .ok (.imul, 1)) (k : zF G Y d q lv (.int (x * y) :: st) σ r9 σ9) : zF G Y d pc lv (.int y :: .int x :: st) σ r9 σ9 := by
  intro p e s m args below meth c C H locs ls hP hS hl
  subst hq
  exact lv_imul C.1 C.2.1 hd (k p e s m args below meth c C H locs ls hP hS hl)
theorem zf_iand {x y : Int32} (hq : pc + 1 = q) (hd : decode Y.2.1 pc = .ok (.iand, 1)) (k : zF G Y d q lv (.int (x &&& y) :: st) σ r9 σ9) : zF G Y d pc lv (.int y :: .int x :: st) σ r9 σ9 := by
  intro p e s m args below meth c C H locs ls hP hS hl
  subst hq
  exact lv_iand C.1 C.2.1 hd (k p e s m args below meth c C H locs ls hP hS hl)
theorem zf_ior {x y : Int32} (hq : pc + 1 = q) (hd : decode Y.2.1 pc = .ok (.ior, 1)) (k : zF G Y d q lv (.int (x ||| y) :: st) σ r9 σ9) : zF G Y d pc lv (.int y :: .int x :: st) σ r9 σ9 := by
  intro p e s m args below meth c C H locs ls hP hS hl
  subst hq
  exact lv_ior C.1 C.2.1 hd (k p e s m args below meth c C H locs ls hP hS hl)
theorem zf_ixor {x y : Int32} (hq : pc + 1 = q) (hd : decode Y.2.1 pc = .ok (.ixor, 1)) (k : zF G Y d q lv (.int (x ^^^ y) :: st) σ r9 σ9) : zF G Y d pc lv (.int y :: .int x :: st) σ r9 σ9 := by
  intro p e s m args below meth c C H locs ls hP hS hl
  subst hq
  exact lv_ixor C.1 C.2.1 hd (k p e s m args below meth c C H locs ls hP hS hl)
theorem zf_ishl {x y : Int32} (hq : pc + 1 = q) (hd : decode Y.2.1 pc = .ok (.ishl, 1)) (k : zF G Y d q lv (.int (x <<< (y &&& 31)) :: st) σ r9 σ9) : zF G Y d pc lv (.int y :: .int x :: st) σ r9 σ9 := by
  intro p e s m args below meth c C H locs ls hP hS hl
  subst hq
  exact lv_ishl C.1 C.2.1 hd (k p e s m args below meth c C H locs ls hP hS hl)
theorem zf_ishr {x y : Int32} (hq : pc + 1 = q) (hd : decode Y.2.1 pc = .ok (.ishr, 1)) (k : zF G Y d q lv (.int (x >>> (y &&& 31)) :: st) σ r9 σ9) : zF G Y d pc lv (.int y :: .int x :: st) σ r9 σ9 := by
  intro p e s m args below meth c C H locs ls hP hS hl
  subst hq
  exact lv_ishr C.1 C.2.1 hd (k p e s m args below meth c C H locs ls hP hS hl)
theorem zf_ladd {x y : Int64} (hq : pc + 1 = q) (hd : decode Y.2.1 pc = .ok (.ladd, 1)) (k : zF G Y d q lv (.long (x + y) :: st) σ r9 σ9) : zF G Y d pc lv (.long y :: .long x :: st) σ r9 σ9 := by
  intro p e s m args below meth c C H locs ls hP hS hl
  subst hq
  exact lv_ladd C.1 C.2.1 hd (k p e s m args below meth c C H locs ls hP hS hl)
theorem zf_lsub {x y : Int64} (hq : pc + 1 = q) (hd : decode Y.2.1 pc = .ok (.lsub, 1)) (k : zF G Y d q lv (.long (x - y) :: st) σ r9 σ9) : zF G Y d pc lv (.long y :: .long x :: st) σ r9 σ9 := by
  intro p e s m args below meth c C H locs ls hP hS hl
  subst hq
  exact lv_lsub C.1 C.2.1 hd (k p e s m args below meth c C H locs ls hP hS hl)
theorem zf_lmul {x y : Int64} (hq : pc + 1 = q) (hd : decode Y.2.1 pc = .ok (.lmul, 1)) (k : zF G Y d q lv (.long (x * y) :: st) σ r9 σ9) : zF G Y d pc lv (.long y :: .long x :: st) σ r9 σ9 := by
  intro p e s m args below meth c C H locs ls hP hS hl
  subst hq
  exact lv_lmul C.1 C.2.1 hd (k p e s m args below meth c C H locs ls hP hS hl)
theorem zf_land {x y : Int64} (hq : pc + 1 = q) (hd : decode Y.2.1 pc = .ok (.land, 1)) (k : zF G Y d q lv (.long (x &&& y) :: st) σ r9 σ9) : zF G Y d pc lv (.long y :: .long x :: st) σ r9 σ9 := by
  intro p e s m args below meth c C H locs ls hP hS hl
  subst hq
  exact lv_land C.1 C.2.1 hd (k p e s m args below meth c C H locs ls hP hS hl)
theorem zf_lor {x y : Int64} (hq : pc + 1 = q) (hd : decode Y.2.1 pc = .ok (.lor, 1)) (k : zF G Y d q lv (.long (x ||| y) :: st) σ r9 σ9) : zF G Y d pc lv (.long y :: .long x :: st) σ r9 σ9 := by
  intro p e s m args below meth c C H locs ls hP hS hl
  subst hq
  exact lv_lor C.1 C.2.1 hd (k p e s m args below meth c C H locs ls hP hS hl)
theorem zf_lxor {x y : Int64} (hq : pc + 1 = q) (hd : decode Y.2.1 pc = .ok (.lxor, 1)) (k : zF G Y d q lv (.long (x ^^^ y) :: st) σ r9 σ9) : zF G Y d pc lv (.long y :: .long x :: st) σ r9 σ9 := by
  intro p e s m args below meth c C H locs ls hP hS hl
  subst hq
  exact lv_lxor C.1 C.2.1 hd (k p e s m args below meth c C H locs ls hP hS hl)
theorem zf_iushr {x y : Int32} (hq : pc + 1 = q) (hd : decode Y.2.1 pc = .ok (.iushr, 1)) (k : zF G Y d q lv (.int (zsrl x y) :: st) σ r9 σ9) : zF G Y d pc lv (.int y :: .int x :: st) σ r9 σ9 := by
  intro p e s m args below meth c C H locs ls hP hS hl
  subst hq
  exact lv_iushr C.1 C.2.1 hd rfl (k p e s m args below meth c C H locs ls hP hS hl)
theorem zf_lushr {x : Int64} {y : Int32} (hq : pc + 1 = q) (hd : decode Y.2.1 pc = .ok (.lushr, 1)) (k : zF G Y d q lv (.long (zsrlJ x y) :: st) σ r9 σ9) : zF G Y d pc lv (.int y :: .long x :: st) σ r9 σ9 := by
  intro p e s m args below meth c C H locs ls hP hS hl
  subst hq
  exact lv_lushr C.1 C.2.1 hd rfl (k p e s m args below meth c C H locs ls hP hS hl)
theorem zf_lshl {x : Int64} {y : Int32} (hq : pc + 1 = q) (hd : decode Y.2.1 pc = .ok (.lshl, 1)) (k : zF G Y d q lv (.long (zshlJ x y) :: st) σ r9 σ9) : zF G Y d pc lv (.int y :: .long x :: st) σ r9 σ9 := by
  intro p e s m args below meth c C H locs ls hP hS hl
  subst hq
  exact lv_lshl C.1 C.2.1 hd rfl (k p e s m args below meth c C H locs ls hP hS hl)
theorem zf_lcmp {x y : Int64} (hq : pc + 1 = q) (hd : decode Y.2.1 pc = .ok (.lcmp, 1)) (k : zF G Y d q lv (.int (lg_cmp x y) :: st) σ r9 σ9) : zF G Y d pc lv (.long y :: .long x :: st) σ r9 σ9 := by
  intro p e s m args below meth c C H locs ls hP hS hl
  subst hq
  exact W.lcmp C.1 C.2.1 hd (k p e s m args below meth c C H locs ls hP hS hl)
theorem zf_i2l {x : Int32} (hq : pc + 1 = q) (hd : decode Y.2.1 pc = .ok (.i2l, 1)) (k : zF G Y d q lv (.long x.toInt64 :: st) σ r9 σ9) : zF G Y d pc lv (.int x :: st) σ r9 σ9 := by
  intro p e s m args below meth c C H locs ls hP hS hl
  subst hq
  exact lv_i2l C.1 C.2.1 hd rfl (k p e s m args below meth c C H locs ls hP hS hl)
theorem zf_l2i {x : Int64} (hq : pc + 1 = q) (hd : decode Y.2.1 pc = .ok (.l2i, 1)) (k : zF G Y d q lv (.int x.toInt32 :: st) σ r9 σ9) : zF G Y d pc lv (.long x :: st) σ r9 σ9 := by
  intro p e s m args below meth c C H locs ls hP hS hl
  subst hq
  exact lv_l2i C.1 C.2.1 hd rfl (k p e s m args below meth c C H locs ls hP hS hl)
theorem zf_idiv {x y v : Int32} (hq : pc + 1 = q) (hd : decode Y.2.1 pc = .ok (.idiv, 1)) (hv : zdiv x y = some v) (k : zF G Y d q lv (.int v :: st) σ r9 σ9) : zF G Y d pc lv (.int y :: .int x :: st) σ r9 σ9 := by
  intro p e s m args below meth c C H locs ls hP hS hl
  subst hq
  unfold zdiv at hv
  split at hv
  · cases hv
  · rename_i hne
    cases hv
    exact lv_idiv C.1 C.2.1 hd hne (k p e s m args below meth c C H locs ls hP hS hl)
theorem zf_irem {x y v : Int32} (hq : pc + 1 = q) (hd : decode Y.2.1 pc = .ok (.irem, 1)) (hv : zrem x y = some v) (k : zF G Y d q lv (.int v :: st) σ r9 σ9) : zF G Y d pc lv (.int y :: .int x :: st) σ r9 σ9 := by
  intro p e s m args below meth c C H locs ls hP hS hl
  subst hq
  unfold zrem at hv
  split at hv
  · cases hv
  · rename_i hne
    cases hv
    exact lv_irem C.1 C.2.1 hd hne (k p e s m args below meth c C H locs ls hP hS hl)
theorem zf_dup {v : Value} (hq : pc + 1 = q) (hd : decode Y.2.1 pc = .ok (.dup, 1)) (hv : v.category = 1) (k : zF G Y d q lv (v :: v :: st) σ r9 σ9) : zF G Y d pc lv (v :: st) σ r9 σ9 := by
  intro p e s m args below meth c C H locs ls hP hS hl
  subst hq
  exact lv_dup C.1 C.2.1 hd hv (k p e s m args below meth c C H locs ls hP hS hl)
theorem zf_pop {v : Value} (hq : pc + 1 = q) (hd : decode Y.2.1 pc = .ok (.pop, 1)) (hv : v.category = 1) (k : zF G Y d q lv (st) σ r9 σ9) : zF G Y d pc lv (v :: st) σ r9 σ9 := by
  intro p e s m args below meth c C H locs ls hP hS hl
  subst hq
  exact lv_pop C.1 C.2.1 hd hv (k p e s m args below meth c C H locs ls hP hS hl)
theorem zf_dup_x1 {v u : Value} (hq : pc + 1 = q) (hd : decode Y.2.1 pc = .ok (.dup_x1, 1)) (hv : v.category = 1) (hu : u.category = 1) (k : zF G Y d q lv (v :: u :: v :: st) σ r9 σ9) : zF G Y d pc lv (v :: u :: st) σ r9 σ9 := by
  intro p e s m args below meth c C H locs ls hP hS hl
  subst hq
  exact lv_dup_x1 C.1 C.2.1 hd hv hu (k p e s m args below meth c C H locs ls hP hS hl)
theorem zf_dup_x2 {v u t : Value} (hq : pc + 1 = q) (hd : decode Y.2.1 pc = .ok (.dup_x2, 1)) (hv : v.category = 1) (hu : u.category = 1) (ht : t.category = 1) (k : zF G Y d q lv (v :: u :: t :: v :: st) σ r9 σ9) : zF G Y d pc lv (v :: u :: t :: st) σ r9 σ9 := by
  intro p e s m args below meth c C H locs ls hP hS hl
  subst hq
  exact lv_dup_x2 C.1 C.2.1 hd hv hu ht (k p e s m args below meth c C H locs ls hP hS hl)
theorem zf_dup2 {v u : Value} (hq : pc + 1 = q) (hd : decode Y.2.1 pc = .ok (.dup2, 1)) (hv : v.category = 1) (hu : u.category = 1) (k : zF G Y d q lv (v :: u :: v :: u :: st) σ r9 σ9) : zF G Y d pc lv (v :: u :: st) σ r9 σ9 := by
  intro p e s m args below meth c C H locs ls hP hS hl
  subst hq
  exact lv_dup2_11 C.1 C.2.1 hd hv hu (k p e s m args below meth c C H locs ls hP hS hl)
theorem zf_if_eq {x : Int32} {off : Int} {tgt : Nat} (hq : pc + 3 = q) (ht : (pc : Int) + off = (tgt : Int)) (hd : decode Y.2.1 pc = .ok (.ifCond .eq off, 3)) (kt : x = 0 → zF G Y d tgt lv st σ r9 σ9) (kf : ¬ x = 0 → zF G Y d q lv st σ r9 σ9) : zF G Y d pc lv (.int x :: st) σ r9 σ9 := by
  intro p e s m args below meth c C H locs ls hP hS hl
  subst hq
  exact lv_if_eq C.1 C.2.1 hd ht (fun h => kt h p e s m args below meth c C H locs ls hP hS hl) (fun h => kf h p e s m args below meth c C H locs ls hP hS hl)
theorem zf_icmp_eq {x y : Int32} {off : Int} {tgt : Nat} (hq : pc + 3 = q) (ht : (pc : Int) + off = (tgt : Int)) (hd : decode Y.2.1 pc = .ok (.if_icmp .eq off, 3)) (kt : x = y → zF G Y d tgt lv st σ r9 σ9) (kf : ¬ x = y → zF G Y d q lv st σ r9 σ9) : zF G Y d pc lv (.int y :: .int x :: st) σ r9 σ9 := by
  intro p e s m args below meth c C H locs ls hP hS hl
  subst hq
  exact lv_icmp_eq C.1 C.2.1 hd ht (fun h => kt h p e s m args below meth c C H locs ls hP hS hl) (fun h => kf h p e s m args below meth c C H locs ls hP hS hl)
theorem zf_if_ne {x : Int32} {off : Int} {tgt : Nat} (hq : pc + 3 = q) (ht : (pc : Int) + off = (tgt : Int)) (hd : decode Y.2.1 pc = .ok (.ifCond .ne off, 3)) (kt : ¬ x = 0 → zF G Y d tgt lv st σ r9 σ9) (kf : x = 0 → zF G Y d q lv st σ r9 σ9) : zF G Y d pc lv (.int x :: st) σ r9 σ9 := by
  intro p e s m args below meth c C H locs ls hP hS hl
  subst hq
  exact lv_if_ne C.1 C.2.1 hd ht (fun h => kt h p e s m args below meth c C H locs ls hP hS hl) (fun h => kf h p e s m args below meth c C H locs ls hP hS hl)
theorem zf_icmp_ne {x y : Int32} {off : Int} {tgt : Nat} (hq : pc + 3 = q) (ht : (pc : Int) + off = (tgt : Int)) (hd : decode Y.2.1 pc = .ok (.if_icmp .ne off, 3)) (kt : ¬ x = y → zF G Y d tgt lv st σ r9 σ9) (kf : x = y → zF G Y d q lv st σ r9 σ9) : zF G Y d pc lv (.int y :: .int x :: st) σ r9 σ9 := by
  intro p e s m args below meth c C H locs ls hP hS hl
  subst hq
  exact lv_icmp_ne C.1 C.2.1 hd ht (fun h => kt h p e s m args below meth c C H locs ls hP hS hl) (fun h => kf h p e s m args below meth c C H locs ls hP hS hl)
theorem zf_if_lt {x : Int32} {off : Int} {tgt : Nat} (hq : pc + 3 = q) (ht : (pc : Int) + off = (tgt : Int)) (hd : decode Y.2.1 pc = .ok (.ifCond .lt off, 3)) (kt : x < 0 → zF G Y d tgt lv st σ r9 σ9) (kf : ¬ x < 0 → zF G Y d q lv st σ r9 σ9) : zF G Y d pc lv (.int x :: st) σ r9 σ9 := by
  intro p e s m args below meth c C H locs ls hP hS hl
  subst hq
  exact lv_if_lt C.1 C.2.1 hd ht (fun h => kt h p e s m args below meth c C H locs ls hP hS hl) (fun h => kf h p e s m args below meth c C H locs ls hP hS hl)
theorem zf_icmp_lt {x y : Int32} {off : Int} {tgt : Nat} (hq : pc + 3 = q) (ht : (pc : Int) + off = (tgt : Int)) (hd : decode Y.2.1 pc = .ok (.if_icmp .lt off, 3)) (kt : x < y → zF G Y d tgt lv st σ r9 σ9) (kf : ¬ x < y → zF G Y d q lv st σ r9 σ9) : zF G Y d pc lv (.int y :: .int x :: st) σ r9 σ9 := by
  intro p e s m args below meth c C H locs ls hP hS hl
  subst hq
  exact lv_icmp_lt C.1 C.2.1 hd ht (fun h => kt h p e s m args below meth c C H locs ls hP hS hl) (fun h => kf h p e s m args below meth c C H locs ls hP hS hl)
theorem zf_if_ge {x : Int32} {off : Int} {tgt : Nat} (hq : pc + 3 = q) (ht : (pc : Int) + off = (tgt : Int)) (hd : decode Y.2.1 pc = .ok (.ifCond .ge off, 3)) (kt : 0 ≤ x → zF G Y d tgt lv st σ r9 σ9) (kf : ¬ 0 ≤ x → zF G Y d q lv st σ r9 σ9) : zF G Y d pc lv (.int x :: st) σ r9 σ9 := by
  intro p e s m args below meth c C H locs ls hP hS hl
  subst hq
  exact lv_if_ge C.1 C.2.1 hd ht (fun h => kt h p e s m args below meth c C H locs ls hP hS hl) (fun h => kf h p e s m args below meth c C H locs ls hP hS hl)
theorem zf_icmp_ge {x y : Int32} {off : Int} {tgt : Nat} (hq : pc + 3 = q) (ht : (pc : Int) + off = (tgt : Int)) (hd : decode Y.2.1 pc = .ok (.if_icmp .ge off, 3)) (kt : y ≤ x → zF G Y d tgt lv st σ r9 σ9) (kf : ¬ y ≤ x → zF G Y d q lv st σ r9 σ9) : zF G Y d pc lv (.int y :: .int x :: st) σ r9 σ9 := by
  intro p e s m args below meth c C H locs ls hP hS hl
  subst hq
  exact lv_icmp_ge C.1 C.2.1 hd ht (fun h => kt h p e s m args below meth c C H locs ls hP hS hl) (fun h => kf h p e s m args below meth c C H locs ls hP hS hl)
theorem zf_if_gt {x : Int32} {off : Int} {tgt : Nat} (hq : pc + 3 = q) (ht : (pc : Int) + off = (tgt : Int)) (hd : decode Y.2.1 pc = .ok (.ifCond .gt off, 3)) (kt : 0 < x → zF G Y d tgt lv st σ r9 σ9) (kf : ¬ 0 < x → zF G Y d q lv st σ r9 σ9) : zF G Y d pc lv (.int x :: st) σ r9 σ9 := by
  intro p e s m args below meth c C H locs ls hP hS hl
  subst hq
  exact lv_if_gt C.1 C.2.1 hd ht (fun h => kt h p e s m args below meth c C H locs ls hP hS hl) (fun h => kf h p e s m args below meth c C H locs ls hP hS hl)
theorem zf_icmp_gt {x y : Int32} {off : Int} {tgt : Nat} (hq : pc + 3 = q) (ht : (pc : Int) + off = (tgt : Int)) (hd : decode Y.2.1 pc = .ok (.if_icmp .gt off, 3)) (kt : y < x → zF G Y d tgt lv st σ r9 σ9) (kf : ¬ y < x → zF G Y d q lv st σ r9 σ9) : zF G Y d pc lv (.int y :: .int x :: st) σ r9 σ9 := by
  intro p e s m args below meth c C H locs ls hP hS hl
  subst hq
  exact lv_icmp_gt C.1 C.2.1 hd ht (fun h => kt h p e s m args below meth c C H locs ls hP hS hl) (fun h => kf h p e s m args below meth c C H locs ls hP hS hl)
theorem zf_if_le {x : Int32} {off : Int} {tgt : Nat} (hq : pc + 3 = q) (ht : (pc : Int) + off = (tgt : Int)) (hd : decode Y.2.1 pc = .ok (.ifCond .le off, 3)) (kt : x ≤ 0 → zF G Y d tgt lv st σ r9 σ9) (kf : ¬ x ≤ 0 → zF G Y d q lv st σ r9 σ9) : zF G Y d pc lv (.int x :: st) σ r9 σ9 := by
  intro p e s m args below meth c C H locs ls hP hS hl
  subst hq
  exact lv_if_le C.1 C.2.1 hd ht (fun h => kt h p e s m args below meth c C H locs ls hP hS hl) (fun h => kf h p e s m args below meth c C H locs ls hP hS hl)
theorem zf_icmp_le {x y : Int32} {off : Int} {tgt : Nat} (hq : pc + 3 = q) (ht : (pc : Int) + off = (tgt : Int)) (hd : decode Y.2.1 pc = .ok (.if_icmp .le off, 3)) (kt : x ≤ y → zF G Y d tgt lv st σ r9 σ9) (kf : ¬ x ≤ y → zF G Y d q lv st σ r9 σ9) : zF G Y d pc lv (.int y :: .int x :: st) σ r9 σ9 := by
  intro p e s m args below meth c C H locs ls hP hS hl
  subst hq
  exact lv_icmp_le C.1 C.2.1 hd ht (fun h => kt h p e s m args below meth c C H locs ls hP hS hl) (fun h => kf h p e s m args below meth c C H locs ls hP hS hl)
theorem zf_goto {off : Int} {tgt : Nat} (ht : (pc : Int) + off = (tgt : Int)) (hd : decode Y.2.1 pc = .ok (.goto off, 3)) (k : zF G Y d tgt lv st σ r9 σ9) : zF G Y d pc lv st σ r9 σ9 := by
  intro p e s m args below meth c C H locs ls hP hS hl
  exact lv_goto C.1 C.2.1 hd ht (k p e s m args below meth c C H locs ls hP hS hl)
theorem zf_lookup {dflt : Int} {ps : Array (Int × Int)} {len : Nat} {x : Int32} {off : Int} {tgt : Nat} (hd : decode Y.2.1 pc = .ok (.lookupswitch dflt ps, len)) (hp : (ps.toList.zip (ps.toList.drop 1)).all (fun (a, next) => a.1 < next.1) = true) (ho : Op.lookupswitch.offset ps.toList dflt x.toInt = off) (ht : (pc : Int) + off = (tgt : Int)) (k : zF G Y d tgt lv st σ r9 σ9) : zF G Y d pc lv (.int x :: st) σ r9 σ9 := by
  intro p e s m args below meth c C H locs ls hP hS hl
  exact lv_lookup C.1 C.2.1 hd hp ho ht (k p e s m args below meth c C H locs ls hP hS hl)
theorem zf_tableOut {dflt lo hi : Int} {offs : Array Int} {len : Nat} {x : Int32} {tgt : Nat} (hd : decode Y.2.1 pc = .ok (.tableswitch dflt lo hi offs, len)) (h : x.toInt < lo ∨ hi < x.toInt) (ht : (pc : Int) + dflt = (tgt : Int)) (k : zF G Y d tgt lv st σ r9 σ9) : zF G Y d pc lv (.int x :: st) σ r9 σ9 := by
  intro p e s m args below meth c C H locs ls hP hS hl
  exact lv_tableOut C.1 C.2.1 hd h ht (k p e s m args below meth c C H locs ls hP hS hl)
theorem zf_tableIn {dflt lo hi : Int} {offs : Array Int} {len : Nat} {x : Int32} {off : Int} {tgt : Nat} (hd : decode Y.2.1 pc = .ok (.tableswitch dflt lo hi offs, len)) (h1 : ¬ x.toInt < lo) (h2 : ¬ hi < x.toInt) (ho : offs[(x.toInt - lo).toNat]? = some off) (ht : (pc : Int) + off = (tgt : Int)) (k : zF G Y d tgt lv st σ r9 σ9) : zF G Y d pc lv (.int x :: st) σ r9 σ9 := by
  intro p e s m args below meth c C H locs ls hP hS hl
  exact lv_tableIn C.1 C.2.1 hd h1 h2 ho ht (k p e s m args below meth c C H locs ls hP hS hl)
theorem zf_get {a idx ci i : Nat} {ks : List (Option (Option Nat))} {t : Option (Option Nat)} {v : Value} (hq : pc + 3 = q) (hd : decode Y.2.1 pc = .ok (.getfield idx, 3)) (lk : zLk Y.1.cls idx ci i) (hs : (zSH G)[a]? = some (.inl (ci, ks))) (hi : ks[i]? = some t) (hv : zval G σ a i t = v) (k : zF G Y d q lv (v :: st) σ r9 σ9) : zF G Y d pc lv (.ref (zad G a) :: st) σ r9 σ9 := by
  intro p e s m args below meth c C H locs ls hP hS hl
  subst hq
  subst hv
  obtain ⟨qc, h1, h2, h3⟩ := lk
  have hz := zcls_all qc (List.mem_of_getElem? h1)
  exact va_get (D := G.2.1) (C := qc.1) (T := qc.2.1) (N := qc.2.2) C.1 C.2.1 C.2.2.2.2.2.1 hz.1 C.2.2.2.2.1 C.2.2.2.2.2.2.2.1 hP a (zws_at hs) h1 i h2 (C.2.2.2.2.2.1 _ h3) (fun _ h => h) (zobj_get hi) hd (k p e s m args below meth c C H locs ls hP hS hl)
theorem zf_getI {a idx ci i : Nat} {ks : List (Option (Option Nat))} (hq : pc + 3 = q) (hd : decode Y.2.1 pc = .ok (.getfield idx, 3)) (lk : zLk Y.1.cls idx ci i) (hs : (zSH G)[a]? = some (.inl (ci, ks))) (hi : ks[i]? = some none) (k : zF G Y d q lv (.int (σ.1 a i) :: st) σ r9 σ9) : zF G Y d pc lv (.ref (zad G a) :: st) σ r9 σ9 := zf_get hq hd lk hs hi rfl k
theorem zf_getJ {a idx ci i : Nat} {ks : List (Option (Option Nat))} (hq : pc + 3 = q) (hd : decode Y.2.1 pc = .ok (.getfield idx, 3)) (lk : zLk Y.1.cls idx ci i) (hs : (zSH G)[a]? = some (.inl (ci, ks))) (hi : ks[i]? = some (some none)) (k : zF G Y d q lv (.long (σ.2 a i) :: st) σ r9 σ9) : zF G Y d pc lv (.ref (zad G a) :: st) σ r9 σ9 := zf_get hq hd lk hs hi rfl k
theorem zf_getR {a idx ci i b : Nat} {ks : List (Option (Option Nat))} (hq : pc + 3 = q) (hd : decode Y.2.1 pc = .ok (.getfield idx, 3)) (lk : zLk Y.1.cls idx ci i) (hs : (zSH G)[a]? = some (.inl (ci, ks))) (hi : ks[i]? = some (some (some b))) (k : zF G Y d q lv (.ref (zad G b) :: st) σ r9 σ9) : zF G Y d pc lv (.ref (zad G a) :: st) σ r9 σ9 := zf_get hq hd lk hs hi rfl k
theorem zf_put {a idx ci i : Nat} {ks : List (Option (Option Nat))} {v : Value} {ty : FieldType} (hq : pc + 3 = q) (hd : decode Y.2.1 pc = .ok (.putfield idx, 3)) (lk : zLp Y.1.cls idx ci i ty) (hs : (zSH G)[a]? = some (.inl (ci, ks))) (hi : i < ks.length) (hn : narrow ty v = v) (hf : fits ty v = true) (h1 : ∀ j, j ≠ a → σ1.1 j = σ.1 j) (h2 : ∀ j, j ≠ a → σ1.2 j = σ.2 j) (hc : zcell G σ1 a (.inl (ci, ks)) = .inr (ci, (ks.mapIdx (fun i t => zval G σ a i t)).set i v)) (k : zF G Y d q lv st σ1 r9 σ9) : zF G Y d pc lv (v :: .ref (zad G a) :: st) σ r9 σ9 := by
  intro p e s m args below meth c C H locs ls hP hS hl
  subst hq
  obtain ⟨qc, g1, g2, g3, g4, g5⟩ := lk
  obtain ⟨z1, ⟨ty0, z2⟩, z3⟩ := zcls_all qc (List.mem_of_getElem? g1)
  refine va_put (D := G.2.1) (C := qc.1) (T := qc.2.1) (N := qc.2.2) C.1 C.2.1 C.2.2.2.2.2.1 z1 ty0 z2 z3 C.2.2.2.2.1 C.2.2.2.2.2.2.2.1 hP (zD σ C.2.2.2.2.2.2.2.2.1) hS a (zws_at hs) g1 i g2 (C.2.2.2.2.2.1 _ g3) (fun _ h => h) g4 g5 hn hf (by simpa using hi) hd (fun H1 locs1 hP1 hD1 hS1 => ?_)
  rw [zws_set hs h1 h2 hc] at hP1
  exact k p e s m args below meth c C H1 locs1 ls hP1 hS1 hl
theorem zf_putI {a idx ci i : Nat} {ks : List (Option (Option Nat))} {x : Int32} (hq : pc + 3 = q) (hd : decode Y.2.1 pc = .ok (.putfield idx, 3)) (lk : zLp Y.1.cls idx ci i .int) (hs : (zSH G)[a]? = some (.inl (ci, ks))) (hi : ks[i]? = some none) (hσ : zpI σ a i x = some σ1) (k : zF G Y d q lv st σ1 r9 σ9) : zF G Y d pc lv (.int x :: .ref (zad G a) :: st) σ r9 σ9 := by
  cases hσ
  exact zf_put (σ1 := zuI σ a i x) hq hd lk hs (List.getElem?_eq_some_iff.mp hi).1 rfl rfl (fun j hj => by simp [zuI, hj]) (fun j hj => rfl) (zobj_setI hi x) k
theorem znz {x : Int32} (h : x = 0 ∨ x = 1) : narrow .boolean (.int x) = .int x ∧ fits .boolean (.int x) = true ∧ vp_nar .boolean x = x := by
  rcases h with h | h <;> subst h <;> exact ⟨rfl, rfl, rfl⟩
theorem zf_putZ {a idx ci i : Nat} {ks : List (Option (Option Nat))} {x : Int32} (hq : pc + 3 = q) (hd : decode Y.2.1 pc = .ok (.putfield idx, 3)) (lk : zLp Y.1.cls idx ci i .boolean) (hs : (zSH G)[a]? = some (.inl (ci, ks))) (hi : ks[i]? = some none) (hσ : zpZ σ a i x = some σ1) (k : zF G Y d q lv st σ1 r9 σ9) : zF G Y d pc lv (.int x :: .ref (zad G a) :: st) σ r9 σ9 := by
  unfold zpZ at hσ
  split at hσ
  · rename_i h
    cases hσ
    exact zf_put (σ1 := zuI σ a i x) hq hd lk hs (List.getElem?_eq_some_iff.mp hi).1 (znz h).1 (znz h).2.1 (fun j hj => by simp [zuI, hj]) (fun j hj => rfl) (zobj_setI hi x) k
  · cases hσ
theorem zf_putJ {a idx ci i : Nat} {ks : List (Option (Option Nat))} {x : Int64} (hq : pc + 3 = q) (hd : decode Y.2.1 pc = .ok (.putfield idx, 3)) (lk : zLp Y.1.cls idx ci i .long) (hs : (zSH G)[a]? = some (.inl (ci, ks))) (hi : ks[i]? = some (some none)) (hσ : zpJ σ a i x = some σ1) (k : zF G Y d q lv st σ1 r9 σ9) : zF G Y d pc lv (.long x :: .ref (zad G a) :: st) σ r9 σ9 := by
  cases hσ
  exact zf_put (σ1 := zuJ σ a i x) hq hd lk hs (List.getElem?_eq_some_iff.mp hi).1 rfl rfl (fun j hj => rfl) (fun j hj => by simp [zuJ, hj]) (zobj_setJ hi x) k
/-! arrays -/
theorem zf_iald {a n : Nat} {i v : Int32} (hq : pc + 1 = q) (hd : decode Y.2.1 pc = .ok (.iaload, 1)) (hs : (zSH G)[a]? = some (.inr (.inl (0, n)))) (hv : zald σ a n i = some v) (k : zF G Y d q lv (.int v :: st) σ r9 σ9) : zF G Y d pc lv (.int i :: .ref (zad G a) :: st) σ r9 σ9 := by
  intro p e s m args below meth c C H locs ls hP hS hl
  subst hq
  unfold zald at hv
  split at hv
  · cases hv
  · rename_i hin
    cases hv
    exact va_iald C.1 C.2.1 C.2.2.2.2.2.2.2.1 hP a 0 (zws_at hs) rfl hin hd (k p e s m args below meth c C H locs ls hP hS hl)
theorem zf_zald {a n : Nat} {i v : Int32} (hq : pc + 1 = q) (hd : decode Y.2.1 pc = .ok (.baload, 1)) (hs : (zSH G)[a]? = some (.inr (.inl (1, n)))) (hv : zald σ a n i = some v) (k : zF G Y d q lv (.int v :: st) σ r9 σ9) : zF G Y d pc lv (.int i :: .ref (zad G a) :: st) σ r9 σ9 := by
  intro p e s m args below meth c C H locs ls hP hS hl
  subst hq
  unfold zald at hv
  split at hv
  · cases hv
  · rename_i hin
    cases hv
    exact va_zald C.1 C.2.1 C.2.2.2.2.2.2.2.1 hP a 1 (zws_at hs) rfl hin hd (k p e s m args below meth c C H locs ls hP hS hl)
theorem zf_lald {a n : Nat} {i : Int32} {v : Int64} (hq : pc + 1 = q) (hd : decode Y.2.1 pc = .ok (.laload, 1)) (hs : (zSH G)[a]? = some (.inr (.inl (2, n)))) (hv : zalJ σ a n i = some v) (k : zF G Y d q lv (.long v :: st) σ r9 σ9) : zF G Y d pc lv (.int i :: .ref (zad G a) :: st) σ r9 σ9 := by
  intro p e s m args below meth c C H locs ls hP hS hl
  subst hq
  unfold zalJ at hv
  split at hv
  · cases hv
  · rename_i hin
    cases hv
    exact va_lald C.1 C.2.1 C.2.2.2.2.2.2.2.1 hP a 2 (zws_at hs) rfl hin hd (k p e s m args below meth c C H locs ls hP hS hl)
theorem zf_tald {i v : Int32} (hn : 60 ≤ (zSH G).length) (hq : pc + 1 = q) (hd : decode Y.2.1 pc = .ok (.iaload, 1)) (hv : zalT i = some v) (k : zF G Y d q lv (.int v :: st) σ r9 σ9) : zF G Y d pc lv (.int i :: .ref (zth G) :: st) σ r9 σ9 := by
  intro p e s m args below meth c C H locs ls hP hS hl
  subst hq
  unfold zalT at hv
  split at hv
  · cases hv
  · rename_i hin
    cases hv
    exact va_ti C.1 C.2.1 (C.2.2.2.2.2.2.2.2.2 hn).2 hS hin rfl hd (k p e s m args below meth c C H locs ls hP hS hl)
theorem zf_gets {idx : Nat} (hn : 60 ≤ (zSH G).length) (hq : pc + 3 = q) (hd : decode Y.2.1 pc = .ok (.getstatic idx, 3)) (lk : Cond.fieldLink Y.1.cls idx "NearCopies$Flow" "THINGS" "[I" ∈ ztb) (k : zF G Y d q lv (.ref (zth G) :: st) σ r9 σ9) : zF G Y d pc lv st σ r9 σ9 := by
  intro p e s m args below meth c C H locs ls hP hS hl
  subst hq
  exact va_gets C.1 C.2.1 (C.2.2.2.2.2.2.2.2.2 hn).1 hS C.2.2.2.2.1 (C.2.2.2.2.2.1 _ lk) (fun _ h => h) hd (k p e s m args below meth c C H locs ls hP hS hl)
theorem zf_aald {a b : Nat} {ns : List Nat} {i : Int32} (hq : pc + 1 = q) (hd : decode Y.2.1 pc = .ok (.aaload, 1)) (hs : (zSH G)[a]? = some (.inr (.inr ns))) (hv : zalR ns i = some b) (k : zF G Y d q lv (.ref (zad G b) :: st) σ r9 σ9) : zF G Y d pc lv (.int i :: .ref (zad G a) :: st) σ r9 σ9 := by
  intro p e s m args below meth c C H locs ls hP hS hl
  subst hq
  unfold zalR at hv
  split at hv
  · cases hv
  · rename_i hin
    have hlt := (List.getElem?_eq_some_iff.mp hv).1
    refine va_aldq C.1 C.2.1 C.2.2.2.2.2.2.2.1 hP a 3 (zws_at hs) rfl (fun h => ?_) hd ?_
    · rcases h with h | h
      · exact hin h
      · exact absurd hlt (Nat.not_lt.mpr h)
    · rw [hv]
      exact k p e s m args below meth c C H locs ls hP hS hl
theorem zf_alen {a n t : Nat} {v : Int32} (hq : pc + 1 = q) (hd : decode Y.2.1 pc = .ok (.arraylength, 1)) (hs : (zSH G)[a]? = some (.inr (.inl (t, n)))) (ht : t < 3) (hv : Int32.ofNat n = v) (k : zF G Y d q lv (.int v :: st) σ r9 σ9) : zF G Y d pc lv (.ref (zad G a) :: st) σ r9 σ9 := by
  intro p e s m args below meth c C H locs ls hP hS hl
  subst hq
  rcases (show t = 0 ∨ t = 1 ∨ t = 2 by omega) with rfl | rfl | rfl
  · exact va_alen C.1 C.2.1 C.2.2.2.2.2.2.2.1 hP a 0 (zws_at hs) rfl hv hd (k p e s m args below meth c C H locs ls hP hS hl)
  · exact va_alen C.1 C.2.1 C.2.2.2.2.2.2.2.1 hP a 1 (zws_at hs) rfl hv hd (k p e s m args below meth c C H locs ls hP hS hl)
  · exact va_alen C.1 C.2.1 C.2.2.2.2.2.2.2.1 hP a 2 (zws_at hs) rfl hv hd (k p e s m args below meth c C H locs ls hP hS hl)
theorem zf_iast {a n : Nat} {i x : Int32} (hq : pc + 1 = q) (hd : decode Y.2.1 pc = .ok (.iastore, 1)) (hs : (zSH G)[a]? = some (.inr (.inl (0, n)))) (hσ : zast σ a n i x = some σ1) (k : zF G Y d q lv st σ1 r9 σ9) : zF G Y d pc lv (.int x :: .int i :: .ref (zad G a) :: st) σ r9 σ9 := by
  intro p e s m args below meth c C H locs ls hP hS hl
  subst hq
  unfold zast at hσ
  split at hσ
  · cases hσ
  · rename_i hin
    cases hσ
    refine va_iast C.1 C.2.1 C.2.2.2.2.2.2.2.1 hP (zD σ C.2.2.2.2.2.2.2.2.1) hS a 0 (zws_at hs) rfl hin hd (fun H1 locs1 hP1 hD1 hS1 => ?_)
    have hw := zws_set (σ := σ) (σ1 := zuI σ a i.toNatClampNeg x) hs (fun j hj => by simp [zuI, hj]) (fun j hj => rfl) (c := .inl (zcA G 0, n, .inl (upd (σ.1 a) i.toNatClampNeg x))) (by simp [zcell, zuI])
    exact k p e s m args below meth c C H1 locs1 ls (by rw [← hw]; exact hP1) hS1 hl
theorem zf_zast {a n : Nat} {i x : Int32} (hq : pc + 1 = q) (hd : decode Y.2.1 pc = .ok (.bastore, 1)) (hs : (zSH G)[a]? = some (.inr (.inl (1, n)))) (hσ : zasZ σ a n i x = some σ1) (k : zF G Y d q lv st σ1 r9 σ9) : zF G Y d pc lv (.int x :: .int i :: .ref (zad G a) :: st) σ r9 σ9 := by
  intro p e s m args below meth c C H locs ls hP hS hl
  subst hq
  unfold zasZ at hσ
  split at hσ
  · cases hσ
  · rename_i hin
    have hin1 := fun h => hin (Or.inl h)
    have hx : x = 0 ∨ x = 1 := Classical.byContradiction fun h => hin (Or.inr h)
    cases hσ
    refine va_zast C.1 C.2.1 C.2.2.2.2.2.2.2.1 hP (zD σ C.2.2.2.2.2.2.2.2.1) hS a 1 (zws_at hs) rfl hin1 hd (fun H1 locs1 hP1 hD1 hS1 => ?_)
    rw [(znz hx).2.2] at hP1
    have hw := zws_set (σ := σ) (σ1 := zuI σ a i.toNatClampNeg x) hs (fun j hj => by simp [zuI, hj]) (fun j hj => rfl) (c := .inl (zcA G 1, n, .inl (upd (σ.1 a) i.toNatClampNeg x))) (by simp [zcell, zuI])
    exact k p e s m args below meth c C H1 locs1 ls (by rw [← hw]; exact hP1) hS1 hl
theorem zf_last {a n : Nat} {i : Int32} {x : Int64} (hq : pc + 1 = q) (hd : decode Y.2.1 pc = .ok (.lastore, 1)) (hs : (zSH G)[a]? = some (.inr (.inl (2, n)))) (hσ : zasJ σ a n i x = some σ1) (k : zF G Y d q lv st σ1 r9 σ9) : zF G Y d pc lv (.long x :: .int i :: .ref (zad G a) :: st) σ r9 σ9 := by
  intro p e s m args below meth c C H locs ls hP hS hl
  subst hq
  unfold zasJ at hσ
  split at hσ
  · cases hσ
  · rename_i hin
    cases hσ
    refine va_last C.1 C.2.1 C.2.2.2.2.2.2.2.1 hP (zD σ C.2.2.2.2.2.2.2.2.1) hS a 2 (zws_at hs) rfl hin hd (fun H1 locs1 hP1 hD1 hS1 => ?_)
    have hw := zws_set (σ := σ) (σ1 := zuJ σ a i.toNatClampNeg x) hs (fun j hj => rfl) (fun j hj => by simp [zuJ, hj]) (c := .inl (zcA G 2, n, .inr (.inl (vp_updL (σ.2 a) i.toNatClampNeg x)))) (by simp [zcell, zuJ])
    exact k p e s m args below meth c C H1 locs1 ls (by rw [← hw]; exact hP1) hS1 hl
theorem zf_copy {a b na nb idx : Nat} {sp dp n : Int32} (hq : pc + 3 = q) (hd : decode Y.2.1 pc = .ok (.invokestatic idx, 3)) (lk : Cond.methodLink Y.1.cls idx arraycopyName ∈ ztb) (l1 : Cond.native arraycopyName ∈ ztb) (l2 : Cond.static arraycopyName ∈ ztb) (l3 : Cond.initialized "java/lang/System" ∈ ztb) (ha : (zSH G)[a]? = some (.inr (.inl (0, na)))) (hb : (zSH G)[b]? = some (.inr (.inl (0, nb)))) (hσ : zcpy σ a na sp b nb dp n = some σ1) (hd1 : 1 ≤ d) (k : zF G Y d q lv [] σ1 r9 σ9) : zF G Y d pc lv [.int n, .int dp, .ref (zad G b), .int sp, .ref (zad G a)] σ r9 σ9 := by
  intro p e s m args below meth c C H locs ls hP hS hl
  subst hq
  unfold zcpy at hσ
  split at hσ
  · cases hσ
  · rename_i hin
    cases hσ
    refine va_copyi C.1 C.2.1 (by rw [C.2.2.1, hl.1]) C.2.2.2.2.1 (C.2.2.2.2.2.1 _ lk) (C.2.2.2.2.2.1 _ l1) (C.2.2.2.2.2.1 _ l2) (C.2.2.2.2.2.1 _ l3) C.2.2.2.2.2.2.2.1 hP (zD σ C.2.2.2.2.2.2.2.2.1) hS a b 0 0 (zws_at ha) (zws_at hb) rfl rfl rfl (fun h => hin (Or.inl h)) (fun h => hin (Or.inr (Or.inl h))) (fun h => hin (Or.inr (Or.inr (Or.inl h)))) (Nat.not_lt.mp fun h => hin (Or.inr (Or.inr (Or.inr (Or.inl h))))) (Nat.not_lt.mp fun h => hin (Or.inr (Or.inr (Or.inr (Or.inr h))))) (fun _ _ => rfl) hd1 ?_ hd (fun H1 locs1 hP1 hD1 hS1 => ?_)
    · show 0 + (nativeFrameWords "java/lang/System" "arraycopy" 5 + 11) ≤ 30 * d
      have : nativeFrameWords "java/lang/System" "arraycopy" 5 = 7 := by decide
      omega
    · have hw := zws_set (σ := σ) (σ1 := zuC σ b (va_cpy (σ.1 a) (σ.1 b) sp.toNatClampNeg dp.toNatClampNeg n.toNatClampNeg)) hb (fun j hj => by simp [zuC, hj]) (fun j hj => rfl) (c := .inl (zcA G 0, nb, .inl (va_cpy (σ.1 a) (σ.1 b) sp.toNatClampNeg dp.toNatClampNeg n.toNatClampNeg))) (by simp [zcell, zuC])
      exact k p e s m args below meth c C H1 locs1 ls (by rw [← hw]; exact hP1) hS1 hl
def zmax (x y : Int32) : Int32 := if x < y then y else x
def zmin (x y : Int32) : Int32 := if y < x then y else x
theorem zf_mmax {idx : Nat} {x y : Int32} (hq : pc + 3 = q) (hd : decode Y.2.1 pc = .ok (.invokestatic idx, 3)) (lk : Cond.methodLink Y.1.cls idx Lib.Math.max.name ∈ ztb) (l1 : Cond.static Lib.Math.max.name ∈ ztb) (l2 : Cond.initialized "java/lang/Math" ∈ ztb) (l3 : Cond.code Lib.Math.max.name Lib.Math.max.code 2 (some .int) ∈ ztb) (hr : (st.map fun v => v.category).sum ≤ 8) (k : zF G Y (d + 1) q lv (.int (zmax x y) :: st) σ r9 σ9) : zF G Y (d + 1) pc lv (.int y :: .int x :: st) σ r9 σ9 := by
  intro p e s m args below meth c C H locs ls hP hS hl
  subst hq
  exact va_mmax C.1 C.2.1 (by rw [C.2.2.1, hl.1]) C.2.2.2.2.1 (C.2.2.2.2.2.1 _ lk) (C.2.2.2.2.2.1 _ l1) (C.2.2.2.2.2.1 _ l2) (C.2.2.2.2.2.1 _ l3) (Nat.succ_le_succ (Nat.zero_le _)) (by show _ + 13 ≤ 30 * (d + 1); omega) (Nat.le_refl _) (Nat.le_refl _) hd (k p e s m args below meth c C H locs ls hP hS hl)
theorem zf_mmin {idx : Nat} {x y : Int32} (hq : pc + 3 = q) (hd : decode Y.2.1 pc = .ok (.invokestatic idx, 3)) (lk : Cond.methodLink Y.1.cls idx Lib.Math.min.name ∈ ztb) (l1 : Cond.static Lib.Math.min.name ∈ ztb) (l2 : Cond.initialized "java/lang/Math" ∈ ztb) (l3 : Cond.code Lib.Math.min.name Lib.Math.min.code 2 (some .int) ∈ ztb) (hr : (st.map fun v => v.category).sum ≤ 8) (k : zF G Y (d + 1) q lv (.int (zmin x y) :: st) σ r9 σ9) : zF G Y (d + 1) pc lv (.int y :: .int x :: st) σ r9 σ9 := by
  intro p e s m args below meth c C H locs ls hP hS hl
  subst hq
  exact va_mmin C.1 C.2.1 (by rw [C.2.2.1, hl.1]) C.2.2.2.2.1 (C.2.2.2.2.2.1 _ lk) (C.2.2.2.2.2.1 _ l1) (C.2.2.2.2.2.1 _ l2) (C.2.2.2.2.2.1 _ l3) (Nat.succ_le_succ (Nat.zero_le _)) (by show _ + 13 ≤ 30 * (d + 1); omega) (Nat.le_refl _) (Nat.le_refl _) hd (k p e s m args below meth c C H locs ls hP hS hl)
/-! returns -/
theorem zq_of {s t : State} {H : Heap} {locs : List Loc} {args : Array Value} {r : Option Value} (hK : zK G s) (hP : va_P G.2.1 vwCl (zws G σ) H) (hS : va_S (zreg G) s.heap H locs) (ht : t.heap = H) (hW : s.WarmedH t.vm) : zQ G r σ args s (.returned r) t :=
  ⟨⟨rfl, by rw [ht]; exact hP, hK.moved hW.alike (fun a h1 h2 => by rw [ht]; exact hS.2.1 a h1 h2)⟩, hS.F ht⟩
theorem zf_ireturn {x : Int32} (hd : decode Y.2.1 pc = .ok (.ireturn, 1)) (hr : Y.2.2.2 = some .int) : zF G Y d pc lv [.int x] σ (some (.int x)) σ := by
  intro p e s m args below meth c C H locs ls hP hS hl
  have hlocks : meth.locks = false := C.2.2.2.2.2.2.1
  exact W.iret C.1 C.2.1 (by rw [C.2.2.2.1, hr]) (fun t ht hW => zq_of C.2.2.2.2.2.2.2 hP hS ht hW) hS.2.2 hd hlocks
theorem zf_zreturn {x : Int32} (hd : decode Y.2.1 pc = .ok (.ireturn, 1)) (hr : Y.2.2.2 = some .boolean) (hx : x = 0 ∨ x = 1) : zF G Y d pc lv [.int x] σ (some (.int x)) σ := by
  intro p e s m args below meth c C H locs ls hP hS hl
  have hlocks : meth.locks = false := C.2.2.2.2.2.2.1
  exact W.zret C.1 C.2.1 (by rw [C.2.2.2.1, hr]) (znz hx).1 (fun t ht hW => zq_of C.2.2.2.2.2.2.2 hP hS ht hW) hS.2.2 hd hlocks
theorem zf_lreturn {x : Int64} (hd : decode Y.2.1 pc = .ok (.lreturn, 1)) (hr : Y.2.2.2 = some .long) : zF G Y d pc lv [.long x] σ (some (.long x)) σ := by
  intro p e s m args below meth c C H locs ls hP hS hl
  have hlocks : meth.locks = false := C.2.2.2.2.2.2.1
  exact W.lret C.1 C.2.1 (by rw [C.2.2.2.1, hr]) (fun t ht hW => zq_of C.2.2.2.2.2.2.2 hP hS ht hW) hS.2.2 hd hlocks
theorem zf_return (hd : decode Y.2.1 pc = .ok (.return_, 1)) (hr : Y.2.2.2 = none) : zF G Y d pc lv [] σ none σ := by
  intro p e s m args below meth c C H locs ls hP hS hl
  have hlocks : meth.locks = false := C.2.2.2.2.2.2.1
  exact W.vret C.1 C.2.1 (by rw [C.2.2.2.1, hr]) (fun t ht hW => zq_of C.2.2.2.2.2.2.2 hP hS ht hW) hS.2.2 hd hlocks
/-! calls -/
theorem zw_call {p : Program} {l : Launch} {e : Env} {R : Room} {s : State} {m : MethodId} {args : Array Value} {below : List Frame} {meth : Method} {c : Code} {H : Heap} {locs : List Loc} {Q : State → Prop} {ls : Array Slot} {rest st0 : List Value} {a : Array Value} {rv : Option Value} (hr : va_Run p l e R s m args below meth c H locs 0 0 0 0 (F0 m pc ls st0) rest (zQ G rv σ1 a) (zreg G)) (hS : va_S (zreg G) s.heap H locs)
    (kk : ∀ (H1 : Heap) (locs1 : List Loc), va_P G.2.1 vwCl (zws G σ1) H1 → va_S (zreg G) s.heap H1 locs1 → W p l e R s m args below meth c H1 locs1 0 0 Q (F0 m (pc + 3) ls (rv.toList ++ rest))) : W p l e R s m args below meth c H locs 0 0 Q (F0 m pc ls st0) := by
  intro T hT X
  obtain ⟨v, st₀, t, T', L, h0, X', hL, e1, e2, ⟨⟨hv, hz0⟩, hz, hk⟩, st⟩ := hr T hT X
  cases hv
  rw [h0] at hz hk
  obtain ⟨t2, a1, b1⟩ := kk T'.heap (locs ++ L) (by rw [e1]; exact hz0.1)
    ⟨Nat.le_trans hS.1 (by rw [e1]; exact hz), fun q h1 h2 => by rw [e1, hk q (Nat.lt_of_lt_of_le h1 hS.1) h2]; exact hS.2.1 q h1 h2, fun q hq => by
      rcases List.mem_append.mp hq with h | h
      · exact hS.2.2 q h
      · exact hL q h⟩ T' rfl X'
  exact ⟨t2, st t2 a1, b1⟩
theorem zcb {s : State} {args : Array Value} {own : String} {idx n : Nat} {Yc : ZY} (hts : ∀ w ∈ ztb, w.before args s = true) (lk : zLc own idx Yc n) : CallB (zrm (d + 1)) s args own idx Yc.1 Yc.2.1 Yc.2.2.1 Yc.2.2.2 (Cond.code Yc.1 Yc.2.1 Yc.2.2.1 Yc.2.2.2 :: ztb) (zrm d) 0 0 n :=
  callB_of n hts (zGoodIn lk.2.2.1) rfl rfl rfl (hts _ lk.2.1) (hts _ lk.1) lk.2.2.2.1 ⟨Nat.le_refl _, by have := lk.2.2.2.2; show 8 + (Yc.2.2.1 + 11) + 30 * d ≤ 30 * (d + 1); omega⟩
theorem zf_callV {a ci idx n : Nat} {ks : List (Option (Option Nat))} {Yc : ZY} {As rest st0 st1 : List Value} {rv : Option Value} (hq : pc + 3 = q) (hd : decode Y.2.1 pc = .ok (.invokevirtual idx, 3)) (lk : zLV Y.1.cls idx Yc ci n) (hs : (zSH G)[a]? = some (.inl (ci, ks))) (hst : st0 = As.reverse ++ .ref (zad G a) :: rest) (hn : As.length = n) (hr : (rest.map fun v => v.category).sum ≤ 8) (hct : zCt G d Yc (.ref (zad G a) :: As) σ rv σ1) (h1 : rv.toList ++ rest = st1) (k : zF G Y (d + 1) q lv st1 σ1 r9 σ9) : zF G Y (d + 1) pc lv st0 σ r9 σ9 := by
  intro p e s m args below meth c C H locs ls hP hS hl
  subst hq
  subst h1
  obtain ⟨lc, l1, l2, qc, l3, l4⟩ := lk
  refine zw_call (G := G) (va_runV (C := Yc.1.cls) ⟨C.1, C.2.1, C.2.2.1, C.2.2.2.2.1, C.2.2.2.2.2.1⟩ hct ⟨zcb C.2.2.2.2.2.1 lc, C.2.2.2.2.2.1 _ l1, C.2.2.2.2.2.1 _ l2⟩ ⟨zblind G _ σ, ?_, fun U hU hW => ⟨rfl, by rw [hU]; exact hP, C.2.2.2.2.2.2.2.moved hW.alike (fun x h1 h2 => by rw [hU]; exact hS.2.1 x h1 h2)⟩⟩ rfl hn hl.1 hst (lv_room hr) hd ⟨Nat.le_refl _, Nat.le_refl _⟩) hS (fun H1 locs1 hP1 hS1 => k p e s m args below meth c C H1 locs1 ls hP1 hS1 hl)
  rw [← l4]
  exact va_recv C.2.2.2.2.2.2.2.1 hP l3 (zws_at hs)
theorem zf_callS {idx n : Nat} {Yc : ZY} {As rest st0 st1 : List Value} {rv : Option Value} (hq : pc + 3 = q) (hd : decode Y.2.1 pc = .ok (.invokestatic idx, 3)) (lk : zLS Y.1.cls idx Yc n) (hst : st0 = As.reverse ++ rest) (hn : As.length = n) (hr : (rest.map fun v => v.category).sum ≤ 8) (hct : zCt G d Yc As σ rv σ1) (h1 : rv.toList ++ rest = st1) (k : zF G Y (d + 1) q lv st1 σ1 r9 σ9) : zF G Y (d + 1) pc lv st0 σ r9 σ9 := by
  intro p e s m args below meth c C H locs ls hP hS hl
  subst hq
  subst h1
  obtain ⟨lc, l1⟩ := lk
  exact zw_call (G := G) (va_runS ⟨C.1, C.2.1, C.2.2.1, C.2.2.2.2.1, C.2.2.2.2.2.1⟩ hct ⟨zcb C.2.2.2.2.2.1 lc, C.2.2.2.2.2.1 _ l1⟩ ⟨zblind G _ σ, fun U hU hW => ⟨rfl, by rw [hU]; exact hP, C.2.2.2.2.2.2.2.moved hW.alike (fun x h1 h2 => by rw [hU]; exact hS.2.1 x h1 h2)⟩⟩ rfl hn hl.1 hst (lv_room hr) hd ⟨Nat.le_refl _, Nat.le_refl _⟩) hS (fun H1 locs1 hP1 hS1 => k p e s m args below meth c C H1 locs1 ls hP1 hS1 hl)
/-- a method's contract out of its walk -/
theorem zct_of {As : List Value} (hy : plainName Y.1.cls = true) (hlen : (lg_sl As).length ≤ Y.2.2.1) (hlv : lv_args 0 As = lv) (k : zF G Y d 0 lv [] σ r9 σ9) : zCt G d Y As σ r9 σ9 := by
  refine Met.ofW (cc := Y.2.1) (maxL := Y.2.2.1) (ret := Y.2.2.2) hy rfl ?_
  intro p e s m args below meth c s₁ B hml hv
  obtain ⟨rfl, hP, hK⟩ := hv
  have hts := atoms_spec (ws := Cond.code Y.1 Y.2.1 Y.2.2.1 Y.2.2.2 :: ztb) B.pre
  have hown : s.vm.findClass Y.1.cls = some m.cls := findClass_of_methodNamed B.named
  have hl := lv_entry As (n := Y.2.2.1) hlen
  rw [lg_entry_eq]
  rw [hlv] at hl
  generalize (lg_sl As ++ List.replicate (Y.2.2.1 - (lg_sl As).length) Slot.unset).toArray = ls at hl ⊢
  exact k p e s m As.toArray below meth c ⟨B.exec, B.bytes, hml, B.returns, hown, fun w hw => hts w (List.mem_cons_of_mem _ hw), B.notSynchronized, hK⟩ s.heap [] ls hP va_S.rf hl

end ZR
