/-! ===== constructors: a judgement for worlds that grow ===== -/
abbrev ZB : Type := Launch × va_G × (Nat → ClassId)
def ztyB (cA : Nat → ClassId) : List (ClassId × FieldType) := [(cA 0, .int), (cA 1, .boolean), (cA 2, .long), (cA 3, .object "NearCopies$Trial")]
def zNest (U : State) : Prop := va_Nw (.methodLinkNest RX8 9 yX3_init "NearCopies") U ∧ va_Nw (.methodLinkNest RX8 15 yX7_init "NearCopies") U ∧ va_Nw (.methodLinkNest RX1 11 yX7_init "NearCopies") U ∧ va_Nw (.methodLinkNest RX0 11 yX7_init "NearCopies") U ∧ va_Nw (.methodLinkNest RX6 11 yX7_init "NearCopies") U ∧ va_AO "NearCopies$Trial" U
theorem zNest.warm {s U : State} (h : zNest s) (hW : s.WarmedH U.vm) : zNest U := ⟨h.1.warmM hW, h.2.1.warmM hW, h.2.2.1.warmM hW, h.2.2.2.1.warmM hW, h.2.2.2.2.1.warmM hW, h.2.2.2.2.2.moved hW.alike⟩
theorem zNest.same {s U : State} (h : zNest s) (e : s.vm = U.vm) : zNest U := ⟨va_Nw.same rfl e h.1, va_Nw.same rfl e h.2.1, va_Nw.same rfl e h.2.2.1, va_Nw.same rfl e h.2.2.2.1, va_Nw.same rfl e h.2.2.2.2.1, va_AO.moved (by rw [e]; exact Vm.Alike.refl _) h.2.2.2.2.2⟩
def zKB (B : ZB) (U : State) : Prop := va_K B.2.1 vwCl (ztyB B.2.2) U ∧ zNest U
theorem zKB.warm {B : ZB} {s U : State} (h : zKB B s) (hW : s.WarmedH U.vm) : zKB B U := ⟨va_K.moved hW.alike h.1, h.2.warm hW⟩
def zrB (d C S : Nat) : Room := { frames := d, cells := C, slots := S, locals := 30 * d }
def zBC (B : ZB) (Y : ZY) (p : Program) (s : State) (m : MethodId) (args : Array Value) (meth : Method) (c : Code) : Prop :=
  p.tables.exec = Jvm.exec ∧ c.code = Y.2.1 ∧ c.maxLocals = Y.2.2.1 ∧ meth.sig.returnType = Y.2.2.2 ∧ s.vm.findClass Y.1.cls = some m.cls ∧ (∀ w ∈ ztb, w.before args s = true) ∧ meth.locks = false ∧ meth.name = "<init>" ∧ zKB B s
def zB (B : ZB) (Y : ZY) (R : Room) (A : Nat → Prop) (Qc : Array Value → State → Outcome → State → Prop) (mc ms pc : Nat) (lv : List (Nat × Value)) (st : List Value) (ws : va_W) (cells slots : Nat) : Prop :=
  ∀ (p : Program) (e : Env) (s : State) (m : MethodId) (args : Array Value) (below : List Frame) (meth : Method) (c : Code), zBC B Y p s m args meth c → (∀ q : Nat, s.heap.size ≤ q → A q) →
    ∀ (H : Heap) (locs : List Loc) (ls : Array Slot), va_P B.2.1 vwCl ws H → va_D A ws → va_S A s.heap H locs → lv_has ls Y.2.2.1 lv →
      W p B.1 e R s m args below meth c H locs cells slots (MQ below Qc args s mc ms A) (F0 m pc ls st)
def zQB (B : ZB) (ws0 : va_W) (sz : Nat) (post : va_W → Prop) : Array Value → State → Outcome → State → Prop := fun _ st oc t => (oc = .returned none ∧ ∃ w1 : va_W, post w1 ∧ va_P B.2.1 vwCl w1 t.heap ∧ zKB B t ∧ va_D (va_A ws0 sz) w1) ∧ va_F (va_A ws0 sz) st t
def zPB (B : ZB) (ws0 : va_W) (sz : Nat) (U : State) : Prop := U.heap.size = sz ∧ va_P B.2.1 vwCl ws0 U.heap ∧ zKB B U ∧ va_D (fun _ => True) ws0
/-- a constructor's contract: from its fresh cells ws0 it makes those of post -/
def zCB (B : ZB) (Y : ZY) (d : Nat) (As : List Value) (ws0 : va_W) (post : va_W → Prop) (mc ms : Nat) : Prop :=
  ∀ sz : Nat, Met B.1 Y.1 (Cond.code Y.1 Y.2.1 Y.2.2.1 Y.2.2.2 :: ztb) (zrB d mc ms) (va_Pc As (zPB B ws0 sz)) (zQB B ws0 sz post) mc ms (va_A ws0 sz)
section ZBR
variable {B : ZB} {Y : ZY} {R : Room} {A : Nat → Prop} {Qc : Array Value → State → Outcome → State → Prop} {mc ms pc q : Nat} {lv lv1 : List (Nat × Value)} {st : List Value} {ws ws1 : va_W} {cells slots : Nat}
theorem zb_aload_n {i : Fin 4} {j x : Nat} (n : Nat) (hq : pc + 1 = q) (hd : decode Y.2.1 pc = .ok (.aload_n i, 1)) (hi : (i : Nat) = j) (hn : lv[n]? = some (j, .ref x)) (k : zB B Y R A Qc mc ms q lv (.ref x :: st) ws cells slots) : zB B Y R A Qc mc ms pc lv st ws cells slots := by
  intro p e s m args below meth c C hA H locs ls hP hD hS hl
  subst hq
  exact lv_aload_n C.1 C.2.1 hd hi (lv_at hl n hn) (k p e s m args below meth c C hA H locs ls hP hD hS hl)
theorem zb_aload {i x : Nat} (n : Nat) (hq : pc + 2 = q) (hd : decode Y.2.1 pc = .ok (.aload i, 2)) (hn : lv[n]? = some (i, .ref x)) (k : zB B Y R A Qc mc ms q lv (.ref x :: st) ws cells slots) : zB B Y R A Qc mc ms pc lv st ws cells slots := by
  intro p e s m args below meth c C hA H locs ls hP hD hS hl
  subst hq
  exact lv_aload C.1 C.2.1 hd (lv_at hl n hn) (k p e s m args below meth c C hA H locs ls hP hD hS hl)
theorem zb_iload {i : Nat} {x : Int32} (n : Nat) (hq : pc + 2 = q) (hd : decode Y.2.1 pc = .ok (.iload i, 2)) (hn : lv[n]? = some (i, .int x)) (k : zB B Y R A Qc mc ms q lv (.int x :: st) ws cells slots) : zB B Y R A Qc mc ms pc lv st ws cells slots := by
  intro p e s m args below meth c C hA H locs ls hP hD hS hl
  subst hq
  exact lv_iload C.1 C.2.1 hd (lv_at hl n hn) (k p e s m args below meth c C hA H locs ls hP hD hS hl)
theorem zb_iconst {n : Int} {v : Int32} (hq : pc + 1 = q) (hd : decode Y.2.1 pc = .ok (.iconst n, 1)) (hv : Int32.ofInt n = v) (k : zB B Y R A Qc mc ms q lv (.int v :: st) ws cells slots) : zB B Y R A Qc mc ms pc lv st ws cells slots := by
  intro p e s m args below meth c C hA H locs ls hP hD hS hl
  subst hq
  exact lv_iconst C.1 C.2.1 hd hv (k p e s m args below meth c C hA H locs ls hP hD hS hl)
theorem zb_bipush {n : Int} {v : Int32} (hq : pc + 2 = q) (hd : decode Y.2.1 pc = .ok (.bipush n, 2)) (hv : (Int8.ofInt n).toInt32 = v) (k : zB B Y R A Qc mc ms q lv (.int v :: st) ws cells slots) : zB B Y R A Qc mc ms pc lv st ws cells slots := by
  intro p e s m args below meth c C hA H locs ls hP hD hS hl
  subst hq
  exact lv_bipush C.1 C.2.1 hd hv (k p e s m args below meth c C hA H locs ls hP hD hS hl)
theorem zb_sipush {n : Int} {v : Int32} (hq : pc + 3 = q) (hd : decode Y.2.1 pc = .ok (.sipush n, 3)) (hv : (Int16.ofInt n).toInt32 = v) (k : zB B Y R A Qc mc ms q lv (.int v :: st) ws cells slots) : zB B Y R A Qc mc ms pc lv st ws cells slots := by
  intro p e s m args below meth c C hA H locs ls hP hD hS hl
  subst hq
  exact lv_sipush C.1 C.2.1 hd hv (k p e s m args below meth c C hA H locs ls hP hD hS hl)
theorem zb_dup {v : Value} (hq : pc + 1 = q) (hd : decode Y.2.1 pc = .ok (.dup, 1)) (hv : v.category = 1) (k : zB B Y R A Qc mc ms q lv (v :: v :: st) ws cells slots) : zB B Y R A Qc mc ms pc lv (v :: st) ws cells slots := by
  intro p e s m args below meth c C hA H locs ls hP hD hS hl
  subst hq
  exact lv_dup C.1 C.2.1 hd hv (k p e s m args below meth c C hA H locs ls hP hD hS hl)
theorem zb_astore_n {j : Fin 4} {i x : Nat} (hq : pc + 1 = q) (hd : decode Y.2.1 pc = .ok (.astore_n j, 1)) (hi : (j : Nat) = i) (hn : i < Y.2.2.1) (hl1 : (i, Value.ref x) :: lv.filter (fun q => !(q.1 == i) && !(q.1 + 1 == i && q.2.category == 2)) = lv1) (k : zB B Y R A Qc mc ms q lv1 st ws cells slots) : zB B Y R A Qc mc ms pc lv (.ref x :: st) ws cells slots := by
  intro p e s m args below meth c C hA H locs ls hP hD hS hl
  subst hq
  exact lv_astore_n C.1 C.2.1 hd hi hl hn hl1 (fun ls hl => k p e s m args below meth c C hA H locs ls hP hD hS hl)
theorem zb_astore {i x : Nat} (hq : pc + 2 = q) (hd : decode Y.2.1 pc = .ok (.astore i, 2)) (hn : i < Y.2.2.1) (hl1 : (i, Value.ref x) :: lv.filter (fun q => !(q.1 == i) && !(q.1 + 1 == i && q.2.category == 2)) = lv1) (k : zB B Y R A Qc mc ms q lv1 st ws cells slots) : zB B Y R A Qc mc ms pc lv (.ref x :: st) ws cells slots := by
  intro p e s m args below meth c C hA H locs ls hP hD hS hl
  subst hq
  exact lv_astore C.1 C.2.1 hd hl hn hl1 (fun ls hl => k p e s m args below meth c C hA H locs ls hP hD hS hl)
theorem zb_istore {i : Nat} {x : Int32} (hq : pc + 2 = q) (hd : decode Y.2.1 pc = .ok (.istore i, 2)) (hn : i < Y.2.2.1) (hl1 : (i, Value.int x) :: lv.filter (fun q => !(q.1 == i) && !(q.1 + 1 == i && q.2.category == 2)) = lv1) (k : zB B Y R A Qc mc ms q lv1 st ws cells slots) : zB B Y R A Qc mc ms pc lv (.int x :: st) ws cells slots := by
  intro p e s m args below meth c C hA H locs ls hP hD hS hl
  subst hq
  exact lv_istore C.1 C.2.1 hd hl hn hl1 (fun ls hl => k p e s m args below meth c C hA H locs ls hP hD hS hl)
theorem zb_iinc {i : Nat} {n : Int} {x v : Int32} (j : Nat) (hq : pc + 3 = q) (hd : decode Y.2.1 pc = .ok (.iinc i n, 3)) (hj : lv[j]? = some (i, .int x)) (hv : x + Int32.ofInt n = v) (hn : i < Y.2.2.1) (hl1 : (i, Value.int v) :: lv.filter (fun q => !(q.1 == i) && !(q.1 + 1 == i && q.2.category == 2)) = lv1) (k : zB B Y R A Qc mc ms q lv1 st ws cells slots) : zB B Y R A Qc mc ms pc lv st ws cells slots := by
  intro p e s m args below meth c C hA H locs ls hP hD hS hl
  subst hq
  exact lv_iinc C.1 C.2.1 hd hl hj hv hn hl1 (fun ls hl => k p e s m args below meth c C hA H locs ls hP hD hS hl)
theorem zb_goto {off : Int} {tgt : Nat} (ht : (pc : Int) + off = (tgt : Int)) (hd : decode Y.2.1 pc = .ok (.goto off, 3)) (k : zB B Y R A Qc mc ms tgt lv st ws cells slots) : zB B Y R A Qc mc ms pc lv st ws cells slots := by
  intro p e s m args below meth c C hA H locs ls hP hD hS hl
  exact lv_goto C.1 C.2.1 hd ht (k p e s m args below meth c C hA H locs ls hP hD hS hl)
theorem zb_icmp_ge {x y : Int32} {off : Int} {tgt : Nat} (hq : pc + 3 = q) (ht : (pc : Int) + off = (tgt : Int)) (hd : decode Y.2.1 pc = .ok (.if_icmp .ge off, 3)) (kt : y ≤ x → zB B Y R A Qc mc ms tgt lv st ws cells slots) (kf : ¬ y ≤ x → zB B Y R A Qc mc ms q lv st ws cells slots) : zB B Y R A Qc mc ms pc lv (.int y :: .int x :: st) ws cells slots := by
  intro p e s m args below meth c C hA H locs ls hP hD hS hl
  subst hq
  exact lv_icmp_ge C.1 C.2.1 hd ht (fun h => kt h p e s m args below meth c C hA H locs ls hP hD hS hl) (fun h => kf h p e s m args below meth c C hA H locs ls hP hD hS hl)
theorem zb_world (h : ws = ws1) (k : zB B Y R A Qc mc ms pc lv st ws1 cells slots) : zB B Y R A Qc mc ms pc lv st ws cells slots := h ▸ k
theorem zb_newI {n : Int32} {N : Nat} (hq : pc + 2 = q) (hd : decode Y.2.1 pc = .ok (.newarray .int, 2)) (hw : Cond.arrayClass .int ∈ ztb) (hn : ¬ n < 0) (hN : n.toNatClampNeg = N) (hb : N * 4 ≤ 536870912) (hc : cells + 1 ≤ R.cells) (hs : slots + N ≤ R.slots) (k : ∀ a : Nat, zB B Y R A Qc mc ms q lv (.ref a :: st) (ws ++ [(a, .inl (B.2.2 0, N, .inl (fun _ => 0)))]) (cells + 1) (slots + N)) : zB B Y R A Qc mc ms pc lv (.int n :: st) ws cells slots := by
  intro p e s m args below meth c C hA H locs ls hP hD hS hl
  subst hq
  refine va_newa (ty := .int) C.1 C.2.1 (atype := .int) (C.2.2.2.2.2.1 _ hw) rfl C.2.2.2.2.2.2.2.2.1 hP hD hS hA (a0 := (N, .inl (fun _ => 0))) (fun cA => rfl) hn hN hb hc hs hd (fun a cA H1 hK1 hP1 hD1 hS1 => ?_)
  have e1 : cA = B.2.2 0 := Option.some.inj ((hK1.2 4 _ rfl).2.symm.trans (C.2.2.2.2.2.2.2.2.1.2 0 _ rfl).2)
  subst e1
  exact k a p e s m args below meth c C hA H1 locs ls hP1 hD1 hS1 hl
theorem zb_newZ {n : Int32} {N : Nat} (hq : pc + 2 = q) (hd : decode Y.2.1 pc = .ok (.newarray .boolean, 2)) (hw : Cond.arrayClass .boolean ∈ ztb) (hn : ¬ n < 0) (hN : n.toNatClampNeg = N) (hb : N * 1 ≤ 536870912) (hc : cells + 1 ≤ R.cells) (hs : slots + N ≤ R.slots) (k : ∀ a : Nat, zB B Y R A Qc mc ms q lv (.ref a :: st) (ws ++ [(a, .inl (B.2.2 1, N, .inl (fun _ => 0)))]) (cells + 1) (slots + N)) : zB B Y R A Qc mc ms pc lv (.int n :: st) ws cells slots := by
  intro p e s m args below meth c C hA H locs ls hP hD hS hl
  subst hq
  refine va_newa (ty := .boolean) C.1 C.2.1 (atype := .boolean) (C.2.2.2.2.2.1 _ hw) rfl C.2.2.2.2.2.2.2.2.1 hP hD hS hA (a0 := (N, .inl (fun _ => 0))) (fun cA => rfl) hn hN hb hc hs hd (fun a cA H1 hK1 hP1 hD1 hS1 => ?_)
  have e1 : cA = B.2.2 1 := Option.some.inj ((hK1.2 4 _ rfl).2.symm.trans (C.2.2.2.2.2.2.2.2.1.2 1 _ rfl).2)
  subst e1
  exact k a p e s m args below meth c C hA H1 locs ls hP1 hD1 hS1 hl
theorem zb_newJ {n : Int32} {N : Nat} (hq : pc + 2 = q) (hd : decode Y.2.1 pc = .ok (.newarray .long, 2)) (hw : Cond.arrayClass .long ∈ ztb) (hn : ¬ n < 0) (hN : n.toNatClampNeg = N) (hb : N * 8 ≤ 536870912) (hc : cells + 1 ≤ R.cells) (hs : slots + N ≤ R.slots) (k : ∀ a : Nat, zB B Y R A Qc mc ms q lv (.ref a :: st) (ws ++ [(a, .inl (B.2.2 2, N, .inr (.inl (fun _ => 0))))]) (cells + 1) (slots + N)) : zB B Y R A Qc mc ms pc lv (.int n :: st) ws cells slots := by
  intro p e s m args below meth c C hA H locs ls hP hD hS hl
  subst hq
  refine va_newa (ty := .long) C.1 C.2.1 (atype := .long) (C.2.2.2.2.2.1 _ hw) rfl C.2.2.2.2.2.2.2.2.1 hP hD hS hA (a0 := (N, .inr (.inl (fun _ => 0)))) (fun cA => rfl) hn hN hb hc hs hd (fun a cA H1 hK1 hP1 hD1 hS1 => ?_)
  have e1 : cA = B.2.2 2 := Option.some.inj ((hK1.2 4 _ rfl).2.symm.trans (C.2.2.2.2.2.2.2.2.1.2 2 _ rfl).2)
  subst e1
  exact k a p e s m args below meth c C hA H1 locs ls hP1 hD1 hS1 hl
theorem zb_newQ {n : Int32} {N idx : Nat} (hq : pc + 3 = q) (hd : decode Y.2.1 pc = .ok (.anewarray idx, 3)) (hw : Cond.classLink Y.1.cls idx "NearCopies$Trial" ∈ ztb) (hn : ¬ n < 0) (hN : n.toNatClampNeg = N) (hb : N * 4 ≤ 536870912) (hc : cells + 1 ≤ R.cells) (hs : slots + N ≤ R.slots) (k : ∀ a : Nat, zB B Y R A Qc mc ms q lv (.ref a :: st) (ws ++ [(a, .inl (B.2.2 3, N, .inr (.inr (.inr (.inr (fun _ => none))))))]) (cells + 1) (slots + N)) : zB B Y R A Qc mc ms pc lv (.int n :: st) ws cells slots := by
  intro p e s m args below meth c C hA H locs ls hP hD hS hl
  subst hq
  refine va_newq (C := "NearCopies$Trial") C.1 C.2.1 C.2.2.2.2.1 (C.2.2.2.2.2.1 _ hw) C.2.2.2.2.2.2.2.2.2.2.2.2.2.2 C.2.2.2.2.2.2.2.2.1 hP hD hS hA hn hN hb hc hs hd (fun a cA H1 hK1 hP1 hD1 hS1 => ?_)
  obtain ⟨kA, comp, g1, g2, g3, g4⟩ := (hK1.2 4 _ rfl).2
  obtain ⟨kB, com2, f1, f2, f3, f4⟩ := (C.2.2.2.2.2.2.2.2.1.2 3 _ rfl).2
  have e1 : cA = B.2.2 3 := Option.some.inj (g4.symm.trans f4)
  subst e1
  exact k a p e s m args below meth c C hA H1 locs ls hP1 hD1 hS1 hl
theorem zb_new {idx ci : Nat} {qc : vw_C} {fs : List Value} (hq : pc + 3 = q) (hd : decode Y.2.1 pc = .ok (.new idx, 3)) (hcl : vwCl[ci]? = some qc) (h1 : Cond.classLink Y.1.cls idx qc.1 ∈ ztb) (h2 : Cond.instantiable qc.1 qc.2.2 ∈ ztb) (h3 : Cond.initialized qc.1 ∈ ztb) (ty : Nat → FieldType) (hty : ∀ k, k < qc.2.2 → parseFieldDescriptor (qc.2.1 k).2.2.1 = some (ty k)) (hfs : ∀ j, j < qc.2.2 → defaultValue (ty j) = vp_V fs j) (hc : cells + 1 ≤ R.cells) (hs : slots + qc.2.2 ≤ R.slots) (k : ∀ a : Nat, zB B Y R A Qc mc ms q lv (.ref a :: st) (ws ++ [(a, .inr (ci, fs))]) (cells + 1) (slots + qc.2.2)) : zB B Y R A Qc mc ms pc lv st ws cells slots := by
  intro p e s m args below meth c C hA H locs ls hP hD hS hl
  subst hq
  exact va_new (C := qc.1) (T := qc.2.1) (N := qc.2.2) C.1 C.2.1 C.2.2.2.2.2.1 (zcls_all qc (List.mem_of_getElem? hcl)).1 ty hty C.2.2.2.2.1 (C.2.2.2.2.2.1 _ h1) (C.2.2.2.2.2.1 _ h2) (C.2.2.2.2.2.1 _ h3) C.2.2.2.2.2.2.2.2.1 hP hD hS hA hcl hfs hc hs hd (fun a H1 hP1 hD1 hS1 => k a p e s m args below meth c C hA H1 locs ls hP1 hD1 hS1 hl)
/-- a field of the object at place n of the world -/
def zLf (own : String) (idx ci i : Nat) (ty : FieldType) : Prop := ∃ q : vw_C, vwCl[ci]? = some q ∧ i < q.2.2 ∧ Cond.fieldLink own idx (q.2.1 i).1 (q.2.1 i).2.1 (q.2.1 i).2.2.1 ∈ ztb ∧ (q.2.1 i).2.2.2 = true ∧ (q.2.1 i).1 = own ∧ parseFieldDescriptor (q.2.1 i).2.2.1 = some ty
theorem zb_putF {idx ci i n a : Nat} {fs : List Value} {v : Value} {ty : FieldType} (hq : pc + 3 = q) (hd : decode Y.2.1 pc = .ok (.putfield idx, 3)) (lk : zLf Y.1.cls idx ci i ty) (hw : ws[n]? = some (a, .inr (ci, fs))) (hn : narrow ty v = v) (hf : fits ty v = true) (hi : i < fs.length) (h1 : ws.set n (a, .inr (ci, fs.set i v)) = ws1) (k : zB B Y R A Qc mc ms q lv st ws1 cells slots) : zB B Y R A Qc mc ms pc lv (v :: .ref a :: st) ws cells slots := by
  intro p e s m args below meth c C hA H locs ls hP hD hS hl
  subst hq
  subst h1
  obtain ⟨qc, g1, g2, g3, g4, g6, g5⟩ := lk
  obtain ⟨z1, ⟨ty0, z2⟩, z3⟩ := zcls_all qc (List.mem_of_getElem? g1)
  exact va_putF (D := B.2.1) (C := qc.1) (T := qc.2.1) (N := qc.2.2) C.1 C.2.1 C.2.2.2.2.2.1 z1 ty0 z2 z3 C.2.2.2.2.1 C.2.2.2.2.2.2.2.2.1 hP hD hS n hw g1 i g2 (C.2.2.2.2.2.1 _ g3) (fun _ h => h) g4 C.2.2.2.2.2.2.2.1 g6 g5 hn hf hi hd (fun H1 locs1 hP1 hD1 hS1 => k p e s m args below meth c C hA H1 locs1 ls hP1 hD1 hS1 hl)
theorem zb_put {idx ci i n a : Nat} {fs : List Value} {v : Value} {ty : FieldType} (hq : pc + 3 = q) (hd : decode Y.2.1 pc = .ok (.putfield idx, 3)) (lk : zLp Y.1.cls idx ci i ty) (hw : ws[n]? = some (a, .inr (ci, fs))) (hn : narrow ty v = v) (hf : fits ty v = true) (hi : i < fs.length) (h1 : ws.set n (a, .inr (ci, fs.set i v)) = ws1) (k : zB B Y R A Qc mc ms q lv st ws1 cells slots) : zB B Y R A Qc mc ms pc lv (v :: .ref a :: st) ws cells slots := by
  intro p e s m args below meth c C hA H locs ls hP hD hS hl
  subst hq
  subst h1
  obtain ⟨qc, g1, g2, g3, g4, g5⟩ := lk
  obtain ⟨z1, ⟨ty0, z2⟩, z3⟩ := zcls_all qc (List.mem_of_getElem? g1)
  exact va_put (D := B.2.1) (C := qc.1) (T := qc.2.1) (N := qc.2.2) C.1 C.2.1 C.2.2.2.2.2.1 z1 ty0 z2 z3 C.2.2.2.2.1 C.2.2.2.2.2.2.2.2.1 hP hD hS n hw g1 i g2 (C.2.2.2.2.2.1 _ g3) (fun _ h => h) g4 g5 hn hf hi hd (fun H1 locs1 hP1 hD1 hS1 => k p e s m args below meth c C hA H1 locs1 ls hP1 hD1 hS1 hl)
theorem zb_get {idx ci i n a : Nat} {fs : List Value} {v : Value} (hq : pc + 3 = q) (hd : decode Y.2.1 pc = .ok (.getfield idx, 3)) (lk : zLk Y.1.cls idx ci i) (hw : ws[n]? = some (a, .inr (ci, fs))) (hv : fs[i]? = some v) (k : zB B Y R A Qc mc ms q lv (v :: st) ws cells slots) : zB B Y R A Qc mc ms pc lv (.ref a :: st) ws cells slots := by
  intro p e s m args below meth c C hA H locs ls hP hD hS hl
  subst hq
  obtain ⟨qc, h1, h2, h3⟩ := lk
  exact va_get (D := B.2.1) (C := qc.1) (T := qc.2.1) (N := qc.2.2) C.1 C.2.1 C.2.2.2.2.2.1 (zcls_all qc (List.mem_of_getElem? h1)).1 C.2.2.2.2.1 C.2.2.2.2.2.2.2.2.1 hP n hw h1 i h2 (C.2.2.2.2.2.1 _ h3) (fun _ h => h) hv hd (k p e s m args below meth c C hA H locs ls hP hD hS hl)
theorem zb_obj {idx a : Nat} (hq : pc + 3 = q) (hd : decode Y.2.1 pc = .ok (.invokespecial idx, 3)) (h1 : Cond.methodLink Y.1.cls idx objectInit ∈ ztb) (h2 : Cond.instanceMethod objectInit ∈ ztb) (h3 : Cond.code objectInit ⟨#[0xb1]⟩ 1 none ∈ ztb) (hf : 1 ≤ R.frames) (hr : (st.map fun v => v.category).sum + 12 ≤ R.locals) (k : zB B Y R A Qc mc ms q lv st ws cells slots) : zB B Y R A Qc mc ms pc lv (.ref a :: st) ws cells slots := by
  intro p e s m args below meth c C hA H locs ls hP hD hS hl
  subst hq
  exact W.objInit C.1 C.2.1 C.2.2.2.2.1 (C.2.2.2.2.2.1 _ h1) (C.2.2.2.2.2.1 _ h2) (C.2.2.2.2.2.1 _ h3) rfl (by rw [C.2.2.1]; exact hl.1) rfl hd hf (by show 2 * 0 + _ + 12 ≤ _; omega) (k p e s m args below meth c C hA H locs ls hP hD hS hl)
theorem zb_aast {n t v a ci N : Nat} {vs : List Value} {f : Nat → Option Nat} {i : Int32} (hq : pc + 1 = q) (hd : decode Y.2.1 pc = .ok (.aastore, 1)) (hw : ws[n]? = some (a, .inl (B.2.2 3, N, .inr (.inr (.inr (.inr f)))))) (hv : ws[t]? = some (v, .inr (6, vs))) (hi : vp_in i N) (h1 : ws.set n (a, .inl (B.2.2 3, N, .inr (.inr (.inr (.inr (va_up f i.toNatClampNeg (some v))))))) = ws1) (k : zB B Y R A Qc mc ms q lv st ws1 cells slots) : zB B Y R A Qc mc ms pc lv (.ref v :: .int i :: .ref a :: st) ws cells slots := by
  intro p e s m args below meth c C hA H locs ls hP hD hS hl
  subst hq
  subst h1
  exact va_astq (r := (RX6, TX6, 2)) C.1 C.2.1 C.2.2.2.2.2.2.2.2.1 hP hD hS n 3 t 6 hw rfl hv rfl hi hd (fun H1 locs1 hP1 hD1 hS1 => k p e s m args below meth c C hA H1 locs1 ls hP1 hD1 hS1 hl)
theorem zb_ret {ws0 : va_W} {sz : Nat} {post : va_W → Prop} (hd : decode Y.2.1 pc = .ok (.return_, 1)) (hr : Y.2.2.2 = none) (hp : post ws) (h1 : cells ≤ mc) (h2 : slots ≤ ms) : zB B Y R (va_A ws0 sz) (zQB B ws0 sz post) mc ms pc lv [] ws cells slots := by
  intro p e s m args below meth c C hA H locs ls hP hD hS hl
  have hlocks : meth.locks = false := C.2.2.2.2.2.2.1
  refine W.widen h1 h2 ?_
  exact W.vret C.1 C.2.1 (by rw [C.2.2.2.1, hr]) (fun t ht hW => ⟨⟨rfl, ws, hp, by rw [ht]; exact hP, C.2.2.2.2.2.2.2.2.warm hW, hD⟩, hS.F ht⟩) hS.2.2 hd hlocks
theorem zjoin {A0 : Nat → Prop} {D : va_G} {wr w1 : va_W} {x : Nat × va_E} {H H1 : Heap} (hP : va_P D vwCl (wr ++ [x]) H) (hD : va_D A0 (wr ++ [x])) (hk : ∀ q : Nat, q < H.size → ¬ va_A [x] H.size q → H1[q]? = H[q]?) (hF : ∀ q, va_A [x] H.size q → A0 q) (hP1 : va_P D vwCl w1 H1) (hD1 : va_D (va_A [x] H.size) w1) : va_P D vwCl (wr ++ w1) H1 ∧ va_D A0 (wr ++ w1) := by
  have hx : (wr ++ [x])[wr.length]? = some x := by rw [List.getElem?_append_right (Nat.le_refl _), Nat.sub_self]; rfl
  have at' : ∀ (k : Nat) (q : Nat × va_E), wr[k]? = some q → (wr ++ [x])[k]? = some q ∧ k < wr.length := fun k q h => ⟨by rw [List.getElem?_append_left (List.getElem?_eq_some_iff.mp h).1]; exact h, (List.getElem?_eq_some_iff.mp h).1⟩
  have apart : ∀ (k : Nat) (q : Nat × va_E), wr[k]? = some q → q.1 < H.size ∧ ¬ va_A [x] H.size q.1 := by
    intro k q hq
    obtain ⟨h1, h2⟩ := at' k q hq
    have hl := (hP k q h1).lt
    refine ⟨hl, fun h => ?_⟩
    rcases h with ⟨k2, e, h⟩ | h
    · have hk2 : k2 = 0 := by have := (List.getElem?_eq_some_iff.mp h).1; simp at this; exact this
      subst hk2
      have hxe : x = (q.1, e) := Option.some.inj h
      have := hD.1 k wr.length q x h1 hx (by rw [hxe])
      omega
    · omega
  refine ⟨va_P.app (fun k q hq => ?_) hP1, va_D.app ⟨fun i j a b hi hj e => hD.1 i j a b (at' i a hi).1 (at' j b hj).1 e, fun k q hk => hD.2 k q (at' k q hk).1⟩ (hD1.weaken (fun k q _ h => hF q.1 h)) (fun i j a b ha hb e => ?_)⟩
  · exact (hP k q (at' k q hq).1).kept (hk q.1 (apart k q hq).1 (apart k q hq).2)
  · exact (apart i a ha).2 (by rw [e]; exact hD1.2 j b hb)
theorem zfree {A0 : Nat → Prop} {wr : va_W} {x : Nat × va_E} {H0 H : Heap} {locs : List Loc} (hD : va_D A0 (wr ++ [x])) (hS : va_S A0 H0 H locs) (hA : ∀ q, H0.size ≤ q → A0 q) : ∀ q, va_A [x] H.size q → A0 q := by
  intro q h
  rcases h with ⟨k, e, h⟩ | h
  · have hk2 : k = 0 := by have := (List.getElem?_eq_some_iff.mp h).1; simp at this; exact this
    subst hk2
    have hxe : x = (q, e) := Option.some.inj h
    have := hD.2 wr.length x (by rw [List.getElem?_append_right (Nat.le_refl _), Nat.sub_self]; rfl)
    rw [hxe] at this
    exact this
  · exact hA q (Nat.le_trans hS.1 h)
theorem zw_ctor {p : Program} {e : Env} {s : State} {m : MethodId} {args : Array Value} {below : List Frame} {meth : Method} {c : Code} {H : Heap} {locs : List Loc} {Q : State → Prop} {ls : Array Slot} {rest st0 : List Value} {a : Array Value} {mc1 ms1 : Nat} {post : va_W → Prop} {wr : va_W} {x : Nat × va_E} (hr : va_Run p B.1 e R s m args below meth c H locs cells slots mc1 ms1 (F0 m pc ls st0) rest (zQB B [x] H.size post a) (va_A [x] H.size)) (hP : va_P B.2.1 vwCl (wr ++ [x]) H) (hD : va_D A (wr ++ [x])) (hS : va_S A s.heap H locs) (hA : ∀ q, s.heap.size ≤ q → A q)
    (kk : ∀ (w1 : va_W) (H1 : Heap) (locs1 : List Loc), post w1 → va_P B.2.1 vwCl (wr ++ w1) H1 → va_D A (wr ++ w1) → va_S A s.heap H1 locs1 → W p B.1 e R s m args below meth c H1 locs1 (cells + mc1) (slots + ms1) Q (F0 m (pc + 3) ls rest)) : W p B.1 e R s m args below meth c H locs cells slots Q (F0 m pc ls st0) := by
  have hF := zfree hD hS hA
  intro T hT X
  obtain ⟨v, st₀, t, T', L, h0, X', hL, e1, e2, ⟨⟨hv, w1, hp, hP1, hK1, hD1⟩, hz, hk⟩, st⟩ := hr T hT X
  cases hv
  rw [h0] at hz hk
  obtain ⟨g1, g2⟩ := zjoin (H1 := T'.heap) hP hD (fun q h1 h2 => by rw [e1]; exact hk q h1 h2) hF (by rw [e1]; exact hP1) hD1
  obtain ⟨t2, a1, b1⟩ := kk w1 T'.heap (locs ++ L) hp g1 g2
    ⟨Nat.le_trans hS.1 (by rw [e1]; exact hz), fun q h1 h2 => by rw [e1, hk q (Nat.lt_of_lt_of_le h1 hS.1) (fun z => h2 (hF q z))]; exact hS.2.1 q h1 h2, fun q hq => by
      rcases List.mem_append.mp hq with h | h
      · exact hS.2.2 q h
      · exact hF _ (hL q h)⟩ T' rfl X'
  exact ⟨t2, st t2 a1, b1⟩
theorem zpb_pre {x : Nat × va_E} {wr : va_W} {s : State} {H : Heap} {As : List Value} (hP : va_P B.2.1 vwCl (wr ++ [x]) H) (hD : va_D A (wr ++ [x])) (hK : zKB B s) : PreS s H (va_Pc As (zPB B [x] H.size)) As := by
  have hx : (wr ++ [x])[wr.length]? = some x := by rw [List.getElem?_append_right (Nat.le_refl _), Nat.sub_self]; rfl
  have hP0 : va_P B.2.1 vwCl [x] H := by
    intro k q h
    have hk2 : k = 0 := by have := (List.getElem?_eq_some_iff.mp h).1; simp at this; exact this
    subst hk2
    have hxe : x = q := Option.some.inj h
    rw [← hxe]
    exact hP wr.length x hx
  have hD0 : va_D (fun _ => True) [x] := by
    refine ⟨fun i j p q hi hj _ => ?_, fun _ _ _ => trivial⟩
    have h1 := (List.getElem?_eq_some_iff.mp hi).1
    have h2 := (List.getElem?_eq_some_iff.mp hj).1
    simp at h1 h2
    omega
  refine ⟨fun a U g mk q => ⟨q.1, q.2.1, q.2.2.1, ⟨va_K.moved (u := U) (U := U.calling g mk a) (Vm.Alike.refl U.vm) q.2.2.2.1.1, q.2.2.2.1.2.same rfl⟩, q.2.2.2.2⟩, fun U hU hW => ⟨rfl, by rw [hU], by rw [hU]; exact hP0, hK.warm hW, hD0⟩⟩
theorem zb_ctor {idx d n a Cc S mc1 ms1 : Nat} {Yc : ZY} {x : va_E} {As rest st0 : List Value} {post : va_W → Prop} {wr : va_W} (hq : pc + 3 = q) (hd : decode Y.2.1 pc = .ok (.invokespecial idx, 3)) (lk : zLc Y.1.cls idx Yc n) (hr0 : Yc.2.2.2 = none) (hnm : Yc.1.name = "<init>") (hi : Cond.instanceMethod Yc.1 ∈ ztb) (hst : st0 = As.reverse ++ .ref a :: rest) (hn : As.length = n) (hr : (rest.map fun v => v.category).sum ≤ 8) (hct : zCB B Yc d (.ref a :: As) [(a, x)] post mc1 ms1) (hc : cells + mc1 ≤ Cc) (hs : slots + ms1 ≤ S) (k : ∀ w1 : va_W, post w1 → zB B Y (zrB (d + 1) Cc S) A Qc mc ms q lv rest (wr ++ w1) (cells + mc1) (slots + ms1)) : zB B Y (zrB (d + 1) Cc S) A Qc mc ms pc lv st0 (wr ++ [(a, x)]) cells slots := by
  intro p e s m args below meth c C hA H locs ls hP hD hS hl
  subst hq
  have cw : CallB (zrB (d + 1) Cc S) s args Y.1.cls idx Yc.1 Yc.2.1 Yc.2.2.1 none (Cond.code Yc.1 Yc.2.1 Yc.2.2.1 Yc.2.2.2 :: ztb) (zrB d mc1 ms1) mc1 ms1 n := by
    rw [← hr0]
    exact callB_of (R := zrB (d + 1) Cc S) (rm := zrB d mc1 ms1) (mc := mc1) (ms := ms1) n C.2.2.2.2.2.1 (zGoodIn lk.2.2.1) rfl rfl rfl (C.2.2.2.2.2.1 _ lk.2.1) (C.2.2.2.2.2.1 _ lk.1) lk.2.2.2.1 ⟨Nat.le_refl _, by have := lk.2.2.2.2; show 8 + (Yc.2.2.1 + 11) + 30 * d ≤ 30 * (d + 1); omega⟩
  exact zw_ctor (B := B) (post := post) (va_runI (nL := Y.2.2.1) (cc := Y.2.1) (own := Y.1.cls) (Ts := ztb) ⟨C.1, C.2.1, C.2.2.1, C.2.2.2.2.1, C.2.2.2.2.2.1⟩ (hct H.size) ⟨cw, hnm, C.2.2.2.2.2.1 _ hi⟩ (zpb_pre hP hD C.2.2.2.2.2.2.2.2) rfl hn hl.1 hst (lv_room hr) hd ⟨hc, hs⟩) hP hD hS hA (fun w1 H1 locs1 hp hP1 hD1 hS1 => k w1 hp p e s m args below meth c C hA H1 locs1 ls hP1 hD1 hS1 hl)
/-- the words of a call of a nest mate's constructor -/
def zLn (Y : ZY) (n : Nat) : Prop := Cond.initialized Y.1.cls ∈ ztb ∧ Cond.code Y.1 Y.2.1 Y.2.2.1 Y.2.2.2 ∈ ztb ∧ (Y.1.cls ≠ "java/lang/invoke/MethodHandle" ∧ Y.1.cls ≠ "java/lang/invoke/VarHandle" ∧ (parseMethodDescriptor Y.1.desc).map (fun d => d.parameters.length) = some n) ∧ Y.2.2.1 ≤ 11
theorem zb_ctorN {idx d n a Cc S mc1 ms1 : Nat} {host : String} {Yc : ZY} {x : va_E} {As rest st0 : List Value} {post : va_W → Prop} {wr : va_W} (hq : pc + 3 = q) (hd : decode Y.2.1 pc = .ok (.invokespecial idx, 3)) (lk : zLn Yc n) (hN : ∀ U, zNest U → va_Nw (.methodLinkNest Y.1.cls idx Yc.1 host) U) (hr0 : Yc.2.2.2 = none) (hnm : Yc.1.name = "<init>") (hi : Cond.instanceMethod Yc.1 ∈ ztb) (hst : st0 = As.reverse ++ .ref a :: rest) (hn : As.length = n) (hr : (rest.map fun v => v.category).sum ≤ 8) (hct : zCB B Yc d (.ref a :: As) [(a, x)] post mc1 ms1) (hc : cells + mc1 ≤ Cc) (hs : slots + ms1 ≤ S) (k : ∀ w1 : va_W, post w1 → zB B Y (zrB (d + 1) Cc S) A Qc mc ms q lv rest (wr ++ w1) (cells + mc1) (slots + ms1)) : zB B Y (zrB (d + 1) Cc S) A Qc mc ms pc lv st0 (wr ++ [(a, x)]) cells slots := by
  intro p e s m args below meth c C hA H locs ls hP hD hS hl
  subst hq
  have cw : va_CN (zrB (d + 1) Cc S) s args Y.1.cls idx Yc.1 host Yc.2.1 Yc.2.2.1 none (Cond.code Yc.1 Yc.2.1 Yc.2.2.1 Yc.2.2.2 :: ztb) (zrB d mc1 ms1) mc1 ms1 n := by
    rw [← hr0]
    exact va_cnB (R := zrB (d + 1) Cc S) (rm := zrB d mc1 ms1) (mc := mc1) (ms := ms1) (args := args) (host := host) (index := idx) (own := Y.1.cls) n C.2.2.2.2.2.1 (zGoodIn lk.2.1) rfl rfl rfl (hN s C.2.2.2.2.2.2.2.2.2) (C.2.2.2.2.2.1 _ lk.1) lk.2.2.1 ⟨Nat.le_refl _, by have := lk.2.2.2; show 8 + (Yc.2.2.1 + 11) + 30 * d ≤ 30 * (d + 1); omega⟩
  exact zw_ctor (B := B) (post := post) (va_runIN (host := host) (nL := Y.2.2.1) (cc := Y.2.1) (own := Y.1.cls) (Ts := ztb) ⟨C.1, C.2.1, C.2.2.1, C.2.2.2.2.1, C.2.2.2.2.2.1⟩ (hct H.size) ⟨cw, hnm, C.2.2.2.2.2.1 _ hi⟩ (zpb_pre hP hD C.2.2.2.2.2.2.2.2) rfl hn hl.1 hst (lv_room hr) hd ⟨hc, hs⟩) hP hD hS hA (fun w1 H1 locs1 hp hP1 hD1 hS1 => k w1 hp p e s m args below meth c C hA H1 locs1 ls hP1 hD1 hS1 hl)
/-- Arrays.fill of one int array of the world -/
theorem zb_fill {idx d n k a Cc S : Nat} {v : Int32} {f : Nat → Int32} {σ1 : ZM} {N : Nat} (hq : pc + 3 = q) (hd : decode Y.2.1 pc = .ok (.invokestatic idx, 3)) (lk : zLS Y.1.cls idx MJ7_fill_53178 2) (hw : ws[k]? = some (a, .inl (B.2.2 0, n, .inl f))) (hf : f_J7_fill_53178 N 0 n v (fun _ => f, fun _ _ => 0) = some ((), σ1)) (h1 : ws.set k (a, .inl (B.2.2 0, n, .inl (σ1.1 0))) = ws1) (hh : cells ≤ Cc ∧ slots ≤ S) (kk : zB B Y (zrB (d + 1) Cc S) A Qc mc ms q lv [] ws1 cells slots) : zB B Y (zrB (d + 1) Cc S) A Qc mc ms pc lv [.int v, .ref a] ws cells slots := by
  intro p e s m args below meth c C hA H locs ls hP hD hS hl
  subst hq
  subst h1
  let G : ZG := (B.1, B.2.1, (fun _ => a), B.2.2, [.inr (.inl (0, n))], 0)
  have hG0 : (zSH G)[0]? = some (.inr (.inl (0, n))) := rfl
  have hct := ok_J7_fill_53178 (G := G) (d := d) N (Nat.zero_le _) hG0 hf
  have hinj : zinj G := by
    intro i j hi hj _
    have h1 : i < 1 := hi
    have h2 : j < 1 := hj
    omega
  have hTH : ∀ U, zTH G U := fun U h => absurd h (by show ¬ 60 ≤ 1; omega)
  have hreg : ∀ x, zreg G x → x = a := by rintro x ⟨_, _, rfl⟩; rfl
  have haH : a < H.size := (hP k _ hw).lt
  have haA : A a := hD.2 k _ hw
  have hWs : ∀ σ : ZM, zws G σ = [(a, .inl (B.2.2 0, n, .inl (σ.1 0)))] := fun σ => rfl
  have hP0 : va_P B.2.1 vwCl (zws G (fun _ => f, fun _ _ => 0)) H := by
    rw [hWs]
    intro j x hj
    have hk2 : j = 0 := by have := (List.getElem?_eq_some_iff.mp hj).1; simp at this; exact this
    subst hk2
    cases hj
    exact hP k _ hw
  have run := va_runS (e := e) (locs := locs) (cells := cells) (slots := slots) (H := H) (below := below) (meth := meth) (R := zrB (d + 1) Cc S) (nL := Y.2.2.1) (cc := Y.2.1) (own := Y.1.cls) (Ts := ztb) (As := [.ref a, .int v]) (rest := []) (g := F0 m pc ls [.int v, .ref a]) (n := 2) ⟨C.1, C.2.1, C.2.2.1, C.2.2.2.2.1, C.2.2.2.2.2.1⟩ hct ⟨callB_of 2 C.2.2.2.2.2.1 (zGoodIn lk.1.2.2.1) rfl rfl rfl (C.2.2.2.2.2.1 _ lk.1.2.1) (C.2.2.2.2.2.1 _ lk.1.1) lk.1.2.2.2.1 ⟨Nat.le_refl _, by have := lk.1.2.2.2.2; show 8 + (MJ7_fill_53178.2.2.1 + 11) + 30 * d ≤ 30 * (d + 1); omega⟩, C.2.2.2.2.2.1 _ lk.2⟩ ⟨zblind G _ _, fun U hU hW => ⟨rfl, by rw [hU]; exact hP0, va_K.moved hW.alike C.2.2.2.2.2.2.2.2.1, hinj, hTH U⟩⟩ rfl rfl hl.1 rfl (lv_room (Nat.le_of_ble_eq_true rfl)) hd ⟨hh.1, hh.2⟩
  intro T hT X
  obtain ⟨v1, st₀, t, T', L, h0, X', hL, e1, e2, ⟨⟨hv, hz0⟩, hz, hk⟩, st⟩ := run T hT X
  cases hv
  rw [h0] at hz hk
  have hkeep : ∀ x : Nat, x < H.size → x ≠ a → T'.heap[x]? = H[x]? := fun x h1 h2 => by rw [e1]; exact hk x h1 (fun hz => h2 (hreg x hz))
  have hat : T'.heap[a]? = some (vp_cell (B.2.2 0) (n, .inl (σ1.1 0))) := by
    have := hz0.1 0 (a, .inl (B.2.2 0, n, .inl (σ1.1 0))) (by rw [hWs]; rfl)
    rw [e1]; exact this
  have hP1 : va_P B.2.1 vwCl (ws.set k (a, .inl (B.2.2 0, n, .inl (σ1.1 0)))) T'.heap := by
    intro j x hj
    by_cases hjk : j = k
    · subst hjk
      rw [List.getElem?_set_self (List.getElem?_eq_some_iff.mp hw).1] at hj
      cases hj
      exact hat
    · rw [List.getElem?_set_ne (fun e => hjk e.symm)] at hj
      have hne : x.1 ≠ a := fun e => hjk (hD.1 j k x _ hj hw e)
      exact (hP j x hj).kept (hkeep x.1 (hP j x hj).lt hne)
  obtain ⟨t2, a1, b1⟩ := kk p e s m args below meth c C hA T'.heap (locs ++ L) ls hP1 (hD.set hw)
    ⟨Nat.le_trans hS.1 (by rw [e1]; exact hz), fun x h1 h2 => by rw [hkeep x (Nat.lt_of_lt_of_le h1 hS.1) (fun e => h2 (by rw [e]; exact haA))]; exact hS.2.1 x h1 h2, fun x hx => by
      rcases List.mem_append.mp hx with h | h
      · exact hS.2.2 x h
      · rw [hreg _ (hL x h)]; exact haA⟩ hl T' rfl X'
  exact ⟨t2, st t2 a1, b1⟩
theorem zcb_of {As : List Value} {ws0 : va_W} {post : va_W → Prop} {d : Nat} (hy : plainName Y.1.cls = true) (hnm : Y.1.name = "<init>") (hlen : (lg_sl As).length ≤ Y.2.2.1) (hlv : lv_args 0 As = lv) (k : ∀ sz : Nat, zB B Y (zrB d mc ms) (va_A ws0 sz) (zQB B ws0 sz post) mc ms 0 lv [] ws0 0 0) : zCB B Y d As ws0 post mc ms := by
  intro sz
  refine Met.ofW (cc := Y.2.1) (maxL := Y.2.2.1) (ret := Y.2.2.2) hy rfl ?_
  intro p e s m args below meth c s₁ B0 hml hv
  obtain ⟨rfl, hsz, hP, hK, hD0⟩ := hv
  have hts := atoms_spec (ws := Cond.code Y.1 Y.2.1 Y.2.2.1 Y.2.2.2 :: ztb) B0.pre
  have hown : s.vm.findClass Y.1.cls = some m.cls := findClass_of_methodNamed B0.named
  have hin : meth.name = Y.1.name := (name_of_methodNamed B0.named B0.method).1
  have hl := lv_entry As (n := Y.2.2.1) hlen
  rw [lg_entry_eq]
  rw [hlv] at hl
  generalize (lg_sl As ++ List.replicate (Y.2.2.1 - (lg_sl As).length) Slot.unset).toArray = ls at hl ⊢
  subst hsz
  exact k s.heap.size p e s m As.toArray below meth c ⟨B0.exec, B0.bytes, hml, B0.returns, hown, fun w hw => hts w (List.mem_cons_of_mem _ hw), B0.notSynchronized, hin.trans hnm, hK⟩ (fun q h => Or.inr h) s.heap [] ls hP (hD0.self) va_S.rf hl
end ZBR
/-! ===== reads and writes at numbers ===== -/
theorem zidx {i n : Nat} (h : i < n) (hn : n < 2 ^ 31) : ¬ (nI i < 0 ∨ n ≤ (nI i).toNatClampNeg) := nI_in h hn
theorem zald_nI {σ : ZM} {a n i : Nat} (h : i < n) (hn : n < 2 ^ 31) : zald σ a n (nI i) = some (σ.1 a i) := by
  unfold zald; rw [if_neg (zidx h hn), nI_clamp (Nat.lt_trans h hn)]
theorem zalJ_nI {σ : ZM} {a n i : Nat} (h : i < n) (hn : n < 2 ^ 31) : zalJ σ a n (nI i) = some (σ.2 a i) := by
  unfold zalJ; rw [if_neg (zidx h hn), nI_clamp (Nat.lt_trans h hn)]
theorem zast_nI {σ : ZM} {a n i : Nat} {v : Int32} (h : i < n) (hn : n < 2 ^ 31) : zast σ a n (nI i) v = some (zuI σ a i v) := by
  unfold zast; rw [if_neg (zidx h hn), nI_clamp (Nat.lt_trans h hn)]
theorem zasJ_nI {σ : ZM} {a n i : Nat} {v : Int64} (h : i < n) (hn : n < 2 ^ 31) : zasJ σ a n (nI i) v = some (zuJ σ a i v) := by
  unfold zasJ; rw [if_neg (zidx h hn), nI_clamp (Nat.lt_trans h hn)]
theorem zasZ_nI {σ : ZM} {a n i : Nat} {v : Int32} (h : i < n) (hn : n < 2 ^ 31) (hv : v = 0 ∨ v = 1) : zasZ σ a n (nI i) v = some (zuI σ a i v) := by
  unfold zasZ; rw [if_neg (fun q => q.elim (zidx h hn) (fun z => z hv)), nI_clamp (Nat.lt_trans h hn)]
theorem zfill_loop (N a n : Nat) (v : Int32) (hn : n < 2 ^ 31) : ∀ (k m j : Nat) (σ : ZM), j + k = n → k < m → f_J7_fill_53178_5 N a n m v (nI j) (nI n) σ = some ((), zuC σ a (fun i => if j ≤ i ∧ i < n then v else σ.1 a i)) := by
  intro k
  induction k with
  | zero =>
    intro m j σ hj hm
    obtain ⟨m, rfl⟩ : ∃ k, m = k + 1 := ⟨m - 1, by omega⟩
    have hjn : j = n := by omega
    subst hjn
    rw [f_J7_fill_53178_5, b_J7_fill_53178_5, if_pos (nI_le (Nat.le_refl _) hn)]
    congr 2
    apply Prod.ext
    · funext b i
      by_cases hb : b = a
      · subst hb
        have : ¬ (j ≤ i ∧ i < j) := by omega
        simp [zuC, this]
      · simp [zuC, hb]
    · rfl
  | succ k ih =>
    intro m j σ hj hm
    obtain ⟨m, rfl⟩ : ∃ k, m = k + 1 := ⟨m - 1, by omega⟩
    have hjn : j < n := by omega
    rw [f_J7_fill_53178_5, b_J7_fill_53178_5, if_neg (nI_ge hjn hn), zast_nI hjn hn]
    show f_J7_fill_53178_5 N a n m v (nI j + 1) (nI n) (zuI σ a j v) = _
    rw [nI_1, ih m (j + 1) _ (by omega) (by omega)]
    congr 2
    apply Prod.ext
    · funext b i
      by_cases hb : b = a
      · subst hb
        simp only [zuC, zuI, upd, if_true]
        by_cases h1 : j + 1 ≤ i ∧ i < n
        · have h2 : j ≤ i ∧ i < n := by omega
          rw [if_pos h1, if_pos h2]
        · rw [if_neg h1]
          by_cases h3 : i = j
          · subst h3
            have h2 : i ≤ i ∧ i < n := by omega
            rw [if_pos rfl, if_pos h2]
          · have h2 : ¬ (j ≤ i ∧ i < n) := by omega
            rw [if_neg h3, if_neg h2]
      · simp [zuC, zuI, hb]
    · rfl
theorem zfill_ok (N a n : Nat) (v : Int32) (σ : ZM) (hn : n < 2 ^ 31) (hN : n < N) : f_J7_fill_53178 N a n v σ = some ((), zuC σ a (fun i => if i < n then v else σ.1 a i)) := by
  show f_J7_fill_53178_5 N a n N v (nI 0) (nI n) σ = _
  rw [zfill_loop N a n v hn n N 0 σ (by omega) hN]
  simp
