/-! ===== the picture of a world by names: cell k of the list of shapes stands at the address zad G k; int-like slots, long slots; what is a reference is said by the shape ===== -/
/-- the words of the tables that a call may carry -/
def ztb : List Cond := lw_tbl.filter goodWord
abbrev ZM : Type := (Nat → Nat → Int32) × (Nat → Nat → Int64)
abbrev ZS : Type := (Nat × List (Option (Option Nat))) ⊕ ((Nat × Nat) ⊕ List Nat)
abbrev ZG : Type := Launch × va_G × (Nat → Nat) × (Nat → ClassId) × List ZS × Nat
abbrev ZY : Type := MethodName × ByteArray × Nat × Option FieldType
def zad (G : ZG) : Nat → Nat := G.2.2.1
def zcA (G : ZG) : Nat → ClassId := G.2.2.2.1
def zSH (G : ZG) : List ZS := G.2.2.2.2.1
def zth (G : ZG) : Nat := G.2.2.2.2.2
def zval (G : ZG) (σ : ZM) (k i : Nat) (q : Option (Option Nat)) : Value := match q with
  | none => .int (σ.1 k i)
  | some none => .long (σ.2 k i)
  | some (some r) => .ref (zad G r)
def zcell (G : ZG) (σ : ZM) (k : Nat) (q : ZS) : va_E := match q with
  | .inl o => .inr (o.1, o.2.mapIdx (fun i t => zval G σ k i t))
  | .inr (.inl a) => if a.1 = 2 then .inl (zcA G 2, a.2, .inr (.inl (σ.2 k))) else .inl (zcA G a.1, a.2, .inl (σ.1 k))
  | .inr (.inr ns) => .inl (zcA G 3, ns.length, .inr (.inr (.inr (.inr (fun i => (ns[i]?).map (zad G))))))
def zws (G : ZG) (σ : ZM) : va_W := (zSH G).mapIdx (fun k q => (zad G k, zcell G σ k q))
def ztys (G : ZG) : List (ClassId × FieldType) := [(zcA G 0, .int), (zcA G 1, .boolean), (zcA G 2, .long), (zcA G 3, .object "NearCopies$Trial")]
def zreg (G : ZG) : Nat → Prop := fun q => ∃ k, k < (zSH G).length ∧ q = zad G k
def zinj (G : ZG) : Prop := ∀ i j, i < (zSH G).length → j < (zSH G).length → zad G i = zad G j → i = j
def zthl : List Int32 := [1, 2, 3, 1, 2, 3, 2, 1, 3, 1, 3, 2]
def zthf (j : Nat) : Value := .int (zthl.getD j 0)
def zTH (G : ZG) (U : State) : Prop := 60 ≤ (zSH G).length → va_Z "NearCopies$Flow" "THINGS" "[I" (.ref (zth G)) (zreg G) U U.heap ∧ va_T .int (zth G) 12 zthf (zreg G) U U.heap
def zK (G : ZG) (U : State) : Prop := va_K G.2.1 vwCl (ztys G) U ∧ zinj G ∧ zTH G U
def zW (G : ZG) (σ : ZM) (U : State) : Prop := va_P G.2.1 vwCl (zws G σ) U.heap ∧ zK G U
def zrm (d : Nat) : Room := { frames := d, cells := 0, slots := 0, locals := 30 * d }
def zQ (G : ZG) (r : Option Value) (σ' : ZM) : Array Value → State → Outcome → State → Prop := fun _ st oc t => (oc = .returned r ∧ zW G σ' t) ∧ va_F (zreg G) st t
def zCt (G : ZG) (d : Nat) (Y : ZY) (As : List Value) (σ : ZM) (r : Option Value) (σ' : ZM) : Prop :=
  Met G.1 Y.1 (Cond.code Y.1 Y.2.1 Y.2.2.1 Y.2.2.2 :: ztb) (zrm d) (va_Pc As (zW G σ)) (zQ G r σ') 0 0 (zreg G)
def zC (G : ZG) (Y : ZY) (p : Program) (s : State) (m : MethodId) (args : Array Value) (meth : Method) (c : Code) : Prop :=
  p.tables.exec = Jvm.exec ∧ c.code = Y.2.1 ∧ c.maxLocals = Y.2.2.1 ∧ meth.sig.returnType = Y.2.2.2 ∧ s.vm.findClass Y.1.cls = some m.cls ∧ (∀ w ∈ ztb, w.before args s = true) ∧ meth.locks = false ∧ zK G s
/-- from this place of method Y, with d calls still to be had, the method comes to its end: it answers r and leaves the memory σ' -/
def zF (G : ZG) (Y : ZY) (d pc : Nat) (lv : List (Nat × Value)) (st : List Value) (σ : ZM) (r : Option Value) (σ' : ZM) : Prop :=
  ∀ (p : Program) (e : Env) (s : State) (m : MethodId) (args : Array Value) (below : List Frame) (meth : Method) (c : Code), zC G Y p s m args meth c →
    ∀ (H : Heap) (locs : List Loc) (ls : Array Slot), va_P G.2.1 vwCl (zws G σ) H → va_S (zreg G) s.heap H locs → lv_has ls Y.2.2.1 lv →
      W p G.1 e (zrm d) s m args below meth c H locs 0 0 (MQ below (zQ G r σ') args s 0 0 (zreg G)) (F0 m pc ls st)
/-! what the tables say, by program -/
theorem zgood : ztb.all goodWord = true := List.all_eq_true.mpr fun w hw => (List.mem_filter.mp hw).2
theorem ztb_mem {w : Cond} (h : w ∈ tables_1) (g : goodWord w = true) : w ∈ ztb := List.mem_filter.mpr ⟨List.mem_append_right _ h, g⟩
theorem ztb_sel {w : Cond} (h : w ∈ k2_sels lw_privs) (g : goodWord w = true) : w ∈ ztb := List.mem_filter.mpr ⟨List.mem_append_left _ h, g⟩
theorem zGoodIn {y : MethodName} {b : ByteArray} {n : Nat} {r : Option FieldType} (h : Cond.code y b n r ∈ ztb) : GoodIn ztb (Cond.code y b n r :: ztb) := by
  intro w hw
  rcases List.mem_cons.mp hw with e | e
  · subst e; exact ⟨h, good_of_word (List.all_eq_true.mp zgood _ h)⟩
  · exact ⟨e, good_of_word (List.all_eq_true.mp zgood _ e)⟩
def zcls (q : vw_C) : Prop := (∀ w ∈ u_ws q.1 q.2.1 q.2.2, w ∈ ztb) ∧ (∃ ty0 : Nat → FieldType, ∀ k, k < q.2.2 → parseFieldDescriptor (q.2.1 k).2.2.1 = some (ty0 k)) ∧ ∀ a, a < q.2.2 → ∀ b, b < q.2.2 → a ≠ b → (q.2.1 a).2.1 ≠ (q.2.1 b).2.1
theorem zcls0 : zcls (RX0, TX0, 17) := ⟨by decide +kernel, ⟨tyX0, tyX0_ok⟩, nmX0⟩
theorem zcls1 : zcls (RX1, TX1, 15) := ⟨by decide +kernel, ⟨tyX1, tyX1_ok⟩, nmX1⟩
theorem zcls2 : zcls (RX2, TX2, 8) := ⟨by decide +kernel, ⟨tyX2, tyX2_ok⟩, nmX2⟩
theorem zcls3 : zcls (RX3, TX3, 7) := ⟨by decide +kernel, ⟨tyX3, tyX3_ok⟩, nmX3⟩
theorem zcls4 : zcls (RX4, TX4, 8) := ⟨by decide +kernel, ⟨tyX4, tyX4_ok⟩, nmX4⟩
theorem zcls5 : zcls (RX5, TX5, 4) := ⟨by decide +kernel, ⟨tyX5, tyX5_ok⟩, nmX5⟩
theorem zcls6 : zcls (RX6, TX6, 2) := ⟨by decide +kernel, ⟨tyX6, tyX6_ok⟩, nmX6⟩
theorem zcls7 : zcls (RX7, TX7, 5) := ⟨by decide +kernel, ⟨tyX7, tyX7_ok⟩, nmX7⟩
theorem zcls8 : zcls (RX8, TX8, 7) := ⟨by decide +kernel, ⟨tyX8, tyX8_ok⟩, nmX8⟩
theorem zcls9 : zcls (RX9, TX9, 57) := ⟨by decide +kernel, ⟨tyX9, tyX9_ok⟩, nmX9⟩
theorem zcls_all : ∀ q ∈ vwCl, zcls q := by
  show ∀ q ∈ [(RX0, TX0, 17), (RX1, TX1, 15), (RX2, TX2, 8), (RX3, TX3, 7), (RX4, TX4, 8), (RX5, TX5, 4), (RX6, TX6, 2), (RX7, TX7, 5), (RX8, TX8, 7), (RX9, TX9, 57)], zcls q
  exact List.forall_mem_cons.mpr ⟨zcls0, List.forall_mem_cons.mpr ⟨zcls1, List.forall_mem_cons.mpr ⟨zcls2, List.forall_mem_cons.mpr ⟨zcls3, List.forall_mem_cons.mpr ⟨zcls4, List.forall_mem_cons.mpr ⟨zcls5, List.forall_mem_cons.mpr ⟨zcls6, List.forall_mem_cons.mpr ⟨zcls7, List.forall_mem_cons.mpr ⟨zcls8, List.forall_mem_cons.mpr ⟨zcls9, fun _ h => absurd h List.not_mem_nil⟩⟩⟩⟩⟩⟩⟩⟩⟩⟩
/-- a field's link: pool place idx of class own is slot k of class ci -/
def zLk (own : String) (idx ci k : Nat) : Prop := ∃ q : vw_C, vwCl[ci]? = some q ∧ k < q.2.2 ∧ Cond.fieldLink own idx (q.2.1 k).1 (q.2.1 k).2.1 (q.2.1 k).2.2.1 ∈ ztb
def zLp (own : String) (idx ci k : Nat) (ty : FieldType) : Prop := ∃ q : vw_C, vwCl[ci]? = some q ∧ k < q.2.2 ∧ Cond.fieldLink own idx (q.2.1 k).1 (q.2.1 k).2.1 (q.2.1 k).2.2.1 ∈ ztb ∧ (q.2.1 k).2.2.2 = false ∧ parseFieldDescriptor (q.2.1 k).2.2.1 = some ty
/-- a call's words -/
def zLc (own : String) (idx : Nat) (Y : ZY) (n : Nat) : Prop := Cond.methodLink own idx Y.1 ∈ ztb ∧ Cond.initialized Y.1.cls ∈ ztb ∧ Cond.code Y.1 Y.2.1 Y.2.2.1 Y.2.2.2 ∈ ztb ∧
  (Y.1.cls ≠ "java/lang/invoke/MethodHandle" ∧ Y.1.cls ≠ "java/lang/invoke/VarHandle" ∧ (parseMethodDescriptor Y.1.desc).map (fun d => d.parameters.length) = some n) ∧ Y.2.2.1 ≤ 11
def zLV (own : String) (idx : Nat) (Y : ZY) (ci n : Nat) : Prop := zLc own idx Y n ∧ Cond.instanceMethod Y.1 ∈ ztb ∧ Cond.selects Y.1.cls Y.1 Y.1 ∈ ztb ∧ ∃ q : vw_C, vwCl[ci]? = some q ∧ q.1 = Y.1.cls
def zLS (own : String) (idx : Nat) (Y : ZY) (n : Nat) : Prop := zLc own idx Y n ∧ Cond.static Y.1 ∈ ztb
/-! reads and writes of the memory -/
def zin (i : Int32) (n : Nat) : Prop := ¬ (i < 0 ∨ n ≤ i.toNatClampNeg)
def zald (σ : ZM) (a n : Nat) (i : Int32) : Option Int32 := if i < 0 ∨ n ≤ i.toNatClampNeg then none else some (σ.1 a i.toNatClampNeg)
def zalJ (σ : ZM) (a n : Nat) (i : Int32) : Option Int64 := if i < 0 ∨ n ≤ i.toNatClampNeg then none else some (σ.2 a i.toNatClampNeg)
def zalR (ns : List Nat) (i : Int32) : Option Nat := if i < 0 then none else ns[i.toNatClampNeg]?
def zalT (i : Int32) : Option Int32 := if i < 0 ∨ 12 ≤ i.toNatClampNeg then none else some (zthl.getD i.toNatClampNeg 0)
def zuI (σ : ZM) (k i : Nat) (v : Int32) : ZM := (fun a => if a = k then upd (σ.1 a) i v else σ.1 a, σ.2)
def zuJ (σ : ZM) (k i : Nat) (v : Int64) : ZM := (σ.1, fun a => if a = k then vp_updL (σ.2 a) i v else σ.2 a)
def zuC (σ : ZM) (k : Nat) (f : Nat → Int32) : ZM := (fun a => if a = k then f else σ.1 a, σ.2)
def zpI (σ : ZM) (k i : Nat) (v : Int32) : Option ZM := some (zuI σ k i v)
def zpZ (σ : ZM) (k i : Nat) (v : Int32) : Option ZM := if v = 0 ∨ v = 1 then some (zuI σ k i v) else none
def zpJ (σ : ZM) (k i : Nat) (v : Int64) : Option ZM := some (zuJ σ k i v)
def zast (σ : ZM) (a n : Nat) (i v : Int32) : Option ZM := if i < 0 ∨ n ≤ i.toNatClampNeg then none else some (zuI σ a i.toNatClampNeg v)
def zasZ (σ : ZM) (a n : Nat) (i v : Int32) : Option ZM := if (i < 0 ∨ n ≤ i.toNatClampNeg) ∨ ¬ (v = 0 ∨ v = 1) then none else some (zuI σ a i.toNatClampNeg v)
def zasJ (σ : ZM) (a n : Nat) (i : Int32) (v : Int64) : Option ZM := if i < 0 ∨ n ≤ i.toNatClampNeg then none else some (zuJ σ a i.toNatClampNeg v)
def zcpy (σ : ZM) (a na : Nat) (sp : Int32) (b nb : Nat) (dp n : Int32) : Option ZM := if sp < 0 ∨ dp < 0 ∨ n < 0 ∨ na < sp.toNatClampNeg + n.toNatClampNeg ∨ nb < dp.toNatClampNeg + n.toNatClampNeg then none else some (zuC σ b (va_cpy (σ.1 a) (σ.1 b) sp.toNatClampNeg dp.toNatClampNeg n.toNatClampNeg))
def zdiv (x y : Int32) : Option Int32 := if y = 0 then none else some (x / y)
def zrem (x y : Int32) : Option Int32 := if y = 0 then none else some (x - x / y * y)
def zsrl (x y : Int32) : Int32 := (x.toUInt32 >>> (y.toUInt32 &&& Int32.toUInt32 31)).toInt32
def zsrlJ (x : Int64) (y : Int32) : Int64 := (x.toUInt64 >>> (y.toInt64.toUInt64 &&& Int64.toUInt64 63)).toInt64
def zshlJ (x : Int64) (y : Int32) : Int64 := x <<< (y.toInt64 &&& 63)
/-! the world's list -/
theorem zws_at {G : ZG} {σ : ZM} {k : Nat} {q : ZS} (h : (zSH G)[k]? = some q) : (zws G σ)[k]? = some (zad G k, zcell G σ k q) := by
  unfold zws
  rw [List.getElem?_mapIdx, h]
  rfl
theorem zws_lt {G : ZG} {σ : ZM} {k : Nat} {q : Nat × va_E} (h : (zws G σ)[k]? = some q) : k < (zSH G).length ∧ q.1 = zad G k := by
  unfold zws at h
  rw [List.getElem?_mapIdx] at h
  cases hq : (zSH G)[k]? with
  | none => rw [hq] at h; cases h
  | some x =>
    rw [hq] at h
    cases h
    exact ⟨(List.getElem?_eq_some_iff.mp hq).1, rfl⟩
theorem zD {G : ZG} (σ : ZM) (h : zinj G) : va_D (zreg G) (zws G σ) := by
  refine ⟨fun i j p q hi hj e => ?_, fun k q hk => ?_⟩
  · obtain ⟨a1, a2⟩ := zws_lt hi
    obtain ⟨b1, b2⟩ := zws_lt hj
    exact h i j a1 b1 (by rw [← a2, ← b2]; exact e)
  · obtain ⟨a1, a2⟩ := zws_lt hk
    exact ⟨k, a1, a2⟩
theorem zcell_congr {G : ZG} {σ σ1 : ZM} {k : Nat} (q : ZS) (h1 : σ1.1 k = σ.1 k) (h2 : σ1.2 k = σ.2 k) : zcell G σ1 k q = zcell G σ k q := by
  rcases q with o | a | ns
  · have : (fun i t => zval G σ1 k i t) = (fun i t => zval G σ k i t) := by
      funext i t
      rcases t with _ | _ | r <;> simp [zval, h1, h2]
    simp only [zcell, this]
  · simp only [zcell, h1, h2]
  · rfl
theorem zws_set {G : ZG} {σ σ1 : ZM} {k : Nat} {q : ZS} (hq : (zSH G)[k]? = some q) (h1 : ∀ j, j ≠ k → σ1.1 j = σ.1 j) (h2 : ∀ j, j ≠ k → σ1.2 j = σ.2 j) {c : va_E} (hc : zcell G σ1 k q = c) : (zws G σ).set k (zad G k, c) = zws G σ1 := by
  apply List.ext_getElem?
  intro j
  have hl : (zws G σ).length = (zSH G).length := by simp [zws]
  have hk : k < (zSH G).length := (List.getElem?_eq_some_iff.mp hq).1
  by_cases hj : j = k
  · subst hj
    rw [List.getElem?_set_self (by rw [hl]; exact hk), zws_at hq, hc]
  · rw [List.getElem?_set_ne (fun e => hj e.symm)]
    unfold zws
    rw [List.getElem?_mapIdx, List.getElem?_mapIdx]
    cases (zSH G)[j]? with
    | none => rfl
    | some x => simp [zcell_congr x (h1 j hj) (h2 j hj)]
theorem zobj_get {G : ZG} {σ : ZM} {a i : Nat} {ks : List (Option (Option Nat))} {t : Option (Option Nat)} (h : ks[i]? = some t) : (ks.mapIdx (fun i t => zval G σ a i t))[i]? = some (zval G σ a i t) := by
  rw [List.getElem?_mapIdx, h]; rfl
theorem zobj_setI {G : ZG} {σ : ZM} {a i ci : Nat} {ks : List (Option (Option Nat))} (h : ks[i]? = some none) (v : Int32) : zcell G (zuI σ a i v) a (.inl (ci, ks)) = .inr (ci, (ks.mapIdx (fun i t => zval G σ a i t)).set i (.int v)) := by
  simp only [zcell]
  congr 2
  apply List.ext_getElem?
  intro j
  have hi : i < ks.length := (List.getElem?_eq_some_iff.mp h).1
  by_cases hj : j = i
  · subst hj
    rw [List.getElem?_set_self (by simpa using hi), List.getElem?_mapIdx, h]
    simp [zval, zuI, upd]
  · rw [List.getElem?_set_ne (fun e => hj e.symm), List.getElem?_mapIdx, List.getElem?_mapIdx]
    cases ks[j]? with
    | none => rfl
    | some x => rcases x with _ | _ | r <;> simp [zval, zuI, upd, hj]
theorem zobj_setJ {G : ZG} {σ : ZM} {a i ci : Nat} {ks : List (Option (Option Nat))} (h : ks[i]? = some (some none)) (v : Int64) : zcell G (zuJ σ a i v) a (.inl (ci, ks)) = .inr (ci, (ks.mapIdx (fun i t => zval G σ a i t)).set i (.long v)) := by
  simp only [zcell]
  congr 2
  apply List.ext_getElem?
  intro j
  have hi : i < ks.length := (List.getElem?_eq_some_iff.mp h).1
  by_cases hj : j = i
  · subst hj
    rw [List.getElem?_set_self (by simpa using hi), List.getElem?_mapIdx, h]
    simp [zval, zuJ, vp_updL]
  · rw [List.getElem?_set_ne (fun e => hj e.symm), List.getElem?_mapIdx, List.getElem?_mapIdx]
    cases ks[j]? with
    | none => rfl
    | some x => rcases x with _ | _ | r <;> simp [zval, zuJ, vp_updL, hj]
theorem zTH.moved {G : ZG} {u U : State} (h : zTH G u) (hvm : u.vm.Alike U.vm) (hq : ∀ a : Nat, a < u.heap.size → ¬ zreg G a → U.heap[a]? = u.heap[a]?) : zTH G U := fun hn => ⟨((h hn).1.kept hq).moved hvm, ((h hn).2.kept hq).moved hvm⟩
theorem zK.moved {G : ZG} {u U : State} (h : zK G u) (hvm : u.vm.Alike U.vm) (hq : ∀ a : Nat, a < u.heap.size → ¬ zreg G a → U.heap[a]? = u.heap[a]?) : zK G U := ⟨va_K.moved hvm h.1, h.2.1, h.2.2.moved hvm hq⟩
theorem zblind (G : ZG) (As : List Value) (σ : ZM) : FrameBlind (va_Pc As (zW G σ)) := fun a U g mk q => ⟨q.1, q.2.1, zK.moved (u := U) (U := U.calling g mk a) q.2.2 (Vm.Alike.refl U.vm) (fun _ _ _ => rfl)⟩
