/-! THE CLAIM OUT OF ONE WALK OF THE LAW'S BODY. Your part is whole_start (and what it stands on); all else here is the same for every law, but numbers. -/
def R_law : String := "NearCopiesLaw"
def lw_P (b : Addr) (xs : List Int32) (args : Array Value) (s : State) : Prop := args = #[.ref b] ∧ s.IntsAt b xs ∧ xs.length ≤ 2048 ∧ (Jvm.Cond.and given_1 narrow_1).before args s = true
def lw_Q (_ : Array Value) (s : State) (o : Outcome) (t : State) : Prop := o = .returned (some (.int 1)) ∧ Framed s o t [] 600000 7302250
def lw_Z (below : List Frame) (a : Array Value) (s : State) : State → Prop := fun t => ∃ o, t.status = .running ∧ Ended t below o ∧ lw_Q a s o t
/-- the law's own end, with 1 on the stack, nothing written that was there before, its room as the claim has it -/
theorem lw_ret {p : Program} {l : Launch} {e : Env} {s : State} {m : MethodId} {below : List Frame} {meth : Method} {c : Code} {b : Nat} (hx : p.tables.exec = Jvm.exec) (hb : c.code = code) (hr : meth.sig.returnType = ret) (hlocks : meth.locks = false) {pc : Nat} {H : Heap} {ls : Array Slot} (hdg : decode code pc = .ok (.ireturn, 1)) : W p l e room_1 s m #[Value.ref b] below meth c H [] 600000 7302250 (lw_Z below #[Value.ref b] s) (F0 m pc ls [.int 1]) := by
  intro T hT X
  obtain ⟨fs, hret, hrun, hended, hW, hframe⟩ := X.leave (v := some (.int 1)) (hlocks := hlocks) (fun h => by rw [hr] at h; cases h)
  have hmeth' : T.vm.method? m = some meth := X.method'
  refine ⟨T.setFrames fs, ?_, .returned (some (.int 1)), hrun, hended, rfl, ⟨_, rfl⟩, hW, hframe⟩
  jvm_step X.here [X.here.top, hx, hb, hdg, hmeth', hr, ret, narrow_b1]
  (try refine ⟨rfl, ?_⟩); (try refine ⟨rfl, ?_⟩)
  first | (intro acts; rw [hret _ acts rfl rfl rfl]) | rw [hret _ _ rfl rfl rfl]
  exact Steps.refl _
/-- what holds at the law's entry: the machine, the code, the tables' words (any of lw_tbl by 'hts w (by decide +kernel)'), the script of L ints xs at the cell b, what the Statement gives of the start (any of its parts by flat_of_before) -/
def lw_At (p : Program) (s : State) (m : MethodId) (meth : Method) (c : Code) (b L : Nat) (xs : Nat → Int32) : Prop :=
  p.tables.exec = Jvm.exec ∧ c.code = code ∧ meth.sig.returnType = ret ∧ c.maxLocals = 4 ∧ s.vm.findClass R_law = some m.cls ∧ (∀ w ∈ lw_tbl, w.before #[Value.ref b] s = true) ∧ va_X b L xs s s.heap ∧ b < s.heap.size ∧ meth.locks = false ∧ (Jvm.Cond.and given_1 narrow_1).before #[Value.ref b] s = true
/-! ===== the law: two worlds beside the script ===== -/
theorem ztb_lw {w : Cond} (h : w ∈ ztb) : w ∈ lw_tbl := (List.mem_filter.mp h).1
def zAn (s : State) : Nat → Prop := fun q => s.heap.size ≤ q
/-- what stands fast through the law: classes, apartness, the static row -/
def zKL (Gc Gm : ZG) (s : State) : Prop := va_K Gc.2.1 vwCl (ztys Gc) s ∧ va_K Gm.2.1 vwCl (ztys Gm) s ∧ zinj Gc ∧ zinj Gm ∧ (∀ q, zreg Gc q → ¬ zreg Gm q) ∧ (∀ q, zreg Gc q → zAn s q) ∧ (∀ q, zreg Gm q → zAn s q) ∧ (va_Z "NearCopies$Flow" "THINGS" "[I" (.ref (zth Gc)) (zAn s) s s.heap ∧ va_T .int (zth Gc) 12 zthf (zAn s) s s.heap) ∧ zSH Gc = shC ∧ zSH Gm = shM ∧ Gc.1 = Gm.1
def zL (Gc Gm : ZG) (b L : Nat) (xs : Nat → Int32) (pc : Nat) (lv : List (Nat × Value)) (st : List Value) (σc σm : ZM) : Prop :=
  ∀ (p : Program) (e : Env) (s : State) (m : MethodId) (below : List Frame) (meth : Method) (c : Code), lw_At p s m meth c b L xs → zKL Gc Gm s →
    ∀ (H : Heap) (locs : List Loc) (ls : Array Slot), va_P Gc.2.1 vwCl (zws Gc σc) H → va_P Gm.2.1 vwCl (zws Gm σm) H → va_S (zAn s) s.heap H locs → lv_has ls 4 lv →
      W p Gc.1 e room_1 s m #[Value.ref b] below meth c H locs 131 3910 (lw_Z below #[Value.ref b] s) (F0 m pc ls st)
section ZLR
variable {Gc Gm : ZG} {b L : Nat} {xs : Nat → Int32} {pc q : Nat} {lv lv1 : List (Nat × Value)} {st : List Value} {σc σm : ZM}
theorem zl_aload_n {i : Fin 4} {j x : Nat} (n : Nat) (hq : pc + 1 = q) (hd : decode code pc = .ok (.aload_n i, 1)) (hi : (i : Nat) = j) (hn : lv[n]? = some (j, .ref x)) (k : zL Gc Gm b L xs q lv (.ref x :: st) σc σm) : zL Gc Gm b L xs pc lv st σc σm := by
  intro p e s m below meth c C K H locs ls hP hM hS hl
  subst hq
  exact lv_aload_n C.1 C.2.1 hd hi (lv_at hl n hn) (k p e s m below meth c C K H locs ls hP hM hS hl)
theorem zl_iload_n {i : Fin 4} {j : Nat} {x : Int32} (n : Nat) (hq : pc + 1 = q) (hd : decode code pc = .ok (.iload_n i, 1)) (hi : (i : Nat) = j) (hn : lv[n]? = some (j, .int x)) (k : zL Gc Gm b L xs q lv (.int x :: st) σc σm) : zL Gc Gm b L xs pc lv st σc σm := by
  intro p e s m below meth c C K H locs ls hP hM hS hl
  subst hq
  exact lv_iload_n C.1 C.2.1 hd hi (lv_at hl n hn) (k p e s m below meth c C K H locs ls hP hM hS hl)
theorem zl_iconst {n : Int} {v : Int32} (hq : pc + 1 = q) (hd : decode code pc = .ok (.iconst n, 1)) (hv : Int32.ofInt n = v) (k : zL Gc Gm b L xs q lv (.int v :: st) σc σm) : zL Gc Gm b L xs pc lv st σc σm := by
  intro p e s m below meth c C K H locs ls hP hM hS hl
  subst hq
  exact lv_iconst C.1 C.2.1 hd hv (k p e s m below meth c C K H locs ls hP hM hS hl)
theorem zl_bipush {n : Int} {v : Int32} (hq : pc + 2 = q) (hd : decode code pc = .ok (.bipush n, 2)) (hv : (Int8.ofInt n).toInt32 = v) (k : zL Gc Gm b L xs q lv (.int v :: st) σc σm) : zL Gc Gm b L xs pc lv st σc σm := by
  intro p e s m below meth c C K H locs ls hP hM hS hl
  subst hq
  exact lv_bipush C.1 C.2.1 hd hv (k p e s m below meth c C K H locs ls hP hM hS hl)
theorem zl_iadd {x y v : Int32} (hq : pc + 1 = q) (hd : decode code pc = .ok (.iadd, 1)) (hv : x + y = v) (k : zL Gc Gm b L xs q lv (.int v :: st) σc σm) : zL Gc Gm b L xs pc lv (.int y :: .int x :: st) σc σm := by
  intro p e s m below meth c C K H locs ls hP hM hS hl
  subst hq; subst hv
  exact lv_iadd C.1 C.2.1 hd (k p e s m below meth c C K H locs ls hP hM hS hl)
theorem zl_isub {x y : Int32} (hq : pc + 1 = q) (hd : decode code pc = .ok (.isub, 1)) (k : zL Gc Gm b L xs q lv (.int (x - y) :: st) σc σm) : zL Gc Gm b L xs pc lv (.int y :: .int x :: st) σc σm := by
  intro p e s m below meth c C K H locs ls hP hM hS hl
  subst hq
  exact lv_isub C.1 C.2.1 hd (k p e s m below meth c C K H locs ls hP hM hS hl)
theorem zl_iand {x y : Int32} (hq : pc + 1 = q) (hd : decode code pc = .ok (.iand, 1)) (k : zL Gc Gm b L xs q lv (.int (x &&& y) :: st) σc σm) : zL Gc Gm b L xs pc lv (.int y :: .int x :: st) σc σm := by
  intro p e s m below meth c C K H locs ls hP hM hS hl
  subst hq
  exact lv_iand C.1 C.2.1 hd (k p e s m below meth c C K H locs ls hP hM hS hl)
theorem zl_lcmp {x y : Int64} (hq : pc + 1 = q) (hd : decode code pc = .ok (.lcmp, 1)) (k : zL Gc Gm b L xs q lv (.int (lg_cmp x y) :: st) σc σm) : zL Gc Gm b L xs pc lv (.long y :: .long x :: st) σc σm := by
  intro p e s m below meth c C K H locs ls hP hM hS hl
  subst hq
  exact W.lcmp C.1 C.2.1 hd (k p e s m below meth c C K H locs ls hP hM hS hl)
theorem zl_sld {j : Nat} (hq : pc + 1 = q) (hd : decode code pc = .ok (.iaload, 1)) (hj : j < L) (hL : L < 2 ^ 31) (k : zL Gc Gm b L xs q lv (.int (xs j) :: st) σc σm) : zL Gc Gm b L xs pc lv (.int (nI j) :: .ref b :: st) σc σm := by
  intro p e s m below meth c C K H locs ls hP hM hS hl
  subst hq
  refine va_sld C.1 C.2.1 C.2.2.2.2.2.2.1 C.2.2.2.2.2.2.2.1 (Nat.not_le.mpr C.2.2.2.2.2.2.2.1) hS (vp_in_nI hj hL) hd ?_
  rw [nI_clamp (Nat.lt_trans hj hL)]
  exact k p e s m below meth c C K H locs ls hP hM hS hl
theorem zl_slen (hq : pc + 1 = q) (hd : decode code pc = .ok (.arraylength, 1)) (k : zL Gc Gm b L xs q lv (.int (nI L) :: st) σc σm) : zL Gc Gm b L xs pc lv (.ref b :: st) σc σm := by
  intro p e s m below meth c C K H locs ls hP hM hS hl
  subst hq
  exact va_slen C.1 C.2.1 C.2.2.2.2.2.2.1 C.2.2.2.2.2.2.2.1 (Nat.not_le.mpr C.2.2.2.2.2.2.2.1) hS hd (k p e s m below meth c C K H locs ls hP hM hS hl)
theorem zl_if_eq {x : Int32} {off : Int} {tgt : Nat} (hq : pc + 3 = q) (ht : (pc : Int) + off = (tgt : Int)) (hd : decode code pc = .ok (.ifCond .eq off, 3)) (kt : x = 0 → zL Gc Gm b L xs tgt lv st σc σm) (kf : ¬ x = 0 → zL Gc Gm b L xs q lv st σc σm) : zL Gc Gm b L xs pc lv (.int x :: st) σc σm := by
  intro p e s m below meth c C K H locs ls hP hM hS hl
  subst hq
  exact lv_if_eq C.1 C.2.1 hd ht (fun h => kt h p e s m below meth c C K H locs ls hP hM hS hl) (fun h => kf h p e s m below meth c C K H locs ls hP hM hS hl)
theorem zl_icmp_eq {x y : Int32} {off : Int} {tgt : Nat} (hq : pc + 3 = q) (ht : (pc : Int) + off = (tgt : Int)) (hd : decode code pc = .ok (.if_icmp .eq off, 3)) (kt : x = y → zL Gc Gm b L xs tgt lv st σc σm) (kf : ¬ x = y → zL Gc Gm b L xs q lv st σc σm) : zL Gc Gm b L xs pc lv (.int y :: .int x :: st) σc σm := by
  intro p e s m below meth c C K H locs ls hP hM hS hl
  subst hq
  exact lv_icmp_eq C.1 C.2.1 hd ht (fun h => kt h p e s m below meth c C K H locs ls hP hM hS hl) (fun h => kf h p e s m below meth c C K H locs ls hP hM hS hl)
theorem zl_icmp_gt {x y : Int32} {off : Int} {tgt : Nat} (hq : pc + 3 = q) (ht : (pc : Int) + off = (tgt : Int)) (hd : decode code pc = .ok (.if_icmp .gt off, 3)) (kt : y < x → zL Gc Gm b L xs tgt lv st σc σm) (kf : ¬ y < x → zL Gc Gm b L xs q lv st σc σm) : zL Gc Gm b L xs pc lv (.int y :: .int x :: st) σc σm := by
  intro p e s m below meth c C K H locs ls hP hM hS hl
  subst hq
  exact lv_icmp_gt C.1 C.2.1 hd ht (fun h => kt h p e s m below meth c C K H locs ls hP hM hS hl) (fun h => kf h p e s m below meth c C K H locs ls hP hM hS hl)
theorem zl_goto {off : Int} {tgt : Nat} (ht : (pc : Int) + off = (tgt : Int)) (hd : decode code pc = .ok (.goto off, 3)) (k : zL Gc Gm b L xs tgt lv st σc σm) : zL Gc Gm b L xs pc lv st σc σm := by
  intro p e s m below meth c C K H locs ls hP hM hS hl
  exact lv_goto C.1 C.2.1 hd ht (k p e s m below meth c C K H locs ls hP hM hS hl)
theorem zl_iinc {i : Nat} {n : Int} {x v : Int32} (j : Nat) (hq : pc + 3 = q) (hd : decode code pc = .ok (.iinc i n, 3)) (hj : lv[j]? = some (i, .int x)) (hv : x + Int32.ofInt n = v) (hn : i < 4) (hl1 : (i, Value.int v) :: lv.filter (fun q => !(q.1 == i) && !(q.1 + 1 == i && q.2.category == 2)) = lv1) (k : zL Gc Gm b L xs q lv1 st σc σm) : zL Gc Gm b L xs pc lv st σc σm := by
  intro p e s m below meth c C K H locs ls hP hM hS hl
  subst hq
  exact lv_iinc C.1 C.2.1 hd hl hj hv hn hl1 (fun ls hl => k p e s m below meth c C K H locs ls hP hM hS hl)
theorem zl_tableOut {dflt lo hi : Int} {offs : Array Int} {len : Nat} {x : Int32} {tgt : Nat} (hd : decode code pc = .ok (.tableswitch dflt lo hi offs, len)) (h : x.toInt < lo ∨ hi < x.toInt) (ht : (pc : Int) + dflt = (tgt : Int)) (k : zL Gc Gm b L xs tgt lv st σc σm) : zL Gc Gm b L xs pc lv (.int x :: st) σc σm := by
  intro p e s m below meth c C K H locs ls hP hM hS hl
  exact lv_tableOut C.1 C.2.1 hd h ht (k p e s m below meth c C K H locs ls hP hM hS hl)
theorem zl_tableIn {dflt lo hi : Int} {offs : Array Int} {len : Nat} {x : Int32} {off : Int} {tgt : Nat} (hd : decode code pc = .ok (.tableswitch dflt lo hi offs, len)) (h1 : ¬ x.toInt < lo) (h2 : ¬ hi < x.toInt) (ho : offs[(x.toInt - lo).toNat]? = some off) (ht : (pc : Int) + off = (tgt : Int)) (k : zL Gc Gm b L xs tgt lv st σc σm) : zL Gc Gm b L xs pc lv (.int x :: st) σc σm := by
  intro p e s m below meth c C K H locs ls hP hM hS hl
  exact lv_tableIn C.1 C.2.1 hd h1 h2 ho ht (k p e s m below meth c C K H locs ls hP hM hS hl)
theorem zl_true (hd : decode code pc = .ok (.ireturn, 1)) : zL Gc Gm b L xs pc lv [.int 1] σc σm := by
  intro p e s m below meth c C K H locs ls hP hM hS hl
  refine va_forget (fun q hq => hS.2.2 q hq) ?_
  refine W.widen (k := 600000) (n := 7302250) (by decide) (by decide) ?_
  exact lw_ret C.1 C.2.1 C.2.2.1 C.2.2.2.2.2.2.2.2.1 hd
/-- what a world asks at a call out of the law -/
theorem zKL_c {s U : State} {H : Heap} {locs : List Loc} (K : zKL Gc Gm s) (hS : va_S (zAn s) s.heap H locs) (hU : U.heap = H) (hW : s.WarmedH U.vm) : zK Gc U := by
  refine ⟨va_K.moved hW.alike K.1, K.2.2.1, fun hn => ?_⟩
  have hq : ∀ a : Nat, a < s.heap.size → ¬ zreg Gc a → U.heap[a]? = s.heap[a]? := fun a h1 _ => by rw [hU]; exact hS.2.1 a h1 (Nat.not_le.mpr h1)
  exact ⟨((K.2.2.2.2.2.2.2.1.1.narrow K.2.2.2.2.2.1).kept hq).moved hW.alike, ((K.2.2.2.2.2.2.2.1.2.narrow K.2.2.2.2.2.1).kept hq).moved hW.alike⟩
theorem zKL_m {s U : State} (K : zKL Gc Gm s) (hW : s.WarmedH U.vm) : zK Gm U := ⟨va_K.moved hW.alike K.2.1, K.2.2.2.1, fun hn => absurd hn (by rw [K.2.2.2.2.2.2.2.2.2.1]; decide)⟩
theorem zcl {s : State} {args : Array Value} {own : String} {idx n : Nat} {Yc : ZY} (hts : ∀ w ∈ lw_tbl, w.before args s = true) (lk : zLc own idx Yc n) : CallB room_1 s args own idx Yc.1 Yc.2.1 Yc.2.2.1 Yc.2.2.2 (Cond.code Yc.1 Yc.2.1 Yc.2.2.1 Yc.2.2.2 :: ztb) (zrm 9) 0 0 n :=
  callB_of n hts (fun w hw => ⟨ztb_lw ((zGoodIn lk.2.2.1) w hw).1, ((zGoodIn lk.2.2.1) w hw).2⟩) rfl rfl rfl (hts _ (ztb_lw lk.2.1)) (hts _ (ztb_lw lk.1)) lk.2.2.2.1 ⟨by decide, by have := lk.2.2.2.2; show 8 + (Yc.2.2.1 + 11) + 30 * 9 ≤ 422; omega⟩
theorem zw_callL {G : ZG} {σ1 : ZM} {p : Program} {l : Launch} {e : Env} {R : Room} {s : State} {m : MethodId} {args : Array Value} {below : List Frame} {meth : Method} {c : Code} {H : Heap} {locs : List Loc} {Q : State → Prop} {ls : Array Slot} {rest st0 : List Value} {a : Array Value} {rv : Option Value} {cells slots : Nat} (hr : va_Run p l e R s m args below meth c H locs cells slots 0 0 (F0 m pc ls st0) rest (zQ G rv σ1 a) (zreg G)) (hS : va_S (zAn s) s.heap H locs) (hA : ∀ q, zreg G q → zAn s q)
    (kk : ∀ (H1 : Heap) (locs1 : List Loc), va_P G.2.1 vwCl (zws G σ1) H1 → (∀ q : Nat, q < H.size → ¬ zreg G q → H1[q]? = H[q]?) → va_S (zAn s) s.heap H1 locs1 → W p l e R s m args below meth c H1 locs1 cells slots Q (F0 m (pc + 3) ls (rv.toList ++ rest))) : W p l e R s m args below meth c H locs cells slots Q (F0 m pc ls st0) := by
  intro T hT X
  obtain ⟨v, st₀, t, T', L, h0, X', hL, e1, e2, ⟨⟨hv, hz0⟩, hz, hk⟩, st⟩ := hr T hT X
  cases hv
  rw [h0] at hz hk
  obtain ⟨t2, a1, b1⟩ := kk T'.heap (locs ++ L) (by rw [e1]; exact hz0.1) (fun q h1 h2 => by rw [e1]; exact hk q h1 h2)
    ⟨Nat.le_trans hS.1 (by rw [e1]; exact hz), fun q h1 h2 => by rw [e1, hk q (Nat.lt_of_lt_of_le h1 hS.1) (fun z => h2 (hA q z))]; exact hS.2.1 q h1 h2, fun q hq => by
      rcases List.mem_append.mp hq with h | h
      · exact hS.2.2 q h
      · exact hA _ (hL q h)⟩ T' rfl X'
  exact ⟨t2, st t2 a1, b1⟩
theorem zkeep {G G2 : ZG} {D : va_G} {σ : ZM} {H H1 : Heap} (hP : va_P D vwCl (zws G σ) H) (hdis : ∀ q, zreg G q → ¬ zreg G2 q) (hk : ∀ q : Nat, q < H.size → ¬ zreg G2 q → H1[q]? = H[q]?) : va_P D vwCl (zws G σ) H1 :=
  hP.kept fun k q hq => hk q.1 (hP k q hq).lt (hdis q.1 ⟨k, (zws_lt hq).1, (zws_lt hq).2⟩)
theorem zl_callC {idx n : Nat} {Yc : ZY} {As rest st0 st1 : List Value} {rv : Option Value} {σ1 : ZM} (hq : pc + 3 = q) (hd : decode code pc = .ok (.invokevirtual idx, 3)) (lk : zLV RL idx Yc 8 n) (hG : zSH Gc = shC) (hst : st0 = As.reverse ++ .ref (zad Gc 0) :: rest) (hn : As.length = n) (hr : (rest.map fun v => v.category).sum ≤ 8) (hct : zCt Gc 9 Yc (.ref (zad Gc 0) :: As) σc rv σ1) (h1 : rv.toList ++ rest = st1) (k : zL Gc Gm b L xs q lv st1 σ1 σm) : zL Gc Gm b L xs pc lv st0 σc σm := by
  intro p e s m below meth c C K H locs ls hP hM hS hl
  subst hq
  subst h1
  obtain ⟨lc, l1, l2, qc, l3, l4⟩ := lk
  have hown : s.vm.findClass RL = some m.cls := C.2.2.2.2.1
  refine zw_callL (G := Gc) (va_runV (C := Yc.1.cls) (own := RL) (Ts := lw_tbl) ⟨C.1, C.2.1, C.2.2.2.1, hown, C.2.2.2.2.2.1⟩ hct ⟨zcl C.2.2.2.2.2.1 lc, C.2.2.2.2.2.1 _ (ztb_lw l1), C.2.2.2.2.2.1 _ (ztb_lw l2)⟩ ⟨zblind Gc _ σc, ?_, fun U hU hW => ⟨rfl, by rw [hU]; exact hP, zKL_c K hS hU hW⟩⟩ rfl hn hl.1 hst (lv_room hr) hd ⟨by decide, by decide⟩) hS K.2.2.2.2.2.1 (fun H1 locs1 hP1 hk hS1 => k p e s m below meth c C K H1 locs1 ls hP1 (zkeep (G2 := Gc) hM (fun q h h2 => K.2.2.2.2.1 q h2 h) hk) hS1 hl)
  rw [← l4]
  exact va_recv K.1 hP l3 (zws_at (sc0 hG))
theorem zl_callM {idx n : Nat} {Yc : ZY} {As rest st0 st1 : List Value} {rv : Option Value} {σ1 : ZM} (hq : pc + 3 = q) (hd : decode code pc = .ok (.invokevirtual idx, 3)) (lk : zLV RL idx Yc 9 n) (hG : zSH Gm = shM) (hst : st0 = As.reverse ++ .ref (zad Gm 0) :: rest) (hn : As.length = n) (hr : (rest.map fun v => v.category).sum ≤ 8) (hct : zCt Gm 9 Yc (.ref (zad Gm 0) :: As) σm rv σ1) (h1 : rv.toList ++ rest = st1) (k : zL Gc Gm b L xs q lv st1 σc σ1) : zL Gc Gm b L xs pc lv st0 σc σm := by
  intro p e s m below meth c C K H locs ls hP hM hS hl
  subst hq
  subst h1
  obtain ⟨lc, l1, l2, qc, l3, l4⟩ := lk
  have hown : s.vm.findClass RL = some m.cls := C.2.2.2.2.1
  have hct' : Met Gc.1 Yc.1 (Cond.code Yc.1 Yc.2.1 Yc.2.2.1 Yc.2.2.2 :: ztb) (zrm 9) (va_Pc (.ref (zad Gm 0) :: As) (zW Gm σm)) (zQ Gm rv σ1) 0 0 (zreg Gm) := by rw [K.2.2.2.2.2.2.2.2.2.2]; exact hct
  refine zw_callL (G := Gm) (va_runV (C := Yc.1.cls) (own := RL) (Ts := lw_tbl) ⟨C.1, C.2.1, C.2.2.2.1, hown, C.2.2.2.2.2.1⟩ hct' ⟨zcl C.2.2.2.2.2.1 lc, C.2.2.2.2.2.1 _ (ztb_lw l1), C.2.2.2.2.2.1 _ (ztb_lw l2)⟩ ⟨zblind Gm _ σm, ?_, fun U hU hW => ⟨rfl, by rw [hU]; exact hM, zKL_m K hW⟩⟩ rfl hn hl.1 hst (lv_room hr) hd ⟨by decide, by decide⟩) hS K.2.2.2.2.2.2.1 (fun H1 locs1 hP1 hk hS1 => k p e s m below meth c C K H1 locs1 ls (zkeep (G2 := Gm) hP (fun q h h2 => K.2.2.2.2.1 q h h2) hk) hP1 hS1 hl)
  rw [← l4]
  exact va_recv K.2.1 hM l3 (zws_at (sm0 hG))
end ZLR
def zbo (v : Int32) : Int32 := if v = 0 then 0 else 1
theorem zni (i k : Nat) {v : Int32} (h : v = nI k) : nI i + v = nI (i + k) := by rw [h, nI_add]
theorem lg_cmp_self (x : Int64) : lg_cmp x x = 0 := by
  unfold lg_cmp
  rw [if_neg (show ¬ x > x from fun h => absurd h (by simp [Int64.lt_iff_toInt_lt])), if_pos rfl]
/-- a call of the class and the same call of the reference answer alike, and what they leave belongs together again -/
def zSt {R : Type} (Inv : ZM → ZM → Prop) (f g : ZM → Option (R × ZM)) : Prop := ∀ σc σm, Inv σc σm → ∃ (r : R) (σc' σm' : ZM), f σc = some (r, σc') ∧ g σm = some (r, σm') ∧ Inv σc' σm'
