/-! ===== the abstract state: numbers by a code and a place =====
 0: 0 nets, 1 ties, 2 sites, 3 trials; 1: what b is to a at 10 a + b; 2 askers; 3 guess; 4 home; 5 room; 6 up; 7 kind; 8 held; 9 near; 10 late at 4 n + s; 11 aimed (5: not told);
 12 sites of a trial; 13 kind, 14 held, 15 near, 16 up at 4 t + s; 17 seen at 10 t + n (4: nothing, 5: none) -/
abbrev AS : Type := Nat → Nat → Nat
def au (α : AS) (k i v : Nat) : AS := fun a j => if a = k ∧ j = i then v else α a j
theorem au_s {α : AS} {k i v : Nat} : au α k i v k i = v := by simp [au]
theorem au_n {α : AS} {k i v a j : Nat} (h : ¬ (a = k ∧ j = i)) : au α k i v a j = α a j := by simp [au, h]
def sI (v : Nat) : Int32 := if v = 5 then -9 else nI v
def aC (v : Nat) : Int32 := if v = 5 then -1 else nI v
/-- rows (cell, first slot, code, first place, how many): the memory pictures the state there -/
abbrev ZT : Type := List (Nat × Nat × Nat × Nat × Nat)
def zrt (enc : Nat → Int32) (T : ZT) (α : AS) (σ : ZM) : Prop := ∀ e ∈ T, ∀ i, i < e.2.2.2.2 → σ.1 e.1 (e.2.1 + i) = enc (α e.2.2.1 (e.2.2.2.1 + i))
def zcoh (T : ZT) (c o k ko b : Nat) : Bool := T.all fun e => (List.range e.2.2.2.2).all fun j => (List.range b).all fun i => decide ((e.1 = c ∧ e.2.1 + j = o + i) ↔ (e.2.2.1 = k ∧ e.2.2.2.1 + j = ko + i))
theorem zcoh_use {T : ZT} {c o k ko b : Nat} (h : zcoh T c o k ko b = true) {e : Nat × Nat × Nat × Nat × Nat} (he : e ∈ T) {j i : Nat} (hj : j < e.2.2.2.2) (hi : i < b) : (e.1 = c ∧ e.2.1 + j = o + i) ↔ (e.2.2.1 = k ∧ e.2.2.2.1 + j = ko + i) := by
  have h1 := List.all_eq_true.mp h e he
  have h2 := List.all_eq_true.mp h1 j (List.mem_range.mpr hj)
  have h3 := List.all_eq_true.mp h2 i (List.mem_range.mpr hi)
  exact of_decide_eq_true h3
theorem zuI_s {σ : ZM} {k i : Nat} {v : Int32} : (zuI σ k i v).1 k i = v := by simp [zuI, upd]
theorem zuI_n {σ : ZM} {k i a j : Nat} {v : Int32} (h : ¬ (a = k ∧ j = i)) : (zuI σ k i v).1 a j = σ.1 a j := by
  simp only [zuI]
  by_cases ha : a = k
  · subst ha
    have hj : j ≠ i := fun e => h ⟨rfl, e⟩
    simp [upd, hj]
  · rw [if_neg ha]
theorem zrt_upd {enc : Nat → Int32} {T : ZT} {α : AS} {σ : ZM} {c o k ko b : Nat} (h : zrt enc T α σ) (hc : zcoh T c o k ko b = true) {i : Nat} (hi : i < b) (v : Nat) {x : Int32} (hx : x = enc v) : zrt enc T (au α k (ko + i) v) (zuI σ c (o + i) x) := by
  intro e he j hj
  have hh := zcoh_use hc he hj hi
  by_cases h1 : e.1 = c ∧ e.2.1 + j = o + i
  · have h2 := hh.mp h1
    rw [h1.1, h1.2, h2.1, h2.2, zuI_s, au_s, hx]
  · have h2 : ¬ (e.2.2.1 = k ∧ e.2.2.2.1 + j = ko + i) := fun q => h1 (hh.mpr q)
    rw [zuI_n h1, au_n h2]
    exact h e he j hj
def zoff (T : ZT) (c k : Nat) : Bool := T.all fun e => decide (e.1 ≠ c ∧ e.2.2.1 ≠ k)
theorem zrt_off {enc : Nat → Int32} {T : ZT} {α : AS} {σ : ZM} {c o k ko : Nat} {x : Int32} {v : Nat} (h : zrt enc T α σ) (hc : zoff T c k = true) : zrt enc T (au α k ko v) (zuI σ c o x) := by
  intro e he j hj
  have h1 := of_decide_eq_true (List.all_eq_true.mp hc e he)
  rw [zuI_n (fun q => h1.1 q.1), au_n (fun q => h1.2 q.1)]
  exact h e he j hj
/-- places that a function may change aren't among the rows -/
def zfree2 (T : ZT) (W : List (Nat × Option Nat)) : Bool := T.all fun e => (List.range e.2.2.2.2).all fun j => decide ((e.1, none) ∉ W ∧ (e.1, some (e.2.1 + j)) ∉ W)
theorem zrt_fr {enc : Nat → Int32} {T : ZT} {α : AS} {σ σ' : ZM} {W : List (Nat × Option Nat)} (h : zrt enc T α σ) (hW : zag W σ σ') (hc : zfree2 T W = true) : zrt enc T α σ' := by
  intro e he j hj
  have h1 := of_decide_eq_true (List.all_eq_true.mp (List.all_eq_true.mp hc e he) j (List.mem_range.mpr hj))
  rw [(hW e.1 (e.2.1 + j) h1.1 h1.2).1]
  exact h e he j hj
/-! the rows of the class and of the reference -/
def TC : ZT := [(1, 0, 0, 0, 2), (12, 0, 0, 2, 1), (38, 5, 0, 3, 1), (2, 0, 2, 0, 10), (3, 0, 3, 0, 10), (4, 0, 1, 0, 100), (8, 0, 4, 0, 4), (9, 0, 5, 0, 4), (11, 0, 10, 0, 40), (13, 0, 7, 0, 4), (14, 0, 8, 0, 4), (15, 0, 9, 0, 4), (16, 0, 6, 0, 4),
  (49, 0, 12, 0, 1), (50, 0, 13, 0, 4), (51, 0, 14, 0, 4), (52, 0, 15, 0, 4), (53, 0, 16, 0, 4), (56, 0, 12, 1, 1), (57, 0, 13, 4, 4), (58, 0, 14, 4, 4), (59, 0, 15, 4, 4), (60, 0, 16, 4, 4), (63, 0, 12, 2, 1), (64, 0, 13, 8, 4), (65, 0, 14, 8, 4), (66, 0, 15, 8, 4), (67, 0, 16, 8, 4),
  (70, 0, 12, 3, 1), (71, 0, 13, 12, 4), (72, 0, 14, 12, 4), (73, 0, 15, 12, 4), (74, 0, 16, 12, 4), (77, 0, 12, 4, 1), (78, 0, 13, 16, 4), (79, 0, 14, 16, 4), (80, 0, 15, 16, 4), (81, 0, 16, 16, 4), (84, 0, 12, 5, 1), (85, 0, 13, 20, 4), (86, 0, 14, 20, 4), (87, 0, 15, 20, 4), (88, 0, 16, 20, 4)]
def TS : ZT := [(54, 0, 17, 0, 10), (61, 0, 17, 10, 10), (68, 0, 17, 20, 10), (75, 0, 17, 30, 10), (82, 0, 17, 40, 10), (89, 0, 17, 50, 10)]
def TA : ZT := [(10, 0, 11, 0, 4)]
def TM : ZT := [(0, 0, 0, 0, 2), (0, 5, 0, 2, 1), (0, 33, 0, 3, 1), (1, 0, 1, 0, 100), (2, 0, 2, 0, 10), (3, 0, 3, 0, 10), (4, 0, 4, 0, 4), (5, 0, 5, 0, 4), (6, 0, 6, 0, 4), (7, 0, 7, 0, 4), (8, 0, 8, 0, 4), (9, 0, 9, 0, 4), (10, 0, 10, 0, 40), (28, 0, 12, 0, 6), (29, 0, 13, 0, 24), (30, 0, 14, 0, 24), (31, 0, 15, 0, 24), (32, 0, 16, 0, 24)]
/-- a row of sets: bit b of the number at a says p (10 a + b) -/
def zmask (σ : ZM) (c : Nat) (p : Nat → Bool) : Prop := ∀ a, a < 10 → ∃ m : Nat, σ.1 c a = nI m ∧ m < 1024 ∧ ∀ b, b < 10 → m.testBit b = p (10 * a + b)
def RC (α : AS) (σ : ZM) : Prop := zrt nI TC α σ ∧ zrt sI TS α σ ∧ zrt aC TA α σ ∧ zmask σ 5 (fun i => decide (α 1 i ≠ 0)) ∧ zmask σ 6 (fun i => decide (α 1 i = 3))
def RM (α : AS) (σ : ZM) : Prop := zrt nI TM α σ ∧ (∀ s, s < α 0 2 → σ.1 11 s = sI (α 11 s)) ∧ ∀ t, t < α 0 3 → ∀ n, n < 10 → σ.1 33 (10 * t + n) = sI (α 17 (10 * t + n))
def zrev (v : Nat) : Nat := if v = 1 then 3 else if v = 3 then 1 else v
/-- bounds -/
def WN (α : AS) : Prop := α 0 0 ≤ 10 ∧ α 0 1 ≤ 20 ∧ α 0 2 ≤ 4 ∧ α 0 3 ≤ 6
def WT (α : AS) : Prop := (∀ i, α 1 i ≤ 3) ∧ (∀ a b, a < 10 → b < 10 → α 1 (10 * b + a) = zrev (α 1 (10 * a + b))) ∧ (∀ a, a < 10 → α 1 (10 * a + a) = 0) ∧ ∀ a b, a < 10 → b < 10 → α 0 0 ≤ a → α 1 (10 * a + b) = 0
def WG (α : AS) : Prop := ∀ n, n < α 0 0 → 1 ≤ α 3 n ∧ α 3 n ≤ 15
def WQ (α : AS) : Prop := (∀ n, α 2 n ≤ 10000) ∧ (∀ s, α 5 s ≤ 100000) ∧ (∀ i, α 10 i ≤ 999)
def WH (α : AS) : Prop := ∀ s, s < α 0 2 → α 4 s < α 0 0
def WW (α : AS) : Prop := (∀ s, α 6 s ≤ 1) ∧ (∀ s, α 7 s ≤ 4) ∧ (∀ s, α 8 s < 2 ^ α 0 0) ∧ (∀ s, α 9 s ≤ 1) ∧ (∀ s, α 0 2 ≤ s → α 6 s = 0 ∧ α 7 s = 0 ∧ α 8 s = 0 ∧ α 9 s = 0) ∧ ∀ s, α 11 s ≤ 5 ∧ (α 0 2 ≤ s → α 11 s = 5)
def WX (α : AS) : Prop := (∀ t, α 12 t ≤ α 0 2) ∧ (∀ i, α 13 i ≤ 4) ∧ (∀ i, α 14 i < 2 ^ α 0 0) ∧ (∀ i, α 15 i ≤ 1) ∧ (∀ i, α 16 i ≤ 1) ∧ ∀ t n, n < 10 → α 17 (10 * t + n) ≤ 5 ∧ (α 17 (10 * t + n) < 4 → α 17 (10 * t + n) < α 0 2) ∧ ((α 0 3 ≤ t ∨ α 0 0 ≤ n) → α 17 (10 * t + n) = 4)
def WF (α : AS) : Prop := WN α ∧ WT α ∧ WG α ∧ WQ α ∧ WH α ∧ WW α ∧ WX α
def Stale (σ : ZM) : Prop := σ.1 23 14 = 1 ∧ σ.1 38 15 = 1 ∧ σ.1 38 16 = 0
/-- a call that both answer alike; the caches are as they were, or stale -/
def zMut {R : Type} (f g : ZM → Option (R × ZM)) : Prop := ∀ (α : AS) (σc σm : ZM), WF α → RC α σc → RM α σm → ∃ (r : R) (σc1 σm1 : ZM) (α1 : AS), f σc = some (r, σc1) ∧ g σm = some (r, σm1) ∧ WF α1 ∧ RC α1 σc1 ∧ RM α1 σm1 ∧ ((σc1 = σc ∧ α1 = α) ∨ Stale σc1)
theorem zMut.same {R : Type} {f g : ZM → Option (R × ZM)} {α : AS} {σc σm : ZM} (h1 : WF α) (h2 : RC α σc) (h3 : RM α σm) {r : R} (e1 : f σc = some (r, σc)) (e2 : g σm = some (r, σm)) : ∃ (r : R) (σc1 σm1 : ZM) (α1 : AS), f σc = some (r, σc1) ∧ g σm = some (r, σm1) ∧ WF α1 ∧ RC α1 σc1 ∧ RM α1 σm1 ∧ ((σc1 = σc ∧ α1 = α) ∨ Stale σc1) := ⟨r, σc, σm, α, e1, e2, h1, h2, h3, Or.inl ⟨rfl, rfl⟩⟩
/-! single reads out of the rows -/
theorem RC.at {α : AS} {σ : ZM} (h : RC α σ) (c o k ko b : Nat) (he : (c, o, k, ko, b) ∈ TC) {i : Nat} (hi : i < b) : σ.1 c (o + i) = nI (α k (ko + i)) := h.1 _ he i hi
theorem RM.at {α : AS} {σ : ZM} (h : RM α σ) (c o k ko b : Nat) (he : (c, o, k, ko, b) ∈ TM) {i : Nat} (hi : i < b) : σ.1 c (o + i) = nI (α k (ko + i)) := h.1 _ he i hi
theorem RC.nets {α : AS} {σ : ZM} (h : RC α σ) : σ.1 1 0 = nI (α 0 0) := h.at 1 0 0 0 2 (by decide) (i := 0) (by decide)
theorem RC.ties {α : AS} {σ : ZM} (h : RC α σ) : σ.1 1 1 = nI (α 0 1) := h.at 1 0 0 0 2 (by decide) (i := 1) (by decide)
theorem RC.sites {α : AS} {σ : ZM} (h : RC α σ) : σ.1 12 0 = nI (α 0 2) := h.at 12 0 0 2 1 (by decide) (i := 0) (by decide)
theorem RC.trials {α : AS} {σ : ZM} (h : RC α σ) : σ.1 38 5 = nI (α 0 3) := h.at 38 5 0 3 1 (by decide) (i := 0) (by decide)
theorem RM.nets {α : AS} {σ : ZM} (h : RM α σ) : σ.1 0 0 = nI (α 0 0) := h.at 0 0 0 0 2 (by decide) (i := 0) (by decide)
theorem RM.ties {α : AS} {σ : ZM} (h : RM α σ) : σ.1 0 1 = nI (α 0 1) := h.at 0 0 0 0 2 (by decide) (i := 1) (by decide)
theorem RM.sites {α : AS} {σ : ZM} (h : RM α σ) : σ.1 0 5 = nI (α 0 2) := h.at 0 5 0 2 1 (by decide) (i := 0) (by decide)
theorem RM.trials {α : AS} {σ : ZM} (h : RM α σ) : σ.1 0 33 = nI (α 0 3) := h.at 0 33 0 3 1 (by decide) (i := 0) (by decide)
/-! tests of numbers -/
def zbI (p : Prop) [Decidable p] : Int32 := if p then 1 else 0
theorem zbI_t {p : Prop} [Decidable p] (h : p) : zbI p = 1 := if_pos h
theorem zbI_f {p : Prop} [Decidable p] (h : ¬ p) : zbI p = 0 := if_neg h
theorem zw_within (N : Nat) (x m : Int32) (σ : ZM) : f_X8_within N x m σ = some (zbI (0 ≤ x.toInt ∧ x.toInt ≤ m.toInt), σ) := by
  unfold f_X8_within zbI
  by_cases h1 : x < 0
  · have h1' := Int32.lt_iff_toInt_lt.mp h1
    have : ¬ (0 ≤ x.toInt ∧ x.toInt ≤ m.toInt) := fun q => by have : (0 : Int32).toInt = 0 := rfl; omega
    rw [if_pos h1, if_neg this]
  · rw [if_neg h1]
    have h1' : 0 ≤ x.toInt := by
      have h0 : ¬ x.toInt < (0 : Int32).toInt := fun q => h1 (Int32.lt_iff_toInt_lt.mpr q)
      have e : (0 : Int32).toInt = 0 := rfl
      omega
    by_cases h2 : m < x
    · have h2' := Int32.lt_iff_toInt_lt.mp h2
      rw [if_pos h2, if_neg (by omega)]
    · have h2' : ¬ m.toInt < x.toInt := fun q => h2 (Int32.lt_iff_toInt_lt.mpr q)
      rw [if_neg h2, if_pos (by omega)]
theorem lg_lt0 (x y : Int64) : lg_cmp x y < 0 ↔ x.toInt < y.toInt := by
  unfold lg_cmp
  simp only [gt_iff_lt, Int64.lt_iff_toInt_lt, ← Int64.toInt_inj]
  by_cases h1 : y.toInt < x.toInt
  · rw [if_pos h1]; constructor
    · intro h; exact absurd h (by decide)
    · intro h; omega
  · rw [if_neg h1]
    by_cases h2 : x.toInt = y.toInt
    · rw [if_pos h2]; constructor
      · intro h; exact absurd h (by decide)
      · intro h; omega
    · rw [if_neg h2]; constructor
      · intro _; omega
      · intro _; decide
theorem lg_gt0 (x y : Int64) : 0 < lg_cmp x y ↔ y.toInt < x.toInt := by
  unfold lg_cmp
  simp only [gt_iff_lt, Int64.lt_iff_toInt_lt, ← Int64.toInt_inj]
  by_cases h1 : y.toInt < x.toInt
  · rw [if_pos h1]; constructor
    · intro _; exact h1
    · intro _; decide
  · rw [if_neg h1]
    by_cases h2 : x.toInt = y.toInt
    · rw [if_pos h2]; constructor
      · intro h; exact absurd h (by decide)
      · intro h; omega
    · rw [if_neg h2]; constructor
      · intro h; exact absurd h (by decide)
      · intro h; omega
theorem zw_in (N : Nat) (x a b : Int64) (σ : ZM) : f_X9_in N x a b σ = some (zbI (a.toInt ≤ x.toInt ∧ x.toInt ≤ b.toInt), σ) := by
  unfold f_X9_in zbI
  by_cases h1 : lg_cmp x a < 0
  · rw [if_pos h1, if_neg (by have := (lg_lt0 x a).mp h1; omega)]
  · rw [if_neg h1]
    have h1' : ¬ x.toInt < a.toInt := fun q => h1 ((lg_lt0 x a).mpr q)
    by_cases h2 : 0 < lg_cmp x b
    · rw [if_pos h2, if_neg (by have := (lg_gt0 x b).mp h2; omega)]
    · have h2' : ¬ b.toInt < x.toInt := fun q => h2 ((lg_gt0 x b).mpr q)
      rw [if_neg h2, if_pos (by omega)]
theorem z64 (x : Int32) : (Int32.toInt64 x).toInt = x.toInt := by simp
theorem zw_has (N : Nat) (x : Int32) (σ : ZM) {n : Nat} (hn : σ.1 1 0 = nI n) (h : n ≤ 10) : f_X3_has N x σ = some (zbI (0 ≤ x.toInt ∧ x.toInt < n), σ) := by
  unfold f_X3_has zbI
  rw [hn]
  by_cases h1 : x < 0
  · have h1' := Int32.lt_iff_toInt_lt.mp h1
    rw [if_pos h1, if_neg (by have : (0 : Int32).toInt = 0 := rfl; omega)]
  · rw [if_neg h1]
    have h1' : 0 ≤ x.toInt := by
      have h0 : ¬ x.toInt < (0 : Int32).toInt := fun q => h1 (Int32.lt_iff_toInt_lt.mpr q)
      have e : (0 : Int32).toInt = 0 := rfl
      omega
    have e2 : (nI n).toInt = n := nI_toInt (by omega)
    by_cases h2 : nI n ≤ x
    · have h2' := Int32.le_iff_toInt_le.mp h2
      rw [if_pos h2, if_neg (by omega)]
    · have h2' : ¬ (nI n).toInt ≤ x.toInt := fun q => h2 (Int32.le_iff_toInt_le.mpr q)
      rw [if_neg h2, if_pos (by omega)]
theorem zw_hasW (N : Nat) (w : Nat) (x : Int32) (σ : ZM) {n : Nat} (hn : σ.1 w 0 = nI n) (h : n ≤ 10) : f_X7_has N w x σ = some (zbI (0 ≤ x.toInt ∧ x.toInt < n), σ) := by
  unfold f_X7_has zbI
  rw [hn]
  by_cases h1 : x < 0
  · have h1' := Int32.lt_iff_toInt_lt.mp h1
    rw [if_pos h1, if_neg (by have : (0 : Int32).toInt = 0 := rfl; omega)]
  · rw [if_neg h1]
    have h1' : 0 ≤ x.toInt := by
      have h0 : ¬ x.toInt < (0 : Int32).toInt := fun q => h1 (Int32.lt_iff_toInt_lt.mpr q)
      have e : (0 : Int32).toInt = 0 := rfl
      omega
    have e2 : (nI n).toInt = n := nI_toInt (by omega)
    by_cases h2 : nI n ≤ x
    · have h2' := Int32.le_iff_toInt_le.mp h2
      rw [if_pos h2, if_neg (by omega)]
    · have h2' : ¬ (nI n).toInt ≤ x.toInt := fun q => h2 (Int32.le_iff_toInt_le.mpr q)
      rw [if_neg h2, if_pos (by omega)]
theorem zpred {n : Nat} (h : n ≤ 10) : (Int32.toInt64 (nI n - (1 : Int32))).toInt = (n : Int) - 1 := by
  rw [z64, show (1 : Int32) = nI 1 from rfl, pk_sub_toInt (by omega) (by omega)]
  rfl
theorem zrz_b {p : Prop} [Decidable p] (σ : ZM) : zrz (zbI p) σ = some (zbI p, σ) := by
  unfold zrz zbI
  by_cases h : p
  · rw [if_pos h, if_pos (Or.inr rfl)]
  · rw [if_neg h, if_pos (Or.inl rfl)]
theorem zw_isNet (N : Nat) (x : Int32) (σ : ZM) {n : Nat} (hn : σ.1 0 0 = nI n) (h : n ≤ 10) : f_X9_isNet N x σ = some (zbI (0 ≤ x.toInt ∧ x.toInt < n), σ) := by
  unfold f_X9_isNet
  rw [hn, zw_in]
  show zrz _ σ = _
  rw [zrz_b]
  congr 2
  unfold zbI
  have e0 : (0 : Int64).toInt = 0 := rfl
  rw [zpred h, z64, e0]
  by_cases q : 0 ≤ x.toInt ∧ x.toInt < (n : Int)
  · rw [if_pos q, if_pos (by omega)]
  · rw [if_neg q, if_neg (by omega)]
theorem zw_isSite (N : Nat) (x : Int32) (σ : ZM) {n : Nat} (hn : σ.1 0 5 = nI n) (h : n ≤ 10) : f_X9_isSite N x σ = some (zbI (0 ≤ x.toInt ∧ x.toInt < n), σ) := by
  unfold f_X9_isSite
  rw [hn, zw_in]
  show zrz _ σ = _
  rw [zrz_b]
  congr 2
  unfold zbI
  have e0 : (0 : Int64).toInt = 0 := rfl
  rw [zpred h, z64, e0]
  by_cases q : 0 ≤ x.toInt ∧ x.toInt < (n : Int)
  · rw [if_pos q, if_pos (by omega)]
  · rw [if_neg q, if_neg (by omega)]
/-- a number that passed a test is one of ours -/
theorem zof {x : Int32} {n : Nat} (h : 0 ≤ x.toInt ∧ x.toInt < n) : ∃ j : Nat, j < n ∧ x = nI j ∧ j < 2 ^ 31 := by
  obtain ⟨j, hj, e⟩ := nI_of (x := x) (fun q => by have := Int32.lt_iff_toInt_lt.mp q; have e : (0 : Int32).toInt = 0 := rfl; omega)
  refine ⟨j, ?_, e, hj⟩
  rw [e, nI_toInt hj] at h
  omega
/-- what is remembered is forgotten -/
theorem zw_forgetAll (N : Nat) (σ : ZM) : ∃ σ1, f_X8_forgetAll N σ = some ((), σ1) ∧ zag [(23, some 14), (38, some 15), (38, some 16)] σ σ1 ∧ Stale σ1 := by
  refine ⟨zuI (zuI (zuI σ 23 14 1) 38 15 1) 38 16 0, rfl, ?_, ?_⟩
  · exact fr_X8_forgetAll (N := N) (res := ((), _)) rfl
  · refine ⟨?_, ?_, ?_⟩
    · rw [zuI_n (by decide), zuI_n (by decide), zuI_s]
    · rw [zuI_n (by decide), zuI_s]
    · rw [zuI_s]
theorem zmask_fr {σ σ' : ZM} {c : Nat} {p : Nat → Bool} {W : List (Nat × Option Nat)} (h : zmask σ c p) (hW : zag W σ σ') (hc : ((c, none) ∉ W ∧ ∀ a, a < 10 → (c, some a) ∉ W)) : zmask σ' c p := by
  intro a ha
  obtain ⟨m, h1, h2⟩ := h a ha
  exact ⟨m, by rw [(hW c a hc.1 (hc.2 a ha)).1]; exact h1, h2⟩
theorem RC.fr {α : AS} {σ σ' : ZM} {W : List (Nat × Option Nat)} (h : RC α σ) (hW : zag W σ σ') (h1 : zfree2 TC W = true) (h2 : zfree2 TS W = true) (h3 : zfree2 TA W = true) (h5 : (5, none) ∉ W ∧ ∀ a, a < 10 → (5, some a) ∉ W) (h6 : (6, none) ∉ W ∧ ∀ a, a < 10 → (6, some a) ∉ W) : RC α σ' :=
  ⟨zrt_fr h.1 hW h1, zrt_fr h.2.1 hW h2, zrt_fr h.2.2.1 hW h3, zmask_fr h.2.2.2.1 hW h5, zmask_fr h.2.2.2.2 hW h6⟩
theorem RC.forget {α : AS} {σ σ' : ZM} (h : RC α σ) (hW : zag [(23, some 14), (38, some 15), (38, some 16)] σ σ') : RC α σ' := h.fr hW (by decide +kernel) (by decide +kernel) (by decide +kernel) (by decide) (by decide)
