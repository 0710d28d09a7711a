/-! ===== loops that only read: count, cases, steps; aim; the start ===== -/
theorem zloopT {A R : Type} (F : Nat → A → Option R) (st : Nat → A) (e : Nat) (r : R) (hx : ∀ m, F (m + 1) (st e) = some r) (hs : ∀ m i, i < e → F (m + 1) (st i) = F m (st (i + 1))) : ∀ (m i : Nat), i ≤ e → e < m + i → F m (st i) = some r := by
  intro m
  induction m with
  | zero => intro i h1 h2; omega
  | succ m ih =>
    intro i h1 h2
    by_cases h : i = e
    · rw [h]; exact hx m
    · rw [hs m i (by omega)]; exact ih (i + 1) (by omega) (by omega)
theorem nz00 : (nI 0 = (0 : Int32)) = True := eq_true rfl
theorem nz10 : (nI 1 = (0 : Int32)) = False := eq_false (by decide)
theorem nz11 : (nI 1 = (1 : Int32)) = True := eq_true rfl
def zsum (f : Nat → Nat) : Nat → Nat
  | 0 => 0
  | n + 1 => zsum f n + f n
def zprod (f : Nat → Nat) : Nat → Nat
  | 0 => 1
  | n + 1 => zprod f n * f n
theorem zsum_le {f : Nat → Nat} {b : Nat} (h : ∀ i, f i ≤ b) : ∀ n, zsum f n ≤ n * b
  | 0 => by simp [zsum]
  | n + 1 => by have := zsum_le h n; have := h n; simp only [zsum]; rw [Nat.add_mul]; omega
def zpc (x : Nat) : Nat := x % 2 + x / 2 % 2 + x / 4 % 2 + x / 8 % 2
theorem zw_bit (N x : Nat) (hx : x ≤ 15) (σ : ZM) : f_J6_bitCount_0f7a4 N (nI x) σ = some (nI (zpc x), σ) := by
  rcases (show x = 0 ∨ x = 1 ∨ x = 2 ∨ x = 3 ∨ x = 4 ∨ x = 5 ∨ x = 6 ∨ x = 7 ∨ x = 8 ∨ x = 9 ∨ x = 10 ∨ x = 11 ∨ x = 12 ∨ x = 13 ∨ x = 14 ∨ x = 15 by omega) with rfl | rfl | rfl | rfl | rfl | rfl | rfl | rfl | rfl | rfl | rfl | rfl | rfl | rfl | rfl | rfl <;> rfl
theorem zw_ones (N x : Nat) (hx : x ≤ 15) (σ : ZM) : f_X9_ones N (nI x) σ = some (nI (zpc x), σ) := by
  rcases (show x = 0 ∨ x = 1 ∨ x = 2 ∨ x = 3 ∨ x = 4 ∨ x = 5 ∨ x = 6 ∨ x = 7 ∨ x = 8 ∨ x = 9 ∨ x = 10 ∨ x = 11 ∨ x = 12 ∨ x = 13 ∨ x = 14 ∨ x = 15 by omega) with rfl | rfl | rfl | rfl | rfl | rfl | rfl | rfl | rfl | rfl | rfl | rfl | rfl | rfl | rfl | rfl <;> rfl
theorem zpc_le (x : Nat) : zpc x ≤ 4 := by unfold zpc; omega
theorem RC.asks {α : AS} {σ : ZM} (h : RC α σ) {i : Nat} (hi : i < 10) : zald σ 2 10 (nI i) = some (nI (α 2 i)) := by
  rw [zald_nI hi (by decide)]
  have := h.at 2 0 2 0 10 (by decide) hi
  rw [Nat.zero_add] at this
  rw [this]
theorem RC.gues {α : AS} {σ : ZM} (h : RC α σ) {i : Nat} (hi : i < 10) : zald σ 3 10 (nI i) = some (nI (α 3 i)) := by
  rw [zald_nI hi (by decide)]
  have := h.at 3 0 3 0 10 (by decide) hi
  rw [Nat.zero_add] at this
  rw [this]
theorem RM.asks {α : AS} {σ : ZM} (h : RM α σ) {i : Nat} (hi : i < 10) : zald σ 2 10 (nI i) = some (nI (α 2 i)) := by
  rw [zald_nI hi (by decide)]
  have := h.at 2 0 2 0 10 (by decide) hi
  rw [Nat.zero_add] at this
  rw [this]
theorem RM.gues {α : AS} {σ : ZM} (h : RM α σ) {i : Nat} (hi : i < 10) : zald σ 3 10 (nI i) = some (nI (α 3 i)) := by
  rw [zald_nI hi (by decide)]
  have := h.at 3 0 3 0 10 (by decide) hi
  rw [Nat.zero_add] at this
  rw [this]
theorem RM.ups {α : AS} {σ : ZM} (h : RM α σ) {i : Nat} (hi : i < 4) : zald σ 6 4 (nI i) = some (nI (α 6 i)) := by
  rw [zald_nI hi (by decide)]
  have := h.at 6 0 6 0 4 (by decide) hi
  rw [Nat.zero_add] at this
  rw [this]
theorem zle_self {n : Nat} (h : n ≤ 100) : nI n ≤ nI n := nI_le (Nat.le_refl _) (by omega)
theorem zw_allAskers {N : Nat} (hN : 10 < N) {α : AS} {σ : ZM} (hW : WF α) (hC : RC α σ) : f_X3_allAskers N σ = some (nI (zsum (α 2) (α 0 0)), σ) := by
  have hn : α 0 0 ≤ 10 := hW.1.1
  refine zloopT (fun m (q : Int32 × Int32) => f_X3_allAskers_4 N m q.1 q.2 σ) (fun i => (nI (zsum (α 2) i), nI i)) (α 0 0) _ (fun m => ?_) (fun m i hi => ?_) N 0 (by omega) (by omega)
  · simp only [f_X3_allAskers_4, b_X3_allAskers_4, hC.nets, zle_self (show α 0 0 ≤ 100 by omega), if_true]
  · have h1 : ¬ nI (α 0 0) ≤ nI i := nI_ge hi (by omega)
    simp only [f_X3_allAskers_4, b_X3_allAskers_4, hC.nets, h1, if_false, hC.asks (show i < 10 by omega), Option.bind_some, nI_add, nI_1, zsum]
theorem zw_surely {N : Nat} (hN : 10 < N) {α : AS} {σ : ZM} (hW : WF α) (hC : RC α σ) : f_X3_surelyGuessed N σ = some (nI (zsum (fun n => if zpc (α 3 n) = 1 then 1 else 0) (α 0 0)), σ) := by
  have hn : α 0 0 ≤ 10 := hW.1.1
  refine zloopT (fun m (q : Int32 × Int32) => f_X3_surelyGuessed_4 N m q.1 q.2 σ) (fun i => (nI (zsum (fun n => if zpc (α 3 n) = 1 then 1 else 0) i), nI i)) (α 0 0) _ (fun m => ?_) (fun m i hi => ?_) N 0 (by omega) (by omega)
  · simp only [f_X3_surelyGuessed_4, b_X3_surelyGuessed_4, hC.nets, zle_self (show α 0 0 ≤ 100 by omega), if_true]
  · have h1 : ¬ nI (α 0 0) ≤ nI i := nI_ge hi (by omega)
    have hg := hW.2.2.1 i hi
    by_cases hp : zpc (α 3 i) = 1
    · have e1 : nI (zpc (α 3 i)) = (1 : Int32) := by rw [hp]; rfl
      simp only [f_X3_surelyGuessed_4, b_X3_surelyGuessed_4, hC.nets, h1, if_false, hC.gues (show i < 10 by omega), Option.bind_some, zw_bit N _ hg.2, zbd, e1, if_true, f_X3_surelyGuessed_28, nI_1, zsum, hp, nz11, if_true]
    · have e1 : ¬ nI (zpc (α 3 i)) = (1 : Int32) := fun q => hp (nI_inj (b := 1) (by have := zpc_le (α 3 i); omega) (by decide) q)
      simp only [f_X3_surelyGuessed_4, b_X3_surelyGuessed_4, hC.nets, h1, if_false, hC.gues (show i < 10 by omega), Option.bind_some, zw_bit N _ hg.2, zbd, e1, f_X3_surelyGuessed_28, nI_1, zsum, hp, Nat.add_zero]
theorem zw_upCount {N : Nat} (hN : 10 < N) {w k : Nat} {u : Nat → Nat} {σ : ZM} (hk : k ≤ 4) (h0 : σ.1 w 0 = nI k) (hu : ∀ i, i < 4 → σ.1 (w + 4) i = nI (u i)) (hu1 : ∀ i, u i ≤ 1) : f_X7_upCount N w σ = some (nI (zsum u k), σ) := by
  refine zloopT (fun m (q : Int32 × Int32) => f_X7_upCount_4 N w m q.1 q.2 σ) (fun i => (nI (zsum u i), nI i)) k _ (fun m => ?_) (fun m i hi => ?_) N 0 (by omega) (by omega)
  · simp only [f_X7_upCount_4, b_X7_upCount_4, h0, zle_self (show k ≤ 100 by omega), if_true]
  · have h1 : ¬ nI k ≤ nI i := nI_ge hi (by omega)
    have hz : zald σ (w + 4) 4 (nI i) = some (nI (u i)) := by rw [zald_nI (show i < 4 by omega) (by decide), hu i (by omega)]
    rcases (show u i = 0 ∨ u i = 1 by have := hu1 i; omega) with h | h
    · have e1 : nI (u i) = (0 : Int32) := by rw [h]; rfl
      simp only [f_X7_upCount_4, b_X7_upCount_4, h0, h1, if_false, hz, Option.bind_some, e1, if_true, f_X7_upCount_24, nI_1, zsum, h, Nat.add_zero, nz00, if_true]
    · have e1 : ¬ nI (u i) = (0 : Int32) := by rw [h]; decide
      simp only [f_X7_upCount_4, b_X7_upCount_4, h0, h1, if_false, hz, Option.bind_some, e1, f_X7_upCount_24, nI_1, zsum, h, nz10, if_false]
theorem RC.ups {α : AS} {σ : ZM} (h : RC α σ) {i : Nat} (hi : i < 4) : σ.1 16 i = nI (α 6 i) := by
  have := h.at 16 0 6 0 4 (by decide) hi
  rw [Nat.zero_add] at this
  exact this
/-- what count answers -/
def zcnt (α : AS) (x : Int32) : Int32 := if x = 0 then nI (α 0 0) else if x = 1 then nI (α 0 1) else if x = 2 then nI (α 0 2) else if x = 3 then nI (zsum (α 6) (α 0 2)) else if x = 4 then nI (α 0 3) else if x = 5 then nI (zsum (α 2) (α 0 0)) else if x = 6 then nI (zsum (fun n => if zpc (α 3 n) = 1 then 1 else 0) (α 0 0)) else -2
theorem zw_countC {N : Nat} (hN : 10 < N) {α : AS} {σ : ZM} (hW : WF α) (hC : RC α σ) (x : Int32) : f_X8_count N x σ = some (zcnt α x, σ) := by
  have hu : f_X7_upCount N 12 σ = some (nI (zsum (α 6) (α 0 2)), σ) := zw_upCount hN hW.1.2.2.1 hC.sites (fun i hi => hC.ups hi) (fun i => hW.2.2.2.2.2.1.1 i)
  unfold f_X8_count zcnt
  simp only [hC.nets, hC.ties, hC.sites, hC.trials, hu, zw_allAskers hN hW hC, zw_surely hN hW hC, zbd, Option.bind_some]
  repeat' split
  all_goals first | rfl | contradiction
theorem zw_countM {N : Nat} (hN : 10 < N) {α : AS} {σ : ZM} (hW : WF α) (hM : RM α σ) (x : Int32) : f_X9_count N x σ = some (zcnt α x, σ) := by
  have hn : α 0 0 ≤ 10 := hW.1.1
  have hs : α 0 2 ≤ 4 := hW.1.2.2.1
  have hin : ∀ u : Int32, u = nI (zsum (α 6) (α 0 2)) → f_X9_count_46 N N x u 0 0 0 σ = some (zcnt α x, σ) := by
    intro u hu
    refine zloopT (fun m (q : Int32 × Int32 × Int32) => f_X9_count_46 N m x u q.1 q.2.1 q.2.2 σ) (fun i => (nI (zsum (α 2) i), nI (zsum (fun n => if zpc (α 3 n) = 1 then 1 else 0) i), nI i)) (α 0 0) _ (fun m => ?_) (fun m i hi => ?_) N 0 (by omega) (by omega)
    · simp only [f_X9_count_46, b_X9_count_46, hM.nets, zle_self (show α 0 0 ≤ 100 by omega), if_true, hM.ties, hM.sites, hM.trials, hu, zcnt]
      repeat' split
      all_goals first | rfl | contradiction
    · have h1 : ¬ nI (α 0 0) ≤ nI i := nI_ge hi (by omega)
      have hg := hW.2.2.1 i hi
      by_cases hp : zpc (α 3 i) = 1
      · have e1 : nI (zpc (α 3 i)) = (1 : Int32) := by rw [hp]; rfl
        simp only [f_X9_count_46, b_X9_count_46, hM.nets, h1, if_false, hM.asks (show i < 10 by omega), hM.gues (show i < 10 by omega), Option.bind_some, zw_ones N _ hg.2, zbd, e1, if_true, f_X9_count_86, nI_add, nI_1, zsum, hp, nz11, if_true]
      · have e1 : ¬ nI (zpc (α 3 i)) = (1 : Int32) := fun q => hp (nI_inj (b := 1) (by have := zpc_le (α 3 i); omega) (by decide) q)
        have e0 : ∀ a : Nat, nI a + 0 = nI a := fun a => by rw [show (0 : Int32) = nI 0 from rfl, nI_add]; rfl
        simp only [f_X9_count_46, b_X9_count_46, hM.nets, h1, if_false, hM.asks (show i < 10 by omega), hM.gues (show i < 10 by omega), Option.bind_some, zw_ones N _ hg.2, zbd, e1, f_X9_count_86, nI_add, nI_1, zsum, hp, e0, Nat.add_zero]
  refine zloopT (fun m (q : Int32 × Int32) => f_X9_count_10 N m x q.1 0 0 q.2 σ) (fun i => (nI (zsum (α 6) i), nI i)) (α 0 2) _ (fun m => ?_) (fun m i hi => ?_) N 0 (by omega) (by omega)
  · simp only [f_X9_count_10, b_X9_count_10, hM.sites, zle_self (show α 0 2 ≤ 100 by omega), if_true]
    exact hin _ rfl
  · have h1 : ¬ nI (α 0 2) ≤ nI i := nI_ge hi (by omega)
    have e0 : ∀ a : Nat, nI a + 0 = nI a := fun a => by rw [show (0 : Int32) = nI 0 from rfl, nI_add]; rfl
    rcases (show α 6 i = 0 ∨ α 6 i = 1 by have := hW.2.2.2.2.2.1.1 i; omega) with h | h
    · have e1 : nI (α 6 i) = (0 : Int32) := by rw [h]; rfl
      simp only [f_X9_count_10, b_X9_count_10, hM.sites, h1, if_false, hM.ups (show i < 4 by omega), Option.bind_some, e1, if_true, f_X9_count_35, e0, nI_1, zsum, h, Nat.add_zero, nz00, if_true]
    · have e1 : ¬ nI (α 6 i) = (0 : Int32) := by rw [h]; decide
      simp only [f_X9_count_10, b_X9_count_10, hM.sites, h1, if_false, hM.ups (show i < 4 by omega), Option.bind_some, e1, f_X9_count_35, nI_1, zsum, h, nz10, if_false]
theorem mu_count {N : Nat} (hN : 10 < N) (x : Int32) : zMut (f_X8_count N x) (f_X9_count N x) := fun α σc σm hW hC hM => zMut.same hW hC hM (zw_countC hN hW hC x) (zw_countM hN hW hM x)
/-! cases -/
theorem zw_caseCount {N : Nat} (hN : 10 < N) {α : AS} {σ : ZM} (hW : WF α) (hC : RC α σ) : f_X3_caseCount N σ = some (nI (zprod (fun n => zpc (α 3 n)) (α 0 0)), σ) := by
  have hn : α 0 0 ≤ 10 := hW.1.1
  refine zloopT (fun m (q : Int32 × Int32) => f_X3_caseCount_4 N m q.1 q.2 σ) (fun i => (nI (zprod (fun n => zpc (α 3 n)) i), nI i)) (α 0 0) _ (fun m => ?_) (fun m i hi => ?_) N 0 (by omega) (by omega)
  · simp only [f_X3_caseCount_4, b_X3_caseCount_4, hC.nets, zle_self (show α 0 0 ≤ 100 by omega), if_true]
  · have h1 : ¬ nI (α 0 0) ≤ nI i := nI_ge hi (by omega)
    have hg := hW.2.2.1 i hi
    simp only [f_X3_caseCount_4, b_X3_caseCount_4, hC.nets, h1, if_false, hC.gues (show i < 10 by omega), Option.bind_some, zw_bit N _ hg.2, zbd, pk_mul, nI_1, zprod]
theorem zpc_pos {x : Nat} (h1 : 1 ≤ x) (h2 : x ≤ 15) : 1 ≤ zpc x := by
  rcases (show x = 1 ∨ x = 2 ∨ x = 3 ∨ x = 4 ∨ x = 5 ∨ x = 6 ∨ x = 7 ∨ x = 8 ∨ x = 9 ∨ x = 10 ∨ x = 11 ∨ x = 12 ∨ x = 13 ∨ x = 14 ∨ x = 15 by omega) with rfl | rfl | rfl | rfl | rfl | rfl | rfl | rfl | rfl | rfl | rfl | rfl | rfl | rfl | rfl <;> decide
theorem zprod_mono {f : Nat → Nat} {e : Nat} (h : ∀ i, i < e → 1 ≤ f i) : ∀ k i, i + k ≤ e → zprod f i ≤ zprod f (i + k)
  | 0, i, _ => Nat.le_refl _
  | k + 1, i, hk => by
    have h1 := zprod_mono h k i (by omega)
    have h2 := h (i + k) (by omega)
    show zprod f i ≤ zprod f (i + k) * f (i + k)
    exact Nat.le_trans h1 (Nat.le_mul_of_pos_right _ h2)
theorem zprod_le4 {f : Nat → Nat} (h : ∀ i, f i ≤ 4) : ∀ n, zprod f n ≤ 4 ^ n
  | 0 => Nat.le_refl _
  | n + 1 => by
    show zprod f n * f n ≤ 4 ^ n * 4
    exact Nat.mul_le_mul (zprod_le4 h n) (h n)
/-- the reference stops as soon as there are too many: what it says is the number, or one beyond 256 -/
theorem zw_caseMany {N : Nat} (hN : 10 < N) {α : AS} {σ : ZM} (hW : WF α) (hM : RM α σ) : ∃ c : Nat, f_X9_caseMany N σ = some (nI c, σ) ∧ c < 2 ^ 30 ∧ (c = zprod (fun n => zpc (α 3 n)) (α 0 0) ∨ (256 < c ∧ 256 < zprod (fun n => zpc (α 3 n)) (α 0 0))) := by
  have hn : α 0 0 ≤ 10 := hW.1.1
  have hpos : ∀ i, i < α 0 0 → 1 ≤ zpc (α 3 i) := fun i hi => zpc_pos (hW.2.2.1 i hi).1 (hW.2.2.1 i hi).2
  have hsm : ∀ i, i ≤ 10 → zprod (fun n => zpc (α 3 n)) i < 2 ^ 30 := fun i hi => Nat.lt_of_le_of_lt (zprod_le4 (fun n => zpc_le _) i) (Nat.lt_of_le_of_lt (Nat.pow_le_pow_right (by decide) hi) (by decide))
  have main : ∀ (m i : Nat), i ≤ α 0 0 → α 0 0 < m + i → ∃ c : Nat, f_X9_caseMany_4 N m (nI (zprod (fun n => zpc (α 3 n)) i)) (nI i) σ = some (nI c, σ) ∧ c < 2 ^ 30 ∧ (c = zprod (fun n => zpc (α 3 n)) (α 0 0) ∨ (256 < c ∧ 256 < zprod (fun n => zpc (α 3 n)) (α 0 0))) := by
    intro m
    induction m with
    | zero => intro i h1 h2; omega
    | succ m ih =>
      intro i h1 h2
      by_cases h : i = α 0 0
      · refine ⟨zprod (fun n => zpc (α 3 n)) (α 0 0), ?_, hsm _ hn, Or.inl rfl⟩
        rw [h]
        simp only [f_X9_caseMany_4, b_X9_caseMany_4, hM.nets, zle_self (show α 0 0 ≤ 100 by omega), if_true, f_X9_caseMany_37]
      · have hi : i < α 0 0 := by omega
        have g1 : ¬ nI (α 0 0) ≤ nI i := nI_ge hi (by omega)
        have hg := hW.2.2.1 i hi
        by_cases hb : 256 < zprod (fun n => zpc (α 3 n)) i
        · refine ⟨_, ?_, hsm i (by omega), Or.inr ⟨hb, ?_⟩⟩
          · have g2 : (256 : Int32) < nI (zprod (fun n => zpc (α 3 n)) i) := by
              rw [show (256 : Int32) = nI 256 from rfl]
              exact nI_lt hb (by have := hsm i (by omega); omega)
            simp only [f_X9_caseMany_4, b_X9_caseMany_4, hM.nets, g1, if_false, g2, if_true, f_X9_caseMany_37]
          · have := zprod_mono hpos (α 0 0 - i) i (by omega)
            rw [show i + (α 0 0 - i) = α 0 0 by omega] at this
            omega
        · have g2 : ¬ (256 : Int32) < nI (zprod (fun n => zpc (α 3 n)) i) := by
            rw [show (256 : Int32) = nI 256 from rfl]
            exact nI_nlt (by omega) (by decide)
          obtain ⟨c, e1, e2⟩ := ih (i + 1) (by omega) (by omega)
          refine ⟨c, ?_, e2⟩
          rw [← e1]
          simp only [f_X9_caseMany_4, b_X9_caseMany_4, hM.nets, g1, if_false, g2, hM.gues (show i < 10 by omega), Option.bind_some, zw_ones N _ hg.2, zbd, pk_mul, nI_1, zprod]
  exact main N 0 (by omega) (by omega)
theorem mu_cases {N : Nat} (hN : 10 < N) : zMut (f_X8_cases N) (f_X9_cases N) := by
  intro α σc σm hW hC hM
  have hn : α 0 0 ≤ 10 := hW.1.1
  have hsm : zprod (fun n => zpc (α 3 n)) (α 0 0) < 2 ^ 30 := Nat.lt_of_le_of_lt (zprod_le4 (fun n => zpc_le _) _) (Nat.lt_of_le_of_lt (Nat.pow_le_pow_right (by decide) hn) (by decide))
  obtain ⟨c, e1, e2, e3⟩ := zw_caseMany hN hW hM
  by_cases h : zprod (fun n => zpc (α 3 n)) (α 0 0) ≤ 256
  · have hc : c = zprod (fun n => zpc (α 3 n)) (α 0 0) := by omega
    have g : nI (zprod (fun n => zpc (α 3 n)) (α 0 0)) ≤ (256 : Int32) := by rw [show (256 : Int32) = nI 256 from rfl]; exact nI_le h (by decide)
    refine zMut.same hW hC hM (r := nI (zprod (fun n => zpc (α 3 n)) (α 0 0))) ?_ ?_
    · simp only [f_X8_cases, zw_caseCount hN hW hC, zbd, Option.bind_some, g, if_true]
    · rw [hc] at e1
      simp only [f_X9_cases, e1, zbd, Option.bind_some, g, if_true]
  · have g : ¬ nI (zprod (fun n => zpc (α 3 n)) (α 0 0)) ≤ (256 : Int32) := by rw [show (256 : Int32) = nI 256 from rfl]; exact nI_ge (by omega) (by omega)
    have gc : ¬ nI c ≤ (256 : Int32) := by rw [show (256 : Int32) = nI 256 from rfl]; exact nI_ge (by omega) (by omega)
    refine zMut.same hW hC hM (r := -5) ?_ ?_
    · simp only [f_X8_cases, zw_caseCount hN hW hC, zbd, Option.bind_some, g, if_false]
    · simp only [f_X9_cases, e1, zbd, Option.bind_some, gc, if_false]
