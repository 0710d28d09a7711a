/-! ===== which places of the memory a function may change ===== -/
def zag (W : List (Nat × Option Nat)) (σ σ' : ZM) : Prop := ∀ k i, (k, none) ∉ W → (k, some i) ∉ W → σ'.1 k i = σ.1 k i ∧ σ'.2 k i = σ.2 k i
theorem zag_r {W : List (Nat × Option Nat)} {σ : ZM} : zag W σ σ := fun _ _ _ _ => ⟨rfl, rfl⟩
theorem zag_t {W : List (Nat × Option Nat)} {σ s1 s2 : ZM} (h : zag W σ s1) (g : zag W s1 s2) : zag W σ s2 := fun k i h1 h2 => ⟨(g k i h1 h2).1.trans (h k i h1 h2).1, (g k i h1 h2).2.trans (h k i h1 h2).2⟩
theorem zag_w {W1 W : List (Nat × Option Nat)} {σ s1 : ZM} (hs : ∀ e ∈ W1, e ∈ W) (h : zag W1 σ s1) : zag W σ s1 := fun k i h1 h2 => h k i (fun q => h1 (hs _ q)) (fun q => h2 (hs _ q))
theorem zag_uI {σ : ZM} {k i : Nat} {v : Int32} : zag [(k, some i)] σ (zuI σ k i v) := by
  intro a j h1 h2
  refine ⟨?_, rfl⟩
  simp only [zuI]
  by_cases ha : a = k
  · subst ha
    rw [if_pos rfl]
    have : j ≠ i := fun e => h2 (by rw [e]; exact List.mem_singleton.mpr rfl)
    simp [upd, this]
  · rw [if_neg ha]
theorem zag_uJ {σ : ZM} {k i : Nat} {v : Int64} : zag [(k, some i)] σ (zuJ σ k i v) := by
  intro a j h1 h2
  refine ⟨rfl, ?_⟩
  simp only [zuJ]
  by_cases ha : a = k
  · subst ha
    rw [if_pos rfl]
    have : j ≠ i := fun e => h2 (by rw [e]; exact List.mem_singleton.mpr rfl)
    simp [vp_updL, this]
  · rw [if_neg ha]
theorem zag_all {σ s1 : ZM} {k i : Nat} (h : zag [(k, some i)] σ s1) : zag [(k, none)] σ s1 := by
  intro a j h1 h2
  refine h a j (fun q => ?_) (fun q => ?_)
  · have := List.mem_singleton.mp q; cases this
  · have := List.mem_singleton.mp q; cases this; exact h1 (List.mem_singleton.mpr rfl)
theorem zag_putI {σ s1 : ZM} {k i : Nat} {v : Int32} (h : zpI σ k i v = some s1) : zag [(k, some i)] σ s1 := by cases h; exact zag_uI
theorem zag_putZ {σ s1 : ZM} {k i : Nat} {v : Int32} (h : zpZ σ k i v = some s1) : zag [(k, some i)] σ s1 := by
  unfold zpZ at h
  split at h
  · cases h; exact zag_uI
  · cases h
theorem zag_putJ {σ s1 : ZM} {k i : Nat} {v : Int64} (h : zpJ σ k i v = some s1) : zag [(k, some i)] σ s1 := by cases h; exact zag_uJ
theorem zag_iast {σ s1 : ZM} {a n : Nat} {i v : Int32} (h : zast σ a n i v = some s1) : zag [(a, none)] σ s1 := by
  unfold zast at h
  split at h
  · cases h
  · cases h; exact zag_all zag_uI
theorem zag_zast {σ s1 : ZM} {a n : Nat} {i v : Int32} (h : zasZ σ a n i v = some s1) : zag [(a, none)] σ s1 := by
  unfold zasZ at h
  split at h
  · cases h
  · cases h; exact zag_all zag_uI
theorem zag_last {σ s1 : ZM} {a n : Nat} {i : Int32} {v : Int64} (h : zasJ σ a n i v = some s1) : zag [(a, none)] σ s1 := by
  unfold zasJ at h
  split at h
  · cases h
  · cases h; exact zag_all zag_uJ
theorem zag_copy {σ s1 : ZM} {a na b nb : Nat} {sp dp n : Int32} (h : zcpy σ a na sp b nb dp n = some s1) : zag [(b, none)] σ s1 := by
  unfold zcpy at h
  split at h
  · cases h
  · cases h
    intro k i h1 h2
    refine ⟨?_, rfl⟩
    have : k ≠ b := fun e => h1 (by rw [e]; exact List.mem_singleton.mpr rfl)
    simp [zuC, this]
theorem zi2 {α : Type} {c : Prop} [Decidable c] {A B : Option α} {r : α} (h : (if c then A else B) = some r) : (c ∧ A = some r) ∨ (¬ c ∧ B = some r) := by
  by_cases hc : c
  · exact Or.inl ⟨hc, (zi h).1 hc⟩
  · exact Or.inr ⟨hc, (zi h).2 hc⟩
theorem ztr_mem {i : Int32} {t : Nat} (h : zalR ztrl i = some t) : t = 48 ∨ t = 55 ∨ t = 62 ∨ t = 69 ∨ t = 76 ∨ t = 83 := by
  unfold zalR at h
  split at h
  · cases h
  · have hm := List.mem_of_getElem? h
    simpa [ztrl] using hm

theorem fr_X0_forget {N : Nat} {σ : ZM} {res : Unit × ZM} (h : f_X0_forget N σ = some res) : zag [(38, some 15), (38, some 16)] σ res.2 := by
  unfold f_X0_forget at h
  have hA : zag [(38, some 15), (38, some 16)] σ σ := zag_r
  obtain ⟨s1, es1, h⟩ := zb h
  replace hA := zag_t hA (zag_w (by decide) (zag_putZ es1))
  obtain ⟨s2, es2, h⟩ := zb h
  replace hA := zag_t hA (zag_w (by decide) (zag_putZ es2))
  cases h
  exact hA
theorem fr_b_X7_copy_10 {N : Nat} {w0 : Nat} {w1 : Nat} {rec10 : Int32 → ZM → Option (Unit × ZM)} {res : Unit × ZM} (hr10 : ∀ (x2 : Int32) (σ : ZM), rec10 x2 σ = some res → zag [(w0, some 0), ((w0 + 1), none), ((w0 + 2), none), ((w0 + 3), none), ((w0 + 4), none)] σ res.2) {x2 : Int32} {σ : ZM} (h : b_X7_copy_10 N w0 w1 rec10 x2 σ = some res) : zag [(w0, some 0), ((w0 + 1), none), ((w0 + 2), none), ((w0 + 3), none), ((w0 + 4), none)] σ res.2 := by
  unfold b_X7_copy_10 at h
  have hA : zag [(w0, some 0), ((w0 + 1), none), ((w0 + 2), none), ((w0 + 3), none), ((w0 + 4), none)] σ σ := zag_r
  rcases zi2 h with ⟨hc12, h⟩ | ⟨hc12, h⟩
  · skip
    cases h
    exact hA
  · skip
    obtain ⟨v1, ev1, h⟩ := zb h
    obtain ⟨s2, es2, h⟩ := zb h
    replace hA := zag_t hA (zag_w (by simp) (zag_iast es2))
    obtain ⟨v3, ev3, h⟩ := zb h
    obtain ⟨s4, es4, h⟩ := zb h
    replace hA := zag_t hA (zag_w (by simp) (zag_iast es4))
    obtain ⟨v5, ev5, h⟩ := zb h
    obtain ⟨s6, es6, h⟩ := zb h
    replace hA := zag_t hA (zag_w (by simp) (zag_zast es6))
    obtain ⟨v7, ev7, h⟩ := zb h
    obtain ⟨s8, es8, h⟩ := zb h
    replace hA := zag_t hA (zag_w (by simp) (zag_zast es8))
    obtain ⟨v9, ev9, h⟩ := zb h
    exact zag_t hA (hr10 _ _ h)
theorem fr_X7_copy_10 {N : Nat} {w0 : Nat} {w1 : Nat} {res : Unit × ZM} : ∀ (n : Nat) (x2 : Int32) (σ : ZM), f_X7_copy_10 N w0 w1 n x2 σ = some res → zag [(w0, some 0), ((w0 + 1), none), ((w0 + 2), none), ((w0 + 3), none), ((w0 + 4), none)] σ res.2 := by
  intro n
  induction n with
  | zero => intro x2 σ h; exact absurd h (by simp [f_X7_copy_10])
  | succ n ih => intro x2 σ h; rw [f_X7_copy_10] at h; exact fr_b_X7_copy_10 ih h
theorem fr_X7_copy {N : Nat} {w0 : Nat} {w1 : Nat} {σ : ZM} {res : Unit × ZM} (h : f_X7_copy N w0 w1 σ = some res) : zag [(w0, some 0), ((w0 + 1), none), ((w0 + 2), none), ((w0 + 3), none), ((w0 + 4), none)] σ res.2 := by
  unfold f_X7_copy at h
  have hA : zag [(w0, some 0), ((w0 + 1), none), ((w0 + 2), none), ((w0 + 3), none), ((w0 + 4), none)] σ σ := zag_r
  obtain ⟨s10, es10, h⟩ := zb h
  replace hA := zag_t hA (zag_w (by simp) (zag_putI es10))
  exact zag_t hA (fr_X7_copy_10 _ _ _ h)
theorem fr_X0_keepTrial {N : Nat} {σ : ZM} {res : Int32 × ZM} (h : f_X0_keepTrial N σ = some res) : zag [(38, some 5), (49, some 0), (50, none), (51, none), (52, none), (53, none), (56, some 0), (57, none), (58, none), (59, none), (60, none), (63, some 0), (64, none), (65, none), (66, none), (67, none), (70, some 0), (71, none), (72, none), (73, none), (74, none), (77, some 0), (78, none), (79, none), (80, none), (81, none), (84, some 0), (85, none), (86, none), (87, none), (88, none)] σ res.2 := by
  unfold f_X0_keepTrial at h
  have hA : zag [(38, some 5), (49, some 0), (50, none), (51, none), (52, none), (53, none), (56, some 0), (57, none), (58, none), (59, none), (60, none), (63, some 0), (64, none), (65, none), (66, none), (67, none), (70, some 0), (71, none), (72, none), (73, none), (74, none), (77, some 0), (78, none), (79, none), (80, none), (81, none), (84, some 0), (85, none), (86, none), (87, none), (88, none)] σ σ := zag_r
  obtain ⟨t1, et1, h⟩ := zb h
  have ht1 := ztr_mem et1
  obtain ⟨r2, s3, es3, h⟩ := zc h
  replace hA := zag_t hA (zag_w (by first | decide | (rcases ht1 with rfl | rfl | rfl | rfl | rfl | rfl <;> decide)) (fr_X7_copy es3))
  obtain ⟨s4, es4, h⟩ := zb h
  replace hA := zag_t hA (zag_w (by first | decide | (rcases ht1 with rfl | rfl | rfl | rfl | rfl | rfl <;> decide)) (zag_putI es4))
  cases h
  exact hA
theorem fr_J6_bitCount_0f7a4 {N : Nat} {x0 : Int32} {σ : ZM} {res : Int32 × ZM} (h : f_J6_bitCount_0f7a4 N x0 σ = some res) : zag [] σ res.2 := by
  unfold f_J6_bitCount_0f7a4 at h
  have hA : zag [] σ σ := zag_r
  obtain ⟨v1, ev1, h⟩ := zb h
  obtain ⟨v2, ev2, h⟩ := zb h
  obtain ⟨v3, ev3, h⟩ := zb h
  obtain ⟨v4, ev4, h⟩ := zb h
  obtain ⟨v5, ev5, h⟩ := zb h
  cases h
  exact hA
theorem fr_b_X3_caseCount_4 {N : Nat} {rec4 : Int32 → Int32 → ZM → Option (Int32 × ZM)} {res : Int32 × ZM} (hr4 : ∀ (x1 : Int32) (x2 : Int32) (σ : ZM), rec4 x1 x2 σ = some res → zag [] σ res.2) {x1 : Int32} {x2 : Int32} {σ : ZM} (h : b_X3_caseCount_4 N rec4 x1 x2 σ = some res) : zag [] σ res.2 := by
  unfold b_X3_caseCount_4 at h
  have hA : zag [] σ σ := zag_r
  rcases zi2 h with ⟨hc9, h⟩ | ⟨hc9, h⟩
  · skip
    cases h
    exact hA
  · skip
    obtain ⟨v1, ev1, h⟩ := zb h
    obtain ⟨r2, s3, es3, h⟩ := zc h
    replace hA := zag_t hA (zag_w (by decide) (fr_J6_bitCount_0f7a4 es3))
    obtain ⟨v4, ev4, h⟩ := zb h
    obtain ⟨v5, ev5, h⟩ := zb h
    exact zag_t hA (hr4 _ _ _ h)
theorem fr_X3_caseCount_4 {N : Nat} {res : Int32 × ZM} : ∀ (n : Nat) (x1 : Int32) (x2 : Int32) (σ : ZM), f_X3_caseCount_4 N n x1 x2 σ = some res → zag [] σ res.2 := by
  intro n
  induction n with
  | zero => intro x1 x2 σ h; exact absurd h (by simp [f_X3_caseCount_4])
  | succ n ih => intro x1 x2 σ h; rw [f_X3_caseCount_4] at h; exact fr_b_X3_caseCount_4 ih h
theorem fr_X3_caseCount {N : Nat} {σ : ZM} {res : Int32 × ZM} (h : f_X3_caseCount N σ = some res) : zag [] σ res.2 := by
  unfold f_X3_caseCount at h
  have hA : zag [] σ σ := zag_r
  exact zag_t hA (fr_X3_caseCount_4 _ _ _ _ h)
theorem fr_J6_numberOfTrailingZeros_0f7a4_74 {N : Nat} {res : Int32 × ZM} {x0 : Int32} {x1 : Int32} {σ : ZM} (h : f_J6_numberOfTrailingZeros_0f7a4_74 N x0 x1 σ = some res) : zag [] σ res.2 := by
  unfold f_J6_numberOfTrailingZeros_0f7a4_74 at h
  have hA : zag [] σ σ := zag_r
  cases h
  exact hA
theorem fr_J6_numberOfTrailingZeros_0f7a4_62 {N : Nat} {res : Int32 × ZM} {x0 : Int32} {x1 : Int32} {σ : ZM} (h : f_J6_numberOfTrailingZeros_0f7a4_62 N x0 x1 σ = some res) : zag [] σ res.2 := by
  unfold f_J6_numberOfTrailingZeros_0f7a4_62 at h
  have hA : zag [] σ σ := zag_r
  rcases zi2 h with ⟨hc64, h⟩ | ⟨hc64, h⟩
  · skip
    exact zag_t hA (fr_J6_numberOfTrailingZeros_0f7a4_74 h)
  · skip
    obtain ⟨v1, ev1, h⟩ := zb h
    obtain ⟨v2, ev2, h⟩ := zb h
    exact zag_t hA (fr_J6_numberOfTrailingZeros_0f7a4_74 h)
theorem fr_J6_numberOfTrailingZeros_0f7a4_49 {N : Nat} {res : Int32 × ZM} {x0 : Int32} {x1 : Int32} {σ : ZM} (h : f_J6_numberOfTrailingZeros_0f7a4_49 N x0 x1 σ = some res) : zag [] σ res.2 := by
  unfold f_J6_numberOfTrailingZeros_0f7a4_49 at h
  have hA : zag [] σ σ := zag_r
  rcases zi2 h with ⟨hc52, h⟩ | ⟨hc52, h⟩
  · skip
    exact zag_t hA (fr_J6_numberOfTrailingZeros_0f7a4_62 h)
  · skip
    obtain ⟨v3, ev3, h⟩ := zb h
    obtain ⟨v4, ev4, h⟩ := zb h
    exact zag_t hA (fr_J6_numberOfTrailingZeros_0f7a4_62 h)
theorem fr_J6_numberOfTrailingZeros_0f7a4_34 {N : Nat} {res : Int32 × ZM} {x0 : Int32} {x1 : Int32} {σ : ZM} (h : f_J6_numberOfTrailingZeros_0f7a4_34 N x0 x1 σ = some res) : zag [] σ res.2 := by
  unfold f_J6_numberOfTrailingZeros_0f7a4_34 at h
  have hA : zag [] σ σ := zag_r
  rcases zi2 h with ⟨hc38, h⟩ | ⟨hc38, h⟩
  · skip
    exact zag_t hA (fr_J6_numberOfTrailingZeros_0f7a4_49 h)
  · skip
    obtain ⟨v5, ev5, h⟩ := zb h
    obtain ⟨v6, ev6, h⟩ := zb h
    exact zag_t hA (fr_J6_numberOfTrailingZeros_0f7a4_49 h)
theorem fr_J6_numberOfTrailingZeros_0f7a4 {N : Nat} {x0 : Int32} {σ : ZM} {res : Int32 × ZM} (h : f_J6_numberOfTrailingZeros_0f7a4 N x0 σ = some res) : zag [] σ res.2 := by
  unfold f_J6_numberOfTrailingZeros_0f7a4 at h
  have hA : zag [] σ σ := zag_r
  obtain ⟨v7, ev7, h⟩ := zb h
  rcases zi2 h with ⟨hc9, h⟩ | ⟨hc9, h⟩
  · skip
    rcases zi2 h with ⟨hc23, h⟩ | ⟨hc23, h⟩
    · skip
      exact zag_t hA (fr_J6_numberOfTrailingZeros_0f7a4_34 h)
    · skip
      obtain ⟨v8, ev8, h⟩ := zb h
      obtain ⟨v9, ev9, h⟩ := zb h
      exact zag_t hA (fr_J6_numberOfTrailingZeros_0f7a4_34 h)
  · skip
    cases h
    exact hA
theorem fr_X3_leastRule {N : Nat} {x1 : Int32} {σ : ZM} {res : Int32 × ZM} (h : f_X3_leastRule N x1 σ = some res) : zag [] σ res.2 := by
  unfold f_X3_leastRule at h
  have hA : zag [] σ σ := zag_r
  obtain ⟨v1, ev1, h⟩ := zb h
  obtain ⟨r2, s3, es3, h⟩ := zc h
  replace hA := zag_t hA (zag_w (by decide) (fr_J6_numberOfTrailingZeros_0f7a4 es3))
  cases h
  exact hA
theorem fr_b_X2_takeLeastRules_2 {N : Nat} {rec2 : Int32 → ZM → Option (Unit × ZM)} {res : Unit × ZM} (hr2 : ∀ (x1 : Int32) (σ : ZM), rec2 x1 σ = some res → zag [(18, none)] σ res.2) {x1 : Int32} {σ : ZM} (h : b_X2_takeLeastRules_2 N rec2 x1 σ = some res) : zag [(18, none)] σ res.2 := by
  unfold b_X2_takeLeastRules_2 at h
  have hA : zag [(18, none)] σ σ := zag_r
  rcases zi2 h with ⟨hc10, h⟩ | ⟨hc10, h⟩
  · skip
    cases h
    exact hA
  · skip
    obtain ⟨r1, s2, es2, h⟩ := zc h
    replace hA := zag_t hA (zag_w (by decide) (fr_X3_leastRule es2))
    obtain ⟨s3, es3, h⟩ := zb h
    replace hA := zag_t hA (zag_w (by decide) (zag_iast es3))
    obtain ⟨v4, ev4, h⟩ := zb h
    exact zag_t hA (hr2 _ _ h)
theorem fr_X2_takeLeastRules_2 {N : Nat} {res : Unit × ZM} : ∀ (n : Nat) (x1 : Int32) (σ : ZM), f_X2_takeLeastRules_2 N n x1 σ = some res → zag [(18, none)] σ res.2 := by
  intro n
  induction n with
  | zero => intro x1 σ h; exact absurd h (by simp [f_X2_takeLeastRules_2])
  | succ n ih => intro x1 σ h; rw [f_X2_takeLeastRules_2] at h; exact fr_b_X2_takeLeastRules_2 ih h
theorem fr_X2_takeLeastRules {N : Nat} {σ : ZM} {res : Unit × ZM} (h : f_X2_takeLeastRules N σ = some res) : zag [(18, none)] σ res.2 := by
  unfold f_X2_takeLeastRules at h
  have hA : zag [(18, none)] σ σ := zag_r
  exact zag_t hA (fr_X2_takeLeastRules_2 _ _ _ h)
theorem fr_b_X6_isSeen_2 {N : Nat} {t0 : Nat} {rec2 : Int32 → ZM → Option (Int32 × ZM)} {res : Int32 × ZM} (hr2 : ∀ (x1 : Int32) (σ : ZM), rec2 x1 σ = some res → zag [] σ res.2) {x1 : Int32} {σ : ZM} (h : b_X6_isSeen_2 N t0 rec2 x1 σ = some res) : zag [] σ res.2 := by
  unfold b_X6_isSeen_2 at h
  have hA : zag [] σ σ := zag_r
  rcases zi2 h with ⟨hc5, h⟩ | ⟨hc5, h⟩
  · skip
    cases h
    exact hA
  · skip
    obtain ⟨v1, ev1, h⟩ := zb h
    rcases zi2 h with ⟨hc15, h⟩ | ⟨hc15, h⟩
    · skip
      obtain ⟨v2, ev2, h⟩ := zb h
      exact zag_t hA (hr2 _ _ h)
    · skip
      cases h
      exact hA
theorem fr_X6_isSeen_2 {N : Nat} {t0 : Nat} {res : Int32 × ZM} : ∀ (n : Nat) (x1 : Int32) (σ : ZM), f_X6_isSeen_2 N t0 n x1 σ = some res → zag [] σ res.2 := by
  intro n
  induction n with
  | zero => intro x1 σ h; exact absurd h (by simp [f_X6_isSeen_2])
  | succ n ih => intro x1 σ h; rw [f_X6_isSeen_2] at h; exact fr_b_X6_isSeen_2 ih h
theorem fr_X6_isSeen {N : Nat} {t0 : Nat} {σ : ZM} {res : Int32 × ZM} (h : f_X6_isSeen N t0 σ = some res) : zag [] σ res.2 := by
  unfold f_X6_isSeen at h
  have hA : zag [] σ σ := zag_r
  exact zag_t hA (fr_X6_isSeen_2 _ _ _ h)
theorem fr_b_J7_fill_d0a16_6 {N : Nat} {a0 : Nat} {n0 : Nat} {rec6 : Int64 → Int32 → Int32 → ZM → Option (Unit × ZM)} {res : Unit × ZM} (hr6 : ∀ (x1 : Int64) (x3 : Int32) (x4 : Int32) (σ : ZM), rec6 x1 x3 x4 σ = some res → zag [(a0, none)] σ res.2) {x1 : Int64} {x3 : Int32} {x4 : Int32} {σ : ZM} (h : b_J7_fill_d0a16_6 N a0 n0 rec6 x1 x3 x4 σ = some res) : zag [(a0, none)] σ res.2 := by
  unfold b_J7_fill_d0a16_6 at h
  have hA : zag [(a0, none)] σ σ := zag_r
  rcases zi2 h with ⟨hc9, h⟩ | ⟨hc9, h⟩
  · skip
    cases h
    exact hA
  · skip
    obtain ⟨s1, es1, h⟩ := zb h
    replace hA := zag_t hA (zag_w (by simp) (zag_last es1))
    obtain ⟨v2, ev2, h⟩ := zb h
    exact zag_t hA (hr6 _ _ _ _ h)
theorem fr_J7_fill_d0a16_6 {N : Nat} {a0 : Nat} {n0 : Nat} {res : Unit × ZM} : ∀ (n : Nat) (x1 : Int64) (x3 : Int32) (x4 : Int32) (σ : ZM), f_J7_fill_d0a16_6 N a0 n0 n x1 x3 x4 σ = some res → zag [(a0, none)] σ res.2 := by
  intro n
  induction n with
  | zero => intro x1 x3 x4 σ h; exact absurd h (by simp [f_J7_fill_d0a16_6])
  | succ n ih => intro x1 x3 x4 σ h; rw [f_J7_fill_d0a16_6] at h; exact fr_b_J7_fill_d0a16_6 ih h
theorem fr_J7_fill_d0a16 {N : Nat} {a0 : Nat} {n0 : Nat} {x1 : Int64} {σ : ZM} {res : Unit × ZM} (h : f_J7_fill_d0a16 N a0 n0 x1 σ = some res) : zag [(a0, none)] σ res.2 := by
  unfold f_J7_fill_d0a16 at h
  have hA : zag [(a0, none)] σ σ := zag_r
  obtain ⟨v3, ev3, h⟩ := zb h
  exact zag_t hA (fr_J7_fill_d0a16_6 _ _ _ _ _ h)
theorem fr_X3_everyone {N : Nat} {σ : ZM} {res : Int32 × ZM} (h : f_X3_everyone N σ = some res) : zag [] σ res.2 := by
  unfold f_X3_everyone at h
  have hA : zag [] σ σ := zag_r
  cases h
  exact hA
theorem fr_X7_isSaid {N : Nat} {w0 : Nat} {x1 : Int32} {σ : ZM} {res : Int32 × ZM} (h : f_X7_isSaid N w0 x1 σ = some res) : zag [] σ res.2 := by
  unfold f_X7_isSaid at h
  have hA : zag [] σ σ := zag_r
  rcases zi2 h with ⟨hc5, h⟩ | ⟨hc5, h⟩
  · skip
    cases h
    exact hA
  · skip
    obtain ⟨v1, ev1, h⟩ := zb h
    rcases zi2 h with ⟨hc14, h⟩ | ⟨hc14, h⟩
    · skip
      cases h
      exact hA
    · skip
      obtain ⟨v2, ev2, h⟩ := zb h
      rcases zi2 h with ⟨hc24, h⟩ | ⟨hc24, h⟩
      · skip
        cases h
        exact hA
      · skip
        cases h
        exact hA
theorem fr_X2_ofSite {N : Nat} {x0 : Int32} {x1 : Int32} {x2 : Int32} {σ : ZM} {res : Int64 × ZM} (h : f_X2_ofSite N x0 x1 x2 σ = some res) : zag [] σ res.2 := by
  unfold f_X2_ofSite at h
  have hA : zag [] σ σ := zag_r
  cases h
  exact hA
theorem fr_X2_siteOf {N : Nat} {x0 : Int64} {σ : ZM} {res : Int32 × ZM} (h : f_X2_siteOf N x0 σ = some res) : zag [] σ res.2 := by
  unfold f_X2_siteOf at h
  have hA : zag [] σ σ := zag_r
  cases h
  exact hA
theorem fr_X2_passedAt {N : Nat} {x0 : Int64} {x2 : Int32} {σ : ZM} {res : Int32 × ZM} (h : f_X2_passedAt N x0 x2 σ = some res) : zag [] σ res.2 := by
  unfold f_X2_passedAt at h
  have hA : zag [] σ σ := zag_r
  rcases zi2 h with ⟨hc1, h⟩ | ⟨hc1, h⟩
  · skip
    cases h
    exact hA
  · skip
    rcases zi2 h with ⟨hc7, h⟩ | ⟨hc7, h⟩
    · skip
      obtain ⟨v1, ev1, h⟩ := zb h
      rcases zi2 h with ⟨hc27, h⟩ | ⟨hc27, h⟩
      · skip
        cases h
        exact hA
      · skip
        cases h
        exact hA
    · skip
      cases h
      exact hA
theorem fr_X3_bond {N : Nat} {x1 : Int32} {x2 : Int32} {σ : ZM} {res : Int32 × ZM} (h : f_X3_bond N x1 x2 σ = some res) : zag [] σ res.2 := by
  unfold f_X3_bond at h
  have hA : zag [] σ σ := zag_r
  obtain ⟨v1, ev1, h⟩ := zb h
  cases h
  exact hA
theorem fr_X2_passesOn_108 {N : Nat} {w1 : Nat} {res : Int32 × ZM} {x6 : Int32} {y0 : Int32} {σ : ZM} (h : f_X2_passesOn_108 N w1 x6 y0 σ = some res) : zag [] σ res.2 := by
  unfold f_X2_passesOn_108 at h
  have hA : zag [] σ σ := zag_r
  rcases zi2 h with ⟨hc112, h⟩ | ⟨hc112, h⟩
  · skip
    cases h
    exact hA
  · skip
    obtain ⟨v1, ev1, h⟩ := zb h
    rcases (zi2 h).symm with ⟨hc122, h⟩ | ⟨hc122, h⟩
    · skip
      cases h
      exact hA
    · skip
      cases h
      exact hA
theorem fr_X2_passesOn_103 {N : Nat} {w1 : Nat} {res : Int32 × ZM} {x6 : Int32} {σ : ZM} (h : f_X2_passesOn_103 N w1 x6 σ = some res) : zag [] σ res.2 := by
  unfold f_X2_passesOn_103 at h
  have hA : zag [] σ σ := zag_r
  exact zag_t hA (fr_X2_passesOn_108 h)
theorem fr_X2_passesOn {N : Nat} {w1 : Nat} {x2 : Int32} {x3 : Int32} {σ : ZM} {res : Int32 × ZM} (h : f_X2_passesOn N w1 x2 x3 σ = some res) : zag [] σ res.2 := by
  unfold f_X2_passesOn at h
  have hA : zag [] σ σ := zag_r
  obtain ⟨v2, ev2, h⟩ := zb h
  rcases zi2 h with ⟨hc12, h⟩ | ⟨hc12, h⟩
  · skip
    cases h
    exact hA
  · skip
    rcases zi2 h with ⟨hc26, h⟩ | ⟨hc26, h⟩
    · skip
      obtain ⟨r3, s4, es4, h⟩ := zc h
      replace hA := zag_t hA (zag_w (by simp) (fr_X2_siteOf es4))
      rcases zi2 h with ⟨hc40, h⟩ | ⟨hc40, h⟩
      · skip
        cases h
        exact hA
      · skip
        obtain ⟨v5, ev5, h⟩ := zb h
        rcases zi2 h with ⟨hc54, h⟩ | ⟨hc54, h⟩
        · skip
          obtain ⟨r6, s7, es7, h⟩ := zc h
          replace hA := zag_t hA (zag_w (by simp) (fr_X2_passedAt es7))
          rcases (zi2 h).symm with ⟨hc71, h⟩ | ⟨hc71, h⟩
          · skip
            obtain ⟨r8, s9, es9, h⟩ := zc h
            replace hA := zag_t hA (zag_w (by simp) (fr_X3_bond es9))
            rcases zi2 h with ⟨hc87, h⟩ | ⟨hc87, h⟩
            · skip
              exact zag_t hA (fr_X2_passesOn_103 h)
            · skip
              obtain ⟨r10, s11, es11, h⟩ := zc h
              replace hA := zag_t hA (zag_w (by simp) (fr_X3_bond es11))
              rcases (zi2 h).symm with ⟨hc100, h⟩ | ⟨hc100, h⟩
              · skip
                exact zag_t hA (fr_X2_passesOn_108 h)
              · skip
                exact zag_t hA (fr_X2_passesOn_103 h)
          · skip
            cases h
            exact hA
        · skip
          cases h
          exact hA
    · skip
      cases h
      exact hA
theorem fr_X2_passedOn {N : Nat} {x0 : Int64} {x2 : Int32} {σ : ZM} {res : Int64 × ZM} (h : f_X2_passedOn N x0 x2 σ = some res) : zag [] σ res.2 := by
  unfold f_X2_passedOn at h
  have hA : zag [] σ σ := zag_r
  obtain ⟨v1, ev1, h⟩ := zb h
  cases h
  exact hA
theorem fr_X2_hear_140 {N : Nat} {w1 : Nat} {rec74 : Int32 → Int32 → ZM → Option (Unit × ZM)} {res : Unit × ZM} (hr74 : ∀ (x2 : Int32) (x3 : Int32) (σ : ZM), rec74 x2 x3 σ = some res → zag [(17, some 5), (21, none)] σ res.2) {x2 : Int32} {x3 : Int32} {σ : ZM} (h : f_X2_hear_140 N w1 rec74 x2 x3 σ = some res) : zag [(17, some 5), (21, none)] σ res.2 := by
  unfold f_X2_hear_140 at h
  have hA : zag [(17, some 5), (21, none)] σ σ := zag_r
  obtain ⟨v1, ev1, h⟩ := zb h
  exact zag_t hA (hr74 _ _ _ h)
theorem fr_b_X2_hear_74 {N : Nat} {w1 : Nat} {rec74 : Int32 → Int32 → ZM → Option (Unit × ZM)} {res : Unit × ZM} (hr74 : ∀ (x2 : Int32) (x3 : Int32) (σ : ZM), rec74 x2 x3 σ = some res → zag [(17, some 5), (21, none)] σ res.2) {x2 : Int32} {x3 : Int32} {σ : ZM} (h : b_X2_hear_74 N w1 rec74 x2 x3 σ = some res) : zag [(17, some 5), (21, none)] σ res.2 := by
  unfold b_X2_hear_74 at h
  have hA : zag [(17, some 5), (21, none)] σ σ := zag_r
  rcases zi2 h with ⟨hc82, h⟩ | ⟨hc82, h⟩
  · skip
    cases h
    exact hA
  · skip
    obtain ⟨v2, ev2, h⟩ := zb h
    rcases zi2 h with ⟨hc98, h⟩ | ⟨hc98, h⟩
    · skip
      exact zag_t hA (fr_X2_hear_140 hr74 h)
    · skip
      obtain ⟨r3, s4, es4, h⟩ := zc h
      replace hA := zag_t hA (zag_w (by simp) (fr_X2_passesOn es4))
      rcases zi2 h with ⟨hc108, h⟩ | ⟨hc108, h⟩
      · skip
        exact zag_t hA (fr_X2_hear_140 hr74 h)
      · skip
        obtain ⟨v5, ev5, h⟩ := zb h
        obtain ⟨r6, s7, es7, h⟩ := zc h
        replace hA := zag_t hA (zag_w (by simp) (fr_X2_passedOn es7))
        obtain ⟨s8, es8, h⟩ := zb h
        replace hA := zag_t hA (zag_w (by simp) (zag_last es8))
        obtain ⟨s9, es9, h⟩ := zb h
        replace hA := zag_t hA (zag_w (by simp) (zag_putI es9))
        exact zag_t hA (fr_X2_hear_140 hr74 h)
theorem fr_X2_hear_74 {N : Nat} {w1 : Nat} {res : Unit × ZM} : ∀ (n : Nat) (x2 : Int32) (x3 : Int32) (σ : ZM), f_X2_hear_74 N w1 n x2 x3 σ = some res → zag [(17, some 5), (21, none)] σ res.2 := by
  intro n
  induction n with
  | zero => intro x2 x3 σ h; exact absurd h (by simp [f_X2_hear_74])
  | succ n ih => intro x2 x3 σ h; rw [f_X2_hear_74] at h; exact fr_b_X2_hear_74 ih h
theorem fr_X2_hear_66 {N : Nat} {w1 : Nat} {rec7 : Int32 → Int32 → ZM → Option (Unit × ZM)} {res : Unit × ZM} (hr7 : ∀ (x2 : Int32) (x3 : Int32) (σ : ZM), rec7 x2 x3 σ = some res → zag [(17, some 5), (21, none)] σ res.2) {x2 : Int32} {x3 : Int32} {σ : ZM} (h : f_X2_hear_66 N w1 rec7 x2 x3 σ = some res) : zag [(17, some 5), (21, none)] σ res.2 := by
  unfold f_X2_hear_66 at h
  have hA : zag [(17, some 5), (21, none)] σ σ := zag_r
  obtain ⟨v10, ev10, h⟩ := zb h
  exact zag_t hA (hr7 _ _ _ h)
theorem fr_b_X2_hear_7 {N : Nat} {w1 : Nat} {rec7 : Int32 → Int32 → ZM → Option (Unit × ZM)} {res : Unit × ZM} (hr7 : ∀ (x2 : Int32) (x3 : Int32) (σ : ZM), rec7 x2 x3 σ = some res → zag [(17, some 5), (21, none)] σ res.2) {x2 : Int32} {x3 : Int32} {σ : ZM} (h : b_X2_hear_7 N w1 rec7 x2 x3 σ = some res) : zag [(17, some 5), (21, none)] σ res.2 := by
  unfold b_X2_hear_7 at h
  have hA : zag [(17, some 5), (21, none)] σ σ := zag_r
  rcases zi2 h with ⟨hc12, h⟩ | ⟨hc12, h⟩
  · skip
    exact zag_t hA (fr_X2_hear_74 _ _ _ _ h)
  · skip
    obtain ⟨v11, ev11, h⟩ := zb h
    rcases (zi2 h).symm with ⟨hc25, h⟩ | ⟨hc25, h⟩
    · skip
      exact zag_t hA (fr_X2_hear_66 hr7 h)
    · skip
      obtain ⟨r12, s13, es13, h⟩ := zc h
      replace hA := zag_t hA (zag_w (by simp) (fr_X7_isSaid es13))
      rcases zi2 h with ⟨hc33, h⟩ | ⟨hc33, h⟩
      · skip
        exact zag_t hA (fr_X2_hear_66 hr7 h)
      · skip
        obtain ⟨v14, ev14, h⟩ := zb h
        obtain ⟨r15, s16, es16, h⟩ := zc h
        replace hA := zag_t hA (zag_w (by simp) (fr_X2_ofSite es16))
        obtain ⟨s17, es17, h⟩ := zb h
        replace hA := zag_t hA (zag_w (by simp) (zag_last es17))
        obtain ⟨s18, es18, h⟩ := zb h
        replace hA := zag_t hA (zag_w (by simp) (zag_putI es18))
        exact zag_t hA (fr_X2_hear_66 hr7 h)
theorem fr_X2_hear_7 {N : Nat} {w1 : Nat} {res : Unit × ZM} : ∀ (n : Nat) (x2 : Int32) (x3 : Int32) (σ : ZM), f_X2_hear_7 N w1 n x2 x3 σ = some res → zag [(17, some 5), (21, none)] σ res.2 := by
  intro n
  induction n with
  | zero => intro x2 x3 σ h; exact absurd h (by simp [f_X2_hear_7])
  | succ n ih => intro x2 x3 σ h; rw [f_X2_hear_7] at h; exact fr_b_X2_hear_7 ih h
theorem fr_X2_hear {N : Nat} {w1 : Nat} {x2 : Int32} {σ : ZM} {res : Unit × ZM} (h : f_X2_hear N w1 x2 σ = some res) : zag [(17, some 5), (21, none)] σ res.2 := by
  unfold f_X2_hear at h
  have hA : zag [(17, some 5), (21, none)] σ σ := zag_r
  obtain ⟨s19, es19, h⟩ := zb h
  replace hA := zag_t hA (zag_w (by simp) (zag_putI es19))
  exact zag_t hA (fr_X2_hear_7 _ _ _ _ h)
theorem fr_X2_namesOf {N : Nat} {x0 : Int64} {σ : ZM} {res : Int32 × ZM} (h : f_X2_namesOf N x0 σ = some res) : zag [] σ res.2 := by
  unfold f_X2_namesOf at h
  have hA : zag [] σ σ := zag_r
  cases h
  exact hA
theorem fr_X2_rank_67 {N : Nat} {res : Int32 × ZM} {x1 : Int32} {x5 : Int32} {x6 : Int32} {x7 : Int32} {σ : ZM} (h : f_X2_rank_67 N x1 x5 x6 x7 σ = some res) : zag [] σ res.2 := by
  unfold f_X2_rank_67 at h
  have hA : zag [] σ σ := zag_r
  obtain ⟨v1, ev1, h⟩ := zb h
  by_cases hc73_2 : v1 = (2 : Int32)
  · replace h := (zi h).1 hc73_2
    cases h
    exact hA
  replace h := (zi h).2 hc73_2
  by_cases hc73_3 : v1 = (3 : Int32)
  · replace h := (zi h).1 hc73_3
    cases h
    exact hA
  replace h := (zi h).2 hc73_3
  cases h
  exact hA
theorem fr_X2_rank_64 {N : Nat} {res : Int32 × ZM} {x1 : Int32} {x5 : Int32} {x6 : Int32} {y0 : Int32} {y1 : Int32} {σ : ZM} (h : f_X2_rank_64 N x1 x5 x6 y0 y1 σ = some res) : zag [] σ res.2 := by
  unfold f_X2_rank_64 at h
  have hA : zag [] σ σ := zag_r
  obtain ⟨v2, ev2, h⟩ := zb h
  exact zag_t hA (fr_X2_rank_67 h)
theorem fr_X2_rank {N : Nat} {x1 : Int32} {x2 : Int64} {σ : ZM} {res : Int32 × ZM} (h : f_X2_rank N x1 x2 σ = some res) : zag [] σ res.2 := by
  unfold f_X2_rank at h
  have hA : zag [] σ σ := zag_r
  obtain ⟨r3, s4, es4, h⟩ := zc h
  replace hA := zag_t hA (zag_w (by decide) (fr_X2_passedAt es4))
  obtain ⟨r5, s6, es6, h⟩ := zc h
  replace hA := zag_t hA (zag_w (by decide) (fr_X2_namesOf es6))
  obtain ⟨r7, s8, es8, h⟩ := zc h
  replace hA := zag_t hA (zag_w (by decide) (fr_X2_siteOf es8))
  rcases zi2 h with ⟨hc26, h⟩ | ⟨hc26, h⟩
  · skip
    exact zag_t hA (fr_X2_rank_67 h)
  · skip
    obtain ⟨r9, s10, es10, h⟩ := zc h
    replace hA := zag_t hA (zag_w (by decide) (fr_X3_bond es10))
    obtain ⟨v11, ev11, h⟩ := zb h
    obtain ⟨v12, ev12, h⟩ := zb h
    rcases (zi2 h).symm with ⟨hc51, h⟩ | ⟨hc51, h⟩
    · skip
      exact zag_t hA (fr_X2_rank_64 h)
    · skip
      exact zag_t hA (fr_X2_rank_64 h)
theorem fr_X2_pick_55 {N : Nat} {rec13 : Int32 → Int32 → Int32 → ZM → Option (Int64 × ZM)} {res : Int64 × ZM} (hr13 : ∀ (x1 : Int32) (x2 : Int32) (x3 : Int32) (σ : ZM), rec13 x1 x2 x3 σ = some res → zag [(22, none)] σ res.2) {x1 : Int32} {x2 : Int32} {x3 : Int32} {σ : ZM} (h : f_X2_pick_55 N rec13 x1 x2 x3 σ = some res) : zag [(22, none)] σ res.2 := by
  unfold f_X2_pick_55 at h
  have hA : zag [(22, none)] σ σ := zag_r
  obtain ⟨v1, ev1, h⟩ := zb h
  exact zag_t hA (hr13 _ _ _ _ h)
theorem fr_b_X2_pick_13 {N : Nat} {rec13 : Int32 → Int32 → Int32 → ZM → Option (Int64 × ZM)} {res : Int64 × ZM} (hr13 : ∀ (x1 : Int32) (x2 : Int32) (x3 : Int32) (σ : ZM), rec13 x1 x2 x3 σ = some res → zag [(22, none)] σ res.2) {x1 : Int32} {x2 : Int32} {x3 : Int32} {σ : ZM} (h : b_X2_pick_13 N rec13 x1 x2 x3 σ = some res) : zag [(22, none)] σ res.2 := by
  unfold b_X2_pick_13 at h
  have hA : zag [(22, none)] σ σ := zag_r
  rcases zi2 h with ⟨hc18, h⟩ | ⟨hc18, h⟩
  · skip
    obtain ⟨v2, ev2, h⟩ := zb h
    cases h
    exact hA
  · skip
    obtain ⟨v3, ev3, h⟩ := zb h
    obtain ⟨r4, s5, es5, h⟩ := zc h
    replace hA := zag_t hA (zag_w (by decide) (fr_X2_rank es5))
    obtain ⟨s6, es6, h⟩ := zb h
    replace hA := zag_t hA (zag_w (by decide) (zag_iast es6))
    obtain ⟨v7, ev7, h⟩ := zb h
    obtain ⟨v8, ev8, h⟩ := zb h
    rcases zi2 h with ⟨hc50, h⟩ | ⟨hc50, h⟩
    · skip
      exact zag_t hA (fr_X2_pick_55 hr13 h)
    · skip
      exact zag_t hA (fr_X2_pick_55 hr13 h)
theorem fr_X2_pick_13 {N : Nat} {res : Int64 × ZM} : ∀ (n : Nat) (x1 : Int32) (x2 : Int32) (x3 : Int32) (σ : ZM), f_X2_pick_13 N n x1 x2 x3 σ = some res → zag [(22, none)] σ res.2 := by
  intro n
  induction n with
  | zero => intro x1 x2 x3 σ h; exact absurd h (by simp [f_X2_pick_13])
  | succ n ih => intro x1 x2 x3 σ h; rw [f_X2_pick_13] at h; exact fr_b_X2_pick_13 ih h
theorem fr_X2_pick {N : Nat} {x1 : Int32} {σ : ZM} {res : Int64 × ZM} (h : f_X2_pick N x1 σ = some res) : zag [(22, none)] σ res.2 := by
  unfold f_X2_pick at h
  have hA : zag [(22, none)] σ σ := zag_r
  rcases (zi2 h).symm with ⟨hc4, h⟩ | ⟨hc4, h⟩
  · skip
    exact zag_t hA (fr_X2_pick_13 _ _ _ _ _ h)
  · skip
    cases h
    exact hA
theorem fr_X2_takeFresh_57 {N : Nat} {rec4 : Int32 → Int32 → Int32 → ZM → Option (Int32 × ZM)} {res : Int32 × ZM} (hr4 : ∀ (x1 : Int32) (x2 : Int32) (x3 : Int32) (σ : ZM), rec4 x1 x2 x3 σ = some res → zag [(19, none)] σ res.2) {x1 : Int32} {x2 : Int32} {x3 : Int32} {σ : ZM} (h : f_X2_takeFresh_57 N rec4 x1 x2 x3 σ = some res) : zag [(19, none)] σ res.2 := by
  unfold f_X2_takeFresh_57 at h
  have hA : zag [(19, none)] σ σ := zag_r
  obtain ⟨v1, ev1, h⟩ := zb h
  exact zag_t hA (hr4 _ _ _ _ h)
theorem fr_b_X2_takeFresh_4 {N : Nat} {rec4 : Int32 → Int32 → Int32 → ZM → Option (Int32 × ZM)} {res : Int32 × ZM} (hr4 : ∀ (x1 : Int32) (x2 : Int32) (x3 : Int32) (σ : ZM), rec4 x1 x2 x3 σ = some res → zag [(19, none)] σ res.2) {x1 : Int32} {x2 : Int32} {x3 : Int32} {σ : ZM} (h : b_X2_takeFresh_4 N rec4 x1 x2 x3 σ = some res) : zag [(19, none)] σ res.2 := by
  unfold b_X2_takeFresh_4 at h
  have hA : zag [(19, none)] σ σ := zag_r
  rcases zi2 h with ⟨hc12, h⟩ | ⟨hc12, h⟩
  · skip
    cases h
    exact hA
  · skip
    rcases zi2 h with ⟨hc20, h⟩ | ⟨hc20, h⟩
    · skip
      exact zag_t hA (fr_X2_takeFresh_57 hr4 h)
    · skip
      obtain ⟨v2, ev2, h⟩ := zb h
      obtain ⟨v3, ev3, h⟩ := zb h
      rcases zi2 h with ⟨hc36, h⟩ | ⟨hc36, h⟩
      · skip
        exact zag_t hA (fr_X2_takeFresh_57 hr4 h)
      · skip
        obtain ⟨v4, ev4, h⟩ := zb h
        obtain ⟨s5, es5, h⟩ := zb h
        replace hA := zag_t hA (zag_w (by decide) (zag_last es5))
        obtain ⟨v6, ev6, h⟩ := zb h
        exact zag_t hA (fr_X2_takeFresh_57 hr4 h)
theorem fr_X2_takeFresh_4 {N : Nat} {res : Int32 × ZM} : ∀ (n : Nat) (x1 : Int32) (x2 : Int32) (x3 : Int32) (σ : ZM), f_X2_takeFresh_4 N n x1 x2 x3 σ = some res → zag [(19, none)] σ res.2 := by
  intro n
  induction n with
  | zero => intro x1 x2 x3 σ h; exact absurd h (by simp [f_X2_takeFresh_4])
  | succ n ih => intro x1 x2 x3 σ h; rw [f_X2_takeFresh_4] at h; exact fr_b_X2_takeFresh_4 ih h
theorem fr_X2_takeFresh {N : Nat} {x1 : Int32} {σ : ZM} {res : Int32 × ZM} (h : f_X2_takeFresh N x1 σ = some res) : zag [(19, none)] σ res.2 := by
  unfold f_X2_takeFresh at h
  have hA : zag [(19, none)] σ σ := zag_r
  exact zag_t hA (fr_X2_takeFresh_4 _ _ _ _ _ h)
theorem fr_X3_union_30 {N : Nat} {a1 : Nat} {n1 : Nat} {rec5 : Int32 → Int32 → Int32 → ZM → Option (Int32 × ZM)} {res : Int32 × ZM} (hr5 : ∀ (x2 : Int32) (x3 : Int32) (x4 : Int32) (σ : ZM), rec5 x2 x3 x4 σ = some res → zag [] σ res.2) {x2 : Int32} {x3 : Int32} {x4 : Int32} {σ : ZM} (h : f_X3_union_30 N a1 n1 rec5 x2 x3 x4 σ = some res) : zag [] σ res.2 := by
  unfold f_X3_union_30 at h
  have hA : zag [] σ σ := zag_r
  obtain ⟨v1, ev1, h⟩ := zb h
  exact zag_t hA (hr5 _ _ _ _ h)
theorem fr_b_X3_union_5 {N : Nat} {a1 : Nat} {n1 : Nat} {rec5 : Int32 → Int32 → Int32 → ZM → Option (Int32 × ZM)} {res : Int32 × ZM} (hr5 : ∀ (x2 : Int32) (x3 : Int32) (x4 : Int32) (σ : ZM), rec5 x2 x3 x4 σ = some res → zag [] σ res.2) {x2 : Int32} {x3 : Int32} {x4 : Int32} {σ : ZM} (h : b_X3_union_5 N a1 n1 rec5 x2 x3 x4 σ = some res) : zag [] σ res.2 := by
  unfold b_X3_union_5 at h
  have hA : zag [] σ σ := zag_r
  rcases zi2 h with ⟨hc11, h⟩ | ⟨hc11, h⟩
  · skip
    cases h
    exact hA
  · skip
    rcases zi2 h with ⟨hc20, h⟩ | ⟨hc20, h⟩
    · skip
      exact zag_t hA (fr_X3_union_30 hr5 h)
    · skip
      obtain ⟨v2, ev2, h⟩ := zb h
      obtain ⟨v3, ev3, h⟩ := zb h
      exact zag_t hA (fr_X3_union_30 hr5 h)
theorem fr_X3_union_5 {N : Nat} {a1 : Nat} {n1 : Nat} {res : Int32 × ZM} : ∀ (n : Nat) (x2 : Int32) (x3 : Int32) (x4 : Int32) (σ : ZM), f_X3_union_5 N a1 n1 n x2 x3 x4 σ = some res → zag [] σ res.2 := by
  intro n
  induction n with
  | zero => intro x2 x3 x4 σ h; exact absurd h (by simp [f_X3_union_5])
  | succ n ih => intro x2 x3 x4 σ h; rw [f_X3_union_5] at h; exact fr_b_X3_union_5 ih h
theorem fr_X3_union {N : Nat} {a1 : Nat} {n1 : Nat} {x2 : Int32} {σ : ZM} {res : Int32 × ZM} (h : f_X3_union N a1 n1 x2 σ = some res) : zag [] σ res.2 := by
  unfold f_X3_union at h
  have hA : zag [] σ σ := zag_r
  exact zag_t hA (fr_X3_union_5 _ _ _ _ _ h)
theorem fr_X2_settle_68 {N : Nat} {w1 : Nat} {rec18 : Int32 → Int32 → ZM → Option (Int32 × ZM)} {rec27 : Int32 → Int32 → Int32 → ZM → Option (Int32 × ZM)} {res : Int32 × ZM} (hr18 : ∀ (x2 : Int32) (x3 : Int32) (σ : ZM), rec18 x2 x3 σ = some res → zag [(17, some 5), (19, none), (20, none), (21, none), (22, none)] σ res.2) (hr27 : ∀ (x2 : Int32) (x3 : Int32) (x4 : Int32) (σ : ZM), rec27 x2 x3 x4 σ = some res → zag [(17, some 5), (19, none), (20, none), (21, none), (22, none)] σ res.2) {x2 : Int32} {x3 : Int32} {x4 : Int32} {σ : ZM} (h : f_X2_settle_68 N w1 rec18 rec27 x2 x3 x4 σ = some res) : zag [(17, some 5), (19, none), (20, none), (21, none), (22, none)] σ res.2 := by
  unfold f_X2_settle_68 at h
  have hA : zag [(17, some 5), (19, none), (20, none), (21, none), (22, none)] σ σ := zag_r
  obtain ⟨v1, ev1, h⟩ := zb h
  exact zag_t hA (hr27 _ _ _ _ h)
theorem fr_b_X2_settle_27 {N : Nat} {w1 : Nat} {rec18 : Int32 → Int32 → ZM → Option (Int32 × ZM)} {rec27 : Int32 → Int32 → Int32 → ZM → Option (Int32 × ZM)} {res : Int32 × ZM} (hr18 : ∀ (x2 : Int32) (x3 : Int32) (σ : ZM), rec18 x2 x3 σ = some res → zag [(17, some 5), (19, none), (20, none), (21, none), (22, none)] σ res.2) (hr27 : ∀ (x2 : Int32) (x3 : Int32) (x4 : Int32) (σ : ZM), rec27 x2 x3 x4 σ = some res → zag [(17, some 5), (19, none), (20, none), (21, none), (22, none)] σ res.2) {x2 : Int32} {x3 : Int32} {x4 : Int32} {σ : ZM} (h : b_X2_settle_27 N w1 rec18 rec27 x2 x3 x4 σ = some res) : zag [(17, some 5), (19, none), (20, none), (21, none), (22, none)] σ res.2 := by
  unfold b_X2_settle_27 at h
  have hA : zag [(17, some 5), (19, none), (20, none), (21, none), (22, none)] σ σ := zag_r
  rcases zi2 h with ⟨hc36, h⟩ | ⟨hc36, h⟩
  · skip
    obtain ⟨r2, s3, es3, h⟩ := zc h
    replace hA := zag_t hA (zag_w (by simp) (fr_X2_takeFresh es3))
    rcases (zi2 h).symm with ⟨hc83, h⟩ | ⟨hc83, h⟩
    · skip
      obtain ⟨r4, s5, es5, h⟩ := zc h
      replace hA := zag_t hA (zag_w (by simp) (fr_X3_union es5))
      obtain ⟨v6, ev6, h⟩ := zb h
      exact zag_t hA (hr18 _ _ _ h)
    · skip
      cases h
      exact hA
  · skip
    rcases zi2 h with ⟨hc45, h⟩ | ⟨hc45, h⟩
    · skip
      exact zag_t hA (fr_X2_settle_68 hr18 hr27 h)
    · skip
      obtain ⟨r7, s8, es8, h⟩ := zc h
      replace hA := zag_t hA (zag_w (by simp) (fr_X2_hear es8))
      obtain ⟨r9, s10, es10, h⟩ := zc h
      replace hA := zag_t hA (zag_w (by simp) (fr_X2_pick es10))
      obtain ⟨s11, es11, h⟩ := zb h
      replace hA := zag_t hA (zag_w (by simp) (zag_last es11))
      exact zag_t hA (fr_X2_settle_68 hr18 hr27 h)
theorem fr_X2_settle_27 {N : Nat} {w1 : Nat} {rec18 : Int32 → Int32 → ZM → Option (Int32 × ZM)} {res : Int32 × ZM} (hr18 : ∀ (x2 : Int32) (x3 : Int32) (σ : ZM), rec18 x2 x3 σ = some res → zag [(17, some 5), (19, none), (20, none), (21, none), (22, none)] σ res.2) : ∀ (n : Nat) (x2 : Int32) (x3 : Int32) (x4 : Int32) (σ : ZM), f_X2_settle_27 N w1 rec18 n x2 x3 x4 σ = some res → zag [(17, some 5), (19, none), (20, none), (21, none), (22, none)] σ res.2 := by
  intro n
  induction n with
  | zero => intro x2 x3 x4 σ h; exact absurd h (by simp [f_X2_settle_27])
  | succ n ih => intro x2 x3 x4 σ h; rw [f_X2_settle_27] at h; exact fr_b_X2_settle_27 hr18 ih h
theorem fr_b_X2_settle_18 {N : Nat} {w1 : Nat} {rec18 : Int32 → Int32 → ZM → Option (Int32 × ZM)} {res : Int32 × ZM} (hr18 : ∀ (x2 : Int32) (x3 : Int32) (σ : ZM), rec18 x2 x3 σ = some res → zag [(17, some 5), (19, none), (20, none), (21, none), (22, none)] σ res.2) {x2 : Int32} {x3 : Int32} {σ : ZM} (h : b_X2_settle_18 N w1 rec18 x2 x3 σ = some res) : zag [(17, some 5), (19, none), (20, none), (21, none), (22, none)] σ res.2 := by
  unfold b_X2_settle_18 at h
  have hA : zag [(17, some 5), (19, none), (20, none), (21, none), (22, none)] σ σ := zag_r
  rcases zi2 h with ⟨hc21, h⟩ | ⟨hc21, h⟩
  · skip
    cases h
    exact hA
  · skip
    exact zag_t hA (fr_X2_settle_27 hr18 _ _ _ _ _ h)
theorem fr_X2_settle_18 {N : Nat} {w1 : Nat} {res : Int32 × ZM} : ∀ (n : Nat) (x2 : Int32) (x3 : Int32) (σ : ZM), f_X2_settle_18 N w1 n x2 x3 σ = some res → zag [(17, some 5), (19, none), (20, none), (21, none), (22, none)] σ res.2 := by
  intro n
  induction n with
  | zero => intro x2 x3 σ h; exact absurd h (by simp [f_X2_settle_18])
  | succ n ih => intro x2 x3 σ h; rw [f_X2_settle_18] at h; exact fr_b_X2_settle_18 ih h
theorem fr_X2_settle {N : Nat} {w1 : Nat} {σ : ZM} {res : Int32 × ZM} (h : f_X2_settle N w1 σ = some res) : zag [(17, some 5), (19, none), (20, none), (21, none), (22, none)] σ res.2 := by
  unfold f_X2_settle at h
  have hA : zag [(17, some 5), (19, none), (20, none), (21, none), (22, none)] σ σ := zag_r
  obtain ⟨r12, s13, es13, h⟩ := zc h
  replace hA := zag_t hA (zag_w (by simp) (fr_J7_fill_d0a16 es13))
  obtain ⟨r14, s15, es15, h⟩ := zc h
  replace hA := zag_t hA (zag_w (by simp) (fr_X3_everyone es15))
  exact zag_t hA (fr_X2_settle_18 _ _ _ _ h)
theorem fr_X2_comesTo {N : Nat} {x1 : Int32} {σ : ZM} {res : Int32 × ZM} (h : f_X2_comesTo N x1 σ = some res) : zag [] σ res.2 := by
  unfold f_X2_comesTo at h
  have hA : zag [] σ σ := zag_r
  obtain ⟨v1, ev1, h⟩ := zb h
  rcases (zi2 h).symm with ⟨hc8, h⟩ | ⟨hc8, h⟩
  · skip
    obtain ⟨v2, ev2, h⟩ := zb h
    obtain ⟨r3, s4, es4, h⟩ := zc h
    replace hA := zag_t hA (zag_w (by decide) (fr_X2_siteOf es4))
    cases h
    exact hA
  · skip
    cases h
    exact hA
theorem fr_X6_isAsSeen_34 {N : Nat} {t0 : Nat} {rec2 : Int32 → ZM → Option (Int32 × ZM)} {res : Int32 × ZM} (hr2 : ∀ (x2 : Int32) (σ : ZM), rec2 x2 σ = some res → zag [] σ res.2) {x2 : Int32} {σ : ZM} (h : f_X6_isAsSeen_34 N t0 rec2 x2 σ = some res) : zag [] σ res.2 := by
  unfold f_X6_isAsSeen_34 at h
  have hA : zag [] σ σ := zag_r
  obtain ⟨v1, ev1, h⟩ := zb h
  exact zag_t hA (hr2 _ _ h)
theorem fr_b_X6_isAsSeen_2 {N : Nat} {t0 : Nat} {rec2 : Int32 → ZM → Option (Int32 × ZM)} {res : Int32 × ZM} (hr2 : ∀ (x2 : Int32) (σ : ZM), rec2 x2 σ = some res → zag [] σ res.2) {x2 : Int32} {σ : ZM} (h : b_X6_isAsSeen_2 N t0 rec2 x2 σ = some res) : zag [] σ res.2 := by
  unfold b_X6_isAsSeen_2 at h
  have hA : zag [] σ σ := zag_r
  rcases zi2 h with ⟨hc5, h⟩ | ⟨hc5, h⟩
  · skip
    cases h
    exact hA
  · skip
    obtain ⟨v2, ev2, h⟩ := zb h
    rcases zi2 h with ⟨hc15, h⟩ | ⟨hc15, h⟩
    · skip
      exact zag_t hA (fr_X6_isAsSeen_34 hr2 h)
    · skip
      obtain ⟨v3, ev3, h⟩ := zb h
      obtain ⟨r4, s5, es5, h⟩ := zc h
      replace hA := zag_t hA (zag_w (by simp) (fr_X2_comesTo es5))
      rcases zi2 h with ⟨hc29, h⟩ | ⟨hc29, h⟩
      · skip
        exact zag_t hA (fr_X6_isAsSeen_34 hr2 h)
      · skip
        cases h
        exact hA
theorem fr_X6_isAsSeen_2 {N : Nat} {t0 : Nat} {res : Int32 × ZM} : ∀ (n : Nat) (x2 : Int32) (σ : ZM), f_X6_isAsSeen_2 N t0 n x2 σ = some res → zag [] σ res.2 := by
  intro n
  induction n with
  | zero => intro x2 σ h; exact absurd h (by simp [f_X6_isAsSeen_2])
  | succ n ih => intro x2 σ h; rw [f_X6_isAsSeen_2] at h; exact fr_b_X6_isAsSeen_2 ih h
theorem fr_X6_isAsSeen {N : Nat} {t0 : Nat} {σ : ZM} {res : Int32 × ZM} (h : f_X6_isAsSeen N t0 σ = some res) : zag [] σ res.2 := by
  unfold f_X6_isAsSeen at h
  have hA : zag [] σ σ := zag_r
  exact zag_t hA (fr_X6_isAsSeen_2 _ _ _ h)
theorem fr_X0_firstQuarrel_53 {N : Nat} {rec2 : Int32 → ZM → Option (Int32 × ZM)} {res : Int32 × ZM} (hr2 : ∀ (x1 : Int32) (σ : ZM), rec2 x1 σ = some res → zag [(17, some 5), (19, none), (20, none), (21, none), (22, none)] σ res.2) {x1 : Int32} {σ : ZM} (h : f_X0_firstQuarrel_53 N rec2 x1 σ = some res) : zag [(17, some 5), (19, none), (20, none), (21, none), (22, none)] σ res.2 := by
  unfold f_X0_firstQuarrel_53 at h
  have hA : zag [(17, some 5), (19, none), (20, none), (21, none), (22, none)] σ σ := zag_r
  obtain ⟨v1, ev1, h⟩ := zb h
  exact zag_t hA (hr2 _ _ h)
theorem fr_X0_firstQuarrel_51 {N : Nat} {res : Int32 × ZM} {x1 : Int32} {σ : ZM} (h : f_X0_firstQuarrel_51 N x1 σ = some res) : zag [(17, some 5), (19, none), (20, none), (21, none), (22, none)] σ res.2 := by
  unfold f_X0_firstQuarrel_51 at h
  have hA : zag [(17, some 5), (19, none), (20, none), (21, none), (22, none)] σ σ := zag_r
  cases h
  exact hA
theorem fr_b_X0_firstQuarrel_2 {N : Nat} {rec2 : Int32 → ZM → Option (Int32 × ZM)} {res : Int32 × ZM} (hr2 : ∀ (x1 : Int32) (σ : ZM), rec2 x1 σ = some res → zag [(17, some 5), (19, none), (20, none), (21, none), (22, none)] σ res.2) {x1 : Int32} {σ : ZM} (h : b_X0_firstQuarrel_2 N rec2 x1 σ = some res) : zag [(17, some 5), (19, none), (20, none), (21, none), (22, none)] σ res.2 := by
  unfold b_X0_firstQuarrel_2 at h
  have hA : zag [(17, some 5), (19, none), (20, none), (21, none), (22, none)] σ σ := zag_r
  rcases zi2 h with ⟨hc7, h⟩ | ⟨hc7, h⟩
  · skip
    cases h
    exact hA
  · skip
    obtain ⟨t2, et2, h⟩ := zb h
    have ht2 := ztr_mem et2
    obtain ⟨r3, s4, es4, h⟩ := zc h
    replace hA := zag_t hA (zag_w (by decide) (fr_X6_isSeen es4))
    rcases zi2 h with ⟨hc21, h⟩ | ⟨hc21, h⟩
    · skip
      exact zag_t hA (fr_X0_firstQuarrel_53 hr2 h)
    · skip
      obtain ⟨r5, s6, es6, h⟩ := zc h
      replace hA := zag_t hA (zag_w (by decide) (fr_X2_settle es6))
      rcases zi2 h with ⟨hc37, h⟩ | ⟨hc37, h⟩
      · skip
        exact zag_t hA (fr_X0_firstQuarrel_51 h)
      · skip
        obtain ⟨r7, s8, es8, h⟩ := zc h
        replace hA := zag_t hA (zag_w (by decide) (fr_X6_isAsSeen es8))
        rcases (zi2 h).symm with ⟨hc48, h⟩ | ⟨hc48, h⟩
        · skip
          exact zag_t hA (fr_X0_firstQuarrel_53 hr2 h)
        · skip
          exact zag_t hA (fr_X0_firstQuarrel_51 h)
theorem fr_X0_firstQuarrel_2 {N : Nat} {res : Int32 × ZM} : ∀ (n : Nat) (x1 : Int32) (σ : ZM), f_X0_firstQuarrel_2 N n x1 σ = some res → zag [(17, some 5), (19, none), (20, none), (21, none), (22, none)] σ res.2 := by
  intro n
  induction n with
  | zero => intro x1 σ h; exact absurd h (by simp [f_X0_firstQuarrel_2])
  | succ n ih => intro x1 σ h; rw [f_X0_firstQuarrel_2] at h; exact fr_b_X0_firstQuarrel_2 ih h
theorem fr_X0_firstQuarrel {N : Nat} {σ : ZM} {res : Int32 × ZM} (h : f_X0_firstQuarrel N σ = some res) : zag [(17, some 5), (19, none), (20, none), (21, none), (22, none)] σ res.2 := by
  unfold f_X0_firstQuarrel at h
  have hA : zag [(17, some 5), (19, none), (20, none), (21, none), (22, none)] σ σ := zag_r
  exact zag_t hA (fr_X0_firstQuarrel_2 _ _ _ h)
theorem fr_b_X0_packedRules_4 {N : Nat} {rec4 : Int32 → Int32 → ZM → Option (Int32 × ZM)} {res : Int32 × ZM} (hr4 : ∀ (x1 : Int32) (x2 : Int32) (σ : ZM), rec4 x1 x2 σ = some res → zag [] σ res.2) {x1 : Int32} {x2 : Int32} {σ : ZM} (h : b_X0_packedRules_4 N rec4 x1 x2 σ = some res) : zag [] σ res.2 := by
  unfold b_X0_packedRules_4 at h
  have hA : zag [] σ σ := zag_r
  rcases zi2 h with ⟨hc12, h⟩ | ⟨hc12, h⟩
  · skip
    cases h
    exact hA
  · skip
    obtain ⟨v1, ev1, h⟩ := zb h
    obtain ⟨v2, ev2, h⟩ := zb h
    obtain ⟨v3, ev3, h⟩ := zb h
    exact zag_t hA (hr4 _ _ _ h)
theorem fr_X0_packedRules_4 {N : Nat} {res : Int32 × ZM} : ∀ (n : Nat) (x1 : Int32) (x2 : Int32) (σ : ZM), f_X0_packedRules_4 N n x1 x2 σ = some res → zag [] σ res.2 := by
  intro n
  induction n with
  | zero => intro x1 x2 σ h; exact absurd h (by simp [f_X0_packedRules_4])
  | succ n ih => intro x1 x2 σ h; rw [f_X0_packedRules_4] at h; exact fr_b_X0_packedRules_4 ih h
theorem fr_X0_packedRules {N : Nat} {σ : ZM} {res : Int32 × ZM} (h : f_X0_packedRules N σ = some res) : zag [] σ res.2 := by
  unfold f_X0_packedRules at h
  have hA : zag [] σ σ := zag_r
  exact zag_t hA (fr_X0_packedRules_4 _ _ _ _ h)
theorem fr_b_X0_takeNextRules_2 {N : Nat} {rec2 : Int32 → ZM → Option (Int32 × ZM)} {res : Int32 × ZM} (hr2 : ∀ (x1 : Int32) (σ : ZM), rec2 x1 σ = some res → zag [(18, none)] σ res.2) {x1 : Int32} {σ : ZM} (h : b_X0_takeNextRules_2 N rec2 x1 σ = some res) : zag [(18, none)] σ res.2 := by
  unfold b_X0_takeNextRules_2 at h
  have hA : zag [(18, none)] σ σ := zag_r
  rcases zi2 h with ⟨hc10, h⟩ | ⟨hc10, h⟩
  · skip
    cases h
    exact hA
  · skip
    obtain ⟨v1, ev1, h⟩ := zb h
    obtain ⟨v2, ev2, h⟩ := zb h
    obtain ⟨v3, ev3, h⟩ := zb h
    rcases zi2 h with ⟨hc36, h⟩ | ⟨hc36, h⟩
    · skip
      obtain ⟨r4, s5, es5, h⟩ := zc h
      replace hA := zag_t hA (zag_w (by decide) (fr_X3_leastRule es5))
      obtain ⟨s6, es6, h⟩ := zb h
      replace hA := zag_t hA (zag_w (by decide) (zag_iast es6))
      obtain ⟨v7, ev7, h⟩ := zb h
      exact zag_t hA (hr2 _ _ h)
    · skip
      obtain ⟨v8, ev8, h⟩ := zb h
      obtain ⟨r9, s10, es10, h⟩ := zc h
      replace hA := zag_t hA (zag_w (by decide) (fr_J6_numberOfTrailingZeros_0f7a4 es10))
      obtain ⟨s11, es11, h⟩ := zb h
      replace hA := zag_t hA (zag_w (by decide) (zag_iast es11))
      cases h
      exact hA
theorem fr_X0_takeNextRules_2 {N : Nat} {res : Int32 × ZM} : ∀ (n : Nat) (x1 : Int32) (σ : ZM), f_X0_takeNextRules_2 N n x1 σ = some res → zag [(18, none)] σ res.2 := by
  intro n
  induction n with
  | zero => intro x1 σ h; exact absurd h (by simp [f_X0_takeNextRules_2])
  | succ n ih => intro x1 σ h; rw [f_X0_takeNextRules_2] at h; exact fr_b_X0_takeNextRules_2 ih h
theorem fr_X0_takeNextRules {N : Nat} {σ : ZM} {res : Int32 × ZM} (h : f_X0_takeNextRules N σ = some res) : zag [(18, none)] σ res.2 := by
  unfold f_X0_takeNextRules at h
  have hA : zag [(18, none)] σ σ := zag_r
  exact zag_t hA (fr_X0_takeNextRules_2 _ _ _ h)
theorem fr_X0_sift_119 {N : Nat} {res : Int32 × ZM} {σ : ZM} (h : f_X0_sift_119 N σ = some res) : zag [(17, some 5), (18, none), (19, none), (20, none), (21, none), (22, none), (38, some 7), (38, some 8), (38, some 15), (45, none)] σ res.2 := by
  unfold f_X0_sift_119 at h
  have hA : zag [(17, some 5), (18, none), (19, none), (20, none), (21, none), (22, none), (38, some 7), (38, some 8), (38, some 15), (45, none)] σ σ := zag_r
  rcases zi2 h with ⟨hc123, h⟩ | ⟨hc123, h⟩
  · skip
    cases h
    exact hA
  · skip
    obtain ⟨s1, es1, h⟩ := zb h
    replace hA := zag_t hA (zag_w (by decide) (zag_putI es1))
    cases h
    exact hA
theorem fr_X0_sift_96 {N : Nat} {rec51 : Int32 → Int32 → ZM → Option (Int32 × ZM)} {res : Int32 × ZM} (hr51 : ∀ (x1 : Int32) (x2 : Int32) (σ : ZM), rec51 x1 x2 σ = some res → zag [(17, some 5), (18, none), (19, none), (20, none), (21, none), (22, none), (38, some 7), (38, some 8), (38, some 15), (45, none)] σ res.2) {x2 : Int32} {x3 : Int32} {σ : ZM} (h : f_X0_sift_96 N rec51 x2 x3 σ = some res) : zag [(17, some 5), (18, none), (19, none), (20, none), (21, none), (22, none), (38, some 7), (38, some 8), (38, some 15), (45, none)] σ res.2 := by
  unfold f_X0_sift_96 at h
  have hA : zag [(17, some 5), (18, none), (19, none), (20, none), (21, none), (22, none), (38, some 7), (38, some 8), (38, some 15), (45, none)] σ σ := zag_r
  obtain ⟨s2, es2, h⟩ := zb h
  replace hA := zag_t hA (zag_w (by decide) (zag_putI es2))
  obtain ⟨r3, s4, es4, h⟩ := zc h
  replace hA := zag_t hA (zag_w (by decide) (fr_X0_takeNextRules es4))
  obtain ⟨v5, ev5, h⟩ := zb h
  exact zag_t hA (hr51 _ _ _ h)
theorem fr_b_X0_sift_51 {N : Nat} {rec51 : Int32 → Int32 → ZM → Option (Int32 × ZM)} {res : Int32 × ZM} (hr51 : ∀ (x1 : Int32) (x2 : Int32) (σ : ZM), rec51 x1 x2 σ = some res → zag [(17, some 5), (18, none), (19, none), (20, none), (21, none), (22, none), (38, some 7), (38, some 8), (38, some 15), (45, none)] σ res.2) {x1 : Int32} {x2 : Int32} {σ : ZM} (h : b_X0_sift_51 N rec51 x1 x2 σ = some res) : zag [(17, some 5), (18, none), (19, none), (20, none), (21, none), (22, none), (38, some 7), (38, some 8), (38, some 15), (45, none)] σ res.2 := by
  unfold b_X0_sift_51 at h
  have hA : zag [(17, some 5), (18, none), (19, none), (20, none), (21, none), (22, none), (38, some 7), (38, some 8), (38, some 15), (45, none)] σ σ := zag_r
  rcases zi2 h with ⟨hc55, h⟩ | ⟨hc55, h⟩
  · skip
    exact zag_t hA (fr_X0_sift_119 h)
  · skip
    rcases zi2 h with ⟨hc59, h⟩ | ⟨hc59, h⟩
    · skip
      exact zag_t hA (fr_X0_sift_119 h)
    · skip
      obtain ⟨r6, s7, es7, h⟩ := zc h
      replace hA := zag_t hA (zag_w (by decide) (fr_X0_firstQuarrel es7))
      rcases (zi2 h).symm with ⟨hc70, h⟩ | ⟨hc70, h⟩
      · skip
        exact zag_t hA (fr_X0_sift_96 hr51 h)
      · skip
        obtain ⟨r8, s9, es9, h⟩ := zc h
        replace hA := zag_t hA (zag_w (by decide) (fr_X0_packedRules es9))
        obtain ⟨s10, es10, h⟩ := zb h
        replace hA := zag_t hA (zag_w (by decide) (zag_iast es10))
        obtain ⟨s11, es11, h⟩ := zb h
        replace hA := zag_t hA (zag_w (by decide) (zag_putI es11))
        exact zag_t hA (fr_X0_sift_96 hr51 h)
theorem fr_X0_sift_51 {N : Nat} {res : Int32 × ZM} : ∀ (n : Nat) (x1 : Int32) (x2 : Int32) (σ : ZM), f_X0_sift_51 N n x1 x2 σ = some res → zag [(17, some 5), (18, none), (19, none), (20, none), (21, none), (22, none), (38, some 7), (38, some 8), (38, some 15), (45, none)] σ res.2 := by
  intro n
  induction n with
  | zero => intro x1 x2 σ h; exact absurd h (by simp [f_X0_sift_51])
  | succ n ih => intro x1 x2 σ h; rw [f_X0_sift_51] at h; exact fr_b_X0_sift_51 ih h
theorem fr_X0_sift {N : Nat} {σ : ZM} {res : Int32 × ZM} (h : f_X0_sift N σ = some res) : zag [(17, some 5), (18, none), (19, none), (20, none), (21, none), (22, none), (38, some 7), (38, some 8), (38, some 15), (45, none)] σ res.2 := by
  unfold f_X0_sift at h
  have hA : zag [(17, some 5), (18, none), (19, none), (20, none), (21, none), (22, none), (38, some 7), (38, some 8), (38, some 15), (45, none)] σ σ := zag_r
  obtain ⟨r12, s13, es13, h⟩ := zc h
  replace hA := zag_t hA (zag_w (by decide) (fr_X3_caseCount es13))
  rcases zi2 h with ⟨hc10, h⟩ | ⟨hc10, h⟩
  · skip
    rcases (zi2 h).symm with ⟨hc19, h⟩ | ⟨hc19, h⟩
    · skip
      obtain ⟨s14, es14, h⟩ := zb h
      replace hA := zag_t hA (zag_w (by decide) (zag_putZ es14))
      obtain ⟨s15, es15, h⟩ := zb h
      replace hA := zag_t hA (zag_w (by decide) (zag_putI es15))
      obtain ⟨s16, es16, h⟩ := zb h
      replace hA := zag_t hA (zag_w (by decide) (zag_putI es16))
      obtain ⟨r17, s18, es18, h⟩ := zc h
      replace hA := zag_t hA (zag_w (by decide) (fr_X2_takeLeastRules es18))
      exact zag_t hA (fr_X0_sift_51 _ _ _ _ h)
    · skip
      cases h
      exact hA
  · skip
    cases h
    exact hA
theorem fr_b_X0_takeRules_2 {N : Nat} {rec2 : Int32 → Int32 → ZM → Option (Unit × ZM)} {res : Unit × ZM} (hr2 : ∀ (x1 : Int32) (x2 : Int32) (σ : ZM), rec2 x1 x2 σ = some res → zag [(18, none)] σ res.2) {x1 : Int32} {x2 : Int32} {σ : ZM} (h : b_X0_takeRules_2 N rec2 x1 x2 σ = some res) : zag [(18, none)] σ res.2 := by
  unfold b_X0_takeRules_2 at h
  have hA : zag [(18, none)] σ σ := zag_r
  rcases zi2 h with ⟨hc10, h⟩ | ⟨hc10, h⟩
  · skip
    cases h
    exact hA
  · skip
    obtain ⟨s1, es1, h⟩ := zb h
    replace hA := zag_t hA (zag_w (by decide) (zag_iast es1))
    obtain ⟨v2, ev2, h⟩ := zb h
    exact zag_t hA (hr2 _ _ _ h)
theorem fr_X0_takeRules_2 {N : Nat} {res : Unit × ZM} : ∀ (n : Nat) (x1 : Int32) (x2 : Int32) (σ : ZM), f_X0_takeRules_2 N n x1 x2 σ = some res → zag [(18, none)] σ res.2 := by
  intro n
  induction n with
  | zero => intro x1 x2 σ h; exact absurd h (by simp [f_X0_takeRules_2])
  | succ n ih => intro x1 x2 σ h; rw [f_X0_takeRules_2] at h; exact fr_b_X0_takeRules_2 ih h
theorem fr_X0_takeRules {N : Nat} {x1 : Int32} {σ : ZM} {res : Unit × ZM} (h : f_X0_takeRules N x1 σ = some res) : zag [(18, none)] σ res.2 := by
  unfold f_X0_takeRules at h
  have hA : zag [(18, none)] σ σ := zag_r
  exact zag_t hA (fr_X0_takeRules_2 _ _ _ _ h)
theorem fr_b_X0_rulesOf_4 {N : Nat} {rec4 : Int32 → Int32 → Int32 → ZM → Option (Int32 × ZM)} {res : Int32 × ZM} (hr4 : ∀ (x1 : Int32) (x2 : Int32) (x3 : Int32) (σ : ZM), rec4 x1 x2 x3 σ = some res → zag [] σ res.2) {x1 : Int32} {x2 : Int32} {x3 : Int32} {σ : ZM} (h : b_X0_rulesOf_4 N rec4 x1 x2 x3 σ = some res) : zag [] σ res.2 := by
  unfold b_X0_rulesOf_4 at h
  have hA : zag [] σ σ := zag_r
  rcases zi2 h with ⟨hc9, h⟩ | ⟨hc9, h⟩
  · skip
    cases h
    exact hA
  · skip
    obtain ⟨v1, ev1, h⟩ := zb h
    obtain ⟨v2, ev2, h⟩ := zb h
    obtain ⟨v3, ev3, h⟩ := zb h
    exact zag_t hA (hr4 _ _ _ _ h)
theorem fr_X0_rulesOf_4 {N : Nat} {res : Int32 × ZM} : ∀ (n : Nat) (x1 : Int32) (x2 : Int32) (x3 : Int32) (σ : ZM), f_X0_rulesOf_4 N n x1 x2 x3 σ = some res → zag [] σ res.2 := by
  intro n
  induction n with
  | zero => intro x1 x2 x3 σ h; exact absurd h (by simp [f_X0_rulesOf_4])
  | succ n ih => intro x1 x2 x3 σ h; rw [f_X0_rulesOf_4] at h; exact fr_b_X0_rulesOf_4 ih h
theorem fr_X0_rulesOf {N : Nat} {x1 : Int32} {σ : ZM} {res : Int32 × ZM} (h : f_X0_rulesOf N x1 σ = some res) : zag [] σ res.2 := by
  unfold f_X0_rulesOf at h
  have hA : zag [] σ σ := zag_r
  exact zag_t hA (fr_X0_rulesOf_4 _ _ _ _ _ h)
theorem fr_X0_sitesOf_77 {N : Nat} {rec4 : Int32 → Int32 → Int32 → ZM → Option (Int32 × ZM)} {res : Int32 × ZM} (hr4 : ∀ (x1 : Int32) (x2 : Int32) (x3 : Int32) (σ : ZM), rec4 x1 x2 x3 σ = some res → zag [(17, some 5), (18, none), (19, none), (20, none), (21, none), (22, none)] σ res.2) {x1 : Int32} {x3 : Int32} {y0 : Int32} {y1 : Int32} {σ : ZM} (h : f_X0_sitesOf_77 N rec4 x1 x3 y0 y1 σ = some res) : zag [(17, some 5), (18, none), (19, none), (20, none), (21, none), (22, none)] σ res.2 := by
  unfold f_X0_sitesOf_77 at h
  have hA : zag [(17, some 5), (18, none), (19, none), (20, none), (21, none), (22, none)] σ σ := zag_r
  obtain ⟨v1, ev1, h⟩ := zb h
  obtain ⟨v2, ev2, h⟩ := zb h
  exact zag_t hA (hr4 _ _ _ _ h)
theorem fr_X0_sitesOf_75 {N : Nat} {rec4 : Int32 → Int32 → Int32 → ZM → Option (Int32 × ZM)} {res : Int32 × ZM} (hr4 : ∀ (x1 : Int32) (x2 : Int32) (x3 : Int32) (σ : ZM), rec4 x1 x2 x3 σ = some res → zag [(17, some 5), (18, none), (19, none), (20, none), (21, none), (22, none)] σ res.2) {x1 : Int32} {x3 : Int32} {y0 : Int32} {σ : ZM} (h : f_X0_sitesOf_75 N rec4 x1 x3 y0 σ = some res) : zag [(17, some 5), (18, none), (19, none), (20, none), (21, none), (22, none)] σ res.2 := by
  unfold f_X0_sitesOf_75 at h
  have hA : zag [(17, some 5), (18, none), (19, none), (20, none), (21, none), (22, none)] σ σ := zag_r
  exact zag_t hA (fr_X0_sitesOf_77 hr4 h)
theorem fr_X0_sitesOf_43 {N : Nat} {rec4 : Int32 → Int32 → Int32 → ZM → Option (Int32 × ZM)} {res : Int32 × ZM} (hr4 : ∀ (x1 : Int32) (x2 : Int32) (x3 : Int32) (σ : ZM), rec4 x1 x2 x3 σ = some res → zag [(17, some 5), (18, none), (19, none), (20, none), (21, none), (22, none)] σ res.2) {x1 : Int32} {x2 : Int32} {x3 : Int32} {y0 : Int32} {σ : ZM} (h : f_X0_sitesOf_43 N rec4 x1 x2 x3 y0 σ = some res) : zag [(17, some 5), (18, none), (19, none), (20, none), (21, none), (22, none)] σ res.2 := by
  unfold f_X0_sitesOf_43 at h
  have hA : zag [(17, some 5), (18, none), (19, none), (20, none), (21, none), (22, none)] σ σ := zag_r
  obtain ⟨r3, s4, es4, h⟩ := zc h
  replace hA := zag_t hA (zag_w (by decide) (fr_X2_comesTo es4))
  rcases zi2 h with ⟨hc58, h⟩ | ⟨hc58, h⟩
  · skip
    exact zag_t hA (fr_X0_sitesOf_75 hr4 h)
  · skip
    rcases zi2 h with ⟨hc65, h⟩ | ⟨hc65, h⟩
    · skip
      exact zag_t hA (fr_X0_sitesOf_75 hr4 h)
    · skip
      exact zag_t hA (fr_X0_sitesOf_77 hr4 h)
theorem fr_b_X0_sitesOf_4 {N : Nat} {rec4 : Int32 → Int32 → Int32 → ZM → Option (Int32 × ZM)} {res : Int32 × ZM} (hr4 : ∀ (x1 : Int32) (x2 : Int32) (x3 : Int32) (σ : ZM), rec4 x1 x2 x3 σ = some res → zag [(17, some 5), (18, none), (19, none), (20, none), (21, none), (22, none)] σ res.2) {x1 : Int32} {x2 : Int32} {x3 : Int32} {σ : ZM} (h : b_X0_sitesOf_4 N rec4 x1 x2 x3 σ = some res) : zag [(17, some 5), (18, none), (19, none), (20, none), (21, none), (22, none)] σ res.2 := by
  unfold b_X0_sitesOf_4 at h
  have hA : zag [(17, some 5), (18, none), (19, none), (20, none), (21, none), (22, none)] σ σ := zag_r
  rcases zi2 h with ⟨hc9, h⟩ | ⟨hc9, h⟩
  · skip
    cases h
    exact hA
  · skip
    obtain ⟨v5, ev5, h⟩ := zb h
    obtain ⟨r6, s7, es7, h⟩ := zc h
    replace hA := zag_t hA (zag_w (by decide) (fr_X0_takeRules es7))
    obtain ⟨r8, s9, es9, h⟩ := zc h
    replace hA := zag_t hA (zag_w (by decide) (fr_X2_settle es9))
    rcases zi2 h with ⟨hc35, h⟩ | ⟨hc35, h⟩
    · skip
      exact zag_t hA (fr_X0_sitesOf_43 hr4 h)
    · skip
      exact zag_t hA (fr_X0_sitesOf_43 hr4 h)
theorem fr_X0_sitesOf_4 {N : Nat} {res : Int32 × ZM} : ∀ (n : Nat) (x1 : Int32) (x2 : Int32) (x3 : Int32) (σ : ZM), f_X0_sitesOf_4 N n x1 x2 x3 σ = some res → zag [(17, some 5), (18, none), (19, none), (20, none), (21, none), (22, none)] σ res.2 := by
  intro n
  induction n with
  | zero => intro x1 x2 x3 σ h; exact absurd h (by simp [f_X0_sitesOf_4])
  | succ n ih => intro x1 x2 x3 σ h; rw [f_X0_sitesOf_4] at h; exact fr_b_X0_sitesOf_4 ih h
theorem fr_X0_sitesOf {N : Nat} {x1 : Int32} {σ : ZM} {res : Int32 × ZM} (h : f_X0_sitesOf N x1 σ = some res) : zag [(17, some 5), (18, none), (19, none), (20, none), (21, none), (22, none)] σ res.2 := by
  unfold f_X0_sitesOf at h
  have hA : zag [(17, some 5), (18, none), (19, none), (20, none), (21, none), (22, none)] σ σ := zag_r
  exact zag_t hA (fr_X0_sitesOf_4 _ _ _ _ _ h)
theorem fr_b_X2_outcome_4 {N : Nat} {rec4 : Int32 → Int32 → ZM → Option (Int32 × ZM)} {res : Int32 × ZM} (hr4 : ∀ (x1 : Int32) (x2 : Int32) (σ : ZM), rec4 x1 x2 σ = some res → zag [] σ res.2) {x1 : Int32} {x2 : Int32} {σ : ZM} (h : b_X2_outcome_4 N rec4 x1 x2 σ = some res) : zag [] σ res.2 := by
  unfold b_X2_outcome_4 at h
  have hA : zag [] σ σ := zag_r
  rcases zi2 h with ⟨hc12, h⟩ | ⟨hc12, h⟩
  · skip
    cases h
    exact hA
  · skip
    obtain ⟨v1, ev1, h⟩ := zb h
    obtain ⟨r2, s3, es3, h⟩ := zc h
    replace hA := zag_t hA (zag_w (by decide) (fr_X2_siteOf es3))
    obtain ⟨v4, ev4, h⟩ := zb h
    obtain ⟨v5, ev5, h⟩ := zb h
    exact zag_t hA (hr4 _ _ _ h)
theorem fr_X2_outcome_4 {N : Nat} {res : Int32 × ZM} : ∀ (n : Nat) (x1 : Int32) (x2 : Int32) (σ : ZM), f_X2_outcome_4 N n x1 x2 σ = some res → zag [] σ res.2 := by
  intro n
  induction n with
  | zero => intro x1 x2 σ h; exact absurd h (by simp [f_X2_outcome_4])
  | succ n ih => intro x1 x2 σ h; rw [f_X2_outcome_4] at h; exact fr_b_X2_outcome_4 ih h
theorem fr_X2_outcome {N : Nat} {σ : ZM} {res : Int32 × ZM} (h : f_X2_outcome N σ = some res) : zag [] σ res.2 := by
  unfold f_X2_outcome at h
  have hA : zag [] σ σ := zag_r
  exact zag_t hA (fr_X2_outcome_4 _ _ _ _ h)
theorem fr_b_X0_countAlike_2 {N : Nat} {rec2 : Int32 → Int32 → ZM → Option (Int32 × ZM)} {res : Int32 × ZM} (hr2 : ∀ (x1 : Int32) (x2 : Int32) (σ : ZM), rec2 x1 x2 σ = some res → zag [(38, some 11), (46, none), (47, none)] σ res.2) {x1 : Int32} {x2 : Int32} {σ : ZM} (h : b_X0_countAlike_2 N rec2 x1 x2 σ = some res) : zag [(38, some 11), (46, none), (47, none)] σ res.2 := by
  unfold b_X0_countAlike_2 at h
  have hA : zag [(38, some 11), (46, none), (47, none)] σ σ := zag_r
  rcases zi2 h with ⟨hc7, h⟩ | ⟨hc7, h⟩
  · skip
    obtain ⟨s1, es1, h⟩ := zb h
    replace hA := zag_t hA (zag_w (by decide) (zag_iast es1))
    obtain ⟨s2, es2, h⟩ := zb h
    replace hA := zag_t hA (zag_w (by decide) (zag_iast es2))
    obtain ⟨s3, es3, h⟩ := zb h
    replace hA := zag_t hA (zag_w (by decide) (zag_putI es3))
    cases h
    exact hA
  · skip
    obtain ⟨v4, ev4, h⟩ := zb h
    rcases (zi2 h).symm with ⟨hc17, h⟩ | ⟨hc17, h⟩
    · skip
      obtain ⟨v5, ev5, h⟩ := zb h
      exact zag_t hA (hr2 _ _ _ h)
    · skip
      obtain ⟨v6, ev6, h⟩ := zb h
      obtain ⟨s7, es7, h⟩ := zb h
      replace hA := zag_t hA (zag_w (by decide) (zag_iast es7))
      obtain ⟨v8, ev8, h⟩ := zb h
      cases h
      exact hA
theorem fr_X0_countAlike_2 {N : Nat} {res : Int32 × ZM} : ∀ (n : Nat) (x1 : Int32) (x2 : Int32) (σ : ZM), f_X0_countAlike_2 N n x1 x2 σ = some res → zag [(38, some 11), (46, none), (47, none)] σ res.2 := by
  intro n
  induction n with
  | zero => intro x1 x2 σ h; exact absurd h (by simp [f_X0_countAlike_2])
  | succ n ih => intro x1 x2 σ h; rw [f_X0_countAlike_2] at h; exact fr_b_X0_countAlike_2 ih h
theorem fr_X0_countAlike {N : Nat} {x1 : Int32} {σ : ZM} {res : Int32 × ZM} (h : f_X0_countAlike N x1 σ = some res) : zag [(38, some 11), (46, none), (47, none)] σ res.2 := by
  unfold f_X0_countAlike at h
  have hA : zag [(38, some 11), (46, none), (47, none)] σ σ := zag_r
  exact zag_t hA (fr_X0_countAlike_2 _ _ _ _ h)
theorem fr_X0_greatestAlike_105 {N : Nat} {res : Int32 × ZM} {x3 : Int32} {σ : ZM} (h : f_X0_greatestAlike_105 N x3 σ = some res) : zag [(17, some 5), (18, none), (19, none), (20, none), (21, none), (22, none), (38, some 11), (39, some 0), (40, none), (41, none), (42, none), (43, none), (46, none), (47, none)] σ res.2 := by
  unfold f_X0_greatestAlike_105 at h
  have hA : zag [(17, some 5), (18, none), (19, none), (20, none), (21, none), (22, none), (38, some 11), (39, some 0), (40, none), (41, none), (42, none), (43, none), (46, none), (47, none)] σ σ := zag_r
  cases h
  exact hA
theorem fr_X0_greatestAlike_86 {N : Nat} {rec31 : Int32 → Int32 → ZM → Option (Int32 × ZM)} {res : Int32 × ZM} (hr31 : ∀ (x3 : Int32) (x4 : Int32) (σ : ZM), rec31 x3 x4 σ = some res → zag [(17, some 5), (18, none), (19, none), (20, none), (21, none), (22, none), (38, some 11), (39, some 0), (40, none), (41, none), (42, none), (43, none), (46, none), (47, none)] σ res.2) {x3 : Int32} {x4 : Int32} {y0 : Int32} {σ : ZM} (h : f_X0_greatestAlike_86 N rec31 x3 x4 y0 σ = some res) : zag [(17, some 5), (18, none), (19, none), (20, none), (21, none), (22, none), (38, some 11), (39, some 0), (40, none), (41, none), (42, none), (43, none), (46, none), (47, none)] σ res.2 := by
  unfold f_X0_greatestAlike_86 at h
  have hA : zag [(17, some 5), (18, none), (19, none), (20, none), (21, none), (22, none), (38, some 11), (39, some 0), (40, none), (41, none), (42, none), (43, none), (46, none), (47, none)] σ σ := zag_r
  obtain ⟨r1, s2, es2, h⟩ := zc h
  replace hA := zag_t hA (zag_w (by decide) (fr_X0_countAlike es2))
  obtain ⟨v3, ev3, h⟩ := zb h
  obtain ⟨v4, ev4, h⟩ := zb h
  exact zag_t hA (hr31 _ _ _ h)
theorem fr_b_X0_greatestAlike_31 {N : Nat} {rec31 : Int32 → Int32 → ZM → Option (Int32 × ZM)} {res : Int32 × ZM} (hr31 : ∀ (x3 : Int32) (x4 : Int32) (σ : ZM), rec31 x3 x4 σ = some res → zag [(17, some 5), (18, none), (19, none), (20, none), (21, none), (22, none), (38, some 11), (39, some 0), (40, none), (41, none), (42, none), (43, none), (46, none), (47, none)] σ res.2) {x3 : Int32} {x4 : Int32} {σ : ZM} (h : b_X0_greatestAlike_31 N rec31 x3 x4 σ = some res) : zag [(17, some 5), (18, none), (19, none), (20, none), (21, none), (22, none), (38, some 11), (39, some 0), (40, none), (41, none), (42, none), (43, none), (46, none), (47, none)] σ res.2 := by
  unfold b_X0_greatestAlike_31 at h
  have hA : zag [(17, some 5), (18, none), (19, none), (20, none), (21, none), (22, none), (38, some 11), (39, some 0), (40, none), (41, none), (42, none), (43, none), (46, none), (47, none)] σ σ := zag_r
  rcases zi2 h with ⟨hc37, h⟩ | ⟨hc37, h⟩
  · skip
    exact zag_t hA (fr_X0_greatestAlike_105 h)
  · skip
    rcases zi2 h with ⟨hc45, h⟩ | ⟨hc45, h⟩
    · skip
      exact zag_t hA (fr_X0_greatestAlike_105 h)
    · skip
      obtain ⟨v5, ev5, h⟩ := zb h
      obtain ⟨r6, s7, es7, h⟩ := zc h
      replace hA := zag_t hA (zag_w (by decide) (fr_X0_takeRules es7))
      obtain ⟨r8, s9, es9, h⟩ := zc h
      replace hA := zag_t hA (zag_w (by decide) (fr_X2_settle es9))
      rcases (zi2 h).symm with ⟨hc72, h⟩ | ⟨hc72, h⟩
      · skip
        obtain ⟨r10, s11, es11, h⟩ := zc h
        replace hA := zag_t hA (zag_w (by decide) (fr_X2_outcome es11))
        exact zag_t hA (fr_X0_greatestAlike_86 hr31 h)
      · skip
        exact zag_t hA (fr_X0_greatestAlike_86 hr31 h)
theorem fr_X0_greatestAlike_31 {N : Nat} {res : Int32 × ZM} : ∀ (n : Nat) (x3 : Int32) (x4 : Int32) (σ : ZM), f_X0_greatestAlike_31 N n x3 x4 σ = some res → zag [(17, some 5), (18, none), (19, none), (20, none), (21, none), (22, none), (38, some 11), (39, some 0), (40, none), (41, none), (42, none), (43, none), (46, none), (47, none)] σ res.2 := by
  intro n
  induction n with
  | zero => intro x3 x4 σ h; exact absurd h (by simp [f_X0_greatestAlike_31])
  | succ n ih => intro x3 x4 σ h; rw [f_X0_greatestAlike_31] at h; exact fr_b_X0_greatestAlike_31 ih h
theorem fr_X0_greatestAlike {N : Nat} {x1 : Int32} {x2 : Int32} {σ : ZM} {res : Int32 × ZM} (h : f_X0_greatestAlike N x1 x2 σ = some res) : zag [(17, some 5), (18, none), (19, none), (20, none), (21, none), (22, none), (38, some 11), (39, some 0), (40, none), (41, none), (42, none), (43, none), (46, none), (47, none)] σ res.2 := by
  unfold f_X0_greatestAlike at h
  have hA : zag [(17, some 5), (18, none), (19, none), (20, none), (21, none), (22, none), (38, some 11), (39, some 0), (40, none), (41, none), (42, none), (43, none), (46, none), (47, none)] σ σ := zag_r
  obtain ⟨r12, s13, es13, h⟩ := zc h
  replace hA := zag_t hA (zag_w (by decide) (fr_X7_copy es13))
  obtain ⟨s14, es14, h⟩ := zb h
  replace hA := zag_t hA (zag_w (by decide) (zag_iast es14))
  obtain ⟨s15, es15, h⟩ := zb h
  replace hA := zag_t hA (zag_w (by decide) (zag_putI es15))
  exact zag_t hA (fr_X0_greatestAlike_31 _ _ _ _ h)
theorem fr_X0_seekTrial_111 {N : Nat} {rec25 : Int32 → ZM → Option (Unit × ZM)} {res : Unit × ZM} (hr25 : ∀ (x1 : Int32) (σ : ZM), rec25 x1 σ = some res → zag [(17, some 5), (18, none), (19, none), (20, none), (21, none), (22, none), (38, some 11), (38, some 12), (38, some 13), (38, some 14), (38, some 16), (39, some 0), (40, none), (41, none), (42, none), (43, none), (46, none), (47, none)] σ res.2) {x1 : Int32} {σ : ZM} (h : f_X0_seekTrial_111 N rec25 x1 σ = some res) : zag [(17, some 5), (18, none), (19, none), (20, none), (21, none), (22, none), (38, some 11), (38, some 12), (38, some 13), (38, some 14), (38, some 16), (39, some 0), (40, none), (41, none), (42, none), (43, none), (46, none), (47, none)] σ res.2 := by
  unfold f_X0_seekTrial_111 at h
  have hA : zag [(17, some 5), (18, none), (19, none), (20, none), (21, none), (22, none), (38, some 11), (38, some 12), (38, some 13), (38, some 14), (38, some 16), (39, some 0), (40, none), (41, none), (42, none), (43, none), (46, none), (47, none)] σ σ := zag_r
  obtain ⟨v1, ev1, h⟩ := zb h
  exact zag_t hA (hr25 _ _ h)
theorem fr_X0_seekTrial_105 {N : Nat} {rec25 : Int32 → ZM → Option (Unit × ZM)} {rec38 : Int32 → Int32 → ZM → Option (Unit × ZM)} {res : Unit × ZM} (hr25 : ∀ (x1 : Int32) (σ : ZM), rec25 x1 σ = some res → zag [(17, some 5), (18, none), (19, none), (20, none), (21, none), (22, none), (38, some 11), (38, some 12), (38, some 13), (38, some 14), (38, some 16), (39, some 0), (40, none), (41, none), (42, none), (43, none), (46, none), (47, none)] σ res.2) (hr38 : ∀ (x1 : Int32) (x2 : Int32) (σ : ZM), rec38 x1 x2 σ = some res → zag [(17, some 5), (18, none), (19, none), (20, none), (21, none), (22, none), (38, some 11), (38, some 12), (38, some 13), (38, some 14), (38, some 16), (39, some 0), (40, none), (41, none), (42, none), (43, none), (46, none), (47, none)] σ res.2) {x1 : Int32} {x2 : Int32} {σ : ZM} (h : f_X0_seekTrial_105 N rec25 rec38 x1 x2 σ = some res) : zag [(17, some 5), (18, none), (19, none), (20, none), (21, none), (22, none), (38, some 11), (38, some 12), (38, some 13), (38, some 14), (38, some 16), (39, some 0), (40, none), (41, none), (42, none), (43, none), (46, none), (47, none)] σ res.2 := by
  unfold f_X0_seekTrial_105 at h
  have hA : zag [(17, some 5), (18, none), (19, none), (20, none), (21, none), (22, none), (38, some 11), (38, some 12), (38, some 13), (38, some 14), (38, some 16), (39, some 0), (40, none), (41, none), (42, none), (43, none), (46, none), (47, none)] σ σ := zag_r
  obtain ⟨v2, ev2, h⟩ := zb h
  exact zag_t hA (hr38 _ _ _ h)
theorem fr_X0_seekTrial_81 {N : Nat} {rec25 : Int32 → ZM → Option (Unit × ZM)} {rec38 : Int32 → Int32 → ZM → Option (Unit × ZM)} {res : Unit × ZM} (hr25 : ∀ (x1 : Int32) (σ : ZM), rec25 x1 σ = some res → zag [(17, some 5), (18, none), (19, none), (20, none), (21, none), (22, none), (38, some 11), (38, some 12), (38, some 13), (38, some 14), (38, some 16), (39, some 0), (40, none), (41, none), (42, none), (43, none), (46, none), (47, none)] σ res.2) (hr38 : ∀ (x1 : Int32) (x2 : Int32) (σ : ZM), rec38 x1 x2 σ = some res → zag [(17, some 5), (18, none), (19, none), (20, none), (21, none), (22, none), (38, some 11), (38, some 12), (38, some 13), (38, some 14), (38, some 16), (39, some 0), (40, none), (41, none), (42, none), (43, none), (46, none), (47, none)] σ res.2) {x1 : Int32} {x2 : Int32} {y0 : Int32} {σ : ZM} (h : f_X0_seekTrial_81 N rec25 rec38 x1 x2 y0 σ = some res) : zag [(17, some 5), (18, none), (19, none), (20, none), (21, none), (22, none), (38, some 11), (38, some 12), (38, some 13), (38, some 14), (38, some 16), (39, some 0), (40, none), (41, none), (42, none), (43, none), (46, none), (47, none)] σ res.2 := by
  unfold f_X0_seekTrial_81 at h
  have hA : zag [(17, some 5), (18, none), (19, none), (20, none), (21, none), (22, none), (38, some 11), (38, some 12), (38, some 13), (38, some 14), (38, some 16), (39, some 0), (40, none), (41, none), (42, none), (43, none), (46, none), (47, none)] σ σ := zag_r
  rcases zi2 h with ⟨hc87, h⟩ | ⟨hc87, h⟩
  · skip
    exact zag_t hA (fr_X0_seekTrial_105 hr25 hr38 h)
  · skip
    obtain ⟨s3, es3, h⟩ := zb h
    replace hA := zag_t hA (zag_w (by decide) (zag_putI es3))
    obtain ⟨s4, es4, h⟩ := zb h
    replace hA := zag_t hA (zag_w (by decide) (zag_putI es4))
    obtain ⟨s5, es5, h⟩ := zb h
    replace hA := zag_t hA (zag_w (by decide) (zag_putI es5))
    exact zag_t hA (fr_X0_seekTrial_105 hr25 hr38 h)
theorem fr_b_X0_seekTrial_38 {N : Nat} {rec25 : Int32 → ZM → Option (Unit × ZM)} {rec38 : Int32 → Int32 → ZM → Option (Unit × ZM)} {res : Unit × ZM} (hr25 : ∀ (x1 : Int32) (σ : ZM), rec25 x1 σ = some res → zag [(17, some 5), (18, none), (19, none), (20, none), (21, none), (22, none), (38, some 11), (38, some 12), (38, some 13), (38, some 14), (38, some 16), (39, some 0), (40, none), (41, none), (42, none), (43, none), (46, none), (47, none)] σ res.2) (hr38 : ∀ (x1 : Int32) (x2 : Int32) (σ : ZM), rec38 x1 x2 σ = some res → zag [(17, some 5), (18, none), (19, none), (20, none), (21, none), (22, none), (38, some 11), (38, some 12), (38, some 13), (38, some 14), (38, some 16), (39, some 0), (40, none), (41, none), (42, none), (43, none), (46, none), (47, none)] σ res.2) {x1 : Int32} {x2 : Int32} {σ : ZM} (h : b_X0_seekTrial_38 N rec25 rec38 x1 x2 σ = some res) : zag [(17, some 5), (18, none), (19, none), (20, none), (21, none), (22, none), (38, some 11), (38, some 12), (38, some 13), (38, some 14), (38, some 16), (39, some 0), (40, none), (41, none), (42, none), (43, none), (46, none), (47, none)] σ res.2 := by
  unfold b_X0_seekTrial_38 at h
  have hA : zag [(17, some 5), (18, none), (19, none), (20, none), (21, none), (22, none), (38, some 11), (38, some 12), (38, some 13), (38, some 14), (38, some 16), (39, some 0), (40, none), (41, none), (42, none), (43, none), (46, none), (47, none)] σ σ := zag_r
  rcases zi2 h with ⟨hc40, h⟩ | ⟨hc40, h⟩
  · skip
    exact zag_t hA (fr_X0_seekTrial_111 hr25 h)
  · skip
    obtain ⟨v6, ev6, h⟩ := zb h
    rcases zi2 h with ⟨hc52, h⟩ | ⟨hc52, h⟩
    · skip
      exact zag_t hA (fr_X0_seekTrial_111 hr25 h)
    · skip
      obtain ⟨v7, ev7, h⟩ := zb h
      rcases (zi2 h).symm with ⟨hc65, h⟩ | ⟨hc65, h⟩
      · skip
        obtain ⟨r8, s9, es9, h⟩ := zc h
        replace hA := zag_t hA (zag_w (by decide) (fr_X0_greatestAlike es9))
        exact zag_t hA (fr_X0_seekTrial_81 hr25 hr38 h)
      · skip
        exact zag_t hA (fr_X0_seekTrial_81 hr25 hr38 h)
theorem fr_X0_seekTrial_38 {N : Nat} {rec25 : Int32 → ZM → Option (Unit × ZM)} {res : Unit × ZM} (hr25 : ∀ (x1 : Int32) (σ : ZM), rec25 x1 σ = some res → zag [(17, some 5), (18, none), (19, none), (20, none), (21, none), (22, none), (38, some 11), (38, some 12), (38, some 13), (38, some 14), (38, some 16), (39, some 0), (40, none), (41, none), (42, none), (43, none), (46, none), (47, none)] σ res.2) : ∀ (n : Nat) (x1 : Int32) (x2 : Int32) (σ : ZM), f_X0_seekTrial_38 N rec25 n x1 x2 σ = some res → zag [(17, some 5), (18, none), (19, none), (20, none), (21, none), (22, none), (38, some 11), (38, some 12), (38, some 13), (38, some 14), (38, some 16), (39, some 0), (40, none), (41, none), (42, none), (43, none), (46, none), (47, none)] σ res.2 := by
  intro n
  induction n with
  | zero => intro x1 x2 σ h; exact absurd h (by simp [f_X0_seekTrial_38])
  | succ n ih => intro x1 x2 σ h; rw [f_X0_seekTrial_38] at h; exact fr_b_X0_seekTrial_38 hr25 ih h
theorem fr_b_X0_seekTrial_25 {N : Nat} {rec25 : Int32 → ZM → Option (Unit × ZM)} {res : Unit × ZM} (hr25 : ∀ (x1 : Int32) (σ : ZM), rec25 x1 σ = some res → zag [(17, some 5), (18, none), (19, none), (20, none), (21, none), (22, none), (38, some 11), (38, some 12), (38, some 13), (38, some 14), (38, some 16), (39, some 0), (40, none), (41, none), (42, none), (43, none), (46, none), (47, none)] σ res.2) {x1 : Int32} {σ : ZM} (h : b_X0_seekTrial_25 N rec25 x1 σ = some res) : zag [(17, some 5), (18, none), (19, none), (20, none), (21, none), (22, none), (38, some 11), (38, some 12), (38, some 13), (38, some 14), (38, some 16), (39, some 0), (40, none), (41, none), (42, none), (43, none), (46, none), (47, none)] σ res.2 := by
  unfold b_X0_seekTrial_25 at h
  have hA : zag [(17, some 5), (18, none), (19, none), (20, none), (21, none), (22, none), (38, some 11), (38, some 12), (38, some 13), (38, some 14), (38, some 16), (39, some 0), (40, none), (41, none), (42, none), (43, none), (46, none), (47, none)] σ σ := zag_r
  rcases zi2 h with ⟨hc33, h⟩ | ⟨hc33, h⟩
  · skip
    cases h
    exact hA
  · skip
    exact zag_t hA (fr_X0_seekTrial_38 hr25 _ _ _ _ h)
theorem fr_X0_seekTrial_25 {N : Nat} {res : Unit × ZM} : ∀ (n : Nat) (x1 : Int32) (σ : ZM), f_X0_seekTrial_25 N n x1 σ = some res → zag [(17, some 5), (18, none), (19, none), (20, none), (21, none), (22, none), (38, some 11), (38, some 12), (38, some 13), (38, some 14), (38, some 16), (39, some 0), (40, none), (41, none), (42, none), (43, none), (46, none), (47, none)] σ res.2 := by
  intro n
  induction n with
  | zero => intro x1 σ h; exact absurd h (by simp [f_X0_seekTrial_25])
  | succ n ih => intro x1 σ h; rw [f_X0_seekTrial_25] at h; exact fr_b_X0_seekTrial_25 ih h
theorem fr_X0_seekTrial {N : Nat} {σ : ZM} {res : Unit × ZM} (h : f_X0_seekTrial N σ = some res) : zag [(17, some 5), (18, none), (19, none), (20, none), (21, none), (22, none), (38, some 11), (38, some 12), (38, some 13), (38, some 14), (38, some 16), (39, some 0), (40, none), (41, none), (42, none), (43, none), (46, none), (47, none)] σ res.2 := by
  unfold f_X0_seekTrial at h
  have hA : zag [(17, some 5), (18, none), (19, none), (20, none), (21, none), (22, none), (38, some 11), (38, some 12), (38, some 13), (38, some 14), (38, some 16), (39, some 0), (40, none), (41, none), (42, none), (43, none), (46, none), (47, none)] σ σ := zag_r
  rcases zi2 h with ⟨hc4, h⟩ | ⟨hc4, h⟩
  · skip
    obtain ⟨s10, es10, h⟩ := zb h
    replace hA := zag_t hA (zag_w (by decide) (zag_putZ es10))
    obtain ⟨s11, es11, h⟩ := zb h
    replace hA := zag_t hA (zag_w (by decide) (zag_putI es11))
    exact zag_t hA (fr_X0_seekTrial_25 _ _ _ h)
  · skip
    cases h
    exact hA
theorem fr_X1_forget {N : Nat} {σ : ZM} {res : Unit × ZM} (h : f_X1_forget N σ = some res) : zag [(23, some 14)] σ res.2 := by
  unfold f_X1_forget at h
  have hA : zag [(23, some 14)] σ σ := zag_r
  obtain ⟨s1, es1, h⟩ := zb h
  replace hA := zag_t hA (zag_w (by decide) (zag_putZ es1))
  cases h
  exact hA
theorem fr_X1_pickNow_36 {N : Nat} {rec2 : Int32 → ZM → Option (Unit × ZM)} {res : Unit × ZM} (hr2 : ∀ (x1 : Int32) (σ : ZM), rec2 x1 σ = some res → zag [(32, none)] σ res.2) {x1 : Int32} {y0 : Int32} {y1 : Int32} {σ : ZM} (h : f_X1_pickNow_36 N rec2 x1 y0 y1 σ = some res) : zag [(32, none)] σ res.2 := by
  unfold f_X1_pickNow_36 at h
  have hA : zag [(32, none)] σ σ := zag_r
  obtain ⟨s1, es1, h⟩ := zb h
  replace hA := zag_t hA (zag_w (by decide) (zag_iast es1))
  obtain ⟨v2, ev2, h⟩ := zb h
  exact zag_t hA (hr2 _ _ h)
theorem fr_b_X1_pickNow_2 {N : Nat} {rec2 : Int32 → ZM → Option (Unit × ZM)} {res : Unit × ZM} (hr2 : ∀ (x1 : Int32) (σ : ZM), rec2 x1 σ = some res → zag [(32, none)] σ res.2) {x1 : Int32} {σ : ZM} (h : b_X1_pickNow_2 N rec2 x1 σ = some res) : zag [(32, none)] σ res.2 := by
  unfold b_X1_pickNow_2 at h
  have hA : zag [(32, none)] σ σ := zag_r
  rcases zi2 h with ⟨hc4, h⟩ | ⟨hc4, h⟩
  · skip
    cases h
    exact hA
  · skip
    obtain ⟨r3, s4, es4, h⟩ := zc h
    replace hA := zag_t hA (zag_w (by decide) (fr_X7_isSaid es4))
    rcases zi2 h with ⟨hc20, h⟩ | ⟨hc20, h⟩
    · skip
      exact zag_t hA (fr_X1_pickNow_36 hr2 h)
    · skip
      obtain ⟨v5, ev5, h⟩ := zb h
      exact zag_t hA (fr_X1_pickNow_36 hr2 h)
theorem fr_X1_pickNow_2 {N : Nat} {res : Unit × ZM} : ∀ (n : Nat) (x1 : Int32) (σ : ZM), f_X1_pickNow_2 N n x1 σ = some res → zag [(32, none)] σ res.2 := by
  intro n
  induction n with
  | zero => intro x1 σ h; exact absurd h (by simp [f_X1_pickNow_2])
  | succ n ih => intro x1 σ h; rw [f_X1_pickNow_2] at h; exact fr_b_X1_pickNow_2 ih h
theorem fr_X1_pickNow {N : Nat} {σ : ZM} {res : Unit × ZM} (h : f_X1_pickNow N σ = some res) : zag [(32, none)] σ res.2 := by
  unfold f_X1_pickNow at h
  have hA : zag [(32, none)] σ σ := zag_r
  exact zag_t hA (fr_X1_pickNow_2 _ _ _ h)
theorem fr_X7_has {N : Nat} {w0 : Nat} {x1 : Int32} {σ : ZM} {res : Int32 × ZM} (h : f_X7_has N w0 x1 σ = some res) : zag [] σ res.2 := by
  unfold f_X7_has at h
  have hA : zag [] σ σ := zag_r
  rcases zi2 h with ⟨hc1, h⟩ | ⟨hc1, h⟩
  · skip
    cases h
    exact hA
  · skip
    rcases zi2 h with ⟨hc9, h⟩ | ⟨hc9, h⟩
    · skip
      cases h
      exact hA
    · skip
      cases h
      exact hA
theorem fr_X1_pickFirst_40 {N : Nat} {rec2 : Int32 → ZM → Option (Unit × ZM)} {res : Unit × ZM} (hr2 : ∀ (x1 : Int32) (σ : ZM), rec2 x1 σ = some res → zag [(32, none)] σ res.2) {x1 : Int32} {y0 : Int32} {y1 : Int32} {σ : ZM} (h : f_X1_pickFirst_40 N rec2 x1 y0 y1 σ = some res) : zag [(32, none)] σ res.2 := by
  unfold f_X1_pickFirst_40 at h
  have hA : zag [(32, none)] σ σ := zag_r
  obtain ⟨s1, es1, h⟩ := zb h
  replace hA := zag_t hA (zag_w (by decide) (zag_iast es1))
  obtain ⟨v2, ev2, h⟩ := zb h
  exact zag_t hA (hr2 _ _ h)
theorem fr_X1_pickFirst_39 {N : Nat} {rec2 : Int32 → ZM → Option (Unit × ZM)} {res : Unit × ZM} (hr2 : ∀ (x1 : Int32) (σ : ZM), rec2 x1 σ = some res → zag [(32, none)] σ res.2) {x1 : Int32} {y0 : Int32} {σ : ZM} (h : f_X1_pickFirst_39 N rec2 x1 y0 σ = some res) : zag [(32, none)] σ res.2 := by
  unfold f_X1_pickFirst_39 at h
  have hA : zag [(32, none)] σ σ := zag_r
  exact zag_t hA (fr_X1_pickFirst_40 hr2 h)
theorem fr_b_X1_pickFirst_2 {N : Nat} {rec2 : Int32 → ZM → Option (Unit × ZM)} {res : Unit × ZM} (hr2 : ∀ (x1 : Int32) (σ : ZM), rec2 x1 σ = some res → zag [(32, none)] σ res.2) {x1 : Int32} {σ : ZM} (h : b_X1_pickFirst_2 N rec2 x1 σ = some res) : zag [(32, none)] σ res.2 := by
  unfold b_X1_pickFirst_2 at h
  have hA : zag [(32, none)] σ σ := zag_r
  rcases zi2 h with ⟨hc4, h⟩ | ⟨hc4, h⟩
  · skip
    cases h
    exact hA
  · skip
    obtain ⟨r3, s4, es4, h⟩ := zc h
    replace hA := zag_t hA (zag_w (by decide) (fr_X7_has es4))
    rcases zi2 h with ⟨hc20, h⟩ | ⟨hc20, h⟩
    · skip
      exact zag_t hA (fr_X1_pickFirst_39 hr2 h)
    · skip
      obtain ⟨v5, ev5, h⟩ := zb h
      rcases zi2 h with ⟨hc32, h⟩ | ⟨hc32, h⟩
      · skip
        exact zag_t hA (fr_X1_pickFirst_39 hr2 h)
      · skip
        exact zag_t hA (fr_X1_pickFirst_40 hr2 h)
theorem fr_X1_pickFirst_2 {N : Nat} {res : Unit × ZM} : ∀ (n : Nat) (x1 : Int32) (σ : ZM), f_X1_pickFirst_2 N n x1 σ = some res → zag [(32, none)] σ res.2 := by
  intro n
  induction n with
  | zero => intro x1 σ h; exact absurd h (by simp [f_X1_pickFirst_2])
  | succ n ih => intro x1 σ h; rw [f_X1_pickFirst_2] at h; exact fr_b_X1_pickFirst_2 ih h
theorem fr_X1_pickFirst {N : Nat} {σ : ZM} {res : Unit × ZM} (h : f_X1_pickFirst N σ = some res) : zag [(32, none)] σ res.2 := by
  unfold f_X1_pickFirst at h
  have hA : zag [(32, none)] σ σ := zag_r
  exact zag_t hA (fr_X1_pickFirst_2 _ _ _ h)
theorem fr_X1_pickNext_70 {N : Nat} {rec10 : Int32 → ZM → Option (Int32 × ZM)} {res : Int32 × ZM} (hr10 : ∀ (x1 : Int32) (σ : ZM), rec10 x1 σ = some res → zag [(32, none)] σ res.2) {x1 : Int32} {y0 : Int32} {y1 : Int32} {σ : ZM} (h : f_X1_pickNext_70 N rec10 x1 y0 y1 σ = some res) : zag [(32, none)] σ res.2 := by
  unfold f_X1_pickNext_70 at h
  have hA : zag [(32, none)] σ σ := zag_r
  obtain ⟨s1, es1, h⟩ := zb h
  replace hA := zag_t hA (zag_w (by decide) (zag_iast es1))
  obtain ⟨v2, ev2, h⟩ := zb h
  exact zag_t hA (hr10 _ _ h)
theorem fr_X1_pickNext_48 {N : Nat} {rec10 : Int32 → ZM → Option (Int32 × ZM)} {res : Int32 × ZM} (hr10 : ∀ (x1 : Int32) (σ : ZM), rec10 x1 σ = some res → zag [(32, none)] σ res.2) {x1 : Int32} {σ : ZM} (h : f_X1_pickNext_48 N rec10 x1 σ = some res) : zag [(32, none)] σ res.2 := by
  unfold f_X1_pickNext_48 at h
  have hA : zag [(32, none)] σ σ := zag_r
  obtain ⟨v3, ev3, h⟩ := zb h
  rcases zi2 h with ⟨hc62, h⟩ | ⟨hc62, h⟩
  · skip
    exact zag_t hA (fr_X1_pickNext_70 hr10 h)
  · skip
    exact zag_t hA (fr_X1_pickNext_70 hr10 h)
theorem fr_b_X1_pickNext_10 {N : Nat} {rec10 : Int32 → ZM → Option (Int32 × ZM)} {res : Int32 × ZM} (hr10 : ∀ (x1 : Int32) (σ : ZM), rec10 x1 σ = some res → zag [(32, none)] σ res.2) {x1 : Int32} {σ : ZM} (h : b_X1_pickNext_10 N rec10 x1 σ = some res) : zag [(32, none)] σ res.2 := by
  unfold b_X1_pickNext_10 at h
  have hA : zag [(32, none)] σ σ := zag_r
  rcases zi2 h with ⟨hc11, h⟩ | ⟨hc11, h⟩
  · skip
    cases h
    exact hA
  · skip
    obtain ⟨v4, ev4, h⟩ := zb h
    rcases zi2 h with ⟨hc23, h⟩ | ⟨hc23, h⟩
    · skip
      exact zag_t hA (fr_X1_pickNext_48 hr10 h)
    · skip
      obtain ⟨v5, ev5, h⟩ := zb h
      rcases zi2 h with ⟨hc33, h⟩ | ⟨hc33, h⟩
      · skip
        exact zag_t hA (fr_X1_pickNext_48 hr10 h)
      · skip
        obtain ⟨v6, ev6, h⟩ := zb h
        obtain ⟨s7, es7, h⟩ := zb h
        replace hA := zag_t hA (zag_w (by decide) (zag_iast es7))
        cases h
        exact hA
theorem fr_X1_pickNext_10 {N : Nat} {res : Int32 × ZM} : ∀ (n : Nat) (x1 : Int32) (σ : ZM), f_X1_pickNext_10 N n x1 σ = some res → zag [(32, none)] σ res.2 := by
  intro n
  induction n with
  | zero => intro x1 σ h; exact absurd h (by simp [f_X1_pickNext_10])
  | succ n ih => intro x1 σ h; rw [f_X1_pickNext_10] at h; exact fr_b_X1_pickNext_10 ih h
theorem fr_X1_pickNext {N : Nat} {σ : ZM} {res : Int32 × ZM} (h : f_X1_pickNext N σ = some res) : zag [(32, none)] σ res.2 := by
  unfold f_X1_pickNext at h
  have hA : zag [(32, none)] σ σ := zag_r
  obtain ⟨v8, ev8, h⟩ := zb h
  exact zag_t hA (fr_X1_pickNext_10 _ _ _ h)
theorem fr_b_X1_place_4 {N : Nat} {rec4 : Int32 → Int32 → ZM → Option (Int32 × ZM)} {res : Int32 × ZM} (hr4 : ∀ (x1 : Int32) (x2 : Int32) (σ : ZM), rec4 x1 x2 σ = some res → zag [] σ res.2) {x1 : Int32} {x2 : Int32} {σ : ZM} (h : b_X1_place_4 N rec4 x1 x2 σ = some res) : zag [] σ res.2 := by
  unfold b_X1_place_4 at h
  have hA : zag [] σ σ := zag_r
  rcases zi2 h with ⟨hc6, h⟩ | ⟨hc6, h⟩
  · skip
    cases h
    exact hA
  · skip
    obtain ⟨v1, ev1, h⟩ := zb h
    obtain ⟨v2, ev2, h⟩ := zb h
    obtain ⟨v3, ev3, h⟩ := zb h
    exact zag_t hA (hr4 _ _ _ h)
theorem fr_X1_place_4 {N : Nat} {res : Int32 × ZM} : ∀ (n : Nat) (x1 : Int32) (x2 : Int32) (σ : ZM), f_X1_place_4 N n x1 x2 σ = some res → zag [] σ res.2 := by
  intro n
  induction n with
  | zero => intro x1 x2 σ h; exact absurd h (by simp [f_X1_place_4])
  | succ n ih => intro x1 x2 σ h; rw [f_X1_place_4] at h; exact fr_b_X1_place_4 ih h
theorem fr_X1_place {N : Nat} {σ : ZM} {res : Int32 × ZM} (h : f_X1_place N σ = some res) : zag [] σ res.2 := by
  unfold f_X1_place at h
  have hA : zag [] σ σ := zag_r
  exact zag_t hA (fr_X1_place_4 _ _ _ _ h)
theorem fr_b_J7_fill_53178_5 {N : Nat} {a0 : Nat} {n0 : Nat} {rec5 : Int32 → Int32 → Int32 → ZM → Option (Unit × ZM)} {res : Unit × ZM} (hr5 : ∀ (x1 : Int32) (x2 : Int32) (x3 : Int32) (σ : ZM), rec5 x1 x2 x3 σ = some res → zag [(a0, none)] σ res.2) {x1 : Int32} {x2 : Int32} {x3 : Int32} {σ : ZM} (h : b_J7_fill_53178_5 N a0 n0 rec5 x1 x2 x3 σ = some res) : zag [(a0, none)] σ res.2 := by
  unfold b_J7_fill_53178_5 at h
  have hA : zag [(a0, none)] σ σ := zag_r
  rcases zi2 h with ⟨hc7, h⟩ | ⟨hc7, h⟩
  · skip
    cases h
    exact hA
  · skip
    obtain ⟨s1, es1, h⟩ := zb h
    replace hA := zag_t hA (zag_w (by simp) (zag_iast es1))
    obtain ⟨v2, ev2, h⟩ := zb h
    exact zag_t hA (hr5 _ _ _ _ h)
theorem fr_J7_fill_53178_5 {N : Nat} {a0 : Nat} {n0 : Nat} {res : Unit × ZM} : ∀ (n : Nat) (x1 : Int32) (x2 : Int32) (x3 : Int32) (σ : ZM), f_J7_fill_53178_5 N a0 n0 n x1 x2 x3 σ = some res → zag [(a0, none)] σ res.2 := by
  intro n
  induction n with
  | zero => intro x1 x2 x3 σ h; exact absurd h (by simp [f_J7_fill_53178_5])
  | succ n ih => intro x1 x2 x3 σ h; rw [f_J7_fill_53178_5] at h; exact fr_b_J7_fill_53178_5 ih h
theorem fr_J7_fill_53178 {N : Nat} {a0 : Nat} {n0 : Nat} {x1 : Int32} {σ : ZM} {res : Unit × ZM} (h : f_J7_fill_53178 N a0 n0 x1 σ = some res) : zag [(a0, none)] σ res.2 := by
  unfold f_J7_fill_53178 at h
  have hA : zag [(a0, none)] σ σ := zag_r
  obtain ⟨v3, ev3, h⟩ := zb h
  exact zag_t hA (fr_J7_fill_53178_5 _ _ _ _ _ h)
theorem fr_b_X1_weighRest_116 {N : Nat} {rec116 : Int32 → Int32 → Int32 → Int32 → ZM → Option (Unit × ZM)} {res : Unit × ZM} (hr116 : ∀ (x1 : Int32) (x2 : Int32) (x3 : Int32) (x4 : Int32) (σ : ZM), rec116 x1 x2 x3 x4 σ = some res → zag [(29, none), (30, none), (31, none)] σ res.2) {x1 : Int32} {x2 : Int32} {x3 : Int32} {x4 : Int32} {σ : ZM} (h : b_X1_weighRest_116 N rec116 x1 x2 x3 x4 σ = some res) : zag [(29, none), (30, none), (31, none)] σ res.2 := by
  unfold b_X1_weighRest_116 at h
  have hA : zag [(29, none), (30, none), (31, none)] σ σ := zag_r
  rcases zi2 h with ⟨hc125, h⟩ | ⟨hc125, h⟩
  · skip
    obtain ⟨s1, es1, h⟩ := zb h
    replace hA := zag_t hA (zag_w (by decide) (zag_iast es1))
    obtain ⟨s2, es2, h⟩ := zb h
    replace hA := zag_t hA (zag_w (by decide) (zag_iast es2))
    cases h
    exact hA
  · skip
    obtain ⟨v3, ev3, h⟩ := zb h
    obtain ⟨v4, ev4, h⟩ := zb h
    obtain ⟨v5, ev5, h⟩ := zb h
    obtain ⟨v6, ev6, h⟩ := zb h
    exact zag_t hA (hr116 _ _ _ _ _ h)
theorem fr_X1_weighRest_116 {N : Nat} {res : Unit × ZM} : ∀ (n : Nat) (x1 : Int32) (x2 : Int32) (x3 : Int32) (x4 : Int32) (σ : ZM), f_X1_weighRest_116 N n x1 x2 x3 x4 σ = some res → zag [(29, none), (30, none), (31, none)] σ res.2 := by
  intro n
  induction n with
  | zero => intro x1 x2 x3 x4 σ h; exact absurd h (by simp [f_X1_weighRest_116])
  | succ n ih => intro x1 x2 x3 x4 σ h; rw [f_X1_weighRest_116] at h; exact fr_b_X1_weighRest_116 ih h
theorem fr_X1_weighRest_105 {N : Nat} {rec12 : Int32 → Int32 → Int32 → ZM → Option (Unit × ZM)} {res : Unit × ZM} (hr12 : ∀ (x1 : Int32) (x2 : Int32) (x3 : Int32) (σ : ZM), rec12 x1 x2 x3 σ = some res → zag [(29, none), (30, none), (31, none)] σ res.2) {x1 : Int32} {x2 : Int32} {x3 : Int32} {σ : ZM} (h : f_X1_weighRest_105 N rec12 x1 x2 x3 σ = some res) : zag [(29, none), (30, none), (31, none)] σ res.2 := by
  unfold f_X1_weighRest_105 at h
  have hA : zag [(29, none), (30, none), (31, none)] σ σ := zag_r
  obtain ⟨v7, ev7, h⟩ := zb h
  exact zag_t hA (hr12 _ _ _ _ h)
theorem fr_b_X1_weighRest_12 {N : Nat} {rec12 : Int32 → Int32 → Int32 → ZM → Option (Unit × ZM)} {res : Unit × ZM} (hr12 : ∀ (x1 : Int32) (x2 : Int32) (x3 : Int32) (σ : ZM), rec12 x1 x2 x3 σ = some res → zag [(29, none), (30, none), (31, none)] σ res.2) {x1 : Int32} {x2 : Int32} {x3 : Int32} {σ : ZM} (h : b_X1_weighRest_12 N rec12 x1 x2 x3 σ = some res) : zag [(29, none), (30, none), (31, none)] σ res.2 := by
  unfold b_X1_weighRest_12 at h
  have hA : zag [(29, none), (30, none), (31, none)] σ σ := zag_r
  rcases zi2 h with ⟨hc20, h⟩ | ⟨hc20, h⟩
  · skip
    exact zag_t hA (fr_X1_weighRest_116 _ _ _ _ _ _ h)
  · skip
    obtain ⟨r8, s9, es9, h⟩ := zc h
    replace hA := zag_t hA (zag_w (by decide) (fr_X2_comesTo es9))
    rcases (zi2 h).symm with ⟨hc37, h⟩ | ⟨hc37, h⟩
    · skip
      obtain ⟨v10, ev10, h⟩ := zb h
      obtain ⟨v11, ev11, h⟩ := zb h
      obtain ⟨v12, ev12, h⟩ := zb h
      obtain ⟨v13, ev13, h⟩ := zb h
      obtain ⟨v14, ev14, h⟩ := zb h
      obtain ⟨s15, es15, h⟩ := zb h
      replace hA := zag_t hA (zag_w (by decide) (zag_iast es15))
      exact zag_t hA (fr_X1_weighRest_105 hr12 h)
    · skip
      obtain ⟨v16, ev16, h⟩ := zb h
      obtain ⟨v17, ev17, h⟩ := zb h
      exact zag_t hA (fr_X1_weighRest_105 hr12 h)
theorem fr_X1_weighRest_12 {N : Nat} {res : Unit × ZM} : ∀ (n : Nat) (x1 : Int32) (x2 : Int32) (x3 : Int32) (σ : ZM), f_X1_weighRest_12 N n x1 x2 x3 σ = some res → zag [(29, none), (30, none), (31, none)] σ res.2 := by
  intro n
  induction n with
  | zero => intro x1 x2 x3 σ h; exact absurd h (by simp [f_X1_weighRest_12])
  | succ n ih => intro x1 x2 x3 σ h; rw [f_X1_weighRest_12] at h; exact fr_b_X1_weighRest_12 ih h
theorem fr_X1_weighRest {N : Nat} {x1 : Int32} {σ : ZM} {res : Unit × ZM} (h : f_X1_weighRest N x1 σ = some res) : zag [(29, none), (30, none), (31, none)] σ res.2 := by
  unfold f_X1_weighRest at h
  have hA : zag [(29, none), (30, none), (31, none)] σ σ := zag_r
  obtain ⟨r18, s19, es19, h⟩ := zc h
  replace hA := zag_t hA (zag_w (by decide) (fr_J7_fill_53178 es19))
  exact zag_t hA (fr_X1_weighRest_12 _ _ _ _ _ h)
theorem fr_X1_measure_102 {N : Nat} {res : Int32 × ZM} {x1 : Int32} {σ : ZM} (h : f_X1_measure_102 N x1 σ = some res) : zag [(17, some 5), (18, none), (19, none), (20, none), (21, none), (22, none), (23, some 14), (24, some 0), (25, none), (26, none), (27, none), (28, none), (29, none), (30, none), (31, none)] σ res.2 := by
  unfold f_X1_measure_102 at h
  have hA : zag [(17, some 5), (18, none), (19, none), (20, none), (21, none), (22, none), (23, some 14), (24, some 0), (25, none), (26, none), (27, none), (28, none), (29, none), (30, none), (31, none)] σ σ := zag_r
  cases h
  exact hA
theorem fr_X1_measure_20 {N : Nat} {res : Int32 × ZM} {σ : ZM} (h : f_X1_measure_20 N σ = some res) : zag [(17, some 5), (18, none), (19, none), (20, none), (21, none), (22, none), (23, some 14), (24, some 0), (25, none), (26, none), (27, none), (28, none), (29, none), (30, none), (31, none)] σ res.2 := by
  unfold f_X1_measure_20 at h
  have hA : zag [(17, some 5), (18, none), (19, none), (20, none), (21, none), (22, none), (23, some 14), (24, some 0), (25, none), (26, none), (27, none), (28, none), (29, none), (30, none), (31, none)] σ σ := zag_r
  obtain ⟨r1, s2, es2, h⟩ := zc h
  replace hA := zag_t hA (zag_w (by decide) (fr_X1_place es2))
  obtain ⟨v3, ev3, h⟩ := zb h
  rcases (zi2 h).symm with ⟨hc32, h⟩ | ⟨hc32, h⟩
  · skip
    exact zag_t hA (fr_X1_measure_102 h)
  · skip
    obtain ⟨r4, s5, es5, h⟩ := zc h
    replace hA := zag_t hA (zag_w (by decide) (fr_X7_copy es5))
    obtain ⟨s6, es6, h⟩ := zb h
    replace hA := zag_t hA (zag_w (by decide) (zag_copy es6))
    obtain ⟨r7, s8, es8, h⟩ := zc h
    replace hA := zag_t hA (zag_w (by decide) (fr_X2_takeLeastRules es8))
    obtain ⟨r9, s10, es10, h⟩ := zc h
    replace hA := zag_t hA (zag_w (by decide) (fr_X2_settle es10))
    rcases (zi2 h).symm with ⟨hc83, h⟩ | ⟨hc83, h⟩
    · skip
      obtain ⟨r11, s12, es12, h⟩ := zc h
      replace hA := zag_t hA (zag_w (by decide) (fr_X1_weighRest es12))
      exact zag_t hA (fr_X1_measure_102 h)
    · skip
      obtain ⟨s13, es13, h⟩ := zb h
      replace hA := zag_t hA (zag_w (by decide) (zag_iast es13))
      exact zag_t hA (fr_X1_measure_102 h)
theorem fr_X1_measure {N : Nat} {σ : ZM} {res : Int32 × ZM} (h : f_X1_measure N σ = some res) : zag [(17, some 5), (18, none), (19, none), (20, none), (21, none), (22, none), (23, some 14), (24, some 0), (25, none), (26, none), (27, none), (28, none), (29, none), (30, none), (31, none)] σ res.2 := by
  unfold f_X1_measure at h
  have hA : zag [(17, some 5), (18, none), (19, none), (20, none), (21, none), (22, none), (23, some 14), (24, some 0), (25, none), (26, none), (27, none), (28, none), (29, none), (30, none), (31, none)] σ σ := zag_r
  rcases zi2 h with ⟨hc4, h⟩ | ⟨hc4, h⟩
  · skip
    exact zag_t hA (fr_X1_measure_20 h)
  · skip
    obtain ⟨r14, s15, es15, h⟩ := zc h
    replace hA := zag_t hA (zag_w (by decide) (fr_J7_fill_53178 es15))
    obtain ⟨s16, es16, h⟩ := zb h
    replace hA := zag_t hA (zag_w (by decide) (zag_putZ es16))
    exact zag_t hA (fr_X1_measure_20 h)
theorem fr_b_X1_measureAll_8 {N : Nat} {rec8 : Int32 → Int32 → ZM → Option (Unit × ZM)} {res : Unit × ZM} (hr8 : ∀ (x1 : Int32) (x2 : Int32) (σ : ZM), rec8 x1 x2 σ = some res → zag [(17, some 5), (18, none), (19, none), (20, none), (21, none), (22, none), (23, some 14), (24, some 0), (25, none), (26, none), (27, none), (28, none), (29, none), (30, none), (31, none), (32, none)] σ res.2) {x1 : Int32} {x2 : Int32} {σ : ZM} (h : b_X1_measureAll_8 N rec8 x1 x2 σ = some res) : zag [(17, some 5), (18, none), (19, none), (20, none), (21, none), (22, none), (23, some 14), (24, some 0), (25, none), (26, none), (27, none), (28, none), (29, none), (30, none), (31, none), (32, none)] σ res.2 := by
  unfold b_X1_measureAll_8 at h
  have hA : zag [(17, some 5), (18, none), (19, none), (20, none), (21, none), (22, none), (23, some 14), (24, some 0), (25, none), (26, none), (27, none), (28, none), (29, none), (30, none), (31, none), (32, none)] σ σ := zag_r
  rcases zi2 h with ⟨hc12, h⟩ | ⟨hc12, h⟩
  · skip
    cases h
    exact hA
  · skip
    rcases zi2 h with ⟨hc16, h⟩ | ⟨hc16, h⟩
    · skip
      cases h
      exact hA
    · skip
      obtain ⟨r1, s2, es2, h⟩ := zc h
      replace hA := zag_t hA (zag_w (by decide) (fr_X1_measure es2))
      obtain ⟨r3, s4, es4, h⟩ := zc h
      replace hA := zag_t hA (zag_w (by decide) (fr_X1_pickNext es4))
      obtain ⟨v5, ev5, h⟩ := zb h
      exact zag_t hA (hr8 _ _ _ h)
theorem fr_X1_measureAll_8 {N : Nat} {res : Unit × ZM} : ∀ (n : Nat) (x1 : Int32) (x2 : Int32) (σ : ZM), f_X1_measureAll_8 N n x1 x2 σ = some res → zag [(17, some 5), (18, none), (19, none), (20, none), (21, none), (22, none), (23, some 14), (24, some 0), (25, none), (26, none), (27, none), (28, none), (29, none), (30, none), (31, none), (32, none)] σ res.2 := by
  intro n
  induction n with
  | zero => intro x1 x2 σ h; exact absurd h (by simp [f_X1_measureAll_8])
  | succ n ih => intro x1 x2 σ h; rw [f_X1_measureAll_8] at h; exact fr_b_X1_measureAll_8 ih h
theorem fr_X1_measureAll {N : Nat} {σ : ZM} {res : Unit × ZM} (h : f_X1_measureAll N σ = some res) : zag [(17, some 5), (18, none), (19, none), (20, none), (21, none), (22, none), (23, some 14), (24, some 0), (25, none), (26, none), (27, none), (28, none), (29, none), (30, none), (31, none), (32, none)] σ res.2 := by
  unfold f_X1_measureAll at h
  have hA : zag [(17, some 5), (18, none), (19, none), (20, none), (21, none), (22, none), (23, some 14), (24, some 0), (25, none), (26, none), (27, none), (28, none), (29, none), (30, none), (31, none), (32, none)] σ σ := zag_r
  obtain ⟨r6, s7, es7, h⟩ := zc h
  replace hA := zag_t hA (zag_w (by decide) (fr_X1_pickFirst es7))
  exact zag_t hA (fr_X1_measureAll_8 _ _ _ _ h)
theorem fr_X1_weighPlace {N : Nat} {x1 : Int32} {σ : ZM} {res : Int32 × ZM} (h : f_X1_weighPlace N x1 σ = some res) : zag [(23, some 12), (23, some 13)] σ res.2 := by
  unfold f_X1_weighPlace at h
  have hA : zag [(23, some 12), (23, some 13)] σ σ := zag_r
  obtain ⟨v1, ev1, h⟩ := zb h
  obtain ⟨s2, es2, h⟩ := zb h
  replace hA := zag_t hA (zag_w (by decide) (zag_putI es2))
  obtain ⟨v3, ev3, h⟩ := zb h
  obtain ⟨s4, es4, h⟩ := zb h
  replace hA := zag_t hA (zag_w (by decide) (zag_putI es4))
  obtain ⟨v5, ev5, h⟩ := zb h
  rcases zi2 h with ⟨hc42, h⟩ | ⟨hc42, h⟩
  · skip
    cases h
    exact hA
  · skip
    cases h
    exact hA
theorem fr_X1_weighPick_78 {N : Nat} {res : Int32 × ZM} {x2 : Int32} {σ : ZM} (h : f_X1_weighPick_78 N x2 σ = some res) : zag [(23, some 12), (23, some 13), (32, none)] σ res.2 := by
  unfold f_X1_weighPick_78 at h
  have hA : zag [(23, some 12), (23, some 13), (32, none)] σ σ := zag_r
  obtain ⟨hz, rfl⟩ := zrz_ok h
  exact hA
theorem fr_b_X1_weighPick_21 {N : Nat} {rec21 : Int32 → Int32 → Int32 → ZM → Option (Int32 × ZM)} {res : Int32 × ZM} (hr21 : ∀ (x1 : Int32) (x2 : Int32) (x3 : Int32) (σ : ZM), rec21 x1 x2 x3 σ = some res → zag [(23, some 12), (23, some 13), (32, none)] σ res.2) {x1 : Int32} {x2 : Int32} {x3 : Int32} {σ : ZM} (h : b_X1_weighPick_21 N rec21 x1 x2 x3 σ = some res) : zag [(23, some 12), (23, some 13), (32, none)] σ res.2 := by
  unfold b_X1_weighPick_21 at h
  have hA : zag [(23, some 12), (23, some 13), (32, none)] σ σ := zag_r
  rcases zi2 h with ⟨hc29, h⟩ | ⟨hc29, h⟩
  · skip
    exact zag_t hA (fr_X1_weighPick_78 h)
  · skip
    rcases zi2 h with ⟨hc33, h⟩ | ⟨hc33, h⟩
    · skip
      exact zag_t hA (fr_X1_weighPick_78 h)
    · skip
      rcases zi2 h with ⟨hc37, h⟩ | ⟨hc37, h⟩
      · skip
        exact zag_t hA (fr_X1_weighPick_78 h)
      · skip
        obtain ⟨v1, ev1, h⟩ := zb h
        obtain ⟨s2, es2, h⟩ := zb h
        replace hA := zag_t hA (zag_w (by decide) (zag_iast es2))
        obtain ⟨r3, s4, es4, h⟩ := zc h
        replace hA := zag_t hA (zag_w (by decide) (fr_X1_place es4))
        obtain ⟨r5, s6, es6, h⟩ := zc h
        replace hA := zag_t hA (zag_w (by decide) (fr_X1_weighPlace es6))
        obtain ⟨s7, es7, h⟩ := zb h
        replace hA := zag_t hA (zag_w (by decide) (zag_iast es7))
        obtain ⟨v8, ev8, h⟩ := zb h
        exact zag_t hA (hr21 _ _ _ _ h)
theorem fr_X1_weighPick_21 {N : Nat} {res : Int32 × ZM} : ∀ (n : Nat) (x1 : Int32) (x2 : Int32) (x3 : Int32) (σ : ZM), f_X1_weighPick_21 N n x1 x2 x3 σ = some res → zag [(23, some 12), (23, some 13), (32, none)] σ res.2 := by
  intro n
  induction n with
  | zero => intro x1 x2 x3 σ h; exact absurd h (by simp [f_X1_weighPick_21])
  | succ n ih => intro x1 x2 x3 σ h; rw [f_X1_weighPick_21] at h; exact fr_b_X1_weighPick_21 ih h
theorem fr_X1_weighPick {N : Nat} {x1 : Int32} {σ : ZM} {res : Int32 × ZM} (h : f_X1_weighPick N x1 σ = some res) : zag [(23, some 12), (23, some 13), (32, none)] σ res.2 := by
  unfold f_X1_weighPick at h
  have hA : zag [(23, some 12), (23, some 13), (32, none)] σ σ := zag_r
  obtain ⟨s9, es9, h⟩ := zb h
  replace hA := zag_t hA (zag_w (by decide) (zag_putI es9))
  obtain ⟨s10, es10, h⟩ := zb h
  replace hA := zag_t hA (zag_w (by decide) (zag_putI es10))
  obtain ⟨r11, s12, es12, h⟩ := zc h
  replace hA := zag_t hA (zag_w (by decide) (fr_X1_place es12))
  obtain ⟨r13, s14, es14, h⟩ := zc h
  replace hA := zag_t hA (zag_w (by decide) (fr_X1_weighPlace es14))
  exact zag_t hA (fr_X1_weighPick_21 _ _ _ _ _ h)
theorem fr_X1_isBetter_33 {N : Nat} {res : Int32 × ZM} {σ : ZM} (h : f_X1_isBetter_33 N σ = some res) : zag [] σ res.2 := by
  unfold f_X1_isBetter_33 at h
  have hA : zag [] σ σ := zag_r
  cases h
  exact hA
theorem fr_X1_isBetter {N : Nat} {σ : ZM} {res : Int32 × ZM} (h : f_X1_isBetter N σ = some res) : zag [] σ res.2 := by
  unfold f_X1_isBetter at h
  have hA : zag [] σ σ := zag_r
  rcases zi2 h with ⟨hc8, h⟩ | ⟨hc8, h⟩
  · skip
    exact zag_t hA (fr_X1_isBetter_33 h)
  · skip
    rcases (zi2 h).symm with ⟨hc19, h⟩ | ⟨hc19, h⟩
    · skip
      cases h
      exact hA
    · skip
      rcases zi2 h with ⟨hc30, h⟩ | ⟨hc30, h⟩
      · skip
        cases h
        exact hA
      · skip
        exact zag_t hA (fr_X1_isBetter_33 h)
theorem fr_X1_seek_89 {N : Nat} {rec20 : Int32 → Int32 → Int32 → ZM → Option (Unit × ZM)} {res : Unit × ZM} (hr20 : ∀ (x1 : Int32) (x2 : Int32) (x3 : Int32) (σ : ZM), rec20 x1 x2 x3 σ = some res → zag [(23, some 10), (23, some 11), (23, some 12), (23, some 13), (32, none), (33, none)] σ res.2) {x1 : Int32} {x3 : Int32} {σ : ZM} (h : f_X1_seek_89 N rec20 x1 x3 σ = some res) : zag [(23, some 10), (23, some 11), (23, some 12), (23, some 13), (32, none), (33, none)] σ res.2 := by
  unfold f_X1_seek_89 at h
  have hA : zag [(23, some 10), (23, some 11), (23, some 12), (23, some 13), (32, none), (33, none)] σ σ := zag_r
  obtain ⟨r1, s2, es2, h⟩ := zc h
  replace hA := zag_t hA (zag_w (by decide) (fr_X1_pickNext es2))
  obtain ⟨v3, ev3, h⟩ := zb h
  exact zag_t hA (hr20 _ _ _ _ h)
theorem fr_X1_seek_59 {N : Nat} {rec20 : Int32 → Int32 → Int32 → ZM → Option (Unit × ZM)} {res : Unit × ZM} (hr20 : ∀ (x1 : Int32) (x2 : Int32) (x3 : Int32) (σ : ZM), rec20 x1 x2 x3 σ = some res → zag [(23, some 10), (23, some 11), (23, some 12), (23, some 13), (32, none), (33, none)] σ res.2) {x1 : Int32} {x3 : Int32} {σ : ZM} (h : f_X1_seek_59 N rec20 x1 x3 σ = some res) : zag [(23, some 10), (23, some 11), (23, some 12), (23, some 13), (32, none), (33, none)] σ res.2 := by
  unfold f_X1_seek_59 at h
  have hA : zag [(23, some 10), (23, some 11), (23, some 12), (23, some 13), (32, none), (33, none)] σ σ := zag_r
  obtain ⟨s4, es4, h⟩ := zb h
  replace hA := zag_t hA (zag_w (by decide) (zag_putI es4))
  obtain ⟨s5, es5, h⟩ := zb h
  replace hA := zag_t hA (zag_w (by decide) (zag_putI es5))
  obtain ⟨s6, es6, h⟩ := zb h
  replace hA := zag_t hA (zag_w (by decide) (zag_copy es6))
  exact zag_t hA (fr_X1_seek_89 hr20 h)
theorem fr_b_X1_seek_20 {N : Nat} {rec20 : Int32 → Int32 → Int32 → ZM → Option (Unit × ZM)} {res : Unit × ZM} (hr20 : ∀ (x1 : Int32) (x2 : Int32) (x3 : Int32) (σ : ZM), rec20 x1 x2 x3 σ = some res → zag [(23, some 10), (23, some 11), (23, some 12), (23, some 13), (32, none), (33, none)] σ res.2) {x1 : Int32} {x2 : Int32} {x3 : Int32} {σ : ZM} (h : b_X1_seek_20 N rec20 x1 x2 x3 σ = some res) : zag [(23, some 10), (23, some 11), (23, some 12), (23, some 13), (32, none), (33, none)] σ res.2 := by
  unfold b_X1_seek_20 at h
  have hA : zag [(23, some 10), (23, some 11), (23, some 12), (23, some 13), (32, none), (33, none)] σ σ := zag_r
  rcases zi2 h with ⟨hc24, h⟩ | ⟨hc24, h⟩
  · skip
    cases h
    exact hA
  · skip
    rcases zi2 h with ⟨hc28, h⟩ | ⟨hc28, h⟩
    · skip
      cases h
      exact hA
    · skip
      obtain ⟨r7, s8, es8, h⟩ := zc h
      replace hA := zag_t hA (zag_w (by decide) (fr_X1_weighPick es8))
      rcases zi2 h with ⟨hc40, h⟩ | ⟨hc40, h⟩
      · skip
        exact zag_t hA (fr_X1_seek_89 hr20 h)
      · skip
        rcases zi2 h with ⟨hc49, h⟩ | ⟨hc49, h⟩
        · skip
          exact zag_t hA (fr_X1_seek_59 hr20 h)
        · skip
          obtain ⟨r9, s10, es10, h⟩ := zc h
          replace hA := zag_t hA (zag_w (by decide) (fr_X1_isBetter es10))
          rcases zi2 h with ⟨hc56, h⟩ | ⟨hc56, h⟩
          · skip
            exact zag_t hA (fr_X1_seek_89 hr20 h)
          · skip
            exact zag_t hA (fr_X1_seek_59 hr20 h)
theorem fr_X1_seek_20 {N : Nat} {res : Unit × ZM} : ∀ (n : Nat) (x1 : Int32) (x2 : Int32) (x3 : Int32) (σ : ZM), f_X1_seek_20 N n x1 x2 x3 σ = some res → zag [(23, some 10), (23, some 11), (23, some 12), (23, some 13), (32, none), (33, none)] σ res.2 := by
  intro n
  induction n with
  | zero => intro x1 x2 x3 σ h; exact absurd h (by simp [f_X1_seek_20])
  | succ n ih => intro x1 x2 x3 σ h; rw [f_X1_seek_20] at h; exact fr_b_X1_seek_20 ih h
theorem fr_X1_seek {N : Nat} {x1 : Int32} {σ : ZM} {res : Unit × ZM} (h : f_X1_seek N x1 σ = some res) : zag [(23, some 10), (23, some 11), (23, some 12), (23, some 13), (32, none), (33, none)] σ res.2 := by
  unfold f_X1_seek at h
  have hA : zag [(23, some 10), (23, some 11), (23, some 12), (23, some 13), (32, none), (33, none)] σ σ := zag_r
  obtain ⟨s11, es11, h⟩ := zb h
  replace hA := zag_t hA (zag_w (by decide) (zag_putI es11))
  obtain ⟨s12, es12, h⟩ := zb h
  replace hA := zag_t hA (zag_w (by decide) (zag_putI es12))
  obtain ⟨r13, s14, es14, h⟩ := zc h
  replace hA := zag_t hA (zag_w (by decide) (fr_X1_pickFirst es14))
  exact zag_t hA (fr_X1_seek_20 _ _ _ _ _ h)
theorem fr_X2_alike_32 {N : Nat} {rec5 : Int32 → Int32 → Int32 → Int32 → ZM → Option (Int32 × ZM)} {res : Int32 × ZM} (hr5 : ∀ (x1 : Int32) (x2 : Int32) (x3 : Int32) (x4 : Int32) (σ : ZM), rec5 x1 x2 x3 x4 σ = some res → zag [] σ res.2) {x1 : Int32} {x2 : Int32} {x3 : Int32} {x4 : Int32} {σ : ZM} (h : f_X2_alike_32 N rec5 x1 x2 x3 x4 σ = some res) : zag [] σ res.2 := by
  unfold f_X2_alike_32 at h
  have hA : zag [] σ σ := zag_r
  obtain ⟨v1, ev1, h⟩ := zb h
  exact zag_t hA (hr5 _ _ _ _ _ h)
theorem fr_b_X2_alike_5 {N : Nat} {rec5 : Int32 → Int32 → Int32 → Int32 → ZM → Option (Int32 × ZM)} {res : Int32 × ZM} (hr5 : ∀ (x1 : Int32) (x2 : Int32) (x3 : Int32) (x4 : Int32) (σ : ZM), rec5 x1 x2 x3 x4 σ = some res → zag [] σ res.2) {x1 : Int32} {x2 : Int32} {x3 : Int32} {x4 : Int32} {σ : ZM} (h : b_X2_alike_5 N rec5 x1 x2 x3 x4 σ = some res) : zag [] σ res.2 := by
  unfold b_X2_alike_5 at h
  have hA : zag [] σ σ := zag_r
  rcases zi2 h with ⟨hc11, h⟩ | ⟨hc11, h⟩
  · skip
    cases h
    exact hA
  · skip
    obtain ⟨v2, ev2, h⟩ := zb h
    rcases (zi2 h).symm with ⟨hc26, h⟩ | ⟨hc26, h⟩
    · skip
      exact zag_t hA (fr_X2_alike_32 hr5 h)
    · skip
      obtain ⟨v3, ev3, h⟩ := zb h
      exact zag_t hA (fr_X2_alike_32 hr5 h)
theorem fr_X2_alike_5 {N : Nat} {res : Int32 × ZM} : ∀ (n : Nat) (x1 : Int32) (x2 : Int32) (x3 : Int32) (x4 : Int32) (σ : ZM), f_X2_alike_5 N n x1 x2 x3 x4 σ = some res → zag [] σ res.2 := by
  intro n
  induction n with
  | zero => intro x1 x2 x3 x4 σ h; exact absurd h (by simp [f_X2_alike_5])
  | succ n ih => intro x1 x2 x3 x4 σ h; rw [f_X2_alike_5] at h; exact fr_b_X2_alike_5 ih h
theorem fr_X2_alike {N : Nat} {x1 : Int32} {x2 : Int32} {σ : ZM} {res : Int32 × ZM} (h : f_X2_alike N x1 x2 σ = some res) : zag [] σ res.2 := by
  unfold f_X2_alike at h
  have hA : zag [] σ σ := zag_r
  exact zag_t hA (fr_X2_alike_5 _ _ _ _ _ _ h)
theorem fr_b_X2_needed_35 {N : Nat} {rec35 : Int32 → Int32 → Int32 → ZM → Option (Int32 × ZM)} {res : Int32 × ZM} (hr35 : ∀ (x1 : Int32) (x2 : Int32) (x3 : Int32) (σ : ZM), rec35 x1 x2 x3 σ = some res → zag [(22, none)] σ res.2) {x1 : Int32} {x2 : Int32} {x3 : Int32} {σ : ZM} (h : b_X2_needed_35 N rec35 x1 x2 x3 σ = some res) : zag [(22, none)] σ res.2 := by
  unfold b_X2_needed_35 at h
  have hA : zag [(22, none)] σ σ := zag_r
  rcases zi2 h with ⟨hc37, h⟩ | ⟨hc37, h⟩
  · skip
    obtain ⟨v1, ev1, h⟩ := zb h
    obtain ⟨v2, ev2, h⟩ := zb h
    cases h
    exact hA
  · skip
    obtain ⟨r3, s4, es4, h⟩ := zc h
    replace hA := zag_t hA (zag_w (by decide) (fr_X2_alike es4))
    rcases (zi2 h).symm with ⟨hc52, h⟩ | ⟨hc52, h⟩
    · skip
      obtain ⟨v5, ev5, h⟩ := zb h
      exact zag_t hA (hr35 _ _ _ _ h)
    · skip
      obtain ⟨v6, ev6, h⟩ := zb h
      obtain ⟨v7, ev7, h⟩ := zb h
      cases h
      exact hA
theorem fr_X2_needed_35 {N : Nat} {res : Int32 × ZM} : ∀ (n : Nat) (x1 : Int32) (x2 : Int32) (x3 : Int32) (σ : ZM), f_X2_needed_35 N n x1 x2 x3 σ = some res → zag [(22, none)] σ res.2 := by
  intro n
  induction n with
  | zero => intro x1 x2 x3 σ h; exact absurd h (by simp [f_X2_needed_35])
  | succ n ih => intro x1 x2 x3 σ h; rw [f_X2_needed_35] at h; exact fr_b_X2_needed_35 ih h
theorem fr_X2_needed {N : Nat} {x1 : Int32} {σ : ZM} {res : Int32 × ZM} (h : f_X2_needed N x1 σ = some res) : zag [(22, none)] σ res.2 := by
  unfold f_X2_needed at h
  have hA : zag [(22, none)] σ σ := zag_r
  rcases zi2 h with ⟨hc5, h⟩ | ⟨hc5, h⟩
  · skip
    obtain ⟨r8, s9, es9, h⟩ := zc h
    replace hA := zag_t hA (zag_w (by decide) (fr_X2_pick es9))
    obtain ⟨r10, s11, es11, h⟩ := zc h
    replace hA := zag_t hA (zag_w (by decide) (fr_X2_rank es11))
    exact zag_t hA (fr_X2_needed_35 _ _ _ _ _ h)
  · skip
    rcases (zi2 h).symm with ⟨hc12, h⟩ | ⟨hc12, h⟩
    · skip
      cases h
      exact hA
    · skip
      cases h
      exact hA
theorem fr_X3_has {N : Nat} {x1 : Int32} {σ : ZM} {res : Int32 × ZM} (h : f_X3_has N x1 σ = some res) : zag [] σ res.2 := by
  unfold f_X3_has at h
  have hA : zag [] σ σ := zag_r
  rcases zi2 h with ⟨hc1, h⟩ | ⟨hc1, h⟩
  · skip
    cases h
    exact hA
  · skip
    rcases zi2 h with ⟨hc9, h⟩ | ⟨hc9, h⟩
    · skip
      cases h
      exact hA
    · skip
      cases h
      exact hA
theorem fr_X3_add {N : Nat} {x1 : Int32} {σ : ZM} {res : Int32 × ZM} (h : f_X3_add N x1 σ = some res) : zag [(1, some 0), (2, none), (3, none)] σ res.2 := by
  unfold f_X3_add at h
  have hA : zag [(1, some 0), (2, none), (3, none)] σ σ := zag_r
  obtain ⟨s1, es1, h⟩ := zb h
  replace hA := zag_t hA (zag_w (by decide) (zag_iast es1))
  obtain ⟨s2, es2, h⟩ := zb h
  replace hA := zag_t hA (zag_w (by decide) (zag_iast es2))
  obtain ⟨s3, es3, h⟩ := zb h
  replace hA := zag_t hA (zag_w (by decide) (zag_putI es3))
  cases h
  exact hA
theorem fr_X3_join_80 {N : Nat} {res : Int32 × ZM} {σ : ZM} (h : f_X3_join_80 N σ = some res) : zag [(1, some 1), (4, none), (5, none), (6, none)] σ res.2 := by
  unfold f_X3_join_80 at h
  have hA : zag [(1, some 1), (4, none), (5, none), (6, none)] σ σ := zag_r
  obtain ⟨s1, es1, h⟩ := zb h
  replace hA := zag_t hA (zag_w (by decide) (zag_putI es1))
  cases h
  exact hA
theorem fr_X3_join_39 {N : Nat} {res : Int32 × ZM} {x1 : Int32} {x2 : Int32} {x3 : Int32} {y0 : Int32} {y1 : Int32} {σ : ZM} (h : f_X3_join_39 N x1 x2 x3 y0 y1 σ = some res) : zag [(1, some 1), (4, none), (5, none), (6, none)] σ res.2 := by
  unfold f_X3_join_39 at h
  have hA : zag [(1, some 1), (4, none), (5, none), (6, none)] σ σ := zag_r
  obtain ⟨s2, es2, h⟩ := zb h
  replace hA := zag_t hA (zag_w (by decide) (zag_iast es2))
  obtain ⟨v3, ev3, h⟩ := zb h
  obtain ⟨s4, es4, h⟩ := zb h
  replace hA := zag_t hA (zag_w (by decide) (zag_iast es4))
  obtain ⟨v5, ev5, h⟩ := zb h
  obtain ⟨s6, es6, h⟩ := zb h
  replace hA := zag_t hA (zag_w (by decide) (zag_iast es6))
  rcases zi2 h with ⟨hc65, h⟩ | ⟨hc65, h⟩
  · skip
    exact zag_t hA (fr_X3_join_80 h)
  · skip
    obtain ⟨v7, ev7, h⟩ := zb h
    obtain ⟨s8, es8, h⟩ := zb h
    replace hA := zag_t hA (zag_w (by decide) (zag_iast es8))
    exact zag_t hA (fr_X3_join_80 h)
theorem fr_X3_join_19 {N : Nat} {res : Int32 × ZM} {x1 : Int32} {x2 : Int32} {x3 : Int32} {y0 : Int32} {y1 : Int32} {σ : ZM} (h : f_X3_join_19 N x1 x2 x3 y0 y1 σ = some res) : zag [(1, some 1), (4, none), (5, none), (6, none)] σ res.2 := by
  unfold f_X3_join_19 at h
  have hA : zag [(1, some 1), (4, none), (5, none), (6, none)] σ σ := zag_r
  obtain ⟨s9, es9, h⟩ := zb h
  replace hA := zag_t hA (zag_w (by decide) (zag_iast es9))
  rcases zi2 h with ⟨hc31, h⟩ | ⟨hc31, h⟩
  · skip
    exact zag_t hA (fr_X3_join_39 h)
  · skip
    exact zag_t hA (fr_X3_join_39 h)
theorem fr_X3_join {N : Nat} {x1 : Int32} {x2 : Int32} {x3 : Int32} {σ : ZM} {res : Int32 × ZM} (h : f_X3_join N x1 x2 x3 σ = some res) : zag [(1, some 1), (4, none), (5, none), (6, none)] σ res.2 := by
  unfold f_X3_join at h
  have hA : zag [(1, some 1), (4, none), (5, none), (6, none)] σ σ := zag_r
  rcases zi2 h with ⟨hc11, h⟩ | ⟨hc11, h⟩
  · skip
    exact zag_t hA (fr_X3_join_19 h)
  · skip
    exact zag_t hA (fr_X3_join_19 h)
theorem fr_b_X3_buysFrom_10 {N : Nat} {rec10 : Int32 → Int32 → Int32 → ZM → Option (Int32 × ZM)} {res : Int32 × ZM} (hr10 : ∀ (x2 : Int32) (x3 : Int32) (x4 : Int32) (σ : ZM), rec10 x2 x3 x4 σ = some res → zag [] σ res.2) {x2 : Int32} {x3 : Int32} {x4 : Int32} {σ : ZM} (h : b_X3_buysFrom_10 N rec10 x2 x3 x4 σ = some res) : zag [] σ res.2 := by
  unfold b_X3_buysFrom_10 at h
  have hA : zag [] σ σ := zag_r
  rcases zi2 h with ⟨hc16, h⟩ | ⟨hc16, h⟩
  · skip
    rcases zi2 h with ⟨hc42, h⟩ | ⟨hc42, h⟩
    · skip
      cases h
      exact hA
    · skip
      cases h
      exact hA
  · skip
    obtain ⟨r1, s2, es2, h⟩ := zc h
    replace hA := zag_t hA (zag_w (by decide) (fr_X3_union es2))
    obtain ⟨v3, ev3, h⟩ := zb h
    obtain ⟨v4, ev4, h⟩ := zb h
    exact zag_t hA (hr10 _ _ _ _ h)
theorem fr_X3_buysFrom_10 {N : Nat} {res : Int32 × ZM} : ∀ (n : Nat) (x2 : Int32) (x3 : Int32) (x4 : Int32) (σ : ZM), f_X3_buysFrom_10 N n x2 x3 x4 σ = some res → zag [] σ res.2 := by
  intro n
  induction n with
  | zero => intro x2 x3 x4 σ h; exact absurd h (by simp [f_X3_buysFrom_10])
  | succ n ih => intro x2 x3 x4 σ h; rw [f_X3_buysFrom_10] at h; exact fr_b_X3_buysFrom_10 ih h
theorem fr_X3_buysFrom {N : Nat} {x1 : Int32} {x2 : Int32} {σ : ZM} {res : Int32 × ZM} (h : f_X3_buysFrom N x1 x2 σ = some res) : zag [] σ res.2 := by
  unfold f_X3_buysFrom at h
  have hA : zag [] σ σ := zag_r
  obtain ⟨v5, ev5, h⟩ := zb h
  exact zag_t hA (fr_X3_buysFrom_10 _ _ _ _ _ h)
theorem fr_X3_surelyGuessed_28 {N : Nat} {rec4 : Int32 → Int32 → ZM → Option (Int32 × ZM)} {res : Int32 × ZM} (hr4 : ∀ (x1 : Int32) (x2 : Int32) (σ : ZM), rec4 x1 x2 σ = some res → zag [] σ res.2) {x1 : Int32} {x2 : Int32} {σ : ZM} (h : f_X3_surelyGuessed_28 N rec4 x1 x2 σ = some res) : zag [] σ res.2 := by
  unfold f_X3_surelyGuessed_28 at h
  have hA : zag [] σ σ := zag_r
  obtain ⟨v1, ev1, h⟩ := zb h
  exact zag_t hA (hr4 _ _ _ h)
theorem fr_b_X3_surelyGuessed_4 {N : Nat} {rec4 : Int32 → Int32 → ZM → Option (Int32 × ZM)} {res : Int32 × ZM} (hr4 : ∀ (x1 : Int32) (x2 : Int32) (σ : ZM), rec4 x1 x2 σ = some res → zag [] σ res.2) {x1 : Int32} {x2 : Int32} {σ : ZM} (h : b_X3_surelyGuessed_4 N rec4 x1 x2 σ = some res) : zag [] σ res.2 := by
  unfold b_X3_surelyGuessed_4 at h
  have hA : zag [] σ σ := zag_r
  rcases zi2 h with ⟨hc9, h⟩ | ⟨hc9, h⟩
  · skip
    cases h
    exact hA
  · skip
    obtain ⟨v2, ev2, h⟩ := zb h
    obtain ⟨r3, s4, es4, h⟩ := zc h
    replace hA := zag_t hA (zag_w (by decide) (fr_J6_bitCount_0f7a4 es4))
    rcases (zi2 h).symm with ⟨hc22, h⟩ | ⟨hc22, h⟩
    · skip
      exact zag_t hA (fr_X3_surelyGuessed_28 hr4 h)
    · skip
      obtain ⟨v5, ev5, h⟩ := zb h
      exact zag_t hA (fr_X3_surelyGuessed_28 hr4 h)
theorem fr_X3_surelyGuessed_4 {N : Nat} {res : Int32 × ZM} : ∀ (n : Nat) (x1 : Int32) (x2 : Int32) (σ : ZM), f_X3_surelyGuessed_4 N n x1 x2 σ = some res → zag [] σ res.2 := by
  intro n
  induction n with
  | zero => intro x1 x2 σ h; exact absurd h (by simp [f_X3_surelyGuessed_4])
  | succ n ih => intro x1 x2 σ h; rw [f_X3_surelyGuessed_4] at h; exact fr_b_X3_surelyGuessed_4 ih h
theorem fr_X3_surelyGuessed {N : Nat} {σ : ZM} {res : Int32 × ZM} (h : f_X3_surelyGuessed N σ = some res) : zag [] σ res.2 := by
  unfold f_X3_surelyGuessed at h
  have hA : zag [] σ σ := zag_r
  exact zag_t hA (fr_X3_surelyGuessed_4 _ _ _ _ h)
theorem fr_b_X3_allAskers_4 {N : Nat} {rec4 : Int32 → Int32 → ZM → Option (Int32 × ZM)} {res : Int32 × ZM} (hr4 : ∀ (x1 : Int32) (x2 : Int32) (σ : ZM), rec4 x1 x2 σ = some res → zag [] σ res.2) {x1 : Int32} {x2 : Int32} {σ : ZM} (h : b_X3_allAskers_4 N rec4 x1 x2 σ = some res) : zag [] σ res.2 := by
  unfold b_X3_allAskers_4 at h
  have hA : zag [] σ σ := zag_r
  rcases zi2 h with ⟨hc9, h⟩ | ⟨hc9, h⟩
  · skip
    cases h
    exact hA
  · skip
    obtain ⟨v1, ev1, h⟩ := zb h
    obtain ⟨v2, ev2, h⟩ := zb h
    obtain ⟨v3, ev3, h⟩ := zb h
    exact zag_t hA (hr4 _ _ _ h)
theorem fr_X3_allAskers_4 {N : Nat} {res : Int32 × ZM} : ∀ (n : Nat) (x1 : Int32) (x2 : Int32) (σ : ZM), f_X3_allAskers_4 N n x1 x2 σ = some res → zag [] σ res.2 := by
  intro n
  induction n with
  | zero => intro x1 x2 σ h; exact absurd h (by simp [f_X3_allAskers_4])
  | succ n ih => intro x1 x2 σ h; rw [f_X3_allAskers_4] at h; exact fr_b_X3_allAskers_4 ih h
theorem fr_X3_allAskers {N : Nat} {σ : ZM} {res : Int32 × ZM} (h : f_X3_allAskers N σ = some res) : zag [] σ res.2 := by
  unfold f_X3_allAskers at h
  have hA : zag [] σ σ := zag_r
  exact zag_t hA (fr_X3_allAskers_4 _ _ _ _ h)
theorem fr_X3_askersUnlike_38 {N : Nat} {rec5 : Int32 → Int32 → Int32 → Int32 → ZM → Option (Int32 × ZM)} {res : Int32 × ZM} (hr5 : ∀ (x1 : Int32) (x2 : Int32) (x3 : Int32) (x4 : Int32) (σ : ZM), rec5 x1 x2 x3 x4 σ = some res → zag [] σ res.2) {x1 : Int32} {x2 : Int32} {x3 : Int32} {x4 : Int32} {σ : ZM} (h : f_X3_askersUnlike_38 N rec5 x1 x2 x3 x4 σ = some res) : zag [] σ res.2 := by
  unfold f_X3_askersUnlike_38 at h
  have hA : zag [] σ σ := zag_r
  obtain ⟨v1, ev1, h⟩ := zb h
  exact zag_t hA (hr5 _ _ _ _ _ h)
theorem fr_b_X3_askersUnlike_5 {N : Nat} {rec5 : Int32 → Int32 → Int32 → Int32 → ZM → Option (Int32 × ZM)} {res : Int32 × ZM} (hr5 : ∀ (x1 : Int32) (x2 : Int32) (x3 : Int32) (x4 : Int32) (σ : ZM), rec5 x1 x2 x3 x4 σ = some res → zag [] σ res.2) {x1 : Int32} {x2 : Int32} {x3 : Int32} {x4 : Int32} {σ : ZM} (h : b_X3_askersUnlike_5 N rec5 x1 x2 x3 x4 σ = some res) : zag [] σ res.2 := by
  unfold b_X3_askersUnlike_5 at h
  have hA : zag [] σ σ := zag_r
  rcases zi2 h with ⟨hc11, h⟩ | ⟨hc11, h⟩
  · skip
    cases h
    exact hA
  · skip
    rcases zi2 h with ⟨hc25, h⟩ | ⟨hc25, h⟩
    · skip
      exact zag_t hA (fr_X3_askersUnlike_38 hr5 h)
    · skip
      obtain ⟨v2, ev2, h⟩ := zb h
      obtain ⟨v3, ev3, h⟩ := zb h
      exact zag_t hA (fr_X3_askersUnlike_38 hr5 h)
theorem fr_X3_askersUnlike_5 {N : Nat} {res : Int32 × ZM} : ∀ (n : Nat) (x1 : Int32) (x2 : Int32) (x3 : Int32) (x4 : Int32) (σ : ZM), f_X3_askersUnlike_5 N n x1 x2 x3 x4 σ = some res → zag [] σ res.2 := by
  intro n
  induction n with
  | zero => intro x1 x2 x3 x4 σ h; exact absurd h (by simp [f_X3_askersUnlike_5])
  | succ n ih => intro x1 x2 x3 x4 σ h; rw [f_X3_askersUnlike_5] at h; exact fr_b_X3_askersUnlike_5 ih h
theorem fr_X3_askersUnlike {N : Nat} {x1 : Int32} {x2 : Int32} {σ : ZM} {res : Int32 × ZM} (h : f_X3_askersUnlike N x1 x2 σ = some res) : zag [] σ res.2 := by
  unfold f_X3_askersUnlike at h
  have hA : zag [] σ σ := zag_r
  exact zag_t hA (fr_X3_askersUnlike_5 _ _ _ _ _ _ h)
theorem fr_X4_aimOf {N : Nat} {x1 : Int32} {σ : ZM} {res : Int32 × ZM} (h : f_X4_aimOf N x1 σ = some res) : zag [] σ res.2 := by
  unfold f_X4_aimOf at h
  have hA : zag [] σ σ := zag_r
  obtain ⟨v1, ev1, h⟩ := zb h
  rcases (zi2 h).symm with ⟨hc10, h⟩ | ⟨hc10, h⟩
  · skip
    obtain ⟨v2, ev2, h⟩ := zb h
    cases h
    exact hA
  · skip
    obtain ⟨v3, ev3, h⟩ := zb h
    cases h
    exact hA
theorem fr_X4_toChange_38 {N : Nat} {rec4 : Int32 → Int32 → ZM → Option (Int32 × ZM)} {res : Int32 × ZM} (hr4 : ∀ (x1 : Int32) (x2 : Int32) (σ : ZM), rec4 x1 x2 σ = some res → zag [] σ res.2) {x1 : Int32} {x2 : Int32} {σ : ZM} (h : f_X4_toChange_38 N rec4 x1 x2 σ = some res) : zag [] σ res.2 := by
  unfold f_X4_toChange_38 at h
  have hA : zag [] σ σ := zag_r
  obtain ⟨v1, ev1, h⟩ := zb h
  exact zag_t hA (hr4 _ _ _ h)
theorem fr_b_X4_toChange_4 {N : Nat} {rec4 : Int32 → Int32 → ZM → Option (Int32 × ZM)} {res : Int32 × ZM} (hr4 : ∀ (x1 : Int32) (x2 : Int32) (σ : ZM), rec4 x1 x2 σ = some res → zag [] σ res.2) {x1 : Int32} {x2 : Int32} {σ : ZM} (h : b_X4_toChange_4 N rec4 x1 x2 σ = some res) : zag [] σ res.2 := by
  unfold b_X4_toChange_4 at h
  have hA : zag [] σ σ := zag_r
  rcases zi2 h with ⟨hc12, h⟩ | ⟨hc12, h⟩
  · skip
    cases h
    exact hA
  · skip
    obtain ⟨r2, s3, es3, h⟩ := zc h
    replace hA := zag_t hA (zag_w (by decide) (fr_X4_aimOf es3))
    obtain ⟨v4, ev4, h⟩ := zb h
    rcases zi2 h with ⟨hc29, h⟩ | ⟨hc29, h⟩
    · skip
      exact zag_t hA (fr_X4_toChange_38 hr4 h)
    · skip
      obtain ⟨v5, ev5, h⟩ := zb h
      exact zag_t hA (fr_X4_toChange_38 hr4 h)
theorem fr_X4_toChange_4 {N : Nat} {res : Int32 × ZM} : ∀ (n : Nat) (x1 : Int32) (x2 : Int32) (σ : ZM), f_X4_toChange_4 N n x1 x2 σ = some res → zag [] σ res.2 := by
  intro n
  induction n with
  | zero => intro x1 x2 σ h; exact absurd h (by simp [f_X4_toChange_4])
  | succ n ih => intro x1 x2 σ h; rw [f_X4_toChange_4] at h; exact fr_b_X4_toChange_4 ih h
theorem fr_X4_toChange {N : Nat} {σ : ZM} {res : Int32 × ZM} (h : f_X4_toChange N σ = some res) : zag [] σ res.2 := by
  unfold f_X4_toChange at h
  have hA : zag [] σ σ := zag_r
  exact zag_t hA (fr_X4_toChange_4 _ _ _ _ h)
theorem fr_X4_pickBehind_54 {N : Nat} {rec9 : Int32 → Int32 → ZM → Option (Unit × ZM)} {res : Unit × ZM} (hr9 : ∀ (x1 : Int32) (x2 : Int32) (σ : ZM), rec9 x1 x2 σ = some res → zag [(32, none)] σ res.2) {x1 : Int32} {x2 : Int32} {σ : ZM} (h : f_X4_pickBehind_54 N rec9 x1 x2 σ = some res) : zag [(32, none)] σ res.2 := by
  unfold f_X4_pickBehind_54 at h
  have hA : zag [(32, none)] σ σ := zag_r
  obtain ⟨v1, ev1, h⟩ := zb h
  exact zag_t hA (hr9 _ _ _ h)
theorem fr_b_X4_pickBehind_9 {N : Nat} {rec9 : Int32 → Int32 → ZM → Option (Unit × ZM)} {res : Unit × ZM} (hr9 : ∀ (x1 : Int32) (x2 : Int32) (σ : ZM), rec9 x1 x2 σ = some res → zag [(32, none)] σ res.2) {x1 : Int32} {x2 : Int32} {σ : ZM} (h : b_X4_pickBehind_9 N rec9 x1 x2 σ = some res) : zag [(32, none)] σ res.2 := by
  unfold b_X4_pickBehind_9 at h
  have hA : zag [(32, none)] σ σ := zag_r
  rcases zi2 h with ⟨hc17, h⟩ | ⟨hc17, h⟩
  · skip
    cases h
    exact hA
  · skip
    rcases zi2 h with ⟨hc25, h⟩ | ⟨hc25, h⟩
    · skip
      exact zag_t hA (fr_X4_pickBehind_54 hr9 h)
    · skip
      obtain ⟨v2, ev2, h⟩ := zb h
      rcases zi2 h with ⟨hc37, h⟩ | ⟨hc37, h⟩
      · skip
        exact zag_t hA (fr_X4_pickBehind_54 hr9 h)
      · skip
        obtain ⟨r3, s4, es4, h⟩ := zc h
        replace hA := zag_t hA (zag_w (by decide) (fr_X4_aimOf es4))
        obtain ⟨s5, es5, h⟩ := zb h
        replace hA := zag_t hA (zag_w (by decide) (zag_iast es5))
        exact zag_t hA (fr_X4_pickBehind_54 hr9 h)
theorem fr_X4_pickBehind_9 {N : Nat} {res : Unit × ZM} : ∀ (n : Nat) (x1 : Int32) (x2 : Int32) (σ : ZM), f_X4_pickBehind_9 N n x1 x2 σ = some res → zag [(32, none)] σ res.2 := by
  intro n
  induction n with
  | zero => intro x1 x2 σ h; exact absurd h (by simp [f_X4_pickBehind_9])
  | succ n ih => intro x1 x2 σ h; rw [f_X4_pickBehind_9] at h; exact fr_b_X4_pickBehind_9 ih h
theorem fr_X4_pickBehind {N : Nat} {x1 : Int32} {σ : ZM} {res : Unit × ZM} (h : f_X4_pickBehind N x1 σ = some res) : zag [(32, none)] σ res.2 := by
  unfold f_X4_pickBehind at h
  have hA : zag [(32, none)] σ σ := zag_r
  obtain ⟨r6, s7, es7, h⟩ := zc h
  replace hA := zag_t hA (zag_w (by decide) (fr_X1_pickNow es7))
  exact zag_t hA (fr_X4_pickBehind_9 _ _ _ _ h)
theorem fr_X4_worstBy {N : Nat} {x1 : Int32} {σ : ZM} {res : Int32 × ZM} (h : f_X4_worstBy N x1 σ = some res) : zag [] σ res.2 := by
  unfold f_X4_worstBy at h
  have hA : zag [] σ σ := zag_r
  obtain ⟨v1, ev1, h⟩ := zb h
  obtain ⟨v2, ev2, h⟩ := zb h
  cases h
  exact hA
theorem fr_X4_leastWorst_55 {N : Nat} {rec15 : Int32 → Int32 → Int32 → Int32 → ZM → Option (Int32 × ZM)} {res : Int32 × ZM} (hr15 : ∀ (x1 : Int32) (x2 : Int32) (x3 : Int32) (x4 : Int32) (σ : ZM), rec15 x1 x2 x3 x4 σ = some res → zag [] σ res.2) {x1 : Int32} {x2 : Int32} {x3 : Int32} {x4 : Int32} {σ : ZM} (h : f_X4_leastWorst_55 N rec15 x1 x2 x3 x4 σ = some res) : zag [] σ res.2 := by
  unfold f_X4_leastWorst_55 at h
  have hA : zag [] σ σ := zag_r
  obtain ⟨v1, ev1, h⟩ := zb h
  exact zag_t hA (hr15 _ _ _ _ _ h)
theorem fr_b_X4_leastWorst_15 {N : Nat} {rec15 : Int32 → Int32 → Int32 → Int32 → ZM → Option (Int32 × ZM)} {res : Int32 × ZM} (hr15 : ∀ (x1 : Int32) (x2 : Int32) (x3 : Int32) (x4 : Int32) (σ : ZM), rec15 x1 x2 x3 x4 σ = some res → zag [] σ res.2) {x1 : Int32} {x2 : Int32} {x3 : Int32} {x4 : Int32} {σ : ZM} (h : b_X4_leastWorst_15 N rec15 x1 x2 x3 x4 σ = some res) : zag [] σ res.2 := by
  unfold b_X4_leastWorst_15 at h
  have hA : zag [] σ σ := zag_r
  rcases zi2 h with ⟨hc24, h⟩ | ⟨hc24, h⟩
  · skip
    cases h
    exact hA
  · skip
    rcases zi2 h with ⟨hc37, h⟩ | ⟨hc37, h⟩
    · skip
      exact zag_t hA (fr_X4_leastWorst_55 hr15 h)
    · skip
      obtain ⟨r2, s3, es3, h⟩ := zc h
      replace hA := zag_t hA (zag_w (by decide) (fr_X4_worstBy es3))
      obtain ⟨v4, ev4, h⟩ := zb h
      exact zag_t hA (fr_X4_leastWorst_55 hr15 h)
theorem fr_X4_leastWorst_15 {N : Nat} {res : Int32 × ZM} : ∀ (n : Nat) (x1 : Int32) (x2 : Int32) (x3 : Int32) (x4 : Int32) (σ : ZM), f_X4_leastWorst_15 N n x1 x2 x3 x4 σ = some res → zag [] σ res.2 := by
  intro n
  induction n with
  | zero => intro x1 x2 x3 x4 σ h; exact absurd h (by simp [f_X4_leastWorst_15])
  | succ n ih => intro x1 x2 x3 x4 σ h; rw [f_X4_leastWorst_15] at h; exact fr_b_X4_leastWorst_15 ih h
theorem fr_X4_leastWorst_11 {N : Nat} {res : Int32 × ZM} {x1 : Int32} {x2 : Int32} {y0 : Int32} {σ : ZM} (h : f_X4_leastWorst_11 N x1 x2 y0 σ = some res) : zag [] σ res.2 := by
  unfold f_X4_leastWorst_11 at h
  have hA : zag [] σ σ := zag_r
  exact zag_t hA (fr_X4_leastWorst_15 _ _ _ _ _ _ h)
theorem fr_X4_leastWorst {N : Nat} {x1 : Int32} {x2 : Int32} {σ : ZM} {res : Int32 × ZM} (h : f_X4_leastWorst N x1 x2 σ = some res) : zag [] σ res.2 := by
  unfold f_X4_leastWorst at h
  have hA : zag [] σ σ := zag_r
  rcases (zi2 h).symm with ⟨hc2, h⟩ | ⟨hc2, h⟩
  · skip
    exact zag_t hA (fr_X4_leastWorst_11 h)
  · skip
    exact zag_t hA (fr_X4_leastWorst_11 h)
theorem fr_X4_firstStep_51 {N : Nat} {rec13 : Int32 → Int32 → Int32 → Int32 → ZM → Option (Int32 × ZM)} {res : Int32 × ZM} (hr13 : ∀ (x1 : Int32) (x2 : Int32) (x3 : Int32) (x4 : Int32) (σ : ZM), rec13 x1 x2 x3 x4 σ = some res → zag [] σ res.2) {x1 : Int32} {x2 : Int32} {x3 : Int32} {x4 : Int32} {σ : ZM} (h : f_X4_firstStep_51 N rec13 x1 x2 x3 x4 σ = some res) : zag [] σ res.2 := by
  unfold f_X4_firstStep_51 at h
  have hA : zag [] σ σ := zag_r
  obtain ⟨v1, ev1, h⟩ := zb h
  exact zag_t hA (hr13 _ _ _ _ _ h)
theorem fr_b_X4_firstStep_13 {N : Nat} {rec13 : Int32 → Int32 → Int32 → Int32 → ZM → Option (Int32 × ZM)} {res : Int32 × ZM} (hr13 : ∀ (x1 : Int32) (x2 : Int32) (x3 : Int32) (x4 : Int32) (σ : ZM), rec13 x1 x2 x3 x4 σ = some res → zag [] σ res.2) {x1 : Int32} {x2 : Int32} {x3 : Int32} {x4 : Int32} {σ : ZM} (h : b_X4_firstStep_13 N rec13 x1 x2 x3 x4 σ = some res) : zag [] σ res.2 := by
  unfold b_X4_firstStep_13 at h
  have hA : zag [] σ σ := zag_r
  rcases zi2 h with ⟨hc15, h⟩ | ⟨hc15, h⟩
  · skip
    cases h
    exact hA
  · skip
    rcases zi2 h with ⟨hc28, h⟩ | ⟨hc28, h⟩
    · skip
      exact zag_t hA (fr_X4_firstStep_51 hr13 h)
    · skip
      obtain ⟨r2, s3, es3, h⟩ := zc h
      replace hA := zag_t hA (zag_w (by decide) (fr_X4_worstBy es3))
      rcases zi2 h with ⟨hc45, h⟩ | ⟨hc45, h⟩
      · skip
        exact zag_t hA (fr_X4_firstStep_51 hr13 h)
      · skip
        exact zag_t hA (fr_X4_firstStep_51 hr13 h)
theorem fr_X4_firstStep_13 {N : Nat} {res : Int32 × ZM} : ∀ (n : Nat) (x1 : Int32) (x2 : Int32) (x3 : Int32) (x4 : Int32) (σ : ZM), f_X4_firstStep_13 N n x1 x2 x3 x4 σ = some res → zag [] σ res.2 := by
  intro n
  induction n with
  | zero => intro x1 x2 x3 x4 σ h; exact absurd h (by simp [f_X4_firstStep_13])
  | succ n ih => intro x1 x2 x3 x4 σ h; rw [f_X4_firstStep_13] at h; exact fr_b_X4_firstStep_13 ih h
theorem fr_X4_firstStep {N : Nat} {x1 : Int32} {x2 : Int32} {σ : ZM} {res : Int32 × ZM} (h : f_X4_firstStep N x1 x2 σ = some res) : zag [] σ res.2 := by
  unfold f_X4_firstStep at h
  have hA : zag [] σ σ := zag_r
  obtain ⟨v4, ev4, h⟩ := zb h
  exact zag_t hA (fr_X4_firstStep_13 _ _ _ _ _ _ h)
theorem fr_b_X4_plan_95 {N : Nat} {rec95 : Int32 → Int32 → Int32 → ZM → Option (Unit × ZM)} {res : Unit × ZM} (hr95 : ∀ (x1 : Int32) (x2 : Int32) (x3 : Int32) (σ : ZM), rec95 x1 x2 x3 σ = some res → zag [(17, some 5), (18, none), (19, none), (20, none), (21, none), (22, none), (23, some 14), (24, some 0), (25, none), (26, none), (27, none), (28, none), (29, none), (30, none), (31, none), (32, none), (34, some 6), (34, some 7), (35, none), (36, none), (37, none)] σ res.2) {x1 : Int32} {x2 : Int32} {x3 : Int32} {σ : ZM} (h : b_X4_plan_95 N rec95 x1 x2 x3 σ = some res) : zag [(17, some 5), (18, none), (19, none), (20, none), (21, none), (22, none), (23, some 14), (24, some 0), (25, none), (26, none), (27, none), (28, none), (29, none), (30, none), (31, none), (32, none), (34, some 6), (34, some 7), (35, none), (36, none), (37, none)] σ res.2 := by
  unfold b_X4_plan_95 at h
  have hA : zag [(17, some 5), (18, none), (19, none), (20, none), (21, none), (22, none), (23, some 14), (24, some 0), (25, none), (26, none), (27, none), (28, none), (29, none), (30, none), (31, none), (32, none), (34, some 6), (34, some 7), (35, none), (36, none), (37, none)] σ σ := zag_r
  rcases zi2 h with ⟨hc97, h⟩ | ⟨hc97, h⟩
  · skip
    cases h
    exact hA
  · skip
    rcases zi2 h with ⟨hc102, h⟩ | ⟨hc102, h⟩
    · skip
      cases h
      exact hA
    · skip
      obtain ⟨r1, s2, es2, h⟩ := zc h
      replace hA := zag_t hA (zag_w (by decide) (fr_X4_firstStep es2))
      obtain ⟨s3, es3, h⟩ := zb h
      replace hA := zag_t hA (zag_w (by decide) (zag_iast es3))
      obtain ⟨v4, ev4, h⟩ := zb h
      obtain ⟨v5, ev5, h⟩ := zb h
      obtain ⟨s6, es6, h⟩ := zb h
      replace hA := zag_t hA (zag_w (by decide) (zag_putI es6))
      obtain ⟨v7, ev7, h⟩ := zb h
      exact zag_t hA (hr95 _ _ _ _ h)
theorem fr_X4_plan_95 {N : Nat} {res : Unit × ZM} : ∀ (n : Nat) (x1 : Int32) (x2 : Int32) (x3 : Int32) (σ : ZM), f_X4_plan_95 N n x1 x2 x3 σ = some res → zag [(17, some 5), (18, none), (19, none), (20, none), (21, none), (22, none), (23, some 14), (24, some 0), (25, none), (26, none), (27, none), (28, none), (29, none), (30, none), (31, none), (32, none), (34, some 6), (34, some 7), (35, none), (36, none), (37, none)] σ res.2 := by
  intro n
  induction n with
  | zero => intro x1 x2 x3 σ h; exact absurd h (by simp [f_X4_plan_95])
  | succ n ih => intro x1 x2 x3 σ h; rw [f_X4_plan_95] at h; exact fr_b_X4_plan_95 ih h
theorem fr_X4_plan_70 {N : Nat} {rec7 : Int32 → Int32 → ZM → Option (Unit × ZM)} {res : Unit × ZM} (hr7 : ∀ (x1 : Int32) (x2 : Int32) (σ : ZM), rec7 x1 x2 σ = some res → zag [(17, some 5), (18, none), (19, none), (20, none), (21, none), (22, none), (23, some 14), (24, some 0), (25, none), (26, none), (27, none), (28, none), (29, none), (30, none), (31, none), (32, none), (34, some 6), (34, some 7), (35, none), (36, none), (37, none)] σ res.2) {x1 : Int32} {x2 : Int32} {σ : ZM} (h : f_X4_plan_70 N rec7 x1 x2 σ = some res) : zag [(17, some 5), (18, none), (19, none), (20, none), (21, none), (22, none), (23, some 14), (24, some 0), (25, none), (26, none), (27, none), (28, none), (29, none), (30, none), (31, none), (32, none), (34, some 6), (34, some 7), (35, none), (36, none), (37, none)] σ res.2 := by
  unfold f_X4_plan_70 at h
  have hA : zag [(17, some 5), (18, none), (19, none), (20, none), (21, none), (22, none), (23, some 14), (24, some 0), (25, none), (26, none), (27, none), (28, none), (29, none), (30, none), (31, none), (32, none), (34, some 6), (34, some 7), (35, none), (36, none), (37, none)] σ σ := zag_r
  obtain ⟨v8, ev8, h⟩ := zb h
  exact zag_t hA (hr7 _ _ _ h)
theorem fr_X4_plan_57 {N : Nat} {rec7 : Int32 → Int32 → ZM → Option (Unit × ZM)} {res : Unit × ZM} (hr7 : ∀ (x1 : Int32) (x2 : Int32) (σ : ZM), rec7 x1 x2 σ = some res → zag [(17, some 5), (18, none), (19, none), (20, none), (21, none), (22, none), (23, some 14), (24, some 0), (25, none), (26, none), (27, none), (28, none), (29, none), (30, none), (31, none), (32, none), (34, some 6), (34, some 7), (35, none), (36, none), (37, none)] σ res.2) {x1 : Int32} {x2 : Int32} {y0 : Int32} {y1 : Int32} {σ : ZM} (h : f_X4_plan_57 N rec7 x1 x2 y0 y1 σ = some res) : zag [(17, some 5), (18, none), (19, none), (20, none), (21, none), (22, none), (23, some 14), (24, some 0), (25, none), (26, none), (27, none), (28, none), (29, none), (30, none), (31, none), (32, none), (34, some 6), (34, some 7), (35, none), (36, none), (37, none)] σ res.2 := by
  unfold f_X4_plan_57 at h
  have hA : zag [(17, some 5), (18, none), (19, none), (20, none), (21, none), (22, none), (23, some 14), (24, some 0), (25, none), (26, none), (27, none), (28, none), (29, none), (30, none), (31, none), (32, none), (34, some 6), (34, some 7), (35, none), (36, none), (37, none)] σ σ := zag_r
  obtain ⟨s9, es9, h⟩ := zb h
  replace hA := zag_t hA (zag_w (by decide) (zag_iast es9))
  obtain ⟨r10, s11, es11, h⟩ := zc h
  replace hA := zag_t hA (zag_w (by decide) (fr_X4_leastWorst es11))
  obtain ⟨s12, es12, h⟩ := zb h
  replace hA := zag_t hA (zag_w (by decide) (zag_iast es12))
  exact zag_t hA (fr_X4_plan_70 hr7 h)
theorem fr_b_X4_plan_7 {N : Nat} {rec7 : Int32 → Int32 → ZM → Option (Unit × ZM)} {res : Unit × ZM} (hr7 : ∀ (x1 : Int32) (x2 : Int32) (σ : ZM), rec7 x1 x2 σ = some res → zag [(17, some 5), (18, none), (19, none), (20, none), (21, none), (22, none), (23, some 14), (24, some 0), (25, none), (26, none), (27, none), (28, none), (29, none), (30, none), (31, none), (32, none), (34, some 6), (34, some 7), (35, none), (36, none), (37, none)] σ res.2) {x1 : Int32} {x2 : Int32} {σ : ZM} (h : b_X4_plan_7 N rec7 x1 x2 σ = some res) : zag [(17, some 5), (18, none), (19, none), (20, none), (21, none), (22, none), (23, some 14), (24, some 0), (25, none), (26, none), (27, none), (28, none), (29, none), (30, none), (31, none), (32, none), (34, some 6), (34, some 7), (35, none), (36, none), (37, none)] σ res.2 := by
  unfold b_X4_plan_7 at h
  have hA : zag [(17, some 5), (18, none), (19, none), (20, none), (21, none), (22, none), (23, some 14), (24, some 0), (25, none), (26, none), (27, none), (28, none), (29, none), (30, none), (31, none), (32, none), (34, some 6), (34, some 7), (35, none), (36, none), (37, none)] σ σ := zag_r
  rcases zi2 h with ⟨hc8, h⟩ | ⟨hc8, h⟩
  · skip
    obtain ⟨v13, ev13, h⟩ := zb h
    obtain ⟨s14, es14, h⟩ := zb h
    replace hA := zag_t hA (zag_w (by decide) (zag_putI es14))
    obtain ⟨s15, es15, h⟩ := zb h
    replace hA := zag_t hA (zag_w (by decide) (zag_putI es15))
    exact zag_t hA (fr_X4_plan_95 _ _ _ _ _ h)
  · skip
    rcases (zi2 h).symm with ⟨hc16, h⟩ | ⟨hc16, h⟩
    · skip
      exact zag_t hA (fr_X4_plan_70 hr7 h)
    · skip
      obtain ⟨r16, s17, es17, h⟩ := zc h
      replace hA := zag_t hA (zag_w (by decide) (fr_X4_pickBehind es17))
      obtain ⟨r18, s19, es19, h⟩ := zc h
      replace hA := zag_t hA (zag_w (by decide) (fr_X1_measure es19))
      obtain ⟨v20, ev20, h⟩ := zb h
      rcases (zi2 h).symm with ⟨hc48, h⟩ | ⟨hc48, h⟩
      · skip
        exact zag_t hA (fr_X4_plan_57 hr7 h)
      · skip
        exact zag_t hA (fr_X4_plan_57 hr7 h)
theorem fr_X4_plan_7 {N : Nat} {res : Unit × ZM} : ∀ (n : Nat) (x1 : Int32) (x2 : Int32) (σ : ZM), f_X4_plan_7 N n x1 x2 σ = some res → zag [(17, some 5), (18, none), (19, none), (20, none), (21, none), (22, none), (23, some 14), (24, some 0), (25, none), (26, none), (27, none), (28, none), (29, none), (30, none), (31, none), (32, none), (34, some 6), (34, some 7), (35, none), (36, none), (37, none)] σ res.2 := by
  intro n
  induction n with
  | zero => intro x1 x2 σ h; exact absurd h (by simp [f_X4_plan_7])
  | succ n ih => intro x1 x2 σ h; rw [f_X4_plan_7] at h; exact fr_b_X4_plan_7 ih h
theorem fr_X4_plan {N : Nat} {σ : ZM} {res : Unit × ZM} (h : f_X4_plan N σ = some res) : zag [(17, some 5), (18, none), (19, none), (20, none), (21, none), (22, none), (23, some 14), (24, some 0), (25, none), (26, none), (27, none), (28, none), (29, none), (30, none), (31, none), (32, none), (34, some 6), (34, some 7), (35, none), (36, none), (37, none)] σ res.2 := by
  unfold f_X4_plan at h
  have hA : zag [(17, some 5), (18, none), (19, none), (20, none), (21, none), (22, none), (23, some 14), (24, some 0), (25, none), (26, none), (27, none), (28, none), (29, none), (30, none), (31, none), (32, none), (34, some 6), (34, some 7), (35, none), (36, none), (37, none)] σ σ := zag_r
  obtain ⟨r21, s22, es22, h⟩ := zc h
  replace hA := zag_t hA (zag_w (by decide) (fr_X4_toChange es22))
  exact zag_t hA (fr_X4_plan_7 _ _ _ _ h)
theorem fr_X7_add {N : Nat} {w0 : Nat} {σ : ZM} {res : Int32 × ZM} (h : f_X7_add N w0 σ = some res) : zag [(w0, some 0), ((w0 + 4), none)] σ res.2 := by
  unfold f_X7_add at h
  have hA : zag [(w0, some 0), ((w0 + 4), none)] σ σ := zag_r
  obtain ⟨s1, es1, h⟩ := zb h
  replace hA := zag_t hA (zag_w (by simp) (zag_zast es1))
  obtain ⟨s2, es2, h⟩ := zb h
  replace hA := zag_t hA (zag_w (by simp) (zag_putI es2))
  cases h
  exact hA
theorem fr_X7_upCount_24 {N : Nat} {w0 : Nat} {rec4 : Int32 → Int32 → ZM → Option (Int32 × ZM)} {res : Int32 × ZM} (hr4 : ∀ (x1 : Int32) (x2 : Int32) (σ : ZM), rec4 x1 x2 σ = some res → zag [] σ res.2) {x1 : Int32} {x2 : Int32} {σ : ZM} (h : f_X7_upCount_24 N w0 rec4 x1 x2 σ = some res) : zag [] σ res.2 := by
  unfold f_X7_upCount_24 at h
  have hA : zag [] σ σ := zag_r
  obtain ⟨v1, ev1, h⟩ := zb h
  exact zag_t hA (hr4 _ _ _ h)
theorem fr_b_X7_upCount_4 {N : Nat} {w0 : Nat} {rec4 : Int32 → Int32 → ZM → Option (Int32 × ZM)} {res : Int32 × ZM} (hr4 : ∀ (x1 : Int32) (x2 : Int32) (σ : ZM), rec4 x1 x2 σ = some res → zag [] σ res.2) {x1 : Int32} {x2 : Int32} {σ : ZM} (h : b_X7_upCount_4 N w0 rec4 x1 x2 σ = some res) : zag [] σ res.2 := by
  unfold b_X7_upCount_4 at h
  have hA : zag [] σ σ := zag_r
  rcases zi2 h with ⟨hc9, h⟩ | ⟨hc9, h⟩
  · skip
    cases h
    exact hA
  · skip
    obtain ⟨v2, ev2, h⟩ := zb h
    rcases zi2 h with ⟨hc18, h⟩ | ⟨hc18, h⟩
    · skip
      exact zag_t hA (fr_X7_upCount_24 hr4 h)
    · skip
      obtain ⟨v3, ev3, h⟩ := zb h
      exact zag_t hA (fr_X7_upCount_24 hr4 h)
theorem fr_X7_upCount_4 {N : Nat} {w0 : Nat} {res : Int32 × ZM} : ∀ (n : Nat) (x1 : Int32) (x2 : Int32) (σ : ZM), f_X7_upCount_4 N w0 n x1 x2 σ = some res → zag [] σ res.2 := by
  intro n
  induction n with
  | zero => intro x1 x2 σ h; exact absurd h (by simp [f_X7_upCount_4])
  | succ n ih => intro x1 x2 σ h; rw [f_X7_upCount_4] at h; exact fr_b_X7_upCount_4 ih h
theorem fr_X7_upCount {N : Nat} {w0 : Nat} {σ : ZM} {res : Int32 × ZM} (h : f_X7_upCount N w0 σ = some res) : zag [] σ res.2 := by
  unfold f_X7_upCount at h
  have hA : zag [] σ σ := zag_r
  exact zag_t hA (fr_X7_upCount_4 _ _ _ _ h)
theorem fr_X8_within {N : Nat} {x0 : Int32} {x1 : Int32} {σ : ZM} {res : Int32 × ZM} (h : f_X8_within N x0 x1 σ = some res) : zag [] σ res.2 := by
  unfold f_X8_within at h
  have hA : zag [] σ σ := zag_r
  rcases zi2 h with ⟨hc1, h⟩ | ⟨hc1, h⟩
  · skip
    cases h
    exact hA
  · skip
    rcases zi2 h with ⟨hc6, h⟩ | ⟨hc6, h⟩
    · skip
      cases h
      exact hA
    · skip
      cases h
      exact hA
theorem fr_X8_forgetAll {N : Nat} {σ : ZM} {res : Unit × ZM} (h : f_X8_forgetAll N σ = some res) : zag [(23, some 14), (38, some 15), (38, some 16)] σ res.2 := by
  unfold f_X8_forgetAll at h
  have hA : zag [(23, some 14), (38, some 15), (38, some 16)] σ σ := zag_r
  obtain ⟨r1, s2, es2, h⟩ := zc h
  replace hA := zag_t hA (zag_w (by decide) (fr_X1_forget es2))
  obtain ⟨r3, s4, es4, h⟩ := zc h
  replace hA := zag_t hA (zag_w (by decide) (fr_X0_forget es4))
  cases h
  exact hA
theorem fr_X8_net {N : Nat} {x1 : Int32} {σ : ZM} {res : Int32 × ZM} (h : f_X8_net N x1 σ = some res) : zag [(1, some 0), (2, none), (3, none), (23, some 14), (38, some 15), (38, some 16)] σ res.2 := by
  unfold f_X8_net at h
  have hA : zag [(1, some 0), (2, none), (3, none), (23, some 14), (38, some 15), (38, some 16)] σ σ := zag_r
  obtain ⟨r1, s2, es2, h⟩ := zc h
  replace hA := zag_t hA (zag_w (by decide) (fr_X8_within es2))
  rcases (zi2 h).symm with ⟨hc7, h⟩ | ⟨hc7, h⟩
  · skip
    rcases zi2 h with ⟨hc22, h⟩ | ⟨hc22, h⟩
    · skip
      obtain ⟨r3, s4, es4, h⟩ := zc h
      replace hA := zag_t hA (zag_w (by decide) (fr_X8_forgetAll es4))
      obtain ⟨r5, s6, es6, h⟩ := zc h
      replace hA := zag_t hA (zag_w (by decide) (fr_X3_add es6))
      cases h
      exact hA
    · skip
      cases h
      exact hA
  · skip
    cases h
    exact hA
theorem fr_X8_tie_60 {N : Nat} {res : Int32 × ZM} {x1 : Int32} {x2 : Int32} {x3 : Int32} {σ : ZM} (h : f_X8_tie_60 N x1 x2 x3 σ = some res) : zag [(1, some 1), (4, none), (5, none), (6, none), (23, some 14), (38, some 15), (38, some 16)] σ res.2 := by
  unfold f_X8_tie_60 at h
  have hA : zag [(1, some 1), (4, none), (5, none), (6, none), (23, some 14), (38, some 15), (38, some 16)] σ σ := zag_r
  rcases zi2 h with ⟨hc69, h⟩ | ⟨hc69, h⟩
  · skip
    obtain ⟨r1, s2, es2, h⟩ := zc h
    replace hA := zag_t hA (zag_w (by decide) (fr_X8_forgetAll es2))
    obtain ⟨r3, s4, es4, h⟩ := zc h
    replace hA := zag_t hA (zag_w (by decide) (fr_X3_join es4))
    cases h
    exact hA
  · skip
    cases h
    exact hA
theorem fr_X8_tie {N : Nat} {x1 : Int32} {x2 : Int32} {x3 : Int32} {σ : ZM} {res : Int32 × ZM} (h : f_X8_tie N x1 x2 x3 σ = some res) : zag [(1, some 1), (4, none), (5, none), (6, none), (23, some 14), (38, some 15), (38, some 16)] σ res.2 := by
  unfold f_X8_tie at h
  have hA : zag [(1, some 1), (4, none), (5, none), (6, none), (23, some 14), (38, some 15), (38, some 16)] σ σ := zag_r
  obtain ⟨r5, s6, es6, h⟩ := zc h
  replace hA := zag_t hA (zag_w (by decide) (fr_X3_has es6))
  rcases zi2 h with ⟨hc8, h⟩ | ⟨hc8, h⟩
  · skip
    cases h
    exact hA
  · skip
    obtain ⟨r7, s8, es8, h⟩ := zc h
    replace hA := zag_t hA (zag_w (by decide) (fr_X3_has es8))
    rcases (zi2 h).symm with ⟨hc19, h⟩ | ⟨hc19, h⟩
    · skip
      rcases zi2 h with ⟨hc26, h⟩ | ⟨hc26, h⟩
      · skip
        cases h
        exact hA
      · skip
        obtain ⟨r9, s10, es10, h⟩ := zc h
        replace hA := zag_t hA (zag_w (by decide) (fr_X3_bond es10))
        rcases (zi2 h).symm with ⟨hc38, h⟩ | ⟨hc38, h⟩
        · skip
          cases h
          exact hA
        · skip
          rcases zi2 h with ⟨hc42, h⟩ | ⟨hc42, h⟩
          · skip
            exact zag_t hA (fr_X8_tie_60 h)
          · skip
            obtain ⟨r11, s12, es12, h⟩ := zc h
            replace hA := zag_t hA (zag_w (by decide) (fr_X3_buysFrom es12))
            rcases zi2 h with ⟨hc54, h⟩ | ⟨hc54, h⟩
            · skip
              exact zag_t hA (fr_X8_tie_60 h)
            · skip
              cases h
              exact hA
    · skip
      cases h
      exact hA
theorem fr_X8_tied {N : Nat} {x1 : Int32} {x2 : Int32} {σ : ZM} {res : Int32 × ZM} (h : f_X8_tied N x1 x2 σ = some res) : zag [] σ res.2 := by
  unfold f_X8_tied at h
  have hA : zag [] σ σ := zag_r
  obtain ⟨r1, s2, es2, h⟩ := zc h
  replace hA := zag_t hA (zag_w (by decide) (fr_X3_has es2))
  rcases zi2 h with ⟨hc8, h⟩ | ⟨hc8, h⟩
  · skip
    cases h
    exact hA
  · skip
    obtain ⟨r3, s4, es4, h⟩ := zc h
    replace hA := zag_t hA (zag_w (by decide) (fr_X3_has es4))
    rcases (zi2 h).symm with ⟨hc19, h⟩ | ⟨hc19, h⟩
    · skip
      obtain ⟨r5, s6, es6, h⟩ := zc h
      replace hA := zag_t hA (zag_w (by decide) (fr_X3_bond es6))
      cases h
      exact hA
    · skip
      cases h
      exact hA
theorem fr_X8_put {N : Nat} {a0 : Nat} {n0 : Nat} {x1 : Int32} {x2 : Int32} {σ : ZM} {res : Int32 × ZM} (h : f_X8_put N a0 n0 x1 x2 σ = some res) : zag [(a0, none)] σ res.2 := by
  unfold f_X8_put at h
  have hA : zag [(a0, none)] σ σ := zag_r
  obtain ⟨v1, ev1, h⟩ := zb h
  obtain ⟨s2, es2, h⟩ := zb h
  replace hA := zag_t hA (zag_w (by simp) (zag_iast es2))
  cases h
  exact hA
theorem fr_X8_askers {N : Nat} {x1 : Int32} {x2 : Int32} {σ : ZM} {res : Int32 × ZM} (h : f_X8_askers N x1 x2 σ = some res) : zag [(2, none), (23, some 14), (38, some 15), (38, some 16)] σ res.2 := by
  unfold f_X8_askers at h
  have hA : zag [(2, none), (23, some 14), (38, some 15), (38, some 16)] σ σ := zag_r
  obtain ⟨r1, s2, es2, h⟩ := zc h
  replace hA := zag_t hA (zag_w (by decide) (fr_X3_has es2))
  rcases (zi2 h).symm with ⟨hc8, h⟩ | ⟨hc8, h⟩
  · skip
    obtain ⟨r3, s4, es4, h⟩ := zc h
    replace hA := zag_t hA (zag_w (by decide) (fr_X8_within es4))
    rcases (zi2 h).symm with ⟨hc20, h⟩ | ⟨hc20, h⟩
    · skip
      obtain ⟨r5, s6, es6, h⟩ := zc h
      replace hA := zag_t hA (zag_w (by decide) (fr_X8_forgetAll es6))
      obtain ⟨r7, s8, es8, h⟩ := zc h
      replace hA := zag_t hA (zag_w (by decide) (fr_X8_put es8))
      cases h
      exact hA
    · skip
      cases h
      exact hA
  · skip
    cases h
    exact hA
theorem fr_X8_guess {N : Nat} {x1 : Int32} {x2 : Int32} {σ : ZM} {res : Int32 × ZM} (h : f_X8_guess N x1 x2 σ = some res) : zag [(3, none), (23, some 14), (38, some 15), (38, some 16)] σ res.2 := by
  unfold f_X8_guess at h
  have hA : zag [(3, none), (23, some 14), (38, some 15), (38, some 16)] σ σ := zag_r
  obtain ⟨r1, s2, es2, h⟩ := zc h
  replace hA := zag_t hA (zag_w (by decide) (fr_X3_has es2))
  rcases (zi2 h).symm with ⟨hc8, h⟩ | ⟨hc8, h⟩
  · skip
    rcases zi2 h with ⟨hc14, h⟩ | ⟨hc14, h⟩
    · skip
      cases h
      exact hA
    · skip
      obtain ⟨r3, s4, es4, h⟩ := zc h
      replace hA := zag_t hA (zag_w (by decide) (fr_X8_within es4))
      rcases (zi2 h).symm with ⟨hc23, h⟩ | ⟨hc23, h⟩
      · skip
        obtain ⟨r5, s6, es6, h⟩ := zc h
        replace hA := zag_t hA (zag_w (by decide) (fr_X8_forgetAll es6))
        obtain ⟨r7, s8, es8, h⟩ := zc h
        replace hA := zag_t hA (zag_w (by decide) (fr_X8_put es8))
        cases h
        exact hA
      · skip
        cases h
        exact hA
  · skip
    cases h
    exact hA
theorem fr_X8_site {N : Nat} {x1 : Int32} {x2 : Int32} {σ : ZM} {res : Int32 × ZM} (h : f_X8_site N x1 x2 σ = some res) : zag [(8, none), (9, none), (12, some 0), (16, none), (23, some 14), (38, some 15), (38, some 16)] σ res.2 := by
  unfold f_X8_site at h
  have hA : zag [(8, none), (9, none), (12, some 0), (16, none), (23, some 14), (38, some 15), (38, some 16)] σ σ := zag_r
  obtain ⟨r1, s2, es2, h⟩ := zc h
  replace hA := zag_t hA (zag_w (by decide) (fr_X3_has es2))
  rcases (zi2 h).symm with ⟨hc8, h⟩ | ⟨hc8, h⟩
  · skip
    obtain ⟨r3, s4, es4, h⟩ := zc h
    replace hA := zag_t hA (zag_w (by decide) (fr_X8_within es4))
    rcases (zi2 h).symm with ⟨hc19, h⟩ | ⟨hc19, h⟩
    · skip
      rcases zi2 h with ⟨hc33, h⟩ | ⟨hc33, h⟩
      · skip
        obtain ⟨r5, s6, es6, h⟩ := zc h
        replace hA := zag_t hA (zag_w (by decide) (fr_X8_forgetAll es6))
        obtain ⟨s7, es7, h⟩ := zb h
        replace hA := zag_t hA (zag_w (by decide) (zag_iast es7))
        obtain ⟨s8, es8, h⟩ := zb h
        replace hA := zag_t hA (zag_w (by decide) (zag_iast es8))
        obtain ⟨r9, s10, es10, h⟩ := zc h
        replace hA := zag_t hA (zag_w (by decide) (fr_X7_add es10))
        cases h
        exact hA
      · skip
        cases h
        exact hA
    · skip
      cases h
      exact hA
  · skip
    cases h
    exact hA
theorem fr_X8_room {N : Nat} {x1 : Int32} {x2 : Int32} {σ : ZM} {res : Int32 × ZM} (h : f_X8_room N x1 x2 σ = some res) : zag [(9, none), (23, some 14), (38, some 15), (38, some 16)] σ res.2 := by
  unfold f_X8_room at h
  have hA : zag [(9, none), (23, some 14), (38, some 15), (38, some 16)] σ σ := zag_r
  obtain ⟨r1, s2, es2, h⟩ := zc h
  replace hA := zag_t hA (zag_w (by decide) (fr_X7_has es2))
  rcases (zi2 h).symm with ⟨hc8, h⟩ | ⟨hc8, h⟩
  · skip
    obtain ⟨r3, s4, es4, h⟩ := zc h
    replace hA := zag_t hA (zag_w (by decide) (fr_X8_within es4))
    rcases (zi2 h).symm with ⟨hc19, h⟩ | ⟨hc19, h⟩
    · skip
      obtain ⟨r5, s6, es6, h⟩ := zc h
      replace hA := zag_t hA (zag_w (by decide) (fr_X8_forgetAll es6))
      obtain ⟨r7, s8, es8, h⟩ := zc h
      replace hA := zag_t hA (zag_w (by decide) (fr_X8_put es8))
      cases h
      exact hA
    · skip
      cases h
      exact hA
  · skip
    cases h
    exact hA
theorem fr_X8_put__11 {N : Nat} {a0 : Nat} {n0 : Nat} {res : Int32 × ZM} {x1 : Int32} {x2 : Int32} {y0 : Int32} {σ : ZM} (h : f_X8_put__11 N a0 n0 x1 x2 y0 σ = some res) : zag [(a0, none)] σ res.2 := by
  unfold f_X8_put__11 at h
  have hA : zag [(a0, none)] σ σ := zag_r
  obtain ⟨s1, es1, h⟩ := zb h
  replace hA := zag_t hA (zag_w (by simp) (zag_zast es1))
  cases h
  exact hA
theorem fr_X8_put_ {N : Nat} {a0 : Nat} {n0 : Nat} {x1 : Int32} {x2 : Int32} {σ : ZM} {res : Int32 × ZM} (h : f_X8_put_ N a0 n0 x1 x2 σ = some res) : zag [(a0, none)] σ res.2 := by
  unfold f_X8_put_ at h
  have hA : zag [(a0, none)] σ σ := zag_r
  obtain ⟨v2, ev2, h⟩ := zb h
  rcases zi2 h with ⟨hc3, h⟩ | ⟨hc3, h⟩
  · skip
    exact zag_t hA (fr_X8_put__11 h)
  · skip
    exact zag_t hA (fr_X8_put__11 h)
theorem fr_X8_up {N : Nat} {x1 : Int32} {x2 : Int32} {σ : ZM} {res : Int32 × ZM} (h : f_X8_up N x1 x2 σ = some res) : zag [(16, none), (23, some 14), (38, some 15), (38, some 16)] σ res.2 := by
  unfold f_X8_up at h
  have hA : zag [(16, none), (23, some 14), (38, some 15), (38, some 16)] σ σ := zag_r
  obtain ⟨r1, s2, es2, h⟩ := zc h
  replace hA := zag_t hA (zag_w (by decide) (fr_X7_has es2))
  rcases (zi2 h).symm with ⟨hc8, h⟩ | ⟨hc8, h⟩
  · skip
    obtain ⟨r3, s4, es4, h⟩ := zc h
    replace hA := zag_t hA (zag_w (by decide) (fr_X8_forgetAll es4))
    obtain ⟨r5, s6, es6, h⟩ := zc h
    replace hA := zag_t hA (zag_w (by decide) (fr_X8_put_ es6))
    cases h
    exact hA
  · skip
    cases h
    exact hA
theorem fr_X8_kind {N : Nat} {x1 : Int32} {x2 : Int32} {σ : ZM} {res : Int32 × ZM} (h : f_X8_kind N x1 x2 σ = some res) : zag [(13, none), (23, some 14), (38, some 15), (38, some 16)] σ res.2 := by
  unfold f_X8_kind at h
  have hA : zag [(13, none), (23, some 14), (38, some 15), (38, some 16)] σ σ := zag_r
  obtain ⟨r1, s2, es2, h⟩ := zc h
  replace hA := zag_t hA (zag_w (by decide) (fr_X7_has es2))
  rcases (zi2 h).symm with ⟨hc8, h⟩ | ⟨hc8, h⟩
  · skip
    obtain ⟨r3, s4, es4, h⟩ := zc h
    replace hA := zag_t hA (zag_w (by decide) (fr_X8_within es4))
    rcases (zi2 h).symm with ⟨hc18, h⟩ | ⟨hc18, h⟩
    · skip
      obtain ⟨r5, s6, es6, h⟩ := zc h
      replace hA := zag_t hA (zag_w (by decide) (fr_X8_forgetAll es6))
      obtain ⟨r7, s8, es8, h⟩ := zc h
      replace hA := zag_t hA (zag_w (by decide) (fr_X8_put es8))
      cases h
      exact hA
    · skip
      cases h
      exact hA
  · skip
    cases h
    exact hA
