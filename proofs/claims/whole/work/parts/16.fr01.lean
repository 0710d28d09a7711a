theorem fr_X8_held {N : Nat} {x1 : Int32} {x2 : Int32} {σ : ZM} {res : Int32 × ZM} (h : f_X8_held N x1 x2 σ = some res) : zag [(14, none), (23, some 14), (38, some 15), (38, some 16)] σ res.2 := by
  unfold f_X8_held at h
  have hA : zag [(14, none), (23, some 14), (38, some 15), (38, some 16)] σ σ := zag_r
  obtain ⟨r1, s2, es2, h⟩ := zc h
  replace hA := zag_t hA (zag_w (by decide) (fr_X7_has es2))
  rcases (zi2 h).symm with ⟨hc8, h⟩ | ⟨hc8, h⟩
  · skip
    obtain ⟨r3, s4, es4, h⟩ := zc h
    replace hA := zag_t hA (zag_w (by decide) (fr_X3_everyone es4))
    obtain ⟨r5, s6, es6, h⟩ := zc h
    replace hA := zag_t hA (zag_w (by decide) (fr_X8_within es6))
    rcases (zi2 h).symm with ⟨hc24, h⟩ | ⟨hc24, h⟩
    · skip
      obtain ⟨r7, s8, es8, h⟩ := zc h
      replace hA := zag_t hA (zag_w (by decide) (fr_X8_forgetAll es8))
      obtain ⟨r9, s10, es10, h⟩ := zc h
      replace hA := zag_t hA (zag_w (by decide) (fr_X8_put es10))
      cases h
      exact hA
    · skip
      cases h
      exact hA
  · skip
    cases h
    exact hA
theorem fr_X8_near {N : Nat} {x1 : Int32} {x2 : Int32} {σ : ZM} {res : Int32 × ZM} (h : f_X8_near N x1 x2 σ = some res) : zag [(15, none), (23, some 14), (38, some 15), (38, some 16)] σ res.2 := by
  unfold f_X8_near at h
  have hA : zag [(15, none), (23, some 14), (38, some 15), (38, some 16)] σ σ := zag_r
  obtain ⟨r1, s2, es2, h⟩ := zc h
  replace hA := zag_t hA (zag_w (by decide) (fr_X7_has es2))
  rcases (zi2 h).symm with ⟨hc8, h⟩ | ⟨hc8, h⟩
  · skip
    obtain ⟨r3, s4, es4, h⟩ := zc h
    replace hA := zag_t hA (zag_w (by decide) (fr_X8_forgetAll es4))
    obtain ⟨r5, s6, es6, h⟩ := zc h
    replace hA := zag_t hA (zag_w (by decide) (fr_X8_put_ es6))
    cases h
    exact hA
  · skip
    cases h
    exact hA
theorem fr_X8_late {N : Nat} {x1 : Int32} {x2 : Int32} {x3 : Int32} {σ : ZM} {res : Int32 × ZM} (h : f_X8_late N x1 x2 x3 σ = some res) : zag [(11, none), (23, some 14), (38, some 15), (38, some 16)] σ res.2 := by
  unfold f_X8_late at h
  have hA : zag [(11, none), (23, some 14), (38, some 15), (38, some 16)] σ σ := zag_r
  obtain ⟨r1, s2, es2, h⟩ := zc h
  replace hA := zag_t hA (zag_w (by decide) (fr_X3_has es2))
  rcases zi2 h with ⟨hc8, h⟩ | ⟨hc8, h⟩
  · skip
    cases h
    exact hA
  · skip
    obtain ⟨r3, s4, es4, h⟩ := zc h
    replace hA := zag_t hA (zag_w (by decide) (fr_X7_has es4))
    rcases (zi2 h).symm with ⟨hc19, h⟩ | ⟨hc19, h⟩
    · skip
      obtain ⟨r5, s6, es6, h⟩ := zc h
      replace hA := zag_t hA (zag_w (by decide) (fr_X8_within es6))
      rcases (zi2 h).symm with ⟨hc31, h⟩ | ⟨hc31, h⟩
      · skip
        obtain ⟨r7, s8, es8, h⟩ := zc h
        replace hA := zag_t hA (zag_w (by decide) (fr_X8_forgetAll es8))
        obtain ⟨r9, s10, es10, h⟩ := zc h
        replace hA := zag_t hA (zag_w (by decide) (fr_X8_put es10))
        cases h
        exact hA
      · skip
        cases h
        exact hA
    · skip
      cases h
      exact hA
theorem fr_X8_settleNow {N : Nat} {σ : ZM} {res : Int32 × ZM} (h : f_X8_settleNow N σ = some res) : zag [(17, some 5), (18, none), (19, none), (20, none), (21, none), (22, none)] σ res.2 := by
  unfold f_X8_settleNow at h
  have hA : zag [(17, some 5), (18, none), (19, none), (20, none), (21, none), (22, none)] σ σ := zag_r
  obtain ⟨r1, s2, es2, h⟩ := zc h
  replace hA := zag_t hA (zag_w (by decide) (fr_X2_takeLeastRules es2))
  obtain ⟨r3, s4, es4, h⟩ := zc h
  replace hA := zag_t hA (zag_w (by decide) (fr_X2_settle es4))
  cases h
  exact hA
theorem fr_X8_rounds {N : Nat} {σ : ZM} {res : Int32 × ZM} (h : f_X8_rounds N σ = some res) : zag [(17, some 5), (18, none), (19, none), (20, none), (21, none), (22, none)] σ res.2 := by
  unfold f_X8_rounds at h
  have hA : zag [(17, some 5), (18, none), (19, none), (20, none), (21, none), (22, none)] σ σ := zag_r
  obtain ⟨r1, s2, es2, h⟩ := zc h
  replace hA := zag_t hA (zag_w (by decide) (fr_X8_settleNow es2))
  cases h
  exact hA
theorem fr_X8_restRefusal {N : Nat} {x1 : Int32} {σ : ZM} {res : Int32 × ZM} (h : f_X8_restRefusal N x1 σ = some res) : zag [(17, some 5), (18, none), (19, none), (20, none), (21, none), (22, none)] σ res.2 := by
  unfold f_X8_restRefusal at h
  have hA : zag [(17, some 5), (18, none), (19, none), (20, none), (21, none), (22, none)] σ σ := zag_r
  rcases (zi2 h).symm with ⟨hc1, h⟩ | ⟨hc1, h⟩
  · skip
    obtain ⟨r1, s2, es2, h⟩ := zc h
    replace hA := zag_t hA (zag_w (by decide) (fr_X8_settleNow es2))
    rcases (zi2 h).symm with ⟨hc12, h⟩ | ⟨hc12, h⟩
    · skip
      cases h
      exact hA
    · skip
      cases h
      exact hA
  · skip
    cases h
    exact hA
theorem fr_X8_comes {N : Nat} {x1 : Int32} {σ : ZM} {res : Int32 × ZM} (h : f_X8_comes N x1 σ = some res) : zag [(17, some 5), (18, none), (19, none), (20, none), (21, none), (22, none)] σ res.2 := by
  unfold f_X8_comes at h
  have hA : zag [(17, some 5), (18, none), (19, none), (20, none), (21, none), (22, none)] σ σ := zag_r
  obtain ⟨r1, s2, es2, h⟩ := zc h
  replace hA := zag_t hA (zag_w (by decide) (fr_X3_has es2))
  obtain ⟨r3, s4, es4, h⟩ := zc h
  replace hA := zag_t hA (zag_w (by decide) (fr_X8_restRefusal es4))
  rcases zi2 h with ⟨hc14, h⟩ | ⟨hc14, h⟩
  · skip
    obtain ⟨r5, s6, es6, h⟩ := zc h
    replace hA := zag_t hA (zag_w (by decide) (fr_X2_comesTo es6))
    cases h
    exact hA
  · skip
    cases h
    exact hA
theorem fr_X8_names {N : Nat} {x1 : Int32} {σ : ZM} {res : Int32 × ZM} (h : f_X8_names N x1 σ = some res) : zag [(17, some 5), (18, none), (19, none), (20, none), (21, none), (22, none)] σ res.2 := by
  unfold f_X8_names at h
  have hA : zag [(17, some 5), (18, none), (19, none), (20, none), (21, none), (22, none)] σ σ := zag_r
  obtain ⟨r1, s2, es2, h⟩ := zc h
  replace hA := zag_t hA (zag_w (by decide) (fr_X3_has es2))
  obtain ⟨r3, s4, es4, h⟩ := zc h
  replace hA := zag_t hA (zag_w (by decide) (fr_X8_restRefusal es4))
  rcases zi2 h with ⟨hc14, h⟩ | ⟨hc14, h⟩
  · skip
    obtain ⟨v5, ev5, h⟩ := zb h
    obtain ⟨r6, s7, es7, h⟩ := zc h
    replace hA := zag_t hA (zag_w (by decide) (fr_X2_namesOf es7))
    cases h
    exact hA
  · skip
    cases h
    exact hA
theorem fr_X8_way {N : Nat} {x1 : Int32} {x2 : Int32} {σ : ZM} {res : Int32 × ZM} (h : f_X8_way N x1 x2 σ = some res) : zag [(17, some 5), (18, none), (19, none), (20, none), (21, none), (22, none)] σ res.2 := by
  unfold f_X8_way at h
  have hA : zag [(17, some 5), (18, none), (19, none), (20, none), (21, none), (22, none)] σ σ := zag_r
  obtain ⟨r1, s2, es2, h⟩ := zc h
  replace hA := zag_t hA (zag_w (by decide) (fr_X3_has es2))
  obtain ⟨r3, s4, es4, h⟩ := zc h
  replace hA := zag_t hA (zag_w (by decide) (fr_X8_restRefusal es4))
  rcases zi2 h with ⟨hc14, h⟩ | ⟨hc14, h⟩
  · skip
    obtain ⟨v5, ev5, h⟩ := zb h
    obtain ⟨r6, s7, es7, h⟩ := zc h
    replace hA := zag_t hA (zag_w (by decide) (fr_X2_passedAt es7))
    cases h
    exact hA
  · skip
    cases h
    exact hA
theorem fr_X8_told {N : Nat} {x1 : Int32} {σ : ZM} {res : Int32 × ZM} (h : f_X8_told N x1 σ = some res) : zag [(17, some 5), (18, none), (19, none), (20, none), (21, none), (22, none)] σ res.2 := by
  unfold f_X8_told at h
  have hA : zag [(17, some 5), (18, none), (19, none), (20, none), (21, none), (22, none)] σ σ := zag_r
  obtain ⟨r1, s2, es2, h⟩ := zc h
  replace hA := zag_t hA (zag_w (by decide) (fr_X3_has es2))
  obtain ⟨r3, s4, es4, h⟩ := zc h
  replace hA := zag_t hA (zag_w (by decide) (fr_X8_restRefusal es4))
  rcases zi2 h with ⟨hc14, h⟩ | ⟨hc14, h⟩
  · skip
    obtain ⟨r5, s6, es6, h⟩ := zc h
    replace hA := zag_t hA (zag_w (by decide) (fr_X2_hear es6))
    cases h
    exact hA
  · skip
    cases h
    exact hA
theorem fr_X8_why {N : Nat} {x1 : Int32} {σ : ZM} {res : Int32 × ZM} (h : f_X8_why N x1 σ = some res) : zag [(17, some 5), (18, none), (19, none), (20, none), (21, none), (22, none)] σ res.2 := by
  unfold f_X8_why at h
  have hA : zag [(17, some 5), (18, none), (19, none), (20, none), (21, none), (22, none)] σ σ := zag_r
  obtain ⟨r1, s2, es2, h⟩ := zc h
  replace hA := zag_t hA (zag_w (by decide) (fr_X3_has es2))
  obtain ⟨r3, s4, es4, h⟩ := zc h
  replace hA := zag_t hA (zag_w (by decide) (fr_X8_restRefusal es4))
  rcases zi2 h with ⟨hc14, h⟩ | ⟨hc14, h⟩
  · skip
    obtain ⟨r5, s6, es6, h⟩ := zc h
    replace hA := zag_t hA (zag_w (by decide) (fr_X2_hear es6))
    obtain ⟨r7, s8, es8, h⟩ := zc h
    replace hA := zag_t hA (zag_w (by decide) (fr_X2_needed es8))
    cases h
    exact hA
  · skip
    cases h
    exact hA
theorem fr_X8_load_62 {N : Nat} {rec24 : Int32 → Int32 → Int32 → ZM → Option (Int32 × ZM)} {res : Int32 × ZM} (hr24 : ∀ (x1 : Int32) (x3 : Int32) (x4 : Int32) (σ : ZM), rec24 x1 x3 x4 σ = some res → zag [(17, some 5), (18, none), (19, none), (20, none), (21, none), (22, none)] σ res.2) {x1 : Int32} {x3 : Int32} {x4 : Int32} {σ : ZM} (h : f_X8_load_62 N rec24 x1 x3 x4 σ = some res) : zag [(17, some 5), (18, none), (19, none), (20, none), (21, none), (22, none)] σ res.2 := by
  unfold f_X8_load_62 at h
  have hA : zag [(17, some 5), (18, none), (19, none), (20, none), (21, none), (22, none)] σ σ := zag_r
  obtain ⟨v1, ev1, h⟩ := zb h
  exact zag_t hA (hr24 _ _ _ _ h)
theorem fr_b_X8_load_24 {N : Nat} {rec24 : Int32 → Int32 → Int32 → ZM → Option (Int32 × ZM)} {res : Int32 × ZM} (hr24 : ∀ (x1 : Int32) (x3 : Int32) (x4 : Int32) (σ : ZM), rec24 x1 x3 x4 σ = some res → zag [(17, some 5), (18, none), (19, none), (20, none), (21, none), (22, none)] σ res.2) {x1 : Int32} {x3 : Int32} {x4 : Int32} {σ : ZM} (h : b_X8_load_24 N rec24 x1 x3 x4 σ = some res) : zag [(17, some 5), (18, none), (19, none), (20, none), (21, none), (22, none)] σ res.2 := by
  unfold b_X8_load_24 at h
  have hA : zag [(17, some 5), (18, none), (19, none), (20, none), (21, none), (22, none)] σ σ := zag_r
  rcases zi2 h with ⟨hc33, h⟩ | ⟨hc33, h⟩
  · skip
    cases h
    exact hA
  · skip
    obtain ⟨r2, s3, es3, h⟩ := zc h
    replace hA := zag_t hA (zag_w (by decide) (fr_X2_comesTo es3))
    rcases (zi2 h).symm with ⟨hc46, h⟩ | ⟨hc46, h⟩
    · skip
      exact zag_t hA (fr_X8_load_62 hr24 h)
    · skip
      obtain ⟨v4, ev4, h⟩ := zb h
      obtain ⟨v5, ev5, h⟩ := zb h
      exact zag_t hA (fr_X8_load_62 hr24 h)
theorem fr_X8_load_24 {N : Nat} {res : Int32 × ZM} : ∀ (n : Nat) (x1 : Int32) (x3 : Int32) (x4 : Int32) (σ : ZM), f_X8_load_24 N n x1 x3 x4 σ = some res → zag [(17, some 5), (18, none), (19, none), (20, none), (21, none), (22, none)] σ res.2 := by
  intro n
  induction n with
  | zero => intro x1 x3 x4 σ h; exact absurd h (by simp [f_X8_load_24])
  | succ n ih => intro x1 x3 x4 σ h; rw [f_X8_load_24] at h; exact fr_b_X8_load_24 ih h
theorem fr_X8_load {N : Nat} {x1 : Int32} {σ : ZM} {res : Int32 × ZM} (h : f_X8_load N x1 σ = some res) : zag [(17, some 5), (18, none), (19, none), (20, none), (21, none), (22, none)] σ res.2 := by
  unfold f_X8_load at h
  have hA : zag [(17, some 5), (18, none), (19, none), (20, none), (21, none), (22, none)] σ σ := zag_r
  obtain ⟨r6, s7, es7, h⟩ := zc h
  replace hA := zag_t hA (zag_w (by decide) (fr_X7_has es7))
  obtain ⟨r8, s9, es9, h⟩ := zc h
  replace hA := zag_t hA (zag_w (by decide) (fr_X8_restRefusal es9))
  rcases zi2 h with ⟨hc14, h⟩ | ⟨hc14, h⟩
  · skip
    exact zag_t hA (fr_X8_load_24 _ _ _ _ _ h)
  · skip
    cases h
    exact hA
theorem fr_X8_stateIfNone {N : Nat} {x0 : Int32} {σ : ZM} {res : Int32 × ZM} (h : f_X8_stateIfNone N x0 σ = some res) : zag [] σ res.2 := by
  unfold f_X8_stateIfNone at h
  have hA : zag [] σ σ := zag_r
  rcases (zi2 h).symm with ⟨hc3, h⟩ | ⟨hc3, h⟩
  · skip
    cases h
    exact hA
  · skip
    cases h
    exact hA
theorem fr_X8_excess {N : Nat} {σ : ZM} {res : Int32 × ZM} (h : f_X8_excess N σ = some res) : zag [(17, some 5), (18, none), (19, none), (20, none), (21, none), (22, none), (23, some 14), (24, some 0), (25, none), (26, none), (27, none), (28, none), (29, none), (30, none), (31, none), (32, none)] σ res.2 := by
  unfold f_X8_excess at h
  have hA : zag [(17, some 5), (18, none), (19, none), (20, none), (21, none), (22, none), (23, some 14), (24, some 0), (25, none), (26, none), (27, none), (28, none), (29, none), (30, none), (31, none), (32, none)] σ σ := zag_r
  obtain ⟨r1, s2, es2, h⟩ := zc h
  replace hA := zag_t hA (zag_w (by decide) (fr_X1_pickNow es2))
  obtain ⟨r3, s4, es4, h⟩ := zc h
  replace hA := zag_t hA (zag_w (by decide) (fr_X1_measure es4))
  obtain ⟨v5, ev5, h⟩ := zb h
  obtain ⟨r6, s7, es7, h⟩ := zc h
  replace hA := zag_t hA (zag_w (by decide) (fr_X8_stateIfNone es7))
  cases h
  exact hA
theorem fr_X8_sum {N : Nat} {σ : ZM} {res : Int64 × ZM} (h : f_X8_sum N σ = some res) : zag [(17, some 5), (18, none), (19, none), (20, none), (21, none), (22, none), (23, some 14), (24, some 0), (25, none), (26, none), (27, none), (28, none), (29, none), (30, none), (31, none), (32, none)] σ res.2 := by
  unfold f_X8_sum at h
  have hA : zag [(17, some 5), (18, none), (19, none), (20, none), (21, none), (22, none), (23, some 14), (24, some 0), (25, none), (26, none), (27, none), (28, none), (29, none), (30, none), (31, none), (32, none)] σ σ := zag_r
  obtain ⟨r1, s2, es2, h⟩ := zc h
  replace hA := zag_t hA (zag_w (by decide) (fr_X1_pickNow es2))
  obtain ⟨r3, s4, es4, h⟩ := zc h
  replace hA := zag_t hA (zag_w (by decide) (fr_X1_measure es4))
  obtain ⟨v5, ev5, h⟩ := zb h
  rcases (zi2 h).symm with ⟨hc26, h⟩ | ⟨hc26, h⟩
  · skip
    obtain ⟨v6, ev6, h⟩ := zb h
    cases h
    exact hA
  · skip
    cases h
    exact hA
theorem fr_X8_without {N : Nat} {x1 : Int32} {σ : ZM} {res : Int32 × ZM} (h : f_X8_without N x1 σ = some res) : zag [(17, some 5), (18, none), (19, none), (20, none), (21, none), (22, none), (23, some 14), (24, some 0), (25, none), (26, none), (27, none), (28, none), (29, none), (30, none), (31, none), (32, none)] σ res.2 := by
  unfold f_X8_without at h
  have hA : zag [(17, some 5), (18, none), (19, none), (20, none), (21, none), (22, none), (23, some 14), (24, some 0), (25, none), (26, none), (27, none), (28, none), (29, none), (30, none), (31, none), (32, none)] σ σ := zag_r
  obtain ⟨r1, s2, es2, h⟩ := zc h
  replace hA := zag_t hA (zag_w (by decide) (fr_X7_has es2))
  rcases (zi2 h).symm with ⟨hc8, h⟩ | ⟨hc8, h⟩
  · skip
    obtain ⟨v3, ev3, h⟩ := zb h
    rcases (zi2 h).symm with ⟨hc22, h⟩ | ⟨hc22, h⟩
    · skip
      obtain ⟨r4, s5, es5, h⟩ := zc h
      replace hA := zag_t hA (zag_w (by decide) (fr_X1_pickNow es5))
      obtain ⟨s6, es6, h⟩ := zb h
      replace hA := zag_t hA (zag_w (by decide) (zag_iast es6))
      obtain ⟨r7, s8, es8, h⟩ := zc h
      replace hA := zag_t hA (zag_w (by decide) (fr_X1_measure es8))
      obtain ⟨v9, ev9, h⟩ := zb h
      obtain ⟨r10, s11, es11, h⟩ := zc h
      replace hA := zag_t hA (zag_w (by decide) (fr_X8_stateIfNone es11))
      cases h
      exact hA
    · skip
      cases h
      exact hA
  · skip
    cases h
    exact hA
theorem fr_X8_moves_72 {N : Nat} {res : Int32 × ZM} {x1 : Int32} {x3 : Int32} {x4 : Int32} {y0 : Int32} {σ : ZM} (h : f_X8_moves_72 N x1 x3 x4 y0 σ = some res) : zag [(13, none), (17, some 5), (18, none), (19, none), (20, none), (21, none), (22, none)] σ res.2 := by
  unfold f_X8_moves_72 at h
  have hA : zag [(13, none), (17, some 5), (18, none), (19, none), (20, none), (21, none), (22, none)] σ σ := zag_r
  obtain ⟨s1, es1, h⟩ := zb h
  replace hA := zag_t hA (zag_w (by decide) (zag_iast es1))
  rcases zi2 h with ⟨hc87, h⟩ | ⟨hc87, h⟩
  · skip
    cases h
    exact hA
  · skip
    obtain ⟨r2, s3, es3, h⟩ := zc h
    replace hA := zag_t hA (zag_w (by decide) (fr_X2_outcome es3))
    obtain ⟨r4, s5, es5, h⟩ := zc h
    replace hA := zag_t hA (zag_w (by decide) (fr_X3_askersUnlike es5))
    cases h
    exact hA
theorem fr_X8_moves {N : Nat} {x1 : Int32} {x2 : Int32} {σ : ZM} {res : Int32 × ZM} (h : f_X8_moves N x1 x2 σ = some res) : zag [(13, none), (17, some 5), (18, none), (19, none), (20, none), (21, none), (22, none)] σ res.2 := by
  unfold f_X8_moves at h
  have hA : zag [(13, none), (17, some 5), (18, none), (19, none), (20, none), (21, none), (22, none)] σ σ := zag_r
  obtain ⟨r6, s7, es7, h⟩ := zc h
  replace hA := zag_t hA (zag_w (by decide) (fr_X7_has es7))
  rcases (zi2 h).symm with ⟨hc8, h⟩ | ⟨hc8, h⟩
  · skip
    obtain ⟨r8, s9, es9, h⟩ := zc h
    replace hA := zag_t hA (zag_w (by decide) (fr_X8_within es9))
    rcases (zi2 h).symm with ⟨hc18, h⟩ | ⟨hc18, h⟩
    · skip
      obtain ⟨r10, s11, es11, h⟩ := zc h
      replace hA := zag_t hA (zag_w (by decide) (fr_X8_settleNow es11))
      rcases (zi2 h).symm with ⟨hc30, h⟩ | ⟨hc30, h⟩
      · skip
        obtain ⟨r12, s13, es13, h⟩ := zc h
        replace hA := zag_t hA (zag_w (by decide) (fr_X2_outcome es13))
        obtain ⟨r14, s15, es15, h⟩ := zc h
        replace hA := zag_t hA (zag_w (by decide) (fr_X8_put es15))
        obtain ⟨r16, s17, es17, h⟩ := zc h
        replace hA := zag_t hA (zag_w (by decide) (fr_X8_settleNow es17))
        rcases zi2 h with ⟨hc64, h⟩ | ⟨hc64, h⟩
        · skip
          exact zag_t hA (fr_X8_moves_72 h)
        · skip
          exact zag_t hA (fr_X8_moves_72 h)
      · skip
        cases h
        exact hA
    · skip
      cases h
      exact hA
  · skip
    cases h
    exact hA
theorem fr_X8_trial {N : Nat} {σ : ZM} {res : Int32 × ZM} (h : f_X8_trial N σ = some res) : zag [(38, some 5), (38, some 15), (38, some 16), (49, some 0), (50, none), (51, none), (52, none), (53, none), (56, some 0), (57, none), (58, none), (59, none), (60, none), (63, some 0), (64, none), (65, none), (66, none), (67, none), (70, some 0), (71, none), (72, none), (73, none), (74, none), (77, some 0), (78, none), (79, none), (80, none), (81, none), (84, some 0), (85, none), (86, none), (87, none), (88, none)] σ res.2 := by
  unfold f_X8_trial at h
  have hA : zag [(38, some 5), (38, some 15), (38, some 16), (49, some 0), (50, none), (51, none), (52, none), (53, none), (56, some 0), (57, none), (58, none), (59, none), (60, none), (63, some 0), (64, none), (65, none), (66, none), (67, none), (70, some 0), (71, none), (72, none), (73, none), (74, none), (77, some 0), (78, none), (79, none), (80, none), (81, none), (84, some 0), (85, none), (86, none), (87, none), (88, none)] σ σ := zag_r
  rcases zi2 h with ⟨hc9, h⟩ | ⟨hc9, h⟩
  · skip
    obtain ⟨r1, s2, es2, h⟩ := zc h
    replace hA := zag_t hA (zag_w (by decide) (fr_X0_forget es2))
    obtain ⟨r3, s4, es4, h⟩ := zc h
    replace hA := zag_t hA (zag_w (by decide) (fr_X0_keepTrial es4))
    cases h
    exact hA
  · skip
    cases h
    exact hA
theorem fr_X8_seen_27 {N : Nat} {res : Int32 × ZM} {x1 : Int32} {x2 : Int32} {x3 : Int32} {y0 : Int32} {σ : ZM} (h : f_X8_seen_27 N x1 x2 x3 y0 σ = some res) : zag [(38, some 15), (38, some 16), (54, none), (61, none), (68, none), (75, none), (82, none), (89, none)] σ res.2 := by
  unfold f_X8_seen_27 at h
  have hA : zag [(38, some 15), (38, some 16), (54, none), (61, none), (68, none), (75, none), (82, none), (89, none)] σ σ := zag_r
  rcases zi2 h with ⟨hc30, h⟩ | ⟨hc30, h⟩
  · skip
    cases h
    exact hA
  · skip
    rcases zi2 h with ⟨hc41, h⟩ | ⟨hc41, h⟩
    · skip
      cases h
      exact hA
    · skip
      obtain ⟨r1, s2, es2, h⟩ := zc h
      replace hA := zag_t hA (zag_w (by decide) (fr_X3_has es2))
      rcases zi2 h with ⟨hc52, h⟩ | ⟨hc52, h⟩
      · skip
        cases h
        exact hA
      · skip
        rcases (zi2 h).symm with ⟨hc57, h⟩ | ⟨hc57, h⟩
        · skip
          obtain ⟨r3, s4, es4, h⟩ := zc h
          replace hA := zag_t hA (zag_w (by decide) (fr_X0_forget es4))
          obtain ⟨t5, et5, h⟩ := zb h
          have ht5 := ztr_mem et5
          obtain ⟨r6, s7, es7, h⟩ := zc h
          replace hA := zag_t hA (zag_w (by first | decide | (rcases ht5 with rfl | rfl | rfl | rfl | rfl | rfl <;> decide)) (fr_X8_put es7))
          cases h
          exact hA
        · skip
          cases h
          exact hA
theorem fr_X8_seen_22 {N : Nat} {res : Int32 × ZM} {x1 : Int32} {x2 : Int32} {x3 : Int32} {σ : ZM} (h : f_X8_seen_22 N x1 x2 x3 σ = some res) : zag [(38, some 15), (38, some 16), (54, none), (61, none), (68, none), (75, none), (82, none), (89, none)] σ res.2 := by
  unfold f_X8_seen_22 at h
  have hA : zag [(38, some 15), (38, some 16), (54, none), (61, none), (68, none), (75, none), (82, none), (89, none)] σ σ := zag_r
  exact zag_t hA (fr_X8_seen_27 h)
theorem fr_X8_seen {N : Nat} {x1 : Int32} {x2 : Int32} {x3 : Int32} {σ : ZM} {res : Int32 × ZM} (h : f_X8_seen N x1 x2 x3 σ = some res) : zag [(38, some 15), (38, some 16), (54, none), (61, none), (68, none), (75, none), (82, none), (89, none)] σ res.2 := by
  unfold f_X8_seen at h
  have hA : zag [(38, some 15), (38, some 16), (54, none), (61, none), (68, none), (75, none), (82, none), (89, none)] σ σ := zag_r
  rcases zi2 h with ⟨hc3, h⟩ | ⟨hc3, h⟩
  · skip
    exact zag_t hA (fr_X8_seen_22 h)
  · skip
    rcases zi2 h with ⟨hc8, h⟩ | ⟨hc8, h⟩
    · skip
      exact zag_t hA (fr_X8_seen_22 h)
    · skip
      obtain ⟨r8, s9, es9, h⟩ := zc h
      replace hA := zag_t hA (zag_w (by first | decide | (rcases ht5 with rfl | rfl | rfl | rfl | rfl | rfl <;> decide)) (fr_X7_has es9))
      rcases zi2 h with ⟨hc19, h⟩ | ⟨hc19, h⟩
      · skip
        exact zag_t hA (fr_X8_seen_27 h)
      · skip
        exact zag_t hA (fr_X8_seen_22 h)
theorem fr_X8_cases {N : Nat} {σ : ZM} {res : Int32 × ZM} (h : f_X8_cases N σ = some res) : zag [] σ res.2 := by
  unfold f_X8_cases at h
  have hA : zag [] σ σ := zag_r
  obtain ⟨r1, s2, es2, h⟩ := zc h
  replace hA := zag_t hA (zag_w (by decide) (fr_X3_caseCount es2))
  rcases zi2 h with ⟨hc12, h⟩ | ⟨hc12, h⟩
  · skip
    cases h
    exact hA
  · skip
    cases h
    exact hA
theorem fr_X8_agree {N : Nat} {σ : ZM} {res : Int32 × ZM} (h : f_X8_agree N σ = some res) : zag [(17, some 5), (18, none), (19, none), (20, none), (21, none), (22, none), (38, some 7), (38, some 8), (38, some 15), (45, none)] σ res.2 := by
  unfold f_X8_agree at h
  have hA : zag [(17, some 5), (18, none), (19, none), (20, none), (21, none), (22, none), (38, some 7), (38, some 8), (38, some 15), (45, none)] σ σ := zag_r
  obtain ⟨r1, s2, es2, h⟩ := zc h
  replace hA := zag_t hA (zag_w (by decide) (fr_X0_sift es2))
  rcases zi2 h with ⟨hc7, h⟩ | ⟨hc7, h⟩
  · skip
    cases h
    exact hA
  · skip
    cases h
    exact hA
theorem fr_X8_could {N : Nat} {x1 : Int32} {σ : ZM} {res : Int32 × ZM} (h : f_X8_could N x1 σ = some res) : zag [(17, some 5), (18, none), (19, none), (20, none), (21, none), (22, none), (38, some 7), (38, some 8), (38, some 15), (45, none)] σ res.2 := by
  unfold f_X8_could at h
  have hA : zag [(17, some 5), (18, none), (19, none), (20, none), (21, none), (22, none), (38, some 7), (38, some 8), (38, some 15), (45, none)] σ σ := zag_r
  obtain ⟨r1, s2, es2, h⟩ := zc h
  replace hA := zag_t hA (zag_w (by decide) (fr_X3_has es2))
  rcases (zi2 h).symm with ⟨hc8, h⟩ | ⟨hc8, h⟩
  · skip
    obtain ⟨r3, s4, es4, h⟩ := zc h
    replace hA := zag_t hA (zag_w (by decide) (fr_X0_sift es4))
    rcases zi2 h with ⟨hc20, h⟩ | ⟨hc20, h⟩
    · skip
      cases h
      exact hA
    · skip
      obtain ⟨r5, s6, es6, h⟩ := zc h
      replace hA := zag_t hA (zag_w (by decide) (fr_X0_sitesOf es6))
      cases h
      exact hA
  · skip
    cases h
    exact hA
theorem fr_X8_rules {N : Nat} {x1 : Int32} {σ : ZM} {res : Int32 × ZM} (h : f_X8_rules N x1 σ = some res) : zag [(17, some 5), (18, none), (19, none), (20, none), (21, none), (22, none), (38, some 7), (38, some 8), (38, some 15), (45, none)] σ res.2 := by
  unfold f_X8_rules at h
  have hA : zag [(17, some 5), (18, none), (19, none), (20, none), (21, none), (22, none), (38, some 7), (38, some 8), (38, some 15), (45, none)] σ σ := zag_r
  obtain ⟨r1, s2, es2, h⟩ := zc h
  replace hA := zag_t hA (zag_w (by decide) (fr_X3_has es2))
  rcases (zi2 h).symm with ⟨hc8, h⟩ | ⟨hc8, h⟩
  · skip
    obtain ⟨r3, s4, es4, h⟩ := zc h
    replace hA := zag_t hA (zag_w (by decide) (fr_X0_sift es4))
    rcases zi2 h with ⟨hc20, h⟩ | ⟨hc20, h⟩
    · skip
      cases h
      exact hA
    · skip
      obtain ⟨r5, s6, es6, h⟩ := zc h
      replace hA := zag_t hA (zag_w (by decide) (fr_X0_rulesOf es6))
      cases h
      exact hA
  · skip
    cases h
    exact hA
theorem fr_b_X8_learn_28 {N : Nat} {rec28 : Int32 → ZM → Option (Int32 × ZM)} {res : Int32 × ZM} (hr28 : ∀ (x1 : Int32) (σ : ZM), rec28 x1 σ = some res → zag [(3, none), (17, some 5), (18, none), (19, none), (20, none), (21, none), (22, none), (23, some 14), (38, some 7), (38, some 8), (38, some 15), (38, some 16), (45, none)] σ res.2) {x1 : Int32} {σ : ZM} (h : b_X8_learn_28 N rec28 x1 σ = some res) : zag [(3, none), (17, some 5), (18, none), (19, none), (20, none), (21, none), (22, none), (23, some 14), (38, some 7), (38, some 8), (38, some 15), (38, some 16), (45, none)] σ res.2 := by
  unfold b_X8_learn_28 at h
  have hA : zag [(3, none), (17, some 5), (18, none), (19, none), (20, none), (21, none), (22, none), (23, some 14), (38, some 7), (38, some 8), (38, some 15), (38, some 16), (45, none)] σ σ := zag_r
  rcases zi2 h with ⟨hc36, h⟩ | ⟨hc36, h⟩
  · skip
    obtain ⟨r1, s2, es2, h⟩ := zc h
    replace hA := zag_t hA (zag_w (by decide) (fr_X8_forgetAll es2))
    obtain ⟨r3, s4, es4, h⟩ := zc h
    replace hA := zag_t hA (zag_w (by decide) (fr_X3_caseCount es4))
    cases h
    exact hA
  · skip
    obtain ⟨r5, s6, es6, h⟩ := zc h
    replace hA := zag_t hA (zag_w (by decide) (fr_X0_rulesOf es6))
    obtain ⟨s7, es7, h⟩ := zb h
    replace hA := zag_t hA (zag_w (by decide) (zag_iast es7))
    obtain ⟨v8, ev8, h⟩ := zb h
    exact zag_t hA (hr28 _ _ h)
theorem fr_X8_learn_28 {N : Nat} {res : Int32 × ZM} : ∀ (n : Nat) (x1 : Int32) (σ : ZM), f_X8_learn_28 N n x1 σ = some res → zag [(3, none), (17, some 5), (18, none), (19, none), (20, none), (21, none), (22, none), (23, some 14), (38, some 7), (38, some 8), (38, some 15), (38, some 16), (45, none)] σ res.2 := by
  intro n
  induction n with
  | zero => intro x1 σ h; exact absurd h (by simp [f_X8_learn_28])
  | succ n ih => intro x1 σ h; rw [f_X8_learn_28] at h; exact fr_b_X8_learn_28 ih h
theorem fr_X8_learn {N : Nat} {σ : ZM} {res : Int32 × ZM} (h : f_X8_learn N σ = some res) : zag [(3, none), (17, some 5), (18, none), (19, none), (20, none), (21, none), (22, none), (23, some 14), (38, some 7), (38, some 8), (38, some 15), (38, some 16), (45, none)] σ res.2 := by
  unfold f_X8_learn at h
  have hA : zag [(3, none), (17, some 5), (18, none), (19, none), (20, none), (21, none), (22, none), (23, some 14), (38, some 7), (38, some 8), (38, some 15), (38, some 16), (45, none)] σ σ := zag_r
  obtain ⟨r9, s10, es10, h⟩ := zc h
  replace hA := zag_t hA (zag_w (by decide) (fr_X0_sift es10))
  rcases (zi2 h).symm with ⟨hc7, h⟩ | ⟨hc7, h⟩
  · skip
    rcases (zi2 h).symm with ⟨hc20, h⟩ | ⟨hc20, h⟩
    · skip
      exact zag_t hA (fr_X8_learn_28 _ _ _ h)
    · skip
      cases h
      exact hA
  · skip
    cases h
    exact hA
theorem fr_X8_quarrel {N : Nat} {σ : ZM} {res : Int32 × ZM} (h : f_X8_quarrel N σ = some res) : zag [(17, some 5), (18, none), (19, none), (20, none), (21, none), (22, none), (38, some 7), (38, some 8), (38, some 15), (45, none)] σ res.2 := by
  unfold f_X8_quarrel at h
  have hA : zag [(17, some 5), (18, none), (19, none), (20, none), (21, none), (22, none), (38, some 7), (38, some 8), (38, some 15), (45, none)] σ σ := zag_r
  obtain ⟨r1, s2, es2, h⟩ := zc h
  replace hA := zag_t hA (zag_w (by decide) (fr_X0_sift es2))
  rcases zi2 h with ⟨hc7, h⟩ | ⟨hc7, h⟩
  · skip
    cases h
    exact hA
  · skip
    cases h
    exact hA
theorem fr_X8_next {N : Nat} {x1 : Int32} {σ : ZM} {res : Int32 × ZM} (h : f_X8_next N x1 σ = some res) : zag [(17, some 5), (18, none), (19, none), (20, none), (21, none), (22, none), (38, some 7), (38, some 8), (38, some 11), (38, some 12), (38, some 13), (38, some 14), (38, some 15), (38, some 16), (39, some 0), (40, none), (41, none), (42, none), (43, none), (45, none), (46, none), (47, none)] σ res.2 := by
  unfold f_X8_next at h
  have hA : zag [(17, some 5), (18, none), (19, none), (20, none), (21, none), (22, none), (38, some 7), (38, some 8), (38, some 11), (38, some 12), (38, some 13), (38, some 14), (38, some 15), (38, some 16), (39, some 0), (40, none), (41, none), (42, none), (43, none), (45, none), (46, none), (47, none)] σ σ := zag_r
  obtain ⟨r1, s2, es2, h⟩ := zc h
  replace hA := zag_t hA (zag_w (by decide) (fr_X0_sift es2))
  rcases (zi2 h).symm with ⟨hc7, h⟩ | ⟨hc7, h⟩
  · skip
    rcases zi2 h with ⟨hc21, h⟩ | ⟨hc21, h⟩
    · skip
      cases h
      exact hA
    · skip
      obtain ⟨r3, s4, es4, h⟩ := zc h
      replace hA := zag_t hA (zag_w (by decide) (fr_X7_upCount es4))
      rcases (zi2 h).symm with ⟨hc31, h⟩ | ⟨hc31, h⟩
      · skip
        obtain ⟨r5, s6, es6, h⟩ := zc h
        replace hA := zag_t hA (zag_w (by decide) (fr_X0_seekTrial es6))
        rcases zi2 h with ⟨hc45, h⟩ | ⟨hc45, h⟩
        · skip
          cases h
          exact hA
        · skip
          cases h
          exact hA
      · skip
        cases h
        exact hA
  · skip
    cases h
    exact hA
theorem fr_X8_best {N : Nat} {x1 : Int32} {σ : ZM} {res : Int32 × ZM} (h : f_X8_best N x1 σ = some res) : zag [(17, some 5), (18, none), (19, none), (20, none), (21, none), (22, none), (23, some 10), (23, some 11), (23, some 12), (23, some 13), (23, some 14), (24, some 0), (25, none), (26, none), (27, none), (28, none), (29, none), (30, none), (31, none), (32, none), (33, none)] σ res.2 := by
  unfold f_X8_best at h
  have hA : zag [(17, some 5), (18, none), (19, none), (20, none), (21, none), (22, none), (23, some 10), (23, some 11), (23, some 12), (23, some 13), (23, some 14), (24, some 0), (25, none), (26, none), (27, none), (28, none), (29, none), (30, none), (31, none), (32, none), (33, none)] σ σ := zag_r
  obtain ⟨r1, s2, es2, h⟩ := zc h
  replace hA := zag_t hA (zag_w (by decide) (fr_X1_measureAll es2))
  obtain ⟨r3, s4, es4, h⟩ := zc h
  replace hA := zag_t hA (zag_w (by decide) (fr_X1_seek es4))
  cases h
  exact hA
theorem fr_X8_bestSum {N : Nat} {x1 : Int32} {σ : ZM} {res : Int64 × ZM} (h : f_X8_bestSum N x1 σ = some res) : zag [(17, some 5), (18, none), (19, none), (20, none), (21, none), (22, none), (23, some 10), (23, some 11), (23, some 12), (23, some 13), (23, some 14), (24, some 0), (25, none), (26, none), (27, none), (28, none), (29, none), (30, none), (31, none), (32, none), (33, none)] σ res.2 := by
  unfold f_X8_bestSum at h
  have hA : zag [(17, some 5), (18, none), (19, none), (20, none), (21, none), (22, none), (23, some 10), (23, some 11), (23, some 12), (23, some 13), (23, some 14), (24, some 0), (25, none), (26, none), (27, none), (28, none), (29, none), (30, none), (31, none), (32, none), (33, none)] σ σ := zag_r
  obtain ⟨r1, s2, es2, h⟩ := zc h
  replace hA := zag_t hA (zag_w (by decide) (fr_X1_measureAll es2))
  obtain ⟨r3, s4, es4, h⟩ := zc h
  replace hA := zag_t hA (zag_w (by decide) (fr_X1_seek es4))
  rcases (zi2 h).symm with ⟨hc24, h⟩ | ⟨hc24, h⟩
  · skip
    cases h
    exact hA
  · skip
    cases h
    exact hA
theorem fr_X8_bestKind {N : Nat} {x1 : Int32} {x2 : Int32} {σ : ZM} {res : Int32 × ZM} (h : f_X8_bestKind N x1 x2 σ = some res) : zag [(17, some 5), (18, none), (19, none), (20, none), (21, none), (22, none), (23, some 10), (23, some 11), (23, some 12), (23, some 13), (23, some 14), (24, some 0), (25, none), (26, none), (27, none), (28, none), (29, none), (30, none), (31, none), (32, none), (33, none)] σ res.2 := by
  unfold f_X8_bestKind at h
  have hA : zag [(17, some 5), (18, none), (19, none), (20, none), (21, none), (22, none), (23, some 10), (23, some 11), (23, some 12), (23, some 13), (23, some 14), (24, some 0), (25, none), (26, none), (27, none), (28, none), (29, none), (30, none), (31, none), (32, none), (33, none)] σ σ := zag_r
  obtain ⟨r1, s2, es2, h⟩ := zc h
  replace hA := zag_t hA (zag_w (by decide) (fr_X7_has es2))
  rcases (zi2 h).symm with ⟨hc8, h⟩ | ⟨hc8, h⟩
  · skip
    obtain ⟨r3, s4, es4, h⟩ := zc h
    replace hA := zag_t hA (zag_w (by decide) (fr_X1_measureAll es4))
    obtain ⟨r5, s6, es6, h⟩ := zc h
    replace hA := zag_t hA (zag_w (by decide) (fr_X1_seek es6))
    rcases (zi2 h).symm with ⟨hc37, h⟩ | ⟨hc37, h⟩
    · skip
      obtain ⟨v7, ev7, h⟩ := zb h
      rcases zi2 h with ⟨hc52, h⟩ | ⟨hc52, h⟩
      · skip
        obtain ⟨v8, ev8, h⟩ := zb h
        cases h
        exact hA
      · skip
        obtain ⟨v9, ev9, h⟩ := zb h
        cases h
        exact hA
    · skip
      cases h
      exact hA
  · skip
    cases h
    exact hA
theorem fr_X8_aim {N : Nat} {x1 : Int32} {x2 : Int32} {σ : ZM} {res : Int32 × ZM} (h : f_X8_aim N x1 x2 σ = some res) : zag [(10, none)] σ res.2 := by
  unfold f_X8_aim at h
  have hA : zag [(10, none)] σ σ := zag_r
  obtain ⟨r1, s2, es2, h⟩ := zc h
  replace hA := zag_t hA (zag_w (by decide) (fr_X7_has es2))
  rcases (zi2 h).symm with ⟨hc8, h⟩ | ⟨hc8, h⟩
  · skip
    obtain ⟨r3, s4, es4, h⟩ := zc h
    replace hA := zag_t hA (zag_w (by decide) (fr_X8_within es4))
    rcases (zi2 h).symm with ⟨hc18, h⟩ | ⟨hc18, h⟩
    · skip
      obtain ⟨r5, s6, es6, h⟩ := zc h
      replace hA := zag_t hA (zag_w (by decide) (fr_X4_aimOf es6))
      obtain ⟨s7, es7, h⟩ := zb h
      replace hA := zag_t hA (zag_w (by decide) (zag_iast es7))
      cases h
      exact hA
    · skip
      cases h
      exact hA
  · skip
    cases h
    exact hA
theorem fr_X8_steps {N : Nat} {σ : ZM} {res : Int32 × ZM} (h : f_X8_steps N σ = some res) : zag [] σ res.2 := by
  unfold f_X8_steps at h
  have hA : zag [] σ σ := zag_r
  obtain ⟨r1, s2, es2, h⟩ := zc h
  replace hA := zag_t hA (zag_w (by decide) (fr_X4_toChange es2))
  obtain ⟨r3, s4, es4, h⟩ := zc h
  replace hA := zag_t hA (zag_w (by decide) (fr_J6_bitCount_0f7a4 es4))
  cases h
  exact hA
theorem fr_X8_step {N : Nat} {x1 : Int32} {σ : ZM} {res : Int32 × ZM} (h : f_X8_step N x1 σ = some res) : zag [(17, some 5), (18, none), (19, none), (20, none), (21, none), (22, none), (23, some 14), (24, some 0), (25, none), (26, none), (27, none), (28, none), (29, none), (30, none), (31, none), (32, none), (34, some 6), (34, some 7), (35, none), (36, none), (37, none)] σ res.2 := by
  unfold f_X8_step at h
  have hA : zag [(17, some 5), (18, none), (19, none), (20, none), (21, none), (22, none), (23, some 14), (24, some 0), (25, none), (26, none), (27, none), (28, none), (29, none), (30, none), (31, none), (32, none), (34, some 6), (34, some 7), (35, none), (36, none), (37, none)] σ σ := zag_r
  obtain ⟨r1, s2, es2, h⟩ := zc h
  replace hA := zag_t hA (zag_w (by decide) (fr_X4_plan es2))
  rcases zi2 h with ⟨hc8, h⟩ | ⟨hc8, h⟩
  · skip
    cases h
    exact hA
  · skip
    rcases zi2 h with ⟨hc19, h⟩ | ⟨hc19, h⟩
    · skip
      cases h
      exact hA
    · skip
      obtain ⟨v3, ev3, h⟩ := zb h
      cases h
      exact hA
theorem fr_X8_stepWorst {N : Nat} {σ : ZM} {res : Int32 × ZM} (h : f_X8_stepWorst N σ = some res) : zag [(17, some 5), (18, none), (19, none), (20, none), (21, none), (22, none), (23, some 14), (24, some 0), (25, none), (26, none), (27, none), (28, none), (29, none), (30, none), (31, none), (32, none), (34, some 6), (34, some 7), (35, none), (36, none), (37, none)] σ res.2 := by
  unfold f_X8_stepWorst at h
  have hA : zag [(17, some 5), (18, none), (19, none), (20, none), (21, none), (22, none), (23, some 14), (24, some 0), (25, none), (26, none), (27, none), (28, none), (29, none), (30, none), (31, none), (32, none), (34, some 6), (34, some 7), (35, none), (36, none), (37, none)] σ σ := zag_r
  obtain ⟨r1, s2, es2, h⟩ := zc h
  replace hA := zag_t hA (zag_w (by decide) (fr_X4_plan es2))
  cases h
  exact hA
theorem fr_X8_go {N : Nat} {σ : ZM} {res : Int32 × ZM} (h : f_X8_go N σ = some res) : zag [(13, none), (17, some 5), (18, none), (19, none), (20, none), (21, none), (22, none), (23, some 14), (24, some 0), (25, none), (26, none), (27, none), (28, none), (29, none), (30, none), (31, none), (32, none), (34, some 6), (34, some 7), (35, none), (36, none), (37, none), (38, some 15), (38, some 16)] σ res.2 := by
  unfold f_X8_go at h
  have hA : zag [(13, none), (17, some 5), (18, none), (19, none), (20, none), (21, none), (22, none), (23, some 14), (24, some 0), (25, none), (26, none), (27, none), (28, none), (29, none), (30, none), (31, none), (32, none), (34, some 6), (34, some 7), (35, none), (36, none), (37, none), (38, some 15), (38, some 16)] σ σ := zag_r
  obtain ⟨r1, s2, es2, h⟩ := zc h
  replace hA := zag_t hA (zag_w (by decide) (fr_X4_plan es2))
  rcases (zi2 h).symm with ⟨hc14, h⟩ | ⟨hc14, h⟩
  · skip
    obtain ⟨v3, ev3, h⟩ := zb h
    obtain ⟨r4, s5, es5, h⟩ := zc h
    replace hA := zag_t hA (zag_w (by decide) (fr_X4_aimOf es5))
    obtain ⟨s6, es6, h⟩ := zb h
    replace hA := zag_t hA (zag_w (by decide) (zag_iast es6))
    obtain ⟨r7, s8, es8, h⟩ := zc h
    replace hA := zag_t hA (zag_w (by decide) (fr_X8_forgetAll es8))
    cases h
    exact hA
  · skip
    cases h
    exact hA
theorem fr_X8_count {N : Nat} {x1 : Int32} {σ : ZM} {res : Int32 × ZM} (h : f_X8_count N x1 σ = some res) : zag [] σ res.2 := by
  unfold f_X8_count at h
  have hA : zag [] σ σ := zag_r
  by_cases hc1_0 : x1 = (0 : Int32)
  · replace h := (zi h).1 hc1_0
    cases h
    exact hA
  replace h := (zi h).2 hc1_0
  by_cases hc1_1 : x1 = (1 : Int32)
  · replace h := (zi h).1 hc1_1
    cases h
    exact hA
  replace h := (zi h).2 hc1_1
  by_cases hc1_2 : x1 = (2 : Int32)
  · replace h := (zi h).1 hc1_2
    cases h
    exact hA
  replace h := (zi h).2 hc1_2
  by_cases hc1_3 : x1 = (3 : Int32)
  · replace h := (zi h).1 hc1_3
    obtain ⟨r1, s2, es2, h⟩ := zc h
    replace hA := zag_t hA (zag_w (by decide) (fr_X7_upCount es2))
    cases h
    exact hA
  replace h := (zi h).2 hc1_3
  by_cases hc1_4 : x1 = (4 : Int32)
  · replace h := (zi h).1 hc1_4
    cases h
    exact hA
  replace h := (zi h).2 hc1_4
  by_cases hc1_5 : x1 = (5 : Int32)
  · replace h := (zi h).1 hc1_5
    obtain ⟨r3, s4, es4, h⟩ := zc h
    replace hA := zag_t hA (zag_w (by decide) (fr_X3_allAskers es4))
    cases h
    exact hA
  replace h := (zi h).2 hc1_5
  by_cases hc1_6 : x1 = (6 : Int32)
  · replace h := (zi h).1 hc1_6
    obtain ⟨r5, s6, es6, h⟩ := zc h
    replace hA := zag_t hA (zag_w (by decide) (fr_X3_surelyGuessed es6))
    cases h
    exact hA
  replace h := (zi h).2 hc1_6
  cases h
  exact hA
theorem fr_X9_in {N : Nat} {x0 : Int64} {x2 : Int64} {x4 : Int64} {σ : ZM} {res : Int32 × ZM} (h : f_X9_in N x0 x2 x4 σ = some res) : zag [] σ res.2 := by
  unfold f_X9_in at h
  have hA : zag [] σ σ := zag_r
  rcases zi2 h with ⟨hc3, h⟩ | ⟨hc3, h⟩
  · skip
    cases h
    exact hA
  · skip
    rcases zi2 h with ⟨hc10, h⟩ | ⟨hc10, h⟩
    · skip
      cases h
      exact hA
    · skip
      cases h
      exact hA
theorem fr_X9_isNet {N : Nat} {x1 : Int32} {σ : ZM} {res : Int32 × ZM} (h : f_X9_isNet N x1 σ = some res) : zag [] σ res.2 := by
  unfold f_X9_isNet at h
  have hA : zag [] σ σ := zag_r
  obtain ⟨r1, s2, es2, h⟩ := zc h
  replace hA := zag_t hA (zag_w (by decide) (fr_X9_in es2))
  obtain ⟨hz, rfl⟩ := zrz_ok h
  exact hA
theorem fr_X9_isSite {N : Nat} {x1 : Int32} {σ : ZM} {res : Int32 × ZM} (h : f_X9_isSite N x1 σ = some res) : zag [] σ res.2 := by
  unfold f_X9_isSite at h
  have hA : zag [] σ σ := zag_r
  obtain ⟨r1, s2, es2, h⟩ := zc h
  replace hA := zag_t hA (zag_w (by decide) (fr_X9_in es2))
  obtain ⟨hz, rfl⟩ := zrz_ok h
  exact hA
theorem fr_X9_net {N : Nat} {x1 : Int32} {σ : ZM} {res : Int32 × ZM} (h : f_X9_net N x1 σ = some res) : zag [(0, some 0), (2, none), (3, none)] σ res.2 := by
  unfold f_X9_net at h
  have hA : zag [(0, some 0), (2, none), (3, none)] σ σ := zag_r
  obtain ⟨r1, s2, es2, h⟩ := zc h
  replace hA := zag_t hA (zag_w (by decide) (fr_X9_in es2))
  rcases (zi2 h).symm with ⟨hc9, h⟩ | ⟨hc9, h⟩
  · skip
    rcases (zi2 h).symm with ⟨hc21, h⟩ | ⟨hc21, h⟩
    · skip
      obtain ⟨s3, es3, h⟩ := zb h
      replace hA := zag_t hA (zag_w (by decide) (zag_iast es3))
      obtain ⟨s4, es4, h⟩ := zb h
      replace hA := zag_t hA (zag_w (by decide) (zag_iast es4))
      obtain ⟨s5, es5, h⟩ := zb h
      replace hA := zag_t hA (zag_w (by decide) (zag_putI es5))
      cases h
      exact hA
    · skip
      cases h
      exact hA
  · skip
    cases h
    exact hA
theorem fr_X9_buysFrom_67 {N : Nat} {rec7 : Int32 → Int32 → Int32 → ZM → Option (Int32 × ZM)} {rec19 : Int32 → Int32 → Int32 → Int32 → ZM → Option (Int32 × ZM)} {res : Int32 × ZM} (hr7 : ∀ (x2 : Int32) (x3 : Int32) (x4 : Int32) (σ : ZM), rec7 x2 x3 x4 σ = some res → zag [] σ res.2) (hr19 : ∀ (x2 : Int32) (x3 : Int32) (x4 : Int32) (x5 : Int32) (σ : ZM), rec19 x2 x3 x4 x5 σ = some res → zag [] σ res.2) {x2 : Int32} {x4 : Int32} {x5 : Int32} {y0 : Int32} {y1 : Int32} {σ : ZM} (h : f_X9_buysFrom_67 N rec7 rec19 x2 x4 x5 y0 y1 σ = some res) : zag [] σ res.2 := by
  unfold f_X9_buysFrom_67 at h
  have hA : zag [] σ σ := zag_r
  obtain ⟨v1, ev1, h⟩ := zb h
  obtain ⟨v2, ev2, h⟩ := zb h
  exact zag_t hA (hr19 _ _ _ _ _ h)
theorem fr_X9_buysFrom_66 {N : Nat} {rec7 : Int32 → Int32 → Int32 → ZM → Option (Int32 × ZM)} {rec19 : Int32 → Int32 → Int32 → Int32 → ZM → Option (Int32 × ZM)} {res : Int32 × ZM} (hr7 : ∀ (x2 : Int32) (x3 : Int32) (x4 : Int32) (σ : ZM), rec7 x2 x3 x4 σ = some res → zag [] σ res.2) (hr19 : ∀ (x2 : Int32) (x3 : Int32) (x4 : Int32) (x5 : Int32) (σ : ZM), rec19 x2 x3 x4 x5 σ = some res → zag [] σ res.2) {x2 : Int32} {x4 : Int32} {x5 : Int32} {y0 : Int32} {σ : ZM} (h : f_X9_buysFrom_66 N rec7 rec19 x2 x4 x5 y0 σ = some res) : zag [] σ res.2 := by
  unfold f_X9_buysFrom_66 at h
  have hA : zag [] σ σ := zag_r
  exact zag_t hA (fr_X9_buysFrom_67 hr7 hr19 h)
theorem fr_b_X9_buysFrom_19 {N : Nat} {rec7 : Int32 → Int32 → Int32 → ZM → Option (Int32 × ZM)} {rec19 : Int32 → Int32 → Int32 → Int32 → ZM → Option (Int32 × ZM)} {res : Int32 × ZM} (hr7 : ∀ (x2 : Int32) (x3 : Int32) (x4 : Int32) (σ : ZM), rec7 x2 x3 x4 σ = some res → zag [] σ res.2) (hr19 : ∀ (x2 : Int32) (x3 : Int32) (x4 : Int32) (x5 : Int32) (σ : ZM), rec19 x2 x3 x4 x5 σ = some res → zag [] σ res.2) {x2 : Int32} {x3 : Int32} {x4 : Int32} {x5 : Int32} {σ : ZM} (h : b_X9_buysFrom_19 N rec7 rec19 x2 x3 x4 x5 σ = some res) : zag [] σ res.2 := by
  unfold b_X9_buysFrom_19 at h
  have hA : zag [] σ σ := zag_r
  rcases zi2 h with ⟨hc28, h⟩ | ⟨hc28, h⟩
  · skip
    obtain ⟨v3, ev3, h⟩ := zb h
    exact zag_t hA (hr7 _ _ _ _ h)
  · skip
    obtain ⟨v4, ev4, h⟩ := zb h
    rcases (zi2 h).symm with ⟨hc40, h⟩ | ⟨hc40, h⟩
    · skip
      exact zag_t hA (fr_X9_buysFrom_66 hr7 hr19 h)
    · skip
      obtain ⟨v5, ev5, h⟩ := zb h
      rcases (zi2 h).symm with ⟨hc53, h⟩ | ⟨hc53, h⟩
      · skip
        exact zag_t hA (fr_X9_buysFrom_66 hr7 hr19 h)
      · skip
        obtain ⟨v6, ev6, h⟩ := zb h
        exact zag_t hA (fr_X9_buysFrom_67 hr7 hr19 h)
theorem fr_X9_buysFrom_19 {N : Nat} {rec7 : Int32 → Int32 → Int32 → ZM → Option (Int32 × ZM)} {res : Int32 × ZM} (hr7 : ∀ (x2 : Int32) (x3 : Int32) (x4 : Int32) (σ : ZM), rec7 x2 x3 x4 σ = some res → zag [] σ res.2) : ∀ (n : Nat) (x2 : Int32) (x3 : Int32) (x4 : Int32) (x5 : Int32) (σ : ZM), f_X9_buysFrom_19 N rec7 n x2 x3 x4 x5 σ = some res → zag [] σ res.2 := by
  intro n
  induction n with
  | zero => intro x2 x3 x4 x5 σ h; exact absurd h (by simp [f_X9_buysFrom_19])
  | succ n ih => intro x2 x3 x4 x5 σ h; rw [f_X9_buysFrom_19] at h; exact fr_b_X9_buysFrom_19 hr7 ih h
theorem fr_b_X9_buysFrom_7 {N : Nat} {rec7 : Int32 → Int32 → Int32 → ZM → Option (Int32 × ZM)} {res : Int32 × ZM} (hr7 : ∀ (x2 : Int32) (x3 : Int32) (x4 : Int32) (σ : ZM), rec7 x2 x3 x4 σ = some res → zag [] σ res.2) {x2 : Int32} {x3 : Int32} {x4 : Int32} {σ : ZM} (h : b_X9_buysFrom_7 N rec7 x2 x3 x4 σ = some res) : zag [] σ res.2 := by
  unfold b_X9_buysFrom_7 at h
  have hA : zag [] σ σ := zag_r
  rcases zi2 h with ⟨hc13, h⟩ | ⟨hc13, h⟩
  · skip
    rcases (zi2 h).symm with ⟨hc87, h⟩ | ⟨hc87, h⟩
    · skip
      cases h
      exact hA
    · skip
      cases h
      exact hA
  · skip
    exact zag_t hA (fr_X9_buysFrom_19 hr7 _ _ _ _ _ _ h)
theorem fr_X9_buysFrom_7 {N : Nat} {res : Int32 × ZM} : ∀ (n : Nat) (x2 : Int32) (x3 : Int32) (x4 : Int32) (σ : ZM), f_X9_buysFrom_7 N n x2 x3 x4 σ = some res → zag [] σ res.2 := by
  intro n
  induction n with
  | zero => intro x2 x3 x4 σ h; exact absurd h (by simp [f_X9_buysFrom_7])
  | succ n ih => intro x2 x3 x4 σ h; rw [f_X9_buysFrom_7] at h; exact fr_b_X9_buysFrom_7 ih h
theorem fr_X9_buysFrom {N : Nat} {x1 : Int32} {x2 : Int32} {σ : ZM} {res : Int32 × ZM} (h : f_X9_buysFrom N x1 x2 σ = some res) : zag [] σ res.2 := by
  unfold f_X9_buysFrom at h
  have hA : zag [] σ σ := zag_r
  obtain ⟨v7, ev7, h⟩ := zb h
  exact zag_t hA (fr_X9_buysFrom_7 _ _ _ _ _ h)
theorem fr_X9_tie_104 {N : Nat} {res : Int32 × ZM} {y0 : Int32} {y1 : Int32} {σ : ZM} (h : f_X9_tie_104 N y0 y1 σ = some res) : zag [(0, some 1), (1, none)] σ res.2 := by
  unfold f_X9_tie_104 at h
  have hA : zag [(0, some 1), (1, none)] σ σ := zag_r
  obtain ⟨s1, es1, h⟩ := zb h
  replace hA := zag_t hA (zag_w (by decide) (zag_iast es1))
  obtain ⟨s2, es2, h⟩ := zb h
  replace hA := zag_t hA (zag_w (by decide) (zag_putI es2))
  cases h
  exact hA
theorem fr_X9_tie_84 {N : Nat} {res : Int32 × ZM} {x1 : Int32} {x2 : Int32} {x3 : Int32} {y0 : Int32} {y1 : Int32} {σ : ZM} (h : f_X9_tie_84 N x1 x2 x3 y0 y1 σ = some res) : zag [(0, some 1), (1, none)] σ res.2 := by
  unfold f_X9_tie_84 at h
  have hA : zag [(0, some 1), (1, none)] σ σ := zag_r
  obtain ⟨s3, es3, h⟩ := zb h
  replace hA := zag_t hA (zag_w (by decide) (zag_iast es3))
  rcases zi2 h with ⟨hc96, h⟩ | ⟨hc96, h⟩
  · skip
    exact zag_t hA (fr_X9_tie_104 h)
  · skip
    exact zag_t hA (fr_X9_tie_104 h)
theorem fr_X9_tie_53 {N : Nat} {res : Int32 × ZM} {x1 : Int32} {x2 : Int32} {x3 : Int32} {σ : ZM} (h : f_X9_tie_53 N x1 x2 x3 σ = some res) : zag [(0, some 1), (1, none)] σ res.2 := by
  unfold f_X9_tie_53 at h
  have hA : zag [(0, some 1), (1, none)] σ σ := zag_r
  rcases (zi2 h).symm with ⟨hc59, h⟩ | ⟨hc59, h⟩
  · skip
    rcases zi2 h with ⟨hc76, h⟩ | ⟨hc76, h⟩
    · skip
      exact zag_t hA (fr_X9_tie_84 h)
    · skip
      exact zag_t hA (fr_X9_tie_84 h)
  · skip
    cases h
    exact hA
theorem fr_X9_tie {N : Nat} {x1 : Int32} {x2 : Int32} {x3 : Int32} {σ : ZM} {res : Int32 × ZM} (h : f_X9_tie N x1 x2 x3 σ = some res) : zag [(0, some 1), (1, none)] σ res.2 := by
  unfold f_X9_tie at h
  have hA : zag [(0, some 1), (1, none)] σ σ := zag_r
  obtain ⟨r4, s5, es5, h⟩ := zc h
  replace hA := zag_t hA (zag_w (by decide) (fr_X9_isNet es5))
  rcases zi2 h with ⟨hc5, h⟩ | ⟨hc5, h⟩
  · skip
    cases h
    exact hA
  · skip
    obtain ⟨r6, s7, es7, h⟩ := zc h
    replace hA := zag_t hA (zag_w (by decide) (fr_X9_isNet es7))
    rcases (zi2 h).symm with ⟨hc13, h⟩ | ⟨hc13, h⟩
    · skip
      rcases zi2 h with ⟨hc20, h⟩ | ⟨hc20, h⟩
      · skip
        cases h
        exact hA
      · skip
        obtain ⟨v8, ev8, h⟩ := zb h
        rcases (zi2 h).symm with ⟨hc34, h⟩ | ⟨hc34, h⟩
        · skip
          cases h
          exact hA
        · skip
          rcases zi2 h with ⟨hc38, h⟩ | ⟨hc38, h⟩
          · skip
            exact zag_t hA (fr_X9_tie_53 h)
          · skip
            obtain ⟨r9, s10, es10, h⟩ := zc h
            replace hA := zag_t hA (zag_w (by decide) (fr_X9_buysFrom es10))
            rcases zi2 h with ⟨hc47, h⟩ | ⟨hc47, h⟩
            · skip
              exact zag_t hA (fr_X9_tie_53 h)
            · skip
              cases h
              exact hA
    · skip
      cases h
      exact hA
theorem fr_X9_tied {N : Nat} {x1 : Int32} {x2 : Int32} {σ : ZM} {res : Int32 × ZM} (h : f_X9_tied N x1 x2 σ = some res) : zag [] σ res.2 := by
  unfold f_X9_tied at h
  have hA : zag [] σ σ := zag_r
  obtain ⟨r1, s2, es2, h⟩ := zc h
  replace hA := zag_t hA (zag_w (by decide) (fr_X9_isNet es2))
  rcases zi2 h with ⟨hc5, h⟩ | ⟨hc5, h⟩
  · skip
    cases h
    exact hA
  · skip
    obtain ⟨r3, s4, es4, h⟩ := zc h
    replace hA := zag_t hA (zag_w (by decide) (fr_X9_isNet es4))
    rcases zi2 h with ⟨hc13, h⟩ | ⟨hc13, h⟩
    · skip
      cases h
      exact hA
    · skip
      obtain ⟨v5, ev5, h⟩ := zb h
      cases h
      exact hA
theorem fr_X9_askers {N : Nat} {x1 : Int32} {x2 : Int32} {σ : ZM} {res : Int32 × ZM} (h : f_X9_askers N x1 x2 σ = some res) : zag [(2, none)] σ res.2 := by
  unfold f_X9_askers at h
  have hA : zag [(2, none)] σ σ := zag_r
  obtain ⟨r1, s2, es2, h⟩ := zc h
  replace hA := zag_t hA (zag_w (by decide) (fr_X9_isNet es2))
  rcases (zi2 h).symm with ⟨hc5, h⟩ | ⟨hc5, h⟩
  · skip
    obtain ⟨r3, s4, es4, h⟩ := zc h
    replace hA := zag_t hA (zag_w (by decide) (fr_X9_in es4))
    rcases (zi2 h).symm with ⟨hc19, h⟩ | ⟨hc19, h⟩
    · skip
      obtain ⟨v5, ev5, h⟩ := zb h
      obtain ⟨s6, es6, h⟩ := zb h
      replace hA := zag_t hA (zag_w (by decide) (zag_iast es6))
      cases h
      exact hA
    · skip
      cases h
      exact hA
  · skip
    cases h
    exact hA
theorem fr_X9_guess {N : Nat} {x1 : Int32} {x2 : Int32} {σ : ZM} {res : Int32 × ZM} (h : f_X9_guess N x1 x2 σ = some res) : zag [(3, none)] σ res.2 := by
  unfold f_X9_guess at h
  have hA : zag [(3, none)] σ σ := zag_r
  obtain ⟨r1, s2, es2, h⟩ := zc h
  replace hA := zag_t hA (zag_w (by decide) (fr_X9_isNet es2))
  rcases (zi2 h).symm with ⟨hc5, h⟩ | ⟨hc5, h⟩
  · skip
    obtain ⟨r3, s4, es4, h⟩ := zc h
    replace hA := zag_t hA (zag_w (by decide) (fr_X9_in es4))
    rcases (zi2 h).symm with ⟨hc19, h⟩ | ⟨hc19, h⟩
    · skip
      obtain ⟨v5, ev5, h⟩ := zb h
      obtain ⟨s6, es6, h⟩ := zb h
      replace hA := zag_t hA (zag_w (by decide) (zag_iast es6))
      cases h
      exact hA
    · skip
      cases h
      exact hA
  · skip
    cases h
    exact hA
theorem fr_X9_site {N : Nat} {x1 : Int32} {x2 : Int32} {σ : ZM} {res : Int32 × ZM} (h : f_X9_site N x1 x2 σ = some res) : zag [(0, some 5), (4, none), (5, none), (6, none), (7, none), (8, none), (9, none), (11, none)] σ res.2 := by
  unfold f_X9_site at h
  have hA : zag [(0, some 5), (4, none), (5, none), (6, none), (7, none), (8, none), (9, none), (11, none)] σ σ := zag_r
  obtain ⟨r1, s2, es2, h⟩ := zc h
  replace hA := zag_t hA (zag_w (by decide) (fr_X9_isNet es2))
  rcases (zi2 h).symm with ⟨hc5, h⟩ | ⟨hc5, h⟩
  · skip
    obtain ⟨r3, s4, es4, h⟩ := zc h
    replace hA := zag_t hA (zag_w (by decide) (fr_X9_in es4))
    rcases (zi2 h).symm with ⟨hc19, h⟩ | ⟨hc19, h⟩
    · skip
      rcases (zi2 h).symm with ⟨hc30, h⟩ | ⟨hc30, h⟩
      · skip
        obtain ⟨s5, es5, h⟩ := zb h
        replace hA := zag_t hA (zag_w (by decide) (zag_iast es5))
        obtain ⟨s6, es6, h⟩ := zb h
        replace hA := zag_t hA (zag_w (by decide) (zag_iast es6))
        obtain ⟨s7, es7, h⟩ := zb h
        replace hA := zag_t hA (zag_w (by decide) (zag_zast es7))
        obtain ⟨s8, es8, h⟩ := zb h
        replace hA := zag_t hA (zag_w (by decide) (zag_iast es8))
        obtain ⟨s9, es9, h⟩ := zb h
        replace hA := zag_t hA (zag_w (by decide) (zag_iast es9))
        obtain ⟨s10, es10, h⟩ := zb h
        replace hA := zag_t hA (zag_w (by decide) (zag_zast es10))
        obtain ⟨s11, es11, h⟩ := zb h
        replace hA := zag_t hA (zag_w (by decide) (zag_iast es11))
        obtain ⟨s12, es12, h⟩ := zb h
        replace hA := zag_t hA (zag_w (by decide) (zag_putI es12))
        cases h
        exact hA
      · skip
        cases h
        exact hA
    · skip
      cases h
      exact hA
  · skip
    cases h
    exact hA
theorem fr_X9_room {N : Nat} {x1 : Int32} {x2 : Int32} {σ : ZM} {res : Int32 × ZM} (h : f_X9_room N x1 x2 σ = some res) : zag [(5, none)] σ res.2 := by
  unfold f_X9_room at h
  have hA : zag [(5, none)] σ σ := zag_r
  obtain ⟨r1, s2, es2, h⟩ := zc h
  replace hA := zag_t hA (zag_w (by decide) (fr_X9_isSite es2))
  rcases (zi2 h).symm with ⟨hc5, h⟩ | ⟨hc5, h⟩
  · skip
    obtain ⟨r3, s4, es4, h⟩ := zc h
    replace hA := zag_t hA (zag_w (by decide) (fr_X9_in es4))
    rcases (zi2 h).symm with ⟨hc19, h⟩ | ⟨hc19, h⟩
    · skip
      obtain ⟨v5, ev5, h⟩ := zb h
      obtain ⟨s6, es6, h⟩ := zb h
      replace hA := zag_t hA (zag_w (by decide) (zag_iast es6))
      cases h
      exact hA
    · skip
      cases h
      exact hA
  · skip
    cases h
    exact hA
theorem fr_X9_up_24 {N : Nat} {res : Int32 × ZM} {x1 : Int32} {x2 : Int32} {y0 : Int32} {σ : ZM} (h : f_X9_up_24 N x1 x2 y0 σ = some res) : zag [(6, none)] σ res.2 := by
  unfold f_X9_up_24 at h
  have hA : zag [(6, none)] σ σ := zag_r
  obtain ⟨s1, es1, h⟩ := zb h
  replace hA := zag_t hA (zag_w (by decide) (zag_zast es1))
  cases h
  exact hA
theorem fr_X9_up {N : Nat} {x1 : Int32} {x2 : Int32} {σ : ZM} {res : Int32 × ZM} (h : f_X9_up N x1 x2 σ = some res) : zag [(6, none)] σ res.2 := by
  unfold f_X9_up at h
  have hA : zag [(6, none)] σ σ := zag_r
  obtain ⟨r2, s3, es3, h⟩ := zc h
  replace hA := zag_t hA (zag_w (by decide) (fr_X9_isSite es3))
  rcases (zi2 h).symm with ⟨hc5, h⟩ | ⟨hc5, h⟩
  · skip
    obtain ⟨v4, ev4, h⟩ := zb h
    rcases zi2 h with ⟨hc16, h⟩ | ⟨hc16, h⟩
    · skip
      exact zag_t hA (fr_X9_up_24 h)
    · skip
      exact zag_t hA (fr_X9_up_24 h)
  · skip
    cases h
    exact hA
theorem fr_X9_kind {N : Nat} {x1 : Int32} {x2 : Int32} {σ : ZM} {res : Int32 × ZM} (h : f_X9_kind N x1 x2 σ = some res) : zag [(7, none)] σ res.2 := by
  unfold f_X9_kind at h
  have hA : zag [(7, none)] σ σ := zag_r
  obtain ⟨r1, s2, es2, h⟩ := zc h
  replace hA := zag_t hA (zag_w (by decide) (fr_X9_isSite es2))
  rcases (zi2 h).symm with ⟨hc5, h⟩ | ⟨hc5, h⟩
  · skip
    obtain ⟨r3, s4, es4, h⟩ := zc h
    replace hA := zag_t hA (zag_w (by decide) (fr_X9_in es4))
    rcases (zi2 h).symm with ⟨hc19, h⟩ | ⟨hc19, h⟩
    · skip
      obtain ⟨v5, ev5, h⟩ := zb h
      obtain ⟨s6, es6, h⟩ := zb h
      replace hA := zag_t hA (zag_w (by decide) (zag_iast es6))
      cases h
      exact hA
    · skip
      cases h
      exact hA
  · skip
    cases h
    exact hA
theorem fr_X9_held {N : Nat} {x1 : Int32} {x2 : Int32} {σ : ZM} {res : Int32 × ZM} (h : f_X9_held N x1 x2 σ = some res) : zag [(8, none)] σ res.2 := by
  unfold f_X9_held at h
  have hA : zag [(8, none)] σ σ := zag_r
  obtain ⟨r1, s2, es2, h⟩ := zc h
  replace hA := zag_t hA (zag_w (by decide) (fr_X9_isSite es2))
  rcases (zi2 h).symm with ⟨hc5, h⟩ | ⟨hc5, h⟩
  · skip
    obtain ⟨r3, s4, es4, h⟩ := zc h
    replace hA := zag_t hA (zag_w (by decide) (fr_X9_in es4))
    rcases (zi2 h).symm with ⟨hc25, h⟩ | ⟨hc25, h⟩
    · skip
      obtain ⟨v5, ev5, h⟩ := zb h
      obtain ⟨s6, es6, h⟩ := zb h
      replace hA := zag_t hA (zag_w (by decide) (zag_iast es6))
      cases h
      exact hA
    · skip
      cases h
      exact hA
  · skip
    cases h
    exact hA
theorem fr_X9_near_24 {N : Nat} {res : Int32 × ZM} {x1 : Int32} {x2 : Int32} {y0 : Int32} {σ : ZM} (h : f_X9_near_24 N x1 x2 y0 σ = some res) : zag [(9, none)] σ res.2 := by
  unfold f_X9_near_24 at h
  have hA : zag [(9, none)] σ σ := zag_r
  obtain ⟨s1, es1, h⟩ := zb h
  replace hA := zag_t hA (zag_w (by decide) (zag_zast es1))
  cases h
  exact hA
theorem fr_X9_near {N : Nat} {x1 : Int32} {x2 : Int32} {σ : ZM} {res : Int32 × ZM} (h : f_X9_near N x1 x2 σ = some res) : zag [(9, none)] σ res.2 := by
  unfold f_X9_near at h
  have hA : zag [(9, none)] σ σ := zag_r
  obtain ⟨r2, s3, es3, h⟩ := zc h
  replace hA := zag_t hA (zag_w (by decide) (fr_X9_isSite es3))
  rcases (zi2 h).symm with ⟨hc5, h⟩ | ⟨hc5, h⟩
  · skip
    obtain ⟨v4, ev4, h⟩ := zb h
    rcases zi2 h with ⟨hc16, h⟩ | ⟨hc16, h⟩
    · skip
      exact zag_t hA (fr_X9_near_24 h)
    · skip
      exact zag_t hA (fr_X9_near_24 h)
  · skip
    cases h
    exact hA
theorem fr_X9_late {N : Nat} {x1 : Int32} {x2 : Int32} {x3 : Int32} {σ : ZM} {res : Int32 × ZM} (h : f_X9_late N x1 x2 x3 σ = some res) : zag [(10, none)] σ res.2 := by
  unfold f_X9_late at h
  have hA : zag [(10, none)] σ σ := zag_r
  obtain ⟨r1, s2, es2, h⟩ := zc h
  replace hA := zag_t hA (zag_w (by decide) (fr_X9_isNet es2))
  rcases zi2 h with ⟨hc5, h⟩ | ⟨hc5, h⟩
  · skip
    cases h
    exact hA
  · skip
    obtain ⟨r3, s4, es4, h⟩ := zc h
    replace hA := zag_t hA (zag_w (by decide) (fr_X9_isSite es4))
    rcases (zi2 h).symm with ⟨hc13, h⟩ | ⟨hc13, h⟩
    · skip
      obtain ⟨r5, s6, es6, h⟩ := zc h
      replace hA := zag_t hA (zag_w (by decide) (fr_X9_in es6))
      rcases (zi2 h).symm with ⟨hc27, h⟩ | ⟨hc27, h⟩
      · skip
        obtain ⟨v7, ev7, h⟩ := zb h
        obtain ⟨s8, es8, h⟩ := zb h
        replace hA := zag_t hA (zag_w (by decide) (zag_iast es8))
        cases h
        exact hA
      · skip
        cases h
        exact hA
    · skip
      cases h
      exact hA
theorem fr_b_X9_least_2 {N : Nat} {rec2 : Int32 → Int32 → ZM → Option (Int32 × ZM)} {res : Int32 × ZM} (hr2 : ∀ (x0 : Int32) (x1 : Int32) (σ : ZM), rec2 x0 x1 σ = some res → zag [] σ res.2) {x0 : Int32} {x1 : Int32} {σ : ZM} (h : b_X9_least_2 N rec2 x0 x1 σ = some res) : zag [] σ res.2 := by
  unfold b_X9_least_2 at h
  have hA : zag [] σ σ := zag_r
  rcases (zi2 h).symm with ⟨hc7, h⟩ | ⟨hc7, h⟩
  · skip
    cases h
    exact hA
  · skip
    obtain ⟨v1, ev1, h⟩ := zb h
    exact zag_t hA (hr2 _ _ _ h)
theorem fr_X9_least_2 {N : Nat} {res : Int32 × ZM} : ∀ (n : Nat) (x0 : Int32) (x1 : Int32) (σ : ZM), f_X9_least_2 N n x0 x1 σ = some res → zag [] σ res.2 := by
  intro n
  induction n with
  | zero => intro x0 x1 σ h; exact absurd h (by simp [f_X9_least_2])
  | succ n ih => intro x0 x1 σ h; rw [f_X9_least_2] at h; exact fr_b_X9_least_2 ih h
theorem fr_X9_least {N : Nat} {x0 : Int32} {σ : ZM} {res : Int32 × ZM} (h : f_X9_least N x0 σ = some res) : zag [] σ res.2 := by
  unfold f_X9_least at h
  have hA : zag [] σ σ := zag_r
  exact zag_t hA (fr_X9_least_2 _ _ _ _ h)
theorem fr_b_X9_askNow_71 {N : Nat} {rec71 : Int32 → ZM → Option (Unit × ZM)} {res : Unit × ZM} (hr71 : ∀ (x1 : Int32) (σ : ZM), rec71 x1 σ = some res → zag [(0, some 14), (12, none), (13, none), (14, none), (15, none), (16, none)] σ res.2) {x1 : Int32} {σ : ZM} (h : b_X9_askNow_71 N rec71 x1 σ = some res) : zag [(0, some 14), (12, none), (13, none), (14, none), (15, none), (16, none)] σ res.2 := by
  unfold b_X9_askNow_71 at h
  have hA : zag [(0, some 14), (12, none), (13, none), (14, none), (15, none), (16, none)] σ σ := zag_r
  rcases zi2 h with ⟨hc76, h⟩ | ⟨hc76, h⟩
  · skip
    cases h
    exact hA
  · skip
    obtain ⟨v1, ev1, h⟩ := zb h
    obtain ⟨r2, s3, es3, h⟩ := zc h
    replace hA := zag_t hA (zag_w (by decide) (fr_X9_least es3))
    obtain ⟨s4, es4, h⟩ := zb h
    replace hA := zag_t hA (zag_w (by decide) (zag_iast es4))
    obtain ⟨v5, ev5, h⟩ := zb h
    exact zag_t hA (hr71 _ _ h)
theorem fr_X9_askNow_71 {N : Nat} {res : Unit × ZM} : ∀ (n : Nat) (x1 : Int32) (σ : ZM), f_X9_askNow_71 N n x1 σ = some res → zag [(0, some 14), (12, none), (13, none), (14, none), (15, none), (16, none)] σ res.2 := by
  intro n
  induction n with
  | zero => intro x1 σ h; exact absurd h (by simp [f_X9_askNow_71])
  | succ n ih => intro x1 σ h; rw [f_X9_askNow_71] at h; exact fr_b_X9_askNow_71 ih h
theorem fr_b_X9_askNow_10 {N : Nat} {rec10 : Int32 → ZM → Option (Unit × ZM)} {res : Unit × ZM} (hr10 : ∀ (x1 : Int32) (σ : ZM), rec10 x1 σ = some res → zag [(0, some 14), (12, none), (13, none), (14, none), (15, none), (16, none)] σ res.2) {x1 : Int32} {σ : ZM} (h : b_X9_askNow_10 N rec10 x1 σ = some res) : zag [(0, some 14), (12, none), (13, none), (14, none), (15, none), (16, none)] σ res.2 := by
  unfold b_X9_askNow_10 at h
  have hA : zag [(0, some 14), (12, none), (13, none), (14, none), (15, none), (16, none)] σ σ := zag_r
  rcases zi2 h with ⟨hc12, h⟩ | ⟨hc12, h⟩
  · skip
    exact zag_t hA (fr_X9_askNow_71 _ _ _ h)
  · skip
    obtain ⟨v6, ev6, h⟩ := zb h
    obtain ⟨s7, es7, h⟩ := zb h
    replace hA := zag_t hA (zag_w (by decide) (zag_iast es7))
    obtain ⟨v8, ev8, h⟩ := zb h
    obtain ⟨s9, es9, h⟩ := zb h
    replace hA := zag_t hA (zag_w (by decide) (zag_iast es9))
    obtain ⟨v10, ev10, h⟩ := zb h
    obtain ⟨s11, es11, h⟩ := zb h
    replace hA := zag_t hA (zag_w (by decide) (zag_zast es11))
    obtain ⟨v12, ev12, h⟩ := zb h
    obtain ⟨s13, es13, h⟩ := zb h
    replace hA := zag_t hA (zag_w (by decide) (zag_zast es13))
    obtain ⟨v14, ev14, h⟩ := zb h
    exact zag_t hA (hr10 _ _ h)
theorem fr_X9_askNow_10 {N : Nat} {res : Unit × ZM} : ∀ (n : Nat) (x1 : Int32) (σ : ZM), f_X9_askNow_10 N n x1 σ = some res → zag [(0, some 14), (12, none), (13, none), (14, none), (15, none), (16, none)] σ res.2 := by
  intro n
  induction n with
  | zero => intro x1 σ h; exact absurd h (by simp [f_X9_askNow_10])
  | succ n ih => intro x1 σ h; rw [f_X9_askNow_10] at h; exact fr_b_X9_askNow_10 ih h
theorem fr_X9_askNow {N : Nat} {σ : ZM} {res : Unit × ZM} (h : f_X9_askNow N σ = some res) : zag [(0, some 14), (12, none), (13, none), (14, none), (15, none), (16, none)] σ res.2 := by
  unfold f_X9_askNow at h
  have hA : zag [(0, some 14), (12, none), (13, none), (14, none), (15, none), (16, none)] σ σ := zag_r
  obtain ⟨s15, es15, h⟩ := zb h
  replace hA := zag_t hA (zag_w (by decide) (zag_putI es15))
  exact zag_t hA (fr_X9_askNow_10 _ _ _ h)
theorem fr_X9_speaks {N : Nat} {x1 : Int32} {x2 : Int32} {σ : ZM} {res : Int32 × ZM} (h : f_X9_speaks N x1 x2 σ = some res) : zag [] σ res.2 := by
  unfold f_X9_speaks at h
  have hA : zag [] σ σ := zag_r
  rcases zi2 h with ⟨hc5, h⟩ | ⟨hc5, h⟩
  · skip
    cases h
    exact hA
  · skip
    obtain ⟨v1, ev1, h⟩ := zb h
    rcases (zi2 h).symm with ⟨hc15, h⟩ | ⟨hc15, h⟩
    · skip
      cases h
      exact hA
    · skip
      obtain ⟨v2, ev2, h⟩ := zb h
      rcases zi2 h with ⟨hc24, h⟩ | ⟨hc24, h⟩
      · skip
        cases h
        exact hA
      · skip
        obtain ⟨v3, ev3, h⟩ := zb h
        rcases zi2 h with ⟨hc34, h⟩ | ⟨hc34, h⟩
        · skip
          cases h
          exact hA
        · skip
          cases h
          exact hA
theorem fr_X9_passes_151 {N : Nat} {res : Int32 × ZM} {σ : ZM} (h : f_X9_passes_151 N σ = some res) : zag [] σ res.2 := by
  unfold f_X9_passes_151 at h
  have hA : zag [] σ σ := zag_r
  cases h
  exact hA
theorem fr_X9_passes_97 {N : Nat} {res : Int32 × ZM} {x1 : Int32} {x2 : Int32} {x3 : Int32} {y0 : Int32} {σ : ZM} (h : f_X9_passes_97 N x1 x2 x3 y0 σ = some res) : zag [] σ res.2 := by
  unfold f_X9_passes_97 at h
  have hA : zag [] σ σ := zag_r
  obtain ⟨v1, ev1, h⟩ := zb h
  rcases zi2 h with ⟨hc105, h⟩ | ⟨hc105, h⟩
  · skip
    rcases (zi2 h).symm with ⟨hc113, h⟩ | ⟨hc113, h⟩
    · skip
      exact zag_t hA (fr_X9_passes_151 h)
    · skip
      obtain ⟨v2, ev2, h⟩ := zb h
      obtain ⟨v3, ev3, h⟩ := zb h
      rcases zi2 h with ⟨hc133, h⟩ | ⟨hc133, h⟩
      · skip
        exact zag_t hA (fr_X9_passes_151 h)
      · skip
        obtain ⟨v4, ev4, h⟩ := zb h
        rcases (zi2 h).symm with ⟨hc148, h⟩ | ⟨hc148, h⟩
        · skip
          cases h
          exact hA
        · skip
          exact zag_t hA (fr_X9_passes_151 h)
  · skip
    obtain ⟨hz, rfl⟩ := zrz_ok h
    exact hA
theorem fr_b_X9_passes_46 {N : Nat} {rec46 : Int32 → Int32 → Int32 → Int32 → ZM → Option (Int32 × ZM)} {res : Int32 × ZM} (hr46 : ∀ (x1 : Int32) (x2 : Int32) (x3 : Int32) (x4 : Int32) (σ : ZM), rec46 x1 x2 x3 x4 σ = some res → zag [] σ res.2) {x1 : Int32} {x2 : Int32} {x3 : Int32} {x4 : Int32} {σ : ZM} (h : b_X9_passes_46 N rec46 x1 x2 x3 x4 σ = some res) : zag [] σ res.2 := by
  unfold b_X9_passes_46 at h
  have hA : zag [] σ σ := zag_r
  obtain ⟨v5, ev5, h⟩ := zb h
  rcases zi2 h with ⟨hc54, h⟩ | ⟨hc54, h⟩
  · skip
    obtain ⟨v6, ev6, h⟩ := zb h
    rcases zi2 h with ⟨hc89, h⟩ | ⟨hc89, h⟩
    · skip
      exact zag_t hA (fr_X9_passes_97 h)
    · skip
      exact zag_t hA (fr_X9_passes_97 h)
  · skip
    obtain ⟨v7, ev7, h⟩ := zb h
    rcases (zi2 h).symm with ⟨hc70, h⟩ | ⟨hc70, h⟩
    · skip
      obtain ⟨v8, ev8, h⟩ := zb h
      exact zag_t hA (hr46 _ _ _ _ _ h)
    · skip
      cases h
      exact hA
theorem fr_X9_passes_46 {N : Nat} {res : Int32 × ZM} : ∀ (n : Nat) (x1 : Int32) (x2 : Int32) (x3 : Int32) (x4 : Int32) (σ : ZM), f_X9_passes_46 N n x1 x2 x3 x4 σ = some res → zag [] σ res.2 := by
  intro n
  induction n with
  | zero => intro x1 x2 x3 x4 σ h; exact absurd h (by simp [f_X9_passes_46])
  | succ n ih => intro x1 x2 x3 x4 σ h; rw [f_X9_passes_46] at h; exact fr_b_X9_passes_46 ih h
theorem fr_X9_passes {N : Nat} {x1 : Int32} {x2 : Int32} {σ : ZM} {res : Int32 × ZM} (h : f_X9_passes N x1 x2 σ = some res) : zag [] σ res.2 := by
  unfold f_X9_passes at h
  have hA : zag [] σ σ := zag_r
  obtain ⟨v9, ev9, h⟩ := zb h
  obtain ⟨v10, ev10, h⟩ := zb h
  rcases zi2 h with ⟨hc18, h⟩ | ⟨hc18, h⟩
  · skip
    cases h
    exact hA
  · skip
    rcases zi2 h with ⟨hc24, h⟩ | ⟨hc24, h⟩
    · skip
      cases h
      exact hA
    · skip
      obtain ⟨v11, ev11, h⟩ := zb h
      rcases (zi2 h).symm with ⟨hc38, h⟩ | ⟨hc38, h⟩
      · skip
        exact zag_t hA (fr_X9_passes_46 _ _ _ _ _ _ h)
      · skip
        cases h
        exact hA
theorem fr_X9_worth_38 {N : Nat} {res : Int32 × ZM} {σ : ZM} (h : f_X9_worth_38 N σ = some res) : zag [] σ res.2 := by
  unfold f_X9_worth_38 at h
  have hA : zag [] σ σ := zag_r
  cases h
  exact hA
theorem fr_X9_worth_11 {N : Nat} {res : Int32 × ZM} {x1 : Int32} {x2 : Int32} {x3 : Int32} {y0 : Int32} {σ : ZM} (h : f_X9_worth_11 N x1 x2 x3 y0 σ = some res) : zag [] σ res.2 := by
  unfold f_X9_worth_11 at h
  have hA : zag [] σ σ := zag_r
  rcases (zi2 h).symm with ⟨hc15, h⟩ | ⟨hc15, h⟩
  · skip
    rcases (zi2 h).symm with ⟨hc65, h⟩ | ⟨hc65, h⟩
    · skip
      rcases zi2 h with ⟨hc98, h⟩ | ⟨hc98, h⟩
      · skip
        obtain ⟨v1, ev1, h⟩ := zb h
        rcases (zi2 h).symm with ⟨hc115, h⟩ | ⟨hc115, h⟩
        · skip
          cases h
          exact hA
        · skip
          cases h
          exact hA
      · skip
        cases h
        exact hA
    · skip
      rcases zi2 h with ⟨hc70, h⟩ | ⟨hc70, h⟩
      · skip
        obtain ⟨v2, ev2, h⟩ := zb h
        cases h
        exact hA
      · skip
        obtain ⟨v3, ev3, h⟩ := zb h
        cases h
        exact hA
  · skip
    rcases (zi2 h).symm with ⟨hc20, h⟩ | ⟨hc20, h⟩
    · skip
      exact zag_t hA (fr_X9_worth_38 h)
    · skip
      obtain ⟨v4, ev4, h⟩ := zb h
      rcases (zi2 h).symm with ⟨hc35, h⟩ | ⟨hc35, h⟩
      · skip
        obtain ⟨v5, ev5, h⟩ := zb h
        rcases (zi2 h).symm with ⟨hc54, h⟩ | ⟨hc54, h⟩
        · skip
          cases h
          exact hA
        · skip
          cases h
          exact hA
      · skip
        exact zag_t hA (fr_X9_worth_38 h)
theorem fr_X9_worth {N : Nat} {x1 : Int32} {x2 : Int32} {x3 : Int32} {σ : ZM} {res : Int32 × ZM} (h : f_X9_worth N x1 x2 x3 σ = some res) : zag [] σ res.2 := by
  unfold f_X9_worth at h
  have hA : zag [] σ σ := zag_r
  rcases zi2 h with ⟨hc3, h⟩ | ⟨hc3, h⟩
  · skip
    exact zag_t hA (fr_X9_worth_11 h)
  · skip
    exact zag_t hA (fr_X9_worth_11 h)
theorem fr_X9_thing {N : Nat} {x0 : Int32} {x1 : Int32} {σ : ZM} {res : Int32 × ZM} (h : f_X9_thing N x0 x1 σ = some res) : zag [] σ res.2 := by
  unfold f_X9_thing at h
  have hA : zag [] σ σ := zag_r
  by_cases hc1_2 : x0 = (2 : Int32)
  · replace h := (zi h).1 hc1_2
    rcases (zi2 h).symm with ⟨hc29, h⟩ | ⟨hc29, h⟩
    · skip
      rcases (zi2 h).symm with ⟨hc38, h⟩ | ⟨hc38, h⟩
      · skip
        cases h
        exact hA
      · skip
        cases h
        exact hA
    · skip
      cases h
      exact hA
  replace h := (zi h).2 hc1_2
  by_cases hc1_3 : x0 = (3 : Int32)
  · replace h := (zi h).1 hc1_3
    rcases (zi2 h).symm with ⟨hc48, h⟩ | ⟨hc48, h⟩
    · skip
      rcases (zi2 h).symm with ⟨hc57, h⟩ | ⟨hc57, h⟩
      · skip
        cases h
        exact hA
      · skip
        cases h
        exact hA
    · skip
      cases h
      exact hA
  replace h := (zi h).2 hc1_3
  cases h
  exact hA
theorem fr_b_X9_isAhead_3 {N : Nat} {rec3 : Int32 → Int32 → Int32 → Int32 → ZM → Option (Int32 × ZM)} {res : Int32 × ZM} (hr3 : ∀ (x1 : Int32) (x2 : Int32) (x3 : Int32) (x4 : Int32) (σ : ZM), rec3 x1 x2 x3 x4 σ = some res → zag [] σ res.2) {x1 : Int32} {x2 : Int32} {x3 : Int32} {x4 : Int32} {σ : ZM} (h : b_X9_isAhead_3 N rec3 x1 x2 x3 x4 σ = some res) : zag [] σ res.2 := by
  unfold b_X9_isAhead_3 at h
  have hA : zag [] σ σ := zag_r
  rcases zi2 h with ⟨hc6, h⟩ | ⟨hc6, h⟩
  · skip
    cases h
    exact hA
  · skip
    obtain ⟨v1, ev1, h⟩ := zb h
    obtain ⟨r2, s3, es3, h⟩ := zc h
    replace hA := zag_t hA (zag_w (by decide) (fr_X9_thing es3))
    obtain ⟨r4, s5, es5, h⟩ := zc h
    replace hA := zag_t hA (zag_w (by decide) (fr_X9_worth es5))
    obtain ⟨r6, s7, es7, h⟩ := zc h
    replace hA := zag_t hA (zag_w (by decide) (fr_X9_worth es7))
    obtain ⟨v8, ev8, h⟩ := zb h
    rcases zi2 h with ⟨hc43, h⟩ | ⟨hc43, h⟩
    · skip
      obtain ⟨v9, ev9, h⟩ := zb h
      exact zag_t hA (hr3 _ _ _ _ _ h)
    · skip
      rcases zi2 h with ⟨hc48, h⟩ | ⟨hc48, h⟩
      · skip
        cases h
        exact hA
      · skip
        cases h
        exact hA
theorem fr_X9_isAhead_3 {N : Nat} {res : Int32 × ZM} : ∀ (n : Nat) (x1 : Int32) (x2 : Int32) (x3 : Int32) (x4 : Int32) (σ : ZM), f_X9_isAhead_3 N n x1 x2 x3 x4 σ = some res → zag [] σ res.2 := by
  intro n
  induction n with
  | zero => intro x1 x2 x3 x4 σ h; exact absurd h (by simp [f_X9_isAhead_3])
  | succ n ih => intro x1 x2 x3 x4 σ h; rw [f_X9_isAhead_3] at h; exact fr_b_X9_isAhead_3 ih h
theorem fr_X9_isAhead {N : Nat} {x1 : Int32} {x2 : Int32} {x3 : Int32} {σ : ZM} {res : Int32 × ZM} (h : f_X9_isAhead N x1 x2 x3 σ = some res) : zag [] σ res.2 := by
  unfold f_X9_isAhead at h
  have hA : zag [] σ σ := zag_r
  exact zag_t hA (fr_X9_isAhead_3 _ _ _ _ _ _ h)
theorem fr_X9_choice_99 {N : Nat} {rec55 : Int32 → Int32 → Int32 → ZM → Option (Int32 × ZM)} {res : Int32 × ZM} (hr55 : ∀ (x1 : Int32) (x2 : Int32) (x3 : Int32) (σ : ZM), rec55 x1 x2 x3 σ = some res → zag [] σ res.2) {x1 : Int32} {x2 : Int32} {x3 : Int32} {σ : ZM} (h : f_X9_choice_99 N rec55 x1 x2 x3 σ = some res) : zag [] σ res.2 := by
  unfold f_X9_choice_99 at h
  have hA : zag [] σ σ := zag_r
  obtain ⟨v1, ev1, h⟩ := zb h
  exact zag_t hA (hr55 _ _ _ _ h)
theorem fr_X9_choice_98 {N : Nat} {rec55 : Int32 → Int32 → Int32 → ZM → Option (Int32 × ZM)} {res : Int32 × ZM} (hr55 : ∀ (x1 : Int32) (x2 : Int32) (x3 : Int32) (σ : ZM), rec55 x1 x2 x3 σ = some res → zag [] σ res.2) {x1 : Int32} {x3 : Int32} {y0 : Int32} {σ : ZM} (h : f_X9_choice_98 N rec55 x1 x3 y0 σ = some res) : zag [] σ res.2 := by
  unfold f_X9_choice_98 at h
  have hA : zag [] σ σ := zag_r
  exact zag_t hA (fr_X9_choice_99 hr55 h)
theorem fr_X9_choice_93 {N : Nat} {rec55 : Int32 → Int32 → Int32 → ZM → Option (Int32 × ZM)} {res : Int32 × ZM} (hr55 : ∀ (x1 : Int32) (x2 : Int32) (x3 : Int32) (σ : ZM), rec55 x1 x2 x3 σ = some res → zag [] σ res.2) {x1 : Int32} {x3 : Int32} {σ : ZM} (h : f_X9_choice_93 N rec55 x1 x3 σ = some res) : zag [] σ res.2 := by
  unfold f_X9_choice_93 at h
  have hA : zag [] σ σ := zag_r
  exact zag_t hA (fr_X9_choice_98 hr55 h)
theorem fr_b_X9_choice_55 {N : Nat} {rec55 : Int32 → Int32 → Int32 → ZM → Option (Int32 × ZM)} {res : Int32 × ZM} (hr55 : ∀ (x1 : Int32) (x2 : Int32) (x3 : Int32) (σ : ZM), rec55 x1 x2 x3 σ = some res → zag [] σ res.2) {x1 : Int32} {x2 : Int32} {x3 : Int32} {σ : ZM} (h : b_X9_choice_55 N rec55 x1 x2 x3 σ = some res) : zag [] σ res.2 := by
  unfold b_X9_choice_55 at h
  have hA : zag [] σ σ := zag_r
  rcases zi2 h with ⟨hc60, h⟩ | ⟨hc60, h⟩
  · skip
    cases h
    exact hA
  · skip
    rcases zi2 h with ⟨hc65, h⟩ | ⟨hc65, h⟩
    · skip
      exact zag_t hA (fr_X9_choice_99 hr55 h)
    · skip
      obtain ⟨r2, s3, es3, h⟩ := zc h
      replace hA := zag_t hA (zag_w (by decide) (fr_X9_passes es3))
      rcases zi2 h with ⟨hc74, h⟩ | ⟨hc74, h⟩
      · skip
        exact zag_t hA (fr_X9_choice_99 hr55 h)
      · skip
        rcases zi2 h with ⟨hc80, h⟩ | ⟨hc80, h⟩
        · skip
          exact zag_t hA (fr_X9_choice_93 hr55 h)
        · skip
          obtain ⟨r4, s5, es5, h⟩ := zc h
          replace hA := zag_t hA (zag_w (by decide) (fr_X9_isAhead es5))
          rcases zi2 h with ⟨hc90, h⟩ | ⟨hc90, h⟩
          · skip
            exact zag_t hA (fr_X9_choice_98 hr55 h)
          · skip
            exact zag_t hA (fr_X9_choice_93 hr55 h)
theorem fr_X9_choice_55 {N : Nat} {res : Int32 × ZM} : ∀ (n : Nat) (x1 : Int32) (x2 : Int32) (x3 : Int32) (σ : ZM), f_X9_choice_55 N n x1 x2 x3 σ = some res → zag [] σ res.2 := by
  intro n
  induction n with
  | zero => intro x1 x2 x3 σ h; exact absurd h (by simp [f_X9_choice_55])
  | succ n ih => intro x1 x2 x3 σ h; rw [f_X9_choice_55] at h; exact fr_b_X9_choice_55 ih h
theorem fr_X9_choice_47 {N : Nat} {rec5 : Int32 → Int32 → Int32 → ZM → Option (Int32 × ZM)} {res : Int32 × ZM} (hr5 : ∀ (x1 : Int32) (x2 : Int32) (x3 : Int32) (σ : ZM), rec5 x1 x2 x3 σ = some res → zag [] σ res.2) {x1 : Int32} {x2 : Int32} {x3 : Int32} {σ : ZM} (h : f_X9_choice_47 N rec5 x1 x2 x3 σ = some res) : zag [] σ res.2 := by
  unfold f_X9_choice_47 at h
  have hA : zag [] σ σ := zag_r
  obtain ⟨v6, ev6, h⟩ := zb h
  exact zag_t hA (hr5 _ _ _ _ h)
theorem fr_X9_choice_46 {N : Nat} {rec5 : Int32 → Int32 → Int32 → ZM → Option (Int32 × ZM)} {res : Int32 × ZM} (hr5 : ∀ (x1 : Int32) (x2 : Int32) (x3 : Int32) (σ : ZM), rec5 x1 x2 x3 σ = some res → zag [] σ res.2) {x1 : Int32} {x3 : Int32} {y0 : Int32} {σ : ZM} (h : f_X9_choice_46 N rec5 x1 x3 y0 σ = some res) : zag [] σ res.2 := by
  unfold f_X9_choice_46 at h
  have hA : zag [] σ σ := zag_r
  exact zag_t hA (fr_X9_choice_47 hr5 h)
theorem fr_X9_choice_38 {N : Nat} {rec5 : Int32 → Int32 → Int32 → ZM → Option (Int32 × ZM)} {res : Int32 × ZM} (hr5 : ∀ (x1 : Int32) (x2 : Int32) (x3 : Int32) (σ : ZM), rec5 x1 x2 x3 σ = some res → zag [] σ res.2) {x1 : Int32} {x3 : Int32} {σ : ZM} (h : f_X9_choice_38 N rec5 x1 x3 σ = some res) : zag [] σ res.2 := by
  unfold f_X9_choice_38 at h
  have hA : zag [] σ σ := zag_r
  exact zag_t hA (fr_X9_choice_46 hr5 h)
theorem fr_b_X9_choice_5 {N : Nat} {rec5 : Int32 → Int32 → Int32 → ZM → Option (Int32 × ZM)} {res : Int32 × ZM} (hr5 : ∀ (x1 : Int32) (x2 : Int32) (x3 : Int32) (σ : ZM), rec5 x1 x2 x3 σ = some res → zag [] σ res.2) {x1 : Int32} {x2 : Int32} {x3 : Int32} {σ : ZM} (h : b_X9_choice_5 N rec5 x1 x2 x3 σ = some res) : zag [] σ res.2 := by
  unfold b_X9_choice_5 at h
  have hA : zag [] σ σ := zag_r
  rcases zi2 h with ⟨hc7, h⟩ | ⟨hc7, h⟩
  · skip
    exact zag_t hA (fr_X9_choice_55 _ _ _ _ _ h)
  · skip
    obtain ⟨r7, s8, es8, h⟩ := zc h
    replace hA := zag_t hA (zag_w (by decide) (fr_X9_speaks es8))
    rcases zi2 h with ⟨hc16, h⟩ | ⟨hc16, h⟩
    · skip
      exact zag_t hA (fr_X9_choice_47 hr5 h)
    · skip
      rcases zi2 h with ⟨hc22, h⟩ | ⟨hc22, h⟩
      · skip
        exact zag_t hA (fr_X9_choice_38 hr5 h)
      · skip
        obtain ⟨r9, s10, es10, h⟩ := zc h
        replace hA := zag_t hA (zag_w (by decide) (fr_X9_isAhead es10))
        rcases zi2 h with ⟨hc35, h⟩ | ⟨hc35, h⟩
        · skip
          exact zag_t hA (fr_X9_choice_46 hr5 h)
        · skip
          exact zag_t hA (fr_X9_choice_38 hr5 h)
theorem fr_X9_choice_5 {N : Nat} {res : Int32 × ZM} : ∀ (n : Nat) (x1 : Int32) (x2 : Int32) (x3 : Int32) (σ : ZM), f_X9_choice_5 N n x1 x2 x3 σ = some res → zag [] σ res.2 := by
  intro n
  induction n with
  | zero => intro x1 x2 x3 σ h; exact absurd h (by simp [f_X9_choice_5])
  | succ n ih => intro x1 x2 x3 σ h; rw [f_X9_choice_5] at h; exact fr_b_X9_choice_5 ih h
theorem fr_X9_choice {N : Nat} {x1 : Int32} {σ : ZM} {res : Int32 × ZM} (h : f_X9_choice N x1 σ = some res) : zag [] σ res.2 := by
  unfold f_X9_choice at h
  have hA : zag [] σ σ := zag_r
  exact zag_t hA (fr_X9_choice_5 _ _ _ _ _ h)
theorem fr_b_X9_layNext_105 {N : Nat} {rec105 : Int32 → Int32 → Int32 → ZM → Option (Unit × ZM)} {res : Unit × ZM} (hr105 : ∀ (x1 : Int32) (x2 : Int32) (x3 : Int32) (σ : ZM), rec105 x1 x2 x3 σ = some res → zag [(22, none), (23, none), (24, none), (25, none), (26, none)] σ res.2) {x1 : Int32} {x2 : Int32} {x3 : Int32} {σ : ZM} (h : b_X9_layNext_105 N rec105 x1 x2 x3 σ = some res) : zag [(22, none), (23, none), (24, none), (25, none), (26, none)] σ res.2 := by
  unfold b_X9_layNext_105 at h
  have hA : zag [(22, none), (23, none), (24, none), (25, none), (26, none)] σ σ := zag_r
  obtain ⟨v1, ev1, h⟩ := zb h
  rcases zi2 h with ⟨hc112, h⟩ | ⟨hc112, h⟩
  · skip
    obtain ⟨v2, ev2, h⟩ := zb h
    obtain ⟨s3, es3, h⟩ := zb h
    replace hA := zag_t hA (zag_w (by decide) (zag_iast es3))
    cases h
    exact hA
  · skip
    obtain ⟨v4, ev4, h⟩ := zb h
    obtain ⟨s5, es5, h⟩ := zb h
    replace hA := zag_t hA (zag_w (by decide) (zag_iast es5))
    obtain ⟨v6, ev6, h⟩ := zb h
    exact zag_t hA (hr105 _ _ _ _ h)
theorem fr_X9_layNext_105 {N : Nat} {res : Unit × ZM} : ∀ (n : Nat) (x1 : Int32) (x2 : Int32) (x3 : Int32) (σ : ZM), f_X9_layNext_105 N n x1 x2 x3 σ = some res → zag [(22, none), (23, none), (24, none), (25, none), (26, none)] σ res.2 := by
  intro n
  induction n with
  | zero => intro x1 x2 x3 σ h; exact absurd h (by simp [f_X9_layNext_105])
  | succ n ih => intro x1 x2 x3 σ h; rw [f_X9_layNext_105] at h; exact fr_b_X9_layNext_105 ih h
theorem fr_X9_layNext {N : Nat} {x1 : Int32} {σ : ZM} {res : Unit × ZM} (h : f_X9_layNext N x1 σ = some res) : zag [(22, none), (23, none), (24, none), (25, none), (26, none)] σ res.2 := by
  unfold f_X9_layNext at h
  have hA : zag [(22, none), (23, none), (24, none), (25, none), (26, none)] σ σ := zag_r
  obtain ⟨r7, s8, es8, h⟩ := zc h
  replace hA := zag_t hA (zag_w (by decide) (fr_X9_choice es8))
  obtain ⟨s9, es9, h⟩ := zb h
  replace hA := zag_t hA (zag_w (by decide) (zag_iast es9))
  obtain ⟨s10, es10, h⟩ := zb h
  replace hA := zag_t hA (zag_w (by decide) (zag_iast es10))
  obtain ⟨s11, es11, h⟩ := zb h
  replace hA := zag_t hA (zag_w (by decide) (zag_iast es11))
  obtain ⟨s12, es12, h⟩ := zb h
  replace hA := zag_t hA (zag_w (by decide) (zag_iast es12))
  rcases (zi2 h).symm with ⟨hc38, h⟩ | ⟨hc38, h⟩
  · skip
    obtain ⟨s13, es13, h⟩ := zb h
    replace hA := zag_t hA (zag_w (by decide) (zag_iast es13))
    obtain ⟨s14, es14, h⟩ := zb h
    replace hA := zag_t hA (zag_w (by decide) (zag_iast es14))
    obtain ⟨r15, s16, es16, h⟩ := zc h
    replace hA := zag_t hA (zag_w (by decide) (fr_X9_worth es16))
    obtain ⟨s17, es17, h⟩ := zb h
    replace hA := zag_t hA (zag_w (by decide) (zag_iast es17))
    rcases zi2 h with ⟨hc75, h⟩ | ⟨hc75, h⟩
    · skip
      obtain ⟨v18, ev18, h⟩ := zb h
      obtain ⟨s19, es19, h⟩ := zb h
      replace hA := zag_t hA (zag_w (by decide) (zag_iast es19))
      exact zag_t hA (fr_X9_layNext_105 _ _ _ _ _ h)
    · skip
      obtain ⟨s20, es20, h⟩ := zb h
      replace hA := zag_t hA (zag_w (by decide) (zag_iast es20))
      cases h
      exact hA
  · skip
    cases h
    exact hA
theorem fr_X9_takeNext_97 {N : Nat} {rec53 : Int32 → Int32 → Int32 → ZM → Option (Int32 × ZM)} {res : Int32 × ZM} (hr53 : ∀ (x1 : Int32) (x2 : Int32) (x3 : Int32) (σ : ZM), rec53 x1 x2 x3 σ = some res → zag [(17, none), (18, none), (19, none), (20, none), (21, none)] σ res.2) {x1 : Int32} {x3 : Int32} {y0 : Int32} {σ : ZM} (h : f_X9_takeNext_97 N rec53 x1 x3 y0 σ = some res) : zag [(17, none), (18, none), (19, none), (20, none), (21, none)] σ res.2 := by
  unfold f_X9_takeNext_97 at h
  have hA : zag [(17, none), (18, none), (19, none), (20, none), (21, none)] σ σ := zag_r
  obtain ⟨v1, ev1, h⟩ := zb h
  obtain ⟨s2, es2, h⟩ := zb h
  replace hA := zag_t hA (zag_w (by decide) (zag_iast es2))
  obtain ⟨v3, ev3, h⟩ := zb h
  exact zag_t hA (hr53 _ _ _ _ h)
theorem fr_X9_takeNext_92 {N : Nat} {rec53 : Int32 → Int32 → Int32 → ZM → Option (Int32 × ZM)} {res : Int32 × ZM} (hr53 : ∀ (x1 : Int32) (x2 : Int32) (x3 : Int32) (σ : ZM), rec53 x1 x2 x3 σ = some res → zag [(17, none), (18, none), (19, none), (20, none), (21, none)] σ res.2) {x1 : Int32} {x3 : Int32} {σ : ZM} (h : f_X9_takeNext_92 N rec53 x1 x3 σ = some res) : zag [(17, none), (18, none), (19, none), (20, none), (21, none)] σ res.2 := by
  unfold f_X9_takeNext_92 at h
  have hA : zag [(17, none), (18, none), (19, none), (20, none), (21, none)] σ σ := zag_r
  exact zag_t hA (fr_X9_takeNext_97 hr53 h)
theorem fr_b_X9_takeNext_53 {N : Nat} {rec53 : Int32 → Int32 → Int32 → ZM → Option (Int32 × ZM)} {res : Int32 × ZM} (hr53 : ∀ (x1 : Int32) (x2 : Int32) (x3 : Int32) (σ : ZM), rec53 x1 x2 x3 σ = some res → zag [(17, none), (18, none), (19, none), (20, none), (21, none)] σ res.2) {x1 : Int32} {x2 : Int32} {x3 : Int32} {σ : ZM} (h : b_X9_takeNext_53 N rec53 x1 x2 x3 σ = some res) : zag [(17, none), (18, none), (19, none), (20, none), (21, none)] σ res.2 := by
  unfold b_X9_takeNext_53 at h
  have hA : zag [(17, none), (18, none), (19, none), (20, none), (21, none)] σ σ := zag_r
  obtain ⟨v4, ev4, h⟩ := zb h
  rcases zi2 h with ⟨hc60, h⟩ | ⟨hc60, h⟩
  · skip
    obtain ⟨v5, ev5, h⟩ := zb h
    obtain ⟨s6, es6, h⟩ := zb h
    replace hA := zag_t hA (zag_w (by decide) (zag_iast es6))
    obtain ⟨v7, ev7, h⟩ := zb h
    obtain ⟨s8, es8, h⟩ := zb h
    replace hA := zag_t hA (zag_w (by decide) (zag_iast es8))
    obtain ⟨v9, ev9, h⟩ := zb h
    obtain ⟨s10, es10, h⟩ := zb h
    replace hA := zag_t hA (zag_w (by decide) (zag_iast es10))
    obtain ⟨v11, ev11, h⟩ := zb h
    obtain ⟨s12, es12, h⟩ := zb h
    replace hA := zag_t hA (zag_w (by decide) (zag_iast es12))
    obtain ⟨hz, rfl⟩ := zrz_ok h
    exact hA
  · skip
    rcases (zi2 h).symm with ⟨hc64, h⟩ | ⟨hc64, h⟩
    · skip
      exact zag_t hA (fr_X9_takeNext_92 hr53 h)
    · skip
      obtain ⟨v13, ev13, h⟩ := zb h
      obtain ⟨v14, ev14, h⟩ := zb h
      rcases zi2 h with ⟨hc89, h⟩ | ⟨hc89, h⟩
      · skip
        exact zag_t hA (fr_X9_takeNext_97 hr53 h)
      · skip
        exact zag_t hA (fr_X9_takeNext_92 hr53 h)
theorem fr_X9_takeNext_53 {N : Nat} {res : Int32 × ZM} : ∀ (n : Nat) (x1 : Int32) (x2 : Int32) (x3 : Int32) (σ : ZM), f_X9_takeNext_53 N n x1 x2 x3 σ = some res → zag [(17, none), (18, none), (19, none), (20, none), (21, none)] σ res.2 := by
  intro n
  induction n with
  | zero => intro x1 x2 x3 σ h; exact absurd h (by simp [f_X9_takeNext_53])
  | succ n ih => intro x1 x2 x3 σ h; rw [f_X9_takeNext_53] at h; exact fr_b_X9_takeNext_53 ih h
theorem fr_X9_takeNext_50 {N : Nat} {res : Int32 × ZM} {x1 : Int32} {y0 : Int32} {σ : ZM} (h : f_X9_takeNext_50 N x1 y0 σ = some res) : zag [(17, none), (18, none), (19, none), (20, none), (21, none)] σ res.2 := by
  unfold f_X9_takeNext_50 at h
  have hA : zag [(17, none), (18, none), (19, none), (20, none), (21, none)] σ σ := zag_r
  exact zag_t hA (fr_X9_takeNext_53 _ _ _ _ _ h)
theorem fr_X9_takeNext_45 {N : Nat} {res : Int32 × ZM} {x1 : Int32} {σ : ZM} (h : f_X9_takeNext_45 N x1 σ = some res) : zag [(17, none), (18, none), (19, none), (20, none), (21, none)] σ res.2 := by
  unfold f_X9_takeNext_45 at h
  have hA : zag [(17, none), (18, none), (19, none), (20, none), (21, none)] σ σ := zag_r
  exact zag_t hA (fr_X9_takeNext_50 h)
theorem fr_X9_takeNext {N : Nat} {x1 : Int32} {σ : ZM} {res : Int32 × ZM} (h : f_X9_takeNext N x1 σ = some res) : zag [(17, none), (18, none), (19, none), (20, none), (21, none)] σ res.2 := by
  unfold f_X9_takeNext at h
  have hA : zag [(17, none), (18, none), (19, none), (20, none), (21, none)] σ σ := zag_r
  obtain ⟨v15, ev15, h⟩ := zb h
  obtain ⟨v16, ev16, h⟩ := zb h
  rcases (zi2 h).symm with ⟨hc12, h⟩ | ⟨hc12, h⟩
  · skip
    exact zag_t hA (fr_X9_takeNext_45 h)
  · skip
    obtain ⟨v17, ev17, h⟩ := zb h
    obtain ⟨v18, ev18, h⟩ := zb h
    rcases (zi2 h).symm with ⟨hc27, h⟩ | ⟨hc27, h⟩
    · skip
      exact zag_t hA (fr_X9_takeNext_45 h)
    · skip
      obtain ⟨v19, ev19, h⟩ := zb h
      obtain ⟨v20, ev20, h⟩ := zb h
      rcases zi2 h with ⟨hc42, h⟩ | ⟨hc42, h⟩
      · skip
        exact zag_t hA (fr_X9_takeNext_50 h)
      · skip
        exact zag_t hA (fr_X9_takeNext_45 h)
theorem fr_X9_settle_151 {N : Nat} {res : Int32 × ZM} {y0 : Int32} {σ : ZM} (h : f_X9_settle_151 N y0 σ = some res) : zag [(0, some 30), (0, some 31), (17, none), (18, none), (19, none), (20, none), (21, none), (22, none), (23, none), (24, none), (25, none), (26, none)] σ res.2 := by
  unfold f_X9_settle_151 at h
  have hA : zag [(0, some 30), (0, some 31), (17, none), (18, none), (19, none), (20, none), (21, none), (22, none), (23, none), (24, none), (25, none), (26, none)] σ σ := zag_r
  obtain ⟨s1, es1, h⟩ := zb h
  replace hA := zag_t hA (zag_w (by decide) (zag_putZ es1))
  obtain ⟨hz, rfl⟩ := zrz_ok h
  exact hA
theorem fr_X9_settle_136 {N : Nat} {res : Int32 × ZM} {σ : ZM} (h : f_X9_settle_136 N σ = some res) : zag [(0, some 30), (0, some 31), (17, none), (18, none), (19, none), (20, none), (21, none), (22, none), (23, none), (24, none), (25, none), (26, none)] σ res.2 := by
  unfold f_X9_settle_136 at h
  have hA : zag [(0, some 30), (0, some 31), (17, none), (18, none), (19, none), (20, none), (21, none), (22, none), (23, none), (24, none), (25, none), (26, none)] σ σ := zag_r
  rcases zi2 h with ⟨hc143, h⟩ | ⟨hc143, h⟩
  · skip
    exact zag_t hA (fr_X9_settle_151 h)
  · skip
    exact zag_t hA (fr_X9_settle_151 h)
theorem fr_X9_settle_129 {N : Nat} {rec53 : Int32 → ZM → Option (Int32 × ZM)} {res : Int32 × ZM} (hr53 : ∀ (x1 : Int32) (σ : ZM), rec53 x1 σ = some res → zag [(0, some 30), (0, some 31), (17, none), (18, none), (19, none), (20, none), (21, none), (22, none), (23, none), (24, none), (25, none), (26, none)] σ res.2) {x1 : Int32} {y0 : Int32} {y1 : Int32} {σ : ZM} (h : f_X9_settle_129 N rec53 x1 y0 y1 σ = some res) : zag [(0, some 30), (0, some 31), (17, none), (18, none), (19, none), (20, none), (21, none), (22, none), (23, none), (24, none), (25, none), (26, none)] σ res.2 := by
  unfold f_X9_settle_129 at h
  have hA : zag [(0, some 30), (0, some 31), (17, none), (18, none), (19, none), (20, none), (21, none), (22, none), (23, none), (24, none), (25, none), (26, none)] σ σ := zag_r
  obtain ⟨s2, es2, h⟩ := zb h
  replace hA := zag_t hA (zag_w (by decide) (zag_putI es2))
  exact zag_t hA (hr53 _ _ h)
theorem fr_X9_settle_109 {N : Nat} {rec53 : Int32 → ZM → Option (Int32 × ZM)} {rec91 : Int32 → Int32 → ZM → Option (Int32 × ZM)} {res : Int32 × ZM} (hr53 : ∀ (x1 : Int32) (σ : ZM), rec53 x1 σ = some res → zag [(0, some 30), (0, some 31), (17, none), (18, none), (19, none), (20, none), (21, none), (22, none), (23, none), (24, none), (25, none), (26, none)] σ res.2) (hr91 : ∀ (x1 : Int32) (x2 : Int32) (σ : ZM), rec91 x1 x2 σ = some res → zag [(0, some 30), (0, some 31), (17, none), (18, none), (19, none), (20, none), (21, none), (22, none), (23, none), (24, none), (25, none), (26, none)] σ res.2) {x1 : Int32} {x2 : Int32} {σ : ZM} (h : f_X9_settle_109 N rec53 rec91 x1 x2 σ = some res) : zag [(0, some 30), (0, some 31), (17, none), (18, none), (19, none), (20, none), (21, none), (22, none), (23, none), (24, none), (25, none), (26, none)] σ res.2 := by
  unfold f_X9_settle_109 at h
  have hA : zag [(0, some 30), (0, some 31), (17, none), (18, none), (19, none), (20, none), (21, none), (22, none), (23, none), (24, none), (25, none), (26, none)] σ σ := zag_r
  obtain ⟨v3, ev3, h⟩ := zb h
  exact zag_t hA (hr91 _ _ _ h)
theorem fr_b_X9_settle_91 {N : Nat} {rec53 : Int32 → ZM → Option (Int32 × ZM)} {rec91 : Int32 → Int32 → ZM → Option (Int32 × ZM)} {res : Int32 × ZM} (hr53 : ∀ (x1 : Int32) (σ : ZM), rec53 x1 σ = some res → zag [(0, some 30), (0, some 31), (17, none), (18, none), (19, none), (20, none), (21, none), (22, none), (23, none), (24, none), (25, none), (26, none)] σ res.2) (hr91 : ∀ (x1 : Int32) (x2 : Int32) (σ : ZM), rec91 x1 x2 σ = some res → zag [(0, some 30), (0, some 31), (17, none), (18, none), (19, none), (20, none), (21, none), (22, none), (23, none), (24, none), (25, none), (26, none)] σ res.2) {x1 : Int32} {x2 : Int32} {σ : ZM} (h : b_X9_settle_91 N rec53 rec91 x1 x2 σ = some res) : zag [(0, some 30), (0, some 31), (17, none), (18, none), (19, none), (20, none), (21, none), (22, none), (23, none), (24, none), (25, none), (26, none)] σ res.2 := by
  unfold b_X9_settle_91 at h
  have hA : zag [(0, some 30), (0, some 31), (17, none), (18, none), (19, none), (20, none), (21, none), (22, none), (23, none), (24, none), (25, none), (26, none)] σ σ := zag_r
  rcases zi2 h with ⟨hc96, h⟩ | ⟨hc96, h⟩
  · skip
    rcases zi2 h with ⟨hc121, h⟩ | ⟨hc121, h⟩
    · skip
      exact zag_t hA (fr_X9_settle_129 hr53 h)
    · skip
      exact zag_t hA (fr_X9_settle_129 hr53 h)
  · skip
    obtain ⟨r4, s5, es5, h⟩ := zc h
    replace hA := zag_t hA (zag_w (by decide) (fr_X9_takeNext es5))
    rcases zi2 h with ⟨hc104, h⟩ | ⟨hc104, h⟩
    · skip
      exact zag_t hA (fr_X9_settle_109 hr53 hr91 h)
    · skip
      exact zag_t hA (fr_X9_settle_109 hr53 hr91 h)
theorem fr_X9_settle_91 {N : Nat} {rec53 : Int32 → ZM → Option (Int32 × ZM)} {res : Int32 × ZM} (hr53 : ∀ (x1 : Int32) (σ : ZM), rec53 x1 σ = some res → zag [(0, some 30), (0, some 31), (17, none), (18, none), (19, none), (20, none), (21, none), (22, none), (23, none), (24, none), (25, none), (26, none)] σ res.2) : ∀ (n : Nat) (x1 : Int32) (x2 : Int32) (σ : ZM), f_X9_settle_91 N rec53 n x1 x2 σ = some res → zag [(0, some 30), (0, some 31), (17, none), (18, none), (19, none), (20, none), (21, none), (22, none), (23, none), (24, none), (25, none), (26, none)] σ res.2 := by
  intro n
  induction n with
  | zero => intro x1 x2 σ h; exact absurd h (by simp [f_X9_settle_91])
  | succ n ih => intro x1 x2 σ h; rw [f_X9_settle_91] at h; exact fr_b_X9_settle_91 hr53 ih h
theorem fr_b_X9_settle_70 {N : Nat} {rec53 : Int32 → ZM → Option (Int32 × ZM)} {rec70 : Int32 → Int32 → ZM → Option (Int32 × ZM)} {res : Int32 × ZM} (hr53 : ∀ (x1 : Int32) (σ : ZM), rec53 x1 σ = some res → zag [(0, some 30), (0, some 31), (17, none), (18, none), (19, none), (20, none), (21, none), (22, none), (23, none), (24, none), (25, none), (26, none)] σ res.2) (hr70 : ∀ (x1 : Int32) (x2 : Int32) (σ : ZM), rec70 x1 x2 σ = some res → zag [(0, some 30), (0, some 31), (17, none), (18, none), (19, none), (20, none), (21, none), (22, none), (23, none), (24, none), (25, none), (26, none)] σ res.2) {x1 : Int32} {x2 : Int32} {σ : ZM} (h : b_X9_settle_70 N rec53 rec70 x1 x2 σ = some res) : zag [(0, some 30), (0, some 31), (17, none), (18, none), (19, none), (20, none), (21, none), (22, none), (23, none), (24, none), (25, none), (26, none)] σ res.2 := by
  unfold b_X9_settle_70 at h
  have hA : zag [(0, some 30), (0, some 31), (17, none), (18, none), (19, none), (20, none), (21, none), (22, none), (23, none), (24, none), (25, none), (26, none)] σ σ := zag_r
  rcases zi2 h with ⟨hc75, h⟩ | ⟨hc75, h⟩
  · skip
    exact zag_t hA (fr_X9_settle_91 hr53 _ _ _ _ h)
  · skip
    obtain ⟨r6, s7, es7, h⟩ := zc h
    replace hA := zag_t hA (zag_w (by decide) (fr_X9_layNext es7))
    obtain ⟨v8, ev8, h⟩ := zb h
    exact zag_t hA (hr70 _ _ _ h)
theorem fr_X9_settle_70 {N : Nat} {rec53 : Int32 → ZM → Option (Int32 × ZM)} {res : Int32 × ZM} (hr53 : ∀ (x1 : Int32) (σ : ZM), rec53 x1 σ = some res → zag [(0, some 30), (0, some 31), (17, none), (18, none), (19, none), (20, none), (21, none), (22, none), (23, none), (24, none), (25, none), (26, none)] σ res.2) : ∀ (n : Nat) (x1 : Int32) (x2 : Int32) (σ : ZM), f_X9_settle_70 N rec53 n x1 x2 σ = some res → zag [(0, some 30), (0, some 31), (17, none), (18, none), (19, none), (20, none), (21, none), (22, none), (23, none), (24, none), (25, none), (26, none)] σ res.2 := by
  intro n
  induction n with
  | zero => intro x1 x2 σ h; exact absurd h (by simp [f_X9_settle_70])
  | succ n ih => intro x1 x2 σ h; rw [f_X9_settle_70] at h; exact fr_b_X9_settle_70 hr53 ih h
theorem fr_b_X9_settle_53 {N : Nat} {rec53 : Int32 → ZM → Option (Int32 × ZM)} {res : Int32 × ZM} (hr53 : ∀ (x1 : Int32) (σ : ZM), rec53 x1 σ = some res → zag [(0, some 30), (0, some 31), (17, none), (18, none), (19, none), (20, none), (21, none), (22, none), (23, none), (24, none), (25, none), (26, none)] σ res.2) {x1 : Int32} {σ : ZM} (h : b_X9_settle_53 N rec53 x1 σ = some res) : zag [(0, some 30), (0, some 31), (17, none), (18, none), (19, none), (20, none), (21, none), (22, none), (23, none), (24, none), (25, none), (26, none)] σ res.2 := by
  unfold b_X9_settle_53 at h
  have hA : zag [(0, some 30), (0, some 31), (17, none), (18, none), (19, none), (20, none), (21, none), (22, none), (23, none), (24, none), (25, none), (26, none)] σ σ := zag_r
  rcases zi2 h with ⟨hc54, h⟩ | ⟨hc54, h⟩
  · skip
    exact zag_t hA (fr_X9_settle_136 h)
  · skip
    rcases zi2 h with ⟨hc63, h⟩ | ⟨hc63, h⟩
    · skip
      exact zag_t hA (fr_X9_settle_136 h)
    · skip
      exact zag_t hA (fr_X9_settle_70 hr53 _ _ _ _ h)
theorem fr_X9_settle_53 {N : Nat} {res : Int32 × ZM} : ∀ (n : Nat) (x1 : Int32) (σ : ZM), f_X9_settle_53 N n x1 σ = some res → zag [(0, some 30), (0, some 31), (17, none), (18, none), (19, none), (20, none), (21, none), (22, none), (23, none), (24, none), (25, none), (26, none)] σ res.2 := by
  intro n
  induction n with
  | zero => intro x1 σ h; exact absurd h (by simp [f_X9_settle_53])
  | succ n ih => intro x1 σ h; rw [f_X9_settle_53] at h; exact fr_b_X9_settle_53 ih h
theorem fr_b_X9_settle_7 {N : Nat} {rec7 : Int32 → ZM → Option (Int32 × ZM)} {res : Int32 × ZM} (hr7 : ∀ (x1 : Int32) (σ : ZM), rec7 x1 σ = some res → zag [(0, some 30), (0, some 31), (17, none), (18, none), (19, none), (20, none), (21, none), (22, none), (23, none), (24, none), (25, none), (26, none)] σ res.2) {x1 : Int32} {σ : ZM} (h : b_X9_settle_7 N rec7 x1 σ = some res) : zag [(0, some 30), (0, some 31), (17, none), (18, none), (19, none), (20, none), (21, none), (22, none), (23, none), (24, none), (25, none), (26, none)] σ res.2 := by
  unfold b_X9_settle_7 at h
  have hA : zag [(0, some 30), (0, some 31), (17, none), (18, none), (19, none), (20, none), (21, none), (22, none), (23, none), (24, none), (25, none), (26, none)] σ σ := zag_r
  rcases zi2 h with ⟨hc12, h⟩ | ⟨hc12, h⟩
  · skip
    exact zag_t hA (fr_X9_settle_53 _ _ _ h)
  · skip
    obtain ⟨s9, es9, h⟩ := zb h
    replace hA := zag_t hA (zag_w (by decide) (zag_iast es9))
    obtain ⟨s10, es10, h⟩ := zb h
    replace hA := zag_t hA (zag_w (by decide) (zag_iast es10))
    obtain ⟨s11, es11, h⟩ := zb h
    replace hA := zag_t hA (zag_w (by decide) (zag_iast es11))
    obtain ⟨s12, es12, h⟩ := zb h
    replace hA := zag_t hA (zag_w (by decide) (zag_iast es12))
    obtain ⟨v13, ev13, h⟩ := zb h
    exact zag_t hA (hr7 _ _ h)
theorem fr_X9_settle_7 {N : Nat} {res : Int32 × ZM} : ∀ (n : Nat) (x1 : Int32) (σ : ZM), f_X9_settle_7 N n x1 σ = some res → zag [(0, some 30), (0, some 31), (17, none), (18, none), (19, none), (20, none), (21, none), (22, none), (23, none), (24, none), (25, none), (26, none)] σ res.2 := by
  intro n
  induction n with
  | zero => intro x1 σ h; exact absurd h (by simp [f_X9_settle_7])
  | succ n ih => intro x1 σ h; rw [f_X9_settle_7] at h; exact fr_b_X9_settle_7 ih h
theorem fr_X9_settle {N : Nat} {σ : ZM} {res : Int32 × ZM} (h : f_X9_settle N σ = some res) : zag [(0, some 30), (0, some 31), (17, none), (18, none), (19, none), (20, none), (21, none), (22, none), (23, none), (24, none), (25, none), (26, none)] σ res.2 := by
  unfold f_X9_settle at h
  have hA : zag [(0, some 30), (0, some 31), (17, none), (18, none), (19, none), (20, none), (21, none), (22, none), (23, none), (24, none), (25, none), (26, none)] σ σ := zag_r
  obtain ⟨s14, es14, h⟩ := zb h
  replace hA := zag_t hA (zag_w (by decide) (zag_putI es14))
  exact zag_t hA (fr_X9_settle_7 _ _ _ h)
theorem fr_X9_settleNow {N : Nat} {σ : ZM} {res : Int32 × ZM} (h : f_X9_settleNow N σ = some res) : zag [(0, some 14), (0, some 30), (0, some 31), (12, none), (13, none), (14, none), (15, none), (16, none), (17, none), (18, none), (19, none), (20, none), (21, none), (22, none), (23, none), (24, none), (25, none), (26, none)] σ res.2 := by
  unfold f_X9_settleNow at h
  have hA : zag [(0, some 14), (0, some 30), (0, some 31), (12, none), (13, none), (14, none), (15, none), (16, none), (17, none), (18, none), (19, none), (20, none), (21, none), (22, none), (23, none), (24, none), (25, none), (26, none)] σ σ := zag_r
  obtain ⟨r1, s2, es2, h⟩ := zc h
  replace hA := zag_t hA (zag_w (by decide) (fr_X9_askNow es2))
  obtain ⟨r3, s4, es4, h⟩ := zc h
  replace hA := zag_t hA (zag_w (by decide) (fr_X9_settle es4))
  obtain ⟨hz, rfl⟩ := zrz_ok h
  exact hA
theorem fr_X9_rounds {N : Nat} {σ : ZM} {res : Int32 × ZM} (h : f_X9_rounds N σ = some res) : zag [(0, some 14), (0, some 30), (0, some 31), (12, none), (13, none), (14, none), (15, none), (16, none), (17, none), (18, none), (19, none), (20, none), (21, none), (22, none), (23, none), (24, none), (25, none), (26, none)] σ res.2 := by
  unfold f_X9_rounds at h
  have hA : zag [(0, some 14), (0, some 30), (0, some 31), (12, none), (13, none), (14, none), (15, none), (16, none), (17, none), (18, none), (19, none), (20, none), (21, none), (22, none), (23, none), (24, none), (25, none), (26, none)] σ σ := zag_r
  obtain ⟨r1, s2, es2, h⟩ := zc h
  replace hA := zag_t hA (zag_w (by decide) (fr_X9_settleNow es2))
  rcases zi2 h with ⟨hc4, h⟩ | ⟨hc4, h⟩
  · skip
    cases h
    exact hA
  · skip
    cases h
    exact hA
theorem fr_X9_comes {N : Nat} {x1 : Int32} {σ : ZM} {res : Int32 × ZM} (h : f_X9_comes N x1 σ = some res) : zag [(0, some 14), (0, some 30), (0, some 31), (12, none), (13, none), (14, none), (15, none), (16, none), (17, none), (18, none), (19, none), (20, none), (21, none), (22, none), (23, none), (24, none), (25, none), (26, none)] σ res.2 := by
  unfold f_X9_comes at h
  have hA : zag [(0, some 14), (0, some 30), (0, some 31), (12, none), (13, none), (14, none), (15, none), (16, none), (17, none), (18, none), (19, none), (20, none), (21, none), (22, none), (23, none), (24, none), (25, none), (26, none)] σ σ := zag_r
  obtain ⟨r1, s2, es2, h⟩ := zc h
  replace hA := zag_t hA (zag_w (by decide) (fr_X9_isNet es2))
  rcases (zi2 h).symm with ⟨hc5, h⟩ | ⟨hc5, h⟩
  · skip
    obtain ⟨r3, s4, es4, h⟩ := zc h
    replace hA := zag_t hA (zag_w (by decide) (fr_X9_settleNow es4))
    rcases zi2 h with ⟨hc14, h⟩ | ⟨hc14, h⟩
    · skip
      cases h
      exact hA
    · skip
      obtain ⟨v5, ev5, h⟩ := zb h
      cases h
      exact hA
  · skip
    cases h
    exact hA
theorem fr_X9_names {N : Nat} {x1 : Int32} {σ : ZM} {res : Int32 × ZM} (h : f_X9_names N x1 σ = some res) : zag [(0, some 14), (0, some 30), (0, some 31), (12, none), (13, none), (14, none), (15, none), (16, none), (17, none), (18, none), (19, none), (20, none), (21, none), (22, none), (23, none), (24, none), (25, none), (26, none)] σ res.2 := by
  unfold f_X9_names at h
  have hA : zag [(0, some 14), (0, some 30), (0, some 31), (12, none), (13, none), (14, none), (15, none), (16, none), (17, none), (18, none), (19, none), (20, none), (21, none), (22, none), (23, none), (24, none), (25, none), (26, none)] σ σ := zag_r
  obtain ⟨r1, s2, es2, h⟩ := zc h
  replace hA := zag_t hA (zag_w (by decide) (fr_X9_isNet es2))
  rcases (zi2 h).symm with ⟨hc5, h⟩ | ⟨hc5, h⟩
  · skip
    obtain ⟨r3, s4, es4, h⟩ := zc h
    replace hA := zag_t hA (zag_w (by decide) (fr_X9_settleNow es4))
    rcases zi2 h with ⟨hc14, h⟩ | ⟨hc14, h⟩
    · skip
      cases h
      exact hA
    · skip
      obtain ⟨v5, ev5, h⟩ := zb h
      cases h
      exact hA
  · skip
    cases h
    exact hA
theorem fr_X9_way {N : Nat} {x1 : Int32} {x2 : Int32} {σ : ZM} {res : Int32 × ZM} (h : f_X9_way N x1 x2 σ = some res) : zag [(0, some 14), (0, some 30), (0, some 31), (12, none), (13, none), (14, none), (15, none), (16, none), (17, none), (18, none), (19, none), (20, none), (21, none), (22, none), (23, none), (24, none), (25, none), (26, none)] σ res.2 := by
  unfold f_X9_way at h
  have hA : zag [(0, some 14), (0, some 30), (0, some 31), (12, none), (13, none), (14, none), (15, none), (16, none), (17, none), (18, none), (19, none), (20, none), (21, none), (22, none), (23, none), (24, none), (25, none), (26, none)] σ σ := zag_r
  obtain ⟨r1, s2, es2, h⟩ := zc h
  replace hA := zag_t hA (zag_w (by decide) (fr_X9_isNet es2))
  rcases (zi2 h).symm with ⟨hc5, h⟩ | ⟨hc5, h⟩
  · skip
    obtain ⟨r3, s4, es4, h⟩ := zc h
    replace hA := zag_t hA (zag_w (by decide) (fr_X9_settleNow es4))
    rcases (zi2 h).symm with ⟨hc14, h⟩ | ⟨hc14, h⟩
    · skip
      obtain ⟨v5, ev5, h⟩ := zb h
      obtain ⟨r6, s7, es7, h⟩ := zc h
      replace hA := zag_t hA (zag_w (by decide) (fr_X9_in es7))
      rcases zi2 h with ⟨hc37, h⟩ | ⟨hc37, h⟩
      · skip
        cases h
        exact hA
      · skip
        obtain ⟨v8, ev8, h⟩ := zb h
        cases h
        exact hA
    · skip
      cases h
      exact hA
  · skip
    cases h
    exact hA
theorem fr_X9_come_62 {N : Nat} {rec34 : Int32 → Int32 → Int32 → ZM → Option (Int32 × ZM)} {res : Int32 × ZM} (hr34 : ∀ (x1 : Int32) (x2 : Int32) (x3 : Int32) (σ : ZM), rec34 x1 x2 x3 σ = some res → zag [] σ res.2) {x1 : Int32} {x3 : Int32} {y0 : Int32} {y1 : Int32} {σ : ZM} (h : f_X9_come_62 N rec34 x1 x3 y0 y1 σ = some res) : zag [] σ res.2 := by
  unfold f_X9_come_62 at h
  have hA : zag [] σ σ := zag_r
  obtain ⟨v1, ev1, h⟩ := zb h
  obtain ⟨v2, ev2, h⟩ := zb h
  exact zag_t hA (hr34 _ _ _ _ h)
theorem fr_X9_come_61 {N : Nat} {rec34 : Int32 → Int32 → Int32 → ZM → Option (Int32 × ZM)} {res : Int32 × ZM} (hr34 : ∀ (x1 : Int32) (x2 : Int32) (x3 : Int32) (σ : ZM), rec34 x1 x2 x3 σ = some res → zag [] σ res.2) {x1 : Int32} {x3 : Int32} {y0 : Int32} {σ : ZM} (h : f_X9_come_61 N rec34 x1 x3 y0 σ = some res) : zag [] σ res.2 := by
  unfold f_X9_come_61 at h
  have hA : zag [] σ σ := zag_r
  exact zag_t hA (fr_X9_come_62 hr34 h)
theorem fr_b_X9_come_34 {N : Nat} {rec34 : Int32 → Int32 → Int32 → ZM → Option (Int32 × ZM)} {res : Int32 × ZM} (hr34 : ∀ (x1 : Int32) (x2 : Int32) (x3 : Int32) (σ : ZM), rec34 x1 x2 x3 σ = some res → zag [] σ res.2) {x1 : Int32} {x2 : Int32} {x3 : Int32} {σ : ZM} (h : b_X9_come_34 N rec34 x1 x2 x3 σ = some res) : zag [] σ res.2 := by
  unfold b_X9_come_34 at h
  have hA : zag [] σ σ := zag_r
  rcases zi2 h with ⟨hc39, h⟩ | ⟨hc39, h⟩
  · skip
    cases h
    exact hA
  · skip
    rcases zi2 h with ⟨hc45, h⟩ | ⟨hc45, h⟩
    · skip
      exact zag_t hA (fr_X9_come_61 hr34 h)
    · skip
      obtain ⟨r3, s4, es4, h⟩ := zc h
      replace hA := zag_t hA (zag_w (by decide) (fr_X9_passes es4))
      rcases zi2 h with ⟨hc54, h⟩ | ⟨hc54, h⟩
      · skip
        exact zag_t hA (fr_X9_come_61 hr34 h)
      · skip
        exact zag_t hA (fr_X9_come_62 hr34 h)
theorem fr_X9_come_34 {N : Nat} {res : Int32 × ZM} : ∀ (n : Nat) (x1 : Int32) (x2 : Int32) (x3 : Int32) (σ : ZM), f_X9_come_34 N n x1 x2 x3 σ = some res → zag [] σ res.2 := by
  intro n
  induction n with
  | zero => intro x1 x2 x3 σ h; exact absurd h (by simp [f_X9_come_34])
  | succ n ih => intro x1 x2 x3 σ h; rw [f_X9_come_34] at h; exact fr_b_X9_come_34 ih h
theorem fr_X9_come_24 {N : Nat} {rec4 : Int32 → Int32 → Int32 → ZM → Option (Int32 × ZM)} {res : Int32 × ZM} (hr4 : ∀ (x1 : Int32) (x2 : Int32) (x3 : Int32) (σ : ZM), rec4 x1 x2 x3 σ = some res → zag [] σ res.2) {x1 : Int32} {x3 : Int32} {y0 : Int32} {y1 : Int32} {σ : ZM} (h : f_X9_come_24 N rec4 x1 x3 y0 y1 σ = some res) : zag [] σ res.2 := by
  unfold f_X9_come_24 at h
  have hA : zag [] σ σ := zag_r
  obtain ⟨v5, ev5, h⟩ := zb h
  obtain ⟨v6, ev6, h⟩ := zb h
  exact zag_t hA (hr4 _ _ _ _ h)
theorem fr_b_X9_come_4 {N : Nat} {rec4 : Int32 → Int32 → Int32 → ZM → Option (Int32 × ZM)} {res : Int32 × ZM} (hr4 : ∀ (x1 : Int32) (x2 : Int32) (x3 : Int32) (σ : ZM), rec4 x1 x2 x3 σ = some res → zag [] σ res.2) {x1 : Int32} {x2 : Int32} {x3 : Int32} {σ : ZM} (h : b_X9_come_4 N rec4 x1 x2 x3 σ = some res) : zag [] σ res.2 := by
  unfold b_X9_come_4 at h
  have hA : zag [] σ σ := zag_r
  rcases zi2 h with ⟨hc6, h⟩ | ⟨hc6, h⟩
  · skip
    exact zag_t hA (fr_X9_come_34 _ _ _ _ _ h)
  · skip
    obtain ⟨r7, s8, es8, h⟩ := zc h
    replace hA := zag_t hA (zag_w (by decide) (fr_X9_speaks es8))
    rcases zi2 h with ⟨hc16, h⟩ | ⟨hc16, h⟩
    · skip
      exact zag_t hA (fr_X9_come_24 hr4 h)
    · skip
      exact zag_t hA (fr_X9_come_24 hr4 h)
theorem fr_X9_come_4 {N : Nat} {res : Int32 × ZM} : ∀ (n : Nat) (x1 : Int32) (x2 : Int32) (x3 : Int32) (σ : ZM), f_X9_come_4 N n x1 x2 x3 σ = some res → zag [] σ res.2 := by
  intro n
  induction n with
  | zero => intro x1 x2 x3 σ h; exact absurd h (by simp [f_X9_come_4])
  | succ n ih => intro x1 x2 x3 σ h; rw [f_X9_come_4] at h; exact fr_b_X9_come_4 ih h
theorem fr_X9_come {N : Nat} {x1 : Int32} {σ : ZM} {res : Int32 × ZM} (h : f_X9_come N x1 σ = some res) : zag [] σ res.2 := by
  unfold f_X9_come at h
  have hA : zag [] σ σ := zag_r
  exact zag_t hA (fr_X9_come_4 _ _ _ _ _ h)
theorem fr_X9_told {N : Nat} {x1 : Int32} {σ : ZM} {res : Int32 × ZM} (h : f_X9_told N x1 σ = some res) : zag [(0, some 14), (0, some 30), (0, some 31), (12, none), (13, none), (14, none), (15, none), (16, none), (17, none), (18, none), (19, none), (20, none), (21, none), (22, none), (23, none), (24, none), (25, none), (26, none)] σ res.2 := by
  unfold f_X9_told at h
  have hA : zag [(0, some 14), (0, some 30), (0, some 31), (12, none), (13, none), (14, none), (15, none), (16, none), (17, none), (18, none), (19, none), (20, none), (21, none), (22, none), (23, none), (24, none), (25, none), (26, none)] σ σ := zag_r
  obtain ⟨r1, s2, es2, h⟩ := zc h
  replace hA := zag_t hA (zag_w (by decide) (fr_X9_isNet es2))
  rcases (zi2 h).symm with ⟨hc5, h⟩ | ⟨hc5, h⟩
  · skip
    obtain ⟨r3, s4, es4, h⟩ := zc h
    replace hA := zag_t hA (zag_w (by decide) (fr_X9_settleNow es4))
    rcases zi2 h with ⟨hc14, h⟩ | ⟨hc14, h⟩
    · skip
      cases h
      exact hA
    · skip
      obtain ⟨r5, s6, es6, h⟩ := zc h
      replace hA := zag_t hA (zag_w (by decide) (fr_X9_come es6))
      cases h
      exact hA
  · skip
    cases h
    exact hA
theorem fr_X9_alike_140 {N : Nat} {rec5 : Int32 → Int32 → Int32 → Int32 → ZM → Option (Int32 × ZM)} {res : Int32 × ZM} (hr5 : ∀ (x1 : Int32) (x2 : Int32) (x3 : Int32) (x4 : Int32) (σ : ZM), rec5 x1 x2 x3 x4 σ = some res → zag [] σ res.2) {x1 : Int32} {x2 : Int32} {x4 : Int32} {y0 : Int32} {y1 : Int32} {σ : ZM} (h : f_X9_alike_140 N rec5 x1 x2 x4 y0 y1 σ = some res) : zag [] σ res.2 := by
  unfold f_X9_alike_140 at h
  have hA : zag [] σ σ := zag_r
  obtain ⟨v1, ev1, h⟩ := zb h
  obtain ⟨v2, ev2, h⟩ := zb h
  exact zag_t hA (hr5 _ _ _ _ _ h)
theorem fr_X9_alike_129 {N : Nat} {rec5 : Int32 → Int32 → Int32 → Int32 → ZM → Option (Int32 × ZM)} {res : Int32 × ZM} (hr5 : ∀ (x1 : Int32) (x2 : Int32) (x3 : Int32) (x4 : Int32) (σ : ZM), rec5 x1 x2 x3 x4 σ = some res → zag [] σ res.2) {x1 : Int32} {x2 : Int32} {x3 : Int32} {x4 : Int32} {x5 : Int32} {σ : ZM} (h : f_X9_alike_129 N rec5 x1 x2 x3 x4 x5 σ = some res) : zag [] σ res.2 := by
  unfold f_X9_alike_129 at h
  have hA : zag [] σ σ := zag_r
  rcases zi2 h with ⟨hc132, h⟩ | ⟨hc132, h⟩
  · skip
    exact zag_t hA (fr_X9_alike_140 hr5 h)
  · skip
    exact zag_t hA (fr_X9_alike_140 hr5 h)
theorem fr_X9_alike_121 {N : Nat} {rec5 : Int32 → Int32 → Int32 → Int32 → ZM → Option (Int32 × ZM)} {rec67 : Int32 → Int32 → Int32 → Int32 → Int32 → Int32 → ZM → Option (Int32 × ZM)} {res : Int32 × ZM} (hr5 : ∀ (x1 : Int32) (x2 : Int32) (x3 : Int32) (x4 : Int32) (σ : ZM), rec5 x1 x2 x3 x4 σ = some res → zag [] σ res.2) (hr67 : ∀ (x1 : Int32) (x2 : Int32) (x3 : Int32) (x4 : Int32) (x5 : Int32) (x6 : Int32) (σ : ZM), rec67 x1 x2 x3 x4 x5 x6 σ = some res → zag [] σ res.2) {x1 : Int32} {x2 : Int32} {x3 : Int32} {x4 : Int32} {x6 : Int32} {y0 : Int32} {σ : ZM} (h : f_X9_alike_121 N rec5 rec67 x1 x2 x3 x4 x6 y0 σ = some res) : zag [] σ res.2 := by
  unfold f_X9_alike_121 at h
  have hA : zag [] σ σ := zag_r
  obtain ⟨v3, ev3, h⟩ := zb h
  exact zag_t hA (hr67 _ _ _ _ _ _ _ h)
theorem fr_b_X9_alike_67 {N : Nat} {rec5 : Int32 → Int32 → Int32 → Int32 → ZM → Option (Int32 × ZM)} {rec67 : Int32 → Int32 → Int32 → Int32 → Int32 → Int32 → ZM → Option (Int32 × ZM)} {res : Int32 × ZM} (hr5 : ∀ (x1 : Int32) (x2 : Int32) (x3 : Int32) (x4 : Int32) (σ : ZM), rec5 x1 x2 x3 x4 σ = some res → zag [] σ res.2) (hr67 : ∀ (x1 : Int32) (x2 : Int32) (x3 : Int32) (x4 : Int32) (x5 : Int32) (x6 : Int32) (σ : ZM), rec67 x1 x2 x3 x4 x5 x6 σ = some res → zag [] σ res.2) {x1 : Int32} {x2 : Int32} {x3 : Int32} {x4 : Int32} {x5 : Int32} {x6 : Int32} {σ : ZM} (h : b_X9_alike_67 N rec5 rec67 x1 x2 x3 x4 x5 x6 σ = some res) : zag [] σ res.2 := by
  unfold b_X9_alike_67 at h
  have hA : zag [] σ σ := zag_r
  rcases zi2 h with ⟨hc70, h⟩ | ⟨hc70, h⟩
  · skip
    exact zag_t hA (fr_X9_alike_129 hr5 h)
  · skip
    rcases zi2 h with ⟨hc75, h⟩ | ⟨hc75, h⟩
    · skip
      exact zag_t hA (fr_X9_alike_129 hr5 h)
    · skip
      obtain ⟨v4, ev4, h⟩ := zb h
      obtain ⟨r5, s6, es6, h⟩ := zc h
      replace hA := zag_t hA (zag_w (by decide) (fr_X9_thing es6))
      obtain ⟨r7, s8, es8, h⟩ := zc h
      replace hA := zag_t hA (zag_w (by decide) (fr_X9_worth es8))
      obtain ⟨v9, ev9, h⟩ := zb h
      obtain ⟨r10, s11, es11, h⟩ := zc h
      replace hA := zag_t hA (zag_w (by decide) (fr_X9_worth es11))
      rcases (zi2 h).symm with ⟨hc113, h⟩ | ⟨hc113, h⟩
      · skip
        exact zag_t hA (fr_X9_alike_121 hr5 hr67 h)
      · skip
        exact zag_t hA (fr_X9_alike_121 hr5 hr67 h)
theorem fr_X9_alike_67 {N : Nat} {rec5 : Int32 → Int32 → Int32 → Int32 → ZM → Option (Int32 × ZM)} {res : Int32 × ZM} (hr5 : ∀ (x1 : Int32) (x2 : Int32) (x3 : Int32) (x4 : Int32) (σ : ZM), rec5 x1 x2 x3 x4 σ = some res → zag [] σ res.2) : ∀ (n : Nat) (x1 : Int32) (x2 : Int32) (x3 : Int32) (x4 : Int32) (x5 : Int32) (x6 : Int32) (σ : ZM), f_X9_alike_67 N rec5 n x1 x2 x3 x4 x5 x6 σ = some res → zag [] σ res.2 := by
  intro n
  induction n with
  | zero => intro x1 x2 x3 x4 x5 x6 σ h; exact absurd h (by simp [f_X9_alike_67])
  | succ n ih => intro x1 x2 x3 x4 x5 x6 σ h; rw [f_X9_alike_67] at h; exact fr_b_X9_alike_67 hr5 ih h
theorem fr_X9_alike_62 {N : Nat} {rec5 : Int32 → Int32 → Int32 → Int32 → ZM → Option (Int32 × ZM)} {res : Int32 × ZM} (hr5 : ∀ (x1 : Int32) (x2 : Int32) (x3 : Int32) (x4 : Int32) (σ : ZM), rec5 x1 x2 x3 x4 σ = some res → zag [] σ res.2) {x1 : Int32} {x2 : Int32} {x3 : Int32} {x4 : Int32} {y0 : Int32} {σ : ZM} (h : f_X9_alike_62 N rec5 x1 x2 x3 x4 y0 σ = some res) : zag [] σ res.2 := by
  unfold f_X9_alike_62 at h
  have hA : zag [] σ σ := zag_r
  exact zag_t hA (fr_X9_alike_67 hr5 _ _ _ _ _ _ _ _ h)
theorem fr_X9_alike_48 {N : Nat} {rec5 : Int32 → Int32 → Int32 → Int32 → ZM → Option (Int32 × ZM)} {res : Int32 × ZM} (hr5 : ∀ (x1 : Int32) (x2 : Int32) (x3 : Int32) (x4 : Int32) (σ : ZM), rec5 x1 x2 x3 x4 σ = some res → zag [] σ res.2) {x1 : Int32} {x2 : Int32} {x3 : Int32} {x4 : Int32} {σ : ZM} (h : f_X9_alike_48 N rec5 x1 x2 x3 x4 σ = some res) : zag [] σ res.2 := by
  unfold f_X9_alike_48 at h
  have hA : zag [] σ σ := zag_r
  exact zag_t hA (fr_X9_alike_62 hr5 h)
theorem fr_b_X9_alike_5 {N : Nat} {rec5 : Int32 → Int32 → Int32 → Int32 → ZM → Option (Int32 × ZM)} {res : Int32 × ZM} (hr5 : ∀ (x1 : Int32) (x2 : Int32) (x3 : Int32) (x4 : Int32) (σ : ZM), rec5 x1 x2 x3 x4 σ = some res → zag [] σ res.2) {x1 : Int32} {x2 : Int32} {x3 : Int32} {x4 : Int32} {σ : ZM} (h : b_X9_alike_5 N rec5 x1 x2 x3 x4 σ = some res) : zag [] σ res.2 := by
  unfold b_X9_alike_5 at h
  have hA : zag [] σ σ := zag_r
  rcases zi2 h with ⟨hc9, h⟩ | ⟨hc9, h⟩
  · skip
    cases h
    exact hA
  · skip
    rcases zi2 h with ⟨hc16, h⟩ | ⟨hc16, h⟩
    · skip
      obtain ⟨r12, s13, es13, h⟩ := zc h
      replace hA := zag_t hA (zag_w (by decide) (fr_X9_speaks es13))
      exact zag_t hA (fr_X9_alike_62 hr5 h)
    · skip
      rcases zi2 h with ⟨hc25, h⟩ | ⟨hc25, h⟩
      · skip
        exact zag_t hA (fr_X9_alike_48 hr5 h)
      · skip
        rcases zi2 h with ⟨hc31, h⟩ | ⟨hc31, h⟩
        · skip
          exact zag_t hA (fr_X9_alike_48 hr5 h)
        · skip
          obtain ⟨r14, s15, es15, h⟩ := zc h
          replace hA := zag_t hA (zag_w (by decide) (fr_X9_passes es15))
          rcases zi2 h with ⟨hc41, h⟩ | ⟨hc41, h⟩
          · skip
            exact zag_t hA (fr_X9_alike_48 hr5 h)
          · skip
            exact zag_t hA (fr_X9_alike_62 hr5 h)
theorem fr_X9_alike_5 {N : Nat} {res : Int32 × ZM} : ∀ (n : Nat) (x1 : Int32) (x2 : Int32) (x3 : Int32) (x4 : Int32) (σ : ZM), f_X9_alike_5 N n x1 x2 x3 x4 σ = some res → zag [] σ res.2 := by
  intro n
  induction n with
  | zero => intro x1 x2 x3 x4 σ h; exact absurd h (by simp [f_X9_alike_5])
  | succ n ih => intro x1 x2 x3 x4 σ h; rw [f_X9_alike_5] at h; exact fr_b_X9_alike_5 ih h
theorem fr_X9_alike {N : Nat} {x1 : Int32} {x2 : Int32} {σ : ZM} {res : Int32 × ZM} (h : f_X9_alike N x1 x2 σ = some res) : zag [] σ res.2 := by
  unfold f_X9_alike at h
  have hA : zag [] σ σ := zag_r
  exact zag_t hA (fr_X9_alike_5 _ _ _ _ _ _ h)
theorem fr_b_X9_why_36 {N : Nat} {rec36 : Int32 → Int32 → ZM → Option (Int32 × ZM)} {res : Int32 × ZM} (hr36 : ∀ (x1 : Int32) (x2 : Int32) (σ : ZM), rec36 x1 x2 σ = some res → zag [(0, some 14), (0, some 30), (0, some 31), (12, none), (13, none), (14, none), (15, none), (16, none), (17, none), (18, none), (19, none), (20, none), (21, none), (22, none), (23, none), (24, none), (25, none), (26, none)] σ res.2) {x1 : Int32} {x2 : Int32} {σ : ZM} (h : b_X9_why_36 N rec36 x1 x2 σ = some res) : zag [(0, some 14), (0, some 30), (0, some 31), (12, none), (13, none), (14, none), (15, none), (16, none), (17, none), (18, none), (19, none), (20, none), (21, none), (22, none), (23, none), (24, none), (25, none), (26, none)] σ res.2 := by
  unfold b_X9_why_36 at h
  have hA : zag [(0, some 14), (0, some 30), (0, some 31), (12, none), (13, none), (14, none), (15, none), (16, none), (17, none), (18, none), (19, none), (20, none), (21, none), (22, none), (23, none), (24, none), (25, none), (26, none)] σ σ := zag_r
  obtain ⟨r1, s2, es2, h⟩ := zc h
  replace hA := zag_t hA (zag_w (by decide) (fr_X9_alike es2))
  rcases zi2 h with ⟨hc43, h⟩ | ⟨hc43, h⟩
  · skip
    rcases (zi2 h).symm with ⟨hc53, h⟩ | ⟨hc53, h⟩
    · skip
      obtain ⟨v3, ev3, h⟩ := zb h
      obtain ⟨r4, s5, es5, h⟩ := zc h
      replace hA := zag_t hA (zag_w (by decide) (fr_X9_thing es5))
      cases h
      exact hA
    · skip
      cases h
      exact hA
  · skip
    obtain ⟨v6, ev6, h⟩ := zb h
    exact zag_t hA (hr36 _ _ _ h)
theorem fr_X9_why_36 {N : Nat} {res : Int32 × ZM} : ∀ (n : Nat) (x1 : Int32) (x2 : Int32) (σ : ZM), f_X9_why_36 N n x1 x2 σ = some res → zag [(0, some 14), (0, some 30), (0, some 31), (12, none), (13, none), (14, none), (15, none), (16, none), (17, none), (18, none), (19, none), (20, none), (21, none), (22, none), (23, none), (24, none), (25, none), (26, none)] σ res.2 := by
  intro n
  induction n with
  | zero => intro x1 x2 σ h; exact absurd h (by simp [f_X9_why_36])
  | succ n ih => intro x1 x2 σ h; rw [f_X9_why_36] at h; exact fr_b_X9_why_36 ih h
theorem fr_X9_why {N : Nat} {x1 : Int32} {σ : ZM} {res : Int32 × ZM} (h : f_X9_why N x1 σ = some res) : zag [(0, some 14), (0, some 30), (0, some 31), (12, none), (13, none), (14, none), (15, none), (16, none), (17, none), (18, none), (19, none), (20, none), (21, none), (22, none), (23, none), (24, none), (25, none), (26, none)] σ res.2 := by
  unfold f_X9_why at h
  have hA : zag [(0, some 14), (0, some 30), (0, some 31), (12, none), (13, none), (14, none), (15, none), (16, none), (17, none), (18, none), (19, none), (20, none), (21, none), (22, none), (23, none), (24, none), (25, none), (26, none)] σ σ := zag_r
  obtain ⟨r7, s8, es8, h⟩ := zc h
  replace hA := zag_t hA (zag_w (by decide) (fr_X9_isNet es8))
  rcases (zi2 h).symm with ⟨hc5, h⟩ | ⟨hc5, h⟩
  · skip
    obtain ⟨r9, s10, es10, h⟩ := zc h
    replace hA := zag_t hA (zag_w (by decide) (fr_X9_settleNow es10))
    rcases (zi2 h).symm with ⟨hc14, h⟩ | ⟨hc14, h⟩
    · skip
      obtain ⟨v11, ev11, h⟩ := zb h
      rcases (zi2 h).symm with ⟨hc28, h⟩ | ⟨hc28, h⟩
      · skip
        exact zag_t hA (fr_X9_why_36 _ _ _ _ h)
      · skip
        cases h
        exact hA
    · skip
      cases h
      exact hA
  · skip
    cases h
    exact hA
theorem fr_X9_loadOf_33 {N : Nat} {rec4 : Int32 → Int32 → Int32 → ZM → Option (Int32 × ZM)} {res : Int32 × ZM} (hr4 : ∀ (x1 : Int32) (x2 : Int32) (x3 : Int32) (σ : ZM), rec4 x1 x2 x3 σ = some res → zag [] σ res.2) {x1 : Int32} {x3 : Int32} {y0 : Int32} {y1 : Int32} {σ : ZM} (h : f_X9_loadOf_33 N rec4 x1 x3 y0 y1 σ = some res) : zag [] σ res.2 := by
  unfold f_X9_loadOf_33 at h
  have hA : zag [] σ σ := zag_r
  obtain ⟨v1, ev1, h⟩ := zb h
  obtain ⟨v2, ev2, h⟩ := zb h
  exact zag_t hA (hr4 _ _ _ _ h)
theorem fr_b_X9_loadOf_4 {N : Nat} {rec4 : Int32 → Int32 → Int32 → ZM → Option (Int32 × ZM)} {res : Int32 × ZM} (hr4 : ∀ (x1 : Int32) (x2 : Int32) (x3 : Int32) (σ : ZM), rec4 x1 x2 x3 σ = some res → zag [] σ res.2) {x1 : Int32} {x2 : Int32} {x3 : Int32} {σ : ZM} (h : b_X9_loadOf_4 N rec4 x1 x2 x3 σ = some res) : zag [] σ res.2 := by
  unfold b_X9_loadOf_4 at h
  have hA : zag [] σ σ := zag_r
  rcases zi2 h with ⟨hc9, h⟩ | ⟨hc9, h⟩
  · skip
    cases h
    exact hA
  · skip
    obtain ⟨v3, ev3, h⟩ := zb h
    rcases (zi2 h).symm with ⟨hc20, h⟩ | ⟨hc20, h⟩
    · skip
      exact zag_t hA (fr_X9_loadOf_33 hr4 h)
    · skip
      obtain ⟨v4, ev4, h⟩ := zb h
      exact zag_t hA (fr_X9_loadOf_33 hr4 h)
theorem fr_X9_loadOf_4 {N : Nat} {res : Int32 × ZM} : ∀ (n : Nat) (x1 : Int32) (x2 : Int32) (x3 : Int32) (σ : ZM), f_X9_loadOf_4 N n x1 x2 x3 σ = some res → zag [] σ res.2 := by
  intro n
  induction n with
  | zero => intro x1 x2 x3 σ h; exact absurd h (by simp [f_X9_loadOf_4])
  | succ n ih => intro x1 x2 x3 σ h; rw [f_X9_loadOf_4] at h; exact fr_b_X9_loadOf_4 ih h
theorem fr_X9_loadOf {N : Nat} {x1 : Int32} {σ : ZM} {res : Int32 × ZM} (h : f_X9_loadOf N x1 σ = some res) : zag [] σ res.2 := by
  unfold f_X9_loadOf at h
  have hA : zag [] σ σ := zag_r
  exact zag_t hA (fr_X9_loadOf_4 _ _ _ _ _ h)
theorem fr_X9_excessOf_35 {N : Nat} {rec4 : Int32 → Int32 → ZM → Option (Int32 × ZM)} {res : Int32 × ZM} (hr4 : ∀ (x1 : Int32) (x2 : Int32) (σ : ZM), rec4 x1 x2 σ = some res → zag [] σ res.2) {x2 : Int32} {y0 : Int32} {y1 : Int32} {σ : ZM} (h : f_X9_excessOf_35 N rec4 x2 y0 y1 σ = some res) : zag [] σ res.2 := by
  unfold f_X9_excessOf_35 at h
  have hA : zag [] σ σ := zag_r
  obtain ⟨v1, ev1, h⟩ := zb h
  obtain ⟨v2, ev2, h⟩ := zb h
  exact zag_t hA (hr4 _ _ _ h)
theorem fr_b_X9_excessOf_4 {N : Nat} {rec4 : Int32 → Int32 → ZM → Option (Int32 × ZM)} {res : Int32 × ZM} (hr4 : ∀ (x1 : Int32) (x2 : Int32) (σ : ZM), rec4 x1 x2 σ = some res → zag [] σ res.2) {x1 : Int32} {x2 : Int32} {σ : ZM} (h : b_X9_excessOf_4 N rec4 x1 x2 σ = some res) : zag [] σ res.2 := by
  unfold b_X9_excessOf_4 at h
  have hA : zag [] σ σ := zag_r
  rcases zi2 h with ⟨hc9, h⟩ | ⟨hc9, h⟩
  · skip
    cases h
    exact hA
  · skip
    obtain ⟨r3, s4, es4, h⟩ := zc h
    replace hA := zag_t hA (zag_w (by decide) (fr_X9_loadOf es4))
    obtain ⟨v5, ev5, h⟩ := zb h
    obtain ⟨v6, ev6, h⟩ := zb h
    rcases zi2 h with ⟨hc27, h⟩ | ⟨hc27, h⟩
    · skip
      exact zag_t hA (fr_X9_excessOf_35 hr4 h)
    · skip
      exact zag_t hA (fr_X9_excessOf_35 hr4 h)
theorem fr_X9_excessOf_4 {N : Nat} {res : Int32 × ZM} : ∀ (n : Nat) (x1 : Int32) (x2 : Int32) (σ : ZM), f_X9_excessOf_4 N n x1 x2 σ = some res → zag [] σ res.2 := by
  intro n
  induction n with
  | zero => intro x1 x2 σ h; exact absurd h (by simp [f_X9_excessOf_4])
  | succ n ih => intro x1 x2 σ h; rw [f_X9_excessOf_4] at h; exact fr_b_X9_excessOf_4 ih h
theorem fr_X9_excessOf {N : Nat} {σ : ZM} {res : Int32 × ZM} (h : f_X9_excessOf N σ = some res) : zag [] σ res.2 := by
  unfold f_X9_excessOf at h
  have hA : zag [] σ σ := zag_r
  exact zag_t hA (fr_X9_excessOf_4 _ _ _ _ h)
theorem fr_X9_sumOf_52 {N : Nat} {rec4 : Int64 → Int32 → ZM → Option (Int64 × ZM)} {res : Int64 × ZM} (hr4 : ∀ (x1 : Int64) (x3 : Int32) (σ : ZM), rec4 x1 x3 σ = some res → zag [] σ res.2) {x3 : Int32} {y0 : Int32} {y1 : Int64} {y2 : Int64} {σ : ZM} (h : f_X9_sumOf_52 N rec4 x3 y0 y1 y2 σ = some res) : zag [] σ res.2 := by
  unfold f_X9_sumOf_52 at h
  have hA : zag [] σ σ := zag_r
  obtain ⟨v1, ev1, h⟩ := zb h
  obtain ⟨v2, ev2, h⟩ := zb h
  exact zag_t hA (hr4 _ _ _ h)
theorem fr_b_X9_sumOf_4 {N : Nat} {rec4 : Int64 → Int32 → ZM → Option (Int64 × ZM)} {res : Int64 × ZM} (hr4 : ∀ (x1 : Int64) (x3 : Int32) (σ : ZM), rec4 x1 x3 σ = some res → zag [] σ res.2) {x1 : Int64} {x3 : Int32} {σ : ZM} (h : b_X9_sumOf_4 N rec4 x1 x3 σ = some res) : zag [] σ res.2 := by
  unfold b_X9_sumOf_4 at h
  have hA : zag [] σ σ := zag_r
  rcases zi2 h with ⟨hc9, h⟩ | ⟨hc9, h⟩
  · skip
    cases h
    exact hA
  · skip
    obtain ⟨v3, ev3, h⟩ := zb h
    obtain ⟨v4, ev4, h⟩ := zb h
    rcases (zi2 h).symm with ⟨hc28, h⟩ | ⟨hc28, h⟩
    · skip
      obtain ⟨v5, ev5, h⟩ := zb h
      obtain ⟨v6, ev6, h⟩ := zb h
      exact zag_t hA (fr_X9_sumOf_52 hr4 h)
    · skip
      exact zag_t hA (fr_X9_sumOf_52 hr4 h)
theorem fr_X9_sumOf_4 {N : Nat} {res : Int64 × ZM} : ∀ (n : Nat) (x1 : Int64) (x3 : Int32) (σ : ZM), f_X9_sumOf_4 N n x1 x3 σ = some res → zag [] σ res.2 := by
  intro n
  induction n with
  | zero => intro x1 x3 σ h; exact absurd h (by simp [f_X9_sumOf_4])
  | succ n ih => intro x1 x3 σ h; rw [f_X9_sumOf_4] at h; exact fr_b_X9_sumOf_4 ih h
theorem fr_X9_sumOf {N : Nat} {σ : ZM} {res : Int64 × ZM} (h : f_X9_sumOf N σ = some res) : zag [] σ res.2 := by
  unfold f_X9_sumOf at h
  have hA : zag [] σ σ := zag_r
  exact zag_t hA (fr_X9_sumOf_4 _ _ _ _ h)
theorem fr_X9_load {N : Nat} {x1 : Int32} {σ : ZM} {res : Int32 × ZM} (h : f_X9_load N x1 σ = some res) : zag [(0, some 14), (0, some 30), (0, some 31), (12, none), (13, none), (14, none), (15, none), (16, none), (17, none), (18, none), (19, none), (20, none), (21, none), (22, none), (23, none), (24, none), (25, none), (26, none)] σ res.2 := by
  unfold f_X9_load at h
  have hA : zag [(0, some 14), (0, some 30), (0, some 31), (12, none), (13, none), (14, none), (15, none), (16, none), (17, none), (18, none), (19, none), (20, none), (21, none), (22, none), (23, none), (24, none), (25, none), (26, none)] σ σ := zag_r
  obtain ⟨r1, s2, es2, h⟩ := zc h
  replace hA := zag_t hA (zag_w (by decide) (fr_X9_isSite es2))
  rcases (zi2 h).symm with ⟨hc5, h⟩ | ⟨hc5, h⟩
  · skip
    obtain ⟨r3, s4, es4, h⟩ := zc h
    replace hA := zag_t hA (zag_w (by decide) (fr_X9_settleNow es4))
    rcases zi2 h with ⟨hc14, h⟩ | ⟨hc14, h⟩
    · skip
      cases h
      exact hA
    · skip
      obtain ⟨r5, s6, es6, h⟩ := zc h
      replace hA := zag_t hA (zag_w (by decide) (fr_X9_loadOf es6))
      cases h
      exact hA
  · skip
    cases h
    exact hA
theorem fr_X9_excess {N : Nat} {σ : ZM} {res : Int32 × ZM} (h : f_X9_excess N σ = some res) : zag [(0, some 14), (0, some 30), (0, some 31), (12, none), (13, none), (14, none), (15, none), (16, none), (17, none), (18, none), (19, none), (20, none), (21, none), (22, none), (23, none), (24, none), (25, none), (26, none)] σ res.2 := by
  unfold f_X9_excess at h
  have hA : zag [(0, some 14), (0, some 30), (0, some 31), (12, none), (13, none), (14, none), (15, none), (16, none), (17, none), (18, none), (19, none), (20, none), (21, none), (22, none), (23, none), (24, none), (25, none), (26, none)] σ σ := zag_r
  obtain ⟨r1, s2, es2, h⟩ := zc h
  replace hA := zag_t hA (zag_w (by decide) (fr_X9_settleNow es2))
  rcases zi2 h with ⟨hc4, h⟩ | ⟨hc4, h⟩
  · skip
    cases h
    exact hA
  · skip
    obtain ⟨r3, s4, es4, h⟩ := zc h
    replace hA := zag_t hA (zag_w (by decide) (fr_X9_excessOf es4))
    cases h
    exact hA
theorem fr_X9_sum {N : Nat} {σ : ZM} {res : Int64 × ZM} (h : f_X9_sum N σ = some res) : zag [(0, some 14), (0, some 30), (0, some 31), (12, none), (13, none), (14, none), (15, none), (16, none), (17, none), (18, none), (19, none), (20, none), (21, none), (22, none), (23, none), (24, none), (25, none), (26, none)] σ res.2 := by
  unfold f_X9_sum at h
  have hA : zag [(0, some 14), (0, some 30), (0, some 31), (12, none), (13, none), (14, none), (15, none), (16, none), (17, none), (18, none), (19, none), (20, none), (21, none), (22, none), (23, none), (24, none), (25, none), (26, none)] σ σ := zag_r
  obtain ⟨r1, s2, es2, h⟩ := zc h
  replace hA := zag_t hA (zag_w (by decide) (fr_X9_settleNow es2))
  rcases zi2 h with ⟨hc4, h⟩ | ⟨hc4, h⟩
  · skip
    cases h
    exact hA
  · skip
    obtain ⟨r3, s4, es4, h⟩ := zc h
    replace hA := zag_t hA (zag_w (by decide) (fr_X9_sumOf es4))
    cases h
    exact hA
theorem fr_X9_without {N : Nat} {x1 : Int32} {σ : ZM} {res : Int32 × ZM} (h : f_X9_without N x1 σ = some res) : zag [(0, some 14), (0, some 30), (0, some 31), (12, none), (13, none), (14, none), (15, none), (16, none), (17, none), (18, none), (19, none), (20, none), (21, none), (22, none), (23, none), (24, none), (25, none), (26, none)] σ res.2 := by
  unfold f_X9_without at h
  have hA : zag [(0, some 14), (0, some 30), (0, some 31), (12, none), (13, none), (14, none), (15, none), (16, none), (17, none), (18, none), (19, none), (20, none), (21, none), (22, none), (23, none), (24, none), (25, none), (26, none)] σ σ := zag_r
  obtain ⟨r1, s2, es2, h⟩ := zc h
  replace hA := zag_t hA (zag_w (by decide) (fr_X9_isSite es2))
  rcases (zi2 h).symm with ⟨hc5, h⟩ | ⟨hc5, h⟩
  · skip
    obtain ⟨v3, ev3, h⟩ := zb h
    rcases (zi2 h).symm with ⟨hc16, h⟩ | ⟨hc16, h⟩
    · skip
      obtain ⟨r4, s5, es5, h⟩ := zc h
      replace hA := zag_t hA (zag_w (by decide) (fr_X9_askNow es5))
      obtain ⟨s6, es6, h⟩ := zb h
      replace hA := zag_t hA (zag_w (by decide) (zag_zast es6))
      obtain ⟨r7, s8, es8, h⟩ := zc h
      replace hA := zag_t hA (zag_w (by decide) (fr_X9_settle es8))
      rcases zi2 h with ⟨hc37, h⟩ | ⟨hc37, h⟩
      · skip
        cases h
        exact hA
      · skip
        obtain ⟨r9, s10, es10, h⟩ := zc h
        replace hA := zag_t hA (zag_w (by decide) (fr_X9_excessOf es10))
        cases h
        exact hA
    · skip
      cases h
      exact hA
  · skip
    cases h
    exact hA
theorem fr_X9_moves_123 {N : Nat} {rec85 : Int32 → Int32 → ZM → Option (Int32 × ZM)} {res : Int32 × ZM} (hr85 : ∀ (x3 : Int32) (x4 : Int32) (σ : ZM), rec85 x3 x4 σ = some res → zag [(0, some 14), (0, some 30), (0, some 31), (12, none), (13, none), (14, none), (15, none), (16, none), (17, none), (18, none), (19, none), (20, none), (21, none), (22, none), (23, none), (24, none), (25, none), (26, none), (27, none)] σ res.2) {x4 : Int32} {y0 : Int32} {y1 : Int32} {σ : ZM} (h : f_X9_moves_123 N rec85 x4 y0 y1 σ = some res) : zag [(0, some 14), (0, some 30), (0, some 31), (12, none), (13, none), (14, none), (15, none), (16, none), (17, none), (18, none), (19, none), (20, none), (21, none), (22, none), (23, none), (24, none), (25, none), (26, none), (27, none)] σ res.2 := by
  unfold f_X9_moves_123 at h
  have hA : zag [(0, some 14), (0, some 30), (0, some 31), (12, none), (13, none), (14, none), (15, none), (16, none), (17, none), (18, none), (19, none), (20, none), (21, none), (22, none), (23, none), (24, none), (25, none), (26, none), (27, none)] σ σ := zag_r
  obtain ⟨v1, ev1, h⟩ := zb h
  obtain ⟨v2, ev2, h⟩ := zb h
  exact zag_t hA (hr85 _ _ _ h)
theorem fr_b_X9_moves_85 {N : Nat} {rec85 : Int32 → Int32 → ZM → Option (Int32 × ZM)} {res : Int32 × ZM} (hr85 : ∀ (x3 : Int32) (x4 : Int32) (σ : ZM), rec85 x3 x4 σ = some res → zag [(0, some 14), (0, some 30), (0, some 31), (12, none), (13, none), (14, none), (15, none), (16, none), (17, none), (18, none), (19, none), (20, none), (21, none), (22, none), (23, none), (24, none), (25, none), (26, none), (27, none)] σ res.2) {x3 : Int32} {x4 : Int32} {σ : ZM} (h : b_X9_moves_85 N rec85 x3 x4 σ = some res) : zag [(0, some 14), (0, some 30), (0, some 31), (12, none), (13, none), (14, none), (15, none), (16, none), (17, none), (18, none), (19, none), (20, none), (21, none), (22, none), (23, none), (24, none), (25, none), (26, none), (27, none)] σ res.2 := by
  unfold b_X9_moves_85 at h
  have hA : zag [(0, some 14), (0, some 30), (0, some 31), (12, none), (13, none), (14, none), (15, none), (16, none), (17, none), (18, none), (19, none), (20, none), (21, none), (22, none), (23, none), (24, none), (25, none), (26, none), (27, none)] σ σ := zag_r
  rcases zi2 h with ⟨hc91, h⟩ | ⟨hc91, h⟩
  · skip
    cases h
    exact hA
  · skip
    obtain ⟨v3, ev3, h⟩ := zb h
    obtain ⟨v4, ev4, h⟩ := zb h
    rcases (zi2 h).symm with ⟨hc109, h⟩ | ⟨hc109, h⟩
    · skip
      obtain ⟨v5, ev5, h⟩ := zb h
      exact zag_t hA (fr_X9_moves_123 hr85 h)
    · skip
      exact zag_t hA (fr_X9_moves_123 hr85 h)
theorem fr_X9_moves_85 {N : Nat} {res : Int32 × ZM} : ∀ (n : Nat) (x3 : Int32) (x4 : Int32) (σ : ZM), f_X9_moves_85 N n x3 x4 σ = some res → zag [(0, some 14), (0, some 30), (0, some 31), (12, none), (13, none), (14, none), (15, none), (16, none), (17, none), (18, none), (19, none), (20, none), (21, none), (22, none), (23, none), (24, none), (25, none), (26, none), (27, none)] σ res.2 := by
  intro n
  induction n with
  | zero => intro x3 x4 σ h; exact absurd h (by simp [f_X9_moves_85])
  | succ n ih => intro x3 x4 σ h; rw [f_X9_moves_85] at h; exact fr_b_X9_moves_85 ih h
theorem fr_b_X9_moves_37 {N : Nat} {rec37 : Int32 → Int32 → Int32 → ZM → Option (Int32 × ZM)} {res : Int32 × ZM} (hr37 : ∀ (x1 : Int32) (x2 : Int32) (x3 : Int32) (σ : ZM), rec37 x1 x2 x3 σ = some res → zag [(0, some 14), (0, some 30), (0, some 31), (12, none), (13, none), (14, none), (15, none), (16, none), (17, none), (18, none), (19, none), (20, none), (21, none), (22, none), (23, none), (24, none), (25, none), (26, none), (27, none)] σ res.2) {x1 : Int32} {x2 : Int32} {x3 : Int32} {σ : ZM} (h : b_X9_moves_37 N rec37 x1 x2 x3 σ = some res) : zag [(0, some 14), (0, some 30), (0, some 31), (12, none), (13, none), (14, none), (15, none), (16, none), (17, none), (18, none), (19, none), (20, none), (21, none), (22, none), (23, none), (24, none), (25, none), (26, none), (27, none)] σ res.2 := by
  unfold b_X9_moves_37 at h
  have hA : zag [(0, some 14), (0, some 30), (0, some 31), (12, none), (13, none), (14, none), (15, none), (16, none), (17, none), (18, none), (19, none), (20, none), (21, none), (22, none), (23, none), (24, none), (25, none), (26, none), (27, none)] σ σ := zag_r
  rcases zi2 h with ⟨hc42, h⟩ | ⟨hc42, h⟩
  · skip
    obtain ⟨s6, es6, h⟩ := zb h
    replace hA := zag_t hA (zag_w (by decide) (zag_iast es6))
    obtain ⟨r7, s8, es8, h⟩ := zc h
    replace hA := zag_t hA (zag_w (by decide) (fr_X9_settle es8))
    rcases (zi2 h).symm with ⟨hc74, h⟩ | ⟨hc74, h⟩
    · skip
      exact zag_t hA (fr_X9_moves_85 _ _ _ _ h)
    · skip
      cases h
      exact hA
  · skip
    obtain ⟨v9, ev9, h⟩ := zb h
    obtain ⟨s10, es10, h⟩ := zb h
    replace hA := zag_t hA (zag_w (by decide) (zag_iast es10))
    obtain ⟨v11, ev11, h⟩ := zb h
    exact zag_t hA (hr37 _ _ _ _ h)
theorem fr_X9_moves_37 {N : Nat} {res : Int32 × ZM} : ∀ (n : Nat) (x1 : Int32) (x2 : Int32) (x3 : Int32) (σ : ZM), f_X9_moves_37 N n x1 x2 x3 σ = some res → zag [(0, some 14), (0, some 30), (0, some 31), (12, none), (13, none), (14, none), (15, none), (16, none), (17, none), (18, none), (19, none), (20, none), (21, none), (22, none), (23, none), (24, none), (25, none), (26, none), (27, none)] σ res.2 := by
  intro n
  induction n with
  | zero => intro x1 x2 x3 σ h; exact absurd h (by simp [f_X9_moves_37])
  | succ n ih => intro x1 x2 x3 σ h; rw [f_X9_moves_37] at h; exact fr_b_X9_moves_37 ih h
theorem fr_X9_moves {N : Nat} {x1 : Int32} {x2 : Int32} {σ : ZM} {res : Int32 × ZM} (h : f_X9_moves N x1 x2 σ = some res) : zag [(0, some 14), (0, some 30), (0, some 31), (12, none), (13, none), (14, none), (15, none), (16, none), (17, none), (18, none), (19, none), (20, none), (21, none), (22, none), (23, none), (24, none), (25, none), (26, none), (27, none)] σ res.2 := by
  unfold f_X9_moves at h
  have hA : zag [(0, some 14), (0, some 30), (0, some 31), (12, none), (13, none), (14, none), (15, none), (16, none), (17, none), (18, none), (19, none), (20, none), (21, none), (22, none), (23, none), (24, none), (25, none), (26, none), (27, none)] σ σ := zag_r
  obtain ⟨r12, s13, es13, h⟩ := zc h
  replace hA := zag_t hA (zag_w (by decide) (fr_X9_isSite es13))
  rcases (zi2 h).symm with ⟨hc5, h⟩ | ⟨hc5, h⟩
  · skip
    obtain ⟨r14, s15, es15, h⟩ := zc h
    replace hA := zag_t hA (zag_w (by decide) (fr_X9_in es15))
    rcases (zi2 h).symm with ⟨hc19, h⟩ | ⟨hc19, h⟩
    · skip
      obtain ⟨r16, s17, es17, h⟩ := zc h
      replace hA := zag_t hA (zag_w (by decide) (fr_X9_settleNow es17))
      rcases (zi2 h).symm with ⟨hc29, h⟩ | ⟨hc29, h⟩
      · skip
        exact zag_t hA (fr_X9_moves_37 _ _ _ _ _ h)
      · skip
        cases h
        exact hA
    · skip
      cases h
      exact hA
  · skip
    cases h
    exact hA
theorem fr_b_X9_trial_116 {N : Nat} {rec116 : Int32 → ZM → Option (Int32 × ZM)} {res : Int32 × ZM} (hr116 : ∀ (x1 : Int32) (σ : ZM), rec116 x1 σ = some res → zag [(0, some 33), (28, none), (29, none), (30, none), (31, none), (32, none), (33, none)] σ res.2) {x1 : Int32} {σ : ZM} (h : b_X9_trial_116 N rec116 x1 σ = some res) : zag [(0, some 33), (28, none), (29, none), (30, none), (31, none), (32, none), (33, none)] σ res.2 := by
  unfold b_X9_trial_116 at h
  have hA : zag [(0, some 33), (28, none), (29, none), (30, none), (31, none), (32, none), (33, none)] σ σ := zag_r
  rcases zi2 h with ⟨hc119, h⟩ | ⟨hc119, h⟩
  · skip
    obtain ⟨s1, es1, h⟩ := zb h
    replace hA := zag_t hA (zag_w (by decide) (zag_putI es1))
    cases h
    exact hA
  · skip
    obtain ⟨s2, es2, h⟩ := zb h
    replace hA := zag_t hA (zag_w (by decide) (zag_iast es2))
    obtain ⟨v3, ev3, h⟩ := zb h
    exact zag_t hA (hr116 _ _ h)
theorem fr_X9_trial_116 {N : Nat} {res : Int32 × ZM} : ∀ (n : Nat) (x1 : Int32) (σ : ZM), f_X9_trial_116 N n x1 σ = some res → zag [(0, some 33), (28, none), (29, none), (30, none), (31, none), (32, none), (33, none)] σ res.2 := by
  intro n
  induction n with
  | zero => intro x1 σ h; exact absurd h (by simp [f_X9_trial_116])
  | succ n ih => intro x1 σ h; rw [f_X9_trial_116] at h; exact fr_b_X9_trial_116 ih h
theorem fr_b_X9_trial_27 {N : Nat} {rec27 : Int32 → ZM → Option (Int32 × ZM)} {res : Int32 × ZM} (hr27 : ∀ (x1 : Int32) (σ : ZM), rec27 x1 σ = some res → zag [(0, some 33), (28, none), (29, none), (30, none), (31, none), (32, none), (33, none)] σ res.2) {x1 : Int32} {σ : ZM} (h : b_X9_trial_27 N rec27 x1 σ = some res) : zag [(0, some 33), (28, none), (29, none), (30, none), (31, none), (32, none), (33, none)] σ res.2 := by
  unfold b_X9_trial_27 at h
  have hA : zag [(0, some 33), (28, none), (29, none), (30, none), (31, none), (32, none), (33, none)] σ σ := zag_r
  rcases zi2 h with ⟨hc29, h⟩ | ⟨hc29, h⟩
  · skip
    exact zag_t hA (fr_X9_trial_116 _ _ _ h)
  · skip
    obtain ⟨v4, ev4, h⟩ := zb h
    obtain ⟨s5, es5, h⟩ := zb h
    replace hA := zag_t hA (zag_w (by decide) (zag_iast es5))
    obtain ⟨v6, ev6, h⟩ := zb h
    obtain ⟨s7, es7, h⟩ := zb h
    replace hA := zag_t hA (zag_w (by decide) (zag_iast es7))
    obtain ⟨v8, ev8, h⟩ := zb h
    obtain ⟨s9, es9, h⟩ := zb h
    replace hA := zag_t hA (zag_w (by decide) (zag_zast es9))
    obtain ⟨v10, ev10, h⟩ := zb h
    obtain ⟨s11, es11, h⟩ := zb h
    replace hA := zag_t hA (zag_w (by decide) (zag_zast es11))
    obtain ⟨v12, ev12, h⟩ := zb h
    exact zag_t hA (hr27 _ _ h)
theorem fr_X9_trial_27 {N : Nat} {res : Int32 × ZM} : ∀ (n : Nat) (x1 : Int32) (σ : ZM), f_X9_trial_27 N n x1 σ = some res → zag [(0, some 33), (28, none), (29, none), (30, none), (31, none), (32, none), (33, none)] σ res.2 := by
  intro n
  induction n with
  | zero => intro x1 σ h; exact absurd h (by simp [f_X9_trial_27])
  | succ n ih => intro x1 σ h; rw [f_X9_trial_27] at h; exact fr_b_X9_trial_27 ih h
theorem fr_X9_trial {N : Nat} {σ : ZM} {res : Int32 × ZM} (h : f_X9_trial N σ = some res) : zag [(0, some 33), (28, none), (29, none), (30, none), (31, none), (32, none), (33, none)] σ res.2 := by
  unfold f_X9_trial at h
  have hA : zag [(0, some 33), (28, none), (29, none), (30, none), (31, none), (32, none), (33, none)] σ σ := zag_r
  rcases (zi2 h).symm with ⟨hc6, h⟩ | ⟨hc6, h⟩
  · skip
    obtain ⟨s13, es13, h⟩ := zb h
    replace hA := zag_t hA (zag_w (by decide) (zag_iast es13))
    exact zag_t hA (fr_X9_trial_27 _ _ _ h)
  · skip
    cases h
    exact hA
theorem fr_X9_seen_45 {N : Nat} {res : Int32 × ZM} {x1 : Int32} {x2 : Int32} {x3 : Int32} {σ : ZM} (h : f_X9_seen_45 N x1 x2 x3 σ = some res) : zag [(33, none)] σ res.2 := by
  unfold f_X9_seen_45 at h
  have hA : zag [(33, none)] σ σ := zag_r
  obtain ⟨v1, ev1, h⟩ := zb h
  obtain ⟨s2, es2, h⟩ := zb h
  replace hA := zag_t hA (zag_w (by decide) (zag_iast es2))
  cases h
  exact hA
theorem fr_X9_seen {N : Nat} {x1 : Int32} {x2 : Int32} {x3 : Int32} {σ : ZM} {res : Int32 × ZM} (h : f_X9_seen N x1 x2 x3 σ = some res) : zag [(33, none)] σ res.2 := by
  unfold f_X9_seen at h
  have hA : zag [(33, none)] σ σ := zag_r
  obtain ⟨r3, s4, es4, h⟩ := zc h
  replace hA := zag_t hA (zag_w (by decide) (fr_X9_in es4))
  rcases zi2 h with ⟨hc13, h⟩ | ⟨hc13, h⟩
  · skip
    cases h
    exact hA
  · skip
    obtain ⟨r5, s6, es6, h⟩ := zc h
    replace hA := zag_t hA (zag_w (by decide) (fr_X9_isNet es6))
    rcases zi2 h with ⟨hc21, h⟩ | ⟨hc21, h⟩
    · skip
      cases h
      exact hA
    · skip
      rcases zi2 h with ⟨hc27, h⟩ | ⟨hc27, h⟩
      · skip
        exact zag_t hA (fr_X9_seen_45 h)
      · skip
        rcases zi2 h with ⟨hc32, h⟩ | ⟨hc32, h⟩
        · skip
          exact zag_t hA (fr_X9_seen_45 h)
        · skip
          obtain ⟨r7, s8, es8, h⟩ := zc h
          replace hA := zag_t hA (zag_w (by decide) (fr_X9_isSite es8))
          rcases (zi2 h).symm with ⟨hc40, h⟩ | ⟨hc40, h⟩
          · skip
            exact zag_t hA (fr_X9_seen_45 h)
          · skip
            cases h
            exact hA
theorem fr_b_X9_askTrial_12 {N : Nat} {rec12 : Int32 → Int32 → ZM → Option (Unit × ZM)} {res : Unit × ZM} (hr12 : ∀ (x1 : Int32) (x2 : Int32) (σ : ZM), rec12 x1 x2 σ = some res → zag [(0, some 14), (12, none), (13, none), (14, none), (15, none)] σ res.2) {x1 : Int32} {x2 : Int32} {σ : ZM} (h : b_X9_askTrial_12 N rec12 x1 x2 σ = some res) : zag [(0, some 14), (12, none), (13, none), (14, none), (15, none)] σ res.2 := by
  unfold b_X9_askTrial_12 at h
  have hA : zag [(0, some 14), (12, none), (13, none), (14, none), (15, none)] σ σ := zag_r
  rcases zi2 h with ⟨hc14, h⟩ | ⟨hc14, h⟩
  · skip
    cases h
    exact hA
  · skip
    obtain ⟨v1, ev1, h⟩ := zb h
    obtain ⟨s2, es2, h⟩ := zb h
    replace hA := zag_t hA (zag_w (by decide) (zag_iast es2))
    obtain ⟨v3, ev3, h⟩ := zb h
    obtain ⟨s4, es4, h⟩ := zb h
    replace hA := zag_t hA (zag_w (by decide) (zag_iast es4))
    obtain ⟨v5, ev5, h⟩ := zb h
    obtain ⟨s6, es6, h⟩ := zb h
    replace hA := zag_t hA (zag_w (by decide) (zag_zast es6))
    obtain ⟨v7, ev7, h⟩ := zb h
    obtain ⟨s8, es8, h⟩ := zb h
    replace hA := zag_t hA (zag_w (by decide) (zag_zast es8))
    obtain ⟨v9, ev9, h⟩ := zb h
    exact zag_t hA (hr12 _ _ _ h)
theorem fr_X9_askTrial_12 {N : Nat} {res : Unit × ZM} : ∀ (n : Nat) (x1 : Int32) (x2 : Int32) (σ : ZM), f_X9_askTrial_12 N n x1 x2 σ = some res → zag [(0, some 14), (12, none), (13, none), (14, none), (15, none)] σ res.2 := by
  intro n
  induction n with
  | zero => intro x1 x2 σ h; exact absurd h (by simp [f_X9_askTrial_12])
  | succ n ih => intro x1 x2 σ h; rw [f_X9_askTrial_12] at h; exact fr_b_X9_askTrial_12 ih h
theorem fr_X9_askTrial {N : Nat} {x1 : Int32} {σ : ZM} {res : Unit × ZM} (h : f_X9_askTrial N x1 σ = some res) : zag [(0, some 14), (12, none), (13, none), (14, none), (15, none)] σ res.2 := by
  unfold f_X9_askTrial at h
  have hA : zag [(0, some 14), (12, none), (13, none), (14, none), (15, none)] σ σ := zag_r
  obtain ⟨v10, ev10, h⟩ := zb h
  obtain ⟨s11, es11, h⟩ := zb h
  replace hA := zag_t hA (zag_w (by decide) (zag_putI es11))
  exact zag_t hA (fr_X9_askTrial_12 _ _ _ _ h)
theorem fr_X9_ones {N : Nat} {x0 : Int32} {σ : ZM} {res : Int32 × ZM} (h : f_X9_ones N x0 σ = some res) : zag [] σ res.2 := by
  unfold f_X9_ones at h
  have hA : zag [] σ σ := zag_r
  cases h
  exact hA
theorem fr_X9_caseMany_37 {N : Nat} {res : Int32 × ZM} {x1 : Int32} {σ : ZM} (h : f_X9_caseMany_37 N x1 σ = some res) : zag [] σ res.2 := by
  unfold f_X9_caseMany_37 at h
  have hA : zag [] σ σ := zag_r
  cases h
  exact hA
theorem fr_b_X9_caseMany_4 {N : Nat} {rec4 : Int32 → Int32 → ZM → Option (Int32 × ZM)} {res : Int32 × ZM} (hr4 : ∀ (x1 : Int32) (x2 : Int32) (σ : ZM), rec4 x1 x2 σ = some res → zag [] σ res.2) {x1 : Int32} {x2 : Int32} {σ : ZM} (h : b_X9_caseMany_4 N rec4 x1 x2 σ = some res) : zag [] σ res.2 := by
  unfold b_X9_caseMany_4 at h
  have hA : zag [] σ σ := zag_r
  rcases zi2 h with ⟨hc9, h⟩ | ⟨hc9, h⟩
  · skip
    exact zag_t hA (fr_X9_caseMany_37 h)
  · skip
    rcases zi2 h with ⟨hc16, h⟩ | ⟨hc16, h⟩
    · skip
      exact zag_t hA (fr_X9_caseMany_37 h)
    · skip
      obtain ⟨v1, ev1, h⟩ := zb h
      obtain ⟨r2, s3, es3, h⟩ := zc h
      replace hA := zag_t hA (zag_w (by decide) (fr_X9_ones es3))
      obtain ⟨v4, ev4, h⟩ := zb h
      obtain ⟨v5, ev5, h⟩ := zb h
      exact zag_t hA (hr4 _ _ _ h)
theorem fr_X9_caseMany_4 {N : Nat} {res : Int32 × ZM} : ∀ (n : Nat) (x1 : Int32) (x2 : Int32) (σ : ZM), f_X9_caseMany_4 N n x1 x2 σ = some res → zag [] σ res.2 := by
  intro n
  induction n with
  | zero => intro x1 x2 σ h; exact absurd h (by simp [f_X9_caseMany_4])
  | succ n ih => intro x1 x2 σ h; rw [f_X9_caseMany_4] at h; exact fr_b_X9_caseMany_4 ih h
theorem fr_X9_caseMany {N : Nat} {σ : ZM} {res : Int32 × ZM} (h : f_X9_caseMany N σ = some res) : zag [] σ res.2 := by
  unfold f_X9_caseMany at h
  have hA : zag [] σ σ := zag_r
  exact zag_t hA (fr_X9_caseMany_4 _ _ _ _ h)
theorem fr_X9_cases {N : Nat} {σ : ZM} {res : Int32 × ZM} (h : f_X9_cases N σ = some res) : zag [] σ res.2 := by
  unfold f_X9_cases at h
  have hA : zag [] σ σ := zag_r
  obtain ⟨r1, s2, es2, h⟩ := zc h
  replace hA := zag_t hA (zag_w (by decide) (fr_X9_caseMany es2))
  rcases zi2 h with ⟨hc9, h⟩ | ⟨hc9, h⟩
  · skip
    cases h
    exact hA
  · skip
    cases h
    exact hA
theorem fr_b_X9_askCase_48 {N : Nat} {rec4 : Int32 → Int32 → ZM → Option (Unit × ZM)} {rec48 : Int32 → Int32 → Int32 → Int32 → ZM → Option (Unit × ZM)} {res : Unit × ZM} (hr4 : ∀ (x2 : Int32) (x3 : Int32) (σ : ZM), rec4 x2 x3 σ = some res → zag [(16, none)] σ res.2) (hr48 : ∀ (x2 : Int32) (x3 : Int32) (x4 : Int32) (x5 : Int32) (σ : ZM), rec48 x2 x3 x4 x5 σ = some res → zag [(16, none)] σ res.2) {x2 : Int32} {x3 : Int32} {x4 : Int32} {x5 : Int32} {σ : ZM} (h : b_X9_askCase_48 N rec4 rec48 x2 x3 x4 x5 σ = some res) : zag [(16, none)] σ res.2 := by
  unfold b_X9_askCase_48 at h
  have hA : zag [(16, none)] σ σ := zag_r
  rcases zi2 h with ⟨hc50, h⟩ | ⟨hc50, h⟩
  · skip
    obtain ⟨s1, es1, h⟩ := zb h
    replace hA := zag_t hA (zag_w (by decide) (zag_iast es1))
    obtain ⟨v2, ev2, h⟩ := zb h
    exact zag_t hA (hr4 _ _ _ h)
  · skip
    obtain ⟨v3, ev3, h⟩ := zb h
    obtain ⟨v4, ev4, h⟩ := zb h
    obtain ⟨v5, ev5, h⟩ := zb h
    exact zag_t hA (hr48 _ _ _ _ _ h)
theorem fr_X9_askCase_48 {N : Nat} {rec4 : Int32 → Int32 → ZM → Option (Unit × ZM)} {res : Unit × ZM} (hr4 : ∀ (x2 : Int32) (x3 : Int32) (σ : ZM), rec4 x2 x3 σ = some res → zag [(16, none)] σ res.2) : ∀ (n : Nat) (x2 : Int32) (x3 : Int32) (x4 : Int32) (x5 : Int32) (σ : ZM), f_X9_askCase_48 N rec4 n x2 x3 x4 x5 σ = some res → zag [(16, none)] σ res.2 := by
  intro n
  induction n with
  | zero => intro x2 x3 x4 x5 σ h; exact absurd h (by simp [f_X9_askCase_48])
  | succ n ih => intro x2 x3 x4 x5 σ h; rw [f_X9_askCase_48] at h; exact fr_b_X9_askCase_48 hr4 ih h
theorem fr_b_X9_askCase_4 {N : Nat} {rec4 : Int32 → Int32 → ZM → Option (Unit × ZM)} {res : Unit × ZM} (hr4 : ∀ (x2 : Int32) (x3 : Int32) (σ : ZM), rec4 x2 x3 σ = some res → zag [(16, none)] σ res.2) {x2 : Int32} {x3 : Int32} {σ : ZM} (h : b_X9_askCase_4 N rec4 x2 x3 σ = some res) : zag [(16, none)] σ res.2 := by
  unfold b_X9_askCase_4 at h
  have hA : zag [(16, none)] σ σ := zag_r
  rcases zi2 h with ⟨hc9, h⟩ | ⟨hc9, h⟩
  · skip
    cases h
    exact hA
  · skip
    obtain ⟨v6, ev6, h⟩ := zb h
    obtain ⟨r7, s8, es8, h⟩ := zc h
    replace hA := zag_t hA (zag_w (by decide) (fr_X9_ones es8))
    obtain ⟨v9, ev9, h⟩ := zb h
    obtain ⟨v10, ev10, h⟩ := zb h
    obtain ⟨r11, s12, es12, h⟩ := zc h
    replace hA := zag_t hA (zag_w (by decide) (fr_X9_ones es12))
    obtain ⟨v13, ev13, h⟩ := zb h
    obtain ⟨v14, ev14, h⟩ := zb h
    obtain ⟨r15, s16, es16, h⟩ := zc h
    replace hA := zag_t hA (zag_w (by decide) (fr_X9_least es16))
    exact zag_t hA (fr_X9_askCase_48 hr4 _ _ _ _ _ _ h)
theorem fr_X9_askCase_4 {N : Nat} {res : Unit × ZM} : ∀ (n : Nat) (x2 : Int32) (x3 : Int32) (σ : ZM), f_X9_askCase_4 N n x2 x3 σ = some res → zag [(16, none)] σ res.2 := by
  intro n
  induction n with
  | zero => intro x2 x3 σ h; exact absurd h (by simp [f_X9_askCase_4])
  | succ n ih => intro x2 x3 σ h; rw [f_X9_askCase_4] at h; exact fr_b_X9_askCase_4 ih h
theorem fr_X9_askCase {N : Nat} {x1 : Int32} {σ : ZM} {res : Unit × ZM} (h : f_X9_askCase N x1 σ = some res) : zag [(16, none)] σ res.2 := by
  unfold f_X9_askCase at h
  have hA : zag [(16, none)] σ σ := zag_r
  exact zag_t hA (fr_X9_askCase_4 _ _ _ _ h)
theorem fr_X9_agrees_132 {N : Nat} {rec2 : Int32 → Int32 → Int32 → ZM → Option (Int32 × ZM)} {res : Int32 × ZM} (hr2 : ∀ (x1 : Int32) (x2 : Int32) (x3 : Int32) (σ : ZM), rec2 x1 x2 x3 σ = some res → zag [(0, some 14), (0, some 30), (0, some 31), (12, none), (13, none), (14, none), (15, none), (16, none), (17, none), (18, none), (19, none), (20, none), (21, none), (22, none), (23, none), (24, none), (25, none), (26, none)] σ res.2) {x1 : Int32} {x2 : Int32} {x3 : Int32} {σ : ZM} (h : f_X9_agrees_132 N rec2 x1 x2 x3 σ = some res) : zag [(0, some 14), (0, some 30), (0, some 31), (12, none), (13, none), (14, none), (15, none), (16, none), (17, none), (18, none), (19, none), (20, none), (21, none), (22, none), (23, none), (24, none), (25, none), (26, none)] σ res.2 := by
  unfold f_X9_agrees_132 at h
  have hA : zag [(0, some 14), (0, some 30), (0, some 31), (12, none), (13, none), (14, none), (15, none), (16, none), (17, none), (18, none), (19, none), (20, none), (21, none), (22, none), (23, none), (24, none), (25, none), (26, none)] σ σ := zag_r
  obtain ⟨v1, ev1, h⟩ := zb h
  exact zag_t hA (hr2 _ _ _ _ h)
theorem fr_X9_agrees_126 {N : Nat} {rec2 : Int32 → Int32 → Int32 → ZM → Option (Int32 × ZM)} {rec83 : Int32 → Int32 → Int32 → Int32 → ZM → Option (Int32 × ZM)} {res : Int32 × ZM} (hr2 : ∀ (x1 : Int32) (x2 : Int32) (x3 : Int32) (σ : ZM), rec2 x1 x2 x3 σ = some res → zag [(0, some 14), (0, some 30), (0, some 31), (12, none), (13, none), (14, none), (15, none), (16, none), (17, none), (18, none), (19, none), (20, none), (21, none), (22, none), (23, none), (24, none), (25, none), (26, none)] σ res.2) (hr83 : ∀ (x1 : Int32) (x2 : Int32) (x3 : Int32) (x5 : Int32) (σ : ZM), rec83 x1 x2 x3 x5 σ = some res → zag [(0, some 14), (0, some 30), (0, some 31), (12, none), (13, none), (14, none), (15, none), (16, none), (17, none), (18, none), (19, none), (20, none), (21, none), (22, none), (23, none), (24, none), (25, none), (26, none)] σ res.2) {x1 : Int32} {x2 : Int32} {x3 : Int32} {x5 : Int32} {σ : ZM} (h : f_X9_agrees_126 N rec2 rec83 x1 x2 x3 x5 σ = some res) : zag [(0, some 14), (0, some 30), (0, some 31), (12, none), (13, none), (14, none), (15, none), (16, none), (17, none), (18, none), (19, none), (20, none), (21, none), (22, none), (23, none), (24, none), (25, none), (26, none)] σ res.2 := by
  unfold f_X9_agrees_126 at h
  have hA : zag [(0, some 14), (0, some 30), (0, some 31), (12, none), (13, none), (14, none), (15, none), (16, none), (17, none), (18, none), (19, none), (20, none), (21, none), (22, none), (23, none), (24, none), (25, none), (26, none)] σ σ := zag_r
  obtain ⟨v2, ev2, h⟩ := zb h
  exact zag_t hA (hr83 _ _ _ _ _ h)
theorem fr_b_X9_agrees_83 {N : Nat} {rec2 : Int32 → Int32 → Int32 → ZM → Option (Int32 × ZM)} {rec83 : Int32 → Int32 → Int32 → Int32 → ZM → Option (Int32 × ZM)} {res : Int32 × ZM} (hr2 : ∀ (x1 : Int32) (x2 : Int32) (x3 : Int32) (σ : ZM), rec2 x1 x2 x3 σ = some res → zag [(0, some 14), (0, some 30), (0, some 31), (12, none), (13, none), (14, none), (15, none), (16, none), (17, none), (18, none), (19, none), (20, none), (21, none), (22, none), (23, none), (24, none), (25, none), (26, none)] σ res.2) (hr83 : ∀ (x1 : Int32) (x2 : Int32) (x3 : Int32) (x5 : Int32) (σ : ZM), rec83 x1 x2 x3 x5 σ = some res → zag [(0, some 14), (0, some 30), (0, some 31), (12, none), (13, none), (14, none), (15, none), (16, none), (17, none), (18, none), (19, none), (20, none), (21, none), (22, none), (23, none), (24, none), (25, none), (26, none)] σ res.2) {x1 : Int32} {x2 : Int32} {x3 : Int32} {x5 : Int32} {σ : ZM} (h : b_X9_agrees_83 N rec2 rec83 x1 x2 x3 x5 σ = some res) : zag [(0, some 14), (0, some 30), (0, some 31), (12, none), (13, none), (14, none), (15, none), (16, none), (17, none), (18, none), (19, none), (20, none), (21, none), (22, none), (23, none), (24, none), (25, none), (26, none)] σ res.2 := by
  unfold b_X9_agrees_83 at h
  have hA : zag [(0, some 14), (0, some 30), (0, some 31), (12, none), (13, none), (14, none), (15, none), (16, none), (17, none), (18, none), (19, none), (20, none), (21, none), (22, none), (23, none), (24, none), (25, none), (26, none)] σ σ := zag_r
  rcases zi2 h with ⟨hc89, h⟩ | ⟨hc89, h⟩
  · skip
    exact zag_t hA (fr_X9_agrees_132 hr2 h)
  · skip
    obtain ⟨v3, ev3, h⟩ := zb h
    rcases zi2 h with ⟨hc109, h⟩ | ⟨hc109, h⟩
    · skip
      exact zag_t hA (fr_X9_agrees_126 hr2 hr83 h)
    · skip
      obtain ⟨v4, ev4, h⟩ := zb h
      rcases zi2 h with ⟨hc121, h⟩ | ⟨hc121, h⟩
      · skip
        exact zag_t hA (fr_X9_agrees_126 hr2 hr83 h)
      · skip
        cases h
        exact hA
theorem fr_X9_agrees_83 {N : Nat} {rec2 : Int32 → Int32 → Int32 → ZM → Option (Int32 × ZM)} {res : Int32 × ZM} (hr2 : ∀ (x1 : Int32) (x2 : Int32) (x3 : Int32) (σ : ZM), rec2 x1 x2 x3 σ = some res → zag [(0, some 14), (0, some 30), (0, some 31), (12, none), (13, none), (14, none), (15, none), (16, none), (17, none), (18, none), (19, none), (20, none), (21, none), (22, none), (23, none), (24, none), (25, none), (26, none)] σ res.2) : ∀ (n : Nat) (x1 : Int32) (x2 : Int32) (x3 : Int32) (x5 : Int32) (σ : ZM), f_X9_agrees_83 N rec2 n x1 x2 x3 x5 σ = some res → zag [(0, some 14), (0, some 30), (0, some 31), (12, none), (13, none), (14, none), (15, none), (16, none), (17, none), (18, none), (19, none), (20, none), (21, none), (22, none), (23, none), (24, none), (25, none), (26, none)] σ res.2 := by
  intro n
  induction n with
  | zero => intro x1 x2 x3 x5 σ h; exact absurd h (by simp [f_X9_agrees_83])
  | succ n ih => intro x1 x2 x3 x5 σ h; rw [f_X9_agrees_83] at h; exact fr_b_X9_agrees_83 hr2 ih h
theorem fr_X9_agrees_48 {N : Nat} {rec2 : Int32 → Int32 → Int32 → ZM → Option (Int32 × ZM)} {rec13 : Int32 → Int32 → Int32 → Int32 → Int32 → ZM → Option (Int32 × ZM)} {res : Int32 × ZM} (hr2 : ∀ (x1 : Int32) (x2 : Int32) (x3 : Int32) (σ : ZM), rec2 x1 x2 x3 σ = some res → zag [(0, some 14), (0, some 30), (0, some 31), (12, none), (13, none), (14, none), (15, none), (16, none), (17, none), (18, none), (19, none), (20, none), (21, none), (22, none), (23, none), (24, none), (25, none), (26, none)] σ res.2) (hr13 : ∀ (x1 : Int32) (x2 : Int32) (x3 : Int32) (x4 : Int32) (x5 : Int32) (σ : ZM), rec13 x1 x2 x3 x4 x5 σ = some res → zag [(0, some 14), (0, some 30), (0, some 31), (12, none), (13, none), (14, none), (15, none), (16, none), (17, none), (18, none), (19, none), (20, none), (21, none), (22, none), (23, none), (24, none), (25, none), (26, none)] σ res.2) {x1 : Int32} {x2 : Int32} {x3 : Int32} {x5 : Int32} {y0 : Int32} {σ : ZM} (h : f_X9_agrees_48 N rec2 rec13 x1 x2 x3 x5 y0 σ = some res) : zag [(0, some 14), (0, some 30), (0, some 31), (12, none), (13, none), (14, none), (15, none), (16, none), (17, none), (18, none), (19, none), (20, none), (21, none), (22, none), (23, none), (24, none), (25, none), (26, none)] σ res.2 := by
  unfold f_X9_agrees_48 at h
  have hA : zag [(0, some 14), (0, some 30), (0, some 31), (12, none), (13, none), (14, none), (15, none), (16, none), (17, none), (18, none), (19, none), (20, none), (21, none), (22, none), (23, none), (24, none), (25, none), (26, none)] σ σ := zag_r
  obtain ⟨v5, ev5, h⟩ := zb h
  exact zag_t hA (hr13 _ _ _ _ _ _ h)
theorem fr_X9_agrees_43 {N : Nat} {rec2 : Int32 → Int32 → Int32 → ZM → Option (Int32 × ZM)} {rec13 : Int32 → Int32 → Int32 → Int32 → Int32 → ZM → Option (Int32 × ZM)} {res : Int32 × ZM} (hr2 : ∀ (x1 : Int32) (x2 : Int32) (x3 : Int32) (σ : ZM), rec2 x1 x2 x3 σ = some res → zag [(0, some 14), (0, some 30), (0, some 31), (12, none), (13, none), (14, none), (15, none), (16, none), (17, none), (18, none), (19, none), (20, none), (21, none), (22, none), (23, none), (24, none), (25, none), (26, none)] σ res.2) (hr13 : ∀ (x1 : Int32) (x2 : Int32) (x3 : Int32) (x4 : Int32) (x5 : Int32) (σ : ZM), rec13 x1 x2 x3 x4 x5 σ = some res → zag [(0, some 14), (0, some 30), (0, some 31), (12, none), (13, none), (14, none), (15, none), (16, none), (17, none), (18, none), (19, none), (20, none), (21, none), (22, none), (23, none), (24, none), (25, none), (26, none)] σ res.2) {x1 : Int32} {x2 : Int32} {x3 : Int32} {x5 : Int32} {σ : ZM} (h : f_X9_agrees_43 N rec2 rec13 x1 x2 x3 x5 σ = some res) : zag [(0, some 14), (0, some 30), (0, some 31), (12, none), (13, none), (14, none), (15, none), (16, none), (17, none), (18, none), (19, none), (20, none), (21, none), (22, none), (23, none), (24, none), (25, none), (26, none)] σ res.2 := by
  unfold f_X9_agrees_43 at h
  have hA : zag [(0, some 14), (0, some 30), (0, some 31), (12, none), (13, none), (14, none), (15, none), (16, none), (17, none), (18, none), (19, none), (20, none), (21, none), (22, none), (23, none), (24, none), (25, none), (26, none)] σ σ := zag_r
  exact zag_t hA (fr_X9_agrees_48 hr2 hr13 h)
theorem fr_b_X9_agrees_13 {N : Nat} {rec2 : Int32 → Int32 → Int32 → ZM → Option (Int32 × ZM)} {rec13 : Int32 → Int32 → Int32 → Int32 → Int32 → ZM → Option (Int32 × ZM)} {res : Int32 × ZM} (hr2 : ∀ (x1 : Int32) (x2 : Int32) (x3 : Int32) (σ : ZM), rec2 x1 x2 x3 σ = some res → zag [(0, some 14), (0, some 30), (0, some 31), (12, none), (13, none), (14, none), (15, none), (16, none), (17, none), (18, none), (19, none), (20, none), (21, none), (22, none), (23, none), (24, none), (25, none), (26, none)] σ res.2) (hr13 : ∀ (x1 : Int32) (x2 : Int32) (x3 : Int32) (x4 : Int32) (x5 : Int32) (σ : ZM), rec13 x1 x2 x3 x4 x5 σ = some res → zag [(0, some 14), (0, some 30), (0, some 31), (12, none), (13, none), (14, none), (15, none), (16, none), (17, none), (18, none), (19, none), (20, none), (21, none), (22, none), (23, none), (24, none), (25, none), (26, none)] σ res.2) {x1 : Int32} {x2 : Int32} {x3 : Int32} {x4 : Int32} {x5 : Int32} {σ : ZM} (h : b_X9_agrees_13 N rec2 rec13 x1 x2 x3 x4 x5 σ = some res) : zag [(0, some 14), (0, some 30), (0, some 31), (12, none), (13, none), (14, none), (15, none), (16, none), (17, none), (18, none), (19, none), (20, none), (21, none), (22, none), (23, none), (24, none), (25, none), (26, none)] σ res.2 := by
  unfold b_X9_agrees_13 at h
  have hA : zag [(0, some 14), (0, some 30), (0, some 31), (12, none), (13, none), (14, none), (15, none), (16, none), (17, none), (18, none), (19, none), (20, none), (21, none), (22, none), (23, none), (24, none), (25, none), (26, none)] σ σ := zag_r
  rcases zi2 h with ⟨hc19, h⟩ | ⟨hc19, h⟩
  · skip
    rcases zi2 h with ⟨hc58, h⟩ | ⟨hc58, h⟩
    · skip
      exact zag_t hA (fr_X9_agrees_132 hr2 h)
    · skip
      obtain ⟨r6, s7, es7, h⟩ := zc h
      replace hA := zag_t hA (zag_w (by decide) (fr_X9_askTrial es7))
      obtain ⟨r8, s9, es9, h⟩ := zc h
      replace hA := zag_t hA (zag_w (by decide) (fr_X9_askCase es9))
      obtain ⟨r10, s11, es11, h⟩ := zc h
      replace hA := zag_t hA (zag_w (by decide) (fr_X9_settle es11))
      rcases (zi2 h).symm with ⟨hc75, h⟩ | ⟨hc75, h⟩
      · skip
        exact zag_t hA (fr_X9_agrees_83 hr2 _ _ _ _ _ _ h)
      · skip
        cases h
        exact hA
  · skip
    rcases (zi2 h).symm with ⟨hc24, h⟩ | ⟨hc24, h⟩
    · skip
      exact zag_t hA (fr_X9_agrees_43 hr2 hr13 h)
    · skip
      obtain ⟨v12, ev12, h⟩ := zb h
      rcases zi2 h with ⟨hc40, h⟩ | ⟨hc40, h⟩
      · skip
        exact zag_t hA (fr_X9_agrees_48 hr2 hr13 h)
      · skip
        exact zag_t hA (fr_X9_agrees_43 hr2 hr13 h)
theorem fr_X9_agrees_13 {N : Nat} {rec2 : Int32 → Int32 → Int32 → ZM → Option (Int32 × ZM)} {res : Int32 × ZM} (hr2 : ∀ (x1 : Int32) (x2 : Int32) (x3 : Int32) (σ : ZM), rec2 x1 x2 x3 σ = some res → zag [(0, some 14), (0, some 30), (0, some 31), (12, none), (13, none), (14, none), (15, none), (16, none), (17, none), (18, none), (19, none), (20, none), (21, none), (22, none), (23, none), (24, none), (25, none), (26, none)] σ res.2) : ∀ (n : Nat) (x1 : Int32) (x2 : Int32) (x3 : Int32) (x4 : Int32) (x5 : Int32) (σ : ZM), f_X9_agrees_13 N rec2 n x1 x2 x3 x4 x5 σ = some res → zag [(0, some 14), (0, some 30), (0, some 31), (12, none), (13, none), (14, none), (15, none), (16, none), (17, none), (18, none), (19, none), (20, none), (21, none), (22, none), (23, none), (24, none), (25, none), (26, none)] σ res.2 := by
  intro n
  induction n with
  | zero => intro x1 x2 x3 x4 x5 σ h; exact absurd h (by simp [f_X9_agrees_13])
  | succ n ih => intro x1 x2 x3 x4 x5 σ h; rw [f_X9_agrees_13] at h; exact fr_b_X9_agrees_13 hr2 ih h
theorem fr_b_X9_agrees_2 {N : Nat} {rec2 : Int32 → Int32 → Int32 → ZM → Option (Int32 × ZM)} {res : Int32 × ZM} (hr2 : ∀ (x1 : Int32) (x2 : Int32) (x3 : Int32) (σ : ZM), rec2 x1 x2 x3 σ = some res → zag [(0, some 14), (0, some 30), (0, some 31), (12, none), (13, none), (14, none), (15, none), (16, none), (17, none), (18, none), (19, none), (20, none), (21, none), (22, none), (23, none), (24, none), (25, none), (26, none)] σ res.2) {x1 : Int32} {x2 : Int32} {x3 : Int32} {σ : ZM} (h : b_X9_agrees_2 N rec2 x1 x2 x3 σ = some res) : zag [(0, some 14), (0, some 30), (0, some 31), (12, none), (13, none), (14, none), (15, none), (16, none), (17, none), (18, none), (19, none), (20, none), (21, none), (22, none), (23, none), (24, none), (25, none), (26, none)] σ res.2 := by
  unfold b_X9_agrees_2 at h
  have hA : zag [(0, some 14), (0, some 30), (0, some 31), (12, none), (13, none), (14, none), (15, none), (16, none), (17, none), (18, none), (19, none), (20, none), (21, none), (22, none), (23, none), (24, none), (25, none), (26, none)] σ σ := zag_r
  rcases zi2 h with ⟨hc4, h⟩ | ⟨hc4, h⟩
  · skip
    cases h
    exact hA
  · skip
    exact zag_t hA (fr_X9_agrees_13 hr2 _ _ _ _ _ _ _ h)
theorem fr_X9_agrees_2 {N : Nat} {res : Int32 × ZM} : ∀ (n : Nat) (x1 : Int32) (x2 : Int32) (x3 : Int32) (σ : ZM), f_X9_agrees_2 N n x1 x2 x3 σ = some res → zag [(0, some 14), (0, some 30), (0, some 31), (12, none), (13, none), (14, none), (15, none), (16, none), (17, none), (18, none), (19, none), (20, none), (21, none), (22, none), (23, none), (24, none), (25, none), (26, none)] σ res.2 := by
  intro n
  induction n with
  | zero => intro x1 x2 x3 σ h; exact absurd h (by simp [f_X9_agrees_2])
  | succ n ih => intro x1 x2 x3 σ h; rw [f_X9_agrees_2] at h; exact fr_b_X9_agrees_2 ih h
theorem fr_X9_agrees {N : Nat} {x1 : Int32} {x2 : Int32} {σ : ZM} {res : Int32 × ZM} (h : f_X9_agrees N x1 x2 σ = some res) : zag [(0, some 14), (0, some 30), (0, some 31), (12, none), (13, none), (14, none), (15, none), (16, none), (17, none), (18, none), (19, none), (20, none), (21, none), (22, none), (23, none), (24, none), (25, none), (26, none)] σ res.2 := by
  unfold f_X9_agrees at h
  have hA : zag [(0, some 14), (0, some 30), (0, some 31), (12, none), (13, none), (14, none), (15, none), (16, none), (17, none), (18, none), (19, none), (20, none), (21, none), (22, none), (23, none), (24, none), (25, none), (26, none)] σ σ := zag_r
  exact zag_t hA (fr_X9_agrees_2 _ _ _ _ _ h)
