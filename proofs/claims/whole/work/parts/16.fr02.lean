theorem fr_X9_layAgreed_62 {N : Nat} {res : Int32 × ZM} {x1 : Int32} {σ : ZM} (h : f_X9_layAgreed_62 N x1 σ = some res) : zag [(0, some 14), (0, some 30), (0, some 31), (0, some 40), (12, none), (13, none), (14, none), (15, none), (16, none), (17, none), (18, none), (19, none), (20, none), (21, none), (22, none), (23, none), (24, none), (25, none), (26, none), (34, none)] σ res.2 := by
  unfold f_X9_layAgreed_62 at h
  have hA : zag [(0, some 14), (0, some 30), (0, some 31), (0, some 40), (12, none), (13, none), (14, none), (15, none), (16, none), (17, none), (18, none), (19, none), (20, none), (21, none), (22, none), (23, none), (24, none), (25, none), (26, none), (34, none)] σ σ := zag_r
  rcases zi2 h with ⟨hc66, h⟩ | ⟨hc66, h⟩
  · skip
    cases h
    exact hA
  · skip
    cases h
    exact hA
theorem fr_X9_layAgreed_56 {N : Nat} {rec12 : Int32 → Int32 → ZM → Option (Int32 × ZM)} {res : Int32 × ZM} (hr12 : ∀ (x1 : Int32) (x2 : Int32) (σ : ZM), rec12 x1 x2 σ = some res → zag [(0, some 14), (0, some 30), (0, some 31), (0, some 40), (12, none), (13, none), (14, none), (15, none), (16, none), (17, none), (18, none), (19, none), (20, none), (21, none), (22, none), (23, none), (24, none), (25, none), (26, none), (34, none)] σ res.2) {x1 : Int32} {x2 : Int32} {σ : ZM} (h : f_X9_layAgreed_56 N rec12 x1 x2 σ = some res) : zag [(0, some 14), (0, some 30), (0, some 31), (0, some 40), (12, none), (13, none), (14, none), (15, none), (16, none), (17, none), (18, none), (19, none), (20, none), (21, none), (22, none), (23, none), (24, none), (25, none), (26, none), (34, none)] σ res.2 := by
  unfold f_X9_layAgreed_56 at h
  have hA : zag [(0, some 14), (0, some 30), (0, some 31), (0, some 40), (12, none), (13, none), (14, none), (15, none), (16, none), (17, none), (18, none), (19, none), (20, none), (21, none), (22, none), (23, none), (24, none), (25, none), (26, none), (34, none)] σ σ := zag_r
  obtain ⟨v1, ev1, h⟩ := zb h
  exact zag_t hA (hr12 _ _ _ h)
theorem fr_b_X9_layAgreed_12 {N : Nat} {rec12 : Int32 → Int32 → ZM → Option (Int32 × ZM)} {res : Int32 × ZM} (hr12 : ∀ (x1 : Int32) (x2 : Int32) (σ : ZM), rec12 x1 x2 σ = some res → zag [(0, some 14), (0, some 30), (0, some 31), (0, some 40), (12, none), (13, none), (14, none), (15, none), (16, none), (17, none), (18, none), (19, none), (20, none), (21, none), (22, none), (23, none), (24, none), (25, none), (26, none), (34, none)] σ res.2) {x1 : Int32} {x2 : Int32} {σ : ZM} (h : b_X9_layAgreed_12 N rec12 x1 x2 σ = some res) : zag [(0, some 14), (0, some 30), (0, some 31), (0, some 40), (12, none), (13, none), (14, none), (15, none), (16, none), (17, none), (18, none), (19, none), (20, none), (21, none), (22, none), (23, none), (24, none), (25, none), (26, none), (34, none)] σ res.2 := by
  unfold b_X9_layAgreed_12 at h
  have hA : zag [(0, some 14), (0, some 30), (0, some 31), (0, some 40), (12, none), (13, none), (14, none), (15, none), (16, none), (17, none), (18, none), (19, none), (20, none), (21, none), (22, none), (23, none), (24, none), (25, none), (26, none), (34, none)] σ σ := zag_r
  rcases zi2 h with ⟨hc14, h⟩ | ⟨hc14, h⟩
  · skip
    exact zag_t hA (fr_X9_layAgreed_62 h)
  · skip
    rcases zi2 h with ⟨hc21, h⟩ | ⟨hc21, h⟩
    · skip
      exact zag_t hA (fr_X9_layAgreed_62 h)
    · skip
      obtain ⟨r2, s3, es3, h⟩ := zc h
      replace hA := zag_t hA (zag_w (by decide) (fr_X9_agrees es3))
      rcases zi2 h with ⟨hc33, h⟩ | ⟨hc33, h⟩
      · skip
        exact zag_t hA (fr_X9_layAgreed_56 hr12 h)
      · skip
        obtain ⟨s4, es4, h⟩ := zb h
        replace hA := zag_t hA (zag_w (by decide) (zag_iast es4))
        obtain ⟨s5, es5, h⟩ := zb h
        replace hA := zag_t hA (zag_w (by decide) (zag_putI es5))
        exact zag_t hA (fr_X9_layAgreed_56 hr12 h)
theorem fr_X9_layAgreed_12 {N : Nat} {res : Int32 × ZM} : ∀ (n : Nat) (x1 : Int32) (x2 : Int32) (σ : ZM), f_X9_layAgreed_12 N n x1 x2 σ = some res → zag [(0, some 14), (0, some 30), (0, some 31), (0, some 40), (12, none), (13, none), (14, none), (15, none), (16, none), (17, none), (18, none), (19, none), (20, none), (21, none), (22, none), (23, none), (24, none), (25, none), (26, none), (34, none)] σ res.2 := by
  intro n
  induction n with
  | zero => intro x1 x2 σ h; exact absurd h (by simp [f_X9_layAgreed_12])
  | succ n ih => intro x1 x2 σ h; rw [f_X9_layAgreed_12] at h; exact fr_b_X9_layAgreed_12 ih h
theorem fr_X9_layAgreed {N : Nat} {σ : ZM} {res : Int32 × ZM} (h : f_X9_layAgreed N σ = some res) : zag [(0, some 14), (0, some 30), (0, some 31), (0, some 40), (12, none), (13, none), (14, none), (15, none), (16, none), (17, none), (18, none), (19, none), (20, none), (21, none), (22, none), (23, none), (24, none), (25, none), (26, none), (34, none)] σ res.2 := by
  unfold f_X9_layAgreed at h
  have hA : zag [(0, some 14), (0, some 30), (0, some 31), (0, some 40), (12, none), (13, none), (14, none), (15, none), (16, none), (17, none), (18, none), (19, none), (20, none), (21, none), (22, none), (23, none), (24, none), (25, none), (26, none), (34, none)] σ σ := zag_r
  obtain ⟨r6, s7, es7, h⟩ := zc h
  replace hA := zag_t hA (zag_w (by decide) (fr_X9_caseMany es7))
  obtain ⟨s8, es8, h⟩ := zb h
  replace hA := zag_t hA (zag_w (by decide) (zag_putI es8))
  exact zag_t hA (fr_X9_layAgreed_12 _ _ _ _ h)
theorem fr_X9_agree {N : Nat} {σ : ZM} {res : Int32 × ZM} (h : f_X9_agree N σ = some res) : zag [(0, some 14), (0, some 30), (0, some 31), (0, some 40), (12, none), (13, none), (14, none), (15, none), (16, none), (17, none), (18, none), (19, none), (20, none), (21, none), (22, none), (23, none), (24, none), (25, none), (26, none), (34, none)] σ res.2 := by
  unfold f_X9_agree at h
  have hA : zag [(0, some 14), (0, some 30), (0, some 31), (0, some 40), (12, none), (13, none), (14, none), (15, none), (16, none), (17, none), (18, none), (19, none), (20, none), (21, none), (22, none), (23, none), (24, none), (25, none), (26, none), (34, none)] σ σ := zag_r
  obtain ⟨r1, s2, es2, h⟩ := zc h
  replace hA := zag_t hA (zag_w (by decide) (fr_X9_layAgreed es2))
  rcases zi2 h with ⟨hc4, h⟩ | ⟨hc4, h⟩
  · skip
    cases h
    exact hA
  · skip
    cases h
    exact hA
theorem fr_X9_could_82 {N : Nat} {rec24 : Int32 → Int32 → Int32 → ZM → Option (Int32 × ZM)} {res : Int32 × ZM} (hr24 : ∀ (x1 : Int32) (x2 : Int32) (x3 : Int32) (σ : ZM), rec24 x1 x2 x3 σ = some res → zag [(0, some 14), (0, some 30), (0, some 31), (0, some 40), (12, none), (13, none), (14, none), (15, none), (16, none), (17, none), (18, none), (19, none), (20, none), (21, none), (22, none), (23, none), (24, none), (25, none), (26, none), (34, none)] σ res.2) {x1 : Int32} {x3 : Int32} {y0 : Int32} {y1 : Int32} {σ : ZM} (h : f_X9_could_82 N rec24 x1 x3 y0 y1 σ = some res) : zag [(0, some 14), (0, some 30), (0, some 31), (0, some 40), (12, none), (13, none), (14, none), (15, none), (16, none), (17, none), (18, none), (19, none), (20, none), (21, none), (22, none), (23, none), (24, none), (25, none), (26, none), (34, none)] σ res.2 := by
  unfold f_X9_could_82 at h
  have hA : zag [(0, some 14), (0, some 30), (0, some 31), (0, some 40), (12, none), (13, none), (14, none), (15, none), (16, none), (17, none), (18, none), (19, none), (20, none), (21, none), (22, none), (23, none), (24, none), (25, none), (26, none), (34, none)] σ σ := zag_r
  obtain ⟨v1, ev1, h⟩ := zb h
  obtain ⟨v2, ev2, h⟩ := zb h
  exact zag_t hA (hr24 _ _ _ _ h)
theorem fr_X9_could_80 {N : Nat} {rec24 : Int32 → Int32 → Int32 → ZM → Option (Int32 × ZM)} {res : Int32 × ZM} (hr24 : ∀ (x1 : Int32) (x2 : Int32) (x3 : Int32) (σ : ZM), rec24 x1 x2 x3 σ = some res → zag [(0, some 14), (0, some 30), (0, some 31), (0, some 40), (12, none), (13, none), (14, none), (15, none), (16, none), (17, none), (18, none), (19, none), (20, none), (21, none), (22, none), (23, none), (24, none), (25, none), (26, none), (34, none)] σ res.2) {x1 : Int32} {x3 : Int32} {y0 : Int32} {σ : ZM} (h : f_X9_could_80 N rec24 x1 x3 y0 σ = some res) : zag [(0, some 14), (0, some 30), (0, some 31), (0, some 40), (12, none), (13, none), (14, none), (15, none), (16, none), (17, none), (18, none), (19, none), (20, none), (21, none), (22, none), (23, none), (24, none), (25, none), (26, none), (34, none)] σ res.2 := by
  unfold f_X9_could_80 at h
  have hA : zag [(0, some 14), (0, some 30), (0, some 31), (0, some 40), (12, none), (13, none), (14, none), (15, none), (16, none), (17, none), (18, none), (19, none), (20, none), (21, none), (22, none), (23, none), (24, none), (25, none), (26, none), (34, none)] σ σ := zag_r
  exact zag_t hA (fr_X9_could_82 hr24 h)
theorem fr_b_X9_could_24 {N : Nat} {rec24 : Int32 → Int32 → Int32 → ZM → Option (Int32 × ZM)} {res : Int32 × ZM} (hr24 : ∀ (x1 : Int32) (x2 : Int32) (x3 : Int32) (σ : ZM), rec24 x1 x2 x3 σ = some res → zag [(0, some 14), (0, some 30), (0, some 31), (0, some 40), (12, none), (13, none), (14, none), (15, none), (16, none), (17, none), (18, none), (19, none), (20, none), (21, none), (22, none), (23, none), (24, none), (25, none), (26, none), (34, none)] σ res.2) {x1 : Int32} {x2 : Int32} {x3 : Int32} {σ : ZM} (h : b_X9_could_24 N rec24 x1 x2 x3 σ = some res) : zag [(0, some 14), (0, some 30), (0, some 31), (0, some 40), (12, none), (13, none), (14, none), (15, none), (16, none), (17, none), (18, none), (19, none), (20, none), (21, none), (22, none), (23, none), (24, none), (25, none), (26, none), (34, none)] σ res.2 := by
  unfold b_X9_could_24 at h
  have hA : zag [(0, some 14), (0, some 30), (0, some 31), (0, some 40), (12, none), (13, none), (14, none), (15, none), (16, none), (17, none), (18, none), (19, none), (20, none), (21, none), (22, none), (23, none), (24, none), (25, none), (26, none), (34, none)] σ σ := zag_r
  rcases zi2 h with ⟨hc29, h⟩ | ⟨hc29, h⟩
  · skip
    cases h
    exact hA
  · skip
    obtain ⟨r3, s4, es4, h⟩ := zc h
    replace hA := zag_t hA (zag_w (by decide) (fr_X9_askNow es4))
    obtain ⟨v5, ev5, h⟩ := zb h
    obtain ⟨r6, s7, es7, h⟩ := zc h
    replace hA := zag_t hA (zag_w (by decide) (fr_X9_askCase es7))
    obtain ⟨r8, s9, es9, h⟩ := zc h
    replace hA := zag_t hA (zag_w (by decide) (fr_X9_settle es9))
    rcases zi2 h with ⟨hc55, h⟩ | ⟨hc55, h⟩
    · skip
      exact zag_t hA (fr_X9_could_80 hr24 h)
    · skip
      obtain ⟨v10, ev10, h⟩ := zb h
      rcases zi2 h with ⟨hc66, h⟩ | ⟨hc66, h⟩
      · skip
        exact zag_t hA (fr_X9_could_80 hr24 h)
      · skip
        obtain ⟨v11, ev11, h⟩ := zb h
        exact zag_t hA (fr_X9_could_82 hr24 h)
theorem fr_X9_could_24 {N : Nat} {res : Int32 × ZM} : ∀ (n : Nat) (x1 : Int32) (x2 : Int32) (x3 : Int32) (σ : ZM), f_X9_could_24 N n x1 x2 x3 σ = some res → zag [(0, some 14), (0, some 30), (0, some 31), (0, some 40), (12, none), (13, none), (14, none), (15, none), (16, none), (17, none), (18, none), (19, none), (20, none), (21, none), (22, none), (23, none), (24, none), (25, none), (26, none), (34, none)] σ res.2 := by
  intro n
  induction n with
  | zero => intro x1 x2 x3 σ h; exact absurd h (by simp [f_X9_could_24])
  | succ n ih => intro x1 x2 x3 σ h; rw [f_X9_could_24] at h; exact fr_b_X9_could_24 ih h
theorem fr_X9_could {N : Nat} {x1 : Int32} {σ : ZM} {res : Int32 × ZM} (h : f_X9_could N x1 σ = some res) : zag [(0, some 14), (0, some 30), (0, some 31), (0, some 40), (12, none), (13, none), (14, none), (15, none), (16, none), (17, none), (18, none), (19, none), (20, none), (21, none), (22, none), (23, none), (24, none), (25, none), (26, none), (34, none)] σ res.2 := by
  unfold f_X9_could at h
  have hA : zag [(0, some 14), (0, some 30), (0, some 31), (0, some 40), (12, none), (13, none), (14, none), (15, none), (16, none), (17, none), (18, none), (19, none), (20, none), (21, none), (22, none), (23, none), (24, none), (25, none), (26, none), (34, none)] σ σ := zag_r
  obtain ⟨r12, s13, es13, h⟩ := zc h
  replace hA := zag_t hA (zag_w (by decide) (fr_X9_isNet es13))
  rcases (zi2 h).symm with ⟨hc5, h⟩ | ⟨hc5, h⟩
  · skip
    obtain ⟨r14, s15, es15, h⟩ := zc h
    replace hA := zag_t hA (zag_w (by decide) (fr_X9_layAgreed es15))
    rcases (zi2 h).symm with ⟨hc14, h⟩ | ⟨hc14, h⟩
    · skip
      exact zag_t hA (fr_X9_could_24 _ _ _ _ _ h)
    · skip
      cases h
      exact hA
  · skip
    cases h
    exact hA
theorem fr_b_X9_rulesLeft_4 {N : Nat} {rec4 : Int32 → Int32 → Int32 → ZM → Option (Int32 × ZM)} {res : Int32 × ZM} (hr4 : ∀ (x1 : Int32) (x2 : Int32) (x3 : Int32) (σ : ZM), rec4 x1 x2 x3 σ = some res → zag [(16, none)] σ res.2) {x1 : Int32} {x2 : Int32} {x3 : Int32} {σ : ZM} (h : b_X9_rulesLeft_4 N rec4 x1 x2 x3 σ = some res) : zag [(16, none)] σ res.2 := by
  unfold b_X9_rulesLeft_4 at h
  have hA : zag [(16, none)] σ σ := zag_r
  rcases zi2 h with ⟨hc9, h⟩ | ⟨hc9, h⟩
  · skip
    cases h
    exact hA
  · skip
    obtain ⟨v1, ev1, h⟩ := zb h
    obtain ⟨r2, s3, es3, h⟩ := zc h
    replace hA := zag_t hA (zag_w (by decide) (fr_X9_askCase es3))
    obtain ⟨v4, ev4, h⟩ := zb h
    obtain ⟨v5, ev5, h⟩ := zb h
    obtain ⟨v6, ev6, h⟩ := zb h
    exact zag_t hA (hr4 _ _ _ _ h)
theorem fr_X9_rulesLeft_4 {N : Nat} {res : Int32 × ZM} : ∀ (n : Nat) (x1 : Int32) (x2 : Int32) (x3 : Int32) (σ : ZM), f_X9_rulesLeft_4 N n x1 x2 x3 σ = some res → zag [(16, none)] σ res.2 := by
  intro n
  induction n with
  | zero => intro x1 x2 x3 σ h; exact absurd h (by simp [f_X9_rulesLeft_4])
  | succ n ih => intro x1 x2 x3 σ h; rw [f_X9_rulesLeft_4] at h; exact fr_b_X9_rulesLeft_4 ih h
theorem fr_X9_rulesLeft {N : Nat} {x1 : Int32} {σ : ZM} {res : Int32 × ZM} (h : f_X9_rulesLeft N x1 σ = some res) : zag [(16, none)] σ res.2 := by
  unfold f_X9_rulesLeft at h
  have hA : zag [(16, none)] σ σ := zag_r
  exact zag_t hA (fr_X9_rulesLeft_4 _ _ _ _ _ h)
theorem fr_X9_rules {N : Nat} {x1 : Int32} {σ : ZM} {res : Int32 × ZM} (h : f_X9_rules N x1 σ = some res) : zag [(0, some 14), (0, some 30), (0, some 31), (0, some 40), (12, none), (13, none), (14, none), (15, none), (16, none), (17, none), (18, none), (19, none), (20, none), (21, none), (22, none), (23, none), (24, none), (25, none), (26, none), (34, none)] σ res.2 := by
  unfold f_X9_rules at h
  have hA : zag [(0, some 14), (0, some 30), (0, some 31), (0, some 40), (12, none), (13, none), (14, none), (15, none), (16, none), (17, none), (18, none), (19, none), (20, none), (21, none), (22, none), (23, none), (24, none), (25, none), (26, none), (34, none)] σ σ := zag_r
  obtain ⟨r1, s2, es2, h⟩ := zc h
  replace hA := zag_t hA (zag_w (by decide) (fr_X9_isNet es2))
  rcases (zi2 h).symm with ⟨hc5, h⟩ | ⟨hc5, h⟩
  · skip
    obtain ⟨r3, s4, es4, h⟩ := zc h
    replace hA := zag_t hA (zag_w (by decide) (fr_X9_layAgreed es4))
    rcases zi2 h with ⟨hc14, h⟩ | ⟨hc14, h⟩
    · skip
      cases h
      exact hA
    · skip
      obtain ⟨r5, s6, es6, h⟩ := zc h
      replace hA := zag_t hA (zag_w (by decide) (fr_X9_rulesLeft es6))
      cases h
      exact hA
  · skip
    cases h
    exact hA
theorem fr_b_X9_learn_49 {N : Nat} {rec49 : Int32 → ZM → Option (Int32 × ZM)} {res : Int32 × ZM} (hr49 : ∀ (x1 : Int32) (σ : ZM), rec49 x1 σ = some res → zag [(0, some 14), (0, some 30), (0, some 31), (0, some 40), (3, none), (12, none), (13, none), (14, none), (15, none), (16, none), (17, none), (18, none), (19, none), (20, none), (21, none), (22, none), (23, none), (24, none), (25, none), (26, none), (34, none), (35, none)] σ res.2) {x1 : Int32} {σ : ZM} (h : b_X9_learn_49 N rec49 x1 σ = some res) : zag [(0, some 14), (0, some 30), (0, some 31), (0, some 40), (3, none), (12, none), (13, none), (14, none), (15, none), (16, none), (17, none), (18, none), (19, none), (20, none), (21, none), (22, none), (23, none), (24, none), (25, none), (26, none), (34, none), (35, none)] σ res.2 := by
  unfold b_X9_learn_49 at h
  have hA : zag [(0, some 14), (0, some 30), (0, some 31), (0, some 40), (3, none), (12, none), (13, none), (14, none), (15, none), (16, none), (17, none), (18, none), (19, none), (20, none), (21, none), (22, none), (23, none), (24, none), (25, none), (26, none), (34, none), (35, none)] σ σ := zag_r
  rcases zi2 h with ⟨hc54, h⟩ | ⟨hc54, h⟩
  · skip
    obtain ⟨r1, s2, es2, h⟩ := zc h
    replace hA := zag_t hA (zag_w (by decide) (fr_X9_caseMany es2))
    cases h
    exact hA
  · skip
    obtain ⟨v3, ev3, h⟩ := zb h
    obtain ⟨s4, es4, h⟩ := zb h
    replace hA := zag_t hA (zag_w (by decide) (zag_iast es4))
    obtain ⟨v5, ev5, h⟩ := zb h
    exact zag_t hA (hr49 _ _ h)
theorem fr_X9_learn_49 {N : Nat} {res : Int32 × ZM} : ∀ (n : Nat) (x1 : Int32) (σ : ZM), f_X9_learn_49 N n x1 σ = some res → zag [(0, some 14), (0, some 30), (0, some 31), (0, some 40), (3, none), (12, none), (13, none), (14, none), (15, none), (16, none), (17, none), (18, none), (19, none), (20, none), (21, none), (22, none), (23, none), (24, none), (25, none), (26, none), (34, none), (35, none)] σ res.2 := by
  intro n
  induction n with
  | zero => intro x1 σ h; exact absurd h (by simp [f_X9_learn_49])
  | succ n ih => intro x1 σ h; rw [f_X9_learn_49] at h; exact fr_b_X9_learn_49 ih h
theorem fr_b_X9_learn_22 {N : Nat} {rec22 : Int32 → ZM → Option (Int32 × ZM)} {res : Int32 × ZM} (hr22 : ∀ (x1 : Int32) (σ : ZM), rec22 x1 σ = some res → zag [(0, some 14), (0, some 30), (0, some 31), (0, some 40), (3, none), (12, none), (13, none), (14, none), (15, none), (16, none), (17, none), (18, none), (19, none), (20, none), (21, none), (22, none), (23, none), (24, none), (25, none), (26, none), (34, none), (35, none)] σ res.2) {x1 : Int32} {σ : ZM} (h : b_X9_learn_22 N rec22 x1 σ = some res) : zag [(0, some 14), (0, some 30), (0, some 31), (0, some 40), (3, none), (12, none), (13, none), (14, none), (15, none), (16, none), (17, none), (18, none), (19, none), (20, none), (21, none), (22, none), (23, none), (24, none), (25, none), (26, none), (34, none), (35, none)] σ res.2 := by
  unfold b_X9_learn_22 at h
  have hA : zag [(0, some 14), (0, some 30), (0, some 31), (0, some 40), (3, none), (12, none), (13, none), (14, none), (15, none), (16, none), (17, none), (18, none), (19, none), (20, none), (21, none), (22, none), (23, none), (24, none), (25, none), (26, none), (34, none), (35, none)] σ σ := zag_r
  rcases zi2 h with ⟨hc27, h⟩ | ⟨hc27, h⟩
  · skip
    exact zag_t hA (fr_X9_learn_49 _ _ _ h)
  · skip
    obtain ⟨r6, s7, es7, h⟩ := zc h
    replace hA := zag_t hA (zag_w (by decide) (fr_X9_rulesLeft es7))
    obtain ⟨s8, es8, h⟩ := zb h
    replace hA := zag_t hA (zag_w (by decide) (zag_iast es8))
    obtain ⟨v9, ev9, h⟩ := zb h
    exact zag_t hA (hr22 _ _ h)
theorem fr_X9_learn_22 {N : Nat} {res : Int32 × ZM} : ∀ (n : Nat) (x1 : Int32) (σ : ZM), f_X9_learn_22 N n x1 σ = some res → zag [(0, some 14), (0, some 30), (0, some 31), (0, some 40), (3, none), (12, none), (13, none), (14, none), (15, none), (16, none), (17, none), (18, none), (19, none), (20, none), (21, none), (22, none), (23, none), (24, none), (25, none), (26, none), (34, none), (35, none)] σ res.2 := by
  intro n
  induction n with
  | zero => intro x1 σ h; exact absurd h (by simp [f_X9_learn_22])
  | succ n ih => intro x1 σ h; rw [f_X9_learn_22] at h; exact fr_b_X9_learn_22 ih h
theorem fr_X9_learn {N : Nat} {σ : ZM} {res : Int32 × ZM} (h : f_X9_learn N σ = some res) : zag [(0, some 14), (0, some 30), (0, some 31), (0, some 40), (3, none), (12, none), (13, none), (14, none), (15, none), (16, none), (17, none), (18, none), (19, none), (20, none), (21, none), (22, none), (23, none), (24, none), (25, none), (26, none), (34, none), (35, none)] σ res.2 := by
  unfold f_X9_learn at h
  have hA : zag [(0, some 14), (0, some 30), (0, some 31), (0, some 40), (3, none), (12, none), (13, none), (14, none), (15, none), (16, none), (17, none), (18, none), (19, none), (20, none), (21, none), (22, none), (23, none), (24, none), (25, none), (26, none), (34, none), (35, none)] σ σ := zag_r
  obtain ⟨r10, s11, es11, h⟩ := zc h
  replace hA := zag_t hA (zag_w (by decide) (fr_X9_layAgreed es11))
  rcases (zi2 h).symm with ⟨hc4, h⟩ | ⟨hc4, h⟩
  · skip
    rcases (zi2 h).symm with ⟨hc14, h⟩ | ⟨hc14, h⟩
    · skip
      exact zag_t hA (fr_X9_learn_22 _ _ _ h)
    · skip
      cases h
      exact hA
  · skip
    cases h
    exact hA
theorem fr_X9_quarrel_56 {N : Nat} {rec17 : Int32 → Int32 → ZM → Option (Int32 × ZM)} {res : Int32 × ZM} (hr17 : ∀ (x1 : Int32) (x2 : Int32) (σ : ZM), rec17 x1 x2 σ = some res → zag [(0, some 14), (0, some 30), (0, some 31), (12, none), (13, none), (14, none), (15, none), (16, none), (17, none), (18, none), (19, none), (20, none), (21, none), (22, none), (23, none), (24, none), (25, none), (26, none)] σ res.2) {x1 : Int32} {x2 : Int32} {x3 : Int32} {σ : ZM} (h : f_X9_quarrel_56 N rec17 x1 x2 x3 σ = some res) : zag [(0, some 14), (0, some 30), (0, some 31), (12, none), (13, none), (14, none), (15, none), (16, none), (17, none), (18, none), (19, none), (20, none), (21, none), (22, none), (23, none), (24, none), (25, none), (26, none)] σ res.2 := by
  unfold f_X9_quarrel_56 at h
  have hA : zag [(0, some 14), (0, some 30), (0, some 31), (12, none), (13, none), (14, none), (15, none), (16, none), (17, none), (18, none), (19, none), (20, none), (21, none), (22, none), (23, none), (24, none), (25, none), (26, none)] σ σ := zag_r
  rcases (zi2 h).symm with ⟨hc57, h⟩ | ⟨hc57, h⟩
  · skip
    obtain ⟨v1, ev1, h⟩ := zb h
    exact zag_t hA (hr17 _ _ _ h)
  · skip
    cases h
    exact hA
theorem fr_b_X9_quarrel_30 {N : Nat} {rec17 : Int32 → Int32 → ZM → Option (Int32 × ZM)} {rec30 : Int32 → Int32 → Int32 → Int32 → ZM → Option (Int32 × ZM)} {res : Int32 × ZM} (hr17 : ∀ (x1 : Int32) (x2 : Int32) (σ : ZM), rec17 x1 x2 σ = some res → zag [(0, some 14), (0, some 30), (0, some 31), (12, none), (13, none), (14, none), (15, none), (16, none), (17, none), (18, none), (19, none), (20, none), (21, none), (22, none), (23, none), (24, none), (25, none), (26, none)] σ res.2) (hr30 : ∀ (x1 : Int32) (x2 : Int32) (x3 : Int32) (x4 : Int32) (σ : ZM), rec30 x1 x2 x3 x4 σ = some res → zag [(0, some 14), (0, some 30), (0, some 31), (12, none), (13, none), (14, none), (15, none), (16, none), (17, none), (18, none), (19, none), (20, none), (21, none), (22, none), (23, none), (24, none), (25, none), (26, none)] σ res.2) {x1 : Int32} {x2 : Int32} {x3 : Int32} {x4 : Int32} {σ : ZM} (h : b_X9_quarrel_30 N rec17 rec30 x1 x2 x3 x4 σ = some res) : zag [(0, some 14), (0, some 30), (0, some 31), (12, none), (13, none), (14, none), (15, none), (16, none), (17, none), (18, none), (19, none), (20, none), (21, none), (22, none), (23, none), (24, none), (25, none), (26, none)] σ res.2 := by
  unfold b_X9_quarrel_30 at h
  have hA : zag [(0, some 14), (0, some 30), (0, some 31), (12, none), (13, none), (14, none), (15, none), (16, none), (17, none), (18, none), (19, none), (20, none), (21, none), (22, none), (23, none), (24, none), (25, none), (26, none)] σ σ := zag_r
  rcases zi2 h with ⟨hc33, h⟩ | ⟨hc33, h⟩
  · skip
    exact zag_t hA (fr_X9_quarrel_56 hr17 h)
  · skip
    rcases (zi2 h).symm with ⟨hc37, h⟩ | ⟨hc37, h⟩
    · skip
      exact zag_t hA (fr_X9_quarrel_56 hr17 h)
    · skip
      obtain ⟨r2, s3, es3, h⟩ := zc h
      replace hA := zag_t hA (zag_w (by decide) (fr_X9_agrees es3))
      obtain ⟨v4, ev4, h⟩ := zb h
      exact zag_t hA (hr30 _ _ _ _ _ h)
theorem fr_X9_quarrel_30 {N : Nat} {rec17 : Int32 → Int32 → ZM → Option (Int32 × ZM)} {res : Int32 × ZM} (hr17 : ∀ (x1 : Int32) (x2 : Int32) (σ : ZM), rec17 x1 x2 σ = some res → zag [(0, some 14), (0, some 30), (0, some 31), (12, none), (13, none), (14, none), (15, none), (16, none), (17, none), (18, none), (19, none), (20, none), (21, none), (22, none), (23, none), (24, none), (25, none), (26, none)] σ res.2) : ∀ (n : Nat) (x1 : Int32) (x2 : Int32) (x3 : Int32) (x4 : Int32) (σ : ZM), f_X9_quarrel_30 N rec17 n x1 x2 x3 x4 σ = some res → zag [(0, some 14), (0, some 30), (0, some 31), (12, none), (13, none), (14, none), (15, none), (16, none), (17, none), (18, none), (19, none), (20, none), (21, none), (22, none), (23, none), (24, none), (25, none), (26, none)] σ res.2 := by
  intro n
  induction n with
  | zero => intro x1 x2 x3 x4 σ h; exact absurd h (by simp [f_X9_quarrel_30])
  | succ n ih => intro x1 x2 x3 x4 σ h; rw [f_X9_quarrel_30] at h; exact fr_b_X9_quarrel_30 hr17 ih h
theorem fr_b_X9_quarrel_17 {N : Nat} {rec17 : Int32 → Int32 → ZM → Option (Int32 × ZM)} {res : Int32 × ZM} (hr17 : ∀ (x1 : Int32) (x2 : Int32) (σ : ZM), rec17 x1 x2 σ = some res → zag [(0, some 14), (0, some 30), (0, some 31), (12, none), (13, none), (14, none), (15, none), (16, none), (17, none), (18, none), (19, none), (20, none), (21, none), (22, none), (23, none), (24, none), (25, none), (26, none)] σ res.2) {x1 : Int32} {x2 : Int32} {σ : ZM} (h : b_X9_quarrel_17 N rec17 x1 x2 σ = some res) : zag [(0, some 14), (0, some 30), (0, some 31), (12, none), (13, none), (14, none), (15, none), (16, none), (17, none), (18, none), (19, none), (20, none), (21, none), (22, none), (23, none), (24, none), (25, none), (26, none)] σ res.2 := by
  unfold b_X9_quarrel_17 at h
  have hA : zag [(0, some 14), (0, some 30), (0, some 31), (12, none), (13, none), (14, none), (15, none), (16, none), (17, none), (18, none), (19, none), (20, none), (21, none), (22, none), (23, none), (24, none), (25, none), (26, none)] σ σ := zag_r
  rcases zi2 h with ⟨hc22, h⟩ | ⟨hc22, h⟩
  · skip
    cases h
    exact hA
  · skip
    exact zag_t hA (fr_X9_quarrel_30 hr17 _ _ _ _ _ _ h)
theorem fr_X9_quarrel_17 {N : Nat} {res : Int32 × ZM} : ∀ (n : Nat) (x1 : Int32) (x2 : Int32) (σ : ZM), f_X9_quarrel_17 N n x1 x2 σ = some res → zag [(0, some 14), (0, some 30), (0, some 31), (12, none), (13, none), (14, none), (15, none), (16, none), (17, none), (18, none), (19, none), (20, none), (21, none), (22, none), (23, none), (24, none), (25, none), (26, none)] σ res.2 := by
  intro n
  induction n with
  | zero => intro x1 x2 σ h; exact absurd h (by simp [f_X9_quarrel_17])
  | succ n ih => intro x1 x2 σ h; rw [f_X9_quarrel_17] at h; exact fr_b_X9_quarrel_17 ih h
theorem fr_X9_quarrel {N : Nat} {σ : ZM} {res : Int32 × ZM} (h : f_X9_quarrel N σ = some res) : zag [(0, some 14), (0, some 30), (0, some 31), (12, none), (13, none), (14, none), (15, none), (16, none), (17, none), (18, none), (19, none), (20, none), (21, none), (22, none), (23, none), (24, none), (25, none), (26, none)] σ res.2 := by
  unfold f_X9_quarrel at h
  have hA : zag [(0, some 14), (0, some 30), (0, some 31), (12, none), (13, none), (14, none), (15, none), (16, none), (17, none), (18, none), (19, none), (20, none), (21, none), (22, none), (23, none), (24, none), (25, none), (26, none)] σ σ := zag_r
  obtain ⟨r5, s6, es6, h⟩ := zc h
  replace hA := zag_t hA (zag_w (by decide) (fr_X9_caseMany es6))
  rcases zi2 h with ⟨hc9, h⟩ | ⟨hc9, h⟩
  · skip
    exact zag_t hA (fr_X9_quarrel_17 _ _ _ _ h)
  · skip
    cases h
    exact hA
theorem fr_X9_greatestAlike_186 {N : Nat} {rec116 : Int32 → Int32 → ZM → Option (Int32 × ZM)} {res : Int32 × ZM} (hr116 : ∀ (x3 : Int32) (x4 : Int32) (σ : ZM), rec116 x3 x4 σ = some res → zag [(0, some 14), (0, some 30), (0, some 31), (12, none), (13, none), (14, none), (15, none), (16, none), (17, none), (18, none), (19, none), (20, none), (21, none), (22, none), (23, none), (24, none), (25, none), (26, none), (36, none)] σ res.2) {x4 : Int32} {y0 : Int32} {σ : ZM} (h : f_X9_greatestAlike_186 N rec116 x4 y0 σ = some res) : zag [(0, some 14), (0, some 30), (0, some 31), (12, none), (13, none), (14, none), (15, none), (16, none), (17, none), (18, none), (19, none), (20, none), (21, none), (22, none), (23, none), (24, none), (25, none), (26, none), (36, none)] σ res.2 := by
  unfold f_X9_greatestAlike_186 at h
  have hA : zag [(0, some 14), (0, some 30), (0, some 31), (12, none), (13, none), (14, none), (15, none), (16, none), (17, none), (18, none), (19, none), (20, none), (21, none), (22, none), (23, none), (24, none), (25, none), (26, none), (36, none)] σ σ := zag_r
  obtain ⟨v1, ev1, h⟩ := zb h
  exact zag_t hA (hr116 _ _ _ h)
theorem fr_X9_greatestAlike_165 {N : Nat} {rec116 : Int32 → Int32 → ZM → Option (Int32 × ZM)} {rec131 : Int32 → Int32 → Int32 → Int32 → ZM → Option (Int32 × ZM)} {res : Int32 × ZM} (hr116 : ∀ (x3 : Int32) (x4 : Int32) (σ : ZM), rec116 x3 x4 σ = some res → zag [(0, some 14), (0, some 30), (0, some 31), (12, none), (13, none), (14, none), (15, none), (16, none), (17, none), (18, none), (19, none), (20, none), (21, none), (22, none), (23, none), (24, none), (25, none), (26, none), (36, none)] σ res.2) (hr131 : ∀ (x3 : Int32) (x4 : Int32) (x5 : Int32) (x6 : Int32) (σ : ZM), rec131 x3 x4 x5 x6 σ = some res → zag [(0, some 14), (0, some 30), (0, some 31), (12, none), (13, none), (14, none), (15, none), (16, none), (17, none), (18, none), (19, none), (20, none), (21, none), (22, none), (23, none), (24, none), (25, none), (26, none), (36, none)] σ res.2) {x3 : Int32} {x4 : Int32} {x6 : Int32} {y0 : Int32} {y1 : Int32} {σ : ZM} (h : f_X9_greatestAlike_165 N rec116 rec131 x3 x4 x6 y0 y1 σ = some res) : zag [(0, some 14), (0, some 30), (0, some 31), (12, none), (13, none), (14, none), (15, none), (16, none), (17, none), (18, none), (19, none), (20, none), (21, none), (22, none), (23, none), (24, none), (25, none), (26, none), (36, none)] σ res.2 := by
  unfold f_X9_greatestAlike_165 at h
  have hA : zag [(0, some 14), (0, some 30), (0, some 31), (12, none), (13, none), (14, none), (15, none), (16, none), (17, none), (18, none), (19, none), (20, none), (21, none), (22, none), (23, none), (24, none), (25, none), (26, none), (36, none)] σ σ := zag_r
  obtain ⟨v2, ev2, h⟩ := zb h
  obtain ⟨v3, ev3, h⟩ := zb h
  exact zag_t hA (hr131 _ _ _ _ _ h)
theorem fr_b_X9_greatestAlike_131 {N : Nat} {rec116 : Int32 → Int32 → ZM → Option (Int32 × ZM)} {rec131 : Int32 → Int32 → Int32 → Int32 → ZM → Option (Int32 × ZM)} {res : Int32 × ZM} (hr116 : ∀ (x3 : Int32) (x4 : Int32) (σ : ZM), rec116 x3 x4 σ = some res → zag [(0, some 14), (0, some 30), (0, some 31), (12, none), (13, none), (14, none), (15, none), (16, none), (17, none), (18, none), (19, none), (20, none), (21, none), (22, none), (23, none), (24, none), (25, none), (26, none), (36, none)] σ res.2) (hr131 : ∀ (x3 : Int32) (x4 : Int32) (x5 : Int32) (x6 : Int32) (σ : ZM), rec131 x3 x4 x5 x6 σ = some res → zag [(0, some 14), (0, some 30), (0, some 31), (12, none), (13, none), (14, none), (15, none), (16, none), (17, none), (18, none), (19, none), (20, none), (21, none), (22, none), (23, none), (24, none), (25, none), (26, none), (36, none)] σ res.2) {x3 : Int32} {x4 : Int32} {x5 : Int32} {x6 : Int32} {σ : ZM} (h : b_X9_greatestAlike_131 N rec116 rec131 x3 x4 x5 x6 σ = some res) : zag [(0, some 14), (0, some 30), (0, some 31), (12, none), (13, none), (14, none), (15, none), (16, none), (17, none), (18, none), (19, none), (20, none), (21, none), (22, none), (23, none), (24, none), (25, none), (26, none), (36, none)] σ res.2 := by
  unfold b_X9_greatestAlike_131 at h
  have hA : zag [(0, some 14), (0, some 30), (0, some 31), (12, none), (13, none), (14, none), (15, none), (16, none), (17, none), (18, none), (19, none), (20, none), (21, none), (22, none), (23, none), (24, none), (25, none), (26, none), (36, none)] σ σ := zag_r
  rcases zi2 h with ⟨hc137, h⟩ | ⟨hc137, h⟩
  · skip
    rcases zi2 h with ⟨hc177, h⟩ | ⟨hc177, h⟩
    · skip
      exact zag_t hA (fr_X9_greatestAlike_186 hr116 h)
    · skip
      exact zag_t hA (fr_X9_greatestAlike_186 hr116 h)
  · skip
    obtain ⟨v4, ev4, h⟩ := zb h
    obtain ⟨v5, ev5, h⟩ := zb h
    rcases (zi2 h).symm with ⟨hc157, h⟩ | ⟨hc157, h⟩
    · skip
      exact zag_t hA (fr_X9_greatestAlike_165 hr116 hr131 h)
    · skip
      exact zag_t hA (fr_X9_greatestAlike_165 hr116 hr131 h)
theorem fr_X9_greatestAlike_131 {N : Nat} {rec116 : Int32 → Int32 → ZM → Option (Int32 × ZM)} {res : Int32 × ZM} (hr116 : ∀ (x3 : Int32) (x4 : Int32) (σ : ZM), rec116 x3 x4 σ = some res → zag [(0, some 14), (0, some 30), (0, some 31), (12, none), (13, none), (14, none), (15, none), (16, none), (17, none), (18, none), (19, none), (20, none), (21, none), (22, none), (23, none), (24, none), (25, none), (26, none), (36, none)] σ res.2) : ∀ (n : Nat) (x3 : Int32) (x4 : Int32) (x5 : Int32) (x6 : Int32) (σ : ZM), f_X9_greatestAlike_131 N rec116 n x3 x4 x5 x6 σ = some res → zag [(0, some 14), (0, some 30), (0, some 31), (12, none), (13, none), (14, none), (15, none), (16, none), (17, none), (18, none), (19, none), (20, none), (21, none), (22, none), (23, none), (24, none), (25, none), (26, none), (36, none)] σ res.2 := by
  intro n
  induction n with
  | zero => intro x3 x4 x5 x6 σ h; exact absurd h (by simp [f_X9_greatestAlike_131])
  | succ n ih => intro x3 x4 x5 x6 σ h; rw [f_X9_greatestAlike_131] at h; exact fr_b_X9_greatestAlike_131 hr116 ih h
theorem fr_b_X9_greatestAlike_116 {N : Nat} {rec116 : Int32 → Int32 → ZM → Option (Int32 × ZM)} {res : Int32 × ZM} (hr116 : ∀ (x3 : Int32) (x4 : Int32) (σ : ZM), rec116 x3 x4 σ = some res → zag [(0, some 14), (0, some 30), (0, some 31), (12, none), (13, none), (14, none), (15, none), (16, none), (17, none), (18, none), (19, none), (20, none), (21, none), (22, none), (23, none), (24, none), (25, none), (26, none), (36, none)] σ res.2) {x3 : Int32} {x4 : Int32} {σ : ZM} (h : b_X9_greatestAlike_116 N rec116 x3 x4 σ = some res) : zag [(0, some 14), (0, some 30), (0, some 31), (12, none), (13, none), (14, none), (15, none), (16, none), (17, none), (18, none), (19, none), (20, none), (21, none), (22, none), (23, none), (24, none), (25, none), (26, none), (36, none)] σ res.2 := by
  unfold b_X9_greatestAlike_116 at h
  have hA : zag [(0, some 14), (0, some 30), (0, some 31), (12, none), (13, none), (14, none), (15, none), (16, none), (17, none), (18, none), (19, none), (20, none), (21, none), (22, none), (23, none), (24, none), (25, none), (26, none), (36, none)] σ σ := zag_r
  rcases zi2 h with ⟨hc122, h⟩ | ⟨hc122, h⟩
  · skip
    cases h
    exact hA
  · skip
    exact zag_t hA (fr_X9_greatestAlike_131 hr116 _ _ _ _ _ _ h)
theorem fr_X9_greatestAlike_116 {N : Nat} {res : Int32 × ZM} : ∀ (n : Nat) (x3 : Int32) (x4 : Int32) (σ : ZM), f_X9_greatestAlike_116 N n x3 x4 σ = some res → zag [(0, some 14), (0, some 30), (0, some 31), (12, none), (13, none), (14, none), (15, none), (16, none), (17, none), (18, none), (19, none), (20, none), (21, none), (22, none), (23, none), (24, none), (25, none), (26, none), (36, none)] σ res.2 := by
  intro n
  induction n with
  | zero => intro x3 x4 σ h; exact absurd h (by simp [f_X9_greatestAlike_116])
  | succ n ih => intro x3 x4 σ h; rw [f_X9_greatestAlike_116] at h; exact fr_b_X9_greatestAlike_116 ih h
theorem fr_X9_greatestAlike_97 {N : Nat} {rec2 : Int32 → Int32 → Int32 → ZM → Option (Int32 × ZM)} {res : Int32 × ZM} (hr2 : ∀ (x1 : Int32) (x2 : Int32) (x3 : Int32) (σ : ZM), rec2 x1 x2 x3 σ = some res → zag [(0, some 14), (0, some 30), (0, some 31), (12, none), (13, none), (14, none), (15, none), (16, none), (17, none), (18, none), (19, none), (20, none), (21, none), (22, none), (23, none), (24, none), (25, none), (26, none), (36, none)] σ res.2) {x1 : Int32} {x2 : Int32} {x3 : Int32} {x4 : Int64} {σ : ZM} (h : f_X9_greatestAlike_97 N rec2 x1 x2 x3 x4 σ = some res) : zag [(0, some 14), (0, some 30), (0, some 31), (12, none), (13, none), (14, none), (15, none), (16, none), (17, none), (18, none), (19, none), (20, none), (21, none), (22, none), (23, none), (24, none), (25, none), (26, none), (36, none)] σ res.2 := by
  unfold f_X9_greatestAlike_97 at h
  have hA : zag [(0, some 14), (0, some 30), (0, some 31), (12, none), (13, none), (14, none), (15, none), (16, none), (17, none), (18, none), (19, none), (20, none), (21, none), (22, none), (23, none), (24, none), (25, none), (26, none), (36, none)] σ σ := zag_r
  obtain ⟨s6, es6, h⟩ := zb h
  replace hA := zag_t hA (zag_w (by decide) (zag_last es6))
  obtain ⟨v7, ev7, h⟩ := zb h
  exact zag_t hA (hr2 _ _ _ _ h)
theorem fr_X9_greatestAlike_87 {N : Nat} {rec2 : Int32 → Int32 → Int32 → ZM → Option (Int32 × ZM)} {rec49 : Int32 → Int32 → Int32 → Int64 → Int32 → ZM → Option (Int32 × ZM)} {res : Int32 × ZM} (hr2 : ∀ (x1 : Int32) (x2 : Int32) (x3 : Int32) (σ : ZM), rec2 x1 x2 x3 σ = some res → zag [(0, some 14), (0, some 30), (0, some 31), (12, none), (13, none), (14, none), (15, none), (16, none), (17, none), (18, none), (19, none), (20, none), (21, none), (22, none), (23, none), (24, none), (25, none), (26, none), (36, none)] σ res.2) (hr49 : ∀ (x1 : Int32) (x2 : Int32) (x3 : Int32) (x4 : Int64) (x6 : Int32) (σ : ZM), rec49 x1 x2 x3 x4 x6 σ = some res → zag [(0, some 14), (0, some 30), (0, some 31), (12, none), (13, none), (14, none), (15, none), (16, none), (17, none), (18, none), (19, none), (20, none), (21, none), (22, none), (23, none), (24, none), (25, none), (26, none), (36, none)] σ res.2) {x1 : Int32} {x2 : Int32} {x3 : Int32} {x6 : Int32} {y0 : Int32} {y1 : Int64} {σ : ZM} (h : f_X9_greatestAlike_87 N rec2 rec49 x1 x2 x3 x6 y0 y1 σ = some res) : zag [(0, some 14), (0, some 30), (0, some 31), (12, none), (13, none), (14, none), (15, none), (16, none), (17, none), (18, none), (19, none), (20, none), (21, none), (22, none), (23, none), (24, none), (25, none), (26, none), (36, none)] σ res.2 := by
  unfold f_X9_greatestAlike_87 at h
  have hA : zag [(0, some 14), (0, some 30), (0, some 31), (12, none), (13, none), (14, none), (15, none), (16, none), (17, none), (18, none), (19, none), (20, none), (21, none), (22, none), (23, none), (24, none), (25, none), (26, none), (36, none)] σ σ := zag_r
  obtain ⟨v8, ev8, h⟩ := zb h
  obtain ⟨v9, ev9, h⟩ := zb h
  exact zag_t hA (hr49 _ _ _ _ _ _ h)
theorem fr_b_X9_greatestAlike_49 {N : Nat} {rec2 : Int32 → Int32 → Int32 → ZM → Option (Int32 × ZM)} {rec49 : Int32 → Int32 → Int32 → Int64 → Int32 → ZM → Option (Int32 × ZM)} {res : Int32 × ZM} (hr2 : ∀ (x1 : Int32) (x2 : Int32) (x3 : Int32) (σ : ZM), rec2 x1 x2 x3 σ = some res → zag [(0, some 14), (0, some 30), (0, some 31), (12, none), (13, none), (14, none), (15, none), (16, none), (17, none), (18, none), (19, none), (20, none), (21, none), (22, none), (23, none), (24, none), (25, none), (26, none), (36, none)] σ res.2) (hr49 : ∀ (x1 : Int32) (x2 : Int32) (x3 : Int32) (x4 : Int64) (x6 : Int32) (σ : ZM), rec49 x1 x2 x3 x4 x6 σ = some res → zag [(0, some 14), (0, some 30), (0, some 31), (12, none), (13, none), (14, none), (15, none), (16, none), (17, none), (18, none), (19, none), (20, none), (21, none), (22, none), (23, none), (24, none), (25, none), (26, none), (36, none)] σ res.2) {x1 : Int32} {x2 : Int32} {x3 : Int32} {x4 : Int64} {x6 : Int32} {σ : ZM} (h : b_X9_greatestAlike_49 N rec2 rec49 x1 x2 x3 x4 x6 σ = some res) : zag [(0, some 14), (0, some 30), (0, some 31), (12, none), (13, none), (14, none), (15, none), (16, none), (17, none), (18, none), (19, none), (20, none), (21, none), (22, none), (23, none), (24, none), (25, none), (26, none), (36, none)] σ res.2 := by
  unfold b_X9_greatestAlike_49 at h
  have hA : zag [(0, some 14), (0, some 30), (0, some 31), (12, none), (13, none), (14, none), (15, none), (16, none), (17, none), (18, none), (19, none), (20, none), (21, none), (22, none), (23, none), (24, none), (25, none), (26, none), (36, none)] σ σ := zag_r
  rcases zi2 h with ⟨hc55, h⟩ | ⟨hc55, h⟩
  · skip
    exact zag_t hA (fr_X9_greatestAlike_97 hr2 h)
  · skip
    obtain ⟨v10, ev10, h⟩ := zb h
    rcases (zi2 h).symm with ⟨hc73, h⟩ | ⟨hc73, h⟩
    · skip
      obtain ⟨v11, ev11, h⟩ := zb h
      exact zag_t hA (fr_X9_greatestAlike_87 hr2 hr49 h)
    · skip
      exact zag_t hA (fr_X9_greatestAlike_87 hr2 hr49 h)
theorem fr_X9_greatestAlike_49 {N : Nat} {rec2 : Int32 → Int32 → Int32 → ZM → Option (Int32 × ZM)} {res : Int32 × ZM} (hr2 : ∀ (x1 : Int32) (x2 : Int32) (x3 : Int32) (σ : ZM), rec2 x1 x2 x3 σ = some res → zag [(0, some 14), (0, some 30), (0, some 31), (12, none), (13, none), (14, none), (15, none), (16, none), (17, none), (18, none), (19, none), (20, none), (21, none), (22, none), (23, none), (24, none), (25, none), (26, none), (36, none)] σ res.2) : ∀ (n : Nat) (x1 : Int32) (x2 : Int32) (x3 : Int32) (x4 : Int64) (x6 : Int32) (σ : ZM), f_X9_greatestAlike_49 N rec2 n x1 x2 x3 x4 x6 σ = some res → zag [(0, some 14), (0, some 30), (0, some 31), (12, none), (13, none), (14, none), (15, none), (16, none), (17, none), (18, none), (19, none), (20, none), (21, none), (22, none), (23, none), (24, none), (25, none), (26, none), (36, none)] σ res.2 := by
  intro n
  induction n with
  | zero => intro x1 x2 x3 x4 x6 σ h; exact absurd h (by simp [f_X9_greatestAlike_49])
  | succ n ih => intro x1 x2 x3 x4 x6 σ h; rw [f_X9_greatestAlike_49] at h; exact fr_b_X9_greatestAlike_49 hr2 ih h
theorem fr_b_X9_greatestAlike_2 {N : Nat} {rec2 : Int32 → Int32 → Int32 → ZM → Option (Int32 × ZM)} {res : Int32 × ZM} (hr2 : ∀ (x1 : Int32) (x2 : Int32) (x3 : Int32) (σ : ZM), rec2 x1 x2 x3 σ = some res → zag [(0, some 14), (0, some 30), (0, some 31), (12, none), (13, none), (14, none), (15, none), (16, none), (17, none), (18, none), (19, none), (20, none), (21, none), (22, none), (23, none), (24, none), (25, none), (26, none), (36, none)] σ res.2) {x1 : Int32} {x2 : Int32} {x3 : Int32} {σ : ZM} (h : b_X9_greatestAlike_2 N rec2 x1 x2 x3 σ = some res) : zag [(0, some 14), (0, some 30), (0, some 31), (12, none), (13, none), (14, none), (15, none), (16, none), (17, none), (18, none), (19, none), (20, none), (21, none), (22, none), (23, none), (24, none), (25, none), (26, none), (36, none)] σ res.2 := by
  unfold b_X9_greatestAlike_2 at h
  have hA : zag [(0, some 14), (0, some 30), (0, some 31), (12, none), (13, none), (14, none), (15, none), (16, none), (17, none), (18, none), (19, none), (20, none), (21, none), (22, none), (23, none), (24, none), (25, none), (26, none), (36, none)] σ σ := zag_r
  rcases zi2 h with ⟨hc7, h⟩ | ⟨hc7, h⟩
  · skip
    exact zag_t hA (fr_X9_greatestAlike_116 _ _ _ _ h)
  · skip
    obtain ⟨r12, s13, es13, h⟩ := zc h
    replace hA := zag_t hA (zag_w (by decide) (fr_X9_askNow es13))
    obtain ⟨s14, es14, h⟩ := zb h
    replace hA := zag_t hA (zag_w (by decide) (zag_iast es14))
    obtain ⟨v15, ev15, h⟩ := zb h
    obtain ⟨r16, s17, es17, h⟩ := zc h
    replace hA := zag_t hA (zag_w (by decide) (fr_X9_askCase es17))
    obtain ⟨r18, s19, es19, h⟩ := zc h
    replace hA := zag_t hA (zag_w (by decide) (fr_X9_settle es19))
    rcases zi2 h with ⟨hc40, h⟩ | ⟨hc40, h⟩
    · skip
      exact zag_t hA (fr_X9_greatestAlike_97 hr2 h)
    · skip
      exact zag_t hA (fr_X9_greatestAlike_49 hr2 _ _ _ _ _ _ _ h)
theorem fr_X9_greatestAlike_2 {N : Nat} {res : Int32 × ZM} : ∀ (n : Nat) (x1 : Int32) (x2 : Int32) (x3 : Int32) (σ : ZM), f_X9_greatestAlike_2 N n x1 x2 x3 σ = some res → zag [(0, some 14), (0, some 30), (0, some 31), (12, none), (13, none), (14, none), (15, none), (16, none), (17, none), (18, none), (19, none), (20, none), (21, none), (22, none), (23, none), (24, none), (25, none), (26, none), (36, none)] σ res.2 := by
  intro n
  induction n with
  | zero => intro x1 x2 x3 σ h; exact absurd h (by simp [f_X9_greatestAlike_2])
  | succ n ih => intro x1 x2 x3 σ h; rw [f_X9_greatestAlike_2] at h; exact fr_b_X9_greatestAlike_2 ih h
theorem fr_X9_greatestAlike {N : Nat} {x1 : Int32} {x2 : Int32} {σ : ZM} {res : Int32 × ZM} (h : f_X9_greatestAlike N x1 x2 σ = some res) : zag [(0, some 14), (0, some 30), (0, some 31), (12, none), (13, none), (14, none), (15, none), (16, none), (17, none), (18, none), (19, none), (20, none), (21, none), (22, none), (23, none), (24, none), (25, none), (26, none), (36, none)] σ res.2 := by
  unfold f_X9_greatestAlike at h
  have hA : zag [(0, some 14), (0, some 30), (0, some 31), (12, none), (13, none), (14, none), (15, none), (16, none), (17, none), (18, none), (19, none), (20, none), (21, none), (22, none), (23, none), (24, none), (25, none), (26, none), (36, none)] σ σ := zag_r
  exact zag_t hA (fr_X9_greatestAlike_2 _ _ _ _ _ h)
theorem fr_X9_next_119 {N : Nat} {res : Int32 × ZM} {x1 : Int32} {σ : ZM} (h : f_X9_next_119 N x1 σ = some res) : zag [(0, some 14), (0, some 30), (0, some 31), (0, some 40), (0, some 44), (0, some 45), (12, none), (13, none), (14, none), (15, none), (16, none), (17, none), (18, none), (19, none), (20, none), (21, none), (22, none), (23, none), (24, none), (25, none), (26, none), (34, none), (36, none)] σ res.2 := by
  unfold f_X9_next_119 at h
  have hA : zag [(0, some 14), (0, some 30), (0, some 31), (0, some 40), (0, some 44), (0, some 45), (12, none), (13, none), (14, none), (15, none), (16, none), (17, none), (18, none), (19, none), (20, none), (21, none), (22, none), (23, none), (24, none), (25, none), (26, none), (34, none), (36, none)] σ σ := zag_r
  rcases zi2 h with ⟨hc120, h⟩ | ⟨hc120, h⟩
  · skip
    cases h
    exact hA
  · skip
    cases h
    exact hA
theorem fr_X9_next_113 {N : Nat} {rec24 : Int32 → Int32 → ZM → Option (Int32 × ZM)} {res : Int32 × ZM} (hr24 : ∀ (x1 : Int32) (x2 : Int32) (σ : ZM), rec24 x1 x2 σ = some res → zag [(0, some 14), (0, some 30), (0, some 31), (0, some 40), (0, some 44), (0, some 45), (12, none), (13, none), (14, none), (15, none), (16, none), (17, none), (18, none), (19, none), (20, none), (21, none), (22, none), (23, none), (24, none), (25, none), (26, none), (34, none), (36, none)] σ res.2) {x1 : Int32} {x2 : Int32} {σ : ZM} (h : f_X9_next_113 N rec24 x1 x2 σ = some res) : zag [(0, some 14), (0, some 30), (0, some 31), (0, some 40), (0, some 44), (0, some 45), (12, none), (13, none), (14, none), (15, none), (16, none), (17, none), (18, none), (19, none), (20, none), (21, none), (22, none), (23, none), (24, none), (25, none), (26, none), (34, none), (36, none)] σ res.2 := by
  unfold f_X9_next_113 at h
  have hA : zag [(0, some 14), (0, some 30), (0, some 31), (0, some 40), (0, some 44), (0, some 45), (12, none), (13, none), (14, none), (15, none), (16, none), (17, none), (18, none), (19, none), (20, none), (21, none), (22, none), (23, none), (24, none), (25, none), (26, none), (34, none), (36, none)] σ σ := zag_r
  obtain ⟨v1, ev1, h⟩ := zb h
  exact zag_t hA (hr24 _ _ _ h)
theorem fr_X9_next_95 {N : Nat} {rec24 : Int32 → Int32 → ZM → Option (Int32 × ZM)} {res : Int32 × ZM} (hr24 : ∀ (x1 : Int32) (x2 : Int32) (σ : ZM), rec24 x1 x2 σ = some res → zag [(0, some 14), (0, some 30), (0, some 31), (0, some 40), (0, some 44), (0, some 45), (12, none), (13, none), (14, none), (15, none), (16, none), (17, none), (18, none), (19, none), (20, none), (21, none), (22, none), (23, none), (24, none), (25, none), (26, none), (34, none), (36, none)] σ res.2) {x1 : Int32} {x2 : Int32} {x3 : Int32} {x4 : Int32} {σ : ZM} (h : f_X9_next_95 N rec24 x1 x2 x3 x4 σ = some res) : zag [(0, some 14), (0, some 30), (0, some 31), (0, some 40), (0, some 44), (0, some 45), (12, none), (13, none), (14, none), (15, none), (16, none), (17, none), (18, none), (19, none), (20, none), (21, none), (22, none), (23, none), (24, none), (25, none), (26, none), (34, none), (36, none)] σ res.2 := by
  unfold f_X9_next_95 at h
  have hA : zag [(0, some 14), (0, some 30), (0, some 31), (0, some 40), (0, some 44), (0, some 45), (12, none), (13, none), (14, none), (15, none), (16, none), (17, none), (18, none), (19, none), (20, none), (21, none), (22, none), (23, none), (24, none), (25, none), (26, none), (34, none), (36, none)] σ σ := zag_r
  obtain ⟨v2, ev2, h⟩ := zb h
  obtain ⟨s3, es3, h⟩ := zb h
  replace hA := zag_t hA (zag_w (by decide) (zag_putI es3))
  obtain ⟨s4, es4, h⟩ := zb h
  replace hA := zag_t hA (zag_w (by decide) (zag_putI es4))
  exact zag_t hA (fr_X9_next_113 hr24 h)
theorem fr_b_X9_next_24 {N : Nat} {rec24 : Int32 → Int32 → ZM → Option (Int32 × ZM)} {res : Int32 × ZM} (hr24 : ∀ (x1 : Int32) (x2 : Int32) (σ : ZM), rec24 x1 x2 σ = some res → zag [(0, some 14), (0, some 30), (0, some 31), (0, some 40), (0, some 44), (0, some 45), (12, none), (13, none), (14, none), (15, none), (16, none), (17, none), (18, none), (19, none), (20, none), (21, none), (22, none), (23, none), (24, none), (25, none), (26, none), (34, none), (36, none)] σ res.2) {x1 : Int32} {x2 : Int32} {σ : ZM} (h : b_X9_next_24 N rec24 x1 x2 σ = some res) : zag [(0, some 14), (0, some 30), (0, some 31), (0, some 40), (0, some 44), (0, some 45), (12, none), (13, none), (14, none), (15, none), (16, none), (17, none), (18, none), (19, none), (20, none), (21, none), (22, none), (23, none), (24, none), (25, none), (26, none), (34, none), (36, none)] σ res.2 := by
  unfold b_X9_next_24 at h
  have hA : zag [(0, some 14), (0, some 30), (0, some 31), (0, some 40), (0, some 44), (0, some 45), (12, none), (13, none), (14, none), (15, none), (16, none), (17, none), (18, none), (19, none), (20, none), (21, none), (22, none), (23, none), (24, none), (25, none), (26, none), (34, none), (36, none)] σ σ := zag_r
  rcases zi2 h with ⟨hc31, h⟩ | ⟨hc31, h⟩
  · skip
    exact zag_t hA (fr_X9_next_119 h)
  · skip
    rcases zi2 h with ⟨hc39, h⟩ | ⟨hc39, h⟩
    · skip
      exact zag_t hA (fr_X9_next_119 h)
    · skip
      obtain ⟨v5, ev5, h⟩ := zb h
      obtain ⟨v6, ev6, h⟩ := zb h
      rcases zi2 h with ⟨hc52, h⟩ | ⟨hc52, h⟩
      · skip
        exact zag_t hA (fr_X9_next_113 hr24 h)
      · skip
        obtain ⟨v7, ev7, h⟩ := zb h
        obtain ⟨v8, ev8, h⟩ := zb h
        rcases zi2 h with ⟨hc64, h⟩ | ⟨hc64, h⟩
        · skip
          exact zag_t hA (fr_X9_next_113 hr24 h)
        · skip
          obtain ⟨v9, ev9, h⟩ := zb h
          obtain ⟨r10, s11, es11, h⟩ := zc h
          replace hA := zag_t hA (zag_w (by decide) (fr_X9_greatestAlike es11))
          rcases zi2 h with ⟨hc83, h⟩ | ⟨hc83, h⟩
          · skip
            exact zag_t hA (fr_X9_next_95 hr24 h)
          · skip
            rcases zi2 h with ⟨hc92, h⟩ | ⟨hc92, h⟩
            · skip
              exact zag_t hA (fr_X9_next_113 hr24 h)
            · skip
              exact zag_t hA (fr_X9_next_95 hr24 h)
theorem fr_X9_next_24 {N : Nat} {res : Int32 × ZM} : ∀ (n : Nat) (x1 : Int32) (x2 : Int32) (σ : ZM), f_X9_next_24 N n x1 x2 σ = some res → zag [(0, some 14), (0, some 30), (0, some 31), (0, some 40), (0, some 44), (0, some 45), (12, none), (13, none), (14, none), (15, none), (16, none), (17, none), (18, none), (19, none), (20, none), (21, none), (22, none), (23, none), (24, none), (25, none), (26, none), (34, none), (36, none)] σ res.2 := by
  intro n
  induction n with
  | zero => intro x1 x2 σ h; exact absurd h (by simp [f_X9_next_24])
  | succ n ih => intro x1 x2 σ h; rw [f_X9_next_24] at h; exact fr_b_X9_next_24 ih h
theorem fr_X9_next {N : Nat} {x1 : Int32} {σ : ZM} {res : Int32 × ZM} (h : f_X9_next N x1 σ = some res) : zag [(0, some 14), (0, some 30), (0, some 31), (0, some 40), (0, some 44), (0, some 45), (12, none), (13, none), (14, none), (15, none), (16, none), (17, none), (18, none), (19, none), (20, none), (21, none), (22, none), (23, none), (24, none), (25, none), (26, none), (34, none), (36, none)] σ res.2 := by
  unfold f_X9_next at h
  have hA : zag [(0, some 14), (0, some 30), (0, some 31), (0, some 40), (0, some 44), (0, some 45), (12, none), (13, none), (14, none), (15, none), (16, none), (17, none), (18, none), (19, none), (20, none), (21, none), (22, none), (23, none), (24, none), (25, none), (26, none), (34, none), (36, none)] σ σ := zag_r
  obtain ⟨r12, s13, es13, h⟩ := zc h
  replace hA := zag_t hA (zag_w (by decide) (fr_X9_layAgreed es13))
  rcases (zi2 h).symm with ⟨hc4, h⟩ | ⟨hc4, h⟩
  · skip
    obtain ⟨s14, es14, h⟩ := zb h
    replace hA := zag_t hA (zag_w (by decide) (zag_putI es14))
    obtain ⟨s15, es15, h⟩ := zb h
    replace hA := zag_t hA (zag_w (by decide) (zag_putI es15))
    exact zag_t hA (fr_X9_next_24 _ _ _ _ h)
  · skip
    cases h
    exact hA
theorem fr_X9_layChoice_90 {N : Nat} {rec7 : Int32 → Int32 → Int32 → ZM → Option (Int32 × ZM)} {res : Int32 × ZM} (hr7 : ∀ (x2 : Int32) (x3 : Int32) (x4 : Int32) (σ : ZM), rec7 x2 x3 x4 σ = some res → zag [(37, none)] σ res.2) {x2 : Int32} {x3 : Int32} {x4 : Int32} {y0 : Int32} {y1 : Int32} {σ : ZM} (h : f_X9_layChoice_90 N rec7 x2 x3 x4 y0 y1 σ = some res) : zag [(37, none)] σ res.2 := by
  unfold f_X9_layChoice_90 at h
  have hA : zag [(37, none)] σ σ := zag_r
  obtain ⟨s1, es1, h⟩ := zb h
  replace hA := zag_t hA (zag_w (by decide) (zag_iast es1))
  obtain ⟨v2, ev2, h⟩ := zb h
  exact zag_t hA (hr7 _ _ _ _ h)
theorem fr_X9_layChoice_66 {N : Nat} {rec7 : Int32 → Int32 → Int32 → ZM → Option (Int32 × ZM)} {res : Int32 × ZM} (hr7 : ∀ (x2 : Int32) (x3 : Int32) (x4 : Int32) (σ : ZM), rec7 x2 x3 x4 σ = some res → zag [(37, none)] σ res.2) {x2 : Int32} {x4 : Int32} {x5 : Int32} {x6 : Int32} {y0 : Int32} {σ : ZM} (h : f_X9_layChoice_66 N rec7 x2 x4 x5 x6 y0 σ = some res) : zag [(37, none)] σ res.2 := by
  unfold f_X9_layChoice_66 at h
  have hA : zag [(37, none)] σ σ := zag_r
  rcases zi2 h with ⟨hc75, h⟩ | ⟨hc75, h⟩
  · skip
    obtain ⟨v3, ev3, h⟩ := zb h
    exact zag_t hA (fr_X9_layChoice_90 hr7 h)
  · skip
    exact zag_t hA (fr_X9_layChoice_90 hr7 h)
theorem fr_X9_layChoice_65 {N : Nat} {rec7 : Int32 → Int32 → Int32 → ZM → Option (Int32 × ZM)} {res : Int32 × ZM} (hr7 : ∀ (x2 : Int32) (x3 : Int32) (x4 : Int32) (σ : ZM), rec7 x2 x3 x4 σ = some res → zag [(37, none)] σ res.2) {x2 : Int32} {x4 : Int32} {x5 : Int32} {x6 : Int32} {σ : ZM} (h : f_X9_layChoice_65 N rec7 x2 x4 x5 x6 σ = some res) : zag [(37, none)] σ res.2 := by
  unfold f_X9_layChoice_65 at h
  have hA : zag [(37, none)] σ σ := zag_r
  exact zag_t hA (fr_X9_layChoice_66 hr7 h)
theorem fr_X9_layChoice_61 {N : Nat} {rec7 : Int32 → Int32 → Int32 → ZM → Option (Int32 × ZM)} {res : Int32 × ZM} (hr7 : ∀ (x2 : Int32) (x3 : Int32) (x4 : Int32) (σ : ZM), rec7 x2 x3 x4 σ = some res → zag [(37, none)] σ res.2) {x2 : Int32} {x4 : Int32} {x5 : Int32} {x6 : Int32} {σ : ZM} (h : f_X9_layChoice_61 N rec7 x2 x4 x5 x6 σ = some res) : zag [(37, none)] σ res.2 := by
  unfold f_X9_layChoice_61 at h
  have hA : zag [(37, none)] σ σ := zag_r
  exact zag_t hA (fr_X9_layChoice_66 hr7 h)
theorem fr_X9_layChoice_45 {N : Nat} {rec7 : Int32 → Int32 → Int32 → ZM → Option (Int32 × ZM)} {res : Int32 × ZM} (hr7 : ∀ (x2 : Int32) (x3 : Int32) (x4 : Int32) (σ : ZM), rec7 x2 x3 x4 σ = some res → zag [(37, none)] σ res.2) {x2 : Int32} {x3 : Int32} {x4 : Int32} {x5 : Int32} {y0 : Int32} {σ : ZM} (h : f_X9_layChoice_45 N rec7 x2 x3 x4 x5 y0 σ = some res) : zag [(37, none)] σ res.2 := by
  unfold f_X9_layChoice_45 at h
  have hA : zag [(37, none)] σ σ := zag_r
  rcases zi2 h with ⟨hc48, h⟩ | ⟨hc48, h⟩
  · skip
    exact zag_t hA (fr_X9_layChoice_65 hr7 h)
  · skip
    rcases (zi2 h).symm with ⟨hc53, h⟩ | ⟨hc53, h⟩
    · skip
      exact zag_t hA (fr_X9_layChoice_61 hr7 h)
    · skip
      rcases (zi2 h).symm with ⟨hc58, h⟩ | ⟨hc58, h⟩
      · skip
        exact zag_t hA (fr_X9_layChoice_65 hr7 h)
      · skip
        exact zag_t hA (fr_X9_layChoice_61 hr7 h)
theorem fr_X9_layChoice_44 {N : Nat} {rec7 : Int32 → Int32 → Int32 → ZM → Option (Int32 × ZM)} {res : Int32 × ZM} (hr7 : ∀ (x2 : Int32) (x3 : Int32) (x4 : Int32) (σ : ZM), rec7 x2 x3 x4 σ = some res → zag [(37, none)] σ res.2) {x2 : Int32} {x3 : Int32} {x4 : Int32} {x5 : Int32} {σ : ZM} (h : f_X9_layChoice_44 N rec7 x2 x3 x4 x5 σ = some res) : zag [(37, none)] σ res.2 := by
  unfold f_X9_layChoice_44 at h
  have hA : zag [(37, none)] σ σ := zag_r
  exact zag_t hA (fr_X9_layChoice_45 hr7 h)
theorem fr_b_X9_layChoice_7 {N : Nat} {rec7 : Int32 → Int32 → Int32 → ZM → Option (Int32 × ZM)} {res : Int32 × ZM} (hr7 : ∀ (x2 : Int32) (x3 : Int32) (x4 : Int32) (σ : ZM), rec7 x2 x3 x4 σ = some res → zag [(37, none)] σ res.2) {x2 : Int32} {x3 : Int32} {x4 : Int32} {σ : ZM} (h : b_X9_layChoice_7 N rec7 x2 x3 x4 σ = some res) : zag [(37, none)] σ res.2 := by
  unfold b_X9_layChoice_7 at h
  have hA : zag [(37, none)] σ σ := zag_r
  rcases zi2 h with ⟨hc9, h⟩ | ⟨hc9, h⟩
  · skip
    obtain ⟨hz, rfl⟩ := zrz_ok h
    exact hA
  · skip
    obtain ⟨v4, ev4, h⟩ := zb h
    obtain ⟨v5, ev5, h⟩ := zb h
    rcases zi2 h with ⟨hc27, h⟩ | ⟨hc27, h⟩
    · skip
      exact zag_t hA (fr_X9_layChoice_44 hr7 h)
    · skip
      obtain ⟨v6, ev6, h⟩ := zb h
      rcases zi2 h with ⟨hc37, h⟩ | ⟨hc37, h⟩
      · skip
        exact zag_t hA (fr_X9_layChoice_44 hr7 h)
      · skip
        exact zag_t hA (fr_X9_layChoice_45 hr7 h)
theorem fr_X9_layChoice_7 {N : Nat} {res : Int32 × ZM} : ∀ (n : Nat) (x2 : Int32) (x3 : Int32) (x4 : Int32) (σ : ZM), f_X9_layChoice_7 N n x2 x3 x4 σ = some res → zag [(37, none)] σ res.2 := by
  intro n
  induction n with
  | zero => intro x2 x3 x4 σ h; exact absurd h (by simp [f_X9_layChoice_7])
  | succ n ih => intro x2 x3 x4 σ h; rw [f_X9_layChoice_7] at h; exact fr_b_X9_layChoice_7 ih h
theorem fr_X9_layChoice {N : Nat} {x1 : Int32} {σ : ZM} {res : Int32 × ZM} (h : f_X9_layChoice N x1 σ = some res) : zag [(37, none)] σ res.2 := by
  unfold f_X9_layChoice at h
  have hA : zag [(37, none)] σ σ := zag_r
  exact zag_t hA (fr_X9_layChoice_7 _ _ _ _ _ h)
theorem fr_X9_measure_114 {N : Nat} {res : Int32 × ZM} {y0 : Int64} {σ : ZM} (h : f_X9_measure_114 N y0 σ = some res) : zag [(0, some 14), (0, some 30), (0, some 31), (0, some 51), (0, some 52), (12, none), (13, none), (14, none), (15, none), (16, none), (17, none), (18, none), (19, none), (20, none), (21, none), (22, none), (23, none), (24, none), (25, none), (26, none)] σ res.2 := by
  unfold f_X9_measure_114 at h
  have hA : zag [(0, some 14), (0, some 30), (0, some 31), (0, some 51), (0, some 52), (12, none), (13, none), (14, none), (15, none), (16, none), (17, none), (18, none), (19, none), (20, none), (21, none), (22, none), (23, none), (24, none), (25, none), (26, none)] σ σ := zag_r
  obtain ⟨s1, es1, h⟩ := zb h
  replace hA := zag_t hA (zag_w (by decide) (zag_putJ es1))
  cases h
  exact hA
theorem fr_X9_measure_93 {N : Nat} {res : Int32 × ZM} {x3 : Int64} {y0 : Int32} {σ : ZM} (h : f_X9_measure_93 N x3 y0 σ = some res) : zag [(0, some 14), (0, some 30), (0, some 31), (0, some 51), (0, some 52), (12, none), (13, none), (14, none), (15, none), (16, none), (17, none), (18, none), (19, none), (20, none), (21, none), (22, none), (23, none), (24, none), (25, none), (26, none)] σ res.2 := by
  unfold f_X9_measure_93 at h
  have hA : zag [(0, some 14), (0, some 30), (0, some 31), (0, some 51), (0, some 52), (12, none), (13, none), (14, none), (15, none), (16, none), (17, none), (18, none), (19, none), (20, none), (21, none), (22, none), (23, none), (24, none), (25, none), (26, none)] σ σ := zag_r
  obtain ⟨s2, es2, h⟩ := zb h
  replace hA := zag_t hA (zag_w (by decide) (zag_putI es2))
  rcases zi2 h with ⟨hc103, h⟩ | ⟨hc103, h⟩
  · skip
    exact zag_t hA (fr_X9_measure_114 h)
  · skip
    exact zag_t hA (fr_X9_measure_114 h)
theorem fr_X9_measure_50 {N : Nat} {rec6 : Int32 → Int32 → ZM → Option (Int32 × ZM)} {res : Int32 × ZM} (hr6 : ∀ (x1 : Int32) (x2 : Int32) (σ : ZM), rec6 x1 x2 σ = some res → zag [(0, some 14), (0, some 30), (0, some 31), (0, some 51), (0, some 52), (12, none), (13, none), (14, none), (15, none), (16, none), (17, none), (18, none), (19, none), (20, none), (21, none), (22, none), (23, none), (24, none), (25, none), (26, none)] σ res.2) {x1 : Int32} {x2 : Int32} {y0 : Int32} {y1 : Int32} {σ : ZM} (h : f_X9_measure_50 N rec6 x1 x2 y0 y1 σ = some res) : zag [(0, some 14), (0, some 30), (0, some 31), (0, some 51), (0, some 52), (12, none), (13, none), (14, none), (15, none), (16, none), (17, none), (18, none), (19, none), (20, none), (21, none), (22, none), (23, none), (24, none), (25, none), (26, none)] σ res.2 := by
  unfold f_X9_measure_50 at h
  have hA : zag [(0, some 14), (0, some 30), (0, some 31), (0, some 51), (0, some 52), (12, none), (13, none), (14, none), (15, none), (16, none), (17, none), (18, none), (19, none), (20, none), (21, none), (22, none), (23, none), (24, none), (25, none), (26, none)] σ σ := zag_r
  obtain ⟨s3, es3, h⟩ := zb h
  replace hA := zag_t hA (zag_w (by decide) (zag_zast es3))
  obtain ⟨v4, ev4, h⟩ := zb h
  exact zag_t hA (hr6 _ _ _ h)
theorem fr_X9_measure_49 {N : Nat} {rec6 : Int32 → Int32 → ZM → Option (Int32 × ZM)} {res : Int32 × ZM} (hr6 : ∀ (x1 : Int32) (x2 : Int32) (σ : ZM), rec6 x1 x2 σ = some res → zag [(0, some 14), (0, some 30), (0, some 31), (0, some 51), (0, some 52), (12, none), (13, none), (14, none), (15, none), (16, none), (17, none), (18, none), (19, none), (20, none), (21, none), (22, none), (23, none), (24, none), (25, none), (26, none)] σ res.2) {x1 : Int32} {x2 : Int32} {y0 : Int32} {σ : ZM} (h : f_X9_measure_49 N rec6 x1 x2 y0 σ = some res) : zag [(0, some 14), (0, some 30), (0, some 31), (0, some 51), (0, some 52), (12, none), (13, none), (14, none), (15, none), (16, none), (17, none), (18, none), (19, none), (20, none), (21, none), (22, none), (23, none), (24, none), (25, none), (26, none)] σ res.2 := by
  unfold f_X9_measure_49 at h
  have hA : zag [(0, some 14), (0, some 30), (0, some 31), (0, some 51), (0, some 52), (12, none), (13, none), (14, none), (15, none), (16, none), (17, none), (18, none), (19, none), (20, none), (21, none), (22, none), (23, none), (24, none), (25, none), (26, none)] σ σ := zag_r
  exact zag_t hA (fr_X9_measure_50 hr6 h)
theorem fr_b_X9_measure_6 {N : Nat} {rec6 : Int32 → Int32 → ZM → Option (Int32 × ZM)} {res : Int32 × ZM} (hr6 : ∀ (x1 : Int32) (x2 : Int32) (σ : ZM), rec6 x1 x2 σ = some res → zag [(0, some 14), (0, some 30), (0, some 31), (0, some 51), (0, some 52), (12, none), (13, none), (14, none), (15, none), (16, none), (17, none), (18, none), (19, none), (20, none), (21, none), (22, none), (23, none), (24, none), (25, none), (26, none)] σ res.2) {x1 : Int32} {x2 : Int32} {σ : ZM} (h : b_X9_measure_6 N rec6 x1 x2 σ = some res) : zag [(0, some 14), (0, some 30), (0, some 31), (0, some 51), (0, some 52), (12, none), (13, none), (14, none), (15, none), (16, none), (17, none), (18, none), (19, none), (20, none), (21, none), (22, none), (23, none), (24, none), (25, none), (26, none)] σ res.2 := by
  unfold b_X9_measure_6 at h
  have hA : zag [(0, some 14), (0, some 30), (0, some 31), (0, some 51), (0, some 52), (12, none), (13, none), (14, none), (15, none), (16, none), (17, none), (18, none), (19, none), (20, none), (21, none), (22, none), (23, none), (24, none), (25, none), (26, none)] σ σ := zag_r
  rcases zi2 h with ⟨hc11, h⟩ | ⟨hc11, h⟩
  · skip
    obtain ⟨r5, s6, es6, h⟩ := zc h
    replace hA := zag_t hA (zag_w (by decide) (fr_X9_settle es6))
    rcases (zi2 h).symm with ⟨hc61, h⟩ | ⟨hc61, h⟩
    · skip
      obtain ⟨r7, s8, es8, h⟩ := zc h
      replace hA := zag_t hA (zag_w (by decide) (fr_X9_excessOf es8))
      obtain ⟨r9, s10, es10, h⟩ := zc h
      replace hA := zag_t hA (zag_w (by decide) (fr_X9_sumOf es10))
      rcases zi2 h with ⟨hc82, h⟩ | ⟨hc82, h⟩
      · skip
        exact zag_t hA (fr_X9_measure_93 h)
      · skip
        exact zag_t hA (fr_X9_measure_93 h)
    · skip
      cases h
      exact hA
  · skip
    obtain ⟨v11, ev11, h⟩ := zb h
    obtain ⟨s12, es12, h⟩ := zb h
    replace hA := zag_t hA (zag_w (by decide) (zag_iast es12))
    obtain ⟨v13, ev13, h⟩ := zb h
    rcases zi2 h with ⟨hc37, h⟩ | ⟨hc37, h⟩
    · skip
      exact zag_t hA (fr_X9_measure_49 hr6 h)
    · skip
      rcases zi2 h with ⟨hc42, h⟩ | ⟨hc42, h⟩
      · skip
        exact zag_t hA (fr_X9_measure_49 hr6 h)
      · skip
        exact zag_t hA (fr_X9_measure_50 hr6 h)
theorem fr_X9_measure_6 {N : Nat} {res : Int32 × ZM} : ∀ (n : Nat) (x1 : Int32) (x2 : Int32) (σ : ZM), f_X9_measure_6 N n x1 x2 σ = some res → zag [(0, some 14), (0, some 30), (0, some 31), (0, some 51), (0, some 52), (12, none), (13, none), (14, none), (15, none), (16, none), (17, none), (18, none), (19, none), (20, none), (21, none), (22, none), (23, none), (24, none), (25, none), (26, none)] σ res.2 := by
  intro n
  induction n with
  | zero => intro x1 x2 σ h; exact absurd h (by simp [f_X9_measure_6])
  | succ n ih => intro x1 x2 σ h; rw [f_X9_measure_6] at h; exact fr_b_X9_measure_6 ih h
theorem fr_X9_measure {N : Nat} {x1 : Int32} {σ : ZM} {res : Int32 × ZM} (h : f_X9_measure N x1 σ = some res) : zag [(0, some 14), (0, some 30), (0, some 31), (0, some 51), (0, some 52), (12, none), (13, none), (14, none), (15, none), (16, none), (17, none), (18, none), (19, none), (20, none), (21, none), (22, none), (23, none), (24, none), (25, none), (26, none)] σ res.2 := by
  unfold f_X9_measure at h
  have hA : zag [(0, some 14), (0, some 30), (0, some 31), (0, some 51), (0, some 52), (12, none), (13, none), (14, none), (15, none), (16, none), (17, none), (18, none), (19, none), (20, none), (21, none), (22, none), (23, none), (24, none), (25, none), (26, none)] σ σ := zag_r
  obtain ⟨r14, s15, es15, h⟩ := zc h
  replace hA := zag_t hA (zag_w (by decide) (fr_X9_askNow es15))
  exact zag_t hA (fr_X9_measure_6 _ _ _ _ h)
theorem fr_X9_measureAll_65 {N : Nat} {res : Int32 × ZM} {x2 : Int32} {σ : ZM} (h : f_X9_measureAll_65 N x2 σ = some res) : zag [(0, some 14), (0, some 30), (0, some 31), (0, some 51), (0, some 52), (12, none), (13, none), (14, none), (15, none), (16, none), (17, none), (18, none), (19, none), (20, none), (21, none), (22, none), (23, none), (24, none), (25, none), (26, none)] σ res.2 := by
  unfold f_X9_measureAll_65 at h
  have hA : zag [(0, some 14), (0, some 30), (0, some 31), (0, some 51), (0, some 52), (12, none), (13, none), (14, none), (15, none), (16, none), (17, none), (18, none), (19, none), (20, none), (21, none), (22, none), (23, none), (24, none), (25, none), (26, none)] σ σ := zag_r
  obtain ⟨hz, rfl⟩ := zrz_ok h
  exact hA
theorem fr_X9_measureAll_58 {N : Nat} {rec20 : Int32 → Int32 → Int32 → ZM → Option (Int32 × ZM)} {res : Int32 × ZM} (hr20 : ∀ (x1 : Int32) (x2 : Int32) (x3 : Int32) (σ : ZM), rec20 x1 x2 x3 σ = some res → zag [(0, some 14), (0, some 30), (0, some 31), (0, some 51), (0, some 52), (12, none), (13, none), (14, none), (15, none), (16, none), (17, none), (18, none), (19, none), (20, none), (21, none), (22, none), (23, none), (24, none), (25, none), (26, none)] σ res.2) {x1 : Int32} {x3 : Int32} {y0 : Int32} {σ : ZM} (h : f_X9_measureAll_58 N rec20 x1 x3 y0 σ = some res) : zag [(0, some 14), (0, some 30), (0, some 31), (0, some 51), (0, some 52), (12, none), (13, none), (14, none), (15, none), (16, none), (17, none), (18, none), (19, none), (20, none), (21, none), (22, none), (23, none), (24, none), (25, none), (26, none)] σ res.2 := by
  unfold f_X9_measureAll_58 at h
  have hA : zag [(0, some 14), (0, some 30), (0, some 31), (0, some 51), (0, some 52), (12, none), (13, none), (14, none), (15, none), (16, none), (17, none), (18, none), (19, none), (20, none), (21, none), (22, none), (23, none), (24, none), (25, none), (26, none)] σ σ := zag_r
  obtain ⟨v1, ev1, h⟩ := zb h
  exact zag_t hA (hr20 _ _ _ _ h)
theorem fr_X9_measureAll_53 {N : Nat} {rec20 : Int32 → Int32 → Int32 → ZM → Option (Int32 × ZM)} {res : Int32 × ZM} (hr20 : ∀ (x1 : Int32) (x2 : Int32) (x3 : Int32) (σ : ZM), rec20 x1 x2 x3 σ = some res → zag [(0, some 14), (0, some 30), (0, some 31), (0, some 51), (0, some 52), (12, none), (13, none), (14, none), (15, none), (16, none), (17, none), (18, none), (19, none), (20, none), (21, none), (22, none), (23, none), (24, none), (25, none), (26, none)] σ res.2) {x1 : Int32} {x3 : Int32} {σ : ZM} (h : f_X9_measureAll_53 N rec20 x1 x3 σ = some res) : zag [(0, some 14), (0, some 30), (0, some 31), (0, some 51), (0, some 52), (12, none), (13, none), (14, none), (15, none), (16, none), (17, none), (18, none), (19, none), (20, none), (21, none), (22, none), (23, none), (24, none), (25, none), (26, none)] σ res.2 := by
  unfold f_X9_measureAll_53 at h
  have hA : zag [(0, some 14), (0, some 30), (0, some 31), (0, some 51), (0, some 52), (12, none), (13, none), (14, none), (15, none), (16, none), (17, none), (18, none), (19, none), (20, none), (21, none), (22, none), (23, none), (24, none), (25, none), (26, none)] σ σ := zag_r
  exact zag_t hA (fr_X9_measureAll_58 hr20 h)
theorem fr_b_X9_measureAll_20 {N : Nat} {rec20 : Int32 → Int32 → Int32 → ZM → Option (Int32 × ZM)} {res : Int32 × ZM} (hr20 : ∀ (x1 : Int32) (x2 : Int32) (x3 : Int32) (σ : ZM), rec20 x1 x2 x3 σ = some res → zag [(0, some 14), (0, some 30), (0, some 31), (0, some 51), (0, some 52), (12, none), (13, none), (14, none), (15, none), (16, none), (17, none), (18, none), (19, none), (20, none), (21, none), (22, none), (23, none), (24, none), (25, none), (26, none)] σ res.2) {x1 : Int32} {x2 : Int32} {x3 : Int32} {σ : ZM} (h : b_X9_measureAll_20 N rec20 x1 x2 x3 σ = some res) : zag [(0, some 14), (0, some 30), (0, some 31), (0, some 51), (0, some 52), (12, none), (13, none), (14, none), (15, none), (16, none), (17, none), (18, none), (19, none), (20, none), (21, none), (22, none), (23, none), (24, none), (25, none), (26, none)] σ res.2 := by
  unfold b_X9_measureAll_20 at h
  have hA : zag [(0, some 14), (0, some 30), (0, some 31), (0, some 51), (0, some 52), (12, none), (13, none), (14, none), (15, none), (16, none), (17, none), (18, none), (19, none), (20, none), (21, none), (22, none), (23, none), (24, none), (25, none), (26, none)] σ σ := zag_r
  rcases zi2 h with ⟨hc25, h⟩ | ⟨hc25, h⟩
  · skip
    exact zag_t hA (fr_X9_measureAll_65 h)
  · skip
    rcases zi2 h with ⟨hc29, h⟩ | ⟨hc29, h⟩
    · skip
      exact zag_t hA (fr_X9_measureAll_65 h)
    · skip
      rcases zi2 h with ⟨hc33, h⟩ | ⟨hc33, h⟩
      · skip
        exact zag_t hA (fr_X9_measureAll_65 h)
      · skip
        obtain ⟨v2, ev2, h⟩ := zb h
        rcases zi2 h with ⟨hc42, h⟩ | ⟨hc42, h⟩
        · skip
          exact zag_t hA (fr_X9_measureAll_53 hr20 h)
        · skip
          obtain ⟨r3, s4, es4, h⟩ := zc h
          replace hA := zag_t hA (zag_w (by decide) (fr_X9_measure es4))
          rcases zi2 h with ⟨hc50, h⟩ | ⟨hc50, h⟩
          · skip
            exact zag_t hA (fr_X9_measureAll_58 hr20 h)
          · skip
            exact zag_t hA (fr_X9_measureAll_53 hr20 h)
theorem fr_X9_measureAll_20 {N : Nat} {res : Int32 × ZM} : ∀ (n : Nat) (x1 : Int32) (x2 : Int32) (x3 : Int32) (σ : ZM), f_X9_measureAll_20 N n x1 x2 x3 σ = some res → zag [(0, some 14), (0, some 30), (0, some 31), (0, some 51), (0, some 52), (12, none), (13, none), (14, none), (15, none), (16, none), (17, none), (18, none), (19, none), (20, none), (21, none), (22, none), (23, none), (24, none), (25, none), (26, none)] σ res.2 := by
  intro n
  induction n with
  | zero => intro x1 x2 x3 σ h; exact absurd h (by simp [f_X9_measureAll_20])
  | succ n ih => intro x1 x2 x3 σ h; rw [f_X9_measureAll_20] at h; exact fr_b_X9_measureAll_20 ih h
theorem fr_X9_measureAll {N : Nat} {x1 : Int32} {σ : ZM} {res : Int32 × ZM} (h : f_X9_measureAll N x1 σ = some res) : zag [(0, some 14), (0, some 30), (0, some 31), (0, some 51), (0, some 52), (12, none), (13, none), (14, none), (15, none), (16, none), (17, none), (18, none), (19, none), (20, none), (21, none), (22, none), (23, none), (24, none), (25, none), (26, none)] σ res.2 := by
  unfold f_X9_measureAll at h
  have hA : zag [(0, some 14), (0, some 30), (0, some 31), (0, some 51), (0, some 52), (12, none), (13, none), (14, none), (15, none), (16, none), (17, none), (18, none), (19, none), (20, none), (21, none), (22, none), (23, none), (24, none), (25, none), (26, none)] σ σ := zag_r
  obtain ⟨s5, es5, h⟩ := zb h
  replace hA := zag_t hA (zag_w (by decide) (zag_putI es5))
  obtain ⟨s6, es6, h⟩ := zb h
  replace hA := zag_t hA (zag_w (by decide) (zag_putJ es6))
  obtain ⟨r7, s8, es8, h⟩ := zc h
  replace hA := zag_t hA (zag_w (by decide) (fr_X9_measure es8))
  exact zag_t hA (fr_X9_measureAll_20 _ _ _ _ _ h)
theorem fr_X9_layBest_131 {N : Nat} {rec7 : Int32 → Int32 → ZM → Option (Unit × ZM)} {res : Unit × ZM} (hr7 : ∀ (x1 : Int32) (x2 : Int32) (σ : ZM), rec7 x1 x2 σ = some res → zag [(0, some 14), (0, some 30), (0, some 31), (0, some 47), (0, some 48), (0, some 49), (0, some 51), (0, some 52), (12, none), (13, none), (14, none), (15, none), (16, none), (17, none), (18, none), (19, none), (20, none), (21, none), (22, none), (23, none), (24, none), (25, none), (26, none), (37, none), (38, none)] σ res.2) {x1 : Int32} {x2 : Int32} {σ : ZM} (h : f_X9_layBest_131 N rec7 x1 x2 σ = some res) : zag [(0, some 14), (0, some 30), (0, some 31), (0, some 47), (0, some 48), (0, some 49), (0, some 51), (0, some 52), (12, none), (13, none), (14, none), (15, none), (16, none), (17, none), (18, none), (19, none), (20, none), (21, none), (22, none), (23, none), (24, none), (25, none), (26, none), (37, none), (38, none)] σ res.2 := by
  unfold f_X9_layBest_131 at h
  have hA : zag [(0, some 14), (0, some 30), (0, some 31), (0, some 47), (0, some 48), (0, some 49), (0, some 51), (0, some 52), (12, none), (13, none), (14, none), (15, none), (16, none), (17, none), (18, none), (19, none), (20, none), (21, none), (22, none), (23, none), (24, none), (25, none), (26, none), (37, none), (38, none)] σ σ := zag_r
  obtain ⟨v1, ev1, h⟩ := zb h
  exact zag_t hA (hr7 _ _ _ h)
theorem fr_b_X9_layBest_105 {N : Nat} {rec7 : Int32 → Int32 → ZM → Option (Unit × ZM)} {rec105 : Int32 → Int32 → Int32 → ZM → Option (Unit × ZM)} {res : Unit × ZM} (hr7 : ∀ (x1 : Int32) (x2 : Int32) (σ : ZM), rec7 x1 x2 σ = some res → zag [(0, some 14), (0, some 30), (0, some 31), (0, some 47), (0, some 48), (0, some 49), (0, some 51), (0, some 52), (12, none), (13, none), (14, none), (15, none), (16, none), (17, none), (18, none), (19, none), (20, none), (21, none), (22, none), (23, none), (24, none), (25, none), (26, none), (37, none), (38, none)] σ res.2) (hr105 : ∀ (x1 : Int32) (x2 : Int32) (x4 : Int32) (σ : ZM), rec105 x1 x2 x4 σ = some res → zag [(0, some 14), (0, some 30), (0, some 31), (0, some 47), (0, some 48), (0, some 49), (0, some 51), (0, some 52), (12, none), (13, none), (14, none), (15, none), (16, none), (17, none), (18, none), (19, none), (20, none), (21, none), (22, none), (23, none), (24, none), (25, none), (26, none), (37, none), (38, none)] σ res.2) {x1 : Int32} {x2 : Int32} {x4 : Int32} {σ : ZM} (h : b_X9_layBest_105 N rec7 rec105 x1 x2 x4 σ = some res) : zag [(0, some 14), (0, some 30), (0, some 31), (0, some 47), (0, some 48), (0, some 49), (0, some 51), (0, some 52), (12, none), (13, none), (14, none), (15, none), (16, none), (17, none), (18, none), (19, none), (20, none), (21, none), (22, none), (23, none), (24, none), (25, none), (26, none), (37, none), (38, none)] σ res.2 := by
  unfold b_X9_layBest_105 at h
  have hA : zag [(0, some 14), (0, some 30), (0, some 31), (0, some 47), (0, some 48), (0, some 49), (0, some 51), (0, some 52), (12, none), (13, none), (14, none), (15, none), (16, none), (17, none), (18, none), (19, none), (20, none), (21, none), (22, none), (23, none), (24, none), (25, none), (26, none), (37, none), (38, none)] σ σ := zag_r
  rcases zi2 h with ⟨hc108, h⟩ | ⟨hc108, h⟩
  · skip
    exact zag_t hA (fr_X9_layBest_131 hr7 h)
  · skip
    obtain ⟨v2, ev2, h⟩ := zb h
    obtain ⟨s3, es3, h⟩ := zb h
    replace hA := zag_t hA (zag_w (by decide) (zag_iast es3))
    obtain ⟨v4, ev4, h⟩ := zb h
    exact zag_t hA (hr105 _ _ _ _ h)
theorem fr_X9_layBest_105 {N : Nat} {rec7 : Int32 → Int32 → ZM → Option (Unit × ZM)} {res : Unit × ZM} (hr7 : ∀ (x1 : Int32) (x2 : Int32) (σ : ZM), rec7 x1 x2 σ = some res → zag [(0, some 14), (0, some 30), (0, some 31), (0, some 47), (0, some 48), (0, some 49), (0, some 51), (0, some 52), (12, none), (13, none), (14, none), (15, none), (16, none), (17, none), (18, none), (19, none), (20, none), (21, none), (22, none), (23, none), (24, none), (25, none), (26, none), (37, none), (38, none)] σ res.2) : ∀ (n : Nat) (x1 : Int32) (x2 : Int32) (x4 : Int32) (σ : ZM), f_X9_layBest_105 N rec7 n x1 x2 x4 σ = some res → zag [(0, some 14), (0, some 30), (0, some 31), (0, some 47), (0, some 48), (0, some 49), (0, some 51), (0, some 52), (12, none), (13, none), (14, none), (15, none), (16, none), (17, none), (18, none), (19, none), (20, none), (21, none), (22, none), (23, none), (24, none), (25, none), (26, none), (37, none), (38, none)] σ res.2 := by
  intro n
  induction n with
  | zero => intro x1 x2 x4 σ h; exact absurd h (by simp [f_X9_layBest_105])
  | succ n ih => intro x1 x2 x4 σ h; rw [f_X9_layBest_105] at h; exact fr_b_X9_layBest_105 hr7 ih h
theorem fr_X9_layBest_76 {N : Nat} {rec7 : Int32 → Int32 → ZM → Option (Unit × ZM)} {res : Unit × ZM} (hr7 : ∀ (x1 : Int32) (x2 : Int32) (σ : ZM), rec7 x1 x2 σ = some res → zag [(0, some 14), (0, some 30), (0, some 31), (0, some 47), (0, some 48), (0, some 49), (0, some 51), (0, some 52), (12, none), (13, none), (14, none), (15, none), (16, none), (17, none), (18, none), (19, none), (20, none), (21, none), (22, none), (23, none), (24, none), (25, none), (26, none), (37, none), (38, none)] σ res.2) {x1 : Int32} {x2 : Int32} {y0 : Int32} {σ : ZM} (h : f_X9_layBest_76 N rec7 x1 x2 y0 σ = some res) : zag [(0, some 14), (0, some 30), (0, some 31), (0, some 47), (0, some 48), (0, some 49), (0, some 51), (0, some 52), (12, none), (13, none), (14, none), (15, none), (16, none), (17, none), (18, none), (19, none), (20, none), (21, none), (22, none), (23, none), (24, none), (25, none), (26, none), (37, none), (38, none)] σ res.2 := by
  unfold f_X9_layBest_76 at h
  have hA : zag [(0, some 14), (0, some 30), (0, some 31), (0, some 47), (0, some 48), (0, some 49), (0, some 51), (0, some 52), (12, none), (13, none), (14, none), (15, none), (16, none), (17, none), (18, none), (19, none), (20, none), (21, none), (22, none), (23, none), (24, none), (25, none), (26, none), (37, none), (38, none)] σ σ := zag_r
  rcases zi2 h with ⟨hc78, h⟩ | ⟨hc78, h⟩
  · skip
    exact zag_t hA (fr_X9_layBest_131 hr7 h)
  · skip
    obtain ⟨s5, es5, h⟩ := zb h
    replace hA := zag_t hA (zag_w (by decide) (zag_putZ es5))
    obtain ⟨s6, es6, h⟩ := zb h
    replace hA := zag_t hA (zag_w (by decide) (zag_putI es6))
    obtain ⟨s7, es7, h⟩ := zb h
    replace hA := zag_t hA (zag_w (by decide) (zag_putJ es7))
    exact zag_t hA (fr_X9_layBest_105 hr7 _ _ _ _ _ h)
theorem fr_X9_layBest_75 {N : Nat} {rec7 : Int32 → Int32 → ZM → Option (Unit × ZM)} {res : Unit × ZM} (hr7 : ∀ (x1 : Int32) (x2 : Int32) (σ : ZM), rec7 x1 x2 σ = some res → zag [(0, some 14), (0, some 30), (0, some 31), (0, some 47), (0, some 48), (0, some 49), (0, some 51), (0, some 52), (12, none), (13, none), (14, none), (15, none), (16, none), (17, none), (18, none), (19, none), (20, none), (21, none), (22, none), (23, none), (24, none), (25, none), (26, none), (37, none), (38, none)] σ res.2) {x1 : Int32} {x2 : Int32} {σ : ZM} (h : f_X9_layBest_75 N rec7 x1 x2 σ = some res) : zag [(0, some 14), (0, some 30), (0, some 31), (0, some 47), (0, some 48), (0, some 49), (0, some 51), (0, some 52), (12, none), (13, none), (14, none), (15, none), (16, none), (17, none), (18, none), (19, none), (20, none), (21, none), (22, none), (23, none), (24, none), (25, none), (26, none), (37, none), (38, none)] σ res.2 := by
  unfold f_X9_layBest_75 at h
  have hA : zag [(0, some 14), (0, some 30), (0, some 31), (0, some 47), (0, some 48), (0, some 49), (0, some 51), (0, some 52), (12, none), (13, none), (14, none), (15, none), (16, none), (17, none), (18, none), (19, none), (20, none), (21, none), (22, none), (23, none), (24, none), (25, none), (26, none), (37, none), (38, none)] σ σ := zag_r
  exact zag_t hA (fr_X9_layBest_76 hr7 h)
theorem fr_X9_layBest_71 {N : Nat} {rec7 : Int32 → Int32 → ZM → Option (Unit × ZM)} {res : Unit × ZM} (hr7 : ∀ (x1 : Int32) (x2 : Int32) (σ : ZM), rec7 x1 x2 σ = some res → zag [(0, some 14), (0, some 30), (0, some 31), (0, some 47), (0, some 48), (0, some 49), (0, some 51), (0, some 52), (12, none), (13, none), (14, none), (15, none), (16, none), (17, none), (18, none), (19, none), (20, none), (21, none), (22, none), (23, none), (24, none), (25, none), (26, none), (37, none), (38, none)] σ res.2) {x1 : Int32} {x2 : Int32} {σ : ZM} (h : f_X9_layBest_71 N rec7 x1 x2 σ = some res) : zag [(0, some 14), (0, some 30), (0, some 31), (0, some 47), (0, some 48), (0, some 49), (0, some 51), (0, some 52), (12, none), (13, none), (14, none), (15, none), (16, none), (17, none), (18, none), (19, none), (20, none), (21, none), (22, none), (23, none), (24, none), (25, none), (26, none), (37, none), (38, none)] σ res.2 := by
  unfold f_X9_layBest_71 at h
  have hA : zag [(0, some 14), (0, some 30), (0, some 31), (0, some 47), (0, some 48), (0, some 49), (0, some 51), (0, some 52), (12, none), (13, none), (14, none), (15, none), (16, none), (17, none), (18, none), (19, none), (20, none), (21, none), (22, none), (23, none), (24, none), (25, none), (26, none), (37, none), (38, none)] σ σ := zag_r
  exact zag_t hA (fr_X9_layBest_76 hr7 h)
theorem fr_b_X9_layBest_7 {N : Nat} {rec7 : Int32 → Int32 → ZM → Option (Unit × ZM)} {res : Unit × ZM} (hr7 : ∀ (x1 : Int32) (x2 : Int32) (σ : ZM), rec7 x1 x2 σ = some res → zag [(0, some 14), (0, some 30), (0, some 31), (0, some 47), (0, some 48), (0, some 49), (0, some 51), (0, some 52), (12, none), (13, none), (14, none), (15, none), (16, none), (17, none), (18, none), (19, none), (20, none), (21, none), (22, none), (23, none), (24, none), (25, none), (26, none), (37, none), (38, none)] σ res.2) {x1 : Int32} {x2 : Int32} {σ : ZM} (h : b_X9_layBest_7 N rec7 x1 x2 σ = some res) : zag [(0, some 14), (0, some 30), (0, some 31), (0, some 47), (0, some 48), (0, some 49), (0, some 51), (0, some 52), (12, none), (13, none), (14, none), (15, none), (16, none), (17, none), (18, none), (19, none), (20, none), (21, none), (22, none), (23, none), (24, none), (25, none), (26, none), (37, none), (38, none)] σ res.2 := by
  unfold b_X9_layBest_7 at h
  have hA : zag [(0, some 14), (0, some 30), (0, some 31), (0, some 47), (0, some 48), (0, some 49), (0, some 51), (0, some 52), (12, none), (13, none), (14, none), (15, none), (16, none), (17, none), (18, none), (19, none), (20, none), (21, none), (22, none), (23, none), (24, none), (25, none), (26, none), (37, none), (38, none)] σ σ := zag_r
  rcases zi2 h with ⟨hc11, h⟩ | ⟨hc11, h⟩
  · skip
    cases h
    exact hA
  · skip
    obtain ⟨r8, s9, es9, h⟩ := zc h
    replace hA := zag_t hA (zag_w (by decide) (fr_X9_layChoice es9))
    rcases zi2 h with ⟨hc19, h⟩ | ⟨hc19, h⟩
    · skip
      exact zag_t hA (fr_X9_layBest_131 hr7 h)
    · skip
      obtain ⟨r10, s11, es11, h⟩ := zc h
      replace hA := zag_t hA (zag_w (by decide) (fr_X9_measureAll es11))
      rcases zi2 h with ⟨hc27, h⟩ | ⟨hc27, h⟩
      · skip
        exact zag_t hA (fr_X9_layBest_131 hr7 h)
      · skip
        rcases zi2 h with ⟨hc34, h⟩ | ⟨hc34, h⟩
        · skip
          exact zag_t hA (fr_X9_layBest_71 hr7 h)
        · skip
          rcases zi2 h with ⟨hc45, h⟩ | ⟨hc45, h⟩
          · skip
            exact zag_t hA (fr_X9_layBest_71 hr7 h)
          · skip
            rcases (zi2 h).symm with ⟨hc56, h⟩ | ⟨hc56, h⟩
            · skip
              exact zag_t hA (fr_X9_layBest_75 hr7 h)
            · skip
              rcases zi2 h with ⟨hc68, h⟩ | ⟨hc68, h⟩
              · skip
                exact zag_t hA (fr_X9_layBest_75 hr7 h)
              · skip
                exact zag_t hA (fr_X9_layBest_71 hr7 h)
theorem fr_X9_layBest_7 {N : Nat} {res : Unit × ZM} : ∀ (n : Nat) (x1 : Int32) (x2 : Int32) (σ : ZM), f_X9_layBest_7 N n x1 x2 σ = some res → zag [(0, some 14), (0, some 30), (0, some 31), (0, some 47), (0, some 48), (0, some 49), (0, some 51), (0, some 52), (12, none), (13, none), (14, none), (15, none), (16, none), (17, none), (18, none), (19, none), (20, none), (21, none), (22, none), (23, none), (24, none), (25, none), (26, none), (37, none), (38, none)] σ res.2 := by
  intro n
  induction n with
  | zero => intro x1 x2 σ h; exact absurd h (by simp [f_X9_layBest_7])
  | succ n ih => intro x1 x2 σ h; rw [f_X9_layBest_7] at h; exact fr_b_X9_layBest_7 ih h
theorem fr_X9_layBest {N : Nat} {x1 : Int32} {σ : ZM} {res : Unit × ZM} (h : f_X9_layBest N x1 σ = some res) : zag [(0, some 14), (0, some 30), (0, some 31), (0, some 47), (0, some 48), (0, some 49), (0, some 51), (0, some 52), (12, none), (13, none), (14, none), (15, none), (16, none), (17, none), (18, none), (19, none), (20, none), (21, none), (22, none), (23, none), (24, none), (25, none), (26, none), (37, none), (38, none)] σ res.2 := by
  unfold f_X9_layBest at h
  have hA : zag [(0, some 14), (0, some 30), (0, some 31), (0, some 47), (0, some 48), (0, some 49), (0, some 51), (0, some 52), (12, none), (13, none), (14, none), (15, none), (16, none), (17, none), (18, none), (19, none), (20, none), (21, none), (22, none), (23, none), (24, none), (25, none), (26, none), (37, none), (38, none)] σ σ := zag_r
  obtain ⟨s12, es12, h⟩ := zb h
  replace hA := zag_t hA (zag_w (by decide) (zag_putZ es12))
  exact zag_t hA (fr_X9_layBest_7 _ _ _ _ h)
theorem fr_X9_best {N : Nat} {x1 : Int32} {σ : ZM} {res : Int32 × ZM} (h : f_X9_best N x1 σ = some res) : zag [(0, some 14), (0, some 30), (0, some 31), (0, some 47), (0, some 48), (0, some 49), (0, some 51), (0, some 52), (12, none), (13, none), (14, none), (15, none), (16, none), (17, none), (18, none), (19, none), (20, none), (21, none), (22, none), (23, none), (24, none), (25, none), (26, none), (37, none), (38, none)] σ res.2 := by
  unfold f_X9_best at h
  have hA : zag [(0, some 14), (0, some 30), (0, some 31), (0, some 47), (0, some 48), (0, some 49), (0, some 51), (0, some 52), (12, none), (13, none), (14, none), (15, none), (16, none), (17, none), (18, none), (19, none), (20, none), (21, none), (22, none), (23, none), (24, none), (25, none), (26, none), (37, none), (38, none)] σ σ := zag_r
  obtain ⟨r1, s2, es2, h⟩ := zc h
  replace hA := zag_t hA (zag_w (by decide) (fr_X9_layBest es2))
  rcases zi2 h with ⟨hc9, h⟩ | ⟨hc9, h⟩
  · skip
    cases h
    exact hA
  · skip
    cases h
    exact hA
theorem fr_X9_bestSum {N : Nat} {x1 : Int32} {σ : ZM} {res : Int64 × ZM} (h : f_X9_bestSum N x1 σ = some res) : zag [(0, some 14), (0, some 30), (0, some 31), (0, some 47), (0, some 48), (0, some 49), (0, some 51), (0, some 52), (12, none), (13, none), (14, none), (15, none), (16, none), (17, none), (18, none), (19, none), (20, none), (21, none), (22, none), (23, none), (24, none), (25, none), (26, none), (37, none), (38, none)] σ res.2 := by
  unfold f_X9_bestSum at h
  have hA : zag [(0, some 14), (0, some 30), (0, some 31), (0, some 47), (0, some 48), (0, some 49), (0, some 51), (0, some 52), (12, none), (13, none), (14, none), (15, none), (16, none), (17, none), (18, none), (19, none), (20, none), (21, none), (22, none), (23, none), (24, none), (25, none), (26, none), (37, none), (38, none)] σ σ := zag_r
  obtain ⟨r1, s2, es2, h⟩ := zc h
  replace hA := zag_t hA (zag_w (by decide) (fr_X9_layBest es2))
  rcases zi2 h with ⟨hc9, h⟩ | ⟨hc9, h⟩
  · skip
    cases h
    exact hA
  · skip
    cases h
    exact hA
theorem fr_X9_bestKind {N : Nat} {x1 : Int32} {x2 : Int32} {σ : ZM} {res : Int32 × ZM} (h : f_X9_bestKind N x1 x2 σ = some res) : zag [(0, some 14), (0, some 30), (0, some 31), (0, some 47), (0, some 48), (0, some 49), (0, some 51), (0, some 52), (12, none), (13, none), (14, none), (15, none), (16, none), (17, none), (18, none), (19, none), (20, none), (21, none), (22, none), (23, none), (24, none), (25, none), (26, none), (37, none), (38, none)] σ res.2 := by
  unfold f_X9_bestKind at h
  have hA : zag [(0, some 14), (0, some 30), (0, some 31), (0, some 47), (0, some 48), (0, some 49), (0, some 51), (0, some 52), (12, none), (13, none), (14, none), (15, none), (16, none), (17, none), (18, none), (19, none), (20, none), (21, none), (22, none), (23, none), (24, none), (25, none), (26, none), (37, none), (38, none)] σ σ := zag_r
  obtain ⟨r1, s2, es2, h⟩ := zc h
  replace hA := zag_t hA (zag_w (by decide) (fr_X9_isSite es2))
  rcases (zi2 h).symm with ⟨hc5, h⟩ | ⟨hc5, h⟩
  · skip
    obtain ⟨r3, s4, es4, h⟩ := zc h
    replace hA := zag_t hA (zag_w (by decide) (fr_X9_layBest es4))
    rcases zi2 h with ⟨hc19, h⟩ | ⟨hc19, h⟩
    · skip
      cases h
      exact hA
    · skip
      obtain ⟨v5, ev5, h⟩ := zb h
      cases h
      exact hA
  · skip
    cases h
    exact hA
theorem fr_X9_aimOf {N : Nat} {x1 : Int32} {σ : ZM} {res : Int32 × ZM} (h : f_X9_aimOf N x1 σ = some res) : zag [] σ res.2 := by
  unfold f_X9_aimOf at h
  have hA : zag [] σ σ := zag_r
  obtain ⟨v1, ev1, h⟩ := zb h
  rcases (zi2 h).symm with ⟨hc8, h⟩ | ⟨hc8, h⟩
  · skip
    obtain ⟨v2, ev2, h⟩ := zb h
    cases h
    exact hA
  · skip
    obtain ⟨v3, ev3, h⟩ := zb h
    cases h
    exact hA
theorem fr_X9_aim {N : Nat} {x1 : Int32} {x2 : Int32} {σ : ZM} {res : Int32 × ZM} (h : f_X9_aim N x1 x2 σ = some res) : zag [(11, none)] σ res.2 := by
  unfold f_X9_aim at h
  have hA : zag [(11, none)] σ σ := zag_r
  obtain ⟨r1, s2, es2, h⟩ := zc h
  replace hA := zag_t hA (zag_w (by decide) (fr_X9_isSite es2))
  rcases (zi2 h).symm with ⟨hc5, h⟩ | ⟨hc5, h⟩
  · skip
    obtain ⟨r3, s4, es4, h⟩ := zc h
    replace hA := zag_t hA (zag_w (by decide) (fr_X9_in es4))
    rcases (zi2 h).symm with ⟨hc19, h⟩ | ⟨hc19, h⟩
    · skip
      obtain ⟨r5, s6, es6, h⟩ := zc h
      replace hA := zag_t hA (zag_w (by decide) (fr_X9_aimOf es6))
      obtain ⟨s7, es7, h⟩ := zb h
      replace hA := zag_t hA (zag_w (by decide) (zag_iast es7))
      cases h
      exact hA
    · skip
      cases h
      exact hA
  · skip
    cases h
    exact hA
theorem fr_X9_stepCount_32 {N : Nat} {rec4 : Int32 → Int32 → ZM → Option (Int32 × ZM)} {res : Int32 × ZM} (hr4 : ∀ (x1 : Int32) (x2 : Int32) (σ : ZM), rec4 x1 x2 σ = some res → zag [] σ res.2) {x2 : Int32} {y0 : Int32} {y1 : Int32} {σ : ZM} (h : f_X9_stepCount_32 N rec4 x2 y0 y1 σ = some res) : zag [] σ res.2 := by
  unfold f_X9_stepCount_32 at h
  have hA : zag [] σ σ := zag_r
  obtain ⟨v1, ev1, h⟩ := zb h
  obtain ⟨v2, ev2, h⟩ := zb h
  exact zag_t hA (hr4 _ _ _ h)
theorem fr_b_X9_stepCount_4 {N : Nat} {rec4 : Int32 → Int32 → ZM → Option (Int32 × ZM)} {res : Int32 × ZM} (hr4 : ∀ (x1 : Int32) (x2 : Int32) (σ : ZM), rec4 x1 x2 σ = some res → zag [] σ res.2) {x1 : Int32} {x2 : Int32} {σ : ZM} (h : b_X9_stepCount_4 N rec4 x1 x2 σ = some res) : zag [] σ res.2 := by
  unfold b_X9_stepCount_4 at h
  have hA : zag [] σ σ := zag_r
  rcases zi2 h with ⟨hc9, h⟩ | ⟨hc9, h⟩
  · skip
    cases h
    exact hA
  · skip
    obtain ⟨r3, s4, es4, h⟩ := zc h
    replace hA := zag_t hA (zag_w (by decide) (fr_X9_aimOf es4))
    obtain ⟨v5, ev5, h⟩ := zb h
    rcases zi2 h with ⟨hc24, h⟩ | ⟨hc24, h⟩
    · skip
      exact zag_t hA (fr_X9_stepCount_32 hr4 h)
    · skip
      exact zag_t hA (fr_X9_stepCount_32 hr4 h)
theorem fr_X9_stepCount_4 {N : Nat} {res : Int32 × ZM} : ∀ (n : Nat) (x1 : Int32) (x2 : Int32) (σ : ZM), f_X9_stepCount_4 N n x1 x2 σ = some res → zag [] σ res.2 := by
  intro n
  induction n with
  | zero => intro x1 x2 σ h; exact absurd h (by simp [f_X9_stepCount_4])
  | succ n ih => intro x1 x2 σ h; rw [f_X9_stepCount_4] at h; exact fr_b_X9_stepCount_4 ih h
theorem fr_X9_stepCount {N : Nat} {σ : ZM} {res : Int32 × ZM} (h : f_X9_stepCount N σ = some res) : zag [] σ res.2 := by
  unfold f_X9_stepCount at h
  have hA : zag [] σ σ := zag_r
  exact zag_t hA (fr_X9_stepCount_4 _ _ _ _ h)
theorem fr_X9_layOrder_82 {N : Nat} {rec15 : Int32 → Int32 → Int32 → Int32 → ZM → Option (Int32 × ZM)} {res : Int32 × ZM} (hr15 : ∀ (x2 : Int32) (x3 : Int32) (x4 : Int32) (x5 : Int32) (σ : ZM), rec15 x2 x3 x4 x5 σ = some res → zag [(39, none)] σ res.2) {x2 : Int32} {x3 : Int32} {x5 : Int32} {x6 : Int32} {y0 : Int32} {σ : ZM} (h : f_X9_layOrder_82 N rec15 x2 x3 x5 x6 y0 σ = some res) : zag [(39, none)] σ res.2 := by
  unfold f_X9_layOrder_82 at h
  have hA : zag [(39, none)] σ σ := zag_r
  obtain ⟨v1, ev1, h⟩ := zb h
  obtain ⟨v2, ev2, h⟩ := zb h
  exact zag_t hA (hr15 _ _ _ _ _ h)
theorem fr_X9_layOrder_81 {N : Nat} {rec15 : Int32 → Int32 → Int32 → Int32 → ZM → Option (Int32 × ZM)} {res : Int32 × ZM} (hr15 : ∀ (x2 : Int32) (x3 : Int32) (x4 : Int32) (x5 : Int32) (σ : ZM), rec15 x2 x3 x4 x5 σ = some res → zag [(39, none)] σ res.2) {x2 : Int32} {x3 : Int32} {x5 : Int32} {x6 : Int32} {σ : ZM} (h : f_X9_layOrder_81 N rec15 x2 x3 x5 x6 σ = some res) : zag [(39, none)] σ res.2 := by
  unfold f_X9_layOrder_81 at h
  have hA : zag [(39, none)] σ σ := zag_r
  exact zag_t hA (fr_X9_layOrder_82 hr15 h)
theorem fr_b_X9_layOrder_15 {N : Nat} {rec15 : Int32 → Int32 → Int32 → Int32 → ZM → Option (Int32 × ZM)} {res : Int32 × ZM} (hr15 : ∀ (x2 : Int32) (x3 : Int32) (x4 : Int32) (x5 : Int32) (σ : ZM), rec15 x2 x3 x4 x5 σ = some res → zag [(39, none)] σ res.2) {x2 : Int32} {x3 : Int32} {x4 : Int32} {x5 : Int32} {σ : ZM} (h : b_X9_layOrder_15 N rec15 x2 x3 x4 x5 σ = some res) : zag [(39, none)] σ res.2 := by
  unfold b_X9_layOrder_15 at h
  have hA : zag [(39, none)] σ σ := zag_r
  rcases zi2 h with ⟨hc17, h⟩ | ⟨hc17, h⟩
  · skip
    rcases zi2 h with ⟨hc99, h⟩ | ⟨hc99, h⟩
    · skip
      cases h
      exact hA
    · skip
      rcases (zi2 h).symm with ⟨hc103, h⟩ | ⟨hc103, h⟩
      · skip
        cases h
        exact hA
      · skip
        cases h
        exact hA
  · skip
    obtain ⟨v3, ev3, h⟩ := zb h
    obtain ⟨v4, ev4, h⟩ := zb h
    obtain ⟨s5, es5, h⟩ := zb h
    replace hA := zag_t hA (zag_w (by decide) (zag_iast es5))
    rcases zi2 h with ⟨hc40, h⟩ | ⟨hc40, h⟩
    · skip
      exact zag_t hA (fr_X9_layOrder_81 hr15 h)
    · skip
      rcases zi2 h with ⟨hc49, h⟩ | ⟨hc49, h⟩
      · skip
        exact zag_t hA (fr_X9_layOrder_81 hr15 h)
      · skip
        rcases (zi2 h).symm with ⟨hc58, h⟩ | ⟨hc58, h⟩
        · skip
          exact zag_t hA (fr_X9_layOrder_81 hr15 h)
        · skip
          obtain ⟨r6, s7, es7, h⟩ := zc h
          replace hA := zag_t hA (zag_w (by decide) (fr_X9_aimOf es7))
          obtain ⟨v8, ev8, h⟩ := zb h
          rcases zi2 h with ⟨hc74, h⟩ | ⟨hc74, h⟩
          · skip
            exact zag_t hA (fr_X9_layOrder_81 hr15 h)
          · skip
            exact zag_t hA (fr_X9_layOrder_82 hr15 h)
theorem fr_X9_layOrder_15 {N : Nat} {res : Int32 × ZM} : ∀ (n : Nat) (x2 : Int32) (x3 : Int32) (x4 : Int32) (x5 : Int32) (σ : ZM), f_X9_layOrder_15 N n x2 x3 x4 x5 σ = some res → zag [(39, none)] σ res.2 := by
  intro n
  induction n with
  | zero => intro x2 x3 x4 x5 σ h; exact absurd h (by simp [f_X9_layOrder_15])
  | succ n ih => intro x2 x3 x4 x5 σ h; rw [f_X9_layOrder_15] at h; exact fr_b_X9_layOrder_15 ih h
theorem fr_X9_layOrder {N : Nat} {x1 : Int32} {σ : ZM} {res : Int32 × ZM} (h : f_X9_layOrder N x1 σ = some res) : zag [(39, none)] σ res.2 := by
  unfold f_X9_layOrder at h
  have hA : zag [(39, none)] σ σ := zag_r
  obtain ⟨v9, ev9, h⟩ := zb h
  exact zag_t hA (fr_X9_layOrder_15 _ _ _ _ _ _ h)
theorem fr_X9_worstOfOrder_78 {N : Nat} {rec4 : Int32 → Int32 → ZM → Option (Int32 × ZM)} {res : Int32 × ZM} (hr4 : ∀ (x1 : Int32) (x2 : Int32) (σ : ZM), rec4 x1 x2 σ = some res → zag [(0, some 14), (0, some 30), (0, some 31), (12, none), (13, none), (14, none), (15, none), (16, none), (17, none), (18, none), (19, none), (20, none), (21, none), (22, none), (23, none), (24, none), (25, none), (26, none)] σ res.2) {x2 : Int32} {y0 : Int32} {σ : ZM} (h : f_X9_worstOfOrder_78 N rec4 x2 y0 σ = some res) : zag [(0, some 14), (0, some 30), (0, some 31), (12, none), (13, none), (14, none), (15, none), (16, none), (17, none), (18, none), (19, none), (20, none), (21, none), (22, none), (23, none), (24, none), (25, none), (26, none)] σ res.2 := by
  unfold f_X9_worstOfOrder_78 at h
  have hA : zag [(0, some 14), (0, some 30), (0, some 31), (12, none), (13, none), (14, none), (15, none), (16, none), (17, none), (18, none), (19, none), (20, none), (21, none), (22, none), (23, none), (24, none), (25, none), (26, none)] σ σ := zag_r
  obtain ⟨v1, ev1, h⟩ := zb h
  exact zag_t hA (hr4 _ _ _ h)
theorem fr_X9_worstOfOrder_67 {N : Nat} {rec4 : Int32 → Int32 → ZM → Option (Int32 × ZM)} {res : Int32 × ZM} (hr4 : ∀ (x1 : Int32) (x2 : Int32) (σ : ZM), rec4 x1 x2 σ = some res → zag [(0, some 14), (0, some 30), (0, some 31), (12, none), (13, none), (14, none), (15, none), (16, none), (17, none), (18, none), (19, none), (20, none), (21, none), (22, none), (23, none), (24, none), (25, none), (26, none)] σ res.2) {x1 : Int32} {x2 : Int32} {y0 : Int32} {σ : ZM} (h : f_X9_worstOfOrder_67 N rec4 x1 x2 y0 σ = some res) : zag [(0, some 14), (0, some 30), (0, some 31), (12, none), (13, none), (14, none), (15, none), (16, none), (17, none), (18, none), (19, none), (20, none), (21, none), (22, none), (23, none), (24, none), (25, none), (26, none)] σ res.2 := by
  unfold f_X9_worstOfOrder_67 at h
  have hA : zag [(0, some 14), (0, some 30), (0, some 31), (12, none), (13, none), (14, none), (15, none), (16, none), (17, none), (18, none), (19, none), (20, none), (21, none), (22, none), (23, none), (24, none), (25, none), (26, none)] σ σ := zag_r
  rcases zi2 h with ⟨hc70, h⟩ | ⟨hc70, h⟩
  · skip
    exact zag_t hA (fr_X9_worstOfOrder_78 hr4 h)
  · skip
    exact zag_t hA (fr_X9_worstOfOrder_78 hr4 h)
theorem fr_b_X9_worstOfOrder_18 {N : Nat} {rec4 : Int32 → Int32 → ZM → Option (Int32 × ZM)} {rec18 : Int32 → Int32 → Int32 → ZM → Option (Int32 × ZM)} {res : Int32 × ZM} (hr4 : ∀ (x1 : Int32) (x2 : Int32) (σ : ZM), rec4 x1 x2 σ = some res → zag [(0, some 14), (0, some 30), (0, some 31), (12, none), (13, none), (14, none), (15, none), (16, none), (17, none), (18, none), (19, none), (20, none), (21, none), (22, none), (23, none), (24, none), (25, none), (26, none)] σ res.2) (hr18 : ∀ (x1 : Int32) (x2 : Int32) (x3 : Int32) (σ : ZM), rec18 x1 x2 x3 σ = some res → zag [(0, some 14), (0, some 30), (0, some 31), (12, none), (13, none), (14, none), (15, none), (16, none), (17, none), (18, none), (19, none), (20, none), (21, none), (22, none), (23, none), (24, none), (25, none), (26, none)] σ res.2) {x1 : Int32} {x2 : Int32} {x3 : Int32} {σ : ZM} (h : b_X9_worstOfOrder_18 N rec4 rec18 x1 x2 x3 σ = some res) : zag [(0, some 14), (0, some 30), (0, some 31), (12, none), (13, none), (14, none), (15, none), (16, none), (17, none), (18, none), (19, none), (20, none), (21, none), (22, none), (23, none), (24, none), (25, none), (26, none)] σ res.2 := by
  unfold b_X9_worstOfOrder_18 at h
  have hA : zag [(0, some 14), (0, some 30), (0, some 31), (12, none), (13, none), (14, none), (15, none), (16, none), (17, none), (18, none), (19, none), (20, none), (21, none), (22, none), (23, none), (24, none), (25, none), (26, none)] σ σ := zag_r
  rcases zi2 h with ⟨hc20, h⟩ | ⟨hc20, h⟩
  · skip
    obtain ⟨r2, s3, es3, h⟩ := zc h
    replace hA := zag_t hA (zag_w (by decide) (fr_X9_settle es3))
    rcases zi2 h with ⟨hc54, h⟩ | ⟨hc54, h⟩
    · skip
      exact zag_t hA (fr_X9_worstOfOrder_67 hr4 h)
    · skip
      obtain ⟨r4, s5, es5, h⟩ := zc h
      replace hA := zag_t hA (zag_w (by decide) (fr_X9_excessOf es5))
      exact zag_t hA (fr_X9_worstOfOrder_67 hr4 h)
  · skip
    obtain ⟨v6, ev6, h⟩ := zb h
    obtain ⟨v7, ev7, h⟩ := zb h
    obtain ⟨r8, s9, es9, h⟩ := zc h
    replace hA := zag_t hA (zag_w (by decide) (fr_X9_aimOf es9))
    obtain ⟨s10, es10, h⟩ := zb h
    replace hA := zag_t hA (zag_w (by decide) (zag_iast es10))
    obtain ⟨v11, ev11, h⟩ := zb h
    exact zag_t hA (hr18 _ _ _ _ h)
theorem fr_X9_worstOfOrder_18 {N : Nat} {rec4 : Int32 → Int32 → ZM → Option (Int32 × ZM)} {res : Int32 × ZM} (hr4 : ∀ (x1 : Int32) (x2 : Int32) (σ : ZM), rec4 x1 x2 σ = some res → zag [(0, some 14), (0, some 30), (0, some 31), (12, none), (13, none), (14, none), (15, none), (16, none), (17, none), (18, none), (19, none), (20, none), (21, none), (22, none), (23, none), (24, none), (25, none), (26, none)] σ res.2) : ∀ (n : Nat) (x1 : Int32) (x2 : Int32) (x3 : Int32) (σ : ZM), f_X9_worstOfOrder_18 N rec4 n x1 x2 x3 σ = some res → zag [(0, some 14), (0, some 30), (0, some 31), (12, none), (13, none), (14, none), (15, none), (16, none), (17, none), (18, none), (19, none), (20, none), (21, none), (22, none), (23, none), (24, none), (25, none), (26, none)] σ res.2 := by
  intro n
  induction n with
  | zero => intro x1 x2 x3 σ h; exact absurd h (by simp [f_X9_worstOfOrder_18])
  | succ n ih => intro x1 x2 x3 σ h; rw [f_X9_worstOfOrder_18] at h; exact fr_b_X9_worstOfOrder_18 hr4 ih h
theorem fr_b_X9_worstOfOrder_4 {N : Nat} {rec4 : Int32 → Int32 → ZM → Option (Int32 × ZM)} {res : Int32 × ZM} (hr4 : ∀ (x1 : Int32) (x2 : Int32) (σ : ZM), rec4 x1 x2 σ = some res → zag [(0, some 14), (0, some 30), (0, some 31), (12, none), (13, none), (14, none), (15, none), (16, none), (17, none), (18, none), (19, none), (20, none), (21, none), (22, none), (23, none), (24, none), (25, none), (26, none)] σ res.2) {x1 : Int32} {x2 : Int32} {σ : ZM} (h : b_X9_worstOfOrder_4 N rec4 x1 x2 σ = some res) : zag [(0, some 14), (0, some 30), (0, some 31), (12, none), (13, none), (14, none), (15, none), (16, none), (17, none), (18, none), (19, none), (20, none), (21, none), (22, none), (23, none), (24, none), (25, none), (26, none)] σ res.2 := by
  unfold b_X9_worstOfOrder_4 at h
  have hA : zag [(0, some 14), (0, some 30), (0, some 31), (12, none), (13, none), (14, none), (15, none), (16, none), (17, none), (18, none), (19, none), (20, none), (21, none), (22, none), (23, none), (24, none), (25, none), (26, none)] σ σ := zag_r
  rcases zi2 h with ⟨hc9, h⟩ | ⟨hc9, h⟩
  · skip
    cases h
    exact hA
  · skip
    obtain ⟨r12, s13, es13, h⟩ := zc h
    replace hA := zag_t hA (zag_w (by decide) (fr_X9_askNow es13))
    exact zag_t hA (fr_X9_worstOfOrder_18 hr4 _ _ _ _ _ h)
theorem fr_X9_worstOfOrder_4 {N : Nat} {res : Int32 × ZM} : ∀ (n : Nat) (x1 : Int32) (x2 : Int32) (σ : ZM), f_X9_worstOfOrder_4 N n x1 x2 σ = some res → zag [(0, some 14), (0, some 30), (0, some 31), (12, none), (13, none), (14, none), (15, none), (16, none), (17, none), (18, none), (19, none), (20, none), (21, none), (22, none), (23, none), (24, none), (25, none), (26, none)] σ res.2 := by
  intro n
  induction n with
  | zero => intro x1 x2 σ h; exact absurd h (by simp [f_X9_worstOfOrder_4])
  | succ n ih => intro x1 x2 σ h; rw [f_X9_worstOfOrder_4] at h; exact fr_b_X9_worstOfOrder_4 ih h
theorem fr_X9_worstOfOrder {N : Nat} {σ : ZM} {res : Int32 × ZM} (h : f_X9_worstOfOrder N σ = some res) : zag [(0, some 14), (0, some 30), (0, some 31), (12, none), (13, none), (14, none), (15, none), (16, none), (17, none), (18, none), (19, none), (20, none), (21, none), (22, none), (23, none), (24, none), (25, none), (26, none)] σ res.2 := by
  unfold f_X9_worstOfOrder at h
  have hA : zag [(0, some 14), (0, some 30), (0, some 31), (12, none), (13, none), (14, none), (15, none), (16, none), (17, none), (18, none), (19, none), (20, none), (21, none), (22, none), (23, none), (24, none), (25, none), (26, none)] σ σ := zag_r
  exact zag_t hA (fr_X9_worstOfOrder_4 _ _ _ _ h)
theorem fr_X9_layOrders_87 {N : Nat} {rec15 : Int32 → ZM → Option (Unit × ZM)} {res : Unit × ZM} (hr15 : ∀ (x1 : Int32) (σ : ZM), rec15 x1 σ = some res → zag [(0, some 14), (0, some 30), (0, some 31), (0, some 53), (0, some 56), (12, none), (13, none), (14, none), (15, none), (16, none), (17, none), (18, none), (19, none), (20, none), (21, none), (22, none), (23, none), (24, none), (25, none), (26, none), (39, none), (40, none)] σ res.2) {x1 : Int32} {σ : ZM} (h : f_X9_layOrders_87 N rec15 x1 σ = some res) : zag [(0, some 14), (0, some 30), (0, some 31), (0, some 53), (0, some 56), (12, none), (13, none), (14, none), (15, none), (16, none), (17, none), (18, none), (19, none), (20, none), (21, none), (22, none), (23, none), (24, none), (25, none), (26, none), (39, none), (40, none)] σ res.2 := by
  unfold f_X9_layOrders_87 at h
  have hA : zag [(0, some 14), (0, some 30), (0, some 31), (0, some 53), (0, some 56), (12, none), (13, none), (14, none), (15, none), (16, none), (17, none), (18, none), (19, none), (20, none), (21, none), (22, none), (23, none), (24, none), (25, none), (26, none), (39, none), (40, none)] σ σ := zag_r
  obtain ⟨v1, ev1, h⟩ := zb h
  exact zag_t hA (hr15 _ _ h)
theorem fr_b_X9_layOrders_64 {N : Nat} {rec15 : Int32 → ZM → Option (Unit × ZM)} {rec64 : Int32 → Int32 → ZM → Option (Unit × ZM)} {res : Unit × ZM} (hr15 : ∀ (x1 : Int32) (σ : ZM), rec15 x1 σ = some res → zag [(0, some 14), (0, some 30), (0, some 31), (0, some 53), (0, some 56), (12, none), (13, none), (14, none), (15, none), (16, none), (17, none), (18, none), (19, none), (20, none), (21, none), (22, none), (23, none), (24, none), (25, none), (26, none), (39, none), (40, none)] σ res.2) (hr64 : ∀ (x1 : Int32) (x3 : Int32) (σ : ZM), rec64 x1 x3 σ = some res → zag [(0, some 14), (0, some 30), (0, some 31), (0, some 53), (0, some 56), (12, none), (13, none), (14, none), (15, none), (16, none), (17, none), (18, none), (19, none), (20, none), (21, none), (22, none), (23, none), (24, none), (25, none), (26, none), (39, none), (40, none)] σ res.2) {x1 : Int32} {x3 : Int32} {σ : ZM} (h : b_X9_layOrders_64 N rec15 rec64 x1 x3 σ = some res) : zag [(0, some 14), (0, some 30), (0, some 31), (0, some 53), (0, some 56), (12, none), (13, none), (14, none), (15, none), (16, none), (17, none), (18, none), (19, none), (20, none), (21, none), (22, none), (23, none), (24, none), (25, none), (26, none), (39, none), (40, none)] σ res.2 := by
  unfold b_X9_layOrders_64 at h
  have hA : zag [(0, some 14), (0, some 30), (0, some 31), (0, some 53), (0, some 56), (12, none), (13, none), (14, none), (15, none), (16, none), (17, none), (18, none), (19, none), (20, none), (21, none), (22, none), (23, none), (24, none), (25, none), (26, none), (39, none), (40, none)] σ σ := zag_r
  rcases zi2 h with ⟨hc66, h⟩ | ⟨hc66, h⟩
  · skip
    exact zag_t hA (fr_X9_layOrders_87 hr15 h)
  · skip
    obtain ⟨v2, ev2, h⟩ := zb h
    obtain ⟨s3, es3, h⟩ := zb h
    replace hA := zag_t hA (zag_w (by decide) (zag_iast es3))
    obtain ⟨v4, ev4, h⟩ := zb h
    exact zag_t hA (hr64 _ _ _ h)
theorem fr_X9_layOrders_64 {N : Nat} {rec15 : Int32 → ZM → Option (Unit × ZM)} {res : Unit × ZM} (hr15 : ∀ (x1 : Int32) (σ : ZM), rec15 x1 σ = some res → zag [(0, some 14), (0, some 30), (0, some 31), (0, some 53), (0, some 56), (12, none), (13, none), (14, none), (15, none), (16, none), (17, none), (18, none), (19, none), (20, none), (21, none), (22, none), (23, none), (24, none), (25, none), (26, none), (39, none), (40, none)] σ res.2) : ∀ (n : Nat) (x1 : Int32) (x3 : Int32) (σ : ZM), f_X9_layOrders_64 N rec15 n x1 x3 σ = some res → zag [(0, some 14), (0, some 30), (0, some 31), (0, some 53), (0, some 56), (12, none), (13, none), (14, none), (15, none), (16, none), (17, none), (18, none), (19, none), (20, none), (21, none), (22, none), (23, none), (24, none), (25, none), (26, none), (39, none), (40, none)] σ res.2 := by
  intro n
  induction n with
  | zero => intro x1 x3 σ h; exact absurd h (by simp [f_X9_layOrders_64])
  | succ n ih => intro x1 x3 σ h; rw [f_X9_layOrders_64] at h; exact fr_b_X9_layOrders_64 hr15 ih h
theorem fr_X9_layOrders_57 {N : Nat} {rec15 : Int32 → ZM → Option (Unit × ZM)} {res : Unit × ZM} (hr15 : ∀ (x1 : Int32) (σ : ZM), rec15 x1 σ = some res → zag [(0, some 14), (0, some 30), (0, some 31), (0, some 53), (0, some 56), (12, none), (13, none), (14, none), (15, none), (16, none), (17, none), (18, none), (19, none), (20, none), (21, none), (22, none), (23, none), (24, none), (25, none), (26, none), (39, none), (40, none)] σ res.2) {x1 : Int32} {x2 : Int32} {σ : ZM} (h : f_X9_layOrders_57 N rec15 x1 x2 σ = some res) : zag [(0, some 14), (0, some 30), (0, some 31), (0, some 53), (0, some 56), (12, none), (13, none), (14, none), (15, none), (16, none), (17, none), (18, none), (19, none), (20, none), (21, none), (22, none), (23, none), (24, none), (25, none), (26, none), (39, none), (40, none)] σ res.2 := by
  unfold f_X9_layOrders_57 at h
  have hA : zag [(0, some 14), (0, some 30), (0, some 31), (0, some 53), (0, some 56), (12, none), (13, none), (14, none), (15, none), (16, none), (17, none), (18, none), (19, none), (20, none), (21, none), (22, none), (23, none), (24, none), (25, none), (26, none), (39, none), (40, none)] σ σ := zag_r
  obtain ⟨s5, es5, h⟩ := zb h
  replace hA := zag_t hA (zag_w (by decide) (zag_putI es5))
  exact zag_t hA (fr_X9_layOrders_64 hr15 _ _ _ _ h)
theorem fr_b_X9_layOrders_15 {N : Nat} {rec15 : Int32 → ZM → Option (Unit × ZM)} {res : Unit × ZM} (hr15 : ∀ (x1 : Int32) (σ : ZM), rec15 x1 σ = some res → zag [(0, some 14), (0, some 30), (0, some 31), (0, some 53), (0, some 56), (12, none), (13, none), (14, none), (15, none), (16, none), (17, none), (18, none), (19, none), (20, none), (21, none), (22, none), (23, none), (24, none), (25, none), (26, none), (39, none), (40, none)] σ res.2) {x1 : Int32} {σ : ZM} (h : b_X9_layOrders_15 N rec15 x1 σ = some res) : zag [(0, some 14), (0, some 30), (0, some 31), (0, some 53), (0, some 56), (12, none), (13, none), (14, none), (15, none), (16, none), (17, none), (18, none), (19, none), (20, none), (21, none), (22, none), (23, none), (24, none), (25, none), (26, none), (39, none), (40, none)] σ res.2 := by
  unfold b_X9_layOrders_15 at h
  have hA : zag [(0, some 14), (0, some 30), (0, some 31), (0, some 53), (0, some 56), (12, none), (13, none), (14, none), (15, none), (16, none), (17, none), (18, none), (19, none), (20, none), (21, none), (22, none), (23, none), (24, none), (25, none), (26, none), (39, none), (40, none)] σ σ := zag_r
  rcases zi2 h with ⟨hc19, h⟩ | ⟨hc19, h⟩
  · skip
    cases h
    exact hA
  · skip
    rcases zi2 h with ⟨hc26, h⟩ | ⟨hc26, h⟩
    · skip
      cases h
      exact hA
    · skip
      obtain ⟨r6, s7, es7, h⟩ := zc h
      replace hA := zag_t hA (zag_w (by decide) (fr_X9_layOrder es7))
      rcases zi2 h with ⟨hc34, h⟩ | ⟨hc34, h⟩
      · skip
        exact zag_t hA (fr_X9_layOrders_87 hr15 h)
      · skip
        obtain ⟨r8, s9, es9, h⟩ := zc h
        replace hA := zag_t hA (zag_w (by decide) (fr_X9_worstOfOrder es9))
        rcases zi2 h with ⟨hc46, h⟩ | ⟨hc46, h⟩
        · skip
          exact zag_t hA (fr_X9_layOrders_57 hr15 h)
        · skip
          rcases zi2 h with ⟨hc54, h⟩ | ⟨hc54, h⟩
          · skip
            exact zag_t hA (fr_X9_layOrders_87 hr15 h)
          · skip
            exact zag_t hA (fr_X9_layOrders_57 hr15 h)
theorem fr_X9_layOrders_15 {N : Nat} {res : Unit × ZM} : ∀ (n : Nat) (x1 : Int32) (σ : ZM), f_X9_layOrders_15 N n x1 σ = some res → zag [(0, some 14), (0, some 30), (0, some 31), (0, some 53), (0, some 56), (12, none), (13, none), (14, none), (15, none), (16, none), (17, none), (18, none), (19, none), (20, none), (21, none), (22, none), (23, none), (24, none), (25, none), (26, none), (39, none), (40, none)] σ res.2 := by
  intro n
  induction n with
  | zero => intro x1 σ h; exact absurd h (by simp [f_X9_layOrders_15])
  | succ n ih => intro x1 σ h; rw [f_X9_layOrders_15] at h; exact fr_b_X9_layOrders_15 ih h
theorem fr_X9_layOrders {N : Nat} {σ : ZM} {res : Unit × ZM} (h : f_X9_layOrders N σ = some res) : zag [(0, some 14), (0, some 30), (0, some 31), (0, some 53), (0, some 56), (12, none), (13, none), (14, none), (15, none), (16, none), (17, none), (18, none), (19, none), (20, none), (21, none), (22, none), (23, none), (24, none), (25, none), (26, none), (39, none), (40, none)] σ res.2 := by
  unfold f_X9_layOrders at h
  have hA : zag [(0, some 14), (0, some 30), (0, some 31), (0, some 53), (0, some 56), (12, none), (13, none), (14, none), (15, none), (16, none), (17, none), (18, none), (19, none), (20, none), (21, none), (22, none), (23, none), (24, none), (25, none), (26, none), (39, none), (40, none)] σ σ := zag_r
  obtain ⟨r10, s11, es11, h⟩ := zc h
  replace hA := zag_t hA (zag_w (by decide) (fr_X9_stepCount es11))
  obtain ⟨s12, es12, h⟩ := zb h
  replace hA := zag_t hA (zag_w (by decide) (zag_putI es12))
  obtain ⟨s13, es13, h⟩ := zb h
  replace hA := zag_t hA (zag_w (by decide) (zag_putI es13))
  exact zag_t hA (fr_X9_layOrders_15 _ _ _ h)
theorem fr_X9_steps {N : Nat} {σ : ZM} {res : Int32 × ZM} (h : f_X9_steps N σ = some res) : zag [] σ res.2 := by
  unfold f_X9_steps at h
  have hA : zag [] σ σ := zag_r
  obtain ⟨r1, s2, es2, h⟩ := zc h
  replace hA := zag_t hA (zag_w (by decide) (fr_X9_stepCount es2))
  cases h
  exact hA
theorem fr_X9_step {N : Nat} {x1 : Int32} {σ : ZM} {res : Int32 × ZM} (h : f_X9_step N x1 σ = some res) : zag [(0, some 14), (0, some 30), (0, some 31), (0, some 53), (0, some 56), (12, none), (13, none), (14, none), (15, none), (16, none), (17, none), (18, none), (19, none), (20, none), (21, none), (22, none), (23, none), (24, none), (25, none), (26, none), (39, none), (40, none)] σ res.2 := by
  unfold f_X9_step at h
  have hA : zag [(0, some 14), (0, some 30), (0, some 31), (0, some 53), (0, some 56), (12, none), (13, none), (14, none), (15, none), (16, none), (17, none), (18, none), (19, none), (20, none), (21, none), (22, none), (23, none), (24, none), (25, none), (26, none), (39, none), (40, none)] σ σ := zag_r
  obtain ⟨r1, s2, es2, h⟩ := zc h
  replace hA := zag_t hA (zag_w (by decide) (fr_X9_layOrders es2))
  obtain ⟨r3, s4, es4, h⟩ := zc h
  replace hA := zag_t hA (zag_w (by decide) (fr_X9_in es4))
  rcases zi2 h with ⟨hc17, h⟩ | ⟨hc17, h⟩
  · skip
    cases h
    exact hA
  · skip
    obtain ⟨v5, ev5, h⟩ := zb h
    cases h
    exact hA
theorem fr_X9_stepWorst {N : Nat} {σ : ZM} {res : Int32 × ZM} (h : f_X9_stepWorst N σ = some res) : zag [(0, some 14), (0, some 30), (0, some 31), (0, some 53), (0, some 56), (12, none), (13, none), (14, none), (15, none), (16, none), (17, none), (18, none), (19, none), (20, none), (21, none), (22, none), (23, none), (24, none), (25, none), (26, none), (39, none), (40, none)] σ res.2 := by
  unfold f_X9_stepWorst at h
  have hA : zag [(0, some 14), (0, some 30), (0, some 31), (0, some 53), (0, some 56), (12, none), (13, none), (14, none), (15, none), (16, none), (17, none), (18, none), (19, none), (20, none), (21, none), (22, none), (23, none), (24, none), (25, none), (26, none), (39, none), (40, none)] σ σ := zag_r
  obtain ⟨r1, s2, es2, h⟩ := zc h
  replace hA := zag_t hA (zag_w (by decide) (fr_X9_layOrders es2))
  rcases (zi2 h).symm with ⟨hc8, h⟩ | ⟨hc8, h⟩
  · skip
    cases h
    exact hA
  · skip
    cases h
    exact hA
theorem fr_X9_go {N : Nat} {σ : ZM} {res : Int32 × ZM} (h : f_X9_go N σ = some res) : zag [(0, some 14), (0, some 30), (0, some 31), (0, some 53), (0, some 56), (7, none), (12, none), (13, none), (14, none), (15, none), (16, none), (17, none), (18, none), (19, none), (20, none), (21, none), (22, none), (23, none), (24, none), (25, none), (26, none), (39, none), (40, none)] σ res.2 := by
  unfold f_X9_go at h
  have hA : zag [(0, some 14), (0, some 30), (0, some 31), (0, some 53), (0, some 56), (7, none), (12, none), (13, none), (14, none), (15, none), (16, none), (17, none), (18, none), (19, none), (20, none), (21, none), (22, none), (23, none), (24, none), (25, none), (26, none), (39, none), (40, none)] σ σ := zag_r
  obtain ⟨r1, s2, es2, h⟩ := zc h
  replace hA := zag_t hA (zag_w (by decide) (fr_X9_layOrders es2))
  rcases (zi2 h).symm with ⟨hc8, h⟩ | ⟨hc8, h⟩
  · skip
    obtain ⟨v3, ev3, h⟩ := zb h
    obtain ⟨r4, s5, es5, h⟩ := zc h
    replace hA := zag_t hA (zag_w (by decide) (fr_X9_aimOf es5))
    obtain ⟨s6, es6, h⟩ := zb h
    replace hA := zag_t hA (zag_w (by decide) (zag_iast es6))
    cases h
    exact hA
  · skip
    cases h
    exact hA
theorem fr_X9_count_86 {N : Nat} {rec46 : Int32 → Int32 → Int32 → Int32 → Int32 → ZM → Option (Int32 × ZM)} {res : Int32 × ZM} (hr46 : ∀ (x1 : Int32) (x2 : Int32) (x3 : Int32) (x4 : Int32) (x5 : Int32) (σ : ZM), rec46 x1 x2 x3 x4 x5 σ = some res → zag [] σ res.2) {x1 : Int32} {x2 : Int32} {x3 : Int32} {x5 : Int32} {y0 : Int32} {y1 : Int32} {σ : ZM} (h : f_X9_count_86 N rec46 x1 x2 x3 x5 y0 y1 σ = some res) : zag [] σ res.2 := by
  unfold f_X9_count_86 at h
  have hA : zag [] σ σ := zag_r
  obtain ⟨v1, ev1, h⟩ := zb h
  obtain ⟨v2, ev2, h⟩ := zb h
  exact zag_t hA (hr46 _ _ _ _ _ _ h)
theorem fr_b_X9_count_46 {N : Nat} {rec46 : Int32 → Int32 → Int32 → Int32 → Int32 → ZM → Option (Int32 × ZM)} {res : Int32 × ZM} (hr46 : ∀ (x1 : Int32) (x2 : Int32) (x3 : Int32) (x4 : Int32) (x5 : Int32) (σ : ZM), rec46 x1 x2 x3 x4 x5 σ = some res → zag [] σ res.2) {x1 : Int32} {x2 : Int32} {x3 : Int32} {x4 : Int32} {x5 : Int32} {σ : ZM} (h : b_X9_count_46 N rec46 x1 x2 x3 x4 x5 σ = some res) : zag [] σ res.2 := by
  unfold b_X9_count_46 at h
  have hA : zag [] σ σ := zag_r
  rcases zi2 h with ⟨hc52, h⟩ | ⟨hc52, h⟩
  · skip
    by_cases hc96_0 : x1 = (0 : Int32)
    · replace h := (zi h).1 hc96_0
      cases h
      exact hA
    replace h := (zi h).2 hc96_0
    by_cases hc96_1 : x1 = (1 : Int32)
    · replace h := (zi h).1 hc96_1
      cases h
      exact hA
    replace h := (zi h).2 hc96_1
    by_cases hc96_2 : x1 = (2 : Int32)
    · replace h := (zi h).1 hc96_2
      cases h
      exact hA
    replace h := (zi h).2 hc96_2
    by_cases hc96_3 : x1 = (3 : Int32)
    · replace h := (zi h).1 hc96_3
      cases h
      exact hA
    replace h := (zi h).2 hc96_3
    by_cases hc96_4 : x1 = (4 : Int32)
    · replace h := (zi h).1 hc96_4
      cases h
      exact hA
    replace h := (zi h).2 hc96_4
    by_cases hc96_5 : x1 = (5 : Int32)
    · replace h := (zi h).1 hc96_5
      cases h
      exact hA
    replace h := (zi h).2 hc96_5
    by_cases hc96_6 : x1 = (6 : Int32)
    · replace h := (zi h).1 hc96_6
      cases h
      exact hA
    replace h := (zi h).2 hc96_6
    cases h
    exact hA
  · skip
    obtain ⟨v3, ev3, h⟩ := zb h
    obtain ⟨v4, ev4, h⟩ := zb h
    obtain ⟨v5, ev5, h⟩ := zb h
    obtain ⟨r6, s7, es7, h⟩ := zc h
    replace hA := zag_t hA (zag_w (by decide) (fr_X9_ones es7))
    rcases (zi2 h).symm with ⟨hc78, h⟩ | ⟨hc78, h⟩
    · skip
      exact zag_t hA (fr_X9_count_86 hr46 h)
    · skip
      exact zag_t hA (fr_X9_count_86 hr46 h)
theorem fr_X9_count_46 {N : Nat} {res : Int32 × ZM} : ∀ (n : Nat) (x1 : Int32) (x2 : Int32) (x3 : Int32) (x4 : Int32) (x5 : Int32) (σ : ZM), f_X9_count_46 N n x1 x2 x3 x4 x5 σ = some res → zag [] σ res.2 := by
  intro n
  induction n with
  | zero => intro x1 x2 x3 x4 x5 σ h; exact absurd h (by simp [f_X9_count_46])
  | succ n ih => intro x1 x2 x3 x4 x5 σ h; rw [f_X9_count_46] at h; exact fr_b_X9_count_46 ih h
theorem fr_X9_count_35 {N : Nat} {rec10 : Int32 → Int32 → Int32 → Int32 → Int32 → ZM → Option (Int32 × ZM)} {res : Int32 × ZM} (hr10 : ∀ (x1 : Int32) (x2 : Int32) (x3 : Int32) (x4 : Int32) (x5 : Int32) (σ : ZM), rec10 x1 x2 x3 x4 x5 σ = some res → zag [] σ res.2) {x1 : Int32} {x3 : Int32} {x4 : Int32} {x5 : Int32} {y0 : Int32} {y1 : Int32} {σ : ZM} (h : f_X9_count_35 N rec10 x1 x3 x4 x5 y0 y1 σ = some res) : zag [] σ res.2 := by
  unfold f_X9_count_35 at h
  have hA : zag [] σ σ := zag_r
  obtain ⟨v8, ev8, h⟩ := zb h
  obtain ⟨v9, ev9, h⟩ := zb h
  exact zag_t hA (hr10 _ _ _ _ _ _ h)
theorem fr_b_X9_count_10 {N : Nat} {rec10 : Int32 → Int32 → Int32 → Int32 → Int32 → ZM → Option (Int32 × ZM)} {res : Int32 × ZM} (hr10 : ∀ (x1 : Int32) (x2 : Int32) (x3 : Int32) (x4 : Int32) (x5 : Int32) (σ : ZM), rec10 x1 x2 x3 x4 x5 σ = some res → zag [] σ res.2) {x1 : Int32} {x2 : Int32} {x3 : Int32} {x4 : Int32} {x5 : Int32} {σ : ZM} (h : b_X9_count_10 N rec10 x1 x2 x3 x4 x5 σ = some res) : zag [] σ res.2 := by
  unfold b_X9_count_10 at h
  have hA : zag [] σ σ := zag_r
  rcases zi2 h with ⟨hc16, h⟩ | ⟨hc16, h⟩
  · skip
    exact zag_t hA (fr_X9_count_46 _ _ _ _ _ _ _ h)
  · skip
    obtain ⟨v10, ev10, h⟩ := zb h
    rcases zi2 h with ⟨hc27, h⟩ | ⟨hc27, h⟩
    · skip
      exact zag_t hA (fr_X9_count_35 hr10 h)
    · skip
      exact zag_t hA (fr_X9_count_35 hr10 h)
theorem fr_X9_count_10 {N : Nat} {res : Int32 × ZM} : ∀ (n : Nat) (x1 : Int32) (x2 : Int32) (x3 : Int32) (x4 : Int32) (x5 : Int32) (σ : ZM), f_X9_count_10 N n x1 x2 x3 x4 x5 σ = some res → zag [] σ res.2 := by
  intro n
  induction n with
  | zero => intro x1 x2 x3 x4 x5 σ h; exact absurd h (by simp [f_X9_count_10])
  | succ n ih => intro x1 x2 x3 x4 x5 σ h; rw [f_X9_count_10] at h; exact fr_b_X9_count_10 ih h
theorem fr_X9_count {N : Nat} {x1 : Int32} {σ : ZM} {res : Int32 × ZM} (h : f_X9_count N x1 σ = some res) : zag [] σ res.2 := by
  unfold f_X9_count at h
  have hA : zag [] σ σ := zag_r
  exact zag_t hA (fr_X9_count_10 _ _ _ _ _ _ _ h)
