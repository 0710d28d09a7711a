/-! ===== trial ===== -/
def zat (α : AS) (t : Nat) : AS := fun c i => if c = 0 then (if i = 3 then t + 1 else α 0 i) else if c = 12 then (if i = t then α 0 2 else α 12 i) else if c = 13 then (if 4 * t ≤ i ∧ i < 4 * t + 4 then α 7 (i - 4 * t) else α 13 i) else if c = 14 then (if 4 * t ≤ i ∧ i < 4 * t + 4 then α 8 (i - 4 * t) else α 14 i) else if c = 15 then (if 4 * t ≤ i ∧ i < 4 * t + 4 then α 9 (i - 4 * t) else α 15 i) else if c = 16 then (if 4 * t ≤ i ∧ i < 4 * t + 4 then α 6 (i - 4 * t) else α 16 i) else α c i
theorem zat_code {α : AS} {t c : Nat} (h0 : c ≠ 0) (h1 : c < 12 ∨ 16 < c) : zat α t c = α c := by
  funext i
  unfold zat
  rw [if_neg h0, if_neg (by omega), if_neg (by omega), if_neg (by omega), if_neg (by omega), if_neg (by omega)]
theorem zat0 {α : AS} {t i : Nat} (h : i ≠ 3) : zat α t 0 i = α 0 i := by unfold zat; rw [if_pos rfl, if_neg h]
theorem zat03 {α : AS} {t : Nat} : zat α t 0 3 = t + 1 := rfl
theorem zat12 {α : AS} {t i : Nat} : zat α t 12 i = if i = t then α 0 2 else α 12 i := rfl
def zsrc (c : Nat) : Nat := if c = 16 then 6 else c - 6
theorem zat_src {α : AS} {t c i : Nat} (h : 13 ≤ c ∧ c ≤ 16) : zat α t c i = if 4 * t ≤ i ∧ i < 4 * t + 4 then α (zsrc c) (i - 4 * t) else α c i := by
  rcases (show c = 13 ∨ c = 14 ∨ c = 15 ∨ c = 16 by omega) with rfl | rfl | rfl | rfl <;> rfl
theorem WF.trial {α : AS} (h : WF α) (ht : α 0 3 < 6) : WF (zat α (α 0 3)) := by
  obtain ⟨h1, h2, h3, h4, h5, h6, h7⟩ := h
  have e0 : zat α (α 0 3) 0 0 = α 0 0 := zat0 (by decide)
  have e1 : zat α (α 0 3) 0 1 = α 0 1 := zat0 (by decide)
  have e2 : zat α (α 0 3) 0 2 = α 0 2 := zat0 (by decide)
  have cd : ∀ c, c ≠ 0 → (c < 12 ∨ 16 < c) → zat α (α 0 3) c = α c := fun c q r => zat_code q r
  refine ⟨⟨by rw [e0]; exact h1.1, by rw [e1]; exact h1.2.1, by rw [e2]; exact h1.2.2.1, by rw [zat03]; omega⟩, ?_, ?_, ?_, ?_, ?_, ?_⟩
  · unfold WT; rw [cd 1 (by decide) (by decide), e0]; exact h2
  · unfold WG; rw [cd 3 (by decide) (by decide), e0]; exact h3
  · unfold WQ; rw [cd 2 (by decide) (by decide), cd 5 (by decide) (by decide), cd 10 (by decide) (by decide)]; exact h4
  · unfold WH; rw [cd 4 (by decide) (by decide), e0, e2]; exact h5
  · unfold WW; rw [cd 6 (by decide) (by decide), cd 7 (by decide) (by decide), cd 8 (by decide) (by decide), cd 9 (by decide) (by decide), cd 11 (by decide) (by decide), e0, e2]; exact h6
  · unfold WX
    rw [cd 17 (by decide) (by decide), e0, e2, zat03]
    refine ⟨fun t => ?_, fun i => ?_, fun i => ?_, fun i => ?_, fun i => ?_, fun t n hn => ?_⟩
    · rw [zat12]
      have := h7.1 t
      split <;> omega
    · rw [zat_src (by decide)]
      split
      · exact h6.2.1 _
      · exact h7.2.1 i
    · rw [zat_src (by decide)]
      split
      · exact h6.2.2.1 _
      · exact h7.2.2.1 i
    · rw [zat_src (by decide)]
      split
      · exact h6.2.2.2.1 _
      · exact h7.2.2.2.1 i
    · rw [zat_src (by decide)]
      split
      · exact h6.1 _
      · exact h7.2.2.2.2.1 i
    · obtain ⟨q1, q2, q3⟩ := h7.2.2.2.2.2 t n hn
      exact ⟨q1, q2, fun r => q3 (by omega)⟩
/-- the rows of the class: below 49, or a trial's -/
theorem zTC_1 : ∀ e ∈ TC, e.1 < 49 → e.2.2.1 < 12 := by decide +kernel
theorem zTC_2 : ∀ e ∈ TC, e.1 = 38 → e = (38, 5, 0, 3, 1) := by decide +kernel
theorem zTC_3 : ∀ e ∈ TC, e.2.2.1 = 0 → e.1 = 38 ∨ e.2.2.2.1 + e.2.2.2.2 ≤ 3 := by decide +kernel
theorem zTC_4 : ∀ e ∈ TC, 49 ≤ e.1 → (e.1 - 49) % 7 < 5 ∧ (e.1 - 49) / 7 < 6 := by decide +kernel
theorem zTC_5 : ∀ e ∈ TC, 49 ≤ e.1 → e = (49 + 7 * ((e.1 - 49) / 7) + (e.1 - 49) % 7, 0, 12 + (e.1 - 49) % 7, (if (e.1 - 49) % 7 = 0 then (e.1 - 49) / 7 else 4 * ((e.1 - 49) / 7)), if (e.1 - 49) % 7 = 0 then 1 else 4) := by decide +kernel
theorem zTC_rows (e : Nat × Nat × Nat × Nat × Nat) (he : e ∈ TC) : (e.1 < 49 ∧ e.2.2.1 < 12 ∧ (e.1 = 38 → e = (38, 5, 0, 3, 1)) ∧ (e.2.2.1 = 0 → e = (38, 5, 0, 3, 1) ∨ e.2.2.2.1 + e.2.2.2.2 ≤ 3)) ∨ ∃ d, d < 5 ∧ ∃ t, t < 6 ∧ e = (49 + 7 * t + d, 0, 12 + d, (if d = 0 then t else 4 * t), if d = 0 then 1 else 4) := by
  by_cases h : e.1 < 49
  · refine Or.inl ⟨h, zTC_1 e he h, zTC_2 e he, fun q => ?_⟩
    rcases zTC_3 e he q with r | r
    · exact Or.inl (zTC_2 e he r)
    · exact Or.inr r
  · have h4 := zTC_4 e he (by omega)
    exact Or.inr ⟨_, h4.1, _, h4.2, zTC_5 e he (by omega)⟩
theorem RC.trial {α : AS} {σ σ' : ZM} (h : RC α σ) (ht : α 0 3 < 6) (g : zag (zW5 (49 + 7 * α 0 3) ++ [(38, some 5), (38, some 15), (38, some 16)]) σ σ') (hA : CA (49 + 7 * α 0 3) (α 0 2) (α 6) (α 7) (α 8) (α 9) σ') (h5 : σ'.1 38 5 = nI (α 0 3 + 1)) : RC (zat α (α 0 3)) σ' := by
  obtain ⟨t, ht'⟩ : ∃ t, t = α 0 3 := ⟨_, rfl⟩
  rw [← ht'] at ht g hA h5 ⊢
  have e17 : zat α t 17 = α 17 := zat_code (by decide) (by decide)
  have e11 : zat α t 11 = α 11 := zat_code (by decide) (by decide)
  have e1 : zat α t 1 = α 1 := zat_code (by decide) (by decide)
  refine ⟨fun e he i hi => ?_, fun e he i hi => ?_, fun e he i hi => ?_, ?_, ?_⟩
  · rcases zTC_rows e he with ⟨q1, q2, q3, q4⟩ | ⟨d, hd, t', ht6, rfl⟩
    · by_cases e38 : e.1 = 38
      · rw [q3 e38] at hi ⊢
        simp only at hi ⊢
        rw [show i = 0 by omega]
        exact h5
      · have m1 : σ'.1 e.1 (e.2.1 + i) = σ.1 e.1 (e.2.1 + i) := (g _ _ (by simp <;> omega) (by simp <;> omega)).1
        rw [m1, h.1 e he i hi]
        congr 1
        by_cases c0 : e.2.2.1 = 0
        · rcases q4 c0 with r | r
          · rw [r] at e38; exact absurd rfl e38
          · rw [c0, zat0 (by omega)]
        · rw [zat_code c0 (by omega)]
    · simp only at hi ⊢
      by_cases et : t' = t
      · subst et
        by_cases d0 : d = 0
        · subst d0
          simp only [if_true] at hi ⊢
          rw [show i = 0 by omega]
          show σ'.1 (49 + 7 * t') 0 = nI (zat α t' 12 t')
          rw [hA.1, zat12, if_pos rfl]
        · simp only [if_neg d0] at hi ⊢
          obtain ⟨r1, r2, r3, r4⟩ := hA.2 i hi
          rw [Nat.zero_add, zat_src (by omega), if_pos (by omega), Nat.add_sub_cancel_left]
          rcases (show d = 1 ∨ d = 2 ∨ d = 3 ∨ d = 4 by omega) with rfl | rfl | rfl | rfl
          · exact r1
          · exact r2
          · exact r3
          · exact r4
      · have m1 : σ'.1 (49 + 7 * t' + d) (0 + i) = σ.1 (49 + 7 * t' + d) (0 + i) := (g _ _ (by simp <;> omega) (by simp <;> omega)).1
        rw [m1, h.1 _ he i hi]
        simp only
        congr 1
        by_cases d0 : d = 0
        · subst d0
          simp only [if_true] at hi ⊢
          rw [show i = 0 by omega]
          show α 12 (t' + 0) = zat α t 12 (t' + 0)
          rw [zat12, if_neg (by omega)]
        · simp only [if_neg d0] at hi ⊢
          rw [zat_src (by omega), if_neg (by omega)]
  · have hr : ∀ e ∈ TS, (∃ t, t < 6 ∧ e.1 = 54 + 7 * t) ∧ e.2.2.1 = 17 := by decide +kernel
    obtain ⟨⟨t', ht6, q1⟩, q2⟩ := hr e he
    have m1 : σ'.1 e.1 (e.2.1 + i) = σ.1 e.1 (e.2.1 + i) := (g _ _ (by simp <;> omega) (by simp <;> omega)).1
    rw [m1, h.2.1 e he i hi, q2, e17]
  · have hr : ∀ e ∈ TA, e.1 = 10 ∧ e.2.2.1 = 11 := by decide +kernel
    obtain ⟨q1, q2⟩ := hr e he
    have m1 : σ'.1 e.1 (e.2.1 + i) = σ.1 e.1 (e.2.1 + i) := (g _ _ (by simp <;> omega) (by simp <;> omega)).1
    rw [m1, h.2.2.1 e he i hi, q2, e11]
  · rw [e1]; exact zmask_fr h.2.2.2.1 g ⟨by simp <;> omega, fun a ha => by simp <;> omega⟩
  · rw [e1]; exact zmask_fr h.2.2.2.2 g ⟨by simp <;> omega, fun a ha => by simp <;> omega⟩
theorem zw_trialC {N : Nat} (hN : 14 < N) {α : AS} {σ : ZM} (hW : WF α) (hC : RC α σ) (ht : α 0 3 < 6) : ∃ σ', f_X8_trial N σ = some (nI (α 0 3), σ') ∧ RC (zat α (α 0 3)) σ' ∧ σ'.1 38 15 = 1 ∧ σ'.1 38 16 = 0 ∧ σ'.1 23 14 = σ.1 23 14 ∧ ∀ a, σ'.1 30 a = σ.1 30 a ∧ σ'.1 31 a = σ.1 31 a := by
  obtain ⟨s1, hs1⟩ : ∃ s1, s1 = zuI (zuI σ 38 15 1) 38 16 0 := ⟨_, rfl⟩
  have g1 : zag [(38, some 15), (38, some 16)] σ s1 := by rw [hs1]; exact zag_t (zag_w (W1 := [(38, some 15)]) (by simp) zag_uI) (zag_w (W1 := [(38, some 16)]) (by simp) zag_uI)
  have hc1 := hC.fr38 g1
  obtain ⟨s2, b1, b2, b3⟩ := zw_copy hN hW hc1.ca (show 17 ≤ 49 + 7 * α 0 3 by omega)
  obtain ⟨s3, hs3⟩ : ∃ s3, s3 = zuI s2 38 5 (nI (α 0 3 + 1)) := ⟨_, rfl⟩
  have tr2 : s2.1 38 5 = nI (α 0 3) := by rw [(b2 38 5 (by simp <;> omega) (by simp <;> omega)).1]; exact hc1.trials
  have g3 : zag (zW5 (49 + 7 * α 0 3) ++ [(38, some 5), (38, some 15), (38, some 16)]) σ s3 := by
    refine zag_t (zag_w (by simp) g1) (zag_t (zag_w (by simp) b2) ?_)
    rw [hs3]; exact zag_w (W1 := [(38, some 5)]) (by simp) zag_uI
  have a3 : CA (49 + 7 * α 0 3) (α 0 2) (α 6) (α 7) (α 8) (α 9) s3 := by
    refine ⟨by rw [hs3, zuI_n (by omega)]; exact b3.1, fun s hs => ?_⟩
    rw [hs3, zuI_n (by omega), zuI_n (by omega), zuI_n (by omega), zuI_n (by omega)]
    exact b3.2 s hs
  refine ⟨s3, ?_, hC.trial ht g3 a3 (by rw [hs3, zuI_s]), ?_, ?_, ?_, fun a => ⟨?_, ?_⟩⟩
  · unfold f_X8_trial f_X0_keepTrial
    rw [hC.trials, if_pos (by rw [Int32.lt_iff_toInt_lt, nI_toInt (by omega)]; show ((α 0 3 : Nat) : Int) < 6; omega), zw_forget0, ← hs1]
    unfold zbd
    rw [Option.bind_some]
    simp only
    rw [hc1.trials, zw_trl ht, Option.bind_some, show 48 + 7 * α 0 3 + 1 = 49 + 7 * α 0 3 by omega, b1, Option.bind_some]
    simp only
    unfold zpI
    rw [Option.bind_some, tr2, nI_1, ← hs3, Option.bind_some, show s3.1 38 5 = nI (α 0 3 + 1) by rw [hs3, zuI_s], zm1, pk_m1]
  · rw [hs3, zuI_n (by simp), (b2 38 15 (by simp <;> omega) (by simp <;> omega)).1, hs1, zuI_n (by simp), zuI_s]
  · rw [hs3, zuI_n (by simp), (b2 38 16 (by simp <;> omega) (by simp <;> omega)).1, hs1, zuI_s]
  · rw [hs3, zuI_n (by simp), (b2 23 14 (by simp <;> omega) (by simp <;> omega)).1, hs1, zuI_n (by simp), zuI_n (by simp)]
  · rw [hs3, zuI_n (by simp), (b2 30 a (by simp <;> omega) (by simp <;> omega)).1, hs1, zuI_n (by simp), zuI_n (by simp)]
  · rw [hs3, zuI_n (by simp), (b2 31 a (by simp <;> omega) (by simp <;> omega)).1, hs1, zuI_n (by simp), zuI_n (by simp)]
/-! the reference -/
abbrev zWV : List (Nat × Option Nat) := [(28, none), (29, none), (30, none), (31, none), (32, none), (33, none)]
def zmd (α : AS) (c t i j : Nat) : Nat := if 4 * t ≤ j ∧ j < 4 * t + i then α (zsrc c) (j - 4 * t) else α c j
def TRo (α : AS) (t i : Nat) (σ : ZM) : Prop := ∀ j, j < 24 → σ.1 29 j = nI (zmd α 13 t i j) ∧ σ.1 30 j = nI (zmd α 14 t i j) ∧ σ.1 31 j = nI (zmd α 15 t i j) ∧ σ.1 32 j = nI (zmd α 16 t i j)
theorem zmd_s {α : AS} {c t i : Nat} : zmd α c t (i + 1) (4 * t + i) = α (zsrc c) i := by unfold zmd; rw [if_pos (by omega), Nat.add_sub_cancel_left]
theorem zmd_n {α : AS} {c t i j : Nat} (h : j ≠ 4 * t + i) : zmd α c t (i + 1) j = zmd α c t i j := by
  unfold zmd
  by_cases q : 4 * t ≤ j ∧ j < 4 * t + i
  · rw [if_pos q, if_pos (by omega)]
  · rw [if_neg q, if_neg (by omega)]
theorem zTM_1 : ∀ e ∈ TM, e.1 < 28 → e.2.2.1 < 12 := by decide +kernel
theorem zTM_2 : ∀ e ∈ TM, e.1 = 0 → e.2.1 + e.2.2.2.2 ≤ 33 ∨ e = (0, 33, 0, 3, 1) := by decide +kernel
theorem zTM_3 : ∀ e ∈ TM, e.2.2.1 = 0 → e = (0, 33, 0, 3, 1) ∨ e.2.2.2.1 + e.2.2.2.2 ≤ 3 := by decide +kernel
theorem zTM_4 : ∀ e ∈ TM, 28 ≤ e.1 → e ∈ [(28, 0, 12, 0, 6), (29, 0, 13, 0, 24), (30, 0, 14, 0, 24), (31, 0, 15, 0, 24), (32, 0, 16, 0, 24)] := by decide +kernel
theorem zTM_rows (e : Nat × Nat × Nat × Nat × Nat) (he : e ∈ TM) : (e.1 < 28 ∧ e.2.2.1 < 12 ∧ (e.1 = 0 → e.2.1 + e.2.2.2.2 ≤ 33 ∨ e = (0, 33, 0, 3, 1)) ∧ (e.2.2.1 = 0 → e = (0, 33, 0, 3, 1) ∨ e.2.2.2.1 + e.2.2.2.2 ≤ 3)) ∨ e = (28, 0, 12, 0, 6) ∨ e = (29, 0, 13, 0, 24) ∨ e = (30, 0, 14, 0, 24) ∨ e = (31, 0, 15, 0, 24) ∨ e = (32, 0, 16, 0, 24) := by
  by_cases h : e.1 < 28
  · exact Or.inl ⟨h, zTM_1 e he h, zTM_2 e he, zTM_3 e he⟩
  · have h4 := zTM_4 e he (by omega)
    simp only [List.mem_cons, List.not_mem_nil, or_false] at h4
    exact Or.inr h4
theorem zw_trialM {N : Nat} (hN : 14 < N) {α : AS} {σ : ZM} (hW : WF α) (hM : RM α σ) (ht : α 0 3 < 6) : ∃ σ', f_X9_trial N σ = some (nI (α 0 3), σ') ∧ RM (zat α (α 0 3)) σ' := by
  have hu := hW.2.2.2.2.2.1.1
  have hr := hW.2.2.2.2.2.1.2.2.2.1
  obtain ⟨t, ht'⟩ : ∃ t, t = α 0 3 := ⟨_, rfl⟩
  have tr0 := hM.trials
  rw [← ht'] at ht tr0 ⊢
  obtain ⟨s0, hs0⟩ : ∃ s0, s0 = zuI σ 28 t (nI (α 0 2)) := ⟨_, rfl⟩
  have g0 : zag zWV σ s0 := by rw [hs0]; exact zag_w (W1 := [(28, none)]) (by simp) (zag_all zag_uI)
  have r0 : TRo α t 0 s0 := fun j hj => by
    have z : ∀ c, zmd α c t 0 j = α c j := fun c => by unfold zmd; rw [if_neg (by omega)]
    rw [z, z, z, z, hs0, zuI_n (by simp), zuI_n (by simp), zuI_n (by simp), zuI_n (by simp)]
    have h1 := hM.at 29 0 13 0 24 (by decide) hj
    have h2 := hM.at 30 0 14 0 24 (by decide) hj
    have h3 := hM.at 31 0 15 0 24 (by decide) hj
    have h4 := hM.at 32 0 16 0 24 (by decide) hj
    rw [Nat.zero_add] at h1 h2 h3 h4
    exact ⟨h1, h2, h3, h4⟩
  obtain ⟨m', s', e1, e2, e3, e4⟩ := zloopS (fun m (q : Int32 × ZM) => f_X9_trial_27 N m q.1 q.2)
    (fun i q => q.1 = nI i ∧ zag [(29, none), (30, none), (31, none), (32, none)] s0 q.2 ∧ TRo α t i q.2) 4 (by
    rintro m i ⟨x, s⟩ hi ⟨p1, p2, p3⟩
    simp only at p1 p2 p3
    subst p1
    have old : ∀ c, c < 28 → ∀ j, s.1 c j = σ.1 c j := fun c hc j => by rw [(p2 c j (by simp <;> omega) (by simp)).1, (g0 c j (by simp <;> omega) (by simp)).1]
    obtain ⟨r1, r2, r3, r4⟩ := hM.row hi
    have hti : 4 * t + i < 24 := by omega
    obtain ⟨s1, hs1⟩ : ∃ s1, s1 = zuI s 29 (4 * t + i) (nI (α 7 i)) := ⟨_, rfl⟩
    obtain ⟨s2, hs2⟩ : ∃ s2, s2 = zuI s1 30 (4 * t + i) (nI (α 8 i)) := ⟨_, rfl⟩
    obtain ⟨s3, hs3⟩ : ∃ s3, s3 = zuI s2 31 (4 * t + i) (nI (α 9 i)) := ⟨_, rfl⟩
    obtain ⟨s4, hs4⟩ : ∃ s4, s4 = zuI s3 32 (4 * t + i) (nI (α 6 i)) := ⟨_, rfl⟩
    have o1 : ∀ c, c < 28 → ∀ j, s1.1 c j = σ.1 c j := fun c hc j => by rw [hs1, zuI_n (by omega)]; exact old c hc j
    have o2 : ∀ c, c < 28 → ∀ j, s2.1 c j = σ.1 c j := fun c hc j => by rw [hs2, zuI_n (by omega)]; exact o1 c hc j
    have o3 : ∀ c, c < 28 → ∀ j, s3.1 c j = σ.1 c j := fun c hc j => by rw [hs3, zuI_n (by omega)]; exact o2 c hc j
    refine ⟨(nI (i + 1), s4), ?_, rfl, ?_, fun j hj => ?_⟩
    · show b_X9_trial_27 N (f_X9_trial_27 N m) (nI i) s = _
      unfold b_X9_trial_27
      rw [if_neg (by rw [show (4 : Int32) = nI 4 from rfl]; exact nI_ge hi (by decide)), zald_nI hi (by decide), Option.bind_some, old 7 (by decide), r1, old 0 (by decide), tr0, (zmul4 t i).2, zast_nI hti (by decide), Option.bind_some, ← hs1]
      rw [zald_nI hi (by decide), Option.bind_some, o1 8 (by decide), r2, o1 0 (by decide), tr0, (zmul4 t i).2, zast_nI hti (by decide), Option.bind_some, ← hs2]
      rw [zald_nI hi (by decide), Option.bind_some, o2 9 (by decide), r3, o2 0 (by decide), tr0, (zmul4 t i).2, zasZ_nI hti (by decide) (zn1 (hr i)), Option.bind_some, ← hs3]
      rw [zald_nI hi (by decide), Option.bind_some, o3 6 (by decide), r4, o3 0 (by decide), tr0, (zmul4 t i).2, zasZ_nI hti (by decide) (zn1 (hu i)), Option.bind_some, ← hs4, Option.bind_some, nI_1]
    · refine zag_t p2 ?_
      rw [hs4, hs3, hs2, hs1]
      exact zag_t (zag_t (zag_t (zag_w (W1 := [(29, none)]) (by simp) (zag_all zag_uI)) (zag_w (W1 := [(30, none)]) (by simp) (zag_all zag_uI))) (zag_w (W1 := [(31, none)]) (by simp) (zag_all zag_uI))) (zag_w (W1 := [(32, none)]) (by simp) (zag_all zag_uI))
    · obtain ⟨q1, q2, q3, q4⟩ := p3 j hj
      show s4.1 29 j = _ ∧ s4.1 30 j = _ ∧ s4.1 31 j = _ ∧ s4.1 32 j = _
      by_cases e : j = 4 * t + i
      · subst e
        rw [zmd_s, zmd_s, zmd_s, zmd_s]
        refine ⟨?_, ?_, ?_, ?_⟩
        · rw [hs4, zuI_n (by simp), hs3, zuI_n (by simp), hs2, zuI_n (by simp), hs1, zuI_s]; rfl
        · rw [hs4, zuI_n (by simp), hs3, zuI_n (by simp), hs2, zuI_s]; rfl
        · rw [hs4, zuI_n (by simp), hs3, zuI_s]; rfl
        · rw [hs4, zuI_s]; rfl
      · rw [zmd_n e, zmd_n e, zmd_n e, zmd_n e]
        have k : ∀ c, s4.1 c j = s.1 c j := fun c => by rw [hs4, zuI_n (fun q => e q.2), hs3, zuI_n (fun q => e q.2), hs2, zuI_n (fun q => e q.2), hs1, zuI_n (fun q => e q.2)]
        rw [k, k, k, k]
        exact ⟨q1, q2, q3, q4⟩) N 0 (0, s0) (by omega) (by omega) ⟨rfl, zag_r, r0⟩
  obtain ⟨x, s⟩ := s'
  simp only at e1 e2 e3 e4
  subst e2
  have trs : s.1 0 33 = nI t := by rw [(e3 0 33 (by decide) (by decide)).1, (g0 0 33 (by decide) (by decide)).1]; exact tr0
  obtain ⟨m2, s2, d1, d2, d3, d4⟩ := zloopS (fun m (q : Int32 × ZM) => f_X9_trial_116 N m q.1 q.2)
    (fun i q => q.1 = nI i ∧ zag [(33, none)] s q.2 ∧ (∀ n, n < i → q.2.1 33 (10 * t + n) = 4) ∧ ∀ j, j < 10 * t → q.2.1 33 j = s.1 33 j) 10 (by
    rintro m i ⟨x, u⟩ hi ⟨p1, p2, p3, p4⟩
    simp only at p1 p2 p3 p4
    subst p1
    have tru : u.1 0 33 = nI t := by rw [(p2 0 33 (by decide) (by decide)).1]; exact trs
    refine ⟨(nI (i + 1), zuI u 33 (10 * t + i) 4), ?_, rfl, zag_t p2 (zag_all zag_uI), fun n hn => ?_, fun j hj => ?_⟩
    · show b_X9_trial_116 N (f_X9_trial_116 N m) (nI i) u = _
      unfold b_X9_trial_116
      rw [if_neg (by rw [show (10 : Int32) = nI 10 from rfl]; exact nI_ge hi (by decide)), tru, (zmul10 t i).2, zast_nI (show 10 * t + i < 60 by omega) (by decide), Option.bind_some, Option.bind_some, nI_1]
    · show (zuI u 33 (10 * t + i) 4).1 33 (10 * t + n) = 4
      by_cases e : n = i
      · subst e; rw [zuI_s]
      · rw [zuI_n (fun q => e (by omega))]; exact p3 n (by omega)
    · show (zuI u 33 (10 * t + i) 4).1 33 j = _
      rw [zuI_n (fun q => by omega)]; exact p4 j hj) N 0 (0, s) (by omega) (by omega) ⟨rfl, zag_r, fun n hn => absurd hn (Nat.not_lt_zero n), fun j hj => rfl⟩
  obtain ⟨x2, u⟩ := s2
  simp only at d1 d2 d3 d4
  subst d2
  have tru : u.1 0 33 = nI t := by rw [(d3 0 33 (by decide) (by decide)).1]; exact trs
  obtain ⟨s9, hs9⟩ : ∃ s9, s9 = zuI u 0 33 (nI (t + 1)) := ⟨_, rfl⟩
  have low : ∀ c, c < 28 → ∀ j, ¬ (c = 0 ∧ j = 33) → s9.1 c j = σ.1 c j := fun c hc j h => by
    rw [hs9, zuI_n h, (d3 c j (by simp <;> omega) (by simp)).1, (e3 c j (by simp <;> omega) (by simp)).1, (g0 c j (by simp <;> omega) (by simp)).1]
  refine ⟨s9, ?_, fun e he i hi => ?_, fun v hv => ?_, fun t2 ht2 n hn => ?_⟩
  · unfold f_X9_trial
    have n6 : ¬ nI t = (6 : Int32) := fun q => by have := nI_inj (b := 6) (by omega) (by decide) q; omega
    rw [tr0, if_neg n6, hM.sites, zast_nI (show t < 6 by omega) (by decide), Option.bind_some, ← hs0]
    have e1 : f_X9_trial_27 N N 0 s0 = f_X9_trial_27 N (m' + 1) (nI 4) s := e1
    rw [e1]
    show b_X9_trial_27 N (f_X9_trial_27 N m') (nI 4) s = _
    unfold b_X9_trial_27
    rw [if_pos (show (4 : Int32) ≤ nI 4 by decide)]
    have d1 : f_X9_trial_116 N N 0 s = f_X9_trial_116 N (m2 + 1) (nI 10) u := d1
    rw [d1]
    show b_X9_trial_116 N (f_X9_trial_116 N m2) (nI 10) u = _
    unfold b_X9_trial_116 zpI
    rw [if_pos (show (10 : Int32) ≤ nI 10 by decide), Option.bind_some, tru, nI_1, ← hs9, show s9.1 0 33 = nI (t + 1) by rw [hs9, zuI_s], zm1, pk_m1]
  · have h29 : ∀ c, 28 < c → c < 33 → ∀ j, s9.1 c j = s.1 c j := fun c h1 h2 j => by
      rw [hs9, zuI_n (by omega), (d3 c j (by simp <;> omega) (by simp)).1]
    have mdz : ∀ c j, 13 ≤ c ∧ c ≤ 16 → zmd α c t 4 j = zat α t c j := fun c j h => by rw [zat_src h]; rfl
    rcases zTM_rows e he with ⟨q1, q2, q4, q5⟩ | rfl | rfl | rfl | rfl | rfl
    · by_cases e33 : e = (0, 33, 0, 3, 1)
      · subst e33
        simp only at hi ⊢
        rw [show i = 0 by omega]
        show s9.1 0 33 = nI (t + 1)
        rw [hs9, zuI_s]
      · have hne : ¬ (e.1 = 0 ∧ e.2.1 + i = 33) := fun q => by
          rcases q4 q.1 with r | r
          · omega
          · exact e33 r
        rw [low e.1 q1 _ hne, hM.1 e he i hi]
        congr 1
        by_cases c0 : e.2.2.1 = 0
        · rcases q5 c0 with r | r
          · exact absurd r e33
          · rw [c0, zat0 (by omega)]
        · rw [zat_code c0 (by omega)]
    · simp only [Nat.zero_add] at hi ⊢
      rw [zat12, hs9, zuI_n (by simp), (d3 28 i (by decide) (by simp)).1, (e3 28 i (by decide) (by simp)).1, hs0]
      by_cases q : i = t
      · subst q; rw [zuI_s, if_pos rfl]
      · rw [zuI_n (fun r => q r.2), if_neg q]
        have := hM.at 28 0 12 0 6 (by decide) hi
        rw [Nat.zero_add] at this
        exact this
    · simp only [Nat.zero_add] at hi ⊢
      rw [h29 29 (by decide) (by decide), (e4 i hi).1, mdz 13 i (by decide)]
    · simp only [Nat.zero_add] at hi ⊢
      rw [h29 30 (by decide) (by decide), (e4 i hi).2.1, mdz 14 i (by decide)]
    · simp only [Nat.zero_add] at hi ⊢
      rw [h29 31 (by decide) (by decide), (e4 i hi).2.2.1, mdz 15 i (by decide)]
    · simp only [Nat.zero_add] at hi ⊢
      rw [h29 32 (by decide) (by decide), (e4 i hi).2.2.2, mdz 16 i (by decide)]
  · rw [zat0 (by decide)] at hv
    rw [low 11 (by decide) v (by simp), zat_code (by decide) (by decide)]
    exact hM.2.1 v hv
  · rw [zat03] at ht2
    rw [zat_code (by decide) (by decide), hs9, zuI_n (by simp)]
    by_cases q : t2 = t
    · subst q
      have := (hW.2.2.2.2.2.2.2.2.2.2.2 t2 n hn).2.2 (Or.inl (by omega))
      rw [this, d4.1 n hn]
      rfl
    · rw [d4.2 _ (by omega), (e3 33 _ (by decide) (by simp)).1, hs0, zuI_n (by simp)]
      exact hM.2.2 t2 (by omega) n hn
theorem ca_trial {N : Nat} (hN : 14 < N) : zTriC (f_X8_trial N) (f_X9_trial N) := by
  intro α σc σm hW hC hM
  have ht0 := hW.1.2.2.2
  by_cases ht : α 0 3 < 6
  · obtain ⟨s1, a1, a2, a3⟩ := zw_trialC hN hW hC ht
    obtain ⟨t1, b1, b2⟩ := zw_trialM hN hW hM ht
    exact ⟨_, s1, t1, _, a1, b1, hW.trial ht, a2, b2, Or.inr ⟨⟨(zat0 (by decide)).symm, (zat0 (by decide)).symm, fun c h1 h2 => (zat_code (by omega) (by omega)).symm⟩, a3⟩⟩
  · have h6 : α 0 3 = 6 := by omega
    refine ⟨-4, σc, σm, α, ?_, ?_, hW, hC, hM, Or.inl ⟨rfl, rfl⟩⟩
    · unfold f_X8_trial
      rw [hC.trials, h6, if_neg (by decide)]
    · unfold f_X9_trial
      rw [hM.trials, h6, if_pos (by decide)]
