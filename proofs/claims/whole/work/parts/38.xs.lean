/-! ===== calls that ask the chart: excess, sum, without ===== -/
theorem zka_eq {α : AS} (hW : WF α) {p u k : Nat → Nat} (hp : ∀ s, p s ≤ 4) (h : ∀ s, s < 4 → (if s < α 0 2 ∧ α 6 s = 1 then p s else 4) = (if s < α 0 2 ∧ u s = 1 then k s else 4)) : zka α (zplc p) = zkap (α 0 2) u k (α 8) (α 9) (zr0 α) := by
  have hs0 := hW.1.2.2.1
  refine zkap_eq (fun i => ?_)
  by_cases hi : i < 4
  · rw [zdg_plc hp hi]; exact h i hi
  · rw [if_neg (by omega), if_neg (by omega)]
theorem zw_weighM {N : Nat} (hN : 50 < N) {α κ : AS} {σ : ZM} (hW : WF α) (hK : KW α κ) (hB : MB α κ σ) : ∃ σ', f_X9_settle N σ = some (zbI ((zEk α κ).isSome = true), σ') ∧ zag zWM σ σ' ∧ RM α σ' ∧ ∀ x, zEk α κ = some x → f_X9_excessOf N σ' = some (nI x.1, σ') ∧ f_X9_sumOf N σ' = some (lN x.2, σ') := by
  obtain ⟨s1, a1, a2, a3⟩ := zw_settleM hN hW hK hB
  refine ⟨s1, ?_, a2, hB.1.frM a2, fun x hx => ?_⟩
  · rw [a1]
    congr 2
    apply zbI_congr
    unfold zEk
    cases zrest α κ <;> simp
  · unfold zEk at hx
    cases hr : zrest α κ with
    | none => rw [hr] at hx; exact absurd hx (by simp)
    | some k =>
      rw [hr] at hx
      simp only [Option.map_some, Option.some.injEq] at hx
      have hm := (a3 k hr).1
      rw [← hx]
      exact ⟨zw_excessOf (by omega) hW (VW.it hW hK k) hm.1 hm.2.2.2, zw_sumOf (by omega) hW (VW.it hW hK k) hm.1 hm.2.2.2⟩
theorem zw_pickNow {N : Nat} (hN : 14 < N) {α : AS} {σ : ZM} (hW : WF α) (hC : RC α σ) : ∃ σ', f_X1_pickNow N σ = some ((), σ') ∧ zag [(32, none)] σ σ' ∧ ∀ s, s < 4 → σ'.1 32 s = nI (zkn α (zr0 α) 0 s) := by
  obtain ⟨m', s', e1, e2, e3, e4⟩ := zloopS (fun m (q : Int32 × ZM) => f_X1_pickNow_2 N m q.1 q.2)
    (fun i q => q.1 = nI i ∧ zag [(32, none)] σ q.2 ∧ ∀ s, s < i → q.2.1 32 s = nI (zkn α (zr0 α) 0 s)) 4 (by
    rintro m i ⟨x, s⟩ hi ⟨p1, p2, p3⟩
    simp only at p1 p2 p3
    subst p1
    have hcs : RC α s := hC.fr p2 (by decide +kernel) (by decide +kernel) (by decide +kernel) (by decide) (by decide)
    have hsd : ZSd α (zkn α (zr0 α)) 12 s := hcs.ca.sd hW.1.2.2.1 (Nat.le_refl _) hW.2.2.2.2.2.1.1 hW.2.2.2.2.2.1.2.1
    refine ⟨(nI (i + 1), zuI s 32 i (nI (zkn α (zr0 α) 0 i))), ?_, rfl, zag_t p2 (zag_all zag_uI), fun t ht => ?_⟩
    · show b_X1_pickNow_2 N (f_X1_pickNow_2 N m) (nI i) s = _
      unfold b_X1_pickNow_2
      rw [if_neg (by rw [show (4 : Int32) = nI 4 from rfl]; exact nI_ge hi (by decide)), zw_isSaid hsd hi]
      unfold zbd
      rw [Option.bind_some]
      try simp only
      by_cases h4 : zkn α (zr0 α) 0 i = 4
      · rw [zbI_f (fun q => q h4), if_pos rfl, h4]
        unfold f_X1_pickNow_36
        rw [zast_nI hi (by decide), Option.bind_some, Option.bind_some, nI_1]
        rfl
      · have hk : zkn α (zr0 α) 0 i = α 7 i := by
          unfold zkn at h4 ⊢
          rw [zkap0] at h4 ⊢
          split at h4
          · rw [if_pos (by assumption)]
          · exact absurd rfl h4
        rw [zbI_t h4, if_neg (by decide), zald_nI hi (by decide), Option.bind_some, (hcs.ca.2 i hi).1, hk]
        unfold f_X1_pickNow_36
        rw [zast_nI hi (by decide), Option.bind_some, Option.bind_some, nI_1]
    · show (zuI s 32 i (nI (zkn α (zr0 α) 0 i))).1 32 t = _
      by_cases e : t = i
      · subst e; rw [zuI_s]
      · rw [zuI_n (fun q => e q.2)]; exact p3 t (by omega)) N 0 (0, σ) (by omega) (by omega) ⟨rfl, zag_r, fun n hn => absurd hn (Nat.not_lt_zero n)⟩
  obtain ⟨x, s⟩ := s'
  simp only at e1 e2 e3 e4
  subst e2
  refine ⟨s, ?_, e3, e4⟩
  unfold f_X1_pickNow
  have e1 : f_X1_pickNow_2 N N 0 σ = f_X1_pickNow_2 N (m' + 1) (nI 4) s := e1
  rw [e1]
  rfl
abbrev zWY : List (Nat × Option Nat) := [(17, none), (18, none), (19, none), (20, none), (21, none), (22, none), (23, none), (24, none), (25, none), (26, none), (27, none), (28, none), (29, none), (30, none), (31, none), (32, none), (33, none), (34, none), (35, none), (36, none), (37, none)]
theorem zag_none {W W' : List (Nat × Option Nat)} {σ σ' : ZM} (h : zag W σ σ') (g : ∀ e ∈ W, (e.1, none) ∈ W') : zag W' σ σ' := fun k i h1 h2 => h k i (fun q => h1 (g _ q)) (fun q => h1 (g _ q))
theorem zag_WC {σ σ' : ZM} (h : zag zWC σ σ') : zag zWY σ σ' := zag_none h (by decide)
/-- a call that asks the chart -/
def zQch {R : Type} (f g : ZM → Option (R × ZM)) : Prop := ∀ (α : AS) (σc σm : ZM), WF α → RC α σc → RM α σm → ChOK α σc → ∃ (r : R) (σc1 σm1 : ZM), f σc = some (r, σc1) ∧ g σm = some (r, σm1) ∧ RC α σc1 ∧ RM α σm1 ∧ ChOK α σc1 ∧ zag zWY σc σc1
theorem ChOK.mv {α : AS} {σ σ' : ZM} (h : ChOK α σ) (g : zag [(17, none), (18, none), (19, none), (20, none), (21, none), (22, none), (24, none), (25, none), (26, none), (27, none), (28, none), (29, none), (32, none)] σ σ') : ChOK α σ' := by
  rcases h with q | q
  · exact Or.inl (by rw [(g 23 14 (by decide) (by decide)).1]; exact q)
  · exact Or.inr (q.mv g)
theorem zkn_le {α ρ : AS} (hW : WF α) (s : Nat) : zkn α (ρ 0) 0 s ≤ 4 := by
  unfold zkn; rw [zkap0]
  have := hW.2.2.2.2.2.1.2.1 s
  split <;> omega
theorem zka_now {α : AS} (hW : WF α) : zka α (zplc (zkn α (zr0 α) 0)) = zkn α (zr0 α) := by
  refine zka_eq hW (fun s => zkn_le (ρ := fun _ => zr0 α) hW s) (fun s hs => ?_)
  unfold zkn
  rw [zkap0]
  split
  · rfl
  · rfl
theorem zw_pickMeasure {N : Nat} (hN : 700 < N) {α : AS} {σ : ZM} (hW : WF α) (hC : RC α σ) (hF : ChOK α σ) : ∃ s1 s2 a, f_X1_pickNow N σ = some ((), s1) ∧ f_X1_measure N s1 = some (nI a, s2) ∧ a < 625 ∧ zEv α a = zEk α (zkn α (zr0 α)) ∧ RC α s2 ∧ zFr α s2 ∧ ZRt α a s2 ∧ zag zWY σ s2 := by
  obtain ⟨s1, a1, a2, a3⟩ := zw_pickNow (N := N) (by omega) hW hC
  have hle : ∀ s, zkn α (zr0 α) 0 s ≤ 4 := fun s => zkn_le (ρ := fun _ => zr0 α) hW s
  have hc1 : RC α s1 := hC.fr a2 (by decide +kernel) (by decide +kernel) (by decide +kernel) (by decide) (by decide)
  obtain ⟨s2, b1, b2, b3, b4, b5, -⟩ := zw_measure hN hW hc1 (hF.mv (zag_w (by simp) a2)) (zplc_lt hle) (PK.of hle a3)
  exact ⟨s1, s2, _, a1, b1, zplc_lt hle, by unfold zEv; rw [zka_now hW], b3, b4, b5, zag_t (zag_w (by simp) a2) (zag_WC b2)⟩
theorem zw_state {N : Nat} {α : AS} (hW : WF α) {κ : AS} {a : Nat} {σ : ZM} (hz : ZRt α a σ) (he : zEv α a = zEk α κ) : f_X8_stateIfNone N (σ.1 30 a) σ = some ((match zEk α κ with | none => (-3 : Int32) | some x => nI x.1), σ) := by
  unfold f_X8_stateIfNone
  cases hx : zEk α κ with
  | none => rw [hz.getn (he.trans hx), if_pos rfl]
  | some x =>
    have := zEv_le hW hx
    rw [(hz.gets (he.trans hx)).1, if_neg (nI_m9 (by omega))]
theorem qu_excess {N : Nat} (hN : 700 < N) : zQch (f_X8_excess N) (f_X9_excess N) := by
  intro α σc σm hW hC hM hF
  obtain ⟨s1, s2, a, a1, a2, a3, a4, a5, a6, a7, a8⟩ := zw_pickMeasure hN hW hC hF
  obtain ⟨t1, b1, b2, b3, b4, b5⟩ := zw_askNow (N := N) (by omega) hW hM
  have hms : MS α (zkn α (zr0 α)) t1 := b4.ms hW.1.2.2.1 (Nat.le_refl _) hW.2.2.2.2.2.1.1 hW.2.2.2.2.2.1.2.1
  obtain ⟨t2, c1, c2, c3, c4⟩ := zw_weighM (N := N) (by omega) hW (zkn_KW (ρ := zr0 α) hW (fun n => zlr_le _)) (⟨b3, hms, b5⟩ : MB α (zkn α (zr0 α)) t1)
  refine ⟨(match zEk α (zkn α (zr0 α)) with | none => (-3 : Int32) | some x => nI x.1), s2, t2, ?_, ?_, a5, c3, Or.inr a6, a8⟩
  · unfold f_X8_excess
    rw [a1]
    unfold zbd
    rw [Option.bind_some]
    try simp only
    rw [a2, Option.bind_some]
    try simp only
    rw [zald_nI a3 (by decide), Option.bind_some, zw_state hW a7 a4]
    rfl
  · unfold f_X9_excess f_X9_settleNow
    rw [b1]
    unfold zbd
    rw [Option.bind_some]
    try simp only
    rw [c1, Option.bind_some]
    try simp only
    rw [zrz_b, Option.bind_some]
    try simp only
    cases hx : zEk α (zkn α (zr0 α)) with
    | none => rw [zbI_f (by simp), if_pos rfl]
    | some x => rw [zbI_t (by simp), if_neg (by decide), (c4 x hx).1]; rfl
theorem qu_sum {N : Nat} (hN : 700 < N) : zQch (f_X8_sum N) (f_X9_sum N) := by
  intro α σc σm hW hC hM hF
  obtain ⟨s1, s2, a, a1, a2, a3, a4, a5, a6, a7, a8⟩ := zw_pickMeasure hN hW hC hF
  obtain ⟨t1, b1, b2, b3, b4, b5⟩ := zw_askNow (N := N) (by omega) hW hM
  have hms : MS α (zkn α (zr0 α)) t1 := b4.ms hW.1.2.2.1 (Nat.le_refl _) hW.2.2.2.2.2.1.1 hW.2.2.2.2.2.1.2.1
  obtain ⟨t2, c1, c2, c3, c4⟩ := zw_weighM (N := N) (by omega) hW (zkn_KW (ρ := zr0 α) hW (fun n => zlr_le _)) (⟨b3, hms, b5⟩ : MB α (zkn α (zr0 α)) t1)
  refine ⟨(match zEk α (zkn α (zr0 α)) with | none => (-3 : Int64) | some x => lN x.2), s2, t2, ?_, ?_, a5, c3, Or.inr a6, a8⟩
  · unfold f_X8_sum
    rw [a1]
    unfold zbd
    rw [Option.bind_some]
    try simp only
    rw [a2, Option.bind_some]
    try simp only
    rw [zald_nI a3 (by decide), Option.bind_some, zald_nI a3 (by decide), Option.bind_some]
    cases hx : zEk α (zkn α (zr0 α)) with
    | none => rw [a7.getn (a4.trans hx), if_pos rfl]
    | some x =>
      have := zEv_le hW hx
      rw [(a7.gets (a4.trans hx)).1, if_neg (nI_m9 (by omega)), (a7.gets (a4.trans hx)).2, nI_i2l (by omega)]
  · unfold f_X9_sum f_X9_settleNow
    rw [b1]
    unfold zbd
    rw [Option.bind_some]
    try simp only
    rw [c1, Option.bind_some]
    try simp only
    rw [zrz_b, Option.bind_some]
    try simp only
    cases hx : zEk α (zkn α (zr0 α)) with
    | none => rw [zbI_f (by simp), if_pos rfl]
    | some x => rw [zbI_t (by simp), if_neg (by decide), (c4 x hx).2]; rfl
theorem qu_without {N : Nat} (hN : 700 < N) (x : Int32) : zQch (f_X8_without N x) (f_X9_without N x) := by
  intro α σc σm hW hC hM hF
  have hs0 := hW.1.2.2.1
  have hle : ∀ s, zkn α (zr0 α) 0 s ≤ 4 := fun s => zkn_le (ρ := fun _ => zr0 α) hW s
  unfold f_X8_without f_X9_without
  rw [zw_hasW N 12 x σc hC.sites (by omega), zw_isSite N x σm hM.sites (by omega)]
  unfold zbd
  rw [Option.bind_some, Option.bind_some]
  try simp only
  by_cases hx : 0 ≤ x.toInt ∧ x.toInt < α 0 2
  · obtain ⟨s, hs, rfl, -⟩ := zof hx
    have hs4 : s < 4 := by omega
    rw [zbI_t hx, if_neg (by decide), if_neg (by decide), zald_nI hs4 (by decide), Option.bind_some, (hC.ca.2 s hs4).2.2.2, hM.ups hs4, Option.bind_some]
    rcases (show α 6 s = 0 ∨ α 6 s = 1 by have := hW.2.2.2.2.2.1.1 s; omega) with hu | hu
    · rw [hu, if_pos (show nI 0 = 0 from rfl), if_pos (show nI 0 = 0 from rfl)]
      exact ⟨-3, σc, σm, rfl, rfl, hC, hM, hF, zag_r⟩
    · rw [hu, if_neg (show ¬ nI 1 = 0 by decide), if_neg (show ¬ nI 1 = 0 by decide)]
      obtain ⟨s1, a1, a2, a3⟩ := zw_pickNow (N := N) (by omega) hW hC
      have hc1 : RC α s1 := hC.fr a2 (by decide +kernel) (by decide +kernel) (by decide +kernel) (by decide) (by decide)
      have hc2 : RC α (zuI s1 32 s 4) := hc1.fr (W := [(32, none)]) (zag_all zag_uI) (by decide +kernel) (by decide +kernel) (by decide +kernel) (by decide) (by decide)
      have hf2 : ChOK α (zuI s1 32 s 4) := (hF.mv (zag_w (by simp) a2)).mv (zag_w (W1 := [(32, none)]) (by simp) (zag_all zag_uI))
      have hp : ∀ t, (fun t => if t = s then 4 else zkn α (zr0 α) 0 t) t ≤ 4 := fun t => by
        have := hle t
        show (if t = s then 4 else zkn α (zr0 α) 0 t) ≤ 4
        split <;> omega
      obtain ⟨s2, b1, b2, b3, b4, b5, -⟩ := zw_measure hN hW hc2 hf2 (zplc_lt hp) (PK.of hp (fun t ht => by
        show _ = nI (if t = s then 4 else zkn α (zr0 α) 0 t)
        by_cases e : t = s
        · subst e; rw [zuI_s, if_pos rfl]; rfl
        · rw [zuI_n (fun q => e q.2), if_neg e]; exact a3 t ht))
      have hkq : zka α (zplc (fun t => if t = s then 4 else zkn α (zr0 α) 0 t)) = zkap (α 0 2) (fun t => if t = s then 0 else α 6 t) (α 7) (α 8) (α 9) (zr0 α) := by
        refine zka_eq hW hp (fun t ht => ?_)
        by_cases e : t = s
        · subst e
          simp
        · simp only [if_neg e]
          unfold zkn
          rw [zkap0]
          split
          · rfl
          · rfl
      obtain ⟨t1, c1, c2, c3, c4, c5⟩ := zw_askNow (N := N) (by omega) hW hM
      have a6 : zag zWA t1 (zuI t1 15 s 0) := zag_w (W1 := [(15, none)]) (by simp) (zag_all zag_uI)
      have ma : MA (α 0 2) (fun t => if t = s then 0 else α 6 t) (α 7) (α 8) (α 9) (zuI t1 15 s 0) := by
        refine ⟨by rw [zuI_n (by simp)]; exact c4.1, fun t ht => ?_⟩
        obtain ⟨q1, q2, q3, q4⟩ := c4.2 t ht
        rw [zuI_n (by simp), zuI_n (by simp), zuI_n (by simp)]
        refine ⟨q1, q2, q3, ?_⟩
        show _ = nI (if t = s then 0 else α 6 t)
        by_cases e : t = s
        · subst e; rw [zuI_s, if_pos rfl]; rfl
        · rw [zuI_n (fun q => e q.2), if_neg e]; exact q4
      have hu1 : ∀ t, (fun t => if t = s then 0 else α 6 t) t ≤ 1 := fun t => by
        have := hW.2.2.2.2.2.1.1 t
        show (if t = s then 0 else α 6 t) ≤ 1
        split <;> omega
      have hK : KW α (zkap (α 0 2) (fun t => if t = s then 0 else α 6 t) (α 7) (α 8) (α 9) (zr0 α)) := KW.mk hW (Nat.le_refl _) hW.2.2.2.2.2.1.2.1 hW.2.2.2.2.2.1.2.2.1 hW.2.2.2.2.2.1.2.2.2.1 (fun n => zlr_le _)
      obtain ⟨t2, d1, d2, d3, d4⟩ := zw_weighM (N := N) (by omega) hW hK (⟨c3.frA a6, ma.ms hs0 (Nat.le_refl _) hu1 hW.2.2.2.2.2.1.2.1, fun n hn => by rw [zuI_n (by simp)]; exact c5 n hn⟩ : MB α _ (zuI t1 15 s 0))
      have hE : zEv α (zplc (fun t => if t = s then 4 else zkn α (zr0 α) 0 t)) = zEk α (zkap (α 0 2) (fun t => if t = s then 0 else α 6 t) (α 7) (α 8) (α 9) (zr0 α)) := by unfold zEv; rw [hkq]
      refine ⟨(match zEk α (zkap (α 0 2) (fun t => if t = s then 0 else α 6 t) (α 7) (α 8) (α 9) (zr0 α)) with | none => (-3 : Int32) | some x => nI x.1), s2, t2, ?_, ?_, b3, d3, Or.inr b4, ?_⟩
      · rw [a1, Option.bind_some]
        try simp only
        rw [zast_nI hs4 (by decide), Option.bind_some, b1, Option.bind_some]
        try simp only
        rw [zald_nI (zplc_lt hp) (by decide), Option.bind_some, zw_state hW b5 hE]
        rfl
      · rw [c1, Option.bind_some]
        try simp only
        rw [zasZ_nI hs4 (by decide) (Or.inl rfl), Option.bind_some, d1, Option.bind_some]
        try simp only
        cases hq : zEk α (zkap (α 0 2) (fun t => if t = s then 0 else α 6 t) (α 7) (α 8) (α 9) (zr0 α)) with
        | none => rw [zbI_f (by simp), if_pos rfl]
        | some y => rw [zbI_t (by simp), if_neg (by decide), (d4 y hq).1]; rfl
      · exact zag_t (zag_w (by simp) a2) (zag_t (zag_w (W1 := [(32, none)]) (by simp) (zag_all zag_uI)) (zag_WC b2))
  · rw [zbI_f hx, if_pos rfl, if_pos rfl]
    exact ⟨-1, σc, σm, rfl, rfl, hC, hM, hF, zag_r⟩
