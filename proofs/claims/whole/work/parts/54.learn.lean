/-! ===== could, quarrel, learn ===== -/
def zcb2 (α : AS) (n c : Nat) : Nat := match zrest α (zkn α (zcr α c)) with
  | none => 16
  | some k => if zsn (zit α (zkn α (zcr α c)) k n) = 5 then 16 else 2 ^ zsn (zit α (zkn α (zcr α c)) k n)
theorem zcb2_lt {α : AS} (hW : WF α) (n c : Nat) : zcb2 α n c < 2 ^ 5 := by
  unfold zcb2
  cases hr : zrest α (zkn α (zcr α c)) with
  | none => exact (show (16 : Nat) < 2 ^ 5 by decide)
  | some k =>
    have hV := VW.it (κ := zkn α (zcr α c)) hW (zkn_KW hW (zcr_le α c)) k
    have hz := zsn_le hV n
    show (if zsn (zit α (zkn α (zcr α c)) k n) = 5 then 16 else 2 ^ zsn (zit α (zkn α (zcr α c)) k n)) < 2 ^ 5
    split
    · decide
    · exact Nat.pow_lt_pow_right (by decide) (by omega)
theorem zw_comesAny {N : Nat} {n : Nat} (hn : n < 10) (σ : ZM) : ∃ r, f_X2_comesTo N (nI n) σ = some (r, σ) := by
  unfold f_X2_comesTo f_X2_siteOf
  rw [zalJ_nI hn (by decide), Option.bind_some]
  by_cases h : lg_cmp (σ.2 19 n) 0 = 0
  · exact ⟨-9, by rw [if_pos h]⟩
  · refine ⟨(Int64.toInt32 ((zsrlJ (σ.2 19 n) (40 : Int32)) &&& (15 : Int64))) - (1 : Int32), ?_⟩
    rw [if_neg h, Option.bind_some]
    rfl
theorem zw_sitesOf {N : Nat} (hN : 700 < N) {α : AS} {σ : ZM} (hW : WF α) (hC : RC α σ) (hS : Sif α σ) {n : Nat} (hn : n < α 0 0) : ∃ σ', f_X0_sitesOf N (nI n) σ = some (nI (zofd (zcb2 α n) (zLA α)), σ') ∧ zag zWQ σ σ' := by
  have hn0 := hW.1.1
  have hl := zLA_len α
  have hM := hS.1
  obtain ⟨m', s', e1, e2, e3, e4⟩ := zloopS (fun m (q : Int32 × Int32 × ZM) => f_X0_sitesOf_4 N m (nI n) q.1 q.2.1 q.2.2)
    (fun i q => q.1 = nI (zofd (zcb2 α n) ((zLA α).take i)) ∧ q.2.1 = nI i ∧ zag zWQ σ q.2.2) (zLA α).length (by
    rintro m i ⟨x, y, s⟩ hi ⟨p1, p2, p3⟩
    simp only at p1 p2 p3
    subst p1 p2
    have hcs : RC α s := hC.fr p3 (by decide +kernel) (by decide +kernel) (by decide +kernel) (by decide) (by decide)
    have hss := hS.mv p3
    have hg : (zLA α)[i]? = some (zLA α)[i] := List.getElem?_eq_getElem hi
    obtain ⟨c, hc⟩ : ∃ c, c = (zLA α)[i] := ⟨_, rfl⟩
    have hb : zofd (zcb2 α n) ((zLA α).take i) < 2 ^ 5 := zofd_lt _ 0 (by decide) (fun c _ => zcb2_lt hW n c)
    have hz := zcb2_lt hW n c
    obtain ⟨u1, a1, a2, a3⟩ := zw_takeRules (N := N) (by omega) hW hcs c
    have hc1 := hcs.fr18 a2
    have hK := zkn_KW (ρ := zcr α c) hW (zcr_le α c)
    obtain ⟨u2, b1, b2, b3, b4⟩ := zw_settleC (N := N) (by omega) (Or.inl rfl : zwc 12) hW hK hc1 (hc1.ca.sd hW.1.2.2.1 (Nat.le_refl _) hW.2.2.2.2.2.1.1 hW.2.2.2.2.2.1.2.1) a3
    have fin : ∀ v, v < 2 ^ 5 → f_X0_sitesOf_77 N (f_X0_sitesOf_4 N m) (nI n) (nI i) (nI v) (nI (zofd (zcb2 α n) ((zLA α).take i))) u2 = f_X0_sitesOf_4 N m (nI n) (nI (zofd (zcb2 α n) ((zLA α).take i) ||| v)) (nI (i + 1)) u2 := fun v hv => by
      unfold f_X0_sitesOf_77
      rw [Option.bind_some, Option.bind_some, nI_1, zorN (by omega) (by omega)]
    refine ⟨(nI (zofd (zcb2 α n) ((zLA α).take (i + 1))), nI (i + 1), u2), ?_, rfl, rfl, zag_t p3 (zag_t (zag_w (by simp) a2) (zag_w (by simp) b2))⟩
    show b_X0_sitesOf_4 N (f_X0_sitesOf_4 N m) (nI n) (nI (zofd (zcb2 α n) ((zLA α).take i))) (nI i) s = f_X0_sitesOf_4 N m (nI n) (nI (zofd (zcb2 α n) ((zLA α).take (i + 1)))) (nI (i + 1)) u2
    rw [zofd_take hi, ← hc, ← fin _ hz]
    unfold b_X0_sitesOf_4
    rw [hss.2.1, if_neg (nI_ge hi (by omega)), zald_nI (show i < 256 by omega) (by decide), Option.bind_some, hss.2.2.1 i _ hg, ← hc, a1]
    unfold zbd
    rw [Option.bind_some]
    try simp only
    rw [b1, Option.bind_some]
    try simp only
    unfold f_X0_sitesOf_43 f_X0_sitesOf_75
    cases hr : zrest α (zkn α (zcr α c)) with
    | none =>
      have ez : zcb2 α n c = 16 := by unfold zcb2; rw [hr]
      obtain ⟨r, er⟩ := zw_comesAny (N := N) (show n < 10 by omega) u2
      rw [if_pos (show zro none = -9 from rfl), er, ez]
      unfold zbd
      rw [Option.bind_some]
      try simp only
      rw [if_pos trivial]
      rfl
    | some k =>
      have hk := zrest_le hr
      have hcc := b4 k hr
      have hV := VW.it (κ := zkn α (zcr α c)) hW hK k
      have hzs := zsn_le hV n
      have ez : zcb2 α n c = if zsn (zit α (zkn α (zcr α c)) k n) = 5 then 16 else 2 ^ zsn (zit α (zkn α (zcr α c)) k n) := by unfold zcb2; rw [hr]
      rw [if_neg (zro_some (by omega)), zw_comesTo hV hcc.2.2.2 (show n < 10 by omega), ez]
      unfold zbd
      rw [Option.bind_some]
      try simp only
      rw [if_neg (by decide)]
      by_cases e : zsn (zit α (zkn α (zcr α c)) k n) = 5
      · rw [e, if_pos sI5, if_pos rfl]
        rfl
      · rw [if_neg (sI_m9 hzs.1 e), if_neg e, sI_nI e, zone (by omega)]) N 0 (0, 0, σ) (by omega) (by omega) ⟨rfl, rfl, zag_r⟩
  obtain ⟨x, y, s⟩ := s'
  simp only at e1 e2 e3 e4
  subst e2 e3
  refine ⟨s, ?_, e4⟩
  unfold f_X0_sitesOf
  have e1 : f_X0_sitesOf_4 N N (nI n) 0 0 σ = f_X0_sitesOf_4 N (m' + 1) (nI n) (nI (zofd (zcb2 α n) ((zLA α).take (zLA α).length))) (nI (zLA α).length) s := e1
  rw [e1, List.take_length]
  show b_X0_sitesOf_4 N (f_X0_sitesOf_4 N m') (nI n) _ (nI (zLA α).length) s = _
  unfold b_X0_sitesOf_4
  rw [(hS.mv e4).2.1, if_pos (nI_le (Nat.le_refl _) (by omega))]
theorem zw_couldM {N : Nat} (hN : 700 < N) {α : AS} {σ : ZM} (hW : WF α) (hM : RM α σ) (h256 : zMM α ≤ 256) (hA : Agd α (zMM α) σ) {n : Nat} (hn : n < α 0 0) : ∃ σ', f_X9_could_24 N N (nI n) 0 0 σ = some (nI (zofd (zcb2 α n) (zLA α)), σ') ∧ RM α σ' := by
  have hn0 := hW.1.1
  have hl := zLA_len α
  obtain ⟨m', s', e1, e2, e3, e4⟩ := zloopS (fun m (q : Int32 × Int32 × ZM) => f_X9_could_24 N m (nI n) q.1 q.2.1 q.2.2)
    (fun i q => q.1 = nI (zofd (zcb2 α n) ((zLA α).take i)) ∧ q.2.1 = nI i ∧ zag zWO σ q.2.2) (zLA α).length (by
    rintro m i ⟨x, y, s⟩ hi ⟨p1, p2, p3⟩
    simp only at p1 p2 p3
    subst p1 p2
    have hms := hM.frO p3
    have hg : (zLA α)[i]? = some (zLA α)[i] := List.getElem?_eq_getElem hi
    have hcl := (zLA_mem (List.getElem_mem hi)).1
    obtain ⟨c, hc⟩ : ∃ c, c = (zLA α)[i] := ⟨_, rfl⟩
    rw [← hc] at hcl
    have hb : zofd (zcb2 α n) ((zLA α).take i) < 2 ^ 5 := zofd_lt _ 0 (by decide) (fun c _ => zcb2_lt hW n c)
    have hz := zcb2_lt hW n c
    obtain ⟨u1, a1, a2, a3, a4, a5⟩ := zw_askNow (N := N) (by omega) hW hms
    have s40 : s.1 0 40 = nI (zLA α).length := by rw [(p3 0 40 (by decide) (by decide)).1]; exact hA.1
    have s34 : u1.1 34 i = nI c := by rw [(a2 34 i (by decide) (by simp)).1, (p3 34 i (by decide) (by simp)).1, hc]; exact hA.2 i _ hg
    obtain ⟨u2, b1, b2, b3, b4⟩ := zw_askCase (N := N) (by omega) hW a3 (c := c) (by omega)
    have ma : MA (α 0 2) (α 6) (α 7) (α 8) (α 9) u2 := by
      refine ⟨by rw [(b2 0 14 (by decide) (by decide)).1]; exact a4.1, fun t ht => ?_⟩
      rw [(b2 12 t (by decide) (by simp)).1, (b2 13 t (by decide) (by simp)).1, (b2 14 t (by decide) (by simp)).1, (b2 15 t (by decide) (by simp)).1]
      exact a4.2 t ht
    have hK := zkn_KW (ρ := zcr α c) hW (zcr_le α c)
    have mb : MB α (zkn α (zcr α c)) u2 := ⟨b3, ma.ms hW.1.2.2.1 (Nat.le_refl _) hW.2.2.2.2.2.1.1 hW.2.2.2.2.2.1.2.1, b4⟩
    obtain ⟨u3, d1, d2, d3⟩ := zw_settleM (N := N) (by omega) hW hK mb
    have fin : ∀ v, v < 2 ^ 5 → f_X9_could_82 N (f_X9_could_24 N m) (nI n) (nI i) (nI v) (nI (zofd (zcb2 α n) ((zLA α).take i))) u3 = f_X9_could_24 N m (nI n) (nI (zofd (zcb2 α n) ((zLA α).take i) ||| v)) (nI (i + 1)) u3 := fun v hv => by
      unfold f_X9_could_82
      rw [Option.bind_some, Option.bind_some, nI_1, zorN (by omega) (by omega)]
    refine ⟨(nI (zofd (zcb2 α n) ((zLA α).take (i + 1))), nI (i + 1), u3), ?_, rfl, rfl, zag_t p3 (zag_t (zag_w (by simp) a2) (zag_t (zag_w (by simp) b2) (zag_w (by simp) d2)))⟩
    show b_X9_could_24 N (f_X9_could_24 N m) (nI n) (nI (zofd (zcb2 α n) ((zLA α).take i))) (nI i) s = f_X9_could_24 N m (nI n) (nI (zofd (zcb2 α n) ((zLA α).take (i + 1)))) (nI (i + 1)) u3
    rw [zofd_take hi, ← hc, ← fin _ hz]
    unfold b_X9_could_24
    rw [s40, if_neg (nI_ge hi (by omega)), a1]
    unfold zbd
    rw [Option.bind_some]
    try simp only
    rw [zald_nI (show i < 256 by omega) (by decide), Option.bind_some, s34, b1, Option.bind_some]
    try simp only
    rw [d1, Option.bind_some]
    try simp only
    unfold f_X9_could_80
    cases hr : zrest α (zkn α (zcr α c)) with
    | none =>
      have ez : zcb2 α n c = 16 := by unfold zcb2; rw [hr]
      rw [zbI_f (by simp), if_pos rfl, ez]
      rfl
    | some k =>
      have hmc := (d3 k hr).1
      have hV := VW.it (κ := zkn α (zcr α c)) hW hK k
      have hzs := zsn_le hV n
      have ez : zcb2 α n c = if zsn (zit α (zkn α (zcr α c)) k n) = 5 then 16 else 2 ^ zsn (zit α (zkn α (zcr α c)) k n) := by unfold zcb2; rw [hr]
      rw [zbI_t (by simp), if_neg (by decide), zald_nI (show n < 10 by omega) (by decide), Option.bind_some, Option.bind_some, (hmc.2.2.2 n hn).site (fun x hx => (hV n x hx).2.1.1), ez]
      by_cases e : zsn (zit α (zkn α (zcr α c)) k n) = 5
      · rw [e, if_pos sI5, if_pos rfl]
        rfl
      · rw [if_neg (sI_m9 hzs.1 e), if_neg e, sI_nI e, zone (by omega)]) N 0 (0, 0, σ) (by omega) (by omega) ⟨rfl, rfl, zag_r⟩
  obtain ⟨x, y, s⟩ := s'
  simp only at e1 e2 e3 e4
  subst e2 e3
  refine ⟨s, ?_, hM.frO e4⟩
  have e1 : f_X9_could_24 N N (nI n) 0 0 σ = f_X9_could_24 N (m' + 1) (nI n) (nI (zofd (zcb2 α n) ((zLA α).take (zLA α).length))) (nI (zLA α).length) s := e1
  rw [e1, List.take_length]
  show b_X9_could_24 N (f_X9_could_24 N m') (nI n) _ (nI (zLA α).length) s = _
  unfold b_X9_could_24
  rw [(e4 0 40 (by decide) (by decide)).1, show σ.1 0 40 = nI (zLA α).length from hA.1, if_pos (nI_le (Nat.le_refl _) (by omega))]
theorem CaOK.frQ {α : AS} {σ σ' : ZM} (h : CaOK α σ) (g : zag zWQ σ σ') : CaOK α σ' := h.mv (fun i => (g 38 i (by decide) (by simp)).1) (fun i => (g 45 i (by decide) (by simp)).1)
theorem qu_could {N : Nat} (hN : 700 < N) (x : Int32) : zQca (f_X8_could N x) (f_X9_could N x) := by
  intro α σc σm hW hC hM hK
  have hn0 := hW.1.1
  unfold f_X8_could f_X9_could
  rw [zw_has N x σc hC.nets hn0, zw_isNet N x σm hM.nets hn0]
  unfold zbd
  rw [Option.bind_some, Option.bind_some]
  try simp only
  by_cases hx : 0 ≤ x.toInt ∧ x.toInt < α 0 0
  · obtain ⟨n, hn, rfl, -⟩ := zof hx
    obtain ⟨t1, b1, b2, b3⟩ := zw_layAgreed hN hW hM
    rw [zbI_t hx, if_neg (by decide), if_neg (by decide), b1]
    rcases zw_sift hN hW hC hK with ⟨h1, h2⟩ | ⟨h1, s1, a1, a2, a3, a4, a5, a6⟩
    · rw [h2, zbI_f (by omega)]
      exact ⟨-5, σc, t1, rfl, rfl, hC, b2, hK, zag_r⟩
    · obtain ⟨s2, c1, c2⟩ := zw_sitesOf hN hW a2 a4 hn
      obtain ⟨t2, d1, d2⟩ := zw_couldM hN hW b2 h1 (b3 h1) hn
      rw [a1, zbI_t h1]
      refine ⟨nI (zofd (zcb2 α n) (zLA α)), s2, t2, ?_, ?_, a2.fr c2 (by decide +kernel) (by decide +kernel) (by decide +kernel) (by decide) (by decide), d2, a5.frQ c2, zag_t (zag_WT a6) (zag_WQZ c2)⟩
      · rw [Option.bind_some]
        try simp only
        rw [if_neg (by decide), c1]
        rfl
      · rw [Option.bind_some]
        try simp only
        rw [if_neg (by decide)]
        exact d1
  · rw [zbI_f hx, if_pos rfl, if_pos rfl]
    exact ⟨-1, σc, σm, rfl, rfl, hC, hM, hK, zag_r⟩
/-! quarrel -/
theorem zmax_m9 {t : Nat} (h : t < 2 ^ 31) : zmax (-9) (nI t) = nI t := by
  unfold zmax
  rw [if_pos]
  rw [Int32.lt_iff_toInt_lt, nI_toInt h]
  show (-9 : Int) < t
  omega
/-- where no case agrees, the latest first quarrel -/
theorem zqm_max {α : AS} (hW : WF α) : ∀ k, 0 < k → (∀ c, c < k → zfq α c ≠ none) → ∃ t, zqm α k = nI t ∧ t < α 0 3 ∧ (∃ c, c < k ∧ zfq α c = some t) ∧ ∀ c u, c < k → zfq α c = some u → u ≤ t
  | 0, h, _ => absurd h (Nat.lt_irrefl 0)
  | k + 1, _, h => by
    have h36 := hW.1.2.2.2
    obtain ⟨u, hu⟩ : ∃ u, zfq α k = some u := by
      cases hz : zfq α k with
      | none => exact absurd hz (h k (by omega))
      | some u => exact ⟨u, rfl⟩
    have hu3 : u < α 0 3 := by have := (zfi_some _ _ _ hu).2.1; omega
    have eq : zqm α (k + 1) = zmax (zqm α k) (nI u) := by
      show zmax (zqm α k) (zfr (zfq α k)) = _
      rw [hu]; rfl
    by_cases hk : k = 0
    · subst hk
      refine ⟨u, ?_, hu3, ⟨0, by omega, hu⟩, fun c v hc hv => ?_⟩
      · rw [eq]; exact zmax_m9 (by omega)
      · have : c = 0 := by omega
        subst this
        rw [hu] at hv
        cases hv
        exact Nat.le_refl _
    · obtain ⟨t, q1, q2, q3, q4⟩ := zqm_max hW k (by omega) (fun c hc => h c (by omega))
      rw [q1, zmaxN (by omega) (by omega)] at eq
      refine ⟨if t < u then u else t, eq, by split <;> omega, ?_, fun c v hc hv => ?_⟩
      · by_cases e : t < u
        · rw [if_pos e]; exact ⟨k, by omega, hu⟩
        · rw [if_neg e]
          obtain ⟨c, c1, c2⟩ := q3
          exact ⟨c, by omega, c2⟩
      · by_cases e : c = k
        · subst e
          rw [hu] at hv
          cases hv
          split <;> omega
        · have := q4 c v (by omega) hv
          split <;> omega
theorem zfi_pre {P : Nat → Bool} {a b : Nat} (hab : a ≤ b) (h : zfi P 0 b = none) : zfi P 0 a = none := (zfi_none a 0).mpr (fun n h1 h2 => (zfi_none b 0).mp h n h1 (by omega))
theorem zfi_cut {P : Nat → Bool} {a b t : Nat} (h : zfi P 0 b = some t) : zfi P 0 a = none ↔ a ≤ t := by
  obtain ⟨_, q2, q3, q4⟩ := zfi_some _ _ _ h
  constructor
  · intro q
    by_cases r : a ≤ t
    · exact r
    · have := (zfi_none a 0).mp q t (by omega) (by omega)
      rw [this] at q3; cases q3
  · intro r
    exact (zfi_none a 0).mpr (fun n h1 h2 => q4 n h1 (by omega))
theorem zw_quarrel30 {N : Nat} (hN : 700 < N) {α : AS} (hW : WF α) (h256 : zMM α ≤ 256) {t : Nat} (ht : t < α 0 3) {rcx : Int32 → Int32 → ZM → Option (Int32 × ZM)} : ∀ (k m c : Nat) (σ : ZM), c + k = zMM α → k < m → RM α σ → (∀ d, d < c → zfi (zbad α (zcr α d)) 0 (t + 1) ≠ none) → ∃ σ', RM α σ' ∧ (((∃ d, d < zMM α ∧ zfi (zbad α (zcr α d)) 0 (t + 1) = none) ∧ f_X9_quarrel_30 N rcx m (nI (zMM α)) (nI t) 0 (nI c) σ = rcx (nI (zMM α)) (nI (t + 1)) σ') ∨ ((∀ d, d < zMM α → zfi (zbad α (zcr α d)) 0 (t + 1) ≠ none) ∧ f_X9_quarrel_30 N rcx m (nI (zMM α)) (nI t) 0 (nI c) σ = some (nI t, σ')))
  | 0, m, c, σ, h1, h2, hM, hd => by
    obtain ⟨m, rfl⟩ : ∃ q, m = q + 1 := ⟨m - 1, by omega⟩
    have e : c = zMM α := by omega
    subst e
    refine ⟨σ, hM, Or.inr ⟨hd, ?_⟩⟩
    show b_X9_quarrel_30 N rcx (f_X9_quarrel_30 N rcx m) (nI (zMM α)) (nI t) 0 (nI (zMM α)) σ = _
    unfold b_X9_quarrel_30 f_X9_quarrel_56
    rw [if_pos (nI_le (Nat.le_refl _) (by omega)), if_pos rfl]
  | k + 1, m, c, σ, h1, h2, hM, hd => by
    have h36 := hW.1.2.2.2
    obtain ⟨m, rfl⟩ : ∃ q, m = q + 1 := ⟨m - 1, by omega⟩
    obtain ⟨s1, a1, a2⟩ := zw_agrees (N := N) (by omega) hW hM (c := c) (f := t + 1) (by omega) (by omega)
    have hm1 := hM.frO a2
    have pre : f_X9_quarrel_30 N rcx (m + 1) (nI (zMM α)) (nI t) 0 (nI c) σ = f_X9_quarrel_30 N rcx m (nI (zMM α)) (nI t) (zbI (zfi (zbad α (zcr α c)) 0 (t + 1) = none)) (nI (c + 1)) s1 := by
      show b_X9_quarrel_30 N rcx (f_X9_quarrel_30 N rcx m) (nI (zMM α)) (nI t) 0 (nI c) σ = _
      unfold b_X9_quarrel_30
      rw [if_neg (nI_ge (by omega) (by omega)), if_pos rfl, nI_1, a1]
      unfold zbd
      rw [Option.bind_some]
      try simp only
      rw [Option.bind_some, nI_1]
    rw [pre]
    by_cases hq : zfi (zbad α (zcr α c)) 0 (t + 1) = none
    · refine ⟨s1, hm1, Or.inl ⟨⟨c, by omega, hq⟩, ?_⟩⟩
      obtain ⟨m, rfl⟩ : ∃ q, m = q + 1 := ⟨m - 1, by omega⟩
      rw [zbI_t hq]
      show b_X9_quarrel_30 N rcx (f_X9_quarrel_30 N rcx m) (nI (zMM α)) (nI t) 1 (nI (c + 1)) s1 = _
      unfold b_X9_quarrel_30 f_X9_quarrel_56
      have o : ¬ (1 : Int32) = 0 := by decide
      rw [if_neg o, if_neg o, Option.bind_some, nI_1, ite_self]
    · rw [zbI_f hq]
      exact zw_quarrel30 hN hW h256 ht k m (c + 1) s1 (by omega) (by omega) hm1 (fun d hd2 => by
        by_cases e : d = c
        · subst e; exact hq
        · exact hd d (by omega))
theorem zw_quarrel17 {N : Nat} (hN : 700 < N) {α : AS} (hW : WF α) (h256 : zMM α ≤ 256) : ∀ (k m t : Nat) (σ : ZM), t + k = α 0 3 → k < m → RM α σ → (∀ u, u < t → ∃ d, d < zMM α ∧ zfi (zbad α (zcr α d)) 0 (u + 1) = none) → ∃ σ', f_X9_quarrel_17 N m (nI (zMM α)) (nI t) σ = some (zqa α, σ') ∧ RM α σ'
  | 0, m, t, σ, h1, h2, hM, hu => by
    have h36 := hW.1.2.2.2
    obtain ⟨m, rfl⟩ : ∃ q, m = q + 1 := ⟨m - 1, by omega⟩
    have e : t = α 0 3 := by omega
    subst e
    refine ⟨σ, ?_, hM⟩
    have hz : zqa α = -9 := by
      unfold zqa
      by_cases e : (zLA α).length = 0
      · exfalso
        have hno : ∀ c, c < zMM α → zfq α c ≠ none := fun c hc q => by
          have : c ∈ zLA α := (zls_mem _).mpr ⟨hc, decide_eq_true q⟩
          rw [List.length_eq_zero_iff.mp e] at this
          exact absurd this (List.not_mem_nil)
        obtain ⟨t, q1, q2, q3, q4⟩ := zqm_max hW (zMM α) (zMM_pos hW) hno
        obtain ⟨d, d1, d2⟩ := hu t q2
        obtain ⟨v, hv⟩ : ∃ v, zfq α d = some v := by
          cases hz : zfq α d with
          | none => exact absurd hz (hno d d1)
          | some v => exact ⟨v, rfl⟩
        have := q4 d v d1 hv
        have h3 := (zfi_cut hv).mp d2
        omega
      · rw [if_neg e]
    show b_X9_quarrel_17 N (f_X9_quarrel_17 N m) (nI (zMM α)) (nI (α 0 3)) σ = _
    unfold b_X9_quarrel_17
    rw [hM.trials, if_pos (zle_self (by omega)), hz]
  | k + 1, m, t, σ, h1, h2, hM, hu => by
    have h36 := hW.1.2.2.2
    obtain ⟨m, rfl⟩ : ∃ q, m = q + 1 := ⟨m - 1, by omega⟩
    have pre : f_X9_quarrel_17 N (m + 1) (nI (zMM α)) (nI t) σ = f_X9_quarrel_30 N (f_X9_quarrel_17 N m) N (nI (zMM α)) (nI t) 0 (nI 0) σ := by
      show b_X9_quarrel_17 N (f_X9_quarrel_17 N m) (nI (zMM α)) (nI t) σ = _
      unfold b_X9_quarrel_17
      rw [hM.trials, if_neg (nI_ge (by omega) (by omega))]
      rfl
    rw [pre]
    obtain ⟨s1, a1, a2⟩ := zw_quarrel30 hN hW h256 (t := t) (by omega) (rcx := f_X9_quarrel_17 N m) (zMM α) N 0 σ (by omega) (by omega) hM (fun d hd => absurd hd (Nat.not_lt_zero d))
    rcases a2 with ⟨q1, q2⟩ | ⟨q1, q2⟩
    · rw [q2]
      exact zw_quarrel17 hN hW h256 k m (t + 1) s1 (by omega) (by omega) a1 (fun u hu2 => by
        by_cases e : u = t
        · subst e; exact q1
        · exact hu u (by omega))
    · refine ⟨s1, ?_, a1⟩
      rw [q2]
      have hno : ∀ c, c < zMM α → zfq α c ≠ none := fun c hc q => q1 c hc (zfi_pre (by omega) q)
      obtain ⟨v, r1, r2, r3, r4⟩ := zqm_max hW (zMM α) (zMM_pos hW) hno
      have hlen : (zLA α).length = 0 := by
        cases hL : zLA α with
        | nil => rfl
        | cons c l =>
          have : c ∈ zLA α := by rw [hL]; exact List.mem_cons_self
          have := zLA_mem this
          exact absurd (of_decide_eq_true this.2) (hno c this.1)
      have hz : zqa α = nI v := by unfold zqa; rw [if_pos hlen]; exact r1
      have hvt : v = t := by
        obtain ⟨c, c1, c2⟩ := r3
        have hle : v ≤ t := by
          by_cases q : v ≤ t
          · exact q
          · exact absurd ((zfi_cut c2).mpr (show t + 1 ≤ v by omega)) (q1 c c1)
        have hge : t ≤ v := by
          by_cases q : t ≤ v
          · exact q
          · obtain ⟨d, d1, d2⟩ := hu v (by omega)
            obtain ⟨x, hx⟩ : ∃ x, zfq α d = some x := by
              cases hz : zfq α d with
              | none => exact absurd hz (hno d d1)
              | some x => exact ⟨x, rfl⟩
            have := r4 d x d1 hx
            have h3 := (zfi_cut hx).mp d2
            omega
        omega
      rw [hz, hvt]
theorem qu_quarrel {N : Nat} (hN : 700 < N) : zQca (f_X8_quarrel N) (f_X9_quarrel N) := by
  intro α σc σm hW hC hM hK
  obtain ⟨cm, c1, c2, c3⟩ := zw_caseMany (N := N) (by omega) hW hM
  have c3 : cm = zMM α ∨ (256 < cm ∧ 256 < zMM α) := c3
  unfold f_X8_quarrel f_X9_quarrel
  rw [c1]
  rcases zw_sift hN hW hC hK with ⟨h1, h2⟩ | ⟨h1, s1, a1, a2, a3, a4, a5, a6⟩
  · rw [h2]
    refine ⟨-5, σc, σm, rfl, ?_, hC, hM, hK, zag_r⟩
    unfold zbd
    rw [Option.bind_some]
    try simp only
    rw [if_neg (show ¬ nI cm ≤ (256 : Int32) from nI_ge (show 256 < cm by omega) (by omega))]
  · have ec : cm = zMM α := by omega
    subst ec
    obtain ⟨t1, d1, d2⟩ := zw_quarrel17 hN hW h1 (α 0 3) N 0 σm (by omega) (by have := hW.1.2.2.2; omega) hM (fun u hu => absurd hu (Nat.not_lt_zero u))
    rw [a1]
    refine ⟨zqa α, s1, t1, ?_, ?_, a2, d2, a5, zag_WT a6⟩
    · unfold zbd
      rw [Option.bind_some]
      try simp only
      rw [if_neg (by decide), a4.2.2.2]
    · unfold zbd
      rw [Option.bind_some]
      try simp only
      rw [if_pos (show nI (zMM α) ≤ (256 : Int32) from nI_le (b := 256) h1 (by decide))]
      exact d1
/-! learn -/
def zln (α : AS) (i : Nat) : AS := fun k j => if k = 3 ∧ j < i then zofd (fun c => 2 ^ zcr α c j) (zLA α) else α k j
theorem zln_0 (α : AS) : zln α 0 = α := by
  funext k j
  unfold zln
  rw [if_neg (fun q => Nat.not_lt_zero j q.2)]
theorem zln_s (α : AS) (i : Nat) : zln α (i + 1) = au (zln α i) 3 i (zofd (fun c => 2 ^ zcr α c i) (zLA α)) := by
  funext k j
  unfold zln au
  by_cases h : k = 3 ∧ j = i
  · rw [if_pos h, if_pos ⟨h.1, by omega⟩, h.2]
  · rw [if_neg h]
    show _ = if k = 3 ∧ j < i then zofd (fun c => 2 ^ zcr α c j) (zLA α) else α k j
    by_cases q : k = 3 ∧ j < i
    · rw [if_pos q, if_pos ⟨q.1, by omega⟩]
    · rw [if_neg q, if_neg (fun r => by
        have : j ≠ i := fun e => h ⟨r.1, e⟩
        exact q ⟨r.1, by omega⟩)]
theorem zln_c {α : AS} {i k : Nat} (h : k ≠ 3) : zln α i k = α k := by
  funext j
  unfold zln
  rw [if_neg (fun q => h q.1)]
theorem zofd_bit {f : Nat → Nat} {b : Nat} : ∀ (L : List Nat) (S : Nat), (L.foldl (fun S c => S ||| f c) S).testBit b = true ↔ S.testBit b = true ∨ ∃ c, c ∈ L ∧ (f c).testBit b = true
  | [], S => by simp
  | c :: t, S => by
    rw [List.foldl_cons, zofd_bit t (S ||| f c), Nat.testBit_or, Bool.or_eq_true]
    constructor
    · rintro ((h | h) | ⟨d, h1, h2⟩)
      · exact Or.inl h
      · exact Or.inr ⟨c, List.mem_cons_self, h⟩
      · exact Or.inr ⟨d, List.mem_cons_of_mem _ h1, h2⟩
    · rintro (h | ⟨d, h1, h2⟩)
      · exact Or.inl (Or.inl h)
      · rw [List.mem_cons] at h1
        rcases h1 with e | e
        · rw [e] at h2; exact Or.inl (Or.inr h2)
        · exact Or.inr ⟨d, e, h2⟩
theorem zcr_bit {α : AS} (hW : WF α) {c n : Nat} (hn : n < α 0 0) : (α 3 n).testBit (zcr α c n) = true := by
  have hg := hW.2.2.1 n hn
  have hb := zpc1 hW hn
  have hb4 := zpc_le (α 3 n)
  have hd : c / zpr α n % zpc (α 3 n) < zpc (α 3 n) := Nat.mod_lt _ hb
  exact zkbt (α 3 n) (by omega) hg.1 _ (by omega) hd
theorem zsubp : ∀ a, a < 16 → ∀ b, b < 16 → (a &&& b = a) → zpc a ≤ zpc b := by decide +kernel
theorem zlearn_le {α : AS} (hW : WF α) {n : Nat} (hn : n < α 0 0) (hL : (zLA α).length ≠ 0) : 1 ≤ zofd (fun c => 2 ^ zcr α c n) (zLA α) ∧ zofd (fun c => 2 ^ zcr α c n) (zLA α) ≤ 15 ∧ zpc (zofd (fun c => 2 ^ zcr α c n) (zLA α)) ≤ zpc (α 3 n) := by
  have hg := hW.2.2.1 n hn
  have hlt : zofd (fun c => 2 ^ zcr α c n) (zLA α) < 2 ^ 4 := zofd_lt _ 0 (by decide) (fun c _ => zp2z α c n)
  have bits := fun b => zofd_bit (f := fun c => 2 ^ zcr α c n) (b := b) (zLA α) 0
  have hpos : 1 ≤ zofd (fun c => 2 ^ zcr α c n) (zLA α) := by
    cases hl : zLA α with
    | nil => rw [hl] at hL; exact absurd rfl hL
    | cons c t =>
      rw [← hl]
      have : (zofd (fun c => 2 ^ zcr α c n) (zLA α)).testBit (zcr α c n) = true := (bits _).mpr (Or.inr ⟨c, by rw [hl]; exact List.mem_cons_self, by
        show (2 ^ zcr α c n).testBit (zcr α c n) = true
        rw [Nat.testBit_two_pow]; exact decide_eq_true rfl⟩)
      rcases Nat.eq_zero_or_pos (zofd (fun c => 2 ^ zcr α c n) (zLA α)) with q | q
      · rw [q, Nat.zero_testBit] at this; cases this
      · exact q
  refine ⟨hpos, by omega, zsubp _ (by omega) _ (by omega) ?_⟩
  apply Nat.eq_of_testBit_eq
  intro b
  rw [Nat.testBit_and]
  cases hb : (zofd (fun c => 2 ^ zcr α c n) (zLA α)).testBit b with
  | false => rfl
  | true =>
    rw [Bool.true_and]
    rcases (bits b).mp hb with q | ⟨c, c1, c2⟩
    · rw [Nat.zero_testBit] at q; cases q
    · have c2 : (2 ^ zcr α c n).testBit b = true := c2
      rw [Nat.testBit_two_pow] at c2
      have : zcr α c n = b := of_decide_eq_true c2
      rw [← this]
      exact zcr_bit hW hn
theorem zln_WF {α : AS} (hW : WF α) (hL : (zLA α).length ≠ 0) : ∀ i, i ≤ α 0 0 → WF (zln α i)
  | 0, _ => by rw [zln_0]; exact hW
  | i + 1, h => by
    rw [zln_s]
    have := zlearn_le hW (n := i) (by omega) hL
    exact (zln_WF hW hL i (by omega)).set3 ⟨this.1, this.2.1⟩
theorem zprod_le2 {f g : Nat → Nat} : ∀ n, (∀ i, i < n → f i ≤ g i) → zprod f n ≤ zprod g n
  | 0, _ => Nat.le_refl _
  | n + 1, h => Nat.mul_le_mul (zprod_le2 n (fun i hi => h i (by omega))) (h n (by omega))
theorem zln_MM {α : AS} (hW : WF α) (hL : (zLA α).length ≠ 0) : zMM (zln α (α 0 0)) ≤ zMM α := by
  have e0 : zln α (α 0 0) 0 0 = α 0 0 := by rw [zln_c (by decide)]
  unfold zMM zpr
  rw [e0]
  refine zprod_le2 _ (fun i hi => ?_)
  show zpc (zln α (α 0 0) 3 i) ≤ zpc (α 3 i)
  unfold zln
  rw [if_pos ⟨rfl, hi⟩]
  exact (zlearn_le hW hi hL).2.2
/-- a call that asks the cases, and may change what is guessed -/
def zQle {R : Type} (f g : ZM → Option (R × ZM)) : Prop := ∀ (α : AS) (σc σm : ZM), WF α → RC α σc → RM α σm → CaOK α σc → ∃ (r : R) (σc1 σm1 : ZM) (α1 : AS), f σc = some (r, σc1) ∧ g σm = some (r, σm1) ∧ WF α1 ∧ RC α1 σc1 ∧ RM α1 σm1 ∧ ((α1 = α ∧ CaOK α σc1 ∧ zag zWZ σc σc1) ∨ Stale σc1)
theorem qu_learn {N : Nat} (hN : 700 < N) : zQle (f_X8_learn N) (f_X9_learn N) := by
  intro α σc σm hW hC hM hK
  have hn0 := hW.1.1
  obtain ⟨t1, b1, b2, b3⟩ := zw_layAgreed hN hW hM
  unfold f_X8_learn f_X9_learn
  rw [b1]
  rcases zw_sift hN hW hC hK with ⟨h1, h2⟩ | ⟨h1, s1, a1, a2, a3, a4, a5, a6⟩
  · rw [h2, zbI_f (by omega)]
    exact ⟨-5, σc, t1, α, rfl, rfl, hW, hC, b2, Or.inl ⟨rfl, hK, zag_r⟩⟩
  · have hAg := b3 h1
    have hl := zLA_len α
    rw [a1, zbI_t h1]
    unfold zbd
    rw [Option.bind_some, Option.bind_some]
    try simp only
    rw [if_neg (show ¬ (1 : Int32) = 0 by decide), if_neg (show ¬ (1 : Int32) = 0 by decide), a4.2.1, show t1.1 0 40 = nI (zLA α).length from hAg.1]
    by_cases hL : (zLA α).length = 0
    · rw [hL, if_pos (show nI 0 = 0 from rfl), if_pos (show nI 0 = 0 from rfl)]
      exact ⟨-3, s1, t1, α, rfl, rfl, hW, a2, b2, Or.inl ⟨rfl, a5, zag_WT a6⟩⟩
    · have hnz : ¬ nI (zLA α).length = 0 := fun q => hL (nI_inj (b := 0) (by omega) (by decide) q)
      rw [if_neg hnz, if_neg hnz]
      have e0 : ∀ i, zln α i 0 0 = α 0 0 := fun i => by rw [zln_c (by decide)]
      -- the class
      obtain ⟨m', s', e1, e2, e3, e4, e5⟩ := zloopS (fun m (q : Int32 × ZM) => f_X8_learn_28 N m q.1 q.2)
        (fun i q => q.1 = nI i ∧ RC (zln α i) q.2 ∧ zag [(3, none)] s1 q.2 ∧ True) (α 0 0) (by
        rintro m i ⟨x, s⟩ hi ⟨p1, p2, p3, -⟩
        simp only at p1 p2 p3
        subst p1
        have hss : Sif α s := ⟨a4.1, by rw [(p3 38 7 (by decide) (by decide)).1]; exact a4.2.1, fun j c q => by rw [(p3 45 j (by decide) (by simp)).1]; exact a4.2.2.1 j c q, by rw [(p3 38 8 (by decide) (by decide)).1]; exact a4.2.2.2⟩
        refine ⟨(nI (i + 1), zuI s 3 i (nI (zofd (fun c => 2 ^ zcr α c i) (zLA α)))), ?_, rfl, ?_, zag_t p3 (zag_all zag_uI), trivial⟩
        · show b_X8_learn_28 N (f_X8_learn_28 N m) (nI i) s = _
          unfold b_X8_learn_28
          rw [p2.nets, e0, if_neg (nI_ge hi (by omega)), zw_rulesOf hN hW hss hi]
          unfold zbd
          rw [Option.bind_some]
          try simp only
          rw [zast_nI (show i < 10 by omega) (by decide), Option.bind_some, Option.bind_some, nI_1]
        · show RC (zln α (i + 1)) (zuI s 3 i (nI (zofd (fun c => 2 ^ zcr α c i) (zLA α))))
          rw [zln_s]
          exact p2.set 3 3 10 (by decide +kernel) (by decide +kernel) (by decide +kernel) (by decide) (by decide) (by decide) (show i < 10 by omega) _) N 0 (0, s1) (by omega) (by omega) ⟨rfl, by rw [zln_0]; exact a2, zag_r, trivial⟩
      obtain ⟨x, s⟩ := s'
      simp only at e1 e2 e3 e4
      subst e2
      have hW' := zln_WF hW hL (α 0 0) (Nat.le_refl _)
      have hMM' := zln_MM hW hL
      obtain ⟨u, f1, f2, f3⟩ := zw_forgetAll N s
      have hCu := e3.forget f2
      have cc : f_X3_caseCount N u = some (nI (zMM (zln α (α 0 0))), u) := zw_caseCount (by omega) hW' hCu
      -- the reference
      obtain ⟨m2, s2, d1, d2, d3, d4, d5⟩ := zloopS (fun m (q : Int32 × ZM) => f_X9_learn_22 N m q.1 q.2)
        (fun i q => q.1 = nI i ∧ RM α q.2 ∧ Agd α (zMM α) q.2 ∧ ∀ n, n < i → q.2.1 35 n = nI (zofd (fun c => 2 ^ zcr α c n) (zLA α))) (α 0 0) (by
        rintro m i ⟨x, s⟩ hi ⟨p1, p2, p3, p4⟩
        simp only at p1 p2 p3 p4
        subst p1
        obtain ⟨v, w1, w2⟩ := zw_rulesLeft hN hW p2 h1 p3 hi
        refine ⟨(nI (i + 1), zuI v 35 i (nI (zofd (fun c => 2 ^ zcr α c i) (zLA α)))), ?_, rfl, ?_, ?_, fun n hn => ?_⟩
        · show b_X9_learn_22 N (f_X9_learn_22 N m) (nI i) s = _
          unfold b_X9_learn_22
          rw [p2.nets, if_neg (nI_ge hi (by omega)), w1]
          unfold zbd
          rw [Option.bind_some]
          try simp only
          rw [zast_nI (show i < 10 by omega) (by decide), Option.bind_some, Option.bind_some, nI_1]
        · exact (p2.frA (zag_w (by simp) w2)).fr (W := [(35, none)]) (zag_all zag_uI) (by decide +kernel) ⟨⟨by decide, fun i => by simp⟩, ⟨by decide, fun i => by simp⟩⟩
        · exact p3.fr (by rw [zuI_n (by simp), (w2 0 40 (by decide) (by decide)).1]) (fun j => by rw [zuI_n (by simp), (w2 34 j (by decide) (by simp)).1])
        · show (zuI v 35 i (nI (zofd (fun c => 2 ^ zcr α c i) (zLA α)))).1 35 n = _
          by_cases e : n = i
          · subst e; rw [zuI_s]
          · rw [zuI_n (fun q => e q.2), (w2 35 n (by decide) (by simp)).1]; exact p4 n (by omega)) N 0 (0, t1) (by omega) (by omega) ⟨rfl, b2, hAg, fun n hn => absurd hn (Nat.not_lt_zero n)⟩
      obtain ⟨y, v⟩ := s2
      simp only at d1 d2 d3 d4 d5
      subst d2
      obtain ⟨m3, s3, g1, g2, g3, g4⟩ := zloopS (fun m (q : Int32 × ZM) => f_X9_learn_49 N m q.1 q.2)
        (fun i q => q.1 = nI i ∧ RM (zln α i) q.2 ∧ zag [(3, none)] v q.2) (α 0 0) (by
        rintro m i ⟨x, s⟩ hi ⟨p1, p2, p3⟩
        simp only at p1 p2 p3
        subst p1
        refine ⟨(nI (i + 1), zuI s 3 i (nI (zofd (fun c => 2 ^ zcr α c i) (zLA α)))), ?_, rfl, ?_, zag_t p3 (zag_all zag_uI)⟩
        · show b_X9_learn_49 N (f_X9_learn_49 N m) (nI i) s = _
          unfold b_X9_learn_49
          rw [p2.nets, e0, if_neg (nI_ge hi (by omega)), zald_nI (show i < 10 by omega) (by decide), Option.bind_some, (p3 35 i (by decide) (by simp)).1, d5 i hi, zast_nI (show i < 10 by omega) (by decide), Option.bind_some, Option.bind_some, nI_1]
        · show RM (zln α (i + 1)) (zuI s 3 i (nI (zofd (fun c => 2 ^ zcr α c i) (zLA α))))
          rw [zln_s]
          exact p2.set 3 3 10 (by decide +kernel) (by decide) (by decide) (show i < 10 by omega) _) N 0 (0, v) (by omega) (by omega) ⟨rfl, by rw [zln_0]; exact d3, zag_r⟩
      obtain ⟨z, w⟩ := s3
      simp only at g1 g2 g3 g4
      subst g2
      obtain ⟨cm, c1, c2, c3⟩ := zw_caseMany (N := N) (by omega) hW' g3
      have c3 : cm = zMM (zln α (α 0 0)) ∨ (256 < cm ∧ 256 < zMM (zln α (α 0 0))) := c3
      have ec : cm = zMM (zln α (α 0 0)) := by omega
      refine ⟨nI (zMM (zln α (α 0 0))), u, w, zln α (α 0 0), ?_, ?_, hW', hCu, g3, Or.inr f3⟩
      · have e1 : f_X8_learn_28 N N 0 s1 = f_X8_learn_28 N (m' + 1) (nI (α 0 0)) s := e1
        rw [e1]
        show b_X8_learn_28 N (f_X8_learn_28 N m') (nI (α 0 0)) s = _
        unfold b_X8_learn_28
        rw [e3.nets, e0, if_pos (zle_self (by omega)), f1]
        unfold zbd
        rw [Option.bind_some]
        try simp only
        rw [cc]
        rfl
      · have d1 : f_X9_learn_22 N N 0 t1 = f_X9_learn_22 N (m2 + 1) (nI (α 0 0)) v := d1
        rw [d1]
        show b_X9_learn_22 N (f_X9_learn_22 N m2) (nI (α 0 0)) v = _
        unfold b_X9_learn_22
        rw [d3.nets, if_pos (zle_self (by omega))]
        have g1 : f_X9_learn_49 N N 0 v = f_X9_learn_49 N (m3 + 1) (nI (α 0 0)) w := g1
        rw [g1]
        show b_X9_learn_49 N (f_X9_learn_49 N m3) (nI (α 0 0)) w = _
        unfold b_X9_learn_49
        rw [g3.nets, e0, if_pos (zle_self (by omega)), c1, ec]
        rfl
