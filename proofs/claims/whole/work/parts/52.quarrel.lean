/-! ===== which trials a case does not agree with ===== -/
def zfi (P : Nat → Bool) (i : Nat) : Nat → Option Nat
  | 0 => none
  | k + 1 => if P i = true then some i else zfi P (i + 1) k
theorem zfi_none {P : Nat → Bool} : ∀ (k i : Nat), zfi P i k = none ↔ ∀ n, i ≤ n → n < i + k → P n = false
  | 0, i => by
    constructor
    · intro _ n h1 h2; omega
    · intro _; rfl
  | k + 1, i => by
    unfold zfi
    by_cases h : P i = true
    · rw [if_pos h]
      constructor
      · intro q; cases q
      · intro q
        have := q i (Nat.le_refl _) (by omega)
        rw [h] at this; cases this
    · rw [if_neg h, zfi_none k (i + 1)]
      constructor
      · intro q n h1 h2
        by_cases e : n = i
        · subst e; simpa using h
        · exact q n (by omega) (by omega)
      · intro q n h1 h2
        exact q n (by omega) (by omega)
theorem zfi_some {P : Nat → Bool} : ∀ (k i n : Nat), zfi P i k = some n → i ≤ n ∧ n < i + k ∧ P n = true ∧ ∀ m, i ≤ m → m < n → P m = false
  | 0, i, n, h => by cases h
  | k + 1, i, n, h => by
    unfold zfi at h
    by_cases hp : P i = true
    · rw [if_pos hp] at h
      cases h
      exact ⟨Nat.le_refl _, by omega, hp, fun m h1 h2 => by omega⟩
    · rw [if_neg hp] at h
      obtain ⟨a, b, c, d⟩ := zfi_some k (i + 1) n h
      refine ⟨by omega, by omega, c, fun m h1 h2 => ?_⟩
      by_cases e : m = i
      · subst e; simpa using hp
      · exact d m (by omega) h2
theorem zfi_same {P : Nat → Bool} {a b : Nat} (hab : a ≤ b) (h : ∀ n, a ≤ n → n < b → P n = false) : (zfi P 0 a).isSome = (zfi P 0 b).isSome := by
  cases ha : zfi P 0 a with
  | none =>
    have h1 := (zfi_none a 0).mp ha
    have : zfi P 0 b = none := (zfi_none b 0).mpr (fun n _ h2 => by
      by_cases q : n < a
      · exact h1 n (by omega) (by omega)
      · exact h n (by omega) (by omega))
    rw [this]
  | some n =>
    obtain ⟨_, q2, q3, _⟩ := zfi_some _ _ _ ha
    cases hb : zfi P 0 b with
    | none =>
      have := (zfi_none b 0).mp hb n (by omega) (by omega)
      rw [this] at q3; cases q3
    | some m => rfl
def zsp (α : AS) (t n : Nat) : Bool := decide (α 17 (10 * t + n) ≠ 4)
def zsq (α : AS) (t : Nat) (w : WD) (n : Nat) : Bool := decide (α 17 (10 * t + n) ≠ 4 ∧ α 17 (10 * t + n) ≠ zsn (w n))
def zkt (α : AS) (t : Nat) (ρ : Nat → Nat) : AS := zkap (α 12 t) (fun s => α 16 (4 * t + s)) (fun s => α 13 (4 * t + s)) (fun s => α 14 (4 * t + s)) (fun s => α 15 (4 * t + s)) ρ
def zbad (α : AS) (ρ : Nat → Nat) (t : Nat) : Bool := (zfi (zsp α t) 0 10).isSome && (match zrest α (zkt α t ρ) with
  | none => true
  | some k => (zfi (zsq α t (zit α (zkt α t ρ) k)) 0 10).isSome)
theorem zkt_KW {α : AS} (hW : WF α) {t : Nat} {ρ : Nat → Nat} (hρ : ∀ n, ρ n ≤ 3) : KW α (zkt α t ρ) := KW.mk hW (hW.2.2.2.2.2.2.1 t) (fun s => hW.2.2.2.2.2.2.2.1 _) (fun s => hW.2.2.2.2.2.2.2.2.1 _) (fun s => hW.2.2.2.2.2.2.2.2.2.1 _) hρ
theorem zTC_t1 : ∀ t, t < 6 → (49 + 7 * t, 0, 12, t, 1) ∈ TC := by decide +kernel
theorem zTC_t2 : ∀ t, t < 6 → (50 + 7 * t, 0, 13, 4 * t, 4) ∈ TC := by decide +kernel
theorem zTC_t3 : ∀ t, t < 6 → (51 + 7 * t, 0, 14, 4 * t, 4) ∈ TC := by decide +kernel
theorem zTC_t4 : ∀ t, t < 6 → (52 + 7 * t, 0, 15, 4 * t, 4) ∈ TC := by decide +kernel
theorem zTC_t5 : ∀ t, t < 6 → (53 + 7 * t, 0, 16, 4 * t, 4) ∈ TC := by decide +kernel
theorem zTC_t (t : Nat) (h : t < 6) : (49 + 7 * t, 0, 12, t, 1) ∈ TC ∧ (50 + 7 * t, 0, 13, 4 * t, 4) ∈ TC ∧ (51 + 7 * t, 0, 14, 4 * t, 4) ∈ TC ∧ (52 + 7 * t, 0, 15, 4 * t, 4) ∈ TC ∧ (53 + 7 * t, 0, 16, 4 * t, 4) ∈ TC := ⟨zTC_t1 t h, zTC_t2 t h, zTC_t3 t h, zTC_t4 t h, zTC_t5 t h⟩
theorem zTS_t : ∀ t, t < 6 → (54 + 7 * t, 0, 17, 10 * t, 10) ∈ TS := by decide +kernel
theorem RC.trl {α : AS} {σ : ZM} (h : RC α σ) {t : Nat} (ht : t < 6) : CA (49 + 7 * t) (α 12 t) (fun s => α 16 (4 * t + s)) (fun s => α 13 (4 * t + s)) (fun s => α 14 (4 * t + s)) (fun s => α 15 (4 * t + s)) σ := by
  obtain ⟨h1, h2, h3, h4, h5⟩ := zTC_t t ht
  refine ⟨?_, fun s hs => ⟨?_, ?_, ?_, ?_⟩⟩
  · have := h.at _ _ _ _ _ h1 (i := 0) (by decide)
    exact this
  · have := h.at _ _ _ _ _ h2 hs
    rw [Nat.zero_add] at this
    rw [show 49 + 7 * t + 1 = 50 + 7 * t by omega]; exact this
  · have := h.at _ _ _ _ _ h3 hs
    rw [Nat.zero_add] at this
    rw [show 49 + 7 * t + 2 = 51 + 7 * t by omega]; exact this
  · have := h.at _ _ _ _ _ h4 hs
    rw [Nat.zero_add] at this
    rw [show 49 + 7 * t + 3 = 52 + 7 * t by omega]; exact this
  · have := h.at _ _ _ _ _ h5 hs
    rw [Nat.zero_add] at this
    rw [show 49 + 7 * t + 4 = 53 + 7 * t by omega]; exact this
theorem RC.seen {α : AS} {σ : ZM} (h : RC α σ) {t n : Nat} (ht : t < 6) (hn : n < 10) : zald σ (48 + 7 * t + 6) 10 (nI n) = some (sI (α 17 (10 * t + n))) := by
  have := h.2.1 _ (zTS_t t ht) n hn
  simp only [Nat.zero_add] at this
  rw [show 48 + 7 * t + 6 = 54 + 7 * t by omega, zald_nI hn (by decide), this]
theorem sI4 {v : Nat} (h : v ≤ 5) : sI v = (4 : Int32) ↔ v = 4 := by
  constructor
  · intro q; exact sI_inj h (by decide) (q.trans rfl)
  · intro q; rw [q]; rfl
theorem zw_isSeen {N : Nat} (hN : 14 < N) {α : AS} {σ : ZM} (hW : WF α) (hC : RC α σ) {t : Nat} (ht : t < 6) : f_X6_isSeen N (48 + 7 * t) σ = some (zbI ((zfi (zsp α t) 0 10).isSome = true), σ) := by
  have lp : ∀ k m i, i + k = 10 → k < m → f_X6_isSeen_2 N (48 + 7 * t) m (nI i) σ = some (zbI ((zfi (zsp α t) i k).isSome = true), σ) := by
    intro k
    induction k with
    | zero =>
      intro m i h1 h2
      obtain ⟨m, rfl⟩ : ∃ q, m = q + 1 := ⟨m - 1, by omega⟩
      have e : i = 10 := by omega
      subst e
      rfl
    | succ k ih =>
      intro m i h1 h2
      obtain ⟨m, rfl⟩ : ∃ q, m = q + 1 := ⟨m - 1, by omega⟩
      have h5 := (hW.2.2.2.2.2.2.2.2.2.2.2 t i (by omega)).1
      show b_X6_isSeen_2 N (48 + 7 * t) (f_X6_isSeen_2 N (48 + 7 * t) m) (nI i) σ = _
      unfold b_X6_isSeen_2
      rw [if_neg (by rw [show (10 : Int32) = nI 10 from rfl]; exact nI_ge (by omega) (by decide)), hC.seen ht (by omega), Option.bind_some]
      unfold zfi
      by_cases e : α 17 (10 * t + i) = 4
      · have z : zsp α t i = false := decide_eq_false (fun q => q e)
        rw [if_pos ((sI4 h5).mpr e), Option.bind_some, nI_1, z, if_neg (by decide)]
        exact ih m (i + 1) (by omega) (by omega)
      · have z : zsp α t i = true := decide_eq_true e
        rw [if_neg (fun q => e ((sI4 h5).mp q)), z, if_pos rfl]
        rfl
  exact lp 10 N 0 (by omega) (by omega)
theorem zw_isAsSeen {N : Nat} (hN : 14 < N) {α κ : AS} {w : WD} {σ : ZM} (hW : WF α) (hC : RC α σ) (hV : VW α κ w) (h19 : ∀ n, n < 10 → σ.2 19 n = zen (w n)) {t : Nat} (ht : t < 6) : f_X6_isAsSeen N (48 + 7 * t) σ = some (zbI ((zfi (zsq α t w) 0 10).isSome = false), σ) := by
  have lp : ∀ k m i, i + k = 10 → k < m → f_X6_isAsSeen_2 N (48 + 7 * t) m (nI i) σ = some (zbI ((zfi (zsq α t w) i k).isSome = false), σ) := by
    intro k
    induction k with
    | zero =>
      intro m i h1 h2
      obtain ⟨m, rfl⟩ : ∃ q, m = q + 1 := ⟨m - 1, by omega⟩
      have e : i = 10 := by omega
      subst e
      rfl
    | succ k ih =>
      intro m i h1 h2
      obtain ⟨m, rfl⟩ : ∃ q, m = q + 1 := ⟨m - 1, by omega⟩
      have h5 := (hW.2.2.2.2.2.2.2.2.2.2.2 t i (by omega)).1
      have hz := zsn_le hV i
      show b_X6_isAsSeen_2 N (48 + 7 * t) (f_X6_isAsSeen_2 N (48 + 7 * t) m) (nI i) σ = _
      unfold b_X6_isAsSeen_2 f_X6_isAsSeen_34
      rw [if_neg (by rw [show (10 : Int32) = nI 10 from rfl]; exact nI_ge (by omega) (by decide)), hC.seen ht (by omega), Option.bind_some, Option.bind_some, Option.bind_some, nI_1, zw_comesTo hV h19 (by omega)]
      unfold zbd
      rw [Option.bind_some]
      try simp only
      rw [Option.bind_some]
      unfold zfi
      by_cases e : α 17 (10 * t + i) = 4
      · have z : zsq α t w i = false := decide_eq_false (fun q => q.1 e)
        rw [if_pos ((sI4 h5).mpr e), z, if_neg (by decide)]
        exact ih m (i + 1) (by omega) (by omega)
      · rw [if_neg (fun q => e ((sI4 h5).mp q))]
        by_cases e2 : α 17 (10 * t + i) = zsn (w i)
        · have z : zsq α t w i = false := decide_eq_false (fun q => q.2 e2)
          rw [if_pos (by rw [e2]), z, if_neg (by decide)]
          exact ih m (i + 1) (by omega) (by omega)
        · have z : zsq α t w i = true := decide_eq_true ⟨e, e2⟩
          rw [if_neg (fun q => e2 (sI_inj h5 hz.1 q)), z, if_pos rfl]
          rfl
  exact lp 10 N 0 (by omega) (by omega)
def zfr (o : Option Nat) : Int32 := match o with
  | none => -9
  | some t => nI t
theorem RC.frS {α : AS} {σ σ' : ZM} (h : RC α σ) (hW : zag zWS σ σ') : RC α σ' := h.fr hW (by decide +kernel) (by decide +kernel) (by decide +kernel) (by decide) (by decide)
theorem zw_firstQuarrel {N : Nat} (hN : 50 < N) {α : AS} {σ : ZM} (hW : WF α) (hC : RC α σ) {ρ : Nat → Nat} (hρ : ∀ n, ρ n ≤ 3) (h18 : ∀ n, n < α 0 0 → σ.1 18 n = nI (ρ n)) : ∃ σ', f_X0_firstQuarrel N σ = some (zfr (zfi (zbad α ρ) 0 (α 0 3)), σ') ∧ zag zWS σ σ' := by
  have ht0 := hW.1.2.2.2
  have lp : ∀ k m i (s : ZM), i + k = α 0 3 → k < m → RC α s → (∀ n, n < α 0 0 → s.1 18 n = nI (ρ n)) → ∃ s', f_X0_firstQuarrel_2 N m (nI i) s = some (zfr (zfi (zbad α ρ) i k), s') := by
    intro k
    induction k with
    | zero =>
      intro m i s h1 h2 hc h8
      obtain ⟨m, rfl⟩ : ∃ q, m = q + 1 := ⟨m - 1, by omega⟩
      have e : i = α 0 3 := by omega
      subst e
      refine ⟨s, ?_⟩
      show b_X0_firstQuarrel_2 N (f_X0_firstQuarrel_2 N m) (nI (α 0 3)) s = _
      unfold b_X0_firstQuarrel_2
      rw [hc.trials, if_pos (zle_self (by omega))]
      rfl
    | succ k ih =>
      intro m i s h1 h2 hc h8
      obtain ⟨m, rfl⟩ : ∃ q, m = q + 1 := ⟨m - 1, by omega⟩
      have hi6 : i < 6 := by omega
      have hK := zkt_KW hW (t := i) hρ
      have go : ∀ u, f_X0_firstQuarrel_53 N (f_X0_firstQuarrel_2 N m) (nI i) u = f_X0_firstQuarrel_2 N m (nI (i + 1)) u := fun u => by
        unfold f_X0_firstQuarrel_53
        rw [Option.bind_some, nI_1]
      have pre : f_X0_firstQuarrel_2 N (m + 1) (nI i) s = (if zbI ((zfi (zsp α i) 0 10).isSome = true) = 0 then f_X0_firstQuarrel_53 N (f_X0_firstQuarrel_2 N m) (nI i) s else (zbd (f_X2_settle N (49 + 7 * i) s) fun r5 s6 => if r5 = (-9 : Int32) then (f_X0_firstQuarrel_51 N (nI i) s6) else (zbd (f_X6_isAsSeen N (48 + 7 * i) s6) fun r7 s8 => if r7 = 0 then (f_X0_firstQuarrel_51 N (nI i) s8) else (f_X0_firstQuarrel_53 N (f_X0_firstQuarrel_2 N m) (nI i) s8)))) := by
        show b_X0_firstQuarrel_2 N (f_X0_firstQuarrel_2 N m) (nI i) s = _
        unfold b_X0_firstQuarrel_2
        rw [hc.trials, if_neg (nI_ge (by omega) (by omega)), zw_trl hi6, Option.bind_some, zw_isSeen (by omega) hW hc hi6, show 48 + 7 * i + 1 = 49 + 7 * i by omega]
        rfl
      rw [pre, show zfi (zbad α ρ) i (k + 1) = if zbad α ρ i = true then some i else zfi (zbad α ρ) (i + 1) k from rfl]
      cases hs : (zfi (zsp α i) 0 10).isSome with
      | false =>
        have z : zbad α ρ i = false := by unfold zbad; rw [hs]; rfl
        rw [show zbI (false = true) = 0 from rfl, if_pos rfl, go, z, if_neg (by decide)]
        exact ih m (i + 1) s (by omega) (by omega) hc h8
      | true =>
        obtain ⟨s1, a1, a2, a3, a4⟩ := zw_settleC hN (show zwc (49 + 7 * i) from Or.inr (by omega)) hW hK hc ((hc.trl hi6).sd (α := α) (Nat.le_trans (hW.2.2.2.2.2.2.1 i) hW.1.2.2.1) (hW.2.2.2.2.2.2.1 i) (fun s => hW.2.2.2.2.2.2.2.2.2.2.1 _) (fun s => hW.2.2.2.2.2.2.2.1 _)) h8
        rw [show zbI (true = true) = 1 from rfl, if_neg (by decide), a1]
        unfold zbd
        rw [Option.bind_some]
        try simp only
        cases hr : zrest α (zkt α i ρ) with
        | none =>
          have z : zbad α ρ i = true := by unfold zbad; rw [hs, hr]; rfl
          rw [if_pos (show zro none = -9 from rfl), z, if_pos rfl]
          exact ⟨s1, rfl⟩
        | some q =>
          have hq := zrest_le hr
          have hcc := a4 q hr
          have hV := VW.it (κ := zkt α i ρ) hW hK q
          have zb : zbad α ρ i = (zfi (zsq α i (zit α (zkt α i ρ) q)) 0 10).isSome := by unfold zbad; rw [hs, hr]; rfl
          rw [if_neg (zro_some (by omega)), zw_isAsSeen (by omega) hW a3 hV hcc.2.2.2 hi6, Option.bind_some, zb]
          try simp only
          cases (zfi (zsq α i (zit α (zkt α i ρ) q)) 0 10).isSome with
          | true =>
            rw [show zbI (true = false) = 0 from rfl, if_pos rfl, if_pos rfl]
            exact ⟨s1, rfl⟩
          | false =>
            rw [show zbI (false = false) = 1 from rfl, if_neg (by decide), if_neg (by decide), go]
            exact ih m (i + 1) s1 (by omega) (by omega) a3 (fun n hn => by rw [(a2 18 n (by decide) (by simp)).1]; exact h8 n hn)
  obtain ⟨s', e⟩ := lp (α 0 3) N 0 σ (by omega) (by omega) hC h18
  have ef : f_X0_firstQuarrel N σ = some (zfr (zfi (zbad α ρ) 0 (α 0 3)), s') := e
  exact ⟨s', ef, fr_X0_firstQuarrel ef⟩
/-! the reference -/
theorem RM.trl {α : AS} {σ : ZM} (h : RM α σ) {j : Nat} (hj : j < 24) : σ.1 29 j = nI (α 13 j) ∧ σ.1 30 j = nI (α 14 j) ∧ σ.1 31 j = nI (α 15 j) ∧ σ.1 32 j = nI (α 16 j) := by
  have h1 := h.at 29 0 13 0 24 (by decide) hj
  have h2 := h.at 30 0 14 0 24 (by decide) hj
  have h3 := h.at 31 0 15 0 24 (by decide) hj
  have h4 := h.at 32 0 16 0 24 (by decide) hj
  rw [Nat.zero_add] at h1 h2 h3 h4
  exact ⟨h1, h2, h3, h4⟩
theorem zw_askTrial {N : Nat} (hN : 14 < N) {α : AS} {σ : ZM} (hW : WF α) (hM : RM α σ) {t : Nat} (ht : t < 6) : ∃ σ', f_X9_askTrial N (nI t) σ = some ((), σ') ∧ zag zWA σ σ' ∧ MA (α 12 t) (fun s => α 16 (4 * t + s)) (fun s => α 13 (4 * t + s)) (fun s => α 14 (4 * t + s)) (fun s => α 15 (4 * t + s)) σ' := by
  have hr := hW.2.2.2.2.2.2.2.2.2.1
  have hu := hW.2.2.2.2.2.2.2.2.2.2.1
  have h28 : σ.1 28 t = nI (α 12 t) := by
    have := hM.at 28 0 12 0 6 (by decide) ht
    rw [Nat.zero_add] at this
    exact this
  have h0 : zag zWA σ (zuI σ 0 14 (nI (α 12 t))) := zag_w (W1 := [(0, some 14)]) (by simp) zag_uI
  obtain ⟨m', s', e1, e2, e3, e4, e5⟩ := zloopS (fun m (q : Int32 × ZM) => f_X9_askTrial_12 N m (nI t) q.1 q.2)
    (fun i q => q.1 = nI i ∧ zag zWA σ q.2 ∧ q.2.1 0 14 = nI (α 12 t) ∧ ∀ s, s < i → q.2.1 12 s = nI (α 13 (4 * t + s)) ∧ q.2.1 13 s = nI (α 14 (4 * t + s)) ∧ q.2.1 14 s = nI (α 15 (4 * t + s)) ∧ q.2.1 15 s = nI (α 16 (4 * t + s))) 4 (by
    rintro m i ⟨x, s⟩ hi ⟨p1, p2, p3, p4⟩
    simp only at p1 p2 p3 p4
    subst p1
    have hti : 4 * t + i < 24 := by omega
    obtain ⟨r1, r2, r3, r4⟩ := (hM.frA p2).trl hti
    obtain ⟨s1, hs1⟩ : ∃ s1, s1 = zuI s 12 i (nI (α 13 (4 * t + i))) := ⟨_, rfl⟩
    obtain ⟨s2, hs2⟩ : ∃ s2, s2 = zuI s1 13 i (nI (α 14 (4 * t + i))) := ⟨_, rfl⟩
    obtain ⟨s3, hs3⟩ : ∃ s3, s3 = zuI s2 14 i (nI (α 15 (4 * t + i))) := ⟨_, rfl⟩
    obtain ⟨s4, hs4⟩ : ∃ s4, s4 = zuI s3 15 i (nI (α 16 (4 * t + i))) := ⟨_, rfl⟩
    refine ⟨(nI (i + 1), s4), ?_, rfl, ?_, ?_, fun u hu2 => ?_⟩
    · show b_X9_askTrial_12 N (f_X9_askTrial_12 N m) (nI t) (nI i) s = _
      unfold b_X9_askTrial_12
      rw [if_neg (by rw [show (4 : Int32) = nI 4 from rfl]; exact nI_ge hi (by decide)), (zmul4 t i).2, zald_nI hti (by decide), Option.bind_some, r1, zast_nI hi (by decide), Option.bind_some, ← hs1]
      rw [zald_nI hti (by decide), Option.bind_some, show s1.1 30 (4 * t + i) = nI (α 14 (4 * t + i)) by rw [hs1, zuI_n (by simp)]; exact r2, zast_nI hi (by decide), Option.bind_some, ← hs2]
      rw [zald_nI hti (by decide), Option.bind_some, show s2.1 31 (4 * t + i) = nI (α 15 (4 * t + i)) by rw [hs2, zuI_n (by simp), hs1, zuI_n (by simp)]; exact r3, zasZ_nI hi (by decide) (zn1 (hr _)), Option.bind_some, ← hs3]
      rw [zald_nI hti (by decide), Option.bind_some, show s3.1 32 (4 * t + i) = nI (α 16 (4 * t + i)) by rw [hs3, zuI_n (by simp), hs2, zuI_n (by simp), hs1, zuI_n (by simp)]; exact r4, zasZ_nI hi (by decide) (zn1 (hu _)), Option.bind_some, ← hs4, Option.bind_some, nI_1]
    · show zag zWA σ s4
      refine zag_t p2 ?_
      rw [hs4, hs3, hs2, hs1]
      exact zag_t (zag_t (zag_t (zag_w (W1 := [(12, none)]) (by simp) (zag_all zag_uI)) (zag_w (W1 := [(13, none)]) (by simp) (zag_all zag_uI))) (zag_w (W1 := [(14, none)]) (by simp) (zag_all zag_uI))) (zag_w (W1 := [(15, none)]) (by simp) (zag_all zag_uI))
    · show s4.1 0 14 = _
      rw [hs4, zuI_n (by simp), hs3, zuI_n (by simp), hs2, zuI_n (by simp), hs1, zuI_n (by simp)]
      exact p3
    · show s4.1 12 u = _ ∧ s4.1 13 u = _ ∧ s4.1 14 u = _ ∧ s4.1 15 u = _
      by_cases e : u = i
      · subst e
        refine ⟨?_, ?_, ?_, ?_⟩
        · rw [hs4, zuI_n (by simp), hs3, zuI_n (by simp), hs2, zuI_n (by simp), hs1, zuI_s]
        · rw [hs4, zuI_n (by simp), hs3, zuI_n (by simp), hs2, zuI_s]
        · rw [hs4, zuI_n (by simp), hs3, zuI_s]
        · rw [hs4, zuI_s]
      · have k : ∀ c, s4.1 c u = s.1 c u := fun c => by rw [hs4, zuI_n (fun q => e q.2), hs3, zuI_n (fun q => e q.2), hs2, zuI_n (fun q => e q.2), hs1, zuI_n (fun q => e q.2)]
        rw [k, k, k, k]
        exact p4 u (by omega)) N 0 (0, zuI σ 0 14 (nI (α 12 t))) (by omega) (by omega) ⟨rfl, h0, zuI_s, fun u hu2 => absurd hu2 (Nat.not_lt_zero u)⟩
  obtain ⟨x, s⟩ := s'
  simp only at e1 e2 e3 e4 e5
  subst e2
  refine ⟨s, ?_, e3, e4, e5⟩
  unfold f_X9_askTrial zpI
  rw [zald_nI ht (by decide), Option.bind_some, h28, Option.bind_some]
  have e1 : f_X9_askTrial_12 N N (nI t) 0 (zuI σ 0 14 (nI (α 12 t))) = f_X9_askTrial_12 N (m' + 1) (nI t) (nI 4) s := e1
  rw [e1]
  rfl
theorem zw_agrees {N : Nat} (hN : 50 < N) {α : AS} {σ : ZM} (hW : WF α) (hM : RM α σ) {c f : Nat} (hc : c < 2 ^ 30) (hf : f ≤ α 0 3) : ∃ σ', f_X9_agrees N (nI c) (nI f) σ = some (zbI (zfi (zbad α (zcr α c)) 0 f = none), σ') ∧ zag zWO σ σ' := by
  have ht0 := hW.1.2.2.2
  have hn0 := hW.1.1
  have hρ := fun n => zcr_le α c n
  have lp : ∀ k m i (s : ZM), i + k = f → k < m → RM α s → ∃ s', f_X9_agrees_2 N m (nI c) (nI f) (nI i) s = some (zbI (zfi (zbad α (zcr α c)) i k = none), s') := by
    intro k
    induction k with
    | zero =>
      intro m i s h1 h2 hm
      obtain ⟨m, rfl⟩ : ∃ q, m = q + 1 := ⟨m - 1, by omega⟩
      have e : i = f := by omega
      subst e
      refine ⟨s, ?_⟩
      show b_X9_agrees_2 N (f_X9_agrees_2 N m) (nI c) (nI i) (nI i) s = _
      unfold b_X9_agrees_2
      rw [if_pos (zle_self (by omega))]
      rfl
    | succ k ih =>
      intro m i s h1 h2 hm
      obtain ⟨m, rfl⟩ : ∃ q, m = q + 1 := ⟨m - 1, by omega⟩
      have hi6 : i < 6 := by omega
      have hi3 : i < α 0 3 := by omega
      have hK := zkt_KW hW (t := i) hρ
      have go : ∀ u, f_X9_agrees_132 N (f_X9_agrees_2 N m) (nI c) (nI f) (nI i) u = f_X9_agrees_2 N m (nI c) (nI f) (nI (i + 1)) u := fun u => by
        unfold f_X9_agrees_132
        rw [Option.bind_some, nI_1]
      have sn : ∀ n, n < 10 → ∀ u : ZM, RM α u → zald u 33 60 (((10 : Int32) * nI i) + nI n) = some (sI (α 17 (10 * i + n))) := fun n hn u hu => by
        rw [(zmul10 i n).2, zald_nI (show 10 * i + n < 60 by omega) (by decide), hu.2.2 i hi3 n hn]
      have s5 : ∀ n, n < 10 → α 17 (10 * i + n) ≤ 5 := fun n hn => (hW.2.2.2.2.2.2.2.2.2.2.2 i n hn).1
      have s4 : ∀ n, α 0 0 ≤ n → n < 10 → α 17 (10 * i + n) = 4 := fun n h3 hn => (hW.2.2.2.2.2.2.2.2.2.2.2 i n hn).2.2 (Or.inr h3)
      -- was anything seen
      have any : f_X9_agrees_13 N (f_X9_agrees_2 N m) N (nI c) (nI f) (nI i) 0 0 s = b_X9_agrees_13 N (f_X9_agrees_2 N m) (fun _ _ _ _ _ _ => none) (nI c) (nI f) (nI i) (zbI ((zfi (zsp α i) 0 (α 0 0)).isSome = true)) (nI (α 0 0)) s := by
        have l2 : ∀ k2 m2 n (b : Bool), n + k2 = α 0 0 → k2 < m2 → f_X9_agrees_13 N (f_X9_agrees_2 N m) m2 (nI c) (nI f) (nI i) (zbI (b = true)) (nI n) s = b_X9_agrees_13 N (f_X9_agrees_2 N m) (fun _ _ _ _ _ _ => none) (nI c) (nI f) (nI i) (zbI ((b || (zfi (zsp α i) n k2).isSome) = true)) (nI (α 0 0)) s := by
          intro k2
          induction k2 with
          | zero =>
            intro m2 n b h3 h4
            obtain ⟨m2, rfl⟩ : ∃ q, m2 = q + 1 := ⟨m2 - 1, by omega⟩
            have e : n = α 0 0 := by omega
            subst e
            show b_X9_agrees_13 N (f_X9_agrees_2 N m) (f_X9_agrees_13 N (f_X9_agrees_2 N m) m2) (nI c) (nI f) (nI i) (zbI (b = true)) (nI (α 0 0)) s = _
            unfold b_X9_agrees_13
            rw [hm.nets, if_pos (zle_self (by omega)), if_pos (zle_self (by omega))]
            have e2 : (b || (zfi (zsp α i) (α 0 0) 0).isSome) = b := by cases b <;> rfl
            rw [e2]
          | succ k2 ih2 =>
            intro m2 n b h3 h4
            obtain ⟨m2, rfl⟩ : ∃ q, m2 = q + 1 := ⟨m2 - 1, by omega⟩
            show b_X9_agrees_13 N (f_X9_agrees_2 N m) (f_X9_agrees_13 N (f_X9_agrees_2 N m) m2) (nI c) (nI f) (nI i) (zbI (b = true)) (nI n) s = _
            have key : b_X9_agrees_13 N (f_X9_agrees_2 N m) (f_X9_agrees_13 N (f_X9_agrees_2 N m) m2) (nI c) (nI f) (nI i) (zbI (b = true)) (nI n) s = f_X9_agrees_13 N (f_X9_agrees_2 N m) m2 (nI c) (nI f) (nI i) (zbI ((b || zsp α i n) = true)) (nI (n + 1)) s := by
              unfold b_X9_agrees_13 f_X9_agrees_43 f_X9_agrees_48
              rw [hm.nets, if_neg (nI_ge (by omega) (by omega)), sn n (by omega) s hm, Option.bind_some, Option.bind_some, Option.bind_some, nI_1]
              cases b with
              | true => rfl
              | false =>
                rw [show zbI (false = true) = 0 from rfl, if_pos rfl, Bool.false_or]
                by_cases e : α 17 (10 * i + n) = 4
                · have z : zsp α i n = false := decide_eq_false (fun q => q e)
                  rw [if_pos ((sI4 (s5 n (by omega))).mpr e), z]
                  rfl
                · have z : zsp α i n = true := decide_eq_true e
                  rw [if_neg (fun q => e ((sI4 (s5 n (by omega))).mp q)), z]
                  rfl
            rw [key, ih2 m2 (n + 1) (b || zsp α i n) (by omega) (by omega)]
            congr 1
            apply zbI_congr
            have e3 : zfi (zsp α i) n (k2 + 1) = if zsp α i n = true then some n else zfi (zsp α i) (n + 1) k2 := rfl
            rw [e3]
            cases zsp α i n with
            | true => simp
            | false => simp
        have := l2 (α 0 0) N 0 false (by omega) (by omega)
        rw [show zbI (false = true) = 0 from rfl, Bool.false_or] at this
        exact this
      have same : (zfi (zsp α i) 0 (α 0 0)).isSome = (zfi (zsp α i) 0 10).isSome := zfi_same hn0 (fun n h3 h4 => decide_eq_false (fun q => q (s4 n h3 h4)))
      rw [same] at any
      have pre : f_X9_agrees_2 N (m + 1) (nI c) (nI f) (nI i) s = (if zbI ((zfi (zsp α i) 0 10).isSome = true) = 0 then f_X9_agrees_132 N (f_X9_agrees_2 N m) (nI c) (nI f) (nI i) s else (zbd (f_X9_askTrial N (nI i) s) fun r6 s7 => zbd (f_X9_askCase N (nI c) s7) fun r8 s9 => zbd (f_X9_settle N s9) fun r10 s11 => if r10 = 0 then (some ((0 : Int32), s11)) else (f_X9_agrees_83 N (f_X9_agrees_2 N m) N (nI c) (nI f) (nI i) (0 : Int32) s11))) := by
        show b_X9_agrees_2 N (f_X9_agrees_2 N m) (nI c) (nI f) (nI i) s = _
        unfold b_X9_agrees_2
        rw [if_neg (nI_ge (by omega) (by omega)), any]
        unfold b_X9_agrees_13
        rw [hm.nets, if_pos (zle_self (by omega))]
      rw [pre, show zfi (zbad α (zcr α c)) i (k + 1) = if zbad α (zcr α c) i = true then some i else zfi (zbad α (zcr α c)) (i + 1) k from rfl]
      cases hs : (zfi (zsp α i) 0 10).isSome with
      | false =>
        have z : zbad α (zcr α c) i = false := by unfold zbad; rw [hs]; rfl
        rw [show zbI (false = true) = 0 from rfl, if_pos rfl, go, z, if_neg (by decide)]
        exact ih m (i + 1) s (by omega) (by omega) hm
      | true =>
        obtain ⟨u1, a1, a2, a3⟩ := zw_askTrial (N := N) (by omega) hW hm hi6
        obtain ⟨u2, b1, b2, b3, b4⟩ := zw_askCase (N := N) (by omega) hW (hm.frA a2) hc
        have ma : MA (α 12 i) (fun s => α 16 (4 * i + s)) (fun s => α 13 (4 * i + s)) (fun s => α 14 (4 * i + s)) (fun s => α 15 (4 * i + s)) u2 := by
          refine ⟨by rw [(b2 0 14 (by decide) (by decide)).1]; exact a3.1, fun t ht => ?_⟩
          rw [(b2 12 t (by decide) (by simp)).1, (b2 13 t (by decide) (by simp)).1, (b2 14 t (by decide) (by simp)).1, (b2 15 t (by decide) (by simp)).1]
          exact a3.2 t ht
        have mb : MB α (zkt α i (zcr α c)) u2 := ⟨b3, ma.ms (Nat.le_trans (hW.2.2.2.2.2.2.1 i) hW.1.2.2.1) (hW.2.2.2.2.2.2.1 i) (fun s => hW.2.2.2.2.2.2.2.2.2.2.1 _) (fun s => hW.2.2.2.2.2.2.2.1 _), b4⟩
        obtain ⟨u3, d1, d2, d3⟩ := zw_settleM hN hW hK mb
        have hm3 := b3.frM d2
        rw [show zbI (true = true) = 1 from rfl, if_neg (by decide), a1]
        unfold zbd
        rw [Option.bind_some]
        try simp only
        rw [b1, Option.bind_some]
        try simp only
        rw [d1, Option.bind_some]
        try simp only
        cases hr : zrest α (zkt α i (zcr α c)) with
        | none =>
          have z : zbad α (zcr α c) i = true := by unfold zbad; rw [hs, hr]; rfl
          rw [zbI_f (by simp), if_pos rfl, z, if_pos rfl]
          exact ⟨u3, rfl⟩
        | some q =>
          have hmc := (d3 q hr).1
          have hV := VW.it (κ := zkt α i (zcr α c)) hW hK q
          have zb : zbad α (zcr α c) i = (zfi (zsq α i (zit α (zkt α i (zcr α c)) q)) 0 10).isSome := by unfold zbad; rw [hs, hr]; rfl
          generalize zit α (zkt α i (zcr α c)) q = w at hmc hV zb
          have same2 : (zfi (zsq α i w) 0 (α 0 0)).isSome = (zfi (zsq α i w) 0 10).isSome := zfi_same hn0 (fun n h3 h4 => decide_eq_false (fun r => r.1 (s4 n h3 h4)))
          rw [zbI_t (by simp), if_neg (by decide), zb, ← same2]
          have l3 : ∀ k2 m2 n, n + k2 = α 0 0 → k2 < m2 → f_X9_agrees_83 N (f_X9_agrees_2 N m) m2 (nI c) (nI f) (nI i) (nI n) u3 = if (zfi (zsq α i w) n k2).isSome = true then some ((0 : Int32), u3) else f_X9_agrees_2 N m (nI c) (nI f) (nI (i + 1)) u3 := by
            intro k2
            induction k2 with
            | zero =>
              intro m2 n h3 h4
              obtain ⟨m2, rfl⟩ : ∃ q, m2 = q + 1 := ⟨m2 - 1, by omega⟩
              have e : n = α 0 0 := by omega
              subst e
              show b_X9_agrees_83 N (f_X9_agrees_2 N m) (f_X9_agrees_83 N (f_X9_agrees_2 N m) m2) (nI c) (nI f) (nI i) (nI (α 0 0)) u3 = _
              unfold b_X9_agrees_83
              rw [hm3.nets, if_pos (zle_self (by omega)), go]
              rfl
            | succ k2 ih2 =>
              intro m2 n h3 h4
              obtain ⟨m2, rfl⟩ : ∃ q, m2 = q + 1 := ⟨m2 - 1, by omega⟩
              have hz := zsn_le hV n
              show b_X9_agrees_83 N (f_X9_agrees_2 N m) (f_X9_agrees_83 N (f_X9_agrees_2 N m) m2) (nI c) (nI f) (nI i) (nI n) u3 = _
              unfold b_X9_agrees_83 f_X9_agrees_126
              rw [hm3.nets, if_neg (nI_ge (by omega) (by omega)), sn n (by omega) u3 hm3, Option.bind_some, Option.bind_some, zald_nI (show n < 10 by omega) (by decide), Option.bind_some, nI_1, (hmc.2.2.2 n (by omega)).site (fun x hx => (hV n x hx).2.1.1), ih2 m2 (n + 1) (by omega) (by omega)]
              have e3 : zfi (zsq α i w) n (k2 + 1) = if zsq α i w n = true then some n else zfi (zsq α i w) (n + 1) k2 := rfl
              rw [e3]
              by_cases e : α 17 (10 * i + n) = 4
              · have z : zsq α i w n = false := decide_eq_false (fun q => q.1 e)
                rw [if_pos ((sI4 (s5 n (by omega))).mpr e), z, if_neg (show ¬ false = true by decide)]
              · rw [if_neg (fun q => e ((sI4 (s5 n (by omega))).mp q))]
                by_cases e2 : α 17 (10 * i + n) = zsn (w n)
                · have z : zsq α i w n = false := decide_eq_false (fun q => q.2 e2)
                  rw [if_pos (by rw [e2]), z, if_neg (show ¬ false = true by decide)]
                · have z : zsq α i w n = true := decide_eq_true ⟨e, e2⟩
                  rw [if_neg (fun q => e2 (sI_inj (s5 n (by omega)) hz.1 q)), z, if_pos (show true = true from rfl)]
                  rfl
          have l3' := l3 (α 0 0) N 0 (by omega) (by omega)
          have l3' : f_X9_agrees_83 N (f_X9_agrees_2 N m) N (nI c) (nI f) (nI i) 0 u3 = _ := l3'
          rw [l3']
          cases (zfi (zsq α i w) 0 (α 0 0)).isSome with
          | true =>
            rw [if_pos rfl, if_pos rfl]
            exact ⟨u3, rfl⟩
          | false =>
            rw [if_neg (by decide), if_neg (by decide)]
            exact ih m (i + 1) u3 (by omega) (by omega) hm3
  obtain ⟨s', e⟩ := lp f N 0 σ (by omega) (by omega) hM
  have ef : f_X9_agrees N (nI c) (nI f) σ = some (zbI (zfi (zbad α (zcr α c)) 0 f = none), s') := e
  exact ⟨s', ef, fr_X9_agrees ef⟩
