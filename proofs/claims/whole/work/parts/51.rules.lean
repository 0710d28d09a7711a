/-! ===== cases: the rules of each ===== -/
def zkb (g d : Nat) : Nat := if g % 2 = 1 ∧ d = 0 then 0 else if g / 2 % 2 = 1 ∧ g % 2 = d then 1 else if g / 4 % 2 = 1 ∧ g % 2 + g / 2 % 2 = d then 2 else 3
theorem zkb_le (g d : Nat) : zkb g d ≤ 3 := by
  unfold zkb
  split
  · omega
  · split
    · omega
    · split <;> omega
def zpr (α : AS) (n : Nat) : Nat := zprod (fun n => zpc (α 3 n)) n
def zcr (α : AS) (c n : Nat) : Nat := zkb (α 3 n) (c / zpr α n % zpc (α 3 n))
theorem zcr_le (α : AS) (c n : Nat) : zcr α c n ≤ 3 := zkb_le _ _
theorem zpc1 {α : AS} (hW : WF α) {n : Nat} (hn : n < α 0 0) : 1 ≤ zpc (α 3 n) := zpc_pos (hW.2.2.1 n hn).1 (hW.2.2.1 n hn).2
theorem zpr_s (α : AS) (n : Nat) : zpr α (n + 1) = zpr α n * zpc (α 3 n) := rfl
theorem zpr_pos {α : AS} (hW : WF α) : ∀ n, n ≤ α 0 0 → 0 < zpr α n
  | 0, _ => Nat.one_pos
  | n + 1, h => by
    rw [zpr_s]
    exact Nat.mul_pos (zpr_pos hW n (by omega)) (zpc1 hW (by omega))
theorem zpr_dvd (α : AS) {n : Nat} : ∀ k, zpr α n ∣ zpr α (n + k)
  | 0 => Nat.dvd_refl _
  | k + 1 => by
    show zpr α n ∣ zpr α (n + k) * zpc (α 3 (n + k))
    exact Nat.dvd_trans (zpr_dvd α k) (Nat.dvd_mul_right _ _)
theorem znum1 {c p : Nat} (hp : 0 < p) (h : (c + 1) % p = 0) : (c + 1) / p = c / p + 1 := by
  have h1 := Nat.div_add_mod (c + 1) p
  rw [h, Nat.add_zero] at h1
  obtain ⟨k, hk⟩ : ∃ k, k = (c + 1) / p := ⟨_, rfl⟩
  rw [← hk] at h1 ⊢
  have hk0 : 0 < k := by
    rcases Nat.eq_zero_or_pos k with q | q
    · rw [q, Nat.mul_zero] at h1; omega
    · exact q
  have : c / p = k - 1 := by
    have e : p * k = p * (k - 1) + p := by
      rw [← Nat.mul_succ]
      congr 1
      omega
    have : c = p * (k - 1) + (p - 1) := by omega
    rw [this, Nat.mul_add_div hp, Nat.div_eq_of_lt (by omega), Nat.add_zero]
  omega
theorem znum2 {q b : Nat} (hb : 0 < b) (h : q % b + 1 < b) : (q + 1) % b = q % b + 1 ∧ (q + 1) / b = q / b := by
  have h1 := Nat.div_add_mod q b
  have e : q + 1 = b * (q / b) + (q % b + 1) := by omega
  constructor
  · rw [e, Nat.mul_add_mod, Nat.mod_eq_of_lt h]
  · have e2 : (q + 1) / b = (b * (q / b) + (q % b + 1)) / b := by rw [← e]
    rw [e2, Nat.mul_add_div hb, Nat.div_eq_of_lt h, Nat.add_zero]
theorem znum3 {q b : Nat} (h : q % b + 1 = b) : (q + 1) % b = 0 := by
  have h1 := Nat.div_add_mod q b
  have e : q + 1 = b * (q / b) + b := by omega
  rw [e, Nat.mul_add_mod, Nat.mod_self]
/-- digits of the next number -/
theorem zcr_next {α : AS} (hW : WF α) {c i : Nat} (hi : i < α 0 0) (h0 : (c + 1) % zpr α i = 0) (hd : c / zpr α i % zpc (α 3 i) + 1 < zpc (α 3 i)) {n : Nat} (hn : n < α 0 0) : zcr α (c + 1) n = if n < i then zkb (α 3 n) 0 else if n = i then zkb (α 3 i) (c / zpr α i % zpc (α 3 i) + 1) else zcr α c n := by
  have hp := zpr_pos hW i (by omega)
  have hb := zpc1 hW hi
  have n1 := znum1 hp h0
  have n2 := znum2 (q := c / zpr α i) (b := zpc (α 3 i)) hb hd
  unfold zcr
  by_cases c1 : n < i
  · rw [if_pos c1]
    congr 1
    have hdv : zpr α (n + 1) ∣ c + 1 := Nat.dvd_trans (by have := zpr_dvd α (n := n + 1) (i - (n + 1)); rw [show n + 1 + (i - (n + 1)) = i by omega] at this; exact this) (Nat.dvd_of_mod_eq_zero h0)
    obtain ⟨t, ht⟩ := hdv
    rw [ht, zpr_s, Nat.mul_assoc, Nat.mul_div_cancel_left _ (zpr_pos hW n (by omega)), Nat.mul_mod_right]
  · rw [if_neg c1]
    by_cases c2 : n = i
    · subst c2
      rw [if_pos rfl, n1, n2.1]
    · rw [if_neg c2]
      congr 2
      have hdv := zpr_dvd α (n := i + 1) (n - (i + 1))
      rw [show i + 1 + (n - (i + 1)) = n by omega] at hdv
      obtain ⟨t, ht⟩ := hdv
      rw [ht, ← Nat.div_div_eq_div_mul, ← Nat.div_div_eq_div_mul, zpr_s, ← Nat.div_div_eq_div_mul, ← Nat.div_div_eq_div_mul, n1, n2.2]
theorem zkbf : ∀ g, g < 16 → 1 ≤ g → (zkb g 0 = zlr g) := by decide +kernel
theorem zkbt : ∀ g, g < 16 → 1 ≤ g → ∀ d, d < 4 → d < zpc g → g.testBit (zkb g d) = true := by decide +kernel
theorem zkbg1 : ∀ g, g < 16 → 1 ≤ g → ∀ d, d < 4 → d + 1 < zpc g → (1 ≤ g / 2 ^ (zkb g d + 1) ∧ g / 2 ^ (zkb g d + 1) ≤ 15 ∧ zkb g d + (1 + zlr (g / 2 ^ (zkb g d + 1))) = zkb g (d + 1)) := by decide +kernel
theorem zkbg0 : ∀ g, g < 16 → 1 ≤ g → ∀ d, d < 4 → d + 1 = zpc g → g / 2 ^ (zkb g d + 1) = 0 := by decide +kernel
theorem zshr1 {g r : Nat} (hg : g < 16) (hr : r ≤ 3) : nI g >>> ((nI r + (1 : Int32)) &&& 31) = nI (g / 2 ^ (r + 1)) := by
  have : ∀ r, r < 4 → (((nI r + (1 : Int32)) &&& 31).toBitVec.smod 32).toNat = r + 1 := by decide +kernel
  exact pk_shrN (by omega) _ (r + 1) (this r (by omega))
theorem RC.fr18 {α : AS} {σ σ' : ZM} (h : RC α σ) (hW : zag [(18, none)] σ σ') : RC α σ' := h.fr hW (by decide +kernel) (by decide +kernel) (by decide +kernel) (by decide) (by decide)
theorem zw_takeNext2 {N : Nat} {α : AS} (hW : WF α) {c : Nat} (hc : c < zpr α (α 0 0)) : ∀ (j m i : Nat) (σ : ZM), i + j = α 0 0 → j < m → RC α σ → (c + 1) % zpr α i = 0 → (∀ n, n < α 0 0 → σ.1 18 n = nI (if n < i then zkb (α 3 n) 0 else zcr α c n)) → ∃ σ', f_X0_takeNextRules_2 N m (nI i) σ = some (zbI (c + 1 < zpr α (α 0 0)), σ') ∧ (c + 1 < zpr α (α 0 0) → ∀ n, n < α 0 0 → σ'.1 18 n = nI (zcr α (c + 1) n))
  | 0, m, i, σ, hij, hm, hC, h0, h18 => by
    have hn0 := hW.1.1
    obtain ⟨m, rfl⟩ : ∃ q, m = q + 1 := ⟨m - 1, by omega⟩
    have hi : i = α 0 0 := by omega
    subst hi
    have hno : ¬ c + 1 < zpr α (α 0 0) := fun q => by
      rw [Nat.mod_eq_of_lt q] at h0
      omega
    refine ⟨σ, ?_, fun q => absurd q hno⟩
    show b_X0_takeNextRules_2 N (f_X0_takeNextRules_2 N m) (nI (α 0 0)) σ = _
    unfold b_X0_takeNextRules_2
    rw [hC.nets, if_pos (zle_self (by omega)), zbI_f hno]
  | j + 1, m, i, σ, hij, hm, hC, h0, h18 => by
    have hn0 := hW.1.1
    obtain ⟨m, rfl⟩ : ∃ q, m = q + 1 := ⟨m - 1, by omega⟩
    have hi : i < α 0 0 := by omega
    have hi10 : i < 10 := by omega
    have hg := hW.2.2.1 i hi
    have hb := zpc1 hW hi
    have hb4 := zpc_le (α 3 i)
    have hp := zpr_pos hW i (by omega)
    obtain ⟨d, hd⟩ : ∃ d, d = c / zpr α i % zpc (α 3 i) := ⟨_, rfl⟩
    have hdb : d < zpc (α 3 i) := by rw [hd]; exact Nat.mod_lt _ hb
    have r18 : σ.1 18 i = nI (zkb (α 3 i) d) := by rw [h18 i hi, if_neg (by omega), hd]; rfl
    have hk3 := zkb_le (α 3 i) d
    have pre : f_X0_takeNextRules_2 N (m + 1) (nI i) σ = (if nI (α 3 i / 2 ^ (zkb (α 3 i) d + 1)) = 0 then (zbd (f_X3_leastRule N (nI i) σ) fun r4 s5 => (zast s5 18 10 (nI i) r4).bind fun s6 => (some (nI i + (1 : Int32))).bind fun v7 => f_X0_takeNextRules_2 N m v7 s6) else (zbd (f_J6_numberOfTrailingZeros_0f7a4 N (nI (α 3 i / 2 ^ (zkb (α 3 i) d + 1))) σ) fun r9 s10 => (zast s10 18 10 (nI i) (nI (zkb (α 3 i) d) + ((1 : Int32) + r9))).bind fun s11 => some ((1 : Int32), s11))) := by
      show b_X0_takeNextRules_2 N (f_X0_takeNextRules_2 N m) (nI i) σ = _
      unfold b_X0_takeNextRules_2
      rw [hC.nets, if_neg (nI_ge hi (by omega)), hC.gues hi10, Option.bind_some, zald_nI hi10 (by decide), Option.bind_some, r18, zshr1 (by omega) hk3, Option.bind_some, Option.bind_some]
    rw [pre]
    by_cases hlast : d + 1 < zpc (α 3 i)
    · obtain ⟨k1, k2, k3⟩ := zkbg1 (α 3 i) (by omega) hg.1 d (by omega) hlast
      have h1M : c + 1 < zpr α (α 0 0) := by
        by_cases q : c + 1 < zpr α (α 0 0)
        · exact q
        · exfalso
          have e : c + 1 = zpr α (α 0 0) := by omega
          have hdv := zpr_dvd α (n := i + 1) (α 0 0 - (i + 1))
          rw [show i + 1 + (α 0 0 - (i + 1)) = α 0 0 by omega, ← e] at hdv
          have n1 := znum1 hp h0
          have n2 := (znum2 (q := c / zpr α i) (b := zpc (α 3 i)) hb (by omega)).1
          obtain ⟨t, ht⟩ := hdv
          rw [← n1, ht, zpr_s, Nat.mul_assoc, Nat.mul_div_cancel_left _ hp, Nat.mul_mod_right] at n2
          omega
      refine ⟨zuI σ 18 i (nI (zkb (α 3 i) (d + 1))), ?_, fun _ n hn => ?_⟩
      · rw [if_neg (show ¬ nI (α 3 i / 2 ^ (zkb (α 3 i) d + 1)) = 0 from fun q => by have := nI_inj (b := 0) (by omega) (by decide) q; omega), zw_ntz N _ k1 k2]
        unfold zbd
        rw [Option.bind_some]
        try simp only
        rw [show (1 : Int32) = nI 1 from rfl, nI_add, nI_add, k3, zast_nI hi10 (by decide), Option.bind_some, zbI_t h1M]
        rfl
      · rw [zcr_next hW hi h0 (by omega) hn]
        by_cases e : n = i
        · subst e
          rw [zuI_s, if_neg (by omega), if_pos rfl, hd]
        · rw [zuI_n (fun q => e q.2), h18 n hn]
          congr 1
          by_cases q : n < i
          · rw [if_pos q, if_pos q]
          · rw [if_neg q, if_neg q, if_neg e]
    · have hbe : d + 1 = zpc (α 3 i) := by omega
      have k0 := zkbg0 (α 3 i) (by omega) hg.1 d (by omega) hbe
      have h1 : (c + 1) % zpr α (i + 1) = 0 := by
        have n1 := znum1 hp h0
        have n3 := znum3 (q := c / zpr α i) (b := zpc (α 3 i)) (by omega)
        rw [← n1] at n3
        have hdv1 := Nat.dvd_of_mod_eq_zero h0
        have hdv3 := Nat.dvd_of_mod_eq_zero n3
        obtain ⟨t, ht⟩ := hdv3
        have : c + 1 = zpr α i * (zpc (α 3 i) * t) := by rw [← ht]; exact (Nat.mul_div_cancel' hdv1).symm
        rw [this, zpr_s, ← Nat.mul_assoc]
        exact Nat.mul_mod_right _ _
      obtain ⟨s2, q1, q2⟩ := zw_takeNext2 (N := N) hW hc j m (i + 1) (zuI σ 18 i (nI (zlr (α 3 i)))) (by omega) (by omega) (hC.fr18 (zag_all zag_uI)) h1 (fun n hn => by
        by_cases e : n = i
        · subst e
          rw [zuI_s, if_pos (by omega), zkbf (α 3 n) (by omega) hg.1]
        · rw [zuI_n (fun q => e q.2), h18 n hn]
          congr 1
          by_cases q : n < i
          · rw [if_pos q, if_pos (by omega)]
          · rw [if_neg q, if_neg (by omega)])
      refine ⟨s2, ?_, q2⟩
      rw [k0, if_pos (show nI 0 = 0 from rfl)]
      unfold f_X3_leastRule
      rw [hC.gues hi10, Option.bind_some, zw_ntz N _ hg.1 hg.2]
      unfold zbd
      rw [Option.bind_some, Option.bind_some]
      try simp only
      rw [zast_nI hi10 (by decide), Option.bind_some, Option.bind_some, nI_1]
      exact q1
theorem zw_takeNextR {N : Nat} (hN : 14 < N) {α : AS} {σ : ZM} (hW : WF α) (hC : RC α σ) {c : Nat} (hc : c < zpr α (α 0 0)) (h18 : ∀ n, n < α 0 0 → σ.1 18 n = nI (zcr α c n)) : ∃ σ', f_X0_takeNextRules N σ = some (zbI (c + 1 < zpr α (α 0 0)), σ') ∧ zag [(18, none)] σ σ' ∧ (c + 1 < zpr α (α 0 0) → ∀ n, n < α 0 0 → σ'.1 18 n = nI (zcr α (c + 1) n)) := by
  have hn0 := hW.1.1
  obtain ⟨s1, a1, a2⟩ := zw_takeNext2 (N := N) hW hc (α 0 0) N 0 σ (by omega) (by omega) hC (Nat.mod_one _) (fun n hn => by rw [if_neg (Nat.not_lt_zero n)]; exact h18 n hn)
  have ef : f_X0_takeNextRules N σ = some (zbI (c + 1 < zpr α (α 0 0)), s1) := a1
  exact ⟨s1, ef, fr_X0_takeNextRules ef, a2⟩
theorem zcr0 {α : AS} (hW : WF α) {n : Nat} (hn : n < α 0 0) : zcr α 0 n = zlr (α 3 n) := by
  have hg := hW.2.2.1 n hn
  unfold zcr
  rw [Nat.zero_div, Nat.zero_mod]
  exact zkbf _ (by omega) hg.1
/-! packed -/
def zpq (α : AS) (c : Nat) : Nat → Nat
  | 0 => 0
  | n + 1 => zpq α c n + zcr α c n * 4 ^ n
theorem zpq_lt (α : AS) (c : Nat) : ∀ k, zpq α c k < 4 ^ k
  | 0 => show (0 : Nat) < 4 ^ 0 by decide
  | k + 1 => by
    have h1 := zpq_lt α c k
    have h2 : zcr α c k * 4 ^ k ≤ 3 * 4 ^ k := Nat.mul_le_mul_right _ (zcr_le α c k)
    show zpq α c k + zcr α c k * 4 ^ k < 4 ^ (k + 1)
    rw [Nat.pow_succ]
    omega
theorem zpq_dig (α : AS) (c : Nat) {n : Nat} : ∀ k, n < k → zpq α c k / 4 ^ n % 4 = zcr α c n
  | 0, hn => absurd hn (Nat.not_lt_zero n)
  | k + 1, hn => by
    show (zpq α c k + zcr α c k * 4 ^ k) / 4 ^ n % 4 = _
    by_cases e : n = k
    · subst e
      have h1 := zpq_lt α c n
      rw [Nat.add_mul_div_right _ _ (Nat.pow_pos (by decide)), Nat.div_eq_of_lt h1, Nat.zero_add, Nat.mod_eq_of_lt (by have := zcr_le α c n; omega)]
    · have hk : 4 ^ k = 4 ^ (k - n - 1) * 4 * 4 ^ n := by rw [← Nat.pow_succ, ← Nat.pow_add]; congr 1; omega
      rw [hk, ← Nat.mul_assoc, Nat.add_mul_div_right _ _ (Nat.pow_pos (by decide)), ← Nat.mul_assoc, Nat.add_mul_mod_self_right]
      exact zpq_dig α c k (by omega)
theorem z4p (n : Nat) : 4 ^ n = 2 ^ (2 * n) := by rw [Nat.pow_mul]
theorem zsh2 {n : Nat} (hn : n < 10) : ((((2 : Int32) * nI n) &&& 31).toBitVec.smod 32).toNat = 2 * n := by
  have : ∀ n, n < 10 → ((((2 : Int32) * nI n) &&& 31).toBitVec.smod 32).toNat = 2 * n := by decide +kernel
  exact this n hn
theorem zp4 {n : Nat} (hn : n < 10) : 4 ^ n ≤ 262144 := Nat.pow_le_pow_right (n := 4) (i := n) (j := 9) (by decide) (by omega)
theorem zpq_or {S d n : Nat} (hn : n < 10) (hS : S < 4 ^ n) (hd : d ≤ 3) : nI S ||| (nI d <<< (((2 : Int32) * nI n) &&& 31)) = nI (S + d * 4 ^ n) := by
  have h4 := zp4 hn
  have hm : d * 4 ^ n ≤ 3 * 262144 := Nat.mul_le_mul hd h4
  rw [pk_shlN _ (2 * n) (zsh2 hn) (by rw [← z4p]; omega), ← z4p, zorN (by omega) (by omega)]
  congr 1
  rw [z4p] at hS ⊢
  have := Nat.two_pow_add_eq_or_of_lt hS d
  rw [Nat.mul_comm d, Nat.or_comm, ← this, Nat.add_comm]
theorem zw_packed {N : Nat} (hN : 14 < N) {α : AS} {σ : ZM} (hW : WF α) (hC : RC α σ) {c : Nat} (h18 : ∀ n, n < α 0 0 → σ.1 18 n = nI (zcr α c n)) : f_X0_packedRules N σ = some (nI (zpq α c (α 0 0)), σ) := by
  have hn0 := hW.1.1
  refine zloopT (fun m (q : Int32 × Int32) => f_X0_packedRules_4 N m q.1 q.2 σ) (fun i => (nI (zpq α c i), nI i)) (α 0 0) _ (fun m => ?_) (fun m i hi => ?_) N 0 (by omega) (by omega)
  · show b_X0_packedRules_4 N (f_X0_packedRules_4 N m) _ (nI (α 0 0)) σ = _
    unfold b_X0_packedRules_4
    rw [hC.nets, if_pos (zle_self (by omega))]
  · show b_X0_packedRules_4 N (f_X0_packedRules_4 N m) (nI (zpq α c i)) (nI i) σ = f_X0_packedRules_4 N m (nI (zpq α c i + zcr α c i * 4 ^ i)) (nI (i + 1)) σ
    unfold b_X0_packedRules_4
    rw [hC.nets, if_neg (nI_ge hi (by omega)), zald_nI (show i < 10 by omega) (by decide), Option.bind_some, h18 i hi, Option.bind_some, Option.bind_some, zpq_or (by omega) (zpq_lt α c i) (zcr_le α c i), nI_1]
theorem zpq_31 {α : AS} (hW : WF α) (c : Nat) : zpq α c (α 0 0) < 2 ^ 31 := Nat.lt_of_lt_of_le (zpq_lt α c _) (Nat.le_trans (Nat.pow_le_pow_right (n := 4) (i := α 0 0) (j := 10) (by decide) hW.1.1) (by decide))
theorem zpq_get {α : AS} (hW : WF α) {c n : Nat} (hn : n < α 0 0) : ((nI (zpq α c (α 0 0)) >>> (((2 : Int32) * nI n) &&& 31)) &&& (3 : Int32)) = nI (zcr α c n) := by
  have hn0 := hW.1.1
  have h31 := zpq_31 hW c
  have hd : zpq α c (α 0 0) / 2 ^ (2 * n) < 2 ^ 32 := Nat.lt_of_le_of_lt (Nat.div_le_self _ _) (by omega)
  rw [pk_shrN h31 _ (2 * n) (zsh2 (by omega)), pk_andN hd 2 (by decide), ← z4p, zpq_dig α c _ hn]
theorem zw_takeRules {N : Nat} (hN : 14 < N) {α : AS} {σ : ZM} (hW : WF α) (hC : RC α σ) (c : Nat) : ∃ σ', f_X0_takeRules N (nI (zpq α c (α 0 0))) σ = some ((), σ') ∧ zag [(18, none)] σ σ' ∧ ∀ n, n < α 0 0 → σ'.1 18 n = nI (zcr α c n) := by
  have hn0 := hW.1.1
  obtain ⟨m', s', e1, e2, e3, e4⟩ := zloopS (fun m (q : Int32 × ZM) => f_X0_takeRules_2 N m (nI (zpq α c (α 0 0))) q.1 q.2)
    (fun i q => q.1 = nI i ∧ zag [(18, none)] σ q.2 ∧ ∀ n, n < i → q.2.1 18 n = nI (zcr α c n)) (α 0 0) (by
    rintro m i ⟨x, s⟩ hi ⟨p1, p2, p3⟩
    simp only at p1 p2 p3
    subst p1
    have hcs := hC.fr18 p2
    refine ⟨(nI (i + 1), zuI s 18 i (nI (zcr α c i))), ?_, rfl, zag_t p2 (zag_all zag_uI), fun n hn => ?_⟩
    · show b_X0_takeRules_2 N (f_X0_takeRules_2 N m) (nI (zpq α c (α 0 0))) (nI i) s = _
      unfold b_X0_takeRules_2
      rw [hcs.nets, if_neg (nI_ge hi (by omega)), zpq_get hW hi, zast_nI (show i < 10 by omega) (by decide), Option.bind_some, Option.bind_some, nI_1]
    · show (zuI s 18 i (nI (zcr α c i))).1 18 n = _
      by_cases e : n = i
      · subst e; rw [zuI_s]
      · rw [zuI_n (fun q => e q.2)]; exact p3 n (by omega)) N 0 (0, σ) (by omega) (by omega) ⟨rfl, zag_r, fun n hn => absurd hn (Nat.not_lt_zero n)⟩
  obtain ⟨x, s⟩ := s'
  simp only at e1 e2 e3 e4
  subst e2
  refine ⟨s, ?_, e3, e4⟩
  unfold f_X0_takeRules
  have e1 : f_X0_takeRules_2 N N (nI (zpq α c (α 0 0))) 0 σ = f_X0_takeRules_2 N (m' + 1) (nI (zpq α c (α 0 0))) (nI (α 0 0)) s := e1
  rw [e1]
  show b_X0_takeRules_2 N (f_X0_takeRules_2 N m') (nI (zpq α c (α 0 0))) (nI (α 0 0)) s = _
  unfold b_X0_takeRules_2
  rw [(hC.fr18 e3).nets, if_pos (zle_self (by omega))]
/-! the reference -/
def zwl (g : Nat) : Nat → Nat → Nat → Option Nat
  | 0, p, r => if p = 0 then some r else none
  | f + 1, p, r => if p = 0 then some r else zwl g f (p - (g / 2 ^ (r + 1) % 2)) (r + 1)
theorem zwl_all : ∀ g, g < 16 → 1 ≤ g → ∀ d, d < 4 → d < zpc g → zwl g 4 d (zlr g) = some (zkb g d) := by decide +kernel
theorem zw_case48 {N : Nat} {σ : ZM} {g : Nat} (hg : g < 16) {i : Nat} (hi : i < 10) (h3 : σ.1 3 i = nI g) {rcx : Int32 → Int32 → ZM → Option (Unit × ZM)} {x2 : Int32} : ∀ (f m p r r' : Nat), f < m → p ≤ 4 → r + f ≤ 10 → zwl g f p r = some r' → f_X9_askCase_48 N rcx m x2 (nI i) (nI p) (nI r) σ = rcx x2 (nI (i + 1)) (zuI σ 16 i (nI r'))
  | f, m, 0, r, r', hm, hp, hr, h => by
    obtain ⟨m, rfl⟩ : ∃ q, m = q + 1 := ⟨m - 1, by omega⟩
    have e : r = r' := by
      cases f with
      | zero => simpa [zwl] using h
      | succ f => simpa [zwl] using h
    subst e
    show b_X9_askCase_48 N rcx (f_X9_askCase_48 N rcx m) x2 (nI i) (nI 0) (nI r) σ = _
    unfold b_X9_askCase_48
    rw [if_pos (by decide), zast_nI hi (by decide), Option.bind_some, Option.bind_some, nI_1]
  | 0, m, p + 1, r, r', hm, hp, hr, h => by simp [zwl] at h
  | f + 1, m, p + 1, r, r', hm, hp, hr, h => by
    obtain ⟨m, rfl⟩ : ∃ q, m = q + 1 := ⟨m - 1, by omega⟩
    have h' : zwl g f (p + 1 - (g / 2 ^ (r + 1) % 2)) (r + 1) = some r' := by
      unfold zwl at h
      rw [if_neg (by omega)] at h
      exact h
    have hb : g / 2 ^ (r + 1) % 2 < 2 := Nat.mod_lt _ (by decide)
    have e1 : ((nI g >>> (nI (r + 1) &&& 31)) &&& (1 : Int32)) = nI (g / 2 ^ (r + 1) % 2) := by
      rw [zbit0 (by omega) (by omega), Nat.testBit_eq_decide_div_mod_eq]
      congr 1
      by_cases q : g / 2 ^ (r + 1) % 2 = 1
      · simp [q]
      · have : g / 2 ^ (r + 1) % 2 = 0 := by omega
        simp [this]
    show b_X9_askCase_48 N rcx (f_X9_askCase_48 N rcx m) x2 (nI i) (nI (p + 1)) (nI r) σ = _
    unfold b_X9_askCase_48
    rw [if_neg (show ¬ nI (p + 1) ≤ (0 : Int32) from nI_ge (show 0 < p + 1 by omega) (by omega)), Option.bind_some, nI_1, zald_nI hi (by decide), Option.bind_some, h3, e1, pk_sub (by omega), Option.bind_some]
    exact zw_case48 hg hi h3 f m _ (r + 1) r' (by omega) (by omega) (by omega) h'
theorem zw_askCase {N : Nat} (hN : 50 < N) {α : AS} {σ : ZM} (hW : WF α) (hM : RM α σ) {c : Nat} (hc : c < 2 ^ 30) : ∃ σ', f_X9_askCase N (nI c) σ = some ((), σ') ∧ zag [(16, none)] σ σ' ∧ RM α σ' ∧ ∀ n, n < α 0 0 → σ'.1 16 n = nI (zcr α c n) := by
  have hn0 := hW.1.1
  obtain ⟨m', s', e1, e2, e3, e4, e5⟩ := zloopS (fun m (q : Int32 × Int32 × ZM) => f_X9_askCase_4 N m q.1 q.2.1 q.2.2)
    (fun i q => q.1 = nI (c / zpr α i) ∧ q.2.1 = nI i ∧ zag [(16, none)] σ q.2.2 ∧ ∀ n, n < i → q.2.2.1 16 n = nI (zcr α c n)) (α 0 0) (by
    rintro m i ⟨x, y, s⟩ hi ⟨p1, p2, p3, p4⟩
    simp only at p1 p2 p3 p4
    subst p1 p2
    have hi10 : i < 10 := by omega
    have hms : RM α s := hM.frA (zag_w (by simp) p3)
    have hg := hW.2.2.1 i hi
    have hb := zpc1 hW hi
    have hb4 := zpc_le (α 3 i)
    have hq : c / zpr α i < 2 ^ 31 := Nat.lt_of_le_of_lt (Nat.div_le_self _ _) (by omega)
    have g3 : s.1 3 i = nI (α 3 i) := by
      have := hms.at 3 0 3 0 10 (by decide) hi10
      rw [Nat.zero_add] at this
      exact this
    have hnz : ¬ nI (zpc (α 3 i)) = 0 := fun q => by have := nI_inj (b := 0) (by omega) (by decide) q; omega
    have hd : c / zpr α i % zpc (α 3 i) < zpc (α 3 i) := Nat.mod_lt _ hb
    refine ⟨(nI (c / zpr α (i + 1)), nI (i + 1), zuI s 16 i (nI (zcr α c i))), ?_, rfl, rfl, zag_t p3 (zag_all zag_uI), fun n hn => ?_⟩
    · show b_X9_askCase_4 N (f_X9_askCase_4 N m) (nI (c / zpr α i)) (nI i) s = _
      unfold b_X9_askCase_4
      rw [hms.nets, if_neg (nI_ge hi (by omega)), hms.gues hi10, Option.bind_some, zw_ones N _ hg.2]
      unfold zbd
      rw [Option.bind_some]
      try simp only
      unfold zrem zdiv
      rw [if_neg hnz, pk_rem hq hb (by omega), Option.bind_some, hms.gues hi10, Option.bind_some, zw_ones N _ hg.2, Option.bind_some]
      try simp only
      rw [if_neg hnz, pk_div hq hb (by omega), Option.bind_some, hms.gues hi10, Option.bind_some, zw_least N _ (by omega) hg.1 hg.2, Option.bind_some]
      try simp only
      rw [zw_case48 (by omega) hi10 g3 4 N _ _ _ (by omega) (by omega) (by have := zlr_le (α 3 i); omega) (zwl_all (α 3 i) (by omega) hg.1 (c / zpr α i % zpc (α 3 i)) (by omega) hd), zpr_s, ← Nat.div_div_eq_div_mul]
      rfl
    · show (zuI s 16 i (nI (zcr α c i))).1 16 n = _
      by_cases e : n = i
      · subst e; rw [zuI_s]
      · rw [zuI_n (fun q => e q.2)]; exact p4 n (by omega)) N 0 (nI c, 0, σ) (by omega) (by omega) ⟨by show nI c = nI (c / 1); rw [Nat.div_one], rfl, zag_r, fun n hn => absurd hn (Nat.not_lt_zero n)⟩
  obtain ⟨x, y, s⟩ := s'
  simp only at e1 e2 e3 e4 e5
  subst e2 e3
  have hms : RM α s := hM.frA (zag_w (by simp) e4)
  refine ⟨s, ?_, e4, hms, e5⟩
  unfold f_X9_askCase
  have e1 : f_X9_askCase_4 N N (nI c) 0 σ = f_X9_askCase_4 N (m' + 1) (nI (c / zpr α (α 0 0))) (nI (α 0 0)) s := e1
  rw [e1]
  show b_X9_askCase_4 N (f_X9_askCase_4 N m') (nI (c / zpr α (α 0 0))) (nI (α 0 0)) s = _
  unfold b_X9_askCase_4
  rw [hms.nets, if_pos (zle_self (by omega))]
