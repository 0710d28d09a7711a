/-! ===== moves ===== -/
theorem zstep_cw {α β κ : AS} (h0 : α 0 0 = β 0 0) (h1 : α 1 = β 1) (h4 : α 4 = β 4) (w : WD) : zstep α κ w = zstep β κ w := by
  have e1 : ∀ n, zoffr α κ w n = zoffr β κ w n := fun n => by
    funext c
    unfold zoffr zspk zpas zpas2
    simp only [h1, h4]
  have e2 : ∀ n, zrk α κ w n = zrk β κ w n := fun n => by
    funext c
    unfold zrk zpay
    simp only [h1]
  funext n
  unfold zstep
  rw [h0, e1, e2]
theorem zit_cw {α β κ : AS} (h0 : α 0 0 = β 0 0) (h1 : α 1 = β 1) (h4 : α 4 = β 4) : ∀ k, zit α κ k = zit β κ k
  | 0 => rfl
  | k + 1 => by
    show zstep α κ (zit α κ k) = zstep β κ (zit β κ k)
    rw [zit_cw h0 h1 h4 k, zstep_cw h0 h1 h4]
theorem zrs_cw {α β κ : AS} (h0 : α 0 0 = β 0 0) (h1 : α 1 = β 1) (h4 : α 4 = β 4) : ∀ f k, zrs α κ f k = zrs β κ f k
  | 0, k => rfl
  | f + 1, k => by
    show (if zsame (zit α κ (k + 1)) (zit α κ k) = true then some k else zrs α κ f (k + 1)) = (if zsame (zit β κ (k + 1)) (zit β κ k) = true then some k else zrs β κ f (k + 1))
    rw [zit_cw h0 h1 h4, zit_cw h0 h1 h4, zrs_cw h0 h1 h4 f (k + 1)]
theorem zrest_cw {α β κ : AS} (h0 : α 0 0 = β 0 0) (h1 : α 1 = β 1) (h4 : α 4 = β 4) : zrest α κ = zrest β κ := zrs_cw h0 h1 h4 41 0
/-! to which sites all come, three bits a net -/
def zod (o : Option (Nat × Nat × List Nat)) : Nat := match o with
  | none => 0
  | some x => x.1 + 1
def zot (w : WD) : Nat → Nat
  | 0 => 0
  | n + 1 => zot w n + zod (w n) * 8 ^ n
theorem zod_le {α κ : AS} {w : WD} (hV : VW α κ w) (n : Nat) : zod (w n) ≤ 4 := by
  cases hw : w n with
  | none => exact Nat.zero_le _
  | some x => have := (hV n x hw).2.1.1; show x.1 + 1 ≤ 4; omega
theorem zod_sn {α κ β κ' : AS} {w v : WD} (hV : VW α κ w) (hU : VW β κ' v) (n : Nat) : zod (w n) = zod (v n) ↔ zsn (w n) = zsn (v n) := by
  cases hw : w n with
  | none =>
    cases hv : v n with
    | none => simp [zod, zsn]
    | some y => have := (hU n y hv).2.1.1; show 0 = y.1 + 1 ↔ 5 = y.1; omega
  | some x =>
    have h1 := (hV n x hw).2.1.1
    cases hv : v n with
    | none => show x.1 + 1 = 0 ↔ x.1 = 5; omega
    | some y => show x.1 + 1 = y.1 + 1 ↔ x.1 = y.1; omega
theorem zot_lt {w : WD} (h : ∀ n, zod (w n) ≤ 7) : ∀ k, zot w k < 8 ^ k
  | 0 => show (0 : Nat) < 8 ^ 0 by decide
  | k + 1 => by
    have h1 := zot_lt h k
    have h2 : zod (w k) * 8 ^ k ≤ 7 * 8 ^ k := Nat.mul_le_mul_right _ (h k)
    show zot w k + zod (w k) * 8 ^ k < 8 ^ (k + 1)
    rw [Nat.pow_succ]
    omega
theorem zot_dig {w : WD} (h : ∀ n, zod (w n) ≤ 7) {n : Nat} : ∀ k, n < k → zot w k / 8 ^ n % 8 = zod (w n)
  | 0, hn => absurd hn (Nat.not_lt_zero n)
  | k + 1, hn => by
    show (zot w k + zod (w k) * 8 ^ k) / 8 ^ n % 8 = _
    by_cases e : n = k
    · subst e
      have h1 := zot_lt h n
      rw [Nat.add_mul_div_right _ _ (Nat.pow_pos (by decide)), Nat.div_eq_of_lt h1, Nat.zero_add, Nat.mod_eq_of_lt (by have := h n; omega)]
    · have hk : 8 ^ k = 8 ^ (k - n - 1) * 8 * 8 ^ n := by rw [← Nat.pow_succ, ← Nat.pow_add]; congr 1; omega
      rw [hk, ← Nat.mul_assoc, Nat.add_mul_div_right _ _ (Nat.pow_pos (by decide)), ← Nat.mul_assoc, Nat.add_mul_mod_self_right]
      exact zot_dig h k (by omega)
theorem z8 (n : Nat) : 8 ^ n = 2 ^ (3 * n) := by rw [Nat.pow_mul]
theorem zsh3 {n : Nat} (hn : n < 10) : ((((3 : Int32) * nI n) &&& 31).toBitVec.smod 32).toNat = 3 * n := by
  have : ∀ n, n < 10 → ((((3 : Int32) * nI n) &&& 31).toBitVec.smod 32).toNat = 3 * n := by decide +kernel
  exact this n hn
theorem zp8 {n : Nat} (hn : n < 10) : 8 ^ n ≤ 134217728 := Nat.pow_le_pow_right (n := 8) (i := n) (j := 9) (by decide) (by omega)
theorem zot_or {S d n : Nat} (hn : n < 10) (hS : S < 8 ^ n) (hd : d ≤ 4) : nI S ||| (nI d <<< (((3 : Int32) * nI n) &&& 31)) = nI (S + d * 8 ^ n) := by
  have h8 := zp8 hn
  have hm : d * 8 ^ n ≤ 4 * 134217728 := Nat.mul_le_mul hd h8
  rw [pk_shlN _ (3 * n) (zsh3 hn) (by rw [← z8]; omega), ← z8, zorN (by omega) (by omega)]
  congr 1
  rw [z8] at hS ⊢
  have := Nat.two_pow_add_eq_or_of_lt hS d
  rw [Nat.mul_comm d, Nat.or_comm, ← this, Nat.add_comm]
theorem zw_outcome {N : Nat} (hN : 14 < N) {α κ : AS} {w : WD} {σ : ZM} (hn0 : α 0 0 ≤ 10) (h1 : σ.1 1 0 = nI (α 0 0)) (hV : VW α κ w) (h19 : ∀ n, n < 10 → σ.2 19 n = zen (w n)) : f_X2_outcome N σ = some (nI (zot w (α 0 0)), σ) := by
  refine zloopT (fun m (q : Int32 × Int32) => f_X2_outcome_4 N m q.1 q.2 σ) (fun i => (nI (zot w i), nI i)) (α 0 0) _ (fun m => ?_) (fun m i hi => ?_) N 0 (by omega) (by omega)
  · show b_X2_outcome_4 N (f_X2_outcome_4 N m) _ (nI (α 0 0)) σ = _
    unfold b_X2_outcome_4
    rw [h1, if_pos (zle_self (by omega))]
  · show b_X2_outcome_4 N (f_X2_outcome_4 N m) (nI (zot w i)) (nI i) σ = f_X2_outcome_4 N m (nI (zot w i + zod (w i) * 8 ^ i)) (nI (i + 1)) σ
    have hd := zod_le hV i
    have st : f_X2_siteOf N (zen (w i)) σ = some (nI (zod (w i)) + (-1), σ) := by
      cases hw : w i with
      | none => rfl
      | some x =>
        have hv := (hV i x hw).2.1
        rw [show zen (some x) = lN (wn x.1 x.2.1 x.2.2) from rfl, zw_siteOf hv]
        show some (nI x.1, σ) = some (nI (x.1 + 1) + (-1), σ)
        rw [pk_m1]
    unfold b_X2_outcome_4
    rw [h1, if_neg (nI_ge hi (by omega)), zalJ_nI (show i < 10 by omega) (by decide), Option.bind_some, h19 i (by omega), st]
    unfold zbd
    rw [Option.bind_some]
    try simp only
    have e1 : nI (zod (w i)) + (-1) + (1 : Int32) = nI (zod (w i)) := by rw [Int32.add_assoc]; exact Int32.add_zero _
    rw [Option.bind_some, Option.bind_some, e1, zot_or (by omega) (zot_lt (fun n => by have := zod_le hV n; omega) i) hd, nI_1]
theorem zxor7 {A B n : Nat} (hn : n < 10) (hA : A < 2 ^ 31) (hB : B < 2 ^ 31) : (((nI A ^^^ nI B) >>> (((3 : Int32) * nI n) &&& 31)) &&& (7 : Int32)) = 0 ↔ A / 8 ^ n % 8 = B / 8 ^ n % 8 := by
  have hx : A ^^^ B < 2 ^ 31 := Nat.xor_lt_two_pow hA hB
  have e : nI A ^^^ nI B = nI (A ^^^ B) := by
    apply Int32.toBitVec_inj.mp
    apply BitVec.eq_of_toNat_eq
    rw [Int32.toBitVec_xor, BitVec.toNat_xor, pk_tn (by omega), pk_tn (by omega), pk_tn (by omega)]
  have hd : (A ^^^ B) / 2 ^ (3 * n) < 2 ^ 32 := Nat.lt_of_le_of_lt (Nat.div_le_self _ _) (by omega)
  rw [e, pk_shrN hx _ (3 * n) (zsh3 hn), pk_andN hd 3 (by decide), z8]
  have m : (A ^^^ B) / 2 ^ (3 * n) % 2 ^ 3 = (A / 2 ^ (3 * n) % 2 ^ 3) ^^^ (B / 2 ^ (3 * n) % 2 ^ 3) := by
    rw [Nat.xor_div_two_pow, Nat.xor_mod_two_pow]
  have hl : (A ^^^ B) / 2 ^ (3 * n) % 2 ^ 3 < 2 ^ 31 := Nat.lt_of_lt_of_le (Nat.mod_lt _ (by decide)) (by decide)
  have x0 : ∀ x, x < 8 → ∀ y, y < 8 → (x ^^^ y = 0 ↔ x = y) := by decide
  have x1 := x0 (A / 2 ^ (3 * n) % 2 ^ 3) (Nat.mod_lt _ (by decide)) (B / 2 ^ (3 * n) % 2 ^ 3) (Nat.mod_lt _ (by decide))
  constructor
  · intro h
    have h0 := nI_inj (b := 0) hl (by decide) h
    rw [m] at h0
    exact x1.mp h0
  · intro h
    rw [m, x1.mpr h]
    rfl
def zmv (α : AS) (w v : WD) (k : Nat) : Nat := zsum (fun n => if zsn (w n) = zsn (v n) then 0 else α 2 n) k
theorem zw_unlike {N : Nat} (hN : 14 < N) {α β κ κ' : AS} {w v : WD} {σ : ZM} (hW : WF α) (hC : RC α σ) (hV : VW α κ w) (hU : VW β κ' v) : f_X3_askersUnlike N (nI (zot w (α 0 0))) (nI (zot v (α 0 0))) σ = some (nI (zmv α w v (α 0 0)), σ) := by
  have hn0 := hW.1.1
  have hw7 : ∀ n, zod (w n) ≤ 7 := fun n => by have := zod_le hV n; omega
  have hv7 : ∀ n, zod (v n) ≤ 7 := fun n => by have := zod_le hU n; omega
  have hp : 8 ^ (α 0 0) ≤ 1073741824 := Nat.pow_le_pow_right (n := 8) (i := α 0 0) (j := 10) (by decide) hn0
  have hA : zot w (α 0 0) < 2 ^ 31 := Nat.lt_of_lt_of_le (zot_lt hw7 _) (by omega)
  have hB : zot v (α 0 0) < 2 ^ 31 := Nat.lt_of_lt_of_le (zot_lt hv7 _) (by omega)
  refine zloopT (fun m (q : Int32 × Int32) => f_X3_askersUnlike_5 N m (nI (zot w (α 0 0))) (nI (zot v (α 0 0))) q.1 q.2 σ) (fun i => (nI (zmv α w v i), nI i)) (α 0 0) _ (fun m => ?_) (fun m i hi => ?_) N 0 (by omega) (by omega)
  · show b_X3_askersUnlike_5 N (f_X3_askersUnlike_5 N m) _ _ _ (nI (α 0 0)) σ = _
    unfold b_X3_askersUnlike_5
    rw [hC.nets, if_pos (zle_self (by omega))]
  · show b_X3_askersUnlike_5 N (f_X3_askersUnlike_5 N m) _ _ (nI (zmv α w v i)) (nI i) σ = f_X3_askersUnlike_5 N m (nI (zot w (α 0 0))) (nI (zot v (α 0 0))) (nI (zmv α w v i + if zsn (w i) = zsn (v i) then 0 else α 2 i)) (nI (i + 1)) σ
    have key := zxor7 (n := i) (by omega) hA hB
    rw [zot_dig hw7 _ hi, zot_dig hv7 _ hi, zod_sn hV hU i] at key
    unfold b_X3_askersUnlike_5 f_X3_askersUnlike_38
    rw [hC.nets, if_neg (nI_ge hi (by omega))]
    by_cases e : zsn (w i) = zsn (v i)
    · rw [if_pos (key.mpr e), if_pos e, Option.bind_some, nI_1]
      rfl
    · rw [if_neg (fun q => e (key.mp q)), if_neg e, hC.asks (show i < 10 by omega), Option.bind_some, Option.bind_some, Option.bind_some, nI_1, nI_add]
theorem au7 {α : AS} {s v : Nat} : au α 7 s v 7 = fun t => if t = s then v else α 7 t := by
  funext t
  unfold au
  simp
theorem au_back {α : AS} {k s v : Nat} : au (au α k s v) k s (α k s) = α := by
  funext a j
  unfold au
  by_cases h : a = k ∧ j = s
  · rw [if_pos h, h.1, h.2]
  · rw [if_neg h, if_neg h]
theorem zw_unlikeM {N : Nat} (hN : 14 < N) {α κ κ' : AS} {w v : WD} {σ : ZM} (hW : WF α) (hV : VW α κ w) (hU : VW α κ' v) (hM : RM α σ) (h27 : ∀ n, n < α 0 0 → σ.1 27 n = sI (zsn (w n))) (h17 : ∀ n, n < α 0 0 → σ.1 17 n = sI (zsn (v n))) : f_X9_moves_85 N N 0 0 σ = some (nI (zmv α w v (α 0 0)), σ) := by
  have hn0 := hW.1.1
  refine zloopT (fun m (q : Int32 × Int32) => f_X9_moves_85 N m q.1 q.2 σ) (fun i => (nI (zmv α w v i), nI i)) (α 0 0) _ (fun m => ?_) (fun m i hi => ?_) N 0 (by omega) (by omega)
  · show b_X9_moves_85 N (f_X9_moves_85 N m) _ (nI (α 0 0)) σ = _
    unfold b_X9_moves_85
    rw [hM.nets, if_pos (zle_self (by omega))]
  · show b_X9_moves_85 N (f_X9_moves_85 N m) (nI (zmv α w v i)) (nI i) σ = f_X9_moves_85 N m (nI (zmv α w v i + if zsn (w i) = zsn (v i) then 0 else α 2 i)) (nI (i + 1)) σ
    have z1 := zsn_le hV i
    have z2 := zsn_le hU i
    unfold b_X9_moves_85 f_X9_moves_123
    rw [hM.nets, if_neg (nI_ge hi (by omega)), zald_nI (show i < 10 by omega) (by decide), Option.bind_some, zald_nI (show i < 10 by omega) (by decide), Option.bind_some, h27 i hi, h17 i hi]
    by_cases e : zsn (w i) = zsn (v i)
    · rw [if_pos (by rw [e]), if_pos e, Option.bind_some, Option.bind_some, nI_1, show (0 : Int32) = nI 0 from rfl, nI_add]
    · rw [if_neg (fun q => e (sI_inj z1.1 z2.1 q)), if_neg e, hM.asks (show i < 10 by omega), Option.bind_some, Option.bind_some, Option.bind_some, nI_1, nI_add]
theorem RM.fr27 {α : AS} {σ σ' : ZM} (h : RM α σ) (hW : zag [(27, none)] σ σ') : RM α σ' := h.fr hW (by decide +kernel) ⟨⟨by decide, fun i => by simp⟩, ⟨by decide, fun i => by simp⟩⟩
theorem qu_moves {N : Nat} (hN : 50 < N) (x y : Int32) : zQry (f_X8_moves N x y) (f_X9_moves N x y) := by
  intro α σc σm hW hC hM
  have hn0 := hW.1.1
  have hs0 := hW.1.2.2.1
  have e4 : (4 : Int32).toInt = 4 := by decide
  have j4 : (4 : Int64).toInt = 4 := by decide
  have j0 : (0 : Int64).toInt = 0 := by decide
  unfold f_X8_moves f_X9_moves
  rw [zw_hasW N 12 x σc hC.sites (by omega), zw_isSite N x σm hM.sites (by omega)]
  unfold zbd
  rw [Option.bind_some, Option.bind_some]
  try simp only
  by_cases hx : 0 ≤ x.toInt ∧ x.toInt < α 0 2
  · rw [zbI_t hx, if_neg (by decide), if_neg (by decide), zw_within, zw_in, Option.bind_some, Option.bind_some]
    try simp only
    by_cases hy : 0 ≤ y.toInt ∧ y.toInt ≤ 4
    · rw [zbI_t (by rw [e4]; exact hy), zbI_t (by rw [z64, j0, j4]; exact hy), if_neg (by decide), if_neg (by decide)]
      obtain ⟨s, hs, rfl, -⟩ := zof hx
      obtain ⟨v, hv, rfl, hv3⟩ := zof (n := 5) (x := y) (by omega)
      have hs4 : s < 4 := by omega
      obtain ⟨s1, a1, a2, a3, a4⟩ := zw_settleNowC hN hW hC
      obtain ⟨t1, b1, b2, b3, b4, b5⟩ := zw_settleNowM hN hW hM
      rw [a1, b1, Option.bind_some, Option.bind_some]
      try simp only
      cases hr : zrest α (zkn α (zr0 α)) with
      | none =>
        rw [if_pos (show zro none = -9 from rfl), zbI_f (by simp), if_pos rfl]
        exact ⟨-3, s1, t1, rfl, rfl, a3, b2, a2⟩
      | some k =>
        have hk := zrest_le hr
        have hcc := a4 k hr
        have hmc := (b5 k hr).1
        have hK := zkn_KW hW (ρ := zr0 α) (fun n => zlr_le _)
        have hV := VW.it (κ := zkn α (zr0 α)) hW hK k
        obtain ⟨w, hw⟩ : ∃ w, w = zit α (zkn α (zr0 α)) k := ⟨_, rfl⟩
        rw [← hw] at hcc hmc hV
        have kd : s1.1 13 s = nI (α 7 s) := (a3.ca.2 s hs4).1
        -- the class with the other kind
        have hW' : WF (au α 7 s v) := hW.set7 hs (by omega)
        have hC' : RC (au α 7 s v) (zuI s1 13 s (nI v)) := a3.set 13 7 4 (by decide +kernel) (by decide +kernel) (by decide +kernel) (by decide) (by decide) (by decide) hs4 v
        obtain ⟨s2, c1, c2, c3, c4⟩ := zw_settleNowC hN hW' hC'
        have q0 : au α 7 s v 0 0 = α 0 0 := au_n (fun q => absurd q.1 (by decide))
        have q02 : au α 7 s v 0 2 = α 0 2 := au_n (fun q => absurd q.1 (by decide))
        have q1 : au α 7 s v 1 = α 1 := au_code (by decide)
        have q4 : au α 7 s v 4 = α 4 := au_code (by decide)
        obtain ⟨κ', hκ'⟩ : ∃ κ' : AS, κ' = zkap (α 0 2) (α 6) (fun t => if t = s then v else α 7 t) (α 8) (α 9) (zr0 α) := ⟨_, rfl⟩
        have ek : zkn (au α 7 s v) (zr0 (au α 7 s v)) = κ' := by
          rw [hκ']
          unfold zkn zr0
          rw [q02, au7, au_code (show 6 ≠ 7 by decide), au_code (show 8 ≠ 7 by decide), au_code (show 9 ≠ 7 by decide), au_code (show 3 ≠ 7 by decide)]
        rw [ek, zrest_cw q0 q1 q4] at c1 c4
        have hk7 : ∀ t, (fun t => if t = s then v else α 7 t) t ≤ 4 := fun t => by
          have := hW.2.2.2.2.2.1.2.1 t
          show (if t = s then v else α 7 t) ≤ 4
          split <;> omega
        have hK' : KW α κ' := by rw [hκ']; exact KW.mk hW (Nat.le_refl _) hk7 hW.2.2.2.2.2.1.2.2.1 hW.2.2.2.2.2.1.2.2.2.1 (fun n => zlr_le _)
        -- back
        obtain ⟨s3, hs3⟩ : ∃ s3, s3 = zuI s2 13 s (nI (α 7 s)) := ⟨_, rfl⟩
        have hC3 : RC α s3 := by
          have := c3.set 13 7 4 (by decide +kernel) (by decide +kernel) (by decide +kernel) (by decide) (by decide) (by decide) hs4 (α 7 s)
          rw [au_back] at this
          rw [hs3]; exact this
        have fr3 : zag zWQ σc s3 := by
          intro k i h1 h2
          have k1 := a2 k i h1 h2
          have k2 := c2 k i h1 h2
          by_cases e : k = 13 ∧ i = s
          · refine ⟨?_, ?_⟩
            · rw [e.1, e.2, hs3, zuI_s]
              have := (hC.ca.2 s hs4).1
              exact this.symm
            · rw [hs3]; exact k2.2.trans k1.2
          · refine ⟨?_, ?_⟩
            · rw [hs3, zuI_n e, k2.1, zuI_n e, k1.1]
            · rw [hs3]; exact k2.2.trans k1.2
        have preC : (Option.bind (f_X2_outcome N s1) fun q => Option.bind (f_X8_put N 13 4 (nI s) (nI v) q.2) fun q_1 => Option.bind (f_X8_settleNow N q_1.2) fun q_2 => if q_2.1 = -9 then f_X8_moves_72 N (nI s) q.1 q_1.1 0 q_2.2 else f_X8_moves_72 N (nI s) q.1 q_1.1 1 q_2.2) = (if zro (zrest α κ') = (-9 : Int32) then f_X8_moves_72 N (nI s) (nI (zot w (α 0 0))) (nI (α 7 s)) 0 s2 else f_X8_moves_72 N (nI s) (nI (zot w (α 0 0))) (nI (α 7 s)) 1 s2) := by
          rw [zw_outcome (by omega) hn0 a3.nets hV hcc.2.2.2, Option.bind_some]
          try simp only
          unfold f_X8_put
          rw [zald_nI hs4 (by decide), Option.bind_some, zast_nI hs4 (by decide), Option.bind_some, Option.bind_some]
          try simp only
          rw [c1, Option.bind_some, kd]
        rw [if_neg (zro_some (by omega)), zbI_t (by simp), if_neg (by decide)]
        -- the reference: what stood before
        obtain ⟨m', s', e1, e2, e3, e5⟩ := zloopS (fun m (q : Int32 × ZM) => f_X9_moves_37 N m (nI s) (nI v) q.1 q.2)
          (fun i q => q.1 = nI i ∧ zag [(27, none)] t1 q.2 ∧ ∀ n, n < i → q.2.1 27 n = sI (zsn (w n))) (α 0 0) (by
          rintro m i ⟨z, u⟩ hi ⟨p1, p2, p3⟩
          simp only at p1 p2 p3
          subst p1
          have hmu := b2.fr27 p2
          refine ⟨(nI (i + 1), zuI u 27 i (sI (zsn (w i)))), ?_, rfl, zag_t p2 (zag_all zag_uI), fun n hn => ?_⟩
          · show b_X9_moves_37 N (f_X9_moves_37 N m) (nI s) (nI v) (nI i) u = _
            unfold b_X9_moves_37
            rw [hmu.nets, if_neg (nI_ge hi (by omega)), zald_nI (show i < 10 by omega) (by decide), Option.bind_some, zast_nI (show i < 10 by omega) (by decide), Option.bind_some, Option.bind_some, nI_1, (p2 17 i (by decide) (by simp)).1, (hmc.2.2.2 i hi).site (fun x hx => (hV i x hx).2.1.1)]
          · show (zuI u 27 i (sI (zsn (w i)))).1 27 n = _
            by_cases e : n = i
            · subst e; rw [zuI_s]
            · rw [zuI_n (fun q => e q.2)]; exact p3 n (by omega)) N 0 (0, t1) (by omega) (by omega) ⟨rfl, zag_r, fun n hn => absurd hn (Nat.not_lt_zero n)⟩
        obtain ⟨z, u⟩ := s'
        simp only at e1 e2 e3 e5
        subst e2
        have hmu := b2.fr27 e3
        obtain ⟨u1, hu1⟩ : ∃ u1, u1 = zuI u 12 s (nI v) := ⟨_, rfl⟩
        have gA : zag zWA u u1 := by rw [hu1]; exact zag_w (W1 := [(12, none)]) (by simp) (zag_all zag_uI)
        have ma : MA (α 0 2) (α 6) (fun t => if t = s then v else α 7 t) (α 8) (α 9) u1 := by
          refine ⟨by rw [hu1, zuI_n (by simp), (e3 0 14 (by decide) (by decide)).1]; exact b3.1, fun t ht => ?_⟩
          obtain ⟨r1, r2, r3, r4⟩ := b3.2 t ht
          refine ⟨?_, ?_, ?_, ?_⟩
          · show _ = nI (if t = s then v else α 7 t)
            rw [hu1]
            by_cases e : t = s
            · subst e; rw [zuI_s, if_pos rfl]
            · rw [zuI_n (fun q => e q.2), if_neg e, (e3 12 t (by decide) (by simp)).1]; exact r1
          · rw [hu1, zuI_n (by simp), (e3 13 t (by decide) (by simp)).1]; exact r2
          · rw [hu1, zuI_n (by simp), (e3 14 t (by decide) (by simp)).1]; exact r3
          · rw [hu1, zuI_n (by simp), (e3 15 t (by decide) (by simp)).1]; exact r4
        have mb : MB α κ' u1 := by
          rw [hκ']
          refine ⟨hmu.frA gA, ma.ms hs0 (Nat.le_refl _) hW.2.2.2.2.2.1.1 hk7, fun n hn => ?_⟩
          rw [hu1, zuI_n (by simp), (e3 16 n (by decide) (by simp)).1]
          exact b4 n hn
        obtain ⟨u2, d1, d2, d3⟩ := zw_settleM hN hW hK' mb
        have preM : f_X9_moves_37 N N (nI s) (nI v) 0 t1 = (if zbI ((zrest α κ').isSome = true) = 0 then some ((-3 : Int32), u2) else f_X9_moves_85 N N 0 0 u2) := by
          have e1 : f_X9_moves_37 N N (nI s) (nI v) 0 t1 = f_X9_moves_37 N (m' + 1) (nI s) (nI v) (nI (α 0 0)) u := e1
          rw [e1]
          show b_X9_moves_37 N (f_X9_moves_37 N m') (nI s) (nI v) (nI (α 0 0)) u = _
          unfold b_X9_moves_37
          rw [hmu.nets, if_pos (zle_self (by omega)), zast_nI hs4 (by decide), Option.bind_some, ← hu1, d1]
          rfl
        rw [preM]
        refine ⟨(match zrest α κ' with | none => (-3 : Int32) | some k2 => nI (zmv α w (zit α κ' k2) (α 0 0))), s3, u2, ?_, ?_, hC3, mb.1.frM d2, fr3⟩
        · refine Eq.trans preC ?_
          unfold f_X8_moves_72
          rw [zast_nI hs4 (by decide), Option.bind_some, Option.bind_some, ← hs3]
          cases hr2 : zrest α κ' with
          | none => rw [if_pos (show zro none = -9 from rfl), if_pos rfl]
          | some k2 =>
            have hk2 := zrest_le hr2
            have hcc2 := c4 k2 hr2
            rw [zit_cw q0 q1 q4] at hcc2
            have hV2 := VW.it (κ := κ') hW hK' k2
            have h19 : ∀ n, n < 10 → s3.2 19 n = zen (zit α κ' k2 n) := fun n hn => by rw [hs3, zuI_2]; exact hcc2.2.2.2 n hn
            rw [if_neg (zro_some (by omega)), if_neg (by decide), zw_outcome (by omega) hn0 hC3.nets hV2 h19]
            unfold zbd
            rw [Option.bind_some]
            try simp only
            rw [zw_unlike (by omega) hW hC3 hV hV2]
            rfl
        · cases hr2 : zrest α κ' with
          | none => rw [zbI_f (by simp), if_pos rfl]
          | some k2 =>
            have hm2 := (d3 k2 hr2).1
            have hV2 := VW.it (κ := κ') hW hK' k2
            rw [zbI_t (by simp), if_neg (by decide)]
            refine zw_unlikeM (by omega) hW hV hV2 hm2.1 (fun n hn => ?_) (fun n hn => (hm2.2.2.2 n hn).site (fun x hx => (hV2 n x hx).2.1.1))
            rw [(d2 27 n (by decide) (by simp)).1, hu1, zuI_n (by simp)]
            exact e5 n hn
    · rw [zbI_f (by rw [e4]; exact hy), zbI_f (by rw [z64, j0, j4]; exact hy), if_pos rfl, if_pos rfl]
      exact ⟨-2, σc, σm, rfl, rfl, hC, hM, zag_r⟩
  · rw [zbI_f hx, if_pos rfl, if_pos rfl]
    exact ⟨-1, σc, σm, rfl, rfl, hC, hM, zag_r⟩
