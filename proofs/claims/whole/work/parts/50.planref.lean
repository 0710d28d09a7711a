/-! ===== the plan: reference ===== -/
theorem zrem4 {a : Nat} (h : a < 2 ^ 31) : zrem (nI a) (4 : Int32) = some (nI (a % 4)) := by
  unfold zrem
  rw [if_neg (by decide), show (4 : Int32) = nI 4 from rfl, pk_rem h (by decide) (by decide)]
theorem zdiv4 {a : Nat} (h : a < 2 ^ 31) : zdiv (nI a) (4 : Int32) = some (nI (a / 4)) := by
  unfold zdiv
  rw [if_neg (by decide), show (4 : Int32) = nI 4 from rfl, pk_div h (by decide) (by decide)]
theorem RM.fr39 {α : AS} {σ σ' : ZM} (h : RM α σ) (hW : zag [(39, none)] σ σ') : RM α σ' := h.fr hW (by decide +kernel) ⟨⟨by decide, fun i => by simp⟩, ⟨by decide, fun i => by simp⟩⟩
theorem zca_bit {α : AS} (hW : WF α) (s : Nat) : (zca α).testBit s = decide (s < α 0 2 ∧ zaim α s ≠ α 7 s) := zchg_bit α _ s hW.1.2.2.1
theorem zw_layOrder15 {N : Nat} {α : AS} (hW : WF α) {k c : Nat} (hk : k ≤ 4) : ∀ (j m left met : Nat) (is : Bool) (σ : ZM), j ≤ k → j < m → left = c / 4 ^ (k - j) → c < 256 → met < 16 → RM α σ → (∀ i, j ≤ i → i < k → σ.1 39 i = nI (zor4 k c i)) → ∃ σ', f_X9_layOrder_15 N m (nI left) (nI met) (zbI (is = true)) (nI j + (-1)) σ = some (zbI (zvb (zca α) j left met is = true), σ') ∧ ∀ i, i < k → σ'.1 39 i = nI (zor4 k c i)
  | 0, m, left, met, is, σ, hj, hm, hl, hc, hmt, hM, hO => by
    obtain ⟨m, rfl⟩ : ∃ q, m = q + 1 := ⟨m - 1, by omega⟩
    have hlt : left < 256 := by rw [hl]; exact Nat.lt_of_le_of_lt (Nat.div_le_self _ _) hc
    refine ⟨σ, ?_, fun i hi => hO i (by omega) hi⟩
    show b_X9_layOrder_15 N (f_X9_layOrder_15 N m) (nI left) (nI met) (zbI (is = true)) (nI 0 + (-1)) σ = _
    unfold b_X9_layOrder_15
    rw [if_pos (by decide)]
    have ev : zvb (zca α) 0 left met is = (is && decide (left = 0)) := rfl
    rw [ev]
    cases is with
    | false => rfl
    | true =>
      rw [show zbI (true = true) = 1 from rfl, if_neg (by decide), Bool.true_and]
      by_cases e : left = 0
      · subst e; rfl
      · rw [if_neg (show ¬ nI left = 0 from fun q => e (nI_inj (b := 0) (by omega) (by decide) q)), decide_eq_false e]
        rfl
  | j + 1, m, left, met, is, σ, hj, hm, hl, hc, hmt, hM, hO => by
    have hs0 := hW.1.2.2.1
    obtain ⟨m, rfl⟩ : ∃ q, m = q + 1 := ⟨m - 1, by omega⟩
    have hlt : left < 256 := by rw [hl]; exact Nat.lt_of_le_of_lt (Nat.div_le_self _ _) hc
    obtain ⟨s, hs⟩ : ∃ s, s = left % 4 := ⟨_, rfl⟩
    have hs4 : s < 4 := by omega
    have eo : zor4 k c j = s := by
      unfold zor4
      rw [show k - 1 - j = k - (j + 1) by omega, ← hl, hs]
    have hl2 : left / 4 = c / 4 ^ (k - j) := by
      rw [hl, Nat.div_div_eq_div_mul, ← Nat.pow_succ]
      congr 2
      omega
    have hmt2 : met ||| 2 ^ s < 16 := Nat.or_lt_two_pow (n := 4) hmt (Nat.pow_lt_pow_right (by decide) hs4)
    obtain ⟨u, hu⟩ : ∃ u, u = zuI σ 39 j (nI s) := ⟨_, rfl⟩
    have hmu : RM α u := hM.fr39 (by rw [hu]; exact zag_all zag_uI)
    have hO2 : ∀ i, j ≤ i → i < k → u.1 39 i = nI (zor4 k c i) := fun i h1 h2 => by
      rw [hu]
      by_cases e : i = j
      · subst e; rw [zuI_s, eo]
      · rw [zuI_n (fun q => e q.2)]; exact hO i (by omega) h2
    rw [pk_m1]
    have nn : ¬ nI j < 0 := fun q => by rw [Int32.lt_iff_toInt_lt, nI_toInt (by omega)] at q; have : (0 : Int32).toInt = 0 := rfl; omega
    have rcs : ∀ b : Bool, ∃ σ', f_X9_layOrder_82 N (f_X9_layOrder_15 N m) (nI (left / 4)) (nI met) (nI j) (nI s) (zbI (b = true)) u = some (zbI (zvb (zca α) j (left / 4) (met ||| 2 ^ s) b = true), σ') ∧ ∀ i, i < k → σ'.1 39 i = nI (zor4 k c i) := fun b => by
      obtain ⟨v, w1, w2⟩ := zw_layOrder15 (N := N) hW hk j m (left / 4) (met ||| 2 ^ s) b u (by omega) (by omega) hl2 hc hmt2 hmu hO2
      refine ⟨v, ?_, w2⟩
      unfold f_X9_layOrder_82
      rw [Option.bind_some, Option.bind_some, zor_nI hmt hs4]
      exact w1
    have ev : zvb (zca α) (j + 1) left met is = zvb (zca α) j (left / 4) (met ||| 2 ^ s) (is && ((zca α).testBit s && !met.testBit s)) := by rw [hs]; rfl
    rw [ev]
    obtain ⟨v, w1, w2⟩ := rcs (is && ((zca α).testBit s && !met.testBit s))
    refine ⟨v, ?_, w2⟩
    show b_X9_layOrder_15 N (f_X9_layOrder_15 N m) (nI left) (nI met) (zbI (is = true)) (nI j) σ = _
    rw [← w1]
    unfold b_X9_layOrder_15 f_X9_layOrder_81
    rw [if_neg nn, zrem4 (by omega), Option.bind_some, zdiv4 (by omega), Option.bind_some, ← hs, zast_nI (show j < 4 by omega) (by decide), Option.bind_some, ← hu]
    cases is with
    | false => rfl
    | true =>
      rw [show zbI (true = true) = 1 from rfl, if_neg (by decide), Bool.true_and, hmu.sites, zca_bit hW]
      by_cases h1 : α 0 2 ≤ s
      · rw [if_pos (nI_le h1 (by omega)), decide_eq_false (fun q => by omega)]
        rfl
      · rw [if_neg (nI_ge (by omega) (by omega))]
        cases hb : met.testBit s with
        | true =>
          rw [if_neg (fun q => by rw [zbitZ (by omega) (by omega), hb] at q; exact absurd q (by decide)), Bool.not_true, Bool.and_false]
          rfl
        | false =>
          rw [if_pos ((zbitZ (by omega) (by omega)).mpr hb), zw_aimM hW hmu (show s < α 0 2 by omega), Bool.not_false, Bool.and_true]
          unfold zbd
          rw [Option.bind_some]
          try simp only
          rw [hmu.knd hs4, Option.bind_some]
          have z1 := zaim_le hW s
          have z2 := hW.2.2.2.2.2.1.2.1 s
          by_cases e : zaim α s = α 7 s
          · rw [if_pos (by rw [e]), decide_eq_false (fun q => q.2 e)]
            rfl
          · rw [if_neg (fun q => e (nI_inj (by omega) (by omega) q)), decide_eq_true (⟨by omega, e⟩ : s < α 0 2 ∧ zaim α s ≠ α 7 s)]
            rfl
theorem zw_layOrder {N : Nat} (hN : 14 < N) {α : AS} {σ : ZM} (hW : WF α) (hM : RM α σ) {k c : Nat} (hk : k ≤ 4) (hc : c < 256) (h53 : σ.1 0 53 = nI k) : ∃ σ', f_X9_layOrder N (nI c) σ = some (zbI (zvb (zca α) k c 0 true = true), σ') ∧ ∀ i, i < k → σ'.1 39 i = nI (zor4 k c i) := by
  obtain ⟨v, w1, w2⟩ := zw_layOrder15 (N := N) hW hk k N c 0 true σ (Nat.le_refl _) (by omega) (by rw [Nat.sub_self, Nat.pow_zero, Nat.div_one]) hc (by decide) hM (fun i h1 h2 => by omega)
  refine ⟨v, ?_, w2⟩
  unfold f_X9_layOrder
  rw [Option.bind_some, h53, zm1]
  exact w1
def zpm (o : Nat → Nat) : Nat → Nat
  | 0 => 0
  | i + 1 => zpm o i ||| 2 ^ (o i)
def zwp (g : Nat → Nat) (o : Nat → Nat) : Nat → Nat
  | 0 => 0
  | i + 1 => zmx2 (zwp g o i) (g (zpm o (i + 1)))
theorem zmx2_as {a b c : Nat} : zmx2 (zmx2 a b) c = zmx2 a (zmx2 b c) := by
  unfold zmx2
  by_cases h1 : a < b
  · rw [if_pos h1]
    by_cases h2 : b < c
    · rw [if_pos h2, if_pos (by omega)]
    · rw [if_neg h2, if_pos h1]
  · rw [if_neg h1]
    by_cases h2 : b < c
    · rw [if_pos h2]
    · rw [if_neg h2, if_neg (by omega), if_neg h1]
theorem zmx2_0 {a : Nat} : zmx2 0 a = a ∧ zmx2 a 0 = a := by
  unfold zmx2
  constructor
  · split <;> omega
  · rw [if_neg (by omega)]
theorem zwp_ws {g o : Nat → Nat} : ∀ (m i : Nat), zmx2 (zwp g o i) (zwrs g (zpm o i) (zlo o i m)) = zwp g o (i + m)
  | 0, i => zmx2_0.2
  | m + 1, i => by
    show zmx2 (zwp g o i) (zmx2 (g (zpm o i ||| 2 ^ o i)) (zwrs g (zpm o i ||| 2 ^ o i) (zlo o (i + 1) m))) = _
    rw [← zmx2_as]
    have := zwp_ws (g := g) (o := o) m (i + 1)
    rw [show i + 1 + m = i + (m + 1) by omega] at this
    exact this
theorem zwp_all {g o : Nat → Nat} (k : Nat) : zwp g o k = zwrs g 0 (zlo o 0 k) := by
  have := zwp_ws (g := g) (o := o) k 0
  rw [Nat.zero_add] at this
  rw [← this]
  exact zmx2_0.1
def zkd (α : AS) (D : Nat) : AS := zkap (α 0 2) (α 6) (fun s => if D.testBit s = true then zaim α s else α 7 s) (α 8) (α 9) (zr0 α)
theorem zkd_le {α : AS} (hW : WF α) (D s : Nat) : (fun s => if D.testBit s = true then zaim α s else α 7 s) s ≤ 4 := by
  have := zaim_le hW s
  have := hW.2.2.2.2.2.1.2.1 s
  show (if D.testBit s = true then zaim α s else α 7 s) ≤ 4
  split <;> omega
theorem zkd_KW {α : AS} (hW : WF α) (D : Nat) : KW α (zkd α D) := KW.mk hW (Nat.le_refl _) (zkd_le hW D) hW.2.2.2.2.2.1.2.2.1 hW.2.2.2.2.2.1.2.2.2.1 (fun n => zlr_le _)
theorem zkd_g {α : AS} (hW : WF α) (D : Nat) : zg α D = zgv (zEk α (zkd α D)) := by
  unfold zg zEv
  rw [zka_eq (u := α 6) (k := fun s => if D.testBit s = true then zaim α s else α 7 s) hW (zpb_le hW D) (fun s hs => ?_)]
  · rfl
  · by_cases e : s < α 0 2 ∧ α 6 s = 1
    · rw [if_pos e, if_pos e]
      unfold zpb
      by_cases q : D.testBit s = true
      · rw [if_pos ⟨q, e⟩, if_pos q]
      · rw [if_neg (fun r => q r.1), if_neg q]
        unfold zkn
        rw [zkap0, if_pos e]
    · rw [if_neg e, if_neg e]
abbrev zWO : List (Nat × Option Nat) := [(0, some 14), (0, some 30), (0, some 31), (12, none), (13, none), (14, none), (15, none), (16, none), (17, none), (18, none), (19, none), (20, none), (21, none), (22, none), (23, none), (24, none), (25, none), (26, none)]
theorem RM.frO {α : AS} {σ σ' : ZM} (h : RM α σ) (hW : zag zWO σ σ') : RM α σ' := h.fr hW (by decide +kernel) ⟨⟨by decide, fun i => by simp⟩, ⟨by decide, fun i => by simp⟩⟩
theorem zw_worstM {N : Nat} (hN : 50 < N) {α : AS} {σ : ZM} (hW : WF α) (hM : RM α σ) {k : Nat} (hk : k ≤ 4) {o : Nat → Nat} (ho : ∀ i, i < k → o i < α 0 2) (h53 : σ.1 0 53 = nI k) (h39 : ∀ i, i < k → σ.1 39 i = nI (o i)) : ∃ σ', f_X9_worstOfOrder N σ = some (nI (zwp (zg α) o k), σ') := by
  have hs0 := hW.1.2.2.1
  have hg : ∀ i, zwp (zg α) o i ≤ 1000000 := fun i => by
    induction i with
    | zero => exact Nat.zero_le _
    | succ i ih => exact zmx2_le ih (zg_le hW _)
  obtain ⟨m', s', e1, e2, e3, e4⟩ := zloopS (fun m (q : Int32 × Int32 × ZM) => f_X9_worstOfOrder_4 N m q.1 q.2.1 q.2.2)
    (fun i q => q.1 = nI (zwp (zg α) o i) ∧ q.2.1 = nI i ∧ zag zWO σ q.2.2) k (by
    rintro m i ⟨x, y, s⟩ hi ⟨p1, p2, p3⟩
    simp only at p1 p2 p3
    subst p1 p2
    have hms := hM.frO p3
    obtain ⟨t1, a1, a2, a3, a4, a5⟩ := zw_askNow (N := N) (by omega) hW hms
    have q39 : ∀ j, j < k → t1.1 39 j = nI (o j) := fun j hj => by rw [(a2 39 j (by decide) (by simp)).1, (p3 39 j (by decide) (by simp)).1]; exact h39 j hj
    obtain ⟨m2, u2, d1, d2, d3, d4, d5⟩ := zloopS (fun m2 (q : Int32 × ZM) => f_X9_worstOfOrder_18 N (f_X9_worstOfOrder_4 N m) m2 (nI (zwp (zg α) o i)) (nI i) q.1 q.2)
      (fun j q => q.1 = nI j ∧ zag zWA t1 q.2 ∧ (∀ n, n < α 0 0 → q.2.1 16 n = nI (zlr (α 3 n))) ∧ MA (α 0 2) (α 6) (fun s => if (zpm o j).testBit s = true then zaim α s else α 7 s) (α 8) (α 9) q.2) (i + 1) (by
      rintro m2 j ⟨x, u⟩ hj ⟨r1, r2, r3, r4⟩
      simp only at r1 r2 r3 r4
      subst r1
      have hjk : j < k := by omega
      have oj := ho j hjk
      have hmu := a3.frA r2
      have u39 : u.1 39 j = nI (o j) := by rw [(r2 39 j (by decide) (by simp)).1]; exact q39 j hjk
      obtain ⟨v, hv⟩ : ∃ v, v = zuI u 12 (o j) (nI (zaim α (o j))) := ⟨_, rfl⟩
      have gv : zag zWA u v := by rw [hv]; exact zag_w (W1 := [(12, none)]) (by simp) (zag_all zag_uI)
      refine ⟨(nI (j + 1), v), ?_, rfl, zag_t r2 gv, fun n hn => ?_, ?_, fun t ht => ?_⟩
      · show b_X9_worstOfOrder_18 N (f_X9_worstOfOrder_4 N m) (f_X9_worstOfOrder_18 N (f_X9_worstOfOrder_4 N m) m2) (nI (zwp (zg α) o i)) (nI i) (nI j) u = _
        unfold b_X9_worstOfOrder_18
        rw [if_neg (by rw [Int32.lt_iff_toInt_lt, nI_toInt (by omega), nI_toInt (by omega)]; omega), zald_nI (show j < 4 by omega) (by decide), Option.bind_some, Option.bind_some, u39, zw_aimM hW hmu oj]
        unfold zbd
        rw [Option.bind_some]
        try simp only
        rw [zast_nI (show o j < 4 by omega) (by decide), Option.bind_some, Option.bind_some, nI_1, ← hv]
      · show v.1 16 n = _
        rw [hv, zuI_n (by simp)]; exact r3 n hn
      · show v.1 0 14 = _
        rw [hv, zuI_n (by simp)]; exact r4.1
      · obtain ⟨w1, w2, w3, w4⟩ := r4.2 t ht
        refine ⟨?_, ?_, ?_, ?_⟩
        · show v.1 12 t = nI (if (zpm o j ||| 2 ^ o j).testBit t = true then zaim α t else α 7 t)
          rw [ztb_or1, hv]
          by_cases e : t = o j
          · rw [e, zuI_s, decide_eq_true rfl, Bool.or_true, if_pos rfl]
          · rw [zuI_n (fun q => e q.2), decide_eq_false (fun q => e q.symm), Bool.or_false]
            exact w1
        · show v.1 13 t = _
          rw [hv, zuI_n (by simp)]; exact w2
        · show v.1 14 t = _
          rw [hv, zuI_n (by simp)]; exact w3
        · show v.1 15 t = _
          rw [hv, zuI_n (by simp)]; exact w4) N 0 (0, t1) (by omega) (by omega) ⟨rfl, zag_r, a5, ⟨a4.1, fun t ht => by
        obtain ⟨w1, w2, w3, w4⟩ := a4.2 t ht
        refine ⟨?_, w2, w3, w4⟩
        show _ = nI (if Nat.testBit 0 t = true then zaim α t else α 7 t)
        rw [Nat.zero_testBit, if_neg (by decide)]; exact w1⟩⟩
    obtain ⟨x, u⟩ := u2
    simp only at d1 d2 d3 d4 d5
    subst d2
    have mb : MB α (zkd α (zpm o (i + 1))) u := ⟨a3.frA d3, d5.ms hs0 (Nat.le_refl _) hW.2.2.2.2.2.1.1 (zkd_le hW _), d4⟩
    obtain ⟨v, f1, f2, f3, f4⟩ := zw_weighM hN hW (zkd_KW hW _) mb
    have eg := zkd_g hW (zpm o (i + 1))
    have hb1 := hg i
    have hb2 := zg_le hW (zpm o (i + 1))
    have cmp : f_X9_worstOfOrder_67 N (f_X9_worstOfOrder_4 N m) (nI (zwp (zg α) o i)) (nI i) (nI (zg α (zpm o (i + 1)))) v = f_X9_worstOfOrder_4 N m (nI (zwp (zg α) o (i + 1))) (nI (i + 1)) v := by
      unfold f_X9_worstOfOrder_67 f_X9_worstOfOrder_78
      have ez : zwp (zg α) o (i + 1) = zmx2 (zwp (zg α) o i) (zg α (zpm o (i + 1))) := rfl
      rw [Option.bind_some, Option.bind_some, nI_1, ez]
      unfold zmx2
      by_cases q : zwp (zg α) o i < zg α (zpm o (i + 1))
      · rw [if_neg (nI_ge q (by omega)), if_pos q]
      · rw [if_pos (nI_le (by omega) (by omega)), if_neg q]
    refine ⟨(nI (zwp (zg α) o (i + 1)), nI (i + 1), v), ?_, rfl, rfl, zag_t p3 (zag_t (zag_w (by simp) a2) (zag_t (zag_w (by simp) d3) (zag_w (by simp) f2)))⟩
    show b_X9_worstOfOrder_4 N (f_X9_worstOfOrder_4 N m) (nI (zwp (zg α) o i)) (nI i) s = f_X9_worstOfOrder_4 N m (nI (zwp (zg α) o (i + 1))) (nI (i + 1)) v
    rw [← cmp]
    unfold b_X9_worstOfOrder_4
    have s53 : s.1 0 53 = nI k := by rw [(p3 0 53 (by decide) (by decide)).1]; exact h53
    rw [s53, if_neg (nI_ge hi (by omega)), a1]
    unfold zbd
    rw [Option.bind_some]
    try simp only
    have d1 : f_X9_worstOfOrder_18 N (f_X9_worstOfOrder_4 N m) N (nI (zwp (zg α) o i)) (nI i) 0 t1 = f_X9_worstOfOrder_18 N (f_X9_worstOfOrder_4 N m) (m2 + 1) (nI (zwp (zg α) o i)) (nI i) (nI (i + 1)) u := d1
    rw [d1]
    show b_X9_worstOfOrder_18 N (f_X9_worstOfOrder_4 N m) (f_X9_worstOfOrder_18 N (f_X9_worstOfOrder_4 N m) m2) (nI (zwp (zg α) o i)) (nI i) (nI (i + 1)) u = _
    unfold b_X9_worstOfOrder_18
    rw [if_pos (by rw [Int32.lt_iff_toInt_lt, nI_toInt (by omega), nI_toInt (by omega)]; omega), f1]
    unfold zbd
    rw [Option.bind_some]
    try simp only
    cases hx : zEk α (zkd α (zpm o (i + 1))) with
    | none =>
      rw [hx] at eg
      rw [zbI_f (by simp), if_pos rfl, eg]
      rfl
    | some y =>
      rw [hx] at eg
      rw [zbI_t (by simp), if_neg (by decide), (f4 y hx).1, Option.bind_some, eg]
      rfl) N 0 (0, 0, σ) (by omega) (by omega) ⟨rfl, rfl, zag_r⟩
  obtain ⟨x, y, s⟩ := s'
  simp only at e1 e2 e3 e4
  subst e2 e3
  refine ⟨s, ?_⟩
  unfold f_X9_worstOfOrder
  have e1 : f_X9_worstOfOrder_4 N N 0 0 σ = f_X9_worstOfOrder_4 N (m' + 1) (nI (zwp (zg α) o k)) (nI k) s := e1
  rw [e1]
  show b_X9_worstOfOrder_4 N (f_X9_worstOfOrder_4 N m') (nI (zwp (zg α) o k)) (nI k) s = _
  unfold b_X9_worstOfOrder_4
  rw [(e4 0 53 (by decide) (by decide)).1, h53, if_pos (zle_self (by omega))]
theorem zvld_mem {A : Nat} : ∀ (l : List Nat) (D : Nat), zvld A D l = true → ∀ s, s ∈ l → A.testBit s = true
  | [], D, _, s, hs => absurd hs (List.not_mem_nil)
  | t :: r, D, h, s, hs => by
    unfold zvld at h
    rw [Bool.and_eq_true] at h
    rw [List.mem_cons] at hs
    rcases hs with e | e
    · rw [e]
      have := h.1
      unfold zinn at this
      rw [Bool.and_eq_true] at this
      exact this.1
    · exact zvld_mem r _ h.2 s e
def SO (k : Nat) (r : Nat → Nat) (b : Option Nat) (σ : ZM) : Prop := match b with
  | none => σ.1 0 56 = -1
  | some d => σ.1 0 56 = nI (r d) ∧ ∀ i, i < k → σ.1 40 i = nI (zor4 k d i)
theorem SO.mv {k : Nat} {r : Nat → Nat} {b : Option Nat} {σ σ' : ZM} (h : SO k r b σ) (e1 : σ'.1 0 56 = σ.1 0 56) (e2 : ∀ i, σ'.1 40 i = σ.1 40 i) : SO k r b σ' := by
  cases b with
  | none => show σ'.1 0 56 = -1; rw [e1]; exact h
  | some d => exact ⟨by rw [e1]; exact h.1, fun i hi => by rw [e2]; exact h.2 i hi⟩
abbrev zWP : List (Nat × Option Nat) := [(0, some 14), (0, some 30), (0, some 31), (0, some 53), (0, some 56), (12, none), (13, none), (14, none), (15, none), (16, none), (17, none), (18, none), (19, none), (20, none), (21, none), (22, none), (23, none), (24, none), (25, none), (26, none), (39, none), (40, none)]
theorem RM.frP {α : AS} {σ σ' : ZM} (h : RM α σ) (hW : zag zWP σ σ') : RM α σ' := h.fr hW (by decide +kernel) ⟨⟨by decide, fun i => by simp⟩, ⟨by decide, fun i => by simp⟩⟩
theorem zw_takeOrder {N : Nat} (hN : 14 < N) {k c : Nat} (hk : k ≤ 4) {r : Nat → Nat} {rcx : Int32 → ZM → Option (Unit × ZM)} {x1 : Int32} {σ : ZM} (h39 : ∀ i, i < k → σ.1 39 i = nI (zor4 k c i)) : ∃ σ', f_X9_layOrders_57 N rcx x1 (nI (r c)) σ = f_X9_layOrders_87 N rcx x1 σ' ∧ zag [(0, some 56), (40, none)] σ σ' ∧ SO k r (some c) σ' := by
  obtain ⟨s1, hs1⟩ : ∃ s1, s1 = zuI σ 0 56 (nI (r c)) := ⟨_, rfl⟩
  have z1 : zag [(0, some 56), (40, none)] σ s1 := by rw [hs1]; exact zag_w (W1 := [(0, some 56)]) (by simp) zag_uI
  obtain ⟨m', s', e1, e2, e3, e4⟩ := zloopS (fun m (q : Int32 × ZM) => f_X9_layOrders_64 N rcx m x1 q.1 q.2)
    (fun i q => q.1 = nI i ∧ zag [(40, none)] s1 q.2 ∧ ∀ s, s < i → q.2.1 40 s = σ.1 39 s) 4 (by
    rintro m i ⟨x, s⟩ hi ⟨p1, p2, p3⟩
    simp only at p1 p2 p3
    subst p1
    have o39 : s.1 39 i = σ.1 39 i := by rw [(p2 39 i (by decide) (by simp)).1, hs1, zuI_n (by simp)]
    refine ⟨(nI (i + 1), zuI s 40 i (σ.1 39 i)), ?_, rfl, zag_t p2 (zag_all zag_uI), fun t ht => ?_⟩
    · show b_X9_layOrders_64 N rcx (f_X9_layOrders_64 N rcx m) x1 (nI i) s = _
      unfold b_X9_layOrders_64
      rw [if_neg (by rw [show (4 : Int32) = nI 4 from rfl]; exact nI_ge hi (by decide)), zald_nI hi (by decide), Option.bind_some, zast_nI hi (by decide), Option.bind_some, Option.bind_some, nI_1, o39]
    · show (zuI s 40 i (σ.1 39 i)).1 40 t = _
      by_cases e : t = i
      · subst e; rw [zuI_s]
      · rw [zuI_n (fun q => e q.2)]; exact p3 t (by omega)) N 0 (0, s1) (by omega) (by omega) ⟨rfl, zag_r, fun n hn => absurd hn (Nat.not_lt_zero n)⟩
  obtain ⟨x, s⟩ := s'
  simp only at e1 e2 e3 e4
  subst e2
  refine ⟨s, ?_, zag_t z1 (zag_w (by simp) e3), ?_, fun i hi => ?_⟩
  · unfold f_X9_layOrders_57 zpI
    rw [Option.bind_some, ← hs1]
    have e1 : f_X9_layOrders_64 N rcx N x1 0 s1 = f_X9_layOrders_64 N rcx (m' + 1) x1 (nI 4) s := e1
    rw [e1]
    show b_X9_layOrders_64 N rcx (f_X9_layOrders_64 N rcx m') x1 (nI 4) s = _
    unfold b_X9_layOrders_64
    rw [if_pos (show (4 : Int32) ≤ nI 4 by decide)]
  · rw [(e3 0 56 (by decide) (by decide)).1, hs1, zuI_s]
  · rw [e4 i (by omega), h39 i hi]
theorem zw_layOrders {N : Nat} (hN : 700 < N) {α : AS} {σ : ZM} (hW : WF α) (hM : RM α σ) : ∃ σ', f_X9_layOrders N σ = some ((), σ') ∧ RM α σ' ∧ σ'.1 0 53 = nI (zpc (zca α)) ∧ (0 < zpc (zca α) → σ'.1 0 56 = nI (zhh (zca α) (zg α) (zpc (zca α)) 0) ∧ ∀ j s, (zgl (zca α) (zg α) (zhh (zca α) (zg α) (zpc (zca α)) 0) (zpc (zca α)) 0)[j]? = some s → σ'.1 40 j = nI s) := by
  have hs0 := hW.1.2.2.1
  have hA := zca_lt hW
  have hk4 := zpc_le (zca α)
  have ek : zsum (fun s => if zaim α s = α 7 s then 0 else 1) (α 0 2) = zpc (zca α) := (zchg_pc α (α 0 2) hs0).symm
  obtain ⟨k, hk⟩ : ∃ k, k = zpc (zca α) := ⟨_, rfl⟩
  have best := fun q => zorder_best hA (zg_le hW) q
  rw [← hk] at ek hk4 best ⊢
  obtain ⟨s0, hs0'⟩ : ∃ s0, s0 = zuI (zuI σ 0 53 (nI k)) 0 56 (-1) := ⟨_, rfl⟩
  have z0 : zag zWP σ s0 := by rw [hs0']; exact zag_t (zag_w (W1 := [(0, some 53)]) (by simp) zag_uI) (zag_w (W1 := [(0, some 56)]) (by simp) zag_uI)
  have hm0 := hM.frP z0
  have k53 : s0.1 0 53 = nI k := by rw [hs0', zuI_n (by simp), zuI_s]
  have pre : f_X9_layOrders N σ = f_X9_layOrders_15 N N 0 s0 := by
    unfold f_X9_layOrders zpI
    rw [zw_stepCount (by omega) hW hM, ek]
    unfold zbd
    rw [Option.bind_some]
    try simp only
    rw [Option.bind_some, Option.bind_some, ← hs0']
  by_cases k0 : k = 0
  · refine ⟨s0, ?_, hm0, k53, fun q => by omega⟩
    rw [pre]
    obtain ⟨m, rfl⟩ : ∃ m, N = m + 1 := ⟨N - 1, by omega⟩
    show b_X9_layOrders_15 (m + 1) (f_X9_layOrders_15 (m + 1) m) 0 s0 = _
    unfold b_X9_layOrders_15
    rw [if_neg (by decide), k53, k0, if_pos (by decide)]
  · have kpos : 0 < k := by omega
    obtain ⟨b, hb1, hb2, hb3⟩ := best kpos
    obtain ⟨V, hV⟩ : ∃ V : Nat → Bool, V = fun c => zvb (zca α) k c 0 true := ⟨_, rfl⟩
    obtain ⟨R, hR⟩ : ∃ R : Nat → Nat, R = fun c => zwrs (zg α) 0 (zlo (zor4 k c) 0 k) := ⟨_, rfl⟩
    rw [← hV, ← hR] at hb1
    have hRb : ∀ c, R c ≤ 1000000 := fun c => by
      rw [hR]
      show zwrs (zg α) 0 (zlo (zor4 k c) 0 k) ≤ 1000000
      generalize zlo (zor4 k c) 0 k = l
      have : ∀ (l : List Nat) D, zwrs (zg α) D l ≤ 1000000 := fun l => by
        induction l with
        | nil => intro D; exact Nat.zero_le _
        | cons s t ih => intro D; exact zmx2_le (zg_le hW _) (ih _)
      exact this l 0
    obtain ⟨m', s', e1, e2, e3, e4, e5⟩ := zloopS (fun m (q : Int32 × ZM) => f_X9_layOrders_15 N m q.1 q.2)
      (fun c q => q.1 = nI c ∧ RM α q.2 ∧ q.2.1 0 53 = nI k ∧ SO k R (zmn V R c) q.2) 256 (by
      rintro m c ⟨x, s⟩ hc ⟨p1, p2, p3, p4⟩
      simp only at p1 p2 p3 p4
      subst p1
      obtain ⟨s1, a1, a2⟩ := zw_layOrder (N := N) (by omega) hW p2 hk4 hc p3
      have f1 := fr_X9_layOrder a1
      have hm1 := p2.fr39 f1
      have k1 : s1.1 0 53 = nI k := by rw [(f1 0 53 (by decide) (by decide)).1]; exact p3
      have so1 : SO k R (zmn V R c) s1 := p4.mv (f1 0 56 (by decide) (by decide)).1 (fun i => (f1 40 i (by decide) (by simp)).1)
      have go : ∀ s2, f_X9_layOrders_87 N (f_X9_layOrders_15 N m) (nI c) s2 = f_X9_layOrders_15 N m (nI (c + 1)) s2 := fun s2 => by
        unfold f_X9_layOrders_87
        rw [Option.bind_some, nI_1]
      have pr : f_X9_layOrders_15 N (m + 1) (nI c) s = (if zbI (V c = true) = 0 then f_X9_layOrders_87 N (f_X9_layOrders_15 N m) (nI c) s1 else (zbd (f_X9_worstOfOrder N s1) fun r8 s9 => if (s9.1 0 56) < 0 then (f_X9_layOrders_57 N (f_X9_layOrders_15 N m) (nI c) r8 s9) else (if (s9.1 0 56) ≤ r8 then (f_X9_layOrders_87 N (f_X9_layOrders_15 N m) (nI c) s9) else (f_X9_layOrders_57 N (f_X9_layOrders_15 N m) (nI c) r8 s9)))) := by
        show b_X9_layOrders_15 N (f_X9_layOrders_15 N m) (nI c) s = _
        unfold b_X9_layOrders_15
        rw [if_neg (by rw [show (256 : Int32) = nI 256 from rfl]; exact nI_ge hc (by decide)), p3, if_neg (show ¬ nI k ≤ (0 : Int32) from nI_ge (show 0 < k from kpos) (by omega)), a1, hV]
        rfl
      simp only
      rw [pr]
      have eB : zmn V R (c + 1) = if V c = true then (match zmn V R c with | none => some c | some b => if R c < R b then some c else some b) else zmn V R c := rfl
      by_cases hv : V c = true
      · rw [if_pos hv] at eB
        have hv' : zvb (zca α) k c 0 true = true := by rw [hV] at hv; exact hv
        have va := zvb_all (zca α) hA c hc
        rw [← hk, hv'] at va
        have va2 := va.symm
        rw [Bool.and_eq_true] at va2
        have ho : ∀ i, i < k → zor4 k c i < α 0 2 := fun i hi => by
          have := zvld_mem _ _ va2.1 (zor4 k c i) (List.mem_of_getElem? (by have := zlo_get (o := zor4 k c) k 0 i hi; rw [Nat.zero_add] at this; exact this))
          rw [zca_bit hW] at this
          exact (of_decide_eq_true this).1
        obtain ⟨s2, b1⟩ := zw_worstM (N := N) (by omega) hW hm1 hk4 ho k1 a2
        have f2 := fr_X9_worstOfOrder b1
        have ew : zwp (zg α) (zor4 k c) k = R c := by rw [hR]; exact zwp_all k
        rw [ew] at b1
        have hm2 := hm1.frO f2
        have k2 : s2.1 0 53 = nI k := by rw [(f2 0 53 (by decide) (by decide)).1]; exact k1
        have so2 : SO k R (zmn V R c) s2 := so1.mv (f2 0 56 (by decide) (by decide)).1 (fun i => (f2 40 i (by decide) (by simp)).1)
        have h39 : ∀ i, i < k → s2.1 39 i = nI (zor4 k c i) := fun i hi => by rw [(f2 39 i (by decide) (by simp)).1]; exact a2 i hi
        obtain ⟨s3, t1, t2, t3⟩ := zw_takeOrder (N := N) (by omega) hk4 (r := R) (rcx := f_X9_layOrders_15 N m) (x1 := nI c) h39
        have hm3 : RM α s3 := hm2.frP (zag_w (by simp) t2)
        have k3 : s3.1 0 53 = nI k := by rw [(t2 0 53 (by decide) (by decide)).1]; exact k2
        rw [zbI_t hv, if_neg (by decide), b1]
        unfold zbd
        rw [Option.bind_some]
        try simp only
        cases hz : zmn V R c with
        | none =>
          rw [hz] at so2 eB
          have h9 : s2.1 0 56 = -1 := so2
          refine ⟨(nI (c + 1), s3), ?_, rfl, hm3, k3, by rw [eB]; exact t3⟩
          rw [h9, if_pos (by decide), t1, go]
        | some d =>
          rw [hz] at so2 eB
          simp only at eB
          have h9 := so2.1
          have hd := hRb d
          have hcb := hRb c
          rw [h9, if_neg (fun q => by rw [Int32.lt_iff_toInt_lt, nI_toInt (by omega)] at q; have : (0 : Int32).toInt = 0 := rfl; omega)]
          by_cases q : R c < R d
          · rw [if_pos q] at eB
            refine ⟨(nI (c + 1), s3), ?_, rfl, hm3, k3, by rw [eB]; exact t3⟩
            rw [if_neg (nI_ge q (by omega)), t1, go]
          · rw [if_neg q] at eB
            refine ⟨(nI (c + 1), s2), ?_, rfl, hm2, k2, by rw [eB]; exact so2⟩
            rw [if_pos (nI_le (by omega) (by omega)), go]
      · rw [if_neg hv] at eB
        refine ⟨(nI (c + 1), s1), ?_, rfl, hm1, k1, by rw [eB]; exact so1⟩
        rw [zbI_f hv, if_pos rfl, go]) N 0 (0, s0) (by omega) (by omega) ⟨rfl, hm0, k53, by show s0.1 0 56 = -1; rw [hs0', zuI_s]⟩
    obtain ⟨x, s⟩ := s'
    simp only at e1 e2 e3 e4 e5
    subst e2
    rw [hb1] at e5
    obtain ⟨q1, q2⟩ := e5
    refine ⟨s, ?_, e3, e4, fun _ => ⟨?_, fun j t ht => ?_⟩⟩
    · rw [pre]
      have e1 : f_X9_layOrders_15 N N 0 s0 = f_X9_layOrders_15 N (m' + 1) (nI 256) s := e1
      rw [e1]
      show b_X9_layOrders_15 N (f_X9_layOrders_15 N m') (nI 256) s = _
      unfold b_X9_layOrders_15
      rw [if_pos (by decide)]
    · rw [q1, hR]
      show nI (zwrs (zg α) 0 (zlo (zor4 k b) 0 k)) = _
      rw [hb2]
    · have hj : j < k := by
        have := (List.getElem?_eq_some_iff.mp ht).1
        rw [← hb3, zlo_len] at this
        exact this
      rw [q2 j hj]
      rw [← hb3, zlo_get k 0 j hj, Nat.zero_add] at ht
      cases ht
      rfl
/-! step, stepWorst, go -/
theorem zgl_all {α : AS} (hW : WF α) : (zgl (zca α) (zg α) (zhh (zca α) (zg α) (zpc (zca α)) 0) (zpc (zca α)) 0).length = zpc (zca α) ∧ ∀ s, s ∈ zgl (zca α) (zg α) (zhh (zca α) (zg α) (zpc (zca α)) 0) (zpc (zca α)) 0 → s < α 0 2 := by
  have hA := zca_lt hW
  have hss : zss (zca α) 0 (zpc (zca α)) := by
    have := zss_of hA (show 0 < 16 by decide) (Nat.zero_and _)
    rw [show zpc 0 = 0 from rfl, Nat.sub_zero] at this
    exact this
  obtain ⟨i1, i2, i3, i4⟩ := zgl_ok hA (zg_le hW) (zpc (zca α)) 0 hss (Nat.le_refl _)
  refine ⟨i3, fun s hs => ?_⟩
  have := zvld_mem _ _ i1 s hs
  rw [zca_bit hW] at this
  exact (of_decide_eq_true this).1
theorem qu_step {N : Nat} (hN : 700 < N) (x : Int32) : zQch (f_X8_step N x) (f_X9_step N x) := by
  intro α σc σm hW hC hM hF
  obtain ⟨s1, a1, a2, a3, a4, a5, a6, a7⟩ := zw_plan hN hW hC hF
  obtain ⟨t1, b1, b2, b3, b4⟩ := zw_layOrders hN hW hM
  obtain ⟨g1, g2⟩ := zgl_all hW
  have hk4 := zpc_le (zca α)
  generalize zgl (zca α) (zg α) (zhh (zca α) (zg α) (zpc (zca α)) 0) (zpc (zca α)) 0 = L at *
  generalize zpc (zca α) = k at *
  have j0 : (0 : Int64).toInt = 0 := by decide
  have c0 : (0 : Int32).toInt = 0 := rfl
  unfold f_X8_step f_X9_step
  rw [a1, b1]
  unfold zbd
  rw [Option.bind_some, Option.bind_some]
  try simp only
  rw [zw_in, b3, zpred (by omega), z64, j0, Option.bind_some]
  try simp only
  by_cases hx : 0 ≤ x.toInt ∧ x.toInt < k
  · obtain ⟨j, hj, rfl, -⟩ := zof hx
    have hg : L[j]? = some L[j] := List.getElem?_eq_getElem (by omega)
    have kpos : 0 < k := by omega
    refine ⟨nI L[j], s1, t1, ?_, ?_, a2, b2, a3, a7⟩
    · rw [if_neg (fun q => by rw [Int32.lt_iff_toInt_lt] at q; omega), a5, if_neg (nI_ge hj (by omega)), zald_nI (show j < 4 by omega) (by decide), Option.bind_some, a6 j _ hg]
    · rw [zbI_t (by omega), if_neg (by decide), zald_nI (show j < 4 by omega) (by decide), Option.bind_some, (b4 kpos).2 j _ hg]
  · refine ⟨-9, s1, t1, ?_, ?_, a2, b2, a3, a7⟩
    · by_cases h1 : x < 0
      · rw [if_pos h1]
      · rw [if_neg h1, a5, if_pos]
        rw [Int32.le_iff_toInt_le, nI_toInt (by omega)]
        rw [Int32.lt_iff_toInt_lt] at h1
        omega
    · rw [zbI_f (by omega), if_pos rfl]
theorem qu_stepWorst {N : Nat} (hN : 700 < N) : zQch (f_X8_stepWorst N) (f_X9_stepWorst N) := by
  intro α σc σm hW hC hM hF
  obtain ⟨s1, a1, a2, a3, a4, a5, a6, a7⟩ := zw_plan hN hW hC hF
  obtain ⟨t1, b1, b2, b3, b4⟩ := zw_layOrders hN hW hM
  have hk4 := zpc_le (zca α)
  refine ⟨nI (zhh (zca α) (zg α) (zpc (zca α)) 0), s1, t1, ?_, ?_, a2, b2, a3, a7⟩
  · unfold f_X8_stepWorst
    rw [a1]
    unfold zbd
    rw [Option.bind_some]
    try simp only
    rw [a4]
  · unfold f_X9_stepWorst
    rw [b1]
    unfold zbd
    rw [Option.bind_some]
    try simp only
    rw [b3]
    by_cases k0 : zpc (zca α) = 0
    · rw [k0, if_pos (show nI 0 = 0 from rfl)]
      rfl
    · rw [if_neg (show ¬ nI (zpc (zca α)) = 0 from fun q => k0 (nI_inj (b := 0) (by omega) (by decide) q)), (b4 (by omega)).1]
/-- a call that asks the chart, and may change what is said -/
def zQgo {R : Type} (f g : ZM → Option (R × ZM)) : Prop := ∀ (α : AS) (σc σm : ZM), WF α → RC α σc → RM α σm → ChOK α σc → ∃ (r : R) (σc1 σm1 : ZM) (α1 : AS), f σc = some (r, σc1) ∧ g σm = some (r, σm1) ∧ WF α1 ∧ RC α1 σc1 ∧ RM α1 σm1 ∧ ((α1 = α ∧ ChOK α σc1 ∧ zag zWY σc σc1) ∨ Stale σc1)
theorem qu_go {N : Nat} (hN : 700 < N) : zQgo (f_X8_go N) (f_X9_go N) := by
  intro α σc σm hW hC hM hF
  have hs0 := hW.1.2.2.1
  obtain ⟨s1, a1, a2, a3, a4, a5, a6, a7⟩ := zw_plan hN hW hC hF
  obtain ⟨t1, b1, b2, b3, b4⟩ := zw_layOrders hN hW hM
  obtain ⟨g1, g2⟩ := zgl_all hW
  have hk4 := zpc_le (zca α)
  generalize zgl (zca α) (zg α) (zhh (zca α) (zg α) (zpc (zca α)) 0) (zpc (zca α)) 0 = L at *
  generalize zpc (zca α) = k at *
  unfold f_X8_go f_X9_go
  rw [a1, b1]
  unfold zbd
  rw [Option.bind_some, Option.bind_some]
  try simp only
  rw [a5, b3]
  by_cases k0 : k = 0
  · rw [k0, if_pos (show nI 0 = 0 from rfl), if_pos (show nI 0 = 0 from rfl)]
    exact ⟨-9, s1, t1, α, rfl, rfl, hW, a2, b2, Or.inl ⟨rfl, a3, a7⟩⟩
  · have hnk : ¬ nI k = 0 := fun q => k0 (nI_inj (b := 0) (by omega) (by decide) q)
    have kpos : 0 < k := by omega
    have hg : L[0]? = some L[0] := List.getElem?_eq_getElem (by omega)
    obtain ⟨s, hs⟩ : ∃ s, s = L[0] := ⟨_, rfl⟩
    rw [← hs] at hg
    have hs2 : s < α 0 2 := g2 s (by rw [hs]; exact List.getElem_mem _)
    have hs4 : s < 4 := by omega
    have r1 := a6 0 s hg
    have r2 := (b4 kpos).2 0 s hg
    have hz := zaim_le hW s
    rw [if_neg hnk, if_neg hnk, show (0 : Int32) = nI 0 from rfl, zald_nI (show 0 < 4 by decide) (by decide), zald_nI (show 0 < 4 by decide) (by decide), Option.bind_some, Option.bind_some, r1, r2, zw_aimC hW a2 hs4, zw_aimM hW b2 hs2, Option.bind_some, Option.bind_some]
    try simp only
    rw [zast_nI hs4 (by decide), zast_nI hs4 (by decide), Option.bind_some, Option.bind_some]
    have c2 : RC (au α 7 s (zaim α s)) (zuI s1 13 s (nI (zaim α s))) := a2.set 13 7 4 (by decide +kernel) (by decide +kernel) (by decide +kernel) (by decide) (by decide) (by decide) hs4 _
    have m2 : RM (au α 7 s (zaim α s)) (zuI t1 7 s (nI (zaim α s))) := b2.set 7 7 4 (by decide +kernel) (by decide) (by decide) hs4 _
    obtain ⟨u, d1, d2, d3⟩ := zw_forgetAll N (zuI s1 13 s (nI (zaim α s)))
    rw [d1, Option.bind_some]
    exact ⟨nI s, u, _, _, rfl, rfl, hW.set7 hs2 hz, c2.forget d2, m2, Or.inr d3⟩
