/-! ===== the best of all picks: how the reference finds it ===== -/
theorem zuJ_s {σ : ZM} {k i : Nat} {v : Int64} : (zuJ σ k i v).2 k i = v := by simp only [zuJ, if_true]; exact pk_uLs
theorem zuJ_n {σ : ZM} {k i a j : Nat} {v : Int64} (h : ¬ (a = k ∧ j = i)) : (zuJ σ k i v).2 a j = σ.2 a j := by
  simp only [zuJ]
  by_cases ha : a = k
  · subst ha
    rw [if_pos rfl, pk_uLn (fun e => h ⟨rfl, e⟩)]
  · rw [if_neg ha]
theorem zuJ_1 {σ : ZM} {k i : Nat} {v : Int64} : (zuJ σ k i v).1 = σ.1 := rfl
theorem zuI_2 {σ : ZM} {k i : Nat} {v : Int32} : (zuI σ k i v).2 = σ.2 := rfl
def zch (α : AS) (c s : Nat) : Nat := if zmy α s = true then zdg c s else α 7 s
theorem zch_le {α : AS} (hW : WF α) (c s : Nat) : zch α c s ≤ 4 := by
  unfold zch
  have := zdg_le c s
  have := hW.2.2.2.2.2.1.2.1 s
  split <;> omega
def zvd (m : Nat → Bool) (c : Nat) : Nat → Bool
  | 0 => true
  | i + 1 => zvd m c i && (m (3 - i) || zdg c (3 - i) == 0)
theorem zvd4 (m : Nat → Bool) (c : Nat) : zvd m c 4 = zvl m c := by
  show ((((true && (m 3 || zdg c 3 == 0)) && (m 2 || zdg c 2 == 0)) && (m 1 || zdg c 1 == 0)) && (m 0 || zdg c 0 == 0)) = ((m 0 || zdg c 0 == 0) && (m 1 || zdg c 1 == 0) && (m 2 || zdg c 2 == 0) && (m 3 || zdg c 3 == 0))
  cases (m 0 || zdg c 0 == 0) <;> cases (m 1 || zdg c 1 == 0) <;> cases (m 2 || zdg c 2 == 0) <;> cases (m 3 || zdg c 3 == 0) <;> rfl
theorem zrem5 {a : Nat} (h : a < 2 ^ 31) : zrem (nI a) (5 : Int32) = some (nI (a % 5)) := by
  unfold zrem
  rw [if_neg (by decide), show (5 : Int32) = nI 5 from rfl, pk_rem h (by decide) (by decide)]
theorem zdiv5 {a : Nat} (h : a < 2 ^ 31) : zdiv (nI a) (5 : Int32) = some (nI (a / 5)) := by
  unfold zdiv
  rw [if_neg (by decide), show (5 : Int32) = nI 5 from rfl, pk_div h (by decide) (by decide)]
theorem zdg_at {c i : Nat} (hi : i < 4) : c / 5 ^ i % 5 = zdg c (3 - i) := by
  rcases (show i = 0 ∨ i = 1 ∨ i = 2 ∨ i = 3 by omega) with rfl | rfl | rfl | rfl
  · show c / 1 % 5 = c % 5; omega
  · rfl
  · rfl
  · rfl
theorem zw_choice45 {N : Nat} {rcx : Int32 → Int32 → Int32 → ZM → Option (Int32 × ZM)} {x2 x4 : Int32} {b my : Bool} {d : Nat} (hd : d ≤ 4) {σ : ZM} : f_X9_layChoice_45 N rcx x2 (zbI (b = true)) x4 (nI d) (zbI (my = true)) σ = f_X9_layChoice_66 N rcx x2 x4 (nI d) (zbI (my = true)) (zbI ((b && (my || d == 0)) = true)) σ := by
  unfold f_X9_layChoice_45 f_X9_layChoice_65 f_X9_layChoice_61
  cases b with
  | false => rw [show zbI (false = true) = 0 from rfl, if_pos rfl, show zbI ((false && (my || d == 0)) = true) = 0 from rfl]
  | true =>
    rw [show zbI (true = true) = 1 from rfl, if_neg (by decide)]
    cases my with
    | true => rw [show zbI (true = true) = 1 from rfl, if_neg (by decide), show zbI ((true && (true || d == 0)) = true) = 1 from rfl]
    | false =>
      rw [show zbI (false = true) = 0 from rfl, if_pos rfl]
      by_cases e : d = 0
      · subst e; rw [if_pos (show nI 0 = 0 from rfl)]; rfl
      · rw [if_neg (show ¬ nI d = 0 from fun q => e (nI_inj (b := 0) (by omega) (by decide) q)), zbI_f (p := (true && (false || d == 0)) = true) (by simp [e])]
theorem RM.fr37 {α : AS} {σ σ' : ZM} (h : RM α σ) (hW : zag [(37, none)] σ σ') : RM α σ' := h.fr hW (by decide +kernel) ⟨⟨by decide, fun i => by simp⟩, ⟨by decide, fun i => by simp⟩⟩
theorem zw_layChoice {N : Nat} (hN : 14 < N) {α : AS} {σ : ZM} (hW : WF α) (hM : RM α σ) {c : Nat} (hc : c < 625) : ∃ σ', f_X9_layChoice N (nI c) σ = some (zbI (zvl (zmy α) c = true), σ') ∧ ∀ s, s < 4 → σ'.1 37 s = nI (zch α c s) := by
  have hs0 := hW.1.2.2.1
  obtain ⟨m', s', e1, e2, e3, e4, e5, e6⟩ := zloopS (fun m (q : Int32 × Int32 × Int32 × ZM) => f_X9_layChoice_7 N m q.1 q.2.1 q.2.2.1 q.2.2.2)
    (fun i q => q.1 = nI (c / 5 ^ i) ∧ q.2.1 = zbI (zvd (zmy α) c i = true) ∧ q.2.2.1 = nI (4 - i) + (-1) ∧ zag [(37, none)] σ q.2.2.2 ∧ ∀ s, s < 4 → 4 ≤ s + i → q.2.2.2.1 37 s = nI (zch α c s)) 4 (by
    rintro m i ⟨x2, x3, x4, s⟩ hi ⟨p1, p2, p3, p4, p5⟩
    simp only at p1 p2 p3 p4 p5
    subst p1 p2
    have e3 : x4 = nI (3 - i) := by rw [p3, show 4 - i = (3 - i) + 1 by omega, pk_m1]
    subst e3
    obtain ⟨t, ht⟩ : ∃ t, t = 3 - i := ⟨_, rfl⟩
    have ht4 : t < 4 := by omega
    have hms := hM.fr37 p4
    have hlt : c / 5 ^ i < 2 ^ 31 := Nat.lt_of_le_of_lt (Nat.div_le_self _ _) (by omega)
    have hd5 : c / 5 ^ i / 5 = c / 5 ^ (i + 1) := by rw [Nat.div_div_eq_div_mul, Nat.pow_succ]
    refine ⟨(nI (c / 5 ^ (i + 1)), zbI (zvd (zmy α) c (i + 1) = true), nI (4 - (i + 1)) + (-1), zuI s 37 t (nI (zch α c t))), ?_, rfl, rfl, rfl, zag_t p4 (zag_all zag_uI), fun u hu1 hu2 => ?_⟩
    · show b_X9_layChoice_7 N (f_X9_layChoice_7 N m) (nI (c / 5 ^ i)) (zbI (zvd (zmy α) c i = true)) (nI (3 - i)) s = f_X9_layChoice_7 N m (nI (c / 5 ^ (i + 1))) (zbI (zvd (zmy α) c (i + 1) = true)) (nI (4 - (i + 1)) + (-1)) (zuI s 37 t (nI (zch α c t)))
      have key : b_X9_layChoice_7 N (f_X9_layChoice_7 N m) (nI (c / 5 ^ i)) (zbI (zvd (zmy α) c i = true)) (nI (3 - i)) s = f_X9_layChoice_45 N (f_X9_layChoice_7 N m) (nI (c / 5 ^ (i + 1))) (zbI (zvd (zmy α) c i = true)) (nI t) (nI (zdg c t)) (zbI (zmy α t = true)) s := by
        rw [← ht]
        unfold b_X9_layChoice_7
        rw [if_neg (fun q => by rw [Int32.lt_iff_toInt_lt, nI_toInt (by omega)] at q; have : (0 : Int32).toInt = 0 := rfl; omega), zrem5 hlt, Option.bind_some, zdiv5 hlt, Option.bind_some, hd5, zdg_at hi, ← ht, hms.sites]
        by_cases h1 : α 0 2 ≤ t
        · have e0 : zbI (zmy α t = true) = 0 := zbI_f (by rw [zmy_out hW h1]; decide)
          rw [if_pos (nI_le h1 (by omega)), e0]
          rfl
        · rw [if_neg (nI_ge (by omega) (by omega)), hms.ups ht4, Option.bind_some]
          rcases (show α 6 t = 0 ∨ α 6 t = 1 by have := hW.2.2.2.2.2.1.1 t; omega) with hu | hu
          · have e0 : zbI (zmy α t = true) = 0 := zbI_f (by unfold zmy; simp only [decide_eq_true_eq]; omega)
            rw [hu, if_pos (show nI 0 = 0 from rfl), e0]
            rfl
          · have e0 : zbI (zmy α t = true) = 1 := zbI_t (by unfold zmy; simp only [decide_eq_true_eq]; omega)
            rw [hu, if_neg (show ¬ nI 1 = 0 by decide), e0]
      rw [key, zw_choice45 (zdg_le c t)]
      have ev : (zvd (zmy α) c i && (zmy α t || zdg c t == 0)) = zvd (zmy α) c (i + 1) := by rw [ht]; rfl
      rw [ev]
      unfold f_X9_layChoice_66 f_X9_layChoice_90
      have e4 : nI t + (-1 : Int32) = nI (4 - (i + 1)) + (-1) := by rw [ht, show 3 - i = 4 - (i + 1) by omega]
      cases hmy : zmy α t with
      | true =>
        have ec : zch α c t = zdg c t := if_pos hmy
        rw [show zbI (true = true) = 1 from rfl, if_neg (by decide), zast_nI ht4 (by decide), Option.bind_some, Option.bind_some, e4, ec]
      | false =>
        have ec : zch α c t = α 7 t := if_neg (by rw [hmy]; decide)
        rw [show zbI (false = true) = 0 from rfl, if_pos rfl, zald_nI ht4 (by decide), Option.bind_some, zast_nI ht4 (by decide), Option.bind_some, Option.bind_some, e4, (hms.row ht4).1, ec]
    · show (zuI s 37 t (nI (zch α c t))).1 37 u = _
      by_cases e : u = t
      · subst e; rw [zuI_s]
      · rw [zuI_n (fun q => e q.2)]; exact p5 u hu1 (by omega)) N 0 (nI c, 1, 3, σ) (by omega) (by omega) ⟨by rw [Nat.pow_zero, Nat.div_one], rfl, show (3 : Int32) = nI (4 - 0) + -1 by decide, zag_r, fun s h1 h2 => by omega⟩
  obtain ⟨x2, x3, x4, s⟩ := s'
  simp only at e1 e2 e3 e4 e5 e6
  subst e2 e3 e4
  refine ⟨s, ?_, fun t ht => e6 t ht (by omega)⟩
  unfold f_X9_layChoice
  have e1 : f_X9_layChoice_7 N N (nI c) 1 3 σ = f_X9_layChoice_7 N (m' + 1) (nI (c / 5 ^ 4)) (zbI (zvd (zmy α) c 4 = true)) (nI (4 - 4) + (-1)) s := e1
  rw [e1]
  show b_X9_layChoice_7 N (f_X9_layChoice_7 N m') (nI (c / 5 ^ 4)) (zbI (zvd (zmy α) c 4 = true)) (nI (4 - 4) + (-1)) s = _
  unfold b_X9_layChoice_7
  rw [if_pos (by decide), zvd4]
  exact zrz_b _
/-! a pick, one site fallen -/
abbrev zWR : List (Nat × Option Nat) := [(0, some 14), (0, some 30), (0, some 31), (0, some 51), (0, some 52), (12, none), (13, none), (14, none), (15, none), (16, none), (17, none), (18, none), (19, none), (20, none), (21, none), (22, none), (23, none), (24, none), (25, none), (26, none)]
theorem RM.frR {α : AS} {σ σ' : ZM} (h : RM α σ) (hW : zag zWR σ σ') : RM α σ' := h.fr hW (by decide +kernel) ⟨⟨by decide, fun i => by simp⟩, ⟨by decide, fun i => by simp⟩⟩
def GG (G : Option (Nat × Nat)) (σ : ZM) : Prop := match G with
  | none => σ.1 0 51 = -1 ∧ σ.2 0 52 = -1
  | some g => σ.1 0 51 = nI g.1 ∧ σ.2 0 52 = lN g.2 ∧ g.1 ≤ 400000 ∧ g.2 ≤ 100000000
def zcq (G : Option (Nat × Nat)) (x : Nat × Nat) : Nat × Nat := match G with
  | none => x
  | some g => (zmx2 g.1 x.1, zmx2 g.2 x.2)
theorem lg_le0 (x y : Int64) : lg_cmp x y ≤ 0 ↔ x.toInt ≤ y.toInt := by
  have := lg_gt0 x y
  constructor
  · intro h
    have : ¬ 0 < lg_cmp x y := fun q => by rw [Int32.le_iff_toInt_le] at h; rw [Int32.lt_iff_toInt_lt] at q; omega
    have h2 : ¬ y.toInt < x.toInt := fun q => this ((lg_gt0 x y).mpr q)
    omega
  · intro h
    have h2 : ¬ 0 < lg_cmp x y := fun q => by have := (lg_gt0 x y).mp q; omega
    rw [Int32.le_iff_toInt_le]
    rw [Int32.lt_iff_toInt_lt] at h2
    omega
theorem zw_greater {N : Nat} {G : Option (Nat × Nat)} {x : Nat × Nat} {σ : ZM} (hG : GG G σ) (hx : x.1 ≤ 400000 ∧ x.2 ≤ 100000000) : (if nI x.1 ≤ (σ.1 0 51) then (f_X9_measure_93 N (lN x.2) (σ.1 0 51) σ) else (f_X9_measure_93 N (lN x.2) (nI x.1) σ)) = some (1, zuJ (zuI σ 0 51 (nI (zcq G x).1)) 0 52 (lN (zcq G x).2)) := by
  have low : ∀ (v : Int32), f_X9_measure_93 N (lN x.2) v σ = some (1, zuJ (zuI σ 0 51 v) 0 52 (lN (zcq G x).2)) := by
    intro v
    unfold f_X9_measure_93 f_X9_measure_114 zpI zpJ
    rw [Option.bind_some, Option.bind_some, Option.bind_some, zuI_2]
    cases G with
    | none =>
      have h2 : σ.2 0 52 = -1 := hG.2
      rw [h2, if_neg (fun q => by
        have := (lg_le0 _ _).mp q
        rw [lN_toInt (by omega)] at this
        have e : (-1 : Int64).toInt = -1 := rfl
        omega)]
      rfl
    | some g =>
      obtain ⟨h1, h2, h3, h4⟩ := hG
      rw [h2]
      have e : (zcq (some g) x).2 = zmx2 g.2 x.2 := rfl
      rw [e]
      unfold zmx2
      by_cases q : g.2 < x.2
      · rw [if_pos q, if_neg (fun r => by
          have := (lg_le0 _ _).mp r
          rw [lN_toInt (by omega), lN_toInt (by omega)] at this
          omega)]
      · rw [if_neg q, if_pos ((lg_le0 _ _).mpr (by rw [lN_toInt (by omega), lN_toInt (by omega)]; omega))]
  rw [low, low]
  cases G with
  | none =>
    have h1 : σ.1 0 51 = -1 := hG.1
    rw [h1, if_neg (fun q => by
      rw [Int32.le_iff_toInt_le, nI_toInt (by omega)] at q
      have e : (-1 : Int32).toInt = -1 := rfl
      omega)]
    rfl
  | some g =>
    obtain ⟨h1, h2, h3, h4⟩ := hG
    rw [h1]
    have e : (zcq (some g) x).1 = zmx2 g.1 x.1 := rfl
    rw [e]
    unfold zmx2
    by_cases q : g.1 < x.1
    · rw [if_pos q, if_neg (nI_ge q (by omega))]
    · rw [if_neg q, if_pos (nI_le (by omega) (by omega))]
theorem GG.set {G : Option (Nat × Nat)} {x : Nat × Nat} {σ : ZM} (hG : ∀ g, G = some g → g.1 ≤ 400000 ∧ g.2 ≤ 100000000) (hx : x.1 ≤ 400000 ∧ x.2 ≤ 100000000) : GG (some (zcq G x)) (zuJ (zuI σ 0 51 (nI (zcq G x).1)) 0 52 (lN (zcq G x).2)) := by
  refine ⟨by rw [zuJ_1, zuI_s], zuJ_s, ?_⟩
  cases G with
  | none => exact hx
  | some g =>
    have := hG g rfl
    exact ⟨zmx2_le this.1 hx.1, zmx2_le this.2 hx.2⟩
theorem zw_measureM {N : Nat} (hN : 50 < N) {α : AS} {σ : ZM} (hW : WF α) (hM : RM α σ) {c f : Nat} (hf : f ≤ 4) (h37 : ∀ s, s < 4 → σ.1 37 s = nI (zch α c s)) {G : Option (Nat × Nat)} (hG : GG G σ) : ∃ σ', f_X9_measure N (nI f) σ = some (zbI ((zMf α c f).isSome = true), σ') ∧ zag zWR σ σ' ∧ RM α σ' ∧ ∀ x, zMf α c f = some x → GG (some (zcq G x)) σ' := by
  have hs0 := hW.1.2.2.1
  obtain ⟨t1, a1, a2, a3, a4, a5⟩ := zw_askNow (N := N) (by omega) hW hM
  obtain ⟨m', s', e1, e2, e3, e4, e5⟩ := zloopS (fun m (q : Int32 × ZM) => f_X9_measure_6 N m (nI f) q.1 q.2)
    (fun i q => q.1 = nI i ∧ zag zWA σ q.2 ∧ (∀ n, n < α 0 0 → q.2.1 16 n = nI (zlr (α 3 n))) ∧ MA (α 0 2) (fun s => if s < i ∧ s = f then 0 else α 6 s) (fun s => if s < i then zch α c s else α 7 s) (α 8) (α 9) q.2) (α 0 2) (by
    rintro m i ⟨x, s⟩ hi ⟨p1, p2, p3, p4⟩
    simp only at p1 p2 p3 p4
    subst p1
    have hi4 : i < 4 := by omega
    have hms := hM.frA p2
    have q37 : s.1 37 i = nI (zch α c i) := by rw [(p2 37 i (by decide) (by simp)).1]; exact h37 i hi4
    obtain ⟨s1, hs1⟩ : ∃ s1, s1 = zuI s 12 i (nI (zch α c i)) := ⟨_, rfl⟩
    have g1 : zag zWA s s1 := by rw [hs1]; exact zag_w (W1 := [(12, none)]) (by simp) (zag_all zag_uI)
    have hm1 := hms.frA g1
    obtain ⟨v, hv⟩ : ∃ v : Nat, v = if i = f then 0 else α 6 i := ⟨_, rfl⟩
    have hv1 : v ≤ 1 := by rw [hv]; have := hW.2.2.2.2.2.1.1 i; split <;> omega
    refine ⟨(nI (i + 1), zuI s1 15 i (nI v)), ?_, rfl, zag_t p2 (zag_t g1 (zag_w (W1 := [(15, none)]) (by simp) (zag_all zag_uI))), fun n hn => ?_, ?_⟩
    · show b_X9_measure_6 N (f_X9_measure_6 N m) (nI f) (nI i) s = _
      have key : b_X9_measure_6 N (f_X9_measure_6 N m) (nI f) (nI i) s = f_X9_measure_50 N (f_X9_measure_6 N m) (nI f) (nI i) (nI v) (nI i) s1 := by
        unfold b_X9_measure_6
        rw [hms.sites, if_neg (nI_ge hi (by omega)), zald_nI hi4 (by decide), Option.bind_some, q37, zast_nI hi4 (by decide), Option.bind_some, ← hs1, hm1.ups hi4, Option.bind_some]
        unfold f_X9_measure_49
        rcases (show α 6 i = 0 ∨ α 6 i = 1 by have := hW.2.2.2.2.2.1.1 i; omega) with hu | hu
        · rw [hu, if_pos (show nI 0 = 0 from rfl), show v = 0 by rw [hv, hu]; split <;> rfl]
          rfl
        · rw [hu, if_neg (show ¬ nI 1 = 0 by decide)]
          by_cases e : i = f
          · rw [if_pos (by rw [e]), show v = 0 by rw [hv, if_pos e]]
            rfl
          · rw [if_neg (fun q => e (nI_inj (by omega) (by omega) q)), show v = 1 by rw [hv, if_neg e, hu]]
            rfl
      rw [key]
      unfold f_X9_measure_50
      rw [zasZ_nI hi4 (by decide) (zn1 hv1), Option.bind_some, Option.bind_some, nI_1]
    · rw [zuI_n (by simp), hs1, zuI_n (by simp)]; exact p3 n hn
    · refine ⟨by rw [zuI_n (by simp), hs1, zuI_n (by simp)]; exact p4.1, fun t ht => ?_⟩
      obtain ⟨q1, q2, q3, q4⟩ := p4.2 t ht
      simp only at q1 q4
      refine ⟨?_, ?_, ?_, ?_⟩
      · show _ = nI (if t < i + 1 then zch α c t else α 7 t)
        rw [zuI_n (by simp), hs1]
        by_cases e : t = i
        · subst e; rw [zuI_s, if_pos (by omega)]
        · rw [zuI_n (fun q => e q.2), q1]
          congr 1
          by_cases e2 : t < i
          · rw [if_pos e2, if_pos (by omega)]
          · rw [if_neg e2, if_neg (by omega)]
      · rw [zuI_n (by simp), hs1, zuI_n (by simp)]; exact q2
      · rw [zuI_n (by simp), hs1, zuI_n (by simp)]; exact q3
      · show _ = nI (if t < i + 1 ∧ t = f then 0 else α 6 t)
        by_cases e : t = i
        · subst e
          rw [zuI_s, hv]
          congr 1
          by_cases e2 : t = f
          · rw [if_pos e2, if_pos ⟨by omega, e2⟩]
          · rw [if_neg e2, if_neg (fun q => e2 q.2)]
        · rw [zuI_n (fun q => e q.2), hs1, zuI_n (by simp), q4]
          congr 1
          by_cases e2 : t < i ∧ t = f
          · rw [if_pos e2, if_pos ⟨by omega, e2.2⟩]
          · rw [if_neg e2, if_neg (fun q => e2 ⟨by omega, q.2⟩)]) N 0 (0, t1) (by omega) (by omega) ⟨rfl, a2, a5, ⟨a4.1, fun t ht => by
        obtain ⟨q1, q2, q3, q4⟩ := a4.2 t ht
        refine ⟨?_, q2, q3, ?_⟩
        · show _ = nI (if t < 0 then zch α c t else α 7 t)
          rw [if_neg (Nat.not_lt_zero t)]; exact q1
        · show _ = nI (if t < 0 ∧ t = f then 0 else α 6 t)
          rw [if_neg (fun q => Nat.not_lt_zero t q.1)]; exact q4⟩⟩
  obtain ⟨x, s⟩ := s'
  simp only at e1 e2 e3 e4 e5
  subst e2
  have hu1 : ∀ t, (fun t => if t = f then 0 else α 6 t) t ≤ 1 := fun t => by
    have := hW.2.2.2.2.2.1.1 t
    show (if t = f then 0 else α 6 t) ≤ 1
    split <;> omega
  have ma : MA (α 0 2) (fun t => if t = f then 0 else α 6 t) (zch α c) (α 8) (α 9) s := by
    refine ⟨e5.1, fun t ht => ?_⟩
    obtain ⟨q1, q2, q3, q4⟩ := e5.2 t ht
    simp only at q1 q4
    refine ⟨?_, q2, q3, ?_⟩
    · rw [q1]
      congr 1
      by_cases e : t < α 0 2
      · rw [if_pos e]
      · rw [if_neg e]
        unfold zch
        rw [if_neg (by rw [zmy_out hW (by omega)]; decide)]
    · show _ = nI (if t = f then 0 else α 6 t)
      rw [q4]
      congr 1
      by_cases e : t < α 0 2
      · by_cases e2 : t = f
        · rw [if_pos ⟨e, e2⟩, if_pos e2]
        · rw [if_neg (fun q => e2 q.2), if_neg e2]
      · have h0 := (hW.2.2.2.2.2.1.2.2.2.2.1 t (by omega)).1
        rw [if_neg (fun q => e q.1), h0]
        split <;> rfl
  have hK : KW α (zkap (α 0 2) (fun t => if t = f then 0 else α 6 t) (zch α c) (α 8) (α 9) (zr0 α)) := KW.mk hW (Nat.le_refl _) (zch_le hW c) hW.2.2.2.2.2.1.2.2.1 hW.2.2.2.2.2.1.2.2.2.1 (fun n => zlr_le _)
  have hms := hM.frA e3
  obtain ⟨s2, d1, d2, d3, d4⟩ := zw_weighM (N := N) (by omega) hW hK (⟨hms, ma.ms hs0 (Nat.le_refl _) hu1 (zch_le hW c), e4⟩ : MB α _ s)
  have hkq : zka α (zplc (fun t => if t = f then 4 else zpk α c t)) = zkap (α 0 2) (fun t => if t = f then 0 else α 6 t) (zch α c) (α 8) (α 9) (zr0 α) := by
    refine zka_eq hW (fun t => by
      have := zpk_le α c t
      show (if t = f then 4 else zpk α c t) ≤ 4
      split <;> omega) (fun t ht => ?_)
    by_cases e : t = f
    · subst e; simp
    · simp only [if_neg e]
      by_cases e2 : t < α 0 2 ∧ α 6 t = 1
      · have hmy : zmy α t = true := by unfold zmy; simp only [decide_eq_true_eq]; exact e2
        rw [if_pos e2, if_pos e2]
        unfold zpk zch
        rw [if_pos hmy, if_pos hmy]
      · rw [if_neg e2, if_neg e2]
  have hE : zMf α c f = zEk α (zkap (α 0 2) (fun t => if t = f then 0 else α 6 t) (zch α c) (α 8) (α 9) (zr0 α)) := by unfold zMf zEv; rw [hkq]
  have hG2 : GG G s2 := by
    have x1 : s2.1 0 51 = σ.1 0 51 := by rw [(d2 0 51 (by decide) (by decide)).1, (e3 0 51 (by decide) (by decide)).1]
    have x2 : s2.2 0 52 = σ.2 0 52 := by rw [(d2 0 52 (by decide) (by decide)).2, (e3 0 52 (by decide) (by decide)).2]
    unfold GG at hG ⊢
    rw [x1, x2]
    exact hG
  have pre : f_X9_measure N (nI f) σ = b_X9_measure_6 N (f_X9_measure_6 N m') (nI f) (nI (α 0 2)) s := by
    unfold f_X9_measure
    rw [a1]
    unfold zbd
    rw [Option.bind_some]
    exact e1
  have pre2 : f_X9_measure N (nI f) σ = (if zbI ((zMf α c f).isSome = true) = 0 then some ((0 : Int32), s2) else zbd (f_X9_excessOf N s2) fun r7 s8 => zbd (f_X9_sumOf N s8) fun r9 s10 => if r7 ≤ (s10.1 0 51) then (f_X9_measure_93 N r9 (s10.1 0 51) s10) else (f_X9_measure_93 N r9 r7 s10)) := by
    rw [pre]
    unfold b_X9_measure_6
    rw [hms.sites, if_pos (zle_self (by omega)), d1, hE]
    rfl
  cases hx : zMf α c f with
  | none =>
    rw [hx, zbI_f (by simp), if_pos rfl] at pre2
    refine ⟨s2, ?_, fr_X9_measure pre2, d3, fun y q => absurd q (by simp)⟩
    rw [pre2]
    rfl
  | some x =>
    have hxb := zMf_le hW hx
    obtain ⟨q1, q2⟩ := d4 x (hE.symm.trans hx)
    rw [hx, zbI_t (by simp), if_neg (by decide), q1] at pre2
    unfold zbd at pre2
    rw [Option.bind_some] at pre2
    try simp only at pre2
    rw [q2, Option.bind_some] at pre2
    try simp only at pre2
    rw [zw_greater hG2 hxb] at pre2
    refine ⟨_, pre2, fr_X9_measure pre2, hM.frR (fr_X9_measure pre2), fun y q => ?_⟩
    cases q
    refine GG.set (fun g hg => ?_) hxb
    subst hg
    exact hG.2.2
theorem zw_measureAll20 {N : Nat} (hN : 50 < N) {α : AS} (hW : WF α) {c : Nat} {x1 : Int32} (hx1 : x1 ≠ 0) : ∀ (k m i : Nat) (σ : ZM), i + k = α 0 2 → k < m → RM α σ → (∀ s, s < 4 → σ.1 37 s = nI (zch α c s)) → (∀ y, zAs α c i = some y → GG (some y) σ) → ∃ σ', f_X9_measureAll_20 N m x1 (zbI ((zAs α c i).isSome = true)) (nI i) σ = some (zbI ((zAs α c (α 0 2)).isSome = true), σ') ∧ ∀ y, zAs α c (α 0 2) = some y → GG (some y) σ'
  | 0, m, i, σ, h1, h2, hM, h37, hy => by
    have hs0 := hW.1.2.2.1
    obtain ⟨m, rfl⟩ : ∃ j, m = j + 1 := ⟨m - 1, by omega⟩
    have hi : i = α 0 2 := by omega
    subst hi
    refine ⟨σ, ?_, hy⟩
    show b_X9_measureAll_20 N (f_X9_measureAll_20 N m) x1 _ (nI (α 0 2)) σ = _
    unfold b_X9_measureAll_20
    rw [hM.sites, if_pos (zle_self (by omega))]
    exact zrz_b _
  | k + 1, m, i, σ, h1, h2, hM, h37, hy => by
    have hs0 := hW.1.2.2.1
    obtain ⟨m, rfl⟩ : ∃ j, m = j + 1 := ⟨m - 1, by omega⟩
    have hi4 : i < 4 := by omega
    cases ha : zAs α c i with
    | none =>
      have hl : zAs α c (α 0 2) = none := by rw [← h1]; exact zAs_none ha (k + 1)
      refine ⟨σ, ?_, fun y q => by rw [hl] at q; exact absurd q (by simp)⟩
      show b_X9_measureAll_20 N (f_X9_measureAll_20 N m) x1 _ (nI i) σ = _
      unfold b_X9_measureAll_20
      rw [hM.sites, if_neg (nI_ge (by omega) (by omega)), if_neg hx1, zbI_f (by simp), if_pos rfl, hl]
      rfl
    | some g =>
      have pre : f_X9_measureAll_20 N (m + 1) x1 (zbI ((some g).isSome = true)) (nI i) σ = (if nI (α 6 i) = 0 then f_X9_measureAll_53 N (f_X9_measureAll_20 N m) x1 (nI i) σ else (zbd (f_X9_measure N (nI i) σ) fun r3 s4 => if r3 = 0 then (f_X9_measureAll_58 N (f_X9_measureAll_20 N m) x1 (nI i) (0 : Int32) s4) else (f_X9_measureAll_53 N (f_X9_measureAll_20 N m) x1 (nI i) s4))) := by
        show b_X9_measureAll_20 N (f_X9_measureAll_20 N m) x1 _ (nI i) σ = _
        unfold b_X9_measureAll_20
        rw [hM.sites, if_neg (nI_ge (by omega) (by omega)), if_neg hx1, zbI_t (by simp), if_neg (by decide), hM.ups hi4, Option.bind_some]
      rw [pre]
      unfold f_X9_measureAll_53 f_X9_measureAll_58
      rcases (show α 6 i = 0 ∨ α 6 i = 1 by have := hW.2.2.2.2.2.1.1 i; omega) with hu | hu
      · have hn : zAs α c (i + 1) = some g := by
          show (if α 6 i = 1 then zcm (zAs α c i) (zMf α c i) else zAs α c i) = _
          rw [if_neg (by omega), ha]
        obtain ⟨s4, d1, d2⟩ := zw_measureAll20 hN hW hx1 k m (i + 1) σ (by omega) (by omega) hM h37 (fun y q => hy y (by rw [ha]; rw [hn] at q; exact q))
        refine ⟨s4, ?_, d2⟩
        rw [hu, if_pos (show nI 0 = 0 from rfl), Option.bind_some, nI_1, ← d1, hn]
        rfl
      · have hn : zAs α c (i + 1) = zcm (some g) (zMf α c i) := by rw [zAs_succ, ha]
        obtain ⟨s1, b1, b2, b3, b4⟩ := zw_measureM hN hW hM (c := c) (f := i) (by omega) h37 (hy g ha)
        have en : ((zAs α c (i + 1)).isSome = true) ↔ ((zMf α c i).isSome = true) := by
          rw [hn]
          cases zMf α c i <;> simp [zcm]
        obtain ⟨s4, d1, d2⟩ := zw_measureAll20 hN hW hx1 k m (i + 1) s1 (by omega) (by omega) b3 (fun s hs => by rw [(b2 37 s (by decide) (by simp)).1]; exact h37 s hs) (fun y q => by
          rw [hn] at q
          obtain ⟨g', x, q1, q2, q3⟩ := zcm_some q
          cases q1
          have := b4 x q2
          rw [q3]
          exact this)
        refine ⟨s4, ?_, d2⟩
        rw [hu, if_neg (show ¬ nI 1 = 0 by decide), b1]
        unfold zbd
        rw [Option.bind_some]
        try simp only
        rw [Option.bind_some, nI_1, ← d1, zbI_congr en]
        cases zMf α c i with
        | none => rw [zbI_f (by simp), if_pos rfl]
        | some x => rw [zbI_t (by simp), if_neg (by decide)]; rfl
theorem zw_measureAllM {N : Nat} (hN : 50 < N) {α : AS} {σ : ZM} (hW : WF α) (hM : RM α σ) {c : Nat} {x1 : Int32} (h37 : ∀ s, s < 4 → σ.1 37 s = nI (zch α c s)) : ∃ σ', f_X9_measureAll N x1 σ = some (zbI ((zPw x1 α c).isSome = true), σ') ∧ zag zWR σ σ' ∧ RM α σ' ∧ ∀ y, zPw x1 α c = some y → GG (some y) σ' := by
  have hs0 := hW.1.2.2.1
  obtain ⟨s1, hs1⟩ : ∃ s1, s1 = zuJ (zuI σ 0 51 (-1)) 0 52 (-1) := ⟨_, rfl⟩
  have g1 : zag zWR σ s1 := by rw [hs1]; exact zag_t (zag_w (W1 := [(0, some 51)]) (by simp) zag_uI) (zag_w (W1 := [(0, some 52)]) (by simp) zag_uJ)
  have hG : GG none s1 := by rw [hs1]; exact ⟨by rw [zuJ_1, zuI_s], zuJ_s⟩
  obtain ⟨s2, b1, b2, b3, b4⟩ := zw_measureM hN hW (hM.frR g1) (c := c) (f := 4) (by omega) (fun s hs => by rw [(g1 37 s (by decide) (by simp)).1]; exact h37 s hs) hG
  have b4 : ∀ x, zMf α c 4 = some x → GG (some x) s2 := b4
  have pre : f_X9_measureAll N x1 σ = f_X9_measureAll_20 N N x1 (zbI ((zMf α c 4).isSome = true)) (nI 0) s2 := by
    unfold f_X9_measureAll zpI zpJ
    rw [Option.bind_some, Option.bind_some, ← hs1, show (4 : Int32) = nI 4 from rfl, b1]
    rfl
  by_cases hx : x1 = 0
  · have eP : zPw x1 α c = zMf α c 4 := if_pos hx
    rw [eP]
    have ef : f_X9_measureAll N x1 σ = some (zbI ((zMf α c 4).isSome = true), s2) := by
      rw [pre]
      obtain ⟨m, rfl⟩ : ∃ j, N = j + 1 := ⟨N - 1, by omega⟩
      show b_X9_measureAll_20 (m + 1) (f_X9_measureAll_20 (m + 1) m) x1 _ (nI 0) s2 = _
      unfold b_X9_measureAll_20
      rw [if_pos hx]
      by_cases q : s2.1 0 5 ≤ nI 0
      · rw [if_pos q]; exact zrz_b _
      · rw [if_neg q]; exact zrz_b _
    exact ⟨s2, ef, fr_X9_measureAll ef, b3, b4⟩
  · have eP : zPw x1 α c = zAs α c (α 0 2) := if_neg hx
    rw [eP]
    obtain ⟨s3, d1, d2⟩ := zw_measureAll20 hN hW hx (α 0 2) N 0 s2 (by omega) (by omega) b3 (fun s hs => by rw [(b2 37 s (by decide) (by simp)).1, (g1 37 s (by decide) (by simp)).1]; exact h37 s hs) b4
    have ef : f_X9_measureAll N x1 σ = some (zbI ((zAs α c (α 0 2)).isSome = true), s3) := by rw [pre]; exact d1
    exact ⟨s3, ef, fr_X9_measureAll ef, hM.frR (fr_X9_measureAll ef), d2⟩
/-! the best so far -/
def SM (α : AS) (b : Option (Nat × Nat × Nat)) (σ : ZM) : Prop := match b with
  | none => σ.1 0 49 = 0
  | some d => σ.1 0 49 = 1 ∧ σ.1 0 47 = nI d.2.1 ∧ σ.2 0 48 = lN d.2.2 ∧ ∀ s, s < 4 → σ.1 38 s = nI (zch α d.1 s)
theorem SM.mv {α : AS} {b : Option (Nat × Nat × Nat)} {σ σ' : ZM} (h : SM α b σ) (e1 : σ'.1 0 49 = σ.1 0 49) (e2 : σ'.1 0 47 = σ.1 0 47) (e3 : σ'.2 0 48 = σ.2 0 48) (e4 : ∀ s, σ'.1 38 s = σ.1 38 s) : SM α b σ' := by
  cases b with
  | none => show σ'.1 0 49 = 0; rw [e1]; exact h
  | some d => exact ⟨by rw [e1]; exact h.1, by rw [e2]; exact h.2.1, by rw [e3]; exact h.2.2.1, fun s hs => by rw [e4]; exact h.2.2.2 s hs⟩
abbrev zWU : List (Nat × Option Nat) := [(0, some 14), (0, some 30), (0, some 31), (0, some 47), (0, some 48), (0, some 49), (0, some 51), (0, some 52), (12, none), (13, none), (14, none), (15, none), (16, none), (17, none), (18, none), (19, none), (20, none), (21, none), (22, none), (23, none), (24, none), (25, none), (26, none), (37, none), (38, none)]
theorem RM.frU {α : AS} {σ σ' : ZM} (h : RM α σ) (hW : zag zWU σ σ') : RM α σ' := h.fr hW (by decide +kernel) ⟨⟨by decide, fun i => by simp⟩, ⟨by decide, fun i => by simp⟩⟩
theorem zw_layTake {N : Nat} (hN : 14 < N) {α : AS} {c : Nat} {y : Nat × Nat} {rcx : Int32 → Int32 → ZM → Option (Unit × ZM)} {x1 x2 : Int32} {σ : ZM} (hG : GG (some y) σ) (h37 : ∀ s, s < 4 → σ.1 37 s = nI (zch α c s)) : ∃ σ', f_X9_layBest_71 N rcx x1 x2 σ = f_X9_layBest_131 N rcx x1 x2 σ' ∧ zag zWU σ σ' ∧ SM α (some (c, y)) σ' := by
  obtain ⟨g1, g2, g3⟩ := hG
  obtain ⟨s1, hs1⟩ : ∃ s1, s1 = zuJ (zuI (zuI σ 0 49 1) 0 47 (nI y.1)) 0 48 (lN y.2) := ⟨_, rfl⟩
  have z1 : zag zWU σ s1 := by rw [hs1]; exact zag_t (zag_t (zag_w (W1 := [(0, some 49)]) (by simp) zag_uI) (zag_w (W1 := [(0, some 47)]) (by simp) zag_uI)) (zag_w (W1 := [(0, some 48)]) (by simp) zag_uJ)
  obtain ⟨m', s', e1, e2, e3, e4⟩ := zloopS (fun m (q : Int32 × ZM) => f_X9_layBest_105 N rcx m x1 x2 q.1 q.2)
    (fun i q => q.1 = nI i ∧ zag [(38, none)] s1 q.2 ∧ ∀ s, s < i → q.2.1 38 s = nI (zch α c s)) 4 (by
    rintro m i ⟨x, s⟩ hi ⟨p1, p2, p3⟩
    simp only at p1 p2 p3
    subst p1
    refine ⟨(nI (i + 1), zuI s 38 i (nI (zch α c i))), ?_, rfl, zag_t p2 (zag_all zag_uI), fun t ht => ?_⟩
    · show b_X9_layBest_105 N rcx (f_X9_layBest_105 N rcx m) x1 x2 (nI i) s = _
      unfold b_X9_layBest_105
      rw [if_neg (by rw [show (4 : Int32) = nI 4 from rfl]; exact nI_ge hi (by decide)), zald_nI hi (by decide), Option.bind_some, zast_nI hi (by decide), Option.bind_some, Option.bind_some, nI_1, (p2 37 i (by decide) (by simp)).1, show s1.1 37 i = nI (zch α c i) by rw [hs1, zuJ_1, zuI_n (by simp), zuI_n (by simp)]; exact h37 i hi]
    · show (zuI s 38 i (nI (zch α c i))).1 38 t = _
      by_cases e : t = i
      · subst e; rw [zuI_s]
      · rw [zuI_n (fun q => e q.2)]; exact p3 t (by omega)) N 0 (0, s1) (by omega) (by omega) ⟨rfl, zag_r, fun n hn => absurd hn (Nat.not_lt_zero n)⟩
  obtain ⟨x, s⟩ := s'
  simp only at e1 e2 e3 e4
  subst e2
  refine ⟨s, ?_, zag_t z1 (zag_w (by simp) e3), ?_, ?_, ?_, e4⟩
  · unfold f_X9_layBest_71 f_X9_layBest_76 zpZ zpI zpJ
    rw [if_neg (by decide), if_pos (Or.inr rfl), Option.bind_some, Option.bind_some, Option.bind_some, zuI_2, zuI_2, zuI_n (show ¬ (0 = 0 ∧ 51 = 49) by omega), g1, g2, ← hs1]
    have e1 : f_X9_layBest_105 N rcx N x1 x2 0 s1 = f_X9_layBest_105 N rcx (m' + 1) x1 x2 (nI 4) s := e1
    rw [e1]
    show b_X9_layBest_105 N rcx (f_X9_layBest_105 N rcx m') x1 x2 (nI 4) s = _
    unfold b_X9_layBest_105
    rw [if_pos (show (4 : Int32) ≤ nI 4 by decide)]
  · rw [(e3 0 49 (by decide) (by decide)).1, hs1, zuJ_1, zuI_n (by simp), zuI_s]
  · rw [(e3 0 47 (by decide) (by decide)).1, hs1, zuJ_1, zuI_s]
  · rw [(e3 0 48 (by decide) (by decide)).2, hs1, zuJ_s]
theorem zw_layBest {N : Nat} (hN : 700 < N) {α : AS} {σ : ZM} (hW : WF α) (hM : RM α σ) (x1 : Int32) : ∃ σ', f_X9_layBest N x1 σ = some ((), σ') ∧ RM α σ' ∧ SM α (zBs x1 α 625) σ' := by
  obtain ⟨s0, hs0⟩ : ∃ s0, s0 = zuI σ 0 49 0 := ⟨_, rfl⟩
  have z0 : zag zWU σ s0 := by rw [hs0]; exact zag_w (W1 := [(0, some 49)]) (by simp) zag_uI
  obtain ⟨m', s', e1, e2, e3, e4⟩ := zloopS (fun m (q : Int32 × ZM) => f_X9_layBest_7 N m x1 q.1 q.2)
    (fun c q => q.1 = nI c ∧ RM α q.2 ∧ SM α (zBs x1 α c) q.2) 625 (by
    rintro m c ⟨x, s⟩ hc ⟨p1, p2, p3⟩
    simp only at p1 p2 p3
    subst p1
    obtain ⟨s1, a1, a2⟩ := zw_layChoice (N := N) (by omega) hW p2 hc
    have f1 := fr_X9_layChoice a1
    have hm1 := p2.fr37 f1
    have hS1 : SM α (zBs x1 α c) s1 := p3.mv (f1 0 49 (by decide) (by decide)).1 (f1 0 47 (by decide) (by decide)).1 (f1 0 48 (by decide) (by decide)).2 (fun t => (f1 38 t (by decide) (by simp)).1)
    have go : ∀ s2, f_X9_layBest_131 N (f_X9_layBest_7 N m) x1 (nI c) s2 = f_X9_layBest_7 N m x1 (nI (c + 1)) s2 := fun s2 => by
      unfold f_X9_layBest_131
      rw [Option.bind_some, nI_1]
    have pre : f_X9_layBest_7 N (m + 1) x1 (nI c) s = (if zbI (zvl (zmy α) c = true) = 0 then f_X9_layBest_131 N (f_X9_layBest_7 N m) x1 (nI c) s1 else (zbd (f_X9_measureAll N x1 s1) fun r10 s11 => if r10 = 0 then (f_X9_layBest_131 N (f_X9_layBest_7 N m) x1 (nI c) s11) else (if (s11.1 0 49) = 0 then (f_X9_layBest_71 N (f_X9_layBest_7 N m) x1 (nI c) s11) else (if (s11.1 0 51) < (s11.1 0 47) then (f_X9_layBest_71 N (f_X9_layBest_7 N m) x1 (nI c) s11) else (if (s11.1 0 51) = (s11.1 0 47) then (if 0 ≤ (lg_cmp (s11.2 0 52) (s11.2 0 48)) then (f_X9_layBest_75 N (f_X9_layBest_7 N m) x1 (nI c) s11) else (f_X9_layBest_71 N (f_X9_layBest_7 N m) x1 (nI c) s11)) else (f_X9_layBest_75 N (f_X9_layBest_7 N m) x1 (nI c) s11)))))) := by
      show b_X9_layBest_7 N (f_X9_layBest_7 N m) x1 (nI c) s = _
      unfold b_X9_layBest_7
      rw [if_neg (by rw [show (625 : Int32) = nI 625 from rfl]; exact nI_ge hc (by decide)), a1]
      rfl
    simp only
    rw [pre]
    have eB : zBs x1 α (c + 1) = if zvl (zmy α) c = true then zup (zBs x1 α c) c (zPw x1 α c) else zBs x1 α c := rfl
    by_cases hv : zvl (zmy α) c = true
    · rw [if_pos hv] at eB
      obtain ⟨s2, b1, b2, b3, b4⟩ := zw_measureAllM (N := N) (by omega) hW hm1 (x1 := x1) a2
      have hS2 : SM α (zBs x1 α c) s2 := hS1.mv (b2 0 49 (by decide) (by decide)).1 (b2 0 47 (by decide) (by decide)).1 (b2 0 48 (by decide) (by decide)).2 (fun t => (b2 38 t (by decide) (by simp)).1)
      have h37 : ∀ t, t < 4 → s2.1 37 t = nI (zch α c t) := fun t ht => by rw [(b2 37 t (by decide) (by simp)).1]; exact a2 t ht
      rw [zbI_t hv, if_neg (by decide), b1]
      unfold zbd
      rw [Option.bind_some]
      simp only
      cases hq : zPw x1 α c with
      | none =>
        rw [hq] at eB
        refine ⟨(nI (c + 1), s2), ?_, rfl, b3, by rw [eB]; exact hS2⟩
        rw [zbI_f (by simp), if_pos rfl, go]
      | some y =>
        rw [hq] at eB
        have hyb := zPw_le hW hq
        have hGy := b4 y hq
        obtain ⟨s3, d1, d2, d3⟩ := zw_layTake (N := N) (by omega) (rcx := f_X9_layBest_7 N m) (x1 := x1) (x2 := nI c) hGy h37
        rw [zbI_t (by simp), if_neg (by decide)]
        have skip : f_X9_layBest_75 N (f_X9_layBest_7 N m) x1 (nI c) s2 = f_X9_layBest_7 N m x1 (nI (c + 1)) s2 := by
          unfold f_X9_layBest_75 f_X9_layBest_76
          rw [if_pos rfl, go]
        cases hb : zBs x1 α c with
        | none =>
          rw [hb] at hS2 eB
          have h9 : s2.1 0 49 = 0 := hS2
          refine ⟨(nI (c + 1), s3), ?_, rfl, b3.frU d2, by rw [eB]; exact d3⟩
          rw [if_pos h9, d1, go]
        | some d =>
          have hd := zBs_le hW c hb
          rw [hb] at hS2 eB
          obtain ⟨q1, q2, q3, q4⟩ := hS2
          obtain ⟨r1, r2, r3⟩ := hGy
          rw [q1, if_neg (by decide), q2, r1, q3, r2]
          by_cases c1 : y.1 < d.2.1
          · have e : zup (some d) c (some y) = some (c, y) := if_pos (Or.inl c1)
            refine ⟨(nI (c + 1), s3), ?_, rfl, b3.frU d2, by rw [eB, e]; exact d3⟩
            rw [if_pos (by rw [Int32.lt_iff_toInt_lt, nI_toInt (by omega), nI_toInt (by omega)]; omega), d1, go]
          · rw [if_neg (by rw [Int32.lt_iff_toInt_lt, nI_toInt (by omega), nI_toInt (by omega)]; omega)]
            by_cases c2 : y.1 = d.2.1
            · rw [if_pos (by rw [c2])]
              have hlg : (0 ≤ lg_cmp (lN y.2) (lN d.2.2)) ↔ d.2.2 ≤ y.2 := by
                have h1 := lg_lt0 (lN y.2) (lN d.2.2)
                rw [lN_toInt (by omega), lN_toInt (by omega), Int32.lt_iff_toInt_lt] at h1
                rw [Int32.le_iff_toInt_le]
                omega
              by_cases c3 : d.2.2 ≤ y.2
              · have e : zup (some d) c (some y) = some d := if_neg (by omega)
                refine ⟨(nI (c + 1), s2), ?_, rfl, b3, by rw [eB, e]; exact ⟨q1, q2, q3, q4⟩⟩
                rw [if_pos (hlg.mpr c3), skip]
              · have e : zup (some d) c (some y) = some (c, y) := if_pos (Or.inr ⟨c2, by omega⟩)
                refine ⟨(nI (c + 1), s3), ?_, rfl, b3.frU d2, by rw [eB, e]; exact d3⟩
                rw [if_neg (fun q => c3 (hlg.mp q)), d1, go]
            · have e : zup (some d) c (some y) = some d := if_neg (by omega)
              refine ⟨(nI (c + 1), s2), ?_, rfl, b3, by rw [eB, e]; exact ⟨q1, q2, q3, q4⟩⟩
              rw [if_neg (fun q => c2 (nI_inj (by omega) (by omega) q)), skip]
    · rw [if_neg hv] at eB
      refine ⟨(nI (c + 1), s1), ?_, rfl, hm1, by rw [eB]; exact hS1⟩
      rw [zbI_f hv, if_pos rfl, go]) N 0 (0, s0) (by omega) (by omega) ⟨rfl, hM.frU z0, by show s0.1 0 49 = 0; rw [hs0, zuI_s]⟩
  obtain ⟨x, s⟩ := s'
  simp only at e1 e2 e3 e4
  subst e2
  refine ⟨s, ?_, e3, e4⟩
  unfold f_X9_layBest zpZ
  rw [if_pos (Or.inl rfl), Option.bind_some, ← hs0]
  have e1 : f_X9_layBest_7 N N x1 0 s0 = f_X9_layBest_7 N (m' + 1) x1 (nI 625) s := e1
  rw [e1]
  show b_X9_layBest_7 N (f_X9_layBest_7 N m') x1 (nI 625) s = _
  unfold b_X9_layBest_7
  rw [if_pos (by decide)]
theorem qu_best {N : Nat} (hN : 700 < N) (x : Int32) : zQch (f_X8_best N x) (f_X9_best N x) := by
  intro α σc σm hW hC hM hF
  obtain ⟨s1, s2, a1, a2, a3, a4, a5, a6⟩ := zw_best hN hW hC hF x
  obtain ⟨t1, b1, b2, b3⟩ := zw_layBest hN hW hM x
  have ec : f_X8_best N x σc = some (s2.1 23 10, s2) := by
    unfold f_X8_best
    rw [a1]
    unfold zbd
    rw [Option.bind_some]
    try simp only
    rw [a2]
    rfl
  have em : f_X9_best N x σm = if t1.1 0 49 = 0 then some ((-9 : Int32), t1) else some (t1.1 0 47, t1) := by
    unfold f_X9_best
    rw [b1]
    rfl
  rw [ec, em]
  cases hb : zBs x α 625 with
  | none =>
    rw [hb] at a5 b3
    rw [show s2.1 23 10 = -9 from a5, if_pos (show t1.1 0 49 = 0 from b3)]
    exact ⟨-9, s2, t1, rfl, rfl, a3, b2, a4, a6⟩
  | some d =>
    rw [hb] at a5 b3
    obtain ⟨q1, q2, q3, q4⟩ := b3
    rw [a5.1, q1, if_neg (by decide), q2]
    exact ⟨_, s2, t1, rfl, rfl, a3, b2, a4, a6⟩
theorem qu_bestSum {N : Nat} (hN : 700 < N) (x : Int32) : zQch (f_X8_bestSum N x) (f_X9_bestSum N x) := by
  intro α σc σm hW hC hM hF
  obtain ⟨s1, s2, a1, a2, a3, a4, a5, a6⟩ := zw_best hN hW hC hF x
  obtain ⟨t1, b1, b2, b3⟩ := zw_layBest hN hW hM x
  have ec : f_X8_bestSum N x σc = if s2.1 23 10 = (-9 : Int32) then some ((-9 : Int64), s2) else some (Int32.toInt64 (s2.1 23 11), s2) := by
    unfold f_X8_bestSum
    rw [a1]
    unfold zbd
    rw [Option.bind_some]
    try simp only
    rw [a2]
    rfl
  have em : f_X9_bestSum N x σm = if t1.1 0 49 = 0 then some ((-9 : Int64), t1) else some (t1.2 0 48, t1) := by
    unfold f_X9_bestSum
    rw [b1]
    rfl
  rw [ec, em]
  cases hb : zBs x α 625 with
  | none =>
    rw [hb] at a5 b3
    rw [if_pos (show s2.1 23 10 = -9 from a5), if_pos (show t1.1 0 49 = 0 from b3)]
    exact ⟨-9, s2, t1, rfl, rfl, a3, b2, a4, a6⟩
  | some d =>
    have hd := zBs_le hW 625 hb
    rw [hb] at a5 b3
    obtain ⟨q1, q2, q3, q4⟩ := b3
    rw [a5.1, if_neg (nI_m9 (by omega)), q1, if_neg (by decide), q3, a5.2.1, nI_i2l (by omega)]
    exact ⟨_, s2, t1, rfl, rfl, a3, b2, a4, a6⟩
theorem qu_bestKind {N : Nat} (hN : 700 < N) (x y : Int32) : zQch (f_X8_bestKind N x y) (f_X9_bestKind N x y) := by
  intro α σc σm hW hC hM hF
  have hs0 := hW.1.2.2.1
  unfold f_X8_bestKind f_X9_bestKind
  rw [zw_hasW N 12 y σc hC.sites (by omega), zw_isSite N y σm hM.sites (by omega)]
  unfold zbd
  rw [Option.bind_some, Option.bind_some]
  try simp only
  by_cases hx : 0 ≤ y.toInt ∧ y.toInt < α 0 2
  · obtain ⟨s, hs, rfl, -⟩ := zof hx
    have hs4 : s < 4 := by omega
    obtain ⟨s1, s2, a1, a2, a3, a4, a5, a6⟩ := zw_best hN hW hC hF x
    obtain ⟨t1, b1, b2, b3⟩ := zw_layBest hN hW hM x
    rw [zbI_t hx, if_neg (by decide), if_neg (by decide), a1, Option.bind_some]
    try simp only
    rw [a2, Option.bind_some]
    try simp only
    rw [b1, Option.bind_some]
    try simp only
    cases hb : zBs x α 625 with
    | none =>
      rw [hb] at a5 b3
      rw [if_pos (show s2.1 23 10 = -9 from a5), if_pos (show t1.1 0 49 = 0 from b3)]
      exact ⟨-9, s2, t1, rfl, rfl, a3, b2, a4, a6⟩
    | some d =>
      have hd := zBs_le hW 625 hb
      rw [hb] at a5 b3
      obtain ⟨q1, q2, q3, q4⟩ := b3
      obtain ⟨r1, r2, r3⟩ := a5
      rw [r1, if_neg (nI_m9 (by omega)), q1, if_neg (by decide), zald_nI hs4 (by decide), Option.bind_some, (a3.ca.2 s hs4).2.2.2, zald_nI hs4 (by decide), Option.bind_some, zald_nI hs4 (by decide), Option.bind_some, zald_nI hs4 (by decide), Option.bind_some, q4 s hs4, r3 s hs4, (a3.ca.2 s hs4).1]
      refine ⟨nI (zch α d.1 s), s2, t1, ?_, rfl, a3, b2, a4, a6⟩
      rcases (show α 6 s = 0 ∨ α 6 s = 1 by have := hW.2.2.2.2.2.1.1 s; omega) with hu | hu
      · have e : zch α d.1 s = α 7 s := if_neg (by unfold zmy; simp only [decide_eq_true_eq]; omega)
        rw [hu, if_pos (show nI 0 = 0 from rfl), e]
      · have hmy : zmy α s = true := by unfold zmy; simp only [decide_eq_true_eq]; exact ⟨hs, hu⟩
        have e : zch α d.1 s = zdg d.1 s := if_pos hmy
        have e2 : zpk α d.1 s = zdg d.1 s := if_pos hmy
        rw [hu, if_neg (show ¬ nI 1 = 0 by decide), e, e2]
  · rw [zbI_f hx, if_pos rfl, if_pos rfl]
    exact ⟨-1, σc, σm, rfl, rfl, hC, hM, hF, zag_r⟩
