/-! ===== the reference: choice and the next words ===== -/
theorem zbI_congr {p q : Prop} [Decidable p] [Decidable q] (h : p ↔ q) : zbI p = zbI q := by
  unfold zbI
  by_cases hp : p
  · rw [if_pos hp, if_pos (h.mp hp)]
  · rw [if_neg hp, if_neg (fun z => hp (h.mpr z))]
def zthg (r i : Nat) : Nat := if r = 2 then (if i = 0 then 2 else if i = 1 then 1 else 3) else if r = 3 then (if i = 0 then 1 else if i = 1 then 3 else 2) else i + 1
theorem zw_thing {N r i : Nat} (hr : r ≤ 3) (hi : i < 3) (σ : ZM) : f_X9_thing N (nI r) (nI i) σ = some (nI (zthg r i), σ) := by
  rcases (show r = 0 ∨ r = 1 ∨ r = 2 ∨ r = 3 by omega) with rfl | rfl | rfl | rfl <;> rcases (show i = 0 ∨ i = 1 ∨ i = 2 by omega) with rfl | rfl | rfl <;> rfl
theorem zthg_in {r i : Nat} (hi : i < 3) : zthg r i = 1 ∨ zthg r i = 2 ∨ zthg r i = 3 := by
  unfold zthg
  split
  · split
    · omega
    · split <;> omega
  · split
    · split
      · omega
      · split <;> omega
    · omega
theorem zfr3_iff {κ : AS} {n c d : Nat} (hc : c < 14) (hd : d < 14) : (zfr3 κ n c = zfr3 κ n d ↔ zfro κ n c = zfro κ n d) ∧ (zfr3 κ n c < zfr3 κ n d ↔ zfro κ n c < zfro κ n d) := by
  unfold zfr3 zfro
  by_cases h1 : c < 4
  · by_cases h2 : d < 4
    · simp [h1, h2]
    · simp only [if_pos h1, if_neg h2]
      by_cases h3 : κ 3 n = 1
      · simp only [if_pos h3]; omega
      · simp only [if_neg h3]; omega
  · by_cases h2 : d < 4
    · simp only [if_neg h1, if_pos h2]
      by_cases h3 : κ 3 n = 1
      · simp only [if_pos h3]; omega
      · simp only [if_neg h3]; omega
    · simp only [if_neg h1, if_neg h2]
      by_cases h3 : κ 3 n = 1
      · simp only [if_pos h3]; omega
      · simp only [if_neg h3]; omega
theorem zfr3_lt {κ : AS} {n c : Nat} (hc : c < 14) : zfr3 κ n c ≤ 100 := by
  unfold zfr3
  split
  · omega
  · split <;> omega
theorem zwo_lt {α κ : AS} {w : WD} (hW : WF α) (hK : KW α κ) (hV : VW α κ w) {n c t : Nat} (hn : n < α 0 0) (hc : c < 14) (ho : zoffr α κ w n c = true) : zwo α κ w n c t ≤ 100 := by
  have a1 := zpay_le hW n c
  have a2 := znam_le hW hK hV hn hc ho
  have a3 := zfr3_lt (κ := κ) (n := n) hc
  unfold zwo
  split
  · omega
  · split <;> omega
theorem zw_isAhead {N : Nat} (hN : 14 < N) {α κ : AS} {w : WD} {σ : ZM} (hW : WF α) (hK : KW α κ) (hV : VW α κ w) (h : MC α κ w σ) {n c d : Nat} (hn : n < α 0 0) (hc : c < 14) (hd : d < 14) (hoc : zoffr α κ w n c = true) (hod : zoffr α κ w n d = true) : f_X9_isAhead N (nI n) (nI (zfc c)) (nI (zfc d)) σ = some (zbI (zrk α κ w n c < zrk α κ w n d), σ) := by
  have hn0 := hW.1.1
  have hk := hK.2.2.2.2 n
  have step : ∀ m i, i < 3 → f_X9_isAhead_3 N (m + 1) (nI n) (nI (zfc c)) (nI (zfc d)) (nI i) σ = if zwo α κ w n c (zthg (κ 3 n) i) = zwo α κ w n d (zthg (κ 3 n) i) then f_X9_isAhead_3 N m (nI n) (nI (zfc c)) (nI (zfc d)) (nI (i + 1)) σ else some (zbI (zwo α κ w n c (zthg (κ 3 n) i) < zwo α κ w n d (zthg (κ 3 n) i)), σ) := by
    intro m i hi
    have b1 := zwo_lt (t := zthg (κ 3 n) i) hW hK hV hn hc hoc
    have b2 := zwo_lt (t := zthg (κ 3 n) i) hW hK hV hn hd hod
    show b_X9_isAhead_3 N (f_X9_isAhead_3 N m) (nI n) (nI (zfc c)) (nI (zfc d)) (nI i) σ = _
    unfold b_X9_isAhead_3
    rw [if_neg (by rw [show (3 : Int32) = nI 3 from rfl]; exact nI_ge hi (by omega)), zald_nI (show n < 10 by omega) (by decide), Option.bind_some, h.2.2.1 n hn, zw_thing hk hi]
    unfold zbd
    rw [Option.bind_some]
    simp only
    rw [zw_worth hW hK hV h hn hc hoc (zthg_in hi), Option.bind_some]
    simp only
    rw [zw_worth hW hK hV h hn hd hod (zthg_in hi), Option.bind_some]
    simp only
    rw [Option.bind_some, Option.bind_some, nI_1]
    generalize zwo α κ w n c (zthg (κ 3 n) i) = A at *
    generalize zwo α κ w n d (zthg (κ 3 n) i) = B at *
    have hs := pk_sub_toInt (a := A) (b := B) (by omega) (by omega)
    have z0 : (0 : Int32).toInt = 0 := rfl
    by_cases e : A = B
    · rw [if_pos e, if_pos (by rw [e]; simp)]
    · rw [if_neg e, if_neg (fun q => e (by
        have := congrArg Int32.toInt q
        omega))]
      unfold zbI
      by_cases l : A < B
      · rw [if_pos l, if_neg (fun q => by have := Int32.le_iff_toInt_le.mp q; omega)]
      · rw [if_neg l, if_pos (Int32.le_iff_toInt_le.mpr (by omega))]
  obtain ⟨k, rfl⟩ : ∃ k, N = k + 4 := ⟨N - 4, by omega⟩
  unfold f_X9_isAhead
  have s0 := step (k + 3) 0 (by decide)
  have s1 := step (k + 2) 1 (by decide)
  have s2 := step (k + 1) 2 (by decide)
  have s3 : f_X9_isAhead_3 (k + 4) (k + 1) (nI n) (nI (zfc c)) (nI (zfc d)) (nI 3) σ = some (0, σ) := by
    show b_X9_isAhead_3 (k + 4) (f_X9_isAhead_3 (k + 4) k) (nI n) (nI (zfc c)) (nI (zfc d)) (nI 3) σ = _
    unfold b_X9_isAhead_3
    rw [if_pos (show (3 : Int32) ≤ nI 3 by decide)]
  have a1 := zpay_le hW n c
  have a2 := zpay_le hW n d
  have b1 := znam_le hW hK hV hn hc hoc
  have b2 := znam_le hW hK hV hn hd hod
  have c1 := zfro_le (κ := κ) (n := n) hc
  have c2 := zfro_le (κ := κ) (n := n) hd
  have hf := zfr3_iff (κ := κ) (n := n) hc hd
  have key : ∀ (A1 A2 A3 B1 B2 B3 : Nat), zwo α κ w n c (zthg (κ 3 n) 0) = A1 → zwo α κ w n c (zthg (κ 3 n) 1) = A2 → zwo α κ w n c (zthg (κ 3 n) 2) = A3 → zwo α κ w n d (zthg (κ 3 n) 0) = B1 → zwo α κ w n d (zthg (κ 3 n) 1) = B2 → zwo α κ w n d (zthg (κ 3 n) 2) = B3 → (zrk α κ w n c < zrk α κ w n d ↔ (A1 < B1 ∨ (A1 = B1 ∧ (A2 < B2 ∨ (A2 = B2 ∧ A3 < B3))))) → f_X9_isAhead_3 (k + 4) (k + 4) (nI n) (nI (zfc c)) (nI (zfc d)) (nI 0) σ = some (zbI (zrk α κ w n c < zrk α κ w n d), σ) := by
    intro A1 A2 A3 B1 B2 B3 e1 e2 e3 e4 e5 e6 hh
    rw [s0, e1, e4, s1, e2, e5, s2, e3, e6, s3, zbI_congr hh]
    by_cases q1 : A1 = B1
    · rw [if_pos q1]
      by_cases q2 : A2 = B2
      · rw [if_pos q2]
        by_cases q3 : A3 = B3
        · rw [if_pos q3, zbI_f (by omega)]
        · rw [if_neg q3, zbI_congr (p := A3 < B3) (q := A1 < B1 ∨ (A1 = B1 ∧ (A2 < B2 ∨ (A2 = B2 ∧ A3 < B3)))) (by omega)]
      · rw [if_neg q2, zbI_congr (p := A2 < B2) (q := A1 < B1 ∨ (A1 = B1 ∧ (A2 < B2 ∨ (A2 = B2 ∧ A3 < B3)))) (by omega)]
    · rw [if_neg q1, zbI_congr (p := A1 < B1) (q := A1 < B1 ∨ (A1 = B1 ∧ (A2 < B2 ∨ (A2 = B2 ∧ A3 < B3)))) (by omega)]
  show f_X9_isAhead_3 (k + 4) (k + 4) (nI n) (nI (zfc c)) (nI (zfc d)) (nI 0) σ = _
  rcases (show κ 3 n = 2 ∨ κ 3 n = 3 ∨ (κ 3 n ≠ 2 ∧ κ 3 n ≠ 3) by omega) with e | e | e
  · refine key (znam κ w n c) (zpay α n c) (zfr3 κ n c) (znam κ w n d) (zpay α n d) (zfr3 κ n d) (by rw [e]; rfl) (by rw [e]; rfl) (by rw [e]; rfl) (by rw [e]; rfl) (by rw [e]; rfl) (by rw [e]; rfl) ?_
    unfold zrk zrk3
    simp only [if_pos e]
    omega
  · refine key (zpay α n c) (zfr3 κ n c) (znam κ w n c) (zpay α n d) (zfr3 κ n d) (znam κ w n d) (by rw [e]; rfl) (by rw [e]; rfl) (by rw [e]; rfl) (by rw [e]; rfl) (by rw [e]; rfl) (by rw [e]; rfl) ?_
    unfold zrk zrk3
    have e2 : ¬ κ 3 n = 2 := by omega
    simp only [if_neg e2, if_pos e]
    omega
  · have t0 : zthg (κ 3 n) 0 = 1 := by unfold zthg; rw [if_neg e.1, if_neg e.2]
    have t1 : zthg (κ 3 n) 1 = 2 := by unfold zthg; rw [if_neg e.1, if_neg e.2]
    have t2 : zthg (κ 3 n) 2 = 3 := by unfold zthg; rw [if_neg e.1, if_neg e.2]
    refine key (zpay α n c) (znam κ w n c) (zfr3 κ n c) (zpay α n d) (znam κ w n d) (zfr3 κ n d) (by rw [t0]; rfl) (by rw [t1]; rfl) (by rw [t2]; rfl) (by rw [t0]; rfl) (by rw [t1]; rfl) (by rw [t2]; rfl) ?_
    unfold zrk zrk3
    simp only [if_neg e.1, if_neg e.2]
    omega
def zco (o : Option Nat) : Int32 := match o with
  | none => -9
  | some b => nI (zfc b)
theorem zmn_skip {p : Nat → Bool} {r : Nat → Nat} {a : Nat} : ∀ k, (∀ x, a ≤ x → x < a + k → p x = false) → zmn p r (a + k) = zmn p r a
  | 0, _ => rfl
  | k + 1, h => by
    have ih := zmn_skip (r := r) k (fun x h1 h2 => h x h1 (by omega))
    show zmn p r (a + k + 1) = _
    conv => lhs; unfold zmn
    rw [if_neg (by rw [h (a + k) (by omega) (by omega)]; decide), ih]
theorem zmn_succ {p : Nat → Bool} {r : Nat → Nat} {k : Nat} : zmn p r (k + 1) = if p k = true then (match zmn p r k with | none => some k | some b => if r k < r b then some k else some b) else zmn p r k := rfl
theorem zmn_t0 {p : Nat → Bool} {r : Nat → Nat} {k : Nat} (h : p k = true) (hm : zmn p r k = none) : zmn p r (k + 1) = some k := by rw [zmn_succ, if_pos h, hm]
theorem zmn_t1 {p : Nat → Bool} {r : Nat → Nat} {k b : Nat} (h : p k = true) (hm : zmn p r k = some b) : zmn p r (k + 1) = if r k < r b then some k else some b := by rw [zmn_succ, if_pos h, hm]
theorem zmn_f {p : Nat → Bool} {r : Nat → Nat} {k : Nat} (h : p k = false) : zmn p r (k + 1) = zmn p r k := by rw [zmn_succ, if_neg (by rw [h]; decide)]
theorem zw_choice {N : Nat} (hN : 14 < N) {α κ : AS} {w : WD} {σ : ZM} (hW : WF α) (hK : KW α κ) (hV : VW α κ w) (h : MC α κ w σ) {n : Nat} (hn : n < α 0 0) : ∃ o, f_X9_choice N (nI n) σ = some (zco o, σ) ∧ o = zmn (zoffr α κ w n) (zrk α κ w n) 14 := by
  have hn0 := hW.1.1
  have hn10 : n < 10 := by omega
  have zco9 : ∀ b, b < 14 → ¬ zco (some b) = (-9 : Int32) := fun b hb => nI_m9 (show zfc b < 2 ^ 31 by have := zfc_lt hb; omega)
  -- nets
  have second : f_X9_choice_55 N N (nI n) (zco (zmn (zoffr α κ w n) (zrk α κ w n) 4)) 0 σ = some (zco (zmn (zoffr α κ w n) (zrk α κ w n) (4 + α 0 0)), σ) := by
    refine zloopT (fun m (q : Int32 × Int32) => f_X9_choice_55 N m (nI n) q.1 q.2 σ) (fun i => (zco (zmn (zoffr α κ w n) (zrk α κ w n) (4 + i)), nI i)) (α 0 0) _ (fun m => ?_) (fun m i hi => ?_) N 0 (by omega) (by omega)
    · show b_X9_choice_55 N (f_X9_choice_55 N m) (nI n) _ (nI (α 0 0)) σ = _
      unfold b_X9_choice_55
      rw [h.1.nets, if_pos (zle_self (by omega))]
    · show b_X9_choice_55 N (f_X9_choice_55 N m) (nI n) _ (nI i) σ = f_X9_choice_55 N m (nI n) (zco (zmn (zoffr α κ w n) (zrk α κ w n) (4 + i + 1))) (nI (i + 1)) σ
      unfold b_X9_choice_55
      rw [h.1.nets, if_neg (nI_ge hi (by omega))]
      have off : zoffr α κ w n (4 + i) = zpas α κ w n i := by
        unfold zoffr; rw [if_neg (by omega), Nat.add_sub_cancel_left]
      have ef : zfc (4 + i) = i := by unfold zfc; rw [if_neg (by omega), Nat.add_sub_cancel_left]
      by_cases hin : i = n
      · have hz : zoffr α κ w n (4 + i) = false := by
          rw [off]
          unfold zpas
          have := hW.2.1.2.2.1 n hn10
          cases w i <;> simp [hin, this]
        rw [if_pos (by rw [hin]), zmn_f hz]
        unfold f_X9_choice_99
        rw [Option.bind_some, nI_1]
      · rw [if_neg (fun q => hin (nI_inj (by omega) (by omega) q)), zw_passes hN hW hK hV h hi hn10]
        unfold zbd
        rw [Option.bind_some]
        simp only
        by_cases hp : zpas α κ w n i = true
        · have hoi : zoffr α κ w n (4 + i) = true := by rw [off]; exact hp
          rw [zbI_t hp, if_neg (show ¬ (1 : Int32) = 0 by decide)]
          cases hm : zmn (zoffr α κ w n) (zrk α κ w n) (4 + i) with
          | none =>
            rw [if_pos (show zco none = -9 from rfl), zmn_t0 hoi hm]
            unfold f_X9_choice_93 f_X9_choice_98 f_X9_choice_99
            rw [Option.bind_some, nI_1, show zco (some (4 + i)) = nI i by unfold zco; simp only [ef]]
          | some b =>
            have hb := zmn_some _ _ hm
            have ha := zw_isAhead hN hW hK hV h hn (show 4 + i < 14 by omega) (show b < 14 by omega) hoi hb.2.1
            rw [ef] at ha
            rw [if_neg (zco9 b (by omega)), show zco (some b) = nI (zfc b) from rfl, ha, Option.bind_some]
            simp only
            rw [zmn_t1 hoi hm]
            by_cases hr : zrk α κ w n (4 + i) < zrk α κ w n b
            · rw [zbI_t hr, if_neg (show ¬ (1 : Int32) = 0 by decide), if_pos hr]
              unfold f_X9_choice_93 f_X9_choice_98 f_X9_choice_99
              rw [Option.bind_some, nI_1, show zco (some (4 + i)) = nI i by unfold zco; simp only [ef]]
            · rw [zbI_f hr, if_pos rfl, if_neg hr]
              unfold f_X9_choice_98 f_X9_choice_99
              rw [Option.bind_some, nI_1]
              rfl
        · have hz : zoffr α κ w n (4 + i) = false := by rw [off]; simpa using hp
          rw [zbI_f hp, if_pos rfl, zmn_f hz]
          unfold f_X9_choice_99
          rw [Option.bind_some, nI_1]
  have first : f_X9_choice_5 N N (nI n) (-9) 0 σ = some (zco (zmn (zoffr α κ w n) (zrk α κ w n) (4 + α 0 0)), σ) := by
    refine zloopT (fun m (q : Int32 × Int32) => f_X9_choice_5 N m (nI n) q.1 q.2 σ) (fun i => (zco (zmn (zoffr α κ w n) (zrk α κ w n) i), nI i)) 4 _ (fun m => ?_) (fun m i hi => ?_) N 0 (by omega) (by omega)
    · show b_X9_choice_5 N (f_X9_choice_5 N m) (nI n) _ (nI 4) σ = _
      unfold b_X9_choice_5
      rw [if_pos (show (4 : Int32) ≤ nI 4 by decide)]
      exact second
    · show b_X9_choice_5 N (f_X9_choice_5 N m) (nI n) _ (nI i) σ = f_X9_choice_5 N m (nI n) (zco (zmn (zoffr α κ w n) (zrk α κ w n) (i + 1))) (nI (i + 1)) σ
      unfold b_X9_choice_5
      rw [if_neg (by rw [show (4 : Int32) = nI 4 from rfl]; exact nI_ge hi (by omega)), zw_speaks hW h.1 h.2.1 hi hn10]
      unfold zbd
      rw [Option.bind_some]
      simp only
      have off : zoffr α κ w n i = zspk α κ n i := by unfold zoffr; rw [if_pos hi]
      have ef : (16 : Int32) + nI i = nI (zfc i) := by unfold zfc; rw [if_pos hi, show (16 : Int32) = nI 16 from rfl, nI_add]
      by_cases hp : zspk α κ n i = true
      · have hoi : zoffr α κ w n i = true := by rw [off]; exact hp
        rw [zbI_t hp, if_neg (show ¬ (1 : Int32) = 0 by decide)]
        cases hm : zmn (zoffr α κ w n) (zrk α κ w n) i with
        | none =>
          rw [if_pos (show zco none = -9 from rfl), zmn_t0 hoi hm]
          unfold f_X9_choice_38 f_X9_choice_46 f_X9_choice_47
          rw [Option.bind_some, nI_1, show zco (some i) = nI (zfc i) from rfl, ef]
        | some b =>
          have hb := zmn_some _ _ hm
          have ha := zw_isAhead hN hW hK hV h hn (show i < 14 by omega) (show b < 14 by omega) hoi hb.2.1
          rw [if_neg (zco9 b (by omega)), show zco (some b) = nI (zfc b) from rfl, ef, ha, Option.bind_some]
          simp only
          rw [zmn_t1 hoi hm]
          by_cases hr : zrk α κ w n i < zrk α κ w n b
          · rw [zbI_t hr, if_neg (show ¬ (1 : Int32) = 0 by decide), if_pos hr]
            unfold f_X9_choice_38 f_X9_choice_46 f_X9_choice_47
            rw [Option.bind_some, nI_1, show zco (some i) = nI (zfc i) from rfl, ef]
          · rw [zbI_f hr, if_pos rfl, if_neg hr]
            unfold f_X9_choice_46 f_X9_choice_47
            rw [Option.bind_some, nI_1]
            rfl
      · have hz : zoffr α κ w n i = false := by rw [off]; simpa using hp
        rw [zbI_f hp, if_pos rfl, zmn_f hz]
        unfold f_X9_choice_47
        rw [Option.bind_some, nI_1]
  refine ⟨_, first, ?_⟩
  have := zmn_skip (p := zoffr α κ w n) (r := zrk α κ w n) (a := 4 + α 0 0) (10 - α 0 0) (fun x h1 h2 => by
    unfold zoffr
    rw [if_neg (by omega)]
    unfold zpas
    cases hwx : w (x - 4) with
    | none => rfl
    | some y => exact absurd (hV _ _ hwx).1 (by omega))
  rw [← this, show 4 + α 0 0 + (10 - α 0 0) = 14 by omega]
