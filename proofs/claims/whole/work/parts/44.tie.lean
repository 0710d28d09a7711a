/-! ===== tie: who buys from whom, itself or through others ===== -/
def zed (α : AS) (m b : Nat) : Bool := decide (α 1 (10 * m + b) = 3)
def zrcx (α : AS) (a : Nat) : Nat → Nat → Bool
  | 0, b => decide (b = a)
  | k + 1, b => zrcx α a k b || (List.range (α 0 0)).any fun m => zrcx α a k m && zed α m b
theorem zrcx_s {α : AS} {a k b : Nat} : zrcx α a (k + 1) b = true ↔ zrcx α a k b = true ∨ ∃ m, m < α 0 0 ∧ zrcx α a k m = true ∧ zed α m b = true := by
  show (zrcx α a k b || (List.range (α 0 0)).any fun m => zrcx α a k m && zed α m b) = true ↔ _
  rw [Bool.or_eq_true, List.any_eq_true]
  constructor
  · rintro (h | ⟨m, h1, h2⟩)
    · exact Or.inl h
    · rw [Bool.and_eq_true] at h2
      exact Or.inr ⟨m, List.mem_range.mp h1, h2.1, h2.2⟩
  · rintro (h | ⟨m, h1, h2, h3⟩)
    · exact Or.inl h
    · exact Or.inr ⟨m, List.mem_range.mpr h1, by rw [h2, h3]; rfl⟩
theorem zsum_mono {f g : Nat → Nat} : ∀ n, (∀ i, i < n → f i ≤ g i) → zsum f n ≤ zsum g n
  | 0, _ => Nat.le_refl _
  | n + 1, h => by
    have h1 := zsum_mono n (fun i hi => h i (by omega))
    have h2 := h n (by omega)
    simp only [zsum]
    omega
theorem zsum_lt {f g : Nat → Nat} : ∀ n, (∀ i, i < n → f i ≤ g i) → (∃ i, i < n ∧ f i < g i) → zsum f n < zsum g n
  | 0, _, ⟨i, h, _⟩ => absurd h (Nat.not_lt_zero i)
  | n + 1, h, ⟨i, h1, h2⟩ => by
    have h3 := h n (by omega)
    simp only [zsum]
    by_cases e : i = n
    · subst e
      have := zsum_mono i (fun j hj => h j (by omega))
      omega
    · have := zsum_lt n (fun j hj => h j (by omega)) ⟨i, by omega, h2⟩
      omega
def zcn (α : AS) (a k : Nat) : Nat := zsum (fun i => if zrcx α a k i = true then 1 else 0) (α 0 0)
theorem zrcx_stab {α : AS} {a k : Nat} (h : ∀ b, b < α 0 0 → zrcx α a (k + 1) b = zrcx α a k b) : ∀ j b, b < α 0 0 → zrcx α a (k + j) b = zrcx α a k b
  | 0, b, _ => rfl
  | j + 1, b, hb => by
    rw [← h b hb]
    show zrcx α a (k + j + 1) b = zrcx α a (k + 1) b
    have e1 := zrcx_stab h j b hb
    rw [Bool.eq_iff_iff, zrcx_s, zrcx_s, e1]
    constructor
    · rintro (q | ⟨m, q1, q2, q3⟩)
      · exact Or.inl q
      · exact Or.inr ⟨m, q1, by rw [← zrcx_stab h j m q1]; exact q2, q3⟩
    · rintro (q | ⟨m, q1, q2, q3⟩)
      · exact Or.inl q
      · exact Or.inr ⟨m, q1, by rw [zrcx_stab h j m q1]; exact q2, q3⟩
theorem zrcx_grow {α : AS} {a : Nat} : ∀ k, (∃ j, j < k ∧ ∀ b, b < α 0 0 → zrcx α a (j + 1) b = zrcx α a j b) ∨ k ≤ zcn α a k
  | 0 => Or.inr (Nat.zero_le _)
  | k + 1 => by
    rcases zrcx_grow k with ⟨j, h1, h2⟩ | h
    · exact Or.inl ⟨j, by omega, h2⟩
    · by_cases q : ∀ b, b < α 0 0 → zrcx α a (k + 1) b = zrcx α a k b
      · exact Or.inl ⟨k, by omega, q⟩
      · refine Or.inr (Nat.lt_of_le_of_lt h (zsum_lt _ (fun i hi => ?_) ?_))
        · by_cases r : zrcx α a k i = true
          · rw [if_pos r, if_pos (zrcx_s.mpr (Or.inl r))]; exact Nat.le_refl _
          · rw [if_neg r]; exact Nat.zero_le _
        · simp only [Classical.not_forall] at q
          obtain ⟨b, hb, r⟩ := q
          refine ⟨b, hb, ?_⟩
          have r0 : ¬ zrcx α a k b = true := fun u => r (by rw [u, zrcx_s.mpr (Or.inl u)])
          have r1 : zrcx α a (k + 1) b = true := by
            cases hz : zrcx α a (k + 1) b with
            | true => rfl
            | false =>
              cases hy : zrcx α a k b with
              | true => exact absurd hy r0
              | false => exact absurd (by rw [hz, hy]) r
          rw [if_neg r0, if_pos r1]
          exact Nat.one_pos
/-- after as many steps as there are nets nothing more comes -/
theorem zrcx_all {α : AS} {a : Nat} (ha : a < α 0 0) : ∀ b, b < α 0 0 → zrcx α a (α 0 0 + 1) b = zrcx α a (α 0 0) b := by
  intro b hb
  rcases zrcx_grow (α := α) (a := a) (α 0 0 + 1) with ⟨j, h1, h2⟩ | h
  · have e1 := zrcx_stab h2 (α 0 0 - j) b hb
    have e2 := zrcx_stab h2 (α 0 0 + 1 - j) b hb
    rw [show j + (α 0 0 - j) = α 0 0 by omega] at e1
    rw [show j + (α 0 0 + 1 - j) = α 0 0 + 1 by omega] at e2
    rw [e1, e2]
  · have := zsum_le (f := fun i => if zrcx α a (α 0 0 + 1) i = true then 1 else 0) (b := 1) (fun i => by
      show (if zrcx α a (α 0 0 + 1) i = true then 1 else 0) ≤ 1
      split <;> omega) (α 0 0)
    unfold zcn at h
    omega
theorem zrcx_last {α : AS} {a b : Nat} (hab : b ≠ a) : ∀ k, zrcx α a k b = true → ∃ m, m < α 0 0 ∧ zrcx α a k m = true ∧ zed α m b = true
  | 0, h => absurd (of_decide_eq_true h) hab
  | k + 1, h => by
    rcases zrcx_s.mp h with q | ⟨m, q1, q2, q3⟩
    · obtain ⟨m, r1, r2, r3⟩ := zrcx_last hab k q
      exact ⟨m, r1, zrcx_s.mpr (Or.inl r2), r3⟩
    · exact ⟨m, q1, zrcx_s.mpr (Or.inl q2), q3⟩
theorem zed_lt {α : AS} (hW : WF α) {m b : Nat} (hm : m < 10) (hb : b < 10) (h : zed α m b = true) : m < α 0 0 ∧ b < α 0 0 := by
  have h3 : α 1 (10 * m + b) = 3 := of_decide_eq_true h
  have hz := hW.2.1.2.2.2
  constructor
  · by_cases q : m < α 0 0
    · exact q
    · have := hz m b hm hb (by omega); omega
  · by_cases q : b < α 0 0
    · exact q
    · have h1 := hz b m hb hm (by omega)
      have := (hW.tie0 hm hb).mpr h1
      omega
theorem zw_buysC {N : Nat} (hN : 14 < N) {α : AS} {σ : ZM} (hW : WF α) (hC : RC α σ) {a b : Nat} (ha : a < α 0 0) (hb : b < α 0 0) (hab : b ≠ a) : f_X3_buysFrom N (nI a) (nI b) σ = some (zbI (zrcx α a (α 0 0) b = true), σ) := by
  have hn0 := hW.1.1
  obtain ⟨m0, h1, h2, h3⟩ := hC.2.2.2.2 a (by omega)
  obtain ⟨m', s', e1, e2, R, e3, e4, e5⟩ := zloopS (fun m (q : Int32 × Int32) => f_X3_buysFrom_10 N m (nI b) q.1 q.2 σ)
    (fun p q => q.2 = nI p ∧ ∃ R, q.1 = nI R ∧ R < 1024 ∧ ∀ c, c < 10 → (R.testBit c = true ↔ ∃ m, m < α 0 0 ∧ zrcx α a p m = true ∧ zed α m c = true)) (α 0 0) (by
    rintro m p ⟨x, y⟩ hp ⟨p1, R, p2, p3, p4⟩
    simp only at p1 p2
    subst p1 p2
    obtain ⟨U, u1, u2, u3⟩ := zw_union hN hn0 hC.nets hC.2.2.2.2 p3
    have hlt : R ||| U < 1024 := Nat.or_lt_two_pow (n := 10) p3 u2
    refine ⟨(nI (R ||| U), nI (p + 1)), ?_, rfl, R ||| U, rfl, hlt, fun c hc => ?_⟩
    · show b_X3_buysFrom_10 N (f_X3_buysFrom_10 N m) (nI b) (nI R) (nI p) σ = _
      unfold b_X3_buysFrom_10
      rw [hC.nets, if_neg (nI_ge hp (by omega)), u1]
      unfold zbd
      rw [Option.bind_some]
      simp only
      rw [Option.bind_some, Option.bind_some, zorN (by omega) (by omega), nI_1]
    · rw [Nat.testBit_or, Bool.or_eq_true, p4 c hc, u3 c hc]
      constructor
      · rintro (⟨k, q1, q2, q3⟩ | ⟨k, q1, q2, q3⟩)
        · exact ⟨k, q1, zrcx_s.mpr (Or.inl q2), q3⟩
        · obtain ⟨j, r1, r2, r3⟩ := (p4 k (by omega)).mp q2
          exact ⟨k, q1, zrcx_s.mpr (Or.inr ⟨j, r1, r2, r3⟩), q3⟩
      · rintro ⟨k, q1, q2, q3⟩
        rcases zrcx_s.mp q2 with r | ⟨j, r1, r2, r3⟩
        · exact Or.inl ⟨k, q1, r, q3⟩
        · exact Or.inr ⟨k, q1, (p4 k (by omega)).mpr ⟨j, r1, r2, r3⟩, q3⟩) N 0 (nI m0, 0) (by omega) (by omega) ⟨rfl, m0, rfl, h2, fun c hc => by
      rw [h3 c hc]
      constructor
      · intro q
        exact ⟨a, ha, decide_eq_true rfl, q⟩
      · rintro ⟨k, q1, q2, q3⟩
        have : k = a := of_decide_eq_true q2
        rw [this] at q3
        exact q3⟩
  obtain ⟨x, y⟩ := s'
  simp only at e1 e2 e3
  subst e2 e3
  unfold f_X3_buysFrom
  rw [zald_nI (show a < 10 by omega) (by decide), h1, Option.bind_some]
  have e1 : f_X3_buysFrom_10 N N (nI b) (nI m0) 0 σ = f_X3_buysFrom_10 N (m' + 1) (nI b) (nI R) (nI (α 0 0)) σ := e1
  rw [e1]
  show b_X3_buysFrom_10 N (f_X3_buysFrom_10 N m') (nI b) (nI R) (nI (α 0 0)) σ = _
  unfold b_X3_buysFrom_10
  rw [hC.nets, if_pos (zle_self (by omega))]
  have key : R.testBit b = true ↔ zrcx α a (α 0 0) b = true := by
    rw [e5 b (by omega)]
    constructor
    · intro q
      rw [← zrcx_all ha b hb]
      exact zrcx_s.mpr (Or.inr q)
    · exact zrcx_last hab _
  by_cases q : zrcx α a (α 0 0) b = true
  · rw [if_neg (fun r => by rw [zbitZ (by omega) (by omega), key.mpr q] at r; exact absurd r (by decide)), zbI_t q]
  · rw [if_pos ((zbitZ (by omega) (by omega)).mpr (by cases hz : R.testBit b with
      | true => exact absurd (key.mp hz) q
      | false => rfl)), zbI_f q]
theorem zdiv10 {a : Nat} (h : a < 2 ^ 31) : zdiv (nI a) (10 : Int32) = some (nI (a / 10)) := by
  unfold zdiv
  rw [if_neg (by decide), show (10 : Int32) = nI 10 from rfl, pk_div h (by decide) (by decide)]
theorem zrem10 {a : Nat} (h : a < 2 ^ 31) : zrem (nI a) (10 : Int32) = some (nI (a % 10)) := by
  unfold zrem
  rw [if_neg (by decide), show (10 : Int32) = nI 10 from rfl, pk_rem h (by decide) (by decide)]
theorem zw_buysM {N : Nat} (hN : 110 < N) {α : AS} {σ : ZM} (hW : WF α) (hM : RM α σ) {a b : Nat} (ha : a < α 0 0) (hb : b < α 0 0) : f_X9_buysFrom N (nI a) (nI b) σ = some (zbI (zrcx α a (α 0 0) b = true), σ) := by
  have hn0 := hW.1.1
  obtain ⟨m', s', e1, e2, R, e3, e4, e5, e6⟩ := zloopS (fun m (q : Int32 × Int32) => f_X9_buysFrom_7 N m (nI b) q.1 q.2 σ)
    (fun p q => q.2 = nI p ∧ ∃ R, q.1 = nI R ∧ R < 1024 ∧ (∀ c, c < 10 → zrcx α a p c = true → R.testBit c = true) ∧ ∀ c, c < 10 → R.testBit c = true → c < α 0 0 ∧ zrcx α a (α 0 0) c = true) (α 0 0) (by
    rintro m p ⟨x, y⟩ hp ⟨p1, R, p2, p3, p4, p5⟩
    simp only at p1 p2
    subst p1 p2
    obtain ⟨m2, s2, d1, d2, U, d3, d4, d5, d6, d7⟩ := zloopS (fun m3 (q : Int32 × Int32) => f_X9_buysFrom_19 N (f_X9_buysFrom_7 N m) m3 (nI b) q.1 (nI p) q.2 σ)
      (fun k q => q.2 = nI k ∧ ∃ U, q.1 = nI U ∧ U < 1024 ∧ (∀ c, c < 10 → R.testBit c = true → U.testBit c = true) ∧ (∀ j c, c < 10 → 10 * j + c < k → R.testBit j = true → zed α j c = true → U.testBit c = true) ∧ ∀ c, c < 10 → U.testBit c = true → c < α 0 0 ∧ zrcx α a (α 0 0) c = true) (α 0 0 * 10) (by
      rintro m3 k ⟨x, y⟩ hk ⟨q1, U, q2, q3, q4, q5, q6⟩
      simp only at q1 q2
      subst q1 q2
      have hd : k / 10 < α 0 0 := by omega
      have hm10 : k % 10 < 10 := Nat.mod_lt _ (by decide)
      have hk100 : k < 100 := by omega
      have rd : σ.1 1 k = nI (α 1 k) := by
        have := hM.at 1 0 1 0 100 (by decide) hk100
        rw [Nat.zero_add] at this
        exact this
      have ek : 10 * (k / 10) + k % 10 = k := by omega
      have h3 := hW.2.1.1 k
      by_cases hE : α 1 k = 3 ∧ U.testBit (k / 10) = true
      · have hed : zed α (k / 10) (k % 10) = true := by unfold zed; rw [ek]; exact decide_eq_true hE.1
        have hlt : U ||| 2 ^ (k % 10) < 1024 := Nat.or_lt_two_pow (n := 10) q3 (Nat.pow_lt_pow_right (by decide) hm10)
        have h2 : 2 ^ (k % 10) < 1024 := Nat.pow_lt_pow_right (n := 10) (a := 2) (by decide) hm10
        refine ⟨(nI (U ||| 2 ^ (k % 10)), nI (k + 1)), ?_, rfl, U ||| 2 ^ (k % 10), rfl, hlt, fun c hc r => ?_, fun j c hc r1 r2 r3 => ?_, fun c hc r => ?_⟩
        · show b_X9_buysFrom_19 N (f_X9_buysFrom_7 N m) (f_X9_buysFrom_19 N (f_X9_buysFrom_7 N m) m3) (nI b) (nI U) (nI p) (nI k) σ = _
          unfold b_X9_buysFrom_19
          rw [hM.nets, show (10 : Int32) = nI 10 from rfl, pk_mul, if_neg (nI_ge hk (by omega)), zald_nI hk100 (by decide), Option.bind_some, rd, hE.1, if_pos (show nI 3 = 3 from rfl), show nI 10 = (10 : Int32) from rfl, zdiv10 (by omega), Option.bind_some, if_pos ((zbit1 (by omega) (by omega)).mpr hE.2), zrem10 (by omega), Option.bind_some]
          unfold f_X9_buysFrom_67
          rw [zone hm10, Option.bind_some, Option.bind_some, zorN (by omega) (by omega), nI_1]
        · rw [ztb_or1, q4 c hc r]; rfl
        · rw [ztb_or1]
          by_cases e : 10 * j + c = k
          · have : k % 10 = c := by omega
            rw [decide_eq_true this, Bool.or_true]
          · rw [q5 j c hc (by omega) r2 r3]; rfl
        · rw [ztb_or1, Bool.or_eq_true] at r
          rcases r with r | r
          · exact q6 c hc r
          · have ec : k % 10 = c := of_decide_eq_true r
            have hl := zed_lt hW (by omega) hm10 hed
            rw [← ec]
            refine ⟨hl.2, ?_⟩
            rw [← zrcx_all ha _ hl.2]
            exact zrcx_s.mpr (Or.inr ⟨k / 10, hl.1, (q6 _ (by omega) hE.2).2, hed⟩)
      · refine ⟨(nI U, nI (k + 1)), ?_, rfl, U, rfl, q3, q4, fun j c hc r1 r2 r3 => ?_, q6⟩
        · have skip : f_X9_buysFrom_66 N (f_X9_buysFrom_7 N m) (f_X9_buysFrom_19 N (f_X9_buysFrom_7 N m) m3) (nI b) (nI p) (nI k) (nI U) σ = f_X9_buysFrom_19 N (f_X9_buysFrom_7 N m) m3 (nI b) (nI U) (nI p) (nI (k + 1)) σ := by
            unfold f_X9_buysFrom_66 f_X9_buysFrom_67
            rw [Option.bind_some, Option.bind_some, show (0 : Int32) = nI 0 from rfl, zorN (by omega) (by omega), nI_1, Nat.or_zero]
          show b_X9_buysFrom_19 N (f_X9_buysFrom_7 N m) (f_X9_buysFrom_19 N (f_X9_buysFrom_7 N m) m3) (nI b) (nI U) (nI p) (nI k) σ = _
          unfold b_X9_buysFrom_19
          rw [hM.nets, show (10 : Int32) = nI 10 from rfl, pk_mul, if_neg (nI_ge hk (by omega)), zald_nI hk100 (by decide), Option.bind_some, rd]
          by_cases e3 : α 1 k = 3
          · rw [e3, if_pos (show nI 3 = 3 from rfl), show nI 10 = (10 : Int32) from rfl, zdiv10 (by omega), Option.bind_some, if_neg (fun r => hE ⟨e3, (zbit1 (by omega) (by omega)).mp r⟩), skip]
          · rw [if_neg (show ¬ nI (α 1 k) = (3 : Int32) from fun r => e3 (nI_inj (b := 3) (by omega) (by decide) r)), skip]
        · by_cases e : 10 * j + c = k
          · exfalso
            have e1 : k / 10 = j := by omega
            have e2 : α 1 k = 3 := by rw [← e]; exact of_decide_eq_true r3
            exact hE ⟨e2, by rw [e1]; exact q4 j (by omega) r2⟩
          · exact q5 j c hc (by omega) r2 r3) N 0 (nI R, 0) (by omega) (by omega) ⟨rfl, R, rfl, p3, fun c _ r => r, fun j c _ r _ _ => absurd r (Nat.not_lt_zero _), p5⟩
    obtain ⟨x, y⟩ := s2
    simp only at d1 d2 d3
    subst d2 d3
    refine ⟨(nI U, nI (p + 1)), ?_, rfl, U, rfl, d4, fun c hc r => ?_, d7⟩
    · show b_X9_buysFrom_7 N (f_X9_buysFrom_7 N m) (nI b) (nI R) (nI p) σ = _
      unfold b_X9_buysFrom_7
      rw [hM.nets, if_neg (nI_ge hp (by omega))]
      have d1 : f_X9_buysFrom_19 N (f_X9_buysFrom_7 N m) N (nI b) (nI R) (nI p) 0 σ = f_X9_buysFrom_19 N (f_X9_buysFrom_7 N m) (m2 + 1) (nI b) (nI U) (nI p) (nI (α 0 0 * 10)) σ := d1
      rw [d1]
      show b_X9_buysFrom_19 N (f_X9_buysFrom_7 N m) (f_X9_buysFrom_19 N (f_X9_buysFrom_7 N m) m2) (nI b) (nI U) (nI p) (nI (α 0 0 * 10)) σ = _
      unfold b_X9_buysFrom_19
      rw [hM.nets, show (10 : Int32) = nI 10 from rfl, pk_mul, if_pos (zle_self (by omega)), Option.bind_some, nI_1]
    · rcases zrcx_s.mp r with q | ⟨j, q1, q2, q3⟩
      · exact d5 c hc (p4 c hc q)
      · exact d6 j c hc (by omega) (p4 j (by omega) q2) q3) N 0 (nI (2 ^ a), 0) (by omega) (by omega) ⟨rfl, 2 ^ a, rfl, Nat.pow_lt_pow_right (n := 10) (a := 2) (by decide) (by omega), fun c hc r => by
      have : c = a := of_decide_eq_true r
      rw [this, Nat.testBit_two_pow]; exact decide_eq_true rfl, fun c hc r => by
      rw [Nat.testBit_two_pow] at r
      have : a = c := of_decide_eq_true r
      rw [← this]
      have up : ∀ k, zrcx α a k a = true := fun k => by
        induction k with
        | zero => exact decide_eq_true rfl
        | succ k ih => exact zrcx_s.mpr (Or.inl ih)
      exact ⟨ha, up _⟩⟩
  obtain ⟨x, y⟩ := s'
  simp only at e1 e2 e3
  subst e2 e3
  unfold f_X9_buysFrom
  rw [Option.bind_some, zone (by omega)]
  have e1 : f_X9_buysFrom_7 N N (nI b) (nI (2 ^ a)) 0 σ = f_X9_buysFrom_7 N (m' + 1) (nI b) (nI R) (nI (α 0 0)) σ := e1
  rw [e1]
  show b_X9_buysFrom_7 N (f_X9_buysFrom_7 N m') (nI b) (nI R) (nI (α 0 0)) σ = _
  unfold b_X9_buysFrom_7
  rw [hM.nets, if_pos (zle_self (by omega))]
  by_cases q : zrcx α a (α 0 0) b = true
  · rw [if_pos ((zbit1 (by omega) (by omega)).mpr (e5 b (by omega) q)), zbI_t q]
  · rw [if_neg (fun r => q (e6 b (by omega) ((zbit1 (by omega) (by omega)).mp r)).2), zbI_f q]
/-! the tie is made -/
theorem zrt_cell {enc : Nat → Int32} {T : ZT} {α : AS} {σ : ZM} {c i : Nat} {x : Int32} (h : zrt enc T α σ) (hc : (T.all fun e => decide (e.1 ≠ c)) = true) : zrt enc T α (zuI σ c i x) := by
  intro e he j hj
  have h1 := of_decide_eq_true (List.all_eq_true.mp hc e he)
  rw [zuI_n (fun q => h1 q.1)]
  exact h e he j hj
def zjo (α : AS) (a b v v' : Nat) : AS := au (au (au α 1 (10 * a + b) v) 1 (10 * b + a) v') 0 1 (α 0 1 + 1)
theorem zjo_1 {α : AS} {a b v v' i : Nat} : zjo α a b v v' 1 i = if i = 10 * b + a then v' else if i = 10 * a + b then v else α 1 i := by
  unfold zjo
  rw [au_n (fun q => absurd q.1 (by decide))]
  unfold au
  simp
theorem zjo_c {α : AS} {a b v v' c i : Nat} (h1 : c ≠ 1) (h0 : ¬ (c = 0 ∧ i = 1)) : zjo α a b v v' c i = α c i := by
  unfold zjo
  rw [au_n h0, au_n (fun q => h1 q.1), au_n (fun q => h1 q.1)]
theorem zjo_code {α : AS} {a b v v' c : Nat} (h1 : c ≠ 1) (h0 : c ≠ 0) : zjo α a b v v' c = α c := by
  funext i
  exact zjo_c h1 (fun q => h0 q.1)
theorem WF.join {α : AS} (h : WF α) {a b v v' : Nat} (ha : a < α 0 0) (hb : b < α 0 0) (hab : a ≠ b) (ht : α 0 1 < 20) (hv : v ≤ 3) (hv' : v' = zrev v) : WF (zjo α a b v v') := by
  obtain ⟨h1, h2, h3, h4, h5, h6, h7⟩ := h
  have hn := h1.1
  have e0 : zjo α a b v v' 0 0 = α 0 0 := zjo_c (by decide) (by decide)
  have e2 : zjo α a b v v' 0 2 = α 0 2 := zjo_c (by decide) (by decide)
  have e3 : zjo α a b v v' 0 3 = α 0 3 := zjo_c (by decide) (by decide)
  have e1 : zjo α a b v v' 0 1 = α 0 1 + 1 := by unfold zjo; rw [au_s]
  have cd : ∀ c, c ≠ 1 → c ≠ 0 → zjo α a b v v' c = α c := fun c q r => zjo_code q r
  have rr : ∀ x, x ≤ 3 → zrev (zrev x) = x ∧ zrev x ≤ 3 := fun x hx => by
    rcases (show x = 0 ∨ x = 1 ∨ x = 2 ∨ x = 3 by omega) with rfl | rfl | rfl | rfl <;> decide
  refine ⟨⟨by rw [e0]; exact h1.1, by rw [e1]; omega, by rw [e2]; exact h1.2.2.1, by rw [e3]; exact h1.2.2.2⟩, ⟨fun i => ?_, fun c d hc hd => ?_, fun c hc => ?_, fun c d hc hd hle => ?_⟩, ?_, ?_, ?_, ?_, ?_⟩
  · rw [zjo_1]
    have := h2.1 i
    have := (rr v hv).2
    split
    · omega
    · split <;> omega
  · rw [zjo_1, zjo_1]
    have hs := h2.2.1 c d hc hd
    by_cases q1 : c = a ∧ d = b
    · rw [if_pos (show 10 * d + c = 10 * b + a by omega), if_neg (show ¬ 10 * c + d = 10 * b + a by omega), if_pos (show 10 * c + d = 10 * a + b by omega), hv']
    · by_cases q2 : c = b ∧ d = a
      · rw [if_neg (show ¬ 10 * d + c = 10 * b + a by omega), if_pos (show 10 * d + c = 10 * a + b by omega), if_pos (show 10 * c + d = 10 * b + a by omega), hv', (rr v hv).1]
      · rw [if_neg (show ¬ 10 * d + c = 10 * b + a by omega), if_neg (show ¬ 10 * d + c = 10 * a + b by omega), if_neg (show ¬ 10 * c + d = 10 * b + a by omega), if_neg (show ¬ 10 * c + d = 10 * a + b by omega)]
        exact hs
  · rw [zjo_1, if_neg (by omega), if_neg (by omega)]
    exact h2.2.2.1 c hc
  · rw [e0] at hle
    rw [zjo_1, if_neg (by omega), if_neg (by omega)]
    exact h2.2.2.2 c d hc hd hle
  · unfold WG; rw [cd 3 (by decide) (by decide), e0]; exact h3
  · unfold WQ; rw [cd 2 (by decide) (by decide), cd 5 (by decide) (by decide), cd 10 (by decide) (by decide)]; exact h4
  · unfold WH; rw [cd 4 (by decide) (by decide), e0, e2]; exact h5
  · unfold WW; rw [cd 6 (by decide) (by decide), cd 7 (by decide) (by decide), cd 8 (by decide) (by decide), cd 9 (by decide) (by decide), cd 11 (by decide) (by decide), e0, e2]; exact h6
  · unfold WX; rw [cd 12 (by decide) (by decide), cd 13 (by decide) (by decide), cd 14 (by decide) (by decide), cd 15 (by decide) (by decide), cd 16 (by decide) (by decide), cd 17 (by decide) (by decide), e0, e2, e3]; exact h7
theorem zmask_or {σ : ZM} {c : Nat} {p q : Nat → Bool} {a b : Nat} (h : zmask σ c p) (ha : a < 10) (hb : b < 10) (hq : ∀ x y, x < 10 → y < 10 → q (10 * x + y) = (p (10 * x + y) || decide (x = a ∧ y = b))) : ∃ m, σ.1 c a = nI m ∧ m < 1024 ∧ zmask (zuI σ c a (nI (m ||| 2 ^ b))) c q := by
  obtain ⟨m, h1, h2, h3⟩ := h a ha
  have hlt : m ||| 2 ^ b < 1024 := Nat.or_lt_two_pow (n := 10) h2 (Nat.pow_lt_pow_right (by decide) hb)
  refine ⟨m, h1, h2, fun x hx => ?_⟩
  by_cases e : x = a
  · subst e
    refine ⟨m ||| 2 ^ b, zuI_s, hlt, fun y hy => ?_⟩
    rw [ztb_or1, h3 y hy, hq x y hx hy]
    congr 1
    by_cases q : b = y
    · rw [decide_eq_true q, decide_eq_true ⟨rfl, q.symm⟩]
    · rw [decide_eq_false q, decide_eq_false (fun r => q r.2.symm)]
  · obtain ⟨k, k1, k2, k3⟩ := h x hx
    refine ⟨k, by rw [zuI_n (fun q => e q.2)]; exact k1, k2, fun y hy => ?_⟩
    rw [k3 y hy, hq x y hx hy, decide_eq_false (fun q => e q.1), Bool.or_false]
theorem zmask_eq {σ σ' : ZM} {c : Nat} {p q : Nat → Bool} (h : zmask σ c p) (e : ∀ x, σ'.1 c x = σ.1 c x) (hq : ∀ x y, x < 10 → y < 10 → q (10 * x + y) = p (10 * x + y)) : zmask σ' c q := by
  intro a ha
  obtain ⟨m, h1, h2, h3⟩ := h a ha
  exact ⟨m, by rw [e]; exact h1, h2, fun b hb => by rw [h3 b hb, hq a b ha hb]⟩
theorem zw_joinC {N : Nat} {α : AS} {σ : ZM} (hW : WF α) (hC : RC α σ) {a b : Nat} (ha : a < α 0 0) (hb : b < α 0 0) (hab : a ≠ b) (h0 : α 1 (10 * a + b) = 0) {x3 : Int32} {v v' : Nat} (hv : v = if x3 = 0 then 2 else 3) (hv' : v' = if x3 = 0 then 2 else 1) : ∃ σ', f_X3_join N (nI a) (nI b) x3 σ = some (nI (α 0 1 + 1), σ') ∧ RC (zjo α a b v v') σ' := by
  have hn := hW.1.1
  have ha10 : a < 10 := by omega
  have hb10 : b < 10 := by omega
  have h0' : α 1 (10 * b + a) = 0 := (hW.tie0 ha10 hb10).mp h0
  have v0 : v ≠ 0 ∧ v' ≠ 0 ∧ v' ≠ 3 ∧ (v = 3 ↔ x3 ≠ 0) := by
    by_cases q : x3 = 0
    · rw [if_pos q] at hv hv'; subst hv hv'; simp [q]
    · rw [if_neg q] at hv hv'; subst hv hv'; simp [q]
  obtain ⟨s1, hs1⟩ : ∃ s1, s1 = zuI (zuI σ 4 (10 * a + b) (nI v)) 4 (10 * b + a) (nI v') := ⟨_, rfl⟩
  obtain ⟨p1, hp1⟩ : ∃ p1 : Nat → Bool, p1 = fun i => decide (α 1 i ≠ 0) || decide (i = 10 * a + b) := ⟨_, rfl⟩
  have k5 : zmask s1 5 (fun i => decide (α 1 i ≠ 0)) := by rw [hs1]; exact zmask_set (zmask_set hC.2.2.2.1 (by decide)) (by decide)
  obtain ⟨ma, a1, a2, a3⟩ := zmask_or (q := p1) k5 ha10 hb10 (fun x y hx hy => by
    rw [hp1]
    show (decide (α 1 (10 * x + y) ≠ 0) || decide (10 * x + y = 10 * a + b)) = _
    congr 1
    exact decide_eq_decide.mpr (by omega))
  obtain ⟨s2, hs2⟩ : ∃ s2, s2 = zuI s1 5 a (nI (ma ||| 2 ^ b)) := ⟨_, rfl⟩
  rw [← hs2] at a3
  obtain ⟨mb, b1, b2, b3⟩ := zmask_or (q := fun i => decide (zjo α a b v v' 1 i ≠ 0)) a3 hb10 ha10 (fun x y hx hy => by
    rw [hp1]
    show decide (zjo α a b v v' 1 (10 * x + y) ≠ 0) = (decide (α 1 (10 * x + y) ≠ 0) || decide (10 * x + y = 10 * a + b) || decide (x = b ∧ y = a))
    rw [zjo_1]
    by_cases q1 : 10 * x + y = 10 * b + a
    · rw [if_pos q1, decide_eq_true v0.2.1, decide_eq_true (show x = b ∧ y = a by omega), Bool.or_true]
    · rw [if_neg q1, decide_eq_false (show ¬ (x = b ∧ y = a) by omega), Bool.or_false]
      by_cases q2 : 10 * x + y = 10 * a + b
      · rw [if_pos q2, decide_eq_true v0.1, decide_eq_true q2, Bool.or_true]
      · rw [if_neg q2, decide_eq_false q2, Bool.or_false])
  obtain ⟨s3, hs3⟩ : ∃ s3, s3 = zuI s2 5 b (nI (mb ||| 2 ^ a)) := ⟨_, rfl⟩
  rw [← hs3] at b3
  have k6 : zmask s3 6 (fun i => decide (α 1 i = 3)) := by rw [hs3, hs2, hs1]; exact zmask_set (zmask_set (zmask_set (zmask_set hC.2.2.2.2 (by decide)) (by decide)) (by decide)) (by decide)
  have t3 : zrt nI TC (au (au α 1 (10 * a + b) v) 1 (10 * b + a) v') s3 := by
    have z1 := zrt_upd (c := 4) (o := 0) (k := 1) (ko := 0) (b := 100) hC.1 (by decide +kernel) (show 10 * a + b < 100 by omega) v (x := nI v) rfl
    rw [Nat.zero_add] at z1
    have z2 := zrt_upd (c := 4) (o := 0) (k := 1) (ko := 0) (b := 100) z1 (by decide +kernel) (show 10 * b + a < 100 by omega) v' (x := nI v') rfl
    rw [Nat.zero_add] at z2
    rw [hs3, hs2, hs1]
    exact zrt_cell (zrt_cell z2 (by decide +kernel)) (by decide +kernel)
  have ts3 : zrt sI TS α s3 := by rw [hs3, hs2, hs1]; exact zrt_cell (zrt_cell (zrt_cell (zrt_cell hC.2.1 (by decide +kernel)) (by decide +kernel)) (by decide +kernel)) (by decide +kernel)
  have ta3 : zrt aC TA α s3 := by rw [hs3, hs2, hs1]; exact zrt_cell (zrt_cell (zrt_cell (zrt_cell hC.2.2.1 (by decide +kernel)) (by decide +kernel)) (by decide +kernel)) (by decide +kernel)
  have tie3 : s3.1 1 1 = nI (α 0 1) := by rw [hs3, zuI_n (by simp), hs2, zuI_n (by simp), hs1, zuI_n (by simp), zuI_n (by simp)]; exact hC.ties
  have fin : ∀ s4 : ZM, zrt nI TC (au (au α 1 (10 * a + b) v) 1 (10 * b + a) v') s4 → zrt sI TS α s4 → zrt aC TA α s4 → zmask s4 5 (fun i => decide (zjo α a b v v' 1 i ≠ 0)) → zmask s4 6 (fun i => decide (zjo α a b v v' 1 i = 3)) → s4.1 1 1 = nI (α 0 1) → ∃ σ', f_X3_join_80 N s4 = some (nI (α 0 1 + 1), σ') ∧ RC (zjo α a b v v') σ' := by
    intro s4 w1 w2 w3 w4 w5 w6
    refine ⟨zuI s4 1 1 (nI (α 0 1 + 1)), ?_, ?_, ?_, ?_, zmask_set w4 (by decide), zmask_set w5 (by decide)⟩
    · unfold f_X3_join_80 zpI
      rw [Option.bind_some, w6, nI_1, zuI_s]
    · have z := zrt_upd (c := 1) (o := 0) (k := 0) (ko := 0) (b := 2) (i := 1) w1 (by decide +kernel) (by decide) (α 0 1 + 1) (x := nI (α 0 1 + 1)) rfl
      exact z
    · have hr : ∀ e ∈ TS, e.2.2.1 = 17 := by decide +kernel
      intro e he i hi
      rw [zrt_cell w2 (by decide +kernel) e he i hi, hr e he, zjo_code (by decide) (by decide)]
    · have hr : ∀ e ∈ TA, e.2.2.1 = 11 := by decide +kernel
      intro e he i hi
      rw [zrt_cell w3 (by decide +kernel) e he i hi, hr e he, zjo_code (by decide) (by decide)]
  have pre : f_X3_join N (nI a) (nI b) x3 σ = if x3 = 0 then f_X3_join_80 N s3 else (zald s3 6 10 (nI a)).bind fun v7 => (zast s3 6 10 (nI a) (v7 ||| ((1 : Int32) <<< (nI b &&& 31)))).bind fun s8 => f_X3_join_80 N s8 := by
    have j39 : f_X3_join_39 N (nI a) (nI b) x3 (nI v') ((nI b * (10 : Int32)) + nI a) (zuI σ 4 (10 * a + b) (nI v)) = if x3 = 0 then f_X3_join_80 N s3 else (zald s3 6 10 (nI a)).bind fun v7 => (zast s3 6 10 (nI a) (v7 ||| ((1 : Int32) <<< (nI b &&& 31)))).bind fun s8 => f_X3_join_80 N s8 := by
      unfold f_X3_join_39
      rw [(zmul10 b a).1, zast_nI (show 10 * b + a < 100 by omega) (by decide), Option.bind_some, ← hs1, zald_nI ha10 (by decide), a1, Option.bind_some, zone hb10, zorN (by omega) (by have := Nat.pow_lt_pow_right (a := 2) (n := 10) (m := b) (by decide) hb10; omega), zast_nI ha10 (by decide), Option.bind_some, ← hs2, zald_nI hb10 (by decide), b1, Option.bind_some, zone ha10, zorN (by omega) (by have := Nat.pow_lt_pow_right (a := 2) (n := 10) (m := a) (by decide) ha10; omega), zast_nI hb10 (by decide), Option.bind_some, ← hs3]
    unfold f_X3_join f_X3_join_19
    rw [(zmul10 a b).1, zast_nI (show 10 * a + b < 100 by omega) (by decide), Option.bind_some, zast_nI (show 10 * a + b < 100 by omega) (by decide), Option.bind_some]
    by_cases q : x3 = 0
    · rw [if_pos q] at hv hv'
      rw [hv'] at j39
      rw [if_pos q, if_pos q, ← j39, hv]
      rfl
    · rw [if_neg q] at hv hv'
      rw [hv'] at j39
      rw [if_neg q, if_neg q, ← j39, hv]
      rfl
  rw [pre]
  by_cases q : x3 = 0
  · rw [if_pos q]
    refine fin s3 t3 ts3 ta3 b3 (zmask_eq k6 (fun x => rfl) (fun x y hx hy => ?_)) tie3
    show decide (zjo α a b v v' 1 (10 * x + y) = 3) = decide (α 1 (10 * x + y) = 3)
    rw [zjo_1]
    have v3 : v ≠ 3 := fun r => v0.2.2.2.mp r q
    by_cases q1 : 10 * x + y = 10 * b + a
    · rw [if_pos q1, q1, h0', decide_eq_false v0.2.2.1]; rfl
    · rw [if_neg q1]
      by_cases q2 : 10 * x + y = 10 * a + b
      · rw [if_pos q2, q2, h0, decide_eq_false v3]; rfl
      · rw [if_neg q2]
  · rw [if_neg q]
    obtain ⟨m6, c1, c2, c3⟩ := zmask_or (q := fun i => decide (zjo α a b v v' 1 i = 3)) k6 ha10 hb10 (fun x y hx hy => by
      show decide (zjo α a b v v' 1 (10 * x + y) = 3) = (decide (α 1 (10 * x + y) = 3) || decide (x = a ∧ y = b))
      rw [zjo_1]
      have v3 : v = 3 := v0.2.2.2.mpr q
      by_cases q1 : 10 * x + y = 10 * b + a
      · rw [if_pos q1, q1, h0', decide_eq_false v0.2.2.1, decide_eq_false (show ¬ (x = a ∧ y = b) by omega)]; rfl
      · rw [if_neg q1]
        by_cases q2 : 10 * x + y = 10 * a + b
        · rw [if_pos q2, decide_eq_true v3, decide_eq_true (show x = a ∧ y = b by omega), Bool.or_true]
        · rw [if_neg q2, decide_eq_false (show ¬ (x = a ∧ y = b) by omega), Bool.or_false])
    rw [zald_nI ha10 (by decide), c1, Option.bind_some, zone hb10, zorN (by omega) (by have := Nat.pow_lt_pow_right (a := 2) (n := 10) (m := b) (by decide) hb10; omega), zast_nI ha10 (by decide), Option.bind_some]
    exact fin _ (zrt_cell t3 (by decide +kernel)) (zrt_cell ts3 (by decide +kernel)) (zrt_cell ta3 (by decide +kernel)) (zmask_set b3 (by decide)) c3 (by rw [zuI_n (by simp)]; exact tie3)
theorem zw_joinM {N : Nat} {α : AS} {σ : ZM} (hW : WF α) (hM : RM α σ) {a b : Nat} (ha : a < α 0 0) (hb : b < α 0 0) {x3 : Int32} {v v' : Nat} (ht : α 0 1 < 20) (hv : v = if x3 = 0 then 2 else 3) (hv' : v' = if x3 = 0 then 2 else 1) : ∃ σ', f_X9_tie_53 N (nI a) (nI b) x3 σ = some (nI (α 0 1 + 1), σ') ∧ RM (zjo α a b v v') σ' := by
  have hn := hW.1.1
  obtain ⟨s1, hs1⟩ : ∃ s1, s1 = zuI (zuI σ 1 (10 * a + b) (nI v)) 1 (10 * b + a) (nI v') := ⟨_, rfl⟩
  have tie1 : s1.1 0 1 = nI (α 0 1) := by rw [hs1, zuI_n (by simp), zuI_n (by simp)]; exact hM.ties
  refine ⟨zuI s1 0 1 (nI (α 0 1 + 1)), ?_, ?_, fun s hs => ?_, fun t ht n hn => ?_⟩
  · have j104 : f_X9_tie_104 N (nI v') (((10 : Int32) * nI b) + nI a) (zuI σ 1 (10 * a + b) (nI v)) = some (nI (α 0 1 + 1), zuI s1 0 1 (nI (α 0 1 + 1))) := by
      unfold f_X9_tie_104 zpI
      rw [(zmul10 b a).2, zast_nI (show 10 * b + a < 100 by omega) (by decide), Option.bind_some, ← hs1, Option.bind_some, tie1, nI_1, zuI_s]
    unfold f_X9_tie_53 f_X9_tie_84
    rw [hM.ties, if_neg (fun q => by have := nI_inj (b := 20) (by omega) (by decide) q; omega), (zmul10 a b).2, zast_nI (show 10 * a + b < 100 by omega) (by decide), Option.bind_some, zast_nI (show 10 * a + b < 100 by omega) (by decide), Option.bind_some]
    by_cases q : x3 = 0
    · rw [if_pos q] at hv hv'
      rw [hv'] at j104
      rw [if_pos q, if_pos q, ← j104, hv]
      rfl
    · rw [if_neg q] at hv hv'
      rw [hv'] at j104
      rw [if_neg q, if_neg q, ← j104, hv]
      rfl
  · have z1 := zrt_upd (c := 1) (o := 0) (k := 1) (ko := 0) (b := 100) hM.1 (by decide +kernel) (show 10 * a + b < 100 by omega) v (x := nI v) rfl
    rw [Nat.zero_add] at z1
    have z2 := zrt_upd (c := 1) (o := 0) (k := 1) (ko := 0) (b := 100) z1 (by decide +kernel) (show 10 * b + a < 100 by omega) v' (x := nI v') rfl
    rw [Nat.zero_add] at z2
    have z3 := zrt_upd (c := 0) (o := 0) (k := 0) (ko := 0) (b := 2) (i := 1) z2 (by decide +kernel) (by decide) (α 0 1 + 1) (x := nI (α 0 1 + 1)) rfl
    rw [hs1]
    exact z3
  · rw [zjo_c (by decide) (by decide)] at hs
    rw [zuI_n (by simp), hs1, zuI_n (by simp), zuI_n (by simp), zjo_code (by decide) (by decide)]
    exact hM.2.1 s hs
  · rw [zjo_c (by decide) (by decide)] at ht
    rw [zuI_n (by simp), hs1, zuI_n (by simp), zuI_n (by simp), zjo_code (by decide) (by decide)]
    exact hM.2.2 t ht n hn
theorem mu_tie {N : Nat} (hN : 110 < N) (x y z : Int32) : zMut (f_X8_tie N x y z) (f_X9_tie N x y z) := by
  intro α σc σm hW hC hM
  have hn := hW.1.1
  have hts := hW.1.2.1
  by_cases hx : 0 ≤ x.toInt ∧ x.toInt < α 0 0
  · obtain ⟨a, ha, rfl, -⟩ := zof hx
    by_cases hy : 0 ≤ y.toInt ∧ y.toInt < α 0 0
    · obtain ⟨b, hb, rfl, -⟩ := zof hy
      have ha10 : a < 10 := by omega
      have hb10 : b < 10 := by omega
      have c8 : f_X8_tie N (nI a) (nI b) z σc = if nI a = nI b then some ((-3 : Int32), σc) else if nI (α 1 (10 * a + b)) = 0 then (if z = 0 then f_X8_tie_60 N (nI a) (nI b) z σc else zbd (f_X3_buysFrom N (nI b) (nI a) σc) fun r11 s12 => if r11 = 0 then f_X8_tie_60 N (nI a) (nI b) z s12 else some ((-3 : Int32), s12)) else some ((-3 : Int32), σc) := by
        unfold f_X8_tie
        rw [zw_has N (nI a) σc hC.nets hn, zbI_t hx]
        unfold zbd
        rw [Option.bind_some]
        simp only
        rw [if_neg (by decide), zw_has N (nI b) σc hC.nets hn, zbI_t hy, Option.bind_some]
        simp only
        rw [if_neg (by decide), hC.bond ha10 hb10, Option.bind_some]
      have m9 : f_X9_tie N (nI a) (nI b) z σm = if nI a = nI b then some ((-3 : Int32), σm) else if nI (α 1 (10 * a + b)) = 0 then (if z = 0 then f_X9_tie_53 N (nI a) (nI b) z σm else zbd (f_X9_buysFrom N (nI b) (nI a) σm) fun r11 s12 => if r11 = 0 then f_X9_tie_53 N (nI a) (nI b) z s12 else some ((-3 : Int32), s12)) else some ((-3 : Int32), σm) := by
        unfold f_X9_tie
        rw [zw_isNet N (nI a) σm hM.nets hn, zbI_t hx]
        unfold zbd
        rw [Option.bind_some]
        simp only
        rw [if_neg (by decide), zw_isNet N (nI b) σm hM.nets hn, zbI_t hy, Option.bind_some]
        simp only
        rw [if_neg (by decide), hM.tie ha10 hb10, Option.bind_some]
      have keep : ∃ (r : Int32) (σc1 σm1 : ZM) (α1 : AS), some ((-3 : Int32), σc) = some (r, σc1) ∧ some ((-3 : Int32), σm) = some (r, σm1) ∧ WF α1 ∧ RC α1 σc1 ∧ RM α1 σm1 ∧ ((σc1 = σc ∧ α1 = α) ∨ Stale σc1) := ⟨-3, σc, σm, α, rfl, rfl, hW, hC, hM, Or.inl ⟨rfl, rfl⟩⟩
      rw [c8, m9]
      by_cases hab : a = b
      · rw [if_pos (by rw [hab]), if_pos (by rw [hab])]
        exact keep
      · have hab' : ¬ nI a = nI b := fun q => hab (nI_inj (by omega) (by omega) q)
        rw [if_neg hab', if_neg hab']
        by_cases h0 : α 1 (10 * a + b) = 0
        · have h00 : nI (α 1 (10 * a + b)) = 0 := by rw [h0]; rfl
          rw [if_pos h00, if_pos h00]
          have make : ∃ (r : Int32) (σc1 σm1 : ZM) (α1 : AS), f_X8_tie_60 N (nI a) (nI b) z σc = some (r, σc1) ∧ f_X9_tie_53 N (nI a) (nI b) z σm = some (r, σm1) ∧ WF α1 ∧ RC α1 σc1 ∧ RM α1 σm1 ∧ ((σc1 = σc ∧ α1 = α) ∨ Stale σc1) := by
            by_cases ht : α 0 1 < 20
            · obtain ⟨v, hv⟩ : ∃ v : Nat, v = if z = 0 then 2 else 3 := ⟨_, rfl⟩
              obtain ⟨v', hv'⟩ : ∃ v' : Nat, v' = if z = 0 then 2 else 1 := ⟨_, rfl⟩
              have hvv : v ≤ 3 ∧ v' = zrev v := by
                by_cases q : z = 0
                · rw [if_pos q] at hv hv'; subst hv hv'; decide
                · rw [if_neg q] at hv hv'; subst hv hv'; decide
              obtain ⟨s1, e1, w1, st1⟩ := zw_forgetAll N σc
              obtain ⟨s2, b1, b2⟩ := zw_joinC (N := N) hW (hC.forget w1) ha hb hab h0 hv hv'
              obtain ⟨t1, d1, d2⟩ := zw_joinM (N := N) hW hM ha hb ht hv hv'
              have fj := fr_X3_join b1
              refine ⟨_, s2, t1, _, ?_, d1, hW.join ha hb hab ht hvv.1 hvv.2, b2, d2, Or.inr ⟨?_, ?_, ?_⟩⟩
              · unfold f_X8_tie_60
                rw [hC.ties, if_pos (by rw [Int32.lt_iff_toInt_lt, nI_toInt (by omega)]; show ((α 0 1 : Nat) : Int) < 20; omega), e1]
                unfold zbd
                rw [Option.bind_some]
                simp only
                rw [b1]
                rfl
              · rw [(fj 23 14 (by simp) (by simp)).1]; exact st1.1
              · rw [(fj 38 15 (by simp) (by simp)).1]; exact st1.2.1
              · rw [(fj 38 16 (by simp) (by simp)).1]; exact st1.2.2
            · have h20 : α 0 1 = 20 := by omega
              refine ⟨-4, σc, σm, α, ?_, ?_, hW, hC, hM, Or.inl ⟨rfl, rfl⟩⟩
              · unfold f_X8_tie_60
                rw [hC.ties, h20, if_neg (by decide)]
              · unfold f_X9_tie_53
                rw [hM.ties, h20, if_pos (by decide)]
          by_cases q : z = 0
          · rw [if_pos q, if_pos q]
            exact make
          · rw [if_neg q, if_neg q, zw_buysC (by omega) hW hC hb ha hab, zw_buysM hN hW hM hb ha]
            unfold zbd
            rw [Option.bind_some, Option.bind_some]
            simp only
            by_cases r : zrcx α b (α 0 0) a = true
            · rw [zbI_t r, if_neg (by decide), if_neg (by decide)]
              exact keep
            · rw [zbI_f r, if_pos rfl, if_pos rfl]
              exact make
        · have h3 := hW.2.1.1 (10 * a + b)
          have h00 : ¬ nI (α 1 (10 * a + b)) = 0 := fun q => h0 (nI_inj (b := 0) (by omega) (by decide) q)
          rw [if_neg h00, if_neg h00]
          exact keep
    · refine zMut.same hW hC hM (r := -1) ?_ ?_
      · unfold f_X8_tie
        rw [zw_has N (nI a) σc hC.nets hn, zbI_t hx]
        unfold zbd
        rw [Option.bind_some]
        simp only
        rw [if_neg (by decide), zw_has N y σc hC.nets hn, zbI_f hy, Option.bind_some]
        exact if_pos rfl
      · unfold f_X9_tie
        rw [zw_isNet N (nI a) σm hM.nets hn, zbI_t hx]
        unfold zbd
        rw [Option.bind_some]
        simp only
        rw [if_neg (by decide), zw_isNet N y σm hM.nets hn, zbI_f hy, Option.bind_some]
        exact if_pos rfl
  · refine zMut.same hW hC hM (r := -1) ?_ ?_
    · unfold f_X8_tie
      rw [zw_has N x σc hC.nets hn, zbI_f hx]
      unfold zbd
      rw [Option.bind_some]
      exact if_pos rfl
    · unfold f_X9_tie
      rw [zw_isNet N x σm hM.nets hn, zbI_f hx]
      unfold zbd
      rw [Option.bind_some]
      exact if_pos rfl
