/-! ===== what a rest weighs: excess and sum ===== -/
def zla (α : AS) (w : WD) (n : Nat) : Nat := if zsn (w n) = 5 then 1000 else α 10 (4 * n + zsn (w n))
def zex (α : AS) (w : WD) : Nat := zsum (fun s => zld α w s (α 0 0) - α 5 s) (α 0 2)
def zsu (α : AS) (w : WD) : Nat := zsum (fun n => α 2 n * zla α w n) (α 0 0)
theorem zld_le {α : AS} {w : WD} {s : Nat} (hW : WF α) {n : Nat} (hn : n ≤ 10) : zld α w s n ≤ 100000 := by
  have := zsum_le (f := fun n => if zsn (w n) = s then α 2 n else 0) (b := 10000) (fun i => by
    have := hW.2.2.2.1.1 i
    show (if zsn (w i) = s then α 2 i else 0) ≤ _
    split <;> omega) n
  have h2 : n * 10000 ≤ 100000 := by omega
  exact Nat.le_trans this h2
theorem zla_le {α : AS} {w : WD} (hW : WF α) (n : Nat) : zla α w n ≤ 1000 := by
  unfold zla
  have := hW.2.2.2.1.2.2 (4 * n + zsn (w n))
  split <;> omega
theorem zex_le {α : AS} {w : WD} (hW : WF α) : zex α w ≤ 400000 := by
  have hn := hW.1.1
  have hs := hW.1.2.2.1
  have := zsum_le (f := fun s => zld α w s (α 0 0) - α 5 s) (b := 100000) (fun i => by
    have := zld_le (w := w) (s := i) hW hn
    show zld α w i (α 0 0) - α 5 i ≤ _
    omega) (α 0 2)
  unfold zex
  omega
theorem zsu_le {α : AS} {w : WD} (hW : WF α) : zsu α w ≤ 100000000 := by
  have hn := hW.1.1
  have := zsum_le (f := fun n => α 2 n * zla α w n) (b := 10000000) (fun i => by
    have h1 := hW.2.2.2.1.1 i
    have h2 := zla_le (w := w) hW i
    exact Nat.mul_le_mul h1 h2) (α 0 0)
  unfold zsu
  omega
theorem nI_i2l {n : Nat} (h : n < 2 ^ 31) : Int32.toInt64 (nI n) = lN n := by
  apply Int64.toInt_inj.mp
  rw [z64, nI_toInt h, lN_toInt h]
theorem zmax0 {k : Nat} (h : k < 2 ^ 31) : zmax 0 (nI k) = nI k := by
  unfold zmax
  by_cases e : k = 0
  · subst e; rfl
  · rw [if_pos]
    rw [Int32.lt_iff_toInt_lt, nI_toInt h]
    show (0 : Int) < k
    omega
theorem zmaxN {a b : Nat} (ha : a < 2 ^ 31) (hb : b < 2 ^ 31) : zmax (nI a) (nI b) = nI (if a < b then b else a) := by
  unfold zmax
  by_cases e : a < b
  · rw [if_pos e, if_pos]
    rw [Int32.lt_iff_toInt_lt, nI_toInt ha, nI_toInt hb]; omega
  · rw [if_neg e, if_neg]
    rw [Int32.lt_iff_toInt_lt, nI_toInt ha, nI_toInt hb]; omega
theorem zmax_sub {a b : Nat} (ha : a < 2 ^ 30) (hb : b < 2 ^ 30) : zmax 0 (nI a - nI b) = nI (a - b) := by
  by_cases h : b ≤ a
  · rw [pk_sub h, zmax0 (by omega)]
  · have h1 := pk_sneg hb (show a < b by omega)
    unfold zmax
    rw [if_neg, show a - b = 0 by omega]
    · rfl
    · intro q
      rw [Int32.lt_iff_toInt_lt] at q h1
      omega
theorem zle0_sub {a b : Nat} (ha : a < 2 ^ 30) (hb : b < 2 ^ 30) : (nI a - nI b ≤ 0) ↔ a ≤ b := by
  rw [Int32.le_iff_toInt_le, pk_sub_toInt ha hb]
  show (a : Int) - b ≤ 0 ↔ _
  omega
theorem RC.room {α : AS} {σ : ZM} (h : RC α σ) {i : Nat} (hi : i < 4) : zald σ 9 4 (nI i) = some (nI (α 5 i)) := by
  rw [zald_nI hi (by decide)]
  have := h.at 9 0 5 0 4 (by decide) hi
  rw [Nat.zero_add] at this
  rw [this]
theorem RM.room {α : AS} {σ : ZM} (h : RM α σ) {i : Nat} (hi : i < 4) : zald σ 5 4 (nI i) = some (nI (α 5 i)) := by
  rw [zald_nI hi (by decide)]
  have := h.at 5 0 5 0 4 (by decide) hi
  rw [Nat.zero_add] at this
  rw [this]
theorem RC.late {α : AS} {σ : ZM} (h : RC α σ) {i : Nat} (hi : i < 40) : zald σ 11 40 (nI i) = some (nI (α 10 i)) := by
  rw [zald_nI hi (by decide)]
  have := h.at 11 0 10 0 40 (by decide) hi
  rw [Nat.zero_add] at this
  rw [this]
theorem RM.late {α : AS} {σ : ZM} (h : RM α σ) {i : Nat} (hi : i < 40) : zald σ 10 40 (nI i) = some (nI (α 10 i)) := by
  rw [zald_nI hi (by decide)]
  have := h.at 10 0 10 0 40 (by decide) hi
  rw [Nat.zero_add] at this
  rw [this]
theorem sI5 : sI 5 = (-9 : Int32) := rfl
theorem sI_m9 {a : Nat} (h : a ≤ 5) (h5 : a ≠ 5) : ¬ sI a = (-9 : Int32) := fun q => h5 (sI_inj h (by omega) (q.trans sI5.symm))
theorem zw_excessOf {N : Nat} (hN : 14 < N) {α κ : AS} {w : WD} {σ : ZM} (hW : WF α) (hV : VW α κ w) (hM : RM α σ) (hO : ∀ n, n < α 0 0 → MW1 17 (w n) n σ) : f_X9_excessOf N σ = some (nI (zex α w), σ) := by
  have hn0 := hW.1.1
  have hs0 := hW.1.2.2.1
  refine zloopT (fun m (q : Int32 × Int32) => f_X9_excessOf_4 N m q.1 q.2 σ) (fun i => (nI (zsum (fun s => zld α w s (α 0 0) - α 5 s) i), nI i)) (α 0 2) _ (fun m => ?_) (fun m i hi => ?_) N 0 (by omega) (by omega)
  · show b_X9_excessOf_4 N (f_X9_excessOf_4 N m) _ (nI (α 0 2)) σ = _
    unfold b_X9_excessOf_4
    rw [hM.sites, if_pos (zle_self (by omega))]
    rfl
  · show b_X9_excessOf_4 N (f_X9_excessOf_4 N m) _ (nI i) σ = f_X9_excessOf_4 N m (nI (zsum (fun s => zld α w s (α 0 0) - α 5 s) i + (zld α w i (α 0 0) - α 5 i))) (nI (i + 1)) σ
    have h1 := zld_le (w := w) (s := i) hW hn0
    have h2 := hW.2.2.2.1.2.1 i
    unfold b_X9_excessOf_4
    rw [hM.sites, if_neg (nI_ge hi (by omega)), zw_loadOf hN hW hV hM hO (show i < 4 by omega)]
    unfold zbd
    rw [Option.bind_some]
    try simp only
    rw [hM.room (show i < 4 by omega), Option.bind_some, Option.bind_some]
    by_cases e : zld α w i (α 0 0) ≤ α 5 i
    · rw [if_pos ((zle0_sub (by omega) (by omega)).mpr e), show zld α w i (α 0 0) - α 5 i = 0 by omega]
      unfold f_X9_excessOf_35
      rw [Option.bind_some, Option.bind_some, nI_1, show (0 : Int32) = nI 0 from rfl, nI_add]
    · rw [if_neg (fun q => e ((zle0_sub (by omega) (by omega)).mp q)), pk_sub (by omega)]
      unfold f_X9_excessOf_35
      rw [Option.bind_some, Option.bind_some, nI_1, nI_add]
theorem zw_sumOf {N : Nat} (hN : 14 < N) {α κ : AS} {w : WD} {σ : ZM} (hW : WF α) (hV : VW α κ w) (hM : RM α σ) (hO : ∀ n, n < α 0 0 → MW1 17 (w n) n σ) : f_X9_sumOf N σ = some (lN (zsu α w), σ) := by
  have hn0 := hW.1.1
  refine zloopT (fun m (q : Int64 × Int32) => f_X9_sumOf_4 N m q.1 q.2 σ) (fun i => (lN (zsum (fun n => α 2 n * zla α w n) i), nI i)) (α 0 0) _ (fun m => ?_) (fun m i hi => ?_) N 0 (by omega) (by omega)
  · show b_X9_sumOf_4 N (f_X9_sumOf_4 N m) _ (nI (α 0 0)) σ = _
    unfold b_X9_sumOf_4
    rw [hM.nets, if_pos (zle_self (by omega))]
    rfl
  · show b_X9_sumOf_4 N (f_X9_sumOf_4 N m) _ (nI i) σ = f_X9_sumOf_4 N m (lN (zsum (fun n => α 2 n * zla α w n) i + α 2 i * zla α w i)) (nI (i + 1)) σ
    have hz := zsn_le hV i
    have h1 := hW.2.2.2.1.1 i
    have h2 := zla_le (w := w) hW i
    unfold b_X9_sumOf_4
    rw [hM.nets, if_neg (nI_ge hi (by omega)), hM.asks (show i < 10 by omega), Option.bind_some, zald_nI (show i < 10 by omega) (by decide), Option.bind_some, (hO i hi).site (fun x hx => (hV i x hx).2.1.1)]
    by_cases e : zsn (w i) = 5
    · have el : zla α w i = 1000 := if_pos e
      rw [e, if_pos sI5, el]
      unfold f_X9_sumOf_52
      rw [Option.bind_some, Option.bind_some, nI_1, show (1000 : Int32) = nI 1000 from rfl, nI_i2l (by omega), nI_i2l (by omega), lN_mul, lN_add]
    · have el : zla α w i = α 10 (4 * i + zsn (w i)) := if_neg e
      have h3 := hW.2.2.2.1.2.2 (4 * i + zsn (w i))
      rw [if_neg (sI_m9 hz.1 e), Option.bind_some, sI_nI e, (zmul4 i _).2, hM.late (show 4 * i + zsn (w i) < 40 by omega), Option.bind_some, el]
      unfold f_X9_sumOf_52
      rw [Option.bind_some, Option.bind_some, nI_1, nI_i2l (by omega), nI_i2l (by omega), lN_mul, lN_add]
abbrev zW29 : List (Nat × Option Nat) := [(29, none)]
theorem RC.fr29 {α : AS} {σ σ' : ZM} (h : RC α σ) (hW : zag zW29 σ σ') : RC α σ' := h.fr hW (by decide +kernel) (by decide +kernel) (by decide +kernel) (by decide) (by decide)
theorem zw_weighRest {N : Nat} (hN : 14 < N) {α κ : AS} {w : WD} {σ : ZM} (hW : WF α) (hV : VW α κ w) (hC : RC α σ) (h19 : ∀ n, n < 10 → σ.2 19 n = zen (w n)) {a : Nat} (ha : a < 625) : ∃ σ', f_X1_weighRest N (nI a) σ = some ((), σ') ∧ σ'.1 30 a = nI (zex α w) ∧ σ'.1 31 a = nI (zsu α w) ∧ ∀ b, b ≠ a → σ'.1 30 b = σ.1 30 b ∧ σ'.1 31 b = σ.1 31 b := by
  have hn0 := hW.1.1
  have hs0 := hW.1.2.2.1
  have f0 := zfill_ok N 29 4 0 σ (by decide) (by omega)
  have g0 : zag zW29 σ _ := fr_J7_fill_53178 f0
  obtain ⟨s0, hs0'⟩ : ∃ s, s = zuC σ 29 (fun i => if i < 4 then (0 : Int32) else σ.1 29 i) := ⟨_, rfl⟩
  rw [← hs0'] at f0
  have g0 : zag zW29 σ s0 := by rw [hs0']; exact g0
  have z0 : ∀ s, s < 4 → s0.1 29 s = nI 0 := fun s hs => by rw [hs0']; simp [zuC, hs]; rfl
  obtain ⟨m', s', e1, e2, e3, e4, e5⟩ := zloopS (fun m (q : Int32 × Int32 × ZM) => f_X1_weighRest_12 N m (nI a) q.1 q.2.1 q.2.2)
    (fun i q => q.1 = nI (zsum (fun n => α 2 n * zla α w n) i) ∧ q.2.1 = nI i ∧ zag zW29 σ q.2.2 ∧ ∀ s, s < 4 → q.2.2.1 29 s = nI (zld α w s i)) (α 0 0) (by
    rintro m i ⟨x, y, s⟩ hi ⟨p0, p1, p2, p3⟩
    simp only at p0 p1 p2 p3
    subst p0 p1
    have hcs := hC.fr29 p2
    have hz := zsn_le hV i
    have h19s : ∀ n, n < 10 → s.2 19 n = zen (w n) := fun n hn => by rw [(p2 19 n (by decide) (by simp)).2]; exact h19 n hn
    by_cases e : zsn (w i) = 5
    · have el : zla α w i = 1000 := if_pos e
      refine ⟨(nI (zsum (fun n => α 2 n * zla α w n) i + α 2 i * zla α w i), nI (i + 1), s), ?_, rfl, rfl, p2, fun t ht => ?_⟩
      · show b_X1_weighRest_12 N (f_X1_weighRest_12 N m) (nI a) _ (nI i) s = _
        unfold b_X1_weighRest_12
        rw [hcs.nets, if_neg (nI_ge hi (by omega)), zw_comesTo hV h19s (show i < 10 by omega)]
        unfold zbd
        rw [Option.bind_some]
        try simp only
        rw [e, if_pos sI5, hcs.asks (show i < 10 by omega), Option.bind_some, Option.bind_some]
        unfold f_X1_weighRest_105
        rw [Option.bind_some, nI_1, show (1000 : Int32) = nI 1000 from rfl, pk_mul, nI_add, el]
      · show s.1 29 t = nI (zld α w t i + if zsn (w i) = t then α 2 i else 0)
        rw [if_neg (by omega)]
        exact p3 t ht
    · have el : zla α w i = α 10 (4 * i + zsn (w i)) := if_neg e
      obtain ⟨t, ht⟩ : ∃ t, t = zsn (w i) := ⟨_, rfl⟩
      have ht4 : t < 4 := by omega
      refine ⟨(nI (zsum (fun n => α 2 n * zla α w n) i + α 2 i * zla α w i), nI (i + 1), zuI s 29 t (nI (zld α w t i + α 2 i))), ?_, rfl, rfl, zag_t p2 (zag_all zag_uI), fun u hu => ?_⟩
      · show b_X1_weighRest_12 N (f_X1_weighRest_12 N m) (nI a) _ (nI i) s = _
        unfold b_X1_weighRest_12
        rw [hcs.nets, if_neg (nI_ge hi (by omega)), zw_comesTo hV h19s (show i < 10 by omega)]
        unfold zbd
        rw [Option.bind_some]
        try simp only
        rw [if_neg (sI_m9 hz.1 e), hcs.asks (show i < 10 by omega), Option.bind_some, sI_nI e, (zmul4 i _).1, hcs.late (show 4 * i + zsn (w i) < 40 by omega), Option.bind_some, Option.bind_some, ← ht, zald_nI ht4 (by decide), Option.bind_some, Option.bind_some, zast_nI ht4 (by decide), Option.bind_some, p3 t ht4, nI_add]
        unfold f_X1_weighRest_105
        rw [Option.bind_some, nI_1, pk_mul, nI_add, el, ht]
      · show (zuI s 29 t (nI (zld α w t i + α 2 i))).1 29 u = nI (zld α w u i + if zsn (w i) = u then α 2 i else 0)
        by_cases eu : u = t
        · subst eu; rw [zuI_s, if_pos ht.symm]
        · rw [zuI_n (fun q => eu q.2), if_neg (fun q => eu (ht.trans q).symm)]
          exact p3 u hu) N 0 (0, 0, s0) (by omega) (by omega) ⟨rfl, rfl, g0, fun s hs => by rw [z0 s hs]; rfl⟩
  obtain ⟨x, y, s⟩ := s'
  simp only at e1 e2 e3 e4 e5
  subst e2 e3
  have hcs := hC.fr29 e4
  have last : f_X1_weighRest_116 N N (nI a) (nI (zsu α w)) 0 0 s = some ((), zuI (zuI s 30 a (nI (zex α w))) 31 a (nI (zsu α w))) := by
    refine zloopT (fun m (q : Int32 × Int32) => f_X1_weighRest_116 N m (nI a) (nI (zsu α w)) q.1 q.2 s) (fun i => (nI (zsum (fun s => zld α w s (α 0 0) - α 5 s) i), nI i)) (α 0 2) _ (fun m => ?_) (fun m i hi => ?_) N 0 (by omega) (by omega)
    · show b_X1_weighRest_116 N (f_X1_weighRest_116 N m) (nI a) _ _ (nI (α 0 2)) s = _
      unfold b_X1_weighRest_116
      rw [hcs.sites, if_pos (zle_self (by omega)), zast_nI ha (by decide), Option.bind_some, zast_nI ha (by decide), Option.bind_some]
      rfl
    · show b_X1_weighRest_116 N (f_X1_weighRest_116 N m) (nI a) _ _ (nI i) s = f_X1_weighRest_116 N m (nI a) (nI (zsu α w)) (nI (zsum (fun s => zld α w s (α 0 0) - α 5 s) i + (zld α w i (α 0 0) - α 5 i))) (nI (i + 1)) s
      have h1 := zld_le (w := w) (s := i) hW hn0
      have h2 := hW.2.2.2.1.2.1 i
      unfold b_X1_weighRest_116
      rw [hcs.sites, if_neg (nI_ge hi (by omega)), zald_nI (show i < 4 by omega) (by decide), Option.bind_some, e5 i (by omega), hcs.room (show i < 4 by omega), Option.bind_some, Option.bind_some, Option.bind_some, zmax_sub (by omega) (by omega), nI_add, nI_1]
  refine ⟨zuI (zuI s 30 a (nI (zex α w))) 31 a (nI (zsu α w)), ?_, ?_, zuI_s, fun b hb => ⟨?_, ?_⟩⟩
  · unfold f_X1_weighRest
    rw [f0]
    unfold zbd
    rw [Option.bind_some]
    try simp only
    have e1 : f_X1_weighRest_12 N N (nI a) 0 0 s0 = f_X1_weighRest_12 N (m' + 1) (nI a) (nI (zsu α w)) (nI (α 0 0)) s := e1
    rw [e1]
    show b_X1_weighRest_12 N (f_X1_weighRest_12 N m') (nI a) _ (nI (α 0 0)) s = _
    unfold b_X1_weighRest_12
    rw [hcs.nets, if_pos (zle_self (by omega))]
    exact last
  · rw [zuI_n (by simp), zuI_s]
  · rw [zuI_n (by simp), zuI_n (fun q => hb q.2), (e4 30 b (by decide) (by simp)).1]
  · rw [zuI_n (fun q => hb q.2), zuI_n (by simp), (e4 31 b (by decide) (by simp)).1]
