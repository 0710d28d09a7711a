/-! ===== all picks, one after another ===== -/
def zvl (m : Nat → Bool) (c : Nat) : Bool := (m 0 || zdg c 0 == 0) && (m 1 || zdg c 1 == 0) && (m 2 || zdg c 2 == 0) && (m 3 || zdg c 3 == 0)
def znx (m : Nat → Bool) : Nat → Nat → Option Nat
  | 0, _ => none
  | s + 1, c => if m s = true then (if zdg c s < 4 then some (c + 5 ^ (3 - s)) else znx m s (c - 4 * 5 ^ (3 - s))) else znx m s c
def zsc (m : Nat → Bool) : Nat → Nat → Bool
  | 0, _ => true
  | k + 1, c => !zvl m c && zsc m k (c + 1)
def zm4 (b0 b1 b2 b3 : Bool) (s : Nat) : Bool := if s = 0 then b0 else if s = 1 then b1 else if s = 2 then b2 else if s = 3 then b3 else false
def zck (m : Nat → Bool) (c : Nat) : Bool := !zvl m c || match znx m 4 c with
  | some d => decide (c < d) && decide (d < 625) && zvl m d && zsc m (d - c - 1) (c + 1)
  | none => zsc m (624 - c) (c + 1)
set_option maxRecDepth 100000 in
theorem zck_all : ∀ b0 b1 b2 b3 : Bool, ∀ c, c < 625 → zck (zm4 b0 b1 b2 b3) c = true := by decide +kernel
theorem zsc_use {m : Nat → Bool} : ∀ (k c : Nat), zsc m k c = true → ∀ d, c ≤ d → d < c + k → zvl m d = false
  | 0, c, _, d, h1, h2 => by omega
  | k + 1, c, h, d, h1, h2 => by
    unfold zsc at h
    simp only [Bool.and_eq_true, Bool.not_eq_true'] at h
    by_cases e : d = c
    · rw [e]; exact h.1
    · exact zsc_use k (c + 1) h.2 d (by omega) (by omega)
theorem zm4_eq {m : Nat → Bool} (h : ∀ s, 4 ≤ s → m s = false) : m = zm4 (m 0) (m 1) (m 2) (m 3) := by
  funext s
  unfold zm4
  split
  · rename_i e; rw [e]
  · split
    · rename_i e; rw [e]
    · split
      · rename_i e; rw [e]
      · split
        · rename_i e; rw [e]
        · exact h s (by omega)
theorem znx_some {m : Nat → Bool} (hm : ∀ s, 4 ≤ s → m s = false) {c d : Nat} (hc : c < 625) (hv : zvl m c = true) (h : znx m 4 c = some d) : c < d ∧ d < 625 ∧ zvl m d = true ∧ ∀ e, c < e → e < d → zvl m e = false := by
  have := zck_all (m 0) (m 1) (m 2) (m 3) c hc
  rw [← zm4_eq hm] at this
  unfold zck at this
  rw [hv, h] at this
  simp only [Bool.not_true, Bool.false_or, Bool.and_eq_true, decide_eq_true_eq] at this
  obtain ⟨⟨⟨h1, h2⟩, h3⟩, h4⟩ := this
  exact ⟨h1, h2, h3, fun e q1 q2 => zsc_use _ _ h4 e (by omega) (by omega)⟩
theorem znx_none {m : Nat → Bool} (hm : ∀ s, 4 ≤ s → m s = false) {c : Nat} (hc : c < 625) (hv : zvl m c = true) (h : znx m 4 c = none) : ∀ e, c < e → e < 625 → zvl m e = false := by
  have := zck_all (m 0) (m 1) (m 2) (m 3) c hc
  rw [← zm4_eq hm] at this
  unfold zck at this
  rw [hv, h] at this
  simp only [Bool.not_true, Bool.false_or] at this
  exact fun e q1 q2 => zsc_use _ _ this e (by omega) (by omega)
theorem znx_up {m : Nat → Bool} {j : Nat} (hm : ∀ s, j ≤ s → m s = false) (c : Nat) : ∀ k, znx m (j + k) c = znx m j c
  | 0 => rfl
  | k + 1 => by
    show (if m (j + k) = true then (if zdg c (j + k) < 4 then some (c + 5 ^ (3 - (j + k))) else znx m (j + k) (c - 4 * 5 ^ (3 - (j + k)))) else znx m (j + k) c) = znx m j c
    rw [hm (j + k) (by omega), if_neg (by decide)]
    exact znx_up hm c k
theorem zdg_inc {c s : Nat} (hc : c < 625) (hs : s < 4) (h : zdg c s < 4) {t : Nat} (ht : t < 4) : zdg (c + 5 ^ (3 - s)) t = if t = s then zdg c s + 1 else zdg c t := by
  rcases (show s = 0 ∨ s = 1 ∨ s = 2 ∨ s = 3 by omega) with rfl | rfl | rfl | rfl <;> rcases (show t = 0 ∨ t = 1 ∨ t = 2 ∨ t = 3 by omega) with rfl | rfl | rfl | rfl <;> simp [zdg] at h ⊢ <;> omega
theorem zdg_zro {c s : Nat} (hc : c < 625) (hs : s < 4) (h : ¬ zdg c s < 4) {t : Nat} (ht : t < 4) : zdg (c - 4 * 5 ^ (3 - s)) t = if t = s then 0 else zdg c t := by
  rcases (show s = 0 ∨ s = 1 ∨ s = 2 ∨ s = 3 by omega) with rfl | rfl | rfl | rfl <;> rcases (show t = 0 ∨ t = 1 ∨ t = 2 ∨ t = 3 by omega) with rfl | rfl | rfl | rfl <;> simp [zdg] at h ⊢ <;> omega
def zmy (α : AS) (s : Nat) : Bool := decide (s < α 0 2 ∧ α 6 s = 1)
theorem zmy_out {α : AS} (hW : WF α) {s : Nat} (h : α 0 2 ≤ s) : zmy α s = false := by unfold zmy; simp only [decide_eq_false_iff_not]; omega
def zpk (α : AS) (c s : Nat) : Nat := if zmy α s = true then zdg c s else 4
theorem zpk_le (α : AS) (c s : Nat) : zpk α c s ≤ 4 := by unfold zpk; have := zdg_le c s; split <;> omega
def PP (α : AS) (c : Nat) (σ : ZM) : Prop := ∀ s, s < 4 → σ.1 32 s = nI (zpk α c s)
theorem zm1 (k : Nat) : nI k - (1 : Int32) = nI k + (-1) := by rw [Int32.sub_eq_add_neg]
theorem RC.fr32 {α : AS} {σ σ' : ZM} (h : RC α σ) (hW : zag [(32, none)] σ σ') : RC α σ' := h.fr hW (by decide +kernel) (by decide +kernel) (by decide +kernel) (by decide) (by decide)
theorem zw_pickNext10 {N : Nat} {α : AS} (hW : WF α) : ∀ (j m c : Nat) (σ : ZM), j ≤ α 0 2 → j < m → c < 625 → RC α σ → PP α c σ → ∃ σ', f_X1_pickNext_10 N m (nI j + (-1)) σ = some (zbI ((znx (zmy α) j c).isSome = true), σ') ∧ ∀ d, znx (zmy α) j c = some d → PP α d σ'
  | 0, m, c, σ, hj, hm, hc, hC, hp => by
    obtain ⟨m, rfl⟩ : ∃ k, m = k + 1 := ⟨m - 1, by omega⟩
    refine ⟨σ, ?_, fun d hd => by simp [znx] at hd⟩
    show b_X1_pickNext_10 N (f_X1_pickNext_10 N m) (nI 0 + (-1)) σ = _
    unfold b_X1_pickNext_10
    rw [if_pos (by decide)]
    rfl
  | j + 1, m, c, σ, hj, hm, hc, hC, hp => by
    have hs0 := hW.1.2.2.1
    obtain ⟨m, rfl⟩ : ∃ k, m = k + 1 := ⟨m - 1, by omega⟩
    have hj4 : j < 4 := by omega
    have hu := hW.2.2.2.2.2.1.1 j
    rw [pk_m1]
    have nn : ¬ nI j < 0 := fun q => by rw [Int32.lt_iff_toInt_lt, nI_toInt (by omega)] at q; have : (0 : Int32).toInt = 0 := rfl; omega
    have rcx : ∀ (c' : Nat) (v : Int32), c' < 625 → (∀ t, t < 4 → (zuI σ 32 j v).1 32 t = nI (zpk α c' t)) → ∃ σ', f_X1_pickNext_70 N (f_X1_pickNext_10 N m) (nI j) v (nI j) σ = some (zbI ((znx (zmy α) j c').isSome = true), σ') ∧ ∀ d, znx (zmy α) j c' = some d → PP α d σ' := by
      intro c' v hc' hp'
      obtain ⟨s1, a1, a2⟩ := zw_pickNext10 hW j m c' (zuI σ 32 j v) (by omega) (by omega) hc' (hC.fr32 (zag_all zag_uI)) hp'
      refine ⟨s1, ?_, a2⟩
      unfold f_X1_pickNext_70
      rw [zast_nI hj4 (by decide), Option.bind_some, Option.bind_some]
      exact a1
    by_cases hy : α 6 j = 1
    · have hmy : zmy α j = true := by unfold zmy; simp only [decide_eq_true_eq]; exact ⟨by omega, hy⟩
      have ep : zpk α c j = zdg c j := if_pos hmy
      by_cases hd : zdg c j < 4
      · have ez : znx (zmy α) (j + 1) c = some (c + 5 ^ (3 - j)) := by
          show (if zmy α j = true then _ else _) = _
          rw [if_pos hmy, if_pos hd]
        refine ⟨zuI σ 32 j (nI (zdg c j + 1)), ?_, fun d hd' => ?_⟩
        · show b_X1_pickNext_10 N (f_X1_pickNext_10 N m) (nI j) σ = _
          unfold b_X1_pickNext_10
          rw [if_neg nn, zald_nI hj4 (by decide), Option.bind_some, (hC.ca.2 j hj4).2.2.2, hy, if_neg (by decide), zald_nI hj4 (by decide), Option.bind_some, hp j hj4, ep, if_neg (by rw [show (4 : Int32) = nI 4 from rfl]; exact nI_ge hd (by omega)), Option.bind_some, zast_nI hj4 (by decide), Option.bind_some, nI_1, ez]
          rfl
        · rw [ez] at hd'
          cases hd'
          intro t ht
          have := zdg_inc hc hj4 hd ht
          by_cases e : t = j
          · subst e
            rw [zuI_s]
            unfold zpk
            rw [if_pos hmy, this, if_pos rfl]
          · rw [zuI_n (fun q => e q.2), hp t ht]
            unfold zpk
            rw [this, if_neg e]
      · have ez : znx (zmy α) (j + 1) c = znx (zmy α) j (c - 4 * 5 ^ (3 - j)) := by
          show (if zmy α j = true then _ else _) = _
          rw [if_pos hmy, if_neg hd]
        rw [ez]
        obtain ⟨σ', q1, q2⟩ := rcx (c - 4 * 5 ^ (3 - j)) 0 (by omega) (fun t ht => by
          have := zdg_zro hc hj4 hd ht
          by_cases e : t = j
          · subst e
            rw [zuI_s]
            unfold zpk
            rw [if_pos hmy, this, if_pos rfl]
            rfl
          · rw [zuI_n (fun q => e q.2), hp t ht]
            unfold zpk
            rw [this, if_neg e])
        refine ⟨σ', ?_, q2⟩
        show b_X1_pickNext_10 N (f_X1_pickNext_10 N m) (nI j) σ = _
        have h4 : zdg c j = 4 := by have := zdg_le c j; omega
        unfold b_X1_pickNext_10
        rw [if_neg nn, zald_nI hj4 (by decide), Option.bind_some, (hC.ca.2 j hj4).2.2.2, hy, if_neg (by decide), zald_nI hj4 (by decide), Option.bind_some, hp j hj4, ep, h4, if_pos (by decide)]
        unfold f_X1_pickNext_48
        rw [zald_nI hj4 (by decide), Option.bind_some, (hC.ca.2 j hj4).2.2.2, hy, if_neg (by decide)]
        exact q1
    · have h0 : α 6 j = 0 := by omega
      have hmy : zmy α j = false := by unfold zmy; simp only [decide_eq_false_iff_not]; omega
      have ez : znx (zmy α) (j + 1) c = znx (zmy α) j c := by
        show (if zmy α j = true then _ else _) = _
        rw [if_neg (by rw [hmy]; decide)]
      rw [ez]
      obtain ⟨σ', q1, q2⟩ := rcx c 4 hc (fun t ht => by
        by_cases e : t = j
        · subst e
          rw [zuI_s]
          unfold zpk
          rw [if_neg (by rw [hmy]; decide)]
          rfl
        · rw [zuI_n (fun q => e q.2)]; exact hp t ht)
      refine ⟨σ', ?_, q2⟩
      show b_X1_pickNext_10 N (f_X1_pickNext_10 N m) (nI j) σ = _
      unfold b_X1_pickNext_10
      rw [if_neg nn, zald_nI hj4 (by decide), Option.bind_some, (hC.ca.2 j hj4).2.2.2, h0, if_pos (show nI 0 = 0 from rfl)]
      unfold f_X1_pickNext_48
      rw [zald_nI hj4 (by decide), Option.bind_some, (hC.ca.2 j hj4).2.2.2, h0, if_pos (show nI 0 = 0 from rfl)]
      exact q1
theorem zw_pickNext {N : Nat} (hN : 14 < N) {α : AS} (hW : WF α) {c : Nat} {σ : ZM} (hc : c < 625) (hC : RC α σ) (hp : PP α c σ) : ∃ σ', f_X1_pickNext N σ = some (zbI ((znx (zmy α) 4 c).isSome = true), σ') ∧ zag [(32, none)] σ σ' ∧ ∀ d, znx (zmy α) 4 c = some d → PP α d σ' := by
  have hs0 := hW.1.2.2.1
  obtain ⟨s1, a1, a2⟩ := zw_pickNext10 (N := N) hW (α 0 2) N c σ (Nat.le_refl _) (by omega) hc hC hp
  have e : znx (zmy α) 4 c = znx (zmy α) (α 0 2) c := by
    have := znx_up (m := zmy α) (j := α 0 2) (fun s hs => zmy_out hW hs) c (4 - α 0 2)
    rw [show α 0 2 + (4 - α 0 2) = 4 by omega] at this
    exact this
  have ef : f_X1_pickNext N σ = some (zbI ((znx (zmy α) 4 c).isSome = true), s1) := by
    unfold f_X1_pickNext
    rw [Option.bind_some, hC.sites, zm1, e]
    exact a1
  rw [e]
  rw [e] at ef
  exact ⟨s1, ef, fr_X1_pickNext ef, a2⟩
theorem zw_pickFirst {N : Nat} (hN : 14 < N) {α : AS} {σ : ZM} (hW : WF α) (hC : RC α σ) : ∃ σ', f_X1_pickFirst N σ = some ((), σ') ∧ zag [(32, none)] σ σ' ∧ PP α 0 σ' := by
  have hs0 := hW.1.2.2.1
  have d0 : ∀ s, zdg 0 s = 0 := fun s => by unfold zdg; simp
  obtain ⟨m', s', e1, e2, e3, e4⟩ := zloopS (fun m (q : Int32 × ZM) => f_X1_pickFirst_2 N m q.1 q.2)
    (fun i q => q.1 = nI i ∧ zag [(32, none)] σ q.2 ∧ ∀ s, s < i → q.2.1 32 s = nI (zpk α 0 s)) 4 (by
    rintro m i ⟨x, s⟩ hi ⟨p1, p2, p3⟩
    simp only at p1 p2 p3
    subst p1
    have hcs : RC α s := hC.fr32 p2
    refine ⟨(nI (i + 1), zuI s 32 i (nI (zpk α 0 i))), ?_, rfl, zag_t p2 (zag_all zag_uI), fun t ht => ?_⟩
    · show b_X1_pickFirst_2 N (f_X1_pickFirst_2 N m) (nI i) s = _
      unfold b_X1_pickFirst_2
      rw [if_neg (by rw [show (4 : Int32) = nI 4 from rfl]; exact nI_ge hi (by decide)), zw_hasW N 12 (nI i) s hcs.sites (by omega)]
      unfold zbd
      rw [Option.bind_some]
      try simp only
      have ti : (nI i).toInt = i := nI_toInt (by omega)
      by_cases h1 : i < α 0 2
      · rw [zbI_t (by omega), if_neg (by decide), zald_nI hi (by decide), Option.bind_some, (hcs.ca.2 i hi).2.2.2]
        rcases (show α 6 i = 0 ∨ α 6 i = 1 by have := hW.2.2.2.2.2.1.1 i; omega) with hu | hu
        · have hp : zpk α 0 i = 4 := if_neg (by unfold zmy; simp only [decide_eq_true_eq]; omega)
          rw [hu, if_pos (show nI 0 = 0 from rfl), hp]
          unfold f_X1_pickFirst_39 f_X1_pickFirst_40
          rw [zast_nI hi (by decide), Option.bind_some, Option.bind_some, nI_1]
          rfl
        · have hp : zpk α 0 i = 0 := by
            unfold zpk
            rw [if_pos (by unfold zmy; simp only [decide_eq_true_eq]; exact ⟨h1, hu⟩), d0]
          rw [hu, if_neg (show ¬ nI 1 = 0 by decide), hp]
          unfold f_X1_pickFirst_40
          rw [zast_nI hi (by decide), Option.bind_some, Option.bind_some, nI_1]
          rfl
      · have hp : zpk α 0 i = 4 := if_neg (by unfold zmy; simp only [decide_eq_true_eq]; omega)
        rw [zbI_f (by omega), if_pos rfl, hp]
        unfold f_X1_pickFirst_39 f_X1_pickFirst_40
        rw [zast_nI hi (by decide), Option.bind_some, Option.bind_some, nI_1]
        rfl
    · show (zuI s 32 i (nI (zpk α 0 i))).1 32 t = _
      by_cases e : t = i
      · subst e; rw [zuI_s]
      · rw [zuI_n (fun q => e q.2)]; exact p3 t (by omega)) N 0 (0, σ) (by omega) (by omega) ⟨rfl, zag_r, fun n hn => absurd hn (Nat.not_lt_zero n)⟩
  obtain ⟨x, s⟩ := s'
  simp only at e1 e2 e3 e4
  subst e2
  refine ⟨s, ?_, e3, e4⟩
  unfold f_X1_pickFirst
  have e1 : f_X1_pickFirst_2 N N 0 σ = f_X1_pickFirst_2 N (m' + 1) (nI 4) s := e1
  rw [e1]
  rfl
