/-! ===== a rest of the words as they are now ===== -/
def zkap (a : Nat) (u k h r ρ : Nat → Nat) : AS := fun c i => if c = 0 then (if i < a ∧ u i = 1 then k i else 4) else if c = 1 then h i else if c = 2 then r i else ρ i
theorem zkap0 {a : Nat} {u k h r ρ : Nat → Nat} {i : Nat} : zkap a u k h r ρ 0 i = if i < a ∧ u i = 1 then k i else 4 := rfl
theorem zkap1 {a : Nat} {u k h r ρ : Nat → Nat} {i : Nat} : zkap a u k h r ρ 1 i = h i := rfl
theorem zkap2 {a : Nat} {u k h r ρ : Nat → Nat} {i : Nat} : zkap a u k h r ρ 2 i = r i := rfl
theorem zkap3 {a : Nat} {u k h r ρ : Nat → Nat} {i : Nat} : zkap a u k h r ρ 3 i = ρ i := rfl
/-- κ's that say the same -/
theorem zkap_eq {a a' : Nat} {u u' k k' h r ρ : Nat → Nat} (e : ∀ i, (if i < a ∧ u i = 1 then k i else 4) = (if i < a' ∧ u' i = 1 then k' i else 4)) : zkap a u k h r ρ = zkap a' u' k' h r ρ := by
  funext c i
  unfold zkap
  by_cases hc : c = 0
  · rw [if_pos hc, if_pos hc]; exact e i
  · rw [if_neg hc, if_neg hc]
theorem zp2_lt {α : AS} (hW : WF α) : 2 ^ α 0 0 ≤ 1024 := Nat.pow_le_pow_right (n := 2) (j := 10) (by decide) hW.1.1
theorem KW.mk {α : AS} (hW : WF α) {a : Nat} {u k h r ρ : Nat → Nat} (ha : a ≤ α 0 2) (hk : ∀ s, k s ≤ 4) (hh : ∀ s, h s < 2 ^ α 0 0) (hr : ∀ s, r s ≤ 1) (hρ : ∀ n, ρ n ≤ 3) : KW α (zkap a u k h r ρ) := by
  refine ⟨fun s => ?_, fun s hs => ?_, fun s => Nat.lt_of_lt_of_le (hh s) (zp2_lt hW), hr, hρ⟩
  · rw [zkap0]; split
    · exact hk s
    · exact Nat.le_refl _
  · rw [zkap0] at hs
    split at hs
    · rename_i q
      have := hW.1.2.2.1
      exact ⟨by omega, hW.2.2.2.2.1 s (by omega)⟩
    · exact absurd rfl hs
def CA (w1 a : Nat) (u k h r : Nat → Nat) (σ : ZM) : Prop := σ.1 w1 0 = nI a ∧ ∀ s, s < 4 → σ.1 (w1 + 1) s = nI (k s) ∧ σ.1 (w1 + 2) s = nI (h s) ∧ σ.1 (w1 + 3) s = nI (r s) ∧ σ.1 (w1 + 4) s = nI (u s)
theorem CA.sd {α : AS} {w1 a : Nat} {u k h r ρ : Nat → Nat} {σ : ZM} (c : CA w1 a u k h r σ) (ha : a ≤ 4) (ha2 : a ≤ α 0 2) (hu : ∀ s, u s ≤ 1) (hk : ∀ s, k s ≤ 4) : ZSd α (zkap a u k h r ρ) w1 σ :=
  ⟨a, u, k, ha, ha2, c.1, fun s hs => by rw [zkap0, if_neg (by omega)], fun s hs => ⟨(c.2 s hs).1, (c.2 s hs).2.1, (c.2 s hs).2.2.1, (c.2 s hs).2.2.2, hu s, hk s, rfl⟩⟩
def MA (a : Nat) (u k h r : Nat → Nat) (σ : ZM) : Prop := σ.1 0 14 = nI a ∧ ∀ s, s < 4 → σ.1 12 s = nI (k s) ∧ σ.1 13 s = nI (h s) ∧ σ.1 14 s = nI (r s) ∧ σ.1 15 s = nI (u s)
theorem MA.ms {α : AS} {a : Nat} {u k h r ρ : Nat → Nat} {σ : ZM} (c : MA a u k h r σ) (ha : a ≤ 4) (ha2 : a ≤ α 0 2) (hu : ∀ s, u s ≤ 1) (hk : ∀ s, k s ≤ 4) : MS α (zkap a u k h r ρ) σ :=
  ⟨a, u, k, ha, ha2, c.1, fun s hs => by rw [zkap0, if_neg (by omega)], fun s hs => ⟨(c.2 s hs).1, (c.2 s hs).2.1, (c.2 s hs).2.2.1, (c.2 s hs).2.2.2, hu s, hk s, rfl⟩⟩
def zlr (g : Nat) : Nat := if g % 2 = 1 then 0 else if g / 2 % 2 = 1 then 1 else if g / 4 % 2 = 1 then 2 else 3
theorem zlr_le (g : Nat) : zlr g ≤ 3 := by
  unfold zlr
  split
  · omega
  · split
    · omega
    · split <;> omega
theorem zw_ntz (N g : Nat) (h1 : 1 ≤ g) (hx : g ≤ 15) (σ : ZM) : f_J6_numberOfTrailingZeros_0f7a4 N (nI g) σ = some (nI (zlr g), σ) := by
  rcases (show g = 1 ∨ g = 2 ∨ g = 3 ∨ g = 4 ∨ g = 5 ∨ g = 6 ∨ g = 7 ∨ g = 8 ∨ g = 9 ∨ g = 10 ∨ g = 11 ∨ g = 12 ∨ g = 13 ∨ g = 14 ∨ g = 15 by omega) with rfl | rfl | rfl | rfl | rfl | rfl | rfl | rfl | rfl | rfl | rfl | rfl | rfl | rfl | rfl <;> rfl
theorem zw_least (N g : Nat) (hN : 14 < N) (h1 : 1 ≤ g) (hx : g ≤ 15) (σ : ZM) : f_X9_least N (nI g) σ = some (nI (zlr g), σ) := by
  obtain ⟨k, rfl⟩ : ∃ k, N = k + 5 := ⟨N - 5, by omega⟩
  rcases (show g = 1 ∨ g = 2 ∨ g = 3 ∨ g = 4 ∨ g = 5 ∨ g = 6 ∨ g = 7 ∨ g = 8 ∨ g = 9 ∨ g = 10 ∨ g = 11 ∨ g = 12 ∨ g = 13 ∨ g = 14 ∨ g = 15 by omega) with rfl | rfl | rfl | rfl | rfl | rfl | rfl | rfl | rfl | rfl | rfl | rfl | rfl | rfl | rfl <;> rfl
theorem zw_takeLeast {N : Nat} (hN : 14 < N) {α : AS} {σ : ZM} (hW : WF α) (hC : RC α σ) : ∃ σ', f_X2_takeLeastRules N σ = some ((), σ') ∧ zag [(18, none)] σ σ' ∧ ∀ n, n < α 0 0 → σ'.1 18 n = nI (zlr (α 3 n)) := by
  have hn0 := hW.1.1
  obtain ⟨m', s', e1, e2, e3, e4⟩ := zloopS (fun m (q : Int32 × ZM) => f_X2_takeLeastRules_2 N m q.1 q.2)
    (fun i q => q.1 = nI i ∧ zag [(18, none)] σ q.2 ∧ ∀ n, n < i → q.2.1 18 n = nI (zlr (α 3 n))) (α 0 0) (by
    rintro m i ⟨x, s⟩ hi ⟨p1, p2, p3⟩
    simp only at p1 p2 p3
    subst p1
    have hcs : RC α s := hC.fr p2 (by decide +kernel) (by decide +kernel) (by decide +kernel) (by decide) (by decide)
    have hg := hW.2.2.1 i hi
    refine ⟨(nI (i + 1), zuI s 18 i (nI (zlr (α 3 i)))), ?_, rfl, zag_t p2 (zag_all zag_uI), fun n hn => ?_⟩
    · show b_X2_takeLeastRules_2 N (f_X2_takeLeastRules_2 N m) (nI i) s = _
      unfold b_X2_takeLeastRules_2 f_X3_leastRule
      rw [hcs.nets, if_neg (nI_ge hi (by omega)), hcs.gues (show i < 10 by omega), Option.bind_some, zw_ntz N _ hg.1 hg.2]
      unfold zbd
      rw [Option.bind_some, Option.bind_some]
      simp only
      rw [zast_nI (show i < 10 by omega) (by decide), Option.bind_some, Option.bind_some, nI_1]
    · show (zuI s 18 i (nI (zlr (α 3 i)))).1 18 n = _
      by_cases e : n = i
      · subst e; rw [zuI_s]
      · rw [zuI_n (fun q => e q.2)]; exact p3 n (by omega)) N 0 (0, σ) (by omega) (by omega) ⟨rfl, zag_r, fun n hn => absurd hn (Nat.not_lt_zero n)⟩
  obtain ⟨x, s⟩ := s'
  simp only at e1 e2 e3 e4
  subst e2
  have hcs : RC α s := hC.fr e3 (by decide +kernel) (by decide +kernel) (by decide +kernel) (by decide) (by decide)
  refine ⟨s, ?_, e3, e4⟩
  unfold f_X2_takeLeastRules
  have e1 : f_X2_takeLeastRules_2 N N 0 σ = f_X2_takeLeastRules_2 N (m' + 1) (nI (α 0 0)) s := e1
  rw [e1]
  show b_X2_takeLeastRules_2 N (f_X2_takeLeastRules_2 N m') (nI (α 0 0)) s = _
  unfold b_X2_takeLeastRules_2
  rw [hcs.nets, if_pos (zle_self (by omega))]
theorem zw_fillJ {N : Nat} (hN : 14 < N) (σ : ZM) : ∃ σ', f_J7_fill_d0a16 N 19 10 0 σ = some ((), σ') ∧ zag [(19, none)] σ σ' ∧ ∀ n, n < 10 → σ'.2 19 n = 0 := by
  obtain ⟨m', s', e1, e2, e3, e4⟩ := zloopS (fun m (q : Int32 × ZM) => f_J7_fill_d0a16_6 N 19 10 m 0 q.1 (nI 10) q.2)
    (fun i q => q.1 = nI i ∧ zag [(19, none)] σ q.2 ∧ ∀ n, n < i → q.2.2 19 n = 0) 10 (by
    rintro m i ⟨x, s⟩ hi ⟨p1, p2, p3⟩
    simp only at p1 p2 p3
    subst p1
    refine ⟨(nI (i + 1), zuJ s 19 i 0), ?_, rfl, zag_t p2 (zag_all zag_uJ), fun n hn => ?_⟩
    · show b_J7_fill_d0a16_6 N 19 10 (f_J7_fill_d0a16_6 N 19 10 m) 0 (nI i) (nI 10) s = _
      unfold b_J7_fill_d0a16_6
      rw [if_neg (nI_ge hi (by decide)), zasJ_nI hi (by decide), Option.bind_some, Option.bind_some, nI_1]
    · show (zuJ s 19 i 0).2 19 n = _
      by_cases e : n = i
      · subst e; simp only [zuJ, if_true]; exact pk_uLs
      · simp only [zuJ, if_true]; rw [pk_uLn e]; exact p3 n (by omega)) N 0 (0, σ) (by omega) (by omega) ⟨rfl, zag_r, fun n hn => absurd hn (Nat.not_lt_zero n)⟩
  obtain ⟨x, s⟩ := s'
  simp only at e1 e2 e3 e4
  subst e2
  refine ⟨s, ?_, e3, e4⟩
  unfold f_J7_fill_d0a16
  rw [Option.bind_some]
  have e1 : f_J7_fill_d0a16_6 N 19 10 N 0 0 (nI 10) σ = f_J7_fill_d0a16_6 N 19 10 (m' + 1) 0 (nI 10) (nI 10) s := e1
  show f_J7_fill_d0a16_6 N 19 10 N 0 0 (nI 10) σ = _
  rw [e1]
  show b_J7_fill_d0a16_6 N 19 10 (f_J7_fill_d0a16_6 N 19 10 m') 0 (nI 10) (nI 10) s = _
  unfold b_J7_fill_d0a16_6
  rw [if_pos (zle_self (by decide))]
theorem zeveryN {n : Nat} (h : n ≤ 10) : ((1 : Int32) <<< (nI n &&& 31)) - (1 : Int32) = nI (2 ^ n - 1) := by
  have : ∀ n, n < 11 → ((1 : Int32) <<< (nI n &&& 31)) - (1 : Int32) = nI (2 ^ n - 1) := by decide +kernel
  exact this n (by omega)
def zro (o : Option Nat) : Int32 := match o with
  | some k => nI k
  | none => -9
abbrev zWS : List (Nat × Option Nat) := [(17, some 5), (19, none), (20, none), (21, none), (22, none)]
abbrev zWQ : List (Nat × Option Nat) := [(17, some 5), (18, none), (19, none), (20, none), (21, none), (22, none)]
theorem zw_settleC {N : Nat} (hN : 50 < N) {α κ : AS} {w1 : Nat} {σ : ZM} (hw : zwc w1) (hW : WF α) (hK : KW α κ) (hC : RC α σ) (hS : ZSd α κ w1 σ) (hR : ∀ n, n < α 0 0 → σ.1 18 n = nI (κ 3 n)) : ∃ σ', f_X2_settle N w1 σ = some (zro (zrest α κ), σ') ∧ zag zWS σ σ' ∧ RC α σ' ∧ ∀ k, zrest α κ = some k → CC α κ w1 (zit α κ k) σ' := by
  have hn0 := hW.1.1
  obtain ⟨s1, a1, a2, a3⟩ := zw_fillJ (N := N) (by omega) σ
  have c1 : CC α κ w1 (zit α κ 0) s1 := by
    refine ⟨hC.fr a2 (by decide +kernel) (by decide +kernel) (by decide +kernel) (by decide) (by decide), hS.fr a2 ?_, fun n hn => ?_, fun n hn => a3 n hn⟩
    · intro d hd
      unfold zwc at hw
      exact ⟨by simp; omega, fun i _ => by simp⟩
    · rw [(a2 18 n (by decide) (by simp)).1]; exact hR n hn
  obtain ⟨σ', r1, r2⟩ := zw_settle18 (N := N) (by omega) hw hW hK 41 0 N (2 ^ α 0 0 - 1) s1 (by omega) (by omega) c1 (by have := zp2_lt hW; have := Nat.two_pow_pos (α 0 0); omega) (fun t ht hb => by
    rw [Nat.testBit_two_pow_sub_one] at hb
    simp only [decide_eq_false_iff_not] at hb
    exact absurd ht hb)
  have ef : f_X2_settle N w1 σ = some (zro (zrest α κ), σ') := by
    unfold f_X2_settle
    rw [a1]
    unfold zbd f_X3_everyone
    rw [Option.bind_some]
    simp only
    rw [Option.bind_some, c1.1.nets]
    simp only
    rw [zeveryN hn0]
    exact r1
  refine ⟨σ', ef, fr_X2_settle ef, ?_, r2⟩
  exact hC.fr (fr_X2_settle ef) (by decide +kernel) (by decide +kernel) (by decide +kernel) (by decide) (by decide)
/-- what is said now, by rules ρ -/
def zkn (α : AS) (ρ : Nat → Nat) : AS := zkap (α 0 2) (α 6) (α 7) (α 8) (α 9) ρ
def zr0 (α : AS) : Nat → Nat := fun n => zlr (α 3 n)
theorem zkn_KW {α : AS} (hW : WF α) {ρ : Nat → Nat} (hρ : ∀ n, ρ n ≤ 3) : KW α (zkn α ρ) := KW.mk hW (Nat.le_refl _) hW.2.2.2.2.2.1.2.1 hW.2.2.2.2.2.1.2.2.1 hW.2.2.2.2.2.1.2.2.2.1 hρ
theorem RC.ca {α : AS} {σ : ZM} (h : RC α σ) : CA 12 (α 0 2) (α 6) (α 7) (α 8) (α 9) σ := by
  refine ⟨h.sites, fun s hs => ⟨?_, ?_, ?_, ?_⟩⟩
  · have := h.at 13 0 7 0 4 (by decide) hs; rw [Nat.zero_add] at this; exact this
  · have := h.at 14 0 8 0 4 (by decide) hs; rw [Nat.zero_add] at this; exact this
  · have := h.at 15 0 9 0 4 (by decide) hs; rw [Nat.zero_add] at this; exact this
  · exact h.ups hs
theorem zw_settleNowC {N : Nat} (hN : 50 < N) {α : AS} {σ : ZM} (hW : WF α) (hC : RC α σ) : ∃ σ', f_X8_settleNow N σ = some (zro (zrest α (zkn α (zr0 α))), σ') ∧ zag zWQ σ σ' ∧ RC α σ' ∧ ∀ k, zrest α (zkn α (zr0 α)) = some k → CC α (zkn α (zr0 α)) 12 (zit α (zkn α (zr0 α)) k) σ' := by
  obtain ⟨s1, a1, a2, a3⟩ := zw_takeLeast (N := N) (by omega) hW hC
  have c1 : RC α s1 := hC.fr a2 (by decide +kernel) (by decide +kernel) (by decide +kernel) (by decide) (by decide)
  obtain ⟨s2, b1, b2, b3, b4⟩ := zw_settleC hN (Or.inl rfl) hW (zkn_KW hW (fun n => zlr_le _)) c1 (c1.ca.sd hW.1.2.2.1 (Nat.le_refl _) hW.2.2.2.2.2.1.1 hW.2.2.2.2.2.1.2.1) a3
  refine ⟨s2, ?_, zag_t (s1 := s1) (zag_w (by simp) a2) (zag_w (by simp) b2), b3, b4⟩
  unfold f_X8_settleNow
  rw [a1]
  unfold zbd
  rw [Option.bind_some]
  simp only
  rw [b1]
  rfl
theorem zn1 {v : Nat} (h : v ≤ 1) : nI v = 0 ∨ nI v = 1 := by
  rcases (show v = 0 ∨ v = 1 by omega) with rfl | rfl
  · exact Or.inl rfl
  · exact Or.inr rfl
abbrev zWA : List (Nat × Option Nat) := [(0, some 14), (12, none), (13, none), (14, none), (15, none), (16, none)]
theorem RM.frA {α : AS} {σ σ' : ZM} (h : RM α σ) (hW : zag zWA σ σ') : RM α σ' := h.fr hW (by decide +kernel) ⟨⟨by decide, fun i => by simp⟩, ⟨by decide, fun i => by simp⟩⟩
theorem RM.frM {α : AS} {σ σ' : ZM} (h : RM α σ) (hW : zag zWM σ σ') : RM α σ' := h.fr hW (by decide +kernel) ⟨⟨by decide, fun i => by simp⟩, ⟨by decide, fun i => by simp⟩⟩
theorem RM.row {α : AS} {σ : ZM} (h : RM α σ) {i : Nat} (hi : i < 4) : σ.1 7 i = nI (α 7 i) ∧ σ.1 8 i = nI (α 8 i) ∧ σ.1 9 i = nI (α 9 i) ∧ σ.1 6 i = nI (α 6 i) := by
  have h1 := h.at 7 0 7 0 4 (by decide) hi
  have h2 := h.at 8 0 8 0 4 (by decide) hi
  have h3 := h.at 9 0 9 0 4 (by decide) hi
  have h4 := h.at 6 0 6 0 4 (by decide) hi
  rw [Nat.zero_add] at h1 h2 h3 h4
  exact ⟨h1, h2, h3, h4⟩
theorem zw_askNow {N : Nat} (hN : 14 < N) {α : AS} {σ : ZM} (hW : WF α) (hM : RM α σ) : ∃ σ', f_X9_askNow N σ = some ((), σ') ∧ zag zWA σ σ' ∧ RM α σ' ∧ MA (α 0 2) (α 6) (α 7) (α 8) (α 9) σ' ∧ ∀ n, n < α 0 0 → σ'.1 16 n = nI (zlr (α 3 n)) := by
  have hn0 := hW.1.1
  have hu := hW.2.2.2.2.2.1.1
  have hr := hW.2.2.2.2.2.1.2.2.2.1
  have h0 : zag zWA σ (zuI σ 0 14 (nI (α 0 2))) := zag_w (W1 := [(0, some 14)]) (by simp) zag_uI
  obtain ⟨m', s', e1, e2, e3, e4, e5⟩ := zloopS (fun m (q : Int32 × ZM) => f_X9_askNow_10 N m q.1 q.2)
    (fun i q => q.1 = nI i ∧ zag zWA σ q.2 ∧ q.2.1 0 14 = nI (α 0 2) ∧ ∀ s, s < i → q.2.1 12 s = nI (α 7 s) ∧ q.2.1 13 s = nI (α 8 s) ∧ q.2.1 14 s = nI (α 9 s) ∧ q.2.1 15 s = nI (α 6 s)) 4 (by
    rintro m i ⟨x, s⟩ hi ⟨p1, p2, p3, p4⟩
    simp only at p1 p2 p3 p4
    subst p1
    obtain ⟨r1, r2, r3, r4⟩ := (hM.frA p2).row hi
    refine ⟨(nI (i + 1), zuI (zuI (zuI (zuI s 12 i (nI (α 7 i))) 13 i (nI (α 8 i))) 14 i (nI (α 9 i))) 15 i (nI (α 6 i))), ?_, rfl, ?_, ?_, fun t ht => ?_⟩
    · show b_X9_askNow_10 N (f_X9_askNow_10 N m) (nI i) s = _
      unfold b_X9_askNow_10
      rw [if_neg (by rw [show (4 : Int32) = nI 4 from rfl]; exact nI_ge hi (by decide)), zald_nI hi (by decide), Option.bind_some, zast_nI hi (by decide), Option.bind_some, zald_nI hi (by decide), Option.bind_some, zast_nI hi (by decide), Option.bind_some, zald_nI hi (by decide), Option.bind_some]
      rw [show (zuI (zuI s 12 i (s.1 7 i)) 13 i ((zuI s 12 i (s.1 7 i)).1 8 i)).1 9 i = nI (α 9 i) by simp [zuI_at, r3]]
      rw [zasZ_nI hi (by decide) (zn1 (hr i)), Option.bind_some, zald_nI hi (by decide), Option.bind_some]
      rw [show (zuI (zuI (zuI s 12 i (s.1 7 i)) 13 i ((zuI s 12 i (s.1 7 i)).1 8 i)) 14 i (nI (α 9 i))).1 6 i = nI (α 6 i) by simp [zuI_at, r4]]
      rw [zasZ_nI hi (by decide) (zn1 (hu i)), Option.bind_some, Option.bind_some, nI_1, r1, show (zuI s 12 i (nI (α 7 i))).1 8 i = nI (α 8 i) by simp [zuI_at, r2]]
    · refine zag_t p2 (zag_t (zag_t (zag_t (zag_w (W1 := [(12, none)]) (by simp) (zag_all zag_uI)) (zag_w (W1 := [(13, none)]) (by simp) (zag_all zag_uI))) (zag_w (W1 := [(14, none)]) (by simp) (zag_all zag_uI))) (zag_w (W1 := [(15, none)]) (by simp) (zag_all zag_uI)))
    · simp [zuI_at, p3]
    · by_cases e : t = i
      · subst e; simp [zuI_at]
      · have := p4 t (by omega)
        simp [zuI_at, e, this]) N 0 (0, zuI σ 0 14 (nI (α 0 2))) (by omega) (by omega) ⟨rfl, h0, zuI_s, fun t ht => absurd ht (Nat.not_lt_zero t)⟩
  obtain ⟨x, s⟩ := s'
  simp only at e1 e2 e3 e4 e5
  subst e2
  obtain ⟨m2, s2, d1, d2, d3, d4, d5, d6⟩ := zloopS (fun m (q : Int32 × ZM) => f_X9_askNow_71 N m q.1 q.2)
    (fun i q => q.1 = nI i ∧ zag zWA σ q.2 ∧ q.2.1 0 14 = nI (α 0 2) ∧ (∀ s, s < 4 → q.2.1 12 s = nI (α 7 s) ∧ q.2.1 13 s = nI (α 8 s) ∧ q.2.1 14 s = nI (α 9 s) ∧ q.2.1 15 s = nI (α 6 s)) ∧ ∀ n, n < i → q.2.1 16 n = nI (zlr (α 3 n))) (α 0 0) (by
    rintro m i ⟨x, s⟩ hi ⟨p1, p2, p3, p4, p5⟩
    simp only at p1 p2 p3 p4 p5
    subst p1
    have hms := hM.frA p2
    have hg := hW.2.2.1 i hi
    refine ⟨(nI (i + 1), zuI s 16 i (nI (zlr (α 3 i)))), ?_, rfl, zag_t p2 (zag_w (W1 := [(16, none)]) (by simp) (zag_all zag_uI)), ?_, fun t ht => ?_, fun n hn => ?_⟩
    · show b_X9_askNow_71 N (f_X9_askNow_71 N m) (nI i) s = _
      unfold b_X9_askNow_71
      rw [hms.nets, if_neg (nI_ge hi (by omega)), hms.gues (show i < 10 by omega), Option.bind_some, zw_least N _ hN hg.1 hg.2]
      unfold zbd
      rw [Option.bind_some]
      simp only
      rw [zast_nI (show i < 10 by omega) (by decide), Option.bind_some, Option.bind_some, nI_1]
    · simp [zuI_at, p3]
    · have := p4 t ht
      simp [zuI_at, this]
    · show (zuI s 16 i (nI (zlr (α 3 i)))).1 16 n = _
      by_cases e : n = i
      · subst e; rw [zuI_s]
      · rw [zuI_n (fun q => e q.2)]; exact p5 n (by omega)) N 0 (0, s) (by omega) (by omega) ⟨rfl, e3, e4, e5, fun n hn => absurd hn (Nat.not_lt_zero n)⟩
  obtain ⟨x2, s3⟩ := s2
  simp only at d1 d2 d3 d4 d5 d6
  subst d2
  refine ⟨s3, ?_, d3, hM.frA d3, ⟨d4, d5⟩, d6⟩
  unfold f_X9_askNow zpI
  rw [Option.bind_some, hM.sites]
  have e1 : f_X9_askNow_10 N N 0 (zuI σ 0 14 (nI (α 0 2))) = f_X9_askNow_10 N (m' + 1) (nI 4) s := e1
  rw [e1]
  show b_X9_askNow_10 N (f_X9_askNow_10 N m') (nI 4) s = _
  unfold b_X9_askNow_10
  rw [if_pos (show (4 : Int32) ≤ nI 4 by decide)]
  have d1 : f_X9_askNow_71 N N 0 s = f_X9_askNow_71 N (m2 + 1) (nI (α 0 0)) s3 := d1
  rw [d1]
  show b_X9_askNow_71 N (f_X9_askNow_71 N m2) (nI (α 0 0)) s3 = _
  unfold b_X9_askNow_71
  rw [(hM.frA d3).nets, if_pos (zle_self (by omega))]
theorem zw_settleNowM {N : Nat} (hN : 50 < N) {α : AS} {σ : ZM} (hW : WF α) (hM : RM α σ) : ∃ σ', f_X9_settleNow N σ = some (zbI ((zrest α (zkn α (zr0 α))).isSome = true), σ') ∧ RM α σ' ∧ MA (α 0 2) (α 6) (α 7) (α 8) (α 9) σ' ∧ (∀ n, n < α 0 0 → σ'.1 16 n = nI (zlr (α 3 n))) ∧ ∀ k, zrest α (zkn α (zr0 α)) = some k → MC α (zkn α (zr0 α)) (zit α (zkn α (zr0 α)) k) σ' ∧ σ'.1 0 30 = nI k := by
  obtain ⟨s1, a1, a2, a3, a4, a5⟩ := zw_askNow (N := N) (by omega) hW hM
  have hms : MS α (zkn α (zr0 α)) s1 := a4.ms hW.1.2.2.1 (Nat.le_refl _) hW.2.2.2.2.2.1.1 hW.2.2.2.2.2.1.2.1
  obtain ⟨s2, b1, b2, b3⟩ := zw_settleM hN hW (zkn_KW hW (fun n => zlr_le _)) (⟨a3, hms, a5⟩ : MB α (zkn α (zr0 α)) s1)
  refine ⟨s2, ?_, a3.frM b2, ⟨?_, fun s hs => ?_⟩, fun n hn => ?_, b3⟩
  · unfold f_X9_settleNow
    rw [a1]
    unfold zbd
    rw [Option.bind_some]
    simp only
    rw [b1, Option.bind_some]
    exact zrz_b _
  · rw [(b2 0 14 (by decide) (by decide)).1]; exact a4.1
  · obtain ⟨q1, q2, q3, q4⟩ := a4.2 s hs
    rw [(b2 12 s (by decide) (by simp)).1, (b2 13 s (by decide) (by simp)).1, (b2 14 s (by decide) (by simp)).1, (b2 15 s (by decide) (by simp)).1]
    exact ⟨q1, q2, q3, q4⟩
  · rw [(b2 16 n (by decide) (by simp)).1]; exact a5 n hn
