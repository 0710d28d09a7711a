/-! ===== the best of all picks: what it is, and how the class finds it ===== -/
def zMf (α : AS) (c f : Nat) : Option (Nat × Nat) := zEv α (zplc (fun t => if t = f then 4 else zpk α c t))
def zmx2 (a b : Nat) : Nat := if a < b then b else a
def zcm (o p : Option (Nat × Nat)) : Option (Nat × Nat) := match o with
  | none => none
  | some g => match p with
    | none => none
    | some x => some (zmx2 g.1 x.1, zmx2 g.2 x.2)
def zAs (α : AS) (c : Nat) : Nat → Option (Nat × Nat)
  | 0 => zMf α c 4
  | s + 1 => if α 6 s = 1 then zcm (zAs α c s) (zMf α c s) else zAs α c s
def zPw (x : Int32) (α : AS) (c : Nat) : Option (Nat × Nat) := if x = 0 then zMf α c 4 else zAs α c (α 0 2)
def zup (b : Option (Nat × Nat × Nat)) (c : Nat) (o : Option (Nat × Nat)) : Option (Nat × Nat × Nat) := match o with
  | none => b
  | some y => match b with
    | none => some (c, y)
    | some d => if y.1 < d.2.1 ∨ (y.1 = d.2.1 ∧ y.2 < d.2.2) then some (c, y) else some d
def zBs (x : Int32) (α : AS) : Nat → Option (Nat × Nat × Nat)
  | 0 => none
  | c + 1 => if zvl (zmy α) c = true then zup (zBs x α c) c (zPw x α c) else zBs x α c
theorem zMf_le {α : AS} (hW : WF α) {c f : Nat} {x : Nat × Nat} (h : zMf α c f = some x) : x.1 ≤ 400000 ∧ x.2 ≤ 100000000 := zEv_le hW h
theorem zcm_some {o p : Option (Nat × Nat)} {x : Nat × Nat} (h : zcm o p = some x) : ∃ g y, o = some g ∧ p = some y ∧ x = (zmx2 g.1 y.1, zmx2 g.2 y.2) := by
  cases o with
  | none => exact absurd h (by simp [zcm])
  | some g =>
    cases p with
    | none => exact absurd h (by simp [zcm])
    | some y => exact ⟨g, y, rfl, rfl, by simp [zcm] at h; exact h.symm⟩
theorem zmx2_le {a b m : Nat} (ha : a ≤ m) (hb : b ≤ m) : zmx2 a b ≤ m := by unfold zmx2; split <;> omega
theorem zAs_le {α : AS} (hW : WF α) {c : Nat} : ∀ (i : Nat) {x : Nat × Nat}, zAs α c i = some x → x.1 ≤ 400000 ∧ x.2 ≤ 100000000
  | 0, x, h => zMf_le hW h
  | i + 1, x, h => by
    unfold zAs at h
    split at h
    · obtain ⟨g, y, h1, h2, h3⟩ := zcm_some h
      have q1 := zAs_le hW i h1
      have q2 := zMf_le hW h2
      rw [h3]
      exact ⟨zmx2_le q1.1 q2.1, zmx2_le q1.2 q2.2⟩
    · exact zAs_le hW i h
theorem zPw_le {α : AS} (hW : WF α) {c : Nat} {x : Int32} {y : Nat × Nat} (h : zPw x α c = some y) : y.1 ≤ 400000 ∧ y.2 ≤ 100000000 := by
  unfold zPw at h
  split at h
  · exact zMf_le hW h
  · exact zAs_le hW _ h
theorem zBs_le {α : AS} (hW : WF α) {x : Int32} : ∀ (c : Nat) {b : Nat × Nat × Nat}, zBs x α c = some b → b.2.1 ≤ 400000 ∧ b.2.2 ≤ 100000000
  | 0, b, h => absurd h (by simp [zBs])
  | c + 1, b, h => by
    unfold zBs at h
    split at h
    · cases hp : zPw x α c with
      | none => rw [hp] at h; exact zBs_le hW c h
      | some y =>
        rw [hp] at h
        have hy := zPw_le hW hp
        cases hb : zBs x α c with
        | none =>
          rw [hb] at h
          simp only [zup, Option.some.injEq] at h
          rw [← h]; exact hy
        | some d =>
          rw [hb] at h
          unfold zup at h
          simp only at h
          split at h
          · simp only [Option.some.injEq] at h
            rw [← h]; exact hy
          · simp only [Option.some.injEq] at h
            rw [← h]; exact zBs_le hW c hb
    · exact zBs_le hW c h
theorem zAs_ge {α : AS} {c : Nat} : ∀ (i : Nat) {x : Nat × Nat}, zAs α c i = some x → ∃ b, zMf α c 4 = some b ∧ b.1 ≤ x.1 ∧ b.2 ≤ x.2
  | 0, x, h => ⟨x, h, Nat.le_refl _, Nat.le_refl _⟩
  | i + 1, x, h => by
    unfold zAs at h
    split at h
    · obtain ⟨g, y, h1, h2, h3⟩ := zcm_some h
      obtain ⟨b, q1, q2, q3⟩ := zAs_ge i h1
      refine ⟨b, q1, ?_, ?_⟩
      · rw [h3]; show b.1 ≤ zmx2 g.1 y.1; unfold zmx2; split <;> omega
      · rw [h3]; show b.2 ≤ zmx2 g.2 y.2; unfold zmx2; split <;> omega
    · exact zAs_ge i h
theorem zMf_out {α : AS} {c s : Nat} (h : α 6 s ≠ 1) : zMf α c s = zMf α c 4 := by
  unfold zMf
  congr 1
  refine zplc_congr (fun t ht => ?_)
  rw [if_neg (show t ≠ 4 by omega)]
  by_cases e : t = s
  · subst e
    rw [if_pos rfl]
    unfold zpk
    rw [if_neg (by unfold zmy; simp only [decide_eq_true_eq]; omega)]
  · rw [if_neg e]
theorem zAs_succ {α : AS} {c i : Nat} : zAs α c (i + 1) = zcm (zAs α c i) (zMf α c i) := by
  show (if α 6 i = 1 then zcm (zAs α c i) (zMf α c i) else zAs α c i) = _
  by_cases h : α 6 i = 1
  · rw [if_pos h]
  · rw [if_neg h, zMf_out h]
    cases hA : zAs α c i with
    | none => rfl
    | some g =>
      obtain ⟨b, q1, q2, q3⟩ := zAs_ge i hA
      rw [q1]
      show some g = some (zmx2 g.1 b.1, zmx2 g.2 b.2)
      unfold zmx2
      rw [if_neg (by omega), if_neg (by omega)]
theorem zAs_none {α : AS} {c i : Nat} (h : zAs α c i = none) : ∀ k, zAs α c (i + k) = none
  | 0 => h
  | k + 1 => by
    show zAs α c (i + k + 1) = none
    rw [zAs_succ, zAs_none h k]
    rfl
theorem zBs_skip {x : Int32} {α : AS} {c : Nat} : ∀ k, (∀ e, c ≤ e → e < c + k → zvl (zmy α) e = false) → zBs x α (c + k) = zBs x α c
  | 0, _ => rfl
  | k + 1, h => by
    show (if zvl (zmy α) (c + k) = true then zup (zBs x α (c + k)) (c + k) (zPw x α (c + k)) else zBs x α (c + k)) = zBs x α c
    rw [h (c + k) (by omega) (by omega), if_neg (by decide)]
    exact zBs_skip k (fun e h1 h2 => h e h1 (by omega))
/-! all are measured -/
theorem zvl_iff {m : Nat → Bool} {c : Nat} : zvl m c = true ↔ ∀ s, s < 4 → m s = false → zdg c s = 0 := by
  unfold zvl
  simp only [Bool.and_eq_true, Bool.or_eq_true, beq_iff_eq]
  constructor
  · rintro ⟨⟨⟨h0, h1⟩, h2⟩, h3⟩ s hs hm
    rcases (show s = 0 ∨ s = 1 ∨ s = 2 ∨ s = 3 by omega) with rfl | rfl | rfl | rfl
    · exact h0.resolve_left (by rw [hm]; decide)
    · exact h1.resolve_left (by rw [hm]; decide)
    · exact h2.resolve_left (by rw [hm]; decide)
    · exact h3.resolve_left (by rw [hm]; decide)
  · intro h
    have g : ∀ s, s < 4 → m s = true ∨ zdg c s = 0 := fun s hs => by
      cases hm : m s with
      | true => exact Or.inl rfl
      | false => exact Or.inr (h s hs hm)
    exact ⟨⟨⟨g 0 (by decide), g 1 (by decide)⟩, g 2 (by decide)⟩, g 3 (by decide)⟩
theorem zvl0 (m : Nat → Bool) : zvl m 0 = true := zvl_iff.mpr (fun s _ _ => by unfold zdg; simp)
theorem zdg_set {c f : Nat} (hc : c < 625) (hf : f < 4) {t : Nat} (ht : t < 4) : zdg (c + (4 - zdg c f) * 5 ^ (3 - f)) t = if t = f then 4 else zdg c t := by
  rcases (show f = 0 ∨ f = 1 ∨ f = 2 ∨ f = 3 by omega) with rfl | rfl | rfl | rfl <;> rcases (show t = 0 ∨ t = 1 ∨ t = 2 ∨ t = 3 by omega) with rfl | rfl | rfl | rfl <;> simp [zdg] <;> omega
theorem zdg_set_lt {c f : Nat} (hc : c < 625) (hf : f < 4) : c + (4 - zdg c f) * 5 ^ (3 - f) < 625 := by
  rcases (show f = 0 ∨ f = 1 ∨ f = 2 ∨ f = 3 by omega) with rfl | rfl | rfl | rfl <;> simp [zdg] <;> omega
def AM (α : AS) (σ : ZM) : Prop := zFr α σ ∧ ∀ c, c < 625 → zvl (zmy α) c = true → ZRt α (zplc (zpk α c)) σ
theorem AM.fallen {α : AS} {σ : ZM} (h : AM α σ) {c f : Nat} (hc : c < 625) (hv : zvl (zmy α) c = true) : ZRt α (zplc (fun t => if t = f then 4 else zpk α c t)) σ := by
  by_cases hf : f < 4 ∧ zmy α f = true
  · have e : zplc (fun t => if t = f then 4 else zpk α c t) = zplc (zpk α (c + (4 - zdg c f) * 5 ^ (3 - f))) := by
      refine zplc_congr (fun t ht => ?_)
      have := zdg_set hc hf.1 ht
      unfold zpk
      rw [this]
      by_cases e : t = f
      · subst e; rw [if_pos rfl, if_pos hf.2, if_pos rfl]
      · rw [if_neg e, if_neg e]
    rw [e]
    refine h.2 _ (zdg_set_lt hc hf.1) (zvl_iff.mpr (fun s hs hm => ?_))
    rw [zdg_set hc hf.1 hs, if_neg (fun e => by rw [e, hf.2] at hm; exact absurd hm (by decide))]
    exact zvl_iff.mp hv s hs hm
  · have e : zplc (fun t => if t = f then 4 else zpk α c t) = zplc (zpk α c) := by
      refine zplc_congr (fun t ht => ?_)
      by_cases e : t = f
      · subst e
        rw [if_pos rfl]
        unfold zpk
        rw [if_neg (fun q => hf ⟨ht, q⟩)]
      · rw [if_neg e]
    rw [e]; exact h.2 c hc hv
theorem AM.mv {α : AS} {σ σ' : ZM} (h : AM α σ) (e0 : σ'.1 23 14 = σ.1 23 14) (e1 : ∀ a, σ'.1 30 a = σ.1 30 a) (e2 : ∀ a, σ'.1 31 a = σ.1 31 a) : AM α σ' := by
  refine ⟨⟨by rw [e0]; exact h.1.1, fun a ha => ?_⟩, fun c hc hv => (h.2 c hc hv).mv ⟨e1 _, e2 _⟩⟩
  rcases h.1.2 a ha with q | q
  · exact Or.inl (by rw [e1]; exact q)
  · exact Or.inr (q.mv ⟨e1 _, e2 _⟩)
theorem PP.pk {α : AS} {c : Nat} {σ : ZM} (h : PP α c σ) : PK (zplc (zpk α c)) σ := PK.of (zpk_le α c) h
theorem PP.mv {α : AS} {c : Nat} {σ σ' : ZM} (h : PP α c σ) (e : ∀ s, σ'.1 32 s = σ.1 32 s) : PP α c σ' := fun s hs => by rw [e s]; exact h s hs
theorem zw_measureAll8 {N : Nat} (hN : 700 < N) {α : AS} (hW : WF α) : ∀ (k m c i : Nat) (σ : ZM), 625 - c ≤ k → k < m → c < 625 → i ≤ c → zvl (zmy α) c = true → RC α σ → ChOK α σ → PP α c σ → (∀ d, d < c → zvl (zmy α) d = true → σ.1 23 14 = 0 ∧ ZRt α (zplc (zpk α d)) σ) → ∃ σ', f_X1_measureAll_8 N m 1 (nI i) σ = some ((), σ') ∧ RC α σ' ∧ AM α σ'
  | 0, m, c, i, σ, h1, h2, hc, hi, hv, hC, hF, hp, hd => by omega
  | k + 1, m, c, i, σ, h1, h2, hc, hi, hv, hC, hF, hp, hd => by
    have hmy : ∀ s, 4 ≤ s → zmy α s = false := fun s hs => zmy_out hW (by have := hW.1.2.2.1; omega)
    obtain ⟨m, rfl⟩ : ∃ j, m = j + 1 := ⟨m - 1, by omega⟩
    obtain ⟨s1, a1, a2, a3, a4, a5, a6⟩ := zw_measure hN hW hC hF (zplc_lt (zpk_le α c)) hp.pk
    have hp1 : PP α c s1 := hp.mv (fun s => (a2 32 s (by decide) (by simp)).1)
    obtain ⟨s2, b1, b2, b3⟩ := zw_pickNext (N := N) (by omega) hW hc a3 hp1
    have hF2 : zFr α s2 := a4.mv (zag_w (by simp) b2)
    have hC2 := a3.fr32 b2
    have r2 : ∀ a, ZRt α a s1 → ZRt α a s2 := fun a h => h.mv ⟨(b2 30 a (by decide) (by simp)).1, (b2 31 a (by decide) (by simp)).1⟩
    have hall : ∀ d, d ≤ c → zvl (zmy α) d = true → ZRt α (zplc (zpk α d)) s2 := fun d hdc hvd => by
      by_cases e : d = c
      · subst e; exact r2 _ a5
      · obtain ⟨q1, q2⟩ := hd d (by omega) hvd
        exact r2 _ (a6 q1 _ q2)
    have step : f_X1_measureAll_8 N (m + 1) 1 (nI i) σ = f_X1_measureAll_8 N m (zbI ((znx (zmy α) 4 c).isSome = true)) (nI (i + 1)) s2 := by
      show b_X1_measureAll_8 N (f_X1_measureAll_8 N m) 1 (nI i) σ = _
      unfold b_X1_measureAll_8
      rw [if_neg (by rw [show (625 : Int32) = nI 625 from rfl]; exact nI_ge (by omega) (by omega)), if_neg (by decide), a1]
      unfold zbd
      rw [Option.bind_some]
      try simp only
      rw [b1, Option.bind_some]
      try simp only
      rw [Option.bind_some, nI_1]
    rw [step]
    cases hx : znx (zmy α) 4 c with
    | none =>
      have hno := znx_none hmy hc hv hx
      refine ⟨s2, ?_, hC2, hF2, fun d hd2 hvd => ?_⟩
      · rw [zbI_f (by simp)]
        obtain ⟨m, rfl⟩ : ∃ j, m = j + 1 := ⟨m - 1, by omega⟩
        show b_X1_measureAll_8 N (f_X1_measureAll_8 N m) 0 (nI (i + 1)) s2 = _
        unfold b_X1_measureAll_8
        by_cases q : (625 : Int32) ≤ nI (i + 1)
        · rw [if_pos q]
        · rw [if_neg q, if_pos rfl]
      · refine hall d ?_ hvd
        by_cases q : d ≤ c
        · exact q
        · have := hno d (by omega) hd2
          rw [hvd] at this; exact absurd this (by decide)
    | some c' =>
      obtain ⟨g1, g2, g3, g4⟩ := znx_some hmy hc hv hx
      rw [zbI_t (by simp)]
      exact zw_measureAll8 hN hW k m c' (i + 1) s2 (by omega) (by omega) g2 (by omega) g3 hC2 (Or.inr hF2) (b3 c' hx) (fun d hd2 hvd => ⟨hF2.1, hall d (by
        by_cases q : d ≤ c
        · exact q
        · have := g4 d (by omega) hd2
          rw [hvd] at this; exact absurd this (by decide)) hvd⟩)
theorem zw_measureAll {N : Nat} (hN : 700 < N) {α : AS} {σ : ZM} (hW : WF α) (hC : RC α σ) (hF : ChOK α σ) : ∃ σ', f_X1_measureAll N σ = some ((), σ') ∧ RC α σ' ∧ AM α σ' := by
  obtain ⟨s1, a1, a2, a3⟩ := zw_pickFirst (N := N) (by omega) hW hC
  obtain ⟨s2, b1, b2, b3⟩ := zw_measureAll8 hN hW 625 N 0 0 s1 (by omega) (by omega) (by omega) (by omega) (zvl0 _) (hC.fr32 a2) (hF.mv (zag_w (by simp) a2)) a3 (fun d hd => absurd hd (Nat.not_lt_zero d))
  refine ⟨s2, ?_, b2, b3⟩
  unfold f_X1_measureAll
  rw [a1]
  unfold zbd
  rw [Option.bind_some]
  exact b1
/-! one pick is weighed -/
theorem zw_weighPlace {N : Nat} {α : AS} (hW : WF α) {a : Nat} {σ : ZM} {g : Nat × Nat} (ha : a < 625) (hz : ZRt α a σ) (h12 : σ.1 23 12 = nI g.1) (h13 : σ.1 23 13 = nI g.2) (hg : g.1 ≤ 400000 ∧ g.2 ≤ 100000000) : ∃ σ', f_X1_weighPlace N (nI a) σ = some (zbI ((zEv α a).isSome = true), σ') ∧ ∀ x, zEv α a = some x → σ'.1 23 12 = nI (zmx2 g.1 x.1) ∧ σ'.1 23 13 = nI (zmx2 g.2 x.2) := by
  have e : ∃ v1 v2, f_X1_weighPlace N (nI a) σ = (if σ.1 30 a = (-9 : Int32) then some ((0 : Int32), zuI (zuI σ 23 12 v1) 23 13 v2) else some ((1 : Int32), zuI (zuI σ 23 12 v1) 23 13 v2)) ∧ v1 = zmax (nI g.1) (σ.1 30 a) ∧ v2 = zmax (nI g.2) (σ.1 31 a) := by
    refine ⟨_, _, ?_, rfl, rfl⟩
    unfold f_X1_weighPlace zpI
    rw [zald_nI ha (by decide), Option.bind_some, Option.bind_some, zald_nI ha (by decide), Option.bind_some, Option.bind_some, zald_nI ha (by decide), Option.bind_some, h12, zuI_n (show ¬ (31 = 23 ∧ a = 12) by omega), zuI_n (show ¬ (23 = 23 ∧ 13 = 12) by omega), h13, zuI_n (show ¬ (30 = 23 ∧ a = 13) by omega), zuI_n (show ¬ (30 = 23 ∧ a = 12) by omega)]
  obtain ⟨v1, v2, e1, e2, e3⟩ := e
  refine ⟨zuI (zuI σ 23 12 v1) 23 13 v2, ?_, fun x hx => ?_⟩
  · rw [e1]
    cases hx : zEv α a with
    | none => rw [hz.getn hx, if_pos rfl]; rfl
    | some x =>
      have := zEv_le hW hx
      rw [(hz.gets hx).1, if_neg (nI_m9 (by omega))]; rfl
  · have hb := zEv_le hW hx
    obtain ⟨q1, q2⟩ := hz.gets hx
    rw [q1, zmaxN (by omega) (by omega)] at e2
    rw [q2, zmaxN (by omega) (by omega)] at e3
    rw [zuI_n (show ¬ (23 = 23 ∧ 12 = 13) by omega), zuI_s, zuI_s, e2, e3]
    exact ⟨rfl, rfl⟩
abbrev zWK : List (Nat × Option Nat) := [(23, some 12), (23, some 13), (32, none)]
theorem AM.frK {α : AS} {σ σ' : ZM} (h : AM α σ) (g : zag zWK σ σ') : AM α σ' := h.mv (g 23 14 (by decide) (by decide)).1 (fun a => (g 30 a (by decide) (by simp)).1) (fun a => (g 31 a (by decide) (by simp)).1)
theorem RC.frK {α : AS} {σ σ' : ZM} (h : RC α σ) (hW : zag zWK σ σ') : RC α σ' := h.fr hW (by decide +kernel) (by decide +kernel) (by decide +kernel) (by decide) (by decide)
theorem zw_weighPick21 {N : Nat} (hN : 14 < N) {α : AS} (hW : WF α) {c : Nat} (hc : c < 625) (hv : zvl (zmy α) c = true) {x1 : Int32} (hx1 : x1 ≠ 0) : ∀ (k m i : Nat) (σ : ZM), i + k = α 0 2 → k < m → RC α σ → AM α σ → PP α c σ → (∀ y, zAs α c i = some y → σ.1 23 12 = nI y.1 ∧ σ.1 23 13 = nI y.2) → ∃ σ', f_X1_weighPick_21 N m x1 (zbI ((zAs α c i).isSome = true)) (nI i) σ = some (zbI ((zAs α c (α 0 2)).isSome = true), σ') ∧ PP α c σ' ∧ ∀ y, zAs α c (α 0 2) = some y → σ'.1 23 12 = nI y.1 ∧ σ'.1 23 13 = nI y.2
  | 0, m, i, σ, h1, h2, hC, hA, hp, hy => by
    have hs0 := hW.1.2.2.1
    obtain ⟨m, rfl⟩ : ∃ j, m = j + 1 := ⟨m - 1, by omega⟩
    have hi : i = α 0 2 := by omega
    subst hi
    refine ⟨σ, ?_, hp, hy⟩
    show b_X1_weighPick_21 N (f_X1_weighPick_21 N m) x1 _ (nI (α 0 2)) σ = _
    unfold b_X1_weighPick_21
    rw [hC.sites, if_pos (zle_self (by omega))]
    exact zrz_b _
  | k + 1, m, i, σ, h1, h2, hC, hA, hp, hy => by
    have hs0 := hW.1.2.2.1
    obtain ⟨m, rfl⟩ : ∃ j, m = j + 1 := ⟨m - 1, by omega⟩
    have hi4 : i < 4 := by omega
    cases ha : zAs α c i with
    | none =>
      have hl : zAs α c (α 0 2) = none := by rw [← h1]; exact zAs_none ha (k + 1)
      refine ⟨σ, ?_, hp, fun y q => by rw [hl] at q; exact absurd q (by simp)⟩
      show b_X1_weighPick_21 N (f_X1_weighPick_21 N m) x1 _ (nI i) σ = _
      unfold b_X1_weighPick_21
      rw [hC.sites, if_neg (nI_ge (by omega) (by omega)), if_neg hx1, zbI_f (by simp), if_pos rfl, hl]
      rfl
    | some g =>
      have hg := zAs_le hW i ha
      obtain ⟨y1, y2⟩ := hy g ha
      obtain ⟨s1, hs1⟩ : ∃ s1, s1 = zuI σ 32 i 4 := ⟨_, rfl⟩
      have g1 : zag zWK σ s1 := by rw [hs1]; exact zag_w (W1 := [(32, none)]) (by simp) (zag_all zag_uI)
      have hle : ∀ t, (fun t => if t = i then 4 else zpk α c t) t ≤ 4 := fun t => by
        have := zpk_le α c t
        show (if t = i then 4 else zpk α c t) ≤ 4
        split <;> omega
      have hpk : PK (zplc (fun t => if t = i then 4 else zpk α c t)) s1 := PK.of hle (fun t ht => by
        rw [hs1]
        by_cases e : t = i
        · subst e; rw [zuI_s, if_pos rfl]; rfl
        · rw [zuI_n (fun q => e q.2), if_neg e]; exact hp t ht)
      obtain ⟨s2, b1, b2⟩ := zw_weighPlace (N := N) hW (zplc_lt hle) ((hA.frK g1).fallen hc hv (f := i)) (g := g) (by rw [hs1, zuI_n (by simp)]; exact y1) (by rw [hs1, zuI_n (by simp)]; exact y2) hg
      have g2 : zag zWK s1 s2 := zag_w (by simp) (fr_X1_weighPlace b1)
      obtain ⟨s3, hs3⟩ : ∃ s3, s3 = zuI s2 32 i (nI (zpk α c i)) := ⟨_, rfl⟩
      have g3 : zag zWK s2 s3 := by rw [hs3]; exact zag_w (W1 := [(32, none)]) (by simp) (zag_all zag_uI)
      have g13 : zag zWK σ s3 := zag_t g1 (zag_t g2 g3)
      have hpp : PP α c s3 := fun t ht => by
        rw [hs3]
        by_cases e : t = i
        · subst e; rw [zuI_s]
        · rw [zuI_n (fun q => e q.2), (fr_X1_weighPlace b1 32 t (by decide) (by simp)).1, hs1, zuI_n (fun q => e q.2)]; exact hp t ht
      have hn : zAs α c (i + 1) = zcm (some g) (zMf α c i) := by rw [zAs_succ, ha]
      have en : ((zAs α c (i + 1)).isSome = true) ↔ ((zMf α c i).isSome = true) := by
        rw [hn]
        cases zMf α c i <;> simp [zcm]
      obtain ⟨s4, d1, d2, d3⟩ := zw_weighPick21 hN hW hc hv hx1 k m (i + 1) s3 (by omega) (by omega) (hC.frK g13) (hA.frK g13) hpp (fun y hy1 => by
        rw [hn] at hy1
        obtain ⟨g', x, q1, q2, q3⟩ := zcm_some hy1
        cases q1
        obtain ⟨r1, r2⟩ := b2 x q2
        rw [hs3, zuI_n (by simp), zuI_n (by simp), r1, r2, q3]
        exact ⟨rfl, rfl⟩)
      refine ⟨s4, ?_, d2, d3⟩
      show b_X1_weighPick_21 N (f_X1_weighPick_21 N m) x1 _ (nI i) σ = _
      unfold b_X1_weighPick_21
      rw [hC.sites, if_neg (nI_ge (by omega) (by omega)), if_neg hx1, zbI_t (by simp), if_neg (by decide), zald_nI hi4 (by decide), Option.bind_some, zast_nI hi4 (by decide), Option.bind_some, ← hs1, zw_place hN (zplc_lt hle) hpk]
      unfold zbd
      rw [Option.bind_some]
      try simp only
      rw [b1, Option.bind_some]
      try simp only
      rw [hp i hi4, zast_nI hi4 (by decide), Option.bind_some, Option.bind_some, nI_1, ← hs3, ← d1]
      congr 1
      exact zbI_congr en.symm
theorem zw_weighPick {N : Nat} (hN : 14 < N) {α : AS} (hW : WF α) {c : Nat} (hc : c < 625) (hv : zvl (zmy α) c = true) {x1 : Int32} {σ : ZM} (hC : RC α σ) (hA : AM α σ) (hp : PP α c σ) : ∃ σ', f_X1_weighPick N x1 σ = some (zbI ((zPw x1 α c).isSome = true), σ') ∧ zag zWK σ σ' ∧ PP α c σ' ∧ ∀ y, zPw x1 α c = some y → σ'.1 23 12 = nI y.1 ∧ σ'.1 23 13 = nI y.2 := by
  have hs0 := hW.1.2.2.1
  obtain ⟨s1, hs1⟩ : ∃ s1, s1 = zuI (zuI σ 23 12 0) 23 13 0 := ⟨_, rfl⟩
  have g1 : zag zWK σ s1 := by rw [hs1]; exact zag_t (zag_w (W1 := [(23, some 12)]) (by simp) zag_uI) (zag_w (W1 := [(23, some 13)]) (by simp) zag_uI)
  have hp1 : PP α c s1 := hp.mv (fun s => by rw [hs1, zuI_n (by simp), zuI_n (by simp)])
  have e4 : zplc (fun t => if t = 4 then 4 else zpk α c t) = zplc (zpk α c) := zplc_congr (fun t ht => if_neg (by omega))
  have eM : zEv α (zplc (zpk α c)) = zMf α c 4 := by unfold zMf; rw [e4]
  obtain ⟨s2, b1, b2⟩ := zw_weighPlace (N := N) hW (zplc_lt (zpk_le α c)) ((hA.frK g1).2 c hc hv) (g := (0, 0)) (by rw [hs1, zuI_n (by simp), zuI_s]; rfl) (by rw [hs1, zuI_s]; rfl) (by simp)
  rw [eM] at b1 b2
  have g2 : zag zWK s1 s2 := zag_w (by simp) (fr_X1_weighPlace b1)
  have hp2 : PP α c s2 := hp1.mv (fun s => (fr_X1_weighPlace b1 32 s (by decide) (by simp)).1)
  have val : ∀ y, zMf α c 4 = some y → s2.1 23 12 = nI y.1 ∧ s2.1 23 13 = nI y.2 := fun y hy => by
    obtain ⟨q1, q2⟩ := b2 y hy
    rw [q1, q2]
    unfold zmx2
    constructor
    · congr 1; split <;> omega
    · congr 1; split <;> omega
  have pre : f_X1_weighPick N x1 σ = f_X1_weighPick_21 N N x1 (zbI ((zMf α c 4).isSome = true)) (nI 0) s2 := by
    unfold f_X1_weighPick zpI
    rw [Option.bind_some, Option.bind_some, ← hs1, zw_place hN (zplc_lt (zpk_le α c)) hp1.pk]
    unfold zbd
    rw [Option.bind_some]
    try simp only
    rw [b1, Option.bind_some]
    rfl
  by_cases hx : x1 = 0
  · have eP : zPw x1 α c = zMf α c 4 := if_pos hx
    rw [eP]
    have ef : f_X1_weighPick N x1 σ = some (zbI ((zMf α c 4).isSome = true), s2) := by
      rw [pre]
      obtain ⟨m, rfl⟩ : ∃ j, N = j + 1 := ⟨N - 1, by omega⟩
      show b_X1_weighPick_21 (m + 1) (f_X1_weighPick_21 (m + 1) m) x1 _ (nI 0) s2 = _
      unfold b_X1_weighPick_21
      rw [if_pos hx]
      by_cases q : s2.1 12 0 ≤ nI 0
      · rw [if_pos q]; exact zrz_b _
      · rw [if_neg q]; exact zrz_b _
    exact ⟨s2, ef, zag_t g1 g2, hp2, val⟩
  · have eP : zPw x1 α c = zAs α c (α 0 2) := if_neg hx
    rw [eP]
    obtain ⟨s3, d1, d2, d3⟩ := zw_weighPick21 hN hW hc hv hx (α 0 2) N 0 s2 (by omega) (by omega) ((hC.frK g1).frK g2) ((hA.frK g1).frK g2) hp2 val
    have ef : f_X1_weighPick N x1 σ = some (zbI ((zAs α c (α 0 2)).isSome = true), s3) := by rw [pre]; exact d1
    exact ⟨s3, ef, zag_w (by simp) (fr_X1_weighPick ef), d2, d3⟩
/-! the best so far -/
def SB (α : AS) (b : Option (Nat × Nat × Nat)) (σ : ZM) : Prop := match b with
  | none => σ.1 23 10 = -9
  | some d => σ.1 23 10 = nI d.2.1 ∧ σ.1 23 11 = nI d.2.2 ∧ ∀ s, s < 4 → σ.1 33 s = nI (zpk α d.1 s)
theorem SB.mv {α : AS} {b : Option (Nat × Nat × Nat)} {σ σ' : ZM} (h : SB α b σ) (e : σ'.1 23 10 = σ.1 23 10 ∧ σ'.1 23 11 = σ.1 23 11) (e2 : ∀ s, σ'.1 33 s = σ.1 33 s) : SB α b σ' := by
  cases b with
  | none => show σ'.1 23 10 = -9; rw [e.1]; exact h
  | some d => exact ⟨by rw [e.1]; exact h.1, by rw [e.2]; exact h.2.1, fun s hs => by rw [e2]; exact h.2.2 s hs⟩
abbrev zWL : List (Nat × Option Nat) := [(23, some 10), (23, some 11), (23, some 12), (23, some 13), (32, none), (33, none)]
theorem AM.frL {α : AS} {σ σ' : ZM} (h : AM α σ) (g : zag zWL σ σ') : AM α σ' := h.mv (g 23 14 (by decide) (by decide)).1 (fun a => (g 30 a (by decide) (by simp)).1) (fun a => (g 31 a (by decide) (by simp)).1)
theorem RC.frL {α : AS} {σ σ' : ZM} (h : RC α σ) (hW : zag zWL σ σ') : RC α σ' := h.fr hW (by decide +kernel) (by decide +kernel) (by decide +kernel) (by decide) (by decide)
/-- what stands behind the weighing of one pick -/
theorem zw_seekOne {N : Nat} {α : AS} (hW : WF α) {c : Nat} {x1 : Int32} {b : Option (Nat × Nat × Nat)} (hb : ∀ d, b = some d → d.2.1 ≤ 400000 ∧ d.2.2 ≤ 100000000) {rcx : Int32 → Int32 → Int32 → ZM → Option (Unit × ZM)} {y0 : Int32} {s : ZM} (hC : RC α s) (hp : PP α c s) (hS : SB α b s) (hy : ∀ y, zPw x1 α c = some y → s.1 23 12 = nI y.1 ∧ s.1 23 13 = nI y.2) : ∃ s', (if zbI ((zPw x1 α c).isSome = true) = 0 then (f_X1_seek_89 N rcx x1 y0 s) else (if (s.1 23 10) = (-9 : Int32) then (f_X1_seek_59 N rcx x1 y0 s) else (zbd (f_X1_isBetter N s) fun r9 s10 => if r9 = 0 then (f_X1_seek_89 N rcx x1 y0 s10) else (f_X1_seek_59 N rcx x1 y0 s10)))) = f_X1_seek_89 N rcx x1 y0 s' ∧ zag zWL s s' ∧ PP α c s' ∧ SB α (zup b c (zPw x1 α c)) s' := by
  have take : ∀ y, zPw x1 α c = some y → ∃ s', f_X1_seek_59 N rcx x1 y0 s = f_X1_seek_89 N rcx x1 y0 s' ∧ zag zWL s s' ∧ PP α c s' ∧ SB α (some (c, y)) s' := by
    intro y hq
    obtain ⟨y1, y2⟩ := hy y hq
    obtain ⟨s1, hs1⟩ : ∃ s1, s1 = zuI (zuI s 23 10 (nI y.1)) 23 11 (nI y.2) := ⟨_, rfl⟩
    obtain ⟨s2, a1, a2, a3⟩ := zw_cpy4 s1 32 33
    have g1 : zag zWL s s1 := by rw [hs1]; exact zag_t (zag_w (W1 := [(23, some 10)]) (by simp) zag_uI) (zag_w (W1 := [(23, some 11)]) (by simp) zag_uI)
    refine ⟨s2, ?_, zag_t g1 (zag_w (by simp) a2), ?_, ?_, ?_, ?_⟩
    · unfold f_X1_seek_59 zpI
      rw [Option.bind_some, Option.bind_some, y1, zuI_n (show ¬ (23 = 23 ∧ 13 = 10) by omega), y2, ← hs1, a1, Option.bind_some]
    · refine hp.mv (fun t => ?_)
      rw [(a2 32 t (by decide) (by simp)).1, hs1, zuI_n (by simp), zuI_n (by simp)]
    · rw [(a2 23 10 (by decide) (by decide)).1, hs1, zuI_n (by simp), zuI_s]
    · rw [(a2 23 11 (by decide) (by decide)).1, hs1, zuI_s]
    · intro t ht
      rw [a3 t ht, hs1, zuI_n (by simp), zuI_n (by simp)]
      exact hp t ht
  cases hq : zPw x1 α c with
  | none =>
    refine ⟨s, ?_, zag_r, hp, hS⟩
    rw [zbI_f (by simp), if_pos rfl]
  | some y =>
    obtain ⟨y1, y2⟩ := hy y hq
    have hyb := zPw_le hW hq
    obtain ⟨s', t1, t2, t3, t4⟩ := take y hq
    rw [zbI_t (by simp), if_neg (by decide)]
    cases b with
    | none =>
      have h9 : s.1 23 10 = -9 := hS
      rw [if_pos h9]
      exact ⟨s', t1, t2, t3, t4⟩
    | some d =>
      obtain ⟨q1, q2, q3⟩ := hS
      have hd := hb d rfl
      rw [if_neg (by rw [q1]; exact nI_m9 (by omega))]
      unfold f_X1_isBetter f_X1_isBetter_33
      rw [q1, q2, y1, y2]
      by_cases c1 : y.1 < d.2.1
      · have e : zup (some d) c (some y) = some (c, y) := if_pos (Or.inl c1)
        rw [if_pos (by rw [Int32.lt_iff_toInt_lt, nI_toInt (by omega), nI_toInt (by omega)]; omega), e]
        refine ⟨s', ?_, t2, t3, t4⟩
        unfold zbd
        rw [Option.bind_some]
        try simp only
        rw [if_neg (by decide)]
        exact t1
      · rw [if_neg (by rw [Int32.lt_iff_toInt_lt, nI_toInt (by omega), nI_toInt (by omega)]; omega)]
        by_cases c2 : y.1 = d.2.1
        · rw [if_pos (by rw [c2])]
          by_cases c3 : d.2.2 ≤ y.2
          · have e : zup (some d) c (some y) = some d := if_neg (by omega)
            rw [if_pos (nI_le c3 (by omega)), e]
            refine ⟨s, ?_, zag_r, hp, q1, q2, q3⟩
            unfold zbd
            rw [Option.bind_some]
            exact if_pos rfl
          · have e : zup (some d) c (some y) = some (c, y) := if_pos (Or.inr ⟨c2, by omega⟩)
            rw [if_neg (nI_ge (by omega) (by omega)), e]
            refine ⟨s', ?_, t2, t3, t4⟩
            unfold zbd
            rw [Option.bind_some]
            try simp only
            rw [if_neg (by decide)]
            exact t1
        · have e : zup (some d) c (some y) = some d := if_neg (by omega)
          rw [if_neg (fun q => c2 (nI_inj (by omega) (by omega) q)), e]
          refine ⟨s, ?_, zag_r, hp, q1, q2, q3⟩
          unfold zbd
          rw [Option.bind_some]
          exact if_pos rfl
theorem zw_seek20 {N : Nat} (hN : 700 < N) {α : AS} (hW : WF α) {x1 : Int32} : ∀ (k m c i : Nat) (σ : ZM), 625 - c ≤ k → k < m → c < 625 → i ≤ c → zvl (zmy α) c = true → RC α σ → AM α σ → PP α c σ → SB α (zBs x1 α c) σ → ∃ σ', f_X1_seek_20 N m x1 1 (nI i) σ = some ((), σ') ∧ RC α σ' ∧ AM α σ' ∧ SB α (zBs x1 α 625) σ'
  | 0, m, c, i, σ, h1, h2, hc, hi, hv, hC, hA, hp, hS => by omega
  | k + 1, m, c, i, σ, h1, h2, hc, hi, hv, hC, hA, hp, hS => by
    have hmy : ∀ s, 4 ≤ s → zmy α s = false := fun s hs => zmy_out hW (by have := hW.1.2.2.1; omega)
    obtain ⟨m, rfl⟩ : ∃ j, m = j + 1 := ⟨m - 1, by omega⟩
    obtain ⟨s1, a1, a2, a3, a4⟩ := zw_weighPick (N := N) (by omega) hW hc hv (x1 := x1) hC hA hp
    have hS1 : SB α (zBs x1 α c) s1 := hS.mv ⟨(a2 23 10 (by decide) (by decide)).1, (a2 23 11 (by decide) (by decide)).1⟩ (fun s => (a2 33 s (by decide) (by simp)).1)
    have hC1 := hC.frK a2
    have hA1 := hA.frK a2
    obtain ⟨s2, b1, b2, b3, b4⟩ := zw_seekOne (N := N) hW (c := c) (x1 := x1) (b := zBs x1 α c) (fun d hd => zBs_le hW c hd) (rcx := f_X1_seek_20 N m) (y0 := nI i) hC1 a3 hS1 a4
    have eB : zBs x1 α (c + 1) = zup (zBs x1 α c) c (zPw x1 α c) := if_pos hv
    rw [← eB] at b4
    have hC2 := hC1.frL b2
    have hA2 := hA1.frL b2
    obtain ⟨s3, d1, d2, d3⟩ := zw_pickNext (N := N) (by omega) hW hc hC2 b3
    have hC3 := hC2.fr32 d2
    have hA3 : AM α s3 := hA2.frL (zag_w (by simp) d2)
    have hS3 : SB α (zBs x1 α (c + 1)) s3 := b4.mv ⟨(d2 23 10 (by decide) (by decide)).1, (d2 23 11 (by decide) (by decide)).1⟩ (fun s => (d2 33 s (by decide) (by simp)).1)
    have step : f_X1_seek_20 N (m + 1) x1 1 (nI i) σ = f_X1_seek_20 N m x1 (zbI ((znx (zmy α) 4 c).isSome = true)) (nI (i + 1)) s3 := by
      show b_X1_seek_20 N (f_X1_seek_20 N m) x1 1 (nI i) σ = _
      unfold b_X1_seek_20
      rw [if_neg (by rw [show (625 : Int32) = nI 625 from rfl]; exact nI_ge (by omega) (by omega)), if_neg (by decide), a1]
      unfold zbd at b1 ⊢
      rw [Option.bind_some]
      try simp only
      refine b1.trans ?_
      unfold f_X1_seek_89 zbd
      rw [d1, Option.bind_some]
      try simp only
      rw [Option.bind_some, nI_1]
    rw [step]
    cases hx : znx (zmy α) 4 c with
    | none =>
      have hno := znx_none hmy hc hv hx
      have e6 : zBs x1 α 625 = zBs x1 α (c + 1) := by
        have := zBs_skip (x := x1) (α := α) (c := c + 1) (625 - (c + 1)) (fun e q1 q2 => hno e (by omega) (by omega))
        rw [show c + 1 + (625 - (c + 1)) = 625 by omega] at this
        exact this
      refine ⟨s3, ?_, hC3, hA3, by rw [e6]; exact hS3⟩
      rw [zbI_f (by simp)]
      obtain ⟨m, rfl⟩ : ∃ j, m = j + 1 := ⟨m - 1, by omega⟩
      show b_X1_seek_20 N (f_X1_seek_20 N m) x1 0 (nI (i + 1)) s3 = _
      unfold b_X1_seek_20
      by_cases q : (625 : Int32) ≤ nI (i + 1)
      · rw [if_pos q]
      · rw [if_neg q, if_pos rfl]
    | some c' =>
      obtain ⟨g1, g2, g3, g4⟩ := znx_some hmy hc hv hx
      have e6 : zBs x1 α c' = zBs x1 α (c + 1) := by
        have := zBs_skip (x := x1) (α := α) (c := c + 1) (c' - (c + 1)) (fun e q1 q2 => g4 e (by omega) (by omega))
        rw [show c + 1 + (c' - (c + 1)) = c' by omega] at this
        exact this
      rw [zbI_t (by simp)]
      exact zw_seek20 hN hW k m c' (i + 1) s3 (by omega) (by omega) g2 (by omega) g3 hC3 hA3 (d3 c' hx) (by rw [e6]; exact hS3)
theorem zw_best {N : Nat} (hN : 700 < N) {α : AS} {σ : ZM} (hW : WF α) (hC : RC α σ) (hF : ChOK α σ) (x1 : Int32) : ∃ s1 s2, f_X1_measureAll N σ = some ((), s1) ∧ f_X1_seek N x1 s1 = some ((), s2) ∧ RC α s2 ∧ ChOK α s2 ∧ SB α (zBs x1 α 625) s2 ∧ zag zWY σ s2 := by
  obtain ⟨s1, a1, a2, a3⟩ := zw_measureAll hN hW hC hF
  obtain ⟨s2, hs2⟩ : ∃ s2, s2 = zuI (zuI s1 23 10 (-9)) 23 11 (-9) := ⟨_, rfl⟩
  have g2 : zag zWL s1 s2 := by rw [hs2]; exact zag_t (zag_w (W1 := [(23, some 10)]) (by simp) zag_uI) (zag_w (W1 := [(23, some 11)]) (by simp) zag_uI)
  obtain ⟨s3, b1, b2, b3⟩ := zw_pickFirst (N := N) (by omega) hW (a2.frL g2)
  have hA3 : AM α s3 := (a3.frL g2).frL (zag_w (by simp) b2)
  obtain ⟨s4, c1, c2, c3, c4⟩ := zw_seek20 hN hW (x1 := x1) 625 N 0 0 s3 (by omega) (by omega) (by omega) (by omega) (zvl0 _) ((a2.frL g2).fr32 b2) hA3 b3 (by
    show s3.1 23 10 = -9
    rw [(b2 23 10 (by decide) (by decide)).1, hs2, zuI_n (by simp), zuI_s])
  have ef : f_X1_seek N x1 s1 = some ((), s4) := by
    unfold f_X1_seek zpI
    rw [Option.bind_some, Option.bind_some, ← hs2, b1]
    unfold zbd
    rw [Option.bind_some]
    exact c1
  exact ⟨s1, s4, a1, ef, c2, Or.inr c3.1, c4, zag_t (zag_none (fr_X1_measureAll a1) (by decide)) (zag_none (fr_X1_seek ef) (by decide))⟩
