/-! ===== the chart: excess and sum of each pick ===== -/
def zEk (α κ : AS) : Option (Nat × Nat) := (zrest α κ).map fun k => (zex α (zit α κ k), zsu α (zit α κ k))
def zdg (a s : Nat) : Nat := if s = 0 then a / 125 % 5 else if s = 1 then a / 25 % 5 else if s = 2 then a / 5 % 5 else a % 5
theorem zdg_le (a s : Nat) : zdg a s ≤ 4 := by
  unfold zdg
  split
  · omega
  · split
    · omega
    · split <;> omega
def zka (α : AS) (a : Nat) : AS := zkap (α 0 2) (α 6) (zdg a) (α 8) (α 9) (zr0 α)
theorem zka_KW {α : AS} (hW : WF α) (a : Nat) : KW α (zka α a) := KW.mk hW (Nat.le_refl _) (zdg_le a) hW.2.2.2.2.2.1.2.2.1 hW.2.2.2.2.2.1.2.2.2.1 (fun n => zlr_le _)
def zEv (α : AS) (a : Nat) : Option (Nat × Nat) := zEk α (zka α a)
def zplc (p : Nat → Nat) : Nat := ((p 0 * 5 + p 1) * 5 + p 2) * 5 + p 3
theorem zdg_plc {p : Nat → Nat} (hp : ∀ s, p s ≤ 4) {s : Nat} (hs : s < 4) : zdg (zplc p) s = p s := by
  have h0 := hp 0
  have h1 := hp 1
  have h2 := hp 2
  have h3 := hp 3
  unfold zdg zplc
  rcases (show s = 0 ∨ s = 1 ∨ s = 2 ∨ s = 3 by omega) with rfl | rfl | rfl | rfl
  · rw [if_pos rfl]; omega
  · rw [if_neg (by omega), if_pos rfl]; omega
  · rw [if_neg (by omega), if_neg (by omega), if_pos rfl]; omega
  · rw [if_neg (by omega), if_neg (by omega), if_neg (by omega)]; omega
theorem zplc_lt {p : Nat → Nat} (hp : ∀ s, p s ≤ 4) : zplc p < 625 := by
  have h0 := hp 0
  have h1 := hp 1
  have h2 := hp 2
  have h3 := hp 3
  unfold zplc
  omega
theorem zplc_zdg {a : Nat} (ha : a < 625) : zplc (zdg a) = a := by
  unfold zplc
  rw [show zdg a 0 = a / 125 % 5 from rfl, show zdg a 1 = a / 25 % 5 from rfl, show zdg a 2 = a / 5 % 5 from rfl, show zdg a 3 = a % 5 from rfl]
  omega
theorem zplc_congr {p q : Nat → Nat} (h : ∀ s, s < 4 → p s = q s) : zplc p = zplc q := by
  unfold zplc; rw [h 0 (by decide), h 1 (by decide), h 2 (by decide), h 3 (by decide)]
def PK (a : Nat) (σ : ZM) : Prop := ∀ s, s < 4 → σ.1 32 s = nI (zdg a s)
theorem PK.of {p : Nat → Nat} {σ : ZM} (hp : ∀ s, p s ≤ 4) (h : ∀ s, s < 4 → σ.1 32 s = nI (p s)) : PK (zplc p) σ := fun s hs => by rw [zdg_plc hp hs]; exact h s hs
def ZRt (α : AS) (a : Nat) (σ : ZM) : Prop := match zEv α a with
  | none => σ.1 30 a = -9
  | some x => σ.1 30 a = nI x.1 ∧ σ.1 31 a = nI x.2
theorem ZRt.none {α : AS} {a : Nat} {σ : ZM} (h : zEv α a = none) (g : σ.1 30 a = -9) : ZRt α a σ := by unfold ZRt; rw [h]; exact g
theorem ZRt.some {α : AS} {a : Nat} {σ : ZM} {x : Nat × Nat} (h : zEv α a = some x) (g : σ.1 30 a = nI x.1 ∧ σ.1 31 a = nI x.2) : ZRt α a σ := by unfold ZRt; rw [h]; exact g
theorem ZRt.getn {α : AS} {a : Nat} {σ : ZM} (h : ZRt α a σ) (e : zEv α a = Option.none) : σ.1 30 a = -9 := by unfold ZRt at h; rw [e] at h; exact h
theorem ZRt.gets {α : AS} {a : Nat} {σ : ZM} {x : Nat × Nat} (h : ZRt α a σ) (e : zEv α a = Option.some x) : σ.1 30 a = nI x.1 ∧ σ.1 31 a = nI x.2 := by unfold ZRt at h; rw [e] at h; exact h
theorem ZRt.mv {α : AS} {a : Nat} {σ σ' : ZM} (h : ZRt α a σ) (g : σ'.1 30 a = σ.1 30 a ∧ σ'.1 31 a = σ.1 31 a) : ZRt α a σ' := by
  unfold ZRt at *
  rw [g.1, g.2]; exact h
def zFr (α : AS) (σ : ZM) : Prop := σ.1 23 14 = 0 ∧ ∀ a, a < 625 → σ.1 30 a = -1 ∨ ZRt α a σ
def ChOK (α : AS) (σ : ZM) : Prop := σ.1 23 14 = 1 ∨ zFr α σ
theorem zFr.mv {α : AS} {σ σ' : ZM} (h : zFr α σ) (g : zag [(17, none), (18, none), (19, none), (20, none), (21, none), (22, none), (24, none), (25, none), (26, none), (27, none), (28, none), (29, none), (32, none)] σ σ') : zFr α σ' := by
  refine ⟨by rw [(g 23 14 (by decide) (by decide)).1]; exact h.1, fun a ha => ?_⟩
  have e1 := (g 30 a (by decide) (by simp)).1
  have e2 := (g 31 a (by decide) (by simp)).1
  rcases h.2 a ha with q | q
  · exact Or.inl (by rw [e1]; exact q)
  · exact Or.inr (q.mv ⟨e1, e2⟩)
theorem zEv_le {α : AS} {κ : AS} (hW : WF α) {x : Nat × Nat} (h : zEk α κ = some x) : x.1 ≤ 400000 ∧ x.2 ≤ 100000000 := by
  unfold zEk at h
  cases hr : zrest α κ with
  | none => rw [hr] at h; exact absurd h (by simp)
  | some k =>
    rw [hr] at h
    simp only [Option.map_some, Option.some.injEq] at h
    rw [← h]
    exact ⟨zex_le hW, zsu_le hW⟩
def zpp (a : Nat) : Nat → Nat
  | 0 => 0
  | i + 1 => zpp a i * 5 + zdg a i
theorem zpp4 {a : Nat} (ha : a < 625) : zpp a 4 = a := by
  have : zpp a 4 = (((0 * 5 + zdg a 0) * 5 + zdg a 1) * 5 + zdg a 2) * 5 + zdg a 3 := rfl
  rw [this, Nat.zero_mul, Nat.zero_add]
  exact zplc_zdg ha
theorem zw_place {N : Nat} (hN : 14 < N) {a : Nat} {σ : ZM} (ha : a < 625) (h : PK a σ) : f_X1_place N σ = some (nI a, σ) := by
  have e5 : ∀ x d, nI x * (5 : Int32) + nI d = nI (x * 5 + d) := fun x d => by rw [show (5 : Int32) = nI 5 from rfl, pk_mul, nI_add]
  have := zloopT (fun m (q : Int32 × Int32) => f_X1_place_4 N m q.1 q.2 σ) (fun i => (nI (zpp a i), nI i)) 4 (nI (zpp a 4), σ) (fun m => rfl) (fun m i hi => by
    show b_X1_place_4 N (f_X1_place_4 N m) (nI (zpp a i)) (nI i) σ = f_X1_place_4 N m (nI (zpp a i * 5 + zdg a i)) (nI (i + 1)) σ
    unfold b_X1_place_4
    rw [if_neg (by rw [show (4 : Int32) = nI 4 from rfl]; exact nI_ge hi (by omega)), zald_nI hi (by decide), h i hi, Option.bind_some, Option.bind_some, Option.bind_some, nI_1, e5]) N 0 (by omega) (by omega)
  rw [zpp4 ha] at this
  exact this
/-! words copied -/
abbrev zW5 (w0 : Nat) : List (Nat × Option Nat) := [(w0, some 0), (w0 + 1, none), (w0 + 2, none), (w0 + 3, none), (w0 + 4, none)]
theorem zw_copy {N : Nat} (hN : 14 < N) {α : AS} {σ : ZM} (hW : WF α) (hC : CA 12 (α 0 2) (α 6) (α 7) (α 8) (α 9) σ) {w0 : Nat} (hw : 17 ≤ w0) : ∃ σ', f_X7_copy N w0 12 σ = some ((), σ') ∧ zag (zW5 w0) σ σ' ∧ CA w0 (α 0 2) (α 6) (α 7) (α 8) (α 9) σ' := by
  have hu := hW.2.2.2.2.2.1.1
  have hr := hW.2.2.2.2.2.1.2.2.2.1
  have a0 : zag (zW5 w0) σ (zuI σ w0 0 (nI (α 0 2))) := zag_w (W1 := [(w0, some 0)]) (by simp) zag_uI
  obtain ⟨m', s', e1, e2, e3, e4, e5⟩ := zloopS (fun m (q : Int32 × ZM) => f_X7_copy_10 N w0 12 m q.1 q.2)
    (fun i q => q.1 = nI i ∧ zag (zW5 w0) σ q.2 ∧ q.2.1 w0 0 = nI (α 0 2) ∧ ∀ s, s < i → q.2.1 (w0 + 1) s = nI (α 7 s) ∧ q.2.1 (w0 + 2) s = nI (α 8 s) ∧ q.2.1 (w0 + 3) s = nI (α 9 s) ∧ q.2.1 (w0 + 4) s = nI (α 6 s)) 4 (by
    rintro m i ⟨x, s⟩ hi ⟨p1, p2, p3, p4⟩
    simp only at p1 p2 p3 p4
    subst p1
    obtain ⟨r1, r2, r3, r4⟩ := hC.2 i hi
    have q1 : s.1 13 i = nI (α 7 i) := by rw [(p2 13 i (by simp; omega) (by simp; omega)).1]; exact r1
    have q2 : s.1 14 i = nI (α 8 i) := by rw [(p2 14 i (by simp; omega) (by simp; omega)).1]; exact r2
    have q3 : s.1 15 i = nI (α 9 i) := by rw [(p2 15 i (by simp; omega) (by simp; omega)).1]; exact r3
    have q4 : s.1 16 i = nI (α 6 i) := by rw [(p2 16 i (by simp; omega) (by simp; omega)).1]; exact r4
    refine ⟨(nI (i + 1), zuI (zuI (zuI (zuI s (w0 + 1) i (nI (α 7 i))) (w0 + 2) i (nI (α 8 i))) (w0 + 3) i (nI (α 9 i))) (w0 + 4) i (nI (α 6 i))), ?_, rfl, ?_, ?_, fun t ht => ?_⟩
    · show b_X7_copy_10 N w0 12 (f_X7_copy_10 N w0 12 m) (nI i) s = _
      unfold b_X7_copy_10
      rw [if_neg (by rw [show (4 : Int32) = nI 4 from rfl]; exact nI_ge hi (by decide)), zald_nI hi (by decide), Option.bind_some, zast_nI hi (by decide), Option.bind_some, q1]
      obtain ⟨s1, hs1⟩ : ∃ s1, s1 = zuI s (w0 + 1) i (nI (α 7 i)) := ⟨_, rfl⟩
      have g2 : s1.1 14 i = nI (α 8 i) := by rw [hs1, zuI_n (by omega)]; exact q2
      rw [← hs1, zald_nI hi (by decide), Option.bind_some, zast_nI hi (by decide), Option.bind_some, g2]
      obtain ⟨s2, hs2⟩ : ∃ s2, s2 = zuI s1 (w0 + 2) i (nI (α 8 i)) := ⟨_, rfl⟩
      have g3 : s2.1 15 i = nI (α 9 i) := by rw [hs2, zuI_n (by omega), hs1, zuI_n (by omega)]; exact q3
      rw [← hs2, zald_nI hi (by decide), Option.bind_some, g3, zasZ_nI hi (by decide) (zn1 (hr i)), Option.bind_some]
      obtain ⟨s3, hs3⟩ : ∃ s3, s3 = zuI s2 (w0 + 3) i (nI (α 9 i)) := ⟨_, rfl⟩
      have g4 : s3.1 16 i = nI (α 6 i) := by rw [hs3, zuI_n (by omega), hs2, zuI_n (by omega), hs1, zuI_n (by omega)]; exact q4
      rw [← hs3, zald_nI hi (by decide), Option.bind_some, g4, zasZ_nI hi (by decide) (zn1 (hu i)), Option.bind_some, Option.bind_some, nI_1]
    · refine zag_t p2 (zag_t (zag_t (zag_t (zag_w (W1 := [(w0 + 1, none)]) (by simp) (zag_all zag_uI)) (zag_w (W1 := [(w0 + 2, none)]) (by simp) (zag_all zag_uI))) (zag_w (W1 := [(w0 + 3, none)]) (by simp) (zag_all zag_uI))) (zag_w (W1 := [(w0 + 4, none)]) (by simp) (zag_all zag_uI)))
    · simp [zuI_at, p3]
    · by_cases e : t = i
      · subst e; simp [zuI_at]
      · have := p4 t (by omega)
        simp [zuI_at, e, this]) N 0 (0, zuI σ w0 0 (nI (α 0 2))) (by omega) (by omega) ⟨rfl, a0, zuI_s, fun t ht => absurd ht (Nat.not_lt_zero t)⟩
  obtain ⟨x, s⟩ := s'
  simp only at e1 e2 e3 e4 e5
  subst e2
  refine ⟨s, ?_, e3, e4, e5⟩
  unfold f_X7_copy zpI
  rw [Option.bind_some, hC.1]
  have e1 : f_X7_copy_10 N w0 12 N 0 (zuI σ w0 0 (nI (α 0 2))) = f_X7_copy_10 N w0 12 (m' + 1) (nI 4) s := e1
  rw [e1]
  show b_X7_copy_10 N w0 12 (f_X7_copy_10 N w0 12 m') (nI 4) s = _
  unfold b_X7_copy_10
  rw [if_pos (show (4 : Int32) ≤ nI 4 by decide)]
theorem zw_cpy4 (σ : ZM) (a b : Nat) : ∃ σ', zcpy σ a 4 0 b 4 0 4 = some σ' ∧ zag [(b, none)] σ σ' ∧ ∀ j, j < 4 → σ'.1 b j = σ.1 a j := by
  have e : zcpy σ a 4 0 b 4 0 4 = some (zuC σ b (va_cpy (σ.1 a) (σ.1 b) 0 0 4)) := by
    unfold zcpy
    rw [if_neg (by decide)]; rfl
  refine ⟨_, e, zag_copy e, fun j hj => ?_⟩
  show (if b = b then va_cpy (σ.1 a) (σ.1 b) 0 0 4 else σ.1 b) j = _
  rw [if_pos rfl, pk_cpy_in (by omega) (by omega), Nat.zero_add, Nat.sub_zero]
abbrev zWC : List (Nat × Option Nat) := [(17, some 5), (18, none), (19, none), (20, none), (21, none), (22, none), (23, some 14), (24, some 0), (25, none), (26, none), (27, none), (28, none), (29, none), (30, none), (31, none)]
theorem RC.frC {α : AS} {σ σ' : ZM} (h : RC α σ) (hW : zag zWC σ σ') : RC α σ' := h.fr hW (by decide +kernel) (by decide +kernel) (by decide +kernel) (by decide) (by decide)
theorem zw_measure20 {N : Nat} (hN : 50 < N) {α : AS} {σ : ZM} (hW : WF α) (hC : RC α σ) (hF : zFr α σ) {a : Nat} (ha : a < 625) (hp : PK a σ) : ∃ σ', f_X1_measure_20 N σ = some (nI a, σ') ∧ RC α σ' ∧ zFr α σ' ∧ ZRt α a σ' ∧ ∀ b, ZRt α b σ → ZRt α b σ' := by
  by_cases hm : σ.1 30 a = -1
  · obtain ⟨s1, b1, b2, b3⟩ := zw_copy (N := N) (by omega) hW hC.ca (show 17 ≤ 24 by decide)
    obtain ⟨s2, c1, c2, c3⟩ := zw_cpy4 s1 32 25
    have a2 : zag zWC σ s2 := zag_t (zag_w (by simp) b2) (zag_w (by simp) c2)
    have hc2 := hC.frC a2
    have ca2 : CA 24 (α 0 2) (α 6) (zdg a) (α 8) (α 9) s2 := by
      refine ⟨by rw [(c2 24 0 (by decide) (by decide)).1]; exact b3.1, fun s hs => ?_⟩
      obtain ⟨q1, q2, q3, q4⟩ := b3.2 s hs
      refine ⟨?_, ?_, ?_, ?_⟩
      · show s2.1 25 s = _
        rw [c3 s hs, (b2 32 s (by decide) (by simp)).1]; exact hp s hs
      · rw [(c2 (24 + 2) s (by decide) (by simp)).1]; exact q2
      · rw [(c2 (24 + 3) s (by decide) (by simp)).1]; exact q3
      · rw [(c2 (24 + 4) s (by decide) (by simp)).1]; exact q4
    obtain ⟨s3, d1, d2, d3⟩ := zw_takeLeast (N := N) (by omega) hW hc2
    have a3 : zag zWC σ s3 := zag_t a2 (zag_w (by simp) d2)
    have hc3 := hC.frC a3
    have ca3 : ZSd α (zka α a) 24 s3 := ZSd.fr (ca2.sd hW.1.2.2.1 (Nat.le_refl _) hW.2.2.2.2.2.1.1 (zdg_le a)) d2 (fun d hd => ⟨by simp; omega, fun i _ => by simp⟩)
    obtain ⟨s4, f1, f2, f3, f4⟩ := zw_settleC hN (Or.inr (by decide) : zwc 24) hW (zka_KW hW a) hc3 ca3 d3
    have zs4 : zag [(17, none), (18, none), (19, none), (20, none), (21, none), (22, none), (24, none), (25, none), (26, none), (27, none), (28, none), (29, none), (32, none)] σ s4 := by
      intro k i h1 h2
      have e4 := f2 k i (fun q => h1 (by simp at q ⊢; omega)) (fun q => by simp at q h1; omega)
      have e3 := d2 k i (fun q => h1 (by simp at q ⊢; omega)) (by simp)
      have e2 := c2 k i (fun q => h1 (by simp at q ⊢; omega)) (by simp)
      have e1 := b2 k i (fun q => h1 (by simp at q ⊢; omega)) (fun q => by simp at q h1; omega)
      exact ⟨e4.1.trans (e3.1.trans (e2.1.trans e1.1)), e4.2.trans (e3.2.trans (e2.2.trans e1.2))⟩
    have pre : f_X1_measure_20 N σ = zbd (f_X2_settle N 24 s3) fun r9 s10 => if r9 = (-9 : Int32) then ((zast s10 30 625 (nI a) (-9 : Int32)).bind fun s13 => f_X1_measure_102 N (nI a) s13) else (zbd (f_X1_weighRest N (nI a) s10) fun r11 s12 => f_X1_measure_102 N (nI a) s12) := by
      unfold f_X1_measure_20
      rw [zw_place (by omega) ha hp]
      unfold zbd
      rw [Option.bind_some]
      try simp only
      rw [zald_nI ha (by decide), Option.bind_some, if_pos hm, b1, Option.bind_some]
      try simp only
      rw [c1, Option.bind_some, d1, Option.bind_some]
    have hF4 := hF.mv zs4
    have e30 : ∀ b, s4.1 30 b = σ.1 30 b := fun b => (zs4 30 b (by decide) (by simp)).1
    have e31 : ∀ b, s4.1 31 b = σ.1 31 b := fun b => (zs4 31 b (by decide) (by simp)).1
    rw [f1] at pre
    unfold zbd at pre
    rw [Option.bind_some] at pre
    cases hr : zrest α (zka α a) with
    | none =>
      have hE : zEv α a = none := by unfold zEv zEk; rw [hr]; rfl
      rw [hr] at pre
      simp only at pre
      rw [if_pos (show zro none = -9 from rfl), zast_nI ha (by decide), Option.bind_some] at pre
      unfold f_X1_measure_102 at pre
      have ra : ZRt α a (zuI s4 30 a (-9)) := ZRt.none hE zuI_s
      have rb : ∀ b, b ≠ a → (zuI s4 30 a (-9)).1 30 b = s4.1 30 b ∧ (zuI s4 30 a (-9)).1 31 b = s4.1 31 b := fun b hb => ⟨zuI_n (fun q => hb q.2), zuI_n (by simp)⟩
      refine ⟨_, pre, f3.frC (zag_w (W1 := [(30, none)]) (by simp) (zag_all zag_uI)), ⟨by rw [zuI_n (by simp)]; exact hF4.1, fun b hb => ?_⟩, ra, fun b hb => ?_⟩
      · by_cases e : b = a
        · subst e; exact Or.inr ra
        · rcases hF4.2 b hb with q | q
          · exact Or.inl (by rw [(rb b e).1]; exact q)
          · exact Or.inr (q.mv (rb b e))
      · by_cases e : b = a
        · subst e; exact ra
        · exact hb.mv ⟨(rb b e).1.trans (e30 b), (rb b e).2.trans (e31 b)⟩
    | some k =>
      have hk := zrest_le hr
      have hE : zEv α a = some (zex α (zit α (zka α a) k), zsu α (zit α (zka α a) k)) := by unfold zEv zEk; rw [hr]; rfl
      have hcc := f4 k hr
      obtain ⟨s5, g1, g2, g3, g4⟩ := zw_weighRest (N := N) (by omega) hW (VW.it hW (zka_KW hW a) k) hcc.1 hcc.2.2.2 ha
      have gf := fr_X1_weighRest g1
      rw [hr] at pre
      simp only at pre
      rw [if_neg (zro_some (by omega)), g1, Option.bind_some] at pre
      unfold f_X1_measure_102 at pre
      simp only at pre gf
      have ra : ZRt α a s5 := ZRt.some hE ⟨g2, g3⟩
      refine ⟨_, pre, f3.frC (zag_w (by simp) gf), ⟨by rw [(gf 23 14 (by decide) (by decide)).1]; exact hF4.1, fun b hb => ?_⟩, ra, fun b hb => ?_⟩
      · by_cases e : b = a
        · subst e; exact Or.inr ra
        · rcases hF4.2 b hb with q | q
          · exact Or.inl (by rw [(g4 b e).1]; exact q)
          · exact Or.inr (q.mv (g4 b e))
      · by_cases e : b = a
        · subst e; exact ra
        · exact hb.mv ⟨(g4 b e).1.trans (e30 b), (g4 b e).2.trans (e31 b)⟩
  · have hr : ZRt α a σ := (hF.2 a ha).resolve_left hm
    refine ⟨σ, ?_, hC, hF, hr, fun b hb => hb⟩
    unfold f_X1_measure_20
    rw [zw_place (by omega) ha hp]
    unfold zbd
    rw [Option.bind_some]
    try simp only
    rw [zald_nI ha (by decide), Option.bind_some, if_neg hm]
    rfl
theorem zw_measure {N : Nat} (hN : 700 < N) {α : AS} {σ : ZM} (hW : WF α) (hC : RC α σ) (hF : ChOK α σ) {a : Nat} (ha : a < 625) (hp : PK a σ) : ∃ σ', f_X1_measure N σ = some (nI a, σ') ∧ zag zWC σ σ' ∧ RC α σ' ∧ zFr α σ' ∧ ZRt α a σ' ∧ (σ.1 23 14 = 0 → ∀ b, ZRt α b σ → ZRt α b σ') := by
  by_cases h0 : σ.1 23 14 = 0
  · have hF : zFr α σ := by
      rcases hF with q | q
      · rw [h0] at q; exact absurd q (by decide)
      · exact q
    obtain ⟨s1, a1, a2, a3, a4, a5⟩ := zw_measure20 (N := N) (by omega) hW hC hF ha hp
    have e : f_X1_measure N σ = some (nI a, s1) := by unfold f_X1_measure; rw [if_pos h0]; exact a1
    exact ⟨s1, e, fr_X1_measure e, a2, a3, a4, fun _ => a5⟩
  · have f0 := zfill_ok N 30 625 (-1) σ (by decide) (by omega)
    have g0 := fr_J7_fill_53178 f0
    obtain ⟨s0, hs0⟩ : ∃ s, s = zuC σ 30 (fun i => if i < 625 then (-1 : Int32) else σ.1 30 i) := ⟨_, rfl⟩
    rw [← hs0] at f0
    have g0 : zag [(30, none)] σ s0 := by rw [hs0]; exact g0
    have z0 : ∀ s, s < 625 → s0.1 30 s = -1 := fun s hs => by rw [hs0]; simp [zuC, hs]
    have hC1 : RC α (zuI s0 23 14 0) := (hC.frC (zag_w (by simp) g0)).frC (zag_w (W1 := [(23, some 14)]) (by simp) zag_uI)
    have hF1 : zFr α (zuI s0 23 14 0) := ⟨zuI_s, fun b hb => Or.inl (by rw [zuI_n (by simp)]; exact z0 b hb)⟩
    have hp1 : PK a (zuI s0 23 14 0) := fun s hs => by rw [zuI_n (by simp), (g0 32 s (by decide) (by simp)).1]; exact hp s hs
    obtain ⟨s1, a1, a2, a3, a4, a5⟩ := zw_measure20 (N := N) (by omega) hW hC1 hF1 ha hp1
    have e : f_X1_measure N σ = some (nI a, s1) := by
      unfold f_X1_measure
      rw [if_neg h0, f0]
      unfold zbd
      rw [Option.bind_some]
      try simp only
      unfold zpZ
      rw [if_pos (Or.inl rfl), Option.bind_some]
      exact a1
    exact ⟨s1, e, fr_X1_measure e, a2, a3, a4, fun q => absurd q h0⟩
