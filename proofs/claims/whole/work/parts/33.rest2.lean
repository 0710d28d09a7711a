/-! ===== the reference: rounds till rest ===== -/
theorem MC.mb {α κ : AS} {w : WD} {σ : ZM} (h : MC α κ w σ) : MB α κ σ := ⟨h.1, h.2.1, h.2.2.1⟩
theorem zw_lay {N : Nat} (hN : 14 < N) {α κ : AS} {w : WD} {σ : ZM} (hW : WF α) (hK : KW α κ) (hV : VW α κ w) (h : MC α κ w σ) (rec53 : Int32 → ZM → Option (Int32 × ZM)) (x : Int32) : ∃ σ', f_X9_settle_70 N rec53 N x 0 σ = f_X9_settle_91 N rec53 N x 0 σ' ∧ MC α κ w σ' ∧ σ'.1 0 30 = σ.1 0 30 ∧ ∀ t, t < α 0 0 → MW1 22 (zstep α κ w t) t σ' := by
  have hn0 := hW.1.1
  have hV2 := hV.step hW hK
  obtain ⟨m', s', e1, e2, e3, e4, e5⟩ := zloopS (fun m (q : Int32 × ZM) => f_X9_settle_70 N rec53 m x q.1 q.2)
    (fun i q => q.1 = nI i ∧ MC α κ w q.2 ∧ q.2.1 0 30 = σ.1 0 30 ∧ ∀ t, t < i → MW1 22 (zstep α κ w t) t q.2) (α 0 0) (by
    rintro m i ⟨y, s⟩ hi ⟨p1, p2, p3, p4⟩
    simp only at p1 p2 p3 p4
    subst p1
    obtain ⟨s1, a1, a2, a3⟩ := zw_layNext hN hW hK hV p2 hi
    have mb := p2.mb.fr a2.w22
    refine ⟨(nI (i + 1), s1), ?_, rfl, ⟨mb.1, mb.2.1, mb.2.2, fun t ht => (p2.2.2.2 t ht).fr (fun z hz => (hV t z hz).2.1.2.2.2.2.1) a2 (by omega)⟩, ?_, fun t ht => ?_⟩
    · show b_X9_settle_70 N rec53 (f_X9_settle_70 N rec53 m) x (nI i) s = _
      unfold b_X9_settle_70
      rw [p2.1.nets, if_neg (nI_ge hi (by omega)), a1]
      unfold zbd
      rw [Option.bind_some]
      simp only
      rw [Option.bind_some, nI_1]
    · show s1.1 0 30 = _
      rw [a2.1 0 30 (by omega) (by omega)]; exact p3
    · by_cases e : t = i
      · subst e; exact a3
      · exact (p4 t (by omega)).fr (fun z hz => (hV2 t z hz).2.1.2.2.2.2.1) a2 (by omega)) N 0 (0, σ) (by omega) (by omega) ⟨rfl, h, rfl, fun t ht => absurd ht (Nat.not_lt_zero t)⟩
  obtain ⟨y, s⟩ := s'
  simp only at e1 e2 e3 e4 e5
  subst e2
  refine ⟨s, ?_, e3, e4, e5⟩
  rw [e1]
  show b_X9_settle_70 N rec53 (f_X9_settle_70 N rec53 m') x (nI (α 0 0)) s = _
  unfold b_X9_settle_70
  rw [e3.1.nets, if_pos (zle_self (by omega))]
theorem zw_roundM {N : Nat} (hN : 14 < N) {α κ : AS} {w : WD} {σ : ZM} (hW : WF α) (hK : KW α κ) (hV : VW α κ w) (h : MC α κ w σ) (rec53 : Int32 → ZM → Option (Int32 × ZM)) : ∃ x σ', zflg x (∃ t, t < α 0 0 ∧ zstep α κ w t ≠ w t) ∧ MC α κ (zstep α κ w) σ' ∧ σ'.1 0 30 = σ.1 0 30 + x ∧ f_X9_settle_70 N rec53 N 0 0 σ = rec53 x σ' := by
  have hn0 := hW.1.1
  have hV2 := hV.step hW hK
  obtain ⟨σ1, l1, l2, l3, l4⟩ := zw_lay hN hW hK hV h rec53 0
  obtain ⟨m', s', e1, e2, e3, e4, e5, e6, e7, e8⟩ := zloopS (fun m (q : Int32 × Int32 × ZM) => f_X9_settle_91 N rec53 m q.1 q.2.1 q.2.2)
    (fun i q => q.2.1 = nI i ∧ zflg q.1 (∃ t, t < i ∧ zstep α κ w t ≠ w t) ∧ MB α κ q.2.2 ∧ q.2.2.1 0 30 = σ.1 0 30 ∧ (∀ t, i ≤ t → t < α 0 0 → MW1 17 (w t) t q.2.2) ∧ (∀ t, t < i → MW1 17 (zstep α κ w t) t q.2.2) ∧ ∀ t, t < α 0 0 → MW1 22 (zstep α κ w t) t q.2.2) (α 0 0) (by
    rintro m i ⟨f, y, s⟩ hi ⟨p1, p2, p3, p4, p5, p6, p7⟩
    simp only at p1 p2 p3 p4 p5 p6 p7
    subst p1
    obtain ⟨g, s1, a1, a2, a3, a4⟩ := zw_takeNext hN (show i < 10 by omega) (fun z hz => (hV2 i z hz).2.1) (fun z hz => (hV i z hz).2.1) (p7 i hi) (p5 i (Nat.le_refl i) hi)
    have key : ∀ f', zflg f' (∃ t, t < i + 1 ∧ zstep α κ w t ≠ w t) → b_X9_settle_91 N rec53 (f_X9_settle_91 N rec53 m) f (nI i) s = f_X9_settle_91 N rec53 m f' (nI (i + 1)) s1 → ∃ q' : Int32 × Int32 × ZM, f_X9_settle_91 N rec53 (m + 1) f (nI i) s = f_X9_settle_91 N rec53 m q'.1 q'.2.1 q'.2.2 ∧ q'.2.1 = nI (i + 1) ∧ zflg q'.1 (∃ t, t < i + 1 ∧ zstep α κ w t ≠ w t) ∧ MB α κ q'.2.2 ∧ q'.2.2.1 0 30 = σ.1 0 30 ∧ (∀ t, i + 1 ≤ t → t < α 0 0 → MW1 17 (w t) t q'.2.2) ∧ (∀ t, t < i + 1 → MW1 17 (zstep α κ w t) t q'.2.2) ∧ ∀ t, t < α 0 0 → MW1 22 (zstep α κ w t) t q'.2.2 := by
      intro f' hf he
      refine ⟨(f', nI (i + 1), s1), he, rfl, hf, p3.fr a3.w17, ?_, fun t h1 h2 => (p5 t (by omega) h2).fr (fun z hz => (hV t z hz).2.1.2.2.2.2.1) a3 (by omega), fun t ht => ?_, fun t ht => (p7 t ht).fr (fun z hz => (hV2 t z hz).2.1.2.2.2.2.1) a3 (by omega)⟩
      · show s1.1 0 30 = _
        rw [a3.1 0 30 (by omega) (by omega)]; exact p4
      · by_cases e : t = i
        · subst e; exact a4
        · exact (p6 t (by omega)).fr (fun z hz => (hV2 t z hz).2.1.2.2.2.2.1) a3 (by omega)
    have hb : b_X9_settle_91 N rec53 (f_X9_settle_91 N rec53 m) f (nI i) s = if g = 0 then f_X9_settle_91 N rec53 m f (nI (i + 1)) s1 else f_X9_settle_91 N rec53 m 1 (nI (i + 1)) s1 := by
      unfold b_X9_settle_91
      rw [p3.1.nets, if_neg (nI_ge hi (by omega)), a1]
      unfold zbd f_X9_settle_109
      rw [Option.bind_some]
      simp only
      rw [Option.bind_some, Option.bind_some, nI_1]
    rcases a2 with ⟨g1, q⟩ | ⟨g0, q⟩
    · refine key 1 (Or.inl ⟨rfl, i, by omega, q⟩) ?_
      rw [hb, g1, if_neg (by decide)]
    · refine key f (p2.congr ⟨fun ⟨t, h1, h2⟩ => ⟨t, by omega, h2⟩, fun ⟨t, h1, h2⟩ => ⟨t, ?_, h2⟩⟩) ?_
      · have : t ≠ i := fun e => by subst e; exact q h2
        omega
      · rw [hb, g0, if_pos rfl]) N 0 (0, 0, σ1) (by omega) (by omega) ⟨rfl, Or.inr ⟨rfl, fun ⟨t, ht, _⟩ => absurd ht (Nat.not_lt_zero t)⟩, l2.mb, l3, fun t _ ht => l2.2.2.2 t ht, fun t ht => absurd ht (Nat.not_lt_zero t), l4⟩
  obtain ⟨f, y, s⟩ := s'
  simp only at e1 e2 e3 e4 e5 e6 e7 e8
  subst e2
  have mb : MB α κ (zuI s 0 30 (s.1 0 30 + f)) := e4.fr (zag_w (W1 := [(0, some 30)]) (by simp) zag_uI)
  have ww : ∀ t, t < α 0 0 → MW1 17 (zstep α κ w t) t (zuI s 0 30 (s.1 0 30 + f)) := by
    intro t ht
    have q := e7 t ht
    have r : ∀ k j, k ≠ 0 → (zuI s 0 30 (s.1 0 30 + f)).1 k j = s.1 k j := fun k j hk => zuI_n (fun z => hk z.1)
    cases hz : zstep α κ w t with
    | none =>
      rw [hz] at q
      exact ⟨by rw [r _ _ (by decide)]; exact q.1, by rw [r _ _ (by decide)]; exact q.2.1, by rw [r _ _ (by decide)]; exact q.2.2.1, by rw [r _ _ (by decide)]; exact q.2.2.2⟩
    | some x =>
      rw [hz] at q
      exact ⟨by rw [r _ _ (by decide)]; exact q.1, by rw [r _ _ (by decide)]; exact q.2.1, by rw [r _ _ (by decide)]; exact q.2.2.1, by rw [r _ _ (by decide)]; exact q.2.2.2.1, fun i a ha => by rw [r _ _ (by decide)]; exact q.2.2.2.2 i a ha⟩
  refine ⟨f, zuI s 0 30 (s.1 0 30 + f), e3, ⟨mb.1, mb.2.1, mb.2.2, ww⟩, by rw [zuI_s, e5], ?_⟩
  rw [l1]
  have e1 : f_X9_settle_91 N rec53 N 0 0 σ1 = f_X9_settle_91 N rec53 (m' + 1) f (nI (α 0 0)) s := e1
  rw [e1]
  show b_X9_settle_91 N rec53 (f_X9_settle_91 N rec53 m') f (nI (α 0 0)) s = _
  unfold b_X9_settle_91
  rw [e4.1.nets, if_pos (zle_self (by omega))]
  rcases e3 with ⟨f1, -⟩ | ⟨f0, -⟩
  · rw [f1, if_neg (by decide)]; rfl
  · rw [f0, if_pos rfl]; rfl
theorem zag_MC {α κ : AS} {w : WD} {σ : ZM} {j : Nat} {v : Int32} (hj : j = 30 ∨ j = 31) (h : MC α κ w σ) : MC α κ w (zuI σ 0 j v) := by
  have mb : MB α κ (zuI σ 0 j v) := h.mb.fr (zag_w (W1 := [(0, some j)]) (by rcases hj with rfl | rfl <;> simp) zag_uI)
  refine ⟨mb.1, mb.2.1, mb.2.2, fun t ht => ?_⟩
  have q := h.2.2.2 t ht
  have r : ∀ k i, k ≠ 0 → (zuI σ 0 j v).1 k i = σ.1 k i := fun k i hk => zuI_n (fun z => hk z.1)
  cases hz : w t with
  | none =>
    rw [hz] at q
    exact ⟨by rw [r _ _ (by decide)]; exact q.1, by rw [r _ _ (by decide)]; exact q.2.1, by rw [r _ _ (by decide)]; exact q.2.2.1, by rw [r _ _ (by decide)]; exact q.2.2.2⟩
  | some x =>
    rw [hz] at q
    exact ⟨by rw [r _ _ (by decide)]; exact q.1, by rw [r _ _ (by decide)]; exact q.2.1, by rw [r _ _ (by decide)]; exact q.2.2.1, by rw [r _ _ (by decide)]; exact q.2.2.2.1, fun i a ha => by rw [r _ _ (by decide)]; exact q.2.2.2.2 i a ha⟩
theorem zw_settle53 {N : Nat} (hN : 14 < N) {α κ : AS} (hW : WF α) (hK : KW α κ) : ∀ (f r m : Nat) (σ : ZM), f + r = 41 → f + 1 < m → MC α κ (zit α κ r) σ → σ.1 0 30 = nI r → ∃ σ', f_X9_settle_53 N m 1 σ = some (zbI ((zrs α κ f r).isSome = true), σ') ∧ ∀ k, zrs α κ f r = some k → MC α κ (zit α κ k) σ' ∧ σ'.1 0 30 = nI k := by
  have hn0 := hW.1.1
  intro f
  induction f with
  | zero =>
    intro r m σ h1 h2 h3 h4
    obtain ⟨m, rfl⟩ : ∃ k, m = k + 1 := ⟨m - 1, by omega⟩
    refine ⟨zuI σ 0 31 0, ?_, fun k hk => by cases hk⟩
    show b_X9_settle_53 N (f_X9_settle_53 N m) 1 σ = _
    unfold b_X9_settle_53 f_X9_settle_136
    rw [if_neg (show ¬ (1 : Int32) = 0 by decide), h4, show r = 41 by omega, if_pos (show (40 : Int32) < nI 41 by decide)]
    unfold f_X9_settle_151 zpZ
    rw [if_pos (Or.inl rfl), Option.bind_some, zuI_s]
    rfl
  | succ f ih =>
    intro r m σ h1 h2 h3 h4
    obtain ⟨m, rfl⟩ : ∃ k, m = k + 1 := ⟨m - 1, by omega⟩
    have hV := VW.it (α := α) (κ := κ) hW hK r
    obtain ⟨x, s, c1, c2, c3, c4⟩ := zw_roundM hN hW hK hV h3 (f_X9_settle_53 N m)
    have e0 : f_X9_settle_53 N (m + 1) 1 σ = f_X9_settle_53 N m x s := by
      rw [← c4]
      show b_X9_settle_53 N (f_X9_settle_53 N m) 1 σ = _
      unfold b_X9_settle_53
      rw [if_neg (show ¬ (1 : Int32) = 0 by decide), h4, if_neg (show ¬ (40 : Int32) < nI r by rw [show (40 : Int32) = nI 40 from rfl]; exact nI_nlt (by omega) (by decide))]
    have hss := zsame_step (α := α) (κ := κ) (w := zit α κ r) hn0 (fun n hn => zit_out hn r)
    rcases c1 with ⟨x1, t, ht, hd⟩ | ⟨x0, hno⟩
    · have hs : ¬ zsame (zit α κ (r + 1)) (zit α κ r) = true := fun q => hss.mp q t (by omega) ⟨ht, hd⟩
      have hz : zrs α κ (f + 1) r = zrs α κ f (r + 1) := by
        conv => lhs; unfold zrs
        rw [if_neg hs]
      obtain ⟨σ', i1, i2⟩ := ih (r + 1) m s (by omega) (by omega) c2 (by rw [c3, h4, x1, nI_1])
      refine ⟨σ', ?_, fun k hk => i2 k (hz ▸ hk)⟩
      rw [e0, x1, hz]; exact i1
    · have hs : zsame (zit α κ (r + 1)) (zit α κ r) = true := hss.mpr (fun b hb q => hno ⟨b, q.1, q.2⟩)
      have hz : zrs α κ (f + 1) r = some r := by unfold zrs; rw [if_pos hs]
      obtain ⟨m, rfl⟩ : ∃ k, m = k + 1 := ⟨m - 1, by omega⟩
      have h30 : s.1 0 30 = nI r := by rw [c3, h4, x0]; simp
      refine ⟨zuI s 0 31 1, ?_, fun k hk => ?_⟩
      · rw [e0, x0, hz]
        show b_X9_settle_53 N (f_X9_settle_53 N m) 0 s = _
        unfold b_X9_settle_53 f_X9_settle_136
        rw [if_pos rfl, h30, if_neg (show ¬ (40 : Int32) < nI r by rw [show (40 : Int32) = nI 40 from rfl]; exact nI_nlt (by omega) (by decide))]
        unfold f_X9_settle_151 zpZ
        rw [if_pos (Or.inr rfl), Option.bind_some, zuI_s]
        rfl
      · rw [hz] at hk; cases hk
        have := zag_MC (v := 1) (Or.inr rfl) c2
        refine ⟨⟨this.1, this.2.1, this.2.2.1, fun n hn => ?_⟩, by rw [zuI_n (by decide)]; exact h30⟩
        rw [← zsame_iff.mp hs n (by omega)]
        exact this.2.2.2 n hn
theorem zw_settleM {N : Nat} (hN : 50 < N) {α κ : AS} (hW : WF α) (hK : KW α κ) {σ : ZM} (h : MB α κ σ) : ∃ σ', f_X9_settle N σ = some (zbI ((zrest α κ).isSome = true), σ') ∧ zag zWM σ σ' ∧ ∀ k, zrest α κ = some k → MC α κ (zit α κ k) σ' ∧ σ'.1 0 30 = nI k := by
  have hn0 := hW.1.1
  have h0 : MB α κ (zuI σ 0 30 0) := h.fr (zag_w (W1 := [(0, some 30)]) (by simp) zag_uI)
  obtain ⟨m', s', e1, e2, e3, e4, e5⟩ := zloopS (fun m (q : Int32 × ZM) => f_X9_settle_7 N m q.1 q.2)
    (fun i q => q.1 = nI i ∧ MB α κ q.2 ∧ q.2.1 0 30 = 0 ∧ ∀ t, t < i → MW1 17 none t q.2) (α 0 0) (by
    rintro m i ⟨y, s⟩ hi ⟨p1, p2, p3, p4⟩
    simp only at p1 p2 p3 p4
    subst p1
    have hi10 : i < 10 := by omega
    have hag : zagN 17 i s (zuI (zuI (zuI (zuI s 17 i (-9)) 18 i 0) 19 i (-9)) 20 i 0) := (((zagN.u (by omega)).t (zagN.u (by omega))).t (zagN.u (by omega))).t (zagN.u (by omega))
    refine ⟨(nI (i + 1), zuI (zuI (zuI (zuI s 17 i (-9)) 18 i 0) 19 i (-9)) 20 i 0), ?_, rfl, p2.fr hag.w17, ?_, fun t ht => ?_⟩
    · show b_X9_settle_7 N (f_X9_settle_7 N m) (nI i) s = _
      unfold b_X9_settle_7
      rw [p2.1.nets, if_neg (nI_ge hi (by omega)), zast_nI hi10 (by decide), Option.bind_some, zast_nI hi10 (by decide), Option.bind_some, zast_nI hi10 (by decide), Option.bind_some, zast_nI hi10 (by decide), Option.bind_some, Option.bind_some, nI_1]
    · rw [hag.1 0 30 (by omega) (by omega)]; exact p3
    · by_cases e : t = i
      · subst e
        refine ⟨?_, ?_, ?_, ?_⟩ <;> simp [zuI_at]
      · exact (p4 t (by omega)).fr (fun x hx => by cases hx) hag (by omega)) N 0 (0, zuI σ 0 30 0) (by omega) (by omega) ⟨rfl, h0, zuI_s, fun t ht => absurd ht (Nat.not_lt_zero t)⟩
  obtain ⟨y, s⟩ := s'
  simp only at e1 e2 e3 e4 e5
  subst e2
  obtain ⟨σ', r1, r2⟩ := zw_settle53 (N := N) (by omega) hW hK 41 0 N s (by omega) (by omega) ⟨e3.1, e3.2.1, e3.2.2, fun n hn => e5 n hn⟩ e4
  have ef : f_X9_settle N σ = some (zbI ((zrest α κ).isSome = true), σ') := by
    unfold f_X9_settle zpI
    rw [Option.bind_some]
    have e1 : f_X9_settle_7 N N 0 (zuI σ 0 30 0) = f_X9_settle_7 N (m' + 1) (nI (α 0 0)) s := e1
    rw [e1]
    show b_X9_settle_7 N (f_X9_settle_7 N m') (nI (α 0 0)) s = _
    unfold b_X9_settle_7
    rw [e3.1.nets, if_pos (zle_self (by omega))]
    exact r1
  exact ⟨σ', ef, fr_X9_settle ef, r2⟩
