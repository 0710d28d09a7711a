/-! ===== the class: sets, a round, rounds till rest ===== -/
theorem ztb_or1 {c t b : Nat} : (c ||| 2 ^ t).testBit b = (c.testBit b || decide (t = b)) := by
  rw [Nat.testBit_or, Nat.testBit_two_pow]
theorem zset_ext {c d : Nat} (hc : c < 1024) (hd : d < 1024) (h : ∀ b, b < 10 → c.testBit b = d.testBit b) : c = d := by
  apply Nat.eq_of_testBit_eq
  intro i
  by_cases hi : i < 10
  · exact h i hi
  · rw [Nat.testBit_lt_two_pow (Nat.lt_of_lt_of_le hc (Nat.pow_le_pow_right (n := 2) (i := 10) (by decide) (by omega))), Nat.testBit_lt_two_pow (Nat.lt_of_lt_of_le hd (Nat.pow_le_pow_right (n := 2) (i := 10) (by decide) (by omega)))]
theorem zw_union {N : Nat} (hN : 14 < N) {α : AS} {σ : ZM} {a1 : Nat} {p : Nat → Bool} (hn : α 0 0 ≤ 10) (h0 : σ.1 1 0 = nI (α 0 0)) (hp : zmask σ a1 p) {S : Nat} (hS : S < 1024) : ∃ R, f_X3_union N a1 10 (nI S) σ = some (nI R, σ) ∧ R < 1024 ∧ ∀ b, b < 10 → (R.testBit b = true ↔ ∃ m, m < α 0 0 ∧ S.testBit m = true ∧ p (10 * m + b) = true) := by
  obtain ⟨m', s', e1, e2, R, e3, e4, e5⟩ := zloopS (fun m (q : Int32 × Int32) => f_X3_union_5 N a1 10 m (nI S) q.1 q.2 σ)
    (fun i q => q.2 = nI i ∧ ∃ R, q.1 = nI R ∧ R < 1024 ∧ ∀ b, b < 10 → (R.testBit b = true ↔ ∃ m, m < i ∧ S.testBit m = true ∧ p (10 * m + b) = true)) (α 0 0) (by
    rintro m i ⟨x, y⟩ hi ⟨p1, R, p2, p3, p4⟩
    simp only at p1 p2
    subst p1 p2
    have hle : ¬ nI (α 0 0) ≤ nI i := nI_ge hi (by omega)
    by_cases hb : S.testBit i = true
    · have hb' : ¬ ((nI S >>> (nI i &&& 31)) &&& (1 : Int32)) = 0 := by rw [zbitZ (by omega) (by omega), hb]; simp
      obtain ⟨k, k1, k2, k3⟩ := hp i (by omega)
      refine ⟨(nI (R ||| k), nI (i + 1)), ?_, rfl, R ||| k, rfl, Nat.or_lt_two_pow (n := 10) p3 k2, fun b hb2 => ?_⟩
      · show b_X3_union_5 N a1 10 (f_X3_union_5 N a1 10 m) (nI S) (nI R) (nI i) σ = _
        unfold b_X3_union_5
        rw [h0, if_neg hle, if_neg hb', zald_nI (show i < 10 by omega) (by decide), Option.bind_some, k1, Option.bind_some, zorN (by omega) (by omega)]
        unfold f_X3_union_30
        rw [Option.bind_some, nI_1]
      · rw [Nat.testBit_or, Bool.or_eq_true, p4 b hb2, k3 b hb2]
        constructor
        · rintro (⟨t, t1, t2, t3⟩ | t)
          · exact ⟨t, by omega, t2, t3⟩
          · exact ⟨i, by omega, hb, t⟩
        · rintro ⟨t, t1, t2, t3⟩
          by_cases e : t = i
          · subst e; exact Or.inr t3
          · exact Or.inl ⟨t, by omega, t2, t3⟩
    · have hb' : ((nI S >>> (nI i &&& 31)) &&& (1 : Int32)) = 0 := by rw [zbitZ (by omega) (by omega)]; simpa using hb
      refine ⟨(nI R, nI (i + 1)), ?_, rfl, R, rfl, p3, fun b hb2 => ?_⟩
      · show b_X3_union_5 N a1 10 (f_X3_union_5 N a1 10 m) (nI S) (nI R) (nI i) σ = _
        unfold b_X3_union_5
        rw [h0, if_neg hle, if_pos hb']
        unfold f_X3_union_30
        rw [Option.bind_some, nI_1]
      · rw [p4 b hb2]
        constructor
        · rintro ⟨t, t1, t2, t3⟩; exact ⟨t, by omega, t2, t3⟩
        · rintro ⟨t, t1, t2, t3⟩
          refine ⟨t, ?_, t2, t3⟩
          have : t ≠ i := fun e => hb (e ▸ t2)
          omega) N 0 (0, 0) (by omega) (by omega) ⟨rfl, 0, rfl, by decide, fun b _ => ⟨fun q => by simp at q, fun ⟨t, ht, _⟩ => absurd ht (Nat.not_lt_zero t)⟩⟩
  obtain ⟨x, y⟩ := s'
  simp only at e1 e2 e3
  subst e2 e3
  refine ⟨R, ?_, e4, e5⟩
  unfold f_X3_union
  have e1 : f_X3_union_5 N a1 10 N (nI S) 0 0 σ = f_X3_union_5 N a1 10 (m' + 1) (nI S) (nI R) (nI (α 0 0)) σ := e1
  rw [e1]
  show b_X3_union_5 N a1 10 (f_X3_union_5 N a1 10 m') (nI S) (nI R) (nI (α 0 0)) σ = _
  unfold b_X3_union_5
  rw [h0, if_pos (zle_self (by omega))]
/-- one net of a round -/
theorem zw_one {N : Nat} (hN : 14 < N) {α κ : AS} {w1 : Nat} {w : WD} {σ : ZM} (hw : zwc w1) (hW : WF α) (hK : KW α κ) (hV : VW α κ w) (h : CC α κ w1 w σ) {n : Nat} (hn : n < α 0 0) : ∃ σ1 σ2, f_X2_hear N w1 (nI n) σ = some ((), σ1) ∧ f_X2_pick N (nI n) σ1 = some (zen (zstep α κ w n), σ2) ∧ CC α κ w1 w σ2 ∧ ZH κ w n (zls (zoffr α κ w n) 14) σ2 ∧ ZR (zrk α κ w n) (zls (zoffr α κ w n) 14) σ2 ∧ zag [(17, some 5), (21, none), (22, none)] σ σ2 := by
  obtain ⟨σ1, a1, a2, a3⟩ := zw_hear hN hw hW hK hV h hn
  obtain ⟨σ2, b1, b2, b3⟩ := zw_pick hN hw hW hK hV a2 hn (zls_len _ 14) (fun c => zls_mem 14) a3
  have f1 := fr_X2_hear a1
  refine ⟨σ1, σ2, a1, b1, a2.fr hw hW.1.1 (zag_w (by simp) b2), ⟨?_, fun j c hc => ?_⟩, b3, zag_t (s1 := σ1) (zag_w (by simp) f1) (zag_w (by simp) b2)⟩
  · rw [(b2 17 5 (by decide) (by decide)).1]; exact a3.1
  · rw [(b2 21 j (by decide) (by simp)).2]; exact a3.2 j c hc
def zmix (i : Nat) (v w : WD) : WD := fun n => if n < i then v n else w n
theorem zw_takeFresh {N : Nat} (hN : 14 < N) {α κ : AS} {w1 : Nat} {w : WD} {σ : ZM} (hw : zwc w1) (hW : WF α) (hK : KW α κ) (hV : VW α κ w) (h : CC α κ w1 w σ) {S : Nat} (hS : S < 1024) (hF : ∀ t, t < α 0 0 → S.testBit t = true → σ.2 20 t = zen (zstep α κ w t)) (hO : ∀ t, t < α 0 0 → S.testBit t = false → zstep α κ w t = w t) : ∃ c σ', f_X2_takeFresh N (nI S) σ = some (nI c, σ') ∧ c < 1024 ∧ (∀ b, b < 10 → (c.testBit b = true ↔ b < α 0 0 ∧ zstep α κ w b ≠ w b)) ∧ CC α κ w1 (zstep α κ w) σ' := by
  have hn0 := hW.1.1
  have hV2 := hV.step hW hK
  obtain ⟨m', s', e1, e2, c, e3, e4, e5, e6, e7⟩ := zloopS (fun m (q : Int32 × Int32 × ZM) => f_X2_takeFresh_4 N m (nI S) q.1 q.2.1 q.2.2)
    (fun i q => q.2.1 = nI i ∧ ∃ c, q.1 = nI c ∧ c < 1024 ∧ (∀ b, b < 10 → (c.testBit b = true ↔ b < i ∧ zstep α κ w b ≠ w b)) ∧ zag [(19, none)] σ q.2.2 ∧ ∀ n, n < 10 → q.2.2.2 19 n = zen (zmix i (zstep α κ w) w n)) (α 0 0) (by
    rintro m i ⟨x, y, s⟩ hi ⟨p1, c, p2, p3, p4, p5, p6⟩
    simp only at p1 p2 p5 p6
    subst p1 p2
    have hle : ¬ nI (α 0 0) ≤ nI i := nI_ge hi (by omega)
    have hnets : s.1 1 0 = nI (α 0 0) := by rw [(p5 1 0 (by decide) (by decide)).1]; exact h.1.nets
    have h19 : s.2 19 i = zen (w i) := by rw [p6 i (by omega)]; unfold zmix; rw [if_neg (by omega)]
    have same : zstep α κ w i = w i → ∀ n, n < 10 → s.2 19 n = zen (zmix (i + 1) (zstep α κ w) w n) := by
      intro e n hn
      rw [p6 n hn]
      unfold zmix
      by_cases h1 : n < i
      · rw [if_pos h1, if_pos (by omega)]
      · rw [if_neg h1]
        by_cases h2 : n = i
        · subst h2; rw [if_pos (by omega), e]
        · rw [if_neg (by omega)]
    have cs : zstep α κ w i = w i → ∀ b, b < 10 → (c.testBit b = true ↔ b < i + 1 ∧ zstep α κ w b ≠ w b) := by
      intro e b hb
      rw [p4 b hb]
      constructor
      · rintro ⟨q1, q2⟩; exact ⟨by omega, q2⟩
      · rintro ⟨q1, q2⟩
        have : b ≠ i := fun z => q2 (z ▸ e)
        exact ⟨by omega, q2⟩
    by_cases hb : S.testBit i = true
    · have hb' : ¬ ((nI S >>> (nI i &&& 31)) &&& (1 : Int32)) = 0 := by rw [zbitZ (by omega) (by omega), hb]; simp
      have h20 : s.2 20 i = zen (zstep α κ w i) := by rw [(p5 20 i (by decide) (by simp)).2]; exact hF i hi hb
      by_cases he : zstep α κ w i = w i
      · refine ⟨(nI c, nI (i + 1), s), ?_, rfl, c, rfl, p3, cs he, p5, same he⟩
        show b_X2_takeFresh_4 N (f_X2_takeFresh_4 N m) (nI S) (nI c) (nI i) s = _
        unfold b_X2_takeFresh_4
        rw [hnets, if_neg hle, if_neg hb', zalJ_nI (show i < 10 by omega) (by decide), Option.bind_some, zalJ_nI (show i < 10 by omega) (by decide), Option.bind_some, h20, h19, if_pos (by rw [lg_eq0, he])]
        unfold f_X2_takeFresh_57
        rw [Option.bind_some, nI_1]
      · have hne : ¬ lg_cmp (zen (zstep α κ w i)) (zen (w i)) = 0 := by
          rw [lg_eq0]
          exact fun q => he (zen_inj (fun x hx => (hV2 i x hx).2.1) (fun x hx => (hV i x hx).2.1) q)
        refine ⟨(nI (c ||| 2 ^ i), nI (i + 1), zuJ s 19 i (zen (zstep α κ w i))), ?_, rfl, c ||| 2 ^ i, rfl, Nat.or_lt_two_pow (n := 10) p3 (Nat.pow_lt_pow_right (by decide) (by omega)), fun b hb2 => ?_, zag_t p5 (zag_all zag_uJ), fun n hn => ?_⟩
        · show b_X2_takeFresh_4 N (f_X2_takeFresh_4 N m) (nI S) (nI c) (nI i) s = _
          unfold b_X2_takeFresh_4
          rw [hnets, if_neg hle, if_neg hb', zalJ_nI (show i < 10 by omega) (by decide), Option.bind_some, zalJ_nI (show i < 10 by omega) (by decide), Option.bind_some, h20, h19, if_neg hne, Option.bind_some, zasJ_nI (show i < 10 by omega) (by decide), Option.bind_some, Option.bind_some, zone (by omega), zorN (by omega) (Nat.lt_of_lt_of_le (Nat.pow_lt_pow_right (a := 2) (by decide) (show i < 31 by omega)) (by decide))]
          unfold f_X2_takeFresh_57
          rw [Option.bind_some, nI_1]
        · rw [ztb_or1, Bool.or_eq_true, p4 b hb2, decide_eq_true_eq]
          constructor
          · rintro (⟨q1, q2⟩ | q)
            · exact ⟨by omega, q2⟩
            · subst q; exact ⟨by omega, he⟩
          · rintro ⟨q1, q2⟩
            by_cases z : i = b
            · exact Or.inr z
            · exact Or.inl ⟨by omega, q2⟩
        · by_cases z : n = i
          · subst z
            simp only [zuJ, if_true]
            rw [pk_uLs]
            unfold zmix; rw [if_pos (by omega)]
          · simp only [zuJ, if_true]
            rw [pk_uLn z, p6 n hn]
            unfold zmix
            by_cases h1 : n < i
            · rw [if_pos h1, if_pos (by omega)]
            · rw [if_neg h1, if_neg (by omega)]
    · have hb' : ((nI S >>> (nI i &&& 31)) &&& (1 : Int32)) = 0 := by rw [zbitZ (by omega) (by omega)]; simpa using hb
      have he := hO i hi (by simpa using hb)
      refine ⟨(nI c, nI (i + 1), s), ?_, rfl, c, rfl, p3, cs he, p5, same he⟩
      show b_X2_takeFresh_4 N (f_X2_takeFresh_4 N m) (nI S) (nI c) (nI i) s = _
      unfold b_X2_takeFresh_4
      rw [hnets, if_neg hle, if_pos hb']
      unfold f_X2_takeFresh_57
      rw [Option.bind_some, nI_1]) N 0 (0, 0, σ) (by omega) (by omega) ⟨rfl, 0, rfl, by decide, fun b _ => ⟨fun q => by simp at q, fun q => absurd q.1 (Nat.not_lt_zero b)⟩, zag_r, fun n hn => by rw [h.2.2.2 n hn]; unfold zmix; rw [if_neg (by omega)]⟩
  obtain ⟨x, y, s⟩ := s'
  simp only at e1 e2 e3 e6 e7
  subst e2 e3
  have hfr : RC α s := h.1.fr e6 (by decide +kernel) (by decide +kernel) (by decide +kernel) (by decide) (by decide)
  refine ⟨c, s, ?_, e4, e5, hfr, h.2.1.fr e6 ?_, fun n hn => ?_, fun n hn => ?_⟩
  · unfold f_X2_takeFresh
    have e1 : f_X2_takeFresh_4 N N (nI S) 0 0 σ = f_X2_takeFresh_4 N (m' + 1) (nI S) (nI c) (nI (α 0 0)) s := e1
    rw [e1]
    show b_X2_takeFresh_4 N (f_X2_takeFresh_4 N m') (nI S) (nI c) (nI (α 0 0)) s = _
    unfold b_X2_takeFresh_4
    rw [hfr.nets, if_pos (zle_self (by omega))]
  · intro d hd
    unfold zwc at hw
    exact ⟨by simp; omega, fun i _ => by simp⟩
  · rw [(e6 18 n (by decide) (by simp)).1]; exact h.2.2.1 n hn
  · rw [e7 n hn]
    unfold zmix
    by_cases h1 : n < α 0 0
    · rw [if_pos h1]
    · rw [if_neg h1]
      have a1 : w n = none := by
        cases hh : w n with
        | none => rfl
        | some x => exact absurd (hV n x hh).1 h1
      have a2 : zstep α κ w n = none := by unfold zstep; rw [if_neg h1]
      rw [a1, a2]
theorem zw_round {N : Nat} (hN : 14 < N) {α κ : AS} {w1 : Nat} {w : WD} {σ : ZM} (hw : zwc w1) (hW : WF α) (hK : KW α κ) (hV : VW α κ w) (h : CC α κ w1 w σ) {S : Nat} (hS : S < 1024) (hO : ∀ t, t < α 0 0 → S.testBit t = false → zstep α κ w t = w t) (rec18 : Int32 → Int32 → ZM → Option (Int32 × ZM)) (r : Int32) : ∃ c σ', c < 1024 ∧ (∀ b, b < 10 → (c.testBit b = true ↔ b < α 0 0 ∧ zstep α κ w b ≠ w b)) ∧ CC α κ w1 (zstep α κ w) σ' ∧ f_X2_settle_27 N w1 rec18 N (nI S) r 0 σ = if nI c = 0 then some (r, σ') else zbd (f_X3_union N 5 10 (nI c) σ') fun r4 s5 => rec18 r4 (r + 1) s5 := by
  have hn0 := hW.1.1
  obtain ⟨m', s', e1, e2, e3, e4⟩ := zloopS (fun m (q : Int32 × ZM) => f_X2_settle_27 N w1 rec18 m (nI S) r q.1 q.2)
    (fun i q => q.1 = nI i ∧ CC α κ w1 w q.2 ∧ ∀ t, t < i → S.testBit t = true → q.2.2 20 t = zen (zstep α κ w t)) (α 0 0) (by
    rintro m i ⟨x, s⟩ hi ⟨p1, p2, p3⟩
    simp only at p1 p2 p3
    subst p1
    have hle : ¬ nI (α 0 0) ≤ nI i := nI_ge hi (by omega)
    by_cases hb : S.testBit i = true
    · have hb' : ¬ ((nI S >>> (nI i &&& 31)) &&& (1 : Int32)) = 0 := by rw [zbitZ (by omega) (by omega), hb]; simp
      obtain ⟨s1, s2, a1, a2, a3, a4, a5, a6⟩ := zw_one hN hw hW hK hV p2 hi
      refine ⟨(nI (i + 1), zuJ s2 20 i (zen (zstep α κ w i))), ?_, rfl, a3.fr hw hn0 (zag_w (W1 := [(20, none)]) (by simp) (zag_all zag_uJ)), fun t ht hbt => ?_⟩
      · show b_X2_settle_27 N w1 rec18 (f_X2_settle_27 N w1 rec18 m) (nI S) r (nI i) s = _
        unfold b_X2_settle_27
        rw [p2.1.nets, if_neg hle, if_neg hb', a1]
        unfold zbd
        rw [Option.bind_some]
        simp only
        rw [a2, Option.bind_some]
        simp only
        rw [zasJ_nI (show i < 10 by omega) (by decide), Option.bind_some]
        unfold f_X2_settle_68
        rw [Option.bind_some, nI_1]
      · by_cases z : t = i
        · subst z
          simp only [zuJ, if_true]
          rw [pk_uLs]
        · simp only [zuJ, if_true]
          rw [pk_uLn z, (a6 20 t (by decide) (by simp)).2]
          exact p3 t (by omega) hbt
    · have hb' : ((nI S >>> (nI i &&& 31)) &&& (1 : Int32)) = 0 := by rw [zbitZ (by omega) (by omega)]; simpa using hb
      refine ⟨(nI (i + 1), s), ?_, rfl, p2, fun t ht hbt => ?_⟩
      · show b_X2_settle_27 N w1 rec18 (f_X2_settle_27 N w1 rec18 m) (nI S) r (nI i) s = _
        unfold b_X2_settle_27
        rw [p2.1.nets, if_neg hle, if_pos hb']
        unfold f_X2_settle_68
        rw [Option.bind_some, nI_1]
      · have : t ≠ i := fun z => hb (z ▸ hbt)
        exact p3 t (by omega) hbt) N 0 (0, σ) (by omega) (by omega) ⟨rfl, h, fun t ht => absurd ht (Nat.not_lt_zero t)⟩
  obtain ⟨x, s⟩ := s'
  simp only at e1 e2 e3 e4
  subst e2
  obtain ⟨c, σ', t1, t2, t3, t4⟩ := zw_takeFresh hN hw hW hK hV e3 hS e4 hO
  refine ⟨c, σ', t2, t3, t4, ?_⟩
  rw [e1]
  show b_X2_settle_27 N w1 rec18 (f_X2_settle_27 N w1 rec18 m') (nI S) r (nI (α 0 0)) s = _
  unfold b_X2_settle_27
  rw [e3.1.nets, if_pos (zle_self (by omega)), t1]
  rfl
theorem zsame_step {α κ : AS} {w : WD} (hn0 : α 0 0 ≤ 10) (hV : ∀ n, ¬ n < α 0 0 → w n = none) : zsame (zstep α κ w) w = true ↔ ∀ b, b < 10 → ¬ (b < α 0 0 ∧ zstep α κ w b ≠ w b) := by
  rw [zsame_iff]
  constructor
  · intro h b hb q; exact q.2 (h b hb)
  · intro h b hb
    by_cases hh : b < α 0 0
    · by_cases e : zstep α κ w b = w b
      · exact e
      · exact absurd ⟨hh, e⟩ (h b hb)
    · rw [hV b hh]; unfold zstep; rw [if_neg hh]
theorem zw_settle18 {N : Nat} (hN : 14 < N) {α κ : AS} {w1 : Nat} (hw : zwc w1) (hW : WF α) (hK : KW α κ) : ∀ (f r m S : Nat) (σ : ZM), f + r = 41 → f < m → CC α κ w1 (zit α κ r) σ → S < 1024 → (∀ t, t < α 0 0 → S.testBit t = false → zstep α κ (zit α κ r) t = zit α κ r t) → ∃ σ', f_X2_settle_18 N w1 m (nI S) (nI r) σ = some ((match zrs α κ f r with | some k => nI k | none => -9), σ') ∧ ∀ k, zrs α κ f r = some k → CC α κ w1 (zit α κ k) σ' := by
  have hn0 := hW.1.1
  intro f
  induction f with
  | zero =>
    intro r m S σ h1 h2 h3 h4 h5
    obtain ⟨m, rfl⟩ : ∃ k, m = k + 1 := ⟨m - 1, by omega⟩
    refine ⟨σ, ?_, fun k hk => by cases hk⟩
    show b_X2_settle_18 N w1 (f_X2_settle_18 N w1 m) (nI S) (nI r) σ = _
    unfold b_X2_settle_18
    rw [show r = 41 by omega, if_pos (show (40 : Int32) < nI 41 by decide)]
    rfl
  | succ f ih =>
    intro r m S σ h1 h2 h3 h4 h5
    obtain ⟨m, rfl⟩ : ∃ k, m = k + 1 := ⟨m - 1, by omega⟩
    have hV := VW.it (α := α) (κ := κ) hW hK r
    obtain ⟨c, s, c1, c2, c3, c4⟩ := zw_round hN hw hW hK hV h3 h4 h5 (f_X2_settle_18 N w1 m) (nI r)
    have e0 : f_X2_settle_18 N w1 (m + 1) (nI S) (nI r) σ = if nI c = 0 then some (nI r, s) else zbd (f_X3_union N 5 10 (nI c) s) fun r4 s5 => f_X2_settle_18 N w1 m r4 (nI r + 1) s5 := by
      rw [← c4]
      show b_X2_settle_18 N w1 (f_X2_settle_18 N w1 m) (nI S) (nI r) σ = _
      unfold b_X2_settle_18
      rw [if_neg (show ¬ (40 : Int32) < nI r by rw [show (40 : Int32) = nI 40 from rfl]; exact nI_nlt (by omega) (by decide))]
    have hss := zsame_step (α := α) (κ := κ) (w := zit α κ r) hn0 (fun n hn => zit_out hn r)
    by_cases hc : c = 0
    · have hs : zsame (zit α κ (r + 1)) (zit α κ r) = true := hss.mpr (fun b hb q => by
        have := (c2 b hb).mpr q
        rw [hc] at this; simp at this)
      have hz : zrs α κ (f + 1) r = some r := by unfold zrs; rw [if_pos hs]
      refine ⟨s, ?_, fun k hk => ?_⟩
      · rw [e0, hc, if_pos (show nI 0 = 0 from rfl), hz]
      · rw [hz] at hk; cases hk
        refine ⟨c3.1, c3.2.1, c3.2.2.1, fun n hn => ?_⟩
        rw [c3.2.2.2 n hn]
        exact congrArg zen (zsame_iff.mp hs n hn)
    · have hs : ¬ zsame (zit α κ (r + 1)) (zit α κ r) = true := fun q => hc (zset_ext c1 (by decide) (fun b hb => by
        have h6 := hss.mp q b hb
        rw [← c2 b hb] at h6
        rw [Nat.zero_testBit]; simpa using h6))
      have hz : zrs α κ (f + 1) r = zrs α κ f (r + 1) := by
        conv => lhs; unfold zrs
        rw [if_neg hs]
      obtain ⟨R, u1, u2, u3⟩ := zw_union hN (α := α) (σ := s) hn0 c3.1.nets c3.1.2.2.2.1 c1
      obtain ⟨σ', i1, i2⟩ := ih (r + 1) m R s (by omega) (by omega) c3 u2 (fun t ht hb => by
        show zstep α κ (zstep α κ (zit α κ r)) t = zstep α κ (zit α κ r) t
        apply zstep_same hW
        intro q hq hq2
        by_cases hq3 : q < α 0 0
        · by_cases e : zstep α κ (zit α κ r) q = zit α κ r q
          · exact e
          · have h7 := (u3 t (by omega)).mpr ⟨q, hq3, (c2 q hq).mpr ⟨hq3, e⟩, by simpa using hq2⟩
            rw [hb] at h7; cases h7
        · exact absurd (hW.2.1.2.2.2 q t hq (by omega) (by omega)) hq2)
      refine ⟨σ', ?_, fun k hk => i2 k (hz ▸ hk)⟩
      rw [e0, if_neg (zk0 hc), u1, hz]
      unfold zbd
      rw [Option.bind_some, nI_1]
      exact i1
