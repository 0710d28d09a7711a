/-! ===== next: the reference ===== -/
def zo6 (w : WD) : Nat → Nat
  | 0 => 0
  | n + 1 => 6 * zo6 w n + zsn (w n)
theorem zo6_eq {w v : WD} (hw : ∀ n, zsn (w n) ≤ 5) (hv : ∀ n, zsn (v n) ≤ 5) : ∀ k, zo6 w k = zo6 v k ↔ ∀ n, n < k → zsn (w n) = zsn (v n)
  | 0 => ⟨fun _ n h => absurd h (Nat.not_lt_zero n), fun _ => rfl⟩
  | k + 1 => by
    have ih := zo6_eq hw hv k
    have a := hw k
    have b := hv k
    show 6 * zo6 w k + zsn (w k) = 6 * zo6 v k + zsn (v k) ↔ _
    constructor
    · intro h n hn
      have e1 : zo6 w k = zo6 v k := by omega
      by_cases e : n = k
      · subst e; omega
      · exact ih.mp e1 n (by omega)
    · intro h
      have e1 := ih.mpr (fun n hn => h n (by omega))
      have e2 := h k (by omega)
      omega
theorem zo6_lt {w : WD} (hw : ∀ n, zsn (w n) ≤ 5) : ∀ k, zo6 w k < 6 ^ k
  | 0 => show (0 : Nat) < 6 ^ 0 by decide
  | k + 1 => by
    have := zo6_lt hw k
    have := hw k
    show 6 * zo6 w k + zsn (w k) < 6 ^ (k + 1)
    rw [Nat.pow_succ]
    omega
theorem zot_eq {w v : WD} (hw : ∀ n, zod (w n) ≤ 7) (hv : ∀ n, zod (v n) ≤ 7) (k : Nat) : zot w k = zot v k ↔ ∀ n, n < k → zod (w n) = zod (v n) := by
  constructor
  · intro h n hn
    rw [← zot_dig hw k hn, ← zot_dig hv k hn, h]
  · intro h
    have : ∀ j, j ≤ k → zot w j = zot v j := fun j => by
      induction j with
      | zero => intro _; rfl
      | succ j ih =>
        intro hj
        show zot w j + zod (w j) * 8 ^ j = zot v j + zod (v j) * 8 ^ j
        rw [ih (by omega), h j (by omega)]
    exact this k (Nat.le_refl _)
def zkv (α : AS) (s v c : Nat) : AS := zkap (α 0 2) (α 6) (fun t => if t = s then v else α 7 t) (α 8) (α 9) (zcr α c)
def zl6 (α : AS) (s v c : Nat) : Int64 := match zrest α (zkv α s v c) with
  | none => -1
  | some k => lN (zo6 (zit α (zkv α s v c) k) (α 0 0))
theorem zk7_le {α : AS} (hW : WF α) {s v : Nat} (hv : v ≤ 4) (t : Nat) : (fun t => if t = s then v else α 7 t) t ≤ 4 := by
  have := hW.2.2.2.2.2.1.2.1 t
  show (if t = s then v else α 7 t) ≤ 4
  split <;> omega
theorem zkv_KW {α : AS} (hW : WF α) {s v : Nat} (hv : v ≤ 4) (c : Nat) : KW α (zkv α s v c) := KW.mk hW (Nat.le_refl _) (zk7_le hW hv) hW.2.2.2.2.2.1.2.2.1 hW.2.2.2.2.2.1.2.2.2.1 (zcr_le α c)
theorem zl6_eq {α : AS} (hW : WF α) {s v : Nat} (hv : v ≤ 4) (c d : Nat) : zl6 α s v c = zl6 α s v d ↔ zoc α s v c = zoc α s v d := by
  have p6 : 6 ^ (α 0 0) ≤ 60466176 := Nat.pow_le_pow_right (n := 6) (i := α 0 0) (j := 10) (by decide) hW.1.1
  have m1 : ∀ x, x < 2 ^ 31 → ¬ lN x = (-1 : Int64) := fun x hx q => by
    have := congrArg Int64.toInt q
    rw [lN_toInt hx] at this
    have e : (-1 : Int64).toInt = -1 := rfl
    omega
  have oc : ∀ c, zoc α s v c = (zrest α (zkv α s v c)).map fun k => zot (zit α (zkv α s v c) k) (α 0 0) := fun c => rfl
  rw [oc, oc]
  unfold zl6
  have hVc := fun k => VW.it (κ := zkv α s v c) hW (zkv_KW hW hv c) k
  have hVd := fun k => VW.it (κ := zkv α s v d) hW (zkv_KW hW hv d) k
  cases hc : zrest α (zkv α s v c) with
  | none =>
    cases hd : zrest α (zkv α s v d) with
    | none => simp
    | some k =>
      have lt := zo6_lt (w := zit α (zkv α s v d) k) (fun n => (zsn_le (hVd k) n).1) (α 0 0)
      constructor
      · intro q; exact absurd q.symm (m1 _ (by omega))
      · intro q; simp at q
  | some j =>
    have lt1 := zo6_lt (w := zit α (zkv α s v c) j) (fun n => (zsn_le (hVc j) n).1) (α 0 0)
    cases hd : zrest α (zkv α s v d) with
    | none =>
      constructor
      · intro q; exact absurd q (m1 _ (by omega))
      · intro q; simp at q
    | some k =>
      have lt2 := zo6_lt (w := zit α (zkv α s v d) k) (fun n => (zsn_le (hVd k) n).1) (α 0 0)
      simp only [Option.map_some, Option.some.injEq]
      rw [lN_eq (by omega) (by omega), zo6_eq (fun n => (zsn_le (hVc j) n).1) (fun n => (zsn_le (hVd k) n).1), zot_eq (fun n => by have := zod_le (hVc j) n; omega) (fun n => by have := zod_le (hVd k) n; omega)]
      constructor
      · intro q n hn; exact (zod_sn (hVc j) (hVd k) n).mpr (q n hn)
      · intro q n hn; exact (zod_sn (hVc j) (hVd k) n).mp (q n hn)
abbrev zWG2 : List (Nat × Option Nat) := [(0, some 14), (0, some 30), (0, some 31), (12, none), (13, none), (14, none), (15, none), (16, none), (17, none), (18, none), (19, none), (20, none), (21, none), (22, none), (23, none), (24, none), (25, none), (26, none), (36, none)]
theorem RM.frG2 {α : AS} {σ σ' : ZM} (h : RM α σ) (hW : zag zWG2 σ σ') : RM α σ' := h.fr hW (by decide +kernel) ⟨⟨by decide, fun i => by simp⟩, ⟨by decide, fun i => by simp⟩⟩
theorem zw_told {N : Nat} (hN : 14 < N) {α κ : AS} {w : WD} {σ : ZM} (hW : WF α) (hV : VW α κ w) (hM : RM α σ) (hO : ∀ n, n < α 0 0 → MW1 17 (w n) n σ) {rcx : Int32 → Int32 → Int32 → ZM → Option (Int32 × ZM)} {x1 x2 x3 : Int32} : f_X9_greatestAlike_49 N rcx N x1 x2 x3 0 0 σ = f_X9_greatestAlike_97 N rcx x1 x2 x3 (lN (zo6 w (α 0 0))) σ := by
  have hn0 := hW.1.1
  have lp : ∀ k m i, i + k = α 0 0 → k < m → f_X9_greatestAlike_49 N rcx m x1 x2 x3 (lN (zo6 w i)) (nI i) σ = f_X9_greatestAlike_97 N rcx x1 x2 x3 (lN (zo6 w (α 0 0))) σ := by
    intro k
    induction k with
    | zero =>
      intro m i h1 h2
      obtain ⟨m, rfl⟩ : ∃ q, m = q + 1 := ⟨m - 1, by omega⟩
      have e : i = α 0 0 := by omega
      subst e
      show b_X9_greatestAlike_49 N rcx (f_X9_greatestAlike_49 N rcx m) x1 x2 x3 _ (nI (α 0 0)) σ = _
      unfold b_X9_greatestAlike_49
      rw [hM.nets, if_pos (zle_self (by omega))]
    | succ k ih =>
      intro m i h1 h2
      obtain ⟨m, rfl⟩ : ∃ q, m = q + 1 := ⟨m - 1, by omega⟩
      have hz := zsn_le hV i
      show b_X9_greatestAlike_49 N rcx (f_X9_greatestAlike_49 N rcx m) x1 x2 x3 (lN (zo6 w i)) (nI i) σ = _
      unfold b_X9_greatestAlike_49 f_X9_greatestAlike_87
      rw [hM.nets, if_neg (nI_ge (show i < α 0 0 by omega) (by omega)), zald_nI (show i < 10 by omega) (by decide), Option.bind_some, Option.bind_some, (hO i (by omega)).site (fun x hx => (hV i x hx).2.1.1), ← ih m (i + 1) (by omega) (by omega)]
      have e6 : zo6 w (i + 1) = 6 * zo6 w i + zsn (w i) := rfl
      have l6 : (6 : Int64) * lN (zo6 w i) = lN (6 * zo6 w i) := by rw [show (6 : Int64) = lN 6 from rfl, lN_mul]
      by_cases e : zsn (w i) = 5
      · rw [e, if_pos sI5, show (5 : Int32) = nI 5 from rfl, nI_i2l (by decide), l6, lN_add, Option.bind_some, nI_1, e6, e]
      · rw [if_neg (sI_m9 hz.1 e), sI_nI e, Option.bind_some, nI_i2l (by omega), l6, lN_add, Option.bind_some, Option.bind_some, nI_1, e6]
  exact lp (α 0 0) N 0 (by omega) (by omega)
theorem zw_outM {N : Nat} (hN : 700 < N) {α : AS} {σ : ZM} (hW : WF α) (hM : RM α σ) (h256 : zMM α ≤ 256) (hA : Agd α (zMM α) σ) {s v : Nat} (hs : s < 4) (hv : v ≤ 4) : ∃ σ', f_X9_greatestAlike N (nI s) (nI v) σ = f_X9_greatestAlike_116 N N 0 0 σ' ∧ zag zWG2 σ σ' ∧ ∀ j c, (zLA α)[j]? = some c → σ'.2 36 j = zl6 α s v c := by
  have hl := zLA_len α
  have hs0 := hW.1.2.2.1
  obtain ⟨m', s', e1, e2, e3, e4⟩ := zloopS (fun m (q : Int32 × ZM) => f_X9_greatestAlike_2 N m (nI s) (nI v) q.1 q.2)
    (fun i q => q.1 = nI i ∧ zag zWG2 σ q.2 ∧ ∀ j c, j < i → (zLA α)[j]? = some c → q.2.2 36 j = zl6 α s v c) (zLA α).length (by
    rintro m i ⟨x, u⟩ hi ⟨p1, p2, p3⟩
    simp only at p1 p2 p3
    subst p1
    have hmu := hM.frG2 p2
    have hg : (zLA α)[i]? = some (zLA α)[i] := List.getElem?_eq_getElem hi
    have hcl := (zLA_mem (List.getElem_mem hi)).1
    obtain ⟨c, hc⟩ : ∃ c, c = (zLA α)[i] := ⟨_, rfl⟩
    rw [← hc] at hcl
    obtain ⟨u1, a1, a2, a3, a4, a5⟩ := zw_askNow (N := N) (by omega) hW hmu
    obtain ⟨u2, hu2⟩ : ∃ u2, u2 = zuI u1 12 s (nI v) := ⟨_, rfl⟩
    have gA : zag zWA u1 u2 := by rw [hu2]; exact zag_w (W1 := [(12, none)]) (by simp) (zag_all zag_uI)
    have s40 : u.1 0 40 = nI (zLA α).length := by rw [(p2 0 40 (by decide) (by decide)).1]; exact hA.1
    have s34 : u2.1 34 i = nI c := by rw [hu2, zuI_n (by simp), (a2 34 i (by decide) (by simp)).1, (p2 34 i (by decide) (by simp)).1, hc]; exact hA.2 i _ hg
    obtain ⟨u3, b1, b2, b3, b4⟩ := zw_askCase (N := N) (by omega) hW (a3.frA gA) (c := c) (by omega)
    have ma : MA (α 0 2) (α 6) (fun t => if t = s then v else α 7 t) (α 8) (α 9) u3 := by
      refine ⟨by rw [(b2 0 14 (by decide) (by decide)).1, hu2, zuI_n (by simp)]; exact a4.1, fun t ht => ?_⟩
      obtain ⟨r1, r2, r3, r4⟩ := a4.2 t ht
      refine ⟨?_, ?_, ?_, ?_⟩
      · show _ = nI (if t = s then v else α 7 t)
        rw [(b2 12 t (by decide) (by simp)).1, hu2]
        by_cases e : t = s
        · subst e; rw [zuI_s, if_pos rfl]
        · rw [zuI_n (fun q => e q.2), if_neg e]; exact r1
      · rw [(b2 13 t (by decide) (by simp)).1, hu2, zuI_n (by simp)]; exact r2
      · rw [(b2 14 t (by decide) (by simp)).1, hu2, zuI_n (by simp)]; exact r3
      · rw [(b2 15 t (by decide) (by simp)).1, hu2, zuI_n (by simp)]; exact r4
    have hK := zkv_KW hW (s := s) hv c
    have mb : MB α (zkv α s v c) u3 := ⟨b3, ma.ms hs0 (Nat.le_refl _) hW.2.2.2.2.2.1.1 (zk7_le hW hv), b4⟩
    obtain ⟨u4, d1, d2, d3⟩ := zw_settleM (N := N) (by omega) hW hK mb
    have hm4 := b3.frM d2
    have g4 : zag zWG2 σ u4 := zag_t p2 (zag_t (zag_w (by simp) a2) (zag_t (zag_w (by simp) gA) (zag_t (zag_w (by simp) b2) (zag_w (by simp) d2))))
    have fin : f_X9_greatestAlike_97 N (f_X9_greatestAlike_2 N m) (nI s) (nI v) (nI i) (zl6 α s v c) u4 = f_X9_greatestAlike_2 N m (nI s) (nI v) (nI (i + 1)) (zuJ u4 36 i (zl6 α s v c)) := by
      unfold f_X9_greatestAlike_97
      rw [zasJ_nI (show i < 256 by omega) (by decide), Option.bind_some, Option.bind_some, nI_1]
    refine ⟨(nI (i + 1), zuJ u4 36 i (zl6 α s v c)), ?_, rfl, zag_t g4 (zag_w (W1 := [(36, none)]) (by simp) (zag_all zag_uJ)), fun j d hj hd => ?_⟩
    · show b_X9_greatestAlike_2 N (f_X9_greatestAlike_2 N m) (nI s) (nI v) (nI i) u = f_X9_greatestAlike_2 N m (nI s) (nI v) (nI (i + 1)) (zuJ u4 36 i (zl6 α s v c))
      rw [← fin]
      unfold b_X9_greatestAlike_2
      rw [s40, if_neg (nI_ge hi (by omega)), a1]
      unfold zbd
      rw [Option.bind_some]
      try simp only
      rw [zast_nI hs (by decide), Option.bind_some, ← hu2, zald_nI (show i < 256 by omega) (by decide), Option.bind_some, s34, b1, Option.bind_some]
      try simp only
      rw [d1, Option.bind_some]
      try simp only
      cases hr : zrest α (zkv α s v c) with
      | none =>
        have e : zl6 α s v c = -1 := by unfold zl6; rw [hr]
        rw [zbI_f (by simp), if_pos rfl, e]
      | some k =>
        have e : zl6 α s v c = lN (zo6 (zit α (zkv α s v c) k) (α 0 0)) := by unfold zl6; rw [hr]
        have hmc := (d3 k hr).1
        have hV := VW.it (κ := zkv α s v c) hW hK k
        rw [zbI_t (by simp), if_neg (by decide), e]
        exact zw_told (by omega) hW hV hm4 hmc.2.2.2
    · show (zuJ u4 36 i (zl6 α s v c)).2 36 j = _
      by_cases e : j = i
      · subst e
        rw [hg] at hd
        cases hd
        rw [zuJ_s, hc]
      · rw [zuJ_n (fun q => e q.2), (d2 36 j (by decide) (by simp)).2, (b2 36 j (by decide) (by simp)).2, hu2, zuI_2, (a2 36 j (by decide) (by simp)).2]
        exact p3 j d (by omega) hd) N 0 (0, σ) (by omega) (by omega) ⟨rfl, zag_r, fun j c hj => absurd hj (Nat.not_lt_zero j)⟩
  obtain ⟨x, u⟩ := s'
  simp only at e1 e2 e3 e4
  subst e2
  refine ⟨u, ?_, e3, fun j c q => e4 j c ((List.getElem?_eq_some_iff.mp q).1) q⟩
  unfold f_X9_greatestAlike
  have e1 : f_X9_greatestAlike_2 N N (nI s) (nI v) 0 σ = f_X9_greatestAlike_2 N (m' + 1) (nI s) (nI v) (nI (zLA α).length) u := e1
  rw [e1]
  show b_X9_greatestAlike_2 N (f_X9_greatestAlike_2 N m') (nI s) (nI v) (nI (zLA α).length) u = _
  unfold b_X9_greatestAlike_2
  rw [(e3 0 40 (by decide) (by decide)).1, show σ.1 0 40 = nI (zLA α).length from hA.1, if_pos (nI_le (Nat.le_refl _) (by omega))]
theorem zml_app {f : Nat → Nat} {c : Nat} : ∀ (l : List Nat), zml f (l ++ [c]) = zmx2 (zml f l) (f c)
  | [] => by
    show zmx2 (f c) 0 = zmx2 0 (f c)
    rw [zmx2_0.1, zmx2_0.2]
  | d :: t => by
    show zmx2 (f d) (zml f (t ++ [c])) = zmx2 (zmx2 (f d) (zml f t)) (f c)
    rw [zml_app t, zmx2_as]
theorem zw_greatM {N : Nat} (hN : 700 < N) {α : AS} {σ : ZM} (hW : WF α) (hM : RM α σ) (h256 : zMM α ≤ 256) (hA : Agd α (zMM α) σ) {s v : Nat} (hs : s < 4) (hv : v ≤ 4) : ∃ σ', f_X9_greatestAlike N (nI s) (nI v) σ = some (nI (zga α s v), σ') ∧ zag zWG2 σ σ' := by
  have hl := zLA_len α
  obtain ⟨u, a1, a2, a3⟩ := zw_outM hN hW hM h256 hA hs hv
  have u40 : u.1 0 40 = nI (zLA α).length := by rw [(a2 0 40 (by decide) (by decide)).1]; exact hA.1
  obtain ⟨F, hF⟩ : ∃ F : Nat → Nat, F = fun c => List.countP (fun d => decide (zoc α s v d = zoc α s v c)) (zLA α) := ⟨_, rfl⟩
  have hFl : ∀ c, F c ≤ (zLA α).length := fun c => by rw [hF]; exact List.countP_le_length
  have hml : ∀ i, zml F ((zLA α).take i) ≤ (zLA α).length := fun i => zml_le _ (fun c _ => hFl c)
  have last : f_X9_greatestAlike_116 N N 0 0 u = some (nI (zga α s v), u) := by
    have := zloopT (fun m (q : Int32 × Int32) => f_X9_greatestAlike_116 N m q.1 q.2 u) (fun i => (nI (zml F ((zLA α).take i)), nI i)) (zLA α).length (nI (zml F ((zLA α).take (zLA α).length)), u) (fun m => by
      show b_X9_greatestAlike_116 N (f_X9_greatestAlike_116 N m) _ (nI (zLA α).length) u = _
      unfold b_X9_greatestAlike_116
      rw [u40, if_pos (nI_le (Nat.le_refl _) (by omega))]) (fun m i hi => by
      show b_X9_greatestAlike_116 N (f_X9_greatestAlike_116 N m) (nI (zml F ((zLA α).take i))) (nI i) u = f_X9_greatestAlike_116 N m (nI (zml F ((zLA α).take (i + 1)))) (nI (i + 1)) u
      have hg : (zLA α)[i]? = some (zLA α)[i] := List.getElem?_eq_getElem hi
      obtain ⟨c, hc⟩ : ∃ c, c = (zLA α)[i] := ⟨_, rfl⟩
      have oi : u.2 36 i = zl6 α s v c := by rw [hc]; exact a3 i _ hg
      have hb1 := hml i
      have hb2 := hFl c
      have inner : f_X9_greatestAlike_131 N (f_X9_greatestAlike_116 N m) N (nI (zml F ((zLA α).take i))) (nI i) 0 0 u = f_X9_greatestAlike_116 N m (nI (zml F ((zLA α).take (i + 1)))) (nI (i + 1)) u := by
        have lp : ∀ k m2 j, j + k = (zLA α).length → k < m2 → f_X9_greatestAlike_131 N (f_X9_greatestAlike_116 N m) m2 (nI (zml F ((zLA α).take i))) (nI i) (nI (List.countP (fun d => decide (zoc α s v d = zoc α s v c)) ((zLA α).take j))) (nI j) u = f_X9_greatestAlike_116 N m (nI (zml F ((zLA α).take (i + 1)))) (nI (i + 1)) u := by
          intro k
          induction k with
          | zero =>
            intro m2 j h1 h2
            obtain ⟨m2, rfl⟩ : ∃ q, m2 = q + 1 := ⟨m2 - 1, by omega⟩
            have e : j = (zLA α).length := by omega
            subst e
            have eF : List.countP (fun d => decide (zoc α s v d = zoc α s v c)) ((zLA α).take (zLA α).length) = F c := by rw [List.take_length, hF]
            rw [eF]
            show b_X9_greatestAlike_131 N (f_X9_greatestAlike_116 N m) (f_X9_greatestAlike_131 N (f_X9_greatestAlike_116 N m) m2) (nI (zml F ((zLA α).take i))) (nI i) (nI (F c)) (nI (zLA α).length) u = _
            unfold b_X9_greatestAlike_131 f_X9_greatestAlike_186
            rw [u40, if_pos (nI_le (Nat.le_refl _) (by omega)), Option.bind_some, Option.bind_some, nI_1, ← List.take_append_getElem hi, zml_app, ← hc]
            unfold zmx2
            by_cases q : zml F ((zLA α).take i) < F c
            · rw [if_neg (nI_ge q (by omega)), if_pos q]
            · rw [if_pos (nI_le (by omega) (by omega)), if_neg q]
          | succ k ih =>
            intro m2 j h1 h2
            obtain ⟨m2, rfl⟩ : ∃ q, m2 = q + 1 := ⟨m2 - 1, by omega⟩
            have hj : j < (zLA α).length := by omega
            have hjg : (zLA α)[j]? = some (zLA α)[j] := List.getElem?_eq_getElem hj
            have oj := a3 j _ hjg
            rw [← ih m2 (j + 1) (by omega) (by omega), ← List.take_append_getElem hj, List.countP_append]
            show b_X9_greatestAlike_131 N (f_X9_greatestAlike_116 N m) (f_X9_greatestAlike_131 N (f_X9_greatestAlike_116 N m) m2) (nI (zml F ((zLA α).take i))) (nI i) (nI (List.countP (fun d => decide (zoc α s v d = zoc α s v c)) ((zLA α).take j))) (nI j) u = _
            unfold b_X9_greatestAlike_131 f_X9_greatestAlike_165
            rw [u40, if_neg (nI_ge hj (by omega)), zalJ_nI (show j < 256 by omega) (by decide), Option.bind_some, zalJ_nI (show i < 256 by omega) (by decide), Option.bind_some, oj, oi, Option.bind_some, Option.bind_some, Option.bind_some, Option.bind_some, nI_1]
            by_cases e : zoc α s v (zLA α)[j] = zoc α s v c
            · rw [if_pos ((lg_eq0 _ _).mpr ((zl6_eq hW hv _ _).mpr e)), show (1 : Int32) = nI 1 from rfl, nI_add]
              congr 2
              simp [e]
            · rw [if_neg (fun q => e ((zl6_eq hW hv _ _).mp ((lg_eq0 _ _).mp q))), show (0 : Int32) = nI 0 from rfl, nI_add, nI_1]
              congr 2
              simp [e]
        exact lp (zLA α).length N 0 (by omega) (by omega)
      unfold b_X9_greatestAlike_116
      rw [u40, if_neg (nI_ge hi (by omega))]
      exact inner) N 0 (by omega) (by omega)
    rw [List.take_length, hF] at this
    exact this
  have ef : f_X9_greatestAlike N (nI s) (nI v) σ = some (nI (zga α s v), u) := by rw [a1, last]
  exact ⟨u, ef, a2⟩
def NS (α : AS) (b : Option Nat) (σ : ZM) : Prop := match b with
  | none => σ.1 0 44 = -9 ∧ σ.1 0 45 = -9
  | some x => σ.1 0 44 = nI (10 * (x / 5) + x % 5) ∧ σ.1 0 45 = nI (zga α (x / 5) (x % 5))
theorem NS.mv {α : AS} {b : Option Nat} {σ σ' : ZM} (h : NS α b σ) (e1 : σ'.1 0 44 = σ.1 0 44) (e2 : σ'.1 0 45 = σ.1 0 45) : NS α b σ' := by
  cases b with
  | none => exact ⟨by rw [e1]; exact h.1, by rw [e2]; exact h.2⟩
  | some x => exact ⟨by rw [e1]; exact h.1, by rw [e2]; exact h.2⟩
theorem RM.fr44 {α : AS} {σ σ' : ZM} (h : RM α σ) (hW : zag [(0, some 44), (0, some 45)] σ σ') : RM α σ' := h.fr hW (by decide +kernel) ⟨⟨by decide, fun i => by simp⟩, ⟨by decide, fun i => by simp⟩⟩
theorem zw_next24 {N : Nat} (hN : 700 < N) {α : AS} (hW : WF α) (h256 : zMM α ≤ 256) (hK2 : 2 ≤ (zLA α).length) {x1 : Int32} : ∀ (k m x : Nat) (σ : ZM), x + k = 5 * α 0 2 → k < m → RM α σ → Agd α (zMM α) σ → NS α (znb α x) σ → ∃ σ', f_X9_next_24 N m x1 (nI x) σ = f_X9_next_119 N x1 σ' ∧ RM α σ' ∧ NS α (znb α (5 * α 0 2)) σ'
  | 0, m, x, σ, h1, h2, hM, hA, hS => by
    have hs0 := hW.1.2.2.1
    obtain ⟨m, rfl⟩ : ∃ q, m = q + 1 := ⟨m - 1, by omega⟩
    have e : x = 5 * α 0 2 := by omega
    subst e
    refine ⟨σ, ?_, hM, hS⟩
    show b_X9_next_24 N (f_X9_next_24 N m) x1 (nI (5 * α 0 2)) σ = _
    unfold b_X9_next_24
    rw [hM.sites, show (5 : Int32) = nI 5 from rfl, pk_mul, if_pos (zle_self (by omega))]
  | k + 1, m, x, σ, h1, h2, hM, hA, hS => by
    have hs0 := hW.1.2.2.1
    have hl := zLA_len α
    obtain ⟨m, rfl⟩ : ∃ q, m = q + 1 := ⟨m - 1, by omega⟩
    obtain ⟨s, hs⟩ : ∃ s, s = x / 5 := ⟨_, rfl⟩
    obtain ⟨v, hv⟩ : ∃ v, v = x % 5 := ⟨_, rfl⟩
    have hs2 : s < α 0 2 := by omega
    have hs4 : s < 4 := by omega
    have hv4 : v ≤ 4 := by omega
    have hv7 := hW.2.2.2.2.2.1.2.1 s
    have go : ∀ u, f_X9_next_113 N (f_X9_next_24 N m) x1 (nI x) u = f_X9_next_24 N m x1 (nI (x + 1)) u := fun u => by
      unfold f_X9_next_113
      rw [Option.bind_some, nI_1]
    have pre : f_X9_next_24 N (m + 1) x1 (nI x) σ = (if nI (α 6 s) = 0 then f_X9_next_113 N (f_X9_next_24 N m) x1 (nI x) σ else if nI (α 7 s) = nI v then f_X9_next_113 N (f_X9_next_24 N m) x1 (nI x) σ else (zbd (f_X9_greatestAlike N (nI s) (nI v) σ) fun r10 s11 => if (s11.1 0 44) = (-9 : Int32) then (f_X9_next_95 N (f_X9_next_24 N m) x1 (nI x) (nI s) r10 s11) else (if (s11.1 0 45) ≤ r10 then (f_X9_next_113 N (f_X9_next_24 N m) x1 (nI x) s11) else (f_X9_next_95 N (f_X9_next_24 N m) x1 (nI x) (nI s) r10 s11)))) := by
      show b_X9_next_24 N (f_X9_next_24 N m) x1 (nI x) σ = _
      unfold b_X9_next_24
      rw [hM.sites, show (5 : Int32) * nI (α 0 2) = nI (5 * α 0 2) by rw [show (5 : Int32) = nI 5 from rfl, pk_mul], if_neg (nI_ge (by omega) (by omega)), show σ.1 0 40 = nI (zLA α).length from hA.1, if_neg (show ¬ nI (zLA α).length ≤ (1 : Int32) from nI_ge (show 1 < (zLA α).length by omega) (by omega)), zdiv5 (by omega), Option.bind_some, ← hs, hM.ups hs4, Option.bind_some, hM.knd hs4, Option.bind_some, zrem5 (by omega), Option.bind_some, Option.bind_some, ← hv]
    have keep : zvc α x = false → ∃ σ', f_X9_next_113 N (f_X9_next_24 N m) x1 (nI x) σ = f_X9_next_119 N x1 σ' ∧ RM α σ' ∧ NS α (znb α (5 * α 0 2)) σ' := fun q => by
      rw [go]
      exact zw_next24 hN hW h256 hK2 k m (x + 1) σ (by omega) (by omega) hM hA (by rw [znb_s, q, if_neg (by decide)]; exact hS)
    rw [pre]
    rcases (show α 6 s = 0 ∨ α 6 s = 1 by have := hW.2.2.2.2.2.1.1 s; omega) with hu | hu
    · rw [hu, if_pos (show nI 0 = 0 from rfl)]
      exact keep (decide_eq_false (fun q => by rw [← hs] at q; omega))
    · rw [hu, if_neg (show ¬ nI 1 = 0 by decide)]
      by_cases hk : α 7 s = v
      · rw [if_pos (by rw [hk])]
        exact keep (decide_eq_false (fun q => by rw [← hs, ← hv] at q; exact q.2 hk))
      · have hvc : zvc α x = true := decide_eq_true (by rw [← hs, ← hv]; exact ⟨hu, hk⟩)
        obtain ⟨u, a1, a2⟩ := zw_greatM hN hW hM h256 hA hs4 hv4
        have hmu := hM.frG2 a2
        have hAu : Agd α (zMM α) u := hA.fr (a2 0 40 (by decide) (by decide)).1 (fun j => (a2 34 j (by decide) (by simp)).1)
        have hSu : NS α (znb α x) u := hS.mv (a2 0 44 (by decide) (by decide)).1 (a2 0 45 (by decide) (by decide)).1
        have hgl := zga_le α s v
        rw [if_neg (fun q => hk (nI_inj (by omega) (by omega) q)), a1]
        unfold zbd
        rw [Option.bind_some]
        try simp only
        have take : znb α (x + 1) = some x → ∃ σ', f_X9_next_95 N (f_X9_next_24 N m) x1 (nI x) (nI s) (nI (zga α s v)) u = f_X9_next_119 N x1 σ' ∧ RM α σ' ∧ NS α (znb α (5 * α 0 2)) σ' := fun q => by
          obtain ⟨w, hw⟩ : ∃ w, w = zuI (zuI u 0 44 (nI (10 * s + v))) 0 45 (nI (zga α s v)) := ⟨_, rfl⟩
          have gw : zag [(0, some 44), (0, some 45)] u w := by rw [hw]; exact zag_t (zag_w (W1 := [(0, some 44)]) (by simp) zag_uI) (zag_w (W1 := [(0, some 45)]) (by simp) zag_uI)
          unfold f_X9_next_95 zpI
          rw [zrem5 (by omega), Option.bind_some, ← hv, (zmul10 s v).2, Option.bind_some, Option.bind_some, ← hw, go]
          refine zw_next24 hN hW h256 hK2 k m (x + 1) w (by omega) (by omega) (hmu.fr44 gw) (hAu.fr (gw 0 40 (by decide) (by decide)).1 (fun j => (gw 34 j (by decide) (by simp)).1)) ?_
          rw [q]
          refine ⟨?_, ?_⟩
          · rw [hw, zuI_n (by simp), zuI_s, ← hs, ← hv]
          · rw [hw, zuI_s, ← hs, ← hv]
        cases hb : znb α x with
        | none =>
          rw [hb] at hSu
          have en : znb α (x + 1) = some x := by rw [znb_s, if_pos hvc, hb]
          rw [hSu.1, if_pos rfl]
          exact take en
        | some b =>
          rw [hb] at hSu
          have hbx : b < x := (zmn_some _ _ hb).1
          have hbl := zga_le α (b / 5) (b % 5)
          have en : znb α (x + 1) = if zga α s v < zga α (b / 5) (b % 5) then some x else some b := by rw [znb_s, if_pos hvc, hb, ← hs, ← hv]
          rw [hSu.1, if_neg (nI_m9 (by omega)), hSu.2]
          by_cases q : zga α s v < zga α (b / 5) (b % 5)
          · rw [if_pos q] at en
            rw [if_neg (nI_ge q (by omega))]
            exact take en
          · rw [if_neg q] at en
            rw [if_pos (nI_le (by omega) (by omega)), go]
            exact zw_next24 hN hW h256 hK2 k m (x + 1) u (by omega) (by omega) hmu hAu (by rw [en]; exact hSu)
theorem zw_seekTrial {N : Nat} (hN : 700 < N) {α : AS} {σ : ZM} (hW : WF α) (hC : RC α σ) (h15 : σ.1 38 15 = 0) (hS : Sif α σ) (hK : CaOK α σ) (hx : ∃ b, znb α (5 * α 0 2) = some b) : ∃ σ', f_X0_seekTrial N σ = some ((), σ') ∧ RC α σ' ∧ CaOK α σ' ∧ Sou α σ' ∧ zag zWZ σ σ' := by
  have hl := zLA_len α
  have hM := hS.1
  rcases hK with ⟨k1, k2⟩ | ⟨k1, k2, k3⟩
  · rw [h15] at k1; exact absurd k1 (by decide)
  · rcases k3 with q | ⟨q1, q2⟩
    · obtain ⟨u, hu⟩ : ∃ u, u = zuI (zuI σ 38 16 1) 38 14 (nI ((zLA α).length + 1)) := ⟨_, rfl⟩
      have gu : zag [(38, some 14), (38, some 16)] σ u := by rw [hu]; exact zag_t (zag_w (W1 := [(38, some 16)]) (by simp) zag_uI) (zag_w (W1 := [(38, some 14)]) (by simp) zag_uI)
      have hCu : RC α u := hC.fr gu (by decide +kernel) (by decide +kernel) (by decide +kernel) (by decide) (by decide)
      have hSu : Sif α u := ⟨hS.1, by rw [(gu 38 7 (by decide) (by decide)).1]; exact hS.2.1, fun j c r => by rw [(gu 45 j (by decide) (by simp)).1]; exact hS.2.2.1 j c r, by rw [(gu 38 8 (by decide) (by decide)).1]; exact hS.2.2.2⟩
      obtain ⟨w, a1, a2, a3⟩ := zw_seek25 hN hW (α 0 2) N 0 u (by omega) (by have := hW.1.2.2.1; omega) hCu hSu (by
        show u.1 38 14 = _
        rw [hu, zuI_s])
      have ef : f_X0_seekTrial N σ = some ((), w) := by
        unfold f_X0_seekTrial zpZ zpI
        rw [if_pos q, if_pos (Or.inr rfl), Option.bind_some, zuI_n (show ¬ (38 = 38 ∧ 7 = 16) by omega), hS.2.1, nI_1, Option.bind_some, ← hu]
        exact a1
      obtain ⟨b, hb⟩ := hx
      rw [hb] at a3
      have so : Sou α w := ⟨b, hb, a3⟩
      have h16 : w.1 38 16 = 1 := by rw [(a2 38 16 (by decide) (by decide)).1, hu, zuI_n (by simp), zuI_s]
      have w15 : w.1 38 15 = 0 := by rw [(a2 38 15 (by decide) (by decide)).1, (gu 38 15 (by decide) (by decide)).1]; exact h15
      exact ⟨w, ef, hCu.frF3 a2, Or.inr ⟨w15, hSu.frF3 a2, Or.inr ⟨h16, so⟩⟩, so, zag_none (fr_X0_seekTrial ef) (by decide)⟩
    · refine ⟨σ, ?_, hC, Or.inr ⟨k1, k2, Or.inr ⟨q1, q2⟩⟩, q2, zag_r⟩
      unfold f_X0_seekTrial
      rw [q1, if_neg (by decide)]
theorem qu_next {N : Nat} (hN : 700 < N) (x1 : Int32) : zQca (f_X8_next N x1) (f_X9_next N x1) := by
  intro α σc σm hW hC hM hK
  have hs0 := hW.1.2.2.1
  have hl := zLA_len α
  obtain ⟨t1, b1, b2, b3⟩ := zw_layAgreed hN hW hM
  unfold f_X8_next f_X9_next
  rw [b1]
  rcases zw_sift hN hW hC hK with ⟨h1, h2⟩ | ⟨h1, s1, a1, a2, a3, a4, a5, a6⟩
  · rw [h2, zbI_f (by omega)]
    exact ⟨-5, σc, t1, rfl, rfl, hC, b2, hK, zag_r⟩
  · have hA := b3 h1
    obtain ⟨t2, ht2⟩ : ∃ t2, t2 = zuI (zuI t1 0 44 (-9)) 0 45 (-9) := ⟨_, rfl⟩
    have g2 : zag [(0, some 44), (0, some 45)] t1 t2 := by rw [ht2]; exact zag_t (zag_w (W1 := [(0, some 44)]) (by simp) zag_uI) (zag_w (W1 := [(0, some 45)]) (by simp) zag_uI)
    have hm2 := b2.fr44 g2
    have hA2 : Agd α (zMM α) t2 := hA.fr (g2 0 40 (by decide) (by decide)).1 (fun j => (g2 34 j (by decide) (by simp)).1)
    have hN2 : NS α none t2 := ⟨by rw [ht2, zuI_n (by simp), zuI_s], by rw [ht2, zuI_s]⟩
    rw [a1, zbI_t h1]
    unfold zbd zpI
    rw [Option.bind_some, Option.bind_some]
    try simp only
    rw [if_neg (show ¬ (1 : Int32) = 0 by decide), if_neg (show ¬ (1 : Int32) = 0 by decide), Option.bind_some, Option.bind_some, ← ht2, a4.2.1]
    by_cases hK2 : 2 ≤ (zLA α).length
    · obtain ⟨t3, d1, d2, d3⟩ := zw_next24 hN hW h1 hK2 (x1 := x1) (5 * α 0 2) N 0 t2 (by omega) (by omega) hm2 hA2 hN2
      have d1 : f_X9_next_24 N N x1 0 t2 = f_X9_next_119 N x1 t3 := d1
      rw [d1, if_neg (show ¬ nI (zLA α).length < (2 : Int32) from fun q => by rw [Int32.lt_iff_toInt_lt, nI_toInt (by omega)] at q; have : (2 : Int32).toInt = 2 := rfl; omega), zw_upCount (N := N) (by omega) hs0 a2.sites (fun i hi => (a2.ca.2 i hi).2.2.2) hW.2.2.2.2.2.1.1, Option.bind_some]
      try simp only
      have hsl : zsum (α 6) (α 0 2) ≤ α 0 2 * 1 := zsum_le hW.2.2.2.2.2.1.1 _
      unfold f_X9_next_119
      by_cases hup : zsum (α 6) (α 0 2) = 0
      · have hz : ∀ s, s < α 0 2 → α 6 s = 0 := fun s hs => by
          have : ∀ k, k ≤ α 0 2 → zsum (α 6) k = 0 → ∀ s, s < k → α 6 s = 0 := fun k => by
            induction k with
            | zero => intro _ _ s hs; exact absurd hs (Nat.not_lt_zero s)
            | succ k ih =>
              intro hk he s hs
              have he : zsum (α 6) k + α 6 k = 0 := he
              by_cases e : s = k
              · subst e; omega
              · exact ih (by omega) (by omega) s (by omega)
          exact this _ (Nat.le_refl _) hup s hs
        have en : znb α (5 * α 0 2) = none := by
          have := znb_skip (α := α) (x := 0) (5 * α 0 2) (fun y _ y2 => decide_eq_false (fun q => by have := hz (y / 5) (by omega); omega))
          rw [Nat.zero_add] at this
          exact this
        rw [en] at d3
        rw [hup, if_pos (show nI 0 = 0 from rfl), d3.1, d3.2, ite_self]
        exact ⟨-9, s1, t3, rfl, rfl, a2, d2, a5, zag_WT a6⟩
      · have hnz : ¬ nI (zsum (α 6) (α 0 2)) = 0 := fun q => hup (nI_inj (b := 0) (by omega) (by decide) q)
        have hex : ∃ b, znb α (5 * α 0 2) = some b := by
          cases hb : znb α (5 * α 0 2) with
          | some b => exact ⟨b, rfl⟩
          | none =>
            exfalso
            have hno := zmn_none _ hb
            apply hup
            have : ∀ k, k ≤ α 0 2 → zsum (α 6) k = 0 := fun k => by
              induction k with
              | zero => intro _; rfl
              | succ k ih =>
                intro hk
                show zsum (α 6) k + α 6 k = 0
                rw [ih (by omega)]
                rcases (show α 6 k = 0 ∨ α 6 k = 1 by have := hW.2.2.2.2.2.1.1 k; omega) with q | q
                · omega
                · exfalso
                  by_cases e : α 7 k = 0
                  · have h3 := of_decide_eq_false (hno (5 * k + 1) (by omega))
                    rw [show (5 * k + 1) / 5 = k by omega, show (5 * k + 1) % 5 = 1 by omega] at h3
                    exact h3 ⟨q, by omega⟩
                  · have h3 := of_decide_eq_false (hno (5 * k) (by omega))
                    rw [show 5 * k / 5 = k by omega, show 5 * k % 5 = 0 by omega] at h3
                    exact h3 ⟨q, e⟩
            exact this _ (Nat.le_refl _)
        obtain ⟨s2, f1, f2, f3, ⟨b, g1, g3, g4, g5⟩, f5⟩ := zw_seekTrial hN hW a2 a3 a4 a5 hex
        rw [g1] at d3
        rw [if_neg hnz, f1, Option.bind_some]
        try simp only
        rw [g3, g4, g5, (zmul10 _ _).2, d3.1, d3.2]
        by_cases hx : x1 = 0
        · rw [if_pos hx, if_pos hx]
          exact ⟨_, s2, t3, rfl, rfl, f2, d2, f3, zag_t (zag_WT a6) f5⟩
        · rw [if_neg hx, if_neg hx]
          exact ⟨_, s2, t3, rfl, rfl, f2, d2, f3, zag_t (zag_WT a6) f5⟩
    · rw [if_pos (show nI (zLA α).length < (2 : Int32) by rw [Int32.lt_iff_toInt_lt, nI_toInt (by omega)]; show (((zLA α).length : Nat) : Int) < 2; omega)]
      have d1 : f_X9_next_24 N N x1 0 t2 = f_X9_next_119 N x1 t2 := by
        obtain ⟨m, hm⟩ : ∃ m, N = m + 1 := ⟨N - 1, by omega⟩
        have : f_X9_next_24 N (m + 1) x1 0 t2 = f_X9_next_119 N x1 t2 := by
          show b_X9_next_24 N (f_X9_next_24 N m) x1 0 t2 = _
          unfold b_X9_next_24
          rw [show t2.1 0 40 = nI (zLA α).length from hA2.1, if_pos (show nI (zLA α).length ≤ (1 : Int32) from nI_le (b := 1) (by omega) (by decide)), ite_self]
        rw [← hm] at this
        exact this
      rw [d1]
      unfold f_X9_next_119
      rw [hN2.1, hN2.2, ite_self]
      exact ⟨-9, s1, t2, rfl, rfl, a2, hm2, a5, zag_WT a6⟩
