/-! ===== the plan: class ===== -/
theorem zminN {a b : Nat} (ha : a < 2 ^ 31) (hb : b < 2 ^ 31) : zmin (nI a) (nI b) = nI (zmi a b) := by
  unfold zmin zmi
  by_cases e : b < a
  · rw [if_pos e, if_pos]
    rw [Int32.lt_iff_toInt_lt, nI_toInt ha, nI_toInt hb]; omega
  · rw [if_neg e, if_neg]
    rw [Int32.lt_iff_toInt_lt, nI_toInt ha, nI_toInt hb]; omega
def zpb (α : AS) (D s : Nat) : Nat := if D.testBit s = true ∧ s < α 0 2 ∧ α 6 s = 1 then zaim α s else zkn α (zr0 α) 0 s
theorem zpb_le {α : AS} (hW : WF α) (D s : Nat) : zpb α D s ≤ 4 := by
  unfold zpb
  have := zaim_le hW s
  have := zkn_le (ρ := fun _ => zr0 α) hW s
  split <;> omega
def zgv (o : Option (Nat × Nat)) : Nat := match o with
  | none => 1000000
  | some x => x.1
def zg (α : AS) (D : Nat) : Nat := zgv (zEv α (zplc (zpb α D)))
theorem zg_le {α : AS} (hW : WF α) (D : Nat) : zg α D ≤ 1000000 := by
  unfold zg
  cases h : zEv α (zplc (zpb α D)) with
  | none => exact Nat.le_refl _
  | some x => have := zEv_le hW h; show x.1 ≤ 1000000; omega
theorem zclr {D A : Nat} (hD : D < 16) (hA : A < 16) : ((nI D &&& (nI A ^^^ (-1 : Int32))) = 0) ↔ D &&& A = D := by
  have : ∀ D, D < 16 → ∀ A, A < 16 → (decide ((nI D &&& (nI A ^^^ (-1 : Int32))) = 0) = decide (D &&& A = D)) := by decide +kernel
  have h := this D hD A hA
  rw [Bool.eq_iff_iff, decide_eq_true_iff, decide_eq_true_iff] at h
  exact h
theorem zclb {D A s : Nat} (hD : D < 16) (hA : A < 16) (hs : s < 4) : ((((nI A &&& (nI D ^^^ (-1 : Int32))) >>> (nI s &&& 31)) &&& (1 : Int32)) = 0) ↔ zinn A D s = false := by
  have : ∀ D, D < 16 → ∀ A, A < 16 → ∀ s, s < 4 → (decide ((((nI A &&& (nI D ^^^ (-1 : Int32))) >>> (nI s &&& 31)) &&& (1 : Int32)) = 0) = decide (zinn A D s = false)) := by decide +kernel
  have h := this D hD A hA s hs
  rw [Bool.eq_iff_iff, decide_eq_true_iff, decide_eq_true_iff] at h
  exact h
theorem zw_pickBehind {N : Nat} (hN : 14 < N) {α : AS} {σ : ZM} (hW : WF α) (hC : RC α σ) {D : Nat} (hD : D < 16) : ∃ σ', f_X4_pickBehind N (nI D) σ = some ((), σ') ∧ PK (zplc (zpb α D)) σ' := by
  have hs0 := hW.1.2.2.1
  obtain ⟨s1, a1, a2, a3⟩ := zw_pickNow hN hW hC
  obtain ⟨m', s', e1, e2, e3, e4⟩ := zloopS (fun m (q : Int32 × ZM) => f_X4_pickBehind_9 N m (nI D) q.1 q.2)
    (fun i q => q.1 = nI i ∧ zag [(32, none)] σ q.2 ∧ ∀ s, s < 4 → q.2.1 32 s = nI (if s < i then zpb α D s else zkn α (zr0 α) 0 s)) (α 0 2) (by
    rintro m i ⟨x, s⟩ hi ⟨p1, p2, p3⟩
    simp only at p1 p2 p3
    subst p1
    have hcs := hC.fr32 p2
    have hi4 : i < 4 := by omega
    have go : ∀ u, f_X4_pickBehind_54 N (f_X4_pickBehind_9 N m) (nI D) (nI i) u = f_X4_pickBehind_9 N m (nI D) (nI (i + 1)) u := fun u => by
      unfold f_X4_pickBehind_54
      rw [Option.bind_some, nI_1]
    have keep : zpb α D i = zkn α (zr0 α) 0 i → ∀ t, t < 4 → s.1 32 t = nI (if t < i + 1 then zpb α D t else zkn α (zr0 α) 0 t) := fun e t ht => by
      rw [p3 t ht]
      congr 1
      by_cases q : t = i
      · subst q; rw [if_neg (by omega), if_pos (by omega), e]
      · by_cases q2 : t < i
        · rw [if_pos q2, if_pos (by omega)]
        · rw [if_neg q2, if_neg (by omega)]
    have pre : f_X4_pickBehind_9 N (m + 1) (nI D) (nI i) s = (if ((nI D >>> (nI i &&& 31)) &&& (1 : Int32)) = 0 then f_X4_pickBehind_54 N (f_X4_pickBehind_9 N m) (nI D) (nI i) s else if nI (α 6 i) = 0 then f_X4_pickBehind_54 N (f_X4_pickBehind_9 N m) (nI D) (nI i) s else f_X4_pickBehind_54 N (f_X4_pickBehind_9 N m) (nI D) (nI i) (zuI s 32 i (nI (zaim α i)))) := by
      show b_X4_pickBehind_9 N (f_X4_pickBehind_9 N m) (nI D) (nI i) s = _
      unfold b_X4_pickBehind_9
      rw [hcs.sites, if_neg (nI_ge hi (by omega)), zald_nI hi4 (by decide), Option.bind_some, (hcs.ca.2 i hi4).2.2.2, zw_aimC hW hcs hi4]
      unfold zbd
      rw [Option.bind_some]
      try simp only
      rw [zast_nI hi4 (by decide), Option.bind_some]
    simp only
    rw [pre]
    cases hb : D.testBit i with
    | false =>
      refine ⟨(nI (i + 1), s), ?_, rfl, p2, keep (by unfold zpb; rw [hb, if_neg (by simp)])⟩
      rw [if_pos ((zbitZ (by omega) (by omega)).mpr hb), go]
    | true =>
      rw [if_neg (fun q => by rw [zbitZ (by omega) (by omega), hb] at q; exact absurd q (by decide))]
      rcases (show α 6 i = 0 ∨ α 6 i = 1 by have := hW.2.2.2.2.2.1.1 i; omega) with hu | hu
      · refine ⟨(nI (i + 1), s), ?_, rfl, p2, keep (by unfold zpb; rw [if_neg (by omega)])⟩
        rw [hu, if_pos (show nI 0 = 0 from rfl), go]
      · refine ⟨(nI (i + 1), zuI s 32 i (nI (zaim α i))), ?_, rfl, zag_t p2 (zag_all zag_uI), fun t ht => ?_⟩
        · rw [hu, if_neg (show ¬ nI 1 = 0 by decide), go]
        · show (zuI s 32 i (nI (zaim α i))).1 32 t = _
          by_cases q : t = i
          · subst q
            rw [zuI_s, if_pos (by omega)]
            unfold zpb
            rw [if_pos ⟨hb, hi, hu⟩]
          · rw [zuI_n (fun r => q r.2), p3 t ht]
            congr 1
            by_cases q2 : t < i
            · rw [if_pos q2, if_pos (by omega)]
            · rw [if_neg q2, if_neg (by omega)]) N 0 (0, s1) (by omega) (by omega) ⟨rfl, a2, fun t ht => by rw [if_neg (Nat.not_lt_zero t)]; exact a3 t ht⟩
  obtain ⟨x, s⟩ := s'
  simp only at e1 e2 e3 e4
  subst e2
  refine ⟨s, ?_, PK.of (zpb_le hW D) (fun t ht => ?_)⟩
  · unfold f_X4_pickBehind
    rw [a1]
    unfold zbd
    rw [Option.bind_some]
    have e1 : f_X4_pickBehind_9 N N (nI D) 0 s1 = f_X4_pickBehind_9 N (m' + 1) (nI D) (nI (α 0 2)) s := e1
    show f_X4_pickBehind_9 N N (nI D) 0 s1 = _
    rw [e1]
    show b_X4_pickBehind_9 N (f_X4_pickBehind_9 N m') (nI D) (nI (α 0 2)) s = _
    unfold b_X4_pickBehind_9
    rw [(hC.fr32 e3).sites, if_pos (zle_self (by omega))]
  · rw [e4 t ht]
    congr 1
    by_cases q : t < α 0 2
    · rw [if_pos q]
    · rw [if_neg q]
      unfold zpb
      rw [if_neg (by omega)]
def TB (α : AS) (A d : Nat) (σ : ZM) : Prop := ∀ D, d ≤ D → D ≤ A → D &&& A = D → σ.1 35 D = nI (zg α D) ∧ σ.1 36 D = nI (zhh A (zg α) (zpc A - zpc D) D)
theorem TB.mv {α : AS} {A d : Nat} {σ σ' : ZM} (h : TB α A d σ) (e1 : ∀ D, σ'.1 35 D = σ.1 35 D) (e2 : ∀ D, σ'.1 36 D = σ.1 36 D) : TB α A d σ' := fun D h1 h2 h3 => by rw [e1, e2]; exact h D h1 h2 h3
theorem zw_worstBy {N : Nat} {α : AS} (hW : WF α) {A D d : Nat} (hA : A < 16) {σ : ZM} (hT : TB α A d σ) (h1 : d ≤ D) (h2 : D ≤ A) (h3 : D &&& A = D) : f_X4_worstBy N (nI D) σ = some (nI (zmx2 (zg α D) (zhh A (zg α) (zpc A - zpc D) D)), σ) := by
  obtain ⟨q1, q2⟩ := hT D h1 h2 h3
  have b1 := zg_le hW D
  have b2 := zhh_le (A := A) (g := zg α) (zpc A - zpc D) D
  unfold f_X4_worstBy
  rw [zald_nI (show D < 16 by omega) (by decide), Option.bind_some, zald_nI (show D < 16 by omega) (by decide), Option.bind_some, q1, q2, zmaxN (by omega) (by omega)]
  rfl
theorem zchg_bit (α : AS) : ∀ n s, n ≤ 4 → (zchg α n).testBit s = decide (s < n ∧ zaim α s ≠ α 7 s)
  | 0, s, _ => by
    show Nat.testBit 0 s = _
    rw [Nat.zero_testBit]
    exact (decide_eq_false (fun q => Nat.not_lt_zero s q.1)).symm
  | n + 1, s, hn => by
    have ih := zchg_bit α n s (by omega)
    show (if zaim α n = α 7 n then zchg α n else zchg α n ||| 2 ^ n).testBit s = _
    by_cases e : zaim α n = α 7 n
    · rw [if_pos e, ih]
      apply decide_eq_decide.mpr
      constructor
      · intro q; exact ⟨by omega, q.2⟩
      · intro q
        refine ⟨?_, q.2⟩
        by_cases r : s = n
        · subst r; exact absurd e q.2
        · omega
    · rw [if_neg e, ztb_or1, ih]
      by_cases r : s = n
      · subst r
        rw [decide_eq_true (show s = s from rfl), Bool.or_true, decide_eq_true (⟨by omega, e⟩ : s < s + 1 ∧ zaim α s ≠ α 7 s)]
      · rw [decide_eq_false (show ¬ n = s from fun q => r q.symm), Bool.or_false]
        apply decide_eq_decide.mpr
        constructor
        · intro q; exact ⟨by omega, q.2⟩
        · intro q; exact ⟨by omega, q.2⟩
def zca (α : AS) : Nat := zchg α (α 0 2)
theorem zca_lt {α : AS} (hW : WF α) : zca α < 16 := Nat.lt_of_lt_of_le (zchg_lt α (α 0 2)) (Nat.pow_le_pow_right (n := 2) (i := α 0 2) (j := 4) (by decide) hW.1.2.2.1)
theorem zca_in {α : AS} (hW : WF α) {D s : Nat} (h : α 0 2 ≤ s) : zinn (zca α) D s = false := by
  unfold zinn zca
  rw [zchg_bit α _ s hW.1.2.2.1, decide_eq_false (fun q => by omega)]
  rfl
theorem zw_leastWorst {N : Nat} (hN : 14 < N) {α : AS} {σ : ZM} (hW : WF α) (hC : RC α σ) {D : Nat} (hD : D < 16) (hs : D &&& zca α = D) (hT : TB α (zca α) (D + 1) σ) : f_X4_leastWorst N (nI D) (nI (zca α)) σ = some (nI (zhh (zca α) (zg α) (zpc (zca α) - zpc D) D), σ) := by
  have hs0 := hW.1.2.2.1
  have hA := zca_lt hW
  have hss := zss_of hA hD hs
  generalize hAe : zca α = A at *
  have hout : ∀ s, α 0 2 ≤ s → zinn A D s = false := fun s h => by rw [← hAe]; exact zca_in hW h
  obtain ⟨k, hk⟩ : ∃ k, k = zpc A - zpc D := ⟨_, rfl⟩
  rw [← hk] at hss ⊢
  unfold f_X4_leastWorst f_X4_leastWorst_11
  cases k with
  | zero =>
    have e := zss_end hA hss
    subst e
    rw [if_pos rfl]
    refine zloopT (fun m (q : Int32) => f_X4_leastWorst_15 N m (nI D) (nI D) 0 q σ) (fun i => nI i) (α 0 2) _ (fun m => ?_) (fun m i hi => ?_) N 0 (by omega) (by omega)
    · show b_X4_leastWorst_15 N (f_X4_leastWorst_15 N m) (nI D) (nI D) 0 (nI (α 0 2)) σ = _
      unfold b_X4_leastWorst_15
      rw [hC.sites, if_pos (zle_self (by omega))]
      rfl
    · show b_X4_leastWorst_15 N (f_X4_leastWorst_15 N m) (nI D) (nI D) 0 (nI i) σ = f_X4_leastWorst_15 N m (nI D) (nI D) 0 (nI (i + 1)) σ
      unfold b_X4_leastWorst_15 f_X4_leastWorst_55
      have z : zinn D D i = false := by unfold zinn; cases D.testBit i <;> rfl
      rw [hC.sites, if_neg (nI_ge hi (by omega)), if_pos ((zclb hD hD (by omega)).mpr z), Option.bind_some, nI_1]
  | succ k =>
    have hne : D ≠ A := fun q => by have := hss.2.2; rw [q] at this; omega
    rw [if_neg (fun q => hne (nI_inj (by omega) (by omega) q))]
    have ef : zhh A (zg α) (k + 1) D = zfo (zinn A D) (fun s => zmx2 (zg α (D ||| 2 ^ s)) (zhh A (zg α) k (D ||| 2 ^ s))) 1000000 (α 0 2) := by
      have := zfo_up (P := zinn A D) (f := fun s => zmx2 (zg α (D ||| 2 ^ s)) (zhh A (zg α) k (D ||| 2 ^ s))) (i0 := 1000000) hout (4 - α 0 2)
      rw [show α 0 2 + (4 - α 0 2) = 4 by omega] at this
      exact this
    rw [ef]
    refine zloopT (fun m (q : Int32 × Int32) => f_X4_leastWorst_15 N m (nI D) (nI A) q.1 q.2 σ) (fun i => (nI (zfo (zinn A D) (fun s => zmx2 (zg α (D ||| 2 ^ s)) (zhh A (zg α) k (D ||| 2 ^ s))) 1000000 i), nI i)) (α 0 2) _ (fun m => ?_) (fun m i hi => ?_) N 0 (by omega) (by omega)
    · show b_X4_leastWorst_15 N (f_X4_leastWorst_15 N m) (nI D) (nI A) _ (nI (α 0 2)) σ = _
      unfold b_X4_leastWorst_15
      rw [hC.sites, if_pos (zle_self (by omega))]
    · show b_X4_leastWorst_15 N (f_X4_leastWorst_15 N m) (nI D) (nI A) (nI (zfo (zinn A D) (fun s => zmx2 (zg α (D ||| 2 ^ s)) (zhh A (zg α) k (D ||| 2 ^ s))) 1000000 i)) (nI i) σ = f_X4_leastWorst_15 N m (nI D) (nI A) (nI (if zinn A D i = true then zmi (zfo (zinn A D) (fun s => zmx2 (zg α (D ||| 2 ^ s)) (zhh A (zg α) k (D ||| 2 ^ s))) 1000000 i) (zmx2 (zg α (D ||| 2 ^ i)) (zhh A (zg α) k (D ||| 2 ^ i))) else zfo (zinn A D) (fun s => zmx2 (zg α (D ||| 2 ^ s)) (zhh A (zg α) k (D ||| 2 ^ s))) 1000000 i)) (nI (i + 1)) σ
      have hle := zfo_le0 (P := zinn A D) (f := fun s => zmx2 (zg α (D ||| 2 ^ s)) (zhh A (zg α) k (D ||| 2 ^ s))) (i0 := 1000000) i
      generalize zfo (zinn A D) (fun s => zmx2 (zg α (D ||| 2 ^ s)) (zhh A (zg α) k (D ||| 2 ^ s))) 1000000 i = S at hle ⊢
      unfold b_X4_leastWorst_15 f_X4_leastWorst_55
      rw [hC.sites, if_neg (nI_ge hi (by omega))]
      cases hz : zinn A D i with
      | false => rw [if_pos ((zclb hD hA (by omega)).mpr hz), Option.bind_some, nI_1, if_neg (by decide)]
      | true =>
        obtain ⟨st, st1, st2⟩ := zss_step hA hss (show i < 4 by omega) hz
        have er : zpc A - zpc (D ||| 2 ^ i) = k := by have := st.2.2; omega
        have wb := zw_worstBy (N := N) hW hA hT (by omega) st2 st.2.1
        rw [er] at wb
        have bb : zmx2 (zg α (D ||| 2 ^ i)) (zhh A (zg α) k (D ||| 2 ^ i)) ≤ 1000000 := zmx2_le (zg_le hW _) (zhh_le _ _)
        rw [if_neg (fun q => by rw [zclb hD hA (by omega), hz] at q; exact absurd q (by decide)), zor_nI hD (by omega), wb]
        unfold zbd
        rw [Option.bind_some]
        try simp only
        rw [Option.bind_some, Option.bind_some, nI_1, zminN (by omega) (by omega), if_pos trivial]
theorem zw_firstStep {N : Nat} (hN : 14 < N) {α : AS} {σ : ZM} (hW : WF α) (hC : RC α σ) {D k W : Nat} (hss : zss (zca α) D (k + 1)) (hT : TB α (zca α) 0 σ) (hw : σ.1 34 7 = nI W) (hWb : W ≤ 1000000) : f_X4_firstStep N (nI D) (nI (zca α)) σ = some (nI (zft (zgo (zca α) (zg α) W D k) 4 0), σ) := by
  have hs0 := hW.1.2.2.1
  have hA := zca_lt hW
  generalize hAe : zca α = A at *
  have hD := hss.1
  have lp : ∀ j m x, j ≤ α 0 2 → j < m → f_X4_firstStep_13 N m (nI D) (nI A) (nI x) (nI j + (-1)) σ = some (nI (zft (zgo A (zg α) W D k) j x), σ) := by
    intro j
    induction j with
    | zero =>
      intro m x _ hm
      obtain ⟨m, rfl⟩ : ∃ q, m = q + 1 := ⟨m - 1, by omega⟩
      show b_X4_firstStep_13 N (f_X4_firstStep_13 N m) (nI D) (nI A) (nI x) (nI 0 + (-1)) σ = _
      unfold b_X4_firstStep_13
      rw [if_pos (by decide)]
      rfl
    | succ j ih =>
      intro m x hj hm
      obtain ⟨m, rfl⟩ : ∃ q, m = q + 1 := ⟨m - 1, by omega⟩
      rw [pk_m1]
      show b_X4_firstStep_13 N (f_X4_firstStep_13 N m) (nI D) (nI A) (nI x) (nI j) σ = some (nI (zft (zgo A (zg α) W D k) j (if zgo A (zg α) W D k j = true then j else x)), σ)
      have nn : ¬ nI j < 0 := fun q => by rw [Int32.lt_iff_toInt_lt, nI_toInt (by omega)] at q; have : (0 : Int32).toInt = 0 := rfl; omega
      unfold b_X4_firstStep_13 f_X4_firstStep_51
      rw [if_neg nn, Option.bind_some]
      cases hz : zinn A D j with
      | false =>
        have e : zgo A (zg α) W D k j = false := by unfold zgo; rw [hz]; rfl
        rw [if_pos ((zclb hD hA (by omega)).mpr hz), e, if_neg (by decide)]
        exact ih m x (by omega) (by omega)
      | true =>
        obtain ⟨st, st1, st2⟩ := zss_step hA hss (show j < 4 by omega) hz
        have er : zpc A - zpc (D ||| 2 ^ j) = k := by have := st.2.2; omega
        have wb := zw_worstBy (N := N) hW hA hT (by omega) st2 st.2.1
        rw [er] at wb
        have bb : zmx2 (zg α (D ||| 2 ^ j)) (zhh A (zg α) k (D ||| 2 ^ j)) ≤ 1000000 := zmx2_le (zg_le hW _) (zhh_le _ _)
        rw [if_neg (fun q => by rw [zclb hD hA (by omega), hz] at q; exact absurd q (by decide)), zor_nI hD (by omega), wb]
        unfold zbd
        rw [Option.bind_some]
        try simp only
        rw [hw]
        by_cases q : zmx2 (zg α (D ||| 2 ^ j)) (zhh A (zg α) k (D ||| 2 ^ j)) ≤ W
        · have e : zgo A (zg α) W D k j = true := by unfold zgo; rw [hz, decide_eq_true q]; rfl
          rw [if_neg (by rw [Int32.lt_iff_toInt_lt, nI_toInt (by omega), nI_toInt (by omega)]; omega), e, if_pos rfl, Option.bind_some]
          exact ih m j (by omega) (by omega)
        · have e : zgo A (zg α) W D k j = false := by unfold zgo; rw [hz, decide_eq_false q]; rfl
          rw [if_pos (by rw [Int32.lt_iff_toInt_lt, nI_toInt (by omega), nI_toInt (by omega)]; omega), e, if_neg (by decide)]
          exact ih m x (by omega) (by omega)
  have up : ∀ j, zft (zgo A (zg α) W D k) (α 0 2 + j) 0 = zft (zgo A (zg α) W D k) (α 0 2) 0 := fun j => by
    induction j with
    | zero => rfl
    | succ j ih =>
      show zft (zgo A (zg α) W D k) (α 0 2 + j) (if zgo A (zg α) W D k (α 0 2 + j) = true then α 0 2 + j else 0) = _
      have z : zinn A D (α 0 2 + j) = false := by rw [← hAe]; exact zca_in hW (by omega)
      have e : zgo A (zg α) W D k (α 0 2 + j) = false := by unfold zgo; rw [z]; rfl
      rw [e, if_neg (by decide)]
      exact ih
  have u := up (4 - α 0 2)
  rw [show α 0 2 + (4 - α 0 2) = 4 by omega] at u
  unfold f_X4_firstStep
  rw [Option.bind_some, hC.sites, zm1, u]
  exact lp (α 0 2) N 0 (Nat.le_refl _) (by omega)
abbrev zWI : List (Nat × Option Nat) := [(34, some 6), (34, some 7), (37, none)]
theorem RC.frI {α : AS} {σ σ' : ZM} (h : RC α σ) (hW : zag zWI σ σ') : RC α σ' := h.fr hW (by decide +kernel) (by decide +kernel) (by decide +kernel) (by decide) (by decide)
theorem zw_plan95 {N : Nat} (hN : 14 < N) {α : AS} (hW : WF α) {W : Nat} (hWb : W ≤ 1000000) : ∀ (k m i D len : Nat) (σ : ZM), zss (zca α) D k → i + k ≤ 4 → k < m → RC α σ → TB α (zca α) 0 σ → σ.1 34 7 = nI W → σ.1 34 6 = nI len → (0 < k → zhh (zca α) (zg α) k D ≤ W) → ∃ σ', f_X4_plan_95 N m (nI (zca α)) (nI D) (nI i) σ = some ((), σ') ∧ zag zWI σ σ' ∧ σ'.1 34 7 = nI W ∧ σ'.1 34 6 = nI (len + k) ∧ (∀ j, j < i → σ'.1 37 j = σ.1 37 j) ∧ ∀ j s, (zgl (zca α) (zg α) W k D)[j]? = some s → σ'.1 37 (i + j) = nI s
  | 0, m, i, D, len, σ, hss, hi, hm, hC, hT, hw, hl, hh => by
    have hA := zca_lt hW
    obtain ⟨m, rfl⟩ : ∃ q, m = q + 1 := ⟨m - 1, by omega⟩
    have e := zss_end hA hss
    refine ⟨σ, ?_, zag_r, hw, hl, fun j _ => rfl, fun j s q => by simp [zgl] at q⟩
    show b_X4_plan_95 N (f_X4_plan_95 N m) (nI (zca α)) (nI D) (nI i) σ = _
    unfold b_X4_plan_95
    rw [e, if_pos rfl, ite_self]
  | k + 1, m, i, D, len, σ, hss, hi, hm, hC, hT, hw, hl, hh => by
    have hA := zca_lt hW
    obtain ⟨m, rfl⟩ : ∃ q, m = q + 1 := ⟨m - 1, by omega⟩
    have hne : D ≠ zca α := fun q => by have := hss.2.2; rw [q] at this; omega
    obtain ⟨f1, f2, f3⟩ := zgl_first hA (zg_le hW) hss (hh (by omega))
    have fs := zw_firstStep hN hW hC hss hT hw hWb
    obtain ⟨s, hs⟩ : ∃ s, s = zft (zgo (zca α) (zg α) W D k) 4 0 := ⟨_, rfl⟩
    rw [← hs] at f1 f2 f3 fs
    have f2' := f2
    unfold zgo at f2'
    rw [Bool.and_eq_true] at f2'
    have hle : zmx2 (zg α (D ||| 2 ^ s)) (zhh (zca α) (zg α) k (D ||| 2 ^ s)) ≤ W := of_decide_eq_true f2'.2
    have hge := zmx2_ge (a := zg α (D ||| 2 ^ s)) (b := zhh (zca α) (zg α) k (D ||| 2 ^ s))
    have hst := (zss_step hA hss f1 f2'.1).1
    obtain ⟨u, hu⟩ : ∃ u, u = zuI (zuI σ 37 i (nI s)) 34 6 (nI (len + 1)) := ⟨_, rfl⟩
    have g1 : zag zWI σ u := by rw [hu]; exact zag_t (zag_w (W1 := [(37, none)]) (by simp) (zag_all zag_uI)) (zag_w (W1 := [(34, some 6)]) (by simp) zag_uI)
    obtain ⟨s9, c1, c2, c3, c4, c5, c6⟩ := zw_plan95 hN hW hWb k m (i + 1) (D ||| 2 ^ s) (len + 1) u hst (by omega) (by omega) (hC.frI g1) (hT.mv (fun D => (g1 35 D (by decide) (by simp)).1) (fun D => (g1 36 D (by decide) (by simp)).1)) (by rw [hu, zuI_n (by simp), zuI_n (by simp)]; exact hw) (by rw [hu, zuI_s]) (fun _ => by omega)
    refine ⟨s9, ?_, zag_t g1 c2, c3, by rw [c4]; congr 1; omega, fun j hj => ?_, fun j t q => ?_⟩
    · show b_X4_plan_95 N (f_X4_plan_95 N m) (nI (zca α)) (nI D) (nI i) σ = _
      unfold b_X4_plan_95
      rw [if_neg (by rw [show (4 : Int32) = nI 4 from rfl]; exact nI_ge (by omega) (by omega)), if_neg (fun q => hne (nI_inj (by have := hss.1; omega) (by omega) q)), fs]
      unfold zbd
      rw [Option.bind_some]
      try simp only
      rw [zast_nI (show i < 4 by omega) (by decide), Option.bind_some, zald_nI (show i < 4 by omega) (by decide), Option.bind_some, zuI_s, zor_nI hss.1 f1, Option.bind_some]
      unfold zpI
      rw [Option.bind_some, zuI_n (show ¬ (34 = 37 ∧ 6 = i) by omega), hl, nI_1, nI_1, ← hu, Option.bind_some]
      exact c1
    · rw [c5 j (by omega), hu, zuI_n (by simp), zuI_n (fun r => by omega)]
    · have e : zgl (zca α) (zg α) W (k + 1) D = s :: zgl (zca α) (zg α) W k (D ||| 2 ^ s) := by
        show zft (zgo (zca α) (zg α) W D k) 4 0 :: zgl (zca α) (zg α) W k (D ||| 2 ^ zft (zgo (zca α) (zg α) W D k) 4 0) = _
        rw [← hs]
      rw [e] at q
      cases j with
      | zero =>
        have : s = t := by simpa using q
        subst this
        rw [Nat.add_zero, c5 i (by omega), hu, zuI_n (by simp), zuI_s]
      | succ j =>
        have q' : (zgl (zca α) (zg α) W k (D ||| 2 ^ s))[j]? = some t := by simpa using q
        have := c6 j t q'
        rw [show i + 1 + j = i + (j + 1) by omega] at this
        exact this
theorem zw_plan7 {N : Nat} (hN : 700 < N) {α : AS} (hW : WF α) : ∀ (d m : Nat) (σ : ZM), d ≤ zca α + 1 → d < m → RC α σ → ChOK α σ → TB α (zca α) d σ → ∃ σ', f_X4_plan_7 N m (nI (zca α)) (nI d + (-1)) σ = some ((), σ') ∧ RC α σ' ∧ ChOK α σ' ∧ σ'.1 34 7 = nI (zhh (zca α) (zg α) (zpc (zca α)) 0) ∧ σ'.1 34 6 = nI (zpc (zca α)) ∧ ∀ j s, (zgl (zca α) (zg α) (zhh (zca α) (zg α) (zpc (zca α)) 0) (zpc (zca α)) 0)[j]? = some s → σ'.1 37 j = nI s
  | 0, m, σ, hd, hm, hC, hF, hT => by
    have hA := zca_lt hW
    obtain ⟨m, rfl⟩ : ∃ q, m = q + 1 := ⟨m - 1, by omega⟩
    have h0 := (hT 0 (by omega) (by omega) (Nat.zero_and _)).2
    have hz0 : zpc 0 = 0 := by decide
    rw [hz0, Nat.sub_zero] at h0
    obtain ⟨W, hWe⟩ : ∃ W, W = zhh (zca α) (zg α) (zpc (zca α)) 0 := ⟨_, rfl⟩
    rw [← hWe] at h0 ⊢
    have hss : zss (zca α) 0 (zpc (zca α)) := by
      have := zss_of hA (show 0 < 16 by decide) (Nat.zero_and _)
      rw [hz0, Nat.sub_zero] at this
      exact this
    obtain ⟨u, hu⟩ : ∃ u, u = zuI (zuI σ 34 7 (nI W)) 34 6 0 := ⟨_, rfl⟩
    have g1 : zag zWI σ u := by rw [hu]; exact zag_t (zag_w (W1 := [(34, some 7)]) (by simp) zag_uI) (zag_w (W1 := [(34, some 6)]) (by simp) zag_uI)
    obtain ⟨s9, c1, c2, c3, c4, c5, c6⟩ := zw_plan95 (N := N) (by omega) hW (W := W) (by rw [hWe]; exact zhh_le _ _) (zpc (zca α)) N 0 0 0 u hss (by have := zpc_le (zca α); omega) (by have := zpc_le (zca α); omega) (hC.frI g1) (hT.mv (fun D => (g1 35 D (by decide) (by simp)).1) (fun D => (g1 36 D (by decide) (by simp)).1)) (by rw [hu, zuI_n (by simp), zuI_s]) (by rw [hu, zuI_s]; rfl) (fun _ => by omega)
    have g9 := zag_t g1 c2
    refine ⟨s9, ?_, hC.frI g9, ?_, c3, by rw [c4, Nat.zero_add], fun j s q => by have := c6 j s q; rw [Nat.zero_add] at this; exact this⟩
    · show b_X4_plan_7 N (f_X4_plan_7 N m) (nI (zca α)) (nI 0 + (-1)) σ = _
      unfold b_X4_plan_7 zpI
      rw [if_pos (by decide), show (0 : Int32) = nI 0 from rfl, zald_nI (show 0 < 16 by decide) (by decide), Option.bind_some, h0, Option.bind_some, Option.bind_some, show nI 0 = (0 : Int32) from rfl, ← hu]
      exact c1
    · exact hF.cg (β := α) ⟨rfl, rfl, fun _ _ _ => rfl⟩ (g9 23 14 (by decide) (by decide)).1 (fun a => (g9 30 a (by decide) (by simp)).1) (fun a => (g9 31 a (by decide) (by simp)).1)
  | d + 1, m, σ, hd, hm, hC, hF, hT => by
    have hA := zca_lt hW
    have hd16 : d < 16 := by omega
    obtain ⟨m, rfl⟩ : ∃ q, m = q + 1 := ⟨m - 1, by omega⟩
    rw [pk_m1]
    have nn : ¬ nI d < 0 := fun q => by rw [Int32.lt_iff_toInt_lt, nI_toInt (by omega)] at q; have : (0 : Int32).toInt = 0 := rfl; omega
    have go : ∀ u, f_X4_plan_70 N (f_X4_plan_7 N m) (nI (zca α)) (nI d) u = f_X4_plan_7 N m (nI (zca α)) (nI d + (-1)) u := fun u => by
      unfold f_X4_plan_70
      rw [Option.bind_some]
    show ∃ σ', b_X4_plan_7 N (f_X4_plan_7 N m) (nI (zca α)) (nI d) σ = some ((), σ') ∧ _
    unfold b_X4_plan_7
    rw [if_neg nn]
    by_cases hs : d &&& zca α = d
    · rw [if_pos ((zclr hd16 hA).mpr hs)]
      obtain ⟨s1, a1, a2⟩ := zw_pickBehind (N := N) (by omega) hW hC hd16
      have fa := fr_X4_pickBehind a1
      have hc1 := hC.fr32 fa
      obtain ⟨s2, b1, b2, b3, b4, b5, -⟩ := zw_measure hN hW hc1 (hF.mv (zag_w (by simp) fa)) (zplc_lt (zpb_le hW d)) a2
      obtain ⟨s3, hs3⟩ : ∃ s3, s3 = zuI s2 35 d (nI (zg α d)) := ⟨_, rfl⟩
      have o35 : ∀ D, s2.1 35 D = σ.1 35 D := fun D => by rw [(b2 35 D (by decide) (by simp)).1, (fa 35 D (by decide) (by simp)).1]
      have o36 : ∀ D, s2.1 36 D = σ.1 36 D := fun D => by rw [(b2 36 D (by decide) (by simp)).1, (fa 36 D (by decide) (by simp)).1]
      have t3 : TB α (zca α) (d + 1) s3 := fun D h1 h2 h3 => by
        obtain ⟨q1, q2⟩ := hT D h1 h2 h3
        rw [hs3, zuI_n (fun r => by omega), zuI_n (by simp), o35, o36]
        exact ⟨q1, q2⟩
      have hc3 : RC α s3 := b3.fr (W := [(35, none)]) (by rw [hs3]; exact zag_all zag_uI) (by decide +kernel) (by decide +kernel) (by decide +kernel) (by decide) (by decide)
      have lw := zw_leastWorst (N := N) (by omega) hW hc3 hd16 hs t3
      obtain ⟨s4, hs4⟩ : ∃ s4, s4 = zuI s3 36 d (nI (zhh (zca α) (zg α) (zpc (zca α) - zpc d) d)) := ⟨_, rfl⟩
      have t4 : TB α (zca α) d s4 := fun D h1 h2 h3 => by
        by_cases e : D = d
        · subst e
          rw [hs4, zuI_n (by simp), zuI_s, hs3, zuI_s]
          exact ⟨rfl, rfl⟩
        · obtain ⟨q1, q2⟩ := t3 D (by omega) h2 h3
          rw [hs4, zuI_n (by simp), zuI_n (fun r => e r.2)]
          exact ⟨q1, q2⟩
      have hc4 : RC α s4 := hc3.fr (W := [(36, none)]) (by rw [hs4]; exact zag_all zag_uI) (by decide +kernel) (by decide +kernel) (by decide +kernel) (by decide) (by decide)
      have hf4 : ChOK α s4 := by
        refine ChOK.cg (α := α) (β := α) (σ := s2) ⟨rfl, rfl, fun _ _ _ => rfl⟩ (Or.inr b4) ?_ (fun a => ?_) (fun a => ?_)
        · rw [hs4, zuI_n (by simp), hs3, zuI_n (by simp)]
        · rw [hs4, zuI_n (by simp), hs3, zuI_n (by simp)]
        · rw [hs4, zuI_n (by simp), hs3, zuI_n (by simp)]
      obtain ⟨s9, c1, c2⟩ := zw_plan7 hN hW d m s4 (by omega) (by omega) hc4 hf4 t4
      refine ⟨s9, ?_, c2⟩
      rw [a1]
      unfold zbd
      rw [Option.bind_some]
      try simp only
      rw [b1, Option.bind_some]
      try simp only
      rw [zald_nI (zplc_lt (zpb_le hW d)) (by decide), Option.bind_some]
      have fin : f_X4_plan_57 N (f_X4_plan_7 N m) (nI (zca α)) (nI d) (nI (zg α d)) (nI d) s2 = some ((), s9) := by
        unfold f_X4_plan_57
        rw [zast_nI hd16 (by decide), Option.bind_some, ← hs3, lw]
        unfold zbd
        rw [Option.bind_some]
        try simp only
        rw [zast_nI hd16 (by decide), Option.bind_some, ← hs4, go]
        exact c1
      cases hx : zEv α (zplc (zpb α d)) with
      | none =>
        have eg : zg α d = 1000000 := by unfold zg; rw [hx]; rfl
        rw [eg] at fin
        rw [b5.getn hx, if_pos rfl]
        exact fin
      | some x =>
        have hb := zEv_le hW hx
        have eg : zg α d = x.1 := by unfold zg; rw [hx]; rfl
        rw [eg] at fin
        rw [(b5.gets hx).1, if_neg (nI_m9 (by omega))]
        exact fin
    · rw [if_neg (fun q => hs ((zclr hd16 hA).mp q)), go]
      refine zw_plan7 hN hW d m σ (by omega) (by omega) hC hF (fun D h1 h2 h3 => ?_)
      exact hT D (by
        by_cases e : D = d
        · subst e; exact absurd h3 hs
        · omega) h2 h3
theorem zw_plan {N : Nat} (hN : 700 < N) {α : AS} {σ : ZM} (hW : WF α) (hC : RC α σ) (hF : ChOK α σ) : ∃ σ', f_X4_plan N σ = some ((), σ') ∧ RC α σ' ∧ ChOK α σ' ∧ σ'.1 34 7 = nI (zhh (zca α) (zg α) (zpc (zca α)) 0) ∧ σ'.1 34 6 = nI (zpc (zca α)) ∧ (∀ j s, (zgl (zca α) (zg α) (zhh (zca α) (zg α) (zpc (zca α)) 0) (zpc (zca α)) 0)[j]? = some s → σ'.1 37 j = nI s) ∧ zag zWY σ σ' := by
  have hA := zca_lt hW
  obtain ⟨s9, c1, c2, c3, c4, c5, c6⟩ := zw_plan7 hN hW (zca α + 1) N σ (Nat.le_refl _) (by omega) hC hF (fun D h1 h2 _ => by omega)
  rw [pk_m1] at c1
  have ef : f_X4_plan N σ = some ((), s9) := by
    unfold f_X4_plan
    rw [zw_toChange (by omega) hW hC]
    exact c1
  exact ⟨s9, ef, c2, c3, c4, c5, c6, zag_none (fr_X4_plan ef) (by decide)⟩
