/-! ===== the class: what comes to a net, and which of it a net takes ===== -/
def zen (o : Option (Nat × Nat × List Nat)) : Int64 := match o with
  | none => 0
  | some x => lN (wn x.1 x.2.1 x.2.2)
theorem lg_eq0 (x y : Int64) : lg_cmp x y = 0 ↔ x = y := by
  unfold lg_cmp
  constructor
  · intro h
    split at h
    · exact absurd h (by decide)
    · split at h
      · assumption
      · exact absurd h (by decide)
  · intro h
    subst h
    have : ¬ x > x := by simp [Int64.lt_iff_toInt_lt]
    rw [if_neg this, if_pos rfl]
theorem zen_ne0 {x : Nat × Nat × List Nat} (h : zvw x.1 x.2.1 x.2.2) : zen (some x) ≠ 0 := by
  intro e
  have h1 := wn_lt h
  have h2 := wn_pos (s := x.1) (nm := x.2.1) (p := x.2.2)
  have := (pk_lEQ (a := wn x.1 x.2.1 x.2.2) (b := 0) (by omega) (by decide)).mp e
  omega
theorem zen_inj {a b : Option (Nat × Nat × List Nat)} (ha : ∀ x, a = some x → zvw x.1 x.2.1 x.2.2) (hb : ∀ x, b = some x → zvw x.1 x.2.1 x.2.2) (h : zen a = zen b) : a = b := by
  cases a with
  | none =>
    cases b with
    | none => rfl
    | some y => exact absurd h.symm (zen_ne0 (hb y rfl))
  | some x =>
    cases b with
    | none => exact absurd h (zen_ne0 (ha x rfl))
    | some y =>
      have h1 := ha x rfl
      have h2 := hb y rfl
      have l1 := wn_lt h1
      have l2 := wn_lt h2
      have e := (pk_lEQ (by omega) (by omega)).mp (show lN (wn x.1 x.2.1 x.2.2) = lN (wn y.1 y.2.1 y.2.2) from h)
      obtain ⟨e1, e2, e3⟩ := wn_inj h1 h2 e
      rw [show x = y from Prod.ext e1 (Prod.ext e2 e3)]
def ZSd (α κ : AS) (w1 : Nat) (σ : ZM) : Prop := ∃ (a : Nat) (u k : Nat → Nat), a ≤ 4 ∧ a ≤ α 0 2 ∧ σ.1 w1 0 = nI a ∧ (∀ s, 4 ≤ s → κ 0 s = 4) ∧ ∀ s, s < 4 → σ.1 (w1 + 1) s = nI (k s) ∧ σ.1 (w1 + 2) s = nI (κ 1 s) ∧ σ.1 (w1 + 3) s = nI (κ 2 s) ∧ σ.1 (w1 + 4) s = nI (u s) ∧ u s ≤ 1 ∧ k s ≤ 4 ∧ κ 0 s = if s < a ∧ u s = 1 then k s else 4
def CC (α κ : AS) (w1 : Nat) (w : WD) (σ : ZM) : Prop := RC α σ ∧ ZSd α κ w1 σ ∧ (∀ n, n < α 0 0 → σ.1 18 n = nI (κ 3 n)) ∧ ∀ n, n < 10 → σ.2 19 n = zen (w n)
abbrev zWH : List (Nat × Option Nat) := [(17, some 5), (20, none), (21, none), (22, none)]
theorem ZSd.fr {α κ : AS} {w1 : Nat} {σ σ' : ZM} {W : List (Nat × Option Nat)} (h : ZSd α κ w1 σ) (hW : zag W σ σ') (h1 : ∀ d, d < 5 → (w1 + d, none) ∉ W ∧ ∀ i, i < 4 → (w1 + d, some i) ∉ W) : ZSd α κ w1 σ' := by
  obtain ⟨a, u, k, g1, g2, g3, g4, g5⟩ := h
  refine ⟨a, u, k, g1, g2, ?_, g4, fun s hs => ?_⟩
  · rw [(hW w1 0 (h1 0 (by decide)).1 ((h1 0 (by decide)).2 0 (by decide))).1]; exact g3
  · obtain ⟨q1, q2, q3, q4, q5⟩ := g5 s hs
    refine ⟨?_, ?_, ?_, ?_, q5⟩
    · rw [(hW (w1 + 1) s (h1 1 (by decide)).1 ((h1 1 (by decide)).2 s hs)).1]; exact q1
    · rw [(hW (w1 + 2) s (h1 2 (by decide)).1 ((h1 2 (by decide)).2 s hs)).1]; exact q2
    · rw [(hW (w1 + 3) s (h1 3 (by decide)).1 ((h1 3 (by decide)).2 s hs)).1]; exact q3
    · rw [(hW (w1 + 4) s (h1 4 (by decide)).1 ((h1 4 (by decide)).2 s hs)).1]; exact q4
def zwc (w1 : Nat) : Prop := w1 = 12 ∨ 24 ≤ w1
theorem zWH_out {w1 : Nat} (h : zwc w1) : ∀ d, d < 5 → (w1 + d, none) ∉ zWH ∧ ∀ i, i < 4 → (w1 + d, some i) ∉ zWH := by
  unfold zwc at h
  intro d hd
  refine ⟨fun q => ?_, fun i _ q => ?_⟩
  · simp at q; omega
  · simp at q; omega
theorem CC.fr {α κ : AS} {w1 : Nat} {w : WD} {σ σ' : ZM} (hw : zwc w1) (hn : α 0 0 ≤ 10) (h : CC α κ w1 w σ) (hW : zag zWH σ σ') : CC α κ w1 w σ' := by
  refine ⟨h.1.fr hW (by decide +kernel) (by decide +kernel) (by decide +kernel) (by decide) (by decide), h.2.1.fr hW (zWH_out hw), fun n hh => ?_, fun n hh => ?_⟩
  · rw [(hW 18 n (by decide) (by simp)).1]; exact h.2.2.1 n hh
  · rw [(hW 19 n (by decide) (by simp)).2]; exact h.2.2.2 n hh
theorem zk0 {a : Nat} (h : a ≠ 0) (ha : a < 2 ^ 31 := by omega) : ¬ nI a = (0 : Int32) := fun e => h (nI_inj (b := 0) ha (by decide) (e.trans rfl))
theorem zk1 {a : Nat} (h : a ≠ 1) (ha : a < 2 ^ 31 := by omega) : ¬ nI a = (1 : Int32) := fun e => h (nI_inj (b := 1) ha (by decide) (e.trans rfl))
theorem zk2 {a : Nat} (h : a ≠ 2) (ha : a < 2 ^ 31 := by omega) : ¬ nI a = (2 : Int32) := fun e => h (nI_inj (b := 2) ha (by decide) (e.trans rfl))
theorem zk3 {a : Nat} (h : a ≠ 3) (ha : a < 2 ^ 31 := by omega) : ¬ nI a = (3 : Int32) := fun e => h (nI_inj (b := 3) ha (by decide) (e.trans rfl))
theorem zk4 {a : Nat} (h : a ≠ 4) (ha : a < 2 ^ 31 := by omega) : ¬ nI a = (4 : Int32) := fun e => h (nI_inj (b := 4) ha (by decide) (e.trans rfl))
theorem zk16 {a : Nat} (h : a ≠ 16) (ha : a < 2 ^ 31 := by omega) : ¬ nI a = (16 : Int32) := fun e => h (nI_inj (b := 16) ha (by decide) (e.trans rfl))
theorem nI_m9 {a : Nat} (h : a < 2 ^ 31) : ¬ nI a = (-9 : Int32) := by
  intro e
  have := congrArg Int32.toInt e
  rw [nI_toInt h] at this
  have h9 : (-9 : Int32).toInt = -9 := rfl
  omega
/-! bits of small sets -/
theorem zbit0 {h n : Nat} (hh : h < 2 ^ 31) (hn : n < 31) : ((nI h >>> (nI n &&& 31)) &&& (1 : Int32)) = nI (if h.testBit n then 1 else 0) := by
  have e1 : nI n &&& 31 = nI n := by
    rw [pk_andN (n := n) (by omega) 5 (by decide), Nat.mod_eq_of_lt (by omega)]
  have e2 : (nI n).toBitVec.smod 32 = BitVec.ofNat 32 n := by
    have : ∀ k, k < 31 → (BitVec.ofNat 32 k).smod 32 = BitVec.ofNat 32 k := by decide +kernel
    exact this n hn
  rw [e1, pk_shrN hh (nI n) n (by rw [e2, BitVec.toNat_ofNat]; exact Nat.mod_eq_of_lt (by omega))]
  have hd : h / 2 ^ n < 2 ^ 31 := Nat.lt_of_le_of_lt (Nat.div_le_self _ _) hh
  rw [pk_andN (n := h / 2 ^ n) (by omega) 1 (by decide)]
  congr 1
  rw [Nat.testBit_eq_decide_div_mod_eq]
  by_cases h1 : h / 2 ^ n % 2 = 1
  · simp [h1]
  · have : h / 2 ^ n % 2 = 0 := by omega
    simp [this]
theorem zbitZ {h n : Nat} (hh : h < 2 ^ 31) (hn : n < 31) : (((nI h >>> (nI n &&& 31)) &&& (1 : Int32)) = 0) ↔ h.testBit n = false := by
  rw [zbit0 hh hn]
  cases h.testBit n
  · simp [nI_0]
  · constructor
    · intro q; exact absurd q (by decide)
    · intro q; cases q
theorem zbit1 {h n : Nat} (hh : h < 2 ^ 31) (hn : n < 31) : (((nI h >>> (nI n &&& 31)) &&& (1 : Int32)) = 1) ↔ h.testBit n = true := by
  rw [zbit0 hh hn]
  cases h.testBit n
  · constructor
    · intro q; exact absurd q (by decide)
    · intro q; cases q
  · simp; rfl
theorem RC.bond {α : AS} {σ : ZM} (h : RC α σ) {N a b : Nat} (ha : a < 10) (hb : b < 10) : f_X3_bond N (nI a) (nI b) σ = some (nI (α 1 (10 * a + b)), σ) := by
  unfold f_X3_bond
  rw [(zmul10 a b).1, zald_nI (show 10 * a + b < 100 by omega) (by decide)]
  have := h.at 4 0 1 0 100 (by decide) (i := 10 * a + b) (by omega)
  rw [Nat.zero_add] at this
  rw [this]; rfl
theorem zw_isSaid {N : Nat} {α κ : AS} {w1 : Nat} {σ : ZM} (h : ZSd α κ w1 σ) {i : Nat} (hi : i < 4) : f_X7_isSaid N w1 (nI i) σ = some (zbI (κ 0 i ≠ 4), σ) := by
  obtain ⟨a, u, k, g1, g2, g3, g4, g5⟩ := h
  obtain ⟨q1, q2, q3, q4, q5, q6, q7⟩ := g5 i hi
  unfold f_X7_isSaid zbI
  rw [g3]
  by_cases h1 : a ≤ i
  · have : κ 0 i = 4 := by rw [q7, if_neg (by omega)]
    rw [if_pos (nI_le h1 (by omega)), if_neg (fun q => q this)]
  · rw [if_neg (nI_ge (by omega) (by omega)), zald_nI hi (by decide), q4, zald_nI hi (by decide), q1]
    simp only [Option.bind_some]
    rcases (show u i = 0 ∨ u i = 1 by omega) with hu | hu
    · have : κ 0 i = 4 := by rw [q7, if_neg (by omega)]
      rw [hu, if_pos (show nI 0 = 0 from rfl), if_neg (fun q => q this)]
    · have e : κ 0 i = k i := by rw [q7, if_pos ⟨by omega, hu⟩]
      rw [hu, if_neg (show ¬ nI 1 = 0 by decide), e]
      by_cases hk : k i = 4
      · rw [if_pos (show nI (k i) = 4 by rw [hk]; rfl), if_neg (fun q => q hk)]
      · rw [if_neg (zk4 hk), if_pos hk]
theorem ZSd.hold {α κ : AS} {w1 : Nat} {σ : ZM} (h : ZSd α κ w1 σ) {s : Nat} (hs : s < 4) : zald σ (w1 + 2) 4 (nI s) = some (nI (κ 1 s)) ∧ zald σ (w1 + 3) 4 (nI s) = some (nI (κ 2 s)) := by
  obtain ⟨a, u, k, g1, g2, g3, g4, g5⟩ := h
  obtain ⟨q1, q2, q3, q4⟩ := g5 s hs
  rw [zald_nI hs (by decide), zald_nI hs (by decide), q2, q3]
  exact ⟨rfl, rfl⟩
theorem zw_passed1 {N : Nat} {s nm : Nat} {p : List Nat} (h : zvw s nm p) (σ : ZM) : f_X2_passedAt N (lN (wn s nm p)) 1 σ = some ((match p[1]? with | some a => nI a | none => -9), σ) := by
  rw [zw_passedAt h]
  have e : (1 : Int32).toInt = 1 := rfl
  simp only [e]
  rfl
theorem zlE {k : Nat} (h : k ≤ 1) : lg_cmp (lN k) 0 = 0 ↔ k = 0 := by
  rw [lg_eq0, show (0 : Int64) = lN 0 from rfl]
  exact pk_lEQ (by omega) (by decide)
theorem zw_passesOn {N : Nat} {α κ : AS} {w1 : Nat} {w : WD} {σ : ZM} (hW : WF α) (hK : KW α κ) (hV : VW α κ w) (h : CC α κ w1 w σ) {m n : Nat} (hm : m < 10) (hn : n < 10) : f_X2_passesOn N w1 (nI m) (nI n) σ = some (zbI (∃ x, w m = some x ∧ zpas2 α κ n m x = true), σ) := by
  obtain ⟨hC, hS, hR, hO⟩ := h
  unfold f_X2_passesOn
  rw [zalJ_nI hm (by decide), hO m hm]
  simp only [Option.bind_some]
  cases hw : w m with
  | none =>
    rw [if_pos (show lg_cmp (zen none) 0 = 0 from (lg_eq0 _ _).mpr rfl), zbI_f (by simp)]
  | some x =>
    obtain ⟨v1, v2, v3, v4, v5⟩ := hV m x hw
    have hl := wn_lt v2
    rw [if_neg (fun q => zen_ne0 v2 ((lg_eq0 _ _).mp q))]
    have e1 : zsrlJ (zen (some x)) ((48 : Int32) + nI n) &&& (1 : Int64) = lN (zE x.2.2 n) := by
      rw [show (48 : Int32) = nI 48 from rfl, nI_add, ← wn_bit v2 hn]
      exact wb_bit (by omega) (by omega)
    rw [e1]
    have hbi : (∃ y, some x = some y ∧ zpas2 α κ n m y = true) ↔ zpas2 α κ n m x = true := ⟨fun ⟨y, e, q⟩ => by cases e; exact q, fun q => ⟨x, rfl, q⟩⟩
    by_cases hp : n ∈ x.2.2
    · have : ¬ lg_cmp (lN (zE x.2.2 n)) 0 = 0 := by rw [zlE (zE_le _ _)]; simp [zE, hp]
      rw [if_neg this, zbI_f (by rw [hbi]; simp [zpas2, hp])]
    · have : lg_cmp (lN (zE x.2.2 n)) 0 = 0 := by rw [zlE (zE_le _ _)]; simp [zE, hp]
      rw [if_pos this, show zen (some x) = lN (wn x.1 x.2.1 x.2.2) from rfl, zw_siteOf v2]
      simp only [zbd, Option.bind_some]
      rw [if_neg (nI_pos (show x.1 < 2 ^ 31 by have := v2.1; omega)), (hS.hold v2.1).1]
      simp only [Option.bind_some]
      have hk1 := hK.2.2.1 x.1
      by_cases hb : (κ 1 x.1).testBit n = true
      · have : ¬ ((nI (κ 1 x.1) >>> (nI n &&& 31)) &&& (1 : Int32)) = 0 := by rw [zbitZ (by omega) (by omega), hb]; simp
        rw [if_neg this, zbI_f (by rw [hbi]; simp [zpas2, hb])]
      · have hb : (κ 1 x.1).testBit n = false := by simpa using hb
        have : ((nI (κ 1 x.1) >>> (nI n &&& 31)) &&& (1 : Int32)) = 0 := by rw [zbitZ (by omega) (by omega), hb]
        rw [if_pos this, zw_passed1 v2]
        simp only [Option.bind_some]
        cases hq : x.2.2[1]? with
        | none =>
          rw [if_pos rfl, zbI_t (by rw [hbi]; simp [zpas2, hb, hp, hq])]
        | some q =>
          have hq10 : q < 10 := v2.2.2.2.2.2.1 q (List.mem_of_getElem? hq)
          simp only
          rw [if_neg (nI_m9 (by omega)), hC.bond hm hq10]
          simp only [Option.bind_some]
          have t1 := hW.2.1.1 (10 * m + q)
          have t2 := hW.2.1.1 (10 * m + n)
          have hn2 := hK.2.2.2.1 x.1
          have h103 : f_X2_passesOn_103 N w1 (nI x.1) σ = some (zbI (κ 2 x.1 = 0), σ) := by
            unfold f_X2_passesOn_103 f_X2_passesOn_108
            rw [if_neg (show ¬ (1 : Int32) = 0 by decide), (hS.hold v2.1).2]
            simp only [Option.bind_some]
            unfold zbI
            rcases (show κ 2 x.1 = 0 ∨ κ 2 x.1 = 1 by omega) with h0 | h0
            · rw [h0]; rfl
            · rw [h0]; rfl
          have h108 : f_X2_passesOn_108 N w1 (nI x.1) 0 σ = some (0, σ) := by
            unfold f_X2_passesOn_108; rw [if_pos rfl]
          by_cases c1 : α 1 (10 * m + q) = 1
          · rw [if_pos (show nI (α 1 (10 * m + q)) = 1 by rw [c1]; rfl), h103]
            congr 2
            unfold zbI
            by_cases h0 : κ 2 x.1 = 0
            · rw [if_pos h0, if_pos (by rw [hbi]; simp [zpas2, hb, hp, hq, c1, h0])]
            · rw [if_neg h0, if_neg (by rw [hbi]; simp [zpas2, hb, hp, hq, c1, h0])]
          · rw [if_neg (zk1 c1), hC.bond hm hn]
            simp only [Option.bind_some]
            by_cases c2 : α 1 (10 * m + n) = 1
            · rw [if_pos (show nI (α 1 (10 * m + n)) = 1 by rw [c2]; rfl), h103]
              congr 2
              unfold zbI
              by_cases h0 : κ 2 x.1 = 0
              · rw [if_pos h0, if_pos (by rw [hbi]; simp [zpas2, hb, hp, hq, c2, h0])]
              · rw [if_neg h0, if_neg (by rw [hbi]; simp [zpas2, hb, hp, hq, c2, h0])]
            · rw [if_neg (zk1 c2), h108, zbI_f (by rw [hbi]; simp [zpas2, hb, hp, hq, c1, c2])]
