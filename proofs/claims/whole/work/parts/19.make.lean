/-! ===== net and site ===== -/
theorem zuI_id {σ : ZM} {k i : Nat} {x : Int32} (h : σ.1 k i = x) : zuI σ k i x = σ := by
  apply Prod.ext
  · funext a j
    simp only [zuI]
    by_cases ha : a = k
    · subst ha
      rw [if_pos rfl]
      by_cases hj : j = i
      · subst hj; simp [upd, h]
      · simp [upd, hj]
    · rw [if_neg ha]
  · rfl
theorem RC.setG {α : AS} {σ : ZM} (h : RC α σ) (c o k ko b : Nat) (hc : zcoh TC c o k ko b = true) (h2 : zoff TS c k = true) (h3 : zoff TA c k = true) (hk : k ≠ 1) (h5 : 5 ≠ c) (h6 : 6 ≠ c) {j : Nat} (hj : j < b) (v : Nat) {x : Int32} (hx : x = nI v) : RC (au α k (ko + j) v) (zuI σ c (o + j) x) :=
  ⟨zrt_upd h.1 hc hj v hx, zrt_off h.2.1 h2, zrt_off h.2.2.1 h3, (zmask_au hk).1.mpr (zmask_set h.2.2.2.1 h5), (zmask_au hk).2.mpr (zmask_set h.2.2.2.2 h6)⟩
theorem RM.setG {α : AS} {σ : ZM} (h : RM α σ) (c o k ko b : Nat) (hc : zcoh TM c o k ko b = true) (hk : k ≠ 11 ∧ k ≠ 17) (h5 : 11 ≠ c ∧ 33 ≠ c) {j : Nat} (hj : j < b) (h0 : ¬ (k = 0 ∧ (ko + j = 2 ∨ ko + j = 3))) (v : Nat) {x : Int32} (hx : x = nI v) : RM (au α k (ko + j) v) (zuI σ c (o + j) x) := by
  refine ⟨zrt_upd h.1 hc hj v hx, fun s hs => ?_, fun t ht n hn => ?_⟩
  · rw [au_n (fun q => h0 ⟨q.1.symm, Or.inl q.2.symm⟩)] at hs
    rw [zuI_n (fun q => h5.1 q.1), au_n (fun q => hk.1 q.1.symm)]
    exact h.2.1 s hs
  · rw [au_n (fun q => h0 ⟨q.1.symm, Or.inr q.2.symm⟩)] at ht
    rw [zuI_n (fun q => h5.2 q.1), au_n (fun q => hk.2 q.1.symm)]
    exact h.2.2 t ht n hn
theorem nI_inj {a b : Nat} (ha : a < 2 ^ 31) (hb : b < 2 ^ 31) (h : nI a = nI b) : a = b := (nI_eq ha hb).mp h
theorem WF.net {α β : AS} (h : WF α) (hn : α 0 0 < 10) (b00 : β 0 0 = α 0 0 + 1) (b0 : ∀ i, i ≠ 0 → β 0 i = α 0 i) (bk : ∀ k i, k ≠ 0 → k ≠ 2 → k ≠ 3 → β k i = α k i) (b2 : ∀ i, β 2 i ≤ 10000) (b3 : ∀ i, i < α 0 0 → β 3 i = α 3 i) (b3n : β 3 (α 0 0) = 1) : WF β := by
  obtain ⟨h1, h2, h3, h4, h5, h6, h7⟩ := h
  have c1 := fun i => bk 1 i (by decide) (by decide) (by decide)
  have c4 := fun i => bk 4 i (by decide) (by decide) (by decide)
  have c5 := fun i => bk 5 i (by decide) (by decide) (by decide)
  have c6 := fun i => bk 6 i (by decide) (by decide) (by decide)
  have c7 := fun i => bk 7 i (by decide) (by decide) (by decide)
  have c8 := fun i => bk 8 i (by decide) (by decide) (by decide)
  have c9 := fun i => bk 9 i (by decide) (by decide) (by decide)
  have c10 := fun i => bk 10 i (by decide) (by decide) (by decide)
  have c11 := fun i => bk 11 i (by decide) (by decide) (by decide)
  have c12 := fun i => bk 12 i (by decide) (by decide) (by decide)
  have c13 := fun i => bk 13 i (by decide) (by decide) (by decide)
  have c14 := fun i => bk 14 i (by decide) (by decide) (by decide)
  have c15 := fun i => bk 15 i (by decide) (by decide) (by decide)
  have c16 := fun i => bk 16 i (by decide) (by decide) (by decide)
  have c17 := fun i => bk 17 i (by decide) (by decide) (by decide)
  have d1 := b0 1 (by decide)
  have d2 := b0 2 (by decide)
  have d3 := b0 3 (by decide)
  have hp : 2 ^ α 0 0 ≤ 2 ^ (α 0 0 + 1) := Nat.pow_le_pow_right (by decide) (by omega)
  refine ⟨⟨by omega, by rw [d1]; exact h1.2.1, by rw [d2]; exact h1.2.2.1, by rw [d3]; exact h1.2.2.2⟩, ⟨fun i => by rw [c1]; exact h2.1 i, fun a b ha hb => by rw [c1, c1]; exact h2.2.1 a b ha hb, fun a ha => by rw [c1]; exact h2.2.2.1 a ha, fun a b ha hb q => by rw [c1]; exact h2.2.2.2 a b ha hb (by omega)⟩, fun n q => ?_, ⟨b2, fun s => by rw [c5]; exact h4.2.1 s, fun i => by rw [c10]; exact h4.2.2 i⟩, fun s q => ?_, ⟨fun s => by rw [c6]; exact h6.1 s, fun s => by rw [c7]; exact h6.2.1 s, fun s => ?_, fun s => by rw [c9]; exact h6.2.2.2.1 s, fun s q => ?_, fun s => ?_⟩, ⟨fun t => by rw [c12, d2]; exact h7.1 t, fun i => by rw [c13]; exact h7.2.1 i, fun i => ?_, fun i => by rw [c15]; exact h7.2.2.2.1 i, fun i => by rw [c16]; exact h7.2.2.2.2.1 i, fun t n q => ?_⟩⟩
  · by_cases e : n = α 0 0
    · rw [e, b3n]; omega
    · rw [b3 n (by omega)]; exact h3 n (by omega)
  · rw [c4, b00]
    have := h5 s (by rw [← d2]; exact q)
    omega
  · rw [c8, b00]
    exact Nat.lt_of_lt_of_le (h6.2.2.1 s) hp
  · rw [c6, c7, c8, c9]
    exact h6.2.2.2.2.1 s (by rw [← d2]; exact q)
  · rw [c11, d2]
    exact h6.2.2.2.2.2 s
  · rw [c14, b00]
    exact Nat.lt_of_lt_of_le (h7.2.2.1 i) hp
  · rw [c17, d2, d3, b00]
    obtain ⟨g1, g2, g3⟩ := h7.2.2.2.2.2 t n q
    exact ⟨g1, g2, fun z => g3 (by omega)⟩
theorem mu_net (N : Nat) (x : Int32) : zMut (f_X8_net N x) (f_X9_net N x) := by
  intro α σc σm hW hC hM
  have hn : α 0 0 ≤ 10 := hW.1.1
  have ev : (10000 : Int32).toInt = 10000 := by decide
  have ej : (10000 : Int64).toInt = 10000 := by decide
  have e0 : (0 : Int64).toInt = 0 := by decide
  by_cases h2 : 0 ≤ x.toInt ∧ x.toInt ≤ 10000
  · have a2 : f_X8_within N x (10000 : Int32) σc = some (1, σc) := zw_within_t (by rw [ev]; exact h2)
    have b2 : f_X9_in N (Int32.toInt64 x) (0 : Int64) (10000 : Int64) σm = some (1, σm) := zw_in_t (by rw [z64, e0, ej]; omega)
    by_cases hlt : α 0 0 < 10
    · obtain ⟨v, hv, rfl, hv3⟩ := zof (n := 10001) (x := x) (by omega)
      obtain ⟨s1, e1, w1, st1⟩ := zw_forgetAll N σc
      have hC1 := hC.forget w1
      have hc : nI (α 0 0) < (10 : Int32) := nI_lt hlt (by decide)
      have hm : ¬ nI (α 0 0) = (10 : Int32) := fun q => by have := nI_inj (b := 10) (by omega) (by decide) q; omega
      have hb1 : nI (α 0 0) = nI (α 0 0) := rfl
      have k1 := hC1.set 2 2 10 (by decide +kernel) (by decide +kernel) (by decide +kernel) (by decide) (by decide) (by decide) hlt v
      have k2 := k1.set 3 3 10 (by decide +kernel) (by decide +kernel) (by decide +kernel) (by decide) (by decide) (by decide) hlt 1
      have k3 : RC (au (au (au α 2 (α 0 0) v) 3 (α 0 0) 1) 0 0 (α 0 0 + 1)) (zuI (zuI (zuI s1 2 (α 0 0) (nI v)) 3 (α 0 0) (nI 1)) 1 0 (nI (α 0 0 + 1))) := k2.setG 1 0 0 0 2 (by decide +kernel) (by decide +kernel) (by decide +kernel) (by decide) (by decide) (by decide) (j := 0) (by decide) (α 0 0 + 1) rfl
      have l1 := hM.set 2 2 10 (by decide +kernel) (by decide) (by decide) hlt v
      have l2 := l1.set 3 3 10 (by decide +kernel) (by decide) (by decide) hlt 1
      have l3 : RM (au (au (au α 2 (α 0 0) v) 3 (α 0 0) 1) 0 0 (α 0 0 + 1)) (zuI (zuI (zuI σm 2 (α 0 0) (nI v)) 3 (α 0 0) (nI 1)) 0 0 (nI (α 0 0 + 1))) := l2.setG 0 0 0 0 2 (by decide +kernel) (by decide) (by decide) (j := 0) (by decide) (by decide) (α 0 0 + 1) rfl
      have q1 : s1.1 1 0 = nI (α 0 0) := hC1.nets
      have q2 : (zuI s1 2 (α 0 0) (nI v)).1 1 0 = nI (α 0 0) := by rw [zuI_n (fun q => absurd q.1 (by decide))]; exact q1
      have q3 : (zuI (zuI s1 2 (α 0 0) (nI v)) 3 (α 0 0) 1).1 1 0 = nI (α 0 0) := by rw [zuI_n (fun q => absurd q.1 (by decide))]; exact q2
      have p1 : σm.1 0 0 = nI (α 0 0) := hM.nets
      have p2 : (zuI σm 2 (α 0 0) (nI v)).1 0 0 = nI (α 0 0) := by rw [zuI_n (fun q => absurd q.1 (by decide))]; exact p1
      have p3 : (zuI (zuI σm 2 (α 0 0) (nI v)) 3 (α 0 0) 1).1 0 0 = nI (α 0 0) := by rw [zuI_n (fun q => absurd q.1 (by decide))]; exact p2
      have e11 : (1 : Int32) = nI 1 := rfl
      refine ⟨nI (α 0 0), _, _, _, ?_, ?_, hW.net hlt au_s (fun i hi => ?_) (fun k i g0 g2 g3 => ?_) (fun i => ?_) (fun i hi => ?_) ?_, k3, l3, Or.inr ?_⟩
      · simp only [f_X8_net, a2, zbd, Option.bind_some, z10, if_false, hC.nets, hc, if_true, e1, f_X3_add, q1, zast_nI hlt (show 10 < 2 ^ 31 by decide), q2, q3, zpI, zuI_s, nI_1, nI_pred]
        rfl
      · simp only [f_X9_net, b2, zbd, Option.bind_some, z10, if_false, hM.nets, hm, zast_nI hlt (show 10 < 2 ^ 31 by decide), p2, p3, zpI, zuI_s, nI_1, nI_pred]
        rfl
      · rw [au_n (fun q => hi q.2), au_n (fun q => absurd q.1 (by decide)), au_n (fun q => absurd q.1 (by decide))]
      · rw [au_n (fun q => g0 q.1), au_n (fun q => g3 q.1), au_n (fun q => g2 q.1)]
      · rw [au_n (fun q => absurd q.1 (by decide)), au_n (fun q => absurd q.1 (by decide))]
        unfold au; split
        · omega
        · exact hW.2.2.2.1.1 i
      · rw [au_n (fun q => absurd q.1 (by decide)), au_n (fun q => by omega), au_n (fun q => absurd q.1 (by decide))]
      · rw [au_n (fun q => absurd q.1 (by decide)), au_s]
      · exact ((st1.set (by decide) (by decide)).set (by decide) (by decide)).set (by decide) (by decide)
    · have h10 : α 0 0 = 10 := by omega
      have hc : ¬ nI (α 0 0) < (10 : Int32) := by rw [h10]; decide
      have hm : nI (α 0 0) = (10 : Int32) := by rw [h10]; rfl
      refine zMut.same hW hC hM (r := -4) ?_ ?_
      · simp only [f_X8_net, a2, zbd, Option.bind_some, z10, if_false, hC.nets, hc]
      · simp only [f_X9_net, b2, zbd, Option.bind_some, z10, if_false, hM.nets, hm, if_true]
  · have a2 : f_X8_within N x (10000 : Int32) σc = some (0, σc) := zw_within_f (by rw [ev]; exact h2)
    have b2 : f_X9_in N (Int32.toInt64 x) (0 : Int64) (10000 : Int64) σm = some (0, σm) := zw_in_f (by rw [z64, e0, ej]; omega)
    refine zMut.same hW hC hM (r := -2) ?_ ?_
    · simp only [f_X8_net, a2, zbd, Option.bind_some, if_true]
    · simp only [f_X9_net, b2, zbd, Option.bind_some, if_true]
theorem WF.site {α β : AS} (h : WF α) (hs : α 0 2 < 4) {hm : Nat} (hh : hm < α 0 0) (b02 : β 0 2 = α 0 2 + 1) (b0 : ∀ i, i ≠ 2 → β 0 i = α 0 i) (bk : ∀ k i, k ≠ 0 → k ≠ 4 → k ≠ 5 → k ≠ 6 → β k i = α k i) (b4 : ∀ i, i < α 0 2 → β 4 i = α 4 i) (b4n : β 4 (α 0 2) = hm) (b5 : ∀ i, β 5 i ≤ 100000) (b6 : ∀ i, β 6 i ≤ 1) (b6n : ∀ i, i ≠ α 0 2 → β 6 i = α 6 i) : WF β := by
  obtain ⟨h1, h2, h3, h4, h5, h6, h7⟩ := h
  have c1 := fun i => bk 1 i (by decide) (by decide) (by decide) (by decide)
  have c2 := fun i => bk 2 i (by decide) (by decide) (by decide) (by decide)
  have c3 := fun i => bk 3 i (by decide) (by decide) (by decide) (by decide)
  have c7 := fun i => bk 7 i (by decide) (by decide) (by decide) (by decide)
  have c8 := fun i => bk 8 i (by decide) (by decide) (by decide) (by decide)
  have c9 := fun i => bk 9 i (by decide) (by decide) (by decide) (by decide)
  have c10 := fun i => bk 10 i (by decide) (by decide) (by decide) (by decide)
  have c11 := fun i => bk 11 i (by decide) (by decide) (by decide) (by decide)
  have c12 := fun i => bk 12 i (by decide) (by decide) (by decide) (by decide)
  have c13 := fun i => bk 13 i (by decide) (by decide) (by decide) (by decide)
  have c14 := fun i => bk 14 i (by decide) (by decide) (by decide) (by decide)
  have c15 := fun i => bk 15 i (by decide) (by decide) (by decide) (by decide)
  have c16 := fun i => bk 16 i (by decide) (by decide) (by decide) (by decide)
  have c17 := fun i => bk 17 i (by decide) (by decide) (by decide) (by decide)
  have d0 := b0 0 (by decide)
  have d1 := b0 1 (by decide)
  have d3 := b0 3 (by decide)
  refine ⟨⟨by rw [d0]; exact h1.1, by rw [d1]; exact h1.2.1, by omega, by rw [d3]; exact h1.2.2.2⟩, ⟨fun i => by rw [c1]; exact h2.1 i, fun a b ha hb => by rw [c1, c1]; exact h2.2.1 a b ha hb, fun a ha => by rw [c1]; exact h2.2.2.1 a ha, fun a b ha hb q => by rw [c1]; exact h2.2.2.2 a b ha hb (by omega)⟩, fun n q => by rw [c3]; exact h3 n (by omega), ⟨fun n => by rw [c2]; exact h4.1 n, b5, fun i => by rw [c10]; exact h4.2.2 i⟩, fun s q => ?_, ⟨b6, fun s => by rw [c7]; exact h6.2.1 s, fun s => by rw [c8, d0]; exact h6.2.2.1 s, fun s => by rw [c9]; exact h6.2.2.2.1 s, fun s q => ?_, fun s => ?_⟩, ⟨fun t => by rw [c12, b02]; have := h7.1 t; omega, fun i => by rw [c13]; exact h7.2.1 i, fun i => by rw [c14, d0]; exact h7.2.2.1 i, fun i => by rw [c15]; exact h7.2.2.2.1 i, fun i => by rw [c16]; exact h7.2.2.2.2.1 i, fun t n q => ?_⟩⟩
  · rw [d0]
    by_cases e : s = α 0 2
    · rw [e, b4n]; exact hh
    · rw [b4 s (by omega)]; exact h5 s (by omega)
  · rw [b6n s (by omega), c7, c8, c9]
    exact h6.2.2.2.2.1 s (by omega)
  · rw [c11, b02]
    have := h6.2.2.2.2.2 s
    exact ⟨this.1, fun z => this.2 (by omega)⟩
  · rw [c17, d0, d3, b02]
    obtain ⟨g1, g2, g3⟩ := h7.2.2.2.2.2 t n q
    exact ⟨g1, fun z => by have := g2 z; omega, g3⟩
theorem RM.site {α : AS} {σ : ZM} (h : RM α σ) (hs : α 0 2 < 4) (h11 : α 11 (α 0 2) = 5) {x : Int32} (hx : x = -9) : RM (au α 0 2 (α 0 2 + 1)) (zuI (zuI σ 11 (α 0 2) x) 0 5 (nI (α 0 2 + 1))) := by
  have h0 : zrt nI TM α (zuI σ 11 (α 0 2) x) := by
    intro e he j hj
    rw [zuI_n (fun q => ?_)]
    · exact h.1 e he j hj
    · have : (TM.all fun e => decide (e.1 ≠ 11)) = true := by decide +kernel
      exact of_decide_eq_true (List.all_eq_true.mp this e he) q.1
  refine ⟨zrt_upd (c := 0) (o := 5) (k := 0) (ko := 2) (b := 1) h0 (by decide +kernel) (i := 0) (by decide) (α 0 2 + 1) rfl, fun s q => ?_, fun t ht n hn => ?_⟩
  · rw [au_s] at q
    rw [zuI_n (fun q => absurd q.1 (by decide)), au_n (fun q => absurd q.1 (by decide))]
    by_cases e : s = α 0 2
    · rw [e, zuI_s, h11, hx]; rfl
    · rw [zuI_n (fun q => e q.2)]; exact h.2.1 s (by omega)
  · rw [au_n (fun q => absurd q.2 (by decide))] at ht
    rw [zuI_n (fun q => absurd q.1 (by decide)), zuI_n (fun q => absurd q.1 (by decide)), au_n (fun q => absurd q.1 (by decide))]
    exact h.2.2 t ht n hn
set_option maxHeartbeats 1000000 in
theorem mu_site (N : Nat) (x y : Int32) : zMut (f_X8_site N x y) (f_X9_site N x y) := by
  intro α σc σm hW hC hM
  have hn : α 0 0 ≤ 10 := hW.1.1
  have hs4 : α 0 2 ≤ 4 := hW.1.2.2.1
  have ev : (100000 : Int32).toInt = 100000 := by decide
  have ej : (100000 : Int64).toInt = 100000 := by decide
  have e0 : (0 : Int64).toInt = 0 := by decide
  by_cases h1 : 0 ≤ x.toInt ∧ x.toInt < ((α 0 0 : Nat) : Int)
  · have a1 : f_X3_has N x σc = some (1, σc) := by rw [zw_has N x σc hC.nets hn, zbI_t h1]
    have b1 : f_X9_isNet N x σm = some (1, σm) := by rw [zw_isNet N x σm hM.nets hn, zbI_t h1]
    by_cases h2 : 0 ≤ y.toInt ∧ y.toInt ≤ 100000
    · have a2 : f_X8_within N y (100000 : Int32) σc = some (1, σc) := zw_within_t (by rw [ev]; exact h2)
      have b2 : f_X9_in N (Int32.toInt64 y) (0 : Int64) (100000 : Int64) σm = some (1, σm) := zw_in_t (by rw [z64, e0, ej]; omega)
      by_cases hlt : α 0 2 < 4
      · obtain ⟨j, hj, rfl, -⟩ := zof h1
        obtain ⟨v, hv, rfl, hv3⟩ := zof (n := 100001) (x := y) (by omega)
        obtain ⟨s1, e1, w1, st1⟩ := zw_forgetAll N σc
        have hC1 := hC.forget w1
        have hc : nI (α 0 2) < (4 : Int32) := nI_lt hlt (by decide)
        have hm : ¬ nI (α 0 2) = (4 : Int32) := fun q => by have := nI_inj (b := 4) (by omega) (by decide) q; omega
        obtain ⟨z6, z7, z8, z9⟩ := hW.2.2.2.2.2.1.2.2.2.2.1 (α 0 2) (Nat.le_refl _)
        have z11 := (hW.2.2.2.2.2.1.2.2.2.2.2 (α 0 2)).2 (Nat.le_refl _)
        have k1 := hC1.set 8 4 4 (by decide +kernel) (by decide +kernel) (by decide +kernel) (by decide) (by decide) (by decide) hlt j
        have k2 := k1.set 9 5 4 (by decide +kernel) (by decide +kernel) (by decide +kernel) (by decide) (by decide) (by decide) hlt v
        have k3 := k2.set 16 6 4 (by decide +kernel) (by decide +kernel) (by decide +kernel) (by decide) (by decide) (by decide) hlt 1
        have k4 : RC (au (au (au (au α 4 (α 0 2) j) 5 (α 0 2) v) 6 (α 0 2) 1) 0 2 (α 0 2 + 1)) (zuI (zuI (zuI (zuI s1 8 (α 0 2) (nI j)) 9 (α 0 2) (nI v)) 16 (α 0 2) (nI 1)) 12 0 (nI (α 0 2 + 1))) := k3.setG 12 0 0 2 1 (by decide +kernel) (by decide +kernel) (by decide +kernel) (by decide) (by decide) (by decide) (j := 0) (by decide) (α 0 2 + 1) rfl
        have l1 := hM.set 4 4 4 (by decide +kernel) (by decide) (by decide) hlt j
        have l2 := l1.set 5 5 4 (by decide +kernel) (by decide) (by decide) hlt v
        have l3 := l2.set 6 6 4 (by decide +kernel) (by decide) (by decide) hlt 1
        have f02 : au (au (au α 4 (α 0 2) j) 5 (α 0 2) v) 6 (α 0 2) 1 0 2 = α 0 2 := by rw [au_n (fun q => absurd q.1 (by decide)), au_n (fun q => absurd q.1 (by decide)), au_n (fun q => absurd q.1 (by decide))]
        have f11 : au (au (au α 4 (α 0 2) j) 5 (α 0 2) v) 6 (α 0 2) 1 11 (α 0 2) = 5 := by rw [au_n (fun q => absurd q.1 (by decide)), au_n (fun q => absurd q.1 (by decide)), au_n (fun q => absurd q.1 (by decide))]; exact z11
        have l4 := l3.site (by rw [f02]; exact hlt) (by rw [f02]; exact f11) (x := -9) rfl
        rw [f02] at l4
        have q1 : s1.1 12 0 = nI (α 0 2) := hC1.sites
        have q2 : (zuI s1 8 (α 0 2) (nI j)).1 12 0 = nI (α 0 2) := by rw [zuI_n (fun q => absurd q.1 (by decide))]; exact q1
        have q3 : (zuI (zuI s1 8 (α 0 2) (nI j)) 9 (α 0 2) (nI v)).1 12 0 = nI (α 0 2) := by rw [zuI_n (fun q => absurd q.1 (by decide))]; exact q2
        have q4 : (zuI (zuI (zuI s1 8 (α 0 2) (nI j)) 9 (α 0 2) (nI v)) 16 (α 0 2) 1).1 12 0 = nI (α 0 2) := by rw [zuI_n (fun q => absurd q.1 (by decide))]; exact q3
        have m0 : ∀ (c : Nat) (x : Int32) (σ : ZM), c ≠ 0 → (zuI σ c (α 0 2) x).1 0 5 = σ.1 0 5 := fun c x σ hc => zuI_n (fun q => hc q.1.symm)
        have p0 : σm.1 0 5 = nI (α 0 2) := hM.sites
        have i7 : ∀ σ : ZM, σ.1 7 (α 0 2) = 0 → zuI σ 7 (α 0 2) 0 = σ := fun σ h => zuI_id h
        have i8 : ∀ σ : ZM, σ.1 8 (α 0 2) = 0 → zuI σ 8 (α 0 2) 0 = σ := fun σ h => zuI_id h
        have i9 : ∀ σ : ZM, σ.1 9 (α 0 2) = 0 → zuI σ 9 (α 0 2) 0 = σ := fun σ h => zuI_id h
        have y7 : (zuI (zuI (zuI σm 4 (α 0 2) (nI j)) 5 (α 0 2) (nI v)) 6 (α 0 2) 1).1 7 (α 0 2) = 0 := by
          rw [zuI_n (fun q => absurd q.1 (by decide)), zuI_n (fun q => absurd q.1 (by decide)), zuI_n (fun q => absurd q.1 (by decide))]
          have := hM.at 7 0 7 0 4 (by decide) hlt
          rw [Nat.zero_add] at this
          rw [this, z7]; rfl
        have y8 : (zuI (zuI (zuI σm 4 (α 0 2) (nI j)) 5 (α 0 2) (nI v)) 6 (α 0 2) 1).1 8 (α 0 2) = 0 := by
          rw [zuI_n (fun q => absurd q.1 (by decide)), zuI_n (fun q => absurd q.1 (by decide)), zuI_n (fun q => absurd q.1 (by decide))]
          have := hM.at 8 0 8 0 4 (by decide) hlt
          rw [Nat.zero_add] at this
          rw [this, z8]; rfl
        have y9 : (zuI (zuI (zuI σm 4 (α 0 2) (nI j)) 5 (α 0 2) (nI v)) 6 (α 0 2) 1).1 9 (α 0 2) = 0 := by
          rw [zuI_n (fun q => absurd q.1 (by decide)), zuI_n (fun q => absurd q.1 (by decide)), zuI_n (fun q => absurd q.1 (by decide))]
          have := hM.at 9 0 9 0 4 (by decide) hlt
          rw [Nat.zero_add] at this
          rw [this, z9]; rfl
        have h4 : (4 : Nat) < 2 ^ 31 := by decide
        refine ⟨nI (α 0 2), _, _, _, ?_, ?_, hW.site hlt hj au_s (fun i hi => ?_) (fun k i g0 g4 g5 g6 => ?_) (fun i hi => ?_) ?_ (fun i => ?_) (fun i => ?_) (fun i hi => ?_), k4, l4, Or.inr ?_⟩
        · simp only [f_X8_site, a1, zbd, Option.bind_some, z10, if_false, a2, hC.sites, hc, if_true, e1, q1, zast_nI hlt h4, q2, f_X7_add, q3, zasZ_nI hlt h4 (Or.inr rfl), q4, zpI, zuI_s, nI_1, nI_pred]
          rfl
        · simp only [f_X9_site, b1, zbd, Option.bind_some, z10, if_false, b2, hM.sites, hm, zast_nI hlt h4, m0 4 _ _ (by decide), m0 5 _ _ (by decide), m0 6 _ _ (by decide), m0 11 _ _ (by decide), zasZ_nI hlt h4 (Or.inr rfl), zasZ_nI hlt h4 (Or.inl rfl), i7 _ y7, i8 _ y8, i9 _ y9, zpI, zuI_s, nI_1, nI_pred]
          rfl
        · rw [au_n (fun q => hi q.2), au_n (fun q => absurd q.1 (by decide)), au_n (fun q => absurd q.1 (by decide)), au_n (fun q => absurd q.1 (by decide))]
        · rw [au_n (fun q => g0 q.1), au_n (fun q => g6 q.1), au_n (fun q => g5 q.1), au_n (fun q => g4 q.1)]
        · rw [au_n (fun q => absurd q.1 (by decide)), au_n (fun q => absurd q.1 (by decide)), au_n (fun q => absurd q.1 (by decide)), au_n (fun q => by omega)]
        · rw [au_n (fun q => absurd q.1 (by decide)), au_n (fun q => absurd q.1 (by decide)), au_n (fun q => absurd q.1 (by decide)), au_s]
        · rw [au_n (fun q => absurd q.1 (by decide)), au_n (fun q => absurd q.1 (by decide))]
          by_cases hi : i = α 0 2
          · rw [hi, au_s]; omega
          · rw [au_n (fun q => hi q.2), au_n (fun q => absurd q.1 (by decide))]; exact hW.2.2.2.1.2.1 i
        · rw [au_n (fun q => absurd q.1 (by decide))]
          by_cases hi : i = α 0 2
          · rw [hi, au_s]; omega
          · rw [au_n (fun q => hi q.2), au_n (fun q => absurd q.1 (by decide)), au_n (fun q => absurd q.1 (by decide))]; exact hW.2.2.2.2.2.1.1 i
        · rw [au_n (fun q => absurd q.1 (by decide)), au_n (fun q => hi q.2), au_n (fun q => absurd q.1 (by decide)), au_n (fun q => absurd q.1 (by decide))]
        · exact (((st1.set (by decide) (by decide)).set (by decide) (by decide)).set (by decide) (by decide)).set (by decide) (by decide)
      · have h44 : α 0 2 = 4 := by omega
        have hc : ¬ nI (α 0 2) < (4 : Int32) := by rw [h44]; decide
        have hm : nI (α 0 2) = (4 : Int32) := by rw [h44]; rfl
        refine zMut.same hW hC hM (r := -4) ?_ ?_
        · simp only [f_X8_site, a1, zbd, Option.bind_some, z10, if_false, a2, hC.sites, hc]
        · simp only [f_X9_site, b1, zbd, Option.bind_some, z10, if_false, b2, hM.sites, hm, if_true]
    · have a2 : f_X8_within N y (100000 : Int32) σc = some (0, σc) := zw_within_f (by rw [ev]; exact h2)
      have b2 : f_X9_in N (Int32.toInt64 y) (0 : Int64) (100000 : Int64) σm = some (0, σm) := zw_in_f (by rw [z64, e0, ej]; omega)
      refine zMut.same hW hC hM (r := -2) ?_ ?_
      · simp only [f_X8_site, a1, zbd, Option.bind_some, z10, if_false, a2, if_true]
      · simp only [f_X9_site, b1, zbd, Option.bind_some, z10, if_false, b2, if_true]
  · have a1 : f_X3_has N x σc = some (0, σc) := by rw [zw_has N x σc hC.nets hn, zbI_f h1]
    have b1 : f_X9_isNet N x σm = some (0, σm) := by rw [zw_isNet N x σm hM.nets hn, zbI_f h1]
    refine zMut.same hW hC hM (r := -1) ?_ ?_
    · simp only [f_X8_site, a1, zbd, Option.bind_some, if_true]
    · simp only [f_X9_site, b1, zbd, Option.bind_some, if_true]
