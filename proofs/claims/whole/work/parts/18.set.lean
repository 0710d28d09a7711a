theorem z10 : ((1 : Int32) = 0) = False := eq_false (by decide)
theorem z00 : ((0 : Int32) = 0) = True := eq_true rfl
theorem zw_within_t {N : Nat} {x m : Int32} {σ : ZM} (h : 0 ≤ x.toInt ∧ x.toInt ≤ m.toInt) : f_X8_within N x m σ = some (1, σ) := by rw [zw_within, zbI_t h]
theorem zw_within_f {N : Nat} {x m : Int32} {σ : ZM} (h : ¬ (0 ≤ x.toInt ∧ x.toInt ≤ m.toInt)) : f_X8_within N x m σ = some (0, σ) := by rw [zw_within, zbI_f h]
theorem zw_in_t {N : Nat} {x a b : Int64} {σ : ZM} (h : a.toInt ≤ x.toInt ∧ x.toInt ≤ b.toInt) : f_X9_in N x a b σ = some (1, σ) := by rw [zw_in, zbI_t h]
theorem zw_in_f {N : Nat} {x a b : Int64} {σ : ZM} (h : ¬ (a.toInt ≤ x.toInt ∧ x.toInt ≤ b.toInt)) : f_X9_in N x a b σ = some (0, σ) := by rw [zw_in, zbI_f h]
theorem zmask_au {α : AS} {σ : ZM} {c k j v : Nat} (hk : k ≠ 1) : (zmask σ c (fun i => decide (au α k j v 1 i ≠ 0)) ↔ zmask σ c (fun i => decide (α 1 i ≠ 0))) ∧ (zmask σ c (fun i => decide (au α k j v 1 i = 3)) ↔ zmask σ c (fun i => decide (α 1 i = 3))) := by
  have e : ∀ i, au α k j v 1 i = α 1 i := fun i => au_n (fun q => hk q.1.symm)
  simp only [e, and_self]
theorem zmask_set {σ : ZM} {c c1 j : Nat} {x : Int32} {p : Nat → Bool} (h : zmask σ c p) (hc : c ≠ c1) : zmask (zuI σ c1 j x) c p := by
  intro a ha
  obtain ⟨m, h1, h2⟩ := h a ha
  exact ⟨m, by rw [zuI_n (fun q => hc q.1)]; exact h1, h2⟩
theorem RC.set {α : AS} {σ : ZM} (h : RC α σ) (c k b : Nat) (hc : zcoh TC c 0 k 0 b = true) (h2 : zoff TS c k = true) (h3 : zoff TA c k = true) (hk : k ≠ 1) (h5 : 5 ≠ c) (h6 : 6 ≠ c) {j : Nat} (hj : j < b) (v : Nat) : RC (au α k j v) (zuI σ c j (nI v)) := by
  refine ⟨?_, zrt_off h.2.1 h2, zrt_off h.2.2.1 h3, (zmask_au hk).1.mpr (zmask_set h.2.2.2.1 h5), (zmask_au hk).2.mpr (zmask_set h.2.2.2.2 h6)⟩
  have := zrt_upd h.1 hc hj v rfl
  rw [Nat.zero_add] at this
  exact this
theorem RM.set {α : AS} {σ : ZM} (h : RM α σ) (c k b : Nat) (hc : zcoh TM c 0 k 0 b = true) (hk : k ≠ 0 ∧ k ≠ 11 ∧ k ≠ 17) (h5 : 11 ≠ c ∧ 33 ≠ c) {j : Nat} (hj : j < b) (v : Nat) : RM (au α k j v) (zuI σ c j (nI v)) := by
  refine ⟨?_, fun s hs => ?_, fun t ht n hn => ?_⟩
  · have := zrt_upd h.1 hc hj v rfl
    rw [Nat.zero_add] at this
    exact this
  · rw [au_n (fun q => hk.1 q.1.symm)] at hs
    rw [zuI_n (fun q => h5.1 q.1), au_n (fun q => hk.2.1 q.1.symm)]
    exact h.2.1 s hs
  · rw [au_n (fun q => hk.1 q.1.symm)] at ht
    rw [zuI_n (fun q => h5.2 q.1), au_n (fun q => hk.2.2 q.1.symm)]
    exact h.2.2 t ht n hn
theorem Stale.set {σ : ZM} (h : Stale σ) {c j : Nat} {x : Int32} (h1 : c ≠ 23) (h2 : c ≠ 38) : Stale (zuI σ c j x) := ⟨by rw [zuI_n (fun q => h1 q.1.symm)]; exact h.1, by rw [zuI_n (fun q => h2 q.1.symm)]; exact h.2.1, by rw [zuI_n (fun q => h2 q.1.symm)]; exact h.2.2⟩
theorem zevery {n : Nat} (h : n ≤ 10) : (((1 : Int32) <<< (nI n &&& 31)) - (1 : Int32)).toInt = 2 ^ n - 1 := by
  rcases (show n = 0 ∨ n = 1 ∨ n = 2 ∨ n = 3 ∨ n = 4 ∨ n = 5 ∨ n = 6 ∨ n = 7 ∨ n = 8 ∨ n = 9 ∨ n = 10 by omega) with rfl | rfl | rfl | rfl | rfl | rfl | rfl | rfl | rfl | rfl | rfl <;> decide

theorem WF.set2 {α : AS} {j v : Nat} (h : WF α) (hv : v ≤ 10000) : WF (au α 2 j v) := by
  obtain ⟨h1, h2, h3, h4, h5, h6, h7⟩ := h
  refine ⟨?_, ?_, ?_, ?_, ?_, ?_, ?_⟩
  · simpa [WN, au] using h1
  · simpa [WT, au] using h2
  · simpa [WG, au] using h3
  · refine ⟨fun n => ?_, by simpa [au] using h4.2.1, by simpa [au] using h4.2.2⟩
    unfold au; split
    · exact hv
    · exact h4.1 n
  · simpa [WH, au] using h5
  · simpa [WW, au] using h6
  · simpa [WX, au] using h7
theorem WF.set3 {α : AS} {j v : Nat} (h : WF α) (hv : 1 ≤ v ∧ v ≤ 15) : WF (au α 3 j v) := by
  obtain ⟨h1, h2, h3, h4, h5, h6, h7⟩ := h
  refine ⟨?_, ?_, ?_, ?_, ?_, ?_, ?_⟩
  · simpa [WN, au] using h1
  · simpa [WT, au] using h2
  · intro n hn
    have hn : n < α 0 0 := by simpa [au] using hn
    unfold au; split
    · exact hv
    · exact h3 n hn
  · simpa [WQ, au] using h4
  · simpa [WH, au] using h5
  · simpa [WW, au] using h6
  · simpa [WX, au] using h7
theorem WF.set5 {α : AS} {j v : Nat} (h : WF α) (hv : v ≤ 100000) : WF (au α 5 j v) := by
  obtain ⟨h1, h2, h3, h4, h5, h6, h7⟩ := h
  refine ⟨?_, ?_, ?_, ?_, ?_, ?_, ?_⟩
  · simpa [WN, au] using h1
  · simpa [WT, au] using h2
  · simpa [WG, au] using h3
  · refine ⟨by simpa [au] using h4.1, fun n => ?_, by simpa [au] using h4.2.2⟩
    unfold au; split
    · exact hv
    · exact h4.2.1 n
  · simpa [WH, au] using h5
  · simpa [WW, au] using h6
  · simpa [WX, au] using h7
theorem WF.set10 {α : AS} {j v : Nat} (h : WF α) (hv : v ≤ 999) : WF (au α 10 j v) := by
  obtain ⟨h1, h2, h3, h4, h5, h6, h7⟩ := h
  refine ⟨?_, ?_, ?_, ?_, ?_, ?_, ?_⟩
  · simpa [WN, au] using h1
  · simpa [WT, au] using h2
  · simpa [WG, au] using h3
  · refine ⟨by simpa [au] using h4.1, by simpa [au] using h4.2.1, fun n => ?_⟩
    unfold au; split
    · exact hv
    · exact h4.2.2 n
  · simpa [WH, au] using h5
  · simpa [WW, au] using h6
  · simpa [WX, au] using h7
theorem WF.set6 {α : AS} {j v : Nat} (h : WF α) (hj : j < α 0 2) (hv : v ≤ 1) : WF (au α 6 j v) := by
  obtain ⟨h1, h2, h3, h4, h5, h6, h7⟩ := h
  refine ⟨?_, ?_, ?_, ?_, ?_, ?_, ?_⟩
  · simpa [WN, au] using h1
  · simpa [WT, au] using h2
  · simpa [WG, au] using h3
  · simpa [WQ, au] using h4
  · simpa [WH, au] using h5
  · refine ⟨fun s => by
      have := h6.1 s
      unfold au; split
      · exact hv
      · exact this, by simpa [au] using h6.2.1, by simpa [au] using h6.2.2.1, by simpa [au] using h6.2.2.2.1, fun s hs => by
      have hs : α 0 2 ≤ s := by simpa [au] using hs
      have hsj : s ≠ j := by omega
      have := h6.2.2.2.2.1 s hs
      simpa [au, hsj] using this, by simpa [au] using h6.2.2.2.2.2⟩
  · simpa [WX, au] using h7
theorem WF.set7 {α : AS} {j v : Nat} (h : WF α) (hj : j < α 0 2) (hv : v ≤ 4) : WF (au α 7 j v) := by
  obtain ⟨h1, h2, h3, h4, h5, h6, h7⟩ := h
  refine ⟨?_, ?_, ?_, ?_, ?_, ?_, ?_⟩
  · simpa [WN, au] using h1
  · simpa [WT, au] using h2
  · simpa [WG, au] using h3
  · simpa [WQ, au] using h4
  · simpa [WH, au] using h5
  · refine ⟨by simpa [au] using h6.1, fun s => by
      have := h6.2.1 s
      unfold au; split
      · exact hv
      · exact this, by simpa [au] using h6.2.2.1, by simpa [au] using h6.2.2.2.1, fun s hs => by
      have hs : α 0 2 ≤ s := by simpa [au] using hs
      have hsj : s ≠ j := by omega
      have := h6.2.2.2.2.1 s hs
      simpa [au, hsj] using this, by simpa [au] using h6.2.2.2.2.2⟩
  · simpa [WX, au] using h7
theorem WF.set8 {α : AS} {j v : Nat} (h : WF α) (hj : j < α 0 2) (hv : v < 2 ^ α 0 0) : WF (au α 8 j v) := by
  obtain ⟨h1, h2, h3, h4, h5, h6, h7⟩ := h
  refine ⟨?_, ?_, ?_, ?_, ?_, ?_, ?_⟩
  · simpa [WN, au] using h1
  · simpa [WT, au] using h2
  · simpa [WG, au] using h3
  · simpa [WQ, au] using h4
  · simpa [WH, au] using h5
  · refine ⟨by simpa [au] using h6.1, by simpa [au] using h6.2.1, fun s => by
      have := h6.2.2.1 s
      have e : au α 8 j v 0 0 = α 0 0 := au_n (fun q => absurd q.1 (by decide))
      rw [e]
      unfold au; split
      · exact hv
      · exact this, by simpa [au] using h6.2.2.2.1, fun s hs => by
      have hs : α 0 2 ≤ s := by simpa [au] using hs
      have hsj : s ≠ j := by omega
      have := h6.2.2.2.2.1 s hs
      simpa [au, hsj] using this, by simpa [au] using h6.2.2.2.2.2⟩
  · simpa [WX, au] using h7
theorem WF.set9 {α : AS} {j v : Nat} (h : WF α) (hj : j < α 0 2) (hv : v ≤ 1) : WF (au α 9 j v) := by
  obtain ⟨h1, h2, h3, h4, h5, h6, h7⟩ := h
  refine ⟨?_, ?_, ?_, ?_, ?_, ?_, ?_⟩
  · simpa [WN, au] using h1
  · simpa [WT, au] using h2
  · simpa [WG, au] using h3
  · simpa [WQ, au] using h4
  · simpa [WH, au] using h5
  · refine ⟨by simpa [au] using h6.1, by simpa [au] using h6.2.1, by simpa [au] using h6.2.2.1, fun s => by
      have := h6.2.2.2.1 s
      unfold au; split
      · exact hv
      · exact this, fun s hs => by
      have hs : α 0 2 ≤ s := by simpa [au] using hs
      have hsj : s ≠ j := by omega
      have := h6.2.2.2.2.1 s hs
      simpa [au, hsj] using this, by simpa [au] using h6.2.2.2.2.2⟩
  · simpa [WX, au] using h7
theorem mu_askers (N : Nat) (x y : Int32) : zMut (f_X8_askers N x y) (f_X9_askers N x y) := by
  intro α σc σm hW hC hM
  have hn : α 0 0 ≤ 10 := hW.1.1
  have hs : α 0 2 ≤ 10 := by have := hW.1.2.2.1; omega
  by_cases h1 : 0 ≤ x.toInt ∧ x.toInt < ((α 0 0 : Nat) : Int)
  · have a1 : f_X3_has N x σc = some (1, σc) := by rw [zw_has N x σc hC.nets hn, zbI_t h1]
    have b1 : f_X9_isNet N x σm = some (1, σm) := by rw [zw_isNet N x σm hM.nets hn, zbI_t h1]
    have ev : (10000 : Int32).toInt = 10000 := by decide
    have ej : (10000 : Int64).toInt = 10000 := by decide
    have e0 : (0 : Int64).toInt = 0 := by decide
    by_cases h2 : 0 ≤ y.toInt ∧ y.toInt ≤ 10000
    · have a2 : f_X8_within N y (10000 : Int32) σc = some (1, σc) := zw_within_t (by rw [ev]; exact h2)
      have b2 : f_X9_in N (Int32.toInt64 y) (0 : Int64) (10000 : Int64) σm = some (1, σm) := zw_in_t (by rw [z64, e0, ej]; omega)
      obtain ⟨j, hj, rfl, -⟩ := zof h1
      obtain ⟨v, hv, rfl, hv3⟩ := zof (n := 10001) (x := y) (by omega)
      obtain ⟨s1, e1, w1, st1⟩ := zw_forgetAll N σc
      have hC1 := hC.forget w1
      have hjb : j < 10 := by have := hW.1; unfold WN at this; omega
      have r1 : zald s1 2 10 (nI j) = some (nI (α 2 j)) := by
        rw [zald_nI hjb (by decide)]
        have := hC1.at 2 0 2 0 10 (by decide) hjb
        rw [Nat.zero_add] at this
        rw [this]
      have r2 : zald σm 2 10 (nI j) = some (nI (α 2 j)) := by
        rw [zald_nI hjb (by decide)]
        have := hM.at 2 0 2 0 10 (by decide) hjb
        rw [Nat.zero_add] at this
        rw [this]
      refine ⟨nI (α 2 j), zuI s1 2 j (nI v), zuI σm 2 j (nI v), au α 2 j v, ?_, ?_, hW.set2 (by omega), hC1.set 2 2 10 (by decide +kernel) (by decide +kernel) (by decide +kernel) (by decide) (by decide) (by decide) hjb v, hM.set 2 2 10 (by decide +kernel) (by decide) (by decide) hjb v, Or.inr (st1.set (by decide) (by decide))⟩
      · simp only [f_X8_askers, a1, zbd, Option.bind_some, z10, if_false, a2, e1, f_X8_put, r1, zast_nI hjb (show 10 < 2 ^ 31 by decide)]
      · simp only [f_X9_askers, b1, zbd, Option.bind_some, z10, if_false, b2, r2, zast_nI hjb (show 10 < 2 ^ 31 by decide)]
    · have a2 : f_X8_within N y (10000 : Int32) σc = some (0, σc) := zw_within_f (by rw [ev]; exact h2)
      have b2 : f_X9_in N (Int32.toInt64 y) (0 : Int64) (10000 : Int64) σm = some (0, σm) := zw_in_f (by rw [z64, e0, ej]; omega)
      refine zMut.same hW hC hM (r := -2) ?_ ?_
      · simp only [f_X8_askers, a1, zbd, Option.bind_some, z10, if_false, a2, if_true]
      · simp only [f_X9_askers, b1, zbd, Option.bind_some, z10, if_false, b2, if_true]
  · have a1 : f_X3_has N x σc = some (0, σc) := by rw [zw_has N x σc hC.nets hn, zbI_f h1]
    have b1 : f_X9_isNet N x σm = some (0, σm) := by rw [zw_isNet N x σm hM.nets hn, zbI_f h1]
    refine zMut.same hW hC hM (r := -1) ?_ ?_
    · simp only [f_X8_askers, a1, zbd, Option.bind_some, if_true]
    · simp only [f_X9_askers, b1, zbd, Option.bind_some, if_true]
theorem mu_guess (N : Nat) (x y : Int32) : zMut (f_X8_guess N x y) (f_X9_guess N x y) := by
  intro α σc σm hW hC hM
  have hn : α 0 0 ≤ 10 := hW.1.1
  have hs : α 0 2 ≤ 10 := by have := hW.1.2.2.1; omega
  by_cases h1 : 0 ≤ x.toInt ∧ x.toInt < ((α 0 0 : Nat) : Int)
  · have a1 : f_X3_has N x σc = some (1, σc) := by rw [zw_has N x σc hC.nets hn, zbI_t h1]
    have b1 : f_X9_isNet N x σm = some (1, σm) := by rw [zw_isNet N x σm hM.nets hn, zbI_t h1]
    have ev : (15 : Int32).toInt = 15 := by decide
    have ej : (15 : Int64).toInt = 15 := by decide
    have e0 : (1 : Int64).toInt = 1 := by decide
    by_cases h0 : y = 0
    · have b2 : f_X9_in N (Int32.toInt64 y) (1 : Int64) (15 : Int64) σm = some (0, σm) := zw_in_f (by rw [z64, e0, ej, h0]; decide)
      refine zMut.same hW hC hM (r := -2) ?_ ?_
      · simp only [f_X8_guess, a1, zbd, Option.bind_some, z10, if_false, h0, if_true]
      · simp only [f_X9_guess, b1, zbd, Option.bind_some, z10, if_false, b2, if_true]
    have hy0 : y.toInt ≠ 0 := fun q => h0 (Int32.toInt_inj.mp q)
    by_cases h2 : 0 ≤ y.toInt ∧ y.toInt ≤ 15
    · have a2 : f_X8_within N y (15 : Int32) σc = some (1, σc) := zw_within_t (by rw [ev]; exact h2)
      have b2 : f_X9_in N (Int32.toInt64 y) (1 : Int64) (15 : Int64) σm = some (1, σm) := zw_in_t (by rw [z64, e0, ej]; omega)
      obtain ⟨j, hj, rfl, -⟩ := zof h1
      obtain ⟨v, hv, rfl, hv3⟩ := zof (n := 16) (x := y) (by omega)
      obtain ⟨s1, e1, w1, st1⟩ := zw_forgetAll N σc
      have hC1 := hC.forget w1
      have hjb : j < 10 := by have := hW.1; unfold WN at this; omega
      have r1 : zald s1 3 10 (nI j) = some (nI (α 3 j)) := by
        rw [zald_nI hjb (by decide)]
        have := hC1.at 3 0 3 0 10 (by decide) hjb
        rw [Nat.zero_add] at this
        rw [this]
      have r2 : zald σm 3 10 (nI j) = some (nI (α 3 j)) := by
        rw [zald_nI hjb (by decide)]
        have := hM.at 3 0 3 0 10 (by decide) hjb
        rw [Nat.zero_add] at this
        rw [this]
      refine ⟨nI (α 3 j), zuI s1 3 j (nI v), zuI σm 3 j (nI v), au α 3 j v, ?_, ?_, hW.set3 (by rw [nI_toInt hv3] at hy0; omega), hC1.set 3 3 10 (by decide +kernel) (by decide +kernel) (by decide +kernel) (by decide) (by decide) (by decide) hjb v, hM.set 3 3 10 (by decide +kernel) (by decide) (by decide) hjb v, Or.inr (st1.set (by decide) (by decide))⟩
      · simp only [f_X8_guess, a1, zbd, Option.bind_some, z10, if_false, h0, a2, e1, f_X8_put, r1, zast_nI hjb (show 10 < 2 ^ 31 by decide)]
      · simp only [f_X9_guess, b1, zbd, Option.bind_some, z10, if_false, b2, r2, zast_nI hjb (show 10 < 2 ^ 31 by decide)]
    · have a2 : f_X8_within N y (15 : Int32) σc = some (0, σc) := zw_within_f (by rw [ev]; exact h2)
      have b2 : f_X9_in N (Int32.toInt64 y) (1 : Int64) (15 : Int64) σm = some (0, σm) := zw_in_f (by rw [z64, e0, ej]; omega)
      refine zMut.same hW hC hM (r := -2) ?_ ?_
      · simp only [f_X8_guess, a1, zbd, Option.bind_some, z10, if_false, h0, a2, if_true]
      · simp only [f_X9_guess, b1, zbd, Option.bind_some, z10, if_false, b2, if_true]
  · have a1 : f_X3_has N x σc = some (0, σc) := by rw [zw_has N x σc hC.nets hn, zbI_f h1]
    have b1 : f_X9_isNet N x σm = some (0, σm) := by rw [zw_isNet N x σm hM.nets hn, zbI_f h1]
    refine zMut.same hW hC hM (r := -1) ?_ ?_
    · simp only [f_X8_guess, a1, zbd, Option.bind_some, if_true]
    · simp only [f_X9_guess, b1, zbd, Option.bind_some, if_true]
theorem mu_room (N : Nat) (x y : Int32) : zMut (f_X8_room N x y) (f_X9_room N x y) := by
  intro α σc σm hW hC hM
  have hn : α 0 0 ≤ 10 := hW.1.1
  have hs : α 0 2 ≤ 10 := by have := hW.1.2.2.1; omega
  by_cases h1 : 0 ≤ x.toInt ∧ x.toInt < ((α 0 2 : Nat) : Int)
  · have a1 : f_X7_has N 12 x σc = some (1, σc) := by rw [zw_hasW N 12 x σc hC.sites hs, zbI_t h1]
    have b1 : f_X9_isSite N x σm = some (1, σm) := by rw [zw_isSite N x σm hM.sites hs, zbI_t h1]
    have ev : (100000 : Int32).toInt = 100000 := by decide
    have ej : (100000 : Int64).toInt = 100000 := by decide
    have e0 : (0 : Int64).toInt = 0 := by decide
    by_cases h2 : 0 ≤ y.toInt ∧ y.toInt ≤ 100000
    · have a2 : f_X8_within N y (100000 : Int32) σc = some (1, σc) := zw_within_t (by rw [ev]; exact h2)
      have b2 : f_X9_in N (Int32.toInt64 y) (0 : Int64) (100000 : Int64) σm = some (1, σm) := zw_in_t (by rw [z64, e0, ej]; omega)
      obtain ⟨j, hj, rfl, -⟩ := zof h1
      obtain ⟨v, hv, rfl, hv3⟩ := zof (n := 100001) (x := y) (by omega)
      obtain ⟨s1, e1, w1, st1⟩ := zw_forgetAll N σc
      have hC1 := hC.forget w1
      have hjb : j < 4 := by have := hW.1; unfold WN at this; omega
      have r1 : zald s1 9 4 (nI j) = some (nI (α 5 j)) := by
        rw [zald_nI hjb (by decide)]
        have := hC1.at 9 0 5 0 4 (by decide) hjb
        rw [Nat.zero_add] at this
        rw [this]
      have r2 : zald σm 5 4 (nI j) = some (nI (α 5 j)) := by
        rw [zald_nI hjb (by decide)]
        have := hM.at 5 0 5 0 4 (by decide) hjb
        rw [Nat.zero_add] at this
        rw [this]
      refine ⟨nI (α 5 j), zuI s1 9 j (nI v), zuI σm 5 j (nI v), au α 5 j v, ?_, ?_, hW.set5 (by omega), hC1.set 9 5 4 (by decide +kernel) (by decide +kernel) (by decide +kernel) (by decide) (by decide) (by decide) hjb v, hM.set 5 5 4 (by decide +kernel) (by decide) (by decide) hjb v, Or.inr (st1.set (by decide) (by decide))⟩
      · simp only [f_X8_room, a1, zbd, Option.bind_some, z10, if_false, a2, e1, f_X8_put, r1, zast_nI hjb (show 4 < 2 ^ 31 by decide)]
      · simp only [f_X9_room, b1, zbd, Option.bind_some, z10, if_false, b2, r2, zast_nI hjb (show 4 < 2 ^ 31 by decide)]
    · have a2 : f_X8_within N y (100000 : Int32) σc = some (0, σc) := zw_within_f (by rw [ev]; exact h2)
      have b2 : f_X9_in N (Int32.toInt64 y) (0 : Int64) (100000 : Int64) σm = some (0, σm) := zw_in_f (by rw [z64, e0, ej]; omega)
      refine zMut.same hW hC hM (r := -2) ?_ ?_
      · simp only [f_X8_room, a1, zbd, Option.bind_some, z10, if_false, a2, if_true]
      · simp only [f_X9_room, b1, zbd, Option.bind_some, z10, if_false, b2, if_true]
  · have a1 : f_X7_has N 12 x σc = some (0, σc) := by rw [zw_hasW N 12 x σc hC.sites hs, zbI_f h1]
    have b1 : f_X9_isSite N x σm = some (0, σm) := by rw [zw_isSite N x σm hM.sites hs, zbI_f h1]
    refine zMut.same hW hC hM (r := -1) ?_ ?_
    · simp only [f_X8_room, a1, zbd, Option.bind_some, if_true]
    · simp only [f_X9_room, b1, zbd, Option.bind_some, if_true]
theorem mu_kind (N : Nat) (x y : Int32) : zMut (f_X8_kind N x y) (f_X9_kind N x y) := by
  intro α σc σm hW hC hM
  have hn : α 0 0 ≤ 10 := hW.1.1
  have hs : α 0 2 ≤ 10 := by have := hW.1.2.2.1; omega
  by_cases h1 : 0 ≤ x.toInt ∧ x.toInt < ((α 0 2 : Nat) : Int)
  · have a1 : f_X7_has N 12 x σc = some (1, σc) := by rw [zw_hasW N 12 x σc hC.sites hs, zbI_t h1]
    have b1 : f_X9_isSite N x σm = some (1, σm) := by rw [zw_isSite N x σm hM.sites hs, zbI_t h1]
    have ev : (4 : Int32).toInt = 4 := by decide
    have ej : (4 : Int64).toInt = 4 := by decide
    have e0 : (0 : Int64).toInt = 0 := by decide
    by_cases h2 : 0 ≤ y.toInt ∧ y.toInt ≤ 4
    · have a2 : f_X8_within N y (4 : Int32) σc = some (1, σc) := zw_within_t (by rw [ev]; exact h2)
      have b2 : f_X9_in N (Int32.toInt64 y) (0 : Int64) (4 : Int64) σm = some (1, σm) := zw_in_t (by rw [z64, e0, ej]; omega)
      obtain ⟨j, hj, rfl, -⟩ := zof h1
      obtain ⟨v, hv, rfl, hv3⟩ := zof (n := 5) (x := y) (by omega)
      obtain ⟨s1, e1, w1, st1⟩ := zw_forgetAll N σc
      have hC1 := hC.forget w1
      have hjb : j < 4 := by have := hW.1; unfold WN at this; omega
      have r1 : zald s1 13 4 (nI j) = some (nI (α 7 j)) := by
        rw [zald_nI hjb (by decide)]
        have := hC1.at 13 0 7 0 4 (by decide) hjb
        rw [Nat.zero_add] at this
        rw [this]
      have r2 : zald σm 7 4 (nI j) = some (nI (α 7 j)) := by
        rw [zald_nI hjb (by decide)]
        have := hM.at 7 0 7 0 4 (by decide) hjb
        rw [Nat.zero_add] at this
        rw [this]
      refine ⟨nI (α 7 j), zuI s1 13 j (nI v), zuI σm 7 j (nI v), au α 7 j v, ?_, ?_, hW.set7 hj (by omega), hC1.set 13 7 4 (by decide +kernel) (by decide +kernel) (by decide +kernel) (by decide) (by decide) (by decide) hjb v, hM.set 7 7 4 (by decide +kernel) (by decide) (by decide) hjb v, Or.inr (st1.set (by decide) (by decide))⟩
      · simp only [f_X8_kind, a1, zbd, Option.bind_some, z10, if_false, a2, e1, f_X8_put, r1, zast_nI hjb (show 4 < 2 ^ 31 by decide)]
      · simp only [f_X9_kind, b1, zbd, Option.bind_some, z10, if_false, b2, r2, zast_nI hjb (show 4 < 2 ^ 31 by decide)]
    · have a2 : f_X8_within N y (4 : Int32) σc = some (0, σc) := zw_within_f (by rw [ev]; exact h2)
      have b2 : f_X9_in N (Int32.toInt64 y) (0 : Int64) (4 : Int64) σm = some (0, σm) := zw_in_f (by rw [z64, e0, ej]; omega)
      refine zMut.same hW hC hM (r := -2) ?_ ?_
      · simp only [f_X8_kind, a1, zbd, Option.bind_some, z10, if_false, a2, if_true]
      · simp only [f_X9_kind, b1, zbd, Option.bind_some, z10, if_false, b2, if_true]
  · have a1 : f_X7_has N 12 x σc = some (0, σc) := by rw [zw_hasW N 12 x σc hC.sites hs, zbI_f h1]
    have b1 : f_X9_isSite N x σm = some (0, σm) := by rw [zw_isSite N x σm hM.sites hs, zbI_f h1]
    refine zMut.same hW hC hM (r := -1) ?_ ?_
    · simp only [f_X8_kind, a1, zbd, Option.bind_some, if_true]
    · simp only [f_X9_kind, b1, zbd, Option.bind_some, if_true]
theorem mu_held (N : Nat) (x y : Int32) : zMut (f_X8_held N x y) (f_X9_held N x y) := by
  intro α σc σm hW hC hM
  have hn : α 0 0 ≤ 10 := hW.1.1
  have hs : α 0 2 ≤ 10 := by have := hW.1.2.2.1; omega
  by_cases h1 : 0 ≤ x.toInt ∧ x.toInt < ((α 0 2 : Nat) : Int)
  · have a1 : f_X7_has N 12 x σc = some (1, σc) := by rw [zw_hasW N 12 x σc hC.sites hs, zbI_t h1]
    have b1 : f_X9_isSite N x σm = some (1, σm) := by rw [zw_isSite N x σm hM.sites hs, zbI_t h1]
    have ev : (((1 : Int32) <<< (nI (α 0 0) &&& 31)) - (1 : Int32)).toInt = 2 ^ α 0 0 - 1 := zevery hn
    have en : f_X3_everyone N σc = some (((1 : Int32) <<< (nI (α 0 0) &&& 31)) - (1 : Int32), σc) := by unfold f_X3_everyone; rw [hC.nets]
    have e0 : (0 : Int64).toInt = 0 := by decide
    by_cases h2 : 0 ≤ y.toInt ∧ y.toInt ≤ 2 ^ α 0 0 - 1
    · have a2 : f_X8_within N y (((1 : Int32) <<< (nI (α 0 0) &&& 31)) - (1 : Int32)) σc = some (1, σc) := zw_within_t (by rw [ev]; exact h2)
      have b2 : f_X9_in N (Int32.toInt64 y) (0 : Int64) (Int32.toInt64 (((1 : Int32) <<< (nI (α 0 0) &&& 31)) - (1 : Int32))) σm = some (1, σm) := zw_in_t (by rw [z64, e0, z64, ev]; omega)
      obtain ⟨j, hj, rfl, -⟩ := zof h1
      have hp : ((2 ^ α 0 0 : Nat) : Int) = 2 ^ α 0 0 := by simp
      obtain ⟨v, hv, rfl, -⟩ := zof (n := 2 ^ α 0 0) (x := y) (by rw [hp]; omega)
      obtain ⟨s1, e1, w1, st1⟩ := zw_forgetAll N σc
      have hC1 := hC.forget w1
      have hjb : j < 4 := by have := hW.1; unfold WN at this; omega
      have r1 : zald s1 14 4 (nI j) = some (nI (α 8 j)) := by
        rw [zald_nI hjb (by decide)]
        have := hC1.at 14 0 8 0 4 (by decide) hjb
        rw [Nat.zero_add] at this
        rw [this]
      have r2 : zald σm 8 4 (nI j) = some (nI (α 8 j)) := by
        rw [zald_nI hjb (by decide)]
        have := hM.at 8 0 8 0 4 (by decide) hjb
        rw [Nat.zero_add] at this
        rw [this]
      refine ⟨nI (α 8 j), zuI s1 14 j (nI v), zuI σm 8 j (nI v), au α 8 j v, ?_, ?_, hW.set8 hj hv, hC1.set 14 8 4 (by decide +kernel) (by decide +kernel) (by decide +kernel) (by decide) (by decide) (by decide) hjb v, hM.set 8 8 4 (by decide +kernel) (by decide) (by decide) hjb v, Or.inr (st1.set (by decide) (by decide))⟩
      · simp only [f_X8_held, a1, zbd, Option.bind_some, z10, if_false, en, a2, e1, f_X8_put, r1, zast_nI hjb (show 4 < 2 ^ 31 by decide)]
      · simp only [f_X9_held, b1, zbd, Option.bind_some, z10, if_false, hM.nets, b2, r2, zast_nI hjb (show 4 < 2 ^ 31 by decide)]
    · have a2 : f_X8_within N y (((1 : Int32) <<< (nI (α 0 0) &&& 31)) - (1 : Int32)) σc = some (0, σc) := zw_within_f (by rw [ev]; exact h2)
      have b2 : f_X9_in N (Int32.toInt64 y) (0 : Int64) (Int32.toInt64 (((1 : Int32) <<< (nI (α 0 0) &&& 31)) - (1 : Int32))) σm = some (0, σm) := zw_in_f (by rw [z64, e0, z64, ev]; omega)
      refine zMut.same hW hC hM (r := -2) ?_ ?_
      · simp only [f_X8_held, a1, zbd, Option.bind_some, z10, if_false, en, a2, if_true]
      · simp only [f_X9_held, b1, zbd, Option.bind_some, z10, if_false, hM.nets, b2, if_true]
  · have a1 : f_X7_has N 12 x σc = some (0, σc) := by rw [zw_hasW N 12 x σc hC.sites hs, zbI_f h1]
    have b1 : f_X9_isSite N x σm = some (0, σm) := by rw [zw_isSite N x σm hM.sites hs, zbI_f h1]
    refine zMut.same hW hC hM (r := -1) ?_ ?_
    · simp only [f_X8_held, a1, zbd, Option.bind_some, if_true]
    · simp only [f_X9_held, b1, zbd, Option.bind_some, if_true]
theorem mu_up (N : Nat) (x y : Int32) : zMut (f_X8_up N x (zbo y)) (f_X9_up N x (zbo y)) := by
  intro α σc σm hW hC hM
  have hs : α 0 2 ≤ 10 := by have := hW.1.2.2.1; omega
  by_cases h1 : 0 ≤ x.toInt ∧ x.toInt < ((α 0 2 : Nat) : Int)
  · have a1 : f_X7_has N 12 x σc = some (1, σc) := by rw [zw_hasW N 12 x σc hC.sites hs, zbI_t h1]
    have b1 : f_X9_isSite N x σm = some (1, σm) := by rw [zw_isSite N x σm hM.sites hs, zbI_t h1]
    obtain ⟨j, hj, rfl, -⟩ := zof h1
    obtain ⟨v, hv, ev⟩ : ∃ v : Nat, v ≤ 1 ∧ zbo y = nI v := by
      unfold zbo
      by_cases h : y = 0
      · exact ⟨0, by omega, by rw [if_pos h]; rfl⟩
      · exact ⟨1, by omega, by rw [if_neg h]; rfl⟩
    have ev1 : nI v = 0 ∨ nI v = 1 := by
      rcases (show v = 0 ∨ v = 1 by omega) with rfl | rfl
      · exact Or.inl rfl
      · exact Or.inr rfl
    rw [ev]
    obtain ⟨s1, e1, w1, st1⟩ := zw_forgetAll N σc
    have hC1 := hC.forget w1
    have hjb : j < 4 := by have := hW.1; unfold WN at this; omega
    have r1 : zald s1 16 4 (nI j) = some (nI (α 6 j)) := by
      rw [zald_nI hjb (by decide)]
      have := hC1.at 16 0 6 0 4 (by decide) hjb
      rw [Nat.zero_add] at this
      rw [this]
    have r2 : zald σm 6 4 (nI j) = some (nI (α 6 j)) := by
      rw [zald_nI hjb (by decide)]
      have := hM.at 6 0 6 0 4 (by decide) hjb
      rw [Nat.zero_add] at this
      rw [this]
    refine ⟨nI (α 6 j), zuI s1 16 j (nI v), zuI σm 6 j (nI v), au α 6 j v, ?_, ?_, hW.set6 hj hv, hC1.set 16 6 4 (by decide +kernel) (by decide +kernel) (by decide +kernel) (by decide) (by decide) (by decide) hjb v, hM.set 6 6 4 (by decide +kernel) (by decide) (by decide) hjb v, Or.inr (st1.set (by decide) (by decide))⟩
    · have hu : α 6 j ≤ 1 := hW.2.2.2.2.2.1.1 j
      rcases (show α 6 j = 0 ∨ α 6 j = 1 by omega) with hz | hz
      · have h0 : (nI (α 6 j) = 0) := by rw [hz]; rfl
        simp only [f_X8_up, a1, zbd, Option.bind_some, z10, if_false, e1, f_X8_put_, r1, h0, if_true, f_X8_put__11, zasZ_nI hjb (show 4 < 2 ^ 31 by decide) ev1]
      · have h0 : (nI (α 6 j) = 1) := by rw [hz]; rfl
        simp only [f_X8_up, a1, zbd, Option.bind_some, z10, if_false, e1, f_X8_put_, r1, h0, if_true, f_X8_put__11, zasZ_nI hjb (show 4 < 2 ^ 31 by decide) ev1]
    · have hu : α 6 j ≤ 1 := hW.2.2.2.2.2.1.1 j
      rcases (show α 6 j = 0 ∨ α 6 j = 1 by omega) with hz | hz
      · have h0 : (nI (α 6 j) = 0) := by rw [hz]; rfl
        simp only [f_X9_up, b1, zbd, Option.bind_some, z10, if_false, r2, h0, if_true, f_X9_up_24, zasZ_nI hjb (show 4 < 2 ^ 31 by decide) ev1]
      · have h0 : (nI (α 6 j) = 1) := by rw [hz]; rfl
        simp only [f_X9_up, b1, zbd, Option.bind_some, z10, if_false, r2, h0, if_true, f_X9_up_24, zasZ_nI hjb (show 4 < 2 ^ 31 by decide) ev1]
  · have a1 : f_X7_has N 12 x σc = some (0, σc) := by rw [zw_hasW N 12 x σc hC.sites hs, zbI_f h1]
    have b1 : f_X9_isSite N x σm = some (0, σm) := by rw [zw_isSite N x σm hM.sites hs, zbI_f h1]
    refine zMut.same hW hC hM (r := -1) ?_ ?_
    · simp only [f_X8_up, a1, zbd, Option.bind_some, if_true]
    · simp only [f_X9_up, b1, zbd, Option.bind_some, if_true]
theorem mu_near (N : Nat) (x y : Int32) : zMut (f_X8_near N x (zbo y)) (f_X9_near N x (zbo y)) := by
  intro α σc σm hW hC hM
  have hs : α 0 2 ≤ 10 := by have := hW.1.2.2.1; omega
  by_cases h1 : 0 ≤ x.toInt ∧ x.toInt < ((α 0 2 : Nat) : Int)
  · have a1 : f_X7_has N 12 x σc = some (1, σc) := by rw [zw_hasW N 12 x σc hC.sites hs, zbI_t h1]
    have b1 : f_X9_isSite N x σm = some (1, σm) := by rw [zw_isSite N x σm hM.sites hs, zbI_t h1]
    obtain ⟨j, hj, rfl, -⟩ := zof h1
    obtain ⟨v, hv, ev⟩ : ∃ v : Nat, v ≤ 1 ∧ zbo y = nI v := by
      unfold zbo
      by_cases h : y = 0
      · exact ⟨0, by omega, by rw [if_pos h]; rfl⟩
      · exact ⟨1, by omega, by rw [if_neg h]; rfl⟩
    have ev1 : nI v = 0 ∨ nI v = 1 := by
      rcases (show v = 0 ∨ v = 1 by omega) with rfl | rfl
      · exact Or.inl rfl
      · exact Or.inr rfl
    rw [ev]
    obtain ⟨s1, e1, w1, st1⟩ := zw_forgetAll N σc
    have hC1 := hC.forget w1
    have hjb : j < 4 := by have := hW.1; unfold WN at this; omega
    have r1 : zald s1 15 4 (nI j) = some (nI (α 9 j)) := by
      rw [zald_nI hjb (by decide)]
      have := hC1.at 15 0 9 0 4 (by decide) hjb
      rw [Nat.zero_add] at this
      rw [this]
    have r2 : zald σm 9 4 (nI j) = some (nI (α 9 j)) := by
      rw [zald_nI hjb (by decide)]
      have := hM.at 9 0 9 0 4 (by decide) hjb
      rw [Nat.zero_add] at this
      rw [this]
    refine ⟨nI (α 9 j), zuI s1 15 j (nI v), zuI σm 9 j (nI v), au α 9 j v, ?_, ?_, hW.set9 hj hv, hC1.set 15 9 4 (by decide +kernel) (by decide +kernel) (by decide +kernel) (by decide) (by decide) (by decide) hjb v, hM.set 9 9 4 (by decide +kernel) (by decide) (by decide) hjb v, Or.inr (st1.set (by decide) (by decide))⟩
    · have hu : α 9 j ≤ 1 := hW.2.2.2.2.2.1.2.2.2.1 j
      rcases (show α 9 j = 0 ∨ α 9 j = 1 by omega) with hz | hz
      · have h0 : (nI (α 9 j) = 0) := by rw [hz]; rfl
        simp only [f_X8_near, a1, zbd, Option.bind_some, z10, if_false, e1, f_X8_put_, r1, h0, if_true, f_X8_put__11, zasZ_nI hjb (show 4 < 2 ^ 31 by decide) ev1]
      · have h0 : (nI (α 9 j) = 1) := by rw [hz]; rfl
        simp only [f_X8_near, a1, zbd, Option.bind_some, z10, if_false, e1, f_X8_put_, r1, h0, if_true, f_X8_put__11, zasZ_nI hjb (show 4 < 2 ^ 31 by decide) ev1]
    · have hu : α 9 j ≤ 1 := hW.2.2.2.2.2.1.2.2.2.1 j
      rcases (show α 9 j = 0 ∨ α 9 j = 1 by omega) with hz | hz
      · have h0 : (nI (α 9 j) = 0) := by rw [hz]; rfl
        simp only [f_X9_near, b1, zbd, Option.bind_some, z10, if_false, r2, h0, if_true, f_X9_near_24, zasZ_nI hjb (show 4 < 2 ^ 31 by decide) ev1]
      · have h0 : (nI (α 9 j) = 1) := by rw [hz]; rfl
        simp only [f_X9_near, b1, zbd, Option.bind_some, z10, if_false, r2, h0, if_true, f_X9_near_24, zasZ_nI hjb (show 4 < 2 ^ 31 by decide) ev1]
  · have a1 : f_X7_has N 12 x σc = some (0, σc) := by rw [zw_hasW N 12 x σc hC.sites hs, zbI_f h1]
    have b1 : f_X9_isSite N x σm = some (0, σm) := by rw [zw_isSite N x σm hM.sites hs, zbI_f h1]
    refine zMut.same hW hC hM (r := -1) ?_ ?_
    · simp only [f_X8_near, a1, zbd, Option.bind_some, if_true]
    · simp only [f_X9_near, b1, zbd, Option.bind_some, if_true]
theorem zmul4 (n s : Nat) : nI n * (4 : Int32) + nI s = nI (4 * n + s) ∧ (4 : Int32) * nI n + nI s = nI (4 * n + s) := by
  have e : (4 : Int32) = nI 4 := rfl
  rw [e, pk_mul, pk_mul, nI_add, nI_add, Nat.mul_comm n 4]
  exact ⟨rfl, rfl⟩
theorem zmul10 (n s : Nat) : nI n * (10 : Int32) + nI s = nI (10 * n + s) ∧ (10 : Int32) * nI n + nI s = nI (10 * n + s) := by
  have e : (10 : Int32) = nI 10 := rfl
  rw [e, pk_mul, pk_mul, nI_add, nI_add, Nat.mul_comm n 10]
  exact ⟨rfl, rfl⟩
theorem mu_late (N : Nat) (x y z : Int32) : zMut (f_X8_late N x y z) (f_X9_late N x y z) := by
  intro α σc σm hW hC hM
  have hn : α 0 0 ≤ 10 := hW.1.1
  have hs : α 0 2 ≤ 10 := by have := hW.1.2.2.1; omega
  by_cases h1 : 0 ≤ x.toInt ∧ x.toInt < ((α 0 0 : Nat) : Int)
  · have a1 : f_X3_has N x σc = some (1, σc) := by rw [zw_has N x σc hC.nets hn, zbI_t h1]
    have b1 : f_X9_isNet N x σm = some (1, σm) := by rw [zw_isNet N x σm hM.nets hn, zbI_t h1]
    by_cases h3 : 0 ≤ y.toInt ∧ y.toInt < ((α 0 2 : Nat) : Int)
    · have a3 : f_X7_has N 12 y σc = some (1, σc) := by rw [zw_hasW N 12 y σc hC.sites hs, zbI_t h3]
      have b3 : f_X9_isSite N y σm = some (1, σm) := by rw [zw_isSite N y σm hM.sites hs, zbI_t h3]
      have ev : (999 : Int32).toInt = 999 := by decide
      have ej : (999 : Int64).toInt = 999 := by decide
      have e0 : (0 : Int64).toInt = 0 := by decide
      by_cases h2 : 0 ≤ z.toInt ∧ z.toInt ≤ 999
      · have a2 : f_X8_within N z (999 : Int32) σc = some (1, σc) := zw_within_t (by rw [ev]; exact h2)
        have b2 : f_X9_in N (Int32.toInt64 z) (0 : Int64) (999 : Int64) σm = some (1, σm) := zw_in_t (by rw [z64, e0, ej]; omega)
        obtain ⟨j, hj, rfl, -⟩ := zof h1
        obtain ⟨k, hk, rfl, -⟩ := zof h3
        obtain ⟨v, hv, rfl, hv3⟩ := zof (n := 1000) (x := z) (by omega)
        obtain ⟨s1, e1, w1, st1⟩ := zw_forgetAll N σc
        have hC1 := hC.forget w1
        have hjb : 4 * j + k < 40 := by have := hW.1; unfold WN at this; omega
        have r1 : zald s1 11 40 (nI (4 * j + k)) = some (nI (α 10 (4 * j + k))) := by
          rw [zald_nI hjb (by decide)]
          have := hC1.at 11 0 10 0 40 (by decide) hjb
          rw [Nat.zero_add] at this
          rw [this]
        have r2 : zald σm 10 40 (nI (4 * j + k)) = some (nI (α 10 (4 * j + k))) := by
          rw [zald_nI hjb (by decide)]
          have := hM.at 10 0 10 0 40 (by decide) hjb
          rw [Nat.zero_add] at this
          rw [this]
        refine ⟨nI (α 10 (4 * j + k)), zuI s1 11 (4 * j + k) (nI v), zuI σm 10 (4 * j + k) (nI v), au α 10 (4 * j + k) v, ?_, ?_, hW.set10 (by omega), hC1.set 11 10 40 (by decide +kernel) (by decide +kernel) (by decide +kernel) (by decide) (by decide) (by decide) hjb v, hM.set 10 10 40 (by decide +kernel) (by decide) (by decide) hjb v, Or.inr (st1.set (by decide) (by decide))⟩
        · simp only [f_X8_late, a1, zbd, Option.bind_some, z10, if_false, a3, a2, e1, f_X8_put, (zmul4 j k).1, r1, zast_nI hjb (show 40 < 2 ^ 31 by decide)]
        · simp only [f_X9_late, b1, zbd, Option.bind_some, z10, if_false, b3, b2, (zmul4 j k).2, r2, zast_nI hjb (show 40 < 2 ^ 31 by decide)]
      · have a2 : f_X8_within N z (999 : Int32) σc = some (0, σc) := zw_within_f (by rw [ev]; exact h2)
        have b2 : f_X9_in N (Int32.toInt64 z) (0 : Int64) (999 : Int64) σm = some (0, σm) := zw_in_f (by rw [z64, e0, ej]; omega)
        refine zMut.same hW hC hM (r := -2) ?_ ?_
        · simp only [f_X8_late, a1, zbd, Option.bind_some, z10, if_false, a3, a2, if_true]
        · simp only [f_X9_late, b1, zbd, Option.bind_some, z10, if_false, b3, b2, if_true]
    · have a3 : f_X7_has N 12 y σc = some (0, σc) := by rw [zw_hasW N 12 y σc hC.sites hs, zbI_f h3]
      have b3 : f_X9_isSite N y σm = some (0, σm) := by rw [zw_isSite N y σm hM.sites hs, zbI_f h3]
      refine zMut.same hW hC hM (r := -1) ?_ ?_
      · simp only [f_X8_late, a1, zbd, Option.bind_some, z10, if_false, a3, if_true]
      · simp only [f_X9_late, b1, zbd, Option.bind_some, z10, if_false, b3, if_true]
  · have a1 : f_X3_has N x σc = some (0, σc) := by rw [zw_has N x σc hC.nets hn, zbI_f h1]
    have b1 : f_X9_isNet N x σm = some (0, σm) := by rw [zw_isNet N x σm hM.nets hn, zbI_f h1]
    refine zMut.same hW hC hM (r := -1) ?_ ?_
    · simp only [f_X8_late, a1, zbd, Option.bind_some, if_true]
    · simp only [f_X9_late, b1, zbd, Option.bind_some, if_true]
theorem mu_tied (N : Nat) (x y : Int32) : zMut (f_X8_tied N x y) (f_X9_tied N x y) := by
  intro α σc σm hW hC hM
  have hn : α 0 0 ≤ 10 := hW.1.1
  by_cases h1 : 0 ≤ x.toInt ∧ x.toInt < ((α 0 0 : Nat) : Int)
  · have a1 : f_X3_has N x σc = some (1, σc) := by rw [zw_has N x σc hC.nets hn, zbI_t h1]
    have b1 : f_X9_isNet N x σm = some (1, σm) := by rw [zw_isNet N x σm hM.nets hn, zbI_t h1]
    by_cases h3 : 0 ≤ y.toInt ∧ y.toInt < ((α 0 0 : Nat) : Int)
    · have a3 : f_X3_has N y σc = some (1, σc) := by rw [zw_has N y σc hC.nets hn, zbI_t h3]
      have b3 : f_X9_isNet N y σm = some (1, σm) := by rw [zw_isNet N y σm hM.nets hn, zbI_t h3]
      obtain ⟨j, hj, rfl, -⟩ := zof h1
      obtain ⟨k, hk, rfl, -⟩ := zof h3
      have hjb : 10 * j + k < 100 := by omega
      have r1 : zald σc 4 100 (nI (10 * j + k)) = some (nI (α 1 (10 * j + k))) := by
        rw [zald_nI hjb (by decide)]
        have := hC.at 4 0 1 0 100 (by decide) hjb
        rw [Nat.zero_add] at this
        rw [this]
      have r2 : zald σm 1 100 (nI (10 * j + k)) = some (nI (α 1 (10 * j + k))) := by
        rw [zald_nI hjb (by decide)]
        have := hM.at 1 0 1 0 100 (by decide) hjb
        rw [Nat.zero_add] at this
        rw [this]
      refine zMut.same hW hC hM (r := nI (α 1 (10 * j + k))) ?_ ?_
      · simp only [f_X8_tied, a1, zbd, Option.bind_some, z10, if_false, a3, f_X3_bond, (zmul10 j k).1, r1]
      · simp only [f_X9_tied, b1, zbd, Option.bind_some, z10, if_false, b3, (zmul10 j k).2, r2]
    · have a3 : f_X3_has N y σc = some (0, σc) := by rw [zw_has N y σc hC.nets hn, zbI_f h3]
      have b3 : f_X9_isNet N y σm = some (0, σm) := by rw [zw_isNet N y σm hM.nets hn, zbI_f h3]
      refine zMut.same hW hC hM (r := -1) ?_ ?_
      · simp only [f_X8_tied, a1, zbd, Option.bind_some, z10, if_false, a3, if_true]
      · simp only [f_X9_tied, b1, zbd, Option.bind_some, z10, if_false, b3, if_true]
  · have a1 : f_X3_has N x σc = some (0, σc) := by rw [zw_has N x σc hC.nets hn, zbI_f h1]
    have b1 : f_X9_isNet N x σm = some (0, σm) := by rw [zw_isNet N x σm hM.nets hn, zbI_f h1]
    refine zMut.same hW hC hM (r := -1) ?_ ?_
    · simp only [f_X8_tied, a1, zbd, Option.bind_some, if_true]
    · simp only [f_X9_tied, b1, zbd, Option.bind_some, if_true]
