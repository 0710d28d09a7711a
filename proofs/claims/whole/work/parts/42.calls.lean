/-! ===== what the chart does not look at; aim, trial, seen ===== -/
def CE (α β : AS) : Prop := α 0 0 = β 0 0 ∧ α 0 2 = β 0 2 ∧ ∀ c, 1 ≤ c → c ≤ 10 → α c = β c
theorem zstep_cg {α β κ : AS} (h : CE α β) (w : WD) : zstep α κ w = zstep β κ w := by
  have h0 := h.1
  have h1 := h.2.2 1 (by decide) (by decide)
  have h4 := h.2.2 4 (by decide) (by decide)
  have e1 : ∀ n, zoffr α κ w n = zoffr β κ w n := fun n => by
    funext c
    unfold zoffr zspk zpas zpas2
    simp only [h1, h4]
  have e2 : ∀ n, zrk α κ w n = zrk β κ w n := fun n => by
    funext c
    unfold zrk zpay
    simp only [h1]
  funext n
  unfold zstep
  rw [h0, e1, e2]
theorem zit_cg {α β κ : AS} (h : CE α β) : ∀ k, zit α κ k = zit β κ k
  | 0 => rfl
  | k + 1 => by
    show zstep α κ (zit α κ k) = zstep β κ (zit β κ k)
    rw [zit_cg h k, zstep_cg h]
theorem zrs_cg {α β κ : AS} (h : CE α β) : ∀ f k, zrs α κ f k = zrs β κ f k
  | 0, k => rfl
  | f + 1, k => by
    show (if zsame (zit α κ (k + 1)) (zit α κ k) = true then some k else zrs α κ f (k + 1)) = (if zsame (zit β κ (k + 1)) (zit β κ k) = true then some k else zrs β κ f (k + 1))
    rw [zit_cg h, zit_cg h, zrs_cg h f (k + 1)]
theorem zrest_cg {α β κ : AS} (h : CE α β) : zrest α κ = zrest β κ := zrs_cg h 41 0
theorem zEk_cg {α β κ : AS} (h : CE α β) : zEk α κ = zEk β κ := by
  have h0 := h.1
  have h02 := h.2.1
  have h2 := h.2.2 2 (by decide) (by decide)
  have h5 := h.2.2 5 (by decide) (by decide)
  have h10 := h.2.2 10 (by decide) (by decide)
  have e1 : ∀ w, zex α w = zex β w := fun w => by
    unfold zex zld
    simp only [h0, h02, h2, h5]
  have e2 : ∀ w, zsu α w = zsu β w := fun w => by
    unfold zsu zla
    simp only [h0, h2, h10]
  unfold zEk
  rw [zrest_cg h]
  congr 1
  funext k
  rw [zit_cg h, e1, e2]
theorem zka_cg {α β : AS} (h : CE α β) (a : Nat) : zka α a = zka β a := by
  unfold zka zr0
  rw [h.2.1, h.2.2 6 (by decide) (by decide), h.2.2 8 (by decide) (by decide), h.2.2 9 (by decide) (by decide), h.2.2 3 (by decide) (by decide)]
theorem zEv_cg {α β : AS} (h : CE α β) (a : Nat) : zEv α a = zEv β a := by
  unfold zEv
  rw [zka_cg h, zEk_cg h]
theorem ZRt.cg {α β : AS} {a : Nat} {σ : ZM} (h : CE α β) (z : ZRt α a σ) : ZRt β a σ := by
  unfold ZRt at *
  rw [← zEv_cg h]; exact z
theorem ChOK.cg {α β : AS} {σ σ' : ZM} (h : CE α β) (z : ChOK α σ) (e0 : σ'.1 23 14 = σ.1 23 14) (e1 : ∀ a, σ'.1 30 a = σ.1 30 a) (e2 : ∀ a, σ'.1 31 a = σ.1 31 a) : ChOK β σ' := by
  rcases z with q | q
  · exact Or.inl (by rw [e0]; exact q)
  · refine Or.inr ⟨by rw [e0]; exact q.1, fun a ha => ?_⟩
    rcases q.2 a ha with r | r
    · exact Or.inl (by rw [e1]; exact r)
    · exact Or.inr ((r.cg h).mv ⟨e1 a, e2 a⟩)
/-! aim -/
def zAimC {R : Type} (f g : ZM → Option (R × ZM)) : Prop := ∀ (α : AS) (σc σm : ZM), WF α → RC α σc → RM α σm → ∃ (r : R) (σc1 σm1 : ZM) (α1 : AS), f σc = some (r, σc1) ∧ g σm = some (r, σm1) ∧ WF α1 ∧ RC α1 σc1 ∧ RM α1 σm1 ∧ zag [(10, none)] σc σc1 ∧ ∀ c, c ≠ 11 → α1 c = α c
theorem au_code {α : AS} {k i v c : Nat} (h : c ≠ k) : au α k i v c = α c := by
  funext j
  exact au_n (fun q => h q.1)
theorem WF.set11 {α : AS} {j v : Nat} (h : WF α) (hj : j < α 0 2) (hv : v ≤ 4) : WF (au α 11 j v) := by
  obtain ⟨h1, h2, h3, h4, h5, h6, h7⟩ := h
  refine ⟨?_, ?_, ?_, ?_, ?_, ?_, ?_⟩
  · simpa [WN, au] using h1
  · simpa [WT, au] using h2
  · simpa [WG, au] using h3
  · simpa [WQ, au] using h4
  · simpa [WH, au] using h5
  · refine ⟨by simpa [au] using h6.1, by simpa [au] using h6.2.1, by simpa [au] using h6.2.2.1, by simpa [au] using h6.2.2.2.1, by simpa [au] using h6.2.2.2.2.1, fun s => ?_⟩
    have e : au α 11 j v 0 2 = α 0 2 := au_n (fun q => absurd q.1 (by decide))
    rw [e]
    by_cases q : s = j
    · subst q
      rw [au_s]
      exact ⟨by omega, fun r => by omega⟩
    · rw [au_n (fun r => q r.2)]
      exact h6.2.2.2.2.2 s
  · simpa [WX, au] using h7
theorem ca_aim {N : Nat} (x y : Int32) : zAimC (f_X8_aim N x y) (f_X9_aim N x y) := by
  intro α σc σm hW hC hM
  have hs0 := hW.1.2.2.1
  have e4 : (4 : Int32).toInt = 4 := by decide
  have j4 : (4 : Int64).toInt = 4 := by decide
  have j0 : (0 : Int64).toInt = 0 := by decide
  unfold f_X8_aim f_X9_aim
  rw [zw_hasW N 12 x σc hC.sites (by omega), zw_isSite N x σm hM.sites (by omega)]
  unfold zbd
  rw [Option.bind_some, Option.bind_some]
  simp only
  by_cases hx : 0 ≤ x.toInt ∧ x.toInt < α 0 2
  · rw [zbI_t hx, if_neg (by decide), if_neg (by decide), zw_within, zw_in, Option.bind_some, Option.bind_some]
    simp only
    by_cases hy : 0 ≤ y.toInt ∧ y.toInt ≤ 4
    · rw [zbI_t (by rw [e4]; exact hy), zbI_t (by rw [z64, j0, j4]; exact hy), if_neg (by decide), if_neg (by decide)]
      obtain ⟨s, hs, rfl, -⟩ := zof hx
      obtain ⟨v, hv, rfl, hv3⟩ := zof (n := 5) (x := y) (by omega)
      have hs4 : s < 4 := by omega
      rw [zw_aimC hW hC hs4, zw_aimM hW hM hs, Option.bind_some, Option.bind_some]
      simp only
      rw [zast_nI hs4 (by decide), zast_nI hs4 (by decide), Option.bind_some, Option.bind_some]
      refine ⟨_, _, _, au α 11 s v, rfl, rfl, hW.set11 hs (by omega), ⟨zrt_off hC.1 (by decide +kernel), zrt_off hC.2.1 (by decide +kernel), ?_, (zmask_au (by decide)).1.mpr (zmask_set hC.2.2.2.1 (by decide)), (zmask_au (by decide)).2.mpr (zmask_set hC.2.2.2.2 (by decide))⟩, ⟨zrt_off hM.1 (by decide +kernel), fun t ht => ?_, fun t ht n hn => ?_⟩, zag_all zag_uI, fun c hc => au_code hc⟩
      · have := zrt_upd (enc := aC) (T := TA) (c := 10) (o := 0) (k := 11) (ko := 0) (b := 4) hC.2.2.1 (by decide +kernel) hs4 v (x := nI v) (by unfold aC; rw [if_neg (by omega)])
        simp only [Nat.zero_add] at this
        exact this
      · rw [au_n (fun q => absurd q.1 (by decide))] at ht
        by_cases e : t = s
        · subst e; rw [zuI_s, au_s]; unfold sI; rw [if_neg (by omega)]
        · rw [zuI_n (fun q => e q.2), au_n (fun q => e q.2)]; exact hM.2.1 t ht
      · rw [au_n (fun q => absurd q.1 (by decide))] at ht
        rw [zuI_n (by simp), au_n (fun q => absurd q.1 (by decide))]
        exact hM.2.2 t ht n hn
    · rw [zbI_f (by rw [e4]; exact hy), zbI_f (by rw [z64, j0, j4]; exact hy), if_pos rfl, if_pos rfl]
      exact ⟨-2, σc, σm, α, rfl, rfl, hW, hC, hM, zag_r, fun _ _ => rfl⟩
  · rw [zbI_f hx, if_pos rfl, if_pos rfl]
    exact ⟨-1, σc, σm, α, rfl, rfl, hW, hC, hM, zag_r, fun _ _ => rfl⟩
/-! trial, seen -/
def zTriC {R : Type} (f g : ZM → Option (R × ZM)) : Prop := ∀ (α : AS) (σc σm : ZM), WF α → RC α σc → RM α σm → ∃ (r : R) (σc1 σm1 : ZM) (α1 : AS), f σc = some (r, σc1) ∧ g σm = some (r, σm1) ∧ WF α1 ∧ RC α1 σc1 ∧ RM α1 σm1 ∧ ((σc1 = σc ∧ α1 = α) ∨ (CE α α1 ∧ σc1.1 38 15 = 1 ∧ σc1.1 38 16 = 0 ∧ σc1.1 23 14 = σc.1 23 14 ∧ ∀ a, σc1.1 30 a = σc.1 30 a ∧ σc1.1 31 a = σc.1 31 a))
theorem zw_forget0 (N : Nat) (σ : ZM) : f_X0_forget N σ = some ((), zuI (zuI σ 38 15 1) 38 16 0) := rfl
theorem zw_trl {t : Nat} (h : t < 6) : zalR ztrl (nI t) = some (48 + 7 * t) := by
  have : ∀ t, t < 6 → zalR ztrl (nI t) = some (48 + 7 * t) := by decide +kernel
  exact this t h
theorem WF.set17 {α : AS} {t n v : Nat} (h : WF α) (ht : t < α 0 3) (hn : n < α 0 0) (hv : v ≤ 5) (hv2 : v < 4 → v < α 0 2) : WF (au α 17 (10 * t + n) v) := by
  obtain ⟨h1, h2, h3, h4, h5, h6, h7⟩ := h
  refine ⟨?_, ?_, ?_, ?_, ?_, ?_, ?_⟩
  · simpa [WN, au] using h1
  · simpa [WT, au] using h2
  · simpa [WG, au] using h3
  · simpa [WQ, au] using h4
  · simpa [WH, au] using h5
  · simpa [WW, au] using h6
  · refine ⟨by simpa [au] using h7.1, by simpa [au] using h7.2.1, by simpa [au] using h7.2.2.1, by simpa [au] using h7.2.2.2.1, by simpa [au] using h7.2.2.2.2.1, fun t' n' hn' => ?_⟩
    have e0 : au α 17 (10 * t + n) v 0 2 = α 0 2 := au_n (fun q => absurd q.1 (by decide))
    have e1 : au α 17 (10 * t + n) v 0 3 = α 0 3 := au_n (fun q => absurd q.1 (by decide))
    have e2 : au α 17 (10 * t + n) v 0 0 = α 0 0 := au_n (fun q => absurd q.1 (by decide))
    have h10 := h1.1
    rw [e0, e1, e2]
    by_cases q : 10 * t' + n' = 10 * t + n
    · rw [q, au_s]
      exact ⟨hv, hv2, fun r => by omega⟩
    · rw [au_n (fun r => q r.2)]
      exact h7.2.2.2.2.2 t' n' hn'
theorem zseen_coh {t : Nat} (h : t < 6) : zcoh TS (54 + 7 * t) 0 17 (10 * t) 10 = true ∧ zoff TC (54 + 7 * t) 17 = true ∧ zoff TA (54 + 7 * t) 17 = true := by
  have : ∀ t, t < 6 → zcoh TS (54 + 7 * t) 0 17 (10 * t) 10 = true ∧ zoff TC (54 + 7 * t) 17 = true ∧ zoff TA (54 + 7 * t) 17 = true := by decide +kernel
  exact this t h
theorem RC.fr38 {α : AS} {σ σ' : ZM} (h : RC α σ) (hW : zag [(38, some 15), (38, some 16)] σ σ') : RC α σ' := h.fr hW (by decide +kernel) (by decide +kernel) (by decide +kernel) (by decide) (by decide)
theorem zw_seenC {N : Nat} {α : AS} {σ : ZM} (hW : WF α) (hC : RC α σ) {t n v : Nat} (ht : t < α 0 3) (hn : n < α 0 0) : ∃ σ', (zbd (f_X0_forget N σ) fun r3 s4 => (zalR ztrl (nI t)).bind fun t5 => zbd (f_X8_put N (t5 + 6) 10 (nI n) (sI v) s4) fun r6 s7 => some (r6, s7)) = some (sI (α 17 (10 * t + n)), σ') ∧ RC (au α 17 (10 * t + n) v) σ' ∧ σ'.1 38 15 = 1 ∧ σ'.1 38 16 = 0 ∧ σ'.1 23 14 = σ.1 23 14 ∧ ∀ a, σ'.1 30 a = σ.1 30 a ∧ σ'.1 31 a = σ.1 31 a := by
  have ht6 : t < 6 := by have := hW.1.2.2.2; omega
  have hn10 : n < 10 := by have := hW.1.1; omega
  obtain ⟨s1, hs1⟩ : ∃ s1, s1 = zuI (zuI σ 38 15 1) 38 16 0 := ⟨_, rfl⟩
  have g1 : zag [(38, some 15), (38, some 16)] σ s1 := by rw [hs1]; exact zag_t (zag_w (W1 := [(38, some 15)]) (by simp) zag_uI) (zag_w (W1 := [(38, some 16)]) (by simp) zag_uI)
  have hc1 := hC.fr38 g1
  obtain ⟨q1, q2, q3⟩ := zseen_coh ht6
  have rd : s1.1 (54 + 7 * t) n = sI (α 17 (10 * t + n)) := by
    have : ∀ t, t < 6 → (54 + 7 * t, 0, 17, 10 * t, 10) ∈ TS := by decide +kernel
    have := hc1.2.1 _ (this t ht6) n hn10
    simp only [Nat.zero_add] at this
    exact this
  refine ⟨zuI s1 (54 + 7 * t) n (sI v), ?_, ⟨zrt_off hc1.1 q2, ?_, zrt_off hc1.2.2.1 q3, (zmask_au (by decide)).1.mpr (zmask_set hc1.2.2.2.1 (by omega)), (zmask_au (by decide)).2.mpr (zmask_set hc1.2.2.2.2 (by omega))⟩, ?_, ?_, ?_, fun a => ⟨?_, ?_⟩⟩
  · rw [zw_forget0, ← hs1]
    unfold zbd
    rw [Option.bind_some]
    simp only
    rw [zw_trl ht6, Option.bind_some]
    unfold f_X8_put
    rw [show 48 + 7 * t + 6 = 54 + 7 * t by omega, zald_nI hn10 (by decide), Option.bind_some, zast_nI hn10 (by decide), Option.bind_some, rd]
    rfl
  · have := zrt_upd hc1.2.1 q1 hn10 v rfl
    rw [Nat.zero_add] at this
    exact this
  · rw [zuI_n (by omega), hs1, zuI_n (by simp), zuI_s]
  · rw [zuI_n (by omega), hs1, zuI_s]
  · rw [zuI_n (by omega), hs1, zuI_n (by simp), zuI_n (by simp)]
  · rw [zuI_n (by omega), hs1, zuI_n (by simp), zuI_n (by simp)]
  · rw [zuI_n (by omega), hs1, zuI_n (by simp), zuI_n (by simp)]
theorem zw_seenM {N : Nat} {α : AS} {σ : ZM} (hW : WF α) (hM : RM α σ) {t n v : Nat} (ht : t < α 0 3) (hn : n < α 0 0) : f_X9_seen_45 N (nI t) (nI n) (sI v) σ = some (sI (α 17 (10 * t + n)), zuI σ 33 (10 * t + n) (sI v)) ∧ RM (au α 17 (10 * t + n) v) (zuI σ 33 (10 * t + n) (sI v)) := by
  have ht6 : t < 6 := by have := hW.1.2.2.2; omega
  have hn10 : n < 10 := by have := hW.1.1; omega
  refine ⟨?_, zrt_off hM.1 (by decide +kernel), fun s hs => ?_, fun t' ht' n' hn' => ?_⟩
  · unfold f_X9_seen_45
    rw [(zmul10 t n).2, zald_nI (show 10 * t + n < 60 by omega) (by decide), Option.bind_some, zast_nI (show 10 * t + n < 60 by omega) (by decide), Option.bind_some, hM.2.2 t ht n hn10]
  · rw [au_n (fun q => absurd q.1 (by decide))] at hs
    rw [zuI_n (by simp), au_n (fun q => absurd q.1 (by decide))]
    exact hM.2.1 s hs
  · rw [au_n (fun q => absurd q.1 (by decide))] at ht'
    by_cases q : 10 * t' + n' = 10 * t + n
    · rw [q, zuI_s, au_s]
    · rw [zuI_n (fun r => q r.2), au_n (fun r => q r.2)]
      exact hM.2.2 t' ht' n' hn'
theorem ca_seen {N : Nat} (x y z : Int32) : zTriC (f_X8_seen N x y z) (f_X9_seen N x y z) := by
  intro α σc σm hW hC hM
  have hn0 := hW.1.1
  have hs0 := hW.1.2.2.1
  have ht0 := hW.1.2.2.2
  have j0 : (0 : Int64).toInt = 0 := by decide
  have c0 : (0 : Int32).toInt = 0 := rfl
  have keep : ∃ (r : Int32) (σc1 σm1 : ZM) (α1 : AS), some ((-1 : Int32), σc) = some (r, σc1) ∧ some ((-1 : Int32), σm) = some (r, σm1) ∧ WF α1 ∧ RC α1 σc1 ∧ RM α1 σm1 ∧ ((σc1 = σc ∧ α1 = α) ∨ (CE α α1 ∧ σc1.1 38 15 = 1 ∧ σc1.1 38 16 = 0 ∧ σc1.1 23 14 = σc.1 23 14 ∧ ∀ a, σc1.1 30 a = σc.1 30 a ∧ σc1.1 31 a = σc.1 31 a)) := ⟨-1, σc, σm, α, rfl, rfl, hW, hC, hM, Or.inl ⟨rfl, rfl⟩⟩
  have hin : f_X9_in N (Int32.toInt64 x) (0 : Int64) (Int32.toInt64 ((σm.1 0 33) - (1 : Int32))) σm = some (zbI (0 ≤ x.toInt ∧ x.toInt < α 0 3), σm) := by
    rw [zw_in, hM.trials, zpred (by omega), z64, j0]
    congr 2
    exact zbI_congr (by omega)
  by_cases hx : 0 ≤ x.toInt ∧ x.toInt < α 0 3
  · obtain ⟨t, ht, rfl, -⟩ := zof hx
    by_cases hy : 0 ≤ y.toInt ∧ y.toInt < α 0 0
    · obtain ⟨n, hn, rfl, -⟩ := zof hy
      have cst : ∀ y0 : Int32, f_X8_seen_27 N (nI t) (nI n) z y0 σc = if y0 = 0 then some ((-1 : Int32), σc) else zbd (f_X0_forget N σc) fun r3 s4 => (zalR ztrl (nI t)).bind fun t5 => zbd (f_X8_put N (t5 + 6) 10 (nI n) z s4) fun r6 s7 => some (r6, s7) := by
        intro y0
        unfold f_X8_seen_27
        rw [if_neg (fun q => by rw [Int32.lt_iff_toInt_lt] at q; omega), hC.trials, if_neg (nI_ge ht (by omega)), zw_has N (nI n) σc hC.nets hn0, zbI_t hy]
        rfl
      have mst : f_X9_seen N (nI t) (nI n) z σm = if z = (-9 : Int32) then f_X9_seen_45 N (nI t) (nI n) z σm else if z = (4 : Int32) then f_X9_seen_45 N (nI t) (nI n) z σm else if zbI (0 ≤ z.toInt ∧ z.toInt < α 0 2) = 0 then some ((-1 : Int32), σm) else f_X9_seen_45 N (nI t) (nI n) z σm := by
        unfold f_X9_seen
        rw [hin, zbI_t hx]
        unfold zbd
        rw [Option.bind_some]
        simp only
        rw [if_neg (by decide), zw_isNet N (nI n) σm hM.nets hn0, zbI_t hy, Option.bind_some]
        simp only
        rw [if_neg (by decide), zw_isSite N z σm hM.sites (by omega)]
        rfl
      have good : ∀ v, v ≤ 5 → (v < 4 → v < α 0 2) → z = sI v → ∃ (r : Int32) (σc1 σm1 : ZM) (α1 : AS), f_X8_seen_27 N (nI t) (nI n) z 1 σc = some (r, σc1) ∧ f_X9_seen_45 N (nI t) (nI n) z σm = some (r, σm1) ∧ WF α1 ∧ RC α1 σc1 ∧ RM α1 σm1 ∧ ((σc1 = σc ∧ α1 = α) ∨ (CE α α1 ∧ σc1.1 38 15 = 1 ∧ σc1.1 38 16 = 0 ∧ σc1.1 23 14 = σc.1 23 14 ∧ ∀ a, σc1.1 30 a = σc.1 30 a ∧ σc1.1 31 a = σc.1 31 a)) := by
        intro v hv hv2 hz
        subst hz
        obtain ⟨s1, a1, a2, a3⟩ := zw_seenC (N := N) hW hC (v := v) ht hn
        obtain ⟨b1, b2⟩ := zw_seenM (N := N) hW hM (v := v) ht hn
        refine ⟨_, _, _, _, ?_, b1, hW.set17 ht hn hv hv2, a2, b2, Or.inr ⟨⟨?_, ?_, fun c h1 h2 => ?_⟩, a3⟩⟩
        · rw [cst, if_neg (by decide)]; exact a1
        · exact (au_n (fun q => absurd q.1 (by decide))).symm
        · exact (au_n (fun q => absurd q.1 (by decide))).symm
        · exact (au_code (by omega)).symm
      rw [mst]
      unfold f_X8_seen f_X8_seen_22
      by_cases z9 : z = (-9 : Int32)
      · rw [if_pos z9, if_pos z9]
        exact good 5 (by omega) (by omega) (z9.trans sI5.symm)
      · rw [if_neg z9, if_neg z9]
        by_cases z4 : z = (4 : Int32)
        · rw [if_pos z4, if_pos z4]
          exact good 4 (by omega) (by omega) (z4.trans rfl)
        · rw [if_neg z4, if_neg z4, zw_hasW N 12 z σc hC.sites (by omega)]
          unfold zbd
          rw [Option.bind_some]
          simp only
          by_cases hz : 0 ≤ z.toInt ∧ z.toInt < α 0 2
          · rw [zbI_t hz, if_neg (by decide), if_neg (by decide)]
            obtain ⟨s, hs, hzs, -⟩ := zof hz
            exact good s (by omega) (fun _ => hs) (hzs.trans (sI_nI (by omega)).symm)
          · rw [zbI_f hz, if_pos rfl, if_pos rfl, cst, if_pos rfl]
            exact keep
    · have cst : ∀ y0 : Int32, f_X8_seen_27 N (nI t) y z y0 σc = some ((-1 : Int32), σc) := by
        intro y0
        unfold f_X8_seen_27
        rw [if_neg (fun q => by rw [Int32.lt_iff_toInt_lt] at q; omega), hC.trials, if_neg (nI_ge ht (by omega)), zw_has N y σc hC.nets hn0, zbI_f hy]
        rfl
      have c8 : f_X8_seen N (nI t) y z σc = some ((-1 : Int32), σc) := by
        unfold f_X8_seen f_X8_seen_22
        rw [zw_hasW N 12 z σc hC.sites (by omega)]
        unfold zbd
        rw [Option.bind_some]
        simp only [cst, ite_self]
      have m9 : f_X9_seen N (nI t) y z σm = some ((-1 : Int32), σm) := by
        unfold f_X9_seen
        rw [hin, zbI_t hx]
        unfold zbd
        rw [Option.bind_some]
        simp only
        rw [if_neg (by decide), zw_isNet N y σm hM.nets hn0, zbI_f hy, Option.bind_some]
        exact if_pos rfl
      rw [c8, m9]
      exact keep
  · have cst : ∀ y0 : Int32, f_X8_seen_27 N x y z y0 σc = some ((-1 : Int32), σc) := by
      intro y0
      unfold f_X8_seen_27
      by_cases h1 : x < 0
      · rw [if_pos h1]
      · rw [if_neg h1, hC.trials, if_pos]
        rw [Int32.le_iff_toInt_le, nI_toInt (by omega)]
        rw [Int32.lt_iff_toInt_lt] at h1
        omega
    have c8 : f_X8_seen N x y z σc = some ((-1 : Int32), σc) := by
      unfold f_X8_seen f_X8_seen_22
      rw [zw_hasW N 12 z σc hC.sites (by omega)]
      unfold zbd
      rw [Option.bind_some]
      simp only [cst, ite_self]
    have m9 : f_X9_seen N x y z σm = some ((-1 : Int32), σm) := by
      unfold f_X9_seen
      rw [hin, zbI_f hx]
      unfold zbd
      rw [Option.bind_some]
      exact if_pos rfl
    rw [c8, m9]
    exact keep
