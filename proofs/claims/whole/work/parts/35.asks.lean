/-! ===== calls that ask: rounds, comes, names, way, told, load ===== -/
def zQry {R : Type} (f g : ZM → Option (R × ZM)) : Prop := ∀ (α : AS) (σc σm : ZM), WF α → RC α σc → RM α σm → ∃ (r : R) (σc1 σm1 : ZM), f σc = some (r, σc1) ∧ g σm = some (r, σm1) ∧ RC α σc1 ∧ RM α σm1 ∧ zag zWQ σc σc1
theorem zro_some {k : Nat} (hk : k < 2 ^ 31) : ¬ zro (some k) = (-9 : Int32) := nI_m9 hk
theorem zrest_le {α κ : AS} {k : Nat} (h : zrest α κ = some k) : k ≤ 40 := by have := zrs_some 41 0 k h; omega
theorem qu_rounds {N : Nat} (hN : 50 < N) : zQry (f_X8_rounds N) (f_X9_rounds N) := by
  intro α σc σm hW hC hM
  obtain ⟨s1, a1, a2, a3, a4⟩ := zw_settleNowC hN hW hC
  obtain ⟨t1, b1, b2, b3, b4, b5⟩ := zw_settleNowM hN hW hM
  refine ⟨zro (zrest α (zkn α (zr0 α))), s1, t1, ?_, ?_, a3, b2, a2⟩
  · unfold f_X8_rounds; rw [a1]; rfl
  · unfold f_X9_rounds; rw [b1]
    unfold zbd
    rw [Option.bind_some]
    try simp only
    cases hr : zrest α (zkn α (zr0 α)) with
    | none => rw [zbI_f (by simp), if_pos rfl]; rfl
    | some k => rw [zbI_t (by simp), if_neg (by decide), (b5 k hr).2]; rfl
theorem zQ_net {N : Nat} (hN : 50 < N) {x : Int32} {cC cM : ZM → Option (Int32 × ZM)} (h : ∀ (α : AS) (σc σm : ZM) (n k : Nat), WF α → n < α 0 0 → x = nI n → zrest α (zkn α (zr0 α)) = some k → CC α (zkn α (zr0 α)) 12 (zit α (zkn α (zr0 α)) k) σc → MC α (zkn α (zr0 α)) (zit α (zkn α (zr0 α)) k) σm → ∃ r σc' σm', cC σc = some (r, σc') ∧ cM σm = some (r, σm') ∧ zag zWH σc σc' ∧ RM α σm') : zQry (fun σ => zbd (f_X3_has N x σ) fun r1 s2 => zbd (f_X8_restRefusal N r1 s2) fun r3 s4 => if r3 = 0 then cC s4 else some (r3, s4)) (fun σ => zbd (f_X9_isNet N x σ) fun r1 s2 => if r1 = 0 then some ((-1 : Int32), s2) else zbd (f_X9_settleNow N s2) fun r3 s4 => if r3 = 0 then some ((-3 : Int32), s4) else cM s4) := by
  intro α σc σm hW hC hM
  have hn0 := hW.1.1
  try simp only
  rw [zw_has N x σc hC.nets hn0, zw_isNet N x σm hM.nets hn0]
  unfold zbd
  simp only [Option.bind_some]
  by_cases hx : 0 ≤ x.toInt ∧ x.toInt < α 0 0
  · obtain ⟨n, hn, rfl, -⟩ := zof hx
    rw [zbI_t hx]
    unfold f_X8_restRefusal
    simp only [z10, if_false]
    obtain ⟨s1, a1, a2, a3, a4⟩ := zw_settleNowC hN hW hC
    obtain ⟨t1, b1, b2, b3, b4, b5⟩ := zw_settleNowM hN hW hM
    unfold zbd
    rw [a1, b1]
    simp only [Option.bind_some]
    cases hr : zrest α (zkn α (zr0 α)) with
    | none =>
      refine ⟨-3, s1, t1, ?_, ?_, a3, b2, a2⟩
      · rw [if_pos (show zro none = -9 from rfl), Option.bind_some]
        try simp only
        rw [if_neg (by decide)]
      · rw [zbI_f (by simp), if_pos rfl]
    | some k =>
      have hk := zrest_le hr
      obtain ⟨r, u1, u2, c1, c2, c3, c4⟩ := h α s1 t1 n k hW hn rfl hr (a4 k hr) (b5 k hr).1
      refine ⟨r, u1, u2, ?_, ?_, ((a4 k hr).fr (Or.inl rfl) hn0 c3).1, c4, zag_t a2 (zag_w (by simp) c3)⟩
      · rw [if_neg (zro_some (by omega)), Option.bind_some]
        try simp only
        exact c1
      · rw [zbI_t (by simp), if_neg (by decide)]; exact c2
  · refine ⟨-1, σc, σm, ?_, ?_, hC, hM, zag_r⟩
    · rw [zbI_f hx]
      unfold f_X8_restRefusal
      rw [if_pos rfl, Option.bind_some]
      try simp only
      rw [if_neg (by decide)]
    · rw [zbI_f hx, if_pos rfl]
theorem zQ_site {N : Nat} (hN : 50 < N) {x : Int32} {cC cM : ZM → Option (Int32 × ZM)} (h : ∀ (α : AS) (σc σm : ZM) (n k : Nat), WF α → n < α 0 2 → x = nI n → zrest α (zkn α (zr0 α)) = some k → CC α (zkn α (zr0 α)) 12 (zit α (zkn α (zr0 α)) k) σc → MC α (zkn α (zr0 α)) (zit α (zkn α (zr0 α)) k) σm → ∃ r σc' σm', cC σc = some (r, σc') ∧ cM σm = some (r, σm') ∧ zag zWH σc σc' ∧ RM α σm') : zQry (fun σ => zbd (f_X7_has N 12 x σ) fun r1 s2 => zbd (f_X8_restRefusal N r1 s2) fun r3 s4 => if r3 = 0 then cC s4 else some (r3, s4)) (fun σ => zbd (f_X9_isSite N x σ) fun r1 s2 => if r1 = 0 then some ((-1 : Int32), s2) else zbd (f_X9_settleNow N s2) fun r3 s4 => if r3 = 0 then some ((-3 : Int32), s4) else cM s4) := by
  intro α σc σm hW hC hM
  have hn0 := hW.1.1
  have hs0 := hW.1.2.2.1
  try simp only
  rw [zw_hasW N 12 x σc hC.sites (by omega), zw_isSite N x σm hM.sites (by omega)]
  unfold zbd
  simp only [Option.bind_some]
  by_cases hx : 0 ≤ x.toInt ∧ x.toInt < α 0 2
  · obtain ⟨n, hn, rfl, -⟩ := zof hx
    rw [zbI_t hx]
    unfold f_X8_restRefusal
    simp only [z10, if_false]
    obtain ⟨s1, a1, a2, a3, a4⟩ := zw_settleNowC hN hW hC
    obtain ⟨t1, b1, b2, b3, b4, b5⟩ := zw_settleNowM hN hW hM
    unfold zbd
    rw [a1, b1]
    simp only [Option.bind_some]
    cases hr : zrest α (zkn α (zr0 α)) with
    | none =>
      refine ⟨-3, s1, t1, ?_, ?_, a3, b2, a2⟩
      · rw [if_pos (show zro none = -9 from rfl), Option.bind_some]
        try simp only
        rw [if_neg (by decide)]
      · rw [zbI_f (by simp), if_pos rfl]
    | some k =>
      have hk := zrest_le hr
      obtain ⟨r, u1, u2, c1, c2, c3, c4⟩ := h α s1 t1 n k hW hn rfl hr (a4 k hr) (b5 k hr).1
      refine ⟨r, u1, u2, ?_, ?_, ((a4 k hr).fr (Or.inl rfl) hn0 c3).1, c4, zag_t a2 (zag_w (by simp) c3)⟩
      · rw [if_neg (zro_some (by omega)), Option.bind_some]
        try simp only
        exact c1
      · rw [zbI_t (by simp), if_neg (by decide)]; exact c2
  · refine ⟨-1, σc, σm, ?_, ?_, hC, hM, zag_r⟩
    · rw [zbI_f hx]
      unfold f_X8_restRefusal
      rw [if_pos rfl, Option.bind_some]
      try simp only
      rw [if_neg (by decide)]
    · rw [zbI_f hx, if_pos rfl]
/-- the site to which a net comes; 5: none -/
def zsn (o : Option (Nat × Nat × List Nat)) : Nat := match o with
  | none => 5
  | some x => x.1
theorem zw_comesTo {N : Nat} {α κ : AS} {w : WD} {σ : ZM} (hV : VW α κ w) (h19 : ∀ n, n < 10 → σ.2 19 n = zen (w n)) {n : Nat} (hn : n < 10) : f_X2_comesTo N (nI n) σ = some (sI (zsn (w n)), σ) := by
  unfold f_X2_comesTo
  rw [zalJ_nI hn (by decide), Option.bind_some, h19 n hn]
  cases hw : w n with
  | none => rw [if_pos (show lg_cmp (zen none) 0 = 0 from (lg_eq0 _ _).mpr rfl)]; rfl
  | some x =>
    have hv := (hV n x hw).2.1
    rw [if_neg (fun q => zen_ne0 hv ((lg_eq0 _ _).mp q)), Option.bind_some, show zen (some x) = lN (wn x.1 x.2.1 x.2.2) from rfl, zw_siteOf hv]
    unfold zbd
    rw [Option.bind_some]
    try simp only
    have : zsn (some x) = x.1 := rfl
    rw [this]
    unfold sI
    rw [if_neg (by have := hv.1; omega)]
theorem MW1.site {o : Option (Nat × Nat × List Nat)} {n : Nat} {σ : ZM} (h : MW1 17 o n σ) (hv : ∀ x, o = some x → x.1 < 4) : σ.1 17 n = sI (zsn o) := by
  cases o with
  | none => exact h.1
  | some x =>
    have := hv x rfl
    rw [h.1]
    show nI x.1 = sI x.1
    unfold sI
    rw [if_neg (by omega)]
theorem zWH_r {σ : ZM} : zag zWH σ σ := zag_r
theorem qu_comes {N : Nat} (hN : 50 < N) (x : Int32) : zQry (f_X8_comes N x) (f_X9_comes N x) := by
  refine zQ_net hN (cC := fun s4 => zbd (f_X2_comesTo N x s4) fun r5 s6 => some (r5, s6)) (cM := fun s4 => (zald s4 17 10 x).bind fun v5 => some (v5, s4)) ?_
  intro α σc σm n k hW hn hx hr hC hM
  subst hx
  have hn0 := hW.1.1
  have hV := VW.it (κ := zkn α (zr0 α)) hW (zkn_KW hW (fun n => zlr_le _)) k
  refine ⟨sI (zsn (zit α (zkn α (zr0 α)) k n)), σc, σm, ?_, ?_, zag_r, hM.1⟩
  · try simp only
    rw [zw_comesTo hV hC.2.2.2 (by omega)]; rfl
  · try simp only
    rw [zald_nI (show n < 10 by omega) (by decide), Option.bind_some, (hM.2.2.2 n hn).site (fun x hx => (hV n x hx).2.1.1)]
theorem zw_names0 (N : Nat) (σ : ZM) : f_X2_namesOf N 0 σ = some (0, σ) := rfl
theorem zw_way0 (N : Nat) (i : Int32) (σ : ZM) : f_X2_passedAt N 0 i σ = some (-9, σ) := by
  unfold f_X2_passedAt
  have c0 : (0 : Int32).toInt = 0 := rfl
  have c10 : (10 : Int32).toInt = 10 := rfl
  by_cases h1 : i < 0
  · rw [if_pos h1]
  · rw [if_neg h1]
    have g1 : ¬ i.toInt < (0 : Int32).toInt := fun q => h1 (Int32.lt_iff_toInt_lt.mpr q)
    by_cases h2 : i < (10 : Int32)
    · have g2 := Int32.lt_iff_toInt_lt.mp h2
      obtain ⟨j, hj, rfl, hj3⟩ := zof (n := 10) (x := i) (by omega)
      rw [if_pos h2, Option.bind_some]
      have : ∀ j, j < 10 → ¬ 0 ≤ (Int64.toInt32 ((zsrlJ 0 ((4 : Int32) * nI j)) &&& (15 : Int64))) - (1 : Int32) := by decide +kernel
      rw [if_neg (this j hj)]
    · rw [if_neg h2]
theorem qu_names {N : Nat} (hN : 50 < N) (x : Int32) : zQry (f_X8_names N x) (f_X9_names N x) := by
  refine zQ_net hN (cC := fun s4 => (zalJ s4 19 10 x).bind fun v5 => zbd (f_X2_namesOf N v5 s4) fun r6 s7 => some (r6, s7)) (cM := fun s4 => (zald s4 18 10 x).bind fun v5 => some (v5, s4)) ?_
  intro α σc σm n k hW hn hx hr hC hM
  subst hx
  have hn0 := hW.1.1
  have hV := VW.it (κ := zkn α (zr0 α)) hW (zkn_KW hW (fun n => zlr_le _)) k
  have hm := hM.2.2.2 n hn
  try simp only
  rw [zalJ_nI (show n < 10 by omega) (by decide), Option.bind_some, hC.2.2.2 n (by omega), zald_nI (show n < 10 by omega) (by decide), Option.bind_some]
  cases hw : zit α (zkn α (zr0 α)) k n with
  | none =>
    rw [hw] at hm
    exact ⟨0, σc, σm, rfl, by rw [show σm.1 18 n = 0 from hm.2.1], zag_r, hM.1⟩
  | some y =>
    rw [hw] at hm
    have hv := (hV n y hw).2.1
    refine ⟨nI y.2.1, σc, σm, ?_, by rw [show σm.1 18 n = nI y.2.1 from hm.2.1], zag_r, hM.1⟩
    rw [show zen (some y) = lN (wn y.1 y.2.1 y.2.2) from rfl, zw_namesOf hv]; rfl
theorem qu_way {N : Nat} (hN : 50 < N) (x y : Int32) : zQry (f_X8_way N x y) (f_X9_way N x y) := by
  refine zQ_net hN (cC := fun s4 => (zalJ s4 19 10 x).bind fun v5 => zbd (f_X2_passedAt N v5 y s4) fun r6 s7 => some (r6, s7)) (cM := fun s4 => (zald s4 20 10 x).bind fun v5 => zbd (f_X9_in N (Int32.toInt64 y) (0 : Int64) (Int32.toInt64 (v5 - (1 : Int32))) s4) fun r6 s7 => if r6 = 0 then some ((-9 : Int32), s7) else (zald s7 21 100 (((10 : Int32) * x) + y)).bind fun v8 => some (v8, s7)) ?_
  intro α σc σm n k hW hn hx hr hC hM
  subst hx
  have hn0 := hW.1.1
  have hV := VW.it (κ := zkn α (zr0 α)) hW (zkn_KW hW (fun n => zlr_le _)) k
  have hm := hM.2.2.2 n hn
  have e0 : (0 : Int64).toInt = 0 := rfl
  try simp only
  rw [zalJ_nI (show n < 10 by omega) (by decide), Option.bind_some, hC.2.2.2 n (by omega), zald_nI (show n < 10 by omega) (by decide), Option.bind_some, zw_in]
  unfold zbd
  rw [Option.bind_some]
  try simp only
  cases hw : zit α (zkn α (zr0 α)) k n with
  | none =>
    rw [hw] at hm
    refine ⟨-9, σc, σm, ?_, ?_, zag_r, hM.1⟩
    · rw [show zen none = 0 from rfl, zw_way0]; rfl
    · rw [show σm.1 20 n = nI 0 from hm.2.2.2, zpred (by decide), z64, e0, zbI_f (by omega), if_pos rfl]
  | some p =>
    rw [hw] at hm
    have hv := (hV n p hw).2.1
    have hlen := hv.2.2.2.2.1
    rw [show zen (some p) = lN (wn p.1 p.2.1 p.2.2) from rfl, zw_passedAt hv, show σm.1 20 n = nI p.2.2.length from hm.2.2.2.1, zpred hlen, z64, e0, Option.bind_some]
    try simp only
    by_cases hy : 0 ≤ y.toInt ∧ y.toInt < p.2.2.length
    · obtain ⟨j, hj, rfl, hj3⟩ := zof hy
      have ej : (nI j).toInt = j := nI_toInt hj3
      have b1 : p.2.2[j]? = some p.2.2[j] := List.getElem?_eq_getElem hj
      have m1 := hm.2.2.2.2 j _ b1
      refine ⟨nI p.2.2[j], σc, σm, ?_, ?_, zag_r, hM.1⟩
      · rw [dif_pos (by omega), ej, show (j : Int).toNat = j from rfl, b1]
      · rw [zbI_t (by omega), if_neg (by decide), (zmul10 n j).2, zald_nI (show 10 * n + j < 100 by omega) (by decide), Option.bind_some, m1]
    · refine ⟨-9, σc, σm, ?_, ?_, zag_r, hM.1⟩
      · by_cases h10 : 0 ≤ y.toInt ∧ y.toInt < 10
        · rw [dif_pos h10, List.getElem?_eq_none (by omega)]
        · rw [dif_neg h10]
      · rw [zbI_f (by omega), if_pos rfl]
/-! told -/
theorem zw_come {N : Nat} (hN : 14 < N) {α κ : AS} {w : WD} {σ : ZM} (hW : WF α) (hK : KW α κ) (hV : VW α κ w) (h : MC α κ w σ) {n : Nat} (hn : n < α 0 0) : ∃ L, f_X9_come N (nI n) σ = some (nI (List.length L), σ) ∧ L = zls (zoffr α κ w n) 14 := by
  have hn0 := hW.1.1
  have hn10 : n < 10 := by omega
  have e0 : ∀ a : Nat, nI a + 0 = nI a := fun a => by rw [show (0 : Int32) = nI 0 from rfl, nI_add]; rfl
  have hlt : ∀ k, zoffr α κ w n k = true → zls (zoffr α κ w n) (k + 1) = zls (zoffr α κ w n) k ++ [k] := fun k hk => by
    show (if zoffr α κ w n k = true then zls (zoffr α κ w n) k ++ [k] else zls (zoffr α κ w n) k) = _
    rw [if_pos hk]
  have hlf : ∀ k, zoffr α κ w n k = false → zls (zoffr α κ w n) (k + 1) = zls (zoffr α κ w n) k := fun k hk => by
    show (if zoffr α κ w n k = true then zls (zoffr α κ w n) k ++ [k] else zls (zoffr α κ w n) k) = _
    rw [if_neg (by rw [hk]; decide)]
  have second : f_X9_come_34 N N (nI n) (nI (zls (zoffr α κ w n) 4).length) 0 σ = some (nI (zls (zoffr α κ w n) (4 + α 0 0)).length, σ) := by
    refine zloopT (fun m (q : Int32 × Int32) => f_X9_come_34 N m (nI n) q.1 q.2 σ) (fun i => (nI (zls (zoffr α κ w n) (4 + i)).length, nI i)) (α 0 0) _ (fun m => ?_) (fun m i hi => ?_) N 0 (by omega) (by omega)
    · show b_X9_come_34 N (f_X9_come_34 N m) (nI n) _ (nI (α 0 0)) σ = _
      unfold b_X9_come_34
      rw [h.1.nets, if_pos (zle_self (by omega))]
    · show b_X9_come_34 N (f_X9_come_34 N m) (nI n) _ (nI i) σ = f_X9_come_34 N m (nI n) (nI (zls (zoffr α κ w n) (4 + i + 1)).length) (nI (i + 1)) σ
      unfold b_X9_come_34
      rw [h.1.nets, if_neg (nI_ge hi (by omega))]
      have off : zoffr α κ w n (4 + i) = zpas α κ w n i := by
        unfold zoffr; rw [if_neg (by omega), Nat.add_sub_cancel_left]
      by_cases hin : i = n
      · have hz : zoffr α κ w n (4 + i) = false := by
          rw [off]
          unfold zpas
          have := hW.2.1.2.2.1 n hn10
          cases w i <;> simp [hin, this]
        rw [if_pos (by rw [hin]), hlf _ hz]
        unfold f_X9_come_61 f_X9_come_62
        rw [Option.bind_some, Option.bind_some, nI_1, e0]
      · rw [if_neg (fun q => hin (nI_inj (by omega) (by omega) q)), zw_passes hN hW hK hV h hi hn10]
        unfold zbd
        rw [Option.bind_some]
        try simp only
        by_cases hp : zpas α κ w n i = true
        · rw [zbI_t hp, if_neg (show ¬ (1 : Int32) = 0 by decide), hlt _ (off.trans hp)]
          unfold f_X9_come_62
          rw [Option.bind_some, Option.bind_some, nI_1, nI_1, List.length_append]; rfl
        · have hz : zoffr α κ w n (4 + i) = false := by rw [off]; simpa using hp
          rw [zbI_f hp, if_pos rfl, hlf _ hz]
          unfold f_X9_come_61 f_X9_come_62
          rw [Option.bind_some, Option.bind_some, nI_1, e0]
  have first : f_X9_come_4 N N (nI n) 0 0 σ = some (nI (zls (zoffr α κ w n) (4 + α 0 0)).length, σ) := by
    refine zloopT (fun m (q : Int32 × Int32) => f_X9_come_4 N m (nI n) q.1 q.2 σ) (fun i => (nI (zls (zoffr α κ w n) i).length, nI i)) 4 _ (fun m => ?_) (fun m i hi => ?_) N 0 (by omega) (by omega)
    · show b_X9_come_4 N (f_X9_come_4 N m) (nI n) _ (nI 4) σ = _
      unfold b_X9_come_4
      rw [if_pos (show (4 : Int32) ≤ nI 4 by decide)]
      exact second
    · show b_X9_come_4 N (f_X9_come_4 N m) (nI n) _ (nI i) σ = f_X9_come_4 N m (nI n) (nI (zls (zoffr α κ w n) (i + 1)).length) (nI (i + 1)) σ
      unfold b_X9_come_4
      rw [if_neg (by rw [show (4 : Int32) = nI 4 from rfl]; exact nI_ge hi (by omega)), zw_speaks hW h.1 h.2.1 hi hn10]
      unfold zbd
      rw [Option.bind_some]
      try simp only
      have off : zoffr α κ w n i = zspk α κ n i := by unfold zoffr; rw [if_pos hi]
      by_cases hp : zspk α κ n i = true
      · rw [zbI_t hp, if_neg (show ¬ (1 : Int32) = 0 by decide), hlt _ (off.trans hp)]
        unfold f_X9_come_24
        rw [Option.bind_some, Option.bind_some, nI_1, nI_1, List.length_append]; rfl
      · have hz : zoffr α κ w n i = false := by rw [off]; simpa using hp
        rw [zbI_f hp, if_pos rfl, hlf _ hz]
        unfold f_X9_come_24
        rw [Option.bind_some, Option.bind_some, nI_1, e0]
  refine ⟨_, first, ?_⟩
  have := zls_skip (p := zoffr α κ w n) (a := 4 + α 0 0) (10 - α 0 0) (fun x h1 h2 => by
    unfold zoffr
    rw [if_neg (by omega)]
    unfold zpas
    cases hwx : w (x - 4) with
    | none => rfl
    | some y => exact absurd (hV _ _ hwx).1 (by omega))
  rw [← this, show 4 + α 0 0 + (10 - α 0 0) = 14 by omega]
theorem qu_told {N : Nat} (hN : 50 < N) (x : Int32) : zQry (f_X8_told N x) (f_X9_told N x) := by
  refine zQ_net hN (cC := fun s4 => zbd (f_X2_hear N 12 x s4) fun r5 s6 => some ((s6.1 17 5), s6)) (cM := fun s4 => zbd (f_X9_come N x s4) fun r5 s6 => some (r5, s6)) ?_
  intro α σc σm n k hW hn hx hr hC hM
  subst hx
  have hK := zkn_KW hW (ρ := zr0 α) (fun n => zlr_le _)
  have hV := VW.it (κ := zkn α (zr0 α)) hW hK k
  obtain ⟨s1, a1, a2, a3⟩ := zw_hear (N := N) (by omega) (Or.inl rfl) hW hK hV hC hn
  obtain ⟨L, b1, b2⟩ := zw_come (N := N) (by omega) hW hK hV hM hn
  refine ⟨nI L.length, s1, σm, ?_, ?_, zag_w (by simp) (fr_X2_hear a1), hM.1⟩
  · try simp only
    rw [a1]
    unfold zbd
    rw [Option.bind_some]
    try simp only
    rw [a3.1, b2]
  · try simp only
    rw [b1]; rfl
/-! load -/
def zld (α : AS) (w : WD) (s n : Nat) : Nat := zsum (fun n => if zsn (w n) = s then α 2 n else 0) n
theorem sI_inj {a b : Nat} (ha : a ≤ 5) (hb : b ≤ 5) (h : sI a = sI b) : a = b := by
  have : ∀ a, a < 6 → ∀ b, b < 6 → sI a = sI b → a = b := by decide +kernel
  exact this a (by omega) b (by omega) h
theorem sI_nI {a : Nat} (h : a ≠ 5) : sI a = nI a := if_neg h
theorem zsn_le {α κ : AS} {w : WD} (hV : VW α κ w) (n : Nat) : zsn (w n) ≤ 5 ∧ zsn (w n) ≠ 4 := by
  cases hw : w n with
  | none => exact ⟨by show 5 ≤ 5; omega, by show 5 ≠ 4; omega⟩
  | some x => have := (hV n x hw).2.1.1; exact ⟨by show x.1 ≤ 5; omega, by show x.1 ≠ 4; omega⟩
theorem zw_loadOf {N : Nat} (hN : 14 < N) {α κ : AS} {w : WD} {σ : ZM} (hW : WF α) (hV : VW α κ w) (hM : RM α σ) (hO : ∀ n, n < α 0 0 → MW1 17 (w n) n σ) {s : Nat} (hs : s < 4) : f_X9_loadOf N (nI s) σ = some (nI (zld α w s (α 0 0)), σ) := by
  have hn0 := hW.1.1
  have e0 : ∀ a : Nat, nI a + 0 = nI a := fun a => by rw [show (0 : Int32) = nI 0 from rfl, nI_add]; rfl
  refine zloopT (fun m (q : Int32 × Int32) => f_X9_loadOf_4 N m (nI s) q.1 q.2 σ) (fun i => (nI (zld α w s i), nI i)) (α 0 0) _ (fun m => ?_) (fun m i hi => ?_) N 0 (by omega) (by omega)
  · show b_X9_loadOf_4 N (f_X9_loadOf_4 N m) (nI s) _ (nI (α 0 0)) σ = _
    unfold b_X9_loadOf_4
    rw [hM.nets, if_pos (zle_self (by omega))]
  · show b_X9_loadOf_4 N (f_X9_loadOf_4 N m) (nI s) _ (nI i) σ = f_X9_loadOf_4 N m (nI s) (nI (zld α w s i + (if zsn (w i) = s then α 2 i else 0))) (nI (i + 1)) σ
    unfold b_X9_loadOf_4
    have hz := zsn_le hV i
    rw [hM.nets, if_neg (nI_ge hi (by omega)), zald_nI (show i < 10 by omega) (by decide), Option.bind_some, (hO i hi).site (fun x hx => (hV i x hx).2.1.1)]
    by_cases e : zsn (w i) = s
    · rw [if_pos (by rw [e, sI_nI (by omega)]), if_pos e, hM.asks (show i < 10 by omega), Option.bind_some]
      unfold f_X9_loadOf_33
      rw [Option.bind_some, Option.bind_some, nI_1, nI_add]
    · rw [if_neg (fun q => e (sI_inj hz.1 (by omega) (q.trans (sI_nI (by omega)).symm))), if_neg e]
      unfold f_X9_loadOf_33
      rw [Option.bind_some, Option.bind_some, nI_1, e0]
      rfl
theorem qu_load {N : Nat} (hN : 50 < N) (x : Int32) : zQry (f_X8_load N x) (f_X9_load N x) := by
  refine zQ_site hN (cC := fun s9 => f_X8_load_24 N N x (0 : Int32) (0 : Int32) s9) (cM := fun s4 => zbd (f_X9_loadOf N x s4) fun r5 s6 => some (r5, s6)) ?_
  intro α σc σm s k hW hs hx hr hC hM
  subst hx
  have hn0 := hW.1.1
  have hs4 : s < 4 := by have := hW.1.2.2.1; omega
  have hK := zkn_KW hW (ρ := zr0 α) (fun n => zlr_le _)
  have hV := VW.it (κ := zkn α (zr0 α)) hW hK k
  generalize hw : zit α (zkn α (zr0 α)) k = w at *
  refine ⟨nI (zld α w s (α 0 0)), σc, σm, ?_, ?_, zag_r, hM.1⟩
  · refine zloopT (fun m (q : Int32 × Int32) => f_X8_load_24 N m (nI s) q.1 q.2 σc) (fun i => (nI (zld α w s i), nI i)) (α 0 0) _ (fun m => ?_) (fun m i hi => ?_) N 0 (by omega) (by omega)
    · show b_X8_load_24 N (f_X8_load_24 N m) (nI s) _ (nI (α 0 0)) σc = _
      unfold b_X8_load_24
      rw [hC.1.nets, if_pos (zle_self (by omega))]
    · show b_X8_load_24 N (f_X8_load_24 N m) (nI s) _ (nI i) σc = f_X8_load_24 N m (nI s) (nI (zld α w s i + (if zsn (w i) = s then α 2 i else 0))) (nI (i + 1)) σc
      unfold b_X8_load_24
      have hz := zsn_le hV i
      rw [hC.1.nets, if_neg (nI_ge hi (by omega)), zw_comesTo hV hC.2.2.2 (show i < 10 by omega)]
      unfold zbd
      rw [Option.bind_some]
      try simp only
      by_cases e : zsn (w i) = s
      · rw [if_pos (by rw [e, sI_nI (by omega)]), if_pos e, hC.1.asks (show i < 10 by omega), Option.bind_some, Option.bind_some]
        unfold f_X8_load_62
        rw [Option.bind_some, nI_1, nI_add]
      · rw [if_neg (fun q => e (sI_inj hz.1 (by omega) (q.trans (sI_nI (by omega)).symm))), if_neg e]
        unfold f_X8_load_62
        rw [Option.bind_some, nI_1]
        rfl
  · try simp only
    rw [zw_loadOf (by omega) hW hV hM.1 hM.2.2.2 hs4]; rfl
