-- ===== X2_comesTo: NearCopies$Flow.comesTo(I)I
def f_X2_comesTo (N : Nat) (x1 : Int32) (σ : ZM) : Option (Int32 × ZM) :=
  (zalJ σ 19 10 x1).bind fun v1 =>
  if (lg_cmp v1 (0 : Int64)) = 0 then
  (some ((-9 : Int32), σ))
  else
  ((zalJ σ 19 10 x1).bind fun v2 =>
  zbd (f_X2_siteOf N v2 σ) fun r3 s4 =>
  some (r3, s4))
set_option maxRecDepth 100000 in
theorem ok_X2_comesTo {G : ZG} (hG : zSH G = shC) (N : Nat) {d : Nat} (hd : 1 ≤ d) {x1 : Int32} {σ : ZM} {res : Int32 × ZM} (h : f_X2_comesTo N x1 σ = some res) : zCt G d MX2_comesTo [.ref (zad G 17), .int x1] σ (some (.int res.1)) res.2 := by
  obtain ⟨d, rfl⟩ : ∃ k, d = k + 1 := ⟨d - 1, by omega⟩
  have hd : 0 ≤ d := by omega
  refine zct_of (by decide) (Nat.le_of_ble_eq_true rfl) (lv := [(0, .ref (zad G 17)), (1, .int x1)]) rfl ?_
  unfold f_X2_comesTo at h
  refine zf_aload_n 0 (q := 1) (j := 0) rfl dX2_comesTo_0 rfl rfl ?_
  refine zf_getR (q := 4) rfl dX2_comesTo_1 lf_RX2_15 (sc17 hG) rfl ?_
  refine zf_iload_n 1 (q := 5) (j := 1) rfl dX2_comesTo_4 rfl rfl ?_
  obtain ⟨v1, ev1, h⟩ := zb h
  refine zf_lald (q := 6) rfl dX2_comesTo_5 (sc19 hG) ev1 ?_
  refine zf_lconst (q := 7) (v := 0) rfl dX2_comesTo_6 (by decide) ?_
  refine zf_lcmp (q := 8) rfl dX2_comesTo_7 ?_
  refine zf_if_ne (q := 11) (tgt := 16) rfl (by decide) dX2_comesTo_8 (fun hc8 => ?_) (fun hc8 => ?_)
  · replace h := (zi h).2 hc8
    refine zf_aload_n 0 (q := 17) (j := 0) rfl dX2_comesTo_16 rfl rfl ?_
    refine zf_getR (q := 20) rfl dX2_comesTo_17 lf_RX2_15 (sc17 hG) rfl ?_
    refine zf_iload_n 1 (q := 21) (j := 1) rfl dX2_comesTo_20 rfl rfl ?_
    obtain ⟨v2, ev2, h⟩ := zb h
    refine zf_lald (q := 22) rfl dX2_comesTo_21 (sc19 hG) ev2 ?_
    obtain ⟨r3, s4, es4, h⟩ := zc h
    refine zf_callS (q := 25) (As := [.long v2]) (rest := []) (st1 := [.int r3]) rfl dX2_comesTo_22 ls_RX2_112 rfl rfl (Nat.le_of_ble_eq_true rfl) (ok_X2_siteOf hG N (Nat.le_trans (by decide) hd) es4) rfl ?_
    cases h
    exact zf_ireturn dX2_comesTo_25 rfl
  · replace h := (zi h).1 hc8
    refine zf_bipush (q := 13) rfl dX2_comesTo_11 bpm9 ?_
    refine zf_goto (tgt := 25) (by decide) dX2_comesTo_13 ?_
    cases h
    exact zf_ireturn dX2_comesTo_25 rfl
-- ===== X6_isAsSeen: NearCopies$Trial.isAsSeen(LNearCopies$Flow;)Z
def f_X6_isAsSeen_34 (N : Nat) (t0 : Nat) (rec2 : Int32 → ZM → Option (Int32 × ZM)) (x2 : Int32) (σ : ZM) : Option (Int32 × ZM) :=
  (some (x2 + (1 : Int32))).bind fun v1 =>
  rec2 v1 σ
set_option maxRecDepth 100000 in
theorem ok_X6_isAsSeen_34 {G : ZG} (hG : zSH G = shC) (N : Nat) {d : Nat} (hd : 1 ≤ d) {t0 : Nat} (ht0 : zTr G t0) {rec2 : Int32 → ZM → Option (Int32 × ZM)} {res : Int32 × ZM} (hr2 : ∀ (x2 : Int32) (σ : ZM), rec2 x2 σ = some res → zF G MX6_isAsSeen (d + 1) 2 [(0, .ref (zad G t0)), (1, .ref (zad G 17)), (2, .int x2)] [] σ (some (.int res.1)) res.2) {x2 : Int32} {σ : ZM} (h : f_X6_isAsSeen_34 N t0 rec2 x2 σ = some res) : zF G MX6_isAsSeen (d + 1) 34 [(0, .ref (zad G t0)), (1, .ref (zad G 17)), (2, .int x2)] [] σ (some (.int res.1)) res.2 := by
  unfold f_X6_isAsSeen_34 at h
  obtain ⟨v1, ev1, h⟩ := zb h
  refine zf_iinc 2 (q := 37) (v := v1) (lv1 := [(2, .int v1), (0, .ref (zad G t0)), (1, .ref (zad G 17))]) rfl dX6_isAsSeen_34 rfl (by rw [ic1]; exact ev1) (by decide) rfl ?_
  refine zf_goto (tgt := 2) (by decide) dX6_isAsSeen_37 ?_
  exact zf_sub [1, 2, 0] rfl (hr2 _ _ h)
def b_X6_isAsSeen_2 (N : Nat) (t0 : Nat) (rec2 : Int32 → ZM → Option (Int32 × ZM)) (x2 : Int32) (σ : ZM) : Option (Int32 × ZM) :=
  if (10 : Int32) ≤ x2 then
  (some ((1 : Int32), σ))
  else
  ((zald σ (t0 + 6) 10 x2).bind fun v2 =>
  if v2 = (4 : Int32) then
  (f_X6_isAsSeen_34 N t0 rec2 x2 σ)
  else
  ((zald σ (t0 + 6) 10 x2).bind fun v3 =>
  zbd (f_X2_comesTo N x2 σ) fun r4 s5 =>
  if v3 = r4 then
  (f_X6_isAsSeen_34 N t0 rec2 x2 s5)
  else
  (some ((0 : Int32), s5))))
set_option maxRecDepth 100000 in
theorem ok_b_X6_isAsSeen_2 {G : ZG} (hG : zSH G = shC) (N : Nat) {d : Nat} (hd : 1 ≤ d) {t0 : Nat} (ht0 : zTr G t0) {rec2 : Int32 → ZM → Option (Int32 × ZM)} {res : Int32 × ZM} (hr2 : ∀ (x2 : Int32) (σ : ZM), rec2 x2 σ = some res → zF G MX6_isAsSeen (d + 1) 2 [(0, .ref (zad G t0)), (1, .ref (zad G 17)), (2, .int x2)] [] σ (some (.int res.1)) res.2) {x2 : Int32} {σ : ZM} (h : b_X6_isAsSeen_2 N t0 rec2 x2 σ = some res) : zF G MX6_isAsSeen (d + 1) 2 [(0, .ref (zad G t0)), (1, .ref (zad G 17)), (2, .int x2)] [] σ (some (.int res.1)) res.2 := by
  unfold b_X6_isAsSeen_2 at h
  refine zf_iload_n 2 (q := 3) (j := 2) rfl dX6_isAsSeen_2 rfl rfl ?_
  refine zf_bipush (q := 5) rfl dX6_isAsSeen_3 bp10 ?_
  refine zf_icmp_ge (q := 8) (tgt := 40) rfl (by decide) dX6_isAsSeen_5 (fun hc5 => ?_) (fun hc5 => ?_)
  · replace h := (zi h).1 hc5
    refine zf_iconst (q := 41) rfl dX6_isAsSeen_40 ic1 ?_
    cases h
    exact zf_zreturn dX6_isAsSeen_41 rfl (Or.inr rfl)
  · replace h := (zi h).2 hc5
    refine zf_aload_n 0 (q := 9) (j := 0) rfl dX6_isAsSeen_8 rfl rfl ?_
    refine zf_getR (q := 12) rfl dX6_isAsSeen_9 lf_RX6_18 ht0.1 rfl ?_
    refine zf_iload_n 2 (q := 13) (j := 2) rfl dX6_isAsSeen_12 rfl rfl ?_
    obtain ⟨v2, ev2, h⟩ := zb h
    refine zf_iald (q := 14) rfl dX6_isAsSeen_13 ht0.2.2 ev2 ?_
    refine zf_iconst (q := 15) rfl dX6_isAsSeen_14 ic4 ?_
    refine zf_icmp_eq (q := 18) (tgt := 34) rfl (by decide) dX6_isAsSeen_15 (fun hc15 => ?_) (fun hc15 => ?_)
    · replace h := (zi h).1 hc15
      exact zf_sub [0, 1, 2] rfl (ok_X6_isAsSeen_34 hG N hd ht0 hr2 h)
    · replace h := (zi h).2 hc15
      refine zf_aload_n 0 (q := 19) (j := 0) rfl dX6_isAsSeen_18 rfl rfl ?_
      refine zf_getR (q := 22) rfl dX6_isAsSeen_19 lf_RX6_18 ht0.1 rfl ?_
      refine zf_iload_n 2 (q := 23) (j := 2) rfl dX6_isAsSeen_22 rfl rfl ?_
      obtain ⟨v3, ev3, h⟩ := zb h
      refine zf_iald (q := 24) rfl dX6_isAsSeen_23 ht0.2.2 ev3 ?_
      refine zf_aload_n 1 (q := 25) (j := 1) rfl dX6_isAsSeen_24 rfl rfl ?_
      refine zf_iload_n 2 (q := 26) (j := 2) rfl dX6_isAsSeen_25 rfl rfl ?_
      obtain ⟨r4, s5, es5, h⟩ := zc h
      refine zf_callV (q := 29) (As := [.int x2]) (rest := [.int v3]) (st1 := [.int r4, .int v3]) rfl dX6_isAsSeen_26 lv_RX6_28 (sc17 hG) rfl rfl (Nat.le_of_ble_eq_true rfl) (ok_X2_comesTo hG N (Nat.le_trans (by decide) hd) es5) rfl ?_
      refine zf_icmp_eq (q := 32) (tgt := 34) rfl (by decide) dX6_isAsSeen_29 (fun hc29 => ?_) (fun hc29 => ?_)
      · replace h := (zi h).1 hc29
        exact zf_sub [0, 1, 2] rfl (ok_X6_isAsSeen_34 hG N hd ht0 hr2 h)
      · replace h := (zi h).2 hc29
        refine zf_iconst (q := 33) rfl dX6_isAsSeen_32 ic0 ?_
        cases h
        exact zf_zreturn dX6_isAsSeen_33 rfl (Or.inl rfl)
def f_X6_isAsSeen_2 (N : Nat) (t0 : Nat) : Nat → Int32 → ZM → Option (Int32 × ZM)
  | 0, _, _ => none
  | n + 1, x2, σ => b_X6_isAsSeen_2 N t0 (f_X6_isAsSeen_2 N t0 n) x2 σ
theorem ok_X6_isAsSeen_2 {G : ZG} (hG : zSH G = shC) (N : Nat) {d : Nat} (hd : 1 ≤ d) {t0 : Nat} (ht0 : zTr G t0) {res : Int32 × ZM} : ∀ (n : Nat) (x2 : Int32) (σ : ZM), f_X6_isAsSeen_2 N t0 n x2 σ = some res → zF G MX6_isAsSeen (d + 1) 2 [(0, .ref (zad G t0)), (1, .ref (zad G 17)), (2, .int x2)] [] σ (some (.int res.1)) res.2 := by
  intro n
  induction n with
  | zero => intro x2 σ h; exact absurd h (by simp [f_X6_isAsSeen_2])
  | succ n ih => intro x2 σ h; rw [f_X6_isAsSeen_2] at h; exact ok_b_X6_isAsSeen_2 hG N hd ht0 ih h
def f_X6_isAsSeen (N : Nat) (t0 : Nat) (σ : ZM) : Option (Int32 × ZM) :=
  f_X6_isAsSeen_2 N t0 N (0 : Int32) σ
set_option maxRecDepth 100000 in
theorem ok_X6_isAsSeen {G : ZG} (hG : zSH G = shC) (N : Nat) {d : Nat} (hd : 2 ≤ d) {t0 : Nat} (ht0 : zTr G t0) {σ : ZM} {res : Int32 × ZM} (h : f_X6_isAsSeen N t0 σ = some res) : zCt G d MX6_isAsSeen [.ref (zad G t0), .ref (zad G 17)] σ (some (.int res.1)) res.2 := by
  obtain ⟨d, rfl⟩ : ∃ k, d = k + 1 := ⟨d - 1, by omega⟩
  have hd : 1 ≤ d := by omega
  refine zct_of (by decide) (Nat.le_of_ble_eq_true rfl) (lv := [(0, .ref (zad G t0)), (1, .ref (zad G 17))]) rfl ?_
  unfold f_X6_isAsSeen at h
  refine zf_iconst (q := 1) rfl dX6_isAsSeen_0 ic0 ?_
  refine zf_istore_n (q := 2) (y := (0 : Int32)) (i := 2) (lv1 := [(2, .int (0 : Int32)), (0, .ref (zad G t0)), (1, .ref (zad G 17))]) rfl dX6_isAsSeen_1 rfl (by decide) rfl rfl ?_
  exact zf_sub [1, 2, 0] rfl (ok_X6_isAsSeen_2 hG N hd ht0 _ _ _ h)
-- ===== X0_firstQuarrel: NearCopies$Cases.firstQuarrel()I
def f_X0_firstQuarrel_53 (N : Nat) (rec2 : Int32 → ZM → Option (Int32 × ZM)) (x1 : Int32) (σ : ZM) : Option (Int32 × ZM) :=
  (some (x1 + (1 : Int32))).bind fun v1 =>
  rec2 v1 σ
set_option maxRecDepth 100000 in
theorem ok_X0_firstQuarrel_53 {G : ZG} (hG : zSH G = shC) (N : Nat) {d : Nat} (hd : 3 ≤ d) {rec2 : Int32 → ZM → Option (Int32 × ZM)} {res : Int32 × ZM} (hr2 : ∀ (x1 : Int32) (σ : ZM), rec2 x1 σ = some res → zF G MX0_firstQuarrel (d + 1) 2 [(0, .ref (zad G 38)), (1, .int x1)] [] σ (some (.int res.1)) res.2) {x1 : Int32} {σ : ZM} (h : f_X0_firstQuarrel_53 N rec2 x1 σ = some res) : zF G MX0_firstQuarrel (d + 1) 53 [(0, .ref (zad G 38)), (1, .int x1)] [] σ (some (.int res.1)) res.2 := by
  unfold f_X0_firstQuarrel_53 at h
  obtain ⟨v1, ev1, h⟩ := zb h
  refine zf_iinc 1 (q := 56) (v := v1) (lv1 := [(1, .int v1), (0, .ref (zad G 38))]) rfl dX0_firstQuarrel_53 rfl (by rw [ic1]; exact ev1) (by decide) rfl ?_
  refine zf_goto (tgt := 2) (by decide) dX0_firstQuarrel_56 ?_
  exact zf_sub [1, 0] rfl (hr2 _ _ h)
def f_X0_firstQuarrel_51 (N : Nat) (x1 : Int32) (σ : ZM) : Option (Int32 × ZM) :=
  some (x1, σ)
set_option maxRecDepth 100000 in
theorem ok_X0_firstQuarrel_51 {G : ZG} (hG : zSH G = shC) (N : Nat) {d : Nat} (hd : 3 ≤ d) {res : Int32 × ZM} {x1 : Int32} {σ : ZM} (h : f_X0_firstQuarrel_51 N x1 σ = some res) : zF G MX0_firstQuarrel (d + 1) 51 [(1, .int x1)] [] σ (some (.int res.1)) res.2 := by
  unfold f_X0_firstQuarrel_51 at h
  refine zf_iload_n 0 (q := 52) (j := 1) rfl dX0_firstQuarrel_51 rfl rfl ?_
  cases h
  exact zf_ireturn dX0_firstQuarrel_52 rfl
def b_X0_firstQuarrel_2 (N : Nat) (rec2 : Int32 → ZM → Option (Int32 × ZM)) (x1 : Int32) (σ : ZM) : Option (Int32 × ZM) :=
  if (σ.1 38 5) ≤ x1 then
  (some ((-9 : Int32), σ))
  else
  ((zalR ztrl x1).bind fun t2 =>
  zbd (f_X6_isSeen N t2 σ) fun r3 s4 =>
  if r3 = 0 then
  (f_X0_firstQuarrel_53 N rec2 x1 s4)
  else
  (zbd (f_X2_settle N (t2 + 1) s4) fun r5 s6 =>
  if r5 = (-9 : Int32) then
  (f_X0_firstQuarrel_51 N x1 s6)
  else
  (zbd (f_X6_isAsSeen N t2 s6) fun r7 s8 =>
  if r7 = 0 then
  (f_X0_firstQuarrel_51 N x1 s8)
  else
  (f_X0_firstQuarrel_53 N rec2 x1 s8))))
set_option maxRecDepth 100000 in
theorem ok_b_X0_firstQuarrel_2 {G : ZG} (hG : zSH G = shC) (N : Nat) {d : Nat} (hd : 3 ≤ d) {rec2 : Int32 → ZM → Option (Int32 × ZM)} {res : Int32 × ZM} (hr2 : ∀ (x1 : Int32) (σ : ZM), rec2 x1 σ = some res → zF G MX0_firstQuarrel (d + 1) 2 [(0, .ref (zad G 38)), (1, .int x1)] [] σ (some (.int res.1)) res.2) {x1 : Int32} {σ : ZM} (h : b_X0_firstQuarrel_2 N rec2 x1 σ = some res) : zF G MX0_firstQuarrel (d + 1) 2 [(0, .ref (zad G 38)), (1, .int x1)] [] σ (some (.int res.1)) res.2 := by
  unfold b_X0_firstQuarrel_2 at h
  refine zf_iload_n 1 (q := 3) (j := 1) rfl dX0_firstQuarrel_2 rfl rfl ?_
  refine zf_aload_n 0 (q := 4) (j := 0) rfl dX0_firstQuarrel_3 rfl rfl ?_
  refine zf_getI (q := 7) rfl dX0_firstQuarrel_4 lf_RX0_53 (sc38 hG) rfl ?_
  refine zf_icmp_ge (q := 10) (tgt := 59) rfl (by decide) dX0_firstQuarrel_7 (fun hc7 => ?_) (fun hc7 => ?_)
  · replace h := (zi h).1 hc7
    refine zf_bipush (q := 61) rfl dX0_firstQuarrel_59 bpm9 ?_
    cases h
    exact zf_ireturn dX0_firstQuarrel_61 rfl
  · replace h := (zi h).2 hc7
    refine zf_aload_n 0 (q := 11) (j := 0) rfl dX0_firstQuarrel_10 rfl rfl ?_
    refine zf_getR (q := 14) rfl dX0_firstQuarrel_11 lf_RX0_20 (sc38 hG) rfl ?_
    refine zf_iload_n 1 (q := 15) (j := 1) rfl dX0_firstQuarrel_14 rfl rfl ?_
    obtain ⟨t2, et2, h⟩ := zb h
    have ht2 := tr_of hG et2
    refine zf_aald (q := 16) rfl dX0_firstQuarrel_15 (sc44 hG) et2 ?_
    refine zf_astore_n (q := 17) (i := 2) (lv1 := [(2, .ref (zad G t2)), (0, .ref (zad G 38)), (1, .int x1)]) rfl dX0_firstQuarrel_16 rfl (by decide) rfl rfl ?_
    refine zf_aload_n 0 (q := 18) (j := 2) rfl dX0_firstQuarrel_17 rfl rfl ?_
    obtain ⟨r3, s4, es4, h⟩ := zc h
    refine zf_callV (q := 21) (As := []) (rest := []) (st1 := [.int r3]) rfl dX0_firstQuarrel_18 lv_RX0_115 ht2.1 rfl rfl (Nat.le_of_ble_eq_true rfl) (ok_X6_isSeen hG N (Nat.le_trans (by decide) hd) ht2 es4) rfl ?_
    refine zf_if_eq (q := 24) (tgt := 53) rfl (by decide) dX0_firstQuarrel_21 (fun hc21 => ?_) (fun hc21 => ?_)
    · replace h := (zi h).1 hc21
      exact zf_sub [1, 2] rfl (ok_X0_firstQuarrel_53 hG N hd hr2 h)
    · replace h := (zi h).2 hc21
      refine zf_aload_n 1 (q := 25) (j := 0) rfl dX0_firstQuarrel_24 rfl rfl ?_
      refine zf_getR (q := 28) rfl dX0_firstQuarrel_25 lf_RX0_45 (sc38 hG) rfl ?_
      refine zf_aload_n 0 (q := 29) (j := 2) rfl dX0_firstQuarrel_28 rfl rfl ?_
      refine zf_getR (q := 32) rfl dX0_firstQuarrel_29 lf_RX0_57 ht2.1 rfl ?_
      obtain ⟨r5, s6, es6, h⟩ := zc h
      refine zf_callV (q := 35) (As := [.ref (zad G (t2 + 1))]) (rest := []) (st1 := [.int r5]) rfl dX0_firstQuarrel_32 lv_RX0_118 (sc17 hG) rfl rfl (Nat.le_of_ble_eq_true rfl) (ok_X2_settle hG N (Nat.le_trans (by decide) hd) ht2.2.1 es6) rfl ?_
      refine zf_bipush (q := 37) rfl dX0_firstQuarrel_35 bpm9 ?_
      refine zf_icmp_eq (q := 40) (tgt := 51) rfl (by decide) dX0_firstQuarrel_37 (fun hc37 => ?_) (fun hc37 => ?_)
      · replace h := (zi h).1 hc37
        exact zf_sub [2] rfl (ok_X0_firstQuarrel_51 hG N hd h)
      · replace h := (zi h).2 hc37
        refine zf_aload_n 0 (q := 41) (j := 2) rfl dX0_firstQuarrel_40 rfl rfl ?_
        refine zf_aload_n 1 (q := 42) (j := 0) rfl dX0_firstQuarrel_41 rfl rfl ?_
        refine zf_getR (q := 45) rfl dX0_firstQuarrel_42 lf_RX0_45 (sc38 hG) rfl ?_
        obtain ⟨r7, s8, es8, h⟩ := zc h
        refine zf_callV (q := 48) (As := [.ref (zad G 17)]) (rest := []) (st1 := [.int r7]) rfl dX0_firstQuarrel_45 lv_RX0_122 ht2.1 rfl rfl (Nat.le_of_ble_eq_true rfl) (ok_X6_isAsSeen hG N (Nat.le_trans (by decide) hd) ht2 es8) rfl ?_
        refine zf_if_ne (q := 51) (tgt := 53) rfl (by decide) dX0_firstQuarrel_48 (fun hc48 => ?_) (fun hc48 => ?_)
        · replace h := (zi h).2 hc48
          exact zf_sub [1, 2] rfl (ok_X0_firstQuarrel_53 hG N hd hr2 h)
        · replace h := (zi h).1 hc48
          exact zf_sub [2] rfl (ok_X0_firstQuarrel_51 hG N hd h)
def f_X0_firstQuarrel_2 (N : Nat) : Nat → Int32 → ZM → Option (Int32 × ZM)
  | 0, _, _ => none
  | n + 1, x1, σ => b_X0_firstQuarrel_2 N (f_X0_firstQuarrel_2 N n) x1 σ
theorem ok_X0_firstQuarrel_2 {G : ZG} (hG : zSH G = shC) (N : Nat) {d : Nat} (hd : 3 ≤ d) {res : Int32 × ZM} : ∀ (n : Nat) (x1 : Int32) (σ : ZM), f_X0_firstQuarrel_2 N n x1 σ = some res → zF G MX0_firstQuarrel (d + 1) 2 [(0, .ref (zad G 38)), (1, .int x1)] [] σ (some (.int res.1)) res.2 := by
  intro n
  induction n with
  | zero => intro x1 σ h; exact absurd h (by simp [f_X0_firstQuarrel_2])
  | succ n ih => intro x1 σ h; rw [f_X0_firstQuarrel_2] at h; exact ok_b_X0_firstQuarrel_2 hG N hd ih h
def f_X0_firstQuarrel (N : Nat) (σ : ZM) : Option (Int32 × ZM) :=
  f_X0_firstQuarrel_2 N N (0 : Int32) σ
set_option maxRecDepth 100000 in
theorem ok_X0_firstQuarrel {G : ZG} (hG : zSH G = shC) (N : Nat) {d : Nat} (hd : 4 ≤ d) {σ : ZM} {res : Int32 × ZM} (h : f_X0_firstQuarrel N σ = some res) : zCt G d MX0_firstQuarrel [.ref (zad G 38)] σ (some (.int res.1)) res.2 := by
  obtain ⟨d, rfl⟩ : ∃ k, d = k + 1 := ⟨d - 1, by omega⟩
  have hd : 3 ≤ d := by omega
  refine zct_of (by decide) (Nat.le_of_ble_eq_true rfl) (lv := [(0, .ref (zad G 38))]) rfl ?_
  unfold f_X0_firstQuarrel at h
  refine zf_iconst (q := 1) rfl dX0_firstQuarrel_0 ic0 ?_
  refine zf_istore_n (q := 2) (y := (0 : Int32)) (i := 1) (lv1 := [(1, .int (0 : Int32)), (0, .ref (zad G 38))]) rfl dX0_firstQuarrel_1 rfl (by decide) rfl rfl ?_
  exact zf_sub [1, 0] rfl (ok_X0_firstQuarrel_2 hG N hd _ _ _ h)
-- ===== X0_packedRules: NearCopies$Cases.packedRules()I
def b_X0_packedRules_4 (N : Nat) (rec4 : Int32 → Int32 → ZM → Option (Int32 × ZM)) (x1 : Int32) (x2 : Int32) (σ : ZM) : Option (Int32 × ZM) :=
  if (σ.1 1 0) ≤ x2 then
  (some (x1, σ))
  else
  ((zald σ 18 10 x2).bind fun v1 =>
  (some (x1 ||| (v1 <<< (((2 : Int32) * x2) &&& 31)))).bind fun v2 =>
  (some (x2 + (1 : Int32))).bind fun v3 =>
  rec4 v2 v3 σ)
set_option maxRecDepth 100000 in
theorem ok_b_X0_packedRules_4 {G : ZG} (hG : zSH G = shC) (N : Nat) {d : Nat} {rec4 : Int32 → Int32 → ZM → Option (Int32 × ZM)} {res : Int32 × ZM} (hr4 : ∀ (x1 : Int32) (x2 : Int32) (σ : ZM), rec4 x1 x2 σ = some res → zF G MX0_packedRules d 4 [(0, .ref (zad G 38)), (1, .int x1), (2, .int x2)] [] σ (some (.int res.1)) res.2) {x1 : Int32} {x2 : Int32} {σ : ZM} (h : b_X0_packedRules_4 N rec4 x1 x2 σ = some res) : zF G MX0_packedRules d 4 [(0, .ref (zad G 38)), (1, .int x1), (2, .int x2)] [] σ (some (.int res.1)) res.2 := by
  unfold b_X0_packedRules_4 at h
  refine zf_iload_n 2 (q := 5) (j := 2) rfl dX0_packedRules_4 rfl rfl ?_
  refine zf_aload_n 0 (q := 6) (j := 0) rfl dX0_packedRules_5 rfl rfl ?_
  refine zf_getR (q := 9) rfl dX0_packedRules_6 lf_RX0_38 (sc38 hG) rfl ?_
  refine zf_getI (q := 12) rfl dX0_packedRules_9 lf_RX0_97 (sc1 hG) rfl ?_
  refine zf_icmp_ge (q := 15) (tgt := 37) rfl (by decide) dX0_packedRules_12 (fun hc12 => ?_) (fun hc12 => ?_)
  · replace h := (zi h).1 hc12
    refine zf_iload_n 1 (q := 38) (j := 1) rfl dX0_packedRules_37 rfl rfl ?_
    cases h
    exact zf_ireturn dX0_packedRules_38 rfl
  · replace h := (zi h).2 hc12
    refine zf_iload_n 1 (q := 16) (j := 1) rfl dX0_packedRules_15 rfl rfl ?_
    refine zf_aload_n 0 (q := 17) (j := 0) rfl dX0_packedRules_16 rfl rfl ?_
    refine zf_getR (q := 20) rfl dX0_packedRules_17 lf_RX0_45 (sc38 hG) rfl ?_
    refine zf_getR (q := 23) rfl dX0_packedRules_20 lf_RX0_103 (sc17 hG) rfl ?_
    refine zf_iload_n 2 (q := 24) (j := 2) rfl dX0_packedRules_23 rfl rfl ?_
    obtain ⟨v1, ev1, h⟩ := zb h
    refine zf_iald (q := 25) rfl dX0_packedRules_24 (sc18 hG) ev1 ?_
    refine zf_iconst (q := 26) rfl dX0_packedRules_25 ic2 ?_
    refine zf_iload_n 2 (q := 27) (j := 2) rfl dX0_packedRules_26 rfl rfl ?_
    refine zf_imul (q := 28) rfl dX0_packedRules_27 ?_
    refine zf_ishl (q := 29) rfl dX0_packedRules_28 ?_
    refine zf_ior (q := 30) rfl dX0_packedRules_29 ?_
    obtain ⟨v2, ev2, h⟩ := zb h
    refine zf_istore_n (q := 31) (y := v2) (i := 1) (lv1 := [(1, .int v2), (0, .ref (zad G 38)), (2, .int x2)]) rfl dX0_packedRules_30 rfl (by decide) ev2 rfl ?_
    obtain ⟨v3, ev3, h⟩ := zb h
    refine zf_iinc 2 (q := 34) (v := v3) (lv1 := [(2, .int v3), (1, .int v2), (0, .ref (zad G 38))]) rfl dX0_packedRules_31 rfl (by rw [ic1]; exact ev3) (by decide) rfl ?_
    refine zf_goto (tgt := 4) (by decide) dX0_packedRules_34 ?_
    exact zf_sub [2, 1, 0] rfl (hr4 _ _ _ h)
def f_X0_packedRules_4 (N : Nat) : Nat → Int32 → Int32 → ZM → Option (Int32 × ZM)
  | 0, _, _, _ => none
  | n + 1, x1, x2, σ => b_X0_packedRules_4 N (f_X0_packedRules_4 N n) x1 x2 σ
theorem ok_X0_packedRules_4 {G : ZG} (hG : zSH G = shC) (N : Nat) {d : Nat} {res : Int32 × ZM} : ∀ (n : Nat) (x1 : Int32) (x2 : Int32) (σ : ZM), f_X0_packedRules_4 N n x1 x2 σ = some res → zF G MX0_packedRules d 4 [(0, .ref (zad G 38)), (1, .int x1), (2, .int x2)] [] σ (some (.int res.1)) res.2 := by
  intro n
  induction n with
  | zero => intro x1 x2 σ h; exact absurd h (by simp [f_X0_packedRules_4])
  | succ n ih => intro x1 x2 σ h; rw [f_X0_packedRules_4] at h; exact ok_b_X0_packedRules_4 hG N ih h
def f_X0_packedRules (N : Nat) (σ : ZM) : Option (Int32 × ZM) :=
  f_X0_packedRules_4 N N (0 : Int32) (0 : Int32) σ
set_option maxRecDepth 100000 in
theorem ok_X0_packedRules {G : ZG} (hG : zSH G = shC) (N : Nat) {d : Nat} (hd : 0 ≤ d) {σ : ZM} {res : Int32 × ZM} (h : f_X0_packedRules N σ = some res) : zCt G d MX0_packedRules [.ref (zad G 38)] σ (some (.int res.1)) res.2 := by
  refine zct_of (by decide) (Nat.le_of_ble_eq_true rfl) (lv := [(0, .ref (zad G 38))]) rfl ?_
  unfold f_X0_packedRules at h
  refine zf_iconst (q := 1) rfl dX0_packedRules_0 ic0 ?_
  refine zf_istore_n (q := 2) (y := (0 : Int32)) (i := 1) (lv1 := [(1, .int (0 : Int32)), (0, .ref (zad G 38))]) rfl dX0_packedRules_1 rfl (by decide) rfl rfl ?_
  refine zf_iconst (q := 3) rfl dX0_packedRules_2 ic0 ?_
  refine zf_istore_n (q := 4) (y := (0 : Int32)) (i := 2) (lv1 := [(2, .int (0 : Int32)), (1, .int (0 : Int32)), (0, .ref (zad G 38))]) rfl dX0_packedRules_3 rfl (by decide) rfl rfl ?_
  exact zf_sub [2, 1, 0] rfl (ok_X0_packedRules_4 hG N _ _ _ _ h)
-- ===== X0_takeNextRules: NearCopies$Cases.takeNextRules()Z
def b_X0_takeNextRules_2 (N : Nat) (rec2 : Int32 → ZM → Option (Int32 × ZM)) (x1 : Int32) (σ : ZM) : Option (Int32 × ZM) :=
  if (σ.1 1 0) ≤ x1 then
  (some ((0 : Int32), σ))
  else
  ((zald σ 3 10 x1).bind fun v1 =>
  (zald σ 18 10 x1).bind fun v2 =>
  (some (v1 >>> ((v2 + (1 : Int32)) &&& 31))).bind fun v3 =>
  if v3 = 0 then
  (zbd (f_X3_leastRule N x1 σ) fun r4 s5 =>
  (zast s5 18 10 x1 r4).bind fun s6 =>
  (some (x1 + (1 : Int32))).bind fun v7 =>
  rec2 v7 s6)
  else
  ((zald σ 18 10 x1).bind fun v8 =>
  zbd (f_J6_numberOfTrailingZeros_0f7a4 N v3 σ) fun r9 s10 =>
  (zast s10 18 10 x1 (v8 + ((1 : Int32) + r9))).bind fun s11 =>
  some ((1 : Int32), s11)))
set_option maxRecDepth 100000 in
theorem ok_b_X0_takeNextRules_2 {G : ZG} (hG : zSH G = shC) (N : Nat) {d : Nat} (hd : 1 ≤ d) {rec2 : Int32 → ZM → Option (Int32 × ZM)} {res : Int32 × ZM} (hr2 : ∀ (x1 : Int32) (σ : ZM), rec2 x1 σ = some res → zF G MX0_takeNextRules (d + 1) 2 [(0, .ref (zad G 38)), (1, .int x1)] [] σ (some (.int res.1)) res.2) {x1 : Int32} {σ : ZM} (h : b_X0_takeNextRules_2 N rec2 x1 σ = some res) : zF G MX0_takeNextRules (d + 1) 2 [(0, .ref (zad G 38)), (1, .int x1)] [] σ (some (.int res.1)) res.2 := by
  unfold b_X0_takeNextRules_2 at h
  refine zf_iload_n 1 (q := 3) (j := 1) rfl dX0_takeNextRules_2 rfl rfl ?_
  refine zf_aload_n 0 (q := 4) (j := 0) rfl dX0_takeNextRules_3 rfl rfl ?_
  refine zf_getR (q := 7) rfl dX0_takeNextRules_4 lf_RX0_38 (sc38 hG) rfl ?_
  refine zf_getI (q := 10) rfl dX0_takeNextRules_7 lf_RX0_97 (sc1 hG) rfl ?_
  refine zf_icmp_ge (q := 13) (tgt := 82) rfl (by decide) dX0_takeNextRules_10 (fun hc10 => ?_) (fun hc10 => ?_)
  · replace h := (zi h).1 hc10
    refine zf_iconst (q := 83) rfl dX0_takeNextRules_82 ic0 ?_
    cases h
    exact zf_zreturn dX0_takeNextRules_83 rfl (Or.inl rfl)
  · replace h := (zi h).2 hc10
    refine zf_aload_n 0 (q := 14) (j := 0) rfl dX0_takeNextRules_13 rfl rfl ?_
    refine zf_getR (q := 17) rfl dX0_takeNextRules_14 lf_RX0_38 (sc38 hG) rfl ?_
    refine zf_getR (q := 20) rfl dX0_takeNextRules_17 lf_RX0_100 (sc1 hG) rfl ?_
    refine zf_iload_n 1 (q := 21) (j := 1) rfl dX0_takeNextRules_20 rfl rfl ?_
    obtain ⟨v1, ev1, h⟩ := zb h
    refine zf_iald (q := 22) rfl dX0_takeNextRules_21 (sc3 hG) ev1 ?_
    refine zf_aload_n 0 (q := 23) (j := 0) rfl dX0_takeNextRules_22 rfl rfl ?_
    refine zf_getR (q := 26) rfl dX0_takeNextRules_23 lf_RX0_45 (sc38 hG) rfl ?_
    refine zf_getR (q := 29) rfl dX0_takeNextRules_26 lf_RX0_103 (sc17 hG) rfl ?_
    refine zf_iload_n 1 (q := 30) (j := 1) rfl dX0_takeNextRules_29 rfl rfl ?_
    obtain ⟨v2, ev2, h⟩ := zb h
    refine zf_iald (q := 31) rfl dX0_takeNextRules_30 (sc18 hG) ev2 ?_
    refine zf_iconst (q := 32) rfl dX0_takeNextRules_31 ic1 ?_
    refine zf_iadd (q := 33) rfl dX0_takeNextRules_32 ?_
    refine zf_ishr (q := 34) rfl dX0_takeNextRules_33 ?_
    obtain ⟨v3, ev3, h⟩ := zb h
    refine zf_istore_n (q := 35) (y := v3) (i := 2) (lv1 := [(2, .int v3), (0, .ref (zad G 38)), (1, .int x1)]) rfl dX0_takeNextRules_34 rfl (by decide) ev3 rfl ?_
    refine zf_iload_n 0 (q := 36) (j := 2) rfl dX0_takeNextRules_35 rfl rfl ?_
    refine zf_if_eq (q := 39) (tgt := 59) rfl (by decide) dX0_takeNextRules_36 (fun hc36 => ?_) (fun hc36 => ?_)
    · replace h := (zi h).1 hc36
      refine zf_aload_n 1 (q := 60) (j := 0) rfl dX0_takeNextRules_59 rfl rfl ?_
      refine zf_getR (q := 63) rfl dX0_takeNextRules_60 lf_RX0_45 (sc38 hG) rfl ?_
      refine zf_getR (q := 66) rfl dX0_takeNextRules_63 lf_RX0_103 (sc17 hG) rfl ?_
      refine zf_iload_n 2 (q := 67) (j := 1) rfl dX0_takeNextRules_66 rfl rfl ?_
      refine zf_aload_n 1 (q := 68) (j := 0) rfl dX0_takeNextRules_67 rfl rfl ?_
      refine zf_getR (q := 71) rfl dX0_takeNextRules_68 lf_RX0_38 (sc38 hG) rfl ?_
      refine zf_iload_n 2 (q := 72) (j := 1) rfl dX0_takeNextRules_71 rfl rfl ?_
      obtain ⟨r4, s5, es5, h⟩ := zc h
      refine zf_callV (q := 75) (As := [.int x1]) (rest := [.int x1, .ref (zad G 18)]) (st1 := [.int r4, .int x1, .ref (zad G 18)]) rfl dX0_takeNextRules_72 lv_RX0_112 (sc1 hG) rfl rfl (Nat.le_of_ble_eq_true rfl) (ok_X3_leastRule hG N (Nat.le_trans (by decide) hd) es5) rfl ?_
      obtain ⟨s6, es6, h⟩ := zb h
      refine zf_iast (q := 76) rfl dX0_takeNextRules_75 (sc18 hG) es6 ?_
      obtain ⟨v7, ev7, h⟩ := zb h
      refine zf_iinc 2 (q := 79) (v := v7) (lv1 := [(1, .int v7), (2, .int v3), (0, .ref (zad G 38))]) rfl dX0_takeNextRules_76 rfl (by rw [ic1]; exact ev7) (by decide) rfl ?_
      refine zf_goto (tgt := 2) (by decide) dX0_takeNextRules_79 ?_
      exact zf_sub [2, 0] rfl (hr2 _ _ h)
    · replace h := (zi h).2 hc36
      refine zf_aload_n 1 (q := 40) (j := 0) rfl dX0_takeNextRules_39 rfl rfl ?_
      refine zf_getR (q := 43) rfl dX0_takeNextRules_40 lf_RX0_45 (sc38 hG) rfl ?_
      refine zf_getR (q := 46) rfl dX0_takeNextRules_43 lf_RX0_103 (sc17 hG) rfl ?_
      refine zf_iload_n 2 (q := 47) (j := 1) rfl dX0_takeNextRules_46 rfl rfl ?_
      refine zf_dup2 (q := 48) rfl dX0_takeNextRules_47 rfl rfl ?_
      obtain ⟨v8, ev8, h⟩ := zb h
      refine zf_iald (q := 49) rfl dX0_takeNextRules_48 (sc18 hG) ev8 ?_
      refine zf_iconst (q := 50) rfl dX0_takeNextRules_49 ic1 ?_
      refine zf_iload_n 0 (q := 51) (j := 2) rfl dX0_takeNextRules_50 rfl rfl ?_
      obtain ⟨r9, s10, es10, h⟩ := zc h
      refine zf_callS (q := 54) (As := [.int v3]) (rest := [.int (1 : Int32), .int v8, .int x1, .ref (zad G 18)]) (st1 := [.int r9, .int (1 : Int32), .int v8, .int x1, .ref (zad G 18)]) rfl dX0_takeNextRules_51 ls_RX0_106 rfl rfl (Nat.le_of_ble_eq_true rfl) (ok_J6_numberOfTrailingZeros_0f7a4 N (Nat.le_trans (by decide) hd) es10) rfl ?_
      refine zf_iadd (q := 55) rfl dX0_takeNextRules_54 ?_
      refine zf_iadd (q := 56) rfl dX0_takeNextRules_55 ?_
      obtain ⟨s11, es11, h⟩ := zb h
      refine zf_iast (q := 57) rfl dX0_takeNextRules_56 (sc18 hG) es11 ?_
      refine zf_iconst (q := 58) rfl dX0_takeNextRules_57 ic1 ?_
      cases h
      exact zf_zreturn dX0_takeNextRules_58 rfl (Or.inr rfl)
def f_X0_takeNextRules_2 (N : Nat) : Nat → Int32 → ZM → Option (Int32 × ZM)
  | 0, _, _ => none
  | n + 1, x1, σ => b_X0_takeNextRules_2 N (f_X0_takeNextRules_2 N n) x1 σ
theorem ok_X0_takeNextRules_2 {G : ZG} (hG : zSH G = shC) (N : Nat) {d : Nat} (hd : 1 ≤ d) {res : Int32 × ZM} : ∀ (n : Nat) (x1 : Int32) (σ : ZM), f_X0_takeNextRules_2 N n x1 σ = some res → zF G MX0_takeNextRules (d + 1) 2 [(0, .ref (zad G 38)), (1, .int x1)] [] σ (some (.int res.1)) res.2 := by
  intro n
  induction n with
  | zero => intro x1 σ h; exact absurd h (by simp [f_X0_takeNextRules_2])
  | succ n ih => intro x1 σ h; rw [f_X0_takeNextRules_2] at h; exact ok_b_X0_takeNextRules_2 hG N hd ih h
def f_X0_takeNextRules (N : Nat) (σ : ZM) : Option (Int32 × ZM) :=
  f_X0_takeNextRules_2 N N (0 : Int32) σ
set_option maxRecDepth 100000 in
theorem ok_X0_takeNextRules {G : ZG} (hG : zSH G = shC) (N : Nat) {d : Nat} (hd : 2 ≤ d) {σ : ZM} {res : Int32 × ZM} (h : f_X0_takeNextRules N σ = some res) : zCt G d MX0_takeNextRules [.ref (zad G 38)] σ (some (.int res.1)) res.2 := by
  obtain ⟨d, rfl⟩ : ∃ k, d = k + 1 := ⟨d - 1, by omega⟩
  have hd : 1 ≤ d := by omega
  refine zct_of (by decide) (Nat.le_of_ble_eq_true rfl) (lv := [(0, .ref (zad G 38))]) rfl ?_
  unfold f_X0_takeNextRules at h
  refine zf_iconst (q := 1) rfl dX0_takeNextRules_0 ic0 ?_
  refine zf_istore_n (q := 2) (y := (0 : Int32)) (i := 1) (lv1 := [(1, .int (0 : Int32)), (0, .ref (zad G 38))]) rfl dX0_takeNextRules_1 rfl (by decide) rfl rfl ?_
  exact zf_sub [1, 0] rfl (ok_X0_takeNextRules_2 hG N hd _ _ _ h)
-- ===== X0_sift: NearCopies$Cases.sift()Z
def f_X0_sift_119 (N : Nat) (σ : ZM) : Option (Int32 × ZM) :=
  if (σ.1 38 7) ≤ 0 then
  (some ((1 : Int32), σ))
  else
  ((zpI σ 38 8 (-9 : Int32)).bind fun s1 =>
  some ((1 : Int32), s1))
set_option maxRecDepth 100000 in
theorem ok_X0_sift_119 {G : ZG} (hG : zSH G = shC) (N : Nat) {d : Nat} (hd : 4 ≤ d) {res : Int32 × ZM} {σ : ZM} (h : f_X0_sift_119 N σ = some res) : zF G MX0_sift (d + 1) 119 [(0, .ref (zad G 38))] [] σ (some (.int res.1)) res.2 := by
  unfold f_X0_sift_119 at h
  refine zf_aload_n 0 (q := 120) (j := 0) rfl dX0_sift_119 rfl rfl ?_
  refine zf_getI (q := 123) rfl dX0_sift_120 lf_RX0_70 (sc38 hG) rfl ?_
  refine zf_if_le (q := 126) (tgt := 132) rfl (by decide) dX0_sift_123 (fun hc123 => ?_) (fun hc123 => ?_)
  · replace h := (zi h).1 hc123
    refine zf_iconst (q := 133) rfl dX0_sift_132 ic1 ?_
    cases h
    exact zf_zreturn dX0_sift_133 rfl (Or.inr rfl)
  · replace h := (zi h).2 hc123
    refine zf_aload_n 0 (q := 127) (j := 0) rfl dX0_sift_126 rfl rfl ?_
    refine zf_bipush (q := 129) rfl dX0_sift_127 bpm9 ?_
    obtain ⟨s1, es1, h⟩ := zb h
    refine zf_putI (q := 132) rfl dX0_sift_129 lp_RX0_73 (sc38 hG) rfl es1 ?_
    refine zf_iconst (q := 133) rfl dX0_sift_132 ic1 ?_
    cases h
    exact zf_zreturn dX0_sift_133 rfl (Or.inr rfl)
def f_X0_sift_96 (N : Nat) (rec51 : Int32 → Int32 → ZM → Option (Int32 × ZM)) (x2 : Int32) (x3 : Int32) (σ : ZM) : Option (Int32 × ZM) :=
  (zpI σ 38 8 (zmax (σ.1 38 8) x3)).bind fun s2 =>
  zbd (f_X0_takeNextRules N s2) fun r3 s4 =>
  (some (x2 + (1 : Int32))).bind fun v5 =>
  rec51 r3 v5 s4
set_option maxRecDepth 100000 in
theorem ok_X0_sift_96 {G : ZG} (hG : zSH G = shC) (N : Nat) {d : Nat} (hd : 4 ≤ d) {rec51 : Int32 → Int32 → ZM → Option (Int32 × ZM)} {res : Int32 × ZM} (hr51 : ∀ (x1 : Int32) (x2 : Int32) (σ : ZM), rec51 x1 x2 σ = some res → zF G MX0_sift (d + 1) 51 [(0, .ref (zad G 38)), (1, .int x1), (2, .int x2)] [] σ (some (.int res.1)) res.2) {x2 : Int32} {x3 : Int32} {σ : ZM} (h : f_X0_sift_96 N rec51 x2 x3 σ = some res) : zF G MX0_sift (d + 1) 96 [(0, .ref (zad G 38)), (2, .int x2), (3, .int x3)] [] σ (some (.int res.1)) res.2 := by
  unfold f_X0_sift_96 at h
  refine zf_aload_n 0 (q := 97) (j := 0) rfl dX0_sift_96 rfl rfl ?_
  refine zf_aload_n 0 (q := 98) (j := 0) rfl dX0_sift_97 rfl rfl ?_
  refine zf_getI (q := 101) rfl dX0_sift_98 lf_RX0_73 (sc38 hG) rfl ?_
  refine zf_iload_n 2 (q := 102) (j := 3) rfl dX0_sift_101 rfl rfl ?_
  refine zf_mmax (q := 105) rfl dX0_sift_102 mm_RX0_87 mm_max1 mm_0 mm_max2 (Nat.le_of_ble_eq_true rfl) ?_
  obtain ⟨s2, es2, h⟩ := zb h
  refine zf_putI (q := 108) rfl dX0_sift_105 lp_RX0_73 (sc38 hG) rfl es2 ?_
  refine zf_aload_n 0 (q := 109) (j := 0) rfl dX0_sift_108 rfl rfl ?_
  obtain ⟨r3, s4, es4, h⟩ := zc h
  refine zf_callV (q := 112) (As := []) (rest := []) (st1 := [.int r3]) rfl dX0_sift_109 lv_RX0_93 (sc38 hG) rfl rfl (Nat.le_of_ble_eq_true rfl) (ok_X0_takeNextRules hG N (Nat.le_trans (by decide) hd) es4) rfl ?_
  refine zf_istore_n (q := 113) (y := r3) (i := 1) (lv1 := [(1, .int r3), (0, .ref (zad G 38)), (2, .int x2), (3, .int x3)]) rfl dX0_sift_112 rfl (by decide) rfl rfl ?_
  obtain ⟨v5, ev5, h⟩ := zb h
  refine zf_iinc 2 (q := 116) (v := v5) (lv1 := [(2, .int v5), (1, .int r3), (0, .ref (zad G 38)), (3, .int x3)]) rfl dX0_sift_113 rfl (by rw [ic1]; exact ev5) (by decide) rfl ?_
  refine zf_goto (tgt := 51) (by decide) dX0_sift_116 ?_
  exact zf_sub [2, 1, 0] rfl (hr51 _ _ _ h)
def b_X0_sift_51 (N : Nat) (rec51 : Int32 → Int32 → ZM → Option (Int32 × ZM)) (x1 : Int32) (x2 : Int32) (σ : ZM) : Option (Int32 × ZM) :=
  if (256 : Int32) ≤ x2 then
  (f_X0_sift_119 N σ)
  else
  (if x1 = 0 then
  (f_X0_sift_119 N σ)
  else
  (zbd (f_X0_firstQuarrel N σ) fun r6 s7 =>
  if r6 = (-9 : Int32) then
  (zbd (f_X0_packedRules N s7) fun r8 s9 =>
  (zast s9 45 256 (s7.1 38 7) r8).bind fun s10 =>
  (zpI s10 38 7 ((s10.1 38 7) + (1 : Int32))).bind fun s11 =>
  f_X0_sift_96 N rec51 x2 r6 s11)
  else
  (f_X0_sift_96 N rec51 x2 r6 s7)))
set_option maxRecDepth 100000 in
theorem ok_b_X0_sift_51 {G : ZG} (hG : zSH G = shC) (N : Nat) {d : Nat} (hd : 4 ≤ d) {rec51 : Int32 → Int32 → ZM → Option (Int32 × ZM)} {res : Int32 × ZM} (hr51 : ∀ (x1 : Int32) (x2 : Int32) (σ : ZM), rec51 x1 x2 σ = some res → zF G MX0_sift (d + 1) 51 [(0, .ref (zad G 38)), (1, .int x1), (2, .int x2)] [] σ (some (.int res.1)) res.2) {x1 : Int32} {x2 : Int32} {σ : ZM} (h : b_X0_sift_51 N rec51 x1 x2 σ = some res) : zF G MX0_sift (d + 1) 51 [(0, .ref (zad G 38)), (1, .int x1), (2, .int x2)] [] σ (some (.int res.1)) res.2 := by
  unfold b_X0_sift_51 at h
  refine zf_iload_n 2 (q := 52) (j := 2) rfl dX0_sift_51 rfl rfl ?_
  refine zf_sipush (q := 55) rfl dX0_sift_52 sp256 ?_
  refine zf_icmp_ge (q := 58) (tgt := 119) rfl (by decide) dX0_sift_55 (fun hc55 => ?_) (fun hc55 => ?_)
  · replace h := (zi h).1 hc55
    exact zf_sub [0] rfl (ok_X0_sift_119 hG N hd h)
  · replace h := (zi h).2 hc55
    refine zf_iload_n 1 (q := 59) (j := 1) rfl dX0_sift_58 rfl rfl ?_
    refine zf_if_eq (q := 62) (tgt := 119) rfl (by decide) dX0_sift_59 (fun hc59 => ?_) (fun hc59 => ?_)
    · replace h := (zi h).1 hc59
      exact zf_sub [0] rfl (ok_X0_sift_119 hG N hd h)
    · replace h := (zi h).2 hc59
      refine zf_aload_n 0 (q := 63) (j := 0) rfl dX0_sift_62 rfl rfl ?_
      obtain ⟨r6, s7, es7, h⟩ := zc h
      refine zf_callV (q := 66) (As := []) (rest := []) (st1 := [.int r6]) rfl dX0_sift_63 lv_RX0_81 (sc38 hG) rfl rfl (Nat.le_of_ble_eq_true rfl) (ok_X0_firstQuarrel hG N (Nat.le_trans (by decide) hd) es7) rfl ?_
      refine zf_istore_n (q := 67) (y := r6) (i := 3) (lv1 := [(3, .int r6), (0, .ref (zad G 38)), (1, .int x1), (2, .int x2)]) rfl dX0_sift_66 rfl (by decide) rfl rfl ?_
      refine zf_iload_n 0 (q := 68) (j := 3) rfl dX0_sift_67 rfl rfl ?_
      refine zf_bipush (q := 70) rfl dX0_sift_68 bpm9 ?_
      refine zf_icmp_ne (q := 73) (tgt := 96) rfl (by decide) dX0_sift_70 (fun hc70 => ?_) (fun hc70 => ?_)
      · replace h := (zi h).2 hc70
        exact zf_sub [1, 3, 0] rfl (ok_X0_sift_96 hG N hd hr51 h)
      · replace h := (zi h).1 hc70
        refine zf_aload_n 1 (q := 74) (j := 0) rfl dX0_sift_73 rfl rfl ?_
        refine zf_getR (q := 77) rfl dX0_sift_74 lf_RX0_24 (sc38 hG) rfl ?_
        refine zf_aload_n 1 (q := 78) (j := 0) rfl dX0_sift_77 rfl rfl ?_
        refine zf_getI (q := 81) rfl dX0_sift_78 lf_RX0_70 (sc38 hG) rfl ?_
        refine zf_aload_n 1 (q := 82) (j := 0) rfl dX0_sift_81 rfl rfl ?_
        obtain ⟨r8, s9, es9, h⟩ := zc h
        refine zf_callV (q := 85) (As := []) (rest := [.int (s7.1 38 7), .ref (zad G 45)]) (st1 := [.int r8, .int (s7.1 38 7), .ref (zad G 45)]) rfl dX0_sift_82 lv_RX0_84 (sc38 hG) rfl rfl (Nat.le_of_ble_eq_true rfl) (ok_X0_packedRules hG N (Nat.le_trans (by decide) hd) es9) rfl ?_
        obtain ⟨s10, es10, h⟩ := zb h
        refine zf_iast (q := 86) rfl dX0_sift_85 (sc45 hG) es10 ?_
        refine zf_aload_n 1 (q := 87) (j := 0) rfl dX0_sift_86 rfl rfl ?_
        refine zf_dup (q := 88) rfl dX0_sift_87 rfl ?_
        refine zf_getI (q := 91) rfl dX0_sift_88 lf_RX0_70 (sc38 hG) rfl ?_
        refine zf_iconst (q := 92) rfl dX0_sift_91 ic1 ?_
        refine zf_iadd (q := 93) rfl dX0_sift_92 ?_
        obtain ⟨s11, es11, h⟩ := zb h
        refine zf_putI (q := 96) rfl dX0_sift_93 lp_RX0_70 (sc38 hG) rfl es11 ?_
        exact zf_sub [1, 3, 0] rfl (ok_X0_sift_96 hG N hd hr51 h)
def f_X0_sift_51 (N : Nat) : Nat → Int32 → Int32 → ZM → Option (Int32 × ZM)
  | 0, _, _, _ => none
  | n + 1, x1, x2, σ => b_X0_sift_51 N (f_X0_sift_51 N n) x1 x2 σ
theorem ok_X0_sift_51 {G : ZG} (hG : zSH G = shC) (N : Nat) {d : Nat} (hd : 4 ≤ d) {res : Int32 × ZM} : ∀ (n : Nat) (x1 : Int32) (x2 : Int32) (σ : ZM), f_X0_sift_51 N n x1 x2 σ = some res → zF G MX0_sift (d + 1) 51 [(0, .ref (zad G 38)), (1, .int x1), (2, .int x2)] [] σ (some (.int res.1)) res.2 := by
  intro n
  induction n with
  | zero => intro x1 x2 σ h; exact absurd h (by simp [f_X0_sift_51])
  | succ n ih => intro x1 x2 σ h; rw [f_X0_sift_51] at h; exact ok_b_X0_sift_51 hG N hd ih h
def f_X0_sift (N : Nat) (σ : ZM) : Option (Int32 × ZM) :=
  zbd (f_X3_caseCount N σ) fun r12 s13 =>
  if r12 ≤ (256 : Int32) then
  (if (s13.1 38 15) = 0 then
  (some ((1 : Int32), s13))
  else
  ((zpZ s13 38 15 (0 : Int32)).bind fun s14 =>
  (zpI s14 38 7 (0 : Int32)).bind fun s15 =>
  (zpI s15 38 8 (-9 : Int32)).bind fun s16 =>
  zbd (f_X2_takeLeastRules N s16) fun r17 s18 =>
  f_X0_sift_51 N N (1 : Int32) (0 : Int32) s18))
  else
  (some ((0 : Int32), s13))
set_option maxRecDepth 100000 in
theorem ok_X0_sift {G : ZG} (hG : zSH G = shC) (N : Nat) {d : Nat} (hd : 5 ≤ d) {σ : ZM} {res : Int32 × ZM} (h : f_X0_sift N σ = some res) : zCt G d MX0_sift [.ref (zad G 38)] σ (some (.int res.1)) res.2 := by
  obtain ⟨d, rfl⟩ : ∃ k, d = k + 1 := ⟨d - 1, by omega⟩
  have hd : 4 ≤ d := by omega
  refine zct_of (by decide) (Nat.le_of_ble_eq_true rfl) (lv := [(0, .ref (zad G 38))]) rfl ?_
  unfold f_X0_sift at h
  refine zf_aload_n 0 (q := 1) (j := 0) rfl dX0_sift_0 rfl rfl ?_
  refine zf_getR (q := 4) rfl dX0_sift_1 lf_RX0_38 (sc38 hG) rfl ?_
  obtain ⟨r12, s13, es13, h⟩ := zc h
  refine zf_callV (q := 7) (As := []) (rest := []) (st1 := [.int r12]) rfl dX0_sift_4 lv_RX0_64 (sc1 hG) rfl rfl (Nat.le_of_ble_eq_true rfl) (ok_X3_caseCount hG N (Nat.le_trans (by decide) hd) es13) rfl ?_
  refine zf_sipush (q := 10) rfl dX0_sift_7 sp256 ?_
  refine zf_icmp_le (q := 13) (tgt := 15) rfl (by decide) dX0_sift_10 (fun hc10 => ?_) (fun hc10 => ?_)
  · replace h := (zi h).1 hc10
    refine zf_aload_n 0 (q := 16) (j := 0) rfl dX0_sift_15 rfl rfl ?_
    refine zf_getI (q := 19) rfl dX0_sift_16 lf_RX0_34 (sc38 hG) rfl ?_
    refine zf_if_ne (q := 22) (tgt := 24) rfl (by decide) dX0_sift_19 (fun hc19 => ?_) (fun hc19 => ?_)
    · replace h := (zi h).2 hc19
      refine zf_aload_n 0 (q := 25) (j := 0) rfl dX0_sift_24 rfl rfl ?_
      refine zf_iconst (q := 26) rfl dX0_sift_25 ic0 ?_
      obtain ⟨s14, es14, h⟩ := zb h
      refine zf_putZ (q := 29) rfl dX0_sift_26 lp_RX0_34 (sc38 hG) rfl es14 ?_
      refine zf_aload_n 0 (q := 30) (j := 0) rfl dX0_sift_29 rfl rfl ?_
      refine zf_iconst (q := 31) rfl dX0_sift_30 ic0 ?_
      obtain ⟨s15, es15, h⟩ := zb h
      refine zf_putI (q := 34) rfl dX0_sift_31 lp_RX0_70 (sc38 hG) rfl es15 ?_
      refine zf_aload_n 0 (q := 35) (j := 0) rfl dX0_sift_34 rfl rfl ?_
      refine zf_bipush (q := 37) rfl dX0_sift_35 bpm9 ?_
      obtain ⟨s16, es16, h⟩ := zb h
      refine zf_putI (q := 40) rfl dX0_sift_37 lp_RX0_73 (sc38 hG) rfl es16 ?_
      refine zf_aload_n 0 (q := 41) (j := 0) rfl dX0_sift_40 rfl rfl ?_
      refine zf_getR (q := 44) rfl dX0_sift_41 lf_RX0_45 (sc38 hG) rfl ?_
      obtain ⟨r17, s18, es18, h⟩ := zc h
      refine zf_callV (q := 47) (As := []) (rest := []) (st1 := []) rfl dX0_sift_44 lv_RX0_76 (sc17 hG) rfl rfl (Nat.le_of_ble_eq_true rfl) (ok_X2_takeLeastRules hG N (Nat.le_trans (by decide) hd) es18) rfl ?_
      refine zf_iconst (q := 48) rfl dX0_sift_47 ic1 ?_
      refine zf_istore_n (q := 49) (y := (1 : Int32)) (i := 1) (lv1 := [(1, .int (1 : Int32)), (0, .ref (zad G 38))]) rfl dX0_sift_48 rfl (by decide) rfl rfl ?_
      refine zf_iconst (q := 50) rfl dX0_sift_49 ic0 ?_
      refine zf_istore_n (q := 51) (y := (0 : Int32)) (i := 2) (lv1 := [(2, .int (0 : Int32)), (1, .int (1 : Int32)), (0, .ref (zad G 38))]) rfl dX0_sift_50 rfl (by decide) rfl rfl ?_
      exact zf_sub [2, 1, 0] rfl (ok_X0_sift_51 hG N hd _ _ _ _ h)
    · replace h := (zi h).1 hc19
      refine zf_iconst (q := 23) rfl dX0_sift_22 ic1 ?_
      cases h
      exact zf_zreturn dX0_sift_23 rfl (Or.inr rfl)
  · replace h := (zi h).2 hc10
    refine zf_iconst (q := 14) rfl dX0_sift_13 ic0 ?_
    cases h
    exact zf_zreturn dX0_sift_14 rfl (Or.inl rfl)
-- ===== X0_takeRules: NearCopies$Cases.takeRules(I)V
def b_X0_takeRules_2 (N : Nat) (rec2 : Int32 → Int32 → ZM → Option (Unit × ZM)) (x1 : Int32) (x2 : Int32) (σ : ZM) : Option (Unit × ZM) :=
  if (σ.1 1 0) ≤ x2 then
  (some ((), σ))
  else
  ((zast σ 18 10 x2 ((x1 >>> (((2 : Int32) * x2) &&& 31)) &&& (3 : Int32))).bind fun s1 =>
  (some (x2 + (1 : Int32))).bind fun v2 =>
  rec2 x1 v2 s1)
set_option maxRecDepth 100000 in
theorem ok_b_X0_takeRules_2 {G : ZG} (hG : zSH G = shC) (N : Nat) {d : Nat} {rec2 : Int32 → Int32 → ZM → Option (Unit × ZM)} {res : Unit × ZM} (hr2 : ∀ (x1 : Int32) (x2 : Int32) (σ : ZM), rec2 x1 x2 σ = some res → zF G MX0_takeRules d 2 [(0, .ref (zad G 38)), (1, .int x1), (2, .int x2)] [] σ none res.2) {x1 : Int32} {x2 : Int32} {σ : ZM} (h : b_X0_takeRules_2 N rec2 x1 x2 σ = some res) : zF G MX0_takeRules d 2 [(0, .ref (zad G 38)), (1, .int x1), (2, .int x2)] [] σ none res.2 := by
  unfold b_X0_takeRules_2 at h
  refine zf_iload_n 2 (q := 3) (j := 2) rfl dX0_takeRules_2 rfl rfl ?_
  refine zf_aload_n 0 (q := 4) (j := 0) rfl dX0_takeRules_3 rfl rfl ?_
  refine zf_getR (q := 7) rfl dX0_takeRules_4 lf_RX0_38 (sc38 hG) rfl ?_
  refine zf_getI (q := 10) rfl dX0_takeRules_7 lf_RX0_97 (sc1 hG) rfl ?_
  refine zf_icmp_ge (q := 13) (tgt := 35) rfl (by decide) dX0_takeRules_10 (fun hc10 => ?_) (fun hc10 => ?_)
  · replace h := (zi h).1 hc10
    cases h
    exact zf_return dX0_takeRules_35 rfl
  · replace h := (zi h).2 hc10
    refine zf_aload_n 0 (q := 14) (j := 0) rfl dX0_takeRules_13 rfl rfl ?_
    refine zf_getR (q := 17) rfl dX0_takeRules_14 lf_RX0_45 (sc38 hG) rfl ?_
    refine zf_getR (q := 20) rfl dX0_takeRules_17 lf_RX0_103 (sc17 hG) rfl ?_
    refine zf_iload_n 2 (q := 21) (j := 2) rfl dX0_takeRules_20 rfl rfl ?_
    refine zf_iload_n 1 (q := 22) (j := 1) rfl dX0_takeRules_21 rfl rfl ?_
    refine zf_iconst (q := 23) rfl dX0_takeRules_22 ic2 ?_
    refine zf_iload_n 2 (q := 24) (j := 2) rfl dX0_takeRules_23 rfl rfl ?_
    refine zf_imul (q := 25) rfl dX0_takeRules_24 ?_
    refine zf_ishr (q := 26) rfl dX0_takeRules_25 ?_
    refine zf_iconst (q := 27) rfl dX0_takeRules_26 ic3 ?_
    refine zf_iand (q := 28) rfl dX0_takeRules_27 ?_
    obtain ⟨s1, es1, h⟩ := zb h
    refine zf_iast (q := 29) rfl dX0_takeRules_28 (sc18 hG) es1 ?_
    obtain ⟨v2, ev2, h⟩ := zb h
    refine zf_iinc 2 (q := 32) (v := v2) (lv1 := [(2, .int v2), (0, .ref (zad G 38)), (1, .int x1)]) rfl dX0_takeRules_29 rfl (by rw [ic1]; exact ev2) (by decide) rfl ?_
    refine zf_goto (tgt := 2) (by decide) dX0_takeRules_32 ?_
    exact zf_sub [1, 2, 0] rfl (hr2 _ _ _ h)
def f_X0_takeRules_2 (N : Nat) : Nat → Int32 → Int32 → ZM → Option (Unit × ZM)
  | 0, _, _, _ => none
  | n + 1, x1, x2, σ => b_X0_takeRules_2 N (f_X0_takeRules_2 N n) x1 x2 σ
theorem ok_X0_takeRules_2 {G : ZG} (hG : zSH G = shC) (N : Nat) {d : Nat} {res : Unit × ZM} : ∀ (n : Nat) (x1 : Int32) (x2 : Int32) (σ : ZM), f_X0_takeRules_2 N n x1 x2 σ = some res → zF G MX0_takeRules d 2 [(0, .ref (zad G 38)), (1, .int x1), (2, .int x2)] [] σ none res.2 := by
  intro n
  induction n with
  | zero => intro x1 x2 σ h; exact absurd h (by simp [f_X0_takeRules_2])
  | succ n ih => intro x1 x2 σ h; rw [f_X0_takeRules_2] at h; exact ok_b_X0_takeRules_2 hG N ih h
def f_X0_takeRules (N : Nat) (x1 : Int32) (σ : ZM) : Option (Unit × ZM) :=
  f_X0_takeRules_2 N N x1 (0 : Int32) σ
set_option maxRecDepth 100000 in
theorem ok_X0_takeRules {G : ZG} (hG : zSH G = shC) (N : Nat) {d : Nat} (hd : 0 ≤ d) {x1 : Int32} {σ : ZM} {res : Unit × ZM} (h : f_X0_takeRules N x1 σ = some res) : zCt G d MX0_takeRules [.ref (zad G 38), .int x1] σ none res.2 := by
  refine zct_of (by decide) (Nat.le_of_ble_eq_true rfl) (lv := [(0, .ref (zad G 38)), (1, .int x1)]) rfl ?_
  unfold f_X0_takeRules at h
  refine zf_iconst (q := 1) rfl dX0_takeRules_0 ic0 ?_
  refine zf_istore_n (q := 2) (y := (0 : Int32)) (i := 2) (lv1 := [(2, .int (0 : Int32)), (0, .ref (zad G 38)), (1, .int x1)]) rfl dX0_takeRules_1 rfl (by decide) rfl rfl ?_
  exact zf_sub [1, 2, 0] rfl (ok_X0_takeRules_2 hG N _ _ _ _ h)
-- ===== X0_rulesOf: NearCopies$Cases.rulesOf(I)I
def b_X0_rulesOf_4 (N : Nat) (rec4 : Int32 → Int32 → Int32 → ZM → Option (Int32 × ZM)) (x1 : Int32) (x2 : Int32) (x3 : Int32) (σ : ZM) : Option (Int32 × ZM) :=
  if (σ.1 38 7) ≤ x3 then
  (some (x2, σ))
  else
  ((zald σ 45 256 x3).bind fun v1 =>
  (some (x2 ||| ((1 : Int32) <<< (((v1 >>> (((2 : Int32) * x1) &&& 31)) &&& (3 : Int32)) &&& 31)))).bind fun v2 =>
  (some (x3 + (1 : Int32))).bind fun v3 =>
  rec4 x1 v2 v3 σ)
set_option maxRecDepth 100000 in
theorem ok_b_X0_rulesOf_4 {G : ZG} (hG : zSH G = shC) (N : Nat) {d : Nat} {rec4 : Int32 → Int32 → Int32 → ZM → Option (Int32 × ZM)} {res : Int32 × ZM} (hr4 : ∀ (x1 : Int32) (x2 : Int32) (x3 : Int32) (σ : ZM), rec4 x1 x2 x3 σ = some res → zF G MX0_rulesOf d 4 [(0, .ref (zad G 38)), (1, .int x1), (2, .int x2), (3, .int x3)] [] σ (some (.int res.1)) res.2) {x1 : Int32} {x2 : Int32} {x3 : Int32} {σ : ZM} (h : b_X0_rulesOf_4 N rec4 x1 x2 x3 σ = some res) : zF G MX0_rulesOf d 4 [(0, .ref (zad G 38)), (1, .int x1), (2, .int x2), (3, .int x3)] [] σ (some (.int res.1)) res.2 := by
  unfold b_X0_rulesOf_4 at h
  refine zf_iload_n 3 (q := 5) (j := 3) rfl dX0_rulesOf_4 rfl rfl ?_
  refine zf_aload_n 0 (q := 6) (j := 0) rfl dX0_rulesOf_5 rfl rfl ?_
  refine zf_getI (q := 9) rfl dX0_rulesOf_6 lf_RX0_70 (sc38 hG) rfl ?_
  refine zf_icmp_ge (q := 12) (tgt := 35) rfl (by decide) dX0_rulesOf_9 (fun hc9 => ?_) (fun hc9 => ?_)
  · replace h := (zi h).1 hc9
    refine zf_iload_n 2 (q := 36) (j := 2) rfl dX0_rulesOf_35 rfl rfl ?_
    cases h
    exact zf_ireturn dX0_rulesOf_36 rfl
  · replace h := (zi h).2 hc9
    refine zf_iload_n 2 (q := 13) (j := 2) rfl dX0_rulesOf_12 rfl rfl ?_
    refine zf_iconst (q := 14) rfl dX0_rulesOf_13 ic1 ?_
    refine zf_aload_n 0 (q := 15) (j := 0) rfl dX0_rulesOf_14 rfl rfl ?_
    refine zf_getR (q := 18) rfl dX0_rulesOf_15 lf_RX0_24 (sc38 hG) rfl ?_
    refine zf_iload_n 3 (q := 19) (j := 3) rfl dX0_rulesOf_18 rfl rfl ?_
    obtain ⟨v1, ev1, h⟩ := zb h
    refine zf_iald (q := 20) rfl dX0_rulesOf_19 (sc45 hG) ev1 ?_
    refine zf_iconst (q := 21) rfl dX0_rulesOf_20 ic2 ?_
    refine zf_iload_n 1 (q := 22) (j := 1) rfl dX0_rulesOf_21 rfl rfl ?_
    refine zf_imul (q := 23) rfl dX0_rulesOf_22 ?_
    refine zf_ishr (q := 24) rfl dX0_rulesOf_23 ?_
    refine zf_iconst (q := 25) rfl dX0_rulesOf_24 ic3 ?_
    refine zf_iand (q := 26) rfl dX0_rulesOf_25 ?_
    refine zf_ishl (q := 27) rfl dX0_rulesOf_26 ?_
    refine zf_ior (q := 28) rfl dX0_rulesOf_27 ?_
    obtain ⟨v2, ev2, h⟩ := zb h
    refine zf_istore_n (q := 29) (y := v2) (i := 2) (lv1 := [(2, .int v2), (0, .ref (zad G 38)), (1, .int x1), (3, .int x3)]) rfl dX0_rulesOf_28 rfl (by decide) ev2 rfl ?_
    obtain ⟨v3, ev3, h⟩ := zb h
    refine zf_iinc 3 (q := 32) (v := v3) (lv1 := [(3, .int v3), (2, .int v2), (0, .ref (zad G 38)), (1, .int x1)]) rfl dX0_rulesOf_29 rfl (by rw [ic1]; exact ev3) (by decide) rfl ?_
    refine zf_goto (tgt := 4) (by decide) dX0_rulesOf_32 ?_
    exact zf_sub [2, 3, 1, 0] rfl (hr4 _ _ _ _ h)
def f_X0_rulesOf_4 (N : Nat) : Nat → Int32 → Int32 → Int32 → ZM → Option (Int32 × ZM)
  | 0, _, _, _, _ => none
  | n + 1, x1, x2, x3, σ => b_X0_rulesOf_4 N (f_X0_rulesOf_4 N n) x1 x2 x3 σ
theorem ok_X0_rulesOf_4 {G : ZG} (hG : zSH G = shC) (N : Nat) {d : Nat} {res : Int32 × ZM} : ∀ (n : Nat) (x1 : Int32) (x2 : Int32) (x3 : Int32) (σ : ZM), f_X0_rulesOf_4 N n x1 x2 x3 σ = some res → zF G MX0_rulesOf d 4 [(0, .ref (zad G 38)), (1, .int x1), (2, .int x2), (3, .int x3)] [] σ (some (.int res.1)) res.2 := by
  intro n
  induction n with
  | zero => intro x1 x2 x3 σ h; exact absurd h (by simp [f_X0_rulesOf_4])
  | succ n ih => intro x1 x2 x3 σ h; rw [f_X0_rulesOf_4] at h; exact ok_b_X0_rulesOf_4 hG N ih h
def f_X0_rulesOf (N : Nat) (x1 : Int32) (σ : ZM) : Option (Int32 × ZM) :=
  f_X0_rulesOf_4 N N x1 (0 : Int32) (0 : Int32) σ
set_option maxRecDepth 100000 in
theorem ok_X0_rulesOf {G : ZG} (hG : zSH G = shC) (N : Nat) {d : Nat} (hd : 0 ≤ d) {x1 : Int32} {σ : ZM} {res : Int32 × ZM} (h : f_X0_rulesOf N x1 σ = some res) : zCt G d MX0_rulesOf [.ref (zad G 38), .int x1] σ (some (.int res.1)) res.2 := by
  refine zct_of (by decide) (Nat.le_of_ble_eq_true rfl) (lv := [(0, .ref (zad G 38)), (1, .int x1)]) rfl ?_
  unfold f_X0_rulesOf at h
  refine zf_iconst (q := 1) rfl dX0_rulesOf_0 ic0 ?_
  refine zf_istore_n (q := 2) (y := (0 : Int32)) (i := 2) (lv1 := [(2, .int (0 : Int32)), (0, .ref (zad G 38)), (1, .int x1)]) rfl dX0_rulesOf_1 rfl (by decide) rfl rfl ?_
  refine zf_iconst (q := 3) rfl dX0_rulesOf_2 ic0 ?_
  refine zf_istore_n (q := 4) (y := (0 : Int32)) (i := 3) (lv1 := [(3, .int (0 : Int32)), (2, .int (0 : Int32)), (0, .ref (zad G 38)), (1, .int x1)]) rfl dX0_rulesOf_3 rfl (by decide) rfl rfl ?_
  exact zf_sub [2, 3, 1, 0] rfl (ok_X0_rulesOf_4 hG N _ _ _ _ _ h)
-- ===== X0_sitesOf: NearCopies$Cases.sitesOf(I)I
def f_X0_sitesOf_77 (N : Nat) (rec4 : Int32 → Int32 → Int32 → ZM → Option (Int32 × ZM)) (x1 : Int32) (x3 : Int32) (y0 : Int32) (y1 : Int32) (σ : ZM) : Option (Int32 × ZM) :=
  (some (y1 ||| y0)).bind fun v1 =>
  (some (x3 + (1 : Int32))).bind fun v2 =>
  rec4 x1 v1 v2 σ
set_option maxRecDepth 100000 in
theorem ok_X0_sitesOf_77 {G : ZG} (hG : zSH G = shC) (N : Nat) {d : Nat} (hd : 3 ≤ d) {rec4 : Int32 → Int32 → Int32 → ZM → Option (Int32 × ZM)} {res : Int32 × ZM} (hr4 : ∀ (x1 : Int32) (x2 : Int32) (x3 : Int32) (σ : ZM), rec4 x1 x2 x3 σ = some res → zF G MX0_sitesOf (d + 1) 4 [(0, .ref (zad G 38)), (1, .int x1), (2, .int x2), (3, .int x3)] [] σ (some (.int res.1)) res.2) {x1 : Int32} {x3 : Int32} {y0 : Int32} {y1 : Int32} {σ : ZM} (h : f_X0_sitesOf_77 N rec4 x1 x3 y0 y1 σ = some res) : zF G MX0_sitesOf (d + 1) 77 [(0, .ref (zad G 38)), (1, .int x1), (3, .int x3)] [.int y0, .int y1] σ (some (.int res.1)) res.2 := by
  unfold f_X0_sitesOf_77 at h
  refine zf_ior (q := 78) rfl dX0_sitesOf_77 ?_
  obtain ⟨v1, ev1, h⟩ := zb h
  refine zf_istore_n (q := 79) (y := v1) (i := 2) (lv1 := [(2, .int v1), (0, .ref (zad G 38)), (1, .int x1), (3, .int x3)]) rfl dX0_sitesOf_78 rfl (by decide) ev1 rfl ?_
  obtain ⟨v2, ev2, h⟩ := zb h
  refine zf_iinc 3 (q := 82) (v := v2) (lv1 := [(3, .int v2), (2, .int v1), (0, .ref (zad G 38)), (1, .int x1)]) rfl dX0_sitesOf_79 rfl (by rw [ic1]; exact ev2) (by decide) rfl ?_
  refine zf_goto (tgt := 4) (by decide) dX0_sitesOf_82 ?_
  exact zf_sub [2, 3, 1, 0] rfl (hr4 _ _ _ _ h)
def f_X0_sitesOf_75 (N : Nat) (rec4 : Int32 → Int32 → Int32 → ZM → Option (Int32 × ZM)) (x1 : Int32) (x3 : Int32) (y0 : Int32) (σ : ZM) : Option (Int32 × ZM) :=
  f_X0_sitesOf_77 N rec4 x1 x3 (16 : Int32) y0 σ
set_option maxRecDepth 100000 in
theorem ok_X0_sitesOf_75 {G : ZG} (hG : zSH G = shC) (N : Nat) {d : Nat} (hd : 3 ≤ d) {rec4 : Int32 → Int32 → Int32 → ZM → Option (Int32 × ZM)} {res : Int32 × ZM} (hr4 : ∀ (x1 : Int32) (x2 : Int32) (x3 : Int32) (σ : ZM), rec4 x1 x2 x3 σ = some res → zF G MX0_sitesOf (d + 1) 4 [(0, .ref (zad G 38)), (1, .int x1), (2, .int x2), (3, .int x3)] [] σ (some (.int res.1)) res.2) {x1 : Int32} {x3 : Int32} {y0 : Int32} {σ : ZM} (h : f_X0_sitesOf_75 N rec4 x1 x3 y0 σ = some res) : zF G MX0_sitesOf (d + 1) 75 [(0, .ref (zad G 38)), (1, .int x1), (3, .int x3)] [.int y0] σ (some (.int res.1)) res.2 := by
  unfold f_X0_sitesOf_75 at h
  refine zf_bipush (q := 77) rfl dX0_sitesOf_75 bp16 ?_
  exact zf_sub [0, 1, 2] rfl (ok_X0_sitesOf_77 hG N hd hr4 h)
def f_X0_sitesOf_43 (N : Nat) (rec4 : Int32 → Int32 → Int32 → ZM → Option (Int32 × ZM)) (x1 : Int32) (x2 : Int32) (x3 : Int32) (y0 : Int32) (σ : ZM) : Option (Int32 × ZM) :=
  zbd (f_X2_comesTo N x1 σ) fun r3 s4 =>
  if y0 = 0 then
  (f_X0_sitesOf_75 N rec4 x1 x3 x2 s4)
  else
  (if r3 = (-9 : Int32) then
  (f_X0_sitesOf_75 N rec4 x1 x3 x2 s4)
  else
  (f_X0_sitesOf_77 N rec4 x1 x3 ((1 : Int32) <<< (r3 &&& 31)) x2 s4))
set_option maxRecDepth 100000 in
theorem ok_X0_sitesOf_43 {G : ZG} (hG : zSH G = shC) (N : Nat) {d : Nat} (hd : 3 ≤ d) {rec4 : Int32 → Int32 → Int32 → ZM → Option (Int32 × ZM)} {res : Int32 × ZM} (hr4 : ∀ (x1 : Int32) (x2 : Int32) (x3 : Int32) (σ : ZM), rec4 x1 x2 x3 σ = some res → zF G MX0_sitesOf (d + 1) 4 [(0, .ref (zad G 38)), (1, .int x1), (2, .int x2), (3, .int x3)] [] σ (some (.int res.1)) res.2) {x1 : Int32} {x2 : Int32} {x3 : Int32} {y0 : Int32} {σ : ZM} (h : f_X0_sitesOf_43 N rec4 x1 x2 x3 y0 σ = some res) : zF G MX0_sitesOf (d + 1) 43 [(0, .ref (zad G 38)), (1, .int x1), (2, .int x2), (3, .int x3)] [.int y0] σ (some (.int res.1)) res.2 := by
  unfold f_X0_sitesOf_43 at h
  refine zf_istore (q := 45) (y := y0) (i := 4) (lv1 := [(4, .int y0), (0, .ref (zad G 38)), (1, .int x1), (2, .int x2), (3, .int x3)]) rfl dX0_sitesOf_43 (by decide) rfl rfl ?_
  refine zf_aload_n 1 (q := 46) (j := 0) rfl dX0_sitesOf_45 rfl rfl ?_
  refine zf_getR (q := 49) rfl dX0_sitesOf_46 lf_RX0_45 (sc38 hG) rfl ?_
  refine zf_iload_n 2 (q := 50) (j := 1) rfl dX0_sitesOf_49 rfl rfl ?_
  obtain ⟨r3, s4, es4, h⟩ := zc h
  refine zf_callV (q := 53) (As := [.int x1]) (rest := []) (st1 := [.int r3]) rfl dX0_sitesOf_50 lv_RX0_130 (sc17 hG) rfl rfl (Nat.le_of_ble_eq_true rfl) (ok_X2_comesTo hG N (Nat.le_trans (by decide) hd) es4) rfl ?_
  refine zf_istore (q := 55) (y := r3) (i := 5) (lv1 := [(5, .int r3), (4, .int y0), (0, .ref (zad G 38)), (1, .int x1), (2, .int x2), (3, .int x3)]) rfl dX0_sitesOf_53 (by decide) rfl rfl ?_
  refine zf_iload_n 4 (q := 56) (j := 2) rfl dX0_sitesOf_55 rfl rfl ?_
  refine zf_iload 1 (q := 58) rfl dX0_sitesOf_56 rfl ?_
  refine zf_if_eq (q := 61) (tgt := 75) rfl (by decide) dX0_sitesOf_58 (fun hc58 => ?_) (fun hc58 => ?_)
  · replace h := (zi h).1 hc58
    exact zf_sub [2, 3, 5] rfl (ok_X0_sitesOf_75 hG N hd hr4 h)
  · replace h := (zi h).2 hc58
    refine zf_iload 0 (q := 63) rfl dX0_sitesOf_61 rfl ?_
    refine zf_bipush (q := 65) rfl dX0_sitesOf_63 bpm9 ?_
    refine zf_icmp_eq (q := 68) (tgt := 75) rfl (by decide) dX0_sitesOf_65 (fun hc65 => ?_) (fun hc65 => ?_)
    · replace h := (zi h).1 hc65
      exact zf_sub [2, 3, 5] rfl (ok_X0_sitesOf_75 hG N hd hr4 h)
    · replace h := (zi h).2 hc65
      refine zf_iconst (q := 69) rfl dX0_sitesOf_68 ic1 ?_
      refine zf_iload 0 (q := 71) rfl dX0_sitesOf_69 rfl ?_
      refine zf_ishl (q := 72) rfl dX0_sitesOf_71 ?_
      refine zf_goto (tgt := 77) (by decide) dX0_sitesOf_72 ?_
      exact zf_sub [2, 3, 5] rfl (ok_X0_sitesOf_77 hG N hd hr4 h)
def b_X0_sitesOf_4 (N : Nat) (rec4 : Int32 → Int32 → Int32 → ZM → Option (Int32 × ZM)) (x1 : Int32) (x2 : Int32) (x3 : Int32) (σ : ZM) : Option (Int32 × ZM) :=
  if (σ.1 38 7) ≤ x3 then
  (some (x2, σ))
  else
  ((zald σ 45 256 x3).bind fun v5 =>
  zbd (f_X0_takeRules N v5 σ) fun r6 s7 =>
  zbd (f_X2_settle N 12 s7) fun r8 s9 =>
  if r8 = (-9 : Int32) then
  (f_X0_sitesOf_43 N rec4 x1 x2 x3 (0 : Int32) s9)
  else
  (f_X0_sitesOf_43 N rec4 x1 x2 x3 (1 : Int32) s9))
set_option maxRecDepth 100000 in
theorem ok_b_X0_sitesOf_4 {G : ZG} (hG : zSH G = shC) (N : Nat) {d : Nat} (hd : 3 ≤ d) {rec4 : Int32 → Int32 → Int32 → ZM → Option (Int32 × ZM)} {res : Int32 × ZM} (hr4 : ∀ (x1 : Int32) (x2 : Int32) (x3 : Int32) (σ : ZM), rec4 x1 x2 x3 σ = some res → zF G MX0_sitesOf (d + 1) 4 [(0, .ref (zad G 38)), (1, .int x1), (2, .int x2), (3, .int x3)] [] σ (some (.int res.1)) res.2) {x1 : Int32} {x2 : Int32} {x3 : Int32} {σ : ZM} (h : b_X0_sitesOf_4 N rec4 x1 x2 x3 σ = some res) : zF G MX0_sitesOf (d + 1) 4 [(0, .ref (zad G 38)), (1, .int x1), (2, .int x2), (3, .int x3)] [] σ (some (.int res.1)) res.2 := by
  unfold b_X0_sitesOf_4 at h
  refine zf_iload_n 3 (q := 5) (j := 3) rfl dX0_sitesOf_4 rfl rfl ?_
  refine zf_aload_n 0 (q := 6) (j := 0) rfl dX0_sitesOf_5 rfl rfl ?_
  refine zf_getI (q := 9) rfl dX0_sitesOf_6 lf_RX0_70 (sc38 hG) rfl ?_
  refine zf_icmp_ge (q := 12) (tgt := 85) rfl (by decide) dX0_sitesOf_9 (fun hc9 => ?_) (fun hc9 => ?_)
  · replace h := (zi h).1 hc9
    refine zf_iload_n 2 (q := 86) (j := 2) rfl dX0_sitesOf_85 rfl rfl ?_
    cases h
    exact zf_ireturn dX0_sitesOf_86 rfl
  · replace h := (zi h).2 hc9
    refine zf_aload_n 0 (q := 13) (j := 0) rfl dX0_sitesOf_12 rfl rfl ?_
    refine zf_aload_n 0 (q := 14) (j := 0) rfl dX0_sitesOf_13 rfl rfl ?_
    refine zf_getR (q := 17) rfl dX0_sitesOf_14 lf_RX0_24 (sc38 hG) rfl ?_
    refine zf_iload_n 3 (q := 18) (j := 3) rfl dX0_sitesOf_17 rfl rfl ?_
    obtain ⟨v5, ev5, h⟩ := zb h
    refine zf_iald (q := 19) rfl dX0_sitesOf_18 (sc45 hG) ev5 ?_
    obtain ⟨r6, s7, es7, h⟩ := zc h
    refine zf_callV (q := 22) (As := [.int v5]) (rest := []) (st1 := []) rfl dX0_sitesOf_19 lv_RX0_126 (sc38 hG) rfl rfl (Nat.le_of_ble_eq_true rfl) (ok_X0_takeRules hG N (Nat.le_trans (by decide) hd) es7) rfl ?_
    refine zf_aload_n 0 (q := 23) (j := 0) rfl dX0_sitesOf_22 rfl rfl ?_
    refine zf_getR (q := 26) rfl dX0_sitesOf_23 lf_RX0_45 (sc38 hG) rfl ?_
    refine zf_aload_n 0 (q := 27) (j := 0) rfl dX0_sitesOf_26 rfl rfl ?_
    refine zf_getR (q := 30) rfl dX0_sitesOf_27 lf_RX0_42 (sc38 hG) rfl ?_
    obtain ⟨r8, s9, es9, h⟩ := zc h
    refine zf_callV (q := 33) (As := [.ref (zad G 12)]) (rest := []) (st1 := [.int r8]) rfl dX0_sitesOf_30 lv_RX0_118 (sc17 hG) rfl rfl (Nat.le_of_ble_eq_true rfl) (ok_X2_settle hG N (Nat.le_trans (by decide) hd) (wd12 hG) es9) rfl ?_
    refine zf_bipush (q := 35) rfl dX0_sitesOf_33 bpm9 ?_
    refine zf_icmp_eq (q := 38) (tgt := 42) rfl (by decide) dX0_sitesOf_35 (fun hc35 => ?_) (fun hc35 => ?_)
    · replace h := (zi h).1 hc35
      refine zf_iconst (q := 43) rfl dX0_sitesOf_42 ic0 ?_
      exact zf_sub [0, 1, 2, 3] rfl (ok_X0_sitesOf_43 hG N hd hr4 h)
    · replace h := (zi h).2 hc35
      refine zf_iconst (q := 39) rfl dX0_sitesOf_38 ic1 ?_
      refine zf_goto (tgt := 43) (by decide) dX0_sitesOf_39 ?_
      exact zf_sub [0, 1, 2, 3] rfl (ok_X0_sitesOf_43 hG N hd hr4 h)
def f_X0_sitesOf_4 (N : Nat) : Nat → Int32 → Int32 → Int32 → ZM → Option (Int32 × ZM)
  | 0, _, _, _, _ => none
  | n + 1, x1, x2, x3, σ => b_X0_sitesOf_4 N (f_X0_sitesOf_4 N n) x1 x2 x3 σ
theorem ok_X0_sitesOf_4 {G : ZG} (hG : zSH G = shC) (N : Nat) {d : Nat} (hd : 3 ≤ d) {res : Int32 × ZM} : ∀ (n : Nat) (x1 : Int32) (x2 : Int32) (x3 : Int32) (σ : ZM), f_X0_sitesOf_4 N n x1 x2 x3 σ = some res → zF G MX0_sitesOf (d + 1) 4 [(0, .ref (zad G 38)), (1, .int x1), (2, .int x2), (3, .int x3)] [] σ (some (.int res.1)) res.2 := by
  intro n
  induction n with
  | zero => intro x1 x2 x3 σ h; exact absurd h (by simp [f_X0_sitesOf_4])
  | succ n ih => intro x1 x2 x3 σ h; rw [f_X0_sitesOf_4] at h; exact ok_b_X0_sitesOf_4 hG N hd ih h
def f_X0_sitesOf (N : Nat) (x1 : Int32) (σ : ZM) : Option (Int32 × ZM) :=
  f_X0_sitesOf_4 N N x1 (0 : Int32) (0 : Int32) σ
set_option maxRecDepth 100000 in
theorem ok_X0_sitesOf {G : ZG} (hG : zSH G = shC) (N : Nat) {d : Nat} (hd : 4 ≤ d) {x1 : Int32} {σ : ZM} {res : Int32 × ZM} (h : f_X0_sitesOf N x1 σ = some res) : zCt G d MX0_sitesOf [.ref (zad G 38), .int x1] σ (some (.int res.1)) res.2 := by
  obtain ⟨d, rfl⟩ : ∃ k, d = k + 1 := ⟨d - 1, by omega⟩
  have hd : 3 ≤ d := by omega
  refine zct_of (by decide) (Nat.le_of_ble_eq_true rfl) (lv := [(0, .ref (zad G 38)), (1, .int x1)]) rfl ?_
  unfold f_X0_sitesOf at h
  refine zf_iconst (q := 1) rfl dX0_sitesOf_0 ic0 ?_
  refine zf_istore_n (q := 2) (y := (0 : Int32)) (i := 2) (lv1 := [(2, .int (0 : Int32)), (0, .ref (zad G 38)), (1, .int x1)]) rfl dX0_sitesOf_1 rfl (by decide) rfl rfl ?_
  refine zf_iconst (q := 3) rfl dX0_sitesOf_2 ic0 ?_
  refine zf_istore_n (q := 4) (y := (0 : Int32)) (i := 3) (lv1 := [(3, .int (0 : Int32)), (2, .int (0 : Int32)), (0, .ref (zad G 38)), (1, .int x1)]) rfl dX0_sitesOf_3 rfl (by decide) rfl rfl ?_
  exact zf_sub [2, 3, 1, 0] rfl (ok_X0_sitesOf_4 hG N hd _ _ _ _ _ h)
-- ===== X2_outcome: NearCopies$Flow.outcome()I
def b_X2_outcome_4 (N : Nat) (rec4 : Int32 → Int32 → ZM → Option (Int32 × ZM)) (x1 : Int32) (x2 : Int32) (σ : ZM) : Option (Int32 × ZM) :=
  if (σ.1 1 0) ≤ x2 then
  (some (x1, σ))
  else
  ((zalJ σ 19 10 x2).bind fun v1 =>
  zbd (f_X2_siteOf N v1 σ) fun r2 s3 =>
  (some (x1 ||| ((r2 + (1 : Int32)) <<< (((3 : Int32) * x2) &&& 31)))).bind fun v4 =>
  (some (x2 + (1 : Int32))).bind fun v5 =>
  rec4 v4 v5 s3)
set_option maxRecDepth 100000 in
theorem ok_b_X2_outcome_4 {G : ZG} (hG : zSH G = shC) (N : Nat) {d : Nat} (hd : 0 ≤ d) {rec4 : Int32 → Int32 → ZM → Option (Int32 × ZM)} {res : Int32 × ZM} (hr4 : ∀ (x1 : Int32) (x2 : Int32) (σ : ZM), rec4 x1 x2 σ = some res → zF G MX2_outcome (d + 1) 4 [(0, .ref (zad G 17)), (1, .int x1), (2, .int x2)] [] σ (some (.int res.1)) res.2) {x1 : Int32} {x2 : Int32} {σ : ZM} (h : b_X2_outcome_4 N rec4 x1 x2 σ = some res) : zF G MX2_outcome (d + 1) 4 [(0, .ref (zad G 17)), (1, .int x1), (2, .int x2)] [] σ (some (.int res.1)) res.2 := by
  unfold b_X2_outcome_4 at h
  refine zf_iload_n 2 (q := 5) (j := 2) rfl dX2_outcome_4 rfl rfl ?_
  refine zf_aload_n 0 (q := 6) (j := 0) rfl dX2_outcome_5 rfl rfl ?_
  refine zf_getR (q := 9) rfl dX2_outcome_6 lf_RX2_28 (sc17 hG) rfl ?_
  refine zf_getI (q := 12) rfl dX2_outcome_9 lf_RX2_44 (sc1 hG) rfl ?_
  refine zf_icmp_ge (q := 15) (tgt := 39) rfl (by decide) dX2_outcome_12 (fun hc12 => ?_) (fun hc12 => ?_)
  · replace h := (zi h).1 hc12
    refine zf_iload_n 1 (q := 40) (j := 1) rfl dX2_outcome_39 rfl rfl ?_
    cases h
    exact zf_ireturn dX2_outcome_40 rfl
  · replace h := (zi h).2 hc12
    refine zf_iload_n 1 (q := 16) (j := 1) rfl dX2_outcome_15 rfl rfl ?_
    refine zf_aload_n 0 (q := 17) (j := 0) rfl dX2_outcome_16 rfl rfl ?_
    refine zf_getR (q := 20) rfl dX2_outcome_17 lf_RX2_15 (sc17 hG) rfl ?_
    refine zf_iload_n 2 (q := 21) (j := 2) rfl dX2_outcome_20 rfl rfl ?_
    obtain ⟨v1, ev1, h⟩ := zb h
    refine zf_lald (q := 22) rfl dX2_outcome_21 (sc19 hG) ev1 ?_
    obtain ⟨r2, s3, es3, h⟩ := zc h
    refine zf_callS (q := 25) (As := [.long v1]) (rest := [.int x1]) (st1 := [.int r2, .int x1]) rfl dX2_outcome_22 ls_RX2_112 rfl rfl (Nat.le_of_ble_eq_true rfl) (ok_X2_siteOf hG N (Nat.le_trans (by decide) hd) es3) rfl ?_
    refine zf_iconst (q := 26) rfl dX2_outcome_25 ic1 ?_
    refine zf_iadd (q := 27) rfl dX2_outcome_26 ?_
    refine zf_iconst (q := 28) rfl dX2_outcome_27 ic3 ?_
    refine zf_iload_n 2 (q := 29) (j := 2) rfl dX2_outcome_28 rfl rfl ?_
    refine zf_imul (q := 30) rfl dX2_outcome_29 ?_
    refine zf_ishl (q := 31) rfl dX2_outcome_30 ?_
    refine zf_ior (q := 32) rfl dX2_outcome_31 ?_
    obtain ⟨v4, ev4, h⟩ := zb h
    refine zf_istore_n (q := 33) (y := v4) (i := 1) (lv1 := [(1, .int v4), (0, .ref (zad G 17)), (2, .int x2)]) rfl dX2_outcome_32 rfl (by decide) ev4 rfl ?_
    obtain ⟨v5, ev5, h⟩ := zb h
    refine zf_iinc 2 (q := 36) (v := v5) (lv1 := [(2, .int v5), (1, .int v4), (0, .ref (zad G 17))]) rfl dX2_outcome_33 rfl (by rw [ic1]; exact ev5) (by decide) rfl ?_
    refine zf_goto (tgt := 4) (by decide) dX2_outcome_36 ?_
    exact zf_sub [2, 1, 0] rfl (hr4 _ _ _ h)
def f_X2_outcome_4 (N : Nat) : Nat → Int32 → Int32 → ZM → Option (Int32 × ZM)
  | 0, _, _, _ => none
  | n + 1, x1, x2, σ => b_X2_outcome_4 N (f_X2_outcome_4 N n) x1 x2 σ
theorem ok_X2_outcome_4 {G : ZG} (hG : zSH G = shC) (N : Nat) {d : Nat} (hd : 0 ≤ d) {res : Int32 × ZM} : ∀ (n : Nat) (x1 : Int32) (x2 : Int32) (σ : ZM), f_X2_outcome_4 N n x1 x2 σ = some res → zF G MX2_outcome (d + 1) 4 [(0, .ref (zad G 17)), (1, .int x1), (2, .int x2)] [] σ (some (.int res.1)) res.2 := by
  intro n
  induction n with
  | zero => intro x1 x2 σ h; exact absurd h (by simp [f_X2_outcome_4])
  | succ n ih => intro x1 x2 σ h; rw [f_X2_outcome_4] at h; exact ok_b_X2_outcome_4 hG N hd ih h
def f_X2_outcome (N : Nat) (σ : ZM) : Option (Int32 × ZM) :=
  f_X2_outcome_4 N N (0 : Int32) (0 : Int32) σ
set_option maxRecDepth 100000 in
theorem ok_X2_outcome {G : ZG} (hG : zSH G = shC) (N : Nat) {d : Nat} (hd : 1 ≤ d) {σ : ZM} {res : Int32 × ZM} (h : f_X2_outcome N σ = some res) : zCt G d MX2_outcome [.ref (zad G 17)] σ (some (.int res.1)) res.2 := by
  obtain ⟨d, rfl⟩ : ∃ k, d = k + 1 := ⟨d - 1, by omega⟩
  have hd : 0 ≤ d := by omega
  refine zct_of (by decide) (Nat.le_of_ble_eq_true rfl) (lv := [(0, .ref (zad G 17))]) rfl ?_
  unfold f_X2_outcome at h
  refine zf_iconst (q := 1) rfl dX2_outcome_0 ic0 ?_
  refine zf_istore_n (q := 2) (y := (0 : Int32)) (i := 1) (lv1 := [(1, .int (0 : Int32)), (0, .ref (zad G 17))]) rfl dX2_outcome_1 rfl (by decide) rfl rfl ?_
  refine zf_iconst (q := 3) rfl dX2_outcome_2 ic0 ?_
  refine zf_istore_n (q := 4) (y := (0 : Int32)) (i := 2) (lv1 := [(2, .int (0 : Int32)), (1, .int (0 : Int32)), (0, .ref (zad G 17))]) rfl dX2_outcome_3 rfl (by decide) rfl rfl ?_
  exact zf_sub [2, 1, 0] rfl (ok_X2_outcome_4 hG N hd _ _ _ _ h)
-- ===== X0_countAlike: NearCopies$Cases.countAlike(I)I
def b_X0_countAlike_2 (N : Nat) (rec2 : Int32 → Int32 → ZM → Option (Int32 × ZM)) (x1 : Int32) (x2 : Int32) (σ : ZM) : Option (Int32 × ZM) :=
  if (σ.1 38 11) ≤ x2 then
  ((zast σ 46 256 (σ.1 38 11) x1).bind fun s1 =>
  (zast s1 47 256 (s1.1 38 11) (1 : Int32)).bind fun s2 =>
  (zpI s2 38 11 ((s2.1 38 11) + (1 : Int32))).bind fun s3 =>
  some ((1 : Int32), s3))
  else
  ((zald σ 46 256 x2).bind fun v4 =>
  if v4 = x1 then
  ((zald σ 47 256 x2).bind fun v6 =>
  (zast σ 47 256 x2 (v6 + (1 : Int32))).bind fun s7 =>
  (zald s7 47 256 x2).bind fun v8 =>
  some (v8, s7))
  else
  ((some (x2 + (1 : Int32))).bind fun v5 =>
  rec2 x1 v5 σ))
set_option maxRecDepth 100000 in
theorem ok_b_X0_countAlike_2 {G : ZG} (hG : zSH G = shC) (N : Nat) {d : Nat} {rec2 : Int32 → Int32 → ZM → Option (Int32 × ZM)} {res : Int32 × ZM} (hr2 : ∀ (x1 : Int32) (x2 : Int32) (σ : ZM), rec2 x1 x2 σ = some res → zF G MX0_countAlike d 2 [(0, .ref (zad G 38)), (1, .int x1), (2, .int x2)] [] σ (some (.int res.1)) res.2) {x1 : Int32} {x2 : Int32} {σ : ZM} (h : b_X0_countAlike_2 N rec2 x1 x2 σ = some res) : zF G MX0_countAlike d 2 [(0, .ref (zad G 38)), (1, .int x1), (2, .int x2)] [] σ (some (.int res.1)) res.2 := by
  unfold b_X0_countAlike_2 at h
  refine zf_iload_n 2 (q := 3) (j := 2) rfl dX0_countAlike_2 rfl rfl ?_
  refine zf_aload_n 0 (q := 4) (j := 0) rfl dX0_countAlike_3 rfl rfl ?_
  refine zf_getI (q := 7) rfl dX0_countAlike_4 lf_RX0_153 (sc38 hG) rfl ?_
  refine zf_icmp_ge (q := 10) (tgt := 43) rfl (by decide) dX0_countAlike_7 (fun hc7 => ?_) (fun hc7 => ?_)
  · replace h := (zi h).1 hc7
    refine zf_aload_n 0 (q := 44) (j := 0) rfl dX0_countAlike_43 rfl rfl ?_
    refine zf_getR (q := 47) rfl dX0_countAlike_44 lf_RX0_28 (sc38 hG) rfl ?_
    refine zf_aload_n 0 (q := 48) (j := 0) rfl dX0_countAlike_47 rfl rfl ?_
    refine zf_getI (q := 51) rfl dX0_countAlike_48 lf_RX0_153 (sc38 hG) rfl ?_
    refine zf_iload_n 1 (q := 52) (j := 1) rfl dX0_countAlike_51 rfl rfl ?_
    obtain ⟨s1, es1, h⟩ := zb h
    refine zf_iast (q := 53) rfl dX0_countAlike_52 (sc46 hG) es1 ?_
    refine zf_aload_n 0 (q := 54) (j := 0) rfl dX0_countAlike_53 rfl rfl ?_
    refine zf_getR (q := 57) rfl dX0_countAlike_54 lf_RX0_31 (sc38 hG) rfl ?_
    refine zf_aload_n 0 (q := 58) (j := 0) rfl dX0_countAlike_57 rfl rfl ?_
    refine zf_getI (q := 61) rfl dX0_countAlike_58 lf_RX0_153 (sc38 hG) rfl ?_
    refine zf_iconst (q := 62) rfl dX0_countAlike_61 ic1 ?_
    obtain ⟨s2, es2, h⟩ := zb h
    refine zf_iast (q := 63) rfl dX0_countAlike_62 (sc47 hG) es2 ?_
    refine zf_aload_n 0 (q := 64) (j := 0) rfl dX0_countAlike_63 rfl rfl ?_
    refine zf_dup (q := 65) rfl dX0_countAlike_64 rfl ?_
    refine zf_getI (q := 68) rfl dX0_countAlike_65 lf_RX0_153 (sc38 hG) rfl ?_
    refine zf_iconst (q := 69) rfl dX0_countAlike_68 ic1 ?_
    refine zf_iadd (q := 70) rfl dX0_countAlike_69 ?_
    obtain ⟨s3, es3, h⟩ := zb h
    refine zf_putI (q := 73) rfl dX0_countAlike_70 lp_RX0_153 (sc38 hG) rfl es3 ?_
    refine zf_iconst (q := 74) rfl dX0_countAlike_73 ic1 ?_
    cases h
    exact zf_ireturn dX0_countAlike_74 rfl
  · replace h := (zi h).2 hc7
    refine zf_aload_n 0 (q := 11) (j := 0) rfl dX0_countAlike_10 rfl rfl ?_
    refine zf_getR (q := 14) rfl dX0_countAlike_11 lf_RX0_28 (sc38 hG) rfl ?_
    refine zf_iload_n 2 (q := 15) (j := 2) rfl dX0_countAlike_14 rfl rfl ?_
    obtain ⟨v4, ev4, h⟩ := zb h
    refine zf_iald (q := 16) rfl dX0_countAlike_15 (sc46 hG) ev4 ?_
    refine zf_iload_n 1 (q := 17) (j := 1) rfl dX0_countAlike_16 rfl rfl ?_
    refine zf_icmp_ne (q := 20) (tgt := 37) rfl (by decide) dX0_countAlike_17 (fun hc17 => ?_) (fun hc17 => ?_)
    · replace h := (zi h).2 hc17
      obtain ⟨v5, ev5, h⟩ := zb h
      refine zf_iinc 2 (q := 40) (v := v5) (lv1 := [(2, .int v5), (0, .ref (zad G 38)), (1, .int x1)]) rfl dX0_countAlike_37 rfl (by rw [ic1]; exact ev5) (by decide) rfl ?_
      refine zf_goto (tgt := 2) (by decide) dX0_countAlike_40 ?_
      exact zf_sub [1, 2, 0] rfl (hr2 _ _ _ h)
    · replace h := (zi h).1 hc17
      refine zf_aload_n 0 (q := 21) (j := 0) rfl dX0_countAlike_20 rfl rfl ?_
      refine zf_getR (q := 24) rfl dX0_countAlike_21 lf_RX0_31 (sc38 hG) rfl ?_
      refine zf_iload_n 2 (q := 25) (j := 2) rfl dX0_countAlike_24 rfl rfl ?_
      refine zf_dup2 (q := 26) rfl dX0_countAlike_25 rfl rfl ?_
      obtain ⟨v6, ev6, h⟩ := zb h
      refine zf_iald (q := 27) rfl dX0_countAlike_26 (sc47 hG) ev6 ?_
      refine zf_iconst (q := 28) rfl dX0_countAlike_27 ic1 ?_
      refine zf_iadd (q := 29) rfl dX0_countAlike_28 ?_
      obtain ⟨s7, es7, h⟩ := zb h
      refine zf_iast (q := 30) rfl dX0_countAlike_29 (sc47 hG) es7 ?_
      refine zf_aload_n 0 (q := 31) (j := 0) rfl dX0_countAlike_30 rfl rfl ?_
      refine zf_getR (q := 34) rfl dX0_countAlike_31 lf_RX0_31 (sc38 hG) rfl ?_
      refine zf_iload_n 2 (q := 35) (j := 2) rfl dX0_countAlike_34 rfl rfl ?_
      obtain ⟨v8, ev8, h⟩ := zb h
      refine zf_iald (q := 36) rfl dX0_countAlike_35 (sc47 hG) ev8 ?_
      cases h
      exact zf_ireturn dX0_countAlike_36 rfl
def f_X0_countAlike_2 (N : Nat) : Nat → Int32 → Int32 → ZM → Option (Int32 × ZM)
  | 0, _, _, _ => none
  | n + 1, x1, x2, σ => b_X0_countAlike_2 N (f_X0_countAlike_2 N n) x1 x2 σ
theorem ok_X0_countAlike_2 {G : ZG} (hG : zSH G = shC) (N : Nat) {d : Nat} {res : Int32 × ZM} : ∀ (n : Nat) (x1 : Int32) (x2 : Int32) (σ : ZM), f_X0_countAlike_2 N n x1 x2 σ = some res → zF G MX0_countAlike d 2 [(0, .ref (zad G 38)), (1, .int x1), (2, .int x2)] [] σ (some (.int res.1)) res.2 := by
  intro n
  induction n with
  | zero => intro x1 x2 σ h; exact absurd h (by simp [f_X0_countAlike_2])
  | succ n ih => intro x1 x2 σ h; rw [f_X0_countAlike_2] at h; exact ok_b_X0_countAlike_2 hG N ih h
def f_X0_countAlike (N : Nat) (x1 : Int32) (σ : ZM) : Option (Int32 × ZM) :=
  f_X0_countAlike_2 N N x1 (0 : Int32) σ
set_option maxRecDepth 100000 in
theorem ok_X0_countAlike {G : ZG} (hG : zSH G = shC) (N : Nat) {d : Nat} (hd : 0 ≤ d) {x1 : Int32} {σ : ZM} {res : Int32 × ZM} (h : f_X0_countAlike N x1 σ = some res) : zCt G d MX0_countAlike [.ref (zad G 38), .int x1] σ (some (.int res.1)) res.2 := by
  refine zct_of (by decide) (Nat.le_of_ble_eq_true rfl) (lv := [(0, .ref (zad G 38)), (1, .int x1)]) rfl ?_
  unfold f_X0_countAlike at h
  refine zf_iconst (q := 1) rfl dX0_countAlike_0 ic0 ?_
  refine zf_istore_n (q := 2) (y := (0 : Int32)) (i := 2) (lv1 := [(2, .int (0 : Int32)), (0, .ref (zad G 38)), (1, .int x1)]) rfl dX0_countAlike_1 rfl (by decide) rfl rfl ?_
  exact zf_sub [1, 2, 0] rfl (ok_X0_countAlike_2 hG N _ _ _ _ h)
-- ===== X0_greatestAlike: NearCopies$Cases.greatestAlike(II)I
def f_X0_greatestAlike_105 (N : Nat) (x3 : Int32) (σ : ZM) : Option (Int32 × ZM) :=
  some (x3, σ)
set_option maxRecDepth 100000 in
theorem ok_X0_greatestAlike_105 {G : ZG} (hG : zSH G = shC) (N : Nat) {d : Nat} (hd : 3 ≤ d) {res : Int32 × ZM} {x3 : Int32} {σ : ZM} (h : f_X0_greatestAlike_105 N x3 σ = some res) : zF G MX0_greatestAlike (d + 1) 105 [(3, .int x3)] [] σ (some (.int res.1)) res.2 := by
  unfold f_X0_greatestAlike_105 at h
  refine zf_iload_n 0 (q := 106) (j := 3) rfl dX0_greatestAlike_105 rfl rfl ?_
  cases h
  exact zf_ireturn dX0_greatestAlike_106 rfl
def f_X0_greatestAlike_86 (N : Nat) (rec31 : Int32 → Int32 → ZM → Option (Int32 × ZM)) (x3 : Int32) (x4 : Int32) (y0 : Int32) (σ : ZM) : Option (Int32 × ZM) :=
  zbd (f_X0_countAlike N y0 σ) fun r1 s2 =>
  (some (zmax x3 r1)).bind fun v3 =>
  (some (x4 + (1 : Int32))).bind fun v4 =>
  rec31 v3 v4 s2
set_option maxRecDepth 100000 in
theorem ok_X0_greatestAlike_86 {G : ZG} (hG : zSH G = shC) (N : Nat) {d : Nat} (hd : 3 ≤ d) {rec31 : Int32 → Int32 → ZM → Option (Int32 × ZM)} {res : Int32 × ZM} (hr31 : ∀ (x3 : Int32) (x4 : Int32) (σ : ZM), rec31 x3 x4 σ = some res → zF G MX0_greatestAlike (d + 1) 31 [(0, .ref (zad G 38)), (3, .int x3), (4, .int x4)] [] σ (some (.int res.1)) res.2) {x3 : Int32} {x4 : Int32} {y0 : Int32} {σ : ZM} (h : f_X0_greatestAlike_86 N rec31 x3 x4 y0 σ = some res) : zF G MX0_greatestAlike (d + 1) 86 [(0, .ref (zad G 38)), (3, .int x3), (4, .int x4)] [.int y0] σ (some (.int res.1)) res.2 := by
  unfold f_X0_greatestAlike_86 at h
  refine zf_istore (q := 88) (y := y0) (i := 5) (lv1 := [(5, .int y0), (0, .ref (zad G 38)), (3, .int x3), (4, .int x4)]) rfl dX0_greatestAlike_86 (by decide) rfl rfl ?_
  refine zf_iload_n 2 (q := 89) (j := 3) rfl dX0_greatestAlike_88 rfl rfl ?_
  refine zf_aload_n 1 (q := 90) (j := 0) rfl dX0_greatestAlike_89 rfl rfl ?_
  refine zf_iload 0 (q := 92) rfl dX0_greatestAlike_90 rfl ?_
  obtain ⟨r1, s2, es2, h⟩ := zc h
  refine zf_callV (q := 95) (As := [.int y0]) (rest := [.int x3]) (st1 := [.int r1, .int x3]) rfl dX0_greatestAlike_92 lv_RX0_159 (sc38 hG) rfl rfl (Nat.le_of_ble_eq_true rfl) (ok_X0_countAlike hG N (Nat.le_trans (by decide) hd) es2) rfl ?_
  refine zf_mmax (q := 98) rfl dX0_greatestAlike_95 mm_RX0_87 mm_max1 mm_0 mm_max2 (Nat.le_of_ble_eq_true rfl) ?_
  obtain ⟨v3, ev3, h⟩ := zb h
  refine zf_istore_n (q := 99) (y := v3) (i := 3) (lv1 := [(3, .int v3), (5, .int y0), (0, .ref (zad G 38)), (4, .int x4)]) rfl dX0_greatestAlike_98 rfl (by decide) ev3 rfl ?_
  obtain ⟨v4, ev4, h⟩ := zb h
  refine zf_iinc 3 (q := 102) (v := v4) (lv1 := [(4, .int v4), (3, .int v3), (5, .int y0), (0, .ref (zad G 38))]) rfl dX0_greatestAlike_99 rfl (by rw [ic1]; exact ev4) (by decide) rfl ?_
  refine zf_goto (tgt := 31) (by decide) dX0_greatestAlike_102 ?_
  exact zf_sub [3, 1, 0] rfl (hr31 _ _ _ h)
def b_X0_greatestAlike_31 (N : Nat) (rec31 : Int32 → Int32 → ZM → Option (Int32 × ZM)) (x3 : Int32) (x4 : Int32) (σ : ZM) : Option (Int32 × ZM) :=
  if (σ.1 38 7) ≤ x4 then
  (f_X0_greatestAlike_105 N x3 σ)
  else
  (if (σ.1 38 14) ≤ x3 then
  (f_X0_greatestAlike_105 N x3 σ)
  else
  ((zald σ 45 256 x4).bind fun v5 =>
  zbd (f_X0_takeRules N v5 σ) fun r6 s7 =>
  zbd (f_X2_settle N 39 s7) fun r8 s9 =>
  if r8 = (-9 : Int32) then
  (f_X0_greatestAlike_86 N rec31 x3 x4 (-1 : Int32) s9)
  else
  (zbd (f_X2_outcome N s9) fun r10 s11 =>
  f_X0_greatestAlike_86 N rec31 x3 x4 r10 s11)))
set_option maxRecDepth 100000 in
theorem ok_b_X0_greatestAlike_31 {G : ZG} (hG : zSH G = shC) (N : Nat) {d : Nat} (hd : 3 ≤ d) {rec31 : Int32 → Int32 → ZM → Option (Int32 × ZM)} {res : Int32 × ZM} (hr31 : ∀ (x3 : Int32) (x4 : Int32) (σ : ZM), rec31 x3 x4 σ = some res → zF G MX0_greatestAlike (d + 1) 31 [(0, .ref (zad G 38)), (3, .int x3), (4, .int x4)] [] σ (some (.int res.1)) res.2) {x3 : Int32} {x4 : Int32} {σ : ZM} (h : b_X0_greatestAlike_31 N rec31 x3 x4 σ = some res) : zF G MX0_greatestAlike (d + 1) 31 [(0, .ref (zad G 38)), (3, .int x3), (4, .int x4)] [] σ (some (.int res.1)) res.2 := by
  unfold b_X0_greatestAlike_31 at h
  refine zf_iload 2 (q := 33) rfl dX0_greatestAlike_31 rfl ?_
  refine zf_aload_n 0 (q := 34) (j := 0) rfl dX0_greatestAlike_33 rfl rfl ?_
  refine zf_getI (q := 37) rfl dX0_greatestAlike_34 lf_RX0_70 (sc38 hG) rfl ?_
  refine zf_icmp_ge (q := 40) (tgt := 105) rfl (by decide) dX0_greatestAlike_37 (fun hc37 => ?_) (fun hc37 => ?_)
  · replace h := (zi h).1 hc37
    exact zf_sub [1] rfl (ok_X0_greatestAlike_105 hG N hd h)
  · replace h := (zi h).2 hc37
    refine zf_iload_n 1 (q := 41) (j := 3) rfl dX0_greatestAlike_40 rfl rfl ?_
    refine zf_aload_n 0 (q := 42) (j := 0) rfl dX0_greatestAlike_41 rfl rfl ?_
    refine zf_getI (q := 45) rfl dX0_greatestAlike_42 lf_RX0_133 (sc38 hG) rfl ?_
    refine zf_icmp_ge (q := 48) (tgt := 105) rfl (by decide) dX0_greatestAlike_45 (fun hc45 => ?_) (fun hc45 => ?_)
    · replace h := (zi h).1 hc45
      exact zf_sub [1] rfl (ok_X0_greatestAlike_105 hG N hd h)
    · replace h := (zi h).2 hc45
      refine zf_aload_n 0 (q := 49) (j := 0) rfl dX0_greatestAlike_48 rfl rfl ?_
      refine zf_aload_n 0 (q := 50) (j := 0) rfl dX0_greatestAlike_49 rfl rfl ?_
      refine zf_getR (q := 53) rfl dX0_greatestAlike_50 lf_RX0_24 (sc38 hG) rfl ?_
      refine zf_iload 2 (q := 55) rfl dX0_greatestAlike_53 rfl ?_
      obtain ⟨v5, ev5, h⟩ := zb h
      refine zf_iald (q := 56) rfl dX0_greatestAlike_55 (sc45 hG) ev5 ?_
      obtain ⟨r6, s7, es7, h⟩ := zc h
      refine zf_callV (q := 59) (As := [.int v5]) (rest := []) (st1 := []) rfl dX0_greatestAlike_56 lv_RX0_126 (sc38 hG) rfl rfl (Nat.le_of_ble_eq_true rfl) (ok_X0_takeRules hG N (Nat.le_trans (by decide) hd) es7) rfl ?_
      refine zf_aload_n 0 (q := 60) (j := 0) rfl dX0_greatestAlike_59 rfl rfl ?_
      refine zf_getR (q := 63) rfl dX0_greatestAlike_60 lf_RX0_45 (sc38 hG) rfl ?_
      refine zf_aload_n 0 (q := 64) (j := 0) rfl dX0_greatestAlike_63 rfl rfl ?_
      refine zf_getR (q := 67) rfl dX0_greatestAlike_64 lf_RX0_12 (sc38 hG) rfl ?_
      obtain ⟨r8, s9, es9, h⟩ := zc h
      refine zf_callV (q := 70) (As := [.ref (zad G 39)]) (rest := []) (st1 := [.int r8]) rfl dX0_greatestAlike_67 lv_RX0_118 (sc17 hG) rfl rfl (Nat.le_of_ble_eq_true rfl) (ok_X2_settle hG N (Nat.le_trans (by decide) hd) (wd39 hG) es9) rfl ?_
      refine zf_bipush (q := 72) rfl dX0_greatestAlike_70 bpm9 ?_
      refine zf_icmp_ne (q := 75) (tgt := 79) rfl (by decide) dX0_greatestAlike_72 (fun hc72 => ?_) (fun hc72 => ?_)
      · replace h := (zi h).2 hc72
        refine zf_aload_n 0 (q := 80) (j := 0) rfl dX0_greatestAlike_79 rfl rfl ?_
        refine zf_getR (q := 83) rfl dX0_greatestAlike_80 lf_RX0_45 (sc38 hG) rfl ?_
        obtain ⟨r10, s11, es11, h⟩ := zc h
        refine zf_callV (q := 86) (As := []) (rest := []) (st1 := [.int r10]) rfl dX0_greatestAlike_83 lv_RX0_156 (sc17 hG) rfl rfl (Nat.le_of_ble_eq_true rfl) (ok_X2_outcome hG N (Nat.le_trans (by decide) hd) es11) rfl ?_
        exact zf_sub [0, 1, 2] rfl (ok_X0_greatestAlike_86 hG N hd hr31 h)
      · replace h := (zi h).1 hc72
        refine zf_iconst (q := 76) rfl dX0_greatestAlike_75 icm1 ?_
        refine zf_goto (tgt := 86) (by decide) dX0_greatestAlike_76 ?_
        exact zf_sub [0, 1, 2] rfl (ok_X0_greatestAlike_86 hG N hd hr31 h)
def f_X0_greatestAlike_31 (N : Nat) : Nat → Int32 → Int32 → ZM → Option (Int32 × ZM)
  | 0, _, _, _ => none
  | n + 1, x3, x4, σ => b_X0_greatestAlike_31 N (f_X0_greatestAlike_31 N n) x3 x4 σ
theorem ok_X0_greatestAlike_31 {G : ZG} (hG : zSH G = shC) (N : Nat) {d : Nat} (hd : 3 ≤ d) {res : Int32 × ZM} : ∀ (n : Nat) (x3 : Int32) (x4 : Int32) (σ : ZM), f_X0_greatestAlike_31 N n x3 x4 σ = some res → zF G MX0_greatestAlike (d + 1) 31 [(0, .ref (zad G 38)), (3, .int x3), (4, .int x4)] [] σ (some (.int res.1)) res.2 := by
  intro n
  induction n with
  | zero => intro x3 x4 σ h; exact absurd h (by simp [f_X0_greatestAlike_31])
  | succ n ih => intro x3 x4 σ h; rw [f_X0_greatestAlike_31] at h; exact ok_b_X0_greatestAlike_31 hG N hd ih h
def f_X0_greatestAlike (N : Nat) (x1 : Int32) (x2 : Int32) (σ : ZM) : Option (Int32 × ZM) :=
  zbd (f_X7_copy N 39 12 σ) fun r12 s13 =>
  (zast s13 40 4 x1 x2).bind fun s14 =>
  (zpI s14 38 11 (0 : Int32)).bind fun s15 =>
  f_X0_greatestAlike_31 N N (0 : Int32) (0 : Int32) s15
set_option maxRecDepth 100000 in
theorem ok_X0_greatestAlike {G : ZG} (hG : zSH G = shC) (N : Nat) {d : Nat} (hd : 4 ≤ d) {x1 : Int32} {x2 : Int32} {σ : ZM} {res : Int32 × ZM} (h : f_X0_greatestAlike N x1 x2 σ = some res) : zCt G d MX0_greatestAlike [.ref (zad G 38), .int x1, .int x2] σ (some (.int res.1)) res.2 := by
  obtain ⟨d, rfl⟩ : ∃ k, d = k + 1 := ⟨d - 1, by omega⟩
  have hd : 3 ≤ d := by omega
  refine zct_of (by decide) (Nat.le_of_ble_eq_true rfl) (lv := [(0, .ref (zad G 38)), (1, .int x1), (2, .int x2)]) rfl ?_
  unfold f_X0_greatestAlike at h
  refine zf_aload_n 0 (q := 1) (j := 0) rfl dX0_greatestAlike_0 rfl rfl ?_
  refine zf_getR (q := 4) rfl dX0_greatestAlike_1 lf_RX0_12 (sc38 hG) rfl ?_
  refine zf_aload_n 0 (q := 5) (j := 0) rfl dX0_greatestAlike_4 rfl rfl ?_
  refine zf_getR (q := 8) rfl dX0_greatestAlike_5 lf_RX0_42 (sc38 hG) rfl ?_
  obtain ⟨r12, s13, es13, h⟩ := zc h
  refine zf_callV (q := 11) (As := [.ref (zad G 12)]) (rest := []) (st1 := []) rfl dX0_greatestAlike_8 lv_RX0_60 (sc39 hG) rfl rfl (Nat.le_of_ble_eq_true rfl) (ok_X7_copy hG N (Nat.le_trans (by decide) hd) (wd39 hG) (wd12 hG) es13) rfl ?_
  refine zf_aload_n 0 (q := 12) (j := 0) rfl dX0_greatestAlike_11 rfl rfl ?_
  refine zf_getR (q := 15) rfl dX0_greatestAlike_12 lf_RX0_12 (sc38 hG) rfl ?_
  refine zf_getR (q := 18) rfl dX0_greatestAlike_15 lf_RX0_141 (sc39 hG) rfl ?_
  refine zf_iload_n 1 (q := 19) (j := 1) rfl dX0_greatestAlike_18 rfl rfl ?_
  refine zf_iload_n 2 (q := 20) (j := 2) rfl dX0_greatestAlike_19 rfl rfl ?_
  obtain ⟨s14, es14, h⟩ := zb h
  refine zf_iast (q := 21) rfl dX0_greatestAlike_20 (sc40 hG) es14 ?_
  refine zf_aload_n 0 (q := 22) (j := 0) rfl dX0_greatestAlike_21 rfl rfl ?_
  refine zf_iconst (q := 23) rfl dX0_greatestAlike_22 ic0 ?_
  obtain ⟨s15, es15, h⟩ := zb h
  refine zf_putI (q := 26) rfl dX0_greatestAlike_23 lp_RX0_153 (sc38 hG) rfl es15 ?_
  refine zf_iconst (q := 27) rfl dX0_greatestAlike_26 ic0 ?_
  refine zf_istore_n (q := 28) (y := (0 : Int32)) (i := 3) (lv1 := [(3, .int (0 : Int32)), (0, .ref (zad G 38)), (1, .int x1), (2, .int x2)]) rfl dX0_greatestAlike_27 rfl (by decide) rfl rfl ?_
  refine zf_iconst (q := 29) rfl dX0_greatestAlike_28 ic0 ?_
  refine zf_istore (q := 31) (y := (0 : Int32)) (i := 4) (lv1 := [(4, .int (0 : Int32)), (3, .int (0 : Int32)), (0, .ref (zad G 38)), (1, .int x1), (2, .int x2)]) rfl dX0_greatestAlike_29 (by decide) rfl rfl ?_
  exact zf_sub [2, 1, 0] rfl (ok_X0_greatestAlike_31 hG N hd _ _ _ _ h)
-- ===== X0_seekTrial: NearCopies$Cases.seekTrial()V
def f_X0_seekTrial_111 (N : Nat) (rec25 : Int32 → ZM → Option (Unit × ZM)) (x1 : Int32) (σ : ZM) : Option (Unit × ZM) :=
  (some (x1 + (1 : Int32))).bind fun v1 =>
  rec25 v1 σ
set_option maxRecDepth 100000 in
theorem ok_X0_seekTrial_111 {G : ZG} (hG : zSH G = shC) (N : Nat) {d : Nat} (hd : 4 ≤ d) {rec25 : Int32 → ZM → Option (Unit × ZM)} {res : Unit × ZM} (hr25 : ∀ (x1 : Int32) (σ : ZM), rec25 x1 σ = some res → zF G MX0_seekTrial (d + 1) 25 [(0, .ref (zad G 38)), (1, .int x1)] [] σ none res.2) {x1 : Int32} {σ : ZM} (h : f_X0_seekTrial_111 N rec25 x1 σ = some res) : zF G MX0_seekTrial (d + 1) 111 [(0, .ref (zad G 38)), (1, .int x1)] [] σ none res.2 := by
  unfold f_X0_seekTrial_111 at h
  obtain ⟨v1, ev1, h⟩ := zb h
  refine zf_iinc 1 (q := 114) (v := v1) (lv1 := [(1, .int v1), (0, .ref (zad G 38))]) rfl dX0_seekTrial_111 rfl (by rw [ic1]; exact ev1) (by decide) rfl ?_
  refine zf_goto (tgt := 25) (by decide) dX0_seekTrial_114 ?_
  exact zf_sub [1, 0] rfl (hr25 _ _ h)
def f_X0_seekTrial_105 (N : Nat) (rec25 : Int32 → ZM → Option (Unit × ZM)) (rec38 : Int32 → Int32 → ZM → Option (Unit × ZM)) (x1 : Int32) (x2 : Int32) (σ : ZM) : Option (Unit × ZM) :=
  (some (x2 + (1 : Int32))).bind fun v2 =>
  rec38 x1 v2 σ
set_option maxRecDepth 100000 in
theorem ok_X0_seekTrial_105 {G : ZG} (hG : zSH G = shC) (N : Nat) {d : Nat} (hd : 4 ≤ d) {rec25 : Int32 → ZM → Option (Unit × ZM)} {rec38 : Int32 → Int32 → ZM → Option (Unit × ZM)} {res : Unit × ZM} (hr25 : ∀ (x1 : Int32) (σ : ZM), rec25 x1 σ = some res → zF G MX0_seekTrial (d + 1) 25 [(0, .ref (zad G 38)), (1, .int x1)] [] σ none res.2) (hr38 : ∀ (x1 : Int32) (x2 : Int32) (σ : ZM), rec38 x1 x2 σ = some res → zF G MX0_seekTrial (d + 1) 38 [(0, .ref (zad G 38)), (1, .int x1), (2, .int x2)] [] σ none res.2) {x1 : Int32} {x2 : Int32} {σ : ZM} (h : f_X0_seekTrial_105 N rec25 rec38 x1 x2 σ = some res) : zF G MX0_seekTrial (d + 1) 105 [(0, .ref (zad G 38)), (1, .int x1), (2, .int x2)] [] σ none res.2 := by
  unfold f_X0_seekTrial_105 at h
  obtain ⟨v2, ev2, h⟩ := zb h
  refine zf_iinc 2 (q := 108) (v := v2) (lv1 := [(2, .int v2), (0, .ref (zad G 38)), (1, .int x1)]) rfl dX0_seekTrial_105 rfl (by rw [ic1]; exact ev2) (by decide) rfl ?_
  refine zf_goto (tgt := 38) (by decide) dX0_seekTrial_108 ?_
  exact zf_sub [1, 2, 0] rfl (hr38 _ _ _ h)
def f_X0_seekTrial_81 (N : Nat) (rec25 : Int32 → ZM → Option (Unit × ZM)) (rec38 : Int32 → Int32 → ZM → Option (Unit × ZM)) (x1 : Int32) (x2 : Int32) (y0 : Int32) (σ : ZM) : Option (Unit × ZM) :=
  if (σ.1 38 14) ≤ y0 then
  (f_X0_seekTrial_105 N rec25 rec38 x1 x2 σ)
  else
  ((zpI σ 38 14 y0).bind fun s3 =>
  (zpI s3 38 12 x1).bind fun s4 =>
  (zpI s4 38 13 x2).bind fun s5 =>
  f_X0_seekTrial_105 N rec25 rec38 x1 x2 s5)
set_option maxRecDepth 100000 in
theorem ok_X0_seekTrial_81 {G : ZG} (hG : zSH G = shC) (N : Nat) {d : Nat} (hd : 4 ≤ d) {rec25 : Int32 → ZM → Option (Unit × ZM)} {rec38 : Int32 → Int32 → ZM → Option (Unit × ZM)} {res : Unit × ZM} (hr25 : ∀ (x1 : Int32) (σ : ZM), rec25 x1 σ = some res → zF G MX0_seekTrial (d + 1) 25 [(0, .ref (zad G 38)), (1, .int x1)] [] σ none res.2) (hr38 : ∀ (x1 : Int32) (x2 : Int32) (σ : ZM), rec38 x1 x2 σ = some res → zF G MX0_seekTrial (d + 1) 38 [(0, .ref (zad G 38)), (1, .int x1), (2, .int x2)] [] σ none res.2) {x1 : Int32} {x2 : Int32} {y0 : Int32} {σ : ZM} (h : f_X0_seekTrial_81 N rec25 rec38 x1 x2 y0 σ = some res) : zF G MX0_seekTrial (d + 1) 81 [(0, .ref (zad G 38)), (1, .int x1), (2, .int x2)] [.int y0] σ none res.2 := by
  unfold f_X0_seekTrial_81 at h
  refine zf_istore_n (q := 82) (y := y0) (i := 3) (lv1 := [(3, .int y0), (0, .ref (zad G 38)), (1, .int x1), (2, .int x2)]) rfl dX0_seekTrial_81 rfl (by decide) rfl rfl ?_
  refine zf_iload_n 0 (q := 83) (j := 3) rfl dX0_seekTrial_82 rfl rfl ?_
  refine zf_aload_n 1 (q := 84) (j := 0) rfl dX0_seekTrial_83 rfl rfl ?_
  refine zf_getI (q := 87) rfl dX0_seekTrial_84 lf_RX0_133 (sc38 hG) rfl ?_
  refine zf_icmp_ge (q := 90) (tgt := 105) rfl (by decide) dX0_seekTrial_87 (fun hc87 => ?_) (fun hc87 => ?_)
  · replace h := (zi h).1 hc87
    exact zf_sub [1, 2, 3] rfl (ok_X0_seekTrial_105 hG N hd hr25 hr38 h)
  · replace h := (zi h).2 hc87
    refine zf_aload_n 1 (q := 91) (j := 0) rfl dX0_seekTrial_90 rfl rfl ?_
    refine zf_iload_n 0 (q := 92) (j := 3) rfl dX0_seekTrial_91 rfl rfl ?_
    obtain ⟨s3, es3, h⟩ := zb h
    refine zf_putI (q := 95) rfl dX0_seekTrial_92 lp_RX0_133 (sc38 hG) rfl es3 ?_
    refine zf_aload_n 1 (q := 96) (j := 0) rfl dX0_seekTrial_95 rfl rfl ?_
    refine zf_iload_n 2 (q := 97) (j := 1) rfl dX0_seekTrial_96 rfl rfl ?_
    obtain ⟨s4, es4, h⟩ := zb h
    refine zf_putI (q := 100) rfl dX0_seekTrial_97 lp_RX0_147 (sc38 hG) rfl es4 ?_
    refine zf_aload_n 1 (q := 101) (j := 0) rfl dX0_seekTrial_100 rfl rfl ?_
    refine zf_iload_n 3 (q := 102) (j := 2) rfl dX0_seekTrial_101 rfl rfl ?_
    obtain ⟨s5, es5, h⟩ := zb h
    refine zf_putI (q := 105) rfl dX0_seekTrial_102 lp_RX0_150 (sc38 hG) rfl es5 ?_
    exact zf_sub [1, 2, 3] rfl (ok_X0_seekTrial_105 hG N hd hr25 hr38 h)
def b_X0_seekTrial_38 (N : Nat) (rec25 : Int32 → ZM → Option (Unit × ZM)) (rec38 : Int32 → Int32 → ZM → Option (Unit × ZM)) (x1 : Int32) (x2 : Int32) (σ : ZM) : Option (Unit × ZM) :=
  if (4 : Int32) < x2 then
  (f_X0_seekTrial_111 N rec25 x1 σ)
  else
  ((zald σ 16 4 x1).bind fun v6 =>
  if v6 = 0 then
  (f_X0_seekTrial_111 N rec25 x1 σ)
  else
  ((zald σ 13 4 x1).bind fun v7 =>
  if x2 = v7 then
  (f_X0_seekTrial_81 N rec25 rec38 x1 x2 (σ.1 38 14) σ)
  else
  (zbd (f_X0_greatestAlike N x1 x2 σ) fun r8 s9 =>
  f_X0_seekTrial_81 N rec25 rec38 x1 x2 r8 s9)))
set_option maxRecDepth 100000 in
theorem ok_b_X0_seekTrial_38 {G : ZG} (hG : zSH G = shC) (N : Nat) {d : Nat} (hd : 4 ≤ d) {rec25 : Int32 → ZM → Option (Unit × ZM)} {rec38 : Int32 → Int32 → ZM → Option (Unit × ZM)} {res : Unit × ZM} (hr25 : ∀ (x1 : Int32) (σ : ZM), rec25 x1 σ = some res → zF G MX0_seekTrial (d + 1) 25 [(0, .ref (zad G 38)), (1, .int x1)] [] σ none res.2) (hr38 : ∀ (x1 : Int32) (x2 : Int32) (σ : ZM), rec38 x1 x2 σ = some res → zF G MX0_seekTrial (d + 1) 38 [(0, .ref (zad G 38)), (1, .int x1), (2, .int x2)] [] σ none res.2) {x1 : Int32} {x2 : Int32} {σ : ZM} (h : b_X0_seekTrial_38 N rec25 rec38 x1 x2 σ = some res) : zF G MX0_seekTrial (d + 1) 38 [(0, .ref (zad G 38)), (1, .int x1), (2, .int x2)] [] σ none res.2 := by
  unfold b_X0_seekTrial_38 at h
  refine zf_iload_n 2 (q := 39) (j := 2) rfl dX0_seekTrial_38 rfl rfl ?_
  refine zf_iconst (q := 40) rfl dX0_seekTrial_39 ic4 ?_
  refine zf_icmp_gt (q := 43) (tgt := 111) rfl (by decide) dX0_seekTrial_40 (fun hc40 => ?_) (fun hc40 => ?_)
  · replace h := (zi h).1 hc40
    exact zf_sub [0, 1] rfl (ok_X0_seekTrial_111 hG N hd hr25 h)
  · replace h := (zi h).2 hc40
    refine zf_aload_n 0 (q := 44) (j := 0) rfl dX0_seekTrial_43 rfl rfl ?_
    refine zf_getR (q := 47) rfl dX0_seekTrial_44 lf_RX0_42 (sc38 hG) rfl ?_
    refine zf_getR (q := 50) rfl dX0_seekTrial_47 lf_RX0_137 (sc12 hG) rfl ?_
    refine zf_iload_n 1 (q := 51) (j := 1) rfl dX0_seekTrial_50 rfl rfl ?_
    obtain ⟨v6, ev6, h⟩ := zb h
    refine zf_zald (q := 52) rfl dX0_seekTrial_51 (sc16 hG) ev6 ?_
    refine zf_if_eq (q := 55) (tgt := 111) rfl (by decide) dX0_seekTrial_52 (fun hc52 => ?_) (fun hc52 => ?_)
    · replace h := (zi h).1 hc52
      exact zf_sub [0, 1] rfl (ok_X0_seekTrial_111 hG N hd hr25 h)
    · replace h := (zi h).2 hc52
      refine zf_iload_n 2 (q := 56) (j := 2) rfl dX0_seekTrial_55 rfl rfl ?_
      refine zf_aload_n 0 (q := 57) (j := 0) rfl dX0_seekTrial_56 rfl rfl ?_
      refine zf_getR (q := 60) rfl dX0_seekTrial_57 lf_RX0_42 (sc38 hG) rfl ?_
      refine zf_getR (q := 63) rfl dX0_seekTrial_60 lf_RX0_141 (sc12 hG) rfl ?_
      refine zf_iload_n 1 (q := 64) (j := 1) rfl dX0_seekTrial_63 rfl rfl ?_
      obtain ⟨v7, ev7, h⟩ := zb h
      refine zf_iald (q := 65) rfl dX0_seekTrial_64 (sc13 hG) ev7 ?_
      refine zf_icmp_ne (q := 68) (tgt := 75) rfl (by decide) dX0_seekTrial_65 (fun hc65 => ?_) (fun hc65 => ?_)
      · replace h := (zi h).2 hc65
        refine zf_aload_n 0 (q := 76) (j := 0) rfl dX0_seekTrial_75 rfl rfl ?_
        refine zf_iload_n 1 (q := 77) (j := 1) rfl dX0_seekTrial_76 rfl rfl ?_
        refine zf_iload_n 2 (q := 78) (j := 2) rfl dX0_seekTrial_77 rfl rfl ?_
        obtain ⟨r8, s9, es9, h⟩ := zc h
        refine zf_callV (q := 81) (As := [.int x1, .int x2]) (rest := []) (st1 := [.int r8]) rfl dX0_seekTrial_78 lv_RX0_144 (sc38 hG) rfl rfl (Nat.le_of_ble_eq_true rfl) (ok_X0_greatestAlike hG N (Nat.le_trans (by decide) hd) es9) rfl ?_
        exact zf_sub [0, 1, 2] rfl (ok_X0_seekTrial_81 hG N hd hr25 hr38 h)
      · replace h := (zi h).1 hc65
        refine zf_aload_n 0 (q := 69) (j := 0) rfl dX0_seekTrial_68 rfl rfl ?_
        refine zf_getI (q := 72) rfl dX0_seekTrial_69 lf_RX0_133 (sc38 hG) rfl ?_
        refine zf_goto (tgt := 81) (by decide) dX0_seekTrial_72 ?_
        exact zf_sub [0, 1, 2] rfl (ok_X0_seekTrial_81 hG N hd hr25 hr38 h)
def f_X0_seekTrial_38 (N : Nat) (rec25 : Int32 → ZM → Option (Unit × ZM)) : Nat → Int32 → Int32 → ZM → Option (Unit × ZM)
  | 0, _, _, _ => none
  | n + 1, x1, x2, σ => b_X0_seekTrial_38 N rec25 (f_X0_seekTrial_38 N rec25 n) x1 x2 σ
theorem ok_X0_seekTrial_38 {G : ZG} (hG : zSH G = shC) (N : Nat) {d : Nat} (hd : 4 ≤ d) {rec25 : Int32 → ZM → Option (Unit × ZM)} {res : Unit × ZM} (hr25 : ∀ (x1 : Int32) (σ : ZM), rec25 x1 σ = some res → zF G MX0_seekTrial (d + 1) 25 [(0, .ref (zad G 38)), (1, .int x1)] [] σ none res.2) : ∀ (n : Nat) (x1 : Int32) (x2 : Int32) (σ : ZM), f_X0_seekTrial_38 N rec25 n x1 x2 σ = some res → zF G MX0_seekTrial (d + 1) 38 [(0, .ref (zad G 38)), (1, .int x1), (2, .int x2)] [] σ none res.2 := by
  intro n
  induction n with
  | zero => intro x1 x2 σ h; exact absurd h (by simp [f_X0_seekTrial_38])
  | succ n ih => intro x1 x2 σ h; rw [f_X0_seekTrial_38] at h; exact ok_b_X0_seekTrial_38 hG N hd hr25 ih h
def b_X0_seekTrial_25 (N : Nat) (rec25 : Int32 → ZM → Option (Unit × ZM)) (x1 : Int32) (σ : ZM) : Option (Unit × ZM) :=
  if (σ.1 12 0) ≤ x1 then
  (some ((), σ))
  else
  (f_X0_seekTrial_38 N rec25 N x1 (0 : Int32) σ)
set_option maxRecDepth 100000 in
theorem ok_b_X0_seekTrial_25 {G : ZG} (hG : zSH G = shC) (N : Nat) {d : Nat} (hd : 4 ≤ d) {rec25 : Int32 → ZM → Option (Unit × ZM)} {res : Unit × ZM} (hr25 : ∀ (x1 : Int32) (σ : ZM), rec25 x1 σ = some res → zF G MX0_seekTrial (d + 1) 25 [(0, .ref (zad G 38)), (1, .int x1)] [] σ none res.2) {x1 : Int32} {σ : ZM} (h : b_X0_seekTrial_25 N rec25 x1 σ = some res) : zF G MX0_seekTrial (d + 1) 25 [(0, .ref (zad G 38)), (1, .int x1)] [] σ none res.2 := by
  unfold b_X0_seekTrial_25 at h
  refine zf_iload_n 1 (q := 26) (j := 1) rfl dX0_seekTrial_25 rfl rfl ?_
  refine zf_aload_n 0 (q := 27) (j := 0) rfl dX0_seekTrial_26 rfl rfl ?_
  refine zf_getR (q := 30) rfl dX0_seekTrial_27 lf_RX0_42 (sc38 hG) rfl ?_
  refine zf_getI (q := 33) rfl dX0_seekTrial_30 lf_RX0_136 (sc12 hG) rfl ?_
  refine zf_icmp_ge (q := 36) (tgt := 117) rfl (by decide) dX0_seekTrial_33 (fun hc33 => ?_) (fun hc33 => ?_)
  · replace h := (zi h).1 hc33
    cases h
    exact zf_return dX0_seekTrial_117 rfl
  · replace h := (zi h).2 hc33
    refine zf_iconst (q := 37) rfl dX0_seekTrial_36 ic0 ?_
    refine zf_istore_n (q := 38) (y := (0 : Int32)) (i := 2) (lv1 := [(2, .int (0 : Int32)), (0, .ref (zad G 38)), (1, .int x1)]) rfl dX0_seekTrial_37 rfl (by decide) rfl rfl ?_
    exact zf_sub [1, 2, 0] rfl (ok_X0_seekTrial_38 hG N hd hr25 _ _ _ _ h)
def f_X0_seekTrial_25 (N : Nat) : Nat → Int32 → ZM → Option (Unit × ZM)
  | 0, _, _ => none
  | n + 1, x1, σ => b_X0_seekTrial_25 N (f_X0_seekTrial_25 N n) x1 σ
theorem ok_X0_seekTrial_25 {G : ZG} (hG : zSH G = shC) (N : Nat) {d : Nat} (hd : 4 ≤ d) {res : Unit × ZM} : ∀ (n : Nat) (x1 : Int32) (σ : ZM), f_X0_seekTrial_25 N n x1 σ = some res → zF G MX0_seekTrial (d + 1) 25 [(0, .ref (zad G 38)), (1, .int x1)] [] σ none res.2 := by
  intro n
  induction n with
  | zero => intro x1 σ h; exact absurd h (by simp [f_X0_seekTrial_25])
  | succ n ih => intro x1 σ h; rw [f_X0_seekTrial_25] at h; exact ok_b_X0_seekTrial_25 hG N hd ih h
def f_X0_seekTrial (N : Nat) (σ : ZM) : Option (Unit × ZM) :=
  if (σ.1 38 16) = 0 then
  ((zpZ σ 38 16 (1 : Int32)).bind fun s10 =>
  (zpI s10 38 14 ((s10.1 38 7) + (1 : Int32))).bind fun s11 =>
  f_X0_seekTrial_25 N N (0 : Int32) s11)
  else
  (some ((), σ))
set_option maxRecDepth 100000 in
theorem ok_X0_seekTrial {G : ZG} (hG : zSH G = shC) (N : Nat) {d : Nat} (hd : 5 ≤ d) {σ : ZM} {res : Unit × ZM} (h : f_X0_seekTrial N σ = some res) : zCt G d MX0_seekTrial [.ref (zad G 38)] σ none res.2 := by
  obtain ⟨d, rfl⟩ : ∃ k, d = k + 1 := ⟨d - 1, by omega⟩
  have hd : 4 ≤ d := by omega
  refine zct_of (by decide) (Nat.le_of_ble_eq_true rfl) (lv := [(0, .ref (zad G 38))]) rfl ?_
  unfold f_X0_seekTrial at h
  refine zf_aload_n 0 (q := 1) (j := 0) rfl dX0_seekTrial_0 rfl rfl ?_
  refine zf_getI (q := 4) rfl dX0_seekTrial_1 lf_RX0_50 (sc38 hG) rfl ?_
  refine zf_if_eq (q := 7) (tgt := 8) rfl (by decide) dX0_seekTrial_4 (fun hc4 => ?_) (fun hc4 => ?_)
  · replace h := (zi h).1 hc4
    refine zf_aload_n 0 (q := 9) (j := 0) rfl dX0_seekTrial_8 rfl rfl ?_
    refine zf_iconst (q := 10) rfl dX0_seekTrial_9 ic1 ?_
    obtain ⟨s10, es10, h⟩ := zb h
    refine zf_putZ (q := 13) rfl dX0_seekTrial_10 lp_RX0_50 (sc38 hG) rfl es10 ?_
    refine zf_aload_n 0 (q := 14) (j := 0) rfl dX0_seekTrial_13 rfl rfl ?_
    refine zf_aload_n 0 (q := 15) (j := 0) rfl dX0_seekTrial_14 rfl rfl ?_
    refine zf_getI (q := 18) rfl dX0_seekTrial_15 lf_RX0_70 (sc38 hG) rfl ?_
    refine zf_iconst (q := 19) rfl dX0_seekTrial_18 ic1 ?_
    refine zf_iadd (q := 20) rfl dX0_seekTrial_19 ?_
    obtain ⟨s11, es11, h⟩ := zb h
    refine zf_putI (q := 23) rfl dX0_seekTrial_20 lp_RX0_133 (sc38 hG) rfl es11 ?_
    refine zf_iconst (q := 24) rfl dX0_seekTrial_23 ic0 ?_
    refine zf_istore_n (q := 25) (y := (0 : Int32)) (i := 1) (lv1 := [(1, .int (0 : Int32)), (0, .ref (zad G 38))]) rfl dX0_seekTrial_24 rfl (by decide) rfl rfl ?_
    exact zf_sub [1, 0] rfl (ok_X0_seekTrial_25 hG N hd _ _ _ h)
  · replace h := (zi h).2 hc4
    cases h
    exact zf_return dX0_seekTrial_7 rfl
-- ===== X1_forget: NearCopies$Chart.forget()V
def f_X1_forget (N : Nat) (σ : ZM) : Option (Unit × ZM) :=
  (zpZ σ 23 14 (1 : Int32)).bind fun s1 =>
  some ((), s1)
set_option maxRecDepth 100000 in
theorem ok_X1_forget {G : ZG} (hG : zSH G = shC) (N : Nat) {d : Nat} (hd : 0 ≤ d) {σ : ZM} {res : Unit × ZM} (h : f_X1_forget N σ = some res) : zCt G d MX1_forget [.ref (zad G 23)] σ none res.2 := by
  refine zct_of (by decide) (Nat.le_of_ble_eq_true rfl) (lv := [(0, .ref (zad G 23))]) rfl ?_
  unfold f_X1_forget at h
  refine zf_aload_n 0 (q := 1) (j := 0) rfl dX1_forget_0 rfl rfl ?_
  refine zf_iconst (q := 2) rfl dX1_forget_1 ic1 ?_
  obtain ⟨s1, es1, h⟩ := zb h
  refine zf_putZ (q := 5) rfl dX1_forget_2 lp_RX1_34 (sc23 hG) rfl es1 ?_
  cases h
  exact zf_return dX1_forget_5 rfl
-- ===== X1_pickNow: NearCopies$Chart.pickNow()V
def f_X1_pickNow_36 (N : Nat) (rec2 : Int32 → ZM → Option (Unit × ZM)) (x1 : Int32) (y0 : Int32) (y1 : Int32) (σ : ZM) : Option (Unit × ZM) :=
  (zast σ 32 4 y1 y0).bind fun s1 =>
  (some (x1 + (1 : Int32))).bind fun v2 =>
  rec2 v2 s1
set_option maxRecDepth 100000 in
theorem ok_X1_pickNow_36 {G : ZG} (hG : zSH G = shC) (N : Nat) {d : Nat} (hd : 0 ≤ d) {rec2 : Int32 → ZM → Option (Unit × ZM)} {res : Unit × ZM} (hr2 : ∀ (x1 : Int32) (σ : ZM), rec2 x1 σ = some res → zF G MX1_pickNow (d + 1) 2 [(0, .ref (zad G 23)), (1, .int x1)] [] σ none res.2) {x1 : Int32} {y0 : Int32} {y1 : Int32} {σ : ZM} (h : f_X1_pickNow_36 N rec2 x1 y0 y1 σ = some res) : zF G MX1_pickNow (d + 1) 36 [(0, .ref (zad G 23)), (1, .int x1)] [.int y0, .int y1, .ref (zad G 32)] σ none res.2 := by
  unfold f_X1_pickNow_36 at h
  obtain ⟨s1, es1, h⟩ := zb h
  refine zf_iast (q := 37) rfl dX1_pickNow_36 (sc32 hG) es1 ?_
  obtain ⟨v2, ev2, h⟩ := zb h
  refine zf_iinc 1 (q := 40) (v := v2) (lv1 := [(1, .int v2), (0, .ref (zad G 23))]) rfl dX1_pickNow_37 rfl (by rw [ic1]; exact ev2) (by decide) rfl ?_
  refine zf_goto (tgt := 2) (by decide) dX1_pickNow_40 ?_
  exact zf_sub [1, 0] rfl (hr2 _ _ h)
def b_X1_pickNow_2 (N : Nat) (rec2 : Int32 → ZM → Option (Unit × ZM)) (x1 : Int32) (σ : ZM) : Option (Unit × ZM) :=
  if (4 : Int32) ≤ x1 then
  (some ((), σ))
  else
  (zbd (f_X7_isSaid N 12 x1 σ) fun r3 s4 =>
  if r3 = 0 then
  (f_X1_pickNow_36 N rec2 x1 (4 : Int32) x1 s4)
  else
  ((zald s4 13 4 x1).bind fun v5 =>
  f_X1_pickNow_36 N rec2 x1 v5 x1 s4))
set_option maxRecDepth 100000 in
theorem ok_b_X1_pickNow_2 {G : ZG} (hG : zSH G = shC) (N : Nat) {d : Nat} (hd : 0 ≤ d) {rec2 : Int32 → ZM → Option (Unit × ZM)} {res : Unit × ZM} (hr2 : ∀ (x1 : Int32) (σ : ZM), rec2 x1 σ = some res → zF G MX1_pickNow (d + 1) 2 [(0, .ref (zad G 23)), (1, .int x1)] [] σ none res.2) {x1 : Int32} {σ : ZM} (h : b_X1_pickNow_2 N rec2 x1 σ = some res) : zF G MX1_pickNow (d + 1) 2 [(0, .ref (zad G 23)), (1, .int x1)] [] σ none res.2 := by
  unfold b_X1_pickNow_2 at h
  refine zf_iload_n 1 (q := 3) (j := 1) rfl dX1_pickNow_2 rfl rfl ?_
  refine zf_iconst (q := 4) rfl dX1_pickNow_3 ic4 ?_
  refine zf_icmp_ge (q := 7) (tgt := 43) rfl (by decide) dX1_pickNow_4 (fun hc4 => ?_) (fun hc4 => ?_)
  · replace h := (zi h).1 hc4
    cases h
    exact zf_return dX1_pickNow_43 rfl
  · replace h := (zi h).2 hc4
    refine zf_aload_n 0 (q := 8) (j := 0) rfl dX1_pickNow_7 rfl rfl ?_
    refine zf_getR (q := 11) rfl dX1_pickNow_8 lf_RX1_28 (sc23 hG) rfl ?_
    refine zf_iload_n 1 (q := 12) (j := 1) rfl dX1_pickNow_11 rfl rfl ?_
    refine zf_aload_n 0 (q := 13) (j := 0) rfl dX1_pickNow_12 rfl rfl ?_
    refine zf_getR (q := 16) rfl dX1_pickNow_13 lf_RX1_46 (sc23 hG) rfl ?_
    refine zf_iload_n 1 (q := 17) (j := 1) rfl dX1_pickNow_16 rfl rfl ?_
    obtain ⟨r3, s4, es4, h⟩ := zc h
    refine zf_callV (q := 20) (As := [.int x1]) (rest := [.int x1, .ref (zad G 32)]) (st1 := [.int r3, .int x1, .ref (zad G 32)]) rfl dX1_pickNow_17 lv_RX1_53 (sc12 hG) rfl rfl (Nat.le_of_ble_eq_true rfl) (ok_X7_isSaid hG N (Nat.le_trans (by decide) hd) (wd12 hG) es4) rfl ?_
    refine zf_if_eq (q := 23) (tgt := 35) rfl (by decide) dX1_pickNow_20 (fun hc20 => ?_) (fun hc20 => ?_)
    · replace h := (zi h).1 hc20
      refine zf_iconst (q := 36) rfl dX1_pickNow_35 ic4 ?_
      exact zf_sub [0, 1] rfl (ok_X1_pickNow_36 hG N hd hr2 h)
    · replace h := (zi h).2 hc20
      refine zf_aload_n 0 (q := 24) (j := 0) rfl dX1_pickNow_23 rfl rfl ?_
      refine zf_getR (q := 27) rfl dX1_pickNow_24 lf_RX1_46 (sc23 hG) rfl ?_
      refine zf_getR (q := 30) rfl dX1_pickNow_27 lf_RX1_57 (sc12 hG) rfl ?_
      refine zf_iload_n 1 (q := 31) (j := 1) rfl dX1_pickNow_30 rfl rfl ?_
      obtain ⟨v5, ev5, h⟩ := zb h
      refine zf_iald (q := 32) rfl dX1_pickNow_31 (sc13 hG) ev5 ?_
      refine zf_goto (tgt := 36) (by decide) dX1_pickNow_32 ?_
      exact zf_sub [0, 1] rfl (ok_X1_pickNow_36 hG N hd hr2 h)
def f_X1_pickNow_2 (N : Nat) : Nat → Int32 → ZM → Option (Unit × ZM)
  | 0, _, _ => none
  | n + 1, x1, σ => b_X1_pickNow_2 N (f_X1_pickNow_2 N n) x1 σ
theorem ok_X1_pickNow_2 {G : ZG} (hG : zSH G = shC) (N : Nat) {d : Nat} (hd : 0 ≤ d) {res : Unit × ZM} : ∀ (n : Nat) (x1 : Int32) (σ : ZM), f_X1_pickNow_2 N n x1 σ = some res → zF G MX1_pickNow (d + 1) 2 [(0, .ref (zad G 23)), (1, .int x1)] [] σ none res.2 := by
  intro n
  induction n with
  | zero => intro x1 σ h; exact absurd h (by simp [f_X1_pickNow_2])
  | succ n ih => intro x1 σ h; rw [f_X1_pickNow_2] at h; exact ok_b_X1_pickNow_2 hG N hd ih h
def f_X1_pickNow (N : Nat) (σ : ZM) : Option (Unit × ZM) :=
  f_X1_pickNow_2 N N (0 : Int32) σ
set_option maxRecDepth 100000 in
theorem ok_X1_pickNow {G : ZG} (hG : zSH G = shC) (N : Nat) {d : Nat} (hd : 1 ≤ d) {σ : ZM} {res : Unit × ZM} (h : f_X1_pickNow N σ = some res) : zCt G d MX1_pickNow [.ref (zad G 23)] σ none res.2 := by
  obtain ⟨d, rfl⟩ : ∃ k, d = k + 1 := ⟨d - 1, by omega⟩
  have hd : 0 ≤ d := by omega
  refine zct_of (by decide) (Nat.le_of_ble_eq_true rfl) (lv := [(0, .ref (zad G 23))]) rfl ?_
  unfold f_X1_pickNow at h
  refine zf_iconst (q := 1) rfl dX1_pickNow_0 ic0 ?_
  refine zf_istore_n (q := 2) (y := (0 : Int32)) (i := 1) (lv1 := [(1, .int (0 : Int32)), (0, .ref (zad G 23))]) rfl dX1_pickNow_1 rfl (by decide) rfl rfl ?_
  exact zf_sub [1, 0] rfl (ok_X1_pickNow_2 hG N hd _ _ _ h)
-- ===== X7_has: NearCopies$Words.has(I)Z
def f_X7_has (N : Nat) (w0 : Nat) (x1 : Int32) (σ : ZM) : Option (Int32 × ZM) :=
  if x1 < 0 then
  (some ((0 : Int32), σ))
  else
  (if (σ.1 w0 0) ≤ x1 then
  (some ((0 : Int32), σ))
  else
  (some ((1 : Int32), σ)))
set_option maxRecDepth 100000 in
theorem ok_X7_has {G : ZG} (hG : zSH G = shC) (N : Nat) {d : Nat} (hd : 0 ≤ d) {w0 : Nat} (hw0 : zWd G w0) {x1 : Int32} {σ : ZM} {res : Int32 × ZM} (h : f_X7_has N w0 x1 σ = some res) : zCt G d MX7_has [.ref (zad G w0), .int x1] σ (some (.int res.1)) res.2 := by
  refine zct_of (by decide) (Nat.le_of_ble_eq_true rfl) (lv := [(0, .ref (zad G w0)), (1, .int x1)]) rfl ?_
  unfold f_X7_has at h
  refine zf_iload_n 1 (q := 1) (j := 1) rfl dX7_has_0 rfl rfl ?_
  refine zf_if_lt (q := 4) (tgt := 16) rfl (by decide) dX7_has_1 (fun hc1 => ?_) (fun hc1 => ?_)
  · replace h := (zi h).1 hc1
    refine zf_iconst (q := 17) rfl dX7_has_16 ic0 ?_
    cases h
    exact zf_zreturn dX7_has_17 rfl (Or.inl rfl)
  · replace h := (zi h).2 hc1
    refine zf_iload_n 1 (q := 5) (j := 1) rfl dX7_has_4 rfl rfl ?_
    refine zf_aload_n 0 (q := 6) (j := 0) rfl dX7_has_5 rfl rfl ?_
    refine zf_getI (q := 9) rfl dX7_has_6 lf_RX7_25 hw0.1 rfl ?_
    refine zf_icmp_ge (q := 12) (tgt := 16) rfl (by decide) dX7_has_9 (fun hc9 => ?_) (fun hc9 => ?_)
    · replace h := (zi h).1 hc9
      refine zf_iconst (q := 17) rfl dX7_has_16 ic0 ?_
      cases h
      exact zf_zreturn dX7_has_17 rfl (Or.inl rfl)
    · replace h := (zi h).2 hc9
      refine zf_iconst (q := 13) rfl dX7_has_12 ic1 ?_
      refine zf_goto (tgt := 17) (by decide) dX7_has_13 ?_
      cases h
      exact zf_zreturn dX7_has_17 rfl (Or.inr rfl)
-- ===== X1_pickFirst: NearCopies$Chart.pickFirst()V
def f_X1_pickFirst_40 (N : Nat) (rec2 : Int32 → ZM → Option (Unit × ZM)) (x1 : Int32) (y0 : Int32) (y1 : Int32) (σ : ZM) : Option (Unit × ZM) :=
  (zast σ 32 4 y1 y0).bind fun s1 =>
  (some (x1 + (1 : Int32))).bind fun v2 =>
  rec2 v2 s1
set_option maxRecDepth 100000 in
theorem ok_X1_pickFirst_40 {G : ZG} (hG : zSH G = shC) (N : Nat) {d : Nat} (hd : 0 ≤ d) {rec2 : Int32 → ZM → Option (Unit × ZM)} {res : Unit × ZM} (hr2 : ∀ (x1 : Int32) (σ : ZM), rec2 x1 σ = some res → zF G MX1_pickFirst (d + 1) 2 [(0, .ref (zad G 23)), (1, .int x1)] [] σ none res.2) {x1 : Int32} {y0 : Int32} {y1 : Int32} {σ : ZM} (h : f_X1_pickFirst_40 N rec2 x1 y0 y1 σ = some res) : zF G MX1_pickFirst (d + 1) 40 [(0, .ref (zad G 23)), (1, .int x1)] [.int y0, .int y1, .ref (zad G 32)] σ none res.2 := by
  unfold f_X1_pickFirst_40 at h
  obtain ⟨s1, es1, h⟩ := zb h
  refine zf_iast (q := 41) rfl dX1_pickFirst_40 (sc32 hG) es1 ?_
  obtain ⟨v2, ev2, h⟩ := zb h
  refine zf_iinc 1 (q := 44) (v := v2) (lv1 := [(1, .int v2), (0, .ref (zad G 23))]) rfl dX1_pickFirst_41 rfl (by rw [ic1]; exact ev2) (by decide) rfl ?_
  refine zf_goto (tgt := 2) (by decide) dX1_pickFirst_44 ?_
  exact zf_sub [1, 0] rfl (hr2 _ _ h)
def f_X1_pickFirst_39 (N : Nat) (rec2 : Int32 → ZM → Option (Unit × ZM)) (x1 : Int32) (y0 : Int32) (σ : ZM) : Option (Unit × ZM) :=
  f_X1_pickFirst_40 N rec2 x1 (4 : Int32) y0 σ
set_option maxRecDepth 100000 in
theorem ok_X1_pickFirst_39 {G : ZG} (hG : zSH G = shC) (N : Nat) {d : Nat} (hd : 0 ≤ d) {rec2 : Int32 → ZM → Option (Unit × ZM)} {res : Unit × ZM} (hr2 : ∀ (x1 : Int32) (σ : ZM), rec2 x1 σ = some res → zF G MX1_pickFirst (d + 1) 2 [(0, .ref (zad G 23)), (1, .int x1)] [] σ none res.2) {x1 : Int32} {y0 : Int32} {σ : ZM} (h : f_X1_pickFirst_39 N rec2 x1 y0 σ = some res) : zF G MX1_pickFirst (d + 1) 39 [(0, .ref (zad G 23)), (1, .int x1)] [.int y0, .ref (zad G 32)] σ none res.2 := by
  unfold f_X1_pickFirst_39 at h
  refine zf_iconst (q := 40) rfl dX1_pickFirst_39 ic4 ?_
  exact zf_sub [0, 1] rfl (ok_X1_pickFirst_40 hG N hd hr2 h)
def b_X1_pickFirst_2 (N : Nat) (rec2 : Int32 → ZM → Option (Unit × ZM)) (x1 : Int32) (σ : ZM) : Option (Unit × ZM) :=
  if (4 : Int32) ≤ x1 then
  (some ((), σ))
  else
  (zbd (f_X7_has N 12 x1 σ) fun r3 s4 =>
  if r3 = 0 then
  (f_X1_pickFirst_39 N rec2 x1 x1 s4)
  else
  ((zald s4 16 4 x1).bind fun v5 =>
  if v5 = 0 then
  (f_X1_pickFirst_39 N rec2 x1 x1 s4)
  else
  (f_X1_pickFirst_40 N rec2 x1 (0 : Int32) x1 s4)))
set_option maxRecDepth 100000 in
theorem ok_b_X1_pickFirst_2 {G : ZG} (hG : zSH G = shC) (N : Nat) {d : Nat} (hd : 0 ≤ d) {rec2 : Int32 → ZM → Option (Unit × ZM)} {res : Unit × ZM} (hr2 : ∀ (x1 : Int32) (σ : ZM), rec2 x1 σ = some res → zF G MX1_pickFirst (d + 1) 2 [(0, .ref (zad G 23)), (1, .int x1)] [] σ none res.2) {x1 : Int32} {σ : ZM} (h : b_X1_pickFirst_2 N rec2 x1 σ = some res) : zF G MX1_pickFirst (d + 1) 2 [(0, .ref (zad G 23)), (1, .int x1)] [] σ none res.2 := by
  unfold b_X1_pickFirst_2 at h
  refine zf_iload_n 1 (q := 3) (j := 1) rfl dX1_pickFirst_2 rfl rfl ?_
  refine zf_iconst (q := 4) rfl dX1_pickFirst_3 ic4 ?_
  refine zf_icmp_ge (q := 7) (tgt := 47) rfl (by decide) dX1_pickFirst_4 (fun hc4 => ?_) (fun hc4 => ?_)
  · replace h := (zi h).1 hc4
    cases h
    exact zf_return dX1_pickFirst_47 rfl
  · replace h := (zi h).2 hc4
    refine zf_aload_n 0 (q := 8) (j := 0) rfl dX1_pickFirst_7 rfl rfl ?_
    refine zf_getR (q := 11) rfl dX1_pickFirst_8 lf_RX1_28 (sc23 hG) rfl ?_
    refine zf_iload_n 1 (q := 12) (j := 1) rfl dX1_pickFirst_11 rfl rfl ?_
    refine zf_aload_n 0 (q := 13) (j := 0) rfl dX1_pickFirst_12 rfl rfl ?_
    refine zf_getR (q := 16) rfl dX1_pickFirst_13 lf_RX1_46 (sc23 hG) rfl ?_
    refine zf_iload_n 1 (q := 17) (j := 1) rfl dX1_pickFirst_16 rfl rfl ?_
    obtain ⟨r3, s4, es4, h⟩ := zc h
    refine zf_callV (q := 20) (As := [.int x1]) (rest := [.int x1, .ref (zad G 32)]) (st1 := [.int r3, .int x1, .ref (zad G 32)]) rfl dX1_pickFirst_17 lv_RX1_60 (sc12 hG) rfl rfl (Nat.le_of_ble_eq_true rfl) (ok_X7_has hG N (Nat.le_trans (by decide) hd) (wd12 hG) es4) rfl ?_
    refine zf_if_eq (q := 23) (tgt := 39) rfl (by decide) dX1_pickFirst_20 (fun hc20 => ?_) (fun hc20 => ?_)
    · replace h := (zi h).1 hc20
      exact zf_sub [0, 1] rfl (ok_X1_pickFirst_39 hG N hd hr2 h)
    · replace h := (zi h).2 hc20
      refine zf_aload_n 0 (q := 24) (j := 0) rfl dX1_pickFirst_23 rfl rfl ?_
      refine zf_getR (q := 27) rfl dX1_pickFirst_24 lf_RX1_46 (sc23 hG) rfl ?_
      refine zf_getR (q := 30) rfl dX1_pickFirst_27 lf_RX1_63 (sc12 hG) rfl ?_
      refine zf_iload_n 1 (q := 31) (j := 1) rfl dX1_pickFirst_30 rfl rfl ?_
      obtain ⟨v5, ev5, h⟩ := zb h
      refine zf_zald (q := 32) rfl dX1_pickFirst_31 (sc16 hG) ev5 ?_
      refine zf_if_eq (q := 35) (tgt := 39) rfl (by decide) dX1_pickFirst_32 (fun hc32 => ?_) (fun hc32 => ?_)
      · replace h := (zi h).1 hc32
        exact zf_sub [0, 1] rfl (ok_X1_pickFirst_39 hG N hd hr2 h)
      · replace h := (zi h).2 hc32
        refine zf_iconst (q := 36) rfl dX1_pickFirst_35 ic0 ?_
        refine zf_goto (tgt := 40) (by decide) dX1_pickFirst_36 ?_
        exact zf_sub [0, 1] rfl (ok_X1_pickFirst_40 hG N hd hr2 h)
def f_X1_pickFirst_2 (N : Nat) : Nat → Int32 → ZM → Option (Unit × ZM)
  | 0, _, _ => none
  | n + 1, x1, σ => b_X1_pickFirst_2 N (f_X1_pickFirst_2 N n) x1 σ
theorem ok_X1_pickFirst_2 {G : ZG} (hG : zSH G = shC) (N : Nat) {d : Nat} (hd : 0 ≤ d) {res : Unit × ZM} : ∀ (n : Nat) (x1 : Int32) (σ : ZM), f_X1_pickFirst_2 N n x1 σ = some res → zF G MX1_pickFirst (d + 1) 2 [(0, .ref (zad G 23)), (1, .int x1)] [] σ none res.2 := by
  intro n
  induction n with
  | zero => intro x1 σ h; exact absurd h (by simp [f_X1_pickFirst_2])
  | succ n ih => intro x1 σ h; rw [f_X1_pickFirst_2] at h; exact ok_b_X1_pickFirst_2 hG N hd ih h
def f_X1_pickFirst (N : Nat) (σ : ZM) : Option (Unit × ZM) :=
  f_X1_pickFirst_2 N N (0 : Int32) σ
set_option maxRecDepth 100000 in
theorem ok_X1_pickFirst {G : ZG} (hG : zSH G = shC) (N : Nat) {d : Nat} (hd : 1 ≤ d) {σ : ZM} {res : Unit × ZM} (h : f_X1_pickFirst N σ = some res) : zCt G d MX1_pickFirst [.ref (zad G 23)] σ none res.2 := by
  obtain ⟨d, rfl⟩ : ∃ k, d = k + 1 := ⟨d - 1, by omega⟩
  have hd : 0 ≤ d := by omega
  refine zct_of (by decide) (Nat.le_of_ble_eq_true rfl) (lv := [(0, .ref (zad G 23))]) rfl ?_
  unfold f_X1_pickFirst at h
  refine zf_iconst (q := 1) rfl dX1_pickFirst_0 ic0 ?_
  refine zf_istore_n (q := 2) (y := (0 : Int32)) (i := 1) (lv1 := [(1, .int (0 : Int32)), (0, .ref (zad G 23))]) rfl dX1_pickFirst_1 rfl (by decide) rfl rfl ?_
  exact zf_sub [1, 0] rfl (ok_X1_pickFirst_2 hG N hd _ _ _ h)
-- ===== X1_pickNext: NearCopies$Chart.pickNext()Z
def f_X1_pickNext_70 (N : Nat) (rec10 : Int32 → ZM → Option (Int32 × ZM)) (x1 : Int32) (y0 : Int32) (y1 : Int32) (σ : ZM) : Option (Int32 × ZM) :=
  (zast σ 32 4 y1 y0).bind fun s1 =>
  (some (x1 + (-1 : Int32))).bind fun v2 =>
  rec10 v2 s1
set_option maxRecDepth 100000 in
theorem ok_X1_pickNext_70 {G : ZG} (hG : zSH G = shC) (N : Nat) {d : Nat} {rec10 : Int32 → ZM → Option (Int32 × ZM)} {res : Int32 × ZM} (hr10 : ∀ (x1 : Int32) (σ : ZM), rec10 x1 σ = some res → zF G MX1_pickNext d 10 [(0, .ref (zad G 23)), (1, .int x1)] [] σ (some (.int res.1)) res.2) {x1 : Int32} {y0 : Int32} {y1 : Int32} {σ : ZM} (h : f_X1_pickNext_70 N rec10 x1 y0 y1 σ = some res) : zF G MX1_pickNext d 70 [(0, .ref (zad G 23)), (1, .int x1)] [.int y0, .int y1, .ref (zad G 32)] σ (some (.int res.1)) res.2 := by
  unfold f_X1_pickNext_70 at h
  obtain ⟨s1, es1, h⟩ := zb h
  refine zf_iast (q := 71) rfl dX1_pickNext_70 (sc32 hG) es1 ?_
  obtain ⟨v2, ev2, h⟩ := zb h
  refine zf_iinc 1 (q := 74) (v := v2) (lv1 := [(1, .int v2), (0, .ref (zad G 23))]) rfl dX1_pickNext_71 rfl (by rw [icm1]; exact ev2) (by decide) rfl ?_
  refine zf_goto (tgt := 10) (by decide) dX1_pickNext_74 ?_
  exact zf_sub [1, 0] rfl (hr10 _ _ h)
def f_X1_pickNext_48 (N : Nat) (rec10 : Int32 → ZM → Option (Int32 × ZM)) (x1 : Int32) (σ : ZM) : Option (Int32 × ZM) :=
  (zald σ 16 4 x1).bind fun v3 =>
  if v3 = 0 then
  (f_X1_pickNext_70 N rec10 x1 (4 : Int32) x1 σ)
  else
  (f_X1_pickNext_70 N rec10 x1 (0 : Int32) x1 σ)
set_option maxRecDepth 100000 in
theorem ok_X1_pickNext_48 {G : ZG} (hG : zSH G = shC) (N : Nat) {d : Nat} {rec10 : Int32 → ZM → Option (Int32 × ZM)} {res : Int32 × ZM} (hr10 : ∀ (x1 : Int32) (σ : ZM), rec10 x1 σ = some res → zF G MX1_pickNext d 10 [(0, .ref (zad G 23)), (1, .int x1)] [] σ (some (.int res.1)) res.2) {x1 : Int32} {σ : ZM} (h : f_X1_pickNext_48 N rec10 x1 σ = some res) : zF G MX1_pickNext d 48 [(0, .ref (zad G 23)), (1, .int x1)] [] σ (some (.int res.1)) res.2 := by
  unfold f_X1_pickNext_48 at h
  refine zf_aload_n 0 (q := 49) (j := 0) rfl dX1_pickNext_48 rfl rfl ?_
  refine zf_getR (q := 52) rfl dX1_pickNext_49 lf_RX1_28 (sc23 hG) rfl ?_
  refine zf_iload_n 1 (q := 53) (j := 1) rfl dX1_pickNext_52 rfl rfl ?_
  refine zf_aload_n 0 (q := 54) (j := 0) rfl dX1_pickNext_53 rfl rfl ?_
  refine zf_getR (q := 57) rfl dX1_pickNext_54 lf_RX1_46 (sc23 hG) rfl ?_
  refine zf_getR (q := 60) rfl dX1_pickNext_57 lf_RX1_63 (sc12 hG) rfl ?_
  refine zf_iload_n 1 (q := 61) (j := 1) rfl dX1_pickNext_60 rfl rfl ?_
  obtain ⟨v3, ev3, h⟩ := zb h
  refine zf_zald (q := 62) rfl dX1_pickNext_61 (sc16 hG) ev3 ?_
  refine zf_if_eq (q := 65) (tgt := 69) rfl (by decide) dX1_pickNext_62 (fun hc62 => ?_) (fun hc62 => ?_)
  · replace h := (zi h).1 hc62
    refine zf_iconst (q := 70) rfl dX1_pickNext_69 ic4 ?_
    exact zf_sub [0, 1] rfl (ok_X1_pickNext_70 hG N hr10 h)
  · replace h := (zi h).2 hc62
    refine zf_iconst (q := 66) rfl dX1_pickNext_65 ic0 ?_
    refine zf_goto (tgt := 70) (by decide) dX1_pickNext_66 ?_
    exact zf_sub [0, 1] rfl (ok_X1_pickNext_70 hG N hr10 h)
def b_X1_pickNext_10 (N : Nat) (rec10 : Int32 → ZM → Option (Int32 × ZM)) (x1 : Int32) (σ : ZM) : Option (Int32 × ZM) :=
  if x1 < 0 then
  (some ((0 : Int32), σ))
  else
  ((zald σ 16 4 x1).bind fun v4 =>
  if v4 = 0 then
  (f_X1_pickNext_48 N rec10 x1 σ)
  else
  ((zald σ 32 4 x1).bind fun v5 =>
  if (4 : Int32) ≤ v5 then
  (f_X1_pickNext_48 N rec10 x1 σ)
  else
  ((zald σ 32 4 x1).bind fun v6 =>
  (zast σ 32 4 x1 (v6 + (1 : Int32))).bind fun s7 =>
  some ((1 : Int32), s7))))
set_option maxRecDepth 100000 in
theorem ok_b_X1_pickNext_10 {G : ZG} (hG : zSH G = shC) (N : Nat) {d : Nat} {rec10 : Int32 → ZM → Option (Int32 × ZM)} {res : Int32 × ZM} (hr10 : ∀ (x1 : Int32) (σ : ZM), rec10 x1 σ = some res → zF G MX1_pickNext d 10 [(0, .ref (zad G 23)), (1, .int x1)] [] σ (some (.int res.1)) res.2) {x1 : Int32} {σ : ZM} (h : b_X1_pickNext_10 N rec10 x1 σ = some res) : zF G MX1_pickNext d 10 [(0, .ref (zad G 23)), (1, .int x1)] [] σ (some (.int res.1)) res.2 := by
  unfold b_X1_pickNext_10 at h
  refine zf_iload_n 1 (q := 11) (j := 1) rfl dX1_pickNext_10 rfl rfl ?_
  refine zf_if_lt (q := 14) (tgt := 77) rfl (by decide) dX1_pickNext_11 (fun hc11 => ?_) (fun hc11 => ?_)
  · replace h := (zi h).1 hc11
    refine zf_iconst (q := 78) rfl dX1_pickNext_77 ic0 ?_
    cases h
    exact zf_zreturn dX1_pickNext_78 rfl (Or.inl rfl)
  · replace h := (zi h).2 hc11
    refine zf_aload_n 0 (q := 15) (j := 0) rfl dX1_pickNext_14 rfl rfl ?_
    refine zf_getR (q := 18) rfl dX1_pickNext_15 lf_RX1_46 (sc23 hG) rfl ?_
    refine zf_getR (q := 21) rfl dX1_pickNext_18 lf_RX1_63 (sc12 hG) rfl ?_
    refine zf_iload_n 1 (q := 22) (j := 1) rfl dX1_pickNext_21 rfl rfl ?_
    obtain ⟨v4, ev4, h⟩ := zb h
    refine zf_zald (q := 23) rfl dX1_pickNext_22 (sc16 hG) ev4 ?_
    refine zf_if_eq (q := 26) (tgt := 48) rfl (by decide) dX1_pickNext_23 (fun hc23 => ?_) (fun hc23 => ?_)
    · replace h := (zi h).1 hc23
      exact zf_sub [0, 1] rfl (ok_X1_pickNext_48 hG N hr10 h)
    · replace h := (zi h).2 hc23
      refine zf_aload_n 0 (q := 27) (j := 0) rfl dX1_pickNext_26 rfl rfl ?_
      refine zf_getR (q := 30) rfl dX1_pickNext_27 lf_RX1_28 (sc23 hG) rfl ?_
      refine zf_iload_n 1 (q := 31) (j := 1) rfl dX1_pickNext_30 rfl rfl ?_
      obtain ⟨v5, ev5, h⟩ := zb h
      refine zf_iald (q := 32) rfl dX1_pickNext_31 (sc32 hG) ev5 ?_
      refine zf_iconst (q := 33) rfl dX1_pickNext_32 ic4 ?_
      refine zf_icmp_ge (q := 36) (tgt := 48) rfl (by decide) dX1_pickNext_33 (fun hc33 => ?_) (fun hc33 => ?_)
      · replace h := (zi h).1 hc33
        exact zf_sub [0, 1] rfl (ok_X1_pickNext_48 hG N hr10 h)
      · replace h := (zi h).2 hc33
        refine zf_aload_n 0 (q := 37) (j := 0) rfl dX1_pickNext_36 rfl rfl ?_
        refine zf_getR (q := 40) rfl dX1_pickNext_37 lf_RX1_28 (sc23 hG) rfl ?_
        refine zf_iload_n 1 (q := 41) (j := 1) rfl dX1_pickNext_40 rfl rfl ?_
        refine zf_dup2 (q := 42) rfl dX1_pickNext_41 rfl rfl ?_
        obtain ⟨v6, ev6, h⟩ := zb h
        refine zf_iald (q := 43) rfl dX1_pickNext_42 (sc32 hG) ev6 ?_
        refine zf_iconst (q := 44) rfl dX1_pickNext_43 ic1 ?_
        refine zf_iadd (q := 45) rfl dX1_pickNext_44 ?_
        obtain ⟨s7, es7, h⟩ := zb h
        refine zf_iast (q := 46) rfl dX1_pickNext_45 (sc32 hG) es7 ?_
        refine zf_iconst (q := 47) rfl dX1_pickNext_46 ic1 ?_
        cases h
        exact zf_zreturn dX1_pickNext_47 rfl (Or.inr rfl)
def f_X1_pickNext_10 (N : Nat) : Nat → Int32 → ZM → Option (Int32 × ZM)
  | 0, _, _ => none
  | n + 1, x1, σ => b_X1_pickNext_10 N (f_X1_pickNext_10 N n) x1 σ
theorem ok_X1_pickNext_10 {G : ZG} (hG : zSH G = shC) (N : Nat) {d : Nat} {res : Int32 × ZM} : ∀ (n : Nat) (x1 : Int32) (σ : ZM), f_X1_pickNext_10 N n x1 σ = some res → zF G MX1_pickNext d 10 [(0, .ref (zad G 23)), (1, .int x1)] [] σ (some (.int res.1)) res.2 := by
  intro n
  induction n with
  | zero => intro x1 σ h; exact absurd h (by simp [f_X1_pickNext_10])
  | succ n ih => intro x1 σ h; rw [f_X1_pickNext_10] at h; exact ok_b_X1_pickNext_10 hG N ih h
def f_X1_pickNext (N : Nat) (σ : ZM) : Option (Int32 × ZM) :=
  (some ((σ.1 12 0) - (1 : Int32))).bind fun v8 =>
  f_X1_pickNext_10 N N v8 σ
set_option maxRecDepth 100000 in
theorem ok_X1_pickNext {G : ZG} (hG : zSH G = shC) (N : Nat) {d : Nat} (hd : 0 ≤ d) {σ : ZM} {res : Int32 × ZM} (h : f_X1_pickNext N σ = some res) : zCt G d MX1_pickNext [.ref (zad G 23)] σ (some (.int res.1)) res.2 := by
  refine zct_of (by decide) (Nat.le_of_ble_eq_true rfl) (lv := [(0, .ref (zad G 23))]) rfl ?_
  unfold f_X1_pickNext at h
  refine zf_aload_n 0 (q := 1) (j := 0) rfl dX1_pickNext_0 rfl rfl ?_
  refine zf_getR (q := 4) rfl dX1_pickNext_1 lf_RX1_46 (sc23 hG) rfl ?_
  refine zf_getI (q := 7) rfl dX1_pickNext_4 lf_RX1_67 (sc12 hG) rfl ?_
  refine zf_iconst (q := 8) rfl dX1_pickNext_7 ic1 ?_
  refine zf_isub (q := 9) rfl dX1_pickNext_8 ?_
  obtain ⟨v8, ev8, h⟩ := zb h
  refine zf_istore_n (q := 10) (y := v8) (i := 1) (lv1 := [(1, .int v8), (0, .ref (zad G 23))]) rfl dX1_pickNext_9 rfl (by decide) ev8 rfl ?_
  exact zf_sub [1, 0] rfl (ok_X1_pickNext_10 hG N _ _ _ h)
-- ===== X1_place: NearCopies$Chart.place()I
def b_X1_place_4 (N : Nat) (rec4 : Int32 → Int32 → ZM → Option (Int32 × ZM)) (x1 : Int32) (x2 : Int32) (σ : ZM) : Option (Int32 × ZM) :=
  if (4 : Int32) ≤ x2 then
  (some (x1, σ))
  else
  ((zald σ 32 4 x2).bind fun v1 =>
  (some ((x1 * (5 : Int32)) + v1)).bind fun v2 =>
  (some (x2 + (1 : Int32))).bind fun v3 =>
  rec4 v2 v3 σ)
set_option maxRecDepth 100000 in
theorem ok_b_X1_place_4 {G : ZG} (hG : zSH G = shC) (N : Nat) {d : Nat} {rec4 : Int32 → Int32 → ZM → Option (Int32 × ZM)} {res : Int32 × ZM} (hr4 : ∀ (x1 : Int32) (x2 : Int32) (σ : ZM), rec4 x1 x2 σ = some res → zF G MX1_place d 4 [(0, .ref (zad G 23)), (1, .int x1), (2, .int x2)] [] σ (some (.int res.1)) res.2) {x1 : Int32} {x2 : Int32} {σ : ZM} (h : b_X1_place_4 N rec4 x1 x2 σ = some res) : zF G MX1_place d 4 [(0, .ref (zad G 23)), (1, .int x1), (2, .int x2)] [] σ (some (.int res.1)) res.2 := by
  unfold b_X1_place_4 at h
  refine zf_iload_n 2 (q := 5) (j := 2) rfl dX1_place_4 rfl rfl ?_
  refine zf_iconst (q := 6) rfl dX1_place_5 ic4 ?_
  refine zf_icmp_ge (q := 9) (tgt := 26) rfl (by decide) dX1_place_6 (fun hc6 => ?_) (fun hc6 => ?_)
  · replace h := (zi h).1 hc6
    refine zf_iload_n 1 (q := 27) (j := 1) rfl dX1_place_26 rfl rfl ?_
    cases h
    exact zf_ireturn dX1_place_27 rfl
  · replace h := (zi h).2 hc6
    refine zf_iload_n 1 (q := 10) (j := 1) rfl dX1_place_9 rfl rfl ?_
    refine zf_iconst (q := 11) rfl dX1_place_10 ic5 ?_
    refine zf_imul (q := 12) rfl dX1_place_11 ?_
    refine zf_aload_n 0 (q := 13) (j := 0) rfl dX1_place_12 rfl rfl ?_
    refine zf_getR (q := 16) rfl dX1_place_13 lf_RX1_28 (sc23 hG) rfl ?_
    refine zf_iload_n 2 (q := 17) (j := 2) rfl dX1_place_16 rfl rfl ?_
    obtain ⟨v1, ev1, h⟩ := zb h
    refine zf_iald (q := 18) rfl dX1_place_17 (sc32 hG) ev1 ?_
    refine zf_iadd (q := 19) rfl dX1_place_18 ?_
    obtain ⟨v2, ev2, h⟩ := zb h
    refine zf_istore_n (q := 20) (y := v2) (i := 1) (lv1 := [(1, .int v2), (0, .ref (zad G 23)), (2, .int x2)]) rfl dX1_place_19 rfl (by decide) ev2 rfl ?_
    obtain ⟨v3, ev3, h⟩ := zb h
    refine zf_iinc 2 (q := 23) (v := v3) (lv1 := [(2, .int v3), (1, .int v2), (0, .ref (zad G 23))]) rfl dX1_place_20 rfl (by rw [ic1]; exact ev3) (by decide) rfl ?_
    refine zf_goto (tgt := 4) (by decide) dX1_place_23 ?_
    exact zf_sub [2, 1, 0] rfl (hr4 _ _ _ h)
def f_X1_place_4 (N : Nat) : Nat → Int32 → Int32 → ZM → Option (Int32 × ZM)
  | 0, _, _, _ => none
  | n + 1, x1, x2, σ => b_X1_place_4 N (f_X1_place_4 N n) x1 x2 σ
theorem ok_X1_place_4 {G : ZG} (hG : zSH G = shC) (N : Nat) {d : Nat} {res : Int32 × ZM} : ∀ (n : Nat) (x1 : Int32) (x2 : Int32) (σ : ZM), f_X1_place_4 N n x1 x2 σ = some res → zF G MX1_place d 4 [(0, .ref (zad G 23)), (1, .int x1), (2, .int x2)] [] σ (some (.int res.1)) res.2 := by
  intro n
  induction n with
  | zero => intro x1 x2 σ h; exact absurd h (by simp [f_X1_place_4])
  | succ n ih => intro x1 x2 σ h; rw [f_X1_place_4] at h; exact ok_b_X1_place_4 hG N ih h
def f_X1_place (N : Nat) (σ : ZM) : Option (Int32 × ZM) :=
  f_X1_place_4 N N (0 : Int32) (0 : Int32) σ
set_option maxRecDepth 100000 in
theorem ok_X1_place {G : ZG} (hG : zSH G = shC) (N : Nat) {d : Nat} (hd : 0 ≤ d) {σ : ZM} {res : Int32 × ZM} (h : f_X1_place N σ = some res) : zCt G d MX1_place [.ref (zad G 23)] σ (some (.int res.1)) res.2 := by
  refine zct_of (by decide) (Nat.le_of_ble_eq_true rfl) (lv := [(0, .ref (zad G 23))]) rfl ?_
  unfold f_X1_place at h
  refine zf_iconst (q := 1) rfl dX1_place_0 ic0 ?_
  refine zf_istore_n (q := 2) (y := (0 : Int32)) (i := 1) (lv1 := [(1, .int (0 : Int32)), (0, .ref (zad G 23))]) rfl dX1_place_1 rfl (by decide) rfl rfl ?_
  refine zf_iconst (q := 3) rfl dX1_place_2 ic0 ?_
  refine zf_istore_n (q := 4) (y := (0 : Int32)) (i := 2) (lv1 := [(2, .int (0 : Int32)), (1, .int (0 : Int32)), (0, .ref (zad G 23))]) rfl dX1_place_3 rfl (by decide) rfl rfl ?_
  exact zf_sub [2, 1, 0] rfl (ok_X1_place_4 hG N _ _ _ _ h)
