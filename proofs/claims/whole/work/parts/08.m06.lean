-- ===== X9_settleNow: NearCopiesModel.settleNow()Z
def f_X9_settleNow (N : Nat) (σ : ZM) : Option (Int32 × ZM) :=
  zbd (f_X9_askNow N σ) fun r1 s2 =>
  zbd (f_X9_settle N s2) fun r3 s4 =>
  zrz r3 s4
set_option maxRecDepth 100000 in
theorem ok_X9_settleNow {G : ZG} (hG : zSH G = shM) (N : Nat) {d : Nat} (hd : 5 ≤ d) {σ : ZM} {res : Int32 × ZM} (h : f_X9_settleNow N σ = some res) : zCt G d MX9_settleNow [.ref (zad G 0)] σ (some (.int res.1)) res.2 := by
  obtain ⟨d, rfl⟩ : ∃ k, d = k + 1 := ⟨d - 1, by omega⟩
  have hd : 4 ≤ d := by omega
  refine zct_of (by decide) (Nat.le_of_ble_eq_true rfl) (lv := [(0, .ref (zad G 0))]) rfl ?_
  unfold f_X9_settleNow at h
  refine zf_aload_n 0 (q := 1) (j := 0) rfl dX9_settleNow_0 rfl rfl ?_
  obtain ⟨r1, s2, es2, h⟩ := zc h
  refine zf_callV (q := 4) (As := []) (rest := []) (st1 := []) rfl dX9_settleNow_1 lv_RX9_209 (sm0 hG) rfl rfl (Nat.le_of_ble_eq_true rfl) (ok_X9_askNow hG N (Nat.le_trans (by decide) hd) es2) rfl ?_
  refine zf_aload_n 0 (q := 5) (j := 0) rfl dX9_settleNow_4 rfl rfl ?_
  obtain ⟨r3, s4, es4, h⟩ := zc h
  refine zf_callV (q := 8) (As := []) (rest := []) (st1 := [.int r3]) rfl dX9_settleNow_5 lv_RX9_212 (sm0 hG) rfl rfl (Nat.le_of_ble_eq_true rfl) (ok_X9_settle hG N (Nat.le_trans (by decide) hd) es4) rfl ?_
  obtain ⟨hz, rfl⟩ := zrz_ok h
  exact zf_zreturn dX9_settleNow_8 rfl hz
-- ===== X9_rounds: NearCopiesModel.rounds()I
def f_X9_rounds (N : Nat) (σ : ZM) : Option (Int32 × ZM) :=
  zbd (f_X9_settleNow N σ) fun r1 s2 =>
  if r1 = 0 then
  (some ((-9 : Int32), s2))
  else
  (some ((s2.1 0 30), s2))
set_option maxRecDepth 100000 in
theorem ok_X9_rounds {G : ZG} (hG : zSH G = shM) (N : Nat) {d : Nat} (hd : 6 ≤ d) {σ : ZM} {res : Int32 × ZM} (h : f_X9_rounds N σ = some res) : zCt G d MX9_rounds [.ref (zad G 0)] σ (some (.int res.1)) res.2 := by
  obtain ⟨d, rfl⟩ : ∃ k, d = k + 1 := ⟨d - 1, by omega⟩
  have hd : 5 ≤ d := by omega
  refine zct_of (by decide) (Nat.le_of_ble_eq_true rfl) (lv := [(0, .ref (zad G 0))]) rfl ?_
  unfold f_X9_rounds at h
  refine zf_aload_n 0 (q := 1) (j := 0) rfl dX9_rounds_0 rfl rfl ?_
  obtain ⟨r1, s2, es2, h⟩ := zc h
  refine zf_callV (q := 4) (As := []) (rest := []) (st1 := [.int r1]) rfl dX9_rounds_1 lv_RX9_216 (sm0 hG) rfl rfl (Nat.le_of_ble_eq_true rfl) (ok_X9_settleNow hG N (Nat.le_trans (by decide) hd) es2) rfl ?_
  refine zf_if_eq (q := 7) (tgt := 14) rfl (by decide) dX9_rounds_4 (fun hc4 => ?_) (fun hc4 => ?_)
  · replace h := (zi h).1 hc4
    refine zf_bipush (q := 16) rfl dX9_rounds_14 bpm9 ?_
    cases h
    exact zf_ireturn dX9_rounds_16 rfl
  · replace h := (zi h).2 hc4
    refine zf_aload_n 0 (q := 8) (j := 0) rfl dX9_rounds_7 rfl rfl ?_
    refine zf_getI (q := 11) rfl dX9_rounds_8 lf_RX9_195 (sm0 hG) rfl ?_
    refine zf_goto (tgt := 16) (by decide) dX9_rounds_11 ?_
    cases h
    exact zf_ireturn dX9_rounds_16 rfl
-- ===== X9_comes: NearCopiesModel.comes(I)I
def f_X9_comes (N : Nat) (x1 : Int32) (σ : ZM) : Option (Int32 × ZM) :=
  zbd (f_X9_isNet N x1 σ) fun r1 s2 =>
  if r1 = 0 then
  (some ((-1 : Int32), s2))
  else
  (zbd (f_X9_settleNow N s2) fun r3 s4 =>
  if r3 = 0 then
  (some ((-3 : Int32), s4))
  else
  ((zald s4 17 10 x1).bind fun v5 =>
  some (v5, s4)))
set_option maxRecDepth 100000 in
theorem ok_X9_comes {G : ZG} (hG : zSH G = shM) (N : Nat) {d : Nat} (hd : 6 ≤ d) {x1 : Int32} {σ : ZM} {res : Int32 × ZM} (h : f_X9_comes N x1 σ = some res) : zCt G d MX9_comes [.ref (zad G 0), .int x1] σ (some (.int res.1)) res.2 := by
  obtain ⟨d, rfl⟩ : ∃ k, d = k + 1 := ⟨d - 1, by omega⟩
  have hd : 5 ≤ d := by omega
  refine zct_of (by decide) (Nat.le_of_ble_eq_true rfl) (lv := [(0, .ref (zad G 0)), (1, .int x1)]) rfl ?_
  unfold f_X9_comes at h
  refine zf_aload_n 0 (q := 1) (j := 0) rfl dX9_comes_0 rfl rfl ?_
  refine zf_iload_n 1 (q := 2) (j := 1) rfl dX9_comes_1 rfl rfl ?_
  obtain ⟨r1, s2, es2, h⟩ := zc h
  refine zf_callV (q := 5) (As := [.int x1]) (rest := []) (st1 := [.int r1]) rfl dX9_comes_2 lv_RX9_145 (sm0 hG) rfl rfl (Nat.le_of_ble_eq_true rfl) (ok_X9_isNet hG N (Nat.le_trans (by decide) hd) es2) rfl ?_
  refine zf_if_ne (q := 8) (tgt := 10) rfl (by decide) dX9_comes_5 (fun hc5 => ?_) (fun hc5 => ?_)
  · replace h := (zi h).2 hc5
    refine zf_aload_n 0 (q := 11) (j := 0) rfl dX9_comes_10 rfl rfl ?_
    obtain ⟨r3, s4, es4, h⟩ := zc h
    refine zf_callV (q := 14) (As := []) (rest := []) (st1 := [.int r3]) rfl dX9_comes_11 lv_RX9_216 (sm0 hG) rfl rfl (Nat.le_of_ble_eq_true rfl) (ok_X9_settleNow hG N (Nat.le_trans (by decide) hd) es4) rfl ?_
    refine zf_if_eq (q := 17) (tgt := 26) rfl (by decide) dX9_comes_14 (fun hc14 => ?_) (fun hc14 => ?_)
    · replace h := (zi h).1 hc14
      refine zf_bipush (q := 28) rfl dX9_comes_26 bpm3 ?_
      cases h
      exact zf_ireturn dX9_comes_28 rfl
    · replace h := (zi h).2 hc14
      refine zf_aload_n 0 (q := 18) (j := 0) rfl dX9_comes_17 rfl rfl ?_
      refine zf_getR (q := 21) rfl dX9_comes_18 lf_RX9_59 (sm0 hG) rfl ?_
      refine zf_iload_n 1 (q := 22) (j := 1) rfl dX9_comes_21 rfl rfl ?_
      obtain ⟨v5, ev5, h⟩ := zb h
      refine zf_iald (q := 23) rfl dX9_comes_22 (sm17 hG) ev5 ?_
      refine zf_goto (tgt := 28) (by decide) dX9_comes_23 ?_
      cases h
      exact zf_ireturn dX9_comes_28 rfl
  · replace h := (zi h).1 hc5
    refine zf_iconst (q := 9) rfl dX9_comes_8 icm1 ?_
    cases h
    exact zf_ireturn dX9_comes_9 rfl
-- ===== X9_names: NearCopiesModel.names(I)I
def f_X9_names (N : Nat) (x1 : Int32) (σ : ZM) : Option (Int32 × ZM) :=
  zbd (f_X9_isNet N x1 σ) fun r1 s2 =>
  if r1 = 0 then
  (some ((-1 : Int32), s2))
  else
  (zbd (f_X9_settleNow N s2) fun r3 s4 =>
  if r3 = 0 then
  (some ((-3 : Int32), s4))
  else
  ((zald s4 18 10 x1).bind fun v5 =>
  some (v5, s4)))
set_option maxRecDepth 100000 in
theorem ok_X9_names {G : ZG} (hG : zSH G = shM) (N : Nat) {d : Nat} (hd : 6 ≤ d) {x1 : Int32} {σ : ZM} {res : Int32 × ZM} (h : f_X9_names N x1 σ = some res) : zCt G d MX9_names [.ref (zad G 0), .int x1] σ (some (.int res.1)) res.2 := by
  obtain ⟨d, rfl⟩ : ∃ k, d = k + 1 := ⟨d - 1, by omega⟩
  have hd : 5 ≤ d := by omega
  refine zct_of (by decide) (Nat.le_of_ble_eq_true rfl) (lv := [(0, .ref (zad G 0)), (1, .int x1)]) rfl ?_
  unfold f_X9_names at h
  refine zf_aload_n 0 (q := 1) (j := 0) rfl dX9_names_0 rfl rfl ?_
  refine zf_iload_n 1 (q := 2) (j := 1) rfl dX9_names_1 rfl rfl ?_
  obtain ⟨r1, s2, es2, h⟩ := zc h
  refine zf_callV (q := 5) (As := [.int x1]) (rest := []) (st1 := [.int r1]) rfl dX9_names_2 lv_RX9_145 (sm0 hG) rfl rfl (Nat.le_of_ble_eq_true rfl) (ok_X9_isNet hG N (Nat.le_trans (by decide) hd) es2) rfl ?_
  refine zf_if_ne (q := 8) (tgt := 10) rfl (by decide) dX9_names_5 (fun hc5 => ?_) (fun hc5 => ?_)
  · replace h := (zi h).2 hc5
    refine zf_aload_n 0 (q := 11) (j := 0) rfl dX9_names_10 rfl rfl ?_
    obtain ⟨r3, s4, es4, h⟩ := zc h
    refine zf_callV (q := 14) (As := []) (rest := []) (st1 := [.int r3]) rfl dX9_names_11 lv_RX9_216 (sm0 hG) rfl rfl (Nat.le_of_ble_eq_true rfl) (ok_X9_settleNow hG N (Nat.le_trans (by decide) hd) es4) rfl ?_
    refine zf_if_eq (q := 17) (tgt := 26) rfl (by decide) dX9_names_14 (fun hc14 => ?_) (fun hc14 => ?_)
    · replace h := (zi h).1 hc14
      refine zf_bipush (q := 28) rfl dX9_names_26 bpm3 ?_
      cases h
      exact zf_ireturn dX9_names_28 rfl
    · replace h := (zi h).2 hc14
      refine zf_aload_n 0 (q := 18) (j := 0) rfl dX9_names_17 rfl rfl ?_
      refine zf_getR (q := 21) rfl dX9_names_18 lf_RX9_62 (sm0 hG) rfl ?_
      refine zf_iload_n 1 (q := 22) (j := 1) rfl dX9_names_21 rfl rfl ?_
      obtain ⟨v5, ev5, h⟩ := zb h
      refine zf_iald (q := 23) rfl dX9_names_22 (sm18 hG) ev5 ?_
      refine zf_goto (tgt := 28) (by decide) dX9_names_23 ?_
      cases h
      exact zf_ireturn dX9_names_28 rfl
  · replace h := (zi h).1 hc5
    refine zf_iconst (q := 9) rfl dX9_names_8 icm1 ?_
    cases h
    exact zf_ireturn dX9_names_9 rfl
-- ===== X9_way: NearCopiesModel.way(II)I
def f_X9_way (N : Nat) (x1 : Int32) (x2 : Int32) (σ : ZM) : Option (Int32 × ZM) :=
  zbd (f_X9_isNet N x1 σ) fun r1 s2 =>
  if r1 = 0 then
  (some ((-1 : Int32), s2))
  else
  (zbd (f_X9_settleNow N s2) fun r3 s4 =>
  if r3 = 0 then
  (some ((-3 : Int32), s4))
  else
  ((zald s4 20 10 x1).bind fun v5 =>
  zbd (f_X9_in N (Int32.toInt64 x2) (0 : Int64) (Int32.toInt64 (v5 - (1 : Int32))) s4) fun r6 s7 =>
  if r6 = 0 then
  (some ((-9 : Int32), s7))
  else
  ((zald s7 21 100 (((10 : Int32) * x1) + x2)).bind fun v8 =>
  some (v8, s7))))
set_option maxRecDepth 100000 in
theorem ok_X9_way {G : ZG} (hG : zSH G = shM) (N : Nat) {d : Nat} (hd : 6 ≤ d) {x1 : Int32} {x2 : Int32} {σ : ZM} {res : Int32 × ZM} (h : f_X9_way N x1 x2 σ = some res) : zCt G d MX9_way [.ref (zad G 0), .int x1, .int x2] σ (some (.int res.1)) res.2 := by
  obtain ⟨d, rfl⟩ : ∃ k, d = k + 1 := ⟨d - 1, by omega⟩
  have hd : 5 ≤ d := by omega
  refine zct_of (by decide) (Nat.le_of_ble_eq_true rfl) (lv := [(0, .ref (zad G 0)), (1, .int x1), (2, .int x2)]) rfl ?_
  unfold f_X9_way at h
  refine zf_aload_n 0 (q := 1) (j := 0) rfl dX9_way_0 rfl rfl ?_
  refine zf_iload_n 1 (q := 2) (j := 1) rfl dX9_way_1 rfl rfl ?_
  obtain ⟨r1, s2, es2, h⟩ := zc h
  refine zf_callV (q := 5) (As := [.int x1]) (rest := []) (st1 := [.int r1]) rfl dX9_way_2 lv_RX9_145 (sm0 hG) rfl rfl (Nat.le_of_ble_eq_true rfl) (ok_X9_isNet hG N (Nat.le_trans (by decide) hd) es2) rfl ?_
  refine zf_if_ne (q := 8) (tgt := 10) rfl (by decide) dX9_way_5 (fun hc5 => ?_) (fun hc5 => ?_)
  · replace h := (zi h).2 hc5
    refine zf_aload_n 0 (q := 11) (j := 0) rfl dX9_way_10 rfl rfl ?_
    obtain ⟨r3, s4, es4, h⟩ := zc h
    refine zf_callV (q := 14) (As := []) (rest := []) (st1 := [.int r3]) rfl dX9_way_11 lv_RX9_216 (sm0 hG) rfl rfl (Nat.le_of_ble_eq_true rfl) (ok_X9_settleNow hG N (Nat.le_trans (by decide) hd) es4) rfl ?_
    refine zf_if_ne (q := 17) (tgt := 22) rfl (by decide) dX9_way_14 (fun hc14 => ?_) (fun hc14 => ?_)
    · replace h := (zi h).2 hc14
      refine zf_iload_n 2 (q := 23) (j := 2) rfl dX9_way_22 rfl rfl ?_
      refine zf_i2l (q := 24) rfl dX9_way_23 ?_
      refine zf_lconst (q := 25) (v := 0) rfl dX9_way_24 (by decide) ?_
      refine zf_aload_n 0 (q := 26) (j := 0) rfl dX9_way_25 rfl rfl ?_
      refine zf_getR (q := 29) rfl dX9_way_26 lf_RX9_68 (sm0 hG) rfl ?_
      refine zf_iload_n 1 (q := 30) (j := 1) rfl dX9_way_29 rfl rfl ?_
      obtain ⟨v5, ev5, h⟩ := zb h
      refine zf_iald (q := 31) rfl dX9_way_30 (sm20 hG) ev5 ?_
      refine zf_iconst (q := 32) rfl dX9_way_31 ic1 ?_
      refine zf_isub (q := 33) rfl dX9_way_32 ?_
      refine zf_i2l (q := 34) rfl dX9_way_33 ?_
      obtain ⟨r6, s7, es7, h⟩ := zc h
      refine zf_callS (q := 37) (As := [.long (Int32.toInt64 x2), .long (0 : Int64), .long (Int32.toInt64 (v5 - (1 : Int32)))]) (rest := []) (st1 := [.int r6]) rfl dX9_way_34 ls_RX9_136 rfl rfl (Nat.le_of_ble_eq_true rfl) (ok_X9_in hG N (Nat.le_trans (by decide) hd) es7) rfl ?_
      refine zf_if_eq (q := 40) (tgt := 54) rfl (by decide) dX9_way_37 (fun hc37 => ?_) (fun hc37 => ?_)
      · replace h := (zi h).1 hc37
        refine zf_bipush (q := 56) rfl dX9_way_54 bpm9 ?_
        cases h
        exact zf_ireturn dX9_way_56 rfl
      · replace h := (zi h).2 hc37
        refine zf_aload_n 0 (q := 41) (j := 0) rfl dX9_way_40 rfl rfl ?_
        refine zf_getR (q := 44) rfl dX9_way_41 lf_RX9_71 (sm0 hG) rfl ?_
        refine zf_bipush (q := 46) rfl dX9_way_44 bp10 ?_
        refine zf_iload_n 1 (q := 47) (j := 1) rfl dX9_way_46 rfl rfl ?_
        refine zf_imul (q := 48) rfl dX9_way_47 ?_
        refine zf_iload_n 2 (q := 49) (j := 2) rfl dX9_way_48 rfl rfl ?_
        refine zf_iadd (q := 50) rfl dX9_way_49 ?_
        obtain ⟨v8, ev8, h⟩ := zb h
        refine zf_iald (q := 51) rfl dX9_way_50 (sm21 hG) ev8 ?_
        refine zf_goto (tgt := 56) (by decide) dX9_way_51 ?_
        cases h
        exact zf_ireturn dX9_way_56 rfl
    · replace h := (zi h).1 hc14
      refine zf_bipush (q := 19) rfl dX9_way_17 bpm3 ?_
      refine zf_goto (tgt := 56) (by decide) dX9_way_19 ?_
      cases h
      exact zf_ireturn dX9_way_56 rfl
  · replace h := (zi h).1 hc5
    refine zf_iconst (q := 9) rfl dX9_way_8 icm1 ?_
    cases h
    exact zf_ireturn dX9_way_9 rfl
-- ===== X9_come: NearCopiesModel.come(I)I
def f_X9_come_62 (N : Nat) (rec34 : Int32 → Int32 → Int32 → ZM → Option (Int32 × ZM)) (x1 : Int32) (x3 : Int32) (y0 : Int32) (y1 : Int32) (σ : ZM) : Option (Int32 × ZM) :=
  (some (y1 + y0)).bind fun v1 =>
  (some (x3 + (1 : Int32))).bind fun v2 =>
  rec34 x1 v1 v2 σ
set_option maxRecDepth 100000 in
theorem ok_X9_come_62 {G : ZG} (hG : zSH G = shM) (N : Nat) {d : Nat} (hd : 0 ≤ d) {rec34 : Int32 → Int32 → Int32 → ZM → Option (Int32 × ZM)} {res : Int32 × ZM} (hr34 : ∀ (x1 : Int32) (x2 : Int32) (x3 : Int32) (σ : ZM), rec34 x1 x2 x3 σ = some res → zF G MX9_come (d + 1) 34 [(0, .ref (zad G 0)), (1, .int x1), (2, .int x2), (3, .int x3)] [] σ (some (.int res.1)) res.2) {x1 : Int32} {x3 : Int32} {y0 : Int32} {y1 : Int32} {σ : ZM} (h : f_X9_come_62 N rec34 x1 x3 y0 y1 σ = some res) : zF G MX9_come (d + 1) 62 [(0, .ref (zad G 0)), (1, .int x1), (3, .int x3)] [.int y0, .int y1] σ (some (.int res.1)) res.2 := by
  unfold f_X9_come_62 at h
  refine zf_iadd (q := 63) rfl dX9_come_62 ?_
  obtain ⟨v1, ev1, h⟩ := zb h
  refine zf_istore_n (q := 64) (y := v1) (i := 2) (lv1 := [(2, .int v1), (0, .ref (zad G 0)), (1, .int x1), (3, .int x3)]) rfl dX9_come_63 rfl (by decide) ev1 rfl ?_
  obtain ⟨v2, ev2, h⟩ := zb h
  refine zf_iinc 3 (q := 67) (v := v2) (lv1 := [(3, .int v2), (2, .int v1), (0, .ref (zad G 0)), (1, .int x1)]) rfl dX9_come_64 rfl (by rw [ic1]; exact ev2) (by decide) rfl ?_
  refine zf_goto (tgt := 34) (by decide) dX9_come_67 ?_
  exact zf_sub [2, 3, 1, 0] rfl (hr34 _ _ _ _ h)
def f_X9_come_61 (N : Nat) (rec34 : Int32 → Int32 → Int32 → ZM → Option (Int32 × ZM)) (x1 : Int32) (x3 : Int32) (y0 : Int32) (σ : ZM) : Option (Int32 × ZM) :=
  f_X9_come_62 N rec34 x1 x3 (0 : Int32) y0 σ
set_option maxRecDepth 100000 in
theorem ok_X9_come_61 {G : ZG} (hG : zSH G = shM) (N : Nat) {d : Nat} (hd : 0 ≤ d) {rec34 : Int32 → Int32 → Int32 → ZM → Option (Int32 × ZM)} {res : Int32 × ZM} (hr34 : ∀ (x1 : Int32) (x2 : Int32) (x3 : Int32) (σ : ZM), rec34 x1 x2 x3 σ = some res → zF G MX9_come (d + 1) 34 [(0, .ref (zad G 0)), (1, .int x1), (2, .int x2), (3, .int x3)] [] σ (some (.int res.1)) res.2) {x1 : Int32} {x3 : Int32} {y0 : Int32} {σ : ZM} (h : f_X9_come_61 N rec34 x1 x3 y0 σ = some res) : zF G MX9_come (d + 1) 61 [(0, .ref (zad G 0)), (1, .int x1), (3, .int x3)] [.int y0] σ (some (.int res.1)) res.2 := by
  unfold f_X9_come_61 at h
  refine zf_iconst (q := 62) rfl dX9_come_61 ic0 ?_
  exact zf_sub [0, 1, 2] rfl (ok_X9_come_62 hG N hd hr34 h)
def b_X9_come_34 (N : Nat) (rec34 : Int32 → Int32 → Int32 → ZM → Option (Int32 × ZM)) (x1 : Int32) (x2 : Int32) (x3 : Int32) (σ : ZM) : Option (Int32 × ZM) :=
  if (σ.1 0 0) ≤ x3 then
  (some (x2, σ))
  else
  (if x3 = x1 then
  (f_X9_come_61 N rec34 x1 x3 x2 σ)
  else
  (zbd (f_X9_passes N x3 x1 σ) fun r3 s4 =>
  if r3 = 0 then
  (f_X9_come_61 N rec34 x1 x3 x2 s4)
  else
  (f_X9_come_62 N rec34 x1 x3 (1 : Int32) x2 s4)))
set_option maxRecDepth 100000 in
theorem ok_b_X9_come_34 {G : ZG} (hG : zSH G = shM) (N : Nat) {d : Nat} (hd : 0 ≤ d) {rec34 : Int32 → Int32 → Int32 → ZM → Option (Int32 × ZM)} {res : Int32 × ZM} (hr34 : ∀ (x1 : Int32) (x2 : Int32) (x3 : Int32) (σ : ZM), rec34 x1 x2 x3 σ = some res → zF G MX9_come (d + 1) 34 [(0, .ref (zad G 0)), (1, .int x1), (2, .int x2), (3, .int x3)] [] σ (some (.int res.1)) res.2) {x1 : Int32} {x2 : Int32} {x3 : Int32} {σ : ZM} (h : b_X9_come_34 N rec34 x1 x2 x3 σ = some res) : zF G MX9_come (d + 1) 34 [(0, .ref (zad G 0)), (1, .int x1), (2, .int x2), (3, .int x3)] [] σ (some (.int res.1)) res.2 := by
  unfold b_X9_come_34 at h
  refine zf_iload_n 3 (q := 35) (j := 3) rfl dX9_come_34 rfl rfl ?_
  refine zf_aload_n 0 (q := 36) (j := 0) rfl dX9_come_35 rfl rfl ?_
  refine zf_getI (q := 39) rfl dX9_come_36 lf_RX9_132 (sm0 hG) rfl ?_
  refine zf_icmp_ge (q := 42) (tgt := 70) rfl (by decide) dX9_come_39 (fun hc39 => ?_) (fun hc39 => ?_)
  · replace h := (zi h).1 hc39
    refine zf_iload_n 2 (q := 71) (j := 2) rfl dX9_come_70 rfl rfl ?_
    cases h
    exact zf_ireturn dX9_come_71 rfl
  · replace h := (zi h).2 hc39
    refine zf_iload_n 2 (q := 43) (j := 2) rfl dX9_come_42 rfl rfl ?_
    refine zf_iload_n 3 (q := 44) (j := 3) rfl dX9_come_43 rfl rfl ?_
    refine zf_iload_n 1 (q := 45) (j := 1) rfl dX9_come_44 rfl rfl ?_
    refine zf_icmp_eq (q := 48) (tgt := 61) rfl (by decide) dX9_come_45 (fun hc45 => ?_) (fun hc45 => ?_)
    · replace h := (zi h).1 hc45
      exact zf_sub [0, 1, 3] rfl (ok_X9_come_61 hG N hd hr34 h)
    · replace h := (zi h).2 hc45
      refine zf_aload_n 0 (q := 49) (j := 0) rfl dX9_come_48 rfl rfl ?_
      refine zf_iload_n 3 (q := 50) (j := 3) rfl dX9_come_49 rfl rfl ?_
      refine zf_iload_n 1 (q := 51) (j := 1) rfl dX9_come_50 rfl rfl ?_
      obtain ⟨r3, s4, es4, h⟩ := zc h
      refine zf_callV (q := 54) (As := [.int x3, .int x1]) (rest := [.int x2]) (st1 := [.int r3, .int x2]) rfl dX9_come_51 lv_RX9_189 (sm0 hG) rfl rfl (Nat.le_of_ble_eq_true rfl) (ok_X9_passes hG N (Nat.le_trans (by decide) hd) es4) rfl ?_
      refine zf_if_eq (q := 57) (tgt := 61) rfl (by decide) dX9_come_54 (fun hc54 => ?_) (fun hc54 => ?_)
      · replace h := (zi h).1 hc54
        exact zf_sub [0, 1, 3] rfl (ok_X9_come_61 hG N hd hr34 h)
      · replace h := (zi h).2 hc54
        refine zf_iconst (q := 58) rfl dX9_come_57 ic1 ?_
        refine zf_goto (tgt := 62) (by decide) dX9_come_58 ?_
        exact zf_sub [0, 1, 3] rfl (ok_X9_come_62 hG N hd hr34 h)
def f_X9_come_34 (N : Nat) : Nat → Int32 → Int32 → Int32 → ZM → Option (Int32 × ZM)
  | 0, _, _, _, _ => none
  | n + 1, x1, x2, x3, σ => b_X9_come_34 N (f_X9_come_34 N n) x1 x2 x3 σ
theorem ok_X9_come_34 {G : ZG} (hG : zSH G = shM) (N : Nat) {d : Nat} (hd : 0 ≤ d) {res : Int32 × ZM} : ∀ (n : Nat) (x1 : Int32) (x2 : Int32) (x3 : Int32) (σ : ZM), f_X9_come_34 N n x1 x2 x3 σ = some res → zF G MX9_come (d + 1) 34 [(0, .ref (zad G 0)), (1, .int x1), (2, .int x2), (3, .int x3)] [] σ (some (.int res.1)) res.2 := by
  intro n
  induction n with
  | zero => intro x1 x2 x3 σ h; exact absurd h (by simp [f_X9_come_34])
  | succ n ih => intro x1 x2 x3 σ h; rw [f_X9_come_34] at h; exact ok_b_X9_come_34 hG N hd ih h
def f_X9_come_24 (N : Nat) (rec4 : Int32 → Int32 → Int32 → ZM → Option (Int32 × ZM)) (x1 : Int32) (x3 : Int32) (y0 : Int32) (y1 : Int32) (σ : ZM) : Option (Int32 × ZM) :=
  (some (y1 + y0)).bind fun v5 =>
  (some (x3 + (1 : Int32))).bind fun v6 =>
  rec4 x1 v5 v6 σ
set_option maxRecDepth 100000 in
theorem ok_X9_come_24 {G : ZG} (hG : zSH G = shM) (N : Nat) {d : Nat} (hd : 0 ≤ d) {rec4 : Int32 → Int32 → Int32 → ZM → Option (Int32 × ZM)} {res : Int32 × ZM} (hr4 : ∀ (x1 : Int32) (x2 : Int32) (x3 : Int32) (σ : ZM), rec4 x1 x2 x3 σ = some res → zF G MX9_come (d + 1) 4 [(0, .ref (zad G 0)), (1, .int x1), (2, .int x2), (3, .int x3)] [] σ (some (.int res.1)) res.2) {x1 : Int32} {x3 : Int32} {y0 : Int32} {y1 : Int32} {σ : ZM} (h : f_X9_come_24 N rec4 x1 x3 y0 y1 σ = some res) : zF G MX9_come (d + 1) 24 [(0, .ref (zad G 0)), (1, .int x1), (3, .int x3)] [.int y0, .int y1] σ (some (.int res.1)) res.2 := by
  unfold f_X9_come_24 at h
  refine zf_iadd (q := 25) rfl dX9_come_24 ?_
  obtain ⟨v5, ev5, h⟩ := zb h
  refine zf_istore_n (q := 26) (y := v5) (i := 2) (lv1 := [(2, .int v5), (0, .ref (zad G 0)), (1, .int x1), (3, .int x3)]) rfl dX9_come_25 rfl (by decide) ev5 rfl ?_
  obtain ⟨v6, ev6, h⟩ := zb h
  refine zf_iinc 3 (q := 29) (v := v6) (lv1 := [(3, .int v6), (2, .int v5), (0, .ref (zad G 0)), (1, .int x1)]) rfl dX9_come_26 rfl (by rw [ic1]; exact ev6) (by decide) rfl ?_
  refine zf_goto (tgt := 4) (by decide) dX9_come_29 ?_
  exact zf_sub [2, 3, 1, 0] rfl (hr4 _ _ _ _ h)
def b_X9_come_4 (N : Nat) (rec4 : Int32 → Int32 → Int32 → ZM → Option (Int32 × ZM)) (x1 : Int32) (x2 : Int32) (x3 : Int32) (σ : ZM) : Option (Int32 × ZM) :=
  if (4 : Int32) ≤ x3 then
  (f_X9_come_34 N N x1 x2 (0 : Int32) σ)
  else
  (zbd (f_X9_speaks N x3 x1 σ) fun r7 s8 =>
  if r7 = 0 then
  (f_X9_come_24 N rec4 x1 x3 (0 : Int32) x2 s8)
  else
  (f_X9_come_24 N rec4 x1 x3 (1 : Int32) x2 s8))
set_option maxRecDepth 100000 in
theorem ok_b_X9_come_4 {G : ZG} (hG : zSH G = shM) (N : Nat) {d : Nat} (hd : 0 ≤ d) {rec4 : Int32 → Int32 → Int32 → ZM → Option (Int32 × ZM)} {res : Int32 × ZM} (hr4 : ∀ (x1 : Int32) (x2 : Int32) (x3 : Int32) (σ : ZM), rec4 x1 x2 x3 σ = some res → zF G MX9_come (d + 1) 4 [(0, .ref (zad G 0)), (1, .int x1), (2, .int x2), (3, .int x3)] [] σ (some (.int res.1)) res.2) {x1 : Int32} {x2 : Int32} {x3 : Int32} {σ : ZM} (h : b_X9_come_4 N rec4 x1 x2 x3 σ = some res) : zF G MX9_come (d + 1) 4 [(0, .ref (zad G 0)), (1, .int x1), (2, .int x2), (3, .int x3)] [] σ (some (.int res.1)) res.2 := by
  unfold b_X9_come_4 at h
  refine zf_iload_n 3 (q := 5) (j := 3) rfl dX9_come_4 rfl rfl ?_
  refine zf_iconst (q := 6) rfl dX9_come_5 ic4 ?_
  refine zf_icmp_ge (q := 9) (tgt := 32) rfl (by decide) dX9_come_6 (fun hc6 => ?_) (fun hc6 => ?_)
  · replace h := (zi h).1 hc6
    refine zf_iconst (q := 33) rfl dX9_come_32 ic0 ?_
    refine zf_istore_n (q := 34) (y := (0 : Int32)) (i := 3) (lv1 := [(3, .int (0 : Int32)), (0, .ref (zad G 0)), (1, .int x1), (2, .int x2)]) rfl dX9_come_33 rfl (by decide) rfl rfl ?_
    exact zf_sub [1, 2, 3, 0] rfl (ok_X9_come_34 hG N hd _ _ _ _ _ h)
  · replace h := (zi h).2 hc6
    refine zf_iload_n 2 (q := 10) (j := 2) rfl dX9_come_9 rfl rfl ?_
    refine zf_aload_n 0 (q := 11) (j := 0) rfl dX9_come_10 rfl rfl ?_
    refine zf_iload_n 3 (q := 12) (j := 3) rfl dX9_come_11 rfl rfl ?_
    refine zf_iload_n 1 (q := 13) (j := 1) rfl dX9_come_12 rfl rfl ?_
    obtain ⟨r7, s8, es8, h⟩ := zc h
    refine zf_callV (q := 16) (As := [.int x3, .int x1]) (rest := [.int x2]) (st1 := [.int r7, .int x2]) rfl dX9_come_13 lv_RX9_182 (sm0 hG) rfl rfl (Nat.le_of_ble_eq_true rfl) (ok_X9_speaks hG N (Nat.le_trans (by decide) hd) es8) rfl ?_
    refine zf_if_eq (q := 19) (tgt := 23) rfl (by decide) dX9_come_16 (fun hc16 => ?_) (fun hc16 => ?_)
    · replace h := (zi h).1 hc16
      refine zf_iconst (q := 24) rfl dX9_come_23 ic0 ?_
      exact zf_sub [0, 1, 3] rfl (ok_X9_come_24 hG N hd hr4 h)
    · replace h := (zi h).2 hc16
      refine zf_iconst (q := 20) rfl dX9_come_19 ic1 ?_
      refine zf_goto (tgt := 24) (by decide) dX9_come_20 ?_
      exact zf_sub [0, 1, 3] rfl (ok_X9_come_24 hG N hd hr4 h)
def f_X9_come_4 (N : Nat) : Nat → Int32 → Int32 → Int32 → ZM → Option (Int32 × ZM)
  | 0, _, _, _, _ => none
  | n + 1, x1, x2, x3, σ => b_X9_come_4 N (f_X9_come_4 N n) x1 x2 x3 σ
theorem ok_X9_come_4 {G : ZG} (hG : zSH G = shM) (N : Nat) {d : Nat} (hd : 0 ≤ d) {res : Int32 × ZM} : ∀ (n : Nat) (x1 : Int32) (x2 : Int32) (x3 : Int32) (σ : ZM), f_X9_come_4 N n x1 x2 x3 σ = some res → zF G MX9_come (d + 1) 4 [(0, .ref (zad G 0)), (1, .int x1), (2, .int x2), (3, .int x3)] [] σ (some (.int res.1)) res.2 := by
  intro n
  induction n with
  | zero => intro x1 x2 x3 σ h; exact absurd h (by simp [f_X9_come_4])
  | succ n ih => intro x1 x2 x3 σ h; rw [f_X9_come_4] at h; exact ok_b_X9_come_4 hG N hd ih h
def f_X9_come (N : Nat) (x1 : Int32) (σ : ZM) : Option (Int32 × ZM) :=
  f_X9_come_4 N N x1 (0 : Int32) (0 : Int32) σ
set_option maxRecDepth 100000 in
theorem ok_X9_come {G : ZG} (hG : zSH G = shM) (N : Nat) {d : Nat} (hd : 1 ≤ d) {x1 : Int32} {σ : ZM} {res : Int32 × ZM} (h : f_X9_come N x1 σ = some res) : zCt G d MX9_come [.ref (zad G 0), .int x1] σ (some (.int res.1)) res.2 := by
  obtain ⟨d, rfl⟩ : ∃ k, d = k + 1 := ⟨d - 1, by omega⟩
  have hd : 0 ≤ d := by omega
  refine zct_of (by decide) (Nat.le_of_ble_eq_true rfl) (lv := [(0, .ref (zad G 0)), (1, .int x1)]) rfl ?_
  unfold f_X9_come at h
  refine zf_iconst (q := 1) rfl dX9_come_0 ic0 ?_
  refine zf_istore_n (q := 2) (y := (0 : Int32)) (i := 2) (lv1 := [(2, .int (0 : Int32)), (0, .ref (zad G 0)), (1, .int x1)]) rfl dX9_come_1 rfl (by decide) rfl rfl ?_
  refine zf_iconst (q := 3) rfl dX9_come_2 ic0 ?_
  refine zf_istore_n (q := 4) (y := (0 : Int32)) (i := 3) (lv1 := [(3, .int (0 : Int32)), (2, .int (0 : Int32)), (0, .ref (zad G 0)), (1, .int x1)]) rfl dX9_come_3 rfl (by decide) rfl rfl ?_
  exact zf_sub [2, 3, 1, 0] rfl (ok_X9_come_4 hG N hd _ _ _ _ _ h)
-- ===== X9_told: NearCopiesModel.told(I)I
def f_X9_told (N : Nat) (x1 : Int32) (σ : ZM) : Option (Int32 × ZM) :=
  zbd (f_X9_isNet N x1 σ) fun r1 s2 =>
  if r1 = 0 then
  (some ((-1 : Int32), s2))
  else
  (zbd (f_X9_settleNow N s2) fun r3 s4 =>
  if r3 = 0 then
  (some ((-3 : Int32), s4))
  else
  (zbd (f_X9_come N x1 s4) fun r5 s6 =>
  some (r5, s6)))
set_option maxRecDepth 100000 in
theorem ok_X9_told {G : ZG} (hG : zSH G = shM) (N : Nat) {d : Nat} (hd : 6 ≤ d) {x1 : Int32} {σ : ZM} {res : Int32 × ZM} (h : f_X9_told N x1 σ = some res) : zCt G d MX9_told [.ref (zad G 0), .int x1] σ (some (.int res.1)) res.2 := by
  obtain ⟨d, rfl⟩ : ∃ k, d = k + 1 := ⟨d - 1, by omega⟩
  have hd : 5 ≤ d := by omega
  refine zct_of (by decide) (Nat.le_of_ble_eq_true rfl) (lv := [(0, .ref (zad G 0)), (1, .int x1)]) rfl ?_
  unfold f_X9_told at h
  refine zf_aload_n 0 (q := 1) (j := 0) rfl dX9_told_0 rfl rfl ?_
  refine zf_iload_n 1 (q := 2) (j := 1) rfl dX9_told_1 rfl rfl ?_
  obtain ⟨r1, s2, es2, h⟩ := zc h
  refine zf_callV (q := 5) (As := [.int x1]) (rest := []) (st1 := [.int r1]) rfl dX9_told_2 lv_RX9_145 (sm0 hG) rfl rfl (Nat.le_of_ble_eq_true rfl) (ok_X9_isNet hG N (Nat.le_trans (by decide) hd) es2) rfl ?_
  refine zf_if_ne (q := 8) (tgt := 10) rfl (by decide) dX9_told_5 (fun hc5 => ?_) (fun hc5 => ?_)
  · replace h := (zi h).2 hc5
    refine zf_aload_n 0 (q := 11) (j := 0) rfl dX9_told_10 rfl rfl ?_
    obtain ⟨r3, s4, es4, h⟩ := zc h
    refine zf_callV (q := 14) (As := []) (rest := []) (st1 := [.int r3]) rfl dX9_told_11 lv_RX9_216 (sm0 hG) rfl rfl (Nat.le_of_ble_eq_true rfl) (ok_X9_settleNow hG N (Nat.le_trans (by decide) hd) es4) rfl ?_
    refine zf_if_eq (q := 17) (tgt := 25) rfl (by decide) dX9_told_14 (fun hc14 => ?_) (fun hc14 => ?_)
    · replace h := (zi h).1 hc14
      refine zf_bipush (q := 27) rfl dX9_told_25 bpm3 ?_
      cases h
      exact zf_ireturn dX9_told_27 rfl
    · replace h := (zi h).2 hc14
      refine zf_aload_n 0 (q := 18) (j := 0) rfl dX9_told_17 rfl rfl ?_
      refine zf_iload_n 1 (q := 19) (j := 1) rfl dX9_told_18 rfl rfl ?_
      obtain ⟨r5, s6, es6, h⟩ := zc h
      refine zf_callV (q := 22) (As := [.int x1]) (rest := []) (st1 := [.int r5]) rfl dX9_told_19 lv_RX9_219 (sm0 hG) rfl rfl (Nat.le_of_ble_eq_true rfl) (ok_X9_come hG N (Nat.le_trans (by decide) hd) es6) rfl ?_
      refine zf_goto (tgt := 27) (by decide) dX9_told_22 ?_
      cases h
      exact zf_ireturn dX9_told_27 rfl
  · replace h := (zi h).1 hc5
    refine zf_iconst (q := 9) rfl dX9_told_8 icm1 ?_
    cases h
    exact zf_ireturn dX9_told_9 rfl
-- ===== X9_alike: NearCopiesModel.alike(II)I
def f_X9_alike_140 (N : Nat) (rec5 : Int32 → Int32 → Int32 → Int32 → ZM → Option (Int32 × ZM)) (x1 : Int32) (x2 : Int32) (x4 : Int32) (y0 : Int32) (y1 : Int32) (σ : ZM) : Option (Int32 × ZM) :=
  (some (y1 + y0)).bind fun v1 =>
  (some (x4 + (1 : Int32))).bind fun v2 =>
  rec5 x1 x2 v1 v2 σ
set_option maxRecDepth 100000 in
theorem ok_X9_alike_140 {G : ZG} (hG : zSH G = shM) (N : Nat) {d : Nat} (hd : 0 ≤ d) {rec5 : Int32 → Int32 → Int32 → Int32 → ZM → Option (Int32 × ZM)} {res : Int32 × ZM} (hr5 : ∀ (x1 : Int32) (x2 : Int32) (x3 : Int32) (x4 : Int32) (σ : ZM), rec5 x1 x2 x3 x4 σ = some res → zF G MX9_alike (d + 1) 5 [(0, .ref (zad G 0)), (1, .int x1), (2, .int x2), (3, .int x3), (4, .int x4)] [] σ (some (.int res.1)) res.2) {x1 : Int32} {x2 : Int32} {x4 : Int32} {y0 : Int32} {y1 : Int32} {σ : ZM} (h : f_X9_alike_140 N rec5 x1 x2 x4 y0 y1 σ = some res) : zF G MX9_alike (d + 1) 140 [(0, .ref (zad G 0)), (1, .int x1), (2, .int x2), (4, .int x4)] [.int y0, .int y1] σ (some (.int res.1)) res.2 := by
  unfold f_X9_alike_140 at h
  refine zf_iadd (q := 141) rfl dX9_alike_140 ?_
  obtain ⟨v1, ev1, h⟩ := zb h
  refine zf_istore_n (q := 142) (y := v1) (i := 3) (lv1 := [(3, .int v1), (0, .ref (zad G 0)), (1, .int x1), (2, .int x2), (4, .int x4)]) rfl dX9_alike_141 rfl (by decide) ev1 rfl ?_
  obtain ⟨v2, ev2, h⟩ := zb h
  refine zf_iinc 4 (q := 145) (v := v2) (lv1 := [(4, .int v2), (3, .int v1), (0, .ref (zad G 0)), (1, .int x1), (2, .int x2)]) rfl dX9_alike_142 rfl (by rw [ic1]; exact ev2) (by decide) rfl ?_
  refine zf_goto (tgt := 5) (by decide) dX9_alike_145 ?_
  exact zf_sub [2, 3, 4, 1, 0] rfl (hr5 _ _ _ _ _ h)
def f_X9_alike_129 (N : Nat) (rec5 : Int32 → Int32 → Int32 → Int32 → ZM → Option (Int32 × ZM)) (x1 : Int32) (x2 : Int32) (x3 : Int32) (x4 : Int32) (x5 : Int32) (σ : ZM) : Option (Int32 × ZM) :=
  if x5 = 0 then
  (f_X9_alike_140 N rec5 x1 x2 x4 (0 : Int32) x3 σ)
  else
  (f_X9_alike_140 N rec5 x1 x2 x4 (1 : Int32) x3 σ)
set_option maxRecDepth 100000 in
theorem ok_X9_alike_129 {G : ZG} (hG : zSH G = shM) (N : Nat) {d : Nat} (hd : 0 ≤ d) {rec5 : Int32 → Int32 → Int32 → Int32 → ZM → Option (Int32 × ZM)} {res : Int32 × ZM} (hr5 : ∀ (x1 : Int32) (x2 : Int32) (x3 : Int32) (x4 : Int32) (σ : ZM), rec5 x1 x2 x3 x4 σ = some res → zF G MX9_alike (d + 1) 5 [(0, .ref (zad G 0)), (1, .int x1), (2, .int x2), (3, .int x3), (4, .int x4)] [] σ (some (.int res.1)) res.2) {x1 : Int32} {x2 : Int32} {x3 : Int32} {x4 : Int32} {x5 : Int32} {σ : ZM} (h : f_X9_alike_129 N rec5 x1 x2 x3 x4 x5 σ = some res) : zF G MX9_alike (d + 1) 129 [(0, .ref (zad G 0)), (1, .int x1), (2, .int x2), (3, .int x3), (4, .int x4), (5, .int x5)] [] σ (some (.int res.1)) res.2 := by
  unfold f_X9_alike_129 at h
  refine zf_iload_n 3 (q := 130) (j := 3) rfl dX9_alike_129 rfl rfl ?_
  refine zf_iload 5 (q := 132) rfl dX9_alike_130 rfl ?_
  refine zf_if_eq (q := 135) (tgt := 139) rfl (by decide) dX9_alike_132 (fun hc132 => ?_) (fun hc132 => ?_)
  · replace h := (zi h).1 hc132
    refine zf_iconst (q := 140) rfl dX9_alike_139 ic0 ?_
    exact zf_sub [0, 1, 2, 4] rfl (ok_X9_alike_140 hG N hd hr5 h)
  · replace h := (zi h).2 hc132
    refine zf_iconst (q := 136) rfl dX9_alike_135 ic1 ?_
    refine zf_goto (tgt := 140) (by decide) dX9_alike_136 ?_
    exact zf_sub [0, 1, 2, 4] rfl (ok_X9_alike_140 hG N hd hr5 h)
def f_X9_alike_121 (N : Nat) (rec5 : Int32 → Int32 → Int32 → Int32 → ZM → Option (Int32 × ZM)) (rec67 : Int32 → Int32 → Int32 → Int32 → Int32 → Int32 → ZM → Option (Int32 × ZM)) (x1 : Int32) (x2 : Int32) (x3 : Int32) (x4 : Int32) (x6 : Int32) (y0 : Int32) (σ : ZM) : Option (Int32 × ZM) :=
  (some (x6 + (1 : Int32))).bind fun v3 =>
  rec67 x1 x2 x3 x4 y0 v3 σ
set_option maxRecDepth 100000 in
theorem ok_X9_alike_121 {G : ZG} (hG : zSH G = shM) (N : Nat) {d : Nat} (hd : 0 ≤ d) {rec5 : Int32 → Int32 → Int32 → Int32 → ZM → Option (Int32 × ZM)} {rec67 : Int32 → Int32 → Int32 → Int32 → Int32 → Int32 → ZM → Option (Int32 × ZM)} {res : Int32 × ZM} (hr5 : ∀ (x1 : Int32) (x2 : Int32) (x3 : Int32) (x4 : Int32) (σ : ZM), rec5 x1 x2 x3 x4 σ = some res → zF G MX9_alike (d + 1) 5 [(0, .ref (zad G 0)), (1, .int x1), (2, .int x2), (3, .int x3), (4, .int x4)] [] σ (some (.int res.1)) res.2) (hr67 : ∀ (x1 : Int32) (x2 : Int32) (x3 : Int32) (x4 : Int32) (x5 : Int32) (x6 : Int32) (σ : ZM), rec67 x1 x2 x3 x4 x5 x6 σ = some res → zF G MX9_alike (d + 1) 67 [(0, .ref (zad G 0)), (1, .int x1), (2, .int x2), (3, .int x3), (4, .int x4), (5, .int x5), (6, .int x6)] [] σ (some (.int res.1)) res.2) {x1 : Int32} {x2 : Int32} {x3 : Int32} {x4 : Int32} {x6 : Int32} {y0 : Int32} {σ : ZM} (h : f_X9_alike_121 N rec5 rec67 x1 x2 x3 x4 x6 y0 σ = some res) : zF G MX9_alike (d + 1) 121 [(0, .ref (zad G 0)), (1, .int x1), (2, .int x2), (3, .int x3), (4, .int x4), (6, .int x6)] [.int y0] σ (some (.int res.1)) res.2 := by
  unfold f_X9_alike_121 at h
  refine zf_istore (q := 123) (y := y0) (i := 5) (lv1 := [(5, .int y0), (0, .ref (zad G 0)), (1, .int x1), (2, .int x2), (3, .int x3), (4, .int x4), (6, .int x6)]) rfl dX9_alike_121 (by decide) rfl rfl ?_
  obtain ⟨v3, ev3, h⟩ := zb h
  refine zf_iinc 6 (q := 126) (v := v3) (lv1 := [(6, .int v3), (5, .int y0), (0, .ref (zad G 0)), (1, .int x1), (2, .int x2), (3, .int x3), (4, .int x4)]) rfl dX9_alike_123 rfl (by rw [ic1]; exact ev3) (by decide) rfl ?_
  refine zf_goto (tgt := 67) (by decide) dX9_alike_126 ?_
  exact zf_sub [2, 3, 4, 5, 6, 1, 0] rfl (hr67 _ _ _ _ _ _ _ h)
def b_X9_alike_67 (N : Nat) (rec5 : Int32 → Int32 → Int32 → Int32 → ZM → Option (Int32 × ZM)) (rec67 : Int32 → Int32 → Int32 → Int32 → Int32 → Int32 → ZM → Option (Int32 × ZM)) (x1 : Int32) (x2 : Int32) (x3 : Int32) (x4 : Int32) (x5 : Int32) (x6 : Int32) (σ : ZM) : Option (Int32 × ZM) :=
  if x2 ≤ x6 then
  (f_X9_alike_129 N rec5 x1 x2 x3 x4 x5 σ)
  else
  (if x5 = 0 then
  (f_X9_alike_129 N rec5 x1 x2 x3 x4 x5 σ)
  else
  ((zald σ 16 10 x1).bind fun v4 =>
  zbd (f_X9_thing N v4 x6 σ) fun r5 s6 =>
  zbd (f_X9_worth N x1 x4 r5 s6) fun r7 s8 =>
  (zald s8 19 10 x1).bind fun v9 =>
  zbd (f_X9_worth N x1 v9 r5 s8) fun r10 s11 =>
  if r7 = r10 then
  (f_X9_alike_121 N rec5 rec67 x1 x2 x3 x4 x6 (1 : Int32) s11)
  else
  (f_X9_alike_121 N rec5 rec67 x1 x2 x3 x4 x6 (0 : Int32) s11)))
set_option maxRecDepth 100000 in
theorem ok_b_X9_alike_67 {G : ZG} (hG : zSH G = shM) (N : Nat) {d : Nat} (hd : 0 ≤ d) {rec5 : Int32 → Int32 → Int32 → Int32 → ZM → Option (Int32 × ZM)} {rec67 : Int32 → Int32 → Int32 → Int32 → Int32 → Int32 → ZM → Option (Int32 × ZM)} {res : Int32 × ZM} (hr5 : ∀ (x1 : Int32) (x2 : Int32) (x3 : Int32) (x4 : Int32) (σ : ZM), rec5 x1 x2 x3 x4 σ = some res → zF G MX9_alike (d + 1) 5 [(0, .ref (zad G 0)), (1, .int x1), (2, .int x2), (3, .int x3), (4, .int x4)] [] σ (some (.int res.1)) res.2) (hr67 : ∀ (x1 : Int32) (x2 : Int32) (x3 : Int32) (x4 : Int32) (x5 : Int32) (x6 : Int32) (σ : ZM), rec67 x1 x2 x3 x4 x5 x6 σ = some res → zF G MX9_alike (d + 1) 67 [(0, .ref (zad G 0)), (1, .int x1), (2, .int x2), (3, .int x3), (4, .int x4), (5, .int x5), (6, .int x6)] [] σ (some (.int res.1)) res.2) {x1 : Int32} {x2 : Int32} {x3 : Int32} {x4 : Int32} {x5 : Int32} {x6 : Int32} {σ : ZM} (h : b_X9_alike_67 N rec5 rec67 x1 x2 x3 x4 x5 x6 σ = some res) : zF G MX9_alike (d + 1) 67 [(0, .ref (zad G 0)), (1, .int x1), (2, .int x2), (3, .int x3), (4, .int x4), (5, .int x5), (6, .int x6)] [] σ (some (.int res.1)) res.2 := by
  unfold b_X9_alike_67 at h
  refine zf_iload 6 (q := 69) rfl dX9_alike_67 rfl ?_
  refine zf_iload_n 2 (q := 70) (j := 2) rfl dX9_alike_69 rfl rfl ?_
  refine zf_icmp_ge (q := 73) (tgt := 129) rfl (by decide) dX9_alike_70 (fun hc70 => ?_) (fun hc70 => ?_)
  · replace h := (zi h).1 hc70
    exact zf_sub [0, 1, 2, 3, 4, 5] rfl (ok_X9_alike_129 hG N hd hr5 h)
  · replace h := (zi h).2 hc70
    refine zf_iload 5 (q := 75) rfl dX9_alike_73 rfl ?_
    refine zf_if_eq (q := 78) (tgt := 129) rfl (by decide) dX9_alike_75 (fun hc75 => ?_) (fun hc75 => ?_)
    · replace h := (zi h).1 hc75
      exact zf_sub [0, 1, 2, 3, 4, 5] rfl (ok_X9_alike_129 hG N hd hr5 h)
    · replace h := (zi h).2 hc75
      refine zf_aload_n 0 (q := 79) (j := 0) rfl dX9_alike_78 rfl rfl ?_
      refine zf_getR (q := 82) rfl dX9_alike_79 lf_RX9_56 (sm0 hG) rfl ?_
      refine zf_iload_n 1 (q := 83) (j := 1) rfl dX9_alike_82 rfl rfl ?_
      obtain ⟨v4, ev4, h⟩ := zb h
      refine zf_iald (q := 84) rfl dX9_alike_83 (sm16 hG) ev4 ?_
      refine zf_iload 6 (q := 86) rfl dX9_alike_84 rfl ?_
      obtain ⟨r5, s6, es6, h⟩ := zc h
      refine zf_callS (q := 89) (As := [.int v4, .int x6]) (rest := []) (st1 := [.int r5]) rfl dX9_alike_86 ls_RX9_174 rfl rfl (Nat.le_of_ble_eq_true rfl) (ok_X9_thing hG N (Nat.le_trans (by decide) hd) es6) rfl ?_
      refine zf_istore (q := 91) (y := r5) (i := 7) (lv1 := [(7, .int r5), (0, .ref (zad G 0)), (1, .int x1), (2, .int x2), (3, .int x3), (4, .int x4), (5, .int x5), (6, .int x6)]) rfl dX9_alike_89 (by decide) rfl rfl ?_
      refine zf_aload_n 1 (q := 92) (j := 0) rfl dX9_alike_91 rfl rfl ?_
      refine zf_iload_n 2 (q := 93) (j := 1) rfl dX9_alike_92 rfl rfl ?_
      refine zf_iload 5 (q := 95) rfl dX9_alike_93 rfl ?_
      refine zf_iload 0 (q := 97) rfl dX9_alike_95 rfl ?_
      obtain ⟨r7, s8, es8, h⟩ := zc h
      refine zf_callV (q := 100) (As := [.int x1, .int x4, .int r5]) (rest := []) (st1 := [.int r7]) rfl dX9_alike_97 lv_RX9_178 (sm0 hG) rfl rfl (Nat.le_of_ble_eq_true rfl) (ok_X9_worth hG N (Nat.le_trans (by decide) hd) es8) rfl ?_
      refine zf_aload_n 1 (q := 101) (j := 0) rfl dX9_alike_100 rfl rfl ?_
      refine zf_iload_n 2 (q := 102) (j := 1) rfl dX9_alike_101 rfl rfl ?_
      refine zf_aload_n 1 (q := 103) (j := 0) rfl dX9_alike_102 rfl rfl ?_
      refine zf_getR (q := 106) rfl dX9_alike_103 lf_RX9_65 (sm0 hG) rfl ?_
      refine zf_iload_n 2 (q := 107) (j := 1) rfl dX9_alike_106 rfl rfl ?_
      obtain ⟨v9, ev9, h⟩ := zb h
      refine zf_iald (q := 108) rfl dX9_alike_107 (sm19 hG) ev9 ?_
      refine zf_iload 0 (q := 110) rfl dX9_alike_108 rfl ?_
      obtain ⟨r10, s11, es11, h⟩ := zc h
      refine zf_callV (q := 113) (As := [.int x1, .int v9, .int r5]) (rest := [.int r7]) (st1 := [.int r10, .int r7]) rfl dX9_alike_110 lv_RX9_178 (sm0 hG) rfl rfl (Nat.le_of_ble_eq_true rfl) (ok_X9_worth hG N (Nat.le_trans (by decide) hd) es11) rfl ?_
      refine zf_icmp_ne (q := 116) (tgt := 120) rfl (by decide) dX9_alike_113 (fun hc113 => ?_) (fun hc113 => ?_)
      · replace h := (zi h).2 hc113
        refine zf_iconst (q := 121) rfl dX9_alike_120 ic0 ?_
        exact zf_sub [1, 2, 3, 4, 5, 7] rfl (ok_X9_alike_121 hG N hd hr5 hr67 h)
      · replace h := (zi h).1 hc113
        refine zf_iconst (q := 117) rfl dX9_alike_116 ic1 ?_
        refine zf_goto (tgt := 121) (by decide) dX9_alike_117 ?_
        exact zf_sub [1, 2, 3, 4, 5, 7] rfl (ok_X9_alike_121 hG N hd hr5 hr67 h)
def f_X9_alike_67 (N : Nat) (rec5 : Int32 → Int32 → Int32 → Int32 → ZM → Option (Int32 × ZM)) : Nat → Int32 → Int32 → Int32 → Int32 → Int32 → Int32 → ZM → Option (Int32 × ZM)
  | 0, _, _, _, _, _, _, _ => none
  | n + 1, x1, x2, x3, x4, x5, x6, σ => b_X9_alike_67 N rec5 (f_X9_alike_67 N rec5 n) x1 x2 x3 x4 x5 x6 σ
theorem ok_X9_alike_67 {G : ZG} (hG : zSH G = shM) (N : Nat) {d : Nat} (hd : 0 ≤ d) {rec5 : Int32 → Int32 → Int32 → Int32 → ZM → Option (Int32 × ZM)} {res : Int32 × ZM} (hr5 : ∀ (x1 : Int32) (x2 : Int32) (x3 : Int32) (x4 : Int32) (σ : ZM), rec5 x1 x2 x3 x4 σ = some res → zF G MX9_alike (d + 1) 5 [(0, .ref (zad G 0)), (1, .int x1), (2, .int x2), (3, .int x3), (4, .int x4)] [] σ (some (.int res.1)) res.2) : ∀ (n : Nat) (x1 : Int32) (x2 : Int32) (x3 : Int32) (x4 : Int32) (x5 : Int32) (x6 : Int32) (σ : ZM), f_X9_alike_67 N rec5 n x1 x2 x3 x4 x5 x6 σ = some res → zF G MX9_alike (d + 1) 67 [(0, .ref (zad G 0)), (1, .int x1), (2, .int x2), (3, .int x3), (4, .int x4), (5, .int x5), (6, .int x6)] [] σ (some (.int res.1)) res.2 := by
  intro n
  induction n with
  | zero => intro x1 x2 x3 x4 x5 x6 σ h; exact absurd h (by simp [f_X9_alike_67])
  | succ n ih => intro x1 x2 x3 x4 x5 x6 σ h; rw [f_X9_alike_67] at h; exact ok_b_X9_alike_67 hG N hd hr5 ih h
def f_X9_alike_62 (N : Nat) (rec5 : Int32 → Int32 → Int32 → Int32 → ZM → Option (Int32 × ZM)) (x1 : Int32) (x2 : Int32) (x3 : Int32) (x4 : Int32) (y0 : Int32) (σ : ZM) : Option (Int32 × ZM) :=
  f_X9_alike_67 N rec5 N x1 x2 x3 x4 y0 (0 : Int32) σ
set_option maxRecDepth 100000 in
theorem ok_X9_alike_62 {G : ZG} (hG : zSH G = shM) (N : Nat) {d : Nat} (hd : 0 ≤ d) {rec5 : Int32 → Int32 → Int32 → Int32 → ZM → Option (Int32 × ZM)} {res : Int32 × ZM} (hr5 : ∀ (x1 : Int32) (x2 : Int32) (x3 : Int32) (x4 : Int32) (σ : ZM), rec5 x1 x2 x3 x4 σ = some res → zF G MX9_alike (d + 1) 5 [(0, .ref (zad G 0)), (1, .int x1), (2, .int x2), (3, .int x3), (4, .int x4)] [] σ (some (.int res.1)) res.2) {x1 : Int32} {x2 : Int32} {x3 : Int32} {x4 : Int32} {y0 : Int32} {σ : ZM} (h : f_X9_alike_62 N rec5 x1 x2 x3 x4 y0 σ = some res) : zF G MX9_alike (d + 1) 62 [(0, .ref (zad G 0)), (1, .int x1), (2, .int x2), (3, .int x3), (4, .int x4)] [.int y0] σ (some (.int res.1)) res.2 := by
  unfold f_X9_alike_62 at h
  refine zf_istore (q := 64) (y := y0) (i := 5) (lv1 := [(5, .int y0), (0, .ref (zad G 0)), (1, .int x1), (2, .int x2), (3, .int x3), (4, .int x4)]) rfl dX9_alike_62 (by decide) rfl rfl ?_
  refine zf_iconst (q := 65) rfl dX9_alike_64 ic0 ?_
  refine zf_istore (q := 67) (y := (0 : Int32)) (i := 6) (lv1 := [(6, .int (0 : Int32)), (5, .int y0), (0, .ref (zad G 0)), (1, .int x1), (2, .int x2), (3, .int x3), (4, .int x4)]) rfl dX9_alike_65 (by decide) rfl rfl ?_
  exact zf_sub [2, 3, 4, 5, 6, 1, 0] rfl (ok_X9_alike_67 hG N hd hr5 _ _ _ _ _ _ _ _ h)
def f_X9_alike_48 (N : Nat) (rec5 : Int32 → Int32 → Int32 → Int32 → ZM → Option (Int32 × ZM)) (x1 : Int32) (x2 : Int32) (x3 : Int32) (x4 : Int32) (σ : ZM) : Option (Int32 × ZM) :=
  f_X9_alike_62 N rec5 x1 x2 x3 x4 (0 : Int32) σ
set_option maxRecDepth 100000 in
theorem ok_X9_alike_48 {G : ZG} (hG : zSH G = shM) (N : Nat) {d : Nat} (hd : 0 ≤ d) {rec5 : Int32 → Int32 → Int32 → Int32 → ZM → Option (Int32 × ZM)} {res : Int32 × ZM} (hr5 : ∀ (x1 : Int32) (x2 : Int32) (x3 : Int32) (x4 : Int32) (σ : ZM), rec5 x1 x2 x3 x4 σ = some res → zF G MX9_alike (d + 1) 5 [(0, .ref (zad G 0)), (1, .int x1), (2, .int x2), (3, .int x3), (4, .int x4)] [] σ (some (.int res.1)) res.2) {x1 : Int32} {x2 : Int32} {x3 : Int32} {x4 : Int32} {σ : ZM} (h : f_X9_alike_48 N rec5 x1 x2 x3 x4 σ = some res) : zF G MX9_alike (d + 1) 48 [(0, .ref (zad G 0)), (1, .int x1), (2, .int x2), (3, .int x3), (4, .int x4)] [] σ (some (.int res.1)) res.2 := by
  unfold f_X9_alike_48 at h
  refine zf_iconst (q := 49) rfl dX9_alike_48 ic0 ?_
  refine zf_goto (tgt := 62) (by decide) dX9_alike_49 ?_
  exact zf_sub [0, 1, 2, 3, 4] rfl (ok_X9_alike_62 hG N hd hr5 h)
def b_X9_alike_5 (N : Nat) (rec5 : Int32 → Int32 → Int32 → Int32 → ZM → Option (Int32 × ZM)) (x1 : Int32) (x2 : Int32) (x3 : Int32) (x4 : Int32) (σ : ZM) : Option (Int32 × ZM) :=
  if (20 : Int32) ≤ x4 then
  (some (x3, σ))
  else
  (if (16 : Int32) ≤ x4 then
  (zbd (f_X9_speaks N (x4 - (16 : Int32)) x1 σ) fun r12 s13 =>
  f_X9_alike_62 N rec5 x1 x2 x3 x4 r12 s13)
  else
  (if (σ.1 0 0) ≤ x4 then
  (f_X9_alike_48 N rec5 x1 x2 x3 x4 σ)
  else
  (if x4 = x1 then
  (f_X9_alike_48 N rec5 x1 x2 x3 x4 σ)
  else
  (zbd (f_X9_passes N x4 x1 σ) fun r14 s15 =>
  if r14 = 0 then
  (f_X9_alike_48 N rec5 x1 x2 x3 x4 s15)
  else
  (f_X9_alike_62 N rec5 x1 x2 x3 x4 (1 : Int32) s15)))))
set_option maxRecDepth 100000 in
theorem ok_b_X9_alike_5 {G : ZG} (hG : zSH G = shM) (N : Nat) {d : Nat} (hd : 0 ≤ d) {rec5 : Int32 → Int32 → Int32 → Int32 → ZM → Option (Int32 × ZM)} {res : Int32 × ZM} (hr5 : ∀ (x1 : Int32) (x2 : Int32) (x3 : Int32) (x4 : Int32) (σ : ZM), rec5 x1 x2 x3 x4 σ = some res → zF G MX9_alike (d + 1) 5 [(0, .ref (zad G 0)), (1, .int x1), (2, .int x2), (3, .int x3), (4, .int x4)] [] σ (some (.int res.1)) res.2) {x1 : Int32} {x2 : Int32} {x3 : Int32} {x4 : Int32} {σ : ZM} (h : b_X9_alike_5 N rec5 x1 x2 x3 x4 σ = some res) : zF G MX9_alike (d + 1) 5 [(0, .ref (zad G 0)), (1, .int x1), (2, .int x2), (3, .int x3), (4, .int x4)] [] σ (some (.int res.1)) res.2 := by
  unfold b_X9_alike_5 at h
  refine zf_iload 4 (q := 7) rfl dX9_alike_5 rfl ?_
  refine zf_bipush (q := 9) rfl dX9_alike_7 bp20 ?_
  refine zf_icmp_ge (q := 12) (tgt := 148) rfl (by decide) dX9_alike_9 (fun hc9 => ?_) (fun hc9 => ?_)
  · replace h := (zi h).1 hc9
    refine zf_iload_n 3 (q := 149) (j := 3) rfl dX9_alike_148 rfl rfl ?_
    cases h
    exact zf_ireturn dX9_alike_149 rfl
  · replace h := (zi h).2 hc9
    refine zf_iload 4 (q := 14) rfl dX9_alike_12 rfl ?_
    refine zf_bipush (q := 16) rfl dX9_alike_14 bp16 ?_
    refine zf_icmp_ge (q := 19) (tgt := 52) rfl (by decide) dX9_alike_16 (fun hc16 => ?_) (fun hc16 => ?_)
    · replace h := (zi h).1 hc16
      refine zf_aload_n 0 (q := 53) (j := 0) rfl dX9_alike_52 rfl rfl ?_
      refine zf_iload 4 (q := 55) rfl dX9_alike_53 rfl ?_
      refine zf_bipush (q := 57) rfl dX9_alike_55 bp16 ?_
      refine zf_isub (q := 58) rfl dX9_alike_57 ?_
      refine zf_iload_n 1 (q := 59) (j := 1) rfl dX9_alike_58 rfl rfl ?_
      obtain ⟨r12, s13, es13, h⟩ := zc h
      refine zf_callV (q := 62) (As := [.int (x4 - (16 : Int32)), .int x1]) (rest := []) (st1 := [.int r12]) rfl dX9_alike_59 lv_RX9_182 (sm0 hG) rfl rfl (Nat.le_of_ble_eq_true rfl) (ok_X9_speaks hG N (Nat.le_trans (by decide) hd) es13) rfl ?_
      exact zf_sub [0, 1, 2, 3, 4] rfl (ok_X9_alike_62 hG N hd hr5 h)
    · replace h := (zi h).2 hc16
      refine zf_iload 4 (q := 21) rfl dX9_alike_19 rfl ?_
      refine zf_aload_n 0 (q := 22) (j := 0) rfl dX9_alike_21 rfl rfl ?_
      refine zf_getI (q := 25) rfl dX9_alike_22 lf_RX9_132 (sm0 hG) rfl ?_
      refine zf_icmp_ge (q := 28) (tgt := 48) rfl (by decide) dX9_alike_25 (fun hc25 => ?_) (fun hc25 => ?_)
      · replace h := (zi h).1 hc25
        exact zf_sub [0, 1, 2, 3, 4] rfl (ok_X9_alike_48 hG N hd hr5 h)
      · replace h := (zi h).2 hc25
        refine zf_iload 4 (q := 30) rfl dX9_alike_28 rfl ?_
        refine zf_iload_n 1 (q := 31) (j := 1) rfl dX9_alike_30 rfl rfl ?_
        refine zf_icmp_eq (q := 34) (tgt := 48) rfl (by decide) dX9_alike_31 (fun hc31 => ?_) (fun hc31 => ?_)
        · replace h := (zi h).1 hc31
          exact zf_sub [0, 1, 2, 3, 4] rfl (ok_X9_alike_48 hG N hd hr5 h)
        · replace h := (zi h).2 hc31
          refine zf_aload_n 0 (q := 35) (j := 0) rfl dX9_alike_34 rfl rfl ?_
          refine zf_iload 4 (q := 37) rfl dX9_alike_35 rfl ?_
          refine zf_iload_n 1 (q := 38) (j := 1) rfl dX9_alike_37 rfl rfl ?_
          obtain ⟨r14, s15, es15, h⟩ := zc h
          refine zf_callV (q := 41) (As := [.int x4, .int x1]) (rest := []) (st1 := [.int r14]) rfl dX9_alike_38 lv_RX9_189 (sm0 hG) rfl rfl (Nat.le_of_ble_eq_true rfl) (ok_X9_passes hG N (Nat.le_trans (by decide) hd) es15) rfl ?_
          refine zf_if_eq (q := 44) (tgt := 48) rfl (by decide) dX9_alike_41 (fun hc41 => ?_) (fun hc41 => ?_)
          · replace h := (zi h).1 hc41
            exact zf_sub [0, 1, 2, 3, 4] rfl (ok_X9_alike_48 hG N hd hr5 h)
          · replace h := (zi h).2 hc41
            refine zf_iconst (q := 45) rfl dX9_alike_44 ic1 ?_
            refine zf_goto (tgt := 62) (by decide) dX9_alike_45 ?_
            exact zf_sub [0, 1, 2, 3, 4] rfl (ok_X9_alike_62 hG N hd hr5 h)
def f_X9_alike_5 (N : Nat) : Nat → Int32 → Int32 → Int32 → Int32 → ZM → Option (Int32 × ZM)
  | 0, _, _, _, _, _ => none
  | n + 1, x1, x2, x3, x4, σ => b_X9_alike_5 N (f_X9_alike_5 N n) x1 x2 x3 x4 σ
theorem ok_X9_alike_5 {G : ZG} (hG : zSH G = shM) (N : Nat) {d : Nat} (hd : 0 ≤ d) {res : Int32 × ZM} : ∀ (n : Nat) (x1 : Int32) (x2 : Int32) (x3 : Int32) (x4 : Int32) (σ : ZM), f_X9_alike_5 N n x1 x2 x3 x4 σ = some res → zF G MX9_alike (d + 1) 5 [(0, .ref (zad G 0)), (1, .int x1), (2, .int x2), (3, .int x3), (4, .int x4)] [] σ (some (.int res.1)) res.2 := by
  intro n
  induction n with
  | zero => intro x1 x2 x3 x4 σ h; exact absurd h (by simp [f_X9_alike_5])
  | succ n ih => intro x1 x2 x3 x4 σ h; rw [f_X9_alike_5] at h; exact ok_b_X9_alike_5 hG N hd ih h
def f_X9_alike (N : Nat) (x1 : Int32) (x2 : Int32) (σ : ZM) : Option (Int32 × ZM) :=
  f_X9_alike_5 N N x1 x2 (0 : Int32) (0 : Int32) σ
set_option maxRecDepth 100000 in
theorem ok_X9_alike {G : ZG} (hG : zSH G = shM) (N : Nat) {d : Nat} (hd : 1 ≤ d) {x1 : Int32} {x2 : Int32} {σ : ZM} {res : Int32 × ZM} (h : f_X9_alike N x1 x2 σ = some res) : zCt G d MX9_alike [.ref (zad G 0), .int x1, .int x2] σ (some (.int res.1)) res.2 := by
  obtain ⟨d, rfl⟩ : ∃ k, d = k + 1 := ⟨d - 1, by omega⟩
  have hd : 0 ≤ d := by omega
  refine zct_of (by decide) (Nat.le_of_ble_eq_true rfl) (lv := [(0, .ref (zad G 0)), (1, .int x1), (2, .int x2)]) rfl ?_
  unfold f_X9_alike at h
  refine zf_iconst (q := 1) rfl dX9_alike_0 ic0 ?_
  refine zf_istore_n (q := 2) (y := (0 : Int32)) (i := 3) (lv1 := [(3, .int (0 : Int32)), (0, .ref (zad G 0)), (1, .int x1), (2, .int x2)]) rfl dX9_alike_1 rfl (by decide) rfl rfl ?_
  refine zf_iconst (q := 3) rfl dX9_alike_2 ic0 ?_
  refine zf_istore (q := 5) (y := (0 : Int32)) (i := 4) (lv1 := [(4, .int (0 : Int32)), (3, .int (0 : Int32)), (0, .ref (zad G 0)), (1, .int x1), (2, .int x2)]) rfl dX9_alike_3 (by decide) rfl rfl ?_
  exact zf_sub [2, 3, 4, 1, 0] rfl (ok_X9_alike_5 hG N hd _ _ _ _ _ _ h)
-- ===== X9_why: NearCopiesModel.why(I)I
def b_X9_why_36 (N : Nat) (rec36 : Int32 → Int32 → ZM → Option (Int32 × ZM)) (x1 : Int32) (x2 : Int32) (σ : ZM) : Option (Int32 × ZM) :=
  zbd (f_X9_alike N x1 x2 σ) fun r1 s2 =>
  if r1 ≤ (1 : Int32) then
  (if x2 = 0 then
  (some ((0 : Int32), s2))
  else
  ((zald s2 16 10 x1).bind fun v3 =>
  zbd (f_X9_thing N v3 (x2 - (1 : Int32)) s2) fun r4 s5 =>
  some (r4, s5)))
  else
  ((some (x2 + (1 : Int32))).bind fun v6 =>
  rec36 x1 v6 s2)
set_option maxRecDepth 100000 in
theorem ok_b_X9_why_36 {G : ZG} (hG : zSH G = shM) (N : Nat) {d : Nat} (hd : 5 ≤ d) {rec36 : Int32 → Int32 → ZM → Option (Int32 × ZM)} {res : Int32 × ZM} (hr36 : ∀ (x1 : Int32) (x2 : Int32) (σ : ZM), rec36 x1 x2 σ = some res → zF G MX9_why (d + 1) 36 [(0, .ref (zad G 0)), (1, .int x1), (2, .int x2)] [] σ (some (.int res.1)) res.2) {x1 : Int32} {x2 : Int32} {σ : ZM} (h : b_X9_why_36 N rec36 x1 x2 σ = some res) : zF G MX9_why (d + 1) 36 [(0, .ref (zad G 0)), (1, .int x1), (2, .int x2)] [] σ (some (.int res.1)) res.2 := by
  unfold b_X9_why_36 at h
  refine zf_aload_n 0 (q := 37) (j := 0) rfl dX9_why_36 rfl rfl ?_
  refine zf_iload_n 1 (q := 38) (j := 1) rfl dX9_why_37 rfl rfl ?_
  refine zf_iload_n 2 (q := 39) (j := 2) rfl dX9_why_38 rfl rfl ?_
  obtain ⟨r1, s2, es2, h⟩ := zc h
  refine zf_callV (q := 42) (As := [.int x1, .int x2]) (rest := []) (st1 := [.int r1]) rfl dX9_why_39 lv_RX9_222 (sm0 hG) rfl rfl (Nat.le_of_ble_eq_true rfl) (ok_X9_alike hG N (Nat.le_trans (by decide) hd) es2) rfl ?_
  refine zf_iconst (q := 43) rfl dX9_why_42 ic1 ?_
  refine zf_icmp_le (q := 46) (tgt := 52) rfl (by decide) dX9_why_43 (fun hc43 => ?_) (fun hc43 => ?_)
  · replace h := (zi h).1 hc43
    refine zf_iload_n 2 (q := 53) (j := 2) rfl dX9_why_52 rfl rfl ?_
    refine zf_if_ne (q := 56) (tgt := 60) rfl (by decide) dX9_why_53 (fun hc53 => ?_) (fun hc53 => ?_)
    · replace h := (zi h).2 hc53
      refine zf_aload_n 0 (q := 61) (j := 0) rfl dX9_why_60 rfl rfl ?_
      refine zf_getR (q := 64) rfl dX9_why_61 lf_RX9_56 (sm0 hG) rfl ?_
      refine zf_iload_n 1 (q := 65) (j := 1) rfl dX9_why_64 rfl rfl ?_
      obtain ⟨v3, ev3, h⟩ := zb h
      refine zf_iald (q := 66) rfl dX9_why_65 (sm16 hG) ev3 ?_
      refine zf_iload_n 2 (q := 67) (j := 2) rfl dX9_why_66 rfl rfl ?_
      refine zf_iconst (q := 68) rfl dX9_why_67 ic1 ?_
      refine zf_isub (q := 69) rfl dX9_why_68 ?_
      obtain ⟨r4, s5, es5, h⟩ := zc h
      refine zf_callS (q := 72) (As := [.int v3, .int (x2 - (1 : Int32))]) (rest := []) (st1 := [.int r4]) rfl dX9_why_69 ls_RX9_174 rfl rfl (Nat.le_of_ble_eq_true rfl) (ok_X9_thing hG N (Nat.le_trans (by decide) hd) es5) rfl ?_
      cases h
      exact zf_ireturn dX9_why_72 rfl
    · replace h := (zi h).1 hc53
      refine zf_iconst (q := 57) rfl dX9_why_56 ic0 ?_
      refine zf_goto (tgt := 72) (by decide) dX9_why_57 ?_
      cases h
      exact zf_ireturn dX9_why_72 rfl
  · replace h := (zi h).2 hc43
    obtain ⟨v6, ev6, h⟩ := zb h
    refine zf_iinc 2 (q := 49) (v := v6) (lv1 := [(2, .int v6), (0, .ref (zad G 0)), (1, .int x1)]) rfl dX9_why_46 rfl (by rw [ic1]; exact ev6) (by decide) rfl ?_
    refine zf_goto (tgt := 36) (by decide) dX9_why_49 ?_
    exact zf_sub [1, 2, 0] rfl (hr36 _ _ _ h)
def f_X9_why_36 (N : Nat) : Nat → Int32 → Int32 → ZM → Option (Int32 × ZM)
  | 0, _, _, _ => none
  | n + 1, x1, x2, σ => b_X9_why_36 N (f_X9_why_36 N n) x1 x2 σ
theorem ok_X9_why_36 {G : ZG} (hG : zSH G = shM) (N : Nat) {d : Nat} (hd : 5 ≤ d) {res : Int32 × ZM} : ∀ (n : Nat) (x1 : Int32) (x2 : Int32) (σ : ZM), f_X9_why_36 N n x1 x2 σ = some res → zF G MX9_why (d + 1) 36 [(0, .ref (zad G 0)), (1, .int x1), (2, .int x2)] [] σ (some (.int res.1)) res.2 := by
  intro n
  induction n with
  | zero => intro x1 x2 σ h; exact absurd h (by simp [f_X9_why_36])
  | succ n ih => intro x1 x2 σ h; rw [f_X9_why_36] at h; exact ok_b_X9_why_36 hG N hd ih h
def f_X9_why (N : Nat) (x1 : Int32) (σ : ZM) : Option (Int32 × ZM) :=
  zbd (f_X9_isNet N x1 σ) fun r7 s8 =>
  if r7 = 0 then
  (some ((-1 : Int32), s8))
  else
  (zbd (f_X9_settleNow N s8) fun r9 s10 =>
  if r9 = 0 then
  (some ((-3 : Int32), s10))
  else
  ((zald s10 17 10 x1).bind fun v11 =>
  if v11 = (-9 : Int32) then
  (some ((-9 : Int32), s10))
  else
  (f_X9_why_36 N N x1 (0 : Int32) s10)))
set_option maxRecDepth 100000 in
theorem ok_X9_why {G : ZG} (hG : zSH G = shM) (N : Nat) {d : Nat} (hd : 6 ≤ d) {x1 : Int32} {σ : ZM} {res : Int32 × ZM} (h : f_X9_why N x1 σ = some res) : zCt G d MX9_why [.ref (zad G 0), .int x1] σ (some (.int res.1)) res.2 := by
  obtain ⟨d, rfl⟩ : ∃ k, d = k + 1 := ⟨d - 1, by omega⟩
  have hd : 5 ≤ d := by omega
  refine zct_of (by decide) (Nat.le_of_ble_eq_true rfl) (lv := [(0, .ref (zad G 0)), (1, .int x1)]) rfl ?_
  unfold f_X9_why at h
  refine zf_aload_n 0 (q := 1) (j := 0) rfl dX9_why_0 rfl rfl ?_
  refine zf_iload_n 1 (q := 2) (j := 1) rfl dX9_why_1 rfl rfl ?_
  obtain ⟨r7, s8, es8, h⟩ := zc h
  refine zf_callV (q := 5) (As := [.int x1]) (rest := []) (st1 := [.int r7]) rfl dX9_why_2 lv_RX9_145 (sm0 hG) rfl rfl (Nat.le_of_ble_eq_true rfl) (ok_X9_isNet hG N (Nat.le_trans (by decide) hd) es8) rfl ?_
  refine zf_if_ne (q := 8) (tgt := 10) rfl (by decide) dX9_why_5 (fun hc5 => ?_) (fun hc5 => ?_)
  · replace h := (zi h).2 hc5
    refine zf_aload_n 0 (q := 11) (j := 0) rfl dX9_why_10 rfl rfl ?_
    obtain ⟨r9, s10, es10, h⟩ := zc h
    refine zf_callV (q := 14) (As := []) (rest := []) (st1 := [.int r9]) rfl dX9_why_11 lv_RX9_216 (sm0 hG) rfl rfl (Nat.le_of_ble_eq_true rfl) (ok_X9_settleNow hG N (Nat.le_trans (by decide) hd) es10) rfl ?_
    refine zf_if_ne (q := 17) (tgt := 20) rfl (by decide) dX9_why_14 (fun hc14 => ?_) (fun hc14 => ?_)
    · replace h := (zi h).2 hc14
      refine zf_aload_n 0 (q := 21) (j := 0) rfl dX9_why_20 rfl rfl ?_
      refine zf_getR (q := 24) rfl dX9_why_21 lf_RX9_59 (sm0 hG) rfl ?_
      refine zf_iload_n 1 (q := 25) (j := 1) rfl dX9_why_24 rfl rfl ?_
      obtain ⟨v11, ev11, h⟩ := zb h
      refine zf_iald (q := 26) rfl dX9_why_25 (sm17 hG) ev11 ?_
      refine zf_bipush (q := 28) rfl dX9_why_26 bpm9 ?_
      refine zf_icmp_ne (q := 31) (tgt := 34) rfl (by decide) dX9_why_28 (fun hc28 => ?_) (fun hc28 => ?_)
      · replace h := (zi h).2 hc28
        refine zf_iconst (q := 35) rfl dX9_why_34 ic0 ?_
        refine zf_istore_n (q := 36) (y := (0 : Int32)) (i := 2) (lv1 := [(2, .int (0 : Int32)), (0, .ref (zad G 0)), (1, .int x1)]) rfl dX9_why_35 rfl (by decide) rfl rfl ?_
        exact zf_sub [1, 2, 0] rfl (ok_X9_why_36 hG N hd _ _ _ _ h)
      · replace h := (zi h).1 hc28
        refine zf_bipush (q := 33) rfl dX9_why_31 bpm9 ?_
        cases h
        exact zf_ireturn dX9_why_33 rfl
    · replace h := (zi h).1 hc14
      refine zf_bipush (q := 19) rfl dX9_why_17 bpm3 ?_
      cases h
      exact zf_ireturn dX9_why_19 rfl
  · replace h := (zi h).1 hc5
    refine zf_iconst (q := 9) rfl dX9_why_8 icm1 ?_
    cases h
    exact zf_ireturn dX9_why_9 rfl
-- ===== X9_loadOf: NearCopiesModel.loadOf(I)I
def f_X9_loadOf_33 (N : Nat) (rec4 : Int32 → Int32 → Int32 → ZM → Option (Int32 × ZM)) (x1 : Int32) (x3 : Int32) (y0 : Int32) (y1 : Int32) (σ : ZM) : Option (Int32 × ZM) :=
  (some (y1 + y0)).bind fun v1 =>
  (some (x3 + (1 : Int32))).bind fun v2 =>
  rec4 x1 v1 v2 σ
set_option maxRecDepth 100000 in
theorem ok_X9_loadOf_33 {G : ZG} (hG : zSH G = shM) (N : Nat) {d : Nat} {rec4 : Int32 → Int32 → Int32 → ZM → Option (Int32 × ZM)} {res : Int32 × ZM} (hr4 : ∀ (x1 : Int32) (x2 : Int32) (x3 : Int32) (σ : ZM), rec4 x1 x2 x3 σ = some res → zF G MX9_loadOf d 4 [(0, .ref (zad G 0)), (1, .int x1), (2, .int x2), (3, .int x3)] [] σ (some (.int res.1)) res.2) {x1 : Int32} {x3 : Int32} {y0 : Int32} {y1 : Int32} {σ : ZM} (h : f_X9_loadOf_33 N rec4 x1 x3 y0 y1 σ = some res) : zF G MX9_loadOf d 33 [(0, .ref (zad G 0)), (1, .int x1), (3, .int x3)] [.int y0, .int y1] σ (some (.int res.1)) res.2 := by
  unfold f_X9_loadOf_33 at h
  refine zf_iadd (q := 34) rfl dX9_loadOf_33 ?_
  obtain ⟨v1, ev1, h⟩ := zb h
  refine zf_istore_n (q := 35) (y := v1) (i := 2) (lv1 := [(2, .int v1), (0, .ref (zad G 0)), (1, .int x1), (3, .int x3)]) rfl dX9_loadOf_34 rfl (by decide) ev1 rfl ?_
  obtain ⟨v2, ev2, h⟩ := zb h
  refine zf_iinc 3 (q := 38) (v := v2) (lv1 := [(3, .int v2), (2, .int v1), (0, .ref (zad G 0)), (1, .int x1)]) rfl dX9_loadOf_35 rfl (by rw [ic1]; exact ev2) (by decide) rfl ?_
  refine zf_goto (tgt := 4) (by decide) dX9_loadOf_38 ?_
  exact zf_sub [2, 3, 1, 0] rfl (hr4 _ _ _ _ h)
def b_X9_loadOf_4 (N : Nat) (rec4 : Int32 → Int32 → Int32 → ZM → Option (Int32 × ZM)) (x1 : Int32) (x2 : Int32) (x3 : Int32) (σ : ZM) : Option (Int32 × ZM) :=
  if (σ.1 0 0) ≤ x3 then
  (some (x2, σ))
  else
  ((zald σ 17 10 x3).bind fun v3 =>
  if v3 = x1 then
  ((zald σ 2 10 x3).bind fun v4 =>
  f_X9_loadOf_33 N rec4 x1 x3 v4 x2 σ)
  else
  (f_X9_loadOf_33 N rec4 x1 x3 (0 : Int32) x2 σ))
set_option maxRecDepth 100000 in
theorem ok_b_X9_loadOf_4 {G : ZG} (hG : zSH G = shM) (N : Nat) {d : Nat} {rec4 : Int32 → Int32 → Int32 → ZM → Option (Int32 × ZM)} {res : Int32 × ZM} (hr4 : ∀ (x1 : Int32) (x2 : Int32) (x3 : Int32) (σ : ZM), rec4 x1 x2 x3 σ = some res → zF G MX9_loadOf d 4 [(0, .ref (zad G 0)), (1, .int x1), (2, .int x2), (3, .int x3)] [] σ (some (.int res.1)) res.2) {x1 : Int32} {x2 : Int32} {x3 : Int32} {σ : ZM} (h : b_X9_loadOf_4 N rec4 x1 x2 x3 σ = some res) : zF G MX9_loadOf d 4 [(0, .ref (zad G 0)), (1, .int x1), (2, .int x2), (3, .int x3)] [] σ (some (.int res.1)) res.2 := by
  unfold b_X9_loadOf_4 at h
  refine zf_iload_n 3 (q := 5) (j := 3) rfl dX9_loadOf_4 rfl rfl ?_
  refine zf_aload_n 0 (q := 6) (j := 0) rfl dX9_loadOf_5 rfl rfl ?_
  refine zf_getI (q := 9) rfl dX9_loadOf_6 lf_RX9_132 (sm0 hG) rfl ?_
  refine zf_icmp_ge (q := 12) (tgt := 41) rfl (by decide) dX9_loadOf_9 (fun hc9 => ?_) (fun hc9 => ?_)
  · replace h := (zi h).1 hc9
    refine zf_iload_n 2 (q := 42) (j := 2) rfl dX9_loadOf_41 rfl rfl ?_
    cases h
    exact zf_ireturn dX9_loadOf_42 rfl
  · replace h := (zi h).2 hc9
    refine zf_iload_n 2 (q := 13) (j := 2) rfl dX9_loadOf_12 rfl rfl ?_
    refine zf_aload_n 0 (q := 14) (j := 0) rfl dX9_loadOf_13 rfl rfl ?_
    refine zf_getR (q := 17) rfl dX9_loadOf_14 lf_RX9_59 (sm0 hG) rfl ?_
    refine zf_iload_n 3 (q := 18) (j := 3) rfl dX9_loadOf_17 rfl rfl ?_
    obtain ⟨v3, ev3, h⟩ := zb h
    refine zf_iald (q := 19) rfl dX9_loadOf_18 (sm17 hG) ev3 ?_
    refine zf_iload_n 1 (q := 20) (j := 1) rfl dX9_loadOf_19 rfl rfl ?_
    refine zf_icmp_ne (q := 23) (tgt := 32) rfl (by decide) dX9_loadOf_20 (fun hc20 => ?_) (fun hc20 => ?_)
    · replace h := (zi h).2 hc20
      refine zf_iconst (q := 33) rfl dX9_loadOf_32 ic0 ?_
      exact zf_sub [0, 1, 3] rfl (ok_X9_loadOf_33 hG N hr4 h)
    · replace h := (zi h).1 hc20
      refine zf_aload_n 0 (q := 24) (j := 0) rfl dX9_loadOf_23 rfl rfl ?_
      refine zf_getR (q := 27) rfl dX9_loadOf_24 lf_RX9_13 (sm0 hG) rfl ?_
      refine zf_iload_n 3 (q := 28) (j := 3) rfl dX9_loadOf_27 rfl rfl ?_
      obtain ⟨v4, ev4, h⟩ := zb h
      refine zf_iald (q := 29) rfl dX9_loadOf_28 (sm2 hG) ev4 ?_
      refine zf_goto (tgt := 33) (by decide) dX9_loadOf_29 ?_
      exact zf_sub [0, 1, 3] rfl (ok_X9_loadOf_33 hG N hr4 h)
def f_X9_loadOf_4 (N : Nat) : Nat → Int32 → Int32 → Int32 → ZM → Option (Int32 × ZM)
  | 0, _, _, _, _ => none
  | n + 1, x1, x2, x3, σ => b_X9_loadOf_4 N (f_X9_loadOf_4 N n) x1 x2 x3 σ
theorem ok_X9_loadOf_4 {G : ZG} (hG : zSH G = shM) (N : Nat) {d : Nat} {res : Int32 × ZM} : ∀ (n : Nat) (x1 : Int32) (x2 : Int32) (x3 : Int32) (σ : ZM), f_X9_loadOf_4 N n x1 x2 x3 σ = some res → zF G MX9_loadOf d 4 [(0, .ref (zad G 0)), (1, .int x1), (2, .int x2), (3, .int x3)] [] σ (some (.int res.1)) res.2 := by
  intro n
  induction n with
  | zero => intro x1 x2 x3 σ h; exact absurd h (by simp [f_X9_loadOf_4])
  | succ n ih => intro x1 x2 x3 σ h; rw [f_X9_loadOf_4] at h; exact ok_b_X9_loadOf_4 hG N ih h
def f_X9_loadOf (N : Nat) (x1 : Int32) (σ : ZM) : Option (Int32 × ZM) :=
  f_X9_loadOf_4 N N x1 (0 : Int32) (0 : Int32) σ
set_option maxRecDepth 100000 in
theorem ok_X9_loadOf {G : ZG} (hG : zSH G = shM) (N : Nat) {d : Nat} (hd : 0 ≤ d) {x1 : Int32} {σ : ZM} {res : Int32 × ZM} (h : f_X9_loadOf N x1 σ = some res) : zCt G d MX9_loadOf [.ref (zad G 0), .int x1] σ (some (.int res.1)) res.2 := by
  refine zct_of (by decide) (Nat.le_of_ble_eq_true rfl) (lv := [(0, .ref (zad G 0)), (1, .int x1)]) rfl ?_
  unfold f_X9_loadOf at h
  refine zf_iconst (q := 1) rfl dX9_loadOf_0 ic0 ?_
  refine zf_istore_n (q := 2) (y := (0 : Int32)) (i := 2) (lv1 := [(2, .int (0 : Int32)), (0, .ref (zad G 0)), (1, .int x1)]) rfl dX9_loadOf_1 rfl (by decide) rfl rfl ?_
  refine zf_iconst (q := 3) rfl dX9_loadOf_2 ic0 ?_
  refine zf_istore_n (q := 4) (y := (0 : Int32)) (i := 3) (lv1 := [(3, .int (0 : Int32)), (2, .int (0 : Int32)), (0, .ref (zad G 0)), (1, .int x1)]) rfl dX9_loadOf_3 rfl (by decide) rfl rfl ?_
  exact zf_sub [2, 3, 1, 0] rfl (ok_X9_loadOf_4 hG N _ _ _ _ _ h)
-- ===== X9_excessOf: NearCopiesModel.excessOf()I
def f_X9_excessOf_35 (N : Nat) (rec4 : Int32 → Int32 → ZM → Option (Int32 × ZM)) (x2 : Int32) (y0 : Int32) (y1 : Int32) (σ : ZM) : Option (Int32 × ZM) :=
  (some (y1 + y0)).bind fun v1 =>
  (some (x2 + (1 : Int32))).bind fun v2 =>
  rec4 v1 v2 σ
set_option maxRecDepth 100000 in
theorem ok_X9_excessOf_35 {G : ZG} (hG : zSH G = shM) (N : Nat) {d : Nat} (hd : 0 ≤ d) {rec4 : Int32 → Int32 → ZM → Option (Int32 × ZM)} {res : Int32 × ZM} (hr4 : ∀ (x1 : Int32) (x2 : Int32) (σ : ZM), rec4 x1 x2 σ = some res → zF G MX9_excessOf (d + 1) 4 [(0, .ref (zad G 0)), (1, .int x1), (2, .int x2)] [] σ (some (.int res.1)) res.2) {x2 : Int32} {y0 : Int32} {y1 : Int32} {σ : ZM} (h : f_X9_excessOf_35 N rec4 x2 y0 y1 σ = some res) : zF G MX9_excessOf (d + 1) 35 [(0, .ref (zad G 0)), (2, .int x2)] [.int y0, .int y1] σ (some (.int res.1)) res.2 := by
  unfold f_X9_excessOf_35 at h
  refine zf_iadd (q := 36) rfl dX9_excessOf_35 ?_
  obtain ⟨v1, ev1, h⟩ := zb h
  refine zf_istore_n (q := 37) (y := v1) (i := 1) (lv1 := [(1, .int v1), (0, .ref (zad G 0)), (2, .int x2)]) rfl dX9_excessOf_36 rfl (by decide) ev1 rfl ?_
  obtain ⟨v2, ev2, h⟩ := zb h
  refine zf_iinc 2 (q := 40) (v := v2) (lv1 := [(2, .int v2), (1, .int v1), (0, .ref (zad G 0))]) rfl dX9_excessOf_37 rfl (by rw [ic1]; exact ev2) (by decide) rfl ?_
  refine zf_goto (tgt := 4) (by decide) dX9_excessOf_40 ?_
  exact zf_sub [2, 1, 0] rfl (hr4 _ _ _ h)
def b_X9_excessOf_4 (N : Nat) (rec4 : Int32 → Int32 → ZM → Option (Int32 × ZM)) (x1 : Int32) (x2 : Int32) (σ : ZM) : Option (Int32 × ZM) :=
  if (σ.1 0 5) ≤ x2 then
  (some (x1, σ))
  else
  (zbd (f_X9_loadOf N x2 σ) fun r3 s4 =>
  (zald s4 5 4 x2).bind fun v5 =>
  (some (r3 - v5)).bind fun v6 =>
  if v6 ≤ 0 then
  (f_X9_excessOf_35 N rec4 x2 (0 : Int32) x1 s4)
  else
  (f_X9_excessOf_35 N rec4 x2 v6 x1 s4))
set_option maxRecDepth 100000 in
theorem ok_b_X9_excessOf_4 {G : ZG} (hG : zSH G = shM) (N : Nat) {d : Nat} (hd : 0 ≤ d) {rec4 : Int32 → Int32 → ZM → Option (Int32 × ZM)} {res : Int32 × ZM} (hr4 : ∀ (x1 : Int32) (x2 : Int32) (σ : ZM), rec4 x1 x2 σ = some res → zF G MX9_excessOf (d + 1) 4 [(0, .ref (zad G 0)), (1, .int x1), (2, .int x2)] [] σ (some (.int res.1)) res.2) {x1 : Int32} {x2 : Int32} {σ : ZM} (h : b_X9_excessOf_4 N rec4 x1 x2 σ = some res) : zF G MX9_excessOf (d + 1) 4 [(0, .ref (zad G 0)), (1, .int x1), (2, .int x2)] [] σ (some (.int res.1)) res.2 := by
  unfold b_X9_excessOf_4 at h
  refine zf_iload_n 2 (q := 5) (j := 2) rfl dX9_excessOf_4 rfl rfl ?_
  refine zf_aload_n 0 (q := 6) (j := 0) rfl dX9_excessOf_5 rfl rfl ?_
  refine zf_getI (q := 9) rfl dX9_excessOf_6 lf_RX9_140 (sm0 hG) rfl ?_
  refine zf_icmp_ge (q := 12) (tgt := 43) rfl (by decide) dX9_excessOf_9 (fun hc9 => ?_) (fun hc9 => ?_)
  · replace h := (zi h).1 hc9
    refine zf_iload_n 1 (q := 44) (j := 1) rfl dX9_excessOf_43 rfl rfl ?_
    cases h
    exact zf_ireturn dX9_excessOf_44 rfl
  · replace h := (zi h).2 hc9
    refine zf_aload_n 0 (q := 13) (j := 0) rfl dX9_excessOf_12 rfl rfl ?_
    refine zf_iload_n 2 (q := 14) (j := 2) rfl dX9_excessOf_13 rfl rfl ?_
    obtain ⟨r3, s4, es4, h⟩ := zc h
    refine zf_callV (q := 17) (As := [.int x2]) (rest := []) (st1 := [.int r3]) rfl dX9_excessOf_14 lv_RX9_225 (sm0 hG) rfl rfl (Nat.le_of_ble_eq_true rfl) (ok_X9_loadOf hG N (Nat.le_trans (by decide) hd) es4) rfl ?_
    refine zf_aload_n 0 (q := 18) (j := 0) rfl dX9_excessOf_17 rfl rfl ?_
    refine zf_getR (q := 21) rfl dX9_excessOf_18 lf_RX9_22 (sm0 hG) rfl ?_
    refine zf_iload_n 2 (q := 22) (j := 2) rfl dX9_excessOf_21 rfl rfl ?_
    obtain ⟨v5, ev5, h⟩ := zb h
    refine zf_iald (q := 23) rfl dX9_excessOf_22 (sm5 hG) ev5 ?_
    refine zf_isub (q := 24) rfl dX9_excessOf_23 ?_
    obtain ⟨v6, ev6, h⟩ := zb h
    refine zf_istore_n (q := 25) (y := v6) (i := 3) (lv1 := [(3, .int v6), (0, .ref (zad G 0)), (1, .int x1), (2, .int x2)]) rfl dX9_excessOf_24 rfl (by decide) ev6 rfl ?_
    refine zf_iload_n 2 (q := 26) (j := 1) rfl dX9_excessOf_25 rfl rfl ?_
    refine zf_iload_n 0 (q := 27) (j := 3) rfl dX9_excessOf_26 rfl rfl ?_
    refine zf_if_le (q := 30) (tgt := 34) rfl (by decide) dX9_excessOf_27 (fun hc27 => ?_) (fun hc27 => ?_)
    · replace h := (zi h).1 hc27
      refine zf_iconst (q := 35) rfl dX9_excessOf_34 ic0 ?_
      exact zf_sub [1, 3] rfl (ok_X9_excessOf_35 hG N hd hr4 h)
    · replace h := (zi h).2 hc27
      refine zf_iload_n 0 (q := 31) (j := 3) rfl dX9_excessOf_30 rfl rfl ?_
      refine zf_goto (tgt := 35) (by decide) dX9_excessOf_31 ?_
      exact zf_sub [1, 3] rfl (ok_X9_excessOf_35 hG N hd hr4 h)
def f_X9_excessOf_4 (N : Nat) : Nat → Int32 → Int32 → ZM → Option (Int32 × ZM)
  | 0, _, _, _ => none
  | n + 1, x1, x2, σ => b_X9_excessOf_4 N (f_X9_excessOf_4 N n) x1 x2 σ
theorem ok_X9_excessOf_4 {G : ZG} (hG : zSH G = shM) (N : Nat) {d : Nat} (hd : 0 ≤ d) {res : Int32 × ZM} : ∀ (n : Nat) (x1 : Int32) (x2 : Int32) (σ : ZM), f_X9_excessOf_4 N n x1 x2 σ = some res → zF G MX9_excessOf (d + 1) 4 [(0, .ref (zad G 0)), (1, .int x1), (2, .int x2)] [] σ (some (.int res.1)) res.2 := by
  intro n
  induction n with
  | zero => intro x1 x2 σ h; exact absurd h (by simp [f_X9_excessOf_4])
  | succ n ih => intro x1 x2 σ h; rw [f_X9_excessOf_4] at h; exact ok_b_X9_excessOf_4 hG N hd ih h
def f_X9_excessOf (N : Nat) (σ : ZM) : Option (Int32 × ZM) :=
  f_X9_excessOf_4 N N (0 : Int32) (0 : Int32) σ
set_option maxRecDepth 100000 in
theorem ok_X9_excessOf {G : ZG} (hG : zSH G = shM) (N : Nat) {d : Nat} (hd : 1 ≤ d) {σ : ZM} {res : Int32 × ZM} (h : f_X9_excessOf N σ = some res) : zCt G d MX9_excessOf [.ref (zad G 0)] σ (some (.int res.1)) res.2 := by
  obtain ⟨d, rfl⟩ : ∃ k, d = k + 1 := ⟨d - 1, by omega⟩
  have hd : 0 ≤ d := by omega
  refine zct_of (by decide) (Nat.le_of_ble_eq_true rfl) (lv := [(0, .ref (zad G 0))]) rfl ?_
  unfold f_X9_excessOf at h
  refine zf_iconst (q := 1) rfl dX9_excessOf_0 ic0 ?_
  refine zf_istore_n (q := 2) (y := (0 : Int32)) (i := 1) (lv1 := [(1, .int (0 : Int32)), (0, .ref (zad G 0))]) rfl dX9_excessOf_1 rfl (by decide) rfl rfl ?_
  refine zf_iconst (q := 3) rfl dX9_excessOf_2 ic0 ?_
  refine zf_istore_n (q := 4) (y := (0 : Int32)) (i := 2) (lv1 := [(2, .int (0 : Int32)), (1, .int (0 : Int32)), (0, .ref (zad G 0))]) rfl dX9_excessOf_3 rfl (by decide) rfl rfl ?_
  exact zf_sub [2, 1, 0] rfl (ok_X9_excessOf_4 hG N hd _ _ _ _ h)
-- ===== X9_sumOf: NearCopiesModel.sumOf()J
def f_X9_sumOf_52 (N : Nat) (rec4 : Int64 → Int32 → ZM → Option (Int64 × ZM)) (x3 : Int32) (y0 : Int32) (y1 : Int64) (y2 : Int64) (σ : ZM) : Option (Int64 × ZM) :=
  (some (y2 + (y1 * (Int32.toInt64 y0)))).bind fun v1 =>
  (some (x3 + (1 : Int32))).bind fun v2 =>
  rec4 v1 v2 σ
set_option maxRecDepth 100000 in
theorem ok_X9_sumOf_52 {G : ZG} (hG : zSH G = shM) (N : Nat) {d : Nat} {rec4 : Int64 → Int32 → ZM → Option (Int64 × ZM)} {res : Int64 × ZM} (hr4 : ∀ (x1 : Int64) (x3 : Int32) (σ : ZM), rec4 x1 x3 σ = some res → zF G MX9_sumOf d 4 [(0, .ref (zad G 0)), (1, .long x1), (3, .int x3)] [] σ (some (.long res.1)) res.2) {x3 : Int32} {y0 : Int32} {y1 : Int64} {y2 : Int64} {σ : ZM} (h : f_X9_sumOf_52 N rec4 x3 y0 y1 y2 σ = some res) : zF G MX9_sumOf d 52 [(0, .ref (zad G 0)), (3, .int x3)] [.int y0, .long y1, .long y2] σ (some (.long res.1)) res.2 := by
  unfold f_X9_sumOf_52 at h
  refine zf_i2l (q := 53) rfl dX9_sumOf_52 ?_
  refine zf_lmul (q := 54) rfl dX9_sumOf_53 ?_
  refine zf_ladd (q := 55) rfl dX9_sumOf_54 ?_
  obtain ⟨v1, ev1, h⟩ := zb h
  refine zf_lstore_n (q := 56) (y := v1) (i := 1) (lv1 := [(1, .long v1), (0, .ref (zad G 0)), (3, .int x3)]) rfl dX9_sumOf_55 rfl (by decide) ev1 rfl ?_
  obtain ⟨v2, ev2, h⟩ := zb h
  refine zf_iinc 2 (q := 59) (v := v2) (lv1 := [(3, .int v2), (1, .long v1), (0, .ref (zad G 0))]) rfl dX9_sumOf_56 rfl (by rw [ic1]; exact ev2) (by decide) rfl ?_
  refine zf_goto (tgt := 4) (by decide) dX9_sumOf_59 ?_
  exact zf_sub [2, 1, 0] rfl (hr4 _ _ _ h)
def b_X9_sumOf_4 (N : Nat) (rec4 : Int64 → Int32 → ZM → Option (Int64 × ZM)) (x1 : Int64) (x3 : Int32) (σ : ZM) : Option (Int64 × ZM) :=
  if (σ.1 0 0) ≤ x3 then
  (some (x1, σ))
  else
  ((zald σ 2 10 x3).bind fun v3 =>
  (zald σ 17 10 x3).bind fun v4 =>
  if v4 = (-9 : Int32) then
  (f_X9_sumOf_52 N rec4 x3 (1000 : Int32) (Int32.toInt64 v3) x1 σ)
  else
  ((zald σ 17 10 x3).bind fun v5 =>
  (zald σ 10 40 (((4 : Int32) * x3) + v5)).bind fun v6 =>
  f_X9_sumOf_52 N rec4 x3 v6 (Int32.toInt64 v3) x1 σ))
set_option maxRecDepth 100000 in
theorem ok_b_X9_sumOf_4 {G : ZG} (hG : zSH G = shM) (N : Nat) {d : Nat} {rec4 : Int64 → Int32 → ZM → Option (Int64 × ZM)} {res : Int64 × ZM} (hr4 : ∀ (x1 : Int64) (x3 : Int32) (σ : ZM), rec4 x1 x3 σ = some res → zF G MX9_sumOf d 4 [(0, .ref (zad G 0)), (1, .long x1), (3, .int x3)] [] σ (some (.long res.1)) res.2) {x1 : Int64} {x3 : Int32} {σ : ZM} (h : b_X9_sumOf_4 N rec4 x1 x3 σ = some res) : zF G MX9_sumOf d 4 [(0, .ref (zad G 0)), (1, .long x1), (3, .int x3)] [] σ (some (.long res.1)) res.2 := by
  unfold b_X9_sumOf_4 at h
  refine zf_iload_n 2 (q := 5) (j := 3) rfl dX9_sumOf_4 rfl rfl ?_
  refine zf_aload_n 0 (q := 6) (j := 0) rfl dX9_sumOf_5 rfl rfl ?_
  refine zf_getI (q := 9) rfl dX9_sumOf_6 lf_RX9_132 (sm0 hG) rfl ?_
  refine zf_icmp_ge (q := 12) (tgt := 62) rfl (by decide) dX9_sumOf_9 (fun hc9 => ?_) (fun hc9 => ?_)
  · replace h := (zi h).1 hc9
    refine zf_lload_n 1 (q := 63) (j := 1) rfl dX9_sumOf_62 rfl rfl ?_
    cases h
    exact zf_lreturn dX9_sumOf_63 rfl
  · replace h := (zi h).2 hc9
    refine zf_lload_n 1 (q := 13) (j := 1) rfl dX9_sumOf_12 rfl rfl ?_
    refine zf_aload_n 0 (q := 14) (j := 0) rfl dX9_sumOf_13 rfl rfl ?_
    refine zf_getR (q := 17) rfl dX9_sumOf_14 lf_RX9_13 (sm0 hG) rfl ?_
    refine zf_iload_n 2 (q := 18) (j := 3) rfl dX9_sumOf_17 rfl rfl ?_
    obtain ⟨v3, ev3, h⟩ := zb h
    refine zf_iald (q := 19) rfl dX9_sumOf_18 (sm2 hG) ev3 ?_
    refine zf_i2l (q := 20) rfl dX9_sumOf_19 ?_
    refine zf_aload_n 0 (q := 21) (j := 0) rfl dX9_sumOf_20 rfl rfl ?_
    refine zf_getR (q := 24) rfl dX9_sumOf_21 lf_RX9_59 (sm0 hG) rfl ?_
    refine zf_iload_n 2 (q := 25) (j := 3) rfl dX9_sumOf_24 rfl rfl ?_
    obtain ⟨v4, ev4, h⟩ := zb h
    refine zf_iald (q := 26) rfl dX9_sumOf_25 (sm17 hG) ev4 ?_
    refine zf_bipush (q := 28) rfl dX9_sumOf_26 bpm9 ?_
    refine zf_icmp_ne (q := 31) (tgt := 37) rfl (by decide) dX9_sumOf_28 (fun hc28 => ?_) (fun hc28 => ?_)
    · replace h := (zi h).2 hc28
      refine zf_aload_n 0 (q := 38) (j := 0) rfl dX9_sumOf_37 rfl rfl ?_
      refine zf_getR (q := 41) rfl dX9_sumOf_38 lf_RX9_38 (sm0 hG) rfl ?_
      refine zf_iconst (q := 42) rfl dX9_sumOf_41 ic4 ?_
      refine zf_iload_n 2 (q := 43) (j := 3) rfl dX9_sumOf_42 rfl rfl ?_
      refine zf_imul (q := 44) rfl dX9_sumOf_43 ?_
      refine zf_aload_n 0 (q := 45) (j := 0) rfl dX9_sumOf_44 rfl rfl ?_
      refine zf_getR (q := 48) rfl dX9_sumOf_45 lf_RX9_59 (sm0 hG) rfl ?_
      refine zf_iload_n 2 (q := 49) (j := 3) rfl dX9_sumOf_48 rfl rfl ?_
      obtain ⟨v5, ev5, h⟩ := zb h
      refine zf_iald (q := 50) rfl dX9_sumOf_49 (sm17 hG) ev5 ?_
      refine zf_iadd (q := 51) rfl dX9_sumOf_50 ?_
      obtain ⟨v6, ev6, h⟩ := zb h
      refine zf_iald (q := 52) rfl dX9_sumOf_51 (sm10 hG) ev6 ?_
      exact zf_sub [0, 2] rfl (ok_X9_sumOf_52 hG N hr4 h)
    · replace h := (zi h).1 hc28
      refine zf_sipush (q := 34) rfl dX9_sumOf_31 sp1000 ?_
      refine zf_goto (tgt := 52) (by decide) dX9_sumOf_34 ?_
      exact zf_sub [0, 2] rfl (ok_X9_sumOf_52 hG N hr4 h)
def f_X9_sumOf_4 (N : Nat) : Nat → Int64 → Int32 → ZM → Option (Int64 × ZM)
  | 0, _, _, _ => none
  | n + 1, x1, x3, σ => b_X9_sumOf_4 N (f_X9_sumOf_4 N n) x1 x3 σ
theorem ok_X9_sumOf_4 {G : ZG} (hG : zSH G = shM) (N : Nat) {d : Nat} {res : Int64 × ZM} : ∀ (n : Nat) (x1 : Int64) (x3 : Int32) (σ : ZM), f_X9_sumOf_4 N n x1 x3 σ = some res → zF G MX9_sumOf d 4 [(0, .ref (zad G 0)), (1, .long x1), (3, .int x3)] [] σ (some (.long res.1)) res.2 := by
  intro n
  induction n with
  | zero => intro x1 x3 σ h; exact absurd h (by simp [f_X9_sumOf_4])
  | succ n ih => intro x1 x3 σ h; rw [f_X9_sumOf_4] at h; exact ok_b_X9_sumOf_4 hG N ih h
def f_X9_sumOf (N : Nat) (σ : ZM) : Option (Int64 × ZM) :=
  f_X9_sumOf_4 N N (0 : Int64) (0 : Int32) σ
set_option maxRecDepth 100000 in
theorem ok_X9_sumOf {G : ZG} (hG : zSH G = shM) (N : Nat) {d : Nat} (hd : 0 ≤ d) {σ : ZM} {res : Int64 × ZM} (h : f_X9_sumOf N σ = some res) : zCt G d MX9_sumOf [.ref (zad G 0)] σ (some (.long res.1)) res.2 := by
  refine zct_of (by decide) (Nat.le_of_ble_eq_true rfl) (lv := [(0, .ref (zad G 0))]) rfl ?_
  unfold f_X9_sumOf at h
  refine zf_lconst (q := 1) (v := 0) rfl dX9_sumOf_0 (by decide) ?_
  refine zf_lstore_n (q := 2) (y := (0 : Int64)) (i := 1) (lv1 := [(1, .long (0 : Int64)), (0, .ref (zad G 0))]) rfl dX9_sumOf_1 rfl (by decide) rfl rfl ?_
  refine zf_iconst (q := 3) rfl dX9_sumOf_2 ic0 ?_
  refine zf_istore_n (q := 4) (y := (0 : Int32)) (i := 3) (lv1 := [(3, .int (0 : Int32)), (1, .long (0 : Int64)), (0, .ref (zad G 0))]) rfl dX9_sumOf_3 rfl (by decide) rfl rfl ?_
  exact zf_sub [2, 1, 0] rfl (ok_X9_sumOf_4 hG N _ _ _ _ h)
-- ===== X9_load: NearCopiesModel.load(I)I
def f_X9_load (N : Nat) (x1 : Int32) (σ : ZM) : Option (Int32 × ZM) :=
  zbd (f_X9_isSite N x1 σ) fun r1 s2 =>
  if r1 = 0 then
  (some ((-1 : Int32), s2))
  else
  (zbd (f_X9_settleNow N s2) fun r3 s4 =>
  if r3 = 0 then
  (some ((-3 : Int32), s4))
  else
  (zbd (f_X9_loadOf N x1 s4) fun r5 s6 =>
  some (r5, s6)))
set_option maxRecDepth 100000 in
theorem ok_X9_load {G : ZG} (hG : zSH G = shM) (N : Nat) {d : Nat} (hd : 6 ≤ d) {x1 : Int32} {σ : ZM} {res : Int32 × ZM} (h : f_X9_load N x1 σ = some res) : zCt G d MX9_load [.ref (zad G 0), .int x1] σ (some (.int res.1)) res.2 := by
  obtain ⟨d, rfl⟩ : ∃ k, d = k + 1 := ⟨d - 1, by omega⟩
  have hd : 5 ≤ d := by omega
  refine zct_of (by decide) (Nat.le_of_ble_eq_true rfl) (lv := [(0, .ref (zad G 0)), (1, .int x1)]) rfl ?_
  unfold f_X9_load at h
  refine zf_aload_n 0 (q := 1) (j := 0) rfl dX9_load_0 rfl rfl ?_
  refine zf_iload_n 1 (q := 2) (j := 1) rfl dX9_load_1 rfl rfl ?_
  obtain ⟨r1, s2, es2, h⟩ := zc h
  refine zf_callV (q := 5) (As := [.int x1]) (rest := []) (st1 := [.int r1]) rfl dX9_load_2 lv_RX9_160 (sm0 hG) rfl rfl (Nat.le_of_ble_eq_true rfl) (ok_X9_isSite hG N (Nat.le_trans (by decide) hd) es2) rfl ?_
  refine zf_if_ne (q := 8) (tgt := 10) rfl (by decide) dX9_load_5 (fun hc5 => ?_) (fun hc5 => ?_)
  · replace h := (zi h).2 hc5
    refine zf_aload_n 0 (q := 11) (j := 0) rfl dX9_load_10 rfl rfl ?_
    obtain ⟨r3, s4, es4, h⟩ := zc h
    refine zf_callV (q := 14) (As := []) (rest := []) (st1 := [.int r3]) rfl dX9_load_11 lv_RX9_216 (sm0 hG) rfl rfl (Nat.le_of_ble_eq_true rfl) (ok_X9_settleNow hG N (Nat.le_trans (by decide) hd) es4) rfl ?_
    refine zf_if_eq (q := 17) (tgt := 25) rfl (by decide) dX9_load_14 (fun hc14 => ?_) (fun hc14 => ?_)
    · replace h := (zi h).1 hc14
      refine zf_bipush (q := 27) rfl dX9_load_25 bpm3 ?_
      cases h
      exact zf_ireturn dX9_load_27 rfl
    · replace h := (zi h).2 hc14
      refine zf_aload_n 0 (q := 18) (j := 0) rfl dX9_load_17 rfl rfl ?_
      refine zf_iload_n 1 (q := 19) (j := 1) rfl dX9_load_18 rfl rfl ?_
      obtain ⟨r5, s6, es6, h⟩ := zc h
      refine zf_callV (q := 22) (As := [.int x1]) (rest := []) (st1 := [.int r5]) rfl dX9_load_19 lv_RX9_225 (sm0 hG) rfl rfl (Nat.le_of_ble_eq_true rfl) (ok_X9_loadOf hG N (Nat.le_trans (by decide) hd) es6) rfl ?_
      refine zf_goto (tgt := 27) (by decide) dX9_load_22 ?_
      cases h
      exact zf_ireturn dX9_load_27 rfl
  · replace h := (zi h).1 hc5
    refine zf_iconst (q := 9) rfl dX9_load_8 icm1 ?_
    cases h
    exact zf_ireturn dX9_load_9 rfl
-- ===== X9_excess: NearCopiesModel.excess()I
def f_X9_excess (N : Nat) (σ : ZM) : Option (Int32 × ZM) :=
  zbd (f_X9_settleNow N σ) fun r1 s2 =>
  if r1 = 0 then
  (some ((-3 : Int32), s2))
  else
  (zbd (f_X9_excessOf N s2) fun r3 s4 =>
  some (r3, s4))
set_option maxRecDepth 100000 in
theorem ok_X9_excess {G : ZG} (hG : zSH G = shM) (N : Nat) {d : Nat} (hd : 6 ≤ d) {σ : ZM} {res : Int32 × ZM} (h : f_X9_excess N σ = some res) : zCt G d MX9_excess [.ref (zad G 0)] σ (some (.int res.1)) res.2 := by
  obtain ⟨d, rfl⟩ : ∃ k, d = k + 1 := ⟨d - 1, by omega⟩
  have hd : 5 ≤ d := by omega
  refine zct_of (by decide) (Nat.le_of_ble_eq_true rfl) (lv := [(0, .ref (zad G 0))]) rfl ?_
  unfold f_X9_excess at h
  refine zf_aload_n 0 (q := 1) (j := 0) rfl dX9_excess_0 rfl rfl ?_
  obtain ⟨r1, s2, es2, h⟩ := zc h
  refine zf_callV (q := 4) (As := []) (rest := []) (st1 := [.int r1]) rfl dX9_excess_1 lv_RX9_216 (sm0 hG) rfl rfl (Nat.le_of_ble_eq_true rfl) (ok_X9_settleNow hG N (Nat.le_trans (by decide) hd) es2) rfl ?_
  refine zf_if_eq (q := 7) (tgt := 14) rfl (by decide) dX9_excess_4 (fun hc4 => ?_) (fun hc4 => ?_)
  · replace h := (zi h).1 hc4
    refine zf_bipush (q := 16) rfl dX9_excess_14 bpm3 ?_
    cases h
    exact zf_ireturn dX9_excess_16 rfl
  · replace h := (zi h).2 hc4
    refine zf_aload_n 0 (q := 8) (j := 0) rfl dX9_excess_7 rfl rfl ?_
    obtain ⟨r3, s4, es4, h⟩ := zc h
    refine zf_callV (q := 11) (As := []) (rest := []) (st1 := [.int r3]) rfl dX9_excess_8 lv_RX9_228 (sm0 hG) rfl rfl (Nat.le_of_ble_eq_true rfl) (ok_X9_excessOf hG N (Nat.le_trans (by decide) hd) es4) rfl ?_
    refine zf_goto (tgt := 16) (by decide) dX9_excess_11 ?_
    cases h
    exact zf_ireturn dX9_excess_16 rfl
-- ===== X9_sum: NearCopiesModel.sum()J
def f_X9_sum (N : Nat) (σ : ZM) : Option (Int64 × ZM) :=
  zbd (f_X9_settleNow N σ) fun r1 s2 =>
  if r1 = 0 then
  (some ((-3 : Int64), s2))
  else
  (zbd (f_X9_sumOf N s2) fun r3 s4 =>
  some (r3, s4))
set_option maxRecDepth 100000 in
theorem ok_X9_sum {G : ZG} (hG : zSH G = shM) (N : Nat) {d : Nat} (hd : 6 ≤ d) {σ : ZM} {res : Int64 × ZM} (h : f_X9_sum N σ = some res) : zCt G d MX9_sum [.ref (zad G 0)] σ (some (.long res.1)) res.2 := by
  obtain ⟨d, rfl⟩ : ∃ k, d = k + 1 := ⟨d - 1, by omega⟩
  have hd : 5 ≤ d := by omega
  refine zct_of (by decide) (Nat.le_of_ble_eq_true rfl) (lv := [(0, .ref (zad G 0))]) rfl ?_
  unfold f_X9_sum at h
  refine zf_aload_n 0 (q := 1) (j := 0) rfl dX9_sum_0 rfl rfl ?_
  obtain ⟨r1, s2, es2, h⟩ := zc h
  refine zf_callV (q := 4) (As := []) (rest := []) (st1 := [.int r1]) rfl dX9_sum_1 lv_RX9_216 (sm0 hG) rfl rfl (Nat.le_of_ble_eq_true rfl) (ok_X9_settleNow hG N (Nat.le_trans (by decide) hd) es2) rfl ?_
  refine zf_if_eq (q := 7) (tgt := 14) rfl (by decide) dX9_sum_4 (fun hc4 => ?_) (fun hc4 => ?_)
  · replace h := (zi h).1 hc4
    refine zf_ldc2 (q := 17) rfl dX9_sum_14 cl_RX9_236 ?_
    cases h
    exact zf_lreturn dX9_sum_17 rfl
  · replace h := (zi h).2 hc4
    refine zf_aload_n 0 (q := 8) (j := 0) rfl dX9_sum_7 rfl rfl ?_
    obtain ⟨r3, s4, es4, h⟩ := zc h
    refine zf_callV (q := 11) (As := []) (rest := []) (st1 := [.long r3]) rfl dX9_sum_8 lv_RX9_232 (sm0 hG) rfl rfl (Nat.le_of_ble_eq_true rfl) (ok_X9_sumOf hG N (Nat.le_trans (by decide) hd) es4) rfl ?_
    refine zf_goto (tgt := 17) (by decide) dX9_sum_11 ?_
    cases h
    exact zf_lreturn dX9_sum_17 rfl
-- ===== X9_without: NearCopiesModel.without(I)I
def f_X9_without (N : Nat) (x1 : Int32) (σ : ZM) : Option (Int32 × ZM) :=
  zbd (f_X9_isSite N x1 σ) fun r1 s2 =>
  if r1 = 0 then
  (some ((-1 : Int32), s2))
  else
  ((zald s2 6 4 x1).bind fun v3 =>
  if v3 = 0 then
  (some ((-3 : Int32), s2))
  else
  (zbd (f_X9_askNow N s2) fun r4 s5 =>
  (zasZ s5 15 4 x1 (0 : Int32)).bind fun s6 =>
  zbd (f_X9_settle N s6) fun r7 s8 =>
  if r7 = 0 then
  (some ((-3 : Int32), s8))
  else
  (zbd (f_X9_excessOf N s8) fun r9 s10 =>
  some (r9, s10))))
set_option maxRecDepth 100000 in
theorem ok_X9_without {G : ZG} (hG : zSH G = shM) (N : Nat) {d : Nat} (hd : 5 ≤ d) {x1 : Int32} {σ : ZM} {res : Int32 × ZM} (h : f_X9_without N x1 σ = some res) : zCt G d MX9_without [.ref (zad G 0), .int x1] σ (some (.int res.1)) res.2 := by
  obtain ⟨d, rfl⟩ : ∃ k, d = k + 1 := ⟨d - 1, by omega⟩
  have hd : 4 ≤ d := by omega
  refine zct_of (by decide) (Nat.le_of_ble_eq_true rfl) (lv := [(0, .ref (zad G 0)), (1, .int x1)]) rfl ?_
  unfold f_X9_without at h
  refine zf_aload_n 0 (q := 1) (j := 0) rfl dX9_without_0 rfl rfl ?_
  refine zf_iload_n 1 (q := 2) (j := 1) rfl dX9_without_1 rfl rfl ?_
  obtain ⟨r1, s2, es2, h⟩ := zc h
  refine zf_callV (q := 5) (As := [.int x1]) (rest := []) (st1 := [.int r1]) rfl dX9_without_2 lv_RX9_160 (sm0 hG) rfl rfl (Nat.le_of_ble_eq_true rfl) (ok_X9_isSite hG N (Nat.le_trans (by decide) hd) es2) rfl ?_
  refine zf_if_ne (q := 8) (tgt := 10) rfl (by decide) dX9_without_5 (fun hc5 => ?_) (fun hc5 => ?_)
  · replace h := (zi h).2 hc5
    refine zf_aload_n 0 (q := 11) (j := 0) rfl dX9_without_10 rfl rfl ?_
    refine zf_getR (q := 14) rfl dX9_without_11 lf_RX9_25 (sm0 hG) rfl ?_
    refine zf_iload_n 1 (q := 15) (j := 1) rfl dX9_without_14 rfl rfl ?_
    obtain ⟨v3, ev3, h⟩ := zb h
    refine zf_zald (q := 16) rfl dX9_without_15 (sm6 hG) ev3 ?_
    refine zf_if_ne (q := 19) (tgt := 22) rfl (by decide) dX9_without_16 (fun hc16 => ?_) (fun hc16 => ?_)
    · replace h := (zi h).2 hc16
      refine zf_aload_n 0 (q := 23) (j := 0) rfl dX9_without_22 rfl rfl ?_
      obtain ⟨r4, s5, es5, h⟩ := zc h
      refine zf_callV (q := 26) (As := []) (rest := []) (st1 := []) rfl dX9_without_23 lv_RX9_209 (sm0 hG) rfl rfl (Nat.le_of_ble_eq_true rfl) (ok_X9_askNow hG N (Nat.le_trans (by decide) hd) es5) rfl ?_
      refine zf_aload_n 0 (q := 27) (j := 0) rfl dX9_without_26 rfl rfl ?_
      refine zf_getR (q := 30) rfl dX9_without_27 lf_RX9_53 (sm0 hG) rfl ?_
      refine zf_iload_n 1 (q := 31) (j := 1) rfl dX9_without_30 rfl rfl ?_
      refine zf_iconst (q := 32) rfl dX9_without_31 ic0 ?_
      obtain ⟨s6, es6, h⟩ := zb h
      refine zf_zast (q := 33) rfl dX9_without_32 (sm15 hG) es6 ?_
      refine zf_aload_n 0 (q := 34) (j := 0) rfl dX9_without_33 rfl rfl ?_
      obtain ⟨r7, s8, es8, h⟩ := zc h
      refine zf_callV (q := 37) (As := []) (rest := []) (st1 := [.int r7]) rfl dX9_without_34 lv_RX9_212 (sm0 hG) rfl rfl (Nat.le_of_ble_eq_true rfl) (ok_X9_settle hG N (Nat.le_trans (by decide) hd) es8) rfl ?_
      refine zf_if_eq (q := 40) (tgt := 47) rfl (by decide) dX9_without_37 (fun hc37 => ?_) (fun hc37 => ?_)
      · replace h := (zi h).1 hc37
        refine zf_bipush (q := 49) rfl dX9_without_47 bpm3 ?_
        cases h
        exact zf_ireturn dX9_without_49 rfl
      · replace h := (zi h).2 hc37
        refine zf_aload_n 0 (q := 41) (j := 0) rfl dX9_without_40 rfl rfl ?_
        obtain ⟨r9, s10, es10, h⟩ := zc h
        refine zf_callV (q := 44) (As := []) (rest := []) (st1 := [.int r9]) rfl dX9_without_41 lv_RX9_228 (sm0 hG) rfl rfl (Nat.le_of_ble_eq_true rfl) (ok_X9_excessOf hG N (Nat.le_trans (by decide) hd) es10) rfl ?_
        refine zf_goto (tgt := 49) (by decide) dX9_without_44 ?_
        cases h
        exact zf_ireturn dX9_without_49 rfl
    · replace h := (zi h).1 hc16
      refine zf_bipush (q := 21) rfl dX9_without_19 bpm3 ?_
      cases h
      exact zf_ireturn dX9_without_21 rfl
  · replace h := (zi h).1 hc5
    refine zf_iconst (q := 9) rfl dX9_without_8 icm1 ?_
    cases h
    exact zf_ireturn dX9_without_9 rfl
-- ===== X9_moves: NearCopiesModel.moves(II)I
def f_X9_moves_123 (N : Nat) (rec85 : Int32 → Int32 → ZM → Option (Int32 × ZM)) (x4 : Int32) (y0 : Int32) (y1 : Int32) (σ : ZM) : Option (Int32 × ZM) :=
  (some (y1 + y0)).bind fun v1 =>
  (some (x4 + (1 : Int32))).bind fun v2 =>
  rec85 v1 v2 σ
set_option maxRecDepth 100000 in
theorem ok_X9_moves_123 {G : ZG} (hG : zSH G = shM) (N : Nat) {d : Nat} (hd : 5 ≤ d) {rec85 : Int32 → Int32 → ZM → Option (Int32 × ZM)} {res : Int32 × ZM} (hr85 : ∀ (x3 : Int32) (x4 : Int32) (σ : ZM), rec85 x3 x4 σ = some res → zF G MX9_moves (d + 1) 85 [(0, .ref (zad G 0)), (3, .int x3), (4, .int x4)] [] σ (some (.int res.1)) res.2) {x4 : Int32} {y0 : Int32} {y1 : Int32} {σ : ZM} (h : f_X9_moves_123 N rec85 x4 y0 y1 σ = some res) : zF G MX9_moves (d + 1) 123 [(0, .ref (zad G 0)), (4, .int x4)] [.int y0, .int y1] σ (some (.int res.1)) res.2 := by
  unfold f_X9_moves_123 at h
  refine zf_iadd (q := 124) rfl dX9_moves_123 ?_
  obtain ⟨v1, ev1, h⟩ := zb h
  refine zf_istore_n (q := 125) (y := v1) (i := 3) (lv1 := [(3, .int v1), (0, .ref (zad G 0)), (4, .int x4)]) rfl dX9_moves_124 rfl (by decide) ev1 rfl ?_
  obtain ⟨v2, ev2, h⟩ := zb h
  refine zf_iinc 2 (q := 128) (v := v2) (lv1 := [(4, .int v2), (3, .int v1), (0, .ref (zad G 0))]) rfl dX9_moves_125 rfl (by rw [ic1]; exact ev2) (by decide) rfl ?_
  refine zf_goto (tgt := 85) (by decide) dX9_moves_128 ?_
  exact zf_sub [2, 1, 0] rfl (hr85 _ _ _ h)
def b_X9_moves_85 (N : Nat) (rec85 : Int32 → Int32 → ZM → Option (Int32 × ZM)) (x3 : Int32) (x4 : Int32) (σ : ZM) : Option (Int32 × ZM) :=
  if (σ.1 0 0) ≤ x4 then
  (some (x3, σ))
  else
  ((zald σ 27 10 x4).bind fun v3 =>
  (zald σ 17 10 x4).bind fun v4 =>
  if v3 = v4 then
  (f_X9_moves_123 N rec85 x4 (0 : Int32) x3 σ)
  else
  ((zald σ 2 10 x4).bind fun v5 =>
  f_X9_moves_123 N rec85 x4 v5 x3 σ))
set_option maxRecDepth 100000 in
theorem ok_b_X9_moves_85 {G : ZG} (hG : zSH G = shM) (N : Nat) {d : Nat} (hd : 5 ≤ d) {rec85 : Int32 → Int32 → ZM → Option (Int32 × ZM)} {res : Int32 × ZM} (hr85 : ∀ (x3 : Int32) (x4 : Int32) (σ : ZM), rec85 x3 x4 σ = some res → zF G MX9_moves (d + 1) 85 [(0, .ref (zad G 0)), (3, .int x3), (4, .int x4)] [] σ (some (.int res.1)) res.2) {x3 : Int32} {x4 : Int32} {σ : ZM} (h : b_X9_moves_85 N rec85 x3 x4 σ = some res) : zF G MX9_moves (d + 1) 85 [(0, .ref (zad G 0)), (3, .int x3), (4, .int x4)] [] σ (some (.int res.1)) res.2 := by
  unfold b_X9_moves_85 at h
  refine zf_iload 2 (q := 87) rfl dX9_moves_85 rfl ?_
  refine zf_aload_n 0 (q := 88) (j := 0) rfl dX9_moves_87 rfl rfl ?_
  refine zf_getI (q := 91) rfl dX9_moves_88 lf_RX9_132 (sm0 hG) rfl ?_
  refine zf_icmp_ge (q := 94) (tgt := 131) rfl (by decide) dX9_moves_91 (fun hc91 => ?_) (fun hc91 => ?_)
  · replace h := (zi h).1 hc91
    refine zf_iload_n 1 (q := 132) (j := 3) rfl dX9_moves_131 rfl rfl ?_
    cases h
    exact zf_ireturn dX9_moves_132 rfl
  · replace h := (zi h).2 hc91
    refine zf_iload_n 1 (q := 95) (j := 3) rfl dX9_moves_94 rfl rfl ?_
    refine zf_aload_n 0 (q := 96) (j := 0) rfl dX9_moves_95 rfl rfl ?_
    refine zf_getR (q := 99) rfl dX9_moves_96 lf_RX9_89 (sm0 hG) rfl ?_
    refine zf_iload 2 (q := 101) rfl dX9_moves_99 rfl ?_
    obtain ⟨v3, ev3, h⟩ := zb h
    refine zf_iald (q := 102) rfl dX9_moves_101 (sm27 hG) ev3 ?_
    refine zf_aload_n 0 (q := 103) (j := 0) rfl dX9_moves_102 rfl rfl ?_
    refine zf_getR (q := 106) rfl dX9_moves_103 lf_RX9_59 (sm0 hG) rfl ?_
    refine zf_iload 2 (q := 108) rfl dX9_moves_106 rfl ?_
    obtain ⟨v4, ev4, h⟩ := zb h
    refine zf_iald (q := 109) rfl dX9_moves_108 (sm17 hG) ev4 ?_
    refine zf_icmp_ne (q := 112) (tgt := 116) rfl (by decide) dX9_moves_109 (fun hc109 => ?_) (fun hc109 => ?_)
    · replace h := (zi h).2 hc109
      refine zf_aload_n 0 (q := 117) (j := 0) rfl dX9_moves_116 rfl rfl ?_
      refine zf_getR (q := 120) rfl dX9_moves_117 lf_RX9_13 (sm0 hG) rfl ?_
      refine zf_iload 2 (q := 122) rfl dX9_moves_120 rfl ?_
      obtain ⟨v5, ev5, h⟩ := zb h
      refine zf_iald (q := 123) rfl dX9_moves_122 (sm2 hG) ev5 ?_
      exact zf_sub [0, 2] rfl (ok_X9_moves_123 hG N hd hr85 h)
    · replace h := (zi h).1 hc109
      refine zf_iconst (q := 113) rfl dX9_moves_112 ic0 ?_
      refine zf_goto (tgt := 123) (by decide) dX9_moves_113 ?_
      exact zf_sub [0, 2] rfl (ok_X9_moves_123 hG N hd hr85 h)
def f_X9_moves_85 (N : Nat) : Nat → Int32 → Int32 → ZM → Option (Int32 × ZM)
  | 0, _, _, _ => none
  | n + 1, x3, x4, σ => b_X9_moves_85 N (f_X9_moves_85 N n) x3 x4 σ
theorem ok_X9_moves_85 {G : ZG} (hG : zSH G = shM) (N : Nat) {d : Nat} (hd : 5 ≤ d) {res : Int32 × ZM} : ∀ (n : Nat) (x3 : Int32) (x4 : Int32) (σ : ZM), f_X9_moves_85 N n x3 x4 σ = some res → zF G MX9_moves (d + 1) 85 [(0, .ref (zad G 0)), (3, .int x3), (4, .int x4)] [] σ (some (.int res.1)) res.2 := by
  intro n
  induction n with
  | zero => intro x3 x4 σ h; exact absurd h (by simp [f_X9_moves_85])
  | succ n ih => intro x3 x4 σ h; rw [f_X9_moves_85] at h; exact ok_b_X9_moves_85 hG N hd ih h
def b_X9_moves_37 (N : Nat) (rec37 : Int32 → Int32 → Int32 → ZM → Option (Int32 × ZM)) (x1 : Int32) (x2 : Int32) (x3 : Int32) (σ : ZM) : Option (Int32 × ZM) :=
  if (σ.1 0 0) ≤ x3 then
  ((zast σ 12 4 x1 x2).bind fun s6 =>
  zbd (f_X9_settle N s6) fun r7 s8 =>
  if r7 = 0 then
  (some ((-3 : Int32), s8))
  else
  (f_X9_moves_85 N N (0 : Int32) (0 : Int32) s8))
  else
  ((zald σ 17 10 x3).bind fun v9 =>
  (zast σ 27 10 x3 v9).bind fun s10 =>
  (some (x3 + (1 : Int32))).bind fun v11 =>
  rec37 x1 x2 v11 s10)
set_option maxRecDepth 100000 in
theorem ok_b_X9_moves_37 {G : ZG} (hG : zSH G = shM) (N : Nat) {d : Nat} (hd : 5 ≤ d) {rec37 : Int32 → Int32 → Int32 → ZM → Option (Int32 × ZM)} {res : Int32 × ZM} (hr37 : ∀ (x1 : Int32) (x2 : Int32) (x3 : Int32) (σ : ZM), rec37 x1 x2 x3 σ = some res → zF G MX9_moves (d + 1) 37 [(0, .ref (zad G 0)), (1, .int x1), (2, .int x2), (3, .int x3)] [] σ (some (.int res.1)) res.2) {x1 : Int32} {x2 : Int32} {x3 : Int32} {σ : ZM} (h : b_X9_moves_37 N rec37 x1 x2 x3 σ = some res) : zF G MX9_moves (d + 1) 37 [(0, .ref (zad G 0)), (1, .int x1), (2, .int x2), (3, .int x3)] [] σ (some (.int res.1)) res.2 := by
  unfold b_X9_moves_37 at h
  refine zf_iload_n 3 (q := 38) (j := 3) rfl dX9_moves_37 rfl rfl ?_
  refine zf_aload_n 0 (q := 39) (j := 0) rfl dX9_moves_38 rfl rfl ?_
  refine zf_getI (q := 42) rfl dX9_moves_39 lf_RX9_132 (sm0 hG) rfl ?_
  refine zf_icmp_ge (q := 45) (tgt := 63) rfl (by decide) dX9_moves_42 (fun hc42 => ?_) (fun hc42 => ?_)
  · replace h := (zi h).1 hc42
    refine zf_aload_n 0 (q := 64) (j := 0) rfl dX9_moves_63 rfl rfl ?_
    refine zf_getR (q := 67) rfl dX9_moves_64 lf_RX9_44 (sm0 hG) rfl ?_
    refine zf_iload_n 1 (q := 68) (j := 1) rfl dX9_moves_67 rfl rfl ?_
    refine zf_iload_n 2 (q := 69) (j := 2) rfl dX9_moves_68 rfl rfl ?_
    obtain ⟨s6, es6, h⟩ := zb h
    refine zf_iast (q := 70) rfl dX9_moves_69 (sm12 hG) es6 ?_
    refine zf_aload_n 0 (q := 71) (j := 0) rfl dX9_moves_70 rfl rfl ?_
    obtain ⟨r7, s8, es8, h⟩ := zc h
    refine zf_callV (q := 74) (As := []) (rest := []) (st1 := [.int r7]) rfl dX9_moves_71 lv_RX9_212 (sm0 hG) rfl rfl (Nat.le_of_ble_eq_true rfl) (ok_X9_settle hG N (Nat.le_trans (by decide) hd) es8) rfl ?_
    refine zf_if_ne (q := 77) (tgt := 80) rfl (by decide) dX9_moves_74 (fun hc74 => ?_) (fun hc74 => ?_)
    · replace h := (zi h).2 hc74
      refine zf_iconst (q := 81) rfl dX9_moves_80 ic0 ?_
      refine zf_istore_n (q := 82) (y := (0 : Int32)) (i := 3) (lv1 := [(3, .int (0 : Int32)), (0, .ref (zad G 0)), (1, .int x1), (2, .int x2)]) rfl dX9_moves_81 rfl (by decide) rfl rfl ?_
      refine zf_iconst (q := 83) rfl dX9_moves_82 ic0 ?_
      refine zf_istore (q := 85) (y := (0 : Int32)) (i := 4) (lv1 := [(4, .int (0 : Int32)), (3, .int (0 : Int32)), (0, .ref (zad G 0)), (1, .int x1), (2, .int x2)]) rfl dX9_moves_83 (by decide) rfl rfl ?_
      exact zf_sub [2, 1, 0] rfl (ok_X9_moves_85 hG N hd _ _ _ _ h)
    · replace h := (zi h).1 hc74
      refine zf_bipush (q := 79) rfl dX9_moves_77 bpm3 ?_
      cases h
      exact zf_ireturn dX9_moves_79 rfl
  · replace h := (zi h).2 hc42
    refine zf_aload_n 0 (q := 46) (j := 0) rfl dX9_moves_45 rfl rfl ?_
    refine zf_getR (q := 49) rfl dX9_moves_46 lf_RX9_89 (sm0 hG) rfl ?_
    refine zf_iload_n 3 (q := 50) (j := 3) rfl dX9_moves_49 rfl rfl ?_
    refine zf_aload_n 0 (q := 51) (j := 0) rfl dX9_moves_50 rfl rfl ?_
    refine zf_getR (q := 54) rfl dX9_moves_51 lf_RX9_59 (sm0 hG) rfl ?_
    refine zf_iload_n 3 (q := 55) (j := 3) rfl dX9_moves_54 rfl rfl ?_
    obtain ⟨v9, ev9, h⟩ := zb h
    refine zf_iald (q := 56) rfl dX9_moves_55 (sm17 hG) ev9 ?_
    obtain ⟨s10, es10, h⟩ := zb h
    refine zf_iast (q := 57) rfl dX9_moves_56 (sm27 hG) es10 ?_
    obtain ⟨v11, ev11, h⟩ := zb h
    refine zf_iinc 3 (q := 60) (v := v11) (lv1 := [(3, .int v11), (0, .ref (zad G 0)), (1, .int x1), (2, .int x2)]) rfl dX9_moves_57 rfl (by rw [ic1]; exact ev11) (by decide) rfl ?_
    refine zf_goto (tgt := 37) (by decide) dX9_moves_60 ?_
    exact zf_sub [1, 2, 3, 0] rfl (hr37 _ _ _ _ h)
def f_X9_moves_37 (N : Nat) : Nat → Int32 → Int32 → Int32 → ZM → Option (Int32 × ZM)
  | 0, _, _, _, _ => none
  | n + 1, x1, x2, x3, σ => b_X9_moves_37 N (f_X9_moves_37 N n) x1 x2 x3 σ
theorem ok_X9_moves_37 {G : ZG} (hG : zSH G = shM) (N : Nat) {d : Nat} (hd : 5 ≤ d) {res : Int32 × ZM} : ∀ (n : Nat) (x1 : Int32) (x2 : Int32) (x3 : Int32) (σ : ZM), f_X9_moves_37 N n x1 x2 x3 σ = some res → zF G MX9_moves (d + 1) 37 [(0, .ref (zad G 0)), (1, .int x1), (2, .int x2), (3, .int x3)] [] σ (some (.int res.1)) res.2 := by
  intro n
  induction n with
  | zero => intro x1 x2 x3 σ h; exact absurd h (by simp [f_X9_moves_37])
  | succ n ih => intro x1 x2 x3 σ h; rw [f_X9_moves_37] at h; exact ok_b_X9_moves_37 hG N hd ih h
def f_X9_moves (N : Nat) (x1 : Int32) (x2 : Int32) (σ : ZM) : Option (Int32 × ZM) :=
  zbd (f_X9_isSite N x1 σ) fun r12 s13 =>
  if r12 = 0 then
  (some ((-1 : Int32), s13))
  else
  (zbd (f_X9_in N (Int32.toInt64 x2) (0 : Int64) (4 : Int64) s13) fun r14 s15 =>
  if r14 = 0 then
  (some ((-2 : Int32), s15))
  else
  (zbd (f_X9_settleNow N s15) fun r16 s17 =>
  if r16 = 0 then
  (some ((-3 : Int32), s17))
  else
  (f_X9_moves_37 N N x1 x2 (0 : Int32) s17)))
set_option maxRecDepth 100000 in
theorem ok_X9_moves {G : ZG} (hG : zSH G = shM) (N : Nat) {d : Nat} (hd : 6 ≤ d) {x1 : Int32} {x2 : Int32} {σ : ZM} {res : Int32 × ZM} (h : f_X9_moves N x1 x2 σ = some res) : zCt G d MX9_moves [.ref (zad G 0), .int x1, .int x2] σ (some (.int res.1)) res.2 := by
  obtain ⟨d, rfl⟩ : ∃ k, d = k + 1 := ⟨d - 1, by omega⟩
  have hd : 5 ≤ d := by omega
  refine zct_of (by decide) (Nat.le_of_ble_eq_true rfl) (lv := [(0, .ref (zad G 0)), (1, .int x1), (2, .int x2)]) rfl ?_
  unfold f_X9_moves at h
  refine zf_aload_n 0 (q := 1) (j := 0) rfl dX9_moves_0 rfl rfl ?_
  refine zf_iload_n 1 (q := 2) (j := 1) rfl dX9_moves_1 rfl rfl ?_
  obtain ⟨r12, s13, es13, h⟩ := zc h
  refine zf_callV (q := 5) (As := [.int x1]) (rest := []) (st1 := [.int r12]) rfl dX9_moves_2 lv_RX9_160 (sm0 hG) rfl rfl (Nat.le_of_ble_eq_true rfl) (ok_X9_isSite hG N (Nat.le_trans (by decide) hd) es13) rfl ?_
  refine zf_if_ne (q := 8) (tgt := 10) rfl (by decide) dX9_moves_5 (fun hc5 => ?_) (fun hc5 => ?_)
  · replace h := (zi h).2 hc5
    refine zf_iload_n 2 (q := 11) (j := 2) rfl dX9_moves_10 rfl rfl ?_
    refine zf_i2l (q := 12) rfl dX9_moves_11 ?_
    refine zf_lconst (q := 13) (v := 0) rfl dX9_moves_12 (by decide) ?_
    refine zf_ldc2 (q := 16) rfl dX9_moves_13 cl_RX9_163 ?_
    obtain ⟨r14, s15, es15, h⟩ := zc h
    refine zf_callS (q := 19) (As := [.long (Int32.toInt64 x2), .long (0 : Int64), .long (4 : Int64)]) (rest := []) (st1 := [.int r14]) rfl dX9_moves_16 ls_RX9_136 rfl rfl (Nat.le_of_ble_eq_true rfl) (ok_X9_in hG N (Nat.le_trans (by decide) hd) es15) rfl ?_
    refine zf_if_ne (q := 22) (tgt := 25) rfl (by decide) dX9_moves_19 (fun hc19 => ?_) (fun hc19 => ?_)
    · replace h := (zi h).2 hc19
      refine zf_aload_n 0 (q := 26) (j := 0) rfl dX9_moves_25 rfl rfl ?_
      obtain ⟨r16, s17, es17, h⟩ := zc h
      refine zf_callV (q := 29) (As := []) (rest := []) (st1 := [.int r16]) rfl dX9_moves_26 lv_RX9_216 (sm0 hG) rfl rfl (Nat.le_of_ble_eq_true rfl) (ok_X9_settleNow hG N (Nat.le_trans (by decide) hd) es17) rfl ?_
      refine zf_if_ne (q := 32) (tgt := 35) rfl (by decide) dX9_moves_29 (fun hc29 => ?_) (fun hc29 => ?_)
      · replace h := (zi h).2 hc29
        refine zf_iconst (q := 36) rfl dX9_moves_35 ic0 ?_
        refine zf_istore_n (q := 37) (y := (0 : Int32)) (i := 3) (lv1 := [(3, .int (0 : Int32)), (0, .ref (zad G 0)), (1, .int x1), (2, .int x2)]) rfl dX9_moves_36 rfl (by decide) rfl rfl ?_
        exact zf_sub [1, 2, 3, 0] rfl (ok_X9_moves_37 hG N hd _ _ _ _ _ h)
      · replace h := (zi h).1 hc29
        refine zf_bipush (q := 34) rfl dX9_moves_32 bpm3 ?_
        cases h
        exact zf_ireturn dX9_moves_34 rfl
    · replace h := (zi h).1 hc19
      refine zf_bipush (q := 24) rfl dX9_moves_22 bpm2 ?_
      cases h
      exact zf_ireturn dX9_moves_24 rfl
  · replace h := (zi h).1 hc5
    refine zf_iconst (q := 9) rfl dX9_moves_8 icm1 ?_
    cases h
    exact zf_ireturn dX9_moves_9 rfl
-- ===== X9_trial: NearCopiesModel.trial()I
def b_X9_trial_116 (N : Nat) (rec116 : Int32 → ZM → Option (Int32 × ZM)) (x1 : Int32) (σ : ZM) : Option (Int32 × ZM) :=
  if (10 : Int32) ≤ x1 then
  ((zpI σ 0 33 ((σ.1 0 33) + (1 : Int32))).bind fun s1 =>
  some (((s1.1 0 33) - (1 : Int32)), s1))
  else
  ((zast σ 33 60 (((10 : Int32) * (σ.1 0 33)) + x1) (4 : Int32)).bind fun s2 =>
  (some (x1 + (1 : Int32))).bind fun v3 =>
  rec116 v3 s2)
set_option maxRecDepth 100000 in
theorem ok_b_X9_trial_116 {G : ZG} (hG : zSH G = shM) (N : Nat) {d : Nat} {rec116 : Int32 → ZM → Option (Int32 × ZM)} {res : Int32 × ZM} (hr116 : ∀ (x1 : Int32) (σ : ZM), rec116 x1 σ = some res → zF G MX9_trial d 116 [(0, .ref (zad G 0)), (1, .int x1)] [] σ (some (.int res.1)) res.2) {x1 : Int32} {σ : ZM} (h : b_X9_trial_116 N rec116 x1 σ = some res) : zF G MX9_trial d 116 [(0, .ref (zad G 0)), (1, .int x1)] [] σ (some (.int res.1)) res.2 := by
  unfold b_X9_trial_116 at h
  refine zf_iload_n 1 (q := 117) (j := 1) rfl dX9_trial_116 rfl rfl ?_
  refine zf_bipush (q := 119) rfl dX9_trial_117 bp10 ?_
  refine zf_icmp_ge (q := 122) (tgt := 143) rfl (by decide) dX9_trial_119 (fun hc119 => ?_) (fun hc119 => ?_)
  · replace h := (zi h).1 hc119
    refine zf_aload_n 0 (q := 144) (j := 0) rfl dX9_trial_143 rfl rfl ?_
    refine zf_dup (q := 145) rfl dX9_trial_144 rfl ?_
    refine zf_getI (q := 148) rfl dX9_trial_145 lf_RX9_238 (sm0 hG) rfl ?_
    refine zf_iconst (q := 149) rfl dX9_trial_148 ic1 ?_
    refine zf_iadd (q := 150) rfl dX9_trial_149 ?_
    obtain ⟨s1, es1, h⟩ := zb h
    refine zf_putI (q := 153) rfl dX9_trial_150 lp_RX9_238 (sm0 hG) rfl es1 ?_
    refine zf_aload_n 0 (q := 154) (j := 0) rfl dX9_trial_153 rfl rfl ?_
    refine zf_getI (q := 157) rfl dX9_trial_154 lf_RX9_238 (sm0 hG) rfl ?_
    refine zf_iconst (q := 158) rfl dX9_trial_157 ic1 ?_
    refine zf_isub (q := 159) rfl dX9_trial_158 ?_
    cases h
    exact zf_ireturn dX9_trial_159 rfl
  · replace h := (zi h).2 hc119
    refine zf_aload_n 0 (q := 123) (j := 0) rfl dX9_trial_122 rfl rfl ?_
    refine zf_getR (q := 126) rfl dX9_trial_123 lf_RX9_107 (sm0 hG) rfl ?_
    refine zf_bipush (q := 128) rfl dX9_trial_126 bp10 ?_
    refine zf_aload_n 0 (q := 129) (j := 0) rfl dX9_trial_128 rfl rfl ?_
    refine zf_getI (q := 132) rfl dX9_trial_129 lf_RX9_238 (sm0 hG) rfl ?_
    refine zf_imul (q := 133) rfl dX9_trial_132 ?_
    refine zf_iload_n 1 (q := 134) (j := 1) rfl dX9_trial_133 rfl rfl ?_
    refine zf_iadd (q := 135) rfl dX9_trial_134 ?_
    refine zf_iconst (q := 136) rfl dX9_trial_135 ic4 ?_
    obtain ⟨s2, es2, h⟩ := zb h
    refine zf_iast (q := 137) rfl dX9_trial_136 (sm33 hG) es2 ?_
    obtain ⟨v3, ev3, h⟩ := zb h
    refine zf_iinc 1 (q := 140) (v := v3) (lv1 := [(1, .int v3), (0, .ref (zad G 0))]) rfl dX9_trial_137 rfl (by rw [ic1]; exact ev3) (by decide) rfl ?_
    refine zf_goto (tgt := 116) (by decide) dX9_trial_140 ?_
    exact zf_sub [1, 0] rfl (hr116 _ _ h)
def f_X9_trial_116 (N : Nat) : Nat → Int32 → ZM → Option (Int32 × ZM)
  | 0, _, _ => none
  | n + 1, x1, σ => b_X9_trial_116 N (f_X9_trial_116 N n) x1 σ
theorem ok_X9_trial_116 {G : ZG} (hG : zSH G = shM) (N : Nat) {d : Nat} {res : Int32 × ZM} : ∀ (n : Nat) (x1 : Int32) (σ : ZM), f_X9_trial_116 N n x1 σ = some res → zF G MX9_trial d 116 [(0, .ref (zad G 0)), (1, .int x1)] [] σ (some (.int res.1)) res.2 := by
  intro n
  induction n with
  | zero => intro x1 σ h; exact absurd h (by simp [f_X9_trial_116])
  | succ n ih => intro x1 σ h; rw [f_X9_trial_116] at h; exact ok_b_X9_trial_116 hG N ih h
def b_X9_trial_27 (N : Nat) (rec27 : Int32 → ZM → Option (Int32 × ZM)) (x1 : Int32) (σ : ZM) : Option (Int32 × ZM) :=
  if (4 : Int32) ≤ x1 then
  (f_X9_trial_116 N N (0 : Int32) σ)
  else
  ((zald σ 7 4 x1).bind fun v4 =>
  (zast σ 29 24 (((4 : Int32) * (σ.1 0 33)) + x1) v4).bind fun s5 =>
  (zald s5 8 4 x1).bind fun v6 =>
  (zast s5 30 24 (((4 : Int32) * (s5.1 0 33)) + x1) v6).bind fun s7 =>
  (zald s7 9 4 x1).bind fun v8 =>
  (zasZ s7 31 24 (((4 : Int32) * (s7.1 0 33)) + x1) v8).bind fun s9 =>
  (zald s9 6 4 x1).bind fun v10 =>
  (zasZ s9 32 24 (((4 : Int32) * (s9.1 0 33)) + x1) v10).bind fun s11 =>
  (some (x1 + (1 : Int32))).bind fun v12 =>
  rec27 v12 s11)
set_option maxRecDepth 100000 in
theorem ok_b_X9_trial_27 {G : ZG} (hG : zSH G = shM) (N : Nat) {d : Nat} {rec27 : Int32 → ZM → Option (Int32 × ZM)} {res : Int32 × ZM} (hr27 : ∀ (x1 : Int32) (σ : ZM), rec27 x1 σ = some res → zF G MX9_trial d 27 [(0, .ref (zad G 0)), (1, .int x1)] [] σ (some (.int res.1)) res.2) {x1 : Int32} {σ : ZM} (h : b_X9_trial_27 N rec27 x1 σ = some res) : zF G MX9_trial d 27 [(0, .ref (zad G 0)), (1, .int x1)] [] σ (some (.int res.1)) res.2 := by
  unfold b_X9_trial_27 at h
  refine zf_iload_n 1 (q := 28) (j := 1) rfl dX9_trial_27 rfl rfl ?_
  refine zf_iconst (q := 29) rfl dX9_trial_28 ic4 ?_
  refine zf_icmp_ge (q := 32) (tgt := 114) rfl (by decide) dX9_trial_29 (fun hc29 => ?_) (fun hc29 => ?_)
  · replace h := (zi h).1 hc29
    refine zf_iconst (q := 115) rfl dX9_trial_114 ic0 ?_
    refine zf_istore_n (q := 116) (y := (0 : Int32)) (i := 1) (lv1 := [(1, .int (0 : Int32)), (0, .ref (zad G 0))]) rfl dX9_trial_115 rfl (by decide) rfl rfl ?_
    exact zf_sub [1, 0] rfl (ok_X9_trial_116 hG N _ _ _ h)
  · replace h := (zi h).2 hc29
    refine zf_aload_n 0 (q := 33) (j := 0) rfl dX9_trial_32 rfl rfl ?_
    refine zf_getR (q := 36) rfl dX9_trial_33 lf_RX9_95 (sm0 hG) rfl ?_
    refine zf_iconst (q := 37) rfl dX9_trial_36 ic4 ?_
    refine zf_aload_n 0 (q := 38) (j := 0) rfl dX9_trial_37 rfl rfl ?_
    refine zf_getI (q := 41) rfl dX9_trial_38 lf_RX9_238 (sm0 hG) rfl ?_
    refine zf_imul (q := 42) rfl dX9_trial_41 ?_
    refine zf_iload_n 1 (q := 43) (j := 1) rfl dX9_trial_42 rfl rfl ?_
    refine zf_iadd (q := 44) rfl dX9_trial_43 ?_
    refine zf_aload_n 0 (q := 45) (j := 0) rfl dX9_trial_44 rfl rfl ?_
    refine zf_getR (q := 48) rfl dX9_trial_45 lf_RX9_29 (sm0 hG) rfl ?_
    refine zf_iload_n 1 (q := 49) (j := 1) rfl dX9_trial_48 rfl rfl ?_
    obtain ⟨v4, ev4, h⟩ := zb h
    refine zf_iald (q := 50) rfl dX9_trial_49 (sm7 hG) ev4 ?_
    obtain ⟨s5, es5, h⟩ := zb h
    refine zf_iast (q := 51) rfl dX9_trial_50 (sm29 hG) es5 ?_
    refine zf_aload_n 0 (q := 52) (j := 0) rfl dX9_trial_51 rfl rfl ?_
    refine zf_getR (q := 55) rfl dX9_trial_52 lf_RX9_98 (sm0 hG) rfl ?_
    refine zf_iconst (q := 56) rfl dX9_trial_55 ic4 ?_
    refine zf_aload_n 0 (q := 57) (j := 0) rfl dX9_trial_56 rfl rfl ?_
    refine zf_getI (q := 60) rfl dX9_trial_57 lf_RX9_238 (sm0 hG) rfl ?_
    refine zf_imul (q := 61) rfl dX9_trial_60 ?_
    refine zf_iload_n 1 (q := 62) (j := 1) rfl dX9_trial_61 rfl rfl ?_
    refine zf_iadd (q := 63) rfl dX9_trial_62 ?_
    refine zf_aload_n 0 (q := 64) (j := 0) rfl dX9_trial_63 rfl rfl ?_
    refine zf_getR (q := 67) rfl dX9_trial_64 lf_RX9_32 (sm0 hG) rfl ?_
    refine zf_iload_n 1 (q := 68) (j := 1) rfl dX9_trial_67 rfl rfl ?_
    obtain ⟨v6, ev6, h⟩ := zb h
    refine zf_iald (q := 69) rfl dX9_trial_68 (sm8 hG) ev6 ?_
    obtain ⟨s7, es7, h⟩ := zb h
    refine zf_iast (q := 70) rfl dX9_trial_69 (sm30 hG) es7 ?_
    refine zf_aload_n 0 (q := 71) (j := 0) rfl dX9_trial_70 rfl rfl ?_
    refine zf_getR (q := 74) rfl dX9_trial_71 lf_RX9_101 (sm0 hG) rfl ?_
    refine zf_iconst (q := 75) rfl dX9_trial_74 ic4 ?_
    refine zf_aload_n 0 (q := 76) (j := 0) rfl dX9_trial_75 rfl rfl ?_
    refine zf_getI (q := 79) rfl dX9_trial_76 lf_RX9_238 (sm0 hG) rfl ?_
    refine zf_imul (q := 80) rfl dX9_trial_79 ?_
    refine zf_iload_n 1 (q := 81) (j := 1) rfl dX9_trial_80 rfl rfl ?_
    refine zf_iadd (q := 82) rfl dX9_trial_81 ?_
    refine zf_aload_n 0 (q := 83) (j := 0) rfl dX9_trial_82 rfl rfl ?_
    refine zf_getR (q := 86) rfl dX9_trial_83 lf_RX9_35 (sm0 hG) rfl ?_
    refine zf_iload_n 1 (q := 87) (j := 1) rfl dX9_trial_86 rfl rfl ?_
    obtain ⟨v8, ev8, h⟩ := zb h
    refine zf_zald (q := 88) rfl dX9_trial_87 (sm9 hG) ev8 ?_
    obtain ⟨s9, es9, h⟩ := zb h
    refine zf_zast (q := 89) rfl dX9_trial_88 (sm31 hG) es9 ?_
    refine zf_aload_n 0 (q := 90) (j := 0) rfl dX9_trial_89 rfl rfl ?_
    refine zf_getR (q := 93) rfl dX9_trial_90 lf_RX9_104 (sm0 hG) rfl ?_
    refine zf_iconst (q := 94) rfl dX9_trial_93 ic4 ?_
    refine zf_aload_n 0 (q := 95) (j := 0) rfl dX9_trial_94 rfl rfl ?_
    refine zf_getI (q := 98) rfl dX9_trial_95 lf_RX9_238 (sm0 hG) rfl ?_
    refine zf_imul (q := 99) rfl dX9_trial_98 ?_
    refine zf_iload_n 1 (q := 100) (j := 1) rfl dX9_trial_99 rfl rfl ?_
    refine zf_iadd (q := 101) rfl dX9_trial_100 ?_
    refine zf_aload_n 0 (q := 102) (j := 0) rfl dX9_trial_101 rfl rfl ?_
    refine zf_getR (q := 105) rfl dX9_trial_102 lf_RX9_25 (sm0 hG) rfl ?_
    refine zf_iload_n 1 (q := 106) (j := 1) rfl dX9_trial_105 rfl rfl ?_
    obtain ⟨v10, ev10, h⟩ := zb h
    refine zf_zald (q := 107) rfl dX9_trial_106 (sm6 hG) ev10 ?_
    obtain ⟨s11, es11, h⟩ := zb h
    refine zf_zast (q := 108) rfl dX9_trial_107 (sm32 hG) es11 ?_
    obtain ⟨v12, ev12, h⟩ := zb h
    refine zf_iinc 1 (q := 111) (v := v12) (lv1 := [(1, .int v12), (0, .ref (zad G 0))]) rfl dX9_trial_108 rfl (by rw [ic1]; exact ev12) (by decide) rfl ?_
    refine zf_goto (tgt := 27) (by decide) dX9_trial_111 ?_
    exact zf_sub [1, 0] rfl (hr27 _ _ h)
def f_X9_trial_27 (N : Nat) : Nat → Int32 → ZM → Option (Int32 × ZM)
  | 0, _, _ => none
  | n + 1, x1, σ => b_X9_trial_27 N (f_X9_trial_27 N n) x1 σ
theorem ok_X9_trial_27 {G : ZG} (hG : zSH G = shM) (N : Nat) {d : Nat} {res : Int32 × ZM} : ∀ (n : Nat) (x1 : Int32) (σ : ZM), f_X9_trial_27 N n x1 σ = some res → zF G MX9_trial d 27 [(0, .ref (zad G 0)), (1, .int x1)] [] σ (some (.int res.1)) res.2 := by
  intro n
  induction n with
  | zero => intro x1 σ h; exact absurd h (by simp [f_X9_trial_27])
  | succ n ih => intro x1 σ h; rw [f_X9_trial_27] at h; exact ok_b_X9_trial_27 hG N ih h
def f_X9_trial (N : Nat) (σ : ZM) : Option (Int32 × ZM) :=
  if (σ.1 0 33) = (6 : Int32) then
  (some ((-4 : Int32), σ))
  else
  ((zast σ 28 6 (σ.1 0 33) (σ.1 0 5)).bind fun s13 =>
  f_X9_trial_27 N N (0 : Int32) s13)
set_option maxRecDepth 100000 in
theorem ok_X9_trial {G : ZG} (hG : zSH G = shM) (N : Nat) {d : Nat} (hd : 0 ≤ d) {σ : ZM} {res : Int32 × ZM} (h : f_X9_trial N σ = some res) : zCt G d MX9_trial [.ref (zad G 0)] σ (some (.int res.1)) res.2 := by
  refine zct_of (by decide) (Nat.le_of_ble_eq_true rfl) (lv := [(0, .ref (zad G 0))]) rfl ?_
  unfold f_X9_trial at h
  refine zf_aload_n 0 (q := 1) (j := 0) rfl dX9_trial_0 rfl rfl ?_
  refine zf_getI (q := 4) rfl dX9_trial_1 lf_RX9_238 (sm0 hG) rfl ?_
  refine zf_bipush (q := 6) rfl dX9_trial_4 bp6 ?_
  refine zf_icmp_ne (q := 9) (tgt := 12) rfl (by decide) dX9_trial_6 (fun hc6 => ?_) (fun hc6 => ?_)
  · replace h := (zi h).2 hc6
    refine zf_aload_n 0 (q := 13) (j := 0) rfl dX9_trial_12 rfl rfl ?_
    refine zf_getR (q := 16) rfl dX9_trial_13 lf_RX9_92 (sm0 hG) rfl ?_
    refine zf_aload_n 0 (q := 17) (j := 0) rfl dX9_trial_16 rfl rfl ?_
    refine zf_getI (q := 20) rfl dX9_trial_17 lf_RX9_238 (sm0 hG) rfl ?_
    refine zf_aload_n 0 (q := 21) (j := 0) rfl dX9_trial_20 rfl rfl ?_
    refine zf_getI (q := 24) rfl dX9_trial_21 lf_RX9_140 (sm0 hG) rfl ?_
    obtain ⟨s13, es13, h⟩ := zb h
    refine zf_iast (q := 25) rfl dX9_trial_24 (sm28 hG) es13 ?_
    refine zf_iconst (q := 26) rfl dX9_trial_25 ic0 ?_
    refine zf_istore_n (q := 27) (y := (0 : Int32)) (i := 1) (lv1 := [(1, .int (0 : Int32)), (0, .ref (zad G 0))]) rfl dX9_trial_26 rfl (by decide) rfl rfl ?_
    exact zf_sub [1, 0] rfl (ok_X9_trial_27 hG N _ _ _ h)
  · replace h := (zi h).1 hc6
    refine zf_bipush (q := 11) rfl dX9_trial_9 bpm4 ?_
    cases h
    exact zf_ireturn dX9_trial_11 rfl
-- ===== X9_seen: NearCopiesModel.seen(III)I
def f_X9_seen_45 (N : Nat) (x1 : Int32) (x2 : Int32) (x3 : Int32) (σ : ZM) : Option (Int32 × ZM) :=
  (zald σ 33 60 (((10 : Int32) * x1) + x2)).bind fun v1 =>
  (zast σ 33 60 (((10 : Int32) * x1) + x2) x3).bind fun s2 =>
  some (v1, s2)
set_option maxRecDepth 100000 in
theorem ok_X9_seen_45 {G : ZG} (hG : zSH G = shM) (N : Nat) {d : Nat} (hd : 1 ≤ d) {res : Int32 × ZM} {x1 : Int32} {x2 : Int32} {x3 : Int32} {σ : ZM} (h : f_X9_seen_45 N x1 x2 x3 σ = some res) : zF G MX9_seen (d + 1) 45 [(0, .ref (zad G 0)), (1, .int x1), (2, .int x2), (3, .int x3)] [] σ (some (.int res.1)) res.2 := by
  unfold f_X9_seen_45 at h
  refine zf_aload_n 0 (q := 46) (j := 0) rfl dX9_seen_45 rfl rfl ?_
  refine zf_getR (q := 49) rfl dX9_seen_46 lf_RX9_107 (sm0 hG) rfl ?_
  refine zf_bipush (q := 51) rfl dX9_seen_49 bp10 ?_
  refine zf_iload_n 1 (q := 52) (j := 1) rfl dX9_seen_51 rfl rfl ?_
  refine zf_imul (q := 53) rfl dX9_seen_52 ?_
  refine zf_iload_n 2 (q := 54) (j := 2) rfl dX9_seen_53 rfl rfl ?_
  refine zf_iadd (q := 55) rfl dX9_seen_54 ?_
  obtain ⟨v1, ev1, h⟩ := zb h
  refine zf_iald (q := 56) rfl dX9_seen_55 (sm33 hG) ev1 ?_
  refine zf_istore (q := 58) (y := v1) (i := 4) (lv1 := [(4, .int v1), (0, .ref (zad G 0)), (1, .int x1), (2, .int x2), (3, .int x3)]) rfl dX9_seen_56 (by decide) rfl rfl ?_
  refine zf_aload_n 1 (q := 59) (j := 0) rfl dX9_seen_58 rfl rfl ?_
  refine zf_getR (q := 62) rfl dX9_seen_59 lf_RX9_107 (sm0 hG) rfl ?_
  refine zf_bipush (q := 64) rfl dX9_seen_62 bp10 ?_
  refine zf_iload_n 2 (q := 65) (j := 1) rfl dX9_seen_64 rfl rfl ?_
  refine zf_imul (q := 66) rfl dX9_seen_65 ?_
  refine zf_iload_n 3 (q := 67) (j := 2) rfl dX9_seen_66 rfl rfl ?_
  refine zf_iadd (q := 68) rfl dX9_seen_67 ?_
  refine zf_iload_n 4 (q := 69) (j := 3) rfl dX9_seen_68 rfl rfl ?_
  obtain ⟨s2, es2, h⟩ := zb h
  refine zf_iast (q := 70) rfl dX9_seen_69 (sm33 hG) es2 ?_
  refine zf_iload 0 (q := 72) rfl dX9_seen_70 rfl ?_
  cases h
  exact zf_ireturn dX9_seen_72 rfl
def f_X9_seen (N : Nat) (x1 : Int32) (x2 : Int32) (x3 : Int32) (σ : ZM) : Option (Int32 × ZM) :=
  zbd (f_X9_in N (Int32.toInt64 x1) (0 : Int64) (Int32.toInt64 ((σ.1 0 33) - (1 : Int32))) σ) fun r3 s4 =>
  if r3 = 0 then
  (some ((-1 : Int32), s4))
  else
  (zbd (f_X9_isNet N x2 s4) fun r5 s6 =>
  if r5 = 0 then
  (some ((-1 : Int32), s6))
  else
  (if x3 = (-9 : Int32) then
  (f_X9_seen_45 N x1 x2 x3 s6)
  else
  (if x3 = (4 : Int32) then
  (f_X9_seen_45 N x1 x2 x3 s6)
  else
  (zbd (f_X9_isSite N x3 s6) fun r7 s8 =>
  if r7 = 0 then
  (some ((-1 : Int32), s8))
  else
  (f_X9_seen_45 N x1 x2 x3 s8)))))
set_option maxRecDepth 100000 in
theorem ok_X9_seen {G : ZG} (hG : zSH G = shM) (N : Nat) {d : Nat} (hd : 2 ≤ d) {x1 : Int32} {x2 : Int32} {x3 : Int32} {σ : ZM} {res : Int32 × ZM} (h : f_X9_seen N x1 x2 x3 σ = some res) : zCt G d MX9_seen [.ref (zad G 0), .int x1, .int x2, .int x3] σ (some (.int res.1)) res.2 := by
  obtain ⟨d, rfl⟩ : ∃ k, d = k + 1 := ⟨d - 1, by omega⟩
  have hd : 1 ≤ d := by omega
  refine zct_of (by decide) (Nat.le_of_ble_eq_true rfl) (lv := [(0, .ref (zad G 0)), (1, .int x1), (2, .int x2), (3, .int x3)]) rfl ?_
  unfold f_X9_seen at h
  refine zf_iload_n 1 (q := 1) (j := 1) rfl dX9_seen_0 rfl rfl ?_
  refine zf_i2l (q := 2) rfl dX9_seen_1 ?_
  refine zf_lconst (q := 3) (v := 0) rfl dX9_seen_2 (by decide) ?_
  refine zf_aload_n 0 (q := 4) (j := 0) rfl dX9_seen_3 rfl rfl ?_
  refine zf_getI (q := 7) rfl dX9_seen_4 lf_RX9_238 (sm0 hG) rfl ?_
  refine zf_iconst (q := 8) rfl dX9_seen_7 ic1 ?_
  refine zf_isub (q := 9) rfl dX9_seen_8 ?_
  refine zf_i2l (q := 10) rfl dX9_seen_9 ?_
  obtain ⟨r3, s4, es4, h⟩ := zc h
  refine zf_callS (q := 13) (As := [.long (Int32.toInt64 x1), .long (0 : Int64), .long (Int32.toInt64 ((σ.1 0 33) - (1 : Int32)))]) (rest := []) (st1 := [.int r3]) rfl dX9_seen_10 ls_RX9_136 rfl rfl (Nat.le_of_ble_eq_true rfl) (ok_X9_in hG N (Nat.le_trans (by decide) hd) es4) rfl ?_
  refine zf_if_eq (q := 16) (tgt := 43) rfl (by decide) dX9_seen_13 (fun hc13 => ?_) (fun hc13 => ?_)
  · replace h := (zi h).1 hc13
    refine zf_iconst (q := 44) rfl dX9_seen_43 icm1 ?_
    cases h
    exact zf_ireturn dX9_seen_44 rfl
  · replace h := (zi h).2 hc13
    refine zf_aload_n 0 (q := 17) (j := 0) rfl dX9_seen_16 rfl rfl ?_
    refine zf_iload_n 2 (q := 18) (j := 2) rfl dX9_seen_17 rfl rfl ?_
    obtain ⟨r5, s6, es6, h⟩ := zc h
    refine zf_callV (q := 21) (As := [.int x2]) (rest := []) (st1 := [.int r5]) rfl dX9_seen_18 lv_RX9_145 (sm0 hG) rfl rfl (Nat.le_of_ble_eq_true rfl) (ok_X9_isNet hG N (Nat.le_trans (by decide) hd) es6) rfl ?_
    refine zf_if_eq (q := 24) (tgt := 43) rfl (by decide) dX9_seen_21 (fun hc21 => ?_) (fun hc21 => ?_)
    · replace h := (zi h).1 hc21
      refine zf_iconst (q := 44) rfl dX9_seen_43 icm1 ?_
      cases h
      exact zf_ireturn dX9_seen_44 rfl
    · replace h := (zi h).2 hc21
      refine zf_iload_n 3 (q := 25) (j := 3) rfl dX9_seen_24 rfl rfl ?_
      refine zf_bipush (q := 27) rfl dX9_seen_25 bpm9 ?_
      refine zf_icmp_eq (q := 30) (tgt := 45) rfl (by decide) dX9_seen_27 (fun hc27 => ?_) (fun hc27 => ?_)
      · replace h := (zi h).1 hc27
        exact zf_sub [0, 1, 2, 3] rfl (ok_X9_seen_45 hG N hd h)
      · replace h := (zi h).2 hc27
        refine zf_iload_n 3 (q := 31) (j := 3) rfl dX9_seen_30 rfl rfl ?_
        refine zf_iconst (q := 32) rfl dX9_seen_31 ic4 ?_
        refine zf_icmp_eq (q := 35) (tgt := 45) rfl (by decide) dX9_seen_32 (fun hc32 => ?_) (fun hc32 => ?_)
        · replace h := (zi h).1 hc32
          exact zf_sub [0, 1, 2, 3] rfl (ok_X9_seen_45 hG N hd h)
        · replace h := (zi h).2 hc32
          refine zf_aload_n 0 (q := 36) (j := 0) rfl dX9_seen_35 rfl rfl ?_
          refine zf_iload_n 3 (q := 37) (j := 3) rfl dX9_seen_36 rfl rfl ?_
          obtain ⟨r7, s8, es8, h⟩ := zc h
          refine zf_callV (q := 40) (As := [.int x3]) (rest := []) (st1 := [.int r7]) rfl dX9_seen_37 lv_RX9_160 (sm0 hG) rfl rfl (Nat.le_of_ble_eq_true rfl) (ok_X9_isSite hG N (Nat.le_trans (by decide) hd) es8) rfl ?_
          refine zf_if_ne (q := 43) (tgt := 45) rfl (by decide) dX9_seen_40 (fun hc40 => ?_) (fun hc40 => ?_)
          · replace h := (zi h).2 hc40
            exact zf_sub [0, 1, 2, 3] rfl (ok_X9_seen_45 hG N hd h)
          · replace h := (zi h).1 hc40
            refine zf_iconst (q := 44) rfl dX9_seen_43 icm1 ?_
            cases h
            exact zf_ireturn dX9_seen_44 rfl
-- ===== X9_askTrial: NearCopiesModel.askTrial(I)V
def b_X9_askTrial_12 (N : Nat) (rec12 : Int32 → Int32 → ZM → Option (Unit × ZM)) (x1 : Int32) (x2 : Int32) (σ : ZM) : Option (Unit × ZM) :=
  if (4 : Int32) ≤ x2 then
  (some ((), σ))
  else
  ((zald σ 29 24 (((4 : Int32) * x1) + x2)).bind fun v1 =>
  (zast σ 12 4 x2 v1).bind fun s2 =>
  (zald s2 30 24 (((4 : Int32) * x1) + x2)).bind fun v3 =>
  (zast s2 13 4 x2 v3).bind fun s4 =>
  (zald s4 31 24 (((4 : Int32) * x1) + x2)).bind fun v5 =>
  (zasZ s4 14 4 x2 v5).bind fun s6 =>
  (zald s6 32 24 (((4 : Int32) * x1) + x2)).bind fun v7 =>
  (zasZ s6 15 4 x2 v7).bind fun s8 =>
  (some (x2 + (1 : Int32))).bind fun v9 =>
  rec12 x1 v9 s8)
set_option maxRecDepth 100000 in
theorem ok_b_X9_askTrial_12 {G : ZG} (hG : zSH G = shM) (N : Nat) {d : Nat} {rec12 : Int32 → Int32 → ZM → Option (Unit × ZM)} {res : Unit × ZM} (hr12 : ∀ (x1 : Int32) (x2 : Int32) (σ : ZM), rec12 x1 x2 σ = some res → zF G MX9_askTrial d 12 [(0, .ref (zad G 0)), (1, .int x1), (2, .int x2)] [] σ none res.2) {x1 : Int32} {x2 : Int32} {σ : ZM} (h : b_X9_askTrial_12 N rec12 x1 x2 σ = some res) : zF G MX9_askTrial d 12 [(0, .ref (zad G 0)), (1, .int x1), (2, .int x2)] [] σ none res.2 := by
  unfold b_X9_askTrial_12 at h
  refine zf_iload_n 2 (q := 13) (j := 2) rfl dX9_askTrial_12 rfl rfl ?_
  refine zf_iconst (q := 14) rfl dX9_askTrial_13 ic4 ?_
  refine zf_icmp_ge (q := 17) (tgt := 87) rfl (by decide) dX9_askTrial_14 (fun hc14 => ?_) (fun hc14 => ?_)
  · replace h := (zi h).1 hc14
    cases h
    exact zf_return dX9_askTrial_87 rfl
  · replace h := (zi h).2 hc14
    refine zf_aload_n 0 (q := 18) (j := 0) rfl dX9_askTrial_17 rfl rfl ?_
    refine zf_getR (q := 21) rfl dX9_askTrial_18 lf_RX9_44 (sm0 hG) rfl ?_
    refine zf_iload_n 2 (q := 22) (j := 2) rfl dX9_askTrial_21 rfl rfl ?_
    refine zf_aload_n 0 (q := 23) (j := 0) rfl dX9_askTrial_22 rfl rfl ?_
    refine zf_getR (q := 26) rfl dX9_askTrial_23 lf_RX9_95 (sm0 hG) rfl ?_
    refine zf_iconst (q := 27) rfl dX9_askTrial_26 ic4 ?_
    refine zf_iload_n 1 (q := 28) (j := 1) rfl dX9_askTrial_27 rfl rfl ?_
    refine zf_imul (q := 29) rfl dX9_askTrial_28 ?_
    refine zf_iload_n 2 (q := 30) (j := 2) rfl dX9_askTrial_29 rfl rfl ?_
    refine zf_iadd (q := 31) rfl dX9_askTrial_30 ?_
    obtain ⟨v1, ev1, h⟩ := zb h
    refine zf_iald (q := 32) rfl dX9_askTrial_31 (sm29 hG) ev1 ?_
    obtain ⟨s2, es2, h⟩ := zb h
    refine zf_iast (q := 33) rfl dX9_askTrial_32 (sm12 hG) es2 ?_
    refine zf_aload_n 0 (q := 34) (j := 0) rfl dX9_askTrial_33 rfl rfl ?_
    refine zf_getR (q := 37) rfl dX9_askTrial_34 lf_RX9_47 (sm0 hG) rfl ?_
    refine zf_iload_n 2 (q := 38) (j := 2) rfl dX9_askTrial_37 rfl rfl ?_
    refine zf_aload_n 0 (q := 39) (j := 0) rfl dX9_askTrial_38 rfl rfl ?_
    refine zf_getR (q := 42) rfl dX9_askTrial_39 lf_RX9_98 (sm0 hG) rfl ?_
    refine zf_iconst (q := 43) rfl dX9_askTrial_42 ic4 ?_
    refine zf_iload_n 1 (q := 44) (j := 1) rfl dX9_askTrial_43 rfl rfl ?_
    refine zf_imul (q := 45) rfl dX9_askTrial_44 ?_
    refine zf_iload_n 2 (q := 46) (j := 2) rfl dX9_askTrial_45 rfl rfl ?_
    refine zf_iadd (q := 47) rfl dX9_askTrial_46 ?_
    obtain ⟨v3, ev3, h⟩ := zb h
    refine zf_iald (q := 48) rfl dX9_askTrial_47 (sm30 hG) ev3 ?_
    obtain ⟨s4, es4, h⟩ := zb h
    refine zf_iast (q := 49) rfl dX9_askTrial_48 (sm13 hG) es4 ?_
    refine zf_aload_n 0 (q := 50) (j := 0) rfl dX9_askTrial_49 rfl rfl ?_
    refine zf_getR (q := 53) rfl dX9_askTrial_50 lf_RX9_50 (sm0 hG) rfl ?_
    refine zf_iload_n 2 (q := 54) (j := 2) rfl dX9_askTrial_53 rfl rfl ?_
    refine zf_aload_n 0 (q := 55) (j := 0) rfl dX9_askTrial_54 rfl rfl ?_
    refine zf_getR (q := 58) rfl dX9_askTrial_55 lf_RX9_101 (sm0 hG) rfl ?_
    refine zf_iconst (q := 59) rfl dX9_askTrial_58 ic4 ?_
    refine zf_iload_n 1 (q := 60) (j := 1) rfl dX9_askTrial_59 rfl rfl ?_
    refine zf_imul (q := 61) rfl dX9_askTrial_60 ?_
    refine zf_iload_n 2 (q := 62) (j := 2) rfl dX9_askTrial_61 rfl rfl ?_
    refine zf_iadd (q := 63) rfl dX9_askTrial_62 ?_
    obtain ⟨v5, ev5, h⟩ := zb h
    refine zf_zald (q := 64) rfl dX9_askTrial_63 (sm31 hG) ev5 ?_
    obtain ⟨s6, es6, h⟩ := zb h
    refine zf_zast (q := 65) rfl dX9_askTrial_64 (sm14 hG) es6 ?_
    refine zf_aload_n 0 (q := 66) (j := 0) rfl dX9_askTrial_65 rfl rfl ?_
    refine zf_getR (q := 69) rfl dX9_askTrial_66 lf_RX9_53 (sm0 hG) rfl ?_
    refine zf_iload_n 2 (q := 70) (j := 2) rfl dX9_askTrial_69 rfl rfl ?_
    refine zf_aload_n 0 (q := 71) (j := 0) rfl dX9_askTrial_70 rfl rfl ?_
    refine zf_getR (q := 74) rfl dX9_askTrial_71 lf_RX9_104 (sm0 hG) rfl ?_
    refine zf_iconst (q := 75) rfl dX9_askTrial_74 ic4 ?_
    refine zf_iload_n 1 (q := 76) (j := 1) rfl dX9_askTrial_75 rfl rfl ?_
    refine zf_imul (q := 77) rfl dX9_askTrial_76 ?_
    refine zf_iload_n 2 (q := 78) (j := 2) rfl dX9_askTrial_77 rfl rfl ?_
    refine zf_iadd (q := 79) rfl dX9_askTrial_78 ?_
    obtain ⟨v7, ev7, h⟩ := zb h
    refine zf_zald (q := 80) rfl dX9_askTrial_79 (sm32 hG) ev7 ?_
    obtain ⟨s8, es8, h⟩ := zb h
    refine zf_zast (q := 81) rfl dX9_askTrial_80 (sm15 hG) es8 ?_
    obtain ⟨v9, ev9, h⟩ := zb h
    refine zf_iinc 2 (q := 84) (v := v9) (lv1 := [(2, .int v9), (0, .ref (zad G 0)), (1, .int x1)]) rfl dX9_askTrial_81 rfl (by rw [ic1]; exact ev9) (by decide) rfl ?_
    refine zf_goto (tgt := 12) (by decide) dX9_askTrial_84 ?_
    exact zf_sub [1, 2, 0] rfl (hr12 _ _ _ h)
def f_X9_askTrial_12 (N : Nat) : Nat → Int32 → Int32 → ZM → Option (Unit × ZM)
  | 0, _, _, _ => none
  | n + 1, x1, x2, σ => b_X9_askTrial_12 N (f_X9_askTrial_12 N n) x1 x2 σ
theorem ok_X9_askTrial_12 {G : ZG} (hG : zSH G = shM) (N : Nat) {d : Nat} {res : Unit × ZM} : ∀ (n : Nat) (x1 : Int32) (x2 : Int32) (σ : ZM), f_X9_askTrial_12 N n x1 x2 σ = some res → zF G MX9_askTrial d 12 [(0, .ref (zad G 0)), (1, .int x1), (2, .int x2)] [] σ none res.2 := by
  intro n
  induction n with
  | zero => intro x1 x2 σ h; exact absurd h (by simp [f_X9_askTrial_12])
  | succ n ih => intro x1 x2 σ h; rw [f_X9_askTrial_12] at h; exact ok_b_X9_askTrial_12 hG N ih h
def f_X9_askTrial (N : Nat) (x1 : Int32) (σ : ZM) : Option (Unit × ZM) :=
  (zald σ 28 6 x1).bind fun v10 =>
  (zpI σ 0 14 v10).bind fun s11 =>
  f_X9_askTrial_12 N N x1 (0 : Int32) s11
set_option maxRecDepth 100000 in
theorem ok_X9_askTrial {G : ZG} (hG : zSH G = shM) (N : Nat) {d : Nat} (hd : 0 ≤ d) {x1 : Int32} {σ : ZM} {res : Unit × ZM} (h : f_X9_askTrial N x1 σ = some res) : zCt G d MX9_askTrial [.ref (zad G 0), .int x1] σ none res.2 := by
  refine zct_of (by decide) (Nat.le_of_ble_eq_true rfl) (lv := [(0, .ref (zad G 0)), (1, .int x1)]) rfl ?_
  unfold f_X9_askTrial at h
  refine zf_aload_n 0 (q := 1) (j := 0) rfl dX9_askTrial_0 rfl rfl ?_
  refine zf_aload_n 0 (q := 2) (j := 0) rfl dX9_askTrial_1 rfl rfl ?_
  refine zf_getR (q := 5) rfl dX9_askTrial_2 lf_RX9_92 (sm0 hG) rfl ?_
  refine zf_iload_n 1 (q := 6) (j := 1) rfl dX9_askTrial_5 rfl rfl ?_
  obtain ⟨v10, ev10, h⟩ := zb h
  refine zf_iald (q := 7) rfl dX9_askTrial_6 (sm28 hG) ev10 ?_
  obtain ⟨s11, es11, h⟩ := zb h
  refine zf_putI (q := 10) rfl dX9_askTrial_7 lp_RX9_167 (sm0 hG) rfl es11 ?_
  refine zf_iconst (q := 11) rfl dX9_askTrial_10 ic0 ?_
  refine zf_istore_n (q := 12) (y := (0 : Int32)) (i := 2) (lv1 := [(2, .int (0 : Int32)), (0, .ref (zad G 0)), (1, .int x1)]) rfl dX9_askTrial_11 rfl (by decide) rfl rfl ?_
  exact zf_sub [1, 2, 0] rfl (ok_X9_askTrial_12 hG N _ _ _ _ h)
