-- ===== X8_excess: NearCopies.excess()I
def f_X8_excess (N : Nat) (σ : ZM) : Option (Int32 × ZM) :=
  zbd (f_X1_pickNow N σ) fun r1 s2 =>
  zbd (f_X1_measure N s2) fun r3 s4 =>
  (zald s4 30 625 r3).bind fun v5 =>
  zbd (f_X8_stateIfNone N v5 s4) fun r6 s7 =>
  some (r6, s7)
set_option maxRecDepth 100000 in
theorem ok_X8_excess {G : ZG} (hG : zSH G = shC) (N : Nat) {d : Nat} (hd : 5 ≤ d) {σ : ZM} {res : Int32 × ZM} (h : f_X8_excess N σ = some res) : zCt G d MX8_excess [.ref (zad G 0)] σ (some (.int res.1)) res.2 := by
  obtain ⟨d, rfl⟩ : ∃ k, d = k + 1 := ⟨d - 1, by omega⟩
  have hd : 4 ≤ d := by omega
  refine zct_of (by decide) (Nat.le_of_ble_eq_true rfl) (lv := [(0, .ref (zad G 0))]) rfl ?_
  unfold f_X8_excess at h
  refine zf_aload_n 0 (q := 1) (j := 0) rfl dX8_excess_0 rfl rfl ?_
  refine zf_getR (q := 4) rfl dX8_excess_1 lf_RX8_44 (sc0 hG) rfl ?_
  obtain ⟨r1, s2, es2, h⟩ := zc h
  refine zf_callV (q := 7) (As := []) (rest := []) (st1 := []) rfl dX8_excess_4 lv_RX8_176 (sc23 hG) rfl rfl (Nat.le_of_ble_eq_true rfl) (ok_X1_pickNow hG N (Nat.le_trans (by decide) hd) es2) rfl ?_
  refine zf_aload_n 0 (q := 8) (j := 0) rfl dX8_excess_7 rfl rfl ?_
  refine zf_getR (q := 11) rfl dX8_excess_8 lf_RX8_44 (sc0 hG) rfl ?_
  refine zf_getR (q := 14) rfl dX8_excess_11 lf_RX8_179 (sc23 hG) rfl ?_
  refine zf_aload_n 0 (q := 15) (j := 0) rfl dX8_excess_14 rfl rfl ?_
  refine zf_getR (q := 18) rfl dX8_excess_15 lf_RX8_44 (sc0 hG) rfl ?_
  obtain ⟨r3, s4, es4, h⟩ := zc h
  refine zf_callV (q := 21) (As := []) (rest := [.ref (zad G 30)]) (st1 := [.int r3, .ref (zad G 30)]) rfl dX8_excess_18 lv_RX8_182 (sc23 hG) rfl rfl (Nat.le_of_ble_eq_true rfl) (ok_X1_measure hG N (Nat.le_trans (by decide) hd) es4) rfl ?_
  obtain ⟨v5, ev5, h⟩ := zb h
  refine zf_iald (q := 22) rfl dX8_excess_21 (sc30 hG) ev5 ?_
  obtain ⟨r6, s7, es7, h⟩ := zc h
  refine zf_callS (q := 25) (As := [.int v5]) (rest := []) (st1 := [.int r6]) rfl dX8_excess_22 ls_RX8_185 rfl rfl (Nat.le_of_ble_eq_true rfl) (ok_X8_stateIfNone hG N (Nat.le_trans (by decide) hd) es7) rfl ?_
  cases h
  exact zf_ireturn dX8_excess_25 rfl
-- ===== X8_sum: NearCopies.sum()J
def f_X8_sum (N : Nat) (σ : ZM) : Option (Int64 × ZM) :=
  zbd (f_X1_pickNow N σ) fun r1 s2 =>
  zbd (f_X1_measure N s2) fun r3 s4 =>
  (zald s4 30 625 r3).bind fun v5 =>
  if v5 = (-9 : Int32) then
  (some ((-3 : Int64), s4))
  else
  ((zald s4 31 625 r3).bind fun v6 =>
  some ((Int32.toInt64 v6), s4))
set_option maxRecDepth 100000 in
theorem ok_X8_sum {G : ZG} (hG : zSH G = shC) (N : Nat) {d : Nat} (hd : 5 ≤ d) {σ : ZM} {res : Int64 × ZM} (h : f_X8_sum N σ = some res) : zCt G d MX8_sum [.ref (zad G 0)] σ (some (.long res.1)) res.2 := by
  obtain ⟨d, rfl⟩ : ∃ k, d = k + 1 := ⟨d - 1, by omega⟩
  have hd : 4 ≤ d := by omega
  refine zct_of (by decide) (Nat.le_of_ble_eq_true rfl) (lv := [(0, .ref (zad G 0))]) rfl ?_
  unfold f_X8_sum at h
  refine zf_aload_n 0 (q := 1) (j := 0) rfl dX8_sum_0 rfl rfl ?_
  refine zf_getR (q := 4) rfl dX8_sum_1 lf_RX8_44 (sc0 hG) rfl ?_
  obtain ⟨r1, s2, es2, h⟩ := zc h
  refine zf_callV (q := 7) (As := []) (rest := []) (st1 := []) rfl dX8_sum_4 lv_RX8_176 (sc23 hG) rfl rfl (Nat.le_of_ble_eq_true rfl) (ok_X1_pickNow hG N (Nat.le_trans (by decide) hd) es2) rfl ?_
  refine zf_aload_n 0 (q := 8) (j := 0) rfl dX8_sum_7 rfl rfl ?_
  refine zf_getR (q := 11) rfl dX8_sum_8 lf_RX8_44 (sc0 hG) rfl ?_
  obtain ⟨r3, s4, es4, h⟩ := zc h
  refine zf_callV (q := 14) (As := []) (rest := []) (st1 := [.int r3]) rfl dX8_sum_11 lv_RX8_182 (sc23 hG) rfl rfl (Nat.le_of_ble_eq_true rfl) (ok_X1_measure hG N (Nat.le_trans (by decide) hd) es4) rfl ?_
  refine zf_istore_n (q := 15) (y := r3) (i := 1) (lv1 := [(1, .int r3), (0, .ref (zad G 0))]) rfl dX8_sum_14 rfl (by decide) rfl rfl ?_
  refine zf_aload_n 1 (q := 16) (j := 0) rfl dX8_sum_15 rfl rfl ?_
  refine zf_getR (q := 19) rfl dX8_sum_16 lf_RX8_44 (sc0 hG) rfl ?_
  refine zf_getR (q := 22) rfl dX8_sum_19 lf_RX8_179 (sc23 hG) rfl ?_
  refine zf_iload_n 0 (q := 23) (j := 1) rfl dX8_sum_22 rfl rfl ?_
  obtain ⟨v5, ev5, h⟩ := zb h
  refine zf_iald (q := 24) rfl dX8_sum_23 (sc30 hG) ev5 ?_
  refine zf_bipush (q := 26) rfl dX8_sum_24 bpm9 ?_
  refine zf_icmp_ne (q := 29) (tgt := 35) rfl (by decide) dX8_sum_26 (fun hc26 => ?_) (fun hc26 => ?_)
  · replace h := (zi h).2 hc26
    refine zf_aload_n 1 (q := 36) (j := 0) rfl dX8_sum_35 rfl rfl ?_
    refine zf_getR (q := 39) rfl dX8_sum_36 lf_RX8_44 (sc0 hG) rfl ?_
    refine zf_getR (q := 42) rfl dX8_sum_39 lf_RX8_190 (sc23 hG) rfl ?_
    refine zf_iload_n 0 (q := 43) (j := 1) rfl dX8_sum_42 rfl rfl ?_
    obtain ⟨v6, ev6, h⟩ := zb h
    refine zf_iald (q := 44) rfl dX8_sum_43 (sc31 hG) ev6 ?_
    refine zf_i2l (q := 45) rfl dX8_sum_44 ?_
    cases h
    exact zf_lreturn dX8_sum_45 rfl
  · replace h := (zi h).1 hc26
    refine zf_ldc2 (q := 32) rfl dX8_sum_29 cl_RX8_188 ?_
    refine zf_goto (tgt := 45) (by decide) dX8_sum_32 ?_
    cases h
    exact zf_lreturn dX8_sum_45 rfl
-- ===== X8_without: NearCopies.without(I)I
def f_X8_without (N : Nat) (x1 : Int32) (σ : ZM) : Option (Int32 × ZM) :=
  zbd (f_X7_has N 12 x1 σ) fun r1 s2 =>
  if r1 = 0 then
  (some ((-1 : Int32), s2))
  else
  ((zald s2 16 4 x1).bind fun v3 =>
  if v3 = 0 then
  (some ((-3 : Int32), s2))
  else
  (zbd (f_X1_pickNow N s2) fun r4 s5 =>
  (zast s5 32 4 x1 (4 : Int32)).bind fun s6 =>
  zbd (f_X1_measure N s6) fun r7 s8 =>
  (zald s8 30 625 r7).bind fun v9 =>
  zbd (f_X8_stateIfNone N v9 s8) fun r10 s11 =>
  some (r10, s11)))
set_option maxRecDepth 100000 in
theorem ok_X8_without {G : ZG} (hG : zSH G = shC) (N : Nat) {d : Nat} (hd : 5 ≤ d) {x1 : Int32} {σ : ZM} {res : Int32 × ZM} (h : f_X8_without N x1 σ = some res) : zCt G d MX8_without [.ref (zad G 0), .int x1] σ (some (.int res.1)) res.2 := by
  obtain ⟨d, rfl⟩ : ∃ k, d = k + 1 := ⟨d - 1, by omega⟩
  have hd : 4 ≤ d := by omega
  refine zct_of (by decide) (Nat.le_of_ble_eq_true rfl) (lv := [(0, .ref (zad G 0)), (1, .int x1)]) rfl ?_
  unfold f_X8_without at h
  refine zf_aload_n 0 (q := 1) (j := 0) rfl dX8_without_0 rfl rfl ?_
  refine zf_getR (q := 4) rfl dX8_without_1 lf_RX8_36 (sc0 hG) rfl ?_
  refine zf_iload_n 1 (q := 5) (j := 1) rfl dX8_without_4 rfl rfl ?_
  obtain ⟨r1, s2, es2, h⟩ := zc h
  refine zf_callV (q := 8) (As := [.int x1]) (rest := []) (st1 := [.int r1]) rfl dX8_without_5 lv_RX8_121 (sc12 hG) rfl rfl (Nat.le_of_ble_eq_true rfl) (ok_X7_has hG N (Nat.le_trans (by decide) hd) (wd12 hG) es2) rfl ?_
  refine zf_if_ne (q := 11) (tgt := 13) rfl (by decide) dX8_without_8 (fun hc8 => ?_) (fun hc8 => ?_)
  · replace h := (zi h).2 hc8
    refine zf_aload_n 0 (q := 14) (j := 0) rfl dX8_without_13 rfl rfl ?_
    refine zf_getR (q := 17) rfl dX8_without_14 lf_RX8_36 (sc0 hG) rfl ?_
    refine zf_getR (q := 20) rfl dX8_without_17 lf_RX8_122 (sc12 hG) rfl ?_
    refine zf_iload_n 1 (q := 21) (j := 1) rfl dX8_without_20 rfl rfl ?_
    obtain ⟨v3, ev3, h⟩ := zb h
    refine zf_zald (q := 22) rfl dX8_without_21 (sc16 hG) ev3 ?_
    refine zf_if_ne (q := 25) (tgt := 28) rfl (by decide) dX8_without_22 (fun hc22 => ?_) (fun hc22 => ?_)
    · replace h := (zi h).2 hc22
      refine zf_aload_n 0 (q := 29) (j := 0) rfl dX8_without_28 rfl rfl ?_
      refine zf_getR (q := 32) rfl dX8_without_29 lf_RX8_44 (sc0 hG) rfl ?_
      obtain ⟨r4, s5, es5, h⟩ := zc h
      refine zf_callV (q := 35) (As := []) (rest := []) (st1 := []) rfl dX8_without_32 lv_RX8_176 (sc23 hG) rfl rfl (Nat.le_of_ble_eq_true rfl) (ok_X1_pickNow hG N (Nat.le_trans (by decide) hd) es5) rfl ?_
      refine zf_aload_n 0 (q := 36) (j := 0) rfl dX8_without_35 rfl rfl ?_
      refine zf_getR (q := 39) rfl dX8_without_36 lf_RX8_44 (sc0 hG) rfl ?_
      refine zf_getR (q := 42) rfl dX8_without_39 lf_RX8_193 (sc23 hG) rfl ?_
      refine zf_iload_n 1 (q := 43) (j := 1) rfl dX8_without_42 rfl rfl ?_
      refine zf_iconst (q := 44) rfl dX8_without_43 ic4 ?_
      obtain ⟨s6, es6, h⟩ := zb h
      refine zf_iast (q := 45) rfl dX8_without_44 (sc32 hG) es6 ?_
      refine zf_aload_n 0 (q := 46) (j := 0) rfl dX8_without_45 rfl rfl ?_
      refine zf_getR (q := 49) rfl dX8_without_46 lf_RX8_44 (sc0 hG) rfl ?_
      refine zf_getR (q := 52) rfl dX8_without_49 lf_RX8_179 (sc23 hG) rfl ?_
      refine zf_aload_n 0 (q := 53) (j := 0) rfl dX8_without_52 rfl rfl ?_
      refine zf_getR (q := 56) rfl dX8_without_53 lf_RX8_44 (sc0 hG) rfl ?_
      obtain ⟨r7, s8, es8, h⟩ := zc h
      refine zf_callV (q := 59) (As := []) (rest := [.ref (zad G 30)]) (st1 := [.int r7, .ref (zad G 30)]) rfl dX8_without_56 lv_RX8_182 (sc23 hG) rfl rfl (Nat.le_of_ble_eq_true rfl) (ok_X1_measure hG N (Nat.le_trans (by decide) hd) es8) rfl ?_
      obtain ⟨v9, ev9, h⟩ := zb h
      refine zf_iald (q := 60) rfl dX8_without_59 (sc30 hG) ev9 ?_
      obtain ⟨r10, s11, es11, h⟩ := zc h
      refine zf_callS (q := 63) (As := [.int v9]) (rest := []) (st1 := [.int r10]) rfl dX8_without_60 ls_RX8_185 rfl rfl (Nat.le_of_ble_eq_true rfl) (ok_X8_stateIfNone hG N (Nat.le_trans (by decide) hd) es11) rfl ?_
      cases h
      exact zf_ireturn dX8_without_63 rfl
    · replace h := (zi h).1 hc22
      refine zf_bipush (q := 27) rfl dX8_without_25 bpm3 ?_
      cases h
      exact zf_ireturn dX8_without_27 rfl
  · replace h := (zi h).1 hc8
    refine zf_iconst (q := 12) rfl dX8_without_11 icm1 ?_
    cases h
    exact zf_ireturn dX8_without_12 rfl
-- ===== X8_moves: NearCopies.moves(II)I
def f_X8_moves_72 (N : Nat) (x1 : Int32) (x3 : Int32) (x4 : Int32) (y0 : Int32) (σ : ZM) : Option (Int32 × ZM) :=
  (zast σ 13 4 x1 x4).bind fun s1 =>
  if y0 = 0 then
  (some ((-3 : Int32), s1))
  else
  (zbd (f_X2_outcome N s1) fun r2 s3 =>
  zbd (f_X3_askersUnlike N x3 r2 s3) fun r4 s5 =>
  some (r4, s5))
set_option maxRecDepth 100000 in
theorem ok_X8_moves_72 {G : ZG} (hG : zSH G = shC) (N : Nat) {d : Nat} (hd : 4 ≤ d) {res : Int32 × ZM} {x1 : Int32} {x3 : Int32} {x4 : Int32} {y0 : Int32} {σ : ZM} (h : f_X8_moves_72 N x1 x3 x4 y0 σ = some res) : zF G MX8_moves (d + 1) 72 [(0, .ref (zad G 0)), (1, .int x1), (3, .int x3), (4, .int x4)] [.int y0] σ (some (.int res.1)) res.2 := by
  unfold f_X8_moves_72 at h
  refine zf_istore (q := 74) (y := y0) (i := 5) (lv1 := [(5, .int y0), (0, .ref (zad G 0)), (1, .int x1), (3, .int x3), (4, .int x4)]) rfl dX8_moves_72 (by decide) rfl rfl ?_
  refine zf_aload_n 1 (q := 75) (j := 0) rfl dX8_moves_74 rfl rfl ?_
  refine zf_getR (q := 78) rfl dX8_moves_75 lf_RX8_36 (sc0 hG) rfl ?_
  refine zf_getR (q := 81) rfl dX8_moves_78 lf_RX8_129 (sc12 hG) rfl ?_
  refine zf_iload_n 2 (q := 82) (j := 1) rfl dX8_moves_81 rfl rfl ?_
  refine zf_iload 4 (q := 84) rfl dX8_moves_82 rfl ?_
  obtain ⟨s1, es1, h⟩ := zb h
  refine zf_iast (q := 85) rfl dX8_moves_84 (sc13 hG) es1 ?_
  refine zf_iload 0 (q := 87) rfl dX8_moves_85 rfl ?_
  refine zf_if_eq (q := 90) (tgt := 108) rfl (by decide) dX8_moves_87 (fun hc87 => ?_) (fun hc87 => ?_)
  · replace h := (zi h).1 hc87
    refine zf_bipush (q := 110) rfl dX8_moves_108 bpm3 ?_
    cases h
    exact zf_ireturn dX8_moves_110 rfl
  · replace h := (zi h).2 hc87
    refine zf_aload_n 1 (q := 91) (j := 0) rfl dX8_moves_90 rfl rfl ?_
    refine zf_getR (q := 94) rfl dX8_moves_91 lf_RX8_26 (sc0 hG) rfl ?_
    refine zf_iload_n 3 (q := 95) (j := 3) rfl dX8_moves_94 rfl rfl ?_
    refine zf_aload_n 1 (q := 96) (j := 0) rfl dX8_moves_95 rfl rfl ?_
    refine zf_getR (q := 99) rfl dX8_moves_96 lf_RX8_40 (sc0 hG) rfl ?_
    obtain ⟨r2, s3, es3, h⟩ := zc h
    refine zf_callV (q := 102) (As := []) (rest := [.int x3, .ref (zad G 1)]) (st1 := [.int r2, .int x3, .ref (zad G 1)]) rfl dX8_moves_99 lv_RX8_196 (sc17 hG) rfl rfl (Nat.le_of_ble_eq_true rfl) (ok_X2_outcome hG N (Nat.le_trans (by decide) hd) es3) rfl ?_
    obtain ⟨r4, s5, es5, h⟩ := zc h
    refine zf_callV (q := 105) (As := [.int x3, .int r2]) (rest := []) (st1 := [.int r4]) rfl dX8_moves_102 lv_RX8_199 (sc1 hG) rfl rfl (Nat.le_of_ble_eq_true rfl) (ok_X3_askersUnlike hG N (Nat.le_trans (by decide) hd) es5) rfl ?_
    refine zf_goto (tgt := 110) (by decide) dX8_moves_105 ?_
    cases h
    exact zf_ireturn dX8_moves_110 rfl
def f_X8_moves (N : Nat) (x1 : Int32) (x2 : Int32) (σ : ZM) : Option (Int32 × ZM) :=
  zbd (f_X7_has N 12 x1 σ) fun r6 s7 =>
  if r6 = 0 then
  (some ((-1 : Int32), s7))
  else
  (zbd (f_X8_within N x2 (4 : Int32) s7) fun r8 s9 =>
  if r8 = 0 then
  (some ((-2 : Int32), s9))
  else
  (zbd (f_X8_settleNow N s9) fun r10 s11 =>
  if r10 = (-9 : Int32) then
  (some ((-3 : Int32), s11))
  else
  (zbd (f_X2_outcome N s11) fun r12 s13 =>
  zbd (f_X8_put N 13 4 x1 x2 s13) fun r14 s15 =>
  zbd (f_X8_settleNow N s15) fun r16 s17 =>
  if r16 = (-9 : Int32) then
  (f_X8_moves_72 N x1 r12 r14 (0 : Int32) s17)
  else
  (f_X8_moves_72 N x1 r12 r14 (1 : Int32) s17))))
set_option maxRecDepth 100000 in
theorem ok_X8_moves {G : ZG} (hG : zSH G = shC) (N : Nat) {d : Nat} (hd : 5 ≤ d) {x1 : Int32} {x2 : Int32} {σ : ZM} {res : Int32 × ZM} (h : f_X8_moves N x1 x2 σ = some res) : zCt G d MX8_moves [.ref (zad G 0), .int x1, .int x2] σ (some (.int res.1)) res.2 := by
  obtain ⟨d, rfl⟩ : ∃ k, d = k + 1 := ⟨d - 1, by omega⟩
  have hd : 4 ≤ d := by omega
  refine zct_of (by decide) (Nat.le_of_ble_eq_true rfl) (lv := [(0, .ref (zad G 0)), (1, .int x1), (2, .int x2)]) rfl ?_
  unfold f_X8_moves at h
  refine zf_aload_n 0 (q := 1) (j := 0) rfl dX8_moves_0 rfl rfl ?_
  refine zf_getR (q := 4) rfl dX8_moves_1 lf_RX8_36 (sc0 hG) rfl ?_
  refine zf_iload_n 1 (q := 5) (j := 1) rfl dX8_moves_4 rfl rfl ?_
  obtain ⟨r6, s7, es7, h⟩ := zc h
  refine zf_callV (q := 8) (As := [.int x1]) (rest := []) (st1 := [.int r6]) rfl dX8_moves_5 lv_RX8_121 (sc12 hG) rfl rfl (Nat.le_of_ble_eq_true rfl) (ok_X7_has hG N (Nat.le_trans (by decide) hd) (wd12 hG) es7) rfl ?_
  refine zf_if_ne (q := 11) (tgt := 13) rfl (by decide) dX8_moves_8 (fun hc8 => ?_) (fun hc8 => ?_)
  · replace h := (zi h).2 hc8
    refine zf_iload_n 2 (q := 14) (j := 2) rfl dX8_moves_13 rfl rfl ?_
    refine zf_iconst (q := 15) rfl dX8_moves_14 ic4 ?_
    obtain ⟨r8, s9, es9, h⟩ := zc h
    refine zf_callS (q := 18) (As := [.int x2, .int (4 : Int32)]) (rest := []) (st1 := [.int r8]) rfl dX8_moves_15 ls_RX8_66 rfl rfl (Nat.le_of_ble_eq_true rfl) (ok_X8_within hG N (Nat.le_trans (by decide) hd) es9) rfl ?_
    refine zf_if_ne (q := 21) (tgt := 24) rfl (by decide) dX8_moves_18 (fun hc18 => ?_) (fun hc18 => ?_)
    · replace h := (zi h).2 hc18
      refine zf_aload_n 0 (q := 25) (j := 0) rfl dX8_moves_24 rfl rfl ?_
      obtain ⟨r10, s11, es11, h⟩ := zc h
      refine zf_callV (q := 28) (As := []) (rest := []) (st1 := [.int r10]) rfl dX8_moves_25 lv_RX8_144 (sc0 hG) rfl rfl (Nat.le_of_ble_eq_true rfl) (ok_X8_settleNow hG N (Nat.le_trans (by decide) hd) es11) rfl ?_
      refine zf_bipush (q := 30) rfl dX8_moves_28 bpm9 ?_
      refine zf_icmp_ne (q := 33) (tgt := 36) rfl (by decide) dX8_moves_30 (fun hc30 => ?_) (fun hc30 => ?_)
      · replace h := (zi h).2 hc30
        refine zf_aload_n 0 (q := 37) (j := 0) rfl dX8_moves_36 rfl rfl ?_
        refine zf_getR (q := 40) rfl dX8_moves_37 lf_RX8_40 (sc0 hG) rfl ?_
        obtain ⟨r12, s13, es13, h⟩ := zc h
        refine zf_callV (q := 43) (As := []) (rest := []) (st1 := [.int r12]) rfl dX8_moves_40 lv_RX8_196 (sc17 hG) rfl rfl (Nat.le_of_ble_eq_true rfl) (ok_X2_outcome hG N (Nat.le_trans (by decide) hd) es13) rfl ?_
        refine zf_istore_n (q := 44) (y := r12) (i := 3) (lv1 := [(3, .int r12), (0, .ref (zad G 0)), (1, .int x1), (2, .int x2)]) rfl dX8_moves_43 rfl (by decide) rfl rfl ?_
        refine zf_aload_n 1 (q := 45) (j := 0) rfl dX8_moves_44 rfl rfl ?_
        refine zf_getR (q := 48) rfl dX8_moves_45 lf_RX8_36 (sc0 hG) rfl ?_
        refine zf_getR (q := 51) rfl dX8_moves_48 lf_RX8_129 (sc12 hG) rfl ?_
        refine zf_iload_n 2 (q := 52) (j := 1) rfl dX8_moves_51 rfl rfl ?_
        refine zf_iload_n 3 (q := 53) (j := 2) rfl dX8_moves_52 rfl rfl ?_
        obtain ⟨r14, s15, es15, h⟩ := zc h
        refine zf_callS (q := 56) (As := [.ref (zad G 13), .int x1, .int x2]) (rest := []) (st1 := [.int r14]) rfl dX8_moves_53 ls_RX8_103 rfl rfl (Nat.le_of_ble_eq_true rfl) (ok_X8_put hG N (Nat.le_trans (by decide) hd) (sc13 hG) es15) rfl ?_
        refine zf_istore (q := 58) (y := r14) (i := 4) (lv1 := [(4, .int r14), (3, .int r12), (0, .ref (zad G 0)), (1, .int x1), (2, .int x2)]) rfl dX8_moves_56 (by decide) rfl rfl ?_
        refine zf_aload_n 2 (q := 59) (j := 0) rfl dX8_moves_58 rfl rfl ?_
        obtain ⟨r16, s17, es17, h⟩ := zc h
        refine zf_callV (q := 62) (As := []) (rest := []) (st1 := [.int r16]) rfl dX8_moves_59 lv_RX8_144 (sc0 hG) rfl rfl (Nat.le_of_ble_eq_true rfl) (ok_X8_settleNow hG N (Nat.le_trans (by decide) hd) es17) rfl ?_
        refine zf_bipush (q := 64) rfl dX8_moves_62 bpm9 ?_
        refine zf_icmp_eq (q := 67) (tgt := 71) rfl (by decide) dX8_moves_64 (fun hc64 => ?_) (fun hc64 => ?_)
        · replace h := (zi h).1 hc64
          refine zf_iconst (q := 72) rfl dX8_moves_71 ic0 ?_
          exact zf_sub [2, 3, 1, 0] rfl (ok_X8_moves_72 hG N hd h)
        · replace h := (zi h).2 hc64
          refine zf_iconst (q := 68) rfl dX8_moves_67 ic1 ?_
          refine zf_goto (tgt := 72) (by decide) dX8_moves_68 ?_
          exact zf_sub [2, 3, 1, 0] rfl (ok_X8_moves_72 hG N hd h)
      · replace h := (zi h).1 hc30
        refine zf_bipush (q := 35) rfl dX8_moves_33 bpm3 ?_
        cases h
        exact zf_ireturn dX8_moves_35 rfl
    · replace h := (zi h).1 hc18
      refine zf_bipush (q := 23) rfl dX8_moves_21 bpm2 ?_
      cases h
      exact zf_ireturn dX8_moves_23 rfl
  · replace h := (zi h).1 hc8
    refine zf_iconst (q := 12) rfl dX8_moves_11 icm1 ?_
    cases h
    exact zf_ireturn dX8_moves_12 rfl
-- ===== X8_trial: NearCopies.trial()I
def f_X8_trial (N : Nat) (σ : ZM) : Option (Int32 × ZM) :=
  if (σ.1 38 5) < (6 : Int32) then
  (zbd (f_X0_forget N σ) fun r1 s2 =>
  zbd (f_X0_keepTrial N s2) fun r3 s4 =>
  some (r3, s4))
  else
  (some ((-4 : Int32), σ))
set_option maxRecDepth 100000 in
theorem ok_X8_trial {G : ZG} (hG : zSH G = shC) (N : Nat) {d : Nat} (hd : 2 ≤ d) {σ : ZM} {res : Int32 × ZM} (h : f_X8_trial N σ = some res) : zCt G d MX8_trial [.ref (zad G 0)] σ (some (.int res.1)) res.2 := by
  obtain ⟨d, rfl⟩ : ∃ k, d = k + 1 := ⟨d - 1, by omega⟩
  have hd : 1 ≤ d := by omega
  refine zct_of (by decide) (Nat.le_of_ble_eq_true rfl) (lv := [(0, .ref (zad G 0))]) rfl ?_
  unfold f_X8_trial at h
  refine zf_aload_n 0 (q := 1) (j := 0) rfl dX8_trial_0 rfl rfl ?_
  refine zf_getR (q := 4) rfl dX8_trial_1 lf_RX8_62 (sc0 hG) rfl ?_
  refine zf_getI (q := 7) rfl dX8_trial_4 lf_RX8_202 (sc38 hG) rfl ?_
  refine zf_bipush (q := 9) rfl dX8_trial_7 bp6 ?_
  refine zf_icmp_lt (q := 12) (tgt := 15) rfl (by decide) dX8_trial_9 (fun hc9 => ?_) (fun hc9 => ?_)
  · replace h := (zi h).1 hc9
    refine zf_aload_n 0 (q := 16) (j := 0) rfl dX8_trial_15 rfl rfl ?_
    refine zf_getR (q := 19) rfl dX8_trial_16 lf_RX8_62 (sc0 hG) rfl ?_
    obtain ⟨r1, s2, es2, h⟩ := zc h
    refine zf_callV (q := 22) (As := []) (rest := []) (st1 := []) rfl dX8_trial_19 lv_RX8_205 (sc38 hG) rfl rfl (Nat.le_of_ble_eq_true rfl) (ok_X0_forget hG N (Nat.le_trans (by decide) hd) es2) rfl ?_
    refine zf_aload_n 0 (q := 23) (j := 0) rfl dX8_trial_22 rfl rfl ?_
    refine zf_getR (q := 26) rfl dX8_trial_23 lf_RX8_62 (sc0 hG) rfl ?_
    obtain ⟨r3, s4, es4, h⟩ := zc h
    refine zf_callV (q := 29) (As := []) (rest := []) (st1 := [.int r3]) rfl dX8_trial_26 lv_RX8_208 (sc38 hG) rfl rfl (Nat.le_of_ble_eq_true rfl) (ok_X0_keepTrial hG N (Nat.le_trans (by decide) hd) es4) rfl ?_
    cases h
    exact zf_ireturn dX8_trial_29 rfl
  · replace h := (zi h).2 hc9
    refine zf_bipush (q := 14) rfl dX8_trial_12 bpm4 ?_
    cases h
    exact zf_ireturn dX8_trial_14 rfl
-- ===== X8_seen: NearCopies.seen(III)I
def f_X8_seen_27 (N : Nat) (x1 : Int32) (x2 : Int32) (x3 : Int32) (y0 : Int32) (σ : ZM) : Option (Int32 × ZM) :=
  if x1 < 0 then
  (some ((-1 : Int32), σ))
  else
  (if (σ.1 38 5) ≤ x1 then
  (some ((-1 : Int32), σ))
  else
  (zbd (f_X3_has N x2 σ) fun r1 s2 =>
  if r1 = 0 then
  (some ((-1 : Int32), s2))
  else
  (if y0 = 0 then
  (some ((-1 : Int32), s2))
  else
  (zbd (f_X0_forget N s2) fun r3 s4 =>
  (zalR ztrl x1).bind fun t5 =>
  zbd (f_X8_put N (t5 + 6) 10 x2 x3 s4) fun r6 s7 =>
  some (r6, s7)))))
set_option maxRecDepth 100000 in
theorem ok_X8_seen_27 {G : ZG} (hG : zSH G = shC) (N : Nat) {d : Nat} (hd : 0 ≤ d) {res : Int32 × ZM} {x1 : Int32} {x2 : Int32} {x3 : Int32} {y0 : Int32} {σ : ZM} (h : f_X8_seen_27 N x1 x2 x3 y0 σ = some res) : zF G MX8_seen (d + 1) 27 [(0, .ref (zad G 0)), (1, .int x1), (2, .int x2), (3, .int x3)] [.int y0] σ (some (.int res.1)) res.2 := by
  unfold f_X8_seen_27 at h
  refine zf_istore (q := 29) (y := y0) (i := 4) (lv1 := [(4, .int y0), (0, .ref (zad G 0)), (1, .int x1), (2, .int x2), (3, .int x3)]) rfl dX8_seen_27 (by decide) rfl rfl ?_
  refine zf_iload_n 2 (q := 30) (j := 1) rfl dX8_seen_29 rfl rfl ?_
  refine zf_if_lt (q := 33) (tgt := 60) rfl (by decide) dX8_seen_30 (fun hc30 => ?_) (fun hc30 => ?_)
  · replace h := (zi h).1 hc30
    refine zf_iconst (q := 61) rfl dX8_seen_60 icm1 ?_
    cases h
    exact zf_ireturn dX8_seen_61 rfl
  · replace h := (zi h).2 hc30
    refine zf_iload_n 2 (q := 34) (j := 1) rfl dX8_seen_33 rfl rfl ?_
    refine zf_aload_n 1 (q := 35) (j := 0) rfl dX8_seen_34 rfl rfl ?_
    refine zf_getR (q := 38) rfl dX8_seen_35 lf_RX8_62 (sc0 hG) rfl ?_
    refine zf_getI (q := 41) rfl dX8_seen_38 lf_RX8_202 (sc38 hG) rfl ?_
    refine zf_icmp_ge (q := 44) (tgt := 60) rfl (by decide) dX8_seen_41 (fun hc41 => ?_) (fun hc41 => ?_)
    · replace h := (zi h).1 hc41
      refine zf_iconst (q := 61) rfl dX8_seen_60 icm1 ?_
      cases h
      exact zf_ireturn dX8_seen_61 rfl
    · replace h := (zi h).2 hc41
      refine zf_aload_n 1 (q := 45) (j := 0) rfl dX8_seen_44 rfl rfl ?_
      refine zf_getR (q := 48) rfl dX8_seen_45 lf_RX8_26 (sc0 hG) rfl ?_
      refine zf_iload_n 3 (q := 49) (j := 2) rfl dX8_seen_48 rfl rfl ?_
      obtain ⟨r1, s2, es2, h⟩ := zc h
      refine zf_callV (q := 52) (As := [.int x2]) (rest := []) (st1 := [.int r1]) rfl dX8_seen_49 lv_RX8_81 (sc1 hG) rfl rfl (Nat.le_of_ble_eq_true rfl) (ok_X3_has hG N (Nat.le_trans (by decide) hd) es2) rfl ?_
      refine zf_if_eq (q := 55) (tgt := 60) rfl (by decide) dX8_seen_52 (fun hc52 => ?_) (fun hc52 => ?_)
      · replace h := (zi h).1 hc52
        refine zf_iconst (q := 61) rfl dX8_seen_60 icm1 ?_
        cases h
        exact zf_ireturn dX8_seen_61 rfl
      · replace h := (zi h).2 hc52
        refine zf_iload 0 (q := 57) rfl dX8_seen_55 rfl ?_
        refine zf_if_ne (q := 60) (tgt := 62) rfl (by decide) dX8_seen_57 (fun hc57 => ?_) (fun hc57 => ?_)
        · replace h := (zi h).2 hc57
          refine zf_aload_n 1 (q := 63) (j := 0) rfl dX8_seen_62 rfl rfl ?_
          refine zf_getR (q := 66) rfl dX8_seen_63 lf_RX8_62 (sc0 hG) rfl ?_
          obtain ⟨r3, s4, es4, h⟩ := zc h
          refine zf_callV (q := 69) (As := []) (rest := []) (st1 := []) rfl dX8_seen_66 lv_RX8_205 (sc38 hG) rfl rfl (Nat.le_of_ble_eq_true rfl) (ok_X0_forget hG N (Nat.le_trans (by decide) hd) es4) rfl ?_
          refine zf_aload_n 1 (q := 70) (j := 0) rfl dX8_seen_69 rfl rfl ?_
          refine zf_getR (q := 73) rfl dX8_seen_70 lf_RX8_62 (sc0 hG) rfl ?_
          refine zf_getR (q := 76) rfl dX8_seen_73 lf_RX8_211 (sc38 hG) rfl ?_
          refine zf_iload_n 2 (q := 77) (j := 1) rfl dX8_seen_76 rfl rfl ?_
          obtain ⟨t5, et5, h⟩ := zb h
          have ht5 := tr_of hG et5
          refine zf_aald (q := 78) rfl dX8_seen_77 (sc44 hG) et5 ?_
          refine zf_getR (q := 81) rfl dX8_seen_78 lf_RX8_215 ht5.1 rfl ?_
          refine zf_iload_n 3 (q := 82) (j := 2) rfl dX8_seen_81 rfl rfl ?_
          refine zf_iload_n 4 (q := 83) (j := 3) rfl dX8_seen_82 rfl rfl ?_
          obtain ⟨r6, s7, es7, h⟩ := zc h
          refine zf_callS (q := 86) (As := [.ref (zad G (t5 + 6)), .int x2, .int x3]) (rest := []) (st1 := [.int r6]) rfl dX8_seen_83 ls_RX8_103 rfl rfl (Nat.le_of_ble_eq_true rfl) (ok_X8_put hG N (Nat.le_trans (by decide) hd) ht5.2.2 es7) rfl ?_
          cases h
          exact zf_ireturn dX8_seen_86 rfl
        · replace h := (zi h).1 hc57
          refine zf_iconst (q := 61) rfl dX8_seen_60 icm1 ?_
          cases h
          exact zf_ireturn dX8_seen_61 rfl
def f_X8_seen_22 (N : Nat) (x1 : Int32) (x2 : Int32) (x3 : Int32) (σ : ZM) : Option (Int32 × ZM) :=
  f_X8_seen_27 N x1 x2 x3 (1 : Int32) σ
set_option maxRecDepth 100000 in
theorem ok_X8_seen_22 {G : ZG} (hG : zSH G = shC) (N : Nat) {d : Nat} (hd : 0 ≤ d) {res : Int32 × ZM} {x1 : Int32} {x2 : Int32} {x3 : Int32} {σ : ZM} (h : f_X8_seen_22 N x1 x2 x3 σ = some res) : zF G MX8_seen (d + 1) 22 [(0, .ref (zad G 0)), (1, .int x1), (2, .int x2), (3, .int x3)] [] σ (some (.int res.1)) res.2 := by
  unfold f_X8_seen_22 at h
  refine zf_iconst (q := 23) rfl dX8_seen_22 ic1 ?_
  refine zf_goto (tgt := 27) (by decide) dX8_seen_23 ?_
  exact zf_sub [0, 1, 2, 3] rfl (ok_X8_seen_27 hG N hd h)
def f_X8_seen (N : Nat) (x1 : Int32) (x2 : Int32) (x3 : Int32) (σ : ZM) : Option (Int32 × ZM) :=
  if x3 = (-9 : Int32) then
  (f_X8_seen_22 N x1 x2 x3 σ)
  else
  (if x3 = (4 : Int32) then
  (f_X8_seen_22 N x1 x2 x3 σ)
  else
  (zbd (f_X7_has N 12 x3 σ) fun r8 s9 =>
  if r8 = 0 then
  (f_X8_seen_27 N x1 x2 x3 (0 : Int32) s9)
  else
  (f_X8_seen_22 N x1 x2 x3 s9)))
set_option maxRecDepth 100000 in
theorem ok_X8_seen {G : ZG} (hG : zSH G = shC) (N : Nat) {d : Nat} (hd : 1 ≤ d) {x1 : Int32} {x2 : Int32} {x3 : Int32} {σ : ZM} {res : Int32 × ZM} (h : f_X8_seen N x1 x2 x3 σ = some res) : zCt G d MX8_seen [.ref (zad G 0), .int x1, .int x2, .int x3] σ (some (.int res.1)) res.2 := by
  obtain ⟨d, rfl⟩ : ∃ k, d = k + 1 := ⟨d - 1, by omega⟩
  have hd : 0 ≤ d := by omega
  refine zct_of (by decide) (Nat.le_of_ble_eq_true rfl) (lv := [(0, .ref (zad G 0)), (1, .int x1), (2, .int x2), (3, .int x3)]) rfl ?_
  unfold f_X8_seen at h
  refine zf_iload_n 3 (q := 1) (j := 3) rfl dX8_seen_0 rfl rfl ?_
  refine zf_bipush (q := 3) rfl dX8_seen_1 bpm9 ?_
  refine zf_icmp_eq (q := 6) (tgt := 22) rfl (by decide) dX8_seen_3 (fun hc3 => ?_) (fun hc3 => ?_)
  · replace h := (zi h).1 hc3
    exact zf_sub [0, 1, 2, 3] rfl (ok_X8_seen_22 hG N hd h)
  · replace h := (zi h).2 hc3
    refine zf_iload_n 3 (q := 7) (j := 3) rfl dX8_seen_6 rfl rfl ?_
    refine zf_iconst (q := 8) rfl dX8_seen_7 ic4 ?_
    refine zf_icmp_eq (q := 11) (tgt := 22) rfl (by decide) dX8_seen_8 (fun hc8 => ?_) (fun hc8 => ?_)
    · replace h := (zi h).1 hc8
      exact zf_sub [0, 1, 2, 3] rfl (ok_X8_seen_22 hG N hd h)
    · replace h := (zi h).2 hc8
      refine zf_aload_n 0 (q := 12) (j := 0) rfl dX8_seen_11 rfl rfl ?_
      refine zf_getR (q := 15) rfl dX8_seen_12 lf_RX8_36 (sc0 hG) rfl ?_
      refine zf_iload_n 3 (q := 16) (j := 3) rfl dX8_seen_15 rfl rfl ?_
      obtain ⟨r8, s9, es9, h⟩ := zc h
      refine zf_callV (q := 19) (As := [.int x3]) (rest := []) (st1 := [.int r8]) rfl dX8_seen_16 lv_RX8_121 (sc12 hG) rfl rfl (Nat.le_of_ble_eq_true rfl) (ok_X7_has hG N (Nat.le_trans (by decide) hd) (wd12 hG) es9) rfl ?_
      refine zf_if_eq (q := 22) (tgt := 26) rfl (by decide) dX8_seen_19 (fun hc19 => ?_) (fun hc19 => ?_)
      · replace h := (zi h).1 hc19
        refine zf_iconst (q := 27) rfl dX8_seen_26 ic0 ?_
        exact zf_sub [0, 1, 2, 3] rfl (ok_X8_seen_27 hG N hd h)
      · replace h := (zi h).2 hc19
        exact zf_sub [0, 1, 2, 3] rfl (ok_X8_seen_22 hG N hd h)
-- ===== X8_cases: NearCopies.cases()I
def f_X8_cases (N : Nat) (σ : ZM) : Option (Int32 × ZM) :=
  zbd (f_X3_caseCount N σ) fun r1 s2 =>
  if r1 ≤ (256 : Int32) then
  (some (r1, s2))
  else
  (some ((-5 : Int32), s2))
set_option maxRecDepth 100000 in
theorem ok_X8_cases {G : ZG} (hG : zSH G = shC) (N : Nat) {d : Nat} (hd : 2 ≤ d) {σ : ZM} {res : Int32 × ZM} (h : f_X8_cases N σ = some res) : zCt G d MX8_cases [.ref (zad G 0)] σ (some (.int res.1)) res.2 := by
  obtain ⟨d, rfl⟩ : ∃ k, d = k + 1 := ⟨d - 1, by omega⟩
  have hd : 1 ≤ d := by omega
  refine zct_of (by decide) (Nat.le_of_ble_eq_true rfl) (lv := [(0, .ref (zad G 0))]) rfl ?_
  unfold f_X8_cases at h
  refine zf_aload_n 0 (q := 1) (j := 0) rfl dX8_cases_0 rfl rfl ?_
  refine zf_getR (q := 4) rfl dX8_cases_1 lf_RX8_26 (sc0 hG) rfl ?_
  obtain ⟨r1, s2, es2, h⟩ := zc h
  refine zf_callV (q := 7) (As := []) (rest := []) (st1 := [.int r1]) rfl dX8_cases_4 lv_RX8_220 (sc1 hG) rfl rfl (Nat.le_of_ble_eq_true rfl) (ok_X3_caseCount hG N (Nat.le_trans (by decide) hd) es2) rfl ?_
  refine zf_istore_n (q := 8) (y := r1) (i := 1) (lv1 := [(1, .int r1), (0, .ref (zad G 0))]) rfl dX8_cases_7 rfl (by decide) rfl rfl ?_
  refine zf_iload_n 0 (q := 9) (j := 1) rfl dX8_cases_8 rfl rfl ?_
  refine zf_sipush (q := 12) rfl dX8_cases_9 sp256 ?_
  refine zf_icmp_le (q := 15) (tgt := 20) rfl (by decide) dX8_cases_12 (fun hc12 => ?_) (fun hc12 => ?_)
  · replace h := (zi h).1 hc12
    refine zf_iload_n 0 (q := 21) (j := 1) rfl dX8_cases_20 rfl rfl ?_
    cases h
    exact zf_ireturn dX8_cases_21 rfl
  · replace h := (zi h).2 hc12
    refine zf_bipush (q := 17) rfl dX8_cases_15 bpm5 ?_
    refine zf_goto (tgt := 21) (by decide) dX8_cases_17 ?_
    cases h
    exact zf_ireturn dX8_cases_21 rfl
-- ===== X8_agree: NearCopies.agree()I
def f_X8_agree (N : Nat) (σ : ZM) : Option (Int32 × ZM) :=
  zbd (f_X0_sift N σ) fun r1 s2 =>
  if r1 = 0 then
  (some ((-5 : Int32), s2))
  else
  (some ((s2.1 38 7), s2))
set_option maxRecDepth 100000 in
theorem ok_X8_agree {G : ZG} (hG : zSH G = shC) (N : Nat) {d : Nat} (hd : 6 ≤ d) {σ : ZM} {res : Int32 × ZM} (h : f_X8_agree N σ = some res) : zCt G d MX8_agree [.ref (zad G 0)] σ (some (.int res.1)) res.2 := by
  obtain ⟨d, rfl⟩ : ∃ k, d = k + 1 := ⟨d - 1, by omega⟩
  have hd : 5 ≤ d := by omega
  refine zct_of (by decide) (Nat.le_of_ble_eq_true rfl) (lv := [(0, .ref (zad G 0))]) rfl ?_
  unfold f_X8_agree at h
  refine zf_aload_n 0 (q := 1) (j := 0) rfl dX8_agree_0 rfl rfl ?_
  refine zf_getR (q := 4) rfl dX8_agree_1 lf_RX8_62 (sc0 hG) rfl ?_
  obtain ⟨r1, s2, es2, h⟩ := zc h
  refine zf_callV (q := 7) (As := []) (rest := []) (st1 := [.int r1]) rfl dX8_agree_4 lv_RX8_223 (sc38 hG) rfl rfl (Nat.le_of_ble_eq_true rfl) (ok_X0_sift hG N (Nat.le_trans (by decide) hd) es2) rfl ?_
  refine zf_if_eq (q := 10) (tgt := 20) rfl (by decide) dX8_agree_7 (fun hc7 => ?_) (fun hc7 => ?_)
  · replace h := (zi h).1 hc7
    refine zf_bipush (q := 22) rfl dX8_agree_20 bpm5 ?_
    cases h
    exact zf_ireturn dX8_agree_22 rfl
  · replace h := (zi h).2 hc7
    refine zf_aload_n 0 (q := 11) (j := 0) rfl dX8_agree_10 rfl rfl ?_
    refine zf_getR (q := 14) rfl dX8_agree_11 lf_RX8_62 (sc0 hG) rfl ?_
    refine zf_getI (q := 17) rfl dX8_agree_14 lf_RX8_227 (sc38 hG) rfl ?_
    refine zf_goto (tgt := 22) (by decide) dX8_agree_17 ?_
    cases h
    exact zf_ireturn dX8_agree_22 rfl
-- ===== X8_could: NearCopies.could(I)I
def f_X8_could (N : Nat) (x1 : Int32) (σ : ZM) : Option (Int32 × ZM) :=
  zbd (f_X3_has N x1 σ) fun r1 s2 =>
  if r1 = 0 then
  (some ((-1 : Int32), s2))
  else
  (zbd (f_X0_sift N s2) fun r3 s4 =>
  if r3 = 0 then
  (some ((-5 : Int32), s4))
  else
  (zbd (f_X0_sitesOf N x1 s4) fun r5 s6 =>
  some (r5, s6)))
set_option maxRecDepth 100000 in
theorem ok_X8_could {G : ZG} (hG : zSH G = shC) (N : Nat) {d : Nat} (hd : 6 ≤ d) {x1 : Int32} {σ : ZM} {res : Int32 × ZM} (h : f_X8_could N x1 σ = some res) : zCt G d MX8_could [.ref (zad G 0), .int x1] σ (some (.int res.1)) res.2 := by
  obtain ⟨d, rfl⟩ : ∃ k, d = k + 1 := ⟨d - 1, by omega⟩
  have hd : 5 ≤ d := by omega
  refine zct_of (by decide) (Nat.le_of_ble_eq_true rfl) (lv := [(0, .ref (zad G 0)), (1, .int x1)]) rfl ?_
  unfold f_X8_could at h
  refine zf_aload_n 0 (q := 1) (j := 0) rfl dX8_could_0 rfl rfl ?_
  refine zf_getR (q := 4) rfl dX8_could_1 lf_RX8_26 (sc0 hG) rfl ?_
  refine zf_iload_n 1 (q := 5) (j := 1) rfl dX8_could_4 rfl rfl ?_
  obtain ⟨r1, s2, es2, h⟩ := zc h
  refine zf_callV (q := 8) (As := [.int x1]) (rest := []) (st1 := [.int r1]) rfl dX8_could_5 lv_RX8_81 (sc1 hG) rfl rfl (Nat.le_of_ble_eq_true rfl) (ok_X3_has hG N (Nat.le_trans (by decide) hd) es2) rfl ?_
  refine zf_if_ne (q := 11) (tgt := 13) rfl (by decide) dX8_could_8 (fun hc8 => ?_) (fun hc8 => ?_)
  · replace h := (zi h).2 hc8
    refine zf_aload_n 0 (q := 14) (j := 0) rfl dX8_could_13 rfl rfl ?_
    refine zf_getR (q := 17) rfl dX8_could_14 lf_RX8_62 (sc0 hG) rfl ?_
    obtain ⟨r3, s4, es4, h⟩ := zc h
    refine zf_callV (q := 20) (As := []) (rest := []) (st1 := [.int r3]) rfl dX8_could_17 lv_RX8_223 (sc38 hG) rfl rfl (Nat.le_of_ble_eq_true rfl) (ok_X0_sift hG N (Nat.le_trans (by decide) hd) es4) rfl ?_
    refine zf_if_eq (q := 23) (tgt := 34) rfl (by decide) dX8_could_20 (fun hc20 => ?_) (fun hc20 => ?_)
    · replace h := (zi h).1 hc20
      refine zf_bipush (q := 36) rfl dX8_could_34 bpm5 ?_
      cases h
      exact zf_ireturn dX8_could_36 rfl
    · replace h := (zi h).2 hc20
      refine zf_aload_n 0 (q := 24) (j := 0) rfl dX8_could_23 rfl rfl ?_
      refine zf_getR (q := 27) rfl dX8_could_24 lf_RX8_62 (sc0 hG) rfl ?_
      refine zf_iload_n 1 (q := 28) (j := 1) rfl dX8_could_27 rfl rfl ?_
      obtain ⟨r5, s6, es6, h⟩ := zc h
      refine zf_callV (q := 31) (As := [.int x1]) (rest := []) (st1 := [.int r5]) rfl dX8_could_28 lv_RX8_230 (sc38 hG) rfl rfl (Nat.le_of_ble_eq_true rfl) (ok_X0_sitesOf hG N (Nat.le_trans (by decide) hd) es6) rfl ?_
      refine zf_goto (tgt := 36) (by decide) dX8_could_31 ?_
      cases h
      exact zf_ireturn dX8_could_36 rfl
  · replace h := (zi h).1 hc8
    refine zf_iconst (q := 12) rfl dX8_could_11 icm1 ?_
    cases h
    exact zf_ireturn dX8_could_12 rfl
-- ===== X8_rules: NearCopies.rules(I)I
def f_X8_rules (N : Nat) (x1 : Int32) (σ : ZM) : Option (Int32 × ZM) :=
  zbd (f_X3_has N x1 σ) fun r1 s2 =>
  if r1 = 0 then
  (some ((-1 : Int32), s2))
  else
  (zbd (f_X0_sift N s2) fun r3 s4 =>
  if r3 = 0 then
  (some ((-5 : Int32), s4))
  else
  (zbd (f_X0_rulesOf N x1 s4) fun r5 s6 =>
  some (r5, s6)))
set_option maxRecDepth 100000 in
theorem ok_X8_rules {G : ZG} (hG : zSH G = shC) (N : Nat) {d : Nat} (hd : 6 ≤ d) {x1 : Int32} {σ : ZM} {res : Int32 × ZM} (h : f_X8_rules N x1 σ = some res) : zCt G d MX8_rules [.ref (zad G 0), .int x1] σ (some (.int res.1)) res.2 := by
  obtain ⟨d, rfl⟩ : ∃ k, d = k + 1 := ⟨d - 1, by omega⟩
  have hd : 5 ≤ d := by omega
  refine zct_of (by decide) (Nat.le_of_ble_eq_true rfl) (lv := [(0, .ref (zad G 0)), (1, .int x1)]) rfl ?_
  unfold f_X8_rules at h
  refine zf_aload_n 0 (q := 1) (j := 0) rfl dX8_rules_0 rfl rfl ?_
  refine zf_getR (q := 4) rfl dX8_rules_1 lf_RX8_26 (sc0 hG) rfl ?_
  refine zf_iload_n 1 (q := 5) (j := 1) rfl dX8_rules_4 rfl rfl ?_
  obtain ⟨r1, s2, es2, h⟩ := zc h
  refine zf_callV (q := 8) (As := [.int x1]) (rest := []) (st1 := [.int r1]) rfl dX8_rules_5 lv_RX8_81 (sc1 hG) rfl rfl (Nat.le_of_ble_eq_true rfl) (ok_X3_has hG N (Nat.le_trans (by decide) hd) es2) rfl ?_
  refine zf_if_ne (q := 11) (tgt := 13) rfl (by decide) dX8_rules_8 (fun hc8 => ?_) (fun hc8 => ?_)
  · replace h := (zi h).2 hc8
    refine zf_aload_n 0 (q := 14) (j := 0) rfl dX8_rules_13 rfl rfl ?_
    refine zf_getR (q := 17) rfl dX8_rules_14 lf_RX8_62 (sc0 hG) rfl ?_
    obtain ⟨r3, s4, es4, h⟩ := zc h
    refine zf_callV (q := 20) (As := []) (rest := []) (st1 := [.int r3]) rfl dX8_rules_17 lv_RX8_223 (sc38 hG) rfl rfl (Nat.le_of_ble_eq_true rfl) (ok_X0_sift hG N (Nat.le_trans (by decide) hd) es4) rfl ?_
    refine zf_if_eq (q := 23) (tgt := 34) rfl (by decide) dX8_rules_20 (fun hc20 => ?_) (fun hc20 => ?_)
    · replace h := (zi h).1 hc20
      refine zf_bipush (q := 36) rfl dX8_rules_34 bpm5 ?_
      cases h
      exact zf_ireturn dX8_rules_36 rfl
    · replace h := (zi h).2 hc20
      refine zf_aload_n 0 (q := 24) (j := 0) rfl dX8_rules_23 rfl rfl ?_
      refine zf_getR (q := 27) rfl dX8_rules_24 lf_RX8_62 (sc0 hG) rfl ?_
      refine zf_iload_n 1 (q := 28) (j := 1) rfl dX8_rules_27 rfl rfl ?_
      obtain ⟨r5, s6, es6, h⟩ := zc h
      refine zf_callV (q := 31) (As := [.int x1]) (rest := []) (st1 := [.int r5]) rfl dX8_rules_28 lv_RX8_233 (sc38 hG) rfl rfl (Nat.le_of_ble_eq_true rfl) (ok_X0_rulesOf hG N (Nat.le_trans (by decide) hd) es6) rfl ?_
      refine zf_goto (tgt := 36) (by decide) dX8_rules_31 ?_
      cases h
      exact zf_ireturn dX8_rules_36 rfl
  · replace h := (zi h).1 hc8
    refine zf_iconst (q := 12) rfl dX8_rules_11 icm1 ?_
    cases h
    exact zf_ireturn dX8_rules_12 rfl
-- ===== X8_learn: NearCopies.learn()I
def b_X8_learn_28 (N : Nat) (rec28 : Int32 → ZM → Option (Int32 × ZM)) (x1 : Int32) (σ : ZM) : Option (Int32 × ZM) :=
  if (σ.1 1 0) ≤ x1 then
  (zbd (f_X8_forgetAll N σ) fun r1 s2 =>
  zbd (f_X3_caseCount N s2) fun r3 s4 =>
  some (r3, s4))
  else
  (zbd (f_X0_rulesOf N x1 σ) fun r5 s6 =>
  (zast s6 3 10 x1 r5).bind fun s7 =>
  (some (x1 + (1 : Int32))).bind fun v8 =>
  rec28 v8 s7)
set_option maxRecDepth 100000 in
theorem ok_b_X8_learn_28 {G : ZG} (hG : zSH G = shC) (N : Nat) {d : Nat} (hd : 5 ≤ d) {rec28 : Int32 → ZM → Option (Int32 × ZM)} {res : Int32 × ZM} (hr28 : ∀ (x1 : Int32) (σ : ZM), rec28 x1 σ = some res → zF G MX8_learn (d + 1) 28 [(0, .ref (zad G 0)), (1, .int x1)] [] σ (some (.int res.1)) res.2) {x1 : Int32} {σ : ZM} (h : b_X8_learn_28 N rec28 x1 σ = some res) : zF G MX8_learn (d + 1) 28 [(0, .ref (zad G 0)), (1, .int x1)] [] σ (some (.int res.1)) res.2 := by
  unfold b_X8_learn_28 at h
  refine zf_iload_n 1 (q := 29) (j := 1) rfl dX8_learn_28 rfl rfl ?_
  refine zf_aload_n 0 (q := 30) (j := 0) rfl dX8_learn_29 rfl rfl ?_
  refine zf_getR (q := 33) rfl dX8_learn_30 lf_RX8_26 (sc0 hG) rfl ?_
  refine zf_getI (q := 36) rfl dX8_learn_33 lf_RX8_70 (sc1 hG) rfl ?_
  refine zf_icmp_ge (q := 39) (tgt := 62) rfl (by decide) dX8_learn_36 (fun hc36 => ?_) (fun hc36 => ?_)
  · replace h := (zi h).1 hc36
    refine zf_aload_n 0 (q := 63) (j := 0) rfl dX8_learn_62 rfl rfl ?_
    obtain ⟨r1, s2, es2, h⟩ := zc h
    refine zf_callV (q := 66) (As := []) (rest := []) (st1 := []) rfl dX8_learn_63 lv_RX8_74 (sc0 hG) rfl rfl (Nat.le_of_ble_eq_true rfl) (ok_X8_forgetAll hG N (Nat.le_trans (by decide) hd) es2) rfl ?_
    refine zf_aload_n 0 (q := 67) (j := 0) rfl dX8_learn_66 rfl rfl ?_
    refine zf_getR (q := 70) rfl dX8_learn_67 lf_RX8_26 (sc0 hG) rfl ?_
    obtain ⟨r3, s4, es4, h⟩ := zc h
    refine zf_callV (q := 73) (As := []) (rest := []) (st1 := [.int r3]) rfl dX8_learn_70 lv_RX8_220 (sc1 hG) rfl rfl (Nat.le_of_ble_eq_true rfl) (ok_X3_caseCount hG N (Nat.le_trans (by decide) hd) es4) rfl ?_
    cases h
    exact zf_ireturn dX8_learn_73 rfl
  · replace h := (zi h).2 hc36
    refine zf_aload_n 0 (q := 40) (j := 0) rfl dX8_learn_39 rfl rfl ?_
    refine zf_getR (q := 43) rfl dX8_learn_40 lf_RX8_26 (sc0 hG) rfl ?_
    refine zf_getR (q := 46) rfl dX8_learn_43 lf_RX8_107 (sc1 hG) rfl ?_
    refine zf_iload_n 1 (q := 47) (j := 1) rfl dX8_learn_46 rfl rfl ?_
    refine zf_aload_n 0 (q := 48) (j := 0) rfl dX8_learn_47 rfl rfl ?_
    refine zf_getR (q := 51) rfl dX8_learn_48 lf_RX8_62 (sc0 hG) rfl ?_
    refine zf_iload_n 1 (q := 52) (j := 1) rfl dX8_learn_51 rfl rfl ?_
    obtain ⟨r5, s6, es6, h⟩ := zc h
    refine zf_callV (q := 55) (As := [.int x1]) (rest := [.int x1, .ref (zad G 3)]) (st1 := [.int r5, .int x1, .ref (zad G 3)]) rfl dX8_learn_52 lv_RX8_233 (sc38 hG) rfl rfl (Nat.le_of_ble_eq_true rfl) (ok_X0_rulesOf hG N (Nat.le_trans (by decide) hd) es6) rfl ?_
    obtain ⟨s7, es7, h⟩ := zb h
    refine zf_iast (q := 56) rfl dX8_learn_55 (sc3 hG) es7 ?_
    obtain ⟨v8, ev8, h⟩ := zb h
    refine zf_iinc 1 (q := 59) (v := v8) (lv1 := [(1, .int v8), (0, .ref (zad G 0))]) rfl dX8_learn_56 rfl (by rw [ic1]; exact ev8) (by decide) rfl ?_
    refine zf_goto (tgt := 28) (by decide) dX8_learn_59 ?_
    exact zf_sub [1, 0] rfl (hr28 _ _ h)
def f_X8_learn_28 (N : Nat) : Nat → Int32 → ZM → Option (Int32 × ZM)
  | 0, _, _ => none
  | n + 1, x1, σ => b_X8_learn_28 N (f_X8_learn_28 N n) x1 σ
theorem ok_X8_learn_28 {G : ZG} (hG : zSH G = shC) (N : Nat) {d : Nat} (hd : 5 ≤ d) {res : Int32 × ZM} : ∀ (n : Nat) (x1 : Int32) (σ : ZM), f_X8_learn_28 N n x1 σ = some res → zF G MX8_learn (d + 1) 28 [(0, .ref (zad G 0)), (1, .int x1)] [] σ (some (.int res.1)) res.2 := by
  intro n
  induction n with
  | zero => intro x1 σ h; exact absurd h (by simp [f_X8_learn_28])
  | succ n ih => intro x1 σ h; rw [f_X8_learn_28] at h; exact ok_b_X8_learn_28 hG N hd ih h
def f_X8_learn (N : Nat) (σ : ZM) : Option (Int32 × ZM) :=
  zbd (f_X0_sift N σ) fun r9 s10 =>
  if r9 = 0 then
  (some ((-5 : Int32), s10))
  else
  (if (s10.1 38 7) = 0 then
  (some ((-3 : Int32), s10))
  else
  (f_X8_learn_28 N N (0 : Int32) s10))
set_option maxRecDepth 100000 in
theorem ok_X8_learn {G : ZG} (hG : zSH G = shC) (N : Nat) {d : Nat} (hd : 6 ≤ d) {σ : ZM} {res : Int32 × ZM} (h : f_X8_learn N σ = some res) : zCt G d MX8_learn [.ref (zad G 0)] σ (some (.int res.1)) res.2 := by
  obtain ⟨d, rfl⟩ : ∃ k, d = k + 1 := ⟨d - 1, by omega⟩
  have hd : 5 ≤ d := by omega
  refine zct_of (by decide) (Nat.le_of_ble_eq_true rfl) (lv := [(0, .ref (zad G 0))]) rfl ?_
  unfold f_X8_learn at h
  refine zf_aload_n 0 (q := 1) (j := 0) rfl dX8_learn_0 rfl rfl ?_
  refine zf_getR (q := 4) rfl dX8_learn_1 lf_RX8_62 (sc0 hG) rfl ?_
  obtain ⟨r9, s10, es10, h⟩ := zc h
  refine zf_callV (q := 7) (As := []) (rest := []) (st1 := [.int r9]) rfl dX8_learn_4 lv_RX8_223 (sc38 hG) rfl rfl (Nat.le_of_ble_eq_true rfl) (ok_X0_sift hG N (Nat.le_trans (by decide) hd) es10) rfl ?_
  refine zf_if_ne (q := 10) (tgt := 13) rfl (by decide) dX8_learn_7 (fun hc7 => ?_) (fun hc7 => ?_)
  · replace h := (zi h).2 hc7
    refine zf_aload_n 0 (q := 14) (j := 0) rfl dX8_learn_13 rfl rfl ?_
    refine zf_getR (q := 17) rfl dX8_learn_14 lf_RX8_62 (sc0 hG) rfl ?_
    refine zf_getI (q := 20) rfl dX8_learn_17 lf_RX8_227 (sc38 hG) rfl ?_
    refine zf_if_ne (q := 23) (tgt := 26) rfl (by decide) dX8_learn_20 (fun hc20 => ?_) (fun hc20 => ?_)
    · replace h := (zi h).2 hc20
      refine zf_iconst (q := 27) rfl dX8_learn_26 ic0 ?_
      refine zf_istore_n (q := 28) (y := (0 : Int32)) (i := 1) (lv1 := [(1, .int (0 : Int32)), (0, .ref (zad G 0))]) rfl dX8_learn_27 rfl (by decide) rfl rfl ?_
      exact zf_sub [1, 0] rfl (ok_X8_learn_28 hG N hd _ _ _ h)
    · replace h := (zi h).1 hc20
      refine zf_bipush (q := 25) rfl dX8_learn_23 bpm3 ?_
      cases h
      exact zf_ireturn dX8_learn_25 rfl
  · replace h := (zi h).1 hc7
    refine zf_bipush (q := 12) rfl dX8_learn_10 bpm5 ?_
    cases h
    exact zf_ireturn dX8_learn_12 rfl
-- ===== X8_quarrel: NearCopies.quarrel()I
def f_X8_quarrel (N : Nat) (σ : ZM) : Option (Int32 × ZM) :=
  zbd (f_X0_sift N σ) fun r1 s2 =>
  if r1 = 0 then
  (some ((-5 : Int32), s2))
  else
  (some ((s2.1 38 8), s2))
set_option maxRecDepth 100000 in
theorem ok_X8_quarrel {G : ZG} (hG : zSH G = shC) (N : Nat) {d : Nat} (hd : 6 ≤ d) {σ : ZM} {res : Int32 × ZM} (h : f_X8_quarrel N σ = some res) : zCt G d MX8_quarrel [.ref (zad G 0)] σ (some (.int res.1)) res.2 := by
  obtain ⟨d, rfl⟩ : ∃ k, d = k + 1 := ⟨d - 1, by omega⟩
  have hd : 5 ≤ d := by omega
  refine zct_of (by decide) (Nat.le_of_ble_eq_true rfl) (lv := [(0, .ref (zad G 0))]) rfl ?_
  unfold f_X8_quarrel at h
  refine zf_aload_n 0 (q := 1) (j := 0) rfl dX8_quarrel_0 rfl rfl ?_
  refine zf_getR (q := 4) rfl dX8_quarrel_1 lf_RX8_62 (sc0 hG) rfl ?_
  obtain ⟨r1, s2, es2, h⟩ := zc h
  refine zf_callV (q := 7) (As := []) (rest := []) (st1 := [.int r1]) rfl dX8_quarrel_4 lv_RX8_223 (sc38 hG) rfl rfl (Nat.le_of_ble_eq_true rfl) (ok_X0_sift hG N (Nat.le_trans (by decide) hd) es2) rfl ?_
  refine zf_if_eq (q := 10) (tgt := 20) rfl (by decide) dX8_quarrel_7 (fun hc7 => ?_) (fun hc7 => ?_)
  · replace h := (zi h).1 hc7
    refine zf_bipush (q := 22) rfl dX8_quarrel_20 bpm5 ?_
    cases h
    exact zf_ireturn dX8_quarrel_22 rfl
  · replace h := (zi h).2 hc7
    refine zf_aload_n 0 (q := 11) (j := 0) rfl dX8_quarrel_10 rfl rfl ?_
    refine zf_getR (q := 14) rfl dX8_quarrel_11 lf_RX8_62 (sc0 hG) rfl ?_
    refine zf_getI (q := 17) rfl dX8_quarrel_14 lf_RX8_236 (sc38 hG) rfl ?_
    refine zf_goto (tgt := 22) (by decide) dX8_quarrel_17 ?_
    cases h
    exact zf_ireturn dX8_quarrel_22 rfl
-- ===== X8_next: NearCopies.next(Z)I
def f_X8_next (N : Nat) (x1 : Int32) (σ : ZM) : Option (Int32 × ZM) :=
  zbd (f_X0_sift N σ) fun r1 s2 =>
  if r1 = 0 then
  (some ((-5 : Int32), s2))
  else
  (if (s2.1 38 7) < (2 : Int32) then
  (some ((-9 : Int32), s2))
  else
  (zbd (f_X7_upCount N 12 s2) fun r3 s4 =>
  if r3 = 0 then
  (some ((-9 : Int32), s4))
  else
  (zbd (f_X0_seekTrial N s4) fun r5 s6 =>
  if x1 = 0 then
  (some ((((10 : Int32) * (s6.1 38 12)) + (s6.1 38 13)), s6))
  else
  (some ((s6.1 38 14), s6)))))
set_option maxRecDepth 100000 in
theorem ok_X8_next {G : ZG} (hG : zSH G = shC) (N : Nat) {d : Nat} (hd : 6 ≤ d) {x1 : Int32} {σ : ZM} {res : Int32 × ZM} (h : f_X8_next N x1 σ = some res) : zCt G d MX8_next [.ref (zad G 0), .int x1] σ (some (.int res.1)) res.2 := by
  obtain ⟨d, rfl⟩ : ∃ k, d = k + 1 := ⟨d - 1, by omega⟩
  have hd : 5 ≤ d := by omega
  refine zct_of (by decide) (Nat.le_of_ble_eq_true rfl) (lv := [(0, .ref (zad G 0)), (1, .int x1)]) rfl ?_
  unfold f_X8_next at h
  refine zf_aload_n 0 (q := 1) (j := 0) rfl dX8_next_0 rfl rfl ?_
  refine zf_getR (q := 4) rfl dX8_next_1 lf_RX8_62 (sc0 hG) rfl ?_
  obtain ⟨r1, s2, es2, h⟩ := zc h
  refine zf_callV (q := 7) (As := []) (rest := []) (st1 := [.int r1]) rfl dX8_next_4 lv_RX8_223 (sc38 hG) rfl rfl (Nat.le_of_ble_eq_true rfl) (ok_X0_sift hG N (Nat.le_trans (by decide) hd) es2) rfl ?_
  refine zf_if_ne (q := 10) (tgt := 13) rfl (by decide) dX8_next_7 (fun hc7 => ?_) (fun hc7 => ?_)
  · replace h := (zi h).2 hc7
    refine zf_aload_n 0 (q := 14) (j := 0) rfl dX8_next_13 rfl rfl ?_
    refine zf_getR (q := 17) rfl dX8_next_14 lf_RX8_62 (sc0 hG) rfl ?_
    refine zf_getI (q := 20) rfl dX8_next_17 lf_RX8_227 (sc38 hG) rfl ?_
    refine zf_iconst (q := 21) rfl dX8_next_20 ic2 ?_
    refine zf_icmp_lt (q := 24) (tgt := 34) rfl (by decide) dX8_next_21 (fun hc21 => ?_) (fun hc21 => ?_)
    · replace h := (zi h).1 hc21
      refine zf_bipush (q := 36) rfl dX8_next_34 bpm9 ?_
      cases h
      exact zf_ireturn dX8_next_36 rfl
    · replace h := (zi h).2 hc21
      refine zf_aload_n 0 (q := 25) (j := 0) rfl dX8_next_24 rfl rfl ?_
      refine zf_getR (q := 28) rfl dX8_next_25 lf_RX8_36 (sc0 hG) rfl ?_
      obtain ⟨r3, s4, es4, h⟩ := zc h
      refine zf_callV (q := 31) (As := []) (rest := []) (st1 := [.int r3]) rfl dX8_next_28 lv_RX8_239 (sc12 hG) rfl rfl (Nat.le_of_ble_eq_true rfl) (ok_X7_upCount hG N (Nat.le_trans (by decide) hd) (wd12 hG) es4) rfl ?_
      refine zf_if_ne (q := 34) (tgt := 37) rfl (by decide) dX8_next_31 (fun hc31 => ?_) (fun hc31 => ?_)
      · replace h := (zi h).2 hc31
        refine zf_aload_n 0 (q := 38) (j := 0) rfl dX8_next_37 rfl rfl ?_
        refine zf_getR (q := 41) rfl dX8_next_38 lf_RX8_62 (sc0 hG) rfl ?_
        obtain ⟨r5, s6, es6, h⟩ := zc h
        refine zf_callV (q := 44) (As := []) (rest := []) (st1 := []) rfl dX8_next_41 lv_RX8_242 (sc38 hG) rfl rfl (Nat.le_of_ble_eq_true rfl) (ok_X0_seekTrial hG N (Nat.le_trans (by decide) hd) es6) rfl ?_
        refine zf_iload_n 1 (q := 45) (j := 1) rfl dX8_next_44 rfl rfl ?_
        refine zf_if_eq (q := 48) (tgt := 58) rfl (by decide) dX8_next_45 (fun hc45 => ?_) (fun hc45 => ?_)
        · replace h := (zi h).1 hc45
          refine zf_bipush (q := 60) rfl dX8_next_58 bp10 ?_
          refine zf_aload_n 0 (q := 61) (j := 0) rfl dX8_next_60 rfl rfl ?_
          refine zf_getR (q := 64) rfl dX8_next_61 lf_RX8_62 (sc0 hG) rfl ?_
          refine zf_getI (q := 67) rfl dX8_next_64 lf_RX8_248 (sc38 hG) rfl ?_
          refine zf_imul (q := 68) rfl dX8_next_67 ?_
          refine zf_aload_n 0 (q := 69) (j := 0) rfl dX8_next_68 rfl rfl ?_
          refine zf_getR (q := 72) rfl dX8_next_69 lf_RX8_62 (sc0 hG) rfl ?_
          refine zf_getI (q := 75) rfl dX8_next_72 lf_RX8_251 (sc38 hG) rfl ?_
          refine zf_iadd (q := 76) rfl dX8_next_75 ?_
          cases h
          exact zf_ireturn dX8_next_76 rfl
        · replace h := (zi h).2 hc45
          refine zf_aload_n 0 (q := 49) (j := 0) rfl dX8_next_48 rfl rfl ?_
          refine zf_getR (q := 52) rfl dX8_next_49 lf_RX8_62 (sc0 hG) rfl ?_
          refine zf_getI (q := 55) rfl dX8_next_52 lf_RX8_245 (sc38 hG) rfl ?_
          refine zf_goto (tgt := 76) (by decide) dX8_next_55 ?_
          cases h
          exact zf_ireturn dX8_next_76 rfl
      · replace h := (zi h).1 hc31
        refine zf_bipush (q := 36) rfl dX8_next_34 bpm9 ?_
        cases h
        exact zf_ireturn dX8_next_36 rfl
  · replace h := (zi h).1 hc7
    refine zf_bipush (q := 12) rfl dX8_next_10 bpm5 ?_
    cases h
    exact zf_ireturn dX8_next_12 rfl
-- ===== X8_best: NearCopies.best(Z)I
def f_X8_best (N : Nat) (x1 : Int32) (σ : ZM) : Option (Int32 × ZM) :=
  zbd (f_X1_measureAll N σ) fun r1 s2 =>
  zbd (f_X1_seek N x1 s2) fun r3 s4 =>
  some ((s4.1 23 10), s4)
set_option maxRecDepth 100000 in
theorem ok_X8_best {G : ZG} (hG : zSH G = shC) (N : Nat) {d : Nat} (hd : 6 ≤ d) {x1 : Int32} {σ : ZM} {res : Int32 × ZM} (h : f_X8_best N x1 σ = some res) : zCt G d MX8_best [.ref (zad G 0), .int x1] σ (some (.int res.1)) res.2 := by
  obtain ⟨d, rfl⟩ : ∃ k, d = k + 1 := ⟨d - 1, by omega⟩
  have hd : 5 ≤ d := by omega
  refine zct_of (by decide) (Nat.le_of_ble_eq_true rfl) (lv := [(0, .ref (zad G 0)), (1, .int x1)]) rfl ?_
  unfold f_X8_best at h
  refine zf_aload_n 0 (q := 1) (j := 0) rfl dX8_best_0 rfl rfl ?_
  refine zf_getR (q := 4) rfl dX8_best_1 lf_RX8_44 (sc0 hG) rfl ?_
  obtain ⟨r1, s2, es2, h⟩ := zc h
  refine zf_callV (q := 7) (As := []) (rest := []) (st1 := []) rfl dX8_best_4 lv_RX8_254 (sc23 hG) rfl rfl (Nat.le_of_ble_eq_true rfl) (ok_X1_measureAll hG N (Nat.le_trans (by decide) hd) es2) rfl ?_
  refine zf_aload_n 0 (q := 8) (j := 0) rfl dX8_best_7 rfl rfl ?_
  refine zf_getR (q := 11) rfl dX8_best_8 lf_RX8_44 (sc0 hG) rfl ?_
  refine zf_iload_n 1 (q := 12) (j := 1) rfl dX8_best_11 rfl rfl ?_
  obtain ⟨r3, s4, es4, h⟩ := zc h
  refine zf_callV (q := 15) (As := [.int x1]) (rest := []) (st1 := []) rfl dX8_best_12 lv_RX8_257 (sc23 hG) rfl rfl (Nat.le_of_ble_eq_true rfl) (ok_X1_seek hG N (Nat.le_trans (by decide) hd) es4) rfl ?_
  refine zf_aload_n 0 (q := 16) (j := 0) rfl dX8_best_15 rfl rfl ?_
  refine zf_getR (q := 19) rfl dX8_best_16 lf_RX8_44 (sc0 hG) rfl ?_
  refine zf_getI (q := 22) rfl dX8_best_19 lf_RX8_261 (sc23 hG) rfl ?_
  cases h
  exact zf_ireturn dX8_best_22 rfl
-- ===== X8_bestSum: NearCopies.bestSum(Z)J
def f_X8_bestSum (N : Nat) (x1 : Int32) (σ : ZM) : Option (Int64 × ZM) :=
  zbd (f_X1_measureAll N σ) fun r1 s2 =>
  zbd (f_X1_seek N x1 s2) fun r3 s4 =>
  if (s4.1 23 10) = (-9 : Int32) then
  (some ((-9 : Int64), s4))
  else
  (some ((Int32.toInt64 (s4.1 23 11)), s4))
set_option maxRecDepth 100000 in
theorem ok_X8_bestSum {G : ZG} (hG : zSH G = shC) (N : Nat) {d : Nat} (hd : 6 ≤ d) {x1 : Int32} {σ : ZM} {res : Int64 × ZM} (h : f_X8_bestSum N x1 σ = some res) : zCt G d MX8_bestSum [.ref (zad G 0), .int x1] σ (some (.long res.1)) res.2 := by
  obtain ⟨d, rfl⟩ : ∃ k, d = k + 1 := ⟨d - 1, by omega⟩
  have hd : 5 ≤ d := by omega
  refine zct_of (by decide) (Nat.le_of_ble_eq_true rfl) (lv := [(0, .ref (zad G 0)), (1, .int x1)]) rfl ?_
  unfold f_X8_bestSum at h
  refine zf_aload_n 0 (q := 1) (j := 0) rfl dX8_bestSum_0 rfl rfl ?_
  refine zf_getR (q := 4) rfl dX8_bestSum_1 lf_RX8_44 (sc0 hG) rfl ?_
  obtain ⟨r1, s2, es2, h⟩ := zc h
  refine zf_callV (q := 7) (As := []) (rest := []) (st1 := []) rfl dX8_bestSum_4 lv_RX8_254 (sc23 hG) rfl rfl (Nat.le_of_ble_eq_true rfl) (ok_X1_measureAll hG N (Nat.le_trans (by decide) hd) es2) rfl ?_
  refine zf_aload_n 0 (q := 8) (j := 0) rfl dX8_bestSum_7 rfl rfl ?_
  refine zf_getR (q := 11) rfl dX8_bestSum_8 lf_RX8_44 (sc0 hG) rfl ?_
  refine zf_iload_n 1 (q := 12) (j := 1) rfl dX8_bestSum_11 rfl rfl ?_
  obtain ⟨r3, s4, es4, h⟩ := zc h
  refine zf_callV (q := 15) (As := [.int x1]) (rest := []) (st1 := []) rfl dX8_bestSum_12 lv_RX8_257 (sc23 hG) rfl rfl (Nat.le_of_ble_eq_true rfl) (ok_X1_seek hG N (Nat.le_trans (by decide) hd) es4) rfl ?_
  refine zf_aload_n 0 (q := 16) (j := 0) rfl dX8_bestSum_15 rfl rfl ?_
  refine zf_getR (q := 19) rfl dX8_bestSum_16 lf_RX8_44 (sc0 hG) rfl ?_
  refine zf_getI (q := 22) rfl dX8_bestSum_19 lf_RX8_261 (sc23 hG) rfl ?_
  refine zf_bipush (q := 24) rfl dX8_bestSum_22 bpm9 ?_
  refine zf_icmp_ne (q := 27) (tgt := 33) rfl (by decide) dX8_bestSum_24 (fun hc24 => ?_) (fun hc24 => ?_)
  · replace h := (zi h).2 hc24
    refine zf_aload_n 0 (q := 34) (j := 0) rfl dX8_bestSum_33 rfl rfl ?_
    refine zf_getR (q := 37) rfl dX8_bestSum_34 lf_RX8_44 (sc0 hG) rfl ?_
    refine zf_getI (q := 40) rfl dX8_bestSum_37 lf_RX8_266 (sc23 hG) rfl ?_
    refine zf_i2l (q := 41) rfl dX8_bestSum_40 ?_
    cases h
    exact zf_lreturn dX8_bestSum_41 rfl
  · replace h := (zi h).1 hc24
    refine zf_ldc2 (q := 30) rfl dX8_bestSum_27 cl_RX8_264 ?_
    refine zf_goto (tgt := 41) (by decide) dX8_bestSum_30 ?_
    cases h
    exact zf_lreturn dX8_bestSum_41 rfl
-- ===== X8_bestKind: NearCopies.bestKind(ZI)I
def f_X8_bestKind (N : Nat) (x1 : Int32) (x2 : Int32) (σ : ZM) : Option (Int32 × ZM) :=
  zbd (f_X7_has N 12 x2 σ) fun r1 s2 =>
  if r1 = 0 then
  (some ((-1 : Int32), s2))
  else
  (zbd (f_X1_measureAll N s2) fun r3 s4 =>
  zbd (f_X1_seek N x1 s4) fun r5 s6 =>
  if (s6.1 23 10) = (-9 : Int32) then
  (some ((-9 : Int32), s6))
  else
  ((zald s6 16 4 x2).bind fun v7 =>
  if v7 = 0 then
  ((zald s6 13 4 x2).bind fun v8 =>
  some (v8, s6))
  else
  ((zald s6 33 4 x2).bind fun v9 =>
  some (v9, s6))))
set_option maxRecDepth 100000 in
theorem ok_X8_bestKind {G : ZG} (hG : zSH G = shC) (N : Nat) {d : Nat} (hd : 6 ≤ d) {x1 : Int32} {x2 : Int32} {σ : ZM} {res : Int32 × ZM} (h : f_X8_bestKind N x1 x2 σ = some res) : zCt G d MX8_bestKind [.ref (zad G 0), .int x1, .int x2] σ (some (.int res.1)) res.2 := by
  obtain ⟨d, rfl⟩ : ∃ k, d = k + 1 := ⟨d - 1, by omega⟩
  have hd : 5 ≤ d := by omega
  refine zct_of (by decide) (Nat.le_of_ble_eq_true rfl) (lv := [(0, .ref (zad G 0)), (1, .int x1), (2, .int x2)]) rfl ?_
  unfold f_X8_bestKind at h
  refine zf_aload_n 0 (q := 1) (j := 0) rfl dX8_bestKind_0 rfl rfl ?_
  refine zf_getR (q := 4) rfl dX8_bestKind_1 lf_RX8_36 (sc0 hG) rfl ?_
  refine zf_iload_n 2 (q := 5) (j := 2) rfl dX8_bestKind_4 rfl rfl ?_
  obtain ⟨r1, s2, es2, h⟩ := zc h
  refine zf_callV (q := 8) (As := [.int x2]) (rest := []) (st1 := [.int r1]) rfl dX8_bestKind_5 lv_RX8_121 (sc12 hG) rfl rfl (Nat.le_of_ble_eq_true rfl) (ok_X7_has hG N (Nat.le_trans (by decide) hd) (wd12 hG) es2) rfl ?_
  refine zf_if_ne (q := 11) (tgt := 13) rfl (by decide) dX8_bestKind_8 (fun hc8 => ?_) (fun hc8 => ?_)
  · replace h := (zi h).2 hc8
    refine zf_aload_n 0 (q := 14) (j := 0) rfl dX8_bestKind_13 rfl rfl ?_
    refine zf_getR (q := 17) rfl dX8_bestKind_14 lf_RX8_44 (sc0 hG) rfl ?_
    obtain ⟨r3, s4, es4, h⟩ := zc h
    refine zf_callV (q := 20) (As := []) (rest := []) (st1 := []) rfl dX8_bestKind_17 lv_RX8_254 (sc23 hG) rfl rfl (Nat.le_of_ble_eq_true rfl) (ok_X1_measureAll hG N (Nat.le_trans (by decide) hd) es4) rfl ?_
    refine zf_aload_n 0 (q := 21) (j := 0) rfl dX8_bestKind_20 rfl rfl ?_
    refine zf_getR (q := 24) rfl dX8_bestKind_21 lf_RX8_44 (sc0 hG) rfl ?_
    refine zf_iload_n 1 (q := 25) (j := 1) rfl dX8_bestKind_24 rfl rfl ?_
    obtain ⟨r5, s6, es6, h⟩ := zc h
    refine zf_callV (q := 28) (As := [.int x1]) (rest := []) (st1 := []) rfl dX8_bestKind_25 lv_RX8_257 (sc23 hG) rfl rfl (Nat.le_of_ble_eq_true rfl) (ok_X1_seek hG N (Nat.le_trans (by decide) hd) es6) rfl ?_
    refine zf_aload_n 0 (q := 29) (j := 0) rfl dX8_bestKind_28 rfl rfl ?_
    refine zf_getR (q := 32) rfl dX8_bestKind_29 lf_RX8_44 (sc0 hG) rfl ?_
    refine zf_getI (q := 35) rfl dX8_bestKind_32 lf_RX8_261 (sc23 hG) rfl ?_
    refine zf_bipush (q := 37) rfl dX8_bestKind_35 bpm9 ?_
    refine zf_icmp_ne (q := 40) (tgt := 43) rfl (by decide) dX8_bestKind_37 (fun hc37 => ?_) (fun hc37 => ?_)
    · replace h := (zi h).2 hc37
      refine zf_aload_n 0 (q := 44) (j := 0) rfl dX8_bestKind_43 rfl rfl ?_
      refine zf_getR (q := 47) rfl dX8_bestKind_44 lf_RX8_36 (sc0 hG) rfl ?_
      refine zf_getR (q := 50) rfl dX8_bestKind_47 lf_RX8_122 (sc12 hG) rfl ?_
      refine zf_iload_n 2 (q := 51) (j := 2) rfl dX8_bestKind_50 rfl rfl ?_
      obtain ⟨v7, ev7, h⟩ := zb h
      refine zf_zald (q := 52) rfl dX8_bestKind_51 (sc16 hG) ev7 ?_
      refine zf_if_eq (q := 55) (tgt := 67) rfl (by decide) dX8_bestKind_52 (fun hc52 => ?_) (fun hc52 => ?_)
      · replace h := (zi h).1 hc52
        refine zf_aload_n 0 (q := 68) (j := 0) rfl dX8_bestKind_67 rfl rfl ?_
        refine zf_getR (q := 71) rfl dX8_bestKind_68 lf_RX8_36 (sc0 hG) rfl ?_
        refine zf_getR (q := 74) rfl dX8_bestKind_71 lf_RX8_129 (sc12 hG) rfl ?_
        refine zf_iload_n 2 (q := 75) (j := 2) rfl dX8_bestKind_74 rfl rfl ?_
        obtain ⟨v8, ev8, h⟩ := zb h
        refine zf_iald (q := 76) rfl dX8_bestKind_75 (sc13 hG) ev8 ?_
        cases h
        exact zf_ireturn dX8_bestKind_76 rfl
      · replace h := (zi h).2 hc52
        refine zf_aload_n 0 (q := 56) (j := 0) rfl dX8_bestKind_55 rfl rfl ?_
        refine zf_getR (q := 59) rfl dX8_bestKind_56 lf_RX8_44 (sc0 hG) rfl ?_
        refine zf_getR (q := 62) rfl dX8_bestKind_59 lf_RX8_269 (sc23 hG) rfl ?_
        refine zf_iload_n 2 (q := 63) (j := 2) rfl dX8_bestKind_62 rfl rfl ?_
        obtain ⟨v9, ev9, h⟩ := zb h
        refine zf_iald (q := 64) rfl dX8_bestKind_63 (sc33 hG) ev9 ?_
        refine zf_goto (tgt := 76) (by decide) dX8_bestKind_64 ?_
        cases h
        exact zf_ireturn dX8_bestKind_76 rfl
    · replace h := (zi h).1 hc37
      refine zf_bipush (q := 42) rfl dX8_bestKind_40 bpm9 ?_
      cases h
      exact zf_ireturn dX8_bestKind_42 rfl
  · replace h := (zi h).1 hc8
    refine zf_iconst (q := 12) rfl dX8_bestKind_11 icm1 ?_
    cases h
    exact zf_ireturn dX8_bestKind_12 rfl
-- ===== X8_aim: NearCopies.aim(II)I
def f_X8_aim (N : Nat) (x1 : Int32) (x2 : Int32) (σ : ZM) : Option (Int32 × ZM) :=
  zbd (f_X7_has N 12 x1 σ) fun r1 s2 =>
  if r1 = 0 then
  (some ((-1 : Int32), s2))
  else
  (zbd (f_X8_within N x2 (4 : Int32) s2) fun r3 s4 =>
  if r3 = 0 then
  (some ((-2 : Int32), s4))
  else
  (zbd (f_X4_aimOf N x1 s4) fun r5 s6 =>
  (zast s6 10 4 x1 x2).bind fun s7 =>
  some (r5, s7)))
set_option maxRecDepth 100000 in
theorem ok_X8_aim {G : ZG} (hG : zSH G = shC) (N : Nat) {d : Nat} (hd : 1 ≤ d) {x1 : Int32} {x2 : Int32} {σ : ZM} {res : Int32 × ZM} (h : f_X8_aim N x1 x2 σ = some res) : zCt G d MX8_aim [.ref (zad G 0), .int x1, .int x2] σ (some (.int res.1)) res.2 := by
  obtain ⟨d, rfl⟩ : ∃ k, d = k + 1 := ⟨d - 1, by omega⟩
  have hd : 0 ≤ d := by omega
  refine zct_of (by decide) (Nat.le_of_ble_eq_true rfl) (lv := [(0, .ref (zad G 0)), (1, .int x1), (2, .int x2)]) rfl ?_
  unfold f_X8_aim at h
  refine zf_aload_n 0 (q := 1) (j := 0) rfl dX8_aim_0 rfl rfl ?_
  refine zf_getR (q := 4) rfl dX8_aim_1 lf_RX8_36 (sc0 hG) rfl ?_
  refine zf_iload_n 1 (q := 5) (j := 1) rfl dX8_aim_4 rfl rfl ?_
  obtain ⟨r1, s2, es2, h⟩ := zc h
  refine zf_callV (q := 8) (As := [.int x1]) (rest := []) (st1 := [.int r1]) rfl dX8_aim_5 lv_RX8_121 (sc12 hG) rfl rfl (Nat.le_of_ble_eq_true rfl) (ok_X7_has hG N (Nat.le_trans (by decide) hd) (wd12 hG) es2) rfl ?_
  refine zf_if_ne (q := 11) (tgt := 13) rfl (by decide) dX8_aim_8 (fun hc8 => ?_) (fun hc8 => ?_)
  · replace h := (zi h).2 hc8
    refine zf_iload_n 2 (q := 14) (j := 2) rfl dX8_aim_13 rfl rfl ?_
    refine zf_iconst (q := 15) rfl dX8_aim_14 ic4 ?_
    obtain ⟨r3, s4, es4, h⟩ := zc h
    refine zf_callS (q := 18) (As := [.int x2, .int (4 : Int32)]) (rest := []) (st1 := [.int r3]) rfl dX8_aim_15 ls_RX8_66 rfl rfl (Nat.le_of_ble_eq_true rfl) (ok_X8_within hG N (Nat.le_trans (by decide) hd) es4) rfl ?_
    refine zf_if_ne (q := 21) (tgt := 24) rfl (by decide) dX8_aim_18 (fun hc18 => ?_) (fun hc18 => ?_)
    · replace h := (zi h).2 hc18
      refine zf_aload_n 0 (q := 25) (j := 0) rfl dX8_aim_24 rfl rfl ?_
      refine zf_getR (q := 28) rfl dX8_aim_25 lf_RX8_53 (sc0 hG) rfl ?_
      refine zf_iload_n 1 (q := 29) (j := 1) rfl dX8_aim_28 rfl rfl ?_
      obtain ⟨r5, s6, es6, h⟩ := zc h
      refine zf_callV (q := 32) (As := [.int x1]) (rest := []) (st1 := [.int r5]) rfl dX8_aim_29 lv_RX8_272 (sc34 hG) rfl rfl (Nat.le_of_ble_eq_true rfl) (ok_X4_aimOf hG N (Nat.le_trans (by decide) hd) es6) rfl ?_
      refine zf_istore_n (q := 33) (y := r5) (i := 3) (lv1 := [(3, .int r5), (0, .ref (zad G 0)), (1, .int x1), (2, .int x2)]) rfl dX8_aim_32 rfl (by decide) rfl rfl ?_
      refine zf_aload_n 1 (q := 34) (j := 0) rfl dX8_aim_33 rfl rfl ?_
      refine zf_getR (q := 37) rfl dX8_aim_34 lf_RX8_32 (sc0 hG) rfl ?_
      refine zf_getR (q := 40) rfl dX8_aim_37 lf_RX8_275 (sc7 hG) rfl ?_
      refine zf_iload_n 2 (q := 41) (j := 1) rfl dX8_aim_40 rfl rfl ?_
      refine zf_iload_n 3 (q := 42) (j := 2) rfl dX8_aim_41 rfl rfl ?_
      obtain ⟨s7, es7, h⟩ := zb h
      refine zf_iast (q := 43) rfl dX8_aim_42 (sc10 hG) es7 ?_
      refine zf_iload_n 0 (q := 44) (j := 3) rfl dX8_aim_43 rfl rfl ?_
      cases h
      exact zf_ireturn dX8_aim_44 rfl
    · replace h := (zi h).1 hc18
      refine zf_bipush (q := 23) rfl dX8_aim_21 bpm2 ?_
      cases h
      exact zf_ireturn dX8_aim_23 rfl
  · replace h := (zi h).1 hc8
    refine zf_iconst (q := 12) rfl dX8_aim_11 icm1 ?_
    cases h
    exact zf_ireturn dX8_aim_12 rfl
-- ===== X8_steps: NearCopies.steps()I
def f_X8_steps (N : Nat) (σ : ZM) : Option (Int32 × ZM) :=
  zbd (f_X4_toChange N σ) fun r1 s2 =>
  zbd (f_J6_bitCount_0f7a4 N r1 s2) fun r3 s4 =>
  some (r3, s4)
set_option maxRecDepth 100000 in
theorem ok_X8_steps {G : ZG} (hG : zSH G = shC) (N : Nat) {d : Nat} (hd : 2 ≤ d) {σ : ZM} {res : Int32 × ZM} (h : f_X8_steps N σ = some res) : zCt G d MX8_steps [.ref (zad G 0)] σ (some (.int res.1)) res.2 := by
  obtain ⟨d, rfl⟩ : ∃ k, d = k + 1 := ⟨d - 1, by omega⟩
  have hd : 1 ≤ d := by omega
  refine zct_of (by decide) (Nat.le_of_ble_eq_true rfl) (lv := [(0, .ref (zad G 0))]) rfl ?_
  unfold f_X8_steps at h
  refine zf_aload_n 0 (q := 1) (j := 0) rfl dX8_steps_0 rfl rfl ?_
  refine zf_getR (q := 4) rfl dX8_steps_1 lf_RX8_53 (sc0 hG) rfl ?_
  obtain ⟨r1, s2, es2, h⟩ := zc h
  refine zf_callV (q := 7) (As := []) (rest := []) (st1 := [.int r1]) rfl dX8_steps_4 lv_RX8_278 (sc34 hG) rfl rfl (Nat.le_of_ble_eq_true rfl) (ok_X4_toChange hG N (Nat.le_trans (by decide) hd) es2) rfl ?_
  obtain ⟨r3, s4, es4, h⟩ := zc h
  refine zf_callS (q := 10) (As := [.int r1]) (rest := []) (st1 := [.int r3]) rfl dX8_steps_7 ls_RX8_281 rfl rfl (Nat.le_of_ble_eq_true rfl) (ok_J6_bitCount_0f7a4 N (Nat.le_trans (by decide) hd) es4) rfl ?_
  cases h
  exact zf_ireturn dX8_steps_10 rfl
-- ===== X8_step: NearCopies.step(I)I
def f_X8_step (N : Nat) (x1 : Int32) (σ : ZM) : Option (Int32 × ZM) :=
  zbd (f_X4_plan N σ) fun r1 s2 =>
  if x1 < 0 then
  (some ((-9 : Int32), s2))
  else
  (if (s2.1 34 6) ≤ x1 then
  (some ((-9 : Int32), s2))
  else
  ((zald s2 37 4 x1).bind fun v3 =>
  some (v3, s2)))
set_option maxRecDepth 100000 in
theorem ok_X8_step {G : ZG} (hG : zSH G = shC) (N : Nat) {d : Nat} (hd : 6 ≤ d) {x1 : Int32} {σ : ZM} {res : Int32 × ZM} (h : f_X8_step N x1 σ = some res) : zCt G d MX8_step [.ref (zad G 0), .int x1] σ (some (.int res.1)) res.2 := by
  obtain ⟨d, rfl⟩ : ∃ k, d = k + 1 := ⟨d - 1, by omega⟩
  have hd : 5 ≤ d := by omega
  refine zct_of (by decide) (Nat.le_of_ble_eq_true rfl) (lv := [(0, .ref (zad G 0)), (1, .int x1)]) rfl ?_
  unfold f_X8_step at h
  refine zf_aload_n 0 (q := 1) (j := 0) rfl dX8_step_0 rfl rfl ?_
  refine zf_getR (q := 4) rfl dX8_step_1 lf_RX8_53 (sc0 hG) rfl ?_
  obtain ⟨r1, s2, es2, h⟩ := zc h
  refine zf_callV (q := 7) (As := []) (rest := []) (st1 := []) rfl dX8_step_4 lv_RX8_286 (sc34 hG) rfl rfl (Nat.le_of_ble_eq_true rfl) (ok_X4_plan hG N (Nat.le_trans (by decide) hd) es2) rfl ?_
  refine zf_iload_n 1 (q := 8) (j := 1) rfl dX8_step_7 rfl rfl ?_
  refine zf_if_lt (q := 11) (tgt := 34) rfl (by decide) dX8_step_8 (fun hc8 => ?_) (fun hc8 => ?_)
  · replace h := (zi h).1 hc8
    refine zf_bipush (q := 36) rfl dX8_step_34 bpm9 ?_
    cases h
    exact zf_ireturn dX8_step_36 rfl
  · replace h := (zi h).2 hc8
    refine zf_iload_n 1 (q := 12) (j := 1) rfl dX8_step_11 rfl rfl ?_
    refine zf_aload_n 0 (q := 13) (j := 0) rfl dX8_step_12 rfl rfl ?_
    refine zf_getR (q := 16) rfl dX8_step_13 lf_RX8_53 (sc0 hG) rfl ?_
    refine zf_getI (q := 19) rfl dX8_step_16 lf_RX8_289 (sc34 hG) rfl ?_
    refine zf_icmp_ge (q := 22) (tgt := 34) rfl (by decide) dX8_step_19 (fun hc19 => ?_) (fun hc19 => ?_)
    · replace h := (zi h).1 hc19
      refine zf_bipush (q := 36) rfl dX8_step_34 bpm9 ?_
      cases h
      exact zf_ireturn dX8_step_36 rfl
    · replace h := (zi h).2 hc19
      refine zf_aload_n 0 (q := 23) (j := 0) rfl dX8_step_22 rfl rfl ?_
      refine zf_getR (q := 26) rfl dX8_step_23 lf_RX8_53 (sc0 hG) rfl ?_
      refine zf_getR (q := 29) rfl dX8_step_26 lf_RX8_292 (sc34 hG) rfl ?_
      refine zf_iload_n 1 (q := 30) (j := 1) rfl dX8_step_29 rfl rfl ?_
      obtain ⟨v3, ev3, h⟩ := zb h
      refine zf_iald (q := 31) rfl dX8_step_30 (sc37 hG) ev3 ?_
      refine zf_goto (tgt := 36) (by decide) dX8_step_31 ?_
      cases h
      exact zf_ireturn dX8_step_36 rfl
-- ===== X8_stepWorst: NearCopies.stepWorst()I
def f_X8_stepWorst (N : Nat) (σ : ZM) : Option (Int32 × ZM) :=
  zbd (f_X4_plan N σ) fun r1 s2 =>
  some ((s2.1 34 7), s2)
set_option maxRecDepth 100000 in
theorem ok_X8_stepWorst {G : ZG} (hG : zSH G = shC) (N : Nat) {d : Nat} (hd : 6 ≤ d) {σ : ZM} {res : Int32 × ZM} (h : f_X8_stepWorst N σ = some res) : zCt G d MX8_stepWorst [.ref (zad G 0)] σ (some (.int res.1)) res.2 := by
  obtain ⟨d, rfl⟩ : ∃ k, d = k + 1 := ⟨d - 1, by omega⟩
  have hd : 5 ≤ d := by omega
  refine zct_of (by decide) (Nat.le_of_ble_eq_true rfl) (lv := [(0, .ref (zad G 0))]) rfl ?_
  unfold f_X8_stepWorst at h
  refine zf_aload_n 0 (q := 1) (j := 0) rfl dX8_stepWorst_0 rfl rfl ?_
  refine zf_getR (q := 4) rfl dX8_stepWorst_1 lf_RX8_53 (sc0 hG) rfl ?_
  obtain ⟨r1, s2, es2, h⟩ := zc h
  refine zf_callV (q := 7) (As := []) (rest := []) (st1 := []) rfl dX8_stepWorst_4 lv_RX8_286 (sc34 hG) rfl rfl (Nat.le_of_ble_eq_true rfl) (ok_X4_plan hG N (Nat.le_trans (by decide) hd) es2) rfl ?_
  refine zf_aload_n 0 (q := 8) (j := 0) rfl dX8_stepWorst_7 rfl rfl ?_
  refine zf_getR (q := 11) rfl dX8_stepWorst_8 lf_RX8_53 (sc0 hG) rfl ?_
  refine zf_getI (q := 14) rfl dX8_stepWorst_11 lf_RX8_295 (sc34 hG) rfl ?_
  cases h
  exact zf_ireturn dX8_stepWorst_14 rfl
-- ===== X8_go: NearCopies.go()I
def f_X8_go (N : Nat) (σ : ZM) : Option (Int32 × ZM) :=
  zbd (f_X4_plan N σ) fun r1 s2 =>
  if (s2.1 34 6) = 0 then
  (some ((-9 : Int32), s2))
  else
  ((zald s2 37 4 (0 : Int32)).bind fun v3 =>
  zbd (f_X4_aimOf N v3 s2) fun r4 s5 =>
  (zast s5 13 4 v3 r4).bind fun s6 =>
  zbd (f_X8_forgetAll N s6) fun r7 s8 =>
  some (v3, s8))
set_option maxRecDepth 100000 in
theorem ok_X8_go {G : ZG} (hG : zSH G = shC) (N : Nat) {d : Nat} (hd : 6 ≤ d) {σ : ZM} {res : Int32 × ZM} (h : f_X8_go N σ = some res) : zCt G d MX8_go [.ref (zad G 0)] σ (some (.int res.1)) res.2 := by
  obtain ⟨d, rfl⟩ : ∃ k, d = k + 1 := ⟨d - 1, by omega⟩
  have hd : 5 ≤ d := by omega
  refine zct_of (by decide) (Nat.le_of_ble_eq_true rfl) (lv := [(0, .ref (zad G 0))]) rfl ?_
  unfold f_X8_go at h
  refine zf_aload_n 0 (q := 1) (j := 0) rfl dX8_go_0 rfl rfl ?_
  refine zf_getR (q := 4) rfl dX8_go_1 lf_RX8_53 (sc0 hG) rfl ?_
  obtain ⟨r1, s2, es2, h⟩ := zc h
  refine zf_callV (q := 7) (As := []) (rest := []) (st1 := []) rfl dX8_go_4 lv_RX8_286 (sc34 hG) rfl rfl (Nat.le_of_ble_eq_true rfl) (ok_X4_plan hG N (Nat.le_trans (by decide) hd) es2) rfl ?_
  refine zf_aload_n 0 (q := 8) (j := 0) rfl dX8_go_7 rfl rfl ?_
  refine zf_getR (q := 11) rfl dX8_go_8 lf_RX8_53 (sc0 hG) rfl ?_
  refine zf_getI (q := 14) rfl dX8_go_11 lf_RX8_289 (sc34 hG) rfl ?_
  refine zf_if_ne (q := 17) (tgt := 20) rfl (by decide) dX8_go_14 (fun hc14 => ?_) (fun hc14 => ?_)
  · replace h := (zi h).2 hc14
    refine zf_aload_n 0 (q := 21) (j := 0) rfl dX8_go_20 rfl rfl ?_
    refine zf_getR (q := 24) rfl dX8_go_21 lf_RX8_53 (sc0 hG) rfl ?_
    refine zf_getR (q := 27) rfl dX8_go_24 lf_RX8_292 (sc34 hG) rfl ?_
    refine zf_iconst (q := 28) rfl dX8_go_27 ic0 ?_
    obtain ⟨v3, ev3, h⟩ := zb h
    refine zf_iald (q := 29) rfl dX8_go_28 (sc37 hG) ev3 ?_
    refine zf_istore_n (q := 30) (y := v3) (i := 1) (lv1 := [(1, .int v3), (0, .ref (zad G 0))]) rfl dX8_go_29 rfl (by decide) rfl rfl ?_
    refine zf_aload_n 1 (q := 31) (j := 0) rfl dX8_go_30 rfl rfl ?_
    refine zf_getR (q := 34) rfl dX8_go_31 lf_RX8_36 (sc0 hG) rfl ?_
    refine zf_getR (q := 37) rfl dX8_go_34 lf_RX8_129 (sc12 hG) rfl ?_
    refine zf_iload_n 0 (q := 38) (j := 1) rfl dX8_go_37 rfl rfl ?_
    refine zf_aload_n 1 (q := 39) (j := 0) rfl dX8_go_38 rfl rfl ?_
    refine zf_getR (q := 42) rfl dX8_go_39 lf_RX8_53 (sc0 hG) rfl ?_
    refine zf_iload_n 0 (q := 43) (j := 1) rfl dX8_go_42 rfl rfl ?_
    obtain ⟨r4, s5, es5, h⟩ := zc h
    refine zf_callV (q := 46) (As := [.int v3]) (rest := [.int v3, .ref (zad G 13)]) (st1 := [.int r4, .int v3, .ref (zad G 13)]) rfl dX8_go_43 lv_RX8_272 (sc34 hG) rfl rfl (Nat.le_of_ble_eq_true rfl) (ok_X4_aimOf hG N (Nat.le_trans (by decide) hd) es5) rfl ?_
    obtain ⟨s6, es6, h⟩ := zb h
    refine zf_iast (q := 47) rfl dX8_go_46 (sc13 hG) es6 ?_
    refine zf_aload_n 1 (q := 48) (j := 0) rfl dX8_go_47 rfl rfl ?_
    obtain ⟨r7, s8, es8, h⟩ := zc h
    refine zf_callV (q := 51) (As := []) (rest := []) (st1 := []) rfl dX8_go_48 lv_RX8_74 (sc0 hG) rfl rfl (Nat.le_of_ble_eq_true rfl) (ok_X8_forgetAll hG N (Nat.le_trans (by decide) hd) es8) rfl ?_
    refine zf_iload_n 0 (q := 52) (j := 1) rfl dX8_go_51 rfl rfl ?_
    cases h
    exact zf_ireturn dX8_go_52 rfl
  · replace h := (zi h).1 hc14
    refine zf_bipush (q := 19) rfl dX8_go_17 bpm9 ?_
    cases h
    exact zf_ireturn dX8_go_19 rfl
-- ===== X8_count: NearCopies.count(I)I
def f_X8_count (N : Nat) (x1 : Int32) (σ : ZM) : Option (Int32 × ZM) :=
  if x1 = (0 : Int32) then
  (some ((σ.1 1 0), σ))
  else if x1 = (1 : Int32) then
  (some ((σ.1 1 1), σ))
  else if x1 = (2 : Int32) then
  (some ((σ.1 12 0), σ))
  else if x1 = (3 : Int32) then
  (zbd (f_X7_upCount N 12 σ) fun r1 s2 =>
  some (r1, s2))
  else if x1 = (4 : Int32) then
  (some ((σ.1 38 5), σ))
  else if x1 = (5 : Int32) then
  (zbd (f_X3_allAskers N σ) fun r3 s4 =>
  some (r3, s4))
  else if x1 = (6 : Int32) then
  (zbd (f_X3_surelyGuessed N σ) fun r5 s6 =>
  some (r5, s6))
  else 
  (some ((-2 : Int32), σ))
set_option maxRecDepth 100000 in
theorem ok_X8_count {G : ZG} (hG : zSH G = shC) (N : Nat) {d : Nat} (hd : 2 ≤ d) {x1 : Int32} {σ : ZM} {res : Int32 × ZM} (h : f_X8_count N x1 σ = some res) : zCt G d MX8_count [.ref (zad G 0), .int x1] σ (some (.int res.1)) res.2 := by
  obtain ⟨d, rfl⟩ : ∃ k, d = k + 1 := ⟨d - 1, by omega⟩
  have hd : 1 ≤ d := by omega
  refine zct_of (by decide) (Nat.le_of_ble_eq_true rfl) (lv := [(0, .ref (zad G 0)), (1, .int x1)]) rfl ?_
  unfold f_X8_count at h
  refine zf_iload_n 1 (q := 1) (j := 1) rfl dX8_count_0 rfl rfl ?_
  by_cases hc1_0 : x1 = (0 : Int32)
  · replace h := (zi h).1 hc1_0
    refine zf_tableIn (off := 43) (tgt := 44) dX8_count_1 (by rw [hc1_0]; decide) (by rw [hc1_0]; decide) (by rw [hc1_0]; rfl) (by decide) ?_
    refine zf_aload_n 0 (q := 45) (j := 0) rfl dX8_count_44 rfl rfl ?_
    refine zf_getR (q := 48) rfl dX8_count_45 lf_RX8_26 (sc0 hG) rfl ?_
    refine zf_getI (q := 51) rfl dX8_count_48 lf_RX8_70 (sc1 hG) rfl ?_
    cases h
    exact zf_ireturn dX8_count_51 rfl
  replace h := (zi h).2 hc1_0
  by_cases hc1_1 : x1 = (1 : Int32)
  · replace h := (zi h).1 hc1_1
    refine zf_tableIn (off := 51) (tgt := 52) dX8_count_1 (by rw [hc1_1]; decide) (by rw [hc1_1]; decide) (by rw [hc1_1]; rfl) (by decide) ?_
    refine zf_aload_n 0 (q := 53) (j := 0) rfl dX8_count_52 rfl rfl ?_
    refine zf_getR (q := 56) rfl dX8_count_53 lf_RX8_26 (sc0 hG) rfl ?_
    refine zf_getI (q := 59) rfl dX8_count_56 lf_RX8_92 (sc1 hG) rfl ?_
    cases h
    exact zf_ireturn dX8_count_59 rfl
  replace h := (zi h).2 hc1_1
  by_cases hc1_2 : x1 = (2 : Int32)
  · replace h := (zi h).1 hc1_2
    refine zf_tableIn (off := 59) (tgt := 60) dX8_count_1 (by rw [hc1_2]; decide) (by rw [hc1_2]; decide) (by rw [hc1_2]; rfl) (by decide) ?_
    refine zf_aload_n 0 (q := 61) (j := 0) rfl dX8_count_60 rfl rfl ?_
    refine zf_getR (q := 64) rfl dX8_count_61 lf_RX8_36 (sc0 hG) rfl ?_
    refine zf_getI (q := 67) rfl dX8_count_64 lf_RX8_111 (sc12 hG) rfl ?_
    cases h
    exact zf_ireturn dX8_count_67 rfl
  replace h := (zi h).2 hc1_2
  by_cases hc1_3 : x1 = (3 : Int32)
  · replace h := (zi h).1 hc1_3
    refine zf_tableIn (off := 67) (tgt := 68) dX8_count_1 (by rw [hc1_3]; decide) (by rw [hc1_3]; decide) (by rw [hc1_3]; rfl) (by decide) ?_
    refine zf_aload_n 0 (q := 69) (j := 0) rfl dX8_count_68 rfl rfl ?_
    refine zf_getR (q := 72) rfl dX8_count_69 lf_RX8_36 (sc0 hG) rfl ?_
    obtain ⟨r1, s2, es2, h⟩ := zc h
    refine zf_callV (q := 75) (As := []) (rest := []) (st1 := [.int r1]) rfl dX8_count_72 lv_RX8_239 (sc12 hG) rfl rfl (Nat.le_of_ble_eq_true rfl) (ok_X7_upCount hG N (Nat.le_trans (by decide) hd) (wd12 hG) es2) rfl ?_
    cases h
    exact zf_ireturn dX8_count_75 rfl
  replace h := (zi h).2 hc1_3
  by_cases hc1_4 : x1 = (4 : Int32)
  · replace h := (zi h).1 hc1_4
    refine zf_tableIn (off := 75) (tgt := 76) dX8_count_1 (by rw [hc1_4]; decide) (by rw [hc1_4]; decide) (by rw [hc1_4]; rfl) (by decide) ?_
    refine zf_aload_n 0 (q := 77) (j := 0) rfl dX8_count_76 rfl rfl ?_
    refine zf_getR (q := 80) rfl dX8_count_77 lf_RX8_62 (sc0 hG) rfl ?_
    refine zf_getI (q := 83) rfl dX8_count_80 lf_RX8_202 (sc38 hG) rfl ?_
    cases h
    exact zf_ireturn dX8_count_83 rfl
  replace h := (zi h).2 hc1_4
  by_cases hc1_5 : x1 = (5 : Int32)
  · replace h := (zi h).1 hc1_5
    refine zf_tableIn (off := 83) (tgt := 84) dX8_count_1 (by rw [hc1_5]; decide) (by rw [hc1_5]; decide) (by rw [hc1_5]; rfl) (by decide) ?_
    refine zf_aload_n 0 (q := 85) (j := 0) rfl dX8_count_84 rfl rfl ?_
    refine zf_getR (q := 88) rfl dX8_count_85 lf_RX8_26 (sc0 hG) rfl ?_
    obtain ⟨r3, s4, es4, h⟩ := zc h
    refine zf_callV (q := 91) (As := []) (rest := []) (st1 := [.int r3]) rfl dX8_count_88 lv_RX8_298 (sc1 hG) rfl rfl (Nat.le_of_ble_eq_true rfl) (ok_X3_allAskers hG N (Nat.le_trans (by decide) hd) es4) rfl ?_
    cases h
    exact zf_ireturn dX8_count_91 rfl
  replace h := (zi h).2 hc1_5
  by_cases hc1_6 : x1 = (6 : Int32)
  · replace h := (zi h).1 hc1_6
    refine zf_tableIn (off := 91) (tgt := 92) dX8_count_1 (by rw [hc1_6]; decide) (by rw [hc1_6]; decide) (by rw [hc1_6]; rfl) (by decide) ?_
    refine zf_aload_n 0 (q := 93) (j := 0) rfl dX8_count_92 rfl rfl ?_
    refine zf_getR (q := 96) rfl dX8_count_93 lf_RX8_26 (sc0 hG) rfl ?_
    obtain ⟨r5, s6, es6, h⟩ := zc h
    refine zf_callV (q := 99) (As := []) (rest := []) (st1 := [.int r5]) rfl dX8_count_96 lv_RX8_301 (sc1 hG) rfl rfl (Nat.le_of_ble_eq_true rfl) (ok_X3_surelyGuessed hG N (Nat.le_trans (by decide) hd) es6) rfl ?_
    cases h
    exact zf_ireturn dX8_count_99 rfl
  replace h := (zi h).2 hc1_6
  refine zf_tableOut (tgt := 100) dX8_count_1 (by have n0 := zne (by decide : ((0 : Int32)).toInt = 0) hc1_0; have n1 := zne (by decide : ((1 : Int32)).toInt = 1) hc1_1; have n2 := zne (by decide : ((2 : Int32)).toInt = 2) hc1_2; have n3 := zne (by decide : ((3 : Int32)).toInt = 3) hc1_3; have n4 := zne (by decide : ((4 : Int32)).toInt = 4) hc1_4; have n5 := zne (by decide : ((5 : Int32)).toInt = 5) hc1_5; have n6 := zne (by decide : ((6 : Int32)).toInt = 6) hc1_6; omega) (by decide) ?_
  refine zf_bipush (q := 102) rfl dX8_count_100 bpm2 ?_
  cases h
  exact zf_ireturn dX8_count_102 rfl
-- ===== X9_in: NearCopiesModel.in(JJJ)Z
def f_X9_in (N : Nat) (x0 : Int64) (x2 : Int64) (x4 : Int64) (σ : ZM) : Option (Int32 × ZM) :=
  if (lg_cmp x0 x2) < 0 then
  (some ((0 : Int32), σ))
  else
  (if 0 < (lg_cmp x0 x4) then
  (some ((0 : Int32), σ))
  else
  (some ((1 : Int32), σ)))
set_option maxRecDepth 100000 in
theorem ok_X9_in {G : ZG} (hG : zSH G = shM) (N : Nat) {d : Nat} (hd : 0 ≤ d) {x0 : Int64} {x2 : Int64} {x4 : Int64} {σ : ZM} {res : Int32 × ZM} (h : f_X9_in N x0 x2 x4 σ = some res) : zCt G d MX9_in [.long x0, .long x2, .long x4] σ (some (.int res.1)) res.2 := by
  refine zct_of (by decide) (Nat.le_of_ble_eq_true rfl) (lv := [(0, .long x0), (2, .long x2), (4, .long x4)]) rfl ?_
  unfold f_X9_in at h
  refine zf_lload_n 0 (q := 1) (j := 0) rfl dX9_in_0 rfl rfl ?_
  refine zf_lload_n 1 (q := 2) (j := 2) rfl dX9_in_1 rfl rfl ?_
  refine zf_lcmp (q := 3) rfl dX9_in_2 ?_
  refine zf_if_lt (q := 6) (tgt := 17) rfl (by decide) dX9_in_3 (fun hc3 => ?_) (fun hc3 => ?_)
  · replace h := (zi h).1 hc3
    refine zf_iconst (q := 18) rfl dX9_in_17 ic0 ?_
    cases h
    exact zf_zreturn dX9_in_18 rfl (Or.inl rfl)
  · replace h := (zi h).2 hc3
    refine zf_lload_n 0 (q := 7) (j := 0) rfl dX9_in_6 rfl rfl ?_
    refine zf_lload 2 (q := 9) rfl dX9_in_7 rfl ?_
    refine zf_lcmp (q := 10) rfl dX9_in_9 ?_
    refine zf_if_gt (q := 13) (tgt := 17) rfl (by decide) dX9_in_10 (fun hc10 => ?_) (fun hc10 => ?_)
    · replace h := (zi h).1 hc10
      refine zf_iconst (q := 18) rfl dX9_in_17 ic0 ?_
      cases h
      exact zf_zreturn dX9_in_18 rfl (Or.inl rfl)
    · replace h := (zi h).2 hc10
      refine zf_iconst (q := 14) rfl dX9_in_13 ic1 ?_
      refine zf_goto (tgt := 18) (by decide) dX9_in_14 ?_
      cases h
      exact zf_zreturn dX9_in_18 rfl (Or.inr rfl)
-- ===== X9_isNet: NearCopiesModel.isNet(I)Z
def f_X9_isNet (N : Nat) (x1 : Int32) (σ : ZM) : Option (Int32 × ZM) :=
  zbd (f_X9_in N (Int32.toInt64 x1) (0 : Int64) (Int32.toInt64 ((σ.1 0 0) - (1 : Int32))) σ) fun r1 s2 =>
  zrz r1 s2
set_option maxRecDepth 100000 in
theorem ok_X9_isNet {G : ZG} (hG : zSH G = shM) (N : Nat) {d : Nat} (hd : 1 ≤ d) {x1 : Int32} {σ : ZM} {res : Int32 × ZM} (h : f_X9_isNet N x1 σ = some res) : zCt G d MX9_isNet [.ref (zad G 0), .int x1] σ (some (.int res.1)) res.2 := by
  obtain ⟨d, rfl⟩ : ∃ k, d = k + 1 := ⟨d - 1, by omega⟩
  have hd : 0 ≤ d := by omega
  refine zct_of (by decide) (Nat.le_of_ble_eq_true rfl) (lv := [(0, .ref (zad G 0)), (1, .int x1)]) rfl ?_
  unfold f_X9_isNet at h
  refine zf_iload_n 1 (q := 1) (j := 1) rfl dX9_isNet_0 rfl rfl ?_
  refine zf_i2l (q := 2) rfl dX9_isNet_1 ?_
  refine zf_lconst (q := 3) (v := 0) rfl dX9_isNet_2 (by decide) ?_
  refine zf_aload_n 0 (q := 4) (j := 0) rfl dX9_isNet_3 rfl rfl ?_
  refine zf_getI (q := 7) rfl dX9_isNet_4 lf_RX9_132 (sm0 hG) rfl ?_
  refine zf_iconst (q := 8) rfl dX9_isNet_7 ic1 ?_
  refine zf_isub (q := 9) rfl dX9_isNet_8 ?_
  refine zf_i2l (q := 10) rfl dX9_isNet_9 ?_
  obtain ⟨r1, s2, es2, h⟩ := zc h
  refine zf_callS (q := 13) (As := [.long (Int32.toInt64 x1), .long (0 : Int64), .long (Int32.toInt64 ((σ.1 0 0) - (1 : Int32)))]) (rest := []) (st1 := [.int r1]) rfl dX9_isNet_10 ls_RX9_136 rfl rfl (Nat.le_of_ble_eq_true rfl) (ok_X9_in hG N (Nat.le_trans (by decide) hd) es2) rfl ?_
  obtain ⟨hz, rfl⟩ := zrz_ok h
  exact zf_zreturn dX9_isNet_13 rfl hz
-- ===== X9_isSite: NearCopiesModel.isSite(I)Z
def f_X9_isSite (N : Nat) (x1 : Int32) (σ : ZM) : Option (Int32 × ZM) :=
  zbd (f_X9_in N (Int32.toInt64 x1) (0 : Int64) (Int32.toInt64 ((σ.1 0 5) - (1 : Int32))) σ) fun r1 s2 =>
  zrz r1 s2
set_option maxRecDepth 100000 in
theorem ok_X9_isSite {G : ZG} (hG : zSH G = shM) (N : Nat) {d : Nat} (hd : 1 ≤ d) {x1 : Int32} {σ : ZM} {res : Int32 × ZM} (h : f_X9_isSite N x1 σ = some res) : zCt G d MX9_isSite [.ref (zad G 0), .int x1] σ (some (.int res.1)) res.2 := by
  obtain ⟨d, rfl⟩ : ∃ k, d = k + 1 := ⟨d - 1, by omega⟩
  have hd : 0 ≤ d := by omega
  refine zct_of (by decide) (Nat.le_of_ble_eq_true rfl) (lv := [(0, .ref (zad G 0)), (1, .int x1)]) rfl ?_
  unfold f_X9_isSite at h
  refine zf_iload_n 1 (q := 1) (j := 1) rfl dX9_isSite_0 rfl rfl ?_
  refine zf_i2l (q := 2) rfl dX9_isSite_1 ?_
  refine zf_lconst (q := 3) (v := 0) rfl dX9_isSite_2 (by decide) ?_
  refine zf_aload_n 0 (q := 4) (j := 0) rfl dX9_isSite_3 rfl rfl ?_
  refine zf_getI (q := 7) rfl dX9_isSite_4 lf_RX9_140 (sm0 hG) rfl ?_
  refine zf_iconst (q := 8) rfl dX9_isSite_7 ic1 ?_
  refine zf_isub (q := 9) rfl dX9_isSite_8 ?_
  refine zf_i2l (q := 10) rfl dX9_isSite_9 ?_
  obtain ⟨r1, s2, es2, h⟩ := zc h
  refine zf_callS (q := 13) (As := [.long (Int32.toInt64 x1), .long (0 : Int64), .long (Int32.toInt64 ((σ.1 0 5) - (1 : Int32)))]) (rest := []) (st1 := [.int r1]) rfl dX9_isSite_10 ls_RX9_136 rfl rfl (Nat.le_of_ble_eq_true rfl) (ok_X9_in hG N (Nat.le_trans (by decide) hd) es2) rfl ?_
  obtain ⟨hz, rfl⟩ := zrz_ok h
  exact zf_zreturn dX9_isSite_13 rfl hz
-- ===== X9_net: NearCopiesModel.net(I)I
def f_X9_net (N : Nat) (x1 : Int32) (σ : ZM) : Option (Int32 × ZM) :=
  zbd (f_X9_in N (Int32.toInt64 x1) (0 : Int64) (10000 : Int64) σ) fun r1 s2 =>
  if r1 = 0 then
  (some ((-2 : Int32), s2))
  else
  (if (s2.1 0 0) = (10 : Int32) then
  (some ((-4 : Int32), s2))
  else
  ((zast s2 2 10 (s2.1 0 0) x1).bind fun s3 =>
  (zast s3 3 10 (s3.1 0 0) (1 : Int32)).bind fun s4 =>
  (zpI s4 0 0 ((s4.1 0 0) + (1 : Int32))).bind fun s5 =>
  some (((s5.1 0 0) - (1 : Int32)), s5)))
set_option maxRecDepth 100000 in
theorem ok_X9_net {G : ZG} (hG : zSH G = shM) (N : Nat) {d : Nat} (hd : 1 ≤ d) {x1 : Int32} {σ : ZM} {res : Int32 × ZM} (h : f_X9_net N x1 σ = some res) : zCt G d MX9_net [.ref (zad G 0), .int x1] σ (some (.int res.1)) res.2 := by
  obtain ⟨d, rfl⟩ : ∃ k, d = k + 1 := ⟨d - 1, by omega⟩
  have hd : 0 ≤ d := by omega
  refine zct_of (by decide) (Nat.le_of_ble_eq_true rfl) (lv := [(0, .ref (zad G 0)), (1, .int x1)]) rfl ?_
  unfold f_X9_net at h
  refine zf_iload_n 1 (q := 1) (j := 1) rfl dX9_net_0 rfl rfl ?_
  refine zf_i2l (q := 2) rfl dX9_net_1 ?_
  refine zf_lconst (q := 3) (v := 0) rfl dX9_net_2 (by decide) ?_
  refine zf_ldc2 (q := 6) rfl dX9_net_3 cl_RX9_143 ?_
  obtain ⟨r1, s2, es2, h⟩ := zc h
  refine zf_callS (q := 9) (As := [.long (Int32.toInt64 x1), .long (0 : Int64), .long (10000 : Int64)]) (rest := []) (st1 := [.int r1]) rfl dX9_net_6 ls_RX9_136 rfl rfl (Nat.le_of_ble_eq_true rfl) (ok_X9_in hG N (Nat.le_trans (by decide) hd) es2) rfl ?_
  refine zf_if_ne (q := 12) (tgt := 15) rfl (by decide) dX9_net_9 (fun hc9 => ?_) (fun hc9 => ?_)
  · replace h := (zi h).2 hc9
    refine zf_aload_n 0 (q := 16) (j := 0) rfl dX9_net_15 rfl rfl ?_
    refine zf_getI (q := 19) rfl dX9_net_16 lf_RX9_132 (sm0 hG) rfl ?_
    refine zf_bipush (q := 21) rfl dX9_net_19 bp10 ?_
    refine zf_icmp_ne (q := 24) (tgt := 27) rfl (by decide) dX9_net_21 (fun hc21 => ?_) (fun hc21 => ?_)
    · replace h := (zi h).2 hc21
      refine zf_aload_n 0 (q := 28) (j := 0) rfl dX9_net_27 rfl rfl ?_
      refine zf_getR (q := 31) rfl dX9_net_28 lf_RX9_13 (sm0 hG) rfl ?_
      refine zf_aload_n 0 (q := 32) (j := 0) rfl dX9_net_31 rfl rfl ?_
      refine zf_getI (q := 35) rfl dX9_net_32 lf_RX9_132 (sm0 hG) rfl ?_
      refine zf_iload_n 1 (q := 36) (j := 1) rfl dX9_net_35 rfl rfl ?_
      obtain ⟨s3, es3, h⟩ := zb h
      refine zf_iast (q := 37) rfl dX9_net_36 (sm2 hG) es3 ?_
      refine zf_aload_n 0 (q := 38) (j := 0) rfl dX9_net_37 rfl rfl ?_
      refine zf_getR (q := 41) rfl dX9_net_38 lf_RX9_16 (sm0 hG) rfl ?_
      refine zf_aload_n 0 (q := 42) (j := 0) rfl dX9_net_41 rfl rfl ?_
      refine zf_getI (q := 45) rfl dX9_net_42 lf_RX9_132 (sm0 hG) rfl ?_
      refine zf_iconst (q := 46) rfl dX9_net_45 ic1 ?_
      obtain ⟨s4, es4, h⟩ := zb h
      refine zf_iast (q := 47) rfl dX9_net_46 (sm3 hG) es4 ?_
      refine zf_aload_n 0 (q := 48) (j := 0) rfl dX9_net_47 rfl rfl ?_
      refine zf_dup (q := 49) rfl dX9_net_48 rfl ?_
      refine zf_getI (q := 52) rfl dX9_net_49 lf_RX9_132 (sm0 hG) rfl ?_
      refine zf_iconst (q := 53) rfl dX9_net_52 ic1 ?_
      refine zf_iadd (q := 54) rfl dX9_net_53 ?_
      obtain ⟨s5, es5, h⟩ := zb h
      refine zf_putI (q := 57) rfl dX9_net_54 lp_RX9_132 (sm0 hG) rfl es5 ?_
      refine zf_aload_n 0 (q := 58) (j := 0) rfl dX9_net_57 rfl rfl ?_
      refine zf_getI (q := 61) rfl dX9_net_58 lf_RX9_132 (sm0 hG) rfl ?_
      refine zf_iconst (q := 62) rfl dX9_net_61 ic1 ?_
      refine zf_isub (q := 63) rfl dX9_net_62 ?_
      cases h
      exact zf_ireturn dX9_net_63 rfl
    · replace h := (zi h).1 hc21
      refine zf_bipush (q := 26) rfl dX9_net_24 bpm4 ?_
      cases h
      exact zf_ireturn dX9_net_26 rfl
  · replace h := (zi h).1 hc9
    refine zf_bipush (q := 14) rfl dX9_net_12 bpm2 ?_
    cases h
    exact zf_ireturn dX9_net_14 rfl
-- ===== X9_buysFrom: NearCopiesModel.buysFrom(II)Z
def f_X9_buysFrom_67 (N : Nat) (rec7 : Int32 → Int32 → Int32 → ZM → Option (Int32 × ZM)) (rec19 : Int32 → Int32 → Int32 → Int32 → ZM → Option (Int32 × ZM)) (x2 : Int32) (x4 : Int32) (x5 : Int32) (y0 : Int32) (y1 : Int32) (σ : ZM) : Option (Int32 × ZM) :=
  (some (y1 ||| y0)).bind fun v1 =>
  (some (x5 + (1 : Int32))).bind fun v2 =>
  rec19 x2 v1 x4 v2 σ
set_option maxRecDepth 100000 in
theorem ok_X9_buysFrom_67 {G : ZG} (hG : zSH G = shM) (N : Nat) {d : Nat} {rec7 : Int32 → Int32 → Int32 → ZM → Option (Int32 × ZM)} {rec19 : Int32 → Int32 → Int32 → Int32 → ZM → Option (Int32 × ZM)} {res : Int32 × ZM} (hr7 : ∀ (x2 : Int32) (x3 : Int32) (x4 : Int32) (σ : ZM), rec7 x2 x3 x4 σ = some res → zF G MX9_buysFrom d 7 [(0, .ref (zad G 0)), (2, .int x2), (3, .int x3), (4, .int x4)] [] σ (some (.int res.1)) res.2) (hr19 : ∀ (x2 : Int32) (x3 : Int32) (x4 : Int32) (x5 : Int32) (σ : ZM), rec19 x2 x3 x4 x5 σ = some res → zF G MX9_buysFrom d 19 [(0, .ref (zad G 0)), (2, .int x2), (3, .int x3), (4, .int x4), (5, .int x5)] [] σ (some (.int res.1)) res.2) {x2 : Int32} {x4 : Int32} {x5 : Int32} {y0 : Int32} {y1 : Int32} {σ : ZM} (h : f_X9_buysFrom_67 N rec7 rec19 x2 x4 x5 y0 y1 σ = some res) : zF G MX9_buysFrom d 67 [(0, .ref (zad G 0)), (2, .int x2), (4, .int x4), (5, .int x5)] [.int y0, .int y1] σ (some (.int res.1)) res.2 := by
  unfold f_X9_buysFrom_67 at h
  refine zf_ior (q := 68) rfl dX9_buysFrom_67 ?_
  obtain ⟨v1, ev1, h⟩ := zb h
  refine zf_istore_n (q := 69) (y := v1) (i := 3) (lv1 := [(3, .int v1), (0, .ref (zad G 0)), (2, .int x2), (4, .int x4), (5, .int x5)]) rfl dX9_buysFrom_68 rfl (by decide) ev1 rfl ?_
  obtain ⟨v2, ev2, h⟩ := zb h
  refine zf_iinc 4 (q := 72) (v := v2) (lv1 := [(5, .int v2), (3, .int v1), (0, .ref (zad G 0)), (2, .int x2), (4, .int x4)]) rfl dX9_buysFrom_69 rfl (by rw [ic1]; exact ev2) (by decide) rfl ?_
  refine zf_goto (tgt := 19) (by decide) dX9_buysFrom_72 ?_
  exact zf_sub [2, 3, 1, 4, 0] rfl (hr19 _ _ _ _ _ h)
def f_X9_buysFrom_66 (N : Nat) (rec7 : Int32 → Int32 → Int32 → ZM → Option (Int32 × ZM)) (rec19 : Int32 → Int32 → Int32 → Int32 → ZM → Option (Int32 × ZM)) (x2 : Int32) (x4 : Int32) (x5 : Int32) (y0 : Int32) (σ : ZM) : Option (Int32 × ZM) :=
  f_X9_buysFrom_67 N rec7 rec19 x2 x4 x5 (0 : Int32) y0 σ
set_option maxRecDepth 100000 in
theorem ok_X9_buysFrom_66 {G : ZG} (hG : zSH G = shM) (N : Nat) {d : Nat} {rec7 : Int32 → Int32 → Int32 → ZM → Option (Int32 × ZM)} {rec19 : Int32 → Int32 → Int32 → Int32 → ZM → Option (Int32 × ZM)} {res : Int32 × ZM} (hr7 : ∀ (x2 : Int32) (x3 : Int32) (x4 : Int32) (σ : ZM), rec7 x2 x3 x4 σ = some res → zF G MX9_buysFrom d 7 [(0, .ref (zad G 0)), (2, .int x2), (3, .int x3), (4, .int x4)] [] σ (some (.int res.1)) res.2) (hr19 : ∀ (x2 : Int32) (x3 : Int32) (x4 : Int32) (x5 : Int32) (σ : ZM), rec19 x2 x3 x4 x5 σ = some res → zF G MX9_buysFrom d 19 [(0, .ref (zad G 0)), (2, .int x2), (3, .int x3), (4, .int x4), (5, .int x5)] [] σ (some (.int res.1)) res.2) {x2 : Int32} {x4 : Int32} {x5 : Int32} {y0 : Int32} {σ : ZM} (h : f_X9_buysFrom_66 N rec7 rec19 x2 x4 x5 y0 σ = some res) : zF G MX9_buysFrom d 66 [(0, .ref (zad G 0)), (2, .int x2), (4, .int x4), (5, .int x5)] [.int y0] σ (some (.int res.1)) res.2 := by
  unfold f_X9_buysFrom_66 at h
  refine zf_iconst (q := 67) rfl dX9_buysFrom_66 ic0 ?_
  exact zf_sub [0, 1, 2, 3] rfl (ok_X9_buysFrom_67 hG N hr7 hr19 h)
def b_X9_buysFrom_19 (N : Nat) (rec7 : Int32 → Int32 → Int32 → ZM → Option (Int32 × ZM)) (rec19 : Int32 → Int32 → Int32 → Int32 → ZM → Option (Int32 × ZM)) (x2 : Int32) (x3 : Int32) (x4 : Int32) (x5 : Int32) (σ : ZM) : Option (Int32 × ZM) :=
  if ((σ.1 0 0) * (10 : Int32)) ≤ x5 then
  ((some (x4 + (1 : Int32))).bind fun v3 =>
  rec7 x2 x3 v3 σ)
  else
  ((zald σ 1 100 x5).bind fun v4 =>
  if v4 = (3 : Int32) then
  ((zdiv x5 (10 : Int32)).bind fun v5 =>
  if ((x3 >>> (v5 &&& 31)) &&& (1 : Int32)) = (1 : Int32) then
  ((zrem x5 (10 : Int32)).bind fun v6 =>
  f_X9_buysFrom_67 N rec7 rec19 x2 x4 x5 ((1 : Int32) <<< (v6 &&& 31)) x3 σ)
  else
  (f_X9_buysFrom_66 N rec7 rec19 x2 x4 x5 x3 σ))
  else
  (f_X9_buysFrom_66 N rec7 rec19 x2 x4 x5 x3 σ))
set_option maxRecDepth 100000 in
theorem ok_b_X9_buysFrom_19 {G : ZG} (hG : zSH G = shM) (N : Nat) {d : Nat} {rec7 : Int32 → Int32 → Int32 → ZM → Option (Int32 × ZM)} {rec19 : Int32 → Int32 → Int32 → Int32 → ZM → Option (Int32 × ZM)} {res : Int32 × ZM} (hr7 : ∀ (x2 : Int32) (x3 : Int32) (x4 : Int32) (σ : ZM), rec7 x2 x3 x4 σ = some res → zF G MX9_buysFrom d 7 [(0, .ref (zad G 0)), (2, .int x2), (3, .int x3), (4, .int x4)] [] σ (some (.int res.1)) res.2) (hr19 : ∀ (x2 : Int32) (x3 : Int32) (x4 : Int32) (x5 : Int32) (σ : ZM), rec19 x2 x3 x4 x5 σ = some res → zF G MX9_buysFrom d 19 [(0, .ref (zad G 0)), (2, .int x2), (3, .int x3), (4, .int x4), (5, .int x5)] [] σ (some (.int res.1)) res.2) {x2 : Int32} {x3 : Int32} {x4 : Int32} {x5 : Int32} {σ : ZM} (h : b_X9_buysFrom_19 N rec7 rec19 x2 x3 x4 x5 σ = some res) : zF G MX9_buysFrom d 19 [(0, .ref (zad G 0)), (2, .int x2), (3, .int x3), (4, .int x4), (5, .int x5)] [] σ (some (.int res.1)) res.2 := by
  unfold b_X9_buysFrom_19 at h
  refine zf_iload 4 (q := 21) rfl dX9_buysFrom_19 rfl ?_
  refine zf_aload_n 0 (q := 22) (j := 0) rfl dX9_buysFrom_21 rfl rfl ?_
  refine zf_getI (q := 25) rfl dX9_buysFrom_22 lf_RX9_132 (sm0 hG) rfl ?_
  refine zf_bipush (q := 27) rfl dX9_buysFrom_25 bp10 ?_
  refine zf_imul (q := 28) rfl dX9_buysFrom_27 ?_
  refine zf_icmp_ge (q := 31) (tgt := 75) rfl (by decide) dX9_buysFrom_28 (fun hc28 => ?_) (fun hc28 => ?_)
  · replace h := (zi h).1 hc28
    obtain ⟨v3, ev3, h⟩ := zb h
    refine zf_iinc 3 (q := 78) (v := v3) (lv1 := [(4, .int v3), (0, .ref (zad G 0)), (2, .int x2), (3, .int x3), (5, .int x5)]) rfl dX9_buysFrom_75 rfl (by rw [ic1]; exact ev3) (by decide) rfl ?_
    refine zf_goto (tgt := 7) (by decide) dX9_buysFrom_78 ?_
    exact zf_sub [1, 2, 3, 0] rfl (hr7 _ _ _ _ h)
  · replace h := (zi h).2 hc28
    refine zf_iload_n 2 (q := 32) (j := 3) rfl dX9_buysFrom_31 rfl rfl ?_
    refine zf_aload_n 0 (q := 33) (j := 0) rfl dX9_buysFrom_32 rfl rfl ?_
    refine zf_getR (q := 36) rfl dX9_buysFrom_33 lf_RX9_7 (sm0 hG) rfl ?_
    refine zf_iload 4 (q := 38) rfl dX9_buysFrom_36 rfl ?_
    obtain ⟨v4, ev4, h⟩ := zb h
    refine zf_iald (q := 39) rfl dX9_buysFrom_38 (sm1 hG) ev4 ?_
    refine zf_iconst (q := 40) rfl dX9_buysFrom_39 ic3 ?_
    refine zf_icmp_ne (q := 43) (tgt := 66) rfl (by decide) dX9_buysFrom_40 (fun hc40 => ?_) (fun hc40 => ?_)
    · replace h := (zi h).2 hc40
      exact zf_sub [0, 1, 3, 4] rfl (ok_X9_buysFrom_66 hG N hr7 hr19 h)
    · replace h := (zi h).1 hc40
      refine zf_iload_n 2 (q := 44) (j := 3) rfl dX9_buysFrom_43 rfl rfl ?_
      refine zf_iload 4 (q := 46) rfl dX9_buysFrom_44 rfl ?_
      refine zf_bipush (q := 48) rfl dX9_buysFrom_46 bp10 ?_
      obtain ⟨v5, ev5, h⟩ := zb h
      refine zf_idiv (q := 49) rfl dX9_buysFrom_48 ev5 ?_
      refine zf_ishr (q := 50) rfl dX9_buysFrom_49 ?_
      refine zf_iconst (q := 51) rfl dX9_buysFrom_50 ic1 ?_
      refine zf_iand (q := 52) rfl dX9_buysFrom_51 ?_
      refine zf_iconst (q := 53) rfl dX9_buysFrom_52 ic1 ?_
      refine zf_icmp_ne (q := 56) (tgt := 66) rfl (by decide) dX9_buysFrom_53 (fun hc53 => ?_) (fun hc53 => ?_)
      · replace h := (zi h).2 hc53
        exact zf_sub [0, 1, 3, 4] rfl (ok_X9_buysFrom_66 hG N hr7 hr19 h)
      · replace h := (zi h).1 hc53
        refine zf_iconst (q := 57) rfl dX9_buysFrom_56 ic1 ?_
        refine zf_iload 4 (q := 59) rfl dX9_buysFrom_57 rfl ?_
        refine zf_bipush (q := 61) rfl dX9_buysFrom_59 bp10 ?_
        obtain ⟨v6, ev6, h⟩ := zb h
        refine zf_irem (q := 62) rfl dX9_buysFrom_61 ev6 ?_
        refine zf_ishl (q := 63) rfl dX9_buysFrom_62 ?_
        refine zf_goto (tgt := 67) (by decide) dX9_buysFrom_63 ?_
        exact zf_sub [0, 1, 3, 4] rfl (ok_X9_buysFrom_67 hG N hr7 hr19 h)
def f_X9_buysFrom_19 (N : Nat) (rec7 : Int32 → Int32 → Int32 → ZM → Option (Int32 × ZM)) : Nat → Int32 → Int32 → Int32 → Int32 → ZM → Option (Int32 × ZM)
  | 0, _, _, _, _, _ => none
  | n + 1, x2, x3, x4, x5, σ => b_X9_buysFrom_19 N rec7 (f_X9_buysFrom_19 N rec7 n) x2 x3 x4 x5 σ
theorem ok_X9_buysFrom_19 {G : ZG} (hG : zSH G = shM) (N : Nat) {d : Nat} {rec7 : Int32 → Int32 → Int32 → ZM → Option (Int32 × ZM)} {res : Int32 × ZM} (hr7 : ∀ (x2 : Int32) (x3 : Int32) (x4 : Int32) (σ : ZM), rec7 x2 x3 x4 σ = some res → zF G MX9_buysFrom d 7 [(0, .ref (zad G 0)), (2, .int x2), (3, .int x3), (4, .int x4)] [] σ (some (.int res.1)) res.2) : ∀ (n : Nat) (x2 : Int32) (x3 : Int32) (x4 : Int32) (x5 : Int32) (σ : ZM), f_X9_buysFrom_19 N rec7 n x2 x3 x4 x5 σ = some res → zF G MX9_buysFrom d 19 [(0, .ref (zad G 0)), (2, .int x2), (3, .int x3), (4, .int x4), (5, .int x5)] [] σ (some (.int res.1)) res.2 := by
  intro n
  induction n with
  | zero => intro x2 x3 x4 x5 σ h; exact absurd h (by simp [f_X9_buysFrom_19])
  | succ n ih => intro x2 x3 x4 x5 σ h; rw [f_X9_buysFrom_19] at h; exact ok_b_X9_buysFrom_19 hG N hr7 ih h
def b_X9_buysFrom_7 (N : Nat) (rec7 : Int32 → Int32 → Int32 → ZM → Option (Int32 × ZM)) (x2 : Int32) (x3 : Int32) (x4 : Int32) (σ : ZM) : Option (Int32 × ZM) :=
  if (σ.1 0 0) ≤ x4 then
  (if ((x3 >>> (x2 &&& 31)) &&& (1 : Int32)) = (1 : Int32) then
  (some ((1 : Int32), σ))
  else
  (some ((0 : Int32), σ)))
  else
  (f_X9_buysFrom_19 N rec7 N x2 x3 x4 (0 : Int32) σ)
set_option maxRecDepth 100000 in
theorem ok_b_X9_buysFrom_7 {G : ZG} (hG : zSH G = shM) (N : Nat) {d : Nat} {rec7 : Int32 → Int32 → Int32 → ZM → Option (Int32 × ZM)} {res : Int32 × ZM} (hr7 : ∀ (x2 : Int32) (x3 : Int32) (x4 : Int32) (σ : ZM), rec7 x2 x3 x4 σ = some res → zF G MX9_buysFrom d 7 [(0, .ref (zad G 0)), (2, .int x2), (3, .int x3), (4, .int x4)] [] σ (some (.int res.1)) res.2) {x2 : Int32} {x3 : Int32} {x4 : Int32} {σ : ZM} (h : b_X9_buysFrom_7 N rec7 x2 x3 x4 σ = some res) : zF G MX9_buysFrom d 7 [(0, .ref (zad G 0)), (2, .int x2), (3, .int x3), (4, .int x4)] [] σ (some (.int res.1)) res.2 := by
  unfold b_X9_buysFrom_7 at h
  refine zf_iload 3 (q := 9) rfl dX9_buysFrom_7 rfl ?_
  refine zf_aload_n 0 (q := 10) (j := 0) rfl dX9_buysFrom_9 rfl rfl ?_
  refine zf_getI (q := 13) rfl dX9_buysFrom_10 lf_RX9_132 (sm0 hG) rfl ?_
  refine zf_icmp_ge (q := 16) (tgt := 81) rfl (by decide) dX9_buysFrom_13 (fun hc13 => ?_) (fun hc13 => ?_)
  · replace h := (zi h).1 hc13
    refine zf_iload_n 2 (q := 82) (j := 3) rfl dX9_buysFrom_81 rfl rfl ?_
    refine zf_iload_n 1 (q := 83) (j := 2) rfl dX9_buysFrom_82 rfl rfl ?_
    refine zf_ishr (q := 84) rfl dX9_buysFrom_83 ?_
    refine zf_iconst (q := 85) rfl dX9_buysFrom_84 ic1 ?_
    refine zf_iand (q := 86) rfl dX9_buysFrom_85 ?_
    refine zf_iconst (q := 87) rfl dX9_buysFrom_86 ic1 ?_
    refine zf_icmp_ne (q := 90) (tgt := 94) rfl (by decide) dX9_buysFrom_87 (fun hc87 => ?_) (fun hc87 => ?_)
    · replace h := (zi h).2 hc87
      refine zf_iconst (q := 95) rfl dX9_buysFrom_94 ic0 ?_
      cases h
      exact zf_zreturn dX9_buysFrom_95 rfl (Or.inl rfl)
    · replace h := (zi h).1 hc87
      refine zf_iconst (q := 91) rfl dX9_buysFrom_90 ic1 ?_
      refine zf_goto (tgt := 95) (by decide) dX9_buysFrom_91 ?_
      cases h
      exact zf_zreturn dX9_buysFrom_95 rfl (Or.inr rfl)
  · replace h := (zi h).2 hc13
    refine zf_iconst (q := 17) rfl dX9_buysFrom_16 ic0 ?_
    refine zf_istore (q := 19) (y := (0 : Int32)) (i := 5) (lv1 := [(5, .int (0 : Int32)), (0, .ref (zad G 0)), (2, .int x2), (3, .int x3), (4, .int x4)]) rfl dX9_buysFrom_17 (by decide) rfl rfl ?_
    exact zf_sub [1, 2, 3, 4, 0] rfl (ok_X9_buysFrom_19 hG N hr7 _ _ _ _ _ _ h)
def f_X9_buysFrom_7 (N : Nat) : Nat → Int32 → Int32 → Int32 → ZM → Option (Int32 × ZM)
  | 0, _, _, _, _ => none
  | n + 1, x2, x3, x4, σ => b_X9_buysFrom_7 N (f_X9_buysFrom_7 N n) x2 x3 x4 σ
theorem ok_X9_buysFrom_7 {G : ZG} (hG : zSH G = shM) (N : Nat) {d : Nat} {res : Int32 × ZM} : ∀ (n : Nat) (x2 : Int32) (x3 : Int32) (x4 : Int32) (σ : ZM), f_X9_buysFrom_7 N n x2 x3 x4 σ = some res → zF G MX9_buysFrom d 7 [(0, .ref (zad G 0)), (2, .int x2), (3, .int x3), (4, .int x4)] [] σ (some (.int res.1)) res.2 := by
  intro n
  induction n with
  | zero => intro x2 x3 x4 σ h; exact absurd h (by simp [f_X9_buysFrom_7])
  | succ n ih => intro x2 x3 x4 σ h; rw [f_X9_buysFrom_7] at h; exact ok_b_X9_buysFrom_7 hG N ih h
def f_X9_buysFrom (N : Nat) (x1 : Int32) (x2 : Int32) (σ : ZM) : Option (Int32 × ZM) :=
  (some ((1 : Int32) <<< (x1 &&& 31))).bind fun v7 =>
  f_X9_buysFrom_7 N N x2 v7 (0 : Int32) σ
set_option maxRecDepth 100000 in
theorem ok_X9_buysFrom {G : ZG} (hG : zSH G = shM) (N : Nat) {d : Nat} (hd : 0 ≤ d) {x1 : Int32} {x2 : Int32} {σ : ZM} {res : Int32 × ZM} (h : f_X9_buysFrom N x1 x2 σ = some res) : zCt G d MX9_buysFrom [.ref (zad G 0), .int x1, .int x2] σ (some (.int res.1)) res.2 := by
  refine zct_of (by decide) (Nat.le_of_ble_eq_true rfl) (lv := [(0, .ref (zad G 0)), (1, .int x1), (2, .int x2)]) rfl ?_
  unfold f_X9_buysFrom at h
  refine zf_iconst (q := 1) rfl dX9_buysFrom_0 ic1 ?_
  refine zf_iload_n 1 (q := 2) (j := 1) rfl dX9_buysFrom_1 rfl rfl ?_
  refine zf_ishl (q := 3) rfl dX9_buysFrom_2 ?_
  obtain ⟨v7, ev7, h⟩ := zb h
  refine zf_istore_n (q := 4) (y := v7) (i := 3) (lv1 := [(3, .int v7), (0, .ref (zad G 0)), (1, .int x1), (2, .int x2)]) rfl dX9_buysFrom_3 rfl (by decide) ev7 rfl ?_
  refine zf_iconst (q := 5) rfl dX9_buysFrom_4 ic0 ?_
  refine zf_istore (q := 7) (y := (0 : Int32)) (i := 4) (lv1 := [(4, .int (0 : Int32)), (3, .int v7), (0, .ref (zad G 0)), (1, .int x1), (2, .int x2)]) rfl dX9_buysFrom_5 (by decide) rfl rfl ?_
  exact zf_sub [2, 4, 1, 0] rfl (ok_X9_buysFrom_7 hG N _ _ _ _ _ h)
-- ===== X9_tie: NearCopiesModel.tie(IIZ)I
def f_X9_tie_104 (N : Nat) (y0 : Int32) (y1 : Int32) (σ : ZM) : Option (Int32 × ZM) :=
  (zast σ 1 100 y1 y0).bind fun s1 =>
  (zpI s1 0 1 ((s1.1 0 1) + (1 : Int32))).bind fun s2 =>
  some ((s2.1 0 1), s2)
set_option maxRecDepth 100000 in
theorem ok_X9_tie_104 {G : ZG} (hG : zSH G = shM) (N : Nat) {d : Nat} (hd : 1 ≤ d) {res : Int32 × ZM} {y0 : Int32} {y1 : Int32} {σ : ZM} (h : f_X9_tie_104 N y0 y1 σ = some res) : zF G MX9_tie (d + 1) 104 [(0, .ref (zad G 0))] [.int y0, .int y1, .ref (zad G 1)] σ (some (.int res.1)) res.2 := by
  unfold f_X9_tie_104 at h
  obtain ⟨s1, es1, h⟩ := zb h
  refine zf_iast (q := 105) rfl dX9_tie_104 (sm1 hG) es1 ?_
  refine zf_aload_n 0 (q := 106) (j := 0) rfl dX9_tie_105 rfl rfl ?_
  refine zf_dup (q := 107) rfl dX9_tie_106 rfl ?_
  refine zf_getI (q := 110) rfl dX9_tie_107 lf_RX9_153 (sm0 hG) rfl ?_
  refine zf_iconst (q := 111) rfl dX9_tie_110 ic1 ?_
  refine zf_iadd (q := 112) rfl dX9_tie_111 ?_
  obtain ⟨s2, es2, h⟩ := zb h
  refine zf_putI (q := 115) rfl dX9_tie_112 lp_RX9_153 (sm0 hG) rfl es2 ?_
  refine zf_aload_n 0 (q := 116) (j := 0) rfl dX9_tie_115 rfl rfl ?_
  refine zf_getI (q := 119) rfl dX9_tie_116 lf_RX9_153 (sm0 hG) rfl ?_
  cases h
  exact zf_ireturn dX9_tie_119 rfl
def f_X9_tie_84 (N : Nat) (x1 : Int32) (x2 : Int32) (x3 : Int32) (y0 : Int32) (y1 : Int32) (σ : ZM) : Option (Int32 × ZM) :=
  (zast σ 1 100 y1 y0).bind fun s3 =>
  if x3 = 0 then
  (f_X9_tie_104 N (2 : Int32) (((10 : Int32) * x2) + x1) s3)
  else
  (f_X9_tie_104 N (1 : Int32) (((10 : Int32) * x2) + x1) s3)
set_option maxRecDepth 100000 in
theorem ok_X9_tie_84 {G : ZG} (hG : zSH G = shM) (N : Nat) {d : Nat} (hd : 1 ≤ d) {res : Int32 × ZM} {x1 : Int32} {x2 : Int32} {x3 : Int32} {y0 : Int32} {y1 : Int32} {σ : ZM} (h : f_X9_tie_84 N x1 x2 x3 y0 y1 σ = some res) : zF G MX9_tie (d + 1) 84 [(0, .ref (zad G 0)), (1, .int x1), (2, .int x2), (3, .int x3)] [.int y0, .int y1, .ref (zad G 1)] σ (some (.int res.1)) res.2 := by
  unfold f_X9_tie_84 at h
  obtain ⟨s3, es3, h⟩ := zb h
  refine zf_iast (q := 85) rfl dX9_tie_84 (sm1 hG) es3 ?_
  refine zf_aload_n 0 (q := 86) (j := 0) rfl dX9_tie_85 rfl rfl ?_
  refine zf_getR (q := 89) rfl dX9_tie_86 lf_RX9_7 (sm0 hG) rfl ?_
  refine zf_bipush (q := 91) rfl dX9_tie_89 bp10 ?_
  refine zf_iload_n 2 (q := 92) (j := 2) rfl dX9_tie_91 rfl rfl ?_
  refine zf_imul (q := 93) rfl dX9_tie_92 ?_
  refine zf_iload_n 1 (q := 94) (j := 1) rfl dX9_tie_93 rfl rfl ?_
  refine zf_iadd (q := 95) rfl dX9_tie_94 ?_
  refine zf_iload_n 3 (q := 96) (j := 3) rfl dX9_tie_95 rfl rfl ?_
  refine zf_if_eq (q := 99) (tgt := 103) rfl (by decide) dX9_tie_96 (fun hc96 => ?_) (fun hc96 => ?_)
  · replace h := (zi h).1 hc96
    refine zf_iconst (q := 104) rfl dX9_tie_103 ic2 ?_
    exact zf_sub [0] rfl (ok_X9_tie_104 hG N hd h)
  · replace h := (zi h).2 hc96
    refine zf_iconst (q := 100) rfl dX9_tie_99 ic1 ?_
    refine zf_goto (tgt := 104) (by decide) dX9_tie_100 ?_
    exact zf_sub [0] rfl (ok_X9_tie_104 hG N hd h)
def f_X9_tie_53 (N : Nat) (x1 : Int32) (x2 : Int32) (x3 : Int32) (σ : ZM) : Option (Int32 × ZM) :=
  if (σ.1 0 1) = (20 : Int32) then
  (some ((-4 : Int32), σ))
  else
  (if x3 = 0 then
  (f_X9_tie_84 N x1 x2 x3 (2 : Int32) (((10 : Int32) * x1) + x2) σ)
  else
  (f_X9_tie_84 N x1 x2 x3 (3 : Int32) (((10 : Int32) * x1) + x2) σ))
set_option maxRecDepth 100000 in
theorem ok_X9_tie_53 {G : ZG} (hG : zSH G = shM) (N : Nat) {d : Nat} (hd : 1 ≤ d) {res : Int32 × ZM} {x1 : Int32} {x2 : Int32} {x3 : Int32} {σ : ZM} (h : f_X9_tie_53 N x1 x2 x3 σ = some res) : zF G MX9_tie (d + 1) 53 [(0, .ref (zad G 0)), (1, .int x1), (2, .int x2), (3, .int x3)] [] σ (some (.int res.1)) res.2 := by
  unfold f_X9_tie_53 at h
  refine zf_aload_n 0 (q := 54) (j := 0) rfl dX9_tie_53 rfl rfl ?_
  refine zf_getI (q := 57) rfl dX9_tie_54 lf_RX9_153 (sm0 hG) rfl ?_
  refine zf_bipush (q := 59) rfl dX9_tie_57 bp20 ?_
  refine zf_icmp_ne (q := 62) (tgt := 65) rfl (by decide) dX9_tie_59 (fun hc59 => ?_) (fun hc59 => ?_)
  · replace h := (zi h).2 hc59
    refine zf_aload_n 0 (q := 66) (j := 0) rfl dX9_tie_65 rfl rfl ?_
    refine zf_getR (q := 69) rfl dX9_tie_66 lf_RX9_7 (sm0 hG) rfl ?_
    refine zf_bipush (q := 71) rfl dX9_tie_69 bp10 ?_
    refine zf_iload_n 1 (q := 72) (j := 1) rfl dX9_tie_71 rfl rfl ?_
    refine zf_imul (q := 73) rfl dX9_tie_72 ?_
    refine zf_iload_n 2 (q := 74) (j := 2) rfl dX9_tie_73 rfl rfl ?_
    refine zf_iadd (q := 75) rfl dX9_tie_74 ?_
    refine zf_iload_n 3 (q := 76) (j := 3) rfl dX9_tie_75 rfl rfl ?_
    refine zf_if_eq (q := 79) (tgt := 83) rfl (by decide) dX9_tie_76 (fun hc76 => ?_) (fun hc76 => ?_)
    · replace h := (zi h).1 hc76
      refine zf_iconst (q := 84) rfl dX9_tie_83 ic2 ?_
      exact zf_sub [0, 1, 2, 3] rfl (ok_X9_tie_84 hG N hd h)
    · replace h := (zi h).2 hc76
      refine zf_iconst (q := 80) rfl dX9_tie_79 ic3 ?_
      refine zf_goto (tgt := 84) (by decide) dX9_tie_80 ?_
      exact zf_sub [0, 1, 2, 3] rfl (ok_X9_tie_84 hG N hd h)
  · replace h := (zi h).1 hc59
    refine zf_bipush (q := 64) rfl dX9_tie_62 bpm4 ?_
    cases h
    exact zf_ireturn dX9_tie_64 rfl
def f_X9_tie (N : Nat) (x1 : Int32) (x2 : Int32) (x3 : Int32) (σ : ZM) : Option (Int32 × ZM) :=
  zbd (f_X9_isNet N x1 σ) fun r4 s5 =>
  if r4 = 0 then
  (some ((-1 : Int32), s5))
  else
  (zbd (f_X9_isNet N x2 s5) fun r6 s7 =>
  if r6 = 0 then
  (some ((-1 : Int32), s7))
  else
  (if x1 = x2 then
  (some ((-3 : Int32), s7))
  else
  ((zald s7 1 100 (((10 : Int32) * x1) + x2)).bind fun v8 =>
  if v8 = 0 then
  (if x3 = 0 then
  (f_X9_tie_53 N x1 x2 x3 s7)
  else
  (zbd (f_X9_buysFrom N x2 x1 s7) fun r9 s10 =>
  if r9 = 0 then
  (f_X9_tie_53 N x1 x2 x3 s10)
  else
  (some ((-3 : Int32), s10))))
  else
  (some ((-3 : Int32), s7)))))
set_option maxRecDepth 100000 in
theorem ok_X9_tie {G : ZG} (hG : zSH G = shM) (N : Nat) {d : Nat} (hd : 2 ≤ d) {x1 : Int32} {x2 : Int32} {x3 : Int32} {σ : ZM} {res : Int32 × ZM} (h : f_X9_tie N x1 x2 x3 σ = some res) : zCt G d MX9_tie [.ref (zad G 0), .int x1, .int x2, .int x3] σ (some (.int res.1)) res.2 := by
  obtain ⟨d, rfl⟩ : ∃ k, d = k + 1 := ⟨d - 1, by omega⟩
  have hd : 1 ≤ d := by omega
  refine zct_of (by decide) (Nat.le_of_ble_eq_true rfl) (lv := [(0, .ref (zad G 0)), (1, .int x1), (2, .int x2), (3, .int x3)]) rfl ?_
  unfold f_X9_tie at h
  refine zf_aload_n 0 (q := 1) (j := 0) rfl dX9_tie_0 rfl rfl ?_
  refine zf_iload_n 1 (q := 2) (j := 1) rfl dX9_tie_1 rfl rfl ?_
  obtain ⟨r4, s5, es5, h⟩ := zc h
  refine zf_callV (q := 5) (As := [.int x1]) (rest := []) (st1 := [.int r4]) rfl dX9_tie_2 lv_RX9_145 (sm0 hG) rfl rfl (Nat.le_of_ble_eq_true rfl) (ok_X9_isNet hG N (Nat.le_trans (by decide) hd) es5) rfl ?_
  refine zf_if_eq (q := 8) (tgt := 16) rfl (by decide) dX9_tie_5 (fun hc5 => ?_) (fun hc5 => ?_)
  · replace h := (zi h).1 hc5
    refine zf_iconst (q := 17) rfl dX9_tie_16 icm1 ?_
    cases h
    exact zf_ireturn dX9_tie_17 rfl
  · replace h := (zi h).2 hc5
    refine zf_aload_n 0 (q := 9) (j := 0) rfl dX9_tie_8 rfl rfl ?_
    refine zf_iload_n 2 (q := 10) (j := 2) rfl dX9_tie_9 rfl rfl ?_
    obtain ⟨r6, s7, es7, h⟩ := zc h
    refine zf_callV (q := 13) (As := [.int x2]) (rest := []) (st1 := [.int r6]) rfl dX9_tie_10 lv_RX9_145 (sm0 hG) rfl rfl (Nat.le_of_ble_eq_true rfl) (ok_X9_isNet hG N (Nat.le_trans (by decide) hd) es7) rfl ?_
    refine zf_if_ne (q := 16) (tgt := 18) rfl (by decide) dX9_tie_13 (fun hc13 => ?_) (fun hc13 => ?_)
    · replace h := (zi h).2 hc13
      refine zf_iload_n 1 (q := 19) (j := 1) rfl dX9_tie_18 rfl rfl ?_
      refine zf_iload_n 2 (q := 20) (j := 2) rfl dX9_tie_19 rfl rfl ?_
      refine zf_icmp_eq (q := 23) (tgt := 50) rfl (by decide) dX9_tie_20 (fun hc20 => ?_) (fun hc20 => ?_)
      · replace h := (zi h).1 hc20
        refine zf_bipush (q := 52) rfl dX9_tie_50 bpm3 ?_
        cases h
        exact zf_ireturn dX9_tie_52 rfl
      · replace h := (zi h).2 hc20
        refine zf_aload_n 0 (q := 24) (j := 0) rfl dX9_tie_23 rfl rfl ?_
        refine zf_getR (q := 27) rfl dX9_tie_24 lf_RX9_7 (sm0 hG) rfl ?_
        refine zf_bipush (q := 29) rfl dX9_tie_27 bp10 ?_
        refine zf_iload_n 1 (q := 30) (j := 1) rfl dX9_tie_29 rfl rfl ?_
        refine zf_imul (q := 31) rfl dX9_tie_30 ?_
        refine zf_iload_n 2 (q := 32) (j := 2) rfl dX9_tie_31 rfl rfl ?_
        refine zf_iadd (q := 33) rfl dX9_tie_32 ?_
        obtain ⟨v8, ev8, h⟩ := zb h
        refine zf_iald (q := 34) rfl dX9_tie_33 (sm1 hG) ev8 ?_
        refine zf_if_ne (q := 37) (tgt := 50) rfl (by decide) dX9_tie_34 (fun hc34 => ?_) (fun hc34 => ?_)
        · replace h := (zi h).2 hc34
          refine zf_bipush (q := 52) rfl dX9_tie_50 bpm3 ?_
          cases h
          exact zf_ireturn dX9_tie_52 rfl
        · replace h := (zi h).1 hc34
          refine zf_iload_n 3 (q := 38) (j := 3) rfl dX9_tie_37 rfl rfl ?_
          refine zf_if_eq (q := 41) (tgt := 53) rfl (by decide) dX9_tie_38 (fun hc38 => ?_) (fun hc38 => ?_)
          · replace h := (zi h).1 hc38
            exact zf_sub [0, 1, 2, 3] rfl (ok_X9_tie_53 hG N hd h)
          · replace h := (zi h).2 hc38
            refine zf_aload_n 0 (q := 42) (j := 0) rfl dX9_tie_41 rfl rfl ?_
            refine zf_iload_n 2 (q := 43) (j := 2) rfl dX9_tie_42 rfl rfl ?_
            refine zf_iload_n 1 (q := 44) (j := 1) rfl dX9_tie_43 rfl rfl ?_
            obtain ⟨r9, s10, es10, h⟩ := zc h
            refine zf_callV (q := 47) (As := [.int x2, .int x1]) (rest := []) (st1 := [.int r9]) rfl dX9_tie_44 lv_RX9_149 (sm0 hG) rfl rfl (Nat.le_of_ble_eq_true rfl) (ok_X9_buysFrom hG N (Nat.le_trans (by decide) hd) es10) rfl ?_
            refine zf_if_eq (q := 50) (tgt := 53) rfl (by decide) dX9_tie_47 (fun hc47 => ?_) (fun hc47 => ?_)
            · replace h := (zi h).1 hc47
              exact zf_sub [0, 1, 2, 3] rfl (ok_X9_tie_53 hG N hd h)
            · replace h := (zi h).2 hc47
              refine zf_bipush (q := 52) rfl dX9_tie_50 bpm3 ?_
              cases h
              exact zf_ireturn dX9_tie_52 rfl
    · replace h := (zi h).1 hc13
      refine zf_iconst (q := 17) rfl dX9_tie_16 icm1 ?_
      cases h
      exact zf_ireturn dX9_tie_17 rfl
-- ===== X9_tied: NearCopiesModel.tied(II)I
def f_X9_tied (N : Nat) (x1 : Int32) (x2 : Int32) (σ : ZM) : Option (Int32 × ZM) :=
  zbd (f_X9_isNet N x1 σ) fun r1 s2 =>
  if r1 = 0 then
  (some ((-1 : Int32), s2))
  else
  (zbd (f_X9_isNet N x2 s2) fun r3 s4 =>
  if r3 = 0 then
  (some ((-1 : Int32), s4))
  else
  ((zald s4 1 100 (((10 : Int32) * x1) + x2)).bind fun v5 =>
  some (v5, s4)))
set_option maxRecDepth 100000 in
theorem ok_X9_tied {G : ZG} (hG : zSH G = shM) (N : Nat) {d : Nat} (hd : 2 ≤ d) {x1 : Int32} {x2 : Int32} {σ : ZM} {res : Int32 × ZM} (h : f_X9_tied N x1 x2 σ = some res) : zCt G d MX9_tied [.ref (zad G 0), .int x1, .int x2] σ (some (.int res.1)) res.2 := by
  obtain ⟨d, rfl⟩ : ∃ k, d = k + 1 := ⟨d - 1, by omega⟩
  have hd : 1 ≤ d := by omega
  refine zct_of (by decide) (Nat.le_of_ble_eq_true rfl) (lv := [(0, .ref (zad G 0)), (1, .int x1), (2, .int x2)]) rfl ?_
  unfold f_X9_tied at h
  refine zf_aload_n 0 (q := 1) (j := 0) rfl dX9_tied_0 rfl rfl ?_
  refine zf_iload_n 1 (q := 2) (j := 1) rfl dX9_tied_1 rfl rfl ?_
  obtain ⟨r1, s2, es2, h⟩ := zc h
  refine zf_callV (q := 5) (As := [.int x1]) (rest := []) (st1 := [.int r1]) rfl dX9_tied_2 lv_RX9_145 (sm0 hG) rfl rfl (Nat.le_of_ble_eq_true rfl) (ok_X9_isNet hG N (Nat.le_trans (by decide) hd) es2) rfl ?_
  refine zf_if_eq (q := 8) (tgt := 30) rfl (by decide) dX9_tied_5 (fun hc5 => ?_) (fun hc5 => ?_)
  · replace h := (zi h).1 hc5
    refine zf_iconst (q := 31) rfl dX9_tied_30 icm1 ?_
    cases h
    exact zf_ireturn dX9_tied_31 rfl
  · replace h := (zi h).2 hc5
    refine zf_aload_n 0 (q := 9) (j := 0) rfl dX9_tied_8 rfl rfl ?_
    refine zf_iload_n 2 (q := 10) (j := 2) rfl dX9_tied_9 rfl rfl ?_
    obtain ⟨r3, s4, es4, h⟩ := zc h
    refine zf_callV (q := 13) (As := [.int x2]) (rest := []) (st1 := [.int r3]) rfl dX9_tied_10 lv_RX9_145 (sm0 hG) rfl rfl (Nat.le_of_ble_eq_true rfl) (ok_X9_isNet hG N (Nat.le_trans (by decide) hd) es4) rfl ?_
    refine zf_if_eq (q := 16) (tgt := 30) rfl (by decide) dX9_tied_13 (fun hc13 => ?_) (fun hc13 => ?_)
    · replace h := (zi h).1 hc13
      refine zf_iconst (q := 31) rfl dX9_tied_30 icm1 ?_
      cases h
      exact zf_ireturn dX9_tied_31 rfl
    · replace h := (zi h).2 hc13
      refine zf_aload_n 0 (q := 17) (j := 0) rfl dX9_tied_16 rfl rfl ?_
      refine zf_getR (q := 20) rfl dX9_tied_17 lf_RX9_7 (sm0 hG) rfl ?_
      refine zf_bipush (q := 22) rfl dX9_tied_20 bp10 ?_
      refine zf_iload_n 1 (q := 23) (j := 1) rfl dX9_tied_22 rfl rfl ?_
      refine zf_imul (q := 24) rfl dX9_tied_23 ?_
      refine zf_iload_n 2 (q := 25) (j := 2) rfl dX9_tied_24 rfl rfl ?_
      refine zf_iadd (q := 26) rfl dX9_tied_25 ?_
      obtain ⟨v5, ev5, h⟩ := zb h
      refine zf_iald (q := 27) rfl dX9_tied_26 (sm1 hG) ev5 ?_
      refine zf_goto (tgt := 31) (by decide) dX9_tied_27 ?_
      cases h
      exact zf_ireturn dX9_tied_31 rfl
-- ===== X9_askers: NearCopiesModel.askers(II)I
def f_X9_askers (N : Nat) (x1 : Int32) (x2 : Int32) (σ : ZM) : Option (Int32 × ZM) :=
  zbd (f_X9_isNet N x1 σ) fun r1 s2 =>
  if r1 = 0 then
  (some ((-1 : Int32), s2))
  else
  (zbd (f_X9_in N (Int32.toInt64 x2) (0 : Int64) (10000 : Int64) s2) fun r3 s4 =>
  if r3 = 0 then
  (some ((-2 : Int32), s4))
  else
  ((zald s4 2 10 x1).bind fun v5 =>
  (zast s4 2 10 x1 x2).bind fun s6 =>
  some (v5, s6)))
set_option maxRecDepth 100000 in
theorem ok_X9_askers {G : ZG} (hG : zSH G = shM) (N : Nat) {d : Nat} (hd : 2 ≤ d) {x1 : Int32} {x2 : Int32} {σ : ZM} {res : Int32 × ZM} (h : f_X9_askers N x1 x2 σ = some res) : zCt G d MX9_askers [.ref (zad G 0), .int x1, .int x2] σ (some (.int res.1)) res.2 := by
  obtain ⟨d, rfl⟩ : ∃ k, d = k + 1 := ⟨d - 1, by omega⟩
  have hd : 1 ≤ d := by omega
  refine zct_of (by decide) (Nat.le_of_ble_eq_true rfl) (lv := [(0, .ref (zad G 0)), (1, .int x1), (2, .int x2)]) rfl ?_
  unfold f_X9_askers at h
  refine zf_aload_n 0 (q := 1) (j := 0) rfl dX9_askers_0 rfl rfl ?_
  refine zf_iload_n 1 (q := 2) (j := 1) rfl dX9_askers_1 rfl rfl ?_
  obtain ⟨r1, s2, es2, h⟩ := zc h
  refine zf_callV (q := 5) (As := [.int x1]) (rest := []) (st1 := [.int r1]) rfl dX9_askers_2 lv_RX9_145 (sm0 hG) rfl rfl (Nat.le_of_ble_eq_true rfl) (ok_X9_isNet hG N (Nat.le_trans (by decide) hd) es2) rfl ?_
  refine zf_if_ne (q := 8) (tgt := 10) rfl (by decide) dX9_askers_5 (fun hc5 => ?_) (fun hc5 => ?_)
  · replace h := (zi h).2 hc5
    refine zf_iload_n 2 (q := 11) (j := 2) rfl dX9_askers_10 rfl rfl ?_
    refine zf_i2l (q := 12) rfl dX9_askers_11 ?_
    refine zf_lconst (q := 13) (v := 0) rfl dX9_askers_12 (by decide) ?_
    refine zf_ldc2 (q := 16) rfl dX9_askers_13 cl_RX9_143 ?_
    obtain ⟨r3, s4, es4, h⟩ := zc h
    refine zf_callS (q := 19) (As := [.long (Int32.toInt64 x2), .long (0 : Int64), .long (10000 : Int64)]) (rest := []) (st1 := [.int r3]) rfl dX9_askers_16 ls_RX9_136 rfl rfl (Nat.le_of_ble_eq_true rfl) (ok_X9_in hG N (Nat.le_trans (by decide) hd) es4) rfl ?_
    refine zf_if_ne (q := 22) (tgt := 25) rfl (by decide) dX9_askers_19 (fun hc19 => ?_) (fun hc19 => ?_)
    · replace h := (zi h).2 hc19
      refine zf_aload_n 0 (q := 26) (j := 0) rfl dX9_askers_25 rfl rfl ?_
      refine zf_getR (q := 29) rfl dX9_askers_26 lf_RX9_13 (sm0 hG) rfl ?_
      refine zf_iload_n 1 (q := 30) (j := 1) rfl dX9_askers_29 rfl rfl ?_
      obtain ⟨v5, ev5, h⟩ := zb h
      refine zf_iald (q := 31) rfl dX9_askers_30 (sm2 hG) ev5 ?_
      refine zf_istore_n (q := 32) (y := v5) (i := 3) (lv1 := [(3, .int v5), (0, .ref (zad G 0)), (1, .int x1), (2, .int x2)]) rfl dX9_askers_31 rfl (by decide) rfl rfl ?_
      refine zf_aload_n 1 (q := 33) (j := 0) rfl dX9_askers_32 rfl rfl ?_
      refine zf_getR (q := 36) rfl dX9_askers_33 lf_RX9_13 (sm0 hG) rfl ?_
      refine zf_iload_n 2 (q := 37) (j := 1) rfl dX9_askers_36 rfl rfl ?_
      refine zf_iload_n 3 (q := 38) (j := 2) rfl dX9_askers_37 rfl rfl ?_
      obtain ⟨s6, es6, h⟩ := zb h
      refine zf_iast (q := 39) rfl dX9_askers_38 (sm2 hG) es6 ?_
      refine zf_iload_n 0 (q := 40) (j := 3) rfl dX9_askers_39 rfl rfl ?_
      cases h
      exact zf_ireturn dX9_askers_40 rfl
    · replace h := (zi h).1 hc19
      refine zf_bipush (q := 24) rfl dX9_askers_22 bpm2 ?_
      cases h
      exact zf_ireturn dX9_askers_24 rfl
  · replace h := (zi h).1 hc5
    refine zf_iconst (q := 9) rfl dX9_askers_8 icm1 ?_
    cases h
    exact zf_ireturn dX9_askers_9 rfl
-- ===== X9_guess: NearCopiesModel.guess(II)I
def f_X9_guess (N : Nat) (x1 : Int32) (x2 : Int32) (σ : ZM) : Option (Int32 × ZM) :=
  zbd (f_X9_isNet N x1 σ) fun r1 s2 =>
  if r1 = 0 then
  (some ((-1 : Int32), s2))
  else
  (zbd (f_X9_in N (Int32.toInt64 x2) (1 : Int64) (15 : Int64) s2) fun r3 s4 =>
  if r3 = 0 then
  (some ((-2 : Int32), s4))
  else
  ((zald s4 3 10 x1).bind fun v5 =>
  (zast s4 3 10 x1 x2).bind fun s6 =>
  some (v5, s6)))
set_option maxRecDepth 100000 in
theorem ok_X9_guess {G : ZG} (hG : zSH G = shM) (N : Nat) {d : Nat} (hd : 2 ≤ d) {x1 : Int32} {x2 : Int32} {σ : ZM} {res : Int32 × ZM} (h : f_X9_guess N x1 x2 σ = some res) : zCt G d MX9_guess [.ref (zad G 0), .int x1, .int x2] σ (some (.int res.1)) res.2 := by
  obtain ⟨d, rfl⟩ : ∃ k, d = k + 1 := ⟨d - 1, by omega⟩
  have hd : 1 ≤ d := by omega
  refine zct_of (by decide) (Nat.le_of_ble_eq_true rfl) (lv := [(0, .ref (zad G 0)), (1, .int x1), (2, .int x2)]) rfl ?_
  unfold f_X9_guess at h
  refine zf_aload_n 0 (q := 1) (j := 0) rfl dX9_guess_0 rfl rfl ?_
  refine zf_iload_n 1 (q := 2) (j := 1) rfl dX9_guess_1 rfl rfl ?_
  obtain ⟨r1, s2, es2, h⟩ := zc h
  refine zf_callV (q := 5) (As := [.int x1]) (rest := []) (st1 := [.int r1]) rfl dX9_guess_2 lv_RX9_145 (sm0 hG) rfl rfl (Nat.le_of_ble_eq_true rfl) (ok_X9_isNet hG N (Nat.le_trans (by decide) hd) es2) rfl ?_
  refine zf_if_ne (q := 8) (tgt := 10) rfl (by decide) dX9_guess_5 (fun hc5 => ?_) (fun hc5 => ?_)
  · replace h := (zi h).2 hc5
    refine zf_iload_n 2 (q := 11) (j := 2) rfl dX9_guess_10 rfl rfl ?_
    refine zf_i2l (q := 12) rfl dX9_guess_11 ?_
    refine zf_lconst (q := 13) (v := 1) rfl dX9_guess_12 (by decide) ?_
    refine zf_ldc2 (q := 16) rfl dX9_guess_13 cl_RX9_156 ?_
    obtain ⟨r3, s4, es4, h⟩ := zc h
    refine zf_callS (q := 19) (As := [.long (Int32.toInt64 x2), .long (1 : Int64), .long (15 : Int64)]) (rest := []) (st1 := [.int r3]) rfl dX9_guess_16 ls_RX9_136 rfl rfl (Nat.le_of_ble_eq_true rfl) (ok_X9_in hG N (Nat.le_trans (by decide) hd) es4) rfl ?_
    refine zf_if_ne (q := 22) (tgt := 25) rfl (by decide) dX9_guess_19 (fun hc19 => ?_) (fun hc19 => ?_)
    · replace h := (zi h).2 hc19
      refine zf_aload_n 0 (q := 26) (j := 0) rfl dX9_guess_25 rfl rfl ?_
      refine zf_getR (q := 29) rfl dX9_guess_26 lf_RX9_16 (sm0 hG) rfl ?_
      refine zf_iload_n 1 (q := 30) (j := 1) rfl dX9_guess_29 rfl rfl ?_
      obtain ⟨v5, ev5, h⟩ := zb h
      refine zf_iald (q := 31) rfl dX9_guess_30 (sm3 hG) ev5 ?_
      refine zf_istore_n (q := 32) (y := v5) (i := 3) (lv1 := [(3, .int v5), (0, .ref (zad G 0)), (1, .int x1), (2, .int x2)]) rfl dX9_guess_31 rfl (by decide) rfl rfl ?_
      refine zf_aload_n 1 (q := 33) (j := 0) rfl dX9_guess_32 rfl rfl ?_
      refine zf_getR (q := 36) rfl dX9_guess_33 lf_RX9_16 (sm0 hG) rfl ?_
      refine zf_iload_n 2 (q := 37) (j := 1) rfl dX9_guess_36 rfl rfl ?_
      refine zf_iload_n 3 (q := 38) (j := 2) rfl dX9_guess_37 rfl rfl ?_
      obtain ⟨s6, es6, h⟩ := zb h
      refine zf_iast (q := 39) rfl dX9_guess_38 (sm3 hG) es6 ?_
      refine zf_iload_n 0 (q := 40) (j := 3) rfl dX9_guess_39 rfl rfl ?_
      cases h
      exact zf_ireturn dX9_guess_40 rfl
    · replace h := (zi h).1 hc19
      refine zf_bipush (q := 24) rfl dX9_guess_22 bpm2 ?_
      cases h
      exact zf_ireturn dX9_guess_24 rfl
  · replace h := (zi h).1 hc5
    refine zf_iconst (q := 9) rfl dX9_guess_8 icm1 ?_
    cases h
    exact zf_ireturn dX9_guess_9 rfl
-- ===== X9_site: NearCopiesModel.site(II)I
def f_X9_site (N : Nat) (x1 : Int32) (x2 : Int32) (σ : ZM) : Option (Int32 × ZM) :=
  zbd (f_X9_isNet N x1 σ) fun r1 s2 =>
  if r1 = 0 then
  (some ((-1 : Int32), s2))
  else
  (zbd (f_X9_in N (Int32.toInt64 x2) (0 : Int64) (100000 : Int64) s2) fun r3 s4 =>
  if r3 = 0 then
  (some ((-2 : Int32), s4))
  else
  (if (s4.1 0 5) = (4 : Int32) then
  (some ((-4 : Int32), s4))
  else
  ((zast s4 4 4 (s4.1 0 5) x1).bind fun s5 =>
  (zast s5 5 4 (s5.1 0 5) x2).bind fun s6 =>
  (zasZ s6 6 4 (s6.1 0 5) (1 : Int32)).bind fun s7 =>
  (zast s7 7 4 (s7.1 0 5) (0 : Int32)).bind fun s8 =>
  (zast s8 8 4 (s8.1 0 5) (0 : Int32)).bind fun s9 =>
  (zasZ s9 9 4 (s9.1 0 5) (0 : Int32)).bind fun s10 =>
  (zast s10 11 4 (s10.1 0 5) (-9 : Int32)).bind fun s11 =>
  (zpI s11 0 5 ((s11.1 0 5) + (1 : Int32))).bind fun s12 =>
  some (((s12.1 0 5) - (1 : Int32)), s12))))
set_option maxRecDepth 100000 in
theorem ok_X9_site {G : ZG} (hG : zSH G = shM) (N : Nat) {d : Nat} (hd : 2 ≤ d) {x1 : Int32} {x2 : Int32} {σ : ZM} {res : Int32 × ZM} (h : f_X9_site N x1 x2 σ = some res) : zCt G d MX9_site [.ref (zad G 0), .int x1, .int x2] σ (some (.int res.1)) res.2 := by
  obtain ⟨d, rfl⟩ : ∃ k, d = k + 1 := ⟨d - 1, by omega⟩
  have hd : 1 ≤ d := by omega
  refine zct_of (by decide) (Nat.le_of_ble_eq_true rfl) (lv := [(0, .ref (zad G 0)), (1, .int x1), (2, .int x2)]) rfl ?_
  unfold f_X9_site at h
  refine zf_aload_n 0 (q := 1) (j := 0) rfl dX9_site_0 rfl rfl ?_
  refine zf_iload_n 1 (q := 2) (j := 1) rfl dX9_site_1 rfl rfl ?_
  obtain ⟨r1, s2, es2, h⟩ := zc h
  refine zf_callV (q := 5) (As := [.int x1]) (rest := []) (st1 := [.int r1]) rfl dX9_site_2 lv_RX9_145 (sm0 hG) rfl rfl (Nat.le_of_ble_eq_true rfl) (ok_X9_isNet hG N (Nat.le_trans (by decide) hd) es2) rfl ?_
  refine zf_if_ne (q := 8) (tgt := 10) rfl (by decide) dX9_site_5 (fun hc5 => ?_) (fun hc5 => ?_)
  · replace h := (zi h).2 hc5
    refine zf_iload_n 2 (q := 11) (j := 2) rfl dX9_site_10 rfl rfl ?_
    refine zf_i2l (q := 12) rfl dX9_site_11 ?_
    refine zf_lconst (q := 13) (v := 0) rfl dX9_site_12 (by decide) ?_
    refine zf_ldc2 (q := 16) rfl dX9_site_13 cl_RX9_158 ?_
    obtain ⟨r3, s4, es4, h⟩ := zc h
    refine zf_callS (q := 19) (As := [.long (Int32.toInt64 x2), .long (0 : Int64), .long (100000 : Int64)]) (rest := []) (st1 := [.int r3]) rfl dX9_site_16 ls_RX9_136 rfl rfl (Nat.le_of_ble_eq_true rfl) (ok_X9_in hG N (Nat.le_trans (by decide) hd) es4) rfl ?_
    refine zf_if_ne (q := 22) (tgt := 25) rfl (by decide) dX9_site_19 (fun hc19 => ?_) (fun hc19 => ?_)
    · replace h := (zi h).2 hc19
      refine zf_aload_n 0 (q := 26) (j := 0) rfl dX9_site_25 rfl rfl ?_
      refine zf_getI (q := 29) rfl dX9_site_26 lf_RX9_140 (sm0 hG) rfl ?_
      refine zf_iconst (q := 30) rfl dX9_site_29 ic4 ?_
      refine zf_icmp_ne (q := 33) (tgt := 36) rfl (by decide) dX9_site_30 (fun hc30 => ?_) (fun hc30 => ?_)
      · replace h := (zi h).2 hc30
        refine zf_aload_n 0 (q := 37) (j := 0) rfl dX9_site_36 rfl rfl ?_
        refine zf_getR (q := 40) rfl dX9_site_37 lf_RX9_19 (sm0 hG) rfl ?_
        refine zf_aload_n 0 (q := 41) (j := 0) rfl dX9_site_40 rfl rfl ?_
        refine zf_getI (q := 44) rfl dX9_site_41 lf_RX9_140 (sm0 hG) rfl ?_
        refine zf_iload_n 1 (q := 45) (j := 1) rfl dX9_site_44 rfl rfl ?_
        obtain ⟨s5, es5, h⟩ := zb h
        refine zf_iast (q := 46) rfl dX9_site_45 (sm4 hG) es5 ?_
        refine zf_aload_n 0 (q := 47) (j := 0) rfl dX9_site_46 rfl rfl ?_
        refine zf_getR (q := 50) rfl dX9_site_47 lf_RX9_22 (sm0 hG) rfl ?_
        refine zf_aload_n 0 (q := 51) (j := 0) rfl dX9_site_50 rfl rfl ?_
        refine zf_getI (q := 54) rfl dX9_site_51 lf_RX9_140 (sm0 hG) rfl ?_
        refine zf_iload_n 2 (q := 55) (j := 2) rfl dX9_site_54 rfl rfl ?_
        obtain ⟨s6, es6, h⟩ := zb h
        refine zf_iast (q := 56) rfl dX9_site_55 (sm5 hG) es6 ?_
        refine zf_aload_n 0 (q := 57) (j := 0) rfl dX9_site_56 rfl rfl ?_
        refine zf_getR (q := 60) rfl dX9_site_57 lf_RX9_25 (sm0 hG) rfl ?_
        refine zf_aload_n 0 (q := 61) (j := 0) rfl dX9_site_60 rfl rfl ?_
        refine zf_getI (q := 64) rfl dX9_site_61 lf_RX9_140 (sm0 hG) rfl ?_
        refine zf_iconst (q := 65) rfl dX9_site_64 ic1 ?_
        obtain ⟨s7, es7, h⟩ := zb h
        refine zf_zast (q := 66) rfl dX9_site_65 (sm6 hG) es7 ?_
        refine zf_aload_n 0 (q := 67) (j := 0) rfl dX9_site_66 rfl rfl ?_
        refine zf_getR (q := 70) rfl dX9_site_67 lf_RX9_29 (sm0 hG) rfl ?_
        refine zf_aload_n 0 (q := 71) (j := 0) rfl dX9_site_70 rfl rfl ?_
        refine zf_getI (q := 74) rfl dX9_site_71 lf_RX9_140 (sm0 hG) rfl ?_
        refine zf_iconst (q := 75) rfl dX9_site_74 ic0 ?_
        obtain ⟨s8, es8, h⟩ := zb h
        refine zf_iast (q := 76) rfl dX9_site_75 (sm7 hG) es8 ?_
        refine zf_aload_n 0 (q := 77) (j := 0) rfl dX9_site_76 rfl rfl ?_
        refine zf_getR (q := 80) rfl dX9_site_77 lf_RX9_32 (sm0 hG) rfl ?_
        refine zf_aload_n 0 (q := 81) (j := 0) rfl dX9_site_80 rfl rfl ?_
        refine zf_getI (q := 84) rfl dX9_site_81 lf_RX9_140 (sm0 hG) rfl ?_
        refine zf_iconst (q := 85) rfl dX9_site_84 ic0 ?_
        obtain ⟨s9, es9, h⟩ := zb h
        refine zf_iast (q := 86) rfl dX9_site_85 (sm8 hG) es9 ?_
        refine zf_aload_n 0 (q := 87) (j := 0) rfl dX9_site_86 rfl rfl ?_
        refine zf_getR (q := 90) rfl dX9_site_87 lf_RX9_35 (sm0 hG) rfl ?_
        refine zf_aload_n 0 (q := 91) (j := 0) rfl dX9_site_90 rfl rfl ?_
        refine zf_getI (q := 94) rfl dX9_site_91 lf_RX9_140 (sm0 hG) rfl ?_
        refine zf_iconst (q := 95) rfl dX9_site_94 ic0 ?_
        obtain ⟨s10, es10, h⟩ := zb h
        refine zf_zast (q := 96) rfl dX9_site_95 (sm9 hG) es10 ?_
        refine zf_aload_n 0 (q := 97) (j := 0) rfl dX9_site_96 rfl rfl ?_
        refine zf_getR (q := 100) rfl dX9_site_97 lf_RX9_41 (sm0 hG) rfl ?_
        refine zf_aload_n 0 (q := 101) (j := 0) rfl dX9_site_100 rfl rfl ?_
        refine zf_getI (q := 104) rfl dX9_site_101 lf_RX9_140 (sm0 hG) rfl ?_
        refine zf_bipush (q := 106) rfl dX9_site_104 bpm9 ?_
        obtain ⟨s11, es11, h⟩ := zb h
        refine zf_iast (q := 107) rfl dX9_site_106 (sm11 hG) es11 ?_
        refine zf_aload_n 0 (q := 108) (j := 0) rfl dX9_site_107 rfl rfl ?_
        refine zf_dup (q := 109) rfl dX9_site_108 rfl ?_
        refine zf_getI (q := 112) rfl dX9_site_109 lf_RX9_140 (sm0 hG) rfl ?_
        refine zf_iconst (q := 113) rfl dX9_site_112 ic1 ?_
        refine zf_iadd (q := 114) rfl dX9_site_113 ?_
        obtain ⟨s12, es12, h⟩ := zb h
        refine zf_putI (q := 117) rfl dX9_site_114 lp_RX9_140 (sm0 hG) rfl es12 ?_
        refine zf_aload_n 0 (q := 118) (j := 0) rfl dX9_site_117 rfl rfl ?_
        refine zf_getI (q := 121) rfl dX9_site_118 lf_RX9_140 (sm0 hG) rfl ?_
        refine zf_iconst (q := 122) rfl dX9_site_121 ic1 ?_
        refine zf_isub (q := 123) rfl dX9_site_122 ?_
        cases h
        exact zf_ireturn dX9_site_123 rfl
      · replace h := (zi h).1 hc30
        refine zf_bipush (q := 35) rfl dX9_site_33 bpm4 ?_
        cases h
        exact zf_ireturn dX9_site_35 rfl
    · replace h := (zi h).1 hc19
      refine zf_bipush (q := 24) rfl dX9_site_22 bpm2 ?_
      cases h
      exact zf_ireturn dX9_site_24 rfl
  · replace h := (zi h).1 hc5
    refine zf_iconst (q := 9) rfl dX9_site_8 icm1 ?_
    cases h
    exact zf_ireturn dX9_site_9 rfl
