-- ===== X9_room: NearCopiesModel.room(II)I
def f_X9_room (N : Nat) (x1 : Int32) (x2 : Int32) (σ : ZM) : Option (Int32 × ZM) :=
  zbd (f_X9_isSite N x1 σ) fun r1 s2 =>
  if r1 = 0 then
  (some ((-1 : Int32), s2))
  else
  (zbd (f_X9_in N (Int32.toInt64 x2) (0 : Int64) (100000 : Int64) s2) fun r3 s4 =>
  if r3 = 0 then
  (some ((-2 : Int32), s4))
  else
  ((zald s4 5 4 x1).bind fun v5 =>
  (zast s4 5 4 x1 x2).bind fun s6 =>
  some (v5, s6)))
set_option maxRecDepth 100000 in
theorem ok_X9_room {G : ZG} (hG : zSH G = shM) (N : Nat) {d : Nat} (hd : 2 ≤ d) {x1 : Int32} {x2 : Int32} {σ : ZM} {res : Int32 × ZM} (h : f_X9_room N x1 x2 σ = some res) : zCt G d MX9_room [.ref (zad G 0), .int x1, .int x2] σ (some (.int res.1)) res.2 := by
  obtain ⟨d, rfl⟩ : ∃ k, d = k + 1 := ⟨d - 1, by omega⟩
  have hd : 1 ≤ d := by omega
  refine zct_of (by decide) (Nat.le_of_ble_eq_true rfl) (lv := [(0, .ref (zad G 0)), (1, .int x1), (2, .int x2)]) rfl ?_
  unfold f_X9_room at h
  refine zf_aload_n 0 (q := 1) (j := 0) rfl dX9_room_0 rfl rfl ?_
  refine zf_iload_n 1 (q := 2) (j := 1) rfl dX9_room_1 rfl rfl ?_
  obtain ⟨r1, s2, es2, h⟩ := zc h
  refine zf_callV (q := 5) (As := [.int x1]) (rest := []) (st1 := [.int r1]) rfl dX9_room_2 lv_RX9_160 (sm0 hG) rfl rfl (Nat.le_of_ble_eq_true rfl) (ok_X9_isSite hG N (Nat.le_trans (by decide) hd) es2) rfl ?_
  refine zf_if_ne (q := 8) (tgt := 10) rfl (by decide) dX9_room_5 (fun hc5 => ?_) (fun hc5 => ?_)
  · replace h := (zi h).2 hc5
    refine zf_iload_n 2 (q := 11) (j := 2) rfl dX9_room_10 rfl rfl ?_
    refine zf_i2l (q := 12) rfl dX9_room_11 ?_
    refine zf_lconst (q := 13) (v := 0) rfl dX9_room_12 (by decide) ?_
    refine zf_ldc2 (q := 16) rfl dX9_room_13 cl_RX9_158 ?_
    obtain ⟨r3, s4, es4, h⟩ := zc h
    refine zf_callS (q := 19) (As := [.long (Int32.toInt64 x2), .long (0 : Int64), .long (100000 : Int64)]) (rest := []) (st1 := [.int r3]) rfl dX9_room_16 ls_RX9_136 rfl rfl (Nat.le_of_ble_eq_true rfl) (ok_X9_in hG N (Nat.le_trans (by decide) hd) es4) rfl ?_
    refine zf_if_ne (q := 22) (tgt := 25) rfl (by decide) dX9_room_19 (fun hc19 => ?_) (fun hc19 => ?_)
    · replace h := (zi h).2 hc19
      refine zf_aload_n 0 (q := 26) (j := 0) rfl dX9_room_25 rfl rfl ?_
      refine zf_getR (q := 29) rfl dX9_room_26 lf_RX9_22 (sm0 hG) rfl ?_
      refine zf_iload_n 1 (q := 30) (j := 1) rfl dX9_room_29 rfl rfl ?_
      obtain ⟨v5, ev5, h⟩ := zb h
      refine zf_iald (q := 31) rfl dX9_room_30 (sm5 hG) ev5 ?_
      refine zf_istore_n (q := 32) (y := v5) (i := 3) (lv1 := [(3, .int v5), (0, .ref (zad G 0)), (1, .int x1), (2, .int x2)]) rfl dX9_room_31 rfl (by decide) rfl rfl ?_
      refine zf_aload_n 1 (q := 33) (j := 0) rfl dX9_room_32 rfl rfl ?_
      refine zf_getR (q := 36) rfl dX9_room_33 lf_RX9_22 (sm0 hG) rfl ?_
      refine zf_iload_n 2 (q := 37) (j := 1) rfl dX9_room_36 rfl rfl ?_
      refine zf_iload_n 3 (q := 38) (j := 2) rfl dX9_room_37 rfl rfl ?_
      obtain ⟨s6, es6, h⟩ := zb h
      refine zf_iast (q := 39) rfl dX9_room_38 (sm5 hG) es6 ?_
      refine zf_iload_n 0 (q := 40) (j := 3) rfl dX9_room_39 rfl rfl ?_
      cases h
      exact zf_ireturn dX9_room_40 rfl
    · replace h := (zi h).1 hc19
      refine zf_bipush (q := 24) rfl dX9_room_22 bpm2 ?_
      cases h
      exact zf_ireturn dX9_room_24 rfl
  · replace h := (zi h).1 hc5
    refine zf_iconst (q := 9) rfl dX9_room_8 icm1 ?_
    cases h
    exact zf_ireturn dX9_room_9 rfl
-- ===== X9_up: NearCopiesModel.up(IZ)I
def f_X9_up_24 (N : Nat) (x1 : Int32) (x2 : Int32) (y0 : Int32) (σ : ZM) : Option (Int32 × ZM) :=
  (zasZ σ 6 4 x1 x2).bind fun s1 =>
  some (y0, s1)
set_option maxRecDepth 100000 in
theorem ok_X9_up_24 {G : ZG} (hG : zSH G = shM) (N : Nat) {d : Nat} (hd : 1 ≤ d) {res : Int32 × ZM} {x1 : Int32} {x2 : Int32} {y0 : Int32} {σ : ZM} (h : f_X9_up_24 N x1 x2 y0 σ = some res) : zF G MX9_up (d + 1) 24 [(0, .ref (zad G 0)), (1, .int x1), (2, .int x2)] [.int y0] σ (some (.int res.1)) res.2 := by
  unfold f_X9_up_24 at h
  refine zf_istore_n (q := 25) (y := y0) (i := 3) (lv1 := [(3, .int y0), (0, .ref (zad G 0)), (1, .int x1), (2, .int x2)]) rfl dX9_up_24 rfl (by decide) rfl rfl ?_
  refine zf_aload_n 1 (q := 26) (j := 0) rfl dX9_up_25 rfl rfl ?_
  refine zf_getR (q := 29) rfl dX9_up_26 lf_RX9_25 (sm0 hG) rfl ?_
  refine zf_iload_n 2 (q := 30) (j := 1) rfl dX9_up_29 rfl rfl ?_
  refine zf_iload_n 3 (q := 31) (j := 2) rfl dX9_up_30 rfl rfl ?_
  obtain ⟨s1, es1, h⟩ := zb h
  refine zf_zast (q := 32) rfl dX9_up_31 (sm6 hG) es1 ?_
  refine zf_iload_n 0 (q := 33) (j := 3) rfl dX9_up_32 rfl rfl ?_
  cases h
  exact zf_ireturn dX9_up_33 rfl
def f_X9_up (N : Nat) (x1 : Int32) (x2 : Int32) (σ : ZM) : Option (Int32 × ZM) :=
  zbd (f_X9_isSite N x1 σ) fun r2 s3 =>
  if r2 = 0 then
  (some ((-1 : Int32), s3))
  else
  ((zald s3 6 4 x1).bind fun v4 =>
  if v4 = 0 then
  (f_X9_up_24 N x1 x2 (0 : Int32) s3)
  else
  (f_X9_up_24 N x1 x2 (1 : Int32) s3))
set_option maxRecDepth 100000 in
theorem ok_X9_up {G : ZG} (hG : zSH G = shM) (N : Nat) {d : Nat} (hd : 2 ≤ d) {x1 : Int32} {x2 : Int32} {σ : ZM} {res : Int32 × ZM} (h : f_X9_up N x1 x2 σ = some res) : zCt G d MX9_up [.ref (zad G 0), .int x1, .int x2] σ (some (.int res.1)) res.2 := by
  obtain ⟨d, rfl⟩ : ∃ k, d = k + 1 := ⟨d - 1, by omega⟩
  have hd : 1 ≤ d := by omega
  refine zct_of (by decide) (Nat.le_of_ble_eq_true rfl) (lv := [(0, .ref (zad G 0)), (1, .int x1), (2, .int x2)]) rfl ?_
  unfold f_X9_up at h
  refine zf_aload_n 0 (q := 1) (j := 0) rfl dX9_up_0 rfl rfl ?_
  refine zf_iload_n 1 (q := 2) (j := 1) rfl dX9_up_1 rfl rfl ?_
  obtain ⟨r2, s3, es3, h⟩ := zc h
  refine zf_callV (q := 5) (As := [.int x1]) (rest := []) (st1 := [.int r2]) rfl dX9_up_2 lv_RX9_160 (sm0 hG) rfl rfl (Nat.le_of_ble_eq_true rfl) (ok_X9_isSite hG N (Nat.le_trans (by decide) hd) es3) rfl ?_
  refine zf_if_ne (q := 8) (tgt := 10) rfl (by decide) dX9_up_5 (fun hc5 => ?_) (fun hc5 => ?_)
  · replace h := (zi h).2 hc5
    refine zf_aload_n 0 (q := 11) (j := 0) rfl dX9_up_10 rfl rfl ?_
    refine zf_getR (q := 14) rfl dX9_up_11 lf_RX9_25 (sm0 hG) rfl ?_
    refine zf_iload_n 1 (q := 15) (j := 1) rfl dX9_up_14 rfl rfl ?_
    obtain ⟨v4, ev4, h⟩ := zb h
    refine zf_zald (q := 16) rfl dX9_up_15 (sm6 hG) ev4 ?_
    refine zf_if_eq (q := 19) (tgt := 23) rfl (by decide) dX9_up_16 (fun hc16 => ?_) (fun hc16 => ?_)
    · replace h := (zi h).1 hc16
      refine zf_iconst (q := 24) rfl dX9_up_23 ic0 ?_
      exact zf_sub [0, 1, 2] rfl (ok_X9_up_24 hG N hd h)
    · replace h := (zi h).2 hc16
      refine zf_iconst (q := 20) rfl dX9_up_19 ic1 ?_
      refine zf_goto (tgt := 24) (by decide) dX9_up_20 ?_
      exact zf_sub [0, 1, 2] rfl (ok_X9_up_24 hG N hd h)
  · replace h := (zi h).1 hc5
    refine zf_iconst (q := 9) rfl dX9_up_8 icm1 ?_
    cases h
    exact zf_ireturn dX9_up_9 rfl
-- ===== X9_kind: NearCopiesModel.kind(II)I
def f_X9_kind (N : Nat) (x1 : Int32) (x2 : Int32) (σ : ZM) : Option (Int32 × ZM) :=
  zbd (f_X9_isSite N x1 σ) fun r1 s2 =>
  if r1 = 0 then
  (some ((-1 : Int32), s2))
  else
  (zbd (f_X9_in N (Int32.toInt64 x2) (0 : Int64) (4 : Int64) s2) fun r3 s4 =>
  if r3 = 0 then
  (some ((-2 : Int32), s4))
  else
  ((zald s4 7 4 x1).bind fun v5 =>
  (zast s4 7 4 x1 x2).bind fun s6 =>
  some (v5, s6)))
set_option maxRecDepth 100000 in
theorem ok_X9_kind {G : ZG} (hG : zSH G = shM) (N : Nat) {d : Nat} (hd : 2 ≤ d) {x1 : Int32} {x2 : Int32} {σ : ZM} {res : Int32 × ZM} (h : f_X9_kind N x1 x2 σ = some res) : zCt G d MX9_kind [.ref (zad G 0), .int x1, .int x2] σ (some (.int res.1)) res.2 := by
  obtain ⟨d, rfl⟩ : ∃ k, d = k + 1 := ⟨d - 1, by omega⟩
  have hd : 1 ≤ d := by omega
  refine zct_of (by decide) (Nat.le_of_ble_eq_true rfl) (lv := [(0, .ref (zad G 0)), (1, .int x1), (2, .int x2)]) rfl ?_
  unfold f_X9_kind at h
  refine zf_aload_n 0 (q := 1) (j := 0) rfl dX9_kind_0 rfl rfl ?_
  refine zf_iload_n 1 (q := 2) (j := 1) rfl dX9_kind_1 rfl rfl ?_
  obtain ⟨r1, s2, es2, h⟩ := zc h
  refine zf_callV (q := 5) (As := [.int x1]) (rest := []) (st1 := [.int r1]) rfl dX9_kind_2 lv_RX9_160 (sm0 hG) rfl rfl (Nat.le_of_ble_eq_true rfl) (ok_X9_isSite hG N (Nat.le_trans (by decide) hd) es2) rfl ?_
  refine zf_if_ne (q := 8) (tgt := 10) rfl (by decide) dX9_kind_5 (fun hc5 => ?_) (fun hc5 => ?_)
  · replace h := (zi h).2 hc5
    refine zf_iload_n 2 (q := 11) (j := 2) rfl dX9_kind_10 rfl rfl ?_
    refine zf_i2l (q := 12) rfl dX9_kind_11 ?_
    refine zf_lconst (q := 13) (v := 0) rfl dX9_kind_12 (by decide) ?_
    refine zf_ldc2 (q := 16) rfl dX9_kind_13 cl_RX9_163 ?_
    obtain ⟨r3, s4, es4, h⟩ := zc h
    refine zf_callS (q := 19) (As := [.long (Int32.toInt64 x2), .long (0 : Int64), .long (4 : Int64)]) (rest := []) (st1 := [.int r3]) rfl dX9_kind_16 ls_RX9_136 rfl rfl (Nat.le_of_ble_eq_true rfl) (ok_X9_in hG N (Nat.le_trans (by decide) hd) es4) rfl ?_
    refine zf_if_ne (q := 22) (tgt := 25) rfl (by decide) dX9_kind_19 (fun hc19 => ?_) (fun hc19 => ?_)
    · replace h := (zi h).2 hc19
      refine zf_aload_n 0 (q := 26) (j := 0) rfl dX9_kind_25 rfl rfl ?_
      refine zf_getR (q := 29) rfl dX9_kind_26 lf_RX9_29 (sm0 hG) rfl ?_
      refine zf_iload_n 1 (q := 30) (j := 1) rfl dX9_kind_29 rfl rfl ?_
      obtain ⟨v5, ev5, h⟩ := zb h
      refine zf_iald (q := 31) rfl dX9_kind_30 (sm7 hG) ev5 ?_
      refine zf_istore_n (q := 32) (y := v5) (i := 3) (lv1 := [(3, .int v5), (0, .ref (zad G 0)), (1, .int x1), (2, .int x2)]) rfl dX9_kind_31 rfl (by decide) rfl rfl ?_
      refine zf_aload_n 1 (q := 33) (j := 0) rfl dX9_kind_32 rfl rfl ?_
      refine zf_getR (q := 36) rfl dX9_kind_33 lf_RX9_29 (sm0 hG) rfl ?_
      refine zf_iload_n 2 (q := 37) (j := 1) rfl dX9_kind_36 rfl rfl ?_
      refine zf_iload_n 3 (q := 38) (j := 2) rfl dX9_kind_37 rfl rfl ?_
      obtain ⟨s6, es6, h⟩ := zb h
      refine zf_iast (q := 39) rfl dX9_kind_38 (sm7 hG) es6 ?_
      refine zf_iload_n 0 (q := 40) (j := 3) rfl dX9_kind_39 rfl rfl ?_
      cases h
      exact zf_ireturn dX9_kind_40 rfl
    · replace h := (zi h).1 hc19
      refine zf_bipush (q := 24) rfl dX9_kind_22 bpm2 ?_
      cases h
      exact zf_ireturn dX9_kind_24 rfl
  · replace h := (zi h).1 hc5
    refine zf_iconst (q := 9) rfl dX9_kind_8 icm1 ?_
    cases h
    exact zf_ireturn dX9_kind_9 rfl
-- ===== X9_held: NearCopiesModel.held(II)I
def f_X9_held (N : Nat) (x1 : Int32) (x2 : Int32) (σ : ZM) : Option (Int32 × ZM) :=
  zbd (f_X9_isSite N x1 σ) fun r1 s2 =>
  if r1 = 0 then
  (some ((-1 : Int32), s2))
  else
  (zbd (f_X9_in N (Int32.toInt64 x2) (0 : Int64) (Int32.toInt64 (((1 : Int32) <<< ((s2.1 0 0) &&& 31)) - (1 : Int32))) s2) fun r3 s4 =>
  if r3 = 0 then
  (some ((-2 : Int32), s4))
  else
  ((zald s4 8 4 x1).bind fun v5 =>
  (zast s4 8 4 x1 x2).bind fun s6 =>
  some (v5, s6)))
set_option maxRecDepth 100000 in
theorem ok_X9_held {G : ZG} (hG : zSH G = shM) (N : Nat) {d : Nat} (hd : 2 ≤ d) {x1 : Int32} {x2 : Int32} {σ : ZM} {res : Int32 × ZM} (h : f_X9_held N x1 x2 σ = some res) : zCt G d MX9_held [.ref (zad G 0), .int x1, .int x2] σ (some (.int res.1)) res.2 := by
  obtain ⟨d, rfl⟩ : ∃ k, d = k + 1 := ⟨d - 1, by omega⟩
  have hd : 1 ≤ d := by omega
  refine zct_of (by decide) (Nat.le_of_ble_eq_true rfl) (lv := [(0, .ref (zad G 0)), (1, .int x1), (2, .int x2)]) rfl ?_
  unfold f_X9_held at h
  refine zf_aload_n 0 (q := 1) (j := 0) rfl dX9_held_0 rfl rfl ?_
  refine zf_iload_n 1 (q := 2) (j := 1) rfl dX9_held_1 rfl rfl ?_
  obtain ⟨r1, s2, es2, h⟩ := zc h
  refine zf_callV (q := 5) (As := [.int x1]) (rest := []) (st1 := [.int r1]) rfl dX9_held_2 lv_RX9_160 (sm0 hG) rfl rfl (Nat.le_of_ble_eq_true rfl) (ok_X9_isSite hG N (Nat.le_trans (by decide) hd) es2) rfl ?_
  refine zf_if_ne (q := 8) (tgt := 10) rfl (by decide) dX9_held_5 (fun hc5 => ?_) (fun hc5 => ?_)
  · replace h := (zi h).2 hc5
    refine zf_iload_n 2 (q := 11) (j := 2) rfl dX9_held_10 rfl rfl ?_
    refine zf_i2l (q := 12) rfl dX9_held_11 ?_
    refine zf_lconst (q := 13) (v := 0) rfl dX9_held_12 (by decide) ?_
    refine zf_iconst (q := 14) rfl dX9_held_13 ic1 ?_
    refine zf_aload_n 0 (q := 15) (j := 0) rfl dX9_held_14 rfl rfl ?_
    refine zf_getI (q := 18) rfl dX9_held_15 lf_RX9_132 (sm0 hG) rfl ?_
    refine zf_ishl (q := 19) rfl dX9_held_18 ?_
    refine zf_iconst (q := 20) rfl dX9_held_19 ic1 ?_
    refine zf_isub (q := 21) rfl dX9_held_20 ?_
    refine zf_i2l (q := 22) rfl dX9_held_21 ?_
    obtain ⟨r3, s4, es4, h⟩ := zc h
    refine zf_callS (q := 25) (As := [.long (Int32.toInt64 x2), .long (0 : Int64), .long (Int32.toInt64 (((1 : Int32) <<< ((s2.1 0 0) &&& 31)) - (1 : Int32)))]) (rest := []) (st1 := [.int r3]) rfl dX9_held_22 ls_RX9_136 rfl rfl (Nat.le_of_ble_eq_true rfl) (ok_X9_in hG N (Nat.le_trans (by decide) hd) es4) rfl ?_
    refine zf_if_ne (q := 28) (tgt := 31) rfl (by decide) dX9_held_25 (fun hc25 => ?_) (fun hc25 => ?_)
    · replace h := (zi h).2 hc25
      refine zf_aload_n 0 (q := 32) (j := 0) rfl dX9_held_31 rfl rfl ?_
      refine zf_getR (q := 35) rfl dX9_held_32 lf_RX9_32 (sm0 hG) rfl ?_
      refine zf_iload_n 1 (q := 36) (j := 1) rfl dX9_held_35 rfl rfl ?_
      obtain ⟨v5, ev5, h⟩ := zb h
      refine zf_iald (q := 37) rfl dX9_held_36 (sm8 hG) ev5 ?_
      refine zf_istore_n (q := 38) (y := v5) (i := 3) (lv1 := [(3, .int v5), (0, .ref (zad G 0)), (1, .int x1), (2, .int x2)]) rfl dX9_held_37 rfl (by decide) rfl rfl ?_
      refine zf_aload_n 1 (q := 39) (j := 0) rfl dX9_held_38 rfl rfl ?_
      refine zf_getR (q := 42) rfl dX9_held_39 lf_RX9_32 (sm0 hG) rfl ?_
      refine zf_iload_n 2 (q := 43) (j := 1) rfl dX9_held_42 rfl rfl ?_
      refine zf_iload_n 3 (q := 44) (j := 2) rfl dX9_held_43 rfl rfl ?_
      obtain ⟨s6, es6, h⟩ := zb h
      refine zf_iast (q := 45) rfl dX9_held_44 (sm8 hG) es6 ?_
      refine zf_iload_n 0 (q := 46) (j := 3) rfl dX9_held_45 rfl rfl ?_
      cases h
      exact zf_ireturn dX9_held_46 rfl
    · replace h := (zi h).1 hc25
      refine zf_bipush (q := 30) rfl dX9_held_28 bpm2 ?_
      cases h
      exact zf_ireturn dX9_held_30 rfl
  · replace h := (zi h).1 hc5
    refine zf_iconst (q := 9) rfl dX9_held_8 icm1 ?_
    cases h
    exact zf_ireturn dX9_held_9 rfl
-- ===== X9_near: NearCopiesModel.near(IZ)I
def f_X9_near_24 (N : Nat) (x1 : Int32) (x2 : Int32) (y0 : Int32) (σ : ZM) : Option (Int32 × ZM) :=
  (zasZ σ 9 4 x1 x2).bind fun s1 =>
  some (y0, s1)
set_option maxRecDepth 100000 in
theorem ok_X9_near_24 {G : ZG} (hG : zSH G = shM) (N : Nat) {d : Nat} (hd : 1 ≤ d) {res : Int32 × ZM} {x1 : Int32} {x2 : Int32} {y0 : Int32} {σ : ZM} (h : f_X9_near_24 N x1 x2 y0 σ = some res) : zF G MX9_near (d + 1) 24 [(0, .ref (zad G 0)), (1, .int x1), (2, .int x2)] [.int y0] σ (some (.int res.1)) res.2 := by
  unfold f_X9_near_24 at h
  refine zf_istore_n (q := 25) (y := y0) (i := 3) (lv1 := [(3, .int y0), (0, .ref (zad G 0)), (1, .int x1), (2, .int x2)]) rfl dX9_near_24 rfl (by decide) rfl rfl ?_
  refine zf_aload_n 1 (q := 26) (j := 0) rfl dX9_near_25 rfl rfl ?_
  refine zf_getR (q := 29) rfl dX9_near_26 lf_RX9_35 (sm0 hG) rfl ?_
  refine zf_iload_n 2 (q := 30) (j := 1) rfl dX9_near_29 rfl rfl ?_
  refine zf_iload_n 3 (q := 31) (j := 2) rfl dX9_near_30 rfl rfl ?_
  obtain ⟨s1, es1, h⟩ := zb h
  refine zf_zast (q := 32) rfl dX9_near_31 (sm9 hG) es1 ?_
  refine zf_iload_n 0 (q := 33) (j := 3) rfl dX9_near_32 rfl rfl ?_
  cases h
  exact zf_ireturn dX9_near_33 rfl
def f_X9_near (N : Nat) (x1 : Int32) (x2 : Int32) (σ : ZM) : Option (Int32 × ZM) :=
  zbd (f_X9_isSite N x1 σ) fun r2 s3 =>
  if r2 = 0 then
  (some ((-1 : Int32), s3))
  else
  ((zald s3 9 4 x1).bind fun v4 =>
  if v4 = 0 then
  (f_X9_near_24 N x1 x2 (0 : Int32) s3)
  else
  (f_X9_near_24 N x1 x2 (1 : Int32) s3))
set_option maxRecDepth 100000 in
theorem ok_X9_near {G : ZG} (hG : zSH G = shM) (N : Nat) {d : Nat} (hd : 2 ≤ d) {x1 : Int32} {x2 : Int32} {σ : ZM} {res : Int32 × ZM} (h : f_X9_near N x1 x2 σ = some res) : zCt G d MX9_near [.ref (zad G 0), .int x1, .int x2] σ (some (.int res.1)) res.2 := by
  obtain ⟨d, rfl⟩ : ∃ k, d = k + 1 := ⟨d - 1, by omega⟩
  have hd : 1 ≤ d := by omega
  refine zct_of (by decide) (Nat.le_of_ble_eq_true rfl) (lv := [(0, .ref (zad G 0)), (1, .int x1), (2, .int x2)]) rfl ?_
  unfold f_X9_near at h
  refine zf_aload_n 0 (q := 1) (j := 0) rfl dX9_near_0 rfl rfl ?_
  refine zf_iload_n 1 (q := 2) (j := 1) rfl dX9_near_1 rfl rfl ?_
  obtain ⟨r2, s3, es3, h⟩ := zc h
  refine zf_callV (q := 5) (As := [.int x1]) (rest := []) (st1 := [.int r2]) rfl dX9_near_2 lv_RX9_160 (sm0 hG) rfl rfl (Nat.le_of_ble_eq_true rfl) (ok_X9_isSite hG N (Nat.le_trans (by decide) hd) es3) rfl ?_
  refine zf_if_ne (q := 8) (tgt := 10) rfl (by decide) dX9_near_5 (fun hc5 => ?_) (fun hc5 => ?_)
  · replace h := (zi h).2 hc5
    refine zf_aload_n 0 (q := 11) (j := 0) rfl dX9_near_10 rfl rfl ?_
    refine zf_getR (q := 14) rfl dX9_near_11 lf_RX9_35 (sm0 hG) rfl ?_
    refine zf_iload_n 1 (q := 15) (j := 1) rfl dX9_near_14 rfl rfl ?_
    obtain ⟨v4, ev4, h⟩ := zb h
    refine zf_zald (q := 16) rfl dX9_near_15 (sm9 hG) ev4 ?_
    refine zf_if_eq (q := 19) (tgt := 23) rfl (by decide) dX9_near_16 (fun hc16 => ?_) (fun hc16 => ?_)
    · replace h := (zi h).1 hc16
      refine zf_iconst (q := 24) rfl dX9_near_23 ic0 ?_
      exact zf_sub [0, 1, 2] rfl (ok_X9_near_24 hG N hd h)
    · replace h := (zi h).2 hc16
      refine zf_iconst (q := 20) rfl dX9_near_19 ic1 ?_
      refine zf_goto (tgt := 24) (by decide) dX9_near_20 ?_
      exact zf_sub [0, 1, 2] rfl (ok_X9_near_24 hG N hd h)
  · replace h := (zi h).1 hc5
    refine zf_iconst (q := 9) rfl dX9_near_8 icm1 ?_
    cases h
    exact zf_ireturn dX9_near_9 rfl
-- ===== X9_late: NearCopiesModel.late(III)I
def f_X9_late (N : Nat) (x1 : Int32) (x2 : Int32) (x3 : Int32) (σ : ZM) : Option (Int32 × ZM) :=
  zbd (f_X9_isNet N x1 σ) fun r1 s2 =>
  if r1 = 0 then
  (some ((-1 : Int32), s2))
  else
  (zbd (f_X9_isSite N x2 s2) fun r3 s4 =>
  if r3 = 0 then
  (some ((-1 : Int32), s4))
  else
  (zbd (f_X9_in N (Int32.toInt64 x3) (0 : Int64) (999 : Int64) s4) fun r5 s6 =>
  if r5 = 0 then
  (some ((-2 : Int32), s6))
  else
  ((zald s6 10 40 (((4 : Int32) * x1) + x2)).bind fun v7 =>
  (zast s6 10 40 (((4 : Int32) * x1) + x2) x3).bind fun s8 =>
  some (v7, s8))))
set_option maxRecDepth 100000 in
theorem ok_X9_late {G : ZG} (hG : zSH G = shM) (N : Nat) {d : Nat} (hd : 2 ≤ d) {x1 : Int32} {x2 : Int32} {x3 : Int32} {σ : ZM} {res : Int32 × ZM} (h : f_X9_late N x1 x2 x3 σ = some res) : zCt G d MX9_late [.ref (zad G 0), .int x1, .int x2, .int x3] σ (some (.int res.1)) res.2 := by
  obtain ⟨d, rfl⟩ : ∃ k, d = k + 1 := ⟨d - 1, by omega⟩
  have hd : 1 ≤ d := by omega
  refine zct_of (by decide) (Nat.le_of_ble_eq_true rfl) (lv := [(0, .ref (zad G 0)), (1, .int x1), (2, .int x2), (3, .int x3)]) rfl ?_
  unfold f_X9_late at h
  refine zf_aload_n 0 (q := 1) (j := 0) rfl dX9_late_0 rfl rfl ?_
  refine zf_iload_n 1 (q := 2) (j := 1) rfl dX9_late_1 rfl rfl ?_
  obtain ⟨r1, s2, es2, h⟩ := zc h
  refine zf_callV (q := 5) (As := [.int x1]) (rest := []) (st1 := [.int r1]) rfl dX9_late_2 lv_RX9_145 (sm0 hG) rfl rfl (Nat.le_of_ble_eq_true rfl) (ok_X9_isNet hG N (Nat.le_trans (by decide) hd) es2) rfl ?_
  refine zf_if_eq (q := 8) (tgt := 16) rfl (by decide) dX9_late_5 (fun hc5 => ?_) (fun hc5 => ?_)
  · replace h := (zi h).1 hc5
    refine zf_iconst (q := 17) rfl dX9_late_16 icm1 ?_
    cases h
    exact zf_ireturn dX9_late_17 rfl
  · replace h := (zi h).2 hc5
    refine zf_aload_n 0 (q := 9) (j := 0) rfl dX9_late_8 rfl rfl ?_
    refine zf_iload_n 2 (q := 10) (j := 2) rfl dX9_late_9 rfl rfl ?_
    obtain ⟨r3, s4, es4, h⟩ := zc h
    refine zf_callV (q := 13) (As := [.int x2]) (rest := []) (st1 := [.int r3]) rfl dX9_late_10 lv_RX9_160 (sm0 hG) rfl rfl (Nat.le_of_ble_eq_true rfl) (ok_X9_isSite hG N (Nat.le_trans (by decide) hd) es4) rfl ?_
    refine zf_if_ne (q := 16) (tgt := 18) rfl (by decide) dX9_late_13 (fun hc13 => ?_) (fun hc13 => ?_)
    · replace h := (zi h).2 hc13
      refine zf_iload_n 3 (q := 19) (j := 3) rfl dX9_late_18 rfl rfl ?_
      refine zf_i2l (q := 20) rfl dX9_late_19 ?_
      refine zf_lconst (q := 21) (v := 0) rfl dX9_late_20 (by decide) ?_
      refine zf_ldc2 (q := 24) rfl dX9_late_21 cl_RX9_165 ?_
      obtain ⟨r5, s6, es6, h⟩ := zc h
      refine zf_callS (q := 27) (As := [.long (Int32.toInt64 x3), .long (0 : Int64), .long (999 : Int64)]) (rest := []) (st1 := [.int r5]) rfl dX9_late_24 ls_RX9_136 rfl rfl (Nat.le_of_ble_eq_true rfl) (ok_X9_in hG N (Nat.le_trans (by decide) hd) es6) rfl ?_
      refine zf_if_ne (q := 30) (tgt := 33) rfl (by decide) dX9_late_27 (fun hc27 => ?_) (fun hc27 => ?_)
      · replace h := (zi h).2 hc27
        refine zf_aload_n 0 (q := 34) (j := 0) rfl dX9_late_33 rfl rfl ?_
        refine zf_getR (q := 37) rfl dX9_late_34 lf_RX9_38 (sm0 hG) rfl ?_
        refine zf_iconst (q := 38) rfl dX9_late_37 ic4 ?_
        refine zf_iload_n 1 (q := 39) (j := 1) rfl dX9_late_38 rfl rfl ?_
        refine zf_imul (q := 40) rfl dX9_late_39 ?_
        refine zf_iload_n 2 (q := 41) (j := 2) rfl dX9_late_40 rfl rfl ?_
        refine zf_iadd (q := 42) rfl dX9_late_41 ?_
        obtain ⟨v7, ev7, h⟩ := zb h
        refine zf_iald (q := 43) rfl dX9_late_42 (sm10 hG) ev7 ?_
        refine zf_istore (q := 45) (y := v7) (i := 4) (lv1 := [(4, .int v7), (0, .ref (zad G 0)), (1, .int x1), (2, .int x2), (3, .int x3)]) rfl dX9_late_43 (by decide) rfl rfl ?_
        refine zf_aload_n 1 (q := 46) (j := 0) rfl dX9_late_45 rfl rfl ?_
        refine zf_getR (q := 49) rfl dX9_late_46 lf_RX9_38 (sm0 hG) rfl ?_
        refine zf_iconst (q := 50) rfl dX9_late_49 ic4 ?_
        refine zf_iload_n 2 (q := 51) (j := 1) rfl dX9_late_50 rfl rfl ?_
        refine zf_imul (q := 52) rfl dX9_late_51 ?_
        refine zf_iload_n 3 (q := 53) (j := 2) rfl dX9_late_52 rfl rfl ?_
        refine zf_iadd (q := 54) rfl dX9_late_53 ?_
        refine zf_iload_n 4 (q := 55) (j := 3) rfl dX9_late_54 rfl rfl ?_
        obtain ⟨s8, es8, h⟩ := zb h
        refine zf_iast (q := 56) rfl dX9_late_55 (sm10 hG) es8 ?_
        refine zf_iload 0 (q := 58) rfl dX9_late_56 rfl ?_
        cases h
        exact zf_ireturn dX9_late_58 rfl
      · replace h := (zi h).1 hc27
        refine zf_bipush (q := 32) rfl dX9_late_30 bpm2 ?_
        cases h
        exact zf_ireturn dX9_late_32 rfl
    · replace h := (zi h).1 hc13
      refine zf_iconst (q := 17) rfl dX9_late_16 icm1 ?_
      cases h
      exact zf_ireturn dX9_late_17 rfl
-- ===== X9_least: NearCopiesModel.least(I)I
def b_X9_least_2 (N : Nat) (rec2 : Int32 → Int32 → ZM → Option (Int32 × ZM)) (x0 : Int32) (x1 : Int32) (σ : ZM) : Option (Int32 × ZM) :=
  if ((x0 >>> (x1 &&& 31)) &&& (1 : Int32)) = 0 then
  ((some (x1 + (1 : Int32))).bind fun v1 =>
  rec2 x0 v1 σ)
  else
  (some (x1, σ))
set_option maxRecDepth 100000 in
theorem ok_b_X9_least_2 {G : ZG} (hG : zSH G = shM) (N : Nat) {d : Nat} {rec2 : Int32 → Int32 → ZM → Option (Int32 × ZM)} {res : Int32 × ZM} (hr2 : ∀ (x0 : Int32) (x1 : Int32) (σ : ZM), rec2 x0 x1 σ = some res → zF G MX9_least d 2 [(0, .int x0), (1, .int x1)] [] σ (some (.int res.1)) res.2) {x0 : Int32} {x1 : Int32} {σ : ZM} (h : b_X9_least_2 N rec2 x0 x1 σ = some res) : zF G MX9_least d 2 [(0, .int x0), (1, .int x1)] [] σ (some (.int res.1)) res.2 := by
  unfold b_X9_least_2 at h
  refine zf_iload_n 0 (q := 3) (j := 0) rfl dX9_least_2 rfl rfl ?_
  refine zf_iload_n 1 (q := 4) (j := 1) rfl dX9_least_3 rfl rfl ?_
  refine zf_ishr (q := 5) rfl dX9_least_4 ?_
  refine zf_iconst (q := 6) rfl dX9_least_5 ic1 ?_
  refine zf_iand (q := 7) rfl dX9_least_6 ?_
  refine zf_if_ne (q := 10) (tgt := 16) rfl (by decide) dX9_least_7 (fun hc7 => ?_) (fun hc7 => ?_)
  · replace h := (zi h).2 hc7
    refine zf_iload_n 1 (q := 17) (j := 1) rfl dX9_least_16 rfl rfl ?_
    cases h
    exact zf_ireturn dX9_least_17 rfl
  · replace h := (zi h).1 hc7
    obtain ⟨v1, ev1, h⟩ := zb h
    refine zf_iinc 1 (q := 13) (v := v1) (lv1 := [(1, .int v1), (0, .int x0)]) rfl dX9_least_10 rfl (by rw [ic1]; exact ev1) (by decide) rfl ?_
    refine zf_goto (tgt := 2) (by decide) dX9_least_13 ?_
    exact zf_sub [1, 0] rfl (hr2 _ _ _ h)
def f_X9_least_2 (N : Nat) : Nat → Int32 → Int32 → ZM → Option (Int32 × ZM)
  | 0, _, _, _ => none
  | n + 1, x0, x1, σ => b_X9_least_2 N (f_X9_least_2 N n) x0 x1 σ
theorem ok_X9_least_2 {G : ZG} (hG : zSH G = shM) (N : Nat) {d : Nat} {res : Int32 × ZM} : ∀ (n : Nat) (x0 : Int32) (x1 : Int32) (σ : ZM), f_X9_least_2 N n x0 x1 σ = some res → zF G MX9_least d 2 [(0, .int x0), (1, .int x1)] [] σ (some (.int res.1)) res.2 := by
  intro n
  induction n with
  | zero => intro x0 x1 σ h; exact absurd h (by simp [f_X9_least_2])
  | succ n ih => intro x0 x1 σ h; rw [f_X9_least_2] at h; exact ok_b_X9_least_2 hG N ih h
def f_X9_least (N : Nat) (x0 : Int32) (σ : ZM) : Option (Int32 × ZM) :=
  f_X9_least_2 N N x0 (0 : Int32) σ
set_option maxRecDepth 100000 in
theorem ok_X9_least {G : ZG} (hG : zSH G = shM) (N : Nat) {d : Nat} (hd : 0 ≤ d) {x0 : Int32} {σ : ZM} {res : Int32 × ZM} (h : f_X9_least N x0 σ = some res) : zCt G d MX9_least [.int x0] σ (some (.int res.1)) res.2 := by
  refine zct_of (by decide) (Nat.le_of_ble_eq_true rfl) (lv := [(0, .int x0)]) rfl ?_
  unfold f_X9_least at h
  refine zf_iconst (q := 1) rfl dX9_least_0 ic0 ?_
  refine zf_istore_n (q := 2) (y := (0 : Int32)) (i := 1) (lv1 := [(1, .int (0 : Int32)), (0, .int x0)]) rfl dX9_least_1 rfl (by decide) rfl rfl ?_
  exact zf_sub [1, 0] rfl (ok_X9_least_2 hG N _ _ _ _ h)
-- ===== X9_askNow: NearCopiesModel.askNow()V
def b_X9_askNow_71 (N : Nat) (rec71 : Int32 → ZM → Option (Unit × ZM)) (x1 : Int32) (σ : ZM) : Option (Unit × ZM) :=
  if (σ.1 0 0) ≤ x1 then
  (some ((), σ))
  else
  ((zald σ 3 10 x1).bind fun v1 =>
  zbd (f_X9_least N v1 σ) fun r2 s3 =>
  (zast s3 16 10 x1 r2).bind fun s4 =>
  (some (x1 + (1 : Int32))).bind fun v5 =>
  rec71 v5 s4)
set_option maxRecDepth 100000 in
theorem ok_b_X9_askNow_71 {G : ZG} (hG : zSH G = shM) (N : Nat) {d : Nat} (hd : 0 ≤ d) {rec71 : Int32 → ZM → Option (Unit × ZM)} {res : Unit × ZM} (hr71 : ∀ (x1 : Int32) (σ : ZM), rec71 x1 σ = some res → zF G MX9_askNow (d + 1) 71 [(0, .ref (zad G 0)), (1, .int x1)] [] σ none res.2) {x1 : Int32} {σ : ZM} (h : b_X9_askNow_71 N rec71 x1 σ = some res) : zF G MX9_askNow (d + 1) 71 [(0, .ref (zad G 0)), (1, .int x1)] [] σ none res.2 := by
  unfold b_X9_askNow_71 at h
  refine zf_iload_n 1 (q := 72) (j := 1) rfl dX9_askNow_71 rfl rfl ?_
  refine zf_aload_n 0 (q := 73) (j := 0) rfl dX9_askNow_72 rfl rfl ?_
  refine zf_getI (q := 76) rfl dX9_askNow_73 lf_RX9_132 (sm0 hG) rfl ?_
  refine zf_icmp_ge (q := 79) (tgt := 100) rfl (by decide) dX9_askNow_76 (fun hc76 => ?_) (fun hc76 => ?_)
  · replace h := (zi h).1 hc76
    cases h
    exact zf_return dX9_askNow_100 rfl
  · replace h := (zi h).2 hc76
    refine zf_aload_n 0 (q := 80) (j := 0) rfl dX9_askNow_79 rfl rfl ?_
    refine zf_getR (q := 83) rfl dX9_askNow_80 lf_RX9_56 (sm0 hG) rfl ?_
    refine zf_iload_n 1 (q := 84) (j := 1) rfl dX9_askNow_83 rfl rfl ?_
    refine zf_aload_n 0 (q := 85) (j := 0) rfl dX9_askNow_84 rfl rfl ?_
    refine zf_getR (q := 88) rfl dX9_askNow_85 lf_RX9_16 (sm0 hG) rfl ?_
    refine zf_iload_n 1 (q := 89) (j := 1) rfl dX9_askNow_88 rfl rfl ?_
    obtain ⟨v1, ev1, h⟩ := zb h
    refine zf_iald (q := 90) rfl dX9_askNow_89 (sm3 hG) ev1 ?_
    obtain ⟨r2, s3, es3, h⟩ := zc h
    refine zf_callS (q := 93) (As := [.int v1]) (rest := [.int x1, .ref (zad G 16)]) (st1 := [.int r2, .int x1, .ref (zad G 16)]) rfl dX9_askNow_90 ls_RX9_170 rfl rfl (Nat.le_of_ble_eq_true rfl) (ok_X9_least hG N (Nat.le_trans (by decide) hd) es3) rfl ?_
    obtain ⟨s4, es4, h⟩ := zb h
    refine zf_iast (q := 94) rfl dX9_askNow_93 (sm16 hG) es4 ?_
    obtain ⟨v5, ev5, h⟩ := zb h
    refine zf_iinc 1 (q := 97) (v := v5) (lv1 := [(1, .int v5), (0, .ref (zad G 0))]) rfl dX9_askNow_94 rfl (by rw [ic1]; exact ev5) (by decide) rfl ?_
    refine zf_goto (tgt := 71) (by decide) dX9_askNow_97 ?_
    exact zf_sub [1, 0] rfl (hr71 _ _ h)
def f_X9_askNow_71 (N : Nat) : Nat → Int32 → ZM → Option (Unit × ZM)
  | 0, _, _ => none
  | n + 1, x1, σ => b_X9_askNow_71 N (f_X9_askNow_71 N n) x1 σ
theorem ok_X9_askNow_71 {G : ZG} (hG : zSH G = shM) (N : Nat) {d : Nat} (hd : 0 ≤ d) {res : Unit × ZM} : ∀ (n : Nat) (x1 : Int32) (σ : ZM), f_X9_askNow_71 N n x1 σ = some res → zF G MX9_askNow (d + 1) 71 [(0, .ref (zad G 0)), (1, .int x1)] [] σ none res.2 := by
  intro n
  induction n with
  | zero => intro x1 σ h; exact absurd h (by simp [f_X9_askNow_71])
  | succ n ih => intro x1 σ h; rw [f_X9_askNow_71] at h; exact ok_b_X9_askNow_71 hG N hd ih h
def b_X9_askNow_10 (N : Nat) (rec10 : Int32 → ZM → Option (Unit × ZM)) (x1 : Int32) (σ : ZM) : Option (Unit × ZM) :=
  if (4 : Int32) ≤ x1 then
  (f_X9_askNow_71 N N (0 : Int32) σ)
  else
  ((zald σ 7 4 x1).bind fun v6 =>
  (zast σ 12 4 x1 v6).bind fun s7 =>
  (zald s7 8 4 x1).bind fun v8 =>
  (zast s7 13 4 x1 v8).bind fun s9 =>
  (zald s9 9 4 x1).bind fun v10 =>
  (zasZ s9 14 4 x1 v10).bind fun s11 =>
  (zald s11 6 4 x1).bind fun v12 =>
  (zasZ s11 15 4 x1 v12).bind fun s13 =>
  (some (x1 + (1 : Int32))).bind fun v14 =>
  rec10 v14 s13)
set_option maxRecDepth 100000 in
theorem ok_b_X9_askNow_10 {G : ZG} (hG : zSH G = shM) (N : Nat) {d : Nat} (hd : 0 ≤ d) {rec10 : Int32 → ZM → Option (Unit × ZM)} {res : Unit × ZM} (hr10 : ∀ (x1 : Int32) (σ : ZM), rec10 x1 σ = some res → zF G MX9_askNow (d + 1) 10 [(0, .ref (zad G 0)), (1, .int x1)] [] σ none res.2) {x1 : Int32} {σ : ZM} (h : b_X9_askNow_10 N rec10 x1 σ = some res) : zF G MX9_askNow (d + 1) 10 [(0, .ref (zad G 0)), (1, .int x1)] [] σ none res.2 := by
  unfold b_X9_askNow_10 at h
  refine zf_iload_n 1 (q := 11) (j := 1) rfl dX9_askNow_10 rfl rfl ?_
  refine zf_iconst (q := 12) rfl dX9_askNow_11 ic4 ?_
  refine zf_icmp_ge (q := 15) (tgt := 69) rfl (by decide) dX9_askNow_12 (fun hc12 => ?_) (fun hc12 => ?_)
  · replace h := (zi h).1 hc12
    refine zf_iconst (q := 70) rfl dX9_askNow_69 ic0 ?_
    refine zf_istore_n (q := 71) (y := (0 : Int32)) (i := 1) (lv1 := [(1, .int (0 : Int32)), (0, .ref (zad G 0))]) rfl dX9_askNow_70 rfl (by decide) rfl rfl ?_
    exact zf_sub [1, 0] rfl (ok_X9_askNow_71 hG N hd _ _ _ h)
  · replace h := (zi h).2 hc12
    refine zf_aload_n 0 (q := 16) (j := 0) rfl dX9_askNow_15 rfl rfl ?_
    refine zf_getR (q := 19) rfl dX9_askNow_16 lf_RX9_44 (sm0 hG) rfl ?_
    refine zf_iload_n 1 (q := 20) (j := 1) rfl dX9_askNow_19 rfl rfl ?_
    refine zf_aload_n 0 (q := 21) (j := 0) rfl dX9_askNow_20 rfl rfl ?_
    refine zf_getR (q := 24) rfl dX9_askNow_21 lf_RX9_29 (sm0 hG) rfl ?_
    refine zf_iload_n 1 (q := 25) (j := 1) rfl dX9_askNow_24 rfl rfl ?_
    obtain ⟨v6, ev6, h⟩ := zb h
    refine zf_iald (q := 26) rfl dX9_askNow_25 (sm7 hG) ev6 ?_
    obtain ⟨s7, es7, h⟩ := zb h
    refine zf_iast (q := 27) rfl dX9_askNow_26 (sm12 hG) es7 ?_
    refine zf_aload_n 0 (q := 28) (j := 0) rfl dX9_askNow_27 rfl rfl ?_
    refine zf_getR (q := 31) rfl dX9_askNow_28 lf_RX9_47 (sm0 hG) rfl ?_
    refine zf_iload_n 1 (q := 32) (j := 1) rfl dX9_askNow_31 rfl rfl ?_
    refine zf_aload_n 0 (q := 33) (j := 0) rfl dX9_askNow_32 rfl rfl ?_
    refine zf_getR (q := 36) rfl dX9_askNow_33 lf_RX9_32 (sm0 hG) rfl ?_
    refine zf_iload_n 1 (q := 37) (j := 1) rfl dX9_askNow_36 rfl rfl ?_
    obtain ⟨v8, ev8, h⟩ := zb h
    refine zf_iald (q := 38) rfl dX9_askNow_37 (sm8 hG) ev8 ?_
    obtain ⟨s9, es9, h⟩ := zb h
    refine zf_iast (q := 39) rfl dX9_askNow_38 (sm13 hG) es9 ?_
    refine zf_aload_n 0 (q := 40) (j := 0) rfl dX9_askNow_39 rfl rfl ?_
    refine zf_getR (q := 43) rfl dX9_askNow_40 lf_RX9_50 (sm0 hG) rfl ?_
    refine zf_iload_n 1 (q := 44) (j := 1) rfl dX9_askNow_43 rfl rfl ?_
    refine zf_aload_n 0 (q := 45) (j := 0) rfl dX9_askNow_44 rfl rfl ?_
    refine zf_getR (q := 48) rfl dX9_askNow_45 lf_RX9_35 (sm0 hG) rfl ?_
    refine zf_iload_n 1 (q := 49) (j := 1) rfl dX9_askNow_48 rfl rfl ?_
    obtain ⟨v10, ev10, h⟩ := zb h
    refine zf_zald (q := 50) rfl dX9_askNow_49 (sm9 hG) ev10 ?_
    obtain ⟨s11, es11, h⟩ := zb h
    refine zf_zast (q := 51) rfl dX9_askNow_50 (sm14 hG) es11 ?_
    refine zf_aload_n 0 (q := 52) (j := 0) rfl dX9_askNow_51 rfl rfl ?_
    refine zf_getR (q := 55) rfl dX9_askNow_52 lf_RX9_53 (sm0 hG) rfl ?_
    refine zf_iload_n 1 (q := 56) (j := 1) rfl dX9_askNow_55 rfl rfl ?_
    refine zf_aload_n 0 (q := 57) (j := 0) rfl dX9_askNow_56 rfl rfl ?_
    refine zf_getR (q := 60) rfl dX9_askNow_57 lf_RX9_25 (sm0 hG) rfl ?_
    refine zf_iload_n 1 (q := 61) (j := 1) rfl dX9_askNow_60 rfl rfl ?_
    obtain ⟨v12, ev12, h⟩ := zb h
    refine zf_zald (q := 62) rfl dX9_askNow_61 (sm6 hG) ev12 ?_
    obtain ⟨s13, es13, h⟩ := zb h
    refine zf_zast (q := 63) rfl dX9_askNow_62 (sm15 hG) es13 ?_
    obtain ⟨v14, ev14, h⟩ := zb h
    refine zf_iinc 1 (q := 66) (v := v14) (lv1 := [(1, .int v14), (0, .ref (zad G 0))]) rfl dX9_askNow_63 rfl (by rw [ic1]; exact ev14) (by decide) rfl ?_
    refine zf_goto (tgt := 10) (by decide) dX9_askNow_66 ?_
    exact zf_sub [1, 0] rfl (hr10 _ _ h)
def f_X9_askNow_10 (N : Nat) : Nat → Int32 → ZM → Option (Unit × ZM)
  | 0, _, _ => none
  | n + 1, x1, σ => b_X9_askNow_10 N (f_X9_askNow_10 N n) x1 σ
theorem ok_X9_askNow_10 {G : ZG} (hG : zSH G = shM) (N : Nat) {d : Nat} (hd : 0 ≤ d) {res : Unit × ZM} : ∀ (n : Nat) (x1 : Int32) (σ : ZM), f_X9_askNow_10 N n x1 σ = some res → zF G MX9_askNow (d + 1) 10 [(0, .ref (zad G 0)), (1, .int x1)] [] σ none res.2 := by
  intro n
  induction n with
  | zero => intro x1 σ h; exact absurd h (by simp [f_X9_askNow_10])
  | succ n ih => intro x1 σ h; rw [f_X9_askNow_10] at h; exact ok_b_X9_askNow_10 hG N hd ih h
def f_X9_askNow (N : Nat) (σ : ZM) : Option (Unit × ZM) :=
  (zpI σ 0 14 (σ.1 0 5)).bind fun s15 =>
  f_X9_askNow_10 N N (0 : Int32) s15
set_option maxRecDepth 100000 in
theorem ok_X9_askNow {G : ZG} (hG : zSH G = shM) (N : Nat) {d : Nat} (hd : 1 ≤ d) {σ : ZM} {res : Unit × ZM} (h : f_X9_askNow N σ = some res) : zCt G d MX9_askNow [.ref (zad G 0)] σ none res.2 := by
  obtain ⟨d, rfl⟩ : ∃ k, d = k + 1 := ⟨d - 1, by omega⟩
  have hd : 0 ≤ d := by omega
  refine zct_of (by decide) (Nat.le_of_ble_eq_true rfl) (lv := [(0, .ref (zad G 0))]) rfl ?_
  unfold f_X9_askNow at h
  refine zf_aload_n 0 (q := 1) (j := 0) rfl dX9_askNow_0 rfl rfl ?_
  refine zf_aload_n 0 (q := 2) (j := 0) rfl dX9_askNow_1 rfl rfl ?_
  refine zf_getI (q := 5) rfl dX9_askNow_2 lf_RX9_140 (sm0 hG) rfl ?_
  obtain ⟨s15, es15, h⟩ := zb h
  refine zf_putI (q := 8) rfl dX9_askNow_5 lp_RX9_167 (sm0 hG) rfl es15 ?_
  refine zf_iconst (q := 9) rfl dX9_askNow_8 ic0 ?_
  refine zf_istore_n (q := 10) (y := (0 : Int32)) (i := 1) (lv1 := [(1, .int (0 : Int32)), (0, .ref (zad G 0))]) rfl dX9_askNow_9 rfl (by decide) rfl rfl ?_
  exact zf_sub [1, 0] rfl (ok_X9_askNow_10 hG N hd _ _ _ h)
-- ===== X9_speaks: NearCopiesModel.speaks(II)Z
def f_X9_speaks (N : Nat) (x1 : Int32) (x2 : Int32) (σ : ZM) : Option (Int32 × ZM) :=
  if (σ.1 0 14) ≤ x1 then
  (some ((0 : Int32), σ))
  else
  ((zald σ 4 4 x1).bind fun v1 =>
  if v1 = x2 then
  ((zald σ 15 4 x1).bind fun v2 =>
  if v2 = 0 then
  (some ((0 : Int32), σ))
  else
  ((zald σ 12 4 x1).bind fun v3 =>
  if v3 = (4 : Int32) then
  (some ((0 : Int32), σ))
  else
  (some ((1 : Int32), σ))))
  else
  (some ((0 : Int32), σ)))
set_option maxRecDepth 100000 in
theorem ok_X9_speaks {G : ZG} (hG : zSH G = shM) (N : Nat) {d : Nat} (hd : 0 ≤ d) {x1 : Int32} {x2 : Int32} {σ : ZM} {res : Int32 × ZM} (h : f_X9_speaks N x1 x2 σ = some res) : zCt G d MX9_speaks [.ref (zad G 0), .int x1, .int x2] σ (some (.int res.1)) res.2 := by
  refine zct_of (by decide) (Nat.le_of_ble_eq_true rfl) (lv := [(0, .ref (zad G 0)), (1, .int x1), (2, .int x2)]) rfl ?_
  unfold f_X9_speaks at h
  refine zf_iload_n 1 (q := 1) (j := 1) rfl dX9_speaks_0 rfl rfl ?_
  refine zf_aload_n 0 (q := 2) (j := 0) rfl dX9_speaks_1 rfl rfl ?_
  refine zf_getI (q := 5) rfl dX9_speaks_2 lf_RX9_167 (sm0 hG) rfl ?_
  refine zf_icmp_ge (q := 8) (tgt := 41) rfl (by decide) dX9_speaks_5 (fun hc5 => ?_) (fun hc5 => ?_)
  · replace h := (zi h).1 hc5
    refine zf_iconst (q := 42) rfl dX9_speaks_41 ic0 ?_
    cases h
    exact zf_zreturn dX9_speaks_42 rfl (Or.inl rfl)
  · replace h := (zi h).2 hc5
    refine zf_aload_n 0 (q := 9) (j := 0) rfl dX9_speaks_8 rfl rfl ?_
    refine zf_getR (q := 12) rfl dX9_speaks_9 lf_RX9_19 (sm0 hG) rfl ?_
    refine zf_iload_n 1 (q := 13) (j := 1) rfl dX9_speaks_12 rfl rfl ?_
    obtain ⟨v1, ev1, h⟩ := zb h
    refine zf_iald (q := 14) rfl dX9_speaks_13 (sm4 hG) ev1 ?_
    refine zf_iload_n 2 (q := 15) (j := 2) rfl dX9_speaks_14 rfl rfl ?_
    refine zf_icmp_ne (q := 18) (tgt := 41) rfl (by decide) dX9_speaks_15 (fun hc15 => ?_) (fun hc15 => ?_)
    · replace h := (zi h).2 hc15
      refine zf_iconst (q := 42) rfl dX9_speaks_41 ic0 ?_
      cases h
      exact zf_zreturn dX9_speaks_42 rfl (Or.inl rfl)
    · replace h := (zi h).1 hc15
      refine zf_aload_n 0 (q := 19) (j := 0) rfl dX9_speaks_18 rfl rfl ?_
      refine zf_getR (q := 22) rfl dX9_speaks_19 lf_RX9_53 (sm0 hG) rfl ?_
      refine zf_iload_n 1 (q := 23) (j := 1) rfl dX9_speaks_22 rfl rfl ?_
      obtain ⟨v2, ev2, h⟩ := zb h
      refine zf_zald (q := 24) rfl dX9_speaks_23 (sm15 hG) ev2 ?_
      refine zf_if_eq (q := 27) (tgt := 41) rfl (by decide) dX9_speaks_24 (fun hc24 => ?_) (fun hc24 => ?_)
      · replace h := (zi h).1 hc24
        refine zf_iconst (q := 42) rfl dX9_speaks_41 ic0 ?_
        cases h
        exact zf_zreturn dX9_speaks_42 rfl (Or.inl rfl)
      · replace h := (zi h).2 hc24
        refine zf_aload_n 0 (q := 28) (j := 0) rfl dX9_speaks_27 rfl rfl ?_
        refine zf_getR (q := 31) rfl dX9_speaks_28 lf_RX9_44 (sm0 hG) rfl ?_
        refine zf_iload_n 1 (q := 32) (j := 1) rfl dX9_speaks_31 rfl rfl ?_
        obtain ⟨v3, ev3, h⟩ := zb h
        refine zf_iald (q := 33) rfl dX9_speaks_32 (sm12 hG) ev3 ?_
        refine zf_iconst (q := 34) rfl dX9_speaks_33 ic4 ?_
        refine zf_icmp_eq (q := 37) (tgt := 41) rfl (by decide) dX9_speaks_34 (fun hc34 => ?_) (fun hc34 => ?_)
        · replace h := (zi h).1 hc34
          refine zf_iconst (q := 42) rfl dX9_speaks_41 ic0 ?_
          cases h
          exact zf_zreturn dX9_speaks_42 rfl (Or.inl rfl)
        · replace h := (zi h).2 hc34
          refine zf_iconst (q := 38) rfl dX9_speaks_37 ic1 ?_
          refine zf_goto (tgt := 42) (by decide) dX9_speaks_38 ?_
          cases h
          exact zf_zreturn dX9_speaks_42 rfl (Or.inr rfl)
-- ===== X9_passes: NearCopiesModel.passes(II)Z
def f_X9_passes_151 (N : Nat) (σ : ZM) : Option (Int32 × ZM) :=
  some ((1 : Int32), σ)
set_option maxRecDepth 100000 in
theorem ok_X9_passes_151 {G : ZG} (hG : zSH G = shM) (N : Nat) {d : Nat} {res : Int32 × ZM} {σ : ZM} (h : f_X9_passes_151 N σ = some res) : zF G MX9_passes d 151 [] [] σ (some (.int res.1)) res.2 := by
  unfold f_X9_passes_151 at h
  refine zf_iconst (q := 152) rfl dX9_passes_151 ic1 ?_
  refine zf_goto (tgt := 156) (by decide) dX9_passes_152 ?_
  cases h
  exact zf_zreturn dX9_passes_156 rfl (Or.inr rfl)
def f_X9_passes_97 (N : Nat) (x1 : Int32) (x2 : Int32) (x3 : Int32) (y0 : Int32) (σ : ZM) : Option (Int32 × ZM) :=
  (zald σ 14 4 x3).bind fun v1 =>
  if v1 = 0 then
  (if y0 = 0 then
  ((zald σ 19 10 x1).bind fun v2 =>
  (zald σ 1 100 (((10 : Int32) * x1) + v2)).bind fun v3 =>
  if v3 = (1 : Int32) then
  (f_X9_passes_151 N σ)
  else
  ((zald σ 1 100 (((10 : Int32) * x1) + x2)).bind fun v4 =>
  if v4 = (1 : Int32) then
  (f_X9_passes_151 N σ)
  else
  (some ((0 : Int32), σ))))
  else
  (f_X9_passes_151 N σ))
  else
  (zrz y0 σ)
set_option maxRecDepth 100000 in
theorem ok_X9_passes_97 {G : ZG} (hG : zSH G = shM) (N : Nat) {d : Nat} {res : Int32 × ZM} {x1 : Int32} {x2 : Int32} {x3 : Int32} {y0 : Int32} {σ : ZM} (h : f_X9_passes_97 N x1 x2 x3 y0 σ = some res) : zF G MX9_passes d 97 [(0, .ref (zad G 0)), (1, .int x1), (2, .int x2), (3, .int x3)] [.int y0] σ (some (.int res.1)) res.2 := by
  unfold f_X9_passes_97 at h
  refine zf_istore (q := 99) (y := y0) (i := 4) (lv1 := [(4, .int y0), (0, .ref (zad G 0)), (1, .int x1), (2, .int x2), (3, .int x3)]) rfl dX9_passes_97 (by decide) rfl rfl ?_
  refine zf_aload_n 1 (q := 100) (j := 0) rfl dX9_passes_99 rfl rfl ?_
  refine zf_getR (q := 103) rfl dX9_passes_100 lf_RX9_50 (sm0 hG) rfl ?_
  refine zf_iload_n 4 (q := 104) (j := 3) rfl dX9_passes_103 rfl rfl ?_
  obtain ⟨v1, ev1, h⟩ := zb h
  refine zf_zald (q := 105) rfl dX9_passes_104 (sm14 hG) ev1 ?_
  refine zf_if_eq (q := 108) (tgt := 111) rfl (by decide) dX9_passes_105 (fun hc105 => ?_) (fun hc105 => ?_)
  · replace h := (zi h).1 hc105
    refine zf_iload 0 (q := 113) rfl dX9_passes_111 rfl ?_
    refine zf_if_ne (q := 116) (tgt := 151) rfl (by decide) dX9_passes_113 (fun hc113 => ?_) (fun hc113 => ?_)
    · replace h := (zi h).2 hc113
      exact zf_sub [] rfl (ok_X9_passes_151 hG N h)
    · replace h := (zi h).1 hc113
      refine zf_aload_n 1 (q := 117) (j := 0) rfl dX9_passes_116 rfl rfl ?_
      refine zf_getR (q := 120) rfl dX9_passes_117 lf_RX9_7 (sm0 hG) rfl ?_
      refine zf_bipush (q := 122) rfl dX9_passes_120 bp10 ?_
      refine zf_iload_n 2 (q := 123) (j := 1) rfl dX9_passes_122 rfl rfl ?_
      refine zf_imul (q := 124) rfl dX9_passes_123 ?_
      refine zf_aload_n 1 (q := 125) (j := 0) rfl dX9_passes_124 rfl rfl ?_
      refine zf_getR (q := 128) rfl dX9_passes_125 lf_RX9_65 (sm0 hG) rfl ?_
      refine zf_iload_n 2 (q := 129) (j := 1) rfl dX9_passes_128 rfl rfl ?_
      obtain ⟨v2, ev2, h⟩ := zb h
      refine zf_iald (q := 130) rfl dX9_passes_129 (sm19 hG) ev2 ?_
      refine zf_iadd (q := 131) rfl dX9_passes_130 ?_
      obtain ⟨v3, ev3, h⟩ := zb h
      refine zf_iald (q := 132) rfl dX9_passes_131 (sm1 hG) ev3 ?_
      refine zf_iconst (q := 133) rfl dX9_passes_132 ic1 ?_
      refine zf_icmp_eq (q := 136) (tgt := 151) rfl (by decide) dX9_passes_133 (fun hc133 => ?_) (fun hc133 => ?_)
      · replace h := (zi h).1 hc133
        exact zf_sub [] rfl (ok_X9_passes_151 hG N h)
      · replace h := (zi h).2 hc133
        refine zf_aload_n 1 (q := 137) (j := 0) rfl dX9_passes_136 rfl rfl ?_
        refine zf_getR (q := 140) rfl dX9_passes_137 lf_RX9_7 (sm0 hG) rfl ?_
        refine zf_bipush (q := 142) rfl dX9_passes_140 bp10 ?_
        refine zf_iload_n 2 (q := 143) (j := 1) rfl dX9_passes_142 rfl rfl ?_
        refine zf_imul (q := 144) rfl dX9_passes_143 ?_
        refine zf_iload_n 3 (q := 145) (j := 2) rfl dX9_passes_144 rfl rfl ?_
        refine zf_iadd (q := 146) rfl dX9_passes_145 ?_
        obtain ⟨v4, ev4, h⟩ := zb h
        refine zf_iald (q := 147) rfl dX9_passes_146 (sm1 hG) ev4 ?_
        refine zf_iconst (q := 148) rfl dX9_passes_147 ic1 ?_
        refine zf_icmp_ne (q := 151) (tgt := 155) rfl (by decide) dX9_passes_148 (fun hc148 => ?_) (fun hc148 => ?_)
        · replace h := (zi h).2 hc148
          refine zf_iconst (q := 156) rfl dX9_passes_155 ic0 ?_
          cases h
          exact zf_zreturn dX9_passes_156 rfl (Or.inl rfl)
        · replace h := (zi h).1 hc148
          exact zf_sub [] rfl (ok_X9_passes_151 hG N h)
  · replace h := (zi h).2 hc105
    refine zf_iload 0 (q := 110) rfl dX9_passes_108 rfl ?_
    obtain ⟨hz, rfl⟩ := zrz_ok h
    exact zf_zreturn dX9_passes_110 rfl hz
def b_X9_passes_46 (N : Nat) (rec46 : Int32 → Int32 → Int32 → Int32 → ZM → Option (Int32 × ZM)) (x1 : Int32) (x2 : Int32) (x3 : Int32) (x4 : Int32) (σ : ZM) : Option (Int32 × ZM) :=
  (zald σ 20 10 x1).bind fun v5 =>
  if v5 ≤ x4 then
  ((zald σ 19 10 x1).bind fun v6 =>
  if v6 < (16 : Int32) then
  (f_X9_passes_97 N x1 x2 x3 (0 : Int32) σ)
  else
  (f_X9_passes_97 N x1 x2 x3 (1 : Int32) σ))
  else
  ((zald σ 21 100 (((10 : Int32) * x1) + x4)).bind fun v7 =>
  if v7 = x2 then
  (some ((0 : Int32), σ))
  else
  ((some (x4 + (1 : Int32))).bind fun v8 =>
  rec46 x1 x2 x3 v8 σ))
set_option maxRecDepth 100000 in
theorem ok_b_X9_passes_46 {G : ZG} (hG : zSH G = shM) (N : Nat) {d : Nat} {rec46 : Int32 → Int32 → Int32 → Int32 → ZM → Option (Int32 × ZM)} {res : Int32 × ZM} (hr46 : ∀ (x1 : Int32) (x2 : Int32) (x3 : Int32) (x4 : Int32) (σ : ZM), rec46 x1 x2 x3 x4 σ = some res → zF G MX9_passes d 46 [(0, .ref (zad G 0)), (1, .int x1), (2, .int x2), (3, .int x3), (4, .int x4)] [] σ (some (.int res.1)) res.2) {x1 : Int32} {x2 : Int32} {x3 : Int32} {x4 : Int32} {σ : ZM} (h : b_X9_passes_46 N rec46 x1 x2 x3 x4 σ = some res) : zF G MX9_passes d 46 [(0, .ref (zad G 0)), (1, .int x1), (2, .int x2), (3, .int x3), (4, .int x4)] [] σ (some (.int res.1)) res.2 := by
  unfold b_X9_passes_46 at h
  refine zf_iload 4 (q := 48) rfl dX9_passes_46 rfl ?_
  refine zf_aload_n 0 (q := 49) (j := 0) rfl dX9_passes_48 rfl rfl ?_
  refine zf_getR (q := 52) rfl dX9_passes_49 lf_RX9_68 (sm0 hG) rfl ?_
  refine zf_iload_n 1 (q := 53) (j := 1) rfl dX9_passes_52 rfl rfl ?_
  obtain ⟨v5, ev5, h⟩ := zb h
  refine zf_iald (q := 54) rfl dX9_passes_53 (sm20 hG) ev5 ?_
  refine zf_icmp_ge (q := 57) (tgt := 81) rfl (by decide) dX9_passes_54 (fun hc54 => ?_) (fun hc54 => ?_)
  · replace h := (zi h).1 hc54
    refine zf_aload_n 0 (q := 82) (j := 0) rfl dX9_passes_81 rfl rfl ?_
    refine zf_getR (q := 85) rfl dX9_passes_82 lf_RX9_65 (sm0 hG) rfl ?_
    refine zf_iload_n 1 (q := 86) (j := 1) rfl dX9_passes_85 rfl rfl ?_
    obtain ⟨v6, ev6, h⟩ := zb h
    refine zf_iald (q := 87) rfl dX9_passes_86 (sm19 hG) ev6 ?_
    refine zf_bipush (q := 89) rfl dX9_passes_87 bp16 ?_
    refine zf_icmp_lt (q := 92) (tgt := 96) rfl (by decide) dX9_passes_89 (fun hc89 => ?_) (fun hc89 => ?_)
    · replace h := (zi h).1 hc89
      refine zf_iconst (q := 97) rfl dX9_passes_96 ic0 ?_
      exact zf_sub [0, 1, 2, 3] rfl (ok_X9_passes_97 hG N h)
    · replace h := (zi h).2 hc89
      refine zf_iconst (q := 93) rfl dX9_passes_92 ic1 ?_
      refine zf_goto (tgt := 97) (by decide) dX9_passes_93 ?_
      exact zf_sub [0, 1, 2, 3] rfl (ok_X9_passes_97 hG N h)
  · replace h := (zi h).2 hc54
    refine zf_aload_n 0 (q := 58) (j := 0) rfl dX9_passes_57 rfl rfl ?_
    refine zf_getR (q := 61) rfl dX9_passes_58 lf_RX9_71 (sm0 hG) rfl ?_
    refine zf_bipush (q := 63) rfl dX9_passes_61 bp10 ?_
    refine zf_iload_n 1 (q := 64) (j := 1) rfl dX9_passes_63 rfl rfl ?_
    refine zf_imul (q := 65) rfl dX9_passes_64 ?_
    refine zf_iload 4 (q := 67) rfl dX9_passes_65 rfl ?_
    refine zf_iadd (q := 68) rfl dX9_passes_67 ?_
    obtain ⟨v7, ev7, h⟩ := zb h
    refine zf_iald (q := 69) rfl dX9_passes_68 (sm21 hG) ev7 ?_
    refine zf_iload_n 2 (q := 70) (j := 2) rfl dX9_passes_69 rfl rfl ?_
    refine zf_icmp_ne (q := 73) (tgt := 75) rfl (by decide) dX9_passes_70 (fun hc70 => ?_) (fun hc70 => ?_)
    · replace h := (zi h).2 hc70
      obtain ⟨v8, ev8, h⟩ := zb h
      refine zf_iinc 4 (q := 78) (v := v8) (lv1 := [(4, .int v8), (0, .ref (zad G 0)), (1, .int x1), (2, .int x2), (3, .int x3)]) rfl dX9_passes_75 rfl (by rw [ic1]; exact ev8) (by decide) rfl ?_
      refine zf_goto (tgt := 46) (by decide) dX9_passes_78 ?_
      exact zf_sub [1, 2, 3, 4, 0] rfl (hr46 _ _ _ _ _ h)
    · replace h := (zi h).1 hc70
      refine zf_iconst (q := 74) rfl dX9_passes_73 ic0 ?_
      cases h
      exact zf_zreturn dX9_passes_74 rfl (Or.inl rfl)
def f_X9_passes_46 (N : Nat) : Nat → Int32 → Int32 → Int32 → Int32 → ZM → Option (Int32 × ZM)
  | 0, _, _, _, _, _ => none
  | n + 1, x1, x2, x3, x4, σ => b_X9_passes_46 N (f_X9_passes_46 N n) x1 x2 x3 x4 σ
theorem ok_X9_passes_46 {G : ZG} (hG : zSH G = shM) (N : Nat) {d : Nat} {res : Int32 × ZM} : ∀ (n : Nat) (x1 : Int32) (x2 : Int32) (x3 : Int32) (x4 : Int32) (σ : ZM), f_X9_passes_46 N n x1 x2 x3 x4 σ = some res → zF G MX9_passes d 46 [(0, .ref (zad G 0)), (1, .int x1), (2, .int x2), (3, .int x3), (4, .int x4)] [] σ (some (.int res.1)) res.2 := by
  intro n
  induction n with
  | zero => intro x1 x2 x3 x4 σ h; exact absurd h (by simp [f_X9_passes_46])
  | succ n ih => intro x1 x2 x3 x4 σ h; rw [f_X9_passes_46] at h; exact ok_b_X9_passes_46 hG N ih h
def f_X9_passes (N : Nat) (x1 : Int32) (x2 : Int32) (σ : ZM) : Option (Int32 × ZM) :=
  (zald σ 17 10 x1).bind fun v9 =>
  (zald σ 1 100 (((10 : Int32) * x1) + x2)).bind fun v10 =>
  if v10 = 0 then
  (some ((0 : Int32), σ))
  else
  (if v9 = (-9 : Int32) then
  (some ((0 : Int32), σ))
  else
  ((zald σ 13 4 v9).bind fun v11 =>
  if ((v11 >>> (x2 &&& 31)) &&& (1 : Int32)) = (1 : Int32) then
  (some ((0 : Int32), σ))
  else
  (f_X9_passes_46 N N x1 x2 v9 (0 : Int32) σ)))
set_option maxRecDepth 100000 in
theorem ok_X9_passes {G : ZG} (hG : zSH G = shM) (N : Nat) {d : Nat} (hd : 0 ≤ d) {x1 : Int32} {x2 : Int32} {σ : ZM} {res : Int32 × ZM} (h : f_X9_passes N x1 x2 σ = some res) : zCt G d MX9_passes [.ref (zad G 0), .int x1, .int x2] σ (some (.int res.1)) res.2 := by
  refine zct_of (by decide) (Nat.le_of_ble_eq_true rfl) (lv := [(0, .ref (zad G 0)), (1, .int x1), (2, .int x2)]) rfl ?_
  unfold f_X9_passes at h
  refine zf_aload_n 0 (q := 1) (j := 0) rfl dX9_passes_0 rfl rfl ?_
  refine zf_getR (q := 4) rfl dX9_passes_1 lf_RX9_59 (sm0 hG) rfl ?_
  refine zf_iload_n 1 (q := 5) (j := 1) rfl dX9_passes_4 rfl rfl ?_
  obtain ⟨v9, ev9, h⟩ := zb h
  refine zf_iald (q := 6) rfl dX9_passes_5 (sm17 hG) ev9 ?_
  refine zf_istore_n (q := 7) (y := v9) (i := 3) (lv1 := [(3, .int v9), (0, .ref (zad G 0)), (1, .int x1), (2, .int x2)]) rfl dX9_passes_6 rfl (by decide) rfl rfl ?_
  refine zf_aload_n 1 (q := 8) (j := 0) rfl dX9_passes_7 rfl rfl ?_
  refine zf_getR (q := 11) rfl dX9_passes_8 lf_RX9_7 (sm0 hG) rfl ?_
  refine zf_bipush (q := 13) rfl dX9_passes_11 bp10 ?_
  refine zf_iload_n 2 (q := 14) (j := 1) rfl dX9_passes_13 rfl rfl ?_
  refine zf_imul (q := 15) rfl dX9_passes_14 ?_
  refine zf_iload_n 3 (q := 16) (j := 2) rfl dX9_passes_15 rfl rfl ?_
  refine zf_iadd (q := 17) rfl dX9_passes_16 ?_
  obtain ⟨v10, ev10, h⟩ := zb h
  refine zf_iald (q := 18) rfl dX9_passes_17 (sm1 hG) ev10 ?_
  refine zf_if_eq (q := 21) (tgt := 41) rfl (by decide) dX9_passes_18 (fun hc18 => ?_) (fun hc18 => ?_)
  · replace h := (zi h).1 hc18
    refine zf_iconst (q := 42) rfl dX9_passes_41 ic0 ?_
    cases h
    exact zf_zreturn dX9_passes_42 rfl (Or.inl rfl)
  · replace h := (zi h).2 hc18
    refine zf_iload_n 0 (q := 22) (j := 3) rfl dX9_passes_21 rfl rfl ?_
    refine zf_bipush (q := 24) rfl dX9_passes_22 bpm9 ?_
    refine zf_icmp_eq (q := 27) (tgt := 41) rfl (by decide) dX9_passes_24 (fun hc24 => ?_) (fun hc24 => ?_)
    · replace h := (zi h).1 hc24
      refine zf_iconst (q := 42) rfl dX9_passes_41 ic0 ?_
      cases h
      exact zf_zreturn dX9_passes_42 rfl (Or.inl rfl)
    · replace h := (zi h).2 hc24
      refine zf_aload_n 1 (q := 28) (j := 0) rfl dX9_passes_27 rfl rfl ?_
      refine zf_getR (q := 31) rfl dX9_passes_28 lf_RX9_47 (sm0 hG) rfl ?_
      refine zf_iload_n 0 (q := 32) (j := 3) rfl dX9_passes_31 rfl rfl ?_
      obtain ⟨v11, ev11, h⟩ := zb h
      refine zf_iald (q := 33) rfl dX9_passes_32 (sm13 hG) ev11 ?_
      refine zf_iload_n 3 (q := 34) (j := 2) rfl dX9_passes_33 rfl rfl ?_
      refine zf_ishr (q := 35) rfl dX9_passes_34 ?_
      refine zf_iconst (q := 36) rfl dX9_passes_35 ic1 ?_
      refine zf_iand (q := 37) rfl dX9_passes_36 ?_
      refine zf_iconst (q := 38) rfl dX9_passes_37 ic1 ?_
      refine zf_icmp_ne (q := 41) (tgt := 43) rfl (by decide) dX9_passes_38 (fun hc38 => ?_) (fun hc38 => ?_)
      · replace h := (zi h).2 hc38
        refine zf_iconst (q := 44) rfl dX9_passes_43 ic0 ?_
        refine zf_istore (q := 46) (y := (0 : Int32)) (i := 4) (lv1 := [(4, .int (0 : Int32)), (3, .int v9), (0, .ref (zad G 0)), (1, .int x1), (2, .int x2)]) rfl dX9_passes_44 (by decide) rfl rfl ?_
        exact zf_sub [2, 3, 4, 1, 0] rfl (ok_X9_passes_46 hG N _ _ _ _ _ _ h)
      · replace h := (zi h).1 hc38
        refine zf_iconst (q := 42) rfl dX9_passes_41 ic0 ?_
        cases h
        exact zf_zreturn dX9_passes_42 rfl (Or.inl rfl)
-- ===== X9_worth: NearCopiesModel.worth(III)I
def f_X9_worth_38 (N : Nat) (σ : ZM) : Option (Int32 × ZM) :=
  some ((0 : Int32), σ)
set_option maxRecDepth 100000 in
theorem ok_X9_worth_38 {G : ZG} (hG : zSH G = shM) (N : Nat) {d : Nat} {res : Int32 × ZM} {σ : ZM} (h : f_X9_worth_38 N σ = some res) : zF G MX9_worth d 38 [] [] σ (some (.int res.1)) res.2 := by
  unfold f_X9_worth_38 at h
  refine zf_iconst (q := 39) rfl dX9_worth_38 ic0 ?_
  refine zf_goto (tgt := 62) (by decide) dX9_worth_39 ?_
  cases h
  exact zf_ireturn dX9_worth_62 rfl
def f_X9_worth_11 (N : Nat) (x1 : Int32) (x2 : Int32) (x3 : Int32) (y0 : Int32) (σ : ZM) : Option (Int32 × ZM) :=
  if x3 = (1 : Int32) then
  (if y0 = 0 then
  ((zald σ 1 100 (((10 : Int32) * x1) + x2)).bind fun v4 =>
  if v4 = (1 : Int32) then
  (f_X9_worth_38 N σ)
  else
  ((zald σ 1 100 (((10 : Int32) * x1) + x2)).bind fun v5 =>
  if v5 = (2 : Int32) then
  (some ((1 : Int32), σ))
  else
  (some ((2 : Int32), σ))))
  else
  (f_X9_worth_38 N σ))
  else
  (if x3 = (2 : Int32) then
  (if y0 = 0 then
  ((zald σ 18 10 x2).bind fun v2 =>
  some ((v2 + (1 : Int32)), σ))
  else
  ((zald σ 12 4 (x2 - (16 : Int32))).bind fun v3 =>
  some (((1 : Int32) + v3), σ)))
  else
  (if y0 = 0 then
  ((zald σ 16 10 x1).bind fun v1 =>
  if v1 = (1 : Int32) then
  (some (((100 : Int32) - x2), σ))
  else
  (some (((16 : Int32) + x2), σ)))
  else
  (some ((x2 - (16 : Int32)), σ))))
set_option maxRecDepth 100000 in
theorem ok_X9_worth_11 {G : ZG} (hG : zSH G = shM) (N : Nat) {d : Nat} {res : Int32 × ZM} {x1 : Int32} {x2 : Int32} {x3 : Int32} {y0 : Int32} {σ : ZM} (h : f_X9_worth_11 N x1 x2 x3 y0 σ = some res) : zF G MX9_worth d 11 [(0, .ref (zad G 0)), (1, .int x1), (2, .int x2), (3, .int x3)] [.int y0] σ (some (.int res.1)) res.2 := by
  unfold f_X9_worth_11 at h
  refine zf_istore (q := 13) (y := y0) (i := 4) (lv1 := [(4, .int y0), (0, .ref (zad G 0)), (1, .int x1), (2, .int x2), (3, .int x3)]) rfl dX9_worth_11 (by decide) rfl rfl ?_
  refine zf_iload_n 4 (q := 14) (j := 3) rfl dX9_worth_13 rfl rfl ?_
  refine zf_iconst (q := 15) rfl dX9_worth_14 ic1 ?_
  refine zf_icmp_ne (q := 18) (tgt := 63) rfl (by decide) dX9_worth_15 (fun hc15 => ?_) (fun hc15 => ?_)
  · replace h := (zi h).2 hc15
    refine zf_iload_n 4 (q := 64) (j := 3) rfl dX9_worth_63 rfl rfl ?_
    refine zf_iconst (q := 65) rfl dX9_worth_64 ic2 ?_
    refine zf_icmp_ne (q := 68) (tgt := 96) rfl (by decide) dX9_worth_65 (fun hc65 => ?_) (fun hc65 => ?_)
    · replace h := (zi h).2 hc65
      refine zf_iload 0 (q := 98) rfl dX9_worth_96 rfl ?_
      refine zf_if_eq (q := 101) (tgt := 108) rfl (by decide) dX9_worth_98 (fun hc98 => ?_) (fun hc98 => ?_)
      · replace h := (zi h).1 hc98
        refine zf_aload_n 1 (q := 109) (j := 0) rfl dX9_worth_108 rfl rfl ?_
        refine zf_getR (q := 112) rfl dX9_worth_109 lf_RX9_56 (sm0 hG) rfl ?_
        refine zf_iload_n 2 (q := 113) (j := 1) rfl dX9_worth_112 rfl rfl ?_
        obtain ⟨v1, ev1, h⟩ := zb h
        refine zf_iald (q := 114) rfl dX9_worth_113 (sm16 hG) ev1 ?_
        refine zf_iconst (q := 115) rfl dX9_worth_114 ic1 ?_
        refine zf_icmp_ne (q := 118) (tgt := 125) rfl (by decide) dX9_worth_115 (fun hc115 => ?_) (fun hc115 => ?_)
        · replace h := (zi h).2 hc115
          refine zf_bipush (q := 127) rfl dX9_worth_125 bp16 ?_
          refine zf_iload_n 3 (q := 128) (j := 2) rfl dX9_worth_127 rfl rfl ?_
          refine zf_iadd (q := 129) rfl dX9_worth_128 ?_
          cases h
          exact zf_ireturn dX9_worth_129 rfl
        · replace h := (zi h).1 hc115
          refine zf_bipush (q := 120) rfl dX9_worth_118 bp100 ?_
          refine zf_iload_n 3 (q := 121) (j := 2) rfl dX9_worth_120 rfl rfl ?_
          refine zf_isub (q := 122) rfl dX9_worth_121 ?_
          refine zf_goto (tgt := 129) (by decide) dX9_worth_122 ?_
          cases h
          exact zf_ireturn dX9_worth_129 rfl
      · replace h := (zi h).2 hc98
        refine zf_iload_n 3 (q := 102) (j := 2) rfl dX9_worth_101 rfl rfl ?_
        refine zf_bipush (q := 104) rfl dX9_worth_102 bp16 ?_
        refine zf_isub (q := 105) rfl dX9_worth_104 ?_
        refine zf_goto (tgt := 129) (by decide) dX9_worth_105 ?_
        cases h
        exact zf_ireturn dX9_worth_129 rfl
    · replace h := (zi h).1 hc65
      refine zf_iload 0 (q := 70) rfl dX9_worth_68 rfl ?_
      refine zf_if_eq (q := 73) (tgt := 87) rfl (by decide) dX9_worth_70 (fun hc70 => ?_) (fun hc70 => ?_)
      · replace h := (zi h).1 hc70
        refine zf_aload_n 1 (q := 88) (j := 0) rfl dX9_worth_87 rfl rfl ?_
        refine zf_getR (q := 91) rfl dX9_worth_88 lf_RX9_62 (sm0 hG) rfl ?_
        refine zf_iload_n 3 (q := 92) (j := 2) rfl dX9_worth_91 rfl rfl ?_
        obtain ⟨v2, ev2, h⟩ := zb h
        refine zf_iald (q := 93) rfl dX9_worth_92 (sm18 hG) ev2 ?_
        refine zf_iconst (q := 94) rfl dX9_worth_93 ic1 ?_
        refine zf_iadd (q := 95) rfl dX9_worth_94 ?_
        cases h
        exact zf_ireturn dX9_worth_95 rfl
      · replace h := (zi h).2 hc70
        refine zf_iconst (q := 74) rfl dX9_worth_73 ic1 ?_
        refine zf_aload_n 1 (q := 75) (j := 0) rfl dX9_worth_74 rfl rfl ?_
        refine zf_getR (q := 78) rfl dX9_worth_75 lf_RX9_44 (sm0 hG) rfl ?_
        refine zf_iload_n 3 (q := 79) (j := 2) rfl dX9_worth_78 rfl rfl ?_
        refine zf_bipush (q := 81) rfl dX9_worth_79 bp16 ?_
        refine zf_isub (q := 82) rfl dX9_worth_81 ?_
        obtain ⟨v3, ev3, h⟩ := zb h
        refine zf_iald (q := 83) rfl dX9_worth_82 (sm12 hG) ev3 ?_
        refine zf_iadd (q := 84) rfl dX9_worth_83 ?_
        refine zf_goto (tgt := 95) (by decide) dX9_worth_84 ?_
        cases h
        exact zf_ireturn dX9_worth_95 rfl
  · replace h := (zi h).1 hc15
    refine zf_iload 0 (q := 20) rfl dX9_worth_18 rfl ?_
    refine zf_if_ne (q := 23) (tgt := 38) rfl (by decide) dX9_worth_20 (fun hc20 => ?_) (fun hc20 => ?_)
    · replace h := (zi h).2 hc20
      exact zf_sub [] rfl (ok_X9_worth_38 hG N h)
    · replace h := (zi h).1 hc20
      refine zf_aload_n 1 (q := 24) (j := 0) rfl dX9_worth_23 rfl rfl ?_
      refine zf_getR (q := 27) rfl dX9_worth_24 lf_RX9_7 (sm0 hG) rfl ?_
      refine zf_bipush (q := 29) rfl dX9_worth_27 bp10 ?_
      refine zf_iload_n 2 (q := 30) (j := 1) rfl dX9_worth_29 rfl rfl ?_
      refine zf_imul (q := 31) rfl dX9_worth_30 ?_
      refine zf_iload_n 3 (q := 32) (j := 2) rfl dX9_worth_31 rfl rfl ?_
      refine zf_iadd (q := 33) rfl dX9_worth_32 ?_
      obtain ⟨v4, ev4, h⟩ := zb h
      refine zf_iald (q := 34) rfl dX9_worth_33 (sm1 hG) ev4 ?_
      refine zf_iconst (q := 35) rfl dX9_worth_34 ic1 ?_
      refine zf_icmp_ne (q := 38) (tgt := 42) rfl (by decide) dX9_worth_35 (fun hc35 => ?_) (fun hc35 => ?_)
      · replace h := (zi h).2 hc35
        refine zf_aload_n 1 (q := 43) (j := 0) rfl dX9_worth_42 rfl rfl ?_
        refine zf_getR (q := 46) rfl dX9_worth_43 lf_RX9_7 (sm0 hG) rfl ?_
        refine zf_bipush (q := 48) rfl dX9_worth_46 bp10 ?_
        refine zf_iload_n 2 (q := 49) (j := 1) rfl dX9_worth_48 rfl rfl ?_
        refine zf_imul (q := 50) rfl dX9_worth_49 ?_
        refine zf_iload_n 3 (q := 51) (j := 2) rfl dX9_worth_50 rfl rfl ?_
        refine zf_iadd (q := 52) rfl dX9_worth_51 ?_
        obtain ⟨v5, ev5, h⟩ := zb h
        refine zf_iald (q := 53) rfl dX9_worth_52 (sm1 hG) ev5 ?_
        refine zf_iconst (q := 54) rfl dX9_worth_53 ic2 ?_
        refine zf_icmp_ne (q := 57) (tgt := 61) rfl (by decide) dX9_worth_54 (fun hc54 => ?_) (fun hc54 => ?_)
        · replace h := (zi h).2 hc54
          refine zf_iconst (q := 62) rfl dX9_worth_61 ic2 ?_
          cases h
          exact zf_ireturn dX9_worth_62 rfl
        · replace h := (zi h).1 hc54
          refine zf_iconst (q := 58) rfl dX9_worth_57 ic1 ?_
          refine zf_goto (tgt := 62) (by decide) dX9_worth_58 ?_
          cases h
          exact zf_ireturn dX9_worth_62 rfl
      · replace h := (zi h).1 hc35
        exact zf_sub [] rfl (ok_X9_worth_38 hG N h)
def f_X9_worth (N : Nat) (x1 : Int32) (x2 : Int32) (x3 : Int32) (σ : ZM) : Option (Int32 × ZM) :=
  if x2 < (16 : Int32) then
  (f_X9_worth_11 N x1 x2 x3 (0 : Int32) σ)
  else
  (f_X9_worth_11 N x1 x2 x3 (1 : Int32) σ)
set_option maxRecDepth 100000 in
theorem ok_X9_worth {G : ZG} (hG : zSH G = shM) (N : Nat) {d : Nat} (hd : 0 ≤ d) {x1 : Int32} {x2 : Int32} {x3 : Int32} {σ : ZM} {res : Int32 × ZM} (h : f_X9_worth N x1 x2 x3 σ = some res) : zCt G d MX9_worth [.ref (zad G 0), .int x1, .int x2, .int x3] σ (some (.int res.1)) res.2 := by
  refine zct_of (by decide) (Nat.le_of_ble_eq_true rfl) (lv := [(0, .ref (zad G 0)), (1, .int x1), (2, .int x2), (3, .int x3)]) rfl ?_
  unfold f_X9_worth at h
  refine zf_iload_n 2 (q := 1) (j := 2) rfl dX9_worth_0 rfl rfl ?_
  refine zf_bipush (q := 3) rfl dX9_worth_1 bp16 ?_
  refine zf_icmp_lt (q := 6) (tgt := 10) rfl (by decide) dX9_worth_3 (fun hc3 => ?_) (fun hc3 => ?_)
  · replace h := (zi h).1 hc3
    refine zf_iconst (q := 11) rfl dX9_worth_10 ic0 ?_
    exact zf_sub [0, 1, 2, 3] rfl (ok_X9_worth_11 hG N h)
  · replace h := (zi h).2 hc3
    refine zf_iconst (q := 7) rfl dX9_worth_6 ic1 ?_
    refine zf_goto (tgt := 11) (by decide) dX9_worth_7 ?_
    exact zf_sub [0, 1, 2, 3] rfl (ok_X9_worth_11 hG N h)
-- ===== X9_thing: NearCopiesModel.thing(II)I
def f_X9_thing (N : Nat) (x0 : Int32) (x1 : Int32) (σ : ZM) : Option (Int32 × ZM) :=
  if x0 = (2 : Int32) then
  (if x1 = 0 then
  (some ((2 : Int32), σ))
  else
  (if x1 = (1 : Int32) then
  (some ((1 : Int32), σ))
  else
  (some ((3 : Int32), σ))))
  else if x0 = (3 : Int32) then
  (if x1 = 0 then
  (some ((1 : Int32), σ))
  else
  (if x1 = (1 : Int32) then
  (some ((3 : Int32), σ))
  else
  (some ((2 : Int32), σ))))
  else 
  (some ((x1 + (1 : Int32)), σ))
set_option maxRecDepth 100000 in
theorem ok_X9_thing {G : ZG} (hG : zSH G = shM) (N : Nat) {d : Nat} (hd : 0 ≤ d) {x0 : Int32} {x1 : Int32} {σ : ZM} {res : Int32 × ZM} (h : f_X9_thing N x0 x1 σ = some res) : zCt G d MX9_thing [.int x0, .int x1] σ (some (.int res.1)) res.2 := by
  refine zct_of (by decide) (Nat.le_of_ble_eq_true rfl) (lv := [(0, .int x0), (1, .int x1)]) rfl ?_
  unfold f_X9_thing at h
  refine zf_iload_n 0 (q := 1) (j := 0) rfl dX9_thing_0 rfl rfl ?_
  by_cases hc1_2 : x0 = (2 : Int32)
  · replace h := (zi h).1 hc1_2
    refine zf_lookup (off := 27) (tgt := 28) dX9_thing_1 (by decide) (by rw [hc1_2]; rfl) (by decide) ?_
    refine zf_iload_n 1 (q := 29) (j := 1) rfl dX9_thing_28 rfl rfl ?_
    refine zf_if_ne (q := 32) (tgt := 36) rfl (by decide) dX9_thing_29 (fun hc29 => ?_) (fun hc29 => ?_)
    · replace h := (zi h).2 hc29
      refine zf_iload_n 1 (q := 37) (j := 1) rfl dX9_thing_36 rfl rfl ?_
      refine zf_iconst (q := 38) rfl dX9_thing_37 ic1 ?_
      refine zf_icmp_ne (q := 41) (tgt := 45) rfl (by decide) dX9_thing_38 (fun hc38 => ?_) (fun hc38 => ?_)
      · replace h := (zi h).2 hc38
        refine zf_iconst (q := 46) rfl dX9_thing_45 ic3 ?_
        cases h
        exact zf_ireturn dX9_thing_46 rfl
      · replace h := (zi h).1 hc38
        refine zf_iconst (q := 42) rfl dX9_thing_41 ic1 ?_
        refine zf_goto (tgt := 46) (by decide) dX9_thing_42 ?_
        cases h
        exact zf_ireturn dX9_thing_46 rfl
    · replace h := (zi h).1 hc29
      refine zf_iconst (q := 33) rfl dX9_thing_32 ic2 ?_
      refine zf_goto (tgt := 46) (by decide) dX9_thing_33 ?_
      cases h
      exact zf_ireturn dX9_thing_46 rfl
  replace h := (zi h).2 hc1_2
  by_cases hc1_3 : x0 = (3 : Int32)
  · replace h := (zi h).1 hc1_3
    refine zf_lookup (off := 46) (tgt := 47) dX9_thing_1 (by decide) (by rw [hc1_3]; rfl) (by decide) ?_
    refine zf_iload_n 1 (q := 48) (j := 1) rfl dX9_thing_47 rfl rfl ?_
    refine zf_if_ne (q := 51) (tgt := 55) rfl (by decide) dX9_thing_48 (fun hc48 => ?_) (fun hc48 => ?_)
    · replace h := (zi h).2 hc48
      refine zf_iload_n 1 (q := 56) (j := 1) rfl dX9_thing_55 rfl rfl ?_
      refine zf_iconst (q := 57) rfl dX9_thing_56 ic1 ?_
      refine zf_icmp_ne (q := 60) (tgt := 64) rfl (by decide) dX9_thing_57 (fun hc57 => ?_) (fun hc57 => ?_)
      · replace h := (zi h).2 hc57
        refine zf_iconst (q := 65) rfl dX9_thing_64 ic2 ?_
        cases h
        exact zf_ireturn dX9_thing_65 rfl
      · replace h := (zi h).1 hc57
        refine zf_iconst (q := 61) rfl dX9_thing_60 ic3 ?_
        refine zf_goto (tgt := 65) (by decide) dX9_thing_61 ?_
        cases h
        exact zf_ireturn dX9_thing_65 rfl
    · replace h := (zi h).1 hc48
      refine zf_iconst (q := 52) rfl dX9_thing_51 ic1 ?_
      refine zf_goto (tgt := 65) (by decide) dX9_thing_52 ?_
      cases h
      exact zf_ireturn dX9_thing_65 rfl
  replace h := (zi h).2 hc1_3
  refine zf_lookup (off := 65) (tgt := 66) dX9_thing_1 (by decide) (zlk2 (zne (by decide : ((2 : Int32)).toInt = 2) hc1_2) (zne (by decide : ((3 : Int32)).toInt = 3) hc1_3)) (by decide) ?_
  refine zf_iload_n 1 (q := 67) (j := 1) rfl dX9_thing_66 rfl rfl ?_
  refine zf_iconst (q := 68) rfl dX9_thing_67 ic1 ?_
  refine zf_iadd (q := 69) rfl dX9_thing_68 ?_
  cases h
  exact zf_ireturn dX9_thing_69 rfl
-- ===== X9_isAhead: NearCopiesModel.isAhead(III)Z
def b_X9_isAhead_3 (N : Nat) (rec3 : Int32 → Int32 → Int32 → Int32 → ZM → Option (Int32 × ZM)) (x1 : Int32) (x2 : Int32) (x3 : Int32) (x4 : Int32) (σ : ZM) : Option (Int32 × ZM) :=
  if (3 : Int32) ≤ x4 then
  (some ((0 : Int32), σ))
  else
  ((zald σ 16 10 x1).bind fun v1 =>
  zbd (f_X9_thing N v1 x4 σ) fun r2 s3 =>
  zbd (f_X9_worth N x1 x2 r2 s3) fun r4 s5 =>
  zbd (f_X9_worth N x1 x3 r2 s5) fun r6 s7 =>
  (some (r4 - r6)).bind fun v8 =>
  if v8 = 0 then
  ((some (x4 + (1 : Int32))).bind fun v9 =>
  rec3 x1 x2 x3 v9 s7)
  else
  (if 0 ≤ v8 then
  (some ((0 : Int32), s7))
  else
  (some ((1 : Int32), s7))))
set_option maxRecDepth 100000 in
theorem ok_b_X9_isAhead_3 {G : ZG} (hG : zSH G = shM) (N : Nat) {d : Nat} (hd : 0 ≤ d) {rec3 : Int32 → Int32 → Int32 → Int32 → ZM → Option (Int32 × ZM)} {res : Int32 × ZM} (hr3 : ∀ (x1 : Int32) (x2 : Int32) (x3 : Int32) (x4 : Int32) (σ : ZM), rec3 x1 x2 x3 x4 σ = some res → zF G MX9_isAhead (d + 1) 3 [(0, .ref (zad G 0)), (1, .int x1), (2, .int x2), (3, .int x3), (4, .int x4)] [] σ (some (.int res.1)) res.2) {x1 : Int32} {x2 : Int32} {x3 : Int32} {x4 : Int32} {σ : ZM} (h : b_X9_isAhead_3 N rec3 x1 x2 x3 x4 σ = some res) : zF G MX9_isAhead (d + 1) 3 [(0, .ref (zad G 0)), (1, .int x1), (2, .int x2), (3, .int x3), (4, .int x4)] [] σ (some (.int res.1)) res.2 := by
  unfold b_X9_isAhead_3 at h
  refine zf_iload 4 (q := 5) rfl dX9_isAhead_3 rfl ?_
  refine zf_iconst (q := 6) rfl dX9_isAhead_5 ic3 ?_
  refine zf_icmp_ge (q := 9) (tgt := 63) rfl (by decide) dX9_isAhead_6 (fun hc6 => ?_) (fun hc6 => ?_)
  · replace h := (zi h).1 hc6
    refine zf_iconst (q := 64) rfl dX9_isAhead_63 ic0 ?_
    cases h
    exact zf_zreturn dX9_isAhead_64 rfl (Or.inl rfl)
  · replace h := (zi h).2 hc6
    refine zf_aload_n 0 (q := 10) (j := 0) rfl dX9_isAhead_9 rfl rfl ?_
    refine zf_getR (q := 13) rfl dX9_isAhead_10 lf_RX9_56 (sm0 hG) rfl ?_
    refine zf_iload_n 1 (q := 14) (j := 1) rfl dX9_isAhead_13 rfl rfl ?_
    obtain ⟨v1, ev1, h⟩ := zb h
    refine zf_iald (q := 15) rfl dX9_isAhead_14 (sm16 hG) ev1 ?_
    refine zf_iload 4 (q := 17) rfl dX9_isAhead_15 rfl ?_
    obtain ⟨r2, s3, es3, h⟩ := zc h
    refine zf_callS (q := 20) (As := [.int v1, .int x4]) (rest := []) (st1 := [.int r2]) rfl dX9_isAhead_17 ls_RX9_174 rfl rfl (Nat.le_of_ble_eq_true rfl) (ok_X9_thing hG N (Nat.le_trans (by decide) hd) es3) rfl ?_
    refine zf_istore (q := 22) (y := r2) (i := 5) (lv1 := [(5, .int r2), (0, .ref (zad G 0)), (1, .int x1), (2, .int x2), (3, .int x3), (4, .int x4)]) rfl dX9_isAhead_20 (by decide) rfl rfl ?_
    refine zf_aload_n 1 (q := 23) (j := 0) rfl dX9_isAhead_22 rfl rfl ?_
    refine zf_iload_n 2 (q := 24) (j := 1) rfl dX9_isAhead_23 rfl rfl ?_
    refine zf_iload_n 3 (q := 25) (j := 2) rfl dX9_isAhead_24 rfl rfl ?_
    refine zf_iload 0 (q := 27) rfl dX9_isAhead_25 rfl ?_
    obtain ⟨r4, s5, es5, h⟩ := zc h
    refine zf_callV (q := 30) (As := [.int x1, .int x2, .int r2]) (rest := []) (st1 := [.int r4]) rfl dX9_isAhead_27 lv_RX9_178 (sm0 hG) rfl rfl (Nat.le_of_ble_eq_true rfl) (ok_X9_worth hG N (Nat.le_trans (by decide) hd) es5) rfl ?_
    refine zf_aload_n 1 (q := 31) (j := 0) rfl dX9_isAhead_30 rfl rfl ?_
    refine zf_iload_n 2 (q := 32) (j := 1) rfl dX9_isAhead_31 rfl rfl ?_
    refine zf_iload_n 4 (q := 33) (j := 3) rfl dX9_isAhead_32 rfl rfl ?_
    refine zf_iload 0 (q := 35) rfl dX9_isAhead_33 rfl ?_
    obtain ⟨r6, s7, es7, h⟩ := zc h
    refine zf_callV (q := 38) (As := [.int x1, .int x3, .int r2]) (rest := [.int r4]) (st1 := [.int r6, .int r4]) rfl dX9_isAhead_35 lv_RX9_178 (sm0 hG) rfl rfl (Nat.le_of_ble_eq_true rfl) (ok_X9_worth hG N (Nat.le_trans (by decide) hd) es7) rfl ?_
    refine zf_isub (q := 39) rfl dX9_isAhead_38 ?_
    obtain ⟨v8, ev8, h⟩ := zb h
    refine zf_istore (q := 41) (y := v8) (i := 6) (lv1 := [(6, .int v8), (5, .int r2), (0, .ref (zad G 0)), (1, .int x1), (2, .int x2), (3, .int x3), (4, .int x4)]) rfl dX9_isAhead_39 (by decide) ev8 rfl ?_
    refine zf_iload 0 (q := 43) rfl dX9_isAhead_41 rfl ?_
    refine zf_if_eq (q := 46) (tgt := 57) rfl (by decide) dX9_isAhead_43 (fun hc43 => ?_) (fun hc43 => ?_)
    · replace h := (zi h).1 hc43
      obtain ⟨v9, ev9, h⟩ := zb h
      refine zf_iinc 6 (q := 60) (v := v9) (lv1 := [(4, .int v9), (6, .int v8), (5, .int r2), (0, .ref (zad G 0)), (1, .int x1), (2, .int x2), (3, .int x3)]) rfl dX9_isAhead_57 rfl (by rw [ic1]; exact ev9) (by decide) rfl ?_
      refine zf_goto (tgt := 3) (by decide) dX9_isAhead_60 ?_
      exact zf_sub [3, 4, 5, 6, 0] rfl (hr3 _ _ _ _ _ h)
    · replace h := (zi h).2 hc43
      refine zf_iload 0 (q := 48) rfl dX9_isAhead_46 rfl ?_
      refine zf_if_ge (q := 51) (tgt := 55) rfl (by decide) dX9_isAhead_48 (fun hc48 => ?_) (fun hc48 => ?_)
      · replace h := (zi h).1 hc48
        refine zf_iconst (q := 56) rfl dX9_isAhead_55 ic0 ?_
        cases h
        exact zf_zreturn dX9_isAhead_56 rfl (Or.inl rfl)
      · replace h := (zi h).2 hc48
        refine zf_iconst (q := 52) rfl dX9_isAhead_51 ic1 ?_
        refine zf_goto (tgt := 56) (by decide) dX9_isAhead_52 ?_
        cases h
        exact zf_zreturn dX9_isAhead_56 rfl (Or.inr rfl)
def f_X9_isAhead_3 (N : Nat) : Nat → Int32 → Int32 → Int32 → Int32 → ZM → Option (Int32 × ZM)
  | 0, _, _, _, _, _ => none
  | n + 1, x1, x2, x3, x4, σ => b_X9_isAhead_3 N (f_X9_isAhead_3 N n) x1 x2 x3 x4 σ
theorem ok_X9_isAhead_3 {G : ZG} (hG : zSH G = shM) (N : Nat) {d : Nat} (hd : 0 ≤ d) {res : Int32 × ZM} : ∀ (n : Nat) (x1 : Int32) (x2 : Int32) (x3 : Int32) (x4 : Int32) (σ : ZM), f_X9_isAhead_3 N n x1 x2 x3 x4 σ = some res → zF G MX9_isAhead (d + 1) 3 [(0, .ref (zad G 0)), (1, .int x1), (2, .int x2), (3, .int x3), (4, .int x4)] [] σ (some (.int res.1)) res.2 := by
  intro n
  induction n with
  | zero => intro x1 x2 x3 x4 σ h; exact absurd h (by simp [f_X9_isAhead_3])
  | succ n ih => intro x1 x2 x3 x4 σ h; rw [f_X9_isAhead_3] at h; exact ok_b_X9_isAhead_3 hG N hd ih h
def f_X9_isAhead (N : Nat) (x1 : Int32) (x2 : Int32) (x3 : Int32) (σ : ZM) : Option (Int32 × ZM) :=
  f_X9_isAhead_3 N N x1 x2 x3 (0 : Int32) σ
set_option maxRecDepth 100000 in
theorem ok_X9_isAhead {G : ZG} (hG : zSH G = shM) (N : Nat) {d : Nat} (hd : 1 ≤ d) {x1 : Int32} {x2 : Int32} {x3 : Int32} {σ : ZM} {res : Int32 × ZM} (h : f_X9_isAhead N x1 x2 x3 σ = some res) : zCt G d MX9_isAhead [.ref (zad G 0), .int x1, .int x2, .int x3] σ (some (.int res.1)) res.2 := by
  obtain ⟨d, rfl⟩ : ∃ k, d = k + 1 := ⟨d - 1, by omega⟩
  have hd : 0 ≤ d := by omega
  refine zct_of (by decide) (Nat.le_of_ble_eq_true rfl) (lv := [(0, .ref (zad G 0)), (1, .int x1), (2, .int x2), (3, .int x3)]) rfl ?_
  unfold f_X9_isAhead at h
  refine zf_iconst (q := 1) rfl dX9_isAhead_0 ic0 ?_
  refine zf_istore (q := 3) (y := (0 : Int32)) (i := 4) (lv1 := [(4, .int (0 : Int32)), (0, .ref (zad G 0)), (1, .int x1), (2, .int x2), (3, .int x3)]) rfl dX9_isAhead_1 (by decide) rfl rfl ?_
  exact zf_sub [1, 2, 3, 4, 0] rfl (ok_X9_isAhead_3 hG N hd _ _ _ _ _ _ h)
-- ===== X9_choice: NearCopiesModel.choice(I)I
def f_X9_choice_99 (N : Nat) (rec55 : Int32 → Int32 → Int32 → ZM → Option (Int32 × ZM)) (x1 : Int32) (x2 : Int32) (x3 : Int32) (σ : ZM) : Option (Int32 × ZM) :=
  (some (x3 + (1 : Int32))).bind fun v1 =>
  rec55 x1 x2 v1 σ
set_option maxRecDepth 100000 in
theorem ok_X9_choice_99 {G : ZG} (hG : zSH G = shM) (N : Nat) {d : Nat} (hd : 1 ≤ d) {rec55 : Int32 → Int32 → Int32 → ZM → Option (Int32 × ZM)} {res : Int32 × ZM} (hr55 : ∀ (x1 : Int32) (x2 : Int32) (x3 : Int32) (σ : ZM), rec55 x1 x2 x3 σ = some res → zF G MX9_choice (d + 1) 55 [(0, .ref (zad G 0)), (1, .int x1), (2, .int x2), (3, .int x3)] [] σ (some (.int res.1)) res.2) {x1 : Int32} {x2 : Int32} {x3 : Int32} {σ : ZM} (h : f_X9_choice_99 N rec55 x1 x2 x3 σ = some res) : zF G MX9_choice (d + 1) 99 [(0, .ref (zad G 0)), (1, .int x1), (2, .int x2), (3, .int x3)] [] σ (some (.int res.1)) res.2 := by
  unfold f_X9_choice_99 at h
  obtain ⟨v1, ev1, h⟩ := zb h
  refine zf_iinc 3 (q := 102) (v := v1) (lv1 := [(3, .int v1), (0, .ref (zad G 0)), (1, .int x1), (2, .int x2)]) rfl dX9_choice_99 rfl (by rw [ic1]; exact ev1) (by decide) rfl ?_
  refine zf_goto (tgt := 55) (by decide) dX9_choice_102 ?_
  exact zf_sub [1, 2, 3, 0] rfl (hr55 _ _ _ _ h)
def f_X9_choice_98 (N : Nat) (rec55 : Int32 → Int32 → Int32 → ZM → Option (Int32 × ZM)) (x1 : Int32) (x3 : Int32) (y0 : Int32) (σ : ZM) : Option (Int32 × ZM) :=
  f_X9_choice_99 N rec55 x1 y0 x3 σ
set_option maxRecDepth 100000 in
theorem ok_X9_choice_98 {G : ZG} (hG : zSH G = shM) (N : Nat) {d : Nat} (hd : 1 ≤ d) {rec55 : Int32 → Int32 → Int32 → ZM → Option (Int32 × ZM)} {res : Int32 × ZM} (hr55 : ∀ (x1 : Int32) (x2 : Int32) (x3 : Int32) (σ : ZM), rec55 x1 x2 x3 σ = some res → zF G MX9_choice (d + 1) 55 [(0, .ref (zad G 0)), (1, .int x1), (2, .int x2), (3, .int x3)] [] σ (some (.int res.1)) res.2) {x1 : Int32} {x3 : Int32} {y0 : Int32} {σ : ZM} (h : f_X9_choice_98 N rec55 x1 x3 y0 σ = some res) : zF G MX9_choice (d + 1) 98 [(0, .ref (zad G 0)), (1, .int x1), (3, .int x3)] [.int y0] σ (some (.int res.1)) res.2 := by
  unfold f_X9_choice_98 at h
  refine zf_istore_n (q := 99) (y := y0) (i := 2) (lv1 := [(2, .int y0), (0, .ref (zad G 0)), (1, .int x1), (3, .int x3)]) rfl dX9_choice_98 rfl (by decide) rfl rfl ?_
  exact zf_sub [1, 2, 0, 3] rfl (ok_X9_choice_99 hG N hd hr55 h)
def f_X9_choice_93 (N : Nat) (rec55 : Int32 → Int32 → Int32 → ZM → Option (Int32 × ZM)) (x1 : Int32) (x3 : Int32) (σ : ZM) : Option (Int32 × ZM) :=
  f_X9_choice_98 N rec55 x1 x3 x3 σ
set_option maxRecDepth 100000 in
theorem ok_X9_choice_93 {G : ZG} (hG : zSH G = shM) (N : Nat) {d : Nat} (hd : 1 ≤ d) {rec55 : Int32 → Int32 → Int32 → ZM → Option (Int32 × ZM)} {res : Int32 × ZM} (hr55 : ∀ (x1 : Int32) (x2 : Int32) (x3 : Int32) (σ : ZM), rec55 x1 x2 x3 σ = some res → zF G MX9_choice (d + 1) 55 [(0, .ref (zad G 0)), (1, .int x1), (2, .int x2), (3, .int x3)] [] σ (some (.int res.1)) res.2) {x1 : Int32} {x3 : Int32} {σ : ZM} (h : f_X9_choice_93 N rec55 x1 x3 σ = some res) : zF G MX9_choice (d + 1) 93 [(0, .ref (zad G 0)), (1, .int x1), (3, .int x3)] [] σ (some (.int res.1)) res.2 := by
  unfold f_X9_choice_93 at h
  refine zf_iload_n 2 (q := 94) (j := 3) rfl dX9_choice_93 rfl rfl ?_
  refine zf_goto (tgt := 98) (by decide) dX9_choice_94 ?_
  exact zf_sub [0, 1, 2] rfl (ok_X9_choice_98 hG N hd hr55 h)
def b_X9_choice_55 (N : Nat) (rec55 : Int32 → Int32 → Int32 → ZM → Option (Int32 × ZM)) (x1 : Int32) (x2 : Int32) (x3 : Int32) (σ : ZM) : Option (Int32 × ZM) :=
  if (σ.1 0 0) ≤ x3 then
  (some (x2, σ))
  else
  (if x3 = x1 then
  (f_X9_choice_99 N rec55 x1 x2 x3 σ)
  else
  (zbd (f_X9_passes N x3 x1 σ) fun r2 s3 =>
  if r2 = 0 then
  (f_X9_choice_99 N rec55 x1 x2 x3 s3)
  else
  (if x2 = (-9 : Int32) then
  (f_X9_choice_93 N rec55 x1 x3 s3)
  else
  (zbd (f_X9_isAhead N x1 x3 x2 s3) fun r4 s5 =>
  if r4 = 0 then
  (f_X9_choice_98 N rec55 x1 x3 x2 s5)
  else
  (f_X9_choice_93 N rec55 x1 x3 s5)))))
set_option maxRecDepth 100000 in
theorem ok_b_X9_choice_55 {G : ZG} (hG : zSH G = shM) (N : Nat) {d : Nat} (hd : 1 ≤ d) {rec55 : Int32 → Int32 → Int32 → ZM → Option (Int32 × ZM)} {res : Int32 × ZM} (hr55 : ∀ (x1 : Int32) (x2 : Int32) (x3 : Int32) (σ : ZM), rec55 x1 x2 x3 σ = some res → zF G MX9_choice (d + 1) 55 [(0, .ref (zad G 0)), (1, .int x1), (2, .int x2), (3, .int x3)] [] σ (some (.int res.1)) res.2) {x1 : Int32} {x2 : Int32} {x3 : Int32} {σ : ZM} (h : b_X9_choice_55 N rec55 x1 x2 x3 σ = some res) : zF G MX9_choice (d + 1) 55 [(0, .ref (zad G 0)), (1, .int x1), (2, .int x2), (3, .int x3)] [] σ (some (.int res.1)) res.2 := by
  unfold b_X9_choice_55 at h
  refine zf_iload_n 3 (q := 56) (j := 3) rfl dX9_choice_55 rfl rfl ?_
  refine zf_aload_n 0 (q := 57) (j := 0) rfl dX9_choice_56 rfl rfl ?_
  refine zf_getI (q := 60) rfl dX9_choice_57 lf_RX9_132 (sm0 hG) rfl ?_
  refine zf_icmp_ge (q := 63) (tgt := 105) rfl (by decide) dX9_choice_60 (fun hc60 => ?_) (fun hc60 => ?_)
  · replace h := (zi h).1 hc60
    refine zf_iload_n 2 (q := 106) (j := 2) rfl dX9_choice_105 rfl rfl ?_
    cases h
    exact zf_ireturn dX9_choice_106 rfl
  · replace h := (zi h).2 hc60
    refine zf_iload_n 3 (q := 64) (j := 3) rfl dX9_choice_63 rfl rfl ?_
    refine zf_iload_n 1 (q := 65) (j := 1) rfl dX9_choice_64 rfl rfl ?_
    refine zf_icmp_eq (q := 68) (tgt := 99) rfl (by decide) dX9_choice_65 (fun hc65 => ?_) (fun hc65 => ?_)
    · replace h := (zi h).1 hc65
      exact zf_sub [0, 1, 2, 3] rfl (ok_X9_choice_99 hG N hd hr55 h)
    · replace h := (zi h).2 hc65
      refine zf_aload_n 0 (q := 69) (j := 0) rfl dX9_choice_68 rfl rfl ?_
      refine zf_iload_n 3 (q := 70) (j := 3) rfl dX9_choice_69 rfl rfl ?_
      refine zf_iload_n 1 (q := 71) (j := 1) rfl dX9_choice_70 rfl rfl ?_
      obtain ⟨r2, s3, es3, h⟩ := zc h
      refine zf_callV (q := 74) (As := [.int x3, .int x1]) (rest := []) (st1 := [.int r2]) rfl dX9_choice_71 lv_RX9_189 (sm0 hG) rfl rfl (Nat.le_of_ble_eq_true rfl) (ok_X9_passes hG N (Nat.le_trans (by decide) hd) es3) rfl ?_
      refine zf_if_eq (q := 77) (tgt := 99) rfl (by decide) dX9_choice_74 (fun hc74 => ?_) (fun hc74 => ?_)
      · replace h := (zi h).1 hc74
        exact zf_sub [0, 1, 2, 3] rfl (ok_X9_choice_99 hG N hd hr55 h)
      · replace h := (zi h).2 hc74
        refine zf_iload_n 2 (q := 78) (j := 2) rfl dX9_choice_77 rfl rfl ?_
        refine zf_bipush (q := 80) rfl dX9_choice_78 bpm9 ?_
        refine zf_icmp_eq (q := 83) (tgt := 93) rfl (by decide) dX9_choice_80 (fun hc80 => ?_) (fun hc80 => ?_)
        · replace h := (zi h).1 hc80
          exact zf_sub [0, 1, 3] rfl (ok_X9_choice_93 hG N hd hr55 h)
        · replace h := (zi h).2 hc80
          refine zf_aload_n 0 (q := 84) (j := 0) rfl dX9_choice_83 rfl rfl ?_
          refine zf_iload_n 1 (q := 85) (j := 1) rfl dX9_choice_84 rfl rfl ?_
          refine zf_iload_n 3 (q := 86) (j := 3) rfl dX9_choice_85 rfl rfl ?_
          refine zf_iload_n 2 (q := 87) (j := 2) rfl dX9_choice_86 rfl rfl ?_
          obtain ⟨r4, s5, es5, h⟩ := zc h
          refine zf_callV (q := 90) (As := [.int x1, .int x3, .int x2]) (rest := []) (st1 := [.int r4]) rfl dX9_choice_87 lv_RX9_185 (sm0 hG) rfl rfl (Nat.le_of_ble_eq_true rfl) (ok_X9_isAhead hG N (Nat.le_trans (by decide) hd) es5) rfl ?_
          refine zf_if_eq (q := 93) (tgt := 97) rfl (by decide) dX9_choice_90 (fun hc90 => ?_) (fun hc90 => ?_)
          · replace h := (zi h).1 hc90
            refine zf_iload_n 2 (q := 98) (j := 2) rfl dX9_choice_97 rfl rfl ?_
            exact zf_sub [0, 1, 3] rfl (ok_X9_choice_98 hG N hd hr55 h)
          · replace h := (zi h).2 hc90
            exact zf_sub [0, 1, 3] rfl (ok_X9_choice_93 hG N hd hr55 h)
def f_X9_choice_55 (N : Nat) : Nat → Int32 → Int32 → Int32 → ZM → Option (Int32 × ZM)
  | 0, _, _, _, _ => none
  | n + 1, x1, x2, x3, σ => b_X9_choice_55 N (f_X9_choice_55 N n) x1 x2 x3 σ
theorem ok_X9_choice_55 {G : ZG} (hG : zSH G = shM) (N : Nat) {d : Nat} (hd : 1 ≤ d) {res : Int32 × ZM} : ∀ (n : Nat) (x1 : Int32) (x2 : Int32) (x3 : Int32) (σ : ZM), f_X9_choice_55 N n x1 x2 x3 σ = some res → zF G MX9_choice (d + 1) 55 [(0, .ref (zad G 0)), (1, .int x1), (2, .int x2), (3, .int x3)] [] σ (some (.int res.1)) res.2 := by
  intro n
  induction n with
  | zero => intro x1 x2 x3 σ h; exact absurd h (by simp [f_X9_choice_55])
  | succ n ih => intro x1 x2 x3 σ h; rw [f_X9_choice_55] at h; exact ok_b_X9_choice_55 hG N hd ih h
def f_X9_choice_47 (N : Nat) (rec5 : Int32 → Int32 → Int32 → ZM → Option (Int32 × ZM)) (x1 : Int32) (x2 : Int32) (x3 : Int32) (σ : ZM) : Option (Int32 × ZM) :=
  (some (x3 + (1 : Int32))).bind fun v6 =>
  rec5 x1 x2 v6 σ
set_option maxRecDepth 100000 in
theorem ok_X9_choice_47 {G : ZG} (hG : zSH G = shM) (N : Nat) {d : Nat} (hd : 1 ≤ d) {rec5 : Int32 → Int32 → Int32 → ZM → Option (Int32 × ZM)} {res : Int32 × ZM} (hr5 : ∀ (x1 : Int32) (x2 : Int32) (x3 : Int32) (σ : ZM), rec5 x1 x2 x3 σ = some res → zF G MX9_choice (d + 1) 5 [(0, .ref (zad G 0)), (1, .int x1), (2, .int x2), (3, .int x3)] [] σ (some (.int res.1)) res.2) {x1 : Int32} {x2 : Int32} {x3 : Int32} {σ : ZM} (h : f_X9_choice_47 N rec5 x1 x2 x3 σ = some res) : zF G MX9_choice (d + 1) 47 [(0, .ref (zad G 0)), (1, .int x1), (2, .int x2), (3, .int x3)] [] σ (some (.int res.1)) res.2 := by
  unfold f_X9_choice_47 at h
  obtain ⟨v6, ev6, h⟩ := zb h
  refine zf_iinc 3 (q := 50) (v := v6) (lv1 := [(3, .int v6), (0, .ref (zad G 0)), (1, .int x1), (2, .int x2)]) rfl dX9_choice_47 rfl (by rw [ic1]; exact ev6) (by decide) rfl ?_
  refine zf_goto (tgt := 5) (by decide) dX9_choice_50 ?_
  exact zf_sub [1, 2, 3, 0] rfl (hr5 _ _ _ _ h)
def f_X9_choice_46 (N : Nat) (rec5 : Int32 → Int32 → Int32 → ZM → Option (Int32 × ZM)) (x1 : Int32) (x3 : Int32) (y0 : Int32) (σ : ZM) : Option (Int32 × ZM) :=
  f_X9_choice_47 N rec5 x1 y0 x3 σ
set_option maxRecDepth 100000 in
theorem ok_X9_choice_46 {G : ZG} (hG : zSH G = shM) (N : Nat) {d : Nat} (hd : 1 ≤ d) {rec5 : Int32 → Int32 → Int32 → ZM → Option (Int32 × ZM)} {res : Int32 × ZM} (hr5 : ∀ (x1 : Int32) (x2 : Int32) (x3 : Int32) (σ : ZM), rec5 x1 x2 x3 σ = some res → zF G MX9_choice (d + 1) 5 [(0, .ref (zad G 0)), (1, .int x1), (2, .int x2), (3, .int x3)] [] σ (some (.int res.1)) res.2) {x1 : Int32} {x3 : Int32} {y0 : Int32} {σ : ZM} (h : f_X9_choice_46 N rec5 x1 x3 y0 σ = some res) : zF G MX9_choice (d + 1) 46 [(0, .ref (zad G 0)), (1, .int x1), (3, .int x3)] [.int y0] σ (some (.int res.1)) res.2 := by
  unfold f_X9_choice_46 at h
  refine zf_istore_n (q := 47) (y := y0) (i := 2) (lv1 := [(2, .int y0), (0, .ref (zad G 0)), (1, .int x1), (3, .int x3)]) rfl dX9_choice_46 rfl (by decide) rfl rfl ?_
  exact zf_sub [1, 2, 0, 3] rfl (ok_X9_choice_47 hG N hd hr5 h)
def f_X9_choice_38 (N : Nat) (rec5 : Int32 → Int32 → Int32 → ZM → Option (Int32 × ZM)) (x1 : Int32) (x3 : Int32) (σ : ZM) : Option (Int32 × ZM) :=
  f_X9_choice_46 N rec5 x1 x3 ((16 : Int32) + x3) σ
set_option maxRecDepth 100000 in
theorem ok_X9_choice_38 {G : ZG} (hG : zSH G = shM) (N : Nat) {d : Nat} (hd : 1 ≤ d) {rec5 : Int32 → Int32 → Int32 → ZM → Option (Int32 × ZM)} {res : Int32 × ZM} (hr5 : ∀ (x1 : Int32) (x2 : Int32) (x3 : Int32) (σ : ZM), rec5 x1 x2 x3 σ = some res → zF G MX9_choice (d + 1) 5 [(0, .ref (zad G 0)), (1, .int x1), (2, .int x2), (3, .int x3)] [] σ (some (.int res.1)) res.2) {x1 : Int32} {x3 : Int32} {σ : ZM} (h : f_X9_choice_38 N rec5 x1 x3 σ = some res) : zF G MX9_choice (d + 1) 38 [(0, .ref (zad G 0)), (1, .int x1), (3, .int x3)] [] σ (some (.int res.1)) res.2 := by
  unfold f_X9_choice_38 at h
  refine zf_bipush (q := 40) rfl dX9_choice_38 bp16 ?_
  refine zf_iload_n 2 (q := 41) (j := 3) rfl dX9_choice_40 rfl rfl ?_
  refine zf_iadd (q := 42) rfl dX9_choice_41 ?_
  refine zf_goto (tgt := 46) (by decide) dX9_choice_42 ?_
  exact zf_sub [0, 1, 2] rfl (ok_X9_choice_46 hG N hd hr5 h)
def b_X9_choice_5 (N : Nat) (rec5 : Int32 → Int32 → Int32 → ZM → Option (Int32 × ZM)) (x1 : Int32) (x2 : Int32) (x3 : Int32) (σ : ZM) : Option (Int32 × ZM) :=
  if (4 : Int32) ≤ x3 then
  (f_X9_choice_55 N N x1 x2 (0 : Int32) σ)
  else
  (zbd (f_X9_speaks N x3 x1 σ) fun r7 s8 =>
  if r7 = 0 then
  (f_X9_choice_47 N rec5 x1 x2 x3 s8)
  else
  (if x2 = (-9 : Int32) then
  (f_X9_choice_38 N rec5 x1 x3 s8)
  else
  (zbd (f_X9_isAhead N x1 ((16 : Int32) + x3) x2 s8) fun r9 s10 =>
  if r9 = 0 then
  (f_X9_choice_46 N rec5 x1 x3 x2 s10)
  else
  (f_X9_choice_38 N rec5 x1 x3 s10))))
set_option maxRecDepth 100000 in
theorem ok_b_X9_choice_5 {G : ZG} (hG : zSH G = shM) (N : Nat) {d : Nat} (hd : 1 ≤ d) {rec5 : Int32 → Int32 → Int32 → ZM → Option (Int32 × ZM)} {res : Int32 × ZM} (hr5 : ∀ (x1 : Int32) (x2 : Int32) (x3 : Int32) (σ : ZM), rec5 x1 x2 x3 σ = some res → zF G MX9_choice (d + 1) 5 [(0, .ref (zad G 0)), (1, .int x1), (2, .int x2), (3, .int x3)] [] σ (some (.int res.1)) res.2) {x1 : Int32} {x2 : Int32} {x3 : Int32} {σ : ZM} (h : b_X9_choice_5 N rec5 x1 x2 x3 σ = some res) : zF G MX9_choice (d + 1) 5 [(0, .ref (zad G 0)), (1, .int x1), (2, .int x2), (3, .int x3)] [] σ (some (.int res.1)) res.2 := by
  unfold b_X9_choice_5 at h
  refine zf_iload_n 3 (q := 6) (j := 3) rfl dX9_choice_5 rfl rfl ?_
  refine zf_iconst (q := 7) rfl dX9_choice_6 ic4 ?_
  refine zf_icmp_ge (q := 10) (tgt := 53) rfl (by decide) dX9_choice_7 (fun hc7 => ?_) (fun hc7 => ?_)
  · replace h := (zi h).1 hc7
    refine zf_iconst (q := 54) rfl dX9_choice_53 ic0 ?_
    refine zf_istore_n (q := 55) (y := (0 : Int32)) (i := 3) (lv1 := [(3, .int (0 : Int32)), (0, .ref (zad G 0)), (1, .int x1), (2, .int x2)]) rfl dX9_choice_54 rfl (by decide) rfl rfl ?_
    exact zf_sub [1, 2, 3, 0] rfl (ok_X9_choice_55 hG N hd _ _ _ _ _ h)
  · replace h := (zi h).2 hc7
    refine zf_aload_n 0 (q := 11) (j := 0) rfl dX9_choice_10 rfl rfl ?_
    refine zf_iload_n 3 (q := 12) (j := 3) rfl dX9_choice_11 rfl rfl ?_
    refine zf_iload_n 1 (q := 13) (j := 1) rfl dX9_choice_12 rfl rfl ?_
    obtain ⟨r7, s8, es8, h⟩ := zc h
    refine zf_callV (q := 16) (As := [.int x3, .int x1]) (rest := []) (st1 := [.int r7]) rfl dX9_choice_13 lv_RX9_182 (sm0 hG) rfl rfl (Nat.le_of_ble_eq_true rfl) (ok_X9_speaks hG N (Nat.le_trans (by decide) hd) es8) rfl ?_
    refine zf_if_eq (q := 19) (tgt := 47) rfl (by decide) dX9_choice_16 (fun hc16 => ?_) (fun hc16 => ?_)
    · replace h := (zi h).1 hc16
      exact zf_sub [0, 1, 2, 3] rfl (ok_X9_choice_47 hG N hd hr5 h)
    · replace h := (zi h).2 hc16
      refine zf_iload_n 2 (q := 20) (j := 2) rfl dX9_choice_19 rfl rfl ?_
      refine zf_bipush (q := 22) rfl dX9_choice_20 bpm9 ?_
      refine zf_icmp_eq (q := 25) (tgt := 38) rfl (by decide) dX9_choice_22 (fun hc22 => ?_) (fun hc22 => ?_)
      · replace h := (zi h).1 hc22
        exact zf_sub [0, 1, 3] rfl (ok_X9_choice_38 hG N hd hr5 h)
      · replace h := (zi h).2 hc22
        refine zf_aload_n 0 (q := 26) (j := 0) rfl dX9_choice_25 rfl rfl ?_
        refine zf_iload_n 1 (q := 27) (j := 1) rfl dX9_choice_26 rfl rfl ?_
        refine zf_bipush (q := 29) rfl dX9_choice_27 bp16 ?_
        refine zf_iload_n 3 (q := 30) (j := 3) rfl dX9_choice_29 rfl rfl ?_
        refine zf_iadd (q := 31) rfl dX9_choice_30 ?_
        refine zf_iload_n 2 (q := 32) (j := 2) rfl dX9_choice_31 rfl rfl ?_
        obtain ⟨r9, s10, es10, h⟩ := zc h
        refine zf_callV (q := 35) (As := [.int x1, .int ((16 : Int32) + x3), .int x2]) (rest := []) (st1 := [.int r9]) rfl dX9_choice_32 lv_RX9_185 (sm0 hG) rfl rfl (Nat.le_of_ble_eq_true rfl) (ok_X9_isAhead hG N (Nat.le_trans (by decide) hd) es10) rfl ?_
        refine zf_if_eq (q := 38) (tgt := 45) rfl (by decide) dX9_choice_35 (fun hc35 => ?_) (fun hc35 => ?_)
        · replace h := (zi h).1 hc35
          refine zf_iload_n 2 (q := 46) (j := 2) rfl dX9_choice_45 rfl rfl ?_
          exact zf_sub [0, 1, 3] rfl (ok_X9_choice_46 hG N hd hr5 h)
        · replace h := (zi h).2 hc35
          exact zf_sub [0, 1, 3] rfl (ok_X9_choice_38 hG N hd hr5 h)
def f_X9_choice_5 (N : Nat) : Nat → Int32 → Int32 → Int32 → ZM → Option (Int32 × ZM)
  | 0, _, _, _, _ => none
  | n + 1, x1, x2, x3, σ => b_X9_choice_5 N (f_X9_choice_5 N n) x1 x2 x3 σ
theorem ok_X9_choice_5 {G : ZG} (hG : zSH G = shM) (N : Nat) {d : Nat} (hd : 1 ≤ d) {res : Int32 × ZM} : ∀ (n : Nat) (x1 : Int32) (x2 : Int32) (x3 : Int32) (σ : ZM), f_X9_choice_5 N n x1 x2 x3 σ = some res → zF G MX9_choice (d + 1) 5 [(0, .ref (zad G 0)), (1, .int x1), (2, .int x2), (3, .int x3)] [] σ (some (.int res.1)) res.2 := by
  intro n
  induction n with
  | zero => intro x1 x2 x3 σ h; exact absurd h (by simp [f_X9_choice_5])
  | succ n ih => intro x1 x2 x3 σ h; rw [f_X9_choice_5] at h; exact ok_b_X9_choice_5 hG N hd ih h
def f_X9_choice (N : Nat) (x1 : Int32) (σ : ZM) : Option (Int32 × ZM) :=
  f_X9_choice_5 N N x1 (-9 : Int32) (0 : Int32) σ
set_option maxRecDepth 100000 in
theorem ok_X9_choice {G : ZG} (hG : zSH G = shM) (N : Nat) {d : Nat} (hd : 2 ≤ d) {x1 : Int32} {σ : ZM} {res : Int32 × ZM} (h : f_X9_choice N x1 σ = some res) : zCt G d MX9_choice [.ref (zad G 0), .int x1] σ (some (.int res.1)) res.2 := by
  obtain ⟨d, rfl⟩ : ∃ k, d = k + 1 := ⟨d - 1, by omega⟩
  have hd : 1 ≤ d := by omega
  refine zct_of (by decide) (Nat.le_of_ble_eq_true rfl) (lv := [(0, .ref (zad G 0)), (1, .int x1)]) rfl ?_
  unfold f_X9_choice at h
  refine zf_bipush (q := 2) rfl dX9_choice_0 bpm9 ?_
  refine zf_istore_n (q := 3) (y := (-9 : Int32)) (i := 2) (lv1 := [(2, .int (-9 : Int32)), (0, .ref (zad G 0)), (1, .int x1)]) rfl dX9_choice_2 rfl (by decide) rfl rfl ?_
  refine zf_iconst (q := 4) rfl dX9_choice_3 ic0 ?_
  refine zf_istore_n (q := 5) (y := (0 : Int32)) (i := 3) (lv1 := [(3, .int (0 : Int32)), (2, .int (-9 : Int32)), (0, .ref (zad G 0)), (1, .int x1)]) rfl dX9_choice_4 rfl (by decide) rfl rfl ?_
  exact zf_sub [2, 3, 1, 0] rfl (ok_X9_choice_5 hG N hd _ _ _ _ _ h)
-- ===== X9_layNext: NearCopiesModel.layNext(I)V
def b_X9_layNext_105 (N : Nat) (rec105 : Int32 → Int32 → Int32 → ZM → Option (Unit × ZM)) (x1 : Int32) (x2 : Int32) (x3 : Int32) (σ : ZM) : Option (Unit × ZM) :=
  (zald σ 20 10 x2).bind fun v1 =>
  if v1 ≤ x3 then
  ((zald σ 20 10 x2).bind fun v2 =>
  (zast σ 25 10 x1 ((1 : Int32) + v2)).bind fun s3 =>
  some ((), s3))
  else
  ((zald σ 21 100 (((10 : Int32) * x2) + x3)).bind fun v4 =>
  (zast σ 26 100 ((((10 : Int32) * x1) + (1 : Int32)) + x3) v4).bind fun s5 =>
  (some (x3 + (1 : Int32))).bind fun v6 =>
  rec105 x1 x2 v6 s5)
set_option maxRecDepth 100000 in
theorem ok_b_X9_layNext_105 {G : ZG} (hG : zSH G = shM) (N : Nat) {d : Nat} (hd : 2 ≤ d) {rec105 : Int32 → Int32 → Int32 → ZM → Option (Unit × ZM)} {res : Unit × ZM} (hr105 : ∀ (x1 : Int32) (x2 : Int32) (x3 : Int32) (σ : ZM), rec105 x1 x2 x3 σ = some res → zF G MX9_layNext (d + 1) 105 [(0, .ref (zad G 0)), (1, .int x1), (2, .int x2), (3, .int x3)] [] σ none res.2) {x1 : Int32} {x2 : Int32} {x3 : Int32} {σ : ZM} (h : b_X9_layNext_105 N rec105 x1 x2 x3 σ = some res) : zF G MX9_layNext (d + 1) 105 [(0, .ref (zad G 0)), (1, .int x1), (2, .int x2), (3, .int x3)] [] σ none res.2 := by
  unfold b_X9_layNext_105 at h
  refine zf_iload_n 3 (q := 106) (j := 3) rfl dX9_layNext_105 rfl rfl ?_
  refine zf_aload_n 0 (q := 107) (j := 0) rfl dX9_layNext_106 rfl rfl ?_
  refine zf_getR (q := 110) rfl dX9_layNext_107 lf_RX9_68 (sm0 hG) rfl ?_
  refine zf_iload_n 2 (q := 111) (j := 2) rfl dX9_layNext_110 rfl rfl ?_
  obtain ⟨v1, ev1, h⟩ := zb h
  refine zf_iald (q := 112) rfl dX9_layNext_111 (sm20 hG) ev1 ?_
  refine zf_icmp_ge (q := 115) (tgt := 145) rfl (by decide) dX9_layNext_112 (fun hc112 => ?_) (fun hc112 => ?_)
  · replace h := (zi h).1 hc112
    refine zf_aload_n 0 (q := 146) (j := 0) rfl dX9_layNext_145 rfl rfl ?_
    refine zf_getR (q := 149) rfl dX9_layNext_146 lf_RX9_83 (sm0 hG) rfl ?_
    refine zf_iload_n 1 (q := 150) (j := 1) rfl dX9_layNext_149 rfl rfl ?_
    refine zf_iconst (q := 151) rfl dX9_layNext_150 ic1 ?_
    refine zf_aload_n 0 (q := 152) (j := 0) rfl dX9_layNext_151 rfl rfl ?_
    refine zf_getR (q := 155) rfl dX9_layNext_152 lf_RX9_68 (sm0 hG) rfl ?_
    refine zf_iload_n 2 (q := 156) (j := 2) rfl dX9_layNext_155 rfl rfl ?_
    obtain ⟨v2, ev2, h⟩ := zb h
    refine zf_iald (q := 157) rfl dX9_layNext_156 (sm20 hG) ev2 ?_
    refine zf_iadd (q := 158) rfl dX9_layNext_157 ?_
    obtain ⟨s3, es3, h⟩ := zb h
    refine zf_iast (q := 159) rfl dX9_layNext_158 (sm25 hG) es3 ?_
    cases h
    exact zf_return dX9_layNext_159 rfl
  · replace h := (zi h).2 hc112
    refine zf_aload_n 0 (q := 116) (j := 0) rfl dX9_layNext_115 rfl rfl ?_
    refine zf_getR (q := 119) rfl dX9_layNext_116 lf_RX9_86 (sm0 hG) rfl ?_
    refine zf_bipush (q := 121) rfl dX9_layNext_119 bp10 ?_
    refine zf_iload_n 1 (q := 122) (j := 1) rfl dX9_layNext_121 rfl rfl ?_
    refine zf_imul (q := 123) rfl dX9_layNext_122 ?_
    refine zf_iconst (q := 124) rfl dX9_layNext_123 ic1 ?_
    refine zf_iadd (q := 125) rfl dX9_layNext_124 ?_
    refine zf_iload_n 3 (q := 126) (j := 3) rfl dX9_layNext_125 rfl rfl ?_
    refine zf_iadd (q := 127) rfl dX9_layNext_126 ?_
    refine zf_aload_n 0 (q := 128) (j := 0) rfl dX9_layNext_127 rfl rfl ?_
    refine zf_getR (q := 131) rfl dX9_layNext_128 lf_RX9_71 (sm0 hG) rfl ?_
    refine zf_bipush (q := 133) rfl dX9_layNext_131 bp10 ?_
    refine zf_iload_n 2 (q := 134) (j := 2) rfl dX9_layNext_133 rfl rfl ?_
    refine zf_imul (q := 135) rfl dX9_layNext_134 ?_
    refine zf_iload_n 3 (q := 136) (j := 3) rfl dX9_layNext_135 rfl rfl ?_
    refine zf_iadd (q := 137) rfl dX9_layNext_136 ?_
    obtain ⟨v4, ev4, h⟩ := zb h
    refine zf_iald (q := 138) rfl dX9_layNext_137 (sm21 hG) ev4 ?_
    obtain ⟨s5, es5, h⟩ := zb h
    refine zf_iast (q := 139) rfl dX9_layNext_138 (sm26 hG) es5 ?_
    obtain ⟨v6, ev6, h⟩ := zb h
    refine zf_iinc 3 (q := 142) (v := v6) (lv1 := [(3, .int v6), (0, .ref (zad G 0)), (1, .int x1), (2, .int x2)]) rfl dX9_layNext_139 rfl (by rw [ic1]; exact ev6) (by decide) rfl ?_
    refine zf_goto (tgt := 105) (by decide) dX9_layNext_142 ?_
    exact zf_sub [1, 2, 3, 0] rfl (hr105 _ _ _ _ h)
def f_X9_layNext_105 (N : Nat) : Nat → Int32 → Int32 → Int32 → ZM → Option (Unit × ZM)
  | 0, _, _, _, _ => none
  | n + 1, x1, x2, x3, σ => b_X9_layNext_105 N (f_X9_layNext_105 N n) x1 x2 x3 σ
theorem ok_X9_layNext_105 {G : ZG} (hG : zSH G = shM) (N : Nat) {d : Nat} (hd : 2 ≤ d) {res : Unit × ZM} : ∀ (n : Nat) (x1 : Int32) (x2 : Int32) (x3 : Int32) (σ : ZM), f_X9_layNext_105 N n x1 x2 x3 σ = some res → zF G MX9_layNext (d + 1) 105 [(0, .ref (zad G 0)), (1, .int x1), (2, .int x2), (3, .int x3)] [] σ none res.2 := by
  intro n
  induction n with
  | zero => intro x1 x2 x3 σ h; exact absurd h (by simp [f_X9_layNext_105])
  | succ n ih => intro x1 x2 x3 σ h; rw [f_X9_layNext_105] at h; exact ok_b_X9_layNext_105 hG N hd ih h
def f_X9_layNext (N : Nat) (x1 : Int32) (σ : ZM) : Option (Unit × ZM) :=
  zbd (f_X9_choice N x1 σ) fun r7 s8 =>
  (zast s8 24 10 x1 r7).bind fun s9 =>
  (zast s9 25 10 x1 (0 : Int32)).bind fun s10 =>
  (zast s10 22 10 x1 (-9 : Int32)).bind fun s11 =>
  (zast s11 23 10 x1 (0 : Int32)).bind fun s12 =>
  if r7 = (-9 : Int32) then
  (some ((), s12))
  else
  ((zast s12 26 100 ((10 : Int32) * x1) x1).bind fun s13 =>
  (zast s13 25 10 x1 (1 : Int32)).bind fun s14 =>
  zbd (f_X9_worth N x1 r7 (2 : Int32) s14) fun r15 s16 =>
  (zast s16 23 10 x1 r15).bind fun s17 =>
  if r7 < (16 : Int32) then
  ((zald s17 17 10 r7).bind fun v18 =>
  (zast s17 22 10 x1 v18).bind fun s19 =>
  f_X9_layNext_105 N N x1 r7 (0 : Int32) s19)
  else
  ((zast s17 22 10 x1 (r7 - (16 : Int32))).bind fun s20 =>
  some ((), s20)))
set_option maxRecDepth 100000 in
theorem ok_X9_layNext {G : ZG} (hG : zSH G = shM) (N : Nat) {d : Nat} (hd : 3 ≤ d) {x1 : Int32} {σ : ZM} {res : Unit × ZM} (h : f_X9_layNext N x1 σ = some res) : zCt G d MX9_layNext [.ref (zad G 0), .int x1] σ none res.2 := by
  obtain ⟨d, rfl⟩ : ∃ k, d = k + 1 := ⟨d - 1, by omega⟩
  have hd : 2 ≤ d := by omega
  refine zct_of (by decide) (Nat.le_of_ble_eq_true rfl) (lv := [(0, .ref (zad G 0)), (1, .int x1)]) rfl ?_
  unfold f_X9_layNext at h
  refine zf_aload_n 0 (q := 1) (j := 0) rfl dX9_layNext_0 rfl rfl ?_
  refine zf_iload_n 1 (q := 2) (j := 1) rfl dX9_layNext_1 rfl rfl ?_
  obtain ⟨r7, s8, es8, h⟩ := zc h
  refine zf_callV (q := 5) (As := [.int x1]) (rest := []) (st1 := [.int r7]) rfl dX9_layNext_2 lv_RX9_192 (sm0 hG) rfl rfl (Nat.le_of_ble_eq_true rfl) (ok_X9_choice hG N (Nat.le_trans (by decide) hd) es8) rfl ?_
  refine zf_istore_n (q := 6) (y := r7) (i := 2) (lv1 := [(2, .int r7), (0, .ref (zad G 0)), (1, .int x1)]) rfl dX9_layNext_5 rfl (by decide) rfl rfl ?_
  refine zf_aload_n 1 (q := 7) (j := 0) rfl dX9_layNext_6 rfl rfl ?_
  refine zf_getR (q := 10) rfl dX9_layNext_7 lf_RX9_80 (sm0 hG) rfl ?_
  refine zf_iload_n 2 (q := 11) (j := 1) rfl dX9_layNext_10 rfl rfl ?_
  refine zf_iload_n 0 (q := 12) (j := 2) rfl dX9_layNext_11 rfl rfl ?_
  obtain ⟨s9, es9, h⟩ := zb h
  refine zf_iast (q := 13) rfl dX9_layNext_12 (sm24 hG) es9 ?_
  refine zf_aload_n 1 (q := 14) (j := 0) rfl dX9_layNext_13 rfl rfl ?_
  refine zf_getR (q := 17) rfl dX9_layNext_14 lf_RX9_83 (sm0 hG) rfl ?_
  refine zf_iload_n 2 (q := 18) (j := 1) rfl dX9_layNext_17 rfl rfl ?_
  refine zf_iconst (q := 19) rfl dX9_layNext_18 ic0 ?_
  obtain ⟨s10, es10, h⟩ := zb h
  refine zf_iast (q := 20) rfl dX9_layNext_19 (sm25 hG) es10 ?_
  refine zf_aload_n 1 (q := 21) (j := 0) rfl dX9_layNext_20 rfl rfl ?_
  refine zf_getR (q := 24) rfl dX9_layNext_21 lf_RX9_74 (sm0 hG) rfl ?_
  refine zf_iload_n 2 (q := 25) (j := 1) rfl dX9_layNext_24 rfl rfl ?_
  refine zf_bipush (q := 27) rfl dX9_layNext_25 bpm9 ?_
  obtain ⟨s11, es11, h⟩ := zb h
  refine zf_iast (q := 28) rfl dX9_layNext_27 (sm22 hG) es11 ?_
  refine zf_aload_n 1 (q := 29) (j := 0) rfl dX9_layNext_28 rfl rfl ?_
  refine zf_getR (q := 32) rfl dX9_layNext_29 lf_RX9_77 (sm0 hG) rfl ?_
  refine zf_iload_n 2 (q := 33) (j := 1) rfl dX9_layNext_32 rfl rfl ?_
  refine zf_iconst (q := 34) rfl dX9_layNext_33 ic0 ?_
  obtain ⟨s12, es12, h⟩ := zb h
  refine zf_iast (q := 35) rfl dX9_layNext_34 (sm23 hG) es12 ?_
  refine zf_iload_n 0 (q := 36) (j := 2) rfl dX9_layNext_35 rfl rfl ?_
  refine zf_bipush (q := 38) rfl dX9_layNext_36 bpm9 ?_
  refine zf_icmp_ne (q := 41) (tgt := 42) rfl (by decide) dX9_layNext_38 (fun hc38 => ?_) (fun hc38 => ?_)
  · replace h := (zi h).2 hc38
    refine zf_aload_n 1 (q := 43) (j := 0) rfl dX9_layNext_42 rfl rfl ?_
    refine zf_getR (q := 46) rfl dX9_layNext_43 lf_RX9_86 (sm0 hG) rfl ?_
    refine zf_bipush (q := 48) rfl dX9_layNext_46 bp10 ?_
    refine zf_iload_n 2 (q := 49) (j := 1) rfl dX9_layNext_48 rfl rfl ?_
    refine zf_imul (q := 50) rfl dX9_layNext_49 ?_
    refine zf_iload_n 2 (q := 51) (j := 1) rfl dX9_layNext_50 rfl rfl ?_
    obtain ⟨s13, es13, h⟩ := zb h
    refine zf_iast (q := 52) rfl dX9_layNext_51 (sm26 hG) es13 ?_
    refine zf_aload_n 1 (q := 53) (j := 0) rfl dX9_layNext_52 rfl rfl ?_
    refine zf_getR (q := 56) rfl dX9_layNext_53 lf_RX9_83 (sm0 hG) rfl ?_
    refine zf_iload_n 2 (q := 57) (j := 1) rfl dX9_layNext_56 rfl rfl ?_
    refine zf_iconst (q := 58) rfl dX9_layNext_57 ic1 ?_
    obtain ⟨s14, es14, h⟩ := zb h
    refine zf_iast (q := 59) rfl dX9_layNext_58 (sm25 hG) es14 ?_
    refine zf_aload_n 1 (q := 60) (j := 0) rfl dX9_layNext_59 rfl rfl ?_
    refine zf_getR (q := 63) rfl dX9_layNext_60 lf_RX9_77 (sm0 hG) rfl ?_
    refine zf_iload_n 2 (q := 64) (j := 1) rfl dX9_layNext_63 rfl rfl ?_
    refine zf_aload_n 1 (q := 65) (j := 0) rfl dX9_layNext_64 rfl rfl ?_
    refine zf_iload_n 2 (q := 66) (j := 1) rfl dX9_layNext_65 rfl rfl ?_
    refine zf_iload_n 0 (q := 67) (j := 2) rfl dX9_layNext_66 rfl rfl ?_
    refine zf_iconst (q := 68) rfl dX9_layNext_67 ic2 ?_
    obtain ⟨r15, s16, es16, h⟩ := zc h
    refine zf_callV (q := 71) (As := [.int x1, .int r7, .int (2 : Int32)]) (rest := [.int x1, .ref (zad G 23)]) (st1 := [.int r15, .int x1, .ref (zad G 23)]) rfl dX9_layNext_68 lv_RX9_178 (sm0 hG) rfl rfl (Nat.le_of_ble_eq_true rfl) (ok_X9_worth hG N (Nat.le_trans (by decide) hd) es16) rfl ?_
    obtain ⟨s17, es17, h⟩ := zb h
    refine zf_iast (q := 72) rfl dX9_layNext_71 (sm23 hG) es17 ?_
    refine zf_iload_n 0 (q := 73) (j := 2) rfl dX9_layNext_72 rfl rfl ?_
    refine zf_bipush (q := 75) rfl dX9_layNext_73 bp16 ?_
    refine zf_icmp_lt (q := 78) (tgt := 91) rfl (by decide) dX9_layNext_75 (fun hc75 => ?_) (fun hc75 => ?_)
    · replace h := (zi h).1 hc75
      refine zf_aload_n 1 (q := 92) (j := 0) rfl dX9_layNext_91 rfl rfl ?_
      refine zf_getR (q := 95) rfl dX9_layNext_92 lf_RX9_74 (sm0 hG) rfl ?_
      refine zf_iload_n 2 (q := 96) (j := 1) rfl dX9_layNext_95 rfl rfl ?_
      refine zf_aload_n 1 (q := 97) (j := 0) rfl dX9_layNext_96 rfl rfl ?_
      refine zf_getR (q := 100) rfl dX9_layNext_97 lf_RX9_59 (sm0 hG) rfl ?_
      refine zf_iload_n 0 (q := 101) (j := 2) rfl dX9_layNext_100 rfl rfl ?_
      obtain ⟨v18, ev18, h⟩ := zb h
      refine zf_iald (q := 102) rfl dX9_layNext_101 (sm17 hG) ev18 ?_
      obtain ⟨s19, es19, h⟩ := zb h
      refine zf_iast (q := 103) rfl dX9_layNext_102 (sm22 hG) es19 ?_
      refine zf_iconst (q := 104) rfl dX9_layNext_103 ic0 ?_
      refine zf_istore_n (q := 105) (y := (0 : Int32)) (i := 3) (lv1 := [(3, .int (0 : Int32)), (2, .int r7), (0, .ref (zad G 0)), (1, .int x1)]) rfl dX9_layNext_104 rfl (by decide) rfl rfl ?_
      exact zf_sub [2, 3, 1, 0] rfl (ok_X9_layNext_105 hG N hd _ _ _ _ _ h)
    · replace h := (zi h).2 hc75
      refine zf_aload_n 1 (q := 79) (j := 0) rfl dX9_layNext_78 rfl rfl ?_
      refine zf_getR (q := 82) rfl dX9_layNext_79 lf_RX9_74 (sm0 hG) rfl ?_
      refine zf_iload_n 2 (q := 83) (j := 1) rfl dX9_layNext_82 rfl rfl ?_
      refine zf_iload_n 0 (q := 84) (j := 2) rfl dX9_layNext_83 rfl rfl ?_
      refine zf_bipush (q := 86) rfl dX9_layNext_84 bp16 ?_
      refine zf_isub (q := 87) rfl dX9_layNext_86 ?_
      obtain ⟨s20, es20, h⟩ := zb h
      refine zf_iast (q := 88) rfl dX9_layNext_87 (sm22 hG) es20 ?_
      refine zf_goto (tgt := 159) (by decide) dX9_layNext_88 ?_
      cases h
      exact zf_return dX9_layNext_159 rfl
  · replace h := (zi h).1 hc38
    cases h
    exact zf_return dX9_layNext_41 rfl
-- ===== X9_takeNext: NearCopiesModel.takeNext(I)Z
def f_X9_takeNext_97 (N : Nat) (rec53 : Int32 → Int32 → Int32 → ZM → Option (Int32 × ZM)) (x1 : Int32) (x3 : Int32) (y0 : Int32) (σ : ZM) : Option (Int32 × ZM) :=
  (zald σ 26 100 (((10 : Int32) * x1) + x3)).bind fun v1 =>
  (zast σ 21 100 (((10 : Int32) * x1) + x3) v1).bind fun s2 =>
  (some (x3 + (1 : Int32))).bind fun v3 =>
  rec53 x1 y0 v3 s2
set_option maxRecDepth 100000 in
theorem ok_X9_takeNext_97 {G : ZG} (hG : zSH G = shM) (N : Nat) {d : Nat} {rec53 : Int32 → Int32 → Int32 → ZM → Option (Int32 × ZM)} {res : Int32 × ZM} (hr53 : ∀ (x1 : Int32) (x2 : Int32) (x3 : Int32) (σ : ZM), rec53 x1 x2 x3 σ = some res → zF G MX9_takeNext d 53 [(0, .ref (zad G 0)), (1, .int x1), (2, .int x2), (3, .int x3)] [] σ (some (.int res.1)) res.2) {x1 : Int32} {x3 : Int32} {y0 : Int32} {σ : ZM} (h : f_X9_takeNext_97 N rec53 x1 x3 y0 σ = some res) : zF G MX9_takeNext d 97 [(0, .ref (zad G 0)), (1, .int x1), (3, .int x3)] [.int y0] σ (some (.int res.1)) res.2 := by
  unfold f_X9_takeNext_97 at h
  refine zf_istore_n (q := 98) (y := y0) (i := 2) (lv1 := [(2, .int y0), (0, .ref (zad G 0)), (1, .int x1), (3, .int x3)]) rfl dX9_takeNext_97 rfl (by decide) rfl rfl ?_
  refine zf_aload_n 1 (q := 99) (j := 0) rfl dX9_takeNext_98 rfl rfl ?_
  refine zf_getR (q := 102) rfl dX9_takeNext_99 lf_RX9_71 (sm0 hG) rfl ?_
  refine zf_bipush (q := 104) rfl dX9_takeNext_102 bp10 ?_
  refine zf_iload_n 2 (q := 105) (j := 1) rfl dX9_takeNext_104 rfl rfl ?_
  refine zf_imul (q := 106) rfl dX9_takeNext_105 ?_
  refine zf_iload_n 3 (q := 107) (j := 3) rfl dX9_takeNext_106 rfl rfl ?_
  refine zf_iadd (q := 108) rfl dX9_takeNext_107 ?_
  refine zf_aload_n 1 (q := 109) (j := 0) rfl dX9_takeNext_108 rfl rfl ?_
  refine zf_getR (q := 112) rfl dX9_takeNext_109 lf_RX9_86 (sm0 hG) rfl ?_
  refine zf_bipush (q := 114) rfl dX9_takeNext_112 bp10 ?_
  refine zf_iload_n 2 (q := 115) (j := 1) rfl dX9_takeNext_114 rfl rfl ?_
  refine zf_imul (q := 116) rfl dX9_takeNext_115 ?_
  refine zf_iload_n 3 (q := 117) (j := 3) rfl dX9_takeNext_116 rfl rfl ?_
  refine zf_iadd (q := 118) rfl dX9_takeNext_117 ?_
  obtain ⟨v1, ev1, h⟩ := zb h
  refine zf_iald (q := 119) rfl dX9_takeNext_118 (sm26 hG) ev1 ?_
  obtain ⟨s2, es2, h⟩ := zb h
  refine zf_iast (q := 120) rfl dX9_takeNext_119 (sm21 hG) es2 ?_
  obtain ⟨v3, ev3, h⟩ := zb h
  refine zf_iinc 3 (q := 123) (v := v3) (lv1 := [(3, .int v3), (2, .int y0), (0, .ref (zad G 0)), (1, .int x1)]) rfl dX9_takeNext_120 rfl (by rw [ic1]; exact ev3) (by decide) rfl ?_
  refine zf_goto (tgt := 53) (by decide) dX9_takeNext_123 ?_
  exact zf_sub [2, 3, 1, 0] rfl (hr53 _ _ _ _ h)
def f_X9_takeNext_92 (N : Nat) (rec53 : Int32 → Int32 → Int32 → ZM → Option (Int32 × ZM)) (x1 : Int32) (x3 : Int32) (σ : ZM) : Option (Int32 × ZM) :=
  f_X9_takeNext_97 N rec53 x1 x3 (1 : Int32) σ
set_option maxRecDepth 100000 in
theorem ok_X9_takeNext_92 {G : ZG} (hG : zSH G = shM) (N : Nat) {d : Nat} {rec53 : Int32 → Int32 → Int32 → ZM → Option (Int32 × ZM)} {res : Int32 × ZM} (hr53 : ∀ (x1 : Int32) (x2 : Int32) (x3 : Int32) (σ : ZM), rec53 x1 x2 x3 σ = some res → zF G MX9_takeNext d 53 [(0, .ref (zad G 0)), (1, .int x1), (2, .int x2), (3, .int x3)] [] σ (some (.int res.1)) res.2) {x1 : Int32} {x3 : Int32} {σ : ZM} (h : f_X9_takeNext_92 N rec53 x1 x3 σ = some res) : zF G MX9_takeNext d 92 [(0, .ref (zad G 0)), (1, .int x1), (3, .int x3)] [] σ (some (.int res.1)) res.2 := by
  unfold f_X9_takeNext_92 at h
  refine zf_iconst (q := 93) rfl dX9_takeNext_92 ic1 ?_
  refine zf_goto (tgt := 97) (by decide) dX9_takeNext_93 ?_
  exact zf_sub [0, 1, 2] rfl (ok_X9_takeNext_97 hG N hr53 h)
def b_X9_takeNext_53 (N : Nat) (rec53 : Int32 → Int32 → Int32 → ZM → Option (Int32 × ZM)) (x1 : Int32) (x2 : Int32) (x3 : Int32) (σ : ZM) : Option (Int32 × ZM) :=
  (zald σ 25 10 x1).bind fun v4 =>
  if v4 ≤ x3 then
  ((zald σ 22 10 x1).bind fun v5 =>
  (zast σ 17 10 x1 v5).bind fun s6 =>
  (zald s6 23 10 x1).bind fun v7 =>
  (zast s6 18 10 x1 v7).bind fun s8 =>
  (zald s8 24 10 x1).bind fun v9 =>
  (zast s8 19 10 x1 v9).bind fun s10 =>
  (zald s10 25 10 x1).bind fun v11 =>
  (zast s10 20 10 x1 v11).bind fun s12 =>
  zrz x2 s12)
  else
  (if x2 = 0 then
  ((zald σ 26 100 (((10 : Int32) * x1) + x3)).bind fun v13 =>
  (zald σ 21 100 (((10 : Int32) * x1) + x3)).bind fun v14 =>
  if v13 = v14 then
  (f_X9_takeNext_97 N rec53 x1 x3 (0 : Int32) σ)
  else
  (f_X9_takeNext_92 N rec53 x1 x3 σ))
  else
  (f_X9_takeNext_92 N rec53 x1 x3 σ))
set_option maxRecDepth 100000 in
theorem ok_b_X9_takeNext_53 {G : ZG} (hG : zSH G = shM) (N : Nat) {d : Nat} {rec53 : Int32 → Int32 → Int32 → ZM → Option (Int32 × ZM)} {res : Int32 × ZM} (hr53 : ∀ (x1 : Int32) (x2 : Int32) (x3 : Int32) (σ : ZM), rec53 x1 x2 x3 σ = some res → zF G MX9_takeNext d 53 [(0, .ref (zad G 0)), (1, .int x1), (2, .int x2), (3, .int x3)] [] σ (some (.int res.1)) res.2) {x1 : Int32} {x2 : Int32} {x3 : Int32} {σ : ZM} (h : b_X9_takeNext_53 N rec53 x1 x2 x3 σ = some res) : zF G MX9_takeNext d 53 [(0, .ref (zad G 0)), (1, .int x1), (2, .int x2), (3, .int x3)] [] σ (some (.int res.1)) res.2 := by
  unfold b_X9_takeNext_53 at h
  refine zf_iload_n 3 (q := 54) (j := 3) rfl dX9_takeNext_53 rfl rfl ?_
  refine zf_aload_n 0 (q := 55) (j := 0) rfl dX9_takeNext_54 rfl rfl ?_
  refine zf_getR (q := 58) rfl dX9_takeNext_55 lf_RX9_83 (sm0 hG) rfl ?_
  refine zf_iload_n 1 (q := 59) (j := 1) rfl dX9_takeNext_58 rfl rfl ?_
  obtain ⟨v4, ev4, h⟩ := zb h
  refine zf_iald (q := 60) rfl dX9_takeNext_59 (sm25 hG) ev4 ?_
  refine zf_icmp_ge (q := 63) (tgt := 126) rfl (by decide) dX9_takeNext_60 (fun hc60 => ?_) (fun hc60 => ?_)
  · replace h := (zi h).1 hc60
    refine zf_aload_n 0 (q := 127) (j := 0) rfl dX9_takeNext_126 rfl rfl ?_
    refine zf_getR (q := 130) rfl dX9_takeNext_127 lf_RX9_59 (sm0 hG) rfl ?_
    refine zf_iload_n 1 (q := 131) (j := 1) rfl dX9_takeNext_130 rfl rfl ?_
    refine zf_aload_n 0 (q := 132) (j := 0) rfl dX9_takeNext_131 rfl rfl ?_
    refine zf_getR (q := 135) rfl dX9_takeNext_132 lf_RX9_74 (sm0 hG) rfl ?_
    refine zf_iload_n 1 (q := 136) (j := 1) rfl dX9_takeNext_135 rfl rfl ?_
    obtain ⟨v5, ev5, h⟩ := zb h
    refine zf_iald (q := 137) rfl dX9_takeNext_136 (sm22 hG) ev5 ?_
    obtain ⟨s6, es6, h⟩ := zb h
    refine zf_iast (q := 138) rfl dX9_takeNext_137 (sm17 hG) es6 ?_
    refine zf_aload_n 0 (q := 139) (j := 0) rfl dX9_takeNext_138 rfl rfl ?_
    refine zf_getR (q := 142) rfl dX9_takeNext_139 lf_RX9_62 (sm0 hG) rfl ?_
    refine zf_iload_n 1 (q := 143) (j := 1) rfl dX9_takeNext_142 rfl rfl ?_
    refine zf_aload_n 0 (q := 144) (j := 0) rfl dX9_takeNext_143 rfl rfl ?_
    refine zf_getR (q := 147) rfl dX9_takeNext_144 lf_RX9_77 (sm0 hG) rfl ?_
    refine zf_iload_n 1 (q := 148) (j := 1) rfl dX9_takeNext_147 rfl rfl ?_
    obtain ⟨v7, ev7, h⟩ := zb h
    refine zf_iald (q := 149) rfl dX9_takeNext_148 (sm23 hG) ev7 ?_
    obtain ⟨s8, es8, h⟩ := zb h
    refine zf_iast (q := 150) rfl dX9_takeNext_149 (sm18 hG) es8 ?_
    refine zf_aload_n 0 (q := 151) (j := 0) rfl dX9_takeNext_150 rfl rfl ?_
    refine zf_getR (q := 154) rfl dX9_takeNext_151 lf_RX9_65 (sm0 hG) rfl ?_
    refine zf_iload_n 1 (q := 155) (j := 1) rfl dX9_takeNext_154 rfl rfl ?_
    refine zf_aload_n 0 (q := 156) (j := 0) rfl dX9_takeNext_155 rfl rfl ?_
    refine zf_getR (q := 159) rfl dX9_takeNext_156 lf_RX9_80 (sm0 hG) rfl ?_
    refine zf_iload_n 1 (q := 160) (j := 1) rfl dX9_takeNext_159 rfl rfl ?_
    obtain ⟨v9, ev9, h⟩ := zb h
    refine zf_iald (q := 161) rfl dX9_takeNext_160 (sm24 hG) ev9 ?_
    obtain ⟨s10, es10, h⟩ := zb h
    refine zf_iast (q := 162) rfl dX9_takeNext_161 (sm19 hG) es10 ?_
    refine zf_aload_n 0 (q := 163) (j := 0) rfl dX9_takeNext_162 rfl rfl ?_
    refine zf_getR (q := 166) rfl dX9_takeNext_163 lf_RX9_68 (sm0 hG) rfl ?_
    refine zf_iload_n 1 (q := 167) (j := 1) rfl dX9_takeNext_166 rfl rfl ?_
    refine zf_aload_n 0 (q := 168) (j := 0) rfl dX9_takeNext_167 rfl rfl ?_
    refine zf_getR (q := 171) rfl dX9_takeNext_168 lf_RX9_83 (sm0 hG) rfl ?_
    refine zf_iload_n 1 (q := 172) (j := 1) rfl dX9_takeNext_171 rfl rfl ?_
    obtain ⟨v11, ev11, h⟩ := zb h
    refine zf_iald (q := 173) rfl dX9_takeNext_172 (sm25 hG) ev11 ?_
    obtain ⟨s12, es12, h⟩ := zb h
    refine zf_iast (q := 174) rfl dX9_takeNext_173 (sm20 hG) es12 ?_
    refine zf_iload_n 2 (q := 175) (j := 2) rfl dX9_takeNext_174 rfl rfl ?_
    obtain ⟨hz, rfl⟩ := zrz_ok h
    exact zf_zreturn dX9_takeNext_175 rfl hz
  · replace h := (zi h).2 hc60
    refine zf_iload_n 2 (q := 64) (j := 2) rfl dX9_takeNext_63 rfl rfl ?_
    refine zf_if_ne (q := 67) (tgt := 92) rfl (by decide) dX9_takeNext_64 (fun hc64 => ?_) (fun hc64 => ?_)
    · replace h := (zi h).2 hc64
      exact zf_sub [0, 1, 3] rfl (ok_X9_takeNext_92 hG N hr53 h)
    · replace h := (zi h).1 hc64
      refine zf_aload_n 0 (q := 68) (j := 0) rfl dX9_takeNext_67 rfl rfl ?_
      refine zf_getR (q := 71) rfl dX9_takeNext_68 lf_RX9_86 (sm0 hG) rfl ?_
      refine zf_bipush (q := 73) rfl dX9_takeNext_71 bp10 ?_
      refine zf_iload_n 1 (q := 74) (j := 1) rfl dX9_takeNext_73 rfl rfl ?_
      refine zf_imul (q := 75) rfl dX9_takeNext_74 ?_
      refine zf_iload_n 3 (q := 76) (j := 3) rfl dX9_takeNext_75 rfl rfl ?_
      refine zf_iadd (q := 77) rfl dX9_takeNext_76 ?_
      obtain ⟨v13, ev13, h⟩ := zb h
      refine zf_iald (q := 78) rfl dX9_takeNext_77 (sm26 hG) ev13 ?_
      refine zf_aload_n 0 (q := 79) (j := 0) rfl dX9_takeNext_78 rfl rfl ?_
      refine zf_getR (q := 82) rfl dX9_takeNext_79 lf_RX9_71 (sm0 hG) rfl ?_
      refine zf_bipush (q := 84) rfl dX9_takeNext_82 bp10 ?_
      refine zf_iload_n 1 (q := 85) (j := 1) rfl dX9_takeNext_84 rfl rfl ?_
      refine zf_imul (q := 86) rfl dX9_takeNext_85 ?_
      refine zf_iload_n 3 (q := 87) (j := 3) rfl dX9_takeNext_86 rfl rfl ?_
      refine zf_iadd (q := 88) rfl dX9_takeNext_87 ?_
      obtain ⟨v14, ev14, h⟩ := zb h
      refine zf_iald (q := 89) rfl dX9_takeNext_88 (sm21 hG) ev14 ?_
      refine zf_icmp_eq (q := 92) (tgt := 96) rfl (by decide) dX9_takeNext_89 (fun hc89 => ?_) (fun hc89 => ?_)
      · replace h := (zi h).1 hc89
        refine zf_iconst (q := 97) rfl dX9_takeNext_96 ic0 ?_
        exact zf_sub [0, 1, 3] rfl (ok_X9_takeNext_97 hG N hr53 h)
      · replace h := (zi h).2 hc89
        exact zf_sub [0, 1, 3] rfl (ok_X9_takeNext_92 hG N hr53 h)
def f_X9_takeNext_53 (N : Nat) : Nat → Int32 → Int32 → Int32 → ZM → Option (Int32 × ZM)
  | 0, _, _, _, _ => none
  | n + 1, x1, x2, x3, σ => b_X9_takeNext_53 N (f_X9_takeNext_53 N n) x1 x2 x3 σ
theorem ok_X9_takeNext_53 {G : ZG} (hG : zSH G = shM) (N : Nat) {d : Nat} {res : Int32 × ZM} : ∀ (n : Nat) (x1 : Int32) (x2 : Int32) (x3 : Int32) (σ : ZM), f_X9_takeNext_53 N n x1 x2 x3 σ = some res → zF G MX9_takeNext d 53 [(0, .ref (zad G 0)), (1, .int x1), (2, .int x2), (3, .int x3)] [] σ (some (.int res.1)) res.2 := by
  intro n
  induction n with
  | zero => intro x1 x2 x3 σ h; exact absurd h (by simp [f_X9_takeNext_53])
  | succ n ih => intro x1 x2 x3 σ h; rw [f_X9_takeNext_53] at h; exact ok_b_X9_takeNext_53 hG N ih h
def f_X9_takeNext_50 (N : Nat) (x1 : Int32) (y0 : Int32) (σ : ZM) : Option (Int32 × ZM) :=
  f_X9_takeNext_53 N N x1 y0 (0 : Int32) σ
set_option maxRecDepth 100000 in
theorem ok_X9_takeNext_50 {G : ZG} (hG : zSH G = shM) (N : Nat) {d : Nat} {res : Int32 × ZM} {x1 : Int32} {y0 : Int32} {σ : ZM} (h : f_X9_takeNext_50 N x1 y0 σ = some res) : zF G MX9_takeNext d 50 [(0, .ref (zad G 0)), (1, .int x1)] [.int y0] σ (some (.int res.1)) res.2 := by
  unfold f_X9_takeNext_50 at h
  refine zf_istore_n (q := 51) (y := y0) (i := 2) (lv1 := [(2, .int y0), (0, .ref (zad G 0)), (1, .int x1)]) rfl dX9_takeNext_50 rfl (by decide) rfl rfl ?_
  refine zf_iconst (q := 52) rfl dX9_takeNext_51 ic0 ?_
  refine zf_istore_n (q := 53) (y := (0 : Int32)) (i := 3) (lv1 := [(3, .int (0 : Int32)), (2, .int y0), (0, .ref (zad G 0)), (1, .int x1)]) rfl dX9_takeNext_52 rfl (by decide) rfl rfl ?_
  exact zf_sub [2, 3, 1, 0] rfl (ok_X9_takeNext_53 hG N _ _ _ _ _ h)
def f_X9_takeNext_45 (N : Nat) (x1 : Int32) (σ : ZM) : Option (Int32 × ZM) :=
  f_X9_takeNext_50 N x1 (1 : Int32) σ
set_option maxRecDepth 100000 in
theorem ok_X9_takeNext_45 {G : ZG} (hG : zSH G = shM) (N : Nat) {d : Nat} {res : Int32 × ZM} {x1 : Int32} {σ : ZM} (h : f_X9_takeNext_45 N x1 σ = some res) : zF G MX9_takeNext d 45 [(0, .ref (zad G 0)), (1, .int x1)] [] σ (some (.int res.1)) res.2 := by
  unfold f_X9_takeNext_45 at h
  refine zf_iconst (q := 46) rfl dX9_takeNext_45 ic1 ?_
  refine zf_goto (tgt := 50) (by decide) dX9_takeNext_46 ?_
  exact zf_sub [0, 1] rfl (ok_X9_takeNext_50 hG N h)
def f_X9_takeNext (N : Nat) (x1 : Int32) (σ : ZM) : Option (Int32 × ZM) :=
  (zald σ 22 10 x1).bind fun v15 =>
  (zald σ 17 10 x1).bind fun v16 =>
  if v15 = v16 then
  ((zald σ 23 10 x1).bind fun v17 =>
  (zald σ 18 10 x1).bind fun v18 =>
  if v17 = v18 then
  ((zald σ 25 10 x1).bind fun v19 =>
  (zald σ 20 10 x1).bind fun v20 =>
  if v19 = v20 then
  (f_X9_takeNext_50 N x1 (0 : Int32) σ)
  else
  (f_X9_takeNext_45 N x1 σ))
  else
  (f_X9_takeNext_45 N x1 σ))
  else
  (f_X9_takeNext_45 N x1 σ)
set_option maxRecDepth 100000 in
theorem ok_X9_takeNext {G : ZG} (hG : zSH G = shM) (N : Nat) {d : Nat} (hd : 0 ≤ d) {x1 : Int32} {σ : ZM} {res : Int32 × ZM} (h : f_X9_takeNext N x1 σ = some res) : zCt G d MX9_takeNext [.ref (zad G 0), .int x1] σ (some (.int res.1)) res.2 := by
  refine zct_of (by decide) (Nat.le_of_ble_eq_true rfl) (lv := [(0, .ref (zad G 0)), (1, .int x1)]) rfl ?_
  unfold f_X9_takeNext at h
  refine zf_aload_n 0 (q := 1) (j := 0) rfl dX9_takeNext_0 rfl rfl ?_
  refine zf_getR (q := 4) rfl dX9_takeNext_1 lf_RX9_74 (sm0 hG) rfl ?_
  refine zf_iload_n 1 (q := 5) (j := 1) rfl dX9_takeNext_4 rfl rfl ?_
  obtain ⟨v15, ev15, h⟩ := zb h
  refine zf_iald (q := 6) rfl dX9_takeNext_5 (sm22 hG) ev15 ?_
  refine zf_aload_n 0 (q := 7) (j := 0) rfl dX9_takeNext_6 rfl rfl ?_
  refine zf_getR (q := 10) rfl dX9_takeNext_7 lf_RX9_59 (sm0 hG) rfl ?_
  refine zf_iload_n 1 (q := 11) (j := 1) rfl dX9_takeNext_10 rfl rfl ?_
  obtain ⟨v16, ev16, h⟩ := zb h
  refine zf_iald (q := 12) rfl dX9_takeNext_11 (sm17 hG) ev16 ?_
  refine zf_icmp_ne (q := 15) (tgt := 45) rfl (by decide) dX9_takeNext_12 (fun hc12 => ?_) (fun hc12 => ?_)
  · replace h := (zi h).2 hc12
    exact zf_sub [0, 1] rfl (ok_X9_takeNext_45 hG N h)
  · replace h := (zi h).1 hc12
    refine zf_aload_n 0 (q := 16) (j := 0) rfl dX9_takeNext_15 rfl rfl ?_
    refine zf_getR (q := 19) rfl dX9_takeNext_16 lf_RX9_77 (sm0 hG) rfl ?_
    refine zf_iload_n 1 (q := 20) (j := 1) rfl dX9_takeNext_19 rfl rfl ?_
    obtain ⟨v17, ev17, h⟩ := zb h
    refine zf_iald (q := 21) rfl dX9_takeNext_20 (sm23 hG) ev17 ?_
    refine zf_aload_n 0 (q := 22) (j := 0) rfl dX9_takeNext_21 rfl rfl ?_
    refine zf_getR (q := 25) rfl dX9_takeNext_22 lf_RX9_62 (sm0 hG) rfl ?_
    refine zf_iload_n 1 (q := 26) (j := 1) rfl dX9_takeNext_25 rfl rfl ?_
    obtain ⟨v18, ev18, h⟩ := zb h
    refine zf_iald (q := 27) rfl dX9_takeNext_26 (sm18 hG) ev18 ?_
    refine zf_icmp_ne (q := 30) (tgt := 45) rfl (by decide) dX9_takeNext_27 (fun hc27 => ?_) (fun hc27 => ?_)
    · replace h := (zi h).2 hc27
      exact zf_sub [0, 1] rfl (ok_X9_takeNext_45 hG N h)
    · replace h := (zi h).1 hc27
      refine zf_aload_n 0 (q := 31) (j := 0) rfl dX9_takeNext_30 rfl rfl ?_
      refine zf_getR (q := 34) rfl dX9_takeNext_31 lf_RX9_83 (sm0 hG) rfl ?_
      refine zf_iload_n 1 (q := 35) (j := 1) rfl dX9_takeNext_34 rfl rfl ?_
      obtain ⟨v19, ev19, h⟩ := zb h
      refine zf_iald (q := 36) rfl dX9_takeNext_35 (sm25 hG) ev19 ?_
      refine zf_aload_n 0 (q := 37) (j := 0) rfl dX9_takeNext_36 rfl rfl ?_
      refine zf_getR (q := 40) rfl dX9_takeNext_37 lf_RX9_68 (sm0 hG) rfl ?_
      refine zf_iload_n 1 (q := 41) (j := 1) rfl dX9_takeNext_40 rfl rfl ?_
      obtain ⟨v20, ev20, h⟩ := zb h
      refine zf_iald (q := 42) rfl dX9_takeNext_41 (sm20 hG) ev20 ?_
      refine zf_icmp_eq (q := 45) (tgt := 49) rfl (by decide) dX9_takeNext_42 (fun hc42 => ?_) (fun hc42 => ?_)
      · replace h := (zi h).1 hc42
        refine zf_iconst (q := 50) rfl dX9_takeNext_49 ic0 ?_
        exact zf_sub [0, 1] rfl (ok_X9_takeNext_50 hG N h)
      · replace h := (zi h).2 hc42
        exact zf_sub [0, 1] rfl (ok_X9_takeNext_45 hG N h)
-- ===== X9_settle: NearCopiesModel.settle()Z
def f_X9_settle_151 (N : Nat) (y0 : Int32) (σ : ZM) : Option (Int32 × ZM) :=
  (zpZ σ 0 31 y0).bind fun s1 =>
  zrz (s1.1 0 31) s1
set_option maxRecDepth 100000 in
theorem ok_X9_settle_151 {G : ZG} (hG : zSH G = shM) (N : Nat) {d : Nat} (hd : 3 ≤ d) {res : Int32 × ZM} {y0 : Int32} {σ : ZM} (h : f_X9_settle_151 N y0 σ = some res) : zF G MX9_settle (d + 1) 151 [(0, .ref (zad G 0))] [.int y0, .ref (zad G 0)] σ (some (.int res.1)) res.2 := by
  unfold f_X9_settle_151 at h
  obtain ⟨s1, es1, h⟩ := zb h
  refine zf_putZ (q := 154) rfl dX9_settle_151 lp_RX9_205 (sm0 hG) rfl es1 ?_
  refine zf_aload_n 0 (q := 155) (j := 0) rfl dX9_settle_154 rfl rfl ?_
  refine zf_getI (q := 158) rfl dX9_settle_155 lf_RX9_205 (sm0 hG) rfl ?_
  obtain ⟨hz, rfl⟩ := zrz_ok h
  exact zf_zreturn dX9_settle_158 rfl hz
def f_X9_settle_136 (N : Nat) (σ : ZM) : Option (Int32 × ZM) :=
  if (40 : Int32) < (σ.1 0 30) then
  (f_X9_settle_151 N (0 : Int32) σ)
  else
  (f_X9_settle_151 N (1 : Int32) σ)
set_option maxRecDepth 100000 in
theorem ok_X9_settle_136 {G : ZG} (hG : zSH G = shM) (N : Nat) {d : Nat} (hd : 3 ≤ d) {res : Int32 × ZM} {σ : ZM} (h : f_X9_settle_136 N σ = some res) : zF G MX9_settle (d + 1) 136 [(0, .ref (zad G 0))] [] σ (some (.int res.1)) res.2 := by
  unfold f_X9_settle_136 at h
  refine zf_aload_n 0 (q := 137) (j := 0) rfl dX9_settle_136 rfl rfl ?_
  refine zf_aload_n 0 (q := 138) (j := 0) rfl dX9_settle_137 rfl rfl ?_
  refine zf_getI (q := 141) rfl dX9_settle_138 lf_RX9_195 (sm0 hG) rfl ?_
  refine zf_bipush (q := 143) rfl dX9_settle_141 bp40 ?_
  refine zf_icmp_gt (q := 146) (tgt := 150) rfl (by decide) dX9_settle_143 (fun hc143 => ?_) (fun hc143 => ?_)
  · replace h := (zi h).1 hc143
    refine zf_iconst (q := 151) rfl dX9_settle_150 ic0 ?_
    exact zf_sub [0] rfl (ok_X9_settle_151 hG N hd h)
  · replace h := (zi h).2 hc143
    refine zf_iconst (q := 147) rfl dX9_settle_146 ic1 ?_
    refine zf_goto (tgt := 151) (by decide) dX9_settle_147 ?_
    exact zf_sub [0] rfl (ok_X9_settle_151 hG N hd h)
def f_X9_settle_129 (N : Nat) (rec53 : Int32 → ZM → Option (Int32 × ZM)) (x1 : Int32) (y0 : Int32) (y1 : Int32) (σ : ZM) : Option (Int32 × ZM) :=
  (zpI σ 0 30 (y1 + y0)).bind fun s2 =>
  rec53 x1 s2
set_option maxRecDepth 100000 in
theorem ok_X9_settle_129 {G : ZG} (hG : zSH G = shM) (N : Nat) {d : Nat} (hd : 3 ≤ d) {rec53 : Int32 → ZM → Option (Int32 × ZM)} {res : Int32 × ZM} (hr53 : ∀ (x1 : Int32) (σ : ZM), rec53 x1 σ = some res → zF G MX9_settle (d + 1) 53 [(0, .ref (zad G 0)), (1, .int x1)] [] σ (some (.int res.1)) res.2) {x1 : Int32} {y0 : Int32} {y1 : Int32} {σ : ZM} (h : f_X9_settle_129 N rec53 x1 y0 y1 σ = some res) : zF G MX9_settle (d + 1) 129 [(0, .ref (zad G 0)), (1, .int x1)] [.int y0, .int y1, .ref (zad G 0)] σ (some (.int res.1)) res.2 := by
  unfold f_X9_settle_129 at h
  refine zf_iadd (q := 130) rfl dX9_settle_129 ?_
  obtain ⟨s2, es2, h⟩ := zb h
  refine zf_putI (q := 133) rfl dX9_settle_130 lp_RX9_195 (sm0 hG) rfl es2 ?_
  refine zf_goto (tgt := 53) (by decide) dX9_settle_133 ?_
  exact zf_sub [0, 1] rfl (hr53 _ _ h)
def f_X9_settle_109 (N : Nat) (rec53 : Int32 → ZM → Option (Int32 × ZM)) (rec91 : Int32 → Int32 → ZM → Option (Int32 × ZM)) (x1 : Int32) (x2 : Int32) (σ : ZM) : Option (Int32 × ZM) :=
  (some (x2 + (1 : Int32))).bind fun v3 =>
  rec91 x1 v3 σ
set_option maxRecDepth 100000 in
theorem ok_X9_settle_109 {G : ZG} (hG : zSH G = shM) (N : Nat) {d : Nat} (hd : 3 ≤ d) {rec53 : Int32 → ZM → Option (Int32 × ZM)} {rec91 : Int32 → Int32 → ZM → Option (Int32 × ZM)} {res : Int32 × ZM} (hr53 : ∀ (x1 : Int32) (σ : ZM), rec53 x1 σ = some res → zF G MX9_settle (d + 1) 53 [(0, .ref (zad G 0)), (1, .int x1)] [] σ (some (.int res.1)) res.2) (hr91 : ∀ (x1 : Int32) (x2 : Int32) (σ : ZM), rec91 x1 x2 σ = some res → zF G MX9_settle (d + 1) 91 [(0, .ref (zad G 0)), (1, .int x1), (2, .int x2)] [] σ (some (.int res.1)) res.2) {x1 : Int32} {x2 : Int32} {σ : ZM} (h : f_X9_settle_109 N rec53 rec91 x1 x2 σ = some res) : zF G MX9_settle (d + 1) 109 [(0, .ref (zad G 0)), (1, .int x1), (2, .int x2)] [] σ (some (.int res.1)) res.2 := by
  unfold f_X9_settle_109 at h
  obtain ⟨v3, ev3, h⟩ := zb h
  refine zf_iinc 2 (q := 112) (v := v3) (lv1 := [(2, .int v3), (0, .ref (zad G 0)), (1, .int x1)]) rfl dX9_settle_109 rfl (by rw [ic1]; exact ev3) (by decide) rfl ?_
  refine zf_goto (tgt := 91) (by decide) dX9_settle_112 ?_
  exact zf_sub [1, 2, 0] rfl (hr91 _ _ _ h)
def b_X9_settle_91 (N : Nat) (rec53 : Int32 → ZM → Option (Int32 × ZM)) (rec91 : Int32 → Int32 → ZM → Option (Int32 × ZM)) (x1 : Int32) (x2 : Int32) (σ : ZM) : Option (Int32 × ZM) :=
  if (σ.1 0 0) ≤ x2 then
  (if x1 = 0 then
  (f_X9_settle_129 N rec53 x1 (0 : Int32) (σ.1 0 30) σ)
  else
  (f_X9_settle_129 N rec53 x1 (1 : Int32) (σ.1 0 30) σ))
  else
  (zbd (f_X9_takeNext N x2 σ) fun r4 s5 =>
  if r4 = 0 then
  (f_X9_settle_109 N rec53 rec91 x1 x2 s5)
  else
  (f_X9_settle_109 N rec53 rec91 (1 : Int32) x2 s5))
set_option maxRecDepth 100000 in
theorem ok_b_X9_settle_91 {G : ZG} (hG : zSH G = shM) (N : Nat) {d : Nat} (hd : 3 ≤ d) {rec53 : Int32 → ZM → Option (Int32 × ZM)} {rec91 : Int32 → Int32 → ZM → Option (Int32 × ZM)} {res : Int32 × ZM} (hr53 : ∀ (x1 : Int32) (σ : ZM), rec53 x1 σ = some res → zF G MX9_settle (d + 1) 53 [(0, .ref (zad G 0)), (1, .int x1)] [] σ (some (.int res.1)) res.2) (hr91 : ∀ (x1 : Int32) (x2 : Int32) (σ : ZM), rec91 x1 x2 σ = some res → zF G MX9_settle (d + 1) 91 [(0, .ref (zad G 0)), (1, .int x1), (2, .int x2)] [] σ (some (.int res.1)) res.2) {x1 : Int32} {x2 : Int32} {σ : ZM} (h : b_X9_settle_91 N rec53 rec91 x1 x2 σ = some res) : zF G MX9_settle (d + 1) 91 [(0, .ref (zad G 0)), (1, .int x1), (2, .int x2)] [] σ (some (.int res.1)) res.2 := by
  unfold b_X9_settle_91 at h
  refine zf_iload_n 2 (q := 92) (j := 2) rfl dX9_settle_91 rfl rfl ?_
  refine zf_aload_n 0 (q := 93) (j := 0) rfl dX9_settle_92 rfl rfl ?_
  refine zf_getI (q := 96) rfl dX9_settle_93 lf_RX9_132 (sm0 hG) rfl ?_
  refine zf_icmp_ge (q := 99) (tgt := 115) rfl (by decide) dX9_settle_96 (fun hc96 => ?_) (fun hc96 => ?_)
  · replace h := (zi h).1 hc96
    refine zf_aload_n 0 (q := 116) (j := 0) rfl dX9_settle_115 rfl rfl ?_
    refine zf_dup (q := 117) rfl dX9_settle_116 rfl ?_
    refine zf_getI (q := 120) rfl dX9_settle_117 lf_RX9_195 (sm0 hG) rfl ?_
    refine zf_iload_n 1 (q := 121) (j := 1) rfl dX9_settle_120 rfl rfl ?_
    refine zf_if_eq (q := 124) (tgt := 128) rfl (by decide) dX9_settle_121 (fun hc121 => ?_) (fun hc121 => ?_)
    · replace h := (zi h).1 hc121
      refine zf_iconst (q := 129) rfl dX9_settle_128 ic0 ?_
      exact zf_sub [0, 1] rfl (ok_X9_settle_129 hG N hd hr53 h)
    · replace h := (zi h).2 hc121
      refine zf_iconst (q := 125) rfl dX9_settle_124 ic1 ?_
      refine zf_goto (tgt := 129) (by decide) dX9_settle_125 ?_
      exact zf_sub [0, 1] rfl (ok_X9_settle_129 hG N hd hr53 h)
  · replace h := (zi h).2 hc96
    refine zf_aload_n 0 (q := 100) (j := 0) rfl dX9_settle_99 rfl rfl ?_
    refine zf_iload_n 2 (q := 101) (j := 2) rfl dX9_settle_100 rfl rfl ?_
    obtain ⟨r4, s5, es5, h⟩ := zc h
    refine zf_callV (q := 104) (As := [.int x2]) (rest := []) (st1 := [.int r4]) rfl dX9_settle_101 lv_RX9_202 (sm0 hG) rfl rfl (Nat.le_of_ble_eq_true rfl) (ok_X9_takeNext hG N (Nat.le_trans (by decide) hd) es5) rfl ?_
    refine zf_if_eq (q := 107) (tgt := 109) rfl (by decide) dX9_settle_104 (fun hc104 => ?_) (fun hc104 => ?_)
    · replace h := (zi h).1 hc104
      exact zf_sub [0, 1, 2] rfl (ok_X9_settle_109 hG N hd hr53 hr91 h)
    · replace h := (zi h).2 hc104
      refine zf_iconst (q := 108) rfl dX9_settle_107 ic1 ?_
      refine zf_istore_n (q := 109) (y := (1 : Int32)) (i := 1) (lv1 := [(1, .int (1 : Int32)), (0, .ref (zad G 0)), (2, .int x2)]) rfl dX9_settle_108 rfl (by decide) rfl rfl ?_
      exact zf_sub [1, 0, 2] rfl (ok_X9_settle_109 hG N hd hr53 hr91 h)
def f_X9_settle_91 (N : Nat) (rec53 : Int32 → ZM → Option (Int32 × ZM)) : Nat → Int32 → Int32 → ZM → Option (Int32 × ZM)
  | 0, _, _, _ => none
  | n + 1, x1, x2, σ => b_X9_settle_91 N rec53 (f_X9_settle_91 N rec53 n) x1 x2 σ
theorem ok_X9_settle_91 {G : ZG} (hG : zSH G = shM) (N : Nat) {d : Nat} (hd : 3 ≤ d) {rec53 : Int32 → ZM → Option (Int32 × ZM)} {res : Int32 × ZM} (hr53 : ∀ (x1 : Int32) (σ : ZM), rec53 x1 σ = some res → zF G MX9_settle (d + 1) 53 [(0, .ref (zad G 0)), (1, .int x1)] [] σ (some (.int res.1)) res.2) : ∀ (n : Nat) (x1 : Int32) (x2 : Int32) (σ : ZM), f_X9_settle_91 N rec53 n x1 x2 σ = some res → zF G MX9_settle (d + 1) 91 [(0, .ref (zad G 0)), (1, .int x1), (2, .int x2)] [] σ (some (.int res.1)) res.2 := by
  intro n
  induction n with
  | zero => intro x1 x2 σ h; exact absurd h (by simp [f_X9_settle_91])
  | succ n ih => intro x1 x2 σ h; rw [f_X9_settle_91] at h; exact ok_b_X9_settle_91 hG N hd hr53 ih h
def b_X9_settle_70 (N : Nat) (rec53 : Int32 → ZM → Option (Int32 × ZM)) (rec70 : Int32 → Int32 → ZM → Option (Int32 × ZM)) (x1 : Int32) (x2 : Int32) (σ : ZM) : Option (Int32 × ZM) :=
  if (σ.1 0 0) ≤ x2 then
  (f_X9_settle_91 N rec53 N x1 (0 : Int32) σ)
  else
  (zbd (f_X9_layNext N x2 σ) fun r6 s7 =>
  (some (x2 + (1 : Int32))).bind fun v8 =>
  rec70 x1 v8 s7)
set_option maxRecDepth 100000 in
theorem ok_b_X9_settle_70 {G : ZG} (hG : zSH G = shM) (N : Nat) {d : Nat} (hd : 3 ≤ d) {rec53 : Int32 → ZM → Option (Int32 × ZM)} {rec70 : Int32 → Int32 → ZM → Option (Int32 × ZM)} {res : Int32 × ZM} (hr53 : ∀ (x1 : Int32) (σ : ZM), rec53 x1 σ = some res → zF G MX9_settle (d + 1) 53 [(0, .ref (zad G 0)), (1, .int x1)] [] σ (some (.int res.1)) res.2) (hr70 : ∀ (x1 : Int32) (x2 : Int32) (σ : ZM), rec70 x1 x2 σ = some res → zF G MX9_settle (d + 1) 70 [(0, .ref (zad G 0)), (1, .int x1), (2, .int x2)] [] σ (some (.int res.1)) res.2) {x1 : Int32} {x2 : Int32} {σ : ZM} (h : b_X9_settle_70 N rec53 rec70 x1 x2 σ = some res) : zF G MX9_settle (d + 1) 70 [(0, .ref (zad G 0)), (1, .int x1), (2, .int x2)] [] σ (some (.int res.1)) res.2 := by
  unfold b_X9_settle_70 at h
  refine zf_iload_n 2 (q := 71) (j := 2) rfl dX9_settle_70 rfl rfl ?_
  refine zf_aload_n 0 (q := 72) (j := 0) rfl dX9_settle_71 rfl rfl ?_
  refine zf_getI (q := 75) rfl dX9_settle_72 lf_RX9_132 (sm0 hG) rfl ?_
  refine zf_icmp_ge (q := 78) (tgt := 89) rfl (by decide) dX9_settle_75 (fun hc75 => ?_) (fun hc75 => ?_)
  · replace h := (zi h).1 hc75
    refine zf_iconst (q := 90) rfl dX9_settle_89 ic0 ?_
    refine zf_istore_n (q := 91) (y := (0 : Int32)) (i := 2) (lv1 := [(2, .int (0 : Int32)), (0, .ref (zad G 0)), (1, .int x1)]) rfl dX9_settle_90 rfl (by decide) rfl rfl ?_
    exact zf_sub [1, 2, 0] rfl (ok_X9_settle_91 hG N hd hr53 _ _ _ _ h)
  · replace h := (zi h).2 hc75
    refine zf_aload_n 0 (q := 79) (j := 0) rfl dX9_settle_78 rfl rfl ?_
    refine zf_iload_n 2 (q := 80) (j := 2) rfl dX9_settle_79 rfl rfl ?_
    obtain ⟨r6, s7, es7, h⟩ := zc h
    refine zf_callV (q := 83) (As := [.int x2]) (rest := []) (st1 := []) rfl dX9_settle_80 lv_RX9_198 (sm0 hG) rfl rfl (Nat.le_of_ble_eq_true rfl) (ok_X9_layNext hG N (Nat.le_trans (by decide) hd) es7) rfl ?_
    obtain ⟨v8, ev8, h⟩ := zb h
    refine zf_iinc 2 (q := 86) (v := v8) (lv1 := [(2, .int v8), (0, .ref (zad G 0)), (1, .int x1)]) rfl dX9_settle_83 rfl (by rw [ic1]; exact ev8) (by decide) rfl ?_
    refine zf_goto (tgt := 70) (by decide) dX9_settle_86 ?_
    exact zf_sub [1, 2, 0] rfl (hr70 _ _ _ h)
def f_X9_settle_70 (N : Nat) (rec53 : Int32 → ZM → Option (Int32 × ZM)) : Nat → Int32 → Int32 → ZM → Option (Int32 × ZM)
  | 0, _, _, _ => none
  | n + 1, x1, x2, σ => b_X9_settle_70 N rec53 (f_X9_settle_70 N rec53 n) x1 x2 σ
theorem ok_X9_settle_70 {G : ZG} (hG : zSH G = shM) (N : Nat) {d : Nat} (hd : 3 ≤ d) {rec53 : Int32 → ZM → Option (Int32 × ZM)} {res : Int32 × ZM} (hr53 : ∀ (x1 : Int32) (σ : ZM), rec53 x1 σ = some res → zF G MX9_settle (d + 1) 53 [(0, .ref (zad G 0)), (1, .int x1)] [] σ (some (.int res.1)) res.2) : ∀ (n : Nat) (x1 : Int32) (x2 : Int32) (σ : ZM), f_X9_settle_70 N rec53 n x1 x2 σ = some res → zF G MX9_settle (d + 1) 70 [(0, .ref (zad G 0)), (1, .int x1), (2, .int x2)] [] σ (some (.int res.1)) res.2 := by
  intro n
  induction n with
  | zero => intro x1 x2 σ h; exact absurd h (by simp [f_X9_settle_70])
  | succ n ih => intro x1 x2 σ h; rw [f_X9_settle_70] at h; exact ok_b_X9_settle_70 hG N hd hr53 ih h
def b_X9_settle_53 (N : Nat) (rec53 : Int32 → ZM → Option (Int32 × ZM)) (x1 : Int32) (σ : ZM) : Option (Int32 × ZM) :=
  if x1 = 0 then
  (f_X9_settle_136 N σ)
  else
  (if (40 : Int32) < (σ.1 0 30) then
  (f_X9_settle_136 N σ)
  else
  (f_X9_settle_70 N rec53 N (0 : Int32) (0 : Int32) σ))
set_option maxRecDepth 100000 in
theorem ok_b_X9_settle_53 {G : ZG} (hG : zSH G = shM) (N : Nat) {d : Nat} (hd : 3 ≤ d) {rec53 : Int32 → ZM → Option (Int32 × ZM)} {res : Int32 × ZM} (hr53 : ∀ (x1 : Int32) (σ : ZM), rec53 x1 σ = some res → zF G MX9_settle (d + 1) 53 [(0, .ref (zad G 0)), (1, .int x1)] [] σ (some (.int res.1)) res.2) {x1 : Int32} {σ : ZM} (h : b_X9_settle_53 N rec53 x1 σ = some res) : zF G MX9_settle (d + 1) 53 [(0, .ref (zad G 0)), (1, .int x1)] [] σ (some (.int res.1)) res.2 := by
  unfold b_X9_settle_53 at h
  refine zf_iload_n 1 (q := 54) (j := 1) rfl dX9_settle_53 rfl rfl ?_
  refine zf_if_eq (q := 57) (tgt := 136) rfl (by decide) dX9_settle_54 (fun hc54 => ?_) (fun hc54 => ?_)
  · replace h := (zi h).1 hc54
    exact zf_sub [0] rfl (ok_X9_settle_136 hG N hd h)
  · replace h := (zi h).2 hc54
    refine zf_aload_n 0 (q := 58) (j := 0) rfl dX9_settle_57 rfl rfl ?_
    refine zf_getI (q := 61) rfl dX9_settle_58 lf_RX9_195 (sm0 hG) rfl ?_
    refine zf_bipush (q := 63) rfl dX9_settle_61 bp40 ?_
    refine zf_icmp_gt (q := 66) (tgt := 136) rfl (by decide) dX9_settle_63 (fun hc63 => ?_) (fun hc63 => ?_)
    · replace h := (zi h).1 hc63
      exact zf_sub [0] rfl (ok_X9_settle_136 hG N hd h)
    · replace h := (zi h).2 hc63
      refine zf_iconst (q := 67) rfl dX9_settle_66 ic0 ?_
      refine zf_istore_n (q := 68) (y := (0 : Int32)) (i := 1) (lv1 := [(1, .int (0 : Int32)), (0, .ref (zad G 0))]) rfl dX9_settle_67 rfl (by decide) rfl rfl ?_
      refine zf_iconst (q := 69) rfl dX9_settle_68 ic0 ?_
      refine zf_istore_n (q := 70) (y := (0 : Int32)) (i := 2) (lv1 := [(2, .int (0 : Int32)), (1, .int (0 : Int32)), (0, .ref (zad G 0))]) rfl dX9_settle_69 rfl (by decide) rfl rfl ?_
      exact zf_sub [2, 1, 0] rfl (ok_X9_settle_70 hG N hd hr53 _ _ _ _ h)
def f_X9_settle_53 (N : Nat) : Nat → Int32 → ZM → Option (Int32 × ZM)
  | 0, _, _ => none
  | n + 1, x1, σ => b_X9_settle_53 N (f_X9_settle_53 N n) x1 σ
theorem ok_X9_settle_53 {G : ZG} (hG : zSH G = shM) (N : Nat) {d : Nat} (hd : 3 ≤ d) {res : Int32 × ZM} : ∀ (n : Nat) (x1 : Int32) (σ : ZM), f_X9_settle_53 N n x1 σ = some res → zF G MX9_settle (d + 1) 53 [(0, .ref (zad G 0)), (1, .int x1)] [] σ (some (.int res.1)) res.2 := by
  intro n
  induction n with
  | zero => intro x1 σ h; exact absurd h (by simp [f_X9_settle_53])
  | succ n ih => intro x1 σ h; rw [f_X9_settle_53] at h; exact ok_b_X9_settle_53 hG N hd ih h
def b_X9_settle_7 (N : Nat) (rec7 : Int32 → ZM → Option (Int32 × ZM)) (x1 : Int32) (σ : ZM) : Option (Int32 × ZM) :=
  if (σ.1 0 0) ≤ x1 then
  (f_X9_settle_53 N N (1 : Int32) σ)
  else
  ((zast σ 17 10 x1 (-9 : Int32)).bind fun s9 =>
  (zast s9 18 10 x1 (0 : Int32)).bind fun s10 =>
  (zast s10 19 10 x1 (-9 : Int32)).bind fun s11 =>
  (zast s11 20 10 x1 (0 : Int32)).bind fun s12 =>
  (some (x1 + (1 : Int32))).bind fun v13 =>
  rec7 v13 s12)
set_option maxRecDepth 100000 in
theorem ok_b_X9_settle_7 {G : ZG} (hG : zSH G = shM) (N : Nat) {d : Nat} (hd : 3 ≤ d) {rec7 : Int32 → ZM → Option (Int32 × ZM)} {res : Int32 × ZM} (hr7 : ∀ (x1 : Int32) (σ : ZM), rec7 x1 σ = some res → zF G MX9_settle (d + 1) 7 [(0, .ref (zad G 0)), (1, .int x1)] [] σ (some (.int res.1)) res.2) {x1 : Int32} {σ : ZM} (h : b_X9_settle_7 N rec7 x1 σ = some res) : zF G MX9_settle (d + 1) 7 [(0, .ref (zad G 0)), (1, .int x1)] [] σ (some (.int res.1)) res.2 := by
  unfold b_X9_settle_7 at h
  refine zf_iload_n 1 (q := 8) (j := 1) rfl dX9_settle_7 rfl rfl ?_
  refine zf_aload_n 0 (q := 9) (j := 0) rfl dX9_settle_8 rfl rfl ?_
  refine zf_getI (q := 12) rfl dX9_settle_9 lf_RX9_132 (sm0 hG) rfl ?_
  refine zf_icmp_ge (q := 15) (tgt := 51) rfl (by decide) dX9_settle_12 (fun hc12 => ?_) (fun hc12 => ?_)
  · replace h := (zi h).1 hc12
    refine zf_iconst (q := 52) rfl dX9_settle_51 ic1 ?_
    refine zf_istore_n (q := 53) (y := (1 : Int32)) (i := 1) (lv1 := [(1, .int (1 : Int32)), (0, .ref (zad G 0))]) rfl dX9_settle_52 rfl (by decide) rfl rfl ?_
    exact zf_sub [1, 0] rfl (ok_X9_settle_53 hG N hd _ _ _ h)
  · replace h := (zi h).2 hc12
    refine zf_aload_n 0 (q := 16) (j := 0) rfl dX9_settle_15 rfl rfl ?_
    refine zf_getR (q := 19) rfl dX9_settle_16 lf_RX9_59 (sm0 hG) rfl ?_
    refine zf_iload_n 1 (q := 20) (j := 1) rfl dX9_settle_19 rfl rfl ?_
    refine zf_bipush (q := 22) rfl dX9_settle_20 bpm9 ?_
    obtain ⟨s9, es9, h⟩ := zb h
    refine zf_iast (q := 23) rfl dX9_settle_22 (sm17 hG) es9 ?_
    refine zf_aload_n 0 (q := 24) (j := 0) rfl dX9_settle_23 rfl rfl ?_
    refine zf_getR (q := 27) rfl dX9_settle_24 lf_RX9_62 (sm0 hG) rfl ?_
    refine zf_iload_n 1 (q := 28) (j := 1) rfl dX9_settle_27 rfl rfl ?_
    refine zf_iconst (q := 29) rfl dX9_settle_28 ic0 ?_
    obtain ⟨s10, es10, h⟩ := zb h
    refine zf_iast (q := 30) rfl dX9_settle_29 (sm18 hG) es10 ?_
    refine zf_aload_n 0 (q := 31) (j := 0) rfl dX9_settle_30 rfl rfl ?_
    refine zf_getR (q := 34) rfl dX9_settle_31 lf_RX9_65 (sm0 hG) rfl ?_
    refine zf_iload_n 1 (q := 35) (j := 1) rfl dX9_settle_34 rfl rfl ?_
    refine zf_bipush (q := 37) rfl dX9_settle_35 bpm9 ?_
    obtain ⟨s11, es11, h⟩ := zb h
    refine zf_iast (q := 38) rfl dX9_settle_37 (sm19 hG) es11 ?_
    refine zf_aload_n 0 (q := 39) (j := 0) rfl dX9_settle_38 rfl rfl ?_
    refine zf_getR (q := 42) rfl dX9_settle_39 lf_RX9_68 (sm0 hG) rfl ?_
    refine zf_iload_n 1 (q := 43) (j := 1) rfl dX9_settle_42 rfl rfl ?_
    refine zf_iconst (q := 44) rfl dX9_settle_43 ic0 ?_
    obtain ⟨s12, es12, h⟩ := zb h
    refine zf_iast (q := 45) rfl dX9_settle_44 (sm20 hG) es12 ?_
    obtain ⟨v13, ev13, h⟩ := zb h
    refine zf_iinc 1 (q := 48) (v := v13) (lv1 := [(1, .int v13), (0, .ref (zad G 0))]) rfl dX9_settle_45 rfl (by rw [ic1]; exact ev13) (by decide) rfl ?_
    refine zf_goto (tgt := 7) (by decide) dX9_settle_48 ?_
    exact zf_sub [1, 0] rfl (hr7 _ _ h)
def f_X9_settle_7 (N : Nat) : Nat → Int32 → ZM → Option (Int32 × ZM)
  | 0, _, _ => none
  | n + 1, x1, σ => b_X9_settle_7 N (f_X9_settle_7 N n) x1 σ
theorem ok_X9_settle_7 {G : ZG} (hG : zSH G = shM) (N : Nat) {d : Nat} (hd : 3 ≤ d) {res : Int32 × ZM} : ∀ (n : Nat) (x1 : Int32) (σ : ZM), f_X9_settle_7 N n x1 σ = some res → zF G MX9_settle (d + 1) 7 [(0, .ref (zad G 0)), (1, .int x1)] [] σ (some (.int res.1)) res.2 := by
  intro n
  induction n with
  | zero => intro x1 σ h; exact absurd h (by simp [f_X9_settle_7])
  | succ n ih => intro x1 σ h; rw [f_X9_settle_7] at h; exact ok_b_X9_settle_7 hG N hd ih h
def f_X9_settle (N : Nat) (σ : ZM) : Option (Int32 × ZM) :=
  (zpI σ 0 30 (0 : Int32)).bind fun s14 =>
  f_X9_settle_7 N N (0 : Int32) s14
set_option maxRecDepth 100000 in
theorem ok_X9_settle {G : ZG} (hG : zSH G = shM) (N : Nat) {d : Nat} (hd : 4 ≤ d) {σ : ZM} {res : Int32 × ZM} (h : f_X9_settle N σ = some res) : zCt G d MX9_settle [.ref (zad G 0)] σ (some (.int res.1)) res.2 := by
  obtain ⟨d, rfl⟩ : ∃ k, d = k + 1 := ⟨d - 1, by omega⟩
  have hd : 3 ≤ d := by omega
  refine zct_of (by decide) (Nat.le_of_ble_eq_true rfl) (lv := [(0, .ref (zad G 0))]) rfl ?_
  unfold f_X9_settle at h
  refine zf_aload_n 0 (q := 1) (j := 0) rfl dX9_settle_0 rfl rfl ?_
  refine zf_iconst (q := 2) rfl dX9_settle_1 ic0 ?_
  obtain ⟨s14, es14, h⟩ := zb h
  refine zf_putI (q := 5) rfl dX9_settle_2 lp_RX9_195 (sm0 hG) rfl es14 ?_
  refine zf_iconst (q := 6) rfl dX9_settle_5 ic0 ?_
  refine zf_istore_n (q := 7) (y := (0 : Int32)) (i := 1) (lv1 := [(1, .int (0 : Int32)), (0, .ref (zad G 0))]) rfl dX9_settle_6 rfl (by decide) rfl rfl ?_
  exact zf_sub [1, 0] rfl (ok_X9_settle_7 hG N hd _ _ _ h)
