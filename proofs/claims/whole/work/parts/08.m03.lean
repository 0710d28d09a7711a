-- ===== X4_worstBy: NearCopies$Order.worstBy(I)I
def f_X4_worstBy (N : Nat) (x1 : Int32) (σ : ZM) : Option (Int32 × ZM) :=
  (zald σ 35 16 x1).bind fun v1 =>
  (zald σ 36 16 x1).bind fun v2 =>
  some ((zmax v1 v2), σ)
set_option maxRecDepth 100000 in
theorem ok_X4_worstBy {G : ZG} (hG : zSH G = shC) (N : Nat) {d : Nat} (hd : 1 ≤ d) {x1 : Int32} {σ : ZM} {res : Int32 × ZM} (h : f_X4_worstBy N x1 σ = some res) : zCt G d MX4_worstBy [.ref (zad G 34), .int x1] σ (some (.int res.1)) res.2 := by
  obtain ⟨d, rfl⟩ : ∃ k, d = k + 1 := ⟨d - 1, by omega⟩
  have hd : 0 ≤ d := by omega
  refine zct_of (by decide) (Nat.le_of_ble_eq_true rfl) (lv := [(0, .ref (zad G 34)), (1, .int x1)]) rfl ?_
  unfold f_X4_worstBy at h
  refine zf_aload_n 0 (q := 1) (j := 0) rfl dX4_worstBy_0 rfl rfl ?_
  refine zf_getR (q := 4) rfl dX4_worstBy_1 lf_RX4_11 (sc34 hG) rfl ?_
  refine zf_iload_n 1 (q := 5) (j := 1) rfl dX4_worstBy_4 rfl rfl ?_
  obtain ⟨v1, ev1, h⟩ := zb h
  refine zf_iald (q := 6) rfl dX4_worstBy_5 (sc35 hG) ev1 ?_
  refine zf_aload_n 0 (q := 7) (j := 0) rfl dX4_worstBy_6 rfl rfl ?_
  refine zf_getR (q := 10) rfl dX4_worstBy_7 lf_RX4_15 (sc34 hG) rfl ?_
  refine zf_iload_n 1 (q := 11) (j := 1) rfl dX4_worstBy_10 rfl rfl ?_
  obtain ⟨v2, ev2, h⟩ := zb h
  refine zf_iald (q := 12) rfl dX4_worstBy_11 (sc36 hG) ev2 ?_
  refine zf_mmax (q := 15) rfl dX4_worstBy_12 mm_RX4_99 mm_max1 mm_0 mm_max2 (Nat.le_of_ble_eq_true rfl) ?_
  cases h
  exact zf_ireturn dX4_worstBy_15 rfl
-- ===== X4_leastWorst: NearCopies$Order.leastWorst(II)I
def f_X4_leastWorst_55 (N : Nat) (rec15 : Int32 → Int32 → Int32 → Int32 → ZM → Option (Int32 × ZM)) (x1 : Int32) (x2 : Int32) (x3 : Int32) (x4 : Int32) (σ : ZM) : Option (Int32 × ZM) :=
  (some (x4 + (1 : Int32))).bind fun v1 =>
  rec15 x1 x2 x3 v1 σ
set_option maxRecDepth 100000 in
theorem ok_X4_leastWorst_55 {G : ZG} (hG : zSH G = shC) (N : Nat) {d : Nat} (hd : 1 ≤ d) {rec15 : Int32 → Int32 → Int32 → Int32 → ZM → Option (Int32 × ZM)} {res : Int32 × ZM} (hr15 : ∀ (x1 : Int32) (x2 : Int32) (x3 : Int32) (x4 : Int32) (σ : ZM), rec15 x1 x2 x3 x4 σ = some res → zF G MX4_leastWorst (d + 1) 15 [(0, .ref (zad G 34)), (1, .int x1), (2, .int x2), (3, .int x3), (4, .int x4)] [] σ (some (.int res.1)) res.2) {x1 : Int32} {x2 : Int32} {x3 : Int32} {x4 : Int32} {σ : ZM} (h : f_X4_leastWorst_55 N rec15 x1 x2 x3 x4 σ = some res) : zF G MX4_leastWorst (d + 1) 55 [(0, .ref (zad G 34)), (1, .int x1), (2, .int x2), (3, .int x3), (4, .int x4)] [] σ (some (.int res.1)) res.2 := by
  unfold f_X4_leastWorst_55 at h
  obtain ⟨v1, ev1, h⟩ := zb h
  refine zf_iinc 4 (q := 58) (v := v1) (lv1 := [(4, .int v1), (0, .ref (zad G 34)), (1, .int x1), (2, .int x2), (3, .int x3)]) rfl dX4_leastWorst_55 rfl (by rw [ic1]; exact ev1) (by decide) rfl ?_
  refine zf_goto (tgt := 15) (by decide) dX4_leastWorst_58 ?_
  exact zf_sub [1, 2, 3, 4, 0] rfl (hr15 _ _ _ _ _ h)
def b_X4_leastWorst_15 (N : Nat) (rec15 : Int32 → Int32 → Int32 → Int32 → ZM → Option (Int32 × ZM)) (x1 : Int32) (x2 : Int32) (x3 : Int32) (x4 : Int32) (σ : ZM) : Option (Int32 × ZM) :=
  if (σ.1 12 0) ≤ x4 then
  (some (x3, σ))
  else
  (if (((x2 &&& (x1 ^^^ (-1 : Int32))) >>> (x4 &&& 31)) &&& (1 : Int32)) = 0 then
  (f_X4_leastWorst_55 N rec15 x1 x2 x3 x4 σ)
  else
  (zbd (f_X4_worstBy N (x1 ||| ((1 : Int32) <<< (x4 &&& 31))) σ) fun r2 s3 =>
  (some (zmin x3 r2)).bind fun v4 =>
  f_X4_leastWorst_55 N rec15 x1 x2 v4 x4 s3))
set_option maxRecDepth 100000 in
theorem ok_b_X4_leastWorst_15 {G : ZG} (hG : zSH G = shC) (N : Nat) {d : Nat} (hd : 1 ≤ d) {rec15 : Int32 → Int32 → Int32 → Int32 → ZM → Option (Int32 × ZM)} {res : Int32 × ZM} (hr15 : ∀ (x1 : Int32) (x2 : Int32) (x3 : Int32) (x4 : Int32) (σ : ZM), rec15 x1 x2 x3 x4 σ = some res → zF G MX4_leastWorst (d + 1) 15 [(0, .ref (zad G 34)), (1, .int x1), (2, .int x2), (3, .int x3), (4, .int x4)] [] σ (some (.int res.1)) res.2) {x1 : Int32} {x2 : Int32} {x3 : Int32} {x4 : Int32} {σ : ZM} (h : b_X4_leastWorst_15 N rec15 x1 x2 x3 x4 σ = some res) : zF G MX4_leastWorst (d + 1) 15 [(0, .ref (zad G 34)), (1, .int x1), (2, .int x2), (3, .int x3), (4, .int x4)] [] σ (some (.int res.1)) res.2 := by
  unfold b_X4_leastWorst_15 at h
  refine zf_iload 4 (q := 17) rfl dX4_leastWorst_15 rfl ?_
  refine zf_aload_n 0 (q := 18) (j := 0) rfl dX4_leastWorst_17 rfl rfl ?_
  refine zf_getR (q := 21) rfl dX4_leastWorst_18 lf_RX4_25 (sc34 hG) rfl ?_
  refine zf_getI (q := 24) rfl dX4_leastWorst_21 lf_RX4_43 (sc12 hG) rfl ?_
  refine zf_icmp_ge (q := 27) (tgt := 61) rfl (by decide) dX4_leastWorst_24 (fun hc24 => ?_) (fun hc24 => ?_)
  · replace h := (zi h).1 hc24
    refine zf_iload_n 3 (q := 62) (j := 3) rfl dX4_leastWorst_61 rfl rfl ?_
    cases h
    exact zf_ireturn dX4_leastWorst_62 rfl
  · replace h := (zi h).2 hc24
    refine zf_iload_n 2 (q := 28) (j := 2) rfl dX4_leastWorst_27 rfl rfl ?_
    refine zf_iload_n 1 (q := 29) (j := 1) rfl dX4_leastWorst_28 rfl rfl ?_
    refine zf_iconst (q := 30) rfl dX4_leastWorst_29 icm1 ?_
    refine zf_ixor (q := 31) rfl dX4_leastWorst_30 ?_
    refine zf_iand (q := 32) rfl dX4_leastWorst_31 ?_
    refine zf_iload 4 (q := 34) rfl dX4_leastWorst_32 rfl ?_
    refine zf_ishr (q := 35) rfl dX4_leastWorst_34 ?_
    refine zf_iconst (q := 36) rfl dX4_leastWorst_35 ic1 ?_
    refine zf_iand (q := 37) rfl dX4_leastWorst_36 ?_
    refine zf_if_eq (q := 40) (tgt := 55) rfl (by decide) dX4_leastWorst_37 (fun hc37 => ?_) (fun hc37 => ?_)
    · replace h := (zi h).1 hc37
      exact zf_sub [0, 1, 2, 3, 4] rfl (ok_X4_leastWorst_55 hG N hd hr15 h)
    · replace h := (zi h).2 hc37
      refine zf_iload_n 3 (q := 41) (j := 3) rfl dX4_leastWorst_40 rfl rfl ?_
      refine zf_aload_n 0 (q := 42) (j := 0) rfl dX4_leastWorst_41 rfl rfl ?_
      refine zf_iload_n 1 (q := 43) (j := 1) rfl dX4_leastWorst_42 rfl rfl ?_
      refine zf_iconst (q := 44) rfl dX4_leastWorst_43 ic1 ?_
      refine zf_iload 4 (q := 46) rfl dX4_leastWorst_44 rfl ?_
      refine zf_ishl (q := 47) rfl dX4_leastWorst_46 ?_
      refine zf_ior (q := 48) rfl dX4_leastWorst_47 ?_
      obtain ⟨r2, s3, es3, h⟩ := zc h
      refine zf_callV (q := 51) (As := [.int (x1 ||| ((1 : Int32) <<< (x4 &&& 31)))]) (rest := [.int x3]) (st1 := [.int r2, .int x3]) rfl dX4_leastWorst_48 lv_RX4_91 (sc34 hG) rfl rfl (Nat.le_of_ble_eq_true rfl) (ok_X4_worstBy hG N (Nat.le_trans (by decide) hd) es3) rfl ?_
      refine zf_mmin (q := 54) rfl dX4_leastWorst_51 mm_RX4_94 mm_min1 mm_0 mm_min2 (Nat.le_of_ble_eq_true rfl) ?_
      obtain ⟨v4, ev4, h⟩ := zb h
      refine zf_istore_n (q := 55) (y := v4) (i := 3) (lv1 := [(3, .int v4), (0, .ref (zad G 34)), (1, .int x1), (2, .int x2), (4, .int x4)]) rfl dX4_leastWorst_54 rfl (by decide) ev4 rfl ?_
      exact zf_sub [1, 2, 3, 0, 4] rfl (ok_X4_leastWorst_55 hG N hd hr15 h)
def f_X4_leastWorst_15 (N : Nat) : Nat → Int32 → Int32 → Int32 → Int32 → ZM → Option (Int32 × ZM)
  | 0, _, _, _, _, _ => none
  | n + 1, x1, x2, x3, x4, σ => b_X4_leastWorst_15 N (f_X4_leastWorst_15 N n) x1 x2 x3 x4 σ
theorem ok_X4_leastWorst_15 {G : ZG} (hG : zSH G = shC) (N : Nat) {d : Nat} (hd : 1 ≤ d) {res : Int32 × ZM} : ∀ (n : Nat) (x1 : Int32) (x2 : Int32) (x3 : Int32) (x4 : Int32) (σ : ZM), f_X4_leastWorst_15 N n x1 x2 x3 x4 σ = some res → zF G MX4_leastWorst (d + 1) 15 [(0, .ref (zad G 34)), (1, .int x1), (2, .int x2), (3, .int x3), (4, .int x4)] [] σ (some (.int res.1)) res.2 := by
  intro n
  induction n with
  | zero => intro x1 x2 x3 x4 σ h; exact absurd h (by simp [f_X4_leastWorst_15])
  | succ n ih => intro x1 x2 x3 x4 σ h; rw [f_X4_leastWorst_15] at h; exact ok_b_X4_leastWorst_15 hG N hd ih h
def f_X4_leastWorst_11 (N : Nat) (x1 : Int32) (x2 : Int32) (y0 : Int32) (σ : ZM) : Option (Int32 × ZM) :=
  f_X4_leastWorst_15 N N x1 x2 y0 (0 : Int32) σ
set_option maxRecDepth 100000 in
theorem ok_X4_leastWorst_11 {G : ZG} (hG : zSH G = shC) (N : Nat) {d : Nat} (hd : 1 ≤ d) {res : Int32 × ZM} {x1 : Int32} {x2 : Int32} {y0 : Int32} {σ : ZM} (h : f_X4_leastWorst_11 N x1 x2 y0 σ = some res) : zF G MX4_leastWorst (d + 1) 11 [(0, .ref (zad G 34)), (1, .int x1), (2, .int x2)] [.int y0] σ (some (.int res.1)) res.2 := by
  unfold f_X4_leastWorst_11 at h
  refine zf_istore_n (q := 12) (y := y0) (i := 3) (lv1 := [(3, .int y0), (0, .ref (zad G 34)), (1, .int x1), (2, .int x2)]) rfl dX4_leastWorst_11 rfl (by decide) rfl rfl ?_
  refine zf_iconst (q := 13) rfl dX4_leastWorst_12 ic0 ?_
  refine zf_istore (q := 15) (y := (0 : Int32)) (i := 4) (lv1 := [(4, .int (0 : Int32)), (3, .int y0), (0, .ref (zad G 34)), (1, .int x1), (2, .int x2)]) rfl dX4_leastWorst_13 (by decide) rfl rfl ?_
  exact zf_sub [2, 3, 4, 1, 0] rfl (ok_X4_leastWorst_15 hG N hd _ _ _ _ _ _ h)
def f_X4_leastWorst (N : Nat) (x1 : Int32) (x2 : Int32) (σ : ZM) : Option (Int32 × ZM) :=
  if x1 = x2 then
  (f_X4_leastWorst_11 N x1 x2 (0 : Int32) σ)
  else
  (f_X4_leastWorst_11 N x1 x2 (1000000 : Int32) σ)
set_option maxRecDepth 100000 in
theorem ok_X4_leastWorst {G : ZG} (hG : zSH G = shC) (N : Nat) {d : Nat} (hd : 2 ≤ d) {x1 : Int32} {x2 : Int32} {σ : ZM} {res : Int32 × ZM} (h : f_X4_leastWorst N x1 x2 σ = some res) : zCt G d MX4_leastWorst [.ref (zad G 34), .int x1, .int x2] σ (some (.int res.1)) res.2 := by
  obtain ⟨d, rfl⟩ : ∃ k, d = k + 1 := ⟨d - 1, by omega⟩
  have hd : 1 ≤ d := by omega
  refine zct_of (by decide) (Nat.le_of_ble_eq_true rfl) (lv := [(0, .ref (zad G 34)), (1, .int x1), (2, .int x2)]) rfl ?_
  unfold f_X4_leastWorst at h
  refine zf_iload_n 1 (q := 1) (j := 1) rfl dX4_leastWorst_0 rfl rfl ?_
  refine zf_iload_n 2 (q := 2) (j := 2) rfl dX4_leastWorst_1 rfl rfl ?_
  refine zf_icmp_ne (q := 5) (tgt := 9) rfl (by decide) dX4_leastWorst_2 (fun hc2 => ?_) (fun hc2 => ?_)
  · replace h := (zi h).2 hc2
    refine zf_ldc (q := 11) rfl dX4_leastWorst_9 co_RX4_67 ?_
    exact zf_sub [0, 1, 2] rfl (ok_X4_leastWorst_11 hG N hd h)
  · replace h := (zi h).1 hc2
    refine zf_iconst (q := 6) rfl dX4_leastWorst_5 ic0 ?_
    refine zf_goto (tgt := 11) (by decide) dX4_leastWorst_6 ?_
    exact zf_sub [0, 1, 2] rfl (ok_X4_leastWorst_11 hG N hd h)
-- ===== X4_firstStep: NearCopies$Order.firstStep(II)I
def f_X4_firstStep_51 (N : Nat) (rec13 : Int32 → Int32 → Int32 → Int32 → ZM → Option (Int32 × ZM)) (x1 : Int32) (x2 : Int32) (x3 : Int32) (x4 : Int32) (σ : ZM) : Option (Int32 × ZM) :=
  (some (x4 + (-1 : Int32))).bind fun v1 =>
  rec13 x1 x2 x3 v1 σ
set_option maxRecDepth 100000 in
theorem ok_X4_firstStep_51 {G : ZG} (hG : zSH G = shC) (N : Nat) {d : Nat} (hd : 1 ≤ d) {rec13 : Int32 → Int32 → Int32 → Int32 → ZM → Option (Int32 × ZM)} {res : Int32 × ZM} (hr13 : ∀ (x1 : Int32) (x2 : Int32) (x3 : Int32) (x4 : Int32) (σ : ZM), rec13 x1 x2 x3 x4 σ = some res → zF G MX4_firstStep (d + 1) 13 [(0, .ref (zad G 34)), (1, .int x1), (2, .int x2), (3, .int x3), (4, .int x4)] [] σ (some (.int res.1)) res.2) {x1 : Int32} {x2 : Int32} {x3 : Int32} {x4 : Int32} {σ : ZM} (h : f_X4_firstStep_51 N rec13 x1 x2 x3 x4 σ = some res) : zF G MX4_firstStep (d + 1) 51 [(0, .ref (zad G 34)), (1, .int x1), (2, .int x2), (3, .int x3), (4, .int x4)] [] σ (some (.int res.1)) res.2 := by
  unfold f_X4_firstStep_51 at h
  obtain ⟨v1, ev1, h⟩ := zb h
  refine zf_iinc 4 (q := 54) (v := v1) (lv1 := [(4, .int v1), (0, .ref (zad G 34)), (1, .int x1), (2, .int x2), (3, .int x3)]) rfl dX4_firstStep_51 rfl (by rw [icm1]; exact ev1) (by decide) rfl ?_
  refine zf_goto (tgt := 13) (by decide) dX4_firstStep_54 ?_
  exact zf_sub [1, 2, 3, 4, 0] rfl (hr13 _ _ _ _ _ h)
def b_X4_firstStep_13 (N : Nat) (rec13 : Int32 → Int32 → Int32 → Int32 → ZM → Option (Int32 × ZM)) (x1 : Int32) (x2 : Int32) (x3 : Int32) (x4 : Int32) (σ : ZM) : Option (Int32 × ZM) :=
  if x4 < 0 then
  (some (x3, σ))
  else
  (if (((x2 &&& (x1 ^^^ (-1 : Int32))) >>> (x4 &&& 31)) &&& (1 : Int32)) = 0 then
  (f_X4_firstStep_51 N rec13 x1 x2 x3 x4 σ)
  else
  (zbd (f_X4_worstBy N (x1 ||| ((1 : Int32) <<< (x4 &&& 31))) σ) fun r2 s3 =>
  if (s3.1 34 7) < r2 then
  (f_X4_firstStep_51 N rec13 x1 x2 x3 x4 s3)
  else
  (f_X4_firstStep_51 N rec13 x1 x2 x4 x4 s3)))
set_option maxRecDepth 100000 in
theorem ok_b_X4_firstStep_13 {G : ZG} (hG : zSH G = shC) (N : Nat) {d : Nat} (hd : 1 ≤ d) {rec13 : Int32 → Int32 → Int32 → Int32 → ZM → Option (Int32 × ZM)} {res : Int32 × ZM} (hr13 : ∀ (x1 : Int32) (x2 : Int32) (x3 : Int32) (x4 : Int32) (σ : ZM), rec13 x1 x2 x3 x4 σ = some res → zF G MX4_firstStep (d + 1) 13 [(0, .ref (zad G 34)), (1, .int x1), (2, .int x2), (3, .int x3), (4, .int x4)] [] σ (some (.int res.1)) res.2) {x1 : Int32} {x2 : Int32} {x3 : Int32} {x4 : Int32} {σ : ZM} (h : b_X4_firstStep_13 N rec13 x1 x2 x3 x4 σ = some res) : zF G MX4_firstStep (d + 1) 13 [(0, .ref (zad G 34)), (1, .int x1), (2, .int x2), (3, .int x3), (4, .int x4)] [] σ (some (.int res.1)) res.2 := by
  unfold b_X4_firstStep_13 at h
  refine zf_iload 4 (q := 15) rfl dX4_firstStep_13 rfl ?_
  refine zf_if_lt (q := 18) (tgt := 57) rfl (by decide) dX4_firstStep_15 (fun hc15 => ?_) (fun hc15 => ?_)
  · replace h := (zi h).1 hc15
    refine zf_iload_n 3 (q := 58) (j := 3) rfl dX4_firstStep_57 rfl rfl ?_
    cases h
    exact zf_ireturn dX4_firstStep_58 rfl
  · replace h := (zi h).2 hc15
    refine zf_iload_n 2 (q := 19) (j := 2) rfl dX4_firstStep_18 rfl rfl ?_
    refine zf_iload_n 1 (q := 20) (j := 1) rfl dX4_firstStep_19 rfl rfl ?_
    refine zf_iconst (q := 21) rfl dX4_firstStep_20 icm1 ?_
    refine zf_ixor (q := 22) rfl dX4_firstStep_21 ?_
    refine zf_iand (q := 23) rfl dX4_firstStep_22 ?_
    refine zf_iload 4 (q := 25) rfl dX4_firstStep_23 rfl ?_
    refine zf_ishr (q := 26) rfl dX4_firstStep_25 ?_
    refine zf_iconst (q := 27) rfl dX4_firstStep_26 ic1 ?_
    refine zf_iand (q := 28) rfl dX4_firstStep_27 ?_
    refine zf_if_eq (q := 31) (tgt := 51) rfl (by decide) dX4_firstStep_28 (fun hc28 => ?_) (fun hc28 => ?_)
    · replace h := (zi h).1 hc28
      exact zf_sub [0, 1, 2, 3, 4] rfl (ok_X4_firstStep_51 hG N hd hr13 h)
    · replace h := (zi h).2 hc28
      refine zf_aload_n 0 (q := 32) (j := 0) rfl dX4_firstStep_31 rfl rfl ?_
      refine zf_iload_n 1 (q := 33) (j := 1) rfl dX4_firstStep_32 rfl rfl ?_
      refine zf_iconst (q := 34) rfl dX4_firstStep_33 ic1 ?_
      refine zf_iload 4 (q := 36) rfl dX4_firstStep_34 rfl ?_
      refine zf_ishl (q := 37) rfl dX4_firstStep_36 ?_
      refine zf_ior (q := 38) rfl dX4_firstStep_37 ?_
      obtain ⟨r2, s3, es3, h⟩ := zc h
      refine zf_callV (q := 41) (As := [.int (x1 ||| ((1 : Int32) <<< (x4 &&& 31)))]) (rest := []) (st1 := [.int r2]) rfl dX4_firstStep_38 lv_RX4_91 (sc34 hG) rfl rfl (Nat.le_of_ble_eq_true rfl) (ok_X4_worstBy hG N (Nat.le_trans (by decide) hd) es3) rfl ?_
      refine zf_aload_n 0 (q := 42) (j := 0) rfl dX4_firstStep_41 rfl rfl ?_
      refine zf_getI (q := 45) rfl dX4_firstStep_42 lf_RX4_72 (sc34 hG) rfl ?_
      refine zf_icmp_gt (q := 48) (tgt := 51) rfl (by decide) dX4_firstStep_45 (fun hc45 => ?_) (fun hc45 => ?_)
      · replace h := (zi h).1 hc45
        exact zf_sub [0, 1, 2, 3, 4] rfl (ok_X4_firstStep_51 hG N hd hr13 h)
      · replace h := (zi h).2 hc45
        refine zf_iload 4 (q := 50) rfl dX4_firstStep_48 rfl ?_
        refine zf_istore_n (q := 51) (y := x4) (i := 3) (lv1 := [(3, .int x4), (0, .ref (zad G 34)), (1, .int x1), (2, .int x2), (4, .int x4)]) rfl dX4_firstStep_50 rfl (by decide) rfl rfl ?_
        exact zf_sub [1, 2, 3, 0, 4] rfl (ok_X4_firstStep_51 hG N hd hr13 h)
def f_X4_firstStep_13 (N : Nat) : Nat → Int32 → Int32 → Int32 → Int32 → ZM → Option (Int32 × ZM)
  | 0, _, _, _, _, _ => none
  | n + 1, x1, x2, x3, x4, σ => b_X4_firstStep_13 N (f_X4_firstStep_13 N n) x1 x2 x3 x4 σ
theorem ok_X4_firstStep_13 {G : ZG} (hG : zSH G = shC) (N : Nat) {d : Nat} (hd : 1 ≤ d) {res : Int32 × ZM} : ∀ (n : Nat) (x1 : Int32) (x2 : Int32) (x3 : Int32) (x4 : Int32) (σ : ZM), f_X4_firstStep_13 N n x1 x2 x3 x4 σ = some res → zF G MX4_firstStep (d + 1) 13 [(0, .ref (zad G 34)), (1, .int x1), (2, .int x2), (3, .int x3), (4, .int x4)] [] σ (some (.int res.1)) res.2 := by
  intro n
  induction n with
  | zero => intro x1 x2 x3 x4 σ h; exact absurd h (by simp [f_X4_firstStep_13])
  | succ n ih => intro x1 x2 x3 x4 σ h; rw [f_X4_firstStep_13] at h; exact ok_b_X4_firstStep_13 hG N hd ih h
def f_X4_firstStep (N : Nat) (x1 : Int32) (x2 : Int32) (σ : ZM) : Option (Int32 × ZM) :=
  (some ((σ.1 12 0) - (1 : Int32))).bind fun v4 =>
  f_X4_firstStep_13 N N x1 x2 (0 : Int32) v4 σ
set_option maxRecDepth 100000 in
theorem ok_X4_firstStep {G : ZG} (hG : zSH G = shC) (N : Nat) {d : Nat} (hd : 2 ≤ d) {x1 : Int32} {x2 : Int32} {σ : ZM} {res : Int32 × ZM} (h : f_X4_firstStep N x1 x2 σ = some res) : zCt G d MX4_firstStep [.ref (zad G 34), .int x1, .int x2] σ (some (.int res.1)) res.2 := by
  obtain ⟨d, rfl⟩ : ∃ k, d = k + 1 := ⟨d - 1, by omega⟩
  have hd : 1 ≤ d := by omega
  refine zct_of (by decide) (Nat.le_of_ble_eq_true rfl) (lv := [(0, .ref (zad G 34)), (1, .int x1), (2, .int x2)]) rfl ?_
  unfold f_X4_firstStep at h
  refine zf_iconst (q := 1) rfl dX4_firstStep_0 ic0 ?_
  refine zf_istore_n (q := 2) (y := (0 : Int32)) (i := 3) (lv1 := [(3, .int (0 : Int32)), (0, .ref (zad G 34)), (1, .int x1), (2, .int x2)]) rfl dX4_firstStep_1 rfl (by decide) rfl rfl ?_
  refine zf_aload_n 1 (q := 3) (j := 0) rfl dX4_firstStep_2 rfl rfl ?_
  refine zf_getR (q := 6) rfl dX4_firstStep_3 lf_RX4_25 (sc34 hG) rfl ?_
  refine zf_getI (q := 9) rfl dX4_firstStep_6 lf_RX4_43 (sc12 hG) rfl ?_
  refine zf_iconst (q := 10) rfl dX4_firstStep_9 ic1 ?_
  refine zf_isub (q := 11) rfl dX4_firstStep_10 ?_
  obtain ⟨v4, ev4, h⟩ := zb h
  refine zf_istore (q := 13) (y := v4) (i := 4) (lv1 := [(4, .int v4), (3, .int (0 : Int32)), (0, .ref (zad G 34)), (1, .int x1), (2, .int x2)]) rfl dX4_firstStep_11 (by decide) ev4 rfl ?_
  exact zf_sub [2, 3, 4, 1, 0] rfl (ok_X4_firstStep_13 hG N hd _ _ _ _ _ _ h)
-- ===== X4_plan: NearCopies$Order.plan()V
def b_X4_plan_95 (N : Nat) (rec95 : Int32 → Int32 → Int32 → ZM → Option (Unit × ZM)) (x1 : Int32) (x2 : Int32) (x3 : Int32) (σ : ZM) : Option (Unit × ZM) :=
  if (4 : Int32) ≤ x3 then
  (some ((), σ))
  else
  (if x2 = x1 then
  (some ((), σ))
  else
  (zbd (f_X4_firstStep N x2 x1 σ) fun r1 s2 =>
  (zast s2 37 4 x3 r1).bind fun s3 =>
  (zald s3 37 4 x3).bind fun v4 =>
  (some (x2 ||| ((1 : Int32) <<< (v4 &&& 31)))).bind fun v5 =>
  (zpI s3 34 6 ((s3.1 34 6) + (1 : Int32))).bind fun s6 =>
  (some (x3 + (1 : Int32))).bind fun v7 =>
  rec95 x1 v5 v7 s6))
set_option maxRecDepth 100000 in
theorem ok_b_X4_plan_95 {G : ZG} (hG : zSH G = shC) (N : Nat) {d : Nat} (hd : 4 ≤ d) {rec95 : Int32 → Int32 → Int32 → ZM → Option (Unit × ZM)} {res : Unit × ZM} (hr95 : ∀ (x1 : Int32) (x2 : Int32) (x3 : Int32) (σ : ZM), rec95 x1 x2 x3 σ = some res → zF G MX4_plan (d + 1) 95 [(0, .ref (zad G 34)), (1, .int x1), (2, .int x2), (3, .int x3)] [] σ none res.2) {x1 : Int32} {x2 : Int32} {x3 : Int32} {σ : ZM} (h : b_X4_plan_95 N rec95 x1 x2 x3 σ = some res) : zF G MX4_plan (d + 1) 95 [(0, .ref (zad G 34)), (1, .int x1), (2, .int x2), (3, .int x3)] [] σ none res.2 := by
  unfold b_X4_plan_95 at h
  refine zf_iload_n 3 (q := 96) (j := 3) rfl dX4_plan_95 rfl rfl ?_
  refine zf_iconst (q := 97) rfl dX4_plan_96 ic4 ?_
  refine zf_icmp_ge (q := 100) (tgt := 144) rfl (by decide) dX4_plan_97 (fun hc97 => ?_) (fun hc97 => ?_)
  · replace h := (zi h).1 hc97
    cases h
    exact zf_return dX4_plan_144 rfl
  · replace h := (zi h).2 hc97
    refine zf_iload_n 2 (q := 101) (j := 2) rfl dX4_plan_100 rfl rfl ?_
    refine zf_iload_n 1 (q := 102) (j := 1) rfl dX4_plan_101 rfl rfl ?_
    refine zf_icmp_eq (q := 105) (tgt := 144) rfl (by decide) dX4_plan_102 (fun hc102 => ?_) (fun hc102 => ?_)
    · replace h := (zi h).1 hc102
      cases h
      exact zf_return dX4_plan_144 rfl
    · replace h := (zi h).2 hc102
      refine zf_aload_n 0 (q := 106) (j := 0) rfl dX4_plan_105 rfl rfl ?_
      refine zf_getR (q := 109) rfl dX4_plan_106 lf_RX4_18 (sc34 hG) rfl ?_
      refine zf_iload_n 3 (q := 110) (j := 3) rfl dX4_plan_109 rfl rfl ?_
      refine zf_aload_n 0 (q := 111) (j := 0) rfl dX4_plan_110 rfl rfl ?_
      refine zf_iload_n 2 (q := 112) (j := 2) rfl dX4_plan_111 rfl rfl ?_
      refine zf_iload_n 1 (q := 113) (j := 1) rfl dX4_plan_112 rfl rfl ?_
      obtain ⟨r1, s2, es2, h⟩ := zc h
      refine zf_callV (q := 116) (As := [.int x2, .int x1]) (rest := [.int x3, .ref (zad G 37)]) (st1 := [.int r1, .int x3, .ref (zad G 37)]) rfl dX4_plan_113 lv_RX4_78 (sc34 hG) rfl rfl (Nat.le_of_ble_eq_true rfl) (ok_X4_firstStep hG N (Nat.le_trans (by decide) hd) es2) rfl ?_
      obtain ⟨s3, es3, h⟩ := zb h
      refine zf_iast (q := 117) rfl dX4_plan_116 (sc37 hG) es3 ?_
      refine zf_iload_n 2 (q := 118) (j := 2) rfl dX4_plan_117 rfl rfl ?_
      refine zf_iconst (q := 119) rfl dX4_plan_118 ic1 ?_
      refine zf_aload_n 0 (q := 120) (j := 0) rfl dX4_plan_119 rfl rfl ?_
      refine zf_getR (q := 123) rfl dX4_plan_120 lf_RX4_18 (sc34 hG) rfl ?_
      refine zf_iload_n 3 (q := 124) (j := 3) rfl dX4_plan_123 rfl rfl ?_
      obtain ⟨v4, ev4, h⟩ := zb h
      refine zf_iald (q := 125) rfl dX4_plan_124 (sc37 hG) ev4 ?_
      refine zf_ishl (q := 126) rfl dX4_plan_125 ?_
      refine zf_ior (q := 127) rfl dX4_plan_126 ?_
      obtain ⟨v5, ev5, h⟩ := zb h
      refine zf_istore_n (q := 128) (y := v5) (i := 2) (lv1 := [(2, .int v5), (0, .ref (zad G 34)), (1, .int x1), (3, .int x3)]) rfl dX4_plan_127 rfl (by decide) ev5 rfl ?_
      refine zf_aload_n 1 (q := 129) (j := 0) rfl dX4_plan_128 rfl rfl ?_
      refine zf_dup (q := 130) rfl dX4_plan_129 rfl ?_
      refine zf_getI (q := 133) rfl dX4_plan_130 lf_RX4_75 (sc34 hG) rfl ?_
      refine zf_iconst (q := 134) rfl dX4_plan_133 ic1 ?_
      refine zf_iadd (q := 135) rfl dX4_plan_134 ?_
      obtain ⟨s6, es6, h⟩ := zb h
      refine zf_putI (q := 138) rfl dX4_plan_135 lp_RX4_75 (sc34 hG) rfl es6 ?_
      obtain ⟨v7, ev7, h⟩ := zb h
      refine zf_iinc 3 (q := 141) (v := v7) (lv1 := [(3, .int v7), (2, .int v5), (0, .ref (zad G 34)), (1, .int x1)]) rfl dX4_plan_138 rfl (by rw [ic1]; exact ev7) (by decide) rfl ?_
      refine zf_goto (tgt := 95) (by decide) dX4_plan_141 ?_
      exact zf_sub [2, 3, 1, 0] rfl (hr95 _ _ _ _ h)
def f_X4_plan_95 (N : Nat) : Nat → Int32 → Int32 → Int32 → ZM → Option (Unit × ZM)
  | 0, _, _, _, _ => none
  | n + 1, x1, x2, x3, σ => b_X4_plan_95 N (f_X4_plan_95 N n) x1 x2 x3 σ
theorem ok_X4_plan_95 {G : ZG} (hG : zSH G = shC) (N : Nat) {d : Nat} (hd : 4 ≤ d) {res : Unit × ZM} : ∀ (n : Nat) (x1 : Int32) (x2 : Int32) (x3 : Int32) (σ : ZM), f_X4_plan_95 N n x1 x2 x3 σ = some res → zF G MX4_plan (d + 1) 95 [(0, .ref (zad G 34)), (1, .int x1), (2, .int x2), (3, .int x3)] [] σ none res.2 := by
  intro n
  induction n with
  | zero => intro x1 x2 x3 σ h; exact absurd h (by simp [f_X4_plan_95])
  | succ n ih => intro x1 x2 x3 σ h; rw [f_X4_plan_95] at h; exact ok_b_X4_plan_95 hG N hd ih h
def f_X4_plan_70 (N : Nat) (rec7 : Int32 → Int32 → ZM → Option (Unit × ZM)) (x1 : Int32) (x2 : Int32) (σ : ZM) : Option (Unit × ZM) :=
  (some (x2 + (-1 : Int32))).bind fun v8 =>
  rec7 x1 v8 σ
set_option maxRecDepth 100000 in
theorem ok_X4_plan_70 {G : ZG} (hG : zSH G = shC) (N : Nat) {d : Nat} (hd : 4 ≤ d) {rec7 : Int32 → Int32 → ZM → Option (Unit × ZM)} {res : Unit × ZM} (hr7 : ∀ (x1 : Int32) (x2 : Int32) (σ : ZM), rec7 x1 x2 σ = some res → zF G MX4_plan (d + 1) 7 [(0, .ref (zad G 34)), (1, .int x1), (2, .int x2)] [] σ none res.2) {x1 : Int32} {x2 : Int32} {σ : ZM} (h : f_X4_plan_70 N rec7 x1 x2 σ = some res) : zF G MX4_plan (d + 1) 70 [(0, .ref (zad G 34)), (1, .int x1), (2, .int x2)] [] σ none res.2 := by
  unfold f_X4_plan_70 at h
  obtain ⟨v8, ev8, h⟩ := zb h
  refine zf_iinc 2 (q := 73) (v := v8) (lv1 := [(2, .int v8), (0, .ref (zad G 34)), (1, .int x1)]) rfl dX4_plan_70 rfl (by rw [icm1]; exact ev8) (by decide) rfl ?_
  refine zf_goto (tgt := 7) (by decide) dX4_plan_73 ?_
  exact zf_sub [1, 2, 0] rfl (hr7 _ _ _ h)
def f_X4_plan_57 (N : Nat) (rec7 : Int32 → Int32 → ZM → Option (Unit × ZM)) (x1 : Int32) (x2 : Int32) (y0 : Int32) (y1 : Int32) (σ : ZM) : Option (Unit × ZM) :=
  (zast σ 35 16 y1 y0).bind fun s9 =>
  zbd (f_X4_leastWorst N x2 x1 s9) fun r10 s11 =>
  (zast s11 36 16 x2 r10).bind fun s12 =>
  f_X4_plan_70 N rec7 x1 x2 s12
set_option maxRecDepth 100000 in
theorem ok_X4_plan_57 {G : ZG} (hG : zSH G = shC) (N : Nat) {d : Nat} (hd : 4 ≤ d) {rec7 : Int32 → Int32 → ZM → Option (Unit × ZM)} {res : Unit × ZM} (hr7 : ∀ (x1 : Int32) (x2 : Int32) (σ : ZM), rec7 x1 x2 σ = some res → zF G MX4_plan (d + 1) 7 [(0, .ref (zad G 34)), (1, .int x1), (2, .int x2)] [] σ none res.2) {x1 : Int32} {x2 : Int32} {y0 : Int32} {y1 : Int32} {σ : ZM} (h : f_X4_plan_57 N rec7 x1 x2 y0 y1 σ = some res) : zF G MX4_plan (d + 1) 57 [(0, .ref (zad G 34)), (1, .int x1), (2, .int x2)] [.int y0, .int y1, .ref (zad G 35)] σ none res.2 := by
  unfold f_X4_plan_57 at h
  obtain ⟨s9, es9, h⟩ := zb h
  refine zf_iast (q := 58) rfl dX4_plan_57 (sc35 hG) es9 ?_
  refine zf_aload_n 0 (q := 59) (j := 0) rfl dX4_plan_58 rfl rfl ?_
  refine zf_getR (q := 62) rfl dX4_plan_59 lf_RX4_15 (sc34 hG) rfl ?_
  refine zf_iload_n 2 (q := 63) (j := 2) rfl dX4_plan_62 rfl rfl ?_
  refine zf_aload_n 0 (q := 64) (j := 0) rfl dX4_plan_63 rfl rfl ?_
  refine zf_iload_n 2 (q := 65) (j := 2) rfl dX4_plan_64 rfl rfl ?_
  refine zf_iload_n 1 (q := 66) (j := 1) rfl dX4_plan_65 rfl rfl ?_
  obtain ⟨r10, s11, es11, h⟩ := zc h
  refine zf_callV (q := 69) (As := [.int x2, .int x1]) (rest := [.int x2, .ref (zad G 36)]) (st1 := [.int r10, .int x2, .ref (zad G 36)]) rfl dX4_plan_66 lv_RX4_68 (sc34 hG) rfl rfl (Nat.le_of_ble_eq_true rfl) (ok_X4_leastWorst hG N (Nat.le_trans (by decide) hd) es11) rfl ?_
  obtain ⟨s12, es12, h⟩ := zb h
  refine zf_iast (q := 70) rfl dX4_plan_69 (sc36 hG) es12 ?_
  exact zf_sub [0, 1, 2] rfl (ok_X4_plan_70 hG N hd hr7 h)
def b_X4_plan_7 (N : Nat) (rec7 : Int32 → Int32 → ZM → Option (Unit × ZM)) (x1 : Int32) (x2 : Int32) (σ : ZM) : Option (Unit × ZM) :=
  if x2 < 0 then
  ((zald σ 36 16 (0 : Int32)).bind fun v13 =>
  (zpI σ 34 7 v13).bind fun s14 =>
  (zpI s14 34 6 (0 : Int32)).bind fun s15 =>
  f_X4_plan_95 N N x1 (0 : Int32) (0 : Int32) s15)
  else
  (if (x2 &&& (x1 ^^^ (-1 : Int32))) = 0 then
  (zbd (f_X4_pickBehind N x2 σ) fun r16 s17 =>
  zbd (f_X1_measure N s17) fun r18 s19 =>
  (zald s19 30 625 r18).bind fun v20 =>
  if v20 = (-9 : Int32) then
  (f_X4_plan_57 N rec7 x1 x2 (1000000 : Int32) x2 s19)
  else
  (f_X4_plan_57 N rec7 x1 x2 v20 x2 s19))
  else
  (f_X4_plan_70 N rec7 x1 x2 σ))
set_option maxRecDepth 100000 in
theorem ok_b_X4_plan_7 {G : ZG} (hG : zSH G = shC) (N : Nat) {d : Nat} (hd : 4 ≤ d) {rec7 : Int32 → Int32 → ZM → Option (Unit × ZM)} {res : Unit × ZM} (hr7 : ∀ (x1 : Int32) (x2 : Int32) (σ : ZM), rec7 x1 x2 σ = some res → zF G MX4_plan (d + 1) 7 [(0, .ref (zad G 34)), (1, .int x1), (2, .int x2)] [] σ none res.2) {x1 : Int32} {x2 : Int32} {σ : ZM} (h : b_X4_plan_7 N rec7 x1 x2 σ = some res) : zF G MX4_plan (d + 1) 7 [(0, .ref (zad G 34)), (1, .int x1), (2, .int x2)] [] σ none res.2 := by
  unfold b_X4_plan_7 at h
  refine zf_iload_n 2 (q := 8) (j := 2) rfl dX4_plan_7 rfl rfl ?_
  refine zf_if_lt (q := 11) (tgt := 76) rfl (by decide) dX4_plan_8 (fun hc8 => ?_) (fun hc8 => ?_)
  · replace h := (zi h).1 hc8
    refine zf_aload_n 0 (q := 77) (j := 0) rfl dX4_plan_76 rfl rfl ?_
    refine zf_aload_n 0 (q := 78) (j := 0) rfl dX4_plan_77 rfl rfl ?_
    refine zf_getR (q := 81) rfl dX4_plan_78 lf_RX4_15 (sc34 hG) rfl ?_
    refine zf_iconst (q := 82) rfl dX4_plan_81 ic0 ?_
    obtain ⟨v13, ev13, h⟩ := zb h
    refine zf_iald (q := 83) rfl dX4_plan_82 (sc36 hG) ev13 ?_
    obtain ⟨s14, es14, h⟩ := zb h
    refine zf_putI (q := 86) rfl dX4_plan_83 lp_RX4_72 (sc34 hG) rfl es14 ?_
    refine zf_aload_n 0 (q := 87) (j := 0) rfl dX4_plan_86 rfl rfl ?_
    refine zf_iconst (q := 88) rfl dX4_plan_87 ic0 ?_
    obtain ⟨s15, es15, h⟩ := zb h
    refine zf_putI (q := 91) rfl dX4_plan_88 lp_RX4_75 (sc34 hG) rfl es15 ?_
    refine zf_iconst (q := 92) rfl dX4_plan_91 ic0 ?_
    refine zf_istore_n (q := 93) (y := (0 : Int32)) (i := 2) (lv1 := [(2, .int (0 : Int32)), (0, .ref (zad G 34)), (1, .int x1)]) rfl dX4_plan_92 rfl (by decide) rfl rfl ?_
    refine zf_iconst (q := 94) rfl dX4_plan_93 ic0 ?_
    refine zf_istore_n (q := 95) (y := (0 : Int32)) (i := 3) (lv1 := [(3, .int (0 : Int32)), (2, .int (0 : Int32)), (0, .ref (zad G 34)), (1, .int x1)]) rfl dX4_plan_94 rfl (by decide) rfl rfl ?_
    exact zf_sub [2, 3, 1, 0] rfl (ok_X4_plan_95 hG N hd _ _ _ _ _ h)
  · replace h := (zi h).2 hc8
    refine zf_iload_n 2 (q := 12) (j := 2) rfl dX4_plan_11 rfl rfl ?_
    refine zf_iload_n 1 (q := 13) (j := 1) rfl dX4_plan_12 rfl rfl ?_
    refine zf_iconst (q := 14) rfl dX4_plan_13 icm1 ?_
    refine zf_ixor (q := 15) rfl dX4_plan_14 ?_
    refine zf_iand (q := 16) rfl dX4_plan_15 ?_
    refine zf_if_ne (q := 19) (tgt := 70) rfl (by decide) dX4_plan_16 (fun hc16 => ?_) (fun hc16 => ?_)
    · replace h := (zi h).2 hc16
      exact zf_sub [0, 1, 2] rfl (ok_X4_plan_70 hG N hd hr7 h)
    · replace h := (zi h).1 hc16
      refine zf_aload_n 0 (q := 20) (j := 0) rfl dX4_plan_19 rfl rfl ?_
      refine zf_iload_n 2 (q := 21) (j := 2) rfl dX4_plan_20 rfl rfl ?_
      obtain ⟨r16, s17, es17, h⟩ := zc h
      refine zf_callV (q := 24) (As := [.int x2]) (rest := []) (st1 := []) rfl dX4_plan_21 lv_RX4_55 (sc34 hG) rfl rfl (Nat.le_of_ble_eq_true rfl) (ok_X4_pickBehind hG N (Nat.le_trans (by decide) hd) es17) rfl ?_
      refine zf_aload_n 0 (q := 25) (j := 0) rfl dX4_plan_24 rfl rfl ?_
      refine zf_getR (q := 28) rfl dX4_plan_25 lf_RX4_29 (sc34 hG) rfl ?_
      refine zf_getR (q := 31) rfl dX4_plan_28 lf_RX4_59 (sc23 hG) rfl ?_
      refine zf_aload_n 0 (q := 32) (j := 0) rfl dX4_plan_31 rfl rfl ?_
      refine zf_getR (q := 35) rfl dX4_plan_32 lf_RX4_29 (sc34 hG) rfl ?_
      obtain ⟨r18, s19, es19, h⟩ := zc h
      refine zf_callV (q := 38) (As := []) (rest := [.ref (zad G 30)]) (st1 := [.int r18, .ref (zad G 30)]) rfl dX4_plan_35 lv_RX4_64 (sc23 hG) rfl rfl (Nat.le_of_ble_eq_true rfl) (ok_X1_measure hG N (Nat.le_trans (by decide) hd) es19) rfl ?_
      obtain ⟨v20, ev20, h⟩ := zb h
      refine zf_iald (q := 39) rfl dX4_plan_38 (sc30 hG) ev20 ?_
      refine zf_istore_n (q := 40) (y := v20) (i := 3) (lv1 := [(3, .int v20), (0, .ref (zad G 34)), (1, .int x1), (2, .int x2)]) rfl dX4_plan_39 rfl (by decide) rfl rfl ?_
      refine zf_aload_n 1 (q := 41) (j := 0) rfl dX4_plan_40 rfl rfl ?_
      refine zf_getR (q := 44) rfl dX4_plan_41 lf_RX4_11 (sc34 hG) rfl ?_
      refine zf_iload_n 3 (q := 45) (j := 2) rfl dX4_plan_44 rfl rfl ?_
      refine zf_iload_n 0 (q := 46) (j := 3) rfl dX4_plan_45 rfl rfl ?_
      refine zf_bipush (q := 48) rfl dX4_plan_46 bpm9 ?_
      refine zf_icmp_ne (q := 51) (tgt := 56) rfl (by decide) dX4_plan_48 (fun hc48 => ?_) (fun hc48 => ?_)
      · replace h := (zi h).2 hc48
        refine zf_iload_n 0 (q := 57) (j := 3) rfl dX4_plan_56 rfl rfl ?_
        exact zf_sub [1, 2, 3] rfl (ok_X4_plan_57 hG N hd hr7 h)
      · replace h := (zi h).1 hc48
        refine zf_ldc (q := 53) rfl dX4_plan_51 co_RX4_67 ?_
        refine zf_goto (tgt := 57) (by decide) dX4_plan_53 ?_
        exact zf_sub [1, 2, 3] rfl (ok_X4_plan_57 hG N hd hr7 h)
def f_X4_plan_7 (N : Nat) : Nat → Int32 → Int32 → ZM → Option (Unit × ZM)
  | 0, _, _, _ => none
  | n + 1, x1, x2, σ => b_X4_plan_7 N (f_X4_plan_7 N n) x1 x2 σ
theorem ok_X4_plan_7 {G : ZG} (hG : zSH G = shC) (N : Nat) {d : Nat} (hd : 4 ≤ d) {res : Unit × ZM} : ∀ (n : Nat) (x1 : Int32) (x2 : Int32) (σ : ZM), f_X4_plan_7 N n x1 x2 σ = some res → zF G MX4_plan (d + 1) 7 [(0, .ref (zad G 34)), (1, .int x1), (2, .int x2)] [] σ none res.2 := by
  intro n
  induction n with
  | zero => intro x1 x2 σ h; exact absurd h (by simp [f_X4_plan_7])
  | succ n ih => intro x1 x2 σ h; rw [f_X4_plan_7] at h; exact ok_b_X4_plan_7 hG N hd ih h
def f_X4_plan (N : Nat) (σ : ZM) : Option (Unit × ZM) :=
  zbd (f_X4_toChange N σ) fun r21 s22 =>
  f_X4_plan_7 N N r21 r21 s22
set_option maxRecDepth 100000 in
theorem ok_X4_plan {G : ZG} (hG : zSH G = shC) (N : Nat) {d : Nat} (hd : 5 ≤ d) {σ : ZM} {res : Unit × ZM} (h : f_X4_plan N σ = some res) : zCt G d MX4_plan [.ref (zad G 34)] σ none res.2 := by
  obtain ⟨d, rfl⟩ : ∃ k, d = k + 1 := ⟨d - 1, by omega⟩
  have hd : 4 ≤ d := by omega
  refine zct_of (by decide) (Nat.le_of_ble_eq_true rfl) (lv := [(0, .ref (zad G 34))]) rfl ?_
  unfold f_X4_plan at h
  refine zf_aload_n 0 (q := 1) (j := 0) rfl dX4_plan_0 rfl rfl ?_
  obtain ⟨r21, s22, es22, h⟩ := zc h
  refine zf_callV (q := 4) (As := []) (rest := []) (st1 := [.int r21]) rfl dX4_plan_1 lv_RX4_51 (sc34 hG) rfl rfl (Nat.le_of_ble_eq_true rfl) (ok_X4_toChange hG N (Nat.le_trans (by decide) hd) es22) rfl ?_
  refine zf_istore_n (q := 5) (y := r21) (i := 1) (lv1 := [(1, .int r21), (0, .ref (zad G 34))]) rfl dX4_plan_4 rfl (by decide) rfl rfl ?_
  refine zf_iload_n 0 (q := 6) (j := 1) rfl dX4_plan_5 rfl rfl ?_
  refine zf_istore_n (q := 7) (y := r21) (i := 2) (lv1 := [(2, .int r21), (1, .int r21), (0, .ref (zad G 34))]) rfl dX4_plan_6 rfl (by decide) rfl rfl ?_
  exact zf_sub [2, 1, 0] rfl (ok_X4_plan_7 hG N hd _ _ _ _ h)
-- ===== X7_add: NearCopies$Words.add()I
def f_X7_add (N : Nat) (w0 : Nat) (σ : ZM) : Option (Int32 × ZM) :=
  (zasZ σ (w0 + 4) 4 (σ.1 w0 0) (1 : Int32)).bind fun s1 =>
  (zpI s1 w0 0 ((s1.1 w0 0) + (1 : Int32))).bind fun s2 =>
  some (((s2.1 w0 0) - (1 : Int32)), s2)
set_option maxRecDepth 100000 in
theorem ok_X7_add {G : ZG} (hG : zSH G = shC) (N : Nat) {d : Nat} (hd : 0 ≤ d) {w0 : Nat} (hw0 : zWd G w0) {σ : ZM} {res : Int32 × ZM} (h : f_X7_add N w0 σ = some res) : zCt G d MX7_add [.ref (zad G w0)] σ (some (.int res.1)) res.2 := by
  refine zct_of (by decide) (Nat.le_of_ble_eq_true rfl) (lv := [(0, .ref (zad G w0))]) rfl ?_
  unfold f_X7_add at h
  refine zf_aload_n 0 (q := 1) (j := 0) rfl dX7_add_0 rfl rfl ?_
  refine zf_getR (q := 4) rfl dX7_add_1 lf_RX7_22 hw0.1 rfl ?_
  refine zf_aload_n 0 (q := 5) (j := 0) rfl dX7_add_4 rfl rfl ?_
  refine zf_getI (q := 8) rfl dX7_add_5 lf_RX7_25 hw0.1 rfl ?_
  refine zf_iconst (q := 9) rfl dX7_add_8 ic1 ?_
  obtain ⟨s1, es1, h⟩ := zb h
  refine zf_zast (q := 10) rfl dX7_add_9 hw0.2.2.2.2 es1 ?_
  refine zf_aload_n 0 (q := 11) (j := 0) rfl dX7_add_10 rfl rfl ?_
  refine zf_dup (q := 12) rfl dX7_add_11 rfl ?_
  refine zf_getI (q := 15) rfl dX7_add_12 lf_RX7_25 hw0.1 rfl ?_
  refine zf_iconst (q := 16) rfl dX7_add_15 ic1 ?_
  refine zf_iadd (q := 17) rfl dX7_add_16 ?_
  obtain ⟨s2, es2, h⟩ := zb h
  refine zf_putI (q := 20) rfl dX7_add_17 lp_RX7_25 hw0.1 rfl es2 ?_
  refine zf_aload_n 0 (q := 21) (j := 0) rfl dX7_add_20 rfl rfl ?_
  refine zf_getI (q := 24) rfl dX7_add_21 lf_RX7_25 hw0.1 rfl ?_
  refine zf_iconst (q := 25) rfl dX7_add_24 ic1 ?_
  refine zf_isub (q := 26) rfl dX7_add_25 ?_
  cases h
  exact zf_ireturn dX7_add_26 rfl
-- ===== X7_upCount: NearCopies$Words.upCount()I
def f_X7_upCount_24 (N : Nat) (w0 : Nat) (rec4 : Int32 → Int32 → ZM → Option (Int32 × ZM)) (x1 : Int32) (x2 : Int32) (σ : ZM) : Option (Int32 × ZM) :=
  (some (x2 + (1 : Int32))).bind fun v1 =>
  rec4 x1 v1 σ
set_option maxRecDepth 100000 in
theorem ok_X7_upCount_24 {G : ZG} (hG : zSH G = shC) (N : Nat) {d : Nat} {w0 : Nat} (hw0 : zWd G w0) {rec4 : Int32 → Int32 → ZM → Option (Int32 × ZM)} {res : Int32 × ZM} (hr4 : ∀ (x1 : Int32) (x2 : Int32) (σ : ZM), rec4 x1 x2 σ = some res → zF G MX7_upCount d 4 [(0, .ref (zad G w0)), (1, .int x1), (2, .int x2)] [] σ (some (.int res.1)) res.2) {x1 : Int32} {x2 : Int32} {σ : ZM} (h : f_X7_upCount_24 N w0 rec4 x1 x2 σ = some res) : zF G MX7_upCount d 24 [(0, .ref (zad G w0)), (1, .int x1), (2, .int x2)] [] σ (some (.int res.1)) res.2 := by
  unfold f_X7_upCount_24 at h
  obtain ⟨v1, ev1, h⟩ := zb h
  refine zf_iinc 2 (q := 27) (v := v1) (lv1 := [(2, .int v1), (0, .ref (zad G w0)), (1, .int x1)]) rfl dX7_upCount_24 rfl (by rw [ic1]; exact ev1) (by decide) rfl ?_
  refine zf_goto (tgt := 4) (by decide) dX7_upCount_27 ?_
  exact zf_sub [1, 2, 0] rfl (hr4 _ _ _ h)
def b_X7_upCount_4 (N : Nat) (w0 : Nat) (rec4 : Int32 → Int32 → ZM → Option (Int32 × ZM)) (x1 : Int32) (x2 : Int32) (σ : ZM) : Option (Int32 × ZM) :=
  if (σ.1 w0 0) ≤ x2 then
  (some (x1, σ))
  else
  ((zald σ (w0 + 4) 4 x2).bind fun v2 =>
  if v2 = 0 then
  (f_X7_upCount_24 N w0 rec4 x1 x2 σ)
  else
  ((some (x1 + (1 : Int32))).bind fun v3 =>
  f_X7_upCount_24 N w0 rec4 v3 x2 σ))
set_option maxRecDepth 100000 in
theorem ok_b_X7_upCount_4 {G : ZG} (hG : zSH G = shC) (N : Nat) {d : Nat} {w0 : Nat} (hw0 : zWd G w0) {rec4 : Int32 → Int32 → ZM → Option (Int32 × ZM)} {res : Int32 × ZM} (hr4 : ∀ (x1 : Int32) (x2 : Int32) (σ : ZM), rec4 x1 x2 σ = some res → zF G MX7_upCount d 4 [(0, .ref (zad G w0)), (1, .int x1), (2, .int x2)] [] σ (some (.int res.1)) res.2) {x1 : Int32} {x2 : Int32} {σ : ZM} (h : b_X7_upCount_4 N w0 rec4 x1 x2 σ = some res) : zF G MX7_upCount d 4 [(0, .ref (zad G w0)), (1, .int x1), (2, .int x2)] [] σ (some (.int res.1)) res.2 := by
  unfold b_X7_upCount_4 at h
  refine zf_iload_n 2 (q := 5) (j := 2) rfl dX7_upCount_4 rfl rfl ?_
  refine zf_aload_n 0 (q := 6) (j := 0) rfl dX7_upCount_5 rfl rfl ?_
  refine zf_getI (q := 9) rfl dX7_upCount_6 lf_RX7_25 hw0.1 rfl ?_
  refine zf_icmp_ge (q := 12) (tgt := 30) rfl (by decide) dX7_upCount_9 (fun hc9 => ?_) (fun hc9 => ?_)
  · replace h := (zi h).1 hc9
    refine zf_iload_n 1 (q := 31) (j := 1) rfl dX7_upCount_30 rfl rfl ?_
    cases h
    exact zf_ireturn dX7_upCount_31 rfl
  · replace h := (zi h).2 hc9
    refine zf_aload_n 0 (q := 13) (j := 0) rfl dX7_upCount_12 rfl rfl ?_
    refine zf_getR (q := 16) rfl dX7_upCount_13 lf_RX7_22 hw0.1 rfl ?_
    refine zf_iload_n 2 (q := 17) (j := 2) rfl dX7_upCount_16 rfl rfl ?_
    obtain ⟨v2, ev2, h⟩ := zb h
    refine zf_zald (q := 18) rfl dX7_upCount_17 hw0.2.2.2.2 ev2 ?_
    refine zf_if_eq (q := 21) (tgt := 24) rfl (by decide) dX7_upCount_18 (fun hc18 => ?_) (fun hc18 => ?_)
    · replace h := (zi h).1 hc18
      exact zf_sub [0, 1, 2] rfl (ok_X7_upCount_24 hG N hw0 hr4 h)
    · replace h := (zi h).2 hc18
      obtain ⟨v3, ev3, h⟩ := zb h
      refine zf_iinc 1 (q := 24) (v := v3) (lv1 := [(1, .int v3), (0, .ref (zad G w0)), (2, .int x2)]) rfl dX7_upCount_21 rfl (by rw [ic1]; exact ev3) (by decide) rfl ?_
      exact zf_sub [1, 0, 2] rfl (ok_X7_upCount_24 hG N hw0 hr4 h)
def f_X7_upCount_4 (N : Nat) (w0 : Nat) : Nat → Int32 → Int32 → ZM → Option (Int32 × ZM)
  | 0, _, _, _ => none
  | n + 1, x1, x2, σ => b_X7_upCount_4 N w0 (f_X7_upCount_4 N w0 n) x1 x2 σ
theorem ok_X7_upCount_4 {G : ZG} (hG : zSH G = shC) (N : Nat) {d : Nat} {w0 : Nat} (hw0 : zWd G w0) {res : Int32 × ZM} : ∀ (n : Nat) (x1 : Int32) (x2 : Int32) (σ : ZM), f_X7_upCount_4 N w0 n x1 x2 σ = some res → zF G MX7_upCount d 4 [(0, .ref (zad G w0)), (1, .int x1), (2, .int x2)] [] σ (some (.int res.1)) res.2 := by
  intro n
  induction n with
  | zero => intro x1 x2 σ h; exact absurd h (by simp [f_X7_upCount_4])
  | succ n ih => intro x1 x2 σ h; rw [f_X7_upCount_4] at h; exact ok_b_X7_upCount_4 hG N hw0 ih h
def f_X7_upCount (N : Nat) (w0 : Nat) (σ : ZM) : Option (Int32 × ZM) :=
  f_X7_upCount_4 N w0 N (0 : Int32) (0 : Int32) σ
set_option maxRecDepth 100000 in
theorem ok_X7_upCount {G : ZG} (hG : zSH G = shC) (N : Nat) {d : Nat} (hd : 0 ≤ d) {w0 : Nat} (hw0 : zWd G w0) {σ : ZM} {res : Int32 × ZM} (h : f_X7_upCount N w0 σ = some res) : zCt G d MX7_upCount [.ref (zad G w0)] σ (some (.int res.1)) res.2 := by
  refine zct_of (by decide) (Nat.le_of_ble_eq_true rfl) (lv := [(0, .ref (zad G w0))]) rfl ?_
  unfold f_X7_upCount at h
  refine zf_iconst (q := 1) rfl dX7_upCount_0 ic0 ?_
  refine zf_istore_n (q := 2) (y := (0 : Int32)) (i := 1) (lv1 := [(1, .int (0 : Int32)), (0, .ref (zad G w0))]) rfl dX7_upCount_1 rfl (by decide) rfl rfl ?_
  refine zf_iconst (q := 3) rfl dX7_upCount_2 ic0 ?_
  refine zf_istore_n (q := 4) (y := (0 : Int32)) (i := 2) (lv1 := [(2, .int (0 : Int32)), (1, .int (0 : Int32)), (0, .ref (zad G w0))]) rfl dX7_upCount_3 rfl (by decide) rfl rfl ?_
  exact zf_sub [2, 1, 0] rfl (ok_X7_upCount_4 hG N hw0 _ _ _ _ h)
-- ===== X8_within: NearCopies.within(II)Z
def f_X8_within (N : Nat) (x0 : Int32) (x1 : Int32) (σ : ZM) : Option (Int32 × ZM) :=
  if x0 < 0 then
  (some ((0 : Int32), σ))
  else
  (if x1 < x0 then
  (some ((0 : Int32), σ))
  else
  (some ((1 : Int32), σ)))
set_option maxRecDepth 100000 in
theorem ok_X8_within {G : ZG} (hG : zSH G = shC) (N : Nat) {d : Nat} (hd : 0 ≤ d) {x0 : Int32} {x1 : Int32} {σ : ZM} {res : Int32 × ZM} (h : f_X8_within N x0 x1 σ = some res) : zCt G d MX8_within [.int x0, .int x1] σ (some (.int res.1)) res.2 := by
  refine zct_of (by decide) (Nat.le_of_ble_eq_true rfl) (lv := [(0, .int x0), (1, .int x1)]) rfl ?_
  unfold f_X8_within at h
  refine zf_iload_n 0 (q := 1) (j := 0) rfl dX8_within_0 rfl rfl ?_
  refine zf_if_lt (q := 4) (tgt := 13) rfl (by decide) dX8_within_1 (fun hc1 => ?_) (fun hc1 => ?_)
  · replace h := (zi h).1 hc1
    refine zf_iconst (q := 14) rfl dX8_within_13 ic0 ?_
    cases h
    exact zf_zreturn dX8_within_14 rfl (Or.inl rfl)
  · replace h := (zi h).2 hc1
    refine zf_iload_n 0 (q := 5) (j := 0) rfl dX8_within_4 rfl rfl ?_
    refine zf_iload_n 1 (q := 6) (j := 1) rfl dX8_within_5 rfl rfl ?_
    refine zf_icmp_gt (q := 9) (tgt := 13) rfl (by decide) dX8_within_6 (fun hc6 => ?_) (fun hc6 => ?_)
    · replace h := (zi h).1 hc6
      refine zf_iconst (q := 14) rfl dX8_within_13 ic0 ?_
      cases h
      exact zf_zreturn dX8_within_14 rfl (Or.inl rfl)
    · replace h := (zi h).2 hc6
      refine zf_iconst (q := 10) rfl dX8_within_9 ic1 ?_
      refine zf_goto (tgt := 14) (by decide) dX8_within_10 ?_
      cases h
      exact zf_zreturn dX8_within_14 rfl (Or.inr rfl)
-- ===== X8_forgetAll: NearCopies.forgetAll()V
def f_X8_forgetAll (N : Nat) (σ : ZM) : Option (Unit × ZM) :=
  zbd (f_X1_forget N σ) fun r1 s2 =>
  zbd (f_X0_forget N s2) fun r3 s4 =>
  some ((), s4)
set_option maxRecDepth 100000 in
theorem ok_X8_forgetAll {G : ZG} (hG : zSH G = shC) (N : Nat) {d : Nat} (hd : 1 ≤ d) {σ : ZM} {res : Unit × ZM} (h : f_X8_forgetAll N σ = some res) : zCt G d MX8_forgetAll [.ref (zad G 0)] σ none res.2 := by
  obtain ⟨d, rfl⟩ : ∃ k, d = k + 1 := ⟨d - 1, by omega⟩
  have hd : 0 ≤ d := by omega
  refine zct_of (by decide) (Nat.le_of_ble_eq_true rfl) (lv := [(0, .ref (zad G 0))]) rfl ?_
  unfold f_X8_forgetAll at h
  refine zf_aload_n 0 (q := 1) (j := 0) rfl dX8_forgetAll_0 rfl rfl ?_
  refine zf_getR (q := 4) rfl dX8_forgetAll_1 lf_RX8_44 (sc0 hG) rfl ?_
  obtain ⟨r1, s2, es2, h⟩ := zc h
  refine zf_callV (q := 7) (As := []) (rest := []) (st1 := []) rfl dX8_forgetAll_4 lv_RX8_304 (sc23 hG) rfl rfl (Nat.le_of_ble_eq_true rfl) (ok_X1_forget hG N (Nat.le_trans (by decide) hd) es2) rfl ?_
  refine zf_aload_n 0 (q := 8) (j := 0) rfl dX8_forgetAll_7 rfl rfl ?_
  refine zf_getR (q := 11) rfl dX8_forgetAll_8 lf_RX8_62 (sc0 hG) rfl ?_
  obtain ⟨r3, s4, es4, h⟩ := zc h
  refine zf_callV (q := 14) (As := []) (rest := []) (st1 := []) rfl dX8_forgetAll_11 lv_RX8_205 (sc38 hG) rfl rfl (Nat.le_of_ble_eq_true rfl) (ok_X0_forget hG N (Nat.le_trans (by decide) hd) es4) rfl ?_
  cases h
  exact zf_return dX8_forgetAll_14 rfl
-- ===== X8_net: NearCopies.net(I)I
def f_X8_net (N : Nat) (x1 : Int32) (σ : ZM) : Option (Int32 × ZM) :=
  zbd (f_X8_within N x1 (10000 : Int32) σ) fun r1 s2 =>
  if r1 = 0 then
  (some ((-2 : Int32), s2))
  else
  (if (s2.1 1 0) < (10 : Int32) then
  (zbd (f_X8_forgetAll N s2) fun r3 s4 =>
  zbd (f_X3_add N x1 s4) fun r5 s6 =>
  some (r5, s6))
  else
  (some ((-4 : Int32), s2)))
set_option maxRecDepth 100000 in
theorem ok_X8_net {G : ZG} (hG : zSH G = shC) (N : Nat) {d : Nat} (hd : 2 ≤ d) {x1 : Int32} {σ : ZM} {res : Int32 × ZM} (h : f_X8_net N x1 σ = some res) : zCt G d MX8_net [.ref (zad G 0), .int x1] σ (some (.int res.1)) res.2 := by
  obtain ⟨d, rfl⟩ : ∃ k, d = k + 1 := ⟨d - 1, by omega⟩
  have hd : 1 ≤ d := by omega
  refine zct_of (by decide) (Nat.le_of_ble_eq_true rfl) (lv := [(0, .ref (zad G 0)), (1, .int x1)]) rfl ?_
  unfold f_X8_net at h
  refine zf_iload_n 1 (q := 1) (j := 1) rfl dX8_net_0 rfl rfl ?_
  refine zf_sipush (q := 4) rfl dX8_net_1 sp10000 ?_
  obtain ⟨r1, s2, es2, h⟩ := zc h
  refine zf_callS (q := 7) (As := [.int x1, .int (10000 : Int32)]) (rest := []) (st1 := [.int r1]) rfl dX8_net_4 ls_RX8_66 rfl rfl (Nat.le_of_ble_eq_true rfl) (ok_X8_within hG N (Nat.le_trans (by decide) hd) es2) rfl ?_
  refine zf_if_ne (q := 10) (tgt := 13) rfl (by decide) dX8_net_7 (fun hc7 => ?_) (fun hc7 => ?_)
  · replace h := (zi h).2 hc7
    refine zf_aload_n 0 (q := 14) (j := 0) rfl dX8_net_13 rfl rfl ?_
    refine zf_getR (q := 17) rfl dX8_net_14 lf_RX8_26 (sc0 hG) rfl ?_
    refine zf_getI (q := 20) rfl dX8_net_17 lf_RX8_70 (sc1 hG) rfl ?_
    refine zf_bipush (q := 22) rfl dX8_net_20 bp10 ?_
    refine zf_icmp_lt (q := 25) (tgt := 28) rfl (by decide) dX8_net_22 (fun hc22 => ?_) (fun hc22 => ?_)
    · replace h := (zi h).1 hc22
      refine zf_aload_n 0 (q := 29) (j := 0) rfl dX8_net_28 rfl rfl ?_
      obtain ⟨r3, s4, es4, h⟩ := zc h
      refine zf_callV (q := 32) (As := []) (rest := []) (st1 := []) rfl dX8_net_29 lv_RX8_74 (sc0 hG) rfl rfl (Nat.le_of_ble_eq_true rfl) (ok_X8_forgetAll hG N (Nat.le_trans (by decide) hd) es4) rfl ?_
      refine zf_aload_n 0 (q := 33) (j := 0) rfl dX8_net_32 rfl rfl ?_
      refine zf_getR (q := 36) rfl dX8_net_33 lf_RX8_26 (sc0 hG) rfl ?_
      refine zf_iload_n 1 (q := 37) (j := 1) rfl dX8_net_36 rfl rfl ?_
      obtain ⟨r5, s6, es6, h⟩ := zc h
      refine zf_callV (q := 40) (As := [.int x1]) (rest := []) (st1 := [.int r5]) rfl dX8_net_37 lv_RX8_77 (sc1 hG) rfl rfl (Nat.le_of_ble_eq_true rfl) (ok_X3_add hG N (Nat.le_trans (by decide) hd) es6) rfl ?_
      cases h
      exact zf_ireturn dX8_net_40 rfl
    · replace h := (zi h).2 hc22
      refine zf_bipush (q := 27) rfl dX8_net_25 bpm4 ?_
      cases h
      exact zf_ireturn dX8_net_27 rfl
  · replace h := (zi h).1 hc7
    refine zf_bipush (q := 12) rfl dX8_net_10 bpm2 ?_
    cases h
    exact zf_ireturn dX8_net_12 rfl
-- ===== X8_tie: NearCopies.tie(IIZ)I
def f_X8_tie_60 (N : Nat) (x1 : Int32) (x2 : Int32) (x3 : Int32) (σ : ZM) : Option (Int32 × ZM) :=
  if (σ.1 1 1) < (20 : Int32) then
  (zbd (f_X8_forgetAll N σ) fun r1 s2 =>
  zbd (f_X3_join N x1 x2 x3 s2) fun r3 s4 =>
  some (r3, s4))
  else
  (some ((-4 : Int32), σ))
set_option maxRecDepth 100000 in
theorem ok_X8_tie_60 {G : ZG} (hG : zSH G = shC) (N : Nat) {d : Nat} (hd : 1 ≤ d) {res : Int32 × ZM} {x1 : Int32} {x2 : Int32} {x3 : Int32} {σ : ZM} (h : f_X8_tie_60 N x1 x2 x3 σ = some res) : zF G MX8_tie (d + 1) 60 [(0, .ref (zad G 0)), (1, .int x1), (2, .int x2), (3, .int x3)] [] σ (some (.int res.1)) res.2 := by
  unfold f_X8_tie_60 at h
  refine zf_aload_n 0 (q := 61) (j := 0) rfl dX8_tie_60 rfl rfl ?_
  refine zf_getR (q := 64) rfl dX8_tie_61 lf_RX8_26 (sc0 hG) rfl ?_
  refine zf_getI (q := 67) rfl dX8_tie_64 lf_RX8_92 (sc1 hG) rfl ?_
  refine zf_bipush (q := 69) rfl dX8_tie_67 bp20 ?_
  refine zf_icmp_lt (q := 72) (tgt := 75) rfl (by decide) dX8_tie_69 (fun hc69 => ?_) (fun hc69 => ?_)
  · replace h := (zi h).1 hc69
    refine zf_aload_n 0 (q := 76) (j := 0) rfl dX8_tie_75 rfl rfl ?_
    obtain ⟨r1, s2, es2, h⟩ := zc h
    refine zf_callV (q := 79) (As := []) (rest := []) (st1 := []) rfl dX8_tie_76 lv_RX8_74 (sc0 hG) rfl rfl (Nat.le_of_ble_eq_true rfl) (ok_X8_forgetAll hG N (Nat.le_trans (by decide) hd) es2) rfl ?_
    refine zf_aload_n 0 (q := 80) (j := 0) rfl dX8_tie_79 rfl rfl ?_
    refine zf_getR (q := 83) rfl dX8_tie_80 lf_RX8_26 (sc0 hG) rfl ?_
    refine zf_iload_n 1 (q := 84) (j := 1) rfl dX8_tie_83 rfl rfl ?_
    refine zf_iload_n 2 (q := 85) (j := 2) rfl dX8_tie_84 rfl rfl ?_
    refine zf_iload_n 3 (q := 86) (j := 3) rfl dX8_tie_85 rfl rfl ?_
    obtain ⟨r3, s4, es4, h⟩ := zc h
    refine zf_callV (q := 89) (As := [.int x1, .int x2, .int x3]) (rest := []) (st1 := [.int r3]) rfl dX8_tie_86 lv_RX8_95 (sc1 hG) rfl rfl (Nat.le_of_ble_eq_true rfl) (ok_X3_join hG N (Nat.le_trans (by decide) hd) es4) rfl ?_
    cases h
    exact zf_ireturn dX8_tie_89 rfl
  · replace h := (zi h).2 hc69
    refine zf_bipush (q := 74) rfl dX8_tie_72 bpm4 ?_
    cases h
    exact zf_ireturn dX8_tie_74 rfl
def f_X8_tie (N : Nat) (x1 : Int32) (x2 : Int32) (x3 : Int32) (σ : ZM) : Option (Int32 × ZM) :=
  zbd (f_X3_has N x1 σ) fun r5 s6 =>
  if r5 = 0 then
  (some ((-1 : Int32), s6))
  else
  (zbd (f_X3_has N x2 s6) fun r7 s8 =>
  if r7 = 0 then
  (some ((-1 : Int32), s8))
  else
  (if x1 = x2 then
  (some ((-3 : Int32), s8))
  else
  (zbd (f_X3_bond N x1 x2 s8) fun r9 s10 =>
  if r9 = 0 then
  (if x3 = 0 then
  (f_X8_tie_60 N x1 x2 x3 s10)
  else
  (zbd (f_X3_buysFrom N x2 x1 s10) fun r11 s12 =>
  if r11 = 0 then
  (f_X8_tie_60 N x1 x2 x3 s12)
  else
  (some ((-3 : Int32), s12))))
  else
  (some ((-3 : Int32), s10)))))
set_option maxRecDepth 100000 in
theorem ok_X8_tie {G : ZG} (hG : zSH G = shC) (N : Nat) {d : Nat} (hd : 2 ≤ d) {x1 : Int32} {x2 : Int32} {x3 : Int32} {σ : ZM} {res : Int32 × ZM} (h : f_X8_tie N x1 x2 x3 σ = some res) : zCt G d MX8_tie [.ref (zad G 0), .int x1, .int x2, .int x3] σ (some (.int res.1)) res.2 := by
  obtain ⟨d, rfl⟩ : ∃ k, d = k + 1 := ⟨d - 1, by omega⟩
  have hd : 1 ≤ d := by omega
  refine zct_of (by decide) (Nat.le_of_ble_eq_true rfl) (lv := [(0, .ref (zad G 0)), (1, .int x1), (2, .int x2), (3, .int x3)]) rfl ?_
  unfold f_X8_tie at h
  refine zf_aload_n 0 (q := 1) (j := 0) rfl dX8_tie_0 rfl rfl ?_
  refine zf_getR (q := 4) rfl dX8_tie_1 lf_RX8_26 (sc0 hG) rfl ?_
  refine zf_iload_n 1 (q := 5) (j := 1) rfl dX8_tie_4 rfl rfl ?_
  obtain ⟨r5, s6, es6, h⟩ := zc h
  refine zf_callV (q := 8) (As := [.int x1]) (rest := []) (st1 := [.int r5]) rfl dX8_tie_5 lv_RX8_81 (sc1 hG) rfl rfl (Nat.le_of_ble_eq_true rfl) (ok_X3_has hG N (Nat.le_trans (by decide) hd) es6) rfl ?_
  refine zf_if_eq (q := 11) (tgt := 22) rfl (by decide) dX8_tie_8 (fun hc8 => ?_) (fun hc8 => ?_)
  · replace h := (zi h).1 hc8
    refine zf_iconst (q := 23) rfl dX8_tie_22 icm1 ?_
    cases h
    exact zf_ireturn dX8_tie_23 rfl
  · replace h := (zi h).2 hc8
    refine zf_aload_n 0 (q := 12) (j := 0) rfl dX8_tie_11 rfl rfl ?_
    refine zf_getR (q := 15) rfl dX8_tie_12 lf_RX8_26 (sc0 hG) rfl ?_
    refine zf_iload_n 2 (q := 16) (j := 2) rfl dX8_tie_15 rfl rfl ?_
    obtain ⟨r7, s8, es8, h⟩ := zc h
    refine zf_callV (q := 19) (As := [.int x2]) (rest := []) (st1 := [.int r7]) rfl dX8_tie_16 lv_RX8_81 (sc1 hG) rfl rfl (Nat.le_of_ble_eq_true rfl) (ok_X3_has hG N (Nat.le_trans (by decide) hd) es8) rfl ?_
    refine zf_if_ne (q := 22) (tgt := 24) rfl (by decide) dX8_tie_19 (fun hc19 => ?_) (fun hc19 => ?_)
    · replace h := (zi h).2 hc19
      refine zf_iload_n 1 (q := 25) (j := 1) rfl dX8_tie_24 rfl rfl ?_
      refine zf_iload_n 2 (q := 26) (j := 2) rfl dX8_tie_25 rfl rfl ?_
      refine zf_icmp_eq (q := 29) (tgt := 57) rfl (by decide) dX8_tie_26 (fun hc26 => ?_) (fun hc26 => ?_)
      · replace h := (zi h).1 hc26
        refine zf_bipush (q := 59) rfl dX8_tie_57 bpm3 ?_
        cases h
        exact zf_ireturn dX8_tie_59 rfl
      · replace h := (zi h).2 hc26
        refine zf_aload_n 0 (q := 30) (j := 0) rfl dX8_tie_29 rfl rfl ?_
        refine zf_getR (q := 33) rfl dX8_tie_30 lf_RX8_26 (sc0 hG) rfl ?_
        refine zf_iload_n 1 (q := 34) (j := 1) rfl dX8_tie_33 rfl rfl ?_
        refine zf_iload_n 2 (q := 35) (j := 2) rfl dX8_tie_34 rfl rfl ?_
        obtain ⟨r9, s10, es10, h⟩ := zc h
        refine zf_callV (q := 38) (As := [.int x1, .int x2]) (rest := []) (st1 := [.int r9]) rfl dX8_tie_35 lv_RX8_85 (sc1 hG) rfl rfl (Nat.le_of_ble_eq_true rfl) (ok_X3_bond hG N (Nat.le_trans (by decide) hd) es10) rfl ?_
        refine zf_if_ne (q := 41) (tgt := 57) rfl (by decide) dX8_tie_38 (fun hc38 => ?_) (fun hc38 => ?_)
        · replace h := (zi h).2 hc38
          refine zf_bipush (q := 59) rfl dX8_tie_57 bpm3 ?_
          cases h
          exact zf_ireturn dX8_tie_59 rfl
        · replace h := (zi h).1 hc38
          refine zf_iload_n 3 (q := 42) (j := 3) rfl dX8_tie_41 rfl rfl ?_
          refine zf_if_eq (q := 45) (tgt := 60) rfl (by decide) dX8_tie_42 (fun hc42 => ?_) (fun hc42 => ?_)
          · replace h := (zi h).1 hc42
            exact zf_sub [0, 1, 2, 3] rfl (ok_X8_tie_60 hG N hd h)
          · replace h := (zi h).2 hc42
            refine zf_aload_n 0 (q := 46) (j := 0) rfl dX8_tie_45 rfl rfl ?_
            refine zf_getR (q := 49) rfl dX8_tie_46 lf_RX8_26 (sc0 hG) rfl ?_
            refine zf_iload_n 2 (q := 50) (j := 2) rfl dX8_tie_49 rfl rfl ?_
            refine zf_iload_n 1 (q := 51) (j := 1) rfl dX8_tie_50 rfl rfl ?_
            obtain ⟨r11, s12, es12, h⟩ := zc h
            refine zf_callV (q := 54) (As := [.int x2, .int x1]) (rest := []) (st1 := [.int r11]) rfl dX8_tie_51 lv_RX8_89 (sc1 hG) rfl rfl (Nat.le_of_ble_eq_true rfl) (ok_X3_buysFrom hG N (Nat.le_trans (by decide) hd) es12) rfl ?_
            refine zf_if_eq (q := 57) (tgt := 60) rfl (by decide) dX8_tie_54 (fun hc54 => ?_) (fun hc54 => ?_)
            · replace h := (zi h).1 hc54
              exact zf_sub [0, 1, 2, 3] rfl (ok_X8_tie_60 hG N hd h)
            · replace h := (zi h).2 hc54
              refine zf_bipush (q := 59) rfl dX8_tie_57 bpm3 ?_
              cases h
              exact zf_ireturn dX8_tie_59 rfl
    · replace h := (zi h).1 hc19
      refine zf_iconst (q := 23) rfl dX8_tie_22 icm1 ?_
      cases h
      exact zf_ireturn dX8_tie_23 rfl
-- ===== X8_tied: NearCopies.tied(II)I
def f_X8_tied (N : Nat) (x1 : Int32) (x2 : Int32) (σ : ZM) : Option (Int32 × ZM) :=
  zbd (f_X3_has N x1 σ) fun r1 s2 =>
  if r1 = 0 then
  (some ((-1 : Int32), s2))
  else
  (zbd (f_X3_has N x2 s2) fun r3 s4 =>
  if r3 = 0 then
  (some ((-1 : Int32), s4))
  else
  (zbd (f_X3_bond N x1 x2 s4) fun r5 s6 =>
  some (r5, s6)))
set_option maxRecDepth 100000 in
theorem ok_X8_tied {G : ZG} (hG : zSH G = shC) (N : Nat) {d : Nat} (hd : 1 ≤ d) {x1 : Int32} {x2 : Int32} {σ : ZM} {res : Int32 × ZM} (h : f_X8_tied N x1 x2 σ = some res) : zCt G d MX8_tied [.ref (zad G 0), .int x1, .int x2] σ (some (.int res.1)) res.2 := by
  obtain ⟨d, rfl⟩ : ∃ k, d = k + 1 := ⟨d - 1, by omega⟩
  have hd : 0 ≤ d := by omega
  refine zct_of (by decide) (Nat.le_of_ble_eq_true rfl) (lv := [(0, .ref (zad G 0)), (1, .int x1), (2, .int x2)]) rfl ?_
  unfold f_X8_tied at h
  refine zf_aload_n 0 (q := 1) (j := 0) rfl dX8_tied_0 rfl rfl ?_
  refine zf_getR (q := 4) rfl dX8_tied_1 lf_RX8_26 (sc0 hG) rfl ?_
  refine zf_iload_n 1 (q := 5) (j := 1) rfl dX8_tied_4 rfl rfl ?_
  obtain ⟨r1, s2, es2, h⟩ := zc h
  refine zf_callV (q := 8) (As := [.int x1]) (rest := []) (st1 := [.int r1]) rfl dX8_tied_5 lv_RX8_81 (sc1 hG) rfl rfl (Nat.le_of_ble_eq_true rfl) (ok_X3_has hG N (Nat.le_trans (by decide) hd) es2) rfl ?_
  refine zf_if_eq (q := 11) (tgt := 22) rfl (by decide) dX8_tied_8 (fun hc8 => ?_) (fun hc8 => ?_)
  · replace h := (zi h).1 hc8
    refine zf_iconst (q := 23) rfl dX8_tied_22 icm1 ?_
    cases h
    exact zf_ireturn dX8_tied_23 rfl
  · replace h := (zi h).2 hc8
    refine zf_aload_n 0 (q := 12) (j := 0) rfl dX8_tied_11 rfl rfl ?_
    refine zf_getR (q := 15) rfl dX8_tied_12 lf_RX8_26 (sc0 hG) rfl ?_
    refine zf_iload_n 2 (q := 16) (j := 2) rfl dX8_tied_15 rfl rfl ?_
    obtain ⟨r3, s4, es4, h⟩ := zc h
    refine zf_callV (q := 19) (As := [.int x2]) (rest := []) (st1 := [.int r3]) rfl dX8_tied_16 lv_RX8_81 (sc1 hG) rfl rfl (Nat.le_of_ble_eq_true rfl) (ok_X3_has hG N (Nat.le_trans (by decide) hd) es4) rfl ?_
    refine zf_if_ne (q := 22) (tgt := 24) rfl (by decide) dX8_tied_19 (fun hc19 => ?_) (fun hc19 => ?_)
    · replace h := (zi h).2 hc19
      refine zf_aload_n 0 (q := 25) (j := 0) rfl dX8_tied_24 rfl rfl ?_
      refine zf_getR (q := 28) rfl dX8_tied_25 lf_RX8_26 (sc0 hG) rfl ?_
      refine zf_iload_n 1 (q := 29) (j := 1) rfl dX8_tied_28 rfl rfl ?_
      refine zf_iload_n 2 (q := 30) (j := 2) rfl dX8_tied_29 rfl rfl ?_
      obtain ⟨r5, s6, es6, h⟩ := zc h
      refine zf_callV (q := 33) (As := [.int x1, .int x2]) (rest := []) (st1 := [.int r5]) rfl dX8_tied_30 lv_RX8_85 (sc1 hG) rfl rfl (Nat.le_of_ble_eq_true rfl) (ok_X3_bond hG N (Nat.le_trans (by decide) hd) es6) rfl ?_
      cases h
      exact zf_ireturn dX8_tied_33 rfl
    · replace h := (zi h).1 hc19
      refine zf_iconst (q := 23) rfl dX8_tied_22 icm1 ?_
      cases h
      exact zf_ireturn dX8_tied_23 rfl
-- ===== X8_put: NearCopies.put([III)I
def f_X8_put (N : Nat) (a0 : Nat) (n0 : Nat) (x1 : Int32) (x2 : Int32) (σ : ZM) : Option (Int32 × ZM) :=
  (zald σ a0 n0 x1).bind fun v1 =>
  (zast σ a0 n0 x1 x2).bind fun s2 =>
  some (v1, s2)
set_option maxRecDepth 100000 in
theorem ok_X8_put {G : ZG} (hG : zSH G = shC) (N : Nat) {d : Nat} (hd : 0 ≤ d) {a0 : Nat} {n0 : Nat} (ha0 : (zSH G)[a0]? = some (.inr (.inl (0, n0)))) {x1 : Int32} {x2 : Int32} {σ : ZM} {res : Int32 × ZM} (h : f_X8_put N a0 n0 x1 x2 σ = some res) : zCt G d MX8_put [.ref (zad G a0), .int x1, .int x2] σ (some (.int res.1)) res.2 := by
  refine zct_of (by decide) (Nat.le_of_ble_eq_true rfl) (lv := [(0, .ref (zad G a0)), (1, .int x1), (2, .int x2)]) rfl ?_
  unfold f_X8_put at h
  refine zf_aload_n 0 (q := 1) (j := 0) rfl dX8_put_0 rfl rfl ?_
  refine zf_iload_n 1 (q := 2) (j := 1) rfl dX8_put_1 rfl rfl ?_
  obtain ⟨v1, ev1, h⟩ := zb h
  refine zf_iald (q := 3) rfl dX8_put_2 ha0 ev1 ?_
  refine zf_istore_n (q := 4) (y := v1) (i := 3) (lv1 := [(3, .int v1), (0, .ref (zad G a0)), (1, .int x1), (2, .int x2)]) rfl dX8_put_3 rfl (by decide) rfl rfl ?_
  refine zf_aload_n 1 (q := 5) (j := 0) rfl dX8_put_4 rfl rfl ?_
  refine zf_iload_n 2 (q := 6) (j := 1) rfl dX8_put_5 rfl rfl ?_
  refine zf_iload_n 3 (q := 7) (j := 2) rfl dX8_put_6 rfl rfl ?_
  obtain ⟨s2, es2, h⟩ := zb h
  refine zf_iast (q := 8) rfl dX8_put_7 ha0 es2 ?_
  refine zf_iload_n 0 (q := 9) (j := 3) rfl dX8_put_8 rfl rfl ?_
  cases h
  exact zf_ireturn dX8_put_9 rfl
-- ===== X8_askers: NearCopies.askers(II)I
def f_X8_askers (N : Nat) (x1 : Int32) (x2 : Int32) (σ : ZM) : Option (Int32 × ZM) :=
  zbd (f_X3_has N x1 σ) fun r1 s2 =>
  if r1 = 0 then
  (some ((-1 : Int32), s2))
  else
  (zbd (f_X8_within N x2 (10000 : Int32) s2) fun r3 s4 =>
  if r3 = 0 then
  (some ((-2 : Int32), s4))
  else
  (zbd (f_X8_forgetAll N s4) fun r5 s6 =>
  zbd (f_X8_put N 2 10 x1 x2 s6) fun r7 s8 =>
  some (r7, s8)))
set_option maxRecDepth 100000 in
theorem ok_X8_askers {G : ZG} (hG : zSH G = shC) (N : Nat) {d : Nat} (hd : 2 ≤ d) {x1 : Int32} {x2 : Int32} {σ : ZM} {res : Int32 × ZM} (h : f_X8_askers N x1 x2 σ = some res) : zCt G d MX8_askers [.ref (zad G 0), .int x1, .int x2] σ (some (.int res.1)) res.2 := by
  obtain ⟨d, rfl⟩ : ∃ k, d = k + 1 := ⟨d - 1, by omega⟩
  have hd : 1 ≤ d := by omega
  refine zct_of (by decide) (Nat.le_of_ble_eq_true rfl) (lv := [(0, .ref (zad G 0)), (1, .int x1), (2, .int x2)]) rfl ?_
  unfold f_X8_askers at h
  refine zf_aload_n 0 (q := 1) (j := 0) rfl dX8_askers_0 rfl rfl ?_
  refine zf_getR (q := 4) rfl dX8_askers_1 lf_RX8_26 (sc0 hG) rfl ?_
  refine zf_iload_n 1 (q := 5) (j := 1) rfl dX8_askers_4 rfl rfl ?_
  obtain ⟨r1, s2, es2, h⟩ := zc h
  refine zf_callV (q := 8) (As := [.int x1]) (rest := []) (st1 := [.int r1]) rfl dX8_askers_5 lv_RX8_81 (sc1 hG) rfl rfl (Nat.le_of_ble_eq_true rfl) (ok_X3_has hG N (Nat.le_trans (by decide) hd) es2) rfl ?_
  refine zf_if_ne (q := 11) (tgt := 13) rfl (by decide) dX8_askers_8 (fun hc8 => ?_) (fun hc8 => ?_)
  · replace h := (zi h).2 hc8
    refine zf_iload_n 2 (q := 14) (j := 2) rfl dX8_askers_13 rfl rfl ?_
    refine zf_sipush (q := 17) rfl dX8_askers_14 sp10000 ?_
    obtain ⟨r3, s4, es4, h⟩ := zc h
    refine zf_callS (q := 20) (As := [.int x2, .int (10000 : Int32)]) (rest := []) (st1 := [.int r3]) rfl dX8_askers_17 ls_RX8_66 rfl rfl (Nat.le_of_ble_eq_true rfl) (ok_X8_within hG N (Nat.le_trans (by decide) hd) es4) rfl ?_
    refine zf_if_ne (q := 23) (tgt := 26) rfl (by decide) dX8_askers_20 (fun hc20 => ?_) (fun hc20 => ?_)
    · replace h := (zi h).2 hc20
      refine zf_aload_n 0 (q := 27) (j := 0) rfl dX8_askers_26 rfl rfl ?_
      obtain ⟨r5, s6, es6, h⟩ := zc h
      refine zf_callV (q := 30) (As := []) (rest := []) (st1 := []) rfl dX8_askers_27 lv_RX8_74 (sc0 hG) rfl rfl (Nat.le_of_ble_eq_true rfl) (ok_X8_forgetAll hG N (Nat.le_trans (by decide) hd) es6) rfl ?_
      refine zf_aload_n 0 (q := 31) (j := 0) rfl dX8_askers_30 rfl rfl ?_
      refine zf_getR (q := 34) rfl dX8_askers_31 lf_RX8_26 (sc0 hG) rfl ?_
      refine zf_getR (q := 37) rfl dX8_askers_34 lf_RX8_99 (sc1 hG) rfl ?_
      refine zf_iload_n 1 (q := 38) (j := 1) rfl dX8_askers_37 rfl rfl ?_
      refine zf_iload_n 2 (q := 39) (j := 2) rfl dX8_askers_38 rfl rfl ?_
      obtain ⟨r7, s8, es8, h⟩ := zc h
      refine zf_callS (q := 42) (As := [.ref (zad G 2), .int x1, .int x2]) (rest := []) (st1 := [.int r7]) rfl dX8_askers_39 ls_RX8_103 rfl rfl (Nat.le_of_ble_eq_true rfl) (ok_X8_put hG N (Nat.le_trans (by decide) hd) (sc2 hG) es8) rfl ?_
      cases h
      exact zf_ireturn dX8_askers_42 rfl
    · replace h := (zi h).1 hc20
      refine zf_bipush (q := 25) rfl dX8_askers_23 bpm2 ?_
      cases h
      exact zf_ireturn dX8_askers_25 rfl
  · replace h := (zi h).1 hc8
    refine zf_iconst (q := 12) rfl dX8_askers_11 icm1 ?_
    cases h
    exact zf_ireturn dX8_askers_12 rfl
-- ===== X8_guess: NearCopies.guess(II)I
def f_X8_guess (N : Nat) (x1 : Int32) (x2 : Int32) (σ : ZM) : Option (Int32 × ZM) :=
  zbd (f_X3_has N x1 σ) fun r1 s2 =>
  if r1 = 0 then
  (some ((-1 : Int32), s2))
  else
  (if x2 = 0 then
  (some ((-2 : Int32), s2))
  else
  (zbd (f_X8_within N x2 (15 : Int32) s2) fun r3 s4 =>
  if r3 = 0 then
  (some ((-2 : Int32), s4))
  else
  (zbd (f_X8_forgetAll N s4) fun r5 s6 =>
  zbd (f_X8_put N 3 10 x1 x2 s6) fun r7 s8 =>
  some (r7, s8))))
set_option maxRecDepth 100000 in
theorem ok_X8_guess {G : ZG} (hG : zSH G = shC) (N : Nat) {d : Nat} (hd : 2 ≤ d) {x1 : Int32} {x2 : Int32} {σ : ZM} {res : Int32 × ZM} (h : f_X8_guess N x1 x2 σ = some res) : zCt G d MX8_guess [.ref (zad G 0), .int x1, .int x2] σ (some (.int res.1)) res.2 := by
  obtain ⟨d, rfl⟩ : ∃ k, d = k + 1 := ⟨d - 1, by omega⟩
  have hd : 1 ≤ d := by omega
  refine zct_of (by decide) (Nat.le_of_ble_eq_true rfl) (lv := [(0, .ref (zad G 0)), (1, .int x1), (2, .int x2)]) rfl ?_
  unfold f_X8_guess at h
  refine zf_aload_n 0 (q := 1) (j := 0) rfl dX8_guess_0 rfl rfl ?_
  refine zf_getR (q := 4) rfl dX8_guess_1 lf_RX8_26 (sc0 hG) rfl ?_
  refine zf_iload_n 1 (q := 5) (j := 1) rfl dX8_guess_4 rfl rfl ?_
  obtain ⟨r1, s2, es2, h⟩ := zc h
  refine zf_callV (q := 8) (As := [.int x1]) (rest := []) (st1 := [.int r1]) rfl dX8_guess_5 lv_RX8_81 (sc1 hG) rfl rfl (Nat.le_of_ble_eq_true rfl) (ok_X3_has hG N (Nat.le_trans (by decide) hd) es2) rfl ?_
  refine zf_if_ne (q := 11) (tgt := 13) rfl (by decide) dX8_guess_8 (fun hc8 => ?_) (fun hc8 => ?_)
  · replace h := (zi h).2 hc8
    refine zf_iload_n 2 (q := 14) (j := 2) rfl dX8_guess_13 rfl rfl ?_
    refine zf_if_eq (q := 17) (tgt := 26) rfl (by decide) dX8_guess_14 (fun hc14 => ?_) (fun hc14 => ?_)
    · replace h := (zi h).1 hc14
      refine zf_bipush (q := 28) rfl dX8_guess_26 bpm2 ?_
      cases h
      exact zf_ireturn dX8_guess_28 rfl
    · replace h := (zi h).2 hc14
      refine zf_iload_n 2 (q := 18) (j := 2) rfl dX8_guess_17 rfl rfl ?_
      refine zf_bipush (q := 20) rfl dX8_guess_18 bp15 ?_
      obtain ⟨r3, s4, es4, h⟩ := zc h
      refine zf_callS (q := 23) (As := [.int x2, .int (15 : Int32)]) (rest := []) (st1 := [.int r3]) rfl dX8_guess_20 ls_RX8_66 rfl rfl (Nat.le_of_ble_eq_true rfl) (ok_X8_within hG N (Nat.le_trans (by decide) hd) es4) rfl ?_
      refine zf_if_ne (q := 26) (tgt := 29) rfl (by decide) dX8_guess_23 (fun hc23 => ?_) (fun hc23 => ?_)
      · replace h := (zi h).2 hc23
        refine zf_aload_n 0 (q := 30) (j := 0) rfl dX8_guess_29 rfl rfl ?_
        obtain ⟨r5, s6, es6, h⟩ := zc h
        refine zf_callV (q := 33) (As := []) (rest := []) (st1 := []) rfl dX8_guess_30 lv_RX8_74 (sc0 hG) rfl rfl (Nat.le_of_ble_eq_true rfl) (ok_X8_forgetAll hG N (Nat.le_trans (by decide) hd) es6) rfl ?_
        refine zf_aload_n 0 (q := 34) (j := 0) rfl dX8_guess_33 rfl rfl ?_
        refine zf_getR (q := 37) rfl dX8_guess_34 lf_RX8_26 (sc0 hG) rfl ?_
        refine zf_getR (q := 40) rfl dX8_guess_37 lf_RX8_107 (sc1 hG) rfl ?_
        refine zf_iload_n 1 (q := 41) (j := 1) rfl dX8_guess_40 rfl rfl ?_
        refine zf_iload_n 2 (q := 42) (j := 2) rfl dX8_guess_41 rfl rfl ?_
        obtain ⟨r7, s8, es8, h⟩ := zc h
        refine zf_callS (q := 45) (As := [.ref (zad G 3), .int x1, .int x2]) (rest := []) (st1 := [.int r7]) rfl dX8_guess_42 ls_RX8_103 rfl rfl (Nat.le_of_ble_eq_true rfl) (ok_X8_put hG N (Nat.le_trans (by decide) hd) (sc3 hG) es8) rfl ?_
        cases h
        exact zf_ireturn dX8_guess_45 rfl
      · replace h := (zi h).1 hc23
        refine zf_bipush (q := 28) rfl dX8_guess_26 bpm2 ?_
        cases h
        exact zf_ireturn dX8_guess_28 rfl
  · replace h := (zi h).1 hc8
    refine zf_iconst (q := 12) rfl dX8_guess_11 icm1 ?_
    cases h
    exact zf_ireturn dX8_guess_12 rfl
-- ===== X8_site: NearCopies.site(II)I
def f_X8_site (N : Nat) (x1 : Int32) (x2 : Int32) (σ : ZM) : Option (Int32 × ZM) :=
  zbd (f_X3_has N x1 σ) fun r1 s2 =>
  if r1 = 0 then
  (some ((-1 : Int32), s2))
  else
  (zbd (f_X8_within N x2 (100000 : Int32) s2) fun r3 s4 =>
  if r3 = 0 then
  (some ((-2 : Int32), s4))
  else
  (if (s4.1 12 0) < (4 : Int32) then
  (zbd (f_X8_forgetAll N s4) fun r5 s6 =>
  (zast s6 8 4 (s6.1 12 0) x1).bind fun s7 =>
  (zast s7 9 4 (s7.1 12 0) x2).bind fun s8 =>
  zbd (f_X7_add N 12 s8) fun r9 s10 =>
  some (r9, s10))
  else
  (some ((-4 : Int32), s4))))
set_option maxRecDepth 100000 in
theorem ok_X8_site {G : ZG} (hG : zSH G = shC) (N : Nat) {d : Nat} (hd : 2 ≤ d) {x1 : Int32} {x2 : Int32} {σ : ZM} {res : Int32 × ZM} (h : f_X8_site N x1 x2 σ = some res) : zCt G d MX8_site [.ref (zad G 0), .int x1, .int x2] σ (some (.int res.1)) res.2 := by
  obtain ⟨d, rfl⟩ : ∃ k, d = k + 1 := ⟨d - 1, by omega⟩
  have hd : 1 ≤ d := by omega
  refine zct_of (by decide) (Nat.le_of_ble_eq_true rfl) (lv := [(0, .ref (zad G 0)), (1, .int x1), (2, .int x2)]) rfl ?_
  unfold f_X8_site at h
  refine zf_aload_n 0 (q := 1) (j := 0) rfl dX8_site_0 rfl rfl ?_
  refine zf_getR (q := 4) rfl dX8_site_1 lf_RX8_26 (sc0 hG) rfl ?_
  refine zf_iload_n 1 (q := 5) (j := 1) rfl dX8_site_4 rfl rfl ?_
  obtain ⟨r1, s2, es2, h⟩ := zc h
  refine zf_callV (q := 8) (As := [.int x1]) (rest := []) (st1 := [.int r1]) rfl dX8_site_5 lv_RX8_81 (sc1 hG) rfl rfl (Nat.le_of_ble_eq_true rfl) (ok_X3_has hG N (Nat.le_trans (by decide) hd) es2) rfl ?_
  refine zf_if_ne (q := 11) (tgt := 13) rfl (by decide) dX8_site_8 (fun hc8 => ?_) (fun hc8 => ?_)
  · replace h := (zi h).2 hc8
    refine zf_iload_n 2 (q := 14) (j := 2) rfl dX8_site_13 rfl rfl ?_
    refine zf_ldc (q := 16) rfl dX8_site_14 co_RX8_110 ?_
    obtain ⟨r3, s4, es4, h⟩ := zc h
    refine zf_callS (q := 19) (As := [.int x2, .int (100000 : Int32)]) (rest := []) (st1 := [.int r3]) rfl dX8_site_16 ls_RX8_66 rfl rfl (Nat.le_of_ble_eq_true rfl) (ok_X8_within hG N (Nat.le_trans (by decide) hd) es4) rfl ?_
    refine zf_if_ne (q := 22) (tgt := 25) rfl (by decide) dX8_site_19 (fun hc19 => ?_) (fun hc19 => ?_)
    · replace h := (zi h).2 hc19
      refine zf_aload_n 0 (q := 26) (j := 0) rfl dX8_site_25 rfl rfl ?_
      refine zf_getR (q := 29) rfl dX8_site_26 lf_RX8_36 (sc0 hG) rfl ?_
      refine zf_getI (q := 32) rfl dX8_site_29 lf_RX8_111 (sc12 hG) rfl ?_
      refine zf_iconst (q := 33) rfl dX8_site_32 ic4 ?_
      refine zf_icmp_lt (q := 36) (tgt := 39) rfl (by decide) dX8_site_33 (fun hc33 => ?_) (fun hc33 => ?_)
      · replace h := (zi h).1 hc33
        refine zf_aload_n 0 (q := 40) (j := 0) rfl dX8_site_39 rfl rfl ?_
        obtain ⟨r5, s6, es6, h⟩ := zc h
        refine zf_callV (q := 43) (As := []) (rest := []) (st1 := []) rfl dX8_site_40 lv_RX8_74 (sc0 hG) rfl rfl (Nat.le_of_ble_eq_true rfl) (ok_X8_forgetAll hG N (Nat.le_trans (by decide) hd) es6) rfl ?_
        refine zf_aload_n 0 (q := 44) (j := 0) rfl dX8_site_43 rfl rfl ?_
        refine zf_getR (q := 47) rfl dX8_site_44 lf_RX8_32 (sc0 hG) rfl ?_
        refine zf_getR (q := 50) rfl dX8_site_47 lf_RX8_112 (sc7 hG) rfl ?_
        refine zf_aload_n 0 (q := 51) (j := 0) rfl dX8_site_50 rfl rfl ?_
        refine zf_getR (q := 54) rfl dX8_site_51 lf_RX8_36 (sc0 hG) rfl ?_
        refine zf_getI (q := 57) rfl dX8_site_54 lf_RX8_111 (sc12 hG) rfl ?_
        refine zf_iload_n 1 (q := 58) (j := 1) rfl dX8_site_57 rfl rfl ?_
        obtain ⟨s7, es7, h⟩ := zb h
        refine zf_iast (q := 59) rfl dX8_site_58 (sc8 hG) es7 ?_
        refine zf_aload_n 0 (q := 60) (j := 0) rfl dX8_site_59 rfl rfl ?_
        refine zf_getR (q := 63) rfl dX8_site_60 lf_RX8_32 (sc0 hG) rfl ?_
        refine zf_getR (q := 66) rfl dX8_site_63 lf_RX8_115 (sc7 hG) rfl ?_
        refine zf_aload_n 0 (q := 67) (j := 0) rfl dX8_site_66 rfl rfl ?_
        refine zf_getR (q := 70) rfl dX8_site_67 lf_RX8_36 (sc0 hG) rfl ?_
        refine zf_getI (q := 73) rfl dX8_site_70 lf_RX8_111 (sc12 hG) rfl ?_
        refine zf_iload_n 2 (q := 74) (j := 2) rfl dX8_site_73 rfl rfl ?_
        obtain ⟨s8, es8, h⟩ := zb h
        refine zf_iast (q := 75) rfl dX8_site_74 (sc9 hG) es8 ?_
        refine zf_aload_n 0 (q := 76) (j := 0) rfl dX8_site_75 rfl rfl ?_
        refine zf_getR (q := 79) rfl dX8_site_76 lf_RX8_36 (sc0 hG) rfl ?_
        obtain ⟨r9, s10, es10, h⟩ := zc h
        refine zf_callV (q := 82) (As := []) (rest := []) (st1 := [.int r9]) rfl dX8_site_79 lv_RX8_118 (sc12 hG) rfl rfl (Nat.le_of_ble_eq_true rfl) (ok_X7_add hG N (Nat.le_trans (by decide) hd) (wd12 hG) es10) rfl ?_
        cases h
        exact zf_ireturn dX8_site_82 rfl
      · replace h := (zi h).2 hc33
        refine zf_bipush (q := 38) rfl dX8_site_36 bpm4 ?_
        cases h
        exact zf_ireturn dX8_site_38 rfl
    · replace h := (zi h).1 hc19
      refine zf_bipush (q := 24) rfl dX8_site_22 bpm2 ?_
      cases h
      exact zf_ireturn dX8_site_24 rfl
  · replace h := (zi h).1 hc8
    refine zf_iconst (q := 12) rfl dX8_site_11 icm1 ?_
    cases h
    exact zf_ireturn dX8_site_12 rfl
-- ===== X8_room: NearCopies.room(II)I
def f_X8_room (N : Nat) (x1 : Int32) (x2 : Int32) (σ : ZM) : Option (Int32 × ZM) :=
  zbd (f_X7_has N 12 x1 σ) fun r1 s2 =>
  if r1 = 0 then
  (some ((-1 : Int32), s2))
  else
  (zbd (f_X8_within N x2 (100000 : Int32) s2) fun r3 s4 =>
  if r3 = 0 then
  (some ((-2 : Int32), s4))
  else
  (zbd (f_X8_forgetAll N s4) fun r5 s6 =>
  zbd (f_X8_put N 9 4 x1 x2 s6) fun r7 s8 =>
  some (r7, s8)))
set_option maxRecDepth 100000 in
theorem ok_X8_room {G : ZG} (hG : zSH G = shC) (N : Nat) {d : Nat} (hd : 2 ≤ d) {x1 : Int32} {x2 : Int32} {σ : ZM} {res : Int32 × ZM} (h : f_X8_room N x1 x2 σ = some res) : zCt G d MX8_room [.ref (zad G 0), .int x1, .int x2] σ (some (.int res.1)) res.2 := by
  obtain ⟨d, rfl⟩ : ∃ k, d = k + 1 := ⟨d - 1, by omega⟩
  have hd : 1 ≤ d := by omega
  refine zct_of (by decide) (Nat.le_of_ble_eq_true rfl) (lv := [(0, .ref (zad G 0)), (1, .int x1), (2, .int x2)]) rfl ?_
  unfold f_X8_room at h
  refine zf_aload_n 0 (q := 1) (j := 0) rfl dX8_room_0 rfl rfl ?_
  refine zf_getR (q := 4) rfl dX8_room_1 lf_RX8_36 (sc0 hG) rfl ?_
  refine zf_iload_n 1 (q := 5) (j := 1) rfl dX8_room_4 rfl rfl ?_
  obtain ⟨r1, s2, es2, h⟩ := zc h
  refine zf_callV (q := 8) (As := [.int x1]) (rest := []) (st1 := [.int r1]) rfl dX8_room_5 lv_RX8_121 (sc12 hG) rfl rfl (Nat.le_of_ble_eq_true rfl) (ok_X7_has hG N (Nat.le_trans (by decide) hd) (wd12 hG) es2) rfl ?_
  refine zf_if_ne (q := 11) (tgt := 13) rfl (by decide) dX8_room_8 (fun hc8 => ?_) (fun hc8 => ?_)
  · replace h := (zi h).2 hc8
    refine zf_iload_n 2 (q := 14) (j := 2) rfl dX8_room_13 rfl rfl ?_
    refine zf_ldc (q := 16) rfl dX8_room_14 co_RX8_110 ?_
    obtain ⟨r3, s4, es4, h⟩ := zc h
    refine zf_callS (q := 19) (As := [.int x2, .int (100000 : Int32)]) (rest := []) (st1 := [.int r3]) rfl dX8_room_16 ls_RX8_66 rfl rfl (Nat.le_of_ble_eq_true rfl) (ok_X8_within hG N (Nat.le_trans (by decide) hd) es4) rfl ?_
    refine zf_if_ne (q := 22) (tgt := 25) rfl (by decide) dX8_room_19 (fun hc19 => ?_) (fun hc19 => ?_)
    · replace h := (zi h).2 hc19
      refine zf_aload_n 0 (q := 26) (j := 0) rfl dX8_room_25 rfl rfl ?_
      obtain ⟨r5, s6, es6, h⟩ := zc h
      refine zf_callV (q := 29) (As := []) (rest := []) (st1 := []) rfl dX8_room_26 lv_RX8_74 (sc0 hG) rfl rfl (Nat.le_of_ble_eq_true rfl) (ok_X8_forgetAll hG N (Nat.le_trans (by decide) hd) es6) rfl ?_
      refine zf_aload_n 0 (q := 30) (j := 0) rfl dX8_room_29 rfl rfl ?_
      refine zf_getR (q := 33) rfl dX8_room_30 lf_RX8_32 (sc0 hG) rfl ?_
      refine zf_getR (q := 36) rfl dX8_room_33 lf_RX8_115 (sc7 hG) rfl ?_
      refine zf_iload_n 1 (q := 37) (j := 1) rfl dX8_room_36 rfl rfl ?_
      refine zf_iload_n 2 (q := 38) (j := 2) rfl dX8_room_37 rfl rfl ?_
      obtain ⟨r7, s8, es8, h⟩ := zc h
      refine zf_callS (q := 41) (As := [.ref (zad G 9), .int x1, .int x2]) (rest := []) (st1 := [.int r7]) rfl dX8_room_38 ls_RX8_103 rfl rfl (Nat.le_of_ble_eq_true rfl) (ok_X8_put hG N (Nat.le_trans (by decide) hd) (sc9 hG) es8) rfl ?_
      cases h
      exact zf_ireturn dX8_room_41 rfl
    · replace h := (zi h).1 hc19
      refine zf_bipush (q := 24) rfl dX8_room_22 bpm2 ?_
      cases h
      exact zf_ireturn dX8_room_24 rfl
  · replace h := (zi h).1 hc8
    refine zf_iconst (q := 12) rfl dX8_room_11 icm1 ?_
    cases h
    exact zf_ireturn dX8_room_12 rfl
-- ===== X8_put_: NearCopies.put([ZIZ)I
def f_X8_put__11 (N : Nat) (a0 : Nat) (n0 : Nat) (x1 : Int32) (x2 : Int32) (y0 : Int32) (σ : ZM) : Option (Int32 × ZM) :=
  (zasZ σ a0 n0 x1 x2).bind fun s1 =>
  some (y0, s1)
set_option maxRecDepth 100000 in
theorem ok_X8_put__11 {G : ZG} (hG : zSH G = shC) (N : Nat) {d : Nat} {a0 : Nat} {n0 : Nat} (ha0 : (zSH G)[a0]? = some (.inr (.inl (1, n0)))) {res : Int32 × ZM} {x1 : Int32} {x2 : Int32} {y0 : Int32} {σ : ZM} (h : f_X8_put__11 N a0 n0 x1 x2 y0 σ = some res) : zF G MX8_put_ d 11 [(0, .ref (zad G a0)), (1, .int x1), (2, .int x2)] [.int y0] σ (some (.int res.1)) res.2 := by
  unfold f_X8_put__11 at h
  refine zf_istore_n (q := 12) (y := y0) (i := 3) (lv1 := [(3, .int y0), (0, .ref (zad G a0)), (1, .int x1), (2, .int x2)]) rfl dX8_put__11 rfl (by decide) rfl rfl ?_
  refine zf_aload_n 1 (q := 13) (j := 0) rfl dX8_put__12 rfl rfl ?_
  refine zf_iload_n 2 (q := 14) (j := 1) rfl dX8_put__13 rfl rfl ?_
  refine zf_iload_n 3 (q := 15) (j := 2) rfl dX8_put__14 rfl rfl ?_
  obtain ⟨s1, es1, h⟩ := zb h
  refine zf_zast (q := 16) rfl dX8_put__15 ha0 es1 ?_
  refine zf_iload_n 0 (q := 17) (j := 3) rfl dX8_put__16 rfl rfl ?_
  cases h
  exact zf_ireturn dX8_put__17 rfl
def f_X8_put_ (N : Nat) (a0 : Nat) (n0 : Nat) (x1 : Int32) (x2 : Int32) (σ : ZM) : Option (Int32 × ZM) :=
  (zald σ a0 n0 x1).bind fun v2 =>
  if v2 = 0 then
  (f_X8_put__11 N a0 n0 x1 x2 (0 : Int32) σ)
  else
  (f_X8_put__11 N a0 n0 x1 x2 (1 : Int32) σ)
set_option maxRecDepth 100000 in
theorem ok_X8_put_ {G : ZG} (hG : zSH G = shC) (N : Nat) {d : Nat} (hd : 0 ≤ d) {a0 : Nat} {n0 : Nat} (ha0 : (zSH G)[a0]? = some (.inr (.inl (1, n0)))) {x1 : Int32} {x2 : Int32} {σ : ZM} {res : Int32 × ZM} (h : f_X8_put_ N a0 n0 x1 x2 σ = some res) : zCt G d MX8_put_ [.ref (zad G a0), .int x1, .int x2] σ (some (.int res.1)) res.2 := by
  refine zct_of (by decide) (Nat.le_of_ble_eq_true rfl) (lv := [(0, .ref (zad G a0)), (1, .int x1), (2, .int x2)]) rfl ?_
  unfold f_X8_put_ at h
  refine zf_aload_n 0 (q := 1) (j := 0) rfl dX8_put__0 rfl rfl ?_
  refine zf_iload_n 1 (q := 2) (j := 1) rfl dX8_put__1 rfl rfl ?_
  obtain ⟨v2, ev2, h⟩ := zb h
  refine zf_zald (q := 3) rfl dX8_put__2 ha0 ev2 ?_
  refine zf_if_eq (q := 6) (tgt := 10) rfl (by decide) dX8_put__3 (fun hc3 => ?_) (fun hc3 => ?_)
  · replace h := (zi h).1 hc3
    refine zf_iconst (q := 11) rfl dX8_put__10 ic0 ?_
    exact zf_sub [0, 1, 2] rfl (ok_X8_put__11 hG N ha0 h)
  · replace h := (zi h).2 hc3
    refine zf_iconst (q := 7) rfl dX8_put__6 ic1 ?_
    refine zf_goto (tgt := 11) (by decide) dX8_put__7 ?_
    exact zf_sub [0, 1, 2] rfl (ok_X8_put__11 hG N ha0 h)
-- ===== X8_up: NearCopies.up(IZ)I
def f_X8_up (N : Nat) (x1 : Int32) (x2 : Int32) (σ : ZM) : Option (Int32 × ZM) :=
  zbd (f_X7_has N 12 x1 σ) fun r1 s2 =>
  if r1 = 0 then
  (some ((-1 : Int32), s2))
  else
  (zbd (f_X8_forgetAll N s2) fun r3 s4 =>
  zbd (f_X8_put_ N 16 4 x1 x2 s4) fun r5 s6 =>
  some (r5, s6))
set_option maxRecDepth 100000 in
theorem ok_X8_up {G : ZG} (hG : zSH G = shC) (N : Nat) {d : Nat} (hd : 2 ≤ d) {x1 : Int32} {x2 : Int32} {σ : ZM} {res : Int32 × ZM} (h : f_X8_up N x1 x2 σ = some res) : zCt G d MX8_up [.ref (zad G 0), .int x1, .int x2] σ (some (.int res.1)) res.2 := by
  obtain ⟨d, rfl⟩ : ∃ k, d = k + 1 := ⟨d - 1, by omega⟩
  have hd : 1 ≤ d := by omega
  refine zct_of (by decide) (Nat.le_of_ble_eq_true rfl) (lv := [(0, .ref (zad G 0)), (1, .int x1), (2, .int x2)]) rfl ?_
  unfold f_X8_up at h
  refine zf_aload_n 0 (q := 1) (j := 0) rfl dX8_up_0 rfl rfl ?_
  refine zf_getR (q := 4) rfl dX8_up_1 lf_RX8_36 (sc0 hG) rfl ?_
  refine zf_iload_n 1 (q := 5) (j := 1) rfl dX8_up_4 rfl rfl ?_
  obtain ⟨r1, s2, es2, h⟩ := zc h
  refine zf_callV (q := 8) (As := [.int x1]) (rest := []) (st1 := [.int r1]) rfl dX8_up_5 lv_RX8_121 (sc12 hG) rfl rfl (Nat.le_of_ble_eq_true rfl) (ok_X7_has hG N (Nat.le_trans (by decide) hd) (wd12 hG) es2) rfl ?_
  refine zf_if_ne (q := 11) (tgt := 13) rfl (by decide) dX8_up_8 (fun hc8 => ?_) (fun hc8 => ?_)
  · replace h := (zi h).2 hc8
    refine zf_aload_n 0 (q := 14) (j := 0) rfl dX8_up_13 rfl rfl ?_
    obtain ⟨r3, s4, es4, h⟩ := zc h
    refine zf_callV (q := 17) (As := []) (rest := []) (st1 := []) rfl dX8_up_14 lv_RX8_74 (sc0 hG) rfl rfl (Nat.le_of_ble_eq_true rfl) (ok_X8_forgetAll hG N (Nat.le_trans (by decide) hd) es4) rfl ?_
    refine zf_aload_n 0 (q := 18) (j := 0) rfl dX8_up_17 rfl rfl ?_
    refine zf_getR (q := 21) rfl dX8_up_18 lf_RX8_36 (sc0 hG) rfl ?_
    refine zf_getR (q := 24) rfl dX8_up_21 lf_RX8_122 (sc12 hG) rfl ?_
    refine zf_iload_n 1 (q := 25) (j := 1) rfl dX8_up_24 rfl rfl ?_
    refine zf_iload_n 2 (q := 26) (j := 2) rfl dX8_up_25 rfl rfl ?_
    obtain ⟨r5, s6, es6, h⟩ := zc h
    refine zf_callS (q := 29) (As := [.ref (zad G 16), .int x1, .int x2]) (rest := []) (st1 := [.int r5]) rfl dX8_up_26 ls_RX8_126 rfl rfl (Nat.le_of_ble_eq_true rfl) (ok_X8_put_ hG N (Nat.le_trans (by decide) hd) (sc16 hG) es6) rfl ?_
    cases h
    exact zf_ireturn dX8_up_29 rfl
  · replace h := (zi h).1 hc8
    refine zf_iconst (q := 12) rfl dX8_up_11 icm1 ?_
    cases h
    exact zf_ireturn dX8_up_12 rfl
-- ===== X8_kind: NearCopies.kind(II)I
def f_X8_kind (N : Nat) (x1 : Int32) (x2 : Int32) (σ : ZM) : Option (Int32 × ZM) :=
  zbd (f_X7_has N 12 x1 σ) fun r1 s2 =>
  if r1 = 0 then
  (some ((-1 : Int32), s2))
  else
  (zbd (f_X8_within N x2 (4 : Int32) s2) fun r3 s4 =>
  if r3 = 0 then
  (some ((-2 : Int32), s4))
  else
  (zbd (f_X8_forgetAll N s4) fun r5 s6 =>
  zbd (f_X8_put N 13 4 x1 x2 s6) fun r7 s8 =>
  some (r7, s8)))
set_option maxRecDepth 100000 in
theorem ok_X8_kind {G : ZG} (hG : zSH G = shC) (N : Nat) {d : Nat} (hd : 2 ≤ d) {x1 : Int32} {x2 : Int32} {σ : ZM} {res : Int32 × ZM} (h : f_X8_kind N x1 x2 σ = some res) : zCt G d MX8_kind [.ref (zad G 0), .int x1, .int x2] σ (some (.int res.1)) res.2 := by
  obtain ⟨d, rfl⟩ : ∃ k, d = k + 1 := ⟨d - 1, by omega⟩
  have hd : 1 ≤ d := by omega
  refine zct_of (by decide) (Nat.le_of_ble_eq_true rfl) (lv := [(0, .ref (zad G 0)), (1, .int x1), (2, .int x2)]) rfl ?_
  unfold f_X8_kind at h
  refine zf_aload_n 0 (q := 1) (j := 0) rfl dX8_kind_0 rfl rfl ?_
  refine zf_getR (q := 4) rfl dX8_kind_1 lf_RX8_36 (sc0 hG) rfl ?_
  refine zf_iload_n 1 (q := 5) (j := 1) rfl dX8_kind_4 rfl rfl ?_
  obtain ⟨r1, s2, es2, h⟩ := zc h
  refine zf_callV (q := 8) (As := [.int x1]) (rest := []) (st1 := [.int r1]) rfl dX8_kind_5 lv_RX8_121 (sc12 hG) rfl rfl (Nat.le_of_ble_eq_true rfl) (ok_X7_has hG N (Nat.le_trans (by decide) hd) (wd12 hG) es2) rfl ?_
  refine zf_if_ne (q := 11) (tgt := 13) rfl (by decide) dX8_kind_8 (fun hc8 => ?_) (fun hc8 => ?_)
  · replace h := (zi h).2 hc8
    refine zf_iload_n 2 (q := 14) (j := 2) rfl dX8_kind_13 rfl rfl ?_
    refine zf_iconst (q := 15) rfl dX8_kind_14 ic4 ?_
    obtain ⟨r3, s4, es4, h⟩ := zc h
    refine zf_callS (q := 18) (As := [.int x2, .int (4 : Int32)]) (rest := []) (st1 := [.int r3]) rfl dX8_kind_15 ls_RX8_66 rfl rfl (Nat.le_of_ble_eq_true rfl) (ok_X8_within hG N (Nat.le_trans (by decide) hd) es4) rfl ?_
    refine zf_if_ne (q := 21) (tgt := 24) rfl (by decide) dX8_kind_18 (fun hc18 => ?_) (fun hc18 => ?_)
    · replace h := (zi h).2 hc18
      refine zf_aload_n 0 (q := 25) (j := 0) rfl dX8_kind_24 rfl rfl ?_
      obtain ⟨r5, s6, es6, h⟩ := zc h
      refine zf_callV (q := 28) (As := []) (rest := []) (st1 := []) rfl dX8_kind_25 lv_RX8_74 (sc0 hG) rfl rfl (Nat.le_of_ble_eq_true rfl) (ok_X8_forgetAll hG N (Nat.le_trans (by decide) hd) es6) rfl ?_
      refine zf_aload_n 0 (q := 29) (j := 0) rfl dX8_kind_28 rfl rfl ?_
      refine zf_getR (q := 32) rfl dX8_kind_29 lf_RX8_36 (sc0 hG) rfl ?_
      refine zf_getR (q := 35) rfl dX8_kind_32 lf_RX8_129 (sc12 hG) rfl ?_
      refine zf_iload_n 1 (q := 36) (j := 1) rfl dX8_kind_35 rfl rfl ?_
      refine zf_iload_n 2 (q := 37) (j := 2) rfl dX8_kind_36 rfl rfl ?_
      obtain ⟨r7, s8, es8, h⟩ := zc h
      refine zf_callS (q := 40) (As := [.ref (zad G 13), .int x1, .int x2]) (rest := []) (st1 := [.int r7]) rfl dX8_kind_37 ls_RX8_103 rfl rfl (Nat.le_of_ble_eq_true rfl) (ok_X8_put hG N (Nat.le_trans (by decide) hd) (sc13 hG) es8) rfl ?_
      cases h
      exact zf_ireturn dX8_kind_40 rfl
    · replace h := (zi h).1 hc18
      refine zf_bipush (q := 23) rfl dX8_kind_21 bpm2 ?_
      cases h
      exact zf_ireturn dX8_kind_23 rfl
  · replace h := (zi h).1 hc8
    refine zf_iconst (q := 12) rfl dX8_kind_11 icm1 ?_
    cases h
    exact zf_ireturn dX8_kind_12 rfl
-- ===== X8_held: NearCopies.held(II)I
def f_X8_held (N : Nat) (x1 : Int32) (x2 : Int32) (σ : ZM) : Option (Int32 × ZM) :=
  zbd (f_X7_has N 12 x1 σ) fun r1 s2 =>
  if r1 = 0 then
  (some ((-1 : Int32), s2))
  else
  (zbd (f_X3_everyone N s2) fun r3 s4 =>
  zbd (f_X8_within N x2 r3 s4) fun r5 s6 =>
  if r5 = 0 then
  (some ((-2 : Int32), s6))
  else
  (zbd (f_X8_forgetAll N s6) fun r7 s8 =>
  zbd (f_X8_put N 14 4 x1 x2 s8) fun r9 s10 =>
  some (r9, s10)))
set_option maxRecDepth 100000 in
theorem ok_X8_held {G : ZG} (hG : zSH G = shC) (N : Nat) {d : Nat} (hd : 2 ≤ d) {x1 : Int32} {x2 : Int32} {σ : ZM} {res : Int32 × ZM} (h : f_X8_held N x1 x2 σ = some res) : zCt G d MX8_held [.ref (zad G 0), .int x1, .int x2] σ (some (.int res.1)) res.2 := by
  obtain ⟨d, rfl⟩ : ∃ k, d = k + 1 := ⟨d - 1, by omega⟩
  have hd : 1 ≤ d := by omega
  refine zct_of (by decide) (Nat.le_of_ble_eq_true rfl) (lv := [(0, .ref (zad G 0)), (1, .int x1), (2, .int x2)]) rfl ?_
  unfold f_X8_held at h
  refine zf_aload_n 0 (q := 1) (j := 0) rfl dX8_held_0 rfl rfl ?_
  refine zf_getR (q := 4) rfl dX8_held_1 lf_RX8_36 (sc0 hG) rfl ?_
  refine zf_iload_n 1 (q := 5) (j := 1) rfl dX8_held_4 rfl rfl ?_
  obtain ⟨r1, s2, es2, h⟩ := zc h
  refine zf_callV (q := 8) (As := [.int x1]) (rest := []) (st1 := [.int r1]) rfl dX8_held_5 lv_RX8_121 (sc12 hG) rfl rfl (Nat.le_of_ble_eq_true rfl) (ok_X7_has hG N (Nat.le_trans (by decide) hd) (wd12 hG) es2) rfl ?_
  refine zf_if_ne (q := 11) (tgt := 13) rfl (by decide) dX8_held_8 (fun hc8 => ?_) (fun hc8 => ?_)
  · replace h := (zi h).2 hc8
    refine zf_iload_n 2 (q := 14) (j := 2) rfl dX8_held_13 rfl rfl ?_
    refine zf_aload_n 0 (q := 15) (j := 0) rfl dX8_held_14 rfl rfl ?_
    refine zf_getR (q := 18) rfl dX8_held_15 lf_RX8_26 (sc0 hG) rfl ?_
    obtain ⟨r3, s4, es4, h⟩ := zc h
    refine zf_callV (q := 21) (As := []) (rest := [.int x2]) (st1 := [.int r3, .int x2]) rfl dX8_held_18 lv_RX8_132 (sc1 hG) rfl rfl (Nat.le_of_ble_eq_true rfl) (ok_X3_everyone hG N (Nat.le_trans (by decide) hd) es4) rfl ?_
    obtain ⟨r5, s6, es6, h⟩ := zc h
    refine zf_callS (q := 24) (As := [.int x2, .int r3]) (rest := []) (st1 := [.int r5]) rfl dX8_held_21 ls_RX8_66 rfl rfl (Nat.le_of_ble_eq_true rfl) (ok_X8_within hG N (Nat.le_trans (by decide) hd) es6) rfl ?_
    refine zf_if_ne (q := 27) (tgt := 30) rfl (by decide) dX8_held_24 (fun hc24 => ?_) (fun hc24 => ?_)
    · replace h := (zi h).2 hc24
      refine zf_aload_n 0 (q := 31) (j := 0) rfl dX8_held_30 rfl rfl ?_
      obtain ⟨r7, s8, es8, h⟩ := zc h
      refine zf_callV (q := 34) (As := []) (rest := []) (st1 := []) rfl dX8_held_31 lv_RX8_74 (sc0 hG) rfl rfl (Nat.le_of_ble_eq_true rfl) (ok_X8_forgetAll hG N (Nat.le_trans (by decide) hd) es8) rfl ?_
      refine zf_aload_n 0 (q := 35) (j := 0) rfl dX8_held_34 rfl rfl ?_
      refine zf_getR (q := 38) rfl dX8_held_35 lf_RX8_36 (sc0 hG) rfl ?_
      refine zf_getR (q := 41) rfl dX8_held_38 lf_RX8_135 (sc12 hG) rfl ?_
      refine zf_iload_n 1 (q := 42) (j := 1) rfl dX8_held_41 rfl rfl ?_
      refine zf_iload_n 2 (q := 43) (j := 2) rfl dX8_held_42 rfl rfl ?_
      obtain ⟨r9, s10, es10, h⟩ := zc h
      refine zf_callS (q := 46) (As := [.ref (zad G 14), .int x1, .int x2]) (rest := []) (st1 := [.int r9]) rfl dX8_held_43 ls_RX8_103 rfl rfl (Nat.le_of_ble_eq_true rfl) (ok_X8_put hG N (Nat.le_trans (by decide) hd) (sc14 hG) es10) rfl ?_
      cases h
      exact zf_ireturn dX8_held_46 rfl
    · replace h := (zi h).1 hc24
      refine zf_bipush (q := 29) rfl dX8_held_27 bpm2 ?_
      cases h
      exact zf_ireturn dX8_held_29 rfl
  · replace h := (zi h).1 hc8
    refine zf_iconst (q := 12) rfl dX8_held_11 icm1 ?_
    cases h
    exact zf_ireturn dX8_held_12 rfl
-- ===== X8_near: NearCopies.near(IZ)I
def f_X8_near (N : Nat) (x1 : Int32) (x2 : Int32) (σ : ZM) : Option (Int32 × ZM) :=
  zbd (f_X7_has N 12 x1 σ) fun r1 s2 =>
  if r1 = 0 then
  (some ((-1 : Int32), s2))
  else
  (zbd (f_X8_forgetAll N s2) fun r3 s4 =>
  zbd (f_X8_put_ N 15 4 x1 x2 s4) fun r5 s6 =>
  some (r5, s6))
set_option maxRecDepth 100000 in
theorem ok_X8_near {G : ZG} (hG : zSH G = shC) (N : Nat) {d : Nat} (hd : 2 ≤ d) {x1 : Int32} {x2 : Int32} {σ : ZM} {res : Int32 × ZM} (h : f_X8_near N x1 x2 σ = some res) : zCt G d MX8_near [.ref (zad G 0), .int x1, .int x2] σ (some (.int res.1)) res.2 := by
  obtain ⟨d, rfl⟩ : ∃ k, d = k + 1 := ⟨d - 1, by omega⟩
  have hd : 1 ≤ d := by omega
  refine zct_of (by decide) (Nat.le_of_ble_eq_true rfl) (lv := [(0, .ref (zad G 0)), (1, .int x1), (2, .int x2)]) rfl ?_
  unfold f_X8_near at h
  refine zf_aload_n 0 (q := 1) (j := 0) rfl dX8_near_0 rfl rfl ?_
  refine zf_getR (q := 4) rfl dX8_near_1 lf_RX8_36 (sc0 hG) rfl ?_
  refine zf_iload_n 1 (q := 5) (j := 1) rfl dX8_near_4 rfl rfl ?_
  obtain ⟨r1, s2, es2, h⟩ := zc h
  refine zf_callV (q := 8) (As := [.int x1]) (rest := []) (st1 := [.int r1]) rfl dX8_near_5 lv_RX8_121 (sc12 hG) rfl rfl (Nat.le_of_ble_eq_true rfl) (ok_X7_has hG N (Nat.le_trans (by decide) hd) (wd12 hG) es2) rfl ?_
  refine zf_if_ne (q := 11) (tgt := 13) rfl (by decide) dX8_near_8 (fun hc8 => ?_) (fun hc8 => ?_)
  · replace h := (zi h).2 hc8
    refine zf_aload_n 0 (q := 14) (j := 0) rfl dX8_near_13 rfl rfl ?_
    obtain ⟨r3, s4, es4, h⟩ := zc h
    refine zf_callV (q := 17) (As := []) (rest := []) (st1 := []) rfl dX8_near_14 lv_RX8_74 (sc0 hG) rfl rfl (Nat.le_of_ble_eq_true rfl) (ok_X8_forgetAll hG N (Nat.le_trans (by decide) hd) es4) rfl ?_
    refine zf_aload_n 0 (q := 18) (j := 0) rfl dX8_near_17 rfl rfl ?_
    refine zf_getR (q := 21) rfl dX8_near_18 lf_RX8_36 (sc0 hG) rfl ?_
    refine zf_getR (q := 24) rfl dX8_near_21 lf_RX8_138 (sc12 hG) rfl ?_
    refine zf_iload_n 1 (q := 25) (j := 1) rfl dX8_near_24 rfl rfl ?_
    refine zf_iload_n 2 (q := 26) (j := 2) rfl dX8_near_25 rfl rfl ?_
    obtain ⟨r5, s6, es6, h⟩ := zc h
    refine zf_callS (q := 29) (As := [.ref (zad G 15), .int x1, .int x2]) (rest := []) (st1 := [.int r5]) rfl dX8_near_26 ls_RX8_126 rfl rfl (Nat.le_of_ble_eq_true rfl) (ok_X8_put_ hG N (Nat.le_trans (by decide) hd) (sc15 hG) es6) rfl ?_
    cases h
    exact zf_ireturn dX8_near_29 rfl
  · replace h := (zi h).1 hc8
    refine zf_iconst (q := 12) rfl dX8_near_11 icm1 ?_
    cases h
    exact zf_ireturn dX8_near_12 rfl
-- ===== X8_late: NearCopies.late(III)I
def f_X8_late (N : Nat) (x1 : Int32) (x2 : Int32) (x3 : Int32) (σ : ZM) : Option (Int32 × ZM) :=
  zbd (f_X3_has N x1 σ) fun r1 s2 =>
  if r1 = 0 then
  (some ((-1 : Int32), s2))
  else
  (zbd (f_X7_has N 12 x2 s2) fun r3 s4 =>
  if r3 = 0 then
  (some ((-1 : Int32), s4))
  else
  (zbd (f_X8_within N x3 (999 : Int32) s4) fun r5 s6 =>
  if r5 = 0 then
  (some ((-2 : Int32), s6))
  else
  (zbd (f_X8_forgetAll N s6) fun r7 s8 =>
  zbd (f_X8_put N 11 40 ((x1 * (4 : Int32)) + x2) x3 s8) fun r9 s10 =>
  some (r9, s10))))
set_option maxRecDepth 100000 in
theorem ok_X8_late {G : ZG} (hG : zSH G = shC) (N : Nat) {d : Nat} (hd : 2 ≤ d) {x1 : Int32} {x2 : Int32} {x3 : Int32} {σ : ZM} {res : Int32 × ZM} (h : f_X8_late N x1 x2 x3 σ = some res) : zCt G d MX8_late [.ref (zad G 0), .int x1, .int x2, .int x3] σ (some (.int res.1)) res.2 := by
  obtain ⟨d, rfl⟩ : ∃ k, d = k + 1 := ⟨d - 1, by omega⟩
  have hd : 1 ≤ d := by omega
  refine zct_of (by decide) (Nat.le_of_ble_eq_true rfl) (lv := [(0, .ref (zad G 0)), (1, .int x1), (2, .int x2), (3, .int x3)]) rfl ?_
  unfold f_X8_late at h
  refine zf_aload_n 0 (q := 1) (j := 0) rfl dX8_late_0 rfl rfl ?_
  refine zf_getR (q := 4) rfl dX8_late_1 lf_RX8_26 (sc0 hG) rfl ?_
  refine zf_iload_n 1 (q := 5) (j := 1) rfl dX8_late_4 rfl rfl ?_
  obtain ⟨r1, s2, es2, h⟩ := zc h
  refine zf_callV (q := 8) (As := [.int x1]) (rest := []) (st1 := [.int r1]) rfl dX8_late_5 lv_RX8_81 (sc1 hG) rfl rfl (Nat.le_of_ble_eq_true rfl) (ok_X3_has hG N (Nat.le_trans (by decide) hd) es2) rfl ?_
  refine zf_if_eq (q := 11) (tgt := 22) rfl (by decide) dX8_late_8 (fun hc8 => ?_) (fun hc8 => ?_)
  · replace h := (zi h).1 hc8
    refine zf_iconst (q := 23) rfl dX8_late_22 icm1 ?_
    cases h
    exact zf_ireturn dX8_late_23 rfl
  · replace h := (zi h).2 hc8
    refine zf_aload_n 0 (q := 12) (j := 0) rfl dX8_late_11 rfl rfl ?_
    refine zf_getR (q := 15) rfl dX8_late_12 lf_RX8_36 (sc0 hG) rfl ?_
    refine zf_iload_n 2 (q := 16) (j := 2) rfl dX8_late_15 rfl rfl ?_
    obtain ⟨r3, s4, es4, h⟩ := zc h
    refine zf_callV (q := 19) (As := [.int x2]) (rest := []) (st1 := [.int r3]) rfl dX8_late_16 lv_RX8_121 (sc12 hG) rfl rfl (Nat.le_of_ble_eq_true rfl) (ok_X7_has hG N (Nat.le_trans (by decide) hd) (wd12 hG) es4) rfl ?_
    refine zf_if_ne (q := 22) (tgt := 24) rfl (by decide) dX8_late_19 (fun hc19 => ?_) (fun hc19 => ?_)
    · replace h := (zi h).2 hc19
      refine zf_iload_n 3 (q := 25) (j := 3) rfl dX8_late_24 rfl rfl ?_
      refine zf_sipush (q := 28) rfl dX8_late_25 sp999 ?_
      obtain ⟨r5, s6, es6, h⟩ := zc h
      refine zf_callS (q := 31) (As := [.int x3, .int (999 : Int32)]) (rest := []) (st1 := [.int r5]) rfl dX8_late_28 ls_RX8_66 rfl rfl (Nat.le_of_ble_eq_true rfl) (ok_X8_within hG N (Nat.le_trans (by decide) hd) es6) rfl ?_
      refine zf_if_ne (q := 34) (tgt := 37) rfl (by decide) dX8_late_31 (fun hc31 => ?_) (fun hc31 => ?_)
      · replace h := (zi h).2 hc31
        refine zf_aload_n 0 (q := 38) (j := 0) rfl dX8_late_37 rfl rfl ?_
        obtain ⟨r7, s8, es8, h⟩ := zc h
        refine zf_callV (q := 41) (As := []) (rest := []) (st1 := []) rfl dX8_late_38 lv_RX8_74 (sc0 hG) rfl rfl (Nat.le_of_ble_eq_true rfl) (ok_X8_forgetAll hG N (Nat.le_trans (by decide) hd) es8) rfl ?_
        refine zf_aload_n 0 (q := 42) (j := 0) rfl dX8_late_41 rfl rfl ?_
        refine zf_getR (q := 45) rfl dX8_late_42 lf_RX8_32 (sc0 hG) rfl ?_
        refine zf_getR (q := 48) rfl dX8_late_45 lf_RX8_141 (sc7 hG) rfl ?_
        refine zf_iload_n 1 (q := 49) (j := 1) rfl dX8_late_48 rfl rfl ?_
        refine zf_iconst (q := 50) rfl dX8_late_49 ic4 ?_
        refine zf_imul (q := 51) rfl dX8_late_50 ?_
        refine zf_iload_n 2 (q := 52) (j := 2) rfl dX8_late_51 rfl rfl ?_
        refine zf_iadd (q := 53) rfl dX8_late_52 ?_
        refine zf_iload_n 3 (q := 54) (j := 3) rfl dX8_late_53 rfl rfl ?_
        obtain ⟨r9, s10, es10, h⟩ := zc h
        refine zf_callS (q := 57) (As := [.ref (zad G 11), .int ((x1 * (4 : Int32)) + x2), .int x3]) (rest := []) (st1 := [.int r9]) rfl dX8_late_54 ls_RX8_103 rfl rfl (Nat.le_of_ble_eq_true rfl) (ok_X8_put hG N (Nat.le_trans (by decide) hd) (sc11 hG) es10) rfl ?_
        cases h
        exact zf_ireturn dX8_late_57 rfl
      · replace h := (zi h).1 hc31
        refine zf_bipush (q := 36) rfl dX8_late_34 bpm2 ?_
        cases h
        exact zf_ireturn dX8_late_36 rfl
    · replace h := (zi h).1 hc19
      refine zf_iconst (q := 23) rfl dX8_late_22 icm1 ?_
      cases h
      exact zf_ireturn dX8_late_23 rfl
-- ===== X8_settleNow: NearCopies.settleNow()I
def f_X8_settleNow (N : Nat) (σ : ZM) : Option (Int32 × ZM) :=
  zbd (f_X2_takeLeastRules N σ) fun r1 s2 =>
  zbd (f_X2_settle N 12 s2) fun r3 s4 =>
  some (r3, s4)
set_option maxRecDepth 100000 in
theorem ok_X8_settleNow {G : ZG} (hG : zSH G = shC) (N : Nat) {d : Nat} (hd : 4 ≤ d) {σ : ZM} {res : Int32 × ZM} (h : f_X8_settleNow N σ = some res) : zCt G d MX8_settleNow [.ref (zad G 0)] σ (some (.int res.1)) res.2 := by
  obtain ⟨d, rfl⟩ : ∃ k, d = k + 1 := ⟨d - 1, by omega⟩
  have hd : 3 ≤ d := by omega
  refine zct_of (by decide) (Nat.le_of_ble_eq_true rfl) (lv := [(0, .ref (zad G 0))]) rfl ?_
  unfold f_X8_settleNow at h
  refine zf_aload_n 0 (q := 1) (j := 0) rfl dX8_settleNow_0 rfl rfl ?_
  refine zf_getR (q := 4) rfl dX8_settleNow_1 lf_RX8_40 (sc0 hG) rfl ?_
  obtain ⟨r1, s2, es2, h⟩ := zc h
  refine zf_callV (q := 7) (As := []) (rest := []) (st1 := []) rfl dX8_settleNow_4 lv_RX8_305 (sc17 hG) rfl rfl (Nat.le_of_ble_eq_true rfl) (ok_X2_takeLeastRules hG N (Nat.le_trans (by decide) hd) es2) rfl ?_
  refine zf_aload_n 0 (q := 8) (j := 0) rfl dX8_settleNow_7 rfl rfl ?_
  refine zf_getR (q := 11) rfl dX8_settleNow_8 lf_RX8_40 (sc0 hG) rfl ?_
  refine zf_aload_n 0 (q := 12) (j := 0) rfl dX8_settleNow_11 rfl rfl ?_
  refine zf_getR (q := 15) rfl dX8_settleNow_12 lf_RX8_36 (sc0 hG) rfl ?_
  obtain ⟨r3, s4, es4, h⟩ := zc h
  refine zf_callV (q := 18) (As := [.ref (zad G 12)]) (rest := []) (st1 := [.int r3]) rfl dX8_settleNow_15 lv_RX8_308 (sc17 hG) rfl rfl (Nat.le_of_ble_eq_true rfl) (ok_X2_settle hG N (Nat.le_trans (by decide) hd) (wd12 hG) es4) rfl ?_
  cases h
  exact zf_ireturn dX8_settleNow_18 rfl
-- ===== X8_rounds: NearCopies.rounds()I
def f_X8_rounds (N : Nat) (σ : ZM) : Option (Int32 × ZM) :=
  zbd (f_X8_settleNow N σ) fun r1 s2 =>
  some (r1, s2)
set_option maxRecDepth 100000 in
theorem ok_X8_rounds {G : ZG} (hG : zSH G = shC) (N : Nat) {d : Nat} (hd : 5 ≤ d) {σ : ZM} {res : Int32 × ZM} (h : f_X8_rounds N σ = some res) : zCt G d MX8_rounds [.ref (zad G 0)] σ (some (.int res.1)) res.2 := by
  obtain ⟨d, rfl⟩ : ∃ k, d = k + 1 := ⟨d - 1, by omega⟩
  have hd : 4 ≤ d := by omega
  refine zct_of (by decide) (Nat.le_of_ble_eq_true rfl) (lv := [(0, .ref (zad G 0))]) rfl ?_
  unfold f_X8_rounds at h
  refine zf_aload_n 0 (q := 1) (j := 0) rfl dX8_rounds_0 rfl rfl ?_
  obtain ⟨r1, s2, es2, h⟩ := zc h
  refine zf_callV (q := 4) (As := []) (rest := []) (st1 := [.int r1]) rfl dX8_rounds_1 lv_RX8_144 (sc0 hG) rfl rfl (Nat.le_of_ble_eq_true rfl) (ok_X8_settleNow hG N (Nat.le_trans (by decide) hd) es2) rfl ?_
  cases h
  exact zf_ireturn dX8_rounds_4 rfl
-- ===== X8_restRefusal: NearCopies.restRefusal(Z)I
def f_X8_restRefusal (N : Nat) (x1 : Int32) (σ : ZM) : Option (Int32 × ZM) :=
  if x1 = 0 then
  (some ((-1 : Int32), σ))
  else
  (zbd (f_X8_settleNow N σ) fun r1 s2 =>
  if r1 = (-9 : Int32) then
  (some ((-3 : Int32), s2))
  else
  (some ((0 : Int32), s2)))
set_option maxRecDepth 100000 in
theorem ok_X8_restRefusal {G : ZG} (hG : zSH G = shC) (N : Nat) {d : Nat} (hd : 5 ≤ d) {x1 : Int32} {σ : ZM} {res : Int32 × ZM} (h : f_X8_restRefusal N x1 σ = some res) : zCt G d MX8_restRefusal [.ref (zad G 0), .int x1] σ (some (.int res.1)) res.2 := by
  obtain ⟨d, rfl⟩ : ∃ k, d = k + 1 := ⟨d - 1, by omega⟩
  have hd : 4 ≤ d := by omega
  refine zct_of (by decide) (Nat.le_of_ble_eq_true rfl) (lv := [(0, .ref (zad G 0)), (1, .int x1)]) rfl ?_
  unfold f_X8_restRefusal at h
  refine zf_iload_n 1 (q := 1) (j := 1) rfl dX8_restRefusal_0 rfl rfl ?_
  refine zf_if_ne (q := 4) (tgt := 6) rfl (by decide) dX8_restRefusal_1 (fun hc1 => ?_) (fun hc1 => ?_)
  · replace h := (zi h).2 hc1
    refine zf_aload_n 0 (q := 7) (j := 0) rfl dX8_restRefusal_6 rfl rfl ?_
    obtain ⟨r1, s2, es2, h⟩ := zc h
    refine zf_callV (q := 10) (As := []) (rest := []) (st1 := [.int r1]) rfl dX8_restRefusal_7 lv_RX8_144 (sc0 hG) rfl rfl (Nat.le_of_ble_eq_true rfl) (ok_X8_settleNow hG N (Nat.le_trans (by decide) hd) es2) rfl ?_
    refine zf_bipush (q := 12) rfl dX8_restRefusal_10 bpm9 ?_
    refine zf_icmp_ne (q := 15) (tgt := 20) rfl (by decide) dX8_restRefusal_12 (fun hc12 => ?_) (fun hc12 => ?_)
    · replace h := (zi h).2 hc12
      refine zf_iconst (q := 21) rfl dX8_restRefusal_20 ic0 ?_
      cases h
      exact zf_ireturn dX8_restRefusal_21 rfl
    · replace h := (zi h).1 hc12
      refine zf_bipush (q := 17) rfl dX8_restRefusal_15 bpm3 ?_
      refine zf_goto (tgt := 21) (by decide) dX8_restRefusal_17 ?_
      cases h
      exact zf_ireturn dX8_restRefusal_21 rfl
  · replace h := (zi h).1 hc1
    refine zf_iconst (q := 5) rfl dX8_restRefusal_4 icm1 ?_
    cases h
    exact zf_ireturn dX8_restRefusal_5 rfl
-- ===== X8_comes: NearCopies.comes(I)I
def f_X8_comes (N : Nat) (x1 : Int32) (σ : ZM) : Option (Int32 × ZM) :=
  zbd (f_X3_has N x1 σ) fun r1 s2 =>
  zbd (f_X8_restRefusal N r1 s2) fun r3 s4 =>
  if r3 = 0 then
  (zbd (f_X2_comesTo N x1 s4) fun r5 s6 =>
  some (r5, s6))
  else
  (some (r3, s4))
set_option maxRecDepth 100000 in
theorem ok_X8_comes {G : ZG} (hG : zSH G = shC) (N : Nat) {d : Nat} (hd : 6 ≤ d) {x1 : Int32} {σ : ZM} {res : Int32 × ZM} (h : f_X8_comes N x1 σ = some res) : zCt G d MX8_comes [.ref (zad G 0), .int x1] σ (some (.int res.1)) res.2 := by
  obtain ⟨d, rfl⟩ : ∃ k, d = k + 1 := ⟨d - 1, by omega⟩
  have hd : 5 ≤ d := by omega
  refine zct_of (by decide) (Nat.le_of_ble_eq_true rfl) (lv := [(0, .ref (zad G 0)), (1, .int x1)]) rfl ?_
  unfold f_X8_comes at h
  refine zf_aload_n 0 (q := 1) (j := 0) rfl dX8_comes_0 rfl rfl ?_
  refine zf_aload_n 0 (q := 2) (j := 0) rfl dX8_comes_1 rfl rfl ?_
  refine zf_getR (q := 5) rfl dX8_comes_2 lf_RX8_26 (sc0 hG) rfl ?_
  refine zf_iload_n 1 (q := 6) (j := 1) rfl dX8_comes_5 rfl rfl ?_
  obtain ⟨r1, s2, es2, h⟩ := zc h
  refine zf_callV (q := 9) (As := [.int x1]) (rest := [.ref (zad G 0)]) (st1 := [.int r1, .ref (zad G 0)]) rfl dX8_comes_6 lv_RX8_81 (sc1 hG) rfl rfl (Nat.le_of_ble_eq_true rfl) (ok_X3_has hG N (Nat.le_trans (by decide) hd) es2) rfl ?_
  obtain ⟨r3, s4, es4, h⟩ := zc h
  refine zf_callV (q := 12) (As := [.int r1]) (rest := []) (st1 := [.int r3]) rfl dX8_comes_9 lv_RX8_147 (sc0 hG) rfl rfl (Nat.le_of_ble_eq_true rfl) (ok_X8_restRefusal hG N (Nat.le_trans (by decide) hd) es4) rfl ?_
  refine zf_istore_n (q := 13) (y := r3) (i := 2) (lv1 := [(2, .int r3), (0, .ref (zad G 0)), (1, .int x1)]) rfl dX8_comes_12 rfl (by decide) rfl rfl ?_
  refine zf_iload_n 0 (q := 14) (j := 2) rfl dX8_comes_13 rfl rfl ?_
  refine zf_if_eq (q := 17) (tgt := 21) rfl (by decide) dX8_comes_14 (fun hc14 => ?_) (fun hc14 => ?_)
  · replace h := (zi h).1 hc14
    refine zf_aload_n 1 (q := 22) (j := 0) rfl dX8_comes_21 rfl rfl ?_
    refine zf_getR (q := 25) rfl dX8_comes_22 lf_RX8_40 (sc0 hG) rfl ?_
    refine zf_iload_n 2 (q := 26) (j := 1) rfl dX8_comes_25 rfl rfl ?_
    obtain ⟨r5, s6, es6, h⟩ := zc h
    refine zf_callV (q := 29) (As := [.int x1]) (rest := []) (st1 := [.int r5]) rfl dX8_comes_26 lv_RX8_151 (sc17 hG) rfl rfl (Nat.le_of_ble_eq_true rfl) (ok_X2_comesTo hG N (Nat.le_trans (by decide) hd) es6) rfl ?_
    cases h
    exact zf_ireturn dX8_comes_29 rfl
  · replace h := (zi h).2 hc14
    refine zf_iload_n 0 (q := 18) (j := 2) rfl dX8_comes_17 rfl rfl ?_
    refine zf_goto (tgt := 29) (by decide) dX8_comes_18 ?_
    cases h
    exact zf_ireturn dX8_comes_29 rfl
-- ===== X8_names: NearCopies.names(I)I
def f_X8_names (N : Nat) (x1 : Int32) (σ : ZM) : Option (Int32 × ZM) :=
  zbd (f_X3_has N x1 σ) fun r1 s2 =>
  zbd (f_X8_restRefusal N r1 s2) fun r3 s4 =>
  if r3 = 0 then
  ((zalJ s4 19 10 x1).bind fun v5 =>
  zbd (f_X2_namesOf N v5 s4) fun r6 s7 =>
  some (r6, s7))
  else
  (some (r3, s4))
set_option maxRecDepth 100000 in
theorem ok_X8_names {G : ZG} (hG : zSH G = shC) (N : Nat) {d : Nat} (hd : 6 ≤ d) {x1 : Int32} {σ : ZM} {res : Int32 × ZM} (h : f_X8_names N x1 σ = some res) : zCt G d MX8_names [.ref (zad G 0), .int x1] σ (some (.int res.1)) res.2 := by
  obtain ⟨d, rfl⟩ : ∃ k, d = k + 1 := ⟨d - 1, by omega⟩
  have hd : 5 ≤ d := by omega
  refine zct_of (by decide) (Nat.le_of_ble_eq_true rfl) (lv := [(0, .ref (zad G 0)), (1, .int x1)]) rfl ?_
  unfold f_X8_names at h
  refine zf_aload_n 0 (q := 1) (j := 0) rfl dX8_names_0 rfl rfl ?_
  refine zf_aload_n 0 (q := 2) (j := 0) rfl dX8_names_1 rfl rfl ?_
  refine zf_getR (q := 5) rfl dX8_names_2 lf_RX8_26 (sc0 hG) rfl ?_
  refine zf_iload_n 1 (q := 6) (j := 1) rfl dX8_names_5 rfl rfl ?_
  obtain ⟨r1, s2, es2, h⟩ := zc h
  refine zf_callV (q := 9) (As := [.int x1]) (rest := [.ref (zad G 0)]) (st1 := [.int r1, .ref (zad G 0)]) rfl dX8_names_6 lv_RX8_81 (sc1 hG) rfl rfl (Nat.le_of_ble_eq_true rfl) (ok_X3_has hG N (Nat.le_trans (by decide) hd) es2) rfl ?_
  obtain ⟨r3, s4, es4, h⟩ := zc h
  refine zf_callV (q := 12) (As := [.int r1]) (rest := []) (st1 := [.int r3]) rfl dX8_names_9 lv_RX8_147 (sc0 hG) rfl rfl (Nat.le_of_ble_eq_true rfl) (ok_X8_restRefusal hG N (Nat.le_trans (by decide) hd) es4) rfl ?_
  refine zf_istore_n (q := 13) (y := r3) (i := 2) (lv1 := [(2, .int r3), (0, .ref (zad G 0)), (1, .int x1)]) rfl dX8_names_12 rfl (by decide) rfl rfl ?_
  refine zf_iload_n 0 (q := 14) (j := 2) rfl dX8_names_13 rfl rfl ?_
  refine zf_if_eq (q := 17) (tgt := 21) rfl (by decide) dX8_names_14 (fun hc14 => ?_) (fun hc14 => ?_)
  · replace h := (zi h).1 hc14
    refine zf_aload_n 1 (q := 22) (j := 0) rfl dX8_names_21 rfl rfl ?_
    refine zf_getR (q := 25) rfl dX8_names_22 lf_RX8_40 (sc0 hG) rfl ?_
    refine zf_getR (q := 28) rfl dX8_names_25 lf_RX8_154 (sc17 hG) rfl ?_
    refine zf_iload_n 2 (q := 29) (j := 1) rfl dX8_names_28 rfl rfl ?_
    obtain ⟨v5, ev5, h⟩ := zb h
    refine zf_lald (q := 30) rfl dX8_names_29 (sc19 hG) ev5 ?_
    obtain ⟨r6, s7, es7, h⟩ := zc h
    refine zf_callS (q := 33) (As := [.long v5]) (rest := []) (st1 := [.int r6]) rfl dX8_names_30 ls_RX8_158 rfl rfl (Nat.le_of_ble_eq_true rfl) (ok_X2_namesOf hG N (Nat.le_trans (by decide) hd) es7) rfl ?_
    cases h
    exact zf_ireturn dX8_names_33 rfl
  · replace h := (zi h).2 hc14
    refine zf_iload_n 0 (q := 18) (j := 2) rfl dX8_names_17 rfl rfl ?_
    refine zf_goto (tgt := 33) (by decide) dX8_names_18 ?_
    cases h
    exact zf_ireturn dX8_names_33 rfl
-- ===== X8_way: NearCopies.way(II)I
def f_X8_way (N : Nat) (x1 : Int32) (x2 : Int32) (σ : ZM) : Option (Int32 × ZM) :=
  zbd (f_X3_has N x1 σ) fun r1 s2 =>
  zbd (f_X8_restRefusal N r1 s2) fun r3 s4 =>
  if r3 = 0 then
  ((zalJ s4 19 10 x1).bind fun v5 =>
  zbd (f_X2_passedAt N v5 x2 s4) fun r6 s7 =>
  some (r6, s7))
  else
  (some (r3, s4))
set_option maxRecDepth 100000 in
theorem ok_X8_way {G : ZG} (hG : zSH G = shC) (N : Nat) {d : Nat} (hd : 6 ≤ d) {x1 : Int32} {x2 : Int32} {σ : ZM} {res : Int32 × ZM} (h : f_X8_way N x1 x2 σ = some res) : zCt G d MX8_way [.ref (zad G 0), .int x1, .int x2] σ (some (.int res.1)) res.2 := by
  obtain ⟨d, rfl⟩ : ∃ k, d = k + 1 := ⟨d - 1, by omega⟩
  have hd : 5 ≤ d := by omega
  refine zct_of (by decide) (Nat.le_of_ble_eq_true rfl) (lv := [(0, .ref (zad G 0)), (1, .int x1), (2, .int x2)]) rfl ?_
  unfold f_X8_way at h
  refine zf_aload_n 0 (q := 1) (j := 0) rfl dX8_way_0 rfl rfl ?_
  refine zf_aload_n 0 (q := 2) (j := 0) rfl dX8_way_1 rfl rfl ?_
  refine zf_getR (q := 5) rfl dX8_way_2 lf_RX8_26 (sc0 hG) rfl ?_
  refine zf_iload_n 1 (q := 6) (j := 1) rfl dX8_way_5 rfl rfl ?_
  obtain ⟨r1, s2, es2, h⟩ := zc h
  refine zf_callV (q := 9) (As := [.int x1]) (rest := [.ref (zad G 0)]) (st1 := [.int r1, .ref (zad G 0)]) rfl dX8_way_6 lv_RX8_81 (sc1 hG) rfl rfl (Nat.le_of_ble_eq_true rfl) (ok_X3_has hG N (Nat.le_trans (by decide) hd) es2) rfl ?_
  obtain ⟨r3, s4, es4, h⟩ := zc h
  refine zf_callV (q := 12) (As := [.int r1]) (rest := []) (st1 := [.int r3]) rfl dX8_way_9 lv_RX8_147 (sc0 hG) rfl rfl (Nat.le_of_ble_eq_true rfl) (ok_X8_restRefusal hG N (Nat.le_trans (by decide) hd) es4) rfl ?_
  refine zf_istore_n (q := 13) (y := r3) (i := 3) (lv1 := [(3, .int r3), (0, .ref (zad G 0)), (1, .int x1), (2, .int x2)]) rfl dX8_way_12 rfl (by decide) rfl rfl ?_
  refine zf_iload_n 0 (q := 14) (j := 3) rfl dX8_way_13 rfl rfl ?_
  refine zf_if_eq (q := 17) (tgt := 21) rfl (by decide) dX8_way_14 (fun hc14 => ?_) (fun hc14 => ?_)
  · replace h := (zi h).1 hc14
    refine zf_aload_n 1 (q := 22) (j := 0) rfl dX8_way_21 rfl rfl ?_
    refine zf_getR (q := 25) rfl dX8_way_22 lf_RX8_40 (sc0 hG) rfl ?_
    refine zf_getR (q := 28) rfl dX8_way_25 lf_RX8_154 (sc17 hG) rfl ?_
    refine zf_iload_n 2 (q := 29) (j := 1) rfl dX8_way_28 rfl rfl ?_
    obtain ⟨v5, ev5, h⟩ := zb h
    refine zf_lald (q := 30) rfl dX8_way_29 (sc19 hG) ev5 ?_
    refine zf_iload_n 3 (q := 31) (j := 2) rfl dX8_way_30 rfl rfl ?_
    obtain ⟨r6, s7, es7, h⟩ := zc h
    refine zf_callS (q := 34) (As := [.long v5, .int x2]) (rest := []) (st1 := [.int r6]) rfl dX8_way_31 ls_RX8_162 rfl rfl (Nat.le_of_ble_eq_true rfl) (ok_X2_passedAt hG N (Nat.le_trans (by decide) hd) es7) rfl ?_
    cases h
    exact zf_ireturn dX8_way_34 rfl
  · replace h := (zi h).2 hc14
    refine zf_iload_n 0 (q := 18) (j := 3) rfl dX8_way_17 rfl rfl ?_
    refine zf_goto (tgt := 34) (by decide) dX8_way_18 ?_
    cases h
    exact zf_ireturn dX8_way_34 rfl
-- ===== X8_told: NearCopies.told(I)I
def f_X8_told (N : Nat) (x1 : Int32) (σ : ZM) : Option (Int32 × ZM) :=
  zbd (f_X3_has N x1 σ) fun r1 s2 =>
  zbd (f_X8_restRefusal N r1 s2) fun r3 s4 =>
  if r3 = 0 then
  (zbd (f_X2_hear N 12 x1 s4) fun r5 s6 =>
  some ((s6.1 17 5), s6))
  else
  (some (r3, s4))
set_option maxRecDepth 100000 in
theorem ok_X8_told {G : ZG} (hG : zSH G = shC) (N : Nat) {d : Nat} (hd : 6 ≤ d) {x1 : Int32} {σ : ZM} {res : Int32 × ZM} (h : f_X8_told N x1 σ = some res) : zCt G d MX8_told [.ref (zad G 0), .int x1] σ (some (.int res.1)) res.2 := by
  obtain ⟨d, rfl⟩ : ∃ k, d = k + 1 := ⟨d - 1, by omega⟩
  have hd : 5 ≤ d := by omega
  refine zct_of (by decide) (Nat.le_of_ble_eq_true rfl) (lv := [(0, .ref (zad G 0)), (1, .int x1)]) rfl ?_
  unfold f_X8_told at h
  refine zf_aload_n 0 (q := 1) (j := 0) rfl dX8_told_0 rfl rfl ?_
  refine zf_aload_n 0 (q := 2) (j := 0) rfl dX8_told_1 rfl rfl ?_
  refine zf_getR (q := 5) rfl dX8_told_2 lf_RX8_26 (sc0 hG) rfl ?_
  refine zf_iload_n 1 (q := 6) (j := 1) rfl dX8_told_5 rfl rfl ?_
  obtain ⟨r1, s2, es2, h⟩ := zc h
  refine zf_callV (q := 9) (As := [.int x1]) (rest := [.ref (zad G 0)]) (st1 := [.int r1, .ref (zad G 0)]) rfl dX8_told_6 lv_RX8_81 (sc1 hG) rfl rfl (Nat.le_of_ble_eq_true rfl) (ok_X3_has hG N (Nat.le_trans (by decide) hd) es2) rfl ?_
  obtain ⟨r3, s4, es4, h⟩ := zc h
  refine zf_callV (q := 12) (As := [.int r1]) (rest := []) (st1 := [.int r3]) rfl dX8_told_9 lv_RX8_147 (sc0 hG) rfl rfl (Nat.le_of_ble_eq_true rfl) (ok_X8_restRefusal hG N (Nat.le_trans (by decide) hd) es4) rfl ?_
  refine zf_istore_n (q := 13) (y := r3) (i := 2) (lv1 := [(2, .int r3), (0, .ref (zad G 0)), (1, .int x1)]) rfl dX8_told_12 rfl (by decide) rfl rfl ?_
  refine zf_iload_n 0 (q := 14) (j := 2) rfl dX8_told_13 rfl rfl ?_
  refine zf_if_eq (q := 17) (tgt := 19) rfl (by decide) dX8_told_14 (fun hc14 => ?_) (fun hc14 => ?_)
  · replace h := (zi h).1 hc14
    refine zf_aload_n 1 (q := 20) (j := 0) rfl dX8_told_19 rfl rfl ?_
    refine zf_getR (q := 23) rfl dX8_told_20 lf_RX8_40 (sc0 hG) rfl ?_
    refine zf_aload_n 1 (q := 24) (j := 0) rfl dX8_told_23 rfl rfl ?_
    refine zf_getR (q := 27) rfl dX8_told_24 lf_RX8_36 (sc0 hG) rfl ?_
    refine zf_iload_n 2 (q := 28) (j := 1) rfl dX8_told_27 rfl rfl ?_
    obtain ⟨r5, s6, es6, h⟩ := zc h
    refine zf_callV (q := 31) (As := [.ref (zad G 12), .int x1]) (rest := []) (st1 := []) rfl dX8_told_28 lv_RX8_166 (sc17 hG) rfl rfl (Nat.le_of_ble_eq_true rfl) (ok_X2_hear hG N (Nat.le_trans (by decide) hd) (wd12 hG) es6) rfl ?_
    refine zf_aload_n 1 (q := 32) (j := 0) rfl dX8_told_31 rfl rfl ?_
    refine zf_getR (q := 35) rfl dX8_told_32 lf_RX8_40 (sc0 hG) rfl ?_
    refine zf_getI (q := 38) rfl dX8_told_35 lf_RX8_170 (sc17 hG) rfl ?_
    cases h
    exact zf_ireturn dX8_told_38 rfl
  · replace h := (zi h).2 hc14
    refine zf_iload_n 0 (q := 18) (j := 2) rfl dX8_told_17 rfl rfl ?_
    cases h
    exact zf_ireturn dX8_told_18 rfl
-- ===== X8_why: NearCopies.why(I)I
def f_X8_why (N : Nat) (x1 : Int32) (σ : ZM) : Option (Int32 × ZM) :=
  zbd (f_X3_has N x1 σ) fun r1 s2 =>
  zbd (f_X8_restRefusal N r1 s2) fun r3 s4 =>
  if r3 = 0 then
  (zbd (f_X2_hear N 12 x1 s4) fun r5 s6 =>
  zbd (f_X2_needed N x1 s6) fun r7 s8 =>
  some (r7, s8))
  else
  (some (r3, s4))
set_option maxRecDepth 100000 in
theorem ok_X8_why {G : ZG} (hG : zSH G = shC) (N : Nat) {d : Nat} (hd : 6 ≤ d) {x1 : Int32} {σ : ZM} {res : Int32 × ZM} (h : f_X8_why N x1 σ = some res) : zCt G d MX8_why [.ref (zad G 0), .int x1] σ (some (.int res.1)) res.2 := by
  obtain ⟨d, rfl⟩ : ∃ k, d = k + 1 := ⟨d - 1, by omega⟩
  have hd : 5 ≤ d := by omega
  refine zct_of (by decide) (Nat.le_of_ble_eq_true rfl) (lv := [(0, .ref (zad G 0)), (1, .int x1)]) rfl ?_
  unfold f_X8_why at h
  refine zf_aload_n 0 (q := 1) (j := 0) rfl dX8_why_0 rfl rfl ?_
  refine zf_aload_n 0 (q := 2) (j := 0) rfl dX8_why_1 rfl rfl ?_
  refine zf_getR (q := 5) rfl dX8_why_2 lf_RX8_26 (sc0 hG) rfl ?_
  refine zf_iload_n 1 (q := 6) (j := 1) rfl dX8_why_5 rfl rfl ?_
  obtain ⟨r1, s2, es2, h⟩ := zc h
  refine zf_callV (q := 9) (As := [.int x1]) (rest := [.ref (zad G 0)]) (st1 := [.int r1, .ref (zad G 0)]) rfl dX8_why_6 lv_RX8_81 (sc1 hG) rfl rfl (Nat.le_of_ble_eq_true rfl) (ok_X3_has hG N (Nat.le_trans (by decide) hd) es2) rfl ?_
  obtain ⟨r3, s4, es4, h⟩ := zc h
  refine zf_callV (q := 12) (As := [.int r1]) (rest := []) (st1 := [.int r3]) rfl dX8_why_9 lv_RX8_147 (sc0 hG) rfl rfl (Nat.le_of_ble_eq_true rfl) (ok_X8_restRefusal hG N (Nat.le_trans (by decide) hd) es4) rfl ?_
  refine zf_istore_n (q := 13) (y := r3) (i := 2) (lv1 := [(2, .int r3), (0, .ref (zad G 0)), (1, .int x1)]) rfl dX8_why_12 rfl (by decide) rfl rfl ?_
  refine zf_iload_n 0 (q := 14) (j := 2) rfl dX8_why_13 rfl rfl ?_
  refine zf_if_eq (q := 17) (tgt := 19) rfl (by decide) dX8_why_14 (fun hc14 => ?_) (fun hc14 => ?_)
  · replace h := (zi h).1 hc14
    refine zf_aload_n 1 (q := 20) (j := 0) rfl dX8_why_19 rfl rfl ?_
    refine zf_getR (q := 23) rfl dX8_why_20 lf_RX8_40 (sc0 hG) rfl ?_
    refine zf_aload_n 1 (q := 24) (j := 0) rfl dX8_why_23 rfl rfl ?_
    refine zf_getR (q := 27) rfl dX8_why_24 lf_RX8_36 (sc0 hG) rfl ?_
    refine zf_iload_n 2 (q := 28) (j := 1) rfl dX8_why_27 rfl rfl ?_
    obtain ⟨r5, s6, es6, h⟩ := zc h
    refine zf_callV (q := 31) (As := [.ref (zad G 12), .int x1]) (rest := []) (st1 := []) rfl dX8_why_28 lv_RX8_166 (sc17 hG) rfl rfl (Nat.le_of_ble_eq_true rfl) (ok_X2_hear hG N (Nat.le_trans (by decide) hd) (wd12 hG) es6) rfl ?_
    refine zf_aload_n 1 (q := 32) (j := 0) rfl dX8_why_31 rfl rfl ?_
    refine zf_getR (q := 35) rfl dX8_why_32 lf_RX8_40 (sc0 hG) rfl ?_
    refine zf_iload_n 2 (q := 36) (j := 1) rfl dX8_why_35 rfl rfl ?_
    obtain ⟨r7, s8, es8, h⟩ := zc h
    refine zf_callV (q := 39) (As := [.int x1]) (rest := []) (st1 := [.int r7]) rfl dX8_why_36 lv_RX8_173 (sc17 hG) rfl rfl (Nat.le_of_ble_eq_true rfl) (ok_X2_needed hG N (Nat.le_trans (by decide) hd) es8) rfl ?_
    cases h
    exact zf_ireturn dX8_why_39 rfl
  · replace h := (zi h).2 hc14
    refine zf_iload_n 0 (q := 18) (j := 2) rfl dX8_why_17 rfl rfl ?_
    cases h
    exact zf_ireturn dX8_why_18 rfl
-- ===== X8_load: NearCopies.load(I)I
def f_X8_load_62 (N : Nat) (rec24 : Int32 → Int32 → Int32 → ZM → Option (Int32 × ZM)) (x1 : Int32) (x3 : Int32) (x4 : Int32) (σ : ZM) : Option (Int32 × ZM) :=
  (some (x4 + (1 : Int32))).bind fun v1 =>
  rec24 x1 x3 v1 σ
set_option maxRecDepth 100000 in
theorem ok_X8_load_62 {G : ZG} (hG : zSH G = shC) (N : Nat) {d : Nat} (hd : 5 ≤ d) {rec24 : Int32 → Int32 → Int32 → ZM → Option (Int32 × ZM)} {res : Int32 × ZM} (hr24 : ∀ (x1 : Int32) (x3 : Int32) (x4 : Int32) (σ : ZM), rec24 x1 x3 x4 σ = some res → zF G MX8_load (d + 1) 24 [(0, .ref (zad G 0)), (1, .int x1), (3, .int x3), (4, .int x4)] [] σ (some (.int res.1)) res.2) {x1 : Int32} {x3 : Int32} {x4 : Int32} {σ : ZM} (h : f_X8_load_62 N rec24 x1 x3 x4 σ = some res) : zF G MX8_load (d + 1) 62 [(0, .ref (zad G 0)), (1, .int x1), (3, .int x3), (4, .int x4)] [] σ (some (.int res.1)) res.2 := by
  unfold f_X8_load_62 at h
  obtain ⟨v1, ev1, h⟩ := zb h
  refine zf_iinc 3 (q := 65) (v := v1) (lv1 := [(4, .int v1), (0, .ref (zad G 0)), (1, .int x1), (3, .int x3)]) rfl dX8_load_62 rfl (by rw [ic1]; exact ev1) (by decide) rfl ?_
  refine zf_goto (tgt := 24) (by decide) dX8_load_65 ?_
  exact zf_sub [1, 2, 3, 0] rfl (hr24 _ _ _ _ h)
def b_X8_load_24 (N : Nat) (rec24 : Int32 → Int32 → Int32 → ZM → Option (Int32 × ZM)) (x1 : Int32) (x3 : Int32) (x4 : Int32) (σ : ZM) : Option (Int32 × ZM) :=
  if (σ.1 1 0) ≤ x4 then
  (some (x3, σ))
  else
  (zbd (f_X2_comesTo N x4 σ) fun r2 s3 =>
  if r2 = x1 then
  ((zald s3 2 10 x4).bind fun v4 =>
  (some (x3 + v4)).bind fun v5 =>
  f_X8_load_62 N rec24 x1 v5 x4 s3)
  else
  (f_X8_load_62 N rec24 x1 x3 x4 s3))
set_option maxRecDepth 100000 in
theorem ok_b_X8_load_24 {G : ZG} (hG : zSH G = shC) (N : Nat) {d : Nat} (hd : 5 ≤ d) {rec24 : Int32 → Int32 → Int32 → ZM → Option (Int32 × ZM)} {res : Int32 × ZM} (hr24 : ∀ (x1 : Int32) (x3 : Int32) (x4 : Int32) (σ : ZM), rec24 x1 x3 x4 σ = some res → zF G MX8_load (d + 1) 24 [(0, .ref (zad G 0)), (1, .int x1), (3, .int x3), (4, .int x4)] [] σ (some (.int res.1)) res.2) {x1 : Int32} {x3 : Int32} {x4 : Int32} {σ : ZM} (h : b_X8_load_24 N rec24 x1 x3 x4 σ = some res) : zF G MX8_load (d + 1) 24 [(0, .ref (zad G 0)), (1, .int x1), (3, .int x3), (4, .int x4)] [] σ (some (.int res.1)) res.2 := by
  unfold b_X8_load_24 at h
  refine zf_iload 3 (q := 26) rfl dX8_load_24 rfl ?_
  refine zf_aload_n 0 (q := 27) (j := 0) rfl dX8_load_26 rfl rfl ?_
  refine zf_getR (q := 30) rfl dX8_load_27 lf_RX8_26 (sc0 hG) rfl ?_
  refine zf_getI (q := 33) rfl dX8_load_30 lf_RX8_70 (sc1 hG) rfl ?_
  refine zf_icmp_ge (q := 36) (tgt := 68) rfl (by decide) dX8_load_33 (fun hc33 => ?_) (fun hc33 => ?_)
  · replace h := (zi h).1 hc33
    refine zf_iload_n 2 (q := 69) (j := 3) rfl dX8_load_68 rfl rfl ?_
    cases h
    exact zf_ireturn dX8_load_69 rfl
  · replace h := (zi h).2 hc33
    refine zf_aload_n 0 (q := 37) (j := 0) rfl dX8_load_36 rfl rfl ?_
    refine zf_getR (q := 40) rfl dX8_load_37 lf_RX8_40 (sc0 hG) rfl ?_
    refine zf_iload 3 (q := 42) rfl dX8_load_40 rfl ?_
    obtain ⟨r2, s3, es3, h⟩ := zc h
    refine zf_callV (q := 45) (As := [.int x4]) (rest := []) (st1 := [.int r2]) rfl dX8_load_42 lv_RX8_151 (sc17 hG) rfl rfl (Nat.le_of_ble_eq_true rfl) (ok_X2_comesTo hG N (Nat.le_trans (by decide) hd) es3) rfl ?_
    refine zf_iload_n 1 (q := 46) (j := 1) rfl dX8_load_45 rfl rfl ?_
    refine zf_icmp_ne (q := 49) (tgt := 62) rfl (by decide) dX8_load_46 (fun hc46 => ?_) (fun hc46 => ?_)
    · replace h := (zi h).2 hc46
      exact zf_sub [0, 1, 2, 3] rfl (ok_X8_load_62 hG N hd hr24 h)
    · replace h := (zi h).1 hc46
      refine zf_iload_n 2 (q := 50) (j := 3) rfl dX8_load_49 rfl rfl ?_
      refine zf_aload_n 0 (q := 51) (j := 0) rfl dX8_load_50 rfl rfl ?_
      refine zf_getR (q := 54) rfl dX8_load_51 lf_RX8_26 (sc0 hG) rfl ?_
      refine zf_getR (q := 57) rfl dX8_load_54 lf_RX8_99 (sc1 hG) rfl ?_
      refine zf_iload 3 (q := 59) rfl dX8_load_57 rfl ?_
      obtain ⟨v4, ev4, h⟩ := zb h
      refine zf_iald (q := 60) rfl dX8_load_59 (sc2 hG) ev4 ?_
      refine zf_iadd (q := 61) rfl dX8_load_60 ?_
      obtain ⟨v5, ev5, h⟩ := zb h
      refine zf_istore_n (q := 62) (y := v5) (i := 3) (lv1 := [(3, .int v5), (0, .ref (zad G 0)), (1, .int x1), (4, .int x4)]) rfl dX8_load_61 rfl (by decide) ev5 rfl ?_
      exact zf_sub [1, 2, 0, 3] rfl (ok_X8_load_62 hG N hd hr24 h)
def f_X8_load_24 (N : Nat) : Nat → Int32 → Int32 → Int32 → ZM → Option (Int32 × ZM)
  | 0, _, _, _, _ => none
  | n + 1, x1, x3, x4, σ => b_X8_load_24 N (f_X8_load_24 N n) x1 x3 x4 σ
theorem ok_X8_load_24 {G : ZG} (hG : zSH G = shC) (N : Nat) {d : Nat} (hd : 5 ≤ d) {res : Int32 × ZM} : ∀ (n : Nat) (x1 : Int32) (x3 : Int32) (x4 : Int32) (σ : ZM), f_X8_load_24 N n x1 x3 x4 σ = some res → zF G MX8_load (d + 1) 24 [(0, .ref (zad G 0)), (1, .int x1), (3, .int x3), (4, .int x4)] [] σ (some (.int res.1)) res.2 := by
  intro n
  induction n with
  | zero => intro x1 x3 x4 σ h; exact absurd h (by simp [f_X8_load_24])
  | succ n ih => intro x1 x3 x4 σ h; rw [f_X8_load_24] at h; exact ok_b_X8_load_24 hG N hd ih h
def f_X8_load (N : Nat) (x1 : Int32) (σ : ZM) : Option (Int32 × ZM) :=
  zbd (f_X7_has N 12 x1 σ) fun r6 s7 =>
  zbd (f_X8_restRefusal N r6 s7) fun r8 s9 =>
  if r8 = 0 then
  (f_X8_load_24 N N x1 (0 : Int32) (0 : Int32) s9)
  else
  (some (r8, s9))
set_option maxRecDepth 100000 in
theorem ok_X8_load {G : ZG} (hG : zSH G = shC) (N : Nat) {d : Nat} (hd : 6 ≤ d) {x1 : Int32} {σ : ZM} {res : Int32 × ZM} (h : f_X8_load N x1 σ = some res) : zCt G d MX8_load [.ref (zad G 0), .int x1] σ (some (.int res.1)) res.2 := by
  obtain ⟨d, rfl⟩ : ∃ k, d = k + 1 := ⟨d - 1, by omega⟩
  have hd : 5 ≤ d := by omega
  refine zct_of (by decide) (Nat.le_of_ble_eq_true rfl) (lv := [(0, .ref (zad G 0)), (1, .int x1)]) rfl ?_
  unfold f_X8_load at h
  refine zf_aload_n 0 (q := 1) (j := 0) rfl dX8_load_0 rfl rfl ?_
  refine zf_aload_n 0 (q := 2) (j := 0) rfl dX8_load_1 rfl rfl ?_
  refine zf_getR (q := 5) rfl dX8_load_2 lf_RX8_36 (sc0 hG) rfl ?_
  refine zf_iload_n 1 (q := 6) (j := 1) rfl dX8_load_5 rfl rfl ?_
  obtain ⟨r6, s7, es7, h⟩ := zc h
  refine zf_callV (q := 9) (As := [.int x1]) (rest := [.ref (zad G 0)]) (st1 := [.int r6, .ref (zad G 0)]) rfl dX8_load_6 lv_RX8_121 (sc12 hG) rfl rfl (Nat.le_of_ble_eq_true rfl) (ok_X7_has hG N (Nat.le_trans (by decide) hd) (wd12 hG) es7) rfl ?_
  obtain ⟨r8, s9, es9, h⟩ := zc h
  refine zf_callV (q := 12) (As := [.int r6]) (rest := []) (st1 := [.int r8]) rfl dX8_load_9 lv_RX8_147 (sc0 hG) rfl rfl (Nat.le_of_ble_eq_true rfl) (ok_X8_restRefusal hG N (Nat.le_trans (by decide) hd) es9) rfl ?_
  refine zf_istore_n (q := 13) (y := r8) (i := 2) (lv1 := [(2, .int r8), (0, .ref (zad G 0)), (1, .int x1)]) rfl dX8_load_12 rfl (by decide) rfl rfl ?_
  refine zf_iload_n 0 (q := 14) (j := 2) rfl dX8_load_13 rfl rfl ?_
  refine zf_if_eq (q := 17) (tgt := 19) rfl (by decide) dX8_load_14 (fun hc14 => ?_) (fun hc14 => ?_)
  · replace h := (zi h).1 hc14
    refine zf_iconst (q := 20) rfl dX8_load_19 ic0 ?_
    refine zf_istore_n (q := 21) (y := (0 : Int32)) (i := 3) (lv1 := [(3, .int (0 : Int32)), (2, .int r8), (0, .ref (zad G 0)), (1, .int x1)]) rfl dX8_load_20 rfl (by decide) rfl rfl ?_
    refine zf_iconst (q := 22) rfl dX8_load_21 ic0 ?_
    refine zf_istore (q := 24) (y := (0 : Int32)) (i := 4) (lv1 := [(4, .int (0 : Int32)), (3, .int (0 : Int32)), (2, .int r8), (0, .ref (zad G 0)), (1, .int x1)]) rfl dX8_load_22 (by decide) rfl rfl ?_
    exact zf_sub [3, 4, 1, 0] rfl (ok_X8_load_24 hG N hd _ _ _ _ _ h)
  · replace h := (zi h).2 hc14
    refine zf_iload_n 0 (q := 18) (j := 2) rfl dX8_load_17 rfl rfl ?_
    cases h
    exact zf_ireturn dX8_load_18 rfl
-- ===== X8_stateIfNone: NearCopies.stateIfNone(I)I
def f_X8_stateIfNone (N : Nat) (x0 : Int32) (σ : ZM) : Option (Int32 × ZM) :=
  if x0 = (-9 : Int32) then
  (some ((-3 : Int32), σ))
  else
  (some (x0, σ))
set_option maxRecDepth 100000 in
theorem ok_X8_stateIfNone {G : ZG} (hG : zSH G = shC) (N : Nat) {d : Nat} (hd : 0 ≤ d) {x0 : Int32} {σ : ZM} {res : Int32 × ZM} (h : f_X8_stateIfNone N x0 σ = some res) : zCt G d MX8_stateIfNone [.int x0] σ (some (.int res.1)) res.2 := by
  refine zct_of (by decide) (Nat.le_of_ble_eq_true rfl) (lv := [(0, .int x0)]) rfl ?_
  unfold f_X8_stateIfNone at h
  refine zf_iload_n 0 (q := 1) (j := 0) rfl dX8_stateIfNone_0 rfl rfl ?_
  refine zf_bipush (q := 3) rfl dX8_stateIfNone_1 bpm9 ?_
  refine zf_icmp_ne (q := 6) (tgt := 11) rfl (by decide) dX8_stateIfNone_3 (fun hc3 => ?_) (fun hc3 => ?_)
  · replace h := (zi h).2 hc3
    refine zf_iload_n 0 (q := 12) (j := 0) rfl dX8_stateIfNone_11 rfl rfl ?_
    cases h
    exact zf_ireturn dX8_stateIfNone_12 rfl
  · replace h := (zi h).1 hc3
    refine zf_bipush (q := 8) rfl dX8_stateIfNone_6 bpm3 ?_
    refine zf_goto (tgt := 12) (by decide) dX8_stateIfNone_8 ?_
    cases h
    exact zf_ireturn dX8_stateIfNone_12 rfl
