-- ===== X0_forget: NearCopies$Cases.forget()V
def f_X0_forget (N : Nat) (σ : ZM) : Option (Unit × ZM) :=
  (zpZ σ 38 15 (1 : Int32)).bind fun s1 =>
  (zpZ s1 38 16 (0 : Int32)).bind fun s2 =>
  some ((), s2)
set_option maxRecDepth 100000 in
theorem ok_X0_forget {G : ZG} (hG : zSH G = shC) (N : Nat) {d : Nat} (hd : 0 ≤ d) {σ : ZM} {res : Unit × ZM} (h : f_X0_forget N σ = some res) : zCt G d MX0_forget [.ref (zad G 38)] σ none res.2 := by
  refine zct_of (by decide) (Nat.le_of_ble_eq_true rfl) (lv := [(0, .ref (zad G 38))]) rfl ?_
  unfold f_X0_forget at h
  refine zf_aload_n 0 (q := 1) (j := 0) rfl dX0_forget_0 rfl rfl ?_
  refine zf_iconst (q := 2) rfl dX0_forget_1 ic1 ?_
  obtain ⟨s1, es1, h⟩ := zb h
  refine zf_putZ (q := 5) rfl dX0_forget_2 lp_RX0_34 (sc38 hG) rfl es1 ?_
  refine zf_aload_n 0 (q := 6) (j := 0) rfl dX0_forget_5 rfl rfl ?_
  refine zf_iconst (q := 7) rfl dX0_forget_6 ic0 ?_
  obtain ⟨s2, es2, h⟩ := zb h
  refine zf_putZ (q := 10) rfl dX0_forget_7 lp_RX0_50 (sc38 hG) rfl es2 ?_
  cases h
  exact zf_return dX0_forget_10 rfl
-- ===== X7_copy: NearCopies$Words.copy(LNearCopies$Words;)V
def b_X7_copy_10 (N : Nat) (w0 : Nat) (w1 : Nat) (rec10 : Int32 → ZM → Option (Unit × ZM)) (x2 : Int32) (σ : ZM) : Option (Unit × ZM) :=
  if (4 : Int32) ≤ x2 then
  (some ((), σ))
  else
  ((zald σ (w1 + 1) 4 x2).bind fun v1 =>
  (zast σ (w0 + 1) 4 x2 v1).bind fun s2 =>
  (zald s2 (w1 + 2) 4 x2).bind fun v3 =>
  (zast s2 (w0 + 2) 4 x2 v3).bind fun s4 =>
  (zald s4 (w1 + 3) 4 x2).bind fun v5 =>
  (zasZ s4 (w0 + 3) 4 x2 v5).bind fun s6 =>
  (zald s6 (w1 + 4) 4 x2).bind fun v7 =>
  (zasZ s6 (w0 + 4) 4 x2 v7).bind fun s8 =>
  (some (x2 + (1 : Int32))).bind fun v9 =>
  rec10 v9 s8)
set_option maxRecDepth 100000 in
theorem ok_b_X7_copy_10 {G : ZG} (hG : zSH G = shC) (N : Nat) {d : Nat} {w0 : Nat} {w1 : Nat} (hw0 : zWd G w0) (hw1 : zWd G w1) {rec10 : Int32 → ZM → Option (Unit × ZM)} {res : Unit × ZM} (hr10 : ∀ (x2 : Int32) (σ : ZM), rec10 x2 σ = some res → zF G MX7_copy d 10 [(0, .ref (zad G w0)), (1, .ref (zad G w1)), (2, .int x2)] [] σ none res.2) {x2 : Int32} {σ : ZM} (h : b_X7_copy_10 N w0 w1 rec10 x2 σ = some res) : zF G MX7_copy d 10 [(0, .ref (zad G w0)), (1, .ref (zad G w1)), (2, .int x2)] [] σ none res.2 := by
  unfold b_X7_copy_10 at h
  refine zf_iload_n 2 (q := 11) (j := 2) rfl dX7_copy_10 rfl rfl ?_
  refine zf_iconst (q := 12) rfl dX7_copy_11 ic4 ?_
  refine zf_icmp_ge (q := 15) (tgt := 69) rfl (by decide) dX7_copy_12 (fun hc12 => ?_) (fun hc12 => ?_)
  · replace h := (zi h).1 hc12
    cases h
    exact zf_return dX7_copy_69 rfl
  · replace h := (zi h).2 hc12
    refine zf_aload_n 0 (q := 16) (j := 0) rfl dX7_copy_15 rfl rfl ?_
    refine zf_getR (q := 19) rfl dX7_copy_16 lf_RX7_9 hw0.1 rfl ?_
    refine zf_iload_n 2 (q := 20) (j := 2) rfl dX7_copy_19 rfl rfl ?_
    refine zf_aload_n 1 (q := 21) (j := 1) rfl dX7_copy_20 rfl rfl ?_
    refine zf_getR (q := 24) rfl dX7_copy_21 lf_RX7_9 hw1.1 rfl ?_
    refine zf_iload_n 2 (q := 25) (j := 2) rfl dX7_copy_24 rfl rfl ?_
    obtain ⟨v1, ev1, h⟩ := zb h
    refine zf_iald (q := 26) rfl dX7_copy_25 hw1.2.1 ev1 ?_
    obtain ⟨s2, es2, h⟩ := zb h
    refine zf_iast (q := 27) rfl dX7_copy_26 hw0.2.1 es2 ?_
    refine zf_aload_n 0 (q := 28) (j := 0) rfl dX7_copy_27 rfl rfl ?_
    refine zf_getR (q := 31) rfl dX7_copy_28 lf_RX7_15 hw0.1 rfl ?_
    refine zf_iload_n 2 (q := 32) (j := 2) rfl dX7_copy_31 rfl rfl ?_
    refine zf_aload_n 1 (q := 33) (j := 1) rfl dX7_copy_32 rfl rfl ?_
    refine zf_getR (q := 36) rfl dX7_copy_33 lf_RX7_15 hw1.1 rfl ?_
    refine zf_iload_n 2 (q := 37) (j := 2) rfl dX7_copy_36 rfl rfl ?_
    obtain ⟨v3, ev3, h⟩ := zb h
    refine zf_iald (q := 38) rfl dX7_copy_37 hw1.2.2.1 ev3 ?_
    obtain ⟨s4, es4, h⟩ := zb h
    refine zf_iast (q := 39) rfl dX7_copy_38 hw0.2.2.1 es4 ?_
    refine zf_aload_n 0 (q := 40) (j := 0) rfl dX7_copy_39 rfl rfl ?_
    refine zf_getR (q := 43) rfl dX7_copy_40 lf_RX7_18 hw0.1 rfl ?_
    refine zf_iload_n 2 (q := 44) (j := 2) rfl dX7_copy_43 rfl rfl ?_
    refine zf_aload_n 1 (q := 45) (j := 1) rfl dX7_copy_44 rfl rfl ?_
    refine zf_getR (q := 48) rfl dX7_copy_45 lf_RX7_18 hw1.1 rfl ?_
    refine zf_iload_n 2 (q := 49) (j := 2) rfl dX7_copy_48 rfl rfl ?_
    obtain ⟨v5, ev5, h⟩ := zb h
    refine zf_zald (q := 50) rfl dX7_copy_49 hw1.2.2.2.1 ev5 ?_
    obtain ⟨s6, es6, h⟩ := zb h
    refine zf_zast (q := 51) rfl dX7_copy_50 hw0.2.2.2.1 es6 ?_
    refine zf_aload_n 0 (q := 52) (j := 0) rfl dX7_copy_51 rfl rfl ?_
    refine zf_getR (q := 55) rfl dX7_copy_52 lf_RX7_22 hw0.1 rfl ?_
    refine zf_iload_n 2 (q := 56) (j := 2) rfl dX7_copy_55 rfl rfl ?_
    refine zf_aload_n 1 (q := 57) (j := 1) rfl dX7_copy_56 rfl rfl ?_
    refine zf_getR (q := 60) rfl dX7_copy_57 lf_RX7_22 hw1.1 rfl ?_
    refine zf_iload_n 2 (q := 61) (j := 2) rfl dX7_copy_60 rfl rfl ?_
    obtain ⟨v7, ev7, h⟩ := zb h
    refine zf_zald (q := 62) rfl dX7_copy_61 hw1.2.2.2.2 ev7 ?_
    obtain ⟨s8, es8, h⟩ := zb h
    refine zf_zast (q := 63) rfl dX7_copy_62 hw0.2.2.2.2 es8 ?_
    obtain ⟨v9, ev9, h⟩ := zb h
    refine zf_iinc 2 (q := 66) (v := v9) (lv1 := [(2, .int v9), (0, .ref (zad G w0)), (1, .ref (zad G w1))]) rfl dX7_copy_63 rfl (by rw [ic1]; exact ev9) (by decide) rfl ?_
    refine zf_goto (tgt := 10) (by decide) dX7_copy_66 ?_
    exact zf_sub [1, 2, 0] rfl (hr10 _ _ h)
def f_X7_copy_10 (N : Nat) (w0 : Nat) (w1 : Nat) : Nat → Int32 → ZM → Option (Unit × ZM)
  | 0, _, _ => none
  | n + 1, x2, σ => b_X7_copy_10 N w0 w1 (f_X7_copy_10 N w0 w1 n) x2 σ
theorem ok_X7_copy_10 {G : ZG} (hG : zSH G = shC) (N : Nat) {d : Nat} {w0 : Nat} {w1 : Nat} (hw0 : zWd G w0) (hw1 : zWd G w1) {res : Unit × ZM} : ∀ (n : Nat) (x2 : Int32) (σ : ZM), f_X7_copy_10 N w0 w1 n x2 σ = some res → zF G MX7_copy d 10 [(0, .ref (zad G w0)), (1, .ref (zad G w1)), (2, .int x2)] [] σ none res.2 := by
  intro n
  induction n with
  | zero => intro x2 σ h; exact absurd h (by simp [f_X7_copy_10])
  | succ n ih => intro x2 σ h; rw [f_X7_copy_10] at h; exact ok_b_X7_copy_10 hG N hw0 hw1 ih h
def f_X7_copy (N : Nat) (w0 : Nat) (w1 : Nat) (σ : ZM) : Option (Unit × ZM) :=
  (zpI σ w0 0 (σ.1 w1 0)).bind fun s10 =>
  f_X7_copy_10 N w0 w1 N (0 : Int32) s10
set_option maxRecDepth 100000 in
theorem ok_X7_copy {G : ZG} (hG : zSH G = shC) (N : Nat) {d : Nat} (hd : 0 ≤ d) {w0 : Nat} {w1 : Nat} (hw0 : zWd G w0) (hw1 : zWd G w1) {σ : ZM} {res : Unit × ZM} (h : f_X7_copy N w0 w1 σ = some res) : zCt G d MX7_copy [.ref (zad G w0), .ref (zad G w1)] σ none res.2 := by
  refine zct_of (by decide) (Nat.le_of_ble_eq_true rfl) (lv := [(0, .ref (zad G w0)), (1, .ref (zad G w1))]) rfl ?_
  unfold f_X7_copy at h
  refine zf_aload_n 0 (q := 1) (j := 0) rfl dX7_copy_0 rfl rfl ?_
  refine zf_aload_n 1 (q := 2) (j := 1) rfl dX7_copy_1 rfl rfl ?_
  refine zf_getI (q := 5) rfl dX7_copy_2 lf_RX7_25 hw1.1 rfl ?_
  obtain ⟨s10, es10, h⟩ := zb h
  refine zf_putI (q := 8) rfl dX7_copy_5 lp_RX7_25 hw0.1 rfl es10 ?_
  refine zf_iconst (q := 9) rfl dX7_copy_8 ic0 ?_
  refine zf_istore_n (q := 10) (y := (0 : Int32)) (i := 2) (lv1 := [(2, .int (0 : Int32)), (0, .ref (zad G w0)), (1, .ref (zad G w1))]) rfl dX7_copy_9 rfl (by decide) rfl rfl ?_
  exact zf_sub [1, 2, 0] rfl (ok_X7_copy_10 hG N hw0 hw1 _ _ _ h)
-- ===== X0_keepTrial: NearCopies$Cases.keepTrial()I
def f_X0_keepTrial (N : Nat) (σ : ZM) : Option (Int32 × ZM) :=
  (zalR ztrl (σ.1 38 5)).bind fun t1 =>
  zbd (f_X7_copy N (t1 + 1) 12 σ) fun r2 s3 =>
  (zpI s3 38 5 ((s3.1 38 5) + (1 : Int32))).bind fun s4 =>
  some (((s4.1 38 5) - (1 : Int32)), s4)
set_option maxRecDepth 100000 in
theorem ok_X0_keepTrial {G : ZG} (hG : zSH G = shC) (N : Nat) {d : Nat} (hd : 1 ≤ d) {σ : ZM} {res : Int32 × ZM} (h : f_X0_keepTrial N σ = some res) : zCt G d MX0_keepTrial [.ref (zad G 38)] σ (some (.int res.1)) res.2 := by
  obtain ⟨d, rfl⟩ : ∃ k, d = k + 1 := ⟨d - 1, by omega⟩
  have hd : 0 ≤ d := by omega
  refine zct_of (by decide) (Nat.le_of_ble_eq_true rfl) (lv := [(0, .ref (zad G 38))]) rfl ?_
  unfold f_X0_keepTrial at h
  refine zf_aload_n 0 (q := 1) (j := 0) rfl dX0_keepTrial_0 rfl rfl ?_
  refine zf_getR (q := 4) rfl dX0_keepTrial_1 lf_RX0_20 (sc38 hG) rfl ?_
  refine zf_aload_n 0 (q := 5) (j := 0) rfl dX0_keepTrial_4 rfl rfl ?_
  refine zf_getI (q := 8) rfl dX0_keepTrial_5 lf_RX0_53 (sc38 hG) rfl ?_
  obtain ⟨t1, et1, h⟩ := zb h
  have ht1 := tr_of hG et1
  refine zf_aald (q := 9) rfl dX0_keepTrial_8 (sc44 hG) et1 ?_
  refine zf_getR (q := 12) rfl dX0_keepTrial_9 lf_RX0_57 ht1.1 rfl ?_
  refine zf_aload_n 0 (q := 13) (j := 0) rfl dX0_keepTrial_12 rfl rfl ?_
  refine zf_getR (q := 16) rfl dX0_keepTrial_13 lf_RX0_42 (sc38 hG) rfl ?_
  obtain ⟨r2, s3, es3, h⟩ := zc h
  refine zf_callV (q := 19) (As := [.ref (zad G 12)]) (rest := []) (st1 := []) rfl dX0_keepTrial_16 lv_RX0_60 ht1.2.1.1 rfl rfl (Nat.le_of_ble_eq_true rfl) (ok_X7_copy hG N (Nat.le_trans (by decide) hd) ht1.2.1 (wd12 hG) es3) rfl ?_
  refine zf_aload_n 0 (q := 20) (j := 0) rfl dX0_keepTrial_19 rfl rfl ?_
  refine zf_dup (q := 21) rfl dX0_keepTrial_20 rfl ?_
  refine zf_getI (q := 24) rfl dX0_keepTrial_21 lf_RX0_53 (sc38 hG) rfl ?_
  refine zf_iconst (q := 25) rfl dX0_keepTrial_24 ic1 ?_
  refine zf_iadd (q := 26) rfl dX0_keepTrial_25 ?_
  obtain ⟨s4, es4, h⟩ := zb h
  refine zf_putI (q := 29) rfl dX0_keepTrial_26 lp_RX0_53 (sc38 hG) rfl es4 ?_
  refine zf_aload_n 0 (q := 30) (j := 0) rfl dX0_keepTrial_29 rfl rfl ?_
  refine zf_getI (q := 33) rfl dX0_keepTrial_30 lf_RX0_53 (sc38 hG) rfl ?_
  refine zf_iconst (q := 34) rfl dX0_keepTrial_33 ic1 ?_
  refine zf_isub (q := 35) rfl dX0_keepTrial_34 ?_
  cases h
  exact zf_ireturn dX0_keepTrial_35 rfl
-- ===== J6_bitCount_0f7a4: java/lang/Integer.bitCount(I)I
def f_J6_bitCount_0f7a4 (N : Nat) (x0 : Int32) (σ : ZM) : Option (Int32 × ZM) :=
  (some (x0 - ((zsrl x0 (1 : Int32)) &&& (1431655765 : Int32)))).bind fun v1 =>
  (some ((v1 &&& (858993459 : Int32)) + ((zsrl v1 (2 : Int32)) &&& (858993459 : Int32)))).bind fun v2 =>
  (some ((v2 + (zsrl v2 (4 : Int32))) &&& (252645135 : Int32))).bind fun v3 =>
  (some (v3 + (zsrl v3 (8 : Int32)))).bind fun v4 =>
  (some (v4 + (zsrl v4 (16 : Int32)))).bind fun v5 =>
  some ((v5 &&& (63 : Int32)), σ)
set_option maxRecDepth 100000 in
theorem ok_J6_bitCount_0f7a4 {G : ZG} (N : Nat) {d : Nat} (hd : 0 ≤ d) {x0 : Int32} {σ : ZM} {res : Int32 × ZM} (h : f_J6_bitCount_0f7a4 N x0 σ = some res) : zCt G d MJ6_bitCount_0f7a4 [.int x0] σ (some (.int res.1)) res.2 := by
  refine zct_of (by decide) (Nat.le_of_ble_eq_true rfl) (lv := [(0, .int x0)]) rfl ?_
  unfold f_J6_bitCount_0f7a4 at h
  refine zf_iload_n 0 (q := 1) (j := 0) rfl dJ6_bitCount_0f7a4_0 rfl rfl ?_
  refine zf_iload_n 0 (q := 2) (j := 0) rfl dJ6_bitCount_0f7a4_1 rfl rfl ?_
  refine zf_iconst (q := 3) rfl dJ6_bitCount_0f7a4_2 ic1 ?_
  refine zf_iushr (q := 4) rfl dJ6_bitCount_0f7a4_3 ?_
  refine zf_ldcw (q := 7) rfl dJ6_bitCount_0f7a4_4 co_RJ6_265 ?_
  refine zf_iand (q := 8) rfl dJ6_bitCount_0f7a4_7 ?_
  refine zf_isub (q := 9) rfl dJ6_bitCount_0f7a4_8 ?_
  obtain ⟨v1, ev1, h⟩ := zb h
  refine zf_istore_n (q := 10) (y := v1) (i := 0) (lv1 := [(0, .int v1)]) rfl dJ6_bitCount_0f7a4_9 rfl (by decide) ev1 rfl ?_
  refine zf_iload_n 0 (q := 11) (j := 0) rfl dJ6_bitCount_0f7a4_10 rfl rfl ?_
  refine zf_ldcw (q := 14) rfl dJ6_bitCount_0f7a4_11 co_RJ6_266 ?_
  refine zf_iand (q := 15) rfl dJ6_bitCount_0f7a4_14 ?_
  refine zf_iload_n 0 (q := 16) (j := 0) rfl dJ6_bitCount_0f7a4_15 rfl rfl ?_
  refine zf_iconst (q := 17) rfl dJ6_bitCount_0f7a4_16 ic2 ?_
  refine zf_iushr (q := 18) rfl dJ6_bitCount_0f7a4_17 ?_
  refine zf_ldcw (q := 21) rfl dJ6_bitCount_0f7a4_18 co_RJ6_266 ?_
  refine zf_iand (q := 22) rfl dJ6_bitCount_0f7a4_21 ?_
  refine zf_iadd (q := 23) rfl dJ6_bitCount_0f7a4_22 ?_
  obtain ⟨v2, ev2, h⟩ := zb h
  refine zf_istore_n (q := 24) (y := v2) (i := 0) (lv1 := [(0, .int v2)]) rfl dJ6_bitCount_0f7a4_23 rfl (by decide) ev2 rfl ?_
  refine zf_iload_n 0 (q := 25) (j := 0) rfl dJ6_bitCount_0f7a4_24 rfl rfl ?_
  refine zf_iload_n 0 (q := 26) (j := 0) rfl dJ6_bitCount_0f7a4_25 rfl rfl ?_
  refine zf_iconst (q := 27) rfl dJ6_bitCount_0f7a4_26 ic4 ?_
  refine zf_iushr (q := 28) rfl dJ6_bitCount_0f7a4_27 ?_
  refine zf_iadd (q := 29) rfl dJ6_bitCount_0f7a4_28 ?_
  refine zf_ldcw (q := 32) rfl dJ6_bitCount_0f7a4_29 co_RJ6_267 ?_
  refine zf_iand (q := 33) rfl dJ6_bitCount_0f7a4_32 ?_
  obtain ⟨v3, ev3, h⟩ := zb h
  refine zf_istore_n (q := 34) (y := v3) (i := 0) (lv1 := [(0, .int v3)]) rfl dJ6_bitCount_0f7a4_33 rfl (by decide) ev3 rfl ?_
  refine zf_iload_n 0 (q := 35) (j := 0) rfl dJ6_bitCount_0f7a4_34 rfl rfl ?_
  refine zf_iload_n 0 (q := 36) (j := 0) rfl dJ6_bitCount_0f7a4_35 rfl rfl ?_
  refine zf_bipush (q := 38) rfl dJ6_bitCount_0f7a4_36 bp8 ?_
  refine zf_iushr (q := 39) rfl dJ6_bitCount_0f7a4_38 ?_
  refine zf_iadd (q := 40) rfl dJ6_bitCount_0f7a4_39 ?_
  obtain ⟨v4, ev4, h⟩ := zb h
  refine zf_istore_n (q := 41) (y := v4) (i := 0) (lv1 := [(0, .int v4)]) rfl dJ6_bitCount_0f7a4_40 rfl (by decide) ev4 rfl ?_
  refine zf_iload_n 0 (q := 42) (j := 0) rfl dJ6_bitCount_0f7a4_41 rfl rfl ?_
  refine zf_iload_n 0 (q := 43) (j := 0) rfl dJ6_bitCount_0f7a4_42 rfl rfl ?_
  refine zf_bipush (q := 45) rfl dJ6_bitCount_0f7a4_43 bp16 ?_
  refine zf_iushr (q := 46) rfl dJ6_bitCount_0f7a4_45 ?_
  refine zf_iadd (q := 47) rfl dJ6_bitCount_0f7a4_46 ?_
  obtain ⟨v5, ev5, h⟩ := zb h
  refine zf_istore_n (q := 48) (y := v5) (i := 0) (lv1 := [(0, .int v5)]) rfl dJ6_bitCount_0f7a4_47 rfl (by decide) ev5 rfl ?_
  refine zf_iload_n 0 (q := 49) (j := 0) rfl dJ6_bitCount_0f7a4_48 rfl rfl ?_
  refine zf_bipush (q := 51) rfl dJ6_bitCount_0f7a4_49 bp63 ?_
  refine zf_iand (q := 52) rfl dJ6_bitCount_0f7a4_51 ?_
  cases h
  exact zf_ireturn dJ6_bitCount_0f7a4_52 rfl
-- ===== X3_caseCount: NearCopies$Nets.caseCount()I
def b_X3_caseCount_4 (N : Nat) (rec4 : Int32 → Int32 → ZM → Option (Int32 × ZM)) (x1 : Int32) (x2 : Int32) (σ : ZM) : Option (Int32 × ZM) :=
  if (σ.1 1 0) ≤ x2 then
  (some (x1, σ))
  else
  ((zald σ 3 10 x2).bind fun v1 =>
  zbd (f_J6_bitCount_0f7a4 N v1 σ) fun r2 s3 =>
  (some (x1 * r2)).bind fun v4 =>
  (some (x2 + (1 : Int32))).bind fun v5 =>
  rec4 v4 v5 s3)
set_option maxRecDepth 100000 in
theorem ok_b_X3_caseCount_4 {G : ZG} (hG : zSH G = shC) (N : Nat) {d : Nat} (hd : 0 ≤ d) {rec4 : Int32 → Int32 → ZM → Option (Int32 × ZM)} {res : Int32 × ZM} (hr4 : ∀ (x1 : Int32) (x2 : Int32) (σ : ZM), rec4 x1 x2 σ = some res → zF G MX3_caseCount (d + 1) 4 [(0, .ref (zad G 1)), (1, .int x1), (2, .int x2)] [] σ (some (.int res.1)) res.2) {x1 : Int32} {x2 : Int32} {σ : ZM} (h : b_X3_caseCount_4 N rec4 x1 x2 σ = some res) : zF G MX3_caseCount (d + 1) 4 [(0, .ref (zad G 1)), (1, .int x1), (2, .int x2)] [] σ (some (.int res.1)) res.2 := by
  unfold b_X3_caseCount_4 at h
  refine zf_iload_n 2 (q := 5) (j := 2) rfl dX3_caseCount_4 rfl rfl ?_
  refine zf_aload_n 0 (q := 6) (j := 0) rfl dX3_caseCount_5 rfl rfl ?_
  refine zf_getI (q := 9) rfl dX3_caseCount_6 lf_RX3_27 (sc1 hG) rfl ?_
  refine zf_icmp_ge (q := 12) (tgt := 30) rfl (by decide) dX3_caseCount_9 (fun hc9 => ?_) (fun hc9 => ?_)
  · replace h := (zi h).1 hc9
    refine zf_iload_n 1 (q := 31) (j := 1) rfl dX3_caseCount_30 rfl rfl ?_
    cases h
    exact zf_ireturn dX3_caseCount_31 rfl
  · replace h := (zi h).2 hc9
    refine zf_iload_n 1 (q := 13) (j := 1) rfl dX3_caseCount_12 rfl rfl ?_
    refine zf_aload_n 0 (q := 14) (j := 0) rfl dX3_caseCount_13 rfl rfl ?_
    refine zf_getR (q := 17) rfl dX3_caseCount_14 lf_RX3_15 (sc1 hG) rfl ?_
    refine zf_iload_n 2 (q := 18) (j := 2) rfl dX3_caseCount_17 rfl rfl ?_
    obtain ⟨v1, ev1, h⟩ := zb h
    refine zf_iald (q := 19) rfl dX3_caseCount_18 (sc3 hG) ev1 ?_
    obtain ⟨r2, s3, es3, h⟩ := zc h
    refine zf_callS (q := 22) (As := [.int v1]) (rest := [.int x1]) (st1 := [.int r2, .int x1]) rfl dX3_caseCount_19 ls_RX3_44 rfl rfl (Nat.le_of_ble_eq_true rfl) (ok_J6_bitCount_0f7a4 N (Nat.le_trans (by decide) hd) es3) rfl ?_
    refine zf_imul (q := 23) rfl dX3_caseCount_22 ?_
    obtain ⟨v4, ev4, h⟩ := zb h
    refine zf_istore_n (q := 24) (y := v4) (i := 1) (lv1 := [(1, .int v4), (0, .ref (zad G 1)), (2, .int x2)]) rfl dX3_caseCount_23 rfl (by decide) ev4 rfl ?_
    obtain ⟨v5, ev5, h⟩ := zb h
    refine zf_iinc 2 (q := 27) (v := v5) (lv1 := [(2, .int v5), (1, .int v4), (0, .ref (zad G 1))]) rfl dX3_caseCount_24 rfl (by rw [ic1]; exact ev5) (by decide) rfl ?_
    refine zf_goto (tgt := 4) (by decide) dX3_caseCount_27 ?_
    exact zf_sub [2, 1, 0] rfl (hr4 _ _ _ h)
def f_X3_caseCount_4 (N : Nat) : Nat → Int32 → Int32 → ZM → Option (Int32 × ZM)
  | 0, _, _, _ => none
  | n + 1, x1, x2, σ => b_X3_caseCount_4 N (f_X3_caseCount_4 N n) x1 x2 σ
theorem ok_X3_caseCount_4 {G : ZG} (hG : zSH G = shC) (N : Nat) {d : Nat} (hd : 0 ≤ d) {res : Int32 × ZM} : ∀ (n : Nat) (x1 : Int32) (x2 : Int32) (σ : ZM), f_X3_caseCount_4 N n x1 x2 σ = some res → zF G MX3_caseCount (d + 1) 4 [(0, .ref (zad G 1)), (1, .int x1), (2, .int x2)] [] σ (some (.int res.1)) res.2 := by
  intro n
  induction n with
  | zero => intro x1 x2 σ h; exact absurd h (by simp [f_X3_caseCount_4])
  | succ n ih => intro x1 x2 σ h; rw [f_X3_caseCount_4] at h; exact ok_b_X3_caseCount_4 hG N hd ih h
def f_X3_caseCount (N : Nat) (σ : ZM) : Option (Int32 × ZM) :=
  f_X3_caseCount_4 N N (1 : Int32) (0 : Int32) σ
set_option maxRecDepth 100000 in
theorem ok_X3_caseCount {G : ZG} (hG : zSH G = shC) (N : Nat) {d : Nat} (hd : 1 ≤ d) {σ : ZM} {res : Int32 × ZM} (h : f_X3_caseCount N σ = some res) : zCt G d MX3_caseCount [.ref (zad G 1)] σ (some (.int res.1)) res.2 := by
  obtain ⟨d, rfl⟩ : ∃ k, d = k + 1 := ⟨d - 1, by omega⟩
  have hd : 0 ≤ d := by omega
  refine zct_of (by decide) (Nat.le_of_ble_eq_true rfl) (lv := [(0, .ref (zad G 1))]) rfl ?_
  unfold f_X3_caseCount at h
  refine zf_iconst (q := 1) rfl dX3_caseCount_0 ic1 ?_
  refine zf_istore_n (q := 2) (y := (1 : Int32)) (i := 1) (lv1 := [(1, .int (1 : Int32)), (0, .ref (zad G 1))]) rfl dX3_caseCount_1 rfl (by decide) rfl rfl ?_
  refine zf_iconst (q := 3) rfl dX3_caseCount_2 ic0 ?_
  refine zf_istore_n (q := 4) (y := (0 : Int32)) (i := 2) (lv1 := [(2, .int (0 : Int32)), (1, .int (1 : Int32)), (0, .ref (zad G 1))]) rfl dX3_caseCount_3 rfl (by decide) rfl rfl ?_
  exact zf_sub [2, 1, 0] rfl (ok_X3_caseCount_4 hG N hd _ _ _ _ h)
-- ===== J6_numberOfTrailingZeros_0f7a4: java/lang/Integer.numberOfTrailingZeros(I)I
def f_J6_numberOfTrailingZeros_0f7a4_74 (N : Nat) (x0 : Int32) (x1 : Int32) (σ : ZM) : Option (Int32 × ZM) :=
  some ((x1 + (zsrl x0 (1 : Int32))), σ)
set_option maxRecDepth 100000 in
theorem ok_J6_numberOfTrailingZeros_0f7a4_74 {G : ZG} (N : Nat) {d : Nat} {res : Int32 × ZM} {x0 : Int32} {x1 : Int32} {σ : ZM} (h : f_J6_numberOfTrailingZeros_0f7a4_74 N x0 x1 σ = some res) : zF G MJ6_numberOfTrailingZeros_0f7a4 d 74 [(0, .int x0), (1, .int x1)] [] σ (some (.int res.1)) res.2 := by
  unfold f_J6_numberOfTrailingZeros_0f7a4_74 at h
  refine zf_iload_n 1 (q := 75) (j := 1) rfl dJ6_numberOfTrailingZeros_0f7a4_74 rfl rfl ?_
  refine zf_iload_n 0 (q := 76) (j := 0) rfl dJ6_numberOfTrailingZeros_0f7a4_75 rfl rfl ?_
  refine zf_iconst (q := 77) rfl dJ6_numberOfTrailingZeros_0f7a4_76 ic1 ?_
  refine zf_iushr (q := 78) rfl dJ6_numberOfTrailingZeros_0f7a4_77 ?_
  refine zf_iadd (q := 79) rfl dJ6_numberOfTrailingZeros_0f7a4_78 ?_
  cases h
  exact zf_ireturn dJ6_numberOfTrailingZeros_0f7a4_79 rfl
def f_J6_numberOfTrailingZeros_0f7a4_62 (N : Nat) (x0 : Int32) (x1 : Int32) (σ : ZM) : Option (Int32 × ZM) :=
  if x0 ≤ (4 : Int32) then
  (f_J6_numberOfTrailingZeros_0f7a4_74 N x0 x1 σ)
  else
  ((some (x1 + (2 : Int32))).bind fun v1 =>
  (some (zsrl x0 (2 : Int32))).bind fun v2 =>
  f_J6_numberOfTrailingZeros_0f7a4_74 N v2 v1 σ)
set_option maxRecDepth 100000 in
theorem ok_J6_numberOfTrailingZeros_0f7a4_62 {G : ZG} (N : Nat) {d : Nat} {res : Int32 × ZM} {x0 : Int32} {x1 : Int32} {σ : ZM} (h : f_J6_numberOfTrailingZeros_0f7a4_62 N x0 x1 σ = some res) : zF G MJ6_numberOfTrailingZeros_0f7a4 d 62 [(0, .int x0), (1, .int x1)] [] σ (some (.int res.1)) res.2 := by
  unfold f_J6_numberOfTrailingZeros_0f7a4_62 at h
  refine zf_iload_n 0 (q := 63) (j := 0) rfl dJ6_numberOfTrailingZeros_0f7a4_62 rfl rfl ?_
  refine zf_iconst (q := 64) rfl dJ6_numberOfTrailingZeros_0f7a4_63 ic4 ?_
  refine zf_icmp_le (q := 67) (tgt := 74) rfl (by decide) dJ6_numberOfTrailingZeros_0f7a4_64 (fun hc64 => ?_) (fun hc64 => ?_)
  · replace h := (zi h).1 hc64
    exact zf_sub [0, 1] rfl (ok_J6_numberOfTrailingZeros_0f7a4_74 N h)
  · replace h := (zi h).2 hc64
    obtain ⟨v1, ev1, h⟩ := zb h
    refine zf_iinc 1 (q := 70) (v := v1) (lv1 := [(1, .int v1), (0, .int x0)]) rfl dJ6_numberOfTrailingZeros_0f7a4_67 rfl (by rw [ic2]; exact ev1) (by decide) rfl ?_
    refine zf_iload_n 1 (q := 71) (j := 0) rfl dJ6_numberOfTrailingZeros_0f7a4_70 rfl rfl ?_
    refine zf_iconst (q := 72) rfl dJ6_numberOfTrailingZeros_0f7a4_71 ic2 ?_
    refine zf_iushr (q := 73) rfl dJ6_numberOfTrailingZeros_0f7a4_72 ?_
    obtain ⟨v2, ev2, h⟩ := zb h
    refine zf_istore_n (q := 74) (y := v2) (i := 0) (lv1 := [(0, .int v2), (1, .int v1)]) rfl dJ6_numberOfTrailingZeros_0f7a4_73 rfl (by decide) ev2 rfl ?_
    exact zf_sub [0, 1] rfl (ok_J6_numberOfTrailingZeros_0f7a4_74 N h)
def f_J6_numberOfTrailingZeros_0f7a4_49 (N : Nat) (x0 : Int32) (x1 : Int32) (σ : ZM) : Option (Int32 × ZM) :=
  if x0 ≤ (16 : Int32) then
  (f_J6_numberOfTrailingZeros_0f7a4_62 N x0 x1 σ)
  else
  ((some (x1 + (4 : Int32))).bind fun v3 =>
  (some (zsrl x0 (4 : Int32))).bind fun v4 =>
  f_J6_numberOfTrailingZeros_0f7a4_62 N v4 v3 σ)
set_option maxRecDepth 100000 in
theorem ok_J6_numberOfTrailingZeros_0f7a4_49 {G : ZG} (N : Nat) {d : Nat} {res : Int32 × ZM} {x0 : Int32} {x1 : Int32} {σ : ZM} (h : f_J6_numberOfTrailingZeros_0f7a4_49 N x0 x1 σ = some res) : zF G MJ6_numberOfTrailingZeros_0f7a4 d 49 [(0, .int x0), (1, .int x1)] [] σ (some (.int res.1)) res.2 := by
  unfold f_J6_numberOfTrailingZeros_0f7a4_49 at h
  refine zf_iload_n 0 (q := 50) (j := 0) rfl dJ6_numberOfTrailingZeros_0f7a4_49 rfl rfl ?_
  refine zf_bipush (q := 52) rfl dJ6_numberOfTrailingZeros_0f7a4_50 bp16 ?_
  refine zf_icmp_le (q := 55) (tgt := 62) rfl (by decide) dJ6_numberOfTrailingZeros_0f7a4_52 (fun hc52 => ?_) (fun hc52 => ?_)
  · replace h := (zi h).1 hc52
    exact zf_sub [0, 1] rfl (ok_J6_numberOfTrailingZeros_0f7a4_62 N h)
  · replace h := (zi h).2 hc52
    obtain ⟨v3, ev3, h⟩ := zb h
    refine zf_iinc 1 (q := 58) (v := v3) (lv1 := [(1, .int v3), (0, .int x0)]) rfl dJ6_numberOfTrailingZeros_0f7a4_55 rfl (by rw [ic4]; exact ev3) (by decide) rfl ?_
    refine zf_iload_n 1 (q := 59) (j := 0) rfl dJ6_numberOfTrailingZeros_0f7a4_58 rfl rfl ?_
    refine zf_iconst (q := 60) rfl dJ6_numberOfTrailingZeros_0f7a4_59 ic4 ?_
    refine zf_iushr (q := 61) rfl dJ6_numberOfTrailingZeros_0f7a4_60 ?_
    obtain ⟨v4, ev4, h⟩ := zb h
    refine zf_istore_n (q := 62) (y := v4) (i := 0) (lv1 := [(0, .int v4), (1, .int v3)]) rfl dJ6_numberOfTrailingZeros_0f7a4_61 rfl (by decide) ev4 rfl ?_
    exact zf_sub [0, 1] rfl (ok_J6_numberOfTrailingZeros_0f7a4_62 N h)
def f_J6_numberOfTrailingZeros_0f7a4_34 (N : Nat) (x0 : Int32) (x1 : Int32) (σ : ZM) : Option (Int32 × ZM) :=
  if x0 ≤ (256 : Int32) then
  (f_J6_numberOfTrailingZeros_0f7a4_49 N x0 x1 σ)
  else
  ((some (x1 + (8 : Int32))).bind fun v5 =>
  (some (zsrl x0 (8 : Int32))).bind fun v6 =>
  f_J6_numberOfTrailingZeros_0f7a4_49 N v6 v5 σ)
set_option maxRecDepth 100000 in
theorem ok_J6_numberOfTrailingZeros_0f7a4_34 {G : ZG} (N : Nat) {d : Nat} {res : Int32 × ZM} {x0 : Int32} {x1 : Int32} {σ : ZM} (h : f_J6_numberOfTrailingZeros_0f7a4_34 N x0 x1 σ = some res) : zF G MJ6_numberOfTrailingZeros_0f7a4 d 34 [(0, .int x0), (1, .int x1)] [] σ (some (.int res.1)) res.2 := by
  unfold f_J6_numberOfTrailingZeros_0f7a4_34 at h
  refine zf_iload_n 0 (q := 35) (j := 0) rfl dJ6_numberOfTrailingZeros_0f7a4_34 rfl rfl ?_
  refine zf_sipush (q := 38) rfl dJ6_numberOfTrailingZeros_0f7a4_35 sp256 ?_
  refine zf_icmp_le (q := 41) (tgt := 49) rfl (by decide) dJ6_numberOfTrailingZeros_0f7a4_38 (fun hc38 => ?_) (fun hc38 => ?_)
  · replace h := (zi h).1 hc38
    exact zf_sub [0, 1] rfl (ok_J6_numberOfTrailingZeros_0f7a4_49 N h)
  · replace h := (zi h).2 hc38
    obtain ⟨v5, ev5, h⟩ := zb h
    refine zf_iinc 1 (q := 44) (v := v5) (lv1 := [(1, .int v5), (0, .int x0)]) rfl dJ6_numberOfTrailingZeros_0f7a4_41 rfl (by rw [ic8]; exact ev5) (by decide) rfl ?_
    refine zf_iload_n 1 (q := 45) (j := 0) rfl dJ6_numberOfTrailingZeros_0f7a4_44 rfl rfl ?_
    refine zf_bipush (q := 47) rfl dJ6_numberOfTrailingZeros_0f7a4_45 bp8 ?_
    refine zf_iushr (q := 48) rfl dJ6_numberOfTrailingZeros_0f7a4_47 ?_
    obtain ⟨v6, ev6, h⟩ := zb h
    refine zf_istore_n (q := 49) (y := v6) (i := 0) (lv1 := [(0, .int v6), (1, .int v5)]) rfl dJ6_numberOfTrailingZeros_0f7a4_48 rfl (by decide) ev6 rfl ?_
    exact zf_sub [0, 1] rfl (ok_J6_numberOfTrailingZeros_0f7a4_49 N h)
def f_J6_numberOfTrailingZeros_0f7a4 (N : Nat) (x0 : Int32) (σ : ZM) : Option (Int32 × ZM) :=
  (some ((x0 ^^^ (-1 : Int32)) &&& (x0 - (1 : Int32)))).bind fun v7 =>
  if 0 < v7 then
  (if v7 ≤ (65536 : Int32) then
  (f_J6_numberOfTrailingZeros_0f7a4_34 N v7 (1 : Int32) σ)
  else
  ((some ((1 : Int32) + (16 : Int32))).bind fun v8 =>
  (some (zsrl v7 (16 : Int32))).bind fun v9 =>
  f_J6_numberOfTrailingZeros_0f7a4_34 N v9 v8 σ))
  else
  (some ((v7 &&& (32 : Int32)), σ))
set_option maxRecDepth 100000 in
theorem ok_J6_numberOfTrailingZeros_0f7a4 {G : ZG} (N : Nat) {d : Nat} (hd : 0 ≤ d) {x0 : Int32} {σ : ZM} {res : Int32 × ZM} (h : f_J6_numberOfTrailingZeros_0f7a4 N x0 σ = some res) : zCt G d MJ6_numberOfTrailingZeros_0f7a4 [.int x0] σ (some (.int res.1)) res.2 := by
  refine zct_of (by decide) (Nat.le_of_ble_eq_true rfl) (lv := [(0, .int x0)]) rfl ?_
  unfold f_J6_numberOfTrailingZeros_0f7a4 at h
  refine zf_iload_n 0 (q := 1) (j := 0) rfl dJ6_numberOfTrailingZeros_0f7a4_0 rfl rfl ?_
  refine zf_iconst (q := 2) rfl dJ6_numberOfTrailingZeros_0f7a4_1 icm1 ?_
  refine zf_ixor (q := 3) rfl dJ6_numberOfTrailingZeros_0f7a4_2 ?_
  refine zf_iload_n 0 (q := 4) (j := 0) rfl dJ6_numberOfTrailingZeros_0f7a4_3 rfl rfl ?_
  refine zf_iconst (q := 5) rfl dJ6_numberOfTrailingZeros_0f7a4_4 ic1 ?_
  refine zf_isub (q := 6) rfl dJ6_numberOfTrailingZeros_0f7a4_5 ?_
  refine zf_iand (q := 7) rfl dJ6_numberOfTrailingZeros_0f7a4_6 ?_
  obtain ⟨v7, ev7, h⟩ := zb h
  refine zf_istore_n (q := 8) (y := v7) (i := 0) (lv1 := [(0, .int v7)]) rfl dJ6_numberOfTrailingZeros_0f7a4_7 rfl (by decide) ev7 rfl ?_
  refine zf_iload_n 0 (q := 9) (j := 0) rfl dJ6_numberOfTrailingZeros_0f7a4_8 rfl rfl ?_
  refine zf_if_gt (q := 12) (tgt := 17) rfl (by decide) dJ6_numberOfTrailingZeros_0f7a4_9 (fun hc9 => ?_) (fun hc9 => ?_)
  · replace h := (zi h).1 hc9
    refine zf_iconst (q := 18) rfl dJ6_numberOfTrailingZeros_0f7a4_17 ic1 ?_
    refine zf_istore_n (q := 19) (y := (1 : Int32)) (i := 1) (lv1 := [(1, .int (1 : Int32)), (0, .int v7)]) rfl dJ6_numberOfTrailingZeros_0f7a4_18 rfl (by decide) rfl rfl ?_
    refine zf_iload_n 1 (q := 20) (j := 0) rfl dJ6_numberOfTrailingZeros_0f7a4_19 rfl rfl ?_
    refine zf_ldcw (q := 23) rfl dJ6_numberOfTrailingZeros_0f7a4_20 co_RJ6_264 ?_
    refine zf_icmp_le (q := 26) (tgt := 34) rfl (by decide) dJ6_numberOfTrailingZeros_0f7a4_23 (fun hc23 => ?_) (fun hc23 => ?_)
    · replace h := (zi h).1 hc23
      exact zf_sub [1, 0] rfl (ok_J6_numberOfTrailingZeros_0f7a4_34 N h)
    · replace h := (zi h).2 hc23
      obtain ⟨v8, ev8, h⟩ := zb h
      refine zf_iinc 0 (q := 29) (v := v8) (lv1 := [(1, .int v8), (0, .int v7)]) rfl dJ6_numberOfTrailingZeros_0f7a4_26 rfl (by rw [ic16]; exact ev8) (by decide) rfl ?_
      refine zf_iload_n 1 (q := 30) (j := 0) rfl dJ6_numberOfTrailingZeros_0f7a4_29 rfl rfl ?_
      refine zf_bipush (q := 32) rfl dJ6_numberOfTrailingZeros_0f7a4_30 bp16 ?_
      refine zf_iushr (q := 33) rfl dJ6_numberOfTrailingZeros_0f7a4_32 ?_
      obtain ⟨v9, ev9, h⟩ := zb h
      refine zf_istore_n (q := 34) (y := v9) (i := 0) (lv1 := [(0, .int v9), (1, .int v8)]) rfl dJ6_numberOfTrailingZeros_0f7a4_33 rfl (by decide) ev9 rfl ?_
      exact zf_sub [0, 1] rfl (ok_J6_numberOfTrailingZeros_0f7a4_34 N h)
  · replace h := (zi h).2 hc9
    refine zf_iload_n 0 (q := 13) (j := 0) rfl dJ6_numberOfTrailingZeros_0f7a4_12 rfl rfl ?_
    refine zf_bipush (q := 15) rfl dJ6_numberOfTrailingZeros_0f7a4_13 bp32 ?_
    refine zf_iand (q := 16) rfl dJ6_numberOfTrailingZeros_0f7a4_15 ?_
    cases h
    exact zf_ireturn dJ6_numberOfTrailingZeros_0f7a4_16 rfl
-- ===== X3_leastRule: NearCopies$Nets.leastRule(I)I
def f_X3_leastRule (N : Nat) (x1 : Int32) (σ : ZM) : Option (Int32 × ZM) :=
  (zald σ 3 10 x1).bind fun v1 =>
  zbd (f_J6_numberOfTrailingZeros_0f7a4 N v1 σ) fun r2 s3 =>
  some (r2, s3)
set_option maxRecDepth 100000 in
theorem ok_X3_leastRule {G : ZG} (hG : zSH G = shC) (N : Nat) {d : Nat} (hd : 1 ≤ d) {x1 : Int32} {σ : ZM} {res : Int32 × ZM} (h : f_X3_leastRule N x1 σ = some res) : zCt G d MX3_leastRule [.ref (zad G 1), .int x1] σ (some (.int res.1)) res.2 := by
  obtain ⟨d, rfl⟩ : ∃ k, d = k + 1 := ⟨d - 1, by omega⟩
  have hd : 0 ≤ d := by omega
  refine zct_of (by decide) (Nat.le_of_ble_eq_true rfl) (lv := [(0, .ref (zad G 1)), (1, .int x1)]) rfl ?_
  unfold f_X3_leastRule at h
  refine zf_aload_n 0 (q := 1) (j := 0) rfl dX3_leastRule_0 rfl rfl ?_
  refine zf_getR (q := 4) rfl dX3_leastRule_1 lf_RX3_15 (sc1 hG) rfl ?_
  refine zf_iload_n 1 (q := 5) (j := 1) rfl dX3_leastRule_4 rfl rfl ?_
  obtain ⟨v1, ev1, h⟩ := zb h
  refine zf_iald (q := 6) rfl dX3_leastRule_5 (sc3 hG) ev1 ?_
  obtain ⟨r2, s3, es3, h⟩ := zc h
  refine zf_callS (q := 9) (As := [.int v1]) (rest := []) (st1 := [.int r2]) rfl dX3_leastRule_6 ls_RX3_38 rfl rfl (Nat.le_of_ble_eq_true rfl) (ok_J6_numberOfTrailingZeros_0f7a4 N (Nat.le_trans (by decide) hd) es3) rfl ?_
  cases h
  exact zf_ireturn dX3_leastRule_9 rfl
-- ===== X2_takeLeastRules: NearCopies$Flow.takeLeastRules()V
def b_X2_takeLeastRules_2 (N : Nat) (rec2 : Int32 → ZM → Option (Unit × ZM)) (x1 : Int32) (σ : ZM) : Option (Unit × ZM) :=
  if (σ.1 1 0) ≤ x1 then
  (some ((), σ))
  else
  (zbd (f_X3_leastRule N x1 σ) fun r1 s2 =>
  (zast s2 18 10 x1 r1).bind fun s3 =>
  (some (x1 + (1 : Int32))).bind fun v4 =>
  rec2 v4 s3)
set_option maxRecDepth 100000 in
theorem ok_b_X2_takeLeastRules_2 {G : ZG} (hG : zSH G = shC) (N : Nat) {d : Nat} (hd : 1 ≤ d) {rec2 : Int32 → ZM → Option (Unit × ZM)} {res : Unit × ZM} (hr2 : ∀ (x1 : Int32) (σ : ZM), rec2 x1 σ = some res → zF G MX2_takeLeastRules (d + 1) 2 [(0, .ref (zad G 17)), (1, .int x1)] [] σ none res.2) {x1 : Int32} {σ : ZM} (h : b_X2_takeLeastRules_2 N rec2 x1 σ = some res) : zF G MX2_takeLeastRules (d + 1) 2 [(0, .ref (zad G 17)), (1, .int x1)] [] σ none res.2 := by
  unfold b_X2_takeLeastRules_2 at h
  refine zf_iload_n 1 (q := 3) (j := 1) rfl dX2_takeLeastRules_2 rfl rfl ?_
  refine zf_aload_n 0 (q := 4) (j := 0) rfl dX2_takeLeastRules_3 rfl rfl ?_
  refine zf_getR (q := 7) rfl dX2_takeLeastRules_4 lf_RX2_28 (sc17 hG) rfl ?_
  refine zf_getI (q := 10) rfl dX2_takeLeastRules_7 lf_RX2_44 (sc1 hG) rfl ?_
  refine zf_icmp_ge (q := 13) (tgt := 33) rfl (by decide) dX2_takeLeastRules_10 (fun hc10 => ?_) (fun hc10 => ?_)
  · replace h := (zi h).1 hc10
    cases h
    exact zf_return dX2_takeLeastRules_33 rfl
  · replace h := (zi h).2 hc10
    refine zf_aload_n 0 (q := 14) (j := 0) rfl dX2_takeLeastRules_13 rfl rfl ?_
    refine zf_getR (q := 17) rfl dX2_takeLeastRules_14 lf_RX2_9 (sc17 hG) rfl ?_
    refine zf_iload_n 1 (q := 18) (j := 1) rfl dX2_takeLeastRules_17 rfl rfl ?_
    refine zf_aload_n 0 (q := 19) (j := 0) rfl dX2_takeLeastRules_18 rfl rfl ?_
    refine zf_getR (q := 22) rfl dX2_takeLeastRules_19 lf_RX2_28 (sc17 hG) rfl ?_
    refine zf_iload_n 1 (q := 23) (j := 1) rfl dX2_takeLeastRules_22 rfl rfl ?_
    obtain ⟨r1, s2, es2, h⟩ := zc h
    refine zf_callV (q := 26) (As := [.int x1]) (rest := [.int x1, .ref (zad G 18)]) (st1 := [.int r1, .int x1, .ref (zad G 18)]) rfl dX2_takeLeastRules_23 lv_RX2_50 (sc1 hG) rfl rfl (Nat.le_of_ble_eq_true rfl) (ok_X3_leastRule hG N (Nat.le_trans (by decide) hd) es2) rfl ?_
    obtain ⟨s3, es3, h⟩ := zb h
    refine zf_iast (q := 27) rfl dX2_takeLeastRules_26 (sc18 hG) es3 ?_
    obtain ⟨v4, ev4, h⟩ := zb h
    refine zf_iinc 1 (q := 30) (v := v4) (lv1 := [(1, .int v4), (0, .ref (zad G 17))]) rfl dX2_takeLeastRules_27 rfl (by rw [ic1]; exact ev4) (by decide) rfl ?_
    refine zf_goto (tgt := 2) (by decide) dX2_takeLeastRules_30 ?_
    exact zf_sub [1, 0] rfl (hr2 _ _ h)
def f_X2_takeLeastRules_2 (N : Nat) : Nat → Int32 → ZM → Option (Unit × ZM)
  | 0, _, _ => none
  | n + 1, x1, σ => b_X2_takeLeastRules_2 N (f_X2_takeLeastRules_2 N n) x1 σ
theorem ok_X2_takeLeastRules_2 {G : ZG} (hG : zSH G = shC) (N : Nat) {d : Nat} (hd : 1 ≤ d) {res : Unit × ZM} : ∀ (n : Nat) (x1 : Int32) (σ : ZM), f_X2_takeLeastRules_2 N n x1 σ = some res → zF G MX2_takeLeastRules (d + 1) 2 [(0, .ref (zad G 17)), (1, .int x1)] [] σ none res.2 := by
  intro n
  induction n with
  | zero => intro x1 σ h; exact absurd h (by simp [f_X2_takeLeastRules_2])
  | succ n ih => intro x1 σ h; rw [f_X2_takeLeastRules_2] at h; exact ok_b_X2_takeLeastRules_2 hG N hd ih h
def f_X2_takeLeastRules (N : Nat) (σ : ZM) : Option (Unit × ZM) :=
  f_X2_takeLeastRules_2 N N (0 : Int32) σ
set_option maxRecDepth 100000 in
theorem ok_X2_takeLeastRules {G : ZG} (hG : zSH G = shC) (N : Nat) {d : Nat} (hd : 2 ≤ d) {σ : ZM} {res : Unit × ZM} (h : f_X2_takeLeastRules N σ = some res) : zCt G d MX2_takeLeastRules [.ref (zad G 17)] σ none res.2 := by
  obtain ⟨d, rfl⟩ : ∃ k, d = k + 1 := ⟨d - 1, by omega⟩
  have hd : 1 ≤ d := by omega
  refine zct_of (by decide) (Nat.le_of_ble_eq_true rfl) (lv := [(0, .ref (zad G 17))]) rfl ?_
  unfold f_X2_takeLeastRules at h
  refine zf_iconst (q := 1) rfl dX2_takeLeastRules_0 ic0 ?_
  refine zf_istore_n (q := 2) (y := (0 : Int32)) (i := 1) (lv1 := [(1, .int (0 : Int32)), (0, .ref (zad G 17))]) rfl dX2_takeLeastRules_1 rfl (by decide) rfl rfl ?_
  exact zf_sub [1, 0] rfl (ok_X2_takeLeastRules_2 hG N hd _ _ _ h)
-- ===== X6_isSeen: NearCopies$Trial.isSeen()Z
def b_X6_isSeen_2 (N : Nat) (t0 : Nat) (rec2 : Int32 → ZM → Option (Int32 × ZM)) (x1 : Int32) (σ : ZM) : Option (Int32 × ZM) :=
  if (10 : Int32) ≤ x1 then
  (some ((0 : Int32), σ))
  else
  ((zald σ (t0 + 6) 10 x1).bind fun v1 =>
  if v1 = (4 : Int32) then
  ((some (x1 + (1 : Int32))).bind fun v2 =>
  rec2 v2 σ)
  else
  (some ((1 : Int32), σ)))
set_option maxRecDepth 100000 in
theorem ok_b_X6_isSeen_2 {G : ZG} (hG : zSH G = shC) (N : Nat) {d : Nat} {t0 : Nat} (ht0 : zTr G t0) {rec2 : Int32 → ZM → Option (Int32 × ZM)} {res : Int32 × ZM} (hr2 : ∀ (x1 : Int32) (σ : ZM), rec2 x1 σ = some res → zF G MX6_isSeen d 2 [(0, .ref (zad G t0)), (1, .int x1)] [] σ (some (.int res.1)) res.2) {x1 : Int32} {σ : ZM} (h : b_X6_isSeen_2 N t0 rec2 x1 σ = some res) : zF G MX6_isSeen d 2 [(0, .ref (zad G t0)), (1, .int x1)] [] σ (some (.int res.1)) res.2 := by
  unfold b_X6_isSeen_2 at h
  refine zf_iload_n 1 (q := 3) (j := 1) rfl dX6_isSeen_2 rfl rfl ?_
  refine zf_bipush (q := 5) rfl dX6_isSeen_3 bp10 ?_
  refine zf_icmp_ge (q := 8) (tgt := 26) rfl (by decide) dX6_isSeen_5 (fun hc5 => ?_) (fun hc5 => ?_)
  · replace h := (zi h).1 hc5
    refine zf_iconst (q := 27) rfl dX6_isSeen_26 ic0 ?_
    cases h
    exact zf_zreturn dX6_isSeen_27 rfl (Or.inl rfl)
  · replace h := (zi h).2 hc5
    refine zf_aload_n 0 (q := 9) (j := 0) rfl dX6_isSeen_8 rfl rfl ?_
    refine zf_getR (q := 12) rfl dX6_isSeen_9 lf_RX6_18 ht0.1 rfl ?_
    refine zf_iload_n 1 (q := 13) (j := 1) rfl dX6_isSeen_12 rfl rfl ?_
    obtain ⟨v1, ev1, h⟩ := zb h
    refine zf_iald (q := 14) rfl dX6_isSeen_13 ht0.2.2 ev1 ?_
    refine zf_iconst (q := 15) rfl dX6_isSeen_14 ic4 ?_
    refine zf_icmp_eq (q := 18) (tgt := 20) rfl (by decide) dX6_isSeen_15 (fun hc15 => ?_) (fun hc15 => ?_)
    · replace h := (zi h).1 hc15
      obtain ⟨v2, ev2, h⟩ := zb h
      refine zf_iinc 1 (q := 23) (v := v2) (lv1 := [(1, .int v2), (0, .ref (zad G t0))]) rfl dX6_isSeen_20 rfl (by rw [ic1]; exact ev2) (by decide) rfl ?_
      refine zf_goto (tgt := 2) (by decide) dX6_isSeen_23 ?_
      exact zf_sub [1, 0] rfl (hr2 _ _ h)
    · replace h := (zi h).2 hc15
      refine zf_iconst (q := 19) rfl dX6_isSeen_18 ic1 ?_
      cases h
      exact zf_zreturn dX6_isSeen_19 rfl (Or.inr rfl)
def f_X6_isSeen_2 (N : Nat) (t0 : Nat) : Nat → Int32 → ZM → Option (Int32 × ZM)
  | 0, _, _ => none
  | n + 1, x1, σ => b_X6_isSeen_2 N t0 (f_X6_isSeen_2 N t0 n) x1 σ
theorem ok_X6_isSeen_2 {G : ZG} (hG : zSH G = shC) (N : Nat) {d : Nat} {t0 : Nat} (ht0 : zTr G t0) {res : Int32 × ZM} : ∀ (n : Nat) (x1 : Int32) (σ : ZM), f_X6_isSeen_2 N t0 n x1 σ = some res → zF G MX6_isSeen d 2 [(0, .ref (zad G t0)), (1, .int x1)] [] σ (some (.int res.1)) res.2 := by
  intro n
  induction n with
  | zero => intro x1 σ h; exact absurd h (by simp [f_X6_isSeen_2])
  | succ n ih => intro x1 σ h; rw [f_X6_isSeen_2] at h; exact ok_b_X6_isSeen_2 hG N ht0 ih h
def f_X6_isSeen (N : Nat) (t0 : Nat) (σ : ZM) : Option (Int32 × ZM) :=
  f_X6_isSeen_2 N t0 N (0 : Int32) σ
set_option maxRecDepth 100000 in
theorem ok_X6_isSeen {G : ZG} (hG : zSH G = shC) (N : Nat) {d : Nat} (hd : 0 ≤ d) {t0 : Nat} (ht0 : zTr G t0) {σ : ZM} {res : Int32 × ZM} (h : f_X6_isSeen N t0 σ = some res) : zCt G d MX6_isSeen [.ref (zad G t0)] σ (some (.int res.1)) res.2 := by
  refine zct_of (by decide) (Nat.le_of_ble_eq_true rfl) (lv := [(0, .ref (zad G t0))]) rfl ?_
  unfold f_X6_isSeen at h
  refine zf_iconst (q := 1) rfl dX6_isSeen_0 ic0 ?_
  refine zf_istore_n (q := 2) (y := (0 : Int32)) (i := 1) (lv1 := [(1, .int (0 : Int32)), (0, .ref (zad G t0))]) rfl dX6_isSeen_1 rfl (by decide) rfl rfl ?_
  exact zf_sub [1, 0] rfl (ok_X6_isSeen_2 hG N ht0 _ _ _ h)
-- ===== J7_fill_d0a16: java/util/Arrays.fill([JJ)V
def b_J7_fill_d0a16_6 (N : Nat) (a0 : Nat) (n0 : Nat) (rec6 : Int64 → Int32 → Int32 → ZM → Option (Unit × ZM)) (x1 : Int64) (x3 : Int32) (x4 : Int32) (σ : ZM) : Option (Unit × ZM) :=
  if x4 ≤ x3 then
  (some ((), σ))
  else
  ((zasJ σ a0 n0 x3 x1).bind fun s1 =>
  (some (x3 + (1 : Int32))).bind fun v2 =>
  rec6 x1 v2 x4 s1)
set_option maxRecDepth 100000 in
theorem ok_b_J7_fill_d0a16_6 {G : ZG} (N : Nat) {d : Nat} {a0 : Nat} {n0 : Nat} (ha0 : (zSH G)[a0]? = some (.inr (.inl (2, n0)))) {rec6 : Int64 → Int32 → Int32 → ZM → Option (Unit × ZM)} {res : Unit × ZM} (hr6 : ∀ (x1 : Int64) (x3 : Int32) (x4 : Int32) (σ : ZM), rec6 x1 x3 x4 σ = some res → zF G MJ7_fill_d0a16 d 6 [(0, .ref (zad G a0)), (1, .long x1), (3, .int x3), (4, .int x4)] [] σ none res.2) {x1 : Int64} {x3 : Int32} {x4 : Int32} {σ : ZM} (h : b_J7_fill_d0a16_6 N a0 n0 rec6 x1 x3 x4 σ = some res) : zF G MJ7_fill_d0a16 d 6 [(0, .ref (zad G a0)), (1, .long x1), (3, .int x3), (4, .int x4)] [] σ none res.2 := by
  unfold b_J7_fill_d0a16_6 at h
  refine zf_iload_n 2 (q := 7) (j := 3) rfl dJ7_fill_d0a16_6 rfl rfl ?_
  refine zf_iload 3 (q := 9) rfl dJ7_fill_d0a16_7 rfl ?_
  refine zf_icmp_ge (q := 12) (tgt := 22) rfl (by decide) dJ7_fill_d0a16_9 (fun hc9 => ?_) (fun hc9 => ?_)
  · replace h := (zi h).1 hc9
    cases h
    exact zf_return dJ7_fill_d0a16_22 rfl
  · replace h := (zi h).2 hc9
    refine zf_aload_n 0 (q := 13) (j := 0) rfl dJ7_fill_d0a16_12 rfl rfl ?_
    refine zf_iload_n 2 (q := 14) (j := 3) rfl dJ7_fill_d0a16_13 rfl rfl ?_
    refine zf_lload_n 1 (q := 15) (j := 1) rfl dJ7_fill_d0a16_14 rfl rfl ?_
    obtain ⟨s1, es1, h⟩ := zb h
    refine zf_last (q := 16) rfl dJ7_fill_d0a16_15 ha0 es1 ?_
    obtain ⟨v2, ev2, h⟩ := zb h
    refine zf_iinc 2 (q := 19) (v := v2) (lv1 := [(3, .int v2), (0, .ref (zad G a0)), (1, .long x1), (4, .int x4)]) rfl dJ7_fill_d0a16_16 rfl (by rw [ic1]; exact ev2) (by decide) rfl ?_
    refine zf_goto (tgt := 6) (by decide) dJ7_fill_d0a16_19 ?_
    exact zf_sub [1, 2, 0, 3] rfl (hr6 _ _ _ _ h)
def f_J7_fill_d0a16_6 (N : Nat) (a0 : Nat) (n0 : Nat) : Nat → Int64 → Int32 → Int32 → ZM → Option (Unit × ZM)
  | 0, _, _, _, _ => none
  | n + 1, x1, x3, x4, σ => b_J7_fill_d0a16_6 N a0 n0 (f_J7_fill_d0a16_6 N a0 n0 n) x1 x3 x4 σ
theorem ok_J7_fill_d0a16_6 {G : ZG} (N : Nat) {d : Nat} {a0 : Nat} {n0 : Nat} (ha0 : (zSH G)[a0]? = some (.inr (.inl (2, n0)))) {res : Unit × ZM} : ∀ (n : Nat) (x1 : Int64) (x3 : Int32) (x4 : Int32) (σ : ZM), f_J7_fill_d0a16_6 N a0 n0 n x1 x3 x4 σ = some res → zF G MJ7_fill_d0a16 d 6 [(0, .ref (zad G a0)), (1, .long x1), (3, .int x3), (4, .int x4)] [] σ none res.2 := by
  intro n
  induction n with
  | zero => intro x1 x3 x4 σ h; exact absurd h (by simp [f_J7_fill_d0a16_6])
  | succ n ih => intro x1 x3 x4 σ h; rw [f_J7_fill_d0a16_6] at h; exact ok_b_J7_fill_d0a16_6 N ha0 ih h
def f_J7_fill_d0a16 (N : Nat) (a0 : Nat) (n0 : Nat) (x1 : Int64) (σ : ZM) : Option (Unit × ZM) :=
  (some (Int32.ofNat n0)).bind fun v3 =>
  f_J7_fill_d0a16_6 N a0 n0 N x1 (0 : Int32) v3 σ
set_option maxRecDepth 100000 in
theorem ok_J7_fill_d0a16 {G : ZG} (N : Nat) {d : Nat} (hd : 0 ≤ d) {a0 : Nat} {n0 : Nat} (ha0 : (zSH G)[a0]? = some (.inr (.inl (2, n0)))) {x1 : Int64} {σ : ZM} {res : Unit × ZM} (h : f_J7_fill_d0a16 N a0 n0 x1 σ = some res) : zCt G d MJ7_fill_d0a16 [.ref (zad G a0), .long x1] σ none res.2 := by
  refine zct_of (by decide) (Nat.le_of_ble_eq_true rfl) (lv := [(0, .ref (zad G a0)), (1, .long x1)]) rfl ?_
  unfold f_J7_fill_d0a16 at h
  refine zf_iconst (q := 1) rfl dJ7_fill_d0a16_0 ic0 ?_
  refine zf_istore_n (q := 2) (y := (0 : Int32)) (i := 3) (lv1 := [(3, .int (0 : Int32)), (0, .ref (zad G a0)), (1, .long x1)]) rfl dJ7_fill_d0a16_1 rfl (by decide) rfl rfl ?_
  refine zf_aload_n 1 (q := 3) (j := 0) rfl dJ7_fill_d0a16_2 rfl rfl ?_
  refine zf_alen (q := 4) rfl dJ7_fill_d0a16_3 ha0 (by decide) rfl ?_
  obtain ⟨v3, ev3, h⟩ := zb h
  refine zf_istore (q := 6) (y := v3) (i := 4) (lv1 := [(4, .int v3), (3, .int (0 : Int32)), (0, .ref (zad G a0)), (1, .long x1)]) rfl dJ7_fill_d0a16_4 (by decide) ev3 rfl ?_
  exact zf_sub [2, 3, 1, 0] rfl (ok_J7_fill_d0a16_6 N ha0 _ _ _ _ _ h)
-- ===== X3_everyone: NearCopies$Nets.everyone()I
def f_X3_everyone (N : Nat) (σ : ZM) : Option (Int32 × ZM) :=
  some ((((1 : Int32) <<< ((σ.1 1 0) &&& 31)) - (1 : Int32)), σ)
set_option maxRecDepth 100000 in
theorem ok_X3_everyone {G : ZG} (hG : zSH G = shC) (N : Nat) {d : Nat} (hd : 0 ≤ d) {σ : ZM} {res : Int32 × ZM} (h : f_X3_everyone N σ = some res) : zCt G d MX3_everyone [.ref (zad G 1)] σ (some (.int res.1)) res.2 := by
  refine zct_of (by decide) (Nat.le_of_ble_eq_true rfl) (lv := [(0, .ref (zad G 1))]) rfl ?_
  unfold f_X3_everyone at h
  refine zf_iconst (q := 1) rfl dX3_everyone_0 ic1 ?_
  refine zf_aload_n 0 (q := 2) (j := 0) rfl dX3_everyone_1 rfl rfl ?_
  refine zf_getI (q := 5) rfl dX3_everyone_2 lf_RX3_27 (sc1 hG) rfl ?_
  refine zf_ishl (q := 6) rfl dX3_everyone_5 ?_
  refine zf_iconst (q := 7) rfl dX3_everyone_6 ic1 ?_
  refine zf_isub (q := 8) rfl dX3_everyone_7 ?_
  cases h
  exact zf_ireturn dX3_everyone_8 rfl
-- ===== X7_isSaid: NearCopies$Words.isSaid(I)Z
def f_X7_isSaid (N : Nat) (w0 : Nat) (x1 : Int32) (σ : ZM) : Option (Int32 × ZM) :=
  if (σ.1 w0 0) ≤ x1 then
  (some ((0 : Int32), σ))
  else
  ((zald σ (w0 + 4) 4 x1).bind fun v1 =>
  if v1 = 0 then
  (some ((0 : Int32), σ))
  else
  ((zald σ (w0 + 1) 4 x1).bind fun v2 =>
  if v2 = (4 : Int32) then
  (some ((0 : Int32), σ))
  else
  (some ((1 : Int32), σ))))
set_option maxRecDepth 100000 in
theorem ok_X7_isSaid {G : ZG} (hG : zSH G = shC) (N : Nat) {d : Nat} (hd : 0 ≤ d) {w0 : Nat} (hw0 : zWd G w0) {x1 : Int32} {σ : ZM} {res : Int32 × ZM} (h : f_X7_isSaid N w0 x1 σ = some res) : zCt G d MX7_isSaid [.ref (zad G w0), .int x1] σ (some (.int res.1)) res.2 := by
  refine zct_of (by decide) (Nat.le_of_ble_eq_true rfl) (lv := [(0, .ref (zad G w0)), (1, .int x1)]) rfl ?_
  unfold f_X7_isSaid at h
  refine zf_iload_n 1 (q := 1) (j := 1) rfl dX7_isSaid_0 rfl rfl ?_
  refine zf_aload_n 0 (q := 2) (j := 0) rfl dX7_isSaid_1 rfl rfl ?_
  refine zf_getI (q := 5) rfl dX7_isSaid_2 lf_RX7_25 hw0.1 rfl ?_
  refine zf_icmp_ge (q := 8) (tgt := 31) rfl (by decide) dX7_isSaid_5 (fun hc5 => ?_) (fun hc5 => ?_)
  · replace h := (zi h).1 hc5
    refine zf_iconst (q := 32) rfl dX7_isSaid_31 ic0 ?_
    cases h
    exact zf_zreturn dX7_isSaid_32 rfl (Or.inl rfl)
  · replace h := (zi h).2 hc5
    refine zf_aload_n 0 (q := 9) (j := 0) rfl dX7_isSaid_8 rfl rfl ?_
    refine zf_getR (q := 12) rfl dX7_isSaid_9 lf_RX7_22 hw0.1 rfl ?_
    refine zf_iload_n 1 (q := 13) (j := 1) rfl dX7_isSaid_12 rfl rfl ?_
    obtain ⟨v1, ev1, h⟩ := zb h
    refine zf_zald (q := 14) rfl dX7_isSaid_13 hw0.2.2.2.2 ev1 ?_
    refine zf_if_eq (q := 17) (tgt := 31) rfl (by decide) dX7_isSaid_14 (fun hc14 => ?_) (fun hc14 => ?_)
    · replace h := (zi h).1 hc14
      refine zf_iconst (q := 32) rfl dX7_isSaid_31 ic0 ?_
      cases h
      exact zf_zreturn dX7_isSaid_32 rfl (Or.inl rfl)
    · replace h := (zi h).2 hc14
      refine zf_aload_n 0 (q := 18) (j := 0) rfl dX7_isSaid_17 rfl rfl ?_
      refine zf_getR (q := 21) rfl dX7_isSaid_18 lf_RX7_9 hw0.1 rfl ?_
      refine zf_iload_n 1 (q := 22) (j := 1) rfl dX7_isSaid_21 rfl rfl ?_
      obtain ⟨v2, ev2, h⟩ := zb h
      refine zf_iald (q := 23) rfl dX7_isSaid_22 hw0.2.1 ev2 ?_
      refine zf_iconst (q := 24) rfl dX7_isSaid_23 ic4 ?_
      refine zf_icmp_eq (q := 27) (tgt := 31) rfl (by decide) dX7_isSaid_24 (fun hc24 => ?_) (fun hc24 => ?_)
      · replace h := (zi h).1 hc24
        refine zf_iconst (q := 32) rfl dX7_isSaid_31 ic0 ?_
        cases h
        exact zf_zreturn dX7_isSaid_32 rfl (Or.inl rfl)
      · replace h := (zi h).2 hc24
        refine zf_iconst (q := 28) rfl dX7_isSaid_27 ic1 ?_
        refine zf_goto (tgt := 32) (by decide) dX7_isSaid_28 ?_
        cases h
        exact zf_zreturn dX7_isSaid_32 rfl (Or.inr rfl)
-- ===== X2_ofSite: NearCopies$Flow.ofSite(III)J
def f_X2_ofSite (N : Nat) (x0 : Int32) (x1 : Int32) (x2 : Int32) (σ : ZM) : Option (Int64 × ZM) :=
  some ((((((Int32.toInt64 x2) + (1 : Int64)) ||| (zshlJ ((Int32.toInt64 x0) + (1 : Int64)) (40 : Int32))) ||| (zshlJ ((Int32.toInt64 x1) + (1 : Int64)) (44 : Int32))) ||| (zshlJ (1 : Int64) ((48 : Int32) + x2))), σ)
set_option maxRecDepth 100000 in
theorem ok_X2_ofSite {G : ZG} (hG : zSH G = shC) (N : Nat) {d : Nat} (hd : 0 ≤ d) {x0 : Int32} {x1 : Int32} {x2 : Int32} {σ : ZM} {res : Int64 × ZM} (h : f_X2_ofSite N x0 x1 x2 σ = some res) : zCt G d MX2_ofSite [.int x0, .int x1, .int x2] σ (some (.long res.1)) res.2 := by
  refine zct_of (by decide) (Nat.le_of_ble_eq_true rfl) (lv := [(0, .int x0), (1, .int x1), (2, .int x2)]) rfl ?_
  unfold f_X2_ofSite at h
  refine zf_iload_n 2 (q := 1) (j := 2) rfl dX2_ofSite_0 rfl rfl ?_
  refine zf_i2l (q := 2) rfl dX2_ofSite_1 ?_
  refine zf_lconst (q := 3) (v := 1) rfl dX2_ofSite_2 (by decide) ?_
  refine zf_ladd (q := 4) rfl dX2_ofSite_3 ?_
  refine zf_iload_n 0 (q := 5) (j := 0) rfl dX2_ofSite_4 rfl rfl ?_
  refine zf_i2l (q := 6) rfl dX2_ofSite_5 ?_
  refine zf_lconst (q := 7) (v := 1) rfl dX2_ofSite_6 (by decide) ?_
  refine zf_ladd (q := 8) rfl dX2_ofSite_7 ?_
  refine zf_bipush (q := 10) rfl dX2_ofSite_8 bp40 ?_
  refine zf_lshl (q := 11) rfl dX2_ofSite_10 ?_
  refine zf_lor (q := 12) rfl dX2_ofSite_11 ?_
  refine zf_iload_n 1 (q := 13) (j := 1) rfl dX2_ofSite_12 rfl rfl ?_
  refine zf_i2l (q := 14) rfl dX2_ofSite_13 ?_
  refine zf_lconst (q := 15) (v := 1) rfl dX2_ofSite_14 (by decide) ?_
  refine zf_ladd (q := 16) rfl dX2_ofSite_15 ?_
  refine zf_bipush (q := 18) rfl dX2_ofSite_16 bp44 ?_
  refine zf_lshl (q := 19) rfl dX2_ofSite_18 ?_
  refine zf_lor (q := 20) rfl dX2_ofSite_19 ?_
  refine zf_lconst (q := 21) (v := 1) rfl dX2_ofSite_20 (by decide) ?_
  refine zf_bipush (q := 23) rfl dX2_ofSite_21 bp48 ?_
  refine zf_iload_n 2 (q := 24) (j := 2) rfl dX2_ofSite_23 rfl rfl ?_
  refine zf_iadd (q := 25) rfl dX2_ofSite_24 ?_
  refine zf_lshl (q := 26) rfl dX2_ofSite_25 ?_
  refine zf_lor (q := 27) rfl dX2_ofSite_26 ?_
  cases h
  exact zf_lreturn dX2_ofSite_27 rfl
-- ===== X2_siteOf: NearCopies$Flow.siteOf(J)I
def f_X2_siteOf (N : Nat) (x0 : Int64) (σ : ZM) : Option (Int32 × ZM) :=
  some (((Int64.toInt32 ((zsrlJ x0 (40 : Int32)) &&& (15 : Int64))) - (1 : Int32)), σ)
set_option maxRecDepth 100000 in
theorem ok_X2_siteOf {G : ZG} (hG : zSH G = shC) (N : Nat) {d : Nat} (hd : 0 ≤ d) {x0 : Int64} {σ : ZM} {res : Int32 × ZM} (h : f_X2_siteOf N x0 σ = some res) : zCt G d MX2_siteOf [.long x0] σ (some (.int res.1)) res.2 := by
  refine zct_of (by decide) (Nat.le_of_ble_eq_true rfl) (lv := [(0, .long x0)]) rfl ?_
  unfold f_X2_siteOf at h
  refine zf_lload_n 0 (q := 1) (j := 0) rfl dX2_siteOf_0 rfl rfl ?_
  refine zf_bipush (q := 3) rfl dX2_siteOf_1 bp40 ?_
  refine zf_lushr (q := 4) rfl dX2_siteOf_3 ?_
  refine zf_ldc2 (q := 7) rfl dX2_siteOf_4 cl_RX2_42 ?_
  refine zf_land (q := 8) rfl dX2_siteOf_7 ?_
  refine zf_l2i (q := 9) rfl dX2_siteOf_8 ?_
  refine zf_iconst (q := 10) rfl dX2_siteOf_9 ic1 ?_
  refine zf_isub (q := 11) rfl dX2_siteOf_10 ?_
  cases h
  exact zf_ireturn dX2_siteOf_11 rfl
-- ===== X2_passedAt: NearCopies$Flow.passedAt(JI)I
def f_X2_passedAt (N : Nat) (x0 : Int64) (x2 : Int32) (σ : ZM) : Option (Int32 × ZM) :=
  if x2 < 0 then
  (some ((-9 : Int32), σ))
  else
  (if x2 < (10 : Int32) then
  ((some ((Int64.toInt32 ((zsrlJ x0 ((4 : Int32) * x2)) &&& (15 : Int64))) - (1 : Int32))).bind fun v1 =>
  if 0 ≤ v1 then
  (some (v1, σ))
  else
  (some ((-9 : Int32), σ)))
  else
  (some ((-9 : Int32), σ)))
set_option maxRecDepth 100000 in
theorem ok_X2_passedAt {G : ZG} (hG : zSH G = shC) (N : Nat) {d : Nat} (hd : 0 ≤ d) {x0 : Int64} {x2 : Int32} {σ : ZM} {res : Int32 × ZM} (h : f_X2_passedAt N x0 x2 σ = some res) : zCt G d MX2_passedAt [.long x0, .int x2] σ (some (.int res.1)) res.2 := by
  refine zct_of (by decide) (Nat.le_of_ble_eq_true rfl) (lv := [(0, .long x0), (2, .int x2)]) rfl ?_
  unfold f_X2_passedAt at h
  refine zf_iload_n 1 (q := 1) (j := 2) rfl dX2_passedAt_0 rfl rfl ?_
  refine zf_if_lt (q := 4) (tgt := 10) rfl (by decide) dX2_passedAt_1 (fun hc1 => ?_) (fun hc1 => ?_)
  · replace h := (zi h).1 hc1
    refine zf_bipush (q := 12) rfl dX2_passedAt_10 bpm9 ?_
    cases h
    exact zf_ireturn dX2_passedAt_12 rfl
  · replace h := (zi h).2 hc1
    refine zf_iload_n 1 (q := 5) (j := 2) rfl dX2_passedAt_4 rfl rfl ?_
    refine zf_bipush (q := 7) rfl dX2_passedAt_5 bp10 ?_
    refine zf_icmp_lt (q := 10) (tgt := 13) rfl (by decide) dX2_passedAt_7 (fun hc7 => ?_) (fun hc7 => ?_)
    · replace h := (zi h).1 hc7
      refine zf_lload_n 0 (q := 14) (j := 0) rfl dX2_passedAt_13 rfl rfl ?_
      refine zf_iconst (q := 15) rfl dX2_passedAt_14 ic4 ?_
      refine zf_iload_n 1 (q := 16) (j := 2) rfl dX2_passedAt_15 rfl rfl ?_
      refine zf_imul (q := 17) rfl dX2_passedAt_16 ?_
      refine zf_lushr (q := 18) rfl dX2_passedAt_17 ?_
      refine zf_ldc2 (q := 21) rfl dX2_passedAt_18 cl_RX2_42 ?_
      refine zf_land (q := 22) rfl dX2_passedAt_21 ?_
      refine zf_l2i (q := 23) rfl dX2_passedAt_22 ?_
      refine zf_iconst (q := 24) rfl dX2_passedAt_23 ic1 ?_
      refine zf_isub (q := 25) rfl dX2_passedAt_24 ?_
      obtain ⟨v1, ev1, h⟩ := zb h
      refine zf_istore_n (q := 26) (y := v1) (i := 3) (lv1 := [(3, .int v1), (0, .long x0), (2, .int x2)]) rfl dX2_passedAt_25 rfl (by decide) ev1 rfl ?_
      refine zf_iload_n 0 (q := 27) (j := 3) rfl dX2_passedAt_26 rfl rfl ?_
      refine zf_if_ge (q := 30) (tgt := 35) rfl (by decide) dX2_passedAt_27 (fun hc27 => ?_) (fun hc27 => ?_)
      · replace h := (zi h).1 hc27
        refine zf_iload_n 0 (q := 36) (j := 3) rfl dX2_passedAt_35 rfl rfl ?_
        cases h
        exact zf_ireturn dX2_passedAt_36 rfl
      · replace h := (zi h).2 hc27
        refine zf_bipush (q := 32) rfl dX2_passedAt_30 bpm9 ?_
        refine zf_goto (tgt := 36) (by decide) dX2_passedAt_32 ?_
        cases h
        exact zf_ireturn dX2_passedAt_36 rfl
    · replace h := (zi h).2 hc7
      refine zf_bipush (q := 12) rfl dX2_passedAt_10 bpm9 ?_
      cases h
      exact zf_ireturn dX2_passedAt_12 rfl
-- ===== X3_bond: NearCopies$Nets.bond(II)I
def f_X3_bond (N : Nat) (x1 : Int32) (x2 : Int32) (σ : ZM) : Option (Int32 × ZM) :=
  (zald σ 4 100 ((x1 * (10 : Int32)) + x2)).bind fun v1 =>
  some (v1, σ)
set_option maxRecDepth 100000 in
theorem ok_X3_bond {G : ZG} (hG : zSH G = shC) (N : Nat) {d : Nat} (hd : 0 ≤ d) {x1 : Int32} {x2 : Int32} {σ : ZM} {res : Int32 × ZM} (h : f_X3_bond N x1 x2 σ = some res) : zCt G d MX3_bond [.ref (zad G 1), .int x1, .int x2] σ (some (.int res.1)) res.2 := by
  refine zct_of (by decide) (Nat.le_of_ble_eq_true rfl) (lv := [(0, .ref (zad G 1)), (1, .int x1), (2, .int x2)]) rfl ?_
  unfold f_X3_bond at h
  refine zf_aload_n 0 (q := 1) (j := 0) rfl dX3_bond_0 rfl rfl ?_
  refine zf_getR (q := 4) rfl dX3_bond_1 lf_RX3_18 (sc1 hG) rfl ?_
  refine zf_iload_n 1 (q := 5) (j := 1) rfl dX3_bond_4 rfl rfl ?_
  refine zf_bipush (q := 7) rfl dX3_bond_5 bp10 ?_
  refine zf_imul (q := 8) rfl dX3_bond_7 ?_
  refine zf_iload_n 2 (q := 9) (j := 2) rfl dX3_bond_8 rfl rfl ?_
  refine zf_iadd (q := 10) rfl dX3_bond_9 ?_
  obtain ⟨v1, ev1, h⟩ := zb h
  refine zf_iald (q := 11) rfl dX3_bond_10 (sc4 hG) ev1 ?_
  cases h
  exact zf_ireturn dX3_bond_11 rfl
-- ===== X2_passesOn: NearCopies$Flow.passesOn(LNearCopies$Words;II)Z
def f_X2_passesOn_108 (N : Nat) (w1 : Nat) (x6 : Int32) (y0 : Int32) (σ : ZM) : Option (Int32 × ZM) :=
  if y0 = 0 then
  (some ((0 : Int32), σ))
  else
  ((zald σ (w1 + 3) 4 x6).bind fun v1 =>
  if v1 = 0 then
  (some ((1 : Int32), σ))
  else
  (some ((0 : Int32), σ)))
set_option maxRecDepth 100000 in
theorem ok_X2_passesOn_108 {G : ZG} (hG : zSH G = shC) (N : Nat) {d : Nat} (hd : 0 ≤ d) {w1 : Nat} (hw1 : zWd G w1) {res : Int32 × ZM} {x6 : Int32} {y0 : Int32} {σ : ZM} (h : f_X2_passesOn_108 N w1 x6 y0 σ = some res) : zF G MX2_passesOn (d + 1) 108 [(1, .ref (zad G w1)), (6, .int x6)] [.int y0] σ (some (.int res.1)) res.2 := by
  unfold f_X2_passesOn_108 at h
  refine zf_istore (q := 110) (y := y0) (i := 8) (lv1 := [(8, .int y0), (1, .ref (zad G w1)), (6, .int x6)]) rfl dX2_passesOn_108 (by decide) rfl rfl ?_
  refine zf_iload 0 (q := 112) rfl dX2_passesOn_110 rfl ?_
  refine zf_if_eq (q := 115) (tgt := 129) rfl (by decide) dX2_passesOn_112 (fun hc112 => ?_) (fun hc112 => ?_)
  · replace h := (zi h).1 hc112
    refine zf_iconst (q := 130) rfl dX2_passesOn_129 ic0 ?_
    cases h
    exact zf_zreturn dX2_passesOn_130 rfl (Or.inl rfl)
  · replace h := (zi h).2 hc112
    refine zf_aload_n 1 (q := 116) (j := 1) rfl dX2_passesOn_115 rfl rfl ?_
    refine zf_getR (q := 119) rfl dX2_passesOn_116 lf_RX2_127 hw1.1 rfl ?_
    refine zf_iload 2 (q := 121) rfl dX2_passesOn_119 rfl ?_
    obtain ⟨v1, ev1, h⟩ := zb h
    refine zf_zald (q := 122) rfl dX2_passesOn_121 hw1.2.2.2.1 ev1 ?_
    refine zf_if_ne (q := 125) (tgt := 129) rfl (by decide) dX2_passesOn_122 (fun hc122 => ?_) (fun hc122 => ?_)
    · replace h := (zi h).2 hc122
      refine zf_iconst (q := 130) rfl dX2_passesOn_129 ic0 ?_
      cases h
      exact zf_zreturn dX2_passesOn_130 rfl (Or.inl rfl)
    · replace h := (zi h).1 hc122
      refine zf_iconst (q := 126) rfl dX2_passesOn_125 ic1 ?_
      refine zf_goto (tgt := 130) (by decide) dX2_passesOn_126 ?_
      cases h
      exact zf_zreturn dX2_passesOn_130 rfl (Or.inr rfl)
def f_X2_passesOn_103 (N : Nat) (w1 : Nat) (x6 : Int32) (σ : ZM) : Option (Int32 × ZM) :=
  f_X2_passesOn_108 N w1 x6 (1 : Int32) σ
set_option maxRecDepth 100000 in
theorem ok_X2_passesOn_103 {G : ZG} (hG : zSH G = shC) (N : Nat) {d : Nat} (hd : 0 ≤ d) {w1 : Nat} (hw1 : zWd G w1) {res : Int32 × ZM} {x6 : Int32} {σ : ZM} (h : f_X2_passesOn_103 N w1 x6 σ = some res) : zF G MX2_passesOn (d + 1) 103 [(1, .ref (zad G w1)), (6, .int x6)] [] σ (some (.int res.1)) res.2 := by
  unfold f_X2_passesOn_103 at h
  refine zf_iconst (q := 104) rfl dX2_passesOn_103 ic1 ?_
  refine zf_goto (tgt := 108) (by decide) dX2_passesOn_104 ?_
  exact zf_sub [0, 1] rfl (ok_X2_passesOn_108 hG N hd hw1 h)
def f_X2_passesOn (N : Nat) (w1 : Nat) (x2 : Int32) (x3 : Int32) (σ : ZM) : Option (Int32 × ZM) :=
  (zalJ σ 19 10 x2).bind fun v2 =>
  if (lg_cmp v2 (0 : Int64)) = 0 then
  (some ((0 : Int32), σ))
  else
  (if (lg_cmp ((zsrlJ v2 ((48 : Int32) + x3)) &&& (1 : Int64)) (0 : Int64)) = 0 then
  (zbd (f_X2_siteOf N v2 σ) fun r3 s4 =>
  if r3 < 0 then
  (some ((0 : Int32), s4))
  else
  ((zald s4 (w1 + 2) 4 r3).bind fun v5 =>
  if ((v5 >>> (x3 &&& 31)) &&& (1 : Int32)) = 0 then
  (zbd (f_X2_passedAt N v2 (1 : Int32) s4) fun r6 s7 =>
  if r6 = (-9 : Int32) then
  (some ((1 : Int32), s7))
  else
  (zbd (f_X3_bond N x2 r6 s7) fun r8 s9 =>
  if r8 = (1 : Int32) then
  (f_X2_passesOn_103 N w1 r3 s9)
  else
  (zbd (f_X3_bond N x2 x3 s9) fun r10 s11 =>
  if r10 = (1 : Int32) then
  (f_X2_passesOn_103 N w1 r3 s11)
  else
  (f_X2_passesOn_108 N w1 r3 (0 : Int32) s11))))
  else
  (some ((0 : Int32), s4))))
  else
  (some ((0 : Int32), σ)))
set_option maxRecDepth 100000 in
theorem ok_X2_passesOn {G : ZG} (hG : zSH G = shC) (N : Nat) {d : Nat} (hd : 1 ≤ d) {w1 : Nat} (hw1 : zWd G w1) {x2 : Int32} {x3 : Int32} {σ : ZM} {res : Int32 × ZM} (h : f_X2_passesOn N w1 x2 x3 σ = some res) : zCt G d MX2_passesOn [.ref (zad G 17), .ref (zad G w1), .int x2, .int x3] σ (some (.int res.1)) res.2 := by
  obtain ⟨d, rfl⟩ : ∃ k, d = k + 1 := ⟨d - 1, by omega⟩
  have hd : 0 ≤ d := by omega
  refine zct_of (by decide) (Nat.le_of_ble_eq_true rfl) (lv := [(0, .ref (zad G 17)), (1, .ref (zad G w1)), (2, .int x2), (3, .int x3)]) rfl ?_
  unfold f_X2_passesOn at h
  refine zf_aload_n 0 (q := 1) (j := 0) rfl dX2_passesOn_0 rfl rfl ?_
  refine zf_getR (q := 4) rfl dX2_passesOn_1 lf_RX2_15 (sc17 hG) rfl ?_
  refine zf_iload_n 2 (q := 5) (j := 2) rfl dX2_passesOn_4 rfl rfl ?_
  obtain ⟨v2, ev2, h⟩ := zb h
  refine zf_lald (q := 6) rfl dX2_passesOn_5 (sc19 hG) ev2 ?_
  refine zf_lstore (q := 8) (y := v2) (i := 4) (lv1 := [(4, .long v2), (0, .ref (zad G 17)), (1, .ref (zad G w1)), (2, .int x2), (3, .int x3)]) rfl dX2_passesOn_6 (by decide) rfl rfl ?_
  refine zf_lload 0 (q := 10) rfl dX2_passesOn_8 rfl ?_
  refine zf_lconst (q := 11) (v := 0) rfl dX2_passesOn_10 (by decide) ?_
  refine zf_lcmp (q := 12) rfl dX2_passesOn_11 ?_
  refine zf_if_eq (q := 15) (tgt := 29) rfl (by decide) dX2_passesOn_12 (fun hc12 => ?_) (fun hc12 => ?_)
  · replace h := (zi h).1 hc12
    refine zf_iconst (q := 30) rfl dX2_passesOn_29 ic0 ?_
    cases h
    exact zf_zreturn dX2_passesOn_30 rfl (Or.inl rfl)
  · replace h := (zi h).2 hc12
    refine zf_lload 0 (q := 17) rfl dX2_passesOn_15 rfl ?_
    refine zf_bipush (q := 19) rfl dX2_passesOn_17 bp48 ?_
    refine zf_iload_n 4 (q := 20) (j := 3) rfl dX2_passesOn_19 rfl rfl ?_
    refine zf_iadd (q := 21) rfl dX2_passesOn_20 ?_
    refine zf_lushr (q := 22) rfl dX2_passesOn_21 ?_
    refine zf_lconst (q := 23) (v := 1) rfl dX2_passesOn_22 (by decide) ?_
    refine zf_land (q := 24) rfl dX2_passesOn_23 ?_
    refine zf_lconst (q := 25) (v := 0) rfl dX2_passesOn_24 (by decide) ?_
    refine zf_lcmp (q := 26) rfl dX2_passesOn_25 ?_
    refine zf_if_eq (q := 29) (tgt := 31) rfl (by decide) dX2_passesOn_26 (fun hc26 => ?_) (fun hc26 => ?_)
    · replace h := (zi h).1 hc26
      refine zf_lload 0 (q := 33) rfl dX2_passesOn_31 rfl ?_
      obtain ⟨r3, s4, es4, h⟩ := zc h
      refine zf_callS (q := 36) (As := [.long v2]) (rest := []) (st1 := [.int r3]) rfl dX2_passesOn_33 ls_RX2_112 rfl rfl (Nat.le_of_ble_eq_true rfl) (ok_X2_siteOf hG N (Nat.le_trans (by decide) hd) es4) rfl ?_
      refine zf_istore (q := 38) (y := r3) (i := 6) (lv1 := [(6, .int r3), (4, .long v2), (0, .ref (zad G 17)), (1, .ref (zad G w1)), (2, .int x2), (3, .int x3)]) rfl dX2_passesOn_36 (by decide) rfl rfl ?_
      refine zf_iload 0 (q := 40) rfl dX2_passesOn_38 rfl ?_
      refine zf_if_lt (q := 43) (tgt := 57) rfl (by decide) dX2_passesOn_40 (fun hc40 => ?_) (fun hc40 => ?_)
      · replace h := (zi h).1 hc40
        refine zf_iconst (q := 58) rfl dX2_passesOn_57 ic0 ?_
        cases h
        exact zf_zreturn dX2_passesOn_58 rfl (Or.inl rfl)
      · replace h := (zi h).2 hc40
        refine zf_aload_n 3 (q := 44) (j := 1) rfl dX2_passesOn_43 rfl rfl ?_
        refine zf_getR (q := 47) rfl dX2_passesOn_44 lf_RX2_116 hw1.1 rfl ?_
        refine zf_iload 0 (q := 49) rfl dX2_passesOn_47 rfl ?_
        obtain ⟨v5, ev5, h⟩ := zb h
        refine zf_iald (q := 50) rfl dX2_passesOn_49 hw1.2.2.1 ev5 ?_
        refine zf_iload_n 5 (q := 51) (j := 3) rfl dX2_passesOn_50 rfl rfl ?_
        refine zf_ishr (q := 52) rfl dX2_passesOn_51 ?_
        refine zf_iconst (q := 53) rfl dX2_passesOn_52 ic1 ?_
        refine zf_iand (q := 54) rfl dX2_passesOn_53 ?_
        refine zf_if_eq (q := 57) (tgt := 59) rfl (by decide) dX2_passesOn_54 (fun hc54 => ?_) (fun hc54 => ?_)
        · replace h := (zi h).1 hc54
          refine zf_lload 1 (q := 61) rfl dX2_passesOn_59 rfl ?_
          refine zf_iconst (q := 62) rfl dX2_passesOn_61 ic1 ?_
          obtain ⟨r6, s7, es7, h⟩ := zc h
          refine zf_callS (q := 65) (As := [.long v2, .int (1 : Int32)]) (rest := []) (st1 := [.int r6]) rfl dX2_passesOn_62 ls_RX2_119 rfl rfl (Nat.le_of_ble_eq_true rfl) (ok_X2_passedAt hG N (Nat.le_trans (by decide) hd) es7) rfl ?_
          refine zf_istore (q := 67) (y := r6) (i := 7) (lv1 := [(7, .int r6), (6, .int r3), (4, .long v2), (0, .ref (zad G 17)), (1, .ref (zad G w1)), (2, .int x2), (3, .int x3)]) rfl dX2_passesOn_65 (by decide) rfl rfl ?_
          refine zf_iload 0 (q := 69) rfl dX2_passesOn_67 rfl ?_
          refine zf_bipush (q := 71) rfl dX2_passesOn_69 bpm9 ?_
          refine zf_icmp_ne (q := 74) (tgt := 76) rfl (by decide) dX2_passesOn_71 (fun hc71 => ?_) (fun hc71 => ?_)
          · replace h := (zi h).2 hc71
            refine zf_aload_n 3 (q := 77) (j := 0) rfl dX2_passesOn_76 rfl rfl ?_
            refine zf_getR (q := 80) rfl dX2_passesOn_77 lf_RX2_28 (sc17 hG) rfl ?_
            refine zf_iload_n 5 (q := 81) (j := 2) rfl dX2_passesOn_80 rfl rfl ?_
            refine zf_iload 0 (q := 83) rfl dX2_passesOn_81 rfl ?_
            obtain ⟨r8, s9, es9, h⟩ := zc h
            refine zf_callV (q := 86) (As := [.int x2, .int r6]) (rest := []) (st1 := [.int r8]) rfl dX2_passesOn_83 lv_RX2_123 (sc1 hG) rfl rfl (Nat.le_of_ble_eq_true rfl) (ok_X3_bond hG N (Nat.le_trans (by decide) hd) es9) rfl ?_
            refine zf_iconst (q := 87) rfl dX2_passesOn_86 ic1 ?_
            refine zf_icmp_eq (q := 90) (tgt := 103) rfl (by decide) dX2_passesOn_87 (fun hc87 => ?_) (fun hc87 => ?_)
            · replace h := (zi h).1 hc87
              exact zf_sub [4, 1] rfl (ok_X2_passesOn_103 hG N hd hw1 h)
            · replace h := (zi h).2 hc87
              refine zf_aload_n 3 (q := 91) (j := 0) rfl dX2_passesOn_90 rfl rfl ?_
              refine zf_getR (q := 94) rfl dX2_passesOn_91 lf_RX2_28 (sc17 hG) rfl ?_
              refine zf_iload_n 5 (q := 95) (j := 2) rfl dX2_passesOn_94 rfl rfl ?_
              refine zf_iload_n 6 (q := 96) (j := 3) rfl dX2_passesOn_95 rfl rfl ?_
              obtain ⟨r10, s11, es11, h⟩ := zc h
              refine zf_callV (q := 99) (As := [.int x2, .int x3]) (rest := []) (st1 := [.int r10]) rfl dX2_passesOn_96 lv_RX2_123 (sc1 hG) rfl rfl (Nat.le_of_ble_eq_true rfl) (ok_X3_bond hG N (Nat.le_trans (by decide) hd) es11) rfl ?_
              refine zf_iconst (q := 100) rfl dX2_passesOn_99 ic1 ?_
              refine zf_icmp_ne (q := 103) (tgt := 107) rfl (by decide) dX2_passesOn_100 (fun hc100 => ?_) (fun hc100 => ?_)
              · replace h := (zi h).2 hc100
                refine zf_iconst (q := 108) rfl dX2_passesOn_107 ic0 ?_
                exact zf_sub [4, 1] rfl (ok_X2_passesOn_108 hG N hd hw1 h)
              · replace h := (zi h).1 hc100
                exact zf_sub [4, 1] rfl (ok_X2_passesOn_103 hG N hd hw1 h)
          · replace h := (zi h).1 hc71
            refine zf_iconst (q := 75) rfl dX2_passesOn_74 ic1 ?_
            cases h
            exact zf_zreturn dX2_passesOn_75 rfl (Or.inr rfl)
        · replace h := (zi h).2 hc54
          refine zf_iconst (q := 58) rfl dX2_passesOn_57 ic0 ?_
          cases h
          exact zf_zreturn dX2_passesOn_58 rfl (Or.inl rfl)
    · replace h := (zi h).2 hc26
      refine zf_iconst (q := 30) rfl dX2_passesOn_29 ic0 ?_
      cases h
      exact zf_zreturn dX2_passesOn_30 rfl (Or.inl rfl)
-- ===== X2_passedOn: NearCopies$Flow.passedOn(JI)J
def f_X2_passedOn (N : Nat) (x0 : Int64) (x2 : Int32) (σ : ZM) : Option (Int64 × ZM) :=
  (some (x0 + (17592186044416 : Int64))).bind fun v1 =>
  some (((((v1 &&& (-1099511627776 : Int64)) ||| (zshlJ (x0 &&& (1099511627775 : Int64)) (4 : Int32))) ||| ((Int32.toInt64 x2) + (1 : Int64))) ||| (zshlJ (1 : Int64) ((48 : Int32) + x2))), σ)
set_option maxRecDepth 100000 in
theorem ok_X2_passedOn {G : ZG} (hG : zSH G = shC) (N : Nat) {d : Nat} (hd : 0 ≤ d) {x0 : Int64} {x2 : Int32} {σ : ZM} {res : Int64 × ZM} (h : f_X2_passedOn N x0 x2 σ = some res) : zCt G d MX2_passedOn [.long x0, .int x2] σ (some (.long res.1)) res.2 := by
  refine zct_of (by decide) (Nat.le_of_ble_eq_true rfl) (lv := [(0, .long x0), (2, .int x2)]) rfl ?_
  unfold f_X2_passedOn at h
  refine zf_lload_n 0 (q := 1) (j := 0) rfl dX2_passedOn_0 rfl rfl ?_
  refine zf_ldc2 (q := 4) rfl dX2_passedOn_1 cl_RX2_36 ?_
  refine zf_ladd (q := 5) rfl dX2_passedOn_4 ?_
  obtain ⟨v1, ev1, h⟩ := zb h
  refine zf_lstore_n (q := 6) (y := v1) (i := 3) (lv1 := [(3, .long v1), (0, .long x0), (2, .int x2)]) rfl dX2_passedOn_5 rfl (by decide) ev1 rfl ?_
  refine zf_lload_n 0 (q := 7) (j := 3) rfl dX2_passedOn_6 rfl rfl ?_
  refine zf_ldc2 (q := 10) rfl dX2_passedOn_7 cl_RX2_38 ?_
  refine zf_land (q := 11) rfl dX2_passedOn_10 ?_
  refine zf_lload_n 1 (q := 12) (j := 0) rfl dX2_passedOn_11 rfl rfl ?_
  refine zf_ldc2 (q := 15) rfl dX2_passedOn_12 cl_RX2_40 ?_
  refine zf_land (q := 16) rfl dX2_passedOn_15 ?_
  refine zf_iconst (q := 17) rfl dX2_passedOn_16 ic4 ?_
  refine zf_lshl (q := 18) rfl dX2_passedOn_17 ?_
  refine zf_lor (q := 19) rfl dX2_passedOn_18 ?_
  refine zf_iload_n 2 (q := 20) (j := 2) rfl dX2_passedOn_19 rfl rfl ?_
  refine zf_i2l (q := 21) rfl dX2_passedOn_20 ?_
  refine zf_lconst (q := 22) (v := 1) rfl dX2_passedOn_21 (by decide) ?_
  refine zf_ladd (q := 23) rfl dX2_passedOn_22 ?_
  refine zf_lor (q := 24) rfl dX2_passedOn_23 ?_
  refine zf_lconst (q := 25) (v := 1) rfl dX2_passedOn_24 (by decide) ?_
  refine zf_bipush (q := 27) rfl dX2_passedOn_25 bp48 ?_
  refine zf_iload_n 2 (q := 28) (j := 2) rfl dX2_passedOn_27 rfl rfl ?_
  refine zf_iadd (q := 29) rfl dX2_passedOn_28 ?_
  refine zf_lshl (q := 30) rfl dX2_passedOn_29 ?_
  refine zf_lor (q := 31) rfl dX2_passedOn_30 ?_
  cases h
  exact zf_lreturn dX2_passedOn_31 rfl
-- ===== X2_hear: NearCopies$Flow.hear(LNearCopies$Words;I)V
def f_X2_hear_140 (N : Nat) (w1 : Nat) (rec74 : Int32 → Int32 → ZM → Option (Unit × ZM)) (x2 : Int32) (x3 : Int32) (σ : ZM) : Option (Unit × ZM) :=
  (some (x3 + (1 : Int32))).bind fun v1 =>
  rec74 x2 v1 σ
set_option maxRecDepth 100000 in
theorem ok_X2_hear_140 {G : ZG} (hG : zSH G = shC) (N : Nat) {d : Nat} (hd : 1 ≤ d) {w1 : Nat} (hw1 : zWd G w1) {rec74 : Int32 → Int32 → ZM → Option (Unit × ZM)} {res : Unit × ZM} (hr74 : ∀ (x2 : Int32) (x3 : Int32) (σ : ZM), rec74 x2 x3 σ = some res → zF G MX2_hear (d + 1) 74 [(0, .ref (zad G 17)), (1, .ref (zad G w1)), (2, .int x2), (3, .int x3)] [] σ none res.2) {x2 : Int32} {x3 : Int32} {σ : ZM} (h : f_X2_hear_140 N w1 rec74 x2 x3 σ = some res) : zF G MX2_hear (d + 1) 140 [(0, .ref (zad G 17)), (1, .ref (zad G w1)), (2, .int x2), (3, .int x3)] [] σ none res.2 := by
  unfold f_X2_hear_140 at h
  obtain ⟨v1, ev1, h⟩ := zb h
  refine zf_iinc 3 (q := 143) (v := v1) (lv1 := [(3, .int v1), (0, .ref (zad G 17)), (1, .ref (zad G w1)), (2, .int x2)]) rfl dX2_hear_140 rfl (by rw [ic1]; exact ev1) (by decide) rfl ?_
  refine zf_goto (tgt := 74) (by decide) dX2_hear_143 ?_
  exact zf_sub [1, 2, 3, 0] rfl (hr74 _ _ _ h)
def b_X2_hear_74 (N : Nat) (w1 : Nat) (rec74 : Int32 → Int32 → ZM → Option (Unit × ZM)) (x2 : Int32) (x3 : Int32) (σ : ZM) : Option (Unit × ZM) :=
  if (σ.1 1 0) ≤ x3 then
  (some ((), σ))
  else
  ((zald σ 5 10 x2).bind fun v2 =>
  if ((v2 >>> (x3 &&& 31)) &&& (1 : Int32)) = 0 then
  (f_X2_hear_140 N w1 rec74 x2 x3 σ)
  else
  (zbd (f_X2_passesOn N w1 x3 x2 σ) fun r3 s4 =>
  if r3 = 0 then
  (f_X2_hear_140 N w1 rec74 x2 x3 s4)
  else
  ((zalJ s4 19 10 x3).bind fun v5 =>
  zbd (f_X2_passedOn N v5 x2 s4) fun r6 s7 =>
  (zasJ s7 21 14 (s4.1 17 5) r6).bind fun s8 =>
  (zpI s8 17 5 ((s8.1 17 5) + (1 : Int32))).bind fun s9 =>
  f_X2_hear_140 N w1 rec74 x2 x3 s9)))
set_option maxRecDepth 100000 in
theorem ok_b_X2_hear_74 {G : ZG} (hG : zSH G = shC) (N : Nat) {d : Nat} (hd : 1 ≤ d) {w1 : Nat} (hw1 : zWd G w1) {rec74 : Int32 → Int32 → ZM → Option (Unit × ZM)} {res : Unit × ZM} (hr74 : ∀ (x2 : Int32) (x3 : Int32) (σ : ZM), rec74 x2 x3 σ = some res → zF G MX2_hear (d + 1) 74 [(0, .ref (zad G 17)), (1, .ref (zad G w1)), (2, .int x2), (3, .int x3)] [] σ none res.2) {x2 : Int32} {x3 : Int32} {σ : ZM} (h : b_X2_hear_74 N w1 rec74 x2 x3 σ = some res) : zF G MX2_hear (d + 1) 74 [(0, .ref (zad G 17)), (1, .ref (zad G w1)), (2, .int x2), (3, .int x3)] [] σ none res.2 := by
  unfold b_X2_hear_74 at h
  refine zf_iload_n 3 (q := 75) (j := 3) rfl dX2_hear_74 rfl rfl ?_
  refine zf_aload_n 0 (q := 76) (j := 0) rfl dX2_hear_75 rfl rfl ?_
  refine zf_getR (q := 79) rfl dX2_hear_76 lf_RX2_28 (sc17 hG) rfl ?_
  refine zf_getI (q := 82) rfl dX2_hear_79 lf_RX2_44 (sc1 hG) rfl ?_
  refine zf_icmp_ge (q := 85) (tgt := 146) rfl (by decide) dX2_hear_82 (fun hc82 => ?_) (fun hc82 => ?_)
  · replace h := (zi h).1 hc82
    cases h
    exact zf_return dX2_hear_146 rfl
  · replace h := (zi h).2 hc82
    refine zf_aload_n 0 (q := 86) (j := 0) rfl dX2_hear_85 rfl rfl ?_
    refine zf_getR (q := 89) rfl dX2_hear_86 lf_RX2_28 (sc17 hG) rfl ?_
    refine zf_getR (q := 92) rfl dX2_hear_89 lf_RX2_75 (sc1 hG) rfl ?_
    refine zf_iload_n 2 (q := 93) (j := 2) rfl dX2_hear_92 rfl rfl ?_
    obtain ⟨v2, ev2, h⟩ := zb h
    refine zf_iald (q := 94) rfl dX2_hear_93 (sc5 hG) ev2 ?_
    refine zf_iload_n 3 (q := 95) (j := 3) rfl dX2_hear_94 rfl rfl ?_
    refine zf_ishr (q := 96) rfl dX2_hear_95 ?_
    refine zf_iconst (q := 97) rfl dX2_hear_96 ic1 ?_
    refine zf_iand (q := 98) rfl dX2_hear_97 ?_
    refine zf_if_eq (q := 101) (tgt := 140) rfl (by decide) dX2_hear_98 (fun hc98 => ?_) (fun hc98 => ?_)
    · replace h := (zi h).1 hc98
      exact zf_sub [0, 1, 2, 3] rfl (ok_X2_hear_140 hG N hd hw1 hr74 h)
    · replace h := (zi h).2 hc98
      refine zf_aload_n 0 (q := 102) (j := 0) rfl dX2_hear_101 rfl rfl ?_
      refine zf_aload_n 1 (q := 103) (j := 1) rfl dX2_hear_102 rfl rfl ?_
      refine zf_iload_n 3 (q := 104) (j := 3) rfl dX2_hear_103 rfl rfl ?_
      refine zf_iload_n 2 (q := 105) (j := 2) rfl dX2_hear_104 rfl rfl ?_
      obtain ⟨r3, s4, es4, h⟩ := zc h
      refine zf_callV (q := 108) (As := [.ref (zad G w1), .int x3, .int x2]) (rest := []) (st1 := [.int r3]) rfl dX2_hear_105 lv_RX2_104 (sc17 hG) rfl rfl (Nat.le_of_ble_eq_true rfl) (ok_X2_passesOn hG N (Nat.le_trans (by decide) hd) hw1 es4) rfl ?_
      refine zf_if_eq (q := 111) (tgt := 140) rfl (by decide) dX2_hear_108 (fun hc108 => ?_) (fun hc108 => ?_)
      · replace h := (zi h).1 hc108
        exact zf_sub [0, 1, 2, 3] rfl (ok_X2_hear_140 hG N hd hw1 hr74 h)
      · replace h := (zi h).2 hc108
        refine zf_aload_n 0 (q := 112) (j := 0) rfl dX2_hear_111 rfl rfl ?_
        refine zf_getR (q := 115) rfl dX2_hear_112 lf_RX2_22 (sc17 hG) rfl ?_
        refine zf_aload_n 0 (q := 116) (j := 0) rfl dX2_hear_115 rfl rfl ?_
        refine zf_getI (q := 119) rfl dX2_hear_116 lf_RX2_82 (sc17 hG) rfl ?_
        refine zf_aload_n 0 (q := 120) (j := 0) rfl dX2_hear_119 rfl rfl ?_
        refine zf_getR (q := 123) rfl dX2_hear_120 lf_RX2_15 (sc17 hG) rfl ?_
        refine zf_iload_n 3 (q := 124) (j := 3) rfl dX2_hear_123 rfl rfl ?_
        obtain ⟨v5, ev5, h⟩ := zb h
        refine zf_lald (q := 125) rfl dX2_hear_124 (sc19 hG) ev5 ?_
        refine zf_iload_n 2 (q := 126) (j := 2) rfl dX2_hear_125 rfl rfl ?_
        obtain ⟨r6, s7, es7, h⟩ := zc h
        refine zf_callS (q := 129) (As := [.long v5, .int x2]) (rest := [.int (s4.1 17 5), .ref (zad G 21)]) (st1 := [.long r6, .int (s4.1 17 5), .ref (zad G 21)]) rfl dX2_hear_126 ls_RX2_108 rfl rfl (Nat.le_of_ble_eq_true rfl) (ok_X2_passedOn hG N (Nat.le_trans (by decide) hd) es7) rfl ?_
        obtain ⟨s8, es8, h⟩ := zb h
        refine zf_last (q := 130) rfl dX2_hear_129 (sc21 hG) es8 ?_
        refine zf_aload_n 0 (q := 131) (j := 0) rfl dX2_hear_130 rfl rfl ?_
        refine zf_dup (q := 132) rfl dX2_hear_131 rfl ?_
        refine zf_getI (q := 135) rfl dX2_hear_132 lf_RX2_82 (sc17 hG) rfl ?_
        refine zf_iconst (q := 136) rfl dX2_hear_135 ic1 ?_
        refine zf_iadd (q := 137) rfl dX2_hear_136 ?_
        obtain ⟨s9, es9, h⟩ := zb h
        refine zf_putI (q := 140) rfl dX2_hear_137 lp_RX2_82 (sc17 hG) rfl es9 ?_
        exact zf_sub [0, 1, 2, 3] rfl (ok_X2_hear_140 hG N hd hw1 hr74 h)
def f_X2_hear_74 (N : Nat) (w1 : Nat) : Nat → Int32 → Int32 → ZM → Option (Unit × ZM)
  | 0, _, _, _ => none
  | n + 1, x2, x3, σ => b_X2_hear_74 N w1 (f_X2_hear_74 N w1 n) x2 x3 σ
theorem ok_X2_hear_74 {G : ZG} (hG : zSH G = shC) (N : Nat) {d : Nat} (hd : 1 ≤ d) {w1 : Nat} (hw1 : zWd G w1) {res : Unit × ZM} : ∀ (n : Nat) (x2 : Int32) (x3 : Int32) (σ : ZM), f_X2_hear_74 N w1 n x2 x3 σ = some res → zF G MX2_hear (d + 1) 74 [(0, .ref (zad G 17)), (1, .ref (zad G w1)), (2, .int x2), (3, .int x3)] [] σ none res.2 := by
  intro n
  induction n with
  | zero => intro x2 x3 σ h; exact absurd h (by simp [f_X2_hear_74])
  | succ n ih => intro x2 x3 σ h; rw [f_X2_hear_74] at h; exact ok_b_X2_hear_74 hG N hd hw1 ih h
def f_X2_hear_66 (N : Nat) (w1 : Nat) (rec7 : Int32 → Int32 → ZM → Option (Unit × ZM)) (x2 : Int32) (x3 : Int32) (σ : ZM) : Option (Unit × ZM) :=
  (some (x3 + (1 : Int32))).bind fun v10 =>
  rec7 x2 v10 σ
set_option maxRecDepth 100000 in
theorem ok_X2_hear_66 {G : ZG} (hG : zSH G = shC) (N : Nat) {d : Nat} (hd : 1 ≤ d) {w1 : Nat} (hw1 : zWd G w1) {rec7 : Int32 → Int32 → ZM → Option (Unit × ZM)} {res : Unit × ZM} (hr7 : ∀ (x2 : Int32) (x3 : Int32) (σ : ZM), rec7 x2 x3 σ = some res → zF G MX2_hear (d + 1) 7 [(0, .ref (zad G 17)), (1, .ref (zad G w1)), (2, .int x2), (3, .int x3)] [] σ none res.2) {x2 : Int32} {x3 : Int32} {σ : ZM} (h : f_X2_hear_66 N w1 rec7 x2 x3 σ = some res) : zF G MX2_hear (d + 1) 66 [(0, .ref (zad G 17)), (1, .ref (zad G w1)), (2, .int x2), (3, .int x3)] [] σ none res.2 := by
  unfold f_X2_hear_66 at h
  obtain ⟨v10, ev10, h⟩ := zb h
  refine zf_iinc 3 (q := 69) (v := v10) (lv1 := [(3, .int v10), (0, .ref (zad G 17)), (1, .ref (zad G w1)), (2, .int x2)]) rfl dX2_hear_66 rfl (by rw [ic1]; exact ev10) (by decide) rfl ?_
  refine zf_goto (tgt := 7) (by decide) dX2_hear_69 ?_
  exact zf_sub [1, 2, 3, 0] rfl (hr7 _ _ _ h)
def b_X2_hear_7 (N : Nat) (w1 : Nat) (rec7 : Int32 → Int32 → ZM → Option (Unit × ZM)) (x2 : Int32) (x3 : Int32) (σ : ZM) : Option (Unit × ZM) :=
  if (σ.1 w1 0) ≤ x3 then
  (f_X2_hear_74 N w1 N x2 (0 : Int32) σ)
  else
  ((zald σ 8 4 x3).bind fun v11 =>
  if v11 = x2 then
  (zbd (f_X7_isSaid N w1 x3 σ) fun r12 s13 =>
  if r12 = 0 then
  (f_X2_hear_66 N w1 rec7 x2 x3 s13)
  else
  ((zald s13 (w1 + 1) 4 x3).bind fun v14 =>
  zbd (f_X2_ofSite N x3 v14 x2 s13) fun r15 s16 =>
  (zasJ s16 21 14 (s13.1 17 5) r15).bind fun s17 =>
  (zpI s17 17 5 ((s17.1 17 5) + (1 : Int32))).bind fun s18 =>
  f_X2_hear_66 N w1 rec7 x2 x3 s18))
  else
  (f_X2_hear_66 N w1 rec7 x2 x3 σ))
set_option maxRecDepth 100000 in
theorem ok_b_X2_hear_7 {G : ZG} (hG : zSH G = shC) (N : Nat) {d : Nat} (hd : 1 ≤ d) {w1 : Nat} (hw1 : zWd G w1) {rec7 : Int32 → Int32 → ZM → Option (Unit × ZM)} {res : Unit × ZM} (hr7 : ∀ (x2 : Int32) (x3 : Int32) (σ : ZM), rec7 x2 x3 σ = some res → zF G MX2_hear (d + 1) 7 [(0, .ref (zad G 17)), (1, .ref (zad G w1)), (2, .int x2), (3, .int x3)] [] σ none res.2) {x2 : Int32} {x3 : Int32} {σ : ZM} (h : b_X2_hear_7 N w1 rec7 x2 x3 σ = some res) : zF G MX2_hear (d + 1) 7 [(0, .ref (zad G 17)), (1, .ref (zad G w1)), (2, .int x2), (3, .int x3)] [] σ none res.2 := by
  unfold b_X2_hear_7 at h
  refine zf_iload_n 3 (q := 8) (j := 3) rfl dX2_hear_7 rfl rfl ?_
  refine zf_aload_n 1 (q := 9) (j := 1) rfl dX2_hear_8 rfl rfl ?_
  refine zf_getI (q := 12) rfl dX2_hear_9 lf_RX2_85 hw1.1 rfl ?_
  refine zf_icmp_ge (q := 15) (tgt := 72) rfl (by decide) dX2_hear_12 (fun hc12 => ?_) (fun hc12 => ?_)
  · replace h := (zi h).1 hc12
    refine zf_iconst (q := 73) rfl dX2_hear_72 ic0 ?_
    refine zf_istore_n (q := 74) (y := (0 : Int32)) (i := 3) (lv1 := [(3, .int (0 : Int32)), (0, .ref (zad G 17)), (1, .ref (zad G w1)), (2, .int x2)]) rfl dX2_hear_73 rfl (by decide) rfl rfl ?_
    exact zf_sub [1, 2, 3, 0] rfl (ok_X2_hear_74 hG N hd hw1 _ _ _ _ h)
  · replace h := (zi h).2 hc12
    refine zf_aload_n 0 (q := 16) (j := 0) rfl dX2_hear_15 rfl rfl ?_
    refine zf_getR (q := 19) rfl dX2_hear_16 lf_RX2_32 (sc17 hG) rfl ?_
    refine zf_getR (q := 22) rfl dX2_hear_19 lf_RX2_88 (sc7 hG) rfl ?_
    refine zf_iload_n 3 (q := 23) (j := 3) rfl dX2_hear_22 rfl rfl ?_
    obtain ⟨v11, ev11, h⟩ := zb h
    refine zf_iald (q := 24) rfl dX2_hear_23 (sc8 hG) ev11 ?_
    refine zf_iload_n 2 (q := 25) (j := 2) rfl dX2_hear_24 rfl rfl ?_
    refine zf_icmp_ne (q := 28) (tgt := 66) rfl (by decide) dX2_hear_25 (fun hc25 => ?_) (fun hc25 => ?_)
    · replace h := (zi h).2 hc25
      exact zf_sub [0, 1, 2, 3] rfl (ok_X2_hear_66 hG N hd hw1 hr7 h)
    · replace h := (zi h).1 hc25
      refine zf_aload_n 1 (q := 29) (j := 1) rfl dX2_hear_28 rfl rfl ?_
      refine zf_iload_n 3 (q := 30) (j := 3) rfl dX2_hear_29 rfl rfl ?_
      obtain ⟨r12, s13, es13, h⟩ := zc h
      refine zf_callV (q := 33) (As := [.int x3]) (rest := []) (st1 := [.int r12]) rfl dX2_hear_30 lv_RX2_93 hw1.1 rfl rfl (Nat.le_of_ble_eq_true rfl) (ok_X7_isSaid hG N (Nat.le_trans (by decide) hd) hw1 es13) rfl ?_
      refine zf_if_eq (q := 36) (tgt := 66) rfl (by decide) dX2_hear_33 (fun hc33 => ?_) (fun hc33 => ?_)
      · replace h := (zi h).1 hc33
        exact zf_sub [0, 1, 2, 3] rfl (ok_X2_hear_66 hG N hd hw1 hr7 h)
      · replace h := (zi h).2 hc33
        refine zf_aload_n 0 (q := 37) (j := 0) rfl dX2_hear_36 rfl rfl ?_
        refine zf_getR (q := 40) rfl dX2_hear_37 lf_RX2_22 (sc17 hG) rfl ?_
        refine zf_aload_n 0 (q := 41) (j := 0) rfl dX2_hear_40 rfl rfl ?_
        refine zf_getI (q := 44) rfl dX2_hear_41 lf_RX2_82 (sc17 hG) rfl ?_
        refine zf_iload_n 3 (q := 45) (j := 3) rfl dX2_hear_44 rfl rfl ?_
        refine zf_aload_n 1 (q := 46) (j := 1) rfl dX2_hear_45 rfl rfl ?_
        refine zf_getR (q := 49) rfl dX2_hear_46 lf_RX2_97 hw1.1 rfl ?_
        refine zf_iload_n 3 (q := 50) (j := 3) rfl dX2_hear_49 rfl rfl ?_
        obtain ⟨v14, ev14, h⟩ := zb h
        refine zf_iald (q := 51) rfl dX2_hear_50 hw1.2.1 ev14 ?_
        refine zf_iload_n 2 (q := 52) (j := 2) rfl dX2_hear_51 rfl rfl ?_
        obtain ⟨r15, s16, es16, h⟩ := zc h
        refine zf_callS (q := 55) (As := [.int x3, .int v14, .int x2]) (rest := [.int (s13.1 17 5), .ref (zad G 21)]) (st1 := [.long r15, .int (s13.1 17 5), .ref (zad G 21)]) rfl dX2_hear_52 ls_RX2_100 rfl rfl (Nat.le_of_ble_eq_true rfl) (ok_X2_ofSite hG N (Nat.le_trans (by decide) hd) es16) rfl ?_
        obtain ⟨s17, es17, h⟩ := zb h
        refine zf_last (q := 56) rfl dX2_hear_55 (sc21 hG) es17 ?_
        refine zf_aload_n 0 (q := 57) (j := 0) rfl dX2_hear_56 rfl rfl ?_
        refine zf_dup (q := 58) rfl dX2_hear_57 rfl ?_
        refine zf_getI (q := 61) rfl dX2_hear_58 lf_RX2_82 (sc17 hG) rfl ?_
        refine zf_iconst (q := 62) rfl dX2_hear_61 ic1 ?_
        refine zf_iadd (q := 63) rfl dX2_hear_62 ?_
        obtain ⟨s18, es18, h⟩ := zb h
        refine zf_putI (q := 66) rfl dX2_hear_63 lp_RX2_82 (sc17 hG) rfl es18 ?_
        exact zf_sub [0, 1, 2, 3] rfl (ok_X2_hear_66 hG N hd hw1 hr7 h)
def f_X2_hear_7 (N : Nat) (w1 : Nat) : Nat → Int32 → Int32 → ZM → Option (Unit × ZM)
  | 0, _, _, _ => none
  | n + 1, x2, x3, σ => b_X2_hear_7 N w1 (f_X2_hear_7 N w1 n) x2 x3 σ
theorem ok_X2_hear_7 {G : ZG} (hG : zSH G = shC) (N : Nat) {d : Nat} (hd : 1 ≤ d) {w1 : Nat} (hw1 : zWd G w1) {res : Unit × ZM} : ∀ (n : Nat) (x2 : Int32) (x3 : Int32) (σ : ZM), f_X2_hear_7 N w1 n x2 x3 σ = some res → zF G MX2_hear (d + 1) 7 [(0, .ref (zad G 17)), (1, .ref (zad G w1)), (2, .int x2), (3, .int x3)] [] σ none res.2 := by
  intro n
  induction n with
  | zero => intro x2 x3 σ h; exact absurd h (by simp [f_X2_hear_7])
  | succ n ih => intro x2 x3 σ h; rw [f_X2_hear_7] at h; exact ok_b_X2_hear_7 hG N hd hw1 ih h
def f_X2_hear (N : Nat) (w1 : Nat) (x2 : Int32) (σ : ZM) : Option (Unit × ZM) :=
  (zpI σ 17 5 (0 : Int32)).bind fun s19 =>
  f_X2_hear_7 N w1 N x2 (0 : Int32) s19
set_option maxRecDepth 100000 in
theorem ok_X2_hear {G : ZG} (hG : zSH G = shC) (N : Nat) {d : Nat} (hd : 2 ≤ d) {w1 : Nat} (hw1 : zWd G w1) {x2 : Int32} {σ : ZM} {res : Unit × ZM} (h : f_X2_hear N w1 x2 σ = some res) : zCt G d MX2_hear [.ref (zad G 17), .ref (zad G w1), .int x2] σ none res.2 := by
  obtain ⟨d, rfl⟩ : ∃ k, d = k + 1 := ⟨d - 1, by omega⟩
  have hd : 1 ≤ d := by omega
  refine zct_of (by decide) (Nat.le_of_ble_eq_true rfl) (lv := [(0, .ref (zad G 17)), (1, .ref (zad G w1)), (2, .int x2)]) rfl ?_
  unfold f_X2_hear at h
  refine zf_aload_n 0 (q := 1) (j := 0) rfl dX2_hear_0 rfl rfl ?_
  refine zf_iconst (q := 2) rfl dX2_hear_1 ic0 ?_
  obtain ⟨s19, es19, h⟩ := zb h
  refine zf_putI (q := 5) rfl dX2_hear_2 lp_RX2_82 (sc17 hG) rfl es19 ?_
  refine zf_iconst (q := 6) rfl dX2_hear_5 ic0 ?_
  refine zf_istore_n (q := 7) (y := (0 : Int32)) (i := 3) (lv1 := [(3, .int (0 : Int32)), (0, .ref (zad G 17)), (1, .ref (zad G w1)), (2, .int x2)]) rfl dX2_hear_6 rfl (by decide) rfl rfl ?_
  exact zf_sub [1, 2, 3, 0] rfl (ok_X2_hear_7 hG N hd hw1 _ _ _ _ h)
-- ===== X2_namesOf: NearCopies$Flow.namesOf(J)I
def f_X2_namesOf (N : Nat) (x0 : Int64) (σ : ZM) : Option (Int32 × ZM) :=
  some ((Int64.toInt32 ((zsrlJ x0 (44 : Int32)) &&& (15 : Int64))), σ)
set_option maxRecDepth 100000 in
theorem ok_X2_namesOf {G : ZG} (hG : zSH G = shC) (N : Nat) {d : Nat} (hd : 0 ≤ d) {x0 : Int64} {σ : ZM} {res : Int32 × ZM} (h : f_X2_namesOf N x0 σ = some res) : zCt G d MX2_namesOf [.long x0] σ (some (.int res.1)) res.2 := by
  refine zct_of (by decide) (Nat.le_of_ble_eq_true rfl) (lv := [(0, .long x0)]) rfl ?_
  unfold f_X2_namesOf at h
  refine zf_lload_n 0 (q := 1) (j := 0) rfl dX2_namesOf_0 rfl rfl ?_
  refine zf_bipush (q := 3) rfl dX2_namesOf_1 bp44 ?_
  refine zf_lushr (q := 4) rfl dX2_namesOf_3 ?_
  refine zf_ldc2 (q := 7) rfl dX2_namesOf_4 cl_RX2_42 ?_
  refine zf_land (q := 8) rfl dX2_namesOf_7 ?_
  refine zf_l2i (q := 9) rfl dX2_namesOf_8 ?_
  cases h
  exact zf_ireturn dX2_namesOf_9 rfl
-- ===== X2_rank: NearCopies$Flow.rank(IJ)I
def f_X2_rank_67 (N : Nat) (x1 : Int32) (x5 : Int32) (x6 : Int32) (x7 : Int32) (σ : ZM) : Option (Int32 × ZM) :=
  (zald σ 18 10 x1).bind fun v1 =>
  if v1 = (2 : Int32) then
  (some ((((x5 <<< ((10 : Int32) &&& 31)) ||| (x6 <<< ((5 : Int32) &&& 31))) ||| x7), σ))
  else if v1 = (3 : Int32) then
  (some ((((x6 <<< ((10 : Int32) &&& 31)) ||| (x7 <<< ((5 : Int32) &&& 31))) ||| x5), σ))
  else 
  (some ((((x6 <<< ((10 : Int32) &&& 31)) ||| (x5 <<< ((5 : Int32) &&& 31))) ||| x7), σ))
set_option maxRecDepth 100000 in
theorem ok_X2_rank_67 {G : ZG} (hG : zSH G = shC) (N : Nat) {d : Nat} (hd : 0 ≤ d) {res : Int32 × ZM} {x1 : Int32} {x5 : Int32} {x6 : Int32} {x7 : Int32} {σ : ZM} (h : f_X2_rank_67 N x1 x5 x6 x7 σ = some res) : zF G MX2_rank (d + 1) 67 [(0, .ref (zad G 17)), (1, .int x1), (5, .int x5), (6, .int x6), (7, .int x7)] [] σ (some (.int res.1)) res.2 := by
  unfold f_X2_rank_67 at h
  refine zf_aload_n 0 (q := 68) (j := 0) rfl dX2_rank_67 rfl rfl ?_
  refine zf_getR (q := 71) rfl dX2_rank_68 lf_RX2_9 (sc17 hG) rfl ?_
  refine zf_iload_n 1 (q := 72) (j := 1) rfl dX2_rank_71 rfl rfl ?_
  obtain ⟨v1, ev1, h⟩ := zb h
  refine zf_iald (q := 73) rfl dX2_rank_72 (sc18 hG) ev1 ?_
  by_cases hc73_2 : v1 = (2 : Int32)
  · replace h := (zi h).1 hc73_2
    refine zf_lookup (off := 27) (tgt := 100) dX2_rank_73 (by decide) (by rw [hc73_2]; rfl) (by decide) ?_
    refine zf_iload 2 (q := 102) rfl dX2_rank_100 rfl ?_
    refine zf_bipush (q := 104) rfl dX2_rank_102 bp10 ?_
    refine zf_ishl (q := 105) rfl dX2_rank_104 ?_
    refine zf_iload 3 (q := 107) rfl dX2_rank_105 rfl ?_
    refine zf_iconst (q := 108) rfl dX2_rank_107 ic5 ?_
    refine zf_ishl (q := 109) rfl dX2_rank_108 ?_
    refine zf_ior (q := 110) rfl dX2_rank_109 ?_
    refine zf_iload 4 (q := 112) rfl dX2_rank_110 rfl ?_
    refine zf_ior (q := 113) rfl dX2_rank_112 ?_
    cases h
    exact zf_ireturn dX2_rank_113 rfl
  replace h := (zi h).2 hc73_2
  by_cases hc73_3 : v1 = (3 : Int32)
  · replace h := (zi h).1 hc73_3
    refine zf_lookup (off := 41) (tgt := 114) dX2_rank_73 (by decide) (by rw [hc73_3]; rfl) (by decide) ?_
    refine zf_iload 3 (q := 116) rfl dX2_rank_114 rfl ?_
    refine zf_bipush (q := 118) rfl dX2_rank_116 bp10 ?_
    refine zf_ishl (q := 119) rfl dX2_rank_118 ?_
    refine zf_iload 4 (q := 121) rfl dX2_rank_119 rfl ?_
    refine zf_iconst (q := 122) rfl dX2_rank_121 ic5 ?_
    refine zf_ishl (q := 123) rfl dX2_rank_122 ?_
    refine zf_ior (q := 124) rfl dX2_rank_123 ?_
    refine zf_iload 2 (q := 126) rfl dX2_rank_124 rfl ?_
    refine zf_ior (q := 127) rfl dX2_rank_126 ?_
    cases h
    exact zf_ireturn dX2_rank_127 rfl
  replace h := (zi h).2 hc73_3
  refine zf_lookup (off := 55) (tgt := 128) dX2_rank_73 (by decide) (zlk2 (zne (by decide : ((2 : Int32)).toInt = 2) hc73_2) (zne (by decide : ((3 : Int32)).toInt = 3) hc73_3)) (by decide) ?_
  refine zf_iload 3 (q := 130) rfl dX2_rank_128 rfl ?_
  refine zf_bipush (q := 132) rfl dX2_rank_130 bp10 ?_
  refine zf_ishl (q := 133) rfl dX2_rank_132 ?_
  refine zf_iload 2 (q := 135) rfl dX2_rank_133 rfl ?_
  refine zf_iconst (q := 136) rfl dX2_rank_135 ic5 ?_
  refine zf_ishl (q := 137) rfl dX2_rank_136 ?_
  refine zf_ior (q := 138) rfl dX2_rank_137 ?_
  refine zf_iload 4 (q := 140) rfl dX2_rank_138 rfl ?_
  refine zf_ior (q := 141) rfl dX2_rank_140 ?_
  cases h
  exact zf_ireturn dX2_rank_141 rfl
def f_X2_rank_64 (N : Nat) (x1 : Int32) (x5 : Int32) (x6 : Int32) (y0 : Int32) (y1 : Int32) (σ : ZM) : Option (Int32 × ZM) :=
  (some (y1 + y0)).bind fun v2 =>
  f_X2_rank_67 N x1 x5 x6 v2 σ
set_option maxRecDepth 100000 in
theorem ok_X2_rank_64 {G : ZG} (hG : zSH G = shC) (N : Nat) {d : Nat} (hd : 0 ≤ d) {res : Int32 × ZM} {x1 : Int32} {x5 : Int32} {x6 : Int32} {y0 : Int32} {y1 : Int32} {σ : ZM} (h : f_X2_rank_64 N x1 x5 x6 y0 y1 σ = some res) : zF G MX2_rank (d + 1) 64 [(0, .ref (zad G 17)), (1, .int x1), (5, .int x5), (6, .int x6)] [.int y0, .int y1] σ (some (.int res.1)) res.2 := by
  unfold f_X2_rank_64 at h
  refine zf_iadd (q := 65) rfl dX2_rank_64 ?_
  obtain ⟨v2, ev2, h⟩ := zb h
  refine zf_istore (q := 67) (y := v2) (i := 7) (lv1 := [(7, .int v2), (0, .ref (zad G 17)), (1, .int x1), (5, .int x5), (6, .int x6)]) rfl dX2_rank_65 (by decide) ev2 rfl ?_
  exact zf_sub [1, 2, 3, 4, 0] rfl (ok_X2_rank_67 hG N hd h)
def f_X2_rank (N : Nat) (x1 : Int32) (x2 : Int64) (σ : ZM) : Option (Int32 × ZM) :=
  zbd (f_X2_passedAt N x2 (1 : Int32) σ) fun r3 s4 =>
  zbd (f_X2_namesOf N x2 s4) fun r5 s6 =>
  zbd (f_X2_siteOf N x2 s6) fun r7 s8 =>
  if r3 = (-9 : Int32) then
  (f_X2_rank_67 N x1 r5 (0 : Int32) r7 s8)
  else
  (zbd (f_X3_bond N x1 r3 s8) fun r9 s10 =>
  (some (r9 - (1 : Int32))).bind fun v11 =>
  (zald s10 18 10 x1).bind fun v12 =>
  if v12 = (1 : Int32) then
  (f_X2_rank_64 N x1 r5 v11 ((9 : Int32) - r3) (4 : Int32) s10)
  else
  (f_X2_rank_64 N x1 r5 v11 r3 (4 : Int32) s10))
set_option maxRecDepth 100000 in
theorem ok_X2_rank {G : ZG} (hG : zSH G = shC) (N : Nat) {d : Nat} (hd : 1 ≤ d) {x1 : Int32} {x2 : Int64} {σ : ZM} {res : Int32 × ZM} (h : f_X2_rank N x1 x2 σ = some res) : zCt G d MX2_rank [.ref (zad G 17), .int x1, .long x2] σ (some (.int res.1)) res.2 := by
  obtain ⟨d, rfl⟩ : ∃ k, d = k + 1 := ⟨d - 1, by omega⟩
  have hd : 0 ≤ d := by omega
  refine zct_of (by decide) (Nat.le_of_ble_eq_true rfl) (lv := [(0, .ref (zad G 17)), (1, .int x1), (2, .long x2)]) rfl ?_
  unfold f_X2_rank at h
  refine zf_lload_n 2 (q := 1) (j := 2) rfl dX2_rank_0 rfl rfl ?_
  refine zf_iconst (q := 2) rfl dX2_rank_1 ic1 ?_
  obtain ⟨r3, s4, es4, h⟩ := zc h
  refine zf_callS (q := 5) (As := [.long x2, .int (1 : Int32)]) (rest := []) (st1 := [.int r3]) rfl dX2_rank_2 ls_RX2_119 rfl rfl (Nat.le_of_ble_eq_true rfl) (ok_X2_passedAt hG N (Nat.le_trans (by decide) hd) es4) rfl ?_
  refine zf_istore (q := 7) (y := r3) (i := 4) (lv1 := [(4, .int r3), (0, .ref (zad G 17)), (1, .int x1), (2, .long x2)]) rfl dX2_rank_5 (by decide) rfl rfl ?_
  refine zf_lload_n 3 (q := 8) (j := 2) rfl dX2_rank_7 rfl rfl ?_
  obtain ⟨r5, s6, es6, h⟩ := zc h
  refine zf_callS (q := 11) (As := [.long x2]) (rest := []) (st1 := [.int r5]) rfl dX2_rank_8 ls_RX2_135 rfl rfl (Nat.le_of_ble_eq_true rfl) (ok_X2_namesOf hG N (Nat.le_trans (by decide) hd) es6) rfl ?_
  refine zf_istore (q := 13) (y := r5) (i := 5) (lv1 := [(5, .int r5), (4, .int r3), (0, .ref (zad G 17)), (1, .int x1), (2, .long x2)]) rfl dX2_rank_11 (by decide) rfl rfl ?_
  refine zf_iconst (q := 14) rfl dX2_rank_13 ic0 ?_
  refine zf_istore (q := 16) (y := (0 : Int32)) (i := 6) (lv1 := [(6, .int (0 : Int32)), (5, .int r5), (4, .int r3), (0, .ref (zad G 17)), (1, .int x1), (2, .long x2)]) rfl dX2_rank_14 (by decide) rfl rfl ?_
  refine zf_lload_n 5 (q := 17) (j := 2) rfl dX2_rank_16 rfl rfl ?_
  obtain ⟨r7, s8, es8, h⟩ := zc h
  refine zf_callS (q := 20) (As := [.long x2]) (rest := []) (st1 := [.int r7]) rfl dX2_rank_17 ls_RX2_112 rfl rfl (Nat.le_of_ble_eq_true rfl) (ok_X2_siteOf hG N (Nat.le_trans (by decide) hd) es8) rfl ?_
  refine zf_istore (q := 22) (y := r7) (i := 7) (lv1 := [(7, .int r7), (6, .int (0 : Int32)), (5, .int r5), (4, .int r3), (0, .ref (zad G 17)), (1, .int x1), (2, .long x2)]) rfl dX2_rank_20 (by decide) rfl rfl ?_
  refine zf_iload 3 (q := 24) rfl dX2_rank_22 rfl ?_
  refine zf_bipush (q := 26) rfl dX2_rank_24 bpm9 ?_
  refine zf_icmp_eq (q := 29) (tgt := 67) rfl (by decide) dX2_rank_26 (fun hc26 => ?_) (fun hc26 => ?_)
  · replace h := (zi h).1 hc26
    exact zf_sub [4, 5, 2, 1, 0] rfl (ok_X2_rank_67 hG N hd h)
  · replace h := (zi h).2 hc26
    refine zf_aload_n 4 (q := 30) (j := 0) rfl dX2_rank_29 rfl rfl ?_
    refine zf_getR (q := 33) rfl dX2_rank_30 lf_RX2_28 (sc17 hG) rfl ?_
    refine zf_iload_n 5 (q := 34) (j := 1) rfl dX2_rank_33 rfl rfl ?_
    refine zf_iload 3 (q := 36) rfl dX2_rank_34 rfl ?_
    obtain ⟨r9, s10, es10, h⟩ := zc h
    refine zf_callV (q := 39) (As := [.int x1, .int r3]) (rest := []) (st1 := [.int r9]) rfl dX2_rank_36 lv_RX2_123 (sc1 hG) rfl rfl (Nat.le_of_ble_eq_true rfl) (ok_X3_bond hG N (Nat.le_trans (by decide) hd) es10) rfl ?_
    refine zf_iconst (q := 40) rfl dX2_rank_39 ic1 ?_
    refine zf_isub (q := 41) rfl dX2_rank_40 ?_
    obtain ⟨v11, ev11, h⟩ := zb h
    refine zf_istore (q := 43) (y := v11) (i := 6) (lv1 := [(6, .int v11), (7, .int r7), (5, .int r5), (4, .int r3), (0, .ref (zad G 17)), (1, .int x1), (2, .long x2)]) rfl dX2_rank_41 (by decide) ev11 rfl ?_
    refine zf_iconst (q := 44) rfl dX2_rank_43 ic4 ?_
    refine zf_aload_n 4 (q := 45) (j := 0) rfl dX2_rank_44 rfl rfl ?_
    refine zf_getR (q := 48) rfl dX2_rank_45 lf_RX2_9 (sc17 hG) rfl ?_
    refine zf_iload_n 5 (q := 49) (j := 1) rfl dX2_rank_48 rfl rfl ?_
    obtain ⟨v12, ev12, h⟩ := zb h
    refine zf_iald (q := 50) rfl dX2_rank_49 (sc18 hG) ev12 ?_
    refine zf_iconst (q := 51) rfl dX2_rank_50 ic1 ?_
    refine zf_icmp_ne (q := 54) (tgt := 62) rfl (by decide) dX2_rank_51 (fun hc51 => ?_) (fun hc51 => ?_)
    · replace h := (zi h).2 hc51
      refine zf_iload 3 (q := 64) rfl dX2_rank_62 rfl ?_
      exact zf_sub [4, 5, 2, 0] rfl (ok_X2_rank_64 hG N hd h)
    · replace h := (zi h).1 hc51
      refine zf_bipush (q := 56) rfl dX2_rank_54 bp9 ?_
      refine zf_iload 3 (q := 58) rfl dX2_rank_56 rfl ?_
      refine zf_isub (q := 59) rfl dX2_rank_58 ?_
      refine zf_goto (tgt := 64) (by decide) dX2_rank_59 ?_
      exact zf_sub [4, 5, 2, 0] rfl (ok_X2_rank_64 hG N hd h)
-- ===== X2_pick: NearCopies$Flow.pick(I)J
def f_X2_pick_55 (N : Nat) (rec13 : Int32 → Int32 → Int32 → ZM → Option (Int64 × ZM)) (x1 : Int32) (x2 : Int32) (x3 : Int32) (σ : ZM) : Option (Int64 × ZM) :=
  (some (x3 + (1 : Int32))).bind fun v1 =>
  rec13 x1 x2 v1 σ
set_option maxRecDepth 100000 in
theorem ok_X2_pick_55 {G : ZG} (hG : zSH G = shC) (N : Nat) {d : Nat} (hd : 1 ≤ d) {rec13 : Int32 → Int32 → Int32 → ZM → Option (Int64 × ZM)} {res : Int64 × ZM} (hr13 : ∀ (x1 : Int32) (x2 : Int32) (x3 : Int32) (σ : ZM), rec13 x1 x2 x3 σ = some res → zF G MX2_pick (d + 1) 13 [(0, .ref (zad G 17)), (1, .int x1), (2, .int x2), (3, .int x3)] [] σ (some (.long res.1)) res.2) {x1 : Int32} {x2 : Int32} {x3 : Int32} {σ : ZM} (h : f_X2_pick_55 N rec13 x1 x2 x3 σ = some res) : zF G MX2_pick (d + 1) 55 [(0, .ref (zad G 17)), (1, .int x1), (2, .int x2), (3, .int x3)] [] σ (some (.long res.1)) res.2 := by
  unfold f_X2_pick_55 at h
  obtain ⟨v1, ev1, h⟩ := zb h
  refine zf_iinc 3 (q := 58) (v := v1) (lv1 := [(3, .int v1), (0, .ref (zad G 17)), (1, .int x1), (2, .int x2)]) rfl dX2_pick_55 rfl (by rw [ic1]; exact ev1) (by decide) rfl ?_
  refine zf_goto (tgt := 13) (by decide) dX2_pick_58 ?_
  exact zf_sub [1, 2, 3, 0] rfl (hr13 _ _ _ _ h)
def b_X2_pick_13 (N : Nat) (rec13 : Int32 → Int32 → Int32 → ZM → Option (Int64 × ZM)) (x1 : Int32) (x2 : Int32) (x3 : Int32) (σ : ZM) : Option (Int64 × ZM) :=
  if (σ.1 17 5) ≤ x3 then
  ((zalJ σ 21 14 x2).bind fun v2 =>
  some (v2, σ))
  else
  ((zalJ σ 21 14 x3).bind fun v3 =>
  zbd (f_X2_rank N x1 v3 σ) fun r4 s5 =>
  (zast s5 22 14 x3 r4).bind fun s6 =>
  (zald s6 22 14 x3).bind fun v7 =>
  (zald s6 22 14 x2).bind fun v8 =>
  if v8 ≤ v7 then
  (f_X2_pick_55 N rec13 x1 x2 x3 s6)
  else
  (f_X2_pick_55 N rec13 x1 x3 x3 s6))
set_option maxRecDepth 100000 in
theorem ok_b_X2_pick_13 {G : ZG} (hG : zSH G = shC) (N : Nat) {d : Nat} (hd : 1 ≤ d) {rec13 : Int32 → Int32 → Int32 → ZM → Option (Int64 × ZM)} {res : Int64 × ZM} (hr13 : ∀ (x1 : Int32) (x2 : Int32) (x3 : Int32) (σ : ZM), rec13 x1 x2 x3 σ = some res → zF G MX2_pick (d + 1) 13 [(0, .ref (zad G 17)), (1, .int x1), (2, .int x2), (3, .int x3)] [] σ (some (.long res.1)) res.2) {x1 : Int32} {x2 : Int32} {x3 : Int32} {σ : ZM} (h : b_X2_pick_13 N rec13 x1 x2 x3 σ = some res) : zF G MX2_pick (d + 1) 13 [(0, .ref (zad G 17)), (1, .int x1), (2, .int x2), (3, .int x3)] [] σ (some (.long res.1)) res.2 := by
  unfold b_X2_pick_13 at h
  refine zf_iload_n 3 (q := 14) (j := 3) rfl dX2_pick_13 rfl rfl ?_
  refine zf_aload_n 0 (q := 15) (j := 0) rfl dX2_pick_14 rfl rfl ?_
  refine zf_getI (q := 18) rfl dX2_pick_15 lf_RX2_82 (sc17 hG) rfl ?_
  refine zf_icmp_ge (q := 21) (tgt := 61) rfl (by decide) dX2_pick_18 (fun hc18 => ?_) (fun hc18 => ?_)
  · replace h := (zi h).1 hc18
    refine zf_aload_n 0 (q := 62) (j := 0) rfl dX2_pick_61 rfl rfl ?_
    refine zf_getR (q := 65) rfl dX2_pick_62 lf_RX2_22 (sc17 hG) rfl ?_
    refine zf_iload_n 2 (q := 66) (j := 2) rfl dX2_pick_65 rfl rfl ?_
    obtain ⟨v2, ev2, h⟩ := zb h
    refine zf_lald (q := 67) rfl dX2_pick_66 (sc21 hG) ev2 ?_
    cases h
    exact zf_lreturn dX2_pick_67 rfl
  · replace h := (zi h).2 hc18
    refine zf_aload_n 0 (q := 22) (j := 0) rfl dX2_pick_21 rfl rfl ?_
    refine zf_getR (q := 25) rfl dX2_pick_22 lf_RX2_25 (sc17 hG) rfl ?_
    refine zf_iload_n 3 (q := 26) (j := 3) rfl dX2_pick_25 rfl rfl ?_
    refine zf_aload_n 0 (q := 27) (j := 0) rfl dX2_pick_26 rfl rfl ?_
    refine zf_iload_n 1 (q := 28) (j := 1) rfl dX2_pick_27 rfl rfl ?_
    refine zf_aload_n 0 (q := 29) (j := 0) rfl dX2_pick_28 rfl rfl ?_
    refine zf_getR (q := 32) rfl dX2_pick_29 lf_RX2_22 (sc17 hG) rfl ?_
    refine zf_iload_n 3 (q := 33) (j := 3) rfl dX2_pick_32 rfl rfl ?_
    obtain ⟨v3, ev3, h⟩ := zb h
    refine zf_lald (q := 34) rfl dX2_pick_33 (sc21 hG) ev3 ?_
    obtain ⟨r4, s5, es5, h⟩ := zc h
    refine zf_callV (q := 37) (As := [.int x1, .long v3]) (rest := [.int x3, .ref (zad G 22)]) (st1 := [.int r4, .int x3, .ref (zad G 22)]) rfl dX2_pick_34 lv_RX2_131 (sc17 hG) rfl rfl (Nat.le_of_ble_eq_true rfl) (ok_X2_rank hG N (Nat.le_trans (by decide) hd) es5) rfl ?_
    obtain ⟨s6, es6, h⟩ := zb h
    refine zf_iast (q := 38) rfl dX2_pick_37 (sc22 hG) es6 ?_
    refine zf_aload_n 0 (q := 39) (j := 0) rfl dX2_pick_38 rfl rfl ?_
    refine zf_getR (q := 42) rfl dX2_pick_39 lf_RX2_25 (sc17 hG) rfl ?_
    refine zf_iload_n 3 (q := 43) (j := 3) rfl dX2_pick_42 rfl rfl ?_
    obtain ⟨v7, ev7, h⟩ := zb h
    refine zf_iald (q := 44) rfl dX2_pick_43 (sc22 hG) ev7 ?_
    refine zf_aload_n 0 (q := 45) (j := 0) rfl dX2_pick_44 rfl rfl ?_
    refine zf_getR (q := 48) rfl dX2_pick_45 lf_RX2_25 (sc17 hG) rfl ?_
    refine zf_iload_n 2 (q := 49) (j := 2) rfl dX2_pick_48 rfl rfl ?_
    obtain ⟨v8, ev8, h⟩ := zb h
    refine zf_iald (q := 50) rfl dX2_pick_49 (sc22 hG) ev8 ?_
    refine zf_icmp_ge (q := 53) (tgt := 55) rfl (by decide) dX2_pick_50 (fun hc50 => ?_) (fun hc50 => ?_)
    · replace h := (zi h).1 hc50
      exact zf_sub [0, 1, 2, 3] rfl (ok_X2_pick_55 hG N hd hr13 h)
    · replace h := (zi h).2 hc50
      refine zf_iload_n 3 (q := 54) (j := 3) rfl dX2_pick_53 rfl rfl ?_
      refine zf_istore_n (q := 55) (y := x3) (i := 2) (lv1 := [(2, .int x3), (0, .ref (zad G 17)), (1, .int x1), (3, .int x3)]) rfl dX2_pick_54 rfl (by decide) rfl rfl ?_
      exact zf_sub [1, 2, 0, 3] rfl (ok_X2_pick_55 hG N hd hr13 h)
def f_X2_pick_13 (N : Nat) : Nat → Int32 → Int32 → Int32 → ZM → Option (Int64 × ZM)
  | 0, _, _, _, _ => none
  | n + 1, x1, x2, x3, σ => b_X2_pick_13 N (f_X2_pick_13 N n) x1 x2 x3 σ
theorem ok_X2_pick_13 {G : ZG} (hG : zSH G = shC) (N : Nat) {d : Nat} (hd : 1 ≤ d) {res : Int64 × ZM} : ∀ (n : Nat) (x1 : Int32) (x2 : Int32) (x3 : Int32) (σ : ZM), f_X2_pick_13 N n x1 x2 x3 σ = some res → zF G MX2_pick (d + 1) 13 [(0, .ref (zad G 17)), (1, .int x1), (2, .int x2), (3, .int x3)] [] σ (some (.long res.1)) res.2 := by
  intro n
  induction n with
  | zero => intro x1 x2 x3 σ h; exact absurd h (by simp [f_X2_pick_13])
  | succ n ih => intro x1 x2 x3 σ h; rw [f_X2_pick_13] at h; exact ok_b_X2_pick_13 hG N hd ih h
def f_X2_pick (N : Nat) (x1 : Int32) (σ : ZM) : Option (Int64 × ZM) :=
  if (σ.1 17 5) = 0 then
  (some ((0 : Int64), σ))
  else
  (f_X2_pick_13 N N x1 (0 : Int32) (0 : Int32) σ)
set_option maxRecDepth 100000 in
theorem ok_X2_pick {G : ZG} (hG : zSH G = shC) (N : Nat) {d : Nat} (hd : 2 ≤ d) {x1 : Int32} {σ : ZM} {res : Int64 × ZM} (h : f_X2_pick N x1 σ = some res) : zCt G d MX2_pick [.ref (zad G 17), .int x1] σ (some (.long res.1)) res.2 := by
  obtain ⟨d, rfl⟩ : ∃ k, d = k + 1 := ⟨d - 1, by omega⟩
  have hd : 1 ≤ d := by omega
  refine zct_of (by decide) (Nat.le_of_ble_eq_true rfl) (lv := [(0, .ref (zad G 17)), (1, .int x1)]) rfl ?_
  unfold f_X2_pick at h
  refine zf_aload_n 0 (q := 1) (j := 0) rfl dX2_pick_0 rfl rfl ?_
  refine zf_getI (q := 4) rfl dX2_pick_1 lf_RX2_82 (sc17 hG) rfl ?_
  refine zf_if_ne (q := 7) (tgt := 9) rfl (by decide) dX2_pick_4 (fun hc4 => ?_) (fun hc4 => ?_)
  · replace h := (zi h).2 hc4
    refine zf_iconst (q := 10) rfl dX2_pick_9 ic0 ?_
    refine zf_istore_n (q := 11) (y := (0 : Int32)) (i := 2) (lv1 := [(2, .int (0 : Int32)), (0, .ref (zad G 17)), (1, .int x1)]) rfl dX2_pick_10 rfl (by decide) rfl rfl ?_
    refine zf_iconst (q := 12) rfl dX2_pick_11 ic0 ?_
    refine zf_istore_n (q := 13) (y := (0 : Int32)) (i := 3) (lv1 := [(3, .int (0 : Int32)), (2, .int (0 : Int32)), (0, .ref (zad G 17)), (1, .int x1)]) rfl dX2_pick_12 rfl (by decide) rfl rfl ?_
    exact zf_sub [2, 3, 1, 0] rfl (ok_X2_pick_13 hG N hd _ _ _ _ _ h)
  · replace h := (zi h).1 hc4
    refine zf_lconst (q := 8) (v := 0) rfl dX2_pick_7 (by decide) ?_
    cases h
    exact zf_lreturn dX2_pick_8 rfl
-- ===== X2_takeFresh: NearCopies$Flow.takeFresh(I)I
def f_X2_takeFresh_57 (N : Nat) (rec4 : Int32 → Int32 → Int32 → ZM → Option (Int32 × ZM)) (x1 : Int32) (x2 : Int32) (x3 : Int32) (σ : ZM) : Option (Int32 × ZM) :=
  (some (x3 + (1 : Int32))).bind fun v1 =>
  rec4 x1 x2 v1 σ
set_option maxRecDepth 100000 in
theorem ok_X2_takeFresh_57 {G : ZG} (hG : zSH G = shC) (N : Nat) {d : Nat} {rec4 : Int32 → Int32 → Int32 → ZM → Option (Int32 × ZM)} {res : Int32 × ZM} (hr4 : ∀ (x1 : Int32) (x2 : Int32) (x3 : Int32) (σ : ZM), rec4 x1 x2 x3 σ = some res → zF G MX2_takeFresh d 4 [(0, .ref (zad G 17)), (1, .int x1), (2, .int x2), (3, .int x3)] [] σ (some (.int res.1)) res.2) {x1 : Int32} {x2 : Int32} {x3 : Int32} {σ : ZM} (h : f_X2_takeFresh_57 N rec4 x1 x2 x3 σ = some res) : zF G MX2_takeFresh d 57 [(0, .ref (zad G 17)), (1, .int x1), (2, .int x2), (3, .int x3)] [] σ (some (.int res.1)) res.2 := by
  unfold f_X2_takeFresh_57 at h
  obtain ⟨v1, ev1, h⟩ := zb h
  refine zf_iinc 3 (q := 60) (v := v1) (lv1 := [(3, .int v1), (0, .ref (zad G 17)), (1, .int x1), (2, .int x2)]) rfl dX2_takeFresh_57 rfl (by rw [ic1]; exact ev1) (by decide) rfl ?_
  refine zf_goto (tgt := 4) (by decide) dX2_takeFresh_60 ?_
  exact zf_sub [1, 2, 3, 0] rfl (hr4 _ _ _ _ h)
def b_X2_takeFresh_4 (N : Nat) (rec4 : Int32 → Int32 → Int32 → ZM → Option (Int32 × ZM)) (x1 : Int32) (x2 : Int32) (x3 : Int32) (σ : ZM) : Option (Int32 × ZM) :=
  if (σ.1 1 0) ≤ x3 then
  (some (x2, σ))
  else
  (if ((x1 >>> (x3 &&& 31)) &&& (1 : Int32)) = 0 then
  (f_X2_takeFresh_57 N rec4 x1 x2 x3 σ)
  else
  ((zalJ σ 20 10 x3).bind fun v2 =>
  (zalJ σ 19 10 x3).bind fun v3 =>
  if (lg_cmp v2 v3) = 0 then
  (f_X2_takeFresh_57 N rec4 x1 x2 x3 σ)
  else
  ((zalJ σ 20 10 x3).bind fun v4 =>
  (zasJ σ 19 10 x3 v4).bind fun s5 =>
  (some (x2 ||| ((1 : Int32) <<< (x3 &&& 31)))).bind fun v6 =>
  f_X2_takeFresh_57 N rec4 x1 v6 x3 s5)))
set_option maxRecDepth 100000 in
theorem ok_b_X2_takeFresh_4 {G : ZG} (hG : zSH G = shC) (N : Nat) {d : Nat} {rec4 : Int32 → Int32 → Int32 → ZM → Option (Int32 × ZM)} {res : Int32 × ZM} (hr4 : ∀ (x1 : Int32) (x2 : Int32) (x3 : Int32) (σ : ZM), rec4 x1 x2 x3 σ = some res → zF G MX2_takeFresh d 4 [(0, .ref (zad G 17)), (1, .int x1), (2, .int x2), (3, .int x3)] [] σ (some (.int res.1)) res.2) {x1 : Int32} {x2 : Int32} {x3 : Int32} {σ : ZM} (h : b_X2_takeFresh_4 N rec4 x1 x2 x3 σ = some res) : zF G MX2_takeFresh d 4 [(0, .ref (zad G 17)), (1, .int x1), (2, .int x2), (3, .int x3)] [] σ (some (.int res.1)) res.2 := by
  unfold b_X2_takeFresh_4 at h
  refine zf_iload_n 3 (q := 5) (j := 3) rfl dX2_takeFresh_4 rfl rfl ?_
  refine zf_aload_n 0 (q := 6) (j := 0) rfl dX2_takeFresh_5 rfl rfl ?_
  refine zf_getR (q := 9) rfl dX2_takeFresh_6 lf_RX2_28 (sc17 hG) rfl ?_
  refine zf_getI (q := 12) rfl dX2_takeFresh_9 lf_RX2_44 (sc1 hG) rfl ?_
  refine zf_icmp_ge (q := 15) (tgt := 63) rfl (by decide) dX2_takeFresh_12 (fun hc12 => ?_) (fun hc12 => ?_)
  · replace h := (zi h).1 hc12
    refine zf_iload_n 2 (q := 64) (j := 2) rfl dX2_takeFresh_63 rfl rfl ?_
    cases h
    exact zf_ireturn dX2_takeFresh_64 rfl
  · replace h := (zi h).2 hc12
    refine zf_iload_n 1 (q := 16) (j := 1) rfl dX2_takeFresh_15 rfl rfl ?_
    refine zf_iload_n 3 (q := 17) (j := 3) rfl dX2_takeFresh_16 rfl rfl ?_
    refine zf_ishr (q := 18) rfl dX2_takeFresh_17 ?_
    refine zf_iconst (q := 19) rfl dX2_takeFresh_18 ic1 ?_
    refine zf_iand (q := 20) rfl dX2_takeFresh_19 ?_
    refine zf_if_eq (q := 23) (tgt := 57) rfl (by decide) dX2_takeFresh_20 (fun hc20 => ?_) (fun hc20 => ?_)
    · replace h := (zi h).1 hc20
      exact zf_sub [0, 1, 2, 3] rfl (ok_X2_takeFresh_57 hG N hr4 h)
    · replace h := (zi h).2 hc20
      refine zf_aload_n 0 (q := 24) (j := 0) rfl dX2_takeFresh_23 rfl rfl ?_
      refine zf_getR (q := 27) rfl dX2_takeFresh_24 lf_RX2_19 (sc17 hG) rfl ?_
      refine zf_iload_n 3 (q := 28) (j := 3) rfl dX2_takeFresh_27 rfl rfl ?_
      obtain ⟨v2, ev2, h⟩ := zb h
      refine zf_lald (q := 29) rfl dX2_takeFresh_28 (sc20 hG) ev2 ?_
      refine zf_aload_n 0 (q := 30) (j := 0) rfl dX2_takeFresh_29 rfl rfl ?_
      refine zf_getR (q := 33) rfl dX2_takeFresh_30 lf_RX2_15 (sc17 hG) rfl ?_
      refine zf_iload_n 3 (q := 34) (j := 3) rfl dX2_takeFresh_33 rfl rfl ?_
      obtain ⟨v3, ev3, h⟩ := zb h
      refine zf_lald (q := 35) rfl dX2_takeFresh_34 (sc19 hG) ev3 ?_
      refine zf_lcmp (q := 36) rfl dX2_takeFresh_35 ?_
      refine zf_if_eq (q := 39) (tgt := 57) rfl (by decide) dX2_takeFresh_36 (fun hc36 => ?_) (fun hc36 => ?_)
      · replace h := (zi h).1 hc36
        exact zf_sub [0, 1, 2, 3] rfl (ok_X2_takeFresh_57 hG N hr4 h)
      · replace h := (zi h).2 hc36
        refine zf_aload_n 0 (q := 40) (j := 0) rfl dX2_takeFresh_39 rfl rfl ?_
        refine zf_getR (q := 43) rfl dX2_takeFresh_40 lf_RX2_15 (sc17 hG) rfl ?_
        refine zf_iload_n 3 (q := 44) (j := 3) rfl dX2_takeFresh_43 rfl rfl ?_
        refine zf_aload_n 0 (q := 45) (j := 0) rfl dX2_takeFresh_44 rfl rfl ?_
        refine zf_getR (q := 48) rfl dX2_takeFresh_45 lf_RX2_19 (sc17 hG) rfl ?_
        refine zf_iload_n 3 (q := 49) (j := 3) rfl dX2_takeFresh_48 rfl rfl ?_
        obtain ⟨v4, ev4, h⟩ := zb h
        refine zf_lald (q := 50) rfl dX2_takeFresh_49 (sc20 hG) ev4 ?_
        obtain ⟨s5, es5, h⟩ := zb h
        refine zf_last (q := 51) rfl dX2_takeFresh_50 (sc19 hG) es5 ?_
        refine zf_iload_n 2 (q := 52) (j := 2) rfl dX2_takeFresh_51 rfl rfl ?_
        refine zf_iconst (q := 53) rfl dX2_takeFresh_52 ic1 ?_
        refine zf_iload_n 3 (q := 54) (j := 3) rfl dX2_takeFresh_53 rfl rfl ?_
        refine zf_ishl (q := 55) rfl dX2_takeFresh_54 ?_
        refine zf_ior (q := 56) rfl dX2_takeFresh_55 ?_
        obtain ⟨v6, ev6, h⟩ := zb h
        refine zf_istore_n (q := 57) (y := v6) (i := 2) (lv1 := [(2, .int v6), (0, .ref (zad G 17)), (1, .int x1), (3, .int x3)]) rfl dX2_takeFresh_56 rfl (by decide) ev6 rfl ?_
        exact zf_sub [1, 2, 0, 3] rfl (ok_X2_takeFresh_57 hG N hr4 h)
def f_X2_takeFresh_4 (N : Nat) : Nat → Int32 → Int32 → Int32 → ZM → Option (Int32 × ZM)
  | 0, _, _, _, _ => none
  | n + 1, x1, x2, x3, σ => b_X2_takeFresh_4 N (f_X2_takeFresh_4 N n) x1 x2 x3 σ
theorem ok_X2_takeFresh_4 {G : ZG} (hG : zSH G = shC) (N : Nat) {d : Nat} {res : Int32 × ZM} : ∀ (n : Nat) (x1 : Int32) (x2 : Int32) (x3 : Int32) (σ : ZM), f_X2_takeFresh_4 N n x1 x2 x3 σ = some res → zF G MX2_takeFresh d 4 [(0, .ref (zad G 17)), (1, .int x1), (2, .int x2), (3, .int x3)] [] σ (some (.int res.1)) res.2 := by
  intro n
  induction n with
  | zero => intro x1 x2 x3 σ h; exact absurd h (by simp [f_X2_takeFresh_4])
  | succ n ih => intro x1 x2 x3 σ h; rw [f_X2_takeFresh_4] at h; exact ok_b_X2_takeFresh_4 hG N ih h
def f_X2_takeFresh (N : Nat) (x1 : Int32) (σ : ZM) : Option (Int32 × ZM) :=
  f_X2_takeFresh_4 N N x1 (0 : Int32) (0 : Int32) σ
set_option maxRecDepth 100000 in
theorem ok_X2_takeFresh {G : ZG} (hG : zSH G = shC) (N : Nat) {d : Nat} (hd : 0 ≤ d) {x1 : Int32} {σ : ZM} {res : Int32 × ZM} (h : f_X2_takeFresh N x1 σ = some res) : zCt G d MX2_takeFresh [.ref (zad G 17), .int x1] σ (some (.int res.1)) res.2 := by
  refine zct_of (by decide) (Nat.le_of_ble_eq_true rfl) (lv := [(0, .ref (zad G 17)), (1, .int x1)]) rfl ?_
  unfold f_X2_takeFresh at h
  refine zf_iconst (q := 1) rfl dX2_takeFresh_0 ic0 ?_
  refine zf_istore_n (q := 2) (y := (0 : Int32)) (i := 2) (lv1 := [(2, .int (0 : Int32)), (0, .ref (zad G 17)), (1, .int x1)]) rfl dX2_takeFresh_1 rfl (by decide) rfl rfl ?_
  refine zf_iconst (q := 3) rfl dX2_takeFresh_2 ic0 ?_
  refine zf_istore_n (q := 4) (y := (0 : Int32)) (i := 3) (lv1 := [(3, .int (0 : Int32)), (2, .int (0 : Int32)), (0, .ref (zad G 17)), (1, .int x1)]) rfl dX2_takeFresh_3 rfl (by decide) rfl rfl ?_
  exact zf_sub [2, 3, 1, 0] rfl (ok_X2_takeFresh_4 hG N _ _ _ _ _ h)
-- ===== X3_union: NearCopies$Nets.union([II)I
def f_X3_union_30 (N : Nat) (a1 : Nat) (n1 : Nat) (rec5 : Int32 → Int32 → Int32 → ZM → Option (Int32 × ZM)) (x2 : Int32) (x3 : Int32) (x4 : Int32) (σ : ZM) : Option (Int32 × ZM) :=
  (some (x4 + (1 : Int32))).bind fun v1 =>
  rec5 x2 x3 v1 σ
set_option maxRecDepth 100000 in
theorem ok_X3_union_30 {G : ZG} (hG : zSH G = shC) (N : Nat) {d : Nat} {a1 : Nat} {n1 : Nat} (ha1 : (zSH G)[a1]? = some (.inr (.inl (0, n1)))) {rec5 : Int32 → Int32 → Int32 → ZM → Option (Int32 × ZM)} {res : Int32 × ZM} (hr5 : ∀ (x2 : Int32) (x3 : Int32) (x4 : Int32) (σ : ZM), rec5 x2 x3 x4 σ = some res → zF G MX3_union d 5 [(0, .ref (zad G 1)), (1, .ref (zad G a1)), (2, .int x2), (3, .int x3), (4, .int x4)] [] σ (some (.int res.1)) res.2) {x2 : Int32} {x3 : Int32} {x4 : Int32} {σ : ZM} (h : f_X3_union_30 N a1 n1 rec5 x2 x3 x4 σ = some res) : zF G MX3_union d 30 [(0, .ref (zad G 1)), (1, .ref (zad G a1)), (2, .int x2), (3, .int x3), (4, .int x4)] [] σ (some (.int res.1)) res.2 := by
  unfold f_X3_union_30 at h
  obtain ⟨v1, ev1, h⟩ := zb h
  refine zf_iinc 4 (q := 33) (v := v1) (lv1 := [(4, .int v1), (0, .ref (zad G 1)), (1, .ref (zad G a1)), (2, .int x2), (3, .int x3)]) rfl dX3_union_30 rfl (by rw [ic1]; exact ev1) (by decide) rfl ?_
  refine zf_goto (tgt := 5) (by decide) dX3_union_33 ?_
  exact zf_sub [1, 2, 3, 4, 0] rfl (hr5 _ _ _ _ h)
def b_X3_union_5 (N : Nat) (a1 : Nat) (n1 : Nat) (rec5 : Int32 → Int32 → Int32 → ZM → Option (Int32 × ZM)) (x2 : Int32) (x3 : Int32) (x4 : Int32) (σ : ZM) : Option (Int32 × ZM) :=
  if (σ.1 1 0) ≤ x4 then
  (some (x3, σ))
  else
  (if ((x2 >>> (x4 &&& 31)) &&& (1 : Int32)) = 0 then
  (f_X3_union_30 N a1 n1 rec5 x2 x3 x4 σ)
  else
  ((zald σ a1 n1 x4).bind fun v2 =>
  (some (x3 ||| v2)).bind fun v3 =>
  f_X3_union_30 N a1 n1 rec5 x2 v3 x4 σ))
set_option maxRecDepth 100000 in
theorem ok_b_X3_union_5 {G : ZG} (hG : zSH G = shC) (N : Nat) {d : Nat} {a1 : Nat} {n1 : Nat} (ha1 : (zSH G)[a1]? = some (.inr (.inl (0, n1)))) {rec5 : Int32 → Int32 → Int32 → ZM → Option (Int32 × ZM)} {res : Int32 × ZM} (hr5 : ∀ (x2 : Int32) (x3 : Int32) (x4 : Int32) (σ : ZM), rec5 x2 x3 x4 σ = some res → zF G MX3_union d 5 [(0, .ref (zad G 1)), (1, .ref (zad G a1)), (2, .int x2), (3, .int x3), (4, .int x4)] [] σ (some (.int res.1)) res.2) {x2 : Int32} {x3 : Int32} {x4 : Int32} {σ : ZM} (h : b_X3_union_5 N a1 n1 rec5 x2 x3 x4 σ = some res) : zF G MX3_union d 5 [(0, .ref (zad G 1)), (1, .ref (zad G a1)), (2, .int x2), (3, .int x3), (4, .int x4)] [] σ (some (.int res.1)) res.2 := by
  unfold b_X3_union_5 at h
  refine zf_iload 4 (q := 7) rfl dX3_union_5 rfl ?_
  refine zf_aload_n 0 (q := 8) (j := 0) rfl dX3_union_7 rfl rfl ?_
  refine zf_getI (q := 11) rfl dX3_union_8 lf_RX3_27 (sc1 hG) rfl ?_
  refine zf_icmp_ge (q := 14) (tgt := 36) rfl (by decide) dX3_union_11 (fun hc11 => ?_) (fun hc11 => ?_)
  · replace h := (zi h).1 hc11
    refine zf_iload_n 3 (q := 37) (j := 3) rfl dX3_union_36 rfl rfl ?_
    cases h
    exact zf_ireturn dX3_union_37 rfl
  · replace h := (zi h).2 hc11
    refine zf_iload_n 2 (q := 15) (j := 2) rfl dX3_union_14 rfl rfl ?_
    refine zf_iload 4 (q := 17) rfl dX3_union_15 rfl ?_
    refine zf_ishr (q := 18) rfl dX3_union_17 ?_
    refine zf_iconst (q := 19) rfl dX3_union_18 ic1 ?_
    refine zf_iand (q := 20) rfl dX3_union_19 ?_
    refine zf_if_eq (q := 23) (tgt := 30) rfl (by decide) dX3_union_20 (fun hc20 => ?_) (fun hc20 => ?_)
    · replace h := (zi h).1 hc20
      exact zf_sub [0, 1, 2, 3, 4] rfl (ok_X3_union_30 hG N ha1 hr5 h)
    · replace h := (zi h).2 hc20
      refine zf_iload_n 3 (q := 24) (j := 3) rfl dX3_union_23 rfl rfl ?_
      refine zf_aload_n 1 (q := 25) (j := 1) rfl dX3_union_24 rfl rfl ?_
      refine zf_iload 4 (q := 27) rfl dX3_union_25 rfl ?_
      obtain ⟨v2, ev2, h⟩ := zb h
      refine zf_iald (q := 28) rfl dX3_union_27 ha1 ev2 ?_
      refine zf_ior (q := 29) rfl dX3_union_28 ?_
      obtain ⟨v3, ev3, h⟩ := zb h
      refine zf_istore_n (q := 30) (y := v3) (i := 3) (lv1 := [(3, .int v3), (0, .ref (zad G 1)), (1, .ref (zad G a1)), (2, .int x2), (4, .int x4)]) rfl dX3_union_29 rfl (by decide) ev3 rfl ?_
      exact zf_sub [1, 2, 3, 0, 4] rfl (ok_X3_union_30 hG N ha1 hr5 h)
def f_X3_union_5 (N : Nat) (a1 : Nat) (n1 : Nat) : Nat → Int32 → Int32 → Int32 → ZM → Option (Int32 × ZM)
  | 0, _, _, _, _ => none
  | n + 1, x2, x3, x4, σ => b_X3_union_5 N a1 n1 (f_X3_union_5 N a1 n1 n) x2 x3 x4 σ
theorem ok_X3_union_5 {G : ZG} (hG : zSH G = shC) (N : Nat) {d : Nat} {a1 : Nat} {n1 : Nat} (ha1 : (zSH G)[a1]? = some (.inr (.inl (0, n1)))) {res : Int32 × ZM} : ∀ (n : Nat) (x2 : Int32) (x3 : Int32) (x4 : Int32) (σ : ZM), f_X3_union_5 N a1 n1 n x2 x3 x4 σ = some res → zF G MX3_union d 5 [(0, .ref (zad G 1)), (1, .ref (zad G a1)), (2, .int x2), (3, .int x3), (4, .int x4)] [] σ (some (.int res.1)) res.2 := by
  intro n
  induction n with
  | zero => intro x2 x3 x4 σ h; exact absurd h (by simp [f_X3_union_5])
  | succ n ih => intro x2 x3 x4 σ h; rw [f_X3_union_5] at h; exact ok_b_X3_union_5 hG N ha1 ih h
def f_X3_union (N : Nat) (a1 : Nat) (n1 : Nat) (x2 : Int32) (σ : ZM) : Option (Int32 × ZM) :=
  f_X3_union_5 N a1 n1 N x2 (0 : Int32) (0 : Int32) σ
set_option maxRecDepth 100000 in
theorem ok_X3_union {G : ZG} (hG : zSH G = shC) (N : Nat) {d : Nat} (hd : 0 ≤ d) {a1 : Nat} {n1 : Nat} (ha1 : (zSH G)[a1]? = some (.inr (.inl (0, n1)))) {x2 : Int32} {σ : ZM} {res : Int32 × ZM} (h : f_X3_union N a1 n1 x2 σ = some res) : zCt G d MX3_union [.ref (zad G 1), .ref (zad G a1), .int x2] σ (some (.int res.1)) res.2 := by
  refine zct_of (by decide) (Nat.le_of_ble_eq_true rfl) (lv := [(0, .ref (zad G 1)), (1, .ref (zad G a1)), (2, .int x2)]) rfl ?_
  unfold f_X3_union at h
  refine zf_iconst (q := 1) rfl dX3_union_0 ic0 ?_
  refine zf_istore_n (q := 2) (y := (0 : Int32)) (i := 3) (lv1 := [(3, .int (0 : Int32)), (0, .ref (zad G 1)), (1, .ref (zad G a1)), (2, .int x2)]) rfl dX3_union_1 rfl (by decide) rfl rfl ?_
  refine zf_iconst (q := 3) rfl dX3_union_2 ic0 ?_
  refine zf_istore (q := 5) (y := (0 : Int32)) (i := 4) (lv1 := [(4, .int (0 : Int32)), (3, .int (0 : Int32)), (0, .ref (zad G 1)), (1, .ref (zad G a1)), (2, .int x2)]) rfl dX3_union_3 (by decide) rfl rfl ?_
  exact zf_sub [2, 3, 4, 1, 0] rfl (ok_X3_union_5 hG N ha1 _ _ _ _ _ h)
-- ===== X2_settle: NearCopies$Flow.settle(LNearCopies$Words;)I
def f_X2_settle_68 (N : Nat) (w1 : Nat) (rec18 : Int32 → Int32 → ZM → Option (Int32 × ZM)) (rec27 : Int32 → Int32 → Int32 → ZM → Option (Int32 × ZM)) (x2 : Int32) (x3 : Int32) (x4 : Int32) (σ : ZM) : Option (Int32 × ZM) :=
  (some (x4 + (1 : Int32))).bind fun v1 =>
  rec27 x2 x3 v1 σ
set_option maxRecDepth 100000 in
theorem ok_X2_settle_68 {G : ZG} (hG : zSH G = shC) (N : Nat) {d : Nat} (hd : 2 ≤ d) {w1 : Nat} (hw1 : zWd G w1) {rec18 : Int32 → Int32 → ZM → Option (Int32 × ZM)} {rec27 : Int32 → Int32 → Int32 → ZM → Option (Int32 × ZM)} {res : Int32 × ZM} (hr18 : ∀ (x2 : Int32) (x3 : Int32) (σ : ZM), rec18 x2 x3 σ = some res → zF G MX2_settle (d + 1) 18 [(0, .ref (zad G 17)), (1, .ref (zad G w1)), (2, .int x2), (3, .int x3)] [] σ (some (.int res.1)) res.2) (hr27 : ∀ (x2 : Int32) (x3 : Int32) (x4 : Int32) (σ : ZM), rec27 x2 x3 x4 σ = some res → zF G MX2_settle (d + 1) 27 [(0, .ref (zad G 17)), (1, .ref (zad G w1)), (2, .int x2), (3, .int x3), (4, .int x4)] [] σ (some (.int res.1)) res.2) {x2 : Int32} {x3 : Int32} {x4 : Int32} {σ : ZM} (h : f_X2_settle_68 N w1 rec18 rec27 x2 x3 x4 σ = some res) : zF G MX2_settle (d + 1) 68 [(0, .ref (zad G 17)), (1, .ref (zad G w1)), (2, .int x2), (3, .int x3), (4, .int x4)] [] σ (some (.int res.1)) res.2 := by
  unfold f_X2_settle_68 at h
  obtain ⟨v1, ev1, h⟩ := zb h
  refine zf_iinc 4 (q := 71) (v := v1) (lv1 := [(4, .int v1), (0, .ref (zad G 17)), (1, .ref (zad G w1)), (2, .int x2), (3, .int x3)]) rfl dX2_settle_68 rfl (by rw [ic1]; exact ev1) (by decide) rfl ?_
  refine zf_goto (tgt := 27) (by decide) dX2_settle_71 ?_
  exact zf_sub [1, 2, 3, 4, 0] rfl (hr27 _ _ _ _ h)
def b_X2_settle_27 (N : Nat) (w1 : Nat) (rec18 : Int32 → Int32 → ZM → Option (Int32 × ZM)) (rec27 : Int32 → Int32 → Int32 → ZM → Option (Int32 × ZM)) (x2 : Int32) (x3 : Int32) (x4 : Int32) (σ : ZM) : Option (Int32 × ZM) :=
  if (σ.1 1 0) ≤ x4 then
  (zbd (f_X2_takeFresh N x2 σ) fun r2 s3 =>
  if r2 = 0 then
  (some (x3, s3))
  else
  (zbd (f_X3_union N 5 10 r2 s3) fun r4 s5 =>
  (some (x3 + (1 : Int32))).bind fun v6 =>
  rec18 r4 v6 s5))
  else
  (if ((x2 >>> (x4 &&& 31)) &&& (1 : Int32)) = 0 then
  (f_X2_settle_68 N w1 rec18 rec27 x2 x3 x4 σ)
  else
  (zbd (f_X2_hear N w1 x4 σ) fun r7 s8 =>
  zbd (f_X2_pick N x4 s8) fun r9 s10 =>
  (zasJ s10 20 10 x4 r9).bind fun s11 =>
  f_X2_settle_68 N w1 rec18 rec27 x2 x3 x4 s11))
set_option maxRecDepth 100000 in
theorem ok_b_X2_settle_27 {G : ZG} (hG : zSH G = shC) (N : Nat) {d : Nat} (hd : 2 ≤ d) {w1 : Nat} (hw1 : zWd G w1) {rec18 : Int32 → Int32 → ZM → Option (Int32 × ZM)} {rec27 : Int32 → Int32 → Int32 → ZM → Option (Int32 × ZM)} {res : Int32 × ZM} (hr18 : ∀ (x2 : Int32) (x3 : Int32) (σ : ZM), rec18 x2 x3 σ = some res → zF G MX2_settle (d + 1) 18 [(0, .ref (zad G 17)), (1, .ref (zad G w1)), (2, .int x2), (3, .int x3)] [] σ (some (.int res.1)) res.2) (hr27 : ∀ (x2 : Int32) (x3 : Int32) (x4 : Int32) (σ : ZM), rec27 x2 x3 x4 σ = some res → zF G MX2_settle (d + 1) 27 [(0, .ref (zad G 17)), (1, .ref (zad G w1)), (2, .int x2), (3, .int x3), (4, .int x4)] [] σ (some (.int res.1)) res.2) {x2 : Int32} {x3 : Int32} {x4 : Int32} {σ : ZM} (h : b_X2_settle_27 N w1 rec18 rec27 x2 x3 x4 σ = some res) : zF G MX2_settle (d + 1) 27 [(0, .ref (zad G 17)), (1, .ref (zad G w1)), (2, .int x2), (3, .int x3), (4, .int x4)] [] σ (some (.int res.1)) res.2 := by
  unfold b_X2_settle_27 at h
  refine zf_iload 4 (q := 29) rfl dX2_settle_27 rfl ?_
  refine zf_aload_n 0 (q := 30) (j := 0) rfl dX2_settle_29 rfl rfl ?_
  refine zf_getR (q := 33) rfl dX2_settle_30 lf_RX2_28 (sc17 hG) rfl ?_
  refine zf_getI (q := 36) rfl dX2_settle_33 lf_RX2_44 (sc1 hG) rfl ?_
  refine zf_icmp_ge (q := 39) (tgt := 74) rfl (by decide) dX2_settle_36 (fun hc36 => ?_) (fun hc36 => ?_)
  · replace h := (zi h).1 hc36
    refine zf_aload_n 0 (q := 75) (j := 0) rfl dX2_settle_74 rfl rfl ?_
    refine zf_iload_n 2 (q := 76) (j := 2) rfl dX2_settle_75 rfl rfl ?_
    obtain ⟨r2, s3, es3, h⟩ := zc h
    refine zf_callV (q := 79) (As := [.int x2]) (rest := []) (st1 := [.int r2]) rfl dX2_settle_76 lv_RX2_72 (sc17 hG) rfl rfl (Nat.le_of_ble_eq_true rfl) (ok_X2_takeFresh hG N (Nat.le_trans (by decide) hd) es3) rfl ?_
    refine zf_istore (q := 81) (y := r2) (i := 4) (lv1 := [(4, .int r2), (0, .ref (zad G 17)), (1, .ref (zad G w1)), (2, .int x2), (3, .int x3)]) rfl dX2_settle_79 (by decide) rfl rfl ?_
    refine zf_iload 0 (q := 83) rfl dX2_settle_81 rfl ?_
    refine zf_if_ne (q := 86) (tgt := 88) rfl (by decide) dX2_settle_83 (fun hc83 => ?_) (fun hc83 => ?_)
    · replace h := (zi h).2 hc83
      refine zf_aload_n 1 (q := 89) (j := 0) rfl dX2_settle_88 rfl rfl ?_
      refine zf_getR (q := 92) rfl dX2_settle_89 lf_RX2_28 (sc17 hG) rfl ?_
      refine zf_aload_n 1 (q := 93) (j := 0) rfl dX2_settle_92 rfl rfl ?_
      refine zf_getR (q := 96) rfl dX2_settle_93 lf_RX2_28 (sc17 hG) rfl ?_
      refine zf_getR (q := 99) rfl dX2_settle_96 lf_RX2_75 (sc1 hG) rfl ?_
      refine zf_iload 0 (q := 101) rfl dX2_settle_99 rfl ?_
      obtain ⟨r4, s5, es5, h⟩ := zc h
      refine zf_callV (q := 104) (As := [.ref (zad G 5), .int r2]) (rest := []) (st1 := [.int r4]) rfl dX2_settle_101 lv_RX2_78 (sc1 hG) rfl rfl (Nat.le_of_ble_eq_true rfl) (ok_X3_union hG N (Nat.le_trans (by decide) hd) (sc5 hG) es5) rfl ?_
      refine zf_istore_n (q := 105) (y := r4) (i := 2) (lv1 := [(2, .int r4), (4, .int r2), (0, .ref (zad G 17)), (1, .ref (zad G w1)), (3, .int x3)]) rfl dX2_settle_104 rfl (by decide) rfl rfl ?_
      obtain ⟨v6, ev6, h⟩ := zb h
      refine zf_iinc 4 (q := 108) (v := v6) (lv1 := [(3, .int v6), (2, .int r4), (4, .int r2), (0, .ref (zad G 17)), (1, .ref (zad G w1))]) rfl dX2_settle_105 rfl (by rw [ic1]; exact ev6) (by decide) rfl ?_
      refine zf_goto (tgt := 18) (by decide) dX2_settle_108 ?_
      exact zf_sub [3, 4, 1, 0] rfl (hr18 _ _ _ h)
    · replace h := (zi h).1 hc83
      refine zf_iload_n 4 (q := 87) (j := 3) rfl dX2_settle_86 rfl rfl ?_
      cases h
      exact zf_ireturn dX2_settle_87 rfl
  · replace h := (zi h).2 hc36
    refine zf_iload_n 2 (q := 40) (j := 2) rfl dX2_settle_39 rfl rfl ?_
    refine zf_iload 4 (q := 42) rfl dX2_settle_40 rfl ?_
    refine zf_ishr (q := 43) rfl dX2_settle_42 ?_
    refine zf_iconst (q := 44) rfl dX2_settle_43 ic1 ?_
    refine zf_iand (q := 45) rfl dX2_settle_44 ?_
    refine zf_if_eq (q := 48) (tgt := 68) rfl (by decide) dX2_settle_45 (fun hc45 => ?_) (fun hc45 => ?_)
    · replace h := (zi h).1 hc45
      exact zf_sub [0, 1, 2, 3, 4] rfl (ok_X2_settle_68 hG N hd hw1 hr18 hr27 h)
    · replace h := (zi h).2 hc45
      refine zf_aload_n 0 (q := 49) (j := 0) rfl dX2_settle_48 rfl rfl ?_
      refine zf_aload_n 1 (q := 50) (j := 1) rfl dX2_settle_49 rfl rfl ?_
      refine zf_iload 4 (q := 52) rfl dX2_settle_50 rfl ?_
      obtain ⟨r7, s8, es8, h⟩ := zc h
      refine zf_callV (q := 55) (As := [.ref (zad G w1), .int x4]) (rest := []) (st1 := []) rfl dX2_settle_52 lv_RX2_64 (sc17 hG) rfl rfl (Nat.le_of_ble_eq_true rfl) (ok_X2_hear hG N (Nat.le_trans (by decide) hd) hw1 es8) rfl ?_
      refine zf_aload_n 0 (q := 56) (j := 0) rfl dX2_settle_55 rfl rfl ?_
      refine zf_getR (q := 59) rfl dX2_settle_56 lf_RX2_19 (sc17 hG) rfl ?_
      refine zf_iload 4 (q := 61) rfl dX2_settle_59 rfl ?_
      refine zf_aload_n 0 (q := 62) (j := 0) rfl dX2_settle_61 rfl rfl ?_
      refine zf_iload 4 (q := 64) rfl dX2_settle_62 rfl ?_
      obtain ⟨r9, s10, es10, h⟩ := zc h
      refine zf_callV (q := 67) (As := [.int x4]) (rest := [.int x4, .ref (zad G 20)]) (st1 := [.long r9, .int x4, .ref (zad G 20)]) rfl dX2_settle_64 lv_RX2_68 (sc17 hG) rfl rfl (Nat.le_of_ble_eq_true rfl) (ok_X2_pick hG N (Nat.le_trans (by decide) hd) es10) rfl ?_
      obtain ⟨s11, es11, h⟩ := zb h
      refine zf_last (q := 68) rfl dX2_settle_67 (sc20 hG) es11 ?_
      exact zf_sub [0, 1, 2, 3, 4] rfl (ok_X2_settle_68 hG N hd hw1 hr18 hr27 h)
def f_X2_settle_27 (N : Nat) (w1 : Nat) (rec18 : Int32 → Int32 → ZM → Option (Int32 × ZM)) : Nat → Int32 → Int32 → Int32 → ZM → Option (Int32 × ZM)
  | 0, _, _, _, _ => none
  | n + 1, x2, x3, x4, σ => b_X2_settle_27 N w1 rec18 (f_X2_settle_27 N w1 rec18 n) x2 x3 x4 σ
theorem ok_X2_settle_27 {G : ZG} (hG : zSH G = shC) (N : Nat) {d : Nat} (hd : 2 ≤ d) {w1 : Nat} (hw1 : zWd G w1) {rec18 : Int32 → Int32 → ZM → Option (Int32 × ZM)} {res : Int32 × ZM} (hr18 : ∀ (x2 : Int32) (x3 : Int32) (σ : ZM), rec18 x2 x3 σ = some res → zF G MX2_settle (d + 1) 18 [(0, .ref (zad G 17)), (1, .ref (zad G w1)), (2, .int x2), (3, .int x3)] [] σ (some (.int res.1)) res.2) : ∀ (n : Nat) (x2 : Int32) (x3 : Int32) (x4 : Int32) (σ : ZM), f_X2_settle_27 N w1 rec18 n x2 x3 x4 σ = some res → zF G MX2_settle (d + 1) 27 [(0, .ref (zad G 17)), (1, .ref (zad G w1)), (2, .int x2), (3, .int x3), (4, .int x4)] [] σ (some (.int res.1)) res.2 := by
  intro n
  induction n with
  | zero => intro x2 x3 x4 σ h; exact absurd h (by simp [f_X2_settle_27])
  | succ n ih => intro x2 x3 x4 σ h; rw [f_X2_settle_27] at h; exact ok_b_X2_settle_27 hG N hd hw1 hr18 ih h
def b_X2_settle_18 (N : Nat) (w1 : Nat) (rec18 : Int32 → Int32 → ZM → Option (Int32 × ZM)) (x2 : Int32) (x3 : Int32) (σ : ZM) : Option (Int32 × ZM) :=
  if (40 : Int32) < x3 then
  (some ((-9 : Int32), σ))
  else
  (f_X2_settle_27 N w1 rec18 N x2 x3 (0 : Int32) σ)
set_option maxRecDepth 100000 in
theorem ok_b_X2_settle_18 {G : ZG} (hG : zSH G = shC) (N : Nat) {d : Nat} (hd : 2 ≤ d) {w1 : Nat} (hw1 : zWd G w1) {rec18 : Int32 → Int32 → ZM → Option (Int32 × ZM)} {res : Int32 × ZM} (hr18 : ∀ (x2 : Int32) (x3 : Int32) (σ : ZM), rec18 x2 x3 σ = some res → zF G MX2_settle (d + 1) 18 [(0, .ref (zad G 17)), (1, .ref (zad G w1)), (2, .int x2), (3, .int x3)] [] σ (some (.int res.1)) res.2) {x2 : Int32} {x3 : Int32} {σ : ZM} (h : b_X2_settle_18 N w1 rec18 x2 x3 σ = some res) : zF G MX2_settle (d + 1) 18 [(0, .ref (zad G 17)), (1, .ref (zad G w1)), (2, .int x2), (3, .int x3)] [] σ (some (.int res.1)) res.2 := by
  unfold b_X2_settle_18 at h
  refine zf_iload_n 3 (q := 19) (j := 3) rfl dX2_settle_18 rfl rfl ?_
  refine zf_bipush (q := 21) rfl dX2_settle_19 bp40 ?_
  refine zf_icmp_gt (q := 24) (tgt := 111) rfl (by decide) dX2_settle_21 (fun hc21 => ?_) (fun hc21 => ?_)
  · replace h := (zi h).1 hc21
    refine zf_bipush (q := 113) rfl dX2_settle_111 bpm9 ?_
    cases h
    exact zf_ireturn dX2_settle_113 rfl
  · replace h := (zi h).2 hc21
    refine zf_iconst (q := 25) rfl dX2_settle_24 ic0 ?_
    refine zf_istore (q := 27) (y := (0 : Int32)) (i := 4) (lv1 := [(4, .int (0 : Int32)), (0, .ref (zad G 17)), (1, .ref (zad G w1)), (2, .int x2), (3, .int x3)]) rfl dX2_settle_25 (by decide) rfl rfl ?_
    exact zf_sub [1, 2, 3, 4, 0] rfl (ok_X2_settle_27 hG N hd hw1 hr18 _ _ _ _ _ h)
def f_X2_settle_18 (N : Nat) (w1 : Nat) : Nat → Int32 → Int32 → ZM → Option (Int32 × ZM)
  | 0, _, _, _ => none
  | n + 1, x2, x3, σ => b_X2_settle_18 N w1 (f_X2_settle_18 N w1 n) x2 x3 σ
theorem ok_X2_settle_18 {G : ZG} (hG : zSH G = shC) (N : Nat) {d : Nat} (hd : 2 ≤ d) {w1 : Nat} (hw1 : zWd G w1) {res : Int32 × ZM} : ∀ (n : Nat) (x2 : Int32) (x3 : Int32) (σ : ZM), f_X2_settle_18 N w1 n x2 x3 σ = some res → zF G MX2_settle (d + 1) 18 [(0, .ref (zad G 17)), (1, .ref (zad G w1)), (2, .int x2), (3, .int x3)] [] σ (some (.int res.1)) res.2 := by
  intro n
  induction n with
  | zero => intro x2 x3 σ h; exact absurd h (by simp [f_X2_settle_18])
  | succ n ih => intro x2 x3 σ h; rw [f_X2_settle_18] at h; exact ok_b_X2_settle_18 hG N hd hw1 ih h
def f_X2_settle (N : Nat) (w1 : Nat) (σ : ZM) : Option (Int32 × ZM) :=
  zbd (f_J7_fill_d0a16 N 19 10 (0 : Int64) σ) fun r12 s13 =>
  zbd (f_X3_everyone N s13) fun r14 s15 =>
  f_X2_settle_18 N w1 N r14 (0 : Int32) s15
set_option maxRecDepth 100000 in
theorem ok_X2_settle {G : ZG} (hG : zSH G = shC) (N : Nat) {d : Nat} (hd : 3 ≤ d) {w1 : Nat} (hw1 : zWd G w1) {σ : ZM} {res : Int32 × ZM} (h : f_X2_settle N w1 σ = some res) : zCt G d MX2_settle [.ref (zad G 17), .ref (zad G w1)] σ (some (.int res.1)) res.2 := by
  obtain ⟨d, rfl⟩ : ∃ k, d = k + 1 := ⟨d - 1, by omega⟩
  have hd : 2 ≤ d := by omega
  refine zct_of (by decide) (Nat.le_of_ble_eq_true rfl) (lv := [(0, .ref (zad G 17)), (1, .ref (zad G w1))]) rfl ?_
  unfold f_X2_settle at h
  refine zf_aload_n 0 (q := 1) (j := 0) rfl dX2_settle_0 rfl rfl ?_
  refine zf_getR (q := 4) rfl dX2_settle_1 lf_RX2_15 (sc17 hG) rfl ?_
  refine zf_lconst (q := 5) (v := 0) rfl dX2_settle_4 (by decide) ?_
  obtain ⟨r12, s13, es13, h⟩ := zc h
  refine zf_callS (q := 8) (As := [.ref (zad G 19), .long (0 : Int64)]) (rest := []) (st1 := []) rfl dX2_settle_5 ls_RX2_54 rfl rfl (Nat.le_of_ble_eq_true rfl) (ok_J7_fill_d0a16 N (Nat.le_trans (by decide) hd) (sc19 hG) es13) rfl ?_
  refine zf_aload_n 0 (q := 9) (j := 0) rfl dX2_settle_8 rfl rfl ?_
  refine zf_getR (q := 12) rfl dX2_settle_9 lf_RX2_28 (sc17 hG) rfl ?_
  obtain ⟨r14, s15, es15, h⟩ := zc h
  refine zf_callV (q := 15) (As := []) (rest := []) (st1 := [.int r14]) rfl dX2_settle_12 lv_RX2_60 (sc1 hG) rfl rfl (Nat.le_of_ble_eq_true rfl) (ok_X3_everyone hG N (Nat.le_trans (by decide) hd) es15) rfl ?_
  refine zf_istore_n (q := 16) (y := r14) (i := 2) (lv1 := [(2, .int r14), (0, .ref (zad G 17)), (1, .ref (zad G w1))]) rfl dX2_settle_15 rfl (by decide) rfl rfl ?_
  refine zf_iconst (q := 17) rfl dX2_settle_16 ic0 ?_
  refine zf_istore_n (q := 18) (y := (0 : Int32)) (i := 3) (lv1 := [(3, .int (0 : Int32)), (2, .int r14), (0, .ref (zad G 17)), (1, .ref (zad G w1))]) rfl dX2_settle_17 rfl (by decide) rfl rfl ?_
  exact zf_sub [2, 3, 1, 0] rfl (ok_X2_settle_18 hG N hd hw1 _ _ _ _ h)
