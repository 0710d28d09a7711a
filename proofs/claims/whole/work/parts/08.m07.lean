-- ===== X9_ones: NearCopiesModel.ones(I)I
def f_X9_ones (N : Nat) (x0 : Int32) (σ : ZM) : Option (Int32 × ZM) :=
  some (((((x0 &&& (1 : Int32)) + ((x0 >>> ((1 : Int32) &&& 31)) &&& (1 : Int32))) + ((x0 >>> ((2 : Int32) &&& 31)) &&& (1 : Int32))) + ((x0 >>> ((3 : Int32) &&& 31)) &&& (1 : Int32))), σ)
set_option maxRecDepth 100000 in
theorem ok_X9_ones {G : ZG} (hG : zSH G = shM) (N : Nat) {d : Nat} (hd : 0 ≤ d) {x0 : Int32} {σ : ZM} {res : Int32 × ZM} (h : f_X9_ones N x0 σ = some res) : zCt G d MX9_ones [.int x0] σ (some (.int res.1)) res.2 := by
  refine zct_of (by decide) (Nat.le_of_ble_eq_true rfl) (lv := [(0, .int x0)]) rfl ?_
  unfold f_X9_ones at h
  refine zf_iload_n 0 (q := 1) (j := 0) rfl dX9_ones_0 rfl rfl ?_
  refine zf_iconst (q := 2) rfl dX9_ones_1 ic1 ?_
  refine zf_iand (q := 3) rfl dX9_ones_2 ?_
  refine zf_iload_n 0 (q := 4) (j := 0) rfl dX9_ones_3 rfl rfl ?_
  refine zf_iconst (q := 5) rfl dX9_ones_4 ic1 ?_
  refine zf_ishr (q := 6) rfl dX9_ones_5 ?_
  refine zf_iconst (q := 7) rfl dX9_ones_6 ic1 ?_
  refine zf_iand (q := 8) rfl dX9_ones_7 ?_
  refine zf_iadd (q := 9) rfl dX9_ones_8 ?_
  refine zf_iload_n 0 (q := 10) (j := 0) rfl dX9_ones_9 rfl rfl ?_
  refine zf_iconst (q := 11) rfl dX9_ones_10 ic2 ?_
  refine zf_ishr (q := 12) rfl dX9_ones_11 ?_
  refine zf_iconst (q := 13) rfl dX9_ones_12 ic1 ?_
  refine zf_iand (q := 14) rfl dX9_ones_13 ?_
  refine zf_iadd (q := 15) rfl dX9_ones_14 ?_
  refine zf_iload_n 0 (q := 16) (j := 0) rfl dX9_ones_15 rfl rfl ?_
  refine zf_iconst (q := 17) rfl dX9_ones_16 ic3 ?_
  refine zf_ishr (q := 18) rfl dX9_ones_17 ?_
  refine zf_iconst (q := 19) rfl dX9_ones_18 ic1 ?_
  refine zf_iand (q := 20) rfl dX9_ones_19 ?_
  refine zf_iadd (q := 21) rfl dX9_ones_20 ?_
  cases h
  exact zf_ireturn dX9_ones_21 rfl
-- ===== X9_caseMany: NearCopiesModel.caseMany()I
def f_X9_caseMany_37 (N : Nat) (x1 : Int32) (σ : ZM) : Option (Int32 × ZM) :=
  some (x1, σ)
set_option maxRecDepth 100000 in
theorem ok_X9_caseMany_37 {G : ZG} (hG : zSH G = shM) (N : Nat) {d : Nat} (hd : 0 ≤ d) {res : Int32 × ZM} {x1 : Int32} {σ : ZM} (h : f_X9_caseMany_37 N x1 σ = some res) : zF G MX9_caseMany (d + 1) 37 [(1, .int x1)] [] σ (some (.int res.1)) res.2 := by
  unfold f_X9_caseMany_37 at h
  refine zf_iload_n 0 (q := 38) (j := 1) rfl dX9_caseMany_37 rfl rfl ?_
  cases h
  exact zf_ireturn dX9_caseMany_38 rfl
def b_X9_caseMany_4 (N : Nat) (rec4 : Int32 → Int32 → ZM → Option (Int32 × ZM)) (x1 : Int32) (x2 : Int32) (σ : ZM) : Option (Int32 × ZM) :=
  if (σ.1 0 0) ≤ x2 then
  (f_X9_caseMany_37 N x1 σ)
  else
  (if (256 : Int32) < x1 then
  (f_X9_caseMany_37 N x1 σ)
  else
  ((zald σ 3 10 x2).bind fun v1 =>
  zbd (f_X9_ones N v1 σ) fun r2 s3 =>
  (some (x1 * r2)).bind fun v4 =>
  (some (x2 + (1 : Int32))).bind fun v5 =>
  rec4 v4 v5 s3))
set_option maxRecDepth 100000 in
theorem ok_b_X9_caseMany_4 {G : ZG} (hG : zSH G = shM) (N : Nat) {d : Nat} (hd : 0 ≤ d) {rec4 : Int32 → Int32 → ZM → Option (Int32 × ZM)} {res : Int32 × ZM} (hr4 : ∀ (x1 : Int32) (x2 : Int32) (σ : ZM), rec4 x1 x2 σ = some res → zF G MX9_caseMany (d + 1) 4 [(0, .ref (zad G 0)), (1, .int x1), (2, .int x2)] [] σ (some (.int res.1)) res.2) {x1 : Int32} {x2 : Int32} {σ : ZM} (h : b_X9_caseMany_4 N rec4 x1 x2 σ = some res) : zF G MX9_caseMany (d + 1) 4 [(0, .ref (zad G 0)), (1, .int x1), (2, .int x2)] [] σ (some (.int res.1)) res.2 := by
  unfold b_X9_caseMany_4 at h
  refine zf_iload_n 2 (q := 5) (j := 2) rfl dX9_caseMany_4 rfl rfl ?_
  refine zf_aload_n 0 (q := 6) (j := 0) rfl dX9_caseMany_5 rfl rfl ?_
  refine zf_getI (q := 9) rfl dX9_caseMany_6 lf_RX9_132 (sm0 hG) rfl ?_
  refine zf_icmp_ge (q := 12) (tgt := 37) rfl (by decide) dX9_caseMany_9 (fun hc9 => ?_) (fun hc9 => ?_)
  · replace h := (zi h).1 hc9
    exact zf_sub [1] rfl (ok_X9_caseMany_37 hG N hd h)
  · replace h := (zi h).2 hc9
    refine zf_iload_n 1 (q := 13) (j := 1) rfl dX9_caseMany_12 rfl rfl ?_
    refine zf_sipush (q := 16) rfl dX9_caseMany_13 sp256 ?_
    refine zf_icmp_gt (q := 19) (tgt := 37) rfl (by decide) dX9_caseMany_16 (fun hc16 => ?_) (fun hc16 => ?_)
    · replace h := (zi h).1 hc16
      exact zf_sub [1] rfl (ok_X9_caseMany_37 hG N hd h)
    · replace h := (zi h).2 hc16
      refine zf_iload_n 1 (q := 20) (j := 1) rfl dX9_caseMany_19 rfl rfl ?_
      refine zf_aload_n 0 (q := 21) (j := 0) rfl dX9_caseMany_20 rfl rfl ?_
      refine zf_getR (q := 24) rfl dX9_caseMany_21 lf_RX9_16 (sm0 hG) rfl ?_
      refine zf_iload_n 2 (q := 25) (j := 2) rfl dX9_caseMany_24 rfl rfl ?_
      obtain ⟨v1, ev1, h⟩ := zb h
      refine zf_iald (q := 26) rfl dX9_caseMany_25 (sm3 hG) ev1 ?_
      obtain ⟨r2, s3, es3, h⟩ := zc h
      refine zf_callS (q := 29) (As := [.int v1]) (rest := [.int x1]) (st1 := [.int r2, .int x1]) rfl dX9_caseMany_26 ls_RX9_241 rfl rfl (Nat.le_of_ble_eq_true rfl) (ok_X9_ones hG N (Nat.le_trans (by decide) hd) es3) rfl ?_
      refine zf_imul (q := 30) rfl dX9_caseMany_29 ?_
      obtain ⟨v4, ev4, h⟩ := zb h
      refine zf_istore_n (q := 31) (y := v4) (i := 1) (lv1 := [(1, .int v4), (0, .ref (zad G 0)), (2, .int x2)]) rfl dX9_caseMany_30 rfl (by decide) ev4 rfl ?_
      obtain ⟨v5, ev5, h⟩ := zb h
      refine zf_iinc 2 (q := 34) (v := v5) (lv1 := [(2, .int v5), (1, .int v4), (0, .ref (zad G 0))]) rfl dX9_caseMany_31 rfl (by rw [ic1]; exact ev5) (by decide) rfl ?_
      refine zf_goto (tgt := 4) (by decide) dX9_caseMany_34 ?_
      exact zf_sub [2, 1, 0] rfl (hr4 _ _ _ h)
def f_X9_caseMany_4 (N : Nat) : Nat → Int32 → Int32 → ZM → Option (Int32 × ZM)
  | 0, _, _, _ => none
  | n + 1, x1, x2, σ => b_X9_caseMany_4 N (f_X9_caseMany_4 N n) x1 x2 σ
theorem ok_X9_caseMany_4 {G : ZG} (hG : zSH G = shM) (N : Nat) {d : Nat} (hd : 0 ≤ d) {res : Int32 × ZM} : ∀ (n : Nat) (x1 : Int32) (x2 : Int32) (σ : ZM), f_X9_caseMany_4 N n x1 x2 σ = some res → zF G MX9_caseMany (d + 1) 4 [(0, .ref (zad G 0)), (1, .int x1), (2, .int x2)] [] σ (some (.int res.1)) res.2 := by
  intro n
  induction n with
  | zero => intro x1 x2 σ h; exact absurd h (by simp [f_X9_caseMany_4])
  | succ n ih => intro x1 x2 σ h; rw [f_X9_caseMany_4] at h; exact ok_b_X9_caseMany_4 hG N hd ih h
def f_X9_caseMany (N : Nat) (σ : ZM) : Option (Int32 × ZM) :=
  f_X9_caseMany_4 N N (1 : Int32) (0 : Int32) σ
set_option maxRecDepth 100000 in
theorem ok_X9_caseMany {G : ZG} (hG : zSH G = shM) (N : Nat) {d : Nat} (hd : 1 ≤ d) {σ : ZM} {res : Int32 × ZM} (h : f_X9_caseMany N σ = some res) : zCt G d MX9_caseMany [.ref (zad G 0)] σ (some (.int res.1)) res.2 := by
  obtain ⟨d, rfl⟩ : ∃ k, d = k + 1 := ⟨d - 1, by omega⟩
  have hd : 0 ≤ d := by omega
  refine zct_of (by decide) (Nat.le_of_ble_eq_true rfl) (lv := [(0, .ref (zad G 0))]) rfl ?_
  unfold f_X9_caseMany at h
  refine zf_iconst (q := 1) rfl dX9_caseMany_0 ic1 ?_
  refine zf_istore_n (q := 2) (y := (1 : Int32)) (i := 1) (lv1 := [(1, .int (1 : Int32)), (0, .ref (zad G 0))]) rfl dX9_caseMany_1 rfl (by decide) rfl rfl ?_
  refine zf_iconst (q := 3) rfl dX9_caseMany_2 ic0 ?_
  refine zf_istore_n (q := 4) (y := (0 : Int32)) (i := 2) (lv1 := [(2, .int (0 : Int32)), (1, .int (1 : Int32)), (0, .ref (zad G 0))]) rfl dX9_caseMany_3 rfl (by decide) rfl rfl ?_
  exact zf_sub [2, 1, 0] rfl (ok_X9_caseMany_4 hG N hd _ _ _ _ h)
-- ===== X9_cases: NearCopiesModel.cases()I
def f_X9_cases (N : Nat) (σ : ZM) : Option (Int32 × ZM) :=
  zbd (f_X9_caseMany N σ) fun r1 s2 =>
  if r1 ≤ (256 : Int32) then
  (some (r1, s2))
  else
  (some ((-5 : Int32), s2))
set_option maxRecDepth 100000 in
theorem ok_X9_cases {G : ZG} (hG : zSH G = shM) (N : Nat) {d : Nat} (hd : 2 ≤ d) {σ : ZM} {res : Int32 × ZM} (h : f_X9_cases N σ = some res) : zCt G d MX9_cases [.ref (zad G 0)] σ (some (.int res.1)) res.2 := by
  obtain ⟨d, rfl⟩ : ∃ k, d = k + 1 := ⟨d - 1, by omega⟩
  have hd : 1 ≤ d := by omega
  refine zct_of (by decide) (Nat.le_of_ble_eq_true rfl) (lv := [(0, .ref (zad G 0))]) rfl ?_
  unfold f_X9_cases at h
  refine zf_aload_n 0 (q := 1) (j := 0) rfl dX9_cases_0 rfl rfl ?_
  obtain ⟨r1, s2, es2, h⟩ := zc h
  refine zf_callV (q := 4) (As := []) (rest := []) (st1 := [.int r1]) rfl dX9_cases_1 lv_RX9_244 (sm0 hG) rfl rfl (Nat.le_of_ble_eq_true rfl) (ok_X9_caseMany hG N (Nat.le_trans (by decide) hd) es2) rfl ?_
  refine zf_istore_n (q := 5) (y := r1) (i := 1) (lv1 := [(1, .int r1), (0, .ref (zad G 0))]) rfl dX9_cases_4 rfl (by decide) rfl rfl ?_
  refine zf_iload_n 0 (q := 6) (j := 1) rfl dX9_cases_5 rfl rfl ?_
  refine zf_sipush (q := 9) rfl dX9_cases_6 sp256 ?_
  refine zf_icmp_le (q := 12) (tgt := 17) rfl (by decide) dX9_cases_9 (fun hc9 => ?_) (fun hc9 => ?_)
  · replace h := (zi h).1 hc9
    refine zf_iload_n 0 (q := 18) (j := 1) rfl dX9_cases_17 rfl rfl ?_
    cases h
    exact zf_ireturn dX9_cases_18 rfl
  · replace h := (zi h).2 hc9
    refine zf_bipush (q := 14) rfl dX9_cases_12 bpm5 ?_
    refine zf_goto (tgt := 18) (by decide) dX9_cases_14 ?_
    cases h
    exact zf_ireturn dX9_cases_18 rfl
-- ===== X9_askCase: NearCopiesModel.askCase(I)V
def b_X9_askCase_48 (N : Nat) (rec4 : Int32 → Int32 → ZM → Option (Unit × ZM)) (rec48 : Int32 → Int32 → Int32 → Int32 → ZM → Option (Unit × ZM)) (x2 : Int32) (x3 : Int32) (x4 : Int32) (x5 : Int32) (σ : ZM) : Option (Unit × ZM) :=
  if x4 ≤ 0 then
  ((zast σ 16 10 x3 x5).bind fun s1 =>
  (some (x3 + (1 : Int32))).bind fun v2 =>
  rec4 x2 v2 s1)
  else
  ((some (x5 + (1 : Int32))).bind fun v3 =>
  (zald σ 3 10 x3).bind fun v4 =>
  (some (x4 - ((v4 >>> (v3 &&& 31)) &&& (1 : Int32)))).bind fun v5 =>
  rec48 x2 x3 v5 v3 σ)
set_option maxRecDepth 100000 in
theorem ok_b_X9_askCase_48 {G : ZG} (hG : zSH G = shM) (N : Nat) {d : Nat} (hd : 0 ≤ d) {rec4 : Int32 → Int32 → ZM → Option (Unit × ZM)} {rec48 : Int32 → Int32 → Int32 → Int32 → ZM → Option (Unit × ZM)} {res : Unit × ZM} (hr4 : ∀ (x2 : Int32) (x3 : Int32) (σ : ZM), rec4 x2 x3 σ = some res → zF G MX9_askCase (d + 1) 4 [(0, .ref (zad G 0)), (2, .int x2), (3, .int x3)] [] σ none res.2) (hr48 : ∀ (x2 : Int32) (x3 : Int32) (x4 : Int32) (x5 : Int32) (σ : ZM), rec48 x2 x3 x4 x5 σ = some res → zF G MX9_askCase (d + 1) 48 [(0, .ref (zad G 0)), (2, .int x2), (3, .int x3), (4, .int x4), (5, .int x5)] [] σ none res.2) {x2 : Int32} {x3 : Int32} {x4 : Int32} {x5 : Int32} {σ : ZM} (h : b_X9_askCase_48 N rec4 rec48 x2 x3 x4 x5 σ = some res) : zF G MX9_askCase (d + 1) 48 [(0, .ref (zad G 0)), (2, .int x2), (3, .int x3), (4, .int x4), (5, .int x5)] [] σ none res.2 := by
  unfold b_X9_askCase_48 at h
  refine zf_iload 3 (q := 50) rfl dX9_askCase_48 rfl ?_
  refine zf_if_le (q := 53) (tgt := 75) rfl (by decide) dX9_askCase_50 (fun hc50 => ?_) (fun hc50 => ?_)
  · replace h := (zi h).1 hc50
    refine zf_aload_n 0 (q := 76) (j := 0) rfl dX9_askCase_75 rfl rfl ?_
    refine zf_getR (q := 79) rfl dX9_askCase_76 lf_RX9_56 (sm0 hG) rfl ?_
    refine zf_iload_n 2 (q := 80) (j := 3) rfl dX9_askCase_79 rfl rfl ?_
    refine zf_iload 4 (q := 82) rfl dX9_askCase_80 rfl ?_
    obtain ⟨s1, es1, h⟩ := zb h
    refine zf_iast (q := 83) rfl dX9_askCase_82 (sm16 hG) es1 ?_
    obtain ⟨v2, ev2, h⟩ := zb h
    refine zf_iinc 2 (q := 86) (v := v2) (lv1 := [(3, .int v2), (0, .ref (zad G 0)), (2, .int x2), (4, .int x4), (5, .int x5)]) rfl dX9_askCase_83 rfl (by rw [ic1]; exact ev2) (by decide) rfl ?_
    refine zf_goto (tgt := 4) (by decide) dX9_askCase_86 ?_
    exact zf_sub [1, 2, 0] rfl (hr4 _ _ _ h)
  · replace h := (zi h).2 hc50
    obtain ⟨v3, ev3, h⟩ := zb h
    refine zf_iinc 4 (q := 56) (v := v3) (lv1 := [(5, .int v3), (0, .ref (zad G 0)), (2, .int x2), (3, .int x3), (4, .int x4)]) rfl dX9_askCase_53 rfl (by rw [ic1]; exact ev3) (by decide) rfl ?_
    refine zf_iload 4 (q := 58) rfl dX9_askCase_56 rfl ?_
    refine zf_aload_n 1 (q := 59) (j := 0) rfl dX9_askCase_58 rfl rfl ?_
    refine zf_getR (q := 62) rfl dX9_askCase_59 lf_RX9_16 (sm0 hG) rfl ?_
    refine zf_iload_n 3 (q := 63) (j := 3) rfl dX9_askCase_62 rfl rfl ?_
    obtain ⟨v4, ev4, h⟩ := zb h
    refine zf_iald (q := 64) rfl dX9_askCase_63 (sm3 hG) ev4 ?_
    refine zf_iload 0 (q := 66) rfl dX9_askCase_64 rfl ?_
    refine zf_ishr (q := 67) rfl dX9_askCase_66 ?_
    refine zf_iconst (q := 68) rfl dX9_askCase_67 ic1 ?_
    refine zf_iand (q := 69) rfl dX9_askCase_68 ?_
    refine zf_isub (q := 70) rfl dX9_askCase_69 ?_
    obtain ⟨v5, ev5, h⟩ := zb h
    refine zf_istore (q := 72) (y := v5) (i := 4) (lv1 := [(4, .int v5), (5, .int v3), (0, .ref (zad G 0)), (2, .int x2), (3, .int x3)]) rfl dX9_askCase_70 (by decide) ev5 rfl ?_
    refine zf_goto (tgt := 48) (by decide) dX9_askCase_72 ?_
    exact zf_sub [2, 3, 4, 0, 1] rfl (hr48 _ _ _ _ _ h)
def f_X9_askCase_48 (N : Nat) (rec4 : Int32 → Int32 → ZM → Option (Unit × ZM)) : Nat → Int32 → Int32 → Int32 → Int32 → ZM → Option (Unit × ZM)
  | 0, _, _, _, _, _ => none
  | n + 1, x2, x3, x4, x5, σ => b_X9_askCase_48 N rec4 (f_X9_askCase_48 N rec4 n) x2 x3 x4 x5 σ
theorem ok_X9_askCase_48 {G : ZG} (hG : zSH G = shM) (N : Nat) {d : Nat} (hd : 0 ≤ d) {rec4 : Int32 → Int32 → ZM → Option (Unit × ZM)} {res : Unit × ZM} (hr4 : ∀ (x2 : Int32) (x3 : Int32) (σ : ZM), rec4 x2 x3 σ = some res → zF G MX9_askCase (d + 1) 4 [(0, .ref (zad G 0)), (2, .int x2), (3, .int x3)] [] σ none res.2) : ∀ (n : Nat) (x2 : Int32) (x3 : Int32) (x4 : Int32) (x5 : Int32) (σ : ZM), f_X9_askCase_48 N rec4 n x2 x3 x4 x5 σ = some res → zF G MX9_askCase (d + 1) 48 [(0, .ref (zad G 0)), (2, .int x2), (3, .int x3), (4, .int x4), (5, .int x5)] [] σ none res.2 := by
  intro n
  induction n with
  | zero => intro x2 x3 x4 x5 σ h; exact absurd h (by simp [f_X9_askCase_48])
  | succ n ih => intro x2 x3 x4 x5 σ h; rw [f_X9_askCase_48] at h; exact ok_b_X9_askCase_48 hG N hd hr4 ih h
def b_X9_askCase_4 (N : Nat) (rec4 : Int32 → Int32 → ZM → Option (Unit × ZM)) (x2 : Int32) (x3 : Int32) (σ : ZM) : Option (Unit × ZM) :=
  if (σ.1 0 0) ≤ x3 then
  (some ((), σ))
  else
  ((zald σ 3 10 x3).bind fun v6 =>
  zbd (f_X9_ones N v6 σ) fun r7 s8 =>
  (zrem x2 r7).bind fun v9 =>
  (zald s8 3 10 x3).bind fun v10 =>
  zbd (f_X9_ones N v10 s8) fun r11 s12 =>
  (zdiv x2 r11).bind fun v13 =>
  (zald s12 3 10 x3).bind fun v14 =>
  zbd (f_X9_least N v14 s12) fun r15 s16 =>
  f_X9_askCase_48 N rec4 N v13 x3 v9 r15 s16)
set_option maxRecDepth 100000 in
theorem ok_b_X9_askCase_4 {G : ZG} (hG : zSH G = shM) (N : Nat) {d : Nat} (hd : 0 ≤ d) {rec4 : Int32 → Int32 → ZM → Option (Unit × ZM)} {res : Unit × ZM} (hr4 : ∀ (x2 : Int32) (x3 : Int32) (σ : ZM), rec4 x2 x3 σ = some res → zF G MX9_askCase (d + 1) 4 [(0, .ref (zad G 0)), (2, .int x2), (3, .int x3)] [] σ none res.2) {x2 : Int32} {x3 : Int32} {σ : ZM} (h : b_X9_askCase_4 N rec4 x2 x3 σ = some res) : zF G MX9_askCase (d + 1) 4 [(0, .ref (zad G 0)), (2, .int x2), (3, .int x3)] [] σ none res.2 := by
  unfold b_X9_askCase_4 at h
  refine zf_iload_n 2 (q := 5) (j := 3) rfl dX9_askCase_4 rfl rfl ?_
  refine zf_aload_n 0 (q := 6) (j := 0) rfl dX9_askCase_5 rfl rfl ?_
  refine zf_getI (q := 9) rfl dX9_askCase_6 lf_RX9_132 (sm0 hG) rfl ?_
  refine zf_icmp_ge (q := 12) (tgt := 89) rfl (by decide) dX9_askCase_9 (fun hc9 => ?_) (fun hc9 => ?_)
  · replace h := (zi h).1 hc9
    cases h
    exact zf_return dX9_askCase_89 rfl
  · replace h := (zi h).2 hc9
    refine zf_iload_n 1 (q := 13) (j := 2) rfl dX9_askCase_12 rfl rfl ?_
    refine zf_aload_n 0 (q := 14) (j := 0) rfl dX9_askCase_13 rfl rfl ?_
    refine zf_getR (q := 17) rfl dX9_askCase_14 lf_RX9_16 (sm0 hG) rfl ?_
    refine zf_iload_n 2 (q := 18) (j := 3) rfl dX9_askCase_17 rfl rfl ?_
    obtain ⟨v6, ev6, h⟩ := zb h
    refine zf_iald (q := 19) rfl dX9_askCase_18 (sm3 hG) ev6 ?_
    obtain ⟨r7, s8, es8, h⟩ := zc h
    refine zf_callS (q := 22) (As := [.int v6]) (rest := [.int x2]) (st1 := [.int r7, .int x2]) rfl dX9_askCase_19 ls_RX9_241 rfl rfl (Nat.le_of_ble_eq_true rfl) (ok_X9_ones hG N (Nat.le_trans (by decide) hd) es8) rfl ?_
    obtain ⟨v9, ev9, h⟩ := zb h
    refine zf_irem (q := 23) rfl dX9_askCase_22 ev9 ?_
    refine zf_istore (q := 25) (y := v9) (i := 4) (lv1 := [(4, .int v9), (0, .ref (zad G 0)), (2, .int x2), (3, .int x3)]) rfl dX9_askCase_23 (by decide) rfl rfl ?_
    refine zf_iload_n 2 (q := 26) (j := 2) rfl dX9_askCase_25 rfl rfl ?_
    refine zf_aload_n 1 (q := 27) (j := 0) rfl dX9_askCase_26 rfl rfl ?_
    refine zf_getR (q := 30) rfl dX9_askCase_27 lf_RX9_16 (sm0 hG) rfl ?_
    refine zf_iload_n 3 (q := 31) (j := 3) rfl dX9_askCase_30 rfl rfl ?_
    obtain ⟨v10, ev10, h⟩ := zb h
    refine zf_iald (q := 32) rfl dX9_askCase_31 (sm3 hG) ev10 ?_
    obtain ⟨r11, s12, es12, h⟩ := zc h
    refine zf_callS (q := 35) (As := [.int v10]) (rest := [.int x2]) (st1 := [.int r11, .int x2]) rfl dX9_askCase_32 ls_RX9_241 rfl rfl (Nat.le_of_ble_eq_true rfl) (ok_X9_ones hG N (Nat.le_trans (by decide) hd) es12) rfl ?_
    obtain ⟨v13, ev13, h⟩ := zb h
    refine zf_idiv (q := 36) rfl dX9_askCase_35 ev13 ?_
    refine zf_istore_n (q := 37) (y := v13) (i := 2) (lv1 := [(2, .int v13), (4, .int v9), (0, .ref (zad G 0)), (3, .int x3)]) rfl dX9_askCase_36 rfl (by decide) rfl rfl ?_
    refine zf_aload_n 2 (q := 38) (j := 0) rfl dX9_askCase_37 rfl rfl ?_
    refine zf_getR (q := 41) rfl dX9_askCase_38 lf_RX9_16 (sm0 hG) rfl ?_
    refine zf_iload_n 3 (q := 42) (j := 3) rfl dX9_askCase_41 rfl rfl ?_
    obtain ⟨v14, ev14, h⟩ := zb h
    refine zf_iald (q := 43) rfl dX9_askCase_42 (sm3 hG) ev14 ?_
    obtain ⟨r15, s16, es16, h⟩ := zc h
    refine zf_callS (q := 46) (As := [.int v14]) (rest := []) (st1 := [.int r15]) rfl dX9_askCase_43 ls_RX9_170 rfl rfl (Nat.le_of_ble_eq_true rfl) (ok_X9_least hG N (Nat.le_trans (by decide) hd) es16) rfl ?_
    refine zf_istore (q := 48) (y := r15) (i := 5) (lv1 := [(5, .int r15), (2, .int v13), (4, .int v9), (0, .ref (zad G 0)), (3, .int x3)]) rfl dX9_askCase_46 (by decide) rfl rfl ?_
    exact zf_sub [3, 1, 4, 2, 0] rfl (ok_X9_askCase_48 hG N hd hr4 _ _ _ _ _ _ h)
def f_X9_askCase_4 (N : Nat) : Nat → Int32 → Int32 → ZM → Option (Unit × ZM)
  | 0, _, _, _ => none
  | n + 1, x2, x3, σ => b_X9_askCase_4 N (f_X9_askCase_4 N n) x2 x3 σ
theorem ok_X9_askCase_4 {G : ZG} (hG : zSH G = shM) (N : Nat) {d : Nat} (hd : 0 ≤ d) {res : Unit × ZM} : ∀ (n : Nat) (x2 : Int32) (x3 : Int32) (σ : ZM), f_X9_askCase_4 N n x2 x3 σ = some res → zF G MX9_askCase (d + 1) 4 [(0, .ref (zad G 0)), (2, .int x2), (3, .int x3)] [] σ none res.2 := by
  intro n
  induction n with
  | zero => intro x2 x3 σ h; exact absurd h (by simp [f_X9_askCase_4])
  | succ n ih => intro x2 x3 σ h; rw [f_X9_askCase_4] at h; exact ok_b_X9_askCase_4 hG N hd ih h
def f_X9_askCase (N : Nat) (x1 : Int32) (σ : ZM) : Option (Unit × ZM) :=
  f_X9_askCase_4 N N x1 (0 : Int32) σ
set_option maxRecDepth 100000 in
theorem ok_X9_askCase {G : ZG} (hG : zSH G = shM) (N : Nat) {d : Nat} (hd : 1 ≤ d) {x1 : Int32} {σ : ZM} {res : Unit × ZM} (h : f_X9_askCase N x1 σ = some res) : zCt G d MX9_askCase [.ref (zad G 0), .int x1] σ none res.2 := by
  obtain ⟨d, rfl⟩ : ∃ k, d = k + 1 := ⟨d - 1, by omega⟩
  have hd : 0 ≤ d := by omega
  refine zct_of (by decide) (Nat.le_of_ble_eq_true rfl) (lv := [(0, .ref (zad G 0)), (1, .int x1)]) rfl ?_
  unfold f_X9_askCase at h
  refine zf_iload_n 1 (q := 1) (j := 1) rfl dX9_askCase_0 rfl rfl ?_
  refine zf_istore_n (q := 2) (y := x1) (i := 2) (lv1 := [(2, .int x1), (0, .ref (zad G 0)), (1, .int x1)]) rfl dX9_askCase_1 rfl (by decide) rfl rfl ?_
  refine zf_iconst (q := 3) rfl dX9_askCase_2 ic0 ?_
  refine zf_istore_n (q := 4) (y := (0 : Int32)) (i := 3) (lv1 := [(3, .int (0 : Int32)), (2, .int x1), (0, .ref (zad G 0)), (1, .int x1)]) rfl dX9_askCase_3 rfl (by decide) rfl rfl ?_
  exact zf_sub [2, 1, 0] rfl (ok_X9_askCase_4 hG N hd _ _ _ _ h)
-- ===== X9_agrees: NearCopiesModel.agrees(II)Z
def f_X9_agrees_132 (N : Nat) (rec2 : Int32 → Int32 → Int32 → ZM → Option (Int32 × ZM)) (x1 : Int32) (x2 : Int32) (x3 : Int32) (σ : ZM) : Option (Int32 × ZM) :=
  (some (x3 + (1 : Int32))).bind fun v1 =>
  rec2 x1 x2 v1 σ
set_option maxRecDepth 100000 in
theorem ok_X9_agrees_132 {G : ZG} (hG : zSH G = shM) (N : Nat) {d : Nat} (hd : 4 ≤ d) {rec2 : Int32 → Int32 → Int32 → ZM → Option (Int32 × ZM)} {res : Int32 × ZM} (hr2 : ∀ (x1 : Int32) (x2 : Int32) (x3 : Int32) (σ : ZM), rec2 x1 x2 x3 σ = some res → zF G MX9_agrees (d + 1) 2 [(0, .ref (zad G 0)), (1, .int x1), (2, .int x2), (3, .int x3)] [] σ (some (.int res.1)) res.2) {x1 : Int32} {x2 : Int32} {x3 : Int32} {σ : ZM} (h : f_X9_agrees_132 N rec2 x1 x2 x3 σ = some res) : zF G MX9_agrees (d + 1) 132 [(0, .ref (zad G 0)), (1, .int x1), (2, .int x2), (3, .int x3)] [] σ (some (.int res.1)) res.2 := by
  unfold f_X9_agrees_132 at h
  obtain ⟨v1, ev1, h⟩ := zb h
  refine zf_iinc 3 (q := 135) (v := v1) (lv1 := [(3, .int v1), (0, .ref (zad G 0)), (1, .int x1), (2, .int x2)]) rfl dX9_agrees_132 rfl (by rw [ic1]; exact ev1) (by decide) rfl ?_
  refine zf_goto (tgt := 2) (by decide) dX9_agrees_135 ?_
  exact zf_sub [1, 2, 3, 0] rfl (hr2 _ _ _ _ h)
def f_X9_agrees_126 (N : Nat) (rec2 : Int32 → Int32 → Int32 → ZM → Option (Int32 × ZM)) (rec83 : Int32 → Int32 → Int32 → Int32 → ZM → Option (Int32 × ZM)) (x1 : Int32) (x2 : Int32) (x3 : Int32) (x5 : Int32) (σ : ZM) : Option (Int32 × ZM) :=
  (some (x5 + (1 : Int32))).bind fun v2 =>
  rec83 x1 x2 x3 v2 σ
set_option maxRecDepth 100000 in
theorem ok_X9_agrees_126 {G : ZG} (hG : zSH G = shM) (N : Nat) {d : Nat} (hd : 4 ≤ d) {rec2 : Int32 → Int32 → Int32 → ZM → Option (Int32 × ZM)} {rec83 : Int32 → Int32 → Int32 → Int32 → ZM → Option (Int32 × ZM)} {res : Int32 × ZM} (hr2 : ∀ (x1 : Int32) (x2 : Int32) (x3 : Int32) (σ : ZM), rec2 x1 x2 x3 σ = some res → zF G MX9_agrees (d + 1) 2 [(0, .ref (zad G 0)), (1, .int x1), (2, .int x2), (3, .int x3)] [] σ (some (.int res.1)) res.2) (hr83 : ∀ (x1 : Int32) (x2 : Int32) (x3 : Int32) (x5 : Int32) (σ : ZM), rec83 x1 x2 x3 x5 σ = some res → zF G MX9_agrees (d + 1) 83 [(0, .ref (zad G 0)), (1, .int x1), (2, .int x2), (3, .int x3), (5, .int x5)] [] σ (some (.int res.1)) res.2) {x1 : Int32} {x2 : Int32} {x3 : Int32} {x5 : Int32} {σ : ZM} (h : f_X9_agrees_126 N rec2 rec83 x1 x2 x3 x5 σ = some res) : zF G MX9_agrees (d + 1) 126 [(0, .ref (zad G 0)), (1, .int x1), (2, .int x2), (3, .int x3), (5, .int x5)] [] σ (some (.int res.1)) res.2 := by
  unfold f_X9_agrees_126 at h
  obtain ⟨v2, ev2, h⟩ := zb h
  refine zf_iinc 4 (q := 129) (v := v2) (lv1 := [(5, .int v2), (0, .ref (zad G 0)), (1, .int x1), (2, .int x2), (3, .int x3)]) rfl dX9_agrees_126 rfl (by rw [ic1]; exact ev2) (by decide) rfl ?_
  refine zf_goto (tgt := 83) (by decide) dX9_agrees_129 ?_
  exact zf_sub [1, 2, 3, 4, 0] rfl (hr83 _ _ _ _ _ h)
def b_X9_agrees_83 (N : Nat) (rec2 : Int32 → Int32 → Int32 → ZM → Option (Int32 × ZM)) (rec83 : Int32 → Int32 → Int32 → Int32 → ZM → Option (Int32 × ZM)) (x1 : Int32) (x2 : Int32) (x3 : Int32) (x5 : Int32) (σ : ZM) : Option (Int32 × ZM) :=
  if (σ.1 0 0) ≤ x5 then
  (f_X9_agrees_132 N rec2 x1 x2 x3 σ)
  else
  ((zald σ 33 60 (((10 : Int32) * x3) + x5)).bind fun v3 =>
  if v3 = (4 : Int32) then
  (f_X9_agrees_126 N rec2 rec83 x1 x2 x3 x5 σ)
  else
  ((zald σ 17 10 x5).bind fun v4 =>
  if v3 = v4 then
  (f_X9_agrees_126 N rec2 rec83 x1 x2 x3 x5 σ)
  else
  (some ((0 : Int32), σ))))
set_option maxRecDepth 100000 in
theorem ok_b_X9_agrees_83 {G : ZG} (hG : zSH G = shM) (N : Nat) {d : Nat} (hd : 4 ≤ d) {rec2 : Int32 → Int32 → Int32 → ZM → Option (Int32 × ZM)} {rec83 : Int32 → Int32 → Int32 → Int32 → ZM → Option (Int32 × ZM)} {res : Int32 × ZM} (hr2 : ∀ (x1 : Int32) (x2 : Int32) (x3 : Int32) (σ : ZM), rec2 x1 x2 x3 σ = some res → zF G MX9_agrees (d + 1) 2 [(0, .ref (zad G 0)), (1, .int x1), (2, .int x2), (3, .int x3)] [] σ (some (.int res.1)) res.2) (hr83 : ∀ (x1 : Int32) (x2 : Int32) (x3 : Int32) (x5 : Int32) (σ : ZM), rec83 x1 x2 x3 x5 σ = some res → zF G MX9_agrees (d + 1) 83 [(0, .ref (zad G 0)), (1, .int x1), (2, .int x2), (3, .int x3), (5, .int x5)] [] σ (some (.int res.1)) res.2) {x1 : Int32} {x2 : Int32} {x3 : Int32} {x5 : Int32} {σ : ZM} (h : b_X9_agrees_83 N rec2 rec83 x1 x2 x3 x5 σ = some res) : zF G MX9_agrees (d + 1) 83 [(0, .ref (zad G 0)), (1, .int x1), (2, .int x2), (3, .int x3), (5, .int x5)] [] σ (some (.int res.1)) res.2 := by
  unfold b_X9_agrees_83 at h
  refine zf_iload 4 (q := 85) rfl dX9_agrees_83 rfl ?_
  refine zf_aload_n 0 (q := 86) (j := 0) rfl dX9_agrees_85 rfl rfl ?_
  refine zf_getI (q := 89) rfl dX9_agrees_86 lf_RX9_132 (sm0 hG) rfl ?_
  refine zf_icmp_ge (q := 92) (tgt := 132) rfl (by decide) dX9_agrees_89 (fun hc89 => ?_) (fun hc89 => ?_)
  · replace h := (zi h).1 hc89
    exact zf_sub [0, 1, 2, 3] rfl (ok_X9_agrees_132 hG N hd hr2 h)
  · replace h := (zi h).2 hc89
    refine zf_aload_n 0 (q := 93) (j := 0) rfl dX9_agrees_92 rfl rfl ?_
    refine zf_getR (q := 96) rfl dX9_agrees_93 lf_RX9_107 (sm0 hG) rfl ?_
    refine zf_bipush (q := 98) rfl dX9_agrees_96 bp10 ?_
    refine zf_iload_n 3 (q := 99) (j := 3) rfl dX9_agrees_98 rfl rfl ?_
    refine zf_imul (q := 100) rfl dX9_agrees_99 ?_
    refine zf_iload 4 (q := 102) rfl dX9_agrees_100 rfl ?_
    refine zf_iadd (q := 103) rfl dX9_agrees_102 ?_
    obtain ⟨v3, ev3, h⟩ := zb h
    refine zf_iald (q := 104) rfl dX9_agrees_103 (sm33 hG) ev3 ?_
    refine zf_istore (q := 106) (y := v3) (i := 6) (lv1 := [(6, .int v3), (0, .ref (zad G 0)), (1, .int x1), (2, .int x2), (3, .int x3), (5, .int x5)]) rfl dX9_agrees_104 (by decide) rfl rfl ?_
    refine zf_iload 0 (q := 108) rfl dX9_agrees_106 rfl ?_
    refine zf_iconst (q := 109) rfl dX9_agrees_108 ic4 ?_
    refine zf_icmp_eq (q := 112) (tgt := 126) rfl (by decide) dX9_agrees_109 (fun hc109 => ?_) (fun hc109 => ?_)
    · replace h := (zi h).1 hc109
      exact zf_sub [1, 2, 3, 4, 5] rfl (ok_X9_agrees_126 hG N hd hr2 hr83 h)
    · replace h := (zi h).2 hc109
      refine zf_iload 0 (q := 114) rfl dX9_agrees_112 rfl ?_
      refine zf_aload_n 1 (q := 115) (j := 0) rfl dX9_agrees_114 rfl rfl ?_
      refine zf_getR (q := 118) rfl dX9_agrees_115 lf_RX9_59 (sm0 hG) rfl ?_
      refine zf_iload 5 (q := 120) rfl dX9_agrees_118 rfl ?_
      obtain ⟨v4, ev4, h⟩ := zb h
      refine zf_iald (q := 121) rfl dX9_agrees_120 (sm17 hG) ev4 ?_
      refine zf_icmp_eq (q := 124) (tgt := 126) rfl (by decide) dX9_agrees_121 (fun hc121 => ?_) (fun hc121 => ?_)
      · replace h := (zi h).1 hc121
        exact zf_sub [1, 2, 3, 4, 5] rfl (ok_X9_agrees_126 hG N hd hr2 hr83 h)
      · replace h := (zi h).2 hc121
        refine zf_iconst (q := 125) rfl dX9_agrees_124 ic0 ?_
        cases h
        exact zf_zreturn dX9_agrees_125 rfl (Or.inl rfl)
def f_X9_agrees_83 (N : Nat) (rec2 : Int32 → Int32 → Int32 → ZM → Option (Int32 × ZM)) : Nat → Int32 → Int32 → Int32 → Int32 → ZM → Option (Int32 × ZM)
  | 0, _, _, _, _, _ => none
  | n + 1, x1, x2, x3, x5, σ => b_X9_agrees_83 N rec2 (f_X9_agrees_83 N rec2 n) x1 x2 x3 x5 σ
theorem ok_X9_agrees_83 {G : ZG} (hG : zSH G = shM) (N : Nat) {d : Nat} (hd : 4 ≤ d) {rec2 : Int32 → Int32 → Int32 → ZM → Option (Int32 × ZM)} {res : Int32 × ZM} (hr2 : ∀ (x1 : Int32) (x2 : Int32) (x3 : Int32) (σ : ZM), rec2 x1 x2 x3 σ = some res → zF G MX9_agrees (d + 1) 2 [(0, .ref (zad G 0)), (1, .int x1), (2, .int x2), (3, .int x3)] [] σ (some (.int res.1)) res.2) : ∀ (n : Nat) (x1 : Int32) (x2 : Int32) (x3 : Int32) (x5 : Int32) (σ : ZM), f_X9_agrees_83 N rec2 n x1 x2 x3 x5 σ = some res → zF G MX9_agrees (d + 1) 83 [(0, .ref (zad G 0)), (1, .int x1), (2, .int x2), (3, .int x3), (5, .int x5)] [] σ (some (.int res.1)) res.2 := by
  intro n
  induction n with
  | zero => intro x1 x2 x3 x5 σ h; exact absurd h (by simp [f_X9_agrees_83])
  | succ n ih => intro x1 x2 x3 x5 σ h; rw [f_X9_agrees_83] at h; exact ok_b_X9_agrees_83 hG N hd hr2 ih h
def f_X9_agrees_48 (N : Nat) (rec2 : Int32 → Int32 → Int32 → ZM → Option (Int32 × ZM)) (rec13 : Int32 → Int32 → Int32 → Int32 → Int32 → ZM → Option (Int32 × ZM)) (x1 : Int32) (x2 : Int32) (x3 : Int32) (x5 : Int32) (y0 : Int32) (σ : ZM) : Option (Int32 × ZM) :=
  (some (x5 + (1 : Int32))).bind fun v5 =>
  rec13 x1 x2 x3 y0 v5 σ
set_option maxRecDepth 100000 in
theorem ok_X9_agrees_48 {G : ZG} (hG : zSH G = shM) (N : Nat) {d : Nat} (hd : 4 ≤ d) {rec2 : Int32 → Int32 → Int32 → ZM → Option (Int32 × ZM)} {rec13 : Int32 → Int32 → Int32 → Int32 → Int32 → ZM → Option (Int32 × ZM)} {res : Int32 × ZM} (hr2 : ∀ (x1 : Int32) (x2 : Int32) (x3 : Int32) (σ : ZM), rec2 x1 x2 x3 σ = some res → zF G MX9_agrees (d + 1) 2 [(0, .ref (zad G 0)), (1, .int x1), (2, .int x2), (3, .int x3)] [] σ (some (.int res.1)) res.2) (hr13 : ∀ (x1 : Int32) (x2 : Int32) (x3 : Int32) (x4 : Int32) (x5 : Int32) (σ : ZM), rec13 x1 x2 x3 x4 x5 σ = some res → zF G MX9_agrees (d + 1) 13 [(0, .ref (zad G 0)), (1, .int x1), (2, .int x2), (3, .int x3), (4, .int x4), (5, .int x5)] [] σ (some (.int res.1)) res.2) {x1 : Int32} {x2 : Int32} {x3 : Int32} {x5 : Int32} {y0 : Int32} {σ : ZM} (h : f_X9_agrees_48 N rec2 rec13 x1 x2 x3 x5 y0 σ = some res) : zF G MX9_agrees (d + 1) 48 [(0, .ref (zad G 0)), (1, .int x1), (2, .int x2), (3, .int x3), (5, .int x5)] [.int y0] σ (some (.int res.1)) res.2 := by
  unfold f_X9_agrees_48 at h
  refine zf_istore (q := 50) (y := y0) (i := 4) (lv1 := [(4, .int y0), (0, .ref (zad G 0)), (1, .int x1), (2, .int x2), (3, .int x3), (5, .int x5)]) rfl dX9_agrees_48 (by decide) rfl rfl ?_
  obtain ⟨v5, ev5, h⟩ := zb h
  refine zf_iinc 5 (q := 53) (v := v5) (lv1 := [(5, .int v5), (4, .int y0), (0, .ref (zad G 0)), (1, .int x1), (2, .int x2), (3, .int x3)]) rfl dX9_agrees_50 rfl (by rw [ic1]; exact ev5) (by decide) rfl ?_
  refine zf_goto (tgt := 13) (by decide) dX9_agrees_53 ?_
  exact zf_sub [2, 3, 4, 5, 1, 0] rfl (hr13 _ _ _ _ _ _ h)
def f_X9_agrees_43 (N : Nat) (rec2 : Int32 → Int32 → Int32 → ZM → Option (Int32 × ZM)) (rec13 : Int32 → Int32 → Int32 → Int32 → Int32 → ZM → Option (Int32 × ZM)) (x1 : Int32) (x2 : Int32) (x3 : Int32) (x5 : Int32) (σ : ZM) : Option (Int32 × ZM) :=
  f_X9_agrees_48 N rec2 rec13 x1 x2 x3 x5 (1 : Int32) σ
set_option maxRecDepth 100000 in
theorem ok_X9_agrees_43 {G : ZG} (hG : zSH G = shM) (N : Nat) {d : Nat} (hd : 4 ≤ d) {rec2 : Int32 → Int32 → Int32 → ZM → Option (Int32 × ZM)} {rec13 : Int32 → Int32 → Int32 → Int32 → Int32 → ZM → Option (Int32 × ZM)} {res : Int32 × ZM} (hr2 : ∀ (x1 : Int32) (x2 : Int32) (x3 : Int32) (σ : ZM), rec2 x1 x2 x3 σ = some res → zF G MX9_agrees (d + 1) 2 [(0, .ref (zad G 0)), (1, .int x1), (2, .int x2), (3, .int x3)] [] σ (some (.int res.1)) res.2) (hr13 : ∀ (x1 : Int32) (x2 : Int32) (x3 : Int32) (x4 : Int32) (x5 : Int32) (σ : ZM), rec13 x1 x2 x3 x4 x5 σ = some res → zF G MX9_agrees (d + 1) 13 [(0, .ref (zad G 0)), (1, .int x1), (2, .int x2), (3, .int x3), (4, .int x4), (5, .int x5)] [] σ (some (.int res.1)) res.2) {x1 : Int32} {x2 : Int32} {x3 : Int32} {x5 : Int32} {σ : ZM} (h : f_X9_agrees_43 N rec2 rec13 x1 x2 x3 x5 σ = some res) : zF G MX9_agrees (d + 1) 43 [(0, .ref (zad G 0)), (1, .int x1), (2, .int x2), (3, .int x3), (5, .int x5)] [] σ (some (.int res.1)) res.2 := by
  unfold f_X9_agrees_43 at h
  refine zf_iconst (q := 44) rfl dX9_agrees_43 ic1 ?_
  refine zf_goto (tgt := 48) (by decide) dX9_agrees_44 ?_
  exact zf_sub [0, 1, 2, 3, 4] rfl (ok_X9_agrees_48 hG N hd hr2 hr13 h)
def b_X9_agrees_13 (N : Nat) (rec2 : Int32 → Int32 → Int32 → ZM → Option (Int32 × ZM)) (rec13 : Int32 → Int32 → Int32 → Int32 → Int32 → ZM → Option (Int32 × ZM)) (x1 : Int32) (x2 : Int32) (x3 : Int32) (x4 : Int32) (x5 : Int32) (σ : ZM) : Option (Int32 × ZM) :=
  if (σ.1 0 0) ≤ x5 then
  (if x4 = 0 then
  (f_X9_agrees_132 N rec2 x1 x2 x3 σ)
  else
  (zbd (f_X9_askTrial N x3 σ) fun r6 s7 =>
  zbd (f_X9_askCase N x1 s7) fun r8 s9 =>
  zbd (f_X9_settle N s9) fun r10 s11 =>
  if r10 = 0 then
  (some ((0 : Int32), s11))
  else
  (f_X9_agrees_83 N rec2 N x1 x2 x3 (0 : Int32) s11)))
  else
  (if x4 = 0 then
  ((zald σ 33 60 (((10 : Int32) * x3) + x5)).bind fun v12 =>
  if v12 = (4 : Int32) then
  (f_X9_agrees_48 N rec2 rec13 x1 x2 x3 x5 (0 : Int32) σ)
  else
  (f_X9_agrees_43 N rec2 rec13 x1 x2 x3 x5 σ))
  else
  (f_X9_agrees_43 N rec2 rec13 x1 x2 x3 x5 σ))
set_option maxRecDepth 100000 in
theorem ok_b_X9_agrees_13 {G : ZG} (hG : zSH G = shM) (N : Nat) {d : Nat} (hd : 4 ≤ d) {rec2 : Int32 → Int32 → Int32 → ZM → Option (Int32 × ZM)} {rec13 : Int32 → Int32 → Int32 → Int32 → Int32 → ZM → Option (Int32 × ZM)} {res : Int32 × ZM} (hr2 : ∀ (x1 : Int32) (x2 : Int32) (x3 : Int32) (σ : ZM), rec2 x1 x2 x3 σ = some res → zF G MX9_agrees (d + 1) 2 [(0, .ref (zad G 0)), (1, .int x1), (2, .int x2), (3, .int x3)] [] σ (some (.int res.1)) res.2) (hr13 : ∀ (x1 : Int32) (x2 : Int32) (x3 : Int32) (x4 : Int32) (x5 : Int32) (σ : ZM), rec13 x1 x2 x3 x4 x5 σ = some res → zF G MX9_agrees (d + 1) 13 [(0, .ref (zad G 0)), (1, .int x1), (2, .int x2), (3, .int x3), (4, .int x4), (5, .int x5)] [] σ (some (.int res.1)) res.2) {x1 : Int32} {x2 : Int32} {x3 : Int32} {x4 : Int32} {x5 : Int32} {σ : ZM} (h : b_X9_agrees_13 N rec2 rec13 x1 x2 x3 x4 x5 σ = some res) : zF G MX9_agrees (d + 1) 13 [(0, .ref (zad G 0)), (1, .int x1), (2, .int x2), (3, .int x3), (4, .int x4), (5, .int x5)] [] σ (some (.int res.1)) res.2 := by
  unfold b_X9_agrees_13 at h
  refine zf_iload 5 (q := 15) rfl dX9_agrees_13 rfl ?_
  refine zf_aload_n 0 (q := 16) (j := 0) rfl dX9_agrees_15 rfl rfl ?_
  refine zf_getI (q := 19) rfl dX9_agrees_16 lf_RX9_132 (sm0 hG) rfl ?_
  refine zf_icmp_ge (q := 22) (tgt := 56) rfl (by decide) dX9_agrees_19 (fun hc19 => ?_) (fun hc19 => ?_)
  · replace h := (zi h).1 hc19
    refine zf_iload 4 (q := 58) rfl dX9_agrees_56 rfl ?_
    refine zf_if_eq (q := 61) (tgt := 132) rfl (by decide) dX9_agrees_58 (fun hc58 => ?_) (fun hc58 => ?_)
    · replace h := (zi h).1 hc58
      exact zf_sub [0, 1, 2, 3] rfl (ok_X9_agrees_132 hG N hd hr2 h)
    · replace h := (zi h).2 hc58
      refine zf_aload_n 0 (q := 62) (j := 0) rfl dX9_agrees_61 rfl rfl ?_
      refine zf_iload_n 3 (q := 63) (j := 3) rfl dX9_agrees_62 rfl rfl ?_
      obtain ⟨r6, s7, es7, h⟩ := zc h
      refine zf_callV (q := 66) (As := [.int x3]) (rest := []) (st1 := []) rfl dX9_agrees_63 lv_RX9_247 (sm0 hG) rfl rfl (Nat.le_of_ble_eq_true rfl) (ok_X9_askTrial hG N (Nat.le_trans (by decide) hd) es7) rfl ?_
      refine zf_aload_n 0 (q := 67) (j := 0) rfl dX9_agrees_66 rfl rfl ?_
      refine zf_iload_n 1 (q := 68) (j := 1) rfl dX9_agrees_67 rfl rfl ?_
      obtain ⟨r8, s9, es9, h⟩ := zc h
      refine zf_callV (q := 71) (As := [.int x1]) (rest := []) (st1 := []) rfl dX9_agrees_68 lv_RX9_250 (sm0 hG) rfl rfl (Nat.le_of_ble_eq_true rfl) (ok_X9_askCase hG N (Nat.le_trans (by decide) hd) es9) rfl ?_
      refine zf_aload_n 0 (q := 72) (j := 0) rfl dX9_agrees_71 rfl rfl ?_
      obtain ⟨r10, s11, es11, h⟩ := zc h
      refine zf_callV (q := 75) (As := []) (rest := []) (st1 := [.int r10]) rfl dX9_agrees_72 lv_RX9_212 (sm0 hG) rfl rfl (Nat.le_of_ble_eq_true rfl) (ok_X9_settle hG N (Nat.le_trans (by decide) hd) es11) rfl ?_
      refine zf_if_ne (q := 78) (tgt := 80) rfl (by decide) dX9_agrees_75 (fun hc75 => ?_) (fun hc75 => ?_)
      · replace h := (zi h).2 hc75
        refine zf_iconst (q := 81) rfl dX9_agrees_80 ic0 ?_
        refine zf_istore (q := 83) (y := (0 : Int32)) (i := 5) (lv1 := [(5, .int (0 : Int32)), (0, .ref (zad G 0)), (1, .int x1), (2, .int x2), (3, .int x3), (4, .int x4)]) rfl dX9_agrees_81 (by decide) rfl rfl ?_
        exact zf_sub [1, 2, 3, 4, 0] rfl (ok_X9_agrees_83 hG N hd hr2 _ _ _ _ _ _ h)
      · replace h := (zi h).1 hc75
        refine zf_iconst (q := 79) rfl dX9_agrees_78 ic0 ?_
        cases h
        exact zf_zreturn dX9_agrees_79 rfl (Or.inl rfl)
  · replace h := (zi h).2 hc19
    refine zf_iload 4 (q := 24) rfl dX9_agrees_22 rfl ?_
    refine zf_if_ne (q := 27) (tgt := 43) rfl (by decide) dX9_agrees_24 (fun hc24 => ?_) (fun hc24 => ?_)
    · replace h := (zi h).2 hc24
      exact zf_sub [0, 1, 2, 3, 5] rfl (ok_X9_agrees_43 hG N hd hr2 hr13 h)
    · replace h := (zi h).1 hc24
      refine zf_aload_n 0 (q := 28) (j := 0) rfl dX9_agrees_27 rfl rfl ?_
      refine zf_getR (q := 31) rfl dX9_agrees_28 lf_RX9_107 (sm0 hG) rfl ?_
      refine zf_bipush (q := 33) rfl dX9_agrees_31 bp10 ?_
      refine zf_iload_n 3 (q := 34) (j := 3) rfl dX9_agrees_33 rfl rfl ?_
      refine zf_imul (q := 35) rfl dX9_agrees_34 ?_
      refine zf_iload 5 (q := 37) rfl dX9_agrees_35 rfl ?_
      refine zf_iadd (q := 38) rfl dX9_agrees_37 ?_
      obtain ⟨v12, ev12, h⟩ := zb h
      refine zf_iald (q := 39) rfl dX9_agrees_38 (sm33 hG) ev12 ?_
      refine zf_iconst (q := 40) rfl dX9_agrees_39 ic4 ?_
      refine zf_icmp_eq (q := 43) (tgt := 47) rfl (by decide) dX9_agrees_40 (fun hc40 => ?_) (fun hc40 => ?_)
      · replace h := (zi h).1 hc40
        refine zf_iconst (q := 48) rfl dX9_agrees_47 ic0 ?_
        exact zf_sub [0, 1, 2, 3, 5] rfl (ok_X9_agrees_48 hG N hd hr2 hr13 h)
      · replace h := (zi h).2 hc40
        exact zf_sub [0, 1, 2, 3, 5] rfl (ok_X9_agrees_43 hG N hd hr2 hr13 h)
def f_X9_agrees_13 (N : Nat) (rec2 : Int32 → Int32 → Int32 → ZM → Option (Int32 × ZM)) : Nat → Int32 → Int32 → Int32 → Int32 → Int32 → ZM → Option (Int32 × ZM)
  | 0, _, _, _, _, _, _ => none
  | n + 1, x1, x2, x3, x4, x5, σ => b_X9_agrees_13 N rec2 (f_X9_agrees_13 N rec2 n) x1 x2 x3 x4 x5 σ
theorem ok_X9_agrees_13 {G : ZG} (hG : zSH G = shM) (N : Nat) {d : Nat} (hd : 4 ≤ d) {rec2 : Int32 → Int32 → Int32 → ZM → Option (Int32 × ZM)} {res : Int32 × ZM} (hr2 : ∀ (x1 : Int32) (x2 : Int32) (x3 : Int32) (σ : ZM), rec2 x1 x2 x3 σ = some res → zF G MX9_agrees (d + 1) 2 [(0, .ref (zad G 0)), (1, .int x1), (2, .int x2), (3, .int x3)] [] σ (some (.int res.1)) res.2) : ∀ (n : Nat) (x1 : Int32) (x2 : Int32) (x3 : Int32) (x4 : Int32) (x5 : Int32) (σ : ZM), f_X9_agrees_13 N rec2 n x1 x2 x3 x4 x5 σ = some res → zF G MX9_agrees (d + 1) 13 [(0, .ref (zad G 0)), (1, .int x1), (2, .int x2), (3, .int x3), (4, .int x4), (5, .int x5)] [] σ (some (.int res.1)) res.2 := by
  intro n
  induction n with
  | zero => intro x1 x2 x3 x4 x5 σ h; exact absurd h (by simp [f_X9_agrees_13])
  | succ n ih => intro x1 x2 x3 x4 x5 σ h; rw [f_X9_agrees_13] at h; exact ok_b_X9_agrees_13 hG N hd hr2 ih h
def b_X9_agrees_2 (N : Nat) (rec2 : Int32 → Int32 → Int32 → ZM → Option (Int32 × ZM)) (x1 : Int32) (x2 : Int32) (x3 : Int32) (σ : ZM) : Option (Int32 × ZM) :=
  if x2 ≤ x3 then
  (some ((1 : Int32), σ))
  else
  (f_X9_agrees_13 N rec2 N x1 x2 x3 (0 : Int32) (0 : Int32) σ)
set_option maxRecDepth 100000 in
theorem ok_b_X9_agrees_2 {G : ZG} (hG : zSH G = shM) (N : Nat) {d : Nat} (hd : 4 ≤ d) {rec2 : Int32 → Int32 → Int32 → ZM → Option (Int32 × ZM)} {res : Int32 × ZM} (hr2 : ∀ (x1 : Int32) (x2 : Int32) (x3 : Int32) (σ : ZM), rec2 x1 x2 x3 σ = some res → zF G MX9_agrees (d + 1) 2 [(0, .ref (zad G 0)), (1, .int x1), (2, .int x2), (3, .int x3)] [] σ (some (.int res.1)) res.2) {x1 : Int32} {x2 : Int32} {x3 : Int32} {σ : ZM} (h : b_X9_agrees_2 N rec2 x1 x2 x3 σ = some res) : zF G MX9_agrees (d + 1) 2 [(0, .ref (zad G 0)), (1, .int x1), (2, .int x2), (3, .int x3)] [] σ (some (.int res.1)) res.2 := by
  unfold b_X9_agrees_2 at h
  refine zf_iload_n 3 (q := 3) (j := 3) rfl dX9_agrees_2 rfl rfl ?_
  refine zf_iload_n 2 (q := 4) (j := 2) rfl dX9_agrees_3 rfl rfl ?_
  refine zf_icmp_ge (q := 7) (tgt := 138) rfl (by decide) dX9_agrees_4 (fun hc4 => ?_) (fun hc4 => ?_)
  · replace h := (zi h).1 hc4
    refine zf_iconst (q := 139) rfl dX9_agrees_138 ic1 ?_
    cases h
    exact zf_zreturn dX9_agrees_139 rfl (Or.inr rfl)
  · replace h := (zi h).2 hc4
    refine zf_iconst (q := 8) rfl dX9_agrees_7 ic0 ?_
    refine zf_istore (q := 10) (y := (0 : Int32)) (i := 4) (lv1 := [(4, .int (0 : Int32)), (0, .ref (zad G 0)), (1, .int x1), (2, .int x2), (3, .int x3)]) rfl dX9_agrees_8 (by decide) rfl rfl ?_
    refine zf_iconst (q := 11) rfl dX9_agrees_10 ic0 ?_
    refine zf_istore (q := 13) (y := (0 : Int32)) (i := 5) (lv1 := [(5, .int (0 : Int32)), (4, .int (0 : Int32)), (0, .ref (zad G 0)), (1, .int x1), (2, .int x2), (3, .int x3)]) rfl dX9_agrees_11 (by decide) rfl rfl ?_
    exact zf_sub [2, 3, 4, 5, 1, 0] rfl (ok_X9_agrees_13 hG N hd hr2 _ _ _ _ _ _ _ h)
def f_X9_agrees_2 (N : Nat) : Nat → Int32 → Int32 → Int32 → ZM → Option (Int32 × ZM)
  | 0, _, _, _, _ => none
  | n + 1, x1, x2, x3, σ => b_X9_agrees_2 N (f_X9_agrees_2 N n) x1 x2 x3 σ
theorem ok_X9_agrees_2 {G : ZG} (hG : zSH G = shM) (N : Nat) {d : Nat} (hd : 4 ≤ d) {res : Int32 × ZM} : ∀ (n : Nat) (x1 : Int32) (x2 : Int32) (x3 : Int32) (σ : ZM), f_X9_agrees_2 N n x1 x2 x3 σ = some res → zF G MX9_agrees (d + 1) 2 [(0, .ref (zad G 0)), (1, .int x1), (2, .int x2), (3, .int x3)] [] σ (some (.int res.1)) res.2 := by
  intro n
  induction n with
  | zero => intro x1 x2 x3 σ h; exact absurd h (by simp [f_X9_agrees_2])
  | succ n ih => intro x1 x2 x3 σ h; rw [f_X9_agrees_2] at h; exact ok_b_X9_agrees_2 hG N hd ih h
def f_X9_agrees (N : Nat) (x1 : Int32) (x2 : Int32) (σ : ZM) : Option (Int32 × ZM) :=
  f_X9_agrees_2 N N x1 x2 (0 : Int32) σ
set_option maxRecDepth 100000 in
theorem ok_X9_agrees {G : ZG} (hG : zSH G = shM) (N : Nat) {d : Nat} (hd : 5 ≤ d) {x1 : Int32} {x2 : Int32} {σ : ZM} {res : Int32 × ZM} (h : f_X9_agrees N x1 x2 σ = some res) : zCt G d MX9_agrees [.ref (zad G 0), .int x1, .int x2] σ (some (.int res.1)) res.2 := by
  obtain ⟨d, rfl⟩ : ∃ k, d = k + 1 := ⟨d - 1, by omega⟩
  have hd : 4 ≤ d := by omega
  refine zct_of (by decide) (Nat.le_of_ble_eq_true rfl) (lv := [(0, .ref (zad G 0)), (1, .int x1), (2, .int x2)]) rfl ?_
  unfold f_X9_agrees at h
  refine zf_iconst (q := 1) rfl dX9_agrees_0 ic0 ?_
  refine zf_istore_n (q := 2) (y := (0 : Int32)) (i := 3) (lv1 := [(3, .int (0 : Int32)), (0, .ref (zad G 0)), (1, .int x1), (2, .int x2)]) rfl dX9_agrees_1 rfl (by decide) rfl rfl ?_
  exact zf_sub [1, 2, 3, 0] rfl (ok_X9_agrees_2 hG N hd _ _ _ _ _ h)
-- ===== X9_layAgreed: NearCopiesModel.layAgreed()Z
def f_X9_layAgreed_62 (N : Nat) (x1 : Int32) (σ : ZM) : Option (Int32 × ZM) :=
  if (256 : Int32) < x1 then
  (some ((0 : Int32), σ))
  else
  (some ((1 : Int32), σ))
set_option maxRecDepth 100000 in
theorem ok_X9_layAgreed_62 {G : ZG} (hG : zSH G = shM) (N : Nat) {d : Nat} (hd : 5 ≤ d) {res : Int32 × ZM} {x1 : Int32} {σ : ZM} (h : f_X9_layAgreed_62 N x1 σ = some res) : zF G MX9_layAgreed (d + 1) 62 [(1, .int x1)] [] σ (some (.int res.1)) res.2 := by
  unfold f_X9_layAgreed_62 at h
  refine zf_iload_n 0 (q := 63) (j := 1) rfl dX9_layAgreed_62 rfl rfl ?_
  refine zf_sipush (q := 66) rfl dX9_layAgreed_63 sp256 ?_
  refine zf_icmp_gt (q := 69) (tgt := 73) rfl (by decide) dX9_layAgreed_66 (fun hc66 => ?_) (fun hc66 => ?_)
  · replace h := (zi h).1 hc66
    refine zf_iconst (q := 74) rfl dX9_layAgreed_73 ic0 ?_
    cases h
    exact zf_zreturn dX9_layAgreed_74 rfl (Or.inl rfl)
  · replace h := (zi h).2 hc66
    refine zf_iconst (q := 70) rfl dX9_layAgreed_69 ic1 ?_
    refine zf_goto (tgt := 74) (by decide) dX9_layAgreed_70 ?_
    cases h
    exact zf_zreturn dX9_layAgreed_74 rfl (Or.inr rfl)
def f_X9_layAgreed_56 (N : Nat) (rec12 : Int32 → Int32 → ZM → Option (Int32 × ZM)) (x1 : Int32) (x2 : Int32) (σ : ZM) : Option (Int32 × ZM) :=
  (some (x2 + (1 : Int32))).bind fun v1 =>
  rec12 x1 v1 σ
set_option maxRecDepth 100000 in
theorem ok_X9_layAgreed_56 {G : ZG} (hG : zSH G = shM) (N : Nat) {d : Nat} (hd : 5 ≤ d) {rec12 : Int32 → Int32 → ZM → Option (Int32 × ZM)} {res : Int32 × ZM} (hr12 : ∀ (x1 : Int32) (x2 : Int32) (σ : ZM), rec12 x1 x2 σ = some res → zF G MX9_layAgreed (d + 1) 12 [(0, .ref (zad G 0)), (1, .int x1), (2, .int x2)] [] σ (some (.int res.1)) res.2) {x1 : Int32} {x2 : Int32} {σ : ZM} (h : f_X9_layAgreed_56 N rec12 x1 x2 σ = some res) : zF G MX9_layAgreed (d + 1) 56 [(0, .ref (zad G 0)), (1, .int x1), (2, .int x2)] [] σ (some (.int res.1)) res.2 := by
  unfold f_X9_layAgreed_56 at h
  obtain ⟨v1, ev1, h⟩ := zb h
  refine zf_iinc 2 (q := 59) (v := v1) (lv1 := [(2, .int v1), (0, .ref (zad G 0)), (1, .int x1)]) rfl dX9_layAgreed_56 rfl (by rw [ic1]; exact ev1) (by decide) rfl ?_
  refine zf_goto (tgt := 12) (by decide) dX9_layAgreed_59 ?_
  exact zf_sub [1, 2, 0] rfl (hr12 _ _ _ h)
def b_X9_layAgreed_12 (N : Nat) (rec12 : Int32 → Int32 → ZM → Option (Int32 × ZM)) (x1 : Int32) (x2 : Int32) (σ : ZM) : Option (Int32 × ZM) :=
  if x1 ≤ x2 then
  (f_X9_layAgreed_62 N x1 σ)
  else
  (if (256 : Int32) < x1 then
  (f_X9_layAgreed_62 N x1 σ)
  else
  (zbd (f_X9_agrees N x2 (σ.1 0 33) σ) fun r2 s3 =>
  if r2 = 0 then
  (f_X9_layAgreed_56 N rec12 x1 x2 s3)
  else
  ((zast s3 34 256 (s3.1 0 40) x2).bind fun s4 =>
  (zpI s4 0 40 ((s4.1 0 40) + (1 : Int32))).bind fun s5 =>
  f_X9_layAgreed_56 N rec12 x1 x2 s5)))
set_option maxRecDepth 100000 in
theorem ok_b_X9_layAgreed_12 {G : ZG} (hG : zSH G = shM) (N : Nat) {d : Nat} (hd : 5 ≤ d) {rec12 : Int32 → Int32 → ZM → Option (Int32 × ZM)} {res : Int32 × ZM} (hr12 : ∀ (x1 : Int32) (x2 : Int32) (σ : ZM), rec12 x1 x2 σ = some res → zF G MX9_layAgreed (d + 1) 12 [(0, .ref (zad G 0)), (1, .int x1), (2, .int x2)] [] σ (some (.int res.1)) res.2) {x1 : Int32} {x2 : Int32} {σ : ZM} (h : b_X9_layAgreed_12 N rec12 x1 x2 σ = some res) : zF G MX9_layAgreed (d + 1) 12 [(0, .ref (zad G 0)), (1, .int x1), (2, .int x2)] [] σ (some (.int res.1)) res.2 := by
  unfold b_X9_layAgreed_12 at h
  refine zf_iload_n 2 (q := 13) (j := 2) rfl dX9_layAgreed_12 rfl rfl ?_
  refine zf_iload_n 1 (q := 14) (j := 1) rfl dX9_layAgreed_13 rfl rfl ?_
  refine zf_icmp_ge (q := 17) (tgt := 62) rfl (by decide) dX9_layAgreed_14 (fun hc14 => ?_) (fun hc14 => ?_)
  · replace h := (zi h).1 hc14
    exact zf_sub [1] rfl (ok_X9_layAgreed_62 hG N hd h)
  · replace h := (zi h).2 hc14
    refine zf_iload_n 1 (q := 18) (j := 1) rfl dX9_layAgreed_17 rfl rfl ?_
    refine zf_sipush (q := 21) rfl dX9_layAgreed_18 sp256 ?_
    refine zf_icmp_gt (q := 24) (tgt := 62) rfl (by decide) dX9_layAgreed_21 (fun hc21 => ?_) (fun hc21 => ?_)
    · replace h := (zi h).1 hc21
      exact zf_sub [1] rfl (ok_X9_layAgreed_62 hG N hd h)
    · replace h := (zi h).2 hc21
      refine zf_aload_n 0 (q := 25) (j := 0) rfl dX9_layAgreed_24 rfl rfl ?_
      refine zf_iload_n 2 (q := 26) (j := 2) rfl dX9_layAgreed_25 rfl rfl ?_
      refine zf_aload_n 0 (q := 27) (j := 0) rfl dX9_layAgreed_26 rfl rfl ?_
      refine zf_getI (q := 30) rfl dX9_layAgreed_27 lf_RX9_238 (sm0 hG) rfl ?_
      obtain ⟨r2, s3, es3, h⟩ := zc h
      refine zf_callV (q := 33) (As := [.int x2, .int (σ.1 0 33)]) (rest := []) (st1 := [.int r2]) rfl dX9_layAgreed_30 lv_RX9_256 (sm0 hG) rfl rfl (Nat.le_of_ble_eq_true rfl) (ok_X9_agrees hG N (Nat.le_trans (by decide) hd) es3) rfl ?_
      refine zf_if_eq (q := 36) (tgt := 56) rfl (by decide) dX9_layAgreed_33 (fun hc33 => ?_) (fun hc33 => ?_)
      · replace h := (zi h).1 hc33
        exact zf_sub [0, 1, 2] rfl (ok_X9_layAgreed_56 hG N hd hr12 h)
      · replace h := (zi h).2 hc33
        refine zf_aload_n 0 (q := 37) (j := 0) rfl dX9_layAgreed_36 rfl rfl ?_
        refine zf_getR (q := 40) rfl dX9_layAgreed_37 lf_RX9_110 (sm0 hG) rfl ?_
        refine zf_aload_n 0 (q := 41) (j := 0) rfl dX9_layAgreed_40 rfl rfl ?_
        refine zf_getI (q := 44) rfl dX9_layAgreed_41 lf_RX9_253 (sm0 hG) rfl ?_
        refine zf_iload_n 2 (q := 45) (j := 2) rfl dX9_layAgreed_44 rfl rfl ?_
        obtain ⟨s4, es4, h⟩ := zb h
        refine zf_iast (q := 46) rfl dX9_layAgreed_45 (sm34 hG) es4 ?_
        refine zf_aload_n 0 (q := 47) (j := 0) rfl dX9_layAgreed_46 rfl rfl ?_
        refine zf_dup (q := 48) rfl dX9_layAgreed_47 rfl ?_
        refine zf_getI (q := 51) rfl dX9_layAgreed_48 lf_RX9_253 (sm0 hG) rfl ?_
        refine zf_iconst (q := 52) rfl dX9_layAgreed_51 ic1 ?_
        refine zf_iadd (q := 53) rfl dX9_layAgreed_52 ?_
        obtain ⟨s5, es5, h⟩ := zb h
        refine zf_putI (q := 56) rfl dX9_layAgreed_53 lp_RX9_253 (sm0 hG) rfl es5 ?_
        exact zf_sub [0, 1, 2] rfl (ok_X9_layAgreed_56 hG N hd hr12 h)
def f_X9_layAgreed_12 (N : Nat) : Nat → Int32 → Int32 → ZM → Option (Int32 × ZM)
  | 0, _, _, _ => none
  | n + 1, x1, x2, σ => b_X9_layAgreed_12 N (f_X9_layAgreed_12 N n) x1 x2 σ
theorem ok_X9_layAgreed_12 {G : ZG} (hG : zSH G = shM) (N : Nat) {d : Nat} (hd : 5 ≤ d) {res : Int32 × ZM} : ∀ (n : Nat) (x1 : Int32) (x2 : Int32) (σ : ZM), f_X9_layAgreed_12 N n x1 x2 σ = some res → zF G MX9_layAgreed (d + 1) 12 [(0, .ref (zad G 0)), (1, .int x1), (2, .int x2)] [] σ (some (.int res.1)) res.2 := by
  intro n
  induction n with
  | zero => intro x1 x2 σ h; exact absurd h (by simp [f_X9_layAgreed_12])
  | succ n ih => intro x1 x2 σ h; rw [f_X9_layAgreed_12] at h; exact ok_b_X9_layAgreed_12 hG N hd ih h
def f_X9_layAgreed (N : Nat) (σ : ZM) : Option (Int32 × ZM) :=
  zbd (f_X9_caseMany N σ) fun r6 s7 =>
  (zpI s7 0 40 (0 : Int32)).bind fun s8 =>
  f_X9_layAgreed_12 N N r6 (0 : Int32) s8
set_option maxRecDepth 100000 in
theorem ok_X9_layAgreed {G : ZG} (hG : zSH G = shM) (N : Nat) {d : Nat} (hd : 6 ≤ d) {σ : ZM} {res : Int32 × ZM} (h : f_X9_layAgreed N σ = some res) : zCt G d MX9_layAgreed [.ref (zad G 0)] σ (some (.int res.1)) res.2 := by
  obtain ⟨d, rfl⟩ : ∃ k, d = k + 1 := ⟨d - 1, by omega⟩
  have hd : 5 ≤ d := by omega
  refine zct_of (by decide) (Nat.le_of_ble_eq_true rfl) (lv := [(0, .ref (zad G 0))]) rfl ?_
  unfold f_X9_layAgreed at h
  refine zf_aload_n 0 (q := 1) (j := 0) rfl dX9_layAgreed_0 rfl rfl ?_
  obtain ⟨r6, s7, es7, h⟩ := zc h
  refine zf_callV (q := 4) (As := []) (rest := []) (st1 := [.int r6]) rfl dX9_layAgreed_1 lv_RX9_244 (sm0 hG) rfl rfl (Nat.le_of_ble_eq_true rfl) (ok_X9_caseMany hG N (Nat.le_trans (by decide) hd) es7) rfl ?_
  refine zf_istore_n (q := 5) (y := r6) (i := 1) (lv1 := [(1, .int r6), (0, .ref (zad G 0))]) rfl dX9_layAgreed_4 rfl (by decide) rfl rfl ?_
  refine zf_aload_n 1 (q := 6) (j := 0) rfl dX9_layAgreed_5 rfl rfl ?_
  refine zf_iconst (q := 7) rfl dX9_layAgreed_6 ic0 ?_
  obtain ⟨s8, es8, h⟩ := zb h
  refine zf_putI (q := 10) rfl dX9_layAgreed_7 lp_RX9_253 (sm0 hG) rfl es8 ?_
  refine zf_iconst (q := 11) rfl dX9_layAgreed_10 ic0 ?_
  refine zf_istore_n (q := 12) (y := (0 : Int32)) (i := 2) (lv1 := [(2, .int (0 : Int32)), (1, .int r6), (0, .ref (zad G 0))]) rfl dX9_layAgreed_11 rfl (by decide) rfl rfl ?_
  exact zf_sub [2, 1, 0] rfl (ok_X9_layAgreed_12 hG N hd _ _ _ _ h)
-- ===== X9_agree: NearCopiesModel.agree()I
def f_X9_agree (N : Nat) (σ : ZM) : Option (Int32 × ZM) :=
  zbd (f_X9_layAgreed N σ) fun r1 s2 =>
  if r1 = 0 then
  (some ((-5 : Int32), s2))
  else
  (some ((s2.1 0 40), s2))
set_option maxRecDepth 100000 in
theorem ok_X9_agree {G : ZG} (hG : zSH G = shM) (N : Nat) {d : Nat} (hd : 7 ≤ d) {σ : ZM} {res : Int32 × ZM} (h : f_X9_agree N σ = some res) : zCt G d MX9_agree [.ref (zad G 0)] σ (some (.int res.1)) res.2 := by
  obtain ⟨d, rfl⟩ : ∃ k, d = k + 1 := ⟨d - 1, by omega⟩
  have hd : 6 ≤ d := by omega
  refine zct_of (by decide) (Nat.le_of_ble_eq_true rfl) (lv := [(0, .ref (zad G 0))]) rfl ?_
  unfold f_X9_agree at h
  refine zf_aload_n 0 (q := 1) (j := 0) rfl dX9_agree_0 rfl rfl ?_
  obtain ⟨r1, s2, es2, h⟩ := zc h
  refine zf_callV (q := 4) (As := []) (rest := []) (st1 := [.int r1]) rfl dX9_agree_1 lv_RX9_259 (sm0 hG) rfl rfl (Nat.le_of_ble_eq_true rfl) (ok_X9_layAgreed hG N (Nat.le_trans (by decide) hd) es2) rfl ?_
  refine zf_if_eq (q := 7) (tgt := 14) rfl (by decide) dX9_agree_4 (fun hc4 => ?_) (fun hc4 => ?_)
  · replace h := (zi h).1 hc4
    refine zf_bipush (q := 16) rfl dX9_agree_14 bpm5 ?_
    cases h
    exact zf_ireturn dX9_agree_16 rfl
  · replace h := (zi h).2 hc4
    refine zf_aload_n 0 (q := 8) (j := 0) rfl dX9_agree_7 rfl rfl ?_
    refine zf_getI (q := 11) rfl dX9_agree_8 lf_RX9_253 (sm0 hG) rfl ?_
    refine zf_goto (tgt := 16) (by decide) dX9_agree_11 ?_
    cases h
    exact zf_ireturn dX9_agree_16 rfl
-- ===== X9_could: NearCopiesModel.could(I)I
def f_X9_could_82 (N : Nat) (rec24 : Int32 → Int32 → Int32 → ZM → Option (Int32 × ZM)) (x1 : Int32) (x3 : Int32) (y0 : Int32) (y1 : Int32) (σ : ZM) : Option (Int32 × ZM) :=
  (some (y1 ||| y0)).bind fun v1 =>
  (some (x3 + (1 : Int32))).bind fun v2 =>
  rec24 x1 v1 v2 σ
set_option maxRecDepth 100000 in
theorem ok_X9_could_82 {G : ZG} (hG : zSH G = shM) (N : Nat) {d : Nat} (hd : 6 ≤ d) {rec24 : Int32 → Int32 → Int32 → ZM → Option (Int32 × ZM)} {res : Int32 × ZM} (hr24 : ∀ (x1 : Int32) (x2 : Int32) (x3 : Int32) (σ : ZM), rec24 x1 x2 x3 σ = some res → zF G MX9_could (d + 1) 24 [(0, .ref (zad G 0)), (1, .int x1), (2, .int x2), (3, .int x3)] [] σ (some (.int res.1)) res.2) {x1 : Int32} {x3 : Int32} {y0 : Int32} {y1 : Int32} {σ : ZM} (h : f_X9_could_82 N rec24 x1 x3 y0 y1 σ = some res) : zF G MX9_could (d + 1) 82 [(0, .ref (zad G 0)), (1, .int x1), (3, .int x3)] [.int y0, .int y1] σ (some (.int res.1)) res.2 := by
  unfold f_X9_could_82 at h
  refine zf_ior (q := 83) rfl dX9_could_82 ?_
  obtain ⟨v1, ev1, h⟩ := zb h
  refine zf_istore_n (q := 84) (y := v1) (i := 2) (lv1 := [(2, .int v1), (0, .ref (zad G 0)), (1, .int x1), (3, .int x3)]) rfl dX9_could_83 rfl (by decide) ev1 rfl ?_
  obtain ⟨v2, ev2, h⟩ := zb h
  refine zf_iinc 3 (q := 87) (v := v2) (lv1 := [(3, .int v2), (2, .int v1), (0, .ref (zad G 0)), (1, .int x1)]) rfl dX9_could_84 rfl (by rw [ic1]; exact ev2) (by decide) rfl ?_
  refine zf_goto (tgt := 24) (by decide) dX9_could_87 ?_
  exact zf_sub [2, 3, 1, 0] rfl (hr24 _ _ _ _ h)
def f_X9_could_80 (N : Nat) (rec24 : Int32 → Int32 → Int32 → ZM → Option (Int32 × ZM)) (x1 : Int32) (x3 : Int32) (y0 : Int32) (σ : ZM) : Option (Int32 × ZM) :=
  f_X9_could_82 N rec24 x1 x3 (16 : Int32) y0 σ
set_option maxRecDepth 100000 in
theorem ok_X9_could_80 {G : ZG} (hG : zSH G = shM) (N : Nat) {d : Nat} (hd : 6 ≤ d) {rec24 : Int32 → Int32 → Int32 → ZM → Option (Int32 × ZM)} {res : Int32 × ZM} (hr24 : ∀ (x1 : Int32) (x2 : Int32) (x3 : Int32) (σ : ZM), rec24 x1 x2 x3 σ = some res → zF G MX9_could (d + 1) 24 [(0, .ref (zad G 0)), (1, .int x1), (2, .int x2), (3, .int x3)] [] σ (some (.int res.1)) res.2) {x1 : Int32} {x3 : Int32} {y0 : Int32} {σ : ZM} (h : f_X9_could_80 N rec24 x1 x3 y0 σ = some res) : zF G MX9_could (d + 1) 80 [(0, .ref (zad G 0)), (1, .int x1), (3, .int x3)] [.int y0] σ (some (.int res.1)) res.2 := by
  unfold f_X9_could_80 at h
  refine zf_bipush (q := 82) rfl dX9_could_80 bp16 ?_
  exact zf_sub [0, 1, 2] rfl (ok_X9_could_82 hG N hd hr24 h)
def b_X9_could_24 (N : Nat) (rec24 : Int32 → Int32 → Int32 → ZM → Option (Int32 × ZM)) (x1 : Int32) (x2 : Int32) (x3 : Int32) (σ : ZM) : Option (Int32 × ZM) :=
  if (σ.1 0 40) ≤ x3 then
  (some (x2, σ))
  else
  (zbd (f_X9_askNow N σ) fun r3 s4 =>
  (zald s4 34 256 x3).bind fun v5 =>
  zbd (f_X9_askCase N v5 s4) fun r6 s7 =>
  zbd (f_X9_settle N s7) fun r8 s9 =>
  if r8 = 0 then
  (f_X9_could_80 N rec24 x1 x3 x2 s9)
  else
  ((zald s9 17 10 x1).bind fun v10 =>
  if v10 = (-9 : Int32) then
  (f_X9_could_80 N rec24 x1 x3 x2 s9)
  else
  ((zald s9 17 10 x1).bind fun v11 =>
  f_X9_could_82 N rec24 x1 x3 ((1 : Int32) <<< (v11 &&& 31)) x2 s9)))
set_option maxRecDepth 100000 in
theorem ok_b_X9_could_24 {G : ZG} (hG : zSH G = shM) (N : Nat) {d : Nat} (hd : 6 ≤ d) {rec24 : Int32 → Int32 → Int32 → ZM → Option (Int32 × ZM)} {res : Int32 × ZM} (hr24 : ∀ (x1 : Int32) (x2 : Int32) (x3 : Int32) (σ : ZM), rec24 x1 x2 x3 σ = some res → zF G MX9_could (d + 1) 24 [(0, .ref (zad G 0)), (1, .int x1), (2, .int x2), (3, .int x3)] [] σ (some (.int res.1)) res.2) {x1 : Int32} {x2 : Int32} {x3 : Int32} {σ : ZM} (h : b_X9_could_24 N rec24 x1 x2 x3 σ = some res) : zF G MX9_could (d + 1) 24 [(0, .ref (zad G 0)), (1, .int x1), (2, .int x2), (3, .int x3)] [] σ (some (.int res.1)) res.2 := by
  unfold b_X9_could_24 at h
  refine zf_iload_n 3 (q := 25) (j := 3) rfl dX9_could_24 rfl rfl ?_
  refine zf_aload_n 0 (q := 26) (j := 0) rfl dX9_could_25 rfl rfl ?_
  refine zf_getI (q := 29) rfl dX9_could_26 lf_RX9_253 (sm0 hG) rfl ?_
  refine zf_icmp_ge (q := 32) (tgt := 90) rfl (by decide) dX9_could_29 (fun hc29 => ?_) (fun hc29 => ?_)
  · replace h := (zi h).1 hc29
    refine zf_iload_n 2 (q := 91) (j := 2) rfl dX9_could_90 rfl rfl ?_
    cases h
    exact zf_ireturn dX9_could_91 rfl
  · replace h := (zi h).2 hc29
    refine zf_aload_n 0 (q := 33) (j := 0) rfl dX9_could_32 rfl rfl ?_
    obtain ⟨r3, s4, es4, h⟩ := zc h
    refine zf_callV (q := 36) (As := []) (rest := []) (st1 := []) rfl dX9_could_33 lv_RX9_209 (sm0 hG) rfl rfl (Nat.le_of_ble_eq_true rfl) (ok_X9_askNow hG N (Nat.le_trans (by decide) hd) es4) rfl ?_
    refine zf_aload_n 0 (q := 37) (j := 0) rfl dX9_could_36 rfl rfl ?_
    refine zf_aload_n 0 (q := 38) (j := 0) rfl dX9_could_37 rfl rfl ?_
    refine zf_getR (q := 41) rfl dX9_could_38 lf_RX9_110 (sm0 hG) rfl ?_
    refine zf_iload_n 3 (q := 42) (j := 3) rfl dX9_could_41 rfl rfl ?_
    obtain ⟨v5, ev5, h⟩ := zb h
    refine zf_iald (q := 43) rfl dX9_could_42 (sm34 hG) ev5 ?_
    obtain ⟨r6, s7, es7, h⟩ := zc h
    refine zf_callV (q := 46) (As := [.int v5]) (rest := []) (st1 := []) rfl dX9_could_43 lv_RX9_250 (sm0 hG) rfl rfl (Nat.le_of_ble_eq_true rfl) (ok_X9_askCase hG N (Nat.le_trans (by decide) hd) es7) rfl ?_
    refine zf_aload_n 0 (q := 47) (j := 0) rfl dX9_could_46 rfl rfl ?_
    obtain ⟨r8, s9, es9, h⟩ := zc h
    refine zf_callV (q := 50) (As := []) (rest := []) (st1 := [.int r8]) rfl dX9_could_47 lv_RX9_212 (sm0 hG) rfl rfl (Nat.le_of_ble_eq_true rfl) (ok_X9_settle hG N (Nat.le_trans (by decide) hd) es9) rfl ?_
    refine zf_istore (q := 52) (y := r8) (i := 4) (lv1 := [(4, .int r8), (0, .ref (zad G 0)), (1, .int x1), (2, .int x2), (3, .int x3)]) rfl dX9_could_50 (by decide) rfl rfl ?_
    refine zf_iload_n 3 (q := 53) (j := 2) rfl dX9_could_52 rfl rfl ?_
    refine zf_iload 0 (q := 55) rfl dX9_could_53 rfl ?_
    refine zf_if_eq (q := 58) (tgt := 80) rfl (by decide) dX9_could_55 (fun hc55 => ?_) (fun hc55 => ?_)
    · replace h := (zi h).1 hc55
      exact zf_sub [1, 2, 4] rfl (ok_X9_could_80 hG N hd hr24 h)
    · replace h := (zi h).2 hc55
      refine zf_aload_n 1 (q := 59) (j := 0) rfl dX9_could_58 rfl rfl ?_
      refine zf_getR (q := 62) rfl dX9_could_59 lf_RX9_59 (sm0 hG) rfl ?_
      refine zf_iload_n 2 (q := 63) (j := 1) rfl dX9_could_62 rfl rfl ?_
      obtain ⟨v10, ev10, h⟩ := zb h
      refine zf_iald (q := 64) rfl dX9_could_63 (sm17 hG) ev10 ?_
      refine zf_bipush (q := 66) rfl dX9_could_64 bpm9 ?_
      refine zf_icmp_eq (q := 69) (tgt := 80) rfl (by decide) dX9_could_66 (fun hc66 => ?_) (fun hc66 => ?_)
      · replace h := (zi h).1 hc66
        exact zf_sub [1, 2, 4] rfl (ok_X9_could_80 hG N hd hr24 h)
      · replace h := (zi h).2 hc66
        refine zf_iconst (q := 70) rfl dX9_could_69 ic1 ?_
        refine zf_aload_n 1 (q := 71) (j := 0) rfl dX9_could_70 rfl rfl ?_
        refine zf_getR (q := 74) rfl dX9_could_71 lf_RX9_59 (sm0 hG) rfl ?_
        refine zf_iload_n 2 (q := 75) (j := 1) rfl dX9_could_74 rfl rfl ?_
        obtain ⟨v11, ev11, h⟩ := zb h
        refine zf_iald (q := 76) rfl dX9_could_75 (sm17 hG) ev11 ?_
        refine zf_ishl (q := 77) rfl dX9_could_76 ?_
        refine zf_goto (tgt := 82) (by decide) dX9_could_77 ?_
        exact zf_sub [1, 2, 4] rfl (ok_X9_could_82 hG N hd hr24 h)
def f_X9_could_24 (N : Nat) : Nat → Int32 → Int32 → Int32 → ZM → Option (Int32 × ZM)
  | 0, _, _, _, _ => none
  | n + 1, x1, x2, x3, σ => b_X9_could_24 N (f_X9_could_24 N n) x1 x2 x3 σ
theorem ok_X9_could_24 {G : ZG} (hG : zSH G = shM) (N : Nat) {d : Nat} (hd : 6 ≤ d) {res : Int32 × ZM} : ∀ (n : Nat) (x1 : Int32) (x2 : Int32) (x3 : Int32) (σ : ZM), f_X9_could_24 N n x1 x2 x3 σ = some res → zF G MX9_could (d + 1) 24 [(0, .ref (zad G 0)), (1, .int x1), (2, .int x2), (3, .int x3)] [] σ (some (.int res.1)) res.2 := by
  intro n
  induction n with
  | zero => intro x1 x2 x3 σ h; exact absurd h (by simp [f_X9_could_24])
  | succ n ih => intro x1 x2 x3 σ h; rw [f_X9_could_24] at h; exact ok_b_X9_could_24 hG N hd ih h
def f_X9_could (N : Nat) (x1 : Int32) (σ : ZM) : Option (Int32 × ZM) :=
  zbd (f_X9_isNet N x1 σ) fun r12 s13 =>
  if r12 = 0 then
  (some ((-1 : Int32), s13))
  else
  (zbd (f_X9_layAgreed N s13) fun r14 s15 =>
  if r14 = 0 then
  (some ((-5 : Int32), s15))
  else
  (f_X9_could_24 N N x1 (0 : Int32) (0 : Int32) s15))
set_option maxRecDepth 100000 in
theorem ok_X9_could {G : ZG} (hG : zSH G = shM) (N : Nat) {d : Nat} (hd : 7 ≤ d) {x1 : Int32} {σ : ZM} {res : Int32 × ZM} (h : f_X9_could N x1 σ = some res) : zCt G d MX9_could [.ref (zad G 0), .int x1] σ (some (.int res.1)) res.2 := by
  obtain ⟨d, rfl⟩ : ∃ k, d = k + 1 := ⟨d - 1, by omega⟩
  have hd : 6 ≤ d := by omega
  refine zct_of (by decide) (Nat.le_of_ble_eq_true rfl) (lv := [(0, .ref (zad G 0)), (1, .int x1)]) rfl ?_
  unfold f_X9_could at h
  refine zf_aload_n 0 (q := 1) (j := 0) rfl dX9_could_0 rfl rfl ?_
  refine zf_iload_n 1 (q := 2) (j := 1) rfl dX9_could_1 rfl rfl ?_
  obtain ⟨r12, s13, es13, h⟩ := zc h
  refine zf_callV (q := 5) (As := [.int x1]) (rest := []) (st1 := [.int r12]) rfl dX9_could_2 lv_RX9_145 (sm0 hG) rfl rfl (Nat.le_of_ble_eq_true rfl) (ok_X9_isNet hG N (Nat.le_trans (by decide) hd) es13) rfl ?_
  refine zf_if_ne (q := 8) (tgt := 10) rfl (by decide) dX9_could_5 (fun hc5 => ?_) (fun hc5 => ?_)
  · replace h := (zi h).2 hc5
    refine zf_aload_n 0 (q := 11) (j := 0) rfl dX9_could_10 rfl rfl ?_
    obtain ⟨r14, s15, es15, h⟩ := zc h
    refine zf_callV (q := 14) (As := []) (rest := []) (st1 := [.int r14]) rfl dX9_could_11 lv_RX9_259 (sm0 hG) rfl rfl (Nat.le_of_ble_eq_true rfl) (ok_X9_layAgreed hG N (Nat.le_trans (by decide) hd) es15) rfl ?_
    refine zf_if_ne (q := 17) (tgt := 20) rfl (by decide) dX9_could_14 (fun hc14 => ?_) (fun hc14 => ?_)
    · replace h := (zi h).2 hc14
      refine zf_iconst (q := 21) rfl dX9_could_20 ic0 ?_
      refine zf_istore_n (q := 22) (y := (0 : Int32)) (i := 2) (lv1 := [(2, .int (0 : Int32)), (0, .ref (zad G 0)), (1, .int x1)]) rfl dX9_could_21 rfl (by decide) rfl rfl ?_
      refine zf_iconst (q := 23) rfl dX9_could_22 ic0 ?_
      refine zf_istore_n (q := 24) (y := (0 : Int32)) (i := 3) (lv1 := [(3, .int (0 : Int32)), (2, .int (0 : Int32)), (0, .ref (zad G 0)), (1, .int x1)]) rfl dX9_could_23 rfl (by decide) rfl rfl ?_
      exact zf_sub [2, 3, 1, 0] rfl (ok_X9_could_24 hG N hd _ _ _ _ _ h)
    · replace h := (zi h).1 hc14
      refine zf_bipush (q := 19) rfl dX9_could_17 bpm5 ?_
      cases h
      exact zf_ireturn dX9_could_19 rfl
  · replace h := (zi h).1 hc5
    refine zf_iconst (q := 9) rfl dX9_could_8 icm1 ?_
    cases h
    exact zf_ireturn dX9_could_9 rfl
-- ===== X9_rulesLeft: NearCopiesModel.rulesLeft(I)I
def b_X9_rulesLeft_4 (N : Nat) (rec4 : Int32 → Int32 → Int32 → ZM → Option (Int32 × ZM)) (x1 : Int32) (x2 : Int32) (x3 : Int32) (σ : ZM) : Option (Int32 × ZM) :=
  if (σ.1 0 40) ≤ x3 then
  (some (x2, σ))
  else
  ((zald σ 34 256 x3).bind fun v1 =>
  zbd (f_X9_askCase N v1 σ) fun r2 s3 =>
  (zald s3 16 10 x1).bind fun v4 =>
  (some (x2 ||| ((1 : Int32) <<< (v4 &&& 31)))).bind fun v5 =>
  (some (x3 + (1 : Int32))).bind fun v6 =>
  rec4 x1 v5 v6 s3)
set_option maxRecDepth 100000 in
theorem ok_b_X9_rulesLeft_4 {G : ZG} (hG : zSH G = shM) (N : Nat) {d : Nat} (hd : 1 ≤ d) {rec4 : Int32 → Int32 → Int32 → ZM → Option (Int32 × ZM)} {res : Int32 × ZM} (hr4 : ∀ (x1 : Int32) (x2 : Int32) (x3 : Int32) (σ : ZM), rec4 x1 x2 x3 σ = some res → zF G MX9_rulesLeft (d + 1) 4 [(0, .ref (zad G 0)), (1, .int x1), (2, .int x2), (3, .int x3)] [] σ (some (.int res.1)) res.2) {x1 : Int32} {x2 : Int32} {x3 : Int32} {σ : ZM} (h : b_X9_rulesLeft_4 N rec4 x1 x2 x3 σ = some res) : zF G MX9_rulesLeft (d + 1) 4 [(0, .ref (zad G 0)), (1, .int x1), (2, .int x2), (3, .int x3)] [] σ (some (.int res.1)) res.2 := by
  unfold b_X9_rulesLeft_4 at h
  refine zf_iload_n 3 (q := 5) (j := 3) rfl dX9_rulesLeft_4 rfl rfl ?_
  refine zf_aload_n 0 (q := 6) (j := 0) rfl dX9_rulesLeft_5 rfl rfl ?_
  refine zf_getI (q := 9) rfl dX9_rulesLeft_6 lf_RX9_253 (sm0 hG) rfl ?_
  refine zf_icmp_ge (q := 12) (tgt := 39) rfl (by decide) dX9_rulesLeft_9 (fun hc9 => ?_) (fun hc9 => ?_)
  · replace h := (zi h).1 hc9
    refine zf_iload_n 2 (q := 40) (j := 2) rfl dX9_rulesLeft_39 rfl rfl ?_
    cases h
    exact zf_ireturn dX9_rulesLeft_40 rfl
  · replace h := (zi h).2 hc9
    refine zf_aload_n 0 (q := 13) (j := 0) rfl dX9_rulesLeft_12 rfl rfl ?_
    refine zf_aload_n 0 (q := 14) (j := 0) rfl dX9_rulesLeft_13 rfl rfl ?_
    refine zf_getR (q := 17) rfl dX9_rulesLeft_14 lf_RX9_110 (sm0 hG) rfl ?_
    refine zf_iload_n 3 (q := 18) (j := 3) rfl dX9_rulesLeft_17 rfl rfl ?_
    obtain ⟨v1, ev1, h⟩ := zb h
    refine zf_iald (q := 19) rfl dX9_rulesLeft_18 (sm34 hG) ev1 ?_
    obtain ⟨r2, s3, es3, h⟩ := zc h
    refine zf_callV (q := 22) (As := [.int v1]) (rest := []) (st1 := []) rfl dX9_rulesLeft_19 lv_RX9_250 (sm0 hG) rfl rfl (Nat.le_of_ble_eq_true rfl) (ok_X9_askCase hG N (Nat.le_trans (by decide) hd) es3) rfl ?_
    refine zf_iload_n 2 (q := 23) (j := 2) rfl dX9_rulesLeft_22 rfl rfl ?_
    refine zf_iconst (q := 24) rfl dX9_rulesLeft_23 ic1 ?_
    refine zf_aload_n 0 (q := 25) (j := 0) rfl dX9_rulesLeft_24 rfl rfl ?_
    refine zf_getR (q := 28) rfl dX9_rulesLeft_25 lf_RX9_56 (sm0 hG) rfl ?_
    refine zf_iload_n 1 (q := 29) (j := 1) rfl dX9_rulesLeft_28 rfl rfl ?_
    obtain ⟨v4, ev4, h⟩ := zb h
    refine zf_iald (q := 30) rfl dX9_rulesLeft_29 (sm16 hG) ev4 ?_
    refine zf_ishl (q := 31) rfl dX9_rulesLeft_30 ?_
    refine zf_ior (q := 32) rfl dX9_rulesLeft_31 ?_
    obtain ⟨v5, ev5, h⟩ := zb h
    refine zf_istore_n (q := 33) (y := v5) (i := 2) (lv1 := [(2, .int v5), (0, .ref (zad G 0)), (1, .int x1), (3, .int x3)]) rfl dX9_rulesLeft_32 rfl (by decide) ev5 rfl ?_
    obtain ⟨v6, ev6, h⟩ := zb h
    refine zf_iinc 3 (q := 36) (v := v6) (lv1 := [(3, .int v6), (2, .int v5), (0, .ref (zad G 0)), (1, .int x1)]) rfl dX9_rulesLeft_33 rfl (by rw [ic1]; exact ev6) (by decide) rfl ?_
    refine zf_goto (tgt := 4) (by decide) dX9_rulesLeft_36 ?_
    exact zf_sub [2, 3, 1, 0] rfl (hr4 _ _ _ _ h)
def f_X9_rulesLeft_4 (N : Nat) : Nat → Int32 → Int32 → Int32 → ZM → Option (Int32 × ZM)
  | 0, _, _, _, _ => none
  | n + 1, x1, x2, x3, σ => b_X9_rulesLeft_4 N (f_X9_rulesLeft_4 N n) x1 x2 x3 σ
theorem ok_X9_rulesLeft_4 {G : ZG} (hG : zSH G = shM) (N : Nat) {d : Nat} (hd : 1 ≤ d) {res : Int32 × ZM} : ∀ (n : Nat) (x1 : Int32) (x2 : Int32) (x3 : Int32) (σ : ZM), f_X9_rulesLeft_4 N n x1 x2 x3 σ = some res → zF G MX9_rulesLeft (d + 1) 4 [(0, .ref (zad G 0)), (1, .int x1), (2, .int x2), (3, .int x3)] [] σ (some (.int res.1)) res.2 := by
  intro n
  induction n with
  | zero => intro x1 x2 x3 σ h; exact absurd h (by simp [f_X9_rulesLeft_4])
  | succ n ih => intro x1 x2 x3 σ h; rw [f_X9_rulesLeft_4] at h; exact ok_b_X9_rulesLeft_4 hG N hd ih h
def f_X9_rulesLeft (N : Nat) (x1 : Int32) (σ : ZM) : Option (Int32 × ZM) :=
  f_X9_rulesLeft_4 N N x1 (0 : Int32) (0 : Int32) σ
set_option maxRecDepth 100000 in
theorem ok_X9_rulesLeft {G : ZG} (hG : zSH G = shM) (N : Nat) {d : Nat} (hd : 2 ≤ d) {x1 : Int32} {σ : ZM} {res : Int32 × ZM} (h : f_X9_rulesLeft N x1 σ = some res) : zCt G d MX9_rulesLeft [.ref (zad G 0), .int x1] σ (some (.int res.1)) res.2 := by
  obtain ⟨d, rfl⟩ : ∃ k, d = k + 1 := ⟨d - 1, by omega⟩
  have hd : 1 ≤ d := by omega
  refine zct_of (by decide) (Nat.le_of_ble_eq_true rfl) (lv := [(0, .ref (zad G 0)), (1, .int x1)]) rfl ?_
  unfold f_X9_rulesLeft at h
  refine zf_iconst (q := 1) rfl dX9_rulesLeft_0 ic0 ?_
  refine zf_istore_n (q := 2) (y := (0 : Int32)) (i := 2) (lv1 := [(2, .int (0 : Int32)), (0, .ref (zad G 0)), (1, .int x1)]) rfl dX9_rulesLeft_1 rfl (by decide) rfl rfl ?_
  refine zf_iconst (q := 3) rfl dX9_rulesLeft_2 ic0 ?_
  refine zf_istore_n (q := 4) (y := (0 : Int32)) (i := 3) (lv1 := [(3, .int (0 : Int32)), (2, .int (0 : Int32)), (0, .ref (zad G 0)), (1, .int x1)]) rfl dX9_rulesLeft_3 rfl (by decide) rfl rfl ?_
  exact zf_sub [2, 3, 1, 0] rfl (ok_X9_rulesLeft_4 hG N hd _ _ _ _ _ h)
-- ===== X9_rules: NearCopiesModel.rules(I)I
def f_X9_rules (N : Nat) (x1 : Int32) (σ : ZM) : Option (Int32 × ZM) :=
  zbd (f_X9_isNet N x1 σ) fun r1 s2 =>
  if r1 = 0 then
  (some ((-1 : Int32), s2))
  else
  (zbd (f_X9_layAgreed N s2) fun r3 s4 =>
  if r3 = 0 then
  (some ((-5 : Int32), s4))
  else
  (zbd (f_X9_rulesLeft N x1 s4) fun r5 s6 =>
  some (r5, s6)))
set_option maxRecDepth 100000 in
theorem ok_X9_rules {G : ZG} (hG : zSH G = shM) (N : Nat) {d : Nat} (hd : 7 ≤ d) {x1 : Int32} {σ : ZM} {res : Int32 × ZM} (h : f_X9_rules N x1 σ = some res) : zCt G d MX9_rules [.ref (zad G 0), .int x1] σ (some (.int res.1)) res.2 := by
  obtain ⟨d, rfl⟩ : ∃ k, d = k + 1 := ⟨d - 1, by omega⟩
  have hd : 6 ≤ d := by omega
  refine zct_of (by decide) (Nat.le_of_ble_eq_true rfl) (lv := [(0, .ref (zad G 0)), (1, .int x1)]) rfl ?_
  unfold f_X9_rules at h
  refine zf_aload_n 0 (q := 1) (j := 0) rfl dX9_rules_0 rfl rfl ?_
  refine zf_iload_n 1 (q := 2) (j := 1) rfl dX9_rules_1 rfl rfl ?_
  obtain ⟨r1, s2, es2, h⟩ := zc h
  refine zf_callV (q := 5) (As := [.int x1]) (rest := []) (st1 := [.int r1]) rfl dX9_rules_2 lv_RX9_145 (sm0 hG) rfl rfl (Nat.le_of_ble_eq_true rfl) (ok_X9_isNet hG N (Nat.le_trans (by decide) hd) es2) rfl ?_
  refine zf_if_ne (q := 8) (tgt := 10) rfl (by decide) dX9_rules_5 (fun hc5 => ?_) (fun hc5 => ?_)
  · replace h := (zi h).2 hc5
    refine zf_aload_n 0 (q := 11) (j := 0) rfl dX9_rules_10 rfl rfl ?_
    obtain ⟨r3, s4, es4, h⟩ := zc h
    refine zf_callV (q := 14) (As := []) (rest := []) (st1 := [.int r3]) rfl dX9_rules_11 lv_RX9_259 (sm0 hG) rfl rfl (Nat.le_of_ble_eq_true rfl) (ok_X9_layAgreed hG N (Nat.le_trans (by decide) hd) es4) rfl ?_
    refine zf_if_eq (q := 17) (tgt := 25) rfl (by decide) dX9_rules_14 (fun hc14 => ?_) (fun hc14 => ?_)
    · replace h := (zi h).1 hc14
      refine zf_bipush (q := 27) rfl dX9_rules_25 bpm5 ?_
      cases h
      exact zf_ireturn dX9_rules_27 rfl
    · replace h := (zi h).2 hc14
      refine zf_aload_n 0 (q := 18) (j := 0) rfl dX9_rules_17 rfl rfl ?_
      refine zf_iload_n 1 (q := 19) (j := 1) rfl dX9_rules_18 rfl rfl ?_
      obtain ⟨r5, s6, es6, h⟩ := zc h
      refine zf_callV (q := 22) (As := [.int x1]) (rest := []) (st1 := [.int r5]) rfl dX9_rules_19 lv_RX9_262 (sm0 hG) rfl rfl (Nat.le_of_ble_eq_true rfl) (ok_X9_rulesLeft hG N (Nat.le_trans (by decide) hd) es6) rfl ?_
      refine zf_goto (tgt := 27) (by decide) dX9_rules_22 ?_
      cases h
      exact zf_ireturn dX9_rules_27 rfl
  · replace h := (zi h).1 hc5
    refine zf_iconst (q := 9) rfl dX9_rules_8 icm1 ?_
    cases h
    exact zf_ireturn dX9_rules_9 rfl
-- ===== X9_learn: NearCopiesModel.learn()I
def b_X9_learn_49 (N : Nat) (rec49 : Int32 → ZM → Option (Int32 × ZM)) (x1 : Int32) (σ : ZM) : Option (Int32 × ZM) :=
  if (σ.1 0 0) ≤ x1 then
  (zbd (f_X9_caseMany N σ) fun r1 s2 =>
  some (r1, s2))
  else
  ((zald σ 35 10 x1).bind fun v3 =>
  (zast σ 3 10 x1 v3).bind fun s4 =>
  (some (x1 + (1 : Int32))).bind fun v5 =>
  rec49 v5 s4)
set_option maxRecDepth 100000 in
theorem ok_b_X9_learn_49 {G : ZG} (hG : zSH G = shM) (N : Nat) {d : Nat} (hd : 6 ≤ d) {rec49 : Int32 → ZM → Option (Int32 × ZM)} {res : Int32 × ZM} (hr49 : ∀ (x1 : Int32) (σ : ZM), rec49 x1 σ = some res → zF G MX9_learn (d + 1) 49 [(0, .ref (zad G 0)), (1, .int x1)] [] σ (some (.int res.1)) res.2) {x1 : Int32} {σ : ZM} (h : b_X9_learn_49 N rec49 x1 σ = some res) : zF G MX9_learn (d + 1) 49 [(0, .ref (zad G 0)), (1, .int x1)] [] σ (some (.int res.1)) res.2 := by
  unfold b_X9_learn_49 at h
  refine zf_iload_n 1 (q := 50) (j := 1) rfl dX9_learn_49 rfl rfl ?_
  refine zf_aload_n 0 (q := 51) (j := 0) rfl dX9_learn_50 rfl rfl ?_
  refine zf_getI (q := 54) rfl dX9_learn_51 lf_RX9_132 (sm0 hG) rfl ?_
  refine zf_icmp_ge (q := 57) (tgt := 75) rfl (by decide) dX9_learn_54 (fun hc54 => ?_) (fun hc54 => ?_)
  · replace h := (zi h).1 hc54
    refine zf_aload_n 0 (q := 76) (j := 0) rfl dX9_learn_75 rfl rfl ?_
    obtain ⟨r1, s2, es2, h⟩ := zc h
    refine zf_callV (q := 79) (As := []) (rest := []) (st1 := [.int r1]) rfl dX9_learn_76 lv_RX9_244 (sm0 hG) rfl rfl (Nat.le_of_ble_eq_true rfl) (ok_X9_caseMany hG N (Nat.le_trans (by decide) hd) es2) rfl ?_
    cases h
    exact zf_ireturn dX9_learn_79 rfl
  · replace h := (zi h).2 hc54
    refine zf_aload_n 0 (q := 58) (j := 0) rfl dX9_learn_57 rfl rfl ?_
    refine zf_getR (q := 61) rfl dX9_learn_58 lf_RX9_16 (sm0 hG) rfl ?_
    refine zf_iload_n 1 (q := 62) (j := 1) rfl dX9_learn_61 rfl rfl ?_
    refine zf_aload_n 0 (q := 63) (j := 0) rfl dX9_learn_62 rfl rfl ?_
    refine zf_getR (q := 66) rfl dX9_learn_63 lf_RX9_113 (sm0 hG) rfl ?_
    refine zf_iload_n 1 (q := 67) (j := 1) rfl dX9_learn_66 rfl rfl ?_
    obtain ⟨v3, ev3, h⟩ := zb h
    refine zf_iald (q := 68) rfl dX9_learn_67 (sm35 hG) ev3 ?_
    obtain ⟨s4, es4, h⟩ := zb h
    refine zf_iast (q := 69) rfl dX9_learn_68 (sm3 hG) es4 ?_
    obtain ⟨v5, ev5, h⟩ := zb h
    refine zf_iinc 1 (q := 72) (v := v5) (lv1 := [(1, .int v5), (0, .ref (zad G 0))]) rfl dX9_learn_69 rfl (by rw [ic1]; exact ev5) (by decide) rfl ?_
    refine zf_goto (tgt := 49) (by decide) dX9_learn_72 ?_
    exact zf_sub [1, 0] rfl (hr49 _ _ h)
def f_X9_learn_49 (N : Nat) : Nat → Int32 → ZM → Option (Int32 × ZM)
  | 0, _, _ => none
  | n + 1, x1, σ => b_X9_learn_49 N (f_X9_learn_49 N n) x1 σ
theorem ok_X9_learn_49 {G : ZG} (hG : zSH G = shM) (N : Nat) {d : Nat} (hd : 6 ≤ d) {res : Int32 × ZM} : ∀ (n : Nat) (x1 : Int32) (σ : ZM), f_X9_learn_49 N n x1 σ = some res → zF G MX9_learn (d + 1) 49 [(0, .ref (zad G 0)), (1, .int x1)] [] σ (some (.int res.1)) res.2 := by
  intro n
  induction n with
  | zero => intro x1 σ h; exact absurd h (by simp [f_X9_learn_49])
  | succ n ih => intro x1 σ h; rw [f_X9_learn_49] at h; exact ok_b_X9_learn_49 hG N hd ih h
def b_X9_learn_22 (N : Nat) (rec22 : Int32 → ZM → Option (Int32 × ZM)) (x1 : Int32) (σ : ZM) : Option (Int32 × ZM) :=
  if (σ.1 0 0) ≤ x1 then
  (f_X9_learn_49 N N (0 : Int32) σ)
  else
  (zbd (f_X9_rulesLeft N x1 σ) fun r6 s7 =>
  (zast s7 35 10 x1 r6).bind fun s8 =>
  (some (x1 + (1 : Int32))).bind fun v9 =>
  rec22 v9 s8)
set_option maxRecDepth 100000 in
theorem ok_b_X9_learn_22 {G : ZG} (hG : zSH G = shM) (N : Nat) {d : Nat} (hd : 6 ≤ d) {rec22 : Int32 → ZM → Option (Int32 × ZM)} {res : Int32 × ZM} (hr22 : ∀ (x1 : Int32) (σ : ZM), rec22 x1 σ = some res → zF G MX9_learn (d + 1) 22 [(0, .ref (zad G 0)), (1, .int x1)] [] σ (some (.int res.1)) res.2) {x1 : Int32} {σ : ZM} (h : b_X9_learn_22 N rec22 x1 σ = some res) : zF G MX9_learn (d + 1) 22 [(0, .ref (zad G 0)), (1, .int x1)] [] σ (some (.int res.1)) res.2 := by
  unfold b_X9_learn_22 at h
  refine zf_iload_n 1 (q := 23) (j := 1) rfl dX9_learn_22 rfl rfl ?_
  refine zf_aload_n 0 (q := 24) (j := 0) rfl dX9_learn_23 rfl rfl ?_
  refine zf_getI (q := 27) rfl dX9_learn_24 lf_RX9_132 (sm0 hG) rfl ?_
  refine zf_icmp_ge (q := 30) (tgt := 47) rfl (by decide) dX9_learn_27 (fun hc27 => ?_) (fun hc27 => ?_)
  · replace h := (zi h).1 hc27
    refine zf_iconst (q := 48) rfl dX9_learn_47 ic0 ?_
    refine zf_istore_n (q := 49) (y := (0 : Int32)) (i := 1) (lv1 := [(1, .int (0 : Int32)), (0, .ref (zad G 0))]) rfl dX9_learn_48 rfl (by decide) rfl rfl ?_
    exact zf_sub [1, 0] rfl (ok_X9_learn_49 hG N hd _ _ _ h)
  · replace h := (zi h).2 hc27
    refine zf_aload_n 0 (q := 31) (j := 0) rfl dX9_learn_30 rfl rfl ?_
    refine zf_getR (q := 34) rfl dX9_learn_31 lf_RX9_113 (sm0 hG) rfl ?_
    refine zf_iload_n 1 (q := 35) (j := 1) rfl dX9_learn_34 rfl rfl ?_
    refine zf_aload_n 0 (q := 36) (j := 0) rfl dX9_learn_35 rfl rfl ?_
    refine zf_iload_n 1 (q := 37) (j := 1) rfl dX9_learn_36 rfl rfl ?_
    obtain ⟨r6, s7, es7, h⟩ := zc h
    refine zf_callV (q := 40) (As := [.int x1]) (rest := [.int x1, .ref (zad G 35)]) (st1 := [.int r6, .int x1, .ref (zad G 35)]) rfl dX9_learn_37 lv_RX9_262 (sm0 hG) rfl rfl (Nat.le_of_ble_eq_true rfl) (ok_X9_rulesLeft hG N (Nat.le_trans (by decide) hd) es7) rfl ?_
    obtain ⟨s8, es8, h⟩ := zb h
    refine zf_iast (q := 41) rfl dX9_learn_40 (sm35 hG) es8 ?_
    obtain ⟨v9, ev9, h⟩ := zb h
    refine zf_iinc 1 (q := 44) (v := v9) (lv1 := [(1, .int v9), (0, .ref (zad G 0))]) rfl dX9_learn_41 rfl (by rw [ic1]; exact ev9) (by decide) rfl ?_
    refine zf_goto (tgt := 22) (by decide) dX9_learn_44 ?_
    exact zf_sub [1, 0] rfl (hr22 _ _ h)
def f_X9_learn_22 (N : Nat) : Nat → Int32 → ZM → Option (Int32 × ZM)
  | 0, _, _ => none
  | n + 1, x1, σ => b_X9_learn_22 N (f_X9_learn_22 N n) x1 σ
theorem ok_X9_learn_22 {G : ZG} (hG : zSH G = shM) (N : Nat) {d : Nat} (hd : 6 ≤ d) {res : Int32 × ZM} : ∀ (n : Nat) (x1 : Int32) (σ : ZM), f_X9_learn_22 N n x1 σ = some res → zF G MX9_learn (d + 1) 22 [(0, .ref (zad G 0)), (1, .int x1)] [] σ (some (.int res.1)) res.2 := by
  intro n
  induction n with
  | zero => intro x1 σ h; exact absurd h (by simp [f_X9_learn_22])
  | succ n ih => intro x1 σ h; rw [f_X9_learn_22] at h; exact ok_b_X9_learn_22 hG N hd ih h
def f_X9_learn (N : Nat) (σ : ZM) : Option (Int32 × ZM) :=
  zbd (f_X9_layAgreed N σ) fun r10 s11 =>
  if r10 = 0 then
  (some ((-5 : Int32), s11))
  else
  (if (s11.1 0 40) = 0 then
  (some ((-3 : Int32), s11))
  else
  (f_X9_learn_22 N N (0 : Int32) s11))
set_option maxRecDepth 100000 in
theorem ok_X9_learn {G : ZG} (hG : zSH G = shM) (N : Nat) {d : Nat} (hd : 7 ≤ d) {σ : ZM} {res : Int32 × ZM} (h : f_X9_learn N σ = some res) : zCt G d MX9_learn [.ref (zad G 0)] σ (some (.int res.1)) res.2 := by
  obtain ⟨d, rfl⟩ : ∃ k, d = k + 1 := ⟨d - 1, by omega⟩
  have hd : 6 ≤ d := by omega
  refine zct_of (by decide) (Nat.le_of_ble_eq_true rfl) (lv := [(0, .ref (zad G 0))]) rfl ?_
  unfold f_X9_learn at h
  refine zf_aload_n 0 (q := 1) (j := 0) rfl dX9_learn_0 rfl rfl ?_
  obtain ⟨r10, s11, es11, h⟩ := zc h
  refine zf_callV (q := 4) (As := []) (rest := []) (st1 := [.int r10]) rfl dX9_learn_1 lv_RX9_259 (sm0 hG) rfl rfl (Nat.le_of_ble_eq_true rfl) (ok_X9_layAgreed hG N (Nat.le_trans (by decide) hd) es11) rfl ?_
  refine zf_if_ne (q := 7) (tgt := 10) rfl (by decide) dX9_learn_4 (fun hc4 => ?_) (fun hc4 => ?_)
  · replace h := (zi h).2 hc4
    refine zf_aload_n 0 (q := 11) (j := 0) rfl dX9_learn_10 rfl rfl ?_
    refine zf_getI (q := 14) rfl dX9_learn_11 lf_RX9_253 (sm0 hG) rfl ?_
    refine zf_if_ne (q := 17) (tgt := 20) rfl (by decide) dX9_learn_14 (fun hc14 => ?_) (fun hc14 => ?_)
    · replace h := (zi h).2 hc14
      refine zf_iconst (q := 21) rfl dX9_learn_20 ic0 ?_
      refine zf_istore_n (q := 22) (y := (0 : Int32)) (i := 1) (lv1 := [(1, .int (0 : Int32)), (0, .ref (zad G 0))]) rfl dX9_learn_21 rfl (by decide) rfl rfl ?_
      exact zf_sub [1, 0] rfl (ok_X9_learn_22 hG N hd _ _ _ h)
    · replace h := (zi h).1 hc14
      refine zf_bipush (q := 19) rfl dX9_learn_17 bpm3 ?_
      cases h
      exact zf_ireturn dX9_learn_19 rfl
  · replace h := (zi h).1 hc4
    refine zf_bipush (q := 9) rfl dX9_learn_7 bpm5 ?_
    cases h
    exact zf_ireturn dX9_learn_9 rfl
-- ===== X9_quarrel: NearCopiesModel.quarrel()I
def f_X9_quarrel_56 (N : Nat) (rec17 : Int32 → Int32 → ZM → Option (Int32 × ZM)) (x1 : Int32) (x2 : Int32) (x3 : Int32) (σ : ZM) : Option (Int32 × ZM) :=
  if x3 = 0 then
  (some (x2, σ))
  else
  ((some (x2 + (1 : Int32))).bind fun v1 =>
  rec17 x1 v1 σ)
set_option maxRecDepth 100000 in
theorem ok_X9_quarrel_56 {G : ZG} (hG : zSH G = shM) (N : Nat) {d : Nat} (hd : 5 ≤ d) {rec17 : Int32 → Int32 → ZM → Option (Int32 × ZM)} {res : Int32 × ZM} (hr17 : ∀ (x1 : Int32) (x2 : Int32) (σ : ZM), rec17 x1 x2 σ = some res → zF G MX9_quarrel (d + 1) 17 [(0, .ref (zad G 0)), (1, .int x1), (2, .int x2)] [] σ (some (.int res.1)) res.2) {x1 : Int32} {x2 : Int32} {x3 : Int32} {σ : ZM} (h : f_X9_quarrel_56 N rec17 x1 x2 x3 σ = some res) : zF G MX9_quarrel (d + 1) 56 [(0, .ref (zad G 0)), (1, .int x1), (2, .int x2), (3, .int x3)] [] σ (some (.int res.1)) res.2 := by
  unfold f_X9_quarrel_56 at h
  refine zf_iload_n 3 (q := 57) (j := 3) rfl dX9_quarrel_56 rfl rfl ?_
  refine zf_if_ne (q := 60) (tgt := 62) rfl (by decide) dX9_quarrel_57 (fun hc57 => ?_) (fun hc57 => ?_)
  · replace h := (zi h).2 hc57
    obtain ⟨v1, ev1, h⟩ := zb h
    refine zf_iinc 2 (q := 65) (v := v1) (lv1 := [(2, .int v1), (0, .ref (zad G 0)), (1, .int x1), (3, .int x3)]) rfl dX9_quarrel_62 rfl (by rw [ic1]; exact ev1) (by decide) rfl ?_
    refine zf_goto (tgt := 17) (by decide) dX9_quarrel_65 ?_
    exact zf_sub [1, 2, 0] rfl (hr17 _ _ _ h)
  · replace h := (zi h).1 hc57
    refine zf_iload_n 2 (q := 61) (j := 2) rfl dX9_quarrel_60 rfl rfl ?_
    cases h
    exact zf_ireturn dX9_quarrel_61 rfl
def b_X9_quarrel_30 (N : Nat) (rec17 : Int32 → Int32 → ZM → Option (Int32 × ZM)) (rec30 : Int32 → Int32 → Int32 → Int32 → ZM → Option (Int32 × ZM)) (x1 : Int32) (x2 : Int32) (x3 : Int32) (x4 : Int32) (σ : ZM) : Option (Int32 × ZM) :=
  if x1 ≤ x4 then
  (f_X9_quarrel_56 N rec17 x1 x2 x3 σ)
  else
  (if x3 = 0 then
  (zbd (f_X9_agrees N x4 (x2 + (1 : Int32)) σ) fun r2 s3 =>
  (some (x4 + (1 : Int32))).bind fun v4 =>
  rec30 x1 x2 r2 v4 s3)
  else
  (f_X9_quarrel_56 N rec17 x1 x2 x3 σ))
set_option maxRecDepth 100000 in
theorem ok_b_X9_quarrel_30 {G : ZG} (hG : zSH G = shM) (N : Nat) {d : Nat} (hd : 5 ≤ d) {rec17 : Int32 → Int32 → ZM → Option (Int32 × ZM)} {rec30 : Int32 → Int32 → Int32 → Int32 → ZM → Option (Int32 × ZM)} {res : Int32 × ZM} (hr17 : ∀ (x1 : Int32) (x2 : Int32) (σ : ZM), rec17 x1 x2 σ = some res → zF G MX9_quarrel (d + 1) 17 [(0, .ref (zad G 0)), (1, .int x1), (2, .int x2)] [] σ (some (.int res.1)) res.2) (hr30 : ∀ (x1 : Int32) (x2 : Int32) (x3 : Int32) (x4 : Int32) (σ : ZM), rec30 x1 x2 x3 x4 σ = some res → zF G MX9_quarrel (d + 1) 30 [(0, .ref (zad G 0)), (1, .int x1), (2, .int x2), (3, .int x3), (4, .int x4)] [] σ (some (.int res.1)) res.2) {x1 : Int32} {x2 : Int32} {x3 : Int32} {x4 : Int32} {σ : ZM} (h : b_X9_quarrel_30 N rec17 rec30 x1 x2 x3 x4 σ = some res) : zF G MX9_quarrel (d + 1) 30 [(0, .ref (zad G 0)), (1, .int x1), (2, .int x2), (3, .int x3), (4, .int x4)] [] σ (some (.int res.1)) res.2 := by
  unfold b_X9_quarrel_30 at h
  refine zf_iload 4 (q := 32) rfl dX9_quarrel_30 rfl ?_
  refine zf_iload_n 1 (q := 33) (j := 1) rfl dX9_quarrel_32 rfl rfl ?_
  refine zf_icmp_ge (q := 36) (tgt := 56) rfl (by decide) dX9_quarrel_33 (fun hc33 => ?_) (fun hc33 => ?_)
  · replace h := (zi h).1 hc33
    exact zf_sub [0, 1, 2, 3] rfl (ok_X9_quarrel_56 hG N hd hr17 h)
  · replace h := (zi h).2 hc33
    refine zf_iload_n 3 (q := 37) (j := 3) rfl dX9_quarrel_36 rfl rfl ?_
    refine zf_if_ne (q := 40) (tgt := 56) rfl (by decide) dX9_quarrel_37 (fun hc37 => ?_) (fun hc37 => ?_)
    · replace h := (zi h).2 hc37
      exact zf_sub [0, 1, 2, 3] rfl (ok_X9_quarrel_56 hG N hd hr17 h)
    · replace h := (zi h).1 hc37
      refine zf_aload_n 0 (q := 41) (j := 0) rfl dX9_quarrel_40 rfl rfl ?_
      refine zf_iload 4 (q := 43) rfl dX9_quarrel_41 rfl ?_
      refine zf_iload_n 2 (q := 44) (j := 2) rfl dX9_quarrel_43 rfl rfl ?_
      refine zf_iconst (q := 45) rfl dX9_quarrel_44 ic1 ?_
      refine zf_iadd (q := 46) rfl dX9_quarrel_45 ?_
      obtain ⟨r2, s3, es3, h⟩ := zc h
      refine zf_callV (q := 49) (As := [.int x4, .int (x2 + (1 : Int32))]) (rest := []) (st1 := [.int r2]) rfl dX9_quarrel_46 lv_RX9_256 (sm0 hG) rfl rfl (Nat.le_of_ble_eq_true rfl) (ok_X9_agrees hG N (Nat.le_trans (by decide) hd) es3) rfl ?_
      refine zf_istore_n (q := 50) (y := r2) (i := 3) (lv1 := [(3, .int r2), (0, .ref (zad G 0)), (1, .int x1), (2, .int x2), (4, .int x4)]) rfl dX9_quarrel_49 rfl (by decide) rfl rfl ?_
      obtain ⟨v4, ev4, h⟩ := zb h
      refine zf_iinc 4 (q := 53) (v := v4) (lv1 := [(4, .int v4), (3, .int r2), (0, .ref (zad G 0)), (1, .int x1), (2, .int x2)]) rfl dX9_quarrel_50 rfl (by rw [ic1]; exact ev4) (by decide) rfl ?_
      refine zf_goto (tgt := 30) (by decide) dX9_quarrel_53 ?_
      exact zf_sub [2, 3, 4, 1, 0] rfl (hr30 _ _ _ _ _ h)
def f_X9_quarrel_30 (N : Nat) (rec17 : Int32 → Int32 → ZM → Option (Int32 × ZM)) : Nat → Int32 → Int32 → Int32 → Int32 → ZM → Option (Int32 × ZM)
  | 0, _, _, _, _, _ => none
  | n + 1, x1, x2, x3, x4, σ => b_X9_quarrel_30 N rec17 (f_X9_quarrel_30 N rec17 n) x1 x2 x3 x4 σ
theorem ok_X9_quarrel_30 {G : ZG} (hG : zSH G = shM) (N : Nat) {d : Nat} (hd : 5 ≤ d) {rec17 : Int32 → Int32 → ZM → Option (Int32 × ZM)} {res : Int32 × ZM} (hr17 : ∀ (x1 : Int32) (x2 : Int32) (σ : ZM), rec17 x1 x2 σ = some res → zF G MX9_quarrel (d + 1) 17 [(0, .ref (zad G 0)), (1, .int x1), (2, .int x2)] [] σ (some (.int res.1)) res.2) : ∀ (n : Nat) (x1 : Int32) (x2 : Int32) (x3 : Int32) (x4 : Int32) (σ : ZM), f_X9_quarrel_30 N rec17 n x1 x2 x3 x4 σ = some res → zF G MX9_quarrel (d + 1) 30 [(0, .ref (zad G 0)), (1, .int x1), (2, .int x2), (3, .int x3), (4, .int x4)] [] σ (some (.int res.1)) res.2 := by
  intro n
  induction n with
  | zero => intro x1 x2 x3 x4 σ h; exact absurd h (by simp [f_X9_quarrel_30])
  | succ n ih => intro x1 x2 x3 x4 σ h; rw [f_X9_quarrel_30] at h; exact ok_b_X9_quarrel_30 hG N hd hr17 ih h
def b_X9_quarrel_17 (N : Nat) (rec17 : Int32 → Int32 → ZM → Option (Int32 × ZM)) (x1 : Int32) (x2 : Int32) (σ : ZM) : Option (Int32 × ZM) :=
  if (σ.1 0 33) ≤ x2 then
  (some ((-9 : Int32), σ))
  else
  (f_X9_quarrel_30 N rec17 N x1 x2 (0 : Int32) (0 : Int32) σ)
set_option maxRecDepth 100000 in
theorem ok_b_X9_quarrel_17 {G : ZG} (hG : zSH G = shM) (N : Nat) {d : Nat} (hd : 5 ≤ d) {rec17 : Int32 → Int32 → ZM → Option (Int32 × ZM)} {res : Int32 × ZM} (hr17 : ∀ (x1 : Int32) (x2 : Int32) (σ : ZM), rec17 x1 x2 σ = some res → zF G MX9_quarrel (d + 1) 17 [(0, .ref (zad G 0)), (1, .int x1), (2, .int x2)] [] σ (some (.int res.1)) res.2) {x1 : Int32} {x2 : Int32} {σ : ZM} (h : b_X9_quarrel_17 N rec17 x1 x2 σ = some res) : zF G MX9_quarrel (d + 1) 17 [(0, .ref (zad G 0)), (1, .int x1), (2, .int x2)] [] σ (some (.int res.1)) res.2 := by
  unfold b_X9_quarrel_17 at h
  refine zf_iload_n 2 (q := 18) (j := 2) rfl dX9_quarrel_17 rfl rfl ?_
  refine zf_aload_n 0 (q := 19) (j := 0) rfl dX9_quarrel_18 rfl rfl ?_
  refine zf_getI (q := 22) rfl dX9_quarrel_19 lf_RX9_238 (sm0 hG) rfl ?_
  refine zf_icmp_ge (q := 25) (tgt := 68) rfl (by decide) dX9_quarrel_22 (fun hc22 => ?_) (fun hc22 => ?_)
  · replace h := (zi h).1 hc22
    refine zf_bipush (q := 70) rfl dX9_quarrel_68 bpm9 ?_
    cases h
    exact zf_ireturn dX9_quarrel_70 rfl
  · replace h := (zi h).2 hc22
    refine zf_iconst (q := 26) rfl dX9_quarrel_25 ic0 ?_
    refine zf_istore_n (q := 27) (y := (0 : Int32)) (i := 3) (lv1 := [(3, .int (0 : Int32)), (0, .ref (zad G 0)), (1, .int x1), (2, .int x2)]) rfl dX9_quarrel_26 rfl (by decide) rfl rfl ?_
    refine zf_iconst (q := 28) rfl dX9_quarrel_27 ic0 ?_
    refine zf_istore (q := 30) (y := (0 : Int32)) (i := 4) (lv1 := [(4, .int (0 : Int32)), (3, .int (0 : Int32)), (0, .ref (zad G 0)), (1, .int x1), (2, .int x2)]) rfl dX9_quarrel_28 (by decide) rfl rfl ?_
    exact zf_sub [2, 3, 4, 1, 0] rfl (ok_X9_quarrel_30 hG N hd hr17 _ _ _ _ _ _ h)
def f_X9_quarrel_17 (N : Nat) : Nat → Int32 → Int32 → ZM → Option (Int32 × ZM)
  | 0, _, _, _ => none
  | n + 1, x1, x2, σ => b_X9_quarrel_17 N (f_X9_quarrel_17 N n) x1 x2 σ
theorem ok_X9_quarrel_17 {G : ZG} (hG : zSH G = shM) (N : Nat) {d : Nat} (hd : 5 ≤ d) {res : Int32 × ZM} : ∀ (n : Nat) (x1 : Int32) (x2 : Int32) (σ : ZM), f_X9_quarrel_17 N n x1 x2 σ = some res → zF G MX9_quarrel (d + 1) 17 [(0, .ref (zad G 0)), (1, .int x1), (2, .int x2)] [] σ (some (.int res.1)) res.2 := by
  intro n
  induction n with
  | zero => intro x1 x2 σ h; exact absurd h (by simp [f_X9_quarrel_17])
  | succ n ih => intro x1 x2 σ h; rw [f_X9_quarrel_17] at h; exact ok_b_X9_quarrel_17 hG N hd ih h
def f_X9_quarrel (N : Nat) (σ : ZM) : Option (Int32 × ZM) :=
  zbd (f_X9_caseMany N σ) fun r5 s6 =>
  if r5 ≤ (256 : Int32) then
  (f_X9_quarrel_17 N N r5 (0 : Int32) s6)
  else
  (some ((-5 : Int32), s6))
set_option maxRecDepth 100000 in
theorem ok_X9_quarrel {G : ZG} (hG : zSH G = shM) (N : Nat) {d : Nat} (hd : 6 ≤ d) {σ : ZM} {res : Int32 × ZM} (h : f_X9_quarrel N σ = some res) : zCt G d MX9_quarrel [.ref (zad G 0)] σ (some (.int res.1)) res.2 := by
  obtain ⟨d, rfl⟩ : ∃ k, d = k + 1 := ⟨d - 1, by omega⟩
  have hd : 5 ≤ d := by omega
  refine zct_of (by decide) (Nat.le_of_ble_eq_true rfl) (lv := [(0, .ref (zad G 0))]) rfl ?_
  unfold f_X9_quarrel at h
  refine zf_aload_n 0 (q := 1) (j := 0) rfl dX9_quarrel_0 rfl rfl ?_
  obtain ⟨r5, s6, es6, h⟩ := zc h
  refine zf_callV (q := 4) (As := []) (rest := []) (st1 := [.int r5]) rfl dX9_quarrel_1 lv_RX9_244 (sm0 hG) rfl rfl (Nat.le_of_ble_eq_true rfl) (ok_X9_caseMany hG N (Nat.le_trans (by decide) hd) es6) rfl ?_
  refine zf_istore_n (q := 5) (y := r5) (i := 1) (lv1 := [(1, .int r5), (0, .ref (zad G 0))]) rfl dX9_quarrel_4 rfl (by decide) rfl rfl ?_
  refine zf_iload_n 0 (q := 6) (j := 1) rfl dX9_quarrel_5 rfl rfl ?_
  refine zf_sipush (q := 9) rfl dX9_quarrel_6 sp256 ?_
  refine zf_icmp_le (q := 12) (tgt := 15) rfl (by decide) dX9_quarrel_9 (fun hc9 => ?_) (fun hc9 => ?_)
  · replace h := (zi h).1 hc9
    refine zf_iconst (q := 16) rfl dX9_quarrel_15 ic0 ?_
    refine zf_istore_n (q := 17) (y := (0 : Int32)) (i := 2) (lv1 := [(2, .int (0 : Int32)), (1, .int r5), (0, .ref (zad G 0))]) rfl dX9_quarrel_16 rfl (by decide) rfl rfl ?_
    exact zf_sub [2, 1, 0] rfl (ok_X9_quarrel_17 hG N hd _ _ _ _ h)
  · replace h := (zi h).2 hc9
    refine zf_bipush (q := 14) rfl dX9_quarrel_12 bpm5 ?_
    cases h
    exact zf_ireturn dX9_quarrel_14 rfl
-- ===== X9_greatestAlike: NearCopiesModel.greatestAlike(II)I
def f_X9_greatestAlike_186 (N : Nat) (rec116 : Int32 → Int32 → ZM → Option (Int32 × ZM)) (x4 : Int32) (y0 : Int32) (σ : ZM) : Option (Int32 × ZM) :=
  (some (x4 + (1 : Int32))).bind fun v1 =>
  rec116 y0 v1 σ
set_option maxRecDepth 100000 in
theorem ok_X9_greatestAlike_186 {G : ZG} (hG : zSH G = shM) (N : Nat) {d : Nat} (hd : 4 ≤ d) {rec116 : Int32 → Int32 → ZM → Option (Int32 × ZM)} {res : Int32 × ZM} (hr116 : ∀ (x3 : Int32) (x4 : Int32) (σ : ZM), rec116 x3 x4 σ = some res → zF G MX9_greatestAlike (d + 1) 116 [(0, .ref (zad G 0)), (3, .int x3), (4, .int x4)] [] σ (some (.int res.1)) res.2) {x4 : Int32} {y0 : Int32} {σ : ZM} (h : f_X9_greatestAlike_186 N rec116 x4 y0 σ = some res) : zF G MX9_greatestAlike (d + 1) 186 [(0, .ref (zad G 0)), (4, .int x4)] [.int y0] σ (some (.int res.1)) res.2 := by
  unfold f_X9_greatestAlike_186 at h
  refine zf_istore_n (q := 187) (y := y0) (i := 3) (lv1 := [(3, .int y0), (0, .ref (zad G 0)), (4, .int x4)]) rfl dX9_greatestAlike_186 rfl (by decide) rfl rfl ?_
  obtain ⟨v1, ev1, h⟩ := zb h
  refine zf_iinc 2 (q := 190) (v := v1) (lv1 := [(4, .int v1), (3, .int y0), (0, .ref (zad G 0))]) rfl dX9_greatestAlike_187 rfl (by rw [ic1]; exact ev1) (by decide) rfl ?_
  refine zf_goto (tgt := 116) (by decide) dX9_greatestAlike_190 ?_
  exact zf_sub [2, 1, 0] rfl (hr116 _ _ _ h)
def f_X9_greatestAlike_165 (N : Nat) (rec116 : Int32 → Int32 → ZM → Option (Int32 × ZM)) (rec131 : Int32 → Int32 → Int32 → Int32 → ZM → Option (Int32 × ZM)) (x3 : Int32) (x4 : Int32) (x6 : Int32) (y0 : Int32) (y1 : Int32) (σ : ZM) : Option (Int32 × ZM) :=
  (some (y1 + y0)).bind fun v2 =>
  (some (x6 + (1 : Int32))).bind fun v3 =>
  rec131 x3 x4 v2 v3 σ
set_option maxRecDepth 100000 in
theorem ok_X9_greatestAlike_165 {G : ZG} (hG : zSH G = shM) (N : Nat) {d : Nat} (hd : 4 ≤ d) {rec116 : Int32 → Int32 → ZM → Option (Int32 × ZM)} {rec131 : Int32 → Int32 → Int32 → Int32 → ZM → Option (Int32 × ZM)} {res : Int32 × ZM} (hr116 : ∀ (x3 : Int32) (x4 : Int32) (σ : ZM), rec116 x3 x4 σ = some res → zF G MX9_greatestAlike (d + 1) 116 [(0, .ref (zad G 0)), (3, .int x3), (4, .int x4)] [] σ (some (.int res.1)) res.2) (hr131 : ∀ (x3 : Int32) (x4 : Int32) (x5 : Int32) (x6 : Int32) (σ : ZM), rec131 x3 x4 x5 x6 σ = some res → zF G MX9_greatestAlike (d + 1) 131 [(0, .ref (zad G 0)), (3, .int x3), (4, .int x4), (5, .int x5), (6, .int x6)] [] σ (some (.int res.1)) res.2) {x3 : Int32} {x4 : Int32} {x6 : Int32} {y0 : Int32} {y1 : Int32} {σ : ZM} (h : f_X9_greatestAlike_165 N rec116 rec131 x3 x4 x6 y0 y1 σ = some res) : zF G MX9_greatestAlike (d + 1) 165 [(0, .ref (zad G 0)), (3, .int x3), (4, .int x4), (6, .int x6)] [.int y0, .int y1] σ (some (.int res.1)) res.2 := by
  unfold f_X9_greatestAlike_165 at h
  refine zf_iadd (q := 166) rfl dX9_greatestAlike_165 ?_
  obtain ⟨v2, ev2, h⟩ := zb h
  refine zf_istore (q := 168) (y := v2) (i := 5) (lv1 := [(5, .int v2), (0, .ref (zad G 0)), (3, .int x3), (4, .int x4), (6, .int x6)]) rfl dX9_greatestAlike_166 (by decide) ev2 rfl ?_
  obtain ⟨v3, ev3, h⟩ := zb h
  refine zf_iinc 4 (q := 171) (v := v3) (lv1 := [(6, .int v3), (5, .int v2), (0, .ref (zad G 0)), (3, .int x3), (4, .int x4)]) rfl dX9_greatestAlike_168 rfl (by rw [ic1]; exact ev3) (by decide) rfl ?_
  refine zf_goto (tgt := 131) (by decide) dX9_greatestAlike_171 ?_
  exact zf_sub [2, 3, 4, 1, 0] rfl (hr131 _ _ _ _ _ h)
def b_X9_greatestAlike_131 (N : Nat) (rec116 : Int32 → Int32 → ZM → Option (Int32 × ZM)) (rec131 : Int32 → Int32 → Int32 → Int32 → ZM → Option (Int32 × ZM)) (x3 : Int32) (x4 : Int32) (x5 : Int32) (x6 : Int32) (σ : ZM) : Option (Int32 × ZM) :=
  if (σ.1 0 40) ≤ x6 then
  (if x5 ≤ x3 then
  (f_X9_greatestAlike_186 N rec116 x4 x3 σ)
  else
  (f_X9_greatestAlike_186 N rec116 x4 x5 σ))
  else
  ((zalJ σ 36 256 x6).bind fun v4 =>
  (zalJ σ 36 256 x4).bind fun v5 =>
  if (lg_cmp v4 v5) = 0 then
  (f_X9_greatestAlike_165 N rec116 rec131 x3 x4 x6 (1 : Int32) x5 σ)
  else
  (f_X9_greatestAlike_165 N rec116 rec131 x3 x4 x6 (0 : Int32) x5 σ))
set_option maxRecDepth 100000 in
theorem ok_b_X9_greatestAlike_131 {G : ZG} (hG : zSH G = shM) (N : Nat) {d : Nat} (hd : 4 ≤ d) {rec116 : Int32 → Int32 → ZM → Option (Int32 × ZM)} {rec131 : Int32 → Int32 → Int32 → Int32 → ZM → Option (Int32 × ZM)} {res : Int32 × ZM} (hr116 : ∀ (x3 : Int32) (x4 : Int32) (σ : ZM), rec116 x3 x4 σ = some res → zF G MX9_greatestAlike (d + 1) 116 [(0, .ref (zad G 0)), (3, .int x3), (4, .int x4)] [] σ (some (.int res.1)) res.2) (hr131 : ∀ (x3 : Int32) (x4 : Int32) (x5 : Int32) (x6 : Int32) (σ : ZM), rec131 x3 x4 x5 x6 σ = some res → zF G MX9_greatestAlike (d + 1) 131 [(0, .ref (zad G 0)), (3, .int x3), (4, .int x4), (5, .int x5), (6, .int x6)] [] σ (some (.int res.1)) res.2) {x3 : Int32} {x4 : Int32} {x5 : Int32} {x6 : Int32} {σ : ZM} (h : b_X9_greatestAlike_131 N rec116 rec131 x3 x4 x5 x6 σ = some res) : zF G MX9_greatestAlike (d + 1) 131 [(0, .ref (zad G 0)), (3, .int x3), (4, .int x4), (5, .int x5), (6, .int x6)] [] σ (some (.int res.1)) res.2 := by
  unfold b_X9_greatestAlike_131 at h
  refine zf_iload 4 (q := 133) rfl dX9_greatestAlike_131 rfl ?_
  refine zf_aload_n 0 (q := 134) (j := 0) rfl dX9_greatestAlike_133 rfl rfl ?_
  refine zf_getI (q := 137) rfl dX9_greatestAlike_134 lf_RX9_253 (sm0 hG) rfl ?_
  refine zf_icmp_ge (q := 140) (tgt := 174) rfl (by decide) dX9_greatestAlike_137 (fun hc137 => ?_) (fun hc137 => ?_)
  · replace h := (zi h).1 hc137
    refine zf_iload 3 (q := 176) rfl dX9_greatestAlike_174 rfl ?_
    refine zf_iload_n 1 (q := 177) (j := 3) rfl dX9_greatestAlike_176 rfl rfl ?_
    refine zf_icmp_le (q := 180) (tgt := 185) rfl (by decide) dX9_greatestAlike_177 (fun hc177 => ?_) (fun hc177 => ?_)
    · replace h := (zi h).1 hc177
      refine zf_iload_n 1 (q := 186) (j := 3) rfl dX9_greatestAlike_185 rfl rfl ?_
      exact zf_sub [0, 2] rfl (ok_X9_greatestAlike_186 hG N hd hr116 h)
    · replace h := (zi h).2 hc177
      refine zf_iload 3 (q := 182) rfl dX9_greatestAlike_180 rfl ?_
      refine zf_goto (tgt := 186) (by decide) dX9_greatestAlike_182 ?_
      exact zf_sub [0, 2] rfl (ok_X9_greatestAlike_186 hG N hd hr116 h)
  · replace h := (zi h).2 hc137
    refine zf_iload 3 (q := 142) rfl dX9_greatestAlike_140 rfl ?_
    refine zf_aload_n 0 (q := 143) (j := 0) rfl dX9_greatestAlike_142 rfl rfl ?_
    refine zf_getR (q := 146) rfl dX9_greatestAlike_143 lf_RX9_116 (sm0 hG) rfl ?_
    refine zf_iload 4 (q := 148) rfl dX9_greatestAlike_146 rfl ?_
    obtain ⟨v4, ev4, h⟩ := zb h
    refine zf_lald (q := 149) rfl dX9_greatestAlike_148 (sm36 hG) ev4 ?_
    refine zf_aload_n 0 (q := 150) (j := 0) rfl dX9_greatestAlike_149 rfl rfl ?_
    refine zf_getR (q := 153) rfl dX9_greatestAlike_150 lf_RX9_116 (sm0 hG) rfl ?_
    refine zf_iload 2 (q := 155) rfl dX9_greatestAlike_153 rfl ?_
    obtain ⟨v5, ev5, h⟩ := zb h
    refine zf_lald (q := 156) rfl dX9_greatestAlike_155 (sm36 hG) ev5 ?_
    refine zf_lcmp (q := 157) rfl dX9_greatestAlike_156 ?_
    refine zf_if_ne (q := 160) (tgt := 164) rfl (by decide) dX9_greatestAlike_157 (fun hc157 => ?_) (fun hc157 => ?_)
    · replace h := (zi h).2 hc157
      refine zf_iconst (q := 165) rfl dX9_greatestAlike_164 ic0 ?_
      exact zf_sub [0, 1, 2, 4] rfl (ok_X9_greatestAlike_165 hG N hd hr116 hr131 h)
    · replace h := (zi h).1 hc157
      refine zf_iconst (q := 161) rfl dX9_greatestAlike_160 ic1 ?_
      refine zf_goto (tgt := 165) (by decide) dX9_greatestAlike_161 ?_
      exact zf_sub [0, 1, 2, 4] rfl (ok_X9_greatestAlike_165 hG N hd hr116 hr131 h)
def f_X9_greatestAlike_131 (N : Nat) (rec116 : Int32 → Int32 → ZM → Option (Int32 × ZM)) : Nat → Int32 → Int32 → Int32 → Int32 → ZM → Option (Int32 × ZM)
  | 0, _, _, _, _, _ => none
  | n + 1, x3, x4, x5, x6, σ => b_X9_greatestAlike_131 N rec116 (f_X9_greatestAlike_131 N rec116 n) x3 x4 x5 x6 σ
theorem ok_X9_greatestAlike_131 {G : ZG} (hG : zSH G = shM) (N : Nat) {d : Nat} (hd : 4 ≤ d) {rec116 : Int32 → Int32 → ZM → Option (Int32 × ZM)} {res : Int32 × ZM} (hr116 : ∀ (x3 : Int32) (x4 : Int32) (σ : ZM), rec116 x3 x4 σ = some res → zF G MX9_greatestAlike (d + 1) 116 [(0, .ref (zad G 0)), (3, .int x3), (4, .int x4)] [] σ (some (.int res.1)) res.2) : ∀ (n : Nat) (x3 : Int32) (x4 : Int32) (x5 : Int32) (x6 : Int32) (σ : ZM), f_X9_greatestAlike_131 N rec116 n x3 x4 x5 x6 σ = some res → zF G MX9_greatestAlike (d + 1) 131 [(0, .ref (zad G 0)), (3, .int x3), (4, .int x4), (5, .int x5), (6, .int x6)] [] σ (some (.int res.1)) res.2 := by
  intro n
  induction n with
  | zero => intro x3 x4 x5 x6 σ h; exact absurd h (by simp [f_X9_greatestAlike_131])
  | succ n ih => intro x3 x4 x5 x6 σ h; rw [f_X9_greatestAlike_131] at h; exact ok_b_X9_greatestAlike_131 hG N hd hr116 ih h
def b_X9_greatestAlike_116 (N : Nat) (rec116 : Int32 → Int32 → ZM → Option (Int32 × ZM)) (x3 : Int32) (x4 : Int32) (σ : ZM) : Option (Int32 × ZM) :=
  if (σ.1 0 40) ≤ x4 then
  (some (x3, σ))
  else
  (f_X9_greatestAlike_131 N rec116 N x3 x4 (0 : Int32) (0 : Int32) σ)
set_option maxRecDepth 100000 in
theorem ok_b_X9_greatestAlike_116 {G : ZG} (hG : zSH G = shM) (N : Nat) {d : Nat} (hd : 4 ≤ d) {rec116 : Int32 → Int32 → ZM → Option (Int32 × ZM)} {res : Int32 × ZM} (hr116 : ∀ (x3 : Int32) (x4 : Int32) (σ : ZM), rec116 x3 x4 σ = some res → zF G MX9_greatestAlike (d + 1) 116 [(0, .ref (zad G 0)), (3, .int x3), (4, .int x4)] [] σ (some (.int res.1)) res.2) {x3 : Int32} {x4 : Int32} {σ : ZM} (h : b_X9_greatestAlike_116 N rec116 x3 x4 σ = some res) : zF G MX9_greatestAlike (d + 1) 116 [(0, .ref (zad G 0)), (3, .int x3), (4, .int x4)] [] σ (some (.int res.1)) res.2 := by
  unfold b_X9_greatestAlike_116 at h
  refine zf_iload 2 (q := 118) rfl dX9_greatestAlike_116 rfl ?_
  refine zf_aload_n 0 (q := 119) (j := 0) rfl dX9_greatestAlike_118 rfl rfl ?_
  refine zf_getI (q := 122) rfl dX9_greatestAlike_119 lf_RX9_253 (sm0 hG) rfl ?_
  refine zf_icmp_ge (q := 125) (tgt := 193) rfl (by decide) dX9_greatestAlike_122 (fun hc122 => ?_) (fun hc122 => ?_)
  · replace h := (zi h).1 hc122
    refine zf_iload_n 1 (q := 194) (j := 3) rfl dX9_greatestAlike_193 rfl rfl ?_
    cases h
    exact zf_ireturn dX9_greatestAlike_194 rfl
  · replace h := (zi h).2 hc122
    refine zf_iconst (q := 126) rfl dX9_greatestAlike_125 ic0 ?_
    refine zf_istore (q := 128) (y := (0 : Int32)) (i := 5) (lv1 := [(5, .int (0 : Int32)), (0, .ref (zad G 0)), (3, .int x3), (4, .int x4)]) rfl dX9_greatestAlike_126 (by decide) rfl rfl ?_
    refine zf_iconst (q := 129) rfl dX9_greatestAlike_128 ic0 ?_
    refine zf_istore (q := 131) (y := (0 : Int32)) (i := 6) (lv1 := [(6, .int (0 : Int32)), (5, .int (0 : Int32)), (0, .ref (zad G 0)), (3, .int x3), (4, .int x4)]) rfl dX9_greatestAlike_129 (by decide) rfl rfl ?_
    exact zf_sub [2, 3, 4, 1, 0] rfl (ok_X9_greatestAlike_131 hG N hd hr116 _ _ _ _ _ _ h)
def f_X9_greatestAlike_116 (N : Nat) : Nat → Int32 → Int32 → ZM → Option (Int32 × ZM)
  | 0, _, _, _ => none
  | n + 1, x3, x4, σ => b_X9_greatestAlike_116 N (f_X9_greatestAlike_116 N n) x3 x4 σ
theorem ok_X9_greatestAlike_116 {G : ZG} (hG : zSH G = shM) (N : Nat) {d : Nat} (hd : 4 ≤ d) {res : Int32 × ZM} : ∀ (n : Nat) (x3 : Int32) (x4 : Int32) (σ : ZM), f_X9_greatestAlike_116 N n x3 x4 σ = some res → zF G MX9_greatestAlike (d + 1) 116 [(0, .ref (zad G 0)), (3, .int x3), (4, .int x4)] [] σ (some (.int res.1)) res.2 := by
  intro n
  induction n with
  | zero => intro x3 x4 σ h; exact absurd h (by simp [f_X9_greatestAlike_116])
  | succ n ih => intro x3 x4 σ h; rw [f_X9_greatestAlike_116] at h; exact ok_b_X9_greatestAlike_116 hG N hd ih h
def f_X9_greatestAlike_97 (N : Nat) (rec2 : Int32 → Int32 → Int32 → ZM → Option (Int32 × ZM)) (x1 : Int32) (x2 : Int32) (x3 : Int32) (x4 : Int64) (σ : ZM) : Option (Int32 × ZM) :=
  (zasJ σ 36 256 x3 x4).bind fun s6 =>
  (some (x3 + (1 : Int32))).bind fun v7 =>
  rec2 x1 x2 v7 s6
set_option maxRecDepth 100000 in
theorem ok_X9_greatestAlike_97 {G : ZG} (hG : zSH G = shM) (N : Nat) {d : Nat} (hd : 4 ≤ d) {rec2 : Int32 → Int32 → Int32 → ZM → Option (Int32 × ZM)} {res : Int32 × ZM} (hr2 : ∀ (x1 : Int32) (x2 : Int32) (x3 : Int32) (σ : ZM), rec2 x1 x2 x3 σ = some res → zF G MX9_greatestAlike (d + 1) 2 [(0, .ref (zad G 0)), (1, .int x1), (2, .int x2), (3, .int x3)] [] σ (some (.int res.1)) res.2) {x1 : Int32} {x2 : Int32} {x3 : Int32} {x4 : Int64} {σ : ZM} (h : f_X9_greatestAlike_97 N rec2 x1 x2 x3 x4 σ = some res) : zF G MX9_greatestAlike (d + 1) 97 [(0, .ref (zad G 0)), (1, .int x1), (2, .int x2), (3, .int x3), (4, .long x4)] [] σ (some (.int res.1)) res.2 := by
  unfold f_X9_greatestAlike_97 at h
  refine zf_aload_n 0 (q := 98) (j := 0) rfl dX9_greatestAlike_97 rfl rfl ?_
  refine zf_getR (q := 101) rfl dX9_greatestAlike_98 lf_RX9_116 (sm0 hG) rfl ?_
  refine zf_iload_n 3 (q := 102) (j := 3) rfl dX9_greatestAlike_101 rfl rfl ?_
  refine zf_lload 4 (q := 104) rfl dX9_greatestAlike_102 rfl ?_
  obtain ⟨s6, es6, h⟩ := zb h
  refine zf_last (q := 105) rfl dX9_greatestAlike_104 (sm36 hG) es6 ?_
  obtain ⟨v7, ev7, h⟩ := zb h
  refine zf_iinc 3 (q := 108) (v := v7) (lv1 := [(3, .int v7), (0, .ref (zad G 0)), (1, .int x1), (2, .int x2), (4, .long x4)]) rfl dX9_greatestAlike_105 rfl (by rw [ic1]; exact ev7) (by decide) rfl ?_
  refine zf_goto (tgt := 2) (by decide) dX9_greatestAlike_108 ?_
  exact zf_sub [1, 2, 3, 0] rfl (hr2 _ _ _ _ h)
def f_X9_greatestAlike_87 (N : Nat) (rec2 : Int32 → Int32 → Int32 → ZM → Option (Int32 × ZM)) (rec49 : Int32 → Int32 → Int32 → Int64 → Int32 → ZM → Option (Int32 × ZM)) (x1 : Int32) (x2 : Int32) (x3 : Int32) (x6 : Int32) (y0 : Int32) (y1 : Int64) (σ : ZM) : Option (Int32 × ZM) :=
  (some (y1 + (Int32.toInt64 y0))).bind fun v8 =>
  (some (x6 + (1 : Int32))).bind fun v9 =>
  rec49 x1 x2 x3 v8 v9 σ
set_option maxRecDepth 100000 in
theorem ok_X9_greatestAlike_87 {G : ZG} (hG : zSH G = shM) (N : Nat) {d : Nat} (hd : 4 ≤ d) {rec2 : Int32 → Int32 → Int32 → ZM → Option (Int32 × ZM)} {rec49 : Int32 → Int32 → Int32 → Int64 → Int32 → ZM → Option (Int32 × ZM)} {res : Int32 × ZM} (hr2 : ∀ (x1 : Int32) (x2 : Int32) (x3 : Int32) (σ : ZM), rec2 x1 x2 x3 σ = some res → zF G MX9_greatestAlike (d + 1) 2 [(0, .ref (zad G 0)), (1, .int x1), (2, .int x2), (3, .int x3)] [] σ (some (.int res.1)) res.2) (hr49 : ∀ (x1 : Int32) (x2 : Int32) (x3 : Int32) (x4 : Int64) (x6 : Int32) (σ : ZM), rec49 x1 x2 x3 x4 x6 σ = some res → zF G MX9_greatestAlike (d + 1) 49 [(0, .ref (zad G 0)), (1, .int x1), (2, .int x2), (3, .int x3), (4, .long x4), (6, .int x6)] [] σ (some (.int res.1)) res.2) {x1 : Int32} {x2 : Int32} {x3 : Int32} {x6 : Int32} {y0 : Int32} {y1 : Int64} {σ : ZM} (h : f_X9_greatestAlike_87 N rec2 rec49 x1 x2 x3 x6 y0 y1 σ = some res) : zF G MX9_greatestAlike (d + 1) 87 [(0, .ref (zad G 0)), (1, .int x1), (2, .int x2), (3, .int x3), (6, .int x6)] [.int y0, .long y1] σ (some (.int res.1)) res.2 := by
  unfold f_X9_greatestAlike_87 at h
  refine zf_i2l (q := 88) rfl dX9_greatestAlike_87 ?_
  refine zf_ladd (q := 89) rfl dX9_greatestAlike_88 ?_
  obtain ⟨v8, ev8, h⟩ := zb h
  refine zf_lstore (q := 91) (y := v8) (i := 4) (lv1 := [(4, .long v8), (0, .ref (zad G 0)), (1, .int x1), (2, .int x2), (3, .int x3), (6, .int x6)]) rfl dX9_greatestAlike_89 (by decide) ev8 rfl ?_
  obtain ⟨v9, ev9, h⟩ := zb h
  refine zf_iinc 5 (q := 94) (v := v9) (lv1 := [(6, .int v9), (4, .long v8), (0, .ref (zad G 0)), (1, .int x1), (2, .int x2), (3, .int x3)]) rfl dX9_greatestAlike_91 rfl (by rw [ic1]; exact ev9) (by decide) rfl ?_
  refine zf_goto (tgt := 49) (by decide) dX9_greatestAlike_94 ?_
  exact zf_sub [2, 3, 4, 5, 1, 0] rfl (hr49 _ _ _ _ _ _ h)
def b_X9_greatestAlike_49 (N : Nat) (rec2 : Int32 → Int32 → Int32 → ZM → Option (Int32 × ZM)) (rec49 : Int32 → Int32 → Int32 → Int64 → Int32 → ZM → Option (Int32 × ZM)) (x1 : Int32) (x2 : Int32) (x3 : Int32) (x4 : Int64) (x6 : Int32) (σ : ZM) : Option (Int32 × ZM) :=
  if (σ.1 0 0) ≤ x6 then
  (f_X9_greatestAlike_97 N rec2 x1 x2 x3 x4 σ)
  else
  ((zald σ 17 10 x6).bind fun v10 =>
  if v10 = (-9 : Int32) then
  (f_X9_greatestAlike_87 N rec2 rec49 x1 x2 x3 x6 (5 : Int32) ((6 : Int64) * x4) σ)
  else
  ((zald σ 17 10 x6).bind fun v11 =>
  f_X9_greatestAlike_87 N rec2 rec49 x1 x2 x3 x6 v11 ((6 : Int64) * x4) σ))
set_option maxRecDepth 100000 in
theorem ok_b_X9_greatestAlike_49 {G : ZG} (hG : zSH G = shM) (N : Nat) {d : Nat} (hd : 4 ≤ d) {rec2 : Int32 → Int32 → Int32 → ZM → Option (Int32 × ZM)} {rec49 : Int32 → Int32 → Int32 → Int64 → Int32 → ZM → Option (Int32 × ZM)} {res : Int32 × ZM} (hr2 : ∀ (x1 : Int32) (x2 : Int32) (x3 : Int32) (σ : ZM), rec2 x1 x2 x3 σ = some res → zF G MX9_greatestAlike (d + 1) 2 [(0, .ref (zad G 0)), (1, .int x1), (2, .int x2), (3, .int x3)] [] σ (some (.int res.1)) res.2) (hr49 : ∀ (x1 : Int32) (x2 : Int32) (x3 : Int32) (x4 : Int64) (x6 : Int32) (σ : ZM), rec49 x1 x2 x3 x4 x6 σ = some res → zF G MX9_greatestAlike (d + 1) 49 [(0, .ref (zad G 0)), (1, .int x1), (2, .int x2), (3, .int x3), (4, .long x4), (6, .int x6)] [] σ (some (.int res.1)) res.2) {x1 : Int32} {x2 : Int32} {x3 : Int32} {x4 : Int64} {x6 : Int32} {σ : ZM} (h : b_X9_greatestAlike_49 N rec2 rec49 x1 x2 x3 x4 x6 σ = some res) : zF G MX9_greatestAlike (d + 1) 49 [(0, .ref (zad G 0)), (1, .int x1), (2, .int x2), (3, .int x3), (4, .long x4), (6, .int x6)] [] σ (some (.int res.1)) res.2 := by
  unfold b_X9_greatestAlike_49 at h
  refine zf_iload 5 (q := 51) rfl dX9_greatestAlike_49 rfl ?_
  refine zf_aload_n 0 (q := 52) (j := 0) rfl dX9_greatestAlike_51 rfl rfl ?_
  refine zf_getI (q := 55) rfl dX9_greatestAlike_52 lf_RX9_132 (sm0 hG) rfl ?_
  refine zf_icmp_ge (q := 58) (tgt := 97) rfl (by decide) dX9_greatestAlike_55 (fun hc55 => ?_) (fun hc55 => ?_)
  · replace h := (zi h).1 hc55
    exact zf_sub [0, 1, 2, 3, 4] rfl (ok_X9_greatestAlike_97 hG N hd hr2 h)
  · replace h := (zi h).2 hc55
    refine zf_ldc2 (q := 61) rfl dX9_greatestAlike_58 cl_RX9_267 ?_
    refine zf_lload 4 (q := 63) rfl dX9_greatestAlike_61 rfl ?_
    refine zf_lmul (q := 64) rfl dX9_greatestAlike_63 ?_
    refine zf_aload_n 0 (q := 65) (j := 0) rfl dX9_greatestAlike_64 rfl rfl ?_
    refine zf_getR (q := 68) rfl dX9_greatestAlike_65 lf_RX9_59 (sm0 hG) rfl ?_
    refine zf_iload 5 (q := 70) rfl dX9_greatestAlike_68 rfl ?_
    obtain ⟨v10, ev10, h⟩ := zb h
    refine zf_iald (q := 71) rfl dX9_greatestAlike_70 (sm17 hG) ev10 ?_
    refine zf_bipush (q := 73) rfl dX9_greatestAlike_71 bpm9 ?_
    refine zf_icmp_ne (q := 76) (tgt := 80) rfl (by decide) dX9_greatestAlike_73 (fun hc73 => ?_) (fun hc73 => ?_)
    · replace h := (zi h).2 hc73
      refine zf_aload_n 0 (q := 81) (j := 0) rfl dX9_greatestAlike_80 rfl rfl ?_
      refine zf_getR (q := 84) rfl dX9_greatestAlike_81 lf_RX9_59 (sm0 hG) rfl ?_
      refine zf_iload 5 (q := 86) rfl dX9_greatestAlike_84 rfl ?_
      obtain ⟨v11, ev11, h⟩ := zb h
      refine zf_iald (q := 87) rfl dX9_greatestAlike_86 (sm17 hG) ev11 ?_
      exact zf_sub [0, 1, 2, 3, 5] rfl (ok_X9_greatestAlike_87 hG N hd hr2 hr49 h)
    · replace h := (zi h).1 hc73
      refine zf_iconst (q := 77) rfl dX9_greatestAlike_76 ic5 ?_
      refine zf_goto (tgt := 87) (by decide) dX9_greatestAlike_77 ?_
      exact zf_sub [0, 1, 2, 3, 5] rfl (ok_X9_greatestAlike_87 hG N hd hr2 hr49 h)
def f_X9_greatestAlike_49 (N : Nat) (rec2 : Int32 → Int32 → Int32 → ZM → Option (Int32 × ZM)) : Nat → Int32 → Int32 → Int32 → Int64 → Int32 → ZM → Option (Int32 × ZM)
  | 0, _, _, _, _, _, _ => none
  | n + 1, x1, x2, x3, x4, x6, σ => b_X9_greatestAlike_49 N rec2 (f_X9_greatestAlike_49 N rec2 n) x1 x2 x3 x4 x6 σ
theorem ok_X9_greatestAlike_49 {G : ZG} (hG : zSH G = shM) (N : Nat) {d : Nat} (hd : 4 ≤ d) {rec2 : Int32 → Int32 → Int32 → ZM → Option (Int32 × ZM)} {res : Int32 × ZM} (hr2 : ∀ (x1 : Int32) (x2 : Int32) (x3 : Int32) (σ : ZM), rec2 x1 x2 x3 σ = some res → zF G MX9_greatestAlike (d + 1) 2 [(0, .ref (zad G 0)), (1, .int x1), (2, .int x2), (3, .int x3)] [] σ (some (.int res.1)) res.2) : ∀ (n : Nat) (x1 : Int32) (x2 : Int32) (x3 : Int32) (x4 : Int64) (x6 : Int32) (σ : ZM), f_X9_greatestAlike_49 N rec2 n x1 x2 x3 x4 x6 σ = some res → zF G MX9_greatestAlike (d + 1) 49 [(0, .ref (zad G 0)), (1, .int x1), (2, .int x2), (3, .int x3), (4, .long x4), (6, .int x6)] [] σ (some (.int res.1)) res.2 := by
  intro n
  induction n with
  | zero => intro x1 x2 x3 x4 x6 σ h; exact absurd h (by simp [f_X9_greatestAlike_49])
  | succ n ih => intro x1 x2 x3 x4 x6 σ h; rw [f_X9_greatestAlike_49] at h; exact ok_b_X9_greatestAlike_49 hG N hd hr2 ih h
def b_X9_greatestAlike_2 (N : Nat) (rec2 : Int32 → Int32 → Int32 → ZM → Option (Int32 × ZM)) (x1 : Int32) (x2 : Int32) (x3 : Int32) (σ : ZM) : Option (Int32 × ZM) :=
  if (σ.1 0 40) ≤ x3 then
  (f_X9_greatestAlike_116 N N (0 : Int32) (0 : Int32) σ)
  else
  (zbd (f_X9_askNow N σ) fun r12 s13 =>
  (zast s13 12 4 x1 x2).bind fun s14 =>
  (zald s14 34 256 x3).bind fun v15 =>
  zbd (f_X9_askCase N v15 s14) fun r16 s17 =>
  zbd (f_X9_settle N s17) fun r18 s19 =>
  if r18 = 0 then
  (f_X9_greatestAlike_97 N rec2 x1 x2 x3 (-1 : Int64) s19)
  else
  (f_X9_greatestAlike_49 N rec2 N x1 x2 x3 (0 : Int64) (0 : Int32) s19))
set_option maxRecDepth 100000 in
theorem ok_b_X9_greatestAlike_2 {G : ZG} (hG : zSH G = shM) (N : Nat) {d : Nat} (hd : 4 ≤ d) {rec2 : Int32 → Int32 → Int32 → ZM → Option (Int32 × ZM)} {res : Int32 × ZM} (hr2 : ∀ (x1 : Int32) (x2 : Int32) (x3 : Int32) (σ : ZM), rec2 x1 x2 x3 σ = some res → zF G MX9_greatestAlike (d + 1) 2 [(0, .ref (zad G 0)), (1, .int x1), (2, .int x2), (3, .int x3)] [] σ (some (.int res.1)) res.2) {x1 : Int32} {x2 : Int32} {x3 : Int32} {σ : ZM} (h : b_X9_greatestAlike_2 N rec2 x1 x2 x3 σ = some res) : zF G MX9_greatestAlike (d + 1) 2 [(0, .ref (zad G 0)), (1, .int x1), (2, .int x2), (3, .int x3)] [] σ (some (.int res.1)) res.2 := by
  unfold b_X9_greatestAlike_2 at h
  refine zf_iload_n 3 (q := 3) (j := 3) rfl dX9_greatestAlike_2 rfl rfl ?_
  refine zf_aload_n 0 (q := 4) (j := 0) rfl dX9_greatestAlike_3 rfl rfl ?_
  refine zf_getI (q := 7) rfl dX9_greatestAlike_4 lf_RX9_253 (sm0 hG) rfl ?_
  refine zf_icmp_ge (q := 10) (tgt := 111) rfl (by decide) dX9_greatestAlike_7 (fun hc7 => ?_) (fun hc7 => ?_)
  · replace h := (zi h).1 hc7
    refine zf_iconst (q := 112) rfl dX9_greatestAlike_111 ic0 ?_
    refine zf_istore_n (q := 113) (y := (0 : Int32)) (i := 3) (lv1 := [(3, .int (0 : Int32)), (0, .ref (zad G 0)), (1, .int x1), (2, .int x2)]) rfl dX9_greatestAlike_112 rfl (by decide) rfl rfl ?_
    refine zf_iconst (q := 114) rfl dX9_greatestAlike_113 ic0 ?_
    refine zf_istore (q := 116) (y := (0 : Int32)) (i := 4) (lv1 := [(4, .int (0 : Int32)), (3, .int (0 : Int32)), (0, .ref (zad G 0)), (1, .int x1), (2, .int x2)]) rfl dX9_greatestAlike_114 (by decide) rfl rfl ?_
    exact zf_sub [2, 1, 0] rfl (ok_X9_greatestAlike_116 hG N hd _ _ _ _ h)
  · replace h := (zi h).2 hc7
    refine zf_aload_n 0 (q := 11) (j := 0) rfl dX9_greatestAlike_10 rfl rfl ?_
    obtain ⟨r12, s13, es13, h⟩ := zc h
    refine zf_callV (q := 14) (As := []) (rest := []) (st1 := []) rfl dX9_greatestAlike_11 lv_RX9_209 (sm0 hG) rfl rfl (Nat.le_of_ble_eq_true rfl) (ok_X9_askNow hG N (Nat.le_trans (by decide) hd) es13) rfl ?_
    refine zf_aload_n 0 (q := 15) (j := 0) rfl dX9_greatestAlike_14 rfl rfl ?_
    refine zf_getR (q := 18) rfl dX9_greatestAlike_15 lf_RX9_44 (sm0 hG) rfl ?_
    refine zf_iload_n 1 (q := 19) (j := 1) rfl dX9_greatestAlike_18 rfl rfl ?_
    refine zf_iload_n 2 (q := 20) (j := 2) rfl dX9_greatestAlike_19 rfl rfl ?_
    obtain ⟨s14, es14, h⟩ := zb h
    refine zf_iast (q := 21) rfl dX9_greatestAlike_20 (sm12 hG) es14 ?_
    refine zf_aload_n 0 (q := 22) (j := 0) rfl dX9_greatestAlike_21 rfl rfl ?_
    refine zf_aload_n 0 (q := 23) (j := 0) rfl dX9_greatestAlike_22 rfl rfl ?_
    refine zf_getR (q := 26) rfl dX9_greatestAlike_23 lf_RX9_110 (sm0 hG) rfl ?_
    refine zf_iload_n 3 (q := 27) (j := 3) rfl dX9_greatestAlike_26 rfl rfl ?_
    obtain ⟨v15, ev15, h⟩ := zb h
    refine zf_iald (q := 28) rfl dX9_greatestAlike_27 (sm34 hG) ev15 ?_
    obtain ⟨r16, s17, es17, h⟩ := zc h
    refine zf_callV (q := 31) (As := [.int v15]) (rest := []) (st1 := []) rfl dX9_greatestAlike_28 lv_RX9_250 (sm0 hG) rfl rfl (Nat.le_of_ble_eq_true rfl) (ok_X9_askCase hG N (Nat.le_trans (by decide) hd) es17) rfl ?_
    refine zf_ldc2 (q := 34) rfl dX9_greatestAlike_31 cl_RX9_265 ?_
    refine zf_lstore (q := 36) (y := (-1 : Int64)) (i := 4) (lv1 := [(4, .long (-1 : Int64)), (0, .ref (zad G 0)), (1, .int x1), (2, .int x2), (3, .int x3)]) rfl dX9_greatestAlike_34 (by decide) rfl rfl ?_
    refine zf_aload_n 1 (q := 37) (j := 0) rfl dX9_greatestAlike_36 rfl rfl ?_
    obtain ⟨r18, s19, es19, h⟩ := zc h
    refine zf_callV (q := 40) (As := []) (rest := []) (st1 := [.int r18]) rfl dX9_greatestAlike_37 lv_RX9_212 (sm0 hG) rfl rfl (Nat.le_of_ble_eq_true rfl) (ok_X9_settle hG N (Nat.le_trans (by decide) hd) es19) rfl ?_
    refine zf_if_eq (q := 43) (tgt := 97) rfl (by decide) dX9_greatestAlike_40 (fun hc40 => ?_) (fun hc40 => ?_)
    · replace h := (zi h).1 hc40
      exact zf_sub [1, 2, 3, 4, 0] rfl (ok_X9_greatestAlike_97 hG N hd hr2 h)
    · replace h := (zi h).2 hc40
      refine zf_lconst (q := 44) (v := 0) rfl dX9_greatestAlike_43 (by decide) ?_
      refine zf_lstore (q := 46) (y := (0 : Int64)) (i := 4) (lv1 := [(4, .long (0 : Int64)), (0, .ref (zad G 0)), (1, .int x1), (2, .int x2), (3, .int x3)]) rfl dX9_greatestAlike_44 (by decide) rfl rfl ?_
      refine zf_iconst (q := 47) rfl dX9_greatestAlike_46 ic0 ?_
      refine zf_istore (q := 49) (y := (0 : Int32)) (i := 6) (lv1 := [(6, .int (0 : Int32)), (4, .long (0 : Int64)), (0, .ref (zad G 0)), (1, .int x1), (2, .int x2), (3, .int x3)]) rfl dX9_greatestAlike_47 (by decide) rfl rfl ?_
      exact zf_sub [2, 3, 4, 5, 1, 0] rfl (ok_X9_greatestAlike_49 hG N hd hr2 _ _ _ _ _ _ _ h)
def f_X9_greatestAlike_2 (N : Nat) : Nat → Int32 → Int32 → Int32 → ZM → Option (Int32 × ZM)
  | 0, _, _, _, _ => none
  | n + 1, x1, x2, x3, σ => b_X9_greatestAlike_2 N (f_X9_greatestAlike_2 N n) x1 x2 x3 σ
theorem ok_X9_greatestAlike_2 {G : ZG} (hG : zSH G = shM) (N : Nat) {d : Nat} (hd : 4 ≤ d) {res : Int32 × ZM} : ∀ (n : Nat) (x1 : Int32) (x2 : Int32) (x3 : Int32) (σ : ZM), f_X9_greatestAlike_2 N n x1 x2 x3 σ = some res → zF G MX9_greatestAlike (d + 1) 2 [(0, .ref (zad G 0)), (1, .int x1), (2, .int x2), (3, .int x3)] [] σ (some (.int res.1)) res.2 := by
  intro n
  induction n with
  | zero => intro x1 x2 x3 σ h; exact absurd h (by simp [f_X9_greatestAlike_2])
  | succ n ih => intro x1 x2 x3 σ h; rw [f_X9_greatestAlike_2] at h; exact ok_b_X9_greatestAlike_2 hG N hd ih h
def f_X9_greatestAlike (N : Nat) (x1 : Int32) (x2 : Int32) (σ : ZM) : Option (Int32 × ZM) :=
  f_X9_greatestAlike_2 N N x1 x2 (0 : Int32) σ
set_option maxRecDepth 100000 in
theorem ok_X9_greatestAlike {G : ZG} (hG : zSH G = shM) (N : Nat) {d : Nat} (hd : 5 ≤ d) {x1 : Int32} {x2 : Int32} {σ : ZM} {res : Int32 × ZM} (h : f_X9_greatestAlike N x1 x2 σ = some res) : zCt G d MX9_greatestAlike [.ref (zad G 0), .int x1, .int x2] σ (some (.int res.1)) res.2 := by
  obtain ⟨d, rfl⟩ : ∃ k, d = k + 1 := ⟨d - 1, by omega⟩
  have hd : 4 ≤ d := by omega
  refine zct_of (by decide) (Nat.le_of_ble_eq_true rfl) (lv := [(0, .ref (zad G 0)), (1, .int x1), (2, .int x2)]) rfl ?_
  unfold f_X9_greatestAlike at h
  refine zf_iconst (q := 1) rfl dX9_greatestAlike_0 ic0 ?_
  refine zf_istore_n (q := 2) (y := (0 : Int32)) (i := 3) (lv1 := [(3, .int (0 : Int32)), (0, .ref (zad G 0)), (1, .int x1), (2, .int x2)]) rfl dX9_greatestAlike_1 rfl (by decide) rfl rfl ?_
  exact zf_sub [1, 2, 3, 0] rfl (ok_X9_greatestAlike_2 hG N hd _ _ _ _ _ h)
-- ===== X9_next: NearCopiesModel.next(Z)I
def f_X9_next_119 (N : Nat) (x1 : Int32) (σ : ZM) : Option (Int32 × ZM) :=
  if x1 = 0 then
  (some ((σ.1 0 44), σ))
  else
  (some ((σ.1 0 45), σ))
set_option maxRecDepth 100000 in
theorem ok_X9_next_119 {G : ZG} (hG : zSH G = shM) (N : Nat) {d : Nat} (hd : 6 ≤ d) {res : Int32 × ZM} {x1 : Int32} {σ : ZM} (h : f_X9_next_119 N x1 σ = some res) : zF G MX9_next (d + 1) 119 [(0, .ref (zad G 0)), (1, .int x1)] [] σ (some (.int res.1)) res.2 := by
  unfold f_X9_next_119 at h
  refine zf_iload_n 1 (q := 120) (j := 1) rfl dX9_next_119 rfl rfl ?_
  refine zf_if_eq (q := 123) (tgt := 130) rfl (by decide) dX9_next_120 (fun hc120 => ?_) (fun hc120 => ?_)
  · replace h := (zi h).1 hc120
    refine zf_aload_n 0 (q := 131) (j := 0) rfl dX9_next_130 rfl rfl ?_
    refine zf_getI (q := 134) rfl dX9_next_131 lf_RX9_269 (sm0 hG) rfl ?_
    cases h
    exact zf_ireturn dX9_next_134 rfl
  · replace h := (zi h).2 hc120
    refine zf_aload_n 0 (q := 124) (j := 0) rfl dX9_next_123 rfl rfl ?_
    refine zf_getI (q := 127) rfl dX9_next_124 lf_RX9_272 (sm0 hG) rfl ?_
    refine zf_goto (tgt := 134) (by decide) dX9_next_127 ?_
    cases h
    exact zf_ireturn dX9_next_134 rfl
def f_X9_next_113 (N : Nat) (rec24 : Int32 → Int32 → ZM → Option (Int32 × ZM)) (x1 : Int32) (x2 : Int32) (σ : ZM) : Option (Int32 × ZM) :=
  (some (x2 + (1 : Int32))).bind fun v1 =>
  rec24 x1 v1 σ
set_option maxRecDepth 100000 in
theorem ok_X9_next_113 {G : ZG} (hG : zSH G = shM) (N : Nat) {d : Nat} (hd : 6 ≤ d) {rec24 : Int32 → Int32 → ZM → Option (Int32 × ZM)} {res : Int32 × ZM} (hr24 : ∀ (x1 : Int32) (x2 : Int32) (σ : ZM), rec24 x1 x2 σ = some res → zF G MX9_next (d + 1) 24 [(0, .ref (zad G 0)), (1, .int x1), (2, .int x2)] [] σ (some (.int res.1)) res.2) {x1 : Int32} {x2 : Int32} {σ : ZM} (h : f_X9_next_113 N rec24 x1 x2 σ = some res) : zF G MX9_next (d + 1) 113 [(0, .ref (zad G 0)), (1, .int x1), (2, .int x2)] [] σ (some (.int res.1)) res.2 := by
  unfold f_X9_next_113 at h
  obtain ⟨v1, ev1, h⟩ := zb h
  refine zf_iinc 2 (q := 116) (v := v1) (lv1 := [(2, .int v1), (0, .ref (zad G 0)), (1, .int x1)]) rfl dX9_next_113 rfl (by rw [ic1]; exact ev1) (by decide) rfl ?_
  refine zf_goto (tgt := 24) (by decide) dX9_next_116 ?_
  exact zf_sub [1, 2, 0] rfl (hr24 _ _ _ h)
def f_X9_next_95 (N : Nat) (rec24 : Int32 → Int32 → ZM → Option (Int32 × ZM)) (x1 : Int32) (x2 : Int32) (x3 : Int32) (x4 : Int32) (σ : ZM) : Option (Int32 × ZM) :=
  (zrem x2 (5 : Int32)).bind fun v2 =>
  (zpI σ 0 44 (((10 : Int32) * x3) + v2)).bind fun s3 =>
  (zpI s3 0 45 x4).bind fun s4 =>
  f_X9_next_113 N rec24 x1 x2 s4
set_option maxRecDepth 100000 in
theorem ok_X9_next_95 {G : ZG} (hG : zSH G = shM) (N : Nat) {d : Nat} (hd : 6 ≤ d) {rec24 : Int32 → Int32 → ZM → Option (Int32 × ZM)} {res : Int32 × ZM} (hr24 : ∀ (x1 : Int32) (x2 : Int32) (σ : ZM), rec24 x1 x2 σ = some res → zF G MX9_next (d + 1) 24 [(0, .ref (zad G 0)), (1, .int x1), (2, .int x2)] [] σ (some (.int res.1)) res.2) {x1 : Int32} {x2 : Int32} {x3 : Int32} {x4 : Int32} {σ : ZM} (h : f_X9_next_95 N rec24 x1 x2 x3 x4 σ = some res) : zF G MX9_next (d + 1) 95 [(0, .ref (zad G 0)), (1, .int x1), (2, .int x2), (3, .int x3), (4, .int x4)] [] σ (some (.int res.1)) res.2 := by
  unfold f_X9_next_95 at h
  refine zf_aload_n 0 (q := 96) (j := 0) rfl dX9_next_95 rfl rfl ?_
  refine zf_bipush (q := 98) rfl dX9_next_96 bp10 ?_
  refine zf_iload_n 3 (q := 99) (j := 3) rfl dX9_next_98 rfl rfl ?_
  refine zf_imul (q := 100) rfl dX9_next_99 ?_
  refine zf_iload_n 2 (q := 101) (j := 2) rfl dX9_next_100 rfl rfl ?_
  refine zf_iconst (q := 102) rfl dX9_next_101 ic5 ?_
  obtain ⟨v2, ev2, h⟩ := zb h
  refine zf_irem (q := 103) rfl dX9_next_102 ev2 ?_
  refine zf_iadd (q := 104) rfl dX9_next_103 ?_
  obtain ⟨s3, es3, h⟩ := zb h
  refine zf_putI (q := 107) rfl dX9_next_104 lp_RX9_269 (sm0 hG) rfl es3 ?_
  refine zf_aload_n 0 (q := 108) (j := 0) rfl dX9_next_107 rfl rfl ?_
  refine zf_iload 4 (q := 110) rfl dX9_next_108 rfl ?_
  obtain ⟨s4, es4, h⟩ := zb h
  refine zf_putI (q := 113) rfl dX9_next_110 lp_RX9_272 (sm0 hG) rfl es4 ?_
  exact zf_sub [0, 1, 2] rfl (ok_X9_next_113 hG N hd hr24 h)
def b_X9_next_24 (N : Nat) (rec24 : Int32 → Int32 → ZM → Option (Int32 × ZM)) (x1 : Int32) (x2 : Int32) (σ : ZM) : Option (Int32 × ZM) :=
  if ((5 : Int32) * (σ.1 0 5)) ≤ x2 then
  (f_X9_next_119 N x1 σ)
  else
  (if (σ.1 0 40) ≤ (1 : Int32) then
  (f_X9_next_119 N x1 σ)
  else
  ((zdiv x2 (5 : Int32)).bind fun v5 =>
  (zald σ 6 4 v5).bind fun v6 =>
  if v6 = 0 then
  (f_X9_next_113 N rec24 x1 x2 σ)
  else
  ((zald σ 7 4 v5).bind fun v7 =>
  (zrem x2 (5 : Int32)).bind fun v8 =>
  if v7 = v8 then
  (f_X9_next_113 N rec24 x1 x2 σ)
  else
  ((zrem x2 (5 : Int32)).bind fun v9 =>
  zbd (f_X9_greatestAlike N v5 v9 σ) fun r10 s11 =>
  if (s11.1 0 44) = (-9 : Int32) then
  (f_X9_next_95 N rec24 x1 x2 v5 r10 s11)
  else
  (if (s11.1 0 45) ≤ r10 then
  (f_X9_next_113 N rec24 x1 x2 s11)
  else
  (f_X9_next_95 N rec24 x1 x2 v5 r10 s11))))))
set_option maxRecDepth 100000 in
theorem ok_b_X9_next_24 {G : ZG} (hG : zSH G = shM) (N : Nat) {d : Nat} (hd : 6 ≤ d) {rec24 : Int32 → Int32 → ZM → Option (Int32 × ZM)} {res : Int32 × ZM} (hr24 : ∀ (x1 : Int32) (x2 : Int32) (σ : ZM), rec24 x1 x2 σ = some res → zF G MX9_next (d + 1) 24 [(0, .ref (zad G 0)), (1, .int x1), (2, .int x2)] [] σ (some (.int res.1)) res.2) {x1 : Int32} {x2 : Int32} {σ : ZM} (h : b_X9_next_24 N rec24 x1 x2 σ = some res) : zF G MX9_next (d + 1) 24 [(0, .ref (zad G 0)), (1, .int x1), (2, .int x2)] [] σ (some (.int res.1)) res.2 := by
  unfold b_X9_next_24 at h
  refine zf_iload_n 2 (q := 25) (j := 2) rfl dX9_next_24 rfl rfl ?_
  refine zf_iconst (q := 26) rfl dX9_next_25 ic5 ?_
  refine zf_aload_n 0 (q := 27) (j := 0) rfl dX9_next_26 rfl rfl ?_
  refine zf_getI (q := 30) rfl dX9_next_27 lf_RX9_140 (sm0 hG) rfl ?_
  refine zf_imul (q := 31) rfl dX9_next_30 ?_
  refine zf_icmp_ge (q := 34) (tgt := 119) rfl (by decide) dX9_next_31 (fun hc31 => ?_) (fun hc31 => ?_)
  · replace h := (zi h).1 hc31
    exact zf_sub [0, 1] rfl (ok_X9_next_119 hG N hd h)
  · replace h := (zi h).2 hc31
    refine zf_aload_n 0 (q := 35) (j := 0) rfl dX9_next_34 rfl rfl ?_
    refine zf_getI (q := 38) rfl dX9_next_35 lf_RX9_253 (sm0 hG) rfl ?_
    refine zf_iconst (q := 39) rfl dX9_next_38 ic1 ?_
    refine zf_icmp_le (q := 42) (tgt := 119) rfl (by decide) dX9_next_39 (fun hc39 => ?_) (fun hc39 => ?_)
    · replace h := (zi h).1 hc39
      exact zf_sub [0, 1] rfl (ok_X9_next_119 hG N hd h)
    · replace h := (zi h).2 hc39
      refine zf_iload_n 2 (q := 43) (j := 2) rfl dX9_next_42 rfl rfl ?_
      refine zf_iconst (q := 44) rfl dX9_next_43 ic5 ?_
      obtain ⟨v5, ev5, h⟩ := zb h
      refine zf_idiv (q := 45) rfl dX9_next_44 ev5 ?_
      refine zf_istore_n (q := 46) (y := v5) (i := 3) (lv1 := [(3, .int v5), (0, .ref (zad G 0)), (1, .int x1), (2, .int x2)]) rfl dX9_next_45 rfl (by decide) rfl rfl ?_
      refine zf_aload_n 1 (q := 47) (j := 0) rfl dX9_next_46 rfl rfl ?_
      refine zf_getR (q := 50) rfl dX9_next_47 lf_RX9_25 (sm0 hG) rfl ?_
      refine zf_iload_n 0 (q := 51) (j := 3) rfl dX9_next_50 rfl rfl ?_
      obtain ⟨v6, ev6, h⟩ := zb h
      refine zf_zald (q := 52) rfl dX9_next_51 (sm6 hG) ev6 ?_
      refine zf_if_eq (q := 55) (tgt := 113) rfl (by decide) dX9_next_52 (fun hc52 => ?_) (fun hc52 => ?_)
      · replace h := (zi h).1 hc52
        exact zf_sub [1, 2, 3] rfl (ok_X9_next_113 hG N hd hr24 h)
      · replace h := (zi h).2 hc52
        refine zf_aload_n 1 (q := 56) (j := 0) rfl dX9_next_55 rfl rfl ?_
        refine zf_getR (q := 59) rfl dX9_next_56 lf_RX9_29 (sm0 hG) rfl ?_
        refine zf_iload_n 0 (q := 60) (j := 3) rfl dX9_next_59 rfl rfl ?_
        obtain ⟨v7, ev7, h⟩ := zb h
        refine zf_iald (q := 61) rfl dX9_next_60 (sm7 hG) ev7 ?_
        refine zf_iload_n 3 (q := 62) (j := 2) rfl dX9_next_61 rfl rfl ?_
        refine zf_iconst (q := 63) rfl dX9_next_62 ic5 ?_
        obtain ⟨v8, ev8, h⟩ := zb h
        refine zf_irem (q := 64) rfl dX9_next_63 ev8 ?_
        refine zf_icmp_eq (q := 67) (tgt := 113) rfl (by decide) dX9_next_64 (fun hc64 => ?_) (fun hc64 => ?_)
        · replace h := (zi h).1 hc64
          exact zf_sub [1, 2, 3] rfl (ok_X9_next_113 hG N hd hr24 h)
        · replace h := (zi h).2 hc64
          refine zf_aload_n 1 (q := 68) (j := 0) rfl dX9_next_67 rfl rfl ?_
          refine zf_iload_n 0 (q := 69) (j := 3) rfl dX9_next_68 rfl rfl ?_
          refine zf_iload_n 3 (q := 70) (j := 2) rfl dX9_next_69 rfl rfl ?_
          refine zf_iconst (q := 71) rfl dX9_next_70 ic5 ?_
          obtain ⟨v9, ev9, h⟩ := zb h
          refine zf_irem (q := 72) rfl dX9_next_71 ev9 ?_
          obtain ⟨r10, s11, es11, h⟩ := zc h
          refine zf_callV (q := 75) (As := [.int v5, .int v9]) (rest := []) (st1 := [.int r10]) rfl dX9_next_72 lv_RX9_275 (sm0 hG) rfl rfl (Nat.le_of_ble_eq_true rfl) (ok_X9_greatestAlike hG N (Nat.le_trans (by decide) hd) es11) rfl ?_
          refine zf_istore (q := 77) (y := r10) (i := 4) (lv1 := [(4, .int r10), (3, .int v5), (0, .ref (zad G 0)), (1, .int x1), (2, .int x2)]) rfl dX9_next_75 (by decide) rfl rfl ?_
          refine zf_aload_n 2 (q := 78) (j := 0) rfl dX9_next_77 rfl rfl ?_
          refine zf_getI (q := 81) rfl dX9_next_78 lf_RX9_269 (sm0 hG) rfl ?_
          refine zf_bipush (q := 83) rfl dX9_next_81 bpm9 ?_
          refine zf_icmp_eq (q := 86) (tgt := 95) rfl (by decide) dX9_next_83 (fun hc83 => ?_) (fun hc83 => ?_)
          · replace h := (zi h).1 hc83
            exact zf_sub [2, 3, 4, 1, 0] rfl (ok_X9_next_95 hG N hd hr24 h)
          · replace h := (zi h).2 hc83
            refine zf_iload 0 (q := 88) rfl dX9_next_86 rfl ?_
            refine zf_aload_n 2 (q := 89) (j := 0) rfl dX9_next_88 rfl rfl ?_
            refine zf_getI (q := 92) rfl dX9_next_89 lf_RX9_272 (sm0 hG) rfl ?_
            refine zf_icmp_ge (q := 95) (tgt := 113) rfl (by decide) dX9_next_92 (fun hc92 => ?_) (fun hc92 => ?_)
            · replace h := (zi h).1 hc92
              exact zf_sub [2, 3, 4] rfl (ok_X9_next_113 hG N hd hr24 h)
            · replace h := (zi h).2 hc92
              exact zf_sub [2, 3, 4, 1, 0] rfl (ok_X9_next_95 hG N hd hr24 h)
def f_X9_next_24 (N : Nat) : Nat → Int32 → Int32 → ZM → Option (Int32 × ZM)
  | 0, _, _, _ => none
  | n + 1, x1, x2, σ => b_X9_next_24 N (f_X9_next_24 N n) x1 x2 σ
theorem ok_X9_next_24 {G : ZG} (hG : zSH G = shM) (N : Nat) {d : Nat} (hd : 6 ≤ d) {res : Int32 × ZM} : ∀ (n : Nat) (x1 : Int32) (x2 : Int32) (σ : ZM), f_X9_next_24 N n x1 x2 σ = some res → zF G MX9_next (d + 1) 24 [(0, .ref (zad G 0)), (1, .int x1), (2, .int x2)] [] σ (some (.int res.1)) res.2 := by
  intro n
  induction n with
  | zero => intro x1 x2 σ h; exact absurd h (by simp [f_X9_next_24])
  | succ n ih => intro x1 x2 σ h; rw [f_X9_next_24] at h; exact ok_b_X9_next_24 hG N hd ih h
def f_X9_next (N : Nat) (x1 : Int32) (σ : ZM) : Option (Int32 × ZM) :=
  zbd (f_X9_layAgreed N σ) fun r12 s13 =>
  if r12 = 0 then
  (some ((-5 : Int32), s13))
  else
  ((zpI s13 0 44 (-9 : Int32)).bind fun s14 =>
  (zpI s14 0 45 (-9 : Int32)).bind fun s15 =>
  f_X9_next_24 N N x1 (0 : Int32) s15)
set_option maxRecDepth 100000 in
theorem ok_X9_next {G : ZG} (hG : zSH G = shM) (N : Nat) {d : Nat} (hd : 7 ≤ d) {x1 : Int32} {σ : ZM} {res : Int32 × ZM} (h : f_X9_next N x1 σ = some res) : zCt G d MX9_next [.ref (zad G 0), .int x1] σ (some (.int res.1)) res.2 := by
  obtain ⟨d, rfl⟩ : ∃ k, d = k + 1 := ⟨d - 1, by omega⟩
  have hd : 6 ≤ d := by omega
  refine zct_of (by decide) (Nat.le_of_ble_eq_true rfl) (lv := [(0, .ref (zad G 0)), (1, .int x1)]) rfl ?_
  unfold f_X9_next at h
  refine zf_aload_n 0 (q := 1) (j := 0) rfl dX9_next_0 rfl rfl ?_
  obtain ⟨r12, s13, es13, h⟩ := zc h
  refine zf_callV (q := 4) (As := []) (rest := []) (st1 := [.int r12]) rfl dX9_next_1 lv_RX9_259 (sm0 hG) rfl rfl (Nat.le_of_ble_eq_true rfl) (ok_X9_layAgreed hG N (Nat.le_trans (by decide) hd) es13) rfl ?_
  refine zf_if_ne (q := 7) (tgt := 10) rfl (by decide) dX9_next_4 (fun hc4 => ?_) (fun hc4 => ?_)
  · replace h := (zi h).2 hc4
    refine zf_aload_n 0 (q := 11) (j := 0) rfl dX9_next_10 rfl rfl ?_
    refine zf_bipush (q := 13) rfl dX9_next_11 bpm9 ?_
    obtain ⟨s14, es14, h⟩ := zb h
    refine zf_putI (q := 16) rfl dX9_next_13 lp_RX9_269 (sm0 hG) rfl es14 ?_
    refine zf_aload_n 0 (q := 17) (j := 0) rfl dX9_next_16 rfl rfl ?_
    refine zf_bipush (q := 19) rfl dX9_next_17 bpm9 ?_
    obtain ⟨s15, es15, h⟩ := zb h
    refine zf_putI (q := 22) rfl dX9_next_19 lp_RX9_272 (sm0 hG) rfl es15 ?_
    refine zf_iconst (q := 23) rfl dX9_next_22 ic0 ?_
    refine zf_istore_n (q := 24) (y := (0 : Int32)) (i := 2) (lv1 := [(2, .int (0 : Int32)), (0, .ref (zad G 0)), (1, .int x1)]) rfl dX9_next_23 rfl (by decide) rfl rfl ?_
    exact zf_sub [1, 2, 0] rfl (ok_X9_next_24 hG N hd _ _ _ _ h)
  · replace h := (zi h).1 hc4
    refine zf_bipush (q := 9) rfl dX9_next_7 bpm5 ?_
    cases h
    exact zf_ireturn dX9_next_9 rfl
