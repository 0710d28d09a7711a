-- ===== X9_layChoice: NearCopiesModel.layChoice(I)Z
def f_X9_layChoice_90 (N : Nat) (rec7 : Int32 → Int32 → Int32 → ZM → Option (Int32 × ZM)) (x2 : Int32) (x3 : Int32) (x4 : Int32) (y0 : Int32) (y1 : Int32) (σ : ZM) : Option (Int32 × ZM) :=
  (zast σ 37 4 y1 y0).bind fun s1 =>
  (some (x4 + (-1 : Int32))).bind fun v2 =>
  rec7 x2 x3 v2 s1
set_option maxRecDepth 100000 in
theorem ok_X9_layChoice_90 {G : ZG} (hG : zSH G = shM) (N : Nat) {d : Nat} {rec7 : Int32 → Int32 → Int32 → ZM → Option (Int32 × ZM)} {res : Int32 × ZM} (hr7 : ∀ (x2 : Int32) (x3 : Int32) (x4 : Int32) (σ : ZM), rec7 x2 x3 x4 σ = some res → zF G MX9_layChoice d 7 [(0, .ref (zad G 0)), (2, .int x2), (3, .int x3), (4, .int x4)] [] σ (some (.int res.1)) res.2) {x2 : Int32} {x3 : Int32} {x4 : Int32} {y0 : Int32} {y1 : Int32} {σ : ZM} (h : f_X9_layChoice_90 N rec7 x2 x3 x4 y0 y1 σ = some res) : zF G MX9_layChoice d 90 [(0, .ref (zad G 0)), (2, .int x2), (3, .int x3), (4, .int x4)] [.int y0, .int y1, .ref (zad G 37)] σ (some (.int res.1)) res.2 := by
  unfold f_X9_layChoice_90 at h
  obtain ⟨s1, es1, h⟩ := zb h
  refine zf_iast (q := 91) rfl dX9_layChoice_90 (sm37 hG) es1 ?_
  obtain ⟨v2, ev2, h⟩ := zb h
  refine zf_iinc 3 (q := 94) (v := v2) (lv1 := [(4, .int v2), (0, .ref (zad G 0)), (2, .int x2), (3, .int x3)]) rfl dX9_layChoice_91 rfl (by rw [icm1]; exact ev2) (by decide) rfl ?_
  refine zf_goto (tgt := 7) (by decide) dX9_layChoice_94 ?_
  exact zf_sub [1, 2, 3, 0] rfl (hr7 _ _ _ _ h)
def f_X9_layChoice_66 (N : Nat) (rec7 : Int32 → Int32 → Int32 → ZM → Option (Int32 × ZM)) (x2 : Int32) (x4 : Int32) (x5 : Int32) (x6 : Int32) (y0 : Int32) (σ : ZM) : Option (Int32 × ZM) :=
  if x6 = 0 then
  ((zald σ 7 4 x4).bind fun v3 =>
  f_X9_layChoice_90 N rec7 x2 y0 x4 v3 x4 σ)
  else
  (f_X9_layChoice_90 N rec7 x2 y0 x4 x5 x4 σ)
set_option maxRecDepth 100000 in
theorem ok_X9_layChoice_66 {G : ZG} (hG : zSH G = shM) (N : Nat) {d : Nat} {rec7 : Int32 → Int32 → Int32 → ZM → Option (Int32 × ZM)} {res : Int32 × ZM} (hr7 : ∀ (x2 : Int32) (x3 : Int32) (x4 : Int32) (σ : ZM), rec7 x2 x3 x4 σ = some res → zF G MX9_layChoice d 7 [(0, .ref (zad G 0)), (2, .int x2), (3, .int x3), (4, .int x4)] [] σ (some (.int res.1)) res.2) {x2 : Int32} {x4 : Int32} {x5 : Int32} {x6 : Int32} {y0 : Int32} {σ : ZM} (h : f_X9_layChoice_66 N rec7 x2 x4 x5 x6 y0 σ = some res) : zF G MX9_layChoice d 66 [(0, .ref (zad G 0)), (2, .int x2), (4, .int x4), (5, .int x5), (6, .int x6)] [.int y0] σ (some (.int res.1)) res.2 := by
  unfold f_X9_layChoice_66 at h
  refine zf_istore_n (q := 67) (y := y0) (i := 3) (lv1 := [(3, .int y0), (0, .ref (zad G 0)), (2, .int x2), (4, .int x4), (5, .int x5), (6, .int x6)]) rfl dX9_layChoice_66 rfl (by decide) rfl rfl ?_
  refine zf_aload_n 1 (q := 68) (j := 0) rfl dX9_layChoice_67 rfl rfl ?_
  refine zf_getR (q := 71) rfl dX9_layChoice_68 lf_RX9_120 (sm0 hG) rfl ?_
  refine zf_iload 3 (q := 73) rfl dX9_layChoice_71 rfl ?_
  refine zf_iload 5 (q := 75) rfl dX9_layChoice_73 rfl ?_
  refine zf_if_eq (q := 78) (tgt := 83) rfl (by decide) dX9_layChoice_75 (fun hc75 => ?_) (fun hc75 => ?_)
  · replace h := (zi h).1 hc75
    refine zf_aload_n 1 (q := 84) (j := 0) rfl dX9_layChoice_83 rfl rfl ?_
    refine zf_getR (q := 87) rfl dX9_layChoice_84 lf_RX9_29 (sm0 hG) rfl ?_
    refine zf_iload 3 (q := 89) rfl dX9_layChoice_87 rfl ?_
    obtain ⟨v3, ev3, h⟩ := zb h
    refine zf_iald (q := 90) rfl dX9_layChoice_89 (sm7 hG) ev3 ?_
    exact zf_sub [1, 2, 0, 3] rfl (ok_X9_layChoice_90 hG N hr7 h)
  · replace h := (zi h).2 hc75
    refine zf_iload 4 (q := 80) rfl dX9_layChoice_78 rfl ?_
    refine zf_goto (tgt := 90) (by decide) dX9_layChoice_80 ?_
    exact zf_sub [1, 2, 0, 3] rfl (ok_X9_layChoice_90 hG N hr7 h)
def f_X9_layChoice_65 (N : Nat) (rec7 : Int32 → Int32 → Int32 → ZM → Option (Int32 × ZM)) (x2 : Int32) (x4 : Int32) (x5 : Int32) (x6 : Int32) (σ : ZM) : Option (Int32 × ZM) :=
  f_X9_layChoice_66 N rec7 x2 x4 x5 x6 (0 : Int32) σ
set_option maxRecDepth 100000 in
theorem ok_X9_layChoice_65 {G : ZG} (hG : zSH G = shM) (N : Nat) {d : Nat} {rec7 : Int32 → Int32 → Int32 → ZM → Option (Int32 × ZM)} {res : Int32 × ZM} (hr7 : ∀ (x2 : Int32) (x3 : Int32) (x4 : Int32) (σ : ZM), rec7 x2 x3 x4 σ = some res → zF G MX9_layChoice d 7 [(0, .ref (zad G 0)), (2, .int x2), (3, .int x3), (4, .int x4)] [] σ (some (.int res.1)) res.2) {x2 : Int32} {x4 : Int32} {x5 : Int32} {x6 : Int32} {σ : ZM} (h : f_X9_layChoice_65 N rec7 x2 x4 x5 x6 σ = some res) : zF G MX9_layChoice d 65 [(0, .ref (zad G 0)), (2, .int x2), (4, .int x4), (5, .int x5), (6, .int x6)] [] σ (some (.int res.1)) res.2 := by
  unfold f_X9_layChoice_65 at h
  refine zf_iconst (q := 66) rfl dX9_layChoice_65 ic0 ?_
  exact zf_sub [0, 1, 2, 3, 4] rfl (ok_X9_layChoice_66 hG N hr7 h)
def f_X9_layChoice_61 (N : Nat) (rec7 : Int32 → Int32 → Int32 → ZM → Option (Int32 × ZM)) (x2 : Int32) (x4 : Int32) (x5 : Int32) (x6 : Int32) (σ : ZM) : Option (Int32 × ZM) :=
  f_X9_layChoice_66 N rec7 x2 x4 x5 x6 (1 : Int32) σ
set_option maxRecDepth 100000 in
theorem ok_X9_layChoice_61 {G : ZG} (hG : zSH G = shM) (N : Nat) {d : Nat} {rec7 : Int32 → Int32 → Int32 → ZM → Option (Int32 × ZM)} {res : Int32 × ZM} (hr7 : ∀ (x2 : Int32) (x3 : Int32) (x4 : Int32) (σ : ZM), rec7 x2 x3 x4 σ = some res → zF G MX9_layChoice d 7 [(0, .ref (zad G 0)), (2, .int x2), (3, .int x3), (4, .int x4)] [] σ (some (.int res.1)) res.2) {x2 : Int32} {x4 : Int32} {x5 : Int32} {x6 : Int32} {σ : ZM} (h : f_X9_layChoice_61 N rec7 x2 x4 x5 x6 σ = some res) : zF G MX9_layChoice d 61 [(0, .ref (zad G 0)), (2, .int x2), (4, .int x4), (5, .int x5), (6, .int x6)] [] σ (some (.int res.1)) res.2 := by
  unfold f_X9_layChoice_61 at h
  refine zf_iconst (q := 62) rfl dX9_layChoice_61 ic1 ?_
  refine zf_goto (tgt := 66) (by decide) dX9_layChoice_62 ?_
  exact zf_sub [0, 1, 2, 3, 4] rfl (ok_X9_layChoice_66 hG N hr7 h)
def f_X9_layChoice_45 (N : Nat) (rec7 : Int32 → Int32 → Int32 → ZM → Option (Int32 × ZM)) (x2 : Int32) (x3 : Int32) (x4 : Int32) (x5 : Int32) (y0 : Int32) (σ : ZM) : Option (Int32 × ZM) :=
  if x3 = 0 then
  (f_X9_layChoice_65 N rec7 x2 x4 x5 y0 σ)
  else
  (if y0 = 0 then
  (if x5 = 0 then
  (f_X9_layChoice_61 N rec7 x2 x4 x5 y0 σ)
  else
  (f_X9_layChoice_65 N rec7 x2 x4 x5 y0 σ))
  else
  (f_X9_layChoice_61 N rec7 x2 x4 x5 y0 σ))
set_option maxRecDepth 100000 in
theorem ok_X9_layChoice_45 {G : ZG} (hG : zSH G = shM) (N : Nat) {d : Nat} {rec7 : Int32 → Int32 → Int32 → ZM → Option (Int32 × ZM)} {res : Int32 × ZM} (hr7 : ∀ (x2 : Int32) (x3 : Int32) (x4 : Int32) (σ : ZM), rec7 x2 x3 x4 σ = some res → zF G MX9_layChoice d 7 [(0, .ref (zad G 0)), (2, .int x2), (3, .int x3), (4, .int x4)] [] σ (some (.int res.1)) res.2) {x2 : Int32} {x3 : Int32} {x4 : Int32} {x5 : Int32} {y0 : Int32} {σ : ZM} (h : f_X9_layChoice_45 N rec7 x2 x3 x4 x5 y0 σ = some res) : zF G MX9_layChoice d 45 [(0, .ref (zad G 0)), (2, .int x2), (3, .int x3), (4, .int x4), (5, .int x5)] [.int y0] σ (some (.int res.1)) res.2 := by
  unfold f_X9_layChoice_45 at h
  refine zf_istore (q := 47) (y := y0) (i := 6) (lv1 := [(6, .int y0), (0, .ref (zad G 0)), (2, .int x2), (3, .int x3), (4, .int x4), (5, .int x5)]) rfl dX9_layChoice_45 (by decide) rfl rfl ?_
  refine zf_iload_n 3 (q := 48) (j := 3) rfl dX9_layChoice_47 rfl rfl ?_
  refine zf_if_eq (q := 51) (tgt := 65) rfl (by decide) dX9_layChoice_48 (fun hc48 => ?_) (fun hc48 => ?_)
  · replace h := (zi h).1 hc48
    exact zf_sub [1, 2, 4, 5, 0] rfl (ok_X9_layChoice_65 hG N hr7 h)
  · replace h := (zi h).2 hc48
    refine zf_iload 0 (q := 53) rfl dX9_layChoice_51 rfl ?_
    refine zf_if_ne (q := 56) (tgt := 61) rfl (by decide) dX9_layChoice_53 (fun hc53 => ?_) (fun hc53 => ?_)
    · replace h := (zi h).2 hc53
      exact zf_sub [1, 2, 4, 5, 0] rfl (ok_X9_layChoice_61 hG N hr7 h)
    · replace h := (zi h).1 hc53
      refine zf_iload 5 (q := 58) rfl dX9_layChoice_56 rfl ?_
      refine zf_if_ne (q := 61) (tgt := 65) rfl (by decide) dX9_layChoice_58 (fun hc58 => ?_) (fun hc58 => ?_)
      · replace h := (zi h).2 hc58
        exact zf_sub [1, 2, 4, 5, 0] rfl (ok_X9_layChoice_65 hG N hr7 h)
      · replace h := (zi h).1 hc58
        exact zf_sub [1, 2, 4, 5, 0] rfl (ok_X9_layChoice_61 hG N hr7 h)
def f_X9_layChoice_44 (N : Nat) (rec7 : Int32 → Int32 → Int32 → ZM → Option (Int32 × ZM)) (x2 : Int32) (x3 : Int32) (x4 : Int32) (x5 : Int32) (σ : ZM) : Option (Int32 × ZM) :=
  f_X9_layChoice_45 N rec7 x2 x3 x4 x5 (0 : Int32) σ
set_option maxRecDepth 100000 in
theorem ok_X9_layChoice_44 {G : ZG} (hG : zSH G = shM) (N : Nat) {d : Nat} {rec7 : Int32 → Int32 → Int32 → ZM → Option (Int32 × ZM)} {res : Int32 × ZM} (hr7 : ∀ (x2 : Int32) (x3 : Int32) (x4 : Int32) (σ : ZM), rec7 x2 x3 x4 σ = some res → zF G MX9_layChoice d 7 [(0, .ref (zad G 0)), (2, .int x2), (3, .int x3), (4, .int x4)] [] σ (some (.int res.1)) res.2) {x2 : Int32} {x3 : Int32} {x4 : Int32} {x5 : Int32} {σ : ZM} (h : f_X9_layChoice_44 N rec7 x2 x3 x4 x5 σ = some res) : zF G MX9_layChoice d 44 [(0, .ref (zad G 0)), (2, .int x2), (3, .int x3), (4, .int x4), (5, .int x5)] [] σ (some (.int res.1)) res.2 := by
  unfold f_X9_layChoice_44 at h
  refine zf_iconst (q := 45) rfl dX9_layChoice_44 ic0 ?_
  exact zf_sub [0, 1, 2, 3, 4] rfl (ok_X9_layChoice_45 hG N hr7 h)
def b_X9_layChoice_7 (N : Nat) (rec7 : Int32 → Int32 → Int32 → ZM → Option (Int32 × ZM)) (x2 : Int32) (x3 : Int32) (x4 : Int32) (σ : ZM) : Option (Int32 × ZM) :=
  if x4 < 0 then
  (zrz x3 σ)
  else
  ((zrem x2 (5 : Int32)).bind fun v4 =>
  (zdiv x2 (5 : Int32)).bind fun v5 =>
  if (σ.1 0 5) ≤ x4 then
  (f_X9_layChoice_44 N rec7 v5 x3 x4 v4 σ)
  else
  ((zald σ 6 4 x4).bind fun v6 =>
  if v6 = 0 then
  (f_X9_layChoice_44 N rec7 v5 x3 x4 v4 σ)
  else
  (f_X9_layChoice_45 N rec7 v5 x3 x4 v4 (1 : Int32) σ)))
set_option maxRecDepth 100000 in
theorem ok_b_X9_layChoice_7 {G : ZG} (hG : zSH G = shM) (N : Nat) {d : Nat} {rec7 : Int32 → Int32 → Int32 → ZM → Option (Int32 × ZM)} {res : Int32 × ZM} (hr7 : ∀ (x2 : Int32) (x3 : Int32) (x4 : Int32) (σ : ZM), rec7 x2 x3 x4 σ = some res → zF G MX9_layChoice d 7 [(0, .ref (zad G 0)), (2, .int x2), (3, .int x3), (4, .int x4)] [] σ (some (.int res.1)) res.2) {x2 : Int32} {x3 : Int32} {x4 : Int32} {σ : ZM} (h : b_X9_layChoice_7 N rec7 x2 x3 x4 σ = some res) : zF G MX9_layChoice d 7 [(0, .ref (zad G 0)), (2, .int x2), (3, .int x3), (4, .int x4)] [] σ (some (.int res.1)) res.2 := by
  unfold b_X9_layChoice_7 at h
  refine zf_iload 3 (q := 9) rfl dX9_layChoice_7 rfl ?_
  refine zf_if_lt (q := 12) (tgt := 97) rfl (by decide) dX9_layChoice_9 (fun hc9 => ?_) (fun hc9 => ?_)
  · replace h := (zi h).1 hc9
    refine zf_iload_n 2 (q := 98) (j := 3) rfl dX9_layChoice_97 rfl rfl ?_
    obtain ⟨hz, rfl⟩ := zrz_ok h
    exact zf_zreturn dX9_layChoice_98 rfl hz
  · replace h := (zi h).2 hc9
    refine zf_iload_n 1 (q := 13) (j := 2) rfl dX9_layChoice_12 rfl rfl ?_
    refine zf_iconst (q := 14) rfl dX9_layChoice_13 ic5 ?_
    obtain ⟨v4, ev4, h⟩ := zb h
    refine zf_irem (q := 15) rfl dX9_layChoice_14 ev4 ?_
    refine zf_istore (q := 17) (y := v4) (i := 5) (lv1 := [(5, .int v4), (0, .ref (zad G 0)), (2, .int x2), (3, .int x3), (4, .int x4)]) rfl dX9_layChoice_15 (by decide) rfl rfl ?_
    refine zf_iload_n 2 (q := 18) (j := 2) rfl dX9_layChoice_17 rfl rfl ?_
    refine zf_iconst (q := 19) rfl dX9_layChoice_18 ic5 ?_
    obtain ⟨v5, ev5, h⟩ := zb h
    refine zf_idiv (q := 20) rfl dX9_layChoice_19 ev5 ?_
    refine zf_istore_n (q := 21) (y := v5) (i := 2) (lv1 := [(2, .int v5), (5, .int v4), (0, .ref (zad G 0)), (3, .int x3), (4, .int x4)]) rfl dX9_layChoice_20 rfl (by decide) rfl rfl ?_
    refine zf_iload 4 (q := 23) rfl dX9_layChoice_21 rfl ?_
    refine zf_aload_n 2 (q := 24) (j := 0) rfl dX9_layChoice_23 rfl rfl ?_
    refine zf_getI (q := 27) rfl dX9_layChoice_24 lf_RX9_140 (sm0 hG) rfl ?_
    refine zf_icmp_ge (q := 30) (tgt := 44) rfl (by decide) dX9_layChoice_27 (fun hc27 => ?_) (fun hc27 => ?_)
    · replace h := (zi h).1 hc27
      exact zf_sub [2, 0, 3, 4, 1] rfl (ok_X9_layChoice_44 hG N hr7 h)
    · replace h := (zi h).2 hc27
      refine zf_aload_n 2 (q := 31) (j := 0) rfl dX9_layChoice_30 rfl rfl ?_
      refine zf_getR (q := 34) rfl dX9_layChoice_31 lf_RX9_25 (sm0 hG) rfl ?_
      refine zf_iload 4 (q := 36) rfl dX9_layChoice_34 rfl ?_
      obtain ⟨v6, ev6, h⟩ := zb h
      refine zf_zald (q := 37) rfl dX9_layChoice_36 (sm6 hG) ev6 ?_
      refine zf_if_eq (q := 40) (tgt := 44) rfl (by decide) dX9_layChoice_37 (fun hc37 => ?_) (fun hc37 => ?_)
      · replace h := (zi h).1 hc37
        exact zf_sub [2, 0, 3, 4, 1] rfl (ok_X9_layChoice_44 hG N hr7 h)
      · replace h := (zi h).2 hc37
        refine zf_iconst (q := 41) rfl dX9_layChoice_40 ic1 ?_
        refine zf_goto (tgt := 45) (by decide) dX9_layChoice_41 ?_
        exact zf_sub [2, 0, 3, 4, 1] rfl (ok_X9_layChoice_45 hG N hr7 h)
def f_X9_layChoice_7 (N : Nat) : Nat → Int32 → Int32 → Int32 → ZM → Option (Int32 × ZM)
  | 0, _, _, _, _ => none
  | n + 1, x2, x3, x4, σ => b_X9_layChoice_7 N (f_X9_layChoice_7 N n) x2 x3 x4 σ
theorem ok_X9_layChoice_7 {G : ZG} (hG : zSH G = shM) (N : Nat) {d : Nat} {res : Int32 × ZM} : ∀ (n : Nat) (x2 : Int32) (x3 : Int32) (x4 : Int32) (σ : ZM), f_X9_layChoice_7 N n x2 x3 x4 σ = some res → zF G MX9_layChoice d 7 [(0, .ref (zad G 0)), (2, .int x2), (3, .int x3), (4, .int x4)] [] σ (some (.int res.1)) res.2 := by
  intro n
  induction n with
  | zero => intro x2 x3 x4 σ h; exact absurd h (by simp [f_X9_layChoice_7])
  | succ n ih => intro x2 x3 x4 σ h; rw [f_X9_layChoice_7] at h; exact ok_b_X9_layChoice_7 hG N ih h
def f_X9_layChoice (N : Nat) (x1 : Int32) (σ : ZM) : Option (Int32 × ZM) :=
  f_X9_layChoice_7 N N x1 (1 : Int32) (3 : Int32) σ
set_option maxRecDepth 100000 in
theorem ok_X9_layChoice {G : ZG} (hG : zSH G = shM) (N : Nat) {d : Nat} (hd : 0 ≤ d) {x1 : Int32} {σ : ZM} {res : Int32 × ZM} (h : f_X9_layChoice N x1 σ = some res) : zCt G d MX9_layChoice [.ref (zad G 0), .int x1] σ (some (.int res.1)) res.2 := by
  refine zct_of (by decide) (Nat.le_of_ble_eq_true rfl) (lv := [(0, .ref (zad G 0)), (1, .int x1)]) rfl ?_
  unfold f_X9_layChoice at h
  refine zf_iload_n 1 (q := 1) (j := 1) rfl dX9_layChoice_0 rfl rfl ?_
  refine zf_istore_n (q := 2) (y := x1) (i := 2) (lv1 := [(2, .int x1), (0, .ref (zad G 0)), (1, .int x1)]) rfl dX9_layChoice_1 rfl (by decide) rfl rfl ?_
  refine zf_iconst (q := 3) rfl dX9_layChoice_2 ic1 ?_
  refine zf_istore_n (q := 4) (y := (1 : Int32)) (i := 3) (lv1 := [(3, .int (1 : Int32)), (2, .int x1), (0, .ref (zad G 0)), (1, .int x1)]) rfl dX9_layChoice_3 rfl (by decide) rfl rfl ?_
  refine zf_iconst (q := 5) rfl dX9_layChoice_4 ic3 ?_
  refine zf_istore (q := 7) (y := (3 : Int32)) (i := 4) (lv1 := [(4, .int (3 : Int32)), (3, .int (1 : Int32)), (2, .int x1), (0, .ref (zad G 0)), (1, .int x1)]) rfl dX9_layChoice_5 (by decide) rfl rfl ?_
  exact zf_sub [3, 2, 1, 0] rfl (ok_X9_layChoice_7 hG N _ _ _ _ _ h)
-- ===== X9_measure: NearCopiesModel.measure(I)Z
def f_X9_measure_114 (N : Nat) (y0 : Int64) (σ : ZM) : Option (Int32 × ZM) :=
  (zpJ σ 0 52 y0).bind fun s1 =>
  some ((1 : Int32), s1)
set_option maxRecDepth 100000 in
theorem ok_X9_measure_114 {G : ZG} (hG : zSH G = shM) (N : Nat) {d : Nat} (hd : 4 ≤ d) {res : Int32 × ZM} {y0 : Int64} {σ : ZM} (h : f_X9_measure_114 N y0 σ = some res) : zF G MX9_measure (d + 1) 114 [] [.long y0, .ref (zad G 0)] σ (some (.int res.1)) res.2 := by
  unfold f_X9_measure_114 at h
  obtain ⟨s1, es1, h⟩ := zb h
  refine zf_putJ (q := 117) rfl dX9_measure_114 lp_RX9_281 (sm0 hG) rfl es1 ?_
  refine zf_iconst (q := 118) rfl dX9_measure_117 ic1 ?_
  cases h
  exact zf_zreturn dX9_measure_118 rfl (Or.inr rfl)
def f_X9_measure_93 (N : Nat) (x3 : Int64) (y0 : Int32) (σ : ZM) : Option (Int32 × ZM) :=
  (zpI σ 0 51 y0).bind fun s2 =>
  if (lg_cmp x3 (s2.2 0 52)) ≤ 0 then
  (f_X9_measure_114 N (s2.2 0 52) s2)
  else
  (f_X9_measure_114 N x3 s2)
set_option maxRecDepth 100000 in
theorem ok_X9_measure_93 {G : ZG} (hG : zSH G = shM) (N : Nat) {d : Nat} (hd : 4 ≤ d) {res : Int32 × ZM} {x3 : Int64} {y0 : Int32} {σ : ZM} (h : f_X9_measure_93 N x3 y0 σ = some res) : zF G MX9_measure (d + 1) 93 [(0, .ref (zad G 0)), (3, .long x3)] [.int y0, .ref (zad G 0)] σ (some (.int res.1)) res.2 := by
  unfold f_X9_measure_93 at h
  obtain ⟨s2, es2, h⟩ := zb h
  refine zf_putI (q := 96) rfl dX9_measure_93 lp_RX9_278 (sm0 hG) rfl es2 ?_
  refine zf_aload_n 0 (q := 97) (j := 0) rfl dX9_measure_96 rfl rfl ?_
  refine zf_lload_n 1 (q := 98) (j := 3) rfl dX9_measure_97 rfl rfl ?_
  refine zf_aload_n 0 (q := 99) (j := 0) rfl dX9_measure_98 rfl rfl ?_
  refine zf_getJ (q := 102) rfl dX9_measure_99 lf_RX9_281 (sm0 hG) rfl ?_
  refine zf_lcmp (q := 103) rfl dX9_measure_102 ?_
  refine zf_if_le (q := 106) (tgt := 110) rfl (by decide) dX9_measure_103 (fun hc103 => ?_) (fun hc103 => ?_)
  · replace h := (zi h).1 hc103
    refine zf_aload_n 0 (q := 111) (j := 0) rfl dX9_measure_110 rfl rfl ?_
    refine zf_getJ (q := 114) rfl dX9_measure_111 lf_RX9_281 (sm0 hG) rfl ?_
    exact zf_sub [] rfl (ok_X9_measure_114 hG N hd h)
  · replace h := (zi h).2 hc103
    refine zf_lload_n 1 (q := 107) (j := 3) rfl dX9_measure_106 rfl rfl ?_
    refine zf_goto (tgt := 114) (by decide) dX9_measure_107 ?_
    exact zf_sub [] rfl (ok_X9_measure_114 hG N hd h)
def f_X9_measure_50 (N : Nat) (rec6 : Int32 → Int32 → ZM → Option (Int32 × ZM)) (x1 : Int32) (x2 : Int32) (y0 : Int32) (y1 : Int32) (σ : ZM) : Option (Int32 × ZM) :=
  (zasZ σ 15 4 y1 y0).bind fun s3 =>
  (some (x2 + (1 : Int32))).bind fun v4 =>
  rec6 x1 v4 s3
set_option maxRecDepth 100000 in
theorem ok_X9_measure_50 {G : ZG} (hG : zSH G = shM) (N : Nat) {d : Nat} (hd : 4 ≤ d) {rec6 : Int32 → Int32 → ZM → Option (Int32 × ZM)} {res : Int32 × ZM} (hr6 : ∀ (x1 : Int32) (x2 : Int32) (σ : ZM), rec6 x1 x2 σ = some res → zF G MX9_measure (d + 1) 6 [(0, .ref (zad G 0)), (1, .int x1), (2, .int x2)] [] σ (some (.int res.1)) res.2) {x1 : Int32} {x2 : Int32} {y0 : Int32} {y1 : Int32} {σ : ZM} (h : f_X9_measure_50 N rec6 x1 x2 y0 y1 σ = some res) : zF G MX9_measure (d + 1) 50 [(0, .ref (zad G 0)), (1, .int x1), (2, .int x2)] [.int y0, .int y1, .ref (zad G 15)] σ (some (.int res.1)) res.2 := by
  unfold f_X9_measure_50 at h
  obtain ⟨s3, es3, h⟩ := zb h
  refine zf_zast (q := 51) rfl dX9_measure_50 (sm15 hG) es3 ?_
  obtain ⟨v4, ev4, h⟩ := zb h
  refine zf_iinc 2 (q := 54) (v := v4) (lv1 := [(2, .int v4), (0, .ref (zad G 0)), (1, .int x1)]) rfl dX9_measure_51 rfl (by rw [ic1]; exact ev4) (by decide) rfl ?_
  refine zf_goto (tgt := 6) (by decide) dX9_measure_54 ?_
  exact zf_sub [1, 2, 0] rfl (hr6 _ _ _ h)
def f_X9_measure_49 (N : Nat) (rec6 : Int32 → Int32 → ZM → Option (Int32 × ZM)) (x1 : Int32) (x2 : Int32) (y0 : Int32) (σ : ZM) : Option (Int32 × ZM) :=
  f_X9_measure_50 N rec6 x1 x2 (0 : Int32) y0 σ
set_option maxRecDepth 100000 in
theorem ok_X9_measure_49 {G : ZG} (hG : zSH G = shM) (N : Nat) {d : Nat} (hd : 4 ≤ d) {rec6 : Int32 → Int32 → ZM → Option (Int32 × ZM)} {res : Int32 × ZM} (hr6 : ∀ (x1 : Int32) (x2 : Int32) (σ : ZM), rec6 x1 x2 σ = some res → zF G MX9_measure (d + 1) 6 [(0, .ref (zad G 0)), (1, .int x1), (2, .int x2)] [] σ (some (.int res.1)) res.2) {x1 : Int32} {x2 : Int32} {y0 : Int32} {σ : ZM} (h : f_X9_measure_49 N rec6 x1 x2 y0 σ = some res) : zF G MX9_measure (d + 1) 49 [(0, .ref (zad G 0)), (1, .int x1), (2, .int x2)] [.int y0, .ref (zad G 15)] σ (some (.int res.1)) res.2 := by
  unfold f_X9_measure_49 at h
  refine zf_iconst (q := 50) rfl dX9_measure_49 ic0 ?_
  exact zf_sub [0, 1, 2] rfl (ok_X9_measure_50 hG N hd hr6 h)
def b_X9_measure_6 (N : Nat) (rec6 : Int32 → Int32 → ZM → Option (Int32 × ZM)) (x1 : Int32) (x2 : Int32) (σ : ZM) : Option (Int32 × ZM) :=
  if (σ.1 0 5) ≤ x2 then
  (zbd (f_X9_settle N σ) fun r5 s6 =>
  if r5 = 0 then
  (some ((0 : Int32), s6))
  else
  (zbd (f_X9_excessOf N s6) fun r7 s8 =>
  zbd (f_X9_sumOf N s8) fun r9 s10 =>
  if r7 ≤ (s10.1 0 51) then
  (f_X9_measure_93 N r9 (s10.1 0 51) s10)
  else
  (f_X9_measure_93 N r9 r7 s10)))
  else
  ((zald σ 37 4 x2).bind fun v11 =>
  (zast σ 12 4 x2 v11).bind fun s12 =>
  (zald s12 6 4 x2).bind fun v13 =>
  if v13 = 0 then
  (f_X9_measure_49 N rec6 x1 x2 x2 s12)
  else
  (if x2 = x1 then
  (f_X9_measure_49 N rec6 x1 x2 x2 s12)
  else
  (f_X9_measure_50 N rec6 x1 x2 (1 : Int32) x2 s12)))
set_option maxRecDepth 100000 in
theorem ok_b_X9_measure_6 {G : ZG} (hG : zSH G = shM) (N : Nat) {d : Nat} (hd : 4 ≤ d) {rec6 : Int32 → Int32 → ZM → Option (Int32 × ZM)} {res : Int32 × ZM} (hr6 : ∀ (x1 : Int32) (x2 : Int32) (σ : ZM), rec6 x1 x2 σ = some res → zF G MX9_measure (d + 1) 6 [(0, .ref (zad G 0)), (1, .int x1), (2, .int x2)] [] σ (some (.int res.1)) res.2) {x1 : Int32} {x2 : Int32} {σ : ZM} (h : b_X9_measure_6 N rec6 x1 x2 σ = some res) : zF G MX9_measure (d + 1) 6 [(0, .ref (zad G 0)), (1, .int x1), (2, .int x2)] [] σ (some (.int res.1)) res.2 := by
  unfold b_X9_measure_6 at h
  refine zf_iload_n 2 (q := 7) (j := 2) rfl dX9_measure_6 rfl rfl ?_
  refine zf_aload_n 0 (q := 8) (j := 0) rfl dX9_measure_7 rfl rfl ?_
  refine zf_getI (q := 11) rfl dX9_measure_8 lf_RX9_140 (sm0 hG) rfl ?_
  refine zf_icmp_ge (q := 14) (tgt := 57) rfl (by decide) dX9_measure_11 (fun hc11 => ?_) (fun hc11 => ?_)
  · replace h := (zi h).1 hc11
    refine zf_aload_n 0 (q := 58) (j := 0) rfl dX9_measure_57 rfl rfl ?_
    obtain ⟨r5, s6, es6, h⟩ := zc h
    refine zf_callV (q := 61) (As := []) (rest := []) (st1 := [.int r5]) rfl dX9_measure_58 lv_RX9_212 (sm0 hG) rfl rfl (Nat.le_of_ble_eq_true rfl) (ok_X9_settle hG N (Nat.le_trans (by decide) hd) es6) rfl ?_
    refine zf_if_ne (q := 64) (tgt := 66) rfl (by decide) dX9_measure_61 (fun hc61 => ?_) (fun hc61 => ?_)
    · replace h := (zi h).2 hc61
      refine zf_aload_n 0 (q := 67) (j := 0) rfl dX9_measure_66 rfl rfl ?_
      obtain ⟨r7, s8, es8, h⟩ := zc h
      refine zf_callV (q := 70) (As := []) (rest := []) (st1 := [.int r7]) rfl dX9_measure_67 lv_RX9_228 (sm0 hG) rfl rfl (Nat.le_of_ble_eq_true rfl) (ok_X9_excessOf hG N (Nat.le_trans (by decide) hd) es8) rfl ?_
      refine zf_istore_n (q := 71) (y := r7) (i := 2) (lv1 := [(2, .int r7), (0, .ref (zad G 0)), (1, .int x1)]) rfl dX9_measure_70 rfl (by decide) rfl rfl ?_
      refine zf_aload_n 1 (q := 72) (j := 0) rfl dX9_measure_71 rfl rfl ?_
      obtain ⟨r9, s10, es10, h⟩ := zc h
      refine zf_callV (q := 75) (As := []) (rest := []) (st1 := [.long r9]) rfl dX9_measure_72 lv_RX9_232 (sm0 hG) rfl rfl (Nat.le_of_ble_eq_true rfl) (ok_X9_sumOf hG N (Nat.le_trans (by decide) hd) es10) rfl ?_
      refine zf_lstore_n (q := 76) (y := r9) (i := 3) (lv1 := [(3, .long r9), (2, .int r7), (0, .ref (zad G 0)), (1, .int x1)]) rfl dX9_measure_75 rfl (by decide) rfl rfl ?_
      refine zf_aload_n 2 (q := 77) (j := 0) rfl dX9_measure_76 rfl rfl ?_
      refine zf_iload_n 1 (q := 78) (j := 2) rfl dX9_measure_77 rfl rfl ?_
      refine zf_aload_n 2 (q := 79) (j := 0) rfl dX9_measure_78 rfl rfl ?_
      refine zf_getI (q := 82) rfl dX9_measure_79 lf_RX9_278 (sm0 hG) rfl ?_
      refine zf_icmp_le (q := 85) (tgt := 89) rfl (by decide) dX9_measure_82 (fun hc82 => ?_) (fun hc82 => ?_)
      · replace h := (zi h).1 hc82
        refine zf_aload_n 2 (q := 90) (j := 0) rfl dX9_measure_89 rfl rfl ?_
        refine zf_getI (q := 93) rfl dX9_measure_90 lf_RX9_278 (sm0 hG) rfl ?_
        exact zf_sub [2, 0] rfl (ok_X9_measure_93 hG N hd h)
      · replace h := (zi h).2 hc82
        refine zf_iload_n 1 (q := 86) (j := 2) rfl dX9_measure_85 rfl rfl ?_
        refine zf_goto (tgt := 93) (by decide) dX9_measure_86 ?_
        exact zf_sub [2, 0] rfl (ok_X9_measure_93 hG N hd h)
    · replace h := (zi h).1 hc61
      refine zf_iconst (q := 65) rfl dX9_measure_64 ic0 ?_
      cases h
      exact zf_zreturn dX9_measure_65 rfl (Or.inl rfl)
  · replace h := (zi h).2 hc11
    refine zf_aload_n 0 (q := 15) (j := 0) rfl dX9_measure_14 rfl rfl ?_
    refine zf_getR (q := 18) rfl dX9_measure_15 lf_RX9_44 (sm0 hG) rfl ?_
    refine zf_iload_n 2 (q := 19) (j := 2) rfl dX9_measure_18 rfl rfl ?_
    refine zf_aload_n 0 (q := 20) (j := 0) rfl dX9_measure_19 rfl rfl ?_
    refine zf_getR (q := 23) rfl dX9_measure_20 lf_RX9_120 (sm0 hG) rfl ?_
    refine zf_iload_n 2 (q := 24) (j := 2) rfl dX9_measure_23 rfl rfl ?_
    obtain ⟨v11, ev11, h⟩ := zb h
    refine zf_iald (q := 25) rfl dX9_measure_24 (sm37 hG) ev11 ?_
    obtain ⟨s12, es12, h⟩ := zb h
    refine zf_iast (q := 26) rfl dX9_measure_25 (sm12 hG) es12 ?_
    refine zf_aload_n 0 (q := 27) (j := 0) rfl dX9_measure_26 rfl rfl ?_
    refine zf_getR (q := 30) rfl dX9_measure_27 lf_RX9_53 (sm0 hG) rfl ?_
    refine zf_iload_n 2 (q := 31) (j := 2) rfl dX9_measure_30 rfl rfl ?_
    refine zf_aload_n 0 (q := 32) (j := 0) rfl dX9_measure_31 rfl rfl ?_
    refine zf_getR (q := 35) rfl dX9_measure_32 lf_RX9_25 (sm0 hG) rfl ?_
    refine zf_iload_n 2 (q := 36) (j := 2) rfl dX9_measure_35 rfl rfl ?_
    obtain ⟨v13, ev13, h⟩ := zb h
    refine zf_zald (q := 37) rfl dX9_measure_36 (sm6 hG) ev13 ?_
    refine zf_if_eq (q := 40) (tgt := 49) rfl (by decide) dX9_measure_37 (fun hc37 => ?_) (fun hc37 => ?_)
    · replace h := (zi h).1 hc37
      exact zf_sub [0, 1, 2] rfl (ok_X9_measure_49 hG N hd hr6 h)
    · replace h := (zi h).2 hc37
      refine zf_iload_n 2 (q := 41) (j := 2) rfl dX9_measure_40 rfl rfl ?_
      refine zf_iload_n 1 (q := 42) (j := 1) rfl dX9_measure_41 rfl rfl ?_
      refine zf_icmp_eq (q := 45) (tgt := 49) rfl (by decide) dX9_measure_42 (fun hc42 => ?_) (fun hc42 => ?_)
      · replace h := (zi h).1 hc42
        exact zf_sub [0, 1, 2] rfl (ok_X9_measure_49 hG N hd hr6 h)
      · replace h := (zi h).2 hc42
        refine zf_iconst (q := 46) rfl dX9_measure_45 ic1 ?_
        refine zf_goto (tgt := 50) (by decide) dX9_measure_46 ?_
        exact zf_sub [0, 1, 2] rfl (ok_X9_measure_50 hG N hd hr6 h)
def f_X9_measure_6 (N : Nat) : Nat → Int32 → Int32 → ZM → Option (Int32 × ZM)
  | 0, _, _, _ => none
  | n + 1, x1, x2, σ => b_X9_measure_6 N (f_X9_measure_6 N n) x1 x2 σ
theorem ok_X9_measure_6 {G : ZG} (hG : zSH G = shM) (N : Nat) {d : Nat} (hd : 4 ≤ d) {res : Int32 × ZM} : ∀ (n : Nat) (x1 : Int32) (x2 : Int32) (σ : ZM), f_X9_measure_6 N n x1 x2 σ = some res → zF G MX9_measure (d + 1) 6 [(0, .ref (zad G 0)), (1, .int x1), (2, .int x2)] [] σ (some (.int res.1)) res.2 := by
  intro n
  induction n with
  | zero => intro x1 x2 σ h; exact absurd h (by simp [f_X9_measure_6])
  | succ n ih => intro x1 x2 σ h; rw [f_X9_measure_6] at h; exact ok_b_X9_measure_6 hG N hd ih h
def f_X9_measure (N : Nat) (x1 : Int32) (σ : ZM) : Option (Int32 × ZM) :=
  zbd (f_X9_askNow N σ) fun r14 s15 =>
  f_X9_measure_6 N N x1 (0 : Int32) s15
set_option maxRecDepth 100000 in
theorem ok_X9_measure {G : ZG} (hG : zSH G = shM) (N : Nat) {d : Nat} (hd : 5 ≤ d) {x1 : Int32} {σ : ZM} {res : Int32 × ZM} (h : f_X9_measure N x1 σ = some res) : zCt G d MX9_measure [.ref (zad G 0), .int x1] σ (some (.int res.1)) res.2 := by
  obtain ⟨d, rfl⟩ : ∃ k, d = k + 1 := ⟨d - 1, by omega⟩
  have hd : 4 ≤ d := by omega
  refine zct_of (by decide) (Nat.le_of_ble_eq_true rfl) (lv := [(0, .ref (zad G 0)), (1, .int x1)]) rfl ?_
  unfold f_X9_measure at h
  refine zf_aload_n 0 (q := 1) (j := 0) rfl dX9_measure_0 rfl rfl ?_
  obtain ⟨r14, s15, es15, h⟩ := zc h
  refine zf_callV (q := 4) (As := []) (rest := []) (st1 := []) rfl dX9_measure_1 lv_RX9_209 (sm0 hG) rfl rfl (Nat.le_of_ble_eq_true rfl) (ok_X9_askNow hG N (Nat.le_trans (by decide) hd) es15) rfl ?_
  refine zf_iconst (q := 5) rfl dX9_measure_4 ic0 ?_
  refine zf_istore_n (q := 6) (y := (0 : Int32)) (i := 2) (lv1 := [(2, .int (0 : Int32)), (0, .ref (zad G 0)), (1, .int x1)]) rfl dX9_measure_5 rfl (by decide) rfl rfl ?_
  exact zf_sub [1, 2, 0] rfl (ok_X9_measure_6 hG N hd _ _ _ _ h)
-- ===== X9_measureAll: NearCopiesModel.measureAll(Z)Z
def f_X9_measureAll_65 (N : Nat) (x2 : Int32) (σ : ZM) : Option (Int32 × ZM) :=
  zrz x2 σ
set_option maxRecDepth 100000 in
theorem ok_X9_measureAll_65 {G : ZG} (hG : zSH G = shM) (N : Nat) {d : Nat} (hd : 5 ≤ d) {res : Int32 × ZM} {x2 : Int32} {σ : ZM} (h : f_X9_measureAll_65 N x2 σ = some res) : zF G MX9_measureAll (d + 1) 65 [(2, .int x2)] [] σ (some (.int res.1)) res.2 := by
  unfold f_X9_measureAll_65 at h
  refine zf_iload_n 0 (q := 66) (j := 2) rfl dX9_measureAll_65 rfl rfl ?_
  obtain ⟨hz, rfl⟩ := zrz_ok h
  exact zf_zreturn dX9_measureAll_66 rfl hz
def f_X9_measureAll_58 (N : Nat) (rec20 : Int32 → Int32 → Int32 → ZM → Option (Int32 × ZM)) (x1 : Int32) (x3 : Int32) (y0 : Int32) (σ : ZM) : Option (Int32 × ZM) :=
  (some (x3 + (1 : Int32))).bind fun v1 =>
  rec20 x1 y0 v1 σ
set_option maxRecDepth 100000 in
theorem ok_X9_measureAll_58 {G : ZG} (hG : zSH G = shM) (N : Nat) {d : Nat} (hd : 5 ≤ d) {rec20 : Int32 → Int32 → Int32 → ZM → Option (Int32 × ZM)} {res : Int32 × ZM} (hr20 : ∀ (x1 : Int32) (x2 : Int32) (x3 : Int32) (σ : ZM), rec20 x1 x2 x3 σ = some res → zF G MX9_measureAll (d + 1) 20 [(0, .ref (zad G 0)), (1, .int x1), (2, .int x2), (3, .int x3)] [] σ (some (.int res.1)) res.2) {x1 : Int32} {x3 : Int32} {y0 : Int32} {σ : ZM} (h : f_X9_measureAll_58 N rec20 x1 x3 y0 σ = some res) : zF G MX9_measureAll (d + 1) 58 [(0, .ref (zad G 0)), (1, .int x1), (3, .int x3)] [.int y0] σ (some (.int res.1)) res.2 := by
  unfold f_X9_measureAll_58 at h
  refine zf_istore_n (q := 59) (y := y0) (i := 2) (lv1 := [(2, .int y0), (0, .ref (zad G 0)), (1, .int x1), (3, .int x3)]) rfl dX9_measureAll_58 rfl (by decide) rfl rfl ?_
  obtain ⟨v1, ev1, h⟩ := zb h
  refine zf_iinc 3 (q := 62) (v := v1) (lv1 := [(3, .int v1), (2, .int y0), (0, .ref (zad G 0)), (1, .int x1)]) rfl dX9_measureAll_59 rfl (by rw [ic1]; exact ev1) (by decide) rfl ?_
  refine zf_goto (tgt := 20) (by decide) dX9_measureAll_62 ?_
  exact zf_sub [2, 3, 1, 0] rfl (hr20 _ _ _ _ h)
def f_X9_measureAll_53 (N : Nat) (rec20 : Int32 → Int32 → Int32 → ZM → Option (Int32 × ZM)) (x1 : Int32) (x3 : Int32) (σ : ZM) : Option (Int32 × ZM) :=
  f_X9_measureAll_58 N rec20 x1 x3 (1 : Int32) σ
set_option maxRecDepth 100000 in
theorem ok_X9_measureAll_53 {G : ZG} (hG : zSH G = shM) (N : Nat) {d : Nat} (hd : 5 ≤ d) {rec20 : Int32 → Int32 → Int32 → ZM → Option (Int32 × ZM)} {res : Int32 × ZM} (hr20 : ∀ (x1 : Int32) (x2 : Int32) (x3 : Int32) (σ : ZM), rec20 x1 x2 x3 σ = some res → zF G MX9_measureAll (d + 1) 20 [(0, .ref (zad G 0)), (1, .int x1), (2, .int x2), (3, .int x3)] [] σ (some (.int res.1)) res.2) {x1 : Int32} {x3 : Int32} {σ : ZM} (h : f_X9_measureAll_53 N rec20 x1 x3 σ = some res) : zF G MX9_measureAll (d + 1) 53 [(0, .ref (zad G 0)), (1, .int x1), (3, .int x3)] [] σ (some (.int res.1)) res.2 := by
  unfold f_X9_measureAll_53 at h
  refine zf_iconst (q := 54) rfl dX9_measureAll_53 ic1 ?_
  refine zf_goto (tgt := 58) (by decide) dX9_measureAll_54 ?_
  exact zf_sub [0, 1, 2] rfl (ok_X9_measureAll_58 hG N hd hr20 h)
def b_X9_measureAll_20 (N : Nat) (rec20 : Int32 → Int32 → Int32 → ZM → Option (Int32 × ZM)) (x1 : Int32) (x2 : Int32) (x3 : Int32) (σ : ZM) : Option (Int32 × ZM) :=
  if (σ.1 0 5) ≤ x3 then
  (f_X9_measureAll_65 N x2 σ)
  else
  (if x1 = 0 then
  (f_X9_measureAll_65 N x2 σ)
  else
  (if x2 = 0 then
  (f_X9_measureAll_65 N x2 σ)
  else
  ((zald σ 6 4 x3).bind fun v2 =>
  if v2 = 0 then
  (f_X9_measureAll_53 N rec20 x1 x3 σ)
  else
  (zbd (f_X9_measure N x3 σ) fun r3 s4 =>
  if r3 = 0 then
  (f_X9_measureAll_58 N rec20 x1 x3 (0 : Int32) s4)
  else
  (f_X9_measureAll_53 N rec20 x1 x3 s4)))))
set_option maxRecDepth 100000 in
theorem ok_b_X9_measureAll_20 {G : ZG} (hG : zSH G = shM) (N : Nat) {d : Nat} (hd : 5 ≤ d) {rec20 : Int32 → Int32 → Int32 → ZM → Option (Int32 × ZM)} {res : Int32 × ZM} (hr20 : ∀ (x1 : Int32) (x2 : Int32) (x3 : Int32) (σ : ZM), rec20 x1 x2 x3 σ = some res → zF G MX9_measureAll (d + 1) 20 [(0, .ref (zad G 0)), (1, .int x1), (2, .int x2), (3, .int x3)] [] σ (some (.int res.1)) res.2) {x1 : Int32} {x2 : Int32} {x3 : Int32} {σ : ZM} (h : b_X9_measureAll_20 N rec20 x1 x2 x3 σ = some res) : zF G MX9_measureAll (d + 1) 20 [(0, .ref (zad G 0)), (1, .int x1), (2, .int x2), (3, .int x3)] [] σ (some (.int res.1)) res.2 := by
  unfold b_X9_measureAll_20 at h
  refine zf_iload_n 3 (q := 21) (j := 3) rfl dX9_measureAll_20 rfl rfl ?_
  refine zf_aload_n 0 (q := 22) (j := 0) rfl dX9_measureAll_21 rfl rfl ?_
  refine zf_getI (q := 25) rfl dX9_measureAll_22 lf_RX9_140 (sm0 hG) rfl ?_
  refine zf_icmp_ge (q := 28) (tgt := 65) rfl (by decide) dX9_measureAll_25 (fun hc25 => ?_) (fun hc25 => ?_)
  · replace h := (zi h).1 hc25
    exact zf_sub [2] rfl (ok_X9_measureAll_65 hG N hd h)
  · replace h := (zi h).2 hc25
    refine zf_iload_n 1 (q := 29) (j := 1) rfl dX9_measureAll_28 rfl rfl ?_
    refine zf_if_eq (q := 32) (tgt := 65) rfl (by decide) dX9_measureAll_29 (fun hc29 => ?_) (fun hc29 => ?_)
    · replace h := (zi h).1 hc29
      exact zf_sub [2] rfl (ok_X9_measureAll_65 hG N hd h)
    · replace h := (zi h).2 hc29
      refine zf_iload_n 2 (q := 33) (j := 2) rfl dX9_measureAll_32 rfl rfl ?_
      refine zf_if_eq (q := 36) (tgt := 65) rfl (by decide) dX9_measureAll_33 (fun hc33 => ?_) (fun hc33 => ?_)
      · replace h := (zi h).1 hc33
        exact zf_sub [2] rfl (ok_X9_measureAll_65 hG N hd h)
      · replace h := (zi h).2 hc33
        refine zf_aload_n 0 (q := 37) (j := 0) rfl dX9_measureAll_36 rfl rfl ?_
        refine zf_getR (q := 40) rfl dX9_measureAll_37 lf_RX9_25 (sm0 hG) rfl ?_
        refine zf_iload_n 3 (q := 41) (j := 3) rfl dX9_measureAll_40 rfl rfl ?_
        obtain ⟨v2, ev2, h⟩ := zb h
        refine zf_zald (q := 42) rfl dX9_measureAll_41 (sm6 hG) ev2 ?_
        refine zf_if_eq (q := 45) (tgt := 53) rfl (by decide) dX9_measureAll_42 (fun hc42 => ?_) (fun hc42 => ?_)
        · replace h := (zi h).1 hc42
          exact zf_sub [0, 1, 3] rfl (ok_X9_measureAll_53 hG N hd hr20 h)
        · replace h := (zi h).2 hc42
          refine zf_aload_n 0 (q := 46) (j := 0) rfl dX9_measureAll_45 rfl rfl ?_
          refine zf_iload_n 3 (q := 47) (j := 3) rfl dX9_measureAll_46 rfl rfl ?_
          obtain ⟨r3, s4, es4, h⟩ := zc h
          refine zf_callV (q := 50) (As := [.int x3]) (rest := []) (st1 := [.int r3]) rfl dX9_measureAll_47 lv_RX9_285 (sm0 hG) rfl rfl (Nat.le_of_ble_eq_true rfl) (ok_X9_measure hG N (Nat.le_trans (by decide) hd) es4) rfl ?_
          refine zf_if_eq (q := 53) (tgt := 57) rfl (by decide) dX9_measureAll_50 (fun hc50 => ?_) (fun hc50 => ?_)
          · replace h := (zi h).1 hc50
            refine zf_iconst (q := 58) rfl dX9_measureAll_57 ic0 ?_
            exact zf_sub [0, 1, 3] rfl (ok_X9_measureAll_58 hG N hd hr20 h)
          · replace h := (zi h).2 hc50
            exact zf_sub [0, 1, 3] rfl (ok_X9_measureAll_53 hG N hd hr20 h)
def f_X9_measureAll_20 (N : Nat) : Nat → Int32 → Int32 → Int32 → ZM → Option (Int32 × ZM)
  | 0, _, _, _, _ => none
  | n + 1, x1, x2, x3, σ => b_X9_measureAll_20 N (f_X9_measureAll_20 N n) x1 x2 x3 σ
theorem ok_X9_measureAll_20 {G : ZG} (hG : zSH G = shM) (N : Nat) {d : Nat} (hd : 5 ≤ d) {res : Int32 × ZM} : ∀ (n : Nat) (x1 : Int32) (x2 : Int32) (x3 : Int32) (σ : ZM), f_X9_measureAll_20 N n x1 x2 x3 σ = some res → zF G MX9_measureAll (d + 1) 20 [(0, .ref (zad G 0)), (1, .int x1), (2, .int x2), (3, .int x3)] [] σ (some (.int res.1)) res.2 := by
  intro n
  induction n with
  | zero => intro x1 x2 x3 σ h; exact absurd h (by simp [f_X9_measureAll_20])
  | succ n ih => intro x1 x2 x3 σ h; rw [f_X9_measureAll_20] at h; exact ok_b_X9_measureAll_20 hG N hd ih h
def f_X9_measureAll (N : Nat) (x1 : Int32) (σ : ZM) : Option (Int32 × ZM) :=
  (zpI σ 0 51 (-1 : Int32)).bind fun s5 =>
  (zpJ s5 0 52 (-1 : Int64)).bind fun s6 =>
  zbd (f_X9_measure N (4 : Int32) s6) fun r7 s8 =>
  f_X9_measureAll_20 N N x1 r7 (0 : Int32) s8
set_option maxRecDepth 100000 in
theorem ok_X9_measureAll {G : ZG} (hG : zSH G = shM) (N : Nat) {d : Nat} (hd : 6 ≤ d) {x1 : Int32} {σ : ZM} {res : Int32 × ZM} (h : f_X9_measureAll N x1 σ = some res) : zCt G d MX9_measureAll [.ref (zad G 0), .int x1] σ (some (.int res.1)) res.2 := by
  obtain ⟨d, rfl⟩ : ∃ k, d = k + 1 := ⟨d - 1, by omega⟩
  have hd : 5 ≤ d := by omega
  refine zct_of (by decide) (Nat.le_of_ble_eq_true rfl) (lv := [(0, .ref (zad G 0)), (1, .int x1)]) rfl ?_
  unfold f_X9_measureAll at h
  refine zf_aload_n 0 (q := 1) (j := 0) rfl dX9_measureAll_0 rfl rfl ?_
  refine zf_iconst (q := 2) rfl dX9_measureAll_1 icm1 ?_
  obtain ⟨s5, es5, h⟩ := zb h
  refine zf_putI (q := 5) rfl dX9_measureAll_2 lp_RX9_278 (sm0 hG) rfl es5 ?_
  refine zf_aload_n 0 (q := 6) (j := 0) rfl dX9_measureAll_5 rfl rfl ?_
  refine zf_ldc2 (q := 9) rfl dX9_measureAll_6 cl_RX9_265 ?_
  obtain ⟨s6, es6, h⟩ := zb h
  refine zf_putJ (q := 12) rfl dX9_measureAll_9 lp_RX9_281 (sm0 hG) rfl es6 ?_
  refine zf_aload_n 0 (q := 13) (j := 0) rfl dX9_measureAll_12 rfl rfl ?_
  refine zf_iconst (q := 14) rfl dX9_measureAll_13 ic4 ?_
  obtain ⟨r7, s8, es8, h⟩ := zc h
  refine zf_callV (q := 17) (As := [.int (4 : Int32)]) (rest := []) (st1 := [.int r7]) rfl dX9_measureAll_14 lv_RX9_285 (sm0 hG) rfl rfl (Nat.le_of_ble_eq_true rfl) (ok_X9_measure hG N (Nat.le_trans (by decide) hd) es8) rfl ?_
  refine zf_istore_n (q := 18) (y := r7) (i := 2) (lv1 := [(2, .int r7), (0, .ref (zad G 0)), (1, .int x1)]) rfl dX9_measureAll_17 rfl (by decide) rfl rfl ?_
  refine zf_iconst (q := 19) rfl dX9_measureAll_18 ic0 ?_
  refine zf_istore_n (q := 20) (y := (0 : Int32)) (i := 3) (lv1 := [(3, .int (0 : Int32)), (2, .int r7), (0, .ref (zad G 0)), (1, .int x1)]) rfl dX9_measureAll_19 rfl (by decide) rfl rfl ?_
  exact zf_sub [2, 3, 1, 0] rfl (ok_X9_measureAll_20 hG N hd _ _ _ _ _ h)
-- ===== X9_layBest: NearCopiesModel.layBest(Z)V
def f_X9_layBest_131 (N : Nat) (rec7 : Int32 → Int32 → ZM → Option (Unit × ZM)) (x1 : Int32) (x2 : Int32) (σ : ZM) : Option (Unit × ZM) :=
  (some (x2 + (1 : Int32))).bind fun v1 =>
  rec7 x1 v1 σ
set_option maxRecDepth 100000 in
theorem ok_X9_layBest_131 {G : ZG} (hG : zSH G = shM) (N : Nat) {d : Nat} (hd : 6 ≤ d) {rec7 : Int32 → Int32 → ZM → Option (Unit × ZM)} {res : Unit × ZM} (hr7 : ∀ (x1 : Int32) (x2 : Int32) (σ : ZM), rec7 x1 x2 σ = some res → zF G MX9_layBest (d + 1) 7 [(0, .ref (zad G 0)), (1, .int x1), (2, .int x2)] [] σ none res.2) {x1 : Int32} {x2 : Int32} {σ : ZM} (h : f_X9_layBest_131 N rec7 x1 x2 σ = some res) : zF G MX9_layBest (d + 1) 131 [(0, .ref (zad G 0)), (1, .int x1), (2, .int x2)] [] σ none res.2 := by
  unfold f_X9_layBest_131 at h
  obtain ⟨v1, ev1, h⟩ := zb h
  refine zf_iinc 2 (q := 134) (v := v1) (lv1 := [(2, .int v1), (0, .ref (zad G 0)), (1, .int x1)]) rfl dX9_layBest_131 rfl (by rw [ic1]; exact ev1) (by decide) rfl ?_
  refine zf_goto (tgt := 7) (by decide) dX9_layBest_134 ?_
  exact zf_sub [1, 2, 0] rfl (hr7 _ _ _ h)
def b_X9_layBest_105 (N : Nat) (rec7 : Int32 → Int32 → ZM → Option (Unit × ZM)) (rec105 : Int32 → Int32 → Int32 → ZM → Option (Unit × ZM)) (x1 : Int32) (x2 : Int32) (x4 : Int32) (σ : ZM) : Option (Unit × ZM) :=
  if (4 : Int32) ≤ x4 then
  (f_X9_layBest_131 N rec7 x1 x2 σ)
  else
  ((zald σ 37 4 x4).bind fun v2 =>
  (zast σ 38 4 x4 v2).bind fun s3 =>
  (some (x4 + (1 : Int32))).bind fun v4 =>
  rec105 x1 x2 v4 s3)
set_option maxRecDepth 100000 in
theorem ok_b_X9_layBest_105 {G : ZG} (hG : zSH G = shM) (N : Nat) {d : Nat} (hd : 6 ≤ d) {rec7 : Int32 → Int32 → ZM → Option (Unit × ZM)} {rec105 : Int32 → Int32 → Int32 → ZM → Option (Unit × ZM)} {res : Unit × ZM} (hr7 : ∀ (x1 : Int32) (x2 : Int32) (σ : ZM), rec7 x1 x2 σ = some res → zF G MX9_layBest (d + 1) 7 [(0, .ref (zad G 0)), (1, .int x1), (2, .int x2)] [] σ none res.2) (hr105 : ∀ (x1 : Int32) (x2 : Int32) (x4 : Int32) (σ : ZM), rec105 x1 x2 x4 σ = some res → zF G MX9_layBest (d + 1) 105 [(0, .ref (zad G 0)), (1, .int x1), (2, .int x2), (4, .int x4)] [] σ none res.2) {x1 : Int32} {x2 : Int32} {x4 : Int32} {σ : ZM} (h : b_X9_layBest_105 N rec7 rec105 x1 x2 x4 σ = some res) : zF G MX9_layBest (d + 1) 105 [(0, .ref (zad G 0)), (1, .int x1), (2, .int x2), (4, .int x4)] [] σ none res.2 := by
  unfold b_X9_layBest_105 at h
  refine zf_iload 3 (q := 107) rfl dX9_layBest_105 rfl ?_
  refine zf_iconst (q := 108) rfl dX9_layBest_107 ic4 ?_
  refine zf_icmp_ge (q := 111) (tgt := 131) rfl (by decide) dX9_layBest_108 (fun hc108 => ?_) (fun hc108 => ?_)
  · replace h := (zi h).1 hc108
    exact zf_sub [0, 1, 2] rfl (ok_X9_layBest_131 hG N hd hr7 h)
  · replace h := (zi h).2 hc108
    refine zf_aload_n 0 (q := 112) (j := 0) rfl dX9_layBest_111 rfl rfl ?_
    refine zf_getR (q := 115) rfl dX9_layBest_112 lf_RX9_123 (sm0 hG) rfl ?_
    refine zf_iload 3 (q := 117) rfl dX9_layBest_115 rfl ?_
    refine zf_aload_n 0 (q := 118) (j := 0) rfl dX9_layBest_117 rfl rfl ?_
    refine zf_getR (q := 121) rfl dX9_layBest_118 lf_RX9_120 (sm0 hG) rfl ?_
    refine zf_iload 3 (q := 123) rfl dX9_layBest_121 rfl ?_
    obtain ⟨v2, ev2, h⟩ := zb h
    refine zf_iald (q := 124) rfl dX9_layBest_123 (sm37 hG) ev2 ?_
    obtain ⟨s3, es3, h⟩ := zb h
    refine zf_iast (q := 125) rfl dX9_layBest_124 (sm38 hG) es3 ?_
    obtain ⟨v4, ev4, h⟩ := zb h
    refine zf_iinc 3 (q := 128) (v := v4) (lv1 := [(4, .int v4), (0, .ref (zad G 0)), (1, .int x1), (2, .int x2)]) rfl dX9_layBest_125 rfl (by rw [ic1]; exact ev4) (by decide) rfl ?_
    refine zf_goto (tgt := 105) (by decide) dX9_layBest_128 ?_
    exact zf_sub [1, 2, 3, 0] rfl (hr105 _ _ _ _ h)
def f_X9_layBest_105 (N : Nat) (rec7 : Int32 → Int32 → ZM → Option (Unit × ZM)) : Nat → Int32 → Int32 → Int32 → ZM → Option (Unit × ZM)
  | 0, _, _, _, _ => none
  | n + 1, x1, x2, x4, σ => b_X9_layBest_105 N rec7 (f_X9_layBest_105 N rec7 n) x1 x2 x4 σ
theorem ok_X9_layBest_105 {G : ZG} (hG : zSH G = shM) (N : Nat) {d : Nat} (hd : 6 ≤ d) {rec7 : Int32 → Int32 → ZM → Option (Unit × ZM)} {res : Unit × ZM} (hr7 : ∀ (x1 : Int32) (x2 : Int32) (σ : ZM), rec7 x1 x2 σ = some res → zF G MX9_layBest (d + 1) 7 [(0, .ref (zad G 0)), (1, .int x1), (2, .int x2)] [] σ none res.2) : ∀ (n : Nat) (x1 : Int32) (x2 : Int32) (x4 : Int32) (σ : ZM), f_X9_layBest_105 N rec7 n x1 x2 x4 σ = some res → zF G MX9_layBest (d + 1) 105 [(0, .ref (zad G 0)), (1, .int x1), (2, .int x2), (4, .int x4)] [] σ none res.2 := by
  intro n
  induction n with
  | zero => intro x1 x2 x4 σ h; exact absurd h (by simp [f_X9_layBest_105])
  | succ n ih => intro x1 x2 x4 σ h; rw [f_X9_layBest_105] at h; exact ok_b_X9_layBest_105 hG N hd hr7 ih h
def f_X9_layBest_76 (N : Nat) (rec7 : Int32 → Int32 → ZM → Option (Unit × ZM)) (x1 : Int32) (x2 : Int32) (y0 : Int32) (σ : ZM) : Option (Unit × ZM) :=
  if y0 = 0 then
  (f_X9_layBest_131 N rec7 x1 x2 σ)
  else
  ((zpZ σ 0 49 (1 : Int32)).bind fun s5 =>
  (zpI s5 0 47 (s5.1 0 51)).bind fun s6 =>
  (zpJ s6 0 48 (s6.2 0 52)).bind fun s7 =>
  f_X9_layBest_105 N rec7 N x1 x2 (0 : Int32) s7)
set_option maxRecDepth 100000 in
theorem ok_X9_layBest_76 {G : ZG} (hG : zSH G = shM) (N : Nat) {d : Nat} (hd : 6 ≤ d) {rec7 : Int32 → Int32 → ZM → Option (Unit × ZM)} {res : Unit × ZM} (hr7 : ∀ (x1 : Int32) (x2 : Int32) (σ : ZM), rec7 x1 x2 σ = some res → zF G MX9_layBest (d + 1) 7 [(0, .ref (zad G 0)), (1, .int x1), (2, .int x2)] [] σ none res.2) {x1 : Int32} {x2 : Int32} {y0 : Int32} {σ : ZM} (h : f_X9_layBest_76 N rec7 x1 x2 y0 σ = some res) : zF G MX9_layBest (d + 1) 76 [(0, .ref (zad G 0)), (1, .int x1), (2, .int x2)] [.int y0] σ none res.2 := by
  unfold f_X9_layBest_76 at h
  refine zf_istore_n (q := 77) (y := y0) (i := 3) (lv1 := [(3, .int y0), (0, .ref (zad G 0)), (1, .int x1), (2, .int x2)]) rfl dX9_layBest_76 rfl (by decide) rfl rfl ?_
  refine zf_iload_n 0 (q := 78) (j := 3) rfl dX9_layBest_77 rfl rfl ?_
  refine zf_if_eq (q := 81) (tgt := 131) rfl (by decide) dX9_layBest_78 (fun hc78 => ?_) (fun hc78 => ?_)
  · replace h := (zi h).1 hc78
    exact zf_sub [1, 2, 3] rfl (ok_X9_layBest_131 hG N hd hr7 h)
  · replace h := (zi h).2 hc78
    refine zf_aload_n 1 (q := 82) (j := 0) rfl dX9_layBest_81 rfl rfl ?_
    refine zf_iconst (q := 83) rfl dX9_layBest_82 ic1 ?_
    obtain ⟨s5, es5, h⟩ := zb h
    refine zf_putZ (q := 86) rfl dX9_layBest_83 lp_RX9_288 (sm0 hG) rfl es5 ?_
    refine zf_aload_n 1 (q := 87) (j := 0) rfl dX9_layBest_86 rfl rfl ?_
    refine zf_aload_n 1 (q := 88) (j := 0) rfl dX9_layBest_87 rfl rfl ?_
    refine zf_getI (q := 91) rfl dX9_layBest_88 lf_RX9_278 (sm0 hG) rfl ?_
    obtain ⟨s6, es6, h⟩ := zb h
    refine zf_putI (q := 94) rfl dX9_layBest_91 lp_RX9_298 (sm0 hG) rfl es6 ?_
    refine zf_aload_n 1 (q := 95) (j := 0) rfl dX9_layBest_94 rfl rfl ?_
    refine zf_aload_n 1 (q := 96) (j := 0) rfl dX9_layBest_95 rfl rfl ?_
    refine zf_getJ (q := 99) rfl dX9_layBest_96 lf_RX9_281 (sm0 hG) rfl ?_
    obtain ⟨s7, es7, h⟩ := zb h
    refine zf_putJ (q := 102) rfl dX9_layBest_99 lp_RX9_301 (sm0 hG) rfl es7 ?_
    refine zf_iconst (q := 103) rfl dX9_layBest_102 ic0 ?_
    refine zf_istore (q := 105) (y := (0 : Int32)) (i := 4) (lv1 := [(4, .int (0 : Int32)), (3, .int y0), (0, .ref (zad G 0)), (1, .int x1), (2, .int x2)]) rfl dX9_layBest_103 (by decide) rfl rfl ?_
    exact zf_sub [2, 3, 4, 0] rfl (ok_X9_layBest_105 hG N hd hr7 _ _ _ _ _ h)
def f_X9_layBest_75 (N : Nat) (rec7 : Int32 → Int32 → ZM → Option (Unit × ZM)) (x1 : Int32) (x2 : Int32) (σ : ZM) : Option (Unit × ZM) :=
  f_X9_layBest_76 N rec7 x1 x2 (0 : Int32) σ
set_option maxRecDepth 100000 in
theorem ok_X9_layBest_75 {G : ZG} (hG : zSH G = shM) (N : Nat) {d : Nat} (hd : 6 ≤ d) {rec7 : Int32 → Int32 → ZM → Option (Unit × ZM)} {res : Unit × ZM} (hr7 : ∀ (x1 : Int32) (x2 : Int32) (σ : ZM), rec7 x1 x2 σ = some res → zF G MX9_layBest (d + 1) 7 [(0, .ref (zad G 0)), (1, .int x1), (2, .int x2)] [] σ none res.2) {x1 : Int32} {x2 : Int32} {σ : ZM} (h : f_X9_layBest_75 N rec7 x1 x2 σ = some res) : zF G MX9_layBest (d + 1) 75 [(0, .ref (zad G 0)), (1, .int x1), (2, .int x2)] [] σ none res.2 := by
  unfold f_X9_layBest_75 at h
  refine zf_iconst (q := 76) rfl dX9_layBest_75 ic0 ?_
  exact zf_sub [0, 1, 2] rfl (ok_X9_layBest_76 hG N hd hr7 h)
def f_X9_layBest_71 (N : Nat) (rec7 : Int32 → Int32 → ZM → Option (Unit × ZM)) (x1 : Int32) (x2 : Int32) (σ : ZM) : Option (Unit × ZM) :=
  f_X9_layBest_76 N rec7 x1 x2 (1 : Int32) σ
set_option maxRecDepth 100000 in
theorem ok_X9_layBest_71 {G : ZG} (hG : zSH G = shM) (N : Nat) {d : Nat} (hd : 6 ≤ d) {rec7 : Int32 → Int32 → ZM → Option (Unit × ZM)} {res : Unit × ZM} (hr7 : ∀ (x1 : Int32) (x2 : Int32) (σ : ZM), rec7 x1 x2 σ = some res → zF G MX9_layBest (d + 1) 7 [(0, .ref (zad G 0)), (1, .int x1), (2, .int x2)] [] σ none res.2) {x1 : Int32} {x2 : Int32} {σ : ZM} (h : f_X9_layBest_71 N rec7 x1 x2 σ = some res) : zF G MX9_layBest (d + 1) 71 [(0, .ref (zad G 0)), (1, .int x1), (2, .int x2)] [] σ none res.2 := by
  unfold f_X9_layBest_71 at h
  refine zf_iconst (q := 72) rfl dX9_layBest_71 ic1 ?_
  refine zf_goto (tgt := 76) (by decide) dX9_layBest_72 ?_
  exact zf_sub [0, 1, 2] rfl (ok_X9_layBest_76 hG N hd hr7 h)
def b_X9_layBest_7 (N : Nat) (rec7 : Int32 → Int32 → ZM → Option (Unit × ZM)) (x1 : Int32) (x2 : Int32) (σ : ZM) : Option (Unit × ZM) :=
  if (625 : Int32) ≤ x2 then
  (some ((), σ))
  else
  (zbd (f_X9_layChoice N x2 σ) fun r8 s9 =>
  if r8 = 0 then
  (f_X9_layBest_131 N rec7 x1 x2 s9)
  else
  (zbd (f_X9_measureAll N x1 s9) fun r10 s11 =>
  if r10 = 0 then
  (f_X9_layBest_131 N rec7 x1 x2 s11)
  else
  (if (s11.1 0 49) = 0 then
  (f_X9_layBest_71 N rec7 x1 x2 s11)
  else
  (if (s11.1 0 51) < (s11.1 0 47) then
  (f_X9_layBest_71 N rec7 x1 x2 s11)
  else
  (if (s11.1 0 51) = (s11.1 0 47) then
  (if 0 ≤ (lg_cmp (s11.2 0 52) (s11.2 0 48)) then
  (f_X9_layBest_75 N rec7 x1 x2 s11)
  else
  (f_X9_layBest_71 N rec7 x1 x2 s11))
  else
  (f_X9_layBest_75 N rec7 x1 x2 s11))))))
set_option maxRecDepth 100000 in
theorem ok_b_X9_layBest_7 {G : ZG} (hG : zSH G = shM) (N : Nat) {d : Nat} (hd : 6 ≤ d) {rec7 : Int32 → Int32 → ZM → Option (Unit × ZM)} {res : Unit × ZM} (hr7 : ∀ (x1 : Int32) (x2 : Int32) (σ : ZM), rec7 x1 x2 σ = some res → zF G MX9_layBest (d + 1) 7 [(0, .ref (zad G 0)), (1, .int x1), (2, .int x2)] [] σ none res.2) {x1 : Int32} {x2 : Int32} {σ : ZM} (h : b_X9_layBest_7 N rec7 x1 x2 σ = some res) : zF G MX9_layBest (d + 1) 7 [(0, .ref (zad G 0)), (1, .int x1), (2, .int x2)] [] σ none res.2 := by
  unfold b_X9_layBest_7 at h
  refine zf_iload_n 2 (q := 8) (j := 2) rfl dX9_layBest_7 rfl rfl ?_
  refine zf_sipush (q := 11) rfl dX9_layBest_8 sp625 ?_
  refine zf_icmp_ge (q := 14) (tgt := 137) rfl (by decide) dX9_layBest_11 (fun hc11 => ?_) (fun hc11 => ?_)
  · replace h := (zi h).1 hc11
    cases h
    exact zf_return dX9_layBest_137 rfl
  · replace h := (zi h).2 hc11
    refine zf_aload_n 0 (q := 15) (j := 0) rfl dX9_layBest_14 rfl rfl ?_
    refine zf_iload_n 2 (q := 16) (j := 2) rfl dX9_layBest_15 rfl rfl ?_
    obtain ⟨r8, s9, es9, h⟩ := zc h
    refine zf_callV (q := 19) (As := [.int x2]) (rest := []) (st1 := [.int r8]) rfl dX9_layBest_16 lv_RX9_291 (sm0 hG) rfl rfl (Nat.le_of_ble_eq_true rfl) (ok_X9_layChoice hG N (Nat.le_trans (by decide) hd) es9) rfl ?_
    refine zf_if_eq (q := 22) (tgt := 131) rfl (by decide) dX9_layBest_19 (fun hc19 => ?_) (fun hc19 => ?_)
    · replace h := (zi h).1 hc19
      exact zf_sub [0, 1, 2] rfl (ok_X9_layBest_131 hG N hd hr7 h)
    · replace h := (zi h).2 hc19
      refine zf_aload_n 0 (q := 23) (j := 0) rfl dX9_layBest_22 rfl rfl ?_
      refine zf_iload_n 1 (q := 24) (j := 1) rfl dX9_layBest_23 rfl rfl ?_
      obtain ⟨r10, s11, es11, h⟩ := zc h
      refine zf_callV (q := 27) (As := [.int x1]) (rest := []) (st1 := [.int r10]) rfl dX9_layBest_24 lv_RX9_294 (sm0 hG) rfl rfl (Nat.le_of_ble_eq_true rfl) (ok_X9_measureAll hG N (Nat.le_trans (by decide) hd) es11) rfl ?_
      refine zf_if_eq (q := 30) (tgt := 131) rfl (by decide) dX9_layBest_27 (fun hc27 => ?_) (fun hc27 => ?_)
      · replace h := (zi h).1 hc27
        exact zf_sub [0, 1, 2] rfl (ok_X9_layBest_131 hG N hd hr7 h)
      · replace h := (zi h).2 hc27
        refine zf_aload_n 0 (q := 31) (j := 0) rfl dX9_layBest_30 rfl rfl ?_
        refine zf_getI (q := 34) rfl dX9_layBest_31 lf_RX9_288 (sm0 hG) rfl ?_
        refine zf_if_eq (q := 37) (tgt := 71) rfl (by decide) dX9_layBest_34 (fun hc34 => ?_) (fun hc34 => ?_)
        · replace h := (zi h).1 hc34
          exact zf_sub [0, 1, 2] rfl (ok_X9_layBest_71 hG N hd hr7 h)
        · replace h := (zi h).2 hc34
          refine zf_aload_n 0 (q := 38) (j := 0) rfl dX9_layBest_37 rfl rfl ?_
          refine zf_getI (q := 41) rfl dX9_layBest_38 lf_RX9_278 (sm0 hG) rfl ?_
          refine zf_aload_n 0 (q := 42) (j := 0) rfl dX9_layBest_41 rfl rfl ?_
          refine zf_getI (q := 45) rfl dX9_layBest_42 lf_RX9_298 (sm0 hG) rfl ?_
          refine zf_icmp_lt (q := 48) (tgt := 71) rfl (by decide) dX9_layBest_45 (fun hc45 => ?_) (fun hc45 => ?_)
          · replace h := (zi h).1 hc45
            exact zf_sub [0, 1, 2] rfl (ok_X9_layBest_71 hG N hd hr7 h)
          · replace h := (zi h).2 hc45
            refine zf_aload_n 0 (q := 49) (j := 0) rfl dX9_layBest_48 rfl rfl ?_
            refine zf_getI (q := 52) rfl dX9_layBest_49 lf_RX9_278 (sm0 hG) rfl ?_
            refine zf_aload_n 0 (q := 53) (j := 0) rfl dX9_layBest_52 rfl rfl ?_
            refine zf_getI (q := 56) rfl dX9_layBest_53 lf_RX9_298 (sm0 hG) rfl ?_
            refine zf_icmp_ne (q := 59) (tgt := 75) rfl (by decide) dX9_layBest_56 (fun hc56 => ?_) (fun hc56 => ?_)
            · replace h := (zi h).2 hc56
              exact zf_sub [0, 1, 2] rfl (ok_X9_layBest_75 hG N hd hr7 h)
            · replace h := (zi h).1 hc56
              refine zf_aload_n 0 (q := 60) (j := 0) rfl dX9_layBest_59 rfl rfl ?_
              refine zf_getJ (q := 63) rfl dX9_layBest_60 lf_RX9_281 (sm0 hG) rfl ?_
              refine zf_aload_n 0 (q := 64) (j := 0) rfl dX9_layBest_63 rfl rfl ?_
              refine zf_getJ (q := 67) rfl dX9_layBest_64 lf_RX9_301 (sm0 hG) rfl ?_
              refine zf_lcmp (q := 68) rfl dX9_layBest_67 ?_
              refine zf_if_ge (q := 71) (tgt := 75) rfl (by decide) dX9_layBest_68 (fun hc68 => ?_) (fun hc68 => ?_)
              · replace h := (zi h).1 hc68
                exact zf_sub [0, 1, 2] rfl (ok_X9_layBest_75 hG N hd hr7 h)
              · replace h := (zi h).2 hc68
                exact zf_sub [0, 1, 2] rfl (ok_X9_layBest_71 hG N hd hr7 h)
def f_X9_layBest_7 (N : Nat) : Nat → Int32 → Int32 → ZM → Option (Unit × ZM)
  | 0, _, _, _ => none
  | n + 1, x1, x2, σ => b_X9_layBest_7 N (f_X9_layBest_7 N n) x1 x2 σ
theorem ok_X9_layBest_7 {G : ZG} (hG : zSH G = shM) (N : Nat) {d : Nat} (hd : 6 ≤ d) {res : Unit × ZM} : ∀ (n : Nat) (x1 : Int32) (x2 : Int32) (σ : ZM), f_X9_layBest_7 N n x1 x2 σ = some res → zF G MX9_layBest (d + 1) 7 [(0, .ref (zad G 0)), (1, .int x1), (2, .int x2)] [] σ none res.2 := by
  intro n
  induction n with
  | zero => intro x1 x2 σ h; exact absurd h (by simp [f_X9_layBest_7])
  | succ n ih => intro x1 x2 σ h; rw [f_X9_layBest_7] at h; exact ok_b_X9_layBest_7 hG N hd ih h
def f_X9_layBest (N : Nat) (x1 : Int32) (σ : ZM) : Option (Unit × ZM) :=
  (zpZ σ 0 49 (0 : Int32)).bind fun s12 =>
  f_X9_layBest_7 N N x1 (0 : Int32) s12
set_option maxRecDepth 100000 in
theorem ok_X9_layBest {G : ZG} (hG : zSH G = shM) (N : Nat) {d : Nat} (hd : 7 ≤ d) {x1 : Int32} {σ : ZM} {res : Unit × ZM} (h : f_X9_layBest N x1 σ = some res) : zCt G d MX9_layBest [.ref (zad G 0), .int x1] σ none res.2 := by
  obtain ⟨d, rfl⟩ : ∃ k, d = k + 1 := ⟨d - 1, by omega⟩
  have hd : 6 ≤ d := by omega
  refine zct_of (by decide) (Nat.le_of_ble_eq_true rfl) (lv := [(0, .ref (zad G 0)), (1, .int x1)]) rfl ?_
  unfold f_X9_layBest at h
  refine zf_aload_n 0 (q := 1) (j := 0) rfl dX9_layBest_0 rfl rfl ?_
  refine zf_iconst (q := 2) rfl dX9_layBest_1 ic0 ?_
  obtain ⟨s12, es12, h⟩ := zb h
  refine zf_putZ (q := 5) rfl dX9_layBest_2 lp_RX9_288 (sm0 hG) rfl es12 ?_
  refine zf_iconst (q := 6) rfl dX9_layBest_5 ic0 ?_
  refine zf_istore_n (q := 7) (y := (0 : Int32)) (i := 2) (lv1 := [(2, .int (0 : Int32)), (0, .ref (zad G 0)), (1, .int x1)]) rfl dX9_layBest_6 rfl (by decide) rfl rfl ?_
  exact zf_sub [1, 2, 0] rfl (ok_X9_layBest_7 hG N hd _ _ _ _ h)
-- ===== X9_best: NearCopiesModel.best(Z)I
def f_X9_best (N : Nat) (x1 : Int32) (σ : ZM) : Option (Int32 × ZM) :=
  zbd (f_X9_layBest N x1 σ) fun r1 s2 =>
  if (s2.1 0 49) = 0 then
  (some ((-9 : Int32), s2))
  else
  (some ((s2.1 0 47), s2))
set_option maxRecDepth 100000 in
theorem ok_X9_best {G : ZG} (hG : zSH G = shM) (N : Nat) {d : Nat} (hd : 8 ≤ d) {x1 : Int32} {σ : ZM} {res : Int32 × ZM} (h : f_X9_best N x1 σ = some res) : zCt G d MX9_best [.ref (zad G 0), .int x1] σ (some (.int res.1)) res.2 := by
  obtain ⟨d, rfl⟩ : ∃ k, d = k + 1 := ⟨d - 1, by omega⟩
  have hd : 7 ≤ d := by omega
  refine zct_of (by decide) (Nat.le_of_ble_eq_true rfl) (lv := [(0, .ref (zad G 0)), (1, .int x1)]) rfl ?_
  unfold f_X9_best at h
  refine zf_aload_n 0 (q := 1) (j := 0) rfl dX9_best_0 rfl rfl ?_
  refine zf_iload_n 1 (q := 2) (j := 1) rfl dX9_best_1 rfl rfl ?_
  obtain ⟨r1, s2, es2, h⟩ := zc h
  refine zf_callV (q := 5) (As := [.int x1]) (rest := []) (st1 := []) rfl dX9_best_2 lv_RX9_304 (sm0 hG) rfl rfl (Nat.le_of_ble_eq_true rfl) (ok_X9_layBest hG N (Nat.le_trans (by decide) hd) es2) rfl ?_
  refine zf_aload_n 0 (q := 6) (j := 0) rfl dX9_best_5 rfl rfl ?_
  refine zf_getI (q := 9) rfl dX9_best_6 lf_RX9_288 (sm0 hG) rfl ?_
  refine zf_if_eq (q := 12) (tgt := 19) rfl (by decide) dX9_best_9 (fun hc9 => ?_) (fun hc9 => ?_)
  · replace h := (zi h).1 hc9
    refine zf_bipush (q := 21) rfl dX9_best_19 bpm9 ?_
    cases h
    exact zf_ireturn dX9_best_21 rfl
  · replace h := (zi h).2 hc9
    refine zf_aload_n 0 (q := 13) (j := 0) rfl dX9_best_12 rfl rfl ?_
    refine zf_getI (q := 16) rfl dX9_best_13 lf_RX9_298 (sm0 hG) rfl ?_
    refine zf_goto (tgt := 21) (by decide) dX9_best_16 ?_
    cases h
    exact zf_ireturn dX9_best_21 rfl
-- ===== X9_bestSum: NearCopiesModel.bestSum(Z)J
def f_X9_bestSum (N : Nat) (x1 : Int32) (σ : ZM) : Option (Int64 × ZM) :=
  zbd (f_X9_layBest N x1 σ) fun r1 s2 =>
  if (s2.1 0 49) = 0 then
  (some ((-9 : Int64), s2))
  else
  (some ((s2.2 0 48), s2))
set_option maxRecDepth 100000 in
theorem ok_X9_bestSum {G : ZG} (hG : zSH G = shM) (N : Nat) {d : Nat} (hd : 8 ≤ d) {x1 : Int32} {σ : ZM} {res : Int64 × ZM} (h : f_X9_bestSum N x1 σ = some res) : zCt G d MX9_bestSum [.ref (zad G 0), .int x1] σ (some (.long res.1)) res.2 := by
  obtain ⟨d, rfl⟩ : ∃ k, d = k + 1 := ⟨d - 1, by omega⟩
  have hd : 7 ≤ d := by omega
  refine zct_of (by decide) (Nat.le_of_ble_eq_true rfl) (lv := [(0, .ref (zad G 0)), (1, .int x1)]) rfl ?_
  unfold f_X9_bestSum at h
  refine zf_aload_n 0 (q := 1) (j := 0) rfl dX9_bestSum_0 rfl rfl ?_
  refine zf_iload_n 1 (q := 2) (j := 1) rfl dX9_bestSum_1 rfl rfl ?_
  obtain ⟨r1, s2, es2, h⟩ := zc h
  refine zf_callV (q := 5) (As := [.int x1]) (rest := []) (st1 := []) rfl dX9_bestSum_2 lv_RX9_304 (sm0 hG) rfl rfl (Nat.le_of_ble_eq_true rfl) (ok_X9_layBest hG N (Nat.le_trans (by decide) hd) es2) rfl ?_
  refine zf_aload_n 0 (q := 6) (j := 0) rfl dX9_bestSum_5 rfl rfl ?_
  refine zf_getI (q := 9) rfl dX9_bestSum_6 lf_RX9_288 (sm0 hG) rfl ?_
  refine zf_if_eq (q := 12) (tgt := 19) rfl (by decide) dX9_bestSum_9 (fun hc9 => ?_) (fun hc9 => ?_)
  · replace h := (zi h).1 hc9
    refine zf_ldc2 (q := 22) rfl dX9_bestSum_19 cl_RX9_308 ?_
    cases h
    exact zf_lreturn dX9_bestSum_22 rfl
  · replace h := (zi h).2 hc9
    refine zf_aload_n 0 (q := 13) (j := 0) rfl dX9_bestSum_12 rfl rfl ?_
    refine zf_getJ (q := 16) rfl dX9_bestSum_13 lf_RX9_301 (sm0 hG) rfl ?_
    refine zf_goto (tgt := 22) (by decide) dX9_bestSum_16 ?_
    cases h
    exact zf_lreturn dX9_bestSum_22 rfl
-- ===== X9_bestKind: NearCopiesModel.bestKind(ZI)I
def f_X9_bestKind (N : Nat) (x1 : Int32) (x2 : Int32) (σ : ZM) : Option (Int32 × ZM) :=
  zbd (f_X9_isSite N x2 σ) fun r1 s2 =>
  if r1 = 0 then
  (some ((-1 : Int32), s2))
  else
  (zbd (f_X9_layBest N x1 s2) fun r3 s4 =>
  if (s4.1 0 49) = 0 then
  (some ((-9 : Int32), s4))
  else
  ((zald s4 38 4 x2).bind fun v5 =>
  some (v5, s4)))
set_option maxRecDepth 100000 in
theorem ok_X9_bestKind {G : ZG} (hG : zSH G = shM) (N : Nat) {d : Nat} (hd : 8 ≤ d) {x1 : Int32} {x2 : Int32} {σ : ZM} {res : Int32 × ZM} (h : f_X9_bestKind N x1 x2 σ = some res) : zCt G d MX9_bestKind [.ref (zad G 0), .int x1, .int x2] σ (some (.int res.1)) res.2 := by
  obtain ⟨d, rfl⟩ : ∃ k, d = k + 1 := ⟨d - 1, by omega⟩
  have hd : 7 ≤ d := by omega
  refine zct_of (by decide) (Nat.le_of_ble_eq_true rfl) (lv := [(0, .ref (zad G 0)), (1, .int x1), (2, .int x2)]) rfl ?_
  unfold f_X9_bestKind at h
  refine zf_aload_n 0 (q := 1) (j := 0) rfl dX9_bestKind_0 rfl rfl ?_
  refine zf_iload_n 2 (q := 2) (j := 2) rfl dX9_bestKind_1 rfl rfl ?_
  obtain ⟨r1, s2, es2, h⟩ := zc h
  refine zf_callV (q := 5) (As := [.int x2]) (rest := []) (st1 := [.int r1]) rfl dX9_bestKind_2 lv_RX9_160 (sm0 hG) rfl rfl (Nat.le_of_ble_eq_true rfl) (ok_X9_isSite hG N (Nat.le_trans (by decide) hd) es2) rfl ?_
  refine zf_if_ne (q := 8) (tgt := 10) rfl (by decide) dX9_bestKind_5 (fun hc5 => ?_) (fun hc5 => ?_)
  · replace h := (zi h).2 hc5
    refine zf_aload_n 0 (q := 11) (j := 0) rfl dX9_bestKind_10 rfl rfl ?_
    refine zf_iload_n 1 (q := 12) (j := 1) rfl dX9_bestKind_11 rfl rfl ?_
    obtain ⟨r3, s4, es4, h⟩ := zc h
    refine zf_callV (q := 15) (As := [.int x1]) (rest := []) (st1 := []) rfl dX9_bestKind_12 lv_RX9_304 (sm0 hG) rfl rfl (Nat.le_of_ble_eq_true rfl) (ok_X9_layBest hG N (Nat.le_trans (by decide) hd) es4) rfl ?_
    refine zf_aload_n 0 (q := 16) (j := 0) rfl dX9_bestKind_15 rfl rfl ?_
    refine zf_getI (q := 19) rfl dX9_bestKind_16 lf_RX9_288 (sm0 hG) rfl ?_
    refine zf_if_eq (q := 22) (tgt := 31) rfl (by decide) dX9_bestKind_19 (fun hc19 => ?_) (fun hc19 => ?_)
    · replace h := (zi h).1 hc19
      refine zf_bipush (q := 33) rfl dX9_bestKind_31 bpm9 ?_
      cases h
      exact zf_ireturn dX9_bestKind_33 rfl
    · replace h := (zi h).2 hc19
      refine zf_aload_n 0 (q := 23) (j := 0) rfl dX9_bestKind_22 rfl rfl ?_
      refine zf_getR (q := 26) rfl dX9_bestKind_23 lf_RX9_123 (sm0 hG) rfl ?_
      refine zf_iload_n 2 (q := 27) (j := 2) rfl dX9_bestKind_26 rfl rfl ?_
      obtain ⟨v5, ev5, h⟩ := zb h
      refine zf_iald (q := 28) rfl dX9_bestKind_27 (sm38 hG) ev5 ?_
      refine zf_goto (tgt := 33) (by decide) dX9_bestKind_28 ?_
      cases h
      exact zf_ireturn dX9_bestKind_33 rfl
  · replace h := (zi h).1 hc5
    refine zf_iconst (q := 9) rfl dX9_bestKind_8 icm1 ?_
    cases h
    exact zf_ireturn dX9_bestKind_9 rfl
-- ===== X9_aimOf: NearCopiesModel.aimOf(I)I
def f_X9_aimOf (N : Nat) (x1 : Int32) (σ : ZM) : Option (Int32 × ZM) :=
  (zald σ 11 4 x1).bind fun v1 =>
  if v1 = (-9 : Int32) then
  ((zald σ 7 4 x1).bind fun v3 =>
  some (v3, σ))
  else
  ((zald σ 11 4 x1).bind fun v2 =>
  some (v2, σ))
set_option maxRecDepth 100000 in
theorem ok_X9_aimOf {G : ZG} (hG : zSH G = shM) (N : Nat) {d : Nat} (hd : 0 ≤ d) {x1 : Int32} {σ : ZM} {res : Int32 × ZM} (h : f_X9_aimOf N x1 σ = some res) : zCt G d MX9_aimOf [.ref (zad G 0), .int x1] σ (some (.int res.1)) res.2 := by
  refine zct_of (by decide) (Nat.le_of_ble_eq_true rfl) (lv := [(0, .ref (zad G 0)), (1, .int x1)]) rfl ?_
  unfold f_X9_aimOf at h
  refine zf_aload_n 0 (q := 1) (j := 0) rfl dX9_aimOf_0 rfl rfl ?_
  refine zf_getR (q := 4) rfl dX9_aimOf_1 lf_RX9_41 (sm0 hG) rfl ?_
  refine zf_iload_n 1 (q := 5) (j := 1) rfl dX9_aimOf_4 rfl rfl ?_
  obtain ⟨v1, ev1, h⟩ := zb h
  refine zf_iald (q := 6) rfl dX9_aimOf_5 (sm11 hG) ev1 ?_
  refine zf_bipush (q := 8) rfl dX9_aimOf_6 bpm9 ?_
  refine zf_icmp_ne (q := 11) (tgt := 20) rfl (by decide) dX9_aimOf_8 (fun hc8 => ?_) (fun hc8 => ?_)
  · replace h := (zi h).2 hc8
    refine zf_aload_n 0 (q := 21) (j := 0) rfl dX9_aimOf_20 rfl rfl ?_
    refine zf_getR (q := 24) rfl dX9_aimOf_21 lf_RX9_41 (sm0 hG) rfl ?_
    refine zf_iload_n 1 (q := 25) (j := 1) rfl dX9_aimOf_24 rfl rfl ?_
    obtain ⟨v2, ev2, h⟩ := zb h
    refine zf_iald (q := 26) rfl dX9_aimOf_25 (sm11 hG) ev2 ?_
    cases h
    exact zf_ireturn dX9_aimOf_26 rfl
  · replace h := (zi h).1 hc8
    refine zf_aload_n 0 (q := 12) (j := 0) rfl dX9_aimOf_11 rfl rfl ?_
    refine zf_getR (q := 15) rfl dX9_aimOf_12 lf_RX9_29 (sm0 hG) rfl ?_
    refine zf_iload_n 1 (q := 16) (j := 1) rfl dX9_aimOf_15 rfl rfl ?_
    obtain ⟨v3, ev3, h⟩ := zb h
    refine zf_iald (q := 17) rfl dX9_aimOf_16 (sm7 hG) ev3 ?_
    refine zf_goto (tgt := 26) (by decide) dX9_aimOf_17 ?_
    cases h
    exact zf_ireturn dX9_aimOf_26 rfl
-- ===== X9_aim: NearCopiesModel.aim(II)I
def f_X9_aim (N : Nat) (x1 : Int32) (x2 : Int32) (σ : ZM) : Option (Int32 × ZM) :=
  zbd (f_X9_isSite N x1 σ) fun r1 s2 =>
  if r1 = 0 then
  (some ((-1 : Int32), s2))
  else
  (zbd (f_X9_in N (Int32.toInt64 x2) (0 : Int64) (4 : Int64) s2) fun r3 s4 =>
  if r3 = 0 then
  (some ((-2 : Int32), s4))
  else
  (zbd (f_X9_aimOf N x1 s4) fun r5 s6 =>
  (zast s6 11 4 x1 x2).bind fun s7 =>
  some (r5, s7)))
set_option maxRecDepth 100000 in
theorem ok_X9_aim {G : ZG} (hG : zSH G = shM) (N : Nat) {d : Nat} (hd : 2 ≤ d) {x1 : Int32} {x2 : Int32} {σ : ZM} {res : Int32 × ZM} (h : f_X9_aim N x1 x2 σ = some res) : zCt G d MX9_aim [.ref (zad G 0), .int x1, .int x2] σ (some (.int res.1)) res.2 := by
  obtain ⟨d, rfl⟩ : ∃ k, d = k + 1 := ⟨d - 1, by omega⟩
  have hd : 1 ≤ d := by omega
  refine zct_of (by decide) (Nat.le_of_ble_eq_true rfl) (lv := [(0, .ref (zad G 0)), (1, .int x1), (2, .int x2)]) rfl ?_
  unfold f_X9_aim at h
  refine zf_aload_n 0 (q := 1) (j := 0) rfl dX9_aim_0 rfl rfl ?_
  refine zf_iload_n 1 (q := 2) (j := 1) rfl dX9_aim_1 rfl rfl ?_
  obtain ⟨r1, s2, es2, h⟩ := zc h
  refine zf_callV (q := 5) (As := [.int x1]) (rest := []) (st1 := [.int r1]) rfl dX9_aim_2 lv_RX9_160 (sm0 hG) rfl rfl (Nat.le_of_ble_eq_true rfl) (ok_X9_isSite hG N (Nat.le_trans (by decide) hd) es2) rfl ?_
  refine zf_if_ne (q := 8) (tgt := 10) rfl (by decide) dX9_aim_5 (fun hc5 => ?_) (fun hc5 => ?_)
  · replace h := (zi h).2 hc5
    refine zf_iload_n 2 (q := 11) (j := 2) rfl dX9_aim_10 rfl rfl ?_
    refine zf_i2l (q := 12) rfl dX9_aim_11 ?_
    refine zf_lconst (q := 13) (v := 0) rfl dX9_aim_12 (by decide) ?_
    refine zf_ldc2 (q := 16) rfl dX9_aim_13 cl_RX9_163 ?_
    obtain ⟨r3, s4, es4, h⟩ := zc h
    refine zf_callS (q := 19) (As := [.long (Int32.toInt64 x2), .long (0 : Int64), .long (4 : Int64)]) (rest := []) (st1 := [.int r3]) rfl dX9_aim_16 ls_RX9_136 rfl rfl (Nat.le_of_ble_eq_true rfl) (ok_X9_in hG N (Nat.le_trans (by decide) hd) es4) rfl ?_
    refine zf_if_ne (q := 22) (tgt := 25) rfl (by decide) dX9_aim_19 (fun hc19 => ?_) (fun hc19 => ?_)
    · replace h := (zi h).2 hc19
      refine zf_aload_n 0 (q := 26) (j := 0) rfl dX9_aim_25 rfl rfl ?_
      refine zf_iload_n 1 (q := 27) (j := 1) rfl dX9_aim_26 rfl rfl ?_
      obtain ⟨r5, s6, es6, h⟩ := zc h
      refine zf_callV (q := 30) (As := [.int x1]) (rest := []) (st1 := [.int r5]) rfl dX9_aim_27 lv_RX9_310 (sm0 hG) rfl rfl (Nat.le_of_ble_eq_true rfl) (ok_X9_aimOf hG N (Nat.le_trans (by decide) hd) es6) rfl ?_
      refine zf_istore_n (q := 31) (y := r5) (i := 3) (lv1 := [(3, .int r5), (0, .ref (zad G 0)), (1, .int x1), (2, .int x2)]) rfl dX9_aim_30 rfl (by decide) rfl rfl ?_
      refine zf_aload_n 1 (q := 32) (j := 0) rfl dX9_aim_31 rfl rfl ?_
      refine zf_getR (q := 35) rfl dX9_aim_32 lf_RX9_41 (sm0 hG) rfl ?_
      refine zf_iload_n 2 (q := 36) (j := 1) rfl dX9_aim_35 rfl rfl ?_
      refine zf_iload_n 3 (q := 37) (j := 2) rfl dX9_aim_36 rfl rfl ?_
      obtain ⟨s7, es7, h⟩ := zb h
      refine zf_iast (q := 38) rfl dX9_aim_37 (sm11 hG) es7 ?_
      refine zf_iload_n 0 (q := 39) (j := 3) rfl dX9_aim_38 rfl rfl ?_
      cases h
      exact zf_ireturn dX9_aim_39 rfl
    · replace h := (zi h).1 hc19
      refine zf_bipush (q := 24) rfl dX9_aim_22 bpm2 ?_
      cases h
      exact zf_ireturn dX9_aim_24 rfl
  · replace h := (zi h).1 hc5
    refine zf_iconst (q := 9) rfl dX9_aim_8 icm1 ?_
    cases h
    exact zf_ireturn dX9_aim_9 rfl
-- ===== X9_stepCount: NearCopiesModel.stepCount()I
def f_X9_stepCount_32 (N : Nat) (rec4 : Int32 → Int32 → ZM → Option (Int32 × ZM)) (x2 : Int32) (y0 : Int32) (y1 : Int32) (σ : ZM) : Option (Int32 × ZM) :=
  (some (y1 + y0)).bind fun v1 =>
  (some (x2 + (1 : Int32))).bind fun v2 =>
  rec4 v1 v2 σ
set_option maxRecDepth 100000 in
theorem ok_X9_stepCount_32 {G : ZG} (hG : zSH G = shM) (N : Nat) {d : Nat} (hd : 0 ≤ d) {rec4 : Int32 → Int32 → ZM → Option (Int32 × ZM)} {res : Int32 × ZM} (hr4 : ∀ (x1 : Int32) (x2 : Int32) (σ : ZM), rec4 x1 x2 σ = some res → zF G MX9_stepCount (d + 1) 4 [(0, .ref (zad G 0)), (1, .int x1), (2, .int x2)] [] σ (some (.int res.1)) res.2) {x2 : Int32} {y0 : Int32} {y1 : Int32} {σ : ZM} (h : f_X9_stepCount_32 N rec4 x2 y0 y1 σ = some res) : zF G MX9_stepCount (d + 1) 32 [(0, .ref (zad G 0)), (2, .int x2)] [.int y0, .int y1] σ (some (.int res.1)) res.2 := by
  unfold f_X9_stepCount_32 at h
  refine zf_iadd (q := 33) rfl dX9_stepCount_32 ?_
  obtain ⟨v1, ev1, h⟩ := zb h
  refine zf_istore_n (q := 34) (y := v1) (i := 1) (lv1 := [(1, .int v1), (0, .ref (zad G 0)), (2, .int x2)]) rfl dX9_stepCount_33 rfl (by decide) ev1 rfl ?_
  obtain ⟨v2, ev2, h⟩ := zb h
  refine zf_iinc 2 (q := 37) (v := v2) (lv1 := [(2, .int v2), (1, .int v1), (0, .ref (zad G 0))]) rfl dX9_stepCount_34 rfl (by rw [ic1]; exact ev2) (by decide) rfl ?_
  refine zf_goto (tgt := 4) (by decide) dX9_stepCount_37 ?_
  exact zf_sub [2, 1, 0] rfl (hr4 _ _ _ h)
def b_X9_stepCount_4 (N : Nat) (rec4 : Int32 → Int32 → ZM → Option (Int32 × ZM)) (x1 : Int32) (x2 : Int32) (σ : ZM) : Option (Int32 × ZM) :=
  if (σ.1 0 5) ≤ x2 then
  (some (x1, σ))
  else
  (zbd (f_X9_aimOf N x2 σ) fun r3 s4 =>
  (zald s4 7 4 x2).bind fun v5 =>
  if r3 = v5 then
  (f_X9_stepCount_32 N rec4 x2 (0 : Int32) x1 s4)
  else
  (f_X9_stepCount_32 N rec4 x2 (1 : Int32) x1 s4))
set_option maxRecDepth 100000 in
theorem ok_b_X9_stepCount_4 {G : ZG} (hG : zSH G = shM) (N : Nat) {d : Nat} (hd : 0 ≤ d) {rec4 : Int32 → Int32 → ZM → Option (Int32 × ZM)} {res : Int32 × ZM} (hr4 : ∀ (x1 : Int32) (x2 : Int32) (σ : ZM), rec4 x1 x2 σ = some res → zF G MX9_stepCount (d + 1) 4 [(0, .ref (zad G 0)), (1, .int x1), (2, .int x2)] [] σ (some (.int res.1)) res.2) {x1 : Int32} {x2 : Int32} {σ : ZM} (h : b_X9_stepCount_4 N rec4 x1 x2 σ = some res) : zF G MX9_stepCount (d + 1) 4 [(0, .ref (zad G 0)), (1, .int x1), (2, .int x2)] [] σ (some (.int res.1)) res.2 := by
  unfold b_X9_stepCount_4 at h
  refine zf_iload_n 2 (q := 5) (j := 2) rfl dX9_stepCount_4 rfl rfl ?_
  refine zf_aload_n 0 (q := 6) (j := 0) rfl dX9_stepCount_5 rfl rfl ?_
  refine zf_getI (q := 9) rfl dX9_stepCount_6 lf_RX9_140 (sm0 hG) rfl ?_
  refine zf_icmp_ge (q := 12) (tgt := 40) rfl (by decide) dX9_stepCount_9 (fun hc9 => ?_) (fun hc9 => ?_)
  · replace h := (zi h).1 hc9
    refine zf_iload_n 1 (q := 41) (j := 1) rfl dX9_stepCount_40 rfl rfl ?_
    cases h
    exact zf_ireturn dX9_stepCount_41 rfl
  · replace h := (zi h).2 hc9
    refine zf_iload_n 1 (q := 13) (j := 1) rfl dX9_stepCount_12 rfl rfl ?_
    refine zf_aload_n 0 (q := 14) (j := 0) rfl dX9_stepCount_13 rfl rfl ?_
    refine zf_iload_n 2 (q := 15) (j := 2) rfl dX9_stepCount_14 rfl rfl ?_
    obtain ⟨r3, s4, es4, h⟩ := zc h
    refine zf_callV (q := 18) (As := [.int x2]) (rest := [.int x1]) (st1 := [.int r3, .int x1]) rfl dX9_stepCount_15 lv_RX9_310 (sm0 hG) rfl rfl (Nat.le_of_ble_eq_true rfl) (ok_X9_aimOf hG N (Nat.le_trans (by decide) hd) es4) rfl ?_
    refine zf_aload_n 0 (q := 19) (j := 0) rfl dX9_stepCount_18 rfl rfl ?_
    refine zf_getR (q := 22) rfl dX9_stepCount_19 lf_RX9_29 (sm0 hG) rfl ?_
    refine zf_iload_n 2 (q := 23) (j := 2) rfl dX9_stepCount_22 rfl rfl ?_
    obtain ⟨v5, ev5, h⟩ := zb h
    refine zf_iald (q := 24) rfl dX9_stepCount_23 (sm7 hG) ev5 ?_
    refine zf_icmp_eq (q := 27) (tgt := 31) rfl (by decide) dX9_stepCount_24 (fun hc24 => ?_) (fun hc24 => ?_)
    · replace h := (zi h).1 hc24
      refine zf_iconst (q := 32) rfl dX9_stepCount_31 ic0 ?_
      exact zf_sub [0, 2] rfl (ok_X9_stepCount_32 hG N hd hr4 h)
    · replace h := (zi h).2 hc24
      refine zf_iconst (q := 28) rfl dX9_stepCount_27 ic1 ?_
      refine zf_goto (tgt := 32) (by decide) dX9_stepCount_28 ?_
      exact zf_sub [0, 2] rfl (ok_X9_stepCount_32 hG N hd hr4 h)
def f_X9_stepCount_4 (N : Nat) : Nat → Int32 → Int32 → ZM → Option (Int32 × ZM)
  | 0, _, _, _ => none
  | n + 1, x1, x2, σ => b_X9_stepCount_4 N (f_X9_stepCount_4 N n) x1 x2 σ
theorem ok_X9_stepCount_4 {G : ZG} (hG : zSH G = shM) (N : Nat) {d : Nat} (hd : 0 ≤ d) {res : Int32 × ZM} : ∀ (n : Nat) (x1 : Int32) (x2 : Int32) (σ : ZM), f_X9_stepCount_4 N n x1 x2 σ = some res → zF G MX9_stepCount (d + 1) 4 [(0, .ref (zad G 0)), (1, .int x1), (2, .int x2)] [] σ (some (.int res.1)) res.2 := by
  intro n
  induction n with
  | zero => intro x1 x2 σ h; exact absurd h (by simp [f_X9_stepCount_4])
  | succ n ih => intro x1 x2 σ h; rw [f_X9_stepCount_4] at h; exact ok_b_X9_stepCount_4 hG N hd ih h
def f_X9_stepCount (N : Nat) (σ : ZM) : Option (Int32 × ZM) :=
  f_X9_stepCount_4 N N (0 : Int32) (0 : Int32) σ
set_option maxRecDepth 100000 in
theorem ok_X9_stepCount {G : ZG} (hG : zSH G = shM) (N : Nat) {d : Nat} (hd : 1 ≤ d) {σ : ZM} {res : Int32 × ZM} (h : f_X9_stepCount N σ = some res) : zCt G d MX9_stepCount [.ref (zad G 0)] σ (some (.int res.1)) res.2 := by
  obtain ⟨d, rfl⟩ : ∃ k, d = k + 1 := ⟨d - 1, by omega⟩
  have hd : 0 ≤ d := by omega
  refine zct_of (by decide) (Nat.le_of_ble_eq_true rfl) (lv := [(0, .ref (zad G 0))]) rfl ?_
  unfold f_X9_stepCount at h
  refine zf_iconst (q := 1) rfl dX9_stepCount_0 ic0 ?_
  refine zf_istore_n (q := 2) (y := (0 : Int32)) (i := 1) (lv1 := [(1, .int (0 : Int32)), (0, .ref (zad G 0))]) rfl dX9_stepCount_1 rfl (by decide) rfl rfl ?_
  refine zf_iconst (q := 3) rfl dX9_stepCount_2 ic0 ?_
  refine zf_istore_n (q := 4) (y := (0 : Int32)) (i := 2) (lv1 := [(2, .int (0 : Int32)), (1, .int (0 : Int32)), (0, .ref (zad G 0))]) rfl dX9_stepCount_3 rfl (by decide) rfl rfl ?_
  exact zf_sub [2, 1, 0] rfl (ok_X9_stepCount_4 hG N hd _ _ _ _ h)
-- ===== X9_layOrder: NearCopiesModel.layOrder(I)Z
def f_X9_layOrder_82 (N : Nat) (rec15 : Int32 → Int32 → Int32 → Int32 → ZM → Option (Int32 × ZM)) (x2 : Int32) (x3 : Int32) (x5 : Int32) (x6 : Int32) (y0 : Int32) (σ : ZM) : Option (Int32 × ZM) :=
  (some (x3 ||| ((1 : Int32) <<< (x6 &&& 31)))).bind fun v1 =>
  (some (x5 + (-1 : Int32))).bind fun v2 =>
  rec15 x2 v1 y0 v2 σ
set_option maxRecDepth 100000 in
theorem ok_X9_layOrder_82 {G : ZG} (hG : zSH G = shM) (N : Nat) {d : Nat} (hd : 0 ≤ d) {rec15 : Int32 → Int32 → Int32 → Int32 → ZM → Option (Int32 × ZM)} {res : Int32 × ZM} (hr15 : ∀ (x2 : Int32) (x3 : Int32) (x4 : Int32) (x5 : Int32) (σ : ZM), rec15 x2 x3 x4 x5 σ = some res → zF G MX9_layOrder (d + 1) 15 [(0, .ref (zad G 0)), (2, .int x2), (3, .int x3), (4, .int x4), (5, .int x5)] [] σ (some (.int res.1)) res.2) {x2 : Int32} {x3 : Int32} {x5 : Int32} {x6 : Int32} {y0 : Int32} {σ : ZM} (h : f_X9_layOrder_82 N rec15 x2 x3 x5 x6 y0 σ = some res) : zF G MX9_layOrder (d + 1) 82 [(0, .ref (zad G 0)), (2, .int x2), (3, .int x3), (5, .int x5), (6, .int x6)] [.int y0] σ (some (.int res.1)) res.2 := by
  unfold f_X9_layOrder_82 at h
  refine zf_istore (q := 84) (y := y0) (i := 4) (lv1 := [(4, .int y0), (0, .ref (zad G 0)), (2, .int x2), (3, .int x3), (5, .int x5), (6, .int x6)]) rfl dX9_layOrder_82 (by decide) rfl rfl ?_
  refine zf_iload_n 3 (q := 85) (j := 3) rfl dX9_layOrder_84 rfl rfl ?_
  refine zf_iconst (q := 86) rfl dX9_layOrder_85 ic1 ?_
  refine zf_iload 5 (q := 88) rfl dX9_layOrder_86 rfl ?_
  refine zf_ishl (q := 89) rfl dX9_layOrder_88 ?_
  refine zf_ior (q := 90) rfl dX9_layOrder_89 ?_
  obtain ⟨v1, ev1, h⟩ := zb h
  refine zf_istore_n (q := 91) (y := v1) (i := 3) (lv1 := [(3, .int v1), (4, .int y0), (0, .ref (zad G 0)), (2, .int x2), (5, .int x5), (6, .int x6)]) rfl dX9_layOrder_90 rfl (by decide) ev1 rfl ?_
  obtain ⟨v2, ev2, h⟩ := zb h
  refine zf_iinc 4 (q := 94) (v := v2) (lv1 := [(5, .int v2), (3, .int v1), (4, .int y0), (0, .ref (zad G 0)), (2, .int x2), (6, .int x6)]) rfl dX9_layOrder_91 rfl (by rw [icm1]; exact ev2) (by decide) rfl ?_
  refine zf_goto (tgt := 15) (by decide) dX9_layOrder_94 ?_
  exact zf_sub [3, 4, 1, 2, 0] rfl (hr15 _ _ _ _ _ h)
def f_X9_layOrder_81 (N : Nat) (rec15 : Int32 → Int32 → Int32 → Int32 → ZM → Option (Int32 × ZM)) (x2 : Int32) (x3 : Int32) (x5 : Int32) (x6 : Int32) (σ : ZM) : Option (Int32 × ZM) :=
  f_X9_layOrder_82 N rec15 x2 x3 x5 x6 (0 : Int32) σ
set_option maxRecDepth 100000 in
theorem ok_X9_layOrder_81 {G : ZG} (hG : zSH G = shM) (N : Nat) {d : Nat} (hd : 0 ≤ d) {rec15 : Int32 → Int32 → Int32 → Int32 → ZM → Option (Int32 × ZM)} {res : Int32 × ZM} (hr15 : ∀ (x2 : Int32) (x3 : Int32) (x4 : Int32) (x5 : Int32) (σ : ZM), rec15 x2 x3 x4 x5 σ = some res → zF G MX9_layOrder (d + 1) 15 [(0, .ref (zad G 0)), (2, .int x2), (3, .int x3), (4, .int x4), (5, .int x5)] [] σ (some (.int res.1)) res.2) {x2 : Int32} {x3 : Int32} {x5 : Int32} {x6 : Int32} {σ : ZM} (h : f_X9_layOrder_81 N rec15 x2 x3 x5 x6 σ = some res) : zF G MX9_layOrder (d + 1) 81 [(0, .ref (zad G 0)), (2, .int x2), (3, .int x3), (5, .int x5), (6, .int x6)] [] σ (some (.int res.1)) res.2 := by
  unfold f_X9_layOrder_81 at h
  refine zf_iconst (q := 82) rfl dX9_layOrder_81 ic0 ?_
  exact zf_sub [0, 1, 2, 3, 4] rfl (ok_X9_layOrder_82 hG N hd hr15 h)
def b_X9_layOrder_15 (N : Nat) (rec15 : Int32 → Int32 → Int32 → Int32 → ZM → Option (Int32 × ZM)) (x2 : Int32) (x3 : Int32) (x4 : Int32) (x5 : Int32) (σ : ZM) : Option (Int32 × ZM) :=
  if x5 < 0 then
  (if x4 = 0 then
  (some ((0 : Int32), σ))
  else
  (if x2 = 0 then
  (some ((1 : Int32), σ))
  else
  (some ((0 : Int32), σ))))
  else
  ((zrem x2 (4 : Int32)).bind fun v3 =>
  (zdiv x2 (4 : Int32)).bind fun v4 =>
  (zast σ 39 4 x5 v3).bind fun s5 =>
  if x4 = 0 then
  (f_X9_layOrder_81 N rec15 v4 x3 x5 v3 s5)
  else
  (if (s5.1 0 5) ≤ v3 then
  (f_X9_layOrder_81 N rec15 v4 x3 x5 v3 s5)
  else
  (if ((x3 >>> (v3 &&& 31)) &&& (1 : Int32)) = 0 then
  (zbd (f_X9_aimOf N v3 s5) fun r6 s7 =>
  (zald s7 7 4 v3).bind fun v8 =>
  if r6 = v8 then
  (f_X9_layOrder_81 N rec15 v4 x3 x5 v3 s7)
  else
  (f_X9_layOrder_82 N rec15 v4 x3 x5 v3 (1 : Int32) s7))
  else
  (f_X9_layOrder_81 N rec15 v4 x3 x5 v3 s5))))
set_option maxRecDepth 100000 in
theorem ok_b_X9_layOrder_15 {G : ZG} (hG : zSH G = shM) (N : Nat) {d : Nat} (hd : 0 ≤ d) {rec15 : Int32 → Int32 → Int32 → Int32 → ZM → Option (Int32 × ZM)} {res : Int32 × ZM} (hr15 : ∀ (x2 : Int32) (x3 : Int32) (x4 : Int32) (x5 : Int32) (σ : ZM), rec15 x2 x3 x4 x5 σ = some res → zF G MX9_layOrder (d + 1) 15 [(0, .ref (zad G 0)), (2, .int x2), (3, .int x3), (4, .int x4), (5, .int x5)] [] σ (some (.int res.1)) res.2) {x2 : Int32} {x3 : Int32} {x4 : Int32} {x5 : Int32} {σ : ZM} (h : b_X9_layOrder_15 N rec15 x2 x3 x4 x5 σ = some res) : zF G MX9_layOrder (d + 1) 15 [(0, .ref (zad G 0)), (2, .int x2), (3, .int x3), (4, .int x4), (5, .int x5)] [] σ (some (.int res.1)) res.2 := by
  unfold b_X9_layOrder_15 at h
  refine zf_iload 4 (q := 17) rfl dX9_layOrder_15 rfl ?_
  refine zf_if_lt (q := 20) (tgt := 97) rfl (by decide) dX9_layOrder_17 (fun hc17 => ?_) (fun hc17 => ?_)
  · replace h := (zi h).1 hc17
    refine zf_iload 3 (q := 99) rfl dX9_layOrder_97 rfl ?_
    refine zf_if_eq (q := 102) (tgt := 110) rfl (by decide) dX9_layOrder_99 (fun hc99 => ?_) (fun hc99 => ?_)
    · replace h := (zi h).1 hc99
      refine zf_iconst (q := 111) rfl dX9_layOrder_110 ic0 ?_
      cases h
      exact zf_zreturn dX9_layOrder_111 rfl (Or.inl rfl)
    · replace h := (zi h).2 hc99
      refine zf_iload_n 1 (q := 103) (j := 2) rfl dX9_layOrder_102 rfl rfl ?_
      refine zf_if_ne (q := 106) (tgt := 110) rfl (by decide) dX9_layOrder_103 (fun hc103 => ?_) (fun hc103 => ?_)
      · replace h := (zi h).2 hc103
        refine zf_iconst (q := 111) rfl dX9_layOrder_110 ic0 ?_
        cases h
        exact zf_zreturn dX9_layOrder_111 rfl (Or.inl rfl)
      · replace h := (zi h).1 hc103
        refine zf_iconst (q := 107) rfl dX9_layOrder_106 ic1 ?_
        refine zf_goto (tgt := 111) (by decide) dX9_layOrder_107 ?_
        cases h
        exact zf_zreturn dX9_layOrder_111 rfl (Or.inr rfl)
  · replace h := (zi h).2 hc17
    refine zf_iload_n 1 (q := 21) (j := 2) rfl dX9_layOrder_20 rfl rfl ?_
    refine zf_iconst (q := 22) rfl dX9_layOrder_21 ic4 ?_
    obtain ⟨v3, ev3, h⟩ := zb h
    refine zf_irem (q := 23) rfl dX9_layOrder_22 ev3 ?_
    refine zf_istore (q := 25) (y := v3) (i := 6) (lv1 := [(6, .int v3), (0, .ref (zad G 0)), (2, .int x2), (3, .int x3), (4, .int x4), (5, .int x5)]) rfl dX9_layOrder_23 (by decide) rfl rfl ?_
    refine zf_iload_n 2 (q := 26) (j := 2) rfl dX9_layOrder_25 rfl rfl ?_
    refine zf_iconst (q := 27) rfl dX9_layOrder_26 ic4 ?_
    obtain ⟨v4, ev4, h⟩ := zb h
    refine zf_idiv (q := 28) rfl dX9_layOrder_27 ev4 ?_
    refine zf_istore_n (q := 29) (y := v4) (i := 2) (lv1 := [(2, .int v4), (6, .int v3), (0, .ref (zad G 0)), (3, .int x3), (4, .int x4), (5, .int x5)]) rfl dX9_layOrder_28 rfl (by decide) rfl rfl ?_
    refine zf_aload_n 2 (q := 30) (j := 0) rfl dX9_layOrder_29 rfl rfl ?_
    refine zf_getR (q := 33) rfl dX9_layOrder_30 lf_RX9_126 (sm0 hG) rfl ?_
    refine zf_iload 5 (q := 35) rfl dX9_layOrder_33 rfl ?_
    refine zf_iload 1 (q := 37) rfl dX9_layOrder_35 rfl ?_
    obtain ⟨s5, es5, h⟩ := zb h
    refine zf_iast (q := 38) rfl dX9_layOrder_37 (sm39 hG) es5 ?_
    refine zf_iload 4 (q := 40) rfl dX9_layOrder_38 rfl ?_
    refine zf_if_eq (q := 43) (tgt := 81) rfl (by decide) dX9_layOrder_40 (fun hc40 => ?_) (fun hc40 => ?_)
    · replace h := (zi h).1 hc40
      exact zf_sub [2, 0, 3, 5, 1] rfl (ok_X9_layOrder_81 hG N hd hr15 h)
    · replace h := (zi h).2 hc40
      refine zf_iload 1 (q := 45) rfl dX9_layOrder_43 rfl ?_
      refine zf_aload_n 2 (q := 46) (j := 0) rfl dX9_layOrder_45 rfl rfl ?_
      refine zf_getI (q := 49) rfl dX9_layOrder_46 lf_RX9_140 (sm0 hG) rfl ?_
      refine zf_icmp_ge (q := 52) (tgt := 81) rfl (by decide) dX9_layOrder_49 (fun hc49 => ?_) (fun hc49 => ?_)
      · replace h := (zi h).1 hc49
        exact zf_sub [2, 0, 3, 5, 1] rfl (ok_X9_layOrder_81 hG N hd hr15 h)
      · replace h := (zi h).2 hc49
        refine zf_iload_n 3 (q := 53) (j := 3) rfl dX9_layOrder_52 rfl rfl ?_
        refine zf_iload 1 (q := 55) rfl dX9_layOrder_53 rfl ?_
        refine zf_ishr (q := 56) rfl dX9_layOrder_55 ?_
        refine zf_iconst (q := 57) rfl dX9_layOrder_56 ic1 ?_
        refine zf_iand (q := 58) rfl dX9_layOrder_57 ?_
        refine zf_if_ne (q := 61) (tgt := 81) rfl (by decide) dX9_layOrder_58 (fun hc58 => ?_) (fun hc58 => ?_)
        · replace h := (zi h).2 hc58
          exact zf_sub [2, 0, 3, 5, 1] rfl (ok_X9_layOrder_81 hG N hd hr15 h)
        · replace h := (zi h).1 hc58
          refine zf_aload_n 2 (q := 62) (j := 0) rfl dX9_layOrder_61 rfl rfl ?_
          refine zf_iload 1 (q := 64) rfl dX9_layOrder_62 rfl ?_
          obtain ⟨r6, s7, es7, h⟩ := zc h
          refine zf_callV (q := 67) (As := [.int v3]) (rest := []) (st1 := [.int r6]) rfl dX9_layOrder_64 lv_RX9_310 (sm0 hG) rfl rfl (Nat.le_of_ble_eq_true rfl) (ok_X9_aimOf hG N (Nat.le_trans (by decide) hd) es7) rfl ?_
          refine zf_aload_n 2 (q := 68) (j := 0) rfl dX9_layOrder_67 rfl rfl ?_
          refine zf_getR (q := 71) rfl dX9_layOrder_68 lf_RX9_29 (sm0 hG) rfl ?_
          refine zf_iload 1 (q := 73) rfl dX9_layOrder_71 rfl ?_
          obtain ⟨v8, ev8, h⟩ := zb h
          refine zf_iald (q := 74) rfl dX9_layOrder_73 (sm7 hG) ev8 ?_
          refine zf_icmp_eq (q := 77) (tgt := 81) rfl (by decide) dX9_layOrder_74 (fun hc74 => ?_) (fun hc74 => ?_)
          · replace h := (zi h).1 hc74
            exact zf_sub [2, 0, 3, 5, 1] rfl (ok_X9_layOrder_81 hG N hd hr15 h)
          · replace h := (zi h).2 hc74
            refine zf_iconst (q := 78) rfl dX9_layOrder_77 ic1 ?_
            refine zf_goto (tgt := 82) (by decide) dX9_layOrder_78 ?_
            exact zf_sub [2, 0, 3, 5, 1] rfl (ok_X9_layOrder_82 hG N hd hr15 h)
def f_X9_layOrder_15 (N : Nat) : Nat → Int32 → Int32 → Int32 → Int32 → ZM → Option (Int32 × ZM)
  | 0, _, _, _, _, _ => none
  | n + 1, x2, x3, x4, x5, σ => b_X9_layOrder_15 N (f_X9_layOrder_15 N n) x2 x3 x4 x5 σ
theorem ok_X9_layOrder_15 {G : ZG} (hG : zSH G = shM) (N : Nat) {d : Nat} (hd : 0 ≤ d) {res : Int32 × ZM} : ∀ (n : Nat) (x2 : Int32) (x3 : Int32) (x4 : Int32) (x5 : Int32) (σ : ZM), f_X9_layOrder_15 N n x2 x3 x4 x5 σ = some res → zF G MX9_layOrder (d + 1) 15 [(0, .ref (zad G 0)), (2, .int x2), (3, .int x3), (4, .int x4), (5, .int x5)] [] σ (some (.int res.1)) res.2 := by
  intro n
  induction n with
  | zero => intro x2 x3 x4 x5 σ h; exact absurd h (by simp [f_X9_layOrder_15])
  | succ n ih => intro x2 x3 x4 x5 σ h; rw [f_X9_layOrder_15] at h; exact ok_b_X9_layOrder_15 hG N hd ih h
def f_X9_layOrder (N : Nat) (x1 : Int32) (σ : ZM) : Option (Int32 × ZM) :=
  (some ((σ.1 0 53) - (1 : Int32))).bind fun v9 =>
  f_X9_layOrder_15 N N x1 (0 : Int32) (1 : Int32) v9 σ
set_option maxRecDepth 100000 in
theorem ok_X9_layOrder {G : ZG} (hG : zSH G = shM) (N : Nat) {d : Nat} (hd : 1 ≤ d) {x1 : Int32} {σ : ZM} {res : Int32 × ZM} (h : f_X9_layOrder N x1 σ = some res) : zCt G d MX9_layOrder [.ref (zad G 0), .int x1] σ (some (.int res.1)) res.2 := by
  obtain ⟨d, rfl⟩ : ∃ k, d = k + 1 := ⟨d - 1, by omega⟩
  have hd : 0 ≤ d := by omega
  refine zct_of (by decide) (Nat.le_of_ble_eq_true rfl) (lv := [(0, .ref (zad G 0)), (1, .int x1)]) rfl ?_
  unfold f_X9_layOrder at h
  refine zf_iload_n 1 (q := 1) (j := 1) rfl dX9_layOrder_0 rfl rfl ?_
  refine zf_istore_n (q := 2) (y := x1) (i := 2) (lv1 := [(2, .int x1), (0, .ref (zad G 0)), (1, .int x1)]) rfl dX9_layOrder_1 rfl (by decide) rfl rfl ?_
  refine zf_iconst (q := 3) rfl dX9_layOrder_2 ic0 ?_
  refine zf_istore_n (q := 4) (y := (0 : Int32)) (i := 3) (lv1 := [(3, .int (0 : Int32)), (2, .int x1), (0, .ref (zad G 0)), (1, .int x1)]) rfl dX9_layOrder_3 rfl (by decide) rfl rfl ?_
  refine zf_iconst (q := 5) rfl dX9_layOrder_4 ic1 ?_
  refine zf_istore (q := 7) (y := (1 : Int32)) (i := 4) (lv1 := [(4, .int (1 : Int32)), (3, .int (0 : Int32)), (2, .int x1), (0, .ref (zad G 0)), (1, .int x1)]) rfl dX9_layOrder_5 (by decide) rfl rfl ?_
  refine zf_aload_n 3 (q := 8) (j := 0) rfl dX9_layOrder_7 rfl rfl ?_
  refine zf_getI (q := 11) rfl dX9_layOrder_8 lf_RX9_313 (sm0 hG) rfl ?_
  refine zf_iconst (q := 12) rfl dX9_layOrder_11 ic1 ?_
  refine zf_isub (q := 13) rfl dX9_layOrder_12 ?_
  obtain ⟨v9, ev9, h⟩ := zb h
  refine zf_istore (q := 15) (y := v9) (i := 5) (lv1 := [(5, .int v9), (4, .int (1 : Int32)), (3, .int (0 : Int32)), (2, .int x1), (0, .ref (zad G 0)), (1, .int x1)]) rfl dX9_layOrder_13 (by decide) ev9 rfl ?_
  exact zf_sub [4, 3, 2, 1, 0] rfl (ok_X9_layOrder_15 hG N hd _ _ _ _ _ _ h)
-- ===== X9_worstOfOrder: NearCopiesModel.worstOfOrder()I
def f_X9_worstOfOrder_78 (N : Nat) (rec4 : Int32 → Int32 → ZM → Option (Int32 × ZM)) (x2 : Int32) (y0 : Int32) (σ : ZM) : Option (Int32 × ZM) :=
  (some (x2 + (1 : Int32))).bind fun v1 =>
  rec4 y0 v1 σ
set_option maxRecDepth 100000 in
theorem ok_X9_worstOfOrder_78 {G : ZG} (hG : zSH G = shM) (N : Nat) {d : Nat} (hd : 4 ≤ d) {rec4 : Int32 → Int32 → ZM → Option (Int32 × ZM)} {res : Int32 × ZM} (hr4 : ∀ (x1 : Int32) (x2 : Int32) (σ : ZM), rec4 x1 x2 σ = some res → zF G MX9_worstOfOrder (d + 1) 4 [(0, .ref (zad G 0)), (1, .int x1), (2, .int x2)] [] σ (some (.int res.1)) res.2) {x2 : Int32} {y0 : Int32} {σ : ZM} (h : f_X9_worstOfOrder_78 N rec4 x2 y0 σ = some res) : zF G MX9_worstOfOrder (d + 1) 78 [(0, .ref (zad G 0)), (2, .int x2)] [.int y0] σ (some (.int res.1)) res.2 := by
  unfold f_X9_worstOfOrder_78 at h
  refine zf_istore_n (q := 79) (y := y0) (i := 1) (lv1 := [(1, .int y0), (0, .ref (zad G 0)), (2, .int x2)]) rfl dX9_worstOfOrder_78 rfl (by decide) rfl rfl ?_
  obtain ⟨v1, ev1, h⟩ := zb h
  refine zf_iinc 2 (q := 82) (v := v1) (lv1 := [(2, .int v1), (1, .int y0), (0, .ref (zad G 0))]) rfl dX9_worstOfOrder_79 rfl (by rw [ic1]; exact ev1) (by decide) rfl ?_
  refine zf_goto (tgt := 4) (by decide) dX9_worstOfOrder_82 ?_
  exact zf_sub [2, 1, 0] rfl (hr4 _ _ _ h)
def f_X9_worstOfOrder_67 (N : Nat) (rec4 : Int32 → Int32 → ZM → Option (Int32 × ZM)) (x1 : Int32) (x2 : Int32) (y0 : Int32) (σ : ZM) : Option (Int32 × ZM) :=
  if y0 ≤ x1 then
  (f_X9_worstOfOrder_78 N rec4 x2 x1 σ)
  else
  (f_X9_worstOfOrder_78 N rec4 x2 y0 σ)
set_option maxRecDepth 100000 in
theorem ok_X9_worstOfOrder_67 {G : ZG} (hG : zSH G = shM) (N : Nat) {d : Nat} (hd : 4 ≤ d) {rec4 : Int32 → Int32 → ZM → Option (Int32 × ZM)} {res : Int32 × ZM} (hr4 : ∀ (x1 : Int32) (x2 : Int32) (σ : ZM), rec4 x1 x2 σ = some res → zF G MX9_worstOfOrder (d + 1) 4 [(0, .ref (zad G 0)), (1, .int x1), (2, .int x2)] [] σ (some (.int res.1)) res.2) {x1 : Int32} {x2 : Int32} {y0 : Int32} {σ : ZM} (h : f_X9_worstOfOrder_67 N rec4 x1 x2 y0 σ = some res) : zF G MX9_worstOfOrder (d + 1) 67 [(0, .ref (zad G 0)), (1, .int x1), (2, .int x2)] [.int y0] σ (some (.int res.1)) res.2 := by
  unfold f_X9_worstOfOrder_67 at h
  refine zf_istore_n (q := 68) (y := y0) (i := 3) (lv1 := [(3, .int y0), (0, .ref (zad G 0)), (1, .int x1), (2, .int x2)]) rfl dX9_worstOfOrder_67 rfl (by decide) rfl rfl ?_
  refine zf_iload_n 0 (q := 69) (j := 3) rfl dX9_worstOfOrder_68 rfl rfl ?_
  refine zf_iload_n 2 (q := 70) (j := 1) rfl dX9_worstOfOrder_69 rfl rfl ?_
  refine zf_icmp_le (q := 73) (tgt := 77) rfl (by decide) dX9_worstOfOrder_70 (fun hc70 => ?_) (fun hc70 => ?_)
  · replace h := (zi h).1 hc70
    refine zf_iload_n 2 (q := 78) (j := 1) rfl dX9_worstOfOrder_77 rfl rfl ?_
    exact zf_sub [1, 3] rfl (ok_X9_worstOfOrder_78 hG N hd hr4 h)
  · replace h := (zi h).2 hc70
    refine zf_iload_n 0 (q := 74) (j := 3) rfl dX9_worstOfOrder_73 rfl rfl ?_
    refine zf_goto (tgt := 78) (by decide) dX9_worstOfOrder_74 ?_
    exact zf_sub [1, 3] rfl (ok_X9_worstOfOrder_78 hG N hd hr4 h)
def b_X9_worstOfOrder_18 (N : Nat) (rec4 : Int32 → Int32 → ZM → Option (Int32 × ZM)) (rec18 : Int32 → Int32 → Int32 → ZM → Option (Int32 × ZM)) (x1 : Int32) (x2 : Int32) (x3 : Int32) (σ : ZM) : Option (Int32 × ZM) :=
  if x2 < x3 then
  (zbd (f_X9_settle N σ) fun r2 s3 =>
  if r2 = 0 then
  (f_X9_worstOfOrder_67 N rec4 x1 x2 (1000000 : Int32) s3)
  else
  (zbd (f_X9_excessOf N s3) fun r4 s5 =>
  f_X9_worstOfOrder_67 N rec4 x1 x2 r4 s5))
  else
  ((zald σ 39 4 x3).bind fun v6 =>
  (zald σ 39 4 x3).bind fun v7 =>
  zbd (f_X9_aimOf N v7 σ) fun r8 s9 =>
  (zast s9 12 4 v6 r8).bind fun s10 =>
  (some (x3 + (1 : Int32))).bind fun v11 =>
  rec18 x1 x2 v11 s10)
set_option maxRecDepth 100000 in
theorem ok_b_X9_worstOfOrder_18 {G : ZG} (hG : zSH G = shM) (N : Nat) {d : Nat} (hd : 4 ≤ d) {rec4 : Int32 → Int32 → ZM → Option (Int32 × ZM)} {rec18 : Int32 → Int32 → Int32 → ZM → Option (Int32 × ZM)} {res : Int32 × ZM} (hr4 : ∀ (x1 : Int32) (x2 : Int32) (σ : ZM), rec4 x1 x2 σ = some res → zF G MX9_worstOfOrder (d + 1) 4 [(0, .ref (zad G 0)), (1, .int x1), (2, .int x2)] [] σ (some (.int res.1)) res.2) (hr18 : ∀ (x1 : Int32) (x2 : Int32) (x3 : Int32) (σ : ZM), rec18 x1 x2 x3 σ = some res → zF G MX9_worstOfOrder (d + 1) 18 [(0, .ref (zad G 0)), (1, .int x1), (2, .int x2), (3, .int x3)] [] σ (some (.int res.1)) res.2) {x1 : Int32} {x2 : Int32} {x3 : Int32} {σ : ZM} (h : b_X9_worstOfOrder_18 N rec4 rec18 x1 x2 x3 σ = some res) : zF G MX9_worstOfOrder (d + 1) 18 [(0, .ref (zad G 0)), (1, .int x1), (2, .int x2), (3, .int x3)] [] σ (some (.int res.1)) res.2 := by
  unfold b_X9_worstOfOrder_18 at h
  refine zf_iload_n 3 (q := 19) (j := 3) rfl dX9_worstOfOrder_18 rfl rfl ?_
  refine zf_iload_n 2 (q := 20) (j := 2) rfl dX9_worstOfOrder_19 rfl rfl ?_
  refine zf_icmp_gt (q := 23) (tgt := 50) rfl (by decide) dX9_worstOfOrder_20 (fun hc20 => ?_) (fun hc20 => ?_)
  · replace h := (zi h).1 hc20
    refine zf_aload_n 0 (q := 51) (j := 0) rfl dX9_worstOfOrder_50 rfl rfl ?_
    obtain ⟨r2, s3, es3, h⟩ := zc h
    refine zf_callV (q := 54) (As := []) (rest := []) (st1 := [.int r2]) rfl dX9_worstOfOrder_51 lv_RX9_212 (sm0 hG) rfl rfl (Nat.le_of_ble_eq_true rfl) (ok_X9_settle hG N (Nat.le_trans (by decide) hd) es3) rfl ?_
    refine zf_if_eq (q := 57) (tgt := 64) rfl (by decide) dX9_worstOfOrder_54 (fun hc54 => ?_) (fun hc54 => ?_)
    · replace h := (zi h).1 hc54
      refine zf_ldcw (q := 67) rfl dX9_worstOfOrder_64 co_RX9_316 ?_
      exact zf_sub [0, 1, 2] rfl (ok_X9_worstOfOrder_67 hG N hd hr4 h)
    · replace h := (zi h).2 hc54
      refine zf_aload_n 0 (q := 58) (j := 0) rfl dX9_worstOfOrder_57 rfl rfl ?_
      obtain ⟨r4, s5, es5, h⟩ := zc h
      refine zf_callV (q := 61) (As := []) (rest := []) (st1 := [.int r4]) rfl dX9_worstOfOrder_58 lv_RX9_228 (sm0 hG) rfl rfl (Nat.le_of_ble_eq_true rfl) (ok_X9_excessOf hG N (Nat.le_trans (by decide) hd) es5) rfl ?_
      refine zf_goto (tgt := 67) (by decide) dX9_worstOfOrder_61 ?_
      exact zf_sub [0, 1, 2] rfl (ok_X9_worstOfOrder_67 hG N hd hr4 h)
  · replace h := (zi h).2 hc20
    refine zf_aload_n 0 (q := 24) (j := 0) rfl dX9_worstOfOrder_23 rfl rfl ?_
    refine zf_getR (q := 27) rfl dX9_worstOfOrder_24 lf_RX9_44 (sm0 hG) rfl ?_
    refine zf_aload_n 0 (q := 28) (j := 0) rfl dX9_worstOfOrder_27 rfl rfl ?_
    refine zf_getR (q := 31) rfl dX9_worstOfOrder_28 lf_RX9_126 (sm0 hG) rfl ?_
    refine zf_iload_n 3 (q := 32) (j := 3) rfl dX9_worstOfOrder_31 rfl rfl ?_
    obtain ⟨v6, ev6, h⟩ := zb h
    refine zf_iald (q := 33) rfl dX9_worstOfOrder_32 (sm39 hG) ev6 ?_
    refine zf_aload_n 0 (q := 34) (j := 0) rfl dX9_worstOfOrder_33 rfl rfl ?_
    refine zf_aload_n 0 (q := 35) (j := 0) rfl dX9_worstOfOrder_34 rfl rfl ?_
    refine zf_getR (q := 38) rfl dX9_worstOfOrder_35 lf_RX9_126 (sm0 hG) rfl ?_
    refine zf_iload_n 3 (q := 39) (j := 3) rfl dX9_worstOfOrder_38 rfl rfl ?_
    obtain ⟨v7, ev7, h⟩ := zb h
    refine zf_iald (q := 40) rfl dX9_worstOfOrder_39 (sm39 hG) ev7 ?_
    obtain ⟨r8, s9, es9, h⟩ := zc h
    refine zf_callV (q := 43) (As := [.int v7]) (rest := [.int v6, .ref (zad G 12)]) (st1 := [.int r8, .int v6, .ref (zad G 12)]) rfl dX9_worstOfOrder_40 lv_RX9_310 (sm0 hG) rfl rfl (Nat.le_of_ble_eq_true rfl) (ok_X9_aimOf hG N (Nat.le_trans (by decide) hd) es9) rfl ?_
    obtain ⟨s10, es10, h⟩ := zb h
    refine zf_iast (q := 44) rfl dX9_worstOfOrder_43 (sm12 hG) es10 ?_
    obtain ⟨v11, ev11, h⟩ := zb h
    refine zf_iinc 3 (q := 47) (v := v11) (lv1 := [(3, .int v11), (0, .ref (zad G 0)), (1, .int x1), (2, .int x2)]) rfl dX9_worstOfOrder_44 rfl (by rw [ic1]; exact ev11) (by decide) rfl ?_
    refine zf_goto (tgt := 18) (by decide) dX9_worstOfOrder_47 ?_
    exact zf_sub [1, 2, 3, 0] rfl (hr18 _ _ _ _ h)
def f_X9_worstOfOrder_18 (N : Nat) (rec4 : Int32 → Int32 → ZM → Option (Int32 × ZM)) : Nat → Int32 → Int32 → Int32 → ZM → Option (Int32 × ZM)
  | 0, _, _, _, _ => none
  | n + 1, x1, x2, x3, σ => b_X9_worstOfOrder_18 N rec4 (f_X9_worstOfOrder_18 N rec4 n) x1 x2 x3 σ
theorem ok_X9_worstOfOrder_18 {G : ZG} (hG : zSH G = shM) (N : Nat) {d : Nat} (hd : 4 ≤ d) {rec4 : Int32 → Int32 → ZM → Option (Int32 × ZM)} {res : Int32 × ZM} (hr4 : ∀ (x1 : Int32) (x2 : Int32) (σ : ZM), rec4 x1 x2 σ = some res → zF G MX9_worstOfOrder (d + 1) 4 [(0, .ref (zad G 0)), (1, .int x1), (2, .int x2)] [] σ (some (.int res.1)) res.2) : ∀ (n : Nat) (x1 : Int32) (x2 : Int32) (x3 : Int32) (σ : ZM), f_X9_worstOfOrder_18 N rec4 n x1 x2 x3 σ = some res → zF G MX9_worstOfOrder (d + 1) 18 [(0, .ref (zad G 0)), (1, .int x1), (2, .int x2), (3, .int x3)] [] σ (some (.int res.1)) res.2 := by
  intro n
  induction n with
  | zero => intro x1 x2 x3 σ h; exact absurd h (by simp [f_X9_worstOfOrder_18])
  | succ n ih => intro x1 x2 x3 σ h; rw [f_X9_worstOfOrder_18] at h; exact ok_b_X9_worstOfOrder_18 hG N hd hr4 ih h
def b_X9_worstOfOrder_4 (N : Nat) (rec4 : Int32 → Int32 → ZM → Option (Int32 × ZM)) (x1 : Int32) (x2 : Int32) (σ : ZM) : Option (Int32 × ZM) :=
  if (σ.1 0 53) ≤ x2 then
  (some (x1, σ))
  else
  (zbd (f_X9_askNow N σ) fun r12 s13 =>
  f_X9_worstOfOrder_18 N rec4 N x1 x2 (0 : Int32) s13)
set_option maxRecDepth 100000 in
theorem ok_b_X9_worstOfOrder_4 {G : ZG} (hG : zSH G = shM) (N : Nat) {d : Nat} (hd : 4 ≤ d) {rec4 : Int32 → Int32 → ZM → Option (Int32 × ZM)} {res : Int32 × ZM} (hr4 : ∀ (x1 : Int32) (x2 : Int32) (σ : ZM), rec4 x1 x2 σ = some res → zF G MX9_worstOfOrder (d + 1) 4 [(0, .ref (zad G 0)), (1, .int x1), (2, .int x2)] [] σ (some (.int res.1)) res.2) {x1 : Int32} {x2 : Int32} {σ : ZM} (h : b_X9_worstOfOrder_4 N rec4 x1 x2 σ = some res) : zF G MX9_worstOfOrder (d + 1) 4 [(0, .ref (zad G 0)), (1, .int x1), (2, .int x2)] [] σ (some (.int res.1)) res.2 := by
  unfold b_X9_worstOfOrder_4 at h
  refine zf_iload_n 2 (q := 5) (j := 2) rfl dX9_worstOfOrder_4 rfl rfl ?_
  refine zf_aload_n 0 (q := 6) (j := 0) rfl dX9_worstOfOrder_5 rfl rfl ?_
  refine zf_getI (q := 9) rfl dX9_worstOfOrder_6 lf_RX9_313 (sm0 hG) rfl ?_
  refine zf_icmp_ge (q := 12) (tgt := 85) rfl (by decide) dX9_worstOfOrder_9 (fun hc9 => ?_) (fun hc9 => ?_)
  · replace h := (zi h).1 hc9
    refine zf_iload_n 1 (q := 86) (j := 1) rfl dX9_worstOfOrder_85 rfl rfl ?_
    cases h
    exact zf_ireturn dX9_worstOfOrder_86 rfl
  · replace h := (zi h).2 hc9
    refine zf_aload_n 0 (q := 13) (j := 0) rfl dX9_worstOfOrder_12 rfl rfl ?_
    obtain ⟨r12, s13, es13, h⟩ := zc h
    refine zf_callV (q := 16) (As := []) (rest := []) (st1 := []) rfl dX9_worstOfOrder_13 lv_RX9_209 (sm0 hG) rfl rfl (Nat.le_of_ble_eq_true rfl) (ok_X9_askNow hG N (Nat.le_trans (by decide) hd) es13) rfl ?_
    refine zf_iconst (q := 17) rfl dX9_worstOfOrder_16 ic0 ?_
    refine zf_istore_n (q := 18) (y := (0 : Int32)) (i := 3) (lv1 := [(3, .int (0 : Int32)), (0, .ref (zad G 0)), (1, .int x1), (2, .int x2)]) rfl dX9_worstOfOrder_17 rfl (by decide) rfl rfl ?_
    exact zf_sub [1, 2, 3, 0] rfl (ok_X9_worstOfOrder_18 hG N hd hr4 _ _ _ _ _ h)
def f_X9_worstOfOrder_4 (N : Nat) : Nat → Int32 → Int32 → ZM → Option (Int32 × ZM)
  | 0, _, _, _ => none
  | n + 1, x1, x2, σ => b_X9_worstOfOrder_4 N (f_X9_worstOfOrder_4 N n) x1 x2 σ
theorem ok_X9_worstOfOrder_4 {G : ZG} (hG : zSH G = shM) (N : Nat) {d : Nat} (hd : 4 ≤ d) {res : Int32 × ZM} : ∀ (n : Nat) (x1 : Int32) (x2 : Int32) (σ : ZM), f_X9_worstOfOrder_4 N n x1 x2 σ = some res → zF G MX9_worstOfOrder (d + 1) 4 [(0, .ref (zad G 0)), (1, .int x1), (2, .int x2)] [] σ (some (.int res.1)) res.2 := by
  intro n
  induction n with
  | zero => intro x1 x2 σ h; exact absurd h (by simp [f_X9_worstOfOrder_4])
  | succ n ih => intro x1 x2 σ h; rw [f_X9_worstOfOrder_4] at h; exact ok_b_X9_worstOfOrder_4 hG N hd ih h
def f_X9_worstOfOrder (N : Nat) (σ : ZM) : Option (Int32 × ZM) :=
  f_X9_worstOfOrder_4 N N (0 : Int32) (0 : Int32) σ
set_option maxRecDepth 100000 in
theorem ok_X9_worstOfOrder {G : ZG} (hG : zSH G = shM) (N : Nat) {d : Nat} (hd : 5 ≤ d) {σ : ZM} {res : Int32 × ZM} (h : f_X9_worstOfOrder N σ = some res) : zCt G d MX9_worstOfOrder [.ref (zad G 0)] σ (some (.int res.1)) res.2 := by
  obtain ⟨d, rfl⟩ : ∃ k, d = k + 1 := ⟨d - 1, by omega⟩
  have hd : 4 ≤ d := by omega
  refine zct_of (by decide) (Nat.le_of_ble_eq_true rfl) (lv := [(0, .ref (zad G 0))]) rfl ?_
  unfold f_X9_worstOfOrder at h
  refine zf_iconst (q := 1) rfl dX9_worstOfOrder_0 ic0 ?_
  refine zf_istore_n (q := 2) (y := (0 : Int32)) (i := 1) (lv1 := [(1, .int (0 : Int32)), (0, .ref (zad G 0))]) rfl dX9_worstOfOrder_1 rfl (by decide) rfl rfl ?_
  refine zf_iconst (q := 3) rfl dX9_worstOfOrder_2 ic0 ?_
  refine zf_istore_n (q := 4) (y := (0 : Int32)) (i := 2) (lv1 := [(2, .int (0 : Int32)), (1, .int (0 : Int32)), (0, .ref (zad G 0))]) rfl dX9_worstOfOrder_3 rfl (by decide) rfl rfl ?_
  exact zf_sub [2, 1, 0] rfl (ok_X9_worstOfOrder_4 hG N hd _ _ _ _ h)
-- ===== X9_layOrders: NearCopiesModel.layOrders()V
def f_X9_layOrders_87 (N : Nat) (rec15 : Int32 → ZM → Option (Unit × ZM)) (x1 : Int32) (σ : ZM) : Option (Unit × ZM) :=
  (some (x1 + (1 : Int32))).bind fun v1 =>
  rec15 v1 σ
set_option maxRecDepth 100000 in
theorem ok_X9_layOrders_87 {G : ZG} (hG : zSH G = shM) (N : Nat) {d : Nat} (hd : 5 ≤ d) {rec15 : Int32 → ZM → Option (Unit × ZM)} {res : Unit × ZM} (hr15 : ∀ (x1 : Int32) (σ : ZM), rec15 x1 σ = some res → zF G MX9_layOrders (d + 1) 15 [(0, .ref (zad G 0)), (1, .int x1)] [] σ none res.2) {x1 : Int32} {σ : ZM} (h : f_X9_layOrders_87 N rec15 x1 σ = some res) : zF G MX9_layOrders (d + 1) 87 [(0, .ref (zad G 0)), (1, .int x1)] [] σ none res.2 := by
  unfold f_X9_layOrders_87 at h
  obtain ⟨v1, ev1, h⟩ := zb h
  refine zf_iinc 1 (q := 90) (v := v1) (lv1 := [(1, .int v1), (0, .ref (zad G 0))]) rfl dX9_layOrders_87 rfl (by rw [ic1]; exact ev1) (by decide) rfl ?_
  refine zf_goto (tgt := 15) (by decide) dX9_layOrders_90 ?_
  exact zf_sub [1, 0] rfl (hr15 _ _ h)
def b_X9_layOrders_64 (N : Nat) (rec15 : Int32 → ZM → Option (Unit × ZM)) (rec64 : Int32 → Int32 → ZM → Option (Unit × ZM)) (x1 : Int32) (x3 : Int32) (σ : ZM) : Option (Unit × ZM) :=
  if (4 : Int32) ≤ x3 then
  (f_X9_layOrders_87 N rec15 x1 σ)
  else
  ((zald σ 39 4 x3).bind fun v2 =>
  (zast σ 40 4 x3 v2).bind fun s3 =>
  (some (x3 + (1 : Int32))).bind fun v4 =>
  rec64 x1 v4 s3)
set_option maxRecDepth 100000 in
theorem ok_b_X9_layOrders_64 {G : ZG} (hG : zSH G = shM) (N : Nat) {d : Nat} (hd : 5 ≤ d) {rec15 : Int32 → ZM → Option (Unit × ZM)} {rec64 : Int32 → Int32 → ZM → Option (Unit × ZM)} {res : Unit × ZM} (hr15 : ∀ (x1 : Int32) (σ : ZM), rec15 x1 σ = some res → zF G MX9_layOrders (d + 1) 15 [(0, .ref (zad G 0)), (1, .int x1)] [] σ none res.2) (hr64 : ∀ (x1 : Int32) (x3 : Int32) (σ : ZM), rec64 x1 x3 σ = some res → zF G MX9_layOrders (d + 1) 64 [(0, .ref (zad G 0)), (1, .int x1), (3, .int x3)] [] σ none res.2) {x1 : Int32} {x3 : Int32} {σ : ZM} (h : b_X9_layOrders_64 N rec15 rec64 x1 x3 σ = some res) : zF G MX9_layOrders (d + 1) 64 [(0, .ref (zad G 0)), (1, .int x1), (3, .int x3)] [] σ none res.2 := by
  unfold b_X9_layOrders_64 at h
  refine zf_iload_n 2 (q := 65) (j := 3) rfl dX9_layOrders_64 rfl rfl ?_
  refine zf_iconst (q := 66) rfl dX9_layOrders_65 ic4 ?_
  refine zf_icmp_ge (q := 69) (tgt := 87) rfl (by decide) dX9_layOrders_66 (fun hc66 => ?_) (fun hc66 => ?_)
  · replace h := (zi h).1 hc66
    exact zf_sub [0, 1] rfl (ok_X9_layOrders_87 hG N hd hr15 h)
  · replace h := (zi h).2 hc66
    refine zf_aload_n 0 (q := 70) (j := 0) rfl dX9_layOrders_69 rfl rfl ?_
    refine zf_getR (q := 73) rfl dX9_layOrders_70 lf_RX9_129 (sm0 hG) rfl ?_
    refine zf_iload_n 2 (q := 74) (j := 3) rfl dX9_layOrders_73 rfl rfl ?_
    refine zf_aload_n 0 (q := 75) (j := 0) rfl dX9_layOrders_74 rfl rfl ?_
    refine zf_getR (q := 78) rfl dX9_layOrders_75 lf_RX9_126 (sm0 hG) rfl ?_
    refine zf_iload_n 2 (q := 79) (j := 3) rfl dX9_layOrders_78 rfl rfl ?_
    obtain ⟨v2, ev2, h⟩ := zb h
    refine zf_iald (q := 80) rfl dX9_layOrders_79 (sm39 hG) ev2 ?_
    obtain ⟨s3, es3, h⟩ := zb h
    refine zf_iast (q := 81) rfl dX9_layOrders_80 (sm40 hG) es3 ?_
    obtain ⟨v4, ev4, h⟩ := zb h
    refine zf_iinc 2 (q := 84) (v := v4) (lv1 := [(3, .int v4), (0, .ref (zad G 0)), (1, .int x1)]) rfl dX9_layOrders_81 rfl (by rw [ic1]; exact ev4) (by decide) rfl ?_
    refine zf_goto (tgt := 64) (by decide) dX9_layOrders_84 ?_
    exact zf_sub [1, 2, 0] rfl (hr64 _ _ _ h)
def f_X9_layOrders_64 (N : Nat) (rec15 : Int32 → ZM → Option (Unit × ZM)) : Nat → Int32 → Int32 → ZM → Option (Unit × ZM)
  | 0, _, _, _ => none
  | n + 1, x1, x3, σ => b_X9_layOrders_64 N rec15 (f_X9_layOrders_64 N rec15 n) x1 x3 σ
theorem ok_X9_layOrders_64 {G : ZG} (hG : zSH G = shM) (N : Nat) {d : Nat} (hd : 5 ≤ d) {rec15 : Int32 → ZM → Option (Unit × ZM)} {res : Unit × ZM} (hr15 : ∀ (x1 : Int32) (σ : ZM), rec15 x1 σ = some res → zF G MX9_layOrders (d + 1) 15 [(0, .ref (zad G 0)), (1, .int x1)] [] σ none res.2) : ∀ (n : Nat) (x1 : Int32) (x3 : Int32) (σ : ZM), f_X9_layOrders_64 N rec15 n x1 x3 σ = some res → zF G MX9_layOrders (d + 1) 64 [(0, .ref (zad G 0)), (1, .int x1), (3, .int x3)] [] σ none res.2 := by
  intro n
  induction n with
  | zero => intro x1 x3 σ h; exact absurd h (by simp [f_X9_layOrders_64])
  | succ n ih => intro x1 x3 σ h; rw [f_X9_layOrders_64] at h; exact ok_b_X9_layOrders_64 hG N hd hr15 ih h
def f_X9_layOrders_57 (N : Nat) (rec15 : Int32 → ZM → Option (Unit × ZM)) (x1 : Int32) (x2 : Int32) (σ : ZM) : Option (Unit × ZM) :=
  (zpI σ 0 56 x2).bind fun s5 =>
  f_X9_layOrders_64 N rec15 N x1 (0 : Int32) s5
set_option maxRecDepth 100000 in
theorem ok_X9_layOrders_57 {G : ZG} (hG : zSH G = shM) (N : Nat) {d : Nat} (hd : 5 ≤ d) {rec15 : Int32 → ZM → Option (Unit × ZM)} {res : Unit × ZM} (hr15 : ∀ (x1 : Int32) (σ : ZM), rec15 x1 σ = some res → zF G MX9_layOrders (d + 1) 15 [(0, .ref (zad G 0)), (1, .int x1)] [] σ none res.2) {x1 : Int32} {x2 : Int32} {σ : ZM} (h : f_X9_layOrders_57 N rec15 x1 x2 σ = some res) : zF G MX9_layOrders (d + 1) 57 [(0, .ref (zad G 0)), (1, .int x1), (2, .int x2)] [] σ none res.2 := by
  unfold f_X9_layOrders_57 at h
  refine zf_aload_n 0 (q := 58) (j := 0) rfl dX9_layOrders_57 rfl rfl ?_
  refine zf_iload_n 2 (q := 59) (j := 2) rfl dX9_layOrders_58 rfl rfl ?_
  obtain ⟨s5, es5, h⟩ := zb h
  refine zf_putI (q := 62) rfl dX9_layOrders_59 lp_RX9_320 (sm0 hG) rfl es5 ?_
  refine zf_iconst (q := 63) rfl dX9_layOrders_62 ic0 ?_
  refine zf_istore_n (q := 64) (y := (0 : Int32)) (i := 3) (lv1 := [(3, .int (0 : Int32)), (0, .ref (zad G 0)), (1, .int x1), (2, .int x2)]) rfl dX9_layOrders_63 rfl (by decide) rfl rfl ?_
  exact zf_sub [1, 2, 0] rfl (ok_X9_layOrders_64 hG N hd hr15 _ _ _ _ h)
def b_X9_layOrders_15 (N : Nat) (rec15 : Int32 → ZM → Option (Unit × ZM)) (x1 : Int32) (σ : ZM) : Option (Unit × ZM) :=
  if (256 : Int32) ≤ x1 then
  (some ((), σ))
  else
  (if (σ.1 0 53) ≤ 0 then
  (some ((), σ))
  else
  (zbd (f_X9_layOrder N x1 σ) fun r6 s7 =>
  if r6 = 0 then
  (f_X9_layOrders_87 N rec15 x1 s7)
  else
  (zbd (f_X9_worstOfOrder N s7) fun r8 s9 =>
  if (s9.1 0 56) < 0 then
  (f_X9_layOrders_57 N rec15 x1 r8 s9)
  else
  (if (s9.1 0 56) ≤ r8 then
  (f_X9_layOrders_87 N rec15 x1 s9)
  else
  (f_X9_layOrders_57 N rec15 x1 r8 s9)))))
set_option maxRecDepth 100000 in
theorem ok_b_X9_layOrders_15 {G : ZG} (hG : zSH G = shM) (N : Nat) {d : Nat} (hd : 5 ≤ d) {rec15 : Int32 → ZM → Option (Unit × ZM)} {res : Unit × ZM} (hr15 : ∀ (x1 : Int32) (σ : ZM), rec15 x1 σ = some res → zF G MX9_layOrders (d + 1) 15 [(0, .ref (zad G 0)), (1, .int x1)] [] σ none res.2) {x1 : Int32} {σ : ZM} (h : b_X9_layOrders_15 N rec15 x1 σ = some res) : zF G MX9_layOrders (d + 1) 15 [(0, .ref (zad G 0)), (1, .int x1)] [] σ none res.2 := by
  unfold b_X9_layOrders_15 at h
  refine zf_iload_n 1 (q := 16) (j := 1) rfl dX9_layOrders_15 rfl rfl ?_
  refine zf_sipush (q := 19) rfl dX9_layOrders_16 sp256 ?_
  refine zf_icmp_ge (q := 22) (tgt := 93) rfl (by decide) dX9_layOrders_19 (fun hc19 => ?_) (fun hc19 => ?_)
  · replace h := (zi h).1 hc19
    cases h
    exact zf_return dX9_layOrders_93 rfl
  · replace h := (zi h).2 hc19
    refine zf_aload_n 0 (q := 23) (j := 0) rfl dX9_layOrders_22 rfl rfl ?_
    refine zf_getI (q := 26) rfl dX9_layOrders_23 lf_RX9_313 (sm0 hG) rfl ?_
    refine zf_if_le (q := 29) (tgt := 93) rfl (by decide) dX9_layOrders_26 (fun hc26 => ?_) (fun hc26 => ?_)
    · replace h := (zi h).1 hc26
      cases h
      exact zf_return dX9_layOrders_93 rfl
    · replace h := (zi h).2 hc26
      refine zf_aload_n 0 (q := 30) (j := 0) rfl dX9_layOrders_29 rfl rfl ?_
      refine zf_iload_n 1 (q := 31) (j := 1) rfl dX9_layOrders_30 rfl rfl ?_
      obtain ⟨r6, s7, es7, h⟩ := zc h
      refine zf_callV (q := 34) (As := [.int x1]) (rest := []) (st1 := [.int r6]) rfl dX9_layOrders_31 lv_RX9_323 (sm0 hG) rfl rfl (Nat.le_of_ble_eq_true rfl) (ok_X9_layOrder hG N (Nat.le_trans (by decide) hd) es7) rfl ?_
      refine zf_if_eq (q := 37) (tgt := 87) rfl (by decide) dX9_layOrders_34 (fun hc34 => ?_) (fun hc34 => ?_)
      · replace h := (zi h).1 hc34
        exact zf_sub [0, 1] rfl (ok_X9_layOrders_87 hG N hd hr15 h)
      · replace h := (zi h).2 hc34
        refine zf_aload_n 0 (q := 38) (j := 0) rfl dX9_layOrders_37 rfl rfl ?_
        obtain ⟨r8, s9, es9, h⟩ := zc h
        refine zf_callV (q := 41) (As := []) (rest := []) (st1 := [.int r8]) rfl dX9_layOrders_38 lv_RX9_326 (sm0 hG) rfl rfl (Nat.le_of_ble_eq_true rfl) (ok_X9_worstOfOrder hG N (Nat.le_trans (by decide) hd) es9) rfl ?_
        refine zf_istore_n (q := 42) (y := r8) (i := 2) (lv1 := [(2, .int r8), (0, .ref (zad G 0)), (1, .int x1)]) rfl dX9_layOrders_41 rfl (by decide) rfl rfl ?_
        refine zf_aload_n 1 (q := 43) (j := 0) rfl dX9_layOrders_42 rfl rfl ?_
        refine zf_getI (q := 46) rfl dX9_layOrders_43 lf_RX9_320 (sm0 hG) rfl ?_
        refine zf_if_lt (q := 49) (tgt := 57) rfl (by decide) dX9_layOrders_46 (fun hc46 => ?_) (fun hc46 => ?_)
        · replace h := (zi h).1 hc46
          exact zf_sub [1, 2, 0] rfl (ok_X9_layOrders_57 hG N hd hr15 h)
        · replace h := (zi h).2 hc46
          refine zf_iload_n 0 (q := 50) (j := 2) rfl dX9_layOrders_49 rfl rfl ?_
          refine zf_aload_n 1 (q := 51) (j := 0) rfl dX9_layOrders_50 rfl rfl ?_
          refine zf_getI (q := 54) rfl dX9_layOrders_51 lf_RX9_320 (sm0 hG) rfl ?_
          refine zf_icmp_ge (q := 57) (tgt := 87) rfl (by decide) dX9_layOrders_54 (fun hc54 => ?_) (fun hc54 => ?_)
          · replace h := (zi h).1 hc54
            exact zf_sub [1, 2] rfl (ok_X9_layOrders_87 hG N hd hr15 h)
          · replace h := (zi h).2 hc54
            exact zf_sub [1, 2, 0] rfl (ok_X9_layOrders_57 hG N hd hr15 h)
def f_X9_layOrders_15 (N : Nat) : Nat → Int32 → ZM → Option (Unit × ZM)
  | 0, _, _ => none
  | n + 1, x1, σ => b_X9_layOrders_15 N (f_X9_layOrders_15 N n) x1 σ
theorem ok_X9_layOrders_15 {G : ZG} (hG : zSH G = shM) (N : Nat) {d : Nat} (hd : 5 ≤ d) {res : Unit × ZM} : ∀ (n : Nat) (x1 : Int32) (σ : ZM), f_X9_layOrders_15 N n x1 σ = some res → zF G MX9_layOrders (d + 1) 15 [(0, .ref (zad G 0)), (1, .int x1)] [] σ none res.2 := by
  intro n
  induction n with
  | zero => intro x1 σ h; exact absurd h (by simp [f_X9_layOrders_15])
  | succ n ih => intro x1 σ h; rw [f_X9_layOrders_15] at h; exact ok_b_X9_layOrders_15 hG N hd ih h
def f_X9_layOrders (N : Nat) (σ : ZM) : Option (Unit × ZM) :=
  zbd (f_X9_stepCount N σ) fun r10 s11 =>
  (zpI s11 0 53 r10).bind fun s12 =>
  (zpI s12 0 56 (-1 : Int32)).bind fun s13 =>
  f_X9_layOrders_15 N N (0 : Int32) s13
set_option maxRecDepth 100000 in
theorem ok_X9_layOrders {G : ZG} (hG : zSH G = shM) (N : Nat) {d : Nat} (hd : 6 ≤ d) {σ : ZM} {res : Unit × ZM} (h : f_X9_layOrders N σ = some res) : zCt G d MX9_layOrders [.ref (zad G 0)] σ none res.2 := by
  obtain ⟨d, rfl⟩ : ∃ k, d = k + 1 := ⟨d - 1, by omega⟩
  have hd : 5 ≤ d := by omega
  refine zct_of (by decide) (Nat.le_of_ble_eq_true rfl) (lv := [(0, .ref (zad G 0))]) rfl ?_
  unfold f_X9_layOrders at h
  refine zf_aload_n 0 (q := 1) (j := 0) rfl dX9_layOrders_0 rfl rfl ?_
  refine zf_aload_n 0 (q := 2) (j := 0) rfl dX9_layOrders_1 rfl rfl ?_
  obtain ⟨r10, s11, es11, h⟩ := zc h
  refine zf_callV (q := 5) (As := []) (rest := [.ref (zad G 0)]) (st1 := [.int r10, .ref (zad G 0)]) rfl dX9_layOrders_2 lv_RX9_317 (sm0 hG) rfl rfl (Nat.le_of_ble_eq_true rfl) (ok_X9_stepCount hG N (Nat.le_trans (by decide) hd) es11) rfl ?_
  obtain ⟨s12, es12, h⟩ := zb h
  refine zf_putI (q := 8) rfl dX9_layOrders_5 lp_RX9_313 (sm0 hG) rfl es12 ?_
  refine zf_aload_n 0 (q := 9) (j := 0) rfl dX9_layOrders_8 rfl rfl ?_
  refine zf_iconst (q := 10) rfl dX9_layOrders_9 icm1 ?_
  obtain ⟨s13, es13, h⟩ := zb h
  refine zf_putI (q := 13) rfl dX9_layOrders_10 lp_RX9_320 (sm0 hG) rfl es13 ?_
  refine zf_iconst (q := 14) rfl dX9_layOrders_13 ic0 ?_
  refine zf_istore_n (q := 15) (y := (0 : Int32)) (i := 1) (lv1 := [(1, .int (0 : Int32)), (0, .ref (zad G 0))]) rfl dX9_layOrders_14 rfl (by decide) rfl rfl ?_
  exact zf_sub [1, 0] rfl (ok_X9_layOrders_15 hG N hd _ _ _ h)
-- ===== X9_steps: NearCopiesModel.steps()I
def f_X9_steps (N : Nat) (σ : ZM) : Option (Int32 × ZM) :=
  zbd (f_X9_stepCount N σ) fun r1 s2 =>
  some (r1, s2)
set_option maxRecDepth 100000 in
theorem ok_X9_steps {G : ZG} (hG : zSH G = shM) (N : Nat) {d : Nat} (hd : 2 ≤ d) {σ : ZM} {res : Int32 × ZM} (h : f_X9_steps N σ = some res) : zCt G d MX9_steps [.ref (zad G 0)] σ (some (.int res.1)) res.2 := by
  obtain ⟨d, rfl⟩ : ∃ k, d = k + 1 := ⟨d - 1, by omega⟩
  have hd : 1 ≤ d := by omega
  refine zct_of (by decide) (Nat.le_of_ble_eq_true rfl) (lv := [(0, .ref (zad G 0))]) rfl ?_
  unfold f_X9_steps at h
  refine zf_aload_n 0 (q := 1) (j := 0) rfl dX9_steps_0 rfl rfl ?_
  obtain ⟨r1, s2, es2, h⟩ := zc h
  refine zf_callV (q := 4) (As := []) (rest := []) (st1 := [.int r1]) rfl dX9_steps_1 lv_RX9_317 (sm0 hG) rfl rfl (Nat.le_of_ble_eq_true rfl) (ok_X9_stepCount hG N (Nat.le_trans (by decide) hd) es2) rfl ?_
  cases h
  exact zf_ireturn dX9_steps_4 rfl
-- ===== X9_step: NearCopiesModel.step(I)I
def f_X9_step (N : Nat) (x1 : Int32) (σ : ZM) : Option (Int32 × ZM) :=
  zbd (f_X9_layOrders N σ) fun r1 s2 =>
  zbd (f_X9_in N (Int32.toInt64 x1) (0 : Int64) (Int32.toInt64 ((s2.1 0 53) - (1 : Int32))) s2) fun r3 s4 =>
  if r3 = 0 then
  (some ((-9 : Int32), s4))
  else
  ((zald s4 40 4 x1).bind fun v5 =>
  some (v5, s4))
set_option maxRecDepth 100000 in
theorem ok_X9_step {G : ZG} (hG : zSH G = shM) (N : Nat) {d : Nat} (hd : 7 ≤ d) {x1 : Int32} {σ : ZM} {res : Int32 × ZM} (h : f_X9_step N x1 σ = some res) : zCt G d MX9_step [.ref (zad G 0), .int x1] σ (some (.int res.1)) res.2 := by
  obtain ⟨d, rfl⟩ : ∃ k, d = k + 1 := ⟨d - 1, by omega⟩
  have hd : 6 ≤ d := by omega
  refine zct_of (by decide) (Nat.le_of_ble_eq_true rfl) (lv := [(0, .ref (zad G 0)), (1, .int x1)]) rfl ?_
  unfold f_X9_step at h
  refine zf_aload_n 0 (q := 1) (j := 0) rfl dX9_step_0 rfl rfl ?_
  obtain ⟨r1, s2, es2, h⟩ := zc h
  refine zf_callV (q := 4) (As := []) (rest := []) (st1 := []) rfl dX9_step_1 lv_RX9_329 (sm0 hG) rfl rfl (Nat.le_of_ble_eq_true rfl) (ok_X9_layOrders hG N (Nat.le_trans (by decide) hd) es2) rfl ?_
  refine zf_iload_n 1 (q := 5) (j := 1) rfl dX9_step_4 rfl rfl ?_
  refine zf_i2l (q := 6) rfl dX9_step_5 ?_
  refine zf_lconst (q := 7) (v := 0) rfl dX9_step_6 (by decide) ?_
  refine zf_aload_n 0 (q := 8) (j := 0) rfl dX9_step_7 rfl rfl ?_
  refine zf_getI (q := 11) rfl dX9_step_8 lf_RX9_313 (sm0 hG) rfl ?_
  refine zf_iconst (q := 12) rfl dX9_step_11 ic1 ?_
  refine zf_isub (q := 13) rfl dX9_step_12 ?_
  refine zf_i2l (q := 14) rfl dX9_step_13 ?_
  obtain ⟨r3, s4, es4, h⟩ := zc h
  refine zf_callS (q := 17) (As := [.long (Int32.toInt64 x1), .long (0 : Int64), .long (Int32.toInt64 ((s2.1 0 53) - (1 : Int32)))]) (rest := []) (st1 := [.int r3]) rfl dX9_step_14 ls_RX9_136 rfl rfl (Nat.le_of_ble_eq_true rfl) (ok_X9_in hG N (Nat.le_trans (by decide) hd) es4) rfl ?_
  refine zf_if_eq (q := 20) (tgt := 29) rfl (by decide) dX9_step_17 (fun hc17 => ?_) (fun hc17 => ?_)
  · replace h := (zi h).1 hc17
    refine zf_bipush (q := 31) rfl dX9_step_29 bpm9 ?_
    cases h
    exact zf_ireturn dX9_step_31 rfl
  · replace h := (zi h).2 hc17
    refine zf_aload_n 0 (q := 21) (j := 0) rfl dX9_step_20 rfl rfl ?_
    refine zf_getR (q := 24) rfl dX9_step_21 lf_RX9_129 (sm0 hG) rfl ?_
    refine zf_iload_n 1 (q := 25) (j := 1) rfl dX9_step_24 rfl rfl ?_
    obtain ⟨v5, ev5, h⟩ := zb h
    refine zf_iald (q := 26) rfl dX9_step_25 (sm40 hG) ev5 ?_
    refine zf_goto (tgt := 31) (by decide) dX9_step_26 ?_
    cases h
    exact zf_ireturn dX9_step_31 rfl
-- ===== X9_stepWorst: NearCopiesModel.stepWorst()I
def f_X9_stepWorst (N : Nat) (σ : ZM) : Option (Int32 × ZM) :=
  zbd (f_X9_layOrders N σ) fun r1 s2 =>
  if (s2.1 0 53) = 0 then
  (some ((0 : Int32), s2))
  else
  (some ((s2.1 0 56), s2))
set_option maxRecDepth 100000 in
theorem ok_X9_stepWorst {G : ZG} (hG : zSH G = shM) (N : Nat) {d : Nat} (hd : 7 ≤ d) {σ : ZM} {res : Int32 × ZM} (h : f_X9_stepWorst N σ = some res) : zCt G d MX9_stepWorst [.ref (zad G 0)] σ (some (.int res.1)) res.2 := by
  obtain ⟨d, rfl⟩ : ∃ k, d = k + 1 := ⟨d - 1, by omega⟩
  have hd : 6 ≤ d := by omega
  refine zct_of (by decide) (Nat.le_of_ble_eq_true rfl) (lv := [(0, .ref (zad G 0))]) rfl ?_
  unfold f_X9_stepWorst at h
  refine zf_aload_n 0 (q := 1) (j := 0) rfl dX9_stepWorst_0 rfl rfl ?_
  obtain ⟨r1, s2, es2, h⟩ := zc h
  refine zf_callV (q := 4) (As := []) (rest := []) (st1 := []) rfl dX9_stepWorst_1 lv_RX9_329 (sm0 hG) rfl rfl (Nat.le_of_ble_eq_true rfl) (ok_X9_layOrders hG N (Nat.le_trans (by decide) hd) es2) rfl ?_
  refine zf_aload_n 0 (q := 5) (j := 0) rfl dX9_stepWorst_4 rfl rfl ?_
  refine zf_getI (q := 8) rfl dX9_stepWorst_5 lf_RX9_313 (sm0 hG) rfl ?_
  refine zf_if_ne (q := 11) (tgt := 15) rfl (by decide) dX9_stepWorst_8 (fun hc8 => ?_) (fun hc8 => ?_)
  · replace h := (zi h).2 hc8
    refine zf_aload_n 0 (q := 16) (j := 0) rfl dX9_stepWorst_15 rfl rfl ?_
    refine zf_getI (q := 19) rfl dX9_stepWorst_16 lf_RX9_320 (sm0 hG) rfl ?_
    cases h
    exact zf_ireturn dX9_stepWorst_19 rfl
  · replace h := (zi h).1 hc8
    refine zf_iconst (q := 12) rfl dX9_stepWorst_11 ic0 ?_
    refine zf_goto (tgt := 19) (by decide) dX9_stepWorst_12 ?_
    cases h
    exact zf_ireturn dX9_stepWorst_19 rfl
-- ===== X9_go: NearCopiesModel.go()I
def f_X9_go (N : Nat) (σ : ZM) : Option (Int32 × ZM) :=
  zbd (f_X9_layOrders N σ) fun r1 s2 =>
  if (s2.1 0 53) = 0 then
  (some ((-9 : Int32), s2))
  else
  ((zald s2 40 4 (0 : Int32)).bind fun v3 =>
  zbd (f_X9_aimOf N v3 s2) fun r4 s5 =>
  (zast s5 7 4 v3 r4).bind fun s6 =>
  some (v3, s6))
set_option maxRecDepth 100000 in
theorem ok_X9_go {G : ZG} (hG : zSH G = shM) (N : Nat) {d : Nat} (hd : 7 ≤ d) {σ : ZM} {res : Int32 × ZM} (h : f_X9_go N σ = some res) : zCt G d MX9_go [.ref (zad G 0)] σ (some (.int res.1)) res.2 := by
  obtain ⟨d, rfl⟩ : ∃ k, d = k + 1 := ⟨d - 1, by omega⟩
  have hd : 6 ≤ d := by omega
  refine zct_of (by decide) (Nat.le_of_ble_eq_true rfl) (lv := [(0, .ref (zad G 0))]) rfl ?_
  unfold f_X9_go at h
  refine zf_aload_n 0 (q := 1) (j := 0) rfl dX9_go_0 rfl rfl ?_
  obtain ⟨r1, s2, es2, h⟩ := zc h
  refine zf_callV (q := 4) (As := []) (rest := []) (st1 := []) rfl dX9_go_1 lv_RX9_329 (sm0 hG) rfl rfl (Nat.le_of_ble_eq_true rfl) (ok_X9_layOrders hG N (Nat.le_trans (by decide) hd) es2) rfl ?_
  refine zf_aload_n 0 (q := 5) (j := 0) rfl dX9_go_4 rfl rfl ?_
  refine zf_getI (q := 8) rfl dX9_go_5 lf_RX9_313 (sm0 hG) rfl ?_
  refine zf_if_ne (q := 11) (tgt := 14) rfl (by decide) dX9_go_8 (fun hc8 => ?_) (fun hc8 => ?_)
  · replace h := (zi h).2 hc8
    refine zf_aload_n 0 (q := 15) (j := 0) rfl dX9_go_14 rfl rfl ?_
    refine zf_getR (q := 18) rfl dX9_go_15 lf_RX9_129 (sm0 hG) rfl ?_
    refine zf_iconst (q := 19) rfl dX9_go_18 ic0 ?_
    obtain ⟨v3, ev3, h⟩ := zb h
    refine zf_iald (q := 20) rfl dX9_go_19 (sm40 hG) ev3 ?_
    refine zf_istore_n (q := 21) (y := v3) (i := 1) (lv1 := [(1, .int v3), (0, .ref (zad G 0))]) rfl dX9_go_20 rfl (by decide) rfl rfl ?_
    refine zf_aload_n 1 (q := 22) (j := 0) rfl dX9_go_21 rfl rfl ?_
    refine zf_getR (q := 25) rfl dX9_go_22 lf_RX9_29 (sm0 hG) rfl ?_
    refine zf_iload_n 0 (q := 26) (j := 1) rfl dX9_go_25 rfl rfl ?_
    refine zf_aload_n 1 (q := 27) (j := 0) rfl dX9_go_26 rfl rfl ?_
    refine zf_iload_n 0 (q := 28) (j := 1) rfl dX9_go_27 rfl rfl ?_
    obtain ⟨r4, s5, es5, h⟩ := zc h
    refine zf_callV (q := 31) (As := [.int v3]) (rest := [.int v3, .ref (zad G 7)]) (st1 := [.int r4, .int v3, .ref (zad G 7)]) rfl dX9_go_28 lv_RX9_310 (sm0 hG) rfl rfl (Nat.le_of_ble_eq_true rfl) (ok_X9_aimOf hG N (Nat.le_trans (by decide) hd) es5) rfl ?_
    obtain ⟨s6, es6, h⟩ := zb h
    refine zf_iast (q := 32) rfl dX9_go_31 (sm7 hG) es6 ?_
    refine zf_iload_n 0 (q := 33) (j := 1) rfl dX9_go_32 rfl rfl ?_
    cases h
    exact zf_ireturn dX9_go_33 rfl
  · replace h := (zi h).1 hc8
    refine zf_bipush (q := 13) rfl dX9_go_11 bpm9 ?_
    cases h
    exact zf_ireturn dX9_go_13 rfl
-- ===== X9_count: NearCopiesModel.count(I)I
def f_X9_count_86 (N : Nat) (rec46 : Int32 → Int32 → Int32 → Int32 → Int32 → ZM → Option (Int32 × ZM)) (x1 : Int32) (x2 : Int32) (x3 : Int32) (x5 : Int32) (y0 : Int32) (y1 : Int32) (σ : ZM) : Option (Int32 × ZM) :=
  (some (y1 + y0)).bind fun v1 =>
  (some (x5 + (1 : Int32))).bind fun v2 =>
  rec46 x1 x2 x3 v1 v2 σ
set_option maxRecDepth 100000 in
theorem ok_X9_count_86 {G : ZG} (hG : zSH G = shM) (N : Nat) {d : Nat} (hd : 0 ≤ d) {rec46 : Int32 → Int32 → Int32 → Int32 → Int32 → ZM → Option (Int32 × ZM)} {res : Int32 × ZM} (hr46 : ∀ (x1 : Int32) (x2 : Int32) (x3 : Int32) (x4 : Int32) (x5 : Int32) (σ : ZM), rec46 x1 x2 x3 x4 x5 σ = some res → zF G MX9_count (d + 1) 46 [(0, .ref (zad G 0)), (1, .int x1), (2, .int x2), (3, .int x3), (4, .int x4), (5, .int x5)] [] σ (some (.int res.1)) res.2) {x1 : Int32} {x2 : Int32} {x3 : Int32} {x5 : Int32} {y0 : Int32} {y1 : Int32} {σ : ZM} (h : f_X9_count_86 N rec46 x1 x2 x3 x5 y0 y1 σ = some res) : zF G MX9_count (d + 1) 86 [(0, .ref (zad G 0)), (1, .int x1), (2, .int x2), (3, .int x3), (5, .int x5)] [.int y0, .int y1] σ (some (.int res.1)) res.2 := by
  unfold f_X9_count_86 at h
  refine zf_iadd (q := 87) rfl dX9_count_86 ?_
  obtain ⟨v1, ev1, h⟩ := zb h
  refine zf_istore (q := 89) (y := v1) (i := 4) (lv1 := [(4, .int v1), (0, .ref (zad G 0)), (1, .int x1), (2, .int x2), (3, .int x3), (5, .int x5)]) rfl dX9_count_87 (by decide) ev1 rfl ?_
  obtain ⟨v2, ev2, h⟩ := zb h
  refine zf_iinc 5 (q := 92) (v := v2) (lv1 := [(5, .int v2), (4, .int v1), (0, .ref (zad G 0)), (1, .int x1), (2, .int x2), (3, .int x3)]) rfl dX9_count_89 rfl (by rw [ic1]; exact ev2) (by decide) rfl ?_
  refine zf_goto (tgt := 46) (by decide) dX9_count_92 ?_
  exact zf_sub [2, 3, 4, 5, 1, 0] rfl (hr46 _ _ _ _ _ _ h)
def b_X9_count_46 (N : Nat) (rec46 : Int32 → Int32 → Int32 → Int32 → Int32 → ZM → Option (Int32 × ZM)) (x1 : Int32) (x2 : Int32) (x3 : Int32) (x4 : Int32) (x5 : Int32) (σ : ZM) : Option (Int32 × ZM) :=
  if (σ.1 0 0) ≤ x5 then
  (if x1 = (0 : Int32) then
  (some ((σ.1 0 0), σ))
  else if x1 = (1 : Int32) then
  (some ((σ.1 0 1), σ))
  else if x1 = (2 : Int32) then
  (some ((σ.1 0 5), σ))
  else if x1 = (3 : Int32) then
  (some (x2, σ))
  else if x1 = (4 : Int32) then
  (some ((σ.1 0 33), σ))
  else if x1 = (5 : Int32) then
  (some (x3, σ))
  else if x1 = (6 : Int32) then
  (some (x4, σ))
  else 
  (some ((-2 : Int32), σ)))
  else
  ((zald σ 2 10 x5).bind fun v3 =>
  (some (x3 + v3)).bind fun v4 =>
  (zald σ 3 10 x5).bind fun v5 =>
  zbd (f_X9_ones N v5 σ) fun r6 s7 =>
  if r6 = (1 : Int32) then
  (f_X9_count_86 N rec46 x1 x2 v4 x5 (1 : Int32) x4 s7)
  else
  (f_X9_count_86 N rec46 x1 x2 v4 x5 (0 : Int32) x4 s7))
set_option maxRecDepth 100000 in
theorem ok_b_X9_count_46 {G : ZG} (hG : zSH G = shM) (N : Nat) {d : Nat} (hd : 0 ≤ d) {rec46 : Int32 → Int32 → Int32 → Int32 → Int32 → ZM → Option (Int32 × ZM)} {res : Int32 × ZM} (hr46 : ∀ (x1 : Int32) (x2 : Int32) (x3 : Int32) (x4 : Int32) (x5 : Int32) (σ : ZM), rec46 x1 x2 x3 x4 x5 σ = some res → zF G MX9_count (d + 1) 46 [(0, .ref (zad G 0)), (1, .int x1), (2, .int x2), (3, .int x3), (4, .int x4), (5, .int x5)] [] σ (some (.int res.1)) res.2) {x1 : Int32} {x2 : Int32} {x3 : Int32} {x4 : Int32} {x5 : Int32} {σ : ZM} (h : b_X9_count_46 N rec46 x1 x2 x3 x4 x5 σ = some res) : zF G MX9_count (d + 1) 46 [(0, .ref (zad G 0)), (1, .int x1), (2, .int x2), (3, .int x3), (4, .int x4), (5, .int x5)] [] σ (some (.int res.1)) res.2 := by
  unfold b_X9_count_46 at h
  refine zf_iload 5 (q := 48) rfl dX9_count_46 rfl ?_
  refine zf_aload_n 0 (q := 49) (j := 0) rfl dX9_count_48 rfl rfl ?_
  refine zf_getI (q := 52) rfl dX9_count_49 lf_RX9_132 (sm0 hG) rfl ?_
  refine zf_icmp_ge (q := 55) (tgt := 95) rfl (by decide) dX9_count_52 (fun hc52 => ?_) (fun hc52 => ?_)
  · replace h := (zi h).1 hc52
    refine zf_iload_n 1 (q := 96) (j := 1) rfl dX9_count_95 rfl rfl ?_
    by_cases hc96_0 : x1 = (0 : Int32)
    · replace h := (zi h).1 hc96_0
      refine zf_tableIn (off := 44) (tgt := 140) dX9_count_96 (by rw [hc96_0]; decide) (by rw [hc96_0]; decide) (by rw [hc96_0]; rfl) (by decide) ?_
      refine zf_aload_n 0 (q := 141) (j := 0) rfl dX9_count_140 rfl rfl ?_
      refine zf_getI (q := 144) rfl dX9_count_141 lf_RX9_132 (sm0 hG) rfl ?_
      cases h
      exact zf_ireturn dX9_count_144 rfl
    replace h := (zi h).2 hc96_0
    by_cases hc96_1 : x1 = (1 : Int32)
    · replace h := (zi h).1 hc96_1
      refine zf_tableIn (off := 49) (tgt := 145) dX9_count_96 (by rw [hc96_1]; decide) (by rw [hc96_1]; decide) (by rw [hc96_1]; rfl) (by decide) ?_
      refine zf_aload_n 0 (q := 146) (j := 0) rfl dX9_count_145 rfl rfl ?_
      refine zf_getI (q := 149) rfl dX9_count_146 lf_RX9_153 (sm0 hG) rfl ?_
      cases h
      exact zf_ireturn dX9_count_149 rfl
    replace h := (zi h).2 hc96_1
    by_cases hc96_2 : x1 = (2 : Int32)
    · replace h := (zi h).1 hc96_2
      refine zf_tableIn (off := 54) (tgt := 150) dX9_count_96 (by rw [hc96_2]; decide) (by rw [hc96_2]; decide) (by rw [hc96_2]; rfl) (by decide) ?_
      refine zf_aload_n 0 (q := 151) (j := 0) rfl dX9_count_150 rfl rfl ?_
      refine zf_getI (q := 154) rfl dX9_count_151 lf_RX9_140 (sm0 hG) rfl ?_
      cases h
      exact zf_ireturn dX9_count_154 rfl
    replace h := (zi h).2 hc96_2
    by_cases hc96_3 : x1 = (3 : Int32)
    · replace h := (zi h).1 hc96_3
      refine zf_tableIn (off := 59) (tgt := 155) dX9_count_96 (by rw [hc96_3]; decide) (by rw [hc96_3]; decide) (by rw [hc96_3]; rfl) (by decide) ?_
      refine zf_iload_n 2 (q := 156) (j := 2) rfl dX9_count_155 rfl rfl ?_
      cases h
      exact zf_ireturn dX9_count_156 rfl
    replace h := (zi h).2 hc96_3
    by_cases hc96_4 : x1 = (4 : Int32)
    · replace h := (zi h).1 hc96_4
      refine zf_tableIn (off := 61) (tgt := 157) dX9_count_96 (by rw [hc96_4]; decide) (by rw [hc96_4]; decide) (by rw [hc96_4]; rfl) (by decide) ?_
      refine zf_aload_n 0 (q := 158) (j := 0) rfl dX9_count_157 rfl rfl ?_
      refine zf_getI (q := 161) rfl dX9_count_158 lf_RX9_238 (sm0 hG) rfl ?_
      cases h
      exact zf_ireturn dX9_count_161 rfl
    replace h := (zi h).2 hc96_4
    by_cases hc96_5 : x1 = (5 : Int32)
    · replace h := (zi h).1 hc96_5
      refine zf_tableIn (off := 66) (tgt := 162) dX9_count_96 (by rw [hc96_5]; decide) (by rw [hc96_5]; decide) (by rw [hc96_5]; rfl) (by decide) ?_
      refine zf_iload_n 3 (q := 163) (j := 3) rfl dX9_count_162 rfl rfl ?_
      cases h
      exact zf_ireturn dX9_count_163 rfl
    replace h := (zi h).2 hc96_5
    by_cases hc96_6 : x1 = (6 : Int32)
    · replace h := (zi h).1 hc96_6
      refine zf_tableIn (off := 68) (tgt := 164) dX9_count_96 (by rw [hc96_6]; decide) (by rw [hc96_6]; decide) (by rw [hc96_6]; rfl) (by decide) ?_
      refine zf_iload 4 (q := 166) rfl dX9_count_164 rfl ?_
      cases h
      exact zf_ireturn dX9_count_166 rfl
    replace h := (zi h).2 hc96_6
    refine zf_tableOut (tgt := 167) dX9_count_96 (by have n0 := zne (by decide : ((0 : Int32)).toInt = 0) hc96_0; have n1 := zne (by decide : ((1 : Int32)).toInt = 1) hc96_1; have n2 := zne (by decide : ((2 : Int32)).toInt = 2) hc96_2; have n3 := zne (by decide : ((3 : Int32)).toInt = 3) hc96_3; have n4 := zne (by decide : ((4 : Int32)).toInt = 4) hc96_4; have n5 := zne (by decide : ((5 : Int32)).toInt = 5) hc96_5; have n6 := zne (by decide : ((6 : Int32)).toInt = 6) hc96_6; omega) (by decide) ?_
    refine zf_bipush (q := 169) rfl dX9_count_167 bpm2 ?_
    cases h
    exact zf_ireturn dX9_count_169 rfl
  · replace h := (zi h).2 hc52
    refine zf_iload_n 3 (q := 56) (j := 3) rfl dX9_count_55 rfl rfl ?_
    refine zf_aload_n 0 (q := 57) (j := 0) rfl dX9_count_56 rfl rfl ?_
    refine zf_getR (q := 60) rfl dX9_count_57 lf_RX9_13 (sm0 hG) rfl ?_
    refine zf_iload 5 (q := 62) rfl dX9_count_60 rfl ?_
    obtain ⟨v3, ev3, h⟩ := zb h
    refine zf_iald (q := 63) rfl dX9_count_62 (sm2 hG) ev3 ?_
    refine zf_iadd (q := 64) rfl dX9_count_63 ?_
    obtain ⟨v4, ev4, h⟩ := zb h
    refine zf_istore_n (q := 65) (y := v4) (i := 3) (lv1 := [(3, .int v4), (0, .ref (zad G 0)), (1, .int x1), (2, .int x2), (4, .int x4), (5, .int x5)]) rfl dX9_count_64 rfl (by decide) ev4 rfl ?_
    refine zf_iload 4 (q := 67) rfl dX9_count_65 rfl ?_
    refine zf_aload_n 1 (q := 68) (j := 0) rfl dX9_count_67 rfl rfl ?_
    refine zf_getR (q := 71) rfl dX9_count_68 lf_RX9_16 (sm0 hG) rfl ?_
    refine zf_iload 5 (q := 73) rfl dX9_count_71 rfl ?_
    obtain ⟨v5, ev5, h⟩ := zb h
    refine zf_iald (q := 74) rfl dX9_count_73 (sm3 hG) ev5 ?_
    obtain ⟨r6, s7, es7, h⟩ := zc h
    refine zf_callS (q := 77) (As := [.int v5]) (rest := [.int x4]) (st1 := [.int r6, .int x4]) rfl dX9_count_74 ls_RX9_241 rfl rfl (Nat.le_of_ble_eq_true rfl) (ok_X9_ones hG N (Nat.le_trans (by decide) hd) es7) rfl ?_
    refine zf_iconst (q := 78) rfl dX9_count_77 ic1 ?_
    refine zf_icmp_ne (q := 81) (tgt := 85) rfl (by decide) dX9_count_78 (fun hc78 => ?_) (fun hc78 => ?_)
    · replace h := (zi h).2 hc78
      refine zf_iconst (q := 86) rfl dX9_count_85 ic0 ?_
      exact zf_sub [1, 2, 3, 0, 5] rfl (ok_X9_count_86 hG N hd hr46 h)
    · replace h := (zi h).1 hc78
      refine zf_iconst (q := 82) rfl dX9_count_81 ic1 ?_
      refine zf_goto (tgt := 86) (by decide) dX9_count_82 ?_
      exact zf_sub [1, 2, 3, 0, 5] rfl (ok_X9_count_86 hG N hd hr46 h)
def f_X9_count_46 (N : Nat) : Nat → Int32 → Int32 → Int32 → Int32 → Int32 → ZM → Option (Int32 × ZM)
  | 0, _, _, _, _, _, _ => none
  | n + 1, x1, x2, x3, x4, x5, σ => b_X9_count_46 N (f_X9_count_46 N n) x1 x2 x3 x4 x5 σ
theorem ok_X9_count_46 {G : ZG} (hG : zSH G = shM) (N : Nat) {d : Nat} (hd : 0 ≤ d) {res : Int32 × ZM} : ∀ (n : Nat) (x1 : Int32) (x2 : Int32) (x3 : Int32) (x4 : Int32) (x5 : Int32) (σ : ZM), f_X9_count_46 N n x1 x2 x3 x4 x5 σ = some res → zF G MX9_count (d + 1) 46 [(0, .ref (zad G 0)), (1, .int x1), (2, .int x2), (3, .int x3), (4, .int x4), (5, .int x5)] [] σ (some (.int res.1)) res.2 := by
  intro n
  induction n with
  | zero => intro x1 x2 x3 x4 x5 σ h; exact absurd h (by simp [f_X9_count_46])
  | succ n ih => intro x1 x2 x3 x4 x5 σ h; rw [f_X9_count_46] at h; exact ok_b_X9_count_46 hG N hd ih h
def f_X9_count_35 (N : Nat) (rec10 : Int32 → Int32 → Int32 → Int32 → Int32 → ZM → Option (Int32 × ZM)) (x1 : Int32) (x3 : Int32) (x4 : Int32) (x5 : Int32) (y0 : Int32) (y1 : Int32) (σ : ZM) : Option (Int32 × ZM) :=
  (some (y1 + y0)).bind fun v8 =>
  (some (x5 + (1 : Int32))).bind fun v9 =>
  rec10 x1 v8 x3 x4 v9 σ
set_option maxRecDepth 100000 in
theorem ok_X9_count_35 {G : ZG} (hG : zSH G = shM) (N : Nat) {d : Nat} (hd : 0 ≤ d) {rec10 : Int32 → Int32 → Int32 → Int32 → Int32 → ZM → Option (Int32 × ZM)} {res : Int32 × ZM} (hr10 : ∀ (x1 : Int32) (x2 : Int32) (x3 : Int32) (x4 : Int32) (x5 : Int32) (σ : ZM), rec10 x1 x2 x3 x4 x5 σ = some res → zF G MX9_count (d + 1) 10 [(0, .ref (zad G 0)), (1, .int x1), (2, .int x2), (3, .int x3), (4, .int x4), (5, .int x5)] [] σ (some (.int res.1)) res.2) {x1 : Int32} {x3 : Int32} {x4 : Int32} {x5 : Int32} {y0 : Int32} {y1 : Int32} {σ : ZM} (h : f_X9_count_35 N rec10 x1 x3 x4 x5 y0 y1 σ = some res) : zF G MX9_count (d + 1) 35 [(0, .ref (zad G 0)), (1, .int x1), (3, .int x3), (4, .int x4), (5, .int x5)] [.int y0, .int y1] σ (some (.int res.1)) res.2 := by
  unfold f_X9_count_35 at h
  refine zf_iadd (q := 36) rfl dX9_count_35 ?_
  obtain ⟨v8, ev8, h⟩ := zb h
  refine zf_istore_n (q := 37) (y := v8) (i := 2) (lv1 := [(2, .int v8), (0, .ref (zad G 0)), (1, .int x1), (3, .int x3), (4, .int x4), (5, .int x5)]) rfl dX9_count_36 rfl (by decide) ev8 rfl ?_
  obtain ⟨v9, ev9, h⟩ := zb h
  refine zf_iinc 5 (q := 40) (v := v9) (lv1 := [(5, .int v9), (2, .int v8), (0, .ref (zad G 0)), (1, .int x1), (3, .int x3), (4, .int x4)]) rfl dX9_count_37 rfl (by rw [ic1]; exact ev9) (by decide) rfl ?_
  refine zf_goto (tgt := 10) (by decide) dX9_count_40 ?_
  exact zf_sub [2, 3, 1, 4, 5, 0] rfl (hr10 _ _ _ _ _ _ h)
def b_X9_count_10 (N : Nat) (rec10 : Int32 → Int32 → Int32 → Int32 → Int32 → ZM → Option (Int32 × ZM)) (x1 : Int32) (x2 : Int32) (x3 : Int32) (x4 : Int32) (x5 : Int32) (σ : ZM) : Option (Int32 × ZM) :=
  if (σ.1 0 5) ≤ x5 then
  (f_X9_count_46 N N x1 x2 x3 x4 (0 : Int32) σ)
  else
  ((zald σ 6 4 x5).bind fun v10 =>
  if v10 = 0 then
  (f_X9_count_35 N rec10 x1 x3 x4 x5 (0 : Int32) x2 σ)
  else
  (f_X9_count_35 N rec10 x1 x3 x4 x5 (1 : Int32) x2 σ))
set_option maxRecDepth 100000 in
theorem ok_b_X9_count_10 {G : ZG} (hG : zSH G = shM) (N : Nat) {d : Nat} (hd : 0 ≤ d) {rec10 : Int32 → Int32 → Int32 → Int32 → Int32 → ZM → Option (Int32 × ZM)} {res : Int32 × ZM} (hr10 : ∀ (x1 : Int32) (x2 : Int32) (x3 : Int32) (x4 : Int32) (x5 : Int32) (σ : ZM), rec10 x1 x2 x3 x4 x5 σ = some res → zF G MX9_count (d + 1) 10 [(0, .ref (zad G 0)), (1, .int x1), (2, .int x2), (3, .int x3), (4, .int x4), (5, .int x5)] [] σ (some (.int res.1)) res.2) {x1 : Int32} {x2 : Int32} {x3 : Int32} {x4 : Int32} {x5 : Int32} {σ : ZM} (h : b_X9_count_10 N rec10 x1 x2 x3 x4 x5 σ = some res) : zF G MX9_count (d + 1) 10 [(0, .ref (zad G 0)), (1, .int x1), (2, .int x2), (3, .int x3), (4, .int x4), (5, .int x5)] [] σ (some (.int res.1)) res.2 := by
  unfold b_X9_count_10 at h
  refine zf_iload 5 (q := 12) rfl dX9_count_10 rfl ?_
  refine zf_aload_n 0 (q := 13) (j := 0) rfl dX9_count_12 rfl rfl ?_
  refine zf_getI (q := 16) rfl dX9_count_13 lf_RX9_140 (sm0 hG) rfl ?_
  refine zf_icmp_ge (q := 19) (tgt := 43) rfl (by decide) dX9_count_16 (fun hc16 => ?_) (fun hc16 => ?_)
  · replace h := (zi h).1 hc16
    refine zf_iconst (q := 44) rfl dX9_count_43 ic0 ?_
    refine zf_istore (q := 46) (y := (0 : Int32)) (i := 5) (lv1 := [(5, .int (0 : Int32)), (0, .ref (zad G 0)), (1, .int x1), (2, .int x2), (3, .int x3), (4, .int x4)]) rfl dX9_count_44 (by decide) rfl rfl ?_
    exact zf_sub [1, 2, 3, 4, 5, 0] rfl (ok_X9_count_46 hG N hd _ _ _ _ _ _ _ h)
  · replace h := (zi h).2 hc16
    refine zf_iload_n 2 (q := 20) (j := 2) rfl dX9_count_19 rfl rfl ?_
    refine zf_aload_n 0 (q := 21) (j := 0) rfl dX9_count_20 rfl rfl ?_
    refine zf_getR (q := 24) rfl dX9_count_21 lf_RX9_25 (sm0 hG) rfl ?_
    refine zf_iload 5 (q := 26) rfl dX9_count_24 rfl ?_
    obtain ⟨v10, ev10, h⟩ := zb h
    refine zf_zald (q := 27) rfl dX9_count_26 (sm6 hG) ev10 ?_
    refine zf_if_eq (q := 30) (tgt := 34) rfl (by decide) dX9_count_27 (fun hc27 => ?_) (fun hc27 => ?_)
    · replace h := (zi h).1 hc27
      refine zf_iconst (q := 35) rfl dX9_count_34 ic0 ?_
      exact zf_sub [0, 1, 3, 4, 5] rfl (ok_X9_count_35 hG N hd hr10 h)
    · replace h := (zi h).2 hc27
      refine zf_iconst (q := 31) rfl dX9_count_30 ic1 ?_
      refine zf_goto (tgt := 35) (by decide) dX9_count_31 ?_
      exact zf_sub [0, 1, 3, 4, 5] rfl (ok_X9_count_35 hG N hd hr10 h)
def f_X9_count_10 (N : Nat) : Nat → Int32 → Int32 → Int32 → Int32 → Int32 → ZM → Option (Int32 × ZM)
  | 0, _, _, _, _, _, _ => none
  | n + 1, x1, x2, x3, x4, x5, σ => b_X9_count_10 N (f_X9_count_10 N n) x1 x2 x3 x4 x5 σ
theorem ok_X9_count_10 {G : ZG} (hG : zSH G = shM) (N : Nat) {d : Nat} (hd : 0 ≤ d) {res : Int32 × ZM} : ∀ (n : Nat) (x1 : Int32) (x2 : Int32) (x3 : Int32) (x4 : Int32) (x5 : Int32) (σ : ZM), f_X9_count_10 N n x1 x2 x3 x4 x5 σ = some res → zF G MX9_count (d + 1) 10 [(0, .ref (zad G 0)), (1, .int x1), (2, .int x2), (3, .int x3), (4, .int x4), (5, .int x5)] [] σ (some (.int res.1)) res.2 := by
  intro n
  induction n with
  | zero => intro x1 x2 x3 x4 x5 σ h; exact absurd h (by simp [f_X9_count_10])
  | succ n ih => intro x1 x2 x3 x4 x5 σ h; rw [f_X9_count_10] at h; exact ok_b_X9_count_10 hG N hd ih h
def f_X9_count (N : Nat) (x1 : Int32) (σ : ZM) : Option (Int32 × ZM) :=
  f_X9_count_10 N N x1 (0 : Int32) (0 : Int32) (0 : Int32) (0 : Int32) σ
set_option maxRecDepth 100000 in
theorem ok_X9_count {G : ZG} (hG : zSH G = shM) (N : Nat) {d : Nat} (hd : 1 ≤ d) {x1 : Int32} {σ : ZM} {res : Int32 × ZM} (h : f_X9_count N x1 σ = some res) : zCt G d MX9_count [.ref (zad G 0), .int x1] σ (some (.int res.1)) res.2 := by
  obtain ⟨d, rfl⟩ : ∃ k, d = k + 1 := ⟨d - 1, by omega⟩
  have hd : 0 ≤ d := by omega
  refine zct_of (by decide) (Nat.le_of_ble_eq_true rfl) (lv := [(0, .ref (zad G 0)), (1, .int x1)]) rfl ?_
  unfold f_X9_count at h
  refine zf_iconst (q := 1) rfl dX9_count_0 ic0 ?_
  refine zf_istore_n (q := 2) (y := (0 : Int32)) (i := 2) (lv1 := [(2, .int (0 : Int32)), (0, .ref (zad G 0)), (1, .int x1)]) rfl dX9_count_1 rfl (by decide) rfl rfl ?_
  refine zf_iconst (q := 3) rfl dX9_count_2 ic0 ?_
  refine zf_istore_n (q := 4) (y := (0 : Int32)) (i := 3) (lv1 := [(3, .int (0 : Int32)), (2, .int (0 : Int32)), (0, .ref (zad G 0)), (1, .int x1)]) rfl dX9_count_3 rfl (by decide) rfl rfl ?_
  refine zf_iconst (q := 5) rfl dX9_count_4 ic0 ?_
  refine zf_istore (q := 7) (y := (0 : Int32)) (i := 4) (lv1 := [(4, .int (0 : Int32)), (3, .int (0 : Int32)), (2, .int (0 : Int32)), (0, .ref (zad G 0)), (1, .int x1)]) rfl dX9_count_5 (by decide) rfl rfl ?_
  refine zf_iconst (q := 8) rfl dX9_count_7 ic0 ?_
  refine zf_istore (q := 10) (y := (0 : Int32)) (i := 5) (lv1 := [(5, .int (0 : Int32)), (4, .int (0 : Int32)), (3, .int (0 : Int32)), (2, .int (0 : Int32)), (0, .ref (zad G 0)), (1, .int x1)]) rfl dX9_count_8 (by decide) rfl rfl ?_
  exact zf_sub [4, 5, 3, 2, 1, 0] rfl (ok_X9_count_10 hG N hd _ _ _ _ _ _ _ h)
