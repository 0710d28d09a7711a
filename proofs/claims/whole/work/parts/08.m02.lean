-- ===== J7_fill_53178: java/util/Arrays.fill([II)V
def b_J7_fill_53178_5 (N : Nat) (a0 : Nat) (n0 : Nat) (rec5 : Int32 → Int32 → Int32 → ZM → Option (Unit × ZM)) (x1 : Int32) (x2 : Int32) (x3 : Int32) (σ : ZM) : Option (Unit × ZM) :=
  if x3 ≤ x2 then
  (some ((), σ))
  else
  ((zast σ a0 n0 x2 x1).bind fun s1 =>
  (some (x2 + (1 : Int32))).bind fun v2 =>
  rec5 x1 v2 x3 s1)
set_option maxRecDepth 100000 in
theorem ok_b_J7_fill_53178_5 {G : ZG} (N : Nat) {d : Nat} {a0 : Nat} {n0 : Nat} (ha0 : (zSH G)[a0]? = some (.inr (.inl (0, n0)))) {rec5 : Int32 → Int32 → Int32 → ZM → Option (Unit × ZM)} {res : Unit × ZM} (hr5 : ∀ (x1 : Int32) (x2 : Int32) (x3 : Int32) (σ : ZM), rec5 x1 x2 x3 σ = some res → zF G MJ7_fill_53178 d 5 [(0, .ref (zad G a0)), (1, .int x1), (2, .int x2), (3, .int x3)] [] σ none res.2) {x1 : Int32} {x2 : Int32} {x3 : Int32} {σ : ZM} (h : b_J7_fill_53178_5 N a0 n0 rec5 x1 x2 x3 σ = some res) : zF G MJ7_fill_53178 d 5 [(0, .ref (zad G a0)), (1, .int x1), (2, .int x2), (3, .int x3)] [] σ none res.2 := by
  unfold b_J7_fill_53178_5 at h
  refine zf_iload_n 2 (q := 6) (j := 2) rfl dJ7_fill_53178_5 rfl rfl ?_
  refine zf_iload_n 3 (q := 7) (j := 3) rfl dJ7_fill_53178_6 rfl rfl ?_
  refine zf_icmp_ge (q := 10) (tgt := 20) rfl (by decide) dJ7_fill_53178_7 (fun hc7 => ?_) (fun hc7 => ?_)
  · replace h := (zi h).1 hc7
    cases h
    exact zf_return dJ7_fill_53178_20 rfl
  · replace h := (zi h).2 hc7
    refine zf_aload_n 0 (q := 11) (j := 0) rfl dJ7_fill_53178_10 rfl rfl ?_
    refine zf_iload_n 2 (q := 12) (j := 2) rfl dJ7_fill_53178_11 rfl rfl ?_
    refine zf_iload_n 1 (q := 13) (j := 1) rfl dJ7_fill_53178_12 rfl rfl ?_
    obtain ⟨s1, es1, h⟩ := zb h
    refine zf_iast (q := 14) rfl dJ7_fill_53178_13 ha0 es1 ?_
    obtain ⟨v2, ev2, h⟩ := zb h
    refine zf_iinc 2 (q := 17) (v := v2) (lv1 := [(2, .int v2), (0, .ref (zad G a0)), (1, .int x1), (3, .int x3)]) rfl dJ7_fill_53178_14 rfl (by rw [ic1]; exact ev2) (by decide) rfl ?_
    refine zf_goto (tgt := 5) (by decide) dJ7_fill_53178_17 ?_
    exact zf_sub [1, 2, 0, 3] rfl (hr5 _ _ _ _ h)
def f_J7_fill_53178_5 (N : Nat) (a0 : Nat) (n0 : Nat) : Nat → Int32 → Int32 → Int32 → ZM → Option (Unit × ZM)
  | 0, _, _, _, _ => none
  | n + 1, x1, x2, x3, σ => b_J7_fill_53178_5 N a0 n0 (f_J7_fill_53178_5 N a0 n0 n) x1 x2 x3 σ
theorem ok_J7_fill_53178_5 {G : ZG} (N : Nat) {d : Nat} {a0 : Nat} {n0 : Nat} (ha0 : (zSH G)[a0]? = some (.inr (.inl (0, n0)))) {res : Unit × ZM} : ∀ (n : Nat) (x1 : Int32) (x2 : Int32) (x3 : Int32) (σ : ZM), f_J7_fill_53178_5 N a0 n0 n x1 x2 x3 σ = some res → zF G MJ7_fill_53178 d 5 [(0, .ref (zad G a0)), (1, .int x1), (2, .int x2), (3, .int x3)] [] σ none res.2 := by
  intro n
  induction n with
  | zero => intro x1 x2 x3 σ h; exact absurd h (by simp [f_J7_fill_53178_5])
  | succ n ih => intro x1 x2 x3 σ h; rw [f_J7_fill_53178_5] at h; exact ok_b_J7_fill_53178_5 N ha0 ih h
def f_J7_fill_53178 (N : Nat) (a0 : Nat) (n0 : Nat) (x1 : Int32) (σ : ZM) : Option (Unit × ZM) :=
  (some (Int32.ofNat n0)).bind fun v3 =>
  f_J7_fill_53178_5 N a0 n0 N x1 (0 : Int32) v3 σ
set_option maxRecDepth 100000 in
theorem ok_J7_fill_53178 {G : ZG} (N : Nat) {d : Nat} (hd : 0 ≤ d) {a0 : Nat} {n0 : Nat} (ha0 : (zSH G)[a0]? = some (.inr (.inl (0, n0)))) {x1 : Int32} {σ : ZM} {res : Unit × ZM} (h : f_J7_fill_53178 N a0 n0 x1 σ = some res) : zCt G d MJ7_fill_53178 [.ref (zad G a0), .int x1] σ none res.2 := by
  refine zct_of (by decide) (Nat.le_of_ble_eq_true rfl) (lv := [(0, .ref (zad G a0)), (1, .int x1)]) rfl ?_
  unfold f_J7_fill_53178 at h
  refine zf_iconst (q := 1) rfl dJ7_fill_53178_0 ic0 ?_
  refine zf_istore_n (q := 2) (y := (0 : Int32)) (i := 2) (lv1 := [(2, .int (0 : Int32)), (0, .ref (zad G a0)), (1, .int x1)]) rfl dJ7_fill_53178_1 rfl (by decide) rfl rfl ?_
  refine zf_aload_n 1 (q := 3) (j := 0) rfl dJ7_fill_53178_2 rfl rfl ?_
  refine zf_alen (q := 4) rfl dJ7_fill_53178_3 ha0 (by decide) rfl ?_
  obtain ⟨v3, ev3, h⟩ := zb h
  refine zf_istore_n (q := 5) (y := v3) (i := 3) (lv1 := [(3, .int v3), (2, .int (0 : Int32)), (0, .ref (zad G a0)), (1, .int x1)]) rfl dJ7_fill_53178_4 rfl (by decide) ev3 rfl ?_
  exact zf_sub [2, 3, 1, 0] rfl (ok_J7_fill_53178_5 N ha0 _ _ _ _ _ h)
-- ===== X1_weighRest: NearCopies$Chart.weighRest(I)V
def b_X1_weighRest_116 (N : Nat) (rec116 : Int32 → Int32 → Int32 → Int32 → ZM → Option (Unit × ZM)) (x1 : Int32) (x2 : Int32) (x3 : Int32) (x4 : Int32) (σ : ZM) : Option (Unit × ZM) :=
  if (σ.1 12 0) ≤ x4 then
  ((zast σ 30 625 x1 x3).bind fun s1 =>
  (zast s1 31 625 x1 x2).bind fun s2 =>
  some ((), s2))
  else
  ((zald σ 29 4 x4).bind fun v3 =>
  (zald σ 9 4 x4).bind fun v4 =>
  (some (x3 + (zmax (0 : Int32) (v3 - v4)))).bind fun v5 =>
  (some (x4 + (1 : Int32))).bind fun v6 =>
  rec116 x1 x2 v5 v6 σ)
set_option maxRecDepth 100000 in
theorem ok_b_X1_weighRest_116 {G : ZG} (hG : zSH G = shC) (N : Nat) {d : Nat} (hd : 1 ≤ d) {rec116 : Int32 → Int32 → Int32 → Int32 → ZM → Option (Unit × ZM)} {res : Unit × ZM} (hr116 : ∀ (x1 : Int32) (x2 : Int32) (x3 : Int32) (x4 : Int32) (σ : ZM), rec116 x1 x2 x3 x4 σ = some res → zF G MX1_weighRest (d + 1) 116 [(0, .ref (zad G 23)), (1, .int x1), (2, .int x2), (3, .int x3), (4, .int x4)] [] σ none res.2) {x1 : Int32} {x2 : Int32} {x3 : Int32} {x4 : Int32} {σ : ZM} (h : b_X1_weighRest_116 N rec116 x1 x2 x3 x4 σ = some res) : zF G MX1_weighRest (d + 1) 116 [(0, .ref (zad G 23)), (1, .int x1), (2, .int x2), (3, .int x3), (4, .int x4)] [] σ none res.2 := by
  unfold b_X1_weighRest_116 at h
  refine zf_iload 4 (q := 118) rfl dX1_weighRest_116 rfl ?_
  refine zf_aload_n 0 (q := 119) (j := 0) rfl dX1_weighRest_118 rfl rfl ?_
  refine zf_getR (q := 122) rfl dX1_weighRest_119 lf_RX1_46 (sc23 hG) rfl ?_
  refine zf_getI (q := 125) rfl dX1_weighRest_122 lf_RX1_67 (sc12 hG) rfl ?_
  refine zf_icmp_ge (q := 128) (tgt := 159) rfl (by decide) dX1_weighRest_125 (fun hc125 => ?_) (fun hc125 => ?_)
  · replace h := (zi h).1 hc125
    refine zf_aload_n 0 (q := 160) (j := 0) rfl dX1_weighRest_159 rfl rfl ?_
    refine zf_getR (q := 163) rfl dX1_weighRest_160 lf_RX1_22 (sc23 hG) rfl ?_
    refine zf_iload_n 1 (q := 164) (j := 1) rfl dX1_weighRest_163 rfl rfl ?_
    refine zf_iload_n 3 (q := 165) (j := 3) rfl dX1_weighRest_164 rfl rfl ?_
    obtain ⟨s1, es1, h⟩ := zb h
    refine zf_iast (q := 166) rfl dX1_weighRest_165 (sc30 hG) es1 ?_
    refine zf_aload_n 0 (q := 167) (j := 0) rfl dX1_weighRest_166 rfl rfl ?_
    refine zf_getR (q := 170) rfl dX1_weighRest_167 lf_RX1_25 (sc23 hG) rfl ?_
    refine zf_iload_n 1 (q := 171) (j := 1) rfl dX1_weighRest_170 rfl rfl ?_
    refine zf_iload_n 2 (q := 172) (j := 2) rfl dX1_weighRest_171 rfl rfl ?_
    obtain ⟨s2, es2, h⟩ := zb h
    refine zf_iast (q := 173) rfl dX1_weighRest_172 (sc31 hG) es2 ?_
    cases h
    exact zf_return dX1_weighRest_173 rfl
  · replace h := (zi h).2 hc125
    refine zf_iload_n 3 (q := 129) (j := 3) rfl dX1_weighRest_128 rfl rfl ?_
    refine zf_iconst (q := 130) rfl dX1_weighRest_129 ic0 ?_
    refine zf_aload_n 0 (q := 131) (j := 0) rfl dX1_weighRest_130 rfl rfl ?_
    refine zf_getR (q := 134) rfl dX1_weighRest_131 lf_RX1_18 (sc23 hG) rfl ?_
    refine zf_iload 4 (q := 136) rfl dX1_weighRest_134 rfl ?_
    obtain ⟨v3, ev3, h⟩ := zb h
    refine zf_iald (q := 137) rfl dX1_weighRest_136 (sc29 hG) ev3 ?_
    refine zf_aload_n 0 (q := 138) (j := 0) rfl dX1_weighRest_137 rfl rfl ?_
    refine zf_getR (q := 141) rfl dX1_weighRest_138 lf_RX1_42 (sc23 hG) rfl ?_
    refine zf_getR (q := 144) rfl dX1_weighRest_141 lf_RX1_119 (sc7 hG) rfl ?_
    refine zf_iload 4 (q := 146) rfl dX1_weighRest_144 rfl ?_
    obtain ⟨v4, ev4, h⟩ := zb h
    refine zf_iald (q := 147) rfl dX1_weighRest_146 (sc9 hG) ev4 ?_
    refine zf_isub (q := 148) rfl dX1_weighRest_147 ?_
    refine zf_mmax (q := 151) rfl dX1_weighRest_148 mm_RX1_122 mm_max1 mm_0 mm_max2 (Nat.le_of_ble_eq_true rfl) ?_
    refine zf_iadd (q := 152) rfl dX1_weighRest_151 ?_
    obtain ⟨v5, ev5, h⟩ := zb h
    refine zf_istore_n (q := 153) (y := v5) (i := 3) (lv1 := [(3, .int v5), (0, .ref (zad G 23)), (1, .int x1), (2, .int x2), (4, .int x4)]) rfl dX1_weighRest_152 rfl (by decide) ev5 rfl ?_
    obtain ⟨v6, ev6, h⟩ := zb h
    refine zf_iinc 4 (q := 156) (v := v6) (lv1 := [(4, .int v6), (3, .int v5), (0, .ref (zad G 23)), (1, .int x1), (2, .int x2)]) rfl dX1_weighRest_153 rfl (by rw [ic1]; exact ev6) (by decide) rfl ?_
    refine zf_goto (tgt := 116) (by decide) dX1_weighRest_156 ?_
    exact zf_sub [2, 3, 4, 1, 0] rfl (hr116 _ _ _ _ _ h)
def f_X1_weighRest_116 (N : Nat) : Nat → Int32 → Int32 → Int32 → Int32 → ZM → Option (Unit × ZM)
  | 0, _, _, _, _, _ => none
  | n + 1, x1, x2, x3, x4, σ => b_X1_weighRest_116 N (f_X1_weighRest_116 N n) x1 x2 x3 x4 σ
theorem ok_X1_weighRest_116 {G : ZG} (hG : zSH G = shC) (N : Nat) {d : Nat} (hd : 1 ≤ d) {res : Unit × ZM} : ∀ (n : Nat) (x1 : Int32) (x2 : Int32) (x3 : Int32) (x4 : Int32) (σ : ZM), f_X1_weighRest_116 N n x1 x2 x3 x4 σ = some res → zF G MX1_weighRest (d + 1) 116 [(0, .ref (zad G 23)), (1, .int x1), (2, .int x2), (3, .int x3), (4, .int x4)] [] σ none res.2 := by
  intro n
  induction n with
  | zero => intro x1 x2 x3 x4 σ h; exact absurd h (by simp [f_X1_weighRest_116])
  | succ n ih => intro x1 x2 x3 x4 σ h; rw [f_X1_weighRest_116] at h; exact ok_b_X1_weighRest_116 hG N hd ih h
def f_X1_weighRest_105 (N : Nat) (rec12 : Int32 → Int32 → Int32 → ZM → Option (Unit × ZM)) (x1 : Int32) (x2 : Int32) (x3 : Int32) (σ : ZM) : Option (Unit × ZM) :=
  (some (x3 + (1 : Int32))).bind fun v7 =>
  rec12 x1 x2 v7 σ
set_option maxRecDepth 100000 in
theorem ok_X1_weighRest_105 {G : ZG} (hG : zSH G = shC) (N : Nat) {d : Nat} (hd : 1 ≤ d) {rec12 : Int32 → Int32 → Int32 → ZM → Option (Unit × ZM)} {res : Unit × ZM} (hr12 : ∀ (x1 : Int32) (x2 : Int32) (x3 : Int32) (σ : ZM), rec12 x1 x2 x3 σ = some res → zF G MX1_weighRest (d + 1) 12 [(0, .ref (zad G 23)), (1, .int x1), (2, .int x2), (3, .int x3)] [] σ none res.2) {x1 : Int32} {x2 : Int32} {x3 : Int32} {σ : ZM} (h : f_X1_weighRest_105 N rec12 x1 x2 x3 σ = some res) : zF G MX1_weighRest (d + 1) 105 [(0, .ref (zad G 23)), (1, .int x1), (2, .int x2), (3, .int x3)] [] σ none res.2 := by
  unfold f_X1_weighRest_105 at h
  obtain ⟨v7, ev7, h⟩ := zb h
  refine zf_iinc 3 (q := 108) (v := v7) (lv1 := [(3, .int v7), (0, .ref (zad G 23)), (1, .int x1), (2, .int x2)]) rfl dX1_weighRest_105 rfl (by rw [ic1]; exact ev7) (by decide) rfl ?_
  refine zf_goto (tgt := 12) (by decide) dX1_weighRest_108 ?_
  exact zf_sub [1, 2, 3, 0] rfl (hr12 _ _ _ _ h)
def b_X1_weighRest_12 (N : Nat) (rec12 : Int32 → Int32 → Int32 → ZM → Option (Unit × ZM)) (x1 : Int32) (x2 : Int32) (x3 : Int32) (σ : ZM) : Option (Unit × ZM) :=
  if (σ.1 1 0) ≤ x3 then
  (f_X1_weighRest_116 N N x1 x2 (0 : Int32) (0 : Int32) σ)
  else
  (zbd (f_X2_comesTo N x3 σ) fun r8 s9 =>
  if r8 = (-9 : Int32) then
  ((zald s9 2 10 x3).bind fun v16 =>
  (some (x2 + (v16 * (1000 : Int32)))).bind fun v17 =>
  f_X1_weighRest_105 N rec12 x1 v17 x3 s9)
  else
  ((zald s9 2 10 x3).bind fun v10 =>
  (zald s9 11 40 ((x3 * (4 : Int32)) + r8)).bind fun v11 =>
  (some (x2 + (v10 * v11))).bind fun v12 =>
  (zald s9 29 4 r8).bind fun v13 =>
  (zald s9 2 10 x3).bind fun v14 =>
  (zast s9 29 4 r8 (v13 + v14)).bind fun s15 =>
  f_X1_weighRest_105 N rec12 x1 v12 x3 s15))
set_option maxRecDepth 100000 in
theorem ok_b_X1_weighRest_12 {G : ZG} (hG : zSH G = shC) (N : Nat) {d : Nat} (hd : 1 ≤ d) {rec12 : Int32 → Int32 → Int32 → ZM → Option (Unit × ZM)} {res : Unit × ZM} (hr12 : ∀ (x1 : Int32) (x2 : Int32) (x3 : Int32) (σ : ZM), rec12 x1 x2 x3 σ = some res → zF G MX1_weighRest (d + 1) 12 [(0, .ref (zad G 23)), (1, .int x1), (2, .int x2), (3, .int x3)] [] σ none res.2) {x1 : Int32} {x2 : Int32} {x3 : Int32} {σ : ZM} (h : b_X1_weighRest_12 N rec12 x1 x2 x3 σ = some res) : zF G MX1_weighRest (d + 1) 12 [(0, .ref (zad G 23)), (1, .int x1), (2, .int x2), (3, .int x3)] [] σ none res.2 := by
  unfold b_X1_weighRest_12 at h
  refine zf_iload_n 3 (q := 13) (j := 3) rfl dX1_weighRest_12 rfl rfl ?_
  refine zf_aload_n 0 (q := 14) (j := 0) rfl dX1_weighRest_13 rfl rfl ?_
  refine zf_getR (q := 17) rfl dX1_weighRest_14 lf_RX1_38 (sc23 hG) rfl ?_
  refine zf_getI (q := 20) rfl dX1_weighRest_17 lf_RX1_104 (sc1 hG) rfl ?_
  refine zf_icmp_ge (q := 23) (tgt := 111) rfl (by decide) dX1_weighRest_20 (fun hc20 => ?_) (fun hc20 => ?_)
  · replace h := (zi h).1 hc20
    refine zf_iconst (q := 112) rfl dX1_weighRest_111 ic0 ?_
    refine zf_istore_n (q := 113) (y := (0 : Int32)) (i := 3) (lv1 := [(3, .int (0 : Int32)), (0, .ref (zad G 23)), (1, .int x1), (2, .int x2)]) rfl dX1_weighRest_112 rfl (by decide) rfl rfl ?_
    refine zf_iconst (q := 114) rfl dX1_weighRest_113 ic0 ?_
    refine zf_istore (q := 116) (y := (0 : Int32)) (i := 4) (lv1 := [(4, .int (0 : Int32)), (3, .int (0 : Int32)), (0, .ref (zad G 23)), (1, .int x1), (2, .int x2)]) rfl dX1_weighRest_114 (by decide) rfl rfl ?_
    exact zf_sub [2, 3, 4, 1, 0] rfl (ok_X1_weighRest_116 hG N hd _ _ _ _ _ _ h)
  · replace h := (zi h).2 hc20
    refine zf_aload_n 0 (q := 24) (j := 0) rfl dX1_weighRest_23 rfl rfl ?_
    refine zf_getR (q := 27) rfl dX1_weighRest_24 lf_RX1_49 (sc23 hG) rfl ?_
    refine zf_iload_n 3 (q := 28) (j := 3) rfl dX1_weighRest_27 rfl rfl ?_
    obtain ⟨r8, s9, es9, h⟩ := zc h
    refine zf_callV (q := 31) (As := [.int x3]) (rest := []) (st1 := [.int r8]) rfl dX1_weighRest_28 lv_RX1_107 (sc17 hG) rfl rfl (Nat.le_of_ble_eq_true rfl) (ok_X2_comesTo hG N (Nat.le_trans (by decide) hd) es9) rfl ?_
    refine zf_istore (q := 33) (y := r8) (i := 4) (lv1 := [(4, .int r8), (0, .ref (zad G 23)), (1, .int x1), (2, .int x2), (3, .int x3)]) rfl dX1_weighRest_31 (by decide) rfl rfl ?_
    refine zf_iload 0 (q := 35) rfl dX1_weighRest_33 rfl ?_
    refine zf_bipush (q := 37) rfl dX1_weighRest_35 bpm9 ?_
    refine zf_icmp_ne (q := 40) (tgt := 59) rfl (by decide) dX1_weighRest_37 (fun hc37 => ?_) (fun hc37 => ?_)
    · replace h := (zi h).2 hc37
      refine zf_iload_n 3 (q := 60) (j := 2) rfl dX1_weighRest_59 rfl rfl ?_
      refine zf_aload_n 1 (q := 61) (j := 0) rfl dX1_weighRest_60 rfl rfl ?_
      refine zf_getR (q := 64) rfl dX1_weighRest_61 lf_RX1_38 (sc23 hG) rfl ?_
      refine zf_getR (q := 67) rfl dX1_weighRest_64 lf_RX1_111 (sc1 hG) rfl ?_
      refine zf_iload_n 4 (q := 68) (j := 3) rfl dX1_weighRest_67 rfl rfl ?_
      obtain ⟨v10, ev10, h⟩ := zb h
      refine zf_iald (q := 69) rfl dX1_weighRest_68 (sc2 hG) ev10 ?_
      refine zf_aload_n 1 (q := 70) (j := 0) rfl dX1_weighRest_69 rfl rfl ?_
      refine zf_getR (q := 73) rfl dX1_weighRest_70 lf_RX1_42 (sc23 hG) rfl ?_
      refine zf_getR (q := 76) rfl dX1_weighRest_73 lf_RX1_114 (sc7 hG) rfl ?_
      refine zf_iload_n 4 (q := 77) (j := 3) rfl dX1_weighRest_76 rfl rfl ?_
      refine zf_iconst (q := 78) rfl dX1_weighRest_77 ic4 ?_
      refine zf_imul (q := 79) rfl dX1_weighRest_78 ?_
      refine zf_iload 0 (q := 81) rfl dX1_weighRest_79 rfl ?_
      refine zf_iadd (q := 82) rfl dX1_weighRest_81 ?_
      obtain ⟨v11, ev11, h⟩ := zb h
      refine zf_iald (q := 83) rfl dX1_weighRest_82 (sc11 hG) ev11 ?_
      refine zf_imul (q := 84) rfl dX1_weighRest_83 ?_
      refine zf_iadd (q := 85) rfl dX1_weighRest_84 ?_
      obtain ⟨v12, ev12, h⟩ := zb h
      refine zf_istore_n (q := 86) (y := v12) (i := 2) (lv1 := [(2, .int v12), (4, .int r8), (0, .ref (zad G 23)), (1, .int x1), (3, .int x3)]) rfl dX1_weighRest_85 rfl (by decide) ev12 rfl ?_
      refine zf_aload_n 2 (q := 87) (j := 0) rfl dX1_weighRest_86 rfl rfl ?_
      refine zf_getR (q := 90) rfl dX1_weighRest_87 lf_RX1_18 (sc23 hG) rfl ?_
      refine zf_iload 1 (q := 92) rfl dX1_weighRest_90 rfl ?_
      refine zf_dup2 (q := 93) rfl dX1_weighRest_92 rfl rfl ?_
      obtain ⟨v13, ev13, h⟩ := zb h
      refine zf_iald (q := 94) rfl dX1_weighRest_93 (sc29 hG) ev13 ?_
      refine zf_aload_n 2 (q := 95) (j := 0) rfl dX1_weighRest_94 rfl rfl ?_
      refine zf_getR (q := 98) rfl dX1_weighRest_95 lf_RX1_38 (sc23 hG) rfl ?_
      refine zf_getR (q := 101) rfl dX1_weighRest_98 lf_RX1_111 (sc1 hG) rfl ?_
      refine zf_iload_n 4 (q := 102) (j := 3) rfl dX1_weighRest_101 rfl rfl ?_
      obtain ⟨v14, ev14, h⟩ := zb h
      refine zf_iald (q := 103) rfl dX1_weighRest_102 (sc2 hG) ev14 ?_
      refine zf_iadd (q := 104) rfl dX1_weighRest_103 ?_
      obtain ⟨s15, es15, h⟩ := zb h
      refine zf_iast (q := 105) rfl dX1_weighRest_104 (sc29 hG) es15 ?_
      exact zf_sub [2, 3, 0, 4] rfl (ok_X1_weighRest_105 hG N hd hr12 h)
    · replace h := (zi h).1 hc37
      refine zf_iload_n 3 (q := 41) (j := 2) rfl dX1_weighRest_40 rfl rfl ?_
      refine zf_aload_n 1 (q := 42) (j := 0) rfl dX1_weighRest_41 rfl rfl ?_
      refine zf_getR (q := 45) rfl dX1_weighRest_42 lf_RX1_38 (sc23 hG) rfl ?_
      refine zf_getR (q := 48) rfl dX1_weighRest_45 lf_RX1_111 (sc1 hG) rfl ?_
      refine zf_iload_n 4 (q := 49) (j := 3) rfl dX1_weighRest_48 rfl rfl ?_
      obtain ⟨v16, ev16, h⟩ := zb h
      refine zf_iald (q := 50) rfl dX1_weighRest_49 (sc2 hG) ev16 ?_
      refine zf_sipush (q := 53) rfl dX1_weighRest_50 sp1000 ?_
      refine zf_imul (q := 54) rfl dX1_weighRest_53 ?_
      refine zf_iadd (q := 55) rfl dX1_weighRest_54 ?_
      obtain ⟨v17, ev17, h⟩ := zb h
      refine zf_istore_n (q := 56) (y := v17) (i := 2) (lv1 := [(2, .int v17), (4, .int r8), (0, .ref (zad G 23)), (1, .int x1), (3, .int x3)]) rfl dX1_weighRest_55 rfl (by decide) ev17 rfl ?_
      refine zf_goto (tgt := 105) (by decide) dX1_weighRest_56 ?_
      exact zf_sub [2, 3, 0, 4] rfl (ok_X1_weighRest_105 hG N hd hr12 h)
def f_X1_weighRest_12 (N : Nat) : Nat → Int32 → Int32 → Int32 → ZM → Option (Unit × ZM)
  | 0, _, _, _, _ => none
  | n + 1, x1, x2, x3, σ => b_X1_weighRest_12 N (f_X1_weighRest_12 N n) x1 x2 x3 σ
theorem ok_X1_weighRest_12 {G : ZG} (hG : zSH G = shC) (N : Nat) {d : Nat} (hd : 1 ≤ d) {res : Unit × ZM} : ∀ (n : Nat) (x1 : Int32) (x2 : Int32) (x3 : Int32) (σ : ZM), f_X1_weighRest_12 N n x1 x2 x3 σ = some res → zF G MX1_weighRest (d + 1) 12 [(0, .ref (zad G 23)), (1, .int x1), (2, .int x2), (3, .int x3)] [] σ none res.2 := by
  intro n
  induction n with
  | zero => intro x1 x2 x3 σ h; exact absurd h (by simp [f_X1_weighRest_12])
  | succ n ih => intro x1 x2 x3 σ h; rw [f_X1_weighRest_12] at h; exact ok_b_X1_weighRest_12 hG N hd ih h
def f_X1_weighRest (N : Nat) (x1 : Int32) (σ : ZM) : Option (Unit × ZM) :=
  zbd (f_J7_fill_53178 N 29 4 (0 : Int32) σ) fun r18 s19 =>
  f_X1_weighRest_12 N N x1 (0 : Int32) (0 : Int32) s19
set_option maxRecDepth 100000 in
theorem ok_X1_weighRest {G : ZG} (hG : zSH G = shC) (N : Nat) {d : Nat} (hd : 2 ≤ d) {x1 : Int32} {σ : ZM} {res : Unit × ZM} (h : f_X1_weighRest N x1 σ = some res) : zCt G d MX1_weighRest [.ref (zad G 23), .int x1] σ none res.2 := by
  obtain ⟨d, rfl⟩ : ∃ k, d = k + 1 := ⟨d - 1, by omega⟩
  have hd : 1 ≤ d := by omega
  refine zct_of (by decide) (Nat.le_of_ble_eq_true rfl) (lv := [(0, .ref (zad G 23)), (1, .int x1)]) rfl ?_
  unfold f_X1_weighRest at h
  refine zf_aload_n 0 (q := 1) (j := 0) rfl dX1_weighRest_0 rfl rfl ?_
  refine zf_getR (q := 4) rfl dX1_weighRest_1 lf_RX1_18 (sc23 hG) rfl ?_
  refine zf_iconst (q := 5) rfl dX1_weighRest_4 ic0 ?_
  obtain ⟨r18, s19, es19, h⟩ := zc h
  refine zf_callS (q := 8) (As := [.ref (zad G 29), .int (0 : Int32)]) (rest := []) (st1 := []) rfl dX1_weighRest_5 ls_RX1_71 rfl rfl (Nat.le_of_ble_eq_true rfl) (ok_J7_fill_53178 N (Nat.le_trans (by decide) hd) (sc29 hG) es19) rfl ?_
  refine zf_iconst (q := 9) rfl dX1_weighRest_8 ic0 ?_
  refine zf_istore_n (q := 10) (y := (0 : Int32)) (i := 2) (lv1 := [(2, .int (0 : Int32)), (0, .ref (zad G 23)), (1, .int x1)]) rfl dX1_weighRest_9 rfl (by decide) rfl rfl ?_
  refine zf_iconst (q := 11) rfl dX1_weighRest_10 ic0 ?_
  refine zf_istore_n (q := 12) (y := (0 : Int32)) (i := 3) (lv1 := [(3, .int (0 : Int32)), (2, .int (0 : Int32)), (0, .ref (zad G 23)), (1, .int x1)]) rfl dX1_weighRest_11 rfl (by decide) rfl rfl ?_
  exact zf_sub [2, 3, 1, 0] rfl (ok_X1_weighRest_12 hG N hd _ _ _ _ _ h)
-- ===== X1_measure: NearCopies$Chart.measure()I
def f_X1_measure_102 (N : Nat) (x1 : Int32) (σ : ZM) : Option (Int32 × ZM) :=
  some (x1, σ)
set_option maxRecDepth 100000 in
theorem ok_X1_measure_102 {G : ZG} (hG : zSH G = shC) (N : Nat) {d : Nat} (hd : 3 ≤ d) {res : Int32 × ZM} {x1 : Int32} {σ : ZM} (h : f_X1_measure_102 N x1 σ = some res) : zF G MX1_measure (d + 1) 102 [(1, .int x1)] [] σ (some (.int res.1)) res.2 := by
  unfold f_X1_measure_102 at h
  refine zf_iload_n 0 (q := 103) (j := 1) rfl dX1_measure_102 rfl rfl ?_
  cases h
  exact zf_ireturn dX1_measure_103 rfl
def f_X1_measure_20 (N : Nat) (σ : ZM) : Option (Int32 × ZM) :=
  zbd (f_X1_place N σ) fun r1 s2 =>
  (zald s2 30 625 r1).bind fun v3 =>
  if v3 = (-1 : Int32) then
  (zbd (f_X7_copy N 24 12 s2) fun r4 s5 =>
  (zcpy s5 32 4 (0 : Int32) 25 4 (0 : Int32) (4 : Int32)).bind fun s6 =>
  zbd (f_X2_takeLeastRules N s6) fun r7 s8 =>
  zbd (f_X2_settle N 24 s8) fun r9 s10 =>
  if r9 = (-9 : Int32) then
  ((zast s10 30 625 r1 (-9 : Int32)).bind fun s13 =>
  f_X1_measure_102 N r1 s13)
  else
  (zbd (f_X1_weighRest N r1 s10) fun r11 s12 =>
  f_X1_measure_102 N r1 s12))
  else
  (f_X1_measure_102 N r1 s2)
set_option maxRecDepth 100000 in
theorem ok_X1_measure_20 {G : ZG} (hG : zSH G = shC) (N : Nat) {d : Nat} (hd : 3 ≤ d) {res : Int32 × ZM} {σ : ZM} (h : f_X1_measure_20 N σ = some res) : zF G MX1_measure (d + 1) 20 [(0, .ref (zad G 23))] [] σ (some (.int res.1)) res.2 := by
  unfold f_X1_measure_20 at h
  refine zf_aload_n 0 (q := 21) (j := 0) rfl dX1_measure_20 rfl rfl ?_
  obtain ⟨r1, s2, es2, h⟩ := zc h
  refine zf_callV (q := 24) (As := []) (rest := []) (st1 := [.int r1]) rfl dX1_measure_21 lv_RX1_77 (sc23 hG) rfl rfl (Nat.le_of_ble_eq_true rfl) (ok_X1_place hG N (Nat.le_trans (by decide) hd) es2) rfl ?_
  refine zf_istore_n (q := 25) (y := r1) (i := 1) (lv1 := [(1, .int r1), (0, .ref (zad G 23))]) rfl dX1_measure_24 rfl (by decide) rfl rfl ?_
  refine zf_aload_n 1 (q := 26) (j := 0) rfl dX1_measure_25 rfl rfl ?_
  refine zf_getR (q := 29) rfl dX1_measure_26 lf_RX1_22 (sc23 hG) rfl ?_
  refine zf_iload_n 0 (q := 30) (j := 1) rfl dX1_measure_29 rfl rfl ?_
  obtain ⟨v3, ev3, h⟩ := zb h
  refine zf_iald (q := 31) rfl dX1_measure_30 (sc30 hG) ev3 ?_
  refine zf_iconst (q := 32) rfl dX1_measure_31 icm1 ?_
  refine zf_icmp_ne (q := 35) (tgt := 102) rfl (by decide) dX1_measure_32 (fun hc32 => ?_) (fun hc32 => ?_)
  · replace h := (zi h).2 hc32
    exact zf_sub [0] rfl (ok_X1_measure_102 hG N hd h)
  · replace h := (zi h).1 hc32
    refine zf_aload_n 1 (q := 36) (j := 0) rfl dX1_measure_35 rfl rfl ?_
    refine zf_getR (q := 39) rfl dX1_measure_36 lf_RX1_12 (sc23 hG) rfl ?_
    refine zf_aload_n 1 (q := 40) (j := 0) rfl dX1_measure_39 rfl rfl ?_
    refine zf_getR (q := 43) rfl dX1_measure_40 lf_RX1_46 (sc23 hG) rfl ?_
    obtain ⟨r4, s5, es5, h⟩ := zc h
    refine zf_callV (q := 46) (As := [.ref (zad G 12)]) (rest := []) (st1 := []) rfl dX1_measure_43 lv_RX1_81 (sc24 hG) rfl rfl (Nat.le_of_ble_eq_true rfl) (ok_X7_copy hG N (Nat.le_trans (by decide) hd) (wd24 hG) (wd12 hG) es5) rfl ?_
    refine zf_aload_n 1 (q := 47) (j := 0) rfl dX1_measure_46 rfl rfl ?_
    refine zf_getR (q := 50) rfl dX1_measure_47 lf_RX1_28 (sc23 hG) rfl ?_
    refine zf_iconst (q := 51) rfl dX1_measure_50 ic0 ?_
    refine zf_aload_n 1 (q := 52) (j := 0) rfl dX1_measure_51 rfl rfl ?_
    refine zf_getR (q := 55) rfl dX1_measure_52 lf_RX1_12 (sc23 hG) rfl ?_
    refine zf_getR (q := 58) rfl dX1_measure_55 lf_RX1_57 (sc24 hG) rfl ?_
    refine zf_iconst (q := 59) rfl dX1_measure_58 ic0 ?_
    refine zf_iconst (q := 60) rfl dX1_measure_59 ic4 ?_
    obtain ⟨s6, es6, h⟩ := zb h
    refine zf_copy (q := 63) rfl dX1_measure_60 ac_RX1_85 ac_1 ac_2 ac_3 (sc32 hG) (sc25 hG) es6 (Nat.succ_le_succ (Nat.zero_le _)) ?_
    refine zf_aload_n 1 (q := 64) (j := 0) rfl dX1_measure_63 rfl rfl ?_
    refine zf_getR (q := 67) rfl dX1_measure_64 lf_RX1_49 (sc23 hG) rfl ?_
    obtain ⟨r7, s8, es8, h⟩ := zc h
    refine zf_callV (q := 70) (As := []) (rest := []) (st1 := []) rfl dX1_measure_67 lv_RX1_91 (sc17 hG) rfl rfl (Nat.le_of_ble_eq_true rfl) (ok_X2_takeLeastRules hG N (Nat.le_trans (by decide) hd) es8) rfl ?_
    refine zf_aload_n 1 (q := 71) (j := 0) rfl dX1_measure_70 rfl rfl ?_
    refine zf_getR (q := 74) rfl dX1_measure_71 lf_RX1_49 (sc23 hG) rfl ?_
    refine zf_aload_n 1 (q := 75) (j := 0) rfl dX1_measure_74 rfl rfl ?_
    refine zf_getR (q := 78) rfl dX1_measure_75 lf_RX1_12 (sc23 hG) rfl ?_
    obtain ⟨r9, s10, es10, h⟩ := zc h
    refine zf_callV (q := 81) (As := [.ref (zad G 24)]) (rest := []) (st1 := [.int r9]) rfl dX1_measure_78 lv_RX1_96 (sc17 hG) rfl rfl (Nat.le_of_ble_eq_true rfl) (ok_X2_settle hG N (Nat.le_trans (by decide) hd) (wd24 hG) es10) rfl ?_
    refine zf_bipush (q := 83) rfl dX1_measure_81 bpm9 ?_
    refine zf_icmp_ne (q := 86) (tgt := 97) rfl (by decide) dX1_measure_83 (fun hc83 => ?_) (fun hc83 => ?_)
    · replace h := (zi h).2 hc83
      refine zf_aload_n 1 (q := 98) (j := 0) rfl dX1_measure_97 rfl rfl ?_
      refine zf_iload_n 0 (q := 99) (j := 1) rfl dX1_measure_98 rfl rfl ?_
      obtain ⟨r11, s12, es12, h⟩ := zc h
      refine zf_callV (q := 102) (As := [.int r1]) (rest := []) (st1 := []) rfl dX1_measure_99 lv_RX1_100 (sc23 hG) rfl rfl (Nat.le_of_ble_eq_true rfl) (ok_X1_weighRest hG N (Nat.le_trans (by decide) hd) es12) rfl ?_
      exact zf_sub [0] rfl (ok_X1_measure_102 hG N hd h)
    · replace h := (zi h).1 hc83
      refine zf_aload_n 1 (q := 87) (j := 0) rfl dX1_measure_86 rfl rfl ?_
      refine zf_getR (q := 90) rfl dX1_measure_87 lf_RX1_22 (sc23 hG) rfl ?_
      refine zf_iload_n 0 (q := 91) (j := 1) rfl dX1_measure_90 rfl rfl ?_
      refine zf_bipush (q := 93) rfl dX1_measure_91 bpm9 ?_
      obtain ⟨s13, es13, h⟩ := zb h
      refine zf_iast (q := 94) rfl dX1_measure_93 (sc30 hG) es13 ?_
      refine zf_goto (tgt := 102) (by decide) dX1_measure_94 ?_
      exact zf_sub [0] rfl (ok_X1_measure_102 hG N hd h)
def f_X1_measure (N : Nat) (σ : ZM) : Option (Int32 × ZM) :=
  if (σ.1 23 14) = 0 then
  (f_X1_measure_20 N σ)
  else
  (zbd (f_J7_fill_53178 N 30 625 (-1 : Int32) σ) fun r14 s15 =>
  (zpZ s15 23 14 (0 : Int32)).bind fun s16 =>
  f_X1_measure_20 N s16)
set_option maxRecDepth 100000 in
theorem ok_X1_measure {G : ZG} (hG : zSH G = shC) (N : Nat) {d : Nat} (hd : 4 ≤ d) {σ : ZM} {res : Int32 × ZM} (h : f_X1_measure N σ = some res) : zCt G d MX1_measure [.ref (zad G 23)] σ (some (.int res.1)) res.2 := by
  obtain ⟨d, rfl⟩ : ∃ k, d = k + 1 := ⟨d - 1, by omega⟩
  have hd : 3 ≤ d := by omega
  refine zct_of (by decide) (Nat.le_of_ble_eq_true rfl) (lv := [(0, .ref (zad G 23))]) rfl ?_
  unfold f_X1_measure at h
  refine zf_aload_n 0 (q := 1) (j := 0) rfl dX1_measure_0 rfl rfl ?_
  refine zf_getI (q := 4) rfl dX1_measure_1 lf_RX1_34 (sc23 hG) rfl ?_
  refine zf_if_eq (q := 7) (tgt := 20) rfl (by decide) dX1_measure_4 (fun hc4 => ?_) (fun hc4 => ?_)
  · replace h := (zi h).1 hc4
    exact zf_sub [0] rfl (ok_X1_measure_20 hG N hd h)
  · replace h := (zi h).2 hc4
    refine zf_aload_n 0 (q := 8) (j := 0) rfl dX1_measure_7 rfl rfl ?_
    refine zf_getR (q := 11) rfl dX1_measure_8 lf_RX1_22 (sc23 hG) rfl ?_
    refine zf_iconst (q := 12) rfl dX1_measure_11 icm1 ?_
    obtain ⟨r14, s15, es15, h⟩ := zc h
    refine zf_callS (q := 15) (As := [.ref (zad G 30), .int (-1 : Int32)]) (rest := []) (st1 := []) rfl dX1_measure_12 ls_RX1_71 rfl rfl (Nat.le_of_ble_eq_true rfl) (ok_J7_fill_53178 N (Nat.le_trans (by decide) hd) (sc30 hG) es15) rfl ?_
    refine zf_aload_n 0 (q := 16) (j := 0) rfl dX1_measure_15 rfl rfl ?_
    refine zf_iconst (q := 17) rfl dX1_measure_16 ic0 ?_
    obtain ⟨s16, es16, h⟩ := zb h
    refine zf_putZ (q := 20) rfl dX1_measure_17 lp_RX1_34 (sc23 hG) rfl es16 ?_
    exact zf_sub [0] rfl (ok_X1_measure_20 hG N hd h)
-- ===== X1_measureAll: NearCopies$Chart.measureAll()V
def b_X1_measureAll_8 (N : Nat) (rec8 : Int32 → Int32 → ZM → Option (Unit × ZM)) (x1 : Int32) (x2 : Int32) (σ : ZM) : Option (Unit × ZM) :=
  if (625 : Int32) ≤ x2 then
  (some ((), σ))
  else
  (if x1 = 0 then
  (some ((), σ))
  else
  (zbd (f_X1_measure N σ) fun r1 s2 =>
  zbd (f_X1_pickNext N s2) fun r3 s4 =>
  (some (x2 + (1 : Int32))).bind fun v5 =>
  rec8 r3 v5 s4))
set_option maxRecDepth 100000 in
theorem ok_b_X1_measureAll_8 {G : ZG} (hG : zSH G = shC) (N : Nat) {d : Nat} (hd : 4 ≤ d) {rec8 : Int32 → Int32 → ZM → Option (Unit × ZM)} {res : Unit × ZM} (hr8 : ∀ (x1 : Int32) (x2 : Int32) (σ : ZM), rec8 x1 x2 σ = some res → zF G MX1_measureAll (d + 1) 8 [(0, .ref (zad G 23)), (1, .int x1), (2, .int x2)] [] σ none res.2) {x1 : Int32} {x2 : Int32} {σ : ZM} (h : b_X1_measureAll_8 N rec8 x1 x2 σ = some res) : zF G MX1_measureAll (d + 1) 8 [(0, .ref (zad G 23)), (1, .int x1), (2, .int x2)] [] σ none res.2 := by
  unfold b_X1_measureAll_8 at h
  refine zf_iload_n 2 (q := 9) (j := 2) rfl dX1_measureAll_8 rfl rfl ?_
  refine zf_sipush (q := 12) rfl dX1_measureAll_9 sp625 ?_
  refine zf_icmp_ge (q := 15) (tgt := 35) rfl (by decide) dX1_measureAll_12 (fun hc12 => ?_) (fun hc12 => ?_)
  · replace h := (zi h).1 hc12
    cases h
    exact zf_return dX1_measureAll_35 rfl
  · replace h := (zi h).2 hc12
    refine zf_iload_n 1 (q := 16) (j := 1) rfl dX1_measureAll_15 rfl rfl ?_
    refine zf_if_eq (q := 19) (tgt := 35) rfl (by decide) dX1_measureAll_16 (fun hc16 => ?_) (fun hc16 => ?_)
    · replace h := (zi h).1 hc16
      cases h
      exact zf_return dX1_measureAll_35 rfl
    · replace h := (zi h).2 hc16
      refine zf_aload_n 0 (q := 20) (j := 0) rfl dX1_measureAll_19 rfl rfl ?_
      obtain ⟨r1, s2, es2, h⟩ := zc h
      refine zf_callV (q := 23) (As := []) (rest := []) (st1 := [.int r1]) rfl dX1_measureAll_20 lv_RX1_131 (sc23 hG) rfl rfl (Nat.le_of_ble_eq_true rfl) (ok_X1_measure hG N (Nat.le_trans (by decide) hd) es2) rfl ?_
      refine zf_pop (q := 24) rfl dX1_measureAll_23 rfl ?_
      refine zf_aload_n 0 (q := 25) (j := 0) rfl dX1_measureAll_24 rfl rfl ?_
      obtain ⟨r3, s4, es4, h⟩ := zc h
      refine zf_callV (q := 28) (As := []) (rest := []) (st1 := [.int r3]) rfl dX1_measureAll_25 lv_RX1_134 (sc23 hG) rfl rfl (Nat.le_of_ble_eq_true rfl) (ok_X1_pickNext hG N (Nat.le_trans (by decide) hd) es4) rfl ?_
      refine zf_istore_n (q := 29) (y := r3) (i := 1) (lv1 := [(1, .int r3), (0, .ref (zad G 23)), (2, .int x2)]) rfl dX1_measureAll_28 rfl (by decide) rfl rfl ?_
      obtain ⟨v5, ev5, h⟩ := zb h
      refine zf_iinc 2 (q := 32) (v := v5) (lv1 := [(2, .int v5), (1, .int r3), (0, .ref (zad G 23))]) rfl dX1_measureAll_29 rfl (by rw [ic1]; exact ev5) (by decide) rfl ?_
      refine zf_goto (tgt := 8) (by decide) dX1_measureAll_32 ?_
      exact zf_sub [2, 1, 0] rfl (hr8 _ _ _ h)
def f_X1_measureAll_8 (N : Nat) : Nat → Int32 → Int32 → ZM → Option (Unit × ZM)
  | 0, _, _, _ => none
  | n + 1, x1, x2, σ => b_X1_measureAll_8 N (f_X1_measureAll_8 N n) x1 x2 σ
theorem ok_X1_measureAll_8 {G : ZG} (hG : zSH G = shC) (N : Nat) {d : Nat} (hd : 4 ≤ d) {res : Unit × ZM} : ∀ (n : Nat) (x1 : Int32) (x2 : Int32) (σ : ZM), f_X1_measureAll_8 N n x1 x2 σ = some res → zF G MX1_measureAll (d + 1) 8 [(0, .ref (zad G 23)), (1, .int x1), (2, .int x2)] [] σ none res.2 := by
  intro n
  induction n with
  | zero => intro x1 x2 σ h; exact absurd h (by simp [f_X1_measureAll_8])
  | succ n ih => intro x1 x2 σ h; rw [f_X1_measureAll_8] at h; exact ok_b_X1_measureAll_8 hG N hd ih h
def f_X1_measureAll (N : Nat) (σ : ZM) : Option (Unit × ZM) :=
  zbd (f_X1_pickFirst N σ) fun r6 s7 =>
  f_X1_measureAll_8 N N (1 : Int32) (0 : Int32) s7
set_option maxRecDepth 100000 in
theorem ok_X1_measureAll {G : ZG} (hG : zSH G = shC) (N : Nat) {d : Nat} (hd : 5 ≤ d) {σ : ZM} {res : Unit × ZM} (h : f_X1_measureAll N σ = some res) : zCt G d MX1_measureAll [.ref (zad G 23)] σ none res.2 := by
  obtain ⟨d, rfl⟩ : ∃ k, d = k + 1 := ⟨d - 1, by omega⟩
  have hd : 4 ≤ d := by omega
  refine zct_of (by decide) (Nat.le_of_ble_eq_true rfl) (lv := [(0, .ref (zad G 23))]) rfl ?_
  unfold f_X1_measureAll at h
  refine zf_aload_n 0 (q := 1) (j := 0) rfl dX1_measureAll_0 rfl rfl ?_
  obtain ⟨r6, s7, es7, h⟩ := zc h
  refine zf_callV (q := 4) (As := []) (rest := []) (st1 := []) rfl dX1_measureAll_1 lv_RX1_128 (sc23 hG) rfl rfl (Nat.le_of_ble_eq_true rfl) (ok_X1_pickFirst hG N (Nat.le_trans (by decide) hd) es7) rfl ?_
  refine zf_iconst (q := 5) rfl dX1_measureAll_4 ic1 ?_
  refine zf_istore_n (q := 6) (y := (1 : Int32)) (i := 1) (lv1 := [(1, .int (1 : Int32)), (0, .ref (zad G 23))]) rfl dX1_measureAll_5 rfl (by decide) rfl rfl ?_
  refine zf_iconst (q := 7) rfl dX1_measureAll_6 ic0 ?_
  refine zf_istore_n (q := 8) (y := (0 : Int32)) (i := 2) (lv1 := [(2, .int (0 : Int32)), (1, .int (1 : Int32)), (0, .ref (zad G 23))]) rfl dX1_measureAll_7 rfl (by decide) rfl rfl ?_
  exact zf_sub [2, 1, 0] rfl (ok_X1_measureAll_8 hG N hd _ _ _ _ h)
-- ===== X1_weighPlace: NearCopies$Chart.weighPlace(I)Z
def f_X1_weighPlace (N : Nat) (x1 : Int32) (σ : ZM) : Option (Int32 × ZM) :=
  (zald σ 30 625 x1).bind fun v1 =>
  (zpI σ 23 12 (zmax (σ.1 23 12) v1)).bind fun s2 =>
  (zald s2 31 625 x1).bind fun v3 =>
  (zpI s2 23 13 (zmax (s2.1 23 13) v3)).bind fun s4 =>
  (zald s4 30 625 x1).bind fun v5 =>
  if v5 = (-9 : Int32) then
  (some ((0 : Int32), s4))
  else
  (some ((1 : Int32), s4))
set_option maxRecDepth 100000 in
theorem ok_X1_weighPlace {G : ZG} (hG : zSH G = shC) (N : Nat) {d : Nat} (hd : 1 ≤ d) {x1 : Int32} {σ : ZM} {res : Int32 × ZM} (h : f_X1_weighPlace N x1 σ = some res) : zCt G d MX1_weighPlace [.ref (zad G 23), .int x1] σ (some (.int res.1)) res.2 := by
  obtain ⟨d, rfl⟩ : ∃ k, d = k + 1 := ⟨d - 1, by omega⟩
  have hd : 0 ≤ d := by omega
  refine zct_of (by decide) (Nat.le_of_ble_eq_true rfl) (lv := [(0, .ref (zad G 23)), (1, .int x1)]) rfl ?_
  unfold f_X1_weighPlace at h
  refine zf_aload_n 0 (q := 1) (j := 0) rfl dX1_weighPlace_0 rfl rfl ?_
  refine zf_aload_n 0 (q := 2) (j := 0) rfl dX1_weighPlace_1 rfl rfl ?_
  refine zf_getI (q := 5) rfl dX1_weighPlace_2 lf_RX1_151 (sc23 hG) rfl ?_
  refine zf_aload_n 0 (q := 6) (j := 0) rfl dX1_weighPlace_5 rfl rfl ?_
  refine zf_getR (q := 9) rfl dX1_weighPlace_6 lf_RX1_22 (sc23 hG) rfl ?_
  refine zf_iload_n 1 (q := 10) (j := 1) rfl dX1_weighPlace_9 rfl rfl ?_
  obtain ⟨v1, ev1, h⟩ := zb h
  refine zf_iald (q := 11) rfl dX1_weighPlace_10 (sc30 hG) ev1 ?_
  refine zf_mmax (q := 14) rfl dX1_weighPlace_11 mm_RX1_122 mm_max1 mm_0 mm_max2 (Nat.le_of_ble_eq_true rfl) ?_
  obtain ⟨s2, es2, h⟩ := zb h
  refine zf_putI (q := 17) rfl dX1_weighPlace_14 lp_RX1_151 (sc23 hG) rfl es2 ?_
  refine zf_aload_n 0 (q := 18) (j := 0) rfl dX1_weighPlace_17 rfl rfl ?_
  refine zf_aload_n 0 (q := 19) (j := 0) rfl dX1_weighPlace_18 rfl rfl ?_
  refine zf_getI (q := 22) rfl dX1_weighPlace_19 lf_RX1_154 (sc23 hG) rfl ?_
  refine zf_aload_n 0 (q := 23) (j := 0) rfl dX1_weighPlace_22 rfl rfl ?_
  refine zf_getR (q := 26) rfl dX1_weighPlace_23 lf_RX1_25 (sc23 hG) rfl ?_
  refine zf_iload_n 1 (q := 27) (j := 1) rfl dX1_weighPlace_26 rfl rfl ?_
  obtain ⟨v3, ev3, h⟩ := zb h
  refine zf_iald (q := 28) rfl dX1_weighPlace_27 (sc31 hG) ev3 ?_
  refine zf_mmax (q := 31) rfl dX1_weighPlace_28 mm_RX1_122 mm_max1 mm_0 mm_max2 (Nat.le_of_ble_eq_true rfl) ?_
  obtain ⟨s4, es4, h⟩ := zb h
  refine zf_putI (q := 34) rfl dX1_weighPlace_31 lp_RX1_154 (sc23 hG) rfl es4 ?_
  refine zf_aload_n 0 (q := 35) (j := 0) rfl dX1_weighPlace_34 rfl rfl ?_
  refine zf_getR (q := 38) rfl dX1_weighPlace_35 lf_RX1_22 (sc23 hG) rfl ?_
  refine zf_iload_n 1 (q := 39) (j := 1) rfl dX1_weighPlace_38 rfl rfl ?_
  obtain ⟨v5, ev5, h⟩ := zb h
  refine zf_iald (q := 40) rfl dX1_weighPlace_39 (sc30 hG) ev5 ?_
  refine zf_bipush (q := 42) rfl dX1_weighPlace_40 bpm9 ?_
  refine zf_icmp_eq (q := 45) (tgt := 49) rfl (by decide) dX1_weighPlace_42 (fun hc42 => ?_) (fun hc42 => ?_)
  · replace h := (zi h).1 hc42
    refine zf_iconst (q := 50) rfl dX1_weighPlace_49 ic0 ?_
    cases h
    exact zf_zreturn dX1_weighPlace_50 rfl (Or.inl rfl)
  · replace h := (zi h).2 hc42
    refine zf_iconst (q := 46) rfl dX1_weighPlace_45 ic1 ?_
    refine zf_goto (tgt := 50) (by decide) dX1_weighPlace_46 ?_
    cases h
    exact zf_zreturn dX1_weighPlace_50 rfl (Or.inr rfl)
-- ===== X1_weighPick: NearCopies$Chart.weighPick(Z)Z
def f_X1_weighPick_78 (N : Nat) (x2 : Int32) (σ : ZM) : Option (Int32 × ZM) :=
  zrz x2 σ
set_option maxRecDepth 100000 in
theorem ok_X1_weighPick_78 {G : ZG} (hG : zSH G = shC) (N : Nat) {d : Nat} (hd : 1 ≤ d) {res : Int32 × ZM} {x2 : Int32} {σ : ZM} (h : f_X1_weighPick_78 N x2 σ = some res) : zF G MX1_weighPick (d + 1) 78 [(2, .int x2)] [] σ (some (.int res.1)) res.2 := by
  unfold f_X1_weighPick_78 at h
  refine zf_iload_n 0 (q := 79) (j := 2) rfl dX1_weighPick_78 rfl rfl ?_
  obtain ⟨hz, rfl⟩ := zrz_ok h
  exact zf_zreturn dX1_weighPick_79 rfl hz
def b_X1_weighPick_21 (N : Nat) (rec21 : Int32 → Int32 → Int32 → ZM → Option (Int32 × ZM)) (x1 : Int32) (x2 : Int32) (x3 : Int32) (σ : ZM) : Option (Int32 × ZM) :=
  if (σ.1 12 0) ≤ x3 then
  (f_X1_weighPick_78 N x2 σ)
  else
  (if x1 = 0 then
  (f_X1_weighPick_78 N x2 σ)
  else
  (if x2 = 0 then
  (f_X1_weighPick_78 N x2 σ)
  else
  ((zald σ 32 4 x3).bind fun v1 =>
  (zast σ 32 4 x3 (4 : Int32)).bind fun s2 =>
  zbd (f_X1_place N s2) fun r3 s4 =>
  zbd (f_X1_weighPlace N r3 s4) fun r5 s6 =>
  (zast s6 32 4 x3 v1).bind fun s7 =>
  (some (x3 + (1 : Int32))).bind fun v8 =>
  rec21 x1 r5 v8 s7)))
set_option maxRecDepth 100000 in
theorem ok_b_X1_weighPick_21 {G : ZG} (hG : zSH G = shC) (N : Nat) {d : Nat} (hd : 1 ≤ d) {rec21 : Int32 → Int32 → Int32 → ZM → Option (Int32 × ZM)} {res : Int32 × ZM} (hr21 : ∀ (x1 : Int32) (x2 : Int32) (x3 : Int32) (σ : ZM), rec21 x1 x2 x3 σ = some res → zF G MX1_weighPick (d + 1) 21 [(0, .ref (zad G 23)), (1, .int x1), (2, .int x2), (3, .int x3)] [] σ (some (.int res.1)) res.2) {x1 : Int32} {x2 : Int32} {x3 : Int32} {σ : ZM} (h : b_X1_weighPick_21 N rec21 x1 x2 x3 σ = some res) : zF G MX1_weighPick (d + 1) 21 [(0, .ref (zad G 23)), (1, .int x1), (2, .int x2), (3, .int x3)] [] σ (some (.int res.1)) res.2 := by
  unfold b_X1_weighPick_21 at h
  refine zf_iload_n 3 (q := 22) (j := 3) rfl dX1_weighPick_21 rfl rfl ?_
  refine zf_aload_n 0 (q := 23) (j := 0) rfl dX1_weighPick_22 rfl rfl ?_
  refine zf_getR (q := 26) rfl dX1_weighPick_23 lf_RX1_46 (sc23 hG) rfl ?_
  refine zf_getI (q := 29) rfl dX1_weighPick_26 lf_RX1_67 (sc12 hG) rfl ?_
  refine zf_icmp_ge (q := 32) (tgt := 78) rfl (by decide) dX1_weighPick_29 (fun hc29 => ?_) (fun hc29 => ?_)
  · replace h := (zi h).1 hc29
    exact zf_sub [2] rfl (ok_X1_weighPick_78 hG N hd h)
  · replace h := (zi h).2 hc29
    refine zf_iload_n 1 (q := 33) (j := 1) rfl dX1_weighPick_32 rfl rfl ?_
    refine zf_if_eq (q := 36) (tgt := 78) rfl (by decide) dX1_weighPick_33 (fun hc33 => ?_) (fun hc33 => ?_)
    · replace h := (zi h).1 hc33
      exact zf_sub [2] rfl (ok_X1_weighPick_78 hG N hd h)
    · replace h := (zi h).2 hc33
      refine zf_iload_n 2 (q := 37) (j := 2) rfl dX1_weighPick_36 rfl rfl ?_
      refine zf_if_eq (q := 40) (tgt := 78) rfl (by decide) dX1_weighPick_37 (fun hc37 => ?_) (fun hc37 => ?_)
      · replace h := (zi h).1 hc37
        exact zf_sub [2] rfl (ok_X1_weighPick_78 hG N hd h)
      · replace h := (zi h).2 hc37
        refine zf_aload_n 0 (q := 41) (j := 0) rfl dX1_weighPick_40 rfl rfl ?_
        refine zf_getR (q := 44) rfl dX1_weighPick_41 lf_RX1_28 (sc23 hG) rfl ?_
        refine zf_iload_n 3 (q := 45) (j := 3) rfl dX1_weighPick_44 rfl rfl ?_
        obtain ⟨v1, ev1, h⟩ := zb h
        refine zf_iald (q := 46) rfl dX1_weighPick_45 (sc32 hG) ev1 ?_
        refine zf_istore (q := 48) (y := v1) (i := 4) (lv1 := [(4, .int v1), (0, .ref (zad G 23)), (1, .int x1), (2, .int x2), (3, .int x3)]) rfl dX1_weighPick_46 (by decide) rfl rfl ?_
        refine zf_aload_n 1 (q := 49) (j := 0) rfl dX1_weighPick_48 rfl rfl ?_
        refine zf_getR (q := 52) rfl dX1_weighPick_49 lf_RX1_28 (sc23 hG) rfl ?_
        refine zf_iload_n 4 (q := 53) (j := 3) rfl dX1_weighPick_52 rfl rfl ?_
        refine zf_iconst (q := 54) rfl dX1_weighPick_53 ic4 ?_
        obtain ⟨s2, es2, h⟩ := zb h
        refine zf_iast (q := 55) rfl dX1_weighPick_54 (sc32 hG) es2 ?_
        refine zf_aload_n 1 (q := 56) (j := 0) rfl dX1_weighPick_55 rfl rfl ?_
        refine zf_aload_n 1 (q := 57) (j := 0) rfl dX1_weighPick_56 rfl rfl ?_
        obtain ⟨r3, s4, es4, h⟩ := zc h
        refine zf_callV (q := 60) (As := []) (rest := [.ref (zad G 23)]) (st1 := [.int r3, .ref (zad G 23)]) rfl dX1_weighPick_57 lv_RX1_77 (sc23 hG) rfl rfl (Nat.le_of_ble_eq_true rfl) (ok_X1_place hG N (Nat.le_trans (by decide) hd) es4) rfl ?_
        obtain ⟨r5, s6, es6, h⟩ := zc h
        refine zf_callV (q := 63) (As := [.int r3]) (rest := []) (st1 := [.int r5]) rfl dX1_weighPick_60 lv_RX1_157 (sc23 hG) rfl rfl (Nat.le_of_ble_eq_true rfl) (ok_X1_weighPlace hG N (Nat.le_trans (by decide) hd) es6) rfl ?_
        refine zf_istore_n (q := 64) (y := r5) (i := 2) (lv1 := [(2, .int r5), (4, .int v1), (0, .ref (zad G 23)), (1, .int x1), (3, .int x3)]) rfl dX1_weighPick_63 rfl (by decide) rfl rfl ?_
        refine zf_aload_n 2 (q := 65) (j := 0) rfl dX1_weighPick_64 rfl rfl ?_
        refine zf_getR (q := 68) rfl dX1_weighPick_65 lf_RX1_28 (sc23 hG) rfl ?_
        refine zf_iload_n 4 (q := 69) (j := 3) rfl dX1_weighPick_68 rfl rfl ?_
        refine zf_iload 1 (q := 71) rfl dX1_weighPick_69 rfl ?_
        obtain ⟨s7, es7, h⟩ := zb h
        refine zf_iast (q := 72) rfl dX1_weighPick_71 (sc32 hG) es7 ?_
        obtain ⟨v8, ev8, h⟩ := zb h
        refine zf_iinc 4 (q := 75) (v := v8) (lv1 := [(3, .int v8), (2, .int r5), (4, .int v1), (0, .ref (zad G 23)), (1, .int x1)]) rfl dX1_weighPick_72 rfl (by rw [ic1]; exact ev8) (by decide) rfl ?_
        refine zf_goto (tgt := 21) (by decide) dX1_weighPick_75 ?_
        exact zf_sub [3, 4, 1, 0] rfl (hr21 _ _ _ _ h)
def f_X1_weighPick_21 (N : Nat) : Nat → Int32 → Int32 → Int32 → ZM → Option (Int32 × ZM)
  | 0, _, _, _, _ => none
  | n + 1, x1, x2, x3, σ => b_X1_weighPick_21 N (f_X1_weighPick_21 N n) x1 x2 x3 σ
theorem ok_X1_weighPick_21 {G : ZG} (hG : zSH G = shC) (N : Nat) {d : Nat} (hd : 1 ≤ d) {res : Int32 × ZM} : ∀ (n : Nat) (x1 : Int32) (x2 : Int32) (x3 : Int32) (σ : ZM), f_X1_weighPick_21 N n x1 x2 x3 σ = some res → zF G MX1_weighPick (d + 1) 21 [(0, .ref (zad G 23)), (1, .int x1), (2, .int x2), (3, .int x3)] [] σ (some (.int res.1)) res.2 := by
  intro n
  induction n with
  | zero => intro x1 x2 x3 σ h; exact absurd h (by simp [f_X1_weighPick_21])
  | succ n ih => intro x1 x2 x3 σ h; rw [f_X1_weighPick_21] at h; exact ok_b_X1_weighPick_21 hG N hd ih h
def f_X1_weighPick (N : Nat) (x1 : Int32) (σ : ZM) : Option (Int32 × ZM) :=
  (zpI σ 23 12 (0 : Int32)).bind fun s9 =>
  (zpI s9 23 13 (0 : Int32)).bind fun s10 =>
  zbd (f_X1_place N s10) fun r11 s12 =>
  zbd (f_X1_weighPlace N r11 s12) fun r13 s14 =>
  f_X1_weighPick_21 N N x1 r13 (0 : Int32) s14
set_option maxRecDepth 100000 in
theorem ok_X1_weighPick {G : ZG} (hG : zSH G = shC) (N : Nat) {d : Nat} (hd : 2 ≤ d) {x1 : Int32} {σ : ZM} {res : Int32 × ZM} (h : f_X1_weighPick N x1 σ = some res) : zCt G d MX1_weighPick [.ref (zad G 23), .int x1] σ (some (.int res.1)) res.2 := by
  obtain ⟨d, rfl⟩ : ∃ k, d = k + 1 := ⟨d - 1, by omega⟩
  have hd : 1 ≤ d := by omega
  refine zct_of (by decide) (Nat.le_of_ble_eq_true rfl) (lv := [(0, .ref (zad G 23)), (1, .int x1)]) rfl ?_
  unfold f_X1_weighPick at h
  refine zf_aload_n 0 (q := 1) (j := 0) rfl dX1_weighPick_0 rfl rfl ?_
  refine zf_iconst (q := 2) rfl dX1_weighPick_1 ic0 ?_
  obtain ⟨s9, es9, h⟩ := zb h
  refine zf_putI (q := 5) rfl dX1_weighPick_2 lp_RX1_151 (sc23 hG) rfl es9 ?_
  refine zf_aload_n 0 (q := 6) (j := 0) rfl dX1_weighPick_5 rfl rfl ?_
  refine zf_iconst (q := 7) rfl dX1_weighPick_6 ic0 ?_
  obtain ⟨s10, es10, h⟩ := zb h
  refine zf_putI (q := 10) rfl dX1_weighPick_7 lp_RX1_154 (sc23 hG) rfl es10 ?_
  refine zf_aload_n 0 (q := 11) (j := 0) rfl dX1_weighPick_10 rfl rfl ?_
  refine zf_aload_n 0 (q := 12) (j := 0) rfl dX1_weighPick_11 rfl rfl ?_
  obtain ⟨r11, s12, es12, h⟩ := zc h
  refine zf_callV (q := 15) (As := []) (rest := [.ref (zad G 23)]) (st1 := [.int r11, .ref (zad G 23)]) rfl dX1_weighPick_12 lv_RX1_77 (sc23 hG) rfl rfl (Nat.le_of_ble_eq_true rfl) (ok_X1_place hG N (Nat.le_trans (by decide) hd) es12) rfl ?_
  obtain ⟨r13, s14, es14, h⟩ := zc h
  refine zf_callV (q := 18) (As := [.int r11]) (rest := []) (st1 := [.int r13]) rfl dX1_weighPick_15 lv_RX1_157 (sc23 hG) rfl rfl (Nat.le_of_ble_eq_true rfl) (ok_X1_weighPlace hG N (Nat.le_trans (by decide) hd) es14) rfl ?_
  refine zf_istore_n (q := 19) (y := r13) (i := 2) (lv1 := [(2, .int r13), (0, .ref (zad G 23)), (1, .int x1)]) rfl dX1_weighPick_18 rfl (by decide) rfl rfl ?_
  refine zf_iconst (q := 20) rfl dX1_weighPick_19 ic0 ?_
  refine zf_istore_n (q := 21) (y := (0 : Int32)) (i := 3) (lv1 := [(3, .int (0 : Int32)), (2, .int r13), (0, .ref (zad G 23)), (1, .int x1)]) rfl dX1_weighPick_20 rfl (by decide) rfl rfl ?_
  exact zf_sub [2, 3, 1, 0] rfl (ok_X1_weighPick_21 hG N hd _ _ _ _ _ h)
-- ===== X1_isBetter: NearCopies$Chart.isBetter()Z
def f_X1_isBetter_33 (N : Nat) (σ : ZM) : Option (Int32 × ZM) :=
  some ((1 : Int32), σ)
set_option maxRecDepth 100000 in
theorem ok_X1_isBetter_33 {G : ZG} (hG : zSH G = shC) (N : Nat) {d : Nat} {res : Int32 × ZM} {σ : ZM} (h : f_X1_isBetter_33 N σ = some res) : zF G MX1_isBetter d 33 [] [] σ (some (.int res.1)) res.2 := by
  unfold f_X1_isBetter_33 at h
  refine zf_iconst (q := 34) rfl dX1_isBetter_33 ic1 ?_
  refine zf_goto (tgt := 38) (by decide) dX1_isBetter_34 ?_
  cases h
  exact zf_zreturn dX1_isBetter_38 rfl (Or.inr rfl)
def f_X1_isBetter (N : Nat) (σ : ZM) : Option (Int32 × ZM) :=
  if (σ.1 23 12) < (σ.1 23 10) then
  (f_X1_isBetter_33 N σ)
  else
  (if (σ.1 23 12) = (σ.1 23 10) then
  (if (σ.1 23 11) ≤ (σ.1 23 13) then
  (some ((0 : Int32), σ))
  else
  (f_X1_isBetter_33 N σ))
  else
  (some ((0 : Int32), σ)))
set_option maxRecDepth 100000 in
theorem ok_X1_isBetter {G : ZG} (hG : zSH G = shC) (N : Nat) {d : Nat} (hd : 0 ≤ d) {σ : ZM} {res : Int32 × ZM} (h : f_X1_isBetter N σ = some res) : zCt G d MX1_isBetter [.ref (zad G 23)] σ (some (.int res.1)) res.2 := by
  refine zct_of (by decide) (Nat.le_of_ble_eq_true rfl) (lv := [(0, .ref (zad G 23))]) rfl ?_
  unfold f_X1_isBetter at h
  refine zf_aload_n 0 (q := 1) (j := 0) rfl dX1_isBetter_0 rfl rfl ?_
  refine zf_getI (q := 4) rfl dX1_isBetter_1 lf_RX1_151 (sc23 hG) rfl ?_
  refine zf_aload_n 0 (q := 5) (j := 0) rfl dX1_isBetter_4 rfl rfl ?_
  refine zf_getI (q := 8) rfl dX1_isBetter_5 lf_RX1_138 (sc23 hG) rfl ?_
  refine zf_icmp_lt (q := 11) (tgt := 33) rfl (by decide) dX1_isBetter_8 (fun hc8 => ?_) (fun hc8 => ?_)
  · replace h := (zi h).1 hc8
    exact zf_sub [] rfl (ok_X1_isBetter_33 hG N h)
  · replace h := (zi h).2 hc8
    refine zf_aload_n 0 (q := 12) (j := 0) rfl dX1_isBetter_11 rfl rfl ?_
    refine zf_getI (q := 15) rfl dX1_isBetter_12 lf_RX1_151 (sc23 hG) rfl ?_
    refine zf_aload_n 0 (q := 16) (j := 0) rfl dX1_isBetter_15 rfl rfl ?_
    refine zf_getI (q := 19) rfl dX1_isBetter_16 lf_RX1_138 (sc23 hG) rfl ?_
    refine zf_icmp_ne (q := 22) (tgt := 37) rfl (by decide) dX1_isBetter_19 (fun hc19 => ?_) (fun hc19 => ?_)
    · replace h := (zi h).2 hc19
      refine zf_iconst (q := 38) rfl dX1_isBetter_37 ic0 ?_
      cases h
      exact zf_zreturn dX1_isBetter_38 rfl (Or.inl rfl)
    · replace h := (zi h).1 hc19
      refine zf_aload_n 0 (q := 23) (j := 0) rfl dX1_isBetter_22 rfl rfl ?_
      refine zf_getI (q := 26) rfl dX1_isBetter_23 lf_RX1_154 (sc23 hG) rfl ?_
      refine zf_aload_n 0 (q := 27) (j := 0) rfl dX1_isBetter_26 rfl rfl ?_
      refine zf_getI (q := 30) rfl dX1_isBetter_27 lf_RX1_141 (sc23 hG) rfl ?_
      refine zf_icmp_ge (q := 33) (tgt := 37) rfl (by decide) dX1_isBetter_30 (fun hc30 => ?_) (fun hc30 => ?_)
      · replace h := (zi h).1 hc30
        refine zf_iconst (q := 38) rfl dX1_isBetter_37 ic0 ?_
        cases h
        exact zf_zreturn dX1_isBetter_38 rfl (Or.inl rfl)
      · replace h := (zi h).2 hc30
        exact zf_sub [] rfl (ok_X1_isBetter_33 hG N h)
-- ===== X1_seek: NearCopies$Chart.seek(Z)V
def f_X1_seek_89 (N : Nat) (rec20 : Int32 → Int32 → Int32 → ZM → Option (Unit × ZM)) (x1 : Int32) (x3 : Int32) (σ : ZM) : Option (Unit × ZM) :=
  zbd (f_X1_pickNext N σ) fun r1 s2 =>
  (some (x3 + (1 : Int32))).bind fun v3 =>
  rec20 x1 r1 v3 s2
set_option maxRecDepth 100000 in
theorem ok_X1_seek_89 {G : ZG} (hG : zSH G = shC) (N : Nat) {d : Nat} (hd : 2 ≤ d) {rec20 : Int32 → Int32 → Int32 → ZM → Option (Unit × ZM)} {res : Unit × ZM} (hr20 : ∀ (x1 : Int32) (x2 : Int32) (x3 : Int32) (σ : ZM), rec20 x1 x2 x3 σ = some res → zF G MX1_seek (d + 1) 20 [(0, .ref (zad G 23)), (1, .int x1), (2, .int x2), (3, .int x3)] [] σ none res.2) {x1 : Int32} {x3 : Int32} {σ : ZM} (h : f_X1_seek_89 N rec20 x1 x3 σ = some res) : zF G MX1_seek (d + 1) 89 [(0, .ref (zad G 23)), (1, .int x1), (3, .int x3)] [] σ none res.2 := by
  unfold f_X1_seek_89 at h
  refine zf_aload_n 0 (q := 90) (j := 0) rfl dX1_seek_89 rfl rfl ?_
  obtain ⟨r1, s2, es2, h⟩ := zc h
  refine zf_callV (q := 93) (As := []) (rest := []) (st1 := [.int r1]) rfl dX1_seek_90 lv_RX1_134 (sc23 hG) rfl rfl (Nat.le_of_ble_eq_true rfl) (ok_X1_pickNext hG N (Nat.le_trans (by decide) hd) es2) rfl ?_
  refine zf_istore_n (q := 94) (y := r1) (i := 2) (lv1 := [(2, .int r1), (0, .ref (zad G 23)), (1, .int x1), (3, .int x3)]) rfl dX1_seek_93 rfl (by decide) rfl rfl ?_
  obtain ⟨v3, ev3, h⟩ := zb h
  refine zf_iinc 3 (q := 97) (v := v3) (lv1 := [(3, .int v3), (2, .int r1), (0, .ref (zad G 23)), (1, .int x1)]) rfl dX1_seek_94 rfl (by rw [ic1]; exact ev3) (by decide) rfl ?_
  refine zf_goto (tgt := 20) (by decide) dX1_seek_97 ?_
  exact zf_sub [2, 3, 1, 0] rfl (hr20 _ _ _ _ h)
def f_X1_seek_59 (N : Nat) (rec20 : Int32 → Int32 → Int32 → ZM → Option (Unit × ZM)) (x1 : Int32) (x3 : Int32) (σ : ZM) : Option (Unit × ZM) :=
  (zpI σ 23 10 (σ.1 23 12)).bind fun s4 =>
  (zpI s4 23 11 (s4.1 23 13)).bind fun s5 =>
  (zcpy s5 32 4 (0 : Int32) 33 4 (0 : Int32) (4 : Int32)).bind fun s6 =>
  f_X1_seek_89 N rec20 x1 x3 s6
set_option maxRecDepth 100000 in
theorem ok_X1_seek_59 {G : ZG} (hG : zSH G = shC) (N : Nat) {d : Nat} (hd : 2 ≤ d) {rec20 : Int32 → Int32 → Int32 → ZM → Option (Unit × ZM)} {res : Unit × ZM} (hr20 : ∀ (x1 : Int32) (x2 : Int32) (x3 : Int32) (σ : ZM), rec20 x1 x2 x3 σ = some res → zF G MX1_seek (d + 1) 20 [(0, .ref (zad G 23)), (1, .int x1), (2, .int x2), (3, .int x3)] [] σ none res.2) {x1 : Int32} {x3 : Int32} {σ : ZM} (h : f_X1_seek_59 N rec20 x1 x3 σ = some res) : zF G MX1_seek (d + 1) 59 [(0, .ref (zad G 23)), (1, .int x1), (3, .int x3)] [] σ none res.2 := by
  unfold f_X1_seek_59 at h
  refine zf_aload_n 0 (q := 60) (j := 0) rfl dX1_seek_59 rfl rfl ?_
  refine zf_aload_n 0 (q := 61) (j := 0) rfl dX1_seek_60 rfl rfl ?_
  refine zf_getI (q := 64) rfl dX1_seek_61 lf_RX1_151 (sc23 hG) rfl ?_
  obtain ⟨s4, es4, h⟩ := zb h
  refine zf_putI (q := 67) rfl dX1_seek_64 lp_RX1_138 (sc23 hG) rfl es4 ?_
  refine zf_aload_n 0 (q := 68) (j := 0) rfl dX1_seek_67 rfl rfl ?_
  refine zf_aload_n 0 (q := 69) (j := 0) rfl dX1_seek_68 rfl rfl ?_
  refine zf_getI (q := 72) rfl dX1_seek_69 lf_RX1_154 (sc23 hG) rfl ?_
  obtain ⟨s5, es5, h⟩ := zb h
  refine zf_putI (q := 75) rfl dX1_seek_72 lp_RX1_141 (sc23 hG) rfl es5 ?_
  refine zf_aload_n 0 (q := 76) (j := 0) rfl dX1_seek_75 rfl rfl ?_
  refine zf_getR (q := 79) rfl dX1_seek_76 lf_RX1_28 (sc23 hG) rfl ?_
  refine zf_iconst (q := 80) rfl dX1_seek_79 ic0 ?_
  refine zf_aload_n 0 (q := 81) (j := 0) rfl dX1_seek_80 rfl rfl ?_
  refine zf_getR (q := 84) rfl dX1_seek_81 lf_RX1_31 (sc23 hG) rfl ?_
  refine zf_iconst (q := 85) rfl dX1_seek_84 ic0 ?_
  refine zf_iconst (q := 86) rfl dX1_seek_85 ic4 ?_
  obtain ⟨s6, es6, h⟩ := zb h
  refine zf_copy (q := 89) rfl dX1_seek_86 ac_RX1_85 ac_1 ac_2 ac_3 (sc32 hG) (sc33 hG) es6 (Nat.succ_le_succ (Nat.zero_le _)) ?_
  exact zf_sub [0, 1, 2] rfl (ok_X1_seek_89 hG N hd hr20 h)
def b_X1_seek_20 (N : Nat) (rec20 : Int32 → Int32 → Int32 → ZM → Option (Unit × ZM)) (x1 : Int32) (x2 : Int32) (x3 : Int32) (σ : ZM) : Option (Unit × ZM) :=
  if (625 : Int32) ≤ x3 then
  (some ((), σ))
  else
  (if x2 = 0 then
  (some ((), σ))
  else
  (zbd (f_X1_weighPick N x1 σ) fun r7 s8 =>
  if r7 = 0 then
  (f_X1_seek_89 N rec20 x1 x3 s8)
  else
  (if (s8.1 23 10) = (-9 : Int32) then
  (f_X1_seek_59 N rec20 x1 x3 s8)
  else
  (zbd (f_X1_isBetter N s8) fun r9 s10 =>
  if r9 = 0 then
  (f_X1_seek_89 N rec20 x1 x3 s10)
  else
  (f_X1_seek_59 N rec20 x1 x3 s10)))))
set_option maxRecDepth 100000 in
theorem ok_b_X1_seek_20 {G : ZG} (hG : zSH G = shC) (N : Nat) {d : Nat} (hd : 2 ≤ d) {rec20 : Int32 → Int32 → Int32 → ZM → Option (Unit × ZM)} {res : Unit × ZM} (hr20 : ∀ (x1 : Int32) (x2 : Int32) (x3 : Int32) (σ : ZM), rec20 x1 x2 x3 σ = some res → zF G MX1_seek (d + 1) 20 [(0, .ref (zad G 23)), (1, .int x1), (2, .int x2), (3, .int x3)] [] σ none res.2) {x1 : Int32} {x2 : Int32} {x3 : Int32} {σ : ZM} (h : b_X1_seek_20 N rec20 x1 x2 x3 σ = some res) : zF G MX1_seek (d + 1) 20 [(0, .ref (zad G 23)), (1, .int x1), (2, .int x2), (3, .int x3)] [] σ none res.2 := by
  unfold b_X1_seek_20 at h
  refine zf_iload_n 3 (q := 21) (j := 3) rfl dX1_seek_20 rfl rfl ?_
  refine zf_sipush (q := 24) rfl dX1_seek_21 sp625 ?_
  refine zf_icmp_ge (q := 27) (tgt := 100) rfl (by decide) dX1_seek_24 (fun hc24 => ?_) (fun hc24 => ?_)
  · replace h := (zi h).1 hc24
    cases h
    exact zf_return dX1_seek_100 rfl
  · replace h := (zi h).2 hc24
    refine zf_iload_n 2 (q := 28) (j := 2) rfl dX1_seek_27 rfl rfl ?_
    refine zf_if_eq (q := 31) (tgt := 100) rfl (by decide) dX1_seek_28 (fun hc28 => ?_) (fun hc28 => ?_)
    · replace h := (zi h).1 hc28
      cases h
      exact zf_return dX1_seek_100 rfl
    · replace h := (zi h).2 hc28
      refine zf_aload_n 0 (q := 32) (j := 0) rfl dX1_seek_31 rfl rfl ?_
      refine zf_iload_n 1 (q := 33) (j := 1) rfl dX1_seek_32 rfl rfl ?_
      obtain ⟨r7, s8, es8, h⟩ := zc h
      refine zf_callV (q := 36) (As := [.int x1]) (rest := []) (st1 := [.int r7]) rfl dX1_seek_33 lv_RX1_144 (sc23 hG) rfl rfl (Nat.le_of_ble_eq_true rfl) (ok_X1_weighPick hG N (Nat.le_trans (by decide) hd) es8) rfl ?_
      refine zf_istore (q := 38) (y := r7) (i := 4) (lv1 := [(4, .int r7), (0, .ref (zad G 23)), (1, .int x1), (2, .int x2), (3, .int x3)]) rfl dX1_seek_36 (by decide) rfl rfl ?_
      refine zf_iload 0 (q := 40) rfl dX1_seek_38 rfl ?_
      refine zf_if_eq (q := 43) (tgt := 89) rfl (by decide) dX1_seek_40 (fun hc40 => ?_) (fun hc40 => ?_)
      · replace h := (zi h).1 hc40
        exact zf_sub [1, 2, 4] rfl (ok_X1_seek_89 hG N hd hr20 h)
      · replace h := (zi h).2 hc40
        refine zf_aload_n 1 (q := 44) (j := 0) rfl dX1_seek_43 rfl rfl ?_
        refine zf_getI (q := 47) rfl dX1_seek_44 lf_RX1_138 (sc23 hG) rfl ?_
        refine zf_bipush (q := 49) rfl dX1_seek_47 bpm9 ?_
        refine zf_icmp_eq (q := 52) (tgt := 59) rfl (by decide) dX1_seek_49 (fun hc49 => ?_) (fun hc49 => ?_)
        · replace h := (zi h).1 hc49
          exact zf_sub [1, 2, 4] rfl (ok_X1_seek_59 hG N hd hr20 h)
        · replace h := (zi h).2 hc49
          refine zf_aload_n 1 (q := 53) (j := 0) rfl dX1_seek_52 rfl rfl ?_
          obtain ⟨r9, s10, es10, h⟩ := zc h
          refine zf_callV (q := 56) (As := []) (rest := []) (st1 := [.int r9]) rfl dX1_seek_53 lv_RX1_148 (sc23 hG) rfl rfl (Nat.le_of_ble_eq_true rfl) (ok_X1_isBetter hG N (Nat.le_trans (by decide) hd) es10) rfl ?_
          refine zf_if_eq (q := 59) (tgt := 89) rfl (by decide) dX1_seek_56 (fun hc56 => ?_) (fun hc56 => ?_)
          · replace h := (zi h).1 hc56
            exact zf_sub [1, 2, 4] rfl (ok_X1_seek_89 hG N hd hr20 h)
          · replace h := (zi h).2 hc56
            exact zf_sub [1, 2, 4] rfl (ok_X1_seek_59 hG N hd hr20 h)
def f_X1_seek_20 (N : Nat) : Nat → Int32 → Int32 → Int32 → ZM → Option (Unit × ZM)
  | 0, _, _, _, _ => none
  | n + 1, x1, x2, x3, σ => b_X1_seek_20 N (f_X1_seek_20 N n) x1 x2 x3 σ
theorem ok_X1_seek_20 {G : ZG} (hG : zSH G = shC) (N : Nat) {d : Nat} (hd : 2 ≤ d) {res : Unit × ZM} : ∀ (n : Nat) (x1 : Int32) (x2 : Int32) (x3 : Int32) (σ : ZM), f_X1_seek_20 N n x1 x2 x3 σ = some res → zF G MX1_seek (d + 1) 20 [(0, .ref (zad G 23)), (1, .int x1), (2, .int x2), (3, .int x3)] [] σ none res.2 := by
  intro n
  induction n with
  | zero => intro x1 x2 x3 σ h; exact absurd h (by simp [f_X1_seek_20])
  | succ n ih => intro x1 x2 x3 σ h; rw [f_X1_seek_20] at h; exact ok_b_X1_seek_20 hG N hd ih h
def f_X1_seek (N : Nat) (x1 : Int32) (σ : ZM) : Option (Unit × ZM) :=
  (zpI σ 23 10 (-9 : Int32)).bind fun s11 =>
  (zpI s11 23 11 (-9 : Int32)).bind fun s12 =>
  zbd (f_X1_pickFirst N s12) fun r13 s14 =>
  f_X1_seek_20 N N x1 (1 : Int32) (0 : Int32) s14
set_option maxRecDepth 100000 in
theorem ok_X1_seek {G : ZG} (hG : zSH G = shC) (N : Nat) {d : Nat} (hd : 3 ≤ d) {x1 : Int32} {σ : ZM} {res : Unit × ZM} (h : f_X1_seek N x1 σ = some res) : zCt G d MX1_seek [.ref (zad G 23), .int x1] σ none res.2 := by
  obtain ⟨d, rfl⟩ : ∃ k, d = k + 1 := ⟨d - 1, by omega⟩
  have hd : 2 ≤ d := by omega
  refine zct_of (by decide) (Nat.le_of_ble_eq_true rfl) (lv := [(0, .ref (zad G 23)), (1, .int x1)]) rfl ?_
  unfold f_X1_seek at h
  refine zf_aload_n 0 (q := 1) (j := 0) rfl dX1_seek_0 rfl rfl ?_
  refine zf_bipush (q := 3) rfl dX1_seek_1 bpm9 ?_
  obtain ⟨s11, es11, h⟩ := zb h
  refine zf_putI (q := 6) rfl dX1_seek_3 lp_RX1_138 (sc23 hG) rfl es11 ?_
  refine zf_aload_n 0 (q := 7) (j := 0) rfl dX1_seek_6 rfl rfl ?_
  refine zf_bipush (q := 9) rfl dX1_seek_7 bpm9 ?_
  obtain ⟨s12, es12, h⟩ := zb h
  refine zf_putI (q := 12) rfl dX1_seek_9 lp_RX1_141 (sc23 hG) rfl es12 ?_
  refine zf_aload_n 0 (q := 13) (j := 0) rfl dX1_seek_12 rfl rfl ?_
  obtain ⟨r13, s14, es14, h⟩ := zc h
  refine zf_callV (q := 16) (As := []) (rest := []) (st1 := []) rfl dX1_seek_13 lv_RX1_128 (sc23 hG) rfl rfl (Nat.le_of_ble_eq_true rfl) (ok_X1_pickFirst hG N (Nat.le_trans (by decide) hd) es14) rfl ?_
  refine zf_iconst (q := 17) rfl dX1_seek_16 ic1 ?_
  refine zf_istore_n (q := 18) (y := (1 : Int32)) (i := 2) (lv1 := [(2, .int (1 : Int32)), (0, .ref (zad G 23)), (1, .int x1)]) rfl dX1_seek_17 rfl (by decide) rfl rfl ?_
  refine zf_iconst (q := 19) rfl dX1_seek_18 ic0 ?_
  refine zf_istore_n (q := 20) (y := (0 : Int32)) (i := 3) (lv1 := [(3, .int (0 : Int32)), (2, .int (1 : Int32)), (0, .ref (zad G 23)), (1, .int x1)]) rfl dX1_seek_19 rfl (by decide) rfl rfl ?_
  exact zf_sub [2, 3, 1, 0] rfl (ok_X1_seek_20 hG N hd _ _ _ _ _ h)
-- ===== X2_alike: NearCopies$Flow.alike(II)I
def f_X2_alike_32 (N : Nat) (rec5 : Int32 → Int32 → Int32 → Int32 → ZM → Option (Int32 × ZM)) (x1 : Int32) (x2 : Int32) (x3 : Int32) (x4 : Int32) (σ : ZM) : Option (Int32 × ZM) :=
  (some (x4 + (1 : Int32))).bind fun v1 =>
  rec5 x1 x2 x3 v1 σ
set_option maxRecDepth 100000 in
theorem ok_X2_alike_32 {G : ZG} (hG : zSH G = shC) (N : Nat) {d : Nat} {rec5 : Int32 → Int32 → Int32 → Int32 → ZM → Option (Int32 × ZM)} {res : Int32 × ZM} (hr5 : ∀ (x1 : Int32) (x2 : Int32) (x3 : Int32) (x4 : Int32) (σ : ZM), rec5 x1 x2 x3 x4 σ = some res → zF G MX2_alike d 5 [(0, .ref (zad G 17)), (1, .int x1), (2, .int x2), (3, .int x3), (4, .int x4)] [] σ (some (.int res.1)) res.2) {x1 : Int32} {x2 : Int32} {x3 : Int32} {x4 : Int32} {σ : ZM} (h : f_X2_alike_32 N rec5 x1 x2 x3 x4 σ = some res) : zF G MX2_alike d 32 [(0, .ref (zad G 17)), (1, .int x1), (2, .int x2), (3, .int x3), (4, .int x4)] [] σ (some (.int res.1)) res.2 := by
  unfold f_X2_alike_32 at h
  obtain ⟨v1, ev1, h⟩ := zb h
  refine zf_iinc 4 (q := 35) (v := v1) (lv1 := [(4, .int v1), (0, .ref (zad G 17)), (1, .int x1), (2, .int x2), (3, .int x3)]) rfl dX2_alike_32 rfl (by rw [ic1]; exact ev1) (by decide) rfl ?_
  refine zf_goto (tgt := 5) (by decide) dX2_alike_35 ?_
  exact zf_sub [1, 2, 3, 4, 0] rfl (hr5 _ _ _ _ _ h)
def b_X2_alike_5 (N : Nat) (rec5 : Int32 → Int32 → Int32 → Int32 → ZM → Option (Int32 × ZM)) (x1 : Int32) (x2 : Int32) (x3 : Int32) (x4 : Int32) (σ : ZM) : Option (Int32 × ZM) :=
  if (σ.1 17 5) ≤ x4 then
  (some (x3, σ))
  else
  ((zald σ 22 14 x4).bind fun v2 =>
  if (v2 >>> (x2 &&& 31)) = (x1 >>> (x2 &&& 31)) then
  ((some (x3 + (1 : Int32))).bind fun v3 =>
  f_X2_alike_32 N rec5 x1 x2 v3 x4 σ)
  else
  (f_X2_alike_32 N rec5 x1 x2 x3 x4 σ))
set_option maxRecDepth 100000 in
theorem ok_b_X2_alike_5 {G : ZG} (hG : zSH G = shC) (N : Nat) {d : Nat} {rec5 : Int32 → Int32 → Int32 → Int32 → ZM → Option (Int32 × ZM)} {res : Int32 × ZM} (hr5 : ∀ (x1 : Int32) (x2 : Int32) (x3 : Int32) (x4 : Int32) (σ : ZM), rec5 x1 x2 x3 x4 σ = some res → zF G MX2_alike d 5 [(0, .ref (zad G 17)), (1, .int x1), (2, .int x2), (3, .int x3), (4, .int x4)] [] σ (some (.int res.1)) res.2) {x1 : Int32} {x2 : Int32} {x3 : Int32} {x4 : Int32} {σ : ZM} (h : b_X2_alike_5 N rec5 x1 x2 x3 x4 σ = some res) : zF G MX2_alike d 5 [(0, .ref (zad G 17)), (1, .int x1), (2, .int x2), (3, .int x3), (4, .int x4)] [] σ (some (.int res.1)) res.2 := by
  unfold b_X2_alike_5 at h
  refine zf_iload 4 (q := 7) rfl dX2_alike_5 rfl ?_
  refine zf_aload_n 0 (q := 8) (j := 0) rfl dX2_alike_7 rfl rfl ?_
  refine zf_getI (q := 11) rfl dX2_alike_8 lf_RX2_82 (sc17 hG) rfl ?_
  refine zf_icmp_ge (q := 14) (tgt := 38) rfl (by decide) dX2_alike_11 (fun hc11 => ?_) (fun hc11 => ?_)
  · replace h := (zi h).1 hc11
    refine zf_iload_n 3 (q := 39) (j := 3) rfl dX2_alike_38 rfl rfl ?_
    cases h
    exact zf_ireturn dX2_alike_39 rfl
  · replace h := (zi h).2 hc11
    refine zf_aload_n 0 (q := 15) (j := 0) rfl dX2_alike_14 rfl rfl ?_
    refine zf_getR (q := 18) rfl dX2_alike_15 lf_RX2_25 (sc17 hG) rfl ?_
    refine zf_iload 4 (q := 20) rfl dX2_alike_18 rfl ?_
    obtain ⟨v2, ev2, h⟩ := zb h
    refine zf_iald (q := 21) rfl dX2_alike_20 (sc22 hG) ev2 ?_
    refine zf_iload_n 2 (q := 22) (j := 2) rfl dX2_alike_21 rfl rfl ?_
    refine zf_ishr (q := 23) rfl dX2_alike_22 ?_
    refine zf_iload_n 1 (q := 24) (j := 1) rfl dX2_alike_23 rfl rfl ?_
    refine zf_iload_n 2 (q := 25) (j := 2) rfl dX2_alike_24 rfl rfl ?_
    refine zf_ishr (q := 26) rfl dX2_alike_25 ?_
    refine zf_icmp_ne (q := 29) (tgt := 32) rfl (by decide) dX2_alike_26 (fun hc26 => ?_) (fun hc26 => ?_)
    · replace h := (zi h).2 hc26
      exact zf_sub [0, 1, 2, 3, 4] rfl (ok_X2_alike_32 hG N hr5 h)
    · replace h := (zi h).1 hc26
      obtain ⟨v3, ev3, h⟩ := zb h
      refine zf_iinc 3 (q := 32) (v := v3) (lv1 := [(3, .int v3), (0, .ref (zad G 17)), (1, .int x1), (2, .int x2), (4, .int x4)]) rfl dX2_alike_29 rfl (by rw [ic1]; exact ev3) (by decide) rfl ?_
      exact zf_sub [1, 2, 3, 0, 4] rfl (ok_X2_alike_32 hG N hr5 h)
def f_X2_alike_5 (N : Nat) : Nat → Int32 → Int32 → Int32 → Int32 → ZM → Option (Int32 × ZM)
  | 0, _, _, _, _, _ => none
  | n + 1, x1, x2, x3, x4, σ => b_X2_alike_5 N (f_X2_alike_5 N n) x1 x2 x3 x4 σ
theorem ok_X2_alike_5 {G : ZG} (hG : zSH G = shC) (N : Nat) {d : Nat} {res : Int32 × ZM} : ∀ (n : Nat) (x1 : Int32) (x2 : Int32) (x3 : Int32) (x4 : Int32) (σ : ZM), f_X2_alike_5 N n x1 x2 x3 x4 σ = some res → zF G MX2_alike d 5 [(0, .ref (zad G 17)), (1, .int x1), (2, .int x2), (3, .int x3), (4, .int x4)] [] σ (some (.int res.1)) res.2 := by
  intro n
  induction n with
  | zero => intro x1 x2 x3 x4 σ h; exact absurd h (by simp [f_X2_alike_5])
  | succ n ih => intro x1 x2 x3 x4 σ h; rw [f_X2_alike_5] at h; exact ok_b_X2_alike_5 hG N ih h
def f_X2_alike (N : Nat) (x1 : Int32) (x2 : Int32) (σ : ZM) : Option (Int32 × ZM) :=
  f_X2_alike_5 N N x1 x2 (0 : Int32) (0 : Int32) σ
set_option maxRecDepth 100000 in
theorem ok_X2_alike {G : ZG} (hG : zSH G = shC) (N : Nat) {d : Nat} (hd : 0 ≤ d) {x1 : Int32} {x2 : Int32} {σ : ZM} {res : Int32 × ZM} (h : f_X2_alike N x1 x2 σ = some res) : zCt G d MX2_alike [.ref (zad G 17), .int x1, .int x2] σ (some (.int res.1)) res.2 := by
  refine zct_of (by decide) (Nat.le_of_ble_eq_true rfl) (lv := [(0, .ref (zad G 17)), (1, .int x1), (2, .int x2)]) rfl ?_
  unfold f_X2_alike at h
  refine zf_iconst (q := 1) rfl dX2_alike_0 ic0 ?_
  refine zf_istore_n (q := 2) (y := (0 : Int32)) (i := 3) (lv1 := [(3, .int (0 : Int32)), (0, .ref (zad G 17)), (1, .int x1), (2, .int x2)]) rfl dX2_alike_1 rfl (by decide) rfl rfl ?_
  refine zf_iconst (q := 3) rfl dX2_alike_2 ic0 ?_
  refine zf_istore (q := 5) (y := (0 : Int32)) (i := 4) (lv1 := [(4, .int (0 : Int32)), (3, .int (0 : Int32)), (0, .ref (zad G 17)), (1, .int x1), (2, .int x2)]) rfl dX2_alike_3 (by decide) rfl rfl ?_
  exact zf_sub [2, 3, 4, 1, 0] rfl (ok_X2_alike_5 hG N _ _ _ _ _ _ h)
-- ===== X2_needed: NearCopies$Flow.needed(I)I
def b_X2_needed_35 (N : Nat) (rec35 : Int32 → Int32 → Int32 → ZM → Option (Int32 × ZM)) (x1 : Int32) (x2 : Int32) (x3 : Int32) (σ : ZM) : Option (Int32 × ZM) :=
  if (2 : Int32) ≤ x3 then
  ((zald σ 18 10 x1).bind fun v1 =>
  (zalT ((v1 * (3 : Int32)) + (2 : Int32))).bind fun v2 =>
  some (v2, σ))
  else
  (zbd (f_X2_alike N x2 ((10 : Int32) - ((5 : Int32) * x3)) σ) fun r3 s4 =>
  if r3 = (1 : Int32) then
  ((zald s4 18 10 x1).bind fun v6 =>
  (zalT ((v6 * (3 : Int32)) + x3)).bind fun v7 =>
  some (v7, s4))
  else
  ((some (x3 + (1 : Int32))).bind fun v5 =>
  rec35 x1 x2 v5 s4))
set_option maxRecDepth 100000 in
theorem ok_b_X2_needed_35 {G : ZG} (hG : zSH G = shC) (N : Nat) {d : Nat} (hd : 2 ≤ d) {rec35 : Int32 → Int32 → Int32 → ZM → Option (Int32 × ZM)} {res : Int32 × ZM} (hr35 : ∀ (x1 : Int32) (x2 : Int32) (x3 : Int32) (σ : ZM), rec35 x1 x2 x3 σ = some res → zF G MX2_needed (d + 1) 35 [(0, .ref (zad G 17)), (1, .int x1), (2, .int x2), (3, .int x3)] [] σ (some (.int res.1)) res.2) {x1 : Int32} {x2 : Int32} {x3 : Int32} {σ : ZM} (h : b_X2_needed_35 N rec35 x1 x2 x3 σ = some res) : zF G MX2_needed (d + 1) 35 [(0, .ref (zad G 17)), (1, .int x1), (2, .int x2), (3, .int x3)] [] σ (some (.int res.1)) res.2 := by
  unfold b_X2_needed_35 at h
  refine zf_iload_n 3 (q := 36) (j := 3) rfl dX2_needed_35 rfl rfl ?_
  refine zf_iconst (q := 37) rfl dX2_needed_36 ic2 ?_
  refine zf_icmp_ge (q := 40) (tgt := 76) rfl (by decide) dX2_needed_37 (fun hc37 => ?_) (fun hc37 => ?_)
  · replace h := (zi h).1 hc37
    refine zf_gets (shC60 hG) (q := 79) rfl dX2_needed_76 th_RX2_141 ?_
    refine zf_aload_n 0 (q := 80) (j := 0) rfl dX2_needed_79 rfl rfl ?_
    refine zf_getR (q := 83) rfl dX2_needed_80 lf_RX2_9 (sc17 hG) rfl ?_
    refine zf_iload_n 1 (q := 84) (j := 1) rfl dX2_needed_83 rfl rfl ?_
    obtain ⟨v1, ev1, h⟩ := zb h
    refine zf_iald (q := 85) rfl dX2_needed_84 (sc18 hG) ev1 ?_
    refine zf_iconst (q := 86) rfl dX2_needed_85 ic3 ?_
    refine zf_imul (q := 87) rfl dX2_needed_86 ?_
    refine zf_iconst (q := 88) rfl dX2_needed_87 ic2 ?_
    refine zf_iadd (q := 89) rfl dX2_needed_88 ?_
    obtain ⟨v2, ev2, h⟩ := zb h
    refine zf_tald (shC60 hG) (q := 90) rfl dX2_needed_89 ev2 ?_
    cases h
    exact zf_ireturn dX2_needed_90 rfl
  · replace h := (zi h).2 hc37
    refine zf_aload_n 0 (q := 41) (j := 0) rfl dX2_needed_40 rfl rfl ?_
    refine zf_iload_n 2 (q := 42) (j := 2) rfl dX2_needed_41 rfl rfl ?_
    refine zf_bipush (q := 44) rfl dX2_needed_42 bp10 ?_
    refine zf_iconst (q := 45) rfl dX2_needed_44 ic5 ?_
    refine zf_iload_n 3 (q := 46) (j := 3) rfl dX2_needed_45 rfl rfl ?_
    refine zf_imul (q := 47) rfl dX2_needed_46 ?_
    refine zf_isub (q := 48) rfl dX2_needed_47 ?_
    obtain ⟨r3, s4, es4, h⟩ := zc h
    refine zf_callV (q := 51) (As := [.int x2, .int ((10 : Int32) - ((5 : Int32) * x3))]) (rest := []) (st1 := [.int r3]) rfl dX2_needed_48 lv_RX2_138 (sc17 hG) rfl rfl (Nat.le_of_ble_eq_true rfl) (ok_X2_alike hG N (Nat.le_trans (by decide) hd) es4) rfl ?_
    refine zf_iconst (q := 52) rfl dX2_needed_51 ic1 ?_
    refine zf_icmp_ne (q := 55) (tgt := 70) rfl (by decide) dX2_needed_52 (fun hc52 => ?_) (fun hc52 => ?_)
    · replace h := (zi h).2 hc52
      obtain ⟨v5, ev5, h⟩ := zb h
      refine zf_iinc 3 (q := 73) (v := v5) (lv1 := [(3, .int v5), (0, .ref (zad G 17)), (1, .int x1), (2, .int x2)]) rfl dX2_needed_70 rfl (by rw [ic1]; exact ev5) (by decide) rfl ?_
      refine zf_goto (tgt := 35) (by decide) dX2_needed_73 ?_
      exact zf_sub [1, 2, 3, 0] rfl (hr35 _ _ _ _ h)
    · replace h := (zi h).1 hc52
      refine zf_gets (shC60 hG) (q := 58) rfl dX2_needed_55 th_RX2_141 ?_
      refine zf_aload_n 0 (q := 59) (j := 0) rfl dX2_needed_58 rfl rfl ?_
      refine zf_getR (q := 62) rfl dX2_needed_59 lf_RX2_9 (sc17 hG) rfl ?_
      refine zf_iload_n 1 (q := 63) (j := 1) rfl dX2_needed_62 rfl rfl ?_
      obtain ⟨v6, ev6, h⟩ := zb h
      refine zf_iald (q := 64) rfl dX2_needed_63 (sc18 hG) ev6 ?_
      refine zf_iconst (q := 65) rfl dX2_needed_64 ic3 ?_
      refine zf_imul (q := 66) rfl dX2_needed_65 ?_
      refine zf_iload_n 3 (q := 67) (j := 3) rfl dX2_needed_66 rfl rfl ?_
      refine zf_iadd (q := 68) rfl dX2_needed_67 ?_
      obtain ⟨v7, ev7, h⟩ := zb h
      refine zf_tald (shC60 hG) (q := 69) rfl dX2_needed_68 ev7 ?_
      cases h
      exact zf_ireturn dX2_needed_69 rfl
def f_X2_needed_35 (N : Nat) : Nat → Int32 → Int32 → Int32 → ZM → Option (Int32 × ZM)
  | 0, _, _, _, _ => none
  | n + 1, x1, x2, x3, σ => b_X2_needed_35 N (f_X2_needed_35 N n) x1 x2 x3 σ
theorem ok_X2_needed_35 {G : ZG} (hG : zSH G = shC) (N : Nat) {d : Nat} (hd : 2 ≤ d) {res : Int32 × ZM} : ∀ (n : Nat) (x1 : Int32) (x2 : Int32) (x3 : Int32) (σ : ZM), f_X2_needed_35 N n x1 x2 x3 σ = some res → zF G MX2_needed (d + 1) 35 [(0, .ref (zad G 17)), (1, .int x1), (2, .int x2), (3, .int x3)] [] σ (some (.int res.1)) res.2 := by
  intro n
  induction n with
  | zero => intro x1 x2 x3 σ h; exact absurd h (by simp [f_X2_needed_35])
  | succ n ih => intro x1 x2 x3 σ h; rw [f_X2_needed_35] at h; exact ok_b_X2_needed_35 hG N hd ih h
def f_X2_needed (N : Nat) (x1 : Int32) (σ : ZM) : Option (Int32 × ZM) :=
  if (2 : Int32) ≤ (σ.1 17 5) then
  (zbd (f_X2_pick N x1 σ) fun r8 s9 =>
  zbd (f_X2_rank N x1 r8 s9) fun r10 s11 =>
  f_X2_needed_35 N N x1 r10 (0 : Int32) s11)
  else
  (if (σ.1 17 5) = 0 then
  (some ((-9 : Int32), σ))
  else
  (some ((0 : Int32), σ)))
set_option maxRecDepth 100000 in
theorem ok_X2_needed {G : ZG} (hG : zSH G = shC) (N : Nat) {d : Nat} (hd : 3 ≤ d) {x1 : Int32} {σ : ZM} {res : Int32 × ZM} (h : f_X2_needed N x1 σ = some res) : zCt G d MX2_needed [.ref (zad G 17), .int x1] σ (some (.int res.1)) res.2 := by
  obtain ⟨d, rfl⟩ : ∃ k, d = k + 1 := ⟨d - 1, by omega⟩
  have hd : 2 ≤ d := by omega
  refine zct_of (by decide) (Nat.le_of_ble_eq_true rfl) (lv := [(0, .ref (zad G 17)), (1, .int x1)]) rfl ?_
  unfold f_X2_needed at h
  refine zf_aload_n 0 (q := 1) (j := 0) rfl dX2_needed_0 rfl rfl ?_
  refine zf_getI (q := 4) rfl dX2_needed_1 lf_RX2_82 (sc17 hG) rfl ?_
  refine zf_iconst (q := 5) rfl dX2_needed_4 ic2 ?_
  refine zf_icmp_ge (q := 8) (tgt := 22) rfl (by decide) dX2_needed_5 (fun hc5 => ?_) (fun hc5 => ?_)
  · replace h := (zi h).1 hc5
    refine zf_aload_n 0 (q := 23) (j := 0) rfl dX2_needed_22 rfl rfl ?_
    refine zf_iload_n 1 (q := 24) (j := 1) rfl dX2_needed_23 rfl rfl ?_
    refine zf_aload_n 0 (q := 25) (j := 0) rfl dX2_needed_24 rfl rfl ?_
    refine zf_iload_n 1 (q := 26) (j := 1) rfl dX2_needed_25 rfl rfl ?_
    obtain ⟨r8, s9, es9, h⟩ := zc h
    refine zf_callV (q := 29) (As := [.int x1]) (rest := [.int x1, .ref (zad G 17)]) (st1 := [.long r8, .int x1, .ref (zad G 17)]) rfl dX2_needed_26 lv_RX2_68 (sc17 hG) rfl rfl (Nat.le_of_ble_eq_true rfl) (ok_X2_pick hG N (Nat.le_trans (by decide) hd) es9) rfl ?_
    obtain ⟨r10, s11, es11, h⟩ := zc h
    refine zf_callV (q := 32) (As := [.int x1, .long r8]) (rest := []) (st1 := [.int r10]) rfl dX2_needed_29 lv_RX2_131 (sc17 hG) rfl rfl (Nat.le_of_ble_eq_true rfl) (ok_X2_rank hG N (Nat.le_trans (by decide) hd) es11) rfl ?_
    refine zf_istore_n (q := 33) (y := r10) (i := 2) (lv1 := [(2, .int r10), (0, .ref (zad G 17)), (1, .int x1)]) rfl dX2_needed_32 rfl (by decide) rfl rfl ?_
    refine zf_iconst (q := 34) rfl dX2_needed_33 ic0 ?_
    refine zf_istore_n (q := 35) (y := (0 : Int32)) (i := 3) (lv1 := [(3, .int (0 : Int32)), (2, .int r10), (0, .ref (zad G 17)), (1, .int x1)]) rfl dX2_needed_34 rfl (by decide) rfl rfl ?_
    exact zf_sub [2, 3, 1, 0] rfl (ok_X2_needed_35 hG N hd _ _ _ _ _ h)
  · replace h := (zi h).2 hc5
    refine zf_aload_n 0 (q := 9) (j := 0) rfl dX2_needed_8 rfl rfl ?_
    refine zf_getI (q := 12) rfl dX2_needed_9 lf_RX2_82 (sc17 hG) rfl ?_
    refine zf_if_ne (q := 15) (tgt := 20) rfl (by decide) dX2_needed_12 (fun hc12 => ?_) (fun hc12 => ?_)
    · replace h := (zi h).2 hc12
      refine zf_iconst (q := 21) rfl dX2_needed_20 ic0 ?_
      cases h
      exact zf_ireturn dX2_needed_21 rfl
    · replace h := (zi h).1 hc12
      refine zf_bipush (q := 17) rfl dX2_needed_15 bpm9 ?_
      refine zf_goto (tgt := 21) (by decide) dX2_needed_17 ?_
      cases h
      exact zf_ireturn dX2_needed_21 rfl
-- ===== X3_has: NearCopies$Nets.has(I)Z
def f_X3_has (N : Nat) (x1 : Int32) (σ : ZM) : Option (Int32 × ZM) :=
  if x1 < 0 then
  (some ((0 : Int32), σ))
  else
  (if (σ.1 1 0) ≤ x1 then
  (some ((0 : Int32), σ))
  else
  (some ((1 : Int32), σ)))
set_option maxRecDepth 100000 in
theorem ok_X3_has {G : ZG} (hG : zSH G = shC) (N : Nat) {d : Nat} (hd : 0 ≤ d) {x1 : Int32} {σ : ZM} {res : Int32 × ZM} (h : f_X3_has N x1 σ = some res) : zCt G d MX3_has [.ref (zad G 1), .int x1] σ (some (.int res.1)) res.2 := by
  refine zct_of (by decide) (Nat.le_of_ble_eq_true rfl) (lv := [(0, .ref (zad G 1)), (1, .int x1)]) rfl ?_
  unfold f_X3_has at h
  refine zf_iload_n 1 (q := 1) (j := 1) rfl dX3_has_0 rfl rfl ?_
  refine zf_if_lt (q := 4) (tgt := 16) rfl (by decide) dX3_has_1 (fun hc1 => ?_) (fun hc1 => ?_)
  · replace h := (zi h).1 hc1
    refine zf_iconst (q := 17) rfl dX3_has_16 ic0 ?_
    cases h
    exact zf_zreturn dX3_has_17 rfl (Or.inl rfl)
  · replace h := (zi h).2 hc1
    refine zf_iload_n 1 (q := 5) (j := 1) rfl dX3_has_4 rfl rfl ?_
    refine zf_aload_n 0 (q := 6) (j := 0) rfl dX3_has_5 rfl rfl ?_
    refine zf_getI (q := 9) rfl dX3_has_6 lf_RX3_27 (sc1 hG) rfl ?_
    refine zf_icmp_ge (q := 12) (tgt := 16) rfl (by decide) dX3_has_9 (fun hc9 => ?_) (fun hc9 => ?_)
    · replace h := (zi h).1 hc9
      refine zf_iconst (q := 17) rfl dX3_has_16 ic0 ?_
      cases h
      exact zf_zreturn dX3_has_17 rfl (Or.inl rfl)
    · replace h := (zi h).2 hc9
      refine zf_iconst (q := 13) rfl dX3_has_12 ic1 ?_
      refine zf_goto (tgt := 17) (by decide) dX3_has_13 ?_
      cases h
      exact zf_zreturn dX3_has_17 rfl (Or.inr rfl)
-- ===== X3_add: NearCopies$Nets.add(I)I
def f_X3_add (N : Nat) (x1 : Int32) (σ : ZM) : Option (Int32 × ZM) :=
  (zast σ 2 10 (σ.1 1 0) x1).bind fun s1 =>
  (zast s1 3 10 (s1.1 1 0) (1 : Int32)).bind fun s2 =>
  (zpI s2 1 0 ((s2.1 1 0) + (1 : Int32))).bind fun s3 =>
  some (((s3.1 1 0) - (1 : Int32)), s3)
set_option maxRecDepth 100000 in
theorem ok_X3_add {G : ZG} (hG : zSH G = shC) (N : Nat) {d : Nat} (hd : 0 ≤ d) {x1 : Int32} {σ : ZM} {res : Int32 × ZM} (h : f_X3_add N x1 σ = some res) : zCt G d MX3_add [.ref (zad G 1), .int x1] σ (some (.int res.1)) res.2 := by
  refine zct_of (by decide) (Nat.le_of_ble_eq_true rfl) (lv := [(0, .ref (zad G 1)), (1, .int x1)]) rfl ?_
  unfold f_X3_add at h
  refine zf_aload_n 0 (q := 1) (j := 0) rfl dX3_add_0 rfl rfl ?_
  refine zf_getR (q := 4) rfl dX3_add_1 lf_RX3_9 (sc1 hG) rfl ?_
  refine zf_aload_n 0 (q := 5) (j := 0) rfl dX3_add_4 rfl rfl ?_
  refine zf_getI (q := 8) rfl dX3_add_5 lf_RX3_27 (sc1 hG) rfl ?_
  refine zf_iload_n 1 (q := 9) (j := 1) rfl dX3_add_8 rfl rfl ?_
  obtain ⟨s1, es1, h⟩ := zb h
  refine zf_iast (q := 10) rfl dX3_add_9 (sc2 hG) es1 ?_
  refine zf_aload_n 0 (q := 11) (j := 0) rfl dX3_add_10 rfl rfl ?_
  refine zf_getR (q := 14) rfl dX3_add_11 lf_RX3_15 (sc1 hG) rfl ?_
  refine zf_aload_n 0 (q := 15) (j := 0) rfl dX3_add_14 rfl rfl ?_
  refine zf_getI (q := 18) rfl dX3_add_15 lf_RX3_27 (sc1 hG) rfl ?_
  refine zf_iconst (q := 19) rfl dX3_add_18 ic1 ?_
  obtain ⟨s2, es2, h⟩ := zb h
  refine zf_iast (q := 20) rfl dX3_add_19 (sc3 hG) es2 ?_
  refine zf_aload_n 0 (q := 21) (j := 0) rfl dX3_add_20 rfl rfl ?_
  refine zf_dup (q := 22) rfl dX3_add_21 rfl ?_
  refine zf_getI (q := 25) rfl dX3_add_22 lf_RX3_27 (sc1 hG) rfl ?_
  refine zf_iconst (q := 26) rfl dX3_add_25 ic1 ?_
  refine zf_iadd (q := 27) rfl dX3_add_26 ?_
  obtain ⟨s3, es3, h⟩ := zb h
  refine zf_putI (q := 30) rfl dX3_add_27 lp_RX3_27 (sc1 hG) rfl es3 ?_
  refine zf_aload_n 0 (q := 31) (j := 0) rfl dX3_add_30 rfl rfl ?_
  refine zf_getI (q := 34) rfl dX3_add_31 lf_RX3_27 (sc1 hG) rfl ?_
  refine zf_iconst (q := 35) rfl dX3_add_34 ic1 ?_
  refine zf_isub (q := 36) rfl dX3_add_35 ?_
  cases h
  exact zf_ireturn dX3_add_36 rfl
-- ===== X3_join: NearCopies$Nets.join(IIZ)I
def f_X3_join_80 (N : Nat) (σ : ZM) : Option (Int32 × ZM) :=
  (zpI σ 1 1 ((σ.1 1 1) + (1 : Int32))).bind fun s1 =>
  some ((s1.1 1 1), s1)
set_option maxRecDepth 100000 in
theorem ok_X3_join_80 {G : ZG} (hG : zSH G = shC) (N : Nat) {d : Nat} {res : Int32 × ZM} {σ : ZM} (h : f_X3_join_80 N σ = some res) : zF G MX3_join d 80 [(0, .ref (zad G 1))] [] σ (some (.int res.1)) res.2 := by
  unfold f_X3_join_80 at h
  refine zf_aload_n 0 (q := 81) (j := 0) rfl dX3_join_80 rfl rfl ?_
  refine zf_dup (q := 82) rfl dX3_join_81 rfl ?_
  refine zf_getI (q := 85) rfl dX3_join_82 lf_RX3_31 (sc1 hG) rfl ?_
  refine zf_iconst (q := 86) rfl dX3_join_85 ic1 ?_
  refine zf_iadd (q := 87) rfl dX3_join_86 ?_
  obtain ⟨s1, es1, h⟩ := zb h
  refine zf_putI (q := 90) rfl dX3_join_87 lp_RX3_31 (sc1 hG) rfl es1 ?_
  refine zf_aload_n 0 (q := 91) (j := 0) rfl dX3_join_90 rfl rfl ?_
  refine zf_getI (q := 94) rfl dX3_join_91 lf_RX3_31 (sc1 hG) rfl ?_
  cases h
  exact zf_ireturn dX3_join_94 rfl
def f_X3_join_39 (N : Nat) (x1 : Int32) (x2 : Int32) (x3 : Int32) (y0 : Int32) (y1 : Int32) (σ : ZM) : Option (Int32 × ZM) :=
  (zast σ 4 100 y1 y0).bind fun s2 =>
  (zald s2 5 10 x1).bind fun v3 =>
  (zast s2 5 10 x1 (v3 ||| ((1 : Int32) <<< (x2 &&& 31)))).bind fun s4 =>
  (zald s4 5 10 x2).bind fun v5 =>
  (zast s4 5 10 x2 (v5 ||| ((1 : Int32) <<< (x1 &&& 31)))).bind fun s6 =>
  if x3 = 0 then
  (f_X3_join_80 N s6)
  else
  ((zald s6 6 10 x1).bind fun v7 =>
  (zast s6 6 10 x1 (v7 ||| ((1 : Int32) <<< (x2 &&& 31)))).bind fun s8 =>
  f_X3_join_80 N s8)
set_option maxRecDepth 100000 in
theorem ok_X3_join_39 {G : ZG} (hG : zSH G = shC) (N : Nat) {d : Nat} {res : Int32 × ZM} {x1 : Int32} {x2 : Int32} {x3 : Int32} {y0 : Int32} {y1 : Int32} {σ : ZM} (h : f_X3_join_39 N x1 x2 x3 y0 y1 σ = some res) : zF G MX3_join d 39 [(0, .ref (zad G 1)), (1, .int x1), (2, .int x2), (3, .int x3)] [.int y0, .int y1, .ref (zad G 4)] σ (some (.int res.1)) res.2 := by
  unfold f_X3_join_39 at h
  obtain ⟨s2, es2, h⟩ := zb h
  refine zf_iast (q := 40) rfl dX3_join_39 (sc4 hG) es2 ?_
  refine zf_aload_n 0 (q := 41) (j := 0) rfl dX3_join_40 rfl rfl ?_
  refine zf_getR (q := 44) rfl dX3_join_41 lf_RX3_21 (sc1 hG) rfl ?_
  refine zf_iload_n 1 (q := 45) (j := 1) rfl dX3_join_44 rfl rfl ?_
  refine zf_dup2 (q := 46) rfl dX3_join_45 rfl rfl ?_
  obtain ⟨v3, ev3, h⟩ := zb h
  refine zf_iald (q := 47) rfl dX3_join_46 (sc5 hG) ev3 ?_
  refine zf_iconst (q := 48) rfl dX3_join_47 ic1 ?_
  refine zf_iload_n 2 (q := 49) (j := 2) rfl dX3_join_48 rfl rfl ?_
  refine zf_ishl (q := 50) rfl dX3_join_49 ?_
  refine zf_ior (q := 51) rfl dX3_join_50 ?_
  obtain ⟨s4, es4, h⟩ := zb h
  refine zf_iast (q := 52) rfl dX3_join_51 (sc5 hG) es4 ?_
  refine zf_aload_n 0 (q := 53) (j := 0) rfl dX3_join_52 rfl rfl ?_
  refine zf_getR (q := 56) rfl dX3_join_53 lf_RX3_21 (sc1 hG) rfl ?_
  refine zf_iload_n 2 (q := 57) (j := 2) rfl dX3_join_56 rfl rfl ?_
  refine zf_dup2 (q := 58) rfl dX3_join_57 rfl rfl ?_
  obtain ⟨v5, ev5, h⟩ := zb h
  refine zf_iald (q := 59) rfl dX3_join_58 (sc5 hG) ev5 ?_
  refine zf_iconst (q := 60) rfl dX3_join_59 ic1 ?_
  refine zf_iload_n 1 (q := 61) (j := 1) rfl dX3_join_60 rfl rfl ?_
  refine zf_ishl (q := 62) rfl dX3_join_61 ?_
  refine zf_ior (q := 63) rfl dX3_join_62 ?_
  obtain ⟨s6, es6, h⟩ := zb h
  refine zf_iast (q := 64) rfl dX3_join_63 (sc5 hG) es6 ?_
  refine zf_iload_n 3 (q := 65) (j := 3) rfl dX3_join_64 rfl rfl ?_
  refine zf_if_eq (q := 68) (tgt := 80) rfl (by decide) dX3_join_65 (fun hc65 => ?_) (fun hc65 => ?_)
  · replace h := (zi h).1 hc65
    exact zf_sub [0] rfl (ok_X3_join_80 hG N h)
  · replace h := (zi h).2 hc65
    refine zf_aload_n 0 (q := 69) (j := 0) rfl dX3_join_68 rfl rfl ?_
    refine zf_getR (q := 72) rfl dX3_join_69 lf_RX3_24 (sc1 hG) rfl ?_
    refine zf_iload_n 1 (q := 73) (j := 1) rfl dX3_join_72 rfl rfl ?_
    refine zf_dup2 (q := 74) rfl dX3_join_73 rfl rfl ?_
    obtain ⟨v7, ev7, h⟩ := zb h
    refine zf_iald (q := 75) rfl dX3_join_74 (sc6 hG) ev7 ?_
    refine zf_iconst (q := 76) rfl dX3_join_75 ic1 ?_
    refine zf_iload_n 2 (q := 77) (j := 2) rfl dX3_join_76 rfl rfl ?_
    refine zf_ishl (q := 78) rfl dX3_join_77 ?_
    refine zf_ior (q := 79) rfl dX3_join_78 ?_
    obtain ⟨s8, es8, h⟩ := zb h
    refine zf_iast (q := 80) rfl dX3_join_79 (sc6 hG) es8 ?_
    exact zf_sub [0] rfl (ok_X3_join_80 hG N h)
def f_X3_join_19 (N : Nat) (x1 : Int32) (x2 : Int32) (x3 : Int32) (y0 : Int32) (y1 : Int32) (σ : ZM) : Option (Int32 × ZM) :=
  (zast σ 4 100 y1 y0).bind fun s9 =>
  if x3 = 0 then
  (f_X3_join_39 N x1 x2 x3 (2 : Int32) ((x2 * (10 : Int32)) + x1) s9)
  else
  (f_X3_join_39 N x1 x2 x3 (1 : Int32) ((x2 * (10 : Int32)) + x1) s9)
set_option maxRecDepth 100000 in
theorem ok_X3_join_19 {G : ZG} (hG : zSH G = shC) (N : Nat) {d : Nat} {res : Int32 × ZM} {x1 : Int32} {x2 : Int32} {x3 : Int32} {y0 : Int32} {y1 : Int32} {σ : ZM} (h : f_X3_join_19 N x1 x2 x3 y0 y1 σ = some res) : zF G MX3_join d 19 [(0, .ref (zad G 1)), (1, .int x1), (2, .int x2), (3, .int x3)] [.int y0, .int y1, .ref (zad G 4)] σ (some (.int res.1)) res.2 := by
  unfold f_X3_join_19 at h
  obtain ⟨s9, es9, h⟩ := zb h
  refine zf_iast (q := 20) rfl dX3_join_19 (sc4 hG) es9 ?_
  refine zf_aload_n 0 (q := 21) (j := 0) rfl dX3_join_20 rfl rfl ?_
  refine zf_getR (q := 24) rfl dX3_join_21 lf_RX3_18 (sc1 hG) rfl ?_
  refine zf_iload_n 2 (q := 25) (j := 2) rfl dX3_join_24 rfl rfl ?_
  refine zf_bipush (q := 27) rfl dX3_join_25 bp10 ?_
  refine zf_imul (q := 28) rfl dX3_join_27 ?_
  refine zf_iload_n 1 (q := 29) (j := 1) rfl dX3_join_28 rfl rfl ?_
  refine zf_iadd (q := 30) rfl dX3_join_29 ?_
  refine zf_iload_n 3 (q := 31) (j := 3) rfl dX3_join_30 rfl rfl ?_
  refine zf_if_eq (q := 34) (tgt := 38) rfl (by decide) dX3_join_31 (fun hc31 => ?_) (fun hc31 => ?_)
  · replace h := (zi h).1 hc31
    refine zf_iconst (q := 39) rfl dX3_join_38 ic2 ?_
    exact zf_sub [0, 1, 2, 3] rfl (ok_X3_join_39 hG N h)
  · replace h := (zi h).2 hc31
    refine zf_iconst (q := 35) rfl dX3_join_34 ic1 ?_
    refine zf_goto (tgt := 39) (by decide) dX3_join_35 ?_
    exact zf_sub [0, 1, 2, 3] rfl (ok_X3_join_39 hG N h)
def f_X3_join (N : Nat) (x1 : Int32) (x2 : Int32) (x3 : Int32) (σ : ZM) : Option (Int32 × ZM) :=
  if x3 = 0 then
  (f_X3_join_19 N x1 x2 x3 (2 : Int32) ((x1 * (10 : Int32)) + x2) σ)
  else
  (f_X3_join_19 N x1 x2 x3 (3 : Int32) ((x1 * (10 : Int32)) + x2) σ)
set_option maxRecDepth 100000 in
theorem ok_X3_join {G : ZG} (hG : zSH G = shC) (N : Nat) {d : Nat} (hd : 0 ≤ d) {x1 : Int32} {x2 : Int32} {x3 : Int32} {σ : ZM} {res : Int32 × ZM} (h : f_X3_join N x1 x2 x3 σ = some res) : zCt G d MX3_join [.ref (zad G 1), .int x1, .int x2, .int x3] σ (some (.int res.1)) res.2 := by
  refine zct_of (by decide) (Nat.le_of_ble_eq_true rfl) (lv := [(0, .ref (zad G 1)), (1, .int x1), (2, .int x2), (3, .int x3)]) rfl ?_
  unfold f_X3_join at h
  refine zf_aload_n 0 (q := 1) (j := 0) rfl dX3_join_0 rfl rfl ?_
  refine zf_getR (q := 4) rfl dX3_join_1 lf_RX3_18 (sc1 hG) rfl ?_
  refine zf_iload_n 1 (q := 5) (j := 1) rfl dX3_join_4 rfl rfl ?_
  refine zf_bipush (q := 7) rfl dX3_join_5 bp10 ?_
  refine zf_imul (q := 8) rfl dX3_join_7 ?_
  refine zf_iload_n 2 (q := 9) (j := 2) rfl dX3_join_8 rfl rfl ?_
  refine zf_iadd (q := 10) rfl dX3_join_9 ?_
  refine zf_iload_n 3 (q := 11) (j := 3) rfl dX3_join_10 rfl rfl ?_
  refine zf_if_eq (q := 14) (tgt := 18) rfl (by decide) dX3_join_11 (fun hc11 => ?_) (fun hc11 => ?_)
  · replace h := (zi h).1 hc11
    refine zf_iconst (q := 19) rfl dX3_join_18 ic2 ?_
    exact zf_sub [0, 1, 2, 3] rfl (ok_X3_join_19 hG N h)
  · replace h := (zi h).2 hc11
    refine zf_iconst (q := 15) rfl dX3_join_14 ic3 ?_
    refine zf_goto (tgt := 19) (by decide) dX3_join_15 ?_
    exact zf_sub [0, 1, 2, 3] rfl (ok_X3_join_19 hG N h)
-- ===== X3_buysFrom: NearCopies$Nets.buysFrom(II)Z
def b_X3_buysFrom_10 (N : Nat) (rec10 : Int32 → Int32 → Int32 → ZM → Option (Int32 × ZM)) (x2 : Int32) (x3 : Int32) (x4 : Int32) (σ : ZM) : Option (Int32 × ZM) :=
  if (σ.1 1 0) ≤ x4 then
  (if ((x3 >>> (x2 &&& 31)) &&& (1 : Int32)) = 0 then
  (some ((0 : Int32), σ))
  else
  (some ((1 : Int32), σ)))
  else
  (zbd (f_X3_union N 6 10 x3 σ) fun r1 s2 =>
  (some (x3 ||| r1)).bind fun v3 =>
  (some (x4 + (1 : Int32))).bind fun v4 =>
  rec10 x2 v3 v4 s2)
set_option maxRecDepth 100000 in
theorem ok_b_X3_buysFrom_10 {G : ZG} (hG : zSH G = shC) (N : Nat) {d : Nat} (hd : 0 ≤ d) {rec10 : Int32 → Int32 → Int32 → ZM → Option (Int32 × ZM)} {res : Int32 × ZM} (hr10 : ∀ (x2 : Int32) (x3 : Int32) (x4 : Int32) (σ : ZM), rec10 x2 x3 x4 σ = some res → zF G MX3_buysFrom (d + 1) 10 [(0, .ref (zad G 1)), (2, .int x2), (3, .int x3), (4, .int x4)] [] σ (some (.int res.1)) res.2) {x2 : Int32} {x3 : Int32} {x4 : Int32} {σ : ZM} (h : b_X3_buysFrom_10 N rec10 x2 x3 x4 σ = some res) : zF G MX3_buysFrom (d + 1) 10 [(0, .ref (zad G 1)), (2, .int x2), (3, .int x3), (4, .int x4)] [] σ (some (.int res.1)) res.2 := by
  unfold b_X3_buysFrom_10 at h
  refine zf_iload 3 (q := 12) rfl dX3_buysFrom_10 rfl ?_
  refine zf_aload_n 0 (q := 13) (j := 0) rfl dX3_buysFrom_12 rfl rfl ?_
  refine zf_getI (q := 16) rfl dX3_buysFrom_13 lf_RX3_27 (sc1 hG) rfl ?_
  refine zf_icmp_ge (q := 19) (tgt := 37) rfl (by decide) dX3_buysFrom_16 (fun hc16 => ?_) (fun hc16 => ?_)
  · replace h := (zi h).1 hc16
    refine zf_iload_n 2 (q := 38) (j := 3) rfl dX3_buysFrom_37 rfl rfl ?_
    refine zf_iload_n 1 (q := 39) (j := 2) rfl dX3_buysFrom_38 rfl rfl ?_
    refine zf_ishr (q := 40) rfl dX3_buysFrom_39 ?_
    refine zf_iconst (q := 41) rfl dX3_buysFrom_40 ic1 ?_
    refine zf_iand (q := 42) rfl dX3_buysFrom_41 ?_
    refine zf_if_eq (q := 45) (tgt := 49) rfl (by decide) dX3_buysFrom_42 (fun hc42 => ?_) (fun hc42 => ?_)
    · replace h := (zi h).1 hc42
      refine zf_iconst (q := 50) rfl dX3_buysFrom_49 ic0 ?_
      cases h
      exact zf_zreturn dX3_buysFrom_50 rfl (Or.inl rfl)
    · replace h := (zi h).2 hc42
      refine zf_iconst (q := 46) rfl dX3_buysFrom_45 ic1 ?_
      refine zf_goto (tgt := 50) (by decide) dX3_buysFrom_46 ?_
      cases h
      exact zf_zreturn dX3_buysFrom_50 rfl (Or.inr rfl)
  · replace h := (zi h).2 hc16
    refine zf_iload_n 2 (q := 20) (j := 3) rfl dX3_buysFrom_19 rfl rfl ?_
    refine zf_aload_n 0 (q := 21) (j := 0) rfl dX3_buysFrom_20 rfl rfl ?_
    refine zf_aload_n 0 (q := 22) (j := 0) rfl dX3_buysFrom_21 rfl rfl ?_
    refine zf_getR (q := 25) rfl dX3_buysFrom_22 lf_RX3_24 (sc1 hG) rfl ?_
    refine zf_iload_n 2 (q := 26) (j := 3) rfl dX3_buysFrom_25 rfl rfl ?_
    obtain ⟨r1, s2, es2, h⟩ := zc h
    refine zf_callV (q := 29) (As := [.ref (zad G 6), .int x3]) (rest := [.int x3]) (st1 := [.int r1, .int x3]) rfl dX3_buysFrom_26 lv_RX3_34 (sc1 hG) rfl rfl (Nat.le_of_ble_eq_true rfl) (ok_X3_union hG N (Nat.le_trans (by decide) hd) (sc6 hG) es2) rfl ?_
    refine zf_ior (q := 30) rfl dX3_buysFrom_29 ?_
    obtain ⟨v3, ev3, h⟩ := zb h
    refine zf_istore_n (q := 31) (y := v3) (i := 3) (lv1 := [(3, .int v3), (0, .ref (zad G 1)), (2, .int x2), (4, .int x4)]) rfl dX3_buysFrom_30 rfl (by decide) ev3 rfl ?_
    obtain ⟨v4, ev4, h⟩ := zb h
    refine zf_iinc 3 (q := 34) (v := v4) (lv1 := [(4, .int v4), (3, .int v3), (0, .ref (zad G 1)), (2, .int x2)]) rfl dX3_buysFrom_31 rfl (by rw [ic1]; exact ev4) (by decide) rfl ?_
    refine zf_goto (tgt := 10) (by decide) dX3_buysFrom_34 ?_
    exact zf_sub [2, 3, 1, 0] rfl (hr10 _ _ _ _ h)
def f_X3_buysFrom_10 (N : Nat) : Nat → Int32 → Int32 → Int32 → ZM → Option (Int32 × ZM)
  | 0, _, _, _, _ => none
  | n + 1, x2, x3, x4, σ => b_X3_buysFrom_10 N (f_X3_buysFrom_10 N n) x2 x3 x4 σ
theorem ok_X3_buysFrom_10 {G : ZG} (hG : zSH G = shC) (N : Nat) {d : Nat} (hd : 0 ≤ d) {res : Int32 × ZM} : ∀ (n : Nat) (x2 : Int32) (x3 : Int32) (x4 : Int32) (σ : ZM), f_X3_buysFrom_10 N n x2 x3 x4 σ = some res → zF G MX3_buysFrom (d + 1) 10 [(0, .ref (zad G 1)), (2, .int x2), (3, .int x3), (4, .int x4)] [] σ (some (.int res.1)) res.2 := by
  intro n
  induction n with
  | zero => intro x2 x3 x4 σ h; exact absurd h (by simp [f_X3_buysFrom_10])
  | succ n ih => intro x2 x3 x4 σ h; rw [f_X3_buysFrom_10] at h; exact ok_b_X3_buysFrom_10 hG N hd ih h
def f_X3_buysFrom (N : Nat) (x1 : Int32) (x2 : Int32) (σ : ZM) : Option (Int32 × ZM) :=
  (zald σ 6 10 x1).bind fun v5 =>
  f_X3_buysFrom_10 N N x2 v5 (0 : Int32) σ
set_option maxRecDepth 100000 in
theorem ok_X3_buysFrom {G : ZG} (hG : zSH G = shC) (N : Nat) {d : Nat} (hd : 1 ≤ d) {x1 : Int32} {x2 : Int32} {σ : ZM} {res : Int32 × ZM} (h : f_X3_buysFrom N x1 x2 σ = some res) : zCt G d MX3_buysFrom [.ref (zad G 1), .int x1, .int x2] σ (some (.int res.1)) res.2 := by
  obtain ⟨d, rfl⟩ : ∃ k, d = k + 1 := ⟨d - 1, by omega⟩
  have hd : 0 ≤ d := by omega
  refine zct_of (by decide) (Nat.le_of_ble_eq_true rfl) (lv := [(0, .ref (zad G 1)), (1, .int x1), (2, .int x2)]) rfl ?_
  unfold f_X3_buysFrom at h
  refine zf_aload_n 0 (q := 1) (j := 0) rfl dX3_buysFrom_0 rfl rfl ?_
  refine zf_getR (q := 4) rfl dX3_buysFrom_1 lf_RX3_24 (sc1 hG) rfl ?_
  refine zf_iload_n 1 (q := 5) (j := 1) rfl dX3_buysFrom_4 rfl rfl ?_
  obtain ⟨v5, ev5, h⟩ := zb h
  refine zf_iald (q := 6) rfl dX3_buysFrom_5 (sc6 hG) ev5 ?_
  refine zf_istore_n (q := 7) (y := v5) (i := 3) (lv1 := [(3, .int v5), (0, .ref (zad G 1)), (1, .int x1), (2, .int x2)]) rfl dX3_buysFrom_6 rfl (by decide) rfl rfl ?_
  refine zf_iconst (q := 8) rfl dX3_buysFrom_7 ic0 ?_
  refine zf_istore (q := 10) (y := (0 : Int32)) (i := 4) (lv1 := [(4, .int (0 : Int32)), (3, .int v5), (0, .ref (zad G 1)), (1, .int x1), (2, .int x2)]) rfl dX3_buysFrom_8 (by decide) rfl rfl ?_
  exact zf_sub [2, 4, 1, 0] rfl (ok_X3_buysFrom_10 hG N hd _ _ _ _ _ h)
-- ===== X3_surelyGuessed: NearCopies$Nets.surelyGuessed()I
def f_X3_surelyGuessed_28 (N : Nat) (rec4 : Int32 → Int32 → ZM → Option (Int32 × ZM)) (x1 : Int32) (x2 : Int32) (σ : ZM) : Option (Int32 × ZM) :=
  (some (x2 + (1 : Int32))).bind fun v1 =>
  rec4 x1 v1 σ
set_option maxRecDepth 100000 in
theorem ok_X3_surelyGuessed_28 {G : ZG} (hG : zSH G = shC) (N : Nat) {d : Nat} (hd : 0 ≤ d) {rec4 : Int32 → Int32 → ZM → Option (Int32 × ZM)} {res : Int32 × ZM} (hr4 : ∀ (x1 : Int32) (x2 : Int32) (σ : ZM), rec4 x1 x2 σ = some res → zF G MX3_surelyGuessed (d + 1) 4 [(0, .ref (zad G 1)), (1, .int x1), (2, .int x2)] [] σ (some (.int res.1)) res.2) {x1 : Int32} {x2 : Int32} {σ : ZM} (h : f_X3_surelyGuessed_28 N rec4 x1 x2 σ = some res) : zF G MX3_surelyGuessed (d + 1) 28 [(0, .ref (zad G 1)), (1, .int x1), (2, .int x2)] [] σ (some (.int res.1)) res.2 := by
  unfold f_X3_surelyGuessed_28 at h
  obtain ⟨v1, ev1, h⟩ := zb h
  refine zf_iinc 2 (q := 31) (v := v1) (lv1 := [(2, .int v1), (0, .ref (zad G 1)), (1, .int x1)]) rfl dX3_surelyGuessed_28 rfl (by rw [ic1]; exact ev1) (by decide) rfl ?_
  refine zf_goto (tgt := 4) (by decide) dX3_surelyGuessed_31 ?_
  exact zf_sub [1, 2, 0] rfl (hr4 _ _ _ h)
def b_X3_surelyGuessed_4 (N : Nat) (rec4 : Int32 → Int32 → ZM → Option (Int32 × ZM)) (x1 : Int32) (x2 : Int32) (σ : ZM) : Option (Int32 × ZM) :=
  if (σ.1 1 0) ≤ x2 then
  (some (x1, σ))
  else
  ((zald σ 3 10 x2).bind fun v2 =>
  zbd (f_J6_bitCount_0f7a4 N v2 σ) fun r3 s4 =>
  if r3 = (1 : Int32) then
  ((some (x1 + (1 : Int32))).bind fun v5 =>
  f_X3_surelyGuessed_28 N rec4 v5 x2 s4)
  else
  (f_X3_surelyGuessed_28 N rec4 x1 x2 s4))
set_option maxRecDepth 100000 in
theorem ok_b_X3_surelyGuessed_4 {G : ZG} (hG : zSH G = shC) (N : Nat) {d : Nat} (hd : 0 ≤ d) {rec4 : Int32 → Int32 → ZM → Option (Int32 × ZM)} {res : Int32 × ZM} (hr4 : ∀ (x1 : Int32) (x2 : Int32) (σ : ZM), rec4 x1 x2 σ = some res → zF G MX3_surelyGuessed (d + 1) 4 [(0, .ref (zad G 1)), (1, .int x1), (2, .int x2)] [] σ (some (.int res.1)) res.2) {x1 : Int32} {x2 : Int32} {σ : ZM} (h : b_X3_surelyGuessed_4 N rec4 x1 x2 σ = some res) : zF G MX3_surelyGuessed (d + 1) 4 [(0, .ref (zad G 1)), (1, .int x1), (2, .int x2)] [] σ (some (.int res.1)) res.2 := by
  unfold b_X3_surelyGuessed_4 at h
  refine zf_iload_n 2 (q := 5) (j := 2) rfl dX3_surelyGuessed_4 rfl rfl ?_
  refine zf_aload_n 0 (q := 6) (j := 0) rfl dX3_surelyGuessed_5 rfl rfl ?_
  refine zf_getI (q := 9) rfl dX3_surelyGuessed_6 lf_RX3_27 (sc1 hG) rfl ?_
  refine zf_icmp_ge (q := 12) (tgt := 34) rfl (by decide) dX3_surelyGuessed_9 (fun hc9 => ?_) (fun hc9 => ?_)
  · replace h := (zi h).1 hc9
    refine zf_iload_n 1 (q := 35) (j := 1) rfl dX3_surelyGuessed_34 rfl rfl ?_
    cases h
    exact zf_ireturn dX3_surelyGuessed_35 rfl
  · replace h := (zi h).2 hc9
    refine zf_aload_n 0 (q := 13) (j := 0) rfl dX3_surelyGuessed_12 rfl rfl ?_
    refine zf_getR (q := 16) rfl dX3_surelyGuessed_13 lf_RX3_15 (sc1 hG) rfl ?_
    refine zf_iload_n 2 (q := 17) (j := 2) rfl dX3_surelyGuessed_16 rfl rfl ?_
    obtain ⟨v2, ev2, h⟩ := zb h
    refine zf_iald (q := 18) rfl dX3_surelyGuessed_17 (sc3 hG) ev2 ?_
    obtain ⟨r3, s4, es4, h⟩ := zc h
    refine zf_callS (q := 21) (As := [.int v2]) (rest := []) (st1 := [.int r3]) rfl dX3_surelyGuessed_18 ls_RX3_44 rfl rfl (Nat.le_of_ble_eq_true rfl) (ok_J6_bitCount_0f7a4 N (Nat.le_trans (by decide) hd) es4) rfl ?_
    refine zf_iconst (q := 22) rfl dX3_surelyGuessed_21 ic1 ?_
    refine zf_icmp_ne (q := 25) (tgt := 28) rfl (by decide) dX3_surelyGuessed_22 (fun hc22 => ?_) (fun hc22 => ?_)
    · replace h := (zi h).2 hc22
      exact zf_sub [0, 1, 2] rfl (ok_X3_surelyGuessed_28 hG N hd hr4 h)
    · replace h := (zi h).1 hc22
      obtain ⟨v5, ev5, h⟩ := zb h
      refine zf_iinc 1 (q := 28) (v := v5) (lv1 := [(1, .int v5), (0, .ref (zad G 1)), (2, .int x2)]) rfl dX3_surelyGuessed_25 rfl (by rw [ic1]; exact ev5) (by decide) rfl ?_
      exact zf_sub [1, 0, 2] rfl (ok_X3_surelyGuessed_28 hG N hd hr4 h)
def f_X3_surelyGuessed_4 (N : Nat) : Nat → Int32 → Int32 → ZM → Option (Int32 × ZM)
  | 0, _, _, _ => none
  | n + 1, x1, x2, σ => b_X3_surelyGuessed_4 N (f_X3_surelyGuessed_4 N n) x1 x2 σ
theorem ok_X3_surelyGuessed_4 {G : ZG} (hG : zSH G = shC) (N : Nat) {d : Nat} (hd : 0 ≤ d) {res : Int32 × ZM} : ∀ (n : Nat) (x1 : Int32) (x2 : Int32) (σ : ZM), f_X3_surelyGuessed_4 N n x1 x2 σ = some res → zF G MX3_surelyGuessed (d + 1) 4 [(0, .ref (zad G 1)), (1, .int x1), (2, .int x2)] [] σ (some (.int res.1)) res.2 := by
  intro n
  induction n with
  | zero => intro x1 x2 σ h; exact absurd h (by simp [f_X3_surelyGuessed_4])
  | succ n ih => intro x1 x2 σ h; rw [f_X3_surelyGuessed_4] at h; exact ok_b_X3_surelyGuessed_4 hG N hd ih h
def f_X3_surelyGuessed (N : Nat) (σ : ZM) : Option (Int32 × ZM) :=
  f_X3_surelyGuessed_4 N N (0 : Int32) (0 : Int32) σ
set_option maxRecDepth 100000 in
theorem ok_X3_surelyGuessed {G : ZG} (hG : zSH G = shC) (N : Nat) {d : Nat} (hd : 1 ≤ d) {σ : ZM} {res : Int32 × ZM} (h : f_X3_surelyGuessed N σ = some res) : zCt G d MX3_surelyGuessed [.ref (zad G 1)] σ (some (.int res.1)) res.2 := by
  obtain ⟨d, rfl⟩ : ∃ k, d = k + 1 := ⟨d - 1, by omega⟩
  have hd : 0 ≤ d := by omega
  refine zct_of (by decide) (Nat.le_of_ble_eq_true rfl) (lv := [(0, .ref (zad G 1))]) rfl ?_
  unfold f_X3_surelyGuessed at h
  refine zf_iconst (q := 1) rfl dX3_surelyGuessed_0 ic0 ?_
  refine zf_istore_n (q := 2) (y := (0 : Int32)) (i := 1) (lv1 := [(1, .int (0 : Int32)), (0, .ref (zad G 1))]) rfl dX3_surelyGuessed_1 rfl (by decide) rfl rfl ?_
  refine zf_iconst (q := 3) rfl dX3_surelyGuessed_2 ic0 ?_
  refine zf_istore_n (q := 4) (y := (0 : Int32)) (i := 2) (lv1 := [(2, .int (0 : Int32)), (1, .int (0 : Int32)), (0, .ref (zad G 1))]) rfl dX3_surelyGuessed_3 rfl (by decide) rfl rfl ?_
  exact zf_sub [2, 1, 0] rfl (ok_X3_surelyGuessed_4 hG N hd _ _ _ _ h)
-- ===== X3_allAskers: NearCopies$Nets.allAskers()I
def b_X3_allAskers_4 (N : Nat) (rec4 : Int32 → Int32 → ZM → Option (Int32 × ZM)) (x1 : Int32) (x2 : Int32) (σ : ZM) : Option (Int32 × ZM) :=
  if (σ.1 1 0) ≤ x2 then
  (some (x1, σ))
  else
  ((zald σ 2 10 x2).bind fun v1 =>
  (some (x1 + v1)).bind fun v2 =>
  (some (x2 + (1 : Int32))).bind fun v3 =>
  rec4 v2 v3 σ)
set_option maxRecDepth 100000 in
theorem ok_b_X3_allAskers_4 {G : ZG} (hG : zSH G = shC) (N : Nat) {d : Nat} {rec4 : Int32 → Int32 → ZM → Option (Int32 × ZM)} {res : Int32 × ZM} (hr4 : ∀ (x1 : Int32) (x2 : Int32) (σ : ZM), rec4 x1 x2 σ = some res → zF G MX3_allAskers d 4 [(0, .ref (zad G 1)), (1, .int x1), (2, .int x2)] [] σ (some (.int res.1)) res.2) {x1 : Int32} {x2 : Int32} {σ : ZM} (h : b_X3_allAskers_4 N rec4 x1 x2 σ = some res) : zF G MX3_allAskers d 4 [(0, .ref (zad G 1)), (1, .int x1), (2, .int x2)] [] σ (some (.int res.1)) res.2 := by
  unfold b_X3_allAskers_4 at h
  refine zf_iload_n 2 (q := 5) (j := 2) rfl dX3_allAskers_4 rfl rfl ?_
  refine zf_aload_n 0 (q := 6) (j := 0) rfl dX3_allAskers_5 rfl rfl ?_
  refine zf_getI (q := 9) rfl dX3_allAskers_6 lf_RX3_27 (sc1 hG) rfl ?_
  refine zf_icmp_ge (q := 12) (tgt := 27) rfl (by decide) dX3_allAskers_9 (fun hc9 => ?_) (fun hc9 => ?_)
  · replace h := (zi h).1 hc9
    refine zf_iload_n 1 (q := 28) (j := 1) rfl dX3_allAskers_27 rfl rfl ?_
    cases h
    exact zf_ireturn dX3_allAskers_28 rfl
  · replace h := (zi h).2 hc9
    refine zf_iload_n 1 (q := 13) (j := 1) rfl dX3_allAskers_12 rfl rfl ?_
    refine zf_aload_n 0 (q := 14) (j := 0) rfl dX3_allAskers_13 rfl rfl ?_
    refine zf_getR (q := 17) rfl dX3_allAskers_14 lf_RX3_9 (sc1 hG) rfl ?_
    refine zf_iload_n 2 (q := 18) (j := 2) rfl dX3_allAskers_17 rfl rfl ?_
    obtain ⟨v1, ev1, h⟩ := zb h
    refine zf_iald (q := 19) rfl dX3_allAskers_18 (sc2 hG) ev1 ?_
    refine zf_iadd (q := 20) rfl dX3_allAskers_19 ?_
    obtain ⟨v2, ev2, h⟩ := zb h
    refine zf_istore_n (q := 21) (y := v2) (i := 1) (lv1 := [(1, .int v2), (0, .ref (zad G 1)), (2, .int x2)]) rfl dX3_allAskers_20 rfl (by decide) ev2 rfl ?_
    obtain ⟨v3, ev3, h⟩ := zb h
    refine zf_iinc 2 (q := 24) (v := v3) (lv1 := [(2, .int v3), (1, .int v2), (0, .ref (zad G 1))]) rfl dX3_allAskers_21 rfl (by rw [ic1]; exact ev3) (by decide) rfl ?_
    refine zf_goto (tgt := 4) (by decide) dX3_allAskers_24 ?_
    exact zf_sub [2, 1, 0] rfl (hr4 _ _ _ h)
def f_X3_allAskers_4 (N : Nat) : Nat → Int32 → Int32 → ZM → Option (Int32 × ZM)
  | 0, _, _, _ => none
  | n + 1, x1, x2, σ => b_X3_allAskers_4 N (f_X3_allAskers_4 N n) x1 x2 σ
theorem ok_X3_allAskers_4 {G : ZG} (hG : zSH G = shC) (N : Nat) {d : Nat} {res : Int32 × ZM} : ∀ (n : Nat) (x1 : Int32) (x2 : Int32) (σ : ZM), f_X3_allAskers_4 N n x1 x2 σ = some res → zF G MX3_allAskers d 4 [(0, .ref (zad G 1)), (1, .int x1), (2, .int x2)] [] σ (some (.int res.1)) res.2 := by
  intro n
  induction n with
  | zero => intro x1 x2 σ h; exact absurd h (by simp [f_X3_allAskers_4])
  | succ n ih => intro x1 x2 σ h; rw [f_X3_allAskers_4] at h; exact ok_b_X3_allAskers_4 hG N ih h
def f_X3_allAskers (N : Nat) (σ : ZM) : Option (Int32 × ZM) :=
  f_X3_allAskers_4 N N (0 : Int32) (0 : Int32) σ
set_option maxRecDepth 100000 in
theorem ok_X3_allAskers {G : ZG} (hG : zSH G = shC) (N : Nat) {d : Nat} (hd : 0 ≤ d) {σ : ZM} {res : Int32 × ZM} (h : f_X3_allAskers N σ = some res) : zCt G d MX3_allAskers [.ref (zad G 1)] σ (some (.int res.1)) res.2 := by
  refine zct_of (by decide) (Nat.le_of_ble_eq_true rfl) (lv := [(0, .ref (zad G 1))]) rfl ?_
  unfold f_X3_allAskers at h
  refine zf_iconst (q := 1) rfl dX3_allAskers_0 ic0 ?_
  refine zf_istore_n (q := 2) (y := (0 : Int32)) (i := 1) (lv1 := [(1, .int (0 : Int32)), (0, .ref (zad G 1))]) rfl dX3_allAskers_1 rfl (by decide) rfl rfl ?_
  refine zf_iconst (q := 3) rfl dX3_allAskers_2 ic0 ?_
  refine zf_istore_n (q := 4) (y := (0 : Int32)) (i := 2) (lv1 := [(2, .int (0 : Int32)), (1, .int (0 : Int32)), (0, .ref (zad G 1))]) rfl dX3_allAskers_3 rfl (by decide) rfl rfl ?_
  exact zf_sub [2, 1, 0] rfl (ok_X3_allAskers_4 hG N _ _ _ _ h)
-- ===== X3_askersUnlike: NearCopies$Nets.askersUnlike(II)I
def f_X3_askersUnlike_38 (N : Nat) (rec5 : Int32 → Int32 → Int32 → Int32 → ZM → Option (Int32 × ZM)) (x1 : Int32) (x2 : Int32) (x3 : Int32) (x4 : Int32) (σ : ZM) : Option (Int32 × ZM) :=
  (some (x4 + (1 : Int32))).bind fun v1 =>
  rec5 x1 x2 x3 v1 σ
set_option maxRecDepth 100000 in
theorem ok_X3_askersUnlike_38 {G : ZG} (hG : zSH G = shC) (N : Nat) {d : Nat} {rec5 : Int32 → Int32 → Int32 → Int32 → ZM → Option (Int32 × ZM)} {res : Int32 × ZM} (hr5 : ∀ (x1 : Int32) (x2 : Int32) (x3 : Int32) (x4 : Int32) (σ : ZM), rec5 x1 x2 x3 x4 σ = some res → zF G MX3_askersUnlike d 5 [(0, .ref (zad G 1)), (1, .int x1), (2, .int x2), (3, .int x3), (4, .int x4)] [] σ (some (.int res.1)) res.2) {x1 : Int32} {x2 : Int32} {x3 : Int32} {x4 : Int32} {σ : ZM} (h : f_X3_askersUnlike_38 N rec5 x1 x2 x3 x4 σ = some res) : zF G MX3_askersUnlike d 38 [(0, .ref (zad G 1)), (1, .int x1), (2, .int x2), (3, .int x3), (4, .int x4)] [] σ (some (.int res.1)) res.2 := by
  unfold f_X3_askersUnlike_38 at h
  obtain ⟨v1, ev1, h⟩ := zb h
  refine zf_iinc 4 (q := 41) (v := v1) (lv1 := [(4, .int v1), (0, .ref (zad G 1)), (1, .int x1), (2, .int x2), (3, .int x3)]) rfl dX3_askersUnlike_38 rfl (by rw [ic1]; exact ev1) (by decide) rfl ?_
  refine zf_goto (tgt := 5) (by decide) dX3_askersUnlike_41 ?_
  exact zf_sub [1, 2, 3, 4, 0] rfl (hr5 _ _ _ _ _ h)
def b_X3_askersUnlike_5 (N : Nat) (rec5 : Int32 → Int32 → Int32 → Int32 → ZM → Option (Int32 × ZM)) (x1 : Int32) (x2 : Int32) (x3 : Int32) (x4 : Int32) (σ : ZM) : Option (Int32 × ZM) :=
  if (σ.1 1 0) ≤ x4 then
  (some (x3, σ))
  else
  (if (((x1 ^^^ x2) >>> (((3 : Int32) * x4) &&& 31)) &&& (7 : Int32)) = 0 then
  (f_X3_askersUnlike_38 N rec5 x1 x2 x3 x4 σ)
  else
  ((zald σ 2 10 x4).bind fun v2 =>
  (some (x3 + v2)).bind fun v3 =>
  f_X3_askersUnlike_38 N rec5 x1 x2 v3 x4 σ))
set_option maxRecDepth 100000 in
theorem ok_b_X3_askersUnlike_5 {G : ZG} (hG : zSH G = shC) (N : Nat) {d : Nat} {rec5 : Int32 → Int32 → Int32 → Int32 → ZM → Option (Int32 × ZM)} {res : Int32 × ZM} (hr5 : ∀ (x1 : Int32) (x2 : Int32) (x3 : Int32) (x4 : Int32) (σ : ZM), rec5 x1 x2 x3 x4 σ = some res → zF G MX3_askersUnlike d 5 [(0, .ref (zad G 1)), (1, .int x1), (2, .int x2), (3, .int x3), (4, .int x4)] [] σ (some (.int res.1)) res.2) {x1 : Int32} {x2 : Int32} {x3 : Int32} {x4 : Int32} {σ : ZM} (h : b_X3_askersUnlike_5 N rec5 x1 x2 x3 x4 σ = some res) : zF G MX3_askersUnlike d 5 [(0, .ref (zad G 1)), (1, .int x1), (2, .int x2), (3, .int x3), (4, .int x4)] [] σ (some (.int res.1)) res.2 := by
  unfold b_X3_askersUnlike_5 at h
  refine zf_iload 4 (q := 7) rfl dX3_askersUnlike_5 rfl ?_
  refine zf_aload_n 0 (q := 8) (j := 0) rfl dX3_askersUnlike_7 rfl rfl ?_
  refine zf_getI (q := 11) rfl dX3_askersUnlike_8 lf_RX3_27 (sc1 hG) rfl ?_
  refine zf_icmp_ge (q := 14) (tgt := 44) rfl (by decide) dX3_askersUnlike_11 (fun hc11 => ?_) (fun hc11 => ?_)
  · replace h := (zi h).1 hc11
    refine zf_iload_n 3 (q := 45) (j := 3) rfl dX3_askersUnlike_44 rfl rfl ?_
    cases h
    exact zf_ireturn dX3_askersUnlike_45 rfl
  · replace h := (zi h).2 hc11
    refine zf_iload_n 1 (q := 15) (j := 1) rfl dX3_askersUnlike_14 rfl rfl ?_
    refine zf_iload_n 2 (q := 16) (j := 2) rfl dX3_askersUnlike_15 rfl rfl ?_
    refine zf_ixor (q := 17) rfl dX3_askersUnlike_16 ?_
    refine zf_iconst (q := 18) rfl dX3_askersUnlike_17 ic3 ?_
    refine zf_iload 4 (q := 20) rfl dX3_askersUnlike_18 rfl ?_
    refine zf_imul (q := 21) rfl dX3_askersUnlike_20 ?_
    refine zf_ishr (q := 22) rfl dX3_askersUnlike_21 ?_
    refine zf_bipush (q := 24) rfl dX3_askersUnlike_22 bp7 ?_
    refine zf_iand (q := 25) rfl dX3_askersUnlike_24 ?_
    refine zf_if_eq (q := 28) (tgt := 38) rfl (by decide) dX3_askersUnlike_25 (fun hc25 => ?_) (fun hc25 => ?_)
    · replace h := (zi h).1 hc25
      exact zf_sub [0, 1, 2, 3, 4] rfl (ok_X3_askersUnlike_38 hG N hr5 h)
    · replace h := (zi h).2 hc25
      refine zf_iload_n 3 (q := 29) (j := 3) rfl dX3_askersUnlike_28 rfl rfl ?_
      refine zf_aload_n 0 (q := 30) (j := 0) rfl dX3_askersUnlike_29 rfl rfl ?_
      refine zf_getR (q := 33) rfl dX3_askersUnlike_30 lf_RX3_9 (sc1 hG) rfl ?_
      refine zf_iload 4 (q := 35) rfl dX3_askersUnlike_33 rfl ?_
      obtain ⟨v2, ev2, h⟩ := zb h
      refine zf_iald (q := 36) rfl dX3_askersUnlike_35 (sc2 hG) ev2 ?_
      refine zf_iadd (q := 37) rfl dX3_askersUnlike_36 ?_
      obtain ⟨v3, ev3, h⟩ := zb h
      refine zf_istore_n (q := 38) (y := v3) (i := 3) (lv1 := [(3, .int v3), (0, .ref (zad G 1)), (1, .int x1), (2, .int x2), (4, .int x4)]) rfl dX3_askersUnlike_37 rfl (by decide) ev3 rfl ?_
      exact zf_sub [1, 2, 3, 0, 4] rfl (ok_X3_askersUnlike_38 hG N hr5 h)
def f_X3_askersUnlike_5 (N : Nat) : Nat → Int32 → Int32 → Int32 → Int32 → ZM → Option (Int32 × ZM)
  | 0, _, _, _, _, _ => none
  | n + 1, x1, x2, x3, x4, σ => b_X3_askersUnlike_5 N (f_X3_askersUnlike_5 N n) x1 x2 x3 x4 σ
theorem ok_X3_askersUnlike_5 {G : ZG} (hG : zSH G = shC) (N : Nat) {d : Nat} {res : Int32 × ZM} : ∀ (n : Nat) (x1 : Int32) (x2 : Int32) (x3 : Int32) (x4 : Int32) (σ : ZM), f_X3_askersUnlike_5 N n x1 x2 x3 x4 σ = some res → zF G MX3_askersUnlike d 5 [(0, .ref (zad G 1)), (1, .int x1), (2, .int x2), (3, .int x3), (4, .int x4)] [] σ (some (.int res.1)) res.2 := by
  intro n
  induction n with
  | zero => intro x1 x2 x3 x4 σ h; exact absurd h (by simp [f_X3_askersUnlike_5])
  | succ n ih => intro x1 x2 x3 x4 σ h; rw [f_X3_askersUnlike_5] at h; exact ok_b_X3_askersUnlike_5 hG N ih h
def f_X3_askersUnlike (N : Nat) (x1 : Int32) (x2 : Int32) (σ : ZM) : Option (Int32 × ZM) :=
  f_X3_askersUnlike_5 N N x1 x2 (0 : Int32) (0 : Int32) σ
set_option maxRecDepth 100000 in
theorem ok_X3_askersUnlike {G : ZG} (hG : zSH G = shC) (N : Nat) {d : Nat} (hd : 0 ≤ d) {x1 : Int32} {x2 : Int32} {σ : ZM} {res : Int32 × ZM} (h : f_X3_askersUnlike N x1 x2 σ = some res) : zCt G d MX3_askersUnlike [.ref (zad G 1), .int x1, .int x2] σ (some (.int res.1)) res.2 := by
  refine zct_of (by decide) (Nat.le_of_ble_eq_true rfl) (lv := [(0, .ref (zad G 1)), (1, .int x1), (2, .int x2)]) rfl ?_
  unfold f_X3_askersUnlike at h
  refine zf_iconst (q := 1) rfl dX3_askersUnlike_0 ic0 ?_
  refine zf_istore_n (q := 2) (y := (0 : Int32)) (i := 3) (lv1 := [(3, .int (0 : Int32)), (0, .ref (zad G 1)), (1, .int x1), (2, .int x2)]) rfl dX3_askersUnlike_1 rfl (by decide) rfl rfl ?_
  refine zf_iconst (q := 3) rfl dX3_askersUnlike_2 ic0 ?_
  refine zf_istore (q := 5) (y := (0 : Int32)) (i := 4) (lv1 := [(4, .int (0 : Int32)), (3, .int (0 : Int32)), (0, .ref (zad G 1)), (1, .int x1), (2, .int x2)]) rfl dX3_askersUnlike_3 (by decide) rfl rfl ?_
  exact zf_sub [2, 3, 4, 1, 0] rfl (ok_X3_askersUnlike_5 hG N _ _ _ _ _ _ h)
-- ===== X4_aimOf: NearCopies$Order.aimOf(I)I
def f_X4_aimOf (N : Nat) (x1 : Int32) (σ : ZM) : Option (Int32 × ZM) :=
  (zald σ 10 4 x1).bind fun v1 =>
  if v1 = (-1 : Int32) then
  ((zald σ 13 4 x1).bind fun v3 =>
  some (v3, σ))
  else
  ((zald σ 10 4 x1).bind fun v2 =>
  some (v2, σ))
set_option maxRecDepth 100000 in
theorem ok_X4_aimOf {G : ZG} (hG : zSH G = shC) (N : Nat) {d : Nat} (hd : 0 ≤ d) {x1 : Int32} {σ : ZM} {res : Int32 × ZM} (h : f_X4_aimOf N x1 σ = some res) : zCt G d MX4_aimOf [.ref (zad G 34), .int x1] σ (some (.int res.1)) res.2 := by
  refine zct_of (by decide) (Nat.le_of_ble_eq_true rfl) (lv := [(0, .ref (zad G 34)), (1, .int x1)]) rfl ?_
  unfold f_X4_aimOf at h
  refine zf_aload_n 0 (q := 1) (j := 0) rfl dX4_aimOf_0 rfl rfl ?_
  refine zf_getR (q := 4) rfl dX4_aimOf_1 lf_RX4_21 (sc34 hG) rfl ?_
  refine zf_getR (q := 7) rfl dX4_aimOf_4 lf_RX4_33 (sc7 hG) rfl ?_
  refine zf_iload_n 1 (q := 8) (j := 1) rfl dX4_aimOf_7 rfl rfl ?_
  obtain ⟨v1, ev1, h⟩ := zb h
  refine zf_iald (q := 9) rfl dX4_aimOf_8 (sc10 hG) ev1 ?_
  refine zf_iconst (q := 10) rfl dX4_aimOf_9 icm1 ?_
  refine zf_icmp_ne (q := 13) (tgt := 25) rfl (by decide) dX4_aimOf_10 (fun hc10 => ?_) (fun hc10 => ?_)
  · replace h := (zi h).2 hc10
    refine zf_aload_n 0 (q := 26) (j := 0) rfl dX4_aimOf_25 rfl rfl ?_
    refine zf_getR (q := 29) rfl dX4_aimOf_26 lf_RX4_21 (sc34 hG) rfl ?_
    refine zf_getR (q := 32) rfl dX4_aimOf_29 lf_RX4_33 (sc7 hG) rfl ?_
    refine zf_iload_n 1 (q := 33) (j := 1) rfl dX4_aimOf_32 rfl rfl ?_
    obtain ⟨v2, ev2, h⟩ := zb h
    refine zf_iald (q := 34) rfl dX4_aimOf_33 (sc10 hG) ev2 ?_
    cases h
    exact zf_ireturn dX4_aimOf_34 rfl
  · replace h := (zi h).1 hc10
    refine zf_aload_n 0 (q := 14) (j := 0) rfl dX4_aimOf_13 rfl rfl ?_
    refine zf_getR (q := 17) rfl dX4_aimOf_14 lf_RX4_25 (sc34 hG) rfl ?_
    refine zf_getR (q := 20) rfl dX4_aimOf_17 lf_RX4_38 (sc12 hG) rfl ?_
    refine zf_iload_n 1 (q := 21) (j := 1) rfl dX4_aimOf_20 rfl rfl ?_
    obtain ⟨v3, ev3, h⟩ := zb h
    refine zf_iald (q := 22) rfl dX4_aimOf_21 (sc13 hG) ev3 ?_
    refine zf_goto (tgt := 34) (by decide) dX4_aimOf_22 ?_
    cases h
    exact zf_ireturn dX4_aimOf_34 rfl
-- ===== X4_toChange: NearCopies$Order.toChange()I
def f_X4_toChange_38 (N : Nat) (rec4 : Int32 → Int32 → ZM → Option (Int32 × ZM)) (x1 : Int32) (x2 : Int32) (σ : ZM) : Option (Int32 × ZM) :=
  (some (x2 + (1 : Int32))).bind fun v1 =>
  rec4 x1 v1 σ
set_option maxRecDepth 100000 in
theorem ok_X4_toChange_38 {G : ZG} (hG : zSH G = shC) (N : Nat) {d : Nat} (hd : 0 ≤ d) {rec4 : Int32 → Int32 → ZM → Option (Int32 × ZM)} {res : Int32 × ZM} (hr4 : ∀ (x1 : Int32) (x2 : Int32) (σ : ZM), rec4 x1 x2 σ = some res → zF G MX4_toChange (d + 1) 4 [(0, .ref (zad G 34)), (1, .int x1), (2, .int x2)] [] σ (some (.int res.1)) res.2) {x1 : Int32} {x2 : Int32} {σ : ZM} (h : f_X4_toChange_38 N rec4 x1 x2 σ = some res) : zF G MX4_toChange (d + 1) 38 [(0, .ref (zad G 34)), (1, .int x1), (2, .int x2)] [] σ (some (.int res.1)) res.2 := by
  unfold f_X4_toChange_38 at h
  obtain ⟨v1, ev1, h⟩ := zb h
  refine zf_iinc 2 (q := 41) (v := v1) (lv1 := [(2, .int v1), (0, .ref (zad G 34)), (1, .int x1)]) rfl dX4_toChange_38 rfl (by rw [ic1]; exact ev1) (by decide) rfl ?_
  refine zf_goto (tgt := 4) (by decide) dX4_toChange_41 ?_
  exact zf_sub [1, 2, 0] rfl (hr4 _ _ _ h)
def b_X4_toChange_4 (N : Nat) (rec4 : Int32 → Int32 → ZM → Option (Int32 × ZM)) (x1 : Int32) (x2 : Int32) (σ : ZM) : Option (Int32 × ZM) :=
  if (σ.1 12 0) ≤ x2 then
  (some (x1, σ))
  else
  (zbd (f_X4_aimOf N x2 σ) fun r2 s3 =>
  (zald s3 13 4 x2).bind fun v4 =>
  if r2 = v4 then
  (f_X4_toChange_38 N rec4 x1 x2 s3)
  else
  ((some (x1 ||| ((1 : Int32) <<< (x2 &&& 31)))).bind fun v5 =>
  f_X4_toChange_38 N rec4 v5 x2 s3))
set_option maxRecDepth 100000 in
theorem ok_b_X4_toChange_4 {G : ZG} (hG : zSH G = shC) (N : Nat) {d : Nat} (hd : 0 ≤ d) {rec4 : Int32 → Int32 → ZM → Option (Int32 × ZM)} {res : Int32 × ZM} (hr4 : ∀ (x1 : Int32) (x2 : Int32) (σ : ZM), rec4 x1 x2 σ = some res → zF G MX4_toChange (d + 1) 4 [(0, .ref (zad G 34)), (1, .int x1), (2, .int x2)] [] σ (some (.int res.1)) res.2) {x1 : Int32} {x2 : Int32} {σ : ZM} (h : b_X4_toChange_4 N rec4 x1 x2 σ = some res) : zF G MX4_toChange (d + 1) 4 [(0, .ref (zad G 34)), (1, .int x1), (2, .int x2)] [] σ (some (.int res.1)) res.2 := by
  unfold b_X4_toChange_4 at h
  refine zf_iload_n 2 (q := 5) (j := 2) rfl dX4_toChange_4 rfl rfl ?_
  refine zf_aload_n 0 (q := 6) (j := 0) rfl dX4_toChange_5 rfl rfl ?_
  refine zf_getR (q := 9) rfl dX4_toChange_6 lf_RX4_25 (sc34 hG) rfl ?_
  refine zf_getI (q := 12) rfl dX4_toChange_9 lf_RX4_43 (sc12 hG) rfl ?_
  refine zf_icmp_ge (q := 15) (tgt := 44) rfl (by decide) dX4_toChange_12 (fun hc12 => ?_) (fun hc12 => ?_)
  · replace h := (zi h).1 hc12
    refine zf_iload_n 1 (q := 45) (j := 1) rfl dX4_toChange_44 rfl rfl ?_
    cases h
    exact zf_ireturn dX4_toChange_45 rfl
  · replace h := (zi h).2 hc12
    refine zf_aload_n 0 (q := 16) (j := 0) rfl dX4_toChange_15 rfl rfl ?_
    refine zf_iload_n 2 (q := 17) (j := 2) rfl dX4_toChange_16 rfl rfl ?_
    obtain ⟨r2, s3, es3, h⟩ := zc h
    refine zf_callV (q := 20) (As := [.int x2]) (rest := []) (st1 := [.int r2]) rfl dX4_toChange_17 lv_RX4_47 (sc34 hG) rfl rfl (Nat.le_of_ble_eq_true rfl) (ok_X4_aimOf hG N (Nat.le_trans (by decide) hd) es3) rfl ?_
    refine zf_aload_n 0 (q := 21) (j := 0) rfl dX4_toChange_20 rfl rfl ?_
    refine zf_getR (q := 24) rfl dX4_toChange_21 lf_RX4_25 (sc34 hG) rfl ?_
    refine zf_getR (q := 27) rfl dX4_toChange_24 lf_RX4_38 (sc12 hG) rfl ?_
    refine zf_iload_n 2 (q := 28) (j := 2) rfl dX4_toChange_27 rfl rfl ?_
    obtain ⟨v4, ev4, h⟩ := zb h
    refine zf_iald (q := 29) rfl dX4_toChange_28 (sc13 hG) ev4 ?_
    refine zf_icmp_eq (q := 32) (tgt := 38) rfl (by decide) dX4_toChange_29 (fun hc29 => ?_) (fun hc29 => ?_)
    · replace h := (zi h).1 hc29
      exact zf_sub [0, 1, 2] rfl (ok_X4_toChange_38 hG N hd hr4 h)
    · replace h := (zi h).2 hc29
      refine zf_iload_n 1 (q := 33) (j := 1) rfl dX4_toChange_32 rfl rfl ?_
      refine zf_iconst (q := 34) rfl dX4_toChange_33 ic1 ?_
      refine zf_iload_n 2 (q := 35) (j := 2) rfl dX4_toChange_34 rfl rfl ?_
      refine zf_ishl (q := 36) rfl dX4_toChange_35 ?_
      refine zf_ior (q := 37) rfl dX4_toChange_36 ?_
      obtain ⟨v5, ev5, h⟩ := zb h
      refine zf_istore_n (q := 38) (y := v5) (i := 1) (lv1 := [(1, .int v5), (0, .ref (zad G 34)), (2, .int x2)]) rfl dX4_toChange_37 rfl (by decide) ev5 rfl ?_
      exact zf_sub [1, 0, 2] rfl (ok_X4_toChange_38 hG N hd hr4 h)
def f_X4_toChange_4 (N : Nat) : Nat → Int32 → Int32 → ZM → Option (Int32 × ZM)
  | 0, _, _, _ => none
  | n + 1, x1, x2, σ => b_X4_toChange_4 N (f_X4_toChange_4 N n) x1 x2 σ
theorem ok_X4_toChange_4 {G : ZG} (hG : zSH G = shC) (N : Nat) {d : Nat} (hd : 0 ≤ d) {res : Int32 × ZM} : ∀ (n : Nat) (x1 : Int32) (x2 : Int32) (σ : ZM), f_X4_toChange_4 N n x1 x2 σ = some res → zF G MX4_toChange (d + 1) 4 [(0, .ref (zad G 34)), (1, .int x1), (2, .int x2)] [] σ (some (.int res.1)) res.2 := by
  intro n
  induction n with
  | zero => intro x1 x2 σ h; exact absurd h (by simp [f_X4_toChange_4])
  | succ n ih => intro x1 x2 σ h; rw [f_X4_toChange_4] at h; exact ok_b_X4_toChange_4 hG N hd ih h
def f_X4_toChange (N : Nat) (σ : ZM) : Option (Int32 × ZM) :=
  f_X4_toChange_4 N N (0 : Int32) (0 : Int32) σ
set_option maxRecDepth 100000 in
theorem ok_X4_toChange {G : ZG} (hG : zSH G = shC) (N : Nat) {d : Nat} (hd : 1 ≤ d) {σ : ZM} {res : Int32 × ZM} (h : f_X4_toChange N σ = some res) : zCt G d MX4_toChange [.ref (zad G 34)] σ (some (.int res.1)) res.2 := by
  obtain ⟨d, rfl⟩ : ∃ k, d = k + 1 := ⟨d - 1, by omega⟩
  have hd : 0 ≤ d := by omega
  refine zct_of (by decide) (Nat.le_of_ble_eq_true rfl) (lv := [(0, .ref (zad G 34))]) rfl ?_
  unfold f_X4_toChange at h
  refine zf_iconst (q := 1) rfl dX4_toChange_0 ic0 ?_
  refine zf_istore_n (q := 2) (y := (0 : Int32)) (i := 1) (lv1 := [(1, .int (0 : Int32)), (0, .ref (zad G 34))]) rfl dX4_toChange_1 rfl (by decide) rfl rfl ?_
  refine zf_iconst (q := 3) rfl dX4_toChange_2 ic0 ?_
  refine zf_istore_n (q := 4) (y := (0 : Int32)) (i := 2) (lv1 := [(2, .int (0 : Int32)), (1, .int (0 : Int32)), (0, .ref (zad G 34))]) rfl dX4_toChange_3 rfl (by decide) rfl rfl ?_
  exact zf_sub [2, 1, 0] rfl (ok_X4_toChange_4 hG N hd _ _ _ _ h)
-- ===== X4_pickBehind: NearCopies$Order.pickBehind(I)V
def f_X4_pickBehind_54 (N : Nat) (rec9 : Int32 → Int32 → ZM → Option (Unit × ZM)) (x1 : Int32) (x2 : Int32) (σ : ZM) : Option (Unit × ZM) :=
  (some (x2 + (1 : Int32))).bind fun v1 =>
  rec9 x1 v1 σ
set_option maxRecDepth 100000 in
theorem ok_X4_pickBehind_54 {G : ZG} (hG : zSH G = shC) (N : Nat) {d : Nat} (hd : 1 ≤ d) {rec9 : Int32 → Int32 → ZM → Option (Unit × ZM)} {res : Unit × ZM} (hr9 : ∀ (x1 : Int32) (x2 : Int32) (σ : ZM), rec9 x1 x2 σ = some res → zF G MX4_pickBehind (d + 1) 9 [(0, .ref (zad G 34)), (1, .int x1), (2, .int x2)] [] σ none res.2) {x1 : Int32} {x2 : Int32} {σ : ZM} (h : f_X4_pickBehind_54 N rec9 x1 x2 σ = some res) : zF G MX4_pickBehind (d + 1) 54 [(0, .ref (zad G 34)), (1, .int x1), (2, .int x2)] [] σ none res.2 := by
  unfold f_X4_pickBehind_54 at h
  obtain ⟨v1, ev1, h⟩ := zb h
  refine zf_iinc 2 (q := 57) (v := v1) (lv1 := [(2, .int v1), (0, .ref (zad G 34)), (1, .int x1)]) rfl dX4_pickBehind_54 rfl (by rw [ic1]; exact ev1) (by decide) rfl ?_
  refine zf_goto (tgt := 9) (by decide) dX4_pickBehind_57 ?_
  exact zf_sub [1, 2, 0] rfl (hr9 _ _ _ h)
def b_X4_pickBehind_9 (N : Nat) (rec9 : Int32 → Int32 → ZM → Option (Unit × ZM)) (x1 : Int32) (x2 : Int32) (σ : ZM) : Option (Unit × ZM) :=
  if (σ.1 12 0) ≤ x2 then
  (some ((), σ))
  else
  (if ((x1 >>> (x2 &&& 31)) &&& (1 : Int32)) = 0 then
  (f_X4_pickBehind_54 N rec9 x1 x2 σ)
  else
  ((zald σ 16 4 x2).bind fun v2 =>
  if v2 = 0 then
  (f_X4_pickBehind_54 N rec9 x1 x2 σ)
  else
  (zbd (f_X4_aimOf N x2 σ) fun r3 s4 =>
  (zast s4 32 4 x2 r3).bind fun s5 =>
  f_X4_pickBehind_54 N rec9 x1 x2 s5)))
set_option maxRecDepth 100000 in
theorem ok_b_X4_pickBehind_9 {G : ZG} (hG : zSH G = shC) (N : Nat) {d : Nat} (hd : 1 ≤ d) {rec9 : Int32 → Int32 → ZM → Option (Unit × ZM)} {res : Unit × ZM} (hr9 : ∀ (x1 : Int32) (x2 : Int32) (σ : ZM), rec9 x1 x2 σ = some res → zF G MX4_pickBehind (d + 1) 9 [(0, .ref (zad G 34)), (1, .int x1), (2, .int x2)] [] σ none res.2) {x1 : Int32} {x2 : Int32} {σ : ZM} (h : b_X4_pickBehind_9 N rec9 x1 x2 σ = some res) : zF G MX4_pickBehind (d + 1) 9 [(0, .ref (zad G 34)), (1, .int x1), (2, .int x2)] [] σ none res.2 := by
  unfold b_X4_pickBehind_9 at h
  refine zf_iload_n 2 (q := 10) (j := 2) rfl dX4_pickBehind_9 rfl rfl ?_
  refine zf_aload_n 0 (q := 11) (j := 0) rfl dX4_pickBehind_10 rfl rfl ?_
  refine zf_getR (q := 14) rfl dX4_pickBehind_11 lf_RX4_25 (sc34 hG) rfl ?_
  refine zf_getI (q := 17) rfl dX4_pickBehind_14 lf_RX4_43 (sc12 hG) rfl ?_
  refine zf_icmp_ge (q := 20) (tgt := 60) rfl (by decide) dX4_pickBehind_17 (fun hc17 => ?_) (fun hc17 => ?_)
  · replace h := (zi h).1 hc17
    cases h
    exact zf_return dX4_pickBehind_60 rfl
  · replace h := (zi h).2 hc17
    refine zf_iload_n 1 (q := 21) (j := 1) rfl dX4_pickBehind_20 rfl rfl ?_
    refine zf_iload_n 2 (q := 22) (j := 2) rfl dX4_pickBehind_21 rfl rfl ?_
    refine zf_ishr (q := 23) rfl dX4_pickBehind_22 ?_
    refine zf_iconst (q := 24) rfl dX4_pickBehind_23 ic1 ?_
    refine zf_iand (q := 25) rfl dX4_pickBehind_24 ?_
    refine zf_if_eq (q := 28) (tgt := 54) rfl (by decide) dX4_pickBehind_25 (fun hc25 => ?_) (fun hc25 => ?_)
    · replace h := (zi h).1 hc25
      exact zf_sub [0, 1, 2] rfl (ok_X4_pickBehind_54 hG N hd hr9 h)
    · replace h := (zi h).2 hc25
      refine zf_aload_n 0 (q := 29) (j := 0) rfl dX4_pickBehind_28 rfl rfl ?_
      refine zf_getR (q := 32) rfl dX4_pickBehind_29 lf_RX4_25 (sc34 hG) rfl ?_
      refine zf_getR (q := 35) rfl dX4_pickBehind_32 lf_RX4_84 (sc12 hG) rfl ?_
      refine zf_iload_n 2 (q := 36) (j := 2) rfl dX4_pickBehind_35 rfl rfl ?_
      obtain ⟨v2, ev2, h⟩ := zb h
      refine zf_zald (q := 37) rfl dX4_pickBehind_36 (sc16 hG) ev2 ?_
      refine zf_if_eq (q := 40) (tgt := 54) rfl (by decide) dX4_pickBehind_37 (fun hc37 => ?_) (fun hc37 => ?_)
      · replace h := (zi h).1 hc37
        exact zf_sub [0, 1, 2] rfl (ok_X4_pickBehind_54 hG N hd hr9 h)
      · replace h := (zi h).2 hc37
        refine zf_aload_n 0 (q := 41) (j := 0) rfl dX4_pickBehind_40 rfl rfl ?_
        refine zf_getR (q := 44) rfl dX4_pickBehind_41 lf_RX4_29 (sc34 hG) rfl ?_
        refine zf_getR (q := 47) rfl dX4_pickBehind_44 lf_RX4_88 (sc23 hG) rfl ?_
        refine zf_iload_n 2 (q := 48) (j := 2) rfl dX4_pickBehind_47 rfl rfl ?_
        refine zf_aload_n 0 (q := 49) (j := 0) rfl dX4_pickBehind_48 rfl rfl ?_
        refine zf_iload_n 2 (q := 50) (j := 2) rfl dX4_pickBehind_49 rfl rfl ?_
        obtain ⟨r3, s4, es4, h⟩ := zc h
        refine zf_callV (q := 53) (As := [.int x2]) (rest := [.int x2, .ref (zad G 32)]) (st1 := [.int r3, .int x2, .ref (zad G 32)]) rfl dX4_pickBehind_50 lv_RX4_47 (sc34 hG) rfl rfl (Nat.le_of_ble_eq_true rfl) (ok_X4_aimOf hG N (Nat.le_trans (by decide) hd) es4) rfl ?_
        obtain ⟨s5, es5, h⟩ := zb h
        refine zf_iast (q := 54) rfl dX4_pickBehind_53 (sc32 hG) es5 ?_
        exact zf_sub [0, 1, 2] rfl (ok_X4_pickBehind_54 hG N hd hr9 h)
def f_X4_pickBehind_9 (N : Nat) : Nat → Int32 → Int32 → ZM → Option (Unit × ZM)
  | 0, _, _, _ => none
  | n + 1, x1, x2, σ => b_X4_pickBehind_9 N (f_X4_pickBehind_9 N n) x1 x2 σ
theorem ok_X4_pickBehind_9 {G : ZG} (hG : zSH G = shC) (N : Nat) {d : Nat} (hd : 1 ≤ d) {res : Unit × ZM} : ∀ (n : Nat) (x1 : Int32) (x2 : Int32) (σ : ZM), f_X4_pickBehind_9 N n x1 x2 σ = some res → zF G MX4_pickBehind (d + 1) 9 [(0, .ref (zad G 34)), (1, .int x1), (2, .int x2)] [] σ none res.2 := by
  intro n
  induction n with
  | zero => intro x1 x2 σ h; exact absurd h (by simp [f_X4_pickBehind_9])
  | succ n ih => intro x1 x2 σ h; rw [f_X4_pickBehind_9] at h; exact ok_b_X4_pickBehind_9 hG N hd ih h
def f_X4_pickBehind (N : Nat) (x1 : Int32) (σ : ZM) : Option (Unit × ZM) :=
  zbd (f_X1_pickNow N σ) fun r6 s7 =>
  f_X4_pickBehind_9 N N x1 (0 : Int32) s7
set_option maxRecDepth 100000 in
theorem ok_X4_pickBehind {G : ZG} (hG : zSH G = shC) (N : Nat) {d : Nat} (hd : 2 ≤ d) {x1 : Int32} {σ : ZM} {res : Unit × ZM} (h : f_X4_pickBehind N x1 σ = some res) : zCt G d MX4_pickBehind [.ref (zad G 34), .int x1] σ none res.2 := by
  obtain ⟨d, rfl⟩ : ∃ k, d = k + 1 := ⟨d - 1, by omega⟩
  have hd : 1 ≤ d := by omega
  refine zct_of (by decide) (Nat.le_of_ble_eq_true rfl) (lv := [(0, .ref (zad G 34)), (1, .int x1)]) rfl ?_
  unfold f_X4_pickBehind at h
  refine zf_aload_n 0 (q := 1) (j := 0) rfl dX4_pickBehind_0 rfl rfl ?_
  refine zf_getR (q := 4) rfl dX4_pickBehind_1 lf_RX4_29 (sc34 hG) rfl ?_
  obtain ⟨r6, s7, es7, h⟩ := zc h
  refine zf_callV (q := 7) (As := []) (rest := []) (st1 := []) rfl dX4_pickBehind_4 lv_RX4_81 (sc23 hG) rfl rfl (Nat.le_of_ble_eq_true rfl) (ok_X1_pickNow hG N (Nat.le_trans (by decide) hd) es7) rfl ?_
  refine zf_iconst (q := 8) rfl dX4_pickBehind_7 ic0 ?_
  refine zf_istore_n (q := 9) (y := (0 : Int32)) (i := 2) (lv1 := [(2, .int (0 : Int32)), (0, .ref (zad G 34)), (1, .int x1)]) rfl dX4_pickBehind_8 rfl (by decide) rfl rfl ?_
  exact zf_sub [1, 2, 0] rfl (ok_X4_pickBehind_9 hG N hd _ _ _ _ h)
