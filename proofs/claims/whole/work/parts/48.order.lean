/-! ===== orders: the least worst, and the least order that has it ===== -/
def zinn (A D s : Nat) : Bool := A.testBit s && !D.testBit s
def zmi (a b : Nat) : Nat := if b < a then b else a
def zfo (P : Nat → Bool) (f : Nat → Nat) (i0 : Nat) : Nat → Nat
  | 0 => i0
  | n + 1 => if P n = true then zmi (zfo P f i0 n) (f n) else zfo P f i0 n
def zhh (A : Nat) (g : Nat → Nat) : Nat → Nat → Nat
  | 0, _ => 0
  | k + 1, D => zfo (zinn A D) (fun s => zmx2 (g (D ||| 2 ^ s)) (zhh A g k (D ||| 2 ^ s))) 1000000 4
theorem zfo_le0 {P : Nat → Bool} {f : Nat → Nat} {i0 : Nat} : ∀ n, zfo P f i0 n ≤ i0
  | 0 => Nat.le_refl _
  | n + 1 => by
    have := zfo_le0 (P := P) (f := f) (i0 := i0) n
    unfold zfo zmi
    split
    · split <;> omega
    · exact this
theorem zfo_le {P : Nat → Bool} {f : Nat → Nat} {i0 s : Nat} (hP : P s = true) : ∀ n, s < n → zfo P f i0 n ≤ f s
  | 0, h => absurd h (Nat.not_lt_zero s)
  | n + 1, h => by
    by_cases e : s = n
    · subst e
      unfold zfo zmi
      rw [if_pos hP]
      split <;> omega
    · have := zfo_le (f := f) (i0 := i0) hP n (by omega)
      unfold zfo zmi
      split
      · split <;> omega
      · exact this
theorem zfo_ex {P : Nat → Bool} {f : Nat → Nat} {i0 : Nat} (hf : ∀ s, f s ≤ i0) : ∀ n, (∃ s, s < n ∧ P s = true) → ∃ s, s < n ∧ P s = true ∧ f s ≤ zfo P f i0 n
  | 0, ⟨s, h, _⟩ => absurd h (Nat.not_lt_zero s)
  | n + 1, ⟨s, h1, h2⟩ => by
    by_cases hn : P n = true
    · have e : zfo P f i0 (n + 1) = zmi (zfo P f i0 n) (f n) := if_pos hn
      rw [e]
      unfold zmi
      by_cases q : f n < zfo P f i0 n
      · rw [if_pos q]; exact ⟨n, by omega, hn, Nat.le_refl _⟩
      · rw [if_neg q]
        by_cases hex : ∃ s, s < n ∧ P s = true
        · obtain ⟨t, t1, t2, t3⟩ := zfo_ex hf n hex
          exact ⟨t, by omega, t2, t3⟩
        · have hz : ∀ m, m ≤ n → zfo P f i0 m = i0 := fun m => by
            induction m with
            | zero => intro _; rfl
            | succ m ih =>
              intro hm
              unfold zfo
              rw [if_neg (fun r => hex ⟨m, by omega, r⟩), ih (by omega)]
          rw [hz n (Nat.le_refl _)] at q ⊢
          exact ⟨n, by omega, hn, hf n⟩
    · have e : zfo P f i0 (n + 1) = zfo P f i0 n := if_neg hn
      rw [e]
      have hs : s ≠ n := fun q => hn (by rw [← q]; exact h2)
      obtain ⟨t, t1, t2, t3⟩ := zfo_ex hf n ⟨s, by omega, h2⟩
      exact ⟨t, by omega, t2, t3⟩
theorem zfo_up {P : Nat → Bool} {f : Nat → Nat} {i0 n : Nat} (h : ∀ s, n ≤ s → P s = false) : ∀ k, zfo P f i0 (n + k) = zfo P f i0 n
  | 0 => rfl
  | k + 1 => by
    show (if P (n + k) = true then zmi (zfo P f i0 (n + k)) (f (n + k)) else zfo P f i0 (n + k)) = zfo P f i0 n
    rw [h (n + k) (by omega), if_neg (by decide)]
    exact zfo_up h k
theorem zhh_le {A : Nat} {g : Nat → Nat} (k D : Nat) : zhh A g k D ≤ 1000000 := by
  cases k with
  | zero => exact Nat.zero_le _
  | succ k => exact zfo_le0 4
/-! sets -/
def zss (A D k : Nat) : Prop := D < 16 ∧ D &&& A = D ∧ zpc D + k = zpc A
theorem zss_step {A D k s : Nat} (hA : A < 16) (h : zss A D (k + 1)) (hs : s < 4) (hi : zinn A D s = true) : zss A (D ||| 2 ^ s) k ∧ D < D ||| 2 ^ s ∧ D ||| 2 ^ s ≤ A := by
  have t1 : ∀ A, A < 16 → ∀ D, D < 16 → ∀ s, s < 4 → D &&& A = D → zinn A D s = true → D ||| 2 ^ s < 16 := by decide +kernel
  have t2 : ∀ A, A < 16 → ∀ D, D < 16 → ∀ s, s < 4 → D &&& A = D → zinn A D s = true → (D ||| 2 ^ s) &&& A = D ||| 2 ^ s := by decide +kernel
  have t4 : ∀ A, A < 16 → ∀ D, D < 16 → ∀ s, s < 4 → D &&& A = D → zinn A D s = true → zpc (D ||| 2 ^ s) = zpc D + 1 := by decide +kernel
  have t5 : ∀ A, A < 16 → ∀ D, D < 16 → ∀ s, s < 4 → D &&& A = D → zinn A D s = true → D < D ||| 2 ^ s := by decide +kernel
  have t3 : ∀ A, A < 16 → ∀ D, D < 16 → ∀ s, s < 4 → D &&& A = D → zinn A D s = true → D ||| 2 ^ s ≤ A := by decide +kernel
  have a := t1 A hA D h.1 s hs h.2.1 hi
  have b := t2 A hA D h.1 s hs h.2.1 hi
  have c := t4 A hA D h.1 s hs h.2.1 hi
  have d := t5 A hA D h.1 s hs h.2.1 hi
  have e := t3 A hA D h.1 s hs h.2.1 hi
  exact ⟨⟨a, b, by have := h.2.2; omega⟩, d, e⟩
theorem zss_end {A D : Nat} (hA : A < 16) (h : zss A D 0) : D = A := by
  have t : ∀ A, A < 16 → ∀ D, D < 16 → D &&& A = D → zpc D = zpc A → D = A := by decide +kernel
  exact t A hA D h.1 h.2.1 h.2.2
theorem zss_ex {A D k : Nat} (hA : A < 16) (h : zss A D (k + 1)) : ∃ s, s < 4 ∧ zinn A D s = true := by
  have t : ∀ A, A < 16 → ∀ D, D < 16 → D &&& A = D → (D = A ∨ ∃ s, s < 4 ∧ zinn A D s = true) := by decide +kernel
  rcases t A hA D h.1 h.2.1 with q | q
  · have := h.2.2; rw [q] at this; omega
  · exact q
theorem zss_of {A D : Nat} (hA : A < 16) (hD : D < 16) (h : D &&& A = D) : zss A D (zpc A - zpc D) := by
  have t : ∀ A, A < 16 → ∀ D, D < 16 → D &&& A = D → zpc D ≤ zpc A := by decide +kernel
  have := t A hA D hD h
  exact ⟨hD, h, by omega⟩
theorem zinn_4 {A D s : Nat} (hA : A < 16) (h : 4 ≤ s) : zinn A D s = false := by
  unfold zinn
  rw [Nat.testBit_lt_two_pow (Nat.lt_of_lt_of_le hA (Nat.pow_le_pow_right (n := 2) (i := 4) (by decide) h))]
  rfl
/-! orders as lists -/
def zwrs (g : Nat → Nat) : Nat → List Nat → Nat
  | _, [] => 0
  | D, s :: t => zmx2 (g (D ||| 2 ^ s)) (zwrs g (D ||| 2 ^ s) t)
def zvld (A : Nat) : Nat → List Nat → Bool
  | D, [] => decide (D = A)
  | D, s :: t => zinn A D s && zvld A (D ||| 2 ^ s) t
theorem zmx2_mono {a b c : Nat} (h : b ≤ c) : zmx2 a b ≤ zmx2 a c := by
  unfold zmx2
  split <;> split <;> omega
theorem zmx2_ge {a b : Nat} : a ≤ zmx2 a b ∧ b ≤ zmx2 a b := by unfold zmx2; split <;> omega
theorem zhh_lb {A : Nat} {g : Nat → Nat} (hA : A < 16) : ∀ (l : List Nat) (D : Nat), zvld A D l = true → zhh A g l.length D ≤ zwrs g D l
  | [], D, _ => Nat.zero_le _
  | s :: t, D, h => by
    unfold zvld at h
    rw [Bool.and_eq_true] at h
    have hs : s < 4 := by
      by_cases q : s < 4
      · exact q
      · rw [zinn_4 hA (by omega)] at h; exact absurd h.1 (by decide)
    have ih := zhh_lb (g := g) hA t (D ||| 2 ^ s) h.2
    have h1 : zhh A g (t.length + 1) D ≤ zmx2 (g (D ||| 2 ^ s)) (zhh A g t.length (D ||| 2 ^ s)) := zfo_le (P := zinn A D) (f := fun s => zmx2 (g (D ||| 2 ^ s)) (zhh A g t.length (D ||| 2 ^ s))) h.1 4 hs
    exact Nat.le_trans h1 (zmx2_mono ih)
def zft (P : Nat → Bool) : Nat → Nat → Nat
  | 0, x => x
  | j + 1, x => zft P j (if P j = true then j else x)
theorem zft_none {P : Nat → Bool} : ∀ j x, (∀ s, s < j → P s = false) → zft P j x = x
  | 0, x, _ => rfl
  | j + 1, x, h => by
    show zft P j (if P j = true then j else x) = x
    rw [h j (by omega), if_neg (by decide)]
    exact zft_none j x (fun s hs => h s (by omega))
theorem zft_spec {P : Nat → Bool} : ∀ j x, (∃ s, s < j ∧ P s = true) → zft P j x < j ∧ P (zft P j x) = true ∧ ∀ s, s < zft P j x → P s = false
  | 0, x, ⟨s, h, _⟩ => absurd h (Nat.not_lt_zero s)
  | j + 1, x, ⟨s, h1, h2⟩ => by
    show zft P j (if P j = true then j else x) < j + 1 ∧ P (zft P j (if P j = true then j else x)) = true ∧ ∀ s, s < zft P j (if P j = true then j else x) → P s = false
    by_cases hex : ∃ s, s < j ∧ P s = true
    · obtain ⟨a, b, c⟩ := zft_spec j (if P j = true then j else x) hex
      exact ⟨by omega, b, c⟩
    · have hno : ∀ s, s < j → P s = false := fun s hs => by
        cases hp : P s with
        | false => rfl
        | true => exact absurd ⟨s, hs, hp⟩ hex
      have hj : P j = true := by
        have : s = j := by
          by_cases q : s < j
          · exact absurd ⟨s, q, h2⟩ hex
          · omega
        rw [← this]; exact h2
      rw [if_pos hj, zft_none j j hno]
      exact ⟨by omega, hj, hno⟩
def zgo (A : Nat) (g : Nat → Nat) (W D k s : Nat) : Bool := zinn A D s && decide (zmx2 (g (D ||| 2 ^ s)) (zhh A g k (D ||| 2 ^ s)) ≤ W)
def zgl (A : Nat) (g : Nat → Nat) (W : Nat) : Nat → Nat → List Nat
  | 0, _ => []
  | k + 1, D => zft (zgo A g W D k) 4 0 :: zgl A g W k (D ||| 2 ^ zft (zgo A g W D k) 4 0)
theorem zgl_first {A : Nat} {g : Nat → Nat} {W : Nat} (hA : A < 16) (hg : ∀ D, g D ≤ 1000000) {k D : Nat} (h : zss A D (k + 1)) (hW : zhh A g (k + 1) D ≤ W) : zft (zgo A g W D k) 4 0 < 4 ∧ zgo A g W D k (zft (zgo A g W D k) 4 0) = true ∧ ∀ s, s < zft (zgo A g W D k) 4 0 → zgo A g W D k s = false := by
  refine zft_spec 4 0 ?_
  obtain ⟨s, h1, h2, h3⟩ := zfo_ex (P := zinn A D) (f := fun s => zmx2 (g (D ||| 2 ^ s)) (zhh A g k (D ||| 2 ^ s))) (i0 := 1000000) (fun s => zmx2_le (hg _) (zhh_le _ _)) 4 (zss_ex hA h)
  refine ⟨s, h1, ?_⟩
  unfold zgo
  rw [h2, Bool.true_and]
  exact decide_eq_true (Nat.le_trans h3 hW)
theorem zgl_ok {A : Nat} {g : Nat → Nat} {W : Nat} (hA : A < 16) (hg : ∀ D, g D ≤ 1000000) : ∀ (k D : Nat), zss A D k → zhh A g k D ≤ W → zvld A D (zgl A g W k D) = true ∧ zwrs g D (zgl A g W k D) ≤ W ∧ (zgl A g W k D).length = k ∧ ∀ s, s ∈ zgl A g W k D → s < 4
  | 0, D, h, hW => by
    refine ⟨?_, Nat.zero_le _, rfl, fun s hs => absurd hs (List.not_mem_nil)⟩
    show decide (D = A) = true
    exact decide_eq_true (zss_end hA h)
  | k + 1, D, h, hW => by
    obtain ⟨f1, f2, f3⟩ := zgl_first hA hg h hW
    obtain ⟨s, hs⟩ : ∃ s, s = zft (zgo A g W D k) 4 0 := ⟨_, rfl⟩
    rw [← hs] at f1 f2 f3
    have f2' := f2
    unfold zgo at f2'
    rw [Bool.and_eq_true] at f2'
    have hle : zmx2 (g (D ||| 2 ^ s)) (zhh A g k (D ||| 2 ^ s)) ≤ W := of_decide_eq_true f2'.2
    have hst := (zss_step hA h f1 f2'.1).1
    have hge := zmx2_ge (a := g (D ||| 2 ^ s)) (b := zhh A g k (D ||| 2 ^ s))
    obtain ⟨i1, i2, i3, i4⟩ := zgl_ok (W := W) hA hg k (D ||| 2 ^ s) hst (by omega)
    have e : zgl A g W (k + 1) D = s :: zgl A g W k (D ||| 2 ^ s) := by
      show zft (zgo A g W D k) 4 0 :: zgl A g W k (D ||| 2 ^ zft (zgo A g W D k) 4 0) = _
      rw [← hs]
    rw [e]
    refine ⟨?_, ?_, ?_, fun t ht => ?_⟩
    · show (zinn A D s && zvld A (D ||| 2 ^ s) (zgl A g W k (D ||| 2 ^ s))) = true
      rw [f2'.1, i1]; rfl
    · exact zmx2_le (by omega) i2
    · rw [List.length_cons, i3]
    · rw [List.mem_cons] at ht
      rcases ht with r | r
      · omega
      · exact i4 t r
def zcdl : List Nat → Nat
  | [] => 0
  | s :: t => s * 4 ^ t.length + zcdl t
theorem zcdl_lt : ∀ (l : List Nat), (∀ s, s ∈ l → s < 4) → zcdl l < 4 ^ l.length
  | [], _ => by decide
  | s :: t, h => by
    have h1 := zcdl_lt t (fun x hx => h x (List.mem_cons_of_mem _ hx))
    have h2 := h s (List.mem_cons_self)
    have h3 : s * 4 ^ t.length ≤ 3 * 4 ^ t.length := Nat.mul_le_mul_right _ (by omega)
    show s * 4 ^ t.length + zcdl t < 4 ^ (t.length + 1)
    rw [Nat.pow_succ]
    omega
theorem zgl_least {A : Nat} {g : Nat → Nat} {W : Nat} (hA : A < 16) (hg : ∀ D, g D ≤ 1000000) : ∀ (k D : Nat) (l : List Nat), zss A D k → zhh A g k D ≤ W → l.length = k → zvld A D l = true → zwrs g D l ≤ W → zcdl (zgl A g W k D) ≤ zcdl l
  | 0, D, l, _, _, _, _, _ => Nat.zero_le _
  | k + 1, D, [], _, _, hl, _, _ => absurd hl (by simp)
  | k + 1, D, t :: r, h, hW, hl, hv, hw => by
    have hlr : r.length = k := by simpa using hl
    obtain ⟨f1, f2, f3⟩ := zgl_first hA hg h hW
    obtain ⟨s, hs⟩ : ∃ s, s = zft (zgo A g W D k) 4 0 := ⟨_, rfl⟩
    rw [← hs] at f1 f2 f3
    have f2' := f2
    unfold zgo at f2'
    rw [Bool.and_eq_true] at f2'
    have hle : zmx2 (g (D ||| 2 ^ s)) (zhh A g k (D ||| 2 ^ s)) ≤ W := of_decide_eq_true f2'.2
    have hge := zmx2_ge (a := g (D ||| 2 ^ s)) (b := zhh A g k (D ||| 2 ^ s))
    have hst := (zss_step hA h f1 f2'.1).1
    have e : zgl A g W (k + 1) D = s :: zgl A g W k (D ||| 2 ^ s) := by
      show zft (zgo A g W D k) 4 0 :: zgl A g W k (D ||| 2 ^ zft (zgo A g W D k) 4 0) = _
      rw [← hs]
    rw [e]
    obtain ⟨i1, i2, i3, i4⟩ := zgl_ok (W := W) hA hg k (D ||| 2 ^ s) hst (by omega)
    have hv' := hv
    unfold zvld at hv'
    rw [Bool.and_eq_true] at hv'
    have ht4 : t < 4 := by
      by_cases q : t < 4
      · exact q
      · rw [zinn_4 hA (by omega)] at hv'; exact absurd hv'.1 (by decide)
    have hw' : zmx2 (g (D ||| 2 ^ t)) (zwrs g (D ||| 2 ^ t) r) ≤ W := hw
    have hgt := zmx2_ge (a := g (D ||| 2 ^ t)) (b := zwrs g (D ||| 2 ^ t) r)
    have hlb := zhh_lb (g := g) hA r (D ||| 2 ^ t) hv'.2
    rw [hlr] at hlb
    have pt : zgo A g W D k t = true := by
      unfold zgo
      rw [hv'.1, Bool.true_and]
      exact decide_eq_true (zmx2_le (by omega) (by omega))
    have hst2 : s ≤ t := by
      by_cases q : s ≤ t
      · exact q
      · rw [f3 t (by omega)] at pt; exact absurd pt (by decide)
    show s * 4 ^ (zgl A g W k (D ||| 2 ^ s)).length + zcdl (zgl A g W k (D ||| 2 ^ s)) ≤ t * 4 ^ r.length + zcdl r
    rw [i3, hlr]
    by_cases q : s = t
    · subst q
      have := zgl_least (W := W) hA hg k (D ||| 2 ^ s) r hst (by omega) hlr hv'.2 (by omega)
      omega
    · have h1 := zcdl_lt _ i4
      rw [i3] at h1
      have h2 : (s + 1) * 4 ^ k ≤ t * 4 ^ k := Nat.mul_le_mul_right _ (by omega)
      rw [Nat.add_mul] at h2
      omega
/-! codes -/
def zlo (o : Nat → Nat) (i : Nat) : Nat → List Nat
  | 0 => []
  | m + 1 => o i :: zlo o (i + 1) m
def zor4 (k c i : Nat) : Nat := c / 4 ^ (k - 1 - i) % 4
def zvb (A : Nat) : Nat → Nat → Nat → Bool → Bool
  | 0, left, _, is => is && decide (left = 0)
  | k + 1, left, met, is => zvb A k (left / 4) (met ||| 2 ^ (left % 4)) (is && (A.testBit (left % 4) && !met.testBit (left % 4)))
theorem zvb_all : ∀ A, A < 16 → ∀ c, c < 256 → zvb A (zpc A) c 0 true = (zvld A 0 (zlo (zor4 (zpc A) c) 0 (zpc A)) && decide (c < 4 ^ zpc A)) := by decide +kernel
theorem zlo_len {o : Nat → Nat} : ∀ (m i : Nat), (zlo o i m).length = m
  | 0, i => rfl
  | m + 1, i => by
    show (zlo o (i + 1) m).length + 1 = m + 1
    rw [zlo_len m (i + 1)]
theorem zcdl_lo {k c : Nat} : ∀ (m i : Nat), i + m = k → zcdl (zlo (zor4 k c) i m) = c % 4 ^ m
  | 0, i, h => by
    show 0 = c % 4 ^ 0
    rw [Nat.pow_zero, Nat.mod_one]
  | m + 1, i, h => by
    show zor4 k c i * 4 ^ (zlo (zor4 k c) (i + 1) m).length + zcdl (zlo (zor4 k c) (i + 1) m) = _
    rw [zlo_len, zcdl_lo m (i + 1) (by omega), Nat.mod_pow_succ]
    unfold zor4
    rw [show k - 1 - i = m by omega, Nat.mul_comm, Nat.add_comm]
theorem zlo_get {o : Nat → Nat} : ∀ (m i j : Nat), j < m → (zlo o i m)[j]? = some (o (i + j))
  | 0, i, j, h => absurd h (Nat.not_lt_zero j)
  | m + 1, i, 0, h => rfl
  | m + 1, i, j + 1, h => by
    show (zlo o (i + 1) m)[j]? = _
    rw [zlo_get m (i + 1) j (by omega)]
    congr 2
    omega
/-- a list of digits is the list of its code -/
theorem zlo_cd {k : Nat} : ∀ (l : List Nat) (i : Nat), i + l.length = k → (∀ s, s ∈ l → s < 4) → ∀ c, c % 4 ^ l.length = zcdl l → zlo (zor4 k c) i l.length = l
  | [], i, _, _, c, _ => rfl
  | s :: t, i, hk, hs, c, hc => by
    have hk' : i + (t.length + 1) = k := hk
    have hc' : c % 4 ^ (t.length + 1) = s * 4 ^ t.length + zcdl t := hc
    have h1 := zcdl_lt t (fun x hx => hs x (List.mem_cons_of_mem _ hx))
    have h2 := hs s (List.mem_cons_self)
    have hp : 0 < 4 ^ t.length := Nat.pow_pos (by decide)
    rw [Nat.mod_pow_succ] at hc'
    have hm := Nat.mod_lt c hp
    have e1 : c / 4 ^ t.length % 4 = s ∧ c % 4 ^ t.length = zcdl t := by
      have hd := Nat.div_add_mod (s * 4 ^ t.length + zcdl t) (4 ^ t.length)
      have q1 : (s * 4 ^ t.length + zcdl t) / 4 ^ t.length = s := by
        rw [Nat.add_comm, Nat.add_mul_div_right _ _ hp, Nat.div_eq_of_lt h1, Nat.zero_add]
      have q2 : (c % 4 ^ t.length + 4 ^ t.length * (c / 4 ^ t.length % 4)) / 4 ^ t.length = c / 4 ^ t.length % 4 := by
        rw [Nat.mul_comm, Nat.add_mul_div_right _ _ hp, Nat.div_eq_of_lt hm, Nat.zero_add]
      rw [hc', q1] at q2
      refine ⟨q2.symm, ?_⟩
      rw [← q2, Nat.mul_comm] at hc'
      omega
    show zor4 k c i :: zlo (zor4 k c) (i + 1) t.length = s :: t
    rw [zlo_cd t (i + 1) (by omega) (fun x hx => hs x (List.mem_cons_of_mem _ hx)) c e1.2]
    congr 1
    unfold zor4
    rw [show k - 1 - i = t.length by omega]
    exact e1.1
theorem zmn_first {p : Nat → Bool} {r : Nat → Nat} : ∀ k b, zmn p r k = some b → ∀ x, x < b → p x = true → r b < r x
  | 0, b, h => by cases h
  | k + 1, b, h => by
    intro x hx hp
    unfold zmn at h
    by_cases hk : p k = true
    · rw [if_pos hk] at h
      cases hz : zmn p r k with
      | none =>
        rw [hz] at h
        cases h
        have := zmn_none _ hz x hx
        rw [this] at hp; exact absurd hp (by decide)
      | some d =>
        rw [hz] at h
        simp only at h
        have hd := zmn_some _ _ hz
        split at h
        · rename_i q
          cases h
          have := hd.2.2 x hx hp
          omega
        · cases h
          exact zmn_first k b hz x hx hp
    · rw [if_neg hk] at h
      exact zmn_first k b h x hx hp
/-- what the reference's search finds -/
theorem zorder_best {A : Nat} {g : Nat → Nat} (hA : A < 16) (hg : ∀ D, g D ≤ 1000000) (hk : 0 < zpc A) : ∃ b, zmn (fun c => zvb A (zpc A) c 0 true) (fun c => zwrs g 0 (zlo (zor4 (zpc A) c) 0 (zpc A))) 256 = some b ∧ zwrs g 0 (zlo (zor4 (zpc A) b) 0 (zpc A)) = zhh A g (zpc A) 0 ∧ zlo (zor4 (zpc A) b) 0 (zpc A) = zgl A g (zhh A g (zpc A) 0) (zpc A) 0 := by
  obtain ⟨k, hk'⟩ : ∃ k, k = zpc A := ⟨_, rfl⟩
  obtain ⟨W, hW⟩ : ∃ W, W = zhh A g k 0 := ⟨_, rfl⟩
  have hk4 : k ≤ 4 := by rw [hk']; exact zpc_le A
  have h4k : 4 ^ k ≤ 256 := Nat.pow_le_pow_right (n := 4) (i := k) (j := 4) (by decide) hk4
  have hs0 : zss A 0 k := by
    have := zss_of hA (show 0 < 16 by decide) (Nat.zero_and A)
    rw [hk']
    exact this
  have hv := fun c (hc : c < 256) => zvb_all A hA c hc
  rw [← hk', ← hW]
  simp only [← hk'] at hv
  obtain ⟨i1, i2, i3, i4⟩ := zgl_ok (W := W) hA hg k 0 hs0 (by omega)
  obtain ⟨L, hL⟩ : ∃ L, L = zgl A g W k 0 := ⟨_, rfl⟩
  rw [← hL] at i1 i2 i3 i4
  have hcl := zcdl_lt L i4
  rw [i3] at hcl
  have e0 : zlo (zor4 k (zcdl L)) 0 k = L := by
    have := zlo_cd (k := k) L 0 (by omega) i4 (zcdl L) (by rw [i3]; exact Nat.mod_eq_of_lt hcl)
    rw [i3] at this
    exact this
  have v0 : zvb A k (zcdl L) 0 true = true := by
    rw [hv (zcdl L) (by omega), e0, i1, decide_eq_true hcl]; rfl
  have lb := zhh_lb (g := g) hA L 0 i1
  rw [i3, ← hW] at lb
  have w0 : zwrs g 0 L = W := by omega
  cases hz : zmn (fun c => zvb A k c 0 true) (fun c => zwrs g 0 (zlo (zor4 k c) 0 k)) 256 with
  | none =>
    have := zmn_none _ hz (zcdl L) (by omega)
    rw [v0] at this; exact absurd this (by decide)
  | some b =>
    obtain ⟨b1, b2, b3⟩ := zmn_some _ _ hz
    have bf := zmn_first _ _ hz
    have b2' : zvb A k b 0 true = true := b2
    rw [hv b b1, Bool.and_eq_true] at b2'
    have hb4 : b < 4 ^ k := of_decide_eq_true b2'.2
    have m1 : zwrs g 0 (zlo (zor4 k b) 0 k) ≤ zwrs g 0 (zlo (zor4 k (zcdl L)) 0 k) := b3 (zcdl L) (by omega) v0
    rw [e0, w0] at m1
    have lb2 := zhh_lb (g := g) hA (zlo (zor4 k b) 0 k) 0 b2'.1
    rw [zlo_len, ← hW] at lb2
    have le := zgl_least (W := W) hA hg k 0 (zlo (zor4 k b) 0 k) hs0 (by omega) (zlo_len k 0) b2'.1 m1
    rw [zcdl_lo k 0 (by omega), Nat.mod_eq_of_lt hb4, ← hL] at le
    have eb : b = zcdl L := by
      by_cases q : b = zcdl L
      · exact q
      · have := bf (zcdl L) (by omega) v0
        have this : zwrs g 0 (zlo (zor4 k b) 0 k) < zwrs g 0 (zlo (zor4 k (zcdl L)) 0 k) := this
        rw [e0, w0] at this
        omega
    refine ⟨b, rfl, by omega, ?_⟩
    rw [eb, e0]
    exact hL
