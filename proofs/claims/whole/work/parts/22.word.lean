/-! ===== lN n to 2^64: shifts, and, or, masks, one bit ===== -/
theorem wb_tb (n : Nat) : (lN n).toBitVec = BitVec.ofNat 64 n := rfl
theorem wb_inj {a b : Int64} (h : a.toBitVec = b.toBitVec) : a = b := Int64.toBitVec_inj.mp h
theorem wb_tn {n : Nat} (h : n < 2 ^ 64) : (lN n).toBitVec.toNat = n := by rw [wb_tb, BitVec.toNat_ofNat, Nat.mod_eq_of_lt h]
theorem wb_of (x : Int64) : ∃ n, n < 2 ^ 64 ∧ x = lN n := ⟨x.toBitVec.toNat, x.toBitVec.isLt, wb_inj (by rw [wb_tb]; simp)⟩
theorem wb_of32 (x : Int32) : ∃ n, n < 2 ^ 32 ∧ x = nI n := ⟨x.toBitVec.toNat, x.toBitVec.isLt, Int32.toBitVec_inj.mp (by show _ = BitVec.ofNat 32 _; simp)⟩
theorem wb_c : ∀ k, k < 64 → ((nI k).toInt64 &&& 63) = lN k := by decide +kernel
theorem wb_cu : ∀ k, k < 64 → ((nI k).toInt64.toUInt64 &&& Int64.toUInt64 63) = UInt64.ofNat k := by decide +kernel
theorem wb_sm : ∀ k, k < 64 → (BitVec.ofNat 64 k).smod 64 = BitVec.ofNat 64 k := by decide +kernel
theorem wb_pw {a b : Nat} (h : a ≤ b) : 2 ^ b = 2 ^ a * 2 ^ (b - a) := by rw [← Nat.pow_add]; congr 1; omega
theorem wb_lt2 {a b : Nat} (h : a < b) : 2 ^ a < 2 ^ b := Nat.pow_lt_pow_right (by decide) h
theorem wb_mod (n : Nat) : lN n = lN (n % 2 ^ 64) := wb_inj (by rw [wb_tb, wb_tb]; apply BitVec.eq_of_toNat_eq; rw [BitVec.toNat_ofNat, BitVec.toNat_ofNat, Nat.mod_mod])
theorem wb_shr {n k : Nat} (hn : n < 2 ^ 64) (hk : k < 64) : ((lN n).toUInt64 >>> ((nI k).toInt64.toUInt64 &&& Int64.toUInt64 63)).toInt64 = lN (n / 2 ^ k) := by
  rw [wb_cu k hk]
  apply wb_inj
  apply BitVec.eq_of_toNat_eq
  show ((lN n).toUInt64 >>> UInt64.ofNat k).toNat = (BitVec.ofNat 64 _).toNat
  have h1 : (UInt64.ofNat k).toNat = k := by
    show (BitVec.ofNat 64 k).toNat = k
    rw [BitVec.toNat_ofNat, Nat.mod_eq_of_lt (by omega)]
  have h2 : (lN n).toUInt64.toNat = n := wb_tn hn
  rw [UInt64.toNat_shiftRight, h1, h2, Nat.mod_eq_of_lt hk, Nat.shiftRight_eq_div_pow, BitVec.toNat_ofNat, Nat.mod_eq_of_lt (Nat.lt_of_le_of_lt (Nat.div_le_self _ _) hn)]
theorem wb_shl (n : Nat) {k : Nat} (hk : k < 64) : lN n <<< ((nI k).toInt64 &&& 63) = lN (n * 2 ^ k) := by
  rw [wb_c k hk]
  apply wb_inj
  rw [Int64.toBitVec_shiftLeft, wb_tb, wb_tb, wb_tb, wb_sm k hk]
  apply BitVec.eq_of_toNat_eq
  rw [BitVec.shiftLeft_eq', BitVec.toNat_shiftLeft, BitVec.toNat_ofNat, BitVec.toNat_ofNat, BitVec.toNat_ofNat, Nat.mod_eq_of_lt (show k < 2 ^ 64 by omega), Nat.shiftLeft_eq, Nat.mul_mod, Nat.mod_mod, ← Nat.mul_mod]
theorem wb_and {a b : Nat} (ha : a < 2 ^ 64) (hb : b < 2 ^ 64) : lN a &&& lN b = lN (a &&& b) := by
  apply wb_inj
  rw [Int64.toBitVec_and, wb_tb, wb_tb, wb_tb]
  apply BitVec.eq_of_toNat_eq
  rw [BitVec.toNat_and, BitVec.toNat_ofNat, BitVec.toNat_ofNat, BitVec.toNat_ofNat, Nat.mod_eq_of_lt ha, Nat.mod_eq_of_lt hb, Nat.mod_eq_of_lt (Nat.and_lt_two_pow _ hb)]
theorem wb_or {a b : Nat} (ha : a < 2 ^ 64) (hb : b < 2 ^ 64) : lN a ||| lN b = lN (a ||| b) := by
  apply wb_inj
  rw [Int64.toBitVec_or, wb_tb, wb_tb, wb_tb]
  apply BitVec.eq_of_toNat_eq
  rw [BitVec.toNat_or, BitVec.toNat_ofNat, BitVec.toNat_ofNat, BitVec.toNat_ofNat, Nat.mod_eq_of_lt ha, Nat.mod_eq_of_lt hb, Nat.mod_eq_of_lt (Nat.or_lt_two_pow ha hb)]
theorem wb_mask {n k : Nat} (hn : n < 2 ^ 64) (hk : k < 64) : lN n &&& lN (2 ^ k - 1) = lN (n % 2 ^ k) := by
  rw [wb_and hn (by have := wb_lt2 hk; omega), Nat.and_two_pow_sub_one_eq_mod]
theorem wb_a1 {n : Nat} (hn : n < 2 ^ 64) : lN n &&& 1 = lN (n % 2) := wb_mask (k := 1) hn (by decide)
theorem wb_bit {n k : Nat} (hn : n < 2 ^ 64) (hk : k < 64) : ((lN n).toUInt64 >>> ((nI k).toInt64.toUInt64 &&& Int64.toUInt64 63)).toInt64 &&& 1 = lN (n / 2 ^ k % 2) := by
  rw [wb_shr hn hk, wb_a1 (Nat.lt_of_le_of_lt (Nat.div_le_self _ _) hn)]
theorem wb_xor {q k : Nat} (hk : k < 63) (h : 2 ^ k ≤ q) (h2 : q < 2 ^ (k + 1)) : lN q ^^^ lN (2 ^ k) = lN (q - 2 ^ k) := by
  obtain ⟨r, rfl⟩ : ∃ r, q = 2 ^ k + r := ⟨q - 2 ^ k, by omega⟩
  have hr : r < 2 ^ k := by rw [Nat.pow_succ] at h2; omega
  have hx : (2 ^ k + r) ^^^ 2 ^ k = r := by
    apply Nat.eq_of_testBit_eq
    intro i
    rw [Nat.testBit_xor, Nat.testBit_two_pow]
    rcases Nat.lt_trichotomy i k with h | h | h
    · rw [Nat.testBit_two_pow_add_gt h]
      simp [show ¬ k = i by omega]
    · subst h
      rw [Nat.testBit_two_pow_add_eq]
      simp
    · have a1 : 2 ^ (k + 1) ≤ 2 ^ i := Nat.pow_le_pow_right (by decide) h
      rw [Nat.testBit_lt_two_pow (show 2 ^ k + r < 2 ^ i by omega), Nat.testBit_lt_two_pow (show r < 2 ^ i by omega)]
      simp [show ¬ k = i by omega]
  have b1 := wb_lt2 (show k + 1 < 64 by omega)
  have b2 := wb_lt2 (show k < 64 by omega)
  apply wb_inj
  rw [Int64.toBitVec_xor, wb_tb, wb_tb, wb_tb]
  apply BitVec.eq_of_toNat_eq
  rw [BitVec.toNat_xor, BitVec.toNat_ofNat, BitVec.toNat_ofNat, BitVec.toNat_ofNat, Nat.mod_eq_of_lt (by omega : 2 ^ k + r < 2 ^ 64), Nat.mod_eq_of_lt b2, hx, Nat.add_sub_cancel_left, Nat.mod_eq_of_lt (by omega)]
/-! ===== lN: masks, 'or' of parts that don't overlap is a sum ===== -/
theorem u_tn {n : Nat} (h : n < 2 ^ 64) : (UInt64.ofNat n).toNat = n := Nat.mod_eq_of_lt h
theorem g_and {a b c : Nat} (ha : a < 2 ^ 64) (hb : b < 2 ^ 64) (hc : a &&& b = c) : lN a &&& lN b = lN c := by
  subst hc
  have h : UInt64.ofNat a &&& UInt64.ofNat b = UInt64.ofNat (a &&& b) := UInt64.toNat_inj.mp (by rw [UInt64.toNat_and, u_tn ha, u_tn hb, u_tn (Nat.and_lt_two_pow a hb)])
  have h2 := congrArg UInt64.toInt64 h
  exact h2
theorem g_and1 {a : Nat} (ha : a < 2 ^ 64) : lN a &&& 1 = lN (a % 2) := g_and (b := 1) ha (by decide) (Nat.and_two_pow_sub_one_eq_mod a 1)
theorem g_mask {a s p : Nat} (hp : 2 ^ s = p) (hs : s < 64) (ha : a < 2 ^ 64) : lN a &&& lN (p - 1) = lN (a % p) := by
  subst hp
  have := Nat.pow_lt_pow_right (show 1 < 2 by decide) hs
  exact g_and ha (by omega) (Nat.and_two_pow_sub_one_eq_mod a s)
theorem g_or {k p a b : Nat} (hp : 2 ^ k = p) (ha : a < p) (h : b * p + a < 2 ^ 64) : lN (b * p) ||| lN a = lN (b * p + a) := by
  subst hp
  have h1 : b * 2 ^ k ||| a = b * 2 ^ k + a := by rw [← Nat.shiftLeft_eq, Nat.shiftLeft_add_eq_or_of_lt ha]
  have h3 : UInt64.ofNat (b * 2 ^ k) ||| UInt64.ofNat a = UInt64.ofNat (b * 2 ^ k + a) := UInt64.toNat_inj.mp (by rw [UInt64.toNat_or, u_tn (by omega), u_tn (by omega), u_tn h, h1])
  have h2 := congrArg UInt64.toInt64 h3
  exact h2
theorem g_or' {k p a b : Nat} (hp : 2 ^ k = p) (ha : a < p) (h : a + b * p < 2 ^ 64) : lN a ||| lN (b * p) = lN (a + b * p) := by
  rw [Int64.or_comm, g_or hp ha (by omega), Nat.add_comm]
theorem g_ushr {a k p : Nat} {y : UInt64} (hy : y = UInt64.ofNat k) (hk : k < 64) (hp : 2 ^ k = p) (ha : a < 2 ^ 64) : ((lN a).toUInt64 >>> y).toInt64 = lN (a / p) := by
  subst hy hp
  have h : UInt64.ofNat a >>> UInt64.ofNat k = UInt64.ofNat (a / 2 ^ k) := UInt64.toNat_inj.mp (by rw [UInt64.toNat_shiftRight, u_tn ha, u_tn (by omega), u_tn (Nat.lt_of_le_of_lt (Nat.div_le_self _ _) ha), Nat.mod_eq_of_lt hk, Nat.shiftRight_eq_div_pow])
  have h2 := congrArg UInt64.toInt64 h
  exact h2
theorem g_shl {a k p : Nat} {y : Int64} (hy : y.toBitVec.smod 64 = BitVec.ofNat 64 k) (hk : k < 64) (hp : 2 ^ k = p) (ha : a < 2 ^ 64) : lN a <<< y = lN (a * p) := by
  subst hp
  apply Int64.toBitVec_inj.mp
  rw [Int64.toBitVec_shiftLeft, hy]
  apply BitVec.eq_of_toNat_eq
  have hb : (lN a).toBitVec.toNat = a := Nat.mod_eq_of_lt ha
  have hk' : (BitVec.ofNat 64 k).toNat = k := Nat.mod_eq_of_lt (by omega)
  have h : ((lN a).toBitVec <<< BitVec.ofNat 64 k).toNat = (a * 2 ^ k) % 2 ^ 64 := by simp only [BitVec.shiftLeft_eq', BitVec.toNat_shiftLeft, hb, hk', Nat.shiftLeft_eq]
  exact h
/-! ===== a word as one long ===== -/
def pn : List Nat → Nat
  | [] => 0
  | a :: p => (a + 1) + 16 * pn p
def zE (p : List Nat) (b : Nat) : Nat := if b ∈ p then 1 else 0
theorem zE_le (p : List Nat) (b : Nat) : zE p b ≤ 1 := by unfold zE; split <;> omega
def mk (p : List Nat) : Nat := zE p 0 + 2 * zE p 1 + 4 * zE p 2 + 8 * zE p 3 + 16 * zE p 4 + 32 * zE p 5 + 64 * zE p 6 + 128 * zE p 7 + 256 * zE p 8 + 512 * zE p 9
theorem mk_le (p : List Nat) : mk p ≤ 1023 := by
  unfold mk
  have h0 := zE_le p 0; have h1 := zE_le p 1; have h2 := zE_le p 2; have h3 := zE_le p 3; have h4 := zE_le p 4
  have h5 := zE_le p 5; have h6 := zE_le p 6; have h7 := zE_le p 7; have h8 := zE_le p 8; have h9 := zE_le p 9
  omega
theorem mk_bit (p : List Nat) {b : Nat} (hb : b < 10) : mk p / 2 ^ b % 2 = zE p b := by
  have h0 := zE_le p 0; have h1 := zE_le p 1; have h2 := zE_le p 2; have h3 := zE_le p 3; have h4 := zE_le p 4
  have h5 := zE_le p 5; have h6 := zE_le p 6; have h7 := zE_le p 7; have h8 := zE_le p 8; have h9 := zE_le p 9
  unfold mk
  rcases (show b = 0 ∨ b = 1 ∨ b = 2 ∨ b = 3 ∨ b = 4 ∨ b = 5 ∨ b = 6 ∨ b = 7 ∨ b = 8 ∨ b = 9 by omega) with rfl | rfl | rfl | rfl | rfl | rfl | rfl | rfl | rfl | rfl <;> omega
theorem zE_cons {p : List Nat} {a : Nat} (h : a ∉ p) (b : Nat) : zE (a :: p) b = if b = a then 1 else zE p b := by
  unfold zE
  by_cases e : b = a
  · subst e; simp
  · simp [e]
theorem mk_cons {p : List Nat} {a : Nat} (h : a ∉ p) (ha : a < 10) : mk (a :: p) = mk p + 2 ^ a := by
  have hz : zE p a = 0 := by unfold zE; rw [if_neg h]
  unfold mk
  simp only [zE_cons h]
  rcases (show a = 0 ∨ a = 1 ∨ a = 2 ∨ a = 3 ∨ a = 4 ∨ a = 5 ∨ a = 6 ∨ a = 7 ∨ a = 8 ∨ a = 9 by omega) with rfl | rfl | rfl | rfl | rfl | rfl | rfl | rfl | rfl | rfl <;> simp <;> omega
theorem mk_one {a : Nat} (ha : a < 10) : mk [a] = 2 ^ a := by
  rw [mk_cons (by simp) ha]
  have : mk [] = 0 := by decide
  omega
theorem pn_lt : ∀ (p : List Nat), (∀ a ∈ p, a < 10) → pn p < 16 ^ p.length
  | [], _ => by decide
  | a :: p, h => by
    have h1 := pn_lt p (fun b hb => h b (List.mem_cons_of_mem _ hb))
    have h2 := h a List.mem_cons_self
    show (a + 1) + 16 * pn p < 16 ^ (p.length + 1)
    rw [Nat.pow_succ]
    omega
theorem pn_40 {p : List Nat} (h : ∀ a ∈ p, a < 10) (hl : p.length ≤ 10) : pn p < 1099511627776 :=
  Nat.lt_of_lt_of_le (pn_lt p h) (Nat.le_trans (Nat.pow_le_pow_right (by decide) hl) (by decide))
theorem pn_36 {p : List Nat} (h : ∀ a ∈ p, a < 10) (hl : p.length ≤ 9) : pn p < 68719476736 :=
  Nat.lt_of_lt_of_le (pn_lt p h) (Nat.le_trans (Nat.pow_le_pow_right (by decide) hl) (by decide))
theorem pn_dig : ∀ (i : Nat) (p : List Nat), (∀ a ∈ p, a < 10) → pn p / 16 ^ i % 16 = match p[i]? with | some a => a + 1 | none => 0
  | 0, [], _ => by simp [pn]
  | 0, a :: p, h => by
    have := h a List.mem_cons_self
    show ((a + 1) + 16 * pn p) / 1 % 16 = a + 1
    omega
  | i + 1, [], _ => by simp [pn]
  | i + 1, a :: p, h => by
    have h1 := pn_dig i p (fun b hb => h b (List.mem_cons_of_mem _ hb))
    have h2 := h a List.mem_cons_self
    show ((a + 1) + 16 * pn p) / 16 ^ (i + 1) % 16 = _
    rw [Nat.pow_succ, Nat.mul_comm (16 ^ i) 16, ← Nat.div_div_eq_div_mul, show ((a + 1) + 16 * pn p) / 16 = pn p by omega, h1]
    rfl
def wn (s nm : Nat) (p : List Nat) : Nat := pn p + (s + 1) * 1099511627776 + nm * 17592186044416 + mk p * 281474976710656
/-- a word that can be -/
def zvw (s nm : Nat) (p : List Nat) : Prop := s < 4 ∧ 1 ≤ nm ∧ nm ≤ 13 ∧ p ≠ [] ∧ p.length ≤ 10 ∧ (∀ a ∈ p, a < 10) ∧ p.Nodup
theorem wn_lt {s nm : Nat} {p : List Nat} (h : zvw s nm p) : wn s nm p < 2 ^ 60 := by
  have h1 := pn_40 h.2.2.2.2.2.1 h.2.2.2.2.1
  have h2 := mk_le p
  have h3 := h.1; have h4 := h.2.2.1
  unfold wn; omega
theorem wn_site {s nm : Nat} {p : List Nat} (h : zvw s nm p) : wn s nm p / 2 ^ 40 % 16 = s + 1 := by
  have h1 := pn_40 h.2.2.2.2.2.1 h.2.2.2.2.1
  have h2 := mk_le p
  have h3 := h.1; have h4 := h.2.2.1
  unfold wn; omega
theorem wn_names {s nm : Nat} {p : List Nat} (h : zvw s nm p) : wn s nm p / 2 ^ 44 % 16 = nm := by
  have h1 := pn_40 h.2.2.2.2.2.1 h.2.2.2.2.1
  have h2 := mk_le p
  have h3 := h.1; have h4 := h.2.2.1
  unfold wn; omega
theorem wn_mask {s nm : Nat} {p : List Nat} (h : zvw s nm p) : wn s nm p / 2 ^ 48 = mk p := by
  have h1 := pn_40 h.2.2.2.2.2.1 h.2.2.2.2.1
  have h2 := mk_le p
  have h3 := h.1; have h4 := h.2.2.1
  unfold wn; omega
theorem wn_bit {s nm : Nat} {p : List Nat} (h : zvw s nm p) {b : Nat} (hb : b < 10) : wn s nm p / 2 ^ (48 + b) % 2 = zE p b := by
  rw [Nat.pow_add, ← Nat.div_div_eq_div_mul, wn_mask h, mk_bit p hb]
theorem wn_way {s nm : Nat} {p : List Nat} (h : zvw s nm p) {i : Nat} (hi : i < 10) : wn s nm p / 2 ^ (4 * i) % 16 = match p[i]? with | some a => a + 1 | none => 0 := by
  rw [← pn_dig i p h.2.2.2.2.2.1]
  unfold wn
  rcases (show i = 0 ∨ i = 1 ∨ i = 2 ∨ i = 3 ∨ i = 4 ∨ i = 5 ∨ i = 6 ∨ i = 7 ∨ i = 8 ∨ i = 9 by omega) with rfl | rfl | rfl | rfl | rfl | rfl | rfl | rfl | rfl | rfl <;> omega
theorem wn_pos {s nm : Nat} {p : List Nat} : 0 < wn s nm p := by unfold wn; omega
/-- two words that are one number are one word -/
theorem pn_inj : ∀ (p q : List Nat), (∀ a ∈ p, a < 10) → (∀ a ∈ q, a < 10) → pn p = pn q → p = q
  | [], [], _, _, _ => rfl
  | [], b :: q, _, _, h => by simp only [pn] at h; omega
  | a :: p, [], _, _, h => by simp only [pn] at h; omega
  | a :: p, b :: q, hp, hq, h => by
    have h1 := hp a List.mem_cons_self
    have h2 := hq b List.mem_cons_self
    simp only [pn] at h
    have e1 : a = b := by omega
    have e2 : pn p = pn q := by omega
    rw [e1, pn_inj p q (fun c hc => hp c (List.mem_cons_of_mem _ hc)) (fun c hc => hq c (List.mem_cons_of_mem _ hc)) e2]
theorem wn_inj {s nm s' nm' : Nat} {p p' : List Nat} (h : zvw s nm p) (h' : zvw s' nm' p') (e : wn s nm p = wn s' nm' p') : s = s' ∧ nm = nm' ∧ p = p' := by
  have a1 := wn_site h; have a2 := wn_site h'; have b1 := wn_names h; have b2 := wn_names h'
  rw [e] at a1 b1
  refine ⟨by omega, by omega, pn_inj p p' h.2.2.2.2.2.1 h'.2.2.2.2.2.1 ?_⟩
  have h1 := pn_40 h.2.2.2.2.2.1 h.2.2.2.2.1
  have h2 := pn_40 h'.2.2.2.2.2.1 h'.2.2.2.2.1
  unfold wn at e; omega
/-! the class's own functions on it -/
theorem zw_siteOf {N : Nat} {s nm : Nat} {p : List Nat} (h : zvw s nm p) (σ : ZM) : f_X2_siteOf N (lN (wn s nm p)) σ = some (nI s, σ) := by
  have hl := wn_lt h
  have e1 : zsrlJ (lN (wn s nm p)) (40 : Int32) = lN (wn s nm p / 2 ^ 40) := wb_shr (n := wn s nm p) (k := 40) (by omega) (by decide)
  have e2 : lN (wn s nm p / 2 ^ 40) &&& (15 : Int64) = lN (s + 1) := by
    rw [show (15 : Int64) = lN (2 ^ 4 - 1) from rfl, wb_mask (by omega) (by decide)]
    have := wn_site h
    rw [show (2 : Nat) ^ 4 = 16 from rfl, this]
  unfold f_X2_siteOf
  rw [e1, e2, lN_i, nI_pred]
theorem zw_namesOf {N : Nat} {s nm : Nat} {p : List Nat} (h : zvw s nm p) (σ : ZM) : f_X2_namesOf N (lN (wn s nm p)) σ = some (nI nm, σ) := by
  have hl := wn_lt h
  have e1 : zsrlJ (lN (wn s nm p)) (44 : Int32) = lN (wn s nm p / 2 ^ 44) := wb_shr (n := wn s nm p) (k := 44) (by omega) (by decide)
  have e2 : lN (wn s nm p / 2 ^ 44) &&& (15 : Int64) = lN nm := by
    rw [show (15 : Int64) = lN (2 ^ 4 - 1) from rfl, wb_mask (by omega) (by decide)]
    have := wn_names h
    rw [show (2 : Nat) ^ 4 = 16 from rfl, this]
  unfold f_X2_namesOf
  rw [e1, e2, lN_i]
theorem zw_passedAt {N : Nat} {s nm : Nat} {p : List Nat} (h : zvw s nm p) (σ : ZM) (i : Int32) : f_X2_passedAt N (lN (wn s nm p)) i σ = some (if h : 0 ≤ i.toInt ∧ i.toInt < 10 then (match p[i.toInt.toNat]? with | some a => nI a | none => -9) else -9, σ) := by
  have hl := wn_lt h
  have c0 : (0 : Int32).toInt = 0 := rfl
  have c10 : (10 : Int32).toInt = 10 := rfl
  unfold f_X2_passedAt
  by_cases h1 : i < 0
  · have := Int32.lt_iff_toInt_lt.mp h1
    rw [if_pos h1, dif_neg (by omega)]
  · have g1 : ¬ i.toInt < (0 : Int32).toInt := fun q => h1 (Int32.lt_iff_toInt_lt.mpr q)
    rw [if_neg h1]
    by_cases h2 : i < (10 : Int32)
    · have g2 := Int32.lt_iff_toInt_lt.mp h2
      obtain ⟨j, hj, rfl, hj3⟩ := zof (n := 10) (x := i) (by omega)
      rw [if_pos h2, dif_pos (by omega), nI_toInt hj3]
      have e0 : (4 : Int32) * nI j = nI (4 * j) := by rw [show (4 : Int32) = nI 4 from rfl, pk_mul]
      have e1 : zsrlJ (lN (wn s nm p)) (nI (4 * j)) = lN (wn s nm p / 2 ^ (4 * j)) := wb_shr (n := wn s nm p) (k := 4 * j) (by omega) (by omega)
      have hd : wn s nm p / 2 ^ (4 * j) < 2 ^ 64 := Nat.lt_of_le_of_lt (Nat.div_le_self _ _) (by omega)
      have e2 : lN (wn s nm p / 2 ^ (4 * j)) &&& (15 : Int64) = lN (wn s nm p / 2 ^ (4 * j) % 16) := by
        rw [show (15 : Int64) = lN (2 ^ 4 - 1) from rfl, wb_mask hd (by decide)]
      have e3 := wn_way h hj
      rw [e0, e1, e2, lN_i, e3]
      have ej : ((j : Nat) : Int).toNat = j := by omega
      rw [ej]
      cases hp : p[j]? with
      | none =>
        simp only [Option.bind_some]
        rw [if_neg (by decide)]
      | some a =>
        have ha : a < 10 := h.2.2.2.2.2.1 a (List.mem_of_getElem? hp)
        simp only [Option.bind_some, nI_pred]
        rw [if_pos (nI_pos' (by omega))]
    · have g2 : ¬ i.toInt < (10 : Int32).toInt := fun q => h2 (Int32.lt_iff_toInt_lt.mpr q)
      rw [if_neg h2, dif_neg (by omega)]
