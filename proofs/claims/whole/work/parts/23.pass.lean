/-! ===== words from a site, words passed on ===== -/
theorem zhigh {x : Nat} (h : x < 2 ^ 64) : x &&& 18446742974197923840 = x / 2 ^ 40 * 2 ^ 40 := by
  apply Nat.eq_of_testBit_eq
  intro i
  rw [Nat.testBit_and, show (18446742974197923840 : Nat) = (2 ^ 24 - 1) * 2 ^ 40 from rfl, Nat.testBit_mul_two_pow, Nat.testBit_mul_two_pow, Nat.testBit_two_pow_sub_one, Nat.testBit_div_two_pow]
  by_cases h1 : 40 ≤ i
  · have e : 40 + (i - 40) = i := by omega
    by_cases h2 : i < 64
    · simp [h1, show i - 40 < 24 by omega, e, show i - 40 + 40 = i by omega]
    · have : x.testBit i = false := Nat.testBit_lt_two_pow (Nat.lt_of_lt_of_le h (Nat.pow_le_pow_right (by decide) (by omega)))
      simp [this, e, h1, show i - 40 + 40 = i by omega]
  · simp [h1]
theorem zorbit {x k : Nat} (hk : k < 62) (hx : x < 2 ^ 62) (h : x / 2 ^ k % 2 = 0) : lN x ||| lN (2 ^ k) = lN (x + 2 ^ k) := by
  have hp : 2 ^ k < 2 ^ 62 := wb_lt2 hk
  have hd : x / 2 ^ (k + 1) * 2 ^ (k + 1) + x % 2 ^ k = x := by
    have e1 := Nat.div_add_mod x (2 ^ k)
    have e2 := Nat.div_add_mod (x / 2 ^ k) 2
    rw [Nat.div_div_eq_div_mul, ← Nat.pow_succ, h] at e2
    rw [← e2] at e1
    rw [Nat.pow_succ] at *
    have : x / (2 ^ k * 2) * (2 ^ k * 2) = 2 ^ k * (2 * (x / (2 ^ k * 2))) := by rw [Nat.mul_comm (x / (2 ^ k * 2)), Nat.mul_assoc]
    rw [this]
    simpa using e1
  have hlo : x % 2 ^ k < 2 ^ k := Nat.mod_lt _ (Nat.two_pow_pos k)
  have hs : (2 : Nat) ^ (k + 1) = 2 ^ k + 2 ^ k := by rw [Nat.pow_succ]; omega
  have o1 : lN x = lN (x / 2 ^ (k + 1) * 2 ^ (k + 1)) ||| lN (x % 2 ^ k) := by
    rw [g_or (k := k + 1) rfl (by omega) (by omega), hd]
  have o2 : lN (x % 2 ^ k) ||| lN (2 ^ k) = lN (2 ^ k + x % 2 ^ k) := by
    have := g_or' (k := k) (p := 2 ^ k) (a := x % 2 ^ k) (b := 1) rfl hlo (by omega)
    rw [Nat.one_mul] at this
    rw [this, Nat.add_comm]
  rw [o1, Int64.or_assoc, o2, g_or (k := k + 1) rfl (by omega) (by omega)]
  congr 1
  omega
theorem zw_ofSite {N : Nat} {s k m : Nat} (hs : s < 4) (hk : k < 4) (hm : m < 10) (σ : ZM) : f_X2_ofSite N (nI s) (nI k) (nI m) σ = some (lN (wn s (k + 1) [m]), σ) ∧ zvw s (k + 1) [m] := by
  have hv : zvw s (k + 1) [m] := ⟨hs, by omega, by omega, by simp, by simp, by simpa using hm, by simp⟩
  refine ⟨?_, hv⟩
  have e1 : Int32.toInt64 (nI m) + (1 : Int64) = lN (m + 1) := by rw [nI_l (by omega), lN_1]
  have e2 : zshlJ (Int32.toInt64 (nI s) + (1 : Int64)) (40 : Int32) = lN ((s + 1) * 2 ^ 40) := by rw [nI_l (by omega), lN_1]; exact wb_shl (s + 1) (k := 40) (by decide)
  have e3 : zshlJ (Int32.toInt64 (nI k) + (1 : Int64)) (44 : Int32) = lN ((k + 1) * 2 ^ 44) := by rw [nI_l (by omega), lN_1]; exact wb_shl (k + 1) (k := 44) (by decide)
  have e4 : zshlJ (1 : Int64) ((48 : Int32) + nI m) = lN (2 ^ (48 + m)) := by
    rw [show (48 : Int32) = nI 48 from rfl, nI_add]
    have := wb_shl 1 (k := 48 + m) (by omega)
    rw [Nat.one_mul] at this
    exact this
  have o1 : lN (m + 1) ||| lN ((s + 1) * 2 ^ 40) = lN (m + 1 + (s + 1) * 2 ^ 40) := g_or' (k := 40) rfl (by omega) (by omega)
  have o2 : lN (m + 1 + (s + 1) * 2 ^ 40) ||| lN ((k + 1) * 2 ^ 44) = lN (m + 1 + (s + 1) * 2 ^ 40 + (k + 1) * 2 ^ 44) := g_or' (k := 44) rfl (by omega) (by omega)
  have hlt : m + 1 + (s + 1) * 2 ^ 40 + (k + 1) * 2 ^ 44 < 2 ^ 48 := by omega
  have hz : (m + 1 + (s + 1) * 2 ^ 40 + (k + 1) * 2 ^ 44) / 2 ^ (48 + m) % 2 = 0 := by
    rw [Nat.div_eq_of_lt (Nat.lt_of_lt_of_le hlt (Nat.pow_le_pow_right (by decide) (by omega)))]
  have o3 := zorbit (k := 48 + m) (by omega) (by omega) hz
  unfold f_X2_ofSite
  rw [e1, e2, e3, e4, o1, o2, o3]
  congr 3
  unfold wn
  rw [mk_one hm, Nat.pow_add, Nat.mul_comm (2 ^ 48)]
  simp only [pn]
  try omega
theorem zvw_cons {s nm m : Nat} {p : List Nat} (h : zvw s nm p) (hm : m < 10) (hn : m ∉ p) (hnm : nm ≤ 12) (hl : p.length ≤ 9) : zvw s (nm + 1) (m :: p) :=
  ⟨h.1, by omega, by omega, by simp, by simp; omega, fun a ha => (List.mem_cons.mp ha).elim (fun e => by rw [e]; exact hm) (fun e => h.2.2.2.2.2.1 a e), List.nodup_cons.mpr ⟨hn, h.2.2.2.2.2.2⟩⟩
theorem zw_passedOn {N : Nat} {s nm m : Nat} {p : List Nat} (h : zvw s nm p) (hm : m < 10) (hn : m ∉ p) (hnm : nm ≤ 12) (hl : p.length ≤ 9) (σ : ZM) : f_X2_passedOn N (lN (wn s nm p)) (nI m) σ = some (lN (wn s (nm + 1) (m :: p)), σ) := by
  have hp := pn_36 h.2.2.2.2.2.1 hl
  have hk := mk_le p
  have hs := h.1
  have hw := wn_lt h
  have e1 : Int32.toInt64 (nI m) + (1 : Int64) = lN (m + 1) := by rw [nI_l (by omega), lN_1]
  have e4 : zshlJ (1 : Int64) ((48 : Int32) + nI m) = lN (2 ^ (48 + m)) := by
    rw [show (48 : Int32) = nI 48 from rfl, nI_add]
    have := wb_shl 1 (k := 48 + m) (by omega)
    rw [Nat.one_mul] at this
    exact this
  have a1 : lN (wn s nm p) + (17592186044416 : Int64) = lN (wn s nm p + 17592186044416) := by rw [show (17592186044416 : Int64) = lN 17592186044416 from rfl, lN_add]
  have a2 : lN (wn s nm p + 17592186044416) &&& (-1099511627776 : Int64) = lN ((wn s nm p + 17592186044416) / 2 ^ 40 * 2 ^ 40) := by
    rw [show (-1099511627776 : Int64) = lN 18446742974197923840 from rfl, wb_and (by omega) (by decide), zhigh (by omega)]
  have a3 : zshlJ (lN (wn s nm p) &&& (1099511627775 : Int64)) (4 : Int32) = lN (pn p * 2 ^ 4) := by
    have e : lN (wn s nm p) &&& (1099511627775 : Int64) = lN (pn p) := by
      rw [show (1099511627775 : Int64) = lN (2 ^ 40 - 1) from rfl, wb_mask (by omega) (by decide)]
      congr 1
      unfold wn; omega
    rw [e]
    exact wb_shl (pn p) (k := 4) (by decide)
  have hA : (wn s nm p + 17592186044416) / 2 ^ 40 = (s + 1) + (nm + 1) * 16 + mk p * 256 := by unfold wn; omega
  have o1 : lN ((wn s nm p + 17592186044416) / 2 ^ 40 * 2 ^ 40) ||| lN (pn p * 2 ^ 4) = lN ((wn s nm p + 17592186044416) / 2 ^ 40 * 2 ^ 40 + pn p * 2 ^ 4) := g_or (k := 40) rfl (by omega) (by omega)
  have hB : (wn s nm p + 17592186044416) / 2 ^ 40 * 2 ^ 40 + pn p * 2 ^ 4 = (((s + 1) + (nm + 1) * 16 + mk p * 256) * 2 ^ 36 + pn p) * 2 ^ 4 := by rw [hA]; omega
  have o2 : lN ((((s + 1) + (nm + 1) * 16 + mk p * 256) * 2 ^ 36 + pn p) * 2 ^ 4) ||| lN (m + 1) = lN ((((s + 1) + (nm + 1) * 16 + mk p * 256) * 2 ^ 36 + pn p) * 2 ^ 4 + (m + 1)) := g_or (k := 4) rfl (by omega) (by omega)
  have hz : ((((s + 1) + (nm + 1) * 16 + mk p * 256) * 2 ^ 36 + pn p) * 2 ^ 4 + (m + 1)) / 2 ^ (48 + m) % 2 = 0 := by
    rw [Nat.pow_add, ← Nat.div_div_eq_div_mul]
    have e : ((((s + 1) + (nm + 1) * 16 + mk p * 256) * 2 ^ 36 + pn p) * 2 ^ 4 + (m + 1)) / 2 ^ 48 = mk p := by omega
    rw [e, mk_bit p hm]
    unfold zE; rw [if_neg hn]
  have o3 := zorbit (k := 48 + m) (by omega) (by omega) hz
  unfold f_X2_passedOn
  simp only [Option.bind_some]
  rw [a1, a2, a3, e1, e4, o1, hB, o2, o3]
  congr 3
  unfold wn
  rw [mk_cons hn hm, Nat.pow_add, Nat.mul_comm (2 ^ 48)]
  simp only [pn]
  omega
