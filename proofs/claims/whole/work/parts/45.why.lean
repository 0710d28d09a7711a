/-! ===== why ===== -/
def zqj (r : Nat → Nat) (b c j : Nat) : Bool := decide (r c / 32 ^ (3 - j) = r b / 32 ^ (3 - j))
def zct (p : Nat → Bool) (r : Nat → Nat) (b j : Nat) : Nat := zsum (fun c => if (p c && zqj r b c j) = true then 1 else 0) 14
theorem zcountP {p q : Nat → Bool} : ∀ k, List.countP q (zls p k) = zsum (fun c => if (p c && q c) = true then 1 else 0) k
  | 0 => rfl
  | k + 1 => by
    show List.countP q (if p k = true then zls p k ++ [k] else zls p k) = zsum (fun c => if (p c && q c) = true then 1 else 0) k + (if (p k && q k) = true then 1 else 0)
    rw [← zcountP k]
    cases hp : p k with
    | false => rw [if_neg (by decide), Bool.false_and, if_neg (by decide)]; rfl
    | true =>
      rw [if_pos rfl, List.countP_append, Bool.true_and]
      congr 1
      cases hq : q k with
      | false => simp [hq]
      | true => simp [hq]
theorem zct_pos {p : Nat → Bool} {r : Nat → Nat} {b j : Nat} (hb : b < 14) (hp : p b = true) : 1 ≤ zct p r b j := by
  have h : zsum (fun c => if c = b then 1 else 0) 14 ≤ zct p r b j := zsum_mono 14 (fun c hc => by
    show (if c = b then 1 else 0) ≤ (if (p c && zqj r b c j) = true then 1 else 0)
    by_cases e : c = b
    · subst e
      rw [if_pos rfl, hp, if_pos (by unfold zqj; simp)]
      exact Nat.le_refl _
    · rw [if_neg e]; exact Nat.zero_le _)
  have e : ∀ b, b < 14 → zsum (fun c => if c = b then 1 else 0) 14 = 1 := by decide +kernel
  rw [e b hb] at h
  exact h
theorem zct_last {p : Nat → Bool} {r : Nat → Nat} {b : Nat} (hb : b < 14) (hinj : ∀ c, c < 14 → p c = true → r c = r b → c = b) : zct p r b 3 ≤ 1 := by
  have h : zct p r b 3 ≤ zsum (fun c => if c = b then 1 else 0) 14 := zsum_mono 14 (fun c hc => by
    show (if (p c && zqj r b c 3) = true then 1 else 0) ≤ (if c = b then 1 else 0)
    by_cases e : (p c && zqj r b c 3) = true
    · rw [Bool.and_eq_true] at e
      have e2 : r c / 32 ^ (3 - 3) = r b / 32 ^ (3 - 3) := of_decide_eq_true e.2
      rw [show 32 ^ (3 - 3) = 1 from rfl, Nat.div_one, Nat.div_one] at e2
      rw [if_pos (by rw [e.1, e.2]; rfl), if_pos (hinj c hc e.1 e2)]
      exact Nat.le_refl _
    · rw [if_neg e]; exact Nat.zero_le _)
  have e : ∀ b, b < 14 → zsum (fun c => if c = b then 1 else 0) 14 = 1 := by decide +kernel
  rw [e b hb] at h
  exact h
/-! the class -/
theorem zw_alikeC {N : Nat} (hN : 14 < N) {r : Nat → Nat} {L : List Nat} {σ : ZM} (hlen : L.length ≤ 14) (h5 : σ.1 17 5 = nI L.length) (hR : ZR r L σ) (hr : ∀ c, c ∈ L → r c < 2 ^ 31) {v k : Nat} (hv : v < 2 ^ 31) {x : Int32} (hx : ((x &&& 31).toBitVec.smod 32).toNat = k) : f_X2_alike N (nI v) x σ = some (nI (List.countP (fun c => decide (r c / 2 ^ k = v / 2 ^ k)) L), σ) := by
  have := zloopT (fun m (q : Int32 × Int32) => f_X2_alike_5 N m (nI v) x q.1 q.2 σ) (fun i => (nI (List.countP (fun c => decide (r c / 2 ^ k = v / 2 ^ k)) (L.take i)), nI i)) L.length (nI (List.countP (fun c => decide (r c / 2 ^ k = v / 2 ^ k)) (L.take L.length)), σ) (fun m => by
    show b_X2_alike_5 N (f_X2_alike_5 N m) (nI v) x _ (nI L.length) σ = _
    unfold b_X2_alike_5
    rw [h5, if_pos (zle_self (by omega))]) (fun m i hi => by
    show b_X2_alike_5 N (f_X2_alike_5 N m) (nI v) x _ (nI i) σ = f_X2_alike_5 N m (nI v) x (nI (List.countP (fun c => decide (r c / 2 ^ k = v / 2 ^ k)) (L.take (i + 1)))) (nI (i + 1)) σ
    have hg : L[i]? = some L[i] := List.getElem?_eq_getElem hi
    have hm : L[i] ∈ L := List.getElem_mem hi
    have hc := hr _ hm
    have et : L.take (i + 1) = L.take i ++ [L[i]] := (List.take_append_getElem hi).symm
    have d1 : r L[i] / 2 ^ k < 2 ^ 31 := Nat.lt_of_le_of_lt (Nat.div_le_self _ _) hc
    have d2 : v / 2 ^ k < 2 ^ 31 := Nat.lt_of_le_of_lt (Nat.div_le_self _ _) hv
    unfold b_X2_alike_5
    rw [h5, if_neg (nI_ge hi (by omega)), zald_nI (show i < 14 by omega) (by decide), Option.bind_some, hR i _ hg, pk_shrN hc _ k hx, pk_shrN hv _ k hx, et, List.countP_append]
    unfold f_X2_alike_32
    by_cases e : r L[i] / 2 ^ k = v / 2 ^ k
    · rw [if_pos (by rw [e]), Option.bind_some, Option.bind_some, nI_1, nI_1]
      congr 2
      simp [e]
    · rw [if_neg (fun q => e (nI_inj d1 d2 q)), Option.bind_some, nI_1]
      congr 2
      simp [e]) N 0 (by omega) (by omega)
  rw [List.take_length] at this
  exact this
theorem zw_thl {r i : Nat} (hr : r ≤ 3) (hi : i < 3) : zalT (nI r * (3 : Int32) + nI i) = some (nI (zthg r i)) := by
  rcases (show r = 0 ∨ r = 1 ∨ r = 2 ∨ r = 3 by omega) with rfl | rfl | rfl | rfl <;> rcases (show i = 0 ∨ i = 1 ∨ i = 2 by omega) with rfl | rfl | rfl <;> rfl
def zwy (p : Nat → Bool) (r : Nat → Nat) (b rule : Nat) : Nat := if zct p r b 1 = 1 then zthg rule 0 else if zct p r b 2 = 1 then zthg rule 1 else zthg rule 2
theorem zw_needed35 {N : Nat} (hN : 14 < N) {p : Nat → Bool} {r : Nat → Nat} {σ : ZM} (h5 : σ.1 17 5 = nI (zls p 14).length) (hR : ZR r (zls p 14) σ) (hr : ∀ c, p c = true → c < 14 → r c < 2 ^ 31) {n b rule : Nat} (hb : r b < 2 ^ 31) (hn : n < 10) (h18 : σ.1 18 n = nI rule) (hru : rule ≤ 3) : f_X2_needed_35 N N (nI n) (nI (r b)) 0 σ = some (nI (zwy p r b rule), σ) := by
  have hlen := zls_len p 14
  have hmem : ∀ c, c ∈ zls p 14 → r c < 2 ^ 31 := fun c hc => by have := (zls_mem 14).mp hc; exact hr c this.2 this.1
  have c1 : f_X2_alike N (nI (r b)) ((10 : Int32) - ((5 : Int32) * nI 0)) σ = some (nI (zct p r b 1), σ) := by
    rw [zw_alikeC hN hlen h5 hR hmem hb (k := 10) (by decide), zcountP]; rfl
  have c2 : f_X2_alike N (nI (r b)) ((10 : Int32) - ((5 : Int32) * nI 1)) σ = some (nI (zct p r b 2), σ) := by
    rw [zw_alikeC hN hlen h5 hR hmem hb (k := 5) (by decide), zcountP]; rfl
  have l1 : zct p r b 1 ≤ 14 * 1 := zsum_le (fun i => by
    show (if (p i && zqj r b i 1) = true then 1 else 0) ≤ 1
    split <;> omega) 14
  have l2 : zct p r b 2 ≤ 14 * 1 := zsum_le (fun i => by
    show (if (p i && zqj r b i 2) = true then 1 else 0) ≤ 1
    split <;> omega) 14
  obtain ⟨N3, hN3⟩ : ∃ N3, N = N3 + 3 := ⟨N - 3, by omega⟩
  have s2 : f_X2_needed_35 N (N3 + 1) (nI n) (nI (r b)) (nI 2) σ = some (nI (zthg rule 2), σ) := by
    show b_X2_needed_35 N (f_X2_needed_35 N N3) (nI n) (nI (r b)) (nI 2) σ = _
    unfold b_X2_needed_35
    rw [if_pos (by decide), zald_nI hn (by decide), Option.bind_some, h18, show (2 : Int32) = nI 2 from rfl, zw_thl hru (by decide), Option.bind_some]
  have s1 : f_X2_needed_35 N (N3 + 2) (nI n) (nI (r b)) (nI 1) σ = some (nI (if zct p r b 2 = 1 then zthg rule 1 else zthg rule 2), σ) := by
    show b_X2_needed_35 N (f_X2_needed_35 N (N3 + 1)) (nI n) (nI (r b)) (nI 1) σ = _
    unfold b_X2_needed_35
    rw [if_neg (by decide), c2]
    unfold zbd
    rw [Option.bind_some]
    simp only
    by_cases e : zct p r b 2 = 1
    · rw [e, if_pos (show nI 1 = 1 from rfl), if_pos rfl, zald_nI hn (by decide), Option.bind_some, h18, zw_thl hru (by decide), Option.bind_some]
    · rw [if_neg (show ¬ nI (zct p r b 2) = 1 from fun q => e (nI_inj (b := 1) (by omega) (by decide) q)), if_neg e, Option.bind_some, nI_1]
      exact s2
  have s0 : f_X2_needed_35 N (N3 + 3) (nI n) (nI (r b)) (nI 0) σ = some (nI (zwy p r b rule), σ) := by
    show b_X2_needed_35 N (f_X2_needed_35 N (N3 + 2)) (nI n) (nI (r b)) (nI 0) σ = _
    unfold b_X2_needed_35 zwy
    rw [if_neg (by decide), c1]
    unfold zbd
    rw [Option.bind_some]
    simp only
    by_cases e : zct p r b 1 = 1
    · rw [e, if_pos (show nI 1 = 1 from rfl), if_pos rfl, zald_nI hn (by decide), Option.bind_some, h18, zw_thl hru (by decide), Option.bind_some]
    · rw [if_neg (show ¬ nI (zct p r b 1) = 1 from fun q => e (nI_inj (b := 1) (by omega) (by decide) q)), if_neg e, Option.bind_some, nI_1]
      exact s1
  have s0' : f_X2_needed_35 N N (nI n) (nI (r b)) (nI 0) σ = some (nI (zwy p r b rule), σ) := by
    rw [← s0, ← hN3]
  exact s0'
/-! ranks and things -/
theorem zfro_fr3 {κ : AS} {n c d : Nat} (hc : c < 14) (hd : d < 14) : zfro κ n c = zfro κ n d ↔ zfr3 κ n c = zfr3 κ n d := by
  constructor
  · intro h; rw [zfro_inj hc hd h]
  · intro h
    have : c = d := by
      unfold zfr3 at h
      split at h
      · split at h
        · exact h
        · split at h <;> omega
      · split at h
        · split at h <;> omega
        · split at h <;> omega
    rw [this]
theorem zdv {A B C A' B' C' : Nat} (hB : B < 32) (hC : C < 32) (hB' : B' < 32) (hC' : C' < 32) : ((A * 1024 + B * 32 + C) / 1024 = (A' * 1024 + B' * 32 + C') / 1024 ↔ A = A') ∧ ((A * 1024 + B * 32 + C) / 32 = (A' * 1024 + B' * 32 + C') / 32 ↔ A = A' ∧ B = B') ∧ ((A * 1024 + B * 32 + C) = (A' * 1024 + B' * 32 + C') ↔ A = A' ∧ B = B' ∧ C = C') := by
  refine ⟨?_, ?_, ?_⟩ <;> omega
theorem zqj_0 {r : Nat → Nat} {b c : Nat} (hb : r b < 32768) (hc : r c < 32768) : zqj r b c 0 = true := by
  unfold zqj
  apply decide_eq_true
  rw [show 32 ^ (3 - 0) = 32768 from rfl, Nat.div_eq_of_lt hb, Nat.div_eq_of_lt hc]
theorem zqj_s {α κ : AS} {w : WD} (hW : WF α) (hK : KW α κ) (hV : VW α κ w) {n b c i : Nat} (hn : n < α 0 0) (hb : b < 14) (hc : c < 14) (ob : zoffr α κ w n b = true) (oc : zoffr α κ w n c = true) (hi : i < 3) : zqj (zrk α κ w n) b c (i + 1) = true ↔ zqj (zrk α κ w n) b c i = true ∧ zwo α κ w n c (zthg (κ 3 n) i) = zwo α κ w n b (zthg (κ 3 n) i) := by
  have a1 := zpay_le hW n c
  have a2 := zpay_le hW n b
  have b1 := znam_le hW hK hV hn hc oc
  have b2 := znam_le hW hK hV hn hb ob
  have c1 := zfro_le (κ := κ) (n := n) hc
  have c2 := zfro_le (κ := κ) (n := n) hb
  have ff := zfro_fr3 (κ := κ) (n := n) hc hb
  have lc : zrk α κ w n c < 32768 := by
    unfold zrk zrk3
    split
    · omega
    · split <;> omega
  have lb : zrk α κ w n b < 32768 := by
    unfold zrk zrk3
    split
    · omega
    · split <;> omega
  have q0 := zqj_0 (r := zrk α κ w n) lb lc
  have Q1 : zqj (zrk α κ w n) b c 1 = true ↔ zrk α κ w n c / 1024 = zrk α κ w n b / 1024 := decide_eq_true_iff
  have Q2 : zqj (zrk α κ w n) b c 2 = true ↔ zrk α κ w n c / 32 = zrk α κ w n b / 32 := decide_eq_true_iff
  have Q3 : zqj (zrk α κ w n) b c 3 = true ↔ zrk α κ w n c = zrk α κ w n b := by
    unfold zqj
    rw [decide_eq_true_iff, show 32 ^ (3 - 3) = 1 from rfl, Nat.div_one, Nat.div_one]
  unfold zrk zrk3 at Q1 Q2 Q3
  by_cases r2 : κ 3 n = 2
  · rw [if_pos r2, if_pos r2] at Q1 Q2 Q3
    obtain ⟨d1, d2, d3⟩ := zdv (A := znam κ w n c) (B := zpay α n c) (C := zfro κ n c) (A' := znam κ w n b) (B' := zpay α n b) (C' := zfro κ n b) (by omega) (by omega) (by omega) (by omega)
    rw [d1] at Q1
    rw [d2] at Q2
    rw [d3] at Q3
    rw [r2]
    rcases (show i = 0 ∨ i = 1 ∨ i = 2 by omega) with rfl | rfl | rfl
    · show zqj (zrk α κ w n) b c 1 = true ↔ _ ∧ znam κ w n c = znam κ w n b
      unfold zrk zrk3 at q0 ⊢
      rw [Q1]
      exact ⟨fun q => ⟨q0, q⟩, fun q => q.2⟩
    · show zqj (zrk α κ w n) b c 2 = true ↔ zqj (zrk α κ w n) b c 1 = true ∧ zpay α n c = zpay α n b
      unfold zrk zrk3
      rw [Q1, Q2]
    · show zqj (zrk α κ w n) b c 3 = true ↔ zqj (zrk α κ w n) b c 2 = true ∧ zfr3 κ n c = zfr3 κ n b
      unfold zrk zrk3
      rw [Q2, Q3, ff, and_assoc]
  · rw [if_neg r2, if_neg r2] at Q1 Q2 Q3
    by_cases r3 : κ 3 n = 3
    · rw [if_pos r3, if_pos r3] at Q1 Q2 Q3
      obtain ⟨d1, d2, d3⟩ := zdv (A := zpay α n c) (B := zfro κ n c) (C := znam κ w n c) (A' := zpay α n b) (B' := zfro κ n b) (C' := znam κ w n b) (by omega) (by omega) (by omega) (by omega)
      rw [d1] at Q1
      rw [d2] at Q2
      rw [d3] at Q3
      rw [r3]
      rcases (show i = 0 ∨ i = 1 ∨ i = 2 by omega) with rfl | rfl | rfl
      · show zqj (zrk α κ w n) b c 1 = true ↔ _ ∧ zpay α n c = zpay α n b
        unfold zrk zrk3 at q0 ⊢
        rw [Q1]
        exact ⟨fun q => ⟨q0, q⟩, fun q => q.2⟩
      · show zqj (zrk α κ w n) b c 2 = true ↔ zqj (zrk α κ w n) b c 1 = true ∧ zfr3 κ n c = zfr3 κ n b
        unfold zrk zrk3
        rw [Q1, Q2, ff]
      · show zqj (zrk α κ w n) b c 3 = true ↔ zqj (zrk α κ w n) b c 2 = true ∧ znam κ w n c = znam κ w n b
        unfold zrk zrk3
        rw [Q2, Q3, and_assoc]
    · rw [if_neg r3, if_neg r3] at Q1 Q2 Q3
      obtain ⟨d1, d2, d3⟩ := zdv (A := zpay α n c) (B := znam κ w n c) (C := zfro κ n c) (A' := zpay α n b) (B' := znam κ w n b) (C' := zfro κ n b) (by omega) (by omega) (by omega) (by omega)
      rw [d1] at Q1
      rw [d2] at Q2
      rw [d3] at Q3
      have t : ∀ i, zthg (κ 3 n) i = i + 1 := fun i => by unfold zthg; rw [if_neg r2, if_neg r3]
      rw [t]
      rcases (show i = 0 ∨ i = 1 ∨ i = 2 by omega) with rfl | rfl | rfl
      · show zqj (zrk α κ w n) b c 1 = true ↔ _ ∧ zpay α n c = zpay α n b
        unfold zrk zrk3 at q0 ⊢
        rw [Q1]
        exact ⟨fun q => ⟨q0, q⟩, fun q => q.2⟩
      · show zqj (zrk α κ w n) b c 2 = true ↔ zqj (zrk α κ w n) b c 1 = true ∧ znam κ w n c = znam κ w n b
        unfold zrk zrk3
        rw [Q1, Q2]
      · show zqj (zrk α κ w n) b c 3 = true ↔ zqj (zrk α κ w n) b c 2 = true ∧ zfr3 κ n c = zfr3 κ n b
        unfold zrk zrk3
        rw [Q2, Q3, ff, and_assoc]
