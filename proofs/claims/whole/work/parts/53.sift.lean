/-! ===== the cases that agree ===== -/
def zMM (α : AS) : Nat := zpr α (α 0 0)
def zfq (α : AS) (c : Nat) : Option Nat := zfi (zbad α (zcr α c)) 0 (α 0 3)
def zok (α : AS) (c : Nat) : Bool := decide (zfq α c = none)
def zLA (α : AS) : List Nat := zls (zok α) (zMM α)
def zqm (α : AS) : Nat → Int32
  | 0 => -9
  | c + 1 => zmax (zqm α c) (zfr (zfq α c))
def zqa (α : AS) : Int32 := if (zLA α).length = 0 then zqm α (zMM α) else -9
def zoc (α : AS) (s v c : Nat) : Option Nat := (zrest α (zkap (α 0 2) (α 6) (fun t => if t = s then v else α 7 t) (α 8) (α 9) (zcr α c))).map fun k => zot (zit α (zkap (α 0 2) (α 6) (fun t => if t = s then v else α 7 t) (α 8) (α 9) (zcr α c)) k) (α 0 0)
def zml (f : Nat → Nat) : List Nat → Nat
  | [] => 0
  | c :: t => zmx2 (f c) (zml f t)
def zga (α : AS) (s v : Nat) : Nat := zml (fun c => List.countP (fun d => decide (zoc α s v d = zoc α s v c)) (zLA α)) (zLA α)
def zvc (α : AS) (x : Nat) : Bool := decide (α 6 (x / 5) = 1 ∧ α 7 (x / 5) ≠ x % 5)
def znb (α : AS) (k : Nat) : Option Nat := zmn (zvc α) (fun x => zga α (x / 5) (x % 5)) k
def Sif (α : AS) (σ : ZM) : Prop := zMM α ≤ 256 ∧ σ.1 38 7 = nI (zLA α).length ∧ (∀ j c, (zLA α)[j]? = some c → σ.1 45 j = nI (zpq α c (α 0 0))) ∧ σ.1 38 8 = zqa α
def Sou (α : AS) (σ : ZM) : Prop := ∃ b, znb α (5 * α 0 2) = some b ∧ σ.1 38 12 = nI (b / 5) ∧ σ.1 38 13 = nI (b % 5) ∧ σ.1 38 14 = nI (zga α (b / 5) (b % 5))
def CaOK (α : AS) (σ : ZM) : Prop := (σ.1 38 15 = 1 ∧ σ.1 38 16 = 0) ∨ (σ.1 38 15 = 0 ∧ Sif α σ ∧ (σ.1 38 16 = 0 ∨ (σ.1 38 16 = 1 ∧ Sou α σ)))
theorem Sif.mv {α : AS} {σ σ' : ZM} (h : Sif α σ) (g : zag zWQ σ σ') : Sif α σ' := ⟨h.1, by rw [(g 38 7 (by decide) (by decide)).1]; exact h.2.1, fun j c q => by rw [(g 45 j (by decide) (by simp)).1]; exact h.2.2.1 j c q, by rw [(g 38 8 (by decide) (by decide)).1]; exact h.2.2.2⟩
theorem CaOK.mv {α : AS} {σ σ' : ZM} (h : CaOK α σ) (e38 : ∀ i, σ'.1 38 i = σ.1 38 i) (e45 : ∀ i, σ'.1 45 i = σ.1 45 i) : CaOK α σ' := by
  unfold CaOK Sif Sou at *
  simp only [e38, e45]
  exact h
theorem zLA_mem {α : AS} {c : Nat} (h : c ∈ zLA α) : c < zMM α ∧ zok α c = true := (zls_mem _).mp h
theorem zLA_len (α : AS) : (zLA α).length ≤ zMM α := zls_len _ _
theorem zls_get_lt {p : Nat → Bool} {k : Nat} {j c : Nat} (h : (zls p k)[j]? = some c) : j < (zls p k).length := (List.getElem?_eq_some_iff.mp h).1
abbrev zWT : List (Nat × Option Nat) := [(17, some 5), (18, none), (19, none), (20, none), (21, none), (22, none), (38, some 7), (38, some 8), (38, some 15), (45, none)]
theorem RC.frT {α : AS} {σ σ' : ZM} (h : RC α σ) (hW : zag zWT σ σ') : RC α σ' := h.fr hW (by decide +kernel) (by decide +kernel) (by decide +kernel) (by decide) (by decide)
theorem zls_s {p : Nat → Bool} {k : Nat} (h : p k = true) : zls p (k + 1) = zls p k ++ [k] := if_pos h
theorem zls_n {p : Nat → Bool} {k : Nat} (h : ¬ p k = true) : zls p (k + 1) = zls p k := if_neg h
theorem zw_sift119 {N : Nat} {α : AS} {σ : ZM} (hM : zMM α ≤ 256) (hC : RC α σ) (h7 : σ.1 38 7 = nI (zLA α).length) (h45 : ∀ j c, (zLA α)[j]? = some c → σ.1 45 j = nI (zpq α c (α 0 0))) (h8 : σ.1 38 8 = zqm α (zMM α)) (h15 : σ.1 38 15 = 0) : ∃ σ', f_X0_sift_119 N σ = some (1, σ') ∧ RC α σ' ∧ σ'.1 38 15 = 0 ∧ Sif α σ' := by
  have hl := zLA_len α
  unfold f_X0_sift_119
  rw [h7]
  by_cases e : (zLA α).length = 0
  · refine ⟨σ, ?_, hC, h15, hM, h7, h45, ?_⟩
    · rw [e, if_pos (by decide)]
    · rw [h8]; unfold zqa; rw [if_pos e]
  · refine ⟨zuI σ 38 8 (-9), ?_, hC.frT (zag_w (W1 := [(38, some 8)]) (by simp) zag_uI), by rw [zuI_n (by simp)]; exact h15, hM, by rw [zuI_n (by simp)]; exact h7, fun j c q => by rw [zuI_n (by simp)]; exact h45 j c q, ?_⟩
    · rw [if_neg (show ¬ nI (zLA α).length ≤ (0 : Int32) from nI_ge (show 0 < (zLA α).length by omega) (by omega))]
      rfl
    · rw [zuI_s]; unfold zqa; rw [if_neg e]
theorem zw_sift51 {N : Nat} (hN : 700 < N) {α : AS} (hW : WF α) (hM : zMM α ≤ 256) : ∀ (k m c : Nat) (σ : ZM), c + k = zMM α → 0 < k → k < m → RC α σ → (∀ n, n < α 0 0 → σ.1 18 n = nI (zcr α c n)) → σ.1 38 7 = nI (zls (zok α) c).length → (∀ j d, (zls (zok α) c)[j]? = some d → σ.1 45 j = nI (zpq α d (α 0 0))) → σ.1 38 8 = zqm α c → σ.1 38 15 = 0 → ∃ σ', f_X0_sift_51 N m 1 (nI c) σ = some (1, σ') ∧ RC α σ' ∧ σ'.1 38 15 = 0 ∧ Sif α σ'
  | 0, m, c, σ, h1, h0, h2, hC, h18, h7, h45, h8, h15 => by omega
  | k + 1, m, c, σ, h1, h0, h2, hC, h18, h7, h45, h8, h15 => by
    obtain ⟨m, rfl⟩ : ∃ q, m = q + 1 := ⟨m - 1, by omega⟩
    have hlen := zls_len (zok α) c
    obtain ⟨s1, a1, a2⟩ := zw_firstQuarrel (N := N) (by omega) hW hC (zcr_le α c) h18
    have hc1 := hC.frS a2
    have k18 : ∀ n, n < α 0 0 → s1.1 18 n = nI (zcr α c n) := fun n hn => by rw [(a2 18 n (by decide) (by simp)).1]; exact h18 n hn
    have k7 : s1.1 38 7 = nI (zls (zok α) c).length := by rw [(a2 38 7 (by decide) (by decide)).1]; exact h7
    have k45 : ∀ j, s1.1 45 j = σ.1 45 j := fun j => (a2 45 j (by decide) (by simp)).1
    have k8 : s1.1 38 8 = zqm α c := by rw [(a2 38 8 (by decide) (by decide)).1]; exact h8
    have k15 : s1.1 38 15 = 0 := by rw [(a2 38 15 (by decide) (by decide)).1]; exact h15
    -- the list
    have mid : ∃ s2, (if zfr (zfq α c) = (-9 : Int32) then (zbd (f_X0_packedRules N s1) fun r8 s9 => (zast s9 45 256 (s1.1 38 7) r8).bind fun s10 => (zpI s10 38 7 ((s10.1 38 7) + (1 : Int32))).bind fun s11 => f_X0_sift_96 N (f_X0_sift_51 N m) (nI c) (zfr (zfq α c)) s11) else (f_X0_sift_96 N (f_X0_sift_51 N m) (nI c) (zfr (zfq α c)) s1)) = f_X0_sift_96 N (f_X0_sift_51 N m) (nI c) (zfr (zfq α c)) s2 ∧ zag [(38, some 7), (45, none)] s1 s2 ∧ s2.1 38 7 = nI (zls (zok α) (c + 1)).length ∧ (∀ j d, (zls (zok α) (c + 1))[j]? = some d → s2.1 45 j = nI (zpq α d (α 0 0))) := by
      by_cases hq : zfq α c = none
      · have ho : zok α c = true := decide_eq_true hq
        obtain ⟨u, hu⟩ : ∃ u, u = zuI (zuI s1 45 (zls (zok α) c).length (nI (zpq α c (α 0 0)))) 38 7 (nI ((zls (zok α) c).length + 1)) := ⟨_, rfl⟩
        refine ⟨u, ?_, ?_, ?_, fun j d hd => ?_⟩
        · rw [hq, if_pos (show zfr none = -9 from rfl), zw_packed (by omega) hW hc1 k18]
          unfold zbd zpI
          rw [Option.bind_some]
          try simp only
          rw [k7, zast_nI (show (zls (zok α) c).length < 256 by omega) (by decide), Option.bind_some, Option.bind_some, zuI_n (show ¬ (38 = 45 ∧ 7 = (zls (zok α) c).length) by omega), k7, nI_1, ← hu]
        · rw [hu]; exact zag_t (zag_w (W1 := [(45, none)]) (by simp) (zag_all zag_uI)) (zag_w (W1 := [(38, some 7)]) (by simp) zag_uI)
        · rw [hu, zuI_s, zls_s ho, List.length_append]; rfl
        · rw [zls_s ho] at hd
          rw [hu, zuI_n (by simp)]
          by_cases e : j < (zls (zok α) c).length
          · rw [List.getElem?_append_left e] at hd
            rw [zuI_n (fun q => by omega), k45]
            exact h45 j d hd
          · have hj : j = (zls (zok α) c).length := by
              have := (List.getElem?_eq_some_iff.mp hd).1
              rw [List.length_append] at this
              have e1 : [c].length = 1 := rfl
              omega
            rw [List.getElem?_append_right (by omega), hj, Nat.sub_self] at hd
            have : c = d := by simpa using hd
            rw [hj, zuI_s, this]
      · have ho : ¬ zok α c = true := fun q => hq (of_decide_eq_true q)
        obtain ⟨t, ht⟩ : ∃ t, zfq α c = some t := by
          cases hz : zfq α c with
          | none => exact absurd hz hq
          | some t => exact ⟨t, rfl⟩
        have ht6 := (zfi_some _ _ _ ht).2.1
        have h36 := hW.1.2.2.2
        refine ⟨s1, ?_, zag_r, by rw [zls_n ho]; exact k7, fun j d hd => ?_⟩
        · rw [ht, if_neg (show ¬ zfr (some t) = -9 from nI_m9 (by omega))]
        · rw [zls_n ho] at hd
          rw [k45]
          exact h45 j d hd
    obtain ⟨s2, b1, b2, b3, b4⟩ := mid
    obtain ⟨s3, hs3⟩ : ∃ s3, s3 = zuI s2 38 8 (zqm α (c + 1)) := ⟨_, rfl⟩
    have b8 : s2.1 38 8 = zqm α c := by rw [(b2 38 8 (by decide) (by decide)).1]; exact k8
    have g3 : zag zWT s1 s3 := by rw [hs3]; exact zag_t (zag_w (by simp) b2) (zag_w (W1 := [(38, some 8)]) (by simp) zag_uI)
    have hc3 := hc1.frT g3
    have k318 : ∀ n, n < α 0 0 → s3.1 18 n = nI (zcr α c n) := fun n hn => by rw [hs3, zuI_n (by simp), (b2 18 n (by decide) (by simp)).1]; exact k18 n hn
    obtain ⟨s4, d1, d2, d3⟩ := zw_takeNextR (N := N) (by omega) hW hc3 (show c < zpr α (α 0 0) by show c < zMM α; omega) k318
    have hc4 := hc3.fr18 d2
    have pre : f_X0_sift_51 N (m + 1) 1 (nI c) σ = f_X0_sift_51 N m (zbI (c + 1 < zpr α (α 0 0))) (nI (c + 1)) s4 := by
      show b_X0_sift_51 N (f_X0_sift_51 N m) 1 (nI c) σ = _
      unfold b_X0_sift_51
      rw [if_neg (by rw [show (256 : Int32) = nI 256 from rfl]; exact nI_ge (by omega) (by omega)), if_neg (by decide), a1]
      unfold zbd at b1 ⊢
      rw [Option.bind_some]
      refine Eq.trans b1 ?_
      unfold f_X0_sift_96 zpI
      rw [Option.bind_some, b8, show zmax (zqm α c) (zfr (zfq α c)) = zqm α (c + 1) from rfl, ← hs3, d1]
      unfold zbd
      rw [Option.bind_some]
      try simp only
      rw [Option.bind_some, nI_1]
    have e7 : s4.1 38 7 = nI (zls (zok α) (c + 1)).length := by rw [(d2 38 7 (by decide) (by decide)).1, hs3, zuI_n (by simp)]; exact b3
    have e45 : ∀ j d, (zls (zok α) (c + 1))[j]? = some d → s4.1 45 j = nI (zpq α d (α 0 0)) := fun j d hd => by rw [(d2 45 j (by decide) (by simp)).1, hs3, zuI_n (by simp)]; exact b4 j d hd
    have e8 : s4.1 38 8 = zqm α (c + 1) := by rw [(d2 38 8 (by decide) (by decide)).1, hs3, zuI_s]
    have e15 : s4.1 38 15 = 0 := by rw [(d2 38 15 (by decide) (by decide)).1, hs3, zuI_n (by simp), (b2 38 15 (by decide) (by decide)).1]; exact k15
    rw [pre]
    by_cases hk : k = 0
    · have hcM : c + 1 = zMM α := by omega
      have hno : ¬ c + 1 < zpr α (α 0 0) := fun q => by have : zMM α = zpr α (α 0 0) := rfl; omega
      rw [zbI_f hno]
      rw [hcM] at e7 e45 e8
      obtain ⟨s9, q1, q2⟩ := zw_sift119 (N := N) hM hc4 e7 e45 e8 e15
      refine ⟨s9, ?_, q2⟩
      obtain ⟨m, rfl⟩ : ∃ q, m = q + 1 := ⟨m - 1, by omega⟩
      show b_X0_sift_51 N (f_X0_sift_51 N m) 0 (nI (c + 1)) s4 = _
      unfold b_X0_sift_51
      rw [if_pos (show (0 : Int32) = 0 from rfl), ite_self]
      exact q1
    · have hyes : c + 1 < zpr α (α 0 0) := by have : zMM α = zpr α (α 0 0) := rfl; omega
      rw [zbI_t hyes]
      exact zw_sift51 hN hW hM k m (c + 1) s4 (by omega) (by omega) (by omega) hc4 (d3 hyes) e7 e45 e8 e15
theorem zMM_pos {α : AS} (hW : WF α) : 0 < zMM α := zpr_pos hW _ (Nat.le_refl _)
theorem zMM_lt {α : AS} (hW : WF α) : zMM α < 2 ^ 30 := Nat.lt_of_le_of_lt (zprod_le4 (fun n => zpc_le _) _) (Nat.lt_of_le_of_lt (Nat.pow_le_pow_right (by decide) hW.1.1) (by decide))
theorem zw_sift {N : Nat} (hN : 700 < N) {α : AS} {σ : ZM} (hW : WF α) (hC : RC α σ) (hK : CaOK α σ) : (256 < zMM α ∧ f_X0_sift N σ = some (0, σ)) ∨ (zMM α ≤ 256 ∧ ∃ σ', f_X0_sift N σ = some (1, σ') ∧ RC α σ' ∧ σ'.1 38 15 = 0 ∧ Sif α σ' ∧ CaOK α σ' ∧ zag zWT σ σ') := by
  have hlt := zMM_lt hW
  have cc : f_X3_caseCount N σ = some (nI (zMM α), σ) := zw_caseCount (by omega) hW hC
  by_cases hM : zMM α ≤ 256
  · refine Or.inr ⟨hM, ?_⟩
    rcases hK with ⟨k1, k2⟩ | ⟨k1, k2, k3⟩
    · obtain ⟨u, hu⟩ : ∃ u, u = zuI (zuI (zuI σ 38 15 0) 38 7 0) 38 8 (-9) := ⟨_, rfl⟩
      have gu : zag zWT σ u := by rw [hu]; exact zag_t (zag_t (zag_w (W1 := [(38, some 15)]) (by simp) zag_uI) (zag_w (W1 := [(38, some 7)]) (by simp) zag_uI)) (zag_w (W1 := [(38, some 8)]) (by simp) zag_uI)
      obtain ⟨s1, a1, a2, a3⟩ := zw_takeLeast (N := N) (by omega) hW (hC.frT gu)
      obtain ⟨s2, b1, b2, b3, b4⟩ := zw_sift51 hN hW hM (zMM α) N 0 s1 (by omega) (zMM_pos hW) (by omega) ((hC.frT gu).fr18 a2) (fun n hn => by rw [a3 n hn, zcr0 hW hn]) (by rw [(a2 38 7 (by decide) (by decide)).1, hu, zuI_n (by simp), zuI_s]; rfl) (fun j d hd => by simp [zls] at hd) (by rw [(a2 38 8 (by decide) (by decide)).1, hu, zuI_s]; rfl) (by rw [(a2 38 15 (by decide) (by decide)).1, hu, zuI_n (by simp), zuI_n (by simp), zuI_s])
      have ef : f_X0_sift N σ = some (1, s2) := by
        unfold f_X0_sift
        rw [cc]
        unfold zbd zpZ zpI
        rw [Option.bind_some]
        try simp only
        rw [if_pos (show nI (zMM α) ≤ (256 : Int32) from nI_le (b := 256) hM (by decide)), k1, if_neg (by decide), if_pos (Or.inl trivial), Option.bind_some, Option.bind_some, Option.bind_some, ← hu, a1, Option.bind_some]
        exact b1
      have fr := fr_X0_sift ef
      exact ⟨s2, ef, b2, b3, b4, Or.inr ⟨b3, b4, Or.inl (by rw [(fr 38 16 (by decide) (by decide)).1]; exact k2)⟩, fr⟩
    · refine ⟨σ, ?_, hC, k1, k2, Or.inr ⟨k1, k2, k3⟩, zag_r⟩
      unfold f_X0_sift
      rw [cc]
      unfold zbd
      rw [Option.bind_some]
      try simp only
      rw [if_pos (show nI (zMM α) ≤ (256 : Int32) from nI_le (b := 256) hM (by decide)), k1, if_pos rfl]
  · refine Or.inl ⟨by omega, ?_⟩
    unfold f_X0_sift
    rw [cc]
    unfold zbd
    rw [Option.bind_some]
    try simp only
    rw [if_neg (show ¬ nI (zMM α) ≤ (256 : Int32) from nI_ge (show 256 < zMM α by omega) (by omega))]
/-! the reference -/
abbrev zWJ : List (Nat × Option Nat) := [(0, some 14), (0, some 30), (0, some 31), (0, some 40), (12, none), (13, none), (14, none), (15, none), (16, none), (17, none), (18, none), (19, none), (20, none), (21, none), (22, none), (23, none), (24, none), (25, none), (26, none), (34, none)]
theorem RM.frJ {α : AS} {σ σ' : ZM} (h : RM α σ) (hW : zag zWJ σ σ') : RM α σ' := h.fr hW (by decide +kernel) ⟨⟨by decide, fun i => by simp⟩, ⟨by decide, fun i => by simp⟩⟩
def Agd (α : AS) (k : Nat) (σ : ZM) : Prop := σ.1 0 40 = nI (zls (zok α) k).length ∧ ∀ j c, (zls (zok α) k)[j]? = some c → σ.1 34 j = nI c
theorem Agd.fr {α : AS} {k : Nat} {σ σ' : ZM} (h : Agd α k σ) (e1 : σ'.1 0 40 = σ.1 0 40) (e2 : ∀ j, σ'.1 34 j = σ.1 34 j) : Agd α k σ' := ⟨by rw [e1]; exact h.1, fun j c q => by rw [e2]; exact h.2 j c q⟩
theorem zw_layAgreed {N : Nat} (hN : 700 < N) {α : AS} {σ : ZM} (hW : WF α) (hM : RM α σ) : ∃ σ', f_X9_layAgreed N σ = some (zbI (zMM α ≤ 256), σ') ∧ RM α σ' ∧ (zMM α ≤ 256 → Agd α (zMM α) σ') := by
  have ht0 := hW.1.2.2.2
  obtain ⟨cm, c1, c2, c3⟩ := zw_caseMany (N := N) (by omega) hW hM
  have c3 : cm = zMM α ∨ (256 < cm ∧ 256 < zMM α) := c3
  obtain ⟨s0, hs0⟩ : ∃ s0, s0 = zuI σ 0 40 0 := ⟨_, rfl⟩
  have z0 : zag zWJ σ s0 := by rw [hs0]; exact zag_w (W1 := [(0, some 40)]) (by simp) zag_uI
  have hm0 := hM.frJ z0
  have pre : f_X9_layAgreed N σ = f_X9_layAgreed_12 N N (nI cm) 0 s0 := by
    unfold f_X9_layAgreed zpI
    rw [c1]
    unfold zbd
    rw [Option.bind_some]
    try simp only
    rw [Option.bind_some, ← hs0]
  by_cases h256 : zMM α ≤ 256
  · have ec : cm = zMM α := by omega
    subst ec
    obtain ⟨m', s', e1, e2, e3, e4⟩ := zloopS (fun m (q : Int32 × ZM) => f_X9_layAgreed_12 N m (nI (zMM α)) q.1 q.2)
      (fun c q => q.1 = nI c ∧ RM α q.2 ∧ Agd α c q.2) (zMM α) (by
      rintro m c ⟨x, s⟩ hc ⟨p1, p2, p3⟩
      simp only at p1 p2 p3
      subst p1
      have hlen := zls_len (zok α) c
      obtain ⟨s1, a1, a2⟩ := zw_agrees (N := N) (by omega) hW p2 (c := c) (f := α 0 3) (by omega) (Nat.le_refl _)
      have hm1 := p2.frO a2
      have ag1 : Agd α c s1 := p3.fr (a2 0 40 (by decide) (by decide)).1 (fun j => (a2 34 j (by decide) (by simp)).1)
      have go : ∀ u, f_X9_layAgreed_56 N (f_X9_layAgreed_12 N m) (nI (zMM α)) (nI c) u = f_X9_layAgreed_12 N m (nI (zMM α)) (nI (c + 1)) u := fun u => by
        unfold f_X9_layAgreed_56
        rw [Option.bind_some, nI_1]
      have pr : f_X9_layAgreed_12 N (m + 1) (nI (zMM α)) (nI c) s = (if zbI (zfq α c = none) = 0 then f_X9_layAgreed_56 N (f_X9_layAgreed_12 N m) (nI (zMM α)) (nI c) s1 else ((zast s1 34 256 (s1.1 0 40) (nI c)).bind fun s4 => (zpI s4 0 40 ((s4.1 0 40) + (1 : Int32))).bind fun s5 => f_X9_layAgreed_56 N (f_X9_layAgreed_12 N m) (nI (zMM α)) (nI c) s5)) := by
        show b_X9_layAgreed_12 N (f_X9_layAgreed_12 N m) (nI (zMM α)) (nI c) s = _
        unfold b_X9_layAgreed_12
        rw [if_neg (nI_ge hc (by omega)), if_neg (show ¬ (256 : Int32) < nI (zMM α) from fun q => by rw [Int32.lt_iff_toInt_lt, nI_toInt (by omega)] at q; have : (256 : Int32).toInt = 256 := rfl; omega), p2.trials, a1]
        rfl
      simp only
      rw [pr]
      by_cases hq : zfq α c = none
      · have ho : zok α c = true := decide_eq_true hq
        obtain ⟨u, hu⟩ : ∃ u, u = zuI (zuI s1 34 (zls (zok α) c).length (nI c)) 0 40 (nI ((zls (zok α) c).length + 1)) := ⟨_, rfl⟩
        refine ⟨(nI (c + 1), u), ?_, rfl, hm1.frJ (by rw [hu]; exact zag_t (zag_w (W1 := [(34, none)]) (by simp) (zag_all zag_uI)) (zag_w (W1 := [(0, some 40)]) (by simp) zag_uI)), ?_, fun j d hd => ?_⟩
        · unfold zpI
          rw [zbI_t hq, if_neg (by decide), ag1.1, zast_nI (show (zls (zok α) c).length < 256 by omega) (by decide), Option.bind_some, Option.bind_some, zuI_n (show ¬ (0 = 34 ∧ 40 = (zls (zok α) c).length) by omega), ag1.1, nI_1, ← hu, go]
        · show u.1 0 40 = _
          rw [hu, zuI_s, zls_s ho, List.length_append]; rfl
        · show u.1 34 j = _
          rw [zls_s ho] at hd
          rw [hu, zuI_n (by simp)]
          by_cases e : j < (zls (zok α) c).length
          · rw [List.getElem?_append_left e] at hd
            rw [zuI_n (fun q => by omega)]
            exact ag1.2 j d hd
          · have hj : j = (zls (zok α) c).length := by
              have := (List.getElem?_eq_some_iff.mp hd).1
              rw [List.length_append] at this
              have e1 : [c].length = 1 := rfl
              omega
            rw [List.getElem?_append_right (by omega), hj, Nat.sub_self] at hd
            have : c = d := by simpa using hd
            rw [hj, zuI_s, this]
      · have ho : ¬ zok α c = true := fun q => hq (of_decide_eq_true q)
        refine ⟨(nI (c + 1), s1), ?_, rfl, hm1, ?_⟩
        · rw [zbI_f hq, if_pos rfl, go]
        · show Agd α (c + 1) s1
          unfold Agd
          rw [zls_n ho]
          exact ag1) N 0 (0, s0) (by omega) (by omega) ⟨rfl, hm0, by show s0.1 0 40 = nI 0; rw [hs0, zuI_s]; rfl, fun j c q => by simp [zls] at q⟩
    obtain ⟨x, s⟩ := s'
    simp only at e1 e2 e3 e4
    subst e2
    refine ⟨s, ?_, e3, fun _ => e4⟩
    rw [pre]
    have e1 : f_X9_layAgreed_12 N N (nI (zMM α)) 0 s0 = f_X9_layAgreed_12 N (m' + 1) (nI (zMM α)) (nI (zMM α)) s := e1
    rw [e1]
    show b_X9_layAgreed_12 N (f_X9_layAgreed_12 N m') (nI (zMM α)) (nI (zMM α)) s = _
    unfold b_X9_layAgreed_12 f_X9_layAgreed_62
    rw [if_pos (nI_le (Nat.le_refl _) (by omega)), if_neg (show ¬ (256 : Int32) < nI (zMM α) from fun q => by rw [Int32.lt_iff_toInt_lt, nI_toInt (by omega)] at q; have : (256 : Int32).toInt = 256 := rfl; omega), zbI_t h256]
  · have hc2 : 256 < cm := by omega
    refine ⟨s0, ?_, hm0, fun q => absurd q h256⟩
    rw [pre]
    obtain ⟨m, rfl⟩ : ∃ m, N = m + 1 := ⟨N - 1, by omega⟩
    show b_X9_layAgreed_12 (m + 1) (f_X9_layAgreed_12 (m + 1) m) (nI cm) 0 s0 = _
    unfold b_X9_layAgreed_12 f_X9_layAgreed_62
    have hgt : (256 : Int32) < nI cm := by rw [Int32.lt_iff_toInt_lt, nI_toInt (by omega)]; show (256 : Int) < cm; omega
    rw [if_neg (show ¬ nI cm ≤ (0 : Int32) from nI_ge (show 0 < cm by omega) (by omega)), if_pos hgt, if_pos hgt, zbI_f h256]
/-! agree, rules, quarrel -/
abbrev zWZ : List (Nat × Option Nat) := [(17, none), (18, none), (19, none), (20, none), (21, none), (22, none), (38, none), (39, none), (40, none), (41, none), (42, none), (43, none), (45, none), (46, none), (47, none)]
/-- a call that asks the cases -/
def zQca {R : Type} (f g : ZM → Option (R × ZM)) : Prop := ∀ (α : AS) (σc σm : ZM), WF α → RC α σc → RM α σm → CaOK α σc → ∃ (r : R) (σc1 σm1 : ZM), f σc = some (r, σc1) ∧ g σm = some (r, σm1) ∧ RC α σc1 ∧ RM α σm1 ∧ CaOK α σc1 ∧ zag zWZ σc σc1
theorem zag_WT {σ σ' : ZM} (h : zag zWT σ σ') : zag zWZ σ σ' := zag_none h (by decide)
theorem zag_WQZ {σ σ' : ZM} (h : zag zWQ σ σ') : zag zWZ σ σ' := zag_none h (by decide)
theorem qu_agree {N : Nat} (hN : 700 < N) : zQca (f_X8_agree N) (f_X9_agree N) := by
  intro α σc σm hW hC hM hK
  obtain ⟨t1, b1, b2, b3⟩ := zw_layAgreed hN hW hM
  unfold f_X8_agree f_X9_agree
  rw [b1]
  rcases zw_sift hN hW hC hK with ⟨h1, h2⟩ | ⟨h1, s1, a1, a2, a3, a4, a5, a6⟩
  · rw [h2, zbI_f (by omega)]
    exact ⟨-5, σc, t1, rfl, rfl, hC, b2, hK, zag_r⟩
  · rw [a1, zbI_t h1]
    refine ⟨nI (zLA α).length, s1, t1, ?_, ?_, a2, b2, a5, zag_WT a6⟩
    · unfold zbd
      rw [Option.bind_some]
      try simp only
      rw [if_neg (by decide), a4.2.1]
    · unfold zbd
      rw [Option.bind_some]
      try simp only
      rw [if_neg (by decide), (b3 h1).1]
      rfl
def zofd (f : Nat → Nat) (L : List Nat) : Nat := L.foldl (fun S c => S ||| f c) 0
theorem zofd_take {f : Nat → Nat} {L : List Nat} {i : Nat} (hi : i < L.length) : zofd f (L.take (i + 1)) = zofd f (L.take i) ||| f L[i] := by
  unfold zofd
  rw [← List.take_append_getElem hi, List.foldl_append]
  rfl
theorem zofd_lt {f : Nat → Nat} {k : Nat} : ∀ (L : List Nat) (S : Nat), S < 2 ^ k → (∀ c, c ∈ L → f c < 2 ^ k) → L.foldl (fun S c => S ||| f c) S < 2 ^ k
  | [], S, h, _ => h
  | c :: t, S, h, g => zofd_lt t (S ||| f c) (Nat.or_lt_two_pow h (g c List.mem_cons_self)) (fun d hd => g d (List.mem_cons_of_mem _ hd))
theorem zp2z (α : AS) (c n : Nat) : 2 ^ zcr α c n < 2 ^ 4 := Nat.pow_lt_pow_right (by decide) (by have := zcr_le α c n; omega)
theorem zw_rulesOf {N : Nat} (hN : 700 < N) {α : AS} {σ : ZM} (hW : WF α) (hS : Sif α σ) {n : Nat} (hn : n < α 0 0) : f_X0_rulesOf N (nI n) σ = some (nI (zofd (fun c => 2 ^ zcr α c n) (zLA α)), σ) := by
  have hn0 := hW.1.1
  have hl := zLA_len α
  have hM := hS.1
  have := zloopT (fun m (q : Int32 × Int32) => f_X0_rulesOf_4 N m (nI n) q.1 q.2 σ) (fun i => (nI (zofd (fun c => 2 ^ zcr α c n) ((zLA α).take i)), nI i)) (zLA α).length (nI (zofd (fun c => 2 ^ zcr α c n) ((zLA α).take (zLA α).length)), σ) (fun m => by
    show b_X0_rulesOf_4 N (f_X0_rulesOf_4 N m) (nI n) _ (nI (zLA α).length) σ = _
    unfold b_X0_rulesOf_4
    rw [hS.2.1, if_pos (nI_le (Nat.le_refl _) (by omega))]) (fun m i hi => by
    show b_X0_rulesOf_4 N (f_X0_rulesOf_4 N m) (nI n) (nI (zofd (fun c => 2 ^ zcr α c n) ((zLA α).take i))) (nI i) σ = f_X0_rulesOf_4 N m (nI n) (nI (zofd (fun c => 2 ^ zcr α c n) ((zLA α).take (i + 1)))) (nI (i + 1)) σ
    have hg : (zLA α)[i]? = some (zLA α)[i] := List.getElem?_eq_getElem hi
    have hb : zofd (fun c => 2 ^ zcr α c n) ((zLA α).take i) < 2 ^ 4 := zofd_lt _ 0 (by decide) (fun c _ => zp2z α c n)
    have hz := zp2z α (zLA α)[i] n
    have z3 := zcr_le α (zLA α)[i] n
    unfold b_X0_rulesOf_4
    rw [hS.2.1, if_neg (nI_ge hi (by omega)), zald_nI (show i < 256 by omega) (by decide), Option.bind_some, hS.2.2.1 i _ hg, zpq_get hW hn, zone (by omega), Option.bind_some, Option.bind_some, zorN (by omega) (by omega), nI_1, zofd_take hi]) N 0 (by omega) (by omega)
  rw [List.take_length] at this
  exact this
theorem zw_rulesLeft {N : Nat} (hN : 700 < N) {α : AS} {σ : ZM} (hW : WF α) (hM : RM α σ) (h256 : zMM α ≤ 256) (hA : Agd α (zMM α) σ) {n : Nat} (hn : n < α 0 0) : ∃ σ', f_X9_rulesLeft N (nI n) σ = some (nI (zofd (fun c => 2 ^ zcr α c n) (zLA α)), σ') ∧ zag [(16, none)] σ σ' := by
  have hn0 := hW.1.1
  have hl := zLA_len α
  obtain ⟨m', s', e1, e2, e3, e4⟩ := zloopS (fun m (q : Int32 × Int32 × ZM) => f_X9_rulesLeft_4 N m (nI n) q.1 q.2.1 q.2.2)
    (fun i q => q.1 = nI (zofd (fun c => 2 ^ zcr α c n) ((zLA α).take i)) ∧ q.2.1 = nI i ∧ zag [(16, none)] σ q.2.2) (zLA α).length (by
    rintro m i ⟨x, y, s⟩ hi ⟨p1, p2, p3⟩
    simp only at p1 p2 p3
    subst p1 p2
    have hms : RM α s := hM.frA (zag_w (by simp) p3)
    have hg : (zLA α)[i]? = some (zLA α)[i] := List.getElem?_eq_getElem hi
    have hcl := (zLA_mem (List.getElem_mem hi)).1
    have hb : zofd (fun c => 2 ^ zcr α c n) ((zLA α).take i) < 2 ^ 4 := zofd_lt _ 0 (by decide) (fun c _ => zp2z α c n)
    have hz := zp2z α (zLA α)[i] n
    have z3 := zcr_le α (zLA α)[i] n
    have s40 : s.1 0 40 = nI (zLA α).length := by rw [(p3 0 40 (by decide) (by decide)).1]; exact hA.1
    have s34 : s.1 34 i = nI (zLA α)[i] := by rw [(p3 34 i (by decide) (by simp)).1]; exact hA.2 i _ hg
    obtain ⟨u, a1, a2, a3, a4⟩ := zw_askCase (N := N) (by omega) hW hms (c := (zLA α)[i]) (by omega)
    refine ⟨(nI (zofd (fun c => 2 ^ zcr α c n) ((zLA α).take (i + 1))), nI (i + 1), u), ?_, rfl, rfl, zag_t p3 a2⟩
    show b_X9_rulesLeft_4 N (f_X9_rulesLeft_4 N m) (nI n) (nI (zofd (fun c => 2 ^ zcr α c n) ((zLA α).take i))) (nI i) s = _
    unfold b_X9_rulesLeft_4
    rw [s40, if_neg (nI_ge hi (by omega)), zald_nI (show i < 256 by omega) (by decide), Option.bind_some, s34, a1]
    unfold zbd
    rw [Option.bind_some]
    try simp only
    rw [zald_nI (show n < 10 by omega) (by decide), Option.bind_some, a4 n hn, zone (by omega), Option.bind_some, Option.bind_some, zorN (by omega) (by omega), nI_1, zofd_take hi]) N 0 (0, 0, σ) (by omega) (by omega) ⟨rfl, rfl, zag_r⟩
  obtain ⟨x, y, s⟩ := s'
  simp only at e1 e2 e3 e4
  subst e2 e3
  refine ⟨s, ?_, e4⟩
  unfold f_X9_rulesLeft
  have e1 : f_X9_rulesLeft_4 N N (nI n) 0 0 σ = f_X9_rulesLeft_4 N (m' + 1) (nI n) (nI (zofd (fun c => 2 ^ zcr α c n) ((zLA α).take (zLA α).length))) (nI (zLA α).length) s := e1
  rw [e1, List.take_length]
  show b_X9_rulesLeft_4 N (f_X9_rulesLeft_4 N m') (nI n) _ (nI (zLA α).length) s = _
  unfold b_X9_rulesLeft_4
  rw [(e4 0 40 (by decide) (by decide)).1, show σ.1 0 40 = nI (zLA α).length from hA.1, if_pos (nI_le (Nat.le_refl _) (by omega))]
theorem qu_rules {N : Nat} (hN : 700 < N) (x : Int32) : zQca (f_X8_rules N x) (f_X9_rules N x) := by
  intro α σc σm hW hC hM hK
  have hn0 := hW.1.1
  unfold f_X8_rules f_X9_rules
  rw [zw_has N x σc hC.nets hn0, zw_isNet N x σm hM.nets hn0]
  unfold zbd
  rw [Option.bind_some, Option.bind_some]
  try simp only
  by_cases hx : 0 ≤ x.toInt ∧ x.toInt < α 0 0
  · obtain ⟨n, hn, rfl, -⟩ := zof hx
    obtain ⟨t1, b1, b2, b3⟩ := zw_layAgreed hN hW hM
    rw [zbI_t hx, if_neg (by decide), if_neg (by decide), b1]
    rcases zw_sift hN hW hC hK with ⟨h1, h2⟩ | ⟨h1, s1, a1, a2, a3, a4, a5, a6⟩
    · rw [h2, zbI_f (by omega)]
      exact ⟨-5, σc, t1, rfl, rfl, hC, b2, hK, zag_r⟩
    · obtain ⟨t2, d1, d2⟩ := zw_rulesLeft hN hW b2 h1 (b3 h1) hn
      rw [a1, zbI_t h1]
      refine ⟨nI (zofd (fun c => 2 ^ zcr α c n) (zLA α)), s1, t2, ?_, ?_, a2, b2.frA (zag_w (by simp) d2), a5, zag_WT a6⟩
      · rw [Option.bind_some]
        try simp only
        rw [if_neg (by decide), zw_rulesOf hN hW a4 hn]
        rfl
      · rw [Option.bind_some]
        try simp only
        rw [if_neg (by decide), d1]
        rfl
  · rw [zbI_f hx, if_pos rfl, if_pos rfl]
    exact ⟨-1, σc, σm, rfl, rfl, hC, hM, hK, zag_r⟩
