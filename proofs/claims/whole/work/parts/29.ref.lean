/-! ===== the reference: what comes to a net, and which of it a net takes ===== -/
def MS (α κ : AS) (σ : ZM) : Prop := ∃ (a : Nat) (u k : Nat → Nat), a ≤ 4 ∧ a ≤ α 0 2 ∧ σ.1 0 14 = nI a ∧ (∀ s, 4 ≤ s → κ 0 s = 4) ∧ ∀ s, s < 4 → σ.1 12 s = nI (k s) ∧ σ.1 13 s = nI (κ 1 s) ∧ σ.1 14 s = nI (κ 2 s) ∧ σ.1 15 s = nI (u s) ∧ u s ≤ 1 ∧ k s ≤ 4 ∧ κ 0 s = if s < a ∧ u s = 1 then k s else 4
def zfm (x : Nat × Nat × List Nat) : Nat := match x.2.2[1]? with
  | none => 16 + x.1
  | some q => q
def MW1 (b : Nat) (o : Option (Nat × Nat × List Nat)) (n : Nat) (σ : ZM) : Prop := match o with
  | none => σ.1 b n = -9 ∧ σ.1 (b + 1) n = 0 ∧ σ.1 (b + 2) n = -9 ∧ σ.1 (b + 3) n = 0
  | some x => σ.1 b n = nI x.1 ∧ σ.1 (b + 1) n = nI x.2.1 ∧ σ.1 (b + 2) n = nI (zfm x) ∧ σ.1 (b + 3) n = nI x.2.2.length ∧ ∀ i a, x.2.2[i]? = some a → σ.1 (b + 4) (10 * n + i) = nI a
def MC (α κ : AS) (w : WD) (σ : ZM) : Prop := RM α σ ∧ MS α κ σ ∧ (∀ n, n < α 0 0 → σ.1 16 n = nI (κ 3 n)) ∧ ∀ n, n < α 0 0 → MW1 17 (w n) n σ
theorem RM.fr {α : AS} {σ σ' : ZM} {W : List (Nat × Option Nat)} (h : RM α σ) (hW : zag W σ σ') (h1 : zfree2 TM W = true) (h2 : ((11, none) ∉ W ∧ ∀ i, (11, some i) ∉ W) ∧ ((33, none) ∉ W ∧ ∀ i, (33, some i) ∉ W)) : RM α σ' :=
  ⟨zrt_fr h.1 hW h1, fun s hs => by rw [(hW 11 s h2.1.1 (h2.1.2 s)).1]; exact h.2.1 s hs, fun t ht n hn => by rw [(hW 33 _ h2.2.1 (h2.2.2 _)).1]; exact h.2.2 t ht n hn⟩
theorem RM.tie {α : AS} {σ : ZM} (h : RM α σ) {a b : Nat} (ha : a < 10) (hb : b < 10) : zald σ 1 100 ((10 : Int32) * nI a + nI b) = some (nI (α 1 (10 * a + b))) := by
  rw [(zmul10 a b).2, zald_nI (show 10 * a + b < 100 by omega) (by decide)]
  have := h.at 1 0 1 0 100 (by decide) (i := 10 * a + b) (by omega)
  rw [Nat.zero_add] at this
  rw [this]
theorem RM.home {α : AS} {σ : ZM} (h : RM α σ) {i : Nat} (hi : i < 4) : zald σ 4 4 (nI i) = some (nI (α 4 i)) := by
  rw [zald_nI hi (by decide)]
  have := h.at 4 0 4 0 4 (by decide) hi
  rw [Nat.zero_add] at this
  rw [this]
theorem zw_speaks {N : Nat} {α κ : AS} {σ : ZM} (hW : WF α) (hM : RM α σ) (h : MS α κ σ) {s n : Nat} (hs : s < 4) (hn : n < 10) : f_X9_speaks N (nI s) (nI n) σ = some (zbI (zspk α κ n s = true), σ) := by
  obtain ⟨a, u, k, g1, g2, g3, g4, g5⟩ := h
  obtain ⟨q1, q2, q3, q4, q5, q6, q7⟩ := g5 s hs
  unfold f_X9_speaks zbI zspk
  rw [g3]
  simp only [decide_eq_true_eq]
  by_cases h1 : a ≤ s
  · have : κ 0 s = 4 := by rw [q7, if_neg (by omega)]
    rw [if_pos (nI_le h1 (by omega)), if_neg (fun q => q.1 this)]
  · have hh := hW.2.2.2.2.1 s (by omega)
    have hh2 := hW.1.1
    rw [if_neg (nI_ge (by omega) (by omega)), hM.home hs, Option.bind_some]
    by_cases h2 : α 4 s = n
    · rw [if_pos (by rw [h2]), zald_nI hs (by decide), q4, Option.bind_some]
      rcases (show u s = 0 ∨ u s = 1 by omega) with hu | hu
      · have : κ 0 s = 4 := by rw [q7, if_neg (by omega)]
        rw [hu, if_pos (show nI 0 = 0 from rfl), if_neg (fun q => q.1 this)]
      · have e : κ 0 s = k s := by rw [q7, if_pos ⟨by omega, hu⟩]
        rw [hu, if_neg (show ¬ nI 1 = 0 by decide), zald_nI hs (by decide), q1, Option.bind_some, e]
        by_cases hk : k s = 4
        · rw [if_pos (show nI (k s) = 4 by rw [hk]; rfl), if_neg (fun q => q.1 hk)]
        · rw [if_neg (zk4 hk), if_pos ⟨hk, h2⟩]
    · rw [if_neg (fun q => h2 (nI_inj (by omega) (by omega) q)), if_neg (fun q => h2 q.2)]
theorem zfm_own {x : Nat × Nat × List Nat} (h : zvw x.1 x.2.1 x.2.2) : (zfm x < 16 ↔ ∃ q, x.2.2[1]? = some q) ∧ zfm x < 20 := by
  unfold zfm
  have h1 := h.1
  cases hq : x.2.2[1]? with
  | none => exact ⟨⟨fun q => by simp only at q; omega, fun ⟨q, e⟩ => by cases e⟩, by simp only; omega⟩
  | some q =>
    have hq10 : q < 10 := h.2.2.2.2.2.1 q (List.mem_of_getElem? hq)
    exact ⟨⟨fun _ => ⟨q, rfl⟩, fun _ => by simp only; omega⟩, by simp only; omega⟩
theorem zw_passes {N : Nat} (hN : 14 < N) {α κ : AS} {w : WD} {σ : ZM} (hW : WF α) (hK : KW α κ) (hV : VW α κ w) (h : MC α κ w σ) {m n : Nat} (hm : m < α 0 0) (hn : n < 10) : f_X9_passes N (nI m) (nI n) σ = some (zbI (zpas α κ w n m = true), σ) := by
  obtain ⟨hM, hS, hR, hO⟩ := h
  have hn0 := hW.1.1
  have hm10 : m < 10 := by omega
  have t2 := hW.2.1.1 (10 * m + n)
  obtain ⟨a, u, k, g1, g2, g3, g4, g5⟩ := hS
  have hw1 := hO m hm
  unfold f_X9_passes
  rw [zald_nI hm10 (by decide), Option.bind_some, hM.tie hm10 hn, Option.bind_some]
  by_cases ht : α 1 (10 * m + n) = 0
  · rw [if_pos (show nI (α 1 (10 * m + n)) = 0 by rw [ht]; rfl), zbI_f]
    unfold zpas
    cases w m <;> simp [ht]
  · rw [if_neg (zk0 ht)]
    cases hw : w m with
    | none =>
      rw [hw] at hw1
      rw [hw1.1, if_pos rfl, zbI_f]
      unfold zpas
      rw [hw]; simp
    | some x =>
      rw [hw] at hw1
      obtain ⟨x1, x2, x3, x4, x5⟩ := hw1
      obtain ⟨v1, v2, v3, v4, v5⟩ := hV m x hw
      have hx4 := v2.1
      have hzp : (zpas α κ w n m = true) ↔ zpas2 α κ n m x = true := by unfold zpas; rw [hw]; simp [ht]
      have hzb : zbI (zpas α κ w n m = true) = zbI (zpas2 α κ n m x = true) := by
        unfold zbI
        by_cases q : zpas2 α κ n m x = true
        · rw [if_pos q, if_pos (hzp.mpr q)]
        · rw [if_neg q, if_neg (fun z => q (hzp.mp z))]
      rw [hzb, x1, if_neg (nI_m9 (by omega)), zald_nI hx4 (by decide), Option.bind_some, (g5 x.1 hx4).2.1]
      have hk1 := hK.2.2.1 x.1
      by_cases hb : (κ 1 x.1).testBit n = true
      · rw [if_pos (by rw [zbit1 (by omega) (by omega), hb]), zbI_f (by simp [zpas2, hb])]
      · rw [if_neg (by rw [zbit1 (by omega) (by omega)]; exact hb)]
        have hb : (κ 1 x.1).testBit n = false := by simpa using hb
        -- the way
        have hlen := v2.2.2.2.2.1
        have way : ∀ (f i : Nat), i ≤ x.2.2.length → x.2.2.length < f + i → (∀ t b, t < i → x.2.2[t]? = some b → b ≠ n) → f_X9_passes_46 N f (nI m) (nI n) (nI x.1) (nI i) σ = if n ∈ x.2.2 then some (0, σ) else (if nI (zfm x) < (16 : Int32) then f_X9_passes_97 N (nI m) (nI n) (nI x.1) 0 σ else f_X9_passes_97 N (nI m) (nI n) (nI x.1) 1 σ) := by
          intro f
          induction f with
          | zero => intro i h1 h2; omega
          | succ f ih =>
            intro i h1 h2 h3
            show b_X9_passes_46 N (f_X9_passes_46 N f) (nI m) (nI n) (nI x.1) (nI i) σ = _
            unfold b_X9_passes_46
            rw [zald_nI hm10 (by decide), Option.bind_some, x4]
            by_cases hi : i = x.2.2.length
            · have hno : n ∉ x.2.2 := fun q => by
                obtain ⟨t, ht, ht2⟩ := List.getElem_of_mem q
                exact h3 t n (by omega) (by rw [← ht2]; exact List.getElem?_eq_getElem ht) rfl
              rw [if_pos (by rw [hi]; exact zle_self (by omega)), zald_nI hm10 (by decide), Option.bind_some, x3, if_neg hno]
            · have hil : i < x.2.2.length := by omega
              obtain ⟨b, hb2⟩ : ∃ b, x.2.2[i]? = some b := ⟨x.2.2[i], List.getElem?_eq_getElem hil⟩
              have hb10 : b < 10 := v2.2.2.2.2.2.1 b (List.mem_of_getElem? hb2)
              rw [if_neg (nI_ge hil (by omega)), (zmul10 m i).2, zald_nI (show 10 * m + i < 100 by omega) (by decide), Option.bind_some, x5 i b hb2]
              by_cases hbn : b = n
              · rw [if_pos (by rw [hbn]), if_pos (hbn ▸ List.mem_of_getElem? hb2)]
              · rw [if_neg (fun q => hbn (nI_inj (by omega) (by omega) q)), Option.bind_some, nI_1]
                exact ih (i + 1) (by omega) (by omega) (fun t c ht hc => by
                  by_cases e : t = i
                  · subst e; rw [hb2] at hc; cases hc; exact hbn
                  · exact h3 t c (by omega) hc)
        have hway := way N 0 (by omega) (by omega) (fun t b ht => absurd ht (Nat.not_lt_zero t))
        rw [show (0 : Int32) = nI 0 from rfl, hway]
        by_cases hp : n ∈ x.2.2
        · rw [if_pos hp, zbI_f (by simp [zpas2, hp])]
        · rw [if_neg hp]
          have hn2 := hK.2.2.2.1 x.1
          have hown := zfm_own v2
          cases hq : x.2.2[1]? with
          | none =>
            have : ¬ zfm x < 16 := fun q => by
              obtain ⟨z, hz⟩ := hown.1.mp q
              rw [hq] at hz; cases hz
            rw [if_neg (by rw [show (16 : Int32) = nI 16 from rfl]; exact nI_nlt (by omega) (by omega)), zbI_t (by simp [zpas2, hb, hp, hq])]
            unfold f_X9_passes_97
            rw [zald_nI hx4 (by decide), Option.bind_some, (g5 x.1 hx4).2.2.1, if_neg (show ¬ (1 : Int32) = 0 by decide)]
            split
            · rfl
            · rfl
          | some q =>
            have hq10 : q < 10 := v2.2.2.2.2.2.1 q (List.mem_of_getElem? hq)
            have hf : zfm x = q := by unfold zfm; rw [hq]
            have t1 := hW.2.1.1 (10 * m + q)
            rw [if_pos (by rw [show (16 : Int32) = nI 16 from rfl, hf]; exact nI_lt (by omega) (by decide))]
            unfold f_X9_passes_97
            rw [zald_nI hx4 (by decide), Option.bind_some, (g5 x.1 hx4).2.2.1]
            rcases (show κ 2 x.1 = 0 ∨ κ 2 x.1 = 1 by omega) with h0 | h0
            · rw [h0, if_pos (show nI 0 = 0 from rfl), if_pos rfl, zald_nI hm10 (by decide), Option.bind_some, x3, hf, hM.tie hm10 hq10, Option.bind_some]
              by_cases c1 : α 1 (10 * m + q) = 1
              · rw [if_pos (show nI (α 1 (10 * m + q)) = 1 by rw [c1]; rfl), zbI_t (by simp [zpas2, hb, hp, hq, c1, h0])]
                rfl
              · rw [if_neg (zk1 c1), hM.tie hm10 hn, Option.bind_some]
                by_cases c2 : α 1 (10 * m + n) = 1
                · rw [if_pos (show nI (α 1 (10 * m + n)) = 1 by rw [c2]; rfl), zbI_t (by simp [zpas2, hb, hp, hq, c2, h0])]
                  rfl
                · rw [if_neg (zk1 c2), zbI_f (by simp [zpas2, hb, hp, hq, c1, c2])]
            · rw [h0, if_neg (show ¬ nI 1 = 0 by decide), zbI_f (by simp [zpas2, hb, hp, hq, h0])]
              rfl
/-! what an offer is worth -/
def zfc (c : Nat) : Nat := if c < 4 then 16 + c else c - 4
def zfr3 (κ : AS) (n c : Nat) : Nat := if c < 4 then c else if κ 3 n = 1 then 100 - (c - 4) else 16 + (c - 4)
def zwo (α κ : AS) (w : WD) (n c t : Nat) : Nat := if t = 1 then zpay α n c else if t = 2 then znam κ w n c else zfr3 κ n c
theorem zwo1 {α κ : AS} {w : WD} {n c : Nat} : zwo α κ w n c 1 = zpay α n c := rfl
theorem zwo2 {α κ : AS} {w : WD} {n c : Nat} : zwo α κ w n c 2 = znam κ w n c := rfl
theorem zwo3 {α κ : AS} {w : WD} {n c : Nat} : zwo α κ w n c 3 = zfr3 κ n c := rfl
theorem zfc_lt {c : Nat} (hc : c < 14) : zfc c < 20 ∧ (zfc c < 16 ↔ ¬ c < 4) := by unfold zfc; split <;> omega
theorem zfc_inj {c d : Nat} (hc : c < 14) (hd : d < 14) (h : zfc c = zfc d) : c = d := by unfold zfc at h; split at h <;> split at h <;> omega
theorem zw_worth {N : Nat} {α κ : AS} {w : WD} {σ : ZM} (hW : WF α) (hK : KW α κ) (hV : VW α κ w) (h : MC α κ w σ) {n c t : Nat} (hn : n < α 0 0) (hc : c < 14) (ho : zoffr α κ w n c = true) (ht : t = 1 ∨ t = 2 ∨ t = 3) : f_X9_worth N (nI n) (nI (zfc c)) (nI t) σ = some (nI (zwo α κ w n c t), σ) := by
  obtain ⟨hM, hS, hR, hO⟩ := h
  obtain ⟨a, u, k, g1, g2, g3, g4, g5⟩ := hS
  have hn0 := hW.1.1
  have hn10 : n < 10 := by omega
  have hf := zfc_lt hc
  obtain ⟨o1, o2⟩ := hV.offer hW hK hn hc ho
  unfold f_X9_worth
  by_cases h4 : c < 4
  · have ef : zfc c = 16 + c := by unfold zfc; rw [if_pos h4]
    rw [if_neg (by rw [show (16 : Int32) = nI 16 from rfl]; exact nI_nlt (by omega) (by omega))]
    have hsp : κ 0 c ≠ 4 := by
      have := ho
      unfold zoffr zspk at this
      rw [if_pos h4] at this
      exact (of_decide_eq_true this).1
    have hk : k c = κ 0 c := by
      have q7 := (g5 c h4).2.2.2.2.2.2
      rw [q7] at hsp ⊢
      split at hsp
      · rename_i hh; rw [if_pos hh]
      · exact absurd rfl hsp
    have en : znam κ w n c = κ 0 c + 1 := by unfold znam zofw; rw [if_pos h4]
    have e16 : nI (zfc c) - (16 : Int32) = nI c := by
      rw [ef, show (16 : Int32) = nI 16 from rfl, pk_sub (by omega), Nat.add_sub_cancel_left]
    unfold f_X9_worth_11
    rcases ht with rfl | rfl | rfl
    · rw [if_pos (show nI 1 = 1 from rfl), if_neg (show ¬ (1 : Int32) = 0 by decide), zwo1]
      have : zpay α n c = 0 := by unfold zpay; rw [if_pos h4]
      rw [this]; rfl
    · rw [if_neg (show ¬ nI 2 = 1 by decide), if_pos (show nI 2 = 2 from rfl), if_neg (show ¬ (1 : Int32) = 0 by decide), e16, zald_nI h4 (by decide), Option.bind_some, (g5 c h4).1, hk, zwo2, en, show (1 : Int32) = nI 1 from rfl, nI_add, Nat.add_comm]
    · rw [if_neg (show ¬ nI 3 = 1 by decide), if_neg (show ¬ nI 3 = 2 by decide), if_neg (show ¬ (1 : Int32) = 0 by decide), e16, zwo3]
      have : zfr3 κ n c = c := by unfold zfr3; rw [if_pos h4]
      rw [this]
  · obtain ⟨y, y1, y2, y3, y4, y5, y6, y7, y8⟩ := o2 h4
    have ef : zfc c = c - 4 := by unfold zfc; rw [if_neg h4]
    have hc10 : c - 4 < 10 := by omega
    rw [if_pos (by rw [show (16 : Int32) = nI 16 from rfl]; exact nI_lt (by omega) (by decide)), ef]
    have t1 := hW.2.1.1 (10 * n + (c - 4))
    have ht0 : α 1 (10 * n + (c - 4)) ≠ 0 := fun q => y7 ((hW.tie0 hn10 hc10).mp q)
    have hk := hK.2.2.2.2 n
    unfold f_X9_worth_11
    rcases ht with rfl | rfl | rfl
    · rw [if_pos (show nI 1 = 1 from rfl), if_pos rfl, hM.tie hn10 hc10, Option.bind_some, zwo1]
      have ep : zpay α n c = α 1 (10 * n + (c - 4)) - 1 := by unfold zpay; rw [if_neg h4]
      rw [ep]
      rcases (show α 1 (10 * n + (c - 4)) = 1 ∨ α 1 (10 * n + (c - 4)) = 2 ∨ α 1 (10 * n + (c - 4)) = 3 by omega) with e | e | e
      · rw [e, if_pos (show nI 1 = 1 from rfl)]; rfl
      · rw [e, if_neg (show ¬ nI 2 = 1 by decide), Option.bind_some, if_pos (show nI 2 = 2 from rfl)]; rfl
      · rw [e, if_neg (show ¬ nI 3 = 1 by decide), Option.bind_some, if_neg (show ¬ nI 3 = 2 by decide)]; rfl
    · have hy := hO (c - 4) y5
      rw [y1] at hy
      have en : znam κ w n c = y.2.1 + 1 := by unfold znam; rw [y6]
      rw [if_neg (show ¬ nI 2 = 1 by decide), if_pos (show nI 2 = 2 from rfl), if_pos rfl, zald_nI hc10 (by decide), Option.bind_some, hy.2.1, nI_1, zwo2, en]
    · rw [if_neg (show ¬ nI 3 = 1 by decide), if_neg (show ¬ nI 3 = 2 by decide), if_pos rfl, zald_nI hn10 (by decide), Option.bind_some, hR n hn, zwo3]
      unfold zfr3
      rw [if_neg h4]
      by_cases c1 : κ 3 n = 1
      · rw [if_pos (show nI (κ 3 n) = 1 by rw [c1]; rfl), if_pos c1, show (100 : Int32) = nI 100 from rfl, pk_sub (by omega)]
      · rw [if_neg (zk1 c1), if_neg c1, show (16 : Int32) = nI 16 from rfl, nI_add]
