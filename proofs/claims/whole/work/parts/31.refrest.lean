/-! ===== the reference: the next words laid and taken ===== -/
def zagN (b n : Nat) (σ σ' : ZM) : Prop := (∀ k i, ¬ (b ≤ k ∧ k < b + 4 ∧ i = n) → ¬ (k = b + 4 ∧ 10 * n ≤ i ∧ i < 10 * n + 10) → σ'.1 k i = σ.1 k i) ∧ σ'.2 = σ.2
theorem zagN.r {b n : Nat} {σ : ZM} : zagN b n σ σ := ⟨fun _ _ _ _ => rfl, rfl⟩
theorem zagN.t {b n : Nat} {σ s1 s2 : ZM} (h : zagN b n σ s1) (g : zagN b n s1 s2) : zagN b n σ s2 := ⟨fun k i h1 h2 => (g.1 k i h1 h2).trans (h.1 k i h1 h2), g.2.trans h.2⟩
theorem zagN.u {b n : Nat} {σ : ZM} {k i : Nat} {v : Int32} (h : (b ≤ k ∧ k < b + 4 ∧ i = n) ∨ (k = b + 4 ∧ 10 * n ≤ i ∧ i < 10 * n + 10)) : zagN b n σ (zuI σ k i v) := by
  refine ⟨fun a j h1 h2 => zuI_n (fun q => ?_), rfl⟩
  obtain ⟨q1, q2⟩ := q
  subst q1 q2
  exact h.elim h1 h2
theorem zagN.w {b n : Nat} {σ σ' : ZM} (h : zagN b n σ σ') {W : List (Nat × Option Nat)} (hW : ∀ k, b ≤ k → k < b + 5 → (k, none) ∈ W) : zag W σ σ' := by
  intro k i h1 h2
  refine ⟨h.1 k i (fun q => h1 (hW k q.1 (by omega))) (fun q => h1 (hW k (by omega) (by omega))), by rw [h.2]⟩
theorem zuI_at {σ : ZM} {k i a j : Nat} {v : Int32} : (zuI σ k i v).1 a j = if a = k ∧ j = i then v else σ.1 a j := by
  by_cases h : a = k ∧ j = i
  · rw [if_pos h, h.1, h.2, zuI_s]
  · rw [if_neg h, zuI_n h]
def MB (α κ : AS) (σ : ZM) : Prop := RM α σ ∧ MS α κ σ ∧ ∀ n, n < α 0 0 → σ.1 16 n = nI (κ 3 n)
theorem MS.fr {α κ : AS} {σ σ' : ZM} {W : List (Nat × Option Nat)} (h : MS α κ σ) (hW : zag W σ σ') (h0 : (0, none) ∉ W ∧ (0, some 14) ∉ W) (h1 : ∀ k, 12 ≤ k → k < 16 → (k, none) ∉ W ∧ ∀ i, (k, some i) ∉ W) : MS α κ σ' := by
  obtain ⟨a, u, k, g1, g2, g3, g4, g5⟩ := h
  refine ⟨a, u, k, g1, g2, by rw [(hW 0 14 h0.1 h0.2).1]; exact g3, g4, fun s hs => ?_⟩
  obtain ⟨q1, q2, q3, q4, q5⟩ := g5 s hs
  refine ⟨?_, ?_, ?_, ?_, q5⟩
  · rw [(hW 12 s (h1 12 (by decide) (by decide)).1 ((h1 12 (by decide) (by decide)).2 s)).1]; exact q1
  · rw [(hW 13 s (h1 13 (by decide) (by decide)).1 ((h1 13 (by decide) (by decide)).2 s)).1]; exact q2
  · rw [(hW 14 s (h1 14 (by decide) (by decide)).1 ((h1 14 (by decide) (by decide)).2 s)).1]; exact q3
  · rw [(hW 15 s (h1 15 (by decide) (by decide)).1 ((h1 15 (by decide) (by decide)).2 s)).1]; exact q4
abbrev zWM : List (Nat × Option Nat) := [(0, some 30), (0, some 31), (17, none), (18, none), (19, none), (20, none), (21, none), (22, none), (23, none), (24, none), (25, none), (26, none)]
theorem MB.fr {α κ : AS} {σ σ' : ZM} (h : MB α κ σ) (hW : zag zWM σ σ') : MB α κ σ' := by
  refine ⟨h.1.fr hW (by decide +kernel) ⟨⟨by decide, fun i => by simp⟩, ⟨by decide, fun i => by simp⟩⟩, h.2.1.fr hW ⟨by decide, by decide⟩ (fun k h1 h2 => ⟨by simp; omega, fun i => by simp; omega⟩), fun n hn => ?_⟩
  rw [(hW 16 n (by decide) (by simp)).1]; exact h.2.2 n hn
theorem zagN.w22 {n : Nat} {σ σ' : ZM} (h : zagN 22 n σ σ') : zag zWM σ σ' := h.w (fun k h1 h2 => by simp; omega)
theorem zagN.w17 {n : Nat} {σ σ' : ZM} (h : zagN 17 n σ σ') : zag zWM σ σ' := h.w (fun k h1 h2 => by simp; omega)
theorem MW1.fr {b b' : Nat} {o : Option (Nat × Nat × List Nat)} {n n' : Nat} {σ σ' : ZM} (h : MW1 b o n σ) (hv : ∀ x, o = some x → x.2.2.length ≤ 10) (hW : zagN b' n' σ σ') (hne : (b = b' ∧ n ≠ n') ∨ b + 5 ≤ b' ∨ b' + 5 ≤ b) : MW1 b o n σ' := by
  have r : ∀ d, d < 4 → σ'.1 (b + d) n = σ.1 (b + d) n := fun d hd => hW.1 _ _ (by omega) (by omega)
  cases o with
  | none =>
    obtain ⟨h1, h2, h3, h4⟩ := h
    exact ⟨by rw [← h1]; exact r 0 (by decide), by rw [← h2]; exact r 1 (by decide), by rw [← h3]; exact r 2 (by decide), by rw [← h4]; exact r 3 (by decide)⟩
  | some x =>
    obtain ⟨h1, h2, h3, h4, h5⟩ := h
    have hl := hv x rfl
    refine ⟨by rw [← h1]; exact r 0 (by decide), by rw [← h2]; exact r 1 (by decide), by rw [← h3]; exact r 2 (by decide), by rw [← h4]; exact r 3 (by decide), fun i a ha => ?_⟩
    have hi : i < x.2.2.length := (List.getElem?_eq_some_iff.mp ha).1
    rw [← h5 i a ha]
    exact hW.1 _ _ (by omega) (by omega)
theorem zfm_ofw {α κ : AS} {w : WD} (hW : WF α) (hK : KW α κ) (hV : VW α κ w) {n c : Nat} (hn : n < α 0 0) (hc : c < 14) (ho : zoffr α κ w n c = true) : zfm (zofw κ w n c) = zfc c := by
  obtain ⟨o1, o2⟩ := hV.offer hW hK hn hc ho
  by_cases h4 : c < 4
  · have : zofw κ w n c = (c, κ 0 c + 1, [n]) := by unfold zofw; rw [if_pos h4]
    rw [this]
    unfold zfm zfc
    rw [if_pos h4]
    rfl
  · obtain ⟨y, y1, y2, y3, y4, y5, y6, y7, y8⟩ := o2 h4
    have hy0 := (hV _ y y1).2.2.1
    have e1 : (zofw κ w n c).2.2[1]? = some (c - 4) := by rw [y6]; exact hy0
    unfold zfm zfc
    rw [e1, if_neg h4]
theorem zw_layNext {N : Nat} (hN : 14 < N) {α κ : AS} {w : WD} {σ : ZM} (hW : WF α) (hK : KW α κ) (hV : VW α κ w) (h : MC α κ w σ) {n : Nat} (hn : n < α 0 0) : ∃ σ', f_X9_layNext N (nI n) σ = some ((), σ') ∧ zagN 22 n σ σ' ∧ MW1 22 (zstep α κ w n) n σ' := by
  have hn0 := hW.1.1
  have hn10 : n < 10 := by omega
  obtain ⟨o, hch, ho⟩ := zw_choice hN hW hK hV h hn
  have hst : zstep α κ w n = o.map (zofw κ w n) := by unfold zstep; rw [if_pos hn, ho]
  rw [hst]
  obtain ⟨s0, hs0⟩ : ∃ s, s = zuI (zuI (zuI (zuI σ 24 n (zco o)) 25 n 0) 22 n (-9)) 23 n 0 := ⟨_, rfl⟩
  have a0 : zagN 22 n σ s0 := by
    rw [hs0]
    exact (((zagN.u (by omega)).t (zagN.u (by omega))).t (zagN.u (by omega))).t (zagN.u (by omega))
  have r0 : s0.1 24 n = zco o ∧ s0.1 25 n = 0 ∧ s0.1 22 n = -9 ∧ s0.1 23 n = 0 := by
    rw [hs0]
    refine ⟨?_, ?_, ?_, ?_⟩ <;> simp [zuI_at]
  have hbeg : f_X9_layNext N (nI n) σ = if zco o = (-9 : Int32) then some ((), s0) else ((zast s0 26 100 ((10 : Int32) * nI n) (nI n)).bind fun s13 => (zast s13 25 10 (nI n) (1 : Int32)).bind fun s14 => zbd (f_X9_worth N (nI n) (zco o) (2 : Int32) s14) fun r15 s16 => (zast s16 23 10 (nI n) r15).bind fun s17 => if zco o < (16 : Int32) then ((zald s17 17 10 (zco o)).bind fun v18 => (zast s17 22 10 (nI n) v18).bind fun s19 => f_X9_layNext_105 N N (nI n) (zco o) (0 : Int32) s19) else ((zast s17 22 10 (nI n) (zco o - (16 : Int32))).bind fun s20 => some ((), s20))) := by
    unfold f_X9_layNext
    rw [hch]
    unfold zbd
    rw [Option.bind_some]
    simp only
    rw [zast_nI hn10 (by decide), Option.bind_some, zast_nI hn10 (by decide), Option.bind_some, zast_nI hn10 (by decide), Option.bind_some, zast_nI hn10 (by decide), Option.bind_some, ← hs0]
  rw [hbeg]
  cases o with
  | none =>
    rw [if_pos (show zco none = -9 from rfl)]
    exact ⟨s0, rfl, a0, r0.2.2.1, r0.2.2.2, r0.1, r0.2.1⟩
  | some c =>
    have hc := zmn_some _ _ ho.symm
    have hfc := zfc_lt hc.1
    have hoff := hc.2.1
    have hc14 := hc.1
    clear ho hst
    have hfm := zfm_ofw hW hK hV hn hc14 hoff
    obtain ⟨o1, o2⟩ := hV.offer hW hK hn hc14 hoff
    have ezc : zco (some c) = nI (zfc c) := rfl
    rw [ezc, if_neg (nI_m9 (by omega)), show (10 : Int32) * nI n = nI (10 * n) by rw [show (10 : Int32) = nI 10 from rfl, pk_mul], zast_nI (show 10 * n < 100 by omega) (by decide), Option.bind_some, zast_nI hn10 (by decide), Option.bind_some]
    obtain ⟨s2, hs2⟩ : ∃ s, s = zuI (zuI s0 26 (10 * n) (nI n)) 25 n 1 := ⟨_, rfl⟩
    rw [← hs2]
    have a2 : zagN 22 n s0 s2 := by
      rw [hs2]; exact (zagN.u (by omega)).t (zagN.u (by omega))
    have mc2 : MC α κ w s2 := by
      have mb : MB α κ s2 := MB.fr ⟨h.1, h.2.1, h.2.2.1⟩ (a0.t a2).w22
      refine ⟨mb.1, mb.2.1, mb.2.2, fun t ht => (h.2.2.2 t ht).fr (fun x hx => (hV t x hx).2.1.2.2.2.2.1) (a0.t a2) (by omega)⟩
    rw [show (2 : Int32) = nI 2 from rfl, zw_worth hW hK hV mc2 hn hc14 hoff (Or.inr (Or.inl rfl)), zwo2]
    unfold zbd
    rw [Option.bind_some]
    simp only
    rw [zast_nI hn10 (by decide), Option.bind_some]
    obtain ⟨s3, hs3⟩ : ∃ s, s = zuI s2 23 n (nI (znam κ w n c)) := ⟨_, rfl⟩
    rw [← hs3]
    have a3 : zagN 22 n s2 s3 := by rw [hs3]; exact zagN.u (by omega)
    have r3 : s3.1 24 n = nI (zfc c) ∧ s3.1 25 n = 1 ∧ s3.1 23 n = nI (znam κ w n c) ∧ s3.1 26 (10 * n) = nI n := by
      rw [hs3, hs2]
      refine ⟨?_, ?_, ?_, ?_⟩
      · simp [zuI_at, r0.1, ezc]
      · simp [zuI_at]
      · simp [zuI_at]
      · simp [zuI_at]
    by_cases h4 : c < 4
    · have ew : zofw κ w n c = (c, κ 0 c + 1, [n]) := by unfold zofw; rw [if_pos h4]
      have ef : zfc c = 16 + c := by unfold zfc; rw [if_pos h4]
      rw [if_neg (by rw [show (16 : Int32) = nI 16 from rfl]; exact nI_nlt (by omega) (by omega)), show nI (zfc c) - (16 : Int32) = nI c by rw [ef, show (16 : Int32) = nI 16 from rfl, pk_sub (by omega), Nat.add_sub_cancel_left], zast_nI hn10 (by decide), Option.bind_some]
      refine ⟨_, rfl, ((a0.t a2).t a3).t (zagN.u (by omega)), ?_⟩
      show _ ∧ _ ∧ _ ∧ _ ∧ _
      rw [hfm, ew]
      refine ⟨?_, ?_, ?_, ?_, fun i a ha => ?_⟩
      · simp [zuI_at]
      · rw [zuI_n (by simp), r3.2.2.1]
        unfold znam; rw [ew]
      · rw [zuI_n (by simp), r3.1]
      · rw [zuI_n (by simp), r3.2.1]; rfl
      · rw [zuI_n (by simp)]
        cases i with
        | zero => cases ha; exact r3.2.2.2
        | succ i => cases ha
    · obtain ⟨y, y1, y2, y3, y4, y5, y6, y7, y8⟩ := o2 h4
      have ef : zfc c = c - 4 := by unfold zfc; rw [if_neg h4]
      have hc10 : c - 4 < 10 := by omega
      have hy := h.2.2.2 (c - 4) y5
      rw [y1] at hy
      have hyv := hV _ y y1
      have hy3 : ∀ s, zagN 22 n σ s → MW1 17 (some y) (c - 4) s := fun s hs => hy.fr (fun x hx => by cases hx; omega) hs (by omega)
      have m3 := hy3 s3 ((a0.t a2).t a3)
      rw [if_pos (by rw [show (16 : Int32) = nI 16 from rfl]; exact nI_lt (by omega) (by decide)), ef, zald_nI hc10 (by decide), Option.bind_some, m3.1, zast_nI hn10 (by decide), Option.bind_some]
      obtain ⟨s4, hs4⟩ : ∃ s, s = zuI s3 22 n (nI y.1) := ⟨_, rfl⟩
      rw [← hs4]
      have a4 : zagN 22 n σ s4 := by rw [hs4]; exact ((a0.t a2).t a3).t (zagN.u (by omega))
      obtain ⟨m', s', e1, e2, e3, e4, e5⟩ := zloopS (fun m (q : Int32 × ZM) => f_X9_layNext_105 N m (nI n) (nI (c - 4)) q.1 q.2)
        (fun i q => q.1 = nI i ∧ zagN 22 n σ q.2 ∧ (∀ k j, k ≠ 26 ∨ j = 10 * n → q.2.1 k j = s4.1 k j) ∧ ∀ t b, t < i → y.2.2[t]? = some b → q.2.1 26 (10 * n + 1 + t) = nI b) y.2.2.length (by
        rintro m i ⟨x, s⟩ hi ⟨p1, p2, p3, p4⟩
        simp only at p1 p2 p3 p4
        subst p1
        have ms := hy3 s p2
        obtain ⟨b, hb⟩ : ∃ b, y.2.2[i]? = some b := ⟨y.2.2[i], List.getElem?_eq_getElem hi⟩
        refine ⟨(nI (i + 1), zuI s 26 (10 * n + 1 + i) (nI b)), ?_, rfl, p2.t (zagN.u (by omega)), fun k j hkj => ?_, fun t d ht hd => ?_⟩
        · show b_X9_layNext_105 N (f_X9_layNext_105 N m) (nI n) (nI (c - 4)) (nI i) s = _
          unfold b_X9_layNext_105
          rw [zald_nI hc10 (by decide), Option.bind_some, ms.2.2.2.1, if_neg (nI_ge hi (by omega)), (zmul10 (c - 4) i).2, zald_nI (show 10 * (c - 4) + i < 100 by omega) (by decide), Option.bind_some, ms.2.2.2.2 i b hb, show (10 : Int32) * nI n + (1 : Int32) + nI i = nI (10 * n + 1 + i) by rw [show (1 : Int32) = nI 1 from rfl, (zmul10 n 1).2, nI_add], zast_nI (show 10 * n + 1 + i < 100 by omega) (by decide), Option.bind_some, Option.bind_some, nI_1]
        · show (zuI s 26 (10 * n + 1 + i) (nI b)).1 k j = _
          rw [zuI_n (by omega)]; exact p3 k j hkj
        · show (zuI s 26 (10 * n + 1 + i) (nI b)).1 26 (10 * n + 1 + t) = _
          by_cases e : t = i
          · subst e; rw [hb] at hd; cases hd; rw [zuI_s]
          · rw [zuI_n (by omega)]; exact p4 t d (by omega) hd) N 0 (0, s4) (by omega) (by omega) ⟨rfl, a4, fun _ _ _ => rfl, fun t b ht => absurd ht (Nat.not_lt_zero t)⟩
      obtain ⟨x, s⟩ := s'
      simp only at e1 e2 e3 e4 e5
      subst e2
      have ms := hy3 s e3
      refine ⟨zuI s 25 n (nI (1 + y.2.2.length)), ?_, e3.t (zagN.u (by omega)), ?_⟩
      · have e1 : f_X9_layNext_105 N N (nI n) (nI (c - 4)) 0 s4 = f_X9_layNext_105 N (m' + 1) (nI n) (nI (c - 4)) (nI y.2.2.length) s := e1
        rw [e1]
        show b_X9_layNext_105 N (f_X9_layNext_105 N m') (nI n) (nI (c - 4)) (nI y.2.2.length) s = _
        unfold b_X9_layNext_105
        rw [zald_nI hc10 (by decide), Option.bind_some, ms.2.2.2.1, if_pos (zle_self (by omega)), Option.bind_some, show (1 : Int32) = nI 1 from rfl, nI_add, zast_nI hn10 (by decide), Option.bind_some]
      · show _ ∧ _ ∧ _ ∧ _ ∧ _
        rw [hfm, y6]
        refine ⟨?_, ?_, ?_, ?_, fun i a ha => ?_⟩
        · rw [zuI_n (by simp), e4 22 n (by omega), hs4, zuI_s]
        · rw [zuI_n (by simp), e4 (22 + 1) n (by omega), hs4, zuI_n (by simp), r3.2.2.1]
          unfold znam; rw [y6]
        · rw [zuI_n (by simp), e4 (22 + 2) n (by omega), hs4, zuI_n (by simp), r3.1]
        · rw [zuI_s, List.length_cons, Nat.add_comm]
        · rw [zuI_n (by simp)]
          cases i with
          | zero =>
            cases ha
            show s.1 26 (10 * n) = _
            rw [e4 26 (10 * n) (by omega), hs4, zuI_n (by simp)]; exact r3.2.2.2
          | succ i =>
            have ha' : y.2.2[i]? = some a := ha
            have := e5 i a ((List.getElem?_eq_some_iff.mp ha').1) ha'
            rw [show 10 * n + (i + 1) = 10 * n + 1 + i by omega]
            exact this
