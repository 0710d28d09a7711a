/-! ===== the reference: the next words taken, rounds till rest ===== -/
def zpl (o : Option (Nat × Nat × List Nat)) : List Nat := match o with
  | none => []
  | some x => x.2.2
def zflg (x : Int32) (Q : Prop) : Prop := (x = 1 ∧ Q) ∨ (x = 0 ∧ ¬ Q)
theorem zflg.rz {x : Int32} {Q : Prop} (h : zflg x Q) (σ : ZM) : zrz x σ = some (x, σ) := by
  unfold zrz
  rcases h with h | h
  · rw [if_pos (Or.inr h.1)]
  · rw [if_pos (Or.inl h.1)]
theorem zflg.congr {x : Int32} {P Q : Prop} (h : zflg x P) (e : P ↔ Q) : zflg x Q := h.elim (fun q => Or.inl ⟨q.1, e.mp q.2⟩) (fun q => Or.inr ⟨q.1, fun z => q.2 (e.mpr z)⟩)
theorem MW1.len {b n : Nat} {o : Option (Nat × Nat × List Nat)} {σ : ZM} (h : MW1 b o n σ) : σ.1 (b + 3) n = nI (zpl o).length ∧ ∀ i a, (zpl o)[i]? = some a → σ.1 (b + 4) (10 * n + i) = nI a := by
  cases o with
  | none => exact ⟨h.2.2.2, fun i a ha => by cases ha⟩
  | some x => exact ⟨h.2.2.2.1, h.2.2.2.2⟩
theorem zw_takeLoop {N : Nat} (hN : 14 < N) {σ : ZM} {v : Option (Nat × Nat × List Nat)} {n : Nat} (hn : n < 10) (hl : (zpl v).length ≤ 10) (hx : ∀ b ∈ zpl v, b < 10) (hv : MW1 22 v n σ) {y0 : Int32} {P0 : Prop} (h0 : zflg y0 P0) : ∃ x σ', f_X9_takeNext_50 N (nI n) y0 σ = some (x, σ') ∧ zflg x (P0 ∨ ∃ t b, (zpl v)[t]? = some b ∧ σ.1 21 (10 * n + t) ≠ nI b) ∧ zagN 17 n σ σ' ∧ MW1 17 v n σ' := by
  obtain ⟨l1, l2⟩ := hv.len
  obtain ⟨m', s', e1, e2, e3, e4, e5, e6, e7⟩ := zloopS (fun m (q : Int32 × Int32 × ZM) => f_X9_takeNext_53 N m (nI n) q.1 q.2.1 q.2.2)
    (fun i q => q.2.1 = nI i ∧ zflg q.1 (P0 ∨ ∃ t b, t < i ∧ (zpl v)[t]? = some b ∧ σ.1 21 (10 * n + t) ≠ nI b) ∧ (∀ k j, k ≠ 21 → q.2.2.1 k j = σ.1 k j) ∧ zagN 17 n σ q.2.2 ∧ (∀ t b, t < i → (zpl v)[t]? = some b → q.2.2.1 21 (10 * n + t) = nI b) ∧ ∀ t, i ≤ t → q.2.2.1 21 (10 * n + t) = σ.1 21 (10 * n + t)) (zpl v).length (by
    rintro m i ⟨f, y, s⟩ hi ⟨p1, p2, p3, p4, p5, p6⟩
    simp only at p1 p2 p3 p4 p5 p6
    subst p1
    obtain ⟨b, hb⟩ : ∃ b, (zpl v)[i]? = some b := ⟨(zpl v)[i], List.getElem?_eq_getElem hi⟩
    have hb10 : b < 10 := hx b (List.mem_of_getElem? hb)
    have c25 : s.1 25 n = nI (zpl v).length := by rw [p3 25 n (by decide)]; exact l1
    have c26 : s.1 26 (10 * n + i) = nI b := by rw [p3 26 _ (by decide)]; exact l2 i b hb
    have c21 : s.1 21 (10 * n + i) = σ.1 21 (10 * n + i) := p6 i (Nat.le_refl i)
    have a97 : ∀ g, f_X9_takeNext_97 N (f_X9_takeNext_53 N m) (nI n) (nI i) g s = f_X9_takeNext_53 N m (nI n) g (nI (i + 1)) (zuI s 21 (10 * n + i) (nI b)) := by
      intro g
      unfold f_X9_takeNext_97
      rw [(zmul10 n i).2, zald_nI (show 10 * n + i < 100 by omega) (by decide), Option.bind_some, c26, zast_nI (show 10 * n + i < 100 by omega) (by decide), Option.bind_some, Option.bind_some, nI_1]
    have rest : ∀ g, zflg g (P0 ∨ ∃ t b, t < i + 1 ∧ (zpl v)[t]? = some b ∧ σ.1 21 (10 * n + t) ≠ nI b) → b_X9_takeNext_53 N (f_X9_takeNext_53 N m) (nI n) f (nI i) s = f_X9_takeNext_53 N m (nI n) g (nI (i + 1)) (zuI s 21 (10 * n + i) (nI b)) → ∃ q' : Int32 × Int32 × ZM, f_X9_takeNext_53 N (m + 1) (nI n) f (nI i) s = f_X9_takeNext_53 N m (nI n) q'.1 q'.2.1 q'.2.2 ∧ q'.2.1 = nI (i + 1) ∧ zflg q'.1 (P0 ∨ ∃ t b, t < i + 1 ∧ (zpl v)[t]? = some b ∧ σ.1 21 (10 * n + t) ≠ nI b) ∧ (∀ k j, k ≠ 21 → q'.2.2.1 k j = σ.1 k j) ∧ zagN 17 n σ q'.2.2 ∧ (∀ t b, t < i + 1 → (zpl v)[t]? = some b → q'.2.2.1 21 (10 * n + t) = nI b) ∧ ∀ t, i + 1 ≤ t → q'.2.2.1 21 (10 * n + t) = σ.1 21 (10 * n + t) := by
      intro g hg he
      refine ⟨(g, nI (i + 1), zuI s 21 (10 * n + i) (nI b)), he, rfl, hg, fun k j hk => ?_, p4.t (zagN.u (by omega)), fun t d ht hd => ?_, fun t ht => ?_⟩
      · show (zuI s 21 (10 * n + i) (nI b)).1 k j = _
        rw [zuI_n (fun q => hk q.1)]; exact p3 k j hk
      · show (zuI s 21 (10 * n + i) (nI b)).1 21 (10 * n + t) = _
        by_cases e : t = i
        · subst e; rw [hb] at hd; cases hd; rw [zuI_s]
        · rw [zuI_n (by omega)]; exact p5 t d (by omega) hd
      · show (zuI s 21 (10 * n + i) (nI b)).1 21 (10 * n + t) = _
        rw [zuI_n (by omega)]; exact p6 t (by omega)
    rcases p2 with ⟨f1, q⟩ | ⟨f0, q⟩
    · refine rest 1 (Or.inl ⟨rfl, q.imp id (fun ⟨t, d, h1, h2⟩ => ⟨t, d, by omega, h2⟩)⟩) ?_
      unfold b_X9_takeNext_53
      rw [zald_nI hn (by decide), Option.bind_some, c25, if_neg (nI_ge hi (by omega)), f1, if_neg (show ¬ (1 : Int32) = 0 by decide)]
      exact a97 1
    · by_cases hd : σ.1 21 (10 * n + i) = nI b
      · refine rest 0 (Or.inr ⟨rfl, fun z => q (z.imp id (fun ⟨t, d, h1, h2, h3⟩ => ⟨t, d, by
          have : t ≠ i := fun e => by subst e; rw [hb] at h2; cases h2; exact h3 hd
          omega, h2, h3⟩))⟩) ?_
        unfold b_X9_takeNext_53
        rw [zald_nI hn (by decide), Option.bind_some, c25, if_neg (nI_ge hi (by omega)), f0, if_pos rfl, (zmul10 n i).2, zald_nI (show 10 * n + i < 100 by omega) (by decide), Option.bind_some, zald_nI (show 10 * n + i < 100 by omega) (by decide), Option.bind_some, c26, c21, if_pos hd.symm]
        exact a97 0
      · refine rest 1 (Or.inl ⟨rfl, Or.inr ⟨i, b, by omega, hb, hd⟩⟩) ?_
        unfold b_X9_takeNext_53
        rw [zald_nI hn (by decide), Option.bind_some, c25, if_neg (nI_ge hi (by omega)), f0, if_pos rfl, (zmul10 n i).2, zald_nI (show 10 * n + i < 100 by omega) (by decide), Option.bind_some, zald_nI (show 10 * n + i < 100 by omega) (by decide), Option.bind_some, c26, c21, if_neg (fun z => hd z.symm)]
        exact a97 1) N 0 (y0, 0, σ) (by omega) (by omega) ⟨rfl, h0.congr ⟨Or.inl, fun q => q.elim id (fun ⟨t, b, ht, _⟩ => absurd ht (Nat.not_lt_zero t))⟩, fun _ _ _ => rfl, zagN.r, fun t b ht => absurd ht (Nat.not_lt_zero t), fun _ _ => rfl⟩
  obtain ⟨f, y, s⟩ := s'
  simp only at e1 e2 e3 e4 e5 e6 e7
  subst e2
  have c25 : s.1 25 n = nI (zpl v).length := by rw [e4 25 n (by decide)]; exact l1
  have ee : f_X9_takeNext_50 N (nI n) y0 σ = zrz f (zuI (zuI (zuI (zuI s 17 n (σ.1 22 n)) 18 n (σ.1 23 n)) 19 n (σ.1 24 n)) 20 n (σ.1 25 n)) := by
    unfold f_X9_takeNext_50
    have e1 : f_X9_takeNext_53 N N (nI n) y0 0 σ = f_X9_takeNext_53 N (m' + 1) (nI n) f (nI (zpl v).length) s := e1
    rw [e1]
    show b_X9_takeNext_53 N (f_X9_takeNext_53 N m') (nI n) f (nI (zpl v).length) s = _
    unfold b_X9_takeNext_53
    rw [zald_nI hn (by decide), Option.bind_some, c25, if_pos (zle_self (by omega)), zald_nI hn (by decide), Option.bind_some, zast_nI hn (by decide), Option.bind_some, zald_nI hn (by decide), Option.bind_some, zast_nI hn (by decide), Option.bind_some, zald_nI hn (by decide), Option.bind_some, zast_nI hn (by decide), Option.bind_some, zald_nI hn (by decide), Option.bind_some, zast_nI hn (by decide), Option.bind_some]
    rw [zuI_n (σ := s) (by simp), zuI_n (σ := zuI s 17 n (s.1 22 n)) (by simp), zuI_n (σ := s) (by simp), zuI_n (by simp), zuI_n (by simp), zuI_n (by simp)]
    rw [e4 22 n (by decide), e4 23 n (by decide), e4 24 n (by decide), e4 25 n (by decide)]
  refine ⟨f, zuI (zuI (zuI (zuI s 17 n (σ.1 22 n)) 18 n (σ.1 23 n)) 19 n (σ.1 24 n)) 20 n (σ.1 25 n), ?_, e3.congr ⟨fun q => q.imp id (fun ⟨t, b, h1, h2⟩ => ⟨t, b, h2⟩), fun q => q.imp id (fun ⟨t, b, h2⟩ => ⟨t, b, (List.getElem?_eq_some_iff.mp h2.1).1, h2⟩)⟩, ?_, ?_⟩
  · rw [ee, e3.rz]
  · exact (((e5.t (zagN.u (by omega))).t (zagN.u (by omega))).t (zagN.u (by omega))).t (zagN.u (by omega))
  · have r17 : ∀ d, d < 4 → (zuI (zuI (zuI (zuI s 17 n (σ.1 22 n)) 18 n (σ.1 23 n)) 19 n (σ.1 24 n)) 20 n (σ.1 25 n)).1 (17 + d) n = σ.1 (22 + d) n := by
      intro d hd
      rcases (show d = 0 ∨ d = 1 ∨ d = 2 ∨ d = 3 by omega) with rfl | rfl | rfl | rfl <;> simp [zuI_at]
    have r21 : ∀ t b, (zpl v)[t]? = some b → (zuI (zuI (zuI (zuI s 17 n (σ.1 22 n)) 18 n (σ.1 23 n)) 19 n (σ.1 24 n)) 20 n (σ.1 25 n)).1 (17 + 4) (10 * n + t) = nI b := by
      intro t b hb
      have := e6 t b ((List.getElem?_eq_some_iff.mp hb).1) hb
      simp [zuI_at, this]
    cases v with
    | none =>
      obtain ⟨h1, h2, h3, h4⟩ := hv
      exact ⟨(r17 0 (by decide)).trans h1, (r17 1 (by decide)).trans h2, (r17 2 (by decide)).trans h3, (r17 3 (by decide)).trans h4⟩
    | some x =>
      obtain ⟨h1, h2, h3, h4, h5⟩ := hv
      exact ⟨(r17 0 (by decide)).trans h1, (r17 1 (by decide)).trans h2, (r17 2 (by decide)).trans h3, (r17 3 (by decide)).trans h4, r21⟩
theorem zw_takeNext {N : Nat} (hN : 14 < N) {σ : ZM} {v o : Option (Nat × Nat × List Nat)} {n : Nat} (hn : n < 10) (hv1 : ∀ x, v = some x → zvw x.1 x.2.1 x.2.2) (ho1 : ∀ x, o = some x → zvw x.1 x.2.1 x.2.2) (hv : MW1 22 v n σ) (ho : MW1 17 o n σ) : ∃ x σ', f_X9_takeNext N (nI n) σ = some (x, σ') ∧ zflg x (v ≠ o) ∧ zagN 17 n σ σ' ∧ MW1 17 v n σ' := by
  have hl : (zpl v).length ≤ 10 ∧ ∀ b ∈ zpl v, b < 10 := by
    cases v with
    | none => exact ⟨by simp [zpl], fun b hb => by cases hb⟩
    | some x => have := hv1 x rfl; exact ⟨this.2.2.2.2.1, this.2.2.2.2.2.1⟩
  have main : ∀ y0, zflg y0 (¬ (σ.1 22 n = σ.1 17 n ∧ σ.1 23 n = σ.1 18 n ∧ σ.1 25 n = σ.1 20 n)) → ∃ x σ', f_X9_takeNext_50 N (nI n) y0 σ = some (x, σ') ∧ zflg x (v ≠ o) ∧ zagN 17 n σ σ' ∧ MW1 17 v n σ' := by
    intro y0 h0
    obtain ⟨x, σ', a1, a2, a3, a4⟩ := zw_takeLoop hN hn hl.1 hl.2 hv h0
    refine ⟨x, σ', a1, a2.congr ⟨fun q e => ?_, fun q => ?_⟩, a3, a4⟩
    · subst e
      rcases q with q | ⟨t, b, h1, h2⟩
      · apply q
        cases v with
        | none => exact ⟨hv.1.trans ho.1.symm, hv.2.1.trans ho.2.1.symm, hv.2.2.2.trans ho.2.2.2.symm⟩
        | some x => exact ⟨hv.1.trans ho.1.symm, hv.2.1.trans ho.2.1.symm, hv.2.2.2.1.trans ho.2.2.2.1.symm⟩
      · exact h2 (ho.len.2 t b h1)
    · by_cases hp : ¬ (σ.1 22 n = σ.1 17 n ∧ σ.1 23 n = σ.1 18 n ∧ σ.1 25 n = σ.1 20 n)
      · exact Or.inl hp
      · have hp : σ.1 22 n = σ.1 17 n ∧ σ.1 23 n = σ.1 18 n ∧ σ.1 25 n = σ.1 20 n := Classical.not_not.mp hp
        by_cases hx : ∃ t b, (zpl v)[t]? = some b ∧ σ.1 21 (10 * n + t) ≠ nI b
        · exact Or.inr hx
        · exfalso
          apply q
          have hx : ∀ t b, (zpl v)[t]? = some b → σ.1 21 (10 * n + t) = nI b := fun t b hb => by
            by_cases z : σ.1 21 (10 * n + t) = nI b
            · exact z
            · exact absurd ⟨t, b, hb, z⟩ hx
          cases v with
          | none =>
            cases o with
            | none => rfl
            | some y =>
              exfalso
              have e := hp.1
              rw [hv.1, ho.1] at e
              exact nI_m9 (by have := (ho1 y rfl).1; omega) e.symm
          | some x =>
            cases o with
            | none =>
              exfalso
              have e := hp.1
              rw [hv.1, ho.1] at e
              exact nI_m9 (by have := (hv1 x rfl).1; omega) e
            | some y =>
              have vx := hv1 x rfl
              have vy := ho1 y rfl
              have x1 := vx.1
              have y1 := vy.1
              have x2 := vx.2.2.1
              have y2 := vy.2.2.1
              have x3 := vx.2.2.2.2.1
              have y3 := vy.2.2.2.2.1
              have e1 : x.1 = y.1 := nI_inj (by omega) (by omega) (hv.1.symm.trans (hp.1.trans ho.1))
              have e2 : x.2.1 = y.2.1 := nI_inj (by omega) (by omega) (hv.2.1.symm.trans (hp.2.1.trans ho.2.1))
              have e3 : x.2.2.length = y.2.2.length := nI_inj (by omega) (by omega) (hv.2.2.2.1.symm.trans (hp.2.2.trans ho.2.2.2.1))
              have e4 : x.2.2 = y.2.2 := by
                apply List.ext_getElem?
                intro t
                by_cases ht : t < x.2.2.length
                · have b1 : x.2.2[t]? = some x.2.2[t] := List.getElem?_eq_getElem ht
                  have b2 : y.2.2[t]? = some (y.2.2[t]'(by omega)) := List.getElem?_eq_getElem (by omega)
                  have c1 := hx t _ b1
                  have c2 := ho.2.2.2.2 t _ b2
                  have m1 := vx.2.2.2.2.2.1 _ (List.mem_of_getElem? b1)
                  have m2 := vy.2.2.2.2.2.1 _ (List.mem_of_getElem? b2)
                  rw [b1, b2, nI_inj (by omega) (by omega) (c1.symm.trans c2)]
                · rw [List.getElem?_eq_none (by omega), List.getElem?_eq_none (by omega)]
              rw [show x = y from Prod.ext e1 (Prod.ext e2 e4)]
  unfold f_X9_takeNext
  rw [zald_nI hn (by decide), Option.bind_some, zald_nI hn (by decide), Option.bind_some]
  by_cases h1 : σ.1 22 n = σ.1 17 n
  · rw [if_pos h1, zald_nI hn (by decide), Option.bind_some, zald_nI hn (by decide), Option.bind_some]
    by_cases h2 : σ.1 23 n = σ.1 18 n
    · rw [if_pos h2, zald_nI hn (by decide), Option.bind_some, zald_nI hn (by decide), Option.bind_some]
      by_cases h3 : σ.1 25 n = σ.1 20 n
      · rw [if_pos h3]
        exact main 0 (Or.inr ⟨rfl, fun q => q ⟨h1, h2, h3⟩⟩)
      · rw [if_neg h3]
        exact main 1 (Or.inl ⟨rfl, fun q => h3 q.2.2⟩)
    · rw [if_neg h2]
      exact main 1 (Or.inl ⟨rfl, fun q => h2 q.2.1⟩)
  · rw [if_neg h1]
    exact main 1 (Or.inl ⟨rfl, fun q => h1 q.1⟩)
