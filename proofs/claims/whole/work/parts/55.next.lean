/-! ===== next: the trial that tells most ===== -/
theorem zml_le {f : Nat → Nat} {b : Nat} : ∀ (l : List Nat), (∀ c, c ∈ l → f c ≤ b) → zml f l ≤ b
  | [], _ => Nat.zero_le _
  | c :: t, h => zmx2_le (h c List.mem_cons_self) (zml_le t (fun d hd => h d (List.mem_cons_of_mem _ hd)))
theorem zml_ge {f : Nat → Nat} : ∀ (l : List Nat) {c : Nat}, c ∈ l → f c ≤ zml f l
  | [], c, h => absurd h (List.not_mem_nil)
  | d :: t, c, h => by
    rw [List.mem_cons] at h
    have hg := zmx2_ge (a := f d) (b := zml f t)
    show f c ≤ zmx2 (f d) (zml f t)
    rcases h with e | e
    · rw [e]; exact hg.1
    · exact Nat.le_trans (zml_ge t e) hg.2
def zcto (g : Nat → Option Nat) (T : List Nat) (o : Option Nat) : Nat := List.countP (fun d => decide (g d = o)) T
def zmc (g : Nat → Option Nat) (T : List Nat) : Nat := zml (fun c => zcto g T (g c)) T
theorem zcto_le (g : Nat → Option Nat) (T : List Nat) (o : Option Nat) : zcto g T o ≤ T.length := List.countP_le_length
theorem zmc_le (g : Nat → Option Nat) (T : List Nat) : zmc g T ≤ T.length := zml_le T (fun c _ => zcto_le g T _)
theorem zcto_app (g : Nat → Option Nat) (T : List Nat) (c : Nat) (o : Option Nat) : zcto g (T ++ [c]) o = zcto g T o + if g c = o then 1 else 0 := by
  unfold zcto
  rw [List.countP_append]
  congr 1
  by_cases h : g c = o
  · simp [h]
  · simp [h]
theorem zmc_app (g : Nat → Option Nat) (T : List Nat) (c : Nat) : zmc g (T ++ [c]) = zmx2 (zmc g T) (zcto g (T ++ [c]) (g c)) := by
  have hge := zmx2_ge (a := zmc g T) (b := zcto g (T ++ [c]) (g c))
  apply Nat.le_antisymm
  · refine zml_le _ (fun d hd => ?_)
    by_cases e : g d = g c
    · rw [e]; exact hge.2
    · rw [List.mem_append] at hd
      rcases hd with q | q
      · rw [zcto_app, if_neg (fun r => e r.symm), Nat.add_zero]
        exact Nat.le_trans (zml_ge (f := fun c => zcto g T (g c)) T q) hge.1
      · have : d = c := by simpa using q
        rw [this] at e; exact absurd rfl e
  · refine zmx2_le ?_ (zml_ge (f := fun d => zcto g (T ++ [c]) (g d)) (T ++ [c]) (List.mem_append.mpr (Or.inr (by simp))))
    refine zml_le _ (fun d hd => ?_)
    have h1 := zml_ge (f := fun d => zcto g (T ++ [c]) (g d)) (T ++ [c]) (List.mem_append.mpr (Or.inl hd))
    refine Nat.le_trans ?_ h1
    show zcto g T (g d) ≤ zcto g (T ++ [c]) (g d)
    rw [zcto_app]
    omega
theorem zmc_take {g : Nat → Option Nat} {L : List Nat} {i : Nat} (hi : i < L.length) : zmc g (L.take (i + 1)) = zmx2 (zmc g (L.take i)) (zcto g (L.take (i + 1)) (g L[i])) := by
  rw [← List.take_append_getElem hi]
  exact zmc_app g _ _
theorem zmc_mono {g : Nat → Option Nat} {L : List Nat} {i : Nat} : ∀ k, i + k ≤ L.length → zmc g (L.take i) ≤ zmc g (L.take (i + k))
  | 0, _ => Nat.le_refl _
  | k + 1, h => by
    have h1 := zmc_mono (g := g) (L := L) (i := i) k (by omega)
    show zmc g (L.take i) ≤ zmc g (L.take (i + k + 1))
    rw [zmc_take (show i + k < L.length by omega)]
    exact Nat.le_trans h1 zmx2_ge.1
theorem zga_mc (α : AS) (s v : Nat) : zga α s v = zmc (zoc α s v) (zLA α) := rfl
/-! the class -/
def zeo (o : Option Nat) : Int32 := match o with
  | none => -1
  | some x => nI x
theorem zeo_inj {a b : Option Nat} (ha : ∀ x, a = some x → x < 2 ^ 31) (hb : ∀ x, b = some x → x < 2 ^ 31) (h : zeo a = zeo b) : a = b := by
  have m1 : ∀ x, x < 2 ^ 31 → ¬ nI x = (-1 : Int32) := fun x hx q => by
    have := congrArg Int32.toInt q
    rw [nI_toInt hx] at this
    have e : (-1 : Int32).toInt = -1 := rfl
    omega
  cases a with
  | none =>
    cases b with
    | none => rfl
    | some y => exact absurd h.symm (m1 y (hb y rfl))
  | some x =>
    cases b with
    | none => exact absurd h (m1 x (ha x rfl))
    | some y => rw [nI_inj (ha x rfl) (hb y rfl) h]
def UA (g : Nat → Option Nat) (T : List Nat) (O : List (Option Nat)) (σ : ZM) : Prop := σ.1 38 11 = nI O.length ∧ (∀ j o, O[j]? = some o → σ.1 46 j = zeo o ∧ σ.1 47 j = nI (zcto g T o)) ∧ (∀ d, d ∈ T → g d ∈ O) ∧ O.Nodup ∧ O.length ≤ T.length
abbrev zWN : List (Nat × Option Nat) := [(38, some 11), (46, none), (47, none)]
theorem zw_countAlike {N : Nat} (hN : 700 < N) {g : Nat → Option Nat} (hg : ∀ d x, g d = some x → x < 2 ^ 31) {T : List Nat} {O : List (Option Nat)} {σ : ZM} (hT : T.length < 256) (h : UA g T O σ) (hO : ∀ o, o ∈ O → ∀ x, o = some x → x < 2 ^ 31) (c : Nat) : ∃ σ' O', f_X0_countAlike N (zeo (g c)) σ = some (nI (zcto g (T ++ [c]) (g c)), σ') ∧ UA g (T ++ [c]) O' σ' ∧ (∀ o, o ∈ O' → ∀ x, o = some x → x < 2 ^ 31) := by
  obtain ⟨h1, h2, h3, h4, h5⟩ := h
  have eapp := fun o => zcto_app g T c o
  have hcl : ∀ o, zcto g T o ≤ 255 := fun o => by have := zcto_le g T o; omega
  have lp : ∀ k m j, j + k = O.length → k < m → (∀ i o, i < j → O[i]? = some o → o ≠ g c) → ∃ σ' O', f_X0_countAlike_2 N m (zeo (g c)) (nI j) σ = some (nI (zcto g (T ++ [c]) (g c)), σ') ∧ UA g (T ++ [c]) O' σ' ∧ (∀ o, o ∈ O' → ∀ x, o = some x → x < 2 ^ 31) := by
    intro k
    induction k with
    | zero =>
      intro m j hj hm hno
      obtain ⟨m, rfl⟩ : ∃ q, m = q + 1 := ⟨m - 1, by omega⟩
      have ej : j = O.length := by omega
      subst ej
      have hnin : ¬ g c ∈ O := fun q => by
        obtain ⟨i, hi, e⟩ := List.getElem_of_mem q
        exact hno i _ hi (List.getElem?_eq_getElem hi) e
      have hz : zcto g T (g c) = 0 := by
        unfold zcto
        rw [List.countP_eq_zero]
        intro d hd q
        exact hnin (by rw [← of_decide_eq_true q]; exact h3 d hd)
      have hnew : zcto g (T ++ [c]) (g c) = 1 := by rw [eapp, hz, if_pos rfl]
      obtain ⟨u, hu⟩ : ∃ u, u = zuI (zuI (zuI σ 46 O.length (zeo (g c))) 47 O.length 1) 38 11 (nI (O.length + 1)) := ⟨_, rfl⟩
      refine ⟨u, O ++ [g c], ?_, ⟨?_, fun i o hi => ?_, fun d hd => ?_, ?_, ?_⟩, fun o ho x hx => ?_⟩
      · show b_X0_countAlike_2 N (f_X0_countAlike_2 N m) (zeo (g c)) (nI O.length) σ = _
        unfold b_X0_countAlike_2 zpI
        rw [h1, if_pos (nI_le (Nat.le_refl _) (by omega)), zast_nI (show O.length < 256 by omega) (by decide), Option.bind_some, zuI_n (show ¬ (38 = 46 ∧ 11 = O.length) by omega), h1, zast_nI (show O.length < 256 by omega) (by decide), Option.bind_some, Option.bind_some, zuI_n (show ¬ (38 = 47 ∧ 11 = O.length) by omega), zuI_n (show ¬ (38 = 46 ∧ 11 = O.length) by omega), h1, nI_1, ← hu, hnew]
        rfl
      · rw [hu, zuI_s, List.length_append]; rfl
      · by_cases e : i < O.length
        · rw [List.getElem?_append_left e] at hi
          obtain ⟨q1, q2⟩ := h2 i o hi
          have hne : ¬ g c = o := fun r => hno i o e hi r.symm
          rw [hu, zuI_n (by simp), zuI_n (by simp), zuI_n (fun r => by omega), zuI_n (by simp), zuI_n (fun r => by omega), zuI_n (by simp), eapp, if_neg hne, Nat.add_zero]
          exact ⟨q1, q2⟩
        · have hi2 : i = O.length := by
            have := (List.getElem?_eq_some_iff.mp hi).1
            rw [List.length_append] at this
            have e1 : [g c].length = 1 := rfl
            omega
          rw [List.getElem?_append_right (by omega), hi2, Nat.sub_self] at hi
          have : g c = o := by simpa using hi
          rw [← this, hi2, hu, zuI_n (by simp), zuI_n (by simp), zuI_s, zuI_n (by simp), zuI_s, hnew]
          exact ⟨rfl, rfl⟩
      · rw [List.mem_append] at hd ⊢
        rcases hd with q | q
        · exact Or.inl (h3 d q)
        · have : d = c := by simpa using q
          rw [this]; exact Or.inr (by simp)
      · rw [List.nodup_append]
        refine ⟨h4, by simp, fun a ha b hb => ?_⟩
        have : b = g c := by simpa using hb
        rw [this]
        intro e
        exact hnin (by rw [← e]; exact ha)
      · rw [List.length_append, List.length_append]
        have e1 : [g c].length = 1 := rfl
        have e2 : [c].length = 1 := rfl
        omega
      · rw [List.mem_append] at ho
        rcases ho with q | q
        · exact hO o q x hx
        · have : o = g c := by simpa using q
          rw [this] at hx; exact hg c x hx
    | succ k ih =>
      intro m j hj hm hno
      obtain ⟨m, rfl⟩ : ∃ q, m = q + 1 := ⟨m - 1, by omega⟩
      have hjl : j < O.length := by omega
      have hjg : O[j]? = some O[j] := List.getElem?_eq_getElem hjl
      obtain ⟨q1, q2⟩ := h2 j _ hjg
      have hoj := hO _ (List.getElem_mem hjl)
      have pre : f_X0_countAlike_2 N (m + 1) (zeo (g c)) (nI j) σ = (if zeo O[j] = zeo (g c) then some (nI (zcto g T O[j] + 1), zuI σ 47 j (nI (zcto g T O[j] + 1))) else f_X0_countAlike_2 N m (zeo (g c)) (nI (j + 1)) σ) := by
        show b_X0_countAlike_2 N (f_X0_countAlike_2 N m) (zeo (g c)) (nI j) σ = _
        unfold b_X0_countAlike_2
        rw [h1, if_neg (nI_ge hjl (by omega)), zald_nI (show j < 256 by omega) (by decide), Option.bind_some, q1, zald_nI (show j < 256 by omega) (by decide), Option.bind_some, q2, nI_1, zast_nI (show j < 256 by omega) (by decide), Option.bind_some, zald_nI (show j < 256 by omega) (by decide), Option.bind_some, zuI_s, Option.bind_some, nI_1]
      rw [pre]
      by_cases e : O[j] = g c
      · rw [if_pos (by rw [e])]
        have hnew : zcto g (T ++ [c]) (g c) = zcto g T (g c) + 1 := by rw [eapp, if_pos rfl]
        refine ⟨zuI σ 47 j (nI (zcto g T O[j] + 1)), O, ?_, ⟨?_, fun i o hi => ?_, fun d hd => ?_, h4, ?_⟩, hO⟩
        · rw [e, hnew]
        · rw [zuI_n (by simp)]; exact h1
        · obtain ⟨r1, r2⟩ := h2 i o hi
          rw [zuI_n (by simp)]
          refine ⟨r1, ?_⟩
          by_cases ei : i = j
          · subst ei
            rw [hjg] at hi
            cases hi
            rw [zuI_s, e, hnew]
          · have hne : ¬ g c = o := fun r => by
              have hil := (List.getElem?_eq_some_iff.mp hi).1
              have hio := (List.getElem?_eq_some_iff.mp hi).2
              exact ei ((List.getElem_inj h4).mp (by rw [hio, e, r]))
            rw [zuI_n (fun r => ei r.2), eapp, if_neg hne, Nat.add_zero]
            exact r2
        · rw [List.mem_append] at hd
          rcases hd with q | q
          · exact h3 d q
          · have : d = c := by simpa using q
            rw [this, ← e]; exact List.getElem_mem hjl
        · rw [List.length_append]; omega
      · rw [if_neg (fun q => e (zeo_inj hoj (fun x hx => hg c x hx) q))]
        refine ih m (j + 1) (by omega) (by omega) (fun i o hi hio => ?_)
        by_cases ei : i = j
        · subst ei
          rw [hjg] at hio
          cases hio
          exact e
        · exact hno i o (by omega) hio
  exact lp O.length N 0 (by omega) (by omega) (fun i o hi => absurd hi (Nat.not_lt_zero i))
theorem UA.fr {g : Nat → Option Nat} {T : List Nat} {O : List (Option Nat)} {σ σ' : ZM} (h : UA g T O σ) (gg : zag zWQ σ σ') : UA g T O σ' := ⟨by rw [(gg 38 11 (by decide) (by decide)).1]; exact h.1, fun j o q => by rw [(gg 46 j (by decide) (by simp)).1, (gg 47 j (by decide) (by simp)).1]; exact h.2.1 j o q, h.2.2⟩
theorem zoc_lt {α : AS} (hW : WF α) {s v : Nat} (hv : v ≤ 4) : ∀ d x, zoc α s v d = some x → x < 2 ^ 31 := by
  intro d x h
  unfold zoc at h
  have hk7 : ∀ t, (fun t => if t = s then v else α 7 t) t ≤ 4 := fun t => by
    have := hW.2.2.2.2.2.1.2.1 t
    show (if t = s then v else α 7 t) ≤ 4
    split <;> omega
  have hK : KW α (zkap (α 0 2) (α 6) (fun t => if t = s then v else α 7 t) (α 8) (α 9) (zcr α d)) := KW.mk hW (Nat.le_refl _) hk7 hW.2.2.2.2.2.1.2.2.1 hW.2.2.2.2.2.1.2.2.2.1 (zcr_le α d)
  generalize zkap (α 0 2) (α 6) (fun t => if t = s then v else α 7 t) (α 8) (α 9) (zcr α d) = κ at h hK
  cases hr : zrest α κ with
  | none => rw [hr] at h; exact absurd h (by simp)
  | some k =>
    rw [hr] at h
    simp only [Option.map_some, Option.some.injEq] at h
    have hV := VW.it (κ := κ) hW hK k
    have h1 := zot_lt (w := zit α κ k) (fun n => by have := zod_le hV n; omega) (α 0 0)
    have h2 : 8 ^ (α 0 0) ≤ 1073741824 := Nat.pow_le_pow_right (n := 8) (i := α 0 0) (j := 10) (by decide) hW.1.1
    omega
abbrev zWE : List (Nat × Option Nat) := [(17, some 5), (18, none), (19, none), (20, none), (21, none), (22, none), (38, some 11), (39, some 0), (40, none), (41, none), (42, none), (43, none), (46, none), (47, none)]
theorem RC.frE {α : AS} {σ σ' : ZM} (h : RC α σ) (hW : zag zWE σ σ') : RC α σ' := h.fr hW (by decide +kernel) (by decide +kernel) (by decide +kernel) (by decide) (by decide)
theorem Sif.frE {α : AS} {σ σ' : ZM} (h : Sif α σ) (g : zag zWE σ σ') : Sif α σ' := ⟨h.1, by rw [(g 38 7 (by decide) (by decide)).1]; exact h.2.1, fun j c q => by rw [(g 45 j (by decide) (by simp)).1]; exact h.2.2.1 j c q, by rw [(g 38 8 (by decide) (by decide)).1]; exact h.2.2.2⟩
theorem CA.fr {w1 a : Nat} {u k h r : Nat → Nat} {σ σ' : ZM} (c : CA w1 a u k h r σ) (e : ∀ d, d < 5 → ∀ i, i < 4 → σ'.1 (w1 + d) i = σ.1 (w1 + d) i) : CA w1 a u k h r σ' := by
  refine ⟨?_, fun s hs => ?_⟩
  · have := e 0 (by decide) 0 (by decide)
    rw [Nat.add_zero] at this
    rw [this]; exact c.1
  · obtain ⟨q1, q2, q3, q4⟩ := c.2 s hs
    exact ⟨by rw [e 1 (by decide) s hs]; exact q1, by rw [e 2 (by decide) s hs]; exact q2, by rw [e 3 (by decide) s hs]; exact q3, by rw [e 4 (by decide) s hs]; exact q4⟩
theorem zw_greatC {N : Nat} (hN : 700 < N) {α : AS} {σ : ZM} (hW : WF α) (hC : RC α σ) (hS : Sif α σ) {s v B : Nat} (hs : s < 4) (hv : v ≤ 4) (h14 : σ.1 38 14 = nI B) (hB : B ≤ 1000) : ∃ r σ', f_X0_greatestAlike N (nI s) (nI v) σ = some (nI r, σ') ∧ zag zWE σ σ' ∧ r ≤ 256 ∧ (r = zga α s v ∨ (B ≤ r ∧ B ≤ zga α s v)) := by
  have hl := zLA_len α
  have hM := hS.1
  have hs0 := hW.1.2.2.1
  obtain ⟨s1, a1, a2, a3⟩ := zw_copy (N := N) (by omega) hW hC.ca (show 17 ≤ 39 by decide)
  obtain ⟨s2, hs2⟩ : ∃ s2, s2 = zuI (zuI s1 40 s (nI v)) 38 11 0 := ⟨_, rfl⟩
  have g2 : zag zWE σ s2 := by rw [hs2]; exact zag_t (zag_w (by simp) a2) (zag_t (zag_w (W1 := [(40, none)]) (by simp) (zag_all zag_uI)) (zag_w (W1 := [(38, some 11)]) (by simp) zag_uI))
  have hk7 : ∀ t, (fun t => if t = s then v else α 7 t) t ≤ 4 := fun t => by
    have := hW.2.2.2.2.2.1.2.1 t
    show (if t = s then v else α 7 t) ≤ 4
    split <;> omega
  have ca2 : CA 39 (α 0 2) (α 6) (fun t => if t = s then v else α 7 t) (α 8) (α 9) s2 := by
    refine ⟨by rw [hs2, zuI_n (by simp), zuI_n (by simp)]; exact a3.1, fun t ht => ?_⟩
    obtain ⟨q1, q2, q3, q4⟩ := a3.2 t ht
    refine ⟨?_, ?_, ?_, ?_⟩
    · show s2.1 40 t = nI (if t = s then v else α 7 t)
      rw [hs2, zuI_n (by simp)]
      by_cases e : t = s
      · subst e; rw [zuI_s, if_pos rfl]
      · rw [zuI_n (fun q => e q.2), if_neg e]; exact q1
    · rw [hs2, zuI_n (by simp), zuI_n (by simp)]; exact q2
    · rw [hs2, zuI_n (by simp), zuI_n (by simp)]; exact q3
    · rw [hs2, zuI_n (by simp), zuI_n (by simp)]; exact q4
  have lp : ∀ k m i (u : ZM), i + k = (zLA α).length → k < m → zag zWE s2 u → CA 39 (α 0 2) (α 6) (fun t => if t = s then v else α 7 t) (α 8) (α 9) u → (∃ O, UA (zoc α s v) ((zLA α).take i) O u ∧ ∀ o, o ∈ O → ∀ x, o = some x → x < 2 ^ 31) → ∃ r u', f_X0_greatestAlike_31 N m (nI (zmc (zoc α s v) ((zLA α).take i))) (nI i) u = some (nI r, u') ∧ r ≤ 256 ∧ (r = zga α s v ∨ (B ≤ r ∧ B ≤ zga α s v)) := by
    intro k
    induction k with
    | zero =>
      intro m i u h1 h2 gu ca hU
      obtain ⟨m, rfl⟩ : ∃ q, m = q + 1 := ⟨m - 1, by omega⟩
      have e : i = (zLA α).length := by omega
      subst e
      have hsu := (hS.frE g2).frE gu
      refine ⟨zga α s v, u, ?_, ?_, Or.inl rfl⟩
      · show b_X0_greatestAlike_31 N (f_X0_greatestAlike_31 N m) _ (nI (zLA α).length) u = _
        unfold b_X0_greatestAlike_31
        rw [hsu.2.1, if_pos (nI_le (Nat.le_refl _) (by omega)), List.take_length]
        rfl
      · rw [zga_mc]; have := zmc_le (zoc α s v) (zLA α); omega
    | succ k ih =>
      intro m i u h1 h2 gu ca hU
      obtain ⟨m, rfl⟩ : ∃ q, m = q + 1 := ⟨m - 1, by omega⟩
      have hi : i < (zLA α).length := by omega
      have hsu := (hS.frE g2).frE gu
      have hcu := (hC.frE g2).frE gu
      have u14 : u.1 38 14 = nI B := by rw [(gu 38 14 (by decide) (by decide)).1, (g2 38 14 (by decide) (by decide)).1]; exact h14
      have hGl : zmc (zoc α s v) ((zLA α).take i) ≤ 256 := by
        have := zmc_le (zoc α s v) ((zLA α).take i)
        rw [List.length_take] at this
        omega
      by_cases hst : B ≤ zmc (zoc α s v) ((zLA α).take i)
      · have hmono := zmc_mono (g := zoc α s v) (L := zLA α) (i := i) ((zLA α).length - i) (by omega)
        rw [show i + ((zLA α).length - i) = (zLA α).length by omega, List.take_length] at hmono
        refine ⟨zmc (zoc α s v) ((zLA α).take i), u, ?_, hGl, Or.inr ⟨hst, by rw [zga_mc]; omega⟩⟩
        show b_X0_greatestAlike_31 N (f_X0_greatestAlike_31 N m) _ (nI i) u = _
        unfold b_X0_greatestAlike_31
        rw [hsu.2.1, if_neg (nI_ge hi (by omega)), u14, if_pos (nI_le hst (by omega))]
        rfl
      · have hg : (zLA α)[i]? = some (zLA α)[i] := List.getElem?_eq_getElem hi
        obtain ⟨c, hc⟩ : ∃ c, c = (zLA α)[i] := ⟨_, rfl⟩
        obtain ⟨u1, b1, b2, b3⟩ := zw_takeRules (N := N) (by omega) hW hcu c
        have hc1 := hcu.fr18 b2
        obtain ⟨κ, hκ⟩ : ∃ κ : AS, κ = zkap (α 0 2) (α 6) (fun t => if t = s then v else α 7 t) (α 8) (α 9) (zcr α c) := ⟨_, rfl⟩
        have hK : KW α κ := by rw [hκ]; exact KW.mk hW (Nat.le_refl _) hk7 hW.2.2.2.2.2.1.2.2.1 hW.2.2.2.2.2.1.2.2.2.1 (zcr_le α c)
        have ca1 : CA 39 (α 0 2) (α 6) (fun t => if t = s then v else α 7 t) (α 8) (α 9) u1 := ca.fr (fun d hd j hj => (b2 (39 + d) j (by simp; omega) (by simp)).1)
        obtain ⟨u2, d1, d2, d3, d4⟩ := zw_settleC (N := N) (by omega) (Or.inr (by decide) : zwc 39) hW hK hc1 (by rw [hκ]; exact ca1.sd hs0 (Nat.le_refl _) hW.2.2.2.2.2.1.1 hk7) (by rw [hκ]; exact b3)
        have gq : zag zWQ u u2 := zag_t (zag_w (by simp) b2) (zag_w (by simp) d2)
        have gq2 : zag zWE u u2 := zag_w (by simp) gq
        obtain ⟨O, hU1, hU2⟩ := hU
        have hTl : ((zLA α).take i).length < 256 := by rw [List.length_take]; omega
        obtain ⟨u3, O', f1, f2, f3⟩ := zw_countAlike hN (zoc_lt hW (s := s) hv) hTl (hU1.fr gq) hU2 c
        have fr3 := fr_X0_countAlike f1
        have etk : (zLA α).take (i + 1) = (zLA α).take i ++ [c] := by rw [hc]; exact (List.take_append_getElem hi).symm
        have ca3 : CA 39 (α 0 2) (α 6) (fun t => if t = s then v else α 7 t) (α 8) (α 9) u3 := (ca1.fr (fun d hd j hj => (d2 (39 + d) j (by simp; omega) (by simp; omega)).1)).fr (fun d hd j hj => (fr3 (39 + d) j (by simp; omega) (by simp; omega)).1)
        have g3 : zag zWE s2 u3 := zag_t gu (zag_t gq2 (zag_w (by simp) fr3))
        have hcb : zcto (zoc α s v) ((zLA α).take i ++ [c]) (zoc α s v c) ≤ 256 := by
          have := zcto_le (zoc α s v) ((zLA α).take i ++ [c]) (zoc α s v c)
          rw [List.length_append] at this
          have e1 : [c].length = 1 := rfl
          omega
        have emc : zmc (zoc α s v) ((zLA α).take (i + 1)) = zmx2 (zmc (zoc α s v) ((zLA α).take i)) (zcto (zoc α s v) ((zLA α).take i ++ [c]) (zoc α s v c)) := by
          rw [zmc_take hi, ← etk, ← hc]
        obtain ⟨r, u9, w1, w2, w3⟩ := ih m (i + 1) u3 (by omega) (by omega) g3 ca3 ⟨O', by rw [etk]; exact f2, f3⟩
        refine ⟨r, u9, ?_, w2, w3⟩
        have f86 : f_X0_greatestAlike_86 N (f_X0_greatestAlike_31 N m) (nI (zmc (zoc α s v) ((zLA α).take i))) (nI i) (zeo (zoc α s v c)) u2 = some (nI r, u9) := by
          unfold f_X0_greatestAlike_86
          rw [f1]
          unfold zbd
          rw [Option.bind_some]
          try simp only
          rw [zmaxN (by omega) (by omega), Option.bind_some, Option.bind_some, nI_1]
          rw [emc] at w1
          exact w1
        show b_X0_greatestAlike_31 N (f_X0_greatestAlike_31 N m) _ (nI i) u = _
        unfold b_X0_greatestAlike_31
        rw [hsu.2.1, if_neg (nI_ge hi (by omega)), u14, if_neg (nI_ge (by omega) (by omega)), zald_nI (show i < 256 by omega) (by decide), Option.bind_some, hsu.2.2.1 i _ hg, ← hc, b1]
        unfold zbd
        rw [Option.bind_some]
        try simp only
        rw [d1, Option.bind_some]
        try simp only
        have eoc : zoc α s v c = (zrest α κ).map fun k => zot (zit α κ k) (α 0 0) := by rw [hκ]; rfl
        cases hr : zrest α κ with
        | none =>
          rw [hr] at eoc
          rw [if_pos (show zro none = -9 from rfl)]
          rw [eoc] at f86
          exact f86
        | some q =>
          have hq := zrest_le hr
          have hcc := d4 q hr
          have hV := VW.it (κ := κ) hW hK q
          rw [hr] at eoc
          rw [if_neg (zro_some (by omega)), zw_outcome (by omega) hW.1.1 d3.nets hV hcc.2.2.2, Option.bind_some]
          rw [eoc] at f86
          exact f86
  obtain ⟨r, u', w1, w2, w3⟩ := lp (zLA α).length N 0 s2 (by omega) (by omega) zag_r ca2 ⟨[], ⟨by rw [hs2, zuI_s]; rfl, fun j o q => by simp at q, fun d hd => by simp at hd, List.nodup_nil, Nat.zero_le _⟩, fun o ho => absurd ho (List.not_mem_nil)⟩
  have ef : f_X0_greatestAlike N (nI s) (nI v) σ = some (nI r, u') := by
    unfold f_X0_greatestAlike zpI
    rw [a1]
    unfold zbd
    rw [Option.bind_some]
    try simp only
    rw [zast_nI hs (by decide), Option.bind_some, Option.bind_some, ← hs2]
    exact w1
  exact ⟨r, u', ef, fr_X0_greatestAlike ef, w2, w3⟩
def LSt (α : AS) (b : Option Nat) (σ : ZM) : Prop := match b with
  | none => σ.1 38 14 = nI ((zLA α).length + 1)
  | some x => σ.1 38 12 = nI (x / 5) ∧ σ.1 38 13 = nI (x % 5) ∧ σ.1 38 14 = nI (zga α (x / 5) (x % 5))
theorem LSt.mv {α : AS} {b : Option Nat} {σ σ' : ZM} (h : LSt α b σ) (e : ∀ i, i = 12 ∨ i = 13 ∨ i = 14 → σ'.1 38 i = σ.1 38 i) : LSt α b σ' := by
  cases b with
  | none => show σ'.1 38 14 = _; rw [e 14 (by decide)]; exact h
  | some x => exact ⟨by rw [e 12 (by decide)]; exact h.1, by rw [e 13 (by decide)]; exact h.2.1, by rw [e 14 (by decide)]; exact h.2.2⟩
theorem zga_le (α : AS) (s v : Nat) : zga α s v ≤ (zLA α).length := by rw [zga_mc]; exact zmc_le _ _
abbrev zWF3 : List (Nat × Option Nat) := [(17, some 5), (18, none), (19, none), (20, none), (21, none), (22, none), (38, some 11), (38, some 12), (38, some 13), (38, some 14), (39, some 0), (40, none), (41, none), (42, none), (43, none), (46, none), (47, none)]
theorem RC.frF3 {α : AS} {σ σ' : ZM} (h : RC α σ) (hW : zag zWF3 σ σ') : RC α σ' := h.fr hW (by decide +kernel) (by decide +kernel) (by decide +kernel) (by decide) (by decide)
theorem Sif.frF3 {α : AS} {σ σ' : ZM} (h : Sif α σ) (g : zag zWF3 σ σ') : Sif α σ' := ⟨h.1, by rw [(g 38 7 (by decide) (by decide)).1]; exact h.2.1, fun j c q => by rw [(g 45 j (by decide) (by simp)).1]; exact h.2.2.1 j c q, by rw [(g 38 8 (by decide) (by decide)).1]; exact h.2.2.2⟩
theorem znb_s (α : AS) (x : Nat) : znb α (x + 1) = if zvc α x = true then (match znb α x with | none => some x | some b => if zga α (x / 5) (x % 5) < zga α (b / 5) (b % 5) then some x else some b) else znb α x := rfl
/-- one candidate -/
theorem zw_seek81 {N : Nat} {α : AS} (h256 : (zLA α).length ≤ 256) {x s v r : Nat} (hx : x / 5 = s ∧ x % 5 = v) (hvc : zvc α x = true) {σ : ZM} (hL : LSt α (znb α x) σ) (hr : r ≤ 256) (hrr : ∀ B, σ.1 38 14 = nI B → B ≤ 257 → (r = zga α s v ∨ (B ≤ r ∧ B ≤ zga α s v))) {rcx : Int32 → ZM → Option (Unit × ZM)} {rcy : Int32 → Int32 → ZM → Option (Unit × ZM)} : ∃ σ', f_X0_seekTrial_81 N rcx rcy (nI s) (nI v) (nI r) σ = f_X0_seekTrial_105 N rcx rcy (nI s) (nI v) σ' ∧ zag [(38, some 12), (38, some 13), (38, some 14)] σ σ' ∧ LSt α (znb α (x + 1)) σ' := by
  have hzl := zga_le α s v
  have take : r = zga α s v → ∃ σ', ((zpI σ 38 14 (nI r)).bind fun s3 => (zpI s3 38 12 (nI s)).bind fun s4 => (zpI s4 38 13 (nI v)).bind fun s5 => f_X0_seekTrial_105 N rcx rcy (nI s) (nI v) s5) = f_X0_seekTrial_105 N rcx rcy (nI s) (nI v) σ' ∧ zag [(38, some 12), (38, some 13), (38, some 14)] σ σ' ∧ LSt α (some x) σ' := fun e => by
    refine ⟨zuI (zuI (zuI σ 38 14 (nI r)) 38 12 (nI s)) 38 13 (nI v), rfl, zag_t (zag_t (zag_w (W1 := [(38, some 14)]) (by simp) zag_uI) (zag_w (W1 := [(38, some 12)]) (by simp) zag_uI)) (zag_w (W1 := [(38, some 13)]) (by simp) zag_uI), ?_, ?_, ?_⟩
    · rw [zuI_n (by simp), zuI_s, hx.1]
    · rw [zuI_s, hx.2]
    · rw [zuI_n (by simp), zuI_n (by simp), zuI_s, e, hx.1, hx.2]
  rw [znb_s, if_pos hvc]
  unfold f_X0_seekTrial_81
  cases hb : znb α x with
  | none =>
    rw [hb] at hL
    have h14 : σ.1 38 14 = nI ((zLA α).length + 1) := hL
    have e : r = zga α s v := by
      rcases hrr _ h14 (by omega) with q | q
      · exact q
      · omega
    rw [h14, if_neg (nI_ge (by omega) (by omega))]
    exact take e
  | some b =>
    rw [hb] at hL
    have hbl := zga_le α (b / 5) (b % 5)
    have h14 := hL.2.2
    rw [h14]
    rw [hx.1, hx.2]
    try simp only
    rcases hrr _ h14 (by omega) with e | ⟨q1, q2⟩
    · by_cases hlt : zga α s v < zga α (b / 5) (b % 5)
      · rw [if_neg (nI_ge (show r < zga α (b / 5) (b % 5) by omega) (by omega)), if_pos hlt]
        exact take e
      · rw [if_pos (nI_le (show zga α (b / 5) (b % 5) ≤ r by omega) (by omega)), if_neg hlt]
        exact ⟨σ, rfl, zag_r, hL⟩
    · rw [if_pos (nI_le q1 (by omega)), if_neg (by omega)]
      exact ⟨σ, rfl, zag_r, hL⟩
theorem LSt.bound {α : AS} {b : Option Nat} {σ : ZM} (h : LSt α b σ) (h256 : (zLA α).length ≤ 256) : ∃ B, σ.1 38 14 = nI B ∧ B ≤ 257 := by
  cases b with
  | none => exact ⟨_, h, by omega⟩
  | some x => exact ⟨_, h.2.2, by have := zga_le α (x / 5) (x % 5); omega⟩
theorem zw_seek38 {N : Nat} (hN : 700 < N) {α : AS} (hW : WF α) {s : Nat} (hs : s < α 0 2) (hu : α 6 s = 1) {rcx : Int32 → ZM → Option (Unit × ZM)} : ∀ (k m v : Nat) (σ : ZM), v + k = 5 → k < m → RC α σ → Sif α σ → LSt α (znb α (5 * s + v)) σ → ∃ σ', f_X0_seekTrial_38 N rcx m (nI s) (nI v) σ = rcx (nI (s + 1)) σ' ∧ zag zWF3 σ σ' ∧ LSt α (znb α (5 * s + 5)) σ'
  | 0, m, v, σ, h1, h2, hC, hS, hL => by
    obtain ⟨m, rfl⟩ : ∃ q, m = q + 1 := ⟨m - 1, by omega⟩
    have e : v = 5 := by omega
    subst e
    refine ⟨σ, ?_, zag_r, hL⟩
    show b_X0_seekTrial_38 N rcx (f_X0_seekTrial_38 N rcx m) (nI s) (nI 5) σ = _
    unfold b_X0_seekTrial_38 f_X0_seekTrial_111
    rw [if_pos (by decide), Option.bind_some, nI_1]
  | k + 1, m, v, σ, h1, h2, hC, hS, hL => by
    have hs0 := hW.1.2.2.1
    have hl := zLA_len α
    have hM := hS.1
    obtain ⟨m, rfl⟩ : ∃ q, m = q + 1 := ⟨m - 1, by omega⟩
    have hs4 : s < 4 := by omega
    have hxv : (5 * s + v) / 5 = s ∧ (5 * s + v) % 5 = v := by omega
    have hv7 := hW.2.2.2.2.2.1.2.1 s
    have go : ∀ u, f_X0_seekTrial_105 N rcx (f_X0_seekTrial_38 N rcx m) (nI s) (nI v) u = f_X0_seekTrial_38 N rcx m (nI s) (nI (v + 1)) u := fun u => by
      unfold f_X0_seekTrial_105
      rw [Option.bind_some, nI_1]
    have pre : f_X0_seekTrial_38 N rcx (m + 1) (nI s) (nI v) σ = (if nI v = nI (α 7 s) then f_X0_seekTrial_81 N rcx (f_X0_seekTrial_38 N rcx m) (nI s) (nI v) (σ.1 38 14) σ else (zbd (f_X0_greatestAlike N (nI s) (nI v) σ) fun r8 s9 => f_X0_seekTrial_81 N rcx (f_X0_seekTrial_38 N rcx m) (nI s) (nI v) r8 s9)) := by
      show b_X0_seekTrial_38 N rcx (f_X0_seekTrial_38 N rcx m) (nI s) (nI v) σ = _
      unfold b_X0_seekTrial_38
      rw [if_neg (show ¬ (4 : Int32) < nI v from fun q => by rw [Int32.lt_iff_toInt_lt, nI_toInt (by omega)] at q; have : (4 : Int32).toInt = 4 := rfl; omega), zald_nI hs4 (by decide), Option.bind_some, (hC.ca.2 s hs4).2.2.2, hu, if_neg (show ¬ nI 1 = 0 by decide), hC.knd hs4, Option.bind_some]
    rw [pre]
    by_cases hk : v = α 7 s
    · have hvc : ¬ zvc α (5 * s + v) = true := fun q => by
        have := of_decide_eq_true q
        rw [hxv.1, hxv.2] at this
        exact this.2 hk.symm
      have en : znb α (5 * s + v + 1) = znb α (5 * s + v) := by rw [znb_s, if_neg hvc]
      rw [if_pos (by rw [hk])]
      obtain ⟨B, hB, hBl⟩ := hL.bound (by omega)
      have e81 : f_X0_seekTrial_81 N rcx (f_X0_seekTrial_38 N rcx m) (nI s) (nI v) (σ.1 38 14) σ = f_X0_seekTrial_105 N rcx (f_X0_seekTrial_38 N rcx m) (nI s) (nI v) σ := by
        unfold f_X0_seekTrial_81
        rw [hB, if_pos (nI_le (Nat.le_refl _) (by omega))]
      rw [e81, go]
      exact zw_seek38 hN hW hs hu k m (v + 1) σ (by omega) (by omega) hC hS (by rw [show 5 * s + (v + 1) = 5 * s + v + 1 by omega, en]; exact hL)
    · have hvc : zvc α (5 * s + v) = true := decide_eq_true (by rw [hxv.1, hxv.2]; exact ⟨hu, fun q => hk q.symm⟩)
      obtain ⟨B, hB, hBl⟩ := hL.bound (by omega)
      obtain ⟨r, s1, a1, a2, a3, a4⟩ := zw_greatC hN hW hC hS hs4 (show v ≤ 4 by omega) hB (by omega)
      have s14 : s1.1 38 14 = nI B := by rw [(a2 38 14 (by decide) (by decide)).1]; exact hB
      have hL1 : LSt α (znb α (5 * s + v)) s1 := hL.mv (fun i hi => (a2 38 i (by simp) (by simp; omega)).1)
      obtain ⟨s2, b1, b2, b3⟩ := zw_seek81 (N := N) (α := α) (by omega) hxv hvc hL1 a3 (fun B' hB' hBl' => by
        have : B' = B := nI_inj (by omega) (by omega) (hB'.symm.trans s14)
        rw [this]; exact a4) (rcx := rcx) (rcy := f_X0_seekTrial_38 N rcx m)
      have g2 : zag zWF3 σ s2 := zag_t (zag_w (by simp) a2) (zag_w (by simp) b2)
      rw [if_neg (fun q => hk (nI_inj (by omega) (by omega) q)), a1]
      unfold zbd
      rw [Option.bind_some]
      try simp only
      rw [b1, go]
      obtain ⟨s3, d1, d2, d3⟩ := zw_seek38 hN hW hs hu (rcx := rcx) k m (v + 1) s2 (by omega) (by omega) (hC.frF3 g2) (hS.frF3 g2) (by rw [show 5 * s + (v + 1) = 5 * s + v + 1 by omega]; exact b3)
      exact ⟨s3, d1, zag_t g2 d2, d3⟩
theorem znb_skip {α : AS} {x : Nat} : ∀ k, (∀ y, x ≤ y → y < x + k → zvc α y = false) → znb α (x + k) = znb α x
  | 0, _ => rfl
  | k + 1, h => by
    show znb α (x + k + 1) = znb α x
    rw [znb_s, h (x + k) (by omega) (by omega), if_neg (by decide)]
    exact znb_skip k (fun y h1 h2 => h y h1 (by omega))
theorem zw_seek25 {N : Nat} (hN : 700 < N) {α : AS} (hW : WF α) : ∀ (k m s : Nat) (σ : ZM), s + k = α 0 2 → k < m → RC α σ → Sif α σ → LSt α (znb α (5 * s)) σ → ∃ σ', f_X0_seekTrial_25 N m (nI s) σ = some ((), σ') ∧ zag zWF3 σ σ' ∧ LSt α (znb α (5 * α 0 2)) σ'
  | 0, m, s, σ, h1, h2, hC, hS, hL => by
    have hs0 := hW.1.2.2.1
    obtain ⟨m, rfl⟩ : ∃ q, m = q + 1 := ⟨m - 1, by omega⟩
    have e : s = α 0 2 := by omega
    subst e
    refine ⟨σ, ?_, zag_r, hL⟩
    show b_X0_seekTrial_25 N (f_X0_seekTrial_25 N m) (nI (α 0 2)) σ = _
    unfold b_X0_seekTrial_25
    rw [hC.sites, if_pos (zle_self (by omega))]
  | k + 1, m, s, σ, h1, h2, hC, hS, hL => by
    have hs0 := hW.1.2.2.1
    obtain ⟨m, rfl⟩ : ∃ q, m = q + 1 := ⟨m - 1, by omega⟩
    have hs : s < α 0 2 := by omega
    have pre : f_X0_seekTrial_25 N (m + 1) (nI s) σ = f_X0_seekTrial_38 N (f_X0_seekTrial_25 N m) N (nI s) (nI 0) σ := by
      show b_X0_seekTrial_25 N (f_X0_seekTrial_25 N m) (nI s) σ = _
      unfold b_X0_seekTrial_25
      rw [hC.sites, if_neg (nI_ge hs (by omega))]
      rfl
    rw [pre]
    rcases (show α 6 s = 0 ∨ α 6 s = 1 by have := hW.2.2.2.2.2.1.1 s; omega) with hu | hu
    · have en : znb α (5 * (s + 1)) = znb α (5 * s) := by
        have := znb_skip (α := α) (x := 5 * s) 5 (fun y y1 y2 => decide_eq_false (fun q => by
          have : y / 5 = s := by omega
          rw [this] at q
          omega))
        rw [show 5 * (s + 1) = 5 * s + 5 by omega]
        exact this
      obtain ⟨m2, hm2⟩ : ∃ m2, N = m2 + 1 := ⟨N - 1, by omega⟩
      have e38 : f_X0_seekTrial_38 N (f_X0_seekTrial_25 N m) N (nI s) (nI 0) σ = f_X0_seekTrial_25 N m (nI (s + 1)) σ := by
        have : f_X0_seekTrial_38 N (f_X0_seekTrial_25 N m) (m2 + 1) (nI s) (nI 0) σ = f_X0_seekTrial_25 N m (nI (s + 1)) σ := by
          show b_X0_seekTrial_38 N (f_X0_seekTrial_25 N m) (f_X0_seekTrial_38 N (f_X0_seekTrial_25 N m) m2) (nI s) (nI 0) σ = _
          unfold b_X0_seekTrial_38 f_X0_seekTrial_111
          rw [if_neg (by decide), zald_nI (show s < 4 by omega) (by decide), Option.bind_some, (hC.ca.2 s (by omega)).2.2.2, hu, if_pos (show nI 0 = 0 from rfl), Option.bind_some, nI_1]
        rw [← hm2] at this
        exact this
      rw [e38]
      exact zw_seek25 hN hW k m (s + 1) σ (by omega) (by omega) hC hS (by rw [en]; exact hL)
    · obtain ⟨s1, a1, a2, a3⟩ := zw_seek38 hN hW hs hu (rcx := f_X0_seekTrial_25 N m) 5 N 0 σ (by omega) (by omega) hC hS hL
      rw [a1]
      obtain ⟨s2, b1, b2, b3⟩ := zw_seek25 hN hW k m (s + 1) s1 (by omega) (by omega) (hC.frF3 a2) (hS.frF3 a2) (by rw [show 5 * (s + 1) = 5 * s + 5 by omega]; exact a3)
      exact ⟨s2, b1, zag_t a2 b2, b3⟩
