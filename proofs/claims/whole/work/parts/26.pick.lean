/-! ===== the class: hear and pick ===== -/
def zls (p : Nat → Bool) : Nat → List Nat
  | 0 => []
  | k + 1 => if p k = true then zls p k ++ [k] else zls p k
theorem zls_len (p : Nat → Bool) : ∀ k, (zls p k).length ≤ k
  | 0 => Nat.le_refl _
  | k + 1 => by
    have := zls_len p k
    unfold zls
    split
    · rw [List.length_append]; simp; omega
    · omega
theorem zls_mem {p : Nat → Bool} {x : Nat} : ∀ k, x ∈ zls p k ↔ x < k ∧ p x = true
  | 0 => by simp [zls]
  | k + 1 => by
    have ih := zls_mem (p := p) (x := x) k
    unfold zls
    split
    · rename_i h
      rw [List.mem_append, ih]
      simp only [List.mem_singleton]
      constructor
      · rintro (q | q)
        · exact ⟨by omega, q.2⟩
        · exact ⟨by omega, q ▸ h⟩
      · intro q
        by_cases e : x = k
        · exact Or.inr e
        · exact Or.inl ⟨by omega, q.2⟩
    · rename_i h
      rw [ih]
      constructor
      · intro q; exact ⟨by omega, q.2⟩
      · intro q
        refine ⟨?_, q.2⟩
        have : x ≠ k := fun e => h (e ▸ q.2)
        omega
theorem zls_skip {p : Nat → Bool} {a : Nat} : ∀ k, (∀ x, a ≤ x → x < a + k → p x = false) → zls p (a + k) = zls p a
  | 0, _ => rfl
  | k + 1, h => by
    have ih := zls_skip k (fun x h1 h2 => h x h1 (by omega))
    show zls p (a + k + 1) = _
    unfold zls
    rw [if_neg (by rw [h (a + k) (by omega) (by omega)]; decide), ih]
    cases a <;> rfl
def ZH (κ : AS) (w : WD) (n : Nat) (L : List Nat) (σ : ZM) : Prop := σ.1 17 5 = nI L.length ∧ ∀ (j c : Nat), L[j]? = some c → σ.2 21 j = zen (some (zofw κ w n c))
theorem ZH.add {κ : AS} {w : WD} {n c : Nat} {L : List Nat} {σ : ZM} (h : ZH κ w n L σ) : ZH κ w n (L ++ [c]) (zuI (zuJ σ 21 L.length (zen (some (zofw κ w n c)))) 17 5 (nI (L.length + 1))) := by
  refine ⟨?_, fun j d hd => ?_⟩
  · rw [zuI_s, List.length_append]; rfl
  · show (zuJ σ 21 L.length _).2 21 j = _
    by_cases hj : j < L.length
    · rw [List.getElem?_append_left hj] at hd
      rw [← h.2 j d hd]
      simp only [zuJ, if_true]
      exact pk_uLn (by omega)
    · rw [List.getElem?_append_right (by omega)] at hd
      have : j = L.length := by
        by_cases e : j - L.length = 0
        · omega
        · rw [List.getElem?_eq_none (by simp; omega)] at hd; cases hd
      subst this
      rw [Nat.sub_self] at hd
      cases hd
      simp only [zuJ, if_true]
      exact pk_uLs
theorem RC.home {α : AS} {σ : ZM} (h : RC α σ) {i : Nat} (hi : i < 4) : zald σ 8 4 (nI i) = some (nI (α 4 i)) := by
  rw [zald_nI hi (by decide)]
  have := h.at 8 0 4 0 4 (by decide) hi
  rw [Nat.zero_add] at this
  rw [this]
theorem RC.join {α : AS} {σ : ZM} (h : RC α σ) {a b : Nat} (ha : a < 10) (hb : b < 10) : ∃ m, zald σ 5 10 (nI a) = some (nI m) ∧ m < 1024 ∧ m.testBit b = decide (α 1 (10 * a + b) ≠ 0) := by
  obtain ⟨m, h1, h2, h3⟩ := h.2.2.2.1 a ha
  exact ⟨m, by rw [zald_nI ha (by decide), h1], h2, h3 b hb⟩
theorem zrev0 {v : Nat} : zrev v = 0 ↔ v = 0 := by unfold zrev; split <;> (try split) <;> omega
theorem WF.tie0 {α : AS} (h : WF α) {a b : Nat} (ha : a < 10) (hb : b < 10) : α 1 (10 * a + b) = 0 ↔ α 1 (10 * b + a) = 0 := by rw [h.2.1.2.1 a b ha hb, zrev0]
theorem zag_hear {σ : ZM} {j : Nat} {v : Int64} {x : Int32} : zag zWH σ (zuI (zuJ σ 21 j v) 17 5 x) := by
  refine zag_t (s1 := zuJ σ 21 j v) (zag_w (W1 := [(21, none)]) (by simp) (zag_all zag_uJ)) (zag_w (W1 := [(17, some 5)]) (by simp) zag_uI)
theorem zw_hear {N : Nat} (hN : 14 < N) {α κ : AS} {w1 : Nat} {w : WD} {σ : ZM} (hw : zwc w1) (hW : WF α) (hK : KW α κ) (hV : VW α κ w) (h : CC α κ w1 w σ) {n : Nat} (hn : n < α 0 0) : ∃ σ', f_X2_hear N w1 (nI n) σ = some ((), σ') ∧ CC α κ w1 w σ' ∧ ZH κ w n (zls (zoffr α κ w n) 14) σ' := by
  have hn0 : α 0 0 ≤ 10 := hW.1.1
  have hn10 : n < 10 := by omega
  obtain ⟨a, u, k, g1, g2, g3, g4, g5⟩ := h.2.1
  -- the second loop
  have second : ∀ σ1, CC α κ w1 w σ1 → ZH κ w n (zls (zoffr α κ w n) 4) σ1 → ∃ σ', f_X2_hear_74 N w1 N (nI n) 0 σ1 = some ((), σ') ∧ CC α κ w1 w σ' ∧ ZH κ w n (zls (zoffr α κ w n) 14) σ' := by
    intro σ1 c1 z1
    obtain ⟨m', s', e1, e2, e3, e4⟩ := zloopS (fun m (q : Int32 × ZM) => f_X2_hear_74 N w1 m (nI n) q.1 q.2) (fun i q => q.1 = nI i ∧ CC α κ w1 w q.2 ∧ ZH κ w n (zls (zoffr α κ w n) (4 + i)) q.2) (α 0 0) (by
      rintro m i ⟨x, s⟩ hi ⟨p1, p2, p3⟩
      simp only at p1 p2 p3
      subst p1
      have hle : ¬ nI (α 0 0) ≤ nI i := nI_ge hi (by omega)
      obtain ⟨mk, j1, j2, j3⟩ := p2.1.join hn10 (show i < 10 by omega)
      have off : zoffr α κ w n (4 + i) = zpas α κ w n i := by
        unfold zoffr; rw [if_neg (by omega), Nat.add_sub_cancel_left]
      have hls : zls (zoffr α κ w n) (4 + (i + 1)) = if zpas α κ w n i = true then zls (zoffr α κ w n) (4 + i) ++ [4 + i] else zls (zoffr α κ w n) (4 + i) := by
        rw [← off]; rfl
      have hlen := zls_len (zoffr α κ w n) (4 + i)
      by_cases hb : α 1 (10 * n + i) = 0
      · have hb' : ((nI mk >>> (nI i &&& 31)) &&& (1 : Int32)) = 0 := by rw [zbitZ (by omega) (by omega), j3]; simp [hb]
        have hz : zpas α κ w n i = false := by
          unfold zpas
          have := (hW.tie0 (a := n) (b := i) hn10 (by omega)).mp hb
          cases w i <;> simp [this]
        refine ⟨(nI (i + 1), s), ?_, rfl, p2, ?_⟩
        · simp only [f_X2_hear_74, b_X2_hear_74, p2.1.nets, hle, if_false, j1, Option.bind_some, hb', if_true, f_X2_hear_140, nI_1]
        · rw [hls, hz]; exact p3
      · have hb' : ¬ ((nI mk >>> (nI i &&& 31)) &&& (1 : Int32)) = 0 := by rw [zbitZ (by omega) (by omega), j3]; simp [hb]
        have hb2 : α 1 (10 * i + n) ≠ 0 := fun q => hb ((hW.tie0 (a := n) (b := i) hn10 (by omega)).mpr q)
        have hp := zw_passesOn (N := N) hW hK hV p2 (m := i) (n := n) (by omega) hn10
        by_cases hx : ∃ x, w i = some x ∧ zpas2 α κ n i x = true
        · obtain ⟨x, hx1, hx2⟩ := hx
          have hz : zpas α κ w n i = true := by
            unfold zpas; rw [hx1]; simp [hb2, hx2]
          obtain ⟨o1, o2⟩ := hV.offer hW hK hn (show 4 + i < 14 by omega) (by rw [off]; exact hz)
          obtain ⟨y, y1, y2, y3, y4, y5, y6, y7⟩ := o2 (by omega)
          rw [Nat.add_sub_cancel_left, hx1] at y1
          cases y1
          have hv := (hV i x hx1).2.1
          have hpo := zw_passedOn (N := N) hv hn10 y4 y2 y3 s
          rw [zbI_t ⟨x, hx1, hx2⟩] at hp
          refine ⟨(nI (i + 1), zuI (zuJ s 21 (zls (zoffr α κ w n) (4 + i)).length (zen (some (zofw κ w n (4 + i))))) 17 5 (nI ((zls (zoffr α κ w n) (4 + i)).length + 1))), ?_, rfl, p2.fr hw hn0 zag_hear, ?_⟩
          · simp only [f_X2_hear_74, b_X2_hear_74, p2.1.nets, hle, if_false, j1, Option.bind_some, hb', hp, zbd, z10, zalJ_nI (show i < 10 by omega) (show 10 < 2 ^ 31 by decide), p2.2.2.2 i (by omega), hx1, zen, hpo, p3.1, zasJ_nI (show (zls (zoffr α κ w n) (4 + i)).length < 14 by omega) (show 14 < 2 ^ 31 by decide), zpI, f_X2_hear_140, nI_1, y6]
            simp only [zuJ, p3.1, nI_1]
          · rw [hls, hz, if_pos rfl]; exact p3.add
        · have hz : zpas α κ w n i = false := by
            unfold zpas
            cases hwi : w i with
            | none => rfl
            | some x =>
              have : zpas2 α κ n i x = false := by
                cases hh : zpas2 α κ n i x with
                | false => rfl
                | true => exact absurd ⟨x, hwi, hh⟩ hx
              simp [this]
          rw [zbI_f hx] at hp
          refine ⟨(nI (i + 1), s), ?_, rfl, p2, ?_⟩
          · simp only [f_X2_hear_74, b_X2_hear_74, p2.1.nets, hle, if_false, j1, Option.bind_some, hb', hp, zbd, if_true, f_X2_hear_140, nI_1]
          · rw [hls, hz]; exact p3) N 0 (0, σ1) (by omega) (by omega) ⟨rfl, c1, z1⟩
    obtain ⟨x, s⟩ := s'
    simp only at e1 e2 e3 e4
    subst e2
    refine ⟨s, ?_, e3, ?_⟩
    · rw [e1]
      simp only [f_X2_hear_74, b_X2_hear_74, e3.1.nets, zle_self (show α 0 0 ≤ 100 by omega), if_true]
    · have : zls (zoffr α κ w n) (4 + α 0 0 + (10 - α 0 0)) = zls (zoffr α κ w n) (4 + α 0 0) := zls_skip _ (fun x h1 h2 => by
        unfold zoffr
        rw [if_neg (by omega)]
        unfold zpas
        cases hwx : w (x - 4) with
        | none => rfl
        | some y => exact absurd (hV _ _ hwx).1 (by omega))
      rw [show 4 + α 0 0 + (10 - α 0 0) = 14 by omega] at this
      rw [this]; exact e4
  -- the first loop
  have h0 : CC α κ w1 w (zuI σ 17 5 0) := h.fr hw hn0 (zag_w (W1 := [(17, some 5)]) (by simp) zag_uI)
  have z0 : ZH κ w n (zls (zoffr α κ w n) 0) (zuI σ 17 5 0) := ⟨by rw [zuI_s]; rfl, fun j c hc => by cases hc⟩
  obtain ⟨m', s', e1, e2, e3, e4⟩ := zloopS (fun m (q : Int32 × ZM) => f_X2_hear_7 N w1 m (nI n) q.1 q.2) (fun i q => q.1 = nI i ∧ CC α κ w1 w q.2 ∧ ZH κ w n (zls (zoffr α κ w n) i) q.2 ∧ q.2.1 w1 0 = nI a ∧ ∀ s, s < 4 → q.2.1 (w1 + 1) s = nI (k s)) a (by
    rintro m i ⟨x, s⟩ hi ⟨p1, p2, p3, p4, p5⟩
    simp only at p1 p2 p3 p4 p5
    subst p1
    have hi4 : i < 4 := by omega
    have hle : ¬ nI a ≤ nI i := nI_ge hi (by omega)
    have hh := hW.2.2.2.2.1 i (by omega)
    have off : zoffr α κ w n i = zspk α κ n i := by unfold zoffr; rw [if_pos hi4]
    have hls : zls (zoffr α κ w n) (i + 1) = if zspk α κ n i = true then zls (zoffr α κ w n) i ++ [i] else zls (zoffr α κ w n) i := by
      rw [← off]; rfl
    have hlen := zls_len (zoffr α κ w n) i
    by_cases hb : α 4 i = n
    · have hb' : nI (α 4 i) = nI n := by rw [hb]
      have hsd := zw_isSaid (N := N) p2.2.1 hi4
      by_cases hx : κ 0 i ≠ 4
      · have hz : zspk α κ n i = true := by unfold zspk; simp [hb, hx]
        have hk4 := hK.1 i
        have hki : k i = κ 0 i := by
          obtain ⟨q1, q2, q3, q4, q5, q6, q7⟩ := g5 i hi4
          rw [q7] at hx ⊢
          split at hx
          · rename_i hc; rw [if_pos hc]
          · exact absurd rfl hx
        have hof := (zw_ofSite (N := N) (s := i) (k := κ 0 i) (m := n) hi4 (by omega) hn10 s).1
        have ew : zofw κ w n i = (i, κ 0 i + 1, [n]) := by unfold zofw; rw [if_pos hi4]
        rw [zbI_t hx] at hsd
        have cc := p2.fr hw hn0 (zag_hear (σ := s) (j := (zls (zoffr α κ w n) i).length) (v := zen (some (zofw κ w n i))) (x := nI ((zls (zoffr α κ w n) i).length + 1)))
        have ne1 : w1 ≠ 17 := by unfold zwc at hw; omega
        have ne2 : w1 + 1 ≠ 17 := by unfold zwc at hw; omega
        refine ⟨(nI (i + 1), zuI (zuJ s 21 (zls (zoffr α κ w n) i).length (zen (some (zofw κ w n i)))) 17 5 (nI ((zls (zoffr α κ w n) i).length + 1))), ?_, rfl, cc, ?_, ?_, ?_⟩
        · simp only [f_X2_hear_7, b_X2_hear_7, p4, hle, if_false, p2.1.home hi4, Option.bind_some, hb', if_true, hsd, zbd, z10, zald_nI hi4 (show 4 < 2 ^ 31 by decide), p5 i hi4, hki, hof, p3.1, zasJ_nI (show (zls (zoffr α κ w n) i).length < 14 by omega) (show 14 < 2 ^ 31 by decide), zpI, f_X2_hear_66, nI_1, ew, zen]
          simp only [zuJ, p3.1, nI_1]
        · rw [hls, hz, if_pos rfl]; exact p3.add
        · show (zuI _ 17 5 _).1 w1 0 = _
          rw [zuI_n (fun q => ne1 q.1)]; exact p4
        · intro t ht
          show (zuI _ 17 5 _).1 (w1 + 1) t = _
          rw [zuI_n (fun q => ne2 q.1)]; exact p5 t ht
      · have hz : zspk α κ n i = false := by unfold zspk; simp only [decide_eq_false_iff_not]; exact fun q => hx q.1
        rw [zbI_f hx] at hsd
        refine ⟨(nI (i + 1), s), ?_, rfl, p2, ?_, p4, p5⟩
        · simp only [f_X2_hear_7, b_X2_hear_7, p4, hle, if_false, p2.1.home hi4, Option.bind_some, hb', if_true, hsd, zbd, f_X2_hear_66, nI_1]
        · rw [hls, hz]; exact p3
    · have hb' : ¬ nI (α 4 i) = nI n := fun q => hb (nI_inj (by omega) (by omega) q)
      have hz : zspk α κ n i = false := by unfold zspk; simp only [decide_eq_false_iff_not]; exact fun q => hb q.2
      refine ⟨(nI (i + 1), s), ?_, rfl, p2, ?_, p4, p5⟩
      · simp only [f_X2_hear_7, b_X2_hear_7, p4, hle, if_false, p2.1.home hi4, Option.bind_some, hb', f_X2_hear_66, nI_1]
      · rw [hls, hz]; exact p3) N 0 (0, zuI σ 17 5 0) (by omega) (by omega) ⟨rfl, h0, z0, by
        show (zuI σ 17 5 0).1 w1 0 = _
        rw [zuI_n (fun q => by unfold zwc at hw; omega)]; exact g3, fun t ht => by
        show (zuI σ 17 5 0).1 (w1 + 1) t = _
        rw [zuI_n (fun q => by unfold zwc at hw; omega)]; exact (g5 t ht).1⟩
  obtain ⟨x, s⟩ := s'
  simp only at e1 e2 e3 e4
  subst e2
  obtain ⟨e4, e5, e6⟩ := e4
  have hsk : zls (zoffr α κ w n) 4 = zls (zoffr α κ w n) a := by
    have : zls (zoffr α κ w n) (a + (4 - a)) = zls (zoffr α κ w n) a := zls_skip _ (fun x h1 h2 => by
      unfold zoffr zspk
      rw [if_pos (by omega), decide_eq_false_iff_not]
      have := (g5 x (by omega)).2.2.2.2.2.2
      rw [if_neg (by omega)] at this
      exact fun q => q.1 this)
    rw [show a + (4 - a) = 4 by omega] at this
    exact this
  obtain ⟨σ', r1, r2, r3⟩ := second s e3 (by rw [hsk]; exact e4)
  refine ⟨σ', ?_, r2, r3⟩
  unfold f_X2_hear
  simp only [zpI, Option.bind_some]
  have e1 : f_X2_hear_7 N w1 N (nI n) 0 (zuI σ 17 5 0) = f_X2_hear_7 N w1 (m' + 1) (nI n) (nI a) s := e1
  rw [e1]
  simp only [f_X2_hear_7, b_X2_hear_7, e5, zle_self (show a ≤ 100 by omega), if_true]
  exact r1
