/-! ===== the class: rank, pick, a round, rounds till rest ===== -/
theorem zorN {a b : Nat} (ha : a < 2 ^ 31) (hb : b < 2 ^ 31) : nI a ||| nI b = nI (a ||| b) := by
  apply Int32.toBitVec_inj.mp
  apply BitVec.eq_of_toNat_eq
  have h1 : (nI a ||| nI b).toBitVec = (nI a).toBitVec ||| (nI b).toBitVec := rfl
  rw [h1, BitVec.toNat_or, pk_tn (by omega), pk_tn (by omega), pk_tn (Nat.lt_of_lt_of_le (Nat.or_lt_two_pow ha hb) (by decide))]
theorem zone {t : Nat} (h : t < 10) : (1 : Int32) <<< (nI t &&& 31) = nI (2 ^ t) := by
  have : ∀ t, t < 10 → (1 : Int32) <<< (nI t &&& 31) = nI (2 ^ t) := by decide +kernel
  exact this t h
theorem zrk_or {a b c : Nat} (ha : a < 16) (hb : b < 16) (hc : c < 16) : ((nI a <<< ((10 : Int32) &&& 31)) ||| (nI b <<< ((5 : Int32) &&& 31))) ||| nI c = nI (a * 1024 + b * 32 + c) := by
  have h : (List.range 16).all (fun a => (List.range 16).all fun b => (List.range 16).all fun c => decide (((nI a <<< ((10 : Int32) &&& 31)) ||| (nI b <<< ((5 : Int32) &&& 31))) ||| nI c = nI (a * 1024 + b * 32 + c))) = true := by decide +kernel
  exact of_decide_eq_true (List.all_eq_true.mp (List.all_eq_true.mp (List.all_eq_true.mp h a (List.mem_range.mpr ha)) b (List.mem_range.mpr hb)) c (List.mem_range.mpr hc))
theorem zw_rank67 {N : Nat} {κ : AS} {σ : ZM} {n pay nam fro : Nat} (hn : n < 10) (hr : σ.1 18 n = nI (κ 3 n)) (hk : κ 3 n ≤ 3) (h1 : pay < 16) (h2 : nam < 16) (h3 : fro < 16) : f_X2_rank_67 N (nI n) (nI nam) (nI pay) (nI fro) σ = some (nI (zrk3 (κ 3 n) pay nam fro), σ) := by
  unfold f_X2_rank_67 zrk3
  rw [zald_nI hn (by decide), hr]
  simp only [Option.bind_some]
  by_cases c2 : κ 3 n = 2
  · rw [if_pos (show nI (κ 3 n) = 2 by rw [c2]; rfl), if_pos c2, zrk_or h2 h1 h3]
  · rw [if_neg (zk2 c2), if_neg c2]
    by_cases c3 : κ 3 n = 3
    · rw [if_pos (show nI (κ 3 n) = 3 by rw [c3]; rfl), if_pos c3, zrk_or h1 h3 h2]
    · rw [if_neg (zk3 c3), if_neg c3, zrk_or h1 h2 h3]
theorem zrk3_lt {r a b c : Nat} (ha : a < 16) (hb : b < 16) (hc : c < 16) : zrk3 r a b c < 2 ^ 20 := by
  unfold zrk3
  split
  · omega
  · split <;> omega
theorem zw_rank {N : Nat} {α κ : AS} {w1 : Nat} {w : WD} {σ : ZM} (hW : WF α) (hK : KW α κ) (hV : VW α κ w) (h : CC α κ w1 w σ) {n c : Nat} (hn : n < α 0 0) (hc : c < 14) (ho : zoffr α κ w n c = true) : f_X2_rank N (nI n) (zen (some (zofw κ w n c))) σ = some (nI (zrk α κ w n c), σ) ∧ zrk α κ w n c < 2 ^ 20 := by
  have hn10 : n < 10 := by have := hW.1.1; omega
  obtain ⟨o1, o2⟩ := hV.offer hW hK hn hc ho
  have a1 := zpay_le hW n c
  have a2 := znam_le hW hK hV hn hc ho
  have a3 := zfro_le (κ := κ) (n := n) hc
  have hr := h.2.2.1 n hn
  have hk := hK.2.2.2.2 n
  refine ⟨?_, zrk3_lt (by omega) (by omega) (by omega)⟩
  have hv := o1.1
  unfold f_X2_rank
  rw [show zen (some (zofw κ w n c)) = lN (wn (zofw κ w n c).1 (zofw κ w n c).2.1 (zofw κ w n c).2.2) from rfl, zw_passed1 hv]
  simp only [zbd, Option.bind_some, zw_namesOf hv, zw_siteOf hv]
  by_cases h4 : c < 4
  · have ew : zofw κ w n c = (c, κ 0 c + 1, [n]) := by unfold zofw; rw [if_pos h4]
    have e1 : (zofw κ w n c).2.2[1]? = none := by rw [ew]; rfl
    rw [e1]
    simp only [if_true]
    have ef : (zofw κ w n c).1 = zfro κ n c := by rw [ew]; unfold zfro; rw [if_pos h4]
    have ep : zpay α n c = 0 := by unfold zpay; rw [if_pos h4]
    rw [ef]
    have := zw_rank67 (N := N) (κ := κ) (σ := σ) (n := n) (pay := 0) (nam := znam κ w n c) (fro := zfro κ n c) hn10 hr hk (by omega) (by omega) (by omega)
    unfold zrk
    rw [ep, ← this]
    rfl
  · obtain ⟨y, y1, y2, y3, y4, y5, y6, y7, y8⟩ := o2 h4
    have hy0 := (hV _ y y1).2.2.1
    have e1 : (zofw κ w n c).2.2[1]? = some (c - 4) := by rw [y6]; exact hy0
    rw [e1]
    simp only
    rw [if_neg (nI_m9 (by omega)), h.1.bond hn10 (show c - 4 < 10 by omega)]
    simp only [Option.bind_some]
    have ht : α 1 (10 * n + (c - 4)) ≠ 0 := fun q => y7 ((hW.tie0 hn10 (by omega)).mp q)
    have ep : nI (α 1 (10 * n + (c - 4))) - 1 = nI (zpay α n c) := by
      unfold zpay
      rw [if_neg h4]
      obtain ⟨v, hv⟩ : ∃ v, α 1 (10 * n + (c - 4)) = v + 1 := ⟨α 1 (10 * n + (c - 4)) - 1, by omega⟩
      rw [hv, nI_pred]; rfl
    rw [ep, zald_nI hn10 (by decide), hr]
    simp only [Option.bind_some]
    have key : ∀ f : Nat, f = zfro κ n c → f_X2_rank_67 N (nI n) (nI (zofw κ w n c).2.1) (nI (zpay α n c)) (nI f) σ = some (nI (zrk α κ w n c), σ) := by
      intro f hf
      rw [hf]
      exact zw_rank67 (N := N) (κ := κ) (σ := σ) (n := n) (pay := zpay α n c) (nam := znam κ w n c) (fro := zfro κ n c) hn10 hr hk (by omega) (by omega) (by omega)
    by_cases c1 : κ 3 n = 1
    · rw [if_pos (show nI (κ 3 n) = 1 by rw [c1]; rfl)]
      unfold f_X2_rank_64
      simp only [Option.bind_some]
      rw [show (9 : Int32) = nI 9 from rfl, pk_sub (show c - 4 ≤ 9 by omega), show (4 : Int32) = nI 4 from rfl, nI_add]
      exact key _ (by unfold zfro; rw [if_neg h4, if_pos c1]; omega)
    · rw [if_neg (zk1 c1)]
      unfold f_X2_rank_64
      simp only [Option.bind_some]
      rw [show (4 : Int32) = nI 4 from rfl, nI_add]
      exact key _ (by unfold zfro; rw [if_neg h4, if_neg c1]; omega)
def ZR (r : Nat → Nat) (L : List Nat) (σ : ZM) : Prop := ∀ (j c : Nat), L[j]? = some c → σ.1 22 j = nI (r c)
theorem zstep_none {α κ : AS} {w : WD} {n : Nat} (h : ∀ c, c < 14 → zoffr α κ w n c = true → False) : zstep α κ w n = none := by
  unfold zstep
  by_cases hn : n < α 0 0
  · rw [if_pos hn]
    cases hm : zmn (zoffr α κ w n) (zrk α κ w n) 14 with
    | none => rfl
    | some b => have hb := zmn_some _ _ hm; exact absurd hb.2.1 (fun q => h b hb.1 q)
  · rw [if_neg hn]
theorem zstep_some {α κ : AS} {w : WD} (hW : WF α) (hK : KW α κ) (hV : VW α κ w) {n b : Nat} (hn : n < α 0 0) (hb : b < 14) (ho : zoffr α κ w n b = true) (hm : ∀ x, x < 14 → zoffr α κ w n x = true → zrk α κ w n b ≤ zrk α κ w n x) : zstep α κ w n = some (zofw κ w n b) := by
  have := zmn_eq hW hK hV hn hb ho hm
  unfold zstep; rw [if_pos hn, this]; rfl
theorem zw_pick {N : Nat} (hN : 14 < N) {α κ : AS} {w1 : Nat} {w : WD} {σ : ZM} (hw : zwc w1) (hW : WF α) (hK : KW α κ) (hV : VW α κ w) (h : CC α κ w1 w σ) {n : Nat} (hn : n < α 0 0) {L : List Nat} (hlen : L.length ≤ 14) (hmem : ∀ c, c ∈ L ↔ c < 14 ∧ zoffr α κ w n c = true) (hH : ZH κ w n L σ) : ∃ σ', f_X2_pick N (nI n) σ = some (zen (zstep α κ w n), σ') ∧ zag [(22, none)] σ σ' ∧ ZR (zrk α κ w n) L σ' := by
  have hn0 : α 0 0 ≤ 10 := hW.1.1
  have hn10 : n < 10 := by omega
  by_cases hl : L.length = 0
  · have hnil : L = [] := List.length_eq_zero_iff.mp hl
    have hs : zstep α κ w n = none := zstep_none (fun c hc q => by
      have := (hmem c).mpr ⟨hc, q⟩
      rw [hnil] at this; cases this)
    refine ⟨σ, ?_, zag_r, fun j c hc => by rw [hnil] at hc; cases hc⟩
    unfold f_X2_pick
    rw [hH.1, hl, if_pos (show nI 0 = 0 from rfl), hs]
    rfl
  · obtain ⟨m', s', e1, e2, j, e3, e4, e5, e6, e7, e8⟩ := zloopS (fun m (q : Int32 × Int32 × ZM) => f_X2_pick_13 N m (nI n) q.1 q.2.1 q.2.2)
      (fun i q => q.2.1 = nI i ∧ ∃ j, q.1 = nI j ∧ j < L.length ∧ (i = 0 → j = 0) ∧ zag [(22, none)] σ q.2.2 ∧ (∀ t c, t < i → L[t]? = some c → q.2.2.1 22 t = nI (zrk α κ w n c)) ∧ (0 < i → j < i) ∧ ∀ t c d, t < i → L[t]? = some c → L[j]? = some d → zrk α κ w n d ≤ zrk α κ w n c) L.length (by
      rintro m i ⟨l, x, s⟩ hi ⟨p1, j, p2, p3, p4, p5, p6, p7, p8⟩
      simp only at p1 p2 p5 p6
      subst p1 p2
      have hle : ¬ nI L.length ≤ nI i := nI_ge hi (by omega)
      have cs : CC α κ w1 w s := h.fr hw hn0 (zag_w (by simp) p5)
      have hs5 : s.1 17 5 = nI L.length := by rw [(p5 17 5 (by decide) (by decide)).1]; exact hH.1
      obtain ⟨c, hc⟩ : ∃ c, L[i]? = some c := ⟨L[i], List.getElem?_eq_getElem hi⟩
      obtain ⟨d, hd⟩ : ∃ d, L[j]? = some d := ⟨L[j], List.getElem?_eq_getElem p3⟩
      have hc1 := (hmem c).mp (List.mem_of_getElem? hc)
      have hd1 := (hmem d).mp (List.mem_of_getElem? hd)
      have ho : s.2 21 i = zen (some (zofw κ w n c)) := by rw [(p5 21 i (by decide) (by simp)).2]; exact hH.2 i c hc
      obtain ⟨hr, hr2⟩ := zw_rank (N := N) hW hK hV cs hn hc1.1 hc1.2
      obtain ⟨-, hr3⟩ := zw_rank (N := N) hW hK hV cs hn hd1.1 hd1.2
      have hs6 : zag [(22, none)] σ (zuI s 22 i (nI (zrk α κ w n c))) := zag_t p5 (zag_all zag_uI)
      have v8 : (zuI s 22 i (nI (zrk α κ w n c))).1 22 j = nI (zrk α κ w n d) := by
        by_cases e : j = i
        · subst e
          rw [hc] at hd; cases hd
          rw [zuI_s]
        · rw [zuI_n (fun q => e q.2)]
          have : i ≠ 0 := fun q => e (by rw [p4 q, q])
          exact p6 j d (p7 (by omega)) hd
      have hrk : ∀ t b, t < i + 1 → L[t]? = some b → (zuI s 22 i (nI (zrk α κ w n c))).1 22 t = nI (zrk α κ w n b) := by
        intro t b ht hb
        by_cases e : t = i
        · subst e
          rw [hc] at hb; cases hb
          rw [zuI_s]
        · rw [zuI_n (fun q => e q.2)]
          exact p6 t b (by omega) hb
      by_cases hcmp : zrk α κ w n d ≤ zrk α κ w n c
      · refine ⟨(nI j, nI (i + 1), zuI s 22 i (nI (zrk α κ w n c))), ?_, rfl, j, rfl, p3, fun q => absurd q (by omega), hs6, hrk, fun _ => ?_, ?_⟩
        · have hv : nI (zrk α κ w n d) ≤ nI (zrk α κ w n c) := nI_le hcmp (by omega)
          show b_X2_pick_13 N (f_X2_pick_13 N m) (nI n) (nI j) (nI i) s = f_X2_pick_13 N m (nI n) (nI j) (nI (i + 1)) _
          unfold b_X2_pick_13
          rw [hs5, if_neg hle, zalJ_nI (show i < 14 by omega) (show 14 < 2 ^ 31 by decide), ho, Option.bind_some, hr]
          unfold zbd
          rw [Option.bind_some]
          simp only
          rw [zast_nI (show i < 14 by omega) (show 14 < 2 ^ 31 by decide), Option.bind_some, zald_nI (show i < 14 by omega) (show 14 < 2 ^ 31 by decide), Option.bind_some, zald_nI (show j < 14 by omega) (show 14 < 2 ^ 31 by decide), Option.bind_some, zuI_s, v8, if_pos hv]
          unfold f_X2_pick_55
          rw [Option.bind_some, nI_1]
        · by_cases e : i = 0
          · have := p4 e; omega
          · have := p7 (by omega); omega
        · intro t b d' ht hb hd'
          rw [hd] at hd'; cases hd'
          by_cases e : t = i
          · subst e; rw [hc] at hb; cases hb; exact hcmp
          · exact p8 t b d (by omega) hb hd
      · refine ⟨(nI i, nI (i + 1), zuI s 22 i (nI (zrk α κ w n c))), ?_, rfl, i, rfl, hi, fun q => absurd q (by omega), hs6, hrk, fun _ => by omega, ?_⟩
        · have hv : ¬ nI (zrk α κ w n d) ≤ nI (zrk α κ w n c) := nI_ge (by omega) (by omega)
          show b_X2_pick_13 N (f_X2_pick_13 N m) (nI n) (nI j) (nI i) s = f_X2_pick_13 N m (nI n) (nI i) (nI (i + 1)) _
          unfold b_X2_pick_13
          rw [hs5, if_neg hle, zalJ_nI (show i < 14 by omega) (show 14 < 2 ^ 31 by decide), ho, Option.bind_some, hr]
          unfold zbd
          rw [Option.bind_some]
          simp only
          rw [zast_nI (show i < 14 by omega) (show 14 < 2 ^ 31 by decide), Option.bind_some, zald_nI (show i < 14 by omega) (show 14 < 2 ^ 31 by decide), Option.bind_some, zald_nI (show j < 14 by omega) (show 14 < 2 ^ 31 by decide), Option.bind_some, zuI_s, v8, if_neg hv]
          unfold f_X2_pick_55
          rw [Option.bind_some, nI_1]
        · intro t b d' ht hb hd'
          rw [hc] at hd'; cases hd'
          by_cases e : t = i
          · subst e; rw [hc] at hb; cases hb; exact Nat.le_refl _
          · have := p8 t b d (by omega) hb hd; omega) N 0 (0, 0, σ) (by omega) (by omega) ⟨rfl, 0, rfl, by omega, fun _ => rfl, zag_r, fun t c ht => absurd ht (Nat.not_lt_zero t), fun q => absurd q (by omega), fun t c d ht => absurd ht (Nat.not_lt_zero t)⟩
    obtain ⟨l, x, s⟩ := s'
    simp only at e1 e2 e3 e6 e7
    subst e2 e3
    obtain ⟨d, hd⟩ : ∃ d, L[j]? = some d := ⟨L[j], List.getElem?_eq_getElem e4⟩
    have hd1 := (hmem d).mp (List.mem_of_getElem? hd)
    have hs5 : s.1 17 5 = nI L.length := by rw [(e6 17 5 (by decide) (by decide)).1]; exact hH.1
    have ho : s.2 21 j = zen (some (zofw κ w n d)) := by rw [(e6 21 j (by decide) (by simp)).2]; exact hH.2 j d hd
    have hs := zstep_some hW hK hV hn hd1.1 hd1.2 (fun x hx hox => by
      obtain ⟨t, ht, ht2⟩ := List.getElem_of_mem ((hmem x).mpr ⟨hx, hox⟩)
      exact e8.2 t x d ht (by rw [← ht2]; exact List.getElem?_eq_getElem ht) hd)
    refine ⟨s, ?_, e6, fun t c hc => e7 t c ((List.getElem?_eq_some_iff.mp hc).1) hc⟩
    unfold f_X2_pick
    rw [hH.1, if_neg (zk0 hl), e1]
    simp only [f_X2_pick_13, b_X2_pick_13, hs5, zle_self (show L.length ≤ 100 by omega), if_true, zalJ_nI (show j < 14 by omega) (show 14 < 2 ^ 31 by decide), Option.bind_some, ho, hs]
