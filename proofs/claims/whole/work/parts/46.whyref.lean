/-! ===== why: the reference ===== -/
def zcd (f : Nat) : Nat := if f < 16 then f + 4 else f - 16
theorem zoffr_hi {α κ : AS} {w : WD} (hV : VW α κ w) {n c : Nat} (hc : 4 + α 0 0 ≤ c) : zoffr α κ w n c = false := by
  unfold zoffr
  rw [if_neg (by omega)]
  unfold zpas
  cases hwx : w (c - 4) with
  | none => rfl
  | some y => exact absurd (hV _ _ hwx).1 (by omega)
theorem zoffr_self {α κ : AS} {w : WD} (hW : WF α) {n : Nat} (hn : n < 10) : zoffr α κ w n (n + 4) = false := by
  unfold zoffr
  rw [if_neg (by omega), Nat.add_sub_cancel]
  unfold zpas
  have := hW.2.1.2.2.1 n hn
  cases w n <;> simp [this]
theorem zqj_f {α κ : AS} {w : WD} (hW : WF α) (hK : KW α κ) (hV : VW α κ w) {n b c : Nat} (hn : n < α 0 0) (hb : b < 14) (hc : c < 14) (ob : zoffr α κ w n b = true) (oc : zoffr α κ w n c = true) {i : Nat} : ∀ k, i + k ≤ 3 → zqj (zrk α κ w n) b c i = false → zqj (zrk α κ w n) b c (i + k) = false
  | 0, _, h => h
  | k + 1, hk, h => by
    have ih := zqj_f hW hK hV hn hb hc ob oc k (by omega) h
    cases hz : zqj (zrk α κ w n) b c (i + (k + 1)) with
    | false => rfl
    | true =>
      have := (zqj_s hW hK hV hn hb hc ob oc (show i + k < 3 by omega)).mp hz
      rw [ih] at this
      exact absurd this.1 (by decide)
theorem zw_al67 {N : Nat} {α κ : AS} {w : WD} {σ : ZM} (hW : WF α) (hK : KW α κ) (hV : VW α κ w) (h : MC α κ w σ) {n b c j : Nat} (hn : n < α 0 0) (hb : b < 14) (hc : c < 14) (ob : zoffr α κ w n b = true) (oc : zoffr α κ w n c = true) (hj : j ≤ 3) (h19 : σ.1 19 n = nI (zfc b)) {rcx : Int32 → Int32 → Int32 → Int32 → ZM → Option (Int32 × ZM)} {x3 : Int32} : ∀ (k m i : Nat), i + k = j → k < m → f_X9_alike_67 N rcx m (nI n) (nI j) x3 (nI (zfc c)) (zbI (zqj (zrk α κ w n) b c i = true)) (nI i) σ = f_X9_alike_129 N rcx (nI n) (nI j) x3 (nI (zfc c)) (zbI (zqj (zrk α κ w n) b c j = true)) σ
  | 0, m, i, h1, h2 => by
    obtain ⟨m, rfl⟩ : ∃ q, m = q + 1 := ⟨m - 1, by omega⟩
    have e : i = j := by omega
    subst e
    show b_X9_alike_67 N rcx (f_X9_alike_67 N rcx m) (nI n) (nI i) x3 (nI (zfc c)) _ (nI i) σ = _
    unfold b_X9_alike_67
    rw [if_pos (zle_self (by omega))]
  | k + 1, m, i, h1, h2 => by
    have hn10 : n < 10 := by have := hW.1.1; omega
    obtain ⟨m, rfl⟩ : ∃ q, m = q + 1 := ⟨m - 1, by omega⟩
    have ih := zw_al67 (N := N) hW hK hV h hn hb hc ob oc hj h19 (rcx := rcx) (x3 := x3) k m (i + 1) (by omega) (by omega)
    show b_X9_alike_67 N rcx (f_X9_alike_67 N rcx m) (nI n) (nI j) x3 (nI (zfc c)) _ (nI i) σ = _
    unfold b_X9_alike_67
    rw [if_neg (nI_ge (show i < j by omega) (by omega))]
    cases hz : zqj (zrk α κ w n) b c i with
    | false =>
      have := zqj_f hW hK hV hn hb hc ob oc (k + 1) (by omega) hz
      rw [h1] at this
      rw [this, show zbI (false = true) = 0 from rfl, if_pos rfl]
    | true =>
      have hi3 : i < 3 := by omega
      have s := zqj_s hW hK hV hn hb hc ob oc hi3
      rw [hz] at s
      have wc := zwo_lt (t := zthg (κ 3 n) i) hW hK hV hn hc oc
      have wb := zwo_lt (t := zthg (κ 3 n) i) hW hK hV hn hb ob
      rw [show zbI (true = true) = 1 from rfl, if_neg (by decide), zald_nI hn10 (by decide), Option.bind_some, h.2.2.1 n hn, zw_thing (hK.2.2.2.2 n) hi3]
      unfold zbd
      rw [Option.bind_some]
      try simp only
      rw [zw_worth hW hK hV h hn hc oc (zthg_in hi3), Option.bind_some]
      try simp only
      rw [zald_nI hn10 (by decide), Option.bind_some, h19, zw_worth hW hK hV h hn hb ob (zthg_in hi3), Option.bind_some]
      try simp only
      unfold f_X9_alike_121
      rw [← ih]
      by_cases e : zwo α κ w n c (zthg (κ 3 n) i) = zwo α κ w n b (zthg (κ 3 n) i)
      · rw [if_pos (by rw [e]), Option.bind_some, nI_1, zbI_t (s.mpr ⟨rfl, e⟩)]
      · rw [if_neg (fun q => e (nI_inj (by omega) (by omega) q)), Option.bind_some, nI_1, zbI_f (fun q => e (s.mp q).2)]
def zgf (p : Nat → Bool) (r : Nat → Nat) (b j f : Nat) : Nat := if (p (zcd f) && zqj r b (zcd f) j) = true then 1 else 0
theorem zgf_sum {p : Nat → Bool} {r : Nat → Nat} {b j : Nat} (hp : ∀ c, 14 ≤ c → p c = false) : zsum (zgf p r b j) 20 = zct p r b j := by
  have z : ∀ f, f < 16 → 10 ≤ f → zgf p r b j f = 0 := fun f h1 h2 => by
    unfold zgf zcd
    rw [if_pos h1, hp (f + 4) (by omega)]
    rfl
  have u1 : zsum (zgf p r b j) 20 = zgf p r b j 0 + zgf p r b j 1 + zgf p r b j 2 + zgf p r b j 3 + zgf p r b j 4 + zgf p r b j 5 + zgf p r b j 6 + zgf p r b j 7 + zgf p r b j 8 + zgf p r b j 9 + zgf p r b j 10 + zgf p r b j 11 + zgf p r b j 12 + zgf p r b j 13 + zgf p r b j 14 + zgf p r b j 15 + zgf p r b j 16 + zgf p r b j 17 + zgf p r b j 18 + zgf p r b j 19 := by
    simp only [zsum, Nat.zero_add]
  obtain ⟨F, hF⟩ : ∃ F : Nat → Nat, F = fun c => if (p c && zqj r b c j) = true then 1 else 0 := ⟨_, rfl⟩
  have u2 : zct p r b j = F 0 + F 1 + F 2 + F 3 + F 4 + F 5 + F 6 + F 7 + F 8 + F 9 + F 10 + F 11 + F 12 + F 13 := by
    unfold zct
    rw [← hF]
    simp only [zsum, Nat.zero_add]
  have v : ∀ f, zgf p r b j f = F (zcd f) := fun f => by rw [hF]; rfl
  rw [u1, u2, z 10 (by decide) (by decide), z 11 (by decide) (by decide), z 12 (by decide) (by decide), z 13 (by decide) (by decide), z 14 (by decide) (by decide), z 15 (by decide) (by decide)]
  rw [v 0, v 1, v 2, v 3, v 4, v 5, v 6, v 7, v 8, v 9, v 16, v 17, v 18, v 19]
  rw [show zcd 0 = 4 from rfl, show zcd 1 = 5 from rfl, show zcd 2 = 6 from rfl, show zcd 3 = 7 from rfl, show zcd 4 = 8 from rfl, show zcd 5 = 9 from rfl, show zcd 6 = 10 from rfl, show zcd 7 = 11 from rfl, show zcd 8 = 12 from rfl, show zcd 9 = 13 from rfl, show zcd 16 = 0 from rfl, show zcd 17 = 1 from rfl, show zcd 18 = 2 from rfl, show zcd 19 = 3 from rfl]
  omega
theorem zw_alikeM {N : Nat} (hN : 50 < N) {α κ : AS} {w : WD} {σ : ZM} (hW : WF α) (hK : KW α κ) (hV : VW α κ w) (h : MC α κ w σ) {n b j : Nat} (hn : n < α 0 0) (hb : b < 14) (ob : zoffr α κ w n b = true) (hj : j ≤ 3) (h19 : σ.1 19 n = nI (zfc b)) : f_X9_alike N (nI n) (nI j) σ = some (nI (zct (zoffr α κ w n) (zrk α κ w n) b j), σ) := by
  have hn0 := hW.1.1
  have hn10 : n < 10 := by omega
  have lb : zrk α κ w n b < 32768 := by
    have a2 := zpay_le hW n b
    have b2 := znam_le hW hK hV hn hb ob
    have c2 := zfro_le (κ := κ) (n := n) hb
    unfold zrk zrk3
    split
    · omega
    · split <;> omega
  rw [← zgf_sum (p := zoffr α κ w n) (r := zrk α κ w n) (b := b) (j := j) (fun c hc => zoffr_hi hV (by omega))]
  refine zloopT (fun m (q : Int32 × Int32) => f_X9_alike_5 N m (nI n) (nI j) q.1 q.2 σ) (fun i => (nI (zsum (zgf (zoffr α κ w n) (zrk α κ w n) b j) i), nI i)) 20 _ (fun m => rfl) (fun m i hi => ?_) N 0 (by omega) (by omega)
  show b_X9_alike_5 N (f_X9_alike_5 N m) (nI n) (nI j) _ (nI i) σ = f_X9_alike_5 N m (nI n) (nI j) (nI (zsum (zgf (zoffr α κ w n) (zrk α κ w n) b j) i + zgf (zoffr α κ w n) (zrk α κ w n) b j i)) (nI (i + 1)) σ
  generalize zsum (zgf (zoffr α κ w n) (zrk α κ w n) b j) i = S
  have no : zoffr α κ w n (zcd i) = false → f_X9_alike_48 N (f_X9_alike_5 N m) (nI n) (nI j) (nI S) (nI i) σ = f_X9_alike_5 N m (nI n) (nI j) (nI (S + zgf (zoffr α κ w n) (zrk α κ w n) b j i)) (nI (i + 1)) σ := by
    intro q
    have z : zgf (zoffr α κ w n) (zrk α κ w n) b j i = 0 := by unfold zgf; rw [q]; rfl
    rw [z]
    unfold f_X9_alike_48 f_X9_alike_62
    obtain ⟨m2, rfl⟩ : ∃ m2, N = m2 + 1 := ⟨N - 1, by omega⟩
    show b_X9_alike_67 (m2 + 1) _ (f_X9_alike_67 (m2 + 1) _ m2) (nI n) (nI j) (nI S) (nI i) 0 0 σ = _
    unfold b_X9_alike_67
    have e : f_X9_alike_129 (m2 + 1) (f_X9_alike_5 (m2 + 1) m) (nI n) (nI j) (nI S) (nI i) 0 σ = f_X9_alike_5 (m2 + 1) m (nI n) (nI j) (nI (S + 0)) (nI (i + 1)) σ := by
      unfold f_X9_alike_129 f_X9_alike_140
      rw [if_pos rfl, Option.bind_some, Option.bind_some, nI_1, show (0 : Int32) = nI 0 from rfl, nI_add]
    rw [if_pos (show (0 : Int32) = 0 from rfl), ite_self, e]
  have yes : zoffr α κ w n (zcd i) = true → f_X9_alike_62 N (f_X9_alike_5 N m) (nI n) (nI j) (nI S) (nI i) 1 σ = f_X9_alike_5 N m (nI n) (nI j) (nI (S + zgf (zoffr α κ w n) (zrk α κ w n) b j i)) (nI (i + 1)) σ := by
    intro q
    have hc : zcd i < 14 := by
      by_cases r : zcd i < 14
      · exact r
      · rw [zoffr_hi hV (by omega)] at q; exact absurd q (by decide)
    have ei : zfc (zcd i) = i := by
      by_cases h16 : i < 16
      · have ez : zcd i = i + 4 := if_pos h16
        rw [ez]; unfold zfc; rw [if_neg (by omega)]; omega
      · have ez : zcd i = i - 16 := if_neg h16
        rw [ez] at hc ⊢
        unfold zfc; rw [if_pos (by omega)]; omega
    have lc : zrk α κ w n (zcd i) < 32768 := by
      have a2 := zpay_le hW n (zcd i)
      have b2 := znam_le hW hK hV hn hc q
      have c2 := zfro_le (κ := κ) (n := n) hc
      unfold zrk zrk3
      split
      · omega
      · split <;> omega
    have q0 := zqj_0 (r := zrk α κ w n) lb lc
    have := zw_al67 (N := N) hW hK hV h hn hb hc ob q hj h19 (rcx := f_X9_alike_5 N m) (x3 := nI S) j N 0 (by omega) (by omega)
    rw [ei, q0, show zbI (true = true) = 1 from rfl] at this
    unfold f_X9_alike_62
    refine Eq.trans this ?_
    unfold f_X9_alike_129 f_X9_alike_140
    have z : zgf (zoffr α κ w n) (zrk α κ w n) b j i = if zqj (zrk α κ w n) b (zcd i) j = true then 1 else 0 := by unfold zgf; rw [q, Bool.true_and]
    rw [z, Option.bind_some, Option.bind_some, Option.bind_some, Option.bind_some, nI_1]
    cases zqj (zrk α κ w n) b (zcd i) j with
    | false => rw [show zbI (false = true) = 0 from rfl, if_pos rfl, show (0 : Int32) = nI 0 from rfl, nI_add]; rfl
    | true => rw [show zbI (true = true) = 1 from rfl, if_neg (by decide), show (1 : Int32) = nI 1 from rfl, nI_add]; rfl
  unfold b_X9_alike_5
  rw [if_neg (by rw [show (20 : Int32) = nI 20 from rfl]; exact nI_ge hi (by decide))]
  by_cases h16 : 16 ≤ i
  · have es : nI i - (16 : Int32) = nI (i - 16) := by rw [show (16 : Int32) = nI 16 from rfl, pk_sub h16]
    have ez : zcd i = i - 16 := by unfold zcd; rw [if_neg (by omega)]
    rw [if_pos (show (16 : Int32) ≤ nI i from nI_le (a := 16) h16 (by omega)), es, zw_speaks hW h.1 h.2.1 (show i - 16 < 4 by omega) hn10]
    have off : zoffr α κ w n (zcd i) = zspk α κ n (i - 16) := by rw [ez]; unfold zoffr; rw [if_pos (by omega)]
    unfold zbd
    rw [Option.bind_some]
    try simp only
    cases hs : zspk α κ n (i - 16) with
    | false => rw [show zbI (false = true) = 0 from rfl]; exact no (off.trans hs)
    | true => rw [show zbI (true = true) = 1 from rfl]; exact yes (off.trans hs)
  · have ez : zcd i = i + 4 := by unfold zcd; rw [if_pos (by omega)]
    rw [if_neg (show ¬ (16 : Int32) ≤ nI i from nI_ge (show i < 16 by omega) (by decide)), h.1.nets]
    by_cases hni : α 0 0 ≤ i
    · rw [if_pos (nI_le hni (by omega))]
      exact no (by rw [ez]; exact zoffr_hi hV (by omega))
    · rw [if_neg (nI_ge (by omega) (by omega))]
      by_cases e : i = n
      · rw [if_pos (by rw [e])]
        exact no (by rw [ez, e]; exact zoffr_self hW hn10)
      · rw [if_neg (fun q => e (nI_inj (by omega) (by omega) q)), zw_passes (by omega) hW hK hV h (show i < α 0 0 by omega) hn10]
        have off : zoffr α κ w n (zcd i) = zpas α κ w n i := by rw [ez]; unfold zoffr; rw [if_neg (by omega), Nat.add_sub_cancel]
        unfold zbd
        rw [Option.bind_some]
        try simp only
        cases hs : zpas α κ w n i with
        | false => rw [show zbI (false = true) = 0 from rfl, if_pos rfl]; exact no (off.trans hs)
        | true => rw [show zbI (true = true) = 1 from rfl, if_neg (by decide)]; exact yes (off.trans hs)
theorem zct_0 {p : Nat → Bool} {r : Nat → Nat} {b : Nat} (hb : r b < 32768) (hr : ∀ c, c < 14 → p c = true → r c < 32768) : zct p r b 0 = (zls p 14).length := by
  rw [← List.countP_true, zcountP]
  unfold zct
  have : ∀ k, k ≤ 14 → zsum (fun c => if (p c && zqj r b c 0) = true then 1 else 0) k = zsum (fun c => if (p c && true) = true then 1 else 0) k := fun k => by
    induction k with
    | zero => intro _; rfl
    | succ k ih =>
      intro hk
      simp only [zsum]
      rw [ih (by omega)]
      congr 1
      cases hp : p k with
      | false => rfl
      | true => rw [zqj_0 hb (hr k (by omega) hp)]
  exact this 14 (Nat.le_refl _)
theorem qu_why {N : Nat} (hN : 50 < N) (x : Int32) : zQry (f_X8_why N x) (f_X9_why N x) := by
  refine zQ_net hN (cC := fun s4 => zbd (f_X2_hear N 12 x s4) fun r5 s6 => zbd (f_X2_needed N x s6) fun r7 s8 => some (r7, s8)) (cM := fun s10 => (zald s10 17 10 x).bind fun v11 => if v11 = (-9 : Int32) then (some ((-9 : Int32), s10)) else (f_X9_why_36 N N x (0 : Int32) s10)) ?_
  intro α σc σm n k hW hn hx hr hC hM
  subst hx
  have hn0 := hW.1.1
  have hn10 : n < 10 := by omega
  have hK := zkn_KW hW (ρ := zr0 α) (fun n => zlr_le _)
  have hV := VW.it (κ := zkn α (zr0 α)) hW hK k
  have hsame := zsame_iff.mp (zrs_some 41 0 k hr).2.2 n hn10
  obtain ⟨κ, hκ⟩ : ∃ κ, κ = zkn α (zr0 α) := ⟨_, rfl⟩
  rw [← hκ] at hK hV hC hM hsame
  obtain ⟨w, hw⟩ : ∃ w, w = zit α κ k := ⟨_, rfl⟩
  have hsame : zstep α κ w n = w n := by rw [hw]; exact hsame
  rw [← hw] at hC hM hV
  obtain ⟨s1, a1, a2, a3⟩ := zw_hear (N := N) (by omega) (Or.inl rfl) hW hK hV hC hn
  have f1 := fr_X2_hear a1
  have lrk : ∀ c, c < 14 → zoffr α κ w n c = true → zrk α κ w n c < 32768 := fun c hc q => by
    have x1 := zpay_le hW n c
    have x2 := znam_le hW hK hV hn hc q
    have x3 := zfro_le (κ := κ) (n := n) hc
    unfold zrk zrk3
    split
    · omega
    · split <;> omega
  have hlen := zls_len (zoffr α κ w n) 14
  have site := (hM.2.2.2 n hn).site (fun x hx => (hV n x hx).2.1.1)
  cases hz : zmn (zoffr α κ w n) (zrk α κ w n) 14 with
  | none =>
    have hnone := zmn_none _ hz
    have hl : (zls (zoffr α κ w n) 14).length = 0 := by
      rw [← List.countP_true, zcountP]
      have : ∀ k, k ≤ 14 → zsum (fun c => if (zoffr α κ w n c && true) = true then 1 else 0) k = 0 := fun k => by
        induction k with
        | zero => intro _; rfl
        | succ k ih =>
          intro hk
          simp only [zsum]
          rw [ih (by omega), hnone k (by omega)]
          rfl
      exact this 14 (Nat.le_refl _)
    have hwn : w n = none := by rw [← hsame]; unfold zstep; rw [if_pos hn, hz]; rfl
    refine ⟨-9, s1, σm, ?_, ?_, zag_w (by simp) f1, hM.1⟩
    · try simp only
      rw [a1]
      unfold zbd
      rw [Option.bind_some]
      try simp only
      unfold f_X2_needed
      rw [a3.1, hl, if_neg (by decide), if_pos (by decide)]
      rfl
    · try simp only
      rw [zald_nI hn10 (by decide), Option.bind_some, site, hwn]
      exact if_pos rfl
  | some b =>
    obtain ⟨hb, ob, hmin⟩ := zmn_some _ _ hz
    have hwn : w n = some (zofw κ w n b) := by rw [← hsame]; unfold zstep; rw [if_pos hn, hz]; rfl
    have hsite : ¬ sI (zsn (w n)) = (-9 : Int32) := by
      have := zsn_le hV n
      refine sI_m9 this.1 ?_
      rw [hwn]
      have := (hV n _ hwn).2.1.1
      show (zofw κ w n b).1 ≠ 5
      omega
    have h19 : σm.1 19 n = nI (zfc b) := by
      have := hM.2.2.2 n hn
      rw [hwn] at this
      rw [this.2.2.1, zfm_ofw hW hK hV hn hb ob]
    have p0 := zct_0 (p := zoffr α κ w n) (lrk b hb ob) lrk
    have pos := fun j => zct_pos (r := zrk α κ w n) (j := j) hb ob
    have last := zct_last (p := zoffr α κ w n) (r := zrk α κ w n) hb (fun c hc q e => zrk_inj hW hK hV hn hc hb q ob e)
    have lim : ∀ j, zct (zoffr α κ w n) (zrk α κ w n) b j ≤ 14 * 1 := fun j => zsum_le (fun i => by
      show (if (zoffr α κ w n i && zqj (zrk α κ w n) b i j) = true then 1 else 0) ≤ 1
      split <;> omega) 14
    have al := fun j (hj : j ≤ 3) => zw_alikeM hN hW hK hV hM hn hb ob hj h19
    have hru := hK.2.2.2.2 n
    have last3 : zct (zoffr α κ w n) (zrk α κ w n) b 3 = 1 := by have := pos 3; omega
    have rd16 := hM.2.2.1 n hn
    -- the loop of the reference
    have stp : ∀ m j, j < 3 → ¬ zct (zoffr α κ w n) (zrk α κ w n) b j = 1 → f_X9_why_36 N (m + 1) (nI n) (nI j) σm = f_X9_why_36 N m (nI n) (nI (j + 1)) σm := fun m j hj q => by
      show b_X9_why_36 N (f_X9_why_36 N m) (nI n) (nI j) σm = _
      have := pos j
      have := lim j
      unfold b_X9_why_36
      rw [al j (by omega)]
      unfold zbd
      rw [Option.bind_some]
      try simp only
      rw [if_neg (show ¬ nI (zct (zoffr α κ w n) (zrk α κ w n) b j) ≤ (1 : Int32) from nI_ge (show 1 < zct (zoffr α κ w n) (zrk α κ w n) b j by omega) (by omega)), Option.bind_some, nI_1]
    have fin : ∀ m j, j < 3 → zct (zoffr α κ w n) (zrk α κ w n) b (j + 1) = 1 → f_X9_why_36 N (m + 1) (nI n) (nI (j + 1)) σm = some (nI (zthg (κ 3 n) j), σm) := fun m j hj q => by
      show b_X9_why_36 N (f_X9_why_36 N m) (nI n) (nI (j + 1)) σm = _
      unfold b_X9_why_36
      rw [al (j + 1) (by omega), q]
      unfold zbd
      rw [Option.bind_some]
      try simp only
      rw [if_pos (by decide), if_neg (show ¬ nI (j + 1) = 0 from fun e => by have := nI_inj (b := 0) (by omega) (by decide) e; omega), zald_nI hn10 (by decide), Option.bind_some, rd16, zm1, pk_m1, zw_thing hru hj]
      rfl
    by_cases h2 : (zls (zoffr α κ w n) 14).length = 1
    · refine ⟨0, s1, σm, ?_, ?_, zag_w (by simp) f1, hM.1⟩
      · try simp only
        rw [a1]
        unfold zbd
        rw [Option.bind_some]
        try simp only
        unfold f_X2_needed
        rw [a3.1, h2, if_neg (by decide), if_neg (by decide)]
        rfl
      · try simp only
        rw [zald_nI hn10 (by decide), Option.bind_some, site, if_neg hsite]
        obtain ⟨m, hm⟩ : ∃ m, N = m + 1 := ⟨N - 1, by omega⟩
        have : f_X9_why_36 N (m + 1) (nI n) (nI 0) σm = some (0, σm) := by
          show b_X9_why_36 N (f_X9_why_36 N m) (nI n) (nI 0) σm = _
          unfold b_X9_why_36
          rw [al 0 (by omega), p0, h2]
          unfold zbd
          rw [Option.bind_some]
          try simp only
          rw [if_pos (by decide), if_pos (by decide)]
        rw [← hm] at this
        exact this
    · obtain ⟨s2, b1, b2, b3⟩ := zw_pick (N := N) (by omega) (Or.inl rfl) hW hK hV a2 hn hlen (fun c => zls_mem 14) a3
      have c2 : CC α κ 12 w s2 := a2.fr (Or.inl rfl) hn0 (zag_w (by simp) b2)
      have rk := zw_rank (N := N) hW hK hV c2 hn hb ob
      have hst : zstep α κ w n = some (zofw κ w n b) := hsame.trans hwn
      refine ⟨nI (zwy (zoffr α κ w n) (zrk α κ w n) b (κ 3 n)), s2, σm, ?_, ?_, zag_w (by simp) (zag_t (W := [(17, some 5), (20, none), (21, none), (22, none)]) (zag_w (by simp) f1) (zag_w (by simp) b2)), hM.1⟩
      · try simp only
        rw [a1]
        unfold zbd
        rw [Option.bind_some]
        try simp only
        unfold f_X2_needed
        have p1 := pos 0
        rw [a3.1, if_pos (show (2 : Int32) ≤ nI (zls (zoffr α κ w n) 14).length from nI_le (a := 2) (by omega) (by omega)), b1, hst]
        unfold zbd
        rw [Option.bind_some]
        try simp only
        rw [rk.1, Option.bind_some]
        try simp only
        rw [zw_needed35 (N := N) (by omega) (p := zoffr α κ w n) (r := zrk α κ w n) (b := b) (by rw [(b2 17 5 (by decide) (by decide)).1]; exact a3.1) b3 (fun c q hc => Nat.lt_trans (lrk c hc q) (by decide)) (Nat.lt_trans (lrk b hb ob) (by decide)) hn10 (c2.2.2.1 n hn) hru]
        rfl
      · try simp only
        rw [zald_nI hn10 (by decide), Option.bind_some, site, if_neg hsite]
        obtain ⟨m, hm⟩ : ∃ m, N = m + 4 := ⟨N - 4, by omega⟩
        have e0 : f_X9_why_36 N N (nI n) 0 σm = f_X9_why_36 N (m + 3) (nI n) (nI 1) σm := by
          have := stp (m + 3) 0 (by decide) (by rw [p0]; exact h2)
          rw [show m + 3 + 1 = N by omega] at this
          exact this
        rw [e0]
        unfold zwy
        by_cases q1 : zct (zoffr α κ w n) (zrk α κ w n) b 1 = 1
        · rw [if_pos q1]
          exact fin (m + 2) 0 (by decide) q1
        · rw [if_neg q1, stp (m + 2) 1 (by decide) q1]
          by_cases q2 : zct (zoffr α κ w n) (zrk α κ w n) b 2 = 1
          · rw [if_pos q2]
            exact fin (m + 1) 1 (by decide) q2
          · rw [if_neg q2, stp (m + 1) 2 (by decide) q2]
            exact fin m 2 (by decide) last3
