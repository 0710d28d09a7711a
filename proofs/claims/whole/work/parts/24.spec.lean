/-! ===== what a rest is: words of nets, one round, rounds till rest ===== -/
theorem zloopS {S R : Type} (F : Nat → S → Option R) (P : Nat → S → Prop) (e : Nat) (hs : ∀ m i s, i < e → P i s → ∃ s', F (m + 1) s = F m s' ∧ P (i + 1) s') : ∀ (m i : Nat) (s : S), i ≤ e → e < m + i → P i s → ∃ m' s', F m s = F (m' + 1) s' ∧ P e s' := by
  intro m
  induction m with
  | zero => intro i s h1 h2; omega
  | succ m ih =>
    intro i s h1 h2 h3
    by_cases h : i = e
    · exact ⟨m, s, rfl, h ▸ h3⟩
    · obtain ⟨s1, e1, h4⟩ := hs m i s (by omega) h3
      obtain ⟨m', s', e2, h5⟩ := ih (i + 1) s1 (by omega) (by omega) h4
      exact ⟨m', s', by rw [e1, e2], h5⟩
abbrev WD : Type := Nat → Option (Nat × Nat × List Nat)
/-- the first of the least -/
def zmn (p : Nat → Bool) (r : Nat → Nat) : Nat → Option Nat
  | 0 => none
  | k + 1 => if p k = true then (match zmn p r k with | none => some k | some b => if r k < r b then some k else some b) else zmn p r k
theorem zmn_none {p : Nat → Bool} {r : Nat → Nat} : ∀ k, zmn p r k = none → ∀ x, x < k → p x = false
  | 0, _, x, h => absurd h (Nat.not_lt_zero x)
  | k + 1, h, x, hx => by
    unfold zmn at h
    by_cases hp : p k = true
    · rw [if_pos hp] at h
      cases hm : zmn p r k with
      | none => rw [hm] at h; cases h
      | some b => rw [hm] at h; simp only at h; split at h <;> cases h
    · rw [if_neg hp] at h
      by_cases e : x = k
      · rw [e]; simpa using hp
      · exact zmn_none k h x (by omega)
theorem zmn_some {p : Nat → Bool} {r : Nat → Nat} : ∀ k b, zmn p r k = some b → b < k ∧ p b = true ∧ ∀ x, x < k → p x = true → r b ≤ r x
  | 0, b, h => by cases h
  | k + 1, b, h => by
    unfold zmn at h
    by_cases hp : p k = true
    · rw [if_pos hp] at h
      cases hm : zmn p r k with
      | none =>
        rw [hm] at h
        cases h
        exact ⟨by omega, hp, fun x hx px => by
          by_cases e : x = k
          · rw [e]; exact Nat.le_refl _
          · have := zmn_none k hm x (by omega); rw [this] at px; cases px⟩
      | some c =>
        rw [hm] at h
        simp only at h
        obtain ⟨c1, c2, c3⟩ := zmn_some k c hm
        by_cases hr : r k < r c
        · rw [if_pos hr] at h
          cases h
          exact ⟨by omega, hp, fun x hx px => by
            by_cases e : x = k
            · rw [e]; exact Nat.le_refl _
            · have := c3 x (by omega) px; omega⟩
        · rw [if_neg hr] at h
          cases h
          exact ⟨by omega, c2, fun x hx px => by
            by_cases e : x = k
            · rw [e]; omega
            · exact c3 x (by omega) px⟩
    · rw [if_neg hp] at h
      obtain ⟨c1, c2, c3⟩ := zmn_some k b h
      exact ⟨by omega, c2, fun x hx px => by
        by_cases e : x = k
        · rw [e] at px; exact absurd px hp
        · exact c3 x (by omega) px⟩
theorem zmn_congr {p q : Nat → Bool} {r s : Nat → Nat} : ∀ k, (∀ x, x < k → p x = q x) → (∀ x, x < k → p x = true → r x = s x) → zmn p r k = zmn q s k
  | 0, _, _ => rfl
  | k + 1, h1, h2 => by
    have ih := zmn_congr k (fun x hx => h1 x (by omega)) (fun x hx => h2 x (by omega))
    unfold zmn
    rw [ih, ← h1 k (by omega)]
    by_cases hp : p k = true
    · rw [if_pos hp, if_pos hp]
      cases hm : zmn q s k with
      | none => rfl
      | some b =>
        have hb := zmn_some k b (ih.trans hm)
        simp only
        rw [h2 k (by omega) hp, h2 b (by omega) hb.2.1]
    · rw [if_neg hp, if_neg hp]
/-- κ: 0 what a site says (4: nothing), 1 held, 2 near, 3 the rules of nets. An offer's code: below 4 that site's own word, else 4 and the net that passes its word on -/
def zspk (α κ : AS) (n c : Nat) : Bool := decide (κ 0 c ≠ 4 ∧ α 4 c = n)
def zpas2 (α κ : AS) (n m : Nat) (x : Nat × Nat × List Nat) : Bool := decide (n ∉ x.2.2) && (!(κ 1 x.1).testBit n && (match x.2.2[1]? with | none => true | some q => (decide (α 1 (10 * m + q) = 1) || decide (α 1 (10 * m + n) = 1)) && decide (κ 2 x.1 = 0)))
def zpas (α κ : AS) (w : WD) (n m : Nat) : Bool := match w m with
  | none => false
  | some x => decide (α 1 (10 * m + n) ≠ 0) && zpas2 α κ n m x
def zoffr (α κ : AS) (w : WD) (n c : Nat) : Bool := if c < 4 then zspk α κ n c else zpas α κ w n (c - 4)
def zofw (κ : AS) (w : WD) (n c : Nat) : Nat × Nat × List Nat := if c < 4 then (c, κ 0 c + 1, [n]) else match w (c - 4) with
  | none => (0, 0, [])
  | some x => (x.1, x.2.1 + 1, n :: x.2.2)
def zpay (α : AS) (n c : Nat) : Nat := if c < 4 then 0 else α 1 (10 * n + (c - 4)) - 1
def zfro (κ : AS) (n c : Nat) : Nat := if c < 4 then c else if κ 3 n = 1 then 17 - c else c
def znam (κ : AS) (w : WD) (n c : Nat) : Nat := (zofw κ w n c).2.1
def zrk3 (rule pay nam fro : Nat) : Nat := if rule = 2 then nam * 1024 + pay * 32 + fro else if rule = 3 then pay * 1024 + fro * 32 + nam else pay * 1024 + nam * 32 + fro
def zrk (α κ : AS) (w : WD) (n c : Nat) : Nat := zrk3 (κ 3 n) (zpay α n c) (znam κ w n c) (zfro κ n c)
def zstep (α κ : AS) (w : WD) : WD := fun n => if n < α 0 0 then (zmn (zoffr α κ w n) (zrk α κ w n) 14).map (zofw κ w n) else none
def zit (α κ : AS) : Nat → WD
  | 0 => fun _ => none
  | k + 1 => zstep α κ (zit α κ k)
def zsame (v w : WD) : Bool := (List.range 10).all fun n => decide (v n = w n)
theorem zsame_iff {v w : WD} : zsame v w = true ↔ ∀ n, n < 10 → v n = w n := by
  unfold zsame
  rw [List.all_eq_true]
  constructor
  · intro h n hn; exact of_decide_eq_true (h n (List.mem_range.mpr hn))
  · intro h n hn; exact decide_eq_true (h n (List.mem_range.mp hn))
def zrs (α κ : AS) : Nat → Nat → Option Nat
  | 0, _ => none
  | f + 1, k => if zsame (zit α κ (k + 1)) (zit α κ k) = true then some k else zrs α κ f (k + 1)
/-- after how many rounds it rests -/
def zrest (α κ : AS) : Option Nat := zrs α κ 41 0
/-- the words at rest -/
def zfin (α κ : AS) : WD := zit α κ ((zrest α κ).getD 0)
theorem zrs_some {α κ : AS} : ∀ f k r, zrs α κ f k = some r → k ≤ r ∧ r < k + f ∧ zsame (zit α κ (r + 1)) (zit α κ r) = true
  | 0, k, r, h => by cases h
  | f + 1, k, r, h => by
    unfold zrs at h
    by_cases hs : zsame (zit α κ (k + 1)) (zit α κ k) = true
    · rw [if_pos hs] at h; cases h; exact ⟨by omega, by omega, hs⟩
    · rw [if_neg hs] at h
      have := zrs_some f (k + 1) r h
      exact ⟨by omega, by omega, this.2.2⟩
/-! what bounds κ and the words -/
def KW (α κ : AS) : Prop := (∀ s, κ 0 s ≤ 4) ∧ (∀ s, κ 0 s ≠ 4 → s < 4 ∧ α 4 s < α 0 0) ∧ (∀ s, κ 1 s < 1024) ∧ (∀ s, κ 2 s ≤ 1) ∧ ∀ n, κ 3 n ≤ 3
def VW (α κ : AS) (w : WD) : Prop := ∀ n x, w n = some x → n < α 0 0 ∧ zvw x.1 x.2.1 x.2.2 ∧ x.2.2[0]? = some n ∧ x.2.1 = κ 0 x.1 + x.2.2.length ∧ κ 0 x.1 < 4
theorem zlen : ∀ (k : Nat) (p : List Nat), p.Nodup → (∀ a ∈ p, a < k) → p.length ≤ k
  | 0, p, _, h => by
    cases p with
    | nil => exact Nat.le_refl _
    | cons a q => exact absurd (h a (by simp)) (Nat.not_lt_zero a)
  | k + 1, p, hn, h => by
    by_cases hk : k ∈ p
    · have h1 : (p.erase k).length = p.length - 1 := List.length_erase_of_mem hk
      have h2 := zlen k (p.erase k) (hn.erase k) (fun a ha => by
        have := (hn.mem_erase_iff).mp ha
        have := h a this.2
        omega)
      omega
    · have := zlen k p hn (fun a ha => by
        have := h a ha
        have : a ≠ k := fun e => hk (e ▸ ha)
        omega)
      omega
theorem zoffr_net {α κ : AS} {w : WD} {n c : Nat} (h4 : ¬ c < 4) (h : zoffr α κ w n c = true) : ∃ x, w (c - 4) = some x ∧ α 1 (10 * (c - 4) + n) ≠ 0 ∧ zpas2 α κ n (c - 4) x = true ∧ n ∉ x.2.2 := by
  unfold zoffr at h
  rw [if_neg h4] at h
  unfold zpas at h
  cases hw : w (c - 4) with
  | none => rw [hw] at h; cases h
  | some x =>
    rw [hw] at h
    simp only [Bool.and_eq_true, decide_eq_true_eq] at h
    refine ⟨x, rfl, h.1, h.2, ?_⟩
    have := h.2
    unfold zpas2 at this
    simp only [Bool.and_eq_true, decide_eq_true_eq] at this
    exact this.1
theorem VW.offer {α κ : AS} {w : WD} (hW : WF α) (hK : KW α κ) (hV : VW α κ w) {n c : Nat} (hn : n < α 0 0) (hc : c < 14) (h : zoffr α κ w n c = true) : (let x := zofw κ w n c; zvw x.1 x.2.1 x.2.2 ∧ x.2.2[0]? = some n ∧ x.2.1 = κ 0 x.1 + x.2.2.length ∧ κ 0 x.1 < 4) ∧ (¬ c < 4 → ∃ y, w (c - 4) = some y ∧ y.2.1 ≤ 12 ∧ y.2.2.length ≤ 9 ∧ n ∉ y.2.2 ∧ c - 4 < α 0 0 ∧ zofw κ w n c = (y.1, y.2.1 + 1, n :: y.2.2) ∧ α 1 (10 * (c - 4) + n) ≠ 0 ∧ zpas2 α κ n (c - 4) y = true) := by
  have hn10 : n < 10 := by have := hW.1.1; omega
  by_cases h4 : c < 4
  · refine ⟨?_, fun q => absurd h4 q⟩
    unfold zoffr zspk at h
    rw [if_pos h4] at h
    have h := of_decide_eq_true h
    have hk := hK.1 c
    simp only [zofw, if_pos h4]
    refine ⟨⟨h4, by omega, by omega, by simp, by simp, by simpa using hn10, by simp⟩, rfl, rfl, by omega⟩
  · obtain ⟨x, e1, e2, e3, e4⟩ := zoffr_net h4 h
    obtain ⟨v1, v2, v3, v4, v5⟩ := hV _ x e1
    have hl : (n :: x.2.2).length ≤ 10 := zlen 10 _ (List.nodup_cons.mpr ⟨e4, v2.2.2.2.2.2.2⟩) (fun a ha => (List.mem_cons.mp ha).elim (fun e => e ▸ hn10) (fun e => v2.2.2.2.2.2.1 a e))
    simp only [List.length_cons] at hl
    have eo : zofw κ w n c = (x.1, x.2.1 + 1, n :: x.2.2) := by simp only [zofw, if_neg h4, e1]
    have hl9 : x.2.2.length ≤ 9 := by omega
    have hm : x.2.1 ≤ 12 := by omega
    refine ⟨?_, fun _ => ⟨x, e1, hm, hl9, e4, v1, eo, e2, e3⟩⟩
    rw [eo]
    exact ⟨zvw_cons v2 hn10 e4 hm hl9, rfl, by simp only [List.length_cons]; omega, v5⟩
theorem VW.step {α κ : AS} {w : WD} (hW : WF α) (hK : KW α κ) (hV : VW α κ w) : VW α κ (zstep α κ w) := by
  intro n x hx
  unfold zstep at hx
  by_cases hn : n < α 0 0
  · rw [if_pos hn] at hx
    cases hm : zmn (zoffr α κ w n) (zrk α κ w n) 14 with
    | none => rw [hm] at hx; cases hx
    | some b =>
      rw [hm] at hx
      have hb := zmn_some _ _ hm
      have := (hV.offer hW hK hn hb.1 hb.2.1).1
      cases hx
      exact ⟨hn, this⟩
  · rw [if_neg hn] at hx; cases hx
theorem VW.it {α κ : AS} (hW : WF α) (hK : KW α κ) : ∀ k, VW α κ (zit α κ k)
  | 0 => fun n x h => by cases h
  | k + 1 => (VW.it hW hK k).step hW hK
theorem zit_out {α κ : AS} {n : Nat} (h : ¬ n < α 0 0) : ∀ k, zit α κ k n = none
  | 0 => rfl
  | k + 1 => by show zstep α κ _ n = none; unfold zstep; rw [if_neg h]
/-! the ranks tell offers apart -/
theorem zrk3_inj {rule p1 n1 f1 p2 n2 f2 : Nat} (h1 : p1 < 32) (h2 : n1 < 32) (h3 : f1 < 32) (h4 : p2 < 32) (h5 : n2 < 32) (h6 : f2 < 32) (h : zrk3 rule p1 n1 f1 = zrk3 rule p2 n2 f2) : f1 = f2 := by
  unfold zrk3 at h
  split at h
  · omega
  · split at h <;> omega
theorem zpay_le {α : AS} (hW : WF α) (n c : Nat) : zpay α n c ≤ 2 := by
  unfold zpay
  have := hW.2.1.1 (10 * n + (c - 4))
  split <;> omega
theorem zfro_le {κ : AS} {n c : Nat} (hc : c < 14) : zfro κ n c ≤ 13 := by
  unfold zfro
  split
  · omega
  · split <;> omega
theorem zfro_inj {κ : AS} {n c d : Nat} (hc : c < 14) (hd : d < 14) (h : zfro κ n c = zfro κ n d) : c = d := by
  unfold zfro at h
  split at h
  · split at h
    · exact h
    · split at h <;> omega
  · split at h
    · split at h <;> omega
    · split at h <;> omega
theorem znam_le {α κ : AS} {w : WD} (hW : WF α) (hK : KW α κ) (hV : VW α κ w) {n c : Nat} (hn : n < α 0 0) (hc : c < 14) (h : zoffr α κ w n c = true) : 1 ≤ znam κ w n c ∧ znam κ w n c ≤ 13 := by
  have := (hV.offer hW hK hn hc h).1.1
  exact ⟨this.2.1, this.2.2.1⟩
theorem zrk_inj {α κ : AS} {w : WD} (hW : WF α) (hK : KW α κ) (hV : VW α κ w) {n c d : Nat} (hn : n < α 0 0) (hc : c < 14) (hd : d < 14) (h1 : zoffr α κ w n c = true) (h2 : zoffr α κ w n d = true) (h : zrk α κ w n c = zrk α κ w n d) : c = d := by
  have a1 := zpay_le hW n c
  have a2 := zpay_le hW n d
  have b1 := znam_le hW hK hV hn hc h1
  have b2 := znam_le hW hK hV hn hd h2
  have c1 := zfro_le (κ := κ) (n := n) hc
  have c2 := zfro_le (κ := κ) (n := n) hd
  exact zfro_inj hc hd (zrk3_inj (by omega) (by omega) (by omega) (by omega) (by omega) (by omega) h)
/-- the one that is least is the one that zmn finds -/
theorem zmn_eq {α κ : AS} {w : WD} (hW : WF α) (hK : KW α κ) (hV : VW α κ w) {n b : Nat} (hn : n < α 0 0) (hb : b < 14) (ho : zoffr α κ w n b = true) (hm : ∀ x, x < 14 → zoffr α κ w n x = true → zrk α κ w n b ≤ zrk α κ w n x) : zmn (zoffr α κ w n) (zrk α κ w n) 14 = some b := by
  cases h : zmn (zoffr α κ w n) (zrk α κ w n) 14 with
  | none => have := zmn_none _ h b hb; rw [this] at ho; cases ho
  | some c =>
    have hc := zmn_some _ _ h
    have h1 := hm c hc.1 hc.2.1
    have h2 := hc.2.2 b hb ho
    rw [zrk_inj hW hK hV hn hb hc.1 ho hc.2.1 (by omega)]
/-- a net of which no neighbour has another word hears what it heard -/
theorem zstep_same {α κ : AS} {v w : WD} (hW : WF α) {n : Nat} (h : ∀ m, m < 10 → α 1 (10 * m + n) ≠ 0 → v m = w m) : zstep α κ v n = zstep α κ w n := by
  unfold zstep
  by_cases hn : n < α 0 0
  · rw [if_pos hn, if_pos hn]
    have ho : ∀ c, c < 14 → zoffr α κ v n c = zoffr α κ w n c := by
      intro c hc
      unfold zoffr
      by_cases h4 : c < 4
      · rw [if_pos h4, if_pos h4]
      · rw [if_neg h4, if_neg h4]
        by_cases ht : α 1 (10 * (c - 4) + n) = 0
        · unfold zpas
          cases v (c - 4) <;> cases w (c - 4) <;> simp [ht]
        · unfold zpas
          rw [h (c - 4) (by omega) ht]
    have hw : ∀ c, c < 14 → zoffr α κ v n c = true → zofw κ v n c = zofw κ w n c := by
      intro c hc hx
      unfold zofw
      by_cases h4 : c < 4
      · rw [if_pos h4, if_pos h4]
      · obtain ⟨x, e1, e2, e3⟩ := zoffr_net h4 hx
        rw [if_neg h4, if_neg h4, h (c - 4) (by omega) e2]
    have hr : ∀ c, c < 14 → zoffr α κ v n c = true → zrk α κ v n c = zrk α κ w n c := by
      intro c hc hx
      unfold zrk znam
      rw [hw c hc hx]
    rw [zmn_congr 14 ho hr]
    cases hm : zmn (zoffr α κ w n) (zrk α κ w n) 14 with
    | none => rfl
    | some b =>
      have hb := zmn_some _ _ hm
      show some _ = some _
      rw [hw b hb.1 (by rw [ho b hb.1]; exact hb.2.1)]
  · rw [if_neg hn, if_neg hn]
