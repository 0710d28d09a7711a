/-! ===== aim and steps; the start ===== -/
/-- what is aimed at for a site -/
def zaim (α : AS) (s : Nat) : Nat := if α 11 s = 5 then α 7 s else α 11 s
theorem RC.knd {α : AS} {σ : ZM} (h : RC α σ) {i : Nat} (hi : i < 4) : zald σ 13 4 (nI i) = some (nI (α 7 i)) := by
  rw [zald_nI hi (by decide)]
  have := h.at 13 0 7 0 4 (by decide) hi
  rw [Nat.zero_add] at this
  rw [this]
theorem RM.knd {α : AS} {σ : ZM} (h : RM α σ) {i : Nat} (hi : i < 4) : zald σ 7 4 (nI i) = some (nI (α 7 i)) := by
  rw [zald_nI hi (by decide)]
  have := h.at 7 0 7 0 4 (by decide) hi
  rw [Nat.zero_add] at this
  rw [this]
theorem zw_aimC {N : Nat} {α : AS} {σ : ZM} (hW : WF α) (hC : RC α σ) {i : Nat} (hi : i < 4) : f_X4_aimOf N (nI i) σ = some (nI (zaim α i), σ) := by
  have h1 : zald σ 10 4 (nI i) = some (aC (α 11 i)) := by
    rw [zald_nI hi (by decide)]
    have := hC.2.2.1 (10, 0, 11, 0, 4) (by decide) i hi
    simp only [Nat.zero_add] at this
    rw [this]
  have h5 := (hW.2.2.2.2.2.1.2.2.2.2.2 i).1
  by_cases h : α 11 i = 5
  · have e : aC (α 11 i) = (-1 : Int32) := by unfold aC; rw [if_pos h]
    have ez : zaim α i = α 7 i := if_pos h
    simp only [f_X4_aimOf, h1, Option.bind_some, e, if_true, hC.knd hi, ez]
  · have e : aC (α 11 i) = nI (α 11 i) := if_neg h
    have e2 : ¬ nI (α 11 i) = (-1 : Int32) := by
      rcases (show α 11 i = 0 ∨ α 11 i = 1 ∨ α 11 i = 2 ∨ α 11 i = 3 ∨ α 11 i = 4 by omega) with q | q | q | q | q <;> rw [q] <;> decide
    have ez : zaim α i = α 11 i := if_neg h
    simp only [f_X4_aimOf, h1, Option.bind_some, e, e2, if_false, ez]
theorem zw_aimM {N : Nat} {α : AS} {σ : ZM} (hW : WF α) (hM : RM α σ) {i : Nat} (hi : i < α 0 2) : f_X9_aimOf N (nI i) σ = some (nI (zaim α i), σ) := by
  have hs : α 0 2 ≤ 4 := hW.1.2.2.1
  have h1 : zald σ 11 4 (nI i) = some (sI (α 11 i)) := by
    rw [zald_nI (by omega) (by decide), hM.2.1 i hi]
  have h5 := (hW.2.2.2.2.2.1.2.2.2.2.2 i).1
  by_cases h : α 11 i = 5
  · have e : sI (α 11 i) = (-9 : Int32) := by unfold sI; rw [if_pos h]
    have ez : zaim α i = α 7 i := if_pos h
    simp only [f_X9_aimOf, h1, Option.bind_some, e, if_true, hM.knd (show i < 4 by omega), ez]
  · have e : sI (α 11 i) = nI (α 11 i) := if_neg h
    have e2 : ¬ nI (α 11 i) = (-9 : Int32) := by
      rcases (show α 11 i = 0 ∨ α 11 i = 1 ∨ α 11 i = 2 ∨ α 11 i = 3 ∨ α 11 i = 4 by omega) with q | q | q | q | q <;> rw [q] <;> decide
    have ez : zaim α i = α 11 i := if_neg h
    simp only [f_X9_aimOf, h1, Option.bind_some, e, e2, if_false, ez]
theorem zaim_le {α : AS} (hW : WF α) (i : Nat) : zaim α i ≤ 4 := by
  unfold zaim
  have h1 := (hW.2.2.2.2.2.1.2.2.2.2.2 i).1
  have h2 := hW.2.2.2.2.2.1.2.1 i
  split <;> omega
/-- the sites to change, as a set -/
def zchg (α : AS) : Nat → Nat
  | 0 => 0
  | s + 1 => if zaim α s = α 7 s then zchg α s else zchg α s ||| 2 ^ s
theorem zchg_lt (α : AS) : ∀ s, zchg α s < 2 ^ s
  | 0 => by show (0 : Nat) < 2 ^ 0; decide
  | s + 1 => by
    have h := zchg_lt α s
    have h2 : 2 ^ s < 2 ^ (s + 1) := Nat.pow_lt_pow_right (by decide) (by omega)
    show (if zaim α s = α 7 s then zchg α s else zchg α s ||| 2 ^ s) < 2 ^ (s + 1)
    split
    · omega
    · exact Nat.or_lt_two_pow (by omega) h2
theorem zor_nI {a s : Nat} (ha : a < 16) (hs : s < 4) : nI a ||| ((1 : Int32) <<< (nI s &&& 31)) = nI (a ||| 2 ^ s) := by
  have h : (List.range 16).all (fun a => (List.range 4).all fun s => decide (nI a ||| ((1 : Int32) <<< (nI s &&& 31)) = nI (a ||| 2 ^ s))) = true := by decide +kernel
  exact of_decide_eq_true (List.all_eq_true.mp (List.all_eq_true.mp h a (List.mem_range.mpr ha)) s (List.mem_range.mpr hs))
theorem zw_toChange {N : Nat} (hN : 10 < N) {α : AS} {σ : ZM} (hW : WF α) (hC : RC α σ) : f_X4_toChange N σ = some (nI (zchg α (α 0 2)), σ) := by
  have hs : α 0 2 ≤ 4 := hW.1.2.2.1
  refine zloopT (fun m (q : Int32 × Int32) => f_X4_toChange_4 N m q.1 q.2 σ) (fun i => (nI (zchg α i), nI i)) (α 0 2) _ (fun m => ?_) (fun m i hi => ?_) N 0 (by omega) (by omega)
  · simp only [f_X4_toChange_4, b_X4_toChange_4, hC.sites, zle_self (show α 0 2 ≤ 100 by omega), if_true]
  · have h1 : ¬ nI (α 0 2) ≤ nI i := nI_ge hi (by omega)
    have hl := zchg_lt α i
    have hl2 : zchg α i < 16 := Nat.lt_of_lt_of_le hl (Nat.pow_le_pow_right (n := 2) (by decide) (show i ≤ 4 by omega))
    by_cases h : zaim α i = α 7 i
    · have e : nI (zaim α i) = nI (α 7 i) := by rw [h]
      simp only [f_X4_toChange_4, b_X4_toChange_4, hC.sites, h1, if_false, zw_aimC hW hC (show i < 4 by omega), zbd, Option.bind_some, hC.knd (show i < 4 by omega), e, if_true, f_X4_toChange_38, nI_1, zchg, h]
    · have e : ¬ nI (zaim α i) = nI (α 7 i) := fun q => h (nI_inj (by have := zaim_le hW i; omega) (by have := hW.2.2.2.2.2.1.2.1 i; omega) q)
      simp only [f_X4_toChange_4, b_X4_toChange_4, hC.sites, h1, if_false, zw_aimC hW hC (show i < 4 by omega), zbd, Option.bind_some, hC.knd (show i < 4 by omega), e, f_X4_toChange_38, nI_1, zchg, h, zor_nI hl2 (show i < 4 by omega)]
theorem zw_stepCount {N : Nat} (hN : 10 < N) {α : AS} {σ : ZM} (hW : WF α) (hM : RM α σ) : f_X9_stepCount N σ = some (nI (zsum (fun s => if zaim α s = α 7 s then 0 else 1) (α 0 2)), σ) := by
  have hs : α 0 2 ≤ 4 := hW.1.2.2.1
  have e0 : ∀ a : Nat, nI a + 0 = nI a := fun a => by rw [show (0 : Int32) = nI 0 from rfl, nI_add]; rfl
  refine zloopT (fun m (q : Int32 × Int32) => f_X9_stepCount_4 N m q.1 q.2 σ) (fun i => (nI (zsum (fun s => if zaim α s = α 7 s then 0 else 1) i), nI i)) (α 0 2) _ (fun m => ?_) (fun m i hi => ?_) N 0 (by omega) (by omega)
  · simp only [f_X9_stepCount_4, b_X9_stepCount_4, hM.sites, zle_self (show α 0 2 ≤ 100 by omega), if_true]
  · have h1 : ¬ nI (α 0 2) ≤ nI i := nI_ge hi (by omega)
    by_cases h : zaim α i = α 7 i
    · have e : nI (zaim α i) = nI (α 7 i) := by rw [h]
      simp only [f_X9_stepCount_4, b_X9_stepCount_4, hM.sites, h1, if_false, zw_aimM hW hM hi, zbd, Option.bind_some, hM.knd (show i < 4 by omega), e, if_true, f_X9_stepCount_32, nI_1, zsum, h, e0, Nat.add_zero]
    · have e : ¬ nI (zaim α i) = nI (α 7 i) := fun q => h (nI_inj (by have := zaim_le hW i; omega) (by have := hW.2.2.2.2.2.1.2.1 i; omega) q)
      simp only [f_X9_stepCount_4, b_X9_stepCount_4, hM.sites, h1, if_false, zw_aimM hW hM hi, zbd, Option.bind_some, hM.knd (show i < 4 by omega), e, f_X9_stepCount_32, nI_1, zsum, h]
theorem zpc_or {a s : Nat} (ha : a < 2 ^ s) (hs : s < 4) : zpc (a ||| 2 ^ s) = zpc a + 1 := by
  have h : (List.range 4).all (fun s => (List.range (2 ^ s)).all fun a => decide (zpc (a ||| 2 ^ s) = zpc a + 1)) = true := by decide +kernel
  exact of_decide_eq_true (List.all_eq_true.mp (List.all_eq_true.mp h s (List.mem_range.mpr hs)) a (List.mem_range.mpr ha))
theorem zchg_pc (α : AS) : ∀ s, s ≤ 4 → zpc (zchg α s) = zsum (fun s => if zaim α s = α 7 s then 0 else 1) s
  | 0, _ => by show zpc 0 = 0; decide
  | s + 1, h => by
    have ih := zchg_pc α s (by omega)
    show zpc (if zaim α s = α 7 s then zchg α s else zchg α s ||| 2 ^ s) = zsum _ s + (if zaim α s = α 7 s then 0 else 1)
    by_cases e : zaim α s = α 7 s
    · rw [if_pos e, if_pos e, ih]; rfl
    · rw [if_neg e, if_neg e, zpc_or (zchg_lt α s) (by omega), ih]
theorem mu_steps {N : Nat} (hN : 10 < N) : zMut (f_X8_steps N) (f_X9_steps N) := by
  intro α σc σm hW hC hM
  have hs : α 0 2 ≤ 4 := hW.1.2.2.1
  have hl : zchg α (α 0 2) ≤ 15 := by
    have := Nat.lt_of_lt_of_le (zchg_lt α (α 0 2)) (Nat.pow_le_pow_right (n := 2) (by decide) hs)
    omega
  refine zMut.same hW hC hM (r := nI (zsum (fun s => if zaim α s = α 7 s then 0 else 1) (α 0 2))) ?_ ?_
  · simp only [f_X8_steps, zw_toChange hN hW hC, zbd, Option.bind_some, zw_bit N _ hl, zchg_pc α _ hs]
  · simp only [f_X9_steps, zw_stepCount hN hW hM, zbd, Option.bind_some]
/-- the state at the start -/
def za0 : AS := fun k _ => if k = 11 then 5 else if k = 17 then 4 else 0
theorem za0_WF : WF za0 := by
  refine ⟨⟨by decide, by decide, by decide, by decide⟩, ⟨fun i => by show (0 : Nat) ≤ 3; decide, fun a b _ _ => rfl, fun a _ => rfl, fun a b _ _ _ => rfl⟩, fun n h => absurd h (Nat.not_lt_zero n), ⟨fun n => by show (0 : Nat) ≤ 10000; decide, fun n => by show (0 : Nat) ≤ 100000; decide, fun n => by show (0 : Nat) ≤ 999; decide⟩, fun s h => absurd h (Nat.not_lt_zero s), ⟨fun s => by show (0 : Nat) ≤ 1; decide, fun s => by show (0 : Nat) ≤ 4; decide, fun s => by show (0 : Nat) < 2 ^ 0; decide, fun s => by show (0 : Nat) ≤ 1; decide, fun s _ => ⟨rfl, rfl, rfl, rfl⟩, fun s => ⟨by show (5 : Nat) ≤ 5; decide, fun _ => rfl⟩⟩, ⟨fun t => by show (0 : Nat) ≤ 0; decide, fun t => by show (0 : Nat) ≤ 4; decide, fun s => by show (0 : Nat) < 2 ^ 0; decide, fun t => by show (0 : Nat) ≤ 1; decide, fun t => by show (0 : Nat) ≤ 1; decide, fun t n _ => ⟨by show (4 : Nat) ≤ 5; decide, fun h => absurd h (by show ¬ (4 : Nat) < 4; decide), fun _ => rfl⟩⟩⟩
theorem za0_RC : RC za0 zc0 := by
  refine ⟨?_, ?_, ?_, ?_, ?_⟩
  · unfold zrt; decide +kernel
  · unfold zrt; decide +kernel
  · unfold zrt; decide +kernel
  · intro a ha; exact ⟨0, by have : zc0.1 5 a = 0 := rfl
                             rw [this]; rfl, by decide, fun b _ => by simp [za0]⟩
  · intro a ha; exact ⟨0, by have : zc0.1 6 a = 0 := rfl
                             rw [this]; rfl, by decide, fun b _ => by simp [za0]⟩
theorem za0_RM : RM za0 zm0 := by
  refine ⟨?_, fun s h => absurd h (Nat.not_lt_zero s), fun t h => absurd h (Nat.not_lt_zero t)⟩
  intro e he i _
  have : (TM.all fun e => decide (e.2.2.1 ≠ 11 ∧ e.2.2.1 ≠ 17)) = true := by decide +kernel
  have h1 := of_decide_eq_true (List.all_eq_true.mp this e he)
  show (0 : Int32) = nI (za0 e.2.2.1 (e.2.2.2.1 + i))
  unfold za0
  rw [if_neg h1.1, if_neg h1.2]
  rfl
