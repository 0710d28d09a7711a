theorem zb {α β : Type} {o : Option α} {f : α → Option β} {r : β} (h : o.bind f = some r) : ∃ v, o = some v ∧ f v = some r := by
  cases o with
  | none => cases h
  | some v => exact ⟨v, rfl, h⟩
def zbd {α β : Type} (o : Option (α × ZM)) (f : α → ZM → Option β) : Option β := o.bind fun q => f q.1 q.2
theorem zc {α β : Type} {o : Option (α × ZM)} {f : α → ZM → Option β} {r : β} (h : zbd o f = some r) : ∃ v s, o = some (v, s) ∧ f v s = some r := by
  cases o with
  | none => cases h
  | some v => exact ⟨v.1, v.2, rfl, h⟩
theorem zi {α : Type} {c : Prop} [Decidable c] {A B : Option α} {r : α} (h : (if c then A else B) = some r) : (c → A = some r) ∧ (¬ c → B = some r) := ⟨fun hc => by rw [if_pos hc] at h; exact h, fun hc => by rw [if_neg hc] at h; exact h⟩
def zrz (x : Int32) (σ : ZM) : Option (Int32 × ZM) := if x = 0 ∨ x = 1 then some (x, σ) else none
theorem zrz_ok {x : Int32} {σ : ZM} {res : Int32 × ZM} (h : zrz x σ = some res) : (x = 0 ∨ x = 1) ∧ (x, σ) = res := by
  unfold zrz at h
  split at h
  · rename_i hx; exact ⟨hx, Option.some.inj h⟩
  · cases h
theorem zlk2 {x : Int32} {a b o1 o2 d : Int} (h2 : x.toInt ≠ a) (h3 : x.toInt ≠ b) : Op.lookupswitch.offset [(a, o1), (b, o2)] d x.toInt = d := by
  rw [Op.lookupswitch.offset_cons, if_neg (fun e => h2 e.symm), Op.lookupswitch.offset_cons, if_neg (fun e => h3 e.symm)]
  rfl
theorem zne {x k : Int32} {n : Int} (hk : k.toInt = n) (h : ¬ x = k) : x.toInt ≠ n := fun e => h (Int32.toInt_inj.mp (by rw [e, hk]))
theorem bpm9 : (Int8.ofInt (-9)).toInt32 = (-9 : Int32) := by decide
theorem bpm5 : (Int8.ofInt (-5)).toInt32 = (-5 : Int32) := by decide
theorem bpm4 : (Int8.ofInt (-4)).toInt32 = (-4 : Int32) := by decide
theorem bpm3 : (Int8.ofInt (-3)).toInt32 = (-3 : Int32) := by decide
theorem bpm2 : (Int8.ofInt (-2)).toInt32 = (-2 : Int32) := by decide
theorem bp6 : (Int8.ofInt (6)).toInt32 = (6 : Int32) := by decide
theorem bp7 : (Int8.ofInt (7)).toInt32 = (7 : Int32) := by decide
theorem bp8 : (Int8.ofInt (8)).toInt32 = (8 : Int32) := by decide
theorem bp9 : (Int8.ofInt (9)).toInt32 = (9 : Int32) := by decide
theorem bp10 : (Int8.ofInt (10)).toInt32 = (10 : Int32) := by decide
theorem bp15 : (Int8.ofInt (15)).toInt32 = (15 : Int32) := by decide
theorem bp16 : (Int8.ofInt (16)).toInt32 = (16 : Int32) := by decide
theorem bp20 : (Int8.ofInt (20)).toInt32 = (20 : Int32) := by decide
theorem bp32 : (Int8.ofInt (32)).toInt32 = (32 : Int32) := by decide
theorem bp40 : (Int8.ofInt (40)).toInt32 = (40 : Int32) := by decide
theorem bp44 : (Int8.ofInt (44)).toInt32 = (44 : Int32) := by decide
theorem bp48 : (Int8.ofInt (48)).toInt32 = (48 : Int32) := by decide
theorem bp63 : (Int8.ofInt (63)).toInt32 = (63 : Int32) := by decide
theorem bp100 : (Int8.ofInt (100)).toInt32 = (100 : Int32) := by decide
theorem icm1 : Int32.ofInt (-1) = (-1 : Int32) := by decide
theorem ic0 : Int32.ofInt (0) = (0 : Int32) := by decide
theorem ic1 : Int32.ofInt (1) = (1 : Int32) := by decide
theorem ic2 : Int32.ofInt (2) = (2 : Int32) := by decide
theorem ic3 : Int32.ofInt (3) = (3 : Int32) := by decide
theorem ic4 : Int32.ofInt (4) = (4 : Int32) := by decide
theorem ic5 : Int32.ofInt (5) = (5 : Int32) := by decide
theorem ic8 : Int32.ofInt (8) = (8 : Int32) := by decide
theorem ic16 : Int32.ofInt (16) = (16 : Int32) := by decide
theorem sp256 : (Int16.ofInt (256)).toInt32 = (256 : Int32) := by decide
theorem sp625 : (Int16.ofInt (625)).toInt32 = (625 : Int32) := by decide
theorem sp999 : (Int16.ofInt (999)).toInt32 = (999 : Int32) := by decide
theorem sp1000 : (Int16.ofInt (1000)).toInt32 = (1000 : Int32) := by decide
theorem sp10000 : (Int16.ofInt (10000)).toInt32 = (10000 : Int32) := by decide
