/-! ===== the invariant, and all calls ===== -/
def ZInv (σc σm : ZM) : Prop := ∃ α, WF α ∧ RC α σc ∧ RM α σm ∧ ChOK α σc ∧ CaOK α σc
theorem CE.rfl' (α : AS) : CE α α := ⟨rfl, rfl, fun _ _ _ => rfl⟩
theorem Stale.ch {α : AS} {σ : ZM} (h : Stale σ) : ChOK α σ := Or.inl h.1
theorem Stale.ca {α : AS} {σ : ZM} (h : Stale σ) : CaOK α σ := Or.inl h.2
theorem st_mut {R : Type} {f g : ZM → Option (R × ZM)} (h : zMut f g) : zSt ZInv f g := by
  rintro σc σm ⟨α, hW, hC, hM, hF, hK⟩
  obtain ⟨r, c1, m1, α1, q1, q2, q3, q4, q5, q6⟩ := h α σc σm hW hC hM
  refine ⟨r, c1, m1, q1, q2, α1, q3, q4, q5, ?_⟩
  rcases q6 with ⟨e1, e2⟩ | st
  · subst e1 e2; exact ⟨hF, hK⟩
  · exact ⟨st.ch, st.ca⟩
theorem st_qry {R : Type} {f g : ZM → Option (R × ZM)} (h : zQry f g) : zSt ZInv f g := by
  rintro σc σm ⟨α, hW, hC, hM, hF, hK⟩
  obtain ⟨r, c1, m1, q1, q2, q3, q4, q5⟩ := h α σc σm hW hC hM
  exact ⟨r, c1, m1, q1, q2, α, hW, q3, q4, hF.mv (zag_none q5 (by decide)), hK.frQ q5⟩
theorem CaOK.frY {α : AS} {σ σ' : ZM} (h : CaOK α σ) (g : zag zWY σ σ') : CaOK α σ' := h.mv (fun i => (g 38 i (by decide) (by simp)).1) (fun i => (g 45 i (by decide) (by simp)).1)
theorem ChOK.frZ {α : AS} {σ σ' : ZM} (h : ChOK α σ) (g : zag zWZ σ σ') : ChOK α σ' := h.cg (CE.rfl' α) (g 23 14 (by decide) (by decide)).1 (fun a => (g 30 a (by decide) (by simp)).1) (fun a => (g 31 a (by decide) (by simp)).1)
theorem st_qch {R : Type} {f g : ZM → Option (R × ZM)} (h : zQch f g) : zSt ZInv f g := by
  rintro σc σm ⟨α, hW, hC, hM, hF, hK⟩
  obtain ⟨r, c1, m1, q1, q2, q3, q4, q5, q6⟩ := h α σc σm hW hC hM hF
  exact ⟨r, c1, m1, q1, q2, α, hW, q3, q4, q5, hK.frY q6⟩
theorem st_go {R : Type} {f g : ZM → Option (R × ZM)} (h : zQgo f g) : zSt ZInv f g := by
  rintro σc σm ⟨α, hW, hC, hM, hF, hK⟩
  obtain ⟨r, c1, m1, α1, q1, q2, q3, q4, q5, q6⟩ := h α σc σm hW hC hM hF
  refine ⟨r, c1, m1, q1, q2, α1, q3, q4, q5, ?_⟩
  rcases q6 with ⟨e1, e2, e3⟩ | st
  · subst e1; exact ⟨e2, hK.frY e3⟩
  · exact ⟨st.ch, st.ca⟩
theorem st_qca {R : Type} {f g : ZM → Option (R × ZM)} (h : zQca f g) : zSt ZInv f g := by
  rintro σc σm ⟨α, hW, hC, hM, hF, hK⟩
  obtain ⟨r, c1, m1, q1, q2, q3, q4, q5, q6⟩ := h α σc σm hW hC hM hK
  exact ⟨r, c1, m1, q1, q2, α, hW, q3, q4, hF.frZ q6, q5⟩
theorem st_le {R : Type} {f g : ZM → Option (R × ZM)} (h : zQle f g) : zSt ZInv f g := by
  rintro σc σm ⟨α, hW, hC, hM, hF, hK⟩
  obtain ⟨r, c1, m1, α1, q1, q2, q3, q4, q5, q6⟩ := h α σc σm hW hC hM hK
  refine ⟨r, c1, m1, q1, q2, α1, q3, q4, q5, ?_⟩
  rcases q6 with ⟨e1, e2, e3⟩ | st
  · subst e1; exact ⟨hF.frZ e3, e2⟩
  · exact ⟨st.ch, st.ca⟩
theorem st_tri {R : Type} {f g : ZM → Option (R × ZM)} (h : zTriC f g) : zSt ZInv f g := by
  rintro σc σm ⟨α, hW, hC, hM, hF, hK⟩
  obtain ⟨r, c1, m1, α1, q1, q2, q3, q4, q5, q6⟩ := h α σc σm hW hC hM
  refine ⟨r, c1, m1, q1, q2, α1, q3, q4, q5, ?_⟩
  rcases q6 with ⟨e1, e2⟩ | ⟨e1, e2, e3, e4, e5⟩
  · subst e1 e2; exact ⟨hF, hK⟩
  · exact ⟨hF.cg e1 e4 (fun a => (e5 a).1) (fun a => (e5 a).2), Or.inl ⟨e2, e3⟩⟩
/-! the cases don't look at what is aimed at -/
theorem ca_cg {α β : AS} (h : ∀ c, c ≠ 11 → β c = α c) {σ : ZM} (hK : CaOK α σ) : CaOK β σ := by
  have h0 := h 0 (by decide)
  have h1 := h 1 (by decide)
  have h3 := h 3 (by decide)
  have h4 := h 4 (by decide)
  have h6 := h 6 (by decide)
  have h7 := h 7 (by decide)
  have h8 := h 8 (by decide)
  have h9 := h 9 (by decide)
  have h12 := h 12 (by decide)
  have h13 := h 13 (by decide)
  have h14 := h 14 (by decide)
  have h15 := h 15 (by decide)
  have h16 := h 16 (by decide)
  have h17 := h 17 (by decide)
  have e00 : β 0 0 = α 0 0 := by rw [h0]
  have erest : ∀ κ, zrest β κ = zrest α κ := fun κ => zrest_cw e00 h1 h4
  have eit : ∀ κ k, zit β κ k = zit α κ k := fun κ k => zit_cw e00 h1 h4 k
  have epr : zpr β = zpr α := by funext n; unfold zpr; rw [h3]
  have ecr : zcr β = zcr α := by funext c n; unfold zcr; rw [epr, h3]
  have eMM : zMM β = zMM α := by unfold zMM; rw [epr, e00]
  have ekt : zkt β = zkt α := by funext t ρ; unfold zkt; rw [h12, h13, h14, h15, h16]
  have esp : zsp β = zsp α := by funext t n; unfold zsp; rw [h17]
  have esq : zsq β = zsq α := by funext t w n; unfold zsq; rw [h17]
  have ebad : zbad β = zbad α := by
    funext ρ t
    unfold zbad
    rw [ekt, esp, esq, erest]
    simp only [eit]
  have efq : zfq β = zfq α := by funext c; unfold zfq; rw [ebad, ecr, h0]
  have eok : zok β = zok α := by funext c; unfold zok; rw [efq]
  have eLA : zLA β = zLA α := by unfold zLA; rw [eok, eMM]
  have epq : zpq β = zpq α := by
    funext c n
    induction n with
    | zero => rfl
    | succ n ih =>
      show zpq β c n + zcr β c n * 4 ^ n = zpq α c n + zcr α c n * 4 ^ n
      rw [ih, ecr]
  have eqm : zqm β = zqm α := by
    funext n
    induction n with
    | zero => rfl
    | succ n ih =>
      show zmax (zqm β n) (zfr (zfq β n)) = zmax (zqm α n) (zfr (zfq α n))
      rw [ih, efq]
  have eqa : zqa β = zqa α := by unfold zqa; rw [eLA, eqm, eMM]
  have eoc : zoc β = zoc α := by
    funext s v c
    unfold zoc
    rw [h0, h6, h7, h8, h9, ecr, erest]
    simp only [eit]
  have ega : zga β = zga α := by funext s v; unfold zga; rw [eoc, eLA]
  have evc : zvc β = zvc α := by funext x; unfold zvc; rw [h6, h7]
  have enb : znb β = znb α := by funext k; unfold znb; rw [evc, ega]
  unfold CaOK Sif Sou at *
  rw [eMM, eLA, epq, eqa, enb, ega, h0]
  exact hK
theorem st_aim {R : Type} {f g : ZM → Option (R × ZM)} (h : zAimC f g) : zSt ZInv f g := by
  rintro σc σm ⟨α, hW, hC, hM, hF, hK⟩
  obtain ⟨r, c1, m1, α1, q1, q2, q3, q4, q5, q6, q7⟩ := h α σc σm hW hC hM
  refine ⟨r, c1, m1, q1, q2, α1, q3, q4, q5, ?_, ?_⟩
  · exact hF.cg ⟨by rw [q7 0 (by decide)], by rw [q7 0 (by decide)], fun c _ h2 => (q7 c (by omega)).symm⟩ (q6 23 14 (by decide) (by decide)).1 (fun a => (q6 30 a (by decide) (by simp)).1) (fun a => (q6 31 a (by decide) (by simp)).1)
  · exact ca_cg q7 (hK.mv (fun i => (q6 38 i (by decide) (by simp)).1) (fun i => (q6 45 i (by decide) (by simp)).1))
theorem zall_ok : zAll ZInv 1000 :=
  ⟨fun x => st_mut (mu_net 1000 x),
   fun x y z => st_mut (mu_tie (by decide) x y (zbo z)),
   fun x y => st_mut (mu_tied 1000 x y),
   fun x y => st_mut (mu_askers 1000 x y),
   fun x y => st_mut (mu_guess 1000 x y),
   fun x y => st_mut (mu_site 1000 x y),
   fun x y => st_mut (mu_room 1000 x y),
   fun x y => st_mut (mu_up 1000 x y),
   fun x y => st_mut (mu_kind 1000 x y),
   fun x y => st_mut (mu_held 1000 x y),
   fun x y => st_mut (mu_near 1000 x y),
   fun x y z => st_mut (mu_late 1000 x y z),
   st_qry (qu_rounds (by decide)),
   fun x => st_qry (qu_comes (by decide) x),
   fun x => st_qry (qu_names (by decide) x),
   fun x y => st_qry (qu_way (by decide) x y),
   fun x => st_qry (qu_told (by decide) x),
   fun x => st_qry (qu_why (by decide) x),
   fun x => st_qry (qu_load (by decide) x),
   st_qch (qu_excess (by decide)),
   st_qch (qu_sum (by decide)),
   fun x => st_qch (qu_without (by decide) x),
   fun x y => st_qry (qu_moves (by decide) x y),
   st_tri (ca_trial (by decide)),
   fun x y z => st_tri (ca_seen x y z),
   st_mut (mu_cases (by decide)),
   st_qca (qu_agree (by decide)),
   fun x => st_qca (qu_could (by decide) x),
   fun x => st_qca (qu_rules (by decide) x),
   st_le (qu_learn (by decide)),
   st_qca (qu_quarrel (by decide)),
   fun x => st_qca (qu_next (by decide) (zbo x)),
   fun x => st_qch (qu_best (by decide) (zbo x)),
   fun x => st_qch (qu_bestSum (by decide) (zbo x)),
   fun x y => st_qch (qu_bestKind (by decide) (zbo x) y),
   fun x y => st_aim (ca_aim x y),
   st_mut (mu_steps (by decide)),
   fun x => st_qch (qu_step (by decide) x),
   st_qch (qu_stepWorst (by decide)),
   st_go (qu_go (by decide)),
   fun x => st_mut (mu_count (by decide) x)⟩
theorem zinit_ok : ZInv zc0 zm0 := ⟨za0, za0_WF, za0_RC, za0_RM, Or.inl rfl, Or.inl ⟨rfl, rfl⟩⟩
theorem whole_start {p : Program} {e : Env} {s : State} {m : MethodId} {below : List Frame} {meth : Method} {c : Code} (l : Launch) {b L : Nat} {xs : Nat → Int32} (hL : L ≤ 2048) (C0 : lw_At p s m meth c b L xs) : W p l e room_1 s m #[Value.ref b] below meth c s.heap [] 0 0 (lw_Z below #[Value.ref b] s) (entryFrame m ([Value.ref b] : List Value).toArray 4) := whole_open zall_ok zinit_ok l hL C0
