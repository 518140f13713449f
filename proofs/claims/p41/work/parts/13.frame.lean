/-! WHAT A STEP LEAVES AS IT WAS -/
def m_fr (h h' : MH) : Prop := h.2.1.length ≤ h'.2.1.length ∧ h.2.2.1 ≤ h'.2.2.1 ∧ h.2.2.2 ≤ h'.2.2.2 ∧ ∀ a, h'.2.1.length ≤ a → h'.1 a = h.1 a
theorem m_fr.rf (h : MH) : m_fr h h := ⟨Nat.le_refl _, Nat.le_refl _, Nat.le_refl _, fun _ _ => rfl⟩
theorem m_fr.tr {h1 h2 h3 : MH} (a : m_fr h1 h2) (b : m_fr h2 h3) : m_fr h1 h3 :=
  ⟨Nat.le_trans a.1 b.1, Nat.le_trans a.2.1 b.2.1, Nat.le_trans a.2.2.1 b.2.2.1, fun x hx => (b.2.2.2 x hx).trans (a.2.2.2 x (Nat.le_trans b.1 hx))⟩
theorem m_kind_lt {h : MH} {a : Int} (hk : (m_kind h a).1 ≠ 999) : a.toNat < h.2.1.length := by
  unfold m_kind at hk
  split at hk
  · cases hg : (h.2.1)[a.toNat]? with
    | none => rw [hg] at hk; exact absurd rfl hk
    | some kd => exact (List.getElem?_eq_some_iff.mp hg).1
  · exact absurd rfl hk
theorem m_fr.up {h : MH} {a : Int} {i : Nat} {x : Int} (hk : (m_kind h a).1 ≠ 999) : m_fr h (m_up h.1 a.toNat i x, h.2) := by
  refine ⟨Nat.le_refl _, Nat.le_refl _, Nat.le_refl _, fun b hb => ?_⟩
  have h1 := m_kind_lt hk
  have hb : h.2.1.length ≤ b := hb
  exact m_up_ne (by omega)
theorem m_fr.nw {h : MH} {kd n : Nat} {d : Int} : m_fr h (m_new kd n d h) := by
  refine ⟨by show _ ≤ (h.2.1 ++ [(kd, n)]).length; simp, by show _ ≤ h.2.2.1 + 1; omega, by show _ ≤ h.2.2.2 + n; omega, fun a ha => ?_⟩
  have ha : (h.2.1 ++ [(kd, n)]).length ≤ a := ha
  rw [List.length_append, List.length_singleton] at ha
  funext j
  show (if a = h.2.1.length then _ else _) = _
  rw [if_neg (by omega)]
theorem m_fr.nwo {h : MH} {ci n : Nat} : m_fr h (m_newo ci n h) := by
  refine ⟨by show _ ≤ (h.2.1 ++ [(ci, n)]).length; simp, by show _ ≤ h.2.2.1 + 1; omega, by show _ ≤ h.2.2.2 + n; omega, fun a ha => ?_⟩
  have ha : (h.2.1 ++ [(ci, n)]).length ≤ a := ha
  rw [List.length_append, List.length_singleton] at ha
  funext j
  show (if a = h.2.1.length then _ else _) = _
  rw [if_neg (by omega)]
theorem m_fr.thr {h : MH} : m_fr h (m_thr h) := ⟨Nat.le_refl _, by show _ ≤ h.2.2.1 + 1; omega, by show _ ≤ h.2.2.2 + 6; omega, fun _ _ => rfl⟩
theorem m_fr_ast {kd ty pc pc' : Nat} {ls ls' : ML} {st st' : List MV} {h h' : MH} (hk : kd ≠ 999) (hm : m_ast kd ty pc ls st h = .ok (pc', ls', st', h')) : m_fr h h' := by
  unfold m_ast at hm
  split at hm
  · split at hm
    · next hc => cases hm; exact m_fr.up (by rw [hc.1]; exact hk)
    · cases hm
  · cases hm
theorem m_fr_mk {kd pc pc' : Nat} {d : Int} {ls ls' : ML} {st st' : List MV} {h h' : MH} (hm : m_mkarr kd d pc ls st h = .ok (pc', ls', st', h')) : m_fr h h' := by
  unfold m_mkarr at hm
  split at hm
  · split at hm
    · cases hm; exact m_fr.nw
    · cases hm
  · cases hm
theorem m_fr_copy {pc pc' : Nat} {ls ls' : ML} {st st' : List MV} {h h' : MH} (hm : m_copy pc ls st h = .ok (pc', ls', st', h')) : m_fr h h' := by
  unfold m_copy at hm
  split at hm
  · next n dp b sp a r =>
    split at hm
    · next hc =>
      cases hm
      refine ⟨Nat.le_refl _, Nat.le_refl _, Nat.le_refl _, fun x hx => ?_⟩
      have h1 := m_kind_lt (h := h) (a := b) (by omega)
      have hx : h.2.1.length ≤ x := hx
      funext j
      show (if x = b.toNat ∧ dp.toNat ≤ j ∧ j < dp.toNat + n.toNat then _ else _) = _
      rw [if_neg (by omega)]
    · cases hm
  · cases hm
set_option maxHeartbeats 4000000 in
theorem m_fr_step {i : Instr} {q : LK} {pc pc' : Nat} {ls ls' : ML} {st st' : List MV} {h h' : MH} (hm : mstep i q pc ls st h = .ok (pc', ls', st', h')) : m_fr h h' := by
  cases i with
  | iastore => exact m_fr_ast (by decide) hm
  | lastore => exact m_fr_ast (by decide) hm
  | castore => exact m_fr_ast (by decide) hm
  | bastore => exact m_fr_ast (by decide) hm
  | newarray t => cases t <;> first | exact m_fr_mk hm | cases hm
  | anewarray n =>
    unfold mstep at hm
    dsimp only at hm
    split at hm
    · exact m_fr_mk hm
    · cases hm
  | new n =>
    unfold mstep at hm
    dsimp only at hm
    split at hm
    · cases hm; exact m_fr.nwo
    · split at hm <;> cases hm
  | aastore =>
    unfold mstep m_aast at hm
    dsimp only at hm
    split at hm
    · split at hm
      · next hc => cases hm; exact m_fr.up (by omega)
      · cases hm
    · cases hm
  | putfield n =>
    unfold mstep m_putf at hm
    dsimp only at hm
    split at hm
    · split at hm
      · next hc =>
        cases hm
        refine m_fr.up (fun e => ?_)
        have h4 := hc.2.2
        rw [← hc.1, e] at h4
        have h5 : m_fty 999 q.2.1 = 9 := rfl
        rw [h5] at h4
        cases h4
      · cases hm
    · cases hm
  | invokestatic n =>
    unfold mstep m_call at hm
    dsimp only at hm
    split at hm
    · exact m_fr_copy hm
    · split at hm
      · split at hm <;> cases hm
      · cases hm
  | _ =>
    have : h' = h := by
      simp only [mstep, m_go, m_put, m_ldi, m_ldl, m_lda, m_stv, m_i2, m_l2, m_get, m_of, m_aald, m_alen, m_ascr, m_atc, m_ald, m_call, m_iret, m_ko] at hm
      repeat' (split at hm)
      all_goals first | (cases hm; rfl) | cases hm
    rw [this]
    exact m_fr.rf h
theorem m_fr_mx : ∀ (f d M pc : Nat) (ls : ML) (st : List MV) (h : MH) (o : Nat × List MV) (h' : MH), mx f d M pc ls st h = some (o, h') → m_fr h h' := by
  intro f
  induction f with
  | zero => intro d M pc ls st h o h' hm; cases hm
  | succ f ih =>
    intro d M pc ls st h o h' hm
    unfold mx at hm
    split at hm
    · split at hm
      · next hs => exact (m_fr_step hs).tr (ih _ _ _ _ _ _ _ _ hm)
      · split at hm
        · cases hm
        · split at hm
          · next hc => exact (ih _ _ _ _ _ _ _ _ hc).tr (ih _ _ _ _ _ _ _ _ hm)
          · next hc =>
            split at hm
            · cases hm
            · split at hm
              · exact (ih _ _ _ _ _ _ _ _ hc).tr (ih _ _ _ _ _ _ _ _ hm)
              · cases hm; exact ih _ _ _ _ _ _ _ _ hc
          · cases hm
      · cases hm; exact m_fr.rf _
      · cases hm; exact m_fr.thr
      · cases hm
    · cases hm
