/-! WHERE THE LAW BEGINS, AND ITS WHOLE RUN -/
section Mof
variable {F : MF}
theorem U0_st : m_RT.all (fun x => decide (lkU m_U0 x.1 x.2.1 = some ((x.2.2 : Nat) : Int))) = true := by decide +kernel
theorem U0_z : ([4, 82, 203, 205].all (fun c => (List.range 24).all (fun r => decide (lkU m_U0 c r = some 0)))) = true := by decide +kernel
theorem U0_m : ([20, 39, 58].all (fun c => (List.range 8).all (fun r => decide (lkU m_U0 c r = some 0)))) = true := by decide +kernel
theorem U0_f : ([(0, 8), (0, 9), (109, 7), (201, 4), (201, 6), (201, 7)].all (fun c => decide (lkU m_U0 c.1 c.2 = some 0))) = true := by decide +kernel
theorem U0_1 : lkU m_U0 1 6 = some 1 := by decide +kernel
theorem U0_s : m_U0.all (fun u => decide (u.2.1 ≠ 1000001)) = true := by decide +kernel
theorem st_0 : St (apU m_U0 F) := fun x hx => lk_ap _ (of_decide_eq_true (List.all_eq_true.mp U0_st x hx))
theorem z_row {c r : Nat} (hc : c ∈ [4, 82, 203, 205]) (hr : r < 24) : apU m_U0 F c r = 0 := lk_ap _ (of_decide_eq_true (List.all_eq_true.mp (List.all_eq_true.mp U0_z c hc) r (List.mem_range.mpr hr)))
theorem z_mod {c r : Nat} (hc : c ∈ [20, 39, 58]) (hr : r < 8) : apU m_U0 F c r = 0 := lk_ap _ (of_decide_eq_true (List.all_eq_true.mp (List.all_eq_true.mp U0_m c hc) r (List.mem_range.mpr hr)))
theorem z_fld {c r : Nat} (hc : (c, r) ∈ [(0, 8), (0, 9), (109, 7), (201, 4), (201, 6), (201, 7)]) : apU m_U0 F c r = 0 := lk_ap _ (of_decide_eq_true (List.all_eq_true.mp U0_f (c, r) hc))
theorem md_nil {f : Nat} : ∀ m, md (fun _ => []) f m = false
  | 0 => rfl
  | m + 1 => by
    show modeL 24 [] 0 (md (fun _ => []) f m) = false
    rw [md_nil m]
    rfl
theorem rws_0 {C D : Nat → Int} (h : ∀ r, r < 24 → D r = 0) : Rws C D (fun _ => []) := fun r hr => ⟨h r hr, ⟨by show (0 : Nat) ≤ 24; decide, fun a ha => absurd ha (List.not_mem_nil)⟩, fun j hj => absurd hj (Nat.not_lt_zero j)⟩
theorem kc_0 : KC (apU m_U0 F) (fun _ => []) (fun _ => []) [] [] false 0 := by
  refine ⟨rws_0 (fun r hr => z_row (c := 4) (by decide) hr), rws_0 (fun r hr => z_row (c := 82) (by decide) hr), fun f hf k hk => ?_, fun h6 => ?_, ⟨z_fld (by decide), AL.nil, by decide, fun a ha => absurd ha (List.not_mem_nil)⟩, z_fld (by decide), ⟨z_fld (by decide), by decide, fun i hi => absurd hi (Nat.not_lt_zero i)⟩, fun c => absurd rfl c⟩
  · rw [md_nil]
    have h3 : f = 0 ∨ f = 1 ∨ f = 2 := by omega
    rcases h3 with rfl | rfl | rfl
    · exact z_mod (c := 20) (by decide) hk
    · exact z_mod (c := 39) (by decide) hk
    · exact z_mod (c := 58) (by decide) hk
  · rw [lk_ap _ U0_1] at h6
    exact absurd h6 (by decide)
theorem kr_0 : KR (apU m_U0 F) (fun _ => []) (fun _ => []) [] [] false 0 :=
  ⟨rws_0 (fun r hr => z_row (c := 203) (by decide) hr), rws_0 (fun r hr => z_row (c := 205) (by decide) hr), ⟨⟨z_fld (by decide), AL.nil, by decide⟩, fun a ha => absurd ha (List.not_mem_nil)⟩, z_fld (by decide), ⟨z_fld (by decide), by decide, fun i hi => absurd hi (Nat.not_lt_zero i)⟩, fun c => absurd rfl c⟩
/-- the whole run of the law, from any heap that holds a script of that length -/
theorem m_run {n : Nat} (hs : F 1000001 0 = (n : Int)) (hn : n ≤ 2560) : ∃ (f : Nat) (h' : MH), mx f 21 420 0 (m_ini 8 [(6, 0)]) [] (F, [], 0, 0) = some ((0, [(0, 1)]), h') ∧ h'.2.1.length ≤ 1000000 ∧ h'.2.2.1 ≤ 601024 ∧ h'.2.2.2 ≤ 7293034 := by
  have hs0 : apU m_U0 F 1000001 0 = (n : Int) := by rw [ap_no _ U0_s]; exact hs
  have hl := l_420 hn 512 0 (apU m_U0 F) (by omega) (by decide) st_0 ⟨_, _, _, _, _, _, kc_0, kr_0⟩ hs0
  obtain ⟨f, o, F', c', s', h1, h2, h3, rfl⟩ := hl 21 (by rw [hg_420]; decide) 282 92926
  obtain ⟨g, hg⟩ := mlw_mx (F := F) (d := 20) 13 0 23 _ _ [] [] ([], [], 0, 0) _ m_ct0 ⟨f, h1⟩
  exact ⟨g, _, hg, by show m_KD.length ≤ 1000000; decide +kernel, by show c' ≤ 601024; omega, by show s' ≤ 7293034; omega⟩
end Mof
