/-! AREEDITS, WHOLE -/
theorem Q_388_0 : At 388 0 [some (.bipush 24, 0, 0, 0, 0), none, some (.newarray .long, 0, 0, 0, 0), none, some (.astore_n 2, 0, 0, 0, 0), some (.bipush 24, 0, 0, 0, 0), none, some (.newarray .long, 0, 0, 0, 0), none, some (.astore_n 3, 0, 0, 0, 0), some (.bipush 24, 0, 0, 0, 0), none, some (.newarray .long, 0, 0, 0, 0), none, some (.astore 4, 0, 0, 0, 0), none, some (.bipush 24, 0, 0, 0, 0), none, some (.newarray .long, 0, 0, 0, 0), none, some (.astore 5, 0, 0, 0, 0), none, some (.bipush 24, 0, 0, 0, 0), none, some (.newarray .long, 0, 0, 0, 0), none, some (.astore 6, 0, 0, 0, 0), none, some (.bipush 24, 0, 0, 0, 0), none, some (.newarray .long, 0, 0, 0, 0), none, some (.astore 7, 0, 0, 0, 0), none, some (.bipush 24, 0, 0, 0, 0), none, some (.newarray .int, 0, 0, 0, 0), none, some (.astore 8, 0, 0, 0, 0), none, some (.bipush 24, 0, 0, 0, 0), none, some (.newarray .int, 0, 0, 0, 0), none, some (.astore 9, 0, 0, 0, 0), none] := At.of (by decide +kernel)
theorem ev_0 {F G : MF} {d : Bool} {e : Int} (hK : KC F (fun _ => []) (fun _ => []) [] [] d e) (hSG : St G) (h0 : ∀ c, 201 ≤ c → c ≤ 208 → ∀ i, G c i = 0) (h1 : ∀ c, c ≤ 200 → G c = F c) : EV (G 1000000) (G 1000001) G (fun _ => []) (fun _ => []) (fun _ => []) (fun _ => []) d e := by
  have hz : ∀ c g, 201 ≤ c → c ≤ 208 → TPw (G c) (fil (fun _ => []) g) := fun c g hc hc2 => ⟨fun i _ => by rw [h0 c hc hc2 i]; decide, fun m _ => ⟨by show (0 : Nat) ≤ 24; decide, fun k hk => absurd hk (Nat.not_lt_zero k)⟩⟩
  have hl : ∀ c, 201 ≤ c → c ≤ 208 → LL (G c) (fun _ => []) := fun c hc hc2 r _ => h0 c hc hc2 r
  exact ⟨hSG, hK.lo h1, fun g hg => ⟨hz _ _ (by omega) (by omega), hz _ _ (by omega) (by omega)⟩, hl _ (by decide) (by decide), hl _ (by decide) (by decide), rfl, rfl⟩
theorem Wq.cg {D : Nat → Prop} {nc ns nc2 ns2 M pc : Nat} {ls : ML} {st : List MV} {F : MF} (h : Wq D nc ns M pc ls st F) (h1 : nc = nc2) (h2 : ns = ns2) : Wq D nc2 ns2 M pc ls st F := by
  subst h1 h2
  exact h
theorem s_388 {F : MF} {d : Bool} {e : Int} (hS : St F) (hK : KC F (fun _ => []) (fun _ => []) [] [] d e) : Wq D0 138 972 388 0 (m_ini (m_mls.getD 388 0) [m_r 0, (6, 0)]) [] F := by
  rw [ml_388]
  show Wq D0 138 972 388 0 [some (m_r 0), some ((6, 0)), none, none, none, none, none, none, none, none, none, none, none, none, none, none, none, none, none, none, none, none, none, none, none] [] F
  have hA := Q_388_0
  refine wq_ok (pc' := 2) (ls' := [some (m_r 0), some ((6, 0)), none, none, none, none, none, none, none, none, none, none, none, none, none, none, none, none, none, none, none, none, none, none, none]) (st' := [(0, 24)]) hA.hd (fun c s => rfl) ?_
  have hA := hA.tl2
  refine wq_new (nc := 137) (ns := 948) (b := 201) (n := 24) (z := 24) (r := []) hA.hd (nw_long (n := 24) rfl (by decide)) (by decide) kd_201 (by decide) ?_
  have hA := hA.tl2
  refine wq_ok (pc' := 5) (ls' := [some (m_r 0), some ((6, 0)), some (m_r 201), none, none, none, none, none, none, none, none, none, none, none, none, none, none, none, none, none, none, none, none, none, none]) (st' := []) hA.hd (fun c s => rfl) ?_
  have hA := hA.tl
  refine wq_ok (pc' := 7) (ls' := [some (m_r 0), some ((6, 0)), some (m_r 201), none, none, none, none, none, none, none, none, none, none, none, none, none, none, none, none, none, none, none, none, none, none]) (st' := [(0, 24)]) hA.hd (fun c s => rfl) ?_
  have hA := hA.tl2
  refine wq_new (nc := 136) (ns := 924) (b := 202) (n := 24) (z := 24) (r := []) hA.hd (nw_long (n := 24) rfl (by decide)) (by decide) kd_202 (by decide) ?_
  have hA := hA.tl2
  refine wq_ok (pc' := 10) (ls' := [some (m_r 0), some ((6, 0)), some (m_r 201), some (m_r 202), none, none, none, none, none, none, none, none, none, none, none, none, none, none, none, none, none, none, none, none, none]) (st' := []) hA.hd (fun c s => rfl) ?_
  have hA := hA.tl
  refine wq_ok (pc' := 12) (ls' := [some (m_r 0), some ((6, 0)), some (m_r 201), some (m_r 202), none, none, none, none, none, none, none, none, none, none, none, none, none, none, none, none, none, none, none, none, none]) (st' := [(0, 24)]) hA.hd (fun c s => rfl) ?_
  have hA := hA.tl2
  refine wq_new (nc := 135) (ns := 900) (b := 203) (n := 24) (z := 24) (r := []) hA.hd (nw_long (n := 24) rfl (by decide)) (by decide) kd_203 (by decide) ?_
  have hA := hA.tl2
  refine wq_ok (pc' := 16) (ls' := [some (m_r 0), some ((6, 0)), some (m_r 201), some (m_r 202), some (m_r 203), none, none, none, none, none, none, none, none, none, none, none, none, none, none, none, none, none, none, none, none]) (st' := []) hA.hd (fun c s => rfl) ?_
  have hA := hA.tl2
  refine wq_ok (pc' := 18) (ls' := [some (m_r 0), some ((6, 0)), some (m_r 201), some (m_r 202), some (m_r 203), none, none, none, none, none, none, none, none, none, none, none, none, none, none, none, none, none, none, none, none]) (st' := [(0, 24)]) hA.hd (fun c s => rfl) ?_
  have hA := hA.tl2
  refine wq_new (nc := 134) (ns := 876) (b := 204) (n := 24) (z := 24) (r := []) hA.hd (nw_long (n := 24) rfl (by decide)) (by decide) kd_204 (by decide) ?_
  have hA := hA.tl2
  refine wq_ok (pc' := 22) (ls' := [some (m_r 0), some ((6, 0)), some (m_r 201), some (m_r 202), some (m_r 203), some (m_r 204), none, none, none, none, none, none, none, none, none, none, none, none, none, none, none, none, none, none, none]) (st' := []) hA.hd (fun c s => rfl) ?_
  have hA := hA.tl2
  refine wq_ok (pc' := 24) (ls' := [some (m_r 0), some ((6, 0)), some (m_r 201), some (m_r 202), some (m_r 203), some (m_r 204), none, none, none, none, none, none, none, none, none, none, none, none, none, none, none, none, none, none, none]) (st' := [(0, 24)]) hA.hd (fun c s => rfl) ?_
  have hA := hA.tl2
  refine wq_new (nc := 133) (ns := 852) (b := 205) (n := 24) (z := 24) (r := []) hA.hd (nw_long (n := 24) rfl (by decide)) (by decide) kd_205 (by decide) ?_
  have hA := hA.tl2
  refine wq_ok (pc' := 28) (ls' := [some (m_r 0), some ((6, 0)), some (m_r 201), some (m_r 202), some (m_r 203), some (m_r 204), some (m_r 205), none, none, none, none, none, none, none, none, none, none, none, none, none, none, none, none, none, none]) (st' := []) hA.hd (fun c s => rfl) ?_
  have hA := hA.tl2
  refine wq_ok (pc' := 30) (ls' := [some (m_r 0), some ((6, 0)), some (m_r 201), some (m_r 202), some (m_r 203), some (m_r 204), some (m_r 205), none, none, none, none, none, none, none, none, none, none, none, none, none, none, none, none, none, none]) (st' := [(0, 24)]) hA.hd (fun c s => rfl) ?_
  have hA := hA.tl2
  refine wq_new (nc := 132) (ns := 828) (b := 206) (n := 24) (z := 24) (r := []) hA.hd (nw_long (n := 24) rfl (by decide)) (by decide) kd_206 (by decide) ?_
  have hA := hA.tl2
  refine wq_ok (pc' := 34) (ls' := [some (m_r 0), some ((6, 0)), some (m_r 201), some (m_r 202), some (m_r 203), some (m_r 204), some (m_r 205), some (m_r 206), none, none, none, none, none, none, none, none, none, none, none, none, none, none, none, none, none]) (st' := []) hA.hd (fun c s => rfl) ?_
  have hA := hA.tl2
  refine wq_ok (pc' := 36) (ls' := [some (m_r 0), some ((6, 0)), some (m_r 201), some (m_r 202), some (m_r 203), some (m_r 204), some (m_r 205), some (m_r 206), none, none, none, none, none, none, none, none, none, none, none, none, none, none, none, none, none]) (st' := [(0, 24)]) hA.hd (fun c s => rfl) ?_
  have hA := hA.tl2
  refine wq_new (nc := 131) (ns := 804) (b := 207) (n := 24) (z := 24) (r := []) hA.hd (nw_int (n := 24) rfl (by decide)) (by decide) kd_207 (by decide) ?_
  have hA := hA.tl2
  refine wq_ok (pc' := 40) (ls' := [some (m_r 0), some ((6, 0)), some (m_r 201), some (m_r 202), some (m_r 203), some (m_r 204), some (m_r 205), some (m_r 206), some (m_r 207), none, none, none, none, none, none, none, none, none, none, none, none, none, none, none, none]) (st' := []) hA.hd (fun c s => rfl) ?_
  have hA := hA.tl2
  refine wq_ok (pc' := 42) (ls' := [some (m_r 0), some ((6, 0)), some (m_r 201), some (m_r 202), some (m_r 203), some (m_r 204), some (m_r 205), some (m_r 206), some (m_r 207), none, none, none, none, none, none, none, none, none, none, none, none, none, none, none, none]) (st' := [(0, 24)]) hA.hd (fun c s => rfl) ?_
  have hA := hA.tl2
  refine wq_new (nc := 130) (ns := 780) (b := 208) (n := 24) (z := 24) (r := []) hA.hd (nw_int (n := 24) rfl (by decide)) (by decide) kd_208 (by decide) ?_
  have hA := hA.tl2
  refine wq_ok (pc' := 46) (ls' := [some (m_r 0), some ((6, 0)), some (m_r 201), some (m_r 202), some (m_r 203), some (m_r 204), some (m_r 205), some (m_r 206), some (m_r 207), some (m_r 208), none, none, none, none, none, none, none, none, none, none, none, none, none, none, none]) (st' := []) hA.hd (fun c s => rfl) ?_
  have hSG : St (m_z (m_z (m_z (m_z (m_z (m_z (m_z (m_z F 201) 202) 203) 204) 205) 206) 207) 208) := ((((((((hS.zer (b := 201) (by decide)).zer (b := 202) (by decide)).zer (b := 203) (by decide)).zer (b := 204) (by decide)).zer (b := 205) (by decide)).zer (b := 206) (by decide)).zer (b := 207) (by decide)).zer (b := 208) (by decide))
  have hE : EV ((m_z (m_z (m_z (m_z (m_z (m_z (m_z (m_z F 201) 202) 203) 204) 205) 206) 207) 208) 1000000) ((m_z (m_z (m_z (m_z (m_z (m_z (m_z (m_z F 201) 202) 203) 204) 205) 206) 207) 208) 1000001) (m_z (m_z (m_z (m_z (m_z (m_z (m_z (m_z F 201) 202) 203) 204) 205) 206) 207) 208) (fun _ => []) (fun _ => []) (fun _ => []) (fun _ => []) d e := by
    refine ev_0 hK hSG (fun c h1 h2 i => ?_) (fun c h1 => ?_)
    · unfold m_z
      (repeat' split) <;> first | rfl | omega
    · funext i
      unfold m_z
      (repeat' split) <;> first | rfl | omega
  generalize (m_z (m_z (m_z (m_z (m_z (m_z (m_z (m_z F 201) 202) 203) 204) 205) 206) 207) 208) = G at hSG hE ⊢
  refine wq_of (b_388_46 kd_201 kd_202 kd_203 kd_204 kd_205 kd_206 kd_207 kd_208 (R := fun r F1 => r = 1 ∧ F1 1000000 = G 1000000 ∧ F1 1000001 = G 1000001) hSG (a_52 (fun F1 h => ⟨rfl, h⟩) 130 0 130 780 G _ _ _ _ rfl (Nat.le_refl _) (Nat.le_refl _) hE)) (fun o F1 => ?_)
  rintro ⟨_, ⟨r, e1, e2, h1, h2⟩ | ⟨_, _, h⟩⟩
  · rw [e2] at e1
    exact ⟨e1, h1, h2⟩
  · exact h.elim
section Mof
variable {F : MF}
theorem U0_st : m_RT.all (fun x => decide (lkU m_U0 x.1 x.2.1 = some ((x.2.2 : Nat) : Int))) = true := by decide +kernel
theorem U0_z : ([4, 82].all (fun c => (List.range 24).all (fun r => decide (lkU m_U0 c r = some 0)))) = true := by decide +kernel
theorem U0_m : ([20, 39, 58].all (fun c => (List.range 8).all (fun r => decide (lkU m_U0 c r = some 0)))) = true := by decide +kernel
theorem U0_f : ([(0, 8), (0, 9), (109, 7)].all (fun c => decide (lkU m_U0 c.1 c.2 = some 0))) = true := by decide +kernel
theorem U0_1 : lkU m_U0 1 6 = some 1 := by decide +kernel
theorem st_0 : St (apU m_U0 F) := fun x hx => lk_ap _ (of_decide_eq_true (List.all_eq_true.mp U0_st x hx))
theorem z_row {c r : Nat} (hc : c ∈ [4, 82]) (hr : r < 24) : apU m_U0 F c r = 0 := lk_ap _ (of_decide_eq_true (List.all_eq_true.mp (List.all_eq_true.mp U0_z c hc) r (List.mem_range.mpr hr)))
theorem z_mod {c r : Nat} (hc : c ∈ [20, 39, 58]) (hr : r < 8) : apU m_U0 F c r = 0 := lk_ap _ (of_decide_eq_true (List.all_eq_true.mp (List.all_eq_true.mp U0_m c hc) r (List.mem_range.mpr hr)))
theorem z_fld {c r : Nat} (hc : (c, r) ∈ [(0, 8), (0, 9), (109, 7)]) : apU m_U0 F c r = 0 := lk_ap _ (of_decide_eq_true (List.all_eq_true.mp U0_f (c, r) hc))
theorem md_nil {f : Nat} : ∀ m, md (fun _ => []) f m = false
  | 0 => rfl
  | m + 1 => by
    show modeL 24 [] 0 (md (fun _ => []) f m) = false
    rw [md_nil m]
    rfl
theorem rws_0 {C D : Nat → Int} (h : ∀ r, r < 24 → D r = 0) : Rws C D (fun _ => []) := fun r hr => ⟨h r hr, ⟨by show (0 : Nat) ≤ 24; decide, fun a ha => absurd ha (List.not_mem_nil)⟩, fun j hj => absurd hj (Nat.not_lt_zero j)⟩
theorem kc_0 : KC (apU m_U0 F) (fun _ => []) (fun _ => []) [] [] false 0 := by
  refine ⟨rws_0 (fun r hr => z_row (c := 4) (by decide) hr), rws_0 (fun r hr => z_row (c := 82) (by decide) hr), fun f hf k hk => ?_, fun h6 => ?_, ⟨z_fld (by decide), AL.nil, by decide, fun a ha => absurd ha (List.not_mem_nil)⟩, z_fld (by decide), ⟨z_fld (by decide), by decide, fun i hi => absurd hi (Nat.not_lt_zero i)⟩, fun c => absurd rfl c⟩
  · rw [md_nil]
    have h3 : f = 0 ∨ f = 1 ∨ f = 2 := by omega
    rcases h3 with rfl | rfl | rfl
    · exact z_mod (c := 20) (by decide) hk
    · exact z_mod (c := 39) (by decide) hk
    · exact z_mod (c := 58) (by decide) hk
  · rw [lk_ap _ U0_1] at h6
    exact absurd h6 (by decide)
end Mof
