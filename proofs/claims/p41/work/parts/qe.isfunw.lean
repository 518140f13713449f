/-! ISFUNCTION, WHOLE, out of QZ -/
theorem Q_389_0 : At 389 0 [some (.new 40, 11, 10, 78, 79), none, none, some (.dup, 0, 0, 0, 0), some (.invokespecial 148, 140, 1, 80, 4), none, none, some (.astore_n 1, 0, 0, 0, 0), some (.bipush 16, 0, 0, 0, 0), none, some (.newarray .int, 0, 0, 0, 0), none, some (.astore_n 2, 0, 0, 0, 0), some (.iconst 4, 0, 0, 0, 0), some (.newarray .int, 0, 0, 0, 0), none, some (.astore_n 3, 0, 0, 0, 0), some (.bipush 60, 0, 0, 0, 0), none, some (.newarray .int, 0, 0, 0, 0), none, some (.astore 4, 0, 0, 0, 0), none, some (.iconst 3, 0, 0, 0, 0), some (.newarray .int, 0, 0, 0, 0), none, some (.astore 5, 0, 0, 0, 0), none] := At.of (by decide +kernel)
section Mqe
variable {D : Nat → Prop} {nc ns n z : Nat} {F F1 : MF} {g0 g1 e t r : Nat → Int} {R : Int → MF → Prop}
theorem t_150 (h : NR g0 g1 z e t r F) : C_150 0 F (fun v F' => v = aTs (XZ z 8) 0 ∧ NR g0 g1 z e t r F') m_no := by
  obtain ⟨a1, ⟨d, e2, a2⟩, a3⟩ := id h.1
  refine EvI.mono (f_150 a1 a2) ?_ ?_
  · rintro v F2 hS2 h2
    exact t_cn h h2 hS2
  · rintro v F2 hS2 ⟨-, h2, -, -⟩
    exact h2 ⟨0, by decide, rfl⟩
theorem t_156 (h : NR g0 g1 z e t r F) : C_156 0 F (fun v F' => v = aEs (XZ z 8) 0 ∧ NR g0 g1 z e t r F') m_no := by
  obtain ⟨a1, ⟨d, e2, a2⟩, a3⟩ := id h.1
  refine EvI.mono (f_156 a1 a2) ?_ ?_
  · rintro v F2 hS2 h2
    exact t_cn h h2 hS2
  · rintro v F2 hS2 ⟨-, h2, -, -⟩
    exact h2 ⟨0, by decide, rfl⟩
theorem t_161 (h : NR g0 g1 z e t r F) : C_161 0 F (fun v F' => v = aFs (XZ z 8) 0 ∧ NR g0 g1 z e t r F') m_no := by
  obtain ⟨a1, ⟨d, e2, a2⟩, a3⟩ := id h.1
  refine EvI.mono (f_161 a1 a2) ?_ ?_
  · rintro v F2 hS2 h2
    exact t_cn h h2 hS2
  · rintro v F2 hS2 ⟨-, h2, -, -⟩
    exact h2 ⟨0, by decide, rfl⟩
theorem t_162 (hR : RZ z) (h : NR g0 g1 z e t r F) : C_162 0 0 F (fun v F' => v = aFu (XZ z 8) 0 0 ∧ NR g0 g1 z e t r F') m_no := by
  obtain ⟨a1, ⟨d, e2, a2⟩, a3⟩ := id h.1
  refine EvI.mono (f_162 a1 a2) ?_ ?_
  · rintro v F2 hS2 h2
    exact t_cn h h2 hS2
  · rintro v F2 hS2 ⟨-, h2, -, -⟩
    exact h2 hR.1
theorem l_328 (hD : ¬ D 213) (hQ : QZ z) (hb : 9 ≤ nc ∧ 540 ≤ ns) (K : ∀ F2, TZ g0 g1 z F2 → R 1 F2) (h : NR g0 g1 z (fun _ => 0) (fun _ => 0) (fun _ => 0) F) : L_389_328 D nc ns (z : Int) 209 210 211 212 (fsz z 8 : Int) 1 F R := by
  obtain ⟨-, -, ⟨q1, q2, q3, q4⟩, ⟨b1, b3⟩, -⟩ := id hQ
  refine b_389_328 kd_209 kd_210 kd_211 kd_212 h.1.1 ?_
  rw [show (0 : Int).toNat = 0 from rfl, show (1 : Int).toNat = 1 from rfl, show (2 : Int).toNat = 2 from rfl, show (3 : Int).toNat = 3 from rfl]
  have h0 : NR g0 g1 z (nmS z 0).1 (nmS z 0).2.1 (nmS z 0).2.2 (m_up (m_up (m_up (m_up F 210 0 3) 210 1 (-1)) 210 2 3) 210 3 (-1)) := (h.e2 (i := 0) (x := 3) (j := 1) (y := -1)).e2
  refine ⟨by decide, by decide, by decide, by decide, fun h1 => absurd h1 (by decide), fun _ => CaI.on (t_150 h0) ?_⟩
  rintro v1 F2 hS2 ⟨e1, h2⟩
  refine ⟨fun _ => CaI.on (t_156 h2) ?_, fun hne => absurd (by rw [e1]; unfold aTs; rw [show (0 : Int).toNat = 0 from rfl, q1]) hne⟩
  rintro v2 F3 hS3 ⟨e2, h3⟩
  refine ⟨fun _ => CaI.on (t_161 h3) ?_, fun hne => absurd (by rw [e2]; unfold aEs; rw [show (0 : Int).toNat = 0 from rfl, q2]; rfl) hne⟩
  rintro v3 F4 hS4 ⟨e3, h4⟩
  refine ⟨fun _ => CaI.on (t_162 hQ.1 h4) ?_, fun hne => absurd (by rw [e3]; unfold aFs; rw [show (0 : Int).toNat = 0 from rfl, q3]; rfl) hne⟩
  rintro v4 F5 hS5 ⟨e4, h5⟩
  refine ⟨fun _ => CaI.on (n_211 h5 b1) ?_, fun hne => absurd (e4.trans q4) hne⟩
  rintro v5 F6 hS6 ⟨e5, h6⟩
  refine ⟨fun hne => by omega, fun _ => CaI.on (n_211 h6 b3) ?_⟩
  rintro v6 F7 hS7 ⟨e6, h7⟩
  refine ⟨fun hne => by omega, fun _ => ?_⟩
  exact l_415 hQ (fun F8 h8 => l_447 hD hQ hb K h8) 7 0 F7 rfl h7

theorem s_389 (hz : z < 2147483648) (hQ : QZ z) : Wq (fun _ => False) 214 36216 389 0 (m_ini (m_mls.getD 389 0) [(0, (z : Int))]) [] F := by
  rw [ml_389]
  show Wq (fun _ => False) 214 36216 389 0 [some ((0, (z : Int))), none, none, none, none, none, none, none, none, none, none, none, none, none] [] F
  have hl : gl (fun _ => False) [some ((0, (z : Int))), none, none, none, none, none, none, none, none, none, none, none, none, none] := by
    intro v hv
    rcases List.mem_cons.mp hv with h | hv
    · cases h; exact fun h => by cases h
    · have : ∀ m : Nat, some v ∉ List.replicate m (none : Option MV) := fun m h => by cases List.eq_of_mem_replicate h
      exact absurd hv (this 13)
  refine wq_obj (nc := 13) (ns := 623) Q_389_0 (by rw [hg_389]; decide) hl gs_nil (by decide) (fun hA => ?_)
  refine wq_ok (pc' := 8) (ls' := [some ((0, (z : Int))), some (m_r 0), none, none, none, none, none, none, none, none, none, none, none, none]) (st' := []) hA.hd (fun c s => rfl) ?_
  have hA := hA.tl
  refine wq_ok (pc' := 10) (ls' := [some ((0, (z : Int))), some (m_r 0), none, none, none, none, none, none, none, none, none, none, none, none]) (st' := [(0, 16)]) hA.hd (fun c s => rfl) ?_
  have hA := hA.tl2
  refine wq_new (nc := 12) (ns := 607) (b := 209) (n := 16) (z := 16) (r := []) hA.hd (nw_int (n := 16) rfl (by decide)) (by decide) kd_209 (by decide) ?_
  have hA := hA.tl2
  refine wq_ok (pc' := 13) (ls' := [some ((0, (z : Int))), some (m_r 0), some (m_r 209), none, none, none, none, none, none, none, none, none, none, none]) (st' := []) hA.hd (fun c s => rfl) ?_
  have hA := hA.tl
  refine wq_ok (pc' := 14) (ls' := [some ((0, (z : Int))), some (m_r 0), some (m_r 209), none, none, none, none, none, none, none, none, none, none, none]) (st' := [(0, 4)]) hA.hd (fun c s => rfl) ?_
  have hA := hA.tl
  refine wq_new (nc := 11) (ns := 603) (b := 210) (n := 4) (z := 4) (r := []) hA.hd (nw_int (n := 4) rfl (by decide)) (by decide) kd_210 (by decide) ?_
  have hA := hA.tl2
  refine wq_ok (pc' := 17) (ls' := [some ((0, (z : Int))), some (m_r 0), some (m_r 209), some (m_r 210), none, none, none, none, none, none, none, none, none, none]) (st' := []) hA.hd (fun c s => rfl) ?_
  have hA := hA.tl
  refine wq_ok (pc' := 19) (ls' := [some ((0, (z : Int))), some (m_r 0), some (m_r 209), some (m_r 210), none, none, none, none, none, none, none, none, none, none]) (st' := [(0, 60)]) hA.hd (fun c s => rfl) ?_
  have hA := hA.tl2
  refine wq_new (nc := 10) (ns := 543) (b := 211) (n := 60) (z := 60) (r := []) hA.hd (nw_int (n := 60) rfl (by decide)) (by decide) kd_211 (by decide) ?_
  have hA := hA.tl2
  refine wq_ok (pc' := 23) (ls' := [some ((0, (z : Int))), some (m_r 0), some (m_r 209), some (m_r 210), some (m_r 211), none, none, none, none, none, none, none, none, none]) (st' := []) hA.hd (fun c s => rfl) ?_
  have hA := hA.tl2
  refine wq_ok (pc' := 24) (ls' := [some ((0, (z : Int))), some (m_r 0), some (m_r 209), some (m_r 210), some (m_r 211), none, none, none, none, none, none, none, none, none]) (st' := [(0, 3)]) hA.hd (fun c s => rfl) ?_
  have hA := hA.tl
  refine wq_new (nc := 9) (ns := 540) (b := 212) (n := 3) (z := 3) (r := []) hA.hd (nw_int (n := 3) rfl (by decide)) (by decide) kd_212 (by decide) ?_
  have hA := hA.tl2
  refine wq_ok (pc' := 28) (ls' := [some ((0, (z : Int))), some (m_r 0), some (m_r 209), some (m_r 210), some (m_r 211), some (m_r 212), none, none, none, none, none, none, none, none]) (st' := []) hA.hd (fun c s => rfl) ?_
  have hSG : St (m_z (m_z (m_z (m_z (apU m_U0 F) 209) 210) 211) 212) := (((((st_0 (F := F)).zer (b := 209) (by decide)).zer (b := 210) (by decide)).zer (b := 211) (by decide)).zer (b := 212) (by decide))
  have hK : KC (m_z (m_z (m_z (m_z (apU m_U0 F) 209) 210) 211) 212) (XZ z 0) (fun _ => []) [] [] false 0 := by
    have e0 : XZ z 0 = fun _ => [] := funext fun r => if_neg (Nat.not_lt_zero r)
    rw [e0]
    refine (kc_0 (F := F)).lo (fun c h1 => ?_)
    funext i
    unfold m_z
    (repeat' split) <;> first | rfl | omega
  have hz0 : ∀ c, 210 ≤ c → c ≤ 212 → (m_z (m_z (m_z (m_z (apU m_U0 F) 209) 210) 211) 212) c = fun _ => 0 := fun c h1 h2 => by
    funext i
    unfold m_z
    (repeat' split) <;> first | rfl | omega
  generalize (m_z (m_z (m_z (m_z (apU m_U0 F) 209) 210) 211) 212) = G at hSG hK hz0 ⊢
  refine wq_of (b_389_28 kd_209 kd_210 kd_211 kd_212 (R := fun r F1 => r = 1 ∧ F1 1000000 = G 1000000 ∧ F1 1000001 = G 1000001) hSG ⟨⟨by omega, by decide⟩, ⟨by omega, by omega, by decide⟩, ?_⟩) (fun o F1 => ?_)
  · have e1 : (z : Int) % 3 = ((z % 3 : Nat) : Int) := by omega
    have e2 : (z : Int) / 3 = ((yk z 0 : Nat) : Int) := by
      show (z : Int) / 3 = ((z / 3 : Nat) : Int)
      omega
    rw [e1, e2]
    refine l_bld (F0 := G) hz (fun F1 h1 => ?_) 8 0 G rfl ⟨hSG, ⟨_, _, hK⟩, fun i hi => absurd hi (Nat.not_lt_zero i), fun _ _ _ => rfl⟩
    obtain ⟨c1, c2, c3, c4⟩ := h1
    refine l_328 (g0 := G 1000000) (g1 := G 1000001) (by decide) hQ ⟨by decide, by decide⟩ (fun F2 h2 => ⟨rfl, h2.2.2.2⟩) ⟨⟨c1, c2, c3, c4 1000000 (by decide) (by decide), c4 1000001 (by decide) (by decide)⟩, ?_, ?_, ?_⟩
    · rw [c4 210 (by decide) (by decide)]; exact hz0 210 (by decide) (by decide)
    · rw [c4 211 (by decide) (by decide)]; exact hz0 211 (by decide) (by decide)
    · rw [c4 212 (by decide) (by decide)]; exact hz0 212 (by decide) (by decide)
  · rintro ⟨_, ⟨r, e1, e2, h1, h2⟩ | ⟨_, _, h⟩⟩
    · rw [e2] at e1
      exact ⟨e1, h1, h2⟩
    · exact h.elim
end Mqe
