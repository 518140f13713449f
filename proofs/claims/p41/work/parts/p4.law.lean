/-! THE LAW: its loop over Wq -/
theorem Q_420_0 : At 420 0 [some (.new 40, 11, 10, 78, 79), none, none, some (.dup, 0, 0, 0, 0), some (.invokespecial 148, 140, 1, 80, 4), none, none, some (.aload_n 0, 0, 0, 0, 0), some (.invokestatic 180, 388, 2, 510, 0), none, none, some (.istore_n 1, 0, 0, 0, 0), some (.iconst 0, 0, 0, 0, 0), some (.istore_n 2, 0, 0, 0, 0), some (.iload_n 2, 0, 0, 0, 0), some (.bipush 8, 0, 0, 0, 0), none, some (.if_icmp .ge 51, 0, 0, 0, 0), none, none, some (.iload_n 1, 0, 0, 0, 0), some (.ifCond .eq 47, 0, 0, 0, 0), none, none, some (.iload_n 2, 0, 0, 0, 0), some (.aload_n 0, 0, 0, 0, 0), some (.arraylength, 0, 0, 0, 0), some (.if_icmp .ge 12, 0, 0, 0, 0), none, none, some (.aload_n 0, 0, 0, 0, 0), some (.iload_n 2, 0, 0, 0, 0), some (.iaload, 0, 0, 0, 0), some (.ldc 97, 1, 2147483647, 513, 0), none, some (.iand, 0, 0, 0, 0), some (.goto 20, 0, 0, 0, 0), none, none, some (.ldc 184, 1, 1103515, 1525, 0), none, some (.iload_n 2, 0, 0, 0, 0), some (.imul, 0, 0, 0, 0), some (.iload_n 2, 0, 0, 0, 0), some (.imul, 0, 0, 0, 0), some (.ldc 185, 1, 12345677, 1526, 0), none, some (.iload_n 2, 0, 0, 0, 0), some (.imul, 0, 0, 0, 0), some (.iadd, 0, 0, 0, 0), some (.ldc 186, 1, 99991, 1527, 0), none, some (.iadd, 0, 0, 0, 0), some (.ldc 97, 1, 2147483647, 513, 0), none, some (.iand, 0, 0, 0, 0), some (.istore_n 3, 0, 0, 0, 0), some (.iload_n 3, 0, 0, 0, 0), some (.invokestatic 187, 389, 1, 1352, 0), none, none, some (.istore_n 1, 0, 0, 0, 0), some (.iinc 2 1, 0, 0, 0, 0), none, none, some (.goto (-51), 0, 0, 0, 0), none, none, some (.iload_n 1, 0, 0, 0, 0), some (.ireturn, 2, 0, 0, 0)] := At.of (by decide +kernel)
theorem st_call {z N n j kc pc v : Nat} {ls : ML} {st xs r0 : List MV} {h : MH} (hkc : (kc == 0 || kc == 1 || kc == 7) = true) (hst : st = xs.reverse ++ r0) (hn : n = xs.length) (h8 : Nat.ble (m_cats r0) 8 = true) (hv : m_mls.getD N 0 = v) (hml : Nat.ble (m_cats xs) v = true) : mstep (.invokestatic z) (N, n, j, kc) pc ls st h = .error (1, N, xs, r0) := by
  simp only [Bool.or_eq_true, beq_iff_eq] at hkc
  show (if kc = 6 then _ else if kc = 0 ∨ kc = 1 ∨ kc = 7 then m_call N n st else m_ko) = _
  rw [if_neg (by omega), if_pos (by omega)]
  exact m_call_go hst hn h8 hv hml
theorem gl_n0 {a b c : Int} {o : Option MV} (ho : ∀ v, o = some v → v.1 ≠ 2) : gl (fun _ => False) [some (6, a), some (0, b), some (0, c), o] := by
  intro v hv
  rcases List.mem_cons.mp hv with h | hv
  · cases h; exact fun h => by cases h
  rcases List.mem_cons.mp hv with h | hv
  · cases h; exact fun h => by cases h
  rcases List.mem_cons.mp hv with h | hv
  · cases h; exact fun h => by cases h
  rcases List.mem_cons.mp hv with h | hv
  · exact fun h2 => absurd h2 (ho v h.symm)
  · exact absurd hv List.not_mem_nil
theorem Wq.cgD {D : Nat → Prop} {nc ns M pc : Nat} {ls : ML} {F : MF} (h : Wq (fun _ => False) nc ns M pc ls [] F) (hl : gl (fun _ => False) ls) : Wq D nc ns M pc ls [] F := fun d hd σ K2 F2 c2 s2 hR _ _ hn => h d hd σ K2 F2 c2 s2 ⟨fun _ _ h => h.elim, fun _ h => h.elim, hR.2.2.1, hR.2.2.2.1, hR.2.2.2.2.1, hR.2.2.2.2.2⟩ hl gs_nil hn
theorem wq_ret {D : Nat → Prop} {nc ns M pc : Nat} {i : Instr} {q : LK} {ls : ML} {st : List MV} {F : MF} (ht : (m_tb M)[pc]? = some (some (i, q)))
    (hm : ∀ c s, mstep i q pc ls st (F, m_KD, c, s) = .error (2, 0, [(0, 1)], [])) : Wq D nc ns M pc ls st F := wq_of (wv_ret (Q := fun o F1 => o = (0, [(0, 1)]) ∧ F1 = F) ht hm ⟨rfl, rfl⟩) (fun o F1 h => ⟨h.1, by rw [h.2], by rw [h.2]⟩)
section Mp4
variable {F : MF} {o : Option MV} {NA NB : Nat}
theorem Q0 : At 420 0 [some (.new 40, 11, 10, 78, 79)] := At.of (by decide +kernel)
theorem Q3 : At 420 3 [some (.dup, 0, 0, 0, 0)] := At.of (by decide +kernel)
theorem Q4 : At 420 4 [some (.invokespecial 148, 140, 1, 80, 4)] := At.of (by decide +kernel)
theorem Q7 : At 420 7 [some (.aload_n 0, 0, 0, 0, 0)] := At.of (by decide +kernel)
theorem Q8 : At 420 8 [some (.invokestatic 180, 388, 2, 510, 0)] := At.of (by decide +kernel)
theorem Q11 : At 420 11 [some (.istore_n 1, 0, 0, 0, 0)] := At.of (by decide +kernel)
theorem Q12 : At 420 12 [some (.iconst 0, 0, 0, 0, 0)] := At.of (by decide +kernel)
theorem Q13 : At 420 13 [some (.istore_n 2, 0, 0, 0, 0)] := At.of (by decide +kernel)
theorem Q14 : At 420 14 [some (.iload_n 2, 0, 0, 0, 0)] := At.of (by decide +kernel)
theorem Q15 : At 420 15 [some (.bipush 8, 0, 0, 0, 0)] := At.of (by decide +kernel)
theorem Q17 : At 420 17 [some (.if_icmp .ge 51, 0, 0, 0, 0)] := At.of (by decide +kernel)
theorem Q20 : At 420 20 [some (.iload_n 1, 0, 0, 0, 0)] := At.of (by decide +kernel)
theorem Q21 : At 420 21 [some (.ifCond .eq 47, 0, 0, 0, 0)] := At.of (by decide +kernel)
theorem Q24 : At 420 24 [some (.iload_n 2, 0, 0, 0, 0)] := At.of (by decide +kernel)
theorem Q25 : At 420 25 [some (.aload_n 0, 0, 0, 0, 0)] := At.of (by decide +kernel)
theorem Q26 : At 420 26 [some (.arraylength, 0, 0, 0, 0)] := At.of (by decide +kernel)
theorem Q27 : At 420 27 [some (.if_icmp .ge 12, 0, 0, 0, 0)] := At.of (by decide +kernel)
theorem Q30 : At 420 30 [some (.aload_n 0, 0, 0, 0, 0)] := At.of (by decide +kernel)
theorem Q31 : At 420 31 [some (.iload_n 2, 0, 0, 0, 0)] := At.of (by decide +kernel)
theorem Q32 : At 420 32 [some (.iaload, 0, 0, 0, 0)] := At.of (by decide +kernel)
theorem Q33 : At 420 33 [some (.ldc 97, 1, 2147483647, 513, 0)] := At.of (by decide +kernel)
theorem Q35 : At 420 35 [some (.iand, 0, 0, 0, 0)] := At.of (by decide +kernel)
theorem Q36 : At 420 36 [some (.goto 20, 0, 0, 0, 0)] := At.of (by decide +kernel)
theorem Q39 : At 420 39 [some (.ldc 184, 1, 1103515, 1525, 0)] := At.of (by decide +kernel)
theorem Q41 : At 420 41 [some (.iload_n 2, 0, 0, 0, 0)] := At.of (by decide +kernel)
theorem Q42 : At 420 42 [some (.imul, 0, 0, 0, 0)] := At.of (by decide +kernel)
theorem Q43 : At 420 43 [some (.iload_n 2, 0, 0, 0, 0)] := At.of (by decide +kernel)
theorem Q44 : At 420 44 [some (.imul, 0, 0, 0, 0)] := At.of (by decide +kernel)
theorem Q45 : At 420 45 [some (.ldc 185, 1, 12345677, 1526, 0)] := At.of (by decide +kernel)
theorem Q47 : At 420 47 [some (.iload_n 2, 0, 0, 0, 0)] := At.of (by decide +kernel)
theorem Q48 : At 420 48 [some (.imul, 0, 0, 0, 0)] := At.of (by decide +kernel)
theorem Q49 : At 420 49 [some (.iadd, 0, 0, 0, 0)] := At.of (by decide +kernel)
theorem Q50 : At 420 50 [some (.ldc 186, 1, 99991, 1527, 0)] := At.of (by decide +kernel)
theorem Q52 : At 420 52 [some (.iadd, 0, 0, 0, 0)] := At.of (by decide +kernel)
theorem Q53 : At 420 53 [some (.ldc 97, 1, 2147483647, 513, 0)] := At.of (by decide +kernel)
theorem Q55 : At 420 55 [some (.iand, 0, 0, 0, 0)] := At.of (by decide +kernel)
theorem Q56 : At 420 56 [some (.istore_n 3, 0, 0, 0, 0)] := At.of (by decide +kernel)
theorem Q57 : At 420 57 [some (.iload_n 3, 0, 0, 0, 0)] := At.of (by decide +kernel)
theorem Q58 : At 420 58 [some (.invokestatic 187, 389, 1, 1352, 0)] := At.of (by decide +kernel)
theorem Q61 : At 420 61 [some (.istore_n 1, 0, 0, 0, 0)] := At.of (by decide +kernel)
theorem Q62 : At 420 62 [some (.iinc 2 1, 0, 0, 0, 0)] := At.of (by decide +kernel)
theorem Q65 : At 420 65 [some (.goto (-51), 0, 0, 0, 0)] := At.of (by decide +kernel)
theorem Q68 : At 420 68 [some (.iload_n 1, 0, 0, 0, 0)] := At.of (by decide +kernel)
theorem Q69 : At 420 69 [some (.ireturn, 2, 0, 0, 0)] := At.of (by decide +kernel)
/-- one turn of the law, from where its number is reckoned -/
theorem l_56 {nc ns k : Nat} {z : Int} (hk : k < 8) (hz : 0 ≤ z ∧ z < 2147483648) (H : ∀ (F : MF) (z : Int), 0 ≤ z ∧ z < 2147483648 → Wq (fun _ => False) NA NB 389 0 (m_ini (m_mls.getD 389 0) [(0, z)]) [] F)
    (K : Wq (fun _ => False) nc ns 420 14 [some (6, 0), some (0, 1), some (0, ((k + 1 : Nat) : Int)), some (0, z)] [] F) : Wq (fun _ => False) (nc + NA) (ns + NB) 420 56 [some (6, 0), some (0, 1), some (0, (k : Int)), o] [(0, z)] F := by
  refine wq_ok (pc' := 57) (ls' := [some (6, 0), some (0, 1), some (0, (k : Int)), some ((0, z))]) (st' := []) Q56.hd (fun c s => rfl) ?_
  refine wq_ok (pc' := 58) (ls' := [some (6, 0), some (0, 1), some (0, (k : Int)), some ((0, z))]) (st' := [((0, z))]) Q57.hd (fun c s => rfl) ?_
  refine wq_call (na := NA) (nb := NB) Q58.hd (fun c s => st_call (xs := [(0, z)]) (r0 := []) rfl rfl rfl rfl ml_389 rfl) (by rw [hg_389, hg_420]; decide) (Nat.le_add_left _ _) (Nat.le_add_left _ _) (gl_n0 (fun v hv => by cases hv; exact (by decide : (0 : Nat) ≠ 2))) gs_nil (H F z hz) ?_
  rw [Nat.add_sub_cancel, Nat.add_sub_cancel]
  refine wq_ok (pc' := 62) (ls' := [some (6, 0), some ((0, 1)), some (0, (k : Int)), some ((0, z))]) (st' := []) Q61.hd (fun c s => rfl) ?_
  refine wq_ok (pc' := 65) (ls' := [some (6, 0), some (0, 1), some (0, w32 ((k : Int) + 1)), some (0, z)]) (st' := []) Q62.hd (fun c s => rfl) ?_
  refine wq_ok (pc' := 14) (ls' := [some (6, 0), some (0, 1), some (0, w32 ((k : Int) + 1)), some (0, z)]) (st' := []) Q65.hd (fun c s => rfl) ?_
  rw [w32_id (by omega), show (k : Int) + 1 = ((k + 1 : Nat) : Int) by omega]
  exact K
/-- the loop of the law -/
theorem l_14 (H : ∀ (F : MF) (z : Int), 0 ≤ z ∧ z < 2147483648 → Wq (fun _ => False) NA NB 389 0 (m_ini (m_mls.getD 389 0) [(0, z)]) [] F) : ∀ (dd k : Nat) (o : Option MV) (F : MF), k + dd = 8 → (∀ v, o = some v → v.1 ≠ 2) → Wq (fun _ => False) (dd * NA) (dd * NB) 420 14 [some (6, 0), some (0, 1), some (0, (k : Int)), o] [] F := by
  intro dd
  induction dd with
  | zero =>
    intro k o F e ho
    refine wq_ok (pc' := 15) (ls' := [some (6, 0), some (0, 1), some (0, (k : Int)), o]) (st' := [(0, (k : Int))]) Q14.hd (fun c s => rfl) ?_
    refine wq_ok (pc' := 17) (ls' := [some (6, 0), some (0, 1), some (0, (k : Int)), o]) (st' := [(0, 8), (0, (k : Int))]) Q15.hd (fun c s => rfl) ?_
    refine wq_ok (pc' := 68) (ls' := [some (6, 0), some (0, 1), some (0, (k : Int)), o]) (st' := []) Q17.hd (fun c s => ?_) ?_
    · show (if (k : Int) < 8 then _ else m_go 17 51 [some (6, 0), some (0, 1), some (0, (k : Int)), o] [] _) = _
      rw [if_neg (by omega)]
      rfl
    refine wq_ok (pc' := 69) (ls' := [some (6, 0), some (0, 1), some (0, (k : Int)), o]) (st' := [(0, 1)]) Q68.hd (fun c s => rfl) ?_
    exact wq_ret Q69.hd (fun c s => rfl)
  | succ dd ih =>
    intro k o F e ho
    refine wq_ok (pc' := 15) (ls' := [some (6, 0), some (0, 1), some (0, (k : Int)), o]) (st' := [(0, (k : Int))]) Q14.hd (fun c s => rfl) ?_
    refine wq_ok (pc' := 17) (ls' := [some (6, 0), some (0, 1), some (0, (k : Int)), o]) (st' := [(0, 8), (0, (k : Int))]) Q15.hd (fun c s => rfl) ?_
    refine wq_ok (pc' := 20) (ls' := [some (6, 0), some (0, 1), some (0, (k : Int)), o]) (st' := []) Q17.hd (fun c s => ?_) ?_
    · show (if (k : Int) < 8 then Except.ok (17 + 3, [some (6, 0), some (0, 1), some (0, (k : Int)), o], [], _) else _) = _
      rw [if_pos (by omega)]
    refine wq_ok (pc' := 21) (ls' := [some (6, 0), some (0, 1), some (0, (k : Int)), o]) (st' := [(0, 1)]) Q20.hd (fun c s => rfl) ?_
    refine wq_ok (pc' := 24) (ls' := [some (6, 0), some (0, 1), some (0, (k : Int)), o]) (st' := []) Q21.hd (fun c s => rfl) ?_
    refine wq_ok (pc' := 25) (ls' := [some (6, 0), some (0, 1), some (0, (k : Int)), o]) (st' := [(0, (k : Int))]) Q24.hd (fun c s => rfl) ?_
    refine wq_ok (pc' := 26) (ls' := [some (6, 0), some (0, 1), some (0, (k : Int)), o]) (st' := [(6, 0), (0, (k : Int))]) Q25.hd (fun c s => rfl) ?_
    refine wq_ok (pc' := 27) (ls' := [some (6, 0), some (0, 1), some (0, (k : Int)), o]) (st' := [(0, F 1000001 0), (0, (k : Int))]) Q26.hd (fun c s => rfl) ?_
    rw [Nat.succ_mul, Nat.succ_mul]
    have nx : ∀ z : Int, 0 ≤ z ∧ z < 2147483648 → Wq (fun _ => False) (dd * NA + NA) (dd * NB + NB) 420 56 [some (6, 0), some (0, 1), some (0, (k : Int)), o] [(0, z)] F := fun z hz => l_56 (by omega) hz H (ih (k + 1) _ F (by omega) (fun v hv => by cases hv; exact (by decide : (0 : Nat) ≠ 2)))
    by_cases hl : (k : Int) < F 1000001 0
    · refine wq_ok (pc' := 30) (ls' := [some (6, 0), some (0, 1), some (0, (k : Int)), o]) (st' := []) Q27.hd (fun c s => ?_) ?_
      · show (if (k : Int) < F 1000001 0 then Except.ok (27 + 3, [some (6, 0), some (0, 1), some (0, (k : Int)), o], [], _) else _) = _
        rw [if_pos hl]
      refine wq_ok (pc' := 31) (ls' := [some (6, 0), some (0, 1), some (0, (k : Int)), o]) (st' := [(6, 0)]) Q30.hd (fun c s => rfl) ?_
      refine wq_ok (pc' := 32) (ls' := [some (6, 0), some (0, 1), some (0, (k : Int)), o]) (st' := [(0, (k : Int)), (6, 0)]) Q31.hd (fun c s => rfl) ?_
      refine wq_ok (pc' := 33) (ls' := [some (6, 0), some (0, 1), some (0, (k : Int)), o]) (st' := [(0, F 1000000 k)]) Q32.hd (fun c s => ?_) ?_
      · show (if 0 ≤ (k : Int) ∧ (k : Int) < F 1000001 0 then Except.ok (32 + 1, [some (6, 0), some (0, 1), some (0, (k : Int)), o], [(0, F 1000000 (k : Int).toNat)], _) else m_ko) = _
        rw [if_pos ⟨by omega, hl⟩, Int.toNat_natCast]
      refine wq_ok (pc' := 35) (ls' := [some (6, 0), some (0, 1), some (0, (k : Int)), o]) (st' := [(0, ((2147483647 : Nat) : Int)), (0, F 1000000 k)]) Q33.hd (fun c s => rfl) ?_
      refine wq_ok (pc' := 36) (ls' := [some (6, 0), some (0, 1), some (0, (k : Int)), o]) (st' := [(0, m_and (F 1000000 k) (((2147483647 : Nat) : Int)))]) Q35.hd (fun c s => rfl) ?_
      refine wq_ok (pc' := 56) (ls' := [some (6, 0), some (0, 1), some (0, (k : Int)), o]) (st' := [(0, m_and (F 1000000 k) (((2147483647 : Nat) : Int)))]) Q36.hd (fun c s => rfl) ?_
      exact nx _ (and31 _)
    · refine wq_ok (pc' := 39) (ls' := [some (6, 0), some (0, 1), some (0, (k : Int)), o]) (st' := []) Q27.hd (fun c s => ?_) ?_
      · show (if (k : Int) < F 1000001 0 then _ else m_go 27 12 [some (6, 0), some (0, 1), some (0, (k : Int)), o] [] _) = _
        rw [if_neg hl]
        rfl
      refine wq_ok (pc' := 41) (ls' := [some (6, 0), some (0, 1), some (0, (k : Int)), o]) (st' := [(0, ((1103515 : Nat) : Int))]) Q39.hd (fun c s => rfl) ?_
      refine wq_ok (pc' := 42) (ls' := [some (6, 0), some (0, 1), some (0, (k : Int)), o]) (st' := [(0, (k : Int)), (0, ((1103515 : Nat) : Int))]) Q41.hd (fun c s => rfl) ?_
      refine wq_ok (pc' := 43) (ls' := [some (6, 0), some (0, 1), some (0, (k : Int)), o]) (st' := [(0, w32 (((1103515 : Nat) : Int) * (k : Int)))]) Q42.hd (fun c s => rfl) ?_
      refine wq_ok (pc' := 44) (ls' := [some (6, 0), some (0, 1), some (0, (k : Int)), o]) (st' := [(0, (k : Int)), (0, w32 (((1103515 : Nat) : Int) * (k : Int)))]) Q43.hd (fun c s => rfl) ?_
      refine wq_ok (pc' := 45) (ls' := [some (6, 0), some (0, 1), some (0, (k : Int)), o]) (st' := [(0, w32 (w32 (((1103515 : Nat) : Int) * (k : Int)) * (k : Int)))]) Q44.hd (fun c s => rfl) ?_
      refine wq_ok (pc' := 47) (ls' := [some (6, 0), some (0, 1), some (0, (k : Int)), o]) (st' := [(0, ((12345677 : Nat) : Int)), (0, w32 (w32 (((1103515 : Nat) : Int) * (k : Int)) * (k : Int)))]) Q45.hd (fun c s => rfl) ?_
      refine wq_ok (pc' := 48) (ls' := [some (6, 0), some (0, 1), some (0, (k : Int)), o]) (st' := [(0, (k : Int)), (0, ((12345677 : Nat) : Int)), (0, w32 (w32 (((1103515 : Nat) : Int) * (k : Int)) * (k : Int)))]) Q47.hd (fun c s => rfl) ?_
      refine wq_ok (pc' := 49) (ls' := [some (6, 0), some (0, 1), some (0, (k : Int)), o]) (st' := [(0, w32 (((12345677 : Nat) : Int) * (k : Int))), (0, w32 (w32 (((1103515 : Nat) : Int) * (k : Int)) * (k : Int)))]) Q48.hd (fun c s => rfl) ?_
      refine wq_ok (pc' := 50) (ls' := [some (6, 0), some (0, 1), some (0, (k : Int)), o]) (st' := [(0, w32 (w32 (w32 (((1103515 : Nat) : Int) * (k : Int)) * (k : Int)) + w32 (((12345677 : Nat) : Int) * (k : Int))))]) Q49.hd (fun c s => rfl) ?_
      refine wq_ok (pc' := 52) (ls' := [some (6, 0), some (0, 1), some (0, (k : Int)), o]) (st' := [(0, ((99991 : Nat) : Int)), (0, w32 (w32 (w32 (((1103515 : Nat) : Int) * (k : Int)) * (k : Int)) + w32 (((12345677 : Nat) : Int) * (k : Int))))]) Q50.hd (fun c s => rfl) ?_
      refine wq_ok (pc' := 53) (ls' := [some (6, 0), some (0, 1), some (0, (k : Int)), o]) (st' := [(0, w32 (w32 (w32 (w32 (((1103515 : Nat) : Int) * (k : Int)) * (k : Int)) + w32 (((12345677 : Nat) : Int) * (k : Int))) + ((99991 : Nat) : Int)))]) Q52.hd (fun c s => rfl) ?_
      refine wq_ok (pc' := 55) (ls' := [some (6, 0), some (0, 1), some (0, (k : Int)), o]) (st' := [(0, ((2147483647 : Nat) : Int)), (0, w32 (w32 (w32 (w32 (((1103515 : Nat) : Int) * (k : Int)) * (k : Int)) + w32 (((12345677 : Nat) : Int) * (k : Int))) + ((99991 : Nat) : Int)))]) Q53.hd (fun c s => rfl) ?_
      refine wq_ok (pc' := 56) (ls' := [some (6, 0), some (0, 1), some (0, (k : Int)), o]) (st' := [(0, m_and (w32 (w32 (w32 (w32 (((1103515 : Nat) : Int) * (k : Int)) * (k : Int)) + w32 (((12345677 : Nat) : Int) * (k : Int))) + ((99991 : Nat) : Int))) (((2147483647 : Nat) : Int)))]) Q55.hd (fun c s => rfl) ?_
      exact nx _ (and31 _)
/-- the whole law -/
theorem l_420 (H : ∀ (F : MF) (z : Int), 0 ≤ z ∧ z < 2147483648 → Wq (fun _ => False) NA NB 389 0 (m_ini (m_mls.getD 389 0) [(0, z)]) [] F) : Wq (fun _ => False) (8 * NA + 138 + 201) (8 * NB + 972 + 35593) 420 0 (m_ini (m_mls.getD 420 0) [(6, 0)]) [] F := by
  rw [ml_420]
  show Wq (fun _ => False) _ _ 420 0 [some (6, 0), none, none, none] [] F
  have hn : gl (fun _ => False) [some (6, 0), none, none, none] := by
    intro v hv
    rcases List.mem_cons.mp hv with h | hv
    · cases h; exact fun h => by cases h
    · rcases List.mem_cons.mp hv with h | hv
      · cases h
      · rcases List.mem_cons.mp hv with h | hv
        · cases h
        · rcases List.mem_cons.mp hv with h | hv
          · cases h
          · exact absurd hv List.not_mem_nil
  refine wq_obj Q_420_0 (by rw [hg_420]; decide) hn gs_nil (by decide) (fun _ => ?_)
  refine wq_ok (pc' := 8) (ls' := [some (6, 0), none, none, none]) (st' := [(6, 0), (2, 0)]) Q7.hd (fun c s => rfl) ?_
  refine wq_call (na := 138) (nb := 972) Q8.hd (fun c s => st_call (xs := [m_r 0, (6, 0)]) (r0 := []) rfl rfl rfl rfl ml_388 rfl) (by rw [hg_388, hg_420]; decide) (Nat.le_add_left _ _) (Nat.le_add_left _ _) hn gs_nil (s_388 st_0 kc_0) ?_
  rw [Nat.add_sub_cancel, Nat.add_sub_cancel]
  refine wq_ok (pc' := 12) (ls' := [some (6, 0), some ((0, 1)), none, none]) (st' := []) Q11.hd (fun c s => rfl) ?_
  refine wq_ok (pc' := 13) (ls' := [some (6, 0), some ((0, 1)), none, none]) (st' := [(0, 0)]) Q12.hd (fun c s => rfl) ?_
  refine wq_ok (pc' := 14) (ls' := [some (6, 0), some ((0, 1)), some ((0, 0)), none]) (st' := []) Q13.hd (fun c s => rfl) ?_
  exact l_14 H 8 0 none _ rfl (fun v hv => by cases hv)
end Mp4
