/-! WHAT THE LAW CALLS: the calls of the class, with what they throw told as a number -/
section Mob
variable {kb M N pc : Nat} {ls l : ML} {st : List MV} {F : MF} {Q : Nat × List MV → MF → Prop} {q : LK} {r : List (Option (Instr × LK))} {n kc gN gM v j z : Nat}
theorem n_cvI (xs r0 : List MV) (hst : st = xs.reverse ++ r0) (hn : n = xs.length) (h8 : Nat.ble (m_cats r0) 8 = true) (hv : m_mls.getD N 0 = v) (hml : Nat.ble (m_cats xs) v = true) (hN : Nat.blt N 387 = true) (hgN : m_hg N = gN) (hgM : m_hg M = gM) (hg : Nat.blt gN gM = true) (hA : At M pc (some (.invokevirtual z, (N, n, j, 2)) :: none :: none :: r)) (hrc : ∀ c s, m_recv (F, m_KD, c, s) (m_own N) n st = true) {R : Int → MF → Prop} {T : Nat → MF → Prop} (K0 : CaI N xs F R T) (KT : ∀ (e : Nat) (F1 : MF), St F1 → T e F1 → ∃ hp, m_hnd M pc e = some hp ∧ 1 ≤ kb ∧ EvN (kb - 1) M hp ls [(3, 0)] F1 Q) (K : ∀ (r1 : Int) (F1 : MF), St F1 → R r1 F1 → EvN kb M (pc + 3) ls ((0, r1) :: r0) F1 Q) : EvN kb M pc ls st F Q := by
  have hgo : ∀ c s, mstep (.invokevirtual z) (N, n, j, 2) pc ls st (F, m_KD, c, s) = .error (1, N, xs, r0) := fun c s => by
    show (if 2 = 2 ∨ 2 = 3 then (if m_recv (F, m_KD, c, s) (m_own N) n st = true then m_call N n st else m_ko) else m_ko) = _
    rw [if_pos (Or.inl rfl), if_pos (hrc c s)]
    exact m_call_go hst hn h8 hv hml
  exact evn_call hA.hd hgo (Nat.blt_eq.mp hN) (by rw [hgN, hgM]; exact Nat.blt_eq.mp hg) (Ev.mono K0 (fun o F1 => by
    rintro ⟨hS, h | ⟨e, rfl, h⟩⟩
    · left
      obtain ⟨r1, rfl, h⟩ := h
      exact ⟨rfl, K r1 F1 hS h⟩
    · right
      obtain ⟨hp, h1, h2, h3⟩ := KT e F1 hS h
      exact ⟨e, hp, rfl, h1, Or.inr rfl, h2, h3⟩))
theorem n_cvL (xs r0 : List MV) (hst : st = xs.reverse ++ r0) (hn : n = xs.length) (h8 : Nat.ble (m_cats r0) 8 = true) (hv : m_mls.getD N 0 = v) (hml : Nat.ble (m_cats xs) v = true) (hN : Nat.blt N 387 = true) (hgN : m_hg N = gN) (hgM : m_hg M = gM) (hg : Nat.blt gN gM = true) (hA : At M pc (some (.invokevirtual z, (N, n, j, 2)) :: none :: none :: r)) (hrc : ∀ c s, m_recv (F, m_KD, c, s) (m_own N) n st = true) {R : Int → MF → Prop} {T : Nat → MF → Prop} (K0 : CaL N xs F R T) (KT : ∀ (e : Nat) (F1 : MF), St F1 → T e F1 → ∃ hp, m_hnd M pc e = some hp ∧ 1 ≤ kb ∧ EvN (kb - 1) M hp ls [(3, 0)] F1 Q) (K : ∀ (r1 : Int) (F1 : MF), St F1 → R r1 F1 → EvN kb M (pc + 3) ls ((1, r1) :: r0) F1 Q) : EvN kb M pc ls st F Q := by
  have hgo : ∀ c s, mstep (.invokevirtual z) (N, n, j, 2) pc ls st (F, m_KD, c, s) = .error (1, N, xs, r0) := fun c s => by
    show (if 2 = 2 ∨ 2 = 3 then (if m_recv (F, m_KD, c, s) (m_own N) n st = true then m_call N n st else m_ko) else m_ko) = _
    rw [if_pos (Or.inl rfl), if_pos (hrc c s)]
    exact m_call_go hst hn h8 hv hml
  exact evn_call hA.hd hgo (Nat.blt_eq.mp hN) (by rw [hgN, hgM]; exact Nat.blt_eq.mp hg) (Ev.mono K0 (fun o F1 => by
    rintro ⟨hS, h | ⟨e, rfl, h⟩⟩
    · left
      obtain ⟨r1, rfl, h⟩ := h
      exact ⟨rfl, K r1 F1 hS h⟩
    · right
      obtain ⟨hp, h1, h2, h3⟩ := KT e F1 hS h
      exact ⟨e, hp, rfl, h1, Or.inr rfl, h2, h3⟩))
theorem n_csN {ka : Nat} (xs r0 : List MV) (hst : st = xs.reverse ++ r0) (hn : n = xs.length) (h8 : Nat.ble (m_cats r0) 8 = true) (hv : m_mls.getD N 0 = v) (hml : Nat.ble (m_cats xs) v = true) (hgN : m_hg N = gN) (hgM : m_hg M = gM) (hg : Nat.blt gN gM = true) (hA : At M pc (some (.invokestatic z, (N, n, j, 7)) :: none :: none :: r)) (K0 : EvN ka N 0 (m_ini (m_mls.getD N 0) xs) [] F (fun o F1 => ∃ k : Int, o = (0, [(0, k)]) ∧ EvN kb M (pc + 3) ls ((0, k) :: r0) F1 Q)) : EvN (ka + kb) M pc ls st F Q := by
  have hgo : ∀ c s, mstep (.invokestatic z) (N, n, j, 7) pc ls st (F, m_KD, c, s) = .error (1, N, xs, r0) := fun c s => by
    show (if (7 : Nat) = 6 then m_copy (pc + 3) ls st (F, m_KD, c, s) else if (7 : Nat) = 0 ∨ (7 : Nat) = 1 ∨ (7 : Nat) = 7 then m_call N n st else m_ko) = _
    rw [if_neg (by decide), if_pos (by decide)]
    exact m_call_go hst hn h8 hv hml
  exact evn_calln hA.hd hgo (by rw [hgN, hgM]; exact Nat.blt_eq.mp hg) (EvN.mono K0 (fun o F1 => by
    rintro ⟨k, rfl, h⟩
    exact ⟨rfl, h⟩))
end Mob
theorem A_387 : At 387 0 [some (.aload 5, 0, 0, 0, 0), none, some (.iconst 0, 0, 0, 0, 0), some (.aload_n 0, 0, 0, 0, 0), some (.iload_n 1, 0, 0, 0, 0), some (.iload_n 2, 0, 0, 0, 0), some (.iload_n 3, 0, 0, 0, 0), some (.iload 4, 0, 0, 0, 0), none, some (.invokevirtual 7, 141, 5, 1509, 2), none, none, some (.i2l, 0, 0, 0, 0), some (.lastore, 0, 0, 0, 0), some (.goto 15, 0, 0, 0, 0)] := At.of (by decide +kernel)
theorem A_387_29 : At 387 29 [some (.iconst 0, 0, 0, 0, 0), some (.ireturn, 0, 0, 0, 0)] := At.of (by decide +kernel)
theorem A_387_17 : At 387 17 [some (.astore 6, 0, 0, 0, 0), none, some (.iconst 1, 0, 0, 0, 0), some (.ireturn, 0, 0, 0, 0)] := At.of (by decide +kernel)
theorem A_387_21 : At 387 21 [some (.astore 6, 0, 0, 0, 0), none, some (.iconst 2, 0, 0, 0, 0), some (.ireturn, 0, 0, 0, 0)] := At.of (by decide +kernel)
theorem A_387_25 : At 387 25 [some (.astore 6, 0, 0, 0, 0), none, some (.iconst 3, 0, 0, 0, 0), some (.ireturn, 0, 0, 0, 0)] := At.of (by decide +kernel)
theorem w_387 {F : MF} {Q : Nat × List MV → MF → Prop} {R : Int → MF → Prop} {T : Nat → MF → Prop} {x1 x2 x3 x4 : Int} (h : C_141 x1 x2 x3 x4 F R T) (hy : ∀ r F1, St F1 → R r F1 → Q (0, [(0, 0)]) (m_up F1 281 (0 : Int).toNat r)) (ht : ∀ e F1, St F1 → T e F1 → (e = 0 ∧ Q (0, [(0, 1)]) F1) ∨ (e = 1 ∧ Q (0, [(0, 2)]) F1) ∨ (e = 2 ∧ Q (0, [(0, 3)]) F1)) :
    EvN 1 387 0 (m_ini (m_mls.getD 387 0) [m_r 0, (0, x1), (0, x2), (0, x3), (0, x4), m_r 281]) [] F Q := by
  rw [ml_387]
  show EvN 1 387 0 [some (m_r 0), some (0, x1), some (0, x2), some (0, x3), some (0, x4), some (m_r 281), none] [] F Q
  refine n_aload A_387 rfl (by decide) fun hA => n_iconst hA fun hA => n_aload_n hA rfl (by decide) fun hA => n_iload_n hA rfl fun hA => n_iload_n hA rfl fun hA => n_iload_n hA rfl fun hA => n_iload hA rfl fun hA => n_cvI [m_r 0, (0, x1), (0, x2), (0, x3), (0, x4)] [(0, 0), m_r 281] rfl rfl rfl ml_141 rfl rfl hg_141 hg_387 rfl hA (fun c s => by rw [ow_141]; exact m_recv_go (xs := [(0, x1), (0, x2), (0, x3), (0, x4)]) (r0 := [(0, 0), m_r 281]) rfl rfl kd_0) h (fun e F1 hS1 hT => ?_) (fun r1 F1 hS1 hR => n_i2l hA.tl3 fun hA => n_lastore hA kd_281 ⟨by decide, by decide⟩ fun hA => n_goto hA (t := 29) rfl <| n_iconst A_387_29 fun hA => n_iret hA rfl (hy r1 F1 hS1 hR))
  rcases ht e F1 hS1 hT with ⟨rfl, hQ⟩ | ⟨rfl, hQ⟩ | ⟨rfl, hQ⟩
  · exact ⟨17, by decide, Nat.le_refl _, n_astore A_387_17 [some (m_r 0), some (0, x1), some (0, x2), some (0, x3), some (0, x4), some (m_r 281), some (3, 0)] (by decide) rfl fun hA => n_iconst hA fun hA => n_iret hA rfl hQ⟩
  · exact ⟨21, by decide, Nat.le_refl _, n_astore A_387_21 [some (m_r 0), some (0, x1), some (0, x2), some (0, x3), some (0, x4), some (m_r 281), some (3, 0)] (by decide) rfl fun hA => n_iconst hA fun hA => n_iret hA rfl hQ⟩
  · exact ⟨25, by decide, Nat.le_refl _, n_astore A_387_25 [some (m_r 0), some (0, x1), some (0, x2), some (0, x3), some (0, x4), some (m_r 281), some (3, 0)] (by decide) rfl fun hA => n_iconst hA fun hA => n_iret hA rfl hQ⟩
theorem A_388 : At 388 0 [some (.aload 4, 0, 0, 0, 0), none, some (.iconst 0, 0, 0, 0, 0), some (.aload_n 0, 0, 0, 0, 0), some (.iload_n 1, 0, 0, 0, 0), some (.iload_n 2, 0, 0, 0, 0), some (.iload_n 3, 0, 0, 0, 0), some (.invokevirtual 19, 142, 4, 1578, 2), none, none, some (.i2l, 0, 0, 0, 0), some (.lastore, 0, 0, 0, 0), some (.goto 7, 0, 0, 0, 0)] := At.of (by decide +kernel)
theorem A_388_19 : At 388 19 [some (.iconst 0, 0, 0, 0, 0), some (.ireturn, 0, 0, 0, 0)] := At.of (by decide +kernel)
theorem A_388_15 : At 388 15 [some (.astore 5, 0, 0, 0, 0), none, some (.iconst 1, 0, 0, 0, 0), some (.ireturn, 0, 0, 0, 0)] := At.of (by decide +kernel)
theorem w_388 {F : MF} {Q : Nat × List MV → MF → Prop} {R : Int → MF → Prop} {T : Nat → MF → Prop} {x1 x2 x3 : Int} (h : C_142 x1 x2 x3 F R T) (hy : ∀ r F1, St F1 → R r F1 → Q (0, [(0, 0)]) (m_up F1 281 (0 : Int).toNat r)) (ht : ∀ e F1, St F1 → T e F1 → (e = 0 ∧ Q (0, [(0, 1)]) F1)) :
    EvN 1 388 0 (m_ini (m_mls.getD 388 0) [m_r 0, (0, x1), (0, x2), (0, x3), m_r 281]) [] F Q := by
  rw [ml_388]
  show EvN 1 388 0 [some (m_r 0), some (0, x1), some (0, x2), some (0, x3), some (m_r 281), none] [] F Q
  refine n_aload A_388 rfl (by decide) fun hA => n_iconst hA fun hA => n_aload_n hA rfl (by decide) fun hA => n_iload_n hA rfl fun hA => n_iload_n hA rfl fun hA => n_iload_n hA rfl fun hA => n_cvI [m_r 0, (0, x1), (0, x2), (0, x3)] [(0, 0), m_r 281] rfl rfl rfl ml_142 rfl rfl hg_142 hg_388 rfl hA (fun c s => by rw [ow_142]; exact m_recv_go (xs := [(0, x1), (0, x2), (0, x3)]) (r0 := [(0, 0), m_r 281]) rfl rfl kd_0) h (fun e F1 hS1 hT => ?_) (fun r1 F1 hS1 hR => n_i2l hA.tl3 fun hA => n_lastore hA kd_281 ⟨by decide, by decide⟩ fun hA => n_goto hA (t := 19) rfl <| n_iconst A_388_19 fun hA => n_iret hA rfl (hy r1 F1 hS1 hR))
  rcases ht e F1 hS1 hT with ⟨rfl, hQ⟩
  · exact ⟨15, by decide, Nat.le_refl _, n_astore A_388_15 [some (m_r 0), some (0, x1), some (0, x2), some (0, x3), some (m_r 281), some (3, 0)] (by decide) rfl fun hA => n_iconst hA fun hA => n_iret hA rfl hQ⟩
theorem A_389 : At 389 0 [some (.aload 4, 0, 0, 0, 0), none, some (.iconst 0, 0, 0, 0, 0), some (.aload_n 0, 0, 0, 0, 0), some (.iload_n 1, 0, 0, 0, 0), some (.iload_n 2, 0, 0, 0, 0), some (.iload_n 3, 0, 0, 0, 0), some (.invokevirtual 23, 143, 4, 1593, 2), none, none, some (.i2l, 0, 0, 0, 0), some (.lastore, 0, 0, 0, 0), some (.goto 15, 0, 0, 0, 0)] := At.of (by decide +kernel)
theorem A_389_27 : At 389 27 [some (.iconst 0, 0, 0, 0, 0), some (.ireturn, 0, 0, 0, 0)] := At.of (by decide +kernel)
theorem A_389_15 : At 389 15 [some (.astore 5, 0, 0, 0, 0), none, some (.iconst 1, 0, 0, 0, 0), some (.ireturn, 0, 0, 0, 0)] := At.of (by decide +kernel)
theorem A_389_19 : At 389 19 [some (.astore 5, 0, 0, 0, 0), none, some (.iconst 2, 0, 0, 0, 0), some (.ireturn, 0, 0, 0, 0)] := At.of (by decide +kernel)
theorem A_389_23 : At 389 23 [some (.astore 5, 0, 0, 0, 0), none, some (.iconst 3, 0, 0, 0, 0), some (.ireturn, 0, 0, 0, 0)] := At.of (by decide +kernel)
theorem w_389 {F : MF} {Q : Nat × List MV → MF → Prop} {R : Int → MF → Prop} {T : Nat → MF → Prop} {x1 x2 x3 : Int} (h : C_143 x1 x2 x3 F R T) (hy : ∀ r F1, St F1 → R r F1 → Q (0, [(0, 0)]) (m_up F1 281 (0 : Int).toNat r)) (ht : ∀ e F1, St F1 → T e F1 → (e = 0 ∧ Q (0, [(0, 1)]) F1) ∨ (e = 1 ∧ Q (0, [(0, 2)]) F1) ∨ (e = 2 ∧ Q (0, [(0, 3)]) F1)) :
    EvN 1 389 0 (m_ini (m_mls.getD 389 0) [m_r 0, (0, x1), (0, x2), (0, x3), m_r 281]) [] F Q := by
  rw [ml_389]
  show EvN 1 389 0 [some (m_r 0), some (0, x1), some (0, x2), some (0, x3), some (m_r 281), none] [] F Q
  refine n_aload A_389 rfl (by decide) fun hA => n_iconst hA fun hA => n_aload_n hA rfl (by decide) fun hA => n_iload_n hA rfl fun hA => n_iload_n hA rfl fun hA => n_iload_n hA rfl fun hA => n_cvI [m_r 0, (0, x1), (0, x2), (0, x3)] [(0, 0), m_r 281] rfl rfl rfl ml_143 rfl rfl hg_143 hg_389 rfl hA (fun c s => by rw [ow_143]; exact m_recv_go (xs := [(0, x1), (0, x2), (0, x3)]) (r0 := [(0, 0), m_r 281]) rfl rfl kd_0) h (fun e F1 hS1 hT => ?_) (fun r1 F1 hS1 hR => n_i2l hA.tl3 fun hA => n_lastore hA kd_281 ⟨by decide, by decide⟩ fun hA => n_goto hA (t := 27) rfl <| n_iconst A_389_27 fun hA => n_iret hA rfl (hy r1 F1 hS1 hR))
  rcases ht e F1 hS1 hT with ⟨rfl, hQ⟩ | ⟨rfl, hQ⟩ | ⟨rfl, hQ⟩
  · exact ⟨15, by decide, Nat.le_refl _, n_astore A_389_15 [some (m_r 0), some (0, x1), some (0, x2), some (0, x3), some (m_r 281), some (3, 0)] (by decide) rfl fun hA => n_iconst hA fun hA => n_iret hA rfl hQ⟩
  · exact ⟨19, by decide, Nat.le_refl _, n_astore A_389_19 [some (m_r 0), some (0, x1), some (0, x2), some (0, x3), some (m_r 281), some (3, 0)] (by decide) rfl fun hA => n_iconst hA fun hA => n_iret hA rfl hQ⟩
  · exact ⟨23, by decide, Nat.le_refl _, n_astore A_389_23 [some (m_r 0), some (0, x1), some (0, x2), some (0, x3), some (m_r 281), some (3, 0)] (by decide) rfl fun hA => n_iconst hA fun hA => n_iret hA rfl hQ⟩
theorem A_390 : At 390 0 [some (.aload_n 3, 0, 0, 0, 0), some (.iconst 0, 0, 0, 0, 0), some (.aload_n 0, 0, 0, 0, 0), some (.iload_n 1, 0, 0, 0, 0), some (.iload_n 2, 0, 0, 0, 0), some (.invokevirtual 27, 144, 3, 1629, 2), none, none, some (.i2l, 0, 0, 0, 0), some (.lastore, 0, 0, 0, 0), some (.goto 7, 0, 0, 0, 0)] := At.of (by decide +kernel)
theorem A_390_17 : At 390 17 [some (.iconst 0, 0, 0, 0, 0), some (.ireturn, 0, 0, 0, 0)] := At.of (by decide +kernel)
theorem A_390_13 : At 390 13 [some (.astore 4, 0, 0, 0, 0), none, some (.iconst 1, 0, 0, 0, 0), some (.ireturn, 0, 0, 0, 0)] := At.of (by decide +kernel)
theorem w_390 {F : MF} {Q : Nat × List MV → MF → Prop} {R : Int → MF → Prop} {T : Nat → MF → Prop} {x1 x2 : Int} (h : C_144 x1 x2 F R T) (hy : ∀ r F1, St F1 → R r F1 → Q (0, [(0, 0)]) (m_up F1 281 (0 : Int).toNat r)) (ht : ∀ e F1, St F1 → T e F1 → (e = 0 ∧ Q (0, [(0, 1)]) F1)) :
    EvN 1 390 0 (m_ini (m_mls.getD 390 0) [m_r 0, (0, x1), (0, x2), m_r 281]) [] F Q := by
  rw [ml_390]
  show EvN 1 390 0 [some (m_r 0), some (0, x1), some (0, x2), some (m_r 281), none] [] F Q
  refine n_aload_n A_390 rfl (by decide) fun hA => n_iconst hA fun hA => n_aload_n hA rfl (by decide) fun hA => n_iload_n hA rfl fun hA => n_iload_n hA rfl fun hA => n_cvI [m_r 0, (0, x1), (0, x2)] [(0, 0), m_r 281] rfl rfl rfl ml_144 rfl rfl hg_144 hg_390 rfl hA (fun c s => by rw [ow_144]; exact m_recv_go (xs := [(0, x1), (0, x2)]) (r0 := [(0, 0), m_r 281]) rfl rfl kd_0) h (fun e F1 hS1 hT => ?_) (fun r1 F1 hS1 hR => n_i2l hA.tl3 fun hA => n_lastore hA kd_281 ⟨by decide, by decide⟩ fun hA => n_goto hA (t := 17) rfl <| n_iconst A_390_17 fun hA => n_iret hA rfl (hy r1 F1 hS1 hR))
  rcases ht e F1 hS1 hT with ⟨rfl, hQ⟩
  · exact ⟨13, by decide, Nat.le_refl _, n_astore A_390_13 [some (m_r 0), some (0, x1), some (0, x2), some (m_r 281), some (3, 0)] (by decide) rfl fun hA => n_iconst hA fun hA => n_iret hA rfl hQ⟩
theorem A_391 : At 391 0 [some (.aload_n 2, 0, 0, 0, 0), some (.iconst 0, 0, 0, 0, 0), some (.aload_n 0, 0, 0, 0, 0), some (.iload_n 1, 0, 0, 0, 0), some (.invokevirtual 31, 145, 2, 1637, 2), none, none, some (.i2l, 0, 0, 0, 0), some (.lastore, 0, 0, 0, 0), some (.goto 6, 0, 0, 0, 0)] := At.of (by decide +kernel)
theorem A_391_15 : At 391 15 [some (.iconst 0, 0, 0, 0, 0), some (.ireturn, 0, 0, 0, 0)] := At.of (by decide +kernel)
theorem A_391_12 : At 391 12 [some (.astore_n 3, 0, 0, 0, 0), some (.iconst 1, 0, 0, 0, 0), some (.ireturn, 0, 0, 0, 0)] := At.of (by decide +kernel)
theorem w_391 {F : MF} {Q : Nat × List MV → MF → Prop} {R : Int → MF → Prop} {T : Nat → MF → Prop} {x1 : Int} (h : C_145 x1 F R T) (hy : ∀ r F1, St F1 → R r F1 → Q (0, [(0, 0)]) (m_up F1 281 (0 : Int).toNat r)) (ht : ∀ e F1, St F1 → T e F1 → (e = 0 ∧ Q (0, [(0, 1)]) F1)) :
    EvN 1 391 0 (m_ini (m_mls.getD 391 0) [m_r 0, (0, x1), m_r 281]) [] F Q := by
  rw [ml_391]
  show EvN 1 391 0 [some (m_r 0), some (0, x1), some (m_r 281), none] [] F Q
  refine n_aload_n A_391 rfl (by decide) fun hA => n_iconst hA fun hA => n_aload_n hA rfl (by decide) fun hA => n_iload_n hA rfl fun hA => n_cvI [m_r 0, (0, x1)] [(0, 0), m_r 281] rfl rfl rfl ml_145 rfl rfl hg_145 hg_391 rfl hA (fun c s => by rw [ow_145]; exact m_recv_go (xs := [(0, x1)]) (r0 := [(0, 0), m_r 281]) rfl rfl kd_0) h (fun e F1 hS1 hT => ?_) (fun r1 F1 hS1 hR => n_i2l hA.tl3 fun hA => n_lastore hA kd_281 ⟨by decide, by decide⟩ fun hA => n_goto hA (t := 15) rfl <| n_iconst A_391_15 fun hA => n_iret hA rfl (hy r1 F1 hS1 hR))
  rcases ht e F1 hS1 hT with ⟨rfl, hQ⟩
  · exact ⟨12, by decide, Nat.le_refl _, n_astore_n A_391_12 [some (m_r 0), some (0, x1), some (m_r 281), some (3, 0)] (by decide) rfl fun hA => n_iconst hA fun hA => n_iret hA rfl hQ⟩
theorem A_392 : At 392 0 [some (.aload_n 2, 0, 0, 0, 0), some (.iconst 0, 0, 0, 0, 0), some (.aload_n 0, 0, 0, 0, 0), some (.iload_n 1, 0, 0, 0, 0), some (.invokevirtual 35, 146, 2, 1656, 2), none, none, some (.i2l, 0, 0, 0, 0), some (.lastore, 0, 0, 0, 0), some (.goto 6, 0, 0, 0, 0)] := At.of (by decide +kernel)
theorem A_392_15 : At 392 15 [some (.iconst 0, 0, 0, 0, 0), some (.ireturn, 0, 0, 0, 0)] := At.of (by decide +kernel)
theorem A_392_12 : At 392 12 [some (.astore_n 3, 0, 0, 0, 0), some (.iconst 1, 0, 0, 0, 0), some (.ireturn, 0, 0, 0, 0)] := At.of (by decide +kernel)
theorem w_392 {F : MF} {Q : Nat × List MV → MF → Prop} {R : Int → MF → Prop} {T : Nat → MF → Prop} {x1 : Int} (h : C_146 x1 F R T) (hy : ∀ r F1, St F1 → R r F1 → Q (0, [(0, 0)]) (m_up F1 281 (0 : Int).toNat r)) (ht : ∀ e F1, St F1 → T e F1 → (e = 0 ∧ Q (0, [(0, 1)]) F1)) :
    EvN 1 392 0 (m_ini (m_mls.getD 392 0) [m_r 0, (0, x1), m_r 281]) [] F Q := by
  rw [ml_392]
  show EvN 1 392 0 [some (m_r 0), some (0, x1), some (m_r 281), none] [] F Q
  refine n_aload_n A_392 rfl (by decide) fun hA => n_iconst hA fun hA => n_aload_n hA rfl (by decide) fun hA => n_iload_n hA rfl fun hA => n_cvI [m_r 0, (0, x1)] [(0, 0), m_r 281] rfl rfl rfl ml_146 rfl rfl hg_146 hg_392 rfl hA (fun c s => by rw [ow_146]; exact m_recv_go (xs := [(0, x1)]) (r0 := [(0, 0), m_r 281]) rfl rfl kd_0) h (fun e F1 hS1 hT => ?_) (fun r1 F1 hS1 hR => n_i2l hA.tl3 fun hA => n_lastore hA kd_281 ⟨by decide, by decide⟩ fun hA => n_goto hA (t := 15) rfl <| n_iconst A_392_15 fun hA => n_iret hA rfl (hy r1 F1 hS1 hR))
  rcases ht e F1 hS1 hT with ⟨rfl, hQ⟩
  · exact ⟨12, by decide, Nat.le_refl _, n_astore_n A_392_12 [some (m_r 0), some (0, x1), some (m_r 281), some (3, 0)] (by decide) rfl fun hA => n_iconst hA fun hA => n_iret hA rfl hQ⟩
theorem A_393 : At 393 0 [some (.aload 4, 0, 0, 0, 0), none, some (.iconst 0, 0, 0, 0, 0), some (.aload_n 0, 0, 0, 0, 0), some (.iload_n 1, 0, 0, 0, 0), some (.iload_n 2, 0, 0, 0, 0), some (.iload_n 3, 0, 0, 0, 0), some (.invokevirtual 38, 147, 4, 1663, 2), none, none, some (.i2l, 0, 0, 0, 0), some (.lastore, 0, 0, 0, 0), some (.goto 7, 0, 0, 0, 0)] := At.of (by decide +kernel)
theorem A_393_19 : At 393 19 [some (.iconst 0, 0, 0, 0, 0), some (.ireturn, 0, 0, 0, 0)] := At.of (by decide +kernel)
theorem A_393_15 : At 393 15 [some (.astore 5, 0, 0, 0, 0), none, some (.iconst 1, 0, 0, 0, 0), some (.ireturn, 0, 0, 0, 0)] := At.of (by decide +kernel)
theorem w_393 {F : MF} {Q : Nat × List MV → MF → Prop} {R : Int → MF → Prop} {T : Nat → MF → Prop} {x1 x2 x3 : Int} (h : C_147 x1 x2 x3 F R T) (hy : ∀ r F1, St F1 → R r F1 → Q (0, [(0, 0)]) (m_up F1 281 (0 : Int).toNat r)) (ht : ∀ e F1, St F1 → T e F1 → (e = 0 ∧ Q (0, [(0, 1)]) F1)) :
    EvN 1 393 0 (m_ini (m_mls.getD 393 0) [m_r 0, (0, x1), (0, x2), (0, x3), m_r 281]) [] F Q := by
  rw [ml_393]
  show EvN 1 393 0 [some (m_r 0), some (0, x1), some (0, x2), some (0, x3), some (m_r 281), none] [] F Q
  refine n_aload A_393 rfl (by decide) fun hA => n_iconst hA fun hA => n_aload_n hA rfl (by decide) fun hA => n_iload_n hA rfl fun hA => n_iload_n hA rfl fun hA => n_iload_n hA rfl fun hA => n_cvI [m_r 0, (0, x1), (0, x2), (0, x3)] [(0, 0), m_r 281] rfl rfl rfl ml_147 rfl rfl hg_147 hg_393 rfl hA (fun c s => by rw [ow_147]; exact m_recv_go (xs := [(0, x1), (0, x2), (0, x3)]) (r0 := [(0, 0), m_r 281]) rfl rfl kd_0) h (fun e F1 hS1 hT => ?_) (fun r1 F1 hS1 hR => n_i2l hA.tl3 fun hA => n_lastore hA kd_281 ⟨by decide, by decide⟩ fun hA => n_goto hA (t := 19) rfl <| n_iconst A_393_19 fun hA => n_iret hA rfl (hy r1 F1 hS1 hR))
  rcases ht e F1 hS1 hT with ⟨rfl, hQ⟩
  · exact ⟨15, by decide, Nat.le_refl _, n_astore A_393_15 [some (m_r 0), some (0, x1), some (0, x2), some (0, x3), some (m_r 281), some (3, 0)] (by decide) rfl fun hA => n_iconst hA fun hA => n_iret hA rfl hQ⟩
theorem A_394 : At 394 0 [some (.aload_n 3, 0, 0, 0, 0), some (.iconst 0, 0, 0, 0, 0), some (.aload_n 0, 0, 0, 0, 0), some (.iload_n 1, 0, 0, 0, 0), some (.iload_n 2, 0, 0, 0, 0), some (.invokevirtual 41, 148, 3, 1671, 2), none, none, some (.i2l, 0, 0, 0, 0), some (.lastore, 0, 0, 0, 0), some (.goto 7, 0, 0, 0, 0)] := At.of (by decide +kernel)
theorem A_394_17 : At 394 17 [some (.iconst 0, 0, 0, 0, 0), some (.ireturn, 0, 0, 0, 0)] := At.of (by decide +kernel)
theorem A_394_13 : At 394 13 [some (.astore 4, 0, 0, 0, 0), none, some (.iconst 1, 0, 0, 0, 0), some (.ireturn, 0, 0, 0, 0)] := At.of (by decide +kernel)
theorem w_394 {F : MF} {Q : Nat × List MV → MF → Prop} {R : Int → MF → Prop} {T : Nat → MF → Prop} {x1 x2 : Int} (h : C_148 x1 x2 F R T) (hy : ∀ r F1, St F1 → R r F1 → Q (0, [(0, 0)]) (m_up F1 281 (0 : Int).toNat r)) (ht : ∀ e F1, St F1 → T e F1 → (e = 0 ∧ Q (0, [(0, 1)]) F1)) :
    EvN 1 394 0 (m_ini (m_mls.getD 394 0) [m_r 0, (0, x1), (0, x2), m_r 281]) [] F Q := by
  rw [ml_394]
  show EvN 1 394 0 [some (m_r 0), some (0, x1), some (0, x2), some (m_r 281), none] [] F Q
  refine n_aload_n A_394 rfl (by decide) fun hA => n_iconst hA fun hA => n_aload_n hA rfl (by decide) fun hA => n_iload_n hA rfl fun hA => n_iload_n hA rfl fun hA => n_cvI [m_r 0, (0, x1), (0, x2)] [(0, 0), m_r 281] rfl rfl rfl ml_148 rfl rfl hg_148 hg_394 rfl hA (fun c s => by rw [ow_148]; exact m_recv_go (xs := [(0, x1), (0, x2)]) (r0 := [(0, 0), m_r 281]) rfl rfl kd_0) h (fun e F1 hS1 hT => ?_) (fun r1 F1 hS1 hR => n_i2l hA.tl3 fun hA => n_lastore hA kd_281 ⟨by decide, by decide⟩ fun hA => n_goto hA (t := 17) rfl <| n_iconst A_394_17 fun hA => n_iret hA rfl (hy r1 F1 hS1 hR))
  rcases ht e F1 hS1 hT with ⟨rfl, hQ⟩
  · exact ⟨13, by decide, Nat.le_refl _, n_astore A_394_13 [some (m_r 0), some (0, x1), some (0, x2), some (m_r 281), some (3, 0)] (by decide) rfl fun hA => n_iconst hA fun hA => n_iret hA rfl hQ⟩
theorem A_395 : At 395 0 [some (.aload_n 2, 0, 0, 0, 0), some (.iconst 0, 0, 0, 0, 0), some (.aload_n 0, 0, 0, 0, 0), some (.iload_n 1, 0, 0, 0, 0), some (.invokevirtual 44, 150, 2, 1678, 2), none, none, some (.i2l, 0, 0, 0, 0), some (.lastore, 0, 0, 0, 0), some (.goto 6, 0, 0, 0, 0)] := At.of (by decide +kernel)
theorem A_395_15 : At 395 15 [some (.iconst 0, 0, 0, 0, 0), some (.ireturn, 0, 0, 0, 0)] := At.of (by decide +kernel)
theorem A_395_12 : At 395 12 [some (.astore_n 3, 0, 0, 0, 0), some (.iconst 1, 0, 0, 0, 0), some (.ireturn, 0, 0, 0, 0)] := At.of (by decide +kernel)
theorem w_395 {F : MF} {Q : Nat × List MV → MF → Prop} {R : Int → MF → Prop} {T : Nat → MF → Prop} {x1 : Int} (h : C_150 x1 F R T) (hy : ∀ r F1, St F1 → R r F1 → Q (0, [(0, 0)]) (m_up F1 281 (0 : Int).toNat r)) (ht : ∀ e F1, St F1 → T e F1 → (e = 0 ∧ Q (0, [(0, 1)]) F1)) :
    EvN 1 395 0 (m_ini (m_mls.getD 395 0) [m_r 0, (0, x1), m_r 281]) [] F Q := by
  rw [ml_395]
  show EvN 1 395 0 [some (m_r 0), some (0, x1), some (m_r 281), none] [] F Q
  refine n_aload_n A_395 rfl (by decide) fun hA => n_iconst hA fun hA => n_aload_n hA rfl (by decide) fun hA => n_iload_n hA rfl fun hA => n_cvI [m_r 0, (0, x1)] [(0, 0), m_r 281] rfl rfl rfl ml_150 rfl rfl hg_150 hg_395 rfl hA (fun c s => by rw [ow_150]; exact m_recv_go (xs := [(0, x1)]) (r0 := [(0, 0), m_r 281]) rfl rfl kd_0) h (fun e F1 hS1 hT => ?_) (fun r1 F1 hS1 hR => n_i2l hA.tl3 fun hA => n_lastore hA kd_281 ⟨by decide, by decide⟩ fun hA => n_goto hA (t := 15) rfl <| n_iconst A_395_15 fun hA => n_iret hA rfl (hy r1 F1 hS1 hR))
  rcases ht e F1 hS1 hT with ⟨rfl, hQ⟩
  · exact ⟨12, by decide, Nat.le_refl _, n_astore_n A_395_12 [some (m_r 0), some (0, x1), some (m_r 281), some (3, 0)] (by decide) rfl fun hA => n_iconst hA fun hA => n_iret hA rfl hQ⟩
theorem A_396 : At 396 0 [some (.aload_n 3, 0, 0, 0, 0), some (.iconst 0, 0, 0, 0, 0), some (.aload_n 0, 0, 0, 0, 0), some (.iload_n 1, 0, 0, 0, 0), some (.iload_n 2, 0, 0, 0, 0), some (.invokevirtual 47, 151, 3, 1685, 2), none, none, some (.i2l, 0, 0, 0, 0), some (.lastore, 0, 0, 0, 0), some (.goto 7, 0, 0, 0, 0)] := At.of (by decide +kernel)
theorem A_396_17 : At 396 17 [some (.iconst 0, 0, 0, 0, 0), some (.ireturn, 0, 0, 0, 0)] := At.of (by decide +kernel)
theorem A_396_13 : At 396 13 [some (.astore 4, 0, 0, 0, 0), none, some (.iconst 1, 0, 0, 0, 0), some (.ireturn, 0, 0, 0, 0)] := At.of (by decide +kernel)
theorem w_396 {F : MF} {Q : Nat × List MV → MF → Prop} {R : Int → MF → Prop} {T : Nat → MF → Prop} {x1 x2 : Int} (h : C_151 x1 x2 F R T) (hy : ∀ r F1, St F1 → R r F1 → Q (0, [(0, 0)]) (m_up F1 281 (0 : Int).toNat r)) (ht : ∀ e F1, St F1 → T e F1 → (e = 0 ∧ Q (0, [(0, 1)]) F1)) :
    EvN 1 396 0 (m_ini (m_mls.getD 396 0) [m_r 0, (0, x1), (0, x2), m_r 281]) [] F Q := by
  rw [ml_396]
  show EvN 1 396 0 [some (m_r 0), some (0, x1), some (0, x2), some (m_r 281), none] [] F Q
  refine n_aload_n A_396 rfl (by decide) fun hA => n_iconst hA fun hA => n_aload_n hA rfl (by decide) fun hA => n_iload_n hA rfl fun hA => n_iload_n hA rfl fun hA => n_cvI [m_r 0, (0, x1), (0, x2)] [(0, 0), m_r 281] rfl rfl rfl ml_151 rfl rfl hg_151 hg_396 rfl hA (fun c s => by rw [ow_151]; exact m_recv_go (xs := [(0, x1), (0, x2)]) (r0 := [(0, 0), m_r 281]) rfl rfl kd_0) h (fun e F1 hS1 hT => ?_) (fun r1 F1 hS1 hR => n_i2l hA.tl3 fun hA => n_lastore hA kd_281 ⟨by decide, by decide⟩ fun hA => n_goto hA (t := 17) rfl <| n_iconst A_396_17 fun hA => n_iret hA rfl (hy r1 F1 hS1 hR))
  rcases ht e F1 hS1 hT with ⟨rfl, hQ⟩
  · exact ⟨13, by decide, Nat.le_refl _, n_astore A_396_13 [some (m_r 0), some (0, x1), some (0, x2), some (m_r 281), some (3, 0)] (by decide) rfl fun hA => n_iconst hA fun hA => n_iret hA rfl hQ⟩
theorem A_397 : At 397 0 [some (.aload_n 3, 0, 0, 0, 0), some (.iconst 0, 0, 0, 0, 0), some (.aload_n 0, 0, 0, 0, 0), some (.iload_n 1, 0, 0, 0, 0), some (.iload_n 2, 0, 0, 0, 0), some (.invokevirtual 50, 152, 3, 1700, 2), none, none, some (.i2l, 0, 0, 0, 0), some (.lastore, 0, 0, 0, 0), some (.goto 7, 0, 0, 0, 0)] := At.of (by decide +kernel)
theorem A_397_17 : At 397 17 [some (.iconst 0, 0, 0, 0, 0), some (.ireturn, 0, 0, 0, 0)] := At.of (by decide +kernel)
theorem A_397_13 : At 397 13 [some (.astore 4, 0, 0, 0, 0), none, some (.iconst 1, 0, 0, 0, 0), some (.ireturn, 0, 0, 0, 0)] := At.of (by decide +kernel)
theorem w_397 {F : MF} {Q : Nat × List MV → MF → Prop} {R : Int → MF → Prop} {T : Nat → MF → Prop} {x1 x2 : Int} (h : C_152 x1 x2 F R T) (hy : ∀ r F1, St F1 → R r F1 → Q (0, [(0, 0)]) (m_up F1 281 (0 : Int).toNat r)) (ht : ∀ e F1, St F1 → T e F1 → (e = 0 ∧ Q (0, [(0, 1)]) F1)) :
    EvN 1 397 0 (m_ini (m_mls.getD 397 0) [m_r 0, (0, x1), (0, x2), m_r 281]) [] F Q := by
  rw [ml_397]
  show EvN 1 397 0 [some (m_r 0), some (0, x1), some (0, x2), some (m_r 281), none] [] F Q
  refine n_aload_n A_397 rfl (by decide) fun hA => n_iconst hA fun hA => n_aload_n hA rfl (by decide) fun hA => n_iload_n hA rfl fun hA => n_iload_n hA rfl fun hA => n_cvI [m_r 0, (0, x1), (0, x2)] [(0, 0), m_r 281] rfl rfl rfl ml_152 rfl rfl hg_152 hg_397 rfl hA (fun c s => by rw [ow_152]; exact m_recv_go (xs := [(0, x1), (0, x2)]) (r0 := [(0, 0), m_r 281]) rfl rfl kd_0) h (fun e F1 hS1 hT => ?_) (fun r1 F1 hS1 hR => n_i2l hA.tl3 fun hA => n_lastore hA kd_281 ⟨by decide, by decide⟩ fun hA => n_goto hA (t := 17) rfl <| n_iconst A_397_17 fun hA => n_iret hA rfl (hy r1 F1 hS1 hR))
  rcases ht e F1 hS1 hT with ⟨rfl, hQ⟩
  · exact ⟨13, by decide, Nat.le_refl _, n_astore A_397_13 [some (m_r 0), some (0, x1), some (0, x2), some (m_r 281), some (3, 0)] (by decide) rfl fun hA => n_iconst hA fun hA => n_iret hA rfl hQ⟩
theorem A_398 : At 398 0 [some (.aload 4, 0, 0, 0, 0), none, some (.iconst 0, 0, 0, 0, 0), some (.aload_n 0, 0, 0, 0, 0), some (.iload_n 1, 0, 0, 0, 0), some (.iload_n 2, 0, 0, 0, 0), some (.iload_n 3, 0, 0, 0, 0), some (.invokevirtual 53, 153, 4, 1712, 2), none, none, some (.i2l, 0, 0, 0, 0), some (.lastore, 0, 0, 0, 0), some (.goto 7, 0, 0, 0, 0)] := At.of (by decide +kernel)
theorem A_398_19 : At 398 19 [some (.iconst 0, 0, 0, 0, 0), some (.ireturn, 0, 0, 0, 0)] := At.of (by decide +kernel)
theorem A_398_15 : At 398 15 [some (.astore 5, 0, 0, 0, 0), none, some (.iconst 1, 0, 0, 0, 0), some (.ireturn, 0, 0, 0, 0)] := At.of (by decide +kernel)
theorem w_398 {F : MF} {Q : Nat × List MV → MF → Prop} {R : Int → MF → Prop} {T : Nat → MF → Prop} {x1 x2 x3 : Int} (h : C_153 x1 x2 x3 F R T) (hy : ∀ r F1, St F1 → R r F1 → Q (0, [(0, 0)]) (m_up F1 281 (0 : Int).toNat r)) (ht : ∀ e F1, St F1 → T e F1 → (e = 0 ∧ Q (0, [(0, 1)]) F1)) :
    EvN 1 398 0 (m_ini (m_mls.getD 398 0) [m_r 0, (0, x1), (0, x2), (0, x3), m_r 281]) [] F Q := by
  rw [ml_398]
  show EvN 1 398 0 [some (m_r 0), some (0, x1), some (0, x2), some (0, x3), some (m_r 281), none] [] F Q
  refine n_aload A_398 rfl (by decide) fun hA => n_iconst hA fun hA => n_aload_n hA rfl (by decide) fun hA => n_iload_n hA rfl fun hA => n_iload_n hA rfl fun hA => n_iload_n hA rfl fun hA => n_cvI [m_r 0, (0, x1), (0, x2), (0, x3)] [(0, 0), m_r 281] rfl rfl rfl ml_153 rfl rfl hg_153 hg_398 rfl hA (fun c s => by rw [ow_153]; exact m_recv_go (xs := [(0, x1), (0, x2), (0, x3)]) (r0 := [(0, 0), m_r 281]) rfl rfl kd_0) h (fun e F1 hS1 hT => ?_) (fun r1 F1 hS1 hR => n_i2l hA.tl3 fun hA => n_lastore hA kd_281 ⟨by decide, by decide⟩ fun hA => n_goto hA (t := 19) rfl <| n_iconst A_398_19 fun hA => n_iret hA rfl (hy r1 F1 hS1 hR))
  rcases ht e F1 hS1 hT with ⟨rfl, hQ⟩
  · exact ⟨15, by decide, Nat.le_refl _, n_astore A_398_15 [some (m_r 0), some (0, x1), some (0, x2), some (0, x3), some (m_r 281), some (3, 0)] (by decide) rfl fun hA => n_iconst hA fun hA => n_iret hA rfl hQ⟩
theorem A_399 : At 399 0 [some (.aload_n 3, 0, 0, 0, 0), some (.iconst 0, 0, 0, 0, 0), some (.aload_n 0, 0, 0, 0, 0), some (.iload_n 1, 0, 0, 0, 0), some (.iload_n 2, 0, 0, 0, 0), some (.invokevirtual 56, 154, 3, 1725, 2), none, none, some (.i2l, 0, 0, 0, 0), some (.lastore, 0, 0, 0, 0), some (.goto 7, 0, 0, 0, 0)] := At.of (by decide +kernel)
theorem A_399_17 : At 399 17 [some (.iconst 0, 0, 0, 0, 0), some (.ireturn, 0, 0, 0, 0)] := At.of (by decide +kernel)
theorem A_399_13 : At 399 13 [some (.astore 4, 0, 0, 0, 0), none, some (.iconst 1, 0, 0, 0, 0), some (.ireturn, 0, 0, 0, 0)] := At.of (by decide +kernel)
theorem w_399 {F : MF} {Q : Nat × List MV → MF → Prop} {R : Int → MF → Prop} {T : Nat → MF → Prop} {x1 x2 : Int} (h : C_154 x1 x2 F R T) (hy : ∀ r F1, St F1 → R r F1 → Q (0, [(0, 0)]) (m_up F1 281 (0 : Int).toNat r)) (ht : ∀ e F1, St F1 → T e F1 → (e = 0 ∧ Q (0, [(0, 1)]) F1)) :
    EvN 1 399 0 (m_ini (m_mls.getD 399 0) [m_r 0, (0, x1), (0, x2), m_r 281]) [] F Q := by
  rw [ml_399]
  show EvN 1 399 0 [some (m_r 0), some (0, x1), some (0, x2), some (m_r 281), none] [] F Q
  refine n_aload_n A_399 rfl (by decide) fun hA => n_iconst hA fun hA => n_aload_n hA rfl (by decide) fun hA => n_iload_n hA rfl fun hA => n_iload_n hA rfl fun hA => n_cvI [m_r 0, (0, x1), (0, x2)] [(0, 0), m_r 281] rfl rfl rfl ml_154 rfl rfl hg_154 hg_399 rfl hA (fun c s => by rw [ow_154]; exact m_recv_go (xs := [(0, x1), (0, x2)]) (r0 := [(0, 0), m_r 281]) rfl rfl kd_0) h (fun e F1 hS1 hT => ?_) (fun r1 F1 hS1 hR => n_i2l hA.tl3 fun hA => n_lastore hA kd_281 ⟨by decide, by decide⟩ fun hA => n_goto hA (t := 17) rfl <| n_iconst A_399_17 fun hA => n_iret hA rfl (hy r1 F1 hS1 hR))
  rcases ht e F1 hS1 hT with ⟨rfl, hQ⟩
  · exact ⟨13, by decide, Nat.le_refl _, n_astore A_399_13 [some (m_r 0), some (0, x1), some (0, x2), some (m_r 281), some (3, 0)] (by decide) rfl fun hA => n_iconst hA fun hA => n_iret hA rfl hQ⟩
theorem A_400 : At 400 0 [some (.aload_n 3, 0, 0, 0, 0), some (.iconst 0, 0, 0, 0, 0), some (.aload_n 0, 0, 0, 0, 0), some (.iload_n 1, 0, 0, 0, 0), some (.iload_n 2, 0, 0, 0, 0), some (.invokevirtual 59, 155, 3, 1732, 2), none, none, some (.i2l, 0, 0, 0, 0), some (.lastore, 0, 0, 0, 0), some (.goto 7, 0, 0, 0, 0)] := At.of (by decide +kernel)
theorem A_400_17 : At 400 17 [some (.iconst 0, 0, 0, 0, 0), some (.ireturn, 0, 0, 0, 0)] := At.of (by decide +kernel)
theorem A_400_13 : At 400 13 [some (.astore 4, 0, 0, 0, 0), none, some (.iconst 1, 0, 0, 0, 0), some (.ireturn, 0, 0, 0, 0)] := At.of (by decide +kernel)
theorem w_400 {F : MF} {Q : Nat × List MV → MF → Prop} {R : Int → MF → Prop} {T : Nat → MF → Prop} {x1 x2 : Int} (h : C_155 x1 x2 F R T) (hy : ∀ r F1, St F1 → R r F1 → Q (0, [(0, 0)]) (m_up F1 281 (0 : Int).toNat r)) (ht : ∀ e F1, St F1 → T e F1 → (e = 0 ∧ Q (0, [(0, 1)]) F1)) :
    EvN 1 400 0 (m_ini (m_mls.getD 400 0) [m_r 0, (0, x1), (0, x2), m_r 281]) [] F Q := by
  rw [ml_400]
  show EvN 1 400 0 [some (m_r 0), some (0, x1), some (0, x2), some (m_r 281), none] [] F Q
  refine n_aload_n A_400 rfl (by decide) fun hA => n_iconst hA fun hA => n_aload_n hA rfl (by decide) fun hA => n_iload_n hA rfl fun hA => n_iload_n hA rfl fun hA => n_cvI [m_r 0, (0, x1), (0, x2)] [(0, 0), m_r 281] rfl rfl rfl ml_155 rfl rfl hg_155 hg_400 rfl hA (fun c s => by rw [ow_155]; exact m_recv_go (xs := [(0, x1), (0, x2)]) (r0 := [(0, 0), m_r 281]) rfl rfl kd_0) h (fun e F1 hS1 hT => ?_) (fun r1 F1 hS1 hR => n_i2l hA.tl3 fun hA => n_lastore hA kd_281 ⟨by decide, by decide⟩ fun hA => n_goto hA (t := 17) rfl <| n_iconst A_400_17 fun hA => n_iret hA rfl (hy r1 F1 hS1 hR))
  rcases ht e F1 hS1 hT with ⟨rfl, hQ⟩
  · exact ⟨13, by decide, Nat.le_refl _, n_astore A_400_13 [some (m_r 0), some (0, x1), some (0, x2), some (m_r 281), some (3, 0)] (by decide) rfl fun hA => n_iconst hA fun hA => n_iret hA rfl hQ⟩
theorem A_401 : At 401 0 [some (.aload_n 2, 0, 0, 0, 0), some (.iconst 0, 0, 0, 0, 0), some (.aload_n 0, 0, 0, 0, 0), some (.iload_n 1, 0, 0, 0, 0), some (.invokevirtual 62, 156, 2, 1744, 2), none, none, some (.i2l, 0, 0, 0, 0), some (.lastore, 0, 0, 0, 0), some (.goto 6, 0, 0, 0, 0)] := At.of (by decide +kernel)
theorem A_401_15 : At 401 15 [some (.iconst 0, 0, 0, 0, 0), some (.ireturn, 0, 0, 0, 0)] := At.of (by decide +kernel)
theorem A_401_12 : At 401 12 [some (.astore_n 3, 0, 0, 0, 0), some (.iconst 1, 0, 0, 0, 0), some (.ireturn, 0, 0, 0, 0)] := At.of (by decide +kernel)
theorem w_401 {F : MF} {Q : Nat × List MV → MF → Prop} {R : Int → MF → Prop} {T : Nat → MF → Prop} {x1 : Int} (h : C_156 x1 F R T) (hy : ∀ r F1, St F1 → R r F1 → Q (0, [(0, 0)]) (m_up F1 281 (0 : Int).toNat r)) (ht : ∀ e F1, St F1 → T e F1 → (e = 0 ∧ Q (0, [(0, 1)]) F1)) :
    EvN 1 401 0 (m_ini (m_mls.getD 401 0) [m_r 0, (0, x1), m_r 281]) [] F Q := by
  rw [ml_401]
  show EvN 1 401 0 [some (m_r 0), some (0, x1), some (m_r 281), none] [] F Q
  refine n_aload_n A_401 rfl (by decide) fun hA => n_iconst hA fun hA => n_aload_n hA rfl (by decide) fun hA => n_iload_n hA rfl fun hA => n_cvI [m_r 0, (0, x1)] [(0, 0), m_r 281] rfl rfl rfl ml_156 rfl rfl hg_156 hg_401 rfl hA (fun c s => by rw [ow_156]; exact m_recv_go (xs := [(0, x1)]) (r0 := [(0, 0), m_r 281]) rfl rfl kd_0) h (fun e F1 hS1 hT => ?_) (fun r1 F1 hS1 hR => n_i2l hA.tl3 fun hA => n_lastore hA kd_281 ⟨by decide, by decide⟩ fun hA => n_goto hA (t := 15) rfl <| n_iconst A_401_15 fun hA => n_iret hA rfl (hy r1 F1 hS1 hR))
  rcases ht e F1 hS1 hT with ⟨rfl, hQ⟩
  · exact ⟨12, by decide, Nat.le_refl _, n_astore_n A_401_12 [some (m_r 0), some (0, x1), some (m_r 281), some (3, 0)] (by decide) rfl fun hA => n_iconst hA fun hA => n_iret hA rfl hQ⟩
theorem A_402 : At 402 0 [some (.aload_n 3, 0, 0, 0, 0), some (.iconst 0, 0, 0, 0, 0), some (.aload_n 0, 0, 0, 0, 0), some (.iload_n 1, 0, 0, 0, 0), some (.iload_n 2, 0, 0, 0, 0), some (.invokevirtual 65, 157, 3, 1751, 2), none, none, some (.i2l, 0, 0, 0, 0), some (.lastore, 0, 0, 0, 0), some (.goto 7, 0, 0, 0, 0)] := At.of (by decide +kernel)
theorem A_402_17 : At 402 17 [some (.iconst 0, 0, 0, 0, 0), some (.ireturn, 0, 0, 0, 0)] := At.of (by decide +kernel)
theorem A_402_13 : At 402 13 [some (.astore 4, 0, 0, 0, 0), none, some (.iconst 1, 0, 0, 0, 0), some (.ireturn, 0, 0, 0, 0)] := At.of (by decide +kernel)
theorem w_402 {F : MF} {Q : Nat × List MV → MF → Prop} {R : Int → MF → Prop} {T : Nat → MF → Prop} {x1 x2 : Int} (h : C_157 x1 x2 F R T) (hy : ∀ r F1, St F1 → R r F1 → Q (0, [(0, 0)]) (m_up F1 281 (0 : Int).toNat r)) (ht : ∀ e F1, St F1 → T e F1 → (e = 0 ∧ Q (0, [(0, 1)]) F1)) :
    EvN 1 402 0 (m_ini (m_mls.getD 402 0) [m_r 0, (0, x1), (0, x2), m_r 281]) [] F Q := by
  rw [ml_402]
  show EvN 1 402 0 [some (m_r 0), some (0, x1), some (0, x2), some (m_r 281), none] [] F Q
  refine n_aload_n A_402 rfl (by decide) fun hA => n_iconst hA fun hA => n_aload_n hA rfl (by decide) fun hA => n_iload_n hA rfl fun hA => n_iload_n hA rfl fun hA => n_cvI [m_r 0, (0, x1), (0, x2)] [(0, 0), m_r 281] rfl rfl rfl ml_157 rfl rfl hg_157 hg_402 rfl hA (fun c s => by rw [ow_157]; exact m_recv_go (xs := [(0, x1), (0, x2)]) (r0 := [(0, 0), m_r 281]) rfl rfl kd_0) h (fun e F1 hS1 hT => ?_) (fun r1 F1 hS1 hR => n_i2l hA.tl3 fun hA => n_lastore hA kd_281 ⟨by decide, by decide⟩ fun hA => n_goto hA (t := 17) rfl <| n_iconst A_402_17 fun hA => n_iret hA rfl (hy r1 F1 hS1 hR))
  rcases ht e F1 hS1 hT with ⟨rfl, hQ⟩
  · exact ⟨13, by decide, Nat.le_refl _, n_astore A_402_13 [some (m_r 0), some (0, x1), some (0, x2), some (m_r 281), some (3, 0)] (by decide) rfl fun hA => n_iconst hA fun hA => n_iret hA rfl hQ⟩
theorem A_403 : At 403 0 [some (.aload_n 3, 0, 0, 0, 0), some (.iconst 0, 0, 0, 0, 0), some (.aload_n 0, 0, 0, 0, 0), some (.iload_n 1, 0, 0, 0, 0), some (.iload_n 2, 0, 0, 0, 0), some (.invokevirtual 68, 158, 3, 1762, 2), none, none, some (.i2l, 0, 0, 0, 0), some (.lastore, 0, 0, 0, 0), some (.goto 7, 0, 0, 0, 0)] := At.of (by decide +kernel)
theorem A_403_17 : At 403 17 [some (.iconst 0, 0, 0, 0, 0), some (.ireturn, 0, 0, 0, 0)] := At.of (by decide +kernel)
theorem A_403_13 : At 403 13 [some (.astore 4, 0, 0, 0, 0), none, some (.iconst 1, 0, 0, 0, 0), some (.ireturn, 0, 0, 0, 0)] := At.of (by decide +kernel)
theorem w_403 {F : MF} {Q : Nat × List MV → MF → Prop} {R : Int → MF → Prop} {T : Nat → MF → Prop} {x1 x2 : Int} (h : C_158 x1 x2 F R T) (hy : ∀ r F1, St F1 → R r F1 → Q (0, [(0, 0)]) (m_up F1 281 (0 : Int).toNat r)) (ht : ∀ e F1, St F1 → T e F1 → (e = 0 ∧ Q (0, [(0, 1)]) F1)) :
    EvN 1 403 0 (m_ini (m_mls.getD 403 0) [m_r 0, (0, x1), (0, x2), m_r 281]) [] F Q := by
  rw [ml_403]
  show EvN 1 403 0 [some (m_r 0), some (0, x1), some (0, x2), some (m_r 281), none] [] F Q
  refine n_aload_n A_403 rfl (by decide) fun hA => n_iconst hA fun hA => n_aload_n hA rfl (by decide) fun hA => n_iload_n hA rfl fun hA => n_iload_n hA rfl fun hA => n_cvI [m_r 0, (0, x1), (0, x2)] [(0, 0), m_r 281] rfl rfl rfl ml_158 rfl rfl hg_158 hg_403 rfl hA (fun c s => by rw [ow_158]; exact m_recv_go (xs := [(0, x1), (0, x2)]) (r0 := [(0, 0), m_r 281]) rfl rfl kd_0) h (fun e F1 hS1 hT => ?_) (fun r1 F1 hS1 hR => n_i2l hA.tl3 fun hA => n_lastore hA kd_281 ⟨by decide, by decide⟩ fun hA => n_goto hA (t := 17) rfl <| n_iconst A_403_17 fun hA => n_iret hA rfl (hy r1 F1 hS1 hR))
  rcases ht e F1 hS1 hT with ⟨rfl, hQ⟩
  · exact ⟨13, by decide, Nat.le_refl _, n_astore A_403_13 [some (m_r 0), some (0, x1), some (0, x2), some (m_r 281), some (3, 0)] (by decide) rfl fun hA => n_iconst hA fun hA => n_iret hA rfl hQ⟩
theorem A_404 : At 404 0 [some (.aload_n 2, 0, 0, 0, 0), some (.iconst 0, 0, 0, 0, 0), some (.aload_n 0, 0, 0, 0, 0), some (.iload_n 1, 0, 0, 0, 0), some (.invokevirtual 71, 159, 2, 1794, 2), none, none, some (.lastore, 0, 0, 0, 0), some (.goto 6, 0, 0, 0, 0)] := At.of (by decide +kernel)
theorem A_404_14 : At 404 14 [some (.iconst 0, 0, 0, 0, 0), some (.ireturn, 0, 0, 0, 0)] := At.of (by decide +kernel)
theorem A_404_11 : At 404 11 [some (.astore_n 3, 0, 0, 0, 0), some (.iconst 1, 0, 0, 0, 0), some (.ireturn, 0, 0, 0, 0)] := At.of (by decide +kernel)
theorem w_404 {F : MF} {Q : Nat × List MV → MF → Prop} {R : Int → MF → Prop} {T : Nat → MF → Prop} {x1 : Int} (h : C_159 x1 F R T) (hy : ∀ r F1, St F1 → R r F1 → Q (0, [(0, 0)]) (m_up F1 281 (0 : Int).toNat r)) (ht : ∀ e F1, St F1 → T e F1 → (e = 0 ∧ Q (0, [(0, 1)]) F1)) :
    EvN 1 404 0 (m_ini (m_mls.getD 404 0) [m_r 0, (0, x1), m_r 281]) [] F Q := by
  rw [ml_404]
  show EvN 1 404 0 [some (m_r 0), some (0, x1), some (m_r 281), none] [] F Q
  refine n_aload_n A_404 rfl (by decide) fun hA => n_iconst hA fun hA => n_aload_n hA rfl (by decide) fun hA => n_iload_n hA rfl fun hA => n_cvL [m_r 0, (0, x1)] [(0, 0), m_r 281] rfl rfl rfl ml_159 rfl rfl hg_159 hg_404 rfl hA (fun c s => by rw [ow_159]; exact m_recv_go (xs := [(0, x1)]) (r0 := [(0, 0), m_r 281]) rfl rfl kd_0) h (fun e F1 hS1 hT => ?_) (fun r1 F1 hS1 hR => n_lastore hA.tl3 kd_281 ⟨by decide, by decide⟩ fun hA => n_goto hA (t := 14) rfl <| n_iconst A_404_14 fun hA => n_iret hA rfl (hy r1 F1 hS1 hR))
  rcases ht e F1 hS1 hT with ⟨rfl, hQ⟩
  · exact ⟨11, by decide, Nat.le_refl _, n_astore_n A_404_11 [some (m_r 0), some (0, x1), some (m_r 281), some (3, 0)] (by decide) rfl fun hA => n_iconst hA fun hA => n_iret hA rfl hQ⟩
theorem A_405 : At 405 0 [some (.aload_n 3, 0, 0, 0, 0), some (.iconst 0, 0, 0, 0, 0), some (.aload_n 0, 0, 0, 0, 0), some (.iload_n 1, 0, 0, 0, 0), some (.iload_n 2, 0, 0, 0, 0), some (.invokevirtual 75, 160, 3, 1828, 2), none, none, some (.i2l, 0, 0, 0, 0), some (.lastore, 0, 0, 0, 0), some (.goto 7, 0, 0, 0, 0)] := At.of (by decide +kernel)
theorem A_405_17 : At 405 17 [some (.iconst 0, 0, 0, 0, 0), some (.ireturn, 0, 0, 0, 0)] := At.of (by decide +kernel)
theorem A_405_13 : At 405 13 [some (.astore 4, 0, 0, 0, 0), none, some (.iconst 1, 0, 0, 0, 0), some (.ireturn, 0, 0, 0, 0)] := At.of (by decide +kernel)
theorem w_405 {F : MF} {Q : Nat × List MV → MF → Prop} {R : Int → MF → Prop} {T : Nat → MF → Prop} {x1 x2 : Int} (h : C_160 x1 x2 F R T) (hy : ∀ r F1, St F1 → R r F1 → Q (0, [(0, 0)]) (m_up F1 281 (0 : Int).toNat r)) (ht : ∀ e F1, St F1 → T e F1 → (e = 0 ∧ Q (0, [(0, 1)]) F1)) :
    EvN 1 405 0 (m_ini (m_mls.getD 405 0) [m_r 0, (0, x1), (0, x2), m_r 281]) [] F Q := by
  rw [ml_405]
  show EvN 1 405 0 [some (m_r 0), some (0, x1), some (0, x2), some (m_r 281), none] [] F Q
  refine n_aload_n A_405 rfl (by decide) fun hA => n_iconst hA fun hA => n_aload_n hA rfl (by decide) fun hA => n_iload_n hA rfl fun hA => n_iload_n hA rfl fun hA => n_cvI [m_r 0, (0, x1), (0, x2)] [(0, 0), m_r 281] rfl rfl rfl ml_160 rfl rfl hg_160 hg_405 rfl hA (fun c s => by rw [ow_160]; exact m_recv_go (xs := [(0, x1), (0, x2)]) (r0 := [(0, 0), m_r 281]) rfl rfl kd_0) h (fun e F1 hS1 hT => ?_) (fun r1 F1 hS1 hR => n_i2l hA.tl3 fun hA => n_lastore hA kd_281 ⟨by decide, by decide⟩ fun hA => n_goto hA (t := 17) rfl <| n_iconst A_405_17 fun hA => n_iret hA rfl (hy r1 F1 hS1 hR))
  rcases ht e F1 hS1 hT with ⟨rfl, hQ⟩
  · exact ⟨13, by decide, Nat.le_refl _, n_astore A_405_13 [some (m_r 0), some (0, x1), some (0, x2), some (m_r 281), some (3, 0)] (by decide) rfl fun hA => n_iconst hA fun hA => n_iret hA rfl hQ⟩
theorem A_406 : At 406 0 [some (.aload_n 2, 0, 0, 0, 0), some (.iconst 0, 0, 0, 0, 0), some (.aload_n 0, 0, 0, 0, 0), some (.iload_n 1, 0, 0, 0, 0), some (.invokevirtual 78, 161, 2, 1855, 2), none, none, some (.i2l, 0, 0, 0, 0), some (.lastore, 0, 0, 0, 0), some (.goto 6, 0, 0, 0, 0)] := At.of (by decide +kernel)
theorem A_406_15 : At 406 15 [some (.iconst 0, 0, 0, 0, 0), some (.ireturn, 0, 0, 0, 0)] := At.of (by decide +kernel)
theorem A_406_12 : At 406 12 [some (.astore_n 3, 0, 0, 0, 0), some (.iconst 1, 0, 0, 0, 0), some (.ireturn, 0, 0, 0, 0)] := At.of (by decide +kernel)
theorem w_406 {F : MF} {Q : Nat × List MV → MF → Prop} {R : Int → MF → Prop} {T : Nat → MF → Prop} {x1 : Int} (h : C_161 x1 F R T) (hy : ∀ r F1, St F1 → R r F1 → Q (0, [(0, 0)]) (m_up F1 281 (0 : Int).toNat r)) (ht : ∀ e F1, St F1 → T e F1 → (e = 0 ∧ Q (0, [(0, 1)]) F1)) :
    EvN 1 406 0 (m_ini (m_mls.getD 406 0) [m_r 0, (0, x1), m_r 281]) [] F Q := by
  rw [ml_406]
  show EvN 1 406 0 [some (m_r 0), some (0, x1), some (m_r 281), none] [] F Q
  refine n_aload_n A_406 rfl (by decide) fun hA => n_iconst hA fun hA => n_aload_n hA rfl (by decide) fun hA => n_iload_n hA rfl fun hA => n_cvI [m_r 0, (0, x1)] [(0, 0), m_r 281] rfl rfl rfl ml_161 rfl rfl hg_161 hg_406 rfl hA (fun c s => by rw [ow_161]; exact m_recv_go (xs := [(0, x1)]) (r0 := [(0, 0), m_r 281]) rfl rfl kd_0) h (fun e F1 hS1 hT => ?_) (fun r1 F1 hS1 hR => n_i2l hA.tl3 fun hA => n_lastore hA kd_281 ⟨by decide, by decide⟩ fun hA => n_goto hA (t := 15) rfl <| n_iconst A_406_15 fun hA => n_iret hA rfl (hy r1 F1 hS1 hR))
  rcases ht e F1 hS1 hT with ⟨rfl, hQ⟩
  · exact ⟨12, by decide, Nat.le_refl _, n_astore_n A_406_12 [some (m_r 0), some (0, x1), some (m_r 281), some (3, 0)] (by decide) rfl fun hA => n_iconst hA fun hA => n_iret hA rfl hQ⟩
theorem A_407 : At 407 0 [some (.aload_n 3, 0, 0, 0, 0), some (.iconst 0, 0, 0, 0, 0), some (.aload_n 0, 0, 0, 0, 0), some (.iload_n 1, 0, 0, 0, 0), some (.iload_n 2, 0, 0, 0, 0), some (.invokevirtual 81, 162, 3, 1862, 2), none, none, some (.i2l, 0, 0, 0, 0), some (.lastore, 0, 0, 0, 0), some (.goto 7, 0, 0, 0, 0)] := At.of (by decide +kernel)
theorem A_407_17 : At 407 17 [some (.iconst 0, 0, 0, 0, 0), some (.ireturn, 0, 0, 0, 0)] := At.of (by decide +kernel)
theorem A_407_13 : At 407 13 [some (.astore 4, 0, 0, 0, 0), none, some (.iconst 1, 0, 0, 0, 0), some (.ireturn, 0, 0, 0, 0)] := At.of (by decide +kernel)
theorem w_407 {F : MF} {Q : Nat × List MV → MF → Prop} {R : Int → MF → Prop} {T : Nat → MF → Prop} {x1 x2 : Int} (h : C_162 x1 x2 F R T) (hy : ∀ r F1, St F1 → R r F1 → Q (0, [(0, 0)]) (m_up F1 281 (0 : Int).toNat r)) (ht : ∀ e F1, St F1 → T e F1 → (e = 0 ∧ Q (0, [(0, 1)]) F1)) :
    EvN 1 407 0 (m_ini (m_mls.getD 407 0) [m_r 0, (0, x1), (0, x2), m_r 281]) [] F Q := by
  rw [ml_407]
  show EvN 1 407 0 [some (m_r 0), some (0, x1), some (0, x2), some (m_r 281), none] [] F Q
  refine n_aload_n A_407 rfl (by decide) fun hA => n_iconst hA fun hA => n_aload_n hA rfl (by decide) fun hA => n_iload_n hA rfl fun hA => n_iload_n hA rfl fun hA => n_cvI [m_r 0, (0, x1), (0, x2)] [(0, 0), m_r 281] rfl rfl rfl ml_162 rfl rfl hg_162 hg_407 rfl hA (fun c s => by rw [ow_162]; exact m_recv_go (xs := [(0, x1), (0, x2)]) (r0 := [(0, 0), m_r 281]) rfl rfl kd_0) h (fun e F1 hS1 hT => ?_) (fun r1 F1 hS1 hR => n_i2l hA.tl3 fun hA => n_lastore hA kd_281 ⟨by decide, by decide⟩ fun hA => n_goto hA (t := 17) rfl <| n_iconst A_407_17 fun hA => n_iret hA rfl (hy r1 F1 hS1 hR))
  rcases ht e F1 hS1 hT with ⟨rfl, hQ⟩
  · exact ⟨13, by decide, Nat.le_refl _, n_astore A_407_13 [some (m_r 0), some (0, x1), some (0, x2), some (m_r 281), some (3, 0)] (by decide) rfl fun hA => n_iconst hA fun hA => n_iret hA rfl hQ⟩
theorem A_408 : At 408 0 [some (.aload_n 3, 0, 0, 0, 0), some (.iconst 0, 0, 0, 0, 0), some (.aload_n 0, 0, 0, 0, 0), some (.iload_n 1, 0, 0, 0, 0), some (.iload_n 2, 0, 0, 0, 0), some (.invokevirtual 84, 163, 3, 1873, 2), none, none, some (.i2l, 0, 0, 0, 0), some (.lastore, 0, 0, 0, 0), some (.goto 7, 0, 0, 0, 0)] := At.of (by decide +kernel)
theorem A_408_17 : At 408 17 [some (.iconst 0, 0, 0, 0, 0), some (.ireturn, 0, 0, 0, 0)] := At.of (by decide +kernel)
theorem A_408_13 : At 408 13 [some (.astore 4, 0, 0, 0, 0), none, some (.iconst 1, 0, 0, 0, 0), some (.ireturn, 0, 0, 0, 0)] := At.of (by decide +kernel)
theorem w_408 {F : MF} {Q : Nat × List MV → MF → Prop} {R : Int → MF → Prop} {T : Nat → MF → Prop} {x1 x2 : Int} (h : C_163 x1 x2 F R T) (hy : ∀ r F1, St F1 → R r F1 → Q (0, [(0, 0)]) (m_up F1 281 (0 : Int).toNat r)) (ht : ∀ e F1, St F1 → T e F1 → (e = 0 ∧ Q (0, [(0, 1)]) F1)) :
    EvN 1 408 0 (m_ini (m_mls.getD 408 0) [m_r 0, (0, x1), (0, x2), m_r 281]) [] F Q := by
  rw [ml_408]
  show EvN 1 408 0 [some (m_r 0), some (0, x1), some (0, x2), some (m_r 281), none] [] F Q
  refine n_aload_n A_408 rfl (by decide) fun hA => n_iconst hA fun hA => n_aload_n hA rfl (by decide) fun hA => n_iload_n hA rfl fun hA => n_iload_n hA rfl fun hA => n_cvI [m_r 0, (0, x1), (0, x2)] [(0, 0), m_r 281] rfl rfl rfl ml_163 rfl rfl hg_163 hg_408 rfl hA (fun c s => by rw [ow_163]; exact m_recv_go (xs := [(0, x1), (0, x2)]) (r0 := [(0, 0), m_r 281]) rfl rfl kd_0) h (fun e F1 hS1 hT => ?_) (fun r1 F1 hS1 hR => n_i2l hA.tl3 fun hA => n_lastore hA kd_281 ⟨by decide, by decide⟩ fun hA => n_goto hA (t := 17) rfl <| n_iconst A_408_17 fun hA => n_iret hA rfl (hy r1 F1 hS1 hR))
  rcases ht e F1 hS1 hT with ⟨rfl, hQ⟩
  · exact ⟨13, by decide, Nat.le_refl _, n_astore A_408_13 [some (m_r 0), some (0, x1), some (0, x2), some (m_r 281), some (3, 0)] (by decide) rfl fun hA => n_iconst hA fun hA => n_iret hA rfl hQ⟩
theorem A_409 : At 409 0 [some (.aload_n 3, 0, 0, 0, 0), some (.iconst 0, 0, 0, 0, 0), some (.aload_n 0, 0, 0, 0, 0), some (.iload_n 1, 0, 0, 0, 0), some (.iload_n 2, 0, 0, 0, 0), some (.invokevirtual 87, 164, 3, 1883, 2), none, none, some (.i2l, 0, 0, 0, 0), some (.lastore, 0, 0, 0, 0), some (.goto 7, 0, 0, 0, 0)] := At.of (by decide +kernel)
theorem A_409_17 : At 409 17 [some (.iconst 0, 0, 0, 0, 0), some (.ireturn, 0, 0, 0, 0)] := At.of (by decide +kernel)
theorem A_409_13 : At 409 13 [some (.astore 4, 0, 0, 0, 0), none, some (.iconst 1, 0, 0, 0, 0), some (.ireturn, 0, 0, 0, 0)] := At.of (by decide +kernel)
theorem w_409 {F : MF} {Q : Nat × List MV → MF → Prop} {R : Int → MF → Prop} {T : Nat → MF → Prop} {x1 x2 : Int} (h : C_164 x1 x2 F R T) (hy : ∀ r F1, St F1 → R r F1 → Q (0, [(0, 0)]) (m_up F1 281 (0 : Int).toNat r)) (ht : ∀ e F1, St F1 → T e F1 → (e = 0 ∧ Q (0, [(0, 1)]) F1)) :
    EvN 1 409 0 (m_ini (m_mls.getD 409 0) [m_r 0, (0, x1), (0, x2), m_r 281]) [] F Q := by
  rw [ml_409]
  show EvN 1 409 0 [some (m_r 0), some (0, x1), some (0, x2), some (m_r 281), none] [] F Q
  refine n_aload_n A_409 rfl (by decide) fun hA => n_iconst hA fun hA => n_aload_n hA rfl (by decide) fun hA => n_iload_n hA rfl fun hA => n_iload_n hA rfl fun hA => n_cvI [m_r 0, (0, x1), (0, x2)] [(0, 0), m_r 281] rfl rfl rfl ml_164 rfl rfl hg_164 hg_409 rfl hA (fun c s => by rw [ow_164]; exact m_recv_go (xs := [(0, x1), (0, x2)]) (r0 := [(0, 0), m_r 281]) rfl rfl kd_0) h (fun e F1 hS1 hT => ?_) (fun r1 F1 hS1 hR => n_i2l hA.tl3 fun hA => n_lastore hA kd_281 ⟨by decide, by decide⟩ fun hA => n_goto hA (t := 17) rfl <| n_iconst A_409_17 fun hA => n_iret hA rfl (hy r1 F1 hS1 hR))
  rcases ht e F1 hS1 hT with ⟨rfl, hQ⟩
  · exact ⟨13, by decide, Nat.le_refl _, n_astore A_409_13 [some (m_r 0), some (0, x1), some (0, x2), some (m_r 281), some (3, 0)] (by decide) rfl fun hA => n_iconst hA fun hA => n_iret hA rfl hQ⟩
theorem A_410 : At 410 0 [some (.aload_n 3, 0, 0, 0, 0), some (.iconst 0, 0, 0, 0, 0), some (.aload_n 0, 0, 0, 0, 0), some (.iload_n 1, 0, 0, 0, 0), some (.iload_n 2, 0, 0, 0, 0), some (.invokevirtual 90, 165, 3, 1890, 2), none, none, some (.i2l, 0, 0, 0, 0), some (.lastore, 0, 0, 0, 0), some (.goto 7, 0, 0, 0, 0)] := At.of (by decide +kernel)
theorem A_410_17 : At 410 17 [some (.iconst 0, 0, 0, 0, 0), some (.ireturn, 0, 0, 0, 0)] := At.of (by decide +kernel)
theorem A_410_13 : At 410 13 [some (.astore 4, 0, 0, 0, 0), none, some (.iconst 1, 0, 0, 0, 0), some (.ireturn, 0, 0, 0, 0)] := At.of (by decide +kernel)
theorem w_410 {F : MF} {Q : Nat × List MV → MF → Prop} {R : Int → MF → Prop} {T : Nat → MF → Prop} {x1 x2 : Int} (h : C_165 x1 x2 F R T) (hy : ∀ r F1, St F1 → R r F1 → Q (0, [(0, 0)]) (m_up F1 281 (0 : Int).toNat r)) (ht : ∀ e F1, St F1 → T e F1 → (e = 0 ∧ Q (0, [(0, 1)]) F1)) :
    EvN 1 410 0 (m_ini (m_mls.getD 410 0) [m_r 0, (0, x1), (0, x2), m_r 281]) [] F Q := by
  rw [ml_410]
  show EvN 1 410 0 [some (m_r 0), some (0, x1), some (0, x2), some (m_r 281), none] [] F Q
  refine n_aload_n A_410 rfl (by decide) fun hA => n_iconst hA fun hA => n_aload_n hA rfl (by decide) fun hA => n_iload_n hA rfl fun hA => n_iload_n hA rfl fun hA => n_cvI [m_r 0, (0, x1), (0, x2)] [(0, 0), m_r 281] rfl rfl rfl ml_165 rfl rfl hg_165 hg_410 rfl hA (fun c s => by rw [ow_165]; exact m_recv_go (xs := [(0, x1), (0, x2)]) (r0 := [(0, 0), m_r 281]) rfl rfl kd_0) h (fun e F1 hS1 hT => ?_) (fun r1 F1 hS1 hR => n_i2l hA.tl3 fun hA => n_lastore hA kd_281 ⟨by decide, by decide⟩ fun hA => n_goto hA (t := 17) rfl <| n_iconst A_410_17 fun hA => n_iret hA rfl (hy r1 F1 hS1 hR))
  rcases ht e F1 hS1 hT with ⟨rfl, hQ⟩
  · exact ⟨13, by decide, Nat.le_refl _, n_astore A_410_13 [some (m_r 0), some (0, x1), some (0, x2), some (m_r 281), some (3, 0)] (by decide) rfl fun hA => n_iconst hA fun hA => n_iret hA rfl hQ⟩
theorem A_411 : At 411 0 [some (.aload_n 2, 0, 0, 0, 0), some (.iconst 0, 0, 0, 0, 0), some (.aload_n 0, 0, 0, 0, 0), some (.iload_n 1, 0, 0, 0, 0), some (.invokevirtual 93, 167, 2, 1901, 2), none, none, some (.i2l, 0, 0, 0, 0), some (.lastore, 0, 0, 0, 0), some (.goto 6, 0, 0, 0, 0)] := At.of (by decide +kernel)
theorem A_411_15 : At 411 15 [some (.iconst 0, 0, 0, 0, 0), some (.ireturn, 0, 0, 0, 0)] := At.of (by decide +kernel)
theorem A_411_12 : At 411 12 [some (.astore_n 3, 0, 0, 0, 0), some (.iconst 1, 0, 0, 0, 0), some (.ireturn, 0, 0, 0, 0)] := At.of (by decide +kernel)
theorem w_411 {F : MF} {Q : Nat × List MV → MF → Prop} {R : Int → MF → Prop} {T : Nat → MF → Prop} {x1 : Int} (h : C_167 x1 F R T) (hy : ∀ r F1, St F1 → R r F1 → Q (0, [(0, 0)]) (m_up F1 281 (0 : Int).toNat r)) (ht : ∀ e F1, St F1 → T e F1 → (e = 0 ∧ Q (0, [(0, 1)]) F1)) :
    EvN 1 411 0 (m_ini (m_mls.getD 411 0) [m_r 0, (0, x1), m_r 281]) [] F Q := by
  rw [ml_411]
  show EvN 1 411 0 [some (m_r 0), some (0, x1), some (m_r 281), none] [] F Q
  refine n_aload_n A_411 rfl (by decide) fun hA => n_iconst hA fun hA => n_aload_n hA rfl (by decide) fun hA => n_iload_n hA rfl fun hA => n_cvI [m_r 0, (0, x1)] [(0, 0), m_r 281] rfl rfl rfl ml_167 rfl rfl hg_167 hg_411 rfl hA (fun c s => by rw [ow_167]; exact m_recv_go (xs := [(0, x1)]) (r0 := [(0, 0), m_r 281]) rfl rfl kd_0) h (fun e F1 hS1 hT => ?_) (fun r1 F1 hS1 hR => n_i2l hA.tl3 fun hA => n_lastore hA kd_281 ⟨by decide, by decide⟩ fun hA => n_goto hA (t := 15) rfl <| n_iconst A_411_15 fun hA => n_iret hA rfl (hy r1 F1 hS1 hR))
  rcases ht e F1 hS1 hT with ⟨rfl, hQ⟩
  · exact ⟨12, by decide, Nat.le_refl _, n_astore_n A_411_12 [some (m_r 0), some (0, x1), some (m_r 281), some (3, 0)] (by decide) rfl fun hA => n_iconst hA fun hA => n_iret hA rfl hQ⟩
theorem A_412 : At 412 0 [some (.aload_n 2, 0, 0, 0, 0), some (.iconst 0, 0, 0, 0, 0), some (.aload_n 0, 0, 0, 0, 0), some (.iload_n 1, 0, 0, 0, 0), some (.invokevirtual 96, 168, 2, 1908, 2), none, none, some (.i2l, 0, 0, 0, 0), some (.lastore, 0, 0, 0, 0), some (.goto 9, 0, 0, 0, 0)] := At.of (by decide +kernel)
theorem A_412_18 : At 412 18 [some (.iconst 0, 0, 0, 0, 0), some (.ireturn, 0, 0, 0, 0)] := At.of (by decide +kernel)
theorem A_412_12 : At 412 12 [some (.astore_n 3, 0, 0, 0, 0), some (.iconst 1, 0, 0, 0, 0), some (.ireturn, 0, 0, 0, 0)] := At.of (by decide +kernel)
theorem A_412_15 : At 412 15 [some (.astore_n 3, 0, 0, 0, 0), some (.iconst 2, 0, 0, 0, 0), some (.ireturn, 0, 0, 0, 0)] := At.of (by decide +kernel)
theorem w_412 {F : MF} {Q : Nat × List MV → MF → Prop} {R : Int → MF → Prop} {T : Nat → MF → Prop} {x1 : Int} (h : C_168 x1 F R T) (hy : ∀ r F1, St F1 → R r F1 → Q (0, [(0, 0)]) (m_up F1 281 (0 : Int).toNat r)) (ht : ∀ e F1, St F1 → T e F1 → (e = 1 ∧ Q (0, [(0, 1)]) F1) ∨ (e = 2 ∧ Q (0, [(0, 2)]) F1)) :
    EvN 1 412 0 (m_ini (m_mls.getD 412 0) [m_r 0, (0, x1), m_r 281]) [] F Q := by
  rw [ml_412]
  show EvN 1 412 0 [some (m_r 0), some (0, x1), some (m_r 281), none] [] F Q
  refine n_aload_n A_412 rfl (by decide) fun hA => n_iconst hA fun hA => n_aload_n hA rfl (by decide) fun hA => n_iload_n hA rfl fun hA => n_cvI [m_r 0, (0, x1)] [(0, 0), m_r 281] rfl rfl rfl ml_168 rfl rfl hg_168 hg_412 rfl hA (fun c s => by rw [ow_168]; exact m_recv_go (xs := [(0, x1)]) (r0 := [(0, 0), m_r 281]) rfl rfl kd_0) h (fun e F1 hS1 hT => ?_) (fun r1 F1 hS1 hR => n_i2l hA.tl3 fun hA => n_lastore hA kd_281 ⟨by decide, by decide⟩ fun hA => n_goto hA (t := 18) rfl <| n_iconst A_412_18 fun hA => n_iret hA rfl (hy r1 F1 hS1 hR))
  rcases ht e F1 hS1 hT with ⟨rfl, hQ⟩ | ⟨rfl, hQ⟩
  · exact ⟨12, by decide, Nat.le_refl _, n_astore_n A_412_12 [some (m_r 0), some (0, x1), some (m_r 281), some (3, 0)] (by decide) rfl fun hA => n_iconst hA fun hA => n_iret hA rfl hQ⟩
  · exact ⟨15, by decide, Nat.le_refl _, n_astore_n A_412_15 [some (m_r 0), some (0, x1), some (m_r 281), some (3, 0)] (by decide) rfl fun hA => n_iconst hA fun hA => n_iret hA rfl hQ⟩
theorem A_413 : At 413 0 [some (.aload_n 3, 0, 0, 0, 0), some (.iconst 0, 0, 0, 0, 0), some (.aload_n 0, 0, 0, 0, 0), some (.iload_n 1, 0, 0, 0, 0), some (.iload_n 2, 0, 0, 0, 0), some (.invokevirtual 100, 170, 3, 1915, 2), none, none, some (.i2l, 0, 0, 0, 0), some (.lastore, 0, 0, 0, 0), some (.goto 7, 0, 0, 0, 0)] := At.of (by decide +kernel)
theorem A_413_17 : At 413 17 [some (.iconst 0, 0, 0, 0, 0), some (.ireturn, 0, 0, 0, 0)] := At.of (by decide +kernel)
theorem A_413_13 : At 413 13 [some (.astore 4, 0, 0, 0, 0), none, some (.iconst 1, 0, 0, 0, 0), some (.ireturn, 0, 0, 0, 0)] := At.of (by decide +kernel)
theorem w_413 {F : MF} {Q : Nat × List MV → MF → Prop} {R : Int → MF → Prop} {T : Nat → MF → Prop} {x1 x2 : Int} (h : C_170 x1 x2 F R T) (hy : ∀ r F1, St F1 → R r F1 → Q (0, [(0, 0)]) (m_up F1 281 (0 : Int).toNat r)) (ht : ∀ e F1, St F1 → T e F1 → (e = 0 ∧ Q (0, [(0, 1)]) F1)) :
    EvN 1 413 0 (m_ini (m_mls.getD 413 0) [m_r 0, (0, x1), (0, x2), m_r 281]) [] F Q := by
  rw [ml_413]
  show EvN 1 413 0 [some (m_r 0), some (0, x1), some (0, x2), some (m_r 281), none] [] F Q
  refine n_aload_n A_413 rfl (by decide) fun hA => n_iconst hA fun hA => n_aload_n hA rfl (by decide) fun hA => n_iload_n hA rfl fun hA => n_iload_n hA rfl fun hA => n_cvI [m_r 0, (0, x1), (0, x2)] [(0, 0), m_r 281] rfl rfl rfl ml_170 rfl rfl hg_170 hg_413 rfl hA (fun c s => by rw [ow_170]; exact m_recv_go (xs := [(0, x1), (0, x2)]) (r0 := [(0, 0), m_r 281]) rfl rfl kd_0) h (fun e F1 hS1 hT => ?_) (fun r1 F1 hS1 hR => n_i2l hA.tl3 fun hA => n_lastore hA kd_281 ⟨by decide, by decide⟩ fun hA => n_goto hA (t := 17) rfl <| n_iconst A_413_17 fun hA => n_iret hA rfl (hy r1 F1 hS1 hR))
  rcases ht e F1 hS1 hT with ⟨rfl, hQ⟩
  · exact ⟨13, by decide, Nat.le_refl _, n_astore A_413_13 [some (m_r 0), some (0, x1), some (0, x2), some (m_r 281), some (3, 0)] (by decide) rfl fun hA => n_iconst hA fun hA => n_iret hA rfl hQ⟩
theorem A_414 : At 414 0 [some (.aload 4, 0, 0, 0, 0), none, some (.iconst 0, 0, 0, 0, 0), some (.aload_n 0, 0, 0, 0, 0), some (.iload_n 1, 0, 0, 0, 0), some (.iload_n 2, 0, 0, 0, 0), some (.iload_n 3, 0, 0, 0, 0), some (.invokevirtual 103, 171, 4, 1958, 2), none, none, some (.i2l, 0, 0, 0, 0), some (.lastore, 0, 0, 0, 0), some (.goto 7, 0, 0, 0, 0)] := At.of (by decide +kernel)
theorem A_414_19 : At 414 19 [some (.iconst 0, 0, 0, 0, 0), some (.ireturn, 0, 0, 0, 0)] := At.of (by decide +kernel)
theorem A_414_15 : At 414 15 [some (.astore 5, 0, 0, 0, 0), none, some (.iconst 1, 0, 0, 0, 0), some (.ireturn, 0, 0, 0, 0)] := At.of (by decide +kernel)
theorem w_414 {F : MF} {Q : Nat × List MV → MF → Prop} {R : Int → MF → Prop} {T : Nat → MF → Prop} {x1 x2 x3 : Int} (h : C_171 x1 x2 x3 F R T) (hy : ∀ r F1, St F1 → R r F1 → Q (0, [(0, 0)]) (m_up F1 281 (0 : Int).toNat r)) (ht : ∀ e F1, St F1 → T e F1 → (e = 0 ∧ Q (0, [(0, 1)]) F1)) :
    EvN 1 414 0 (m_ini (m_mls.getD 414 0) [m_r 0, (0, x1), (0, x2), (0, x3), m_r 281]) [] F Q := by
  rw [ml_414]
  show EvN 1 414 0 [some (m_r 0), some (0, x1), some (0, x2), some (0, x3), some (m_r 281), none] [] F Q
  refine n_aload A_414 rfl (by decide) fun hA => n_iconst hA fun hA => n_aload_n hA rfl (by decide) fun hA => n_iload_n hA rfl fun hA => n_iload_n hA rfl fun hA => n_iload_n hA rfl fun hA => n_cvI [m_r 0, (0, x1), (0, x2), (0, x3)] [(0, 0), m_r 281] rfl rfl rfl ml_171 rfl rfl hg_171 hg_414 rfl hA (fun c s => by rw [ow_171]; exact m_recv_go (xs := [(0, x1), (0, x2), (0, x3)]) (r0 := [(0, 0), m_r 281]) rfl rfl kd_0) h (fun e F1 hS1 hT => ?_) (fun r1 F1 hS1 hR => n_i2l hA.tl3 fun hA => n_lastore hA kd_281 ⟨by decide, by decide⟩ fun hA => n_goto hA (t := 19) rfl <| n_iconst A_414_19 fun hA => n_iret hA rfl (hy r1 F1 hS1 hR))
  rcases ht e F1 hS1 hT with ⟨rfl, hQ⟩
  · exact ⟨15, by decide, Nat.le_refl _, n_astore A_414_15 [some (m_r 0), some (0, x1), some (0, x2), some (0, x3), some (m_r 281), some (3, 0)] (by decide) rfl fun hA => n_iconst hA fun hA => n_iret hA rfl hQ⟩
theorem A_415 : At 415 0 [some (.aload_n 3, 0, 0, 0, 0), some (.iconst 0, 0, 0, 0, 0), some (.aload_n 0, 0, 0, 0, 0), some (.iload_n 1, 0, 0, 0, 0), some (.iload_n 2, 0, 0, 0, 0), some (.invokevirtual 106, 172, 3, 1965, 2), none, none, some (.i2l, 0, 0, 0, 0), some (.lastore, 0, 0, 0, 0), some (.goto 11, 0, 0, 0, 0)] := At.of (by decide +kernel)
theorem A_415_21 : At 415 21 [some (.iconst 0, 0, 0, 0, 0), some (.ireturn, 0, 0, 0, 0)] := At.of (by decide +kernel)
theorem A_415_13 : At 415 13 [some (.astore 4, 0, 0, 0, 0), none, some (.iconst 1, 0, 0, 0, 0), some (.ireturn, 0, 0, 0, 0)] := At.of (by decide +kernel)
theorem A_415_17 : At 415 17 [some (.astore 4, 0, 0, 0, 0), none, some (.iconst 2, 0, 0, 0, 0), some (.ireturn, 0, 0, 0, 0)] := At.of (by decide +kernel)
theorem w_415 {F : MF} {Q : Nat × List MV → MF → Prop} {R : Int → MF → Prop} {T : Nat → MF → Prop} {x1 x2 : Int} (h : C_172 x1 x2 F R T) (hy : ∀ r F1, St F1 → R r F1 → Q (0, [(0, 0)]) (m_up F1 281 (0 : Int).toNat r)) (ht : ∀ e F1, St F1 → T e F1 → (e = 0 ∧ Q (0, [(0, 1)]) F1) ∨ (e = 2 ∧ Q (0, [(0, 2)]) F1)) :
    EvN 1 415 0 (m_ini (m_mls.getD 415 0) [m_r 0, (0, x1), (0, x2), m_r 281]) [] F Q := by
  rw [ml_415]
  show EvN 1 415 0 [some (m_r 0), some (0, x1), some (0, x2), some (m_r 281), none] [] F Q
  refine n_aload_n A_415 rfl (by decide) fun hA => n_iconst hA fun hA => n_aload_n hA rfl (by decide) fun hA => n_iload_n hA rfl fun hA => n_iload_n hA rfl fun hA => n_cvI [m_r 0, (0, x1), (0, x2)] [(0, 0), m_r 281] rfl rfl rfl ml_172 rfl rfl hg_172 hg_415 rfl hA (fun c s => by rw [ow_172]; exact m_recv_go (xs := [(0, x1), (0, x2)]) (r0 := [(0, 0), m_r 281]) rfl rfl kd_0) h (fun e F1 hS1 hT => ?_) (fun r1 F1 hS1 hR => n_i2l hA.tl3 fun hA => n_lastore hA kd_281 ⟨by decide, by decide⟩ fun hA => n_goto hA (t := 21) rfl <| n_iconst A_415_21 fun hA => n_iret hA rfl (hy r1 F1 hS1 hR))
  rcases ht e F1 hS1 hT with ⟨rfl, hQ⟩ | ⟨rfl, hQ⟩
  · exact ⟨13, by decide, Nat.le_refl _, n_astore A_415_13 [some (m_r 0), some (0, x1), some (0, x2), some (m_r 281), some (3, 0)] (by decide) rfl fun hA => n_iconst hA fun hA => n_iret hA rfl hQ⟩
  · exact ⟨17, by decide, Nat.le_refl _, n_astore A_415_17 [some (m_r 0), some (0, x1), some (0, x2), some (m_r 281), some (3, 0)] (by decide) rfl fun hA => n_iconst hA fun hA => n_iret hA rfl hQ⟩
theorem A_416 : At 416 0 [some (.aload_n 3, 0, 0, 0, 0), some (.iconst 0, 0, 0, 0, 0), some (.aload_n 0, 0, 0, 0, 0), some (.iload_n 1, 0, 0, 0, 0), some (.iload_n 2, 0, 0, 0, 0), some (.invokevirtual 109, 173, 3, 1984, 2), none, none, some (.i2l, 0, 0, 0, 0), some (.lastore, 0, 0, 0, 0), some (.goto 11, 0, 0, 0, 0)] := At.of (by decide +kernel)
theorem A_416_21 : At 416 21 [some (.iconst 0, 0, 0, 0, 0), some (.ireturn, 0, 0, 0, 0)] := At.of (by decide +kernel)
theorem A_416_13 : At 416 13 [some (.astore 4, 0, 0, 0, 0), none, some (.iconst 1, 0, 0, 0, 0), some (.ireturn, 0, 0, 0, 0)] := At.of (by decide +kernel)
theorem A_416_17 : At 416 17 [some (.astore 4, 0, 0, 0, 0), none, some (.iconst 2, 0, 0, 0, 0), some (.ireturn, 0, 0, 0, 0)] := At.of (by decide +kernel)
theorem w_416 {F : MF} {Q : Nat × List MV → MF → Prop} {R : Int → MF → Prop} {T : Nat → MF → Prop} {x1 x2 : Int} (h : C_173 x1 x2 F R T) (hy : ∀ r F1, St F1 → R r F1 → Q (0, [(0, 0)]) (m_up F1 281 (0 : Int).toNat r)) (ht : ∀ e F1, St F1 → T e F1 → (e = 0 ∧ Q (0, [(0, 1)]) F1) ∨ (e = 2 ∧ Q (0, [(0, 2)]) F1)) :
    EvN 1 416 0 (m_ini (m_mls.getD 416 0) [m_r 0, (0, x1), (0, x2), m_r 281]) [] F Q := by
  rw [ml_416]
  show EvN 1 416 0 [some (m_r 0), some (0, x1), some (0, x2), some (m_r 281), none] [] F Q
  refine n_aload_n A_416 rfl (by decide) fun hA => n_iconst hA fun hA => n_aload_n hA rfl (by decide) fun hA => n_iload_n hA rfl fun hA => n_iload_n hA rfl fun hA => n_cvI [m_r 0, (0, x1), (0, x2)] [(0, 0), m_r 281] rfl rfl rfl ml_173 rfl rfl hg_173 hg_416 rfl hA (fun c s => by rw [ow_173]; exact m_recv_go (xs := [(0, x1), (0, x2)]) (r0 := [(0, 0), m_r 281]) rfl rfl kd_0) h (fun e F1 hS1 hT => ?_) (fun r1 F1 hS1 hR => n_i2l hA.tl3 fun hA => n_lastore hA kd_281 ⟨by decide, by decide⟩ fun hA => n_goto hA (t := 21) rfl <| n_iconst A_416_21 fun hA => n_iret hA rfl (hy r1 F1 hS1 hR))
  rcases ht e F1 hS1 hT with ⟨rfl, hQ⟩ | ⟨rfl, hQ⟩
  · exact ⟨13, by decide, Nat.le_refl _, n_astore A_416_13 [some (m_r 0), some (0, x1), some (0, x2), some (m_r 281), some (3, 0)] (by decide) rfl fun hA => n_iconst hA fun hA => n_iret hA rfl hQ⟩
  · exact ⟨17, by decide, Nat.le_refl _, n_astore A_416_17 [some (m_r 0), some (0, x1), some (0, x2), some (m_r 281), some (3, 0)] (by decide) rfl fun hA => n_iconst hA fun hA => n_iret hA rfl hQ⟩
theorem A_417 : At 417 0 [some (.aload 4, 0, 0, 0, 0), none, some (.iconst 0, 0, 0, 0, 0), some (.aload_n 0, 0, 0, 0, 0), some (.iload_n 1, 0, 0, 0, 0), some (.iload_n 2, 0, 0, 0, 0), some (.iload_n 3, 0, 0, 0, 0), some (.invokevirtual 112, 174, 4, 1995, 2), none, none, some (.i2l, 0, 0, 0, 0), some (.lastore, 0, 0, 0, 0), some (.goto 15, 0, 0, 0, 0)] := At.of (by decide +kernel)
theorem A_417_27 : At 417 27 [some (.iconst 0, 0, 0, 0, 0), some (.ireturn, 0, 0, 0, 0)] := At.of (by decide +kernel)
theorem A_417_15 : At 417 15 [some (.astore 5, 0, 0, 0, 0), none, some (.iconst 1, 0, 0, 0, 0), some (.ireturn, 0, 0, 0, 0)] := At.of (by decide +kernel)
theorem A_417_19 : At 417 19 [some (.astore 5, 0, 0, 0, 0), none, some (.iconst 2, 0, 0, 0, 0), some (.ireturn, 0, 0, 0, 0)] := At.of (by decide +kernel)
theorem A_417_23 : At 417 23 [some (.astore 5, 0, 0, 0, 0), none, some (.iconst 3, 0, 0, 0, 0), some (.ireturn, 0, 0, 0, 0)] := At.of (by decide +kernel)
theorem w_417 {F : MF} {Q : Nat × List MV → MF → Prop} {R : Int → MF → Prop} {T : Nat → MF → Prop} {x1 x2 x3 : Int} (h : C_174 x1 x2 x3 F R T) (hy : ∀ r F1, St F1 → R r F1 → Q (0, [(0, 0)]) (m_up F1 281 (0 : Int).toNat r)) (ht : ∀ e F1, St F1 → T e F1 → (e = 0 ∧ Q (0, [(0, 1)]) F1) ∨ (e = 1 ∧ Q (0, [(0, 2)]) F1) ∨ (e = 2 ∧ Q (0, [(0, 3)]) F1)) :
    EvN 1 417 0 (m_ini (m_mls.getD 417 0) [m_r 0, (0, x1), (0, x2), (0, x3), m_r 281]) [] F Q := by
  rw [ml_417]
  show EvN 1 417 0 [some (m_r 0), some (0, x1), some (0, x2), some (0, x3), some (m_r 281), none] [] F Q
  refine n_aload A_417 rfl (by decide) fun hA => n_iconst hA fun hA => n_aload_n hA rfl (by decide) fun hA => n_iload_n hA rfl fun hA => n_iload_n hA rfl fun hA => n_iload_n hA rfl fun hA => n_cvI [m_r 0, (0, x1), (0, x2), (0, x3)] [(0, 0), m_r 281] rfl rfl rfl ml_174 rfl rfl hg_174 hg_417 rfl hA (fun c s => by rw [ow_174]; exact m_recv_go (xs := [(0, x1), (0, x2), (0, x3)]) (r0 := [(0, 0), m_r 281]) rfl rfl kd_0) h (fun e F1 hS1 hT => ?_) (fun r1 F1 hS1 hR => n_i2l hA.tl3 fun hA => n_lastore hA kd_281 ⟨by decide, by decide⟩ fun hA => n_goto hA (t := 27) rfl <| n_iconst A_417_27 fun hA => n_iret hA rfl (hy r1 F1 hS1 hR))
  rcases ht e F1 hS1 hT with ⟨rfl, hQ⟩ | ⟨rfl, hQ⟩ | ⟨rfl, hQ⟩
  · exact ⟨15, by decide, Nat.le_refl _, n_astore A_417_15 [some (m_r 0), some (0, x1), some (0, x2), some (0, x3), some (m_r 281), some (3, 0)] (by decide) rfl fun hA => n_iconst hA fun hA => n_iret hA rfl hQ⟩
  · exact ⟨19, by decide, Nat.le_refl _, n_astore A_417_19 [some (m_r 0), some (0, x1), some (0, x2), some (0, x3), some (m_r 281), some (3, 0)] (by decide) rfl fun hA => n_iconst hA fun hA => n_iret hA rfl hQ⟩
  · exact ⟨23, by decide, Nat.le_refl _, n_astore A_417_23 [some (m_r 0), some (0, x1), some (0, x2), some (0, x3), some (m_r 281), some (3, 0)] (by decide) rfl fun hA => n_iconst hA fun hA => n_iret hA rfl hQ⟩
theorem A_418 : At 418 0 [some (.aload_n 1, 0, 0, 0, 0), some (.iconst 0, 0, 0, 0, 0), some (.aload_n 0, 0, 0, 0, 0), some (.invokevirtual 115, 177, 1, 2006, 2), none, none, some (.i2l, 0, 0, 0, 0), some (.lastore, 0, 0, 0, 0), some (.goto 6, 0, 0, 0, 0)] := At.of (by decide +kernel)
theorem A_418_14 : At 418 14 [some (.iconst 0, 0, 0, 0, 0), some (.ireturn, 0, 0, 0, 0)] := At.of (by decide +kernel)
theorem A_418_11 : At 418 11 [some (.astore_n 2, 0, 0, 0, 0), some (.iconst 1, 0, 0, 0, 0), some (.ireturn, 0, 0, 0, 0)] := At.of (by decide +kernel)
theorem w_418 {F : MF} {Q : Nat × List MV → MF → Prop} {R : Int → MF → Prop} {T : Nat → MF → Prop}  (h : C_177  F R T) (hy : ∀ r F1, St F1 → R r F1 → Q (0, [(0, 0)]) (m_up F1 281 (0 : Int).toNat r)) (ht : ∀ e F1, St F1 → T e F1 → (e = 2 ∧ Q (0, [(0, 1)]) F1)) :
    EvN 1 418 0 (m_ini (m_mls.getD 418 0) [m_r 0, m_r 281]) [] F Q := by
  rw [ml_418]
  show EvN 1 418 0 [some (m_r 0), some (m_r 281), none] [] F Q
  refine n_aload_n A_418 rfl (by decide) fun hA => n_iconst hA fun hA => n_aload_n hA rfl (by decide) fun hA => n_cvI [m_r 0] [(0, 0), m_r 281] rfl rfl rfl ml_177 rfl rfl hg_177 hg_418 rfl hA (fun c s => by rw [ow_177]; exact m_recv_go (xs := []) (r0 := [(0, 0), m_r 281]) rfl rfl kd_0) h (fun e F1 hS1 hT => ?_) (fun r1 F1 hS1 hR => n_i2l hA.tl3 fun hA => n_lastore hA kd_281 ⟨by decide, by decide⟩ fun hA => n_goto hA (t := 14) rfl <| n_iconst A_418_14 fun hA => n_iret hA rfl (hy r1 F1 hS1 hR))
  rcases ht e F1 hS1 hT with ⟨rfl, hQ⟩
  · exact ⟨11, by decide, Nat.le_refl _, n_astore_n A_418_11 [some (m_r 0), some (m_r 281), some (3, 0)] (by decide) rfl fun hA => n_iconst hA fun hA => n_iret hA rfl hQ⟩
theorem A_419 : At 419 0 [some (.aload 5, 0, 0, 0, 0), none, some (.iconst 0, 0, 0, 0, 0), some (.aload_n 0, 0, 0, 0, 0), some (.iload_n 1, 0, 0, 0, 0), some (.iload_n 2, 0, 0, 0, 0), some (.iload_n 3, 0, 0, 0, 0), some (.iload 4, 0, 0, 0, 0), none, some (.invokevirtual 119, 178, 5, 2013, 2), none, none, some (.lastore, 0, 0, 0, 0), some (.goto 7, 0, 0, 0, 0)] := At.of (by decide +kernel)
theorem A_419_20 : At 419 20 [some (.iconst 0, 0, 0, 0, 0), some (.ireturn, 0, 0, 0, 0)] := At.of (by decide +kernel)
theorem A_419_16 : At 419 16 [some (.astore 6, 0, 0, 0, 0), none, some (.iconst 1, 0, 0, 0, 0), some (.ireturn, 0, 0, 0, 0)] := At.of (by decide +kernel)
theorem w_419 {F : MF} {Q : Nat × List MV → MF → Prop} {R : Int → MF → Prop} {T : Nat → MF → Prop} {x1 x2 x3 x4 : Int} (h : C_178 x1 x2 x3 x4 F R T) (hy : ∀ r F1, St F1 → R r F1 → Q (0, [(0, 0)]) (m_up F1 281 (0 : Int).toNat r)) (ht : ∀ e F1, St F1 → T e F1 → (e = 0 ∧ Q (0, [(0, 1)]) F1)) :
    EvN 1 419 0 (m_ini (m_mls.getD 419 0) [m_r 0, (0, x1), (0, x2), (0, x3), (0, x4), m_r 281]) [] F Q := by
  rw [ml_419]
  show EvN 1 419 0 [some (m_r 0), some (0, x1), some (0, x2), some (0, x3), some (0, x4), some (m_r 281), none] [] F Q
  refine n_aload A_419 rfl (by decide) fun hA => n_iconst hA fun hA => n_aload_n hA rfl (by decide) fun hA => n_iload_n hA rfl fun hA => n_iload_n hA rfl fun hA => n_iload_n hA rfl fun hA => n_iload hA rfl fun hA => n_cvL [m_r 0, (0, x1), (0, x2), (0, x3), (0, x4)] [(0, 0), m_r 281] rfl rfl rfl ml_178 rfl rfl hg_178 hg_419 rfl hA (fun c s => by rw [ow_178]; exact m_recv_go (xs := [(0, x1), (0, x2), (0, x3), (0, x4)]) (r0 := [(0, 0), m_r 281]) rfl rfl kd_0) h (fun e F1 hS1 hT => ?_) (fun r1 F1 hS1 hR => n_lastore hA.tl3 kd_281 ⟨by decide, by decide⟩ fun hA => n_goto hA (t := 20) rfl <| n_iconst A_419_20 fun hA => n_iret hA rfl (hy r1 F1 hS1 hR))
  rcases ht e F1 hS1 hT with ⟨rfl, hQ⟩
  · exact ⟨16, by decide, Nat.le_refl _, n_astore A_419_16 [some (m_r 0), some (0, x1), some (0, x2), some (0, x3), some (0, x4), some (m_r 281), some (3, 0)] (by decide) rfl fun hA => n_iconst hA fun hA => n_iret hA rfl hQ⟩
