/-! READING, OF THE REFERENCE: closeBlock -/
/-- the state of the reading -/
def RS (F : MF) (K : List Int) (n0 N : Nat) (x : PS) : Prop := F 201 26 = (x.1 : Int) ∧ F 201 27 = (N : Int) ∧ F 201 41 = (x.2.1.length : Int) ∧ ErrM F x.2.2.2.1 ∧ (x.2.1 = [] → CIt F K n0 x.2.2.1 x.2.2.2.2.1 x.2.2.2.2.2 N) ∧ (x.2.1 ≠ [] → CU F K n0 x.2.1 x.2.2.1 x.2.2.2.2.1 x.2.2.2.2.2 N)
section M9c
variable {F F' : MF} {K : List Int} {n0 N a : Nat} {S : List (Int × Int)} {C : List Int} {E : EE} {Fn : FF} {U : List Int}
theorem RS.lv (h1 : F 201 26 = (a : Int)) (h2 : F 201 27 = (N : Int)) (h3 : F 201 41 = (S.length : Int)) (h4 : ErrM F E) (h5 : CU F K n0 S C Fn U N) : RS F K n0 N (a, S, C, E, Fn, U) :=
  ⟨h1, h2, h3, h4, fun e => absurd e h5.rng.1, fun _ => h5⟩
theorem RS.it (h1 : F 201 26 = (a : Int)) (h2 : F 201 27 = (N : Int)) (h3 : F 201 41 = 0) (h4 : ErrM F E) (h5 : CIt F K n0 C Fn U N) : RS F K n0 N (a, [], C, E, Fn, U) :=
  ⟨h1, h2, h3, h4, fun _ => h5, fun e => absurd rfl e⟩
theorem pel_no {q st : Int} (h : ¬ (q = 2 ∧ kn K a = 6)) : pel K a q st S C E Fn U = (a, S, C, E, Fn, U) := if_neg h
theorem s_243 {q st x1 : Int} {e cl a2 : Nat} (hS : St F) (hQ : SQ F K) (hK : K.length ≤ 195) (h26 : F 201 26 = (a2 : Int)) (ha : a2 ≤ K.length) (h27 : F 201 27 = (N : Int)) (hN : N + 1 < 1600) (h41 : F 201 41 = ((S.length + 1 : Nat) : Int)) (hSl : S.length < 198) (hE : ErrM F E) (hEl : E.length < 300)
    (h : CU F K n0 ((q, st) :: S) C Fn U N) (hn : n0 ≤ N) (hcl : cl ≤ 1) (hx : x1 = (if cl = 1 then (e : Int) else -1)) :
    C_243 x1 F (fun F' => RF n0 F F' ∧ ∃ N', N ≤ N' ∧ N' + 2 * a2 ≤ N + 2 * (pc2 K a2 q st x1 S (C ++ [mk 4 e cl]) E Fn U).1 ∧ RS F' K n0 N' (pc2 K a2 q st x1 S (C ++ [mk 4 e cl]) E Fn U)) m_no := by
  obtain ⟨b, hb, hbN, hbn⟩ : ∃ b : Nat, F 233 S.length = (b : Int) ∧ b < N ∧ n0 ≤ b := by
    obtain ⟨b, lo, C1, k, x, y, W, g1, g2, -⟩ := h
    have r := (SLq.rng Sme.rng _ _ _ _ _ _ _ g2).1
    have := OB.nle _ _ _ _ g1
    exact ⟨b, g1.1.1, by have := g1.1.2.2.2; omega, this⟩
  have kq : ∀ F' : MF, F' 228 b = x1 → (∀ c i, 221 ≤ c → c ≤ 229 → i < N → ¬ (c = 228 ∧ i = b) → F' c i = F c i) → (∀ c i, 233 ≤ c → c ≤ 236 → i < S.length + 1 → F' c i = F c i) → F' 201 48 = F 201 48 → F' 201 49 = F 201 49 → _ := fun F' a1 a2 a3 a4 a5 => CU.close (x1 := x1) (e := e) (cl := cl) h hb a1 a2 a3 a4 a5 hcl hx
  refine c_243 hS ?_
  rw [h41, show ((S.length + 1 : Nat) : Int) - 1 = (S.length : Int) by omega, Int.toNat_natCast, hb, Int.toNat_natCast, h26, Int.toNat_natCast, hQ a2 (by omega), show (a2 : Int) + 1 = ((a2 + 1 : Nat) : Int) by omega, Int.toNat_natCast, hQ (a2 + 1) (by omega)]
  obtain ⟨F1, d1⟩ : ∃ F1, F1 = m_up (m_up F 201 41 (S.length : Int)) 228 b x1 := ⟨_, rfl⟩
  rw [← d1]
  have hS1 : St F1 := by rw [d1]; exact (hS.fld kd_201 rk_12_41).arr kd_228 (by decide)
  have z1 : ∀ c i, ¬ (c = 201 ∧ i = 41) → ¬ (c = 228 ∧ i = b) → F1 c i = F c i := fun c i x y => by rw [d1, u_ne (by omega), u_ne (by omega)]
  have f228 : F1 228 b = x1 := by rw [d1, u_eq]
  have f41 : F1 201 41 = (S.length : Int) := by rw [d1, u_ne (by omega), u_eq]
  have rf1 : RF n0 F F1 := ⟨fun j x1 x2 x3 x4 x5 x6 x7 x8 x9 x10 x11 x12 x13 => z1 201 j (by omega) (by omega), fun c i x y z => z1 c i (by omega) (by omega), fun c hc => funext fun i => z1 c i (fun e => hc (by omega)) (fun e => hc (by omega))⟩
  have e1 : ErrM F1 E := hE.cong (z1 201 37 (by omega) (by omega)) (fun c x y => funext fun i => z1 c i (by omega) (by omega))
  have q1 := kq F1 f228 (fun c i x y z w => z1 c i (by omega) w) (fun c i x y z => z1 c i (by omega) (by omega)) (z1 201 48 (by omega) (by omega)) (z1 201 49 (by omega) (by omega))
  have hlen : (C ++ [mk 4 e cl]).length = C.length + 1 := by rw [List.length_append]; rfl
  -- nothing follows
  have fin : ¬ (q = 2 ∧ kn K a2 = 6) → RF n0 F F1 ∧ ∃ N', N ≤ N' ∧ N' + 2 * a2 ≤ N + 2 * (pc2 K a2 q st x1 S (C ++ [mk 4 e cl]) E Fn U).1 ∧ RS F1 K n0 N' (pc2 K a2 q st x1 S (C ++ [mk 4 e cl]) E Fn U) := by
    intro hne
    refine ⟨rf1, N, Nat.le_refl _, ?_⟩
    unfold pc2
    rw [pel_no hne, pel_no hne, pel_no hne]
    have f26 := (z1 201 26 (by omega) (by omega)).trans h26
    have f27 := (z1 201 27 (by omega) (by omega)).trans h27
    rcases q1 with ⟨c1, rfl, c2, c3⟩ | ⟨c1, c2, c3⟩ | ⟨c1, c2, c3⟩ | ⟨c1, c2, c3⟩
    · rw [if_pos c1]
      exact ⟨by omega, RS.it f26 f27 f41 e1 c3⟩
    · rw [if_neg (by omega), if_pos c1]
      exact ⟨by omega, RS.lv f26 f27 f41 e1 c3⟩
    · rw [if_neg (by omega), if_neg (by omega)]
      exact ⟨by omega, RS.lv f26 f27 f41 e1 c3.shut⟩
    · rw [if_neg (by omega), if_neg (by omega), hlen]
      exact ⟨by omega, RS.lv f26 f27 f41 e1 c3⟩
  have h235 : F1 235 S.length = F 235 S.length := z1 235 _ (by omega) (by omega)
  refine ⟨by omega, by omega, by omega, by omega, fun hq => ⟨by omega, fun hk => ?_, fun hk => fin (fun x => hk x.2)⟩, fun hq => fin (fun x => hq ?_)⟩
  · -- ELSE
    have hlt : a2 < K.length := kn_lt (by omega)
    have hq2 : q = 2 := by
      rcases q1 with ⟨c1, rfl, c2, c3⟩ | ⟨c1, c2, c3⟩ | ⟨c1, c2, c3⟩ | ⟨c1, c2, c3⟩
      · rw [h235] at c2; omega
      · rw [h235] at c2; omega
      · exact c1
      · rw [h235] at c2; omega
    subst hq2
    obtain ⟨F2, d2⟩ : ∃ F2, F2 = m_up F1 201 26 ((a2 + 1 : Nat) : Int) := ⟨_, rfl⟩
    have hS2 : St F2 := by rw [d2]; exact hS1.fld kd_201 rk_12_26
    have z2 : ∀ c i, ¬ (c = 201 ∧ i = 41) → ¬ (c = 201 ∧ i = 26) → ¬ (c = 228 ∧ i = b) → F2 c i = F c i := fun c i x y w => by rw [d2, u_ne (by omega), z1 c i x w]
    have q2 := kq F2 (by rw [d2, u_ne (by omega)]; exact f228) (fun c i x y z w => z2 c i (by omega) (by omega) w) (fun c i x y z => z2 c i (by omega) (by omega) (by omega)) (z2 201 48 (by omega) (by omega) (by omega)) (z2 201 49 (by omega) (by omega) (by omega))
    have g41 : F2 201 41 = (S.length : Int) := by rw [d2, u_ne (by omega)]; exact f41
    have g26 : F2 201 26 = ((a2 + 1 : Nat) : Int) := by rw [d2, u_eq]
    have g27 : F2 201 27 = (N : Int) := (z2 201 27 (by omega) (by omega) (by omega)).trans h27
    have rf2 : RF n0 F F2 := ⟨fun j x1 x2 x3 x4 x5 x6 x7 x8 x9 x10 x11 x12 x13 => z2 201 j (by omega) (by omega) (by omega), fun c i x y z => z2 c i (by omega) (by omega) (by omega), fun c hc => funext fun i => z2 c i (fun e => hc (by omega)) (fun e => hc (by omega)) (fun e => hc (by omega))⟩
    have e2 : ErrM F2 E := hE.cong (z2 201 37 (by omega) (by omega) (by omega)) (fun c x y => funext fun i => z2 c i (by omega) (by omega) (by omega))
    have c3 : IFD F2 K n0 S (C ++ [mk 4 e cl]) Fn U N st := by
      rcases q2 with ⟨c1, -⟩ | ⟨c1, -⟩ | ⟨-, -, c3⟩ | ⟨c1, -⟩
      · exact absurd c1 (by decide)
      · exact absurd c1 (by decide)
      · exact c3
      · exact absurd c1 (by decide)
    have epc : pc2 K a2 2 st x1 S (C ++ [mk 4 e cl]) E Fn U = (if kn K (a2 + 1) = 12 then (a2 + 2, (3, ((aim (C ++ [mk 4 e cl]) st (C ++ [mk 4 e cl]).length).length : Int)) :: S, aim (aim (C ++ [mk 4 e cl]) st (C ++ [mk 4 e cl]).length ++ [mk 12 a2 0]) st ((aim (C ++ [mk 4 e cl]) st (C ++ [mk 4 e cl]).length).length + 1) ++ [mk 3 (a2 + 1) 0], E, Fn, U)
        else (skS K (K.length - (a2 + 1)) (a2 + 1), S, aim (C ++ [mk 4 e cl]) st (C ++ [mk 4 e cl]).length, E ++ [(((a2 + 1 : Nat) : Int), -1, -1)], Fn, U)) := by
      unfold pc2 pel
      rw [if_neg (by decide), if_neg (by decide), if_pos ⟨rfl, hk⟩]
    rw [epc, aim_len, hlen]
    refine ⟨by omega, by omega, by omega, fun hk2 => ?_, fun hk2 => ?_⟩
    · rw [if_pos hk2]
      obtain ⟨m, v, av, b1, We, W1, C2, i1, i2, i3, i4, i5, i6, i7, i8, i9, i10, i11, i12, i13, i14, i15⟩ := c3
      have hvf : F 236 S.length = (v : Int) := (z2 236 S.length (by omega) (by omega) (by omega)).symm.trans i15
      rw [hvf, ← d2]
      refine CaV.on (s_237_2 (a := av) (p := a2) hS2 (by omega) g27 (by omega) g41 (by omega) (by omega) i1 i2 i3 i4 i5 i6 i7 i9 i10 i11 (Nat.le_refl _)) ?_
      rintro F3 hS3 ⟨t1, t2, t3, t4, t5, t6⟩
      have ew : aim (aim (C ++ [mk 4 e cl]) st (C.length + 1) ++ [mk 12 a2 0]) st (C.length + 1 + 1) ++ [mk 3 (a2 + 1) 0] = C2 ++ mk 6 av 0 :: (We ++ mk 11 av (C2.length + We.length + 3 + W1.length) :: (W1 ++ [mk 12 a2 0, mk 3 (a2 + 1) 0])) := by
        have e5 : C ++ [mk 4 e cl] = (C2 ++ mk 6 av 0 :: We) ++ mk 11 av 0 :: W1 := by rw [i12]; simp only [List.append_assoc, List.cons_append]
        have e6 : C.length + 1 = C2.length + We.length + 2 + W1.length := by
          rw [← hlen, i12]; simp only [List.length_append, List.length_cons]; omega
        rw [e5, e6, aim_at (by decide) i14 (by rw [i13]; simp only [List.length_append, List.length_cons]; omega)]
        rw [show ((C2 ++ mk 6 av 0 :: We) ++ mk 11 av (C2.length + We.length + 2 + W1.length) :: W1) ++ [mk 12 a2 0] = (C2 ++ mk 6 av 0 :: We) ++ mk 11 av (C2.length + We.length + 2 + W1.length) :: (W1 ++ [mk 12 a2 0]) by simp only [List.append_assoc, List.cons_append]]
        rw [aim_at (by decide) i14 (by rw [i13]; simp only [List.length_append, List.length_cons]; omega)]
        rw [show C2.length + We.length + 2 + W1.length + 1 = C2.length + We.length + 3 + W1.length by omega]
        simp only [List.append_assoc, List.cons_append, List.nil_append]
      have es : ((C.length + 1 : Nat) : Int) = ((C2.length + 2 + We.length + W1.length : Nat) : Int) := by
        have e6 : C.length + 1 = C2.length + We.length + 2 + W1.length := by
          rw [← hlen, i12]; simp only [List.length_append, List.length_cons]; omega
        omega
      rw [ew, es]
      refine ⟨rf2.tr t1, N + 1, by omega, by show N + 1 + 2 * a2 ≤ N + 2 * (a2 + 2); omega, RS.lv t2 t3 (by rw [t4]) (e2.cong t5.1 t5.2) t6⟩
    · rw [if_neg hk2, ← d2]
      refine CaV.on (s_222 hS2 e2 (by omega)) ?_
      rintro F3 hS3 ⟨t1, t2, t3⟩
      refine CaV.on (s_241 (K := K) (a := a2 + 1) hS3 (fun i hi => by rw [t3 220 (by omega), rf2.2.2 220 (by omega)]; exact hQ i hi) hK ((t2 26 (by decide)).trans g26) (by omega)) ?_
      rintro F4 hS4 ⟨p1, p2, p3⟩
      have w4 : ∀ j, j ≠ 26 → j ≠ 37 → F4 201 j = F2 201 j := fun j x y => (p2 j x).trans (t2 j y)
      have z4 : ∀ c, c ≠ 201 → ¬ (230 ≤ c ∧ c ≤ 232) → F4 c = F2 c := fun c x y => (p1 c x).trans (t3 c (by omega))
      have hcu := c3.shut.cong (F' := F4) (fun c i x y _ => by rw [z4 c (by omega) (by omega)]) (fun c i x y _ => by rw [z4 c (by omega) (by omega)]) (w4 48 (by decide) (by decide)) (w4 49 (by decide) (by decide))
      rw [hlen] at hcu
      refine ⟨rf2.tr ⟨fun j x1 x2 x3 x4 x5 x6 x7 x8 x9 x10 x11 x12 x13 => w4 j x1 x3, fun c i x y _ => by rw [z4 c (by omega) (by omega)], fun c hc => z4 c (fun e => hc (Or.inl e)) (fun e => hc (by omega))⟩, N, Nat.le_refl _, ?_, RS.lv p3 ((w4 27 (by decide) (by decide)).trans g27) ((w4 41 (by decide) (by decide)).trans g41) (t1.cong (p2 37 (by decide)) (fun c x y => p1 c (by omega))) hcu⟩
      have := skS_ge K (K.length - (a2 + 1)) (a2 + 1)
      show N + 2 * a2 ≤ N + 2 * skS K (K.length - (a2 + 1)) (a2 + 1)
      omega
  · rcases q1 with ⟨c1, rfl, c2, c3⟩ | ⟨c1, c2, c3⟩ | ⟨c1, c2, c3⟩ | ⟨c1, c2, c3⟩
    · omega
    · omega
    · rw [← h235]; exact c2
    · omega
end M9c
