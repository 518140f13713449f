/-! READING, OF THE REFERENCE: readStatement -/
section M9e
variable {F F' : MF} {K : List Int} {n0 N a : Nat} {S : List (Int × Int)} {C : List Int} {E : EE} {Fn : FF} {U : List Int}
theorem RZ.brk {q st : Int} {e : Nat} (hS : St F) (hQ : SQ F K) (hK : K.length ≤ 195) (hx : RS F K n0 N (a, (q, st) :: S, C, E, Fn, U)) (hP : PI K (a, (q, st) :: S, C, E, Fn, U)) (hn : n0 ≤ N) (hN : N ≤ n0 + 2 * a) (hn2 : n0 + 2 * K.length + 12 < 1600) (he : e ≤ K.length) (hae : a ≤ e) (hz : a + 1 ≤ skS K (K.length - e) e) :
    C_242 (a : Int) (e : Int) F (RZ K n0 N a F (skS K (K.length - e) e, (q, st) :: S, C ++ [mk 13 a 0], E ++ [((e : Int), (a : Int), ((skS K (K.length - e) e : Nat) : Int) - 1)], Fn, U)) m_no := by
  obtain ⟨h26, h27, h41, hE, -, hC⟩ := hx
  change ErrM F E at hE
  change F 201 26 = (a : Int) at h26
  have hp1 : a ≤ K.length := hP.1
  have hp3 : E.length + (S.length + 1) ≤ a := hP.2.2.1
  refine CaV.on (s_242 (a := a) (e := e) (K := K) (n0 := n0) (S := (q, st) :: S) (C := C) hS hQ hK he hE (by omega) h27 (by omega) h41 (by rw [List.length_cons]; omega) hn (hC (by simp))) ?_
  rintro F2 hS2 ⟨t1, t2, t3, t4, t5, t6⟩
  refine ⟨t1, N + 1, by omega, ?_, RS.lv t2 t3 t4 t5 t6⟩
  show N + 1 + 2 * a ≤ N + 2 * skS K (K.length - e) e
  omega
theorem psx_no {q st : Int} {e : Nat} {W : List Int} : psx K a q st S C E Fn U (false, e, W) = (skS K (K.length - e) e, (q, st) :: S, C ++ [mk 13 a 0], E ++ [((e : Int), (a : Int), ((skS K (K.length - e) e : Nat) : Int) - 1)], Fn, U) := rfl
theorem psx_rrz {q st : Int} {kd o p m : Nat} {k : Int} {y : XS} (h : kn K a = 5 ∧ kd = 10 ∧ m = 0 ∨ kn K a ≠ 5 ∧ kd ≠ 10 ∧ m = 1 ∧ (if kn K a = 4 then kd = 5 ∧ o = 7 ∧ p = a + 1 else kd ≠ 5 ∧ p = a ∧ o = (if kn K a = 7 then 10 else if kn K (a + 1) = 10 then 9 else 8))) :
    psx K a q st S C E Fn U (fi K y k m) = rrz K a kd o p k ((q, st) :: S) C E Fn U y := by
  unfold rrz
  by_cases hy : y.1 = 3 ∧ kn K y.2.1 = k
  · rw [fi_y hy, if_pos hy]
    unfold psx
    rw [if_neg (show ¬ (true : Bool) = false by decide)]
    rcases h with ⟨h1, h2, h3⟩ | ⟨h1, h2, h3, h4⟩
    · rw [if_pos h1, if_pos h2, h3]
      rfl
    · rw [if_neg h1, if_neg h2, h3]
      by_cases e4 : kn K a = 4
      · rw [if_pos e4] at h4
        rw [if_pos e4, if_pos h4.1, h4.2.1, h4.2.2]
        rfl
      · rw [if_neg e4] at h4
        rw [if_neg e4, if_neg h4.1, h4.2.1, h4.2.2]
  · rw [fi_n hy, if_neg hy]
    rfl
theorem s_245 {q st : Int} (hS : St F) (hQ : SQ F K) (hK : K.length ≤ 195) (hx : RS F K n0 N (a, (q, st) :: S, C, E, Fn, U)) (hP : PI K (a, (q, st) :: S, C, E, Fn, U)) (hn : n0 ≤ N) (hN : N ≤ n0 + 2 * a) (hn2 : n0 + 2 * K.length + 12 < 1600) (hk24 : kn K a ≠ 24) :
    C_245 F (RZ K n0 N a F (pst K a q st S C E Fn U)) m_no := by
  have hx' := hx
  obtain ⟨h26, h27, h41, hE, -, hC⟩ := hx'
  have hC := hC (by simp)
  change CU F K n0 ((q, st) :: S) C Fn U N at hC
  change F 201 26 = (a : Int) at h26
  change F 201 41 = (((q, st) :: S).length : Int) at h41
  change ErrM F E at hE
  have h41' : F 201 41 = ((S.length + 1 : Nat) : Int) := by rw [h41, List.length_cons]
  have hp3 : E.length + (S.length + 1) ≤ a := hP.2.2.1
  have hlt : a < K.length := kn_lt hk24
  have hsl : ((q, st) :: S).length < 198 := by rw [List.length_cons]; omega
  rw [pst_psx]
  have ea1 : (a : Int) + 1 = ((a + 1 : Nat) : Int) := by omega
  have ea2 : (a : Int) + 2 = ((a + 2 : Nat) : Int) := by omega
  have ea3 : (a : Int) + 3 = ((a + 3 : Nat) : Int) := by omega
  have eb : bgn (kn K a) = true ↔ kn K a = 3 ∨ kn K a = 2 ∨ kn K a = 24 := by unfold bgn; rw [decide_eq_true_iff]
  refine c_245 hS ?_
  rw [h26, ea1, ea2, ea3, Int.toNat_natCast, Int.toNat_natCast, Int.toNat_natCast, hQ a (by omega), hQ (a + 1) (by omega), hQ (a + 2) (by omega)]
  refine ⟨by omega, fun e13 => ?_, fun e13 => ⟨fun e234 => ⟨fun e => absurd e hk24, fun _ => ?_⟩, fun e234 => ?_⟩⟩
  · rw [if_pos e13]
    refine ⟨by omega, ?_⟩
    obtain ⟨F1, d1⟩ : ∃ F1, F1 = m_up F 201 26 ((a + 1 : Nat) : Int) := ⟨_, rfl⟩
    rw [← d1]
    have hS1 : St F1 := by rw [d1]; exact hS.fld kd_201 rk_12_26
    have z1 : ∀ c, c ≠ 201 → F1 c = F c := fun c hc => by rw [d1, up_row hc]
    have w1 : ∀ j, j ≠ 26 → F1 201 j = F 201 j := fun j hj => by rw [d1, u_ne (Or.inr hj)]
    have rf1 : RF n0 F F1 := ⟨fun j x1 x2 x3 x4 x5 x6 x7 x8 x9 x10 x11 x12 x13 => w1 j x1, fun c i x y z => by rw [z1 c (by omega)], fun c hc => z1 c (fun e => hc (Or.inl e))⟩
    have := s_243 (e := a) (cl := 1) (a2 := a + 1) (x1 := (a : Int)) hS1 (rf1.sq hQ) hK (by rw [d1, u_eq]) (by omega) ((w1 27 (by decide)).trans h27) (by omega) ((w1 41 (by decide)).trans h41') (by omega) (hE.cong (w1 37 (by decide)) (fun c x y => z1 c (by omega))) (by omega) (hC.cong (fun c i x y _ => by rw [z1 c (by omega)]) (fun c i x y _ => by rw [z1 c (by omega)]) (w1 48 (by decide)) (w1 49 (by decide))) hn (Nat.le_refl _) rfl
    refine CaV.on this ?_
    rintro F2 hS2 ⟨t1, N', t2, t3, t4⟩
    have e : pcb K a true q st S C E Fn U = pc2 K (a + 1) q st (a : Int) S (C ++ [mk 4 a 1]) E Fn U := pcb_pc2
    rw [e]
    exact ⟨rf1.tr t1, N', t2, by omega, t4⟩
  · have e1 : bgn (kn K a) = true := eb.mpr e234
    rw [if_neg e13, if_pos e1]
    refine CaV.on (s_222 hS hE (by omega)) ?_
    rintro F1 hS1 ⟨t1, t2, t3⟩
    have rf1 : RF n0 F F1 := ⟨fun j x1 x2 x3 x4 x5 x6 x7 x8 x9 x10 x11 x12 x13 => t2 j x3, fun c i x y z => by rw [t3 c (by omega)], fun c hc => t3 c (fun e => hc (by omega))⟩
    have := s_243 (e := a) (cl := 0) (a2 := a) (x1 := (-1 : Int)) hS1 (rf1.sq hQ) hK ((t2 26 (by decide)).trans h26) (by omega) ((t2 27 (by decide)).trans h27) (by omega) ((t2 41 (by decide)).trans h41') (by omega) t1 (by rw [List.length_append]; simp only [List.length_cons, List.length_nil]; omega) (hC.cong (fun c i x y _ => by rw [t3 c (by omega)]) (fun c i x y _ => by rw [t3 c (by omega)]) (t2 48 (by decide)) (t2 49 (by decide))) hn (by decide) rfl
    refine CaV.on this ?_
    rintro F2 hS2 ⟨u1, N', u2, u3, u4⟩
    have e : pcb K a false q st S C E Fn U = pc2 K a q st (-1) S (C ++ [mk 4 a 0]) (E ++ [((a : Int), -1, -1)]) Fn U := pcb_pc2
    rw [e]
    exact ⟨rf1.tr u1, N', u2, by omega, u4⟩
  · have e1 : ¬ bgn (kn K a) = true := fun e => e234 (eb.mp e)
    rw [if_neg e13, if_neg e1]
    have hm : kn K a ≠ 12 → a + 1 ≤ skS K (K.length - a) a := fun h12 => skS_mv hlt h12 e13 e1
    have hge : ∀ e, a + 1 ≤ e → a + 1 ≤ skS K (K.length - e) e := fun e he => by have := skS_ge K (K.length - e) e; omega
    have brk : ∀ e, e ≤ K.length → a ≤ e → a + 1 ≤ skS K (K.length - e) e → C_242 (a : Int) (e : Int) F (RZ K n0 N a F (psx K a q st S C E Fn U (false, e, C ++ [mk 6 a 0]))) m_no := fun e h1 h2 h3 => by
      rw [psx_no]
      exact RZ.brk hS hQ hK hx hP hn hN hn2 h1 h2 h3
    refine ⟨fun e4 => ?_, fun e4 => ?_⟩
    · rw [if_neg (by omega), sth_fi, if_neg (by omega), if_neg (by omega), if_neg (by omega), if_pos e4]
      refine ⟨by omega, by omega, fun e0 => ?_, fun e0 => ?_⟩
      · have hl1 : a + 1 < K.length := kn_lt (by omega)
        rw [if_pos e0]
        refine ⟨by omega, by omega, fun e16 => ?_, fun e16 => ?_⟩
        · have hl2 : a + 2 < K.length := kn_lt (by omega)
          rw [if_pos (show kn K (a + 1 + 1) = 16 from e16), psx_rrz (kd := 5) (o := 7) (p := a + 1) (Or.inr ⟨by omega, by decide, rfl, by rw [if_pos e4]; exact ⟨rfl, rfl, rfl⟩⟩)]
          exact ⟨by omega, by omega, s_244 (kd := 5) (o := 7) (p := a + 1) (fp := a + 3) (called := false) hS hQ hK h27 h41 hsl hE (by omega) hC hn hN hn2 hlt (Or.inl (by omega)) (by omega) ⟨fun e => absurd e (by decide), fun e => absurd e (by decide)⟩ (fun e => absurd e (by decide)) (Or.inl (Or.inl ⟨rfl, rfl⟩)) (fun e => absurd e (by decide)) (by decide) (by omega)⟩
        · rw [if_neg (show ¬ kn K (a + 1 + 1) = 16 from e16)]
          exact ⟨by omega, brk (a + 2) (by omega) (by omega) (hge _ (by omega))⟩
      · rw [if_neg e0]
        exact ⟨by omega, brk (a + 1) (by omega) (by omega) (hge _ (by omega))⟩
    · have hbody : L_245_281 (kn K a) (a : Int) F (RZ K n0 N a F (if kn K a = 12 then (a + 1, (1, -1) :: (q, st) :: S, C ++ [mk 6 a 0, mk 3 a 0], E, Fn, U) else psx K a q st S C E Fn U (sth K a (C ++ [mk 6 a 0])))) m_no ∨ (kn K a = 0 ∧ (kn K (a + 1) = 16 ∨ kn K (a + 1) = 10)) := by
        by_cases ex : kn K a = 0 ∧ (kn K (a + 1) = 16 ∨ kn K (a + 1) = 10)
        · exact Or.inr ex
        · refine Or.inl ?_
          refine b_245_281 hS ?_
          rw [h26, ea1]
          refine ⟨fun e7 => ?_, fun e7 => ⟨fun e5 => ?_, fun e5 => ⟨fun e12 => ?_, fun e12 => ⟨fun e0 => ?_, fun e0 => ?_⟩⟩⟩⟩
          · rw [if_neg (by omega), sth_fi, if_neg (by omega), if_pos e7, psx_rrz (kd := 9) (o := 10) (p := a) (Or.inr ⟨by omega, by decide, rfl, by rw [if_neg (by omega), if_pos e7]; exact ⟨by decide, rfl, rfl⟩⟩)]
            exact ⟨by omega, s_244 (kd := 9) (o := 10) (p := a) (fp := a + 1) (called := false) hS hQ hK h27 h41 hsl hE (by omega) hC hn hN hn2 hlt (Or.inl (by omega)) (by omega) ⟨fun e => absurd e (by decide), fun e => absurd e (by decide)⟩ (fun e => absurd e (by decide)) (Or.inl (Or.inr (Or.inr (Or.inr ⟨rfl, rfl⟩)))) (fun e => absurd e (by decide)) (by decide) (by omega)⟩
          · rw [if_neg (by omega), sth_fi, if_pos e5, psx_rrz (kd := 10) (o := 0) (p := a) (Or.inl ⟨e5, rfl, rfl⟩)]
            exact ⟨by omega, s_244 (kd := 10) (o := 0) (p := a) (fp := a + 1) (called := false) hS hQ hK h27 h41 hsl hE (by omega) hC hn hN hn2 hlt (Or.inl (by omega)) (by omega) ⟨fun e => absurd e (by decide), fun e => absurd e (by decide)⟩ (fun e => absurd e (by decide)) (Or.inr rfl) (fun _ => rfl) (by decide) (by omega)⟩
          · rw [if_pos e12]
            refine CaV.on (s_237_3 (t := a) hS (by omega) h27 (by omega) h41 (by omega) hn hC) ?_
            rintro F1 hS1 ⟨t1, t2, t3, t4, t5, t6⟩
            refine ⟨t1, N + 1, by omega, ?_, RS.lv t2 t3 t4 (hE.cong t5.1 t5.2) t6⟩
            show N + 1 + 2 * a ≤ N + 2 * (a + 1)
            omega
          · rw [if_neg (by omega), sth_fi, if_neg (by omega), if_neg (by omega), if_neg (fun x => ex ⟨x.1, Or.inr x.2⟩), if_neg e4, if_pos e0, if_neg (fun x => ex ⟨e0, Or.inl x⟩)]
            exact ⟨by omega, brk (a + 1) (by omega) (by omega) (hge _ (by omega))⟩
          · rw [if_neg (by omega), sth_fi, if_neg (by omega), if_neg (by omega), if_neg (fun x => e0 x.1), if_neg e4, if_neg e0]
            exact brk a (by omega) (Nat.le_refl _) (hm (by omega))
      have hcall : kn K a = 0 → kn K (a + 1) ≠ 16 → L_245_241 (kn K a) (a : Int) F (RZ K n0 N a F (if kn K a = 12 then (a + 1, (1, -1) :: (q, st) :: S, C ++ [mk 6 a 0, mk 3 a 0], E, Fn, U) else psx K a q st S C E Fn U (sth K a (C ++ [mk 6 a 0])))) m_no := by
        intro e0 e16
        refine b_245_241 hS ⟨fun _ => ?_, fun e => absurd e0 e⟩
        rw [h26, ea1, Int.toNat_natCast, hQ (a + 1) (by omega)]
        refine ⟨by omega, by omega, fun e10 => ?_, fun e10 => hbody.resolve_right (fun x => by omega)⟩
        have hl1 : a + 1 < K.length := kn_lt (by omega)
        rw [if_neg (by omega), sth_fi, if_neg (by omega), if_neg (by omega), if_pos ⟨e0, e10⟩, psx_rrz (kd := 7) (o := 9) (p := a) (Or.inr ⟨by omega, by decide, rfl, by rw [if_neg (by omega), if_neg (by omega), if_pos e10]; exact ⟨by decide, rfl, rfl⟩⟩)]
        exact s_244 (kd := 7) (o := 9) (p := a) (fp := a) (called := true) hS hQ hK h27 h41 hsl hE (by omega) hC hn hN hn2 hlt (Or.inr ⟨rfl, e0⟩) (by omega) ⟨fun _ => rfl, fun _ => rfl⟩ (fun _ => ⟨e0, e10⟩) (Or.inl (Or.inr (Or.inr (Or.inl ⟨rfl, rfl⟩)))) (fun e => absurd e (by decide)) (by decide) (by omega)
      refine ⟨fun e0 => ⟨by omega, by omega, fun e16 => ?_, fun e16 => hcall e0 e16⟩, fun e0 => ?_⟩
      · have hl1 : a + 1 < K.length := kn_lt (by omega)
        rw [if_neg (by omega), sth_fi, if_neg (by omega), if_neg (by omega), if_neg (by omega), if_neg e4, if_pos e0, if_pos e16, psx_rrz (kd := 6) (o := 8) (p := a) (Or.inr ⟨by omega, by decide, rfl, by rw [if_neg (by omega), if_neg (by omega), if_neg (by omega)]; exact ⟨by decide, rfl, rfl⟩⟩)]
        exact ⟨by omega, s_244 (kd := 6) (o := 8) (p := a) (fp := a + 2) (called := false) hS hQ hK h27 h41 hsl hE (by omega) hC hn hN hn2 hlt (Or.inl (by omega)) (by omega) ⟨fun e => absurd e (by decide), fun e => absurd e (by decide)⟩ (fun e => absurd e (by decide)) (Or.inl (Or.inr (Or.inl ⟨rfl, rfl⟩))) (fun e => absurd e (by decide)) (by decide) (by omega)⟩
      · refine b_245_241 hS ⟨fun e => absurd e e0, fun _ => hbody.resolve_right (fun x => e0 x.1)⟩
end M9e
