/-! READING, OF THE REFERENCE: readRest -/
def Hd (p : Prop) : Prop := p
section M9d
variable {F F' : MF} {K : List Int} {n0 N a : Nat} {S : List (Int × Int)} {C : List Int} {E : EE} {Fn : FF} {U : List Int}
/-- what a statement with an expr comes to -/
def rrz (K : List Int) (a kd o p : Nat) (k : Int) (S : List (Int × Int)) (C : List Int) (E : EE) (Fn : FF) (U : List Int) (y : XS) : PS :=
  if y.1 = 3 ∧ kn K y.2.1 = k then (if kd = 10 then (y.2.1 + 1, (2, (y.2.2.2.length : Int)) :: S, y.2.2.2 ++ [mk 11 a 0, mk 3 y.2.1 0], E, Fn, U) else (y.2.1 + 1, S, y.2.2.2 ++ [mk o p (if kd = 5 then y.2.1 else 0)], E, Fn, U))
  else (skS K (K.length - y.2.1) y.2.1, S, C ++ [mk 13 a 0], E ++ [((y.2.1 : Int), (a : Int), ((skS K (K.length - y.2.1) y.2.1 : Nat) : Int) - 1)], Fn, U)
/-- what a step of the reading comes to -/
def RZ (K : List Int) (n0 N a : Nat) (F : MF) (z : PS) : MF → Prop := fun F' => RF n0 F F' ∧ ∃ N', N ≤ N' ∧ N' + 2 * a ≤ N + 2 * z.1 ∧ RS F' K n0 N' z
theorem s_244 {kd o p fp : Nat} {k : Int} {called : Bool} (hS : St F) (hQ : SQ F K) (hK : K.length ≤ 195) (h27 : F 201 27 = (N : Int)) (h41 : F 201 41 = (S.length : Int)) (hSl : S.length < 198) (hE : ErrM F E) (hEl : E.length < 300) (h : CU F K n0 S C Fn U N) (hn : n0 ≤ N)
    (hN : N ≤ n0 + 2 * a) (hn2 : n0 + 2 * K.length + 12 < 1600) (ha : a < K.length) (hf : a + 1 ≤ fp ∨ fp = a ∧ kn K a = 0) (hfl : fp ≤ K.length) (hcl : called = true ↔ kd = 7) (hc : called = true → kn K fp = 0 ∧ kn K (fp + 1) = 10)
    (hk : ((kd = 5 ∧ o = 7) ∨ (kd = 6 ∧ o = 8) ∨ (kd = 7 ∧ o = 9) ∨ (kd = 9 ∧ o = 10)) ∨ kd = 10) (hk2 : kd = 10 → p = a) (hkk : k ≠ 24) (hp256 : p < 256) :
    C_244 (kd : Int) (p : Int) (fp : Int) (a : Int) k F (RZ K n0 N a F (rrz K a kd o p k S C E Fn U (exr K called fp (C ++ [mk 6 a 0])))) m_no := by
  have hpos : 0 < S.length := List.length_pos_iff.mpr h.rng.1
  replace hk : Hd (((kd = 5 ∧ o = 7) ∨ (kd = 6 ∧ o = 8) ∨ (kd = 7 ∧ o = 9) ∨ (kd = 9 ∧ o = 10)) ∨ kd = 10) := hk
  replace hcl : Hd (called = true ↔ kd = 7) := hcl
  replace hc : Hd (called = true → kn K fp = 0 ∧ kn K (fp + 1) = 10) := hc
  replace hk2 : Hd (kd = 10 → p = a) := hk2
  obtain ⟨F0, d0⟩ : ∃ F0, F0 = m_up F 201 26 (fp : Int) := ⟨_, rfl⟩
  have hS0 : St F0 := by rw [d0]; exact hS.fld kd_201 rk_12_26
  have z0 : ∀ c, c ≠ 201 → F0 c = F c := fun c hc => by rw [d0, up_row hc]
  have w0 : ∀ j, j ≠ 26 → F0 201 j = F 201 j := fun j hj => by rw [d0, u_ne (Or.inr hj)]
  have hQ0 : SQ F0 K := fun i hi => by rw [z0 220 (by decide)]; exact hQ i hi
  have hy := s_233 (called := called) (n0 := N) (C0 := C ++ [mk 6 a 0]) hS0 hQ0 hK (by omega) hfl (by rw [d0, u_eq]) ((w0 27 (by decide)).trans h27) hc
  have hok := exr_ok (K := K) (cl := called) (a := fp) (C := C ++ [mk 6 a 0]) hK hfl (fun e => by have := (hc e).2; have := kn_lt (K := K) (i := fp + 1) (by omega); omega)
  revert hy hok
  generalize exr K called fp (C ++ [mk 6 a 0]) = y
  obtain ⟨y1, e, y3, Y⟩ := y
  intro hy hok
  obtain ⟨-, ok2, ok3, -⟩ := hok
  change fp ≤ e at ok2
  change e ≤ K.length at ok3
  -- the rest, behind the expr
  have key : ∀ F1 : MF, St F1 → XE K N fp (C ++ [mk 6 a 0]) F0 (y1, e, y3, Y) F1 →
      (F1 201 58 = 0 → (0 ≤ F1 201 26 ∧ F1 201 26 < 210) ∧ ((F1 220 (F1 201 26).toNat = k → C_221 (kd : Int) (p : Int) F1 (fun r53 F50 => (0 ≤ r53 ∧ r53 < 1600) ∧ (0 ≤ r53 ∧ r53 < 1600) ∧ C_238 r53 (m_up (m_up F50 223 r53.toNat (a : Int)) 224 r53.toNat (F50 201 59)) (fun F56 => (((kd : Int) = 10 → C_237 1 r53 (F56 201 26) F56 (fun F63 => RZ K n0 N a F (rrz K a kd o p k S C E Fn U (y1, e, y3, Y)) F63) m_no) ∧ (¬ ((kd : Int) = 10) → (-2147483648 ≤ ((F56 201 26) + 1) ∧ ((F56 201 26) + 1) < 2147483648) ∧ RZ K n0 N a F (rrz K a kd o p k S C E Fn U (y1, e, y3, Y)) (m_up F56 201 26 ((F56 201 26) + 1))))) m_no) m_no) ∧ (¬ (F1 220 (F1 201 26).toNat = k) → C_242 (a : Int) (F1 201 26) F1 (fun F67 => RZ K n0 N a F (rrz K a kd o p k S C E Fn U (y1, e, y3, Y)) F67) m_no))) ∧
      (¬ (F1 201 58 = 0) → C_242 (a : Int) (F1 201 26) F1 (fun F44 => RZ K n0 N a F (rrz K a kd o p k S C E Fn U (y1, e, y3, Y)) F44) m_no) := by
    rintro F1 hS1 ⟨x1, x2, x3, N1, x4, x5, x6, x7⟩
    replace x3 : Hd (y1 ≠ 3 → F1 201 58 = 1) := x3
    replace x7 : Hd (y1 = 3 → F1 201 58 = 0 ∧ ∃ (v : Nat) (W : List Int) (f : Int), F1 201 59 = (v : Int) ∧ Rpe F1 K N N1 v W f ∧ F1 223 v = f ∧ F1 227 v = -1 ∧ Y = C ++ [mk 6 a 0] ++ W) := x7
    change F1 201 26 = (e : Int) at x2
    change N1 + fp ≤ N + e at x6
    have rf0 : RF n0 F F0 := ⟨fun j x1 _ _ _ _ _ _ _ _ _ _ _ _ => w0 j x1, fun c i x y _ => by rw [z0 c (by omega)], fun c hc => z0 c (fun e => hc (Or.inl e))⟩
    have rf1 : RF n0 F F1 := rf0.tr ⟨fun j a b _ _ _ _ c d e f g i x => x1.2 j a b c d e f g i x, x1.1.1.le hn, x1.1.2.mo (fun c hc => by omega)⟩
    have zz : ∀ c, c ≠ 201 → ¬ (221 ≤ c ∧ c ≤ 229) → ¬ (238 ≤ c ∧ c ≤ 244) → F1 c = F c := fun c x y w => (x1.1.2 c (by omega)).trans (z0 c x)
    have ww : ∀ j, j ≠ 26 → j ≠ 27 → j ≠ 51 → j ≠ 53 → j ≠ 54 → j ≠ 58 → j ≠ 59 → j ≠ 60 → j ≠ 63 → F1 201 j = F 201 j := fun j a b c d e f g i x => (x1.2 j a b c d e f g i x).trans (w0 j a)
    have hQ1 : SQ F1 K := rf1.sq hQ
    have g41 : F1 201 41 = (S.length : Int) := (ww 41 (by decide) (by decide) (by decide) (by decide) (by decide) (by decide) (by decide) (by decide) (by decide)).trans h41
    have e1 : ErrM F1 E := hE.cong (ww 37 (by decide) (by decide) (by decide) (by decide) (by decide) (by decide) (by decide) (by decide) (by decide)) (fun c x y => zz c (by omega) (by omega) (by omega))
    have ag : Agf F F1 N := fun c i x y z => (x1.1.1 c i x y z).trans (by rw [z0 c (by omega)])
    have hC1 : CU F1 K n0 S C Fn U N := h.cong ag (fun c i x y _ => by rw [zz c (by omega) (by omega) (by omega)]) (ww 48 (by decide) (by decide) (by decide) (by decide) (by decide) (by decide) (by decide) (by decide) (by decide)) (ww 49 (by decide) (by decide) (by decide) (by decide) (by decide) (by decide) (by decide) (by decide) (by decide))
    have hge := skS_ge K (K.length - e) e
    have hz1 : a + 1 ≤ skS K (K.length - e) e := by
      rcases hf with hf | ⟨hf, hk0⟩
      · omega
      · by_cases ea : e = a
        · subst ea
          exact skS_mv ha (by omega) (by omega) (by rw [hk0]; decide)
        · omega
    -- broken
    have brk : ¬ (y1 = 3 ∧ kn K e = k) → C_242 (a : Int) (F1 201 26) F1 (fun F67 => RZ K n0 N a F (rrz K a kd o p k S C E Fn U (y1, e, y3, Y)) F67) m_no := by
      intro hne
      rw [x2]
      refine CaV.on (s_242 hS1 hQ1 hK ok3 e1 hEl x4 (by omega) g41 (by omega) (by omega) (hC1.wid x5)) ?_
      rintro F2 hS2 ⟨t1, t2, t3, t4, t5, t6⟩
      have ez : rrz K a kd o p k S C E Fn U (y1, e, y3, Y) = (skS K (K.length - e) e, S, C ++ [mk 13 a 0], E ++ [((e : Int), (a : Int), ((skS K (K.length - e) e : Nat) : Int) - 1)], Fn, U) := if_neg hne
      rw [ez]
      refine ⟨rf1.tr t1, N1 + 1, by omega, ?_, RS.lv t2 t3 t4 t5 t6⟩
      show N1 + 1 + 2 * a ≤ N + 2 * skS K (K.length - e) e
      omega
    rw [x2, Int.toNat_natCast, hQ1 e (by omega)]
    rw [x2] at brk
    have h3 : F1 201 58 = 0 → y1 = 3 := fun h0 => Classical.byContradiction fun hne => by
      have := x3 hne
      rw [h0] at this
      exact absurd this (by decide)
    refine ⟨fun h0 => ⟨by omega, fun hke => ?_, fun hke => brk (fun x => hke x.2)⟩, fun h0 => brk (fun x => h0 (x7 x.1).1)⟩
    obtain ⟨-, v, We, f, v1, v2, v3, v4, v5⟩ := x7 (h3 h0)
    change Y = C ++ [mk 6 a 0] ++ We at v5
    have hlt : e < K.length := kn_lt (by rw [hke]; exact hkk)
    refine CaI.on (s_221 (N := N1) hS1 x4 (by omega)) ?_
    rintro r F2 hS2 ⟨rfl, m1, m2, m3, m4, m5⟩
    rw [Int.toNat_natCast, m4 59 (by decide), v1]
    refine ⟨by omega, by omega, ?_⟩
    obtain ⟨F3, d3⟩ : ∃ F3, F3 = m_up (m_up F2 223 N1 (a : Int)) 224 N1 (v : Int) := ⟨_, rfl⟩
    rw [← d3]
    have hS3 : St F3 := by rw [d3]; exact (hS2.arr kd_223 (by decide)).arr kd_224 (by decide)
    have z3 : ∀ c i, ¬ ((c = 223 ∨ c = 224) ∧ i = N1) → F3 c i = F2 c i := fun c i x => by rw [d3, u_ne (by omega), u_ne (by omega)]
    have ag3 : Agf F1 F3 N1 := fun c i x y z => (z3 c i (by omega)).trans (m3 c i x y z)
    have w3 : ∀ j, j ≠ 27 → F3 201 j = F1 201 j := fun j x => (z3 201 j (by omega)).trans (m4 j x)
    have zz3 : ∀ c, c ≠ 201 → ¬ (221 ≤ c ∧ c ≤ 229) → F3 c = F1 c := fun c x y => (funext fun i => z3 c i (by omega)).trans (m5 c (by omega))
    have hC3 : CU F3 K n0 S C Fn U N := hC1.cong (ag3.le x5) (fun c i x y _ => by rw [zz3 c (by omega) (by omega)]) (w3 48 (by decide)) (w3 49 (by decide))
    refine CaV.on (s_238 (m := N) hS3 hC3 ((w3 41 (by decide)).trans g41) x5 (by omega) ((z3 227 N1 (by omega)).trans m2.2.2.2.2.2.2.1) (by omega)) ?_
    rintro F4 hS4 ⟨p1, p2, p3, p4, p5, p6⟩
    have rr := v2.rng
    have ag4 : ∀ c i, 221 ≤ c → c ≤ 229 → N ≤ i → i < N1 → F4 c i = F1 c i := fun c i x y z w => (p3 c i x y z (by omega)).trans (ag3 c i x y w)
    have nn : ∀ c, 221 ≤ c → c ≤ 228 → F4 c N1 = F3 c N1 := fun c x y => p3 c N1 x (by omega) x5 (by omega)
    have hX : Xp F4 K N N1 (F4 224 N1) We := by
      rw [nn 224 (by decide) (by decide), d3, u_eq]
      exact ⟨v, N, N1, f, rfl, Nat.le_refl _, Nat.le_refl _, v2.cong (fun i x y => ⟨ag4 221 i (by decide) (by decide) x y, ag4 222 i (by decide) (by decide) x y, ag4 224 i (by decide) (by decide) x y, ag4 225 i (by decide) (by decide) x y, fun _ => ⟨ag4 223 i (by decide) (by decide) x y, ag4 227 i (by decide) (by decide) x y⟩⟩), (ag4 223 v (by decide) (by decide) rr.1 rr.2).trans v3, (ag4 227 v (by decide) (by decide) rr.1 rr.2).trans v4⟩
    have n221 : F4 221 N1 = (kd : Int) := (nn 221 (by decide) (by decide)).trans ((z3 221 N1 (by omega)).trans m2.1)
    have n222 : F4 222 N1 = (p : Int) := (nn 222 (by decide) (by decide)).trans ((z3 222 N1 (by omega)).trans m2.2.1)
    have n223 : F4 223 N1 = (a : Int) := by rw [nn 223 (by decide) (by decide), d3, u_ne (by omega), u_eq]
    have n226 : F4 226 N1 = -1 := (nn 226 (by decide) (by decide)).trans ((z3 226 N1 (by omega)).trans m2.2.2.2.2.2.1)
    have g26 : F4 201 26 = (e : Int) := (p2 26).trans ((w3 26 (by decide)).trans x2)
    have g27 : F4 201 27 = ((N1 + 1 : Nat) : Int) := (p2 27).trans ((z3 201 27 (by omega)).trans m1)
    have g41' : F4 201 41 = (S.length : Int) := (p2 41).trans ((w3 41 (by decide)).trans g41)
    have e4 : ErrM F4 E := e1.cong ((p2 37).trans (w3 37 (by decide))) (fun c x y => (p6 c (by omega)).trans (zz3 c (by omega) (by omega)))
    have rf4 : RF n0 F F4 := rf1.tr ⟨fun j x1 x2 x3 x4 x5 x6 x7 x8 x9 x10 x11 x12 x13 => (p2 j).trans (w3 j x2), fun c i x y z => (p5 c i x y z).trans (ag3 c i x y (by omega)), fun c hc => (p6 c (fun e => hc (by omega))).trans (zz3 c (fun e => hc (Or.inl e)) (fun e => hc (by omega)))⟩
    refine ⟨fun hkd => ?_, fun hkd => ?_⟩
    · have hkd' : kd = 10 := by omega
      obtain rfl := hk2 hkd'
      rw [g26]
      refine CaV.on (s_237_1 (a := p) (t := e) hS4 (by omega) g27 (by omega) g41' (by omega) (by omega) p1 (by omega) (n221.trans hkd) n222 n223 hX n226) ?_
      rintro F5 hS5 ⟨t1, t2, t3, t4, t5, t6⟩
      have ez : rrz K p kd o p k S C E Fn U (y1, e, y3, Y) = (e + 1, (2, (Y.length : Int)) :: S, Y ++ [mk 11 p 0, mk 3 e 0], E, Fn, U) := by
        show (if y1 = 3 ∧ kn K e = k then (if kd = 10 then _ else _) else _) = _
        rw [if_pos ⟨h3 h0, hke⟩, if_pos hkd']
      have eY : Y.length = C.length + 1 + We.length := by rw [v5]; simp only [List.length_append, List.length_cons, List.length_nil]
      have eY2 : Y ++ [mk 11 p 0, mk 3 e 0] = C ++ mk 6 p 0 :: (We ++ [mk 11 p 0, mk 3 e 0]) := by rw [v5]; simp only [List.append_assoc, List.cons_append, List.nil_append]
      rw [ez, eY, eY2]
      refine ⟨rf4.tr t1, N1 + 1 + 1, by omega, ?_, RS.lv t2 t3 t4 (e4.cong t5.1 t5.2) t6⟩
      show N1 + 1 + 1 + 2 * p ≤ N + 2 * (e + 1)
      omega
    · have hkd' : kd ≠ 10 := by omega
      rw [g26]
      refine ⟨by omega, ?_⟩
      obtain ⟨F5, d5⟩ : ∃ F5, F5 = m_up F4 201 26 ((e : Int) + 1) := ⟨_, rfl⟩
      rw [← d5]
      have z5 : ∀ c, c ≠ 201 → F5 c = F4 c := fun c hc => by rw [d5, up_row hc]
      have w5 : ∀ j, j ≠ 26 → F5 201 j = F4 201 j := fun j hj => by rw [d5, u_ne (Or.inr hj)]
      have hd := p1.done (N := N1 + 1) (Sme.simple (e := (if kd = 5 then e else 0)) (Or.resolve_right hk hkd') n221 x5 (Nat.lt_succ_self N1) n223 n222 hX (hp256)) rfl
      have hd5 := hd.cong (F' := F5) (fun c i x y _ => by rw [z5 c (by omega)]) (fun c i x y _ => by rw [z5 c (by omega)]) (w5 48 (by decide)) (w5 49 (by decide))
      have ez : rrz K a kd o p k S C E Fn U (y1, e, y3, Y) = (e + 1, S, Y ++ [mk o p (if kd = 5 then e else 0)], E, Fn, U) := by
        show (if y1 = 3 ∧ kn K e = k then (if kd = 10 then _ else _) else _) = _
        rw [if_pos ⟨h3 h0, hke⟩, if_neg hkd']
      have eY2 : Y ++ [mk o p (if kd = 5 then e else 0)] = C ++ mk 6 a 0 :: (We ++ [mk o p (if kd = 5 then e else 0)]) := by rw [v5]; simp only [List.append_assoc, List.cons_append, List.nil_append]
      rw [ez, eY2]
      refine ⟨rf4.tr ⟨fun j x1 x2 x3 x4 x5 x6 x7 x8 x9 x10 x11 x12 x13 => w5 j x1, fun c i x y z => by rw [z5 c (by omega)], fun c hc => z5 c (fun e => hc (Or.inl e))⟩, N1 + 1, by omega, ?_, RS.lv (by rw [d5, u_eq]; omega) ((w5 27 (by decide)).trans g27) ((w5 41 (by decide)).trans g41') (e4.cong (w5 37 (by decide)) (fun c x y => z5 c (by omega))) hd5⟩
      show N1 + 1 + 2 * a ≤ N + 2 * (e + 1)
      omega
  refine c_244 hS ?_
  rw [← d0]
  refine ⟨fun e7 => ?_, fun e7 => ?_⟩
  · have hcd : called = true := hcl.mpr (by omega)
    rw [hcd] at hy
    exact CaV.on hy key
  · have hcd : called = false := by
      cases called with
      | true => exact absurd (hcl.mp rfl) (by omega)
      | false => rfl
    rw [hcd] at hy
    exact CaV.on hy key
end M9d
