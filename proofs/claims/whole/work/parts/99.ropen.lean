/-! READING, OF THE REFERENCE: statements broken, blocks opened -/
/-- what reading may change -/
def RF (n0 : Nat) (F F' : MF) : Prop := (∀ j, j ≠ 26 → j ≠ 27 → j ≠ 37 → j ≠ 41 → j ≠ 48 → j ≠ 49 → j ≠ 51 → j ≠ 53 → j ≠ 54 → j ≠ 58 → j ≠ 59 → j ≠ 60 → j ≠ 63 → F' 201 j = F 201 j) ∧ Agf F F' n0 ∧ fr (fun c => c = 201 ∨ (221 ≤ c ∧ c ≤ 236) ∨ (238 ≤ c ∧ c ≤ 244)) F F'
section M99
variable {F F' : MF} {K : List Int} {n0 N a : Nat} {S : List (Int × Int)} {C : List Int} {E : EE} {Fn : FF} {U : List Int}
theorem RF.rf : RF n0 F F := ⟨fun _ _ _ _ _ _ _ _ _ _ _ _ _ _ => rfl, Agf.rf, fr.rf⟩
theorem RF.tr {F1 : MF} (h : RF n0 F F1) (k : RF n0 F1 F') : RF n0 F F' := ⟨fun j a b c d e f g i x y z w u => (k.1 j a b c d e f g i x y z w u).trans (h.1 j a b c d e f g i x y z w u), h.2.1.tr k.2.1 (Nat.le_refl _), h.2.2.tr k.2.2⟩
theorem TE.rf (h : TE n0 F F') : RF n0 F F' := ⟨fun j a b _ _ _ _ c d e f g i x => h.2 j a b c d e f g i x, h.1.1, h.1.2.mo (fun c hc => by omega)⟩
theorem RF.sq (h : RF n0 F F') (hQ : SQ F K) : SQ F' K := fun i hi => by rw [h.2.2 220 (by omega)]; exact hQ i hi
theorem ErrM.cong (h : ErrM F E) (h1 : F' 201 37 = F 201 37) (h2 : ∀ c, 230 ≤ c → c ≤ 232 → F' c = F c) : ErrM F' E := by
  unfold ErrM
  rw [h1, h2 230 (by decide) (by decide), h2 231 (by decide) (by decide), h2 232 (by decide) (by decide)]
  exact h
/-- the words of a broken statement; the place behind it -/
theorem s_242 {e : Nat} (hS : St F) (hQ : SQ F K) (hK : K.length ≤ 195) (he : e ≤ K.length) (hE : ErrM F E) (hEl : E.length < 300) (h27 : F 201 27 = (N : Int)) (hN : N < 1600) (h41 : F 201 41 = (S.length : Int)) (hSl : S.length < 200) (hn : n0 ≤ N) (h : CU F K n0 S C Fn U N) :
    C_242 (a : Int) (e : Int) F (fun F' => RF n0 F F' ∧ F' 201 26 = ((skS K (K.length - e) e : Nat) : Int) ∧ F' 201 27 = ((N + 1 : Nat) : Int) ∧ F' 201 41 = (S.length : Int) ∧ ErrM F' (E ++ [((e : Int), (a : Int), ((skS K (K.length - e) e : Nat) : Int) - 1)]) ∧ CU F' K n0 S (C ++ [mk 13 a 0]) Fn U (N + 1)) m_no := by
  refine c_242 hS ?_
  obtain ⟨F0, d0⟩ : ∃ F0, F0 = m_up F 201 26 (e : Int) := ⟨_, rfl⟩
  rw [← d0]
  have hS0 : St F0 := by rw [d0]; exact hS.fld kd_201 rk_12_26
  have z0 : ∀ c, c ≠ 201 → F0 c = F c := fun c hc => by rw [d0, up_row hc]
  have w0 : ∀ j, j ≠ 26 → F0 201 j = F 201 j := fun j hj => by rw [d0, u_ne (Or.inr hj)]
  refine CaV.on (s_241 (K := K) (a := e) hS0 (fun i hi => by rw [z0 220 (by decide)]; exact hQ i hi) hK (by rw [d0, u_eq]) he) ?_
  rintro F1 hS1 ⟨z1, w1, h26⟩
  have hle := skS_le K (K.length - e) e
  rw [h26]
  refine ⟨by omega, ?_⟩
  have hE1 : ErrM F1 E := hE.cong ((w1 37 (by decide)).trans (w0 37 (by decide))) (fun c x y => by rw [z1 c (by omega), z0 c (by omega)])
  refine CaV.on (s_222 hS1 hE1 (by omega)) ?_
  rintro F2 hS2 ⟨k1, k2, k3⟩
  have z2 : ∀ c, c ≠ 201 → ¬ (230 ≤ c ∧ c ≤ 232) → F2 c = F c := fun c x y => by rw [k3 c (by omega), z1 c x, z0 c x]
  have w2 : ∀ j, j ≠ 26 → j ≠ 37 → F2 201 j = F 201 j := fun j x y => by rw [k2 j y, w1 j x, w0 j x]
  refine CaI.on (s_221 (N := N) hS2 ((w2 27 (by decide) (by decide)).trans h27) hN) ?_
  rintro r F3 hS3 ⟨rfl, m1, m2, m3, m4, m5⟩
  have ag : Agf F F3 N := fun c i x y z => (m3 c i x y z).trans (by rw [z2 c (by omega) (by omega)])
  have w3 : ∀ j, j ≠ 26 → j ≠ 27 → j ≠ 37 → F3 201 j = F 201 j := fun j x y z => (m4 j y).trans (w2 j x z)
  have z3 : ∀ c, c ≠ 201 → ¬ (221 ≤ c ∧ c ≤ 232) → F3 c = F c := fun c x y => by rw [m5 c (by omega), z2 c x (by omega)]
  have hC3 : CU F3 K n0 S C Fn U N := h.cong ag (fun c i x y _ => by rw [z3 c (by omega) (by omega)]) (w3 48 (by decide) (by decide) (by decide)) (w3 49 (by decide) (by decide) (by decide))
  refine CaV.on (s_238 (m := N) hS3 hC3 ((w3 41 (by decide) (by decide) (by decide)).trans h41) (Nat.le_refl _) hN m2.2.2.2.2.2.2.1 hSl) ?_
  rintro F4 hS4 ⟨p1, p2, p3, p4, p5, p6⟩
  refine ⟨⟨fun j x1 x2 x3 x4 x5 x6 x7 x8 x9 x10 x11 x12 x13 => ?_, fun c i x y z => ?_, fun c hc => ?_⟩, ?_, ?_, ?_, ?_, p1.done (c := C.length) (Sme.broken ?_ (Nat.le_refl _) (Nat.lt_succ_self _) ?_) rfl⟩
  · rw [p2, w3 j x1 x2 x3]
  · rw [p5 c i x y z]; exact ag c i x y (by omega)
  · rw [p6 c (fun e => hc (by omega)), z3 c (fun e => hc (Or.inl e)) (fun e => hc (by omega))]
  · rw [p2, m4 26 (by decide), k2 26 (by decide)]; exact h26
  · rw [p2]; exact m1
  · rw [p2, w3 41 (by decide) (by decide) (by decide)]; exact h41
  · exact k1.cong (by rw [p2, m4 37 (by decide)]) (fun c x y => by rw [p6 c (by omega), m5 c (by omega)])
  · rw [p3 221 N (by decide) (by decide) (Nat.le_refl _) (by omega)]; exact m2.1
  · rw [p3 222 N (by decide) (by decide) (Nat.le_refl _) (by omega)]; exact m2.2.1
theorem l_85 {x1 x2 : Int} {t b i : Nat} {R : MF → Prop} (hS : St F) (h41 : F 201 41 = (i : Int)) (hi : i < 200) (ht : t < 1000)
    (hR : ∀ F', St F' → F' 233 i = (b : Int) → F' 234 i = -1 → F' 235 i = x1 → F' 236 i = x2 → F' 201 41 = ((i + 1 : Nat) : Int) → F' 201 26 = ((t + 1 : Nat) : Int) → (∀ j, j ≠ 26 → j ≠ 41 → F' 201 j = F 201 j) → (∀ c j, c ≠ 201 → ¬ (233 ≤ c ∧ c ≤ 236 ∧ j = i) → F' c j = F c j) → R F') : L_237_85 x1 x2 (t : Int) (b : Int) F R m_no := by
  refine b_237_85 hS ?_
  rw [h41, Int.toNat_natCast]
  refine ⟨by omega, by omega, by omega, by omega, by omega, by omega, hR _ ?_ ?_ ?_ ?_ ?_ ?_ ?_ (fun j x y => ?_) (fun c j x y => ?_)⟩
  · exact (((((hS.arr kd_233 (by decide)).arr kd_234 (by decide)).arr kd_235 (by decide)).arr kd_236 (by decide)).fld kd_201 rk_12_41).fld kd_201 rk_12_26
  · rw [u_ne (by omega), u_ne (by omega), u_ne (by omega), u_ne (by omega), u_ne (by omega), u_eq]
  · rw [u_ne (by omega), u_ne (by omega), u_ne (by omega), u_ne (by omega), u_eq]
  · rw [u_ne (by omega), u_ne (by omega), u_ne (by omega), u_eq]
  · rw [u_ne (by omega), u_ne (by omega), u_eq]
  · rw [u_ne (by omega), u_eq]; omega
  · rw [u_eq]; omega
  · rw [u_ne (by omega), u_ne (by omega), u_ne (by omega), u_ne (by omega), u_ne (by omega), u_ne (by omega)]
  · rw [u_ne (by omega), u_ne (by omega), u_ne (by omega), u_ne (by omega), u_ne (by omega), u_ne (by omega)]
/-- what stands behind a block's beginning -/
def OpR (n0 : Nat) (K : List Int) (F : MF) (t N : Nat) (S : List (Int × Int)) (C : List Int) (Fn : FF) (U : List Int) (F' : MF) : Prop :=
  RF n0 F F' ∧ F' 201 26 = ((t + 1 : Nat) : Int) ∧ F' 201 27 = ((N + 1 : Nat) : Int) ∧ F' 201 41 = (S.length : Int) ∧ (F' 201 37 = F 201 37 ∧ ∀ c, 230 ≤ c → c ≤ 232 → F' c = F c) ∧ CU F' K n0 S C Fn U (N + 1)
/-- an empty block, on the top -/
theorem CU.new {q st : Int} {b : Nat} (h : OB F K n0 Fn U ((q, st) :: S) b (b + 1) C) (h1 : F 224 b = -1) (h2 : F 234 S.length = -1) (hb : b < N) : CU F K n0 ((q, st) :: S) C Fn U N :=
  ⟨b, b + 1, C, 0, -1, -1, [], h, ⟨by omega, rfl, rfl, rfl⟩, h1, by rw [List.length_cons, Nat.add_sub_cancel]; exact h2, fun e => absurd rfl e, (List.append_nil _).symm⟩
/-- a block that is a statement -/
theorem s_237_3 {t : Nat} (hS : St F) (ht : t < 200) (h27 : F 201 27 = (N : Int)) (hN : N < 1600) (h41 : F 201 41 = (S.length : Int)) (hSl : S.length < 199) (hn : n0 ≤ N) (h : CU F K n0 S C Fn U N) :
    C_237 3 (-1) (t : Int) F (OpR n0 K F t N ((1, -1) :: S) (C ++ [mk 6 t 0, mk 3 t 0]) Fn U) m_no := by
  have hne := h.rng.1
  have hpos : 0 < S.length := List.length_pos_iff.mpr hne
  refine c_237 hS ?_
  refine CaI.on (s_221 (N := N) hS h27 hN) ?_
  rintro r F1 hS1 ⟨rfl, m1, m2, m3, m4, m5⟩
  rw [m4 41 (by decide), h41, show (S.length : Int) - 1 = ((S.length - 1 : Nat) : Int) by omega, Int.toNat_natCast, Int.toNat_natCast]
  refine ⟨fun e => absurd e (by decide), fun _ => ⟨by omega, by omega, by omega, fun _ => ?_, fun e => absurd rfl e⟩⟩
  obtain ⟨F2, d2⟩ : ∃ F2, F2 = m_up F1 229 N (F1 233 (S.length - 1)) := ⟨_, rfl⟩
  rw [← d2]
  have hS2 : St F2 := by rw [d2]; exact hS1.arr kd_229 (by decide)
  have z2 : ∀ c i, ¬ (c = 229 ∧ i = N) → F2 c i = F1 c i := fun c i x => by rw [d2, u_ne (by omega)]
  have ag : Agf F F2 N := fun c i x y z => (z2 c i (by omega)).trans (m3 c i x y z)
  have w2 : ∀ j, j ≠ 27 → F2 201 j = F 201 j := fun j x => (z2 201 j (by omega)).trans (m4 j x)
  have zz : ∀ c, c ≠ 201 → ¬ (221 ≤ c ∧ c ≤ 229) → F2 c = F c := fun c x y => (funext fun i => z2 c i (by omega)).trans (m5 c (by omega))
  have hC2 : CU F2 K n0 S C Fn U N := h.cong ag (fun c i x y _ => by rw [zz c (by omega) (by omega)]) (w2 48 (by decide)) (w2 49 (by decide))
  refine CaV.on (s_238 (m := N) hS2 hC2 ((w2 41 (by decide)).trans h41) (Nat.le_refl _) hN ((z2 227 N (by omega)).trans m2.2.2.2.2.2.2.1) (by omega)) ?_
  rintro F3 hS3 ⟨p1, p2, p3, p4, p5, p6⟩
  refine ⟨fun e => absurd e (by decide), fun _ => l_85 (i := S.length) hS3 ((p2 41).trans ((w2 41 (by decide)).trans h41)) (by omega) (by omega) (fun F4 hS4 q1 q2 q3 q4 q5 q6 q7 q8 => ?_)⟩
  have nd : ∀ c i, 221 ≤ c → c ≤ 229 → F4 c i = F3 c i := fun c i x y => q8 c i (by omega) (by omega)
  have b2 : ∀ c, 221 ≤ c → c ≤ 228 → F4 c N = F1 c N := fun c x y => (nd c N x (by omega)).trans ((p3 c N x (by omega) (Nat.le_refl _) (by omega)).trans (z2 c N (by omega)))
  have lo : ∀ c i, 233 ≤ c → c ≤ 236 → i < S.length → F4 c i = F3 c i := fun c i x y z => q8 c i (by omega) (by omega)
  have pd : PD (OB F4 K n0 Fn U S) F4 K (S.length - 1) N N C := p1.cong (fun b0 lo0 C0 g e1 e2 e3 => OB.cong _ _ _ _ g (fun c i x y z _ => nd c i x y) (fun c i x y z _ => lo c i x y z) (q7 48 (by decide) (by decide)) (q7 49 (by decide) (by decide))) (fun b0 lo0 C0 g => OB.low _ _ _ _ g) (fun c j x y _ => nd c j x y) (lo 234 _ (by decide) (by decide) (by omega)) (nd 227 N (by decide) (by decide)) (nd 229 N (by decide) (by decide))
  refine ⟨⟨fun j x1 x2 x3 x4 x5 x6 x7 x8 x9 x10 x11 x12 x13 => ?_, fun c i x y z => ?_, fun c hc => ?_⟩, q6, ?_, by rw [q5, List.length_cons], ⟨?_, fun c x y => ?_⟩, CU.new (b := N) ⟨⟨q1, (b2 221 (by decide) (by decide)).trans m2.1, (b2 228 (by decide) (by decide)).trans m2.2.2.2.2.2.2.2.1, rfl⟩, Or.inr (Or.inl ⟨rfl, q3, N, t, C, pd, (b2 226 (by decide) (by decide)).trans m2.2.2.2.2.2.1, (b2 222 (by decide) (by decide)).trans m2.2.1, rfl⟩)⟩ ((b2 224 (by decide) (by decide)).trans m2.2.2.2.1) q2 (Nat.lt_succ_self N)⟩
  · rw [q7 j x1 x4, p2, w2 j x2]
  · rw [nd c i x y, p5 c i x y z]; exact ag c i x y (by omega)
  · funext i
    rw [q8 c i (fun e => hc (Or.inl e)) (fun e => hc (by omega)), p6 c (fun e => hc (by omega)), zz c (fun e => hc (Or.inl e)) (fun e => hc (by omega))]
  · rw [q7 27 (by decide) (by decide), p2, z2 201 27 (by omega)]; exact m1
  · rw [q7 37 (by decide) (by decide), p2, w2 37 (by decide)]
  · funext i
    rw [q8 c i (by omega) (by omega), p6 c (by omega), zz c (by omega) (by omega)]
end M99
