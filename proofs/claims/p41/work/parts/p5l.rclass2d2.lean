/-! RUNNING, OF THE CLASS: words -/
section Md2
variable {F G : MF} {X : Nat → List Int} {n f p k t : Nat} {g : Nat → Int} {r fs : List RuF} {vs vs' : List Int} {s : Nat} {res v w a : Int} {S S1 : RuS} {R : MF → Prop}
theorem topF.cong (h : topF F fs) (e7 : G 91 7 = F 91 7) (e8 : G 91 8 = F 91 8) (e : ∀ c, c = 92 ∨ c = 94 ∨ c = 95 → G c = F c) : topF G fs := by
  cases fs with
  | nil => trivial
  | cons b r =>
    obtain ⟨t1, t2, t3, t4, t5, t6⟩ := h
    exact ⟨by rw [e7]; exact t1, by rw [e8]; exact t2, fun t ht => by rw [e 92 (Or.inl rfl)]; exact t3 t ht, t4, t5, lowF.cong r t6 (fun c i h => by rw [e c (by omega)])⟩
theorem RunC.vls (h : RunC F (fs, vs, s, res)) (h5 : G 91 5 = (vs'.length : Int)) (hA : AL (G 93) vs'.reverse) (hl : vs'.length ≤ 800) (e : ∀ j, j ≠ 5 → G 91 j = F 91 j) (hf : fr (fun c => c = 91 ∨ c = 93) F G) : RunC G (fs, vs', s, res) := by
  obtain ⟨k1, k2, k3, k4, k5, k6⟩ := h
  exact ⟨by rw [e 4 (by decide)]; exact k1, k2, ⟨h5, hA, hl⟩, by rw [e 6 (by decide)]; exact k4, by rw [e 9 (by decide)]; exact k5, topF.cong k6 (e 7 (by decide)) (e 8 (by decide)) (fun c hc => hf c (by omega))⟩
theorem RunC.pl {p' : Nat} (h : RunC F ((f, p, g) :: r, vs, s, res)) (hp : p' ≤ 40000) : RunC (m_up F 91 8 (p' : Int)) ((f, p', g) :: r, vs, s, res) := by
  obtain ⟨k1, k2, ⟨k3, k3a, k3b⟩, k4, k5, t1, t2, t3, t4, t5, t6⟩ := h
  refine ⟨by rw [u_ne (Or.inr (by decide))]; exact k1, k2, ⟨by rw [u_ne (Or.inr (by decide))]; exact k3, by rw [up_row (by decide)]; exact k3a, k3b⟩, by rw [u_ne (Or.inr (by decide))]; exact k4, by rw [u_ne (Or.inr (by decide))]; exact k5, by rw [u_ne (Or.inr (by decide))]; exact t1, u_eq, fun t ht => by rw [u_ne (Or.inl (by decide))]; exact t3 t ht, t4, hp, lowF.cong r t6 (fun c i h => u_ne (Or.inl (by omega)))⟩
theorem RunC.st (h : RunC F (fs, vs, s, res)) : RunC (m_up F 91 6 ((s : Int) + 1)) (fs, vs, s + 1, res) := by
  obtain ⟨k1, k2, ⟨k3, k3a, k3b⟩, k4, k5, k6⟩ := h
  refine ⟨by rw [u_ne (Or.inr (by decide))]; exact k1, k2, ⟨by rw [u_ne (Or.inr (by decide))]; exact k3, by rw [up_row (by decide)]; exact k3a, k3b⟩, by rw [u_eq]; show (s : Int) + 1 = ((s + 1 : Nat) : Int); omega, by rw [u_ne (Or.inr (by decide))]; exact k5, topF.cong k6 (u_ne (Or.inr (by decide))) (u_ne (Or.inr (by decide))) (fun c hc => up_row (by omega))⟩
theorem RunC.var {x : Nat} (h : RunC F ((f, p, g) :: r, vs, s, res)) (hx : x < 200) : RunC (m_up F 92 (200 * r.length + x) a) ((f, p, fun y => if y = x then a else g y) :: r, vs, s, res) := by
  obtain ⟨k1, k2, ⟨k3, k3a, k3b⟩, k4, k5, t1, t2, t3, t4, t5, t6⟩ := h
  refine ⟨by rw [u_ne (Or.inl (by decide))]; exact k1, k2, ⟨by rw [u_ne (Or.inl (by decide))]; exact k3, by rw [up_row (by decide)]; exact k3a, k3b⟩, by rw [u_ne (Or.inl (by decide))]; exact k4, by rw [u_ne (Or.inl (by decide))]; exact k5, by rw [u_ne (Or.inl (by decide))]; exact t1, by rw [u_ne (Or.inl (by decide))]; exact t2, fun t ht => ?_, t4, t5, lowF.cong r t6 (fun c i h => u_ne (by omega))⟩
  show _ = (if t = x then a else g t)
  by_cases e : t = x
  · rw [if_pos e, e, u_eq]
  · rw [if_neg e, u_ne (Or.inr (by omega))]; exact t3 t ht
theorem rgo_some (h : rgo f p g r vs s res = some S1) : vs.length ≤ 800 ∧ S1 = ((f, p, g) :: r, vs, s, res) := by
  unfold rgo at h
  split at h
  · next c => injection h with h; exact ⟨c, h.symm⟩
  · cases h
theorem rlv_some (h : rlv v r vs s = some S1) : vs.length < 800 ∧ S1 = (r, v :: vs, s, v) := by
  unfold rlv at h
  split at h
  · next c => injection h with h; exact ⟨c, h.symm⟩
  · cases h
theorem s_83r (hS : St F) (hR : RunC F (fs, a :: vs, s, res)) : C_83 F (fun x F' => x = a ∧ RunC F' (fs, vs, s, res) ∧ fr RunP F F') m_no := by
  have hR' := hR
  obtain ⟨-, -, ⟨k3, k3a, k3b⟩, -⟩ := hR'
  have k3b' : vs.length + 1 ≤ 800 := k3b
  refine CaL.on (s_83 hS k3 k3a (by omega)) ?_
  rintro x F1 hS1 ⟨q1, q2, q3, q4, q5⟩
  exact ⟨q1, hR.vls q2 q3 (by omega) q4 (q5.mo (fun c hc => Or.inl hc)), q5.mo (fun c hc => by unfold RunP; omega)⟩
theorem s_82r (hS : St F) (hR : RunC F (fs, vs, s, res)) (hl : vs.length < 800) : C_82 a F (fun F' => RunC F' (fs, a :: vs, s, res) ∧ fr RunP F F') m_no := by
  have hR' := hR
  obtain ⟨-, -, ⟨k3, k3a, k3b⟩, -⟩ := hR'
  refine CaV.on (s_82 hS k3 k3a hl) ?_
  rintro F1 hS1 ⟨q2, q3, q4, q5⟩
  exact ⟨hR.vls q2 q3 (by show vs.length + 1 ≤ 800; omega) q4 q5, q5.mo (fun c hc => by unfold RunP; omega)⟩
theorem s_85r (hS : St F) (hR : RunC F ((f, p, g) :: r, vs, s, res)) (hl : vs.length < 800) : C_85 a F (fun F' => RunC F' (r, a :: vs, s, a) ∧ fr RunP F F') m_no := by
  obtain ⟨k1, k2, ⟨k3, k3a, k3b⟩, k4, k5, k6⟩ := hR
  have k2' : r.length + 1 ≤ 4 := k2
  exact s_85 (a := (f, p, g)) hS k1 (by omega) k3 k3a hl k4 k6.2.2.2.2.2
theorem cmp0 {x : Int} : (if x < 0 then (-1 : Int) else if x = 0 then 0 else 1) = 0 ↔ x = 0 := by
  split
  · omega
  · split <;> omega
/-- words of statements -/
theorem s_86 {S' : RuS} (hn : n ∈ m_I1) (hS : St F) (hX : ∀ r, r < 24 → Rok (X r)) (hb : ∀ id, id < 600 → F (n + 7) id = bnd X id) (hp : p < (Cw X f).length) (hw : gx (Cw X f) p = w) (hR : RunC F ((f, p + 1, g) :: r, vs, s, res)) (h14 : wo w < 14) (hrs : rsw X w f p g r vs s res = some S') :
    C_86 n w F (fun F' => RunC F' S' ∧ fr RunP F F') m_no := by
  have hf : f < 3 := hR.2.2.2.2.2.2.2.2.1
  have h7 : F 91 7 = (f : Int) := hR.2.2.2.2.2.1
  have h8 : F 91 8 = ((p + 1 : Nat) : Int) := hR.2.2.2.2.2.2.1
  have h4 : F 91 4 = ((r.length + 1 : Nat) : Int) := hR.1
  have h6 : F 91 6 = (s : Int) := hR.2.2.2.1
  have hl8 : vs.length ≤ 800 := hR.2.2.1.2.2
  have hpl : p + 1 ≤ 40000 := hR.2.2.2.2.2.2.2.2.2.1
  have h32 := (Fw_len hX hf).2.2.2 p hp
  rw [hw] at h32
  have hwc := Cw_wc hX hf hp
  rw [hw] at hwc
  obtain ⟨o, q, e, e1, e2, e3⟩ := hwc
  have ho : o < 256 := by unfold oX at e3; omega
  have w1 := wo_mk (o := o) (t := q) (e := e) ho
  have w2 := wt_mk (o := o) (t := q) (e := e) ho e2
  have w3 := we_mk (o := o) (t := q) (e := e) ho e2
  rw [← e1] at w1 w2 w3
  have we8 : 0 ≤ we w ∧ we w < 32768 := by unfold we; omega
  have g0 : ∀ F : MF, g_198 F w = (o : Int) := fun F => by rw [g198 h32, w1]
  have g1 : ∀ F : MF, g_199 F w = (q : Int) := fun F => by rw [g199 h32, w2]
  have g2 : ∀ F : MF, g_200 F w = ((we w).toNat : Int) := fun F => by rw [g200 h32]; omega
  have htk : o = 7 ∨ o = 8 → 200 * f + q < 600 := fun h => by
    have k0 : kn (ks X f) q = 0 := by unfold oX at e3; omega
    have := kn_tok (by rw [k0]; decide : kn (ks X f) q ≠ 24)
    have := toks_len hX hf
    omega
  unfold rsw at hrs
  rw [w1, w2, Int.toNat_natCast, if_neg (by omega), if_neg (by omega), if_neg (by omega), if_neg (by omega)] at hrs
  refine c_86 hn hS ?_
  rw [g0, g1]
  refine ⟨fun c => ?_, fun c => ?_, fun c => ?_, fun c => ?_, fun c => ?_, fun c => ?_, fun c => ?_, fun c => ?_⟩
  · rw [if_pos c] at hrs
    obtain ⟨l, rfl⟩ := rlv_some hrs
    exact s_85r hS hR l
  · rw [if_neg (by omega), if_pos c] at hrs
    rw [h6]
    refine ⟨fun c2 => ⟨by omega, ?_⟩, fun c2 => ?_⟩
    · rw [if_neg (by omega)] at hrs
      obtain ⟨l, rfl⟩ := rgo_some hrs
      exact ⟨hR.st, fr.rf.up (by unfold RunP; omega)⟩
    · rw [if_pos (by omega)] at hrs
      obtain ⟨l, rfl⟩ := rlv_some hrs
      exact s_85r hS hR l
  · rw [if_neg (by omega), if_neg (by omega), if_pos c] at hrs
    have ht := htk (by omega)
    rw [h7, show (f : Int) * 200 + (q : Int) = ((200 * f + q : Nat) : Int) by omega, Int.toNat_natCast, hb _ ht]
    refine ⟨by omega, by omega, by omega, ?_⟩
    cases vs with
    | nil => cases hrs
    | cons a vs =>
      refine CaL.on (s_83r hS hR) ?_
      rintro x F1 hS1 ⟨rfl, q2, q3⟩
      change rgo f (p + 1) (if bnd X (200 * f + q) = -1 then g else fun x_1 => if x_1 = (bnd X (200 * f + q)).toNat % 200 then x else g x_1) r vs s res = some S' at hrs
      have br := bnd_rng hX (200 * f + q) ht
      refine c_92 hS1 ⟨fun c1 => ?_, fun c1 => ?_⟩
      · rw [if_pos c1] at hrs
        obtain ⟨l, rfl⟩ := rgo_some hrs
        exact ⟨q2, q3⟩
      · rw [if_neg c1] at hrs
        obtain ⟨l, rfl⟩ := rgo_some hrs
        have h4' : F1 91 4 = ((r.length + 1 : Nat) : Int) := q2.1
        have hr4 : r.length + 1 ≤ 4 := q2.2.1
        have eg : g_90 F1 (bnd X (200 * f + q)) = ((200 * r.length + (bnd X (200 * f + q)).toNat % 200 : Nat) : Int) := by unfold g_90; rw [h4']; omega
        rw [eg, Int.toNat_natCast]
        refine ⟨?_, by omega, q2.var (by omega), q3.up (by unfold RunP; omega)⟩
        unfold o_90
        rw [h4']
        exact ⟨by omega, by omega, by omega, by omega, trivial⟩
  · rw [if_neg (by omega), if_neg (by omega), if_neg (by omega), if_pos c] at hrs
    cases vs with
    | nil => cases hrs
    | cons a vs =>
      obtain ⟨l, rfl⟩ := rgo_some hrs
      refine CaL.on (s_83r hS hR) ?_
      rintro x F1 hS1 ⟨-, q2, q3⟩
      exact ⟨q2, q3⟩
  · rw [if_neg (by omega), if_neg (by omega), if_neg (by omega), if_neg (by omega), if_pos c] at hrs
    cases vs with
    | nil => cases hrs
    | cons a vs =>
      obtain ⟨l, rfl⟩ := rlv_some hrs
      refine CaL.on (s_83r hS hR) ?_
      rintro x F1 hS1 ⟨rfl, q2, q3⟩
      exact CaV.on (s_85r hS1 q2 l) (fun F2 _ k => ⟨k.1, q3.tr k.2⟩)
  · rw [if_neg (by omega), if_neg (by omega), if_neg (by omega), if_neg (by omega), if_neg (by omega), if_pos c] at hrs
    cases vs with
    | nil => cases hrs
    | cons a vs =>
      change rgo f (if a = 0 then (we w).toNat else p + 1) g r vs s res = some S' at hrs
      refine CaL.on (s_83r hS hR) ?_
      rintro x F1 hS1 ⟨rfl, q2, q3⟩
      rw [cmp0]
      refine ⟨fun c1 => ?_, fun c1 => ?_⟩
      · rw [if_pos c1] at hrs
        obtain ⟨l, rfl⟩ := rgo_some hrs
        rw [g2]
        exact ⟨q2.pl (by omega), q3.up (by unfold RunP; omega)⟩
      · rw [if_neg c1] at hrs
        obtain ⟨l, rfl⟩ := rgo_some hrs
        have h8' : F1 91 8 = ((p + 1 : Nat) : Int) := q2.2.2.2.2.2.2.1
        rw [h8']
        exact ⟨q2.pl hpl, q3.up (by unfold RunP; omega)⟩
  · rw [if_neg (by omega), if_neg (by omega), if_neg (by omega), if_neg (by omega), if_neg (by omega), if_neg (by omega), if_pos c] at hrs
    obtain ⟨l, rfl⟩ := rgo_some hrs
    rw [g2]
    exact ⟨hR.pl (by omega), fr.rf.up (by unfold RunP; omega)⟩
  · rw [if_neg (by omega), if_neg (by omega), if_neg (by omega), if_neg (by omega), if_neg (by omega), if_neg (by omega), if_neg (by omega)] at hrs
    obtain ⟨l, rfl⟩ := rgo_some hrs
    exact ⟨hR, fr.rf⟩
/-- a number -/
theorem s_89 (hn : n ∈ m_I1) (hS : St F) (hX : ∀ r, r < 24 → Rok (X r)) (hD : DTT F n X) (hf : f < 3) (h7 : F 91 7 = (f : Int)) (ht : t < (toks X f).length) : C_89 n (t : Int) F (fun x F' => x = nvr X f t (ts X f t) ∧ F' = F) m_no := by
  have hG := (hD.2 f hf).1
  have h8 := i8_of hn hf
  have htk := gac_tok hG ht
  have tll := toks_len hX hf
  refine c_89 hn hS ?_
  rw [h7, Int.toNat_natCast]
  refine ⟨by omega, ?_⟩
  have key : ∀ (d i : Nat), i + d = ts X f t → L_89_16 n (t : Int) (n + (11 + 19 * f)) (nvr X f t i) (i : Int) F (fun x F' => x = nvr X f t (ts X f t) ∧ F' = F) m_no := by
    intro d
    induction d with
    | zero =>
      intro i hi
      refine b_89_16 hn h8 hS ?_
      rw [Int.toNat_natCast, htk.2.2.2]
      exact ⟨by omega, fun h => by omega, fun _ => ⟨by rw [show i = ts X f t by omega], rfl⟩⟩
    | succ d ih =>
      intro i hi
      have q := q_22t hD.1 hX hf ht (show i < ts X f t by omega)
      have ok := toks_ok ht
      have hx := (hX (8 * f + tl X f t) (by have := ok.1; omega)).1
      have ch : 32 ≤ chr X f t i ∧ chr X f t i ≤ 126 := (hX (8 * f + tl X f t) (by have := ok.1; omega)).ch (by have := ok.2.2.1; omega)
      refine b_89_16 hn h8 hS ?_
      rw [Int.toNat_natCast, htk.2.2.2, htk.2.1, htk.2.2.1, h7, show (f : Int) * 8 + (tl X f t : Int) = ((8 * f + tl X f t : Nat) : Int) by omega, show (tc X f t : Int) + (i : Int) = ((tc X f t + i : Nat) : Int) by omega, q.1]
      refine ⟨by omega, fun _ => ⟨by omega, by omega, by omega, by omega, by omega, q.2, by omega, by omega, ?_⟩, fun h => by omega⟩
      rw [show (i : Int) + 1 = ((i + 1 : Nat) : Int) by omega]
      exact ih (i + 1) (by omega)
  exact key (ts X f t) 0 (by omega)
end Md2
