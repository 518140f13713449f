/-! REPAIR, OF THE CLASS: the whole table -/
section Mh4
variable {F G : MF} {t T T' : Nat → Nat → Nat → Int} {A a b i j k n p q f : Nat} {x x3 : Int} {K : Nat → Int} {X : Nat → List Int}
theorem Dng.cg (h : Dng T t p q) (hpq : p ≤ q) (e : ∀ A a b, A < 32 → p ≤ a → a ≤ b → b ≤ q → T' A a b = T A a b) : Dng T' t p q := by
  have e0 : ∀ A, A < 32 → T' A p q = T A p q := fun A hA => e A p q hA (Nat.le_refl _) hpq (Nat.le_refl _)
  refine ⟨fun A hA => by rw [e0 A hA]; exact h.1 A hA, fun A hA => by rw [e0 A (by omega)]; exact h.2.1 A hA, fun A hA => by rw [e0 A hA]; exact h.2.2.1 A hA, fun pr hp => ?_⟩
  have ok := RgL_ok pr hp
  have hr := h.2.2.2 pr hp
  refine ⟨fun e99 => ?_, fun e99 k a b => ?_⟩
  · rw [e0 _ ok.2.1, e0 _ ok.2.2.1]
    exact hr.1 e99
  · have k2 : pr.2.2 < 32 := by
      rcases ok.2.2.2 with ⟨h, -⟩ | ⟨h, -⟩
      · exact absurd h e99
      · exact h
    rw [e0 _ ok.2.1, e _ p k ok.2.2.1 (Nat.le_refl _) a b, e _ k q k2 a b (Nat.le_refl _)]
    exact hr.2 e99 k a b
theorem q_104r (hT : TokC F b (toks X f)) (hl : (toks X f).length ≤ 192) (hp : p < (toks X f).length) : o_104 F b (p : Int) ∧ g_104 F b (p : Int) = kn (ks X f) p := by
  have h1 := (hT.2 p hp).1
  rw [Nat.zero_add] at h1
  unfold o_104 g_104
  rw [hT.1, if_neg (by omega), if_pos (by omega), Int.toNat_natCast, h1, kn_gx (by rw [ks_len']; exact hp), ks_at hp]
  exact ⟨⟨fun _ => trivial, fun _ => ⟨fun _ => ⟨by omega, trivial⟩, fun _ => trivial⟩⟩, rfl⟩
theorem i8_90 : ∀ b ∈ m_I8, b < 60 ∨ 120 < b := by decide
theorem s_75 (hb : b ∈ m_I8) (hS : St F) (hX : ∀ r, r < 24 → Rok (X r)) (hf : f < 3) (hT : TokC F b (toks X f)) (ha : a + n ≤ (toks X f).length) (hn : 1 ≤ n ∧ n ≤ 10) (hx : x3 = (a : Int) + (n : Int) - 1) :
    C_75 b (a : Int) x3 F (fun r F' => (∀ c, c ≠ 90 → F' c = F c) ∧ ∃ Tc : Nat → Nat → Nat → Int, ClT Tc (fun A => tcs (fun q => kn (ks X f) (a + q)) (sgm A)) UgC BgC 99 n ∧ (Tc 31 0 n ≤ 1000 ∧ (Tc 31 0 n = 1000 ∨ Lg (fun A => tcs (fun q => kn (ks X f) (a + q)) (sgm A)) UgC BgC 99 31 0 n (Tc 31 0 n))) ∧ r = Tc 31 0 n) m_no := by
  have hl := toks_len hX hf
  obtain ⟨K, hK⟩ : ∃ K, K = fun q => kn (ks X f) (a + q) := ⟨_, rfl⟩
  rw [← hK]
  obtain ⟨t, ht⟩ : ∃ t : Nat → Nat → Nat → Int, t = fun A => tcs K (sgm A) := ⟨_, rfl⟩
  rw [← ht]
  have h90 := i8_90 b hb
  have hb0 : ∀ c, b ≤ c → c ≤ b + 4 → c ≠ 90 := fun c u v => by omega
  have tok : ∀ G : MF, (∀ c, c ≠ 90 → G c = F c) → ∀ q, q < n → o_104 G b ((a : Int) + (q : Int)) ∧ g_104 G b ((a : Int) + (q : Int)) = K q ∧ 0 ≤ K q ∧ K q < 25 := fun G g q hq => by
    have hTG : TokC G b (toks X f) := by
      unfold TokC
      rw [g b (by omega), g (b + 1) (by omega), g (b + 2) (by omega), g (b + 3) (by omega), g (b + 4) (by omega)]
      exact hT
    have h1 := q_104r (p := a + q) hTG hl (by omega)
    have h2 := kn_rng hX hf (a + q)
    rw [show (a : Int) + (q : Int) = ((a + q : Nat) : Int) by omega, hK]
    exact ⟨h1.1, h1.2, h2.1, by show kn (ks X f) (a + q) < 25; omega⟩
  have key : ∀ (d len : Nat), len + d = n + 1 → ∀ G, St G → (∀ c, c ≠ 90 → G c = F c) → (∀ p q, p ≤ q → q ≤ n → q - p < len → Dng (TTg G) t p q) → L_75_29 b (a : Int) (n : Int) (len : Int) G (fun r F' => (∀ c, c ≠ 90 → F' c = F c) ∧ ∃ Tc : Nat → Nat → Nat → Int, ClT Tc t UgC BgC 99 n ∧ (Tc 31 0 n ≤ 1000 ∧ (Tc 31 0 n = 1000 ∨ Lg t UgC BgC 99 31 0 n (Tc 31 0 n))) ∧ r = Tc 31 0 n) m_no := by
    intro d
    induction d with
    | zero =>
      intro len hd G hSG g1 g2
      obtain ⟨e1, e2, e3⟩ := q_76 (F := G) (show 31 < 32 by decide) (show 0 ≤ 10 by decide) hn.2
      refine b_75_29 hb hSG ⟨fun _ => ?_, fun h => absurd (by omega) h⟩
      change g_76 G 31 0 (n : Int) = _ at e1
      change o_76 G 31 0 (n : Int) at e2
      rw [e1, Int.toNat_natCast]
      have all : ∀ p q, p ≤ q → q ≤ n → Dng (TTg G) t p q := fun p q u v => g2 p q u v (by omega)
      have s := (all 0 n (Nat.zero_le _) (Nat.le_refl _)).1 31 (by decide)
      exact ⟨e2, by omega, g1, TTg G, ⟨fun A i j hA u v => (all i j u v).2.1 A hA, fun i j h => absurd h (by decide), fun A b i j h u v => ((all i j u v).2.2.2 _ (RgL_un (A, b) h)).1 rfl, fun A b b2 i k j h u v w => ((all i j (by omega) w).2.2.2 _ (RgL_bi (A, b, b2) h).1).2 (RgL_bi (A, b, b2) h).2 k u v⟩, s.2, rfl⟩
    | succ d ih =>
      intro len hd G hSG g1 g2
      have inner : ∀ (d2 s : Nat), s + d2 = n + 1 - len → ∀ G, St G → (∀ c, c ≠ 90 → G c = F c) → (∀ p q, p ≤ q → q ≤ n → (q - p < len ∨ q - p = len ∧ p < s) → Dng (TTg G) t p q) → L_75_39 b (a : Int) (n : Int) (len : Int) (s : Int) G (fun r F' => (∀ c, c ≠ 90 → F' c = F c) ∧ ∃ Tc : Nat → Nat → Nat → Int, ClT Tc t UgC BgC 99 n ∧ (Tc 31 0 n ≤ 1000 ∧ (Tc 31 0 n = 1000 ∨ Lg t UgC BgC 99 31 0 n (Tc 31 0 n))) ∧ r = Tc 31 0 n) m_no := by
        intro d2
        induction d2 with
        | zero =>
          intro s hs G hSG g1 g2
          refine b_75_39 hb hSG ⟨by omega, fun _ => ⟨by omega, ?_⟩, fun h => absurd (by omega) h⟩
          rw [show (len : Int) + 1 = ((len + 1 : Nat) : Int) by omega]
          exact ih (len + 1) (by omega) G hSG g1 (fun p q u v w => g2 p q u v (by omega))
        | succ d2 ih2 =>
          intro s hs G hSG g1 g2
          refine b_75_39 hb hSG ⟨by omega, fun h => by omega, fun _ => ⟨by omega, ?_⟩⟩
          rw [show (s : Int) + (len : Int) = ((s + len : Nat) : Int) by omega, show (s : Int) + 1 = ((s + 1 : Nat) : Int) by omega]
          refine CaV.on (s_77 (K := K) hb hSG (show s ≤ s + len by omega) (by omega) (fun q hq => tok G g1 q (by omega)) (by omega)) ?_
          rintro G3 hS3 ⟨k1, k2, k3⟩
          have sub : ∀ a b, s ≤ a → a ≤ b → b ≤ s + len → ¬ (a = s ∧ b = s + len) → Dng (TTg G) t a b := fun a b u v w z => g2 a b v (by omega) (by omega)
          refine ⟨by omega, CaV.on (s_78 (t := t) (show s ≤ s + len by omega) (by omega) hS3 (fun A hA => ?_) (fun A hA => ?_) (fun A h1 hA => ?_) (fun a b u v w z => ?_) (fun h A hA => ?_)) ?_⟩
          · rw [k3 A (by omega), ht]
            exact if_pos hA
          · rw [ht]
            exact tcs_rng (by omega)
          · rw [k3 A hA]
            exact if_neg (by omega)
          · intro A hA
            rw [k2 A a b hA (by omega) (by omega) z]
            exact (sub a b u v w z).1 A hA
          · rw [k2 A s s hA (by omega) (by omega) (by omega)]
            have := (sub s s (Nat.le_refl _) (Nat.le_refl _) (by omega) (by omega)).2.2.1 A hA
            omega
          · rintro G7 hS7 ⟨m1, m2, m3⟩
            refine ⟨by omega, ih2 (s + 1) (by omega) G7 hS7 (fun c hc => (m1 c hc).trans ((k1 c hc).trans (g1 c hc))) (fun p q u v w => ?_)⟩
            by_cases e : p = s ∧ q = s + len
            · rw [e.1, e.2]; exact m3
            · refine (g2 p q u v (by omega)).cg u (fun A a b hA x y z => ?_)
              have ne : ¬ (a = s ∧ b = s + len) := by omega
              rw [m2 A a b hA (by omega) (by omega) ne, k2 A a b hA (by omega) (by omega) ne]
      refine b_75_29 hb hSG ⟨fun h => by omega, fun _ => ?_⟩
      exact inner (n + 1 - len) 0 (by omega) G hSG g1 (fun p q u v w => g2 p q u v (by omega))
  refine c_75 hb hS ?_
  rw [show x3 - (a : Int) + 1 = (n : Int) by omega]
  exact ⟨by omega, by omega, fun h => by omega, fun _ => ⟨fun h => by omega, fun _ => ⟨fun h => by omega, fun _ => key (n + 1) 0 (by omega) F hS (fun _ _ => rfl) (fun p q u v w => absurd w (Nat.not_lt_zero _))⟩⟩⟩
end Mh4
