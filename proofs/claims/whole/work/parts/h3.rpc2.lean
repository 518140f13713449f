/-! REPAIR, OF THE CLASS: all cells -/
def Dng (T t : Nat → Nat → Nat → Int) (i j : Nat) : Prop := Sdg T t i j ∧ (∀ A, A < 13 → T A i j ≤ t A i j) ∧ (∀ A, A < 32 → T A i j ≤ (j : Int) - (i : Int) + ugc A) ∧ ∀ p ∈ RgL, RlP T T i j p
/-- the kinds of some tokens as bits -/
def mgk (K : Nat → Int) (i : Nat) : Nat → Int
  | 0 => 0
  | k + 1 => if i ≤ k then m_or (mgk K i k) (m_shl 1 (K k)) else 0
section Mh3
variable {F G F0 : MF} {t T T' : Nat → Nat → Nat → Int} {A a b b2 i j k m n r f : Nat} {x x3 x4 y : Int} {R : MF → Prop} {K : Nat → Int} {X : Nat → List Int}
theorem ugc_st (hij : i ≤ j) (hcl : ∀ p ∈ RgL, RlP T T' i j p) (hle : ∀ A, A < 13 → T' A i j ≤ (j : Int) - (i : Int) + 1) (hn : ∀ A, A < 32 → dgc A ≤ m → T A i j ≤ (j : Int) - (i : Int) + ugc A) (hu : i < j → ∀ A, A < 32 → T A i i ≤ ugc A) : ∀ A, A < 32 → dgc A ≤ m + 1 → T' A i j ≤ (j : Int) - (i : Int) + ugc A := by
  intro A hA hd
  by_cases h13 : A < 13
  · rw [(dgc_le A hA).2.2.2.1 h13]; exact hle A h13
  · obtain ⟨p, hp, e1, e2, e3⟩ := RgL_ch A hA (by omega)
    subst e1
    have ok := RgL_ok p hp
    have b1 := hn p.2.1 ok.2.2.1 (by omega)
    rcases e3 with ⟨e3, e4⟩ | ⟨e3, e4, e5⟩
    · have := (hcl p hp).1 e3
      omega
    · have h1 := (hcl p hp).2 (by omega) i (Nat.le_refl _) hij
      have b2 := hn p.2.2 e3 (by omega)
      have b3 : T p.2.1 i i ≤ ugc p.2.1 := by
        by_cases e : i = j
        · rw [← e] at b1; omega
        · exact hu (by omega) _ ok.2.2.1
      omega
theorem s_78 (hij : i ≤ j) (hj : j ≤ 10) (hS : St F0) (ht : ∀ A, A < 13 → TTg F0 A i j = t A i j) (ht2 : ∀ A, A < 13 → 0 ≤ t A i j ∧ t A i j ≤ (j : Int) - (i : Int) + 1) (h0 : ∀ A, 13 ≤ A → A < 32 → TTg F0 A i j = 1000) (hs : ∀ a b, i ≤ a → a ≤ b → b ≤ j → ¬ (a = i ∧ b = j) → Sdg (TTg F0) t a b) (hu : i < j → ∀ A, A < 32 → TTg F0 A i i ≤ ugc A) :
    C_78 (i : Int) (j : Int) F0 (fun G => (∀ c, c ≠ 90 → G c = F0 c) ∧ (∀ A a b, A < 32 → a ≤ 10 → b ≤ 10 → ¬ (a = i ∧ b = j) → TTg G A a b = TTg F0 A a b) ∧ Dng (TTg G) t i j) m_no := by
  have key : ∀ (d m : Nat) (G : MF) (x3 : Int), d + m = 458 → St G → (∀ c, c ≠ 90 → G c = F0 c) → (∀ A a b, A < 32 → a ≤ 10 → b ≤ 10 → ¬ (a = i ∧ b = j) → TTg G A a b = TTg F0 A a b) → Sdg (TTg G) t i j → (∀ A, A < 13 → TTg G A i j = t A i j) → (∀ A, A < 32 → dgc A ≤ m → TTg G A i j ≤ (j : Int) - (i : Int) + ugc A) →
      (x3 = 1 ∧ (m ≤ 8 ∨ (m : Int) + sAg (TTg G) i j 32 ≤ 456) ∨ x3 = 0 ∧ ∀ p ∈ RgL, RlP (TTg G) (TTg G) i j p) → L_78_5 (i : Int) (j : Int) x3 (m : Int) G (fun G => (∀ c, c ≠ 90 → G c = F0 c) ∧ (∀ A a b, A < 32 → a ≤ 10 → b ≤ 10 → ¬ (a = i ∧ b = j) → TTg G A a b = TTg F0 A a b) ∧ Dng (TTg G) t i j) m_no := by
    intro d
    induction d with
    | zero =>
      intro m G x3 hm hSG g1 g2 g3 g4 g5 g6
      rcases g6 with ⟨-, h⟩ | ⟨e, h⟩
      · have := (sAg_le (T := TTg G) (i := i) (j := j) (x := 1000) 32 (fun a ha => ⟨(g3 a ha).1, (g3 a ha).2.1⟩)).1
        omega
      · refine b_78_5 hSG ⟨fun _ => ⟨g1, g2, g3, fun A hA => by rw [g4 A hA]; exact Int.le_refl _, fun A hA => g5 A hA (by have := (dgc_le A hA).1; omega), h⟩, fun c => absurd e c⟩
    | succ d ih =>
      intro m G x3 hm hSG g1 g2 g3 g4 g5 g6
      rcases g6 with ⟨e, h⟩ | ⟨e, h⟩
      · refine b_78_5 hSG ⟨fun c => by omega, fun _ => ⟨fun _ => ?_, fun c => absurd (by omega) c⟩⟩
        have hs' : ∀ a b, i ≤ a → a ≤ b → b ≤ j → ¬ (a = i ∧ b = j) → Sdg (TTg G) t a b := fun a b u v w z A hA => by
          rw [g2 A a b hA (by omega) (by omega) z]
          exact hs a b u v w z A hA
        have hu' : i < j → ∀ A, A < 32 → TTg G A i i ≤ ugc A := fun h A hA => by
          rw [g2 A i i hA (by omega) (by omega) (by omega)]
          exact hu h A hA
        have p0 : PsI t G G i j 0 0 := ⟨fun _ _ => rfl, fun _ _ _ _ _ _ _ => rfl, fun _ _ => Int.le_refl _, fun _ _ => rfl, g3, fun p hp => absurd hp (List.not_mem_nil), Or.inl ⟨rfl, rfl⟩⟩
        have sum : (m : Int) + sAg (TTg G) i j 32 ≤ 456 ∨ m < 8 := by
          rcases h with h | h
          · by_cases e8 : m < 8
            · exact Or.inr e8
            · left
              have := (sAg_le (T := TTg G) (i := i) (j := j) (x := 14) 32 (fun a ha => ⟨(g3 a ha).1, by have := g5 a ha (by have := (dgc_le a ha).1; omega); have := (dgc_le a ha).2.2.1; omega⟩)).2
              omega
          · exact Or.inl h
        refine l_78p (F := G) (x4 := (m : Int)) hij hj hs' (fun G' x3' hS' hP => ?_) 30 0 G 0 (by decide) hSG p0
        · obtain ⟨q1, q2, q3, q4, q5, q6, q7⟩ := hP
          have q6' : ∀ p ∈ RgL, RlP (TTg G) (TTg G') i j p := q6
          refine ⟨by omega, ?_⟩
          rw [show (m : Int) + 1 = ((m + 1 : Nat) : Int) by omega]
          refine ih (m + 1) G' x3' (by omega) hS' (fun c hc => (q1 c hc).trans (g1 c hc)) (fun A a b u v w z => (q2 A a b u v w z).trans (g2 A a b u v w z)) q5 (fun A hA => (q4 A hA).trans (g4 A hA)) (ugc_st hij q6' (fun A hA => by rw [q4 A hA, g4 A hA]; exact (ht2 A hA).2) g5 hu') ?_
          rcases q7 with ⟨e0, e1⟩ | ⟨e0, e1⟩
          · right
            rw [e1] at q6'
            exact ⟨e0, by rw [e1]; exact q6'⟩
          · left
            refine ⟨e0, ?_⟩
            rcases sum with s | s
            · right; omega
            · left; omega
      · have cl := h
        have all : ∀ n, ∀ A, A < 32 → dgc A ≤ m + n → TTg G A i j ≤ (j : Int) - (i : Int) + ugc A := by
          intro n
          induction n with
          | zero => exact g5
          | succ n ihn =>
            refine ugc_st hij cl (fun A hA => by rw [g4 A hA]; exact (ht2 A hA).2) ihn (fun h A hA => ?_)
            rw [g2 A i i hA (by omega) (by omega) (by omega)]
            exact hu h A hA
        refine b_78_5 hSG ⟨fun _ => ⟨g1, g2, g3, fun A hA => by rw [g4 A hA]; exact Int.le_refl _, fun A hA => all 8 A hA (by have := (dgc_le A hA).1; omega), h⟩, fun c => absurd e c⟩
  refine c_78 hS (key 458 0 F0 1 (by decide) hS (fun _ _ => rfl) (fun _ _ _ _ _ _ _ => rfl) (fun A hA => ?_) ht (fun A hA hd => ?_) (Or.inl ⟨rfl, Or.inl (by decide)⟩))
  · by_cases e : A < 13
    · rw [ht A e]
      have := ht2 A e
      exact ⟨this.1, by omega, Or.inr (Lg.tm e hij (Int.le_refl _))⟩
    · rw [h0 A (by omega) hA]
      exact ⟨by decide, by decide, Or.inl rfl⟩
  · have q := dgc_le A hA
    by_cases e : A < 13
    · rw [ht A e, q.2.2.2.1 e]; exact (ht2 A e).2
    · have := q.2.2.2.2 (by omega)
      omega
theorem mgk_0 : ∀ {k : Nat}, k ≤ i → mgk K i k = 0
  | 0, _ => rfl
  | k + 1, h => if_neg (by omega)
theorem ct_bit0 : ∀ A ∈ ([0, 1, 2, 3, 4, 5, 6, 7, 8, 9, 10, 11, 12] : List Nat), ∀ k ∈ ([0, 1, 2, 3, 4, 5, 6, 7, 8, 9, 10, 11, 12, 13, 14, 15, 16, 17, 18, 19, 20, 21, 22, 23, 24] : List Nat), (((2 : Nat) ^ k &&& ((m_ct 0).getD A 0).toNat) == 0) = !(clF (sgm A) ((k : Nat) : Int)) := by decide +kernel
theorem ct_bit (A : Nat) (hA : A < 13) (k : Nat) (hk : k < 25) : (((2 : Nat) ^ k &&& ((m_ct 0).getD A 0).toNat) = 0) ↔ clF (sgm A) ((k : Nat) : Int) = false := by
  have h := ct_bit0 A (by simp only [List.mem_cons, List.not_mem_nil, or_false]; omega) k (by simp only [List.mem_cons, List.not_mem_nil, or_false]; omega)
  cases hc : clF (sgm A) ((k : Nat) : Int) with
  | true =>
    rw [hc] at h
    exact ⟨fun e => by rw [e] at h; exact absurd h (by decide), fun e => by cases e⟩
  | false =>
    rw [hc] at h
    exact ⟨fun _ => rfl, fun _ => eq_of_beq h⟩
theorem ct_rng (A : Nat) (hA : A < 13) : 0 ≤ (m_ct 0).getD A 0 ∧ (m_ct 0).getD A 0 < 33554432 := by
  have h : A = 0 ∨ A = 1 ∨ A = 2 ∨ A = 3 ∨ A = 4 ∨ A = 5 ∨ A = 6 ∨ A = 7 ∨ A = 8 ∨ A = 9 ∨ A = 10 ∨ A = 11 ∨ A = 12 := by omega
  rcases h with rfl | rfl | rfl | rfl | rfl | rfl | rfl | rfl | rfl | rfl | rfl | rfl | rfl
  · rw [show (m_ct 0).getD 0 0 = 16 from rfl]; omega
  · rw [show (m_ct 0).getD 1 0 = 1 from rfl]; omega
  · rw [show (m_ct 0).getD 2 0 = 65536 from rfl]; omega
  · rw [show (m_ct 0).getD 3 0 = 32768 from rfl]; omega
  · rw [show (m_ct 0).getD 4 0 = 1024 from rfl]; omega
  · rw [show (m_ct 0).getD 5 0 = 2048 from rfl]; omega
  · rw [show (m_ct 0).getD 6 0 = 128 from rfl]; omega
  · rw [show (m_ct 0).getD 7 0 = 16384 from rfl]; omega
  · rw [show (m_ct 0).getD 8 0 = 771 from rfl]; omega
  · rw [show (m_ct 0).getD 9 0 = 393216 from rfl]; omega
  · rw [show (m_ct 0).getD 10 0 = 1572864 from rfl]; omega
  · rw [show (m_ct 0).getD 11 0 = 2097152 from rfl]; omega
  · rw [show (m_ct 0).getD 12 0 = 4194304 from rfl]; omega
theorem m32n (n : Nat) (h : n < 33554432) : (((n : Nat) : Int) % 4294967296).toNat = n := by omega
theorem w32n (n : Nat) (h : n < 33554432) : w32 ((n : Nat) : Int) = (n : Int) := by
  unfold w32
  omega
theorem m32c (c : Int) (h : 0 ≤ c ∧ c < 33554432) : (c % 4294967296).toNat = c.toNat := by omega
theorem mgk_ok : ∀ {k : Nat}, (∀ q, i ≤ q → q < k → 0 ≤ K q ∧ K q < 25) → ∃ N : Nat, mgk K i k = (N : Int) ∧ N < 2 ^ 25 ∧ ∀ A, A < 13 → ((N &&& ((m_ct 0).getD A 0).toNat) = 0 ↔ hitk (fun q => clF (sgm A) (K q)) i k = false)
  | 0, _ => ⟨0, rfl, by decide, fun A _ => by rw [Nat.zero_and]; exact ⟨fun _ => rfl, fun _ => rfl⟩⟩
  | k + 1, h => by
    by_cases e : i ≤ k
    · obtain ⟨N, n1, n2, n3⟩ := mgk_ok (k := k) (fun q a b => h q a (by omega))
      obtain ⟨hk1, hk2⟩ := h k e (Nat.lt_succ_self k)
      obtain ⟨q, hq⟩ : ∃ q : Nat, K k = (q : Int) := ⟨(K k).toNat, by omega⟩
      have p2 : (2 : Nat) ^ q < 2 ^ 25 := Nat.pow_lt_pow_right (by decide) (by omega)
      obtain ⟨M, hM⟩ : ∃ M : Nat, M = 2 ^ q := ⟨_, rfl⟩
      have hp : (2 : Int) ^ q = (M : Int) := by rw [hM, Int.natCast_pow]; rfl
      rw [← hM] at p2
      have hor : N ||| M < 2 ^ 25 := Nat.or_lt_two_pow n2 p2
      have e25 : (2 : Nat) ^ 25 = 33554432 := by decide
      rw [e25] at n2 p2 hor
      have esh : m_shl 1 (K k) = (M : Int) := by
        unfold m_shl
        rw [hq, Int.toNat_natCast, Int.one_mul, hp]
        exact w32n M p2
      refine ⟨N ||| M, ?_, by rw [e25]; exact hor, fun A hA => ?_⟩
      · show (if i ≤ k then m_or (mgk K i k) (m_shl 1 (K k)) else 0) = _
        rw [if_pos e, n1, esh]
        unfold m_or
        rw [m32n N n2, m32n M p2]
        exact w32n _ hor
      · rw [Nat.and_or_distrib_right, Nat.or_eq_zero_iff, n3 A hA, hM, ct_bit A hA q (by omega)]
        show _ ↔ (hitk (fun q => clF (sgm A) (K q)) i k || (decide (i ≤ k) && clF (sgm A) (K k))) = false
        rw [decide_eq_true e, Bool.true_and, hq, Bool.or_eq_false_iff]
    · refine ⟨0, if_neg e, by decide, fun A _ => ?_⟩
      rw [Nat.zero_and, hitk_no (by omega)]
      exact ⟨fun _ => rfl, fun _ => rfl⟩
theorem mg_and {N : Nat} (hN : N < 2 ^ 25) (hA : A < 13) : m_and (N : Int) ((m_ct 0).getD A 0) = 0 ↔ (N &&& ((m_ct 0).getD A 0).toNat) = 0 := by
  have c := ct_rng A hA
  have e25 : (2 : Nat) ^ 25 = 33554432 := by decide
  have hl : (N &&& ((m_ct 0).getD A 0).toNat) ≤ N := Nat.and_le_left
  rw [e25] at hN
  unfold m_and
  rw [m32n N hN, m32c _ c, w32n _ (Nat.lt_of_le_of_lt hl hN)]
  exact ⟨fun h => Int.ofNat.inj h, fun h => by rw [h]; rfl⟩
/-- where a cell begins -/
def iniT (K : Nat → Int) (i j A : Nat) : Int := if A < 13 then tcs K (sgm A) i j else 1000
theorem s_77 (hb : b ∈ m_I8) (hS : St F) (hij : i ≤ j) (hj : j ≤ 10) (hK : ∀ q, q < j → o_104 F b ((a : Int) + (q : Int)) ∧ g_104 F b ((a : Int) + (q : Int)) = K q ∧ 0 ≤ K q ∧ K q < 25) (ha : a < 1000) :
    C_77 b (a : Int) (i : Int) (j : Int) F (fun G => (∀ c, c ≠ 90 → G c = F c) ∧ (∀ A a b, A < 32 → a ≤ 10 → b ≤ 10 → ¬ (a = i ∧ b = j) → TTg G A a b = TTg F A a b) ∧ ∀ A, A < 32 → TTg G A i j = iniT K i j A) m_no := by
  obtain ⟨N, n1, n2, n3⟩ := mgk_ok (K := K) (i := i) (k := j) (fun q _ h => (hK q h).2.2)
  have wr : ∀ (d A : Nat) (G : MF), A + d = 32 → St G → (∀ c, c ≠ 90 → G c = F c) → (∀ A a b, A < 32 → a ≤ 10 → b ≤ 10 → ¬ (a = i ∧ b = j) → TTg G A a b = TTg F A a b) → (∀ q, q < A → TTg G q i j = iniT K i j q) → L_77_37 (i : Int) (j : Int) (N : Int) (A : Int) G (fun G => (∀ c, c ≠ 90 → G c = F c) ∧ (∀ A a b, A < 32 → a ≤ 10 → b ≤ 10 → ¬ (a = i ∧ b = j) → TTg G A a b = TTg F A a b) ∧ ∀ A, A < 32 → TTg G A i j = iniT K i j A) m_no := by
    intro d
    induction d with
    | zero =>
      intro A G hd hSG g1 g2 g3
      obtain rfl : A = 32 := by omega
      exact b_77_37 hSG ⟨fun h => absurd h (by omega), fun _ => ⟨g1, g2, g3⟩⟩
    | succ d ih =>
      intro A G hd hSG g1 g2 g3
      obtain ⟨e1, e2, e3⟩ := q_76 (F := G) (show A < 32 by omega) (show i ≤ 10 by omega) hj
      have nx : ∀ v, v = iniT K i j A → L_77_37 (i : Int) (j : Int) (N : Int) ((A : Int) + 1) (m_up G 90 (ixg A i j) v) (fun G => (∀ c, c ≠ 90 → G c = F c) ∧ (∀ A a b, A < 32 → a ≤ 10 → b ≤ 10 → ¬ (a = i ∧ b = j) → TTg G A a b = TTg F A a b) ∧ ∀ A, A < 32 → TTg G A i j = iniT K i j A) m_no := by
        intro v hv
        rw [show (A : Int) + 1 = ((A + 1 : Nat) : Int) by omega]
        refine ih (A + 1) _ (by omega) (hSG.arr kd_90 (by decide)) (fun c hc => by rw [up_row hc]; exact g1 c hc) (fun A' a b u v w z => ?_) (fun q hq => ?_)
        · rw [TT_up (by omega) hj v w, if_neg (fun h => z h.2)]; exact g2 A' a b u v w z
        · rw [TT_up (by omega) hj (by omega) hj]
          by_cases e : q = A
          · rw [if_pos ⟨e, rfl, rfl⟩, hv, e]
          · rw [if_neg (fun h => e h.1)]; exact g3 q (by omega)
      refine b_77_37 hSG ⟨fun _ => ?_, fun h => absurd (by omega) h⟩
      rw [e1, Int.toNat_natCast, Int.toNat_natCast]
      refine ⟨fun c => ⟨by omega, by omega, fun z => ⟨by omega, e2, by omega, by omega, nx _ ?_⟩, fun z => ⟨by omega, e2, by omega, by omega, nx _ ?_⟩⟩, fun c => ⟨e2, by omega, by omega, nx _ ?_⟩⟩
      · have hA : A < 13 := by omega
        have hh := (n3 A hA).mp ((mg_and n2 hA).mp z)
        unfold iniT tcs
        rw [if_pos hA, hh, if_neg (by decide)]
      · have hA : A < 13 := by omega
        have hh : hitk (fun q => clF (sgm A) (K q)) i j = true := by
          cases h : hitk (fun q => clF (sgm A) (K q)) i j with
          | true => rfl
          | false => exact absurd ((mg_and n2 hA).mpr ((n3 A hA).mpr h)) z
        unfold iniT tcs
        rw [if_pos hA, hh, if_pos rfl]
        omega
      · unfold iniT
        rw [if_neg (by omega)]
  have ms : ∀ (d k : Nat), k + d = j → i ≤ k → L_77_6 b (a : Int) (i : Int) (j : Int) (mgk K i k) (k : Int) F (fun G => (∀ c, c ≠ 90 → G c = F c) ∧ (∀ A a b, A < 32 → a ≤ 10 → b ≤ 10 → ¬ (a = i ∧ b = j) → TTg G A a b = TTg F A a b) ∧ ∀ A, A < 32 → TTg G A i j = iniT K i j A) m_no := by
    intro d
    induction d with
    | zero =>
      intro k hk hik
      obtain rfl : k = j := by omega
      refine b_77_6 hb hS ⟨fun h => by omega, fun _ => ?_⟩
      rw [n1]
      exact wr 32 0 F (by decide) hS (fun _ _ => rfl) (fun _ _ _ _ _ _ _ => rfl) (fun q hq => absurd hq (Nat.not_lt_zero q))
    | succ d ih =>
      intro k hk hik
      obtain ⟨h1, h2, h3, h4⟩ := hK k (by omega)
      have e := ih (k + 1) (by omega) (by omega)
      have em : mgk K i (k + 1) = m_or (mgk K i k) (m_shl 1 (K k)) := if_pos hik
      rw [em] at e
      refine b_77_6 hb hS ⟨fun _ => ?_, fun h => absurd (by omega) h⟩
      rw [h2, show (k : Int) + 1 = ((k + 1 : Nat) : Int) by omega]
      exact ⟨by omega, h1, by omega, by omega, e⟩
  have := ms (j - i) i (by omega) (Nat.le_refl _)
  rw [mgk_0 (Nat.le_refl _)] at this
  exact c_77 hb hS this
end Mh3
