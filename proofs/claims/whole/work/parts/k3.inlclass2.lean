/-! AN INLINING, OF THE CLASS: scopes, text, all -/
section Mk3
variable {F G : MF} {X : Nat → List Int} {C V : List Int} {f t e i j k a b n m : Nat}
theorem idv_rng {L : List Int} (h : TVs X f L) : fst' X f k L = -1 ∨ ∃ m : Nat, fst' X f k L = (m : Int) ∧ m < (toks X f).length := fst_rng h
/-- whether the names of the expr would be bound alike -/
theorem s_51 (hS : St F) (hX : ∀ r, r < 24 → Rok (X r)) (hD : DB F 110 X) (hf : f < 3) (ht : t < 200) (he : e ≤ (toks X f).length) :
    C_51 (f : Int) ((200 * f + t : Nat) : Int) (e : Int) F (fun r F' => r = pif (alk X f t e) 1 0 ∧ fr (fun c => 118 ≤ c ∧ c ≤ 120) F F') m_no := by
  have i9 : 110 + (20 + 19 * f) ∈ m_I9 := i9_of (by decide) hf
  have i7 : 118 ∈ m_I7 := io_1_5 (n := 110) (by decide)
  have hl := Fw_len hX hf
  have lk := toks_len hX hf
  have pv := (Cw_pv hX hf).1.1
  have sm7 : ∀ i, sm b7 ((Cw X f).take i) ≤ 195 ∧ sm b3 ((Cw X f).take i) ≤ 195 := fun i => by
    have l1 : (prs (ks X f)).1 ≤ (ks X f).length := (Cw_pv hX hf).2.1
    have l2 := ks_len hX hf
    have l3 := pv.2.2.1
    have l4 := pv.2.2.2
    change sm b3 (Cw X f) ≤ _ at l3
    change sm b7 (Cw X f) ≤ _ at l4
    have q1 := sm_take (g := b7) (Cw X f) i
    have q2 := sm_take (g := b3) (Cw X f) i
    omega
  have hWC : ∀ i, i < (Cw X f).length → WC (ks X f) (gx (Cw X f) i) := fun i hi => Cw_wc hX hf hi
  have key : ∀ (d i : Nat) (G : MF), i + d = (Cw X f).length → St G → fr (fun c => 118 ≤ c ∧ c ≤ 120) F G → SCc G 118 (sat (Cw X f) i) → (∀ j, j < i → wo (gx (Cw X f) j) = 14 → wbd X f j = ((200 * f + t : Nat) : Int) → ∀ k, t + 2 ≤ k → k < e → kn (ks X f) k = 0 → bnd X (200 * f + k) = idv f (fst' X f k (cand (sat (Cw X f) (j + 1))))) →
      L_51_28 (f : Int) ((200 * f + t : Nat) : Int) (e : Int) (110 + (20 + 19 * f)) 118 (i : Int) G (fun r F' => r = pif (alk X f t e) 1 0 ∧ fr (fun c => 118 ≤ c ∧ c ≤ 120) F F') m_no := by
    intro d
    induction d with
    | zero =>
      intro i G hi hSG hfr sc hz
      have hc : G (110 + (20 + 19 * f)) 1 = ((Cw X f).length : Int) := by rw [hfr _ (by omega)]; exact (hD.1.2 f hf).2.1.1
      refine b_51_28 i9 i7 hSG ?_
      rw [hc]
      exact ⟨fun h => by omega, fun _ => ⟨(pif_1 (fun j hj => hz j (by omega))).symm, hfr⟩⟩
    | succ d ih =>
      intro i G hi hSG hfr sc hz
      have hi2 : i < (Cw X f).length := by omega
      have hc : G (110 + (20 + 19 * f)) 1 = ((Cw X f).length : Int) := by rw [hfr _ (by omega)]; exact (hD.1.2 f hf).2.1.1
      have hcw : G (110 + (20 + 19 * f) + 1) i = gx (Cw X f) i := by rw [hfr _ (by omega)]; exact (hD.1.2 f hf).2.1.2 i hi2
      have w32 := hl.2.2.2 i hi2
      have so := sat_ok hWC hX hf (i + 1) (by omega)
      have so0 := sat_ok hWC hX hf i (by omega)
      have s7 := sm7 i
      have s71 := sm7 (i + 1)
      refine b_51_28 i9 i7 hSG ?_
      rw [hc, Int.toNat_natCast, hcw]
      refine ⟨fun _ => ⟨by omega, ?_⟩, fun h => by omega⟩
      refine CaV.on (s_101 i7 hSG w32 sc (by omega) (by omega)) ?_
      rintro G3 hS3 ⟨sc3, fr3⟩
      have esat : sat (Cw X f) (i + 1) = sstep (sat (Cw X f) i) (gx (Cw X f) i) := rfl
      rw [← esat] at sc3
      have hfr3 : fr (fun c => 118 ≤ c ∧ c ≤ 120) F G3 := hfr.tr (fr3.mo (fun c h => by omega))
      have nx : (wo (gx (Cw X f) i) = 14 → wbd X f i = ((200 * f + t : Nat) : Int) → ∀ k, t + 2 ≤ k → k < e → kn (ks X f) k = 0 → bnd X (200 * f + k) = idv f (fst' X f k (cand (sat (Cw X f) (i + 1))))) → L_51_28 (f : Int) ((200 * f + t : Nat) : Int) (e : Int) (110 + (20 + 19 * f)) 118 ((i : Int) + 1) G3 (fun r F' => r = pif (alk X f t e) 1 0 ∧ fr (fun c => 118 ≤ c ∧ c ≤ 120) F F') m_no := fun h => by
        have := ih (i + 1) G3 (by omega) hS3 hfr3 sc3 (fun j hj => by
          by_cases e2 : j = i
          · rw [e2]; exact h
          · exact hz j (by omega))
        rw [show ((i + 1 : Nat) : Int) = (i : Int) + 1 by omega] at this
        exact this
      have no : ¬ (wo (gx (Cw X f) i) = 14 ∧ wbd X f i = ((200 * f + t : Nat) : Int)) → ∀ x : Int, L_51_104 (f : Int) ((200 * f + t : Nat) : Int) (e : Int) (110 + (20 + 19 * f)) 118 (i : Int) 0 x G3 (fun r F' => r = pif (alk X f t e) 1 0 ∧ fr (fun c => 118 ≤ c ∧ c ≤ 120) F F') m_no := fun h x =>
        b_51_104 i9 i7 hS3 ⟨fun _ => ⟨by omega, nx (fun h1 h2 => absurd ⟨h1, h2⟩ h)⟩, fun h2 => absurd rfl h2⟩
      have emod : ((200 * f + t : Nat) : Int) % 200 = (t : Int) := by omega
      rw [g198 w32, g199 w32, emod]
      refine ⟨fun h14 => ?_, fun h14 => ⟨by omega, by omega, no (fun h => h14 h.1) _⟩⟩
      have ht0 : 0 ≤ wt (gx (Cw X f) i) ∧ wt (gx (Cw X f) i) < 200 := by
        obtain ⟨o, t0, e0, e1, e2, e3⟩ := Cw_wc hX hf hi2
        have ho : o < 256 := by unfold oX at e3; omega
        rw [e1, wo_mk ho] at h14
        rw [e1, wt_mk ho e2]
        have hk0 : kp (ks X f) t0 := by
          rcases e3 with (⟨-, -, c⟩ | ⟨a, b⟩ | a) | ⟨a, b⟩ | ⟨a, b⟩ | a | a | ⟨a, b⟩
          · exact c
          · omega
          · omega
          · omega
          · omega
          · omega
          · omega
          · omega
        have : t0 < (ks X f).length := kn_lt (by unfold kp at hk0; omega)
        rw [ks_len'] at this
        omega
      have ew : ((f : Int) * 200 + wt (gx (Cw X f) i)).toNat = 200 * f + (wt (gx (Cw X f) i)).toNat := by omega
      have eb : G3 117 (200 * f + (wt (gx (Cw X f) i)).toNat) = wbd X f i := by rw [hfr3 117 (by omega)]; exact hD.2 _ (by omega)
      rw [ew, eb]
      refine ⟨by omega, by omega, by omega, fun hb => ⟨by omega, by omega, ?_⟩, fun hb => ⟨by omega, by omega, no (fun h => hb h.2) _⟩⟩
      -- each token of the expr
      have hD3 : DB G3 110 X := ⟨hD.1.fr hfr3 (fun c h => by omega), fun id hid => by rw [hfr3 117 (by omega)]; exact hD.2 id hid⟩
      have lp : ∀ (d k : Nat), e ≤ k + d → t + 2 ≤ k → k ≤ 400 → (∀ q, t + 2 ≤ q → q < k → kn (ks X f) q = 0 → bnd X (200 * f + q) = idv f (fst' X f q (cand (sat (Cw X f) (i + 1))))) → L_51_104 (f : Int) ((200 * f + t : Nat) : Int) (e : Int) (110 + (20 + 19 * f)) 118 (i : Int) 1 (k : Int) G3 (fun r F' => r = pif (alk X f t e) 1 0 ∧ fr (fun c => 118 ≤ c ∧ c ≤ 120) F F') m_no := by
        intro d
        induction d with
        | zero =>
          intro k hk hkt _ hq
          exact b_51_104 i9 i7 hS3 ⟨fun h => absurd h (by decide), fun _ => ⟨fun h => by omega, fun _ => ⟨by omega, nx (fun _ _ q h1 h2 h3 => hq q h1 (by omega) h3)⟩⟩⟩
        | succ d ih2 =>
          intro k hk hkt hk4 hq
          by_cases hke : e ≤ k
          · exact b_51_104 i9 i7 hS3 ⟨fun h => absurd h (by decide), fun _ => ⟨fun h => by omega, fun _ => ⟨by omega, nx (fun _ _ q h1 h2 h3 => hq q h1 (by omega) h3)⟩⟩⟩
          have hkl : k < (toks X f).length := by omega
          have q4 := q_104t hf hX (hD3.1.2 f hf).1 k
          have ebk : G3 117 (200 * f + k) = bnd X (200 * f + k) := hD3.2 _ (by omega)
          have nx2 : (kn (ks X f) k = 0 → bnd X (200 * f + k) = idv f (fst' X f k (cand (sat (Cw X f) (i + 1))))) → L_51_104 (f : Int) ((200 * f + t : Nat) : Int) (e : Int) (110 + (20 + 19 * f)) 118 (i : Int) 1 ((k : Int) + 1) G3 (fun r F' => r = pif (alk X f t e) 1 0 ∧ fr (fun c => 118 ≤ c ∧ c ≤ 120) F F') m_no := fun h => by
            have := ih2 (k + 1) (by omega) (by omega) (by omega) (fun q h1 h2 => by
              by_cases e2 : q = k
              · rw [e2]; exact h
              · exact hq q h1 (by omega))
            rw [show ((k + 1 : Nat) : Int) = (k : Int) + 1 by omega] at this
            exact this
          have fail : kn (ks X f) k = 0 → bnd X (200 * f + k) ≠ idv f (fst' X f k (cand (sat (Cw X f) (i + 1)))) → ((0 : Int) = pif (alk X f t e) 1 0 ∧ fr (fun c => 118 ≤ c ∧ c ≤ 120) F G3) := fun h1 h2 =>
            ⟨(pif_0 (fun h => h2 (h i hi2 h14 hb k hkt (by omega) h1))).symm, hfr3⟩
          refine b_51_104 i9 i7 hS3 ⟨fun h => absurd h (by decide), fun _ => ⟨fun _ => ?_, fun h => by omega⟩⟩
          refine CaI.on (s_102 i7 (by decide) hS3 hX hD3.1.dt hf hkl sc3 so.2.2.1 (by omega) so.2.2.2) ?_
          rintro r G4 _ ⟨rfl, rfl⟩
          rw [Int.toNat_natCast, q4.1, show (f : Int) * 200 + (k : Int) = ((200 * f + k : Nat) : Int) by omega, Int.toNat_natCast, ebk]
          refine ⟨fun h1 => ⟨by omega, q4.2, fun h0 => ⟨by omega, by omega, by omega, fun h2 => ⟨by omega, nx2 (fun _ => by rw [h2, h1]; rfl)⟩, fun h2 => fail h0 (by rw [h1]; exact h2)⟩, fun h0 => ⟨by omega, nx2 (fun h => absurd h h0)⟩⟩, fun h1 => ?_⟩
          rcases fst_rng (k := k) so.2.2.1 with h2 | ⟨q, h2, h3⟩
          · exact absurd h2 h1
          · have ei : idv f (fst' X f k (cand (sat (Cw X f) (i + 1)))) = (f : Int) * 200 + fst' X f k (cand (sat (Cw X f) (i + 1))) := by unfold idv; rw [if_neg h1]; omega
            rw [ei] at nx2 fail
            rw [h2] at nx2 fail ⊢
            refine ⟨by omega, by omega, by omega, q4.2, fun h0 => ⟨by omega, by omega, by omega, fun h4 => ⟨by omega, nx2 (fun _ => h4)⟩, fun h4 => fail h0 h4⟩, fun h0 => ⟨by omega, nx2 (fun h => absurd h h0)⟩⟩
      have := lp 300 (t + 2) (by omega) (Nat.le_refl _) (by omega) (fun q h1 h2 => by omega)
      rw [show ((t + 2 : Nat) : Int) = (t : Int) + 2 by omega] at this
      exact this
  refine c_51 hS ⟨by omega, ?_⟩
  rw [Int.toNat_natCast]
  refine c_100 i7 hS ?_
  obtain ⟨G, hG⟩ : ∃ G, G = m_up (m_up (m_up (m_up F 118 2 0) 118 3 0) 118 4 (-1)) 118 5 0 := ⟨_, rfl⟩
  have hSG : St G := by rw [hG]; exact (((hS.fld (ok_7 i7) rk_7_2).fld (ok_7 i7) rk_7_3).fld (ok_7 i7) rk_7_4).fld (ok_7 i7) rk_7_5
  have hfG : fr (fun c => 118 ≤ c ∧ c ≤ 120) F G := by rw [hG]; exact (((fr.rf.up (by decide)).up (by decide)).up (by decide)).up (by decide)
  have w2 : G 118 2 = 0 := by rw [hG, u_ne (Or.inr (by decide)), u_ne (Or.inr (by decide)), u_ne (Or.inr (by decide)), u_eq]
  have w3 : G 118 3 = 0 := by rw [hG, u_ne (Or.inr (by decide)), u_ne (Or.inr (by decide)), u_eq]
  have w4 : G 118 4 = -1 := by rw [hG, u_ne (Or.inr (by decide)), u_eq]
  have w5 : G 118 5 = 0 := by rw [hG, u_eq]
  rw [← hG]
  exact key (Cw X f).length 0 G (by omega) hSG hfG ⟨⟨w2, fun i hi => absurd hi (Nat.not_lt_zero i)⟩, ⟨w3, fun i hi => absurd hi (Nat.not_lt_zero i)⟩, w4, w5⟩ (fun j hj => absurd hj (Nat.not_lt_zero j))
/-- a text that is written so far -/
def TxW (F : MF) (V : List Int) : Prop := F 109 13 = (V.length : Int) ∧ AL (F 198) V
def TWf (F G : MF) : Prop := (∀ c, c ≠ 109 → c ≠ 198 → G c = F c) ∧ ∀ j, j ≠ 13 → G 109 j = F 109 j
theorem TWf.rf : TWf F F := ⟨fun _ _ _ => rfl, fun _ _ => rfl⟩
theorem TWf.tr {H : MF} (h : TWf F G) (k : TWf G H) : TWf F H := ⟨fun c a b => (k.1 c a b).trans (h.1 c a b), fun j a => (k.2 j a).trans (h.2 j a)⟩
theorem s_53 {x : Int} (hS : St F) (h : TxW F V) (hl : V.length < 192) (hx : 0 ≤ x ∧ x < 65536) : C_53 x F (fun F' => TxW F' (V ++ [x]) ∧ TWf F F') m_no := by
  refine c_53 hS ?_
  rw [h.1, Int.toNat_natCast]
  refine ⟨fun _ => ⟨by omega, hx, by omega, ⟨?_, ?_⟩, fun c a b => by rw [up_row a, up_row b], fun j a => by rw [u_ne (Or.inr a), up_row (by decide)]⟩, fun h => by omega⟩
  · rw [u_eq, List.length_append, List.length_singleton]
    omega
  · rw [up_row (by decide)]
    exact h.2.up1
/-- the text is not long -/
theorem itb_len {L : Nat} (hX : ∀ r, r < 24 → Rok (X r)) (hf : f < 3) : ∀ n, (∀ k, a ≤ k → k < a + n → k < (toks X f).length ∧ tl X f k = L) → (itb X f a n).length ≤ (if n = 0 then 0 else 2 * (tc X f (a + n - 1) + ts X f (a + n - 1)))
  | 0, _ => Nat.le_refl _
  | n + 1, h => by
    have ih := itb_len hX hf n (fun k h1 h2 => h k h1 (by omega))
    have hn := h (a + n) (by omega) (by omega)
    have o := toks_ok hn.1
    rw [if_neg (by omega), show a + (n + 1) - 1 = a + n by omega]
    show (itb X f a n ++ ((if 0 < n ∧ kn (ks X f) (a + n - 1) < 10 ∧ kn (ks X f) (a + n) < 10 then [32] else []) ++ tx X f (a + n))).length ≤ _
    obtain ⟨B, hB⟩ : ∃ B : List Int, B = (if 0 < n ∧ kn (ks X f) (a + n - 1) < 10 ∧ kn (ks X f) (a + n) < 10 then [32] else []) := ⟨_, rfl⟩
    rw [← hB, List.length_append, List.length_append, tx_len]
    have b1 : B.length ≤ 1 := by
      rw [hB]
      split
      · exact Nat.le_refl _
      · exact Nat.zero_le _
    have b0 : n = 0 → B.length = 0 := fun h0 => by
      rw [hB, if_neg (fun h => by omega)]
      rfl
    clear hB
    by_cases c : n = 0
    · have := b0 c
      subst c
      rw [if_pos rfl] at ih
      omega
    · rw [if_neg c] at ih
      have h1 := h (a + n - 1) (by omega) (by omega)
      have := (tok_srt hX hf (show a + n - 1 < a + n by omega) hn.1).2 (by rw [h1.2, hn.2])
      omega
theorem ity_len {L : Nat} (hX : ∀ r, r < 24 → Rok (X r)) (hf : f < 3) (h : ∀ k, t + 2 ≤ k → k < e → k < (toks X f).length ∧ tl X f k = L) : (itb X f (t + 2) (e - (t + 2))).length ≤ 48 ∧ (ity X f t e).length ≤ 50 := by
  have h1 := itb_len (a := t + 2) (n := e - (t + 2)) hX hf (fun k a b => h k a (by omega))
  have h2 : (itb X f (t + 2) (e - (t + 2))).length ≤ 48 := by
    by_cases c : e - (t + 2) = 0
    · rw [if_pos c] at h1; omega
    · rw [if_neg c] at h1
      have h3 := h (t + 2 + (e - (t + 2)) - 1) (by omega) (by omega)
      have o := toks_ok h3.1
      have := (hX (8 * f + tl X f (t + 2 + (e - (t + 2)) - 1)) (by omega)).1
      omega
  refine ⟨h2, ?_⟩
  unfold ity
  split
  · rw [List.length_cons, List.length_append, List.length_singleton]; omega
  · omega
theorem chr_rng (hX : ∀ r, r < 24 → Rok (X r)) (hf : f < 3) (hk : k < (toks X f).length) (hi : i < ts X f k) : 32 ≤ chr X f k i ∧ chr X f k i ≤ 126 := by
  have o := toks_ok hk
  exact (hX _ (by omega)).ch (by omega)
theorem itb_chs (hX : ∀ r, r < 24 → Rok (X r)) (hf : f < 3) : ∀ n, (∀ k, a ≤ k → k < a + n → k < (toks X f).length) → chs (itb X f a n)
  | 0, _ => fun c h => absurd h (List.not_mem_nil)
  | n + 1, h => fun c hc => by
    rcases List.mem_append.mp hc with h1 | h1
    · exact itb_chs hX hf n (fun k a b => h k a (by omega)) c h1
    · rcases List.mem_append.mp h1 with h2 | h2
      · split at h2
        · rw [List.mem_singleton.mp h2]; decide
        · exact absurd h2 (List.not_mem_nil)
      · unfold tx at h2
        obtain ⟨i, i1, rfl⟩ := List.mem_map.mp h2
        rw [List.mem_range] at i1
        exact chr_rng hX hf (h (a + n) (by omega) (by omega)) i1
theorem ity_chs (hX : ∀ r, r < 24 → Rok (X r)) (hf : f < 3) (h : ∀ k, t + 2 ≤ k → k < e → k < (toks X f).length) : chs (ity X f t e) := by
  have h1 := itb_chs (a := t + 2) (n := e - (t + 2)) hX hf (fun k a b => h k a (by omega))
  unfold ity
  split
  · intro c hc
    rcases List.mem_cons.mp hc with h2 | h2
    · rw [h2]; decide
    · rcases List.mem_append.mp h2 with h2 | h2
      · exact h1 c h2
      · rw [List.mem_singleton.mp h2]; decide
  · exact h1
end Mk3
