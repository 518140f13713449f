/-! ROWS ARE WRITTEN ANEW: all rows, of the class; of the reference -/
section Mj3
variable {F G : MF} {X Y : Nat → List Int} {id r f m k q fr0 to : Nat} {tx0 : List Int} {cut : Int}
/-- all rows are written anew, of the class -/
theorem s_45 (hS : St F) (hX : ∀ r, r < 24 → Rok (X r)) (hG : ∀ f, f < 3 → GaC F (110 + (11 + 19 * f)) f X) (hB : ∀ i, i < 600 → F 117 i = bnd X i) (hL : LinC F 111 X) (h13 : F 109 13 = (tx0.length : Int)) (hT : AL (F 198) tx0) (hTl : tx0.length ≤ 192) (hc : chs tx0) (hft : fr0 ≤ 1000 ∧ to ≤ 1000) :
    C_45 (id : Int) cut (fr0 : Int) (to : Int) F (fun x F' => ((x = 0 ∧ (∀ r, r < 24 → (rwX X id tx0 cut fr0 to r).length ≤ 24) ∧ LinC F' 111 (rwX X id tx0 cut fr0 to)) ∨ (x = 3 ∧ ∃ r, r < 24 ∧ 24 < (rwX X id tx0 cut fr0 to r).length)) ∧ fr (fun c => c = 112 ∨ c = 113 ∨ c = 199) F F') m_no := by
  have key : ∀ (d k : Nat) (G : MF), k + d = 24 → St G → fr (fun c => c = 112 ∨ c = 113 ∨ c = 199) F G → LinC G 111 (fun r => if r < k then rwX X id tx0 cut fr0 to r else X r) → (∀ r, r < k → (rwX X id tx0 cut fr0 to r).length ≤ 24) →
      L_45_3 (id : Int) cut (fr0 : Int) (to : Int) (k : Int) G (fun x F' => ((x = 0 ∧ (∀ r, r < 24 → (rwX X id tx0 cut fr0 to r).length ≤ 24) ∧ LinC F' 111 (rwX X id tx0 cut fr0 to)) ∨ (x = 3 ∧ ∃ r, r < 24 ∧ 24 < (rwX X id tx0 cut fr0 to r).length)) ∧ fr (fun c => c = 112 ∨ c = 113 ∨ c = 199) F F') m_no := by
    intro d
    induction d with
    | zero =>
      intro k G hk hS hf hL hl
      obtain rfl : k = 24 := by omega
      refine b_45_3 hS ⟨fun h => by omega, fun _ => ⟨Or.inl ⟨rfl, hl, ?_⟩, hf⟩⟩
      intro r hr
      have := hL r hr
      dsimp only at this
      rw [if_pos hr] at this
      exact this
    | succ d ih =>
      intro k G hk hS hf hL hl
      have hGG : ∀ g, g < 3 → GaC G (110 + (11 + 19 * g)) g X := fun g hg => by
        have := hG g hg
        unfold GaC TokC at this ⊢
        rw [hf _ (by omega), hf (110 + (11 + 19 * g) + 1) (by omega), hf (110 + (11 + 19 * g) + 2) (by omega), hf (110 + (11 + 19 * g) + 3) (by omega), hf (110 + (11 + 19 * g) + 4) (by omega), hf (110 + (11 + 19 * g) + 5) (by omega), hf (110 + (11 + 19 * g) + 7) (by omega), hf (110 + (11 + 19 * g) + 8) (by omega)]
        exact this
      have one : ∀ (a b : Nat), a = (if (k : Int) = cut then fr0 else 0) → b = (if (k : Int) = cut then to else 0) → a ≤ 1000 ∧ b ≤ 1000 → ∀ T : Nat → MF → Prop, C_46 (k : Int) (id : Int) (a : Int) (b : Int) G (fun r14 F11 => ((r14 = 0 → ((((3 : Int) = 0 ∧ (∀ r, r < 24 → (rwX X id tx0 cut fr0 to r).length ≤ 24) ∧ LinC F11 111 (rwX X id tx0 cut fr0 to)) ∨ ((3 : Int) = 3 ∧ ∃ r, r < 24 ∧ 24 < (rwX X id tx0 cut fr0 to r).length)) ∧ fr (fun c => c = 112 ∨ c = 113 ∨ c = 199) F F11)) ∧ (¬ (r14 = 0) → (-2147483648 ≤ ((k : Int) + 1) ∧ ((k : Int) + 1) < 2147483648) ∧ L_45_3 (id : Int) cut (fr0 : Int) (to : Int) ((k : Int) + 1) F11 (fun x F' => ((x = 0 ∧ (∀ r, r < 24 → (rwX X id tx0 cut fr0 to r).length ≤ 24) ∧ LinC F' 111 (rwX X id tx0 cut fr0 to)) ∨ (x = 3 ∧ ∃ r, r < 24 ∧ 24 < (rwX X id tx0 cut fr0 to r).length)) ∧ fr (fun c => c = 112 ∨ c = 113 ∨ c = 199) F F') m_no))) T := by
        intro a b ha hb hab T
        have e : rwc X id tx0 k a b = rwX X id tx0 cut fr0 to k := by rw [ha, hb]; rfl
        refine CaI.on (s_46 (Y := fun r => if r < k then rwX X id tx0 cut fr0 to r else X r) (tx0 := tx0) hS hX hGG (fun i hi => by rw [hf 117 (by omega)]; exact hB i hi) hL (by omega) (by show (if k < k then _ else X k) = X k; rw [if_neg (Nat.lt_irrefl k)]) (by rw [hf 109 (by omega)]; exact h13) (by rw [hf 198 (by omega)]; exact hT) hTl hc hab) ?_
        rintro x F11 hS11 ⟨h1, h2⟩
        rw [e] at h1
        refine ⟨fun h0 => ?_, fun h0 => ?_⟩
        · rcases h1 with ⟨h3, -⟩ | ⟨-, h3⟩
          · omega
          · exact ⟨Or.inr ⟨rfl, k, by omega, h3⟩, hf.tr h2⟩
        · rcases h1 with ⟨-, h3, h4⟩ | ⟨h3, -⟩
          · refine ⟨by omega, ?_⟩
            have e2 : rupd (fun r => if r < k then rwX X id tx0 cut fr0 to r else X r) k (rwX X id tx0 cut fr0 to k) = fun r => if r < k + 1 then rwX X id tx0 cut fr0 to r else X r := by
              funext r
              unfold rupd
              by_cases c : r = k
              · rw [if_pos c, if_pos (by omega), c]
              · rw [if_neg c]
                show (if r < k then _ else _) = _
                by_cases c2 : r < k
                · rw [if_pos c2, if_pos (by omega)]
                · rw [if_neg c2, if_neg (by omega)]
            rw [e2] at h4
            have := ih (k + 1) F11 (by omega) hS11 (hf.tr h2) h4 (fun r hr => by
              by_cases c : r = k
              · rw [c]; exact h3
              · exact hl r (by omega))
            rw [show ((k + 1 : Nat) : Int) = (k : Int) + 1 by omega] at this
            exact this
          · exact absurd h3 h0
      refine b_45_3 hS ⟨fun _ => ⟨fun e => ?_, fun e => ?_⟩, fun h => by omega⟩
      · exact one fr0 to (by rw [if_pos e]) (by rw [if_pos e]) hft _
      · exact one 0 0 (by rw [if_neg e]) (by rw [if_neg e]) ⟨by decide, by decide⟩ _
  exact c_45 hS (key 24 0 F (by decide) hS fr.rf (by intro r hr; dsimp only; rw [if_neg (Nat.not_lt_zero r)]; exact hL r hr) (fun r hr => absurd hr (Nat.not_lt_zero r)))
/-! of the reference -/
theorem own_is (hX : ∀ r, r < 24 → Rok (X r)) (hf : f < 3) (hk : k < (toks X f).length) (hq : tc X f k ≤ q ∧ q < tc X f k + ts X f k) : gx (owns X f (tl X f k)) q = (k : Int) := by
  have o := toks_ok hk
  rcases own_tok hX hf o.1 (q := q) (by omega) with ⟨-, h⟩ | ⟨k2, h1, h2, h3, h4⟩
  · exact absurd hq (h k hk rfl)
  · rw [h2, tok_one hX hf h1 hk h3 h4 hq]
/-- the token of a column -/
theorem s_308 (hS : St F) (hX : ∀ r, r < 24 → Rok (X r)) (hf : f < 3) (hM : LexM F f X) (hm : m < 8) (hq : q < (X (8 * f + m)).length) :
    C_308 (f : Int) (m : Int) (q : Int) F (fun x F' => F' = F ∧ ((x = -1 ∧ gx (owns X f m) q < 0) ∨ ∃ k, k < (toks X f).length ∧ x = ((200 * f + k : Nat) : Int) ∧ gx (owns X f m) q = (k : Int) ∧ tl X f k = m ∧ tc X f k ≤ q ∧ q < tc X f k + ts X f k)) m_no := by
  have lk := toks_len hX hf
  have hc : F 217 f = ((toks X f).length : Int) := hM.1.1
  have key : ∀ (d i : Nat), i + d = (toks X f).length → (∀ k, k < i → tl X f k = m → ¬ (tc X f k ≤ q ∧ q < tc X f k + ts X f k)) → L_308_3 (f : Int) (m : Int) (q : Int) (i : Int) F (fun x F' => F' = F ∧ ((x = -1 ∧ gx (owns X f m) q < 0) ∨ ∃ k, k < (toks X f).length ∧ x = ((200 * f + k : Nat) : Int) ∧ gx (owns X f m) q = (k : Int) ∧ tl X f k = m ∧ tc X f k ≤ q ∧ q < tc X f k + ts X f k)) m_no := by
    intro d
    induction d with
    | zero =>
      intro i hi hz
      refine b_308_3 hS ?_
      rw [Int.toNat_natCast, hc]
      refine ⟨by omega, fun h => by omega, fun _ => ⟨rfl, Or.inl ⟨rfl, ?_⟩⟩⟩
      rcases own_tok hX hf hm hq with h | ⟨k, h1, -, h3, h4⟩
      · exact h.1
      · exact absurd h4 (hz k (by omega) h3)
    | succ d ih =>
      intro i hi hz
      have hi2 : i < (toks X f).length := by omega
      have t := lexm_tok hM hi2
      have o := toks_ok hi2
      have w1 := (hX (8 * f + tl X f i) (by omega)).1
      have nx : ¬ (tl X f i = m ∧ tc X f i ≤ q ∧ q < tc X f i + ts X f i) → L_308_3 (f : Int) (m : Int) (q : Int) ((i : Int) + 1) F (fun x F' => F' = F ∧ ((x = -1 ∧ gx (owns X f m) q < 0) ∨ ∃ k, k < (toks X f).length ∧ x = ((200 * f + k : Nat) : Int) ∧ gx (owns X f m) q = (k : Int) ∧ tl X f k = m ∧ tc X f k ≤ q ∧ q < tc X f k + ts X f k)) m_no := by
        intro h
        have := ih (i + 1) (by omega) (fun k hk ht hc => by
          by_cases e : k = i
          · rw [e] at ht hc; exact h ⟨ht, hc⟩
          · exact hz k (by omega) ht hc)
        rw [show ((i + 1 : Nat) : Int) = (i : Int) + 1 by omega] at this
        exact this
      have hl2 := (hX (8 * f + m) (by omega)).1
      refine b_308_3 hS ?_
      rw [Int.toNat_natCast, hc, show 200 * (f : Int) + (i : Int) = ((200 * f + i : Nat) : Int) by omega, Int.toNat_natCast, t.2.1, t.2.2.1, t.2.2.2]
      refine ⟨by omega, fun _ => ⟨by omega, by omega, by omega, fun e => ⟨by omega, by omega, by omega, by omega, fun hp => ?_, fun hp => ⟨by omega, nx (fun h => hp ⟨by omega, by omega⟩)⟩⟩, fun e => ⟨by omega, nx (fun h => e (by omega))⟩⟩, fun h => by omega⟩
      have h2 : tc X f i ≤ q ∧ q < tc X f i + ts X f i := by
        obtain ⟨p1, p2⟩ := hp
        omega
      have e2 : tl X f i = m := by omega
      refine ⟨rfl, Or.inr ⟨i, hi2, rfl, ?_, e2, h2⟩⟩
      rw [← e2]
      exact own_is hX hf hi2 h2
  exact c_308 hS (key (toks X f).length 0 (by omega) (fun k hk => absurd hk (Nat.not_lt_zero k)))
/-- a row is copied -/
theorem s_309 {n0 n1 z0 z1 : Nat} (h0 : m_KD[n0]? = some (100, z0)) (h1 : m_KD[n1]? = some (100, z1)) (hS : St F) (hne : n0 ≠ n1) (hm : m ≤ z0 ∧ m ≤ z1) (hz : z0 < 10000 ∧ z1 < 10000) : C_309 n0 n1 (m : Int) F (fun F' => (∀ i, F' n1 i = if i < m then F n0 i else F n1 i) ∧ fr (fun c => c = n1) F F') m_no := by
  have key : ∀ (d i : Nat) (G : MF), i + d = m → St G → fr (fun c => c = n1) F G → (∀ j, G n1 j = if j < i then F n0 j else F n1 j) → L_309_2 n0 n1 (m : Int) (i : Int) G (fun F' => (∀ i, F' n1 i = if i < m then F n0 i else F n1 i) ∧ fr (fun c => c = n1) F F') m_no := by
    intro d
    induction d with
    | zero =>
      intro i G hi hSG hf hv
      obtain rfl : i = m := by omega
      exact b_309_2 h0 h1 hSG ⟨fun h => by omega, fun _ => ⟨hv, hf⟩⟩
    | succ d ih =>
      intro i G hi hSG hf hv
      refine b_309_2 h0 h1 hSG ⟨fun _ => ⟨by omega, by omega, by omega, ?_⟩, fun h => by omega⟩
      rw [Int.toNat_natCast, hf n0 hne]
      have := ih (i + 1) (m_up G n1 i (F n0 i)) (by omega) (hSG.arr h1 (by decide)) (hf.up rfl) (fun j => by
        by_cases e : j = i
        · rw [e, u_eq, if_pos (by omega)]
        · rw [u_ne (Or.inr e), hv j]
          by_cases c : j < i
          · rw [if_pos c, if_pos (by omega)]
          · rw [if_neg c, if_neg (by omega)])
      rw [show ((i + 1 : Nat) : Int) = (i : Int) + 1 by omega] at this
      exact this
  exact c_309 h0 h1 hS (key m 0 F (by omega) hS fr.rf (fun j => by rw [if_neg (Nat.not_lt_zero j)]))
/-- the row that is made anew: what was put so far -/
def PR (G : MF) (r : Nat) (S : List Int) (b : Prop) : Prop := G 201 101 = ((min 24 S.length : Nat) : Int) ∧ (∀ i, i < 24 → i < S.length → G 269 (24 * r + i) = gx S i) ∧ ((G 201 102 = 0 ∧ b ∧ S.length ≤ 24) ∨ (G 201 102 = 1 ∧ ¬ (b ∧ S.length ≤ 24)))
/-- what the putting changes -/
def PRf (r : Nat) (G G' : MF) : Prop := (∀ c, c ≠ 201 → c ≠ 269 → G' c = G c) ∧ (∀ j, j ≠ 101 → j ≠ 102 → G' 201 j = G 201 j) ∧ ∀ i, ¬ (24 * r ≤ i ∧ i < 24 * r + 24) → G' 269 i = G 269 i
theorem PRf.rf : PRf r F F := ⟨fun _ _ _ => rfl, fun _ _ _ => rfl, fun _ _ => rfl⟩
theorem PRf.tr {H : MF} (h : PRf r F G) (k : PRf r G H) : PRf r F H := ⟨fun c a b => (k.1 c a b).trans (h.1 c a b), fun j a b => (k.2.1 j a b).trans (h.2.1 j a b), fun i a => (k.2.2 i a).trans (h.2.2 i a)⟩
theorem s_311 {S : List Int} {b : Prop} {ch : Int} (hS : St F) (hr : r < 24) (h : PR F r S b) : C_311 (r : Int) ch F (fun F' => PR F' r (S ++ [ch]) b ∧ PRf r F F') m_no := by
  obtain ⟨h1, h2, h3⟩ := h
  refine c_311 hS ?_
  rw [h1]
  refine ⟨fun e => ?_, fun e => ⟨by omega, by omega, by omega, by omega, ?_⟩⟩
  · have hl : 24 ≤ S.length := by omega
    refine ⟨⟨?_, fun i hi hi2 => ?_, Or.inr ⟨u_eq, fun h => ?_⟩⟩, ⟨fun c a _ => up_row a, fun j _ a => u_ne (Or.inr a), fun i _ => by rw [up_row (by decide)]⟩⟩
    · rw [u_ne (Or.inr (by decide)), h1, List.length_append]
      omega
    · rw [up_row (by decide), h2 i hi (by omega), gx_app, if_pos (by omega)]
    · rw [List.length_append, List.length_singleton] at h
      omega
  · have hl : S.length < 24 := by omega
    have em : min 24 S.length = S.length := by omega
    rw [em, show (24 * (r : Int) + (S.length : Int)).toNat = 24 * r + S.length by omega]
    refine ⟨⟨?_, fun i hi hi2 => ?_, ?_⟩, ⟨fun c a d => by rw [up_row a, up_row d], fun j a _ => by rw [u_ne (Or.inr a), up_row (by decide)], fun i a => by rw [up_row (by decide), u_ne (Or.inr (by omega))]⟩⟩
    · rw [u_eq, List.length_append, List.length_singleton]
      omega
    · rw [List.length_append, List.length_singleton] at hi2
      rw [up_row (by decide), gx_app]
      by_cases c : i < S.length
      · rw [u_ne (Or.inr (by omega)), h2 i hi c, if_pos c]
      · obtain rfl : i = S.length := by omega
        rw [u_eq, if_neg c, Nat.sub_self]
        rfl
    · rw [u_ne (Or.inr (by decide)), up_row (by decide), List.length_append, List.length_singleton]
      rcases h3 with ⟨a, b, c⟩ | ⟨a, b⟩
      · exact Or.inl ⟨a, b, by omega⟩
      · exact Or.inr ⟨a, fun h => b ⟨h.1, by omega⟩⟩
end Mj3
