/-! ROWS ARE WRITTEN ANEW, of the reference: all of them -/
section Mj4
variable {F G : MF} {X Y : Nat → List Int} {id r f m k q fr0 to : Nat} {tx0 : List Int} {cut h : Int}
noncomputable def rwA (X : Nat → List Int) (id : Nat) (tx0 : List Int) (cut : Int) (fr0 to r : Nat) : Nat → List Int := rwp X id tx0 r (if (r : Int) = cut then fr0 else 0) (if (r : Int) = cut then to else 0)
theorem rwA_len : rwA X id tx0 cut fr0 to r (X r).length = rwX X id tx0 cut fr0 to r := rfl
noncomputable def AllS (X : Nat → List Int) (id : Nat) (tx0 : List Int) (cut : Int) (fr0 to r : Nat) : Prop := ∀ q, q < r → (rwX X id tx0 cut fr0 to q).length ≤ 24
/-- a column is not within a token that is replaced, but where that is left out -/
def CJ (X : Nat → List Int) (id : Nat) (cut : Int) (fr0 to r j : Nat) : Prop := ∀ k, k < (toks X (r / 8)).length → tl X (r / 8) k = r % 8 → bnd X (200 * (r / 8) + k) = (id : Int) → tc X (r / 8) k < j → j < tc X (r / 8) k + ts X (r / 8) k → (r : Int) = cut ∧ fr0 ≤ tc X (r / 8) k ∧ tc X (r / 8) k < to
theorem rwA_s (j : Nat) : rwA X id tx0 cut fr0 to r (j + 1) = rwA X id tx0 cut fr0 to r j ++ (if (r : Int) = cut ∧ fr0 ≤ j ∧ j < to then [] else if 0 ≤ gx (owns X (r / 8) (r % 8)) j ∧ bnd X (200 * (r / 8) + (gx (owns X (r / 8) (r % 8)) j).toNat) = (id : Int) then (if tc X (r / 8) (gx (owns X (r / 8) (r % 8)) j).toNat = j then tx0 else []) else [gx (X r) j]) := by
  show rwA X id tx0 cut fr0 to r j ++ pce X id tx0 r _ _ j = _
  unfold pce
  by_cases e : (r : Int) = cut
  · rw [if_pos e, if_pos e]
    by_cases c : fr0 ≤ j ∧ j < to
    · rw [if_pos c, if_pos ⟨e, c⟩]
    · rw [if_neg c, if_neg (show ¬ ((r : Int) = cut ∧ fr0 ≤ j ∧ j < to) from fun h => c h.2)]
  · rw [if_neg e, if_neg e, if_neg (show ¬ (0 ≤ j ∧ j < 0) by omega), if_neg (show ¬ ((r : Int) = cut ∧ fr0 ≤ j ∧ j < to) from fun h => e h.1)]
theorem s_313 (hS : St F) (hX : ∀ r, r < 24 → Rok (X r)) (hT : TL F X) (hB : ∀ i, i < 600 → F 253 i = bnd X i) (hid : id < 600) (h104 : F 201 104 = (tx0.length : Int)) (h271 : AL (F 271) tx0) (htl : tx0.length ≤ 120) (hc : chs tx0) (h105 : F 201 105 = cut) (hrg : cut = -1 ∨ (F 201 106 = (fr0 : Int) ∧ F 201 107 = (to : Int) - 1)) (hh : h = 0 ∨ h = 1)
    (hcut : ∀ r : Nat, r < 24 → (r : Int) = cut → ∀ k, k < (toks X (r / 8)).length → tl X (r / 8) k = r % 8 → bnd X (200 * (r / 8) + k) = (id : Int) → fr0 ≤ tc X (r / 8) k → tc X (r / 8) k < to → tc X (r / 8) k + ts X (r / 8) k ≤ to)
    (hown : h = 0 → ∀ f k : Nat, f < 3 → k < (toks X f).length → 200 * f + k = id → ((8 * f + tl X f k : Nat) : Int) = cut ∧ fr0 ≤ tc X f k ∧ tc X f k + ts X f k ≤ to) :
    C_313 (id : Int) h F (fun F' => ((F' 201 102 = 0 ∧ AllS X id tx0 cut fr0 to 24 ∧ TxM F' (rwX X id tx0 cut fr0 to)) ∨ (F' 201 102 = 1 ∧ ¬ AllS X id tx0 cut fr0 to 24 ∧ F' 202 = F 202 ∧ F' 203 = F 203)) ∧ (∀ c, c ≠ 201 → c ≠ 202 → c ≠ 203 → c ≠ 269 → c ≠ 270 → F' c = F c) ∧ ∀ j, j ≠ 101 → j ≠ 102 → F' 201 j = F 201 j) m_no := by
  obtain ⟨RI, hRI⟩ : ∃ RI : MF → Nat → Prop, RI = fun G r => ((∀ c, c ≠ 201 → c ≠ 269 → c ≠ 270 → G c = F c) ∧ ∀ j, j ≠ 101 → j ≠ 102 → G 201 j = F 201 j) ∧ ∀ q, q < r → (rwX X id tx0 cut fr0 to q).length ≤ 24 → G 270 q = ((rwX X id tx0 cut fr0 to q).length : Int) ∧ ∀ i, i < (rwX X id tx0 cut fr0 to q).length → G 269 (24 * q + i) = gx (rwX X id tx0 cut fr0 to q) i := ⟨_, rfl⟩
  obtain ⟨Q, hQ⟩ : ∃ Q : MF → Prop, Q = fun F' => ((F' 201 102 = 0 ∧ AllS X id tx0 cut fr0 to 24 ∧ TxM F' (rwX X id tx0 cut fr0 to)) ∨ (F' 201 102 = 1 ∧ ¬ AllS X id tx0 cut fr0 to 24 ∧ F' 202 = F 202 ∧ F' 203 = F 203)) ∧ (∀ c, c ≠ 201 → c ≠ 202 → c ≠ 203 → c ≠ 269 → c ≠ 270 → F' c = F c) ∧ ∀ j, j ≠ 101 → j ≠ 102 → F' 201 j = F 201 j := ⟨_, rfl⟩
  rw [← hQ]
  have riP : ∀ G G' r, RI G r → PRf r G G' → RI G' r := by
    intro G G' r h k
    rw [hRI] at h ⊢
    refine ⟨⟨fun c a b d => (k.1 c a b).trans (h.1.1 c a b d), fun j a b => (k.2.1 j a b).trans (h.1.2 j a b)⟩, fun q hq hl => ?_⟩
    obtain ⟨h1, h2⟩ := h.2 q hq hl
    exact ⟨by rw [k.1 270 (by decide) (by decide)]; exact h1, fun i hi => by rw [k.2.2 _ (by omega)]; exact h2 i hi⟩
  have p203 : ∀ (G : MF), (∀ j, j ≠ 101 → j ≠ 102 → G 201 j = F 201 j) → ∀ r j : Nat, (r : Int) = cut → (p_203 G (j : Int) (G 201 106) (G 201 107) ↔ fr0 ≤ j ∧ j < to) := by
    intro G hG r j e
    rw [hG 106 (by decide) (by decide), hG 107 (by decide) (by decide)]
    rcases hrg with h1 | ⟨h1, h2⟩
    · omega
    · rw [h1, h2]
      show (¬ ((j : Int) < (fr0 : Int)) ∧ ¬ ((to : Int) - 1 < (j : Int))) ↔ _
      omega
  -- a row, from a column on
  have col : ∀ (d r j : Nat) (G : MF), r < 24 → (X r).length ≤ j + d → j ≤ (X r).length → St G → RI G r → PR G r (rwA X id tx0 cut fr0 to r j) (AllS X id tx0 cut fr0 to r) → CJ X id cut fr0 to r j →
      (∀ G', St G' → RI G' (r + 1) → ((G' 201 102 = 0 ∧ AllS X id tx0 cut fr0 to (r + 1)) ∨ (G' 201 102 = 1 ∧ ¬ AllS X id tx0 cut fr0 to (r + 1))) → L_313_7 (id : Int) h ((r : Int) + 1) G' Q m_no) → L_313_20 (id : Int) h (r : Int) (j : Int) G Q m_no := by
    intro d
    induction d with
    | zero =>
      intro r j G hr hj hj2 hSG hri hpr hcj hK
      obtain rfl : j = (X r).length := by omega
      have hri' := hri
      rw [hRI] at hri'
      have e203 : G 203 r = ((X r).length : Int) := by rw [hri'.1.1 203 (by decide) (by decide) (by decide)]; exact hT.1.len hr
      refine b_313_20 hSG ?_
      rw [Int.toNat_natCast, e203]
      refine ⟨by omega, fun h => by omega, fun _ => ⟨by omega, by omega, ?_⟩⟩
      rw [rwA_len] at hpr
      obtain ⟨p1, p2, p3⟩ := hpr
      refine hK _ (hSG.arr kd_270 (by decide)) ?_ ?_
      · rw [hRI]
        refine ⟨⟨fun c a b d => by rw [up_row d]; exact hri'.1.1 c a b d, fun j a b => by rw [up_row (by decide)]; exact hri'.1.2 j a b⟩, fun q hq hl => ?_⟩
        by_cases e : q = r
        · rw [e] at hl ⊢
          rw [u_eq, p1]
          refine ⟨by omega, fun i hi => ?_⟩
          rw [up_row (by decide)]
          exact p2 i (by omega) hi
        · obtain ⟨h1, h2⟩ := hri'.2 q (by omega) hl
          rw [u_ne (Or.inr e)]
          exact ⟨h1, fun i hi => by rw [up_row (by decide)]; exact h2 i hi⟩
      · rw [up_row (by decide)]
        rcases p3 with ⟨a, b, c⟩ | ⟨a, b⟩
        · exact Or.inl ⟨a, fun q hq => by
            by_cases e : q = r
            · rw [e]; exact c
            · exact b q (by omega)⟩
        · exact Or.inr ⟨a, fun h => b ⟨fun q hq => h q (by omega), h r (by omega)⟩⟩
    | succ d ih =>
      intro r j G hr hj hj2 hSG hri hpr hcj hK
      by_cases hjl : j = (X r).length
      · subst hjl
        have hri' := hri
        rw [hRI] at hri'
        have e203 : G 203 r = ((X r).length : Int) := by rw [hri'.1.1 203 (by decide) (by decide) (by decide)]; exact hT.1.len hr
        exact ih r _ G hr (by omega) (Nat.le_refl _) hSG hri hpr hcj hK
      have hj3 : j < (X r).length := by omega
      have hri' := hri
      rw [hRI] at hri'
      have hz := hri'.1.1
      have hz1 := hri'.1.2
      have hf : r / 8 < 3 := by omega
      have hm : r % 8 < 8 := by omega
      have er : 8 * (r / 8) + r % 8 = r := by omega
      have lk := toks_len hX hf
      have e203 : G 203 r = ((X r).length : Int) := by rw [hz 203 (by decide) (by decide) (by decide)]; exact hT.1.len hr
      have hTG : TL G X := hT.cg (fun c a b => hz c (by omega) (by omega) (by omega))
      have e105 : G 201 105 = cut := by rw [hz1 105 (by decide) (by decide)]; exact h105
      have hl24 := (hX r hr).1
      -- the next column, where nothing is put
      have skip : (r : Int) = cut → fr0 ≤ j → j < to → L_313_20 (id : Int) h (r : Int) ((j : Int) + 1) G Q m_no := by
        intro e1 e2 e3
        have ea := rwA_s (X := X) (id := id) (tx0 := tx0) (cut := cut) (fr0 := fr0) (to := to) (r := r) j
        rw [if_pos ⟨e1, e2, e3⟩, List.append_nil] at ea
        have := ih r (j + 1) G hr (by omega) (by omega) hSG hri (by rw [ea]; exact hpr) (fun k hk h1 h2 h3 h4 => by
          by_cases c : tc X (r / 8) k = j
          · exact ⟨e1, by omega, by omega⟩
          · exact hcj k hk h1 h2 (by omega) (by omega)) hK
        rw [show ((j + 1 : Nat) : Int) = (j : Int) + 1 by omega] at this
        exact this
      -- a char is put
      have put : ¬ ((r : Int) = cut ∧ fr0 ≤ j ∧ j < to) → (∀ k, k < (toks X (r / 8)).length → tl X (r / 8) k = r % 8 → bnd X (200 * (r / 8) + k) = (id : Int) → ¬ (tc X (r / 8) k ≤ j ∧ j < tc X (r / 8) k + ts X (r / 8) k)) →
          (o_206 G (r : Int) (j : Int)) ∧ C_311 (r : Int) (g_206 G (r : Int) (j : Int)) G (fun F9 => (-2147483648 ≤ ((j : Int) + 1) ∧ ((j : Int) + 1) < 2147483648) ∧ L_313_20 (id : Int) h (r : Int) ((j : Int) + 1) F9 Q m_no) m_no := by
        intro hn hno
        refine ⟨ob_206 hr (by omega), ?_⟩
        rw [q_206 hTG.1 hr hj3]
        refine CaV.on (s_311 hSG hr hpr) ?_
        rintro G2 hS2 ⟨k1, k2⟩
        refine ⟨by omega, ?_⟩
        have ea := rwA_s (X := X) (id := id) (tx0 := tx0) (cut := cut) (fr0 := fr0) (to := to) (r := r) j
        rw [if_neg hn, if_neg (fun h0 => by
          rcases own_tok (q := j) hX hf hm (by rw [er]; exact hj3) with h1 | ⟨k, h1, h2, h3, h4⟩
          · omega
          · rw [h2, Int.toNat_natCast] at h0
            exact hno k h1 h3 h0.2 h4)] at ea
        have := ih r (j + 1) G2 hr (by omega) (by omega) hS2 (riP _ _ _ hri k2) (by rw [ea]; exact k1) (fun k hk h1 h2 h3 h4 => absurd ⟨by omega, by omega⟩ (hno k hk h1 h2)) hK
        rw [show ((j + 1 : Nat) : Int) = (j : Int) + 1 by omega] at this
        exact this
      -- no token begins here that is replaced
      have l90 : ∀ x : Int, (∀ k, k < (toks X (r / 8)).length → tl X (r / 8) k = r % 8 → bnd X (200 * (r / 8) + k) = (id : Int) → tc X (r / 8) k = j → (r : Int) = cut ∧ fr0 ≤ j ∧ j < to) → L_313_90 (id : Int) h (r : Int) (j : Int) x G Q m_no := by
        intro x hb
        have hno : ¬ ((r : Int) = cut ∧ fr0 ≤ j ∧ j < to) → ∀ k, k < (toks X (r / 8)).length → tl X (r / 8) k = r % 8 → bnd X (200 * (r / 8) + k) = (id : Int) → ¬ (tc X (r / 8) k ≤ j ∧ j < tc X (r / 8) k + ts X (r / 8) k) := by
          intro hn k hk h1 h2 h3
          by_cases c : tc X (r / 8) k = j
          · exact hn (hb k hk h1 h2 c)
          · obtain ⟨a1, a2, a3⟩ := hcj k hk h1 h2 (by omega) h3.2
            have := hcut r hr a1 k hk h1 h2 a2 a3
            exact hn ⟨a1, by omega, by omega⟩
        refine b_313_90 hSG ?_
        rw [e105]
        refine ⟨fun e => ?_, fun e => ?_⟩
        · rw [p203 G hz1 r j e]
          exact ⟨fun hp => ⟨by omega, skip e hp.1 hp.2⟩, fun hp => put (fun hh => hp hh.2) (hno (fun hh => hp hh.2))⟩
        · exact put (fun hh => e hh.1) (hno (fun hh => e hh.1))
      -- a token that is replaced
      have l86 : ∀ k, k < (toks X (r / 8)).length → tl X (r / 8) k = r % 8 → bnd X (200 * (r / 8) + k) = (id : Int) → tc X (r / 8) k = j → L_313_86 (id : Int) h (r : Int) (j : Int) ((200 * (r / 8) + k : Nat) : Int) G Q m_no := by
        intro k hk h1 h2 h3
        have t := lexm_tok (hTG.2 (r / 8) hf) hk
        have o := toks_ok hk
        rw [h1, er] at o
        have go : ¬ ((r : Int) = cut ∧ fr0 ≤ j ∧ j < to) → L_313_131 (id : Int) h (r : Int) (j : Int) ((200 * (r / 8) + k : Nat) : Int) 0 G Q m_no := by
          intro hn
          have lp : ∀ (d i : Nat) (H : MF), i + d = tx0.length → St H → PRf r G H → PR H r (rwA X id tx0 cut fr0 to r j ++ tx0.take i) (AllS X id tx0 cut fr0 to r) → L_313_131 (id : Int) h (r : Int) (j : Int) ((200 * (r / 8) + k : Nat) : Int) (i : Int) H Q m_no := by
            intro d
            induction d with
            | zero =>
              intro i H hi hSH hP hp
              obtain rfl : i = tx0.length := by omega
              rw [List.take_length] at hp
              have e104 : H 201 104 = (tx0.length : Int) := by rw [hP.2.1 104 (by decide) (by decide), hz1 104 (by decide) (by decide)]; exact h104
              have e216 : H 216 (200 * (r / 8) + k) = (ts X (r / 8) k : Int) := by rw [hP.1 216 (by decide) (by decide)]; exact t.2.2.2
              refine b_313_131 hSH ?_
              rw [e104, Int.toNat_natCast, Int.toNat_natCast, e216]
              refine ⟨fun h => by omega, fun _ => ⟨by omega, by omega, ?_⟩⟩
              -- the columns of the token
              have ej : ∀ s, j + 1 + s ≤ tc X (r / 8) k + ts X (r / 8) k → rwA X id tx0 cut fr0 to r (j + 1 + s) = rwA X id tx0 cut fr0 to r j ++ tx0 := by
                intro s
                induction s with
                | zero =>
                  intro _
                  rw [Nat.add_zero, rwA_s, if_neg hn, ← h1, own_is hX hf hk (q := j) (by omega), Int.toNat_natCast, if_pos ⟨by omega, h2⟩, if_pos h3]
                | succ s ih3 =>
                  intro hs
                  rw [show j + 1 + (s + 1) = (j + 1 + s) + 1 by omega, rwA_s, ih3 (by omega)]
                  split
                  · rw [List.append_nil]
                  · rw [← h1, own_is hX hf hk (q := j + 1 + s) (by omega), Int.toNat_natCast, if_pos ⟨by omega, h2⟩, if_neg (by omega), List.append_nil]
              have ea := ej (ts X (r / 8) k - 1) (by omega)
              rw [show j + 1 + (ts X (r / 8) k - 1) = j + ts X (r / 8) k by omega] at ea
              have := ih r (j + ts X (r / 8) k) H hr (by omega) (by omega) hSH (riP _ _ _ hri hP) (by rw [ea]; exact hp) (fun k2 hk2 a1 a2 a3 a4 => by
                exfalso
                have := tok_one (q := j + ts X (r / 8) k) hX hf hk hk2 (by rw [h1, a1])
                by_cases c : k2 < k
                · have := (tok_srt hX hf c hk).2 (by rw [h1, a1]); omega
                · by_cases c2 : k < k2
                  · have := (tok_srt hX hf c2 hk2).2 (by rw [h1, a1]); omega
                  · have : k = k2 := by omega
                    subst this
                    omega) hK
              rw [show ((j + ts X (r / 8) k : Nat) : Int) = (j : Int) + (ts X (r / 8) k : Int) by omega] at this
              exact this
            | succ d ih2 =>
              intro i H hi hSH hP hp
              have e104 : H 201 104 = (tx0.length : Int) := by rw [hP.2.1 104 (by decide) (by decide), hz1 104 (by decide) (by decide)]; exact h104
              have e271 : H 271 i = gx tx0 i := by rw [hP.1 271 (by decide) (by decide), hz 271 (by decide) (by decide) (by decide)]; exact h271 i (by omega)
              refine b_313_131 hSH ?_
              rw [e104, Int.toNat_natCast, e271]
              refine ⟨fun _ => ⟨by omega, ?_⟩, fun h => by omega⟩
              refine CaV.on (s_311 hSH hr hp) ?_
              rintro H2 hS2 ⟨k1, k2⟩
              refine ⟨by omega, ?_⟩
              have et : tx0.take i ++ [gx tx0 i] = tx0.take (i + 1) := by
                rw [List.take_succ_eq_append_getElem (show i < tx0.length by omega)]
                congr 2
                unfold gx
                rw [List.getD_eq_getElem?_getD, List.getElem?_eq_getElem (show i < tx0.length by omega)]
                rfl
              rw [List.append_assoc, et] at k1
              have := ih2 (i + 1) H2 (by omega) hS2 (hP.tr k2) k1
              rw [show ((i + 1 : Nat) : Int) = (i : Int) + 1 by omega] at this
              exact this
          exact lp tx0.length 0 G (by omega) hSG PRf.rf (by rw [List.take_zero, List.append_nil]; exact hpr)
        refine b_313_86 hSG ?_
        rw [e105]
        refine ⟨fun e => ?_, fun e => go (fun hh => e hh.1)⟩
        rw [p203 G hz1 r j e]
        exact ⟨fun hp => ⟨by omega, skip e hp.1 hp.2⟩, fun hp => go (fun hh => hp hh.2)⟩
      refine b_313_20 hSG ?_
      rw [Int.toNat_natCast, e203, show (r : Int) / 8 = ((r / 8 : Nat) : Int) by omega, show (r : Int) % 8 = ((r % 8 : Nat) : Int) by omega]
      refine ⟨by omega, fun _ => ⟨by omega, by omega, ?_⟩, fun h => by omega⟩
      refine CaI.on (s_308 hSG hX hf (hTG.2 (r / 8) hf) hm (by rw [er]; exact hj3)) ?_
      rintro x G2 _ ⟨rfl, hx⟩
      rcases hx with ⟨rfl, h1⟩ | ⟨k, hk, rfl, h2, h3, h4⟩
      · refine ⟨fun _ => l90 _ (fun k hk a1 a2 a3 => ?_), fun h => absurd rfl h⟩
        have o := toks_ok hk
        have := own_is hX hf hk (q := j) (by omega)
        rw [a1] at this
        omega
      · have t := lexm_tok (hTG.2 (r / 8) hf) hk
        have e253 : G2 253 (200 * (r / 8) + k) = bnd X (200 * (r / 8) + k) := by rw [hz 253 (by decide) (by decide) (by decide)]; exact hB _ (by omega)
        -- it is this token alone
        have un : ∀ k2, k2 < (toks X (r / 8)).length → tl X (r / 8) k2 = r % 8 → tc X (r / 8) k2 = j → k2 = k := fun k2 hk2 a1 a2 => by
          have o2 := toks_ok hk2
          exact tok_one (q := j) hX hf hk2 hk (by rw [a1, h3]) (by omega) h4
        refine ⟨fun h => by omega, fun _ => ⟨by omega, ?_⟩⟩
        rw [Int.toNat_natCast, t.2.2.1, e253]
        refine ⟨fun e1 => ⟨by omega, fun e2 => ⟨fun e3 => ⟨fun e4 => l90 _ (fun k2 hk2 a1 a2 a3 => ?_), fun e4 => l86 k hk h3 e2 (by omega)⟩, fun e3 => l86 k hk h3 e2 (by omega)⟩, fun e2 => l90 _ (fun k2 hk2 a1 a2 a3 => ?_)⟩, fun e1 => l90 _ (fun k2 hk2 a1 a2 a3 => ?_)⟩
        · rw [un k2 hk2 a1 a3] at a3
          obtain ⟨b1, b2, b3⟩ := hown e3 (r / 8) k hf hk (by omega)
          rw [h3, er] at b1
          have o2 := toks_ok hk
          exact ⟨b1, by omega, by omega⟩
        · rw [un k2 hk2 a1 a3] at a2
          exact absurd a2 e2
        · rw [un k2 hk2 a1 a3] at a3
          omega
  have row : ∀ (d r : Nat) (G : MF), r + d = 24 → St G → RI G r → ((G 201 102 = 0 ∧ AllS X id tx0 cut fr0 to r) ∨ (G 201 102 = 1 ∧ ¬ AllS X id tx0 cut fr0 to r)) → L_313_7 (id : Int) h (r : Int) G Q m_no := by
    intro d
    induction d with
    | zero =>
      intro r G hr hSG hri hfl
      obtain rfl : r = 24 := by omega
      rw [hRI] at hri
      refine b_313_7 hSG ⟨fun h => by omega, fun _ => ⟨fun h0 => ?_, fun h0 => ?_⟩⟩
      · have hall : AllS X id tx0 cut fr0 to 24 := by
          rcases hfl with h | h
          · exact h.2
          · rw [h.1] at h0; exact absurd h0 (by decide)
        refine CaV.on (s_309 (m := 576) kd_269 kd_202 hSG (by decide) (by decide) (by decide)) ?_
        rintro G2 hS2 ⟨a1, a2⟩
        refine CaV.on (s_309 (m := 24) kd_270 kd_203 hS2 (by decide) (by decide) (by decide)) ?_
        rintro G3 hS3 ⟨b1, b2⟩
        rw [hQ]
        refine ⟨Or.inl ⟨?_, hall, fun q hq => ?_⟩, fun c c1 c2 c3 c4 c5 => ?_, fun j c1 c2 => ?_⟩
        · rw [b2 201 (by decide), a2 201 (by decide)]; exact h0
        · obtain ⟨e1, e2⟩ := hri.2 q hq (hall q hq)
          have hl := hall q hq
          refine ⟨?_, ⟨hl, rwp_chs hX hq hc _ (Nat.le_refl _)⟩, fun i hi => ?_⟩
          · rw [b1 q, if_pos hq, a2 270 (by decide)]
            exact e1
          · rw [b2 202 (by decide), a1 (24 * q + i), if_pos (by omega)]
            exact e2 i hi
        · rw [b2 c c3, a2 c c2]
          exact hri.1.1 c c1 c4 c5
        · rw [b2 201 (by decide), a2 201 (by decide)]
          exact hri.1.2 j c1 c2
      · have hall : G 201 102 = 1 ∧ ¬ AllS X id tx0 cut fr0 to 24 := by
          rcases hfl with h | h
          · exact absurd h.1 h0
          · exact h
        rw [hQ]
        exact ⟨Or.inr ⟨hall.1, hall.2, hri.1.1 202 (by decide) (by decide) (by decide), hri.1.1 203 (by decide) (by decide) (by decide)⟩, fun c c1 _ _ c4 c5 => hri.1.1 c c1 c4 c5, hri.1.2⟩
    | succ d ih =>
      intro r G hr hSG hri hfl
      refine b_313_7 hSG ⟨fun _ => ?_, fun h => by omega⟩
      refine c_310 hSG ?_
      have hP : PRf r G (m_up G 201 101 0) := ⟨fun c a _ => up_row a, fun j a _ => u_ne (Or.inr a), fun i _ => by rw [up_row (by decide)]⟩
      refine col (X r).length r 0 _ (by omega) (by omega) (Nat.zero_le _) (hSG.fld kd_201 rk_12_101) (riP _ _ _ hri hP) ⟨u_eq, fun i _ hi => absurd hi (Nat.not_lt_zero i), ?_⟩ (fun k _ _ _ h4 _ => absurd h4 (Nat.not_lt_zero _)) (fun G' hS' hri' hfl' => ?_)
      · rw [u_ne (Or.inr (by decide))]
        rcases hfl with ⟨a, b⟩ | ⟨a, b⟩
        · exact Or.inl ⟨a, b, Nat.zero_le _⟩
        · exact Or.inr ⟨a, fun h => b h.1⟩
      · have := ih (r + 1) G' (by omega) hS' hri' hfl'
        rw [show ((r + 1 : Nat) : Int) = (r : Int) + 1 by omega] at this
        exact this
  refine c_313 hS (row 24 0 _ (by decide) (hS.fld kd_201 rk_12_102) ?_ (Or.inl ⟨u_eq, fun q hq => absurd hq (Nat.not_lt_zero q)⟩))
  rw [hRI]
  exact ⟨⟨fun c a _ _ => up_row a, fun j _ b => u_ne (Or.inr b)⟩, fun q hq => absurd hq (Nat.not_lt_zero q)⟩
end Mj4
