/-! ROWS ARE WRITTEN ANEW: as it is meant; of the class -/
noncomputable def pce (X : Nat → List Int) (id : Nat) (tx0 : List Int) (r fr to c : Nat) : List Int :=
  if fr ≤ c ∧ c < to then [] else if 0 ≤ gx (owns X (r / 8) (r % 8)) c ∧ bnd X (200 * (r / 8) + (gx (owns X (r / 8) (r % 8)) c).toNat) = (id : Int) then (if tc X (r / 8) (gx (owns X (r / 8) (r % 8)) c).toNat = c then tx0 else []) else [gx (X r) c]
noncomputable def rwp (X : Nat → List Int) (id : Nat) (tx0 : List Int) (r fr to : Nat) : Nat → List Int
  | 0 => []
  | n + 1 => rwp X id tx0 r fr to n ++ pce X id tx0 r fr to n
noncomputable def rwc (X : Nat → List Int) (id : Nat) (tx0 : List Int) (r fr to : Nat) : List Int := rwp X id tx0 r fr to (X r).length
/-- all rows; in one of them some chars are left out -/
noncomputable def rwX (X : Nat → List Int) (id : Nat) (tx0 : List Int) (cut : Int) (fr to : Nat) : Nat → List Int := fun r => rwc X id tx0 r (if (r : Int) = cut then fr else 0) (if (r : Int) = cut then to else 0)
def chs (l : List Int) : Prop := ∀ c ∈ l, 32 ≤ c ∧ c ≤ 126
section Mj2
variable {F G : MF} {X Y : Nat → List Int} {id r fr0 to : Nat} {tx0 : List Int} {cut : Int}
theorem rwp_le {n : Nat} : ∀ m, m ≤ n → (rwp X id tx0 r fr0 to m).length ≤ (rwp X id tx0 r fr0 to n).length := by
  induction n with
  | zero => intro m h; obtain rfl : m = 0 := Nat.le_zero.mp h; exact Nat.le_refl _
  | succ n ih =>
    intro m h
    by_cases e : m = n + 1
    · subst e; exact Nat.le_refl _
    · have := ih m (by omega)
      show _ ≤ (rwp X id tx0 r fr0 to n ++ pce X id tx0 r fr0 to n).length
      rw [List.length_append]
      omega
theorem rwp_chs (hX : ∀ r, r < 24 → Rok (X r)) (hr : r < 24) (ht : chs tx0) : ∀ n, n ≤ (X r).length → chs (rwp X id tx0 r fr0 to n)
  | 0, _ => fun c h => absurd h (List.not_mem_nil)
  | n + 1, hn => fun c h => by
    rcases List.mem_append.mp h with h | h
    · exact rwp_chs hX hr ht n (by omega) c h
    · unfold pce at h
      split at h
      · exact absurd h (List.not_mem_nil)
      · split at h
        · split at h
          · exact ht c h
          · exact absurd h (List.not_mem_nil)
        · rw [List.mem_singleton.mp h]
          exact (hX r hr).ch (by omega)
theorem owns_rng {f m q : Nat} (hX : ∀ r, r < 24 → Rok (X r)) (hf : f < 3) (hm : m < 8) (hq : q < (X (8 * f + m)).length) : gx (owns X f m) q < 0 ∨ ∃ k, k < (toks X f).length ∧ gx (owns X f m) q = (k : Int) := by
  rcases own_tok hX hf hm hq with h | ⟨k, h1, h2, -⟩
  · exact Or.inl h.1
  · exact Or.inr ⟨k, h1, h2⟩
/-- a row is written anew -/
theorem s_46 (hS : St F) (hX : ∀ r, r < 24 → Rok (X r)) (hG : ∀ f, f < 3 → GaC F (110 + (11 + 19 * f)) f X) (hB : ∀ i, i < 600 → F 117 i = bnd X i) (hL : LinC F 111 Y) (hr : r < 24) (hY : Y r = X r) (h13 : F 109 13 = (tx0.length : Int)) (hT : AL (F 198) tx0) (hTl : tx0.length ≤ 192) (hc : chs tx0) (hft : fr0 ≤ 1000 ∧ to ≤ 1000) :
    C_46 (r : Int) (id : Int) (fr0 : Int) (to : Int) F (fun x F' => ((x = 1 ∧ (rwc X id tx0 r fr0 to).length ≤ 24 ∧ LinC F' 111 (rupd Y r (rwc X id tx0 r fr0 to))) ∨ (x = 0 ∧ 24 < (rwc X id tx0 r fr0 to).length)) ∧ fr (fun c => c = 112 ∨ c = 113 ∨ c = 199) F F') m_no := by
  have hf : r / 8 < 3 := by omega
  have hm : r % 8 < 8 := by omega
  have er : 8 * (r / 8) + r % 8 = r := by omega
  have i8 : 110 + (11 + 19 * (r / 8)) ∈ m_I8 := i8_of (by decide) hf
  have hlen := (hX r hr).1
  have gG := hG (r / 8) hf
  have g107 : ∀ G : MF, (∀ c, c ≠ 199 → G c = F c) → ∀ j, j < (X r).length → g_107 G (110 + (11 + 19 * (r / 8))) ((r % 8 : Nat) : Int) (j : Int) = gx (owns X (r / 8) (r % 8)) j := by
    intro G hz j hj
    unfold g_107
    rw [if_neg (by omega), if_pos (by omega), show (((r % 8 : Nat) : Int) * 24 + (j : Int)).toNat = 24 * (r % 8) + j by omega, hz _ (by omega)]
    exact gG.2.2.2 (r % 8) j hm (by rw [er]; exact hj)
  have o107 : ∀ G : MF, ∀ j, j < (X r).length → o_107 G (110 + (11 + 19 * (r / 8))) ((r % 8 : Nat) : Int) (j : Int) := fun G j hj => by
    refine ⟨by omega, by omega, fun h => by omega, fun _ => ⟨fun _ => ⟨by omega, trivial⟩, fun h => by omega⟩⟩
  have e5 : (r : Int) / 8 = ((r / 8 : Nat) : Int) := by omega
  have e6 : (r : Int) % 8 = ((r % 8 : Nat) : Int) := by omega
  refine c_46 hS ?_
  rw [e5, Int.toNat_natCast]
  refine ⟨by omega, by omega, by omega, by omega, ?_⟩
  have key : ∀ (d j : Nat) (G : MF), j + d = (X r).length → St G → (∀ c, c ≠ 199 → G c = F c) → (rwp X id tx0 r fr0 to j).length ≤ 24 → (∀ i, i < (rwp X id tx0 r fr0 to j).length → G 199 i = gx (rwp X id tx0 r fr0 to j) i) →
      L_46_30 (r : Int) (id : Int) (fr0 : Int) (to : Int) (110 + (11 + 19 * (r / 8))) (((r / 8 : Nat) : Int) * 200) ((rwp X id tx0 r fr0 to j).length : Int) (j : Int) G (fun x F' => ((x = 1 ∧ (rwc X id tx0 r fr0 to).length ≤ 24 ∧ LinC F' 111 (rupd Y r (rwc X id tx0 r fr0 to))) ∨ (x = 0 ∧ 24 < (rwc X id tx0 r fr0 to).length)) ∧ fr (fun c => c = 112 ∨ c = 113 ∨ c = 199) F F') m_no := by
    intro d
    induction d with
    | zero =>
      intro j G hj hSG hz hl hk
      obtain rfl : j = (X r).length := by omega
      have hLG : LinC G 111 Y := hL.fr (P := fun c => c = 199) (fun c hc => hz c hc) (by decide) (by decide)
      refine b_46_30 i8 hSG ?_
      rw [q_21 hLG hr, hY]
      refine ⟨fun h => by omega, fun _ => ?_⟩
      refine CaV.on (s_26 (n := 111) (z2 := 24) (l := rwc X id tx0 r fr0 to) (by decide) kd_199 hSG hLG hr rfl ⟨hl, rwp_chs hX hr hc _ (Nat.le_refl _)⟩ hl (by decide) hk) ?_
      rintro F3 _ ⟨k1, k2⟩
      exact ⟨Or.inl ⟨rfl, hl, k1⟩, (show fr (fun c => c = 112 ∨ c = 113 ∨ c = 199) F G from fun c hc => hz c (fun e => hc (Or.inr (Or.inr e)))).tr (k2.mo (fun c h => by omega))⟩
    | succ d ih =>
      intro j G hj hSG hz hl hk
      have hj2 : j < (X r).length := by omega
      have hLG : LinC G 111 Y := hL.fr (P := fun c => c = 199) (fun c hc => hz c hc) (by decide) (by decide)
      have hbt : ∀ i, i < 600 → G 117 i = bnd X i := fun i hi => by rw [hz 117 (by decide)]; exact hB i hi
      have frG : fr (fun c => c = 112 ∨ c = 113 ∨ c = 199) F G := fun c hc => hz c (fun e => hc (Or.inr (Or.inr e)))
      have mono := rwp_le (X := X) (id := id) (tx0 := tx0) (r := r) (fr0 := fr0) (to := to) (j + 1) hj2
      have e1 : rwp X id tx0 r fr0 to (j + 1) = rwp X id tx0 r fr0 to j ++ pce X id tx0 r fr0 to j := rfl
      have skip : pce X id tx0 r fr0 to j = [] → L_46_30 (r : Int) (id : Int) (fr0 : Int) (to : Int) (110 + (11 + 19 * (r / 8))) (((r / 8 : Nat) : Int) * 200) ((rwp X id tx0 r fr0 to j).length : Int) ((j : Int) + 1) G (fun x F' => ((x = 1 ∧ (rwc X id tx0 r fr0 to).length ≤ 24 ∧ LinC F' 111 (rupd Y r (rwc X id tx0 r fr0 to))) ∨ (x = 0 ∧ 24 < (rwc X id tx0 r fr0 to).length)) ∧ fr (fun c => c = 112 ∨ c = 113 ∨ c = 199) F F') m_no := by
        intro h
        rw [h, List.append_nil] at e1
        have := ih (j + 1) G (by omega) hSG hz (by rw [e1]; exact hl) (by rw [e1]; exact hk)
        rw [e1, show ((j + 1 : Nat) : Int) = (j : Int) + 1 by omega] at this
        exact this
      -- a piece is put
      have put : ∀ (V : List Int) (x : Int), (x = 0 ∧ V = [gx (X r) j]) ∨ (x = 1 ∧ V = tx0) → pce X id tx0 r fr0 to j = V → L_46_122 (r : Int) (id : Int) (fr0 : Int) (to : Int) (110 + (11 + 19 * (r / 8))) (((r / 8 : Nat) : Int) * 200) ((rwp X id tx0 r fr0 to j).length : Int) (j : Int) x G (fun x F' => ((x = 1 ∧ (rwc X id tx0 r fr0 to).length ≤ 24 ∧ LinC F' 111 (rupd Y r (rwc X id tx0 r fr0 to))) ∨ (x = 0 ∧ 24 < (rwc X id tx0 r fr0 to).length)) ∧ fr (fun c => c = 112 ∨ c = 113 ∨ c = 199) F F') m_no := by
        intro V x hx hV
        rw [hV] at e1
        have hVl : V.length ≤ 192 := by
          rcases hx with ⟨-, h⟩ | ⟨-, h⟩
          · rw [h, List.length_singleton]; decide
          · rw [h]; exact hTl
        have h13G : G 109 13 = (tx0.length : Int) := by rw [hz 109 (by decide)]; exact h13
        have over : 24 < (rwp X id tx0 r fr0 to j).length + V.length → ((((0 : Int) = 1 ∧ (rwc X id tx0 r fr0 to).length ≤ 24 ∧ LinC G 111 (rupd Y r (rwc X id tx0 r fr0 to))) ∨ ((0 : Int) = 0 ∧ 24 < (rwc X id tx0 r fr0 to).length)) ∧ fr (fun c => c = 112 ∨ c = 113 ∨ c = 199) F G) := by
          intro h
          refine ⟨Or.inr ⟨rfl, ?_⟩, frG⟩
          rw [e1, List.length_append] at mono
          show 24 < (rwp X id tx0 r fr0 to (X r).length).length
          omega
        have lp : (rwp X id tx0 r fr0 to j).length + V.length ≤ 24 → ∀ (d i : Nat) (H : MF), i + d = V.length → St H → (∀ c, c ≠ 199 → H c = F c) → (∀ q, q < (rwp X id tx0 r fr0 to j).length + i → H 199 q = gx (rwp X id tx0 r fr0 to j ++ V) q) →
            L_46_152 (r : Int) (id : Int) (fr0 : Int) (to : Int) (110 + (11 + 19 * (r / 8))) (((r / 8 : Nat) : Int) * 200) ((rwp X id tx0 r fr0 to j).length : Int) (j : Int) x (V.length : Int) (i : Int) H (fun x F' => ((x = 1 ∧ (rwc X id tx0 r fr0 to).length ≤ 24 ∧ LinC F' 111 (rupd Y r (rwc X id tx0 r fr0 to))) ∨ (x = 0 ∧ 24 < (rwc X id tx0 r fr0 to).length)) ∧ fr (fun c => c = 112 ∨ c = 113 ∨ c = 199) F F') m_no := by
          intro hle d
          induction d with
          | zero =>
            intro i H hi hSH hzH hkH
            obtain rfl : i = V.length := by omega
            refine b_46_152 i8 hSH ⟨fun h => by omega, fun _ => ⟨by omega, by omega, ?_⟩⟩
            have := ih (j + 1) H (by omega) hSH hzH (by rw [e1, List.length_append]; exact hle) (by rw [e1, List.length_append]; exact hkH)
            rw [e1, List.length_append, show ((j + 1 : Nat) : Int) = (j : Int) + 1 by omega, show (((rwp X id tx0 r fr0 to j).length + V.length : Nat) : Int) = ((rwp X id tx0 r fr0 to j).length : Int) + (V.length : Int) by omega] at this
            exact this
          | succ d ih2 =>
            intro i H hi hSH hzH hkH
            have hLH : LinC H 111 Y := hL.fr (P := fun c => c = 199) (fun c hc => hzH c hc) (by decide) (by decide)
            have nx : ∀ v : Int, v = gx V i → L_46_152 (r : Int) (id : Int) (fr0 : Int) (to : Int) (110 + (11 + 19 * (r / 8))) (((r / 8 : Nat) : Int) * 200) ((rwp X id tx0 r fr0 to j).length : Int) (j : Int) x (V.length : Int) ((i : Int) + 1) (m_up H 199 ((rwp X id tx0 r fr0 to j).length + i) v) (fun x F' => ((x = 1 ∧ (rwc X id tx0 r fr0 to).length ≤ 24 ∧ LinC F' 111 (rupd Y r (rwc X id tx0 r fr0 to))) ∨ (x = 0 ∧ 24 < (rwc X id tx0 r fr0 to).length)) ∧ fr (fun c => c = 112 ∨ c = 113 ∨ c = 199) F F') m_no := by
              intro v hv
              have := ih2 (i + 1) (m_up H 199 ((rwp X id tx0 r fr0 to j).length + i) v) (by omega) (hSH.arr kd_199 (by decide)) (fun c hc => by rw [up_row hc, hzH c hc]) (fun q hq => by
                by_cases e : q = (rwp X id tx0 r fr0 to j).length + i
                · rw [e, u_eq, gx_app, if_neg (by omega), Nat.add_sub_cancel_left, hv]
                · rw [u_ne (Or.inr e)]
                  exact hkH q (by omega))
              rw [show ((i + 1 : Nat) : Int) = (i : Int) + 1 by omega] at this
              exact this
            refine b_46_152 i8 hSH ⟨fun _ => ⟨by omega, fun h0 => ?_, fun h0 => ?_⟩, fun h => by omega⟩
            · rcases hx with ⟨-, hv⟩ | ⟨h1, -⟩
              · have hi0 : i = 0 := by rw [hv, List.length_singleton] at hi; omega
                have hsg : g_22 H 111 (r : Int) (j : Int) = gx V i := by
                  rw [q_22 hLH hr, hY, sgn_in hj2, hv, hi0]
                  rfl
                have hch := (hX r hr).ch hj2
                refine ⟨ob_22 hLH hr _, by omega, ?_, by omega, ?_⟩
                · rw [hsg, hv, hi0]
                  show 0 ≤ gx (X r) j ∧ gx (X r) j < 65536
                  omega
                · rw [show (((rwp X id tx0 r fr0 to j).length : Int) + (i : Int)).toNat = (rwp X id tx0 r fr0 to j).length + i by omega]
                  exact nx _ hsg
              · omega
            · rcases hx with ⟨h1, -⟩ | ⟨-, hv⟩
              · exact absurd h1 h0
              · have h198 : H 198 i = gx V i := by rw [hzH 198 (by decide), hv]; exact hT i (by rw [← hv]; omega)
                have hcv : 32 ≤ gx V i ∧ gx V i ≤ 126 := hc _ (by rw [← hv]; exact gx_mem (by omega))
                rw [Int.toNat_natCast, h198]
                refine ⟨by omega, by omega, by omega, by omega, ?_⟩
                rw [show (((rwp X id tx0 r fr0 to j).length : Int) + (i : Int)).toNat = (rwp X id tx0 r fr0 to j).length + i by omega]
                exact nx _ rfl
        have st : (rwp X id tx0 r fr0 to j).length + V.length ≤ 24 → L_46_152 (r : Int) (id : Int) (fr0 : Int) (to : Int) (110 + (11 + 19 * (r / 8))) (((r / 8 : Nat) : Int) * 200) ((rwp X id tx0 r fr0 to j).length : Int) (j : Int) x (V.length : Int) 0 G (fun x F' => ((x = 1 ∧ (rwc X id tx0 r fr0 to).length ≤ 24 ∧ LinC F' 111 (rupd Y r (rwc X id tx0 r fr0 to))) ∨ (x = 0 ∧ 24 < (rwc X id tx0 r fr0 to).length)) ∧ fr (fun c => c = 112 ∨ c = 113 ∨ c = 199) F F') m_no := fun h => lp h V.length 0 G (by omega) hSG hz (fun q hq => by
          rw [gx_app, if_pos (by omega)]
          exact hk q (by omega))
        refine b_46_122 i8 hSG ⟨fun h0 => ⟨by omega, fun h => ?_, fun h => ?_⟩, fun h0 => ?_⟩
        · refine over ?_
          rcases hx with ⟨-, hv⟩ | ⟨h1, -⟩
          · rw [hv, List.length_singleton]; omega
          · omega
        · rcases hx with ⟨-, hv⟩ | ⟨h1, -⟩
          · have hvl : V.length = 1 := by rw [hv]; rfl
            have := st (by rw [hvl]; omega)
            rw [hvl] at this
            exact this
          · omega
        · rcases hx with ⟨h1, -⟩ | ⟨-, hv⟩
          · exact absurd h1 h0
          · have hvl : (tx0.length : Int) = (V.length : Int) := by rw [hv]
            rw [h13G, hvl]
            exact ⟨by omega, fun h => over (by omega), fun h => st (by omega)⟩
      have ey : pce X id tx0 r fr0 to j = if fr0 ≤ j ∧ j < to then [] else if 0 ≤ gx (owns X (r / 8) (r % 8)) j ∧ bnd X (200 * (r / 8) + (gx (owns X (r / 8) (r % 8)) j).toNat) = (id : Int) then (if tc X (r / 8) (gx (owns X (r / 8) (r % 8)) j).toNat = j then tx0 else []) else [gx (X r) j] := rfl
      -- a char of its own, or left out
      have l85 : ∀ o : Int, ¬ (0 ≤ gx (owns X (r / 8) (r % 8)) j ∧ bnd X (200 * (r / 8) + (gx (owns X (r / 8) (r % 8)) j).toNat) = (id : Int)) → L_46_85 (r : Int) (id : Int) (fr0 : Int) (to : Int) (110 + (11 + 19 * (r / 8))) (((r / 8 : Nat) : Int) * 200) ((rwp X id tx0 r fr0 to j).length : Int) (j : Int) o G (fun x F' => ((x = 1 ∧ (rwc X id tx0 r fr0 to).length ≤ 24 ∧ LinC F' 111 (rupd Y r (rwc X id tx0 r fr0 to))) ∨ (x = 0 ∧ 24 < (rwc X id tx0 r fr0 to).length)) ∧ fr (fun c => c = 112 ∨ c = 113 ∨ c = 199) F F') m_no := by
        intro o hno
        refine b_46_85 i8 hSG ⟨fun h => put _ 0 (Or.inl ⟨rfl, rfl⟩) (by rw [ey, if_neg (by omega), if_neg hno]), fun h => ⟨fun h2 => ⟨by omega, skip (by rw [ey, if_pos (by omega)])⟩, fun h2 => put _ 0 (Or.inl ⟨rfl, rfl⟩) (by rw [ey, if_neg (by omega), if_neg hno])⟩⟩
      refine b_46_30 i8 hSG ?_
      rw [q_21 hLG hr, hY, e6, g107 G hz j hj2]
      refine ⟨fun _ => ⟨by omega, o107 G j hj2, fun ho => l85 _ (fun h => by omega), fun ho => ?_⟩, fun h => by omega⟩
      rcases owns_rng (m := r % 8) hX hf hm (by rw [er]; exact hj2) with h | ⟨k, hkl, hko⟩
      · omega
      · have lk := toks_len hX hf
        have tk1 := gac_tok gG hkl
        rw [hko] at ey l85 ⊢
        rw [Int.toNat_natCast] at ey l85
        rw [show ((r / 8 : Nat) : Int) * 200 + (k : Int) = ((200 * (r / 8) + k : Nat) : Int) by omega, Int.toNat_natCast, Int.toNat_natCast, hbt _ (by omega), hz _ (by omega), tk1.2.2.1]
        refine ⟨by omega, by omega, fun hb => ?_, fun hb => l85 _ (fun h => hb h.2)⟩
        have cnd : (0 : Int) ≤ (k : Int) ∧ bnd X (200 * (r / 8) + k) = (id : Int) := ⟨by omega, hb⟩
        have two : ¬ (fr0 ≤ j ∧ j < to) → ((0 ≤ (k : Int) ∧ (k : Int) < 192) ∧ (((tc X (r / 8) k : Int) = (j : Int) → L_46_122 (r : Int) (id : Int) (fr0 : Int) (to : Int) (110 + (11 + 19 * (r / 8))) (((r / 8 : Nat) : Int) * 200) ((rwp X id tx0 r fr0 to j).length : Int) (j : Int) 1 G (fun x F' => ((x = 1 ∧ (rwc X id tx0 r fr0 to).length ≤ 24 ∧ LinC F' 111 (rupd Y r (rwc X id tx0 r fr0 to))) ∨ (x = 0 ∧ 24 < (rwc X id tx0 r fr0 to).length)) ∧ fr (fun c => c = 112 ∨ c = 113 ∨ c = 199) F F') m_no) ∧
            (¬ ((tc X (r / 8) k : Int) = (j : Int)) → (-2147483648 ≤ ((j : Int) + 1) ∧ ((j : Int) + 1) < 2147483648) ∧ L_46_30 (r : Int) (id : Int) (fr0 : Int) (to : Int) (110 + (11 + 19 * (r / 8))) (((r / 8 : Nat) : Int) * 200) ((rwp X id tx0 r fr0 to j).length : Int) ((j : Int) + 1) G (fun x F' => ((x = 1 ∧ (rwc X id tx0 r fr0 to).length ≤ 24 ∧ LinC F' 111 (rupd Y r (rwc X id tx0 r fr0 to))) ∨ (x = 0 ∧ 24 < (rwc X id tx0 r fr0 to).length)) ∧ fr (fun c => c = 112 ∨ c = 113 ∨ c = 199) F F') m_no))) := by
          intro hn
          rw [if_neg hn, if_pos cnd] at ey
          refine ⟨by omega, fun h => put tx0 1 (Or.inr ⟨rfl, rfl⟩) (by rw [ey, if_pos (by omega)]), fun h => ⟨by omega, skip (by rw [ey, if_neg (by omega)])⟩⟩
        exact ⟨fun h => two (by omega), fun h => ⟨fun h2 => ⟨by omega, skip (by rw [ey, if_pos (by omega)])⟩, fun h2 => two (by omega)⟩⟩
  exact key (X r).length 0 F (by omega) hS (fun _ _ => rfl) (Nat.zero_le _) (fun i hi => absurd hi (Nat.not_lt_zero i))
end Mj2
