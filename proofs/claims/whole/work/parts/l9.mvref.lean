/-! ROWS ARE LAID ANEW, OF THE REFERENCE -/
/-- a row is laid -/
def Lay (F : MF) (Z : Nat → List Int) (oz : Nat → Int) (r : Nat) : Prop := F 270 r = ((Z r).length : Int) ∧ (∀ j, j < (Z r).length → F 269 (24 * r + j) = gx (Z r) j) ∧ F 276 r = oz r
def LyF (c : Nat) : Prop := c = 269 ∨ c = 270 ∨ c = 276
section Ml9
variable {F G : MF} {X Y Z : Nat → List Int} {og s oz : Nat → Int} {f t o l g a b n r i k top at' : Nat}
theorem Lay.keep (h : Lay F Z oz r) (hl : (Z r).length ≤ 24) (h1 : G 270 r = F 270 r) (h2 : G 276 r = F 276 r) (h3 : ∀ j, j < 24 → G 269 (24 * r + j) = F 269 (24 * r + j)) : Lay G Z oz r :=
  ⟨by rw [h1]; exact h.1, fun j hj => by rw [h3 j (by omega)]; exact h.2.1 j hj, by rw [h2]; exact h.2.2⟩
theorem TxM.fr {P : Nat → Prop} (h : TxM F Y) (hf : fr P F G) (h1 : ¬ P 202) (h2 : ¬ P 203) : TxM G Y := by
  unfold TxM at *
  rw [hf 202 h1, hf 203 h2]
  exact h
theorem sh_rok (hY : ∀ r, r < 24 → Rok (Y r)) (h : s r = -1 ∨ 0 ≤ s r ∧ s r < 24) : Rok (sh s Y r) := by
  rcases h with h | h
  · rw [sh_no h]; exact rok_nil
  · rw [sh_at (show s r = (((s r).toNat : Nat) : Int) by omega)]
    exact hY _ (by omega)
theorem s_322 (hS : St F) (hT : TxM F Y) (h275 : ∀ r, r < 24 → F 275 r = og r) (hr : r < 24) (hs : s r = -1 ∨ 0 ≤ s r ∧ s r < 24) :
    C_322 (r : Int) (s r) F (fun F' => Lay F' (sh s Y) (sho s og) r ∧ (∀ r', r' ≠ r → F' 270 r' = F 270 r' ∧ F' 276 r' = F 276 r' ∧ ∀ j, j < 24 → F' 269 (24 * r' + j) = F 269 (24 * r' + j)) ∧ fr LyF F F') m_no := by
  have f2 : ∀ x y : Int, fr LyF F (m_up (m_up F 270 r x) 276 r y) := fun x y => (fr.rf.up (Or.inr (Or.inl rfl))).up (Or.inr (Or.inr rfl))
  have s2 : ∀ x y : Int, St (m_up (m_up F 270 r x) 276 r y) := fun x y => (hS.arr kd_270 (by decide)).arr kd_276 (by decide)
  rcases hs with hs | hs
  · refine c_322 hS ⟨fun _ => ⟨by omega, by omega, ?_⟩, fun h => absurd hs h⟩
    rw [Int.toNat_natCast]
    refine b_322_44 (s2 _ _) ?_
    rw [Int.toNat_natCast]
    have e0 : (m_up (m_up F 270 r 0) 276 r (-1)) 270 r = 0 := by rw [up_row (by decide), u_eq]
    rw [e0]
    refine ⟨by omega, fun h => by omega, fun _ => ⟨⟨by rw [e0, sh_no hs]; rfl, fun j hj => ?_, by rw [u_eq, sho_no hs]⟩, fun r' hr' => ⟨by rw [up_row (by decide), u_ne (Or.inr hr')], by rw [u_ne (Or.inr hr'), up_row (by decide)], fun j _ => by rw [up_row (by decide), up_row (by decide)]⟩, f2 _ _⟩⟩
    rw [sh_no hs] at hj
    exact absurd hj (Nat.not_lt_zero j)
  · obtain ⟨q, hq⟩ : ∃ q : Nat, s r = (q : Int) := ⟨(s r).toNat, by omega⟩
    rw [hq] at hs
    have hY := hT q (by omega)
    have hl := hY.2.1.1
    refine c_322 hS ⟨fun h => by omega, fun _ => ?_⟩
    rw [hq, Int.toNat_natCast, Int.toNat_natCast, hY.1, h275 q (by omega)]
    refine ⟨by omega, by omega, by omega, by omega, ?_⟩
    have key : ∀ (d j : Nat) (G : MF), j + d = (Y q).length → St G → fr LyF F G → (∀ r', r' ≠ r → G 270 r' = F 270 r' ∧ G 276 r' = F 276 r' ∧ ∀ j, j < 24 → G 269 (24 * r' + j) = F 269 (24 * r' + j)) → G 270 r = ((Y q).length : Int) → G 276 r = og q → (∀ z, z < j → G 269 (24 * r + z) = gx (Y q) z) →
        L_322_44 (r : Int) (q : Int) (j : Int) G (fun F' => Lay F' (sh s Y) (sho s og) r ∧ (∀ r', r' ≠ r → F' 270 r' = F 270 r' ∧ F' 276 r' = F 276 r' ∧ ∀ j, j < 24 → F' 269 (24 * r' + j) = F 269 (24 * r' + j)) ∧ fr LyF F F') m_no := by
      intro d
      induction d with
      | zero =>
        intro j G hj hSG hf h1 h2 h3 h4
        refine b_322_44 hSG ?_
        rw [Int.toNat_natCast, h2]
        exact ⟨by omega, fun h => by omega, fun _ => ⟨⟨by rw [sh_at hq]; exact h2, fun z hz => by rw [sh_at hq] at hz ⊢; exact h4 z (by omega), by rw [sho_at hq]; exact h3⟩, h1, hf⟩⟩
      | succ d ih =>
        intro j G hj hSG hf h1 h2 h3 h4
        have hTG : TxM G Y := hT.fr hf (by unfold LyF; omega) (by unfold LyF; omega)
        refine b_322_44 hSG ?_
        rw [Int.toNat_natCast, h2, q_206 hTG (by omega) (by omega), show (24 * (r : Int) + (j : Int)).toNat = 24 * r + j by omega]
        refine ⟨by omega, fun _ => ⟨by omega, by omega, ⟨by omega, by omega, by omega, trivial⟩, by omega, by omega, ?_⟩, fun h => by omega⟩
        have := ih (j + 1) (m_up G 269 (24 * r + j) (gx (Y q) j)) (by omega) (hSG.arr kd_269 (by decide)) (hf.up (Or.inl rfl)) (fun r' hr' => by
          obtain ⟨a1, a2, a3⟩ := h1 r' hr'
          exact ⟨by rw [up_row (by decide)]; exact a1, by rw [up_row (by decide)]; exact a2, fun z hz => by rw [u_ne (Or.inr (by omega))]; exact a3 z hz⟩) (by rw [up_row (by decide)]; exact h2) (by rw [up_row (by decide)]; exact h3) (fun z hz => by
          by_cases c : z = j
          · rw [c, u_eq]
          · rw [u_ne (Or.inr (by omega))]; exact h4 z (by omega))
        rw [show ((j + 1 : Nat) : Int) = (j : Int) + 1 by omega] at this
        exact this
    exact key (Y q).length 0 _ (by omega) (s2 _ _) (f2 _ _) (fun r' hr' => ⟨by rw [up_row (by decide), u_ne (Or.inr hr')], by rw [u_ne (Or.inr hr'), up_row (by decide)], fun j _ => by rw [up_row (by decide), up_row (by decide)]⟩) (by rw [up_row (by decide), u_eq]) u_eq (fun z hz => absurd hz (Nat.not_lt_zero z))
/-- rows are laid one by one -/
theorem lay_st {x : Int} (hS : St F) (hT : TxM F Y) (h275 : ∀ r, r < 24 → F 275 r = og r) (hr : r < 24) (hrg : ∀ r, r < 24 → s r = -1 ∨ 0 ≤ s r ∧ s r < 24) (hA : ∀ q, q < r → Lay F (sh s Y) (sho s og) q) (hx : x = s r) :
    C_322 (r : Int) x F (fun F' => (∀ q, q < r + 1 → Lay F' (sh s Y) (sho s og) q) ∧ fr LyF F F') m_no := by
  rw [hx]
  refine CaV.on (s_322 hS hT h275 hr (hrg r hr)) ?_
  rintro F' hS' ⟨k1, k2, k3⟩
  refine ⟨fun q hq => ?_, k3⟩
  by_cases c : q = r
  · rw [c]; exact k1
  · obtain ⟨a1, a2, a3⟩ := k2 q c
    exact (hA q (by omega)).keep (sh_rok (fun r hr => (hT r hr).2.1) (hrg q (by omega))).1 a1 a2 a3
theorem s_323 (hS : St F) (hZ : ∀ r, r < 24 → Rok (Z r)) (h : ∀ r, r < 24 → Lay F Z oz r) : C_323 F (fun F' => TxM F' Z ∧ (∀ r, r < 24 → F' 275 r = oz r) ∧ fr (fun c => c = 202 ∨ c = 203 ∨ c = 275) F F') m_no := by
  refine c_323 hS ?_
  refine CaV.on (s_309 (m := 576) kd_269 kd_202 hS (by decide) (by decide) (by decide)) ?_
  rintro F1 hS1 ⟨a1, a2⟩
  refine CaV.on (s_309 (m := 24) kd_270 kd_203 hS1 (by decide) (by decide) (by decide)) ?_
  rintro F2 hS2 ⟨b1, b2⟩
  refine CaV.on (s_309 (m := 24) kd_276 kd_275 hS2 (by decide) (by decide) (by decide)) ?_
  rintro F3 hS3 ⟨c1, c2⟩
  refine ⟨fun r hr => ⟨?_, hZ r hr, fun j hj => ?_⟩, fun r hr => ?_, ?_⟩
  · rw [c2 203 (by decide), b1 r, if_pos hr, a2 270 (by decide)]
    exact (h r hr).1
  · have := (hZ r hr).1
    rw [c2 202 (by decide), b2 202 (by decide), a1 (24 * r + j), if_pos (by omega)]
    exact (h r hr).2.1 j hj
  · rw [c1 r, if_pos hr, b2 276 (by decide), a2 276 (by decide)]
    exact (h r hr).2.2
  · exact (a2.mo (fun c hc => Or.inl hc)).tr ((b2.mo (fun c hc => Or.inr (Or.inl hc))).tr (c2.mo (fun c hc => Or.inr (Or.inr hc))))
/-- lines of a file come into another one -/
theorem s_325 {bot : Nat} (hS : St F) (hT : TxM F X) (h275 : ∀ r : Nat, r < 24 → F 275 r = (r : Int)) (hf : f < 3) (ho : o < 3) (hfo : o ≠ f) (htb : top ≤ bot) (hb8 : bot < 8) (en : n = bot + 1 - top) (ha8 : at' ≤ 8) :
    C_325 (f : Int) (top : Int) (bot : Int) (o : Int) ((at' : Int) - 1) F (fun x F' => ((x = 0 ∧ noRm X o at' n) ∨ (x = 1 ∧ ¬ noRm X o at' n ∧ TxM F' (sh (mvS f top n o at') X) ∧ ∀ r, r < 24 → F' 275 r = mvS f top n o at' r)) ∧ fr (fun c => LyF c ∨ c = 202 ∨ c = 203 ∨ c = 275) F F') m_no := by
  have hX : ∀ r, r < 24 → Rok (X r) := fun r hr => (hT r hr).2.1
  obtain ⟨s, hs⟩ : ∃ s, s = mvS f top n o at' := ⟨_, rfl⟩
  have hrg : ∀ r, r < 24 → s r = -1 ∨ 0 ≤ s r ∧ (s r < 24 ∨ 8 < at' + n) := fun r hr => by
    rw [hs]
    obtain ⟨q, m, hq, hm, rfl⟩ := r8 hr
    by_cases c1 : q = f
    · subst c1
      rw [mvS_f hm]
      split
      · exact Or.inr ⟨by omega, by omega⟩
      · split
        · exact Or.inr ⟨by omega, by omega⟩
        · exact Or.inl rfl
    · by_cases c2 : q = o
      · subst c2
        rw [mvS_o hm c1]
        split
        · exact Or.inr ⟨by omega, by omega⟩
        · split
          · exact Or.inr ⟨by omega, by omega⟩
          · exact Or.inr ⟨by omega, by omega⟩
      · rw [mvS_x hm c1 c2]
        exact Or.inr ⟨by omega, by omega⟩
  have hrg2 : ∀ r, r < 24 → s r = -1 ∨ 0 ≤ s r ∧ s r < 24 := fun r hr => by
    rcases hrg r hr with h | h
    · exact Or.inl h
    · refine Or.inr ⟨h.1, ?_⟩
      rw [hs] at h ⊢
      obtain ⟨q, m, hq, hm, rfl⟩ := r8 hr
      by_cases c1 : q = f
      · subst c1
        rw [mvS_f hm] at h ⊢
        split <;> (try split) <;> omega
      · by_cases c2 : q = o
        · subst c2
          rw [mvS_o hm c1] at h ⊢
          split <;> (try split) <;> omega
        · rw [mvS_x hm c1 c2]
          omega
  obtain ⟨Q, hQ⟩ : ∃ Q : Int → MF → Prop, Q = fun x F' => ((x = 0 ∧ noRm X o at' n) ∨ (x = 1 ∧ ¬ noRm X o at' n ∧ TxM F' (sh s X) ∧ ∀ r, r < 24 → F' 275 r = s r)) ∧ fr (fun c => LyF c ∨ c = 202 ∨ c = 203 ∨ c = 275) F F' := ⟨_, rfl⟩
  rw [← hs, ← hQ]
  obtain ⟨Iv, hIv⟩ : ∃ Iv : Int → Nat → Prop, Iv = fun x r => (x = 1 ∧ at' + n ≤ 8 ∧ ∀ l, at' ≤ l → l < 8 → 8 * o + l < r → 8 ≤ l + n → X (8 * o + l) = []) ∨ (x = 0 ∧ noRm X o at' n) := ⟨_, rfl⟩
  have key : ∀ (d r : Nat) (x : Int) (G : MF), r + d = 24 → St G → fr LyF F G → (∀ q, q < r → Lay G (sh s X) (sho s idS) q) → Iv x r → L_325_27 (f : Int) (top : Int) (o : Int) ((at' : Int) - 1) (n : Int) x (r : Int) G Q m_no := by
    intro d
    induction d with
    | zero =>
      intro r x G hr hSG hfr hA hx
      obtain rfl : r = 24 := by omega
      rw [hIv] at hx
      refine b_325_27 hSG ⟨fun h => by omega, fun _ => ?_⟩
      rcases hx with ⟨rfl, x1, x2⟩ | ⟨rfl, hx⟩
      · refine ⟨fun h => absurd h (by decide), fun _ => ?_⟩
        refine CaV.on (s_323 hSG (fun r hr => sh_rok hX (hrg2 r hr)) hA) ?_
        rintro F5 hS5 ⟨k1, k2, k3⟩
        refine ⟨Or.inr rfl, ?_⟩
        rw [hQ]
        refine ⟨Or.inr ⟨rfl, fun hn => ?_, k1, fun r hr => ?_⟩, (hfr.mo (fun c h => Or.inl h)).tr (k3.mo (fun c h => Or.inr h))⟩
        · rcases hn with hn | ⟨l, l1, l2, l3, l4⟩
          · omega
          · exact l4 (x2 l l1 l2 (by omega) l3)
        · rw [k2 r hr]
          exact sho_id ((hrg2 r hr).imp (fun h => h) (fun h => h.1))
      · refine ⟨fun _ => ⟨Or.inl rfl, ?_⟩, fun h => absurd rfl h⟩
        rw [hQ]
        exact ⟨Or.inl ⟨rfl, hx⟩, hfr.mo (fun c h => Or.inl h)⟩
    | succ d ih =>
      intro r x G hr hSG hfr hA hx
      have hTG : TxM G X := hT.fr hfr (by unfold LyF; omega) (by unfold LyF; omega)
      have h275G : ∀ r, r < 24 → G 275 r = idS r := fun r hr => by rw [hfr 275 (by unfold LyF; omega)]; exact h275 r hr
      have lay : ∀ {x : Int}, x = s r → C_322 (r : Int) x G (fun F' => (∀ q, q < r + 1 → Lay F' (sh s X) (sho s idS) q) ∧ fr LyF G F') m_no := fun hx => lay_st hSG hTG h275G (by omega) hrg2 hA hx
      have nx : ∀ (y : Int) (G2 : MF), St G2 → ((∀ q, q < r + 1 → Lay G2 (sh s X) (sho s idS) q) ∧ fr LyF G G2) → Iv y (r + 1) → L_325_27 (f : Int) (top : Int) (o : Int) ((at' : Int) - 1) (n : Int) y ((r : Int) + 1) G2 Q m_no := fun y G2 hS2 hL hy => by
        have := ih (r + 1) y G2 (by omega) hS2 (hfr.tr hL.2) hL.1 hy
        rw [show ((r + 1 : Nat) : Int) = (r : Int) + 1 by omega] at this
        exact this
      obtain ⟨q, m, hq, hm, rfl⟩ := r8 (show r < 24 by omega)
      have ed : ((8 * q + m : Nat) : Int) / 8 = (q : Int) := by omega
      have em : ((8 * q + m : Nat) : Int) % 8 = (m : Int) := by omega
      rw [hIv] at hx nx
      refine b_325_27 hSG ⟨fun _ => ⟨by omega, by omega, ?_⟩, fun h => by omega⟩
      rw [ed, em]
      -- where the row is not one of the other file
      have same : q ≠ o → (x = 1 ∧ at' + n ≤ 8 ∧ ∀ l, at' ≤ l → l < 8 → 8 * o + l < 8 * q + m + 1 → 8 ≤ l + n → X (8 * o + l) = []) ∨ (x = 0 ∧ noRm X o at' n) := fun hqo => hx.imp (fun ⟨h1, h2, h3⟩ => ⟨h1, h2, fun l l1 l2 l3 l4 => h3 l l1 l2 (by omega) l4⟩) (fun h => h)
      refine ⟨fun e1 => ?_, fun e1 => ⟨by omega, fun e2 => ?_, fun e2 => ?_⟩⟩
      · have c1 : q = f := by omega
        subst c1
        have sq : s (8 * q + m) = if m < top then ((8 * q + m : Nat) : Int) else if m + n < 8 then ((8 * q + m + n : Nat) : Int) else -1 := by rw [hs]; exact mvS_f hm
        have fin : ∀ G2, St G2 → ((∀ z, z < 8 * q + m + 1 → Lay G2 (sh s X) (sho s idS) z) ∧ fr LyF G G2) → (-2147483648 ≤ ((8 * q + m : Nat) : Int) + 1 ∧ ((8 * q + m : Nat) : Int) + 1 < 2147483648) ∧ L_325_27 (q : Int) (top : Int) (o : Int) ((at' : Int) - 1) (n : Int) x (((8 * q + m : Nat) : Int) + 1) G2 Q m_no := fun G2 hS2 hL => ⟨by omega, nx x G2 hS2 hL (same (fun h => hfo h.symm))⟩
        refine ⟨fun h1 => ⟨fun _ => ⟨by omega, by omega, CaV.on (lay (by rw [sq, if_pos (by omega)]; omega)) fin⟩, fun h => by omega⟩, fun h1 => ⟨by omega, fun h2 => ⟨by omega, by omega, CaV.on (lay (by rw [sq, if_neg (by omega), if_pos (by omega)]; omega)) fin⟩, fun h2 => CaV.on (lay (by rw [sq, if_neg (by omega), if_neg (by omega)])) fin⟩⟩
      · have c1 : q ≠ f := fun h => e1 (by omega)
        have c2 : q = o := by omega
        subst c2
        have sq : s (8 * q + m) = if m < at' then ((8 * q + m : Nat) : Int) else if m < at' + n then ((8 * f + top + (m - at') : Nat) : Int) else ((8 * q + m - n : Nat) : Int) := by rw [hs]; exact mvS_o hm c1
        -- a row behind the place
        have beh : at' ≤ m → ∀ G2, St G2 → ((∀ z, z < 8 * q + m + 1 → Lay G2 (sh s X) (sho s idS) z) ∧ fr LyF G G2) → ((x = 0 → (-2147483648 ≤ ((8 * q + m : Nat) : Int) + 1 ∧ ((8 * q + m : Nat) : Int) + 1 < 2147483648) ∧ L_325_27 (f : Int) (top : Int) (q : Int) ((at' : Int) - 1) (n : Int) 0 (((8 * q + m : Nat) : Int) + 1) G2 Q m_no) ∧ (¬ (x = 0) → (-2147483648 ≤ (m : Int) + (n : Int) ∧ (m : Int) + (n : Int) < 2147483648) ∧ (((m : Int) + (n : Int) < 8 → (-2147483648 ≤ ((8 * q + m : Nat) : Int) + 1 ∧ ((8 * q + m : Nat) : Int) + 1 < 2147483648) ∧ L_325_27 (f : Int) (top : Int) (q : Int) ((at' : Int) - 1) (n : Int) 1 (((8 * q + m : Nat) : Int) + 1) G2 Q m_no) ∧ (¬ ((m : Int) + (n : Int) < 8) → (0 ≤ ((8 * q + m : Nat) : Int) ∧ ((8 * q + m : Nat) : Int) < 24) ∧ ((G2 203 (((8 * q + m : Nat) : Int)).toNat = 0 → (-2147483648 ≤ ((8 * q + m : Nat) : Int) + 1 ∧ ((8 * q + m : Nat) : Int) + 1 < 2147483648) ∧ L_325_27 (f : Int) (top : Int) (q : Int) ((at' : Int) - 1) (n : Int) 1 (((8 * q + m : Nat) : Int) + 1) G2 Q m_no) ∧ (¬ (G2 203 (((8 * q + m : Nat) : Int)).toNat = 0) → (-2147483648 ≤ ((8 * q + m : Nat) : Int) + 1 ∧ ((8 * q + m : Nat) : Int) + 1 < 2147483648) ∧ L_325_27 (f : Int) (top : Int) (q : Int) ((at' : Int) - 1) (n : Int) 0 (((8 * q + m : Nat) : Int) + 1) G2 Q m_no)))))) := fun ham G2 hS2 hL => by
          have e203 : G2 203 (8 * q + m) = ((X (8 * q + m)).length : Int) := by rw [hL.2 203 (by unfold LyF; omega)]; exact (hTG (8 * q + m) (by omega)).1
          rw [Int.toNat_natCast, e203]
          rcases hx with ⟨rfl, x1, x2⟩ | ⟨rfl, hx⟩
          · have ok : (8 ≤ m + n → X (8 * q + m) = []) → (1 = (1 : Int) ∧ at' + n ≤ 8 ∧ ∀ l, at' ≤ l → l < 8 → 8 * q + l < 8 * q + m + 1 → 8 ≤ l + n → X (8 * q + l) = []) ∨ ((1 : Int) = 0 ∧ noRm X q at' n) := fun h => Or.inl ⟨rfl, x1, fun l l1 l2 l3 l4 => by
              by_cases c : l = m
              · rw [c]; exact h (by omega)
              · exact x2 l l1 l2 (by omega) l4⟩
            refine ⟨fun h => absurd h (by decide), fun _ => ⟨by omega, fun h => ⟨by omega, nx 1 G2 hS2 hL (ok (fun h2 => by omega))⟩, fun h => ⟨by omega, fun h2 => ⟨by omega, nx 1 G2 hS2 hL (ok (fun _ => List.length_eq_zero_iff.mp (by omega)))⟩, fun h2 => ⟨by omega, nx 0 G2 hS2 hL (Or.inr ⟨rfl, Or.inr ⟨m, ham, hm, by omega, fun e => ?_⟩⟩)⟩⟩⟩⟩
            rw [e] at h2
            exact h2 rfl
          · exact ⟨fun _ => ⟨by omega, nx 0 G2 hS2 hL (Or.inr ⟨rfl, hx⟩)⟩, fun h => absurd rfl h⟩
        refine ⟨fun h1 => ⟨by omega, fun h2 => ⟨by omega, CaV.on (lay (by rw [sq, if_neg (by omega), if_neg (by omega)]; omega)) (beh (by omega))⟩, fun h2 => ⟨by omega, by omega, by omega, by omega, by omega, CaV.on (lay (by rw [sq, if_neg (by omega), if_pos (by omega)]; omega)) (beh (by omega))⟩⟩, fun h1 => ?_⟩
        refine CaV.on (lay (by rw [sq, if_pos (by omega)])) (fun G2 hS2 hL => ?_)
        rcases hx with ⟨rfl, x1, x2⟩ | ⟨rfl, hx⟩
        · exact ⟨fun h => absurd h (by decide), fun _ => ⟨by omega, nx 1 G2 hS2 hL (Or.inl ⟨rfl, x1, fun l l1 l2 l3 l4 => x2 l l1 l2 (by omega) l4⟩)⟩⟩
        · exact ⟨fun _ => ⟨by omega, nx 0 G2 hS2 hL (Or.inr ⟨rfl, hx⟩)⟩, fun h => absurd rfl h⟩
      · have c1 : q ≠ f := fun h => e1 (by omega)
        have c2 : q ≠ o := fun h => e2 (by omega)
        exact CaV.on (lay (by rw [hs]; exact (mvS_x hm c1 c2).symm)) (fun G2 hS2 hL => ⟨by omega, nx x G2 hS2 hL (same c2)⟩)
  refine c_325 hS ⟨by omega, by omega, by omega, ?_⟩
  rw [show (bot : Int) - (top : Int) + 1 = (n : Int) by omega]
  refine ⟨fun h => key 24 0 1 F (by decide) hS fr.rf (fun q hq => absurd hq (Nat.not_lt_zero q)) ?_, fun h => key 24 0 0 F (by decide) hS fr.rf (fun q hq => absurd hq (Nat.not_lt_zero q)) ?_⟩
  · rw [hIv]
    exact Or.inl ⟨rfl, by omega, fun l _ _ h => by omega⟩
  · rw [hIv]
    exact Or.inr ⟨rfl, Or.inl (by omega)⟩
end Ml9
