/-! A MOVE, OF THE CLASS -/
/-- the last token of the function that a token names, -1 for none -/
def lastX (X : Nat → List Int) (f t : Nat) : Int := if fix' (Fw X f) (t : Int) 0 = -1 then -1 else gx ((Fw X f).map (fun e => e.2.2.2)) (fix' (Fw X f) (t : Int) 0).toNat
/-- behind the last line with a token -/
def atX (X : Nat → List Int) (o : Nat) : Nat := if (toks X o).length = 0 then 0 else tl X o ((toks X o).length - 1) + 1
def mvk (X : Nat → List Int) (f t o l : Nat) : Prop := (∀ k, k < (toks X f).length → tl X f (t - 1) ≤ tl X f k → tl X f k ≤ tl X f l → t - 1 ≤ k ∧ k ≤ l) ∧ md X f (tl X f (t - 1)) = false ∧ md X f (tl X f l + 1) = false ∧ md X o (atX X o) = false
def mv2 (X : Nat → List Int) (f t o : Nat) : Prop := ¬ ∃ l : Nat, lastX X f t = (l : Int) ∧ mvk X f t o l
def mvN (X : Nat → List Int) (f t : Nat) : Nat := tl X f (lastX X f t).toNat + 1 - tl X f (t - 1)
def mvO (X : Nat → List Int) (f t o : Nat) : Nat → Int := mvS f (tl X f (t - 1)) (mvN X f t) o (atX X o)
def mv3 (X : Nat → List Int) (f t o : Nat) : Prop := noRm X o (atX X o) (mvN X f t)
def idS (r : Nat) : Int := (r : Int)
section Ml5
variable {F G : MF} {X Y : Nat → List Int} {og s t' : Nat → Int} {f t o l g a b n r i k : Nat}
theorem fix_ix : ∀ (L : FF) (t : Int) (i : Nat), fix' L t i ≠ -1 → ∃ j, ∃ h : j < L.length, fix' L t i = ((i + j : Nat) : Int) ∧ (L[j]'h).1 = t
  | [], t, i, h => absurd rfl h
  | e :: L, t, i, h => by
    by_cases c : e.1 = t
    · have e1 : fix' (e :: L) t i = (i : Int) := if_pos c
      exact ⟨0, Nat.succ_pos _, by rw [e1, Nat.add_zero], c⟩
    · have e1 : fix' (e :: L) t i = fix' L t (i + 1) := if_neg c
      rw [e1] at h ⊢
      obtain ⟨j, j1, j2, j3⟩ := fix_ix L t (i + 1) h
      exact ⟨j + 1, by rw [List.length_cons]; omega, by rw [j2]; congr 1; omega, j3⟩
theorem gx_map4 (W : FF) (i : Nat) (h : i < W.length) : gx (W.map (fun e => e.2.2.2)) i = (W[i]'h).2.2.2 := by
  rw [gx_el (by rw [List.length_map]; exact h), List.getElem_map]
theorem last_e (h : lastX X f t ≠ -1) : ∃ j, ∃ h : j < (Fw X f).length, fix' (Fw X f) (t : Int) 0 = (j : Int) ∧ ((Fw X f)[j]'h).1 = (t : Int) ∧ ((Fw X f)[j]'h).2.2.2 = lastX X f t := by
  unfold lastX at h ⊢
  by_cases c : fix' (Fw X f) (t : Int) 0 = -1
  · rw [if_pos c] at h; exact absurd rfl h
  · rw [if_neg c] at h ⊢
    obtain ⟨j, j1, j2, j3⟩ := fix_ix _ _ _ c
    rw [Nat.zero_add] at j2
    refine ⟨j, j1, j2, j3, ?_⟩
    rw [j2, Int.toNat_natCast, gx_map4 _ _ j1]
/-- a function that is closed -/
theorem last_sp (hX : ∀ r, r < 24 → Rok (X r)) (hf : f < 3) (h : lastX X f t ≠ -1) : ∃ l : Nat, lastX X f t = (l : Int) ∧ 1 ≤ t ∧ t < l ∧ l < (toks X f).length ∧ kn (ks X f) (t - 1) = 3 ∧ kn (ks X f) l = 13 ∧ ∃ e ∈ Fw X f, e.1 = (t : Int) ∧ e.2.2.2 = (l : Int) := by
  obtain ⟨j, hj, j1, j2, j3⟩ := last_e h
  obtain ⟨p, n, c, p1, p2, -, -, -, -, -, -, p9, p10⟩ := Fw_span hX hf (List.getElem_mem hj)
  obtain ⟨l, l1, l2, l3, l4, -⟩ := p10 (by rw [j3]; exact h)
  have : p = t := by omega
  subst this
  exact ⟨l, by rw [← j3]; exact l1, p1, l2, l3, p9, l4, _, List.getElem_mem hj, j2, l1⟩
/-- its lines -/
theorem mv_rg (hX : ∀ r, r < 24 → Rok (X r)) (hf : f < 3) (h : ¬ mv2 X f t o) : RgF X f t (lastX X f t).toNat (tl X f (t - 1)) (mvN X f t) ∧ 1 ≤ mvN X f t ∧ tl X f (t - 1) + mvN X f t ≤ 8 ∧ mvk X f t o (lastX X f t).toNat := by
  obtain ⟨l, l1, l2⟩ := Classical.not_not.mp h
  obtain ⟨l', a1, a2, a3, a4, a5, a6, a7⟩ := last_sp hX hf (show lastX X f t ≠ -1 by omega)
  have : l' = l := by omega
  subst this
  have hle := (tok_srt hX hf (show t - 1 < l' by omega) a4).1
  have ol := toks_ok a4
  unfold mvN
  rw [l1, Int.toNat_natCast]
  exact ⟨⟨hf, a2, a3, a4, a5, a6, rfl, by omega, fun k hk h1 h2 => l2.1 k hk h1 (by omega), a7⟩, by omega, by omega, l2⟩
theorem at_nt (hX : ∀ r, r < 24 → Rok (X r)) (ho : o < 3) : atX X o ≤ 8 ∧ ∀ q, atX X o ≤ q → q < 8 → nt X o q = 0 := by
  unfold atX
  have key : ∀ q, q < 8 → 0 < nt X o q → ∃ k, k < (toks X o).length ∧ tl X o k = q := fun q hq hn => ⟨_, (tok_at hX ho hq hn).1, (tok_tl hX ho hq hn).2.1⟩
  by_cases c : (toks X o).length = 0
  · rw [if_pos c]
    refine ⟨by omega, fun q _ hq => ?_⟩
    by_cases e : nt X o q = 0
    · exact e
    · obtain ⟨k, k1, -⟩ := key q hq (by omega)
      omega
  · rw [if_neg c]
    have ol := toks_ok (show (toks X o).length - 1 < (toks X o).length by omega)
    refine ⟨by omega, fun q hq1 hq => ?_⟩
    by_cases e : nt X o q = 0
    · exact e
    · obtain ⟨k, k1, k2⟩ := key q hq (by omega)
      by_cases e2 : k = (toks X o).length - 1
      · rw [← e2] at hq1; omega
      · have := (tok_srt hX ho (show k < (toks X o).length - 1 by omega) (by omega)).1
        omega
/-- a move keeps tokens -/
theorem mv_og (hX : ∀ r, r < 24 → Rok (X r)) (hf : f < 3) (ho : o < 3) (hfo : o ≠ f) (h2 : ¬ mv2 X f t o) (h3 : ¬ mv3 X f t o) : OgI (inR f (tl X f (t - 1)) (mvN X f t)) X (sh (mvO X f t o) X) (mvO X f t o) := by
  obtain ⟨r1, r2, r3, r4⟩ := mv_rg hX hf h2
  have a1 := at_nt hX ho
  have e8 : atX X o + mvN X f t ≤ 8 := by
    by_cases c : 8 < atX X o + mvN X f t
    · exact absurd (Or.inl c) h3
    · omega
  refine og_mv hX hf ho hfo r2 r3 e8 r4.2.1 ?_ r4.2.2.2 (fun l l1 l2 l3 => ?_) a1.2
  · rw [← r1.2.2.2.2.2.2.2.1]; exact r4.2.2.1
  · by_cases c : X (8 * o + l) = []
    · exact c
    · exact absurd (Or.inr ⟨l, l1, l2, l3, c⟩) h3
theorem q_105a {x : Int} (hf : f < 3) (hX : ∀ r, r < 24 → Rok (X r)) (hG : GaC F n f X) : g_105 F n x = (if 0 ≤ x ∧ x < ((toks X f).length : Int) then (tl X f x.toNat : Int) else -1) ∧ o_105 F n x := by
  have lk := toks_len hX hf
  have hc : F n 8 = ((toks X f).length : Int) := hG.1.1
  refine ⟨?_, fun _ => trivial, fun _ => ⟨fun h => ⟨by omega, trivial⟩, fun _ => trivial⟩⟩
  unfold g_105
  rw [hc]
  by_cases h : x < 0
  · rw [if_pos h, if_neg (by omega)]
  · by_cases h2 : x < ((toks X f).length : Int)
    · rw [if_neg h, if_pos h2, if_pos (by omega), (gac_tok hG (show x.toNat < (toks X f).length by omega)).2.1]
    · rw [if_neg h, if_neg h2, if_neg (by omega)]
theorem q_108a (hG : GaC F n f X) {m : Nat} (hm : m ≤ 8) : p_108 F n ((m : Int) - 1) ↔ md X f m = true := by
  show (¬ ((m : Int) - 1 < 0) ∧ ((m : Int) - 1 < 8 ∧ ¬ (F (n + 8) ((m : Int) - 1).toNat = 0))) ↔ _
  cases m with
  | zero => exact ⟨fun h => absurd (by decide) h.1, fun h => absurd (show (false : Bool) = true from h) (by decide)⟩
  | succ m =>
    have := hG.2.2.1 m (by omega)
    rw [show (((m + 1 : Nat) : Int) - 1).toNat = m by omega, this]
    cases md X f (m + 1) with
    | true => exact ⟨fun _ => rfl, fun _ => ⟨by omega, by omega, by decide⟩⟩
    | false => exact ⟨fun h => absurd rfl h.2.2, fun h => absurd h (by decide)⟩
theorem sho_id (h : s r = -1 ∨ 0 ≤ s r) : sho s idS r = s r := by
  unfold sho idS
  by_cases c : s r = -1
  · rw [if_pos c, c]
  · rw [if_neg c]; omega
theorem ws_id (hL : LinC F 111 X) (h : ∀ r, r < 24 → F 114 r = og r) : WS F X og idS :=
  ⟨lin_cg hL (fun r hr => sh_at (s := idS) rfl), fun r hr => by rw [h r hr]; exact (sho_at (s := idS) rfl).symm⟩
theorem mvS_rng {top at' : Nat} (hfo : o ≠ f) (hr : r < 24) : mvS f top n o at' r = -1 ∨ 0 ≤ mvS f top n o at' r := by
  obtain ⟨q, m, hq, hm, rfl⟩ := r8 hr
  by_cases c1 : q = f
  · subst c1
    rw [mvS_f hm]
    split
    · exact Or.inr (by omega)
    · split
      · exact Or.inr (by omega)
      · exact Or.inl rfl
  · by_cases c2 : q = o
    · subst c2
      rw [mvS_o hm c1]
      split
      · exact Or.inr (by omega)
      · split
        · exact Or.inr (by omega)
        · exact Or.inr (by omega)
    · rw [mvS_x hm c1 c2]; exact Or.inr (by omega)
theorem opS_id {at' : Nat} (hr : r < 24) : sho (opS o at' n) idS r = opS o at' n r := by
  obtain ⟨q, m, hq, hm, rfl⟩ := r8 hr
  refine sho_id ?_
  by_cases c1 : q = o
  · subst c1
    rw [opS_g hm]
    split
    · exact Or.inr (by omega)
    · split
      · exact Or.inl rfl
      · exact Or.inr (by omega)
  · rw [opS_x hm c1]; exact Or.inr (by omega)
/-- rows while they are copied -/
def cpS (f top n o at' k r : Nat) : Int := if r / 8 = o ∧ at' ≤ r % 8 ∧ r % 8 < at' + k then ((8 * f + top + (r % 8 - at') : Nat) : Int) else opS o at' n r
theorem cpS_end {top at' : Nat} (hfo : o ≠ f) (hr : r < 24) : mvS f top n o at' r = sho (clS f top n) (cpS f top n o at' n) r := by
  obtain ⟨q, m, hq, hm, rfl⟩ := r8 hr
  by_cases c1 : q = f
  · subst c1
    have e : ∀ z, z < 8 → cpS q top n o at' n (8 * q + z) = ((8 * q + z : Nat) : Int) := fun z hz => by
      unfold cpS
      rw [(d8 hz).1, if_neg (fun h => hfo h.1.symm), opS_x hz (fun h => hfo h.symm)]
    rw [mvS_f hm]
    by_cases c2 : m < top
    · rw [if_pos c2, sho_at (by rw [clS_g hm, if_pos c2]), e m hm]
    · by_cases c3 : m + n < 8
      · rw [if_neg c2, if_pos c3, sho_at (by rw [clS_g hm, if_neg c2, if_pos c3]), Nat.add_assoc, e _ c3]
      · rw [if_neg c2, if_neg c3, sho_no (by rw [clS_g hm, if_neg c2, if_neg c3])]
  · rw [sho_at (clS_x hm c1)]
    unfold cpS
    rw [(d8 hm).1, (d8 hm).2]
    by_cases c2 : q = o
    · subst c2
      rw [mvS_o hm c1, opS_g hm]
      by_cases c3 : m < at'
      · rw [if_pos c3, if_neg (by omega), if_pos c3]
      · rw [if_neg c3]
        by_cases c4 : m < at' + n
        · rw [if_pos c4, if_pos (by omega)]
        · rw [if_neg c4, if_neg (by omega), if_neg c3, if_neg c4]
    · rw [mvS_x hm c1 c2, if_neg (fun h => c2 h.1), opS_x hm c2]
theorem cpS_st {top at' : Nat} (hfo : o ≠ f) (hk : top + k < 8) (hak : at' + k < 8) (hr : r < 24) : cpS f top n o at' (k + 1) r = if r = 8 * o + (at' + k) then cpS f top n o at' k (8 * f + (top + k)) else cpS f top n o at' k r := by
  obtain ⟨q, m, hq, hm, rfl⟩ := r8 hr
  have e : cpS f top n o at' k (8 * f + (top + k)) = ((8 * f + (top + k) : Nat) : Int) := by
    unfold cpS
    rw [(d8 hk).1, if_neg (fun h => hfo h.1.symm), opS_x hk (fun h => hfo h.symm)]
  rw [e]
  unfold cpS
  rw [(d8 hm).1, (d8 hm).2]
  by_cases c1 : 8 * q + m = 8 * o + (at' + k)
  · rw [if_pos c1, if_pos (by omega)]
    congr 1
    omega
  · rw [if_neg c1]
    by_cases c2 : q = o ∧ at' ≤ m ∧ m < at' + k
    · rw [if_pos c2, if_pos (show q = o ∧ at' ≤ m ∧ m < at' + (k + 1) by omega)]
    · rw [if_neg c2, if_neg (show ¬ (q = o ∧ at' ≤ m ∧ m < at' + (k + 1)) by omega)]
theorem l_54 {Q : Int → MF → Prop} {top bot at' : Nat} (hS : St F) (hf : f < 3) (ho : o < 3) (hfo : o ≠ f) (htb : top ≤ bot) (hb8 : bot < 8) (en : n = bot + 1 - top) (e8 : at' + n ≤ 8) (h : WS F X idS (sho (opS o at' n) idS))
    (hQ : ∀ F', St F' → LinC F' 111 (sh (mvS f top n o at') X) → (∀ r, r < 24 → F' 114 r = mvS f top n o at' r) → fr (fun c => 112 ≤ c ∧ c ≤ 114) F F' → Q 0 F') : L_54_237 (f : Int) (o : Int) (top : Int) (bot : Int) (at' : Int) (top : Int) F Q m_no := by
  have key : ∀ (d k : Nat) (G : MF), k + d = n → St G → fr (fun c => 112 ≤ c ∧ c ≤ 114) F G → WS G X idS (cpS f top n o at' k) → L_54_237 (f : Int) (o : Int) (top : Int) (bot : Int) (at' : Int) ((top + k : Nat) : Int) G Q m_no := by
    intro d
    induction d with
    | zero =>
      intro k G hk hSG hfr hW
      obtain rfl : k = n := by omega
      refine b_54_237 hSG ⟨fun _ => ⟨by omega, by omega, ?_⟩, fun h => by omega⟩
      rw [show (bot : Int) - (top : Int) + 1 = (k : Int) by omega]
      refine CaV.on (s_32 hSG hW hf (by omega) (by omega) (by omega)) ?_
      rintro F' hS' ⟨u1, u2⟩
      have hW2 := u1.cg (fun r hr => cpS_end (top := top) (at' := at') hfo hr)
      exact hQ F' hS' hW2.1 (fun r hr => by rw [hW2.2 r hr]; exact sho_id (mvS_rng hfo hr)) (hfr.tr u2)
    | succ d ih =>
      intro k G hk hSG hfr hW
      refine b_54_237 hSG ⟨fun h => by omega, fun _ => ⟨by omega, by omega, by omega, by omega, by omega, by omega, ?_⟩⟩
      rw [show (f : Int) * 8 + ((top + k : Nat) : Int) = ((8 * f + (top + k) : Nat) : Int) by omega, show (o : Int) * 8 + (at' : Int) + ((top + k : Nat) : Int) - (top : Int) = ((8 * o + (at' + k) : Nat) : Int) by omega]
      refine CaV.on (ws_27 (a := 8 * f + (top + k)) (b := 8 * o + (at' + k)) hSG hW (by omega) (by omega)) ?_
      rintro G2 hS2 ⟨u1, u2⟩
      refine ⟨by omega, ?_⟩
      have := ih (k + 1) G2 (by omega) hS2 (hfr.tr u2) (u1.cg (fun r hr => cpS_st hfo (by omega) (by omega) hr))
      rw [show ((top + (k + 1) : Nat) : Int) = ((top + k : Nat) : Int) + 1 by omega] at this
      exact this
  exact key n 0 F (by omega) hS fr.rf (h.cg (fun r hr => by unfold cpS; rw [if_neg (by omega)]; exact (opS_id hr).symm))
/-- a move, of the class -/
theorem s_54 (hS : St F) (hX : ∀ r, r < 24 → Rok (X r)) (hD : DTT F 110 X) (h114 : ∀ r : Nat, r < 24 → F 114 r = (r : Int)) (hi : i < 3) (hf : f < 3) (ho : o < 3) (hfo : o ≠ f) (ht : t < 200) (h190 : F 190 i = (f : Int)) (h191 : F 191 i = (t : Int)) (h192 : F 192 i = (o : Int)) :
    C_54 (i : Int) F (fun x F' => (x = 2 ∧ mv2 X f t o ∧ F' = F) ∨ (x = 3 ∧ ¬ mv2 X f t o ∧ mv3 X f t o ∧ F' = F) ∨ (x = 0 ∧ ¬ mv2 X f t o ∧ ¬ mv3 X f t o ∧ LinC F' 111 (sh (mvO X f t o) X) ∧ (∀ r, r < 24 → F' 114 r = mvO X f t o r) ∧ fr (fun c => 112 ≤ c ∧ c ≤ 114) F F')) m_no := by
  obtain ⟨Q, hQ⟩ : ∃ Q : Int → MF → Prop, Q = fun x F' => (x = 2 ∧ mv2 X f t o ∧ F' = F) ∨ (x = 3 ∧ ¬ mv2 X f t o ∧ mv3 X f t o ∧ F' = F) ∨ (x = 0 ∧ ¬ mv2 X f t o ∧ ¬ mv3 X f t o ∧ LinC F' 111 (sh (mvO X f t o) X) ∧ (∀ r, r < 24 → F' 114 r = mvO X f t o r) ∧ fr (fun c => 112 ≤ c ∧ c ≤ 114) F F') := ⟨_, rfl⟩
  rw [← hQ]
  have lk := toks_len hX hf
  have lo := toks_len hX ho
  have two : mv2 X f t o → Q 2 F := fun h => by rw [hQ]; exact Or.inl ⟨rfl, h, rfl⟩
  have gf := hD.2 f hf
  have go := (hD.2 o ho).1
  have hF4 := gf.2.2.2.1
  have hc : F (110 + (11 + 19 * o)) 8 = ((toks X o).length : Int) := go.1.1
  refine c_54 hS ?_
  rw [Int.toNat_natCast, h190, h192, Int.toNat_natCast, Int.toNat_natCast, h191]
  refine ⟨by omega, by omega, by omega, by omega, by omega, by omega, ?_⟩
  refine CaI.on (s_128 (n := 110) (by decide) hS hX hD hf) ?_
  rintro r F1 hS1 ⟨rfl, rfl⟩
  refine ⟨fun h => two (fun ⟨l, l1, _⟩ => ?_), fun h => ?_⟩
  · unfold lastX at l1
    rw [if_pos h] at l1
    omega
  obtain ⟨j, j1, j2, j3⟩ := fix_ix _ _ _ h
  rw [Nat.zero_add] at j2
  have f40 := Fw_len hX hf
  have hjl : j < 40 := by have := f40.1; omega
  have el : lastX X f t = F1 (110 + (20 + 19 * f) + 8) j := by
    have h8 := hF4.2.2.2.2 j (by rw [List.length_map]; exact j1)
    rw [h8]
    unfold lastX
    rw [if_neg h, j2, Int.toNat_natCast]
    rfl
  rw [j2, Int.toNat_natCast, ← el]
  refine ⟨by omega, fun h1 => two (fun ⟨l, l1, _⟩ => by omega), fun h1 => ?_⟩
  obtain ⟨l, l1, l2, l3, l4, l5, l6, l7⟩ := last_sp hX hf h1
  have hle := (tok_srt hX hf (show t - 1 < l by omega) l4).1
  have ol := toks_ok l4
  have q1 := q_105a (x := (t : Int) - 1) hf hX gf.1
  have q2 := q_105a (x := (t : Int) - 1 - 1) hf hX gf.1
  have q3 := q_105a (x := (l : Int)) hf hX gf.1
  have q4 := q_105a (x := (l : Int) + 1) hf hX gf.1
  rw [if_pos (by omega), show ((t : Int) - 1).toNat = t - 1 by omega] at q1
  rw [if_pos (by omega), Int.toNat_natCast] at q3
  rw [l1, h191, q1.1, q3.1, hc]
  -- all tokens in these lines are its own
  have own1 : g_105 F1 (110 + (11 + 19 * f)) ((t : Int) - 1 - 1) = (tl X f (t - 1) : Int) → mv2 X f t o := fun h2 => fun ⟨l', m1, m2⟩ => by
    have : l' = l := by omega
    subst this
    rw [q2.1] at h2
    by_cases c : 0 ≤ (t : Int) - 1 - 1 ∧ (t : Int) - 1 - 1 < ((toks X f).length : Int)
    · rw [if_pos c, show ((t : Int) - 1 - 1).toNat = t - 2 by omega] at h2
      have := m2.1 (t - 2) (by omega) (by omega) (by omega)
      omega
    · rw [if_neg c] at h2
      omega
  have own2 : g_105 F1 (110 + (11 + 19 * f)) ((l : Int) + 1) = (tl X f l : Int) → mv2 X f t o := fun h2 => fun ⟨l', m1, m2⟩ => by
    have : l' = l := by omega
    subst this
    rw [q4.1] at h2
    by_cases c : 0 ≤ (l' : Int) + 1 ∧ (l' : Int) + 1 < ((toks X f).length : Int)
    · rw [if_pos c, show ((l' : Int) + 1).toNat = l' + 1 by omega] at h2
      have := m2.1 (l' + 1) (by omega) (by omega) (by omega)
      omega
    · rw [if_neg c] at h2
      omega
  have own3 : ¬ g_105 F1 (110 + (11 + 19 * f)) ((t : Int) - 1 - 1) = (tl X f (t - 1) : Int) → ¬ g_105 F1 (110 + (11 + 19 * f)) ((l : Int) + 1) = (tl X f l : Int) → ∀ k, k < (toks X f).length → tl X f (t - 1) ≤ tl X f k → tl X f k ≤ tl X f l → t - 1 ≤ k ∧ k ≤ l := fun h2 h3 k hk k1 k2 => by
    rw [q2.1] at h2
    rw [q4.1] at h3
    constructor
    · by_cases c : t - 1 ≤ k
      · exact c
      · exfalso
        rw [if_pos (by omega), show ((t : Int) - 1 - 1).toNat = t - 2 by omega] at h2
        have a1 := (tok_srt hX hf (show t - 2 < t - 1 by omega) (by omega)).1
        have a2 : tl X f k ≤ tl X f (t - 2) := by
          by_cases e : k = t - 2
          · rw [e]; exact Nat.le_refl _
          · exact (tok_srt hX hf (show k < t - 2 by omega) (by omega)).1
        exact h2 (by omega)
    · by_cases c : k ≤ l
      · exact c
      · exfalso
        rw [if_pos (by omega), show ((l : Int) + 1).toNat = l + 1 by omega] at h3
        have a1 := (tok_srt hX hf (show l < l + 1 by omega) (by omega)).1
        have a2 : tl X f (l + 1) ≤ tl X f k := by
          by_cases e : k = l + 1
          · rw [e]; exact Nat.le_refl _
          · exact (tok_srt hX hf (show l + 1 < k by omega) hk).1
        exact h3 (by omega)
  have m1 := q_108a gf.1 (m := tl X f (t - 1)) (by omega)
  have m2 := q_108a gf.1 (m := tl X f l + 1) (by omega)
  rw [show ((tl X f l + 1 : Nat) : Int) - 1 = (tl X f l : Int) by omega] at m2
  have a8 := at_nt hX ho
  have m3 := q_108a go (m := atX X o) a8.1
  have md2 : ∀ P : Prop, (mvk X f t o l → ¬ P) → P → mv2 X f t o := fun P hP hp ⟨l', b1, b2⟩ => by
    have : l' = l := by omega
    subst this
    exact hP b2 hp
  -- the rows
  have fin : mvk X f t o l → C_31 111 (o : Int) (atX X o : Int) ((tl X f l : Int) - (tl X f (t - 1) : Int) + 1) F1 (fun r40 F37 => (r40 = 0 → Q 3 F37) ∧ (¬ (r40 = 0) → L_54_237 (f : Int) (o : Int) (tl X f (t - 1) : Int) (tl X f l : Int) (atX X o : Int) (tl X f (t - 1) : Int) F37 Q m_no)) m_no := by
    intro hk
    have n2 : ¬ mv2 X f t o := fun h => h ⟨l, l1, hk⟩
    obtain ⟨r1, r2, r3, r4⟩ := mv_rg hX hf n2
    have eN : mvN X f t = tl X f l + 1 - tl X f (t - 1) := by unfold mvN; rw [l1, Int.toNat_natCast]
    rw [show (tl X f l : Int) - (tl X f (t - 1) : Int) + 1 = (mvN X f t : Int) by omega]
    have w0 : WS F1 X idS idS := ws_id hD.1 h114
    refine CaI.on (s_31 hS1 w0 ho a8.1 r2 (by omega)) ?_
    have e3 : noRm (sh idS X) o (atX X o) (mvN X f t) ↔ mv3 X f t o := by
      have e : ∀ l, sh idS X (8 * o + l) = X (8 * o + l) := fun l => sh_at (s := idS) rfl
      unfold mv3 noRm
      constructor
      · rintro (h | ⟨q, a, b, c, d⟩)
        · exact Or.inl h
        · exact Or.inr ⟨q, a, b, c, by rw [← e]; exact d⟩
      · rintro (h | ⟨q, a, b, c, d⟩)
        · exact Or.inl h
        · exact Or.inr ⟨q, a, b, c, by rw [e]; exact d⟩
    rw [e3]
    rintro x F37 hS37 (⟨rfl, k1, rfl⟩ | ⟨rfl, k1, k2, k3⟩)
    · refine ⟨fun _ => ?_, fun h => absurd rfl h⟩
      rw [hQ]
      exact Or.inr (Or.inl ⟨rfl, n2, k1, rfl⟩)
    · refine ⟨fun h => absurd h (by decide), fun _ => ?_⟩
      have e8 : atX X o + mvN X f t ≤ 8 := by
        by_cases c : 8 < atX X o + mvN X f t
        · exact absurd (Or.inl c) k1
        · omega
      refine l_54 hS37 hf ho hfo hle (by omega) eN e8 k2 (fun F' hS' u1 u2 u3 => ?_)
      rw [hQ]
      exact Or.inr (Or.inr ⟨rfl, n2, k1, u1, u2, k3.tr u3⟩)
  -- what is asked
  refine ⟨by omega, by omega, q1.2, q3.2, fun h0 => ?_, fun h0 => ?_⟩
  · have eat : atX X o = 0 := by unfold atX; rw [if_pos (by omega)]
    rw [eat] at m3 fin
    refine ⟨by omega, q2.2, fun h2 => two (own1 h2), fun h2 => ⟨by omega, q4.2, fun h3 => two (own2 h3), fun h3 => ⟨by omega, fun h4 => two (md2 _ (fun hk h => by rw [hk.2.1] at h; exact absurd h (by decide)) (m1.mp h4)), fun h4 => ⟨fun h5 => two (md2 _ (fun hk h => by rw [hk.2.2.1] at h; exact absurd h (by decide)) (m2.mp h5)), fun h5 => ⟨fun h6 => two (md2 _ (fun hk h => by have := hk.2.2.2; rw [eat, h] at this; exact absurd this (by decide)) (m3.mp h6)), fun h6 => ⟨by omega, by omega, ?_⟩⟩⟩⟩⟩⟩
    exact fin ⟨own3 h2 h3, Bool.eq_false_iff.mpr (fun h => h4 (m1.mpr h)), Bool.eq_false_iff.mpr (fun h => h5 (m2.mpr h)), by rw [eat]; rfl⟩
  · have eat : atX X o = tl X o ((toks X o).length - 1) + 1 := by unfold atX; rw [if_neg (by omega)]
    have oo := toks_ok (show (toks X o).length - 1 < (toks X o).length by omega)
    have q5 := q_105a (x := ((toks X o).length : Int) - 1) ho hX go
    rw [if_pos (by omega), show (((toks X o).length : Int) - 1).toNat = (toks X o).length - 1 by omega] at q5
    rw [q5.1, show (tl X o ((toks X o).length - 1) : Int) + 1 = (atX X o : Int) by omega]
    refine ⟨by omega, q5.2, by omega, by omega, q2.2, fun h2 => two (own1 h2), fun h2 => ⟨by omega, q4.2, fun h3 => two (own2 h3), fun h3 => ⟨by omega, fun h4 => two (md2 _ (fun hk h => by rw [hk.2.1] at h; exact absurd h (by decide)) (m1.mp h4)), fun h4 => ⟨fun h5 => two (md2 _ (fun hk h => by rw [hk.2.2.1] at h; exact absurd h (by decide)) (m2.mp h5)), fun h5 => ⟨by omega, fun h6 => two (md2 _ (fun hk h => by rw [hk.2.2.2] at h; exact absurd h (by decide)) (m3.mp h6)), fun h6 => ⟨by omega, by omega, ?_⟩⟩⟩⟩⟩⟩
    exact fin ⟨own3 h2 h3, Bool.eq_false_iff.mpr (fun h => h4 (m1.mpr h)), Bool.eq_false_iff.mpr (fun h => h5 (m2.mpr h)), Bool.eq_false_iff.mpr (fun h => h6 (m3.mpr h))⟩
end Ml5
