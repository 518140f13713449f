/-! THE LAW'S OWN ROWS: a whole file is as it should be -/
section Mo4
variable {n2 n3 f m : Nat} {F G : MF} {X S : Nat → List Int} {N : List Int} {L : List CH} {d : Bool} {e x : Int}
theorem k_co {M9 : Nat} {xs : List MV} {p : Prop} {v : Int} {R : Int → MF → Prop} (h : CaI M9 xs F (CO F p v X S N L d e) (CT F p X S N L d e)) (hp : p) (K : ∀ F', St F' → KC F' X S N L d e → Cn F F' → R v F') : CaI M9 xs F R m_no :=
  CaI.mono h (fun r F' hS' hh => by obtain ⟨-, rfl, h1, h2⟩ := hh; exact K F' hS' h1 h2) (fun _ F' _ hh => absurd hp hh.2.1)
def WF (G : MF) (X S : Nat → List Int) (N : List Int) (L : List CH) (d : Bool) (e : Int) (F : MF) : Prop := St F ∧ KC F X S N L d e ∧ Cn G F
theorem WF.nx {F' : MF} (h : WF G X S N L d e F) (hS : St F') (hK : KC F' X S N L d e) (hc : Cn F F') : WF G X S N L d e F' := ⟨hS, hK, fun c hc2 => (hc c hc2).trans (h.2.2 c hc2)⟩
theorem aTk_at (hX : ∀ r, r < 24 → Rok (X r)) (hf : f < 3) (hm : m < 8) {i : Nat} (hi : i < nt X f m) : isTk X (f : Int) ((fs X f m + i : Nat) : Int) ∧ aTk X (f : Int) ((fs X f m + i : Nat) : Int) = 10000 * (ron X f m i).1 + 1000 * (m : Int) + ((ron X f m i).2.1 : Int) ∧ kn (ks X f) (fs X f m + i) = (ron X f m i).1 := by
  obtain ⟨h1, h2, h3, h4⟩ := tok_tl hX hf hm hi
  refine ⟨⟨f, fs X f m + i, hf, (tok_at hX hf hm hi).1, rfl, rfl⟩, ?_, h1⟩
  unfold aTk
  rw [Int.toNat_natCast, Int.toNat_natCast, h1, h2, h3]
theorem aCl_c {k : Nat} (h : gx (owns X f m) k = -2) : aCl X (f : Int) (m : Int) (k : Int) = 1 := by
  unfold aCl
  rw [Int.toNat_natCast, Int.toNat_natCast, Int.toNat_natCast, if_pos h]
theorem aCl_b {k : Nat} (h : gx (owns X f m) k = -1) : aCl X (f : Int) (m : Int) (k : Int) = 0 := by
  unfold aCl
  rw [Int.toNat_natCast, Int.toNat_natCast, Int.toNat_natCast, h, if_neg (by decide), if_pos (by decide)]
theorem aCl_t {k t : Nat} (h : gx (owns X f m) k = (t : Int)) : aCl X (f : Int) (m : Int) (k : Int) = clr X f t := by
  unfold aCl
  rw [Int.toNat_natCast, Int.toNat_natCast, Int.toNat_natCast, h, if_neg (by omega), if_neg (by omega), Int.toNat_natCast]
theorem gx_rep {s : Nat} {v : Int} {O : List Int} {i : Nat} : gx (List.replicate s v ++ O) i = if i < s then v else gx O (i - s) := by
  rw [gx_app, List.length_replicate]
  by_cases e : i < s
  · rw [if_pos e, if_pos e]
    unfold gx
    rw [List.getD_eq_getElem?_getD, List.getElem?_replicate, if_pos e]
    rfl
  · rw [if_neg e, if_neg e]
/-- what is known of the rest of a line -/
def LI (X : Nat → List Int) (f m at_ i0 : Nat) (Q : List (Int × Nat × Nat) × List Int × Bool) : Prop :=
  (∀ i, i < Q.1.length → i0 + i < nt X f m ∧ ron X f m (i0 + i) = rg Q.1 i) ∧ (∀ i, at_ + i < (X (8 * f + m)).length → gx (owns X f m) (at_ + i) = gx Q.2.1 i) ∧ i0 + Q.1.length = nt X f m ∧ Q.2.2 = md X f (m + 1)
theorem LI.o2 {at_ i0 : Nat} {v w : Int} {Q : List (Int × Nat × Nat) × List Int × Bool} (h : LI X f m at_ i0 (Q.1, v :: w :: Q.2.1, Q.2.2)) : LI X f m (at_ + 2) i0 Q :=
  ⟨h.1, fun i hi => by
    have := h.2.1 (i + 2) (by omega)
    rw [show at_ + (i + 2) = at_ + 2 + i by omega] at this
    exact this, h.2.2⟩
theorem LI.o1 {at_ i0 : Nat} {v : Int} {Q : List (Int × Nat × Nat) × List Int × Bool} (h : LI X f m at_ i0 (Q.1, v :: Q.2.1, Q.2.2)) : LI X f m (at_ + 1) i0 Q :=
  ⟨h.1, fun i hi => by
    have := h.2.1 (i + 1) (by omega)
    rw [show at_ + (i + 1) = at_ + 1 + i by omega] at this
    exact this, h.2.2⟩
theorem LI.ot {at_ i0 s : Nat} {v : Int} {t : Int × Nat × Nat} {Q : List (Int × Nat × Nat) × List Int × Bool} (h : LI X f m at_ i0 (t :: Q.1, List.replicate s v ++ Q.2.1, Q.2.2)) : LI X f m (at_ + s) (i0 + 1) Q :=
  ⟨fun i hi => by
    have := h.1 (i + 1) (by show i + 1 < (t :: Q.1).length; rw [List.length_cons]; omega)
    rw [show i0 + (i + 1) = i0 + 1 + i by omega] at this
    exact this, fun i hi => by
    have := h.2.1 (s + i) (by omega)
    have e : gx (List.replicate s v ++ Q.2.1) (s + i) = gx Q.2.1 i := by rw [gx_rep, if_neg (by omega), Nat.add_sub_cancel_left]
    rw [← Nat.add_assoc] at this
    exact this.trans e, by
    have := h.2.2.1
    have e : ((t :: Q.1, List.replicate s v ++ Q.2.1, Q.2.2) : List (Int × Nat × Nat) × List Int × Bool).1.length = Q.1.length + 1 := List.length_cons
    omega, h.2.2.2⟩
variable {R : Int → MF → Prop}
theorem isCh_n (hf : f < 3) (hm : m < 8) {k : Nat} (hk : k < (X (8 * f + m)).length) : isCh X (f : Int) (m : Int) (k : Int) := ⟨f, m, k, hf, hm, hk, rfl, rfl, rfl⟩
theorem aCh_n {k : Nat} : aCh X (f : Int) (m : Int) (k : Int) = gx (X (8 * f + m)) k := by
  unfold aCh
  rw [Int.toNat_natCast, Int.toNat_natCast, Int.toNat_natCast]
/-- the colour of a token's sign -/
theorem l_206k (hf : f < 3) (hm : m < 8) (hX : ∀ r, r < 24 → Rok (X r)) (hk2 : m_KD[n2]? = some (101, 24)) (hk3 : m_KD[n3]? = some (100, 24)) (hW : WF G X S N L d e F) {at_ i0 s : Nat} (hs1 : 1 ≤ s) (hs2 : at_ + s ≤ (X (8 * f + m)).length) (hi0 : i0 < nt X f m) (h24 : (X (8 * f + m)).length ≤ 24)
    (ho : ∀ i, i < s → gx (owns X f m) (at_ + i) = ((fs X f m + i0 : Nat) : Int)) (hfs : fs X f m + i0 < 200) (K : ∀ F', WF G X S N L d e F' → L_206_57 (f : Int) n2 n3 x 0 ((fs X f m + i0 : Nat) + 1 : Int) 1 (m : Int) ((X (8 * f + m)).length : Int) ((at_ : Int) + (s : Int)) F' R m_no) :
    L_206_356 (f : Int) n2 n3 x 0 ((fs X f m + i0 : Nat) : Int) (m : Int) ((X (8 * f + m)).length : Int) (at_ : Int) (s : Int) (ron X f m i0).1 F R m_no := by
  obtain ⟨-, -, hkn⟩ := aTk_at hX hf hm hi0
  have c0 : aCl X (f : Int) (m : Int) (at_ : Int) = clr X f (fs X f m + i0) := aCl_t (by have := ho 0 (by omega); rwa [Nat.add_zero] at this)
  have c1 : aCl X (f : Int) (m : Int) ((at_ + (s - 1) : Nat) : Int) = clr X f (fs X f m + i0) := aCl_t (ho (s - 1) (by omega))
  have hcl : clr X f (fs X f m + i0) = if (ron X f m i0).1 = 0 then (if bnd X (200 * f + (fs X f m + i0)) = -1 then 5 else if isF X (bnd X (200 * f + (fs X f m + i0))).toNat = true then 3 else 4) else if (ron X f m i0).1 = 1 then 6 else if (ron X f m i0).1 = 23 then 8 else if (ron X f m i0).1 < 10 then 2 else 7 := by
    unfold clr
    rw [hkn]
  refine b_206_356 hk2 hk3 hW.1 ⟨fun h0 => ?_, fun h0 => ⟨by omega, by omega, ?_⟩⟩
  · refine k_co (f_153 hW.1 hW.2.1) (isCh_n hf hm (by omega)) (fun F' hS' hK' hc' => ?_)
    have hW' := hW.nx hS' hK' hc'
    rw [c0, hcl, if_pos h0]
    refine ⟨fun _ => ⟨by omega, by omega, K F' hW'⟩, fun h => absurd ?_ h⟩
    unfold p_203
    split
    · exact ⟨by decide, by decide⟩
    · split
      · exact ⟨by decide, by decide⟩
      · exact ⟨by decide, by decide⟩
  · have ea : ((at_ : Int) + (s : Int)) - 1 = ((at_ + (s - 1) : Nat) : Int) := by omega
    rw [ea]
    refine k_co (f_153 hW.1 hW.2.1) (isCh_n hf hm (by omega)) (fun F' hS' hK' hc' => ?_)
    have hW' := hW.nx hS' hK' hc'
    rw [c1, hcl, if_neg h0]
    refine ⟨fun h1 => ⟨fun _ => ⟨by omega, by omega, K F' hW'⟩, fun h => absurd (by rw [if_pos h1]) h⟩, fun h1 => ⟨fun h2 => ⟨fun _ => ⟨by omega, by omega, K F' hW'⟩, fun h => absurd (by rw [if_neg h1, if_neg (by omega), if_pos h2]) h⟩, fun h2 => ⟨fun h3 => ⟨fun _ => ⟨by omega, by omega, K F' hW'⟩, fun h => absurd (by rw [if_neg h1, if_neg (by omega), if_neg h2]) h⟩, fun h3 => ⟨fun _ => ⟨by omega, by omega, K F' hW'⟩, fun h => absurd ?_ h⟩⟩⟩⟩
    have h5 := kn_rng hX hf (fs X f m + i0)
    have h6 := ks_no (i := fs X f m + i0) hX hf (by rw [ks_len']; exact (tok_at hX hf hm hi0).1)
    rw [hkn] at h5 h6
    rw [if_neg h1, if_pos (by omega)]
theorem l_206b (hf : f < 3) (hm : m < 8) (hX : ∀ r, r < 24 → Rok (X r)) (hk2 : m_KD[n2]? = some (101, 24)) (hk3 : m_KD[n3]? = some (100, 24)) (hg2 : 201 ≤ n2) (hg3 : 201 ≤ n3) (hT : TPw (G n2) (fil X f)) (hL : LL (G n3) X) (hx : 0 ≤ x) (hfs : ∀ q, q ≤ 8 → fs X f q < 200)
    (HK : ∀ F2, WF G X S N L d e F2 → L_206_12 (f : Int) n2 n3 x (bi (md X f (m + 1))) ((fs X f (m + 1) : Nat) : Int) 1 ((m : Int) + 1) F2 R m_no) : ∀ (k at_ i0 : Nat) (b : Bool) (F1 : MF), (X (8 * f + m)).length ≤ at_ + k → at_ ≤ (X (8 * f + m)).length → WF G X S N L d e F1 →
    LI X f m at_ i0 (lexL k (X (8 * f + m)) at_ b (fs X f m + i0)) → L_206_57 (f : Int) n2 n3 x (bi b) ((fs X f m + i0 : Nat) : Int) 1 (m : Int) ((X (8 * f + m)).length : Int) (at_ : Int) F1 R m_no := by
  have h24 : (X (8 * f + m)).length ≤ 24 := (hX _ (by omega)).1
  have stop : ∀ (at_ i0 : Nat) (b : Bool) (F1 : MF), (X (8 * f + m)).length ≤ at_ → WF G X S N L d e F1 → LI X f m at_ i0 ([], [], b) → L_206_57 (f : Int) n2 n3 x (bi b) ((fs X f m + i0 : Nat) : Int) 1 (m : Int) ((X (8 * f + m)).length : Int) (at_ : Int) F1 R m_no := fun at_ i0 b F1 h hW hI => by
    refine b_206_57 hk2 hk3 hW.1 ⟨fun h2 => by omega, fun _ => ⟨by omega, ?_⟩⟩
    have h1 : i0 = nt X f m := hI.2.2.1
    have h2 : b = md X f (m + 1) := hI.2.2.2
    have e : fs X f (m + 1) = fs X f m + nt X f m := rfl
    have := HK F1 hW
    rw [e, ← h1, ← h2] at this
    exact this
  intro k
  induction k with
  | zero => intro at_ i0 b F1 h1 h2 hW hI; exact stop at_ i0 b F1 (by omega) hW hI
  | succ k ih =>
    intro at_ i0 b F1 h1 h2 hW hI
    by_cases hlt : (X (8 * f + m)).length ≤ at_
    · unfold lexL at hI
      rw [if_pos hlt] at hI
      exact stop at_ i0 b F1 hlt hW hI
    unfold lexL at hI
    rw [if_neg hlt] at hI
    have hT1 : TPw (F1 n2) (fil X f) := by rw [hW.2.2 n2 hg2]; exact hT
    have g0 : g_201 F1 n2 (m : Int) (at_ : Int) = gx (X (8 * f + m)) at_ := q_201y hT1 hm (show at_ < (X (8 * f + m)).length by omega)
    have s0 : sgnl (X (8 * f + m)) (at_ : Int) = gx (X (8 * f + m)) at_ := sgn_in (by omega)
    have hch := (hX (8 * f + m) (by omega)).2 (gx (X (8 * f + m)) at_) (gx_mem (by omega))
    have hfsm := hfs m (by omega)
    have hfs8 := hfs (m + 1) (by omega)
    have efs : fs X f (m + 1) = fs X f m + nt X f m := rfl
    have hi0n : i0 ≤ nt X f m := by have := hI.2.2.1; omega
    by_cases ht : turnsb (X (8 * f + m)) at_ b = true
    · rw [if_pos ht] at hI
      have hle2 := turnsb_le ht
      have hn := hI.o2
      have o0 := hI.2.1 0 (by omega)
      have o1 := hI.2.1 1 (by omega)
      have c0 : aCl X (f : Int) (m : Int) (at_ : Int) = 1 := aCl_c (by rw [Nat.add_zero] at o0; exact o0)
      have c1 : aCl X (f : Int) (m : Int) ((at_ : Int) + 1) = 1 := by
        have := aCl_c (X := X) (f := f) (m := m) (k := at_ + 1) o1
        rwa [show (((at_ + 1 : Nat)) : Int) = (at_ : Int) + 1 by omega] at this
      have s1 : sgnl (X (8 * f + m)) ((at_ : Int) + 1) = gx (X (8 * f + m)) (at_ + 1) := by
        have := sgn_in (l := X (8 * f + m)) (j := at_ + 1) (by omega)
        rwa [show (((at_ + 1 : Nat)) : Int) = (at_ : Int) + 1 by omega] at this
      have g1 : g_201 F1 n2 (m : Int) ((at_ : Int) + 1) = gx (X (8 * f + m)) (at_ + 1) := by
        have := q_201y hT1 hm (show at_ + 1 < (X (8 * f + m)).length by omega)
        rwa [show (((at_ + 1 : Nat)) : Int) = (at_ : Int) + 1 by omega] at this
      have ob1 : o_201 F1 n2 (m : Int) ((at_ : Int) + 1) := by
        have := ob_201 (F := F1) (n := n2) hm (show at_ + 1 < 24 by omega)
        rwa [show (((at_ + 1 : Nat)) : Int) = (at_ : Int) + 1 by omega] at this
      have nx : ∀ F2, WF G X S N L d e F2 → L_206_57 (f : Int) n2 n3 x (bi (!b)) ((fs X f m + i0 : Nat) : Int) 1 (m : Int) ((X (8 * f + m)).length : Int) ((at_ : Int) + 2) F2 R m_no := fun F2 hW2 => by
        have := ih (at_ + 2) i0 (!b) F2 (by omega) (by omega) hW2 hn
        rwa [show (((at_ + 2 : Nat)) : Int) = (at_ : Int) + 2 by omega] at this
      cases b with
      | false =>
        have tt : turnsb (X (8 * f + m)) at_ false = decide (sgnl (X (8 * f + m)) (at_ : Int) = 47 ∧ sgnl (X (8 * f + m)) ((at_ : Int) + 1) = 42) := rfl
        rw [tt, s0, s1] at ht
        obtain ⟨t0, t1⟩ := of_decide_eq_true ht
        refine b_206_57 hk2 hk3 hW.1 ⟨fun _ => ⟨fun h => absurd h (by decide), fun _ => ⟨ob_201 hm (by omega), by omega, ⟨fun _ => ⟨by omega, ob1, ?_⟩, fun h => by omega⟩⟩⟩, fun h => by omega⟩
        rw [g0, g1]
        refine ⟨fun _ => ⟨fun _ => ⟨fun _ => ?_, fun h => absurd t1 h⟩, fun h => absurd t0 h⟩, fun h => absurd rfl h⟩
        refine b_206_153 hk2 hk3 hW.1 ⟨fun h => absurd h (by decide), fun _ => ?_⟩
        refine b_206_166 hk2 hk3 hW.1 (k_co (f_147 hW.1 hW.2.1) (isCh_n hf hm (by omega)) (fun F' hS' hK' hc' => ?_))
        have hW' := hW.nx hS' hK' hc'
        rw [aCh_n]
        refine ⟨by omega, ⟨fun _ => ⟨fun _ => ⟨fun h => absurd h (by decide), fun _ => ?_⟩, fun h => absurd rfl h⟩, fun h => absurd rfl h⟩⟩
        refine b_206_205 hk2 hk3 hW'.1 ⟨fun h => absurd h (by decide), fun _ => k_co (f_153 hW'.1 hW'.2.1) (isCh_n hf hm (by omega)) (fun F2 hS2 hK2 hc2 => ?_)⟩
        have hW2 := hW'.nx hS2 hK2 hc2
        rw [c0]
        refine ⟨fun _ => ⟨fun h => absurd h (by decide), fun _ => ⟨by omega, ?_⟩⟩, fun h => absurd rfl h⟩
        have hch1 := isCh_n (X := X) hf hm (show at_ + 1 < (X (8 * f + m)).length by omega)
        rw [show (((at_ + 1 : Nat)) : Int) = (at_ : Int) + 1 by omega] at hch1
        refine k_co (f_153 hW2.1 hW2.2.1) hch1 (fun F3 hS3 hK3 hc3 => ?_)
        have hW3 := hW2.nx hS3 hK3 hc3
        rw [c1]
        refine ⟨fun _ => ?_, fun h => absurd rfl h⟩
        exact b_206_244 hk2 hk3 hW3.1 ⟨fun _ => ⟨by omega, nx F3 hW3⟩, fun h => absurd rfl h⟩
      | true =>
        have tt : turnsb (X (8 * f + m)) at_ true = decide (sgnl (X (8 * f + m)) (at_ : Int) = 42 ∧ sgnl (X (8 * f + m)) ((at_ : Int) + 1) = 47) := rfl
        rw [tt, s0, s1] at ht
        obtain ⟨t0, t1⟩ := of_decide_eq_true ht
        refine b_206_57 hk2 hk3 hW.1 ⟨fun _ => ⟨fun h => absurd h (by decide), fun _ => ⟨ob_201 hm (by omega), by omega, ⟨fun _ => ⟨by omega, ob1, ?_⟩, fun h => by omega⟩⟩⟩, fun h => by omega⟩
        rw [g0, g1]
        refine ⟨fun h => absurd h (by decide), fun _ => ?_⟩
        refine b_206_127 hk2 hk3 hW.1 ⟨fun h => absurd h (by decide), fun _ => ⟨fun _ => ⟨fun _ => ?_, fun h => absurd t1 h⟩, fun h => absurd t0 h⟩⟩
        refine b_206_166 hk2 hk3 hW.1 (k_co (f_147 hW.1 hW.2.1) (isCh_n hf hm (by omega)) (fun F' hS' hK' hc' => ?_))
        have hW' := hW.nx hS' hK' hc'
        rw [aCh_n]
        refine ⟨by omega, ⟨fun _ => ⟨fun h => absurd h (by decide), fun _ => ?_⟩, fun h => absurd rfl h⟩⟩
        refine b_206_205 hk2 hk3 hW'.1 ⟨fun h => absurd h (by decide), fun _ => k_co (f_153 hW'.1 hW'.2.1) (isCh_n hf hm (by omega)) (fun F2 hS2 hK2 hc2 => ?_)⟩
        have hW2 := hW'.nx hS2 hK2 hc2
        rw [c0]
        refine ⟨fun _ => ⟨fun h => absurd h (by decide), fun _ => ⟨by omega, ?_⟩⟩, fun h => absurd rfl h⟩
        have hch1 := isCh_n (X := X) hf hm (show at_ + 1 < (X (8 * f + m)).length by omega)
        rw [show (((at_ + 1 : Nat)) : Int) = (at_ : Int) + 1 by omega] at hch1
        refine k_co (f_153 hW2.1 hW2.2.1) hch1 (fun F3 hS3 hK3 hc3 => ?_)
        have hW3 := hW2.nx hS3 hK3 hc3
        rw [c1]
        refine ⟨fun _ => ?_, fun h => absurd rfl h⟩
        exact b_206_244 hk2 hk3 hW3.1 ⟨fun h => absurd h (by decide), fun _ => ⟨by omega, nx F3 hW3⟩⟩
    · rw [if_neg ht] at hI
      have nx : ∀ (Q : List (Int × Nat × Nat) × List Int × Bool), Q = lexL k (X (8 * f + m)) (at_ + 1) b (fs X f m + i0) → LI X f m (at_ + 1) i0 Q → ∀ F2, WF G X S N L d e F2 → L_206_57 (f : Int) n2 n3 x (bi b) ((fs X f m + i0 : Nat) : Int) 1 (m : Int) ((X (8 * f + m)).length : Int) ((at_ : Int) + 1) F2 R m_no := fun Q hQ hn F2 hW2 => by
        subst hQ
        have := ih (at_ + 1) i0 b F2 (by omega) (by omega) hW2 hn
        rwa [show (((at_ + 1 : Nat)) : Int) = (at_ : Int) + 1 by omega] at this
      cases b with
      | true =>
        rw [if_pos rfl] at hI
        have hn := hI.o1
        have o0 := hI.2.1 0 (by omega)
        have c0 : aCl X (f : Int) (m : Int) (at_ : Int) = 1 := aCl_c (by rw [Nat.add_zero] at o0; exact o0)
        have at153 : ∀ F1, WF G X S N L d e F1 → L_206_153 (f : Int) n2 n3 x 1 ((fs X f m + i0 : Nat) : Int) (m : Int) ((X (8 * f + m)).length : Int) (at_ : Int) (gx (X (8 * f + m)) at_) 0 F1 R m_no := fun F1 hW => by
          refine b_206_153 hk2 hk3 hW.1 ⟨fun _ => k_co (f_147 hW.1 hW.2.1) (isCh_n hf hm (by omega)) (fun F' hS' hK' hc' => ?_), fun h => absurd rfl h⟩
          have hW' := hW.nx hS' hK' hc'
          rw [aCh_n]
          refine ⟨by omega, ⟨fun _ => ⟨fun h => absurd h (by decide), fun _ => ?_⟩, fun h => absurd rfl h⟩⟩
          refine b_206_205 hk2 hk3 hW'.1 ⟨fun h => absurd h (by decide), fun _ => k_co (f_153 hW'.1 hW'.2.1) (isCh_n hf hm (by omega)) (fun F2 hS2 hK2 hc2 => ?_)⟩
          have hW2 := hW'.nx hS2 hK2 hc2
          rw [c0]
          refine ⟨fun _ => ⟨fun _ => ?_, fun h => absurd rfl h⟩, fun h => absurd rfl h⟩
          exact b_206_244 hk2 hk3 hW2.1 ⟨fun _ => ⟨by omega, nx _ rfl hn F2 hW2⟩, fun h => absurd rfl h⟩
        by_cases h1' : at_ + 1 < (X (8 * f + m)).length
        · have g1 : g_201 F1 n2 (m : Int) ((at_ : Int) + 1) = gx (X (8 * f + m)) (at_ + 1) := by
            have := q_201y hT1 hm (show at_ + 1 < (X (8 * f + m)).length by omega)
            rwa [show (((at_ + 1 : Nat)) : Int) = (at_ : Int) + 1 by omega] at this
          have s1 : sgnl (X (8 * f + m)) ((at_ : Int) + 1) = gx (X (8 * f + m)) (at_ + 1) := by
            have := sgn_in (l := X (8 * f + m)) (j := at_ + 1) (by omega)
            rwa [show (((at_ + 1 : Nat)) : Int) = (at_ : Int) + 1 by omega] at this
          have ob1 : o_201 F1 n2 (m : Int) ((at_ : Int) + 1) := by
            have := ob_201 (F := F1) (n := n2) hm (show at_ + 1 < 24 by omega)
            rwa [show (((at_ + 1 : Nat)) : Int) = (at_ : Int) + 1 by omega] at this
          have tt : turnsb (X (8 * f + m)) at_ true = decide (sgnl (X (8 * f + m)) (at_ : Int) = 42 ∧ sgnl (X (8 * f + m)) ((at_ : Int) + 1) = 47) := rfl
          rw [tt, s0, s1] at ht
          refine b_206_57 hk2 hk3 hW.1 ⟨fun _ => ⟨fun h => absurd h (by decide), fun _ => ⟨ob_201 hm (by omega), by omega, ⟨fun _ => ⟨by omega, ob1, ?_⟩, fun h => by omega⟩⟩⟩, fun h => by omega⟩
          rw [g0, g1]
          refine ⟨fun h => absurd h (by decide), fun _ => ?_⟩
          exact b_206_127 hk2 hk3 hW.1 ⟨fun h => absurd h (by decide), fun _ => ⟨fun t0 => ⟨fun t1 => absurd (decide_eq_true ⟨t0, t1⟩) ht, fun _ => at153 F1 hW⟩, fun _ => at153 F1 hW⟩⟩
        · refine b_206_57 hk2 hk3 hW.1 ⟨fun _ => ⟨fun h => absurd h (by decide), fun _ => ⟨ob_201 hm (by omega), by omega, ⟨fun h => by omega, fun _ => ?_⟩⟩⟩, fun h => by omega⟩
          rw [g0]
          refine ⟨fun h => absurd h (by decide), fun _ => ?_⟩
          exact b_206_127 hk2 hk3 hW.1 ⟨fun h => absurd h (by decide), fun _ => ⟨fun t0 => ⟨fun t1 => absurd t1 (by decide), fun _ => at153 F1 hW⟩, fun _ => at153 F1 hW⟩⟩
      | false =>
        rw [if_neg (by decide)] at hI
        have at153 : ∀ F1, WF G X S N L d e F1 → L_206_153 (f : Int) n2 n3 x 0 ((fs X f m + i0 : Nat) : Int) (m : Int) ((X (8 * f + m)).length : Int) (at_ : Int) (gx (X (8 * f + m)) at_) 0 F1 R m_no := fun F1 hW => by
          refine b_206_153 hk2 hk3 hW.1 ⟨fun _ => k_co (f_147 hW.1 hW.2.1) (isCh_n hf hm (by omega)) (fun F' hS' hK' hc' => ?_), fun h => absurd rfl h⟩
          have hW' := hW.nx hS' hK' hc'
          rw [aCh_n]
          refine ⟨by omega, ⟨fun _ => ⟨fun _ => ⟨fun h32 => ?_, fun h32 => ?_⟩, fun h => absurd rfl h⟩, fun h => absurd rfl h⟩⟩
          · rw [if_pos h32] at hI
            have hn := hI.o1
            have o0 := hI.2.1 0 (by omega)
            have c0 : aCl X (f : Int) (m : Int) (at_ : Int) = 0 := aCl_b (by rw [Nat.add_zero] at o0; exact o0)
            refine k_co (f_153 hW'.1 hW'.2.1) (isCh_n hf hm (by omega)) (fun F2 hS2 hK2 hc2 => ?_)
            have hW2 := hW'.nx hS2 hK2 hc2
            rw [c0]
            exact ⟨fun _ => ⟨by omega, nx _ rfl hn F2 hW2⟩, fun h => absurd rfl h⟩
          · rw [if_neg h32] at hI
            have hn := hI.ot
            have hs1 := span_pos (X (8 * f + m)) at_ (by omega)
            have hs2 := span_le (X (8 * f + m)) at_ (by omega)
            have hcr := clsw_rng (seg (X (8 * f + m)) at_ (span (X (8 * f + m)) at_))
            obtain ⟨a1, a2⟩ := hI.1 0 (by show 0 < List.length (_ :: _); rw [List.length_cons]; omega)
            rw [Nat.add_zero] at a1 a2
            have a3 : ron X f m i0 = (clsw (seg (X (8 * f + m)) at_ (span (X (8 * f + m)) at_)), at_, span (X (8 * f + m)) at_) := a2
            have ho : ∀ i, i < span (X (8 * f + m)) at_ → gx (owns X f m) (at_ + i) = ((fs X f m + i0 : Nat) : Int) := fun i hi => by
              have h9 := hI.2.1 i (by omega)
              have e9 : gx (List.replicate (span (X (8 * f + m)) at_) ((fs X f m + i0 : Nat) : Int) ++ (lexL k (X (8 * f + m)) (at_ + span (X (8 * f + m)) at_) false (fs X f m + i0 + 1)).2.1) i = ((fs X f m + i0 : Nat) : Int) := by rw [gx_rep, if_pos hi]
              exact h9.trans e9
            obtain ⟨b1, b2, -⟩ := aTk_at hX hf hm a1
            rw [a3] at b2
            have b2 : aTk X (f : Int) ((fs X f m + i0 : Nat) : Int) = 10000 * clsw (seg (X (8 * f + m)) at_ (span (X (8 * f + m)) at_)) + 1000 * (m : Int) + (at_ : Int) := b2
            have hT' : TPw (F' n2) (fil X f) := by rw [hW'.2.2 n2 hg2]; exact hT
            refine CaI.on (s_205 hk2 hW'.1 hT' hm (show at_ < (fil X f m).length from by show at_ < (X (8 * f + m)).length; omega) h32) ?_
            rintro r F2 hS2 ⟨hr, rfl⟩
            have hr : r = clsw (seg (X (8 * f + m)) at_ (span (X (8 * f + m)) at_)) + 100 * (span (X (8 * f + m)) at_ : Nat) := hr
            have r1 : r % 100 = clsw (seg (X (8 * f + m)) at_ (span (X (8 * f + m)) at_)) := by omega
            have r2 : r / 100 = ((span (X (8 * f + m)) at_ : Nat) : Int) := by omega
            rw [r1, r2]
            have kk : ∀ F3, WF G X S N L d e F3 → L_206_356 (f : Int) n2 n3 x 0 ((fs X f m + i0 : Nat) : Int) (m : Int) ((X (8 * f + m)).length : Int) (at_ : Int) ((span (X (8 * f + m)) at_ : Nat) : Int) (clsw (seg (X (8 * f + m)) at_ (span (X (8 * f + m)) at_))) F3 R m_no := fun F3 hW3 => by
              have key := l_206k (x := x) (R := R) hf hm hX hk2 hk3 hW3 hs1 hs2 a1 h24 ho (by omega) (fun F4 hW4 => by
                have := ih (at_ + span (X (8 * f + m)) at_) (i0 + 1) false F4 (by omega) (by omega) hW4 hn
                rw [show (((at_ + span (X (8 * f + m)) at_ : Nat)) : Int) = (at_ : Int) + ((span (X (8 * f + m)) at_ : Nat) : Int) by omega, show (((fs X f m + (i0 + 1) : Nat)) : Int) = ((fs X f m + i0 : Nat) : Int) + 1 by omega] at this
                exact this)
              rw [a3] at key
              exact key
            refine ⟨by omega, by omega, by omega, by omega, by omega, by omega, ?_⟩
            refine k_co (f_151 hW'.1 hW'.2.1) b1 (fun F3 hS3 hK3 hc3 => ?_)
            have hW3 := hW'.nx hS3 hK3 hc3
            refine ⟨fun _ => ⟨by omega, ⟨fun _ => ?_, fun _ => kk F3 hW3⟩⟩, fun h => absurd b2 h⟩
            refine k_co (f_152 hW3.1 hW3.2.1) b1 (fun F4 hS4 hK4 hc4 => ?_)
            exact ⟨fun _ => kk F4 (hW3.nx hS4 hK4 hc4), fun h => absurd b2 h⟩
        have at127 : ∀ (w : Int) F1, WF G X S N L d e F1 → L_206_127 (f : Int) n2 n3 x 0 ((fs X f m + i0 : Nat) : Int) (m : Int) ((X (8 * f + m)).length : Int) (at_ : Int) (gx (X (8 * f + m)) at_) w F1 R m_no := fun w F1 hW =>
          b_206_127 hk2 hk3 hW.1 ⟨fun _ => at153 F1 hW, fun h => absurd rfl h⟩
        by_cases h1' : at_ + 1 < (X (8 * f + m)).length
        · have g1 : g_201 F1 n2 (m : Int) ((at_ : Int) + 1) = gx (X (8 * f + m)) (at_ + 1) := by
            have := q_201y hT1 hm (show at_ + 1 < (X (8 * f + m)).length by omega)
            rwa [show (((at_ + 1 : Nat)) : Int) = (at_ : Int) + 1 by omega] at this
          have s1 : sgnl (X (8 * f + m)) ((at_ : Int) + 1) = gx (X (8 * f + m)) (at_ + 1) := by
            have := sgn_in (l := X (8 * f + m)) (j := at_ + 1) (by omega)
            rwa [show (((at_ + 1 : Nat)) : Int) = (at_ : Int) + 1 by omega] at this
          have ob1 : o_201 F1 n2 (m : Int) ((at_ : Int) + 1) := by
            have := ob_201 (F := F1) (n := n2) hm (show at_ + 1 < 24 by omega)
            rwa [show (((at_ + 1 : Nat)) : Int) = (at_ : Int) + 1 by omega] at this
          have tt : turnsb (X (8 * f + m)) at_ false = decide (sgnl (X (8 * f + m)) (at_ : Int) = 47 ∧ sgnl (X (8 * f + m)) ((at_ : Int) + 1) = 42) := rfl
          rw [tt, s0, s1] at ht
          refine b_206_57 hk2 hk3 hW.1 ⟨fun _ => ⟨fun h => absurd h (by decide), fun _ => ⟨ob_201 hm (by omega), by omega, ⟨fun _ => ⟨by omega, ob1, ?_⟩, fun h => by omega⟩⟩⟩, fun h => by omega⟩
          rw [g0, g1]
          exact ⟨fun _ => ⟨fun t0 => ⟨fun t1 => absurd (decide_eq_true ⟨t0, t1⟩) ht, fun _ => at127 _ F1 hW⟩, fun _ => at127 _ F1 hW⟩, fun h => absurd rfl h⟩
        · refine b_206_57 hk2 hk3 hW.1 ⟨fun _ => ⟨fun h => absurd h (by decide), fun _ => ⟨ob_201 hm (by omega), by omega, ⟨fun h => by omega, fun _ => ?_⟩⟩⟩, fun h => by omega⟩
          rw [g0]
          exact ⟨fun _ => ⟨fun t0 => at127 _ F1 hW, fun _ => at127 _ F1 hW⟩, fun h => absurd rfl h⟩
theorem l_206a (hf : f < 3) (hX : ∀ r, r < 24 → Rok (X r)) (hk2 : m_KD[n2]? = some (101, 24)) (hk3 : m_KD[n3]? = some (100, 24)) (hg2 : 201 ≤ n2) (hg3 : 201 ≤ n3) (hT : TPw (G n2) (fil X f)) (hL : LL (G n3) X) (hx : 0 ≤ x) (hfs : ∀ q, q ≤ 8 → fs X f q < 200) : ∀ (dd m : Nat) (F1 : MF), m + dd = 8 → WF G X S N L d e F1 →
    L_206_12 (f : Int) n2 n3 x (bi (md X f m)) ((fs X f m : Nat) : Int) 1 (m : Int) F1 (fun r F' => r = 1 ∧ WF G X S N L d e F') m_no := by
  intro dd
  induction dd with
  | zero =>
    intro m F1 hm hW
    obtain rfl : m = 8 := by omega
    refine b_206_12 hk2 hk3 hW.1 ⟨fun h => by omega, fun _ => ⟨fun h => absurd h (by decide), fun _ => k_co (f_150 hW.1 hW.2.1) ⟨f, hf, rfl⟩ (fun F' hS' hK' hc' => ?_)⟩⟩
    have e : aTs X (f : Int) = ((fs X f 8 : Nat) : Int) := by
      unfold aTs
      rw [Int.toNat_natCast, fs_8 hX hf]
    exact ⟨fun _ => ⟨rfl, hW.nx hS' hK' hc'⟩, fun h => absurd e h⟩
  | succ dd ih =>
    intro m F1 hmd hW
    have hm : m < 8 := by omega
    refine b_206_12 hk2 hk3 hW.1 ⟨fun _ => ⟨fun h => absurd h (by decide), fun _ => ⟨by omega, by omega, by omega, k_co (f_148 hW.1 hW.2.1) ⟨f, m, hf, hm, rfl, rfl⟩ (fun F' hS' hK' hc' => ?_)⟩⟩, fun h => by omega⟩
    have hW' := hW.nx hS' hK' hc'
    have e1 : ((8 * (f : Int)) + (m : Int)).toNat = 8 * f + m := by omega
    have e2 : F1 n3 (8 * f + m) = ((X (8 * f + m)).length : Int) := by rw [hW.2.2 n3 hg3]; exact hL _ (by omega)
    have e3 : aLn X (f : Int) (m : Int) = ((X (8 * f + m)).length : Int) := by
      unfold aLn
      rw [Int.toNat_natCast, Int.toNat_natCast]
    rw [e1, e2, e3]
    refine ⟨fun _ => ?_, fun h => absurd rfl h⟩
    have key := l_206b (m := m) (x := x) (R := fun r F' => r = 1 ∧ WF G X S N L d e F') hf hm hX hk2 hk3 hg2 hg3 hT hL hx hfs (fun F2 hW2 => by
      have := ih (m + 1) F2 (by omega) hW2
      rwa [show (((m + 1 : Nat)) : Int) = (m : Int) + 1 by omega] at this) 24 0 0 (md X f m) F' (by have := (hX (8 * f + m) (by omega)).1; omega) (Nat.zero_le _) hW' ?_
    · exact key
    · have hmd2 := md_lex hX hf m (by omega)
      have hfs2 := lexTo_fs hX hf m (by omega)
      have e4 : (lexL 24 (X (8 * f + m)) 0 (md X f m) (fs X f m)).1 = rtl (X (8 * f + m)) (md X f m) := (lexL_c0 _ _ _ _ _ _).1
      refine ⟨fun i hi => ?_, fun i hi => ?_, ?_, ?_⟩
      · rw [Nat.add_zero, e4] at hi
        rw [Nat.add_zero, e4, Nat.zero_add]
        exact ⟨hi, rfl⟩
      · rw [Nat.add_zero, Nat.zero_add]
        unfold owns
        rw [hmd2, hfs2]
      · rw [Nat.add_zero, e4, Nat.zero_add]
        rfl
      · rw [Nat.add_zero]
        have := md_lex hX hf (m + 1) (by omega)
        rw [← this]
        show _ = (lexL 24 (X (8 * f + m)) 0 (lexTo X f m).2 (lexTo X f m).1.length).2.2
        rw [hmd2, hfs2]
/-- a file is as it should be -/
theorem s_206 (hf : f < 3) (hk2 : m_KD[n2]? = some (101, 24)) (hk3 : m_KD[n3]? = some (100, 24)) (hg2 : 201 ≤ n2) (hg3 : 201 ≤ n3) (hS : St F) (hK : KC F X S N L d e) (hT : TPw (F n2) (fil X f)) (hL : LL (F n3) X) (hx : 0 ≤ x) :
    C_206 (f : Int) n2 n3 x F (fun r F' => r = 1 ∧ KC F' X S N L d e ∧ Cn F F') m_no := by
  have hX := hK.hX
  have h8 : fs X f 8 < 200 := by rw [← fs_8 hX hf]; have := toks_len hX hf; omega
  have mono : ∀ a b, a ≤ b → fs X f a ≤ fs X f b := fun a b h => by
    induction b with
    | zero => obtain rfl : a = 0 := Nat.le_zero.mp h; exact Nat.le_refl _
    | succ b ihb =>
      by_cases e : a = b + 1
      · rw [e]; exact Nat.le_refl _
      · exact Nat.le_trans (ihb (by omega)) (Nat.le_add_right _ _)
  have := l_206a (x := x) hf hX hk2 hk3 hg2 hg3 hT hL hx (fun q hq => Nat.lt_of_le_of_lt (mono q 8 hq) h8) 8 0 F rfl ⟨hS, hK, fun _ _ => rfl⟩
  exact c_206 hk2 hk3 hS (EvI.mono this (fun r F' _ h => ⟨h.1, h.2.2⟩) (fun _ _ _ h => h))
end Mo4
