/-! THE READER OF THE CLASS: the end of a block -/
theorem mk_w {o p e : Nat} (ho : o < 256) (hp : p < 256) (he : e < 32768) : 0 ≤ mk o p e ∧ mk o p e < 2147483648 := by
  unfold mk
  omega
theorem W32.snoc {C : List Int} {w : Int} (h : W32 C) (hw : 0 ≤ w ∧ w < 2147483648) : W32 (C ++ [w]) := by
  intro k hk
  rw [List.length_append, List.length_singleton] at hk
  rw [gx_app]
  by_cases e : k < C.length
  · rw [if_pos e]
    exact h k e
  · rw [if_neg e, show k - C.length = 0 by omega]
    exact hw
theorem W32.ai {C : List Int} {i : Int} {p : Nat} (h : W32 C) (hp : p < 32768) : W32 (aim C i p) := by
  unfold aim
  split
  · intro k hk
    rw [List.length_set] at hk
    have hk' := h k hk
    unfold gx at hk' ⊢
    rw [List.getD_eq_getElem?_getD, List.getElem?_set]
    by_cases e : i.toNat = k
    · rw [if_pos e, if_pos (by omega)]
      show 0 ≤ _ % 65536 + 65536 * (p : Int) ∧ _ % 65536 + 65536 * (p : Int) < 2147483648
      omega
    · rw [if_neg e, ← List.getD_eq_getElem?_getD]
      exact hk'
  · exact h
section M66
variable {F G : MF} {n t b z a : Nat} {K : List Int} {S : List (Int × Int)} {C : List Int} {E : EE} {Fn : FF} {U : List Int}
theorem RC.pop {x : Int × Int} {v : Int} (hX : RX n t b z K) (h : RC F n t b K a (x :: S) C E Fn U) (hv : v = (S.length : Int)) : RC (m_up F n 6 v) n t b K a S C E Fn U := by
  have hs := hX.2.2.2.2.2.2
  have hb := hX.2.2.2.2.2.1 n (Or.inl rfl)
  obtain ⟨⟨g1, g2, g3, g4⟩, h2, ⟨h3, h4⟩, h5⟩ := h
  refine ⟨⟨?_, ?_, ?_, ?_⟩, ?_, ⟨?_, ?_⟩, h5.cong (fun c h5 h6 => up_row (by omega))⟩
  · rw [u_ne (Or.inr (by decide))]; exact g1
  · rw [u_ne (Or.inr (by decide))]; exact g2
  · rw [u_ne (Or.inr (by decide))]; exact g3
  · rw [up_row (fun e => hb e.symm)]; exact g4
  · rw [u_ne (Or.inr (by decide))]; exact h2
  · rw [u_eq]; exact hv
  · rw [up_row (by omega), up_row (by omega)]
    obtain ⟨x1, x2⟩ := x
    exact h4.2.2
theorem RC.row (h : RC F n t b K a S C E Fn U) : F n 3 = (t : Int) := h.1.2.2.1
theorem RC.cnt (h : RC F n t b K a S C E Fn U) : F t 1 = (C.length : Int) := h.2.2.2.1.1
theorem l_146 {q st : Int} (hX : RX n t b z K) (hS : St F) (h : RC F n t b K a S C E Fn U) (ha : a ≤ K.length) (hC : C.length + 2 ≤ 640) (hW : W32 C) (hE : E.length < 200) (hSl : S.length < 200) (hG : fr (RP n t) G F) :
    L_66_146 n q st F (fun F' => fr (RP n t) G F' ∧ RCp F' n t b K (pel K a q st S C E Fn U)) m_no := by
  have hK := hX.2.2.2.2.1
  unfold pel
  refine b_66_146 hX.1 hS ⟨fun k1 => ?_, fun k1 => ?_⟩
  · by_cases k2 : kn K a = 6
    · rw [if_pos ⟨k1, k2⟩]
      have l1 := kn_lt (K := K) (i := a) (by rw [k2]; decide)
      refine CaI.on (s_eatY hX hS h k2 (by omega)) ?_
      rintro v F1 hS1 ⟨rfl, h1, e1⟩
      have hf1 : fr (RP n t) G F1 := by rw [e1]; exact hG.up (Or.inl rfl)
      refine ⟨fun h0 => absurd h0 (by decide), fun _ => ?_⟩
      rw [h1.2.1]
      refine CaI.on (s_59 hX hS1 h1.1) ?_
      rintro v F2 hS2 ⟨rfl, rfl⟩
      refine ⟨fun k3 => ⟨t, h1.row, hX.2.1, t, h1.row, hX.2.1, ?_⟩, fun k3 => ⟨t, h1.row, hX.2.1, ?_⟩⟩
      · rw [if_pos k3, h1.2.1, h1.cnt, show ((a + 1 : Nat) : Int) - 1 = (a : Int) by omega]
        refine ⟨by omega, ?_⟩
        refine CaV.on (s_121 (o := 12) (p := a) (e := 0) hX.2.1 hS1 h1.2.2.2 (by omega) (by omega) (by omega) (by omega)) ?_
        rintro F3 hS3 ⟨k4, k5⟩
        have h3 := h1.tree hX k5 k4
        have e3 : (C ++ [mk 12 a 0]).length = C.length + 1 := by rw [List.length_append, List.length_singleton]
        refine ⟨t, h3.row, hX.2.1, t, h3.row, hX.2.1, ?_⟩
        rw [h3.cnt, e3]
        refine CaV.on (s_122 (p := C.length + 1) hX.2.1 hS3 h3.2.2.2 (hW.snoc (mk_w (by omega) (by omega) (by omega))) (by omega) (by omega)) ?_
        rintro F4 hS4 ⟨k6, k7⟩
        have h4 := h3.tree hX k7 k6
        refine CaV.on (s_65 (x := 3) (y := (C.length : Int)) hX hS4 h4 (by rw [aim_len, e3]; omega) (by omega) hSl) ?_
        rintro F5 hS5 ⟨k8, k9⟩
        exact ⟨((hf1.tr (k5.mo TP_RP)).tr (k7.mo TP_RP)).tr k9, k8⟩
      · rw [if_neg k3, h1.2.1]
        refine CaV.on (s_123 hX.2.1 hS1 h1.2.2.2 hE) ?_
        rintro F3 hS3 ⟨k4, k5⟩
        have h3 := h1.tree hX k5 k4
        refine CaV.on (s_skip hX hS3 h3 (by omega)) ?_
        rintro F4 hS4 ⟨k6, k7⟩
        exact ⟨(hf1.tr (k5.mo TP_RP)).tr (k7.mo (fun c h => Or.inl h)), k6⟩
    · rw [if_neg (fun e => k2 e.2)]
      refine CaI.on (s_eatN hX hS h k2) ?_
      rintro v F1 hS1 ⟨rfl, rfl⟩
      exact ⟨fun _ => ⟨hG, h⟩, fun h0 => absurd rfl h0⟩
  · rw [if_neg (fun e => k1 e.1)]
    exact ⟨hG, h⟩
theorem setLast_len {w : Int} : (setLast Fn w).length = Fn.length := by
  by_cases hne : Fn = []
  · rw [hne]; rfl
  · obtain ⟨Fn0, x, rfl⟩ : ∃ Fn0 x, Fn = Fn0 ++ [x] := ⟨Fn.dropLast, Fn.getLast hne, (List.dropLast_concat_getLast hne).symm⟩
    obtain ⟨n, p, s, v⟩ := x
    rw [setLast_app, List.length_append, List.length_append]
    rfl
def pc2 (K : List Int) (a : Nat) (q st w : Int) (S : List (Int × Int)) (C : List Int) (E : EE) (Fn : FF) (U : List Int) : PS :=
  if q = 0 then pel K a q st S (C ++ [mk 5 0 0]) E (setLast Fn w) U
  else if q = 1 then pel K a q st S C E Fn U
  else pel K a q st S (aim C st C.length) E Fn U
theorem l_66m {q st w k : Int} {a2 : Nat} (hX : RX n t b z K) (hS : St F) (h : RC F n t b K a ((q, st) :: S) C E Fn U) (hk : (a : Int) + k = (a2 : Int)) (ha : a2 ≤ K.length) (hC : C.length + 3 ≤ 640) (hW : W32 C) (hE : E.length < 200) (hF : Fn.length ≤ 40) (hSl : S.length < 200) (hG : fr (RP n t) G F) (R : MF → Prop) (hR : R = (fun F' => fr (RP n t) G F' ∧ RCp F' n t b K (pc2 K a2 q st w S C E Fn U))) :
    (-2147483648 ≤ ((F n 2) + k) ∧ ((F n 2) + k) < 2147483648) ∧ (-2147483648 ≤ ((F n 6) - 1) ∧ ((F n 6) - 1) < 2147483648) ∧ (0 ≤ ((F n 6) - 1) ∧ ((F n 6) - 1) < 200) ∧ (0 ≤ ((F n 6) - 1) ∧ ((F n 6) - 1) < 200) ∧ (((F (n + 2) ((F n 6) - 1).toNat) = 0 → (∃ b31 : Nat, (F n 3) = ((b31 : Nat) : Int) ∧ b31 ∈ m_I9 ∧ C_121 b31 5 0 0 (m_up (m_up F n 2 ((F n 2) + k)) n 6 ((F n 6) - 1)) (fun F36 => (∃ b40 : Nat, (F36 n 3) = ((b40 : Nat) : Int) ∧ b40 ∈ m_I9 ∧ C_126 b40 w F36 (fun F45 => L_66_146 n (F (n + 2) ((F n 6) - 1).toNat) (F (n + 3) ((F n 6) - 1).toNat) F45 R m_no) m_no)) m_no)) ∧ (¬ ((F (n + 2) ((F n 6) - 1).toNat) = 0) → (((F (n + 2) ((F n 6) - 1).toNat) = 1 → L_66_146 n (F (n + 2) ((F n 6) - 1).toNat) (F (n + 3) ((F n 6) - 1).toNat) (m_up (m_up F n 2 ((F n 2) + k)) n 6 ((F n 6) - 1)) R m_no) ∧ (¬ ((F (n + 2) ((F n 6) - 1).toNat) = 1) → (∃ b17 : Nat, (F n 3) = ((b17 : Nat) : Int) ∧ b17 ∈ m_I9 ∧ (∃ b22 : Nat, (F n 3) = ((b22 : Nat) : Int) ∧ b22 ∈ m_I9 ∧ C_122 b17 (F (n + 3) ((F n 6) - 1).toNat) (F b22 1) (m_up (m_up F n 2 ((F n 2) + k)) n 6 ((F n 6) - 1)) (fun F27 => L_66_146 n (F (n + 2) ((F n 6) - 1).toNat) (F (n + 3) ((F n 6) - 1).toNat) F27 R m_no) m_no)))))) := by
  have hK := hX.2.2.2.2.1
  have e6 : F n 6 = (S.length : Int) + 1 := by rw [h.2.2.1.1, List.length_cons]; omega
  have e7 : ((S.length : Int) + 1 - 1).toNat = S.length := by omega
  have q1 : F (n + 2) S.length = q := h.2.2.1.2.1
  have q2 : F (n + 3) S.length = st := h.2.2.1.2.2.1
  rw [e6, h.2.1, e7, q1, q2, hk]
  have h1 : RC (m_up F n 2 (a2 : Int)) n t b K a2 ((q, st) :: S) C E Fn U := h.pos hX rfl
  have h2 : RC (m_up (m_up F n 2 (a2 : Int)) n 6 ((S.length : Int) + 1 - 1)) n t b K a2 S C E Fn U := h1.pop hX (by omega)
  have hS2 : St (m_up (m_up F n 2 (a2 : Int)) n 6 ((S.length : Int) + 1 - 1)) := (hS.fld (ok_4 hX.1) rk_4_2).fld (ok_4 hX.1) rk_4_6
  have hf2 : fr (RP n t) G (m_up (m_up F n 2 (a2 : Int)) n 6 ((S.length : Int) + 1 - 1)) := (hG.up (Or.inl rfl)).up (Or.inl rfl)
  subst hR
  unfold pc2
  refine ⟨by omega, by omega, by omega, by omega, fun k1 => ⟨t, h.row, hX.2.1, ?_⟩, fun k1 => ⟨fun k2 => ?_, fun k2 => ⟨t, h.row, hX.2.1, t, h.row, hX.2.1, ?_⟩⟩⟩
  · rw [if_pos k1]
    refine CaV.on (s_121 (o := 5) (p := 0) (e := 0) hX.2.1 hS2 h2.2.2.2 (by omega) (by omega) (by omega) (by omega)) ?_
    rintro F3 hS3 ⟨k4, k5⟩
    have h3 := h2.tree hX k5 k4
    refine ⟨t, h3.row, hX.2.1, ?_⟩
    refine CaV.on (s_126 hX.2.1 hS3 h3.2.2.2 hF) ?_
    rintro F4 hS4 ⟨k6, k7⟩
    have h4 := h3.tree hX k7 k6
    exact l_146 hX hS4 h4 ha (by rw [List.length_append, List.length_singleton]; omega) (hW.snoc (mk_w (by omega) (by omega) (by omega))) hE hSl ((hf2.tr (k5.mo TP_RP)).tr (k7.mo TP_RP))
  · rw [if_neg k1, if_pos k2]
    exact l_146 hX hS2 h2 ha (by omega) hW hE hSl hf2
  · rw [if_neg k1, if_neg k2, h.cnt]
    refine CaV.on (s_122 (p := C.length) hX.2.1 hS2 h2.2.2.2 hW (by omega) (by omega)) ?_
    rintro F4 hS4 ⟨k6, k7⟩
    have h4 := h2.tree hX k7 k6
    exact l_146 hX hS4 h4 ha (by rw [aim_len]; omega) (hW.ai (by omega)) hE hSl (hf2.tr (k7.mo TP_RP))
theorem pcb_pc2 {cl : Bool} {q st : Int} : pcb K a cl q st S C E Fn U = pc2 K (if cl = true then a + 1 else a) q st (if cl = true then (a : Int) else -1) S (C ++ [mk 4 a (if cl = true then 1 else 0)]) (if cl = true then E else E ++ [((a : Int), -1, -1)]) Fn U := rfl
theorem s_66 {cl : Bool} {q st : Int} (hX : RX n t b z K) (hS : St F) (h : RC F n t b K a ((q, st) :: S) C E Fn U) (ha : a ≤ K.length) (hcl : cl = true → a < K.length) (hC : C.length + 4 ≤ 640) (hW : W32 C) (hE : E.length + 1 < 200) (hF : Fn.length ≤ 40) (hSl : S.length < 200) :
    C_66 n (bi cl) F (fun F' => fr (RP n t) F F' ∧ RCp F' n t b K (pcb K a cl q st S C E Fn U)) m_no := by
  have hK := hX.2.2.2.2.1
  have e3 : ∀ w : Int, (C ++ [w]).length = C.length + 1 := fun w => by rw [List.length_append, List.length_singleton]
  rw [pcb_pc2]
  cases cl with
  | true =>
    refine c_66 hX.1 hS ⟨fun e => absurd e (by decide), fun _ => ?_⟩
    refine b_66_17 hX.1 hS ⟨fun e => absurd e (by decide), fun _ => ⟨t, h.row, hX.2.1, ?_⟩⟩
    rw [h.2.1]
    have hlt := hcl rfl
    refine CaV.on (s_121 (o := 4) (p := a) (e := 1) hX.2.1 hS h.2.2.2 (by omega) (by omega) (by omega) (by omega)) ?_
    rintro F3 hS3 ⟨k4, k5⟩
    have h3 := h.tree hX k5 k4
    exact l_66m (k := 1) (a2 := a + 1) hX hS3 h3 (by omega) (by omega) (by rw [e3]; omega) (hW.snoc (mk_w (by omega) (by omega) (by omega))) (by omega) hF hSl (k5.mo TP_RP) _ rfl
  | false =>
    refine c_66 hX.1 hS ⟨fun _ => ⟨t, h.row, hX.2.1, ?_⟩, fun e => absurd rfl e⟩
    rw [h.2.1]
    refine CaV.on (s_123 hX.2.1 hS h.2.2.2 (by omega)) ?_
    rintro F2 hS2 ⟨k2, k3⟩
    have h2 := h.tree hX k3 k2
    refine b_66_17 hX.1 hS2 ⟨fun _ => ⟨t, h2.row, hX.2.1, ?_⟩, fun e => absurd rfl e⟩
    rw [h2.2.1]
    refine CaV.on (s_121 (o := 4) (p := a) (e := 0) hX.2.1 hS2 h2.2.2.2 (by omega) (by omega) (by omega) (by omega)) ?_
    rintro F3 hS3 ⟨k4, k5⟩
    have h3 := h2.tree hX k5 k4
    exact l_66m (k := 0) (a2 := a) hX hS3 h3 (by omega) (by omega) (by rw [e3]; omega) (hW.snoc (mk_w (by omega) (by omega) (by omega))) (by rw [List.length_append, List.length_singleton]; omega) hF hSl ((k3.mo TP_RP).tr (k5.mo TP_RP)) _ rfl
end M66
