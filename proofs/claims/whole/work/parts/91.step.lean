/-! READING, OF THE REFERENCE: goesOn against xbh -/
theorem rk_hi {k : Int} (h : 1 < rk k) : k = 21 ∨ k = 19 ∨ k = 20 := by
  unfold rk at h
  split at h
  · omega
  · split at h
    · omega
    · split at h <;> omega
theorem rk_lo {k : Int} (h : rk k = 1) : k = 17 ∨ k = 18 := by
  unfold rk at h
  split at h
  · omega
  · split at h
    · omega
    · split at h <;> omega
theorem ol_pn (p : Int) : (ol p).length = pn1 p := by
  unfold ol pn1
  split <;> rfl
section M91
variable {F F' : MF} {K : List Int} {n0 N a : Nat} {C0 C : List Int} {l : Lv} {r : List Lv}
def TG (n0 : Nat) (F F' : MF) : Prop := Cz n0 F F' ∧ (∀ j, j ≠ 26 → j ≠ 27 → j ≠ 51 → j ≠ 53 → j ≠ 54 → j ≠ 58 → j ≠ 60 → j ≠ 63 → F' 201 j = F 201 j)
theorem TF.tg (h : TF n0 F F') : TG n0 F F' := ⟨h.1, fun j a b c d e f g _ => h.2 j a b c d e f g⟩
theorem TG.tr {F1 : MF} (h : TG n0 F F1) (k : TG n0 F1 F') : TG n0 F F' := ⟨h.1.tr k.1, fun j a b c d e f g i => (k.2 j a b c d e f g i).trans (h.2 j a b c d e f g i)⟩
def HU (F : MF) (K : List Int) (n0 : Nat) (C0 : List Int) (l : Lv) (r : List Lv) (a N : Nat) (y : XS) : Int → MF → Prop := fun v F' => TG n0 F F' ∧
  (y.1 = 1 → v = 1 ∧ F' 201 63 = F 201 63 ∧ ∃ N', EW F' K n0 C0 y.2.2.1 y.2.1 N' y.2.2.2 ∧ N' + PNs y.2.2.1 + a ≤ N + PH (l :: r) + y.2.1) ∧
  (y.1 = 4 → v = 0 ∧ F' 201 63 = F 201 63 ∧ ∃ N', EHs F' K n0 C0 r (a + 1) N' (y.2.2.2 ++ [mk (if shp l = 1 then 18 else 15) (opn l).toNat (szs (hdl y.2.2.1)).toNat]) ∧ N' + PH r + a ≤ N + PH (l :: r) + (a + 1)) ∧
  (y.1 = 3 → v = 0 ∧ F' = m_up (m_up F 201 58 0) 201 63 1) ∧ (y.1 = 0 → v = 0 ∧ F' = m_up (m_up F 201 58 1) 201 63 1)
theorem HU.one {a' N' : Nat} {L : List Lv} {C' : List Int} (h1 : TF n0 F F') (h2 : EW F' K n0 C0 L a' N' C') (h3 : N' + PNs L + a ≤ N + PH (l :: r) + a') : HU F K n0 C0 l r a N (1, a', L, C') 1 F' :=
  ⟨h1.tg, fun _ => ⟨rfl, h1.2 63 (by decide) (by decide) (by decide) (by decide) (by decide) (by decide) (by decide), N', h2, h3⟩, fun e => absurd (show (1 : Nat) = 4 from e) (by decide), fun e => absurd (show (1 : Nat) = 3 from e) (by decide), fun e => absurd (show (1 : Nat) = 0 from e) (by decide)⟩
theorem HU.four {a' N' : Nat} {L : List Lv} {C' : List Int} (h1 : TF n0 F F') (h2 : EHs F' K n0 C0 r (a + 1) N' (C' ++ [mk (if shp l = 1 then 18 else 15) (opn l).toNat (szs (hdl L)).toNat])) (h3 : N' + PH r + a ≤ N + PH (l :: r) + (a + 1)) : HU F K n0 C0 l r a N (4, a', L, C') 0 F' :=
  ⟨h1.tg, fun e => absurd (show (4 : Nat) = 1 from e) (by decide), fun _ => ⟨rfl, h1.2 63 (by decide) (by decide) (by decide) (by decide) (by decide) (by decide) (by decide), N', h2, h3⟩, fun e => absurd (show (4 : Nat) = 3 from e) (by decide), fun e => absurd (show (4 : Nat) = 0 from e) (by decide)⟩
theorem TG.up {x y : Int} : TG n0 F (m_up (m_up F 201 58 x) 201 63 y) := ⟨⟨fun c i x y _ => by rw [u_ne (by omega), u_ne (by omega)], (fr.rf.up (Or.inl rfl)).up (Or.inl rfl)⟩, fun j x1 x2 x3 x4 x5 x6 x7 x8 => by rw [u_ne (Or.inr x8), u_ne (Or.inr x6)]⟩
theorem HU.three {a' : Nat} {L : List Lv} {C' : List Int} : HU F K n0 C0 l r a N (3, a', L, C') 0 (m_up (m_up F 201 58 0) 201 63 1) :=
  ⟨TG.up, fun e => absurd (show (3 : Nat) = 1 from e) (by decide), fun e => absurd (show (3 : Nat) = 4 from e) (by decide), fun _ => ⟨rfl, rfl⟩, fun e => absurd (show (3 : Nat) = 0 from e) (by decide)⟩
theorem HU.zero {a' : Nat} {L : List Lv} {C' : List Int} : HU F K n0 C0 l r a N (0, a', L, C') 0 (m_up (m_up F 201 58 1) 201 63 1) :=
  ⟨TG.up, fun e => absurd (show (0 : Nat) = 1 from e) (by decide), fun e => absurd (show (0 : Nat) = 4 from e) (by decide), fun e => absurd (show (0 : Nat) = 3 from e) (by decide), fun _ => ⟨rfl, rfl⟩⟩
theorem xbh_no (h : ¬ (1 < rk (kn K a) ∨ rk (kn K a) = 1 ∧ cps l = -1)) : xbh K a l r C = xcl K a (shp l, opn l, szs l, -1, -1, -1, -1) r (C ++ wd 16 (nts l) ++ (wd 17 (tms l) ++ wd 17 (ads l) ++ wd 17 (cps l))) := by
  have h1 : kn K a ≠ 21 := fun e => h (Or.inl (by rw [e]; decide))
  have h2 : ¬ (kn K a = 19 ∨ kn K a = 20) := fun e => h (Or.inl (by rcases e with e | e <;> rw [e] <;> decide))
  unfold xbh xb2 xb3
  rw [if_neg h1, if_neg h2]
  by_cases e : cps l = -1
  · have h3 : ¬ (kn K a = 17 ∨ kn K a = 18) := fun e2 => h (Or.inr ⟨by rcases e2 with e2 | e2 <;> rw [e2] <;> decide, e⟩)
    rw [if_pos e, if_neg h3, e]
    have : wd 17 (-1) = [] := rfl
    rw [this, List.append_nil]
    simp only [List.append_assoc]
  · rw [if_neg e]
    simp only [List.append_assoc]
theorem s_232x (hS : St F) (hQ : SQ F K) (h : EHs F K n0 C0 (l :: r) a N C) (hB : GB F K n0 N a C0 l r) (ha : a ≤ K.length) (hKl : K.length ≤ 195) (hop : 0 ≤ opn l) (hsz : 0 ≤ szs l) (hnt : -1 ≤ nts (hdl r)) :
    C_232 F (HU F K n0 C0 l r a N (xbh K a l r C)) m_no := by
  have hB' := hB
  obtain ⟨b1, b2, b3, b4, b5⟩ := hB'
  have hsh : (r = [] ∧ shp l = 0) ∨ (r ≠ [] ∧ (shp l = 1 ∨ shp l = 2)) := by
    obtain ⟨s1, q1, lo1, W1, h1, -⟩ := h.1
    exact h1.sh
  have ep : PH (l :: r) = pn1 (tms l) + pn1 (ads l) + pn1 (cps l) + PNs r := rfl
  have na := pn1_nat a
  refine s_232 hS hQ h ha hKl b4 (fun hp => ?_) (fun hn => ?_)
  · by_cases k1 : kn K a = 21
    · refine g_mul hS h hB k1 (fun F' hS' k2 k3 => ?_)
      unfold xbh xb2
      rw [if_pos k1]
      refine HU.one k3 k2 ?_
      show N + (ol (tms l)).length + (pn1 (a : Int) + pn1 (ads l) + pn1 (cps l) + 0 + PNs r) + a ≤ N + PH (l :: r) + (a + 1)
      rw [ol_pn]
      omega
    · by_cases k2 : kn K a = 19 ∨ kn K a = 20
      · refine g_add hS h hB k2 (fun F' hS' k3 k4 => ?_)
        unfold xbh xb2 xb3
        rw [if_neg k1, if_pos k2]
        refine HU.one k4 (by simp only [List.append_assoc] at k3 ⊢; exact k3) ?_
        show N + (ol (tms l) ++ ol (ads l)).length + (0 + pn1 (a : Int) + pn1 (cps l) + 0 + PNs r) + a ≤ N + PH (l :: r) + (a + 1)
        rw [List.length_append, ol_pn, ol_pn]
        omega
      · have h3 : rk (kn K a) = 1 ∧ cps l = -1 := by
          rcases hp with hp | hp
          · have := rk_hi hp
            omega
          · exact hp
        have k3 := rk_lo h3.1
        refine g_cmp hS h hB k3 h3.2 (fun F' hS' k4 k5 => ?_)
        unfold xbh xb2 xb3
        rw [if_neg k1, if_neg k2, if_pos h3.2, if_pos k3]
        refine HU.one k5 (by simp only [List.append_assoc] at k4 ⊢; exact k4) ?_
        show N + (ol (tms l) ++ ol (ads l)).length + (0 + 0 + pn1 (a : Int) + 0 + PNs r) + a ≤ N + PH (l :: r) + (a + 1)
        rw [List.length_append, ol_pn, ol_pn]
        omega
  · rw [xbh_no hn]
    refine g_112 hS h b1 b2 b3 b4 b5 (fun k1 k2 k3 F' hS' k4 k5 => ?_) (fun hc => ?_)
    · unfold xcl
      rw [if_neg (show ¬ shp l = 0 by omega), if_pos (show shp l = 2 from k3), if_pos k1]
      refine HU.one k5 k4 ?_
      show N + (pl l).length + (0 + 0 + PNs r) + a ≤ N + PH (l :: r) + (a + 1)
      rw [pl_pq]
      show N + pq l + (0 + 0 + PNs r) + a ≤ N + (pq l + PNs r) + (a + 1)
      omega
    · refine g_169 hS h b1 (by rcases hsh with ⟨x, -⟩ | ⟨-, x⟩; exact Or.inl x; exact Or.inr x) hop hsz b2 b3 b4 hnt b5 (fun k1 k2 F' hS' k4 k5 => ?_) (fun k1 => ?_) (fun k1 k2 => ?_)
      · have hs := (hsh.resolve_left (fun x => k2 x.1)).2
        have hb : N + ((pl l).length + (wd 16 (nts (hdl r))).length) + PH r + a ≤ N + PH (l :: r) + (a + 1) := by
          rw [pl_pq, wd_len]
          have := PH_PN r
          show N + (pq l + pn1 (nts (hdl r))) + PH r + a ≤ N + (pq l + PNs r) + (a + 1)
          omega
        unfold xcl
        rcases hs with hs | hs
        · rw [if_neg (show ¬ shp l = 0 by omega), if_neg (show ¬ shp l = 2 by omega), if_pos k1]
          refine HU.four k5 ?_ hb
          rw [if_pos hs] at k4
          rw [if_pos hs] at k4 ⊢
          exact k4
        · rw [if_neg (show ¬ shp l = 0 by omega), if_pos (show shp l = 2 from hs), if_neg (show ¬ kn K a = 14 by omega), if_pos k1]
          refine HU.four k5 ?_ hb
          rw [if_neg (show ¬ shp l = 1 by omega), if_neg (show ¬ shp l = 1 by omega)] at k4
          rw [if_neg (show ¬ shp l = 1 by omega)]
          have : (szs l + 1).toNat = (szs l).toNat + 1 := by omega
          show EHs F' K n0 C0 r (a + 1) _ (_ ++ [mk 15 (opn l).toNat (szs l + 1).toNat])
          rw [this]
          exact k4
      · have hs := (hsh.resolve_right (fun x => x.1 k1)).2
        unfold xcl
        rw [if_pos (show shp l = 0 from hs)]
        exact HU.three
      · have hs := (hsh.resolve_left (fun x => k1 x.1)).2
        unfold xcl
        by_cases e2 : shp l = 2
        · by_cases e14 : kn K a = 14
          · have := hc e14 k1
            omega
          · rw [if_neg (show ¬ shp l = 0 by omega), if_pos (show shp l = 2 from e2), if_neg e14, if_neg k2]
            exact HU.zero
        · rw [if_neg (show ¬ shp l = 0 by omega), if_neg (show ¬ shp l = 2 from e2), if_neg k2]
          exact HU.zero
end M91
