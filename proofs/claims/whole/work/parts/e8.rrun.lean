/-! RUNNING, OF THE REFERENCE: all -/
section Me8
variable {F G : MF} {X : Nat → List Int} {f j top : Nat} {x1 x2 x y : Int} {nn : Nat → Nat} {K : List Int}
theorem LKd.cg (h : LKd F X nn) (h1 : ∀ c, c ≠ 201 → c < 255 → G c = F c) (h2 : G 201 27 = F 201 27) : LKd G X nn := by
  have hN : ∀ c, 221 ≤ c → c ≤ 229 → G c = F c := fun c a b => h1 c (by omega) (by omega)
  refine ⟨RA.cong h.1 (fun c a b => h1 c a (by omega)) h2 h.1.hX, fun id hid => by rw [h1 253 (by decide) (by decide)]; exact h.2.1 id hid, fun f hf => ?_⟩
  obtain ⟨I, i1, i2⟩ := h.2.2 f hf
  exact ⟨I, ITs.cong hN (by rw [h1 245 (by decide) (by decide)]) i1, HIt.base hN _ _ (HIt.cong _ _ i2 (fun m _ _ => by rw [h1 254 (by decide) (by decide)]))⟩
/-- the function at a place among the items -/
theorem l_291 {R : Int → MF → Prop} (hS : St F) : ∀ (I : List IT) (x : Int) (c lo i : Nat), ItC F K top x c lo I (-1) → i ≤ lo → ((¬ ∃ j, j < (fnsO F c I).length ∧ x2 = ((i + j : Nat) : Int)) → R (-1) F) →
    (∀ (j cp lo' hi' : Nat) (it : IT), ItP F K cp lo' hi' it → it.2.1 = 2 → j < (fnsO F c I).length → x2 = ((i + j : Nat) : Int) → gx ((fnsO F c I).map (fun e => e.1)) j = (it.2.2.1 : Int) → R (it.1 : Int) F) → L_291_23 x2 (i : Int) x F R m_no
  | [], x, c, lo, i, h, _, h1, _ => by
    obtain rfl : x = -1 := h.1
    exact b_291_23 hS ⟨fun _ => h1 (fun ⟨j, hj, _⟩ => absurd hj (Nat.not_lt_zero j)), fun h => absurd rfl h⟩
  | it :: I, x, c, lo, i, ⟨hx, hi, hP, hr⟩, hl, h1, h2 => by
    subst hx
    have hP' := hP
    obtain ⟨q0, q1, q2, q3, q4⟩ := hP
    refine b_291_23 hS ⟨fun h => by omega, fun _ => ⟨by omega, ?_⟩⟩
    rw [Int.toNat_natCast]
    rcases q1 with ⟨a1, a2, -⟩ | ⟨a1, a2, -⟩
    · have e : fnsO F c (it :: I) = fnsO F (c + it.2.2.2.2.2.length) I := by
        show (if it.2.1 = 2 then _ else []) ++ _ = _
        rw [if_neg (by omega)]
        rfl
      rw [e] at h1 h2
      refine ⟨fun h => by omega, fun _ => ⟨by omega, ?_⟩⟩
      exact l_291 hS I _ _ _ i hr (by omega) h1 h2
    · have e : fnsO F c (it :: I) = ((it.2.2.1 : Int), (it.2.2.2.1 : Int), (c : Int), F 228 it.2.2.2.2.1) :: fnsO F (c + it.2.2.2.2.2.length) I := by
        show (if it.2.1 = 2 then _ else []) ++ _ = _
        rw [if_pos a1]
        rfl
      rw [e] at h1 h2
      refine ⟨fun _ => ⟨fun e2 => ?_, fun e2 => ⟨by omega, by omega, ?_⟩⟩, fun h => absurd a2 h⟩
      · exact h2 0 c lo hi it hP' a1 (by rw [List.length_cons]; omega) (by omega) rfl
      · rw [show (i : Int) + 1 = ((i + 1 : Nat) : Int) by omega]
        refine l_291 hS I _ _ _ (i + 1) hr (by omega) (fun h => h1 (fun ⟨j, hj, h4⟩ => ?_)) (fun j cp l' h' it' k1 k2 k3 k4 k5 => h2 (j + 1) cp l' h' it' k1 k2 (by rw [List.length_cons]; omega) (by omega) k5)
        cases j with
        | zero => omega
        | succ j => exact h ⟨j, by rw [List.length_cons] at hj; omega, by omega⟩
theorem s_291 (hS : St F) (hX : TxM F X) : C_291 x1 x2 F (fun r F' => (r = -1 ∧ F' = F ∧ ¬ (0 ≤ x1 ∧ x1 ≤ 2)) ∨ ∃ (f : Nat) (nn : Nat → Nat), x1 = (f : Int) ∧ f < 3 ∧ LKr F F' ∧ LKd F' X nn ∧
    ((r = -1 ∧ ¬ ∃ j, j < (Fw X f).length ∧ x2 = ((j : Nat) : Int)) ∨ ∃ (j cp lo hi : Nat) (it : IT), x2 = (j : Int) ∧ j < (Fw X f).length ∧ r = (it.1 : Int) ∧ ItP F' (ks X f) cp lo hi it ∧ it.2.1 = 2 ∧ gx ((Fw X f).map (fun e => e.1)) j = (it.2.2.1 : Int))) m_no := by
  have p204 : ∀ x : Int, p_204 F x ↔ 0 ≤ x ∧ x ≤ 2 := fun x => by show (¬ (x < 0) ∧ ¬ (2 < x)) ↔ _; omega
  refine c_291 hS ⟨fun h => ?_, fun h => Or.inl ⟨rfl, rfl, fun k => h ((p204 x1).mpr k)⟩⟩
  have h2 := (p204 x1).mp h
  obtain ⟨f, rfl⟩ : ∃ f : Nat, x1 = (f : Int) := ⟨x1.toNat, by omega⟩
  refine CaV.on (s_262 hS hX) ?_
  rintro F1 hS1 ⟨lk, nn, hK⟩
  rw [Int.toNat_natCast]
  refine ⟨by omega, ?_⟩
  obtain ⟨I, ⟨i1, i2, -, -⟩, -⟩ := hK.2.2 f (by omega)
  refine l_291 hS1 I _ _ _ 0 i1 (by omega) (fun h => ?_) (fun j cp lo hi it k1 k2 k3 k4 k5 => ?_)
  · rw [i2] at h
    refine Or.inr ⟨f, nn, rfl, by omega, lk, hK, Or.inl ⟨rfl, fun ⟨j, h3, h4⟩ => h ⟨j, h3, by omega⟩⟩⟩
  · rw [i2] at k3 k5
    exact Or.inr ⟨f, nn, rfl, by omega, lk, hK, Or.inr ⟨j, cp, lo, hi, it, by omega, k3, rfl, k1, k2, k5⟩⟩
/-- the token of the function at a place -/
def fnt (X : Nat → List Int) (f j : Nat) : Nat := (gx ((Fw X f).map (fun e => e.1)) j).toNat
theorem fnt_ok (hX : ∀ r, r < 24 → Rok (X r)) (hf : f < 3) (hj : j < (Fw X f).length) : fnt X f j < 192 ∧ fix' (Fw X f) ((fnt X f j : Nat) : Int) 0 ≠ -1 ∧ gx ((Fw X f).map (fun e => e.1)) j = ((fnt X f j : Nat) : Int) := by
  have he : (Fw X f)[j] ∈ Fw X f := List.getElem_mem hj
  obtain ⟨p, m, i, a1, a2, a3, a4, a5, a6, a7⟩ := Fw_tok hX hf he
  have e : gx ((Fw X f).map (fun e => e.1)) j = (p : Int) := by
    unfold gx
    rw [List.getD_eq_getElem?_getD, List.getElem?_map, List.getElem?_eq_getElem hj]
    exact a2
  have k0 := a7 0 (Nat.zero_le _)
  rw [show p + 2 * 0 = p by omega] at k0
  have hl := ks_len hX hf
  have hp : p < 192 := by
    rcases Nat.lt_or_ge p 192 with h | h
    · exact h
    · rw [kn_end (by omega)] at k0; omega
  have e2 : fnt X f j = p := by unfold fnt; rw [e, Int.toNat_natCast]
  rw [e2]
  exact ⟨hp, fix_mem _ _ _ ⟨_, he, a2⟩, e⟩
theorem s_290 (hS : St F) (hX : TxM F X) (hf : f < 3) (hj : j < (Fw X f).length) : C_290 (f : Int) (j : Int) x y F (fun z F' => (∃ F1 nn, LKr F F1 ∧ LKd F1 X nn ∧ frR (m_up F1 201 15 0) F') ∧ rrun X 1000000 (ren X (200 * f + fnt X f j) 2 [] [y, x] 0 0) = some z) m_no := by
  refine c_290 hS ?_
  refine CaI.on (s_291 hS hX) ?_
  rintro r F1 hS1 h
  rcases h with ⟨-, -, h⟩ | ⟨f', nn, e, hf', lk, hK, h⟩
  · exact absurd (by omega) h
  · obtain rfl : f' = f := by omega
    rcases h with ⟨-, h⟩ | ⟨j', cp, lo, hi, it, e1, e2, rfl, hP, h2, hg⟩
    · exact absurd ⟨j, hj, rfl⟩ h
    · obtain rfl : j' = j := by omega
      have hXX := hK.1.hX
      obtain ⟨v1, v2, v3⟩ := fnt_ok hXX hf' hj
      have q0 := hP.1
      have q1 : F1 222 it.1 = (it.2.2.1 : Int) := by
        rcases hP.2.1 with ⟨a1, -⟩ | ⟨a1, a2, a3, -⟩
        · omega
        · exact a3
      have q2 : it.2.2.1 = fnt X f' j' := by rw [v3] at hg; omega
      refine ⟨fun h => by omega, fun _ => ?_⟩
      obtain ⟨F0, e0⟩ : ∃ F0, F0 = m_up F1 201 15 0 := ⟨_, rfl⟩
      rw [← e0]
      have hS0 : St F0 := by rw [e0]; exact hS1.fld kd_201 rk_12_15
      have hK0 : LKd F0 X nn := hK.cg (fun c a _ => by rw [e0]; exact up_row a) (by rw [e0]; exact u_ne (Or.inr (by decide)))
      obtain ⟨F2, e2'⟩ : ∃ F2, F2 = m_up (m_up (m_up (m_up F0 201 82 0) 201 84 0) 201 87 0) 201 88 0 := ⟨_, rfl⟩
      rw [← e2']
      have hS2 : St F2 := by rw [e2']; exact (((hS0.fld kd_201 rk_12_82).fld kd_201 rk_12_84).fld kd_201 rk_12_87).fld kd_201 rk_12_88
      have hfr : frR F0 F2 := by rw [e2']; exact (((frR.rf.fl (by decide)).fl (by decide)).fl (by decide)).fl (by decide)
      have hR2 : RunM F2 ([], [], 0, 0) [] := by
        refine ⟨⟨?_, fun i hi => absurd hi (Nat.not_lt_zero i)⟩, ⟨?_, fun i hi => absurd hi (Nat.not_lt_zero i)⟩, ?_, ⟨?_, by decide⟩, trivial⟩
        · rw [e2', u_ne (Or.inr (by decide)), u_ne (Or.inr (by decide)), u_ne (Or.inr (by decide)), u_eq]; rfl
        · rw [e2', u_ne (Or.inr (by decide)), u_ne (Or.inr (by decide)), u_eq]; rfl
        · rw [e2', u_ne (Or.inr (by decide)), u_eq]; rfl
        · rw [e2', u_eq]; rfl
      refine CaV.on (s_279 hS2 hR2 (by decide)) ?_
      rintro F3 hS3 ⟨r3, f3⟩
      refine CaV.on (s_279 hS3 r3 (by show 1 < 2000; decide)) ?_
      rintro F4 hS4 ⟨r4, f4⟩
      have f04 := (hfr.tr f3).tr f4
      have e222 : F4 222 it.1 = ((fnt X f' j' : Nat) : Int) := by
        rw [f04.nd 222 (by decide) (by decide), e0, up_row (by decide), q1, q2]
      rw [Int.toNat_natCast, e222]
      refine ⟨by omega, by omega, by omega, ?_⟩
      rw [show 200 * (f' : Int) + ((fnt X f' j' : Nat) : Int) = ((200 * f' + fnt X f' j' : Nat) : Int) by omega]
      have hv1 : (200 * f' + fnt X f' j') / 200 = f' := by omega
      have hv2 : (200 * f' + fnt X f' j') % 200 = fnt X f' j' := by omega
      have hx : fix' (Fw X ((200 * f' + fnt X f' j') / 200)) (((200 * f' + fnt X f' j') % 200 : Nat) : Int) 0 ≠ -1 := by rw [hv1, hv2]; exact v2
      have hv : 200 * f' + fnt X f' j' < 600 := by omega
      revert hx hv
      generalize 200 * f' + fnt X f' j' = v
      intro hx hv
      refine CaV.on (s_287 (k := 2) hK0 hS4 f04 r4 hv hx (Nat.le_refl 2) (by show 2 ≤ 800; decide) (by show 0 < 4; decide) (by show 0 + 2 < 4000; decide)) ?_
      rintro F5 hS5 ⟨it', cp', lo', hi', p1, p2, p3, p4, p5, p6⟩
      subst p4
      refine FRM_of hK0 4 (by decide) (v / 200) it' (fstp X v) lo' hi' F5 (argS (v % 200) (min (ppar X v).toNat 2) (([y, x] : List Int).take 2).reverse) [] [] 0 0 [] _ (by omega) p1 p2 p3 rfl hS5 (f04.tr p6) p5 (Nat.zero_le _) (Nat.zero_le _) ?_
      intro F' s' x' m hS' fr' hR' hm hc _
      have hs' : s' ≤ 200 := hR'.2.2.2.1.2
      have t82 : F' 201 82 = 0 := hR'.1.1
      have t0 : F' 259 0 = x' := hR'.2.1.2 0 (by show 0 < 1; decide)
      refine b_290_83 hS' ⟨fun h => by omega, fun _ => ?_⟩
      rw [show (0 : Int).toNat = 0 from rfl, t0]
      exact ⟨⟨F1, nn, lk, hK, by rw [← e0]; exact fr'⟩, rrun_of m _ 1000000 hm (by omega)⟩
end Me8
