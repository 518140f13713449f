/-! A FUNCTION OF ONE ROW OF STATEMENTS: isNamed -/
section Mqc
variable {F F1 : MF} {x y ty kd fi : Int} {z n i j : Nat} {g0 g1 e t r : Nat → Int}
theorem chk_4 (h : kd = 4) : chk kd fi e = [(fi + 3, e 0), (fi + 1, fi + 1)] := by unfold chk; rw [if_pos h]
theorem chk_5 (h : kd = 5 ∨ kd = 20) : chk kd fi e = [(fi + 1, fi + 1)] := by unfold chk; rw [if_neg (by omega), if_pos h]
theorem chk_6 (h : kd = 6 ∨ kd = 8) : chk kd fi e = [(fi + 1, e 0)] := by unfold chk; rw [if_neg (by omega), if_neg (by omega), if_pos h]
theorem chk_7 (h : kd = 7) : chk kd fi e = [(fi + 1, e 1)] := by unfold chk; rw [if_neg (by omega), if_neg (by omega), if_neg (by omega), if_pos h]
theorem chk_10 (h : kd = 10) : chk kd fi e = [(fi, e 0), (fi + 2, e 0)] := by unfold chk; rw [if_neg (by omega), if_neg (by omega), if_neg (by omega), if_neg (by omega), if_pos h]
theorem chk_16 (h : kd = 16) : chk kd fi e = [(fi + 1, e 0), (fi + 3, e 1)] := by unfold chk; rw [if_neg (by omega), if_neg (by omega), if_neg (by omega), if_neg (by omega), if_neg (by omega), if_pos h]
theorem s_215 (hn : n < 8) (h : NR g0 g1 z e t r F) (hk : F 209 n = kd) (hfi : F 209 (8 + n) = fi) (hf : 0 ≤ fi ∧ fi < 50) (he : 0 ≤ e 0 ∧ e 0 < 60) (he1 : e 1 < 60) (hr : 0 ≤ r 2 ∧ r 2 < 500)
    (hb : ∀ c ∈ chk kd fi e, isTk (XZ z 8) 0 c.1 ∧ aBn (XZ z 8) 0 c.1 = c.2) :
    C_215 209 210 211 212 (n : Int) F (fun v F' => v = 1 ∧ NR g0 g1 z (ene kd n (nmt kd fi e t r).1) (nmt kd fi e t r).2.1 (nmt kd fi e t r).2.2 F') m_no := by
  refine c_215 kd_209 kd_210 kd_211 kd_212 h.1.1 ?_
  rw [show (8 + (n : Int)).toNat = 8 + n by omega, Int.toNat_natCast, hk, hfi, show (0 : Int).toNat = 0 from rfl, show (1 : Int).toNat = 1 from rfl, show (2 : Int).toNat = 2 from rfl, show (3 : Int).toNat = 3 from rfl, h.2.1]
  have fin : ∀ (F2 : MF) (w : (Nat → Int) × RT2), w = nmt kd fi e t r → NR g0 g1 z w.1 w.2.1 w.2.2 F2 → L_215_486 210 (n : Int) kd 1 F2 (fun v F' => v = 1 ∧ NR g0 g1 z (ene kd n (nmt kd fi e t r).1) (nmt kd fi e t r).2.1 (nmt kd fi e t r).2.2 F') m_no := fun F2 w hw h2 => by
    rw [← hw]
    exact l_486 hn h2
  have hrr : 0 ≤ r 2 ∧ r 2 < 1000 := ⟨hr.1, by omega⟩
  refine ⟨⟨by omega, by omega⟩, ⟨by omega, by omega⟩, ⟨by omega, by omega⟩, fun k4 => ?_, fun k4 => ⟨fun k5 => ?_, fun k5 => ⟨fun k20 => ?_, fun k20 => ⟨fun k6 => ?_, fun k6 => ⟨fun k7 => ?_, fun k7 => ⟨fun k10 => ?_, fun k10 => ⟨fun k16 => ?_, fun k16 => ⟨fun k8 => ?_, fun k8 => ?_⟩⟩⟩⟩⟩⟩⟩⟩
  · rw [chk_4 k4] at hb
    refine ⟨⟨by omega, by omega⟩, by decide, CaI.on (n_211 h (hb _ List.mem_cons_self)) ?_⟩
    rintro v F2 hS2 ⟨v1, h2⟩
    refine ⟨fun v0 => by omega, fun _ => ⟨⟨by omega, by omega⟩, ⟨by omega, by omega⟩, CaI.on (n_211 h2 (hb _ (List.mem_cons_of_mem _ List.mem_cons_self))) ?_⟩⟩
    rintro v2 F3 hS3 ⟨v3, h3⟩
    refine ⟨fun v0 => by omega, fun _ => ⟨by decide, ?_⟩⟩
    rw [h3.2.1]
    refine CaV.on (n_213 h3 he.2 hrr) ?_
    intro F4 hS4 h4
    refine ⟨⟨by omega, by omega⟩, by decide, ⟨by omega, by omega⟩, ⟨by omega, by omega⟩, fin _ (vup e 1 (fi + 1), (vup (ty213 t r (e 0)).1 (fi + 1).toNat 1, (ty213 t r (e 0)).2)) ?_ h4.et⟩
    unfold nmt
    rw [if_pos k4]
  · rw [chk_5 (Or.inl k5)] at hb
    refine b_215_99 kd_210 kd_211 h.1.1 ⟨⟨by omega, by omega⟩, ⟨by omega, by omega⟩, CaI.on (n_211 h (hb _ List.mem_cons_self)) ?_⟩
    rintro v F2 hS2 ⟨v1, h2⟩
    rw [show (0 : Int).toNat = 0 from rfl, show (1 : Int).toNat = 1 from rfl, v1]
    refine ⟨fun _ => ⟨⟨by omega, by omega⟩, by decide, ⟨by omega, by omega⟩, ⟨by omega, by omega⟩, fin _ (vup e 0 (fi + 1), (vup t (fi + 1).toNat 1, r)) ?_ h2.et⟩, fun k => absurd k5 k⟩
    unfold nmt
    rw [if_neg k4, if_pos k5]
  · rw [chk_5 (Or.inr k20)] at hb
    refine b_215_99 kd_210 kd_211 h.1.1 ⟨⟨by omega, by omega⟩, ⟨by omega, by omega⟩, CaI.on (n_211 h (hb _ List.mem_cons_self)) ?_⟩
    rintro v F2 hS2 ⟨v1, h2⟩
    rw [show (0 : Int).toNat = 0 from rfl, show (1 : Int).toNat = 1 from rfl, v1]
    refine ⟨fun k => absurd k k5, fun _ => ⟨⟨by omega, by omega⟩, by decide, ⟨by omega, by omega⟩, ⟨by omega, by omega⟩, fin _ (vup e 1 (fi + 1), (vup t (fi + 1).toNat 2, r)) ?_ h2.et⟩⟩
    unfold nmt
    rw [if_neg k4, if_neg k5, if_pos k20]
  · rw [chk_6 (Or.inl k6)] at hb
    refine ⟨⟨by omega, by omega⟩, by decide, CaI.on (n_211 h (hb _ List.mem_cons_self)) ?_⟩
    rintro v F2 hS2 ⟨v1, h2⟩
    have en : ∀ w, w = (if e 0 = 3 ∧ t 3 = 0 ∧ r 0 = 0 then (t, vup r 1 1) else if e 0 = 3 ∧ t 3 = 0 then (vup t 3 (r 0), r) else ty214 t r (t (e 0).toNat)) → (e, w) = nmt kd fi e t r := fun w hw => by
      rw [hw]
      unfold nmt
      rw [if_neg k4, if_neg k5, if_neg k20, if_pos k6]
    have l198 : ¬ (e 0 = 3 ∧ t 3 = 0 ∧ r 0 = 0) → L_215_198 210 211 212 (n : Int) kd 1 F2 (fun v F' => v = 1 ∧ NR g0 g1 z (ene kd n (nmt kd fi e t r).1) (nmt kd fi e t r).2.1 (nmt kd fi e t r).2.2 F') m_no := fun hno => by
      refine b_215_198 kd_210 kd_211 kd_212 h2.1.1 ?_
      rw [show (0 : Int).toNat = 0 from rfl, show (3 : Int).toNat = 3 from rfl, h2.2.1, h2.2.2.1, h2.2.2.2]
      refine ⟨by decide, fun e3 => ⟨by decide, fun t3 => ⟨by decide, by decide, ?_⟩, fun t3 => ⟨by decide, ⟨by omega, by omega⟩, CaV.on (n_214 h2 hrr) (fun F3 hS3 h3 => fin _ (e, ty214 t r (t (e 0).toNat)) (en _ ?_) h3)⟩⟩, fun e3 => ⟨by decide, ⟨by omega, by omega⟩, CaV.on (n_214 h2 hrr) (fun F3 hS3 h3 => fin _ (e, ty214 t r (t (e 0).toNat)) (en _ ?_) h3)⟩⟩
      · refine fin _ (e, (vup t 3 (r 0), r)) (en _ (by rw [if_neg hno, if_pos ⟨e3, t3⟩])) ?_
        refine ⟨h2.1.upd3 (St.arr h2.1.1 kd_211 (by decide)) (fun c _ h1 _ => up_row h1), ?_, ?_, ?_⟩
        · rw [up_row (by decide)]; exact h2.2.1
        · rw [m_upv, h2.2.2.1]
        · rw [up_row (by decide)]; exact h2.2.2.2
      · rw [if_neg hno, if_neg (fun h => t3 h.2)]
      · rw [if_neg hno, if_neg (fun h => e3 h.1)]
    rw [v1, h2.2.1, h2.2.2.1, h2.2.2.2]
    refine ⟨by decide, fun e3 => ⟨by decide, fun t3 => ⟨by decide, fun r0 => ⟨by decide, ?_⟩, fun r0 => l198 (fun h => r0 h.2.2)⟩, fun t3 => l198 (fun h => t3 h.2.1)⟩, fun e3 => l198 (fun h => e3 h.1)⟩
    refine fin _ (e, (t, vup r 1 1)) (en _ (by rw [if_pos ⟨e3, t3, r0⟩])) ?_
    refine ⟨h2.1.upd3 (St.arr h2.1.1 kd_212 (by decide)) (fun c _ _ h1 => up_row h1), ?_, ?_, ?_⟩
    · rw [up_row (by decide)]; exact h2.2.1
    · rw [up_row (by decide)]; exact h2.2.2.1
    · rw [m_upv, h2.2.2.2]
  · rw [chk_7 k7] at hb
    refine ⟨⟨by omega, by omega⟩, by decide, CaI.on (n_211 h (hb _ List.mem_cons_self)) ?_⟩
    rintro v F2 hS2 ⟨v1, h2⟩
    rw [h2.2.1, v1]
    refine ⟨by decide, CaV.on (n_213 h2 he1 hrr) (fun F3 hS3 h3 => CaV.on (n_214 h3 ?_) (fun F4 hS4 h4 => fin _ (e, ty214 (ty213 t r (e 1)).1 (ty213 t r (e 1)).2 1) ?_ h4))⟩
    · have := r2_213 (t := t) (r := r) (x := e 1)
      omega
    · unfold nmt
      rw [if_neg k4, if_neg k5, if_neg k20, if_neg k6, if_pos k7]
  · rw [chk_10 k10] at hb
    refine ⟨by decide, CaI.on (n_211 h (hb _ List.mem_cons_self)) ?_⟩
    rintro v F2 hS2 ⟨v1, h2⟩
    rw [h2.2.1]
    refine ⟨fun v0 => by omega, fun _ => ⟨⟨by omega, by omega⟩, by decide, CaI.on (n_211 h2 (hb _ (List.mem_cons_of_mem _ List.mem_cons_self))) ?_⟩⟩
    rintro v2 F3 hS3 ⟨v3, h3⟩
    rw [h3.2.1]
    refine ⟨fun v0 => by omega, fun _ => ⟨by decide, CaV.on (n_213 h3 he.2 hrr) ?_⟩⟩
    intro F4 hS4 h4
    have b2 := r2_213 (t := t) (r := r) (x := e 0)
    have en : nmt kd fi e t r = (e, ((ty213 t r (e 0)).1, vup (ty213 t r (e 0)).2 2 ((ty213 t r (e 0)).2 2 + (if (ty213 t r (e 0)).1 (e 0).toNat = 2 then 1 else 0)))) := by
      unfold nmt
      rw [if_neg k4, if_neg k5, if_neg k20, if_neg k6, if_neg k7, if_pos k10]
    rw [h4.2.1, h4.2.2.1, h4.2.2.2]
    have nx : ∀ a : Int, NR g0 g1 z e (ty213 t r (e 0)).1 (vup (ty213 t r (e 0)).2 2 a) (m_up F4 212 2 a) := fun a => by
      refine ⟨h4.1.upd3 (St.arr h4.1.1 kd_212 (by decide)) (fun c _ _ h1 => up_row h1), ?_, ?_, ?_⟩
      · rw [up_row (by decide)]; exact h4.2.1
      · rw [up_row (by decide)]; exact h4.2.2.1
      · rw [m_upv, h4.2.2.2]
    refine ⟨by decide, by decide, ⟨by omega, by omega⟩, fun t2 => ⟨⟨by omega, by omega⟩, by decide, fin _ (e, ((ty213 t r (e 0)).1, vup (ty213 t r (e 0)).2 2 ((ty213 t r (e 0)).2 2 + 1))) ?_ (nx _)⟩, fun t2 => ⟨⟨by omega, by omega⟩, by decide, fin _ (e, ((ty213 t r (e 0)).1, vup (ty213 t r (e 0)).2 2 ((ty213 t r (e 0)).2 2 + 0))) ?_ (nx _)⟩⟩
    · rw [en, if_pos t2]
    · rw [en, if_neg t2]
  · rw [chk_16 k16] at hb
    refine ⟨⟨by omega, by omega⟩, by decide, CaI.on (n_211 h (hb _ List.mem_cons_self)) ?_⟩
    rintro v F2 hS2 ⟨v1, h2⟩
    rw [h2.2.1]
    refine ⟨fun v0 => by omega, fun _ => ⟨⟨by omega, by omega⟩, by decide, CaI.on (n_211 h2 (hb _ (List.mem_cons_of_mem _ List.mem_cons_self))) ?_⟩⟩
    rintro v2 F3 hS3 ⟨v3, h3⟩
    have en : nmt kd fi e t r = (e, if e 1 < 0 then ty214 t r 2 else if t (e 0).toNat = 0 then ty214 (ty212 t r (e 0) (t (e 1).toNat)).1 (ty212 t r (e 0) (t (e 1).toNat)).2 2 else if t (e 1).toNat = t (e 0).toNat then ty214 t r 2 else ty214 t (vup r 2 (r 2 + 1)) 2) := by
      unfold nmt
      rw [if_neg k4, if_neg k5, if_neg k20, if_neg k6, if_neg k7, if_neg k10, if_pos k16]
    have l420 : (¬ e 1 < 0 → ¬ t (e 0).toNat = 0) → L_215_420 210 211 212 (n : Int) kd 1 F3 (fun v F' => v = 1 ∧ NR g0 g1 z (ene kd n (nmt kd fi e t r).1) (nmt kd fi e t r).2.1 (nmt kd fi e t r).2.2 F') m_no := fun hno => by
      refine b_215_420 kd_210 kd_211 kd_212 h3.1.1 ?_
      rw [show (0 : Int).toNat = 0 from rfl, show (1 : Int).toNat = 1 from rfl, show (2 : Int).toNat = 2 from rfl, h3.2.1, h3.2.2.1, h3.2.2.2]
      refine ⟨by decide, fun e1 => CaV.on (n_214 h3 hrr) (fun F4 hS4 h4 => fin _ (e, ty214 t r 2) ?_ h4), fun e1 => ⟨by decide, ⟨by omega, by omega⟩, by decide, ⟨by omega, by omega⟩, fun q => CaV.on (n_214 h3 hrr) (fun F4 hS4 h4 => fin _ (e, ty214 t r 2) ?_ h4), fun q => ⟨by decide, ⟨by omega, by omega⟩, by decide, ?_⟩⟩⟩
      · rw [en, if_pos e1]
      · rw [en, if_neg e1, if_neg (hno e1), if_pos q]
      · have h5 : NR g0 g1 z e t (vup r 2 (r 2 + 1)) (m_up F3 212 2 (r 2 + 1)) := by
          refine ⟨h3.1.upd3 (St.arr h3.1.1 kd_212 (by decide)) (fun c _ _ h1 => up_row h1), ?_, ?_, ?_⟩
          · rw [up_row (by decide)]; exact h3.2.1
          · rw [up_row (by decide)]; exact h3.2.2.1
          · rw [m_upv, h3.2.2.2]
        have h6 : vup r 2 (r 2 + 1) 2 = r 2 + 1 := if_pos rfl
        refine CaV.on (n_214 h5 (by rw [h6]; omega)) (fun F4 hS4 h4 => fin _ (e, ty214 t (vup r 2 (r 2 + 1)) 2) ?_ h4)
        rw [en, if_neg e1, if_neg (hno e1), if_neg q]
    rw [h3.2.1, h3.2.2.1]
    refine ⟨fun v0 => by omega, fun _ => ⟨by decide, fun e1 => l420 (fun hh => absurd e1 hh), fun e1 => ⟨by decide, ⟨by omega, by omega⟩, fun t0 => ⟨by decide, by decide, ⟨by omega, by omega⟩, CaV.on (n_212 h3 he) (fun F4 hS4 h4 => CaV.on (n_214 h4 (by rw [r2_212]; exact hrr)) (fun F5 hS5 h5 => fin _ (e, ty214 (ty212 t r (e 0) (t (e 1).toNat)).1 (ty212 t r (e 0) (t (e 1).toNat)).2 2) ?_ h5))⟩, fun t0 => l420 (fun _ => t0)⟩⟩⟩
    rw [en, if_neg e1, if_pos t0]
  · rw [chk_6 (Or.inr k8)] at hb
    refine ⟨⟨by omega, by omega⟩, by decide, CaI.on (n_211 h (hb _ List.mem_cons_self)) ?_⟩
    rintro v F2 hS2 ⟨v1, h2⟩
    rw [h2.2.1, v1]
    refine ⟨by decide, CaV.on (n_213 h2 he.2 hrr) (fun F3 hS3 h3 => fin _ (e, ty213 t r (e 0)) ?_ h3)⟩
    unfold nmt
    rw [if_neg k4, if_neg k5, if_neg k20, if_neg k6, if_neg k7, if_neg k10, if_neg k16, if_pos k8]
  · refine fin _ (e, (t, r)) ?_ h
    unfold nmt
    rw [if_neg k4, if_neg k5, if_neg k20, if_neg k6, if_neg k7, if_neg k10, if_neg k16, if_neg k8]
end Mqc
