/-! RUNNING, OF THE REFERENCE: statements -/
/-- the tasks of a function: T those below it, fn its node, rr the rows that wait, the uppermost first -/
def rQ (T : List Int) (fn : Nat) (rr : List Int) : List Int := T ++ [tcd 9 fn] ++ rr.reverse
def rOK (rr : List Int) : Prop := ∀ x ∈ rr, ∃ u : Nat, u < 1600 ∧ x = tcd 0 u
/-- where all steps are taken, the function is left -/
def RDE (X : Nat → List Int) (f : Nat) (r : List RuF) (vs : List Int) (c : Nat) : Prop := ∀ (g : Nat → Int) (res : Int), ∃ m, rsn X m ((f, c, g) :: r, vs, 200, res) = some (r, 0 :: vs, 200, 0) ∧ m + c ≤ (Cw X f).length + 1
section Me4
variable {F F0 G H : MF} {X : Nat → List Int} {f p k v u t c dp d lo hi e o fn q : Nat} {g : Nat → Int} {r fs : List RuF} {vs vs' T T' rr : List Int} {s : Nat} {res a b x w : Int} {S : RuS} {nn : Nat → Nat} {W W1 W2 : List Int} {R : Int → MF → Prop}
theorem rQ_cons : rQ T fn (x :: rr) = rQ T fn rr ++ [x] := by
  unfold rQ
  rw [List.reverse_cons, ← List.append_assoc]
theorem rQ_tsk {un : Int} : rQ T fn rr ++ tsk 0 un = rQ T fn (tsk 0 un ++ rr) := by
  unfold tsk
  split
  · rw [List.append_nil, List.nil_append]
  · exact rQ_cons.symm
theorem rQ_len : (rQ T fn rr).length = T.length + 1 + rr.length := by
  unfold rQ
  rw [List.length_append, List.length_append, List.length_singleton, List.length_reverse]
theorem tsk_len {h : Nat} {un : Int} : (tsk h un).length ≤ 1 := by
  unfold tsk
  split
  · exact Nat.zero_le _
  · exact Nat.le_refl _
theorem rOK_tk {un : Int} (h : rOK rr) (hu : un = -1 ∨ (0 ≤ un ∧ un < 1600)) : rOK (tsk 0 un ++ rr) := fun x hx => by
  rcases List.mem_append.mp hx with k | k
  · unfold tsk at k
    split at k
    · exact absurd k (List.not_mem_nil)
    · rw [List.mem_singleton] at k
      exact ⟨un.toNat, by omega, by rw [k]; unfold tcd; omega⟩
  · exact h x k
theorem rswN (ho : o = 1 ∨ o = 2 ∨ o = 3 ∨ o = 4 ∨ o = 13) : rsw X (mk o p e) f c g r vs s res = rgo f (c + 1) g r vs s res := by
  unfold rsw
  rw [wo_mk (by omega), if_neg (by omega), if_neg (by omega), if_neg (by omega), if_neg (by omega), if_neg (by omega), if_neg (by omega), if_neg (by omega), if_neg (by omega), if_neg (by omega), if_neg (by omega), if_neg (by omega)]
theorem rsw6 : rsw X (mk 6 p e) f c g r vs s res = if 200 ≤ s then rlv 0 r vs s else rgo f (c + 1) g r vs (s + 1) res := by
  unfold rsw
  rw [wo_mk (by decide), if_neg (by decide), if_neg (by decide), if_neg (by decide), if_neg (by decide), if_neg (by decide), if_pos (by decide)]
theorem rsw5d : rsw X (mk 5 p e) f c g r vs s res = rlv 0 r vs s := by
  unfold rsw
  rw [wo_mk (by decide), if_neg (by decide), if_neg (by decide), if_neg (by decide), if_neg (by decide), if_pos (by decide)]
theorem rsw78 (ho : o = 7 ∨ o = 8) (hp : p < 256) : rsw X (mk o p e) f c g r (a :: vs) s res = rgo f (c + 1) (if bnd X (200 * f + p) = -1 then g else fun x => if x = (bnd X (200 * f + p)).toNat % 200 then a else g x) r vs s res := by
  unfold rsw
  rw [wo_mk (by omega), wt_mk (by omega) hp, Int.toNat_natCast, if_neg (by omega), if_neg (by omega), if_neg (by omega), if_neg (by omega), if_neg (by omega), if_neg (by omega), if_pos (by omega)]
theorem rsw9 : rsw X (mk 9 p e) f c g r (a :: vs) s res = rgo f (c + 1) g r vs s res := by
  unfold rsw
  rw [wo_mk (by decide), if_neg (by decide), if_neg (by decide), if_neg (by decide), if_neg (by decide), if_neg (by decide), if_neg (by decide), if_neg (by decide), if_pos (by decide)]
theorem rsw10 : rsw X (mk 10 p e) f c g r (a :: vs) s res = rlv a r vs s := by
  unfold rsw
  rw [wo_mk (by decide), if_neg (by decide), if_neg (by decide), if_neg (by decide), if_neg (by decide), if_neg (by decide), if_neg (by decide), if_neg (by decide), if_neg (by decide), if_pos (by decide)]
theorem rsw11 (hp : p < 256) : rsw X (mk 11 p e) f c g r (a :: vs) s res = rgo f (if a = 0 then e else c + 1) g r vs s res := by
  unfold rsw
  rw [wo_mk (by decide), we_mk (by decide) hp, Int.toNat_natCast, if_neg (by decide), if_neg (by decide), if_neg (by decide), if_neg (by decide), if_neg (by decide), if_neg (by decide), if_neg (by decide), if_neg (by decide), if_neg (by decide), if_pos (by decide)]
theorem rsw12 (hp : p < 256) : rsw X (mk 12 p e) f c g r vs s res = rgo f e g r vs s res := by
  unfold rsw
  rw [wo_mk (by decide), we_mk (by decide) hp, Int.toNat_natCast, if_neg (by decide), if_neg (by decide), if_neg (by decide), if_neg (by decide), if_neg (by decide), if_neg (by decide), if_neg (by decide), if_neg (by decide), if_neg (by decide), if_neg (by decide), if_pos (by decide)]
theorem rlv_ok (h : vs.length < 800) : rlv x r vs s = some (r, x :: vs, s, x) := if_pos h
theorem RDE.no (hw : wrd X f c = mk o p e) (ho : o = 1 ∨ o = 2 ∨ o = 3 ∨ o = 4 ∨ o = 13) (hl : vs.length < 800) (h : RDE X f r vs (c + 1)) : RDE X f r vs c := fun g res => by
  obtain ⟨m, h1, h2⟩ := h g res
  refine ⟨1 + m, rsn_app 1 _ (rsn_one ?_) h1, by omega⟩
  rw [rst_at hw, rswN ho, rgo_ok (by omega)]
theorem RDE.st (hw : wrd X f c = mk 6 p e) (hc : c ≤ (Cw X f).length) (hl : vs.length < 800) : RDE X f r vs c := fun g res => by
  refine ⟨1, rsn_one ?_, by omega⟩
  rw [rst_at hw, rsw6, if_pos (by decide), rlv_ok hl]
theorem RDE.dn (hw : wrd X f c = mk 5 p e) (hc : c ≤ (Cw X f).length) (hl : vs.length < 800) : RDE X f r vs c := fun g res => by
  refine ⟨1, rsn_one ?_, by omega⟩
  rw [rst_at hw, rsw5d, rlv_ok hl]
theorem RDE.jp (hw : wrd X f c = mk 12 p e) (hp : p < 256) (hc : c < e) (hl : vs.length < 800) (h : RDE X f r vs e) : RDE X f r vs c := fun g res => by
  obtain ⟨m, h1, h2⟩ := h g res
  refine ⟨1 + m, rsn_app 1 _ (rsn_one ?_) h1, by omega⟩
  rw [rst_at hw, rsw12 hp, rgo_ok (by omega)]
theorem wat_hd (h : Wat X f c (w :: W)) : wrd X f c = w ∧ gx (Cw X f) c = w ∧ c < (Cw X f).length ∧ Wat X f (c + 1) W := by
  have := h.1
  rw [List.length_cons] at this
  exact ⟨wrd_at h, h.cons.1, by omega, h.cons.2⟩
theorem d289_0 {R : MF → Prop} (hS : St F) (h : C_283 (u : Int) F R m_no) : C_289 ((0 : Nat) : Int) (u : Int) F R m_no := c_289 hS ⟨fun _ => h, fun h => absurd rfl h⟩
theorem d289s {R : MF → Prop} {y : Int} (hS : St F) :
    (∀ k : Nat, k = 4 → C_280 F (fun r61 F58 => (o_282 F58 y) ∧ (0 ≤ (g_282 F58 y) ∧ (g_282 F58 y) < 600) ∧ (((F58 253 (g_282 F58 y).toNat) = (-1) → R F58) ∧ (¬ ((F58 253 (g_282 F58 y).toNat) = (-1)) → (o_281 F58 (F58 253 (g_282 F58 y).toNat)) ∧ (0 ≤ (g_281 F58 (F58 253 (g_282 F58 y).toNat)) ∧ (g_281 F58 (F58 253 (g_282 F58 y).toNat)) < 2400) ∧ R (m_up F58 260 (g_281 F58 (F58 253 (g_282 F58 y).toNat)).toNat r61)))) m_no → C_289 (k : Int) y F R m_no) ∧
    (∀ k : Nat, k = 5 → C_280 F (fun r57 F54 => R F54) m_no → C_289 (k : Int) y F R m_no) ∧ (∀ k : Nat, k = 6 → L_289_148 F R m_no → C_289 (k : Int) y F R m_no) ∧
    (∀ k : Nat, k = 7 → C_280 F (fun r31 F28 => (((if r31 < 0 then (-1 : Int) else if r31 = 0 then 0 else 1) = 0 → (0 ≤ y ∧ y < 1600) ∧ (((F28 226 y.toNat) = (-1) → C_278 0 (-1) F28 (fun F40 => R F40) m_no) ∧ (¬ ((F28 226 y.toNat) = (-1)) → (0 ≤ (F28 226 y.toNat) ∧ (F28 226 y.toNat) < 1600) ∧ C_278 0 (F28 224 (F28 226 y.toNat).toNat) F28 (fun F36 => R F36) m_no))) ∧ (¬ ((if r31 < 0 then (-1 : Int) else if r31 = 0 then 0 else 1) = 0) → (0 ≤ y ∧ y < 1600) ∧ (((F28 225 y.toNat) = (-1) → C_278 0 (-1) F28 (fun F50 => R F50) m_no) ∧ (¬ ((F28 225 y.toNat) = (-1)) → (0 ≤ (F28 225 y.toNat) ∧ (F28 225 y.toNat) < 1600) ∧ C_278 0 (F28 224 (F28 225 y.toNat).toNat) F28 (fun F46 => R F46) m_no))))) m_no → C_289 (k : Int) y F R m_no) ∧
    (∀ k : Nat, k = 9 → C_279 0 F (fun F19 => (-2147483648 ≤ ((F19 201 87) - 1) ∧ ((F19 201 87) - 1) < 2147483648) ∧ R (m_up F19 201 87 ((F19 201 87) - 1))) m_no → C_289 (k : Int) y F R m_no) := by
  refine ⟨fun k hk h => ?_, fun k hk h => ?_, fun k hk h => ?_, fun k hk h => ?_, fun k hk h => ?_⟩
  · exact c_289 hS ⟨fun h => by omega, fun _ => ⟨fun h => by omega, fun _ => ⟨fun h => by omega, fun _ => ⟨fun h => by omega, fun _ => ⟨fun _ => h, fun h => by omega⟩⟩⟩⟩⟩
  · exact c_289 hS ⟨fun h => by omega, fun _ => ⟨fun h => by omega, fun _ => ⟨fun h => by omega, fun _ => ⟨fun h => by omega, fun _ => ⟨fun h => by omega, fun _ => ⟨fun _ => h, fun h => by omega⟩⟩⟩⟩⟩⟩
  · exact c_289 hS ⟨fun h => by omega, fun _ => ⟨fun h => by omega, fun _ => ⟨fun h => by omega, fun _ => ⟨fun h => by omega, fun _ => ⟨fun h => by omega, fun _ => ⟨fun h => by omega, fun _ => ⟨fun _ => h, fun h => by omega⟩⟩⟩⟩⟩⟩⟩
  · exact c_289 hS ⟨fun h => by omega, fun _ => ⟨fun h => by omega, fun _ => ⟨fun h => by omega, fun _ => ⟨fun h => by omega, fun _ => ⟨fun h => by omega, fun _ => ⟨fun h => by omega, fun _ => ⟨fun h => by omega, fun _ => ⟨fun _ => h, fun h => by omega⟩⟩⟩⟩⟩⟩⟩⟩
  · exact c_289 hS ⟨fun h => by omega, fun _ => ⟨fun h => by omega, fun _ => ⟨fun h => by omega, fun _ => ⟨fun h => by omega, fun _ => ⟨fun h => by omega, fun _ => ⟨fun h => by omega, fun _ => ⟨fun h => by omega, fun _ => ⟨fun h => by omega, fun _ => ⟨fun h => by omega, fun _ => h⟩⟩⟩⟩⟩⟩⟩⟩⟩
theorem RunM.out {res' : Int} (h : RunM F ((f, c, g) :: r, vs, s, res) T) : RunM (m_up F 201 87 ((F 201 87) - 1)) (r, vs, s, res') T := by
  obtain ⟨⟨k1, k2⟩, ⟨k3, k3a⟩, k4, ⟨k5, k5a⟩, t1, t2, t3, t4⟩ := h
  change F 201 87 = ((r.length + 1 : Nat) : Int) at k4
  exact ⟨⟨by rw [u_ne (Or.inr (by decide))]; exact k1, by rw [up_row (by decide)]; exact k2⟩, ⟨by rw [u_ne (Or.inr (by decide))]; exact k3, by rw [up_row (by decide)]; exact k3a⟩, by rw [u_eq, k4]; show ((r.length + 1 : Nat) : Int) - 1 = (r.length : Int); omega, ⟨by rw [u_ne (Or.inr (by decide))]; exact k5, k5a⟩, frM.cong r t4 (fun i _ => u_ne (Or.inl (by decide))) (fun i _ => u_ne (Or.inl (by decide)))⟩
/-- all steps are taken: what waits is let go -/
theorem runw (hr : r.length < 4) (hvs : vs.length < 1999) : ∀ (rr : List Int) (F : MF), rOK rr → T.length + 1 + rr.length ≤ 4000 → fn < 1600 → St F → frR F0 F → RunM F ((f, c, g) :: r, vs, 200, res) (rQ T fn rr) → (∀ F', St F' → frR F0 F' → RunM F' (r, 0 :: vs, 200, 0) T → L_290_83 F' R m_no) → L_290_83 F R m_no
  | [], F, _, hT, hfn, hS, hfr, hR, K => by
    have e : rQ T fn [] = T ++ [tcd 9 fn] := List.append_nil _
    rw [e] at hR
    rw [List.length_nil] at hT
    refine rpop (how := 9) hS hR (by omega) (by decide) (by omega) (fun G hSG hG hRG => (d289s hSG).2.2.2.2 9 rfl ?_)
    refine CaV.on (s_279 hSG hRG (by omega)) ?_
    rintro F1 hS1 ⟨q1, q2⟩
    have top := q1.top
    refine ⟨by rw [top.1]; omega, K _ (hS1.fld kd_201 rk_12_87) (((hfr.tr hG).tr q2).fl (by decide)) (q1.out (res' := 0))⟩
  | y :: rr, F, hrr, hT, hfn, hS, hfr, hR, K => by
    obtain ⟨u, hu, hy⟩ := hrr y (List.mem_cons_self)
    rw [rQ_cons, hy] at hR
    rw [List.length_cons] at hT
    refine rpop (how := 0) hS hR (by omega) (by decide) (by rw [rQ_len]; omega) (fun G hSG hG hRG => d289_0 hSG ?_)
    have top := hRG.top
    refine c_283 hSG ⟨by omega, fun _ => ?_, fun h => absurd top.2.2.2.2.1 h⟩
    exact runw hr hvs rr G (fun z hz => hrr z (List.mem_cons_of_mem _ hz)) (by omega) hfn hSG (hfr.tr hG) hRG K
/-- RETURN lets go what waits -/
theorem r148 {R : MF → Prop} (hr : r.length < 4) : ∀ (rr : List Int) (F : MF), rOK rr → T.length + 1 + rr.length ≤ 4000 → fn < 1600 → St F → frR F0 F → RunM F ((f, c, g) :: r, vs, s, res) (rQ T fn rr) → (∀ F', St F' → frR F0 F' → (∀ res', RunM F' (r, vs, s, res') T) → R F') → L_289_148 F R m_no
  | [], F, _, hT, hfn, hS, hfr, hR, K => by
    have e : rQ T fn [] = T ++ [tcd 9 fn] := List.append_nil _
    rw [e] at hR
    rw [List.length_nil] at hT
    have hR' := hR
    obtain ⟨⟨k1, k2⟩, -⟩ := hR'
    rw [List.length_append, List.length_singleton] at k1
    have hv : F 258 T.length = tcd 9 fn := by
      rw [k2 T.length (by rw [List.length_append, List.length_singleton]; omega), gx_app, if_neg (by omega), Nat.sub_self]
      rfl
    have top := hR.top
    have hS1 : St (m_up F 201 82 (T.length : Int)) := hS.fld kd_201 rk_12_82
    have hR1 : RunM (m_up F 201 82 (T.length : Int)) ((f, c, g) :: r, vs, s, res) T := hR.ts u_eq (by rw [up_row (by decide)]; exact k2.pre) (fun j hj => u_ne (Or.inr hj)) (fun c x y => up_row x)
    have e87 : m_up F 201 82 (T.length : Int) 201 87 = F 201 87 := u_ne (Or.inr (by decide))
    have hO : ∀ res', RunM (m_up (m_up F 201 82 (T.length : Int)) 201 87 ((F 201 87) - 1)) (r, vs, s, res') T := fun res' => by
      have := hR1.out (res' := res')
      rw [e87] at this
      exact this
    refine b_289_148 hS ?_
    unfold tcd at hv
    rw [k1, show ((T.length + 1 : Nat) : Int) - 1 = (T.length : Int) by omega, Int.toNat_natCast, hv]
    exact ⟨by omega, by omega, by omega, fun _ => ⟨by omega, by rw [top.1]; omega, K _ (hS1.fld kd_201 rk_12_87) ((hfr.fl (by decide)).fl (by decide)) hO⟩, fun h => absurd (by omega) h⟩
  | y :: rr, F, hrr, hT, hfn, hS, hfr, hR, K => by
    obtain ⟨u, hu, hy⟩ := hrr y (List.mem_cons_self)
    rw [rQ_cons, hy] at hR
    rw [List.length_cons] at hT
    have hR' := hR
    obtain ⟨⟨k1, k2⟩, -⟩ := hR'
    rw [List.length_append, List.length_singleton] at k1
    have hv : F 258 (rQ T fn rr).length = tcd 0 u := by
      rw [k2 _ (by rw [List.length_append, List.length_singleton]; omega), gx_app, if_neg (by omega), Nat.sub_self]
      rfl
    have hS1 : St (m_up F 201 82 ((rQ T fn rr).length : Int)) := hS.fld kd_201 rk_12_82
    have hR1 : RunM (m_up F 201 82 ((rQ T fn rr).length : Int)) ((f, c, g) :: r, vs, s, res) (rQ T fn rr) := hR.ts u_eq (by rw [up_row (by decide)]; exact k2.pre) (fun j hj => u_ne (Or.inr hj)) (fun c x y => up_row x)
    have ql := rQ_len (T := T) (fn := fn) (rr := rr)
    refine b_289_148 hS ?_
    unfold tcd at hv
    rw [k1, show (((rQ T fn rr).length + 1 : Nat) : Int) - 1 = ((rQ T fn rr).length : Int) by omega, Int.toNat_natCast, hv]
    exact ⟨by omega, by omega, by omega, fun h => absurd h (by omega), fun _ => ⟨by omega, r148 hr rr _ (fun z hz => hrr z (List.mem_cons_of_mem _ hz)) (by omega) hfn hS1 (hfr.fl (by decide)) hR1 K⟩⟩
end Me4
