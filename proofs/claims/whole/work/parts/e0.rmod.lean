/-! RUNNING, OF THE REFERENCE: what it holds -/
def frM (F : MF) : List RuF → Prop
  | [] => True
  | a :: r => F 261 r.length = (a.1 : Int) ∧ (∀ t, t < 200 → F 260 (600 * r.length + 200 * a.1 + t) = a.2.2 t) ∧ a.1 < 3 ∧ frM F r
def RunM (F : MF) (S : RuS) (T : List Int) : Prop := (F 201 82 = (T.length : Int) ∧ AL (F 258) T) ∧ (F 201 84 = (S.2.1.length : Int) ∧ AL (F 259) S.2.1.reverse) ∧ F 201 87 = (S.1.length : Int) ∧ (F 201 88 = (S.2.2.1 : Int) ∧ S.2.2.1 ≤ 200) ∧ frM F S.1
def frR (F F' : MF) : Prop := (∀ c, c ≠ 201 → ¬ (258 ≤ c ∧ c ≤ 261) → F' c = F c) ∧ ∀ j, j ≠ 82 → j ≠ 84 → j ≠ 87 → j ≠ 88 → F' 201 j = F 201 j
def tcd (how u : Nat) : Int := ((3000 * how + u : Nat) : Int)
/-- a task, if there is a node -/
def tsk (how : Nat) (u : Int) : List Int := if u = -1 then [] else [3000 * (how : Int) + u]
section Me0
variable {F G H : MF} {X : Nat → List Int} {f p k how u : Nat} {g : Nat → Int} {r fs : List RuF} {vs vs' T T' : List Int} {s : Nat} {res a x : Int} {S : RuS} {R : MF → Prop}
theorem frR.rf : frR F F := ⟨fun _ _ _ => rfl, fun _ _ _ _ _ => rfl⟩
theorem frR.tr (h : frR F G) (k : frR G H) : frR F H := ⟨fun c x y => (k.1 c x y).trans (h.1 c x y), fun j x y z u => (k.2 j x y z u).trans (h.2 j x y z u)⟩
theorem frR.up {c i : Nat} (h : frR F G) (hc : 258 ≤ c ∧ c ≤ 261) : frR F (m_up G c i x) := ⟨fun d y z => by rw [up_row (by omega)]; exact h.1 d y z, fun j y z w v => by rw [u_ne (Or.inl (by omega))]; exact h.2 j y z w v⟩
theorem frR.fl {i : Nat} (h : frR F G) (hi : i = 82 ∨ i = 84 ∨ i = 87 ∨ i = 88) : frR F (m_up G 201 i x) := ⟨fun d y z => by rw [up_row y]; exact h.1 d y z, fun j y z w v => by rw [u_ne (Or.inr (by omega))]; exact h.2 j y z w v⟩
theorem frR.nd (h : frR F G) : ∀ c, c < 258 → c ≠ 201 → G c = F c := fun c x y => h.1 c y (by omega)
theorem frM.cong : ∀ (fs : List RuF), frM F fs → (∀ i, i < fs.length → G 261 i = F 261 i) → (∀ i, i < 600 * fs.length → G 260 i = F 260 i) → frM G fs
  | [], _, _, _ => trivial
  | a :: r, ⟨h1, h2, h3, h4⟩, e1, e2 => by
    rw [List.length_cons] at e1 e2
    exact ⟨by rw [e1 _ (by omega)]; exact h1, fun t ht => by rw [e2 _ (by omega)]; exact h2 t ht, h3, frM.cong r h4 (fun i hi => e1 i (by omega)) (fun i hi => e2 i (by omega))⟩
theorem RunM.vls (h : RunM F (fs, vs, s, res) T) (h1 : G 201 84 = (vs'.length : Int)) (h2 : AL (G 259) vs'.reverse) (e : ∀ j, j ≠ 84 → G 201 j = F 201 j) (hf : ∀ c, c ≠ 201 → c ≠ 259 → G c = F c) : RunM G (fs, vs', s, res) T := by
  obtain ⟨⟨k1, k2⟩, k3, k4, ⟨k5, k5a⟩, k6⟩ := h
  exact ⟨⟨by rw [e 82 (by decide)]; exact k1, by rw [hf 258 (by decide) (by decide)]; exact k2⟩, ⟨h1, h2⟩, by rw [e 87 (by decide)]; exact k4, ⟨by rw [e 88 (by decide)]; exact k5, k5a⟩, frM.cong fs k6 (fun i _ => by rw [hf 261 (by decide) (by decide)]) (fun i _ => by rw [hf 260 (by decide) (by decide)])⟩
theorem RunM.ts (h : RunM F (fs, vs, s, res) T) (h1 : G 201 82 = (T'.length : Int)) (h2 : AL (G 258) T') (e : ∀ j, j ≠ 82 → G 201 j = F 201 j) (hf : ∀ c, c ≠ 201 → c ≠ 258 → G c = F c) : RunM G (fs, vs, s, res) T' := by
  obtain ⟨-, ⟨k3, k3a⟩, k4, ⟨k5, k5a⟩, k6⟩ := h
  exact ⟨⟨h1, h2⟩, ⟨by rw [e 84 (by decide)]; exact k3, by rw [hf 259 (by decide) (by decide)]; exact k3a⟩, by rw [e 87 (by decide)]; exact k4, ⟨by rw [e 88 (by decide)]; exact k5, k5a⟩, frM.cong fs k6 (fun i _ => by rw [hf 261 (by decide) (by decide)]) (fun i _ => by rw [hf 260 (by decide) (by decide)])⟩
/-- the place of the function that runs, and what the class gave last, are not held -/
theorem RunM.pl {q : Nat} {res' : Int} (h : RunM F ((f, p, g) :: r, vs, s, res) T) : RunM F ((f, q, g) :: r, vs, s, res') T := h
theorem RunM.rsx {res' : Int} (h : RunM F (fs, vs, s, res) T) : RunM F (fs, vs, s, res') T := h
theorem RunM.st (h : RunM F (fs, vs, s, res) T) (hs : s < 200) : RunM (m_up F 201 88 ((s : Int) + 1)) (fs, vs, s + 1, res) T := by
  obtain ⟨⟨k1, k2⟩, ⟨k3, k3a⟩, k4, ⟨k5, k5a⟩, k6⟩ := h
  exact ⟨⟨by rw [u_ne (Or.inr (by decide))]; exact k1, by rw [up_row (by decide)]; exact k2⟩, ⟨by rw [u_ne (Or.inr (by decide))]; exact k3, by rw [up_row (by decide)]; exact k3a⟩, by rw [u_ne (Or.inr (by decide))]; exact k4, ⟨by rw [u_eq]; show (s : Int) + 1 = ((s + 1 : Nat) : Int); omega, by show s + 1 ≤ 200; omega⟩, frM.cong fs k6 (fun i _ => u_ne (Or.inl (by decide))) (fun i _ => u_ne (Or.inl (by decide)))⟩
theorem RunM.var {y : Nat} (h : RunM F ((f, p, g) :: r, vs, s, res) T) (hy : y < 200) : RunM (m_up F 260 (600 * r.length + 200 * f + y) a) ((f, p, fun z => if z = y then a else g z) :: r, vs, s, res) T := by
  obtain ⟨⟨k1, k2⟩, ⟨k3, k3a⟩, k4, ⟨k5, k5a⟩, t1, t2, t3, t4⟩ := h
  refine ⟨⟨by rw [u_ne (Or.inl (by decide))]; exact k1, by rw [up_row (by decide)]; exact k2⟩, ⟨by rw [u_ne (Or.inl (by decide))]; exact k3, by rw [up_row (by decide)]; exact k3a⟩, by rw [u_ne (Or.inl (by decide))]; exact k4, ⟨by rw [u_ne (Or.inl (by decide))]; exact k5, k5a⟩, by rw [u_ne (Or.inl (by decide))]; exact t1, fun t ht => ?_, t3, frM.cong r t4 (fun i _ => u_ne (Or.inl (by decide))) (fun i hi => u_ne (Or.inr (by omega)))⟩
  show m_up F 260 (600 * r.length + 200 * f + y) a 260 (600 * r.length + 200 * f + t) = (if t = y then a else g t)
  by_cases e : t = y
  · rw [if_pos e, e, u_eq]
  · rw [if_neg e, u_ne (Or.inr (by omega))]; exact t2 t ht
theorem s_278 (hS : St F) (hR : RunM F (fs, vs, s, res) T) {un : Int} (hu : un = -1 ∨ (0 ≤ un ∧ un < 1600)) (hh : how < 10) (hT : T.length < 4000) : C_278 (how : Int) un F (fun F' => RunM F' (fs, vs, s, res) (T ++ tsk how un) ∧ frR F F') m_no := by
  have hR' := hR
  obtain ⟨⟨k1, k2⟩, -⟩ := hR'
  unfold tsk
  refine c_278 hS ⟨fun e => ?_, fun e => ?_⟩
  · rw [if_pos e, List.append_nil]
    exact ⟨hR, frR.rf⟩
  · rw [if_neg e, k1, Int.toNat_natCast]
    refine ⟨by omega, by omega, by omega, by omega, hR.ts ?_ ?_ (fun j hj => by rw [u_ne (Or.inr hj), u_ne (Or.inl (by decide))]) (fun c x y => by rw [up_row x, up_row y]), (frR.rf.up (by decide)).fl (by decide)⟩
    · rw [u_eq, List.length_append, List.length_singleton]; omega
    · rw [up_row (by decide)]
      exact AL.up1 k2
theorem s_279 (hS : St F) (hR : RunM F (fs, vs, s, res) T) (hl : vs.length < 2000) : C_279 a F (fun F' => RunM F' (fs, a :: vs, s, res) T ∧ frR F F') m_no := by
  have hR' := hR
  obtain ⟨-, ⟨k3, k3a⟩, -⟩ := hR'
  change F 201 84 = (vs.length : Int) at k3
  change AL (F 259) vs.reverse at k3a
  have l1 : vs.reverse.length = vs.length := List.length_reverse
  refine c_279 hS ?_
  rw [k3, Int.toNat_natCast]
  refine ⟨by omega, by omega, hR.vls ?_ ?_ (fun j hj => by rw [u_ne (Or.inr hj), u_ne (Or.inl (by decide))]) (fun c x y => by rw [up_row x, up_row y]), (frR.rf.up (by decide)).fl (by decide)⟩
  · rw [u_eq, List.length_cons]; omega
  · rw [up_row (by decide), List.reverse_cons]
    have := AL.up1 (v := a) k3a
    rwa [l1] at this
theorem s_280 (hS : St F) (hR : RunM F (fs, a :: vs, s, res) T) (hl : vs.length < 2000) : C_280 F (fun x F' => x = a ∧ RunM F' (fs, vs, s, res) T ∧ frR F F') m_no := by
  have hR' := hR
  obtain ⟨-, ⟨k3, k3a⟩, -⟩ := hR'
  change F 201 84 = ((vs.length + 1 : Nat) : Int) at k3
  change AL (F 259) (a :: vs).reverse at k3a
  rw [List.reverse_cons] at k3a
  have l1 : vs.reverse.length = vs.length := List.length_reverse
  have hv : F 259 vs.length = a := by
    rw [k3a vs.length (by rw [List.length_append, List.length_singleton]; omega), gx_app, if_neg (by omega), l1, Nat.sub_self]
    rfl
  refine c_280 hS ?_
  rw [k3, show ((vs.length + 1 : Nat) : Int) - 1 = (vs.length : Int) by omega, Int.toNat_natCast, hv]
  refine ⟨by omega, by omega, rfl, hR.vls u_eq ?_ (fun j hj => u_ne (Or.inr hj)) (fun c x y => up_row x), frR.rf.fl (by decide)⟩
  rw [up_row (by decide)]
  exact k3a.pre
/-- what was given last is taken away -/
theorem RunM.drop (h : RunM F (fs, vs, s, res) T) (hk : k ≤ vs.length) : RunM (m_up F 201 84 ((vs.length : Int) - (k : Int))) (fs, vs.drop k, s, res) T := by
  have hA : AL (F 259) vs.reverse := h.2.1.2
  refine h.vls (by rw [u_eq, List.length_drop]; omega) (fun i hi => ?_) (fun j hj => u_ne (Or.inr hj)) (fun c x y => up_row x)
  rw [u_ne (Or.inl (by decide))]
  have e1 : vs.reverse = (vs.drop k).reverse ++ (vs.take k).reverse := by rw [← List.reverse_append, List.take_append_drop]
  rw [e1] at hA
  exact hA.pre i hi
/-- the uppermost task is taken -/
theorem rpop (hS : St F) (hR : RunM F (fs, vs, s, res) (T ++ [tcd how u])) (hu : u < 3000) (hh : how < 10) (hT : T.length < 4000)
    {R : Int → MF → Prop} (K : ∀ G, St G → frR F G → RunM G (fs, vs, s, res) T → C_289 (how : Int) (u : Int) G (fun F4 => L_290_83 F4 R m_no) m_no) : L_290_83 F R m_no := by
  have hR' := hR
  obtain ⟨⟨k1, k2⟩, -⟩ := hR'
  rw [List.length_append, List.length_singleton] at k1
  have hv : F 258 T.length = tcd how u := by
    rw [k2 T.length (by rw [List.length_append, List.length_singleton]; omega), gx_app, if_neg (by omega), Nat.sub_self]
    rfl
  have hS1 : St (m_up F 201 82 (T.length : Int)) := hS.fld kd_201 rk_12_82
  have hR1 : RunM (m_up F 201 82 (T.length : Int)) (fs, vs, s, res) T := hR.ts u_eq (by rw [up_row (by decide)]; exact k2.pre) (fun j hj => u_ne (Or.inr hj)) (fun c x y => up_row x)
  have := K _ hS1 (frR.rf.fl (by decide)) hR1
  refine b_290_83 hS ?_
  unfold tcd at hv
  rw [k1, show ((T.length + 1 : Nat) : Int) - 1 = (T.length : Int) by omega, Int.toNat_natCast, hv, show ((3000 * how + u : Nat) : Int) / 3000 = (how : Int) by omega, show ((3000 * how + u : Nat) : Int) % 3000 = (u : Int) by omega]
  exact ⟨fun _ => ⟨by omega, by omega, by omega, by omega, by omega, this⟩, fun h => absurd (by omega) h⟩
theorem tsk_n : tsk how (u : Int) = [tcd how u] := by
  unfold tsk tcd
  rw [if_neg (by omega)]
  congr 1
theorem tsk_no : tsk how (-1) = [] := if_pos rfl
end Me0
