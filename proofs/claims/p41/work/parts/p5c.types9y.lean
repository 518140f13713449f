/-! TYPES, OF THE CLASS -/
def ppar (X : Nat → List Int) (v : Nat) : Int := if fix' (Fw X (v / 200)) ((v % 200 : Nat) : Int) 0 = -1 then 0 else gx ((Fw X (v / 200)).map (fun e => e.2.1)) (fix' (Fw X (v / 200)) ((v % 200 : Nat) : Int) 0).toNat
def alh (h : Nat → Nat) (s t : Nat) : Nat → Nat := if h s = h t then h else if h s < 600 then (fun x => if h x = h s then h t else h x) else if h t < 600 then (fun x => if h x = h t then h s else h x) else h
def ale (h : Nat → Nat) (s t : Nat) (fi : Int) (E : List Int) : List Int := if h s = h t then E else if h s < 600 then E else if h t < 600 then E else E ++ [fi]
abbrev TQ : Type := (Nat → Nat) × List Int
def alT (q : TQ) (s t : Nat) (fi : Int) : TQ := (alh q.1 s t, ale q.1 s t fi q.2)
noncomputable def slo (X : Nat → List Int) (f t : Nat) : Nat := if bnd X (200 * f + t) = -1 then 200 * f + t else (bnd X (200 * f + t)).toNat
def argT (v : Nat) : Nat → List (Nat × Int) → TQ → TQ
  | _, [], q => q
  | i, a :: r, q => argT v (i + 1) r (alT q a.1 (v + 2 + 2 * i) a.2)
abbrev TS : Type := (Nat → Nat) × List (Nat × Int) × List Int
noncomputable def callT (X : Nat → List Int) (f t : Nat) (k : Int) (as : List (Nat × Int)) (q : TQ) : TQ :=
  if bnd X (200 * f + t) = -1 then q else if ppar X (bnd X (200 * f + t)).toNat = k then argT (bnd X (200 * f + t)).toNat 0 as q else (q.1, q.2 ++ [((200 * f + t : Nat) : Int)])
/-- a word; t its token, k the class of that, fn the function -/
noncomputable def tstep (X : Nat → List Int) (f fn : Nat) (w : Int) (x : TS) : TS :=
  if wo w = 14 then (x.1, ((if kn (ks X f) (wt w).toNat = 1 then 600 else if kn (ks X f) (wt w).toNat = 0 then slo X f (wt w).toNat else 601), ((200 * f + (wt w).toNat : Nat) : Int)) :: x.2.1, x.2.2)
  else if wo w = 15 then ((callT X f (wt w).toNat (we w) (x.2.1.take (we w).toNat).reverse (x.1, x.2.2)).1, (slo X f (wt w).toNat, ((200 * f + (wt w).toNat : Nat) : Int)) :: x.2.1.drop (we w).toNat, (callT X f (wt w).toNat (we w) (x.2.1.take (we w).toNat).reverse (x.1, x.2.2)).2)
  else match x.2.1 with
  | [] => x
  | a :: r =>
    if wo w = 18 then (x.1, (a.1, ((200 * f + (wt w).toNat : Nat) : Int)) :: r, x.2.2)
    else if wo w = 16 then ((alT (x.1, x.2.2) a.1 601 a.2).1, (601, ((200 * f + (wt w).toNat : Nat) : Int)) :: r, (alT (x.1, x.2.2) a.1 601 a.2).2)
    else if wo w = 17 then (match r with
      | [] => x
      | b :: r1 => if kn (ks X f) (wt w).toNat = 17 then ((alT (x.1, x.2.2) a.1 b.1 a.2).1, (601, b.2) :: r1, (alT (x.1, x.2.2) a.1 b.1 a.2).2)
        else ((alT (alT (x.1, x.2.2) b.1 600 b.2) a.1 600 a.2).1, ((if kn (ks X f) (wt w).toNat = 18 then 601 else 600), b.2) :: r1, (alT (alT (x.1, x.2.2) b.1 600 b.2) a.1 600 a.2).2))
    else if wo w = 7 ∨ wo w = 8 then ((alT (x.1, x.2.2) a.1 (slo X f (wt w).toNat) a.2).1, r, (alT (x.1, x.2.2) a.1 (slo X f (wt w).toNat) a.2).2)
    else if wo w = 10 then ((alT (x.1, x.2.2) a.1 fn a.2).1, r, (alT (x.1, x.2.2) a.1 fn a.2).2)
    else if wo w = 11 then ((alT (x.1, x.2.2) a.1 601 a.2).1, r, (alT (x.1, x.2.2) a.1 601 a.2).2)
    else if wo w = 9 then (x.1, r, x.2.2)
    else x
/-- how many roots are tokens -/
def rc (h : Nat → Nat) : Nat → Nat
  | 0 => 0
  | k + 1 => rc h k + (if h k = k then 1 else 0)
def UFc (F : MF) (h : Nat → Nat) : Prop := h 600 = 600 ∧ h 601 = 601 ∧ ∃ (dp : Nat → Nat) (m : Nat), m + rc h 600 = 600 ∧ ∀ s, s < 602 → dp s ≤ m ∧ h s < 602 ∧ h (h s) = h s ∧ ((F 85 s = (s : Int) ∧ h s = s ∧ dp s = 0) ∨ ∃ w : Nat, F 85 s = (w : Int) ∧ w < 602 ∧ w ≠ s ∧ h s ≠ s ∧ h w = h s ∧ dp w + 1 = dp s)
def TyS (F : MF) (x : TS) : Prop := UFc F x.1 ∧ (F 84 3 = (x.2.1.length : Int) ∧ AL (F 86) (x.2.1.map (fun a => (a.1 : Int))).reverse ∧ AL (F 87) (x.2.1.map (fun a => a.2)).reverse) ∧ F 84 5 = (x.2.2.length : Int) ∧ AL (F 88) x.2.2
def TyP : Nat → Prop := fun c => c = 84 ∨ (85 ≤ c ∧ c ≤ 88)
section M9y
variable {F : MF} {X : Nat → List Int} {f g n : Nat} {h : Nat → Nat} {E : List Int} {s t : Nat} {fi : Int}
theorem fix_rng : ∀ (L : FF) (t : Int) (i : Nat), fix' L t i = -1 ∨ ((i : Int) ≤ fix' L t i ∧ fix' L t i < ((i + L.length : Nat) : Int))
  | [], t, i => Or.inl rfl
  | e :: L, t, i => by
    show (if e.1 = t then (i : Int) else fix' L t (i + 1)) = -1 ∨ ((i : Int) ≤ (if e.1 = t then (i : Int) else fix' L t (i + 1)) ∧ (if e.1 = t then (i : Int) else fix' L t (i + 1)) < ((i + (e :: L).length : Nat) : Int))
    rw [List.length_cons]
    split
    · exact Or.inr (by omega)
    · rcases fix_rng L t (i + 1) with h | h
      · exact Or.inl h
      · exact Or.inr (by omega)
theorem s_19 {v : Nat} (hn : n ∈ m_I1) (hS : St F) (hX : ∀ r, r < 24 → Rok (X r)) (hD : DTT F n X) (hv : v < 600) : C_19 n (v : Int) F (fun r F' => r = ppar X v ∧ F' = F) m_no := by
  refine c_19 hn hS ?_
  refine CaI.on (s_18 hn hS hX hD hv) ?_
  rintro r F1 hS1 ⟨rfl, rfl⟩
  unfold ppar
  refine ⟨fun e => ⟨?_, rfl⟩, fun e => ⟨by omega, by omega, by omega, ?_⟩⟩
  · by_cases e2 : fix' (Fw X (v / 200)) ((v % 200 : Nat) : Int) 0 = -1
    · rw [if_pos e2]
    · rw [if_neg e2] at e; exact absurd e (by decide)
  · have e2 : fix' (Fw X (v / 200)) ((v % 200 : Nat) : Int) 0 ≠ -1 := fun e2 => e (if_pos e2)
    rw [show (v : Int) / 200 = ((v / 200 : Nat) : Int) by omega, show (v : Int) % 200 = ((v % 200 : Nat) : Int) by omega, Int.toNat_natCast]
    refine CaI.on (s_128 hn hS1 hX hD (by omega)) ?_
    rintro r F2 hS2 ⟨rfl, rfl⟩
    have hr := (fix_rng (Fw X (v / 200)) ((v % 200 : Nat) : Int) 0).resolve_left e2
    have hl := (Fw_len hX (f := v / 200) (by omega)).1
    have hi : (fix' (Fw X (v / 200)) ((v % 200 : Nat) : Int) 0).toNat < (Fw X (v / 200)).length := by omega
    rw [if_neg e2]
    refine ⟨by omega, ?_, rfl⟩
    have ha : AL (F2 (n + (20 + 19 * (v / 200)) + 6)) ((Fw X (v / 200)).map (fun e => e.2.1)) := (hD.2 (v / 200) (by omega)).2.2.2.1.2.2.1
    exact ha _ (by rw [List.length_map]; exact hi)
theorem s_138 (hS : St F) (hU : UFc F h) (hs : s < 602) : C_138 (s : Int) F (fun r F' => r = (h s : Int) ∧ F' = F) m_no := by
  obtain ⟨-, -, dp, m, hm, hu⟩ := hU
  have key : ∀ (d : Nat) (x i : Nat), dp x = d → x < 602 → d + i ≤ 601 → L_138_19 (x : Int) (i : Int) F (fun r F' => r = (h x : Int) ∧ F' = F) m_no := by
    intro d
    induction d with
    | zero =>
      intro x i hd hx hi
      obtain ⟨-, -, -, h1 | ⟨w, -, -, -, -, -, h1⟩⟩ := hu x hx
      · refine b_138_19 hS ⟨fun _ => ⟨by omega, ?_⟩, fun h => by omega⟩
        rw [Int.toNat_natCast, h1.1]
        exact ⟨fun _ => ⟨by rw [h1.2.1], rfl⟩, fun h => absurd rfl h⟩
      · omega
    | succ d ih =>
      intro x i hd hx hi
      obtain ⟨-, -, -, h1 | ⟨w, h1, h2, h3, -, h4, h5⟩⟩ := hu x hx
      · omega
      · refine b_138_19 hS ⟨fun _ => ⟨by omega, ?_⟩, fun h => by omega⟩
        rw [Int.toNat_natCast, h1, show (i : Int) + 1 = ((i + 1 : Nat) : Int) by omega]
        refine ⟨fun h => by omega, fun _ => ⟨by omega, by omega, ?_⟩⟩
        have := ih w (i + 1) (by omega) h2 (by omega)
        rw [h4] at this
        exact this
  have h0 := (hu s hs).1
  exact c_138 hS ⟨fun h => by omega, fun _ => ⟨fun _ => key (dp s) s 0 rfl hs (by omega), fun h => by omega⟩⟩
theorem rc_mer {a b : Nat} (ha : h a = a) (hb : h b = b) (hab : a ≠ b) : ∀ k, rc (fun x => if h x = a then b else h x) k + (if a < k then 1 else 0) = rc h k
  | 0 => by rw [if_neg (Nat.not_lt_zero a)]; rfl
  | k + 1 => by
    have ih := rc_mer ha hb hab k
    show rc (fun x => if h x = a then b else h x) k + (if (if h k = a then b else h k) = k then 1 else 0) + (if a < k + 1 then 1 else 0) = rc h k + (if h k = k then 1 else 0)
    by_cases e : k = a
    · subst e
      rw [if_neg (Nat.lt_irrefl _)] at ih
      rw [if_pos ha, if_neg (fun e => hab e.symm), if_pos (Nat.lt_succ_self _), if_pos ha]
      omega
    · have e2 : (if a < k + 1 then 1 else 0 : Nat) = (if a < k then 1 else 0) := by
        by_cases e3 : a < k
        · rw [if_pos e3, if_pos (by omega)]
        · rw [if_neg e3, if_neg (by omega)]
      rw [e2]
      have e3 : (if (if h k = a then b else h k) = k then 1 else 0 : Nat) = (if h k = k then 1 else 0) := by
        by_cases e4 : h k = a
        · rw [if_pos e4]
          by_cases e5 : b = k
          · subst e5
            rw [hb] at e4
            exact absurd e4.symm hab
          · rw [if_neg e5, if_neg (by omega)]
        · rw [if_neg e4]
      rw [e3]
      omega
theorem UFc.mer {a b : Nat} {F' : MF} (hU : UFc F h) (ha : a < 600) (hb : b < 602) (h1 : h a = a) (h2 : h b = b) (hab : a ≠ b) (hF : ∀ s, F' 85 s = if s = a then (b : Int) else F 85 s) : UFc F' (fun x => if h x = a then b else h x) := by
  obtain ⟨k1, k2, dp, m, hm, hu⟩ := hU
  refine ⟨by show (if h 600 = a then b else h 600) = 600; rw [if_neg (by omega)]; exact k1, by show (if h 601 = a then b else h 601) = 601; rw [if_neg (by omega)]; exact k2, fun x => if h x = a then dp x + 1 else dp x, m + 1, ?_, fun s hs => ?_⟩
  · have := rc_mer h1 h2 hab 600
    rw [if_pos ha] at this
    omega
  · obtain ⟨u1, u2, u3, u4⟩ := hu s hs
    show (if h s = a then dp s + 1 else dp s) ≤ m + 1 ∧ (if h s = a then b else h s) < 602 ∧ (if h (if h s = a then b else h s) = a then b else h (if h s = a then b else h s)) = (if h s = a then b else h s) ∧ ((F' 85 s = (s : Int) ∧ (if h s = a then b else h s) = s ∧ (if h s = a then dp s + 1 else dp s) = 0) ∨ ∃ w : Nat, F' 85 s = (w : Int) ∧ w < 602 ∧ w ≠ s ∧ (if h s = a then b else h s) ≠ s ∧ (if h w = a then b else h w) = (if h s = a then b else h s) ∧ (if h w = a then dp w + 1 else dp w) + 1 = (if h s = a then dp s + 1 else dp s))
    have db : dp b = 0 := by
      obtain ⟨-, -, -, c1 | ⟨w, -, -, -, c1, -⟩⟩ := hu b hb
      · exact c1.2.2
      · exact absurd h2 c1
    have da : dp a = 0 := by
      obtain ⟨-, -, -, c1 | ⟨w, -, -, -, c1, -⟩⟩ := hu a (by omega)
      · exact c1.2.2
      · exact absurd h1 c1
    by_cases e : h s = a
    · rw [if_pos e, if_pos e, h2, if_neg (fun e => hab e.symm)]
      refine ⟨by omega, hb, rfl, ?_⟩
      by_cases e2 : s = a
      · subst e2
        refine Or.inr ⟨b, by rw [hF, if_pos rfl], hb, fun e => hab e.symm, fun e => hab e.symm, by rw [h2, if_neg (fun e => hab e.symm)], by rw [h2, if_neg (fun e => hab e.symm)]; omega⟩
      · rcases u4 with ⟨-, c2, -⟩ | ⟨w, c1, c2, c3, c4, c5, c6⟩
        · omega
        · refine Or.inr ⟨w, by rw [hF, if_neg e2]; exact c1, c2, c3, fun e3 => ?_, by rw [c5, if_pos e], by rw [c5, if_pos e]; omega⟩
          subst e3
          rw [h2] at e
          exact hab e.symm
    · rw [if_neg e, if_neg e, u3, if_neg e]
      refine ⟨by omega, u2, rfl, ?_⟩
      have e2 : s ≠ a := fun e2 => e (by rw [e2]; exact h1)
      rcases u4 with ⟨c1, c2, c3⟩ | ⟨w, c1, c2, c3, c4, c5, c6⟩
      · exact Or.inl ⟨by rw [hF, if_neg e2]; exact c1, c2, c3⟩
      · exact Or.inr ⟨w, by rw [hF, if_neg e2]; exact c1, c2, c3, c4, by rw [c5, if_neg e], by rw [c5, if_neg e]; exact c6⟩
theorem s_137 (hS : St F) (h5 : F 84 5 = (E.length : Int)) (hA : AL (F 88) E) (hl : E.length < 1200) : C_137 fi F (fun F' => F' 84 5 = ((E ++ [fi]).length : Int) ∧ AL (F' 88) (E ++ [fi]) ∧ (∀ j, j ≠ 5 → F' 84 j = F 84 j) ∧ fr (fun c => c = 84 ∨ c = 88) F F') m_no := by
  refine c_137 hS ?_
  rw [h5, Int.toNat_natCast]
  refine ⟨fun _ => ⟨by omega, by omega, ?_, ?_, fun j hj => ?_, (fr.rf.up (Or.inr rfl)).up (Or.inl rfl)⟩, fun h => by omega⟩
  · rw [u_eq, List.length_append, List.length_singleton]; omega
  · rw [up_row (by decide)]; exact AL.up1 hA
  · rw [u_ne (Or.inr hj), u_ne (Or.inl (by decide))]
/-- slots are made alike -/
theorem s_136 (hS : St F) (hU : UFc F h) (h5 : F 84 5 = (E.length : Int)) (hA : AL (F 88) E) (hl : E.length < 1200) (hs : s < 602) (ht : t < 602) :
    C_136 (s : Int) (t : Int) fi F (fun F' => UFc F' (alh h s t) ∧ F' 84 5 = ((ale h s t fi E).length : Int) ∧ AL (F' 88) (ale h s t fi E) ∧ (∀ j, j ≠ 5 → F' 84 j = F 84 j) ∧ fr (fun c => c = 84 ∨ c = 85 ∨ c = 88) F F') m_no := by
  have hU' := hU
  obtain ⟨k1, k2, dp, m, hm, hu⟩ := hU'
  have us := hu s hs
  have ut := hu t ht
  refine c_136 hS ?_
  refine CaI.on (s_138 hS hU hs) ?_
  rintro r F1 hS1 ⟨rfl, rfl⟩
  refine CaI.on (s_138 hS1 hU ht) ?_
  rintro r F2 hS2 ⟨rfl, rfl⟩
  have up : ∀ a b : Nat, a < 600 → b < 602 → h a = a → h b = b → a ≠ b → UFc (m_up F2 85 a (b : Int)) (fun x => if h x = a then b else h x) ∧ m_up F2 85 a (b : Int) 84 5 = (E.length : Int) ∧ AL (m_up F2 85 a (b : Int) 88) E ∧ (∀ j, j ≠ 5 → m_up F2 85 a (b : Int) 84 j = F2 84 j) ∧ fr (fun c => c = 84 ∨ c = 85 ∨ c = 88) F2 (m_up F2 85 a (b : Int)) := by
    intro a b ha hb h1 h2 hab
    refine ⟨hU.mer ha hb h1 h2 hab (fun s => ?_), by rw [u_ne (Or.inl (by decide))]; exact h5, by rw [up_row (by decide)]; exact hA, fun j _ => u_ne (Or.inl (by decide)), fr.rf.up (Or.inr (Or.inl rfl))⟩
    by_cases e : s = a
    · rw [if_pos e, e, u_eq]
    · rw [if_neg e, u_ne (Or.inr e)]
  unfold alh ale
  refine ⟨fun e => ?_, fun e => ⟨fun e1 => ?_, fun e1 => ⟨fun e2 => ?_, fun e2 => ?_⟩⟩⟩
  · have q0 : h s = h t := by omega
    rw [if_pos q0, if_pos q0]
    exact ⟨hU, h5, hA, fun _ _ => rfl, fr.rf⟩
  · have q0 : ¬ h s = h t := by omega
    have q1 : h s < 600 := by omega
    rw [if_neg q0, if_neg q0, if_pos q1, if_pos q1]
    refine b_136_46 hS2 ⟨fun _ => ⟨by omega, ?_⟩, fun h => by omega⟩
    rw [Int.toNat_natCast]
    exact up (h s) (h t) (by omega) ut.2.1 us.2.2.1 ut.2.2.1 (by omega)
  · have q0 : ¬ h s = h t := by omega
    have q1 : ¬ h s < 600 := by omega
    have q2 : h t < 600 := by omega
    rw [if_neg q0, if_neg q0, if_neg q1, if_neg q1, if_pos q2, if_pos q2]
    refine b_136_46 hS2 ⟨fun h => by omega, fun _ => ⟨by omega, ?_⟩⟩
    rw [Int.toNat_natCast]
    exact up (h t) (h s) (by omega) us.2.1 ut.2.2.1 us.2.2.1 (by omega)
  · have q0 : ¬ h s = h t := by omega
    have q1 : ¬ h s < 600 := by omega
    have q2 : ¬ h t < 600 := by omega
    rw [if_neg q0, if_neg q0, if_neg q1, if_neg q1, if_neg q2, if_neg q2]
    refine CaV.on (s_137 hS2 h5 hA hl) ?_
    rintro F3 hS3 ⟨c1, c2, c3, c4⟩
    refine ⟨?_, c1, c2, c3, c4.mo (fun c hc => by omega)⟩
    refine ⟨k1, k2, dp, m, hm, fun s hs => ?_⟩
    rw [c4 85 (by decide)]
    exact hu s hs
theorem s_134 {x : TS} {sl : Nat} (hS : St F) (hT : TyS F x) (hl : x.2.1.length < 200) : C_134 (sl : Int) fi F (fun F' => TyS F' (x.1, (sl, fi) :: x.2.1, x.2.2) ∧ fr TyP F F') m_no := by
  obtain ⟨h1, ⟨h2, h3, h4⟩, h5, h6⟩ := hT
  refine c_134 hS ?_
  rw [h2, Int.toNat_natCast]
  have l1 : ((x.2.1.map (fun a => (a.1 : Int))).reverse).length = x.2.1.length := by rw [List.length_reverse, List.length_map]
  have l2 : ((x.2.1.map (fun a => a.2)).reverse).length = x.2.1.length := by rw [List.length_reverse, List.length_map]
  refine ⟨fun _ => ⟨by omega, by omega, by omega, ⟨?_, ⟨?_, ?_, ?_⟩, ?_, ?_⟩, ((fr.rf.up (by unfold TyP; omega)).up (by unfold TyP; omega)).up (by unfold TyP; omega)⟩, fun h => by omega⟩
  · obtain ⟨k1, k2, dp, m, hm, hu⟩ := h1
    refine ⟨k1, k2, dp, m, hm, fun s hs => ?_⟩
    rw [up_row (by decide), up_row (by decide), up_row (by decide)]
    exact hu s hs
  · rw [u_eq]
    show _ = ((x.2.1.length + 1 : Nat) : Int)
    omega
  · rw [up_row (by decide), up_row (by decide), List.map_cons, List.reverse_cons]
    have := AL.up1 (v := (sl : Int)) h3
    rwa [l1] at this
  · rw [up_row (by decide), List.map_cons, List.reverse_cons]
    have h4' : AL (m_up F 86 x.2.1.length (sl : Int) 87) (x.2.1.map (fun a => a.2)).reverse := by rw [up_row (by decide)]; exact h4
    have := AL.up1 (v := fi) h4'
    rwa [l2] at this
  · rw [u_ne (Or.inr (by decide)), u_ne (Or.inl (by decide)), u_ne (Or.inl (by decide))]; exact h5
  · rw [up_row (by decide), up_row (by decide), up_row (by decide)]; exact h6
end M9y
