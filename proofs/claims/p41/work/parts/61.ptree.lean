/-! WORDS AS NUMBERS; WHAT A TREE KEEPS -/
theorem m_shl_nat {t s : Nat} (h : t * 2 ^ s < 2147483648) : m_shl (t : Int) (s : Int) = ((t * 2 ^ s : Nat) : Int) := by
  unfold m_shl
  rw [Int.toNat_natCast, show ((t : Int) * 2 ^ s) = ((t * 2 ^ s : Nat) : Int) by rw [Int.natCast_mul, Int.natCast_pow]; rfl]
  exact w32_id (by omega)
theorem m_or_nat {a b : Nat} (h : a ||| b < 2147483648) (ha : a < 2147483648) (hb : b < 2147483648) : m_or (a : Int) (b : Int) = ((a ||| b : Nat) : Int) := by
  unfold m_or
  have e1 : ((a : Int) % 4294967296).toNat = a := by omega
  have e2 : ((b : Int) % 4294967296).toNat = b := by omega
  rw [e1, e2]
  exact w32_id (by omega)
theorem m_and_nat {a b : Nat} (ha : a < 2147483648) (hb : b < 2147483648) : m_and (a : Int) (b : Int) = ((a &&& b : Nat) : Int) := by
  unfold m_and
  have e1 : ((a : Int) % 4294967296).toNat = a := by omega
  have e2 : ((b : Int) % 4294967296).toNat = b := by omega
  have h : a &&& b ≤ a := Nat.and_le_left
  rw [e1, e2]
  exact w32_id (by omega)
theorem or_hi {o t s : Nat} (h : o < 2 ^ s) : o ||| t * 2 ^ s = o + t * 2 ^ s := by
  have := Nat.shiftLeft_add_eq_or_of_lt h t
  rw [Nat.shiftLeft_eq] at this
  rw [Nat.or_comm, ← this, Nat.add_comm]
theorem mk_or {o t e : Nat} (ho : o < 256) (ht : t < 256) (he : e < 32768) : m_or (m_or (o : Int) (m_shl (t : Int) 8)) (m_shl (e : Int) 16) = mk o t e := by
  have h1 : m_shl (t : Int) 8 = ((t * 2 ^ 8 : Nat) : Int) := m_shl_nat (s := 8) (by omega)
  have h2 : m_shl (e : Int) 16 = ((e * 2 ^ 16 : Nat) : Int) := m_shl_nat (s := 16) (by omega)
  have h3 : o ||| t * 2 ^ 8 = o + t * 2 ^ 8 := or_hi ho
  have h4 : (o + t * 2 ^ 8) ||| e * 2 ^ 16 = o + t * 2 ^ 8 + e * 2 ^ 16 := or_hi (s := 16) (by omega)
  rw [h1, h2, m_or_nat (by omega) (by omega) (by omega), h3, m_or_nat (by omega) (by omega) (by omega), h4]
  unfold mk
  omega
theorem mk_aim {w : Int} {p : Nat} (hw : 0 ≤ w ∧ w < 2147483648) (hp : p < 32768) : m_or (m_and w 65535) (m_shl (p : Int) 16) = w % 65536 + 65536 * (p : Int) := by
  obtain ⟨k, rfl⟩ := Int.eq_ofNat_of_zero_le hw.1
  have h2 : m_shl (p : Int) 16 = ((p * 2 ^ 16 : Nat) : Int) := m_shl_nat (s := 16) (by omega)
  have h3 : m_and (k : Int) 65535 = ((k % 65536 : Nat) : Int) := by
    have := m_and_nat (a := k) (b := 65535) (by omega) (by omega)
    rw [show k &&& 65535 = k % 65536 from Nat.and_two_pow_sub_one_eq_mod k 16] at this
    exact this
  have h4 : (k % 65536) ||| p * 2 ^ 16 = k % 65536 + p * 2 ^ 16 := or_hi (s := 16) (by omega)
  rw [h2, h3, m_or_nat (by omega) (by omega) (by omega), h4]
  omega
def AL (A : Nat → Int) (l : List Int) : Prop := ∀ i, i < l.length → A i = gx l i
theorem AL.push {A B : Nat → Int} {l : List Int} {x : Int} (h : AL A l) (h1 : ∀ i, i < l.length → B i = A i) (h2 : B l.length = x) : AL B (l ++ [x]) := by
  intro i hi
  rw [List.length_append, List.length_singleton] at hi
  rw [gx_app]
  by_cases e : i < l.length
  · rw [if_pos e, h1 i e]; exact h i e
  · rw [if_neg e]
    obtain rfl : i = l.length := by omega
    rw [Nat.sub_self]
    exact h2
theorem AL.up {F : MF} {c : Nat} {l : List Int} {x : Int} (h : AL (F c) l) : AL (m_up F c l.length x c) (l ++ [x]) :=
  h.push (fun i hi => u_ne (Or.inr (by omega))) u_eq
theorem AL.set {A B : Nat → Int} {l : List Int} {k : Nat} {x : Int} (h : AL A l) (h1 : ∀ i, i ≠ k → B i = A i) (h2 : B k = x) : AL B (l.set k x) := by
  intro i hi
  rw [List.length_set] at hi
  have hg : gx (l.set k x) i = if k = i then x else gx l i := by
    unfold gx
    rw [List.getD_eq_getElem?_getD, List.getD_eq_getElem?_getD, List.getElem?_set]
    split
    · next e => subst e; rw [if_pos hi]; rfl
    · rfl
  rw [hg]
  by_cases e : k = i
  · rw [if_pos e, ← e]; exact h2
  · rw [if_neg e, h1 i (fun e2 => e e2.symm)]; exact h i hi
theorem AL.nil {A : Nat → Int} : AL A [] := fun i h => absurd h (Nat.not_lt_zero i)
abbrev EE : Type := List (Int × Int × Int)
abbrev FF : Type := List (Int × Int × Int × Int)
def TreeC (F : MF) (t : Nat) (C : List Int) (E : EE) (Fn : FF) (U : List Int) : Prop :=
  (F t 1 = (C.length : Int) ∧ AL (F (t + 1)) C) ∧ (F t 5 = (E.length : Int) ∧ AL (F (t + 2)) (E.map (fun e => e.1)) ∧ AL (F (t + 3)) (E.map (fun e => e.2.1)) ∧ AL (F (t + 4)) (E.map (fun e => e.2.2))) ∧
  (F t 10 = (Fn.length : Int) ∧ AL (F (t + 5)) (Fn.map (fun e => e.1)) ∧ AL (F (t + 6)) (Fn.map (fun e => e.2.1)) ∧ AL (F (t + 7)) (Fn.map (fun e => e.2.2.1)) ∧ AL (F (t + 8)) (Fn.map (fun e => e.2.2.2))) ∧
  (F t 12 = (U.length : Int) ∧ AL (F (t + 9)) U)
theorem TreeC.cong {F G : MF} {t : Nat} {C : List Int} {E : EE} {Fn : FF} {U : List Int} (h : TreeC F t C E Fn U) (hf : ∀ c, t ≤ c → c ≤ t + 9 → G c = F c) : TreeC G t C E Fn U := by
  unfold TreeC
  rw [hf t (by omega) (by omega), hf (t + 1) (by omega) (by omega), hf (t + 2) (by omega) (by omega), hf (t + 3) (by omega) (by omega), hf (t + 4) (by omega) (by omega), hf (t + 5) (by omega) (by omega), hf (t + 6) (by omega) (by omega), hf (t + 7) (by omega) (by omega), hf (t + 8) (by omega) (by omega), hf (t + 9) (by omega) (by omega)]
  exact h
def TP (t : Nat) : Nat → Prop := fun c => t ≤ c ∧ c ≤ t + 9
section M61
variable {F : MF} {t : Nat} {C : List Int} {E : EE} {Fn : FF} {U : List Int}
theorem s_120 (hn : t ∈ m_I9) (hS : St F) : C_120 t F (fun F' => TreeC F' t [] [] [] [] ∧ fr (TP t) F F') m_no := by
  refine c_120 hn hS ⟨⟨⟨?_, AL.nil⟩, ⟨?_, AL.nil, AL.nil, AL.nil⟩, ⟨?_, AL.nil, AL.nil, AL.nil, AL.nil⟩, ⟨?_, AL.nil⟩⟩, ?_⟩
  · rw [u_ne (Or.inr (by decide)), u_ne (Or.inr (by decide)), u_ne (Or.inr (by decide)), u_eq]; rfl
  · rw [u_ne (Or.inr (by decide)), u_ne (Or.inr (by decide)), u_eq]; rfl
  · rw [u_ne (Or.inr (by decide)), u_eq]; rfl
  · rw [u_eq]; rfl
  · exact (((fr.rf.up ⟨by omega, by omega⟩).up ⟨by omega, by omega⟩).up ⟨by omega, by omega⟩).up ⟨by omega, by omega⟩
theorem s_121 {o p e : Nat} (hn : t ∈ m_I9) (hS : St F) (h : TreeC F t C E Fn U) (hl : C.length < 640) (ho : o < 256) (hp : p < 256) (he : e < 32768) :
    C_121 t (o : Int) (p : Int) (e : Int) F (fun F' => TreeC F' t (C ++ [mk o p e]) E Fn U ∧ fr (TP t) F F') m_no := by
  obtain ⟨⟨h1, h2⟩, h3, h4, h5⟩ := h
  refine c_121 hn hS ⟨fun _ => ?_, fun h => by omega⟩
  rw [mk_or ho hp he, h1, Int.toNat_natCast]
  refine ⟨by omega, by omega, ⟨⟨?_, ?_⟩, ?_, ?_, ?_⟩, (fr.rf.up ⟨by omega, by omega⟩).up ⟨by omega, by omega⟩⟩
  · rw [u_eq, List.length_append, List.length_singleton]; omega
  · rw [up_row (by omega)]; exact h2.up
  · rw [u_ne (Or.inr (by decide)), u_ne (Or.inl (by omega)), up_row (c := t + 2) (by omega), up_row (c := t + 2) (by omega), up_row (c := t + 3) (by omega), up_row (c := t + 3) (by omega), up_row (c := t + 4) (by omega), up_row (c := t + 4) (by omega)]
    exact h3
  · rw [u_ne (Or.inr (by decide)), u_ne (Or.inl (by omega)), up_row (c := t + 5) (by omega), up_row (c := t + 5) (by omega), up_row (c := t + 6) (by omega), up_row (c := t + 6) (by omega), up_row (c := t + 7) (by omega), up_row (c := t + 7) (by omega), up_row (c := t + 8) (by omega), up_row (c := t + 8) (by omega)]
    exact h4
  · rw [u_ne (Or.inr (by decide)), u_ne (Or.inl (by omega)), up_row (c := t + 9) (by omega), up_row (c := t + 9) (by omega)]
    exact h5
theorem s_123 {a b c : Int} (hn : t ∈ m_I9) (hS : St F) (h : TreeC F t C E Fn U) (hl : E.length < 200) :
    C_123 t a b c F (fun F' => TreeC F' t C (E ++ [(a, b, c)]) Fn U ∧ fr (TP t) F F') m_no := by
  obtain ⟨h3, ⟨h1, h2, h6, h7⟩, h4, h5⟩ := h
  have hm : ∀ g : Int × Int × Int → Int, (E ++ [(a, b, c)]).map g = E.map g ++ [g (a, b, c)] := fun g => by rw [List.map_append]; rfl
  refine c_123 hn hS ⟨fun _ => ?_, fun h => by omega⟩
  rw [h1, Int.toNat_natCast]
  refine ⟨by omega, by omega, by omega, by omega, ⟨?_, ⟨?_, ?_, ?_, ?_⟩, ?_, ?_⟩, (((fr.rf.up ⟨by omega, by omega⟩).up ⟨by omega, by omega⟩).up ⟨by omega, by omega⟩).up ⟨by omega, by omega⟩⟩
  · rw [u_ne (Or.inr (by decide)), u_ne (Or.inl (by omega)), u_ne (Or.inl (by omega)), u_ne (Or.inl (by omega)), up_row (c := t + 1) (by omega), up_row (c := t + 1) (by omega), up_row (c := t + 1) (by omega), up_row (c := t + 1) (by omega)]
    exact h3
  · rw [u_eq, List.length_append, List.length_singleton]; omega
  · rw [hm, up_row (by omega), up_row (by omega), up_row (by omega)]
    have := h2.up (x := a)
    rw [List.length_map] at this
    exact this
  · rw [hm, up_row (by omega), up_row (by omega)]
    have := AL.up (F := m_up F (t + 2) E.length a) (c := t + 3) (l := E.map (fun e => e.2.1)) (x := b) (by rw [up_row (by omega)]; exact h6)
    rw [List.length_map] at this
    exact this
  · rw [hm, up_row (by omega)]
    have := AL.up (F := m_up (m_up F (t + 2) E.length a) (t + 3) E.length b) (c := t + 4) (l := E.map (fun e => e.2.2)) (x := c) (by rw [up_row (by omega), up_row (by omega)]; exact h7)
    rw [List.length_map] at this
    exact this
  · rw [u_ne (Or.inr (by decide)), u_ne (Or.inl (by omega)), u_ne (Or.inl (by omega)), u_ne (Or.inl (by omega)), up_row (c := t + 5) (by omega), up_row (c := t + 5) (by omega), up_row (c := t + 5) (by omega), up_row (c := t + 5) (by omega), up_row (c := t + 6) (by omega), up_row (c := t + 6) (by omega), up_row (c := t + 6) (by omega), up_row (c := t + 6) (by omega), up_row (c := t + 7) (by omega), up_row (c := t + 7) (by omega), up_row (c := t + 7) (by omega), up_row (c := t + 7) (by omega), up_row (c := t + 8) (by omega), up_row (c := t + 8) (by omega), up_row (c := t + 8) (by omega), up_row (c := t + 8) (by omega)]
    exact h4
  · rw [u_ne (Or.inr (by decide)), u_ne (Or.inl (by omega)), u_ne (Or.inl (by omega)), u_ne (Or.inl (by omega)), up_row (c := t + 9) (by omega), up_row (c := t + 9) (by omega), up_row (c := t + 9) (by omega), up_row (c := t + 9) (by omega)]
    exact h5
theorem s_127 {v : Int} (hn : t ∈ m_I9) (hS : St F) (h : TreeC F t C E Fn U) (hl : U.length < 40) :
    C_127 t v F (fun F' => TreeC F' t C E Fn (U ++ [v]) ∧ fr (TP t) F F') m_no := by
  obtain ⟨h3, h4, h5, h1, h2⟩ := h
  refine c_127 hn hS ⟨fun _ => ?_, fun h => by omega⟩
  rw [h1, Int.toNat_natCast]
  refine ⟨by omega, by omega, ⟨?_, ?_, ?_, ?_, ?_⟩, (fr.rf.up ⟨by omega, by omega⟩).up ⟨by omega, by omega⟩⟩
  · rw [u_ne (Or.inr (by decide)), u_ne (Or.inl (by omega)), up_row (c := t + 1) (by omega), up_row (c := t + 1) (by omega)]
    exact h3
  · rw [u_ne (Or.inr (by decide)), u_ne (Or.inl (by omega)), up_row (c := t + 2) (by omega), up_row (c := t + 2) (by omega), up_row (c := t + 3) (by omega), up_row (c := t + 3) (by omega), up_row (c := t + 4) (by omega), up_row (c := t + 4) (by omega)]
    exact h4
  · rw [u_ne (Or.inr (by decide)), u_ne (Or.inl (by omega)), up_row (c := t + 5) (by omega), up_row (c := t + 5) (by omega), up_row (c := t + 6) (by omega), up_row (c := t + 6) (by omega), up_row (c := t + 7) (by omega), up_row (c := t + 7) (by omega), up_row (c := t + 8) (by omega), up_row (c := t + 8) (by omega)]
    exact h5
  · rw [u_eq, List.length_append, List.length_singleton]; omega
  · rw [up_row (by omega)]; exact h2.up
theorem s_125 {a b : Int} (hn : t ∈ m_I9) (hS : St F) (h : TreeC F t C E Fn U) (hl : Fn.length < 40) :
    C_125 t a b F (fun F' => TreeC F' t C E (Fn ++ [(a, b, (C.length : Int), -1)]) U ∧ fr (TP t) F F') m_no := by
  obtain ⟨h3, h4, ⟨h1, h2, h6, h7, h8⟩, h5⟩ := h
  have hm : ∀ g : Int × Int × Int × Int → Int, (Fn ++ [(a, b, (C.length : Int), -1)]).map g = Fn.map g ++ [g (a, b, (C.length : Int), -1)] := fun g => by rw [List.map_append]; rfl
  refine c_125 hn hS ⟨fun _ => ?_, fun h => by omega⟩
  rw [h1, Int.toNat_natCast, h3.1]
  refine ⟨by omega, by omega, by omega, by omega, by omega, ⟨?_, ?_, ⟨?_, ?_, ?_, ?_, ?_⟩, ?_⟩, ((((fr.rf.up ⟨by omega, by omega⟩).up ⟨by omega, by omega⟩).up ⟨by omega, by omega⟩).up ⟨by omega, by omega⟩).up ⟨by omega, by omega⟩⟩
  · rw [u_ne (Or.inr (by decide)), u_ne (Or.inl (by omega)), u_ne (Or.inl (by omega)), u_ne (Or.inl (by omega)), u_ne (Or.inl (by omega)), up_row (c := t + 1) (by omega), up_row (c := t + 1) (by omega), up_row (c := t + 1) (by omega), up_row (c := t + 1) (by omega), up_row (c := t + 1) (by omega)]
    exact h3
  · rw [u_ne (Or.inr (by decide)), u_ne (Or.inl (by omega)), u_ne (Or.inl (by omega)), u_ne (Or.inl (by omega)), u_ne (Or.inl (by omega)), up_row (c := t + 2) (by omega), up_row (c := t + 2) (by omega), up_row (c := t + 2) (by omega), up_row (c := t + 2) (by omega), up_row (c := t + 2) (by omega), up_row (c := t + 3) (by omega), up_row (c := t + 3) (by omega), up_row (c := t + 3) (by omega), up_row (c := t + 3) (by omega), up_row (c := t + 3) (by omega), up_row (c := t + 4) (by omega), up_row (c := t + 4) (by omega), up_row (c := t + 4) (by omega), up_row (c := t + 4) (by omega), up_row (c := t + 4) (by omega)]
    exact h4
  · rw [u_eq, List.length_append, List.length_singleton]; omega
  · rw [hm, up_row (by omega), up_row (by omega), up_row (by omega), up_row (by omega)]
    have := h2.up (x := a)
    rw [List.length_map] at this
    exact this
  · rw [hm, up_row (by omega), up_row (by omega), up_row (by omega)]
    have := AL.up (F := m_up F (t + 5) Fn.length a) (c := t + 6) (l := Fn.map (fun e => e.2.1)) (x := b) (by rw [up_row (by omega)]; exact h6)
    rw [List.length_map] at this
    exact this
  · rw [hm, up_row (by omega), up_row (by omega)]
    have := AL.up (F := m_up (m_up F (t + 5) Fn.length a) (t + 6) Fn.length b) (c := t + 7) (l := Fn.map (fun e => e.2.2.1)) (x := (C.length : Int)) (by rw [up_row (by omega), up_row (by omega)]; exact h7)
    rw [List.length_map] at this
    exact this
  · rw [hm, up_row (by omega)]
    have := AL.up (F := m_up (m_up (m_up F (t + 5) Fn.length a) (t + 6) Fn.length b) (t + 7) Fn.length (C.length : Int)) (c := t + 8) (l := Fn.map (fun e => e.2.2.2)) (x := -1) (by rw [up_row (by omega), up_row (by omega), up_row (by omega)]; exact h8)
    rw [List.length_map] at this
    exact this
  · rw [u_ne (Or.inr (by decide)), u_ne (Or.inl (by omega)), u_ne (Or.inl (by omega)), u_ne (Or.inl (by omega)), u_ne (Or.inl (by omega)), up_row (c := t + 9) (by omega), up_row (c := t + 9) (by omega), up_row (c := t + 9) (by omega), up_row (c := t + 9) (by omega), up_row (c := t + 9) (by omega)]
    exact h5
end M61
