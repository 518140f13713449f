/-! THE READER OF THE CLASS: exprs -/
def LvC (F : MF) (n : Nat) (L : List Lv) : Prop := F n 14 = (L.length : Int) ∧ LvAt F n L
def LOk (a : Nat) (l : Lv) : Prop := (0 ≤ shp l ∧ shp l ≤ 2) ∧ (0 ≤ opn l ∧ opn l < 200) ∧ (0 ≤ szs l ∧ szs l ≤ (a : Int)) ∧ (-1 ≤ nts l ∧ nts l < 200) ∧ (-1 ≤ tms l ∧ tms l < 200) ∧ (-1 ≤ ads l ∧ ads l < 200) ∧ (-1 ≤ cps l ∧ cps l < 200)
def pn1 (p : Int) : Nat := if p = -1 then 0 else 1
def pnl (l : Lv) : Nat := 1 + pn1 (nts l) + pn1 (tms l) + pn1 (ads l) + pn1 (cps l)
def pnd : List Lv → Nat
  | [] => 0
  | l :: r => pnl l + pnd r
theorem pnd_len : ∀ L : List Lv, L.length ≤ pnd L
  | [] => Nat.le_refl _
  | l :: r => by
    have := pnd_len r
    unfold pnd pnl
    rw [List.length_cons]
    omega
theorem wd_len (o : Nat) (p : Int) : (wd o p).length = pn1 p := by
  unfold wd pn1
  split <;> rfl
/-- what holds all the while an expr is read that began at a0 with c0 words -/
def XI (K : List Int) (c0 a0 : Nat) (x : XS) : Prop := a0 ≤ x.2.1 ∧ x.2.1 ≤ K.length ∧ (∀ l ∈ x.2.2.1, LOk x.2.1 l) ∧ x.2.2.2.length + pnd x.2.2.1 ≤ c0 + (x.2.1 - a0) + 1 ∧ c0 ≤ x.2.2.2.length
theorem LOk.mo {a a' : Nat} {l : Lv} (h : LOk a l) (ha : a ≤ a') : LOk a' l := ⟨h.1, h.2.1, ⟨h.2.2.1.1, by have := h.2.2.1.2; omega⟩, h.2.2.2⟩
theorem LOk.new {a o : Nat} {s : Int} (hs : 0 ≤ s ∧ s ≤ 2) (ho : o < 200) : LOk a (lv0 s (o : Int)) := by
  unfold LOk lv0
  have d1 : (-1 : Int) ≤ -1 ∧ (-1 : Int) < 200 := by decide
  exact ⟨hs, ⟨by show (0 : Int) ≤ (o : Int); omega, by show (o : Int) < 200; omega⟩, ⟨Int.le_refl _, by show (0 : Int) ≤ (a : Int); omega⟩, d1, d1, d1, d1⟩
def XC (F : MF) (n t b : Nat) (K : List Int) (S : List (Int × Int)) (E : EE) (Fn : FF) (U : List Int) (x : XS) : Prop := RC F n t b K x.2.1 S x.2.2.2 E Fn U ∧ LvC F n x.2.2.1
section M63
variable {F : MF} {n t b z a : Nat} {K : List Int} {S : List (Int × Int)} {C : List Int} {E : EE} {Fn : FF} {U : List Int} {L r : List Lv} {l : Lv} {c0 a0 : Nat}
/-- levels stand, if the reader's own cells are touched elsewhere -/
theorem LvC.keep {F' : MF} (h : LvC F n L) (h1 : F' n 14 = F n 14) (h2 : ∀ c, n + 4 ≤ c → c ≤ n + 10 → F' c = F c) : LvC F' n L :=
  ⟨h1.trans h.1, h.2.cong (fun i _ c h3 h4 => by rw [h2 c h3 h4])⟩
/-- levels written: everything else stands -/
theorem RC.lev {F' : MF} (hX : RX n t b z K) (h : RC F n t b K a S C E Fn U) (h0 : ∀ j, j ≠ 14 → F' n j = F n j) (hf : fr (fun c => c = n ∨ (n + 4 ≤ c ∧ c ≤ n + 10)) F F') : RC F' n t b K a S C E Fn U := by
  have hs := hX.2.2.2.2.2.2
  have hb := hX.2.2.2.2.2.1
  obtain ⟨⟨g1, g2, g3, g4⟩, h2, h3, h4⟩ := h
  have eb : F' b = F b := hf b (fun h => by
    rcases h with h | h
    · exact hb b (Or.inl h) rfl
    · exact hb b (Or.inr (Or.inl ⟨by omega, h.2⟩)) rfl)
  refine ⟨⟨?_, ?_, ?_, ?_⟩, ?_, ?_, h4.cong (fun c h5 h6 => hf c (by omega))⟩
  · rw [h0 _ (by decide)]; exact g1
  · rw [h0 _ (by decide)]; exact g2
  · rw [h0 _ (by decide)]; exact g3
  · rw [eb]; exact g4
  · rw [h0 _ (by decide)]; exact h2
  · rw [h0 _ (by decide), hf (n + 2) (by omega), hf (n + 3) (by omega)]; exact h3
theorem s_70 {x : Int} {o : Nat} (hX : RX n t b z K) (hS : St F) (h : RC F n t b K a S C E Fn U) (hL : LvC F n L) (hl : L.length < 200) :
    C_70 n x (o : Int) F (fun F' => RC F' n t b K a S C E Fn U ∧ LvC F' n (lv0 x o :: L) ∧ fr (fun c => c = n ∨ (n + 4 ≤ c ∧ c ≤ n + 10)) F F') m_no := by
  refine c_70 hX.1 hS ?_
  rw [hL.1, Int.toNat_natCast]
  refine ⟨fun _ => ⟨by omega, by omega, by omega, by omega, by omega, by omega, by omega, by omega, ?_⟩, fun h => by omega⟩
  have hf : fr (fun c => c = n ∨ (n + 4 ≤ c ∧ c ≤ n + 10)) F (m_up (m_up (m_up (m_up (m_up (m_up (m_up (m_up F (n + 4) L.length x) (n + 5) L.length (o : Int)) (n + 6) L.length 0) (n + 7) L.length (-1)) (n + 8) L.length (-1)) (n + 9) L.length (-1)) (n + 10) L.length (-1)) n 14 ((L.length : Int) + 1)) :=
    (((((((fr.rf.up (by omega)).up (by omega)).up (by omega)).up (by omega)).up (by omega)).up (by omega)).up (by omega)).up (by omega)
  refine ⟨h.lev hX (fun j hj => ?_) hf, ⟨?_, ?_⟩, hf⟩
  · rw [u_ne (Or.inr hj), up_row (by omega), up_row (by omega), up_row (by omega), up_row (by omega), up_row (by omega), up_row (by omega), up_row (by omega)]
  · rw [u_eq, List.length_cons]; omega
  · refine ⟨?_, ?_, ?_, ?_, ?_, ?_, ?_, hL.2.cong (fun i hi c h1 h2 => ?_)⟩
    · rw [up_row (by omega), up_row (by omega), up_row (by omega), up_row (by omega), up_row (by omega), up_row (by omega), up_row (by omega), u_eq]; rfl
    · rw [up_row (by omega), up_row (by omega), up_row (by omega), up_row (by omega), up_row (by omega), up_row (by omega), u_eq]; rfl
    · rw [up_row (by omega), up_row (by omega), up_row (by omega), up_row (by omega), up_row (by omega), u_eq]; rfl
    · rw [up_row (by omega), up_row (by omega), up_row (by omega), up_row (by omega), u_eq]; rfl
    · rw [up_row (by omega), up_row (by omega), up_row (by omega), u_eq]; rfl
    · rw [up_row (by omega), up_row (by omega), u_eq]; rfl
    · rw [up_row (by omega), u_eq]; rfl
    · rw [u_ne (Or.inl (by omega)), u_ne (Or.inr (by omega)), u_ne (Or.inr (by omega)), u_ne (Or.inr (by omega)), u_ne (Or.inr (by omega)), u_ne (Or.inr (by omega)), u_ne (Or.inr (by omega)), u_ne (Or.inr (by omega))]
theorem LvC.w6 {v : Int} (h : LvC F n (l :: r)) : LvC (m_up F (n + 6) r.length v) n ((shp l, opn l, v, nts l, tms l, ads l, cps l) :: r) := by
  refine ⟨?_, ?_, ?_, ?_, ?_, ?_, ?_, ?_, ?_⟩
  · rw [up_row (by omega)]; exact h.1
  · rw [up_row (by omega)]; exact h.2.1
  · rw [up_row (by omega)]; exact h.2.2.1
  · rw [u_eq]
  · rw [up_row (by omega)]; exact h.2.2.2.2.1
  · rw [up_row (by omega)]; exact h.2.2.2.2.2.1
  · rw [up_row (by omega)]; exact h.2.2.2.2.2.2.1
  · rw [up_row (by omega)]; exact h.2.2.2.2.2.2.2.1
  · exact h.2.2.2.2.2.2.2.2.cong (fun i hi c h1 h2 => u_ne (Or.inr (by omega)))
theorem LvC.w7 {v : Int} (h : LvC F n (l :: r)) : LvC (m_up F (n + 7) r.length v) n ((shp l, opn l, szs l, v, tms l, ads l, cps l) :: r) := by
  refine ⟨?_, ?_, ?_, ?_, ?_, ?_, ?_, ?_, ?_⟩
  · rw [up_row (by omega)]; exact h.1
  · rw [up_row (by omega)]; exact h.2.1
  · rw [up_row (by omega)]; exact h.2.2.1
  · rw [up_row (by omega)]; exact h.2.2.2.1
  · rw [u_eq]
  · rw [up_row (by omega)]; exact h.2.2.2.2.2.1
  · rw [up_row (by omega)]; exact h.2.2.2.2.2.2.1
  · rw [up_row (by omega)]; exact h.2.2.2.2.2.2.2.1
  · exact h.2.2.2.2.2.2.2.2.cong (fun i hi c h1 h2 => u_ne (Or.inr (by omega)))
theorem LvC.w8 {v : Int} (h : LvC F n (l :: r)) : LvC (m_up F (n + 8) r.length v) n ((shp l, opn l, szs l, nts l, v, ads l, cps l) :: r) := by
  refine ⟨?_, ?_, ?_, ?_, ?_, ?_, ?_, ?_, ?_⟩
  · rw [up_row (by omega)]; exact h.1
  · rw [up_row (by omega)]; exact h.2.1
  · rw [up_row (by omega)]; exact h.2.2.1
  · rw [up_row (by omega)]; exact h.2.2.2.1
  · rw [up_row (by omega)]; exact h.2.2.2.2.1
  · rw [u_eq]
  · rw [up_row (by omega)]; exact h.2.2.2.2.2.2.1
  · rw [up_row (by omega)]; exact h.2.2.2.2.2.2.2.1
  · exact h.2.2.2.2.2.2.2.2.cong (fun i hi c h1 h2 => u_ne (Or.inr (by omega)))
theorem LvC.w9 {v : Int} (h : LvC F n (l :: r)) : LvC (m_up F (n + 9) r.length v) n ((shp l, opn l, szs l, nts l, tms l, v, cps l) :: r) := by
  refine ⟨?_, ?_, ?_, ?_, ?_, ?_, ?_, ?_, ?_⟩
  · rw [up_row (by omega)]; exact h.1
  · rw [up_row (by omega)]; exact h.2.1
  · rw [up_row (by omega)]; exact h.2.2.1
  · rw [up_row (by omega)]; exact h.2.2.2.1
  · rw [up_row (by omega)]; exact h.2.2.2.2.1
  · rw [up_row (by omega)]; exact h.2.2.2.2.2.1
  · rw [u_eq]
  · rw [up_row (by omega)]; exact h.2.2.2.2.2.2.2.1
  · exact h.2.2.2.2.2.2.2.2.cong (fun i hi c h1 h2 => u_ne (Or.inr (by omega)))
theorem LvC.w10 {v : Int} (h : LvC F n (l :: r)) : LvC (m_up F (n + 10) r.length v) n ((shp l, opn l, szs l, nts l, tms l, ads l, v) :: r) := by
  refine ⟨?_, ?_, ?_, ?_, ?_, ?_, ?_, ?_, ?_⟩
  · rw [up_row (by omega)]; exact h.1
  · rw [up_row (by omega)]; exact h.2.1
  · rw [up_row (by omega)]; exact h.2.2.1
  · rw [up_row (by omega)]; exact h.2.2.2.1
  · rw [up_row (by omega)]; exact h.2.2.2.2.1
  · rw [up_row (by omega)]; exact h.2.2.2.2.2.1
  · rw [up_row (by omega)]; exact h.2.2.2.2.2.2.1
  · rw [u_eq]
  · exact h.2.2.2.2.2.2.2.2.cong (fun i hi c h1 h2 => u_ne (Or.inr (by omega)))
theorem LvC.pos {v : Int} (h : LvC F n L) : LvC (m_up F n 2 v) n L := h.keep (u_ne (Or.inr (by decide))) (fun c h1 h2 => up_row (by omega))
theorem LvC.emit {F' : MF} (hX : RX n t b z K) (h : LvC F n L) (hf : fr (TP t) F F') : LvC F' n L := by
  have hs := hX.2.2.2.2.2.2
  refine h.keep ?_ (fun c h1 h2 => ?_)
  · rw [hf n (fun h => by unfold TP at h; omega)]
  · exact hf c (fun h => by unfold TP at h; omega)
/-- a level's cell is written -/
theorem RC.lv1 {k i : Nat} {v : Int} (hX : RX n t b z K) (h : RC F n t b K a S C E Fn U) (hk : 4 ≤ k ∧ k ≤ 10) : RC (m_up F (n + k) i v) n t b K a S C E Fn U :=
  h.lev hX (fun j _ => by rw [up_row (by omega)]) (fr.rf.up (by omega))
abbrev XQ (n t b : Nat) (K : List Int) (S : List (Int × Int)) (E : EE) (Fn : FF) (U : List Int) (F : MF) (x : XS) : Int → MF → Prop := fun v F' => v = (x.1 : Int) ∧ XC F' n t b K S E Fn U x ∧ fr (RP n t) F F'
end M63
