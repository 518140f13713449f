/-! THE READER OF THE CLASS: exprs -/
def LvC (F : MF) (n : Nat) (L : List Lv) : Prop := F n 14 = (L.length : Int) ∧ LvAt F n L
def LOk (a : Nat) (l : Lv) : Prop := (0 ≤ shp l ∧ shp l ≤ 2) ∧ (0 ≤ opn l ∧ opn l < 200) ∧ (0 ≤ szs l ∧ szs l ≤ (a : Int)) ∧ (-1 ≤ nts l ∧ nts l < 200) ∧ (-1 ≤ tms l ∧ tms l < 200) ∧ (-1 ≤ ads l ∧ ads l < 200) ∧ (-1 ≤ cps l ∧ cps l < 200)
def pn1 (p : Int) : Nat := if p = -1 then 0 else 1
def pnl (l : Lv) : Nat := 1 + pn1 (nts l) + pn1 (tms l) + pn1 (ads l) + pn1 (cps l)
def pnd : List Lv → Nat
  | [] => 0
  | l :: r => pnl l + pnd r
theorem pnd_len : ∀ L : List Lv, L.length ≤ pnd L
  | [] => Nat.le_refl _
  | l :: r => by
    have := pnd_len r
    unfold pnd pnl
    rw [List.length_cons]
    omega
theorem wd_len (o : Nat) (p : Int) : (wd o p).length = pn1 p := by
  unfold wd pn1
  split <;> rfl
/-- what holds all the while an expr is read that began at a0 with c0 words -/
def XI (K : List Int) (c0 a0 : Nat) (x : XS) : Prop := a0 ≤ x.2.1 ∧ x.2.1 ≤ K.length ∧ (∀ l ∈ x.2.2.1, LOk x.2.1 l) ∧ x.2.2.2.length + pnd x.2.2.1 ≤ c0 + (x.2.1 - a0) + 1
theorem LOk.mo {a a' : Nat} {l : Lv} (h : LOk a l) (ha : a ≤ a') : LOk a' l := ⟨h.1, h.2.1, ⟨h.2.2.1.1, by have := h.2.2.1.2; omega⟩, h.2.2.2⟩
theorem LOk.lv0 {a o : Nat} {s : Int} (hs : 0 ≤ s ∧ s ≤ 2) (ho : o < 200) : LOk a (lv0 s (o : Int)) := by
  unfold LOk lv0
  refine ⟨hs, ⟨by show (0 : Int) ≤ (o : Int); omega, by show (o : Int) < 200; omega⟩, ⟨Int.le_refl _, by show (0 : Int) ≤ (a : Int); omega⟩, ⟨by decide, by decide⟩, ⟨by decide, by decide⟩, ⟨by decide, by decide⟩, ⟨by decide, by decide⟩⟩
def XC (F : MF) (n t b : Nat) (K : List Int) (S : List (Int × Int)) (E : EE) (Fn : FF) (U : List Int) (x : XS) : Prop := RC F n t b K x.2.1 S x.2.2.2 E Fn U ∧ LvC F n x.2.2.1
section M63
variable {F : MF} {n t b z a : Nat} {K : List Int} {S : List (Int × Int)} {C : List Int} {E : EE} {Fn : FF} {U : List Int} {L r : List Lv} {l : Lv} {c0 a0 : Nat}
/-- levels stand, if the reader's own cells are touched elsewhere -/
theorem LvC.fr {F' : MF} (h : LvC F n L) (h1 : F' n 14 = F n 14) (h2 : ∀ c, n + 4 ≤ c → c ≤ n + 10 → F' c = F c) : LvC F' n L :=
  ⟨h1.trans h.1, h.2.cong (fun i _ c h3 h4 => by rw [h2 c h3 h4])⟩
/-- levels written: everything else stands -/
theorem RC.lev {F' : MF} (hX : RX n t b z K) (h : RC F n t b K a S C E Fn U) (h0 : ∀ j, j ≠ 14 → F' n j = F n j) (hf : fr (fun c => c = n ∨ (n + 4 ≤ c ∧ c ≤ n + 10)) F F') : RC F' n t b K a S C E Fn U := by
  have hs := hX.2.2.2.2.2.2
  have hb := hX.2.2.2.2.2.1
  obtain ⟨⟨g1, g2, g3, g4⟩, h2, h3, h4⟩ := h
  have eb : F' b = F b := hf b (fun h => by
    rcases h with h | h
    · exact hb b (Or.inl h) rfl
    · exact hb b (Or.inr (Or.inl ⟨by omega, h.2⟩)) rfl)
  refine ⟨⟨?_, ?_, ?_, ?_⟩, ?_, ?_, h4.cong (fun c h5 h6 => hf c (by omega))⟩
  · rw [h0 _ (by decide)]; exact g1
  · rw [h0 _ (by decide)]; exact g2
  · rw [h0 _ (by decide)]; exact g3
  · rw [eb]; exact g4
  · rw [h0 _ (by decide)]; exact h2
  · rw [h0 _ (by decide), hf (n + 2) (by omega), hf (n + 3) (by omega)]; exact h3
theorem s_70 {x : Int} {o : Nat} (hX : RX n t b z K) (hS : St F) (h : RC F n t b K a S C E Fn U) (hL : LvC F n L) (hl : L.length < 200) :
    C_70 n x (o : Int) F (fun F' => RC F' n t b K a S C E Fn U ∧ LvC F' n (lv0 x o :: L) ∧ fr (fun c => c = n ∨ (n + 4 ≤ c ∧ c ≤ n + 10)) F F') m_no := by
  refine c_70 hX.1 hS ?_
  rw [hL.1, Int.toNat_natCast]
  refine ⟨fun _ => ⟨by omega, by omega, by omega, by omega, by omega, by omega, by omega, by omega, ?_⟩, fun h => by omega⟩
  have hf : fr (fun c => c = n ∨ (n + 4 ≤ c ∧ c ≤ n + 10)) F (m_up (m_up (m_up (m_up (m_up (m_up (m_up (m_up F (n + 4) L.length x) (n + 5) L.length (o : Int)) (n + 6) L.length 0) (n + 7) L.length (-1)) (n + 8) L.length (-1)) (n + 9) L.length (-1)) (n + 10) L.length (-1)) n 14 ((L.length : Int) + 1)) :=
    (((((((fr.rf.up (by omega)).up (by omega)).up (by omega)).up (by omega)).up (by omega)).up (by omega)).up (by omega)).up (by omega)
  refine ⟨h.lev hX (fun j hj => ?_) hf, ⟨?_, ?_⟩, hf⟩
  · rw [u_ne (Or.inr hj), up_row (by omega), up_row (by omega), up_row (by omega), up_row (by omega), up_row (by omega), up_row (by omega), up_row (by omega)]
  · rw [u_eq, List.length_cons]; omega
  · refine ⟨?_, ?_, ?_, ?_, ?_, ?_, ?_, hL.2.cong (fun i hi c h1 h2 => ?_)⟩
    · rw [up_row (by omega), up_row (by omega), up_row (by omega), up_row (by omega), up_row (by omega), up_row (by omega), up_row (by omega), u_eq]; rfl
    · rw [up_row (by omega), up_row (by omega), up_row (by omega), up_row (by omega), up_row (by omega), up_row (by omega), u_eq]; rfl
    · rw [up_row (by omega), up_row (by omega), up_row (by omega), up_row (by omega), up_row (by omega), u_eq]; rfl
    · rw [up_row (by omega), up_row (by omega), up_row (by omega), up_row (by omega), u_eq]; rfl
    · rw [up_row (by omega), up_row (by omega), up_row (by omega), u_eq]; rfl
    · rw [up_row (by omega), up_row (by omega), u_eq]; rfl
    · rw [up_row (by omega), u_eq]; rfl
    · rw [u_ne (Or.inl (by omega)), u_ne (Or.inr (by omega)), u_ne (Or.inr (by omega)), u_ne (Or.inr (by omega)), u_ne (Or.inr (by omega)), u_ne (Or.inr (by omega)), u_ne (Or.inr (by omega)), u_ne (Or.inr (by omega))]
theorem LvC.szs {v : Int} (h : LvC F n (l :: r)) : LvC (m_up F (n + 6) r.length v) n ((shp l, opn l, v, nts l, tms l, ads l, cps l) :: r) := by
  refine ⟨?_, ?_, ?_, ?_, ?_, ?_, ?_, ?_, ?_⟩
  · rw [up_row (by omega)]; exact h.1
  · rw [up_row (by omega)]; exact h.2.1
  · rw [up_row (by omega)]; exact h.2.2.1
  · rw [u_eq]
  · rw [up_row (by omega)]; exact h.2.2.2.2.1
  · rw [up_row (by omega)]; exact h.2.2.2.2.2.1
  · rw [up_row (by omega)]; exact h.2.2.2.2.2.2.1
  · rw [up_row (by omega)]; exact h.2.2.2.2.2.2.2.1
  · exact h.2.2.2.2.2.2.2.2.cong (fun i hi c h1 h2 => u_ne (Or.inr (by omega)))
theorem LvC.nts {v : Int} (h : LvC F n (l :: r)) : LvC (m_up F (n + 7) r.length v) n ((shp l, opn l, szs l, v, tms l, ads l, cps l) :: r) := by
  refine ⟨?_, ?_, ?_, ?_, ?_, ?_, ?_, ?_, ?_⟩
  · rw [up_row (by omega)]; exact h.1
  · rw [up_row (by omega)]; exact h.2.1
  · rw [up_row (by omega)]; exact h.2.2.1
  · rw [up_row (by omega)]; exact h.2.2.2.1
  · rw [u_eq]
  · rw [up_row (by omega)]; exact h.2.2.2.2.2.1
  · rw [up_row (by omega)]; exact h.2.2.2.2.2.2.1
  · rw [up_row (by omega)]; exact h.2.2.2.2.2.2.2.1
  · exact h.2.2.2.2.2.2.2.2.cong (fun i hi c h1 h2 => u_ne (Or.inr (by omega)))
theorem LvC.tms {v : Int} (h : LvC F n (l :: r)) : LvC (m_up F (n + 8) r.length v) n ((shp l, opn l, szs l, nts l, v, ads l, cps l) :: r) := by
  refine ⟨?_, ?_, ?_, ?_, ?_, ?_, ?_, ?_, ?_⟩
  · rw [up_row (by omega)]; exact h.1
  · rw [up_row (by omega)]; exact h.2.1
  · rw [up_row (by omega)]; exact h.2.2.1
  · rw [up_row (by omega)]; exact h.2.2.2.1
  · rw [up_row (by omega)]; exact h.2.2.2.2.1
  · rw [u_eq]
  · rw [up_row (by omega)]; exact h.2.2.2.2.2.2.1
  · rw [up_row (by omega)]; exact h.2.2.2.2.2.2.2.1
  · exact h.2.2.2.2.2.2.2.2.cong (fun i hi c h1 h2 => u_ne (Or.inr (by omega)))
theorem LvC.ads {v : Int} (h : LvC F n (l :: r)) : LvC (m_up F (n + 9) r.length v) n ((shp l, opn l, szs l, nts l, tms l, v, cps l) :: r) := by
  refine ⟨?_, ?_, ?_, ?_, ?_, ?_, ?_, ?_, ?_⟩
  · rw [up_row (by omega)]; exact h.1
  · rw [up_row (by omega)]; exact h.2.1
  · rw [up_row (by omega)]; exact h.2.2.1
  · rw [up_row (by omega)]; exact h.2.2.2.1
  · rw [up_row (by omega)]; exact h.2.2.2.2.1
  · rw [up_row (by omega)]; exact h.2.2.2.2.2.1
  · rw [u_eq]
  · rw [up_row (by omega)]; exact h.2.2.2.2.2.2.2.1
  · exact h.2.2.2.2.2.2.2.2.cong (fun i hi c h1 h2 => u_ne (Or.inr (by omega)))
theorem LvC.cps {v : Int} (h : LvC F n (l :: r)) : LvC (m_up F (n + 10) r.length v) n ((shp l, opn l, szs l, nts l, tms l, ads l, v) :: r) := by
  refine ⟨?_, ?_, ?_, ?_, ?_, ?_, ?_, ?_, ?_⟩
  · rw [up_row (by omega)]; exact h.1
  · rw [up_row (by omega)]; exact h.2.1
  · rw [up_row (by omega)]; exact h.2.2.1
  · rw [up_row (by omega)]; exact h.2.2.2.1
  · rw [up_row (by omega)]; exact h.2.2.2.2.1
  · rw [up_row (by omega)]; exact h.2.2.2.2.2.1
  · rw [up_row (by omega)]; exact h.2.2.2.2.2.2.1
  · rw [u_eq]
  · exact h.2.2.2.2.2.2.2.2.cong (fun i hi c h1 h2 => u_ne (Or.inr (by omega)))
theorem LvC.pos {v : Int} (h : LvC F n L) : LvC (m_up F n 2 v) n L := h.fr (u_ne (Or.inr (by decide))) (fun c h1 h2 => up_row (by omega))
theorem LvC.emit {F' : MF} (hX : RX n t b z K) (h : LvC F n L) (hf : fr (TP t) F F') : LvC F' n L := by
  have hs := hX.2.2.2.2.2.2
  refine h.fr ?_ (fun c h1 h2 => ?_)
  · rw [hf n (fun h => by unfold TP at h; omega)]
  · exact hf c (fun h => by unfold TP at h; omega)
/-- a level's cell is written -/
theorem RC.lv1 {k i : Nat} {v : Int} (hX : RX n t b z K) (h : RC F n t b K a S C E Fn U) (hk : 4 ≤ k ∧ k ≤ 10) : RC (m_up F (n + k) i v) n t b K a S C E Fn U :=
  h.lev hX (fun j _ => by rw [up_row (by omega)]) (fr.rf.up (by omega))
theorem RP.lv {k : Nat} (hk : 2 ≤ k ∧ k ≤ 10) : RP n t (n + k) := Or.inr (Or.inl ⟨by omega, by omega⟩)
abbrev XQ (n t b : Nat) (K : List Int) (S : List (Int × Int)) (E : EE) (Fn : FF) (U : List Int) (F : MF) (x : XS) : Int → MF → Prop := fun v F' => v = (x.1 : Int) ∧ XC F' n t b K S E Fn U x ∧ fr (RP n t) F F'
theorem s_73 (hX : RX n t b z K) (hS : St F) (h : RC F n t b K a S C E Fn U) (hL : LvC F n (l :: r)) (ha : a < 1000) (hr : r.length < 200) (hz : -1 ≤ szs l ∧ szs l < 1000) :
    C_73 n (kn K a) (r.length : Int) F (XQ n t b K S E Fn U F (xcl K a l r C)) m_no := by
  obtain ⟨l1, l2, l3, l4, l5, l6, l7, l8⟩ := hL.2
  unfold xcl
  refine c_73 hX.1 hS ?_
  rw [Int.toNat_natCast, l1, l3, h.2.1]
  refine ⟨by omega, ⟨fun h1 => ?_, fun h1 => ⟨by omega, ⟨fun h2 => ⟨by omega, by omega, by omega, ⟨fun h3 => ⟨by omega, ?_⟩, fun h3 => ⟨fun h4 => ?_, fun h4 => ?_⟩⟩⟩, fun h2 => ⟨fun h4 => ?_, fun h4 => ?_⟩⟩⟩⟩⟩
  · rw [if_pos h1]
    exact ⟨rfl, ⟨h, hL⟩, fr.rf⟩
  · rw [if_neg h1, if_pos h2, if_pos h3]
    exact ⟨rfl, ⟨(h.lv1 hX (by omega)).pos hX (by omega), hL.szs.pos⟩, (fr.rf.up (RP.lv (by omega))).up (Or.inl rfl)⟩
  · rw [if_neg h1, if_pos h2, if_neg h3, if_pos h4]
    exact ⟨rfl, ⟨h.lv1 hX (by omega), hL.szs⟩, fr.rf.up (RP.lv (by omega))⟩
  · rw [if_neg h1, if_pos h2, if_neg h3, if_neg h4]
    exact ⟨rfl, ⟨h.lv1 hX (by omega), hL.szs⟩, fr.rf.up (RP.lv (by omega))⟩
  · rw [if_neg h1, if_neg h2, if_pos h4]
    exact ⟨rfl, ⟨h, hL⟩, fr.rf⟩
  · rw [if_neg h1, if_neg h2, if_neg h4]
    exact ⟨rfl, ⟨h, hL⟩, fr.rf⟩
/-- a word for what waited, if anything did -/
theorem s_wd {o : Nat} {p : Int} (hX : RX n t b z K) (hS : St F) (h : RC F n t b K a S C E Fn U) (hC : C.length < 640) (ho : o < 256) (hp : 0 ≤ p ∧ p < 200) :
    C_121 t (o : Int) p 0 F (fun F' => RC F' n t b K a S (C ++ wd o p) E Fn U ∧ fr (TP t) F F') m_no := by
  obtain ⟨k, rfl⟩ := Int.eq_ofNat_of_zero_le hp.1
  have hw : wd o (k : Int) = [mk o k 0] := by
    unfold wd
    rw [if_neg (by omega), Int.toNat_natCast]
  rw [hw]
  refine EvV.mono (s_121 (o := o) (p := k) (e := 0) hX.2.1 hS h.2.2.2 hC ho (by omega) (by omega)) (fun F' _ k => ⟨h.tree hX k.2 k.1, k.2⟩) (fun _ _ _ h => h)
theorem TP_RP : ∀ c, TP t c → RP n t c := fun c h => Or.inr (Or.inr h)
theorem l_72d {x1 x2 x3 x7 : Int} (hX : RX n t b z K) (hS : St F) (h : RC F n t b K a S C E Fn U) (hL : LvC F n ((x1, x2, x3, -1, -1, -1, x7) :: r)) (ha : a < 200) (hr : r.length < 200) (hz : LOk a (x1, x2, x3, -1, -1, -1, x7)) (hC : C.length + 1 < 640) :
    L_72_143 n (kn K a) (r.length : Int) F (XQ n t b K S E Fn U F (xb3 K a (x1, x2, x3, -1, -1, -1, x7) r C)) m_no := by
  obtain ⟨l1, l2, l3, l4, l5, l6, l7, l8⟩ := hL.2
  change F (n + 10) r.length = x7 at l7
  have hk : -1 ≤ x7 ∧ x7 < 200 := hz.2.2.2.2.2.2
  have hz3 : 0 ≤ x3 ∧ x3 ≤ (a : Int) := hz.2.2.1
  have add : (kn K a = 19 ∨ kn K a = 20) → XQ n t b K S E Fn U F (xb3 K a (x1, x2, x3, -1, -1, -1, x7) r C) 1 (m_up (m_up F (n + 9) r.length (F n 2)) n 2 (F n 2 + 1)) := fun h1 => by
    unfold xb3
    rw [if_pos h1, h.2.1]
    exact ⟨rfl, ⟨(h.lv1 hX (by omega)).pos hX (by omega), hL.ads.pos⟩, (fr.rf.up (RP.lv (by omega))).up (Or.inl rfl)⟩
  have cmp : ¬ (kn K a = 19 ∨ kn K a = 20) → x7 = -1 → (kn K a = 17 ∨ kn K a = 18) → XQ n t b K S E Fn U F (xb3 K a (x1, x2, x3, -1, -1, -1, x7) r C) 1 (m_up (m_up F (n + 10) r.length (F n 2)) n 2 (F n 2 + 1)) := fun h0 h3 h1 => by
    unfold xb3
    rw [if_neg h0, if_pos h3, if_pos h1, h.2.1]
    exact ⟨rfl, ⟨(h.lv1 hX (by omega)).pos hX (by omega), hL.cps.pos⟩, (fr.rf.up (RP.lv (by omega))).up (Or.inl rfl)⟩
  have hat := h.2.1
  refine b_72_143 hX.1 hS ?_
  rw [Int.toNat_natCast, l7]
  refine ⟨fun h1 => ⟨by omega, by omega, add (Or.inl h1)⟩, fun h1 => ⟨fun h2 => ⟨by omega, by omega, add (Or.inr h2)⟩, fun h2 => ⟨by omega, ⟨fun h3 => ⟨fun h4 => ⟨by omega, by omega, cmp (by omega) h3 (Or.inl h4)⟩, fun h4 => ⟨fun h5 => ⟨by omega, by omega, cmp (by omega) h3 (Or.inr h5)⟩, fun h5 => ?_⟩⟩, fun h3 => ?_⟩⟩⟩⟩
  · have he : xb3 K a (x1, x2, x3, -1, -1, -1, x7) r C = xcl K a (x1, x2, x3, -1, -1, -1, -1) r C := by
      unfold xb3
      rw [if_neg (by omega), if_pos h3, if_neg (by omega)]
    rw [he]
    subst h3
    exact s_73 hX hS h hL (by omega) hr ⟨by show -1 ≤ x3; omega, by show x3 < 1000; omega⟩
  · have he : xb3 K a (x1, x2, x3, -1, -1, -1, x7) r C = xcl K a (x1, x2, x3, -1, -1, -1, -1) r (C ++ wd 17 x7) := by
      unfold xb3
      rw [if_neg (by omega), if_neg h3]
    rw [he]
    refine ⟨t, h.1.2.2.1, hX.2.1, by omega, ?_⟩
    refine CaV.on (s_wd (o := 17) hX hS h (by omega) (by omega) ⟨by omega, hk.2⟩) ?_
    rintro F1 hS1 ⟨k1, k2⟩
    have hL1 : LvC F1 n ((x1, x2, x3, -1, -1, -1, x7) :: r) := LvC.emit hX hL k2
    refine ⟨by omega, ?_⟩
    refine CaI.on (s_73 (l := (x1, x2, x3, -1, -1, -1, -1)) hX (hS1.arr (ka_4_13 hX.1) (by decide)) (k1.lv1 hX (by omega)) hL1.cps (by omega) hr ⟨by show -1 ≤ x3; omega, by show x3 < 1000; omega⟩) ?_
    rintro v F2 _ ⟨k3, k4, k5⟩
    exact ⟨k3, k4, ((k2.mo TP_RP).up (RP.lv (by omega))).tr k5⟩
theorem l_72c {x1 x2 x3 x6 x7 : Int} (hX : RX n t b z K) (hS : St F) (h : RC F n t b K a S C E Fn U) (hL : LvC F n ((x1, x2, x3, -1, -1, x6, x7) :: r)) (ha : a < 200) (hr : r.length < 200) (hz : LOk a (x1, x2, x3, -1, -1, x6, x7)) (hC : C.length + 2 < 640) :
    L_72_82 n (kn K a) (r.length : Int) F (XQ n t b K S E Fn U F (xb2 K a (x1, x2, x3, -1, -1, x6, x7) r C)) m_no := by
  obtain ⟨l1, l2, l3, l4, l5, l6, l7, l8⟩ := hL.2
  change F (n + 9) r.length = x6 at l6
  have hk : -1 ≤ x6 ∧ x6 < 200 := hz.2.2.2.2.2.1
  have hat := h.2.1
  unfold xb2
  refine b_72_82 hX.1 hS ?_
  rw [Int.toNat_natCast, l6]
  refine ⟨fun h1 => ⟨by omega, by omega, ?_⟩, fun h1 => ⟨by omega, ⟨fun h2 => ?_, fun h2 => ⟨t, h.1.2.2.1, hX.2.1, by omega, ?_⟩⟩⟩⟩
  · rw [if_pos h1, h.2.1]
    exact ⟨rfl, ⟨(h.lv1 hX (by omega)).pos hX (by omega), hL.tms.pos⟩, (fr.rf.up (RP.lv (by omega))).up (Or.inl rfl)⟩
  · rw [if_neg h1]
    subst h2
    show L_72_143 n (kn K a) (r.length : Int) F (XQ n t b K S E Fn U F (xb3 K a (x1, x2, x3, -1, -1, -1, x7) r (C ++ []))) m_no
    rw [List.append_nil]
    exact l_72d hX hS h hL ha hr hz (by omega)
  · rw [if_neg h1]
    refine CaV.on (s_wd (o := 17) hX hS h (by omega) (by omega) ⟨by omega, hk.2⟩) ?_
    rintro F1 hS1 ⟨k1, k2⟩
    have hL1 := (LvC.emit hX hL k2).ads (v := -1)
    refine ⟨by omega, EvI.mono (l_72d (x1 := x1) (x2 := x2) (x3 := x3) (x7 := x7) hX (hS1.arr (ka_4_12 hX.1) (by decide)) (k1.lv1 hX (by omega)) hL1 ha hr ⟨hz.1, hz.2.1, hz.2.2.1, hz.2.2.2.1, hz.2.2.2.2.1, ⟨by decide, by decide⟩, hz.2.2.2.2.2.2⟩ (by rw [List.length_append, wd_len]; unfold pn1; split <;> omega)) ?_ (fun _ _ _ h => h)⟩
    rintro v F2 _ ⟨k3, k4, k5⟩
    exact ⟨k3, k4, ((k2.mo TP_RP).up (RP.lv (by omega))).tr k5⟩
theorem l_72b {x1 x2 x3 x5 x6 x7 : Int} (hX : RX n t b z K) (hS : St F) (h : RC F n t b K a S C E Fn U) (hL : LvC F n ((x1, x2, x3, -1, x5, x6, x7) :: r)) (ha : a < 200) (hr : r.length < 200) (hz : LOk a (x1, x2, x3, -1, x5, x6, x7)) (hC : C.length + 3 < 640) :
    L_72_49 n (kn K a) (r.length : Int) F (XQ n t b K S E Fn U F (xb2 K a (x1, x2, x3, -1, -1, x6, x7) r (C ++ wd 17 x5))) m_no := by
  obtain ⟨l1, l2, l3, l4, l5, l6, l7, l8⟩ := hL.2
  change F (n + 8) r.length = x5 at l5
  have hk : -1 ≤ x5 ∧ x5 < 200 := hz.2.2.2.2.1
  refine b_72_49 hX.1 hS ?_
  rw [Int.toNat_natCast, l5]
  refine ⟨by omega, ⟨fun h2 => ?_, fun h2 => ⟨t, h.1.2.2.1, hX.2.1, by omega, ?_⟩⟩⟩
  · subst h2
    show L_72_82 n (kn K a) (r.length : Int) F (XQ n t b K S E Fn U F (xb2 K a (x1, x2, x3, -1, -1, x6, x7) r (C ++ []))) m_no
    rw [List.append_nil]
    exact l_72c hX hS h hL ha hr hz (by omega)
  · refine CaV.on (s_wd (o := 17) hX hS h (by omega) (by omega) ⟨by omega, hk.2⟩) ?_
    rintro F1 hS1 ⟨k1, k2⟩
    have hL1 := (LvC.emit hX hL k2).tms (v := -1)
    refine ⟨by omega, EvI.mono (l_72c (x1 := x1) (x2 := x2) (x3 := x3) (x6 := x6) (x7 := x7) hX (hS1.arr (ka_4_11 hX.1) (by decide)) (k1.lv1 hX (by omega)) hL1 ha hr ⟨hz.1, hz.2.1, hz.2.2.1, hz.2.2.2.1, ⟨by decide, by decide⟩, hz.2.2.2.2.2⟩ (by rw [List.length_append, wd_len]; unfold pn1; split <;> omega)) ?_ (fun _ _ _ h => h)⟩
    rintro v F2 _ ⟨k3, k4, k5⟩
    exact ⟨k3, k4, ((k2.mo TP_RP).up (RP.lv (by omega))).tr k5⟩
theorem s_72 (hX : RX n t b z K) (hS : St F) (h : RC F n t b K a S C E Fn U) (hL : LvC F n (l :: r)) (ha : a < 200) (hr : r.length < 200) (hz : LOk a l) (hC : C.length + 4 < 640) :
    C_72 n F (XQ n t b K S E Fn U F (xbh K a l r C)) m_no := by
  obtain ⟨x1, x2, x3, x4, x5, x6, x7⟩ := l
  obtain ⟨l1, l2, l3, l4, l5, l6, l7, l8⟩ := hL.2
  change F (n + 7) r.length = x4 at l4
  have hk : -1 ≤ x4 ∧ x4 < 200 := hz.2.2.2.1
  have e14 : F n 14 - 1 = (r.length : Int) := by
    rw [hL.1, List.length_cons]
    omega
  have hb2 : xbh K a (x1, x2, x3, x4, x5, x6, x7) r C = xb2 K a (x1, x2, x3, -1, -1, x6, x7) r (C ++ wd 16 x4 ++ wd 17 x5) := rfl
  rw [hb2]
  refine c_72 hX.1 hS ?_
  rw [h.2.1]
  refine CaI.on (s_59 hX hS h.1) ?_
  rintro v F1 hS1 ⟨rfl, rfl⟩
  rw [e14, Int.toNat_natCast, l4]
  refine ⟨by omega, by omega, ⟨fun h2 => ?_, fun h2 => ⟨t, h.1.2.2.1, hX.2.1, by omega, ?_⟩⟩⟩
  · subst h2
    show L_72_49 n (kn K a) (r.length : Int) F1 (XQ n t b K S E Fn U F1 (xb2 K a (x1, x2, x3, -1, -1, x6, x7) r (C ++ [] ++ wd 17 x5))) m_no
    rw [List.append_nil]
    exact l_72b hX hS h hL ha hr hz (by omega)
  · refine CaV.on (s_wd (o := 16) hX hS h (by omega) (by omega) ⟨by omega, hk.2⟩) ?_
    rintro F2 hS2 ⟨k1, k2⟩
    have hL1 := (LvC.emit hX hL k2).nts (v := -1)
    refine ⟨by omega, EvI.mono (l_72b (x1 := x1) (x2 := x2) (x3 := x3) (x5 := x5) (x6 := x6) (x7 := x7) hX (hS2.arr (ka_4_10 hX.1) (by decide)) (k1.lv1 hX (by omega)) hL1 ha hr ⟨hz.1, hz.2.1, hz.2.2.1, ⟨by decide, by decide⟩, hz.2.2.2.2⟩ (by rw [List.length_append, wd_len]; unfold pn1; split <;> omega)) ?_ (fun _ _ _ h => h)⟩
    rintro v F3 _ ⟨k3, k4, k5⟩
    exact ⟨k3, k4, ((k2.mo TP_RP).up (RP.lv (by omega))).tr k5⟩
theorem s_71 (hX : RX n t b z K) (hS : St F) (h : RC F n t b K a S C E Fn U) (hL : LvC F n (l :: r)) (ha : a < 198) (hr : r.length < 198) (hz : LOk a l) (hC : C.length + 4 < 640) :
    C_71 n F (XQ n t b K S E Fn U F (xop K a l r C)) m_no := by
  obtain ⟨l1, l2, l3, l4, l5, l6, l7, l8⟩ := hL.2
  have e14 : F n 14 - 1 = (r.length : Int) := by
    rw [hL.1, List.length_cons]
    omega
  have hat := h.2.1
  have hop : 0 ≤ opn l ∧ opn l < 200 := hz.2.1
  have hlen : (l :: r).length < 200 := by rw [List.length_cons]; omega
  unfold xop
  -- a name, a number, yes or no; or nothing of these
  have leaf : ¬ (kn K a = 22 ∧ nts l = -1) → ¬ (kn K a = 0 ∧ kn K (a + 1) = 10) → kn K a ≠ 10 → ¬ (kn K a = 11 ∧ shp l = 2 ∧ (a : Int) = opn l + 2) → (kn K a = 0 ∨ kn K a = 1 ∨ kn K a = 8 ∨ kn K a = 9) →
      L_71_177 n F (XQ n t b K S E Fn U F (if kn K a = 22 ∧ nts l = -1 then (1, a + 1, (shp l, opn l, szs l, (a : Int), tms l, ads l, cps l) :: r, C) else if kn K a = 0 ∧ kn K (a + 1) = 10 then (1, a + 2, lv0 2 a :: l :: r, C) else if kn K a = 10 then (1, a + 1, lv0 1 a :: l :: r, C) else if kn K a = 11 ∧ shp l = 2 ∧ (a : Int) = opn l + 2 then (4, a, l :: r, C) else if kn K a = 0 ∨ kn K a = 1 ∨ kn K a = 8 ∨ kn K a = 9 then (2, a + 1, l :: r, C ++ [mk 14 a 0]) else (0, a, l :: r, C))) m_no := by
    intro h1 h2 h3 h4 h5
    rw [if_neg h1, if_neg h2, if_neg h3, if_neg h4, if_pos h5]
    refine b_71_177 hX.1 hS ⟨t, h.1.2.2.1, hX.2.1, ?_⟩
    rw [h.2.1]
    refine CaV.on (s_121 (o := 14) (p := a) (e := 0) hX.2.1 hS h.2.2.2 (by omega) (by omega) (by omega) (by omega)) ?_
    rintro F1 hS1 ⟨k1, k2⟩
    have h6 := h.tree hX k2 k1
    rw [h6.2.1]
    exact ⟨by omega, rfl, ⟨h6.pos hX (by omega), (LvC.emit hX hL k2).pos⟩, (k2.mo TP_RP).up (Or.inl rfl)⟩
  have l94 : ¬ (kn K a = 22 ∧ nts l = -1) → ¬ (kn K a = 0 ∧ kn K (a + 1) = 10) → L_71_94 n (kn K a) (r.length : Int) F (XQ n t b K S E Fn U F (if kn K a = 22 ∧ nts l = -1 then (1, a + 1, (shp l, opn l, szs l, (a : Int), tms l, ads l, cps l) :: r, C) else if kn K a = 0 ∧ kn K (a + 1) = 10 then (1, a + 2, lv0 2 a :: l :: r, C) else if kn K a = 10 then (1, a + 1, lv0 1 a :: l :: r, C) else if kn K a = 11 ∧ shp l = 2 ∧ (a : Int) = opn l + 2 then (4, a, l :: r, C) else if kn K a = 0 ∨ kn K a = 1 ∨ kn K a = 8 ∨ kn K a = 9 then (2, a + 1, l :: r, C ++ [mk 14 a 0]) else (0, a, l :: r, C))) m_no := by
    intro h1 h2
    refine b_71_94 hX.1 hS ?_
    rw [Int.toNat_natCast, l1, l2, h.2.1]
    have rest : kn K a ≠ 10 → ¬ (kn K a = 11 ∧ shp l = 2 ∧ (a : Int) = opn l + 2) → ¬ (kn K a = 0 ∨ kn K a = 1 ∨ kn K a = 8 ∨ kn K a = 9) → XQ n t b K S E Fn U F (if kn K a = 22 ∧ nts l = -1 then (1, a + 1, (shp l, opn l, szs l, (a : Int), tms l, ads l, cps l) :: r, C) else if kn K a = 0 ∧ kn K (a + 1) = 10 then (1, a + 2, lv0 2 a :: l :: r, C) else if kn K a = 10 then (1, a + 1, lv0 1 a :: l :: r, C) else if kn K a = 11 ∧ shp l = 2 ∧ (a : Int) = opn l + 2 then (4, a, l :: r, C) else if kn K a = 0 ∨ kn K a = 1 ∨ kn K a = 8 ∨ kn K a = 9 then (2, a + 1, l :: r, C ++ [mk 14 a 0]) else (0, a, l :: r, C)) 0 F := by
      intro h3 h4 h5
      rw [if_neg h1, if_neg h2, if_neg h3, if_neg h4, if_neg h5]
      exact ⟨rfl, ⟨h, hL⟩, fr.rf⟩
    have kinds : kn K a ≠ 10 → ¬ (kn K a = 11 ∧ shp l = 2 ∧ (a : Int) = opn l + 2) → _ := fun h3 h4 => (⟨fun h5 => leaf h1 h2 h3 h4 (Or.inl h5), fun h5 => ⟨fun h6 => leaf h1 h2 h3 h4 (Or.inr (Or.inl h6)), fun h6 => ⟨fun h7 => leaf h1 h2 h3 h4 (Or.inr (Or.inr (Or.inl h7))), fun h7 => ⟨fun h8 => leaf h1 h2 h3 h4 (Or.inr (Or.inr (Or.inr h8))), fun h8 => rest h3 h4 (by omega)⟩⟩⟩⟩ : (kn K a = 0 → _) ∧ (¬ kn K a = 0 → (kn K a = 1 → _) ∧ (¬ kn K a = 1 → (kn K a = 8 → _) ∧ (¬ kn K a = 8 → (kn K a = 9 → _) ∧ (¬ kn K a = 9 → _)))))
    refine ⟨fun h3 => ?_, fun h3 => ⟨fun h4 => ⟨by omega, ⟨fun h5 => ⟨by omega, by omega, ⟨fun h6 => ?_, fun h6 => kinds h3 (fun h7 => h6 h7.2.2)⟩⟩, fun h5 => kinds h3 (fun h7 => h5 h7.2.1)⟩⟩, fun h4 => kinds h3 (fun h7 => h4 h7.1)⟩⟩
    · rw [if_neg h1, if_neg h2, if_pos h3]
      refine CaV.on (s_70 (x := 1) (o := a) hX hS h hL hlen) ?_
      rintro F1 hS1 ⟨k1, k2, k3⟩
      rw [k1.2.1]
      exact ⟨by omega, rfl, ⟨k1.pos hX (by omega), k2.pos⟩, (k3.mo (fun c h => by unfold RP; omega)).up (Or.inl rfl)⟩
    · rw [if_neg h1, if_neg h2, if_neg h3, if_pos ⟨h4, h5, h6⟩]
      exact ⟨rfl, ⟨h, hL⟩, fr.rf⟩
  have l54 : ¬ (kn K a = 22 ∧ nts l = -1) → L_71_54 n (kn K a) (r.length : Int) F (XQ n t b K S E Fn U F (if kn K a = 22 ∧ nts l = -1 then (1, a + 1, (shp l, opn l, szs l, (a : Int), tms l, ads l, cps l) :: r, C) else if kn K a = 0 ∧ kn K (a + 1) = 10 then (1, a + 2, lv0 2 a :: l :: r, C) else if kn K a = 10 then (1, a + 1, lv0 1 a :: l :: r, C) else if kn K a = 11 ∧ shp l = 2 ∧ (a : Int) = opn l + 2 then (4, a, l :: r, C) else if kn K a = 0 ∨ kn K a = 1 ∨ kn K a = 8 ∨ kn K a = 9 then (2, a + 1, l :: r, C ++ [mk 14 a 0]) else (0, a, l :: r, C))) m_no := by
    intro h1
    refine b_71_54 hX.1 hS ?_
    rw [h.2.1]
    refine ⟨fun h2 => ⟨by omega, ?_⟩, fun h2 => l94 h1 (fun h3 => h2 h3.1)⟩
    rw [show (a : Int) + 1 = ((a + 1 : Nat) : Int) by omega]
    refine CaI.on (s_59 hX hS h.1) ?_
    rintro v F1 hS1 ⟨rfl, rfl⟩
    refine ⟨fun h3 => ?_, fun h3 => l94 h1 (fun h4 => h3 h4.2)⟩
    rw [if_neg h1, if_pos ⟨h2, h3⟩, h.2.1]
    refine CaV.on (s_70 (x := 2) (o := a) hX hS1 h hL hlen) ?_
    rintro F2 hS2 ⟨k1, k2, k3⟩
    rw [k1.2.1]
    exact ⟨by omega, rfl, ⟨k1.pos hX (by omega), k2.pos⟩, (k3.mo (fun c h => by unfold RP; omega)).up (Or.inl rfl)⟩
  refine c_71 hX.1 hS ?_
  rw [h.2.1]
  refine CaI.on (s_59 hX hS h.1) ?_
  rintro v F1 hS1 ⟨rfl, rfl⟩
  rw [e14, Int.toNat_natCast, l4, h.2.1]
  refine ⟨by omega, ⟨fun h1 => ⟨by omega, ⟨fun h2 => ⟨by omega, by omega, ?_⟩, fun h2 => l54 (fun h3 => h2 h3.2)⟩⟩, fun h1 => l54 (fun h3 => h1 h3.1)⟩⟩
  rw [if_pos ⟨h1, h2⟩]
  exact ⟨rfl, ⟨(h.lv1 hX (by omega)).pos hX (by omega), hL.nts.pos⟩, (fr.rf.up (RP.lv (by omega))).up (Or.inl rfl)⟩
end M63
