/-! PRINTING: numbers, the class -/
/-- a print, and numbers behind it -/
def prn (p : Int) (ns : List Int) : Int := ns.foldl (fun p n => w64 (w64 (31 * p) + n)) p
/-- numbers as a factor and a sum -/
def Afn (a : Int × Int) (ns : List Int) : Prop := ∀ p, prn p ns = w64 (a.1 * p + a.2)
/-- prints one behind another: the first one ahead -/
def jnF (l : List (Int × Int)) (a : Int × Int) : Int × Int := l.foldl (fun a x => (w64 (a.1 * x.1), w64 (w64 (x.1 * a.2) + x.2))) a
def bhF (n : Int) (a : Int × Int) : Int × Int := if n = 0 then a else (w64 (a.1 * 31), w64 (w64 (31 * a.2) + n))
def opn2 (o : Int) : Int := if o = 1 then 1 else (if o = 2 then 2 else (if o = 3 then 3 else (if o = 4 then 4 else (if o = 7 then 5 else (if o = 8 then 6 else (if o = 10 then 9 else (if o = 11 then 10 else (if o = 12 then 11 else (if o = 13 then 12 else 0)))))))))
/-- a word of an expr; dr: a call alone -/
def ppw (K : List Int) (w : Int) (dr : Bool) (st : List (Int × Int)) : List (Int × Int) :=
  if wo w = 14 then (31, 13) :: st
  else if wo w = 16 then jnF (st.take 1).reverse (31, 16) :: st.drop 1
  else if wo w = 17 then jnF (st.take 2).reverse (31, kn K (wt w).toNat) :: st.drop 2
  else if wo w = 15 then bhF (if dr = true then 8 else 15) (jnF (st.take (we w).toNat).reverse (31, (if dr = true then 7 else 14))) :: st.drop (we w).toNat
  else st
def drn : List Int → Bool
  | [] => false
  | w :: _ => decide (wo w = 9)
def pcl (K : List Int) : List Int → Int → List (Int × Int) → Int
  | [], p, _ => p
  | w :: W, p, st => if 14 ≤ wo w then pcl K W p (ppw K w (drn W) st)
    else if wo w = 2 then pcl K W (prn p [2, we w]) st
    else match st with
      | [] => pcl K W (if opn2 (wo w) = 0 then p else prn p [opn2 (wo w)]) []
      | a :: r => if wo w = 7 ∨ wo w = 8 ∨ wo w = 9 ∨ wo w = 10 ∨ wo w = 11 then pcl K W (w64 (w64 (a.1 * (if opn2 (wo w) = 0 then p else prn p [opn2 (wo w)])) + a.2)) r
        else pcl K W (if opn2 (wo w) = 0 then p else prn p [opn2 (wo w)]) (a :: r)
/-- the stack of the class -/
def PrC (F : MF) (st : List (Int × Int)) : Prop := F 91 5 = (st.length : Int) ∧ AL (F 93) (st.map (fun a => a.1)).reverse ∧ AL (F 92) (st.map (fun a => a.2)).reverse
section Mf0
variable {F G : MF} {X : Nat → List Int} {n f k t : Nat} {st st' : List (Int × Int)} {a b : Int × Int} {x y p w : Int} {R : MF → Prop} {ns ms W : List Int}
theorem w64_w (a : Int) : w64 (w64 a) = w64 a := by
  unfold w64
  omega
theorem w64_add (a b : Int) : w64 (w64 a + b) = w64 (a + b) := by
  unfold w64
  omega
theorem w64_e (a : Int) : ∃ k : Int, w64 a = a + 18446744073709551616 * k := ⟨-((a + 9223372036854775808) / 18446744073709551616), by unfold w64; omega⟩
theorem w64_k (a k : Int) : w64 (a + 18446744073709551616 * k) = w64 a := by
  unfold w64
  omega
theorem w64_mul (a b : Int) : w64 (a * w64 b) = w64 (a * b) := by
  obtain ⟨k, hk⟩ := w64_e b
  rw [hk, Int.mul_add, show a * (18446744073709551616 * k) = 18446744073709551616 * (a * k) by rw [← Int.mul_assoc, Int.mul_comm a, Int.mul_assoc], w64_k]
theorem w64_mul' (a b : Int) : w64 (w64 a * b) = w64 (a * b) := by
  rw [Int.mul_comm, w64_mul, Int.mul_comm]
theorem prn_app : prn p (ns ++ ms) = prn (prn p ns) ms := List.foldl_append
theorem Afn.nil1 : Afn (31, x) [x] := fun p => by
  show w64 (w64 (31 * p) + x) = w64 (31 * p + x)
  exact w64_add _ _
/-- one behind another -/
theorem Afn.app (h : Afn a ns) (k : Afn b ms) : Afn (w64 (a.1 * b.1), w64 (w64 (b.1 * a.2) + b.2)) (ns ++ ms) := fun p => by
  rw [prn_app, h p, k]
  show w64 (b.1 * w64 (a.1 * p + a.2) + b.2) = w64 (w64 (a.1 * b.1) * p + w64 (w64 (b.1 * a.2) + b.2))
  have e1 : w64 (b.1 * w64 (a.1 * p + a.2) + b.2) = w64 (b.1 * (a.1 * p + a.2) + b.2) := by
    rw [← w64_add, w64_mul, w64_add]
  have e2 : w64 (w64 (a.1 * b.1) * p + w64 (w64 (b.1 * a.2) + b.2)) = w64 (a.1 * b.1 * p + (b.1 * a.2 + b.2)) := by
    rw [w64_add, ← w64_add, w64_mul', w64_add, Int.add_comm, w64_add, Int.add_comm]
  rw [e1, e2, Int.mul_add, ← Int.mul_assoc, Int.mul_comm b.1 a.1, Int.add_assoc]
theorem Afn.bh (h : Afn a ns) (hn : x ≠ 0) : Afn (bhF x a) (ns ++ [x]) := by
  unfold bhF
  rw [if_neg hn]
  have h2 := Afn.app (b := ((31 : Int), x)) h Afn.nil1
  dsimp only at h2
  exact h2
/-- what stands in the stack is what it is of -/
def AfL : List (Int × Int) → List (List Int) → Prop
  | [], [] => True
  | a :: l, ns :: m => Afn a ns ∧ AfL l m
  | _, _ => False
theorem jnF_af : ∀ (l : List (Int × Int)) (m : List (List Int)) (a : Int × Int) (ns : List Int), AfL l m → Afn a ns → Afn (jnF l a) (ns ++ m.flatten)
  | [], [], a, ns, _, h => by
    show Afn a (ns ++ [])
    rw [List.append_nil]
    exact h
  | b :: l, ms :: m, a, ns, ⟨h1, h2⟩, h => by
    show Afn (jnF l (w64 (a.1 * b.1), w64 (w64 (b.1 * a.2) + b.2))) (ns ++ (ms ++ m.flatten))
    rw [← List.append_assoc]
    exact jnF_af l m _ _ h2 (h.app h1)
  | [], _ :: _, _, _, h, _ => h.elim
  | _ :: _, [], _, _, h, _ => h.elim
theorem s_97 (hS : St F) (h : PrC F st) (hl : st.length < 800) : C_97 x y F (fun F' => PrC F' ((x, y) :: st) ∧ fr RunP F F') m_no := by
  obtain ⟨h1, h2, h3⟩ := h
  have l1 : (st.map (fun a => a.1)).reverse.length = st.length := by rw [List.length_reverse, List.length_map]
  have l2 : (st.map (fun a => a.2)).reverse.length = st.length := by rw [List.length_reverse, List.length_map]
  refine c_97 hS ?_
  rw [h1, Int.toNat_natCast]
  refine ⟨fun _ => ⟨by omega, by omega, by omega, ⟨?_, ?_, ?_⟩, ((fr.rf.up (by unfold RunP; omega)).up (by unfold RunP; omega)).up (by unfold RunP; omega)⟩, fun h => by omega⟩
  · rw [u_eq]; show _ = ((st.length + 1 : Nat) : Int); omega
  · rw [up_row (by decide), up_row (by decide), List.map_cons, List.reverse_cons]
    have := AL.up1 (v := x) h2
    rwa [l1] at this
  · rw [up_row (by decide), List.map_cons, List.reverse_cons]
    have h3' : AL (m_up F 93 st.length x 92) (st.map (fun a => a.2)).reverse := by rw [up_row (by decide)]; exact h3
    have := AL.up1 (v := y) h3'
    rwa [l2] at this
theorem PrC.drop (h : PrC F st) : PrC (m_up F 91 5 ((st.length - k : Nat) : Int)) (st.drop k) := by
  obtain ⟨h1, h2, h3⟩ := h
  have e1 : ∀ g : Int × Int → Int, (st.map g).reverse = ((st.drop k).map g).reverse ++ ((st.take k).map g).reverse := fun g => by
    rw [← List.reverse_append, ← List.map_append, List.take_append_drop]
  refine ⟨by rw [u_eq, List.length_drop], ?_, ?_⟩
  · rw [up_row (by decide)]
    rw [e1] at h2
    exact h2.pre
  · rw [up_row (by decide)]
    rw [e1] at h3
    exact h3.pre
/-- prints are made one -/
theorem s_98 {bh ah : Int} (hS : St F) (h : PrC F st) (hl : st.length < 800) : C_98 ((st.length - k : Nat) : Int) ah bh F (fun F' => PrC F' (bhF bh (jnF (st.take k).reverse (31, ah)) :: st.drop k) ∧ fr RunP F F') m_no := by
  have h' := h
  obtain ⟨h1, h2, h3⟩ := h'
  have key : ∀ (d i : Nat) (c : Int × Int), i + d = st.length → st.length - k ≤ i → c = jnF ((st.reverse.drop (st.length - k)).take (i - (st.length - k))) (31, ah) → L_98_12 ((st.length - k : Nat) : Int) bh c.1 c.2 (i : Int) F (fun F' => PrC F' (bhF bh (jnF (st.take k).reverse (31, ah)) :: st.drop k) ∧ fr RunP F F') m_no := by
    intro d
    induction d with
    | zero =>
      intro i c hi hk hc
      have hi2 : i = st.length := hi
      have er : st.reverse.drop (st.length - k) = (st.take k).reverse := by
        by_cases e : k ≤ st.length
        · rw [List.reverse_take]
        · rw [show st.length - k = 0 by omega, List.take_of_length_le (by omega)]
          rfl
      have ec : c = jnF (st.take k).reverse (31, ah) := by
        rw [hc, er, List.take_of_length_le (by rw [List.length_reverse, List.length_take]; omega)]
      have push : ∀ z : Int × Int, z = bhF bh c → C_97 z.1 z.2 (m_up F 91 5 ((st.length - k : Nat) : Int)) (fun F' => PrC F' (bhF bh (jnF (st.take k).reverse (31, ah)) :: st.drop k) ∧ fr RunP F F') m_no := by
        intro z hz
        refine CaV.on (s_97 (hS.fld kd_91 rk_6_5) (h.drop (k := k)) (by rw [List.length_drop]; omega)) ?_
        rintro F1 hS1 ⟨q1, q2⟩
        rw [ec] at hz
        rw [← hz]
        exact ⟨q1, (fr.rf.up (by unfold RunP; omega)).tr q2⟩
      refine b_98_12 hS ?_
      rw [h1]
      refine ⟨fun h => by omega, fun _ => ⟨fun e => ?_, fun e => ?_⟩⟩
      · exact push c (by unfold bhF; rw [if_pos e])
      · exact push (w64 (c.1 * 31), w64 (w64 (31 * c.2) + bh)) (by unfold bhF; rw [if_neg e])
    | succ d ih =>
      intro i c hi hk hc
      have hi2 : i < st.length := by omega
      have l1 : (st.map (fun a => a.1)).reverse.length = st.length := by rw [List.length_reverse, List.length_map]
      have l2 : (st.map (fun a => a.2)).reverse.length = st.length := by rw [List.length_reverse, List.length_map]
      have hr : i < st.reverse.length := by rw [List.length_reverse]; exact hi2
      have g1 : ∀ g : Int × Int → Int, gx (st.map g).reverse i = g (st.reverse[i]'hr) := fun g => by
        rw [← List.map_reverse]
        unfold gx
        rw [List.getD_eq_getElem?_getD, List.getElem?_map, List.getElem?_eq_getElem hr]
        rfl
      have v1 := h2 i (by rw [l1]; exact hi2)
      have v2 := h3 i (by rw [l2]; exact hi2)
      rw [g1] at v1 v2
      refine b_98_12 hS ?_
      rw [h1, Int.toNat_natCast, v1, v2, show (i : Int) + 1 = ((i + 1 : Nat) : Int) by omega]
      refine ⟨fun _ => ⟨by omega, by omega, by omega, by omega, ?_⟩, fun h => by omega⟩
      refine ih (i + 1) (w64 (c.1 * (st.reverse[i]'hr).1), w64 (w64 ((st.reverse[i]'hr).1 * c.2) + (st.reverse[i]'hr).2)) (by omega) (by omega) ?_
      have et : (st.reverse.drop (st.length - k)).take (i + 1 - (st.length - k)) = (st.reverse.drop (st.length - k)).take (i - (st.length - k)) ++ [st.reverse[i]'hr] := by
        rw [show i + 1 - (st.length - k) = (i - (st.length - k)) + 1 by omega]
        have hlt : i - (st.length - k) < (st.reverse.drop (st.length - k)).length := by rw [List.length_drop, List.length_reverse]; omega
        rw [← List.take_append_getElem hlt, List.getElem_drop]
        congr 3
        omega
      rw [et]
      unfold jnF at hc ⊢
      rw [List.foldl_append, ← hc]
      rfl
  refine c_98 hS ?_
  exact key (st.length - (st.length - k)) (st.length - k) (31, ah) (by omega) (Nat.le_refl _) (by rw [Nat.sub_self]; rfl)
end Mf0
