/-! WORDS FOR THE PROOFS: frames, rows of chars -/
def fr (P : Nat → Prop) (F F' : MF) : Prop := ∀ c, ¬ P c → F' c = F c
theorem fr.rf {P : Nat → Prop} {F : MF} : fr P F F := fun _ _ => rfl
theorem fr.tr {P : Nat → Prop} {F G H : MF} (h1 : fr P F G) (h2 : fr P G H) : fr P F H := fun c h => (h2 c h).trans (h1 c h)
theorem fr.mo {P Q : Nat → Prop} {F G : MF} (h : fr P F G) (hp : ∀ c, P c → Q c) : fr Q F G := fun c hc => h c (fun h2 => hc (hp c h2))
theorem up_row {F : MF} {a i c : Nat} {v : Int} (h : c ≠ a) : m_up F a i v c = F c := funext fun j => u_ne (Or.inl h)
theorem cp_row {F : MF} {a s b d n c : Nat} (h : c ≠ b) : m_cpy F a s b d n c = F c := funext fun j => c_ne h
theorem fr.up {P : Nat → Prop} {F G : MF} {a i : Nat} {v : Int} (h : fr P F G) (hp : P a) : fr P F (m_up G a i v) := fun c hc => (up_row (fun e => hc (by rw [e]; exact hp))).trans (h c hc)
theorem fr.cp {P : Nat → Prop} {F G : MF} {a s b d n : Nat} (h : fr P F G) (hp : P b) : fr P F (m_cpy G a s b d n) := fun c hc => (cp_row (fun e => hc (by rw [e]; exact hp))).trans (h c hc)
def gx (l : List Int) (j : Nat) : Int := l.getD j 0
theorem gx_app (l m : List Int) (j : Nat) : gx (l ++ m) j = if j < l.length then gx l j else gx m (j - l.length) := by
  unfold gx
  rw [List.getD_eq_getElem?_getD, List.getD_eq_getElem?_getD, List.getD_eq_getElem?_getD, List.getElem?_append]
  split <;> rfl
theorem gx_cons (x : Int) (l : List Int) (j : Nat) : gx (x :: l) j = if j = 0 then x else gx l (j - 1) := by
  cases j with
  | zero => rfl
  | succ j => rw [if_neg (by omega)]; rfl
theorem gx_take (l : List Int) (k j : Nat) (h : j < k) : gx (l.take k) j = gx l j := by
  unfold gx
  rw [List.getD_eq_getElem?_getD, List.getD_eq_getElem?_getD, List.getElem?_take_of_lt h]
theorem gx_drop (l : List Int) (k j : Nat) : gx (l.drop k) j = gx l (k + j) := by
  unfold gx
  rw [List.getD_eq_getElem?_getD, List.getD_eq_getElem?_getD, List.getElem?_drop]
theorem gx_mem {l : List Int} {j : Nat} (h : j < l.length) : gx l j ∈ l := by
  unfold gx
  rw [List.getD_eq_getElem?_getD, List.getElem?_eq_getElem h]
  exact List.getElem_mem h
theorem gx_ext {l m : List Int} (hl : l.length = m.length) (h : ∀ j, j < l.length → gx l j = gx m j) : l = m := by
  refine List.ext_getElem hl (fun j h1 h2 => ?_)
  have := h j h1
  unfold gx at this
  rwa [List.getD_eq_getElem?_getD, List.getElem?_eq_getElem h1, List.getD_eq_getElem?_getD, List.getElem?_eq_getElem h2] at this
def ins (l : List Int) (c : Nat) (s : Int) : List Int := l.take c ++ s :: l.drop c
def del (l : List Int) (c : Nat) : List Int := l.take c ++ l.drop (c + 1)
theorem ins_len {l : List Int} {c : Nat} {s : Int} (h : c ≤ l.length) : (ins l c s).length = l.length + 1 := by
  unfold ins
  simp only [List.length_append, List.length_take, List.length_cons, List.length_drop]
  omega
theorem del_len {l : List Int} {c : Nat} (h : c < l.length) : (del l c).length = l.length - 1 := by
  unfold del
  simp only [List.length_append, List.length_take, List.length_drop]
  omega
theorem ins_gx {l : List Int} {c : Nat} {s : Int} (h : c ≤ l.length) (j : Nat) : gx (ins l c s) j = if j < c then gx l j else if j = c then s else gx l (j - 1) := by
  unfold ins
  rw [gx_app, gx_cons, gx_drop, List.length_take, Nat.min_eq_left h]
  by_cases h1 : j < c
  · rw [if_pos h1, if_pos h1, gx_take l c j h1]
  · rw [if_neg h1, if_neg h1]
    by_cases h2 : j = c
    · rw [if_pos h2, if_pos (by omega)]
    · rw [if_neg h2, if_neg (by omega), show c + (j - c - 1) = j - 1 by omega]
theorem del_gx {l : List Int} {c : Nat} (h : c < l.length) (j : Nat) : gx (del l c) j = if j < c then gx l j else gx l (j + 1) := by
  unfold del
  rw [gx_app, gx_drop, List.length_take, Nat.min_eq_left (by omega)]
  by_cases h1 : j < c
  · rw [if_pos h1, if_pos h1, gx_take l c j h1]
  · rw [if_neg h1, if_neg h1, show c + 1 + (j - c) = j + 1 by omega]
theorem ins_mem {l : List Int} {c : Nat} {s x : Int} (h : x ∈ ins l c s) : x = s ∨ x ∈ l := by
  unfold ins at h
  simp only [List.mem_append, List.mem_cons] at h
  rcases h with h | h | h
  · exact Or.inr (List.mem_of_mem_take h)
  · exact Or.inl h
  · exact Or.inr (List.mem_of_mem_drop h)
theorem del_mem {l : List Int} {c : Nat} {x : Int} (h : x ∈ del l c) : x ∈ l := by
  unfold del at h
  simp only [List.mem_append] at h
  rcases h with h | h
  · exact List.mem_of_mem_take h
  · exact List.mem_of_mem_drop h
def rupd (X : Nat → List Int) (r : Nat) (l : List Int) : Nat → List Int := fun k => if k = r then l else X k
theorem upd_eq {X : Nat → List Int} {r : Nat} {l : List Int} : rupd X r l r = l := if_pos rfl
theorem upd_ne {X : Nat → List Int} {r k : Nat} {l : List Int} (h : k ≠ r) : rupd X r l k = X k := if_neg h
/-- rows of chars: C the chars, L the lengths -/
def Rok (l : List Int) : Prop := l.length ≤ 24 ∧ ∀ c ∈ l, 32 ≤ c ∧ c ≤ 126
def Rws (C L : Nat → Int) (X : Nat → List Int) : Prop := ∀ r, r < 24 → L r = ((X r).length : Int) ∧ Rok (X r) ∧ ∀ j, j < (X r).length → C (24 * r + j) = gx (X r) j
theorem Rws.len {C L : Nat → Int} {X : Nat → List Int} (h : Rws C L X) {r : Nat} (hr : r < 24) : L r = ((X r).length : Int) := (h r hr).1
theorem Rws.le {C L : Nat → Int} {X : Nat → List Int} (h : Rws C L X) {r : Nat} (hr : r < 24) : (X r).length ≤ 24 := (h r hr).2.1.1
theorem Rws.at {C L : Nat → Int} {X : Nat → List Int} (h : Rws C L X) {r j : Nat} (hr : r < 24) (hj : j < (X r).length) : C (24 * r + j) = gx (X r) j := (h r hr).2.2 j hj
theorem Rok.ch {l : List Int} (h : Rok l) {j : Nat} (hj : j < l.length) : 32 ≤ gx l j ∧ gx l j ≤ 126 := h.2 _ (gx_mem hj)
theorem Rws.ch {C L : Nat → Int} {X : Nat → List Int} (h : Rws C L X) {r j : Nat} (hr : r < 24) (hj : j < (X r).length) : 32 ≤ gx (X r) j ∧ gx (X r) j ≤ 126 := (h r hr).2.1.ch hj
/-- one row is another one now -/
theorem Rws.set {C L C' L' : Nat → Int} {X : Nat → List Int} {r : Nat} {l : List Int} (h : Rws C L X) (hok : Rok l)
    (hl : L' r = (l.length : Int)) (hL : ∀ k, k < 24 → k ≠ r → L' k = L k)
    (hc : ∀ j, j < l.length → C' (24 * r + j) = gx l j) (hC : ∀ k, k < 576 → ¬ (24 * r ≤ k ∧ k < 24 * r + 24) → C' k = C k) : Rws C' L' (rupd X r l) := by
  intro k hk
  by_cases e : k = r
  · subst e
    rw [upd_eq]
    exact ⟨hl, hok, hc⟩
  · rw [upd_ne e]
    obtain ⟨h1, h2, h3⟩ := h k hk
    refine ⟨(hL k hk e).trans h1, h2, fun j hj => ?_⟩
    have := h2.1
    exact (hC _ (by omega) (by omega)).trans (h3 j hj)
theorem Rok.nil : Rok [] := ⟨Nat.zero_le _, fun c h => by cases h⟩
theorem Rok.ins {l : List Int} {c : Nat} {s : Int} (h : Rok l) (hc : c ≤ l.length) (hl : l.length < 24) (hs : 32 ≤ s ∧ s ≤ 126) : Rok (ins l c s) :=
  ⟨by rw [ins_len hc]; omega, fun x hx => by rcases ins_mem hx with rfl | h2; exact hs; exact h.2 x h2⟩
theorem Rok.del {l : List Int} {c : Nat} (h : Rok l) (hc : c < l.length) : Rok (del l c) :=
  ⟨by rw [del_len hc]; have := h.1; omega, fun x hx => h.2 x (del_mem hx)⟩
theorem Rws.cong {C L C' L' : Nat → Int} {X : Nat → List Int} (h : Rws C L X) (hC : ∀ k, k < 576 → C' k = C k) (hL : ∀ k, k < 24 → L' k = L k) : Rws C' L' X := by
  intro k hk
  obtain ⟨h1, h2, h3⟩ := h k hk
  refine ⟨(hL k hk).trans h1, h2, fun j hj => ?_⟩
  have := h2.1
  exact (hC _ (by omega)).trans (h3 j hj)
/-- a char of a row, a blank outside -/
def sgnl (l : List Int) (j : Int) : Int := if 0 ≤ j ∧ j < (l.length : Int) then gx l j.toNat else 32
theorem sgn_in {l : List Int} {j : Nat} (h : j < l.length) : sgnl l (j : Int) = gx l j := by
  unfold sgnl
  rw [if_pos ⟨by omega, by omega⟩, Int.toNat_natCast]
