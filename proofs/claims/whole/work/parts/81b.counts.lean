/-! READING, OF THE REFERENCE: how many signs wait -/
def pq (l : Lv) : Nat := pn1 (tms l) + pn1 (ads l) + pn1 (cps l)
def PQs : List Lv → Nat
  | [] => 0
  | l :: r => pq l + PQs r
def PNs : List Lv → Nat
  | [] => 0
  | l :: r => pq l + pn1 (nts l) + PNs r
def PH (L : List Lv) : Nat := pq (hdl L) + PNs L.tail
section M81b
variable {F : MF} {K : List Int} {n0 s q lo : Nat} {C0 W : List Int} {l : Lv} {r : List Lv}
theorem pl_pq : (pl l).length = pq l := by
  unfold pl pq pn1
  rw [List.length_append, List.length_append]
  split <;> split <;> split <;> rfl
theorem PH_PN : ∀ L : List Lv, PH L + pn1 (nts (hdl L)) = PNs L
  | [] => rfl
  | l :: r => by
    show pq l + PNs r + pn1 (nts l) = pq l + pn1 (nts l) + PNs r
    omega
theorem LvB.cnt : ∀ (L : List Lv) (s q lo : Nat) (W : List Int), LvB F K n0 C0 L s q lo W → s = PQs L.tail + L.tail.length ∧ q = PQs L.tail := by
  intro L
  induction L with
  | nil => intro s q lo W h; exact absurd h (fun h => h)
  | cons l r ih =>
    rintro s q lo W ⟨-, ⟨rfl, -, rfl, rfl, -, -⟩ | ⟨s1, q1, lo1, s2, m, W1, W2, h1, h2, h3, h4, h5, h6⟩⟩
    · exact ⟨rfl, rfl⟩
    · obtain ⟨g1, g2⟩ := ih _ _ _ _ h1
      have g := PE.rng _ _ _ _ _ h2
      cases r with
      | nil => exact absurd h1 (fun h => h)
      | cons l2 r2 =>
        show s = (pq l2 + PQs r2) + (l2 :: r2).length ∧ q = pq l2 + PQs r2
        change s1 = PQs r2 + r2.length at g1
        change q1 = PQs r2 at g2
        have e : (pl (hdl (l2 :: r2))).length = pq l2 := pl_pq
        rw [e] at g
        rw [List.length_cons]
        omega
theorem LvB.sh (h : LvB F K n0 C0 (l :: r) s q lo W) : (r = [] ∧ shp l = 0) ∨ (r ≠ [] ∧ (shp l = 1 ∨ shp l = 2)) := by
  obtain ⟨-, ⟨h1, h2, -⟩ | ⟨s1, q1, lo1, s2, m, W1, W2, h1, h2, h3, h4, h5, h6⟩⟩ := h
  · exact Or.inl ⟨h1, h2⟩
  · refine Or.inr ⟨(LvB.rng _ _ _ _ _ h1).2, ?_⟩
    rcases h6 with ⟨h, -⟩ | ⟨h, -⟩
    · exact Or.inl h
    · exact Or.inr h
end M81b
