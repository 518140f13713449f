/-! TYPES, OF THE REFERENCE: things, roots, the types of roots -/
def UFr (F : MF) (H : Nat → Nat) : Prop := ∃ dp : Nat → Nat, ∀ s, s < 2200 → H s < 2200 ∧ H (H s) = H s ∧ ((F 256 s = (s : Int) ∧ H s = s ∧ dp s = 0) ∨ ∃ w : Nat, F 256 s = (w : Int) ∧ w < 2200 ∧ w ≠ s ∧ H s ≠ s ∧ H w = H s ∧ dp w + 1 = dp s)
abbrev TR : Type := (Nat → Nat) × (Nat → Int) × List Int
def TyR (F : MF) (q : TR) : Prop := UFr F q.1 ∧ (∀ s, s < 2200 → q.1 s = s → F 255 s = q.2.1 s) ∧ F 201 78 = (q.2.2.length : Int) ∧ AL (F 257) q.2.2
def TyRP : Nat → Prop := fun c => c = 201 ∨ (255 ≤ c ∧ c ≤ 257)
/-- a thing has to have the type v; e what is written down, where it has the other one -/
def muR (q : TR) (s : Nat) (v e : Int) : TR := if q.2.1 (q.1 s) = 0 then (q.1, (fun x => if x = q.1 s then v else q.2.1 x), q.2.2) else if q.2.1 (q.1 s) = v then q else (q.1, q.2.1, q.2.2 ++ [e])
/-- things are made alike -/
def jnR (q : TR) (s u : Nat) (e : Int) : TR := if q.2.1 (q.1 s) ≠ 0 ∧ q.2.1 (q.1 u) ≠ 0 ∧ q.2.1 (q.1 s) ≠ q.2.1 (q.1 u) then (q.1, q.2.1, q.2.2 ++ [e]) else if q.1 s = q.1 u then q else
  ((fun x => if q.1 x = q.1 s then q.1 u else q.1 x), (fun x => if x = q.1 u then (if q.2.1 (q.1 u) = 0 then q.2.1 (q.1 s) else q.2.1 (q.1 u)) else q.2.1 x), q.2.2)
section Ma4
variable {F F' : MF} {H : Nat → Nat} {T : Nat → Int} {E : List Int} {s u m f : Nat} {v e : Int}
theorem UFr.cong (h : UFr F H) (hf : F' 256 = F 256) : UFr F' H := by
  unfold UFr
  rw [hf]
  exact h
theorem UFr.mer {a b : Nat} (hU : UFr F H) (ha : a < 2200) (hb : b < 2200) (h1 : H a = a) (h2 : H b = b) (hab : a ≠ b) (hF : ∀ s, F' 256 s = if s = a then (b : Int) else F 256 s) : UFr F' (fun x => if H x = a then b else H x) := by
  obtain ⟨dp, hu⟩ := hU
  refine ⟨fun x => if H x = a then dp x + 1 else dp x, fun s hs => ?_⟩
  obtain ⟨u2, u3, u4⟩ := hu s hs
  show (if H s = a then b else H s) < 2200 ∧ (if H (if H s = a then b else H s) = a then b else H (if H s = a then b else H s)) = (if H s = a then b else H s) ∧ ((F' 256 s = (s : Int) ∧ (if H s = a then b else H s) = s ∧ (if H s = a then dp s + 1 else dp s) = 0) ∨ ∃ w : Nat, F' 256 s = (w : Int) ∧ w < 2200 ∧ w ≠ s ∧ (if H s = a then b else H s) ≠ s ∧ (if H w = a then b else H w) = (if H s = a then b else H s) ∧ (if H w = a then dp w + 1 else dp w) + 1 = (if H s = a then dp s + 1 else dp s))
  have db : dp b = 0 := by
    obtain ⟨-, -, c1 | ⟨w, -, -, -, c1, -⟩⟩ := hu b hb
    · exact c1.2.2
    · exact absurd h2 c1
  have da : dp a = 0 := by
    obtain ⟨-, -, c1 | ⟨w, -, -, -, c1, -⟩⟩ := hu a ha
    · exact c1.2.2
    · exact absurd h1 c1
  by_cases e : H s = a
  · rw [if_pos e, if_pos e, h2, if_neg (fun e => hab e.symm)]
    refine ⟨hb, rfl, ?_⟩
    by_cases e2 : s = a
    · subst e2
      refine Or.inr ⟨b, by rw [hF, if_pos rfl], hb, fun e => hab e.symm, fun e => hab e.symm, by rw [h2, if_neg (fun e => hab e.symm)], by rw [h2, if_neg (fun e => hab e.symm)]; omega⟩
    · rcases u4 with ⟨-, c2, -⟩ | ⟨w, c1, c2, c3, c4, c5, c6⟩
      · omega
      · refine Or.inr ⟨w, by rw [hF, if_neg e2]; exact c1, c2, c3, fun e3 => ?_, by rw [c5, if_pos e], by rw [c5, if_pos e]; omega⟩
        subst e3
        rw [h2] at e
        exact hab e.symm
  · rw [if_neg e, if_neg e, u3, if_neg e]
    refine ⟨u2, rfl, ?_⟩
    have e2 : s ≠ a := fun e2 => e (by rw [e2]; exact h1)
    rcases u4 with ⟨c1, c2, c3⟩ | ⟨w, c1, c2, c3, c4, c5, c6⟩
    · exact Or.inl ⟨by rw [hF, if_neg e2]; exact c1, c2, c3⟩
    · exact Or.inr ⟨w, by rw [hF, if_neg e2]; exact c1, c2, c3, c4, by rw [c5, if_neg e], by rw [c5, if_neg e]; exact c6⟩
theorem s_263 (hS : St F) (hU : UFr F H) (hs : s < 2200) : C_263 (s : Int) F (fun r F' => r = (H s : Int) ∧ F' = F) m_no := by
  obtain ⟨dp, hu⟩ := hU
  have key : ∀ (d x : Nat), dp x = d → x < 2200 → L_263_2 (x : Int) F (fun r F' => r = (H x : Int) ∧ F' = F) m_no := by
    intro d
    induction d with
    | zero =>
      intro x hd hx
      obtain ⟨-, -, h1 | ⟨w, -, -, -, -, -, h1⟩⟩ := hu x hx
      · refine b_263_2 hS ⟨by omega, ?_⟩
        rw [Int.toNat_natCast, h1.1]
        exact ⟨fun _ => ⟨by rw [h1.2.1], rfl⟩, fun h => absurd rfl h⟩
      · omega
    | succ d ih =>
      intro x hd hx
      obtain ⟨-, -, h1 | ⟨w, h1, h2, h3, -, h4, h5⟩⟩ := hu x hx
      · omega
      · refine b_263_2 hS ⟨by omega, ?_⟩
        rw [Int.toNat_natCast, h1]
        refine ⟨fun h => by omega, fun _ => ⟨by omega, ?_⟩⟩
        have := ih w (by omega) h2
        rw [h4] at this
        exact this
  exact c_263 hS (key (dp s) s rfl hs)
theorem s_265 {x1 x2 : Int} (hS : St F) (h5 : F 201 78 = (E.length : Int)) (hA : AL (F 257) E) (hl : E.length < 2000) (h1 : 0 ≤ x1 ∧ x1 < 3) (h2 : -1 ≤ x2 ∧ x2 < 1000) : C_265 x1 x2 F (fun F' => F' 201 78 = ((E ++ [1000 * x1 + x2]).length : Int) ∧ AL (F' 257) (E ++ [1000 * x1 + x2]) ∧ (∀ j, j ≠ 78 → F' 201 j = F 201 j) ∧ fr (fun c => c = 201 ∨ c = 257) F F') m_no := by
  refine c_265 hS ?_
  rw [h5, Int.toNat_natCast]
  refine ⟨by omega, by omega, by omega, by omega, ?_, ?_, fun j hj => ?_, (fr.rf.up (Or.inr rfl)).up (Or.inl rfl)⟩
  · rw [u_eq, List.length_append, List.length_singleton]; omega
  · rw [up_row (by decide)]; exact AL.up1 hA
  · rw [u_ne (Or.inr hj), u_ne (Or.inl (by decide))]
end Ma4
