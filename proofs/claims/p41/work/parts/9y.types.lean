/-! TYPES, OF THE CLASS -/
def fix' : FF → Int → Nat → Int
  | [], _, _ => -1
  | e :: L, t, i => if e.1 = t then (i : Int) else fix' L t (i + 1)
section M9y
variable {F : MF} {X : Nat → List Int} {f g n : Nat} {h : Nat → Nat} {E : List Int} {s t : Nat} {fi : Int}
theorem s_128 {p : Int} (hn : n ∈ m_I1) (hS : St F) (hX : ∀ r, r < 24 → Rok (X r)) (hD : DTT F n X) (hg : g < 3) : C_128 (n + (20 + 19 * g)) p F (fun r F' => r = fix' (Fw X g) p 0 ∧ F' = F) m_no := by
  have i9 := i9_of hn hg
  have hT := (hD.2 g hg).2
  have hc : F (n + (20 + 19 * g)) 10 = ((Fw X g).length : Int) := hT.2.2.1.1
  have ha : AL (F (n + (20 + 19 * g) + 5)) ((Fw X g).map (fun e => e.1)) := hT.2.2.1.2.1
  have hl := (Fw_len hX hg).1
  have key : ∀ (d i : Nat), i + d = (Fw X g).length → L_128_2 (n + (20 + 19 * g)) p (i : Int) F (fun r F' => r = fix' ((Fw X g).drop i) p i ∧ F' = F) m_no := by
    intro d
    induction d with
    | zero =>
      intro i hi
      refine b_128_2 i9 hS ?_
      rw [hc, List.drop_eq_nil_of_le (by omega)]
      exact ⟨fun h => by omega, fun _ => ⟨rfl, rfl⟩⟩
    | succ d ih =>
      intro i hi
      have hi2 : i < (Fw X g).length := by omega
      have hv := ha i (by rw [List.length_map]; exact hi2)
      rw [ge_map hi2] at hv
      refine b_128_2 i9 hS ?_
      rw [hc, Int.toNat_natCast, hv, List.drop_eq_getElem_cons hi2]
      have st : fix' ((Fw X g)[i] :: (Fw X g).drop (i + 1)) p i = if ((Fw X g)[i]).1 = p then (i : Int) else fix' ((Fw X g).drop (i + 1)) p (i + 1) := rfl
      rw [st]
      refine ⟨fun _ => ⟨by omega, fun e => ⟨by rw [if_pos e], rfl⟩, fun e => ⟨by omega, ?_⟩⟩, fun h => by omega⟩
      rw [if_neg e, show (i : Int) + 1 = ((i + 1 : Nat) : Int) by omega]
      exact ih (i + 1) (by omega)
  exact c_128 i9 hS (key (Fw X g).length 0 (by omega))
theorem s_18 {v : Nat} (hn : n ∈ m_I1) (hS : St F) (hX : ∀ r, r < 24 → Rok (X r)) (hD : DTT F n X) (hv : v < 600) : C_18 n (v : Int) F (fun r F' => r = (if fix' (Fw X (v / 200)) ((v % 200 : Nat) : Int) 0 = -1 then 0 else 1) ∧ F' = F) m_no := by
  refine c_18 hn hS ⟨fun h => by omega, fun _ => ⟨fun _ => ⟨by omega, by omega, by omega, ?_⟩, fun h => by omega⟩⟩
  rw [show (v : Int) / 200 = ((v / 200 : Nat) : Int) by omega, show (v : Int) % 200 = ((v % 200 : Nat) : Int) by omega, Int.toNat_natCast]
  refine CaI.on (s_128 hn hS hX hD (by omega)) ?_
  rintro r F1 hS1 ⟨rfl, rfl⟩
  refine ⟨fun e => ⟨by rw [if_pos e], rfl⟩, fun e => ⟨by rw [if_neg e], rfl⟩⟩
end M9y
