/-! CALLS THAT LOOK: brackets, colours, functions, runs, repairs -/
noncomputable def aRu (X : Nat → List Int) (x1 x2 x y : Int) : Int := (rrun X 1000000 (ren X (200 * x1.toNat + fnt X x1.toNat x2.toNat) 2 [] [y, x] 0 0)).getD 0
section Mn5
variable {F G : MF} {X Y S : Nat → List Int} {N K : List Int} {L : List CH} {d : Bool} {e : Int} {f m k n q top : Nat} {x1 x2 x3 x4 x y : Int} {nn : Nat → Nat}
/-- a run ends -/
theorem f_178 (hrr : ∀ f k : Nat, f < 3 → k < (Fw X f).length → rrun X 1000000 (ren X (200 * f + fnt X f k) 2 [] [y, x] 0 0) = some (aRu X (f : Int) (k : Int) x y)) (hS : St F) (h : KC F X S N L d e) : C_178 x1 x2 x y F (CO F (isFu X x1 x2) (aRu X x1 x2 x y) X S N L d e) (CT F (isFu X x1 x2) X S N L d e) := by
  refine c_178 hS (s_185 hS h (fun F1 f k hS1 hK hD hC hf hk e1 e2 => ?_) (fun F1 _ hK hC hn => CT.of hK hC hn))
  subst e1
  subst e2
  have le := Fw_len h.hX hf
  have b1 := fnt_ok h.hX hf hk
  have t1 := (db_tree hD hf).2.2.1.2.1 k (by rw [List.length_map]; exact hk)
  rw [Int.toNat_natCast, Int.toNat_natCast, t1, b1.2.2, show (f : Int) * 200 + ((fnt X f k : Nat) : Int) = ((200 * f + fnt X f k : Nat) : Int) by omega]
  refine ⟨by omega, by omega, by omega, by omega, ?_⟩
  refine CaL.on (s_81 (n := 1) (by decide) hS1 h.hX hD.1 hD.2 (by omega) (by rw [show (200 * f + fnt X f k) / 200 = f by omega, show (200 * f + fnt X f k) % 200 = fnt X f k by omega]; exact b1.2.1) (hrr f k hf hk)) ?_
  rintro r F2 hS2 ⟨rfl, u⟩
  have kp : KP F1 F2 := u.kp (fun c hc => by unfold RunP at hc; omega)
  exact ⟨⟨f, k, hf, hk, rfl, rfl⟩, rfl, hK.kp kp, hC.tr kp.cn⟩
end Mn5
