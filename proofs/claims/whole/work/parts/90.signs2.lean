/-! READING, OF THE REFERENCE: goesOn with * ; + - ; == < -/
section M90
variable {F F' : MF} {K : List Int} {n0 N a : Nat} {C0 C : List Int} {l : Lv} {r : List Lv}
/-- what goesOn wants of the place -/
def GB (F : MF) (K : List Int) (n0 N a : Nat) (C0 : List Int) (l : Lv) (r : List Lv) : Prop := LvK K l ∧ N + 4 < 1600 ∧ a < 1000 ∧ r.length < 210 ∧ ∀ s1 q1 lo1 W1, LvB F K n0 C0 (l :: r) s1 q1 lo1 W1 → s1 + 10 < 420 ∧ q1 + 10 < 420
theorem g_mul {R : Int → MF → Prop} (hS : St F) (h : EHs F K n0 C0 (l :: r) a N C) (hB : GB F K n0 N a C0 l r) (hk : kn K a = 21)
    (hR : ∀ F', St F' → EW F' K n0 C0 ((shp l, opn l, szs l, -1, (a : Int), ads l, cps l) :: r) (a + 1) (N + (ol (tms l)).length) (C ++ wd 16 (nts l) ++ wd 17 (tms l)) → TF n0 F F' → R 1 F') : L_232_38 (kn K a) F R m_no := by
  obtain ⟨b1, b2, b3, b4, b5⟩ := hB
  have er : rk (kn K a) = 3 := by rw [hk]; decide
  rw [← ol_wd (tms l)] at hR
  refine g_38 (l' := (shp l, opn l, szs l, -1, (a : Int), ads l, cps l)) (pp := ol (tms l)) (ps := ol (ads l) ++ ol (cps l)) hS h (by rw [pl_ol, List.append_assoc]) ?_ rfl rfl rfl rfl (by omega) (fun e => by omega) (fun _ => rfl) (fun p hp => by rw [rk_t b1 p hp]; omega) (fun p t e => ?_) ⟨by have := ol_len (tms l); omega, by rw [List.length_append]; have := ol_len (ads l); have := ol_len (cps l); omega⟩ b2 b3 b4 b5 hR
  · show ol (a : Int) ++ ol (ads l) ++ ol (cps l) = _
    rw [ol_nat, List.append_assoc]
    rfl
  · have hm : p ∈ ol (ads l) ++ ol (cps l) := by rw [e]; exact List.mem_cons_self
    rcases List.mem_append.mp hm with hp | hp
    · rw [rk_a b1 p hp]; omega
    · rw [rk_c b1 p hp]; omega
theorem g_add {R : Int → MF → Prop} (hS : St F) (h : EHs F K n0 C0 (l :: r) a N C) (hB : GB F K n0 N a C0 l r) (hk : kn K a = 19 ∨ kn K a = 20)
    (hR : ∀ F', St F' → EW F' K n0 C0 ((shp l, opn l, szs l, -1, -1, (a : Int), cps l) :: r) (a + 1) (N + (ol (tms l) ++ ol (ads l)).length) (C ++ wd 16 (nts l) ++ (wd 17 (tms l) ++ wd 17 (ads l))) → TF n0 F F' → R 1 F') : L_232_38 (kn K a) F R m_no := by
  obtain ⟨b1, b2, b3, b4, b5⟩ := hB
  have er : rk (kn K a) = 2 := by rcases hk with e | e <;> rw [e] <;> decide
  rw [← ol_wd (tms l), ← ol_wd (ads l), ← List.map_append] at hR
  refine g_38 (l' := (shp l, opn l, szs l, -1, -1, (a : Int), cps l)) (pp := ol (tms l) ++ ol (ads l)) (ps := ol (cps l)) hS h pl_ol ?_ rfl rfl rfl rfl (by omega) (fun e => by omega) (fun _ => rfl) (fun p hp => ?_) (fun p t e => ?_) ⟨by rw [List.length_append]; have := ol_len (tms l); have := ol_len (ads l); omega, by have := ol_len (cps l); omega⟩ b2 b3 b4 b5 hR
  · show ol (-1) ++ ol (a : Int) ++ ol (cps l) = _
    rw [ol_nat]
    rfl
  · rcases List.mem_append.mp hp with hp | hp
    · rw [rk_t b1 p hp]; omega
    · rw [rk_a b1 p hp]; omega
  · rw [rk_c b1 p (by rw [e]; exact List.mem_cons_self)]; omega
theorem g_cmp {R : Int → MF → Prop} (hS : St F) (h : EHs F K n0 C0 (l :: r) a N C) (hB : GB F K n0 N a C0 l r) (hk : kn K a = 17 ∨ kn K a = 18) (hc : cps l = -1)
    (hR : ∀ F', St F' → EW F' K n0 C0 ((shp l, opn l, szs l, -1, -1, -1, (a : Int)) :: r) (a + 1) (N + (ol (tms l) ++ ol (ads l)).length) (C ++ wd 16 (nts l) ++ (wd 17 (tms l) ++ wd 17 (ads l))) → TF n0 F F' → R 1 F') : L_232_38 (kn K a) F R m_no := by
  obtain ⟨b1, b2, b3, b4, b5⟩ := hB
  have er : rk (kn K a) = 1 := by rcases hk with e | e <;> rw [e] <;> decide
  rw [← ol_wd (tms l), ← ol_wd (ads l), ← List.map_append] at hR
  refine g_38 (l' := (shp l, opn l, szs l, -1, -1, -1, (a : Int))) (pp := ol (tms l) ++ ol (ads l)) (ps := []) hS h (by rw [pl_ol, hc, ol_no]) ?_ rfl rfl rfl rfl (by omega) (fun _ => ⟨hc, ?_⟩) (fun e => absurd er e) (fun p hp => ?_) (fun p t e => by cases e) ⟨by rw [List.length_append]; have := ol_len (tms l); have := ol_len (ads l); omega, by decide⟩ b2 b3 b4 b5 hR
  · show ol (-1) ++ ol (-1) ++ ol (a : Int) = _
    rw [ol_nat]
    rfl
  · show (a : Int) ≠ -1
    omega
  · rcases List.mem_append.mp hp with hp | hp
    · rw [rk_t b1 p hp]; omega
    · rw [rk_a b1 p hp]; omega
end M90
