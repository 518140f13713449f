/-! READING, OF THE REFERENCE: goesOn ends an expr, or goes on with a comma or a closing bracket -/
section M86
variable {F F' : MF} {K : List Int} {n0 N a : Nat} {C0 C : List Int} {l : Lv} {r : List Lv}
/-- what stands when an expr is over or fails behind a unit -/
def GE (F F' : MF) (b : Int) : Prop := F' = m_up (m_up F 201 58 b) 201 63 1
theorem g_169 {R : Int → MF → Prop} (hS : St F) (h : EHs F K n0 C0 (l :: r) a N C) (hK : LvK K l) (hsh : r = [] ∨ shp l = 1 ∨ shp l = 2) (hop : 0 ≤ opn l) (hsz : 0 ≤ szs l) (hN : N + 4 < 1600) (ha : a < 1000) (hr : r.length < 210) (hnt : -1 ≤ nts (hdl r))
    (hbd : ∀ s1 q1 lo1 W1, LvB F K n0 C0 (l :: r) s1 q1 lo1 W1 → s1 + 10 < 420 ∧ q1 + 10 < 420)
    (hR : kn K a = 11 → r ≠ [] → ∀ F', St F' → EHs F' K n0 C0 r (a + 1) (N + ((pl l).length + (wd 16 (nts (hdl r))).length)) (C ++ wd 16 (nts l) ++ (wd 17 (tms l) ++ wd 17 (ads l) ++ wd 17 (cps l)) ++ [mk (if shp l = 1 then 18 else 15) (opn l).toNat (if shp l = 1 then (szs l).toNat else (szs l).toNat + 1)]) → TF n0 F F' → R 0 F')
    (hE : r = [] → R 0 (m_up (m_up F 201 58 0) 201 63 1)) (hF : r ≠ [] → kn K a ≠ 11 → R 0 (m_up (m_up F 201 58 1) 201 63 1)) :
    L_232_169 (kn K a) F R m_no := by
  have h3 : F 201 54 = (r.length : Int) := h.2.1
  have hlen : 0 < (r.length : Int) ↔ r ≠ [] := by
    cases r with
    | nil => exact ⟨fun e => absurd e (by decide), fun e => absurd rfl e⟩
    | cons x y => exact ⟨fun _ e => (by cases e), fun _ => (by rw [List.length_cons]; omega)⟩
  refine b_232_169 hS ?_
  rw [h3]
  refine ⟨fun e => ⟨fun e1 => ?_, fun e1 => hE (Classical.byContradiction fun x => e1 (hlen.mpr x))⟩, fun e => ⟨fun e1 => hF (hlen.mp e1) e, fun e1 => hE (Classical.byContradiction fun x => e1 (hlen.mpr x))⟩⟩
  have hne := hlen.mp e1
  exact g_close hS h hK (hsh.resolve_left hne) hop hsz hN ha hr hnt hbd (hR e hne)
theorem g_112 {R : Int → MF → Prop} (hS : St F) (h : EHs F K n0 C0 (l :: r) a N C) (hK : LvK K l) (hN : N + 4 < 1600) (ha : a < 1000) (hr : r.length < 210)
    (hbd : ∀ s1 q1 lo1 W1, LvB F K n0 C0 (l :: r) s1 q1 lo1 W1 → s1 + 10 < 420 ∧ q1 + 10 < 420)
    (hR : kn K a = 14 → r ≠ [] → shp l = 2 → ∀ F', St F' → EW F' K n0 C0 ((shp l, opn l, szs l + 1, -1, -1, -1, -1) :: r) (a + 1) (N + (pl l).length) (C ++ wd 16 (nts l) ++ (wd 17 (tms l) ++ wd 17 (ads l) ++ wd 17 (cps l))) → TF n0 F F' → R 1 F')
    (hE : (kn K a = 14 → r ≠ [] → shp l = 1) → L_232_169 (kn K a) F R m_no) :
    L_232_112 (kn K a) F R m_no := by
  have h3 : F 201 54 = (r.length : Int) := h.2.1
  obtain ⟨s1, q1, lo1, W1, h1, -⟩ := h.1
  refine b_232_112 hS ?_
  rw [h3, Int.toNat_natCast]
  refine ⟨fun e => ⟨fun e1 => ⟨by omega, fun e2 => hE (fun _ hne => ?_), fun e2 => ?_⟩, fun e1 => hE (fun _ hne => ?_)⟩, fun e => hE (fun x => absurd x e)⟩
  · obtain ⟨-, ⟨e0, -⟩ | ⟨s1', q1', lo1', s2, m, W1', W2, g1, g2, g3, g4, g5, g6⟩⟩ := h1
    · exact absurd e0 hne
    · rcases g6 with ⟨e5, -⟩ | ⟨-, e6, -⟩
      · exact e5
      · rw [e6] at e2; omega
  · obtain ⟨-, ⟨e0, -⟩ | ⟨s1', q1', lo1', s2, m, W1', W2, g1, g2, g3, g4, g5, g6⟩⟩ := h1
    · rw [e0] at e1; exact absurd e1 (by decide)
    · have hne : r ≠ [] := fun x => by rw [x] at e1; exact absurd e1 (by decide)
      rcases g6 with ⟨-, e6, -⟩ | ⟨e5, -⟩
      · exact absurd e6 e2
      · exact g_comma hS h hK e5 hN ha hr hbd (hR e hne e5)
  · exfalso
    cases r with
    | nil => exact hne rfl
    | cons x y => exact e1 (by rw [List.length_cons]; omega)
end M86
