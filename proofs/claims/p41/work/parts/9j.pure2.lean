/-! THE WORDS OF A FILE: what they are, which tokens they speak of, how many there are -/
def oX (K : List Int) (o t e : Nat) : Prop := o = 14 ∧ e = 0 ∧ kp K t ∨ o = 15 ∧ kn K t = 0 ∨ (o = 16 ∨ o = 17 ∨ o = 18) ∧ e = 0 ∧ t < 200
def WC (K : List Int) (w : Int) : Prop := ∃ o t e : Nat, w = mk o t e ∧ t < 256 ∧ (oX K o t e ∨ o = 1 ∧ kn K t = 0 ∨ o = 2 ∧ (∀ i, i ≤ e → kn K (t + 2 * i) = 0) ∨ (3 ≤ o ∧ o ≤ 6) ∨ (9 ≤ o ∧ o ≤ 13) ∨ (o = 7 ∨ o = 8) ∧ kn K t = 0)
def b3 (w : Int) : Nat := if wo w = 3 then 1 else 0
def b7 (w : Int) : Nat := if wo w = 7 then 1 else 0
/-- words whose tokens lie in a span -/
def SpW (V : List Int) (lo hi : Nat) : Prop := ∀ t : Int, sm (cw t) V ≤ 1 ∧ ((t < (lo : Int) ∨ (hi : Int) ≤ t) → sm (cw t) V = 0)
def PQw (K : List Int) (a : Nat) (C : List Int) : Prop := (∀ w ∈ C, WC K w) ∧ SpW C 0 a ∧ sm b3 C ≤ a ∧ sm b7 C ≤ a
def jp (C : List Int) (i : Nat) : Prop := i < C.length ∧ (wo (gx C i) = 11 ∨ wo (gx C i) = 12)
def PSo (S : List (Int × Int)) (C : List Int) : Prop := ∀ y ∈ S, (y.1 = 0 ∨ y.1 = 1) ∨ ∃ i : Nat, y.2 = (i : Int) ∧ jp C i
def PV (K : List Int) (x : PS) : Prop := PQw K x.1 x.2.2.1 ∧ PSo x.2.1 x.2.2.1 ∧ ∀ u ∈ x.2.2.2.2.2, ∃ t : Nat, u = (t : Int) ∧ t < K.length ∧ kn K t = 0
section M9j
variable {K C V : List Int} {S : List (Int × Int)} {E : EE} {Fn : FF} {U : List Int} {a a' : Nat}
theorem b3_mk {o t e : Nat} (h : o < 256) : b3 (mk o t e) = if o = 3 then 1 else 0 := by
  unfold b3
  rw [wo_mk h]
  by_cases e : o = 3
  · rw [if_pos e, if_pos (by omega)]
  · rw [if_neg e, if_neg (by omega)]
theorem b7_mk {o t e : Nat} (h : o < 256) : b7 (mk o t e) = if o = 7 then 1 else 0 := by
  unfold b7
  rw [wo_mk h]
  by_cases e : o = 7
  · rw [if_pos e, if_pos (by omega)]
  · rw [if_neg e, if_neg (by omega)]
theorem WX.wc {w : Int} (h : WX K w) : WC K w := by
  obtain ⟨o, t, e, h1, h2, h3⟩ := h
  refine ⟨o, t, e, h1, by omega, Or.inl ?_⟩
  unfold oX
  rcases h3 with h | h | ⟨h4, h5⟩
  · exact Or.inl h
  · exact Or.inr (Or.inl h)
  · exact Or.inr (Or.inr ⟨h4, h5, h2⟩)
theorem WX.b {w : Int} (h : WX K w) : b3 w = 0 ∧ b7 w = 0 := by
  obtain ⟨o, t, e, rfl, h2, h3⟩ := h
  rw [b3_mk (by omega), b7_mk (by omega), if_neg (by omega), if_neg (by omega)]
  exact ⟨rfl, rfl⟩
theorem WX.bs : ∀ {D : List Int}, (∀ w ∈ D, WX K w) → sm b3 D = 0 ∧ sm b7 D = 0
  | [], _ => ⟨rfl, rfl⟩
  | w :: D, h => by
    have h1 := (h w (List.mem_cons_self)).b
    have h2 := WX.bs (fun v hv => h v (List.mem_cons_of_mem _ hv))
    show b3 w + sm b3 D = 0 ∧ b7 w + sm b7 D = 0
    omega
theorem PQw.add (h : PQw K a C) (ha : a ≤ a') (hV : ∀ w ∈ V, WC K w) (h1 : SpW V a a') (h3 : sm b3 V ≤ a' - a) (h7 : sm b7 V ≤ a' - a) : PQw K a' (C ++ V) := by
  obtain ⟨g1, g2, g3, g4⟩ := h
  refine ⟨fun w hw => ?_, fun t => ?_, by rw [sm_app]; omega, by rw [sm_app]; omega⟩
  · rcases List.mem_append.mp hw with hw | hw
    · exact g1 w hw
    · exact hV w hw
  · have e1 := g2 t
    have e2 := h1 t
    rw [sm_app]
    by_cases e : t < (a : Int)
    · have := e2.2 (Or.inl e)
      exact ⟨by omega, fun h => by have := e1.2 (by omega); omega⟩
    · have := e1.2 (Or.inr (by omega))
      exact ⟨by omega, fun h => by have := e2.2 (by omega); omega⟩
theorem PQw.up (h : PQw K a C) (ha : a ≤ a') : PQw K a' C := by
  have := h.add (V := []) ha (fun w h => absurd h (List.not_mem_nil)) (fun t => ⟨Nat.zero_le _, fun _ => rfl⟩) (Nat.zero_le _) (Nat.zero_le _)
  rwa [List.append_nil] at this
theorem SpW.nil {lo hi : Nat} : SpW [] lo hi := fun _ => ⟨Nat.zero_le _, fun _ => rfl⟩
theorem SpW.no {o t e lo hi : Nat} {W : List Int} (h : SpW W lo hi) (ho : o < 256) (h2 : o ≠ 2) (h7 : o ≠ 7) (h8 : o ≠ 8) (h14 : o ≠ 14) (h15 : o ≠ 15) : SpW (mk o t e :: W) lo hi := fun u => by
  show cw u (mk o t e) + sm (cw u) W ≤ 1 ∧ (_ → cw u (mk o t e) + sm (cw u) W = 0)
  rw [cw_no ho h2 h7 h8 h14 h15, Nat.zero_add]
  exact h u
theorem SpW.wide {lo hi lo' hi' : Nat} (h : SpW V lo hi) (h1 : lo' ≤ lo) (h2 : hi ≤ hi') : SpW V lo' hi' := fun t => ⟨(h t).1, fun e => (h t).2 (by omega)⟩
theorem SpW.snoc {o t e lo hi : Nat} (h : SpW V lo hi) (ho : o < 256) (h2 : o ≠ 2) (h7 : o ≠ 7) (h8 : o ≠ 8) (h14 : o ≠ 14) (h15 : o ≠ 15) : SpW (V ++ [mk o t e]) lo hi := fun u => by
  rw [sm_app]
  show sm (cw u) V + (cw u (mk o t e) + 0) ≤ 1 ∧ (_ → sm (cw u) V + (cw u (mk o t e) + 0) = 0)
  rw [cw_no ho h2 h7 h8 h14 h15]
  exact h u
theorem SpW.sno {o t e lo hi : Nat} (h : SpW V lo hi) (ho : o = 7 ∨ o = 8) (ht : t < 256) (h1 : t < lo) (h2 : lo ≤ hi) : SpW (V ++ [mk o t e]) t hi := fun u => by
  have := h u
  rw [sm_app]
  show sm (cw u) V + (cw u (mk o t e) + 0) ≤ 1 ∧ (_ → sm (cw u) V + (cw u (mk o t e) + 0) = 0)
  rw [cw_one (by omega) ht]
  by_cases e : u = (t : Int)
  · rw [if_pos e]
    have := this.2 (Or.inl (by omega))
    exact ⟨by omega, fun h => by omega⟩
  · rw [if_neg e]
    exact ⟨by omega, fun h => by have := this.2 (by omega); omega⟩
theorem gx_set {v : Int} : ∀ (C : List Int) (i j : Nat), i < C.length → gx (C.set i v) j = if j = i then v else gx C j
  | [], i, j, h => absurd h (Nat.not_lt_zero i)
  | x :: C, 0, 0, _ => rfl
  | x :: C, 0, j + 1, _ => by rw [if_neg (by omega)]; rfl
  | x :: C, i + 1, 0, _ => by rw [if_neg (by omega)]; rfl
  | x :: C, i + 1, j + 1, h => by
    show gx (C.set i v) j = if j + 1 = i + 1 then v else gx C j
    rw [gx_set C i j (by rw [List.length_cons] at h; omega)]
    by_cases e : j = i
    · rw [if_pos e, if_pos (by omega)]
    · rw [if_neg e, if_neg (by omega)]
theorem aim_set {i p : Nat} (h : i < C.length) : aim C (i : Int) p = C.set i (gx C i % 65536 + 65536 * (p : Int)) := by
  unfold aim
  rw [if_pos ⟨by omega, by omega⟩, Int.toNat_natCast]
theorem jp.aim {i j p : Nat} (h : jp C i) (hj : j < C.length) : jp (aim C (j : Int) p) i := by
  refine ⟨by rw [aim_len]; exact h.1, ?_⟩
  rw [aim_set hj, gx_set _ _ _ hj]
  by_cases e : i = j
  · rw [if_pos e]
    have := h.2
    unfold wo at this ⊢
    rw [e] at this
    omega
  · rw [if_neg e]; exact h.2
theorem jp.app {i : Nat} (h : jp C i) : jp (C ++ V) i := by
  refine ⟨by rw [List.length_append]; have := h.1; omega, ?_⟩
  rw [gx_app, if_pos h.1]
  exact h.2
theorem PQw.aim {i p : Nat} (h : PQw K a C) (hj : jp C i) : PQw K a (aim C (i : Int) p) := by
  obtain ⟨g1, g2, g3, g4⟩ := h
  obtain ⟨o, t, e, e1, e2, e3⟩ := g1 _ (gx_mem hj.1)
  have ho : o < 256 := by unfold oX at e3; omega
  have e4 : o = 11 ∨ o = 12 := by have := hj.2; rw [e1, wo_mk ho] at this; omega
  have ev : gx C i % 65536 + 65536 * (p : Int) = mk o t p := by rw [e1]; unfold mk; omega
  rw [aim_set hj.1, ev]
  have hs : ∀ g : Int → Nat, (∀ q, g (mk o t q) = 0) → sm g (C.set i (mk o t p)) = sm g C := fun g hg => sm_set C i hj.1 (by rw [e1, hg, hg])
  refine ⟨fun w hw => ?_, fun u => ?_, ?_, ?_⟩
  · rcases List.mem_or_eq_of_mem_set hw with hw | hw
    · exact g1 w hw
    · exact ⟨o, t, p, hw, e2, by omega⟩
  · rw [hs _ (fun q => cw_no ho (by omega) (by omega) (by omega) (by omega) (by omega))]
    exact g2 u
  · rw [hs _ (fun q => by rw [b3_mk ho, if_neg (by omega)])]
    exact g3
  · rw [hs _ (fun q => by rw [b7_mk ho, if_neg (by omega)])]
    exact g4
theorem PSo.aim {i p : Nat} (h : PSo S C) (hj : i < C.length) : PSo S (aim C (i : Int) p) := fun y hy => by
  rcases h y hy with h2 | ⟨k, e, k2⟩
  · exact Or.inl h2
  · exact Or.inr ⟨k, e, k2.aim hj⟩
theorem PSo.app (h : PSo S C) : PSo S (C ++ V) := fun y hy => by
  rcases h y hy with h2 | ⟨k, e, k2⟩
  · exact Or.inl h2
  · exact Or.inr ⟨k, e, k2.app⟩
theorem PSo.tail {y : Int × Int} (h : PSo (y :: S) C) : PSo S C := fun z hz => h z (List.mem_cons_of_mem _ hz)
theorem PSo.low {q st : Int} (h : PSo S C) (hq : q = 0 ∨ q = 1) : PSo ((q, st) :: S) C := fun z hz => by
  rcases List.mem_cons.mp hz with e | hz
  · rw [e]; exact Or.inl hq
  · exact h z hz
theorem PSo.cons {q : Int} {i : Nat} (h : PSo S C) (hj : jp C i) : PSo ((q, (i : Int)) :: S) C := fun z hz => by
  rcases List.mem_cons.mp hz with e | hz
  · rw [e]; exact Or.inr ⟨i, rfl, hj⟩
  · exact h z hz
/-- words that speak of no token that is bound -/
theorem PQw.one {o t e : Nat} (h : PQw K a C) (ho : (4 ≤ o ∧ o ≤ 6) ∨ (9 ≤ o ∧ o ≤ 13) ∨ o = 1 ∧ kn K t = 0) (ht : t < 256) : PQw K a (C ++ [mk o t e]) :=
  h.add (Nat.le_refl _) (fun w hw => by rw [List.mem_singleton.mp hw]; exact ⟨o, t, e, rfl, ht, by omega⟩) (SpW.nil.no (by omega) (by omega) (by omega) (by omega) (by omega) (by omega)) (by show b3 (mk o t e) + 0 ≤ _; rw [b3_mk (by omega), if_neg (by omega)]; omega) (by show b7 (mk o t e) + 0 ≤ _; rw [b7_mk (by omega), if_neg (by omega)]; omega)
theorem PQw.blk {t : Nat} (h : PQw K a C) (ha : a < a') (ht : t < 256) : PQw K a' (C ++ [mk 3 t 0]) :=
  h.add (by omega) (fun w hw => by rw [List.mem_singleton.mp hw]; exact ⟨3, t, 0, rfl, ht, by omega⟩) (SpW.nil.no (by omega) (by omega) (by omega) (by omega) (by omega) (by omega)) (by show b3 (mk 3 t 0) + 0 ≤ _; rw [b3_mk (by omega), if_pos rfl]; omega) (by show b7 (mk 3 t 0) + 0 ≤ _; rw [b7_mk (by omega), if_neg (by omega)]; omega)
theorem PV_pel {q st : Int} (hK : K.length ≤ 195) (h : PV K (a, S, C, E, Fn, U)) (ha : a ≤ K.length) (hst : q = 2 → ∃ i : Nat, st = (i : Int) ∧ jp C i) : PV K (pel K a q st S C E Fn U) := by
  obtain ⟨g1, g2, g3⟩ := h
  change PQw K a C at g1
  change PSo S C at g2
  unfold pel
  split
  · next e =>
    have l1 : a < K.length := kn_lt (by omega)
    obtain ⟨i, rfl, hj⟩ := hst e.1
    split
    · have hj2 : jp (C ++ [mk 12 a 0]) i := hj.app
      have h2 := (g1.one (o := 12) (t := a) (e := 0) (by omega) (by omega)).aim (p := C.length + 1) hj2
      refine ⟨PQw.blk h2 (by omega) (by omega), ?_, g3⟩
      show PSo ((3, (C.length : Int)) :: S) (aim (C ++ [mk 12 a 0]) (i : Int) (C.length + 1) ++ [mk 3 (a + 1) 0])
      refine PSo.app (PSo.cons ((g2.app).aim hj2.1) (jp.aim ⟨by rw [List.length_append]; exact Nat.lt_succ_self _, ?_⟩ hj2.1))
      rw [gx_app, if_neg (by omega), Nat.sub_self]
      exact Or.inr (wo_mk (by decide))
    · refine ⟨g1.up ?_, g2, g3⟩
      have := skS_ge K (K.length - (a + 1)) (a + 1)
      show a ≤ skS K (K.length - (a + 1)) (a + 1)
      omega
  · exact ⟨g1, g2, g3⟩
theorem PV_pcb {cl1 : Bool} {q st : Int} (hK : K.length ≤ 195) (h : PV K (a, (q, st) :: S, C, E, Fn, U)) (ha : a ≤ K.length) (hcl : cl1 = true → a < K.length) : PV K (pcb K a cl1 q st S C E Fn U) := by
  obtain ⟨g1, g2, g3⟩ := h
  change PQw K a C at g1
  change PSo ((q, st) :: S) C at g2
  rw [pcb_pc2]
  have hge : a ≤ (if cl1 = true then a + 1 else a) := by split <;> omega
  have hle : (if cl1 = true then a + 1 else a) ≤ K.length := by
    split
    · next e => exact hcl e
    · exact ha
  generalize (if cl1 = true then a + 1 else a) = a2 at hge hle
  have k1 : PQw K a2 (C ++ [mk 4 a (if cl1 = true then 1 else 0)]) := (g1.one (o := 4) (by omega) (by omega)).up hge
  have k2 : PSo ((q, st) :: S) (C ++ [mk 4 a (if cl1 = true then 1 else 0)]) := g2.app
  generalize C ++ [mk 4 a (if cl1 = true then 1 else 0)] = C2 at k1 k2
  unfold pc2
  split
  · exact PV_pel hK ⟨k1.one (o := 5) (by omega) (by omega), k2.tail.app, g3⟩ hle (fun h => by omega)
  · split
    · exact PV_pel hK ⟨k1, k2.tail, g3⟩ hle (fun h => by omega)
    · next e0 e1 =>
      rcases k2 (q, st) (List.mem_cons_self) with hq | ⟨i, e, hj⟩
      · change q = 0 ∨ q = 1 at hq
        omega
      · change st = (i : Int) at e
        subst e
        exact PV_pel hK ⟨k1.aim hj, k2.tail.aim hj.1, g3⟩ hle (fun _ => ⟨i, rfl, hj.aim hj.1⟩)
end M9j
section M9j2
variable {K C V : List Int} {S : List (Int × Int)} {E : EE} {Fn : FF} {U : List Int} {a a' : Nat}
/-- a header that goes well -/
theorem hdr_par : ∀ (d p : Nat), (∀ i, i ≤ p → kn K (a + 1 + 2 * i) = 0) → (hdr K d (a + 3 + 2 * p) p).1 = true → (hdr K d (a + 3 + 2 * p) p).2.1 = a + 3 + 2 * (hdr K d (a + 3 + 2 * p) p).2.2 ∧ ∀ i, i ≤ (hdr K d (a + 3 + 2 * p) p).2.2 → kn K (a + 1 + 2 * i) = 0 := by
  intro d
  induction d with
  | zero => intro p _ h; exact absurd h (by show ¬ (false : Bool) = true; decide)
  | succ d ih =>
    intro p hp
    rw [hdr_succ]
    by_cases e0 : kn K (a + 3 + 2 * p) = 0
    · have hp2 : ∀ i, i ≤ p + 1 → kn K (a + 1 + 2 * i) = 0 := fun i hi => by
        by_cases e : i = p + 1
        · rw [e, show a + 1 + 2 * (p + 1) = a + 3 + 2 * p by omega]; exact e0
        · exact hp i (by omega)
      rw [if_pos e0]
      by_cases e14 : kn K (a + 3 + 2 * p + 1) = 14
      · rw [if_pos e14, show a + 3 + 2 * p + 2 = a + 3 + 2 * (p + 1) by omega]
        exact ih (p + 1) hp2
      · rw [if_neg e14]
        by_cases e11 : kn K (a + 3 + 2 * p + 1) = 11
        · rw [if_pos e11]
          by_cases e12 : kn K (a + 3 + 2 * p + 2) = 12
          · rw [if_pos e12]
            intro _
            exact ⟨by show a + 3 + 2 * p + 2 = a + 3 + 2 * (p + 1); omega, hp2⟩
          · rw [if_neg e12]; intro h; exact absurd h (by show ¬ (false : Bool) = true; decide)
        · rw [if_neg e11]; intro h; exact absurd h (by show ¬ (false : Bool) = true; decide)
    · rw [if_neg e0]; intro h; exact absurd h (by show ¬ (false : Bool) = true; decide)
theorem fnh_par (h : (fnh K a).1 = true) : a + 3 + 2 * (fnh K a).2.2 ≤ (fnh K a).2.1 ∧ ∀ i, i ≤ (fnh K a).2.2 → kn K (a + 1 + 2 * i) = 0 := by
  revert h
  unfold fnh
  by_cases e0 : kn K (a + 1) = 0
  · rw [if_pos e0]
    by_cases e10 : kn K (a + 2) = 10
    · rw [if_pos e10]
      have h0 : ∀ i, i ≤ 0 → kn K (a + 1 + 2 * i) = 0 := fun i hi => by rw [show i = 0 by omega]; exact e0
      by_cases e11 : kn K (a + 3) = 11
      · rw [if_pos e11]
        by_cases e12 : kn K (a + 4) = 12
        · rw [if_pos e12]
          intro _
          exact ⟨by show a + 3 + 2 * 0 ≤ a + 4; omega, h0⟩
        · rw [if_neg e12]; intro h; exact absurd h (by show ¬ (false : Bool) = true; decide)
      · rw [if_neg e11]
        intro h
        have := hdr_par (K := K) (a := a) K.length 0 h0 h
        exact ⟨by have := this.1; change (hdr K K.length (a + 3) 0).2.1 = a + 3 + 2 * (hdr K K.length (a + 3) 0).2.2 at this; omega, this.2⟩
    · rw [if_neg e10]; intro h; exact absurd h (by show ¬ (false : Bool) = true; decide)
  · rw [if_neg e0]; intro h; exact absurd h (by show ¬ (false : Bool) = true; decide)
theorem PV_pit (hK : K.length ≤ 195) (h : PV K (a, [], C, E, Fn, U)) (ha : a < K.length) : PV K (pit K a C E Fn U) := by
  obtain ⟨g1, g2, g3⟩ := h
  change PQw K a C at g1
  have bad : ∀ (e : Nat) (E' : EE), a ≤ e → PV K (skI K (K.length - e) e, [], C, E', Fn, U) := fun e E' h => ⟨g1.up (by show a ≤ skI K (K.length - e) e; have := skI_ge K (K.length - e) e; omega), fun y hy => absurd hy (List.not_mem_nil), g3⟩
  by_cases k3 : kn K a = 3
  · rw [pit_fn k3]
    have hl := fnh_le ha
    split
    · next e =>
      have hp := fnh_par e
      have hl2 := hl.2.2 e
      generalize (fnh K a).2.1 = e1 at hp hl hl2
      generalize (fnh K a).2.2 = n at hp
      refine ⟨?_, PSo.low (fun y hy => absurd hy (List.not_mem_nil)) (Or.inl rfl), g3⟩
      refine PQw.add (a' := e1 + 1) g1 (by omega) (fun w hw => ?_) (fun t => ?_) ?_ ?_
      · rcases List.mem_cons.mp hw with e | hw
        · exact ⟨2, a + 1, n, e, by omega, Or.inr (Or.inr (Or.inl ⟨rfl, fun i hi => hp.2 i hi⟩))⟩
        · exact ⟨3, e1, 0, List.mem_singleton.mp hw, by omega, by omega⟩
      · show cw t (mk 2 (a + 1) n) + (cw t (mk 3 e1 0) + 0) ≤ 1 ∧ (_ → cw t (mk 2 (a + 1) n) + (cw t (mk 3 e1 0) + 0) = 0)
        rw [cw_no (o := 3) (by decide) (by decide) (by decide) (by decide) (by decide) (by decide)]
        have := cw_le t (mk 2 (a + 1) n)
        refine ⟨by omega, fun ht => ?_⟩
        rw [cw_0]
        intro h2
        rcases h2 with h2 | h2
        · rw [wt_mk (by decide) (by omega), we_mk (by decide) (by omega)] at h2
          omega
        · rw [wo_mk (by decide)] at h2
          omega
      · show b3 (mk 2 (a + 1) n) + (b3 (mk 3 e1 0) + 0) ≤ _
        rw [b3_mk (by decide), b3_mk (by decide), if_neg (by decide), if_pos rfl]
        omega
      · show b7 (mk 2 (a + 1) n) + (b7 (mk 3 e1 0) + 0) ≤ _
        rw [b7_mk (by decide), b7_mk (by decide), if_neg (by decide), if_neg (by decide)]
        omega
    · exact bad _ _ (by omega)
  · unfold pit
    split
    · split
      · next e0 =>
        split
        · have l1 : a + 1 < K.length := kn_lt (by rw [e0]; decide)
          refine ⟨(g1.one (o := 1) (t := a + 1) (e := 0) (Or.inr (Or.inr ⟨rfl, e0⟩)) (by omega)).up (by show a ≤ a + 3; omega), fun y hy => absurd hy (List.not_mem_nil), fun u hu => ?_⟩
          rcases List.mem_append.mp hu with hu | hu
          · exact g3 u hu
          · exact ⟨a + 1, List.mem_singleton.mp hu, l1, e0⟩
        · exact bad _ _ (by omega)
      · exact bad _ _ (by omega)
    · exact bad a _ (Nat.le_refl _)
/-- a statement but for blocks that goes well -/
theorem sth_D (hK : K.length ≤ 195) (ha : a < K.length) (hx : (sth K a (C ++ [mk 6 a 0])).1 = true) : ∃ D, (sth K a (C ++ [mk 6 a 0])).2.2 = C ++ mk 6 a 0 :: D ∧ (∀ w ∈ D, WX K w) ∧ (SpW D (if kn K a = 4 then a + 2 else if kn K a = 0 ∧ kn K (a + 1) ≠ 10 then a + 1 else a) (sth K a (C ++ [mk 6 a 0])).2.1 ∧ (if kn K a = 4 then a + 2 else if kn K a = 0 ∧ kn K (a + 1) ≠ 10 then a + 1 else a) ≤ (sth K a (C ++ [mk 6 a 0])).2.1) ∧ (kn K a = 4 → kn K (a + 1) = 0) ∧ (kn K a ≠ 4 → kn K a ≠ 5 → kn K a ≠ 7 → kn K a = 0) := by
  revert hx
  have fin : ∀ (s m : Nat) (cl1 : Bool) (k : Int), s ≤ K.length → (cl1 = true → kn K s = 0) → k ≠ 24 → ∀ lo, lo ≤ s → (fi K (exr K cl1 s (C ++ [mk 6 a 0])) k m).1 = true → ∃ D, (fi K (exr K cl1 s (C ++ [mk 6 a 0])) k m).2.2 = C ++ mk 6 a 0 :: D ∧ (∀ w ∈ D, WX K w) ∧ (SpW D lo (fi K (exr K cl1 s (C ++ [mk 6 a 0])) k m).2.1 ∧ lo ≤ (fi K (exr K cl1 s (C ++ [mk 6 a 0])) k m).2.1) := by
    intro s m cl1 k hs hc hk lo hlo hy
    have hd := XD_exr (C := C ++ [mk 6 a 0]) hK hs hc
    revert hd hy
    generalize exr K cl1 s (C ++ [mk 6 a 0]) = y
    intro hy hd
    by_cases e : y.1 = 3 ∧ kn K y.2.1 = k
    · rw [fi_y e] at hy ⊢
      obtain ⟨h1, -, ⟨D, d1, d2, d3⟩, -⟩ := hd
      refine ⟨D, by show y.2.2.2 = _; rw [d1, List.append_assoc]; rfl, d2, fun t => ?_, by show lo ≤ y.2.1 + m; omega⟩
      have := d3 t
      refine ⟨by omega, fun ht => ?_⟩
      change t < (lo : Int) ∨ ((y.2.1 + m : Nat) : Int) ≤ t at ht
      have := this.2 (by omega)
      omega
    · rw [fi_n e] at hy
      exact absurd hy (by show ¬ (false : Bool) = true; decide)
  rw [sth_fi]
  by_cases e5 : kn K a = 5
  · rw [if_pos e5]
    intro hx
    obtain ⟨D, d1, d2, d3⟩ := fin (a + 1) 0 false 12 (by omega) (fun h => absurd h (by decide)) (by decide) a (by omega) hx
    exact ⟨D, d1, d2, by rw [if_neg (by omega), if_neg (by omega)]; exact d3, fun h => by omega, fun _ h => absurd e5 h⟩
  · rw [if_neg e5]
    by_cases e7 : kn K a = 7
    · rw [if_pos e7]
      intro hx
      obtain ⟨D, d1, d2, d3⟩ := fin (a + 1) 1 false 15 (by omega) (fun h => absurd h (by decide)) (by decide) a (by omega) hx
      exact ⟨D, d1, d2, by rw [if_neg (by omega), if_neg (by omega)]; exact d3, fun h => by omega, fun _ _ h => absurd e7 h⟩
    · rw [if_neg e7]
      by_cases ec : kn K a = 0 ∧ kn K (a + 1) = 10
      · rw [if_pos ec]
        intro hx
        obtain ⟨D, d1, d2, d3⟩ := fin a 1 true 15 (by omega) (fun _ => ec.1) (by decide) a (by omega) hx
        exact ⟨D, d1, d2, by rw [if_neg (by omega), if_neg (by omega)]; exact d3, fun h => by omega, fun _ _ _ => ec.1⟩
      · rw [if_neg ec]
        by_cases e4 : kn K a = 4
        · rw [if_pos e4]
          by_cases e0 : kn K (a + 1) = 0
          · rw [if_pos e0]
            by_cases e16 : kn K (a + 1 + 1) = 16
            · rw [if_pos e16]
              have hl : a + 1 + 1 < K.length := kn_lt (by rw [e16]; decide)
              intro hx
              obtain ⟨D, d1, d2, d3⟩ := fin (a + 1 + 2) 1 false 15 (by omega) (fun h => absurd h (by decide)) (by decide) (a + 2) (by omega) hx
              exact ⟨D, d1, d2, by rw [if_pos e4]; exact d3, fun _ => e0, fun h => absurd e4 h⟩
            · rw [if_neg e16]; intro h; exact absurd h (by show ¬ (false : Bool) = true; decide)
          · rw [if_neg e0]; intro h; exact absurd h (by show ¬ (false : Bool) = true; decide)
        · rw [if_neg e4]
          by_cases e0 : kn K a = 0
          · rw [if_pos e0]
            by_cases e16 : kn K (a + 1) = 16
            · rw [if_pos e16]
              have hl : a + 1 < K.length := kn_lt (by rw [e16]; decide)
              intro hx
              obtain ⟨D, d1, d2, d3⟩ := fin (a + 2) 1 false 15 (by omega) (fun h => absurd h (by decide)) (by decide) (a + 1) (by omega) hx
              exact ⟨D, d1, d2, by rw [if_neg e4, if_pos ⟨e0, by omega⟩]; exact d3, fun h => absurd h e4, fun _ _ _ => e0⟩
            · rw [if_neg e16]; intro h; exact absurd h (by show ¬ (false : Bool) = true; decide)
          · rw [if_neg e0]; intro h; exact absurd h (by show ¬ (false : Bool) = true; decide)
theorem PV_pst {q st : Int} (hK : K.length ≤ 195) (h : PV K (a, (q, st) :: S, C, E, Fn, U)) (ha : a ≤ K.length) : PV K (pst K a q st S C E Fn U) := by
  have hh := h
  obtain ⟨g1, g2, g3⟩ := h
  change PQw K a C at g1
  change PSo ((q, st) :: S) C at g2
  rw [pst_psx]
  by_cases h13 : kn K a = 13
  · rw [if_pos h13]
    exact PV_pcb hK hh ha (fun _ => kn_lt (by rw [h13]; decide))
  rw [if_neg h13]
  by_cases hb : bgn (kn K a) = true
  · rw [if_pos hb]
    exact PV_pcb hK hh ha (fun h => absurd h (by decide))
  rw [if_neg hb]
  have hl : a < K.length := kn_lt (fun e => hb (by rw [e]; decide))
  by_cases h12 : kn K a = 12
  · rw [if_pos h12]
    refine ⟨?_, PSo.app (PSo.low g2 (Or.inr rfl)), g3⟩
    have := (g1.one (o := 6) (t := a) (e := 0) (by omega) (by omega)).blk (a' := a + 1) (t := a) (by omega) (by omega)
    rw [List.append_assoc] at this
    exact this
  rw [if_neg h12]
  have so := SO_sth (W := C ++ [mk 6 a 0]) hK hl
  have hd := sth_D (C := C) hK hl
  revert so hd
  generalize sth K a (C ++ [mk 6 a 0]) = x
  obtain ⟨ok, e, V⟩ := x
  intro so hd
  have s1 : a ≤ e := so.1
  have s2 : e ≤ K.length := so.2.1
  unfold psx
  cases ok with
  | false =>
    rw [if_pos rfl]
    have hge := skS_ge K (K.length - e) e
    refine ⟨(g1.one (o := 13) (t := a) (e := 0) (by omega) (by omega)).up (by show a ≤ skS K (K.length - e) e; omega), g2.app, g3⟩
  | true =>
    rw [if_neg (show ¬ (true : Bool) = false by decide)]
    obtain ⟨D, d1, d2, ⟨d3, d6⟩, d4, d5⟩ := hd rfl
    change V = C ++ mk 6 a 0 :: D at d1
    have s3 : a + 1 ≤ e := (so.2.2.2 rfl).1
    have hbs := WX.bs d2
    have bV : ∀ (o t x : Nat), (9 ≤ o ∧ o ≤ 13 ∨ (o = 7 ∨ o = 8) ∧ kn K t = 0) → t < 256 → SpW (D ++ [mk o t x]) a e → PQw K e (V ++ [mk o t x]) := by
      intro o t x ho ht hs
      rw [d1, show C ++ mk 6 a 0 :: D ++ [mk o t x] = C ++ (mk 6 a 0 :: (D ++ [mk o t x])) by rw [List.append_assoc]; rfl]
      refine g1.add (by omega) (fun w hw => ?_) (hs.no (by decide) (by decide) (by decide) (by decide) (by decide) (by decide)) ?_ ?_
      · rcases List.mem_cons.mp hw with e | hw
        · exact ⟨6, a, 0, e, by omega, by omega⟩
        · rcases List.mem_append.mp hw with hw | hw
          · exact (d2 w hw).wc
          · exact ⟨o, t, x, List.mem_singleton.mp hw, ht, by rcases ho with ho | ho; omega; exact Or.inr (Or.inr (Or.inr (Or.inr (Or.inr ho))))⟩
      · show b3 (mk 6 a 0) + sm b3 (D ++ [mk o t x]) ≤ e - a
        rw [sm_app, hbs.1]
        show b3 (mk 6 a 0) + (0 + (b3 (mk o t x) + 0)) ≤ e - a
        rw [b3_mk (by decide), b3_mk (by omega), if_neg (by decide), if_neg (by omega)]
        omega
      · show b7 (mk 6 a 0) + sm b7 (D ++ [mk o t x]) ≤ e - a
        rw [sm_app, hbs.2]
        show b7 (mk 6 a 0) + (0 + (b7 (mk o t x) + 0)) ≤ e - a
        rw [b7_mk (by decide), b7_mk (by omega), if_neg (by decide)]
        split <;> omega
    have ap : PSo ((q, st) :: S) V := by rw [d1]; exact g2.app
    by_cases e5 : kn K a = 5
    · rw [if_pos e5]
      rw [if_neg (by omega), if_neg (by omega)] at d3
      change SpW D a e at d3
      have hle : e < K.length := (so.2.2.2 rfl).2.2 e5
      have h1 := bV 11 a 0 (Or.inl (by omega)) (by omega) (d3.snoc (by decide) (by decide) (by decide) (by decide) (by decide) (by decide))
      have h2 := h1.blk (a' := e + 1) (t := e) (by omega) (by omega)
      rw [List.append_assoc] at h2
      refine ⟨h2, PSo.cons ap.app ⟨?_, ?_⟩, g3⟩
      · show V.length < (V ++ [mk 11 a 0, mk 3 e 0]).length
        rw [List.length_append]
        show V.length < V.length + 2
        omega
      · show wo (gx (V ++ [mk 11 a 0, mk 3 e 0]) V.length) = 11 ∨ _
        rw [gx_app, if_neg (by omega), Nat.sub_self]
        exact Or.inl (wo_mk (by decide))
    · rw [if_neg e5]
      by_cases e4 : kn K a = 4
      · rw [if_pos e4]
        rw [if_pos e4] at d3 d6
        change SpW D (a + 2) e at d3
        change a + 2 ≤ e at d6
        have hl1 : a + 1 < K.length := kn_lt (by rw [d4 e4]; decide)
        exact ⟨bV 7 (a + 1) (e - 1) (Or.inr ⟨Or.inl rfl, d4 e4⟩) (by omega) ((d3.sno (Or.inl rfl) (by omega) (by omega) d6).wide (by omega) (Nat.le_refl _)), ap.app, g3⟩
      · rw [if_neg e4]
        rw [if_neg e4] at d3 d6
        by_cases e7 : kn K a = 7
        · rw [if_pos e7]
          rw [if_neg (by omega)] at d3
          exact ⟨bV 10 a 0 (Or.inl (by omega)) (by omega) (d3.snoc (by decide) (by decide) (by decide) (by decide) (by decide) (by decide)), ap.app, g3⟩
        · rw [if_neg e7]
          have e0 := d5 e4 e5 e7
          by_cases e10 : kn K (a + 1) = 10
          · rw [if_pos e10]
            rw [if_neg (fun h => h.2 e10)] at d3
            exact ⟨bV 9 a 0 (Or.inl (by omega)) (by omega) (d3.snoc (by decide) (by decide) (by decide) (by decide) (by decide) (by decide)), ap.app, g3⟩
          · rw [if_neg e10]
            rw [if_pos ⟨e0, e10⟩] at d3 d6
            exact ⟨bV 8 a 0 (Or.inr ⟨Or.inr rfl, e0⟩) (by omega) (d3.sno (Or.inr rfl) (by omega) (by omega) d6), ap.app, g3⟩
theorem PV_pstep {x : PS} (hK : K.length ≤ 195) (h : PV K x) (h1 : x.1 < K.length ∨ x.2.1 ≠ []) (h2 : x.1 ≤ K.length) : PV K (pstep K x) := by
  obtain ⟨a, S, C, E, Fn, U⟩ := x
  cases S with
  | nil =>
    refine PV_pit hK h ?_
    rcases h1 with h1 | h1
    · exact h1
    · exact absurd rfl h1
  | cons y S =>
    obtain ⟨q, st⟩ := y
    exact PV_pst hK h h2
theorem PV_prun (hK : K.length ≤ 195) (hN : ∀ i, i < K.length → kn K i ≠ 24) : ∀ (d : Nat) (x : PS), PI K x → PV K x → PV K (prun K d x) := by
  intro d
  induction d with
  | zero => intro x _ h; exact h
  | succ d ih =>
    intro x hP h
    rw [prun_succ]
    split
    · next e => exact ih _ (PI_pstep hK hN hP e) (PV_pstep hK h e hP.1)
    · exact h
theorem PV_0 : PV K (0, [], [], [], [], []) := ⟨⟨fun w h => absurd h (List.not_mem_nil), SpW.nil, Nat.zero_le _, Nat.zero_le _⟩, fun y h => absurd h (List.not_mem_nil), fun u h => absurd h (List.not_mem_nil)⟩
end M9j2
section M9j3
variable {X : Nat → List Int} {f : Nat}
/-- the words of a file -/
theorem Cw_pv (hX : ∀ r, r < 24 → Rok (X r)) (hf : f < 3) : PV (ks X f) (prs (ks X f)) ∧ PI (ks X f) (prs (ks X f)) := by
  have h1 := ks_len hX hf
  have h2 : ∀ i, i < (ks X f).length → kn (ks X f) i ≠ 24 := fun i hi => ks_no hX hf hi
  exact ⟨PV_prun (by omega) h2 600 _ PI_0 PV_0, PI_prun (by omega) h2 600 _ PI_0⟩
end M9j3
