/-! A CALL HAS ITS ( BEHIND IT; FUNCTIONS HAVE ALL THAT STANDS UP TO THEIR LAST } -/
def CWd (K : List Int) (w : Int) : Prop := wo w = 15 → kn K ((wt w).toNat + 1) = 10
def CLv (K : List Int) (l : Lv) : Prop := (shp l = 0 ∨ shp l = 1 ∨ shp l = 2) ∧ (shp l = 2 → ∃ t : Nat, opn l = (t : Int) ∧ t < 200 ∧ kn K (t + 1) = 10)
def CX (K : List Int) (x : XS) : Prop := (∀ w ∈ x.2.2.2, CWd K w) ∧ (∀ l ∈ x.2.2.1, CLv K l) ∧ (x.1 = 4 → ∀ l r, x.2.2.1 = l :: r → shp l ≠ 0)
section Ml0
variable {K C V D D' : List Int} {a a' s s' : Nat} {l l' : Lv} {r L L' : List Lv}
theorem CWd_mk {o t e : Nat} (ho : o < 256) (h : o ≠ 15) : CWd K (mk o t e) := fun h2 => by rw [wo_mk ho] at h2; omega
theorem cwd_app (h : ∀ w ∈ C, CWd K w) (h2 : ∀ w ∈ V, CWd K w) : ∀ w ∈ C ++ V, CWd K w := fun w hw => (List.mem_append.mp hw).elim (h w) (h2 w)
theorem cwd_one {o t e : Nat} (h : ∀ w ∈ C, CWd K w) (ho : o < 256) (h2 : o ≠ 15) : ∀ w ∈ C ++ [mk o t e], CWd K w := cwd_app h (fun w hw => by rw [List.mem_singleton.mp hw]; exact CWd_mk ho h2)
theorem cwd_wd {o : Nat} {p : Int} (h : ∀ w ∈ C, CWd K w) (ho : o < 256) (h2 : o ≠ 15) : ∀ w ∈ C ++ wd o p, CWd K w := by
  unfold wd
  split
  · rw [List.append_nil]; exact h
  · exact cwd_one h ho h2
theorem CLv.cg (h : CLv K l) (h1 : shp l' = shp l) (h2 : opn l' = opn l) : CLv K l' := by
  unfold CLv
  rw [h1, h2]
  exact h
theorem CX.st (h : CX K (s, a, l :: r, C)) (hs : s' ≠ 4 ∨ shp l' ≠ 0) (hl : CLv K l') (hD : ∀ w ∈ D, CWd K w) : CX K (s', a', l' :: r, D) :=
  ⟨hD, fun m hm => by
    rcases List.mem_cons.mp hm with e | e
    · rw [e]; exact hl
    · exact h.2.1 m (List.mem_cons_of_mem _ e), fun e m r2 e2 => by
    change s' = 4 at e
    change l' :: r = m :: r2 at e2
    injection e2 with e3 e4
    rw [← e3]
    rcases hs with h1 | h1
    · exact absurd e h1
    · exact h1⟩
theorem CX_xop (hK : K.length ≤ 195) (h : CX K (1, a, l :: r, C)) : CX K (xop K a l r C) := by
  have hl := h.2.1 l (List.mem_cons_self)
  have hC := h.1
  unfold xop
  split
  · exact h.st (Or.inl (by decide)) (hl.cg rfl rfl) hC
  · split
    · next e =>
      have : a < K.length := kn_lt (by rw [e.1]; decide)
      refine ⟨hC, fun m hm => ?_, fun e => absurd (show (1 : Nat) = 4 from e) (by decide)⟩
      rcases List.mem_cons.mp hm with e2 | e2
      · rw [e2]
        exact ⟨Or.inr (Or.inr rfl), fun _ => ⟨a, rfl, by omega, e.2⟩⟩
      · exact h.2.1 m e2
    · split
      · refine ⟨hC, fun m hm => ?_, fun e => absurd (show (1 : Nat) = 4 from e) (by decide)⟩
        rcases List.mem_cons.mp hm with e2 | e2
        · rw [e2]
          exact ⟨Or.inr (Or.inl rfl), fun e => absurd (show (1 : Int) = 2 from e) (by decide)⟩
        · exact h.2.1 m e2
      · split
        · next e => exact h.st (Or.inr (by rw [e.2.1]; decide)) hl hC
        · split
          · exact h.st (Or.inl (by decide)) hl (cwd_one hC (by decide) (by decide))
          · exact h.st (Or.inl (by decide)) hl hC
theorem CX_xcl (h : CX K (s, a, L', D')) (hr : ∀ m ∈ r, CLv K m) (hl : CLv K l) (hC : ∀ w ∈ C, CWd K w) : CX K (xcl K a l r C) := by
  have g : ∀ (s' a' : Nat) (l' : Lv), (s' ≠ 4 ∨ shp l' ≠ 0) → shp l' = shp l → opn l' = opn l → CX K (s', a', l' :: r, C) := fun s' a' l' h1 h2 h3 =>
    ⟨hC, fun m hm => by
      rcases List.mem_cons.mp hm with e | e
      · rw [e]; exact hl.cg h2 h3
      · exact hr m e, fun e m r2 e2 => by
      change s' = 4 at e
      change l' :: r = m :: r2 at e2
      injection e2 with e3 e4
      rw [← e3]
      rcases h1 with h1 | h1
      · exact absurd e h1
      · exact h1⟩
  unfold xcl
  split
  · exact g _ _ _ (Or.inl (by decide)) rfl rfl
  · next e0 =>
    split
    · split
      · exact g _ _ _ (Or.inl (by decide)) rfl rfl
      · split
        · exact g _ _ _ (Or.inr e0) rfl rfl
        · exact g _ _ _ (Or.inl (by decide)) rfl rfl
    · split
      · exact g _ _ _ (Or.inr e0) rfl rfl
      · exact g _ _ _ (Or.inl (by decide)) rfl rfl
theorem CX_xb3 (h : CX K (2, a, l :: r, D)) (hC : ∀ w ∈ C, CWd K w) : CX K (xb3 K a l r C) := by
  have hl := h.2.1 l (List.mem_cons_self)
  have hr : ∀ m ∈ r, CLv K m := fun m hm => h.2.1 m (List.mem_cons_of_mem _ hm)
  unfold xb3
  split
  · exact h.st (Or.inl (by decide)) (hl.cg rfl rfl) hC
  · split
    · split
      · exact h.st (Or.inl (by decide)) (hl.cg rfl rfl) hC
      · exact CX_xcl h hr (hl.cg rfl rfl) hC
    · exact CX_xcl h hr (hl.cg rfl rfl) (cwd_wd hC (by decide) (by decide))
theorem CX_xbh (h : CX K (2, a, l :: r, C)) : CX K (xbh K a l r C) := by
  have hl := h.2.1 l (List.mem_cons_self)
  have hC := h.1
  have h2 : ∀ w ∈ C ++ wd 16 (nts l) ++ wd 17 (tms l), CWd K w := cwd_wd (cwd_wd hC (by decide) (by decide)) (by decide) (by decide)
  unfold xbh xb2
  split
  · exact h.st (Or.inl (by decide)) (hl.cg rfl rfl) h2
  · exact CX_xb3 h (cwd_wd h2 (by decide) (by decide))
theorem CX_xst {x : XS} (hK : K.length ≤ 195) (h : CX K x) : CX K (xst K x) := by
  obtain ⟨s, a, L, D⟩ := x
  have sh : ∀ y : XS, CX K y → CX K (xsh y) := by
    rintro ⟨s, a, L, D⟩ hy
    match s, L with
    | 4, m :: r =>
      have hm := hy.2.1 m (List.mem_cons_self)
      have h0 := hy.2.2 rfl m r rfl
      refine ⟨cwd_app hy.1 (fun w hw => ?_), fun z hz => hy.2.1 z (List.mem_cons_of_mem _ hz), fun e => absurd e (by show ¬ (if r = [] then 3 else 2) = 4; split <;> decide)⟩
      rw [List.mem_singleton.mp hw]
      by_cases e : shp m = 1
      · rw [if_pos e]
        exact CWd_mk (by decide) (by decide)
      · rw [if_neg e]
        have e2 : shp m = 2 := by
          rcases hm.1 with h | h | h
          · exact absurd h h0
          · exact absurd h e
          · exact h
        obtain ⟨t, t1, t2, t3⟩ := hm.2 e2
        intro _
        rw [t1, Int.toNat_natCast, wt_mk (by decide) (by omega), Int.toNat_natCast]
        exact t3
    | 4, [] => exact hy
    | 0, _ => exact hy
    | 1, _ => exact hy
    | 2, _ => exact hy
    | 3, _ => exact hy
    | n + 5, _ => exact hy
  match s, L with
  | 1, l :: r => exact sh _ (CX_xop hK h)
  | 2, l :: r => exact sh _ (CX_xbh h)
  | 1, [] => exact h
  | 2, [] => exact h
  | 0, _ => exact h
  | 3, _ => exact h
  | n + 4, _ => exact h
theorem CX_xrun (hK : K.length ≤ 195) : ∀ (d : Nat) (x : XS), CX K x → ∀ w ∈ (xrun K d x).2.2.2, CWd K w := by
  intro d
  induction d with
  | zero => intro x h; exact h.1
  | succ d ih =>
    intro x h
    have h1 := CX_xst hK h
    show ∀ w ∈ (if (xst K x).1 = 0 ∨ (xst K x).1 = 3 then xst K x else xrun K d (xst K x)).2.2.2, CWd K w
    split
    · exact h1.1
    · exact ih _ h1
theorem exr_cw {cl : Bool} (hK : K.length ≤ 195) (hc : cl = true → a < K.length ∧ kn K (a + 1) = 10) (hC : ∀ w ∈ C, CWd K w) : ∀ w ∈ (exr K cl a C).2.2.2, CWd K w := by
  refine CX_xrun hK _ _ ⟨hC, fun l hl => ?_, fun e => absurd (show (1 : Nat) = 4 from e) (by decide)⟩
  change l ∈ [lv0 (if cl = true then 2 else 0) (a : Int)] at hl
  rw [List.mem_singleton.mp hl]
  cases cl with
  | true => exact ⟨Or.inr (Or.inr rfl), fun _ => ⟨a, rfl, by have := (hc rfl).1; omega, (hc rfl).2⟩⟩
  | false => exact ⟨Or.inl rfl, fun e => absurd (show (0 : Int) = 2 from e) (by decide)⟩
theorem sth_cw (hK : K.length ≤ 195) (hC : ∀ w ∈ C, CWd K w) : ∀ w ∈ (sth K a C).2.2, CWd K w := by
  have fin : ∀ (x : XS) (k : Int) (n : Nat), (∀ w ∈ x.2.2.2, CWd K w) → ∀ w ∈ (fi K x k n).2.2, CWd K w := fun x k n h => by
    unfold fi
    split
    · exact h
    · exact h
  rw [sth_fi]
  split
  · exact fin _ _ _ (exr_cw (cl := false) hK (fun h => absurd h (by decide)) hC)
  · split
    · exact fin _ _ _ (exr_cw (cl := false) hK (fun h => absurd h (by decide)) hC)
    · split
      · next e => exact fin _ _ _ (exr_cw hK (fun _ => ⟨kn_lt (by rw [e.1]; decide), e.2⟩) hC)
      · generalize (if kn K a = 4 then a + 1 else a) = b
        split
        · split
          · exact fin _ _ _ (exr_cw (cl := false) hK (fun h => absurd h (by decide)) hC)
          · exact hC
        · exact hC
theorem cwd_aim {i p : Nat} (hj : jp C i) (h : ∀ w ∈ C, CWd K w) : ∀ w ∈ aim C (i : Int) p, CWd K w := fun w hw => by
  rw [aim_set hj.1] at hw
  rcases mst_mem i w hw with h1 | h1
  · exact h w h1
  · have h2 := hj.2
    have e : wo w = wo (gx C i) := by rw [h1]; unfold wo; omega
    exact fun h3 => by omega
theorem cwd_pel {q st : Int} {S : List (Int × Int)} {E : EE} {Fn : FF} {U : List Int} (h : ∀ w ∈ C, CWd K w) (hst : q = 2 → ∃ i : Nat, st = (i : Int) ∧ jp C i) : ∀ w ∈ (pel K a q st S C E Fn U).2.2.1, CWd K w := by
  unfold pel
  split
  · next e =>
    obtain ⟨i, rfl, hj⟩ := hst e.1
    split
    · exact cwd_one (cwd_aim hj.app (cwd_one h (by decide) (by decide))) (by decide) (by decide)
    · exact h
  · exact h
theorem cwd_pcb {cl1 : Bool} {q st : Int} {S : List (Int × Int)} {E : EE} {Fn : FF} {U : List Int} (hV : PSo ((q, st) :: S) C) (h : ∀ w ∈ C, CWd K w) : ∀ w ∈ (pcb K a cl1 q st S C E Fn U).2.2.1, CWd K w := by
  rw [pcb_pc2]
  have k2 : PSo ((q, st) :: S) (C ++ [mk 4 a (if cl1 = true then 1 else 0)]) := hV.app
  have h2 : ∀ w ∈ C ++ [mk 4 a (if cl1 = true then 1 else 0)], CWd K w := cwd_one h (by decide) (by decide)
  generalize C ++ [mk 4 a (if cl1 = true then 1 else 0)] = C2 at k2 h2
  unfold pc2
  split
  · exact cwd_pel (cwd_one h2 (by decide) (by decide)) (fun h => by omega)
  · split
    · exact cwd_pel h2 (fun h => by omega)
    · rcases k2 (q, st) (List.mem_cons_self) with hq | ⟨i, e, hj⟩
      · change q = 0 ∨ q = 1 at hq
        omega
      · change st = (i : Int) at e
        subst e
        exact cwd_pel (cwd_aim hj h2) (fun _ => ⟨i, rfl, hj.aim hj.1⟩)
theorem cwd_pst {q st : Int} {S : List (Int × Int)} {E : EE} {Fn : FF} {U : List Int} (hK : K.length ≤ 195) (hV : PSo ((q, st) :: S) C) (h : ∀ w ∈ C, CWd K w) : ∀ w ∈ (pst K a q st S C E Fn U).2.2.1, CWd K w := by
  rw [pst_psx]
  split
  · exact cwd_pcb hV h
  · split
    · exact cwd_pcb hV h
    · split
      · have := cwd_one (o := 3) (t := a) (e := 0) (cwd_one (o := 6) (t := a) (e := 0) h (by decide) (by decide)) (by decide) (by decide)
        rw [List.append_assoc] at this
        exact this
      · have hW := sth_cw (a := a) hK (cwd_one (o := 6) (t := a) (e := 0) h (by decide) (by decide))
        revert hW
        generalize sth K a (C ++ [mk 6 a 0]) = x
        intro hW
        unfold psx
        split
        · exact cwd_one h (by decide) (by decide)
        · split
          · have := cwd_one (o := 3) (t := x.2.1) (e := 0) (cwd_one (o := 11) (t := a) (e := 0) hW (by decide) (by decide)) (by decide) (by decide)
            rw [List.append_assoc] at this
            exact this
          · split
            · exact cwd_one hW (by decide) (by decide)
            · exact cwd_one hW (by split <;> (try split) <;> decide) (by split <;> (try split) <;> decide)
theorem cwd_pit {E : EE} {Fn : FF} {U : List Int} (h : ∀ w ∈ C, CWd K w) : ∀ w ∈ (pit K a C E Fn U).2.2.1, CWd K w := by
  unfold pit
  split
  · split
    · split
      · exact cwd_one h (by decide) (by decide)
      · exact h
    · exact h
  · split
    · split
      · have := cwd_one (o := 3) (t := (fnh K a).2.1) (e := 0) (cwd_one (o := 2) (t := a + 1) (e := (fnh K a).2.2) h (by decide) (by decide)) (by decide) (by decide)
        rw [List.append_assoc] at this
        exact this
      · exact h
    · exact h
theorem cwd_prun (hK : K.length ≤ 195) (hN : ∀ i, i < K.length → kn K i ≠ 24) : ∀ (d : Nat) (x : PS), PI K x → PV K x → (∀ w ∈ x.2.2.1, CWd K w) → ∀ w ∈ (prun K d x).2.2.1, CWd K w := by
  intro d
  induction d with
  | zero => intro x _ _ h; exact h
  | succ d ih =>
    intro x hP hV h
    rw [prun_succ]
    split
    · next e =>
      refine ih _ (PI_pstep hK hN hP e) (PV_pstep hK hV e hP.1) ?_
      obtain ⟨a, S, C, E, Fn, U⟩ := x
      cases S with
      | nil => exact cwd_pit h
      | cons y S =>
        obtain ⟨q, st⟩ := y
        exact cwd_pst hK hV.2.1 h
    · exact h
/-- behind the NAME of a call stands its ( -/
theorem Cw_call {X : Nat → List Int} {f : Nat} (hX : ∀ r, r < 24 → Rok (X r)) (hf : f < 3) : ∀ w ∈ Cw X f, CWd (ks X f) w := by
  have h1 := ks_len hX hf
  have h2 : ∀ i, i < (ks X f).length → kn (ks X f) i ≠ 24 := fun i hi => ks_no hX hf hi
  exact cwd_prun (by omega) h2 600 (0, [], [], [], [], []) PI_0 PV_0 (fun w hw => absurd hw (List.not_mem_nil))
end Ml0
