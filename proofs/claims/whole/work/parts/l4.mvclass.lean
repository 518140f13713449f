/-! ROWS ARE BROUGHT IN AND TAKEN OUT, OF THE CLASS -/
/-- rows and their origins come from some rows -/
def WS (F : MF) (X : Nat → List Int) (og s : Nat → Int) : Prop := LinC F 111 (sh s X) ∧ ∀ r, r < 24 → F 114 r = sho s og r
def opS (g a n r : Nat) : Int := if r / 8 = g then (if r % 8 < a then (r : Int) else if r % 8 < a + n then -1 else ((r - n : Nat) : Int)) else (r : Int)
def clS (g a n r : Nat) : Int := if r / 8 = g then (if r % 8 < a then (r : Int) else if r % 8 + n < 8 then ((r + n : Nat) : Int) else -1) else (r : Int)
/-- rows that are not empty would go down too far -/
def noRm (Z : Nat → List Int) (g a n : Nat) : Prop := 8 < a + n ∨ ∃ l, a ≤ l ∧ l < 8 ∧ 8 ≤ l + n ∧ Z (8 * g + l) ≠ []
section Ml4
variable {F G : MF} {X Y : Nat → List Int} {og s t t' : Nat → Int} {g a n r b k : Nat}
theorem lin_cg {Z : Nat → List Int} {q : Nat} (h : LinC F q X) (e : ∀ r, r < 24 → Z r = X r) : LinC F q Z := fun r hr => by
  rw [e r hr]
  exact h r hr
theorem WS.cg (h : WS F X og s) (e : ∀ r, r < 24 → t r = s r) : WS F X og t :=
  ⟨lin_cg h.1 (fun r hr => by unfold sh; rw [e r hr]), fun r hr => by rw [h.2 r hr]; unfold sho; rw [e r hr]⟩
theorem WS.fr {P : Nat → Prop} (h : WS F X og s) (hf : fr P F G) (hP : ∀ c, P c → c < 112 ∨ 114 < c) : WS G X og s :=
  ⟨h.1.fr hf (fun e => by have := hP _ e; omega) (fun e => by have := hP _ e; omega), fun r hr => by rw [hf 114 (fun e => by have := hP _ e; omega)]; exact h.2 r hr⟩
theorem d_i2 : 111 ∈ m_I2 := by decide
theorem sh_c {s s' : Nat → Int} {a : Nat} (h : s r = s' a) : sh s X r = sh s' X a := by
  unfold sh
  rw [h]
theorem sho_c {s s' : Nat → Int} {a : Nat} (h : s r = s' a) : sho s og r = sho s' og a := by
  unfold sho
  rw [h]
/-- a row is copied -/
theorem ws_27 (hS : St F) (h : WS F X og s) (ha : a < 24) (hb : b < 24) : C_27 111 111 (a : Int) (b : Int) F (fun F' => WS F' X og (fun r => if r = b then s a else s r) ∧ fr (fun c => 112 ≤ c ∧ c ≤ 114) F F') m_no := by
  refine CaV.on (s_27 d_i2 d_i2 hS h.1 h.1 ha hb) ?_
  rintro F' hS' ⟨k1, k2, k3⟩
  refine ⟨⟨lin_cg k1 (fun r hr => ?_), fun r hr => ?_⟩, k3.mo (fun c hc => by omega)⟩
  · by_cases e : r = b
    · rw [e, upd_eq]
      exact sh_c (if_pos rfl)
    · rw [upd_ne e]
      exact sh_c (if_neg e)
  · have : F' 114 = _ := k2
    rw [this]
    show (if r = b then F 114 a else F 114 r) = _
    by_cases e : r = b
    · rw [if_pos e, h.2 a ha, e]
      exact (sho_c (if_pos rfl)).symm
    · rw [if_neg e, h.2 r hr]
      exact (sho_c (if_neg e)).symm
theorem ws_25 (hS : St F) (h : WS F X og s) (hb : b < 24) : C_25 111 (b : Int) F (fun F' => WS F' X og (fun r => if r = b then -1 else s r) ∧ fr (fun c => 112 ≤ c ∧ c ≤ 114) F F') m_no := by
  refine CaV.on (s_25 d_i2 hS h.1 hb) ?_
  rintro F' hS' ⟨k1, k2, k3⟩
  refine ⟨⟨lin_cg k1 (fun r hr => ?_), fun r hr => ?_⟩, k3.mo (fun c hc => by omega)⟩
  · by_cases e : r = b
    · rw [e, upd_eq]
      exact sh_no (if_pos rfl)
    · rw [upd_ne e]
      exact sh_c (if_neg e)
  · have : F' 114 = _ := k2
    rw [this]
    show (if r = b then -1 else F 114 r) = _
    by_cases e : r = b
    · rw [if_pos e, e]
      exact (sho_no (if_pos rfl)).symm
    · rw [if_neg e, h.2 r hr]
      exact (sho_c (if_neg e)).symm
theorem opS_g {l : Nat} (hl : l < 8) : opS g a n (8 * g + l) = if l < a then ((8 * g + l : Nat) : Int) else if l < a + n then -1 else ((8 * g + l - n : Nat) : Int) := by
  unfold opS
  rw [(d8 hl).1, (d8 hl).2, if_pos rfl]
theorem opS_x {l q : Nat} (hl : l < 8) (h : q ≠ g) : opS g a n (8 * q + l) = ((8 * q + l : Nat) : Int) := by
  unfold opS
  rw [(d8 hl).1, if_neg h]
theorem clS_g {l : Nat} (hl : l < 8) : clS g a n (8 * g + l) = if l < a then ((8 * g + l : Nat) : Int) else if l + n < 8 then ((8 * g + l + n : Nat) : Int) else -1 := by
  unfold clS
  rw [(d8 hl).1, (d8 hl).2, if_pos rfl]
theorem clS_x {l q : Nat} (hl : l < 8) (h : q ≠ g) : clS g a n (8 * q + l) = ((8 * q + l : Nat) : Int) := by
  unfold clS
  rw [(d8 hl).1, if_neg h]
/-- empty rows come in ahead of a line -/
theorem s_31 (hS : St F) (h : WS F X og t) (hg : g < 3) (ha : a ≤ 8) (hn : 1 ≤ n) (hn8 : n ≤ 8) :
    C_31 111 (g : Int) (a : Int) (n : Int) F (fun x F' => (x = 0 ∧ noRm (sh t X) g a n ∧ F' = F) ∨ (x = 1 ∧ ¬ noRm (sh t X) g a n ∧ WS F' X og (sho (opS g a n) t) ∧ fr (fun c => 112 ≤ c ∧ c ≤ 114) F F')) m_no := by
  obtain ⟨Q, hQ⟩ : ∃ Q : Int → MF → Prop, Q = fun x F' => (x = 0 ∧ noRm (sh t X) g a n ∧ F' = F) ∨ (x = 1 ∧ ¬ noRm (sh t X) g a n ∧ WS F' X og (sho (opS g a n) t) ∧ fr (fun c => 112 ≤ c ∧ c ≤ 114) F F') := ⟨_, rfl⟩
  rw [← hQ]
  -- rows are wiped
  have l99 : ¬ noRm (sh t X) g a n → a + n ≤ 8 → ∀ (d i : Nat) (G : MF), i + d = a + n → a ≤ i → St G → fr (fun c => 112 ≤ c ∧ c ≤ 114) F G → WS G X og (fun r => if r / 8 = g ∧ a ≤ r % 8 ∧ r % 8 < i then -1 else if r / 8 = g ∧ a + n ≤ r % 8 then t (r - n) else t r) →
      L_31_99 111 (a : Int) (n : Int) (8 * (g : Int)) (i : Int) G Q m_no := by
    intro hno han d
    induction d with
    | zero =>
      intro i G hi hai hSG hfr hW
      refine b_31_99 d_i2 hSG ⟨by omega, fun h => by omega, fun _ => ?_⟩
      rw [hQ]
      refine Or.inr ⟨rfl, hno, hW.cg (fun r hr => ?_), hfr⟩
      obtain ⟨q, l, hq, hl, rfl⟩ := r8 hr
      rw [(d8 hl).1, (d8 hl).2]
      by_cases c1 : q = g
      · subst c1
        by_cases c2 : l < a
        · rw [sho_at (by rw [opS_g hl, if_pos c2]), if_neg (by omega), if_neg (by omega)]
        · by_cases c3 : l < a + n
          · rw [sho_no (by rw [opS_g hl, if_neg c2, if_pos c3]), if_pos (by omega)]
          · rw [sho_at (by rw [opS_g hl, if_neg c2, if_neg c3]), if_neg (by omega), if_pos (by omega)]
      · rw [sho_at (opS_x hl c1), if_neg (fun h => c1 h.1), if_neg (fun h => c1 h.1)]
    | succ d ih =>
      intro i G hi hai hSG hfr hW
      refine b_31_99 d_i2 hSG ⟨by omega, fun _ => ⟨by omega, ?_⟩, fun h => by omega⟩
      rw [show 8 * (g : Int) + (i : Int) = ((8 * g + i : Nat) : Int) by omega]
      refine CaV.on (ws_25 (b := 8 * g + i) hSG hW (by omega)) ?_
      rintro G2 hS2 ⟨k1, k2⟩
      refine ⟨by omega, ?_⟩
      have := ih (i + 1) G2 (by omega) (by omega) hS2 (hfr.tr k2) (k1.cg (fun r hr => by
        obtain ⟨q, l, hq, hl, rfl⟩ := r8 hr
        rw [(d8 hl).1, (d8 hl).2]
        by_cases c1 : 8 * q + l = 8 * g + i
        · rw [if_pos c1, if_pos (by omega)]
        · rw [if_neg c1]
          by_cases c2 : q = g ∧ a ≤ l ∧ l < i
          · rw [if_pos c2, if_pos (by omega)]
          · rw [if_neg c2, if_neg (by omega)]))
      rw [show ((i + 1 : Nat) : Int) = (i : Int) + 1 by omega] at this
      exact this
  -- rows go down
  have l65 : ¬ noRm (sh t X) g a n → a + n ≤ 8 → ∀ (d k : Nat) (G : MF), k = a + n + d → k ≤ 8 → St G → fr (fun c => 112 ≤ c ∧ c ≤ 114) F G → WS G X og (fun r => if r / 8 = g ∧ k ≤ r % 8 then t (r - n) else t r) → L_31_65 111 (a : Int) (n : Int) (8 * (g : Int)) ((k : Int) - 1) G Q m_no := by
    intro hno han d
    induction d with
    | zero =>
      intro k G hk hk8 hSG hfr hW
      refine b_31_65 d_i2 hSG ⟨by omega, fun _ => ?_, fun h => by omega⟩
      refine l99 hno han n a G (by omega) (Nat.le_refl _) hSG hfr (hW.cg (fun r hr => ?_))
      rw [if_neg (by omega), show a + n = k by omega]
    | succ d ih =>
      intro k G hk hk8 hSG hfr hW
      refine b_31_65 d_i2 hSG ⟨by omega, fun h => by omega, fun _ => ⟨by omega, by omega, by omega, ?_⟩⟩
      rw [show 8 * (g : Int) + ((k : Int) - 1) - (n : Int) = ((8 * g + (k - 1 - n) : Nat) : Int) by omega, show 8 * (g : Int) + ((k : Int) - 1) = ((8 * g + (k - 1) : Nat) : Int) by omega]
      refine CaV.on (ws_27 (a := 8 * g + (k - 1 - n)) (b := 8 * g + (k - 1)) hSG hW (by omega) (by omega)) ?_
      rintro G2 hS2 ⟨k1, k2⟩
      refine ⟨by omega, ?_⟩
      have := ih (k - 1) G2 (by omega) (by omega) hS2 (hfr.tr k2) (k1.cg (fun r hr => by
        obtain ⟨q, l, hq, hl, rfl⟩ := r8 hr
        have d1 := d8 (f := g) (show k - 1 - n < 8 by omega)
        rw [(d8 hl).1, (d8 hl).2, d1.1, d1.2]
        by_cases c1 : 8 * q + l = 8 * g + (k - 1)
        · rw [if_pos c1, if_pos (by omega), if_neg (by omega)]
          congr 1
          omega
        · rw [if_neg c1]
          by_cases c2 : q = g ∧ k ≤ l
          · rw [if_pos c2, if_pos (by omega)]
          · rw [if_neg c2, if_neg (by omega)]))
      rw [show ((k - 1 : Nat) : Int) - 1 = (k : Int) - 1 + -1 by omega] at this
      exact this
  -- rows are looked at
  have l34 : a + n ≤ 8 → ∀ (d i : Nat), i + d = 8 → (∀ l, a ≤ l → l < i → 8 ≤ l + n → sh t X (8 * g + l) = []) → a ≤ i → 8 ≤ i + n → L_31_34 111 (a : Int) (n : Int) (8 * (g : Int)) (i : Int) F Q m_no := by
    intro han d
    induction d with
    | zero =>
      intro i hi hz _ _
      refine b_31_34 d_i2 hS ⟨fun h => by omega, fun _ => ?_⟩
      have hno : ¬ noRm (sh t X) g a n := fun hx => by
        rcases hx with hx | ⟨l, l1, l2, l3, l4⟩
        · omega
        · exact l4 (hz l l1 (by omega) l3)
      have := l65 hno han (8 - (a + n)) 8 F (by omega) (Nat.le_refl _) hS fr.rf (h.cg (fun r hr => if_neg (by omega)))
      exact this
    | succ d ih =>
      intro i hi hz hai hin
      have q := q_21 h.1 (show 8 * g + i < 24 by omega)
      refine b_31_34 d_i2 hS ⟨fun _ => ⟨by omega, ?_⟩, fun h => by omega⟩
      rw [show 8 * (g : Int) + (i : Int) = ((8 * g + i : Nat) : Int) by omega, q]
      refine ⟨fun hp => ?_, fun hp => ⟨by omega, ?_⟩⟩
      · rw [hQ]
        exact Or.inl ⟨rfl, Or.inr ⟨i, hai, by omega, hin, fun e => by rw [e] at hp; exact absurd hp (by decide)⟩, rfl⟩
      · have := ih (i + 1) (by omega) (fun l h1 h2 h3 => by
          by_cases e : l = i
          · rw [e]; exact List.length_eq_zero_iff.mp (by omega)
          · exact hz l h1 (by omega) h3) (by omega) (by omega)
        rw [show ((i + 1 : Nat) : Int) = (i : Int) + 1 by omega] at this
        exact this
  refine c_31 d_i2 hS ⟨fun h => by omega, fun _ => ⟨fun h => by omega, fun _ => ⟨by omega, fun h8 => ?_, fun h8 => ⟨by omega, by omega, ?_⟩⟩⟩⟩
  · rw [hQ]
    exact Or.inl ⟨rfl, Or.inl (by omega), rfl⟩
  · rw [show (g : Int) * 8 = 8 * (g : Int) by omega]
    have e : g_437 F (a : Int) (8 - (n : Int)) = ((if a < 8 - n then 8 - n else a : Nat) : Int) := by
      unfold g_437
      by_cases c : a < 8 - n
      · rw [if_pos (by omega), if_pos c]; omega
      · rw [if_neg (by omega), if_neg c]
    rw [e]
    by_cases c : a < 8 - n
    · rw [if_pos c]
      exact l34 (by omega) n (8 - n) (by omega) (fun l h1 h2 h3 => by omega) (by omega) (by omega)
    · rw [if_neg c]
      exact l34 (by omega) (8 - a) a (by omega) (fun l h1 h2 h3 => by omega) (Nat.le_refl _) (by omega)
/-- rows are taken out -/
theorem s_32 (hS : St F) (h : WS F X og t) (hg : g < 3) (ha : a ≤ 8) (hn : 1 ≤ n) (hn8 : n ≤ 8) :
    C_32 111 (g : Int) (a : Int) (n : Int) F (fun F' => WS F' X og (sho (clS g a n) t) ∧ fr (fun c => 112 ≤ c ∧ c ≤ 114) F F') m_no := by
  have key : ∀ (d i : Nat) (G : MF), i + d = 8 → a ≤ i → St G → fr (fun c => 112 ≤ c ∧ c ≤ 114) F G → WS G X og (fun r => if r / 8 = g ∧ a ≤ r % 8 ∧ r % 8 < i then (if r % 8 + n < 8 then t (r + n) else -1) else t r) →
      L_32_9 111 (n : Int) (8 * (g : Int)) (i : Int) G (fun F' => WS F' X og (sho (clS g a n) t) ∧ fr (fun c => 112 ≤ c ∧ c ≤ 114) F F') m_no := by
    intro d
    induction d with
    | zero =>
      intro i G hi hai hSG hfr hW
      refine b_32_9 d_i2 hSG ⟨fun h => by omega, fun _ => ⟨hW.cg (fun r hr => ?_), hfr⟩⟩
      obtain ⟨q, l, hq, hl, rfl⟩ := r8 hr
      rw [(d8 hl).1, (d8 hl).2]
      by_cases c1 : q = g
      · subst c1
        by_cases c2 : l < a
        · rw [sho_at (by rw [clS_g hl, if_pos c2]), if_neg (by omega)]
        · rw [if_pos (by omega)]
          by_cases c3 : l + n < 8
          · rw [sho_at (by rw [clS_g hl, if_neg c2, if_pos c3]), if_pos c3]
          · rw [sho_no (by rw [clS_g hl, if_neg c2, if_neg c3]), if_neg c3]
      · rw [sho_at (clS_x hl c1), if_neg (fun h => c1 h.1)]
    | succ d ih =>
      intro i G hi hai hSG hfr hW
      have nx : ∀ (G2 : MF) (v : Int), St G2 → fr (fun c => 112 ≤ c ∧ c ≤ 114) G G2 → v = (if i + n < 8 then t (8 * g + i + n) else -1) → WS G2 X og (fun r => if r = 8 * g + i then v else if r / 8 = g ∧ a ≤ r % 8 ∧ r % 8 < i then (if r % 8 + n < 8 then t (r + n) else -1) else t r) → L_32_9 111 (n : Int) (8 * (g : Int)) ((i : Int) + 1) G2 (fun F' => WS F' X og (sho (clS g a n) t) ∧ fr (fun c => 112 ≤ c ∧ c ≤ 114) F F') m_no := by
        intro G2 v hS2 k2 hv k1
        have := ih (i + 1) G2 (by omega) (by omega) hS2 (hfr.tr k2) (k1.cg (fun r hr => by
          obtain ⟨q, l, hq, hl, rfl⟩ := r8 hr
          rw [(d8 hl).1, (d8 hl).2]
          by_cases c1 : 8 * q + l = 8 * g + i
          · have c2 : q = g ∧ l = i := by omega
            rw [if_pos (by omega), if_pos c1, hv, c2.1, c2.2]
          · rw [if_neg c1]
            by_cases c2 : q = g ∧ a ≤ l ∧ l < i
            · rw [if_pos c2, if_pos (show q = g ∧ a ≤ l ∧ l < i + 1 by omega)]
            · rw [if_neg c2, if_neg (show ¬ (q = g ∧ a ≤ l ∧ l < i + 1) by omega)]))
        rw [show ((i + 1 : Nat) : Int) = (i : Int) + 1 by omega] at this
        exact this
      refine b_32_9 d_i2 hSG ⟨fun _ => ⟨by omega, fun hin => ⟨by omega, by omega, by omega, ?_⟩, fun hin => ⟨by omega, ?_⟩⟩, fun h => by omega⟩
      · rw [show 8 * (g : Int) + (i : Int) + (n : Int) = ((8 * g + i + n : Nat) : Int) by omega, show 8 * (g : Int) + (i : Int) = ((8 * g + i : Nat) : Int) by omega]
        refine CaV.on (ws_27 (a := 8 * g + i + n) (b := 8 * g + i) hSG hW (by omega) (by omega)) ?_
        rintro G2 hS2 ⟨k1, k2⟩
        refine ⟨by omega, nx G2 _ hS2 k2 ?_ k1⟩
        rw [if_neg (by omega), if_pos (by omega)]
      · rw [show 8 * (g : Int) + (i : Int) = ((8 * g + i : Nat) : Int) by omega]
        refine CaV.on (ws_25 (b := 8 * g + i) hSG hW (by omega)) ?_
        rintro G2 hS2 ⟨k1, k2⟩
        exact ⟨by omega, nx G2 (-1) hS2 k2 (by rw [if_neg (by omega)]) k1⟩
  refine c_32 d_i2 hS ⟨by omega, ?_⟩
  rw [show (g : Int) * 8 = 8 * (g : Int) by omega]
  exact key (8 - a) a F (by omega) (Nat.le_refl _) hS fr.rf (h.cg (fun r hr => if_neg (by omega)))
end Ml4
