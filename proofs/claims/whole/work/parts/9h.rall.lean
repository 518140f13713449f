/-! READING, OF THE REFERENCE: all files -/
/-- the words, errors, functions and USE items of a file -/
def Cw (X : Nat → List Int) (f : Nat) : List Int := (prs (ks X f)).2.2.1
def Ew (X : Nat → List Int) (f : Nat) : EE := (prs (ks X f)).2.2.2.1
def Fw (X : Nat → List Int) (f : Nat) : FF := (prs (ks X f)).2.2.2.2.1
def Uw (X : Nat → List Int) (f : Nat) : List Int := (prs (ks X f)).2.2.2.2.2
def ge (E : EE) (k : Nat) : Int × Int × Int := E.getD k (0, 0, 0)
/-- what the reference holds of a file: its nodes, its errors -/
def MT (F : MF) (X : Nat → List Int) (f n N : Nat) : Prop := n ≤ N ∧ (∃ (k : Nat) (y : Int), IL F (ks X f) n k N (F 245 f) y (Cw X f) (Fw X f) (Uw X f) ∧ (y ≠ -1 → F 227 y.toNat = -1)) ∧ F 246 f = ((Ew X f).length : Int) ∧
  ∀ k, k < (Ew X f).length → F 247 (200 * f + k) = (ge (Ew X f) k).1 ∧ F 248 (200 * f + k) = (ge (Ew X f) k).2.1 ∧ F 249 (200 * f + k) = (ge (Ew X f) k).2.2
def LKr (F F' : MF) : Prop := (∀ j, ¬ (23 ≤ j ∧ j ≤ 63) → j ≠ 71 → j ≠ 73 → F' 201 j = F 201 j) ∧ fr (fun c => c = 201 ∨ (213 ≤ c ∧ c ≤ 254)) F F'
/-- all files are read -/
def RA (F : MF) (X : Nat → List Int) (nn : Nat → Nat) : Prop := TxM F X ∧ (∀ f, f < 3 → LexM F f X) ∧ nn 0 = 0 ∧ nn 3 ≤ 1152 ∧ (∀ f, f < 3 → MT F X f (nn f) (nn (f + 1))) ∧ F 201 27 = (nn 3 : Int)
section M9h
variable {F F' G : MF} {X : Nat → List Int} {f n N : Nat}
theorem LKr.rf : LKr F F := ⟨fun _ _ _ _ => rfl, fr.rf⟩
theorem LKr.tr {F1 : MF} (h : LKr F F1) (k : LKr F1 F') : LKr F F' := ⟨fun j a b c => (k.1 j a b c).trans (h.1 j a b c), h.2.tr k.2⟩
theorem RG.lk {n0 : Nat} (h : RG n0 F F') : LKr F F' := ⟨fun j a b c => h.1 j (by omega) (by omega) (by omega) (by omega) (by omega) (by omega) (by omega) (by omega) (by omega) (by omega) (by omega) (by omega) (by omega) (by omega), h.2.2.mo (fun c hc => by omega)⟩
theorem MT.cong (h : MT F X f n N) (hA : Agf F F' N) (h1 : F' 245 f = F 245 f) (h2 : F' 246 f = F 246 f) (h3 : ∀ c i, 247 ≤ c → c ≤ 249 → 200 * f ≤ i → i < 200 * f + 200 → F' c i = F c i) (hE : (Ew X f).length < 200) : MT F' X f n N := by
  obtain ⟨g0, ⟨k, y, g1, g2⟩, g3, g4⟩ := h
  have r := IL.rng _ _ _ _ _ _ _ g1
  refine ⟨g0, ⟨k, y, ?_, fun hy => ?_⟩, h2.trans g3, fun k hk => ?_⟩
  · rw [h1]
    exact IL.cong _ _ _ _ _ _ _ g1 (fun c i x y _ z _ => hA c i x y z)
  · rw [hA 227 y.toNat (by decide) (by decide) (by omega)]
    exact g2 hy
  · rw [h3 247 _ (by decide) (by decide) (by omega) (by omega), h3 248 _ (by decide) (by decide) (by omega) (by omega), h3 249 _ (by decide) (by decide) (by omega) (by omega)]
    exact g4 k hk
theorem Ew_len (hX : ∀ r, r < 24 → Rok (X r)) (hf : f < 3) : (Ew X f).length ≤ 192 := by
  have h1 := ks_len hX hf
  have := PI_prun (K := ks X f) (by omega) (fun i hi => ks_no hX hf hi) 600 _ PI_0
  have h2 := this.2.2.1
  have h3 := this.1
  show (prun (ks X f) 600 (0, [], [], [], [], [])).2.2.2.1.length ≤ 192
  omega
theorem kn_gx {K : List Int} {i : Nat} (h : i < K.length) : kn K i = gx K i := by
  unfold kn gx
  rw [List.getD_eq_getElem?_getD, List.getD_eq_getElem?_getD, List.getElem?_eq_getElem h]
  rfl
theorem l_248e (hf : f < 3) (hE : (Ew X f).length ≤ 192) {R : MF → Prop} (G0 : MF) (hA : AL (G0 230) ((Ew X f).map (fun e => e.1)) ∧ AL (G0 231) ((Ew X f).map (fun e => e.2.1)) ∧ AL (G0 232) ((Ew X f).map (fun e => e.2.2))) (h37 : G0 201 37 = ((Ew X f).length : Int)) : ∀ (d k : Nat) (G : MF), k + d = (Ew X f).length → St G → (∀ c, ¬ (247 ≤ c ∧ c ≤ 249) → G c = G0 c) → (∀ c i, 247 ≤ c → c ≤ 249 → ¬ (200 * f ≤ i ∧ i < 200 * f + 200) → G c i = G0 c i) →
    (∀ j, j < k → G 247 (200 * f + j) = (ge (Ew X f) j).1 ∧ G 248 (200 * f + j) = (ge (Ew X f) j).2.1 ∧ G 249 (200 * f + j) = (ge (Ew X f) j).2.2) →
    (∀ G', St G' → (∀ c, ¬ (247 ≤ c ∧ c ≤ 249) → G' c = G0 c) → (∀ c i, 247 ≤ c → c ≤ 249 → ¬ (200 * f ≤ i ∧ i < 200 * f + 200) → G' c i = G0 c i) → (∀ j, j < (Ew X f).length → G' 247 (200 * f + j) = (ge (Ew X f) j).1 ∧ G' 248 (200 * f + j) = (ge (Ew X f) j).2.1 ∧ G' 249 (200 * f + j) = (ge (Ew X f) j).2.2) → L_248_11 ((f : Int) + 1) G' R m_no) →
    L_248_63 (f : Int) (k : Int) G R m_no := by
  intro d
  induction d with
  | zero =>
    intro k G hk hS z w hj hR
    refine b_248_63 hS ⟨fun h => ?_, fun _ => ⟨by omega, hR G hS z w (fun j h => hj j (by omega))⟩⟩
    rw [z 201 (by omega), h37] at h
    omega
  | succ d ih =>
    intro k G hk hS z w hj hR
    have hm : ∀ g : Int × Int × Int → Int, gx ((Ew X f).map g) k = g (ge (Ew X f) k) := by
      intro g
      unfold gx ge
      rw [List.getD_eq_getElem?_getD, List.getD_eq_getElem?_getD, List.getElem?_map, List.getElem?_eq_getElem (by omega)]
      rfl
    refine b_248_63 hS ⟨fun _ => ⟨by omega, by omega, by omega, by omega, by omega, by omega, by omega, by omega, by omega, by omega, by omega, by omega, by omega, ?_⟩, fun h => absurd (by rw [z 201 (by omega), h37]; omega) h⟩
    rw [show (200 * (f : Int)) + (k : Int) = ((200 * f + k : Nat) : Int) by omega, Int.toNat_natCast, Int.toNat_natCast, show (k : Int) + 1 = ((k + 1 : Nat) : Int) by omega, z 230 (by omega), z 231 (by omega), z 232 (by omega), hA.1 k (by rw [List.length_map]; omega), hA.2.1 k (by rw [List.length_map]; omega), hA.2.2 k (by rw [List.length_map]; omega), hm, hm, hm]
    refine ih (k + 1) _ (by omega) (((hS.arr kd_247 (by decide)).arr kd_248 (by decide)).arr kd_249 (by decide)) (fun c hc => by rw [up_row (by omega), up_row (by omega), up_row (by omega), z c hc]) (fun c i a b x => by rw [u_ne (by omega), u_ne (by omega), u_ne (by omega), w c i a b x]) (fun j hjk => ?_) hR
    by_cases e : j = k
    · subst e
      exact ⟨by rw [u_ne (Or.inl (by decide)), u_ne (Or.inl (by decide)), u_eq], by rw [u_ne (Or.inl (by decide)), u_eq], u_eq⟩
    · rw [u_ne (by omega), u_ne (by omega), u_ne (by omega), u_ne (by omega), u_ne (by omega), u_ne (by omega), u_ne (by omega), u_ne (by omega), u_ne (by omega)]
      exact hj j (by omega)
theorem l_248 (hX : ∀ r, r < 24 → Rok (X r)) : ∀ (d f : Nat) (nn : Nat → Nat) (G : MF), f + d = 3 → St G → LKr F G → TxM G X → (∀ g, g < 3 → LexM G g X) → nn 0 = 0 → nn f ≤ 384 * f → (∀ g, g < f → nn g ≤ nn (g + 1)) → (∀ g, g < f → MT G X g (nn g) (nn (g + 1))) → G 201 27 = (nn f : Int) →
    L_248_11 (f : Int) G (fun F' => LKr F F' ∧ ∃ nn, RA F' X nn) m_no := by
  intro d
  induction d with
  | zero =>
    intro f nn G hf hS hz ht hl h0 hn hm hM h27
    obtain rfl : f = 3 := by omega
    refine b_248_11 hS ⟨fun h => by omega, fun _ => ?_⟩
    have z : ∀ c, c ≠ 250 → m_up G 250 (3 : Int).toNat (G 201 27) c = G c := fun c hc => up_row hc
    refine ⟨hz.tr ⟨fun j _ _ _ => by rw [z 201 (by decide)], fun c hc => z c (fun e => hc (by omega))⟩, nn, ?_, fun g hg => ?_, h0, by omega, fun g hg => ?_, ?_⟩
    · exact ht.cong (fun k hk => by rw [z 202 (by decide)]) (fun k hk => by rw [z 203 (by decide)])
    · have := hl g hg
      unfold LexM TokM at this ⊢
      rw [z 213 (by decide), z 214 (by decide), z 215 (by decide), z 216 (by decide), z 217 (by decide), z 218 (by decide), z 219 (by decide)]
      exact this
    · exact (hM g hg).cong (fun c i x y _ => by rw [z c (by omega)]) (by rw [z 245 (by decide)]) (by rw [z 246 (by decide)]) (fun c i x y _ _ => by rw [z c (by omega)]) (by have := Ew_len hX hg; omega)
    · rw [z 201 (by decide)]; exact h27
  | succ d ih =>
    intro f nn G hf hS hz ht hl h0 hn hm hM h27
    have hf3 : f < 3 := by omega
    have hlen := ks_len hX hf3
    have hE := Ew_len hX hf3
    refine b_248_11 hS ⟨fun _ => ⟨by omega, by omega, ?_⟩, fun h => absurd (by omega) h⟩
    rw [Int.toNat_natCast, (hl f hf3).1.1]
    have hS1 : St (m_up G 250 f (G 201 27)) := hS.arr kd_250 (by decide)
    rw [show ((toks X f).length : Int) = ((ks X f).length : Int) by rw [ks_len']]
    refine CaV.on (s_247 hS1 hf3 hlen) ?_
    rintro F5 hS5 ⟨t1, t2, t3, t4, t5⟩
    have hQ : SQ F5 (ks X f) := fun i hi => by
      by_cases h : i < (ks X f).length
      · rw [t4 i h, up_row (by decide), kn_gx h, ks_at (by rw [← ks_len']; exact h)]
        exact ((hl f hf3).1.2 i (by rw [← ks_len']; exact h)).1
      · rw [t5 i (by omega) hi, kn_end (by omega)]
    have h27' : F5 201 27 = (nn f : Int) := by rw [t2 27 (by decide), u_ne (Or.inl (by decide)), h27]
    refine CaV.on (s_246 hS5 hQ (by omega) (fun i hi => ks_no hX hf3 hi) (by omega) h27') ?_
    rintro F9 hS9 ⟨rg, N', n1, n2, ⟨r1, r2, -⟩⟩
    obtain ⟨e26, e27, e41, eE, eI, -⟩ := r1
    obtain ⟨k, x, y, i1, i2, i3, i4⟩ := eI r2
    rw [i2]
    have z5 : ∀ c, c ≠ 220 → c ≠ 201 → c ≠ 250 → F5 c = G c := fun c a b d => by rw [t1 c a b, up_row d]
    have w5 : ∀ j, j ≠ 25 → F5 201 j = G 201 j := fun j hj => by rw [t2 j hj, u_ne (Or.inl (by decide))]
    have z9 : ∀ c, c ≠ 201 → ¬ (220 ≤ c ∧ c ≤ 244) → c ≠ 250 → F9 c = G c := fun c a b d => (rg.2.2 c (by omega)).trans (z5 c (by omega) a d)
    refine ⟨by omega, by omega, ?_⟩
    obtain ⟨G0, hG0⟩ : ∃ G0, G0 = m_up (m_up F9 245 f x) 246 f (F9 201 37) := ⟨_, rfl⟩
    rw [← hG0]
    have hS0 : St G0 := by rw [hG0]; exact (hS9.arr kd_245 (by decide)).arr kd_246 (by decide)
    have z0 : ∀ c i, ¬ ((c = 245 ∨ c = 246) ∧ i = f) → G0 c i = F9 c i := fun c i h => by rw [hG0, u_ne (by omega), u_ne (by omega)]
    have y0 : ∀ c, c ≠ 245 → c ≠ 246 → G0 c = F9 c := fun c a b => funext fun i => z0 c i (by omega)
    refine l_248e hf3 hE G0 ⟨?_, ?_, ?_⟩ ?_ (Ew X f).length 0 G0 (by omega) hS0 (fun _ _ => rfl) (fun _ _ _ _ _ => rfl) (fun j h => absurd h (Nat.not_lt_zero j)) ?_
    · rw [y0 230 (by decide) (by decide)]; exact eE.2.1
    · rw [y0 231 (by decide) (by decide)]; exact eE.2.2.1
    · rw [y0 232 (by decide) (by decide)]; exact eE.2.2.2
    · rw [y0 201 (by decide) (by decide)]; exact eE.1
    intro G' hS' z w hj
    have zG : ∀ c, c ≠ 201 → ¬ (220 ≤ c ∧ c ≤ 250) → G' c = G c := fun c a b => (z c (by omega)).trans ((y0 c (by omega) (by omega)).trans (z9 c a (by omega) (by omega)))
    have nG : ∀ c, 221 ≤ c → c ≤ 229 → G' c = F9 c := fun c a b => (z c (by omega)).trans (y0 c (by omega) (by omega))
    have ag : Agf G G' (nn f) := fun c i a b d => by rw [nG c a b, rg.2.1 c i a b d, z5 c (by omega) (by omega) (by omega)]
    obtain ⟨mm, hmm⟩ : ∃ mm : Nat → Nat, mm = fun g => if g = f + 1 then N' else nn g := ⟨_, rfl⟩
    have m1 : mm (f + 1) = N' := by rw [hmm]; exact if_pos rfl
    have m2 : ∀ g, g ≤ f → mm g = nn g := fun g hg => by rw [hmm]; exact if_neg (by omega)
    have lem : ∀ g, g < f → nn (g + 1) ≤ nn f := by
      intro g hg
      have : ∀ e, g + 1 + e ≤ f → nn (g + 1) ≤ nn (g + 1 + e) := by
        intro e
        induction e with
        | zero => intro _; exact Nat.le_refl _
        | succ e ihe => intro h; exact Nat.le_trans (ihe (by omega)) (hm (g + 1 + e) (by omega))
      have := this (f - (g + 1)) (by omega)
      rwa [show g + 1 + (f - (g + 1)) = f by omega] at this
    rw [show (f : Int) + 1 = ((f + 1 : Nat) : Int) by omega]
    refine ih (f + 1) mm G' (by omega) hS' ?_ ?_ (fun g hg => ?_) (by rw [m2 0 (by omega)]; exact h0) (by rw [m1]; omega) (fun g hg => ?_) (fun g hg => ?_) ?_
    · refine hz.tr ⟨fun j a b c => ?_, fun c hc => zG c (by omega) (by omega)⟩
      rw [z 201 (by decide), y0 201 (by decide) (by decide), rg.1 j (by omega) (by omega) (by omega) (by omega) (by omega) (by omega) (by omega) (by omega) (by omega) (by omega) (by omega) (by omega) (by omega) (by omega)]
      exact w5 j (by omega)
    · exact ht.cong (fun k hk => by rw [zG 202 (by decide) (by decide)]) (fun k hk => by rw [zG 203 (by decide) (by decide)])
    · have := hl g hg
      unfold LexM TokM at this ⊢
      rw [zG 213 (by decide) (by decide), zG 214 (by decide) (by decide), zG 215 (by decide) (by decide), zG 216 (by decide) (by decide), zG 217 (by decide) (by decide), zG 218 (by decide) (by decide), zG 219 (by decide) (by decide)]
      exact this
    · by_cases e : g = f
      · subst e; rw [m1, m2 g (by omega)]; omega
      · rw [m2 g (by omega), m2 (g + 1) (by omega)]; exact hm g (by omega)
    · by_cases e : g = f
      · subst e
        rw [m1, m2 g (by omega)]
        refine ⟨n1, ⟨k, y, ?_, fun hy => by rw [nG 227 (by decide) (by decide)]; exact i4 hy⟩, ?_, hj⟩
        · have e245 : G' 245 g = x := by rw [z 245 (by decide), hG0, u_ne (Or.inl (by decide)), u_eq]
          rw [e245]
          exact IL.cong _ _ _ _ _ _ _ i1 (fun c i a b _ _ _ => by rw [nG c a b])
        · rw [z 246 (by decide), hG0, u_eq]; exact eE.1
      · have hg' : g < f := by omega
        rw [m2 g (by omega), m2 (g + 1) (by omega)]
        have hlm := lem g hg'
        refine (hM g hg').cong (ag.le (by omega)) ?_ ?_ (fun c i a b x y => ?_) (by have := Ew_len hX (f := g) (by omega); omega)
        · rw [z 245 (by decide), z0 245 g (by omega), z9 245 (by decide) (by decide) (by decide)]
        · rw [z 246 (by decide), z0 246 g (by omega), z9 246 (by decide) (by decide) (by decide)]
        · rw [w c i a b (by omega), y0 c (by omega) (by omega), z9 c (by omega) (by omega) (by omega)]
    · rw [m1, z 201 (by decide), y0 201 (by decide) (by decide)]; exact e27
theorem s_248 (hS : St F) (hX : TxM F X) : C_248 F (fun F' => LKr F F' ∧ ∃ nn, RA F' X nn) m_no := by
  have hok : ∀ r, r < 24 → Rok (X r) := fun r hr => (hX r hr).2.1
  refine c_248 hS ?_
  refine CaV.on (s_218 hS hX) ?_
  rintro F1 hS1 ⟨t1, t2, t3⟩
  have z : ∀ c, c ≠ 201 → m_up F1 201 27 0 c = F1 c := fun c hc => up_row hc
  refine l_248 hok 3 0 (fun _ => 0) _ rfl (hS1.fld kd_201 rk_12_27) ?_ ?_ (fun g hg => ?_) rfl (Nat.zero_le _) (fun g h => absurd h (Nat.not_lt_zero g)) (fun g h => absurd h (Nat.not_lt_zero g)) u_eq
  · exact ⟨fun j a b c => by rw [u_ne (Or.inr (by omega))]; exact t3.1 j (by omega), fun c hc => (z c (by omega)).trans (t3.2 c (by omega))⟩
  · exact t2.cong (fun k hk => by rw [z 202 (by decide)]) (fun k hk => by rw [z 203 (by decide)])
  · have := t1 g hg
    unfold LexM TokM at this ⊢
    rw [z 213 (by decide), z 214 (by decide), z 215 (by decide), z 216 (by decide), z 217 (by decide), z 218 (by decide), z 219 (by decide)]
    exact this
end M9h
