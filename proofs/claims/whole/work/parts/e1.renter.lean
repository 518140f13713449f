/-! RUNNING, OF THE REFERENCE: a function begins -/
theorem fix_get : ∀ (L : FF) (t : Int) (i : Nat), fix' L t i ≠ -1 → ∃ e ∈ L, e.1 = t ∧ ∀ g : Int × Int × Int × Int → Int, gx (L.map g) (fix' L t i - (i : Int)).toNat = g e
  | [], t, i, h => absurd rfl h
  | a :: L, t, i, h => by
    change (if a.1 = t then (i : Int) else fix' L t (i + 1)) ≠ -1 at h
    show ∃ e ∈ a :: L, e.1 = t ∧ ∀ g : Int × Int × Int × Int → Int, gx (g a :: L.map g) ((if a.1 = t then (i : Int) else fix' L t (i + 1)) - (i : Int)).toNat = g e
    by_cases e : a.1 = t
    · rw [if_pos e, show ((i : Int) - (i : Int)).toNat = 0 by omega]
      exact ⟨a, List.mem_cons_self, e, fun g => rfl⟩
    · rw [if_neg e] at h ⊢
      obtain ⟨e', h1, h2, h3⟩ := fix_get L t (i + 1) h
      have hr := (fix_rng L t (i + 1)).resolve_left h
      refine ⟨e', List.mem_cons_of_mem _ h1, h2, fun g => ?_⟩
      rw [← h3 g, gx_cons, if_neg (by omega)]
      congr 1
      omega
section Me1
variable {F F0 G H : MF} {X : Nat → List Int} {f p k v t : Nat} {g : Nat → Int} {r fs : List RuF} {vs vs' T T' : List Int} {s : Nat} {res a x : Int} {S : RuS} {nn : Nat → Nat}
/-- where a function's item stands -/
theorem it_pos {top : Nat} {it : IT} : ∀ (I : List IT) (x z : Int) (c lo : Nat), ItC F (ks X f) top x c lo I z → Wat X f c (wrdO I) → it ∈ I → it.2.1 = 2 → ∃ cp lo' hi', ItP F (ks X f) cp lo' hi' it ∧ Wat X f cp it.2.2.2.2.2 ∧ ((it.2.2.1 : Int), (it.2.2.2.1 : Int), (cp : Int), F 228 it.2.2.2.2.1) ∈ fnsO F c I
  | [], _, _, _, _, _, _, h, _ => absurd h (List.not_mem_nil)
  | a :: I, x, z, c, lo, ⟨_, hi, hP, h3⟩, hW, h, h2 => by
    obtain ⟨hWa, hWb⟩ := Wat.app (V := a.2.2.2.2.2) (W := wrdO I) hW
    rcases List.mem_cons.mp h with e | e
    · subst e
      exact ⟨c, lo, hi, hP, hWa, List.mem_append_left _ (by rw [if_pos h2]; exact List.mem_singleton.mpr rfl)⟩
    · obtain ⟨cp, l1, h1, k1, k2, k3⟩ := it_pos I _ _ _ _ h3 hWb e h2
      exact ⟨cp, l1, h1, k1, k2, List.mem_append_right _ k3⟩
theorem fst_it {e : Int × Int × Int × Int} {c : Nat} (hX : ∀ r, r < 24 → Rok (X r)) (hf : f < 3) (he : e ∈ Fw X f) (h1 : e.1 = (t : Int)) (h3 : e.2.2.1 = (c : Int)) (ht : t < 200) : fstp X (200 * f + t) = c := by
  have hx : fix' (Fw X f) (t : Int) 0 ≠ -1 := fix_mem _ _ _ ⟨e, he, h1⟩
  obtain ⟨e', k1, k2, k3⟩ := fix_get _ _ _ hx
  obtain ⟨p, m, i, a1, a2, a3, a4, a5, a6, -⟩ := Fw_tok hX hf he
  obtain ⟨p', m', i', b1, b2, b3, b4, b5, b6, -⟩ := Fw_tok hX hf k1
  have hp : p = t := by omega
  have hp' : p' = t := by omega
  subst hp hp'
  have bs : ∀ (i m : Nat), gx (Cw X f) i = mk 2 p' m → bset X f (gx (Cw X f) i) (p' : Int) := fun i m h => by
    rw [h]
    have w1 := wo_mk (o := 2) (t := p') (e := m) (by decide)
    have w2 := wt_mk (o := 2) (t := p') (e := m) (by decide) a1
    have w3 := we_mk (o := 2) (t := p') (e := m) (by decide) a1
    exact ⟨Or.inl ⟨by rw [w1]; rfl, by rw [w2]; omega, by rw [w2, w3]; omega, by rw [w2]; omega⟩, fun h => by rw [w1] at h; omega⟩
  have hi := Cw_uniq hX hf a5 b5 (bs i m a6) (bs i' m' b6)
  unfold fstp
  rw [show (200 * f + p') / 200 = f by omega, show (200 * f + p') % 200 = p' by omega]
  have e0 : fix' (Fw X f) (p' : Int) 0 - ((0 : Nat) : Int) = fix' (Fw X f) (p' : Int) 0 := by omega
  have := k3 (fun e => e.2.2.1)
  rw [e0] at this
  rw [this]
  omega
/-- a function begins: v its id, the last k values are its parameters' -/
theorem s_287 (hK : LKd F0 X nn) (hS : St F) (hfr : frR F0 F) (hR : RunM F (fs, vs, s, res) T) (hv : v < 600) (hx : fix' (Fw X (v / 200)) ((v % 200 : Nat) : Int) 0 ≠ -1) (hk : k ≤ vs.length) (hl : vs.length ≤ 800) (hfs : fs.length < 4) (hT : T.length + 2 < 4000) :
    C_287 (v : Int) (k : Int) F (fun F' => ∃ (it : IT) (cp lo hi : Nat), ItP F0 (ks X (v / 200)) cp lo hi it ∧ it.2.1 = 2 ∧ Wat X (v / 200) cp it.2.2.2.2.2 ∧ fstp X v = cp ∧ RunM F' (ren X v k fs vs s res) (T ++ [tcd 9 it.1] ++ tsk 0 (F0 224 it.2.2.2.2.1)) ∧ frR F F') m_no := by
  have hX := hK.1.hX
  have hf : v / 200 < 3 := by omega
  obtain ⟨I, ⟨i1, i2, i3, i4⟩, -⟩ := hK.2.2 (v / 200) hf
  have nd : ∀ G, frR F G → ∀ c, 221 ≤ c → c ≤ 229 → G c = F0 c := fun G h c x y => by rw [h.nd c (by omega) (by omega), hfr.nd c (by omega) (by omega)]
  have hIF : ITs F X (v / 200) (nn (v / 200)) (nn (v / 200 + 1)) I := ITs.cong (nd F frR.rf) (by rw [hfr.nd 245 (by decide) (by decide)]) ⟨i1, i2, i3, i4⟩
  have s270 := s_270 (F := F) (t := v % 200) (f := v / 200) hS hf (by omega) hIF hx
  rw [show ((200 * (v / 200) + v % 200 : Nat) : Int) = (v : Int) by omega, show 200 * (v / 200) + v % 200 = v by omega] at s270
  refine c_287 hS (CaI.on s270 ?_)
  rintro r4 F1 hS1 ⟨it, m1, m2, m3, rfl, rfl, m6⟩
  obtain ⟨cp, lo, hi, p1, p2, p3⟩ := it_pos I _ _ _ _ i1 ⟨by rw [i4]; omega, fun j hj => by rw [i4, Nat.zero_add]⟩ m1 m2
  rw [i2] at p3
  have hst := fst_it (t := v % 200) hX hf p3 (by show (it.2.2.1 : Int) = _; omega) rfl (by omega)
  rw [show 200 * (v / 200) + v % 200 = v by omega] at hst
  have hPM : PM F0 it.1 it.2.2.1 it.2.2.2.1 ∧ F0 225 it.1 = (it.2.2.2.2.1 : Int) ∧ it.2.2.2.2.1 < 1600 ∧ it.1 + it.2.2.2.1 < 1600 ∧ ir1 (F0 224 it.2.2.2.2.1) := by
    obtain ⟨q0, q1, q2, q3, q4⟩ := p1
    rcases q1 with ⟨q1, -⟩ | ⟨-, e1, e2, e3, e4, e5, e6, W1, e7, e8⟩
    · omega
    · have gg := e7.rng Sme.rng
      exact ⟨e3, e4, by omega, by omega, Bk_one Sme.rng e7 (by omega)⟩
  obtain ⟨pm1, pm2, pm3, pm4, pm5⟩ := hPM
  have hpar : ∀ i, i < it.2.2.2.1 → it.2.2.1 + 2 + 2 * i < 200 := fun i hi => by
    have := (it_fn (F := F0) hX hf I 0 (fun e he => by rw [i2] at he; exact he) it m1 m2).2 (i + 1) (by omega)
    have h2 := kn_tok (by rw [this]; decide)
    have := toks_len hX hf
    omega
  have hR' := hR
  obtain ⟨⟨k1, k2⟩, ⟨k3, k3a⟩, k4, ⟨k5, k5a⟩, k6⟩ := hR'
  change F1 201 84 = (vs.length : Int) at k3
  change AL (F1 259) vs.reverse at k3a
  change F1 201 87 = (fs.length : Int) at k4
  change F1 201 88 = (s : Int) at k5
  change frM F1 fs at k6
  have l1 : vs.reverse.length = vs.length := List.length_reverse
  rw [k3, k4]
  obtain ⟨F2, e2⟩ : ∃ F2, F2 = m_up (m_up (m_up F1 201 84 ((vs.length : Int) - (k : Int))) 201 87 ((fs.length : Int) + 1)) 261 ((fs.length : Int) + 1 - 1).toNat ((v : Int) / 200) := ⟨_, rfl⟩
  rw [← e2]
  have hS2 : St F2 := by rw [e2]; exact ((hS1.fld kd_201 rk_12_84).fld kd_201 rk_12_87).arr kd_261 (by omega)
  have z2 : ∀ c, c ≠ 201 → c ≠ 261 → F2 c = F1 c := fun c x y => by rw [e2, up_row y, up_row x, up_row x]
  have f84 : F2 201 84 = ((vs.length - k : Nat) : Int) := by rw [e2, u_ne (Or.inl (by decide)), u_ne (Or.inr (by decide)), u_eq]; omega
  have f87 : F2 201 87 = ((fs.length + 1 : Nat) : Int) := by rw [e2, u_ne (Or.inl (by decide)), u_eq]; omega
  have f261 : F2 261 fs.length = ((v / 200 : Nat) : Int) := by rw [e2, show ((fs.length : Int) + 1 - 1).toNat = fs.length by omega, u_eq]; omega
  have fo : ∀ j, j ≠ 84 → j ≠ 87 → F2 201 j = F1 201 j := fun j x y => by rw [e2, u_ne (Or.inl (by decide)), u_ne (Or.inr y), u_ne (Or.inr x)]
  have fx : ∀ i, i ≠ fs.length → F2 261 i = F1 261 i := fun i h => by rw [e2, u_ne (Or.inr (by omega)), up_row (by decide), up_row (by decide)]
  have g281 : ∀ (G : MF) (y : Int), G 201 87 = ((fs.length + 1 : Nat) : Int) → g_281 G y = 600 * (fs.length : Int) + y := fun G y h => by unfold g_281; rw [h]; omega
  have o281 : ∀ (G : MF) (y : Int), G 201 87 = ((fs.length + 1 : Nat) : Int) → 0 ≤ y ∧ y < 600 → o_281 G y := fun G y h hy => by unfold o_281; rw [h]; exact ⟨by omega, by omega, by omega, trivial⟩
  refine ⟨by omega, by omega, by omega, by omega, by omega, ?_⟩
  -- the cells are cleared
  have zer : ∀ (d i : Nat) (G : MF) (R : MF → Prop), i + d = 600 → St G → (∀ c, c ≠ 260 → G c = F2 c) → (∀ q, G 260 q = if 600 * fs.length ≤ q ∧ q < 600 * fs.length + i then 0 else F1 260 q) →
      (∀ G', St G' → (∀ c, c ≠ 260 → G' c = F2 c) → (∀ q, G' 260 q = if 600 * fs.length ≤ q ∧ q < 600 * fs.length + 600 then 0 else F1 260 q) → L_287_82 (k : Int) (it.1 : Int) 0 (F0 224 it.1) G' R m_no) → L_287_45 (k : Int) (it.1 : Int) (i : Int) G R m_no := by
    intro d
    induction d with
    | zero =>
      intro i G R hi hSG hz hq K
      obtain rfl : i = 600 := by omega
      refine b_287_45 hSG ⟨fun h => by omega, fun _ => ⟨by omega, ?_⟩⟩
      rw [Int.toNat_natCast, hz 224 (by decide), z2 224 (by decide) (by decide), nd F1 frR.rf 224 (by decide) (by decide)]
      exact K G hSG hz hq
    | succ d ih =>
      intro i G R hi hSG hz hq K
      have h87 : G 201 87 = ((fs.length + 1 : Nat) : Int) := by rw [hz 201 (by decide)]; exact f87
      refine b_287_45 hSG ⟨fun _ => ⟨o281 G _ h87 (by omega), ?_⟩, fun h => by omega⟩
      rw [g281 G _ h87, show (i : Int) + 1 = ((i + 1 : Nat) : Int) by omega, show (600 * (fs.length : Int) + (i : Int)).toNat = 600 * fs.length + i by omega]
      refine ⟨by omega, by omega, ih (i + 1) _ R (by omega) (hSG.arr kd_260 (by omega)) (fun c hc => by rw [up_row hc]; exact hz c hc) (fun q => ?_) K⟩
      by_cases e : q = 600 * fs.length + i
      · rw [e, u_eq, if_pos (by omega)]
      · rw [u_ne (Or.inr e), hq q]
        by_cases e2 : 600 * fs.length ≤ q ∧ q < 600 * fs.length + i
        · rw [if_pos e2, if_pos (by omega)]
        · rw [if_neg e2, if_neg (by omega)]
  refine zer 600 0 F2 _ (by omega) hS2 (fun _ _ => rfl) (fun q => by rw [z2 260 (by decide) (by decide), if_neg (by omega)]) ?_
  intro G0 hSG0 z0 q0
  have args : ∀ i, i < k → F1 259 (vs.length - k + i) = gx (vs.take k).reverse i := fun i hi => by
    rw [k3a _ (by omega)]
    have e1 : vs.reverse = (vs.drop k).reverse ++ (vs.take k).reverse := by rw [← List.reverse_append, List.take_append_drop]
    have l2 : (vs.drop k).reverse.length = vs.length - k := by rw [List.length_reverse, List.length_drop]
    rw [e1, gx_app, if_neg (by omega), l2, show vs.length - k + i - (vs.length - k) = i by omega]
  -- the parameters
  have par : ∀ (d i : Nat) (G : MF) (R : MF → Prop), i + d = it.2.2.2.1 → St G → (∀ c, c ≠ 260 → G c = F2 c) → (∀ t, t < 200 → G 260 (600 * fs.length + 200 * (v / 200) + t) = argS (v % 200) (min i k) (vs.take k).reverse t) → (∀ q, q < 600 * fs.length → G 260 q = F1 260 q) →
      (∀ G', St G' → (∀ c, c ≠ 260 → G' c = F2 c) → (∀ t, t < 200 → G' 260 (600 * fs.length + 200 * (v / 200) + t) = argS (v % 200) (min it.2.2.2.1 k) (vs.take k).reverse t) → (∀ q, q < 600 * fs.length → G' 260 q = F1 260 q) → L_287_82 (k : Int) (it.1 : Int) (it.2.2.2.1 : Int) (-1) G' R m_no) →
      L_287_82 (k : Int) (it.1 : Int) (i : Int) (if i < it.2.2.2.1 then ((it.1 + 1 + i : Nat) : Int) else -1) G R m_no := by
    intro d
    induction d with
    | zero =>
      intro i G R hi hSG hz hs ho K
      obtain rfl : i = it.2.2.2.1 := by omega
      rw [if_neg (by omega)]
      exact K G hSG hz hs ho
    | succ d ih =>
      intro i G R hi hSG hz hs ho K
      have h87 : G 201 87 = ((fs.length + 1 : Nat) : Int) := by rw [hz 201 (by decide)]; exact f87
      have h84 : G 201 84 = ((vs.length - k : Nat) : Int) := by rw [hz 201 (by decide)]; exact f84
      have n222 : G 222 = F0 222 := by rw [hz 222 (by decide), z2 222 (by decide) (by decide)]; exact nd F1 frR.rf 222 (by decide) (by decide)
      have n227 : G 227 = F0 227 := by rw [hz 227 (by decide), z2 227 (by decide) (by decide)]; exact nd F1 frR.rf 227 (by decide) (by decide)
      have pmi := pm1.2 i (by omega)
      have hp2 := hpar i (by omega)
      rw [if_pos (by omega)]
      have e261 : G 261 ((((fs.length + 1 : Nat) : Int) - 1).toNat) = ((v / 200 : Nat) : Int) := by rw [hz 261 (by decide), show (((fs.length + 1 : Nat) : Int) - 1).toNat = fs.length by omega]; exact f261
      have g282 : g_282 G ((it.1 + 1 + i : Nat) : Int) = ((200 * (v / 200) + (v % 200 + 2 + 2 * i) : Nat) : Int) := by
        unfold g_282
        rw [h87, e261, Int.toNat_natCast, n222, pmi.2.1]
        omega
      have o282 : o_282 G ((it.1 + 1 + i : Nat) : Int) := by
        unfold o_282
        rw [h87, e261, Int.toNat_natCast, n222, pmi.2.1]
        exact ⟨by omega, by omega, by omega, by omega, by omega, trivial⟩
      refine b_287_82 hSG ⟨fun h => by omega, fun _ => ⟨o282, ?_⟩⟩
      rw [g282, g281 G _ h87, h84, Int.toNat_natCast, n227, pmi.2.2, show (i : Int) + 1 = ((i + 1 : Nat) : Int) by omega]
      have enx : (if i + 1 < it.2.2.2.1 then ((it.1 + 2 + i : Nat) : Int) else -1) = (if i + 1 < it.2.2.2.1 then ((it.1 + 1 + (i + 1) : Nat) : Int) else -1) := by
        by_cases e : i + 1 < it.2.2.2.1
        · rw [if_pos e, if_pos e]; omega
        · rw [if_neg e, if_neg e]
      rw [enx]
      have eix : (600 * (fs.length : Int) + ((200 * (v / 200) + (v % 200 + 2 + 2 * i) : Nat) : Int)).toNat = 600 * fs.length + 200 * (v / 200) + (v % 200 + 2 + 2 * i) := by omega
      refine ⟨o281 G _ h87 (by omega), fun c => ⟨by omega, by omega, by omega, by omega, by omega, ?_⟩, fun c => ⟨by omega, by omega, by omega, ?_⟩⟩
      · rw [eix, show (((vs.length - k : Nat) : Int) + (i : Int)).toNat = vs.length - k + i by omega]
        have ga : G 259 (vs.length - k + i) = gx (vs.take k).reverse i := by rw [hz 259 (by decide), z2 259 (by decide) (by decide)]; exact args i (by omega)
        rw [ga]
        refine ih (i + 1) _ R (by omega) (hSG.arr kd_260 (by omega)) (fun c hc => by rw [up_row hc]; exact hz c hc) (fun t ht => ?_) (fun q hq => by rw [u_ne (Or.inr (by omega))]; exact ho q hq) K
        unfold argS
        by_cases e : t = v % 200 + 2 + 2 * i
        · subst e
          rw [u_eq, if_pos (by omega), show (v % 200 + 2 + 2 * i - (v % 200 + 2)) / 2 = i by omega]
        · rw [u_ne (Or.inr (by omega)), hs t ht]
          unfold argS
          by_cases c2 : v % 200 + 2 ≤ t ∧ (t - (v % 200 + 2)) % 2 = 0 ∧ (t - (v % 200 + 2)) / 2 < min i k
          · rw [if_pos c2, if_pos (by omega)]
          · rw [if_neg c2, if_neg (by omega)]
      · rw [eix]
        refine ih (i + 1) _ R (by omega) (hSG.arr kd_260 (by omega)) (fun c hc => by rw [up_row hc]; exact hz c hc) (fun t ht => ?_) (fun q hq => by rw [u_ne (Or.inr (by omega))]; exact ho q hq) K
        have em : min (i + 1) k = min i k := by omega
        rw [em]
        by_cases e : t = v % 200 + 2 + 2 * i
        · subst e
          rw [u_eq]
          unfold argS
          rw [if_neg (by omega)]
        · rw [u_ne (Or.inr (by omega))]
          exact hs t ht
  have par0 := par it.2.2.2.1 0 G0 (fun F' => ∃ (it : IT) (cp lo hi : Nat), ItP F0 (ks X (v / 200)) cp lo hi it ∧ it.2.1 = 2 ∧ Wat X (v / 200) cp it.2.2.2.2.2 ∧ fstp X v = cp ∧ RunM F' (ren X v k fs vs s res) (T ++ [tcd 9 it.1] ++ tsk 0 (F0 224 it.2.2.2.2.1)) ∧ frR F1 F') (by omega) hSG0 z0 (fun t ht => by
    rw [q0, if_pos (by omega)]
    unfold argS
    rw [if_neg (by omega)]) (fun q hq => by rw [q0, if_neg (by omega)]) ?_
  · have e224 : F0 224 it.1 = (if 0 < it.2.2.2.1 then ((it.1 + 1 + 0 : Nat) : Int) else -1) := by
      rw [pm1.1]
      by_cases e : it.2.2.2.1 = 0
      · rw [if_pos e, if_neg (by omega)]
      · rw [if_neg e, if_pos (by omega)]
    rw [e224]
    exact par0
  intro G hSG hz hs ho
  have f3 : frR F1 F2 := by rw [e2]; exact ((frR.rf.fl (by decide)).fl (by decide)).up (by decide)
  have fG : frR F1 G := ⟨fun c x y => by rw [hz c (by omega), f3.1 c x y], fun j x y z w => by rw [hz 201 (by decide), f3.2 j x y z w]⟩
  have epar : min (ppar X v).toNat k = min it.2.2.2.1 k := by rw [m6, Int.toNat_natCast]
  have hRG : RunM G (ren X v k fs vs s res) T := by
    unfold ren
    refine ⟨⟨by rw [hz 201 (by decide), fo 82 (by decide) (by decide)]; exact k1, by rw [hz 258 (by decide), z2 258 (by decide) (by decide)]; exact k2⟩, ⟨by rw [hz 201 (by decide), f84]; show _ = ((vs.drop k).length : Int); rw [List.length_drop], fun i hi => ?_⟩, by rw [hz 201 (by decide)]; exact f87, ⟨by rw [hz 201 (by decide), fo 88 (by decide) (by decide)]; exact k5, k5a⟩, by rw [hz 261 (by decide)]; exact f261, ?_, hf, ?_⟩
    · rw [hz 259 (by decide), z2 259 (by decide) (by decide)]
      have e1 : vs.reverse = (vs.drop k).reverse ++ (vs.take k).reverse := by rw [← List.reverse_append, List.take_append_drop]
      rw [e1] at k3a
      exact k3a.pre i hi
    · intro t ht
      show G 260 (600 * fs.length + 200 * (v / 200) + t) = argS (v % 200) (min (ppar X v).toNat k) (vs.take k).reverse t
      rw [epar]
      exact hs t ht
    · exact frM.cong fs k6 (fun i hi => by rw [hz 261 (by decide)]; exact fx i (by omega)) (fun i hi => ho i hi)
  refine b_287_82 hSG ⟨fun _ => ?_, fun h => absurd rfl h⟩
  have hRG' := hRG
  unfold ren at hRG'
  have pq := p1.1
  refine CaV.on (s_278 (how := 9) (un := (it.1 : Int)) hSG hRG' (Or.inr ⟨by omega, by omega⟩) (by decide) (by omega)) ?_
  rintro G1 hSG1 ⟨r1, r2⟩
  have n1 : ∀ c, 221 ≤ c → c ≤ 229 → G1 c = F0 c := nd G1 (fG.tr r2)
  rw [Int.toNat_natCast, n1 225 (by decide) (by decide), pm2, Int.toNat_natCast, n1 224 (by decide) (by decide)]
  rw [tsk_n] at r1
  refine ⟨by omega, by omega, ?_⟩
  refine CaV.on (s_278 (how := 0) hSG1 r1 pm5 (by decide) (by rw [List.length_append, List.length_singleton]; omega)) ?_
  rintro G2 hSG2 ⟨r3, r4⟩
  exact ⟨it, cp, lo, hi, p1, m2, p2, hst, r3, (fG.tr r2).tr r4⟩
end Me1
