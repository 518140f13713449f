/-! BINDING OF THE REFERENCE: what is in a function -/
def SE (F : MF) (vf : Nat) (stm : Int) (s : SS) : Prop := ∃ n d : Nat, stm = (n : Int) ∧ Env F vf d n (s.1 :: s.2.1)
/-- an order, with the homes of its leaves -/
def OMh (F G : MF) (K : List Int) (vf : Nat) : SS → List (Nat × Int) → List Nat → List Int → List (Nat × Int) → Prop
  | _, ns, L, [], ns' => L = [] ∧ ns' = ns
  | s, ns, L, w :: W, ns' => ∃ (L1 L2 : List Nat) (ns1 : List (Nat × Int)), L = L1 ++ L2 ∧ OSw F K vf s ns w L1 ns1 ∧ (∀ n ∈ L1, F 221 n = 13 → F 222 n < 256 → kn K (F 222 n).toNat = 0 → SE F vf (G 254 n) s) ∧ OMh F G K vf (sstep s w) ns1 L2 W ns'
noncomputable def bbk (X : Nat → List Int) (f : Nat) : SS → List Int → (Nat → Int) → Nat → Int
  | _, [], B => B
  | s, w :: W, B => bwd X f (sstep s w) w (bbk X f (sstep s w) W B)
section M9u
variable {F G : MF} {K : List Int} {X : Nat → List Int} {f g k vf : Nat} {R : MF → Prop}
theorem LtC.cong (h : ∀ c, 221 ≤ c → c ≤ 229 → G c = F c) : ∀ (m : Nat) (x : Int) (v : Nat) (L : List Int), LtC F m x v L → LtC G m x v L
  | 0, x, v, L, h1 => h1
  | m + 1, x, v, L, ⟨u, L', h1, h2, h3, h4⟩ => ⟨u, L', h1, h2, by rw [h 221 (by decide) (by decide), h 222 (by decide) (by decide)]; exact h3, by rw [h 227 (by decide) (by decide)]; exact LtC.cong h m _ _ _ h4⟩
theorem Env.cong (h : ∀ c, 221 ≤ c → c ≤ 229 → G c = F c) : ∀ (d v : Nat) (Bs : List (List Int)), Env F vf d v Bs → Env G vf d v Bs
  | 0, v, Bs, h1 => h1
  | d + 1, v, Bs, ⟨b, m, L, r, h1, h2, h3, h4, h5, h6⟩ => ⟨b, m, L, r, h1, h2, by rw [h 229 (by decide) (by decide)]; exact h3, by rw [h 224 (by decide) (by decide)]; exact LtC.cong h _ _ _ _ h4, h5, by
    rw [h 229 (by decide) (by decide), h 226 (by decide) (by decide)]
    rcases h6 with h6 | ⟨hn, b', k1, k2, k3, k4, k5⟩
    · exact Or.inl h6
    · exact Or.inr ⟨hn, b', k1, k2, k3, k4, Env.cong h d _ _ k5⟩⟩
theorem OMh.cong {G' : MF} : ∀ (W : List Int) (s : SS) (ns : List (Nat × Int)) (L : List Nat) (ns' : List (Nat × Int)), OMh F G K vf s ns L W ns' → (∀ n ∈ L, G' 254 n = G 254 n) → OMh F G' K vf s ns L W ns'
  | [], _, _, _, _, h, _ => h
  | w :: W, s, ns, L, ns', ⟨L1, L2, ns1, h1, h2, h3, h4⟩, hc => by
    subst h1
    exact ⟨L1, L2, ns1, rfl, h2, fun n hn a b c => by rw [hc n (List.mem_append_left _ hn)]; exact h3 n hn a b c, OMh.cong W _ _ _ _ h4 (fun n hn => hc n (List.mem_append_right _ hn))⟩
/-- one node -/
theorem l_nd {n kk : Nat} {q stm st2 : Int} (hS : St G) (hk : k < 1600) (hn : n < 1600) (e1 : G 251 k = (n : Int)) (e2 : G 221 n = (kk : Int)) (e3 : G 222 n = q) (hq : 0 ≤ q ∧ q < 10000000) (hf : f < 3) (e4 : st2 = if kk < 13 then (n : Int) else stm)
    (h5 : kk = 5 → 200 * (f : Int) + q < 600 ∧ L_260_105 (f : Int) st2 ((k : Int) - 1) (m_up (m_up G 254 n st2) 253 (200 * (f : Int) + q).toNat (200 * (f : Int) + q)) R m_no)
    (h6 : kk = 6 → C_258 (f : Int) st2 (200 * (f : Int) + q) (m_up G 254 n st2) (fun r G2 => 200 * (f : Int) + q < 600 ∧ L_260_105 (f : Int) st2 ((k : Int) - 1) (m_up G2 253 (200 * (f : Int) + q).toNat r) R m_no) m_no)
    (h13 : kk = 13 → 200 * (f : Int) + q < 600 ∧ (G 213 (200 * (f : Int) + q).toNat = 0 → C_258 (f : Int) st2 (200 * (f : Int) + q) (m_up G 254 n st2) (fun r G2 => L_260_105 (f : Int) st2 ((k : Int) - 1) (m_up G2 253 (200 * (f : Int) + q).toNat r) R m_no) m_no) ∧ (G 213 (200 * (f : Int) + q).toNat ≠ 0 → L_260_105 (f : Int) st2 ((k : Int) - 1) (m_up G 254 n st2) R m_no))
    (h14 : kk = 14 → C_255 (f : Int) (200 * (f : Int) + q) (m_up G 254 n st2) (fun r G2 => 200 * (f : Int) + q < 600 ∧ L_260_105 (f : Int) st2 ((k : Int) - 1) (m_up G2 253 (200 * (f : Int) + q).toNat r) R m_no) m_no)
    (h0 : kk ≠ 5 → kk ≠ 6 → kk ≠ 13 → kk ≠ 14 → L_260_105 (f : Int) st2 ((k : Int) - 1) (m_up G 254 n st2) R m_no) : L_260_105 (f : Int) stm (k : Int) G R m_no := by
  have hS1 : St (m_up G 254 n st2) := hS.arr kd_254 (by decide)
  have tail : kk ≠ 5 → kk ≠ 6 → (kk = 13 → G 213 (200 * (f : Int) + q).toNat ≠ 0) → L_260_238 (f : Int) st2 (k : Int) (n : Int) (200 * (f : Int) + q) (m_up G 254 n st2) R m_no := by
    intro k5 k6 k13
    refine b_260_238 hS1 ?_
    rw [Int.toNat_natCast, u_ne (Or.inl (by decide)), e2]
    refine ⟨by omega, fun e => CaI.on (h14 (by omega)) (fun r G2 _ h => ⟨⟨by omega, h.1⟩, by omega, h.2⟩), fun e => ⟨by omega, ?_⟩⟩
    by_cases e13 : kk = 13
    · exact (h13 e13).2.2 (k13 e13)
    · exact h0 k5 k6 e13 (by omega)
  refine b_260_105 hS ?_
  rw [Int.toNat_natCast, e1, Int.toNat_natCast, e2, e3]
  refine ⟨fun h => by omega, fun _ => ⟨by omega, by omega, fun h => ?_, fun h => ?_⟩⟩
  · have hkk : kk < 13 := by have h : (kk : Int) < 13 := h; omega
    rw [if_pos hkk] at e4
    rw [← e4]
    refine ⟨by omega, by omega, by omega, by omega, by omega, fun e5 => ⟨⟨by omega, (h5 (by omega)).1⟩, by omega, (h5 (by omega)).2⟩, fun e5 => ⟨by omega, fun e6 => ?_, fun e6 => ⟨by omega, fun e13 => by omega, fun e13 => by have tl := tail (by omega) (by omega) (fun e => by omega); rw [← e4] at tl; exact tl⟩⟩⟩
    exact CaI.on (h6 (by omega)) (fun r G2 _ h => ⟨⟨by omega, h.1⟩, by omega, h.2⟩)
  · have hkk : ¬ kk < 13 := fun e => h (show (kk : Int) < 13 by omega)
    rw [if_neg hkk] at e4
    rw [← e4]
    refine ⟨by omega, by omega, by omega, by omega, by omega, fun e5 => by omega, fun e5 => ⟨by omega, fun e6 => by omega, fun e6 => ⟨by omega, fun e13 => ⟨⟨by omega, (h13 (by omega)).1⟩, fun e0 => ?_, fun e0 => tail (by omega) (by omega) (fun _ => e0)⟩, fun e13 => tail (by omega) (by omega) (fun e => by omega)⟩⟩⟩
    have h1 := (h13 (by omega)).1
    exact CaI.on ((h13 (by omega)).2.1 e0) (fun r G2 _ h => ⟨⟨by omega, h1⟩, by omega, h⟩)
end M9u
section M9u2
variable {F : MF} {X : Nat → List Int} {f k vf p n : Nat} {R : MF → Prop}
theorem ix_app {L1 L2 : List Nat} {i m : Nat} (h : L2[i]? = some m) : (L1 ++ L2)[L1.length + i]? = some m := by
  rw [List.getElem?_append_right (by omega), show L1.length + i - L1.length = i by omega]
  exact h
/-- words of a function: what all of them are -/
def WOk (K : List Int) (W : List Int) : Prop := ∀ w ∈ W, WC K w ∧ 0 ≤ w ∧ w < 2147483648
theorem sstep_fp {K : List Int} {s : SS} {ns ns1 : List (Nat × Int)} {w : Int} {L : List Nat} (h : OSw F K vf s ns w L ns1) : wo w ≠ 2 ∧ (sstep s w).2.2 = s.2.2 ∧ (ns1 ≠ [] → sstep s w = s) ∧ L.length ≤ 1 := by
  have aux : ∀ o t e : Nat, w = mk o t e → o < 256 → o ≠ 2 → wo w ≠ 2 ∧ (sstep s w).2.2 = s.2.2 := fun o t e e1 ho h2 => by
    have : wo w ≠ 2 := by rw [e1, wo_mk ho]; omega
    exact ⟨this, pars_step this⟩
  rcases h with ⟨p, n, e1, rfl, -⟩ | ⟨p, n, u, f, r, e1, rfl, -⟩ | ⟨p, n, u, v, f, f2, r, e1, rfl, -⟩ | ⟨o, e, u, f, r, e1, rfl, -⟩ | ⟨p, n, as, r, e1, rfl, -⟩ | ⟨o, kd, p, e, n, u, f, h1, e1, rfl, -, -, -, -, -, -, e2, -⟩ | ⟨a, n, e1, rfl, -, -, e2, -⟩ | ⟨o, t, e, h1, e1, rfl, -, e2⟩ | ⟨a, n, e1, rfl, -, -, e2, -⟩
  · have := aux 14 p 0 e1 (by decide) (by decide)
    exact ⟨this.1, this.2, fun _ => by rw [e1]; exact sst_x (by decide) (by decide), Nat.le_refl _⟩
  · have := aux 16 p 0 e1 (by decide) (by decide)
    exact ⟨this.1, this.2, fun _ => by rw [e1]; exact sst_x (by decide) (by decide), Nat.le_refl _⟩
  · have := aux 17 p 0 e1 (by decide) (by decide)
    exact ⟨this.1, this.2, fun _ => by rw [e1]; exact sst_x (by decide) (by decide), Nat.le_refl _⟩
  · have := aux 18 o e e1 (by decide) (by decide)
    exact ⟨this.1, this.2, fun _ => by rw [e1]; exact sst_x (by decide) (by decide), Nat.zero_le _⟩
  · have := aux 15 p _ e1 (by decide) (by decide)
    exact ⟨this.1, this.2, fun _ => by rw [e1]; exact sst_x (by decide) (by decide), Nat.le_refl _⟩
  · have := aux o p e e1 (by omega) (by omega)
    exact ⟨this.1, this.2, fun h => absurd e2 h, Nat.le_refl _⟩
  · have := aux 13 a 0 e1 (by decide) (by decide)
    exact ⟨this.1, this.2, fun h => absurd e2 h, Nat.le_refl _⟩
  · have := aux o t e e1 (by omega) (by omega)
    exact ⟨this.1, this.2, fun h => absurd e2 h, Nat.zero_le _⟩
  · have := aux 6 a 0 e1 (by decide) (by decide)
    exact ⟨this.1, this.2, fun h => absurd e2 h, Nat.le_refl _⟩
theorem TVs_step {K : List Int} {s : SS} {w : Int} (hT : TVs X f (nms s)) (hw : WC K w) (hK : K = ks X f) : TVs X f (nms (sstep s w)) := fun t ht => by
  subst hK
  rcases (nms_step (s := s) (w := w)).2.2 t ht with h | ⟨h, rfl⟩
  · exact hT t h
  · obtain ⟨o, t, e, rfl, e2, e3⟩ := hw
    have ho : o < 256 := by unfold oX at e3; omega
    rw [wo_mk ho] at h
    rw [wt_mk ho e2]
    have : kn (ks X f) t = 0 := by unfold oX at e3; omega
    exact ⟨t, rfl, kn_tok (by rw [this]; decide)⟩
theorem mk_b {o a e : Nat} (h : mk o a e < 2147483648) : a < 8388608 := by unfold mk at h; omega
theorem mk14 {K : List Int} {a : Nat} (h : WC K (mk 14 a 0)) : a < 256 ∧ kp K a := by
  obtain ⟨o, t, e, e1, e2, e3⟩ := h
  have ho : o < 256 := by unfold oX at e3; omega
  have h1 : o = 14 := by have := congrArg wo e1; rw [wo_mk (by decide), wo_mk ho] at this; omega
  subst h1
  unfold oX at e3
  have he : e = 0 := by omega
  subst he
  unfold mk at e1
  have : a = t := by omega
  subst this
  exact ⟨e2, by unfold kp at e3 ⊢; omega⟩
theorem mk16 {K : List Int} {a o : Nat} (ho : o = 16 ∨ o = 17) (h : WC K (mk o a 0)) : a < 256 := by
  obtain ⟨o', t, e, e1, e2, e3⟩ := h
  have ho' : o' < 256 := by unfold oX at e3; omega
  have h1 : o' = o := by have := congrArg wo e1; rw [wo_mk (by omega), wo_mk ho'] at this; omega
  subst h1
  unfold oX at e3
  have he : e = 0 := by omega
  subst he
  unfold mk at e1
  omega
theorem mk7 {K : List Int} {a e o : Nat} (ha : a < 256) (ho : o = 7 ∨ o = 8 ∨ o = 15) (h : WC K (mk o a e)) : kn K a = 0 := by
  obtain ⟨o', t, e', e1, e2, e3⟩ := h
  have ho' : o' < 256 := by unfold oX at e3; omega
  have h1 : o' = o := by have := congrArg wo e1; rw [wo_mk (by omega), wo_mk ho'] at this; omega
  have h2 : a = t := by have := congrArg wt e1; rw [wt_mk (by omega) ha, wt_mk ho' e2] at this; omega
  subst h1 h2
  unfold oX at e3
  omega
theorem bset_1 {o q e : Nat} {t : Int} (ho : o = 7 ∨ o = 8 ∨ o = 15 ∨ o = 14 ∧ kn (ks X f) q = 0) (hq : q < 256) : bset X f (mk o q e) t ↔ t = (q : Int) := by
  unfold bset tin
  rw [wo_mk (by omega), wt_mk (by omega) hq, Int.toNat_natCast]
  constructor
  · rintro ⟨h | h, -⟩
    · omega
    · exact h.2
  · intro h
    exact ⟨Or.inr ⟨by omega, h⟩, fun h2 => by omega⟩
theorem bset_0 {o q e : Nat} {t : Int} (ho : o < 256) (h : o ≠ 2 ∧ o ≠ 7 ∧ o ≠ 8 ∧ o ≠ 15 ∧ (o = 14 → q < 256 ∧ kn (ks X f) q ≠ 0)) : ¬ bset X f (mk o q e) t := by
  rintro ⟨h1, h2⟩
  unfold tin at h1
  rw [wo_mk ho] at h1 h2
  have : o = 14 := by omega
  subst this
  have h3 := h.2.2.2.2 rfl
  rw [wt_mk (by decide) h3.1, Int.toNat_natCast] at h2
  exact h3.2 (h2 rfl)
theorem kn_rng (hX : ∀ r, r < 24 → Rok (X r)) (hf : f < 3) (q : Nat) : 0 ≤ kn (ks X f) q ∧ kn (ks X f) q ≤ 24 := by
  by_cases h : q < (ks X f).length
  · have := ks_kn hX hf h
    omega
  · rw [kn_end (by omega)]
    decide
theorem l_105 {nn : Nat → Nat} (hR : RA F X nn) (hf : f < 3) (hvf : vf + n < 1600) (hP : PM F vf p n) (hp : ∀ i, i < n → p + 2 + 2 * i < (toks X f).length) : ∀ (W : List Int) (s : SS) (ns : List (Nat × Int)) (L : List Nat) (ns' : List (Nat × Int)), OM F (ks X f) vf s ns L W ns' → WOk (ks X f) W → TVs X f (nms s) → s.2.2 = ((p : Int), (n : Int)) →
    ∀ (a : Nat) (stm : Int) (G : MF), St G → (∀ c, c ≠ 253 → c ≠ 254 → G c = F c) → (∀ i m : Nat, L[i]? = some m → F 251 (a + i) = (m : Int)) → a + L.length ≤ 1600 → L.Nodup → (∀ m ∈ L, m < 1600) → (ns' ≠ [] → SE F vf stm (sfo s W)) →
    (∀ (G' : MF) (stm' : Int), St G' → (∀ c, c ≠ 253 → c ≠ 254 → G' c = F c) → (∀ id, id < 600 → G' 253 id = bbk X f s W (G 253) id) → (∀ m, m ∉ L → G' 254 m = G 254 m) → OMh F G' (ks X f) vf s ns L W ns' → (ns ≠ [] → SE F vf stm' s) → L_260_105 (f : Int) stm' ((a : Int) - 1) G' R m_no) →
    L_260_105 (f : Int) stm (((a + L.length : Nat) : Int) - 1) G R m_no := by
  have hX := hR.hX
  have lk := toks_len hX hf
  intro W
  induction W with
  | nil =>
    rintro s ns L ns' ⟨rfl, rfl⟩ hW hT hs a stm G hS hz hi ha hnd hm hE hR2
    exact hR2 G stm hS hz (fun id _ => rfl) (fun m _ => rfl) ⟨rfl, rfl⟩ hE
  | cons w W ih =>
    rintro s ns L ns' ⟨L1, L2, ns1, rfl, hO, hrest⟩ hW hT hs a stm G hS hz hi ha hnd hm hE hR2
    have hw := hW w (List.mem_cons_self)
    obtain ⟨fp1, fp2, fp3, fp4⟩ := sstep_fp hO
    have hnd' := List.nodup_append.mp hnd
    rw [List.length_append] at ha
    rw [List.length_append, ← Nat.add_assoc]
    refine ih (sstep s w) ns1 L2 ns' hrest (fun v hv => hW v (List.mem_cons_of_mem _ hv)) (TVs_step hT hw.1 rfl) (fp2.trans hs) (a + L1.length) stm G hS hz (fun i m h => by rw [Nat.add_assoc]; exact hi _ m (ix_app h)) (by omega) hnd'.2.1 (fun m h => hm m (List.mem_append_right _ h)) hE ?_
    intro G1 st1 hS1 hz1 hb1 hh1 ho1 hE1
    have hR1 : RA G1 X nn := hR.cong (fun c x y => hz1 c (by omega) (by omega)) (by rw [hz1 201 (by decide) (by decide)]) hX
    -- no node
    have nonode : L1 = [] → (∀ t, ¬ bset X f w t) → (ns ≠ [] → SE F vf st1 s) → (∀ m ∈ L1, F 221 m = 13 → F 222 m < 256 → kn (ks X f) (F 222 m).toNat = 0 → SE F vf (G1 254 m) s) → L_260_105 (f : Int) st1 (((a + L1.length : Nat) : Int) - 1) G1 R m_no := by
      intro h1 h2 h3 h4
      have := hR2 G1 st1 hS1 hz1 (fun id hid => by
        rw [hb1 id hid]
        show _ = bwd X f (sstep s w) w (bbk X f (sstep s w) W (G 253)) id
        rw [bwd_0 (h2 _)]) (fun m hm2 => hh1 m (fun h => hm2 (List.mem_append_right _ h))) ⟨L1, L2, ns1, rfl, hO, h4, ho1⟩ h3
      rw [h1]
      exact this
    have osn := hO
    -- a node: what follows
    have node : ∀ m : Nat, L1 = [m] → m < 1600 → G1 251 a = (m : Int) ∧ ∀ st2 : Int, (∀ (v : Int → Int) (G2 : MF), True) → True := fun m h1 h2 => ⟨by
      rw [hz1 251 (by decide) (by decide)]
      exact hi 0 m (by rw [h1]; rfl), fun _ _ => trivial⟩
    have fin : ∀ (m : Nat) (st2 : Int) (G2 : MF), L1 = [m] → St G2 → (∀ c, c ≠ 253 → c ≠ 254 → G2 c = F c) → (∀ id, id < 600 → G2 253 id = bwd X f (sstep s w) w (G1 253) id) → (∀ q, q ≠ m → G2 254 q = G1 254 q) → (F 221 m = 13 → F 222 m < 256 → kn (ks X f) (F 222 m).toNat = 0 → SE F vf (G2 254 m) s) → (ns ≠ [] → SE F vf st2 s) → L_260_105 (f : Int) st2 ((a : Int) - 1) G2 R m_no := by
      intro m st2 G2 h1 hS2 hz2 hb2 hh2 hle hE2
      have hmL : m ∉ L2 := fun h => (hnd'.2.2 m (by rw [h1]; exact List.mem_singleton.mpr rfl) m h) rfl
      refine hR2 G2 st2 hS2 hz2 (fun id hid => ?_) (fun q hq => ?_) ⟨L1, L2, ns1, rfl, osn, fun q hq x y z => ?_, OMh.cong W _ _ _ _ ho1 (fun q hq => hh2 q (fun e => hmL (e ▸ hq)))⟩ hE2
      · rw [hb2 id hid]
        show _ = bwd X f (sstep s w) w (bbk X f (sstep s w) W (G 253)) id
        unfold bwd
        rw [hb1 id hid]
      · rw [hh2 q (fun e => hq (List.mem_append_left _ (by rw [h1, e]; exact List.mem_singleton.mpr rfl)))]
        exact hh1 q (fun h => hq (List.mem_append_right _ h))
      · rw [h1] at hq
        rw [List.mem_singleton.mp hq] at x y z ⊢
        exact hle x y z
    have plain : ∀ (m : Nat) (st2 : Int), L1 = [m] → (∀ t, ¬ bset X f w t) → (ns ≠ [] → SE F vf st2 s) → (F 221 m = 13 → F 222 m < 256 → kn (ks X f) (F 222 m).toNat = 0 → SE F vf st2 s) → L_260_105 (f : Int) st2 ((a : Int) - 1) (m_up G1 254 m st2) R m_no := by
      intro m st2 h1 h2 h3 h4
      refine fin m st2 _ h1 (hS1.arr kd_254 (by decide)) (fun c x y => by rw [up_row y]; exact hz1 c x y) (fun id hid => by rw [bwd_0 (h2 _), u_ne (Or.inl (by decide))]) (fun q hq => u_ne (Or.inr hq)) (fun x y z => by rw [u_eq]; exact h4 x y z) h3
    have bound : ∀ (m q : Nat) (st2 v : Int), L1 = [m] → 200 * f + q < 600 → (∀ t : Int, bset X f w t ↔ t = (q : Int)) → bval X f (sstep s w) w (200 * f + q) = v → (ns ≠ [] → SE F vf st2 s) → (F 221 m = 13 → SE F vf st2 s) → ∀ G2 : MF, G2 = m_up G1 254 m st2 → L_260_105 (f : Int) st2 ((a : Int) - 1) (m_up G2 253 (200 * (f : Int) + (q : Int)).toNat v) R m_no := by
      intro m q st2 v h1 hq h2 hv h3 h4 G2 hG2
      subst hG2
      rw [show (200 * (f : Int) + (q : Int)).toNat = 200 * f + q by omega]
      refine fin m st2 _ h1 ((hS1.arr kd_254 (by decide)).arr kd_253 (by decide)) (fun c x y => by rw [up_row x, up_row y]; exact hz1 c x y) (fun id hid => ?_) (fun q hq => by rw [u_ne (Or.inl (by decide)), u_ne (Or.inr hq)]) (fun x _ _ => by rw [u_ne (Or.inl (by decide)), u_eq]; exact h4 x) h3
      by_cases e : id = 200 * f + q
      · subst e
        rw [u_eq, bwd_1 ((h2 _).mpr (by omega)), hv]
      · rw [u_ne (Or.inr e), u_ne (Or.inl (by decide)), bwd_0 (fun h => e (by have := (h2 _).mp h; omega))]
    have gt : ∀ q : Nat, q < (toks X f).length → G1 213 (200 * (f : Int) + (q : Int)).toNat = kn (ks X f) q := fun q hq => by
      rw [show (200 * (f : Int) + (q : Int)).toNat = 200 * f + q by omega]
      exact (lexm_tok (hR1.2.1 f hf) hq).1
    have ec : cand s = (s.1 :: s.2.1).flatten ++ prs' p n := by
      unfold cand pars
      rw [hs]
      rfl
    have look : ∀ (m q : Nat) (st st2 : Int), SE F vf st s → q < (toks X f).length → C_258 (f : Int) st (200 * (f : Int) + (q : Int)) (m_up G1 254 m st2) (fun r G3 => r = idv f (fst' X f q (cand s)) ∧ G3 = m_up G1 254 m st2) m_no := by
      rintro m q st st2 ⟨v, d, rfl, hE2⟩ hq
      have ez : ∀ c, c ≠ 253 → c ≠ 254 → m_up G1 254 m st2 c = F c := fun c x y => by rw [up_row y]; exact hz1 c x y
      have := s_258 (F := m_up G1 254 m st2) (nn := nn) (k := q) (hR.cong (fun c x y => ez c (by omega) (by omega)) (by rw [ez 201 (by decide) (by decide)]) hX) hf hq hvf (hP.cong (by rw [ez 224 (by decide) (by decide)]) (fun c i x y _ _ => by rw [ez c (by omega) (by omega)])) hp (hS1.arr kd_254 (by decide)) d v (s.1 :: s.2.1) (Env.cong (fun c x y => ez c (by omega) (by omega)) _ _ _ hE2) hT
      rw [ec, show 200 * (f : Int) + (q : Int) = ((200 * f + q : Nat) : Int) by omega]
      exact this
    have i0 : ∀ m : Nat, L1 = [m] → m < 1600 ∧ (((a + L1.length : Nat) : Int) - 1 = (a : Int)) ∧ G1 251 a = (m : Int) := fun m h1 => ⟨hm m (List.mem_append_left _ (by rw [h1]; exact List.mem_singleton.mpr rfl)), by rw [h1, List.length_singleton]; omega, by
      rw [hz1 251 (by decide) (by decide)]
      exact hi 0 m (by rw [h1]; rfl)⟩
    have ha2 : L1 ≠ [] → a < 1600 := fun h => by have := List.length_pos_iff.mpr h; omega
    have f1 : ∀ c m, 221 ≤ c → c ≤ 229 → G1 c m = F c m := fun c m x y => by rw [hz1 c (by omega) (by omega)]
    have bv8 : ∀ (o q e : Nat), w = mk o q e → o = 8 ∨ o = 14 → q < 256 → bval X f (sstep s w) w (200 * f + q) = idv f (fst' X f q (cand s)) := by
      intro o q e h1 h2 h3
      have h4 : sstep s w = s := by rw [h1]; exact sst_x (by omega) (by omega)
      rw [h4, h1]
      unfold bval idv
      rw [wo_mk (by omega), wt_mk (by omega) h3, Int.toNat_natCast, if_neg (by omega), if_pos (by omega)]
    rcases hO with ⟨q, m, e1, h1, e2, e3, e4⟩ | ⟨q, m, u, f', r, e1, h1, e2, e3, e4, e5, e6, e7⟩ | ⟨q, m, u, v, f', f2, r, e1, h1, e2, e3, e4, e5, e6, e7, e8, e9⟩ | ⟨o, e, u, f', r, e1, h1, e2, e3⟩ | ⟨q, m, as, r, e1, h1, e2, e3, e4, e5, e6, e7⟩ | ⟨o, kd, q, e, m, u, f', h0, e1, h1, e2, e3, e4, e5, e6, e7, e8, e9⟩ | ⟨a', m, e1, h1, e2, e3, e4, e5⟩ | ⟨o, t, e, h0, e1, h1, e2, e3⟩ | ⟨a', m, e1, h1, e2, e3, e4, e5⟩
    · obtain ⟨b1, b2, b3⟩ := i0 m h1
      have hse : SE F vf st1 s := by have := hE1 (by rw [e4]; simp); rwa [fp3 (by rw [e4]; simp)] at this
      obtain ⟨q1, q2⟩ := mk14 (by rw [← e1]; exact hw.1)
      have q3 : q < (toks X f).length := kn_tok (by unfold kp at q2; omega)
      rw [b2]
      refine l_nd (k := a) (n := m) (kk := 13) (q := (q : Int)) (st2 := st1) hS1 (ha2 (by rw [h1]; simp)) b1 b3 ((f1 221 m (by decide) (by decide)).trans e2) ((f1 222 m (by decide) (by decide)).trans e3) (by omega) hf (by rw [if_neg (by decide)]) (fun h => absurd h (by decide)) (fun h => absurd h (by decide)) (fun _ => ⟨by omega, fun h0 => ?_, fun h0 => ?_⟩) (fun h => absurd h (by decide)) (fun _ _ h => absurd rfl h)
      · rw [gt q q3] at h0
        refine CaI.on (look m q st1 st1 hse q3) ?_
        rintro r G3 hS3 ⟨rfl, hG3⟩
        exact bound m q st1 _ h1 (by omega) (fun t => by rw [e1]; exact bset_1 (Or.inr (Or.inr (Or.inr ⟨rfl, h0⟩))) q1) (bv8 14 q 0 e1 (Or.inr rfl) q1) (fun _ => hse) (fun _ => hse) G3 hG3
      · rw [gt q q3] at h0
        exact plain m st1 h1 (fun t => by rw [e1]; exact bset_0 (by decide) ⟨by decide, by decide, by decide, by decide, fun _ => ⟨q1, h0⟩⟩) (fun _ => hse) (fun _ _ _ => hse)
    · obtain ⟨b1, b2, b3⟩ := i0 m h1
      have hse : SE F vf st1 s := by have := hE1 (by rw [e7]; simp); rwa [fp3 (by rw [e7]; simp)] at this
      have q1 : q < 256 := mk16 (Or.inl rfl) (by rw [← e1]; exact hw.1)
      rw [b2]
      exact l_nd (k := a) (n := m) (kk := 16) (q := (q : Int)) (st2 := st1) hS1 (ha2 (by rw [h1]; simp)) b1 b3 ((f1 221 m (by decide) (by decide)).trans e3) ((f1 222 m (by decide) (by decide)).trans e4) (by omega) hf (by rw [if_neg (by decide)]) (fun h => absurd h (by decide)) (fun h => absurd h (by decide)) (fun h => absurd h (by decide)) (fun h => absurd h (by decide)) (fun _ _ _ _ => plain m st1 h1 (fun t => by rw [e1]; exact bset_0 (by decide) ⟨by decide, by decide, by decide, by decide, fun h => absurd h (by decide)⟩) (fun _ => hse) (fun h => by rw [e3] at h; exact absurd h (by decide)))
    · obtain ⟨b1, b2, b3⟩ := i0 m h1
      have hse : SE F vf st1 s := by have := hE1 (by rw [e9]; simp); rwa [fp3 (by rw [e9]; simp)] at this
      have q1 := kn_rng (X := X) hX hf q
      rw [b2]
      exact l_nd (k := a) (n := m) (kk := 30) (q := kn (ks X f) q) (st2 := st1) hS1 (ha2 (by rw [h1]; simp)) b1 b3 ((f1 221 m (by decide) (by decide)).trans e3) ((f1 222 m (by decide) (by decide)).trans e4) (by omega) hf (by rw [if_neg (by decide)]) (fun h => absurd h (by decide)) (fun h => absurd h (by decide)) (fun h => absurd h (by decide)) (fun h => absurd h (by decide)) (fun _ _ _ _ => plain m st1 h1 (fun t => by rw [e1]; exact bset_0 (by decide) ⟨by decide, by decide, by decide, by decide, fun h => absurd h (by decide)⟩) (fun _ => hse) (fun h => by rw [e3] at h; exact absurd h (by decide)))
    · have hse : SE F vf st1 s := by have := hE1 (by rw [e3]; simp); rwa [fp3 (by rw [e3]; simp)] at this
      exact nonode h1 (fun t => by rw [e1]; exact bset_0 (by decide) ⟨by decide, by decide, by decide, by decide, fun h => absurd h (by decide)⟩) (fun _ => hse) (fun m hm => by rw [h1] at hm; exact absurd hm (List.not_mem_nil))
    · obtain ⟨b1, b2, b3⟩ := i0 m h1
      have hse : SE F vf st1 s := by have := hE1 (by rw [e6]; simp); rwa [fp3 (by rw [e6]; simp)] at this
      have q3 : q < (toks X f).length := kn_tok (by rw [mk7 (o := 15) e7 (by omega) (by rw [← e1]; exact hw.1)]; decide)
      rw [b2]
      refine l_nd (k := a) (n := m) (kk := 14) (q := (q : Int)) (st2 := st1) hS1 (ha2 (by rw [h1]; simp)) b1 b3 ((f1 221 m (by decide) (by decide)).trans e3) ((f1 222 m (by decide) (by decide)).trans e4) (by omega) hf (by rw [if_neg (by decide)]) (fun h => absurd h (by decide)) (fun h => absurd h (by decide)) (fun h => absurd h (by decide)) (fun _ => ?_) (fun _ _ _ h => absurd rfl h)
      have ez : ∀ c, c ≠ 253 → c ≠ 254 → m_up G1 254 m st1 c = F c := fun c x y => by rw [up_row y]; exact hz1 c x y
      have hc := s_255 (F := m_up G1 254 m st1) (nn := nn) (k := q) (hS1.arr kd_254 (by decide)) (hR.cong (fun c x y => ez c (by omega) (by omega)) (by rw [ez 201 (by decide) (by decide)]) hX) hf q3
      rw [show ((200 * f + q : Nat) : Int) = 200 * (f : Int) + (q : Int) by omega] at hc
      refine CaI.on hc ?_
      rintro r G3 hS3 ⟨rfl, hG3⟩
      refine ⟨by omega, bound m q st1 _ h1 (by omega) (fun t => by rw [e1]; exact bset_1 (Or.inr (Or.inr (Or.inl rfl))) e7) ?_ (fun _ => hse) (fun h => by rw [e3] at h; exact absurd h (by decide)) G3 hG3⟩
      rw [e1]
      unfold bval
      rw [wo_mk (by decide), wt_mk (by decide) e7, Int.toNat_natCast, if_pos (by decide)]
    · obtain ⟨b1, b2, b3⟩ := i0 m h1
      have hse : SE F vf (m : Int) s := by obtain ⟨d, h⟩ := e7; exact ⟨m, d, rfl, h⟩
      have hq : q < 8388608 := mk_b (by rw [← e1]; exact hw.2.2)
      have q3 : o = 7 ∨ o = 8 → q < (toks X f).length := fun h => kn_tok (by rw [mk7 (o := o) (e9 (by omega)) (by omega) (by rw [← e1]; exact hw.1)]; decide)
      rw [b2]
      refine l_nd (k := a) (n := m) (kk := kd) (q := (q : Int)) (st2 := (m : Int)) hS1 (ha2 (by rw [h1]; simp)) b1 b3 ((f1 221 m (by decide) (by decide)).trans e3) ((f1 222 m (by decide) (by decide)).trans e4) (by omega) hf (by rw [if_pos (by omega)]) (fun h => ?_) (fun h => ?_) (fun h => by omega) (fun h => by omega) (fun h5 h6 _ _ => ?_)
      · have := q3 (by omega)
        refine ⟨by omega, bound m q (m : Int) _ h1 (by omega) (fun t => by rw [e1]; exact bset_1 (by omega) (e9 (by omega))) ?_ (fun _ => hse) (fun _ => hse) _ rfl⟩
        rw [e1]
        unfold bval
        rw [wo_mk (by omega), if_neg (by omega), if_neg (by omega)]
        omega
      · have q4 := q3 (by omega)
        refine CaI.on (look m q (m : Int) (m : Int) hse q4) ?_
        rintro r G3 hS3 ⟨rfl, hG3⟩
        exact ⟨by omega, bound m q (m : Int) _ h1 (by omega) (fun t => by rw [e1]; exact bset_1 (by omega) (e9 (by omega))) (bv8 o q e e1 (by omega) (e9 (by omega))) (fun _ => hse) (fun _ => hse) G3 hG3⟩
      · exact plain m (m : Int) h1 (fun t => by rw [e1]; exact bset_0 (by omega) ⟨by omega, by omega, by omega, by omega, fun h => by omega⟩) (fun _ => hse) (fun _ _ _ => hse)
    · obtain ⟨b1, b2, b3⟩ := i0 m h1
      have hq : a' < 8388608 := mk_b (by rw [← e1]; exact hw.2.2)
      rw [b2]
      exact l_nd (k := a) (n := m) (kk := 12) (q := (a' : Int)) (st2 := (m : Int)) hS1 (ha2 (by rw [h1]; simp)) b1 b3 ((f1 221 m (by decide) (by decide)).trans e2) ((f1 222 m (by decide) (by decide)).trans e5) (by omega) hf (by rw [if_pos (by decide)]) (fun h => absurd h (by decide)) (fun h => absurd h (by decide)) (fun h => absurd h (by decide)) (fun h => absurd h (by decide)) (fun _ _ _ _ => plain m (m : Int) h1 (fun t => by rw [e1]; exact bset_0 (by decide) ⟨by decide, by decide, by decide, by decide, fun h => absurd h (by decide)⟩) (fun h => absurd e3 h) (fun h => by rw [e2] at h; exact absurd h (by decide)))
    · exact nonode h1 (fun t => by rw [e1]; exact bset_0 (by omega) ⟨by omega, by omega, by omega, by omega, fun h => by omega⟩) (fun h => absurd e2 h) (fun m hm => by rw [h1] at hm; exact absurd hm (List.not_mem_nil))
    · obtain ⟨b1, b2, b3⟩ := i0 m h1
      have hq : a' < 8388608 := mk_b (by rw [← e1]; exact hw.2.2)
      rw [b2]
      exact l_nd (k := a) (n := m) (kk := 3) (q := (a' : Int)) (st2 := (m : Int)) hS1 (ha2 (by rw [h1]; simp)) b1 b3 ((f1 221 m (by decide) (by decide)).trans e2) ((f1 222 m (by decide) (by decide)).trans e5) (by omega) hf (by rw [if_pos (by decide)]) (fun h => absurd h (by decide)) (fun h => absurd h (by decide)) (fun h => absurd h (by decide)) (fun h => absurd h (by decide)) (fun _ _ _ _ => plain m (m : Int) h1 (fun t => by rw [e1]; exact bset_0 (by decide) ⟨by decide, by decide, by decide, by decide, fun h => absurd h (by decide)⟩) (fun h => absurd e3 h) (fun h => by rw [e2] at h; exact absurd h (by decide)))
end M9u2
