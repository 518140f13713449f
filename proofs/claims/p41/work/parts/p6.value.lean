/-! VALUE: what a function gives, by lines -/
abbrev VN : Type := Int → Int → Int → Int → Int → (Nat → Int) → Int
def vup (v : Nat → Int) (i : Nat) (x : Int) : Nat → Int := fun j => if j = i then x else v j
def vq (kd o t : Int) (v : Nat → Int) : Int := if kd = 6 then v o.toNat else if kd = 7 then w64 ((if t < 0 then 0 else v t.toNat) * 2) else if v o.toNat = (if t < 0 then 0 else v t.toNat) then 1 else 0
def v249 (kd fi o t oa ta dn : Int) (v : Nat → Int) (N : VN) : Int :=
  if kd = 4 then N o (fi + 1) oa ta dn (vup v (fi + 1).toNat (if dn = 0 then 0 else w64 (v o.toNat + 1)))
  else if kd = 20 then N o (fi + 1) oa ta dn (vup v (fi + 1).toNat (if dn = 0 then 0 else 1))
  else if kd = 5 then N (fi + 1) t oa ta dn (vup v (fi + 1).toNat (if dn = 0 then 0 else 2))
  else if kd = 10 then N o t oa ta dn (vup v o.toNat (w64 (v o.toNat - (if dn = 0 then 0 else 1))))
  else N o t oa ta dn v
def v144 (kd fi o t oa ta dn : Int) (v : Nat → Int) (N : VN) : Int :=
  if dn = 0 then (if kd = 3 then v249 kd fi o t oa ta 1 v N else v249 kd fi o t oa ta 0 v N)
  else if kd = 6 ∨ kd = 7 ∨ kd = 16 then vq kd o t v else v249 kd fi o t oa ta 1 v N
def v91 (kd fi o t dn : Int) (v : Nat → Int) (N : VN) : Int := v144 kd fi o t o t (if kd = 8 then (if v o.toNat < 3 then 1 else 0) else if kd = 22 then 1 else if dn = 0 then 1 else 0) v N
def v27 (kd fi o t oa ta dn : Int) (v : Nat → Int) (N : VN) : Int :=
  if kd = 9 then v91 kd fi oa ta dn v N else if kd = 3 then v144 kd fi oa ta oa ta dn v N else if kd = 8 ∨ kd = 22 then v91 kd fi o t dn v N else v144 kd fi o t oa ta dn v N
def vl (f : Nat → Int) : Nat → Nat → VN
  | 0, _ => fun _ _ _ _ _ _ => 0
  | d + 1, n => fun o t oa ta dn v => v27 (f n) (f (8 + n)) o t oa ta dn v (vl f d (n + 1))
theorem m_upv {F : MF} {a i : Nat} {x : Int} : m_up F a i x a = vup (F a) i x := m_upr
section Mp6
variable {D : Nat → Prop} {nc ns : Nat} {F F0 : MF} {kd fi o t oa ta dn RES : Int} {n : Nat} {N : VN}
abbrev RV (F0 : MF) (RES : Int) : Int → MF → Prop := fun r F' => r = RES ∧ ∀ c, c ≠ 213 → F' c = F0 c
/-- what holds where a line begins -/
def HN (D : Nat → Prop) (nc ns : Nat) (F0 : MF) (RES : Int) (N : VN) (n : Nat) : Prop := ∀ (o t oa ta dn : Int) (F1 : MF), St F1 → (∀ c, c ≠ 213 → F1 c = F0 c) → (0 ≤ o ∧ o < 60) ∧ t < 60 → (0 ≤ oa ∧ oa < 60) ∧ ta < 60 → dn = 0 ∨ dn = 1 → N o t oa ta dn (F1 213) = RES → L_390_27 D nc ns 209 213 o t oa ta dn ((n : Int) + 1) F1 (RV F0 RES)
theorem l_v249 (hN : HN D nc ns F0 RES N n) (hS : St F) (hO : ∀ c, c ≠ 213 → F c = F0 c) (hn : n < 100) (h1 : (0 ≤ o ∧ o < 60) ∧ t < 60) (h2 : (0 ≤ oa ∧ oa < 60) ∧ ta < 60) (hd : dn = 0 ∨ dn = 1) (hfi : 0 ≤ fi ∧ fi < 58) (h : v249 kd fi o t oa ta dn (F 213) N = RES) :
    L_390_249 D nc ns 209 213 o t oa ta dn (n : Int) kd fi F (RV F0 RES) := by
  have up : ∀ (o' t' : Int) (i : Nat) (x : Int), (0 ≤ o' ∧ o' < 60) ∧ t' < 60 → N o' t' oa ta dn (vup (F 213) i x) = RES → L_390_27 D nc ns 209 213 o' t' oa ta dn ((n : Int) + 1) (m_up F 213 i x) (RV F0 RES) := fun o' t' i x h3 h4 =>
    hN _ _ _ _ _ _ (St.arr hS kd_213 (by decide)) (fun c hc => by rw [up_row hc]; exact hO c hc) h3 h2 hd (by rw [m_upv]; exact h4)
  unfold v249 at h
  refine b_390_249 kd_209 kd_213 hS ⟨fun k4 => ?_, fun k4 => ⟨fun k20 => ?_, fun k20 => ⟨fun k5 => ⟨⟨by omega, by omega⟩, fun d0 => ⟨⟨by omega, by omega⟩, ⟨by omega, by omega⟩, ?_⟩, fun d0 => ⟨⟨by omega, by omega⟩, ⟨by omega, by omega⟩, ?_⟩⟩, fun k5 => ⟨fun k10 => ⟨⟨by omega, by omega⟩, fun d0 => ⟨⟨by omega, by omega⟩, ⟨by omega, by omega⟩, ?_⟩, fun d0 => ⟨⟨by omega, by omega⟩, ⟨by omega, by omega⟩, ?_⟩⟩, fun k10 => ⟨⟨by omega, by omega⟩, ?_⟩⟩⟩⟩⟩
  · rw [if_pos k4] at h
    refine b_390_262 kd_209 kd_213 hS ⟨⟨by omega, by omega⟩, fun d0 => ⟨⟨by omega, by omega⟩, ⟨by omega, by omega⟩, ?_⟩, fun d0 => ⟨fun k20 => by omega, fun _ => ⟨⟨by omega, by omega⟩, ⟨by omega, by omega⟩, ⟨by omega, by omega⟩, ?_⟩⟩⟩
    · rw [if_pos d0] at h
      exact up _ _ _ _ ⟨h1.1, by omega⟩ h
    · rw [if_neg d0] at h
      exact up _ _ _ _ ⟨h1.1, by omega⟩ h
  · rw [if_neg k4, if_pos k20] at h
    refine b_390_262 kd_209 kd_213 hS ⟨⟨by omega, by omega⟩, fun d0 => ⟨⟨by omega, by omega⟩, ⟨by omega, by omega⟩, ?_⟩, fun d0 => ⟨fun _ => ⟨⟨by omega, by omega⟩, ⟨by omega, by omega⟩, ?_⟩, fun c => absurd k20 c⟩⟩
    · rw [if_pos d0] at h
      exact up _ _ _ _ ⟨h1.1, by omega⟩ h
    · rw [if_neg d0] at h
      exact up _ _ _ _ ⟨h1.1, by omega⟩ h
  · rw [if_neg k4, if_neg k20, if_pos k5, if_pos d0] at h
    exact up _ _ _ _ ⟨⟨by omega, by omega⟩, h1.2⟩ h
  · rw [if_neg k4, if_neg k20, if_pos k5, if_neg d0] at h
    exact up _ _ _ _ ⟨⟨by omega, by omega⟩, h1.2⟩ h
  · rw [if_neg k4, if_neg k20, if_neg k5, if_pos k10, if_pos d0] at h
    exact up _ _ _ _ h1 h
  · rw [if_neg k4, if_neg k20, if_neg k5, if_pos k10, if_neg d0] at h
    exact up _ _ _ _ h1 h
  · rw [if_neg k4, if_neg k20, if_neg k5, if_neg k10] at h
    exact hN _ _ _ _ _ _ hS hO h1 h2 hd h
theorem cz2 {x c : Int} : ((if x < c then (-1 : Int) else if x = c then 0 else 1) < 0) ↔ x < c := by
  constructor
  · intro h
    by_cases e : x < c
    · exact e
    · rw [if_neg e] at h
      split at h <;> omega
  · intro h
    rw [if_pos h]
    decide
theorem l_v188 (hS : St F) (hO : ∀ c, c ≠ 213 → F c = F0 c) (h1 : (0 ≤ o ∧ o < 60) ∧ t < 60) (hk : kd = 6 ∨ kd = 7 ∨ kd = 16) (h : vq kd o t (F 213) = RES) : L_390_188 D nc ns 213 o t kd F (RV F0 RES) := by
  unfold vq at h
  refine b_390_188 kd_213 hS ⟨fun t0 => ?_, fun t0 => ⟨⟨by omega, by omega⟩, ?_⟩⟩
  · simp only [if_pos t0] at h
    refine ⟨fun k6 => ⟨⟨by omega, by omega⟩, ?_⟩, fun k6 => ⟨fun k7 => ?_, fun k7 => ⟨⟨by omega, by omega⟩, fun e => ?_, fun e => ?_⟩⟩⟩
    · rw [if_pos k6] at h
      exact ⟨h, hO⟩
    · rw [if_neg k6, if_pos k7] at h
      exact ⟨h, hO⟩
    · rw [if_neg k6, if_neg k7, if_pos (cz.mp e)] at h
      exact ⟨h, hO⟩
    · rw [if_neg k6, if_neg k7, if_neg (fun e2 => e (cz.mpr e2))] at h
      exact ⟨h, hO⟩
  · simp only [if_neg t0] at h
    refine ⟨fun k6 => ⟨⟨by omega, by omega⟩, ?_⟩, fun k6 => ⟨fun k7 => ?_, fun k7 => ⟨⟨by omega, by omega⟩, fun e => ?_, fun e => ?_⟩⟩⟩
    · rw [if_pos k6] at h
      exact ⟨h, hO⟩
    · rw [if_neg k6, if_pos k7] at h
      exact ⟨h, hO⟩
    · rw [if_neg k6, if_neg k7, if_pos (cz.mp e)] at h
      exact ⟨h, hO⟩
    · rw [if_neg k6, if_neg k7, if_neg (fun e2 => e (cz.mpr e2))] at h
      exact ⟨h, hO⟩
theorem l_v144 (hN : HN D nc ns F0 RES N n) (hS : St F) (hO : ∀ c, c ≠ 213 → F c = F0 c) (hn : n < 100) (h1 : (0 ≤ o ∧ o < 60) ∧ t < 60) (h2 : (0 ≤ oa ∧ oa < 60) ∧ ta < 60) (hfi : 0 ≤ fi ∧ fi < 58) (h : v144 kd fi o t oa ta dn (F 213) N = RES) :
    L_390_144 D nc ns 209 213 o t oa ta dn (n : Int) kd fi F (RV F0 RES) := by
  unfold v144 at h
  refine b_390_144 kd_209 kd_213 hS ⟨fun d0 => ⟨fun k3 => ⟨fun k6 => by omega, fun k6 => ⟨fun k7 => by omega, fun k7 => ⟨fun k16 => by omega, fun k16 => ?_⟩⟩⟩, fun k3 => ?_⟩, fun d0 => ⟨fun k6 => ?_, fun k6 => ⟨fun k7 => ?_, fun k7 => ⟨fun k16 => ?_, fun k16 => ?_⟩⟩⟩⟩
  · rw [if_pos d0, if_pos k3] at h
    exact l_v249 hN hS hO hn h1 h2 (Or.inr rfl) hfi h
  · rw [if_pos d0, if_neg k3] at h
    exact l_v249 hN hS hO hn h1 h2 (Or.inl rfl) hfi h
  · rw [if_neg d0, if_pos (Or.inl k6)] at h
    exact l_v188 hS hO h1 (Or.inl k6) h
  · rw [if_neg d0, if_pos (Or.inr (Or.inl k7))] at h
    exact l_v188 hS hO h1 (Or.inr (Or.inl k7)) h
  · rw [if_neg d0, if_pos (Or.inr (Or.inr k16))] at h
    exact l_v188 hS hO h1 (Or.inr (Or.inr k16)) h
  · rw [if_neg d0, if_neg (by omega)] at h
    exact l_v249 hN hS hO hn h1 h2 (Or.inr rfl) hfi h
theorem l_v91 (hN : HN D nc ns F0 RES N n) (hS : St F) (hO : ∀ c, c ≠ 213 → F c = F0 c) (hn : n < 100) (h1 : (0 ≤ o ∧ o < 60) ∧ t < 60) (hfi : 0 ≤ fi ∧ fi < 58) (h : v91 kd fi o t dn (F 213) N = RES) :
    L_390_91 D nc ns 209 213 o t dn (n : Int) kd fi F (RV F0 RES) := by
  unfold v91 at h
  refine b_390_91 kd_209 kd_213 hS ⟨fun k8 => ⟨⟨by omega, by omega⟩, fun e => ?_, fun e => ?_⟩, fun k8 => ⟨fun k22 => ?_, fun k22 => ⟨fun d0 => ?_, fun d0 => ?_⟩⟩⟩
  · rw [if_pos k8, if_pos (cz2.mp e)] at h
    exact l_v144 hN hS hO hn h1 h1 hfi h
  · rw [if_pos k8, if_neg (fun e2 => e (cz2.mpr e2))] at h
    exact l_v144 hN hS hO hn h1 h1 hfi h
  · rw [if_neg k8, if_pos k22] at h
    exact l_v144 hN hS hO hn h1 h1 hfi h
  · rw [if_neg k8, if_neg k22, if_pos d0] at h
    exact l_v144 hN hS hO hn h1 h1 hfi h
  · rw [if_neg k8, if_neg k22, if_neg d0] at h
    exact l_v144 hN hS hO hn h1 h1 hfi h
theorem l_v27 (hf : ∀ i, i < 8 → 0 ≤ F0 209 (8 + i) ∧ F0 209 (8 + i) < 58) : ∀ (d n : Nat) (o t oa ta dn : Int) (F : MF), n + d = 8 → St F → (∀ c, c ≠ 213 → F c = F0 c) → (0 ≤ o ∧ o < 60) ∧ t < 60 → (0 ≤ oa ∧ oa < 60) ∧ ta < 60 → dn = 0 ∨ dn = 1 → vl (F0 209) d n o t oa ta dn (F 213) = RES →
    L_390_27 D nc ns 209 213 o t oa ta dn (n : Int) F (RV F0 RES) := by
  intro d
  induction d with
  | zero =>
    intro n o t oa ta dn F e hS hO h1 h2 hd h
    exact b_390_27 kd_209 kd_213 hS ⟨fun h3 => by omega, fun _ => ⟨h, hO⟩⟩
  | succ d ih =>
    intro n o t oa ta dn F e hS hO h1 h2 hd h
    have hN : HN D nc ns F0 RES (vl (F0 209) d (n + 1)) n := fun o' t' oa' ta' dn' F1 hS1 hO1 h3 h4 h5 h6 => by
      have := ih (n + 1) o' t' oa' ta' dn' F1 (by omega) hS1 hO1 h3 h4 h5 h6
      rw [show ((n + 1 : Nat) : Int) = (n : Int) + 1 by omega] at this
      exact this
    have hfi := hf n (by omega)
    have e1 : F 209 = F0 209 := hO 209 (by decide)
    have h : v27 (F0 209 n) (F0 209 (8 + n)) o t oa ta dn (F 213) (vl (F0 209) d (n + 1)) = RES := h
    unfold v27 at h
    refine b_390_27 kd_209 kd_213 hS ?_
    rw [show (8 + (n : Int)).toNat = 8 + n by omega, Int.toNat_natCast, e1]
    generalize F0 209 n = kd at h
    generalize F0 209 (8 + n) = fi at h hfi
    refine ⟨fun _ => ⟨⟨by omega, by omega⟩, ⟨by omega, by omega⟩, ⟨by omega, by omega⟩, fun k9 => ⟨fun k8 => by omega, fun k8 => ?_⟩, fun k9 => ⟨fun k3 => ⟨fun k8 => by omega, fun k8 => ⟨fun k22 => by omega, fun k22 => ?_⟩⟩, fun k3 => ⟨fun k8 => ?_, fun k8 => ⟨fun k22 => ?_, fun k22 => ?_⟩⟩⟩⟩, fun h3 => by omega⟩
    · rw [if_pos k9] at h
      exact l_v91 hN hS hO (by omega) h2 hfi h
    · rw [if_neg k9, if_pos k3] at h
      exact l_v144 hN hS hO (by omega) h2 h2 hfi h
    · rw [if_neg k9, if_neg k3, if_pos (Or.inl k8)] at h
      exact l_v91 hN hS hO (by omega) h1 hfi h
    · rw [if_neg k9, if_neg k3, if_pos (Or.inr k22)] at h
      exact l_v91 hN hS hO (by omega) h1 hfi h
    · rw [if_neg k9, if_neg k3, if_neg (by omega)] at h
      exact l_v144 hN hS hO (by omega) h1 h2 hfi h
/-- what the law reckons for a value -/
def vof (f : Nat → Int) (x : Int) : Int := vl f 7 1 3 (-1) 3 (-1) 1 (vup (fun _ => 0) 3 x)
end Mp6
theorem Q_390_0 : At 390 0 [some (.bipush 60, 0, 0, 0, 0), none, some (.newarray .long, 0, 0, 0, 0), none, some (.astore_n 3, 0, 0, 0, 0)] := At.of (by decide +kernel)
theorem s_390 {D : Nat → Prop} {F : MF} {x : Int} (hD : ¬ D 213) (hS : St F) (hf : ∀ i, i < 8 → 0 ≤ F 209 (8 + i) ∧ F 209 (8 + i) < 58) : CaWL D 1 60 390 [m_r 209, (1, x)] F (fun r F' => r = vof (F 209) x ∧ ∀ c, c ≠ 213 → F' c = F c) := by
  unfold CaWL
  rw [ml_390]
  show Wv D 1 60 390 0 [some (m_r 209), some ((1, x)), none, none, none, none, none, none, none, none, none, none, none, none] [] F _
  have hA := Q_390_0
  refine wv_ok (pc' := 2) (ls' := [some (m_r 209), some ((1, x)), none, none, none, none, none, none, none, none, none, none, none, none]) (st' := [(0, 60)]) hA.hd (fun c s => rfl) ?_
  have hA := hA.tl2
  refine wv_new (nc := 0) (ns := 0) (b := 213) (n := 60) (kd := 101) (z := 60) (r := []) hA.hd (nw_long (n := 60) rfl (by decide)) hD kd_213 (by decide) (fun o F1 h => ?_) ?_
  · rcases h with ⟨_, ⟨r, e1, h1, h2⟩ | ⟨_, _, h⟩⟩
    · rw [e1]
      exact ⟨gs_c.mpr ⟨gv_n (by decide), gs_nil⟩, fun a ha => h2 a (fun e => hD (by rw [← e]; exact ha))⟩
    · exact h.elim
  have hA := hA.tl2
  refine wv_ok (pc' := 5) (ls' := [some (m_r 209), some ((1, x)), none, some (m_r 213), none, none, none, none, none, none, none, none, none, none]) (st' := []) hA.hd (fun c s => rfl) ?_
  refine b_390_5 kd_209 kd_213 (St.zer hS (by decide)) ⟨⟨by decide, by decide⟩, ?_⟩
  refine l_v27 (F0 := F) (RES := vof (F 209) x) hf 7 1 _ _ _ _ _ _ rfl (St.arr (St.zer hS (by decide)) kd_213 (by decide)) (fun c hc => by rw [up_row hc, m_z_row hc]) ⟨⟨by decide, by decide⟩, by decide⟩ ⟨⟨by decide, by decide⟩, by decide⟩ (Or.inr rfl) ?_
  rw [m_upv, show m_z F 213 213 = fun _ => 0 from funext fun i => m_z_eq]
  rfl
