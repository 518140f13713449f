/-! LINES OF THE CLASS -/
def LinC (F : MF) (n : Nat) (X : Nat → List Int) : Prop := Rws (F (n + 1)) (F (n + 2)) X
section M51
variable {F : MF} {n r c : Nat} {X : Nat → List Int}
theorem LinC.fr {F' : MF} {P : Nat → Prop} (h : LinC F n X) (hf : fr P F F') (h1 : ¬ P (n + 1)) (h2 : ¬ P (n + 2)) : LinC F' n X := by
  unfold LinC
  rw [hf _ h1, hf _ h2]
  exact h
theorem q_21 (h : LinC F n X) (hr : r < 24) : g_21 F n (r : Int) = ((X r).length : Int) := by
  unfold g_21
  rw [if_neg (by omega), if_pos (by omega), Int.toNat_natCast]
  exact h.len hr
theorem q_22 (h : LinC F n X) (hr : r < 24) (j : Int) : g_22 F n (r : Int) j = sgnl (X r) j := by
  unfold g_22 sgnl
  rw [if_neg (by omega), if_pos (by omega), Int.toNat_natCast, h.len hr]
  by_cases h1 : j < 0
  · rw [if_pos h1, if_neg (by omega)]
  · rw [if_neg h1]
    by_cases h2 : j < ((X r).length : Int)
    · rw [if_pos h2, if_pos ⟨by omega, h2⟩]
      have e : ((r : Int) * 24 + j).toNat = 24 * r + j.toNat := by omega
      rw [e]
      exact h.at hr (by omega)
    · rw [if_neg h2, if_neg (by omega)]
theorem ob_22 (h : LinC F n X) (hr : r < 24) (j : Int) : o_22 F n (r : Int) j := by
  unfold o_22
  rw [Int.toNat_natCast, h.len hr]
  have hl := h.le hr
  refine ⟨fun _ => trivial, fun _ => ⟨fun _ => ⟨fun _ => trivial, fun h2 => ⟨by omega, ⟨fun h3 => ?_, fun _ => trivial⟩⟩⟩, fun _ => trivial⟩⟩
  have e : ((r : Int) * 24 + j).toNat = 24 * r + j.toNat := by omega
  have h4 := h.at hr (j := j.toNat) (by omega)
  have h5 := h.ch hr (j := j.toNat) (by omega)
  unfold LinC at h
  rw [e, h4]
  exact ⟨by omega, by omega, by omega, by omega, trivial⟩
theorem s_23 {ch : Int} (hn : n ∈ m_I2) (hS : St F) (h : LinC F n X) (hr : r < 24) (hc : c ≤ (X r).length) (hl : (X r).length < 24) (hch : 32 ≤ ch ∧ ch ≤ 126) :
    C_23 n r c ch F (fun F' => LinC F' n (rupd X r (ins (X r) c ch)) ∧ F' (n + 3) = F (n + 3) ∧ fr (fun k => k = n + 1 ∨ k = n + 2) F F') m_no := by
  refine c_23 hn hS ?_
  rw [q_21 h hr]
  refine ⟨fun _ => by omega, fun _ => ⟨fun _ => ⟨fun _ => by omega, fun _ => ⟨fun _ => by omega, fun _ => ⟨fun _ => ?_, fun _ => by omega⟩⟩⟩, fun _ => by omega⟩⟩
  refine ⟨by omega, by omega, by omega, by omega, by omega, by omega, by omega, by omega, by omega, ?_, ?_, ?_⟩
  · have e1 : ((r : Int) * 24 + (c : Int)).toNat = 24 * r + c := by omega
    have e2 : ((r : Int) * 24 + (c : Int) + 1).toNat = 24 * r + c + 1 := by omega
    have e3 : (((X r).length : Int) - (c : Int)).toNat = (X r).length - c := by omega
    rw [e1, e2, e3, Int.toNat_natCast]
    unfold LinC
    refine Rws.set h ((h r hr).2.1.ins hc hl hch) ?_ (fun k hk hne => ?_) (fun j hj => ?_) (fun k hk hne => ?_)
    · rw [u_eq, ins_len hc]; omega
    · rw [u_ne (Or.inr hne), u_ne (Or.inl (by omega)), c_ne (by omega)]
    · rw [ins_len hc] at hj
      rw [u_ne (Or.inl (by omega)), ins_gx hc]
      by_cases h1 : j < c
      · rw [if_pos h1, u_ne (Or.inr (by omega))]
        unfold m_cpy
        rw [if_neg (by omega)]
        exact h.at hr (by omega)
      · rw [if_neg h1]
        by_cases h2 : j = c
        · rw [if_pos h2, h2, u_eq]
        · rw [if_neg h2, u_ne (Or.inr (by omega))]
          unfold m_cpy
          rw [if_pos (by omega), show 24 * r + c + (24 * r + j - (24 * r + c + 1)) = 24 * r + (j - 1) by omega]
          exact h.at hr (by omega)
    · rw [u_ne (Or.inl (by omega)), u_ne (Or.inr (by omega))]
      unfold m_cpy
      rw [if_neg (by omega)]
  · rw [up_row (by omega), up_row (by omega), cp_row (by omega)]
  · exact ((fr.rf.cp (Or.inl rfl)).up (Or.inl rfl)).up (Or.inr rfl)
theorem s_24 (hn : n ∈ m_I2) (hS : St F) (h : LinC F n X) (hr : r < 24) (hc : c < (X r).length) :
    C_24 n r c F (fun x F' => x = gx (X r) c ∧ LinC F' n (rupd X r (del (X r) c)) ∧ fr (fun k => k = n + 1 ∨ k = n + 2) F F') m_no := by
  refine c_24 hn hS ?_
  have hl := h.le hr
  have e1 : ((r : Int) * 24 + (c : Int)).toNat = 24 * r + c := by omega
  have e2 : ((r : Int) * 24 + (c : Int) + 1).toNat = 24 * r + c + 1 := by omega
  have e3 : (((X r).length : Int) - (c : Int) - 1).toNat = (X r).length - c - 1 := by omega
  have hv := h.at hr hc
  have hv2 := h.ch hr hc
  unfold LinC at h
  rw [q_21 h hr, e1, e2, e3, Int.toNat_natCast, hv]
  refine ⟨fun _ => by omega, fun _ => ⟨fun _ => ?_, fun _ => by omega⟩⟩
  refine ⟨by omega, by omega, by omega, by omega, by omega, by omega, by omega, by omega, by omega, by omega, rfl, ?_, ?_⟩
  · unfold LinC
    refine Rws.set h ((h r hr).2.1.del hc) ?_ (fun k hk hne => ?_) (fun j hj => ?_) (fun k hk hne => ?_)
    · rw [u_eq, del_len hc]; omega
    · rw [u_ne (Or.inr hne), c_ne (by omega)]
    · rw [del_len hc] at hj
      rw [u_ne (Or.inl (by omega)), del_gx hc]
      unfold m_cpy
      by_cases h1 : j < c
      · rw [if_pos h1, if_neg (by omega)]
        exact h.at hr (by omega)
      · rw [if_neg h1, if_pos (by omega), show 24 * r + c + 1 + (24 * r + j - (24 * r + c)) = 24 * r + (j + 1) by omega]
        exact h.at hr (by omega)
    · rw [u_ne (Or.inl (by omega))]
      unfold m_cpy
      rw [if_neg (by omega)]
  · exact (fr.rf.cp (Or.inl rfl)).up (Or.inr rfl)
theorem s_25 (hn : n ∈ m_I2) (hS : St F) (h : LinC F n X) (hr : r < 24) :
    C_25 n r F (fun F' => LinC F' n (rupd X r []) ∧ F' (n + 3) = (fun k => if k = r then -1 else F (n + 3) k) ∧ fr (fun k => k = n + 2 ∨ k = n + 3) F F') m_no := by
  refine c_25 hn hS ⟨fun _ => by omega, fun _ => ⟨fun _ => ⟨by omega, by omega, ?_, ?_, ?_⟩, fun _ => by omega⟩⟩
  · rw [Int.toNat_natCast]
    unfold LinC
    refine Rws.set h Rok.nil ?_ (fun k hk hne => ?_) (fun j hj => by cases hj) (fun k hk hne => ?_)
    · rw [u_ne (Or.inl (by omega)), u_eq]; rfl
    · rw [u_ne (Or.inl (by omega)), u_ne (Or.inr hne)]
    · rw [u_ne (Or.inl (by omega)), u_ne (Or.inl (by omega))]
  · rw [Int.toNat_natCast]
    funext k
    unfold m_up
    simp only [true_and]
    rw [if_neg (show ¬ (n + 3 = n + 2 ∧ k = r) by omega)]
  · exact (fr.rf.up (Or.inl rfl)).up (Or.inr rfl)
theorem s_27 {n1 : Nat} {Y : Nat → List Int} {a b : Nat} (hn : n ∈ m_I2) (hn1 : n1 ∈ m_I2) (hS : St F) (h : LinC F n X) (hy : LinC F n1 Y) (ha : a < 24) (hb : b < 24) :
    C_27 n n1 a b F (fun F' => LinC F' n (rupd X b (Y a)) ∧ F' (n + 3) = (fun k => if k = b then F (n1 + 3) a else F (n + 3) k) ∧ fr (fun k => k = n + 1 ∨ k = n + 2 ∨ k = n + 3) F F') m_no := by
  have hd : n1 + 3 ≠ n + 1 ∧ n1 + 3 ≠ n + 2 := by
    unfold m_I2 at hn hn1
    simp only [List.mem_cons, List.not_mem_nil, or_false] at hn hn1
    omega
  refine c_27 hn hn1 hS ⟨fun _ => by omega, fun _ => ⟨fun _ => ⟨fun _ => by omega, fun _ => ⟨fun _ => ?_, fun _ => by omega⟩⟩, fun _ => by omega⟩⟩
  have e1 : ((a : Int) * 24).toNat = 24 * a := by omega
  have e2 : ((b : Int) * 24).toNat = 24 * b := by omega
  rw [e1, e2, Int.toNat_natCast, Int.toNat_natCast, u_ne (Or.inl hd.2), c_ne hd.1]
  refine ⟨by omega, by omega, by omega, by omega, by omega, by omega, by omega, ?_, ?_, ?_⟩
  · unfold LinC
    have hok := (hy a ha).2.1
    have h24 := hok.1
    refine Rws.set h hok ?_ (fun k hk hne => ?_) (fun j hj => ?_) (fun k hk hne => ?_)
    · rw [u_ne (Or.inl (by omega)), u_eq]
      exact hy.len ha
    · rw [u_ne (Or.inl (by omega)), u_ne (Or.inr hne), c_ne (by omega)]
    · rw [u_ne (Or.inl (by omega)), u_ne (Or.inl (by omega))]
      unfold m_cpy
      rw [if_pos (by omega), show 24 * a + (24 * b + j - 24 * b) = 24 * a + j by omega]
      exact hy.at ha hj
    · rw [u_ne (Or.inl (by omega)), u_ne (Or.inl (by omega))]
      unfold m_cpy
      rw [if_neg (by omega)]
  · funext k
    by_cases e : k = b
    · rw [if_pos e, e, u_eq]
    · rw [if_neg e, u_ne (Or.inr e), u_ne (Or.inl (by omega)), c_ne (by omega)]
  · exact ((fr.rf.cp (Or.inl rfl)).up (Or.inr (Or.inl rfl))).up (Or.inr (Or.inr rfl))
theorem s_28 {n1 : Nat} {Y : Nat → List Int} (hn : n ∈ m_I2) (hn1 : n1 ∈ m_I2) (hS : St F) (hy : LinC F n1 Y) :
    C_28 n n1 F (fun F' => LinC F' n Y ∧ fr (fun k => k = n + 1 ∨ k = n + 2) F F') m_no := by
  have hd : n1 + 2 ≠ n + 1 ∧ n + 1 ≠ n + 2 := by
    unfold m_I2 at hn hn1
    simp only [List.mem_cons, List.not_mem_nil, or_false] at hn hn1
    omega
  refine c_28 hn hn1 hS ⟨?_, (fr.rf.cp (Or.inl rfl)).cp (Or.inr rfl)⟩
  unfold LinC
  refine Rws.cong hy (fun k hk => ?_) (fun k hk => ?_)
  · rw [c_ne hd.2]
    unfold m_cpy
    rw [if_pos ⟨rfl, Nat.zero_le _, by simpa using hk⟩]
    simp
  · unfold m_cpy
    rw [if_pos ⟨rfl, Nat.zero_le _, by simpa using hk⟩, if_neg (by omega)]
    simp
theorem l_29 {n1 : Nat} {Y : Nat → List Int} (hn : n ∈ m_I2) (hn1 : n1 ∈ m_I2) (hS : St F) (h : LinC F n X) (hy : LinC F n1 Y) (hr : r < 24) (hlen : (X r).length = (Y r).length) :
    ∀ k j : Nat, j + k = (X r).length → (∀ i, i < j → gx (X r) i = gx (Y r) i) → L_29_22 n n1 r 1 j F (fun x F' => x = (if X r = Y r then (1 : Int) else 0) ∧ F' = F) m_no := by
  intro k
  induction k with
  | zero =>
    intro j hj hi
    refine b_29_22 hn hn1 hS ⟨fun h0 => absurd h0 (by decide), fun _ => ⟨fun h1 => ?_, fun _ => ⟨Or.inr rfl, ?_, rfl⟩⟩⟩
    · rw [q_21 h hr] at h1
      omega
    · rw [if_pos (gx_ext hlen (fun i h2 => hi i (by omega)))]
  | succ k ih =>
    intro j hj hi
    have hl := h.le hr
    refine b_29_22 hn hn1 hS ⟨fun h0 => absurd h0 (by decide), fun _ => ⟨fun h1 => ⟨ob_22 h hr _, ob_22 hy hr _, fun h2 => ⟨by omega, ?_⟩, fun h2 => ⟨by omega, ?_⟩⟩, fun h1 => ?_⟩⟩
    · rw [q_22 h hr, q_22 hy hr, sgn_in (by omega), sgn_in (by omega)] at h2
      refine ih (j + 1) (by omega) (fun i hij => ?_)
      by_cases e : i = j
      · rw [e]; exact h2
      · exact hi i (by omega)
    · rw [q_22 h hr, q_22 hy hr, sgn_in (by omega), sgn_in (by omega)] at h2
      refine b_29_22 hn hn1 hS ⟨fun _ => ⟨Or.inl rfl, ?_, rfl⟩, fun h3 => absurd rfl h3⟩
      rw [if_neg (fun e => h2 (by rw [e]))]
    · rw [q_21 h hr] at h1
      omega
theorem s_29 {n1 : Nat} {Y : Nat → List Int} (hn : n ∈ m_I2) (hn1 : n1 ∈ m_I2) (hS : St F) (h : LinC F n X) (hy : LinC F n1 Y) (hr : r < 24) :
    C_29 n n1 r F (fun x F' => x = (if X r = Y r then (1 : Int) else 0) ∧ F' = F) m_no := by
  refine c_29 hn hn1 hS ⟨fun h1 => ?_, fun h1 => ?_⟩
  · rw [q_21 h hr, q_21 hy hr] at h1
    exact l_29 hn hn1 hS h hy hr (by omega) (X r).length 0 (by omega) (fun i hi => absurd hi (by omega))
  · rw [q_21 h hr, q_21 hy hr] at h1
    refine b_29_22 hn hn1 hS ⟨fun _ => ⟨Or.inl rfl, ?_, rfl⟩, fun h3 => absurd rfl h3⟩
    rw [if_neg (fun e => h1 (by rw [e]))]
end M51
