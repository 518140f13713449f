/-! A FUNCTION OF ONE ROW OF STATEMENTS: it is built line by line -/
def yk (z : Nat) : Nat → Nat
  | 0 => z / 3
  | n + 1 => yk z n / 7
def pkd (z n p : Nat) : Nat := if p = 0 then 4 else if p = 1 then 5 else if p = 2 then 10 else if p = 3 then 20 else if p = 4 then 4 else if n < 4 then 10 else if p = 5 then 7 else if z % 2 = 0 then 6 else 16
abbrev isf (z n : Nat) : Prop := (0 < z % 3 ∧ (n = 2 ∨ n = 6)) ∨ (z % 3 = 1 ∧ n = 4)
/-- the kind of a line: the fragment that stands there -/
def kdz (z n : Nat) : Nat := if n = 0 then 0 else if n = 7 ∨ (n = 6 ∧ 0 < z % 3) then 3 else if isf z n then (if n = 4 then 9 else if z % 3 = 1 then 8 else 22) else pkd z n (yk z n % 7)
def tkn (k : Nat) : Nat := if k = 0 then 6 else if k = 10 then 6 else if k = 20 then 6 else if k = 4 then 7 else if k = 3 then 1 else if k = 6 then 3 else if k = 9 then 3 else 5
def tkz (k : Nat) : Nat := if k = 22 then 1 else tkn k
/-- the token with which a line begins -/
def fsz (z : Nat) : Nat → Nat
  | 0 => 0
  | n + 1 => fsz z n + tkz (kdz z n)
/-- the rows after n lines -/
def XZ (z n : Nat) : Nat → List Int := fun r => if r < n then ptx (kdz z r) else []
theorem kdz_lt {z n : Nat} : kdz z n < 23 := by
  unfold kdz pkd
  (repeat' split) <;> omega
theorem tkz_le {k : Nat} : tkz k ≤ 7 := by
  unfold tkz tkn
  (repeat' split) <;> omega
theorem fsz_le {z : Nat} : ∀ n, fsz z n ≤ 7 * n
  | 0 => Nat.le_refl _
  | n + 1 => by
    have h1 := fsz_le (z := z) n
    have h2 := tkz_le (k := kdz z n)
    show fsz z n + tkz (kdz z n) ≤ 7 * (n + 1)
    omega
theorem ptx_pos : ∀ k, k < 24 → 0 < (ptx k).length := by decide +kernel
theorem XZ_step {z n : Nat} : rupd (XZ z n) n (ptx (kdz z n)) = XZ z (n + 1) := by
  funext r
  unfold rupd XZ
  by_cases c : r = n
  · rw [if_pos c, if_pos (by omega), c]
  · rw [if_neg c]
    by_cases c2 : r < n
    · rw [if_pos c2, if_pos (by omega)]
    · rw [if_neg c2, if_neg (by omega)]
section Mp7
variable {D : Nat → Prop} {nc ns n z : Nat} {F F0 G : MF} {d : Bool} {e : Int} {R : Int → MF → Prop}
theorem p_143 (hn : n < 8) (hS : St F) (hK : KC F (XZ z n) (fun _ => []) [] [] d e) : C_143 0 (n : Int) (kdz z n : Int) F (fun r F' => 0 < r ∧ (∃ d1 e1, KC F' (XZ z (n + 1)) (fun _ => []) [] [] d1 e1) ∧ Cn F F') m_no := by
  have hk := kdz_lt (z := z) (n := n)
  have e0 : XZ z n n = [] := if_neg (Nat.lt_irrefl n)
  have e8 : rw8 0 (n : Int) = n := by unfold rw8; omega
  have hp := ptx_len (kdz z n) (by omega)
  have ek : kPa (XZ z n) 0 (n : Int) (kdz z n : Int) = 0 := by
    unfold kPa
    rw [pif_1 ⟨0, n, by decide, hn, rfl, rfl⟩, pif_1 (by omega), e8, e0, Int.toNat_natCast]
    exact pif_1 (by rw [List.length_nil]; omega)
  have h := f_143 (x1 := 0) (x2 := (n : Int)) (x3 := (kdz z n : Int)) hS hK
  refine EvI.mono h ?_ ?_
  · rintro r F1 hS1 ⟨h1, h2, h3, h4⟩
    rw [e8, e0, Int.toNat_natCast, List.length_nil] at h2
    have hq := ptx_pos (kdz z n) (by omega)
    have ex : xPa (XZ z n) 0 (n : Int) (kdz z n : Int) = XZ z (n + 1) := by
      unfold xPa
      rw [e8, e0, Int.toNat_natCast, List.nil_append]
      exact XZ_step
    rw [ex] at h3
    exact ⟨by omega, ⟨_, _, h3⟩, h4⟩
  · rintro t F1 hS1 ⟨h1, -, -⟩
    rw [ek] at h1
    have h1 : (0 : Int) = (t : Int) + 1 := h1
    omega
/-- the kind is chosen -/
theorem l_47 (hn : n < 8) (hz : z < 2147483648) (hy : yk z n < 2147483648) (hS : St F) (H : L_389_262 D nc ns (z : Int) 209 210 211 212 ((z % 3 : Nat) : Int) (yk z (n + 1) : Int) (fsz z n : Int) (n : Int) (kdz z n : Int) F R) :
    L_389_47 D nc ns (z : Int) 209 210 211 212 ((z % 3 : Nat) : Int) (yk z n : Int) (fsz z n : Int) 1 (n : Int) F R := by
  have H0 : ∀ v : Int, v = (kdz z n : Int) → L_389_262 D nc ns (z : Int) 209 210 211 212 ((z % 3 : Nat) : Int) (yk z (n + 1) : Int) (fsz z n : Int) (n : Int) v F R := fun v hv => by rw [hv]; exact H
  have e1 : (yk z n : Int) % 7 = ((yk z n % 7 : Nat) : Int) := by omega
  have e2 : (yk z n : Int) / 7 = (yk z (n + 1) : Int) := by
    show (yk z n : Int) / 7 = ((yk z n / 7 : Nat) : Int)
    omega
  have hz2 : (z : Int) % 2 = ((z % 2 : Nat) : Int) := by omega
  have hz3 : ((z % 3 : Nat) : Int) = (z : Int) % 3 := by omega
  generalize hp : yk z n % 7 = p at e1
  have k0 : n = 0 → kdz z n = 0 := fun h => by unfold kdz; rw [if_pos h]
  have k3 : n ≠ 0 → (n = 7 ∨ (n = 6 ∧ 0 < z % 3)) → kdz z n = 3 := fun h h2 => by unfold kdz; rw [if_neg h, if_pos h2]
  have ki : n ≠ 0 → ¬ (n = 7 ∨ (n = 6 ∧ 0 < z % 3)) → isf z n → kdz z n = if n = 4 then 9 else if z % 3 = 1 then 8 else 22 := fun h h2 h3 => by unfold kdz; rw [if_neg h, if_neg h2, if_pos h3]
  have kp : n ≠ 0 → ¬ (n = 7 ∨ (n = 6 ∧ 0 < z % 3)) → ¬ isf z n → kdz z n = pkd z n p := fun h h2 h3 => by unfold kdz; rw [if_neg h, if_neg h2, if_neg h3, hp]
  have c142a : n ≠ 0 → ¬ (n = 7 ∨ (n = 6 ∧ 0 < z % 3)) → isf z n → L_389_142 D nc ns (z : Int) 209 210 211 212 ((z % 3 : Nat) : Int) (yk z (n + 1) : Int) (fsz z n : Int) (n : Int) (p : Int) 1 F R := fun h1 h2 h3 => by
    have hk := ki h1 h2 h3
    refine b_389_142 kd_209 kd_210 kd_211 kd_212 hS ⟨fun h => absurd h (by decide), fun _ => ⟨fun h4 => H0 _ ?_, fun h4 => ⟨fun f1 => H0 _ ?_, fun f1 => H0 _ ?_⟩⟩⟩
    · rw [hk, if_pos (by omega)]; rfl
    · rw [hk, if_neg (by omega), if_pos (by omega)]; rfl
    · rw [hk, if_neg (by omega), if_neg (by omega)]; rfl
  have c142b : n ≠ 0 → ¬ (n = 7 ∨ (n = 6 ∧ 0 < z % 3)) → ¬ isf z n → L_389_142 D nc ns (z : Int) 209 210 211 212 ((z % 3 : Nat) : Int) (yk z (n + 1) : Int) (fsz z n : Int) (n : Int) (p : Int) 0 F R := fun h1 h2 h3 => by
    have hk := kp h1 h2 h3
    unfold pkd at hk
    refine b_389_142 kd_209 kd_210 kd_211 kd_212 hS ⟨fun _ => ⟨fun q0 => H0 _ ?_, fun q0 => ⟨fun q1 => H0 _ ?_, fun q1 => ⟨fun q2 => H0 _ ?_, fun q2 => ⟨fun q3 => H0 _ ?_, fun q3 => ⟨fun q4 => H0 _ ?_, fun q4 => ⟨fun n4 => H0 _ ?_, fun n4 => ⟨fun q5 => H0 _ ?_, fun q5 => ⟨⟨by omega, by decide⟩, fun x2 => H0 _ ?_, fun x2 => H0 _ ?_⟩⟩⟩⟩⟩⟩⟩⟩, fun h => absurd rfl h⟩
    · rw [hk, if_pos (by omega)]; rfl
    · rw [hk, if_neg (by omega), if_pos (by omega)]; rfl
    · rw [hk, if_neg (by omega), if_neg (by omega), if_pos (by omega)]; rfl
    · rw [hk, if_neg (by omega), if_neg (by omega), if_neg (by omega), if_pos (by omega)]; rfl
    · rw [hk, if_neg (by omega), if_neg (by omega), if_neg (by omega), if_neg (by omega), if_pos (by omega)]; rfl
    · rw [hk, if_neg (by omega), if_neg (by omega), if_neg (by omega), if_neg (by omega), if_neg (by omega), if_pos (by omega)]; rfl
    · rw [hk, if_neg (by omega), if_neg (by omega), if_neg (by omega), if_neg (by omega), if_neg (by omega), if_neg (by omega), if_pos (by omega)]; rfl
    · rw [hk, if_neg (by omega), if_neg (by omega), if_neg (by omega), if_neg (by omega), if_neg (by omega), if_neg (by omega), if_neg (by omega), if_pos (by omega)]; rfl
    · rw [hk, if_neg (by omega), if_neg (by omega), if_neg (by omega), if_neg (by omega), if_neg (by omega), if_neg (by omega), if_neg (by omega), if_neg (by omega)]; rfl
  have c103 : isf z n → L_389_103 D nc ns (z : Int) 209 210 211 212 ((z % 3 : Nat) : Int) (yk z (n + 1) : Int) (fsz z n : Int) (n : Int) (p : Int) F R := fun h3 =>
    b_389_103 kd_209 kd_210 kd_211 kd_212 hS ⟨fun h0 => H0 _ (by rw [k0 (by omega)]; rfl), fun h0 => ⟨fun h7 => b_389_138 kd_209 kd_210 kd_211 kd_212 hS (H0 _ (by rw [k3 (by omega) (Or.inl (by omega))]; rfl)), fun h7 => ⟨fun h6 => ⟨fun f0 => b_389_138 kd_209 kd_210 kd_211 kd_212 hS (H0 _ (by rw [k3 (by omega) (Or.inr ⟨by omega, by omega⟩)]; rfl)), fun f0 => c142a (by omega) (by omega) h3⟩, fun h6 => c142a (by omega) (by omega) h3⟩⟩⟩
  have c107 : ¬ isf z n → L_389_107 D nc ns (z : Int) 209 210 211 212 ((z % 3 : Nat) : Int) (yk z (n + 1) : Int) (fsz z n : Int) (n : Int) (p : Int) F R := fun h3 =>
    b_389_107 kd_209 kd_210 kd_211 kd_212 hS ⟨fun h0 => H0 _ (by rw [k0 (by omega)]; rfl), fun h0 => ⟨fun h7 => b_389_138 kd_209 kd_210 kd_211 kd_212 hS (H0 _ (by rw [k3 (by omega) (Or.inl (by omega))]; rfl)), fun h7 => ⟨fun h6 => ⟨fun f0 => b_389_138 kd_209 kd_210 kd_211 kd_212 hS (H0 _ (by rw [k3 (by omega) (Or.inr ⟨by omega, by omega⟩)]; rfl)), fun f0 => c142b (by omega) (by omega) h3⟩, fun h6 => c142b (by omega) (by omega) h3⟩⟩⟩
  refine b_389_47 kd_209 kd_210 kd_211 kd_212 hS ⟨fun _ => ⟨fun h => absurd h (by decide), fun _ => ⟨⟨by omega, by decide⟩, ⟨by omega, by omega, by decide⟩, ?_⟩⟩, fun h => by omega⟩
  rw [e1, e2]
  have hi : isf z n ↔ (0 < z % 3 ∧ (n = 2 ∨ n = 6)) ∨ (z % 3 = 1 ∧ n = 4) := Iff.rfl
  refine ⟨fun f0 => ⟨fun n2 => c103 (hi.mpr (by omega)), fun n2 => ⟨fun n6 => c103 (hi.mpr (by omega)), fun n6 => ⟨fun f1 => ⟨fun n4 => c103 (hi.mpr (by omega)), fun n4 => c107 (fun h => by have := hi.mp h; omega)⟩, fun f1 => c107 (fun h => by have := hi.mp h; omega)⟩⟩⟩, fun f0 => ⟨fun f1 => ⟨fun n4 => c103 (hi.mpr (by omega)), fun n4 => c107 (fun h => by have := hi.mp h; omega)⟩, fun f1 => c107 (fun h => by have := hi.mp h; omega)⟩⟩
theorem g_210n {k : Nat} : g_210 F (k : Int) = (tkn k : Int) := by
  unfold g_210 tkn
  (repeat' split) <;> first | rfl | omega
/-- what stands after n lines -/
def BZ (F0 : MF) (z n : Nat) (F : MF) : Prop := St F ∧ (∃ d e, KC F (XZ z n) (fun _ => []) [] [] d e) ∧ (∀ i, i < n → F 209 i = (kdz z i : Int) ∧ F 209 (8 + i) = (fsz z i : Int)) ∧ ∀ c, 201 ≤ c → c ≠ 209 → F c = F0 c
theorem l_262z (hn : n < 8) (h : BZ F0 z n F) (hN : ∀ F1, BZ F0 z (n + 1) F1 → L_389_47 D nc ns (z : Int) 209 210 211 212 ((z % 3 : Nat) : Int) (yk z (n + 1) : Int) (fsz z (n + 1) : Int) 1 ((n + 1 : Nat) : Int) F1 R) :
    L_389_262 D nc ns (z : Int) 209 210 211 212 ((z % 3 : Nat) : Int) (yk z (n + 1) : Int) (fsz z n : Int) (n : Int) (kdz z n : Int) F R := by
  obtain ⟨hS, ⟨d, e, hK⟩, h3, h4⟩ := h
  have hf := fsz_le (z := z) n
  have ht := tkz_le (k := kdz z n)
  have hfs : fsz z (n + 1) = fsz z n + tkz (kdz z n) := rfl
  have hS2 : St (m_up (m_up F 209 n (kdz z n : Int)) 209 (8 + n) (fsz z n : Int)) := St.arr (St.arr hS kd_209 (by decide)) kd_209 (by decide)
  have hc : ∀ c, c ≠ 209 → m_up (m_up F 209 n (kdz z n : Int)) 209 (8 + n) (fsz z n : Int) c = F c := fun c hc => by rw [up_row hc, up_row hc]
  have paste : ∀ v : Int, v = (fsz z (n + 1) : Int) → C_143 0 (n : Int) (kdz z n : Int) (m_up (m_up F 209 n (kdz z n : Int)) 209 (8 + n) (fsz z n : Int)) (fun r F28 => ((0 < r → (-2147483648 ≤ ((n : Int) + 1) ∧ ((n : Int) + 1) < 2147483648) ∧ L_389_47 D nc ns (z : Int) 209 210 211 212 ((z % 3 : Nat) : Int) (yk z (n + 1) : Int) v 1 ((n : Int) + 1) F28 R) ∧ (¬ (0 < r) → (-2147483648 ≤ ((n : Int) + 1) ∧ ((n : Int) + 1) < 2147483648) ∧ L_389_47 D nc ns (z : Int) 209 210 211 212 ((z % 3 : Nat) : Int) (yk z (n + 1) : Int) v 0 ((n : Int) + 1) F28 R))) m_no := by
    rintro v rfl
    refine CaI.on (p_143 hn hS2 (hK.lo (fun c hc2 => hc c (by omega)))) ?_
    rintro r F1 hS1 ⟨h5, h6, h7⟩
    refine ⟨fun _ => ⟨⟨by omega, by omega⟩, hN F1 ⟨hS1, h6, fun i hi => ?_, fun c hc2 hc3 => ?_⟩⟩, fun h8 => absurd h5 h8⟩
    · rw [h7 209 (by decide)]
      by_cases ci : i = n
      · rw [ci, u_ne (Or.inr (by omega)), u_eq, u_eq]
        exact ⟨rfl, rfl⟩
      · rw [u_ne (Or.inr (by omega)), u_ne (Or.inr ci), u_ne (Or.inr (by omega)), u_ne (Or.inr (by omega))]
        exact h3 i (by omega)
    · rw [h7 c hc2, hc c hc3]
      exact h4 c hc2 hc3
  refine b_389_262 kd_209 kd_210 kd_211 kd_212 hS ?_
  rw [show (8 + (n : Int)).toNat = 8 + n by omega, Int.toNat_natCast]
  have tk : ∀ hne : kdz z n ≠ 22 ∨ n = 0, tkz (kdz z n) = tkn (kdz z n) := fun hne => by
    unfold tkz
    rw [if_neg]
    rcases hne with h1 | h1
    · exact h1
    · have : kdz z n = 0 := by unfold kdz; rw [if_pos h1]
      omega
  refine ⟨⟨by omega, by omega⟩, ⟨by omega, by omega⟩, ⟨by omega, by omega⟩, fun n0 => ⟨fun k22 => ⟨⟨by omega, by omega⟩, paste _ ?_⟩, fun k22 => CaI.on (gs_210 _ hS2) ?_⟩, fun n0 => CaI.on (gs_210 _ hS2) ?_⟩
  · have : tkz (kdz z n) = 1 := by unfold tkz; rw [if_pos (by omega)]
    omega
  · rintro r F1 hS1 ⟨h5, h6⟩
    rw [g_210n] at h5
    have := tk (Or.inl (by omega))
    rw [← h6, h5]
    exact ⟨⟨by omega, by omega⟩, paste _ (by omega)⟩
  · rintro r F1 hS1 ⟨h5, h6⟩
    rw [g_210n] at h5
    have := tk (Or.inr (by omega))
    rw [← h6, h5]
    exact ⟨⟨by omega, by omega⟩, paste _ (by omega)⟩
theorem yk_le (hz : z < 2147483648) : ∀ n, yk z n < 2147483648
  | 0 => by show z / 3 < 2147483648; omega
  | n + 1 => by
    have := yk_le hz n
    show yk z n / 7 < 2147483648
    omega
/-- all eight lines -/
theorem l_bld (hz : z < 2147483648) (K : ∀ F1, BZ F0 z 8 F1 → L_389_328 D nc ns (z : Int) 209 210 211 212 (fsz z 8 : Int) 1 F1 R) : ∀ (dd n : Nat) (F : MF), n + dd = 8 → BZ F0 z n F →
    L_389_47 D nc ns (z : Int) 209 210 211 212 ((z % 3 : Nat) : Int) (yk z n : Int) (fsz z n : Int) 1 (n : Int) F R := by
  intro dd
  induction dd with
  | zero =>
    intro n F e h
    obtain rfl : n = 8 := by omega
    exact b_389_47 kd_209 kd_210 kd_211 kd_212 h.1 ⟨fun h8 => by omega, fun _ => K F h⟩
  | succ dd ih =>
    intro n F e h
    exact l_47 (by omega) hz (yk_le hz n) h.1 (l_262z (by omega) h (fun F1 h1 => ih (n + 1) F1 (by omega) h1))
end Mp7
