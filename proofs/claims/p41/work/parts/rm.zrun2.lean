/-! THE EIGHT LINES: the law's own value, line by line -/
def LVN (z n : Nat) : VN := vl (fzr z) (8 - n) n
def LE (z n : Nat) (e : Nat → Int) (dn : Int) (v : Nat → Int) : Int := LVN z n (e 0) (e 1) (e 2) (e 3) dn v
/-- variables not yet declared are 0, all are longs -/
def VIz (z : Nat) (v : Nat → Int) (n : Nat) : Prop := (∀ i, fsz z n ≤ i → v i = 0) ∧ ∀ i, w64 (v i) = v i
section Mrm
variable {m p s a j n k z i : Nat} {R res x kd fi o u oa ta dn : Int} {v e t r : Nat → Int} {N : VN}
theorem lvn_s (hn : n < 8) : LVN z n = fun o t oa ta dn v => v27 (kdz z n) (fsz z n) o t oa ta dn v (LVN z (n + 1)) := by
  unfold LVN
  obtain ⟨d, hd⟩ : ∃ d, 8 - n = d + 1 := ⟨7 - n, by omega⟩
  have hd2 : 8 - (n + 1) = d := by omega
  rw [hd, hd2]
  have f1 : fzr z n = (kdz z n : Int) := if_pos hn
  have f2 : fzr z (8 + n) = (fsz z n : Int) := by
    unfold fzr
    rw [if_neg (by omega), Nat.add_sub_cancel_left]
  show (fun o t oa ta dn v => v27 (fzr z n) (fzr z (8 + n)) o t oa ta dn v (vl (fzr z) d (n + 1))) = _
  rw [f1, f2]
theorem le_s (hn : n < 8) (hk : kdz z n = k) : LE z n e dn v = v27 (k : Int) (fsz z n) (e 0) (e 1) (e 2) (e 3) dn v (LVN z (n + 1)) := by
  unfold LE
  rw [lvn_s hn, hk]
theorem v_free (h : kd ≠ 9 ∧ kd ≠ 3 ∧ kd ≠ 8 ∧ kd ≠ 22) : v27 kd fi o u oa ta dn v N = v144 kd fi o u oa ta dn v N := by
  unfold v27
  rw [if_neg (by omega), if_neg (by omega), if_neg (by omega)]
theorem v_d1 (h : kd ≠ 6 ∧ kd ≠ 7 ∧ kd ≠ 16) : v144 kd fi o u oa ta 1 v N = v249 kd fi o u oa ta 1 v N := by
  unfold v144
  rw [if_neg (by decide), if_neg (by omega)]
theorem v_ret (h : kd = 6 ∨ kd = 7 ∨ kd = 16) : v144 kd fi o u oa ta 1 v N = vq kd o u v := by
  unfold v144
  rw [if_neg (by decide), if_pos h]
theorem v_d0 (h : kd ≠ 3) : v144 kd fi o u oa ta 0 v N = v249 kd fi o u oa ta 0 v N := by
  unfold v144
  rw [if_pos rfl, if_neg h]
theorem v_d3 (h : kd = 3) : v144 kd fi o u oa ta 0 v N = v249 kd fi o u oa ta 1 v N := by
  unfold v144
  rw [if_pos rfl, if_pos h]
theorem v249_o (h : kd ≠ 4 ∧ kd ≠ 20 ∧ kd ≠ 5 ∧ kd ≠ 10) : v249 kd fi o u oa ta dn v N = N o u oa ta dn v := by
  unfold v249
  rw [if_neg (by omega), if_neg (by omega), if_neg (by omega), if_neg (by omega)]
theorem v249_4 (h : kd = 4) : v249 kd fi o u oa ta dn v N = N o (fi + 1) oa ta dn (vup v (fi + 1).toNat (if dn = 0 then 0 else w64 (v o.toNat + 1))) := by
  unfold v249
  rw [if_pos h]
theorem v249_20 (h : kd = 20) : v249 kd fi o u oa ta dn v N = N o (fi + 1) oa ta dn (vup v (fi + 1).toNat (if dn = 0 then 0 else 1)) := by
  unfold v249
  rw [if_neg (by omega), if_pos h]
theorem v249_5 (h : kd = 5) : v249 kd fi o u oa ta dn v N = N (fi + 1) u oa ta dn (vup v (fi + 1).toNat (if dn = 0 then 0 else 2)) := by
  unfold v249
  rw [if_neg (by omega), if_neg (by omega), if_pos h]
theorem v249_10 (h : kd = 10) : v249 kd fi o u oa ta dn v N = N o u oa ta dn (vup v o.toNat (w64 (v o.toNat - (if dn = 0 then 0 else 1)))) := by
  unfold v249
  rw [if_neg (by omega), if_neg (by omega), if_neg (by omega), if_pos h]
/-- the lines that are done -/
theorem lw_4 (hn : n < 8) (hk : kdz z n = 4) : LE z n e 1 v = LE z (n + 1) (vup e 1 ((fsz z n + 1 : Nat) : Int)) 1 (vup v (fsz z n + 1) (w64 (v (e 0).toNat + 1))) := by
  rw [le_s hn hk, v_free (by decide), v_d1 (by decide), v249_4 (by decide), toN1, if_neg (by decide)]
  rfl
theorem lw_20 (hn : n < 8) (hk : kdz z n = 20) : LE z n e 1 v = LE z (n + 1) (vup e 1 ((fsz z n + 1 : Nat) : Int)) 1 (vup v (fsz z n + 1) 1) := by
  rw [le_s hn hk, v_free (by decide), v_d1 (by decide), v249_20 (by decide), toN1, if_neg (by decide)]
  rfl
theorem lw_5 (hn : n < 8) (hk : kdz z n = 5) : LE z n e 1 v = LE z (n + 1) (vup e 0 ((fsz z n + 1 : Nat) : Int)) 1 (vup v (fsz z n + 1) 2) := by
  rw [le_s hn hk, v_free (by decide), v_d1 (by decide), v249_5 (by decide), toN1, if_neg (by decide)]
  rfl
theorem lw_10 (hn : n < 8) (hk : kdz z n = 10) : LE z n e 1 v = LE z (n + 1) e 1 (vup v (e 0).toNat (w64 (v (e 0).toNat - 1))) := by
  rw [le_s hn hk, v_free (by decide), v_d1 (by decide), v249_10 (by decide), if_neg (by decide)]
  rfl
theorem lw_6 (hn : n < 8) (hk : kdz z n = 6) : LE z n e 1 v = v (e 0).toNat := by
  rw [le_s hn hk, v_free (by decide), v_ret (by decide)]
  unfold vq
  rw [if_pos (by decide)]
theorem lw_7 (hn : n < 8) (hk : kdz z n = 7) : LE z n e 1 v = w64 ((if e 1 < 0 then 0 else v (e 1).toNat) * 2) := by
  rw [le_s hn hk, v_free (by decide), v_ret (by decide)]
  unfold vq
  rw [if_neg (by decide), if_pos (by decide)]
theorem lw_16 (hn : n < 8) (hk : kdz z n = 16) : LE z n e 1 v = if v (e 0).toNat = (if e 1 < 0 then 0 else v (e 1).toNat) then 1 else 0 := by
  rw [le_s hn hk, v_free (by decide), v_ret (by decide)]
  unfold vq
  rw [if_neg (by decide), if_neg (by decide)]
theorem lw_8 (hn : n < 8) (hk : kdz z n = 8) : LE z n e 1 v = LE z (n + 1) (vup (vup e 2 (e 0)) 3 (e 1)) (if v (e 0).toNat < 3 then 1 else 0) v := by
  rw [le_s hn hk]
  unfold v27
  rw [if_neg (by decide), if_neg (by decide), if_pos (by decide)]
  unfold v91
  rw [if_pos (by decide)]
  by_cases q : v (e 0).toNat < 3
  · rw [if_pos q, v_d1 (by decide), v249_o (by decide)]
    rfl
  · rw [if_neg q, v_d0 (by decide), v249_o (by decide)]
    rfl
theorem lw_22 (hn : n < 8) (hk : kdz z n = 22) : LE z n e 1 v = LE z (n + 1) (vup (vup e 2 (e 0)) 3 (e 1)) 1 v := by
  rw [le_s hn hk]
  unfold v27
  rw [if_neg (by decide), if_neg (by decide), if_pos (by decide)]
  unfold v91
  rw [if_neg (by decide), if_pos (by decide), v_d1 (by decide), v249_o (by decide)]
  rfl
theorem lw_9 (hn : n < 8) (hk : kdz z n = 9) (hd : dn = 0 ∨ dn = 1) : LE z n e dn v = LE z (n + 1) (vup (vup (vup (vup e 0 (e 2)) 1 (e 3)) 2 (vup (vup e 0 (e 2)) 1 (e 3) 0)) 3 (vup (vup e 0 (e 2)) 1 (e 3) 1)) (if dn = 0 then 1 else 0) v := by
  rw [le_s hn hk]
  unfold v27
  rw [if_pos (by decide)]
  unfold v91
  rw [if_neg (by decide), if_neg (by decide)]
  rcases hd with rfl | rfl
  · rw [if_pos rfl, v_d1 (by decide), v249_o (by decide)]
    rfl
  · rw [if_neg (by decide), v_d0 (by decide), v249_o (by decide)]
    rfl
theorem lw_3 (hn : n < 8) (hk : kdz z n = 3) (hd : dn = 0 ∨ dn = 1) : LE z n e dn v = LE z (n + 1) (vup (vup e 0 (e 2)) 1 (e 3)) 1 v := by
  rw [le_s hn hk]
  unfold v27
  rw [if_neg (by decide), if_pos (by decide)]
  rcases hd with rfl | rfl
  · rw [v_d3 (by decide), v249_o (by decide)]
    rfl
  · rw [v_d1 (by decide), v249_o (by decide)]
    rfl
theorem le_8 : LE z 8 e dn v = 0 := rfl
theorem vup_id (h : v i = x) : vup v i x = v := by
  rw [← h]
  exact vup_self
/-- a line that is passed over -/
theorem lw_sk (hn : n < 8) (hk : frk (kdz z n)) (hv : VIz z v n) : LE z n e 0 v = LE z (n + 1) (ene (kdz z n) n (nmt (kdz z n) (fsz z n) e t r).1) 0 v := by
  have v1 : v (fsz z n + 1) = 0 := hv.1 _ (by omega)
  rcases hk with hk | hk | hk | hk | hk | hk | hk
  · rw [hk, en_y (by decide), le_s hn hk, v_free (by decide), v_d0 (by decide), v249_4 (by decide), toN1, if_pos rfl, vup_id v1]
    rfl
  · rw [hk, en_x (by decide), le_s hn hk, v_free (by decide), v_d0 (by decide), v249_5 (by decide), toN1, if_pos rfl, vup_id v1]
    rfl
  · rw [hk, ene_n (by decide), nmt_e (by decide), le_s hn hk, v_free (by decide), v_d0 (by decide), v249_o (by decide)]
    rfl
  · rw [hk, ene_n (by decide), nmt_e (by decide), le_s hn hk, v_free (by decide), v_d0 (by decide), v249_o (by decide)]
    rfl
  · rw [hk, ene_n (by decide), nmt_e (by decide), le_s hn hk, v_free (by decide), v_d0 (by decide), v249_10 (by decide), if_pos rfl, Int.sub_zero, hv.2, vup_id rfl]
    rfl
  · rw [hk, ene_n (by decide), nmt_e (by decide), le_s hn hk, v_free (by decide), v_d0 (by decide), v249_o (by decide)]
    rfl
  · rw [hk, en_y (by decide), le_s hn hk, v_free (by decide), v_d0 (by decide), v249_20 (by decide), toN1, if_pos rfl, vup_id v1]
    rfl
theorem w64_w (y : Int) : w64 (w64 y) = w64 y := by
  unfold w64
  omega
theorem VIz.mo (h : VIz z v n) : VIz z v (n + 1) := ⟨fun i hi => h.1 i (by
  have := fsz_s (z := z) (n := n)
  omega), h.2⟩
theorem VIz.up (h : VIz z v n) (hi : i < fsz z (n + 1)) (hx : w64 x = x) : VIz z (vup v i x) (n + 1) := by
  refine ⟨fun i2 h2 => ?_, fun i2 => ?_⟩
  · rw [vup_ne (by omega)]
    exact h.mo.1 i2 h2
  · by_cases c : i2 = i
    · rw [c, vup_eq]; exact hx
    · rw [vup_ne c]; exact h.2 i2
/-! THE EIGHT LINES: the run gives what is reckoned -/
/-- from line n + 1 on -/
def PZ (z n : Nat) : Prop := ∀ (v : Nat → Int) (s : Nat) (res : Int), s ≤ n → ∃ R, RG (XZ z 8) (8 * (7 - n)) ([(0, lwz z (n + 1), v)], [], s, res) R ∧ (VIz z v (n + 1) → R = LE z (n + 1) (nmS z n).1 1 v)
theorem li_z (hn : n < 7) : LIz (XZ z 8) (kdz z (n + 1)) (fsz z (n + 1)) (nmS z n).1 := by
  obtain ⟨b4, b5, b6, b7, b10, b16⟩ := nm_z (z := z) hn
  have eb := eb_z (z := z) n hn
  unfold EB at eb
  have f8 := fsz_le (z := z) (n + 1)
  refine ⟨?_, by omega, by omega, by omega, fun i hi => tx_z (by omega) hi, b4, b5, b6, b7, b10, b16⟩
  rw [ks_z]
  exact ka_z (by omega)
theorem li_k (hn : n < 7) (hk : kdz z (n + 1) = k) : LIz (XZ z 8) k (fsz z (n + 1)) (nmS z n).1 := by
  rw [← hk]
  exact li_z hn
theorem lwz_k (hk : kdz z n = k) : lwz z (n + 1) = lwz z n + nwk k n := by
  rw [← hk]
  rfl
theorem nm1 : (nmS z (n + 1)).1 = ene (kdz z (n + 1)) (n + 1) (nmt (kdz z (n + 1)) (fsz z (n + 1)) (nmS z n).1 (nmS z n).2.1 (nmS z n).2.2).1 := rfl
theorem p_6 : PZ z 6 := fun v s res _ => by
  have hW := wa_z (z := z) (n := 7) (by decide) kdn_7
  rw [w_k3, if_pos rfl] at hW
  refine ⟨0, RG.mo (g_o (o := 4) (Or.inr (Or.inr rfl)) le0 (hW 0 (Nat.le_of_ble_eq_true rfl)) (g_5 le0 (hW 1 (Nat.le_of_ble_eq_true rfl)))) (by decide), fun _ => ?_⟩
  rw [lw_3 (by decide) kdn_7 (Or.inr rfl)]
  rfl
theorem p_free (hn : n < 6) (hk : frk (kdz z (n + 1))) (hP : PZ z (n + 1)) : PZ z n := fun v s res hs => by
  have f8 := fsz_le (z := z) (n + 1)
  have eb := eb_z (z := z) n (by omega)
  unfold EB at eb
  have fs := fsz_s (z := z) (n := n + 1)
  have hl : ∀ k, kdz z (n + 1) = k → LIz (XZ z 8) k (fsz z (n + 1)) (nmS z n).1 := fun k h => li_k (by omega) h
  have hw : ∀ k, kdz z (n + 1) = k → WA (XZ z 8) (lwz z (n + 1)) (wlk k (fsz z (n + 1)) (tgz z (n + 1)) (n + 1)) := fun k h => wa_z (by omega) h
  rcases hk with hk | hk | hk | hk | hk | hk | hk
  · obtain ⟨R, h1, h2⟩ := hP (vup v (fsz z (n + 1) + 1) (w64 (v ((nmS z n).1 0).toNat + 1))) (s + 1) res (by omega)
    rw [lwz_k hk] at h1
    refine ⟨R, (rg_4 (hl 4 hk) (by omega) (hw 4 hk) (by omega) h1).mo (by omega), fun hv => ?_⟩
    rw [hk] at fs
    have t7 : tkz 4 = 7 := rfl
    rw [lw_4 (by omega) hk, h2 (hv.up (by omega) (w64_w _)), nm1, hk, en_y (by decide)]
  · obtain ⟨R, h1, h2⟩ := hP (vup v (fsz z (n + 1) + 1) 2) (s + 1) res (by omega)
    rw [lwz_k hk] at h1
    refine ⟨R, (rg_5 (hl 5 hk) (by omega) (hw 5 hk) (by omega) h1).mo (by omega), fun hv => ?_⟩
    rw [hk] at fs
    have t7 : tkz 5 = 5 := rfl
    rw [lw_5 (by omega) hk, h2 (hv.up (by omega) (by decide)), nm1, hk, en_x (by decide)]
  · refine ⟨_, (rg_6 (hl 6 hk) (by omega) (hw 6 hk) (by omega)).mo (by omega), fun _ => (lw_6 (by omega) hk).symm⟩
  · refine ⟨_, (rg_7 (hl 7 hk) (by omega) (hw 7 hk) (by omega)).mo (by omega), fun _ => (lw_7 (by omega) hk).symm⟩
  · obtain ⟨R, h1, h2⟩ := hP (vup v ((nmS z n).1 0).toNat (w64 (v ((nmS z n).1 0).toNat - 1))) (s + 1) res (by omega)
    rw [lwz_k hk] at h1
    refine ⟨R, (rg_10 (hl 10 hk) (by omega) (hw 10 hk) (by omega) h1).mo (by omega), fun hv => ?_⟩
    rw [lw_10 (by omega) hk, h2 (hv.up (by omega) (w64_w _)), nm1, hk, ene_n (by decide), nmt_e (by decide)]
  · refine ⟨_, (rg_16 (hl 16 hk) (by omega) (hw 16 hk) (by omega)).mo (by omega), fun _ => (lw_16 (by omega) hk).symm⟩
  · obtain ⟨R, h1, h2⟩ := hP (vup v (fsz z (n + 1) + 1) 1) (s + 1) res (by omega)
    rw [lwz_k hk] at h1
    refine ⟨R, (rg_20 (hl 20 hk) (by omega) (hw 20 hk) (by omega) h1).mo (by omega), fun hv => ?_⟩
    rw [hk] at fs
    have t7 : tkz 20 = 6 := rfl
    rw [lw_20 (by omega) hk, h2 (hv.up (by omega) (by decide)), nm1, hk, en_y (by decide)]
/-- the end of a block -/
theorem p_3 (hk : kdz z 6 = 3) (hP : PZ z 6) : PZ z 5 := fun v s res hs => by
  have hW := wa_z (z := z) (n := 6) (by decide) hk
  rw [w_k3, if_neg (by decide)] at hW
  obtain ⟨R, h1, h2⟩ := hP v s res (by omega)
  rw [lwz_k (n := 6) hk] at h1
  refine ⟨R, (g_o (o := 4) (Or.inr (Or.inr rfl)) le0 (hW 0 (Nat.le_of_ble_eq_true rfl)) h1).mo (by decide), fun hv => ?_⟩
  rw [lw_3 (n := 5 + 1) (by decide) hk (Or.inr rfl), h2 hv.mo, nm1, hk, ene_3 (by decide) (by decide), nmt_e (by decide)]
/-- a plain block begins -/
theorem p_22 (hk : kdz z 2 = 22) (hP : PZ z 2) : PZ z 1 := fun v s res hs => by
  have hW := wa_z (z := z) (n := 2) (by decide) hk
  rw [w_k22] at hW
  obtain ⟨R, h1, h2⟩ := hP v (s + 1) res (by omega)
  rw [lwz_k (n := 2) hk] at h1
  refine ⟨R, (g_6 le0 (by omega) (hW 0 (Nat.le_of_ble_eq_true rfl)) (g_o (o := 3) (Or.inr (Or.inl rfl)) le0 (hW 1 (Nat.le_of_ble_eq_true rfl)) h1)).mo (by decide), fun hv => ?_⟩
  rw [lw_22 (n := 1 + 1) (by decide) hk, h2 hv.mo, nm1, hk, ene_o (by decide), nmt_e (by decide)]
/-- the first block ends: the second one is passed over -/
theorem p_9 (hk : kdz z 4 = 9) (hf : frk (kdz z 5)) (hk6 : kdz z 6 = 3) (hP : PZ z 6) : PZ z 3 := fun v s res hs => by
  have hW := wa_z (z := z) (n := 4) (by decide) hk
  have f8 := fsz_le (z := z) 4
  rw [w_k9] at hW
  obtain ⟨R, h1, h2⟩ := hP v s res (by omega)
  have t4 : tgz z 4 = lwz z 7 := rfl
  rw [t4] at hW
  refine ⟨R, (g_o (o := 4) (Or.inr (Or.inr rfl)) le0 (hW 0 (Nat.le_of_ble_eq_true rfl)) (g_12 le0 (by omega) (hW 1 (Nat.le_of_ble_eq_true rfl)) h1)).mo (by decide), fun hv => ?_⟩
  have e4 : (nmS z 4).1 = vup (vup (vup (vup (nmS z 3).1 0 ((nmS z 3).1 2)) 1 ((nmS z 3).1 3)) 2 (vup (vup (nmS z 3).1 0 ((nmS z 3).1 2)) 1 ((nmS z 3).1 3) 0)) 3 (vup (vup (nmS z 3).1 0 ((nmS z 3).1 2)) 1 ((nmS z 3).1 3) 1) := by
    rw [nm1, hk, ene_9 (by decide), nmt_e (by decide)]
  have e6 : (nmS z 6).1 = vup (vup (nmS z 5).1 0 ((nmS z 5).1 2)) 1 ((nmS z 5).1 3) := by
    rw [nm1, hk6, ene_3 (by decide) (by decide), nmt_e (by decide)]
  rw [lw_9 (n := 3 + 1) (by decide) hk (Or.inr rfl), if_neg (by decide), ← e4, lw_sk (n := 5) (t := (nmS z 4).2.1) (r := (nmS z 4).2.2) (by decide) hf hv.mo, ← nm1, lw_3 (n := 6) (by decide) hk6 (Or.inl rfl), ← e6]
  exact h2 hv.mo.mo.mo
/-- IF -/
theorem p_8 (hk : kdz z 2 = 8) (hf : frk (kdz z 3)) (hk4 : kdz z 4 = 9) (hP : PZ z 2) (hP4 : PZ z 4) : PZ z 1 := fun v s res hs => by
  have f8 := fsz_le (z := z) (1 + 1)
  have hW := wa_z (z := z) (n := 2) (by decide) hk
  have hW4 := wa_z (z := z) (n := 4) (by decide) hk4
  rw [w_k9] at hW4
  have e2 : (nmS z 2).1 = vup (vup (nmS z 1).1 2 ((nmS z 1).1 0)) 3 ((nmS z 1).1 1) := by
    rw [nm1, hk, ene_o (by decide), nmt_e (by decide)]
  have e4 : (nmS z 4).1 = vup (vup (vup (vup (nmS z 3).1 0 ((nmS z 3).1 2)) 1 ((nmS z 3).1 3)) 2 (vup (vup (nmS z 3).1 0 ((nmS z 3).1 2)) 1 ((nmS z 3).1 3) 0)) 3 (vup (vup (nmS z 3).1 0 ((nmS z 3).1 2)) 1 ((nmS z 3).1 3) 1) := by
    rw [nm1, hk4, ene_9 (by decide), nmt_e (by decide)]
  by_cases q : v ((nmS z 1).1 0).toNat < 3
  · obtain ⟨R, h1, h2⟩ := hP v (s + 1) res (by omega)
    rw [lwz_k (n := 2) hk] at h1
    refine ⟨R, (rg_8 (li_k (n := 1) (by decide) hk) (by omega) hW (by omega) (fun _ => h1) (fun q2 => absurd q q2)).mo (by decide), fun hv => ?_⟩
    rw [lw_8 (n := 1 + 1) (by decide) hk, if_pos q, ← e2]
    exact h2 hv.mo
  · obtain ⟨R, h1, h2⟩ := hP4 v (s + 1) res (by omega)
    rw [lwz_k (n := 4) hk4] at h1
    have t2 : tgz z 2 = lwz z 4 + 2 := rfl
    have h3 := g_o (o := 3) (Or.inr (Or.inl rfl)) le0 (hW4 2 (Nat.le_of_ble_eq_true rfl)) h1
    refine ⟨R, (rg_8 (li_k (n := 1) (by decide) hk) (by omega) hW (by omega) (fun q2 => absurd q2 q) (fun _ => by rw [t2]; exact h3)).mo (by decide), fun hv => ?_⟩
    rw [lw_8 (n := 1 + 1) (by decide) hk, if_neg q, ← e2, lw_sk (n := 3) (t := (nmS z 2).2.1) (r := (nmS z 2).2.2) (by decide) hf hv.mo, ← nm1, lw_9 (n := 4) (by decide) hk4 (Or.inl rfl), if_pos rfl, ← e4]
    exact h2 hv.mo.mo.mo
theorem p_0 : PZ z 0 := by
  have hz : z % 3 = 0 ∨ z % 3 = 1 ∨ z % 3 = 2 := by omega
  rcases hz with hz | hz | hz
  · have f : ∀ n, n ≠ 0 → n ≠ 7 → frk (kdz z n) := fun n h0 h7 => kd_free h0 h7 (fun _ => hz) (fun _ => hz) (fun _ => by omega)
    exact p_free (by decide) (f 1 (by decide) (by decide)) (p_free (by decide) (f 2 (by decide) (by decide)) (p_free (by decide) (f 3 (by decide) (by decide)) (p_free (by decide) (f 4 (by decide) (by decide)) (p_free (by decide) (f 5 (by decide) (by decide)) (p_free (by decide) (f 6 (by decide) (by decide)) p_6)))))
  · have f : ∀ n, n ≠ 0 → n ≠ 7 → n ≠ 6 → n ≠ 2 → n ≠ 4 → frk (kdz z n) := fun n h0 h7 h6 h2 h4 => kd_free h0 h7 (fun e => absurd e h6) (fun e => absurd e h2) (fun e => absurd e h4)
    have f1 := f 1 (by decide) (by decide) (by decide) (by decide) (by decide)
    have f3 := f 3 (by decide) (by decide) (by decide) (by decide) (by decide)
    have f5 := f 5 (by decide) (by decide) (by decide) (by decide) (by decide)
    have k6 := kdn_6 (z := z) (by omega)
    have q5 : PZ z 5 := p_3 k6 p_6
    have q4 : PZ z 4 := p_free (by decide) f5 q5
    have q3 : PZ z 3 := p_9 (kdn_14 hz) f5 k6 p_6
    have q2 : PZ z 2 := p_free (by decide) f3 q3
    exact p_free (by decide) f1 (p_8 (kdn_12 hz) f3 (kdn_14 hz) q2 q4)
  · have f : ∀ n, n ≠ 0 → n ≠ 7 → n ≠ 6 → n ≠ 2 → frk (kdz z n) := fun n h0 h7 h6 h2 => kd_free h0 h7 (fun e => absurd e h6) (fun e => absurd e h2) (fun _ => by omega)
    have k6 := kdn_6 (z := z) (by omega)
    have q5 : PZ z 5 := p_3 k6 p_6
    have q2 : PZ z 2 := p_free (by decide) (f 3 (by decide) (by decide) (by decide) (by decide)) (p_free (by decide) (f 4 (by decide) (by decide) (by decide) (by decide)) (p_free (by decide) (f 5 (by decide) (by decide) (by decide) (by decide)) q5))
    exact p_free (by decide) (f 1 (by decide) (by decide) (by decide) (by decide)) (p_22 (kdn_22 hz) q2)
/-- where a run begins -/
theorem ren_z {y : Int} : ren (XZ z 8) (200 * 0 + fnt (XZ z 8) 0 0) 2 [] [y, x] 0 0 = ([(0, 0, vup (fun _ => 0) 3 x)], [], 0, 0) := by
  have e1 : fnt (XZ z 8) 0 0 = 1 := by
    unfold fnt
    rw [Fw_z]
    rfl
  have e2 : fstp (XZ z 8) 1 = 0 := by
    unfold fstp
    rw [show (1 : Nat) / 200 = 0 from rfl, Fw_z]
    rfl
  have e3 : ppar (XZ z 8) 1 = 1 := by
    unfold ppar
    rw [show (1 : Nat) / 200 = 0 from rfl, Fw_z]
    rfl
  have e4 : argS 1 1 [x, y] = vup (fun _ => 0) 3 x := by
    funext i
    unfold argS vup
    by_cases c : i = 3
    · rw [if_pos c, if_pos (by omega), c]
      rfl
    · rw [if_neg c, if_neg (by omega)]
  unfold ren
  rw [e1, show 200 * 0 + 1 = 1 from rfl, e2, e3]
  show ([(0, 0, argS 1 1 [x, y])], [], 0, 0) = _
  rw [e4]
theorem run_z : ∀ x y : Int, ∃ R, rrun (XZ z 8) 1000000 (ren (XZ z 8) (200 * 0 + fnt (XZ z 8) 0 0) 2 [] [y, x] 0 0) = some R ∧ ((-2147483648 ≤ x ∧ x < 2147483648) → R = vof (fzr z) x) := fun x y => by
  have hW := wa_z (z := z) (n := 0) (by decide) kdn_0
  rw [w_k0] at hW
  obtain ⟨R, h1, h2⟩ := p_0 (z := z) (vup (fun _ => 0) 3 x) 0 0 (Nat.le_refl 0)
  rw [lwz_k (n := 0) kdn_0] at h1
  have h3 := g_o (o := 2) (Or.inl rfl) le0 (hW 0 (Nat.le_of_ble_eq_true rfl)) (g_o (o := 3) (Or.inr (Or.inl rfl)) le0 (hW 1 (Nat.le_of_ble_eq_true rfl)) h1)
  refine ⟨R, ?_, fun hx => ?_⟩
  · rw [ren_z]
    exact h3 1000000 (by decide)
  · have w3 : w64 x = x := by
      unfold w64
      omega
    have hv : VIz z (vup (fun _ => 0) 3 x) (0 + 1) := by
      refine ⟨fun i hi => ?_, fun i => ?_⟩
      · have f1 : fsz z (0 + 1) = 6 := fsz_1
        rw [vup_ne (by omega)]
      · by_cases c : i = 3
        · rw [c, vup_eq]; exact w3
        · rw [vup_ne c]; rfl
    rw [h2 hv]
    rfl
theorem rz_z (hz : z < 2147483648) : RZ z := by
  have fl : (Fw (XZ z 8) 0).length = 1 := by rw [Fw_z]; rfl
  have ag : ∀ x y R, rrun (XZ z 8) 1000000 (ren (XZ z 8) (200 * 0 + fnt (XZ z 8) 0 0) 2 [] [y, x] 0 0) = some R → aRu (XZ z 8) 0 0 x y = R := fun x y R h => by
    unfold aRu
    show (rrun (XZ z 8) 1000000 (ren (XZ z 8) (200 * 0 + fnt (XZ z 8) 0 0) 2 [] [y, x] 0 0)).getD 0 = R
    rw [h]
    rfl
  refine ⟨⟨0, 0, by decide, by omega, rfl, rfl⟩, fun x y f k hf hk => ?_, hz, fun x y hx => ?_⟩
  · by_cases c : f = 0
    · subst c
      have k0 : k = 0 := by omega
      subst k0
      obtain ⟨R, h1, -⟩ := run_z (z := z) x y
      have h2 := ag x y R h1
      rw [h1]
      exact congrArg some h2.symm
    · rw [Fw_e (by omega)] at hk
      exact absurd hk (Nat.not_lt_zero _)
  · obtain ⟨R, h1, h2⟩ := run_z (z := z) x y
    rw [ag x y R h1]
    exact h2 hx
theorem qz_all : ∀ z : Nat, z < 2147483648 → QZ z := fun z hz => by
  have t8 := fsz_6 (z := z) (n := 8) (by decide)
  refine ⟨rz_z hz, shp_z, ⟨toks_z, by rw [Ew_z]; rfl, by rw [Fw_z]; rfl, aFu_z⟩, ⟨?_, ?_⟩, fun n hn => ?_, aTe_z, aTy_z1, aTy_z3⟩
  · exact chk_c (m := 1) (c := (1, 1)) rfl (by omega) (bnd_hd (Or.inl rfl)) (by decide)
  · exact chk_c (m := 3) (c := (3, 3)) rfl (by omega) (bnd_hd (Or.inr rfl)) (by decide)
  · have eb := eb_z (z := z) n hn
    unfold EB at eb
    have f8 := fsz_le (z := z) (n + 1)
    have r2 := r2_z (z := z) n
    exact ⟨⟨by omega, by omega⟩, by omega, ⟨by omega, by omega⟩, by omega, chk_z hn⟩
end Mrm
theorem m_mini : m_MINI := m_mini_q qz_all
