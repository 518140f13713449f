/-! THE EIGHT LINES: types, line by line -/
section Mrk
variable {X : Nat → List Int} {h : Nat → Nat} {E : List Int} {e t t' r : Nat → Int} {a n j k z q o u y : Nat}
/-- what the four cells name has a type, but for the parameter -/
def ETz (e t : Nat → Int) : Prop := (e 0 = 3 ∨ t (e 0).toNat ≠ 0) ∧ (e 1 = -1 ∨ t (e 1).toNat ≠ 0) ∧ (e 2 = 3 ∨ t (e 2).toNat ≠ 0) ∧ (e 3 = -1 ∨ t (e 3).toNat ≠ 0)
theorem ETz.nz (H : ETz e t) (hN : NZt t t') : ETz e t' := by
  obtain ⟨h0, h1, h2, h3⟩ := H
  exact ⟨h0.imp id (hN _), h1.imp id (hN _), h2.imp id (hN _), h3.imp id (hN _)⟩
theorem ETz.ly (H : ETz e t) (hN : t (a + 1) ≠ 0) : ETz (vup e 1 ((a + 1 : Nat) : Int)) t := by
  obtain ⟨h0, h1, h2, h3⟩ := H
  refine ⟨h0, Or.inr ?_, h2, h3⟩
  show t ((a + 1 : Nat) : Int).toNat ≠ 0
  rw [Int.toNat_natCast]
  exact hN
theorem ETz.lx (H : ETz e t) (hN : t (a + 1) ≠ 0) : ETz (vup e 0 ((a + 1 : Nat) : Int)) t := by
  obtain ⟨h0, h1, h2, h3⟩ := H
  refine ⟨Or.inr ?_, h1, h2, h3⟩
  show t ((a + 1 : Nat) : Int).toNat ≠ 0
  rw [Int.toNat_natCast]
  exact hN
theorem ETz.op (H : ETz e t) : ETz (vup (vup e 2 (e 0)) 3 (e 1)) t := by
  obtain ⟨h0, h1, h2, h3⟩ := H
  exact ⟨h0, h1, h0, h1⟩
theorem ETz.cl (H : ETz e t) : ETz (vup (vup e 0 (e 2)) 1 (e 3)) t := by
  obtain ⟨h0, h1, h2, h3⟩ := H
  exact ⟨h2, h3, h2, h3⟩
theorem en_x {kd : Int} (hk : kd = 5) : ene kd n (nmt kd (a : Int) e t r).1 = vup e 0 ((a + 1 : Nat) : Int) := by
  have e1 : ((a + 1 : Nat) : Int) = (a : Int) + 1 := rfl
  rw [ene_n (by omega), nmt_x hk, e1]
theorem toN1 : ((a : Int) + 1).toNat = a + 1 := by omega
theorem nz_let (hk : k = 4 ∨ k = 5 ∨ k = 20) : (nmt (k : Int) (a : Int) e t r).2.1 (a + 1) ≠ 0 := by
  rcases hk with rfl | rfl | rfl
  · rw [nm2_4 (by decide), toN1]
    show vup (ty213 t r (e 0)).1 (a + 1) 1 (a + 1) ≠ 0
    rw [vup_eq]
    decide
  · rw [nm2_5 (by decide), toN1]
    show vup t (a + 1) 1 (a + 1) ≠ 0
    rw [vup_eq]
    decide
  · rw [nm2_20 (by decide), toN1]
    show vup t (a + 1) 2 (a + 1) ≠ 0
    rw [vup_eq]
    decide
/-- the four cells behind a line -/
theorem et_s (hk : frk k ∨ k = 8 ∨ k = 22 ∨ k = 9 ∨ k = 3) (H : ETz e t) (hN : NZt t (nmt (k : Int) (a : Int) e t r).2.1) : ETz (ene (k : Int) n (nmt (k : Int) (a : Int) e t r).1) (nmt (k : Int) (a : Int) e t r).2.1 := by
  have H2 := H.nz hN
  have hl := fun c => nz_let (k := k) (a := a) (e := e) (t := t) (r := r) c
  by_cases c4 : k = 4 ∨ k = 20
  · rw [en_y (by omega)]
    exact H2.ly (hl (by omega))
  by_cases c5 : k = 5
  · rw [en_x (by omega)]
    exact H2.lx (hl (by omega))
  by_cases c8 : k = 8 ∨ k = 22
  · rw [ene_o (by omega), nmt_e (by omega)]
    exact H2.op
  by_cases c9 : k = 9
  · rw [ene_9 (by omega), nmt_e (by omega)]
    exact H2.cl.op
  by_cases c3 : k = 3
  · by_cases cn : n < 7
    · rw [ene_3 (by omega) cn, nmt_e (by omega)]
      exact H2.cl
    · have e1 : ene (k : Int) n (nmt (k : Int) (a : Int) e t r).1 = (nmt (k : Int) (a : Int) e t r).1 := by
        unfold ene ene1
        rw [if_neg (by omega), if_neg (by omega)]
      rw [e1, nmt_e (by omega)]
      exact H2
  · rw [ene_n (by omega), nmt_e (by omega)]
    exact H2
theorem fn_o (ho : o < 256 ∧ o ≠ 2) : fnw 0 (mk o u y) q = q := by
  unfold fnw
  rw [wo_mk ho.1, if_neg (by omega)]
theorem trun_app {f : Nat} : ∀ (A B : List Int) (fn : Nat) (x : TS), trun X f (A ++ B) fn x = trun X f B (A.foldl (fun q w => fnw f w q) fn) (trun X f A fn x)
  | [], _, _, _ => rfl
  | w :: A, B, fn, x => by
    show trun X f (A ++ B) (fnw f w fn) (tstep X f (fnw f w fn) w x) = _
    rw [trun_app A B]
    rfl
theorem wlk_fn (hk : k ≠ 0) : (wlk k a j n).foldl (fun q w => fnw 0 w q) q = q := by
  have f3 := fun (u y q : Nat) => fn_o (o := 3) (u := u) (y := y) (q := q) (by decide)
  have f4 := fun (u y q : Nat) => fn_o (o := 4) (u := u) (y := y) (q := q) (by decide)
  have f5 := fun (u y q : Nat) => fn_o (o := 5) (u := u) (y := y) (q := q) (by decide)
  have f6 := fun (u y q : Nat) => fn_o (o := 6) (u := u) (y := y) (q := q) (by decide)
  have f7 := fun (u y q : Nat) => fn_o (o := 7) (u := u) (y := y) (q := q) (by decide)
  have f8 := fun (u y q : Nat) => fn_o (o := 8) (u := u) (y := y) (q := q) (by decide)
  have f10 := fun (u y q : Nat) => fn_o (o := 10) (u := u) (y := y) (q := q) (by decide)
  have f11 := fun (u y q : Nat) => fn_o (o := 11) (u := u) (y := y) (q := q) (by decide)
  have f12 := fun (u y q : Nat) => fn_o (o := 12) (u := u) (y := y) (q := q) (by decide)
  have f14 := fun (u y q : Nat) => fn_o (o := 14) (u := u) (y := y) (q := q) (by decide)
  have f16 := fun (u y q : Nat) => fn_o (o := 16) (u := u) (y := y) (q := q) (by decide)
  have f17 := fun (u y q : Nat) => fn_o (o := 17) (u := u) (y := y) (q := q) (by decide)
  unfold wlk
  rw [if_neg hk]
  (repeat' split) <;> simp only [List.foldl_cons, List.foldl_nil, f3, f4, f5, f6, f7, f8, f10, f11, f12, f14, f16, f17]
theorem kd_ne0 (hn : n ≠ 0) : kdz z n ≠ 0 := by
  unfold kdz
  rw [if_neg hn]
  unfold pkd
  (repeat' split) <;> decide
theorem wz_fn : ∀ n, (wz z (n + 1)).foldl (fun q w => fnw 0 w q) 0 = 1
  | 0 => by
    have e1 : wz z (0 + 1) = [mk 2 1 1, mk 3 5 0] := by
      show [] ++ wlk (kdz z 0) (fsz z 0) (tgz z 0) 0 = _
      rw [kdn_0, w_k0, List.nil_append]
      rfl
    rw [e1]
    simp only [List.foldl_cons, List.foldl_nil]
    rw [fn_o (o := 3) (by decide)]
    unfold fnw
    rw [wo_mk (by decide), if_pos (by decide), wt_mk (by decide) (by decide)]
    rfl
  | n + 1 => by
    show (wz z (n + 1) ++ wlk (kdz z (n + 1)) (fsz z (n + 1)) (tgz z (n + 1)) (n + 1)).foldl (fun q w => fnw 0 w q) 0 = 1
    rw [List.foldl_append, wz_fn n, wlk_fn (kd_ne0 (Nat.succ_ne_zero n))]
/-- one line -/
theorem tl_z (hn : n < 7) (H : TRz h E (nmS z n).2.1 (nmS z n).2.2 (fsz z (n + 1))) (T : ETz (nmS z n).1 (nmS z n).2.1) : TLz (XZ z 8) h E (wlk (kdz z (n + 1)) (fsz z (n + 1)) (tgz z (n + 1)) (n + 1)) (nmS z n).2.1 (nmt (kdz z (n + 1)) (fsz z (n + 1)) (nmS z n).1 (nmS z n).2.1 (nmS z n).2.2).2 (fsz z (n + 1 + 1)) := by
  obtain ⟨b4, b5, b6, b7, b10, b16⟩ := nm_z (z := z) hn
  have eb := eb_z (z := z) n hn
  unfold EB at eb
  have f8 := fsz_le (z := z) (n + 1)
  have f6 := fsz_6 (z := z) (n := n + 1) (by omega)
  have ka : KA (ks (XZ z 8) 0) (kdz z (n + 1)) (fsz z (n + 1)) := by
    rw [ks_z]
    exact ka_z (by omega)
  have hfr : frk (kdz z (n + 1)) → TLz (XZ z 8) h E (wlk (kdz z (n + 1)) (fsz z (n + 1)) (tgz z (n + 1)) (n + 1)) (nmS z n).2.1 (nmt (kdz z (n + 1)) (fsz z (n + 1)) (nmS z n).1 (nmS z n).2.1 (nmS z n).2.2).2 (fsz z (n + 1 + 1)) := fun hk => by
    rw [fsz_s (n := n + 1)]
    rcases hk with hk | hk | hk | hk | hk | hk | hk
    · have b4 := b4 hk
      rw [hk] at ka ⊢
      exact tl_4 H ⟨f6, by omega⟩ eb.1.1 T.1 b4 ka
    · have b5 := b5 (Or.inl hk)
      rw [hk] at ka ⊢
      exact tl_5 H ⟨f6, by omega⟩ b5 ka
    · have b6 := b6 (Or.inl hk)
      rw [hk] at ka ⊢
      exact tl_6 H ⟨f6, by omega⟩ eb.1.1 T.1 b6 ka
    · have b7 := b7 hk
      rw [hk] at ka ⊢
      exact tl_7 H ⟨f6, by omega⟩ (by omega) T.2.1 b7 ka
    · have b10 := b10 hk
      rw [hk] at ka ⊢
      exact tl_10 H ⟨f6, by omega⟩ eb.1.1 T.1 b10 ka
    · have b16 := b16 hk
      rw [hk] at ka ⊢
      exact tl_16 H ⟨f6, by omega⟩ eb.1 T.1 (by omega) T.2.1 b16 ka
    · have b5 := b5 (Or.inr hk)
      rw [hk] at ka ⊢
      exact tl_20 H ⟨f6, by omega⟩ b5 ka
  have h0 : ∀ k, kdz z (n + 1) = k → k = 3 ∨ k = 9 ∨ k = 22 → TLz (XZ z 8) h E (wlk (kdz z (n + 1)) (fsz z (n + 1)) (tgz z (n + 1)) (n + 1)) (nmS z n).2.1 (nmt (kdz z (n + 1)) (fsz z (n + 1)) (nmS z n).1 (nmS z n).2.1 (nmS z n).2.2).2 (fsz z (n + 1 + 1)) := fun k hk hk2 => by
    rw [fsz_s (n := n + 1)]
    exact tl_0 (by omega) H
  by_cases c7 : n = 6
  · subst c7
    exact h0 3 kdn_7 (Or.inl rfl)
  rcases kd_cas (z := z) (n := n + 1) (by omega) (by omega) with ⟨h1, h2⟩ | ⟨h1 | h1, h2, h3⟩ | ⟨h1, h2, h3⟩ | ⟨h1, h2, h3, h4⟩
  · exact hfr h1
  · have b6 := b6 (Or.inr h1)
    rw [fsz_s (n := n + 1)]
    rw [h1] at ka ⊢
    exact tl_8 H ⟨f6, by omega⟩ eb.1.1 T.1 b6 ka
  · exact h0 22 h1 (by decide)
  · exact h0 9 h1 (by decide)
  · exact h0 3 h1 (by decide)
theorem kd_any (hn : n ≠ 0) (h7 : n < 8) : frk (kdz z n) ∨ kdz z n = 8 ∨ kdz z n = 22 ∨ kdz z n = 9 ∨ kdz z n = 3 := by
  by_cases c7 : n = 7
  · rw [c7]
    exact Or.inr (Or.inr (Or.inr (Or.inr kdn_7)))
  rcases kd_cas (z := z) (n := n) (by omega) (by omega) with ⟨h1, h2⟩ | ⟨h1 | h1, h2, h3⟩ | ⟨h1, h2, h3⟩ | ⟨h1, h2, h3, h4⟩
  · exact Or.inl h1
  · exact Or.inr (Or.inl h1)
  · exact Or.inr (Or.inr (Or.inl h1))
  · exact Or.inr (Or.inr (Or.inr (Or.inl h1)))
  · exact Or.inr (Or.inr (Or.inr (Or.inr h1)))
theorem ty_z : ∀ n, n < 8 → ∃ h E, trun (XZ z 8) 0 (wz z (n + 1)) 0 (fun s => s, [], []) = (h, [], E) ∧ TRz h E (nmS z n).2.1 (nmS z n).2.2 (fsz z (n + 1)) ∧ ETz (nmS z n).1 (nmS z n).2.1
  | 0, _ => by
    have e1 : wz z (0 + 1) = [mk 2 1 1, mk 3 5 0] := by
      show [] ++ wlk (kdz z 0) (fsz z 0) (tgz z 0) 0 = _
      rw [kdn_0, w_k0, List.nil_append]
      rfl
    refine ⟨fun s => s, [], ?_, ?_, ?_⟩
    · rw [e1, trun_cons, u_n (by decide), trun_cons, u_n (by decide)]
      rfl
    · show TRz (fun s => s) [] (fun _ => 0) (fun _ => 0) (fsz z 1)
      rw [fsz_1]
      refine ⟨⟨rfl, rfl⟩, fun _ => Or.inl rfl, fun _ => by decide, Or.inl ⟨rfl, by decide⟩, fun h => absurd h (by decide), fun _ _ h => absurd h (by decide), rfl, fun s _ _ x h => h, fun s _ _ => rfl⟩
    · exact ⟨Or.inl rfl, Or.inl rfl, Or.inl rfl, Or.inl rfl⟩
  | n + 1, hn => by
    obtain ⟨h, E, h1, h2, h3⟩ := ty_z n (by omega)
    obtain ⟨h', E', g1, g2, g3⟩ := tl_z (by omega) h2 h3
    refine ⟨h', E', ?_, g2, ?_⟩
    · show trun (XZ z 8) 0 (wz z (n + 1) ++ wlk (kdz z (n + 1)) (fsz z (n + 1)) (tgz z (n + 1)) (n + 1)) 0 (fun s => s, [], []) = _
      rw [trun_app, wz_fn, h1, g1]
    · exact et_s (kd_any (Nat.succ_ne_zero n) hn) h3 g3
theorem tfil_z : tfil (XZ z 8) 3 = trun (XZ z 8) 0 (wz z 8) 0 (fun s => s, [], []) := by
  show trun (XZ z 8) 2 (Cw (XZ z 8) 2) 0 (trun (XZ z 8) 1 (Cw (XZ z 8) 1) 0 (trun (XZ z 8) 0 (Cw (XZ z 8) 0) 0 (fun s => s, [], []))) = _
  rw [Cw_e (f := 2) (by decide), Cw_e (f := 1) (by decide), Cw_z]
  rfl
theorem aTe_z : aTe (XZ z 8) = (nmS z 7).2.2 2 := by
  obtain ⟨h, E, h1, h2, -⟩ := ty_z (z := z) 7 (by decide)
  unfold aTe
  rw [tfil_z, h1]
  exact h2.2.2.2.2.2.2.1
theorem aTy_z1 : aTy (XZ z 8) 0 1 = (nmS z 7).2.2 0 := by
  obtain ⟨h, E, h1, h2, -⟩ := ty_z (z := z) 7 (by decide)
  have b1 := bnd_hd (z := z) (n := 1) (Or.inl rfl)
  have b2 : bnd (XZ z 8) (200 * (0 : Int).toNat + (1 : Int).toNat) = 1 := b1
  have h4 := h2.2.2.2.1
  unfold aTy
  rw [b2, if_neg (by decide), tfil_z, h1]
  show tyo (h 1) = _
  unfold tyo
  rcases h4 with ⟨q1, q2⟩ | ⟨q1, q2⟩ | ⟨q1, q2⟩
  · rw [if_neg (by omega), if_neg (by omega), q1]
  · rw [if_pos q2, q1]
  · rw [q2, if_neg (by decide), if_pos rfl, q1]
theorem aTy_z3 : aTy (XZ z 8) 0 3 = (nmS z 7).2.1 3 := by
  obtain ⟨h, E, h1, h2, -⟩ := ty_z (z := z) 7 (by decide)
  have b1 := bnd_hd (z := z) (n := 3) (Or.inr rfl)
  have b2 : bnd (XZ z 8) (200 * (0 : Int).toNat + (3 : Int).toNat) = 3 := b1
  have h4 := h2.2.1 3
  have h5 := h2.2.2.1
  unfold aTy
  rw [b2, if_neg (by decide), tfil_z, h1]
  show tyo (h 3) = _
  unfold tyo
  rcases h4 with q1 | ⟨q1, q2⟩ | ⟨q1, q2⟩
  · have := h5 q1
    rw [if_neg (by omega), if_neg (by omega), q1]
  · rw [if_pos q2, q1]
  · rw [q2, if_neg (by decide), if_pos rfl, q1]
end Mrk
