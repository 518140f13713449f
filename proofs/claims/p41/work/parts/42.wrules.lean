/-! THE RULES IN ANY WORLD -/
section Ms5
variable {D : Nat → Prop} {nc ns : Nat}
variable {M pc : Nat} {ls l : ML} {st : List MV} {F : MF} {Q : Nat × List MV → MF → Prop} {q : LK} {r : List (Option (Instr × LK))} {x y i v : Int} {n kd sz ci k j nn z : Nat}
theorem w_iconst (hA : At M pc (some (.iconst v, q) :: r))  (K : At M (pc + 1) r → Wv D nc ns M (pc + 1) ls ((0, v) :: st) F Q) : Wv D nc ns M pc ls (st) F Q := wv_ok hA.hd (fun c s => rfl) (K hA.tl)
theorem w_bipush (hA : At M pc (some (.bipush v, q) :: none :: r))  (K : At M (pc + 2) r → Wv D nc ns M (pc + 2) ls ((0, v) :: st) F Q) : Wv D nc ns M pc ls (st) F Q := wv_ok hA.hd (fun c s => rfl) (K hA.tl2)
theorem w_sipush (hA : At M pc (some (.sipush v, q) :: none :: none :: r))  (K : At M (pc + 3) r → Wv D nc ns M (pc + 3) ls ((0, v) :: st) F Q) : Wv D nc ns M pc ls (st) F Q := wv_ok hA.hd (fun c s => rfl) (K hA.tl3)
theorem w_lconst {d : Fin 2} (hA : At M pc (some (.lconst d, q) :: r))  (K : At M (pc + 1) r → Wv D nc ns M (pc + 1) ls ((1, ((d : Nat) : Int)) :: st) F Q) : Wv D nc ns M pc ls (st) F Q := wv_ok hA.hd (fun c s => rfl) (K hA.tl)
theorem w_ldci {z : Nat} (hA : At M pc (some (.ldc z, (1, n, k, ci)) :: none :: r))  (K : At M (pc + 2) r → Wv D nc ns M (pc + 2) ls ((0, (n : Int)) :: st) F Q) : Wv D nc ns M pc ls (st) F Q := wv_ok hA.hd (fun c s => rfl) (K hA.tl2)
theorem w_ldcs {z : Nat} (hA : At M pc (some (.ldc z, (2, n, k, ci)) :: none :: r))  (K : At M (pc + 2) r → Wv D nc ns M (pc + 2) ls ((5, (n : Int)) :: st) F Q) : Wv D nc ns M pc ls (st) F Q := wv_ok hA.hd (fun c s => rfl) (K hA.tl2)
theorem w_ldcwi {z : Nat} (hA : At M pc (some (.ldc_w z, (1, n, k, ci)) :: none :: none :: r))  (K : At M (pc + 3) r → Wv D nc ns M (pc + 3) ls ((0, (n : Int)) :: st) F Q) : Wv D nc ns M pc ls (st) F Q := wv_ok hA.hd (fun c s => rfl) (K hA.tl3)
theorem w_ldcws {z : Nat} (hA : At M pc (some (.ldc_w z, (2, n, k, ci)) :: none :: none :: r))  (K : At M (pc + 3) r → Wv D nc ns M (pc + 3) ls ((5, (n : Int)) :: st) F Q) : Wv D nc ns M pc ls (st) F Q := wv_ok hA.hd (fun c s => rfl) (K hA.tl3)
theorem w_ldc2 {z : Nat} (hA : At M pc (some (.ldc2_w z, (1, n, k, ci)) :: none :: none :: r))  (K : At M (pc + 3) r → Wv D nc ns M (pc + 3) ls ((1, (n : Int)) :: st) F Q) : Wv D nc ns M pc ls (st) F Q := wv_ok hA.hd (fun c s => rfl) (K hA.tl3)
theorem w_iload (hA : At M pc (some (.iload n, q) :: none :: r)) (hl : ls[n]? = some (some (0, x))) (K : At M (pc + 2) r → Wv D nc ns M (pc + 2) ls ((0, x) :: st) F Q) : Wv D nc ns M pc ls (st) F Q := wv_ok hA.hd (fun c s => by show m_ldi ls _ _ _ _ = _; unfold m_ldi; rw [hl]; rfl) (K hA.tl2)
theorem w_iload_n {z : Fin 4} (hA : At M pc (some (.iload_n z, q) :: r)) (hl : ls[(z : Nat)]? = some (some (0, x))) (K : At M (pc + 1) r → Wv D nc ns M (pc + 1) ls ((0, x) :: st) F Q) : Wv D nc ns M pc ls (st) F Q := wv_ok hA.hd (fun c s => by show m_ldi ls _ _ _ _ = _; unfold m_ldi; rw [hl]; rfl) (K hA.tl)
theorem w_lload (hA : At M pc (some (.lload n, q) :: none :: r)) (hl : ls[n]? = some (some (1, x))) (K : At M (pc + 2) r → Wv D nc ns M (pc + 2) ls ((1, x) :: st) F Q) : Wv D nc ns M pc ls (st) F Q := wv_ok hA.hd (fun c s => by show m_ldl ls _ _ _ _ = _; unfold m_ldl; rw [hl]; rfl) (K hA.tl2)
theorem w_lload_n {z : Fin 4} (hA : At M pc (some (.lload_n z, q) :: r)) (hl : ls[(z : Nat)]? = some (some (1, x))) (K : At M (pc + 1) r → Wv D nc ns M (pc + 1) ls ((1, x) :: st) F Q) : Wv D nc ns M pc ls (st) F Q := wv_ok hA.hd (fun c s => by show m_ldl ls _ _ _ _ = _; unfold m_ldl; rw [hl]; rfl) (K hA.tl)
theorem w_aload {t : Nat} (hA : At M pc (some (.aload n, q) :: none :: r)) (hl : ls[n]? = some (some (t, x))) (h2 : 2 ≤ t) (K : At M (pc + 2) r → Wv D nc ns M (pc + 2) ls ((t, x) :: st) F Q) : Wv D nc ns M pc ls (st) F Q := wv_ok hA.hd (fun c s => by show m_lda ls _ _ _ _ = _; unfold m_lda; rw [hl]; obtain ⟨k, rfl⟩ : ∃ k, t = k + 2 := ⟨t - 2, by omega⟩; rfl) (K hA.tl2)
theorem w_aload_n {t : Nat} {z : Fin 4} (hA : At M pc (some (.aload_n z, q) :: r)) (hl : ls[(z : Nat)]? = some (some (t, x))) (h2 : 2 ≤ t) (K : At M (pc + 1) r → Wv D nc ns M (pc + 1) ls ((t, x) :: st) F Q) : Wv D nc ns M pc ls (st) F Q := wv_ok hA.hd (fun c s => by show m_lda ls _ _ _ _ = _; unfold m_lda; rw [hl]; obtain ⟨k, rfl⟩ : ∃ k, t = k + 2 := ⟨t - 2, by omega⟩; rfl) (K hA.tl)
theorem w_istore (hA : At M pc (some (.istore n, q) :: none :: r)) (l : ML) (hl : m_st ls n (0, x) = some l) (K : At M (pc + 2) r → Wv D nc ns M (pc + 2) l (st) F Q) : Wv D nc ns M pc ls ((0, x) :: st) F Q := wv_ok hA.hd (fun c s => by show m_put _ _ _ _ = _; rw [hl]; rfl) (K hA.tl2)
theorem w_istore_n {z : Fin 4} (hA : At M pc (some (.istore_n z, q) :: r)) (l : ML) (hl : m_st ls (z : Nat) (0, x) = some l) (K : At M (pc + 1) r → Wv D nc ns M (pc + 1) l (st) F Q) : Wv D nc ns M pc ls ((0, x) :: st) F Q := wv_ok hA.hd (fun c s => by show m_put _ _ _ _ = _; rw [hl]; rfl) (K hA.tl)
theorem w_lstore (hA : At M pc (some (.lstore n, q) :: none :: r)) (l : ML) (hl : m_st ls n (1, x) = some l) (K : At M (pc + 2) r → Wv D nc ns M (pc + 2) l (st) F Q) : Wv D nc ns M pc ls ((1, x) :: st) F Q := wv_ok hA.hd (fun c s => by show m_put _ _ _ _ = _; rw [hl]; rfl) (K hA.tl2)
theorem w_lstore_n {z : Fin 4} (hA : At M pc (some (.lstore_n z, q) :: r)) (l : ML) (hl : m_st ls (z : Nat) (1, x) = some l) (K : At M (pc + 1) r → Wv D nc ns M (pc + 1) l (st) F Q) : Wv D nc ns M pc ls ((1, x) :: st) F Q := wv_ok hA.hd (fun c s => by show m_put _ _ _ _ = _; rw [hl]; rfl) (K hA.tl)
theorem w_astore (hA : At M pc (some (.astore n, q) :: none :: r)) (l : ML) (hk : 2 ≤ k ∧ k ≤ 5) (hl : m_st ls n (k, x) = some l) (K : At M (pc + 2) r → Wv D nc ns M (pc + 2) l (st) F Q) : Wv D nc ns M pc ls ((k, x) :: st) F Q := wv_ok hA.hd (fun c s => by show (if 2 ≤ k ∧ k ≤ 5 then _ else _) = _; rw [if_pos hk]; show m_put _ _ _ _ = _; rw [hl]; rfl) (K hA.tl2)
theorem w_astore_n {z : Fin 4} (hA : At M pc (some (.astore_n z, q) :: r)) (l : ML) (hk : 2 ≤ k ∧ k ≤ 5) (hl : m_st ls (z : Nat) (k, x) = some l) (K : At M (pc + 1) r → Wv D nc ns M (pc + 1) l (st) F Q) : Wv D nc ns M pc ls ((k, x) :: st) F Q := wv_ok hA.hd (fun c s => by show (if 2 ≤ k ∧ k ≤ 5 then _ else _) = _; rw [if_pos hk]; show m_put _ _ _ _ = _; rw [hl]; rfl) (K hA.tl)
theorem w_iinc (hA : At M pc (some (.iinc n v, q) :: none :: none :: r)) (l : ML) (hx : ls[n]? = some (some (0, x))) (h : -2147483648 ≤ x + v ∧ x + v < 2147483648) (hl : m_st ls n (0, x + v) = some l) (K : At M (pc + 3) r → Wv D nc ns M (pc + 3) l (st) F Q) : Wv D nc ns M pc ls (st) F Q := wv_ok hA.hd (fun c s => by show (match ls[n]? with | some (some (0, x)) => m_put (m_st ls n (0, w32 (x + v))) (pc + 3) st _ | _ => m_ko) = _; rw [hx]; show m_put _ _ _ _ = _; rw [w32_id h, hl]; rfl) (K hA.tl3)
theorem w_iadd (hA : At M pc (some (.iadd, q) :: r)) (h : -2147483648 ≤ x + y ∧ x + y < 2147483648) (K : At M (pc + 1) r → Wv D nc ns M (pc + 1) ls ((0, x + y) :: st) F Q) : Wv D nc ns M pc ls ((0, y) :: (0, x) :: st) F Q := wv_ok hA.hd (fun c s => by show Except.ok (pc + 1, ls, (0, w32 (x + y)) :: st, _) = _; rw [w32_id h]) (K hA.tl)
theorem w_isub (hA : At M pc (some (.isub, q) :: r)) (h : -2147483648 ≤ x - y ∧ x - y < 2147483648) (K : At M (pc + 1) r → Wv D nc ns M (pc + 1) ls ((0, x - y) :: st) F Q) : Wv D nc ns M pc ls ((0, y) :: (0, x) :: st) F Q := wv_ok hA.hd (fun c s => by show Except.ok (pc + 1, ls, (0, w32 (x - y)) :: st, _) = _; rw [w32_id h]) (K hA.tl)
theorem w_imul (hA : At M pc (some (.imul, q) :: r)) (h : -2147483648 ≤ x * y ∧ x * y < 2147483648) (K : At M (pc + 1) r → Wv D nc ns M (pc + 1) ls ((0, x * y) :: st) F Q) : Wv D nc ns M pc ls ((0, y) :: (0, x) :: st) F Q := wv_ok hA.hd (fun c s => by show Except.ok (pc + 1, ls, (0, w32 (x * y)) :: st, _) = _; rw [w32_id h]) (K hA.tl)
theorem w_iand (hA : At M pc (some (.iand, q) :: r))  (K : At M (pc + 1) r → Wv D nc ns M (pc + 1) ls ((0, m_and x y) :: st) F Q) : Wv D nc ns M pc ls ((0, y) :: (0, x) :: st) F Q := wv_ok hA.hd (fun c s => rfl) (K hA.tl)
theorem w_ior (hA : At M pc (some (.ior, q) :: r))  (K : At M (pc + 1) r → Wv D nc ns M (pc + 1) ls ((0, m_or x y) :: st) F Q) : Wv D nc ns M pc ls ((0, y) :: (0, x) :: st) F Q := wv_ok hA.hd (fun c s => rfl) (K hA.tl)
theorem w_idiv (hA : At M pc (some (.idiv, q) :: r)) (h : 0 ≤ x ∧ x < 2147483648 ∧ 0 < y) (K : At M (pc + 1) r → Wv D nc ns M (pc + 1) ls ((0, x / y) :: st) F Q) : Wv D nc ns M pc ls ((0, y) :: (0, x) :: st) F Q := wv_ok hA.hd (fun c s => by show (if y = 0 then _ else _) = _; rw [if_neg (by omega), Int.tdiv_eq_ediv_of_nonneg h.1, w32_id (by have := Int.ediv_nonneg h.1 (Int.le_of_lt h.2.2); have := Int.ediv_le_self y h.1; omega)]) (K hA.tl)
theorem w_irem (hA : At M pc (some (.irem, q) :: r)) (h : 0 ≤ x ∧ 0 < y) (K : At M (pc + 1) r → Wv D nc ns M (pc + 1) ls ((0, x % y) :: st) F Q) : Wv D nc ns M pc ls ((0, y) :: (0, x) :: st) F Q := wv_ok hA.hd (fun c s => by show (if y = 0 then _ else _) = _; rw [if_neg (by omega), Int.tmod_eq_emod_of_nonneg h.1]) (K hA.tl)
theorem w_ishl (hA : At M pc (some (.ishl, q) :: r)) (h : 0 ≤ y ∧ y < 32) (K : At M (pc + 1) r → Wv D nc ns M (pc + 1) ls ((0, m_shl x y) :: st) F Q) : Wv D nc ns M pc ls ((0, y) :: (0, x) :: st) F Q := wv_ok hA.hd (fun c s => by show (if 0 ≤ y ∧ y < 32 then _ else _) = _; rw [if_pos h]) (K hA.tl)
theorem w_ishr (hA : At M pc (some (.ishr, q) :: r)) (h : 0 ≤ y ∧ y < 32) (K : At M (pc + 1) r → Wv D nc ns M (pc + 1) ls ((0, m_shr x y) :: st) F Q) : Wv D nc ns M pc ls ((0, y) :: (0, x) :: st) F Q := wv_ok hA.hd (fun c s => by show (if 0 ≤ y ∧ y < 32 then _ else _) = _; rw [if_pos h]) (K hA.tl)
theorem w_iushr (hA : At M pc (some (.iushr, q) :: r)) (h : 0 ≤ y ∧ y < 32) (K : At M (pc + 1) r → Wv D nc ns M (pc + 1) ls ((0, m_ushr x y) :: st) F Q) : Wv D nc ns M pc ls ((0, y) :: (0, x) :: st) F Q := wv_ok hA.hd (fun c s => by show (if 0 ≤ y ∧ y < 32 then _ else _) = _; rw [if_pos h]) (K hA.tl)
theorem w_ladd (hA : At M pc (some (.ladd, q) :: r))  (K : At M (pc + 1) r → Wv D nc ns M (pc + 1) ls ((1, w64 (x + y)) :: st) F Q) : Wv D nc ns M pc ls ((1, y) :: (1, x) :: st) F Q := wv_ok hA.hd (fun c s => rfl) (K hA.tl)
theorem w_lsub (hA : At M pc (some (.lsub, q) :: r))  (K : At M (pc + 1) r → Wv D nc ns M (pc + 1) ls ((1, w64 (x - y)) :: st) F Q) : Wv D nc ns M pc ls ((1, y) :: (1, x) :: st) F Q := wv_ok hA.hd (fun c s => rfl) (K hA.tl)
theorem w_lmul (hA : At M pc (some (.lmul, q) :: r))  (K : At M (pc + 1) r → Wv D nc ns M (pc + 1) ls ((1, w64 (x * y)) :: st) F Q) : Wv D nc ns M pc ls ((1, y) :: (1, x) :: st) F Q := wv_ok hA.hd (fun c s => rfl) (K hA.tl)
theorem w_lcmp (hA : At M pc (some (.lcmp, q) :: r))  (K : At M (pc + 1) r → Wv D nc ns M (pc + 1) ls ((0, if x < y then -1 else if x = y then 0 else 1) :: st) F Q) : Wv D nc ns M pc ls ((1, y) :: (1, x) :: st) F Q := wv_ok hA.hd (fun c s => rfl) (K hA.tl)
theorem w_i2l (hA : At M pc (some (.i2l, q) :: r))  (K : At M (pc + 1) r → Wv D nc ns M (pc + 1) ls ((1, x) :: st) F Q) : Wv D nc ns M pc ls ((0, x) :: st) F Q := wv_ok hA.hd (fun c s => rfl) (K hA.tl)
theorem w_i2c (hA : At M pc (some (.i2c, q) :: r)) (h : 0 ≤ x ∧ x < 65536) (K : At M (pc + 1) r → Wv D nc ns M (pc + 1) ls ((0, x) :: st) F Q) : Wv D nc ns M pc ls ((0, x) :: st) F Q := wv_ok hA.hd (fun c s => by show Except.ok (pc + 1, ls, (0, x % 65536) :: st, _) = _; rw [Int.emod_eq_of_lt h.1 h.2]) (K hA.tl)
theorem w_i2c_w (hA : At M pc (some (.i2c, q) :: r))  (K : At M (pc + 1) r → Wv D nc ns M (pc + 1) ls ((0, x % 65536) :: st) F Q) : Wv D nc ns M pc ls ((0, x) :: st) F Q := wv_ok hA.hd (fun c s => rfl) (K hA.tl)
theorem w_i2b (hA : At M pc (some (.i2b, q) :: r))  (K : At M (pc + 1) r → Wv D nc ns M (pc + 1) ls ((0, (x + 128) % 256 - 128) :: st) F Q) : Wv D nc ns M pc ls ((0, x) :: st) F Q := wv_ok hA.hd (fun c s => rfl) (K hA.tl)
theorem w_dup0 (hA : At M pc (some (.dup, q) :: r))  (K : At M (pc + 1) r → Wv D nc ns M (pc + 1) ls ((0, x) :: (0, x) :: st) F Q) : Wv D nc ns M pc ls ((0, x) :: st) F Q := wv_ok hA.hd (fun c s => rfl) (K hA.tl)
theorem w_dup2r (hA : At M pc (some (.dup, q) :: r))  (K : At M (pc + 1) r → Wv D nc ns M (pc + 1) ls ((2, x) :: (2, x) :: st) F Q) : Wv D nc ns M pc ls ((2, x) :: st) F Q := wv_ok hA.hd (fun c s => rfl) (K hA.tl)
theorem w_dup2 (hA : At M pc (some (.dup2, q) :: r))  (K : At M (pc + 1) r → Wv D nc ns M (pc + 1) ls ((0, y) :: (2, x) :: (0, y) :: (2, x) :: st) F Q) : Wv D nc ns M pc ls ((0, y) :: (2, x) :: st) F Q := wv_ok hA.hd (fun c s => rfl) (K hA.tl)
theorem w_pop0 (hA : At M pc (some (.pop, q) :: r))  (K : At M (pc + 1) r → Wv D nc ns M (pc + 1) ls (st) F Q) : Wv D nc ns M pc ls ((0, x) :: st) F Q := wv_ok hA.hd (fun c s => rfl) (K hA.tl)
theorem w_pop2 (hA : At M pc (some (.pop2, q) :: r))  (K : At M (pc + 1) r → Wv D nc ns M (pc + 1) ls (st) F Q) : Wv D nc ns M pc ls ((1, x) :: st) F Q := wv_ok hA.hd (fun c s => rfl) (K hA.tl)
theorem w_if_eq {off : Int} {t : Nat} (hA : At M pc (some (.ifCond .eq off, q) :: none :: none :: r)) (ht : (pc : Int) + off = (t : Int)) (J : (x = 0 → Wv D nc ns M t ls st F Q)) (K : (¬ x = 0 → At M (pc + 3) r → Wv D nc ns M (pc + 3) ls st F Q)) : Wv D nc ns M pc ls ((0, x) :: st) F Q := by
  by_cases h : x = 0
  · exact wv_ok hA.hd (fun c s => by show (if x = 0 then m_go pc off ls st _ else Except.ok (pc + 3, ls, st, _)) = _; rw [if_pos h]; exact m_goT ht) (J h)
  · exact wv_ok hA.hd (fun c s => by show (if x = 0 then m_go pc off ls st _ else Except.ok (pc + 3, ls, st, _)) = _; rw [if_neg h]) (K h hA.tl3)
theorem w_ic_eq {off : Int} {t : Nat} (hA : At M pc (some (.if_icmp .eq off, q) :: none :: none :: r)) (ht : (pc : Int) + off = (t : Int)) (J : (x = y → Wv D nc ns M t ls st F Q)) (K : (¬ x = y → At M (pc + 3) r → Wv D nc ns M (pc + 3) ls st F Q)) : Wv D nc ns M pc ls ((0, y) :: (0, x) :: st) F Q := by
  by_cases h : x = y
  · exact wv_ok hA.hd (fun c s => by show (if x = y then m_go pc off ls st _ else Except.ok (pc + 3, ls, st, _)) = _; rw [if_pos h]; exact m_goT ht) (J h)
  · exact wv_ok hA.hd (fun c s => by show (if x = y then m_go pc off ls st _ else Except.ok (pc + 3, ls, st, _)) = _; rw [if_neg h]) (K h hA.tl3)
theorem w_if_ne {off : Int} {t : Nat} (hA : At M pc (some (.ifCond .ne off, q) :: none :: none :: r)) (ht : (pc : Int) + off = (t : Int)) (J : (¬ x = 0 → Wv D nc ns M t ls st F Q)) (K : (x = 0 → At M (pc + 3) r → Wv D nc ns M (pc + 3) ls st F Q)) : Wv D nc ns M pc ls ((0, x) :: st) F Q := by
  by_cases h : x = 0
  · exact wv_ok hA.hd (fun c s => by show (if x = 0 then Except.ok (pc + 3, ls, st, _) else m_go pc off ls st _) = _; rw [if_pos h]) (K h hA.tl3)
  · exact wv_ok hA.hd (fun c s => by show (if x = 0 then Except.ok (pc + 3, ls, st, _) else m_go pc off ls st _) = _; rw [if_neg h]; exact m_goT ht) (J h)
theorem w_ic_ne {off : Int} {t : Nat} (hA : At M pc (some (.if_icmp .ne off, q) :: none :: none :: r)) (ht : (pc : Int) + off = (t : Int)) (J : (¬ x = y → Wv D nc ns M t ls st F Q)) (K : (x = y → At M (pc + 3) r → Wv D nc ns M (pc + 3) ls st F Q)) : Wv D nc ns M pc ls ((0, y) :: (0, x) :: st) F Q := by
  by_cases h : x = y
  · exact wv_ok hA.hd (fun c s => by show (if x = y then Except.ok (pc + 3, ls, st, _) else m_go pc off ls st _) = _; rw [if_pos h]) (K h hA.tl3)
  · exact wv_ok hA.hd (fun c s => by show (if x = y then Except.ok (pc + 3, ls, st, _) else m_go pc off ls st _) = _; rw [if_neg h]; exact m_goT ht) (J h)
theorem w_if_lt {off : Int} {t : Nat} (hA : At M pc (some (.ifCond .lt off, q) :: none :: none :: r)) (ht : (pc : Int) + off = (t : Int)) (J : (x < 0 → Wv D nc ns M t ls st F Q)) (K : (¬ x < 0 → At M (pc + 3) r → Wv D nc ns M (pc + 3) ls st F Q)) : Wv D nc ns M pc ls ((0, x) :: st) F Q := by
  by_cases h : x < 0
  · exact wv_ok hA.hd (fun c s => by show (if x < 0 then m_go pc off ls st _ else Except.ok (pc + 3, ls, st, _)) = _; rw [if_pos h]; exact m_goT ht) (J h)
  · exact wv_ok hA.hd (fun c s => by show (if x < 0 then m_go pc off ls st _ else Except.ok (pc + 3, ls, st, _)) = _; rw [if_neg h]) (K h hA.tl3)
theorem w_ic_lt {off : Int} {t : Nat} (hA : At M pc (some (.if_icmp .lt off, q) :: none :: none :: r)) (ht : (pc : Int) + off = (t : Int)) (J : (x < y → Wv D nc ns M t ls st F Q)) (K : (¬ x < y → At M (pc + 3) r → Wv D nc ns M (pc + 3) ls st F Q)) : Wv D nc ns M pc ls ((0, y) :: (0, x) :: st) F Q := by
  by_cases h : x < y
  · exact wv_ok hA.hd (fun c s => by show (if x < y then m_go pc off ls st _ else Except.ok (pc + 3, ls, st, _)) = _; rw [if_pos h]; exact m_goT ht) (J h)
  · exact wv_ok hA.hd (fun c s => by show (if x < y then m_go pc off ls st _ else Except.ok (pc + 3, ls, st, _)) = _; rw [if_neg h]) (K h hA.tl3)
theorem w_if_ge {off : Int} {t : Nat} (hA : At M pc (some (.ifCond .ge off, q) :: none :: none :: r)) (ht : (pc : Int) + off = (t : Int)) (J : (¬ x < 0 → Wv D nc ns M t ls st F Q)) (K : (x < 0 → At M (pc + 3) r → Wv D nc ns M (pc + 3) ls st F Q)) : Wv D nc ns M pc ls ((0, x) :: st) F Q := by
  by_cases h : x < 0
  · exact wv_ok hA.hd (fun c s => by show (if x < 0 then Except.ok (pc + 3, ls, st, _) else m_go pc off ls st _) = _; rw [if_pos h]) (K h hA.tl3)
  · exact wv_ok hA.hd (fun c s => by show (if x < 0 then Except.ok (pc + 3, ls, st, _) else m_go pc off ls st _) = _; rw [if_neg h]; exact m_goT ht) (J h)
theorem w_ic_ge {off : Int} {t : Nat} (hA : At M pc (some (.if_icmp .ge off, q) :: none :: none :: r)) (ht : (pc : Int) + off = (t : Int)) (J : (¬ x < y → Wv D nc ns M t ls st F Q)) (K : (x < y → At M (pc + 3) r → Wv D nc ns M (pc + 3) ls st F Q)) : Wv D nc ns M pc ls ((0, y) :: (0, x) :: st) F Q := by
  by_cases h : x < y
  · exact wv_ok hA.hd (fun c s => by show (if x < y then Except.ok (pc + 3, ls, st, _) else m_go pc off ls st _) = _; rw [if_pos h]) (K h hA.tl3)
  · exact wv_ok hA.hd (fun c s => by show (if x < y then Except.ok (pc + 3, ls, st, _) else m_go pc off ls st _) = _; rw [if_neg h]; exact m_goT ht) (J h)
theorem w_if_gt {off : Int} {t : Nat} (hA : At M pc (some (.ifCond .gt off, q) :: none :: none :: r)) (ht : (pc : Int) + off = (t : Int)) (J : (0 < x → Wv D nc ns M t ls st F Q)) (K : (¬ 0 < x → At M (pc + 3) r → Wv D nc ns M (pc + 3) ls st F Q)) : Wv D nc ns M pc ls ((0, x) :: st) F Q := by
  by_cases h : 0 < x
  · exact wv_ok hA.hd (fun c s => by show (if 0 < x then m_go pc off ls st _ else Except.ok (pc + 3, ls, st, _)) = _; rw [if_pos h]; exact m_goT ht) (J h)
  · exact wv_ok hA.hd (fun c s => by show (if 0 < x then m_go pc off ls st _ else Except.ok (pc + 3, ls, st, _)) = _; rw [if_neg h]) (K h hA.tl3)
theorem w_ic_gt {off : Int} {t : Nat} (hA : At M pc (some (.if_icmp .gt off, q) :: none :: none :: r)) (ht : (pc : Int) + off = (t : Int)) (J : (y < x → Wv D nc ns M t ls st F Q)) (K : (¬ y < x → At M (pc + 3) r → Wv D nc ns M (pc + 3) ls st F Q)) : Wv D nc ns M pc ls ((0, y) :: (0, x) :: st) F Q := by
  by_cases h : y < x
  · exact wv_ok hA.hd (fun c s => by show (if y < x then m_go pc off ls st _ else Except.ok (pc + 3, ls, st, _)) = _; rw [if_pos h]; exact m_goT ht) (J h)
  · exact wv_ok hA.hd (fun c s => by show (if y < x then m_go pc off ls st _ else Except.ok (pc + 3, ls, st, _)) = _; rw [if_neg h]) (K h hA.tl3)
theorem w_if_le {off : Int} {t : Nat} (hA : At M pc (some (.ifCond .le off, q) :: none :: none :: r)) (ht : (pc : Int) + off = (t : Int)) (J : (¬ 0 < x → Wv D nc ns M t ls st F Q)) (K : (0 < x → At M (pc + 3) r → Wv D nc ns M (pc + 3) ls st F Q)) : Wv D nc ns M pc ls ((0, x) :: st) F Q := by
  by_cases h : 0 < x
  · exact wv_ok hA.hd (fun c s => by show (if 0 < x then Except.ok (pc + 3, ls, st, _) else m_go pc off ls st _) = _; rw [if_pos h]) (K h hA.tl3)
  · exact wv_ok hA.hd (fun c s => by show (if 0 < x then Except.ok (pc + 3, ls, st, _) else m_go pc off ls st _) = _; rw [if_neg h]; exact m_goT ht) (J h)
theorem w_ic_le {off : Int} {t : Nat} (hA : At M pc (some (.if_icmp .le off, q) :: none :: none :: r)) (ht : (pc : Int) + off = (t : Int)) (J : (¬ y < x → Wv D nc ns M t ls st F Q)) (K : (y < x → At M (pc + 3) r → Wv D nc ns M (pc + 3) ls st F Q)) : Wv D nc ns M pc ls ((0, y) :: (0, x) :: st) F Q := by
  by_cases h : y < x
  · exact wv_ok hA.hd (fun c s => by show (if y < x then Except.ok (pc + 3, ls, st, _) else m_go pc off ls st _) = _; rw [if_pos h]) (K h hA.tl3)
  · exact wv_ok hA.hd (fun c s => by show (if y < x then Except.ok (pc + 3, ls, st, _) else m_go pc off ls st _) = _; rw [if_neg h]; exact m_goT ht) (J h)
theorem w_goto {off : Int} {t : Nat} (hA : At M pc (some (.goto off, q) :: r)) (ht : (pc : Int) + off = (t : Int)) (K : Wv D nc ns M t ls st F Q) : Wv D nc ns M pc ls st F Q := wv_ok hA.hd (fun c s => m_goT ht) K
theorem w_geti (v : Int) (hA : At M pc (some (.getfield z, (ci, k, j, nn)) :: none :: none :: r)) (hk : m_KD[n]? = some (ci, sz)) (hs : k < sz) (hf : (m_fty ci k == 0 || m_fty ci k == 2 || m_fty ci k == 3) = true) (hv : F n k = v) (K : At M (pc + 3) r → Wv D nc ns M (pc + 3) ls ((0, v) :: st) F Q) : Wv D nc ns M pc ls (m_r n :: st) F Q :=
  wv_ok hA.hd (fun c s => by
    show (if (m_kind (F, m_KD, c, s) ((n : Nat) : Int)).1 = ci ∧ k < (m_kind (F, m_KD, c, s) ((n : Nat) : Int)).2 then _ else _) = _
    rw [m_kd hk, if_pos ⟨rfl, hs⟩, ← hv]
    simp only [Bool.or_eq_true, beq_iff_eq] at hf
    dsimp only
    rcases hf with (h | h) | h <;> rw [h] <;> rfl) (K hA.tl3)
theorem w_getl (v : Int) (hA : At M pc (some (.getfield z, (ci, k, j, nn)) :: none :: none :: r)) (hk : m_KD[n]? = some (ci, sz)) (hs : k < sz) (hf : m_fty ci k = 1) (hv : F n k = v) (K : At M (pc + 3) r → Wv D nc ns M (pc + 3) ls ((1, v) :: st) F Q) : Wv D nc ns M pc ls (m_r n :: st) F Q :=
  wv_ok hA.hd (fun c s => by
    show (if (m_kind (F, m_KD, c, s) ((n : Nat) : Int)).1 = ci ∧ k < (m_kind (F, m_KD, c, s) ((n : Nat) : Int)).2 then _ else _) = _
    rw [m_kd hk, if_pos ⟨rfl, hs⟩, ← hv]
    dsimp only
    rw [hf]
    rfl) (K hA.tl3)
theorem w_getr (b : Nat) (hA : At M pc (some (.getfield z, (ci, k, j, nn)) :: none :: none :: r)) (hk : m_KD[n]? = some (ci, sz)) (hs : k < sz) (hf : m_fty ci k = 4) (hb : F n k = (b : Int)) (K : At M (pc + 3) r → Wv D nc ns M (pc + 3) ls (m_r b :: st) F Q) : Wv D nc ns M pc ls (m_r n :: st) F Q :=
  wv_ok hA.hd (fun c s => by
    show (if (m_kind (F, m_KD, c, s) ((n : Nat) : Int)).1 = ci ∧ k < (m_kind (F, m_KD, c, s) ((n : Nat) : Int)).2 then m_of (m_fty ci k) (F n k) (pc + 3) ls st _ else _) = _
    rw [m_kd hk, if_pos ⟨rfl, hs⟩, hf, hb]
    unfold m_of
    rw [if_pos (Int.natCast_nonneg b)]
    rfl) (K hA.tl3)
theorem w_put {t : Nat} (hA : At M pc (some (.putfield z, (ci, k, j, nn)) :: none :: none :: r)) (hk : m_KD[n]? = some (ci, sz)) (hs : k < sz) (hf : m_fit (m_fty ci k) (t, x) = true) (K : At M (pc + 3) r → Wv D nc ns M (pc + 3) ls st (m_up F n k x) Q) : Wv D nc ns M pc ls ((t, x) :: m_r n :: st) F Q :=
  wv_ok hA.hd (fun c s => by
    show (if (m_kind (F, m_KD, c, s) ((n : Nat) : Int)).1 = ci ∧ k < (m_kind (F, m_KD, c, s) ((n : Nat) : Int)).2 ∧ m_fit (m_fty ci k) (t, x) = true then _ else _) = _
    rw [m_kd hk, if_pos ⟨rfl, hs, hf⟩]
    rfl) (K hA.tl3)
theorem w_iaload (v : Int) (hA : At M pc (some (.iaload, q) :: r)) (hk : m_KD[n]? = some (100, sz)) (hi : 0 ≤ i ∧ i < (sz : Int)) (hv : F n i.toNat = v) (K : At M (pc + 1) r → Wv D nc ns M (pc + 1) ls ((0, v) :: st) F Q) : Wv D nc ns M pc ls ((0, i) :: m_r n :: st) F Q := wv_ok hA.hd (fun c s => by show (if (m_kind (F, m_KD, c, s) ((n : Nat) : Int)).1 = 100 ∧ 0 ≤ i ∧ i < (m_kind (F, m_KD, c, s) ((n : Nat) : Int)).2 then _ else _) = _; rw [m_kd hk, if_pos ⟨rfl, hi⟩, ← hv]; rfl) (K hA.tl)
theorem w_laload (v : Int) (hA : At M pc (some (.laload, q) :: r)) (hk : m_KD[n]? = some (101, sz)) (hi : 0 ≤ i ∧ i < (sz : Int)) (hv : F n i.toNat = v) (K : At M (pc + 1) r → Wv D nc ns M (pc + 1) ls ((1, v) :: st) F Q) : Wv D nc ns M pc ls ((0, i) :: m_r n :: st) F Q := wv_ok hA.hd (fun c s => by show (if (m_kind (F, m_KD, c, s) ((n : Nat) : Int)).1 = 101 ∧ 0 ≤ i ∧ i < (m_kind (F, m_KD, c, s) ((n : Nat) : Int)).2 then _ else _) = _; rw [m_kd hk, if_pos ⟨rfl, hi⟩, ← hv]; rfl) (K hA.tl)
theorem w_caload (v : Int) (hA : At M pc (some (.caload, q) :: r)) (hk : m_KD[n]? = some (102, sz)) (hi : 0 ≤ i ∧ i < (sz : Int)) (hv : F n i.toNat = v) (K : At M (pc + 1) r → Wv D nc ns M (pc + 1) ls ((0, v) :: st) F Q) : Wv D nc ns M pc ls ((0, i) :: m_r n :: st) F Q := wv_ok hA.hd (fun c s => by show (if (m_kind (F, m_KD, c, s) ((n : Nat) : Int)).1 = 102 ∧ 0 ≤ i ∧ i < (m_kind (F, m_KD, c, s) ((n : Nat) : Int)).2 then _ else _) = _; rw [m_kd hk, if_pos ⟨rfl, hi⟩, ← hv]; rfl) (K hA.tl)
theorem w_baload (v : Int) (hA : At M pc (some (.baload, q) :: r)) (hk : m_KD[n]? = some (103, sz)) (hi : 0 ≤ i ∧ i < (sz : Int)) (hv : F n i.toNat = v) (K : At M (pc + 1) r → Wv D nc ns M (pc + 1) ls ((0, v) :: st) F Q) : Wv D nc ns M pc ls ((0, i) :: m_r n :: st) F Q := wv_ok hA.hd (fun c s => by show (if (m_kind (F, m_KD, c, s) ((n : Nat) : Int)).1 = 103 ∧ 0 ≤ i ∧ i < (m_kind (F, m_KD, c, s) ((n : Nat) : Int)).2 then _ else _) = _; rw [m_kd hk, if_pos ⟨rfl, hi⟩, ← hv]; rfl) (K hA.tl)
theorem w_iastore (hA : At M pc (some (.iastore, q) :: r)) (hk : m_KD[n]? = some (100, sz)) (hi : 0 ≤ i ∧ i < (sz : Int)) (K : At M (pc + 1) r → Wv D nc ns M (pc + 1) ls st (m_up F n i.toNat x) Q) : Wv D nc ns M pc ls ((0, x) :: (0, i) :: m_r n :: st) F Q := wv_ok hA.hd (fun c s => by show (if (m_kind (F, m_KD, c, s) ((n : Nat) : Int)).1 = 100 ∧ 0 ≤ i ∧ i < (m_kind (F, m_KD, c, s) ((n : Nat) : Int)).2 ∧ m_fit 0 (0, x) = true then _ else _) = _; rw [m_kd hk, if_pos ⟨rfl, hi.1, hi.2, rfl⟩]; rfl) (K hA.tl)
theorem w_lastore (hA : At M pc (some (.lastore, q) :: r)) (hk : m_KD[n]? = some (101, sz)) (hi : 0 ≤ i ∧ i < (sz : Int)) (K : At M (pc + 1) r → Wv D nc ns M (pc + 1) ls st (m_up F n i.toNat x) Q) : Wv D nc ns M pc ls ((1, x) :: (0, i) :: m_r n :: st) F Q := wv_ok hA.hd (fun c s => by show (if (m_kind (F, m_KD, c, s) ((n : Nat) : Int)).1 = 101 ∧ 0 ≤ i ∧ i < (m_kind (F, m_KD, c, s) ((n : Nat) : Int)).2 ∧ m_fit 1 (1, x) = true then _ else _) = _; rw [m_kd hk, if_pos ⟨rfl, hi.1, hi.2, rfl⟩]; rfl) (K hA.tl)
theorem w_castore (hA : At M pc (some (.castore, q) :: r)) (hk : m_KD[n]? = some (102, sz)) (hi : 0 ≤ i ∧ i < (sz : Int)) (hx : 0 ≤ x ∧ x < 65536) (K : At M (pc + 1) r → Wv D nc ns M (pc + 1) ls st (m_up F n i.toNat x) Q) : Wv D nc ns M pc ls ((0, x) :: (0, i) :: m_r n :: st) F Q := wv_ok hA.hd (fun c s => by show (if (m_kind (F, m_KD, c, s) ((n : Nat) : Int)).1 = 102 ∧ 0 ≤ i ∧ i < (m_kind (F, m_KD, c, s) ((n : Nat) : Int)).2 ∧ m_fit 3 (0, x) = true then _ else _) = _; rw [m_kd hk, if_pos ⟨rfl, hi.1, hi.2, m_fit3 hx⟩]; rfl) (K hA.tl)
theorem w_bastore (hA : At M pc (some (.bastore, q) :: r)) (hk : m_KD[n]? = some (103, sz)) (hi : 0 ≤ i ∧ i < (sz : Int)) (hx : x = 0 ∨ x = 1) (K : At M (pc + 1) r → Wv D nc ns M (pc + 1) ls st (m_up F n i.toNat x) Q) : Wv D nc ns M pc ls ((0, x) :: (0, i) :: m_r n :: st) F Q := wv_ok hA.hd (fun c s => by show (if (m_kind (F, m_KD, c, s) ((n : Nat) : Int)).1 = 103 ∧ 0 ≤ i ∧ i < (m_kind (F, m_KD, c, s) ((n : Nat) : Int)).2 ∧ m_fit 2 (0, x) = true then _ else _) = _; rw [m_kd hk, if_pos ⟨rfl, hi.1, hi.2, m_fit2 hx⟩]; rfl) (K hA.tl)
theorem w_aaload (b : Nat) (hA : At M pc (some (.aaload, q) :: r)) (hk : m_KD[n]? = some (kd, sz)) (hd : 110 ≤ kd ∧ kd < 150) (hi : 0 ≤ i ∧ i < (sz : Int)) (hb : F n i.toNat = (b : Int)) (K : At M (pc + 1) r → Wv D nc ns M (pc + 1) ls (m_r b :: st) F Q) : Wv D nc ns M pc ls ((0, i) :: m_r n :: st) F Q :=
  wv_ok hA.hd (fun c s => by
    show (if 110 ≤ (m_kind (F, m_KD, c, s) ((n : Nat) : Int)).1 ∧ (m_kind (F, m_KD, c, s) ((n : Nat) : Int)).1 < 150 ∧ 0 ≤ i ∧ i < (m_kind (F, m_KD, c, s) ((n : Nat) : Int)).2 ∧ 0 ≤ F ((n : Nat) : Int).toNat i.toNat then Except.ok (pc + 1, ls, (2, F n i.toNat) :: st, _) else _) = _
    rw [m_kd hk, Int.toNat_natCast, hb, if_pos ⟨hd.1, hd.2, hi.1, hi.2, Int.natCast_nonneg b⟩]) (K hA.tl)
theorem w_iald4 (hA : At M pc (some (.iaload, q) :: r)) (hi : 0 ≤ i) (hn : 2 ≤ n ∧ n < 3) (hx : (m_ct n)[i.toNat]? = some x) (K : At M (pc + 1) r → Wv D nc ns M (pc + 1) ls ((0, x) :: st) F Q) : Wv D nc ns M pc ls ((0, i) :: (4, (n : Int)) :: st) F Q :=
  wv_ok hA.hd (fun c s => by
    show (if 0 ≤ i ∧ ((2 : Nat) : Int) ≤ (n : Int) ∧ (n : Int) < ((3 : Nat) : Int) then (match (m_ct (n : Int).toNat)[i.toNat]? with | some x => .ok (pc + 1, ls, (0, x) :: st, _) | none => m_ko) else m_ko) = _
    rw [if_pos ⟨hi, by omega, by omega⟩, Int.toNat_natCast, hx]) (K hA.tl)
theorem w_bald4 (hA : At M pc (some (.baload, q) :: r)) (hi : 0 ≤ i) (hn : 5 ≤ n ∧ n < 34) (hx : (m_ct n)[i.toNat]? = some x) (K : At M (pc + 1) r → Wv D nc ns M (pc + 1) ls ((0, x) :: st) F Q) : Wv D nc ns M pc ls ((0, i) :: (4, (n : Int)) :: st) F Q :=
  wv_ok hA.hd (fun c s => by
    show (if 0 ≤ i ∧ ((5 : Nat) : Int) ≤ (n : Int) ∧ (n : Int) < ((34 : Nat) : Int) then (match (m_ct (n : Int).toNat)[i.toNat]? with | some x => .ok (pc + 1, ls, (0, x) :: st, _) | none => m_ko) else m_ko) = _
    rw [if_pos ⟨hi, by omega, by omega⟩, Int.toNat_natCast, hx]) (K hA.tl)
theorem w_cald4 (hA : At M pc (some (.caload, q) :: r)) (hi : 0 ≤ i) (hn : 3 ≤ n ∧ n < 5) (hx : (m_ct n)[i.toNat]? = some x) (K : At M (pc + 1) r → Wv D nc ns M (pc + 1) ls ((0, x) :: st) F Q) : Wv D nc ns M pc ls ((0, i) :: (4, (n : Int)) :: st) F Q :=
  wv_ok hA.hd (fun c s => by
    show (if 0 ≤ i ∧ ((3 : Nat) : Int) ≤ (n : Int) ∧ (n : Int) < ((5 : Nat) : Int) then (match (m_ct (n : Int).toNat)[i.toNat]? with | some x => .ok (pc + 1, ls, (0, x) :: st, _) | none => m_ko) else m_ko) = _
    rw [if_pos ⟨hi, by omega, by omega⟩, Int.toNat_natCast, hx]) (K hA.tl)
theorem w_alen (hA : At M pc (some (.arraylength, q) :: r)) (hk : m_KD[n]? = some (kd, sz)) (hd : 100 ≤ kd ∧ kd < 150) (K : At M (pc + 1) r → Wv D nc ns M (pc + 1) ls ((0, (sz : Int)) :: st) F Q) : Wv D nc ns M pc ls (m_r n :: st) F Q :=
  wv_ok hA.hd (fun c s => by
    show (if 100 ≤ (m_kind (F, m_KD, c, s) ((n : Nat) : Int)).1 ∧ (m_kind (F, m_KD, c, s) ((n : Nat) : Int)).1 < 150 then Except.ok (pc + 1, ls, (0, ((m_kind (F, m_KD, c, s) ((n : Nat) : Int)).2 : Int)) :: st, _) else _) = _
    rw [m_kd hk, if_pos hd]) (K hA.tl)
theorem w_alen4 (hA : At M pc (some (.arraylength, q) :: r)) (hn : 2 ≤ n ∧ n < 34) (K : At M (pc + 1) r → Wv D nc ns M (pc + 1) ls ((0, ((m_ct n).length : Int)) :: st) F Q) : Wv D nc ns M pc ls ((4, (n : Int)) :: st) F Q :=
  wv_ok hA.hd (fun c s => by
    show (if (2 : Int) ≤ (n : Int) ∧ (n : Int) < 34 then Except.ok (pc + 1, ls, (0, ((m_ct (n : Int).toNat).length : Int)) :: st, _) else _) = _
    rw [if_pos ⟨by omega, by omega⟩, Int.toNat_natCast]) (K hA.tl)
theorem w_acopy {n1 n2 s1 s2 : Nat} {dp sp m : Int} (hA : At M pc (some (.invokestatic z, (ci, k, j, 6)) :: none :: none :: r)) (hk1 : m_KD[n1]? = some (kd, s1)) (hk2 : m_KD[n2]? = some (kd, s2)) (hd : kd = 100 ∨ kd = 102) (hb : 0 ≤ m ∧ 0 ≤ dp ∧ 0 ≤ sp ∧ sp + m ≤ (s1 : Int) ∧ dp + m ≤ (s2 : Int)) (hc : m_cats st ≤ 8) (K : At M (pc + 3) r → Wv D nc ns M (pc + 3) ls st (m_cpy F n1 sp.toNat n2 dp.toNat m.toNat) Q) : Wv D nc ns M pc ls ((0, m) :: (0, dp) :: m_r n2 :: (0, sp) :: m_r n1 :: st) F Q :=
  wv_ok hA.hd (fun c s => by
    show (if ((m_kind (F, m_KD, c, s) ((n1 : Nat) : Int)).1 = 100 ∨ (m_kind (F, m_KD, c, s) ((n1 : Nat) : Int)).1 = 102) ∧ (m_kind (F, m_KD, c, s) ((n2 : Nat) : Int)).1 = (m_kind (F, m_KD, c, s) ((n1 : Nat) : Int)).1 ∧ 0 ≤ m ∧ 0 ≤ dp ∧ 0 ≤ sp ∧ sp + m ≤ (m_kind (F, m_KD, c, s) ((n1 : Nat) : Int)).2 ∧ dp + m ≤ (m_kind (F, m_KD, c, s) ((n2 : Nat) : Int)).2 ∧ m_cats st ≤ 8 then _ else _) = _
    rw [m_kd hk1, m_kd hk2, if_pos ⟨hd, rfl, hb.1, hb.2.1, hb.2.2.1, hb.2.2.2.1, hb.2.2.2.2, hc⟩]
    rfl) (K hA.tl3)
theorem w_getst (hA : At M pc (some (.getstatic z, (0, n, k, j)) :: none :: none :: r)) (K : At M (pc + 3) r → Wv D nc ns M (pc + 3) ls ((4, (n : Int)) :: st) F Q) : Wv D nc ns M pc ls st F Q := wv_ok hA.hd (fun c s => rfl) (K hA.tl3)
theorem w_getst1 (hA : At M pc (some (.getstatic z, (1, n, k, j)) :: none :: none :: r)) (K : At M (pc + 3) r → Wv D nc ns M (pc + 3) ls ((0, 1) :: st) F Q) : Wv D nc ns M pc ls st F Q := wv_ok hA.hd (fun c s => rfl) (K hA.tl3)
theorem w_getst2 (hA : At M pc (some (.getstatic z, (2, n, k, j)) :: none :: none :: r)) (K : At M (pc + 3) r → Wv D nc ns M (pc + 3) ls ((3, 0) :: st) F Q) : Wv D nc ns M pc ls st F Q := wv_ok hA.hd (fun c s => rfl) (K hA.tl3)
theorem w_gets5v (hA : At M pc (some (.getfield z, (100, 0, k, j)) :: none :: none :: r)) (K : At M (pc + 3) r → Wv D nc ns M (pc + 3) ls ((4, x + 5) :: st) F Q) : Wv D nc ns M pc ls ((5, x) :: st) F Q := wv_ok hA.hd (fun c s => rfl) (K hA.tl3)
theorem w_gets5c (hA : At M pc (some (.getfield z, (100, 1, k, j)) :: none :: none :: r)) (K : At M (pc + 3) r → Wv D nc ns M (pc + 3) ls ((0, 0) :: st) F Q) : Wv D nc ns M pc ls ((5, x) :: st) F Q := wv_ok hA.hd (fun c s => rfl) (K hA.tl3)
theorem w_iret (hA : At M pc (some (.ireturn, (n, k, ci, kd)) :: r)) (hf : m_fit n (0, x) = true) (K : Q (0, [(0, x)]) F) : Wv D nc ns M pc ls [(0, x)] F Q := wv_ret hA.hd (fun c s => by show (if m_fit n (0, x) = true ∨ (n = 5 ∧ x = 0) then _ else _) = _; rw [if_pos (Or.inl hf)]) K
theorem w_bret (hA : At M pc (some (.ireturn, (5, k, ci, kd)) :: r)) (hx : x = 0) (K : Q (0, [(0, x)]) F) : Wv D nc ns M pc ls [(0, x)] F Q := wv_ret hA.hd (fun c s => by show (if m_fit 5 (0, x) = true ∨ (5 = 5 ∧ x = 0) then _ else _) = _; rw [if_pos (Or.inr ⟨rfl, hx⟩)]) K
theorem w_lret (hA : At M pc (some (.lreturn, q) :: r)) (K : Q (0, [(1, x)]) F) : Wv D nc ns M pc ls [(1, x)] F Q := wv_ret hA.hd (fun c s => rfl) K
theorem w_aret2 (hA : At M pc (some (.areturn, q) :: r)) (K : Q (0, [(2, x)]) F) : Wv D nc ns M pc ls [(2, x)] F Q := wv_ret hA.hd (fun c s => rfl) K
theorem w_aret5 (hA : At M pc (some (.areturn, q) :: r)) (K : Q (0, [(5, x)]) F) : Wv D nc ns M pc ls [(5, x)] F Q := wv_ret hA.hd (fun c s => rfl) K
theorem w_vret (hA : At M pc (some (.return_, q) :: r)) (K : Q (0, []) F) : Wv D nc ns M pc ls [] F Q := wv_ret hA.hd (fun c s => rfl) K
theorem w_land (hA : At M pc (some (.land, q) :: r))  (K : At M (pc + 1) r → Wv D nc ns M (pc + 1) ls ((1, m_land x y) :: st) F Q) : Wv D nc ns M pc ls ((1, y) :: (1, x) :: st) F Q := wv_ok hA.hd (fun c s => rfl) (K hA.tl)
theorem w_lor (hA : At M pc (some (.lor, q) :: r))  (K : At M (pc + 1) r → Wv D nc ns M (pc + 1) ls ((1, m_lor x y) :: st) F Q) : Wv D nc ns M pc ls ((1, y) :: (1, x) :: st) F Q := wv_ok hA.hd (fun c s => rfl) (K hA.tl)
theorem w_lxor (hA : At M pc (some (.lxor, q) :: r))  (K : At M (pc + 1) r → Wv D nc ns M (pc + 1) ls ((1, m_lxor x y) :: st) F Q) : Wv D nc ns M pc ls ((1, y) :: (1, x) :: st) F Q := wv_ok hA.hd (fun c s => rfl) (K hA.tl)
theorem w_lshl (hA : At M pc (some (.lshl, q) :: r)) (h : 0 ≤ y ∧ y < 64) (K : At M (pc + 1) r → Wv D nc ns M (pc + 1) ls ((1, m_lshl x y) :: st) F Q) : Wv D nc ns M pc ls ((0, y) :: (1, x) :: st) F Q := wv_ok hA.hd (fun c s => by show (if 0 ≤ y ∧ y < 64 then _ else _) = _; rw [if_pos h]) (K hA.tl)
theorem w_lshr (hA : At M pc (some (.lshr, q) :: r)) (h : 0 ≤ y ∧ y < 64) (K : At M (pc + 1) r → Wv D nc ns M (pc + 1) ls ((1, m_shr x y) :: st) F Q) : Wv D nc ns M pc ls ((0, y) :: (1, x) :: st) F Q := wv_ok hA.hd (fun c s => by show (if 0 ≤ y ∧ y < 64 then _ else _) = _; rw [if_pos h]) (K hA.tl)
theorem w_l2i (hA : At M pc (some (.l2i, q) :: r))  (K : At M (pc + 1) r → Wv D nc ns M (pc + 1) ls ((0, w32 x) :: st) F Q) : Wv D nc ns M pc ls ((1, x) :: st) F Q := wv_ok hA.hd (fun c s => rfl) (K hA.tl)
theorem w_ldcn {z : Nat} (hA : At M pc (some (.ldc z, (3, n, k, ci)) :: none :: r))  (K : At M (pc + 2) r → Wv D nc ns M (pc + 2) ls ((0, -(n : Int)) :: st) F Q) : Wv D nc ns M pc ls (st) F Q := wv_ok hA.hd (fun c s => rfl) (K hA.tl2)
theorem w_ldcwn {z : Nat} (hA : At M pc (some (.ldc_w z, (3, n, k, ci)) :: none :: none :: r))  (K : At M (pc + 3) r → Wv D nc ns M (pc + 3) ls ((0, -(n : Int)) :: st) F Q) : Wv D nc ns M pc ls (st) F Q := wv_ok hA.hd (fun c s => rfl) (K hA.tl3)
theorem w_ldc2n {z : Nat} (hA : At M pc (some (.ldc2_w z, (3, n, k, ci)) :: none :: none :: r))  (K : At M (pc + 3) r → Wv D nc ns M (pc + 3) ls ((1, -(n : Int)) :: st) F Q) : Wv D nc ns M pc ls (st) F Q := wv_ok hA.hd (fun c s => rfl) (K hA.tl3)
end Ms5
section Ms5b
variable {D : Nat → Prop} {nc ns : Nat} {M pc : Nat} {ls : ML} {st : List MV} {F : MF} {Q : Nat × List MV → MF → Prop} {r : List (Option (Instr × LK))} {z N n j kc a sz gN gM v : Nat}
/-- what is thrown is caught at hp -/
def Wx (D : Nat → Prop) (nc ns M pc kc : Nat) (ls : ML) (Q : Nat × List MV → MF → Prop) (T : Nat → MF → Prop) : Prop := ∀ (e : Nat) (F1 : MF), St F1 → T e F1 → ∃ hp, m_hnd M pc e = some hp ∧ (kc = 0 ∨ kc = 2) ∧ 1 ≤ nc ∧ 6 ≤ ns ∧ Wv D (nc - 1) (ns - 6) M hp ls [(3, 0)] F1 Q
theorem Wx.no {Q : Nat × List MV → MF → Prop} : Wx D nc ns M pc kc ls Q m_no := fun _ _ _ h => h.elim
theorem w_csI (xs r0 : List MV) (hst : st = xs.reverse ++ r0) (hn : n = xs.length) (h8 : Nat.ble (m_cats r0) 8 = true) (hv : m_mls.getD N 0 = v) (hml : Nat.ble (m_cats xs) v = true) (hN : Nat.blt N 387 = true) (hgN : m_hg N = gN) (hgM : m_hg M = gM) (hg : Nat.blt gN gM = true) (hA : At M pc (some (.invokestatic z, (N, n, j, kc)) :: none :: none :: r)) (hkc : (kc == 0 || kc == 1 || kc == 7) = true) {R : Int → MF → Prop} {T : Nat → MF → Prop} (K0 : CaI N xs F R T) (KT : Wx D nc ns M pc kc ls Q T) (K : ∀ (r1 : Int) (F1 : MF), St F1 → R r1 F1 → Wv D nc ns M (pc + 3) ls ((0, r1) :: r0) F1 Q) : Wv D nc ns M pc ls st F Q := by
  have hgo : ∀ c s, mstep (.invokestatic z) (N, n, j, kc) pc ls st (F, m_KD, c, s) = .error (1, N, xs, r0) := fun c s => by
    simp only [Bool.or_eq_true, beq_iff_eq] at hkc
    show (if kc = 6 then _ else if kc = 0 ∨ kc = 1 ∨ kc = 7 then m_call N n st else m_ko) = _
    rw [if_neg (by omega), if_pos (by omega)]
    exact m_call_go hst hn h8 hv hml
  exact wv_call hA.hd hgo (Or.inl (Nat.blt_eq.mp hN)) (by rw [hgN, hgM]; exact Nat.blt_eq.mp hg) (Ev.mono K0 (fun o F1 => by
    rintro ⟨hS, h | ⟨e, rfl, h⟩⟩
    · left
      obtain ⟨r1, rfl, h⟩ := h
      exact ⟨rfl, K r1 F1 hS h⟩
    · right
      obtain ⟨hp, h1, h2, h3, h4, h5⟩ := KT e F1 hS h
      exact ⟨e, hp, rfl, h1, Nat.blt_eq.mp hN, h2, h3, h4, h5⟩))
theorem w_cvI (xs r0 : List MV) (hst : st = xs.reverse ++ r0) (hn : n = xs.length) (h8 : Nat.ble (m_cats r0) 8 = true) (hv : m_mls.getD N 0 = v) (hml : Nat.ble (m_cats xs) v = true) (hN : Nat.blt N 387 = true) (hgN : m_hg N = gN) (hgM : m_hg M = gM) (hg : Nat.blt gN gM = true) (hA : At M pc (some (.invokevirtual z, (N, n, j, kc)) :: none :: none :: r)) (hkc : (kc == 2 || kc == 3) = true) (hrc : ∀ c s, m_recv (F, m_KD, c, s) (m_own N) n st = true) {R : Int → MF → Prop} {T : Nat → MF → Prop} (K0 : CaI N xs F R T) (KT : Wx D nc ns M pc kc ls Q T) (K : ∀ (r1 : Int) (F1 : MF), St F1 → R r1 F1 → Wv D nc ns M (pc + 3) ls ((0, r1) :: r0) F1 Q) : Wv D nc ns M pc ls st F Q := by
  have hgo : ∀ c s, mstep (.invokevirtual z) (N, n, j, kc) pc ls st (F, m_KD, c, s) = .error (1, N, xs, r0) := fun c s => by
    simp only [Bool.or_eq_true, beq_iff_eq] at hkc
    show (if kc = 2 ∨ kc = 3 then (if m_recv (F, m_KD, c, s) (m_own N) n st = true then m_call N n st else m_ko) else m_ko) = _
    rw [if_pos hkc, if_pos (hrc c s)]
    exact m_call_go hst hn h8 hv hml
  exact wv_call hA.hd hgo (Or.inl (Nat.blt_eq.mp hN)) (by rw [hgN, hgM]; exact Nat.blt_eq.mp hg) (Ev.mono K0 (fun o F1 => by
    rintro ⟨hS, h | ⟨e, rfl, h⟩⟩
    · left
      obtain ⟨r1, rfl, h⟩ := h
      exact ⟨rfl, K r1 F1 hS h⟩
    · right
      obtain ⟨hp, h1, h2, h3, h4, h5⟩ := KT e F1 hS h
      exact ⟨e, hp, rfl, h1, Nat.blt_eq.mp hN, h2, h3, h4, h5⟩))
theorem w_csIg {g : Int} (xs r0 : List MV) (hst : st = xs.reverse ++ r0) (hn : n = xs.length) (h8 : Nat.ble (m_cats r0) 8 = true) (hv : m_mls.getD N 0 = v) (hml : Nat.ble (m_cats xs) v = true) (hN : Nat.blt N 387 = true) (hgN : m_hg N = gN) (hgM : m_hg M = gM) (hg : Nat.blt gN gM = true) (hA : At M pc (some (.invokestatic z, (N, n, j, kc)) :: none :: none :: r)) (hkc : (kc == 0 || kc == 1 || kc == 7) = true) (K0 : CaI N xs F (fun r1 F1 => r1 = g ∧ F = F1) m_no) (K : Wv D nc ns M (pc + 3) ls ((0, g) :: r0) F Q) : Wv D nc ns M pc ls st F Q := w_csI xs r0 hst hn h8 hv hml hN hgN hgM hg hA hkc K0 Wx.no (fun r1 F1 _ h => by obtain ⟨rfl, rfl⟩ := h; exact K)
theorem w_cvIg {g : Int} (xs r0 : List MV) (hst : st = xs.reverse ++ r0) (hn : n = xs.length) (h8 : Nat.ble (m_cats r0) 8 = true) (hv : m_mls.getD N 0 = v) (hml : Nat.ble (m_cats xs) v = true) (hN : Nat.blt N 387 = true) (hgN : m_hg N = gN) (hgM : m_hg M = gM) (hg : Nat.blt gN gM = true) (hA : At M pc (some (.invokevirtual z, (N, n, j, kc)) :: none :: none :: r)) (hkc : (kc == 2 || kc == 3) = true) (hrc : ∀ c s, m_recv (F, m_KD, c, s) (m_own N) n st = true) (K0 : CaI N xs F (fun r1 F1 => r1 = g ∧ F = F1) m_no) (K : Wv D nc ns M (pc + 3) ls ((0, g) :: r0) F Q) : Wv D nc ns M pc ls st F Q := w_cvI xs r0 hst hn h8 hv hml hN hgN hgM hg hA hkc hrc K0 Wx.no (fun r1 F1 _ h => by obtain ⟨rfl, rfl⟩ := h; exact K)
theorem w_csL (xs r0 : List MV) (hst : st = xs.reverse ++ r0) (hn : n = xs.length) (h8 : Nat.ble (m_cats r0) 8 = true) (hv : m_mls.getD N 0 = v) (hml : Nat.ble (m_cats xs) v = true) (hN : Nat.blt N 387 = true) (hgN : m_hg N = gN) (hgM : m_hg M = gM) (hg : Nat.blt gN gM = true) (hA : At M pc (some (.invokestatic z, (N, n, j, kc)) :: none :: none :: r)) (hkc : (kc == 0 || kc == 1 || kc == 7) = true) {R : Int → MF → Prop} {T : Nat → MF → Prop} (K0 : CaL N xs F R T) (KT : Wx D nc ns M pc kc ls Q T) (K : ∀ (r1 : Int) (F1 : MF), St F1 → R r1 F1 → Wv D nc ns M (pc + 3) ls ((1, r1) :: r0) F1 Q) : Wv D nc ns M pc ls st F Q := by
  have hgo : ∀ c s, mstep (.invokestatic z) (N, n, j, kc) pc ls st (F, m_KD, c, s) = .error (1, N, xs, r0) := fun c s => by
    simp only [Bool.or_eq_true, beq_iff_eq] at hkc
    show (if kc = 6 then _ else if kc = 0 ∨ kc = 1 ∨ kc = 7 then m_call N n st else m_ko) = _
    rw [if_neg (by omega), if_pos (by omega)]
    exact m_call_go hst hn h8 hv hml
  exact wv_call hA.hd hgo (Or.inl (Nat.blt_eq.mp hN)) (by rw [hgN, hgM]; exact Nat.blt_eq.mp hg) (Ev.mono K0 (fun o F1 => by
    rintro ⟨hS, h | ⟨e, rfl, h⟩⟩
    · left
      obtain ⟨r1, rfl, h⟩ := h
      exact ⟨rfl, K r1 F1 hS h⟩
    · right
      obtain ⟨hp, h1, h2, h3, h4, h5⟩ := KT e F1 hS h
      exact ⟨e, hp, rfl, h1, Nat.blt_eq.mp hN, h2, h3, h4, h5⟩))
theorem w_cvL (xs r0 : List MV) (hst : st = xs.reverse ++ r0) (hn : n = xs.length) (h8 : Nat.ble (m_cats r0) 8 = true) (hv : m_mls.getD N 0 = v) (hml : Nat.ble (m_cats xs) v = true) (hN : Nat.blt N 387 = true) (hgN : m_hg N = gN) (hgM : m_hg M = gM) (hg : Nat.blt gN gM = true) (hA : At M pc (some (.invokevirtual z, (N, n, j, kc)) :: none :: none :: r)) (hkc : (kc == 2 || kc == 3) = true) (hrc : ∀ c s, m_recv (F, m_KD, c, s) (m_own N) n st = true) {R : Int → MF → Prop} {T : Nat → MF → Prop} (K0 : CaL N xs F R T) (KT : Wx D nc ns M pc kc ls Q T) (K : ∀ (r1 : Int) (F1 : MF), St F1 → R r1 F1 → Wv D nc ns M (pc + 3) ls ((1, r1) :: r0) F1 Q) : Wv D nc ns M pc ls st F Q := by
  have hgo : ∀ c s, mstep (.invokevirtual z) (N, n, j, kc) pc ls st (F, m_KD, c, s) = .error (1, N, xs, r0) := fun c s => by
    simp only [Bool.or_eq_true, beq_iff_eq] at hkc
    show (if kc = 2 ∨ kc = 3 then (if m_recv (F, m_KD, c, s) (m_own N) n st = true then m_call N n st else m_ko) else m_ko) = _
    rw [if_pos hkc, if_pos (hrc c s)]
    exact m_call_go hst hn h8 hv hml
  exact wv_call hA.hd hgo (Or.inl (Nat.blt_eq.mp hN)) (by rw [hgN, hgM]; exact Nat.blt_eq.mp hg) (Ev.mono K0 (fun o F1 => by
    rintro ⟨hS, h | ⟨e, rfl, h⟩⟩
    · left
      obtain ⟨r1, rfl, h⟩ := h
      exact ⟨rfl, K r1 F1 hS h⟩
    · right
      obtain ⟨hp, h1, h2, h3, h4, h5⟩ := KT e F1 hS h
      exact ⟨e, hp, rfl, h1, Nat.blt_eq.mp hN, h2, h3, h4, h5⟩))
theorem w_csLg {g : Int} (xs r0 : List MV) (hst : st = xs.reverse ++ r0) (hn : n = xs.length) (h8 : Nat.ble (m_cats r0) 8 = true) (hv : m_mls.getD N 0 = v) (hml : Nat.ble (m_cats xs) v = true) (hN : Nat.blt N 387 = true) (hgN : m_hg N = gN) (hgM : m_hg M = gM) (hg : Nat.blt gN gM = true) (hA : At M pc (some (.invokestatic z, (N, n, j, kc)) :: none :: none :: r)) (hkc : (kc == 0 || kc == 1 || kc == 7) = true) (K0 : CaL N xs F (fun r1 F1 => r1 = g ∧ F = F1) m_no) (K : Wv D nc ns M (pc + 3) ls ((1, g) :: r0) F Q) : Wv D nc ns M pc ls st F Q := w_csL xs r0 hst hn h8 hv hml hN hgN hgM hg hA hkc K0 Wx.no (fun r1 F1 _ h => by obtain ⟨rfl, rfl⟩ := h; exact K)
theorem w_cvLg {g : Int} (xs r0 : List MV) (hst : st = xs.reverse ++ r0) (hn : n = xs.length) (h8 : Nat.ble (m_cats r0) 8 = true) (hv : m_mls.getD N 0 = v) (hml : Nat.ble (m_cats xs) v = true) (hN : Nat.blt N 387 = true) (hgN : m_hg N = gN) (hgM : m_hg M = gM) (hg : Nat.blt gN gM = true) (hA : At M pc (some (.invokevirtual z, (N, n, j, kc)) :: none :: none :: r)) (hkc : (kc == 2 || kc == 3) = true) (hrc : ∀ c s, m_recv (F, m_KD, c, s) (m_own N) n st = true) (K0 : CaL N xs F (fun r1 F1 => r1 = g ∧ F = F1) m_no) (K : Wv D nc ns M (pc + 3) ls ((1, g) :: r0) F Q) : Wv D nc ns M pc ls st F Q := w_cvL xs r0 hst hn h8 hv hml hN hgN hgM hg hA hkc hrc K0 Wx.no (fun r1 F1 _ h => by obtain ⟨rfl, rfl⟩ := h; exact K)
theorem w_csV (xs r0 : List MV) (hst : st = xs.reverse ++ r0) (hn : n = xs.length) (h8 : Nat.ble (m_cats r0) 8 = true) (hv : m_mls.getD N 0 = v) (hml : Nat.ble (m_cats xs) v = true) (hN : Nat.blt N 387 = true) (hgN : m_hg N = gN) (hgM : m_hg M = gM) (hg : Nat.blt gN gM = true) (hA : At M pc (some (.invokestatic z, (N, n, j, kc)) :: none :: none :: r)) (hkc : (kc == 0 || kc == 1 || kc == 7) = true) {R : MF → Prop} {T : Nat → MF → Prop} (K0 : CaV N xs F R T) (KT : Wx D nc ns M pc kc ls Q T) (K : ∀ (F1 : MF), St F1 → R F1 → Wv D nc ns M (pc + 3) ls (r0) F1 Q) : Wv D nc ns M pc ls st F Q := by
  have hgo : ∀ c s, mstep (.invokestatic z) (N, n, j, kc) pc ls st (F, m_KD, c, s) = .error (1, N, xs, r0) := fun c s => by
    simp only [Bool.or_eq_true, beq_iff_eq] at hkc
    show (if kc = 6 then _ else if kc = 0 ∨ kc = 1 ∨ kc = 7 then m_call N n st else m_ko) = _
    rw [if_neg (by omega), if_pos (by omega)]
    exact m_call_go hst hn h8 hv hml
  exact wv_call hA.hd hgo (Or.inl (Nat.blt_eq.mp hN)) (by rw [hgN, hgM]; exact Nat.blt_eq.mp hg) (Ev.mono K0 (fun o F1 => by
    rintro ⟨hS, h | ⟨e, rfl, h⟩⟩
    · left
      obtain ⟨rfl, h⟩ := h
      exact ⟨rfl, K F1 hS h⟩
    · right
      obtain ⟨hp, h1, h2, h3, h4, h5⟩ := KT e F1 hS h
      exact ⟨e, hp, rfl, h1, Nat.blt_eq.mp hN, h2, h3, h4, h5⟩))
theorem w_cvV (xs r0 : List MV) (hst : st = xs.reverse ++ r0) (hn : n = xs.length) (h8 : Nat.ble (m_cats r0) 8 = true) (hv : m_mls.getD N 0 = v) (hml : Nat.ble (m_cats xs) v = true) (hN : Nat.blt N 387 = true) (hgN : m_hg N = gN) (hgM : m_hg M = gM) (hg : Nat.blt gN gM = true) (hA : At M pc (some (.invokevirtual z, (N, n, j, kc)) :: none :: none :: r)) (hkc : (kc == 2 || kc == 3) = true) (hrc : ∀ c s, m_recv (F, m_KD, c, s) (m_own N) n st = true) {R : MF → Prop} {T : Nat → MF → Prop} (K0 : CaV N xs F R T) (KT : Wx D nc ns M pc kc ls Q T) (K : ∀ (F1 : MF), St F1 → R F1 → Wv D nc ns M (pc + 3) ls (r0) F1 Q) : Wv D nc ns M pc ls st F Q := by
  have hgo : ∀ c s, mstep (.invokevirtual z) (N, n, j, kc) pc ls st (F, m_KD, c, s) = .error (1, N, xs, r0) := fun c s => by
    simp only [Bool.or_eq_true, beq_iff_eq] at hkc
    show (if kc = 2 ∨ kc = 3 then (if m_recv (F, m_KD, c, s) (m_own N) n st = true then m_call N n st else m_ko) else m_ko) = _
    rw [if_pos hkc, if_pos (hrc c s)]
    exact m_call_go hst hn h8 hv hml
  exact wv_call hA.hd hgo (Or.inl (Nat.blt_eq.mp hN)) (by rw [hgN, hgM]; exact Nat.blt_eq.mp hg) (Ev.mono K0 (fun o F1 => by
    rintro ⟨hS, h | ⟨e, rfl, h⟩⟩
    · left
      obtain ⟨rfl, h⟩ := h
      exact ⟨rfl, K F1 hS h⟩
    · right
      obtain ⟨hp, h1, h2, h3, h4, h5⟩ := KT e F1 hS h
      exact ⟨e, hp, rfl, h1, Nat.blt_eq.mp hN, h2, h3, h4, h5⟩))
end Ms5b
