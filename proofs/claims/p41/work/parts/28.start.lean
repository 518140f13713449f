/-! FROM THE STATEMENT TO THE SMALL MACHINE -/
def m_hs : List Cond := flatC (Jvm.Cond.and given_1 narrow_1)
def m_Ts (i : Nat) : Term := .string (m_strs.getD i ("", 0, "")).1 (m_strs.getD i ("", 0, "")).2.1
def m_Tv (i : Nat) : Term := .field (m_Ts i) "java/lang/String" "value" "[B"
def m_sws (i : Nat) : List Cond := .exactly (m_Ts i) "java/lang/String" :: .eq (.field (m_Ts i) "java/lang/String" "coder" "B") (.int 0) :: .arrayOf (m_Tv i) .byte :: .eq (.length (m_Tv i)) (.int (Int32.ofNat (m_len.getD i 0))) ::
  (List.range (m_len.getD i 0)).map (fun j => .eq (.elem (m_Tv i) (.int (Int32.ofNat j))) (.int ((m_byt.getD i []).getD j 0)))
def m_cas (k : Nat) (cn nm ds : String) (ty : FieldType) (n : Nat) : List Cond := .isRef (.static cn nm ds) :: .arrayOf (.static cn nm ds) ty :: .eq (.length (.static cn nm ds)) (.int (Int32.ofNat n)) ::
  (List.range n).map (fun j => .eq (.elem (.static cn nm ds) (.int (Int32.ofNat j))) (.int (Int32.ofInt ((m_ct k).getD j 0))))
theorem m_hsS : (m_hs.drop 356).take 370 = (List.range 29).flatMap m_sws := by decide +kernel
theorem m_hsB : (m_hs.drop 11).take 53 = m_cas 2 "Syntaxspan" "WORD_STARTS" "[I" .int 9 ++ (m_cas 4 "Syntaxspan" "WORDS" "[C" .char 22 ++ m_cas 3 "Syntaxspan" "SIGNS" "[C" .char 13) := by decide +kernel
theorem m_hsR : (List.range 29).all (fun i => decide (Cond.stringRef (m_strs.getD i ("", 0, "")).1 (m_strs.getD i ("", 0, "")).2.1 (m_strs.getD i ("", 0, "")).2.2 ∈ lw_tbl)) = true := by decide +kernel
theorem m_hsL : (List.range 29).all (fun i => decide (m_len.getD i 0 < 1000)) = true := by decide +kernel
theorem m_hsD : (List.range 29).all (fun i => (List.range 29).all fun j => i == j || (m_len.getD i 0 != m_len.getD j 0 || (List.range (m_len.getD i 0)).any fun k => decide ((m_byt.getD i []).getD k 0 ≠ (m_byt.getD j []).getD k 0))) = true := by decide +kernel
theorem m_hat {k : Nat} {w : Cond} (h : m_hs[k]? = some w) : w ∈ m_hs := List.mem_of_getElem? h
def m_Az (s : State) : Nat → Prop := fun q => s.heap.size ≤ q
theorem m_Az_old {s : State} : ∀ a : Nat, a < s.heap.size → ¬ m_Az s a := fun a h h2 => by unfold m_Az at h2; omega
section M28
variable {s : State} {args : Array Value} {A : Nat → Prop}
theorem m_one (hs : ∀ w ∈ m_hs, w.before args s = true) (hA : ∀ a : Nat, a < s.heap.size → ¬ A a) (i : Nat) (hi : i < 29) : ∃ q : Nat × Nat, (m_Ts i).eval args s none [] s = some (.ref q.1) ∧ va_O "java/lang/String" q.1 A s s.heap ∧ va_OF "java/lang/String" "coder" "B" (.int 0) q.1 A s s.heap ∧ va_OF "java/lang/String" "value" "[B" (.ref q.2) q.1 A s s.heap ∧ va_T .byte q.2 (m_len.getD i 0) (fun j => .int ((m_byt.getD i []).getD j 0)) A s s.heap := by
  have hw : ∀ w ∈ m_sws i, w.before args s = true := fun w h => hs w (List.mem_of_mem_drop (i := 356) (List.mem_of_mem_take (i := 370) (by rw [m_hsS]; exact List.mem_flatMap.mpr ⟨i, List.mem_range.mpr hi, h⟩)))
  have hl : m_len.getD i 0 < 1000 := of_decide_eq_true (m_pick m_hsL i hi)
  obtain ⟨adK, adV, ⟨h1, -⟩, h2⟩ := vk_Sof (args := args) (s := s) (N := 1) (tm := fun _ => m_Ts i) (len := [m_len.getD i 0]) (byt := [m_byt.getD i []]) (A := A)
    (fun k hk => by obtain rfl : k = 0 := by omega
                    show m_len.getD i 0 < 2 ^ 31
                    omega)
    (fun k hk => hw _ List.mem_cons_self)
    (fun k hk => hw _ (List.mem_cons_of_mem _ List.mem_cons_self))
    (fun k hk => hw _ (List.mem_cons_of_mem _ (List.mem_cons_of_mem _ List.mem_cons_self)))
    (fun k hk => by obtain rfl : k = 0 := by omega
                    exact hw _ (List.mem_cons_of_mem _ (List.mem_cons_of_mem _ (List.mem_cons_of_mem _ List.mem_cons_self))))
    (fun k hk j hj => by obtain rfl : k = 0 := by omega
                         exact hw _ (List.mem_cons_of_mem _ (List.mem_cons_of_mem _ (List.mem_cons_of_mem _ (List.mem_cons_of_mem _ (List.mem_map.mpr ⟨j, List.mem_range.mpr hj, rfl⟩))))))
    (fun k j hk hj hne => absurd (by omega) hne) hA
  exact ⟨(adK 0, adV 0), h2 0 (by decide), h1 0 (by decide)⟩
theorem m_OFeq {o n d : String} {v w : Value} {t : Nat} {H : Heap} (h1 : va_OF o n d v t A s H) (h2 : va_OF o n d w t A s H) : v = w := by
  obtain ⟨cf, k, i, f, cell, a1, -, a3, -, a5, -⟩ := h1
  obtain ⟨cf2, k2, i2, f2, cell2, b1, -, b3, -, b5, -⟩ := h2
  cases a1.symm.trans b1
  cases a3.symm.trans b3
  exact Option.some.inj (a5.symm.trans b5)
theorem m_Teq {ty : FieldType} {t n1 n2 : Nat} {f1 f2 : Nat → Value} {H : Heap} (hn1 : n1 < 1000) (hn2 : n2 < 1000) (h1 : va_T ty t n1 f1 A s H) (h2 : va_T ty t n2 f2 A s H) : n1 = n2 ∧ ∀ j, j < n1 → f1 j = f2 j := by
  obtain ⟨cell, a1, -, -, -, a5, a6, -⟩ := h1
  obtain ⟨cell2, b1, -, -, -, b5, b6, -⟩ := h2
  cases a1.symm.trans b1
  have e : Int32.ofNat n1 = Int32.ofNat n2 := a5.symm.trans b5
  have e2 : n1 = n2 := by
    have := congrArg Int32.toInt e
    rw [Int32.toInt_ofNat_of_lt (by omega), Int32.toInt_ofNat_of_lt (by omega)] at this
    omega
  subst e2
  exact ⟨rfl, fun j hj => Option.some.inj ((a6 j hj).symm.trans (b6 j hj))⟩
theorem m_strings (hs : ∀ w ∈ m_hs, w.before args s = true) (hA : ∀ a : Nat, a < s.heap.size → ¬ A a) : ∃ adK adV : Nat → Nat, vk_S 29 m_len m_byt adK adV A s s.heap ∧ ∀ i : Nat, i < 29 → (m_Ts i).eval args s none [] s = some (.ref (adK i)) := by
  have h0 : ∀ i : Nat, ∃ q : Nat × Nat, i < 29 → (m_Ts i).eval args s none [] s = some (.ref q.1) ∧ va_O "java/lang/String" q.1 A s s.heap ∧ va_OF "java/lang/String" "coder" "B" (.int 0) q.1 A s s.heap ∧ va_OF "java/lang/String" "value" "[B" (.ref q.2) q.1 A s s.heap ∧ va_T .byte q.2 (m_len.getD i 0) (fun j => .int ((m_byt.getD i []).getD j 0)) A s s.heap := by
    intro i
    by_cases hi : i < 29
    · obtain ⟨q, hq⟩ := m_one hs hA i hi
      exact ⟨q, fun _ => hq⟩
    · exact ⟨(0, 0), fun h => absurd h hi⟩
  obtain ⟨ad, had⟩ := Classical.axiomOfChoice h0
  refine ⟨fun i => (ad i).1, fun i => (ad i).2, ⟨fun i hi => (had i hi).2, fun i j hi hj e => ?_⟩, fun i hi => (had i hi).1⟩
  have hli : m_len.getD i 0 < 1000 := of_decide_eq_true (m_pick m_hsL i hi)
  have hlj : m_len.getD j 0 < 1000 := of_decide_eq_true (m_pick m_hsL j hj)
  obtain ⟨-, -, -, v1, t1⟩ := had i hi
  obtain ⟨-, -, -, v2, t2⟩ := had j hj
  have e' : (ad i).1 = (ad j).1 := e
  rw [e'] at v1
  have ev : (ad i).2 = (ad j).2 := by
    have := m_OFeq v1 v2
    injection this
  rw [ev] at t1
  obtain ⟨g1, g2⟩ := m_Teq hli hlj t1 t2
  have hd := m_pick (m_pick m_hsD i hi) j hj
  rw [Bool.or_eq_true, Bool.or_eq_true, beq_iff_eq, bne_iff_ne, List.any_eq_true] at hd
  rcases hd with hd | hd | ⟨k, hk, hd⟩
  · exact hd
  · exact absurd g1 hd
  · exfalso
    have := g2 k (List.mem_range.mp hk)
    injection this with this
    exact of_decide_eq_true hd this
theorem m_ints (k : Nat) (cn nm ds : String) (ty : FieldType) (n : Nat) (hn : n < 1000) (hw : ∀ w ∈ m_cas k cn nm ds ty n, w.before args s = true) (hl : (Cond.laysStatic cn nm ds).before args s = true) (hini : (Cond.initialized cn).before args s = true) (hA : ∀ a : Nat, a < s.heap.size → ¬ A a) :
    ∃ t : Nat, va_Z cn nm ds (.ref t) A s s.heap ∧ va_T ty t n (fun j => .int (Int32.ofInt ((m_ct k).getD j 0))) A s s.heap := by
  obtain ⟨t, ht, hT⟩ := va_Tof (f := fun j => .int (Int32.ofInt ((m_ct k).getD j 0))) (A := A) (N := n) (by omega) (hw _ (List.mem_cons_of_mem _ List.mem_cons_self)) (va_eqt (hw _ (List.mem_cons_of_mem _ (List.mem_cons_of_mem _ List.mem_cons_self))))
    (fun j hj => va_eqt (hw _ (List.mem_cons_of_mem _ (List.mem_cons_of_mem _ (List.mem_cons_of_mem _ (List.mem_map.mpr ⟨j, List.mem_range.mpr hj, rfl⟩)))))) hA
  exact ⟨t, va_Zof hl hini ht hA, hT⟩
end M28
theorem m_nest_of {w : Cond} {A : Array Value} {U : State} (h : m_nest w = true) (hw : w.before A U = true) : va_Nw w U := by
  unfold m_nest at h
  split at h
  · exact va_Nw.of rfl hw
  · exact va_Nw.of rfl hw
  · exact va_Nw.of rfl hw
  · exact va_Nw.of rfl hw
  · exact hw
  · cases h
theorem m_knowns {s : State} {args : Array Value} (hts : ∀ w ∈ lw_tbl, w.before args s = true) : ∃ D : va_G, va_K D m_cl [] s := by
  have h0 : ∀ ci : Nat, ∃ d : ClassId × (Nat → Nat), ∀ q : vw_C, m_cl[ci]? = some q → u_Kn s q.1 q.2.1 q.2.2 d.1 d.2 := by
    intro ci
    cases hq : m_cl[ci]? with
    | none => exact ⟨(default, fun _ => 0), fun q h => by cases h⟩
    | some q =>
      have hok := m_clok hq
      have hin : ∃ n, Cond.instantiable q.1 n ∈ lw_tbl := by
        match ci, hq with
        | 0, h => cases h; exact ⟨4, by decide +kernel⟩
        | 1, h => cases h; exact ⟨7, by decide +kernel⟩
        | 2, h => cases h; exact ⟨3, by decide +kernel⟩
        | 3, h => cases h; exact ⟨15, by decide +kernel⟩
        | 4, h => cases h; exact ⟨15, by decide +kernel⟩
        | 5, h => cases h; exact ⟨1, by decide +kernel⟩
        | 6, h => cases h; exact ⟨10, by decide +kernel⟩
        | 7, h => cases h; exact ⟨6, by decide +kernel⟩
        | 8, h => cases h; exact ⟨9, by decide +kernel⟩
        | 9, h => cases h; exact ⟨13, by decide +kernel⟩
        | 10, h => cases h; exact ⟨6, by decide +kernel⟩
        | 11, h => cases h; exact ⟨10, by decide +kernel⟩
        | k + 12, h => cases h
      obtain ⟨n, hin⟩ := hin
      obtain ⟨cC, iS, hk⟩ := u_known hts (fun w hw => (hok.1 w hw).1) (hts _ hin)
      exact ⟨(cC, iS), fun q2 h2 => by cases h2; exact hk⟩
  obtain ⟨f, hf⟩ := Classical.axiomOfChoice h0
  exact ⟨(fun c => (f c).1, fun c => (f c).2), fun c q h => hf c q h, fun k q h => by simp at h⟩
def m_h0 (L : Nat) (xs : Nat → Int32) : MH := (fun k j => if k = 1000000 then (if j < L then (xs j).toInt else 0) else if k = 1000001 then (if j = 0 then (L : Int) else 0) else 0, [], 0, 0)
theorem m_begin {s : State} {b L : Nat} {xs : Nat → Int32} (hs : ∀ w ∈ m_hs, w.before #[Value.ref b] s = true) (hts : ∀ w ∈ lw_tbl, w.before #[Value.ref b] s = true) (hX : va_X b L xs s s.heap) (hb : b < s.heap.size) (hL : L ≤ 260) :
    ∃ (D : va_G) (z : m_Z), z.2.2.1 = b ∧ m_ext z (m_Az s) s ∧ m_rep D (m_Az s) [] s (m_h0 L xs) s.heap ∧ m_sc z (m_h0 L xs) := by
  obtain ⟨D, hK⟩ := m_knowns hts
  obtain ⟨adK, adV, hS, hev⟩ := m_strings hs (m_Az_old (s := s))
  have hBB : ∀ w ∈ m_cas 2 "Syntaxspan" "WORD_STARTS" "[I" .int 9 ++ (m_cas 4 "Syntaxspan" "WORDS" "[C" .char 22 ++ m_cas 3 "Syntaxspan" "SIGNS" "[C" .char 13), w.before #[Value.ref b] s = true := fun w h => hs w (List.mem_of_mem_drop (i := 11) (List.mem_of_mem_take (i := 53) (by rw [m_hsB]; exact h)))
  have hini2 : (Cond.initialized "Syntaxspan").before #[Value.ref b] s = true := hts _ (by decide +kernel)
  obtain ⟨t3, z3, T3⟩ := m_ints 2 "Syntaxspan" "WORD_STARTS" "[I" .int 9 (by decide) (fun w h => hBB w (List.mem_append_left _ h)) (hts _ (by decide +kernel)) hini2 (m_Az_old (s := s))
  obtain ⟨t4, z4, T4⟩ := m_ints 3 "Syntaxspan" "SIGNS" "[C" .char 13 (by decide) (fun w h => hBB w (List.mem_append_right _ (List.mem_append_right _ h))) (hts _ (by decide +kernel)) hini2 (m_Az_old (s := s))
  obtain ⟨t5, z5, T5⟩ := m_ints 4 "Syntaxspan" "WORDS" "[C" .char 22 (by decide) (fun w h => hBB w (List.mem_append_right _ (List.mem_append_left _ h))) (hts _ (by decide +kernel)) hini2 (m_Az_old (s := s))
  refine ⟨D, (fun k => match k with | 0 => 0 | 1 => 0 | 2 => t3 | 3 => t4 | 4 => t5 | k + 5 => adV k, adK, b, L, xs), rfl, ⟨fun w h1 h2 => m_nest_of h2 (hts w h1), ⟨hS, ?_, ?_, ?_, ?_, ?_, ⟨z3, T3, z4, T4, z5, T5⟩⟩, fun q h => h, ?_, hX, hb, m_Az_old b hb, Nat.le_trans hL (by decide)⟩, ⟨[], [], hK, fun k q h => by simp at h, ⟨fun i j p q h => by simp at h, fun k q h => by simp at h⟩, rfl, rfl, fun k kd h => by simp [m_h0] at h⟩, ?_, ?_⟩
  · intro i q hq
    have hi : i < 29 := (List.getElem?_eq_some_iff.mp hq).1
    have e : m_strs.getD i ("", 0, "") = q := by rw [List.getD_eq_getElem?_getD, hq]; rfl
    have h1 := of_decide_eq_true (m_pick m_hsR i hi)
    have h2 := hev i hi
    unfold m_Ts at h2
    rw [e] at h1 h2
    exact vk_R.of (hts _ h1) h2
  · exact va_Zof (hts _ (by decide +kernel)) (hts _ (by decide +kernel)) (va_eqi (hs _ (m_hat (k := 6) (by decide +kernel)))) (m_Az_old (s := s))
  · exact va_Zqof (hts _ (by decide +kernel)) (hts _ (by decide +kernel)) (hs _ (m_hat (k := 7) (by decide +kernel))) (m_Az_old (s := s))
  · exact vx_Zqof (hts _ (by decide +kernel)) (hts _ (by decide +kernel)) (hs _ (m_hat (k := 4) (by decide +kernel))) (m_Az_old (s := s))
  · exact vx_Zqof (hts _ (by decide +kernel)) (hts _ (by decide +kernel)) (hs _ (m_hat (k := 5) (by decide +kernel))) (m_Az_old (s := s))
  · intro e1 e2 h1 h2 h3
    match e1, e2, h1, h2, h3 with
    | 0, 0, _, _, h => exact absurd rfl h
    | 0, 1, _, _, _ => exact va_Nc.of (hs _ (m_hat (k := 298) (by decide +kernel)))
    | 0, 2, _, _, _ => exact va_Nc.of (hs _ (m_hat (k := 315) (by decide +kernel)))
    | 1, 0, _, _, _ => exact va_Nc.of (hs _ (m_hat (k := 282) (by decide +kernel)))
    | 1, 1, _, _, h => exact absurd rfl h
    | 1, 2, _, _, _ => exact va_Nc.of (hs _ (m_hat (k := 316) (by decide +kernel)))
    | 2, 0, _, _, _ => exact va_Nc.of (hs _ (m_hat (k := 283) (by decide +kernel)))
    | 2, 1, _, _, _ => exact va_Nc.of (hs _ (m_hat (k := 299) (by decide +kernel)))
    | 2, 2, _, _, h => exact absurd rfl h
  · simp [m_h0]
  · intro j hj
    simp [m_h0, hj]
/-! THE CLAIM OUT OF ONE WALK OF THE LAW'S BODY. Your part is whole_start (and what it stands on); all else here is the same for every law, but numbers. -/
def R_law : String := "SyntaxspanLaw"
def lw_P (b : Addr) (xs : List Int32) (args : Array Value) (s : State) : Prop := args = #[.ref b] ∧ s.IntsAt b xs ∧ xs.length ≤ 260 ∧ (Jvm.Cond.and given_1 narrow_1).before args s = true
def lw_Q (_ : Array Value) (s : State) (o : Outcome) (t : State) : Prop := o = .returned (some (.int 1)) ∧ Framed s o t [] 600104 7301314
def lw_Z (below : List Frame) (a : Array Value) (s : State) : State → Prop := fun t => ∃ o, t.status = .running ∧ Ended t below o ∧ lw_Q a s o t
/-- the law's own end, with 1 on the stack, nothing written that was there before, its room as the claim has it -/
theorem lw_ret {p : Program} {l : Launch} {e : Jvm.Env} {s : State} {m : MethodId} {below : List Frame} {meth : Method} {c : Code} {b : Nat} (hx : p.tables.exec = Jvm.exec) (hb : c.code = code) (hr : meth.sig.returnType = ret) (hlocks : meth.locks = false) {pc : Nat} {H : Heap} {ls : Array Slot} (hdg : decode code pc = .ok (.ireturn, 1)) : W p l e room_1 s m #[Value.ref b] below meth c H [] 600104 7301314 (lw_Z below #[Value.ref b] s) (F0 m pc ls [.int 1]) := by
  intro T hT X
  obtain ⟨fs, hret, hrun, hended, hW, hframe⟩ := X.leave (v := some (.int 1)) (hlocks := hlocks) (fun h => by rw [hr] at h; cases h)
  have hmeth' : T.vm.method? m = some meth := X.method'
  refine ⟨T.setFrames fs, ?_, .returned (some (.int 1)), hrun, hended, rfl, ⟨_, rfl⟩, hW, hframe⟩
  jvm_step X.here [X.here.top, hx, hb, hdg, hmeth', hr, ret, narrow_b1]
  (try refine ⟨rfl, ?_⟩); (try refine ⟨rfl, ?_⟩)
  first | (intro acts; rw [hret _ acts rfl rfl rfl]) | rw [hret _ _ rfl rfl rfl]
  exact Steps.refl _
/-- what holds at the law's entry: the machine, the code, the tables' words (any of lw_tbl by 'hts w (by decide +kernel)'), the script of L ints xs at the cell b, what the Statement gives of the start (any of its parts by flat_of_before) -/
def lw_At (p : Program) (s : State) (m : MethodId) (meth : Method) (c : Code) (b L : Nat) (xs : Nat → Int32) : Prop :=
  p.tables.exec = Jvm.exec ∧ c.code = code ∧ meth.sig.returnType = ret ∧ c.maxLocals = 4 ∧ s.vm.findClass R_law = some m.cls ∧ (∀ w ∈ lw_tbl, w.before #[Value.ref b] s = true) ∧ va_X b L xs s s.heap ∧ b < s.heap.size ∧ meth.locks = false ∧ (Jvm.Cond.and given_1 narrow_1).before #[Value.ref b] s = true
theorem m_cc420 : m_cc 420 = code := rfl
theorem m_ret420 : m_ret 420 = ret := rfl
section M28b
variable {p : Program} {l : Launch} {e : Jvm.Env} {s : State} {m : MethodId} {below : List Frame} {meth : Method} {c : Code}
set_option maxHeartbeats 4000000 in
theorem m_lawret {b : Nat} {D : va_G} {A : Nat → Prop} {z : m_Z} {ads : List Nat} {q : LK} {pc : Nat} {ls : ML} {st : List MV} {h : MH} {rls : Array Slot} {rst : List Value} {H : Heap} {locs : List Loc} {i : Instr} {a0 : Nat} {r : List MV} (CX : m_CX p l s m #[Value.ref b] meth c A z 420) (hA : ∀ a, A a → s.heap.size ≤ a) (hck : m_ick 420 pc i q = true) (hs : m_vrs ads z st rst) (hr : m_rep D A ads s h H) (hS : va_S A s.heap H locs)
    (hm : mstep i q pc ls st h = .error (2, a0, [(0, 1)], r)) (hn2 : h.2.2.1 ≤ 600104) (hn3 : h.2.2.2 ≤ 7301314) :
    W p l e room_1 s m #[Value.ref b] below meth c H locs (h.2.2.1 - 0) (h.2.2.2 - 0) (lw_Z below #[Value.ref b] s) (F0 m pc rls rst) := by
  obtain ⟨hx, hb, hml, hown, hts, hE, hlocks, -, -, hret, hst⟩ := CX
  unfold m_ick at hck
  rw [Bool.and_eq_true] at hck
  obtain ⟨hdc, hsp⟩ := hck
  cases i with
  | ireturn =>
    unfold mstep m_iret at hm
    dsimp only at hm
    split at hm
    · next x =>
      split at hm
      · next hf =>
        cases hm
        obtain ⟨X, rr, rfl, hX, hs2⟩ := m_s0 hs
        have hrr : rr = [] := by
          cases rr with
          | nil => rfl
          | cons _ _ => exact hs2.elim
        subst hrr
        have hX1 : X = 1 := Int32.toInt_inj.mp hX
        subst hX1
        refine va_forget (fun q hq => hA _ (hS.2.2 q hq)) ?_
        refine W.widen (k := 600104) (n := 7301314) (by omega) (by omega) ?_
        have hd := m_dcd_ok hdc rfl
        rw [m_cc420] at hd
        exact lw_ret hx (hb.trans m_cc420) (hret.trans m_ret420) hlocks hd
      · cases hm
    · cases hm
  | _ =>
    exfalso
    simp only [mstep, m_go, m_put, m_ldi, m_ldl, m_lda, m_stv, m_i2, m_l2, m_get, m_of, m_putf, m_aast, m_aald, m_alen, m_ascr, m_atc, m_ald, m_ast, m_mkarr, m_copy, m_call, m_ko] at hm
    repeat' (split at hm)
    all_goals cases hm
/-- WHAT IS LEFT: the small machine's run of the law ends with 1, within the room -/
def m_MINI : Prop := ∀ (L : Nat) (xs : Nat → Int32), L ≤ 260 → ∃ (f d : Nat) (h' : MH), 10 + d ≤ 2048 ∧ 300 + 100 * d ≤ 84000 ∧ mx f d 420 0 (m_ini 4 [(6, 0)]) [] (m_h0 L xs) = some ((0, [(0, 1)]), h') ∧ h'.2.1.length ≤ 1000000 ∧ h'.2.2.1 ≤ 600104 ∧ h'.2.2.2 ≤ 7301314
theorem m_lst (hflags : l.flags = flags0) : l.stackTraces = false := by
  unfold Launch.stackTraces
  rw [hflags]
  decide
theorem m_mini_start (mini : m_MINI) (hflags : l.flags = flags0) {b L : Nat} {xs : Nat → Int32} (hL : L ≤ 260) (C0 : lw_At p s m meth c b L xs) : W p l e room_1 s m #[Value.ref b] below meth c s.heap [] 0 0 (lw_Z below #[Value.ref b] s) (entryFrame m ([Value.ref b] : List Value).toArray 4) := by
  obtain ⟨hx, hb, hret, hml, hown, hts, hX, hbl, hlocks, hgv⟩ := C0
  have hs : ∀ w ∈ m_hs, w.before #[Value.ref b] s = true := flat_of_before _ hgv
  obtain ⟨D, z, hzb, hE, hr, hz⟩ := m_begin hs hts hX hbl hL
  obtain ⟨f, d, h', hd1, hd2, hm, hn1, hn2, hn3⟩ := mini L xs hL
  have hlst := m_lst hflags
  have CX : m_CX p l s m #[Value.ref b] meth c (m_Az s) z 420 := ⟨hx, hb.trans m_cc420.symm, hml, hown, fun w h1 _ => hts w h1, hE, hlocks, fun h => absurd rfl h, fun h => absurd rfl h, hret.trans m_ret420.symm, hlst⟩
  have k := m_SIM_all l hlst f d 420 0 _ [] (m_h0 L xs) (0, [(0, 1)]) h' hm p e room_1 s m #[Value.ref b] below meth c (lw_Z below #[Value.ref b] s) 0 0 D (m_Az s) z [] CX hz hn1 (Nat.zero_le _) (Nat.zero_le _) (by show h'.2.2.1 - 0 ≤ 600104; omega) (by show h'.2.2.2 - 0 ≤ 7301314; omega) hd1 hd2
    (by
      rintro pc ls st h9 ⟨i, q, ht, hcase⟩ - -
      rcases hcase with ⟨a, xs9, r, hmm, ho, rfl⟩ | ⟨x, xs9, r, hmm, ho, -⟩
      · cases ho
        intro b9 rls rst H locs hl hs9 hr9 hS
        exact m_lawret CX (fun a h => h) (m_ickAll _ _ _ _ ht) hs9 hr9 hS hmm hn2 hn3
      · cases ho)
    (by intro x pc ls ho; cases ho)
  rw [lg_entry_eq]
  exact m_k0 k (m_ini_lr (n := 4) (rs := [.ref b]) ⟨by rw [← hzb]; rfl, trivial⟩ (by decide)) (show m_vrs [] z [] [] from trivial) hr va_S.rf
end M28b
