/-! WHAT THE TABLES SAY OF THE CLASSES -/
def m_nest : Cond → Bool
  | .fieldLinkNest .. => true
  | .methodLinkNest .. => true
  | .castable .. => true
  | .declares .. => true
  | .arrayOver (.object _) => true
  | _ => false
theorem m_inOf {ws : List Cond} (ps : List Nat) (hp : ws = ps.filterMap (fun i => lw_tbl[i]?)) (h : ws.all goodWord = true) : ∀ w ∈ ws, w ∈ lw_tbl ∧ goodWord w = true := by
  intro w hw
  have h1 := List.all_eq_true.mp h w hw
  rw [hp] at hw
  obtain ⟨i, -, hi⟩ := List.mem_filterMap.mp hw
  exact ⟨List.mem_of_getElem? hi, h1⟩
def m_tyc : FieldType → Nat
  | .int => 0
  | .long => 1
  | .boolean => 2
  | .char => 3
  | .object _ => 4
  | .array _ => 4
  | _ => 9
def m_cok (ci : Nat) (q : vw_C) : Prop := (∀ w ∈ u_ws q.1 q.2.1 q.2.2, w ∈ lw_tbl ∧ goodWord w = true) ∧ (∃ ty : Nat → FieldType, (∀ k, k < q.2.2 → parseFieldDescriptor (q.2.1 k).2.2.1 = some (ty k)) ∧ ∀ k, k < q.2.2 → m_tyc (ty k) = m_fty ci k) ∧ (∀ a, a < q.2.2 → ∀ b, b < q.2.2 → a ≠ b → (q.2.1 a).2.1 ≠ (q.2.1 b).2.1) ∧ ∀ k, k < q.2.2 → (q.2.1 k).1 = q.1
theorem m_in0 : ∀ w ∈ u_ws RX0 TX0 4, w ∈ lw_tbl ∧ goodWord w = true := m_inOf [418, 420, 422, 424] (by decide +kernel) (by decide +kernel)
theorem m_cok0 : m_cok 0 (RX0, TX0, 4) := ⟨m_in0, ⟨tyX0, tyX0_ok, by decide +kernel⟩, nmX0, by decide +kernel⟩
theorem m_in1 : ∀ w ∈ u_ws RX1 TX1 7, w ∈ lw_tbl ∧ goodWord w = true := m_inOf [316, 318, 320, 322, 324, 326, 328] (by decide +kernel) (by decide +kernel)
theorem m_cok1 : m_cok 1 (RX1, TX1, 7) := ⟨m_in1, ⟨tyX1, tyX1_ok, by decide +kernel⟩, nmX1, by decide +kernel⟩
theorem m_in2 : ∀ w ∈ u_ws RX2 TX2 3, w ∈ lw_tbl ∧ goodWord w = true := m_inOf [102, 104, 106] (by decide +kernel) (by decide +kernel)
theorem m_cok2 : m_cok 2 (RX2, TX2, 3) := ⟨m_in2, ⟨tyX2, tyX2_ok, by decide +kernel⟩, nmX2, by decide +kernel⟩
theorem m_in3 : ∀ w ∈ u_ws RX3 TX3 15, w ∈ lw_tbl ∧ goodWord w = true := m_inOf [449, 451, 453, 455, 457, 459, 461, 463, 465, 467, 469, 471, 473, 475, 477] (by decide +kernel) (by decide +kernel)
theorem m_cok3 : m_cok 3 (RX3, TX3, 15) := ⟨m_in3, ⟨tyX3, tyX3_ok, by decide +kernel⟩, nmX3, by decide +kernel⟩
theorem m_in4 : ∀ w ∈ u_ws RX4 TX4 15, w ∈ lw_tbl ∧ goodWord w = true := m_inOf [266, 268, 270, 272, 274, 276, 278, 280, 282, 284, 286, 288, 290, 292, 294] (by decide +kernel) (by decide +kernel)
theorem m_cok4 : m_cok 4 (RX4, TX4, 15) := ⟨m_in4, ⟨tyX4, tyX4_ok, by decide +kernel⟩, nmX4, by decide +kernel⟩
theorem m_in5 : ∀ w ∈ u_ws RX5 TX5 1, w ∈ lw_tbl ∧ goodWord w = true := m_inOf [366] (by decide +kernel) (by decide +kernel)
theorem m_cok5 : m_cok 5 (RX5, TX5, 1) := ⟨m_in5, ⟨tyX5, tyX5_ok, by decide +kernel⟩, nmX5, by decide +kernel⟩
theorem m_in6 : ∀ w ∈ u_ws RX6 TX6 10, w ∈ lw_tbl ∧ goodWord w = true := m_inOf [385, 387, 389, 391, 393, 395, 397, 399, 401, 403] (by decide +kernel) (by decide +kernel)
theorem m_cok6 : m_cok 6 (RX6, TX6, 10) := ⟨m_in6, ⟨tyX6, tyX6_ok, by decide +kernel⟩, nmX6, by decide +kernel⟩
theorem m_in7 : ∀ w ∈ u_ws RX7 TX7 6, w ∈ lw_tbl ∧ goodWord w = true := m_inOf [127, 129, 131, 133, 135, 137] (by decide +kernel) (by decide +kernel)
theorem m_cok7 : m_cok 7 (RX7, TX7, 6) := ⟨m_in7, ⟨tyX7, tyX7_ok, by decide +kernel⟩, nmX7, by decide +kernel⟩
theorem m_in8 : ∀ w ∈ u_ws RX8 TX8 9, w ∈ lw_tbl ∧ goodWord w = true := m_inOf [163, 165, 167, 169, 171, 173, 175, 177, 179] (by decide +kernel) (by decide +kernel)
theorem m_cok8 : m_cok 8 (RX8, TX8, 9) := ⟨m_in8, ⟨tyX8, tyX8_ok, by decide +kernel⟩, nmX8, by decide +kernel⟩
theorem m_in9 : ∀ w ∈ u_ws RX9 TX9 13, w ∈ lw_tbl ∧ goodWord w = true := m_inOf [218, 220, 222, 224, 226, 228, 230, 232, 234, 236, 238, 240, 242] (by decide +kernel) (by decide +kernel)
theorem m_cok9 : m_cok 9 (RX9, TX9, 13) := ⟨m_in9, ⟨tyX9, tyX9_ok, by decide +kernel⟩, nmX9, by decide +kernel⟩
theorem m_in10 : ∀ w ∈ u_ws RX10 TX10 6, w ∈ lw_tbl ∧ goodWord w = true := m_inOf [346, 348, 350, 352, 354, 356] (by decide +kernel) (by decide +kernel)
theorem m_cok10 : m_cok 10 (RX10, TX10, 6) := ⟨m_in10, ⟨tyX10, tyX10_ok, by decide +kernel⟩, nmX10, by decide +kernel⟩
theorem m_in11 : ∀ w ∈ u_ws RX11 TX11 10, w ∈ lw_tbl ∧ goodWord w = true := m_inOf [489, 491, 493, 495, 497, 499, 501, 503, 505, 507] (by decide +kernel) (by decide +kernel)
theorem m_cok11 : m_cok 11 (RX11, TX11, 10) := ⟨m_in11, ⟨tyX11, tyX11_ok, by decide +kernel⟩, nmX11, by decide +kernel⟩
theorem m_clok {ci : Nat} {q : vw_C} (h : m_cl[ci]? = some q) : m_cok ci q := by
  match ci, h with
  | 0, h => cases h; exact m_cok0
  | 1, h => cases h; exact m_cok1
  | 2, h => cases h; exact m_cok2
  | 3, h => cases h; exact m_cok3
  | 4, h => cases h; exact m_cok4
  | 5, h => cases h; exact m_cok5
  | 6, h => cases h; exact m_cok6
  | 7, h => cases h; exact m_cok7
  | 8, h => cases h; exact m_cok8
  | 9, h => cases h; exact m_cok9
  | 10, h => cases h; exact m_cok10
  | 11, h => cases h; exact m_cok11
  | n + 12, h => cases h
/-- the texts: where they are named, and what they are -/
def m_strs : List (String × Nat × String) := [("Syntaxspan", 300, "fn f(x) {"), ("Syntaxspan", 302, "fn g(x, y) {"), ("Syntaxspan", 304, "fn h() {"), ("Syntaxspan", 306, "}"), ("Syntaxspan", 308, "let y = x + 1;"), ("Syntaxspan", 310, "let x = 2;"), ("Syntaxspan", 312, "ret x;"), ("Syntaxspan", 314, "ret y * 2;"), ("Syntaxspan", 316, "if x < 3 {"), ("Syntaxspan", 318, "} else {"), ("Syntaxspan", 320, "x = x - 1;"), ("Syntaxspan", 322, "ret f(x);"), ("Syntaxspan", 324, "let z = g(x, y);"), ("Syntaxspan", 326, "use a;"), ("Syntaxspan", 328, "use b;"), ("Syntaxspan", 330, "use c;"), ("Syntaxspan", 332, "ret x == y;"), ("Syntaxspan", 334, "f(1);"), ("Syntaxspan", 336, "/* "), ("Syntaxspan", 338, " */"), ("Syntaxspan", 340, "let y = !no;"), ("Syntaxspan", 342, "ret f(g(x, 1));"), ("Syntaxspan", 344, "{"), ("Syntaxspan", 346, "let = x + ;"), ("java/util/Arrays", 48, "fromIndex("), ("java/util/Arrays", 57, ") > toIndex("), ("java/util/Arrays", 59, ")"), ("java/util/Arrays", 337, " > "), ("java/lang/ArrayIndexOutOfBoundsException", 13, "Array index out of range: ")]
def m_byt : List (List Int32) := [[102, 110, 32, 102, 40, 120, 41, 32, 123], [102, 110, 32, 103, 40, 120, 44, 32, 121, 41, 32, 123], [102, 110, 32, 104, 40, 41, 32, 123], [125], [108, 101, 116, 32, 121, 32, 61, 32, 120, 32, 43, 32, 49, 59], [108, 101, 116, 32, 120, 32, 61, 32, 50, 59], [114, 101, 116, 32, 120, 59], [114, 101, 116, 32, 121, 32, 42, 32, 50, 59], [105, 102, 32, 120, 32, 60, 32, 51, 32, 123], [125, 32, 101, 108, 115, 101, 32, 123], [120, 32, 61, 32, 120, 32, 45, 32, 49, 59], [114, 101, 116, 32, 102, 40, 120, 41, 59], [108, 101, 116, 32, 122, 32, 61, 32, 103, 40, 120, 44, 32, 121, 41, 59], [117, 115, 101, 32, 97, 59], [117, 115, 101, 32, 98, 59], [117, 115, 101, 32, 99, 59], [114, 101, 116, 32, 120, 32, 61, 61, 32, 121, 59], [102, 40, 49, 41, 59], [47, 42, 32], [32, 42, 47], [108, 101, 116, 32, 121, 32, 61, 32, 33, 110, 111, 59], [114, 101, 116, 32, 102, 40, 103, 40, 120, 44, 32, 49, 41, 41, 59], [123], [108, 101, 116, 32, 61, 32, 120, 32, 43, 32, 59], [102, 114, 111, 109, 73, 110, 100, 101, 120, 40], [41, 32, 62, 32, 116, 111, 73, 110, 100, 101, 120, 40], [41], [32, 62, 32], [65, 114, 114, 97, 121, 32, 105, 110, 100, 101, 120, 32, 111, 117, 116, 32, 111, 102, 32, 114, 97, 110, 103, 101, 58, 32]]
def m_len : List Nat := [9, 12, 8, 1, 14, 10, 6, 10, 10, 8, 10, 9, 16, 6, 6, 6, 11, 5, 3, 3, 12, 15, 1, 11, 10, 12, 1, 3, 26]
/-- the rows of the class itself -/
def m_old3 (z : m_Z) (A : Nat → Prop) (U : State) (H : Heap) : Prop :=
  va_Z "Syntaxspan" "WORD_STARTS" "[I" (.ref (z.1 2)) A U H ∧ va_T .int (z.1 2) 9 (fun j => .int (Int32.ofInt ((m_ct 2).getD j 0))) A U H ∧
  va_Z "Syntaxspan" "SIGNS" "[C" (.ref (z.1 3)) A U H ∧ va_T .char (z.1 3) 13 (fun j => .int (Int32.ofInt ((m_ct 3).getD j 0))) A U H ∧
  va_Z "Syntaxspan" "WORDS" "[C" (.ref (z.1 4)) A U H ∧ va_T .char (z.1 4) 22 (fun j => .int (Int32.ofInt ((m_ct 4).getD j 0))) A U H
def m_old (z : m_Z) (A : Nat → Prop) (U : State) (H : Heap) : Prop :=
  vk_S 29 m_len m_byt z.2.1 (fun i => z.1 (i + 5)) A U H ∧ (∀ (i : Nat) (q : String × Nat × String), m_strs[i]? = some q → vk_R q.1 q.2.1 q.2.2 (z.2.1 i) U) ∧
  va_Z "java/lang/String" "COMPACT_STRINGS" "Z" (.int 1) A U H ∧ va_Zq "jdk/internal/util/Preconditions" "SIOOBE_FORMATTER" "Ljava/util/function/BiFunction;" A U H ∧
  vx_Zq Bundle.tN "UNASSIGNED_STACK" Bundle.steD A U H ∧ vx_Zq Bundle.tN "SUPPRESSED_SENTINEL" Bundle.listD A U H ∧ m_old3 z A U H
theorem m_old3.moved {z : m_Z} {A : Nat → Prop} {u U : State} {H : Heap} (hvm : u.vm.Alike U.vm) (h : m_old3 z A u H) : m_old3 z A U H :=
  ⟨h.1.moved hvm, h.2.1.moved hvm, h.2.2.1.moved hvm, h.2.2.2.1.moved hvm, h.2.2.2.2.1.moved hvm, h.2.2.2.2.2.moved hvm⟩
theorem m_old3.kept {z : m_Z} {A : Nat → Prop} {U : State} {H H1 : Heap} (h : m_old3 z A U H) (hq : ∀ a : Nat, a < H.size → ¬ A a → H1[a]? = H[a]?) : m_old3 z A U H1 :=
  ⟨h.1.kept hq, h.2.1.kept hq, h.2.2.1.kept hq, h.2.2.2.1.kept hq, h.2.2.2.2.1.kept hq, h.2.2.2.2.2.kept hq⟩
theorem m_old.moved {z : m_Z} {A : Nat → Prop} {u U : State} {H : Heap} (hvm : u.vm.Alike U.vm) (hR : ∀ (i : Nat) (q : String × Nat × String), m_strs[i]? = some q → vk_R q.1 q.2.1 q.2.2 (z.2.1 i) u → vk_R q.1 q.2.1 q.2.2 (z.2.1 i) U) (h : m_old z A u H) : m_old z A U H :=
  ⟨h.1.moved hvm, fun i q hq => hR i q hq (h.2.1 i q hq), h.2.2.1.moved hvm, h.2.2.2.1.moved hvm, h.2.2.2.2.1.moved hvm, h.2.2.2.2.2.1.moved hvm, h.2.2.2.2.2.2.moved hvm⟩
theorem m_old.kept {z : m_Z} {A : Nat → Prop} {U : State} {H H1 : Heap} (h : m_old z A U H) (hq : ∀ a : Nat, a < H.size → ¬ A a → H1[a]? = H[a]?) : m_old z A U H1 :=
  ⟨h.1.kept hq, h.2.1, h.2.2.1.kept hq, h.2.2.2.1.kept hq, h.2.2.2.2.1.kept hq, h.2.2.2.2.2.1.kept hq, h.2.2.2.2.2.2.kept hq⟩
