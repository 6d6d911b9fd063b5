/-! what holds at the entry outside of the cells: texts, digits, statics, array classes, links -/
def fNar : List Cond := flatC (Jvm.Cond.and given_1 narrow_1)
abbrev tSt (i : Nat) : Term := .string (kOw i) (kIx i)
abbrev tVa (i : Nat) : Term := .field (tSt i) "java/lang/String" "value" "[B"
/-- what is given of a text -/
def stW (i : Nat) : List Cond := [.exactly (tSt i) "java/lang/String", .eq (.field (tSt i) "java/lang/String" "coder" "B") (.int 0), .arrayOf (tVa i) .byte, .eq (.length (tVa i)) (.int (Int32.ofNat (kLen i)))] ++ (List.range (kLen i)).map (fun j => .eq (.elem (tVa i) (.int (Int32.ofNat j))) (.int (kCh i j)))
set_option maxRecDepth 100000 in
theorem fn_A : (fNar.drop 466).take 241 = stW 0 ++ stW 1 := by decide +kernel
set_option maxRecDepth 100000 in
theorem fn_B : (fNar.drop 707).take 149 = (List.range 17).flatMap (fun i => stW (i + 33)) := by decide +kernel
set_option maxRecDepth 100000 in
theorem fn_C : (fNar.drop 856).take 171 = (List.range 24).flatMap (fun i => stW (i + 2)) := by decide +kernel
set_option maxRecDepth 100000 in
theorem fn_C2 : (fNar.drop 1028).take 50 = (List.range 7).flatMap (fun i => stW (i + 26)) := by decide +kernel
set_option maxRecDepth 100000 in
theorem fn_D : (fNar.drop 1078).take 4 = stW 50 := by decide +kernel
set_option maxRecDepth 100000 in
theorem fn_E : (fNar.drop 1083).take 10 = stW 51 := by decide +kernel
set_option maxRecDepth 100000 in
theorem fn_O : (fNar.drop 14).take 100 = (List.range 100).map (fun j => Cond.eq (.elem (.static "java/lang/Integer" "DigitOnes" "[B") (.int (Int32.ofNat j))) (.int (kDo j))) := by decide +kernel
set_option maxRecDepth 100000 in
theorem fn_T : (fNar.drop 117).take 100 = (List.range 100).map (fun j => Cond.eq (.elem (.static "java/lang/Integer" "DigitTens" "[B") (.int (Int32.ofNat j))) (.int (kDt j))) := by decide +kernel
theorem fn_sub {l : List Cond} {k n : Nat} (e : (fNar.drop k).take n = l) : ∀ w ∈ l, w ∈ fNar := fun w hw => by
  rw [← e] at hw
  exact List.mem_of_mem_drop (List.mem_of_mem_take hw)
theorem fn_st {i : Nat} (hi : i < 52) : ∀ w ∈ stW i, w ∈ fNar := by
  intro w hw
  have c : (i = 0 ∨ i = 1) ∨ (2 ≤ i ∧ i < 26) ∨ (26 ≤ i ∧ i < 33) ∨ (33 ≤ i ∧ i < 50) ∨ i = 50 ∨ i = 51 := by omega
  rcases c with c | c | c | c | c | c
  · refine fn_sub fn_A w ?_
    rcases c with c | c
    · rw [c] at hw; exact List.mem_append_left _ hw
    · rw [c] at hw; exact List.mem_append_right _ hw
  · exact fn_sub fn_C w (List.mem_flatMap.mpr ⟨i - 2, List.mem_range.mpr (by omega), by rw [show i - 2 + 2 = i by omega]; exact hw⟩)
  · exact fn_sub fn_C2 w (List.mem_flatMap.mpr ⟨i - 26, List.mem_range.mpr (by omega), by rw [show i - 26 + 26 = i by omega]; exact hw⟩)
  · exact fn_sub fn_B w (List.mem_flatMap.mpr ⟨i - 33, List.mem_range.mpr (by omega), by rw [show i - 33 + 33 = i by omega]; exact hw⟩)
  · rw [c] at hw; exact fn_sub fn_D w hw
  · rw [c] at hw; exact fn_sub fn_E w hw
theorem fn_do {j : Nat} (hj : j < 100) : Cond.eq (.elem (.static "java/lang/Integer" "DigitOnes" "[B") (.int (Int32.ofNat j))) (.int (kDo j)) ∈ fNar := fn_sub fn_O _ (List.mem_map.mpr ⟨j, List.mem_range.mpr hj, rfl⟩)
theorem fn_dt {j : Nat} (hj : j < 100) : Cond.eq (.elem (.static "java/lang/Integer" "DigitTens" "[B") (.int (Int32.ofNat j))) (.int (kDt j)) ∈ fNar := fn_sub fn_T _ (List.mem_map.mpr ⟨j, List.mem_range.mpr hj, rfl⟩)
theorem fn_ao : Cond.arrayOf (.static "java/lang/Integer" "DigitOnes" "[B") .byte ∈ fNar := List.mem_of_getElem? (i := 12) (by decide +kernel)
theorem fn_lo : Cond.eq (.length (.static "java/lang/Integer" "DigitOnes" "[B")) (.int (Int32.ofNat 100)) ∈ fNar := List.mem_of_getElem? (i := 13) (by decide +kernel)
theorem fn_at : Cond.arrayOf (.static "java/lang/Integer" "DigitTens" "[B") .byte ∈ fNar := List.mem_of_getElem? (i := 115) (by decide +kernel)
theorem fn_lt : Cond.eq (.length (.static "java/lang/Integer" "DigitTens" "[B")) (.int (Int32.ofNat 100)) ∈ fNar := List.mem_of_getElem? (i := 116) (by decide +kernel)
theorem fn_C1 : Cond.eq (.static "java/lang/String" "COMPACT_STRINGS" "Z") (.int 1) ∈ fNar := List.mem_of_getElem? (i := 6) (by decide +kernel)
theorem fn_P1 : Cond.isRef (.static "jdk/internal/util/Preconditions" "SIOOBE_FORMATTER" "Ljava/util/function/BiFunction;") ∈ fNar := List.mem_of_getElem? (i := 7) (by decide +kernel)
theorem tl_C1 : Cond.laysStatic "java/lang/String" "COMPACT_STRINGS" "Z" ∈ lw_tbl := List.mem_append_right _ (List.mem_of_getElem? (i := 976) (by decide +kernel))
theorem tl_P1 : Cond.laysStatic "jdk/internal/util/Preconditions" "SIOOBE_FORMATTER" "Ljava/util/function/BiFunction;" ∈ lw_tbl := List.mem_append_right _ (List.mem_of_getElem? (i := 992) (by decide +kernel))
theorem tl_o : Cond.laysStatic "java/lang/Integer" "DigitOnes" "[B" ∈ lw_tbl := List.mem_append_right _ (List.mem_of_getElem? (i := 1420) (by decide +kernel))
theorem tl_t : Cond.laysStatic "java/lang/Integer" "DigitTens" "[B" ∈ lw_tbl := List.mem_append_right _ (List.mem_of_getElem? (i := 1422) (by decide +kernel))
theorem ti_C1 : Cond.initialized "java/lang/String" ∈ lw_tbl := List.mem_append_right _ (List.mem_of_getElem? (i := 12) (by decide +kernel))
theorem ti_P1 : Cond.initialized "jdk/internal/util/Preconditions" ∈ lw_tbl := List.mem_append_right _ (List.mem_of_getElem? (i := 18) (by decide +kernel))
theorem ti_I1 : Cond.initialized "java/lang/Integer" ∈ lw_tbl := List.mem_append_right _ (List.mem_of_getElem? (i := 21) (by decide +kernel))
theorem to_1 : Cond.arrayOver (.array .int) ∈ lw_tbl := List.mem_append_right _ (List.mem_of_getElem? (i := 844) (by decide +kernel))
theorem to_2 : Cond.arrayOver (.array (.array .int)) ∈ lw_tbl := List.mem_append_right _ (List.mem_of_getElem? (i := 1247) (by decide +kernel))
theorem to_3 : Cond.arrayOver (.object "SofaDigLaw$Tree") ∈ lw_tbl := List.mem_append_right _ (List.mem_of_getElem? (i := 1249) (by decide +kernel))
theorem to_4 : Cond.arrayOver (.object "java/lang/String") ∈ lw_tbl := List.mem_append_right _ (List.mem_of_getElem? (i := 1560) (by decide +kernel))
theorem ts_at : ∀ i, i < 52 → ∃ tx, Cond.stringRef (kOw i) (kIx i) tx ∈ lw_tbl := by
  intro i hi
  have h : ∀ i, i < 52 → ∃ tx, tables_1[([1077, 1091, 1561, 1562, 1563, 1564, 1565, 1566, 1567, 1568, 1569, 1570, 1571, 1572, 1573, 1574, 1575, 1576, 1577, 1578, 1584, 1585, 1587, 1588, 1589, 1590, 1591, 1592, 1593, 1594, 1595, 1596, 1597, 1299, 1431, 1432, 1434, 1435, 1436, 1437, 1459, 1460, 1518, 1519, 1520, 1521, 1522, 1552, 1553, 1554, 1598, 1599] : List Nat).getD i 0]? = some (Cond.stringRef (kOw i) (kIx i) tx) := by
    intro i hi
    match i, hi with
    | 0, _ => exact ⟨"seats  layers empire from   to     coin   crumbs spring in     year   of     dig    prop   free   when   day    found  slides props  first  last   height seen   sure   not    and    or     min    max    ", by decide +kernel⟩
    | 1, _ => exact ⟨"( ) [ ] ; , + - * / < > = <=>=", by decide +kernel⟩
    | 2, _ => exact ⟨"", by decide +kernel⟩
    | 3, _ => exact ⟨"day ", by decide +kernel⟩
    | 4, _ => exact ⟨"found ", by decide +kernel⟩
    | 5, _ => exact ⟨"slides ", by decide +kernel⟩
    | 6, _ => exact ⟨"props ", by decide +kernel⟩
    | 7, _ => exact ⟨"first of e", by decide +kernel⟩
    | 8, _ => exact ⟨"last of e", by decide +kernel⟩
    | 9, _ => exact ⟨"+", by decide +kernel⟩
    | 10, _ => exact ⟨"-", by decide +kernel⟩
    | 11, _ => exact ⟨"*", by decide +kernel⟩
    | 12, _ => exact ⟨"/", by decide +kernel⟩
    | 13, _ => exact ⟨"min(", by decide +kernel⟩
    | 14, _ => exact ⟨"max(", by decide +kernel⟩
    | 15, _ => exact ⟨"<", by decide +kernel⟩
    | 16, _ => exact ⟨">", by decide +kernel⟩
    | 17, _ => exact ⟨"=", by decide +kernel⟩
    | 18, _ => exact ⟨"<=", by decide +kernel⟩
    | 19, _ => exact ⟨">=", by decide +kernel⟩
    | 20, _ => exact ⟨" ", by decide +kernel⟩
    | 21, _ => exact ⟨"height(", by decide +kernel⟩
    | 22, _ => exact ⟨")", by decide +kernel⟩
    | 23, _ => exact ⟨"- (", by decide +kernel⟩
    | 24, _ => exact ⟨"(", by decide +kernel⟩
    | 25, _ => exact ⟨",", by decide +kernel⟩
    | 26, _ => exact ⟨"seen e", by decide +kernel⟩
    | 27, _ => exact ⟨"sure ", by decide +kernel⟩
    | 28, _ => exact ⟨"not[", by decide +kernel⟩
    | 29, _ => exact ⟨"]", by decide +kernel⟩
    | 30, _ => exact ⟨"[", by decide +kernel⟩
    | 31, _ => exact ⟨"and", by decide +kernel⟩
    | 32, _ => exact ⟨"or", by decide +kernel⟩
    | 33, _ => exact ⟨"seats ", by decide +kernel⟩
    | 34, _ => exact ⟨" layers ", by decide +kernel⟩
    | 35, _ => exact ⟨";\n", by decide +kernel⟩
    | 36, _ => exact ⟨"empire e", by decide +kernel⟩
    | 37, _ => exact ⟨" from ", by decide +kernel⟩
    | 38, _ => exact ⟨" to ", by decide +kernel⟩
    | 39, _ => exact ⟨";", by decide +kernel⟩
    | 40, _ => exact ⟨" in ", by decide +kernel⟩
    | 41, _ => exact ⟨",", by decide +kernel⟩
    | 42, _ => exact ⟨"spring", by decide +kernel⟩
    | 43, _ => exact ⟨"coin", by decide +kernel⟩
    | 44, _ => exact ⟨"crumbs", by decide +kernel⟩
    | 45, _ => exact ⟨" year ", by decide +kernel⟩
    | 46, _ => exact ⟨" of e", by decide +kernel⟩
    | 47, _ => exact ⟨"dig ", by decide +kernel⟩
    | 48, _ => exact ⟨"prop ", by decide +kernel⟩
    | 49, _ => exact ⟨"free ", by decide +kernel⟩
    | 50, _ => exact ⟨"", by decide +kernel⟩
    | 51, _ => exact ⟨" when ", by decide +kernel⟩
    | n + 52, h => omega
  obtain ⟨tx, h⟩ := h i hi
  exact ⟨tx, List.mem_append_right _ (List.mem_of_getElem? h)⟩
theorem se_0 : Cond.selects RJ4 yJ5_isLatin1_aae02 yJ5_isLatin1_aae02 ∈ lw_tbl := List.mem_append_right _ (List.mem_of_getElem? (i := 1346) (by decide +kernel))
theorem se_p1 : Cond.privateMethod yJ5_ensureCapacityInternal_d00df ∈ lw_tbl := List.mem_append_right _ (List.mem_of_getElem? (i := 1313) (by decide +kernel))
theorem se_i1 : Cond.instanceMethod yJ5_ensureCapacityInternal_d00df ∈ lw_tbl := List.mem_append_right _ (List.mem_of_getElem? (i := 1314) (by decide +kernel))
theorem se_p2 : Cond.privateMethod yJ5_newCapacity_0f7a4 ∈ lw_tbl := List.mem_append_right _ (List.mem_of_getElem? (i := 1317) (by decide +kernel))
theorem se_i2 : Cond.instanceMethod yJ5_newCapacity_0f7a4 ∈ lw_tbl := List.mem_append_right _ (List.mem_of_getElem? (i := 1318) (by decide +kernel))
theorem se_p3 : Cond.privateMethod yJ5_putStringAt_47b60 ∈ lw_tbl := List.mem_append_right _ (List.mem_of_getElem? (i := 1366) (by decide +kernel))
theorem se_i3 : Cond.instanceMethod yJ5_putStringAt_47b60 ∈ lw_tbl := List.mem_append_right _ (List.mem_of_getElem? (i := 1367) (by decide +kernel))
theorem se_p4 : Cond.privateMethod yJ5_inflateIfNeededFor_a7421 ∈ lw_tbl := List.mem_append_right _ (List.mem_of_getElem? (i := 1370) (by decide +kernel))
theorem se_i4 : Cond.instanceMethod yJ5_inflateIfNeededFor_a7421 ∈ lw_tbl := List.mem_append_right _ (List.mem_of_getElem? (i := 1371) (by decide +kernel))
theorem hts_g {args : Array Value} {s : State} (hts : ∀ w ∈ lw_tbl, w.before args s = true) : ∀ w ∈ gtbl, w.before args s = true := by
  intro w hw
  rcases gtbl_in hw with h | h
  · exact hts w h
  · have one : ∀ y : MethodName, (y.cls ≠ "java/lang/invoke/MethodHandle" ∧ y.cls ≠ "java/lang/invoke/VarHandle") → yJ5_isLatin1_aae02.cls = y.cls → Cond.privateMethod y ∈ lw_tbl → Cond.instanceMethod y ∈ lw_tbl → (Cond.selects RJ4 y y).before args s = true := fun y h1 h2 h3 h4 => sel_up h1 h2 (hts _ se_0) (hts _ h3) (hts _ h4)
    unfold selB at h
    simp only [List.mem_cons, List.not_mem_nil, or_false] at h
    rcases h with rfl | rfl | rfl | rfl
    · exact one _ (by decide) rfl se_p1 se_i1
    · exact one _ (by decide) rfl se_p2 se_i2
    · exact one _ (by decide) rfl se_p3 se_i3
    · exact one _ (by decide) rfl se_p4 se_i4
theorem sr_ev {args : Array Value} {s : State} {own tx : String} {k : Nat} (w : (Cond.stringRef own k tx).before args s = true) : ∃ a, (Term.string own k).eval args s none [] s = some (.ref a) := by
  cases hc : s.vm.findClass own with
  | none => simp [Cond.before, Cond.holds, Cond.value, hc] at w
  | some cc =>
    obtain ⟨k1, cf, i, a, -, -, -, -, -, he⟩ := Cond.stringRef_spec (args := args) (first := s) (o := none) (s := s) (idx := []) hc w
    exact ⟨a, he⟩
section ENTRY
variable {args : Array Value} {s : State} {A : Nat → Prop}
theorem st_of {i : Nat} (hi : i < 52) (hA : ∀ a : Nat, a < s.heap.size → ¬ A a) (hn : ∀ w ∈ fNar, w.before args s = true) : ∃ a v, (tSt i).eval args s none [] s = some (.ref a) ∧ va_O "java/lang/String" a A s s.heap ∧ va_OF "java/lang/String" "coder" "B" (.int 0) a A s s.heap ∧ va_OF "java/lang/String" "value" "[B" (.ref v) a A s s.heap ∧ va_T .byte v (kLen i) (fun j => .int (kCh i j)) A s s.heap := by
  have hw : ∀ w ∈ stW i, w.before args s = true := fun w h => hn w (fn_st hi w h)
  have h1 : (Cond.exactly (tSt i) "java/lang/String").before args s = true := hw _ (List.mem_append_left _ (List.mem_of_getElem? (i := 0) rfl))
  have h2 : (Cond.eq (.field (tSt i) "java/lang/String" "coder" "B") (.int 0)).before args s = true := hw _ (List.mem_append_left _ (List.mem_of_getElem? (i := 1) rfl))
  have h3 : (Cond.arrayOf (tVa i) .byte).before args s = true := hw _ (List.mem_append_left _ (List.mem_of_getElem? (i := 2) rfl))
  have h4 : (Cond.eq (.length (tVa i)) (.int (Int32.ofNat (kLen i)))).before args s = true := hw _ (List.mem_append_left _ (List.mem_of_getElem? (i := 3) rfl))
  have h5 : ∀ j, j < kLen i → (Cond.eq (.elem (tVa i) (.int (Int32.ofNat j))) (.int (kCh i j))).before args s = true := fun j hj => hw _ (List.mem_append_right _ (List.mem_map.mpr ⟨j, List.mem_range.mpr hj, rfl⟩))
  have hL : kLen i < 2 ^ 31 := by
    have := (k_at hi).2.1
    omega
  obtain ⟨a, -, -, -, ha, -⟩ := Cond.exactly_spec (args := args) (first := s) (o := none) (s := s) (idx := []) h1
  obtain ⟨v, hv, hT⟩ := va_Tof (f := fun j => .int (kCh i j)) hL h3 (va_eqt h4) (fun j hj => va_eqt (h5 j hj)) hA
  exact ⟨a, v, ha, va_Oof h1 ha hA, vk_OFof ha (va_eqt h2) hA, vk_OFof ha hv hA, hT⟩
theorem nest_of {w : Cond} (h : isNest w = true) (hb : w.before args s = true) : va_Nw w s := by
  cases w <;> first | exact absurd h Bool.false_ne_true | exact va_Nw.of rfl hb
theorem ao_arr {t : FieldType} (h : (Cond.arrayOver (.array t)).before args s = true) : aF s t := Jvm.Stand.arrayOver_specB h
theorem arr_one {ty : FieldType} {c comp : ClassId} {k : Class} (h2 : s.vm.classes[c]? = some k) (h3 : k.kind = .array comp ty) : ArrOfT s c ty := fun n z => ⟨fun k h => (by cases h), k, h2, comp, h3⟩
theorem arr_cls {ty : FieldType} (w : (Cond.arrayClass ty).before args s = true) : ∃ cA k comp, s.vm.findClass ("[" ++ ty.toString) = some cA ∧ s.vm.classes[cA]? = some k ∧ k.kind = .array comp ty := Cond.arrayClass_spec (args := args) (first := s) (o := none) (s := s) (idx := []) w
/-- the array classes -/
def yF (c0 c1 c2 c3 c4 c5 c6 c7 : ClassId) : Nat → ClassId := fun k => match k with | 0 => c0 | 1 => c1 | 2 => c2 | 3 => c3 | 4 => c4 | 5 => c5 | 6 => c6 | _ => c7
theorem cls_at (htg : ∀ w ∈ gtbl, w.before args s = true) (hts : ∀ w ∈ lw_tbl, w.before args s = true) : ∃ Y : Nat → ClassId, (∀ (k : Nat) (q : ClassId × FieldType), (gU Y)[k]? = some q → ArrOfT s q.1 q.2 ∧ va_RA s q.1 q.2) ∧ aK s (Y 4) (Y 1) (.array .int) ∧ aK s (Y 5) (Y 4) (.array (.array .int)) ∧ aF s .int ∧ aF s (.array .int) ∧ va_AO "SofaDigLaw$Tree" s ∧ va_AO "java/lang/String" s := by
  obtain ⟨cB, kB, oB, b1, b2, b3⟩ := arr_cls (htg _ ac_B)
  obtain ⟨cI, kI, oI, i1, i2, i3⟩ := arr_cls (htg _ ac_I)
  obtain ⟨cJ, kJ, oJ, j1, j2, j3⟩ := arr_cls (htg _ ac_J)
  obtain ⟨cZ, kZ, oZ, z1, z2, z3⟩ := arr_cls (htg _ ac_Z)
  have a1 := ao_arr (hts _ to_1)
  have a2 := ao_arr (hts _ to_2)
  obtain ⟨m4, c4, k4, d1, d2, d3, d4, d5⟩ := id a1
  obtain ⟨m5, c5, k5, e1, e2, e3, e4, e5⟩ := id a2
  obtain ⟨m6, c6, k6, f1, f2, f3, f4, f5⟩ := Cond.arrayOver_spec (args := args) (first := s) (o := none) (s := s) (idx := []) (hts _ to_3)
  obtain ⟨m7, c7, k7, g1, g2, g3, g4, g5⟩ := Cond.arrayOver_spec (args := args) (first := s) (o := none) (s := s) (idx := []) (hts _ to_4)
  have q4 : m4 = cI := Option.some.inj (d1.symm.trans i1)
  have q5 : m5 = c4 := Option.some.inj (e1.symm.trans d5)
  subst q4 q5
  refine ⟨yF cB m4 cJ cZ m5 c5 c6 c7, ?_, ⟨k4, kI, d3, d4, i2, va_asg _ _⟩, ⟨k5, k4, e3, e4, d3, va_asg _ _⟩, a1, a2, va_AO.of (hts _ to_3), va_AO.of (hts _ to_4)⟩
  intro k q h
  match k, h with
  | 0, h => cases h; exact ⟨arr_one b2 b3, b1⟩
  | 1, h => cases h; exact ⟨arr_one i2 i3, i1⟩
  | 2, h => cases h; exact ⟨arr_one j2 j3, j1⟩
  | 3, h => cases h; exact ⟨arr_one z2 z3, z1⟩
  | 4, h => cases h; exact ⟨arr_one d3 d4, d5⟩
  | 5, h => cases h; exact ⟨arr_one e3 e4, e5⟩
  | 6, h => cases h; exact ⟨arr_one f3 f4, k6, m6, f3, f4, f1, f5⟩
  | 7, h => cases h; exact ⟨arr_one g3 g4, k7, m7, g3, g4, g1, g5⟩
  | k + 8, h => simp [gU] at h
theorem sf_at {b L : Nat} {xs : Nat → Int32} {Y : Nat → ClassId} (hA : ∀ a : Nat, a < s.heap.size → ¬ A a) (hts : ∀ w ∈ lw_tbl, w.before args s = true) (hn : ∀ w ∈ fNar, w.before args s = true) (hX : va_X b L xs s s.heap) (hb : ¬ A b) (hY : aK s (Y 4) (Y 1) (.array .int) ∧ aK s (Y 5) (Y 4) (.array (.array .int)) ∧ aF s .int ∧ aF s (.array .int) ∧ va_AO "SofaDigLaw$Tree" s ∧ va_AO "java/lang/String" s) : ∃ (f g : Nat → Nat) (o1 t1 : Nat), SF (f, g, o1, t1, Y, b, L, xs) A s s.heap := by
  have h1 : ∀ i, ∃ a v, i < 52 → ((tSt i).eval args s none [] s = some (.ref a) ∧ va_O "java/lang/String" a A s s.heap ∧ va_OF "java/lang/String" "coder" "B" (.int 0) a A s s.heap ∧ va_OF "java/lang/String" "value" "[B" (.ref v) a A s s.heap ∧ va_T .byte v (kLen i) (fun j => .int (kCh i j)) A s s.heap) := by
    intro i
    by_cases hi : i < 52
    · obtain ⟨a, v, h⟩ := st_of hi hA hn
      exact ⟨a, v, fun _ => h⟩
    · exact ⟨0, 0, fun z => absurd z hi⟩
  have h2 : ∃ (f g : Nat → Nat), ∀ i, i < 52 → ((tSt i).eval args s none [] s = some (.ref (f i)) ∧ va_O "java/lang/String" (f i) A s s.heap ∧ va_OF "java/lang/String" "coder" "B" (.int 0) (f i) A s s.heap ∧ va_OF "java/lang/String" "value" "[B" (.ref (g i)) (f i) A s s.heap ∧ va_T .byte (g i) (kLen i) (fun j => .int (kCh i j)) A s s.heap) :=
    ⟨fun i => Classical.choose (h1 i), fun i => Classical.choose (Classical.choose_spec (h1 i)), fun i => Classical.choose_spec (Classical.choose_spec (h1 i))⟩
  obtain ⟨f, g, hf⟩ := h2
  obtain ⟨o1, ho, hO⟩ := va_Tof (f := fun j => .int (kDo j)) (by decide : 100 < 2 ^ 31) (hn _ fn_ao) (va_eqt (hn _ fn_lo)) (fun j hj => va_eqt (hn _ (fn_do hj))) hA
  obtain ⟨t1, ht, hT⟩ := va_Tof (f := fun j => .int (kDt j)) (by decide : 100 < 2 ^ 31) (hn _ fn_at) (va_eqt (hn _ fn_lt)) (fun j hj => va_eqt (hn _ (fn_dt hj))) hA
  refine ⟨f, g, o1, t1, fun w hw hk => nest_of hk (hts w hw), fun i hi => ?_, ⟨va_Zref (hts _ tl_o) (hts _ ti_I1) ho hA, hO, va_Zref (hts _ tl_t) (hts _ ti_I1) ht hA, hT⟩, ⟨va_Zof (hts _ tl_C1) (hts _ ti_C1) (va_eqt (hn _ fn_C1)) hA, va_Zqof (hts _ tl_P1) (hts _ ti_P1) (hn _ fn_P1) hA⟩, hY, hX, hb⟩
  obtain ⟨tx, hm⟩ := ts_at i hi
  exact ⟨⟨tx, vk_R.of (hts _ hm) (hf i hi).1⟩, (hf i hi).2⟩
end ENTRY
