/-! what holds at the entry outside of the cells: texts, statics, links -/
def fNar : List Cond := flatC (Jvm.Cond.and given_1 narrow_1)
def kIx : List (String × Nat) := [("SofaDig$Kind", 9), ("SofaDig$Kind", 31), ("SofaDigModel", 448), ("SofaDigModel", 449), ("SofaDigModel", 451), ("SofaDigModel", 452), ("SofaDigModel", 453), ("SofaDigModel", 455), ("SofaDigModel", 457), ("SofaDigModel", 459), ("SofaDigModel", 460), ("SofaDigModel", 462), ("SofaDigModel", 464), ("SofaDigModel", 466), ("SofaDigModel", 468), ("SofaDigModel", 470), ("SofaDigModel", 472), ("SofaDigModel", 474), ("SofaDigModel", 476), ("SofaDigModel", 478), ("SofaDigModel", 480), ("SofaDigModel", 482), ("SofaDigModel", 484), ("SofaDigModel", 486), ("SofaDigModel", 488), ("SofaDigModel", 489), ("SofaDigModel", 490), ("SofaDigModel", 492), ("SofaDigModel", 494), ("SofaDigModel", 496), ("SofaDigModel", 497)]
def kO (i : Nat) : String := (kIx.getD i ("", 0)).1
def kK (i : Nat) : Nat := (kIx.getD i ("", 0)).2
abbrev tSt (i : Nat) : Term := .string (kO i) (kK i)
abbrev tVa (i : Nat) : Term := .field (tSt i) "java/lang/String" "value" "[B"
/-- what is given of a text -/
def stW (i : Nat) : List Cond := [.exactly (tSt i) "java/lang/String", .eq (.field (tSt i) "java/lang/String" "coder" "B") (.int 0), .arrayOf (tVa i) .byte, .eq (.length (tVa i)) (.int (Int32.ofNat (kLen i)))] ++ (List.range (kLen i)).map (fun j => .eq (.elem (tVa i) (.int (Int32.ofNat j))) (.int (kCh i j)))
set_option maxRecDepth 100000 in
theorem fn_A : (fNar.drop 79).take 241 = stW 0 ++ stW 1 := by decide +kernel
set_option maxRecDepth 100000 in
theorem fn_B : fNar.drop 612 = (List.range 29).flatMap (fun i => stW (i + 2)) := by decide +kernel
set_option maxRecDepth 100000 in
theorem fn_W : (fNar.drop 14).take 29 = (List.range 29).map (fun j => Cond.eq (.elem (.static "SofaDigModel" "WORDS" "[Ljava/lang/String;") (.int (Int32.ofNat j))) (tSt (j + 2))) := by decide +kernel
theorem fn_st {i : Nat} (hi : i < 31) : ∀ w ∈ stW i, w ∈ fNar := by
  intro w hw
  rcases Nat.lt_or_ge i 2 with h | h
  · have h1 : w ∈ stW 0 ++ stW 1 := by
      rcases (show i = 0 ∨ i = 1 by omega) with e | e
      · rw [e] at hw; exact List.mem_append_left _ hw
      · rw [e] at hw; exact List.mem_append_right _ hw
    rw [← fn_A] at h1
    exact List.mem_of_mem_drop (List.mem_of_mem_take h1)
  · have h1 : w ∈ (List.range 29).flatMap (fun i => stW (i + 2)) := List.mem_flatMap.mpr ⟨i - 2, List.mem_range.mpr (by omega), by rw [show i - 2 + 2 = i by omega]; exact hw⟩
    rw [← fn_B] at h1
    exact List.mem_of_mem_drop h1
theorem fn_wo {j : Nat} (hj : j < 29) : Cond.eq (.elem (.static "SofaDigModel" "WORDS" "[Ljava/lang/String;") (.int (Int32.ofNat j))) (tSt (j + 2)) ∈ fNar := by
  have h1 : Cond.eq (.elem (.static "SofaDigModel" "WORDS" "[Ljava/lang/String;") (.int (Int32.ofNat j))) (tSt (j + 2)) ∈ (List.range 29).map (fun j => Cond.eq (.elem (.static "SofaDigModel" "WORDS" "[Ljava/lang/String;") (.int (Int32.ofNat j))) (tSt (j + 2))) := List.mem_map.mpr ⟨j, List.mem_range.mpr hj, rfl⟩
  rw [← fn_W] at h1
  exact List.mem_of_mem_drop (List.mem_of_mem_take h1)
theorem fn_Wa : Cond.arrayOf (.static "SofaDigModel" "WORDS" "[Ljava/lang/String;") (.object "java/lang/String") ∈ fNar := List.mem_of_getElem? (i := 12) (by decide +kernel)
theorem fn_Wl : Cond.eq (.length (.static "SofaDigModel" "WORDS" "[Ljava/lang/String;")) (.int (Int32.ofNat 29)) ∈ fNar := List.mem_of_getElem? (i := 13) (by decide +kernel)
theorem fn_C : Cond.eq (.static "java/lang/String" "COMPACT_STRINGS" "Z") (.int 1) ∈ fNar := List.mem_of_getElem? (i := 4) (by decide +kernel)
theorem fn_P : Cond.isRef (.static "jdk/internal/util/Preconditions" "SIOOBE_FORMATTER" "Ljava/util/function/BiFunction;") ∈ fNar := List.mem_of_getElem? (i := 5) (by decide +kernel)
theorem fn_U : Cond.isRef (.static Bundle.tN "UNASSIGNED_STACK" Bundle.steD) ∈ fNar := List.mem_of_getElem? (i := 9) (by decide +kernel)
theorem fn_S : Cond.isRef (.static Bundle.tN "SUPPRESSED_SENTINEL" Bundle.listD) ∈ fNar := List.mem_of_getElem? (i := 10) (by decide +kernel)
theorem fn_N : Cond.not (.castable "java/lang/IllegalStateException" "java/lang/IndexOutOfBoundsException") ∈ fNar := List.mem_of_getElem? (i := 77) (by decide +kernel)
theorem tl_W : Cond.laysStatic "SofaDigModel" "WORDS" "[Ljava/lang/String;" ∈ lw_tbl := List.mem_append_right _ (List.mem_of_getElem? (i := 1417) (by decide +kernel))
theorem tl_C : Cond.laysStatic "java/lang/String" "COMPACT_STRINGS" "Z" ∈ lw_tbl := List.mem_append_right _ (List.mem_of_getElem? (i := 377) (by decide +kernel))
theorem tl_P : Cond.laysStatic "jdk/internal/util/Preconditions" "SIOOBE_FORMATTER" "Ljava/util/function/BiFunction;" ∈ lw_tbl := List.mem_append_right _ (List.mem_of_getElem? (i := 396) (by decide +kernel))
theorem tl_U : Cond.laysStatic Bundle.tN "UNASSIGNED_STACK" Bundle.steD ∈ lw_tbl := List.mem_append_right _ (List.mem_of_getElem? (i := 817) (by decide +kernel))
theorem tl_S : Cond.laysStatic Bundle.tN "SUPPRESSED_SENTINEL" Bundle.listD ∈ lw_tbl := List.mem_append_right _ (List.mem_of_getElem? (i := 819) (by decide +kernel))
theorem ti_W : Cond.initialized "SofaDigModel" ∈ lw_tbl := List.mem_append_right _ (List.mem_of_getElem? (i := 10) (by decide +kernel))
theorem ti_C : Cond.initialized "java/lang/String" ∈ lw_tbl := List.mem_append_right _ (List.mem_of_getElem? (i := 18) (by decide +kernel))
theorem ti_P : Cond.initialized "jdk/internal/util/Preconditions" ∈ lw_tbl := List.mem_append_right _ (List.mem_of_getElem? (i := 20) (by decide +kernel))
theorem ti_T : Cond.initialized Bundle.tN ∈ lw_tbl := List.mem_append_right _ (List.mem_of_getElem? (i := 12) (by decide +kernel))
theorem ts_0 : ∃ tx, Cond.stringRef "SofaDig$Kind" 9 tx ∈ lw_tbl := ⟨"seats  layers empire from   to     coin   crumbs spring in     year   of     dig    prop   free   when   day    found  slides props  first  last   height seen   sure   not    and    or     min    max    ", List.mem_append_right _ (List.mem_of_getElem? (i := 367) (by decide +kernel))⟩
theorem ts_1 : ∃ tx, Cond.stringRef "SofaDig$Kind" 31 tx ∈ lw_tbl := ⟨"( ) [ ] ; , + - * / < > = <=>=", List.mem_append_right _ (List.mem_of_getElem? (i := 427) (by decide +kernel))⟩
theorem sr_ev {args : Array Value} {s : State} {own tx : String} {k : Nat} (w : (Cond.stringRef own k tx).before args s = true) : ∃ a, (Term.string own k).eval args s none [] s = some (.ref a) := by
  cases hc : s.vm.findClass own with
  | none => simp [Cond.before, Cond.holds, Cond.value, hc] at w
  | some cc =>
    obtain ⟨k1, cf, i, a, -, -, -, -, -, he⟩ := Cond.stringRef_spec (args := args) (first := s) (o := none) (s := s) (idx := []) hc w
    exact ⟨a, he⟩
section ENTRY
variable {args : Array Value} {s : State} {A : Nat → Prop}
theorem st_of {i : Nat} (hi : i < 31) (hA : ∀ a : Nat, a < s.heap.size → ¬ A a) (hn : ∀ w ∈ fNar, w.before args s = true) : ∃ a v, (tSt i).eval args s none [] s = some (.ref a) ∧ va_O "java/lang/String" a A s s.heap ∧ va_OF "java/lang/String" "coder" "B" (.int 0) a A s s.heap ∧ va_OF "java/lang/String" "value" "[B" (.ref v) a A s s.heap ∧ va_T .byte v (kLen i) (fun j => .int (kCh i j)) A s s.heap := by
  have hw : ∀ w ∈ stW i, w.before args s = true := fun w h => hn w (fn_st hi w h)
  have h1 : (Cond.exactly (tSt i) "java/lang/String").before args s = true := hw _ (List.mem_append_left _ (List.mem_of_getElem? (i := 0) rfl))
  have h2 : (Cond.eq (.field (tSt i) "java/lang/String" "coder" "B") (.int 0)).before args s = true := hw _ (List.mem_append_left _ (List.mem_of_getElem? (i := 1) rfl))
  have h3 : (Cond.arrayOf (tVa i) .byte).before args s = true := hw _ (List.mem_append_left _ (List.mem_of_getElem? (i := 2) rfl))
  have h4 : (Cond.eq (.length (tVa i)) (.int (Int32.ofNat (kLen i)))).before args s = true := hw _ (List.mem_append_left _ (List.mem_of_getElem? (i := 3) rfl))
  have h5 : ∀ j, j < kLen i → (Cond.eq (.elem (tVa i) (.int (Int32.ofNat j))) (.int (kCh i j))).before args s = true := fun j hj => hw _ (List.mem_append_right _ (List.mem_map.mpr ⟨j, List.mem_range.mpr hj, rfl⟩))
  have hL : kLen i < 2 ^ 31 := by
    have : ∀ i, i < 31 → kLen i < 1000 := by decide +kernel
    have := this i hi
    omega
  obtain ⟨a, -, -, -, ha, -⟩ := Cond.exactly_spec (args := args) (first := s) (o := none) (s := s) (idx := []) h1
  obtain ⟨v, hv, hT⟩ := va_Tof (f := fun j => .int (kCh i j)) hL h3 (va_eqt h4) (fun j hj => va_eqt (h5 j hj)) hA
  exact ⟨a, v, ha, va_Oof h1 ha hA, vk_OFof ha (va_eqt h2) hA, vk_OFof ha hv hA, hT⟩
theorem nest_of {w : Cond} (h : isNest w = true) (hb : w.before args s = true) : va_Nw w s := by
  cases w <;> first | exact absurd h Bool.false_ne_true | exact va_Nw.of rfl hb
theorem sf_at (hA : ∀ a : Nat, a < s.heap.size → ¬ A a) (hts : ∀ w ∈ lw_tbl, w.before args s = true) (hn : ∀ w ∈ fNar, w.before args s = true) : ∃ Z : gZ, SF Z A s s.heap := by
  have h1 : ∀ i, ∃ a v, i < 31 → ((tSt i).eval args s none [] s = some (.ref a) ∧ va_O "java/lang/String" a A s s.heap ∧ va_OF "java/lang/String" "coder" "B" (.int 0) a A s s.heap ∧ va_OF "java/lang/String" "value" "[B" (.ref v) a A s s.heap ∧ va_T .byte v (kLen i) (fun j => .int (kCh i j)) A s s.heap) := by
    intro i
    by_cases hi : i < 31
    · obtain ⟨a, v, h⟩ := st_of hi hA hn
      exact ⟨a, v, fun _ => h⟩
    · exact ⟨0, 0, fun z => absurd z hi⟩
  have h2 : ∃ (f g : Nat → Nat), ∀ i, i < 31 → ((tSt i).eval args s none [] s = some (.ref (f i)) ∧ va_O "java/lang/String" (f i) A s s.heap ∧ va_OF "java/lang/String" "coder" "B" (.int 0) (f i) A s s.heap ∧ va_OF "java/lang/String" "value" "[B" (.ref (g i)) (f i) A s s.heap ∧ va_T .byte (g i) (kLen i) (fun j => .int (kCh i j)) A s s.heap) :=
    ⟨fun i => Classical.choose (h1 i), fun i => Classical.choose (Classical.choose_spec (h1 i)), fun i => Classical.choose_spec (Classical.choose_spec (h1 i))⟩
  obtain ⟨f, g, hf⟩ := h2
  obtain ⟨t, ht, hT⟩ := va_Tof (f := fun j => .ref (f (j + 2))) (by decide : 29 < 2 ^ 31) (hn _ fn_Wa) (va_eqt (hn _ fn_Wl)) (fun j hj => va_eqv (hn _ (fn_wo hj)) (hf (j + 2) (by omega)).1) hA
  obtain ⟨x0, m0⟩ := ts_0
  obtain ⟨x1, m1⟩ := ts_1
  refine ⟨(f, g, t), fun w hw hk => nest_of hk (hts w hw), fun own k tx hm => ?_, ⟨x0, vk_R.of (hts _ m0) (hf 0 (by decide)).1⟩, ⟨x1, vk_R.of (hts _ m1) (hf 1 (by decide)).1⟩, fun i hi => (hf i hi).2, ⟨va_Zref (hts _ tl_W) (hts _ ti_W) ht hA, hT⟩, ⟨va_Zof (hts _ tl_C) (hts _ ti_C) (va_eqt (hn _ fn_C)) hA, va_Zqof (hts _ tl_P) (hts _ ti_P) (hn _ fn_P) hA⟩, vx_Zqof (hts _ tl_U) (hts _ ti_T) (hn _ fn_U) hA, vx_Zqof (hts _ tl_S) (hts _ ti_T) (hn _ fn_S) hA, va_Nc.of (hn _ fn_N)⟩
  obtain ⟨a, ha⟩ := sr_ev (hts _ hm)
  exact ⟨a, vk_R.of (hts _ hm) ha⟩
end ENTRY
