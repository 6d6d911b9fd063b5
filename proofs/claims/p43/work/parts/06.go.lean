/-! The walk as data: the machine's tuple E, the world w, the locals ls, the stack st; a rule an instruction. -/
abbrev gE : Type := Program × Launch × Env × Room × State × MethodId × Array Value × List Frame × Method × Code
abbrev gZ : Type := (Nat → Nat) × (Nat → Nat) × Nat × Nat × (Nat → ClassId) × Nat × Nat × (Nat → Int32)
abbrev gD : Type := va_G × gZ
/-- the bytes of the texts: 0 and 1 the class's words and signs, from 2 on the law's -/
def kTx : List (List Int32) := [[115, 101, 97, 116, 115, 32, 32, 108, 97, 121, 101, 114, 115, 32, 101, 109, 112, 105, 114, 101, 32, 102, 114, 111, 109, 32, 32, 32, 116, 111, 32, 32, 32, 32, 32, 99, 111, 105, 110, 32, 32, 32, 99, 114, 117, 109, 98, 115, 32, 115, 112, 114, 105, 110, 103, 32, 105, 110, 32, 32, 32, 32, 32, 121, 101, 97, 114, 32, 32, 32, 111, 102, 32, 32, 32, 32, 32, 100, 105, 103, 32, 32, 32, 32, 112, 114, 111, 112, 32, 32, 32, 102, 114, 101, 101, 32, 32, 32, 119, 104, 101, 110, 32, 32, 32, 100, 97, 121, 32, 32, 32, 32, 102, 111, 117, 110, 100, 32, 32, 115, 108, 105, 100, 101, 115, 32, 112, 114, 111, 112, 115, 32, 32, 102, 105, 114, 115, 116, 32, 32, 108, 97, 115, 116, 32, 32, 32, 104, 101, 105, 103, 104, 116, 32, 115, 101, 101, 110, 32, 32, 32, 115, 117, 114, 101, 32, 32, 32, 110, 111, 116, 32, 32, 32, 32, 97, 110, 100, 32, 32, 32, 32, 111, 114, 32, 32, 32, 32, 32, 109, 105, 110, 32, 32, 32, 32, 109, 97, 120, 32, 32, 32, 32], [40, 32, 41, 32, 91, 32, 93, 32, 59, 32, 44, 32, 43, 32, 45, 32, 42, 32, 47, 32, 60, 32, 62, 32, 61, 32, 60, 61, 62, 61], [], [100, 97, 121, 32], [102, 111, 117, 110, 100, 32], [115, 108, 105, 100, 101, 115, 32], [112, 114, 111, 112, 115, 32], [102, 105, 114, 115, 116, 32, 111, 102, 32, 101], [108, 97, 115, 116, 32, 111, 102, 32, 101], [43], [45], [42], [47], [109, 105, 110, 40], [109, 97, 120, 40], [60], [62], [61], [60, 61], [62, 61], [32], [104, 101, 105, 103, 104, 116, 40], [41], [45, 32, 40], [40], [44], [115, 101, 101, 110, 32, 101], [115, 117, 114, 101, 32], [110, 111, 116, 91], [93], [91], [97, 110, 100], [111, 114], [115, 101, 97, 116, 115, 32], [32, 108, 97, 121, 101, 114, 115, 32], [59, 10], [101, 109, 112, 105, 114, 101, 32, 101], [32, 102, 114, 111, 109, 32], [32, 116, 111, 32], [59], [32, 105, 110, 32], [44], [115, 112, 114, 105, 110, 103], [99, 111, 105, 110], [99, 114, 117, 109, 98, 115], [32, 121, 101, 97, 114, 32], [32, 111, 102, 32, 101], [100, 105, 103, 32], [112, 114, 111, 112, 32], [102, 114, 101, 101, 32], [], [32, 119, 104, 101, 110, 32]]
def kAt : List (String × Nat) := [("SofaDig$Kind", 9), ("SofaDig$Kind", 31), ("SofaDigLaw$Tree", 67), ("SofaDigLaw$Tree", 69), ("SofaDigLaw$Tree", 71), ("SofaDigLaw$Tree", 73), ("SofaDigLaw$Tree", 75), ("SofaDigLaw$Tree", 77), ("SofaDigLaw$Tree", 79), ("SofaDigLaw$Tree", 81), ("SofaDigLaw$Tree", 83), ("SofaDigLaw$Tree", 85), ("SofaDigLaw$Tree", 87), ("SofaDigLaw$Tree", 89), ("SofaDigLaw$Tree", 91), ("SofaDigLaw$Tree", 93), ("SofaDigLaw$Tree", 95), ("SofaDigLaw$Tree", 97), ("SofaDigLaw$Tree", 99), ("SofaDigLaw$Tree", 101), ("SofaDigLaw$Tree", 117), ("SofaDigLaw$Tree", 119), ("SofaDigLaw$Tree", 124), ("SofaDigLaw$Tree", 126), ("SofaDigLaw$Tree", 128), ("SofaDigLaw$Tree", 130), ("SofaDigLaw$Tree", 132), ("SofaDigLaw$Tree", 134), ("SofaDigLaw$Tree", 136), ("SofaDigLaw$Tree", 138), ("SofaDigLaw$Tree", 140), ("SofaDigLaw$Tree", 142), ("SofaDigLaw$Tree", 144), ("SofaDigLaw", 73), ("SofaDigLaw", 84), ("SofaDigLaw", 86), ("SofaDigLaw", 96), ("SofaDigLaw", 98), ("SofaDigLaw", 100), ("SofaDigLaw", 102), ("SofaDigLaw", 109), ("SofaDigLaw", 111), ("SofaDigLaw", 117), ("SofaDigLaw", 122), ("SofaDigLaw", 124), ("SofaDigLaw", 126), ("SofaDigLaw", 128), ("SofaDigLaw", 141), ("SofaDigLaw", 143), ("SofaDigLaw", 145), ("SofaDigLaw", 150), ("SofaDigLaw", 152)]
def kLen (i : Nat) : Nat := (kTx.getD i []).length
def kCh (i j : Nat) : Int32 := (kTx.getD i []).getD j 0
def kOw (i : Nat) : String := (kAt.getD i ("", 0)).1
def kIx (i : Nat) : Nat := (kAt.getD i ("", 0)).2
def isNest : Cond → Bool
  | .fieldLinkNest .. => true
  | .methodLinkNest .. => true
  | .castable .. => true
  | .declares .. => true
  | _ => false
/-- the digits of Integer: ones, tens -/
def kDo (j : Nat) : Int32 := nI (48 + j % 10)
def kDt (j : Nat) : Int32 := nI (48 + j / 10)
abbrev sfS (Z : gZ) (A : Nat → Prop) (U : State) (H : Heap) : Prop := ∀ i : Nat, i < 52 → (∃ tx, vk_R (kOw i) (kIx i) tx (Z.1 i) U) ∧ va_O "java/lang/String" (Z.1 i) A U H ∧ va_OF "java/lang/String" "coder" "B" (.int 0) (Z.1 i) A U H ∧ va_OF "java/lang/String" "value" "[B" (.ref (Z.2.1 i)) (Z.1 i) A U H ∧ va_T .byte (Z.2.1 i) (kLen i) (fun j => .int (kCh i j)) A U H
/-- the classes of arrays, the script -/
abbrev zY (Z : gZ) : Nat → ClassId := Z.2.2.2.2.1
abbrev zB (Z : gZ) : Nat := Z.2.2.2.2.2.1
abbrev zL (Z : gZ) : Nat := Z.2.2.2.2.2.2.1
abbrev zX (Z : gZ) : Nat → Int32 := Z.2.2.2.2.2.2.2
theorem va_Xlt {b L : Nat} {xs : Nat → Int32} {U : State} {H : Heap} (h : va_X b L xs U H) : b < H.size := by
  obtain ⟨scr, h1, -⟩ := h
  exact (Array.getElem?_eq_some_iff.mp h1).1
/-- an array class of references: its component's class, which holds its own -/
def aK (U : State) (cA cE : ClassId) (ty : FieldType) : Prop := ∃ kA kE : Class, U.vm.classes[cA]? = some kA ∧ kA.kind = .array cE ty ∧ U.vm.classes[cE]? = some kE ∧ U.vm.assignable cE cE = true
theorem aK.moved {u U : State} (hvm : u.vm.Alike U.vm) {cA cE : ClassId} {ty : FieldType} (h : aK u cA cE ty) : aK U cA cE ty := by
  obtain ⟨kA, kE, h1, h2, h3, h4⟩ := h
  obtain ⟨kA', g1, e1⟩ := hvm.2.2 _ _ h1
  obtain ⟨kE', g3, -⟩ := hvm.2.2 _ _ h3
  exact ⟨kA', kE', g1, by rw [e1]; exact h2, g3, by rw [hvm.assignable]; exact h4⟩
/-- there are rows of rows of ty -/
def aF (U : State) (ty : FieldType) : Prop := ∃ (comp cA : ClassId) (k : Class), U.vm.findClass (FieldType.array ty).toString = some comp ∧ (U.vm.classes.findIdx? fun (x : Class) => match x.kind with | .array component _ => component == comp | _ => false) = some cA ∧ U.vm.classes[cA]? = some k ∧ k.kind = .array comp (.array ty) ∧ U.vm.findClass ("[" ++ (FieldType.array ty).toString) = some cA
theorem aF.moved {u U : State} (hvm : u.vm.Alike U.vm) {ty : FieldType} (h : aF u ty) : aF U ty := by
  obtain ⟨comp, cA, k, h1, h2, h3, h4, h5⟩ := h
  obtain ⟨k', g3, e3⟩ := hvm.2.2 _ _ h3
  refine ⟨comp, cA, k', by rw [hvm.findClass]; exact h1, ?_, g3, by rw [e3]; exact h4, by rw [hvm.findClass]; exact h5⟩
  have e0 := va_idx_bare U.vm comp
  have e1 := va_idx_bare u.vm comp
  first | rw [hvm.bare_eq] at e0 | rw [← hvm.bare_eq] at e0
  exact (e0.symm.trans e1).trans h2
abbrev sfA (Z : gZ) (U : State) : Prop := aK U (zY Z 4) (zY Z 1) (.array .int) ∧ aK U (zY Z 5) (zY Z 4) (.array (.array .int)) ∧ aF U .int ∧ aF U (.array .int) ∧ va_AO "SofaDigLaw$Tree" U ∧ va_AO "java/lang/String" U
/-- the script -/
abbrev sfX (Z : gZ) (A : Nat → Prop) (U : State) (H : Heap) : Prop := va_X (zB Z) (zL Z) (zX Z) U H ∧ ¬ A (zB Z)
abbrev sfI (Z : gZ) (A : Nat → Prop) (U : State) (H : Heap) : Prop := va_Z "java/lang/Integer" "DigitOnes" "[B" (.ref Z.2.2.1) A U H ∧ va_T .byte Z.2.2.1 100 (fun j => .int (kDo j)) A U H ∧ va_Z "java/lang/Integer" "DigitTens" "[B" (.ref Z.2.2.2.1) A U H ∧ va_T .byte Z.2.2.2.1 100 (fun j => .int (kDt j)) A U H
abbrev sfC (A : Nat → Prop) (U : State) (H : Heap) : Prop := va_Z "java/lang/String" "COMPACT_STRINGS" "Z" (.int 1) A U H ∧ va_Zq "jdk/internal/util/Preconditions" "SIOOBE_FORMATTER" "Ljava/util/function/BiFunction;" A U H
/-- what stays true outside the cells that a method can reach: links and casts, the texts, statics -/
def SF (Z : gZ) (A : Nat → Prop) (U : State) (H : Heap) : Prop := (∀ w ∈ lw_tbl, isNest w = true → va_Nw w U) ∧ sfS Z A U H ∧ sfI Z A U H ∧ sfC A U H ∧ sfA Z U ∧ sfX Z A U H
theorem SF.warm {Z : gZ} {A B : Nat → Prop} {s U : State} {H0 H : Heap} (h : SF Z A s H0) (hW : s.WarmedH U.vm) (hq : ∀ a : Nat, a < H0.size → ¬ A a → H[a]? = H0[a]?) (hAB : ∀ q, B q → A q) : SF Z B U H := by
  obtain ⟨h1, h5, ⟨i1, i2, i3, i4⟩, ⟨h8, h9⟩, ⟨h10, h11, o1, o2, o3, o4⟩, h12, h13⟩ := h
  have hm := hW.alike
  refine ⟨fun w hw hn => ?_, fun i hi => ?_, ⟨?_, ?_, ?_, ?_⟩, ⟨?_, ?_⟩, ⟨h10.moved hm, h11.moved hm, o1.moved hm, o2.moved hm, o3.moved hm, o4.moved hm⟩, (h12.moved hm).kept (hq _ (va_Xlt h12) h13), fun z => h13 (hAB _ z)⟩
  · have h1 := h1 w hw hn
    cases w <;> first | exact absurd hn Bool.false_ne_true | exact va_Nw.warmF hW h1 | exact va_Nw.warmM hW h1 | exact va_Nw.warmC hW h1 | exact va_Nw.warmD hW h1
  · obtain ⟨⟨tx, a0⟩, a1, a2, a3, a4⟩ := h5 i hi
    exact ⟨⟨tx, a0.warm hW⟩, ((va_O.moved hm a1).kept hq).narrow hAB, ((va_OF.moved hm a2).kept hq).narrow hAB, ((va_OF.moved hm a3).kept hq).narrow hAB, ((va_T.moved hm a4).kept hq).narrow hAB⟩
  · exact ((va_Z.moved hm i1).kept hq).narrow hAB
  · exact ((va_T.moved hm i2).kept hq).narrow hAB
  · exact ((va_Z.moved hm i3).kept hq).narrow hAB
  · exact ((va_T.moved hm i4).kept hq).narrow hAB
  · exact ((va_Z.moved hm h8).kept hq).narrow hAB
  · exact ((va_Zq.moved hm h9).kept hq).narrow hAB
theorem SF.same {Z : gZ} {A : Nat → Prop} {u U : State} {H : Heap} (h : SF Z A u H) (hv : u.vm = U.vm) : SF Z A U H := by
  obtain ⟨h1, h5, ⟨i1, i2, i3, i4⟩, ⟨h8, h9⟩, ⟨h10, h11, o1, o2, o3, o4⟩, h12, h13⟩ := h
  have hm : u.vm.Alike U.vm := hv ▸ Vm.Alike.refl u.vm
  refine ⟨fun w hw hn => ?_, fun i hi => ?_, ⟨va_Z.moved hm i1, va_T.moved hm i2, va_Z.moved hm i3, va_T.moved hm i4⟩, ⟨va_Z.moved hm h8, va_Zq.moved hm h9⟩, ⟨h10.moved hm, h11.moved hm, o1.moved hm, o2.moved hm, o3.moved hm, o4.moved hm⟩, h12.moved hm, h13⟩
  · have h1 := h1 w hw hn
    cases w <;> first | exact absurd hn Bool.false_ne_true | exact va_Nw.same rfl hv h1
  · obtain ⟨⟨tx, a0⟩, a1, a2, a3, a4⟩ := h5 i hi
    exact ⟨⟨tx, a0.same hv.symm⟩, va_O.moved hm a1, va_OF.moved hm a2, va_OF.moved hm a3, va_T.moved hm a4⟩
abbrev gT (cB cI cJ cZ : ClassId) : List (ClassId × FieldType) := [(cB, .byte), (cI, .int), (cJ, .long), (cZ, .boolean)]
def Go (D : gD) (E : gE) (A : Nat → Prop) (Q : State → Prop) (nL cells slots : Nat) (w : va_W) (ls : List (Nat × Value)) (pc : Nat) (st : List Value) : Prop :=
  ∀ (H : Heap) (locs : List Loc) (la : Array Slot), va_P D.1 vwCl w H → va_D A w → va_S A E.2.2.2.2.1.heap H locs → lv_has la nL ls →
    W E.1 E.2.1 E.2.2.1 E.2.2.2.1 E.2.2.2.2.1 E.2.2.2.2.2.1 E.2.2.2.2.2.2.1 E.2.2.2.2.2.2.2.1 E.2.2.2.2.2.2.2.2.1 E.2.2.2.2.2.2.2.2.2 H locs cells slots Q (F0 E.2.2.2.2.2.1 pc la st)
/-- what stays through a method: the machine, its code, its class, the tables, the known classes, the free cells, the room -/
def Cx (D : gD) (tys : List (ClassId × FieldType)) (E : gE) (rm : Room) (cc : ByteArray) (nL : Nat) (own : String) (A : Nat → Prop) : Prop :=
  E.1.tables.exec = Jvm.exec ∧ E.2.2.2.2.2.2.2.2.2.code = cc ∧ E.2.2.2.2.2.2.2.2.2.maxLocals = nL ∧ E.2.2.2.2.1.vm.findClass own = some E.2.2.2.2.2.1.cls ∧ (∀ w ∈ gtbl, w.before E.2.2.2.2.2.2.1 E.2.2.2.2.1 = true) ∧ va_K D.1 vwCl tys E.2.2.2.2.1 ∧ (∀ q, E.2.2.2.2.1.heap.size ≤ q → A q) ∧ E.2.2.2.1 = rm ∧ SF D.2 A E.2.2.2.2.1 E.2.2.2.2.1.heap
section GORULES
variable {D : gD} {tys : List (ClassId × FieldType)} {E : gE} {rm : Room} {cc : ByteArray} {nL : Nat} {own : String} {A : Nat → Prop} {Q : State → Prop} {cells slots : Nat} {w : va_W} {ls : List (Nat × Value)} {pc : Nat} {rest : List Value}
theorem Cx.hx (C : Cx D tys E rm cc nL own A) : E.1.tables.exec = Jvm.exec := C.1
theorem Cx.hb (C : Cx D tys E rm cc nL own A) : E.2.2.2.2.2.2.2.2.2.code = cc := C.2.1
theorem Cx.hml (C : Cx D tys E rm cc nL own A) : E.2.2.2.2.2.2.2.2.2.maxLocals = nL := C.2.2.1
theorem Cx.hown (C : Cx D tys E rm cc nL own A) : E.2.2.2.2.1.vm.findClass own = some E.2.2.2.2.2.1.cls := C.2.2.2.1
theorem Cx.hts (C : Cx D tys E rm cc nL own A) : ∀ w ∈ gtbl, w.before E.2.2.2.2.2.2.1 E.2.2.2.2.1 = true := C.2.2.2.2.1
theorem Cx.hK (C : Cx D tys E rm cc nL own A) : va_K D.1 vwCl tys E.2.2.2.2.1 := C.2.2.2.2.2.1
theorem Cx.hA (C : Cx D tys E rm cc nL own A) : ∀ q, E.2.2.2.2.1.heap.size ≤ q → A q := C.2.2.2.2.2.2.1
theorem Cx.hR (C : Cx D tys E rm cc nL own A) : E.2.2.2.1 = rm := C.2.2.2.2.2.2.2.1
theorem Cx.hF (C : Cx D tys E rm cc nL own A) : SF D.2 A E.2.2.2.2.1 E.2.2.2.2.1.heap := C.2.2.2.2.2.2.2.2
-- locals and constants
theorem q_iload_n (C : Cx D tys E rm cc nL own A) {k : Fin 4} {x : Int32} (hd : decode cc pc = .ok (.iload_n k, 1)) (j : Nat) (hl : ls[j]? = some ((k : Nat), .int x)) (kk : Go D E A Q nL cells slots w ls (pc + 1) (.int x :: rest)) : Go D E A Q nL cells slots w ls pc rest :=
  fun H locs la hP hD hS h => lv_iload_n C.hx C.hb hd rfl (lv_at h j hl) (kk H locs la hP hD hS h)
theorem q_iload (C : Cx D tys E rm cc nL own A) {i : Nat} {x : Int32} (hd : decode cc pc = .ok (.iload i, 2)) (j : Nat) (hl : ls[j]? = some (i, .int x)) (kk : Go D E A Q nL cells slots w ls (pc + 2) (.int x :: rest)) : Go D E A Q nL cells slots w ls pc rest :=
  fun H locs la hP hD hS h => lv_iload C.hx C.hb hd (lv_at h j hl) (kk H locs la hP hD hS h)
theorem q_lload_n (C : Cx D tys E rm cc nL own A) {k : Fin 4} {x : Int64} (hd : decode cc pc = .ok (.lload_n k, 1)) (j : Nat) (hl : ls[j]? = some ((k : Nat), .long x)) (kk : Go D E A Q nL cells slots w ls (pc + 1) (.long x :: rest)) : Go D E A Q nL cells slots w ls pc rest :=
  fun H locs la hP hD hS h => lv_lload_n C.hx C.hb hd rfl (lv_at h j hl) (kk H locs la hP hD hS h)
theorem q_lload (C : Cx D tys E rm cc nL own A) {i : Nat} {x : Int64} (hd : decode cc pc = .ok (.lload i, 2)) (j : Nat) (hl : ls[j]? = some (i, .long x)) (kk : Go D E A Q nL cells slots w ls (pc + 2) (.long x :: rest)) : Go D E A Q nL cells slots w ls pc rest :=
  fun H locs la hP hD hS h => lv_lload C.hx C.hb hd (lv_at h j hl) (kk H locs la hP hD hS h)
theorem q_aload_n (C : Cx D tys E rm cc nL own A) {k : Fin 4} {x : Nat} (hd : decode cc pc = .ok (.aload_n k, 1)) (j : Nat) (hl : ls[j]? = some ((k : Nat), .ref x)) (kk : Go D E A Q nL cells slots w ls (pc + 1) (.ref x :: rest)) : Go D E A Q nL cells slots w ls pc rest :=
  fun H locs la hP hD hS h => lv_aload_n C.hx C.hb hd rfl (lv_at h j hl) (kk H locs la hP hD hS h)
theorem q_aload (C : Cx D tys E rm cc nL own A) {i : Nat} {x : Nat} (hd : decode cc pc = .ok (.aload i, 2)) (j : Nat) (hl : ls[j]? = some (i, .ref x)) (kk : Go D E A Q nL cells slots w ls (pc + 2) (.ref x :: rest)) : Go D E A Q nL cells slots w ls pc rest :=
  fun H locs la hP hD hS h => lv_aload C.hx C.hb hd (lv_at h j hl) (kk H locs la hP hD hS h)
theorem q_iconst (C : Cx D tys E rm cc nL own A) {n : Int} {v : Int32} (hd : decode cc pc = .ok (.iconst n, 1)) (hv : Int32.ofInt n = v) (kk : Go D E A Q nL cells slots w ls (pc + 1) (.int v :: rest)) : Go D E A Q nL cells slots w ls pc rest :=
  fun H locs la hP hD hS h => lv_iconst C.hx C.hb hd hv (kk H locs la hP hD hS h)
theorem q_bipush (C : Cx D tys E rm cc nL own A) {n : Int} {v : Int32} (hd : decode cc pc = .ok (.bipush n, 2)) (hv : (Int8.ofInt n).toInt32 = v) (kk : Go D E A Q nL cells slots w ls (pc + 2) (.int v :: rest)) : Go D E A Q nL cells slots w ls pc rest :=
  fun H locs la hP hD hS h => lv_bipush C.hx C.hb hd hv (kk H locs la hP hD hS h)
theorem q_sipush (C : Cx D tys E rm cc nL own A) {n : Int} {v : Int32} (hd : decode cc pc = .ok (.sipush n, 3)) (hv : (Int16.ofInt n).toInt32 = v) (kk : Go D E A Q nL cells slots w ls (pc + 3) (.int v :: rest)) : Go D E A Q nL cells slots w ls pc rest :=
  fun H locs la hP hD hS h => lv_sipush C.hx C.hb hd hv (kk H locs la hP hD hS h)
theorem q_lconst (C : Cx D tys E rm cc nL own A) {n : Fin 2} {v : Int64} (hd : decode cc pc = .ok (.lconst n, 1)) (hv : Int64.ofNat (n : Nat) = v) (kk : Go D E A Q nL cells slots w ls (pc + 1) (.long v :: rest)) : Go D E A Q nL cells slots w ls pc rest :=
  fun H locs la hP hD hS h => lv_lconst C.hx C.hb hd hv (kk H locs la hP hD hS h)
theorem q_ldc (C : Cx D tys E rm cc nL own A) {index : Nat} {v : Int32} (hc : Cond.constant own index v ∈ gtbl) (hd : decode cc pc = .ok (.ldc index, 2)) (kk : Go D E A Q nL cells slots w ls (pc + 2) (.int v :: rest)) : Go D E A Q nL cells slots w ls pc rest :=
  fun H locs la hP hD hS h => lv_ldc C.hx C.hb C.hown (C.hts _ hc) hd (kk H locs la hP hD hS h)
theorem q_ldcw (C : Cx D tys E rm cc nL own A) {index : Nat} {v : Int32} (hc : Cond.constant own index v ∈ gtbl) (hd : decode cc pc = .ok (.ldc_w index, 3)) (kk : Go D E A Q nL cells slots w ls (pc + 3) (.int v :: rest)) : Go D E A Q nL cells slots w ls pc rest :=
  fun H locs la hP hD hS h => lv_ldcw C.hx C.hb C.hown (C.hts _ hc) hd (kk H locs la hP hD hS h)
theorem q_ldc2 (C : Cx D tys E rm cc nL own A) {index : Nat} {v : Int64} (hc : Cond.constantLong own index v ∈ gtbl) (hd : decode cc pc = .ok (.ldc2_w index, 3)) (kk : Go D E A Q nL cells slots w ls (pc + 3) (.long v :: rest)) : Go D E A Q nL cells slots w ls pc rest :=
  fun H locs la hP hD hS h => lv_ldc2 C.hx C.hb C.hown (C.hts _ hc) hd (kk H locs la hP hD hS h)
theorem q_istore_n (C : Cx D tys E rm cc nL own A) {k : Fin 4} {x : Int32} (ls' : List (Nat × Value)) (hd : decode cc pc = .ok (.istore_n k, 1)) (hn : (k : Nat) < nL) (hl : ((k : Nat), Value.int x) :: ls.filter (fun q => !(q.1 == (k : Nat)) && !(q.1 + 1 == (k : Nat) && q.2.category == 2)) = ls') (kk : Go D E A Q nL cells slots w ls' (pc + 1) rest) : Go D E A Q nL cells slots w ls pc (.int x :: rest) :=
  fun H locs la hP hD hS h => lv_istore_n C.hx C.hb hd rfl h hn hl (fun la' h' => kk H locs la' hP hD hS h')
theorem q_istore (C : Cx D tys E rm cc nL own A) {i : Nat} {x : Int32} (ls' : List (Nat × Value)) (hd : decode cc pc = .ok (.istore i, 2)) (hn : i < nL) (hl : (i, Value.int x) :: ls.filter (fun q => !(q.1 == i) && !(q.1 + 1 == i && q.2.category == 2)) = ls') (kk : Go D E A Q nL cells slots w ls' (pc + 2) rest) : Go D E A Q nL cells slots w ls pc (.int x :: rest) :=
  fun H locs la hP hD hS h => lv_istore C.hx C.hb hd h hn hl (fun la' h' => kk H locs la' hP hD hS h')
theorem q_astore_n (C : Cx D tys E rm cc nL own A) {k : Fin 4} {x : Nat} (ls' : List (Nat × Value)) (hd : decode cc pc = .ok (.astore_n k, 1)) (hn : (k : Nat) < nL) (hl : ((k : Nat), Value.ref x) :: ls.filter (fun q => !(q.1 == (k : Nat)) && !(q.1 + 1 == (k : Nat) && q.2.category == 2)) = ls') (kk : Go D E A Q nL cells slots w ls' (pc + 1) rest) : Go D E A Q nL cells slots w ls pc (.ref x :: rest) :=
  fun H locs la hP hD hS h => lv_astore_n C.hx C.hb hd rfl h hn hl (fun la' h' => kk H locs la' hP hD hS h')
theorem q_astore (C : Cx D tys E rm cc nL own A) {i : Nat} {x : Nat} (ls' : List (Nat × Value)) (hd : decode cc pc = .ok (.astore i, 2)) (hn : i < nL) (hl : (i, Value.ref x) :: ls.filter (fun q => !(q.1 == i) && !(q.1 + 1 == i && q.2.category == 2)) = ls') (kk : Go D E A Q nL cells slots w ls' (pc + 2) rest) : Go D E A Q nL cells slots w ls pc (.ref x :: rest) :=
  fun H locs la hP hD hS h => lv_astore C.hx C.hb hd h hn hl (fun la' h' => kk H locs la' hP hD hS h')
theorem q_lstore_n (C : Cx D tys E rm cc nL own A) {k : Fin 4} {x : Int64} (ls' : List (Nat × Value)) (hd : decode cc pc = .ok (.lstore_n k, 1)) (hn : (k : Nat) + 1 < nL) (hl : ((k : Nat), Value.long x) :: ls.filter (fun q => !(q.1 == (k : Nat)) && (!(q.1 == (k : Nat) + 1) && !(q.1 + 1 == (k : Nat) && q.2.category == 2))) = ls') (kk : Go D E A Q nL cells slots w ls' (pc + 1) rest) : Go D E A Q nL cells slots w ls pc (.long x :: rest) :=
  fun H locs la hP hD hS h => lv_lstore_n C.hx C.hb hd rfl h hn hl (fun la' h' => kk H locs la' hP hD hS h')
theorem q_lstore (C : Cx D tys E rm cc nL own A) {i : Nat} {x : Int64} (ls' : List (Nat × Value)) (hd : decode cc pc = .ok (.lstore i, 2)) (hn : i + 1 < nL) (hl : (i, Value.long x) :: ls.filter (fun q => !(q.1 == i) && (!(q.1 == i + 1) && !(q.1 + 1 == i && q.2.category == 2))) = ls') (kk : Go D E A Q nL cells slots w ls' (pc + 2) rest) : Go D E A Q nL cells slots w ls pc (.long x :: rest) :=
  fun H locs la hP hD hS h => lv_lstore C.hx C.hb hd h hn hl (fun la' h' => kk H locs la' hP hD hS h')
theorem q_iinc (C : Cx D tys E rm cc nL own A) {i : Nat} {n : Int} {x v : Int32} (ls' : List (Nat × Value)) (hd : decode cc pc = .ok (.iinc i n, 3)) (j : Nat) (hj : ls[j]? = some (i, .int x)) (hv : x + Int32.ofInt n = v) (hn : i < nL) (hl : (i, Value.int v) :: ls.filter (fun q => !(q.1 == i) && !(q.1 + 1 == i && q.2.category == 2)) = ls') (kk : Go D E A Q nL cells slots w ls' (pc + 3) rest) : Go D E A Q nL cells slots w ls pc rest :=
  fun H locs la hP hD hS h => lv_iinc C.hx C.hb hd h hj hv hn hl (fun la' h' => kk H locs la' hP hD hS h')
/-- fewer locals, in another order -/
theorem q_ls (ls' : List (Nat × Value)) (ks : List Nat) (hl : lv_pick ls ks = ls') {st : List Value} (kk : Go D E A Q nL cells slots w ls' pc st) : Go D E A Q nL cells slots w ls pc st :=
  fun H locs la hP hD hS h => kk H locs la hP hD hS (lv_sub h ks hl)
theorem q_eq {st st' : List Value} {pc' : Nat} (hp : pc = pc') (hs : st = st') (kk : Go D E A Q nL cells slots w ls pc' st') : Go D E A Q nL cells slots w ls pc st := by
  subst hp; subst hs; exact kk
-- arithmetic
theorem q_iadd (C : Cx D tys E rm cc nL own A) {x y : Int32} (hd : decode cc pc = .ok (.iadd, 1)) (kk : Go D E A Q nL cells slots w ls (pc + 1) (.int (x + y) :: rest)) : Go D E A Q nL cells slots w ls pc (.int y :: .int x :: rest) :=
  fun H locs la hP hD hS h => lv_iadd C.hx C.hb hd (kk H locs la hP hD hS h)
theorem q_isub (C : Cx D tys E rm cc nL own A) {x y : Int32} (hd : decode cc pc = .ok (.isub, 1)) (kk : Go D E A Q nL cells slots w ls (pc + 1) (.int (x - y) :: rest)) : Go D E A Q nL cells slots w ls pc (.int y :: .int x :: rest) :=
  fun H locs la hP hD hS h => lv_isub C.hx C.hb hd (kk H locs la hP hD hS h)
theorem q_imul (C : Cx D tys E rm cc nL own A) {x y : Int32} (hd : decode cc pc = .ok (.imul, 1)) (kk : Go D E A Q nL cells slots w ls (pc + 1) (.int (x * y) :: rest)) : Go D E A Q nL cells slots w ls pc (.int y :: .int x :: rest) :=
  fun H locs la hP hD hS h => lv_imul C.hx C.hb hd (kk H locs la hP hD hS h)
theorem q_idiv (C : Cx D tys E rm cc nL own A) {x y : Int32} (hd : decode cc pc = .ok (.idiv, 1)) (hne : ¬ y = 0) (kk : Go D E A Q nL cells slots w ls (pc + 1) (.int (x / y) :: rest)) : Go D E A Q nL cells slots w ls pc (.int y :: .int x :: rest) :=
  fun H locs la hP hD hS h => lv_idiv C.hx C.hb hd hne (kk H locs la hP hD hS h)
theorem q_irem (C : Cx D tys E rm cc nL own A) {x y : Int32} (hd : decode cc pc = .ok (.irem, 1)) (hne : ¬ y = 0) (kk : Go D E A Q nL cells slots w ls (pc + 1) (.int (x - x / y * y) :: rest)) : Go D E A Q nL cells slots w ls pc (.int y :: .int x :: rest) :=
  fun H locs la hP hD hS h => lv_irem C.hx C.hb hd hne (kk H locs la hP hD hS h)
theorem q_ineg (C : Cx D tys E rm cc nL own A) {x : Int32} (hd : decode cc pc = .ok (.ineg, 1)) (kk : Go D E A Q nL cells slots w ls (pc + 1) (.int (-x) :: rest)) : Go D E A Q nL cells slots w ls pc (.int x :: rest) :=
  fun H locs la hP hD hS h => lv_ineg C.hx C.hb hd (kk H locs la hP hD hS h)
theorem q_iand (C : Cx D tys E rm cc nL own A) {x y : Int32} (hd : decode cc pc = .ok (.iand, 1)) (kk : Go D E A Q nL cells slots w ls (pc + 1) (.int (x &&& y) :: rest)) : Go D E A Q nL cells slots w ls pc (.int y :: .int x :: rest) :=
  fun H locs la hP hD hS h => lv_iand C.hx C.hb hd (kk H locs la hP hD hS h)
theorem q_ior (C : Cx D tys E rm cc nL own A) {x y : Int32} (hd : decode cc pc = .ok (.ior, 1)) (kk : Go D E A Q nL cells slots w ls (pc + 1) (.int (x ||| y) :: rest)) : Go D E A Q nL cells slots w ls pc (.int y :: .int x :: rest) :=
  fun H locs la hP hD hS h => lv_ior C.hx C.hb hd (kk H locs la hP hD hS h)
theorem q_ixor (C : Cx D tys E rm cc nL own A) {x y : Int32} (hd : decode cc pc = .ok (.ixor, 1)) (kk : Go D E A Q nL cells slots w ls (pc + 1) (.int (x ^^^ y) :: rest)) : Go D E A Q nL cells slots w ls pc (.int y :: .int x :: rest) :=
  fun H locs la hP hD hS h => lv_ixor C.hx C.hb hd (kk H locs la hP hD hS h)
theorem q_ishl (C : Cx D tys E rm cc nL own A) {x y : Int32} (hd : decode cc pc = .ok (.ishl, 1)) (kk : Go D E A Q nL cells slots w ls (pc + 1) (.int (x <<< (y &&& 31)) :: rest)) : Go D E A Q nL cells slots w ls pc (.int y :: .int x :: rest) :=
  fun H locs la hP hD hS h => lv_ishl C.hx C.hb hd (kk H locs la hP hD hS h)
theorem q_ishr (C : Cx D tys E rm cc nL own A) {x y : Int32} (hd : decode cc pc = .ok (.ishr, 1)) (kk : Go D E A Q nL cells slots w ls (pc + 1) (.int (x >>> (y &&& 31)) :: rest)) : Go D E A Q nL cells slots w ls pc (.int y :: .int x :: rest) :=
  fun H locs la hP hD hS h => lv_ishr C.hx C.hb hd (kk H locs la hP hD hS h)
def g_ushr (x y : Int32) : Int32 := (x.toUInt32 >>> (y.toUInt32 &&& Int32.toUInt32 31)).toInt32
theorem q_iushr (C : Cx D tys E rm cc nL own A) {x y : Int32} (hd : decode cc pc = .ok (.iushr, 1)) (kk : Go D E A Q nL cells slots w ls (pc + 1) (.int (g_ushr x y) :: rest)) : Go D E A Q nL cells slots w ls pc (.int y :: .int x :: rest) :=
  fun H locs la hP hD hS h => lv_iushr C.hx C.hb hd rfl (kk H locs la hP hD hS h)
theorem q_i2l (C : Cx D tys E rm cc nL own A) {x : Int32} (hd : decode cc pc = .ok (.i2l, 1)) (kk : Go D E A Q nL cells slots w ls (pc + 1) (.long x.toInt64 :: rest)) : Go D E A Q nL cells slots w ls pc (.int x :: rest) :=
  fun H locs la hP hD hS h => lv_i2l C.hx C.hb hd rfl (kk H locs la hP hD hS h)
theorem q_l2i (C : Cx D tys E rm cc nL own A) {x : Int64} (hd : decode cc pc = .ok (.l2i, 1)) (kk : Go D E A Q nL cells slots w ls (pc + 1) (.int x.toInt32 :: rest)) : Go D E A Q nL cells slots w ls pc (.long x :: rest) :=
  fun H locs la hP hD hS h => lv_l2i C.hx C.hb hd rfl (kk H locs la hP hD hS h)
theorem q_i2b (C : Cx D tys E rm cc nL own A) {x : Int32} (hd : decode cc pc = .ok (.i2b, 1)) (kk : Go D E A Q nL cells slots w ls (pc + 1) (.int x.toInt8.toInt32 :: rest)) : Go D E A Q nL cells slots w ls pc (.int x :: rest) :=
  fun H locs la hP hD hS h => lv_i2b C.hx C.hb hd rfl (kk H locs la hP hD hS h)
theorem q_i2c (C : Cx D tys E rm cc nL own A) {x : Int32} (hd : decode cc pc = .ok (.i2c, 1)) (kk : Go D E A Q nL cells slots w ls (pc + 1) (.int (x.toUInt32 % 65536).toInt32 :: rest)) : Go D E A Q nL cells slots w ls pc (.int x :: rest) :=
  fun H locs la hP hD hS h => lv_i2c C.hx C.hb hd rfl (kk H locs la hP hD hS h)
theorem q_ladd (C : Cx D tys E rm cc nL own A) {x y : Int64} (hd : decode cc pc = .ok (.ladd, 1)) (kk : Go D E A Q nL cells slots w ls (pc + 1) (.long (x + y) :: rest)) : Go D E A Q nL cells slots w ls pc (.long y :: .long x :: rest) :=
  fun H locs la hP hD hS h => lv_ladd C.hx C.hb hd (kk H locs la hP hD hS h)
theorem q_lmul (C : Cx D tys E rm cc nL own A) {x y : Int64} (hd : decode cc pc = .ok (.lmul, 1)) (kk : Go D E A Q nL cells slots w ls (pc + 1) (.long (x * y) :: rest)) : Go D E A Q nL cells slots w ls pc (.long y :: .long x :: rest) :=
  fun H locs la hP hD hS h => lv_lmul C.hx C.hb hd (kk H locs la hP hD hS h)
theorem q_lcmp (C : Cx D tys E rm cc nL own A) {x y : Int64} (hd : decode cc pc = .ok (.lcmp, 1)) (kk : Go D E A Q nL cells slots w ls (pc + 1) (.int (lg_cmp x y) :: rest)) : Go D E A Q nL cells slots w ls pc (.long y :: .long x :: rest) :=
  fun H locs la hP hD hS h => W.lcmp C.hx C.hb hd (kk H locs la hP hD hS h)
theorem q_dup (C : Cx D tys E rm cc nL own A) {v : Value} (hd : decode cc pc = .ok (.dup, 1)) (hv : v.category = 1) (kk : Go D E A Q nL cells slots w ls (pc + 1) (v :: v :: rest)) : Go D E A Q nL cells slots w ls pc (v :: rest) :=
  fun H locs la hP hD hS h => lv_dup C.hx C.hb hd hv (kk H locs la hP hD hS h)
theorem q_pop (C : Cx D tys E rm cc nL own A) {v : Value} (hd : decode cc pc = .ok (.pop, 1)) (hv : v.category = 1) (kk : Go D E A Q nL cells slots w ls (pc + 1) rest) : Go D E A Q nL cells slots w ls pc (v :: rest) :=
  fun H locs la hP hD hS h => lv_pop C.hx C.hb hd hv (kk H locs la hP hD hS h)
-- branches
theorem q_goto (C : Cx D tys E rm cc nL own A) {off : Int} {tgt : Nat} (hd : decode cc pc = .ok (.goto off, 3)) (ht : (pc : Int) + off = (tgt : Int)) (kk : Go D E A Q nL cells slots w ls tgt rest) : Go D E A Q nL cells slots w ls pc rest :=
  fun H locs la hP hD hS h => lv_goto C.hx C.hb hd ht (kk H locs la hP hD hS h)
theorem q_if_eq (C : Cx D tys E rm cc nL own A) {x : Int32} {off : Int} {PA PB : Prop} (tgt : Nat) (hd : decode cc pc = .ok (.ifCond .eq off, 3)) (ht : (pc : Int) + off = (tgt : Int)) (h : (x = 0 → PA) ∧ (¬ x = 0 → PB)) (kt : PA → Go D E A Q nL cells slots w ls tgt rest) (kf : PB → Go D E A Q nL cells slots w ls (pc + 3) rest) : Go D E A Q nL cells slots w ls pc (.int x :: rest) :=
  fun H locs la hP hD hS hl => lv_if_eq C.hx C.hb hd ht (fun q => kt (h.1 q) H locs la hP hD hS hl) (fun q => kf (h.2 q) H locs la hP hD hS hl)
theorem q_if_ne (C : Cx D tys E rm cc nL own A) {x : Int32} {off : Int} {PA PB : Prop} (tgt : Nat) (hd : decode cc pc = .ok (.ifCond .ne off, 3)) (ht : (pc : Int) + off = (tgt : Int)) (h : (¬ x = 0 → PA) ∧ (x = 0 → PB)) (kt : PA → Go D E A Q nL cells slots w ls tgt rest) (kf : PB → Go D E A Q nL cells slots w ls (pc + 3) rest) : Go D E A Q nL cells slots w ls pc (.int x :: rest) :=
  fun H locs la hP hD hS hl => lv_if_ne C.hx C.hb hd ht (fun q => kt (h.1 q) H locs la hP hD hS hl) (fun q => kf (h.2 q) H locs la hP hD hS hl)
theorem q_if_lt (C : Cx D tys E rm cc nL own A) {x : Int32} {off : Int} {PA PB : Prop} (tgt : Nat) (hd : decode cc pc = .ok (.ifCond .lt off, 3)) (ht : (pc : Int) + off = (tgt : Int)) (h : (x < 0 → PA) ∧ (¬ x < 0 → PB)) (kt : PA → Go D E A Q nL cells slots w ls tgt rest) (kf : PB → Go D E A Q nL cells slots w ls (pc + 3) rest) : Go D E A Q nL cells slots w ls pc (.int x :: rest) :=
  fun H locs la hP hD hS hl => lv_if_lt C.hx C.hb hd ht (fun q => kt (h.1 q) H locs la hP hD hS hl) (fun q => kf (h.2 q) H locs la hP hD hS hl)
theorem q_if_le (C : Cx D tys E rm cc nL own A) {x : Int32} {off : Int} {PA PB : Prop} (tgt : Nat) (hd : decode cc pc = .ok (.ifCond .le off, 3)) (ht : (pc : Int) + off = (tgt : Int)) (h : (x ≤ 0 → PA) ∧ (¬ x ≤ 0 → PB)) (kt : PA → Go D E A Q nL cells slots w ls tgt rest) (kf : PB → Go D E A Q nL cells slots w ls (pc + 3) rest) : Go D E A Q nL cells slots w ls pc (.int x :: rest) :=
  fun H locs la hP hD hS hl => lv_if_le C.hx C.hb hd ht (fun q => kt (h.1 q) H locs la hP hD hS hl) (fun q => kf (h.2 q) H locs la hP hD hS hl)
theorem q_if_gt (C : Cx D tys E rm cc nL own A) {x : Int32} {off : Int} {PA PB : Prop} (tgt : Nat) (hd : decode cc pc = .ok (.ifCond .gt off, 3)) (ht : (pc : Int) + off = (tgt : Int)) (h : (0 < x → PA) ∧ (¬ 0 < x → PB)) (kt : PA → Go D E A Q nL cells slots w ls tgt rest) (kf : PB → Go D E A Q nL cells slots w ls (pc + 3) rest) : Go D E A Q nL cells slots w ls pc (.int x :: rest) :=
  fun H locs la hP hD hS hl => lv_if_gt C.hx C.hb hd ht (fun q => kt (h.1 q) H locs la hP hD hS hl) (fun q => kf (h.2 q) H locs la hP hD hS hl)
theorem q_if_ge (C : Cx D tys E rm cc nL own A) {x : Int32} {off : Int} {PA PB : Prop} (tgt : Nat) (hd : decode cc pc = .ok (.ifCond .ge off, 3)) (ht : (pc : Int) + off = (tgt : Int)) (h : (0 ≤ x → PA) ∧ (¬ 0 ≤ x → PB)) (kt : PA → Go D E A Q nL cells slots w ls tgt rest) (kf : PB → Go D E A Q nL cells slots w ls (pc + 3) rest) : Go D E A Q nL cells slots w ls pc (.int x :: rest) :=
  fun H locs la hP hD hS hl => lv_if_ge C.hx C.hb hd ht (fun q => kt (h.1 q) H locs la hP hD hS hl) (fun q => kf (h.2 q) H locs la hP hD hS hl)
theorem q_icmp_eq (C : Cx D tys E rm cc nL own A) {x y : Int32} {off : Int} {PA PB : Prop} (tgt : Nat) (hd : decode cc pc = .ok (.if_icmp .eq off, 3)) (ht : (pc : Int) + off = (tgt : Int)) (h : (x = y → PA) ∧ (¬ x = y → PB)) (kt : PA → Go D E A Q nL cells slots w ls tgt rest) (kf : PB → Go D E A Q nL cells slots w ls (pc + 3) rest) : Go D E A Q nL cells slots w ls pc (.int y :: .int x :: rest) :=
  fun H locs la hP hD hS hl => lv_icmp_eq C.hx C.hb hd ht (fun q => kt (h.1 q) H locs la hP hD hS hl) (fun q => kf (h.2 q) H locs la hP hD hS hl)
theorem q_icmp_ne (C : Cx D tys E rm cc nL own A) {x y : Int32} {off : Int} {PA PB : Prop} (tgt : Nat) (hd : decode cc pc = .ok (.if_icmp .ne off, 3)) (ht : (pc : Int) + off = (tgt : Int)) (h : (¬ x = y → PA) ∧ (x = y → PB)) (kt : PA → Go D E A Q nL cells slots w ls tgt rest) (kf : PB → Go D E A Q nL cells slots w ls (pc + 3) rest) : Go D E A Q nL cells slots w ls pc (.int y :: .int x :: rest) :=
  fun H locs la hP hD hS hl => lv_icmp_ne C.hx C.hb hd ht (fun q => kt (h.1 q) H locs la hP hD hS hl) (fun q => kf (h.2 q) H locs la hP hD hS hl)
theorem q_icmp_lt (C : Cx D tys E rm cc nL own A) {x y : Int32} {off : Int} {PA PB : Prop} (tgt : Nat) (hd : decode cc pc = .ok (.if_icmp .lt off, 3)) (ht : (pc : Int) + off = (tgt : Int)) (h : (x < y → PA) ∧ (¬ x < y → PB)) (kt : PA → Go D E A Q nL cells slots w ls tgt rest) (kf : PB → Go D E A Q nL cells slots w ls (pc + 3) rest) : Go D E A Q nL cells slots w ls pc (.int y :: .int x :: rest) :=
  fun H locs la hP hD hS hl => lv_icmp_lt C.hx C.hb hd ht (fun q => kt (h.1 q) H locs la hP hD hS hl) (fun q => kf (h.2 q) H locs la hP hD hS hl)
theorem q_icmp_le (C : Cx D tys E rm cc nL own A) {x y : Int32} {off : Int} {PA PB : Prop} (tgt : Nat) (hd : decode cc pc = .ok (.if_icmp .le off, 3)) (ht : (pc : Int) + off = (tgt : Int)) (h : (x ≤ y → PA) ∧ (¬ x ≤ y → PB)) (kt : PA → Go D E A Q nL cells slots w ls tgt rest) (kf : PB → Go D E A Q nL cells slots w ls (pc + 3) rest) : Go D E A Q nL cells slots w ls pc (.int y :: .int x :: rest) :=
  fun H locs la hP hD hS hl => lv_icmp_le C.hx C.hb hd ht (fun q => kt (h.1 q) H locs la hP hD hS hl) (fun q => kf (h.2 q) H locs la hP hD hS hl)
theorem q_icmp_gt (C : Cx D tys E rm cc nL own A) {x y : Int32} {off : Int} {PA PB : Prop} (tgt : Nat) (hd : decode cc pc = .ok (.if_icmp .gt off, 3)) (ht : (pc : Int) + off = (tgt : Int)) (h : (y < x → PA) ∧ (¬ y < x → PB)) (kt : PA → Go D E A Q nL cells slots w ls tgt rest) (kf : PB → Go D E A Q nL cells slots w ls (pc + 3) rest) : Go D E A Q nL cells slots w ls pc (.int y :: .int x :: rest) :=
  fun H locs la hP hD hS hl => lv_icmp_gt C.hx C.hb hd ht (fun q => kt (h.1 q) H locs la hP hD hS hl) (fun q => kf (h.2 q) H locs la hP hD hS hl)
theorem q_icmp_ge (C : Cx D tys E rm cc nL own A) {x y : Int32} {off : Int} {PA PB : Prop} (tgt : Nat) (hd : decode cc pc = .ok (.if_icmp .ge off, 3)) (ht : (pc : Int) + off = (tgt : Int)) (h : (y ≤ x → PA) ∧ (¬ y ≤ x → PB)) (kt : PA → Go D E A Q nL cells slots w ls tgt rest) (kf : PB → Go D E A Q nL cells slots w ls (pc + 3) rest) : Go D E A Q nL cells slots w ls pc (.int y :: .int x :: rest) :=
  fun H locs la hP hD hS hl => lv_icmp_ge C.hx C.hb hd ht (fun q => kt (h.1 q) H locs la hP hD hS hl) (fun q => kf (h.2 q) H locs la hP hD hS hl)
theorem q_tableK (C : Cx D tys E rm cc nL own A) {dflt lo hi : Int} {offs : Array Int} {len : Nat} {x : Int32} (v : Int32) {off : Int} (tgt : Nat) (hx : x = v) (hd : decode cc pc = .ok (.tableswitch dflt lo hi offs, len)) (h1 : ¬ v.toInt < lo) (h2 : ¬ hi < v.toInt) (ho : offs[(v.toInt - lo).toNat]? = some off) (ht : (pc : Int) + off = (tgt : Int)) (kk : Go D E A Q nL cells slots w ls tgt rest) : Go D E A Q nL cells slots w ls pc (.int x :: rest) :=
  fun H locs la hP hD hS hl => by subst hx; exact lv_tableIn C.hx C.hb hd h1 h2 ho ht (kk H locs la hP hD hS hl)
theorem q_tableD (C : Cx D tys E rm cc nL own A) {dflt lo hi : Int} {offs : Array Int} {len : Nat} {x : Int32} (keys : List Int) (tgt : Nat) (hx : ∀ q ∈ keys, x.toInt ≠ q) (hd : decode cc pc = .ok (.tableswitch dflt lo hi offs, len)) (hall : ∀ k : Nat, k < (hi - lo + 1).toNat → offs[k]? = some dflt ∨ lo + (k : Int) ∈ keys) (ht : (pc : Int) + dflt = (tgt : Int)) (kk : Go D E A Q nL cells slots w ls tgt rest) : Go D E A Q nL cells slots w ls pc (.int x :: rest) :=
  fun H locs la hP hD hS hl => by
    by_cases h1 : x.toInt < lo
    · exact lv_tableOut C.hx C.hb hd (Or.inl h1) ht (kk H locs la hP hD hS hl)
    · by_cases h2 : hi < x.toInt
      · exact lv_tableOut C.hx C.hb hd (Or.inr h2) ht (kk H locs la hP hD hS hl)
      · have h3 : (x.toInt - lo).toNat < (hi - lo + 1).toNat := by omega
        rcases hall _ h3 with h4 | h4
        · exact lv_tableIn C.hx C.hb hd h1 h2 h4 ht (kk H locs la hP hD hS hl)
        · exact absurd (show x.toInt = lo + (((x.toInt - lo).toNat : Nat) : Int) by omega) (hx _ h4)
theorem q_lookK (C : Cx D tys E rm cc nL own A) {dflt : Int} {ps : Array (Int × Int)} {len : Nat} {x : Int32} (v : Int32) {off : Int} (tgt : Nat) (hx : x = v) (hd : decode cc pc = .ok (.lookupswitch dflt ps, len)) (hp : (ps.toList.zip (ps.toList.drop 1)).all (fun (a, next) => a.1 < next.1) = true) (ho : Op.lookupswitch.offset ps.toList dflt v.toInt = off) (ht : (pc : Int) + off = (tgt : Int)) (kk : Go D E A Q nL cells slots w ls tgt rest) : Go D E A Q nL cells slots w ls pc (.int x :: rest) :=
  fun H locs la hP hD hS hl => by subst hx; exact lv_lookup C.hx C.hb hd hp ho ht (kk H locs la hP hD hS hl)
theorem sw_ne {x v : Int32} (h : ¬ x = v) {q : Int} (hq : v.toInt = q) : x.toInt ≠ q := fun e => h (Int32.toInt_inj.mp (e.trans hq.symm))
theorem sw_nil {x : Int32} : ∀ q ∈ ([] : List Int), x.toInt ≠ q := fun _ h => absurd h List.not_mem_nil
theorem sw_cons {x : Int32} {q : Int} {l : List Int} (h : x.toInt ≠ q) (hl : ∀ q ∈ l, x.toInt ≠ q) : ∀ q' ∈ q :: l, x.toInt ≠ q' := fun q' hm => by
  rcases List.mem_cons.mp hm with rfl | hm
  · exact h
  · exact hl _ hm
-- fields
theorem q_get (C : Cx D tys E rm cc nL own A) {ref cn : String} {T : u_T} {N ci index : Nat} (hin : ∀ w ∈ u_ws cn T N, w ∈ gtbl) (hc : vwCl[ci]? = some (cn, T, N)) (k : Nat) (hk : k < N) (hlink : Cond.fieldLink own index ref (T k).2.1 (T k).2.2.1 ∈ gtbl) (hsame : (T k).1 = ref) (q0 : Nat) {a : Nat} {fs : List Value} {v : Value} (he : w[q0]? = some (a, .inr (ci, fs))) (hv : fs[k]? = some v) (hd : decode cc pc = .ok (.getfield index, 3)) (kk : Go D E A Q nL cells slots w ls (pc + 3) (v :: rest)) : Go D E A Q nL cells slots w ls pc (.ref a :: rest) :=
  fun H locs la hP hD hS hl => va_get C.hx C.hb C.hts hin C.hown C.hK hP q0 he hc k hk (C.hts _ hlink) (fun x hx => by rw [← hsame]; exact hx) hv hd (kk H locs la hP hD hS hl)
theorem q_put (C : Cx D tys E rm cc nL own A) {ref cn : String} {T : u_T} {N ci index : Nat} (hin : ∀ w ∈ u_ws cn T N, w ∈ gtbl) {ty0 : Nat → FieldType} (hty : ∀ k, k < N → parseFieldDescriptor (T k).2.2.1 = some (ty0 k)) (hnm : ∀ a, a < N → ∀ b, b < N → a ≠ b → (T a).2.1 ≠ (T b).2.1) (hc : vwCl[ci]? = some (cn, T, N)) (k : Nat) (hk : k < N) (hlink : Cond.fieldLink own index ref (T k).2.1 (T k).2.2.1 ∈ gtbl) (hsame : (T k).1 = ref) (hfin : (T k).2.2.2 = false) {ty : FieldType} (hdes : parseFieldDescriptor (T k).2.2.1 = some ty) (q0 : Nat) {a : Nat} {fs : List Value} {v : Value} (w' : va_W) (he : w[q0]? = some (a, .inr (ci, fs))) (hn : narrow ty v = v) (hfit : fits ty v = true) (hl : k < fs.length) (hw : w.set q0 (a, .inr (ci, fs.set k v)) = w') (hd : decode cc pc = .ok (.putfield index, 3)) (kk : Go D E A Q nL cells slots w' ls (pc + 3) rest) : Go D E A Q nL cells slots w ls pc (v :: .ref a :: rest) :=
  fun H locs la hP hD hS h => va_put C.hx C.hb C.hts hin ty0 hty hnm C.hown C.hK hP hD hS q0 he hc k hk (C.hts _ hlink) (fun x hx => by rw [← hsame]; exact hx) hfin hdes hn hfit hl hd (fun H1 locs1 hP1 hD1 hS1 => by subst hw; exact kk H1 locs1 la hP1 hD1 hS1 h)
theorem q_iald (C : Cx D tys E rm cc nL own A) (q0 t0 : Nat) {a : Nat} {cA : ClassId} {n : Nat} {f : Nat → Int32} {i : Int32} {PP : Prop} (he : w[q0]? = some (a, .inl (cA, n, .inl f))) (ht : tys[t0]? = some (cA, .int)) (hd : decode cc pc = .ok (.iaload, 1)) (h : vp_in i n ∧ PP) (kk : PP → Go D E A Q nL cells slots w ls (pc + 1) (.int (f i.toNatClampNeg) :: rest)) : Go D E A Q nL cells slots w ls pc (.int i :: .ref a :: rest) :=
  fun H locs la hP hD hS hl => va_iald C.hx C.hb C.hK hP q0 t0 he ht h.1 hd (kk h.2 H locs la hP hD hS hl)
theorem q_bald (C : Cx D tys E rm cc nL own A) (q0 t0 : Nat) {a : Nat} {cA : ClassId} {n : Nat} {f : Nat → Int32} {i : Int32} {PP : Prop} (he : w[q0]? = some (a, .inl (cA, n, .inl f))) (ht : tys[t0]? = some (cA, .byte)) (hd : decode cc pc = .ok (.baload, 1)) (h : vp_in i n ∧ PP) (kk : PP → Go D E A Q nL cells slots w ls (pc + 1) (.int (f i.toNatClampNeg) :: rest)) : Go D E A Q nL cells slots w ls pc (.int i :: .ref a :: rest) :=
  fun H locs la hP hD hS hl => va_bald C.hx C.hb C.hK hP q0 t0 he ht h.1 hd (kk h.2 H locs la hP hD hS hl)
theorem q_zald (C : Cx D tys E rm cc nL own A) (q0 t0 : Nat) {a : Nat} {cA : ClassId} {n : Nat} {f : Nat → Int32} {i : Int32} {PP : Prop} (he : w[q0]? = some (a, .inl (cA, n, .inl f))) (ht : tys[t0]? = some (cA, .boolean)) (hd : decode cc pc = .ok (.baload, 1)) (h : vp_in i n ∧ PP) (kk : PP → Go D E A Q nL cells slots w ls (pc + 1) (.int (f i.toNatClampNeg) :: rest)) : Go D E A Q nL cells slots w ls pc (.int i :: .ref a :: rest) :=
  fun H locs la hP hD hS hl => va_zald C.hx C.hb C.hK hP q0 t0 he ht h.1 hd (kk h.2 H locs la hP hD hS hl)
theorem q_lald (C : Cx D tys E rm cc nL own A) (q0 t0 : Nat) {a : Nat} {cA : ClassId} {n : Nat} {f : Nat → Int64} {i : Int32} {PP : Prop} (he : w[q0]? = some (a, .inl (cA, n, .inr (.inl f)))) (ht : tys[t0]? = some (cA, .long)) (hd : decode cc pc = .ok (.laload, 1)) (h : vp_in i n ∧ PP) (kk : PP → Go D E A Q nL cells slots w ls (pc + 1) (.long (f i.toNatClampNeg) :: rest)) : Go D E A Q nL cells slots w ls pc (.int i :: .ref a :: rest) :=
  fun H locs la hP hD hS hl => va_lald C.hx C.hb C.hK hP q0 t0 he ht h.1 hd (kk h.2 H locs la hP hD hS hl)
theorem q_iast (C : Cx D tys E rm cc nL own A) (q0 t0 : Nat) {a : Nat} {cA : ClassId} {n : Nat} {f : Nat → Int32} {i : Int32} {x : Int32} {PP : Prop} (w' : va_W) (he : w[q0]? = some (a, .inl (cA, n, .inl f))) (ht : tys[t0]? = some (cA, .int)) (hw : w.set q0 (a, .inl (cA, n, .inl (upd f i.toNatClampNeg x))) = w') (hd : decode cc pc = .ok (.iastore, 1)) (h : vp_in i n ∧ PP) (kk : PP → Go D E A Q nL cells slots w' ls (pc + 1) rest) : Go D E A Q nL cells slots w ls pc (.int x :: .int i :: .ref a :: rest) :=
  fun H locs la hP hD hS hl => va_iast C.hx C.hb C.hK hP hD hS q0 t0 he ht h.1 hd (fun H1 locs1 hP1 hD1 hS1 => by subst hw; exact kk h.2 H1 locs1 la hP1 hD1 hS1 hl)
theorem q_bast (C : Cx D tys E rm cc nL own A) (q0 t0 : Nat) {a : Nat} {cA : ClassId} {n : Nat} {f : Nat → Int32} {i : Int32} {x : Int32} {PP : Prop} (w' : va_W) (he : w[q0]? = some (a, .inl (cA, n, .inl f))) (ht : tys[t0]? = some (cA, .byte)) (hw : w.set q0 (a, .inl (cA, n, .inl (upd f i.toNatClampNeg (vp_nar .byte x)))) = w') (hd : decode cc pc = .ok (.bastore, 1)) (h : vp_in i n ∧ PP) (kk : PP → Go D E A Q nL cells slots w' ls (pc + 1) rest) : Go D E A Q nL cells slots w ls pc (.int x :: .int i :: .ref a :: rest) :=
  fun H locs la hP hD hS hl => va_bast C.hx C.hb C.hK hP hD hS q0 t0 he ht h.1 hd (fun H1 locs1 hP1 hD1 hS1 => by subst hw; exact kk h.2 H1 locs1 la hP1 hD1 hS1 hl)
theorem q_zast (C : Cx D tys E rm cc nL own A) (q0 t0 : Nat) {a : Nat} {cA : ClassId} {n : Nat} {f : Nat → Int32} {i : Int32} {x : Int32} {PP : Prop} (w' : va_W) (he : w[q0]? = some (a, .inl (cA, n, .inl f))) (ht : tys[t0]? = some (cA, .boolean)) (hw : w.set q0 (a, .inl (cA, n, .inl (upd f i.toNatClampNeg (vp_nar .boolean x)))) = w') (hd : decode cc pc = .ok (.bastore, 1)) (h : vp_in i n ∧ PP) (kk : PP → Go D E A Q nL cells slots w' ls (pc + 1) rest) : Go D E A Q nL cells slots w ls pc (.int x :: .int i :: .ref a :: rest) :=
  fun H locs la hP hD hS hl => va_zast C.hx C.hb C.hK hP hD hS q0 t0 he ht h.1 hd (fun H1 locs1 hP1 hD1 hS1 => by subst hw; exact kk h.2 H1 locs1 la hP1 hD1 hS1 hl)
theorem q_last (C : Cx D tys E rm cc nL own A) (q0 t0 : Nat) {a : Nat} {cA : ClassId} {n : Nat} {f : Nat → Int64} {i : Int32} {x : Int64} {PP : Prop} (w' : va_W) (he : w[q0]? = some (a, .inl (cA, n, .inr (.inl f)))) (ht : tys[t0]? = some (cA, .long)) (hw : w.set q0 (a, .inl (cA, n, .inr (.inl (vp_updL f i.toNatClampNeg x)))) = w') (hd : decode cc pc = .ok (.lastore, 1)) (h : vp_in i n ∧ PP) (kk : PP → Go D E A Q nL cells slots w' ls (pc + 1) rest) : Go D E A Q nL cells slots w ls pc (.long x :: .int i :: .ref a :: rest) :=
  fun H locs la hP hD hS hl => va_last C.hx C.hb C.hK hP hD hS q0 t0 he ht h.1 hd (fun H1 locs1 hP1 hD1 hS1 => by subst hw; exact kk h.2 H1 locs1 la hP1 hD1 hS1 hl)
theorem q_alen (C : Cx D tys E rm cc nL own A) (q0 t0 : Nat) {a : Nat} {cA : ClassId} {x : vp_A} {ty : FieldType} {v : Int32} (he : w[q0]? = some (a, .inl (cA, x))) (ht : tys[t0]? = some (cA, ty)) (hv : Int32.ofNat x.1 = v) (hd : decode cc pc = .ok (.arraylength, 1)) (kk : Go D E A Q nL cells slots w ls (pc + 1) (.int v :: rest)) : Go D E A Q nL cells slots w ls pc (.ref a :: rest) :=
  fun H locs la hP hD hS hl => va_alen C.hx C.hb C.hK hP q0 t0 he ht hv hd (kk H locs la hP hD hS hl)
/-- fewer cells, in another order -/
theorem q_sub (w' : va_W) (is : List Nat) (hn : va_nd is = true) (hs : is.map (fun i => w[i]?) = w'.map some) {st : List Value} (kk : Go D E A Q nL cells slots w' ls pc st) : Go D E A Q nL cells slots w ls pc st :=
  fun H locs la hP hD hS hl => kk H locs la (hP.sub is (by
    have h1 : is.filterMap (fun i => w[i]?) = (is.map (fun i => w[i]?)).filterMap id := by rw [List.filterMap_map]; rfl
    rw [h1, hs, List.filterMap_map]; simp)) (hD.sub is hn hs) hS hl
theorem q_widen {k n : Nat} (h1 : cells ≤ k) (h2 : slots ≤ n) {st : List Value} (kk : Go D E A Q nL k n w ls pc st) : Go D E A Q nL cells slots w ls pc st :=
  fun H locs la hP hD hS hl => W.widen h1 h2 (kk H locs la hP hD hS hl)
end GORULES
