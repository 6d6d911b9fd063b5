/-! multianewarray of two dimensions whose rows hold references: the machine's making, step by step. -/
section MULTI
variable {p : Program} {l : Launch} {e : Env} {R : Room} {s : State} {m : MethodId} {args : Array Value} {below : List Frame} {meth : Method} {c : Code} {H : Heap} {locs : List Loc} {cells slots : Nat} {Q : State → Prop}
/-- the outer row when i of its inner ones are made; the inner one; the state -/
def muO (cO : ClassId) (N h0 : Nat) (i : Nat) : Cell := arrV cO N (fun j => if j < i then .ref (h0 + 1 + j) else .null)
theorem muO_up (cO : ClassId) (N h0 i : Nat) : (muO cO N h0 i).setSlot i (.ref (h0 + 1 + i)) = muO cO N h0 (i + 1) := by
  unfold muO
  rw [arrV_store]
  congr 1
  funext j
  unfold updV
  by_cases z : j = i
  · subst z
    rw [if_pos rfl, if_pos (Nat.lt_succ_self j)]
  · rw [if_neg z]
    by_cases z2 : j < i
    · show (if j < i then Value.ref (h0 + 1 + j) else Value.null) = _
      rw [if_pos z2, if_pos (by omega)]
    · show (if j < i then Value.ref (h0 + 1 + j) else Value.null) = _
      rw [if_neg z2, if_neg (by omega)]
theorem muO_0 (cO : ClassId) (N h0 : Nat) : ({ cls := cO, slots := Array.replicate N .null, vm := .none } : Cell) = muO cO N h0 0 := by
  rw [arrV_new]
  unfold muO
  congr 1
abbrev muI (cI : ClassId) (M : Nat) : Cell := { cls := cI, slots := Array.replicate M .null, vm := .none }
def muS (T : State) (cO cI : ClassId) (N M : Nat) : Nat → State
  | 0 => T.pushCell (muO cO N T.heap.size 0)
  | i + 1 => ((muS T cO cI N M i).pushCell (muI cI M)).setCell T.heap.size (muO cO N T.heap.size (i + 1))
theorem muO_is (cO : ClassId) (N h0 : Nat) (i : Nat) : (muO cO N h0 i).cls = cO ∧ (muO cO N h0 i).vm = .none ∧ (muO cO N h0 i).slots.size = N := ⟨rfl, rfl, arrV_size _ _ _⟩
theorem muS_is (T : State) (cO cI : ClassId) (N M : Nat) (i : Nat) : (muS T cO cI N M i).heap.size = T.heap.size + 1 + i ∧ (muS T cO cI N M i).heap[T.heap.size]? = some (muO cO N T.heap.size i) ∧ (muS T cO cI N M i).vm = T.vm ∧ (muS T cO cI N M i).slotsUsed = T.slotsUsed + N + i * M ∧ (∀ a, a < T.heap.size → (muS T cO cI N M i).heap[a]? = T.heap[a]?) ∧ ∀ j, j < i → (muS T cO cI N M i).heap[T.heap.size + 1 + j]? = some (muI cI M) := by
  induction i with
  | zero => exact ⟨by simp [muS], by simp [muS], rfl, by simp [muS, (muO_is cO N T.heap.size 0).2.2], fun a ha => State.heap_pushCell_of_lt _ _ ha, fun j hj => absurd hj (Nat.not_lt_zero j)⟩
  | succ i ih =>
    obtain ⟨i1, i2, i3, i4, i5, i6⟩ := ih
    have hlt : T.heap.size < (muS T cO cI N M i).heap.size := by omega
    have hat : ((muS T cO cI N M i).pushCell (muI cI M)).heap[T.heap.size]? = some (muO cO N T.heap.size i) := by rw [State.heap_pushCell_of_lt (h := hlt)]; exact i2
    refine ⟨?_, State.heap_setCell_self hat, by simp [muS, i3], ?_, fun a ha => ?_, fun j hj => ?_⟩
    · simp [muS, State.setCell, i1]; omega
    · simp [muS, i4, Nat.succ_mul]; omega
    · show (((muS T cO cI N M i).pushCell (muI cI M)).setCell T.heap.size _).heap[a]? = _
      rw [State.heap_setCell_other (Nat.ne_of_gt ha), State.heap_pushCell_of_lt (h := Nat.lt_of_lt_of_le ha (by rw [i1]; omega))]
      exact i5 a ha
    · show (((muS T cO cI N M i).pushCell (muI cI M)).setCell T.heap.size _).heap[T.heap.size + 1 + j]? = _
      rw [State.heap_setCell_other (show T.heap.size ≠ T.heap.size + 1 + j by omega)]
      rcases Nat.lt_or_ge j i with z | z
      · have hj2 : T.heap.size + 1 + j < (muS T cO cI N M i).heap.size := by rw [i1]; omega
        rw [State.heap_pushCell_of_lt (h := hj2)]
        exact i6 j z
      · obtain rfl : j = i := by omega
        rw [← i1]
        exact State.heap_pushCell_size _ _
theorem muS_top (T : State) (f : JFrame) (cO cI : ClassId) (N M : Nat) (i : Nat) : muS (T.setTop f) cO cI N M i = (muS T cO cI N M i).setTop f := by
  induction i with
  | zero => rfl
  | succ i ih => simp only [muS, ih, State.heap_setTop, State.pushCell_setTop, State.setCell_setTop]
section MUWP
variable {G : CtlPost} {d : Bool} {acts : List Action} {t : State}
theorem mu_new {cA comp : ClassId} {k : Class} {ty : FieldType} {n : Nat} (hk : t.vm.classes[cA]? = some k) (hkind : k.kind = .array comp ty) (href : ty.isReference = true) (hl : ¬ n > e.platform.arrayLengthLimit) (hm : ¬ n * componentBytes ty > e.platform.maxHeapBytes) {P : Addr → Pre}
    (h1 : t.heap.size < e.platform.maxCells) (h2 : t.slotsUsed + n ≤ e.platform.maxSlots) (hq : P t.heap.size d acts (t.pushCell { cls := cA, slots := Array.replicate n .null, vm := .none })) : wp (Jvm.newArray cA n .null) P G e d acts t := by
  have hfn : fits ty .null = true := by cases ty <;> simp [FieldType.isReference] at href <;> rfl
  have hfits : ∀ i v, (Array.replicate n Value.null)[i]? = some v → t.fitsSlot cA .none i v = true := by
    intro i v hv
    simp only [Array.getElem?_replicate] at hv
    split at hv
    · cases hv
      simp [State.fitsSlot, State.slotType?, hk, hkind, hfn]
    · cases hv
  have hda : allocActs (Array.replicate n Value.null) t.heap.size acts = acts := by
    have hall : ((Array.replicate n Value.null).all (·.isDefault)) = true := by
      rw [Array.all_replicate]
      split <;> simp [Value.isDefault]
    unfold allocActs
    rw [if_pos hall]
  simp only [Jvm.newArray, Jvm.arrayFits, wp_bind', W.ask, W.ite, hl, if_false, wp_pure', W.theClass, hk, hkind, hm, W.alloc, W.stop, Option.some.injEq, exists_eq_left', Array.size_replicate, hda]
  rw [if_neg (by omega)]
  exact ⟨h1, h2, hfits, hq⟩
theorem mu_make1 {cA comp : ClassId} {k : Class} {ty : FieldType} {n : Int32} (hk : t.vm.classes[cA]? = some k) (hkind : k.kind = .array comp ty) (href : ty.isReference = true) (hn : ¬ n < 0) (hl : ¬ n.toNatClampNeg > e.platform.arrayLengthLimit) (hm : ¬ n.toNatClampNeg * componentBytes ty > e.platform.maxHeapBytes) {P : Addr → Pre}
    (h1 : t.heap.size < e.platform.maxCells) (h2 : t.slotsUsed + n.toNatClampNeg ≤ e.platform.maxSlots) (hq : P t.heap.size d acts (t.pushCell (muI cA n.toNatClampNeg))) : wp (multianewarray.make cA [n]) P G e d acts t := by
  have hdf : defaultValue ty = .null := by cases ty <;> simp [FieldType.isReference] at href <;> rfl
  rw [multianewarray.make]
  simp only [wp_bind', W.ite, hn, if_false, wp_pure', W.theClass, hk, hkind, Option.some.injEq, exists_eq_left', hdf]
  exact mu_new hk hkind href hl hm h1 h2 hq
theorem mu_make2 {cO cI cE : ClassId} {kO kI : Class} {tO tI : FieldType} {n m : Int32} (hO : t.vm.classes[cO]? = some kO) (hOk : kO.kind = .array cI tO) (hOr : tO.isReference = true) (hI : t.vm.classes[cI]? = some kI) (hIk : kI.kind = .array cE tI) (hIr : tI.isReference = true) (hn : ¬ n < 0) (hm : ¬ m < 0)
    (hl1 : ¬ n.toNatClampNeg > e.platform.arrayLengthLimit) (hh1 : ¬ n.toNatClampNeg * componentBytes tO > e.platform.maxHeapBytes) (hl2 : ¬ m.toNatClampNeg > e.platform.arrayLengthLimit) (hh2 : ¬ m.toNatClampNeg * componentBytes tI > e.platform.maxHeapBytes)
    (hc : t.heap.size + 1 + n.toNatClampNeg ≤ e.platform.maxCells) (hs : t.slotsUsed + n.toNatClampNeg + n.toNatClampNeg * m.toNatClampNeg ≤ e.platform.maxSlots) {P : Addr → Pre} (hq : ∀ d' acts', P t.heap.size d' acts' (muS t cO cI n.toNatClampNeg m.toNatClampNeg n.toNatClampNeg)) : wp (multianewarray.make cO [n, m]) P G e d acts t := by
  have hfr : ∀ v : Value, (v = .null ∨ ∃ a, v = .ref a) → fits tO v = true := by
    intro v hv
    rcases hv with rfl | ⟨a, rfl⟩ <;> cases tO <;> simp [FieldType.isReference] at hOr <;> rfl
  have hfind : ([m].find? (· < 0)) = none := by simp [hm]
  rw [multianewarray.make]
  simp only [wp_bind', W.ite, hn, if_false, wp_pure', W.theClass, hO, hOk, Option.some.injEq, exists_eq_left']
  refine mu_new hO hOk hOr hl1 hh1 (by omega) (by have := Nat.zero_le (n.toNatClampNeg * m.toNatClampNeg); omega) ?_
  rw [muO_0 cO n.toNatClampNeg t.heap.size]
  simp only [hfind]
  rw [ite_self, wp_bind', Std.Legacy.Range.forIn_eq_forIn_range']
  rw [show ([:n.toNatClampNeg] : Std.Legacy.Range).size = n.toNatClampNeg by simp [Std.Legacy.Range.size]]
  show wp (forIn (List.range' 0 n.toNatClampNeg 1) PUnit.unit _) _ G e d acts _
  refine wp_forIn_inv (fun rest t' => ∃ i, i ≤ n.toNatClampNeg ∧ rest = List.range' i (n.toNatClampNeg - i) ∧ t' = muS t cO cI n.toNatClampNeg m.toNatClampNeg i) _ _ ⟨0, Nat.zero_le _, rfl, rfl⟩ ?_ ?_
  · rintro x rest t' d' acts' P' ⟨i, hi, hl, rfl⟩ hnext
    have hlt : i < n.toNatClampNeg := by
      rcases Nat.lt_or_ge i n.toNatClampNeg with z | z
      · exact z
      · rw [show n.toNatClampNeg - i = 0 by omega] at hl
        cases hl
    rw [show n.toNatClampNeg - i = (n.toNatClampNeg - (i + 1)) + 1 by omega, List.range'_succ] at hl
    obtain ⟨rfl, hrest⟩ := List.cons.inj hl
    obtain ⟨f1, f2, f3, f4, -, -⟩ := muS_is t cO cI n.toNatClampNeg m.toNatClampNeg x
    obtain ⟨o1, o2, o3⟩ := muO_is cO n.toNatClampNeg t.heap.size x
    have hmul : x * m.toNatClampNeg + m.toNatClampNeg ≤ n.toNatClampNeg * m.toNatClampNeg := by
      have := Nat.mul_le_mul_right m.toNatClampNeg (show x + 1 ≤ n.toNatClampNeg from hlt)
      rw [Nat.succ_mul] at this
      exact this
    simp only [wp_bind']
    refine mu_make1 (by rw [f3]; exact hI) hIk hIr hm hl2 hh2 (by rw [f1]; omega) (by rw [f4]; omega) ?_
    have hlt0 : t.heap.size < (muS t cO cI n.toNatClampNeg m.toNatClampNeg x).heap.size := by rw [f1]; omega
    simp only [wp_bind', W.writeLoc, wp_pure']
    refine ⟨muO cO n.toNatClampNeg t.heap.size x, by rw [State.heap_pushCell_of_lt (h := hlt0)]; exact f2, by rw [o2]; simp, by rw [o3]; exact hlt, ?_, hnext _ _ _ ⟨x + 1, hlt, hrest, ?_⟩⟩
    · rw [o1, o2]
      simp [State.fitsSlot, State.slotType?, f3, hO, hOk, hfr _ (Or.inr ⟨_, rfl⟩)]
    · rw [f1, muO_up]
      rfl
  · rintro t' d' acts' ⟨i, hi, hl, rfl⟩
    have hiN : i = n.toNatClampNeg := by
      rcases Nat.lt_or_ge i n.toNatClampNeg with z | z
      · rw [show n.toNatClampNeg - i = (n.toNatClampNeg - (i + 1)) + 1 by omega, List.range'_succ] at hl
        cases hl
      · omega
    subst hiN
    simp only [wp_pure']
    exact hq _ _
end MUWP
theorem mu_stand {T : State} (X : Stand p l e R s m args below meth c T locs cells slots) (cO cI : ClassId) (N M : Nat) (i : Nat) : Stand p l e R s m args below meth c (muS T cO cI N M i) (locs ++ (List.range i).map fun j => ⟨T.heap.size, j⟩) (cells + 1 + i) (slots + N + i * M) := by
  induction i with
  | zero =>
    have h := X.pushed (muO cO N T.heap.size 0)
    rw [(muO_is cO N T.heap.size 0).2.2] at h
    simpa [muS] using h
  | succ i ih =>
    obtain ⟨f1, f2, -⟩ := muS_is T cO cI N M i
    have hlt : T.heap.size < (muS T cO cI N M i).heap.size := by rw [f1]; omega
    have hat : ((muS T cO cI N M i).pushCell (muI cI M)).heap[T.heap.size]? = some (muO cO N T.heap.size i) := by rw [State.heap_pushCell_of_lt (h := hlt)]; exact f2
    have h := (ih.pushed (muI cI M)).stored hat i (.ref (T.heap.size + 1 + i))
    rw [muO_up] at h
    rw [show (muI cI M).slots.size = M by simp] at h
    rw [show (locs ++ (List.range (i + 1)).map fun j => (⟨T.heap.size, j⟩ : Loc)) = (locs ++ (List.range i).map fun j => (⟨T.heap.size, j⟩ : Loc)) ++ [⟨T.heap.size, i⟩] by simp [List.range_succ, List.append_assoc], show slots + N + (i + 1) * M = slots + N + i * M + M by rw [Nat.succ_mul]; omega]
    exact h
theorem ww_multi2 {cc : ByteArray} (hexec : p.tables.exec = Jvm.exec) (hb : c.code = cc) {own : String} {index : Nat} {ty : FieldType} (hown : s.vm.findClass own = some m.cls) (hclink : (Cond.classLink own index (FieldType.array (.array (.array ty))).toString).before args s = true) (hO : aF s (.array ty)) (hI : aF s ty)
    {pc : Nat} {ls : Array Slot} (hdg : decode cc pc = .ok (.multianewarray index 2, 4)) {n k : Int32} {rest : List Value} (hn : ¬ n < 0) (hk : ¬ k < 0) (hb1 : n.toNatClampNeg * 4 ≤ 536870912) (hb2 : k.toNatClampNeg * 4 ≤ 536870912) (hcells : cells + (1 + n.toNatClampNeg) ≤ R.cells) (hslots : slots + (n.toNatClampNeg + n.toNatClampNeg * k.toNatClampNeg) ≤ R.slots)
    (kk : ∀ (cO cI : ClassId) (H1 : Heap), s.vm.findClass ("[" ++ (FieldType.array (.array ty)).toString) = some cO → s.vm.findClass ("[" ++ (FieldType.array ty).toString) = some cI → H1.size = H.size + 1 + n.toNatClampNeg → H1[H.size]? = some (arrV cO n.toNatClampNeg (fun j => if j < n.toNatClampNeg then .ref (H.size + 1 + j) else .null)) → (∀ j, j < n.toNatClampNeg → H1[H.size + 1 + j]? = some (arrV cI k.toNatClampNeg (fun _ => .null))) → (∀ a, a < H.size → H1[a]? = H[a]?) →
      W p l e R s m args below meth c H1 (locs ++ (List.range n.toNatClampNeg).map fun j => ⟨H.size, j⟩) (cells + (1 + n.toNatClampNeg)) (slots + (n.toNatClampNeg + n.toNatClampNeg * k.toNatClampNeg)) Q (F0 m (pc + 4) ls (.ref H.size :: rest))) : W p l e R s m args below meth c H locs cells slots Q (F0 m pc ls (.int k :: .int n :: rest)) := by
  intro T hT X
  subst hT; subst hb
  have hpl : e.platform.magicAccessors = ({} : Platform).magicAccessors := by rw [X.admits.platform]
  obtain ⟨cI, cO, kO, g1, -, g3, g4, g5⟩ := hO
  obtain ⟨cE, cI', kI, i1, -, i3, i4, i5⟩ := hI
  obtain rfl : cI' = cI := Option.some.inj (i5.symm.trans g1)
  obtain ⟨c9, g7, hcl⟩ := Cond.classLink_spec hown hclink e.platform hpl
  obtain rfl : c9 = cO := Option.some.inj (g7.symm.trans g5)
  obtain ⟨e1, e2, e3⟩ := State.classEntry (e := e) X.warmed hcl
  have hal := e2.alike
  obtain ⟨kO1, f3, f4⟩ := hal.2.2 _ _ g3
  obtain ⟨kI1, f5, f6⟩ := hal.2.2 _ _ i3
  have hX := X.noted e2
  generalize T.vm.noted m.cls index (.cls c9) = vm1 at e1 e2 e3 hal f3 f4 f5 f6 hX
  have fO : kO1.kind = .array cI' (.array (.array ty)) := by rw [f4]; exact g4
  have fI : kI1.kind = .array cE (.array ty) := by rw [f6]; exact i4
  have hl1 : ¬ n.toNatClampNeg > e.platform.arrayLengthLimit := by rw [Launch.admits_arrayLengthLimit X.admits]; omega
  have hh1 : ¬ n.toNatClampNeg * componentBytes (.array (.array ty)) > e.platform.maxHeapBytes := by
    rw [Launch.admits_maxHeapBytes X.admits]
    show ¬ n.toNatClampNeg * 4 > 536870912
    omega
  have hl2 : ¬ k.toNatClampNeg > e.platform.arrayLengthLimit := by rw [Launch.admits_arrayLengthLimit X.admits]; omega
  have hh2 : ¬ k.toNatClampNeg * componentBytes (.array ty) > e.platform.maxHeapBytes := by
    rw [Launch.admits_maxHeapBytes X.admits]
    show ¬ k.toNatClampNeg * 4 > 536870912
    omega
  have XF := mu_stand hX c9 cI' n.toNatClampNeg k.toNatClampNeg n.toNatClampNeg
  obtain ⟨s1, s2, -, -, s5, s6⟩ := muS_is (T.setVm vm1) c9 cI' n.toNatClampNeg k.toNatClampNeg n.toNatClampNeg
  obtain ⟨r1, r2⟩ := X.roomAbove hcells hslots
  obtain ⟨t, a1, b1⟩ := kk c9 cI' (muS (T.setVm vm1) c9 cI' n.toNatClampNeg k.toNatClampNeg n.toNatClampNeg).heap g5 i5 s1 s2 (fun j hj => by rw [← arrV_new]; exact s6 j hj) s5 _ rfl (by rw [show cells + (1 + n.toNatClampNeg) = cells + 1 + n.toNatClampNeg by omega, show slots + (n.toNatClampNeg + n.toNatClampNeg * k.toNatClampNeg) = slots + n.toNatClampNeg + n.toNatClampNeg * k.toNatClampNeg by omega]; exact XF)
  refine ⟨t, ?_, b1⟩
  jvm_step X.here [hexec, hdg]
  simp only [multianewarray.sem, wp_bind', W.resolveClassAt_links (State.method?_setTop (F0 m pc ls (.int k :: .int n :: rest)) X.here.top) e1]
  rw [W.popN, if_neg (by decide)]
  refine ⟨F0 m pc ls (.int k :: .int n :: rest), State.topJava?_setTop' (s := T.setVm vm1) _ X.here.top, [.int n, .int k], rest, rfl, rfl, ?_⟩
  simp only [List.mapM_cons, List.mapM_nil, wp_bind', wp_pure']
  refine mu_make2 (kO := kO1) (kI := kI1) f3 fO rfl f5 fI rfl hn hk hl1 hh1 hl2 hh2 (by show T.heap.size + 1 + _ ≤ _; omega) (by show T.slotsUsed + _ + _ ≤ _; omega) (fun d' acts' => ?_)
  have eS : ((T.setTop (F0 m pc ls (.int k :: .int n :: rest))).setVm vm1).setTop { F0 m pc ls (.int k :: .int n :: rest) with stack := rest } = (T.setVm vm1).setTop { F0 m pc ls (.int k :: .int n :: rest) with stack := rest } := by
    show ((T.setVm vm1).setTop _).setTop _ = _
    rw [State.setTop_setTop]
  rw [eS, muS_top]
  simp only [wp_bind', W.mark, W.pushRef, State.topJava?_setTop' _ XF.here.top, Option.some.injEq, exists_eq_left', State.setTop_setTop, State.heap_setTop]
  intro acts
  simp [jvm, XF.here.top]
  exact a1
end MULTI
section MULTIH
variable {D : gD} {E : gE} {rm : Room} {cc : ByteArray} {nL : Nat} {own : String} {A : Nat → Prop} {Q : State → Prop} {cells slots : Nat} {ls : List (Nat × Value)} {pc : Nat} {rest : List Value} {B : va_W} {H : gH}
theorem h_multi (C : CL D E rm cc nL own A) {index : Nat} (hcl : Cond.classLink own index (FieldType.array (.array (.array .int))).toString ∈ gtbl) {n k : Int32} (hd : decode cc pc = .ok (.multianewarray index 2, 4)) (hn : ¬ n < 0) (hk : ¬ k < 0) (hb1 : n.toNatClampNeg * 4 ≤ 536870912) (hb2 : k.toNatClampNeg * 4 ≤ 536870912) (hcs : cells + (1 + n.toNatClampNeg) ≤ rm.cells ∧ slots + (n.toNatClampNeg + n.toNatClampNeg * k.toNatClampNeg) ≤ rm.slots)
    (kk : ∀ q : Nat, (∀ i, i ≤ n.toNatClampNeg → hpG H (q + i) = none) → Go D E A Q nL (cells + (1 + n.toNatClampNeg)) (slots + (n.toNatClampNeg + n.toNatClampNeg * k.toNatClampNeg)) (B ++ hpW (hpM H q (zY D.2 5) (zY D.2 4) n.toNatClampNeg k.toNatClampNeg)) ls (pc + 4) (.ref q :: rest)) : Go D E A Q nL cells slots (B ++ hpW H) ls pc (.int k :: .int n :: rest) := by
  intro Hp locs la hP hD hS hl
  refine ww_multi2 (ty := .int) C.hx C.hb C.hown (C.hts _ hcl) C.hF.2.2.2.2.1.2.2.2.1 C.hF.2.2.2.2.1.2.2.1 hd hn hk hb1 hb2 (by rw [C.hR]; exact hcs.1) (by rw [C.hR]; exact hcs.2) (fun cO cI H1 e1 e2 e3 e4 e5 e6 => ?_)
  obtain rfl : cO = zY D.2 5 := Option.some.inj (e1.symm.trans (C.hK.2 5 (zY D.2 5, .array (.array .int)) rfl).2)
  obtain rfl : cI = zY D.2 4 := Option.some.inj (e2.symm.trans (C.hK.2 4 (zY D.2 4, .array .int) rfl).2)
  generalize n.toNatClampNeg = N at *
  generalize k.toNatClampNeg = M at *
  have hlt : ∀ x ∈ B ++ hpW H, x.1 < Hp.size := fun x hx => by
    obtain ⟨j, hj⟩ := List.mem_iff_getElem?.mp hx
    exact (hP j x hj).lt
  have hno : ∀ i, i ≤ N → hpG H (Hp.size + i) = none := fun i _ => hpG_of (fun m => by
    obtain ⟨j, hj⟩ := hpW_get (B := B) (c := H.2 (Hp.size + i)) (if_pos m : hpG H (Hp.size + i) = _)
    have := hlt _ (List.mem_of_getElem? hj)
    simp at this
    omega)
  have hL : hpW (hpM H Hp.size (zY D.2 5) (zY D.2 4) N M) = hpW H ++ (List.range' Hp.size (N + 1)).map (fun a => (a, (hpM H Hp.size (zY D.2 5) (zY D.2 4) N M).2 a)) := by
    show (H.1 ++ List.range' Hp.size (N + 1)).map _ = _
    rw [List.map_append]
    congr 1
    refine List.map_congr_left (fun a ha => ?_)
    have hal : a < Hp.size := by
      obtain ⟨j, hj⟩ := hpW_get (B := B) (c := H.2 a) (if_pos ha : hpG H a = _)
      exact hlt _ (List.mem_of_getElem? hj)
    show (a, if a = Hp.size then _ else if Hp.size < a ∧ a ≤ Hp.size + N then _ else H.2 a) = (a, H.2 a)
    rw [if_neg (by omega), if_neg (by omega)]
  have hin : ∀ x ∈ (List.range' Hp.size (N + 1)).map (fun a => (a, (hpM H Hp.size (zY D.2 5) (zY D.2 4) N M).2 a)), Hp.size ≤ x.1 ∧ va_at D.1 vwCl x H1 := by
    intro x hx
    obtain ⟨a, ha, rfl⟩ := List.mem_map.mp hx
    rw [List.mem_range'_1] at ha
    refine ⟨ha.1, ?_⟩
    show va_at D.1 vwCl (a, if a = Hp.size then qE (zY D.2 5) N (fun i => if i < N then some (Hp.size + 1 + i) else none) else if Hp.size < a ∧ a ≤ Hp.size + N then qE (zY D.2 4) M (fun _ => none) else H.2 a) H1
    by_cases z : a = Hp.size
    · rw [if_pos z]
      show H1[a]? = some (vp_cell _ _)
      rw [vp_cell_q, z, e4]
      congr 2
      funext j
      split <;> rfl
    · rw [if_neg z, if_pos (by omega)]
      show H1[a]? = some (vp_cell _ _)
      rw [vp_cell_q]
      have := e5 (a - (Hp.size + 1)) (by omega)
      rw [show Hp.size + 1 + (a - (Hp.size + 1)) = a by omega] at this
      exact this
  have hP1 : va_P D.1 vwCl (B ++ hpW (hpM H Hp.size (zY D.2 5) (zY D.2 4) N M)) H1 := by
    intro j x hx
    have hm := List.mem_of_getElem? hx
    rw [hL, ← List.append_assoc] at hm
    rcases List.mem_append.mp hm with hm | hm
    · obtain ⟨i, hi⟩ := List.mem_iff_getElem?.mp hm
      exact (hP i x hi).kept (e6 _ (hlt x hm))
    · exact (hin x hm).2
  have hD1 : va_D A (B ++ hpW (hpM H Hp.size (zY D.2 5) (zY D.2 4) N M)) := by
    rw [hL, ← List.append_assoc, pm_nd]
    rw [pm_nd] at hD
    rw [List.map_append]
    refine ⟨List.nodup_append.mpr ⟨hD.1, ?_, fun a ha b hb e => ?_⟩, fun x hx => ?_⟩
    · rw [List.map_map]
      show ((List.range' Hp.size (N + 1)).map (fun a => a)).Nodup
      rw [List.map_id']
      exact List.nodup_range'
    · obtain ⟨x, hx, rfl⟩ := List.mem_map.mp ha
      obtain ⟨y, hy, rfl⟩ := List.mem_map.mp hb
      have h1 := hlt x hx
      have h2 := (hin y hy).1
      omega
    · rcases List.mem_append.mp hx with hx | hx
      · exact hD.2 x hx
      · exact C.hA _ (Nat.le_trans hS.1 (hin x hx).1)
  refine kk Hp.size hno H1 _ la hP1 hD1 ⟨Nat.le_trans hS.1 (by omega), fun x h1 h2 => (e6 x (Nat.lt_of_lt_of_le h1 hS.1)).trans (hS.2.1 x h1 h2), fun z hz => ?_⟩ hl
  rcases List.mem_append.mp hz with hz | hz
  · exact hS.2.2 z hz
  · obtain ⟨j, hj, rfl⟩ := List.mem_map.mp hz
    exact C.hA _ hS.1
end MULTIH
