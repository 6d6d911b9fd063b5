/-! exceptions at the level of the walk -/
section EXC
abbrev exN : List String := ["java/lang/RuntimeException", "java/lang/Exception"]
theorem isNest_ot {w : Cond} (h : isNest w = true) : w.onTables = true := by
  cases w <;> first | exact absurd h Bool.false_ne_true | rfl
/-- the frame's way on with a cell of that class thrown over it -/
def Gx (D : gD) (E : gE) (A : Nat → Prop) (Q : State → Prop) (nL cells slots : Nat) (w : va_W) (ls : List (Nat × Value)) (pc : Nat) (rest : List Value) (cls : String) : Prop :=
  ∀ (H : Heap) (locs : List Loc) (la : Array Slot) (ce : Cell) (q : Addr), va_P D.1 vwCl w H → va_D A w → va_S A E.2.2.2.2.1.heap H locs → lv_has la nL ls → H[q]? = some ce → ce.vm = .none → E.2.2.2.2.1.vm.findClass cls = some ce.cls →
    vx_W E.1 E.2.1 E.2.2.1 E.2.2.2.1 E.2.2.2.2.1 E.2.2.2.2.2.1 E.2.2.2.2.2.2.1 E.2.2.2.2.2.2.2.1 E.2.2.2.2.2.2.2.2.1 E.2.2.2.2.2.2.2.2.2 H locs cells slots Q (F0 E.2.2.2.2.2.1 pc la rest) q
def ThW (own cls text : String) (ik is ic : Nat) : Prop := Bundle.fit cls = true ∧ Cond.classLink own ik cls ∈ gtbl ∧ Cond.initialized cls ∈ gtbl ∧ Cond.stringRef own is text ∈ lw_tbl ∧ (∀ w ∈ vx_atS own ic cls exN, w ∈ lw_tbl ∧ (goodWord w = true ∨ isNest w = true)) ∧ (∀ w ∈ Cond.classLink own ik cls :: Cond.initialized cls :: vx_atS own ic cls exN, vx_ot w = true)
def ThD (cc : ByteArray) (pc ik is ic : Nat) : Prop := decode cc pc = .ok (.new ik, 3) ∧ decode cc (pc + 3) = .ok (.dup, 1) ∧ ((decode cc (pc + 4) = .ok (.ldc is, 2) ∧ decode cc (pc + 6) = .ok (.invokespecial ic, 3) ∧ decode cc (pc + 9) = .ok (.athrow, 1)) ∨ (decode cc (pc + 4) = .ok (.ldc_w is, 3) ∧ decode cc (pc + 7) = .ok (.invokespecial ic, 3) ∧ decode cc (pc + 10) = .ok (.athrow, 1)))
def CtXX (D : gD) (tys : List (ClassId × FieldType)) (w : va_W) (sz : Nat) (KX : String → Prop) : String → State → State → Prop := vx_X (fun _ : Unit => True) (fun cls u t => KX cls ∧ CtB D tys w (fun _ : Unit => w) sz u t) (va_A w sz)
def CtXI (l : Launch) (D : gD) (tys : List (ClassId × FieldType)) (y : MethodName) (cc : ByteArray) (nL : Nat) (rt : FieldType) (rm : Room) (av : List Value) (w : va_W) {S : Type} (w' : S → va_W) (K : Int32 → S → Prop) (KX : String → Prop) : Prop :=
  ∀ sz : Nat, vx_Met l y (wT y cc nL (some rt)) rm (CtP D tys av w sz) (va_Qi K (CtB D tys w w' sz) (va_A w sz)) (CtXX D tys w sz KX) rm.cells rm.slots (va_A w sz)
theorem ct_startXI {l : Launch} {D : gD} {tys : List (ClassId × FieldType)} {y : MethodName} {cc : ByteArray} {nL : Nat} {rt : FieldType} {rm : Room} {av : List Value} {w : va_W} {S : Type} {w' : S → va_W} {K : Int32 → S → Prop} {KX : String → Prop} (hlt : l.stackTraces = false) (hy : plainName y.cls = true) (hn : (lg_sl av).length ≤ nL) (hrm : 5 < rm.frames ∧ 82 ≤ rm.locals)
    (body : ∀ (E : gE) (A : Nat → Prop) (Q : State → Prop), E.2.1 = l → Cx D tys E rm cc nL y.cls A → (∀ (r : Int32) (u : S) (pc : Nat) (ls : List (Nat × Value)), narrow rt (.int r) = .int r → K r u → decode cc pc = .ok (.ireturn, 1) → Go D E A Q nL rm.cells rm.slots (w' u) ls pc [.int r]) → (∀ (cls : String) (pc : Nat) (ls : List (Nat × Value)) (rest : List Value) (cells slots : Nat), KX cls → cells ≤ rm.cells ∧ slots ≤ rm.slots → Gx D E A Q nL cells slots w ls pc rest cls) →
      (∀ (cls text : String) (ik is ic pc : Nat) (ls : List (Nat × Value)) (cells slots : Nat), KX cls → cells + 1 ≤ rm.cells ∧ slots + 6 ≤ rm.slots → ThW y.cls cls text ik is ic → ThD cc pc ik is ic → Go D E A Q nL cells slots w ls pc []) → Go D E A Q nL 0 0 w (lv_args 0 av) 0 []) : CtXI l D tys y cc nL rt rm av w w' K KX := by
  intro sz
  refine vx_ofW (cc := cc) (maxL := nL) (ret := (some rt)) hy rfl ?_
  intro p e s m args below meth c s₁ B hml hexc hv
  obtain ⟨rfl, hsz, hP, hK, hD0, hF⟩ := hv
  subst hsz
  have hts := atoms_spec (ws := wT y cc nL (some rt)) B.pre
  have hD := hD0.self (sz := s.heap.size)
  have hl := lv_entry av (n := nL) hn
  have hown : s.vm.findClass y.cls = some m.cls := findClass_of_methodNamed B.named
  rw [lg_entry_eq]
  refine body (p, l, e, (headSpec (wT y cc nL (some rt)) rm).room, s, m, av.toArray, below, meth, c) (va_A w s.heap.size) (vx_MQ below _ _ av.toArray s rm.cells rm.slots (va_A w s.heap.size)) rfl ⟨B.exec, B.bytes, hml, hown, fun w hw => hts w (List.mem_cons_of_mem _ hw), hK, fun q h => Or.inr h, rfl, hF⟩ ?_ ?_ ?_ s.heap [] _ hP hD va_S.rf hl
  · intro r u pc ls hn2 hKK hd H locs la hP1 hD1 hS1 hl1
    exact vx_ret (W.zret B.exec B.bytes B.returns hn2 (fun t ht hW => ⟨⟨r, u, rfl, hKK, by rw [ht]; exact hP1, va_K.moved hW.alike hK, hD1⟩, hS1.F ht⟩) hS1.2.2 hd B.notSynchronized)
  · intro cls pc ls rest cells slots hkx hcs H locs la ce q hP1 hD1 hS1 hl1 hce hcv hcl
    exact vx_out (fun x hx => (hexc x hx).elim) B.notSynchronized hce hcv hcl (fun t ht hal => ⟨(), trivial, ⟨hkx, by rw [ht]; exact hP1, va_K.moved hal hK, hD1⟩, hS1.F ht⟩) hS1.2.2 hcs.1 hcs.2
  · intro cls text ik is ic pc ls cells slots hkx hcs hW hd H locs la hP1 hD1 hS1 hl1
    obtain ⟨hfit, hlk, hini, hstr, hat, hot⟩ := hW
    obtain ⟨sa, hsa⟩ := hF.2.1 _ _ _ hstr
    have hat' : ∀ w ∈ vx_atS y.cls ic cls exN, w.before av.toArray s = true := fun w hw => by
      rcases (hat w hw).2 with h | h
      · exact hts _ (List.mem_cons_of_mem _ (gtbl_of (hat w hw).1 h))
      · exact va_Nw.use (isNest_ot h) (hF.1 w (hat w hw).1 h)
    have hx : ∀ t : State, s.vm.Alike t.vm → H.size ≤ t.heap.size → (∀ q : Nat, q < H.size → t.heap[q]? = H[q]?) → CtXX D tys w s.heap.size KX cls s t := fun t hal hz hq => ⟨(), trivial, ⟨hkx, hP1.kept (fun k q hk => hq q.1 (vx_lt hP1 hk)), va_K.moved hal hK, hD1⟩, ⟨Nat.le_trans hS1.1 hz, fun q h1 h2 => by rw [hq q (Nat.lt_of_lt_of_le h1 hS1.1)]; exact hS1.2.1 q h1 h2⟩⟩
    have hex : ∀ n ∈ exN, Bundle.fit n = true := by decide +kernel
    obtain ⟨d0, d3, ⟨d4, d6, d9⟩ | ⟨d4, d7, d10⟩⟩ := hd
    · exact vx_throwS B.exec B.bytes hlt hown hfit hex (hts _ (List.mem_cons_of_mem _ hlk)) (hts _ (List.mem_cons_of_mem _ hini)) hsa hat' hot hF.2.2.2.2.2.2.2.1 hF.2.2.2.2.2.2.2.2.1 hS1 (hl1.1.trans hml.symm) d0 d3 d4 d6 d9 (fun x hx => (hexc x hx).elim) hrm.1 hrm.2 hcs.1 hcs.2 B.notSynchronized hx hS1.2.2 hcs.1 hcs.2
    · exact vx_throwSW B.exec B.bytes hlt hown hfit hex (hts _ (List.mem_cons_of_mem _ hlk)) (hts _ (List.mem_cons_of_mem _ hini)) hsa hat' hot hF.2.2.2.2.2.2.2.1 hF.2.2.2.2.2.2.2.2.1 hS1 (hl1.1.trans hml.symm) d0 d3 d4 d7 d10 (fun x hx => (hexc x hx).elim) hrm.1 hrm.2 hcs.1 hcs.2 B.notSynchronized hx hS1.2.2 hcs.1 hcs.2
theorem q_callXVI {D : gD} {tys : List (ClassId × FieldType)} {E : gE} {rm : Room} {cc : ByteArray} {nL : Nat} {own : String} {A : Nat → Prop} {Q : State → Prop} {cells slots : Nat} {w : va_W} {ls : List (Nat × Value)} {pc : Nat} {st rest : List Value} (C : Cx D tys E rm cc nL own A) {y : MethodName} {bytes : ByteArray} {maxL n idx : Nat} {rt : FieldType} {rm' : Room} {As : List Value} {wc wr : va_W} {S : Type} {w1' : S → va_W} {K : Int32 → S → Prop} {KX : String → Prop} {b : Nat}
    (hc : CtXI E.2.1 D tys y bytes maxL rt rm' (.ref b :: As) wc w1' K KX) (F : CallF own idx y bytes maxL (some rt) n) (hi : Cond.instanceMethod y ∈ gtbl) (hs : Cond.selects y.cls y y ∈ gtbl) (ci : Nat) {q : vw_C} {fs : List Value} (hci : vwCl[ci]? = some q) (hq : q.1 = y.cls) (hb : wc[0]? = some (b, .inr (ci, fs))) (hn : As.length = n) (hR : rm'.frames + 1 ≤ rm.frames ∧ 8 + (maxL + 11) + rm'.locals ≤ rm.locals) (hcs : cells + rm'.cells ≤ rm.cells ∧ slots + rm'.slots ≤ rm.slots) (cells' slots' : Nat) (hce : cells + rm'.cells = cells' ∧ slots + rm'.slots = slots')
    (isC isR : List Nat) (hC : isC.map (fun i => w[i]?) = wc.map some) (hRr : isR.map (fun i => w[i]?) = wr.map some) (hnd : va_nd isR = true) (hndC : va_nd isC = true) (hdis : ∀ i ∈ isR, i ∉ isC)
    (w2 : S → va_W) (ps : List Nat) (hps : va_nd ps = true) (hw2 : ∀ u, ps.map (fun i => (wr ++ w1' u)[i]?) = (w2 u).map some) (psX : List Nat) (hpsX : va_nd psX = true) (hwX : psX.map (fun i => (wr ++ wc)[i]?) = w.map some)
    (hst : st = As.reverse ++ .ref b :: rest) (hrest : (rest.map fun v => v.category).sum ≤ 8) (hd : decode cc pc = .ok (.invokevirtual idx, 3))
    (kx : ∀ cls : String, KX cls → Gx D E A Q nL cells' slots' w ls pc rest cls)
    (kk : ∀ (r : Int32) (u : S), K r u → Go D E A Q nL cells' slots' (w2 u) ls (pc + 3) (.int r :: rest)) : Go D E A Q nL cells slots w ls pc st := by
  intro H locs la hP hD hS hl
  subst hst
  obtain ⟨rfl, rfl⟩ := hce
  have hPc : va_P D.1 vwCl wc H := hP.sub isC (fm_of_map hC)
  have hDc : va_D A wc := hD.sub isC hndC hC
  have hFc := va_free hD hS C.hA isC hC
  refine vx_calli (vx_runV (As := As) (rest := rest) ⟨C.hx, C.hb, C.hml, C.hown, C.hts⟩ (hc H.size) ⟨callB_of n C.hts (wT_good F.1) rfl rfl rfl (C.hts _ F.2.2.1) (C.hts _ F.2.1) F.2.2.2 (by rw [C.hR]; exact hR), C.hts _ hi, C.hts _ hs⟩ ⟨CtP.blind, by rw [← hq]; exact va_recv C.hK hPc hci hb, fun U hU hW => ⟨rfl, by rw [hU], by rw [hU]; exact hPc, va_K.moved hW.alike C.hK, hDc.weaken (fun _ _ _ _ => trivial), by rw [hU]; exact C.hF.warm hW hS.2.1 hFc⟩⟩ rfl hn hl.1 rfl (lv_room hrest) hd (by rw [C.hR]; exact hcs)) hS (fun q _ h => hFc q h) hFc (fun q _ h => hFc q h) (fun cls ce q9 u t H1 locs1 ht hvm _ hB hz1 hk1 hS1 hce hcv hcl => ?_) (fun r u t H1 locs1 ht hvm hw hB hz1 hk1 hS1 => ?_)
  · obtain ⟨hkx, hP1, hK1, hD1⟩ := hB
    rw [ht] at hP1
    obtain ⟨hP2, hD2⟩ := va_join hP hD isC isR hC hRr hnd hdis hk1 hFc hP1 hD1
    exact kx cls hkx H1 locs1 la ce q9 (hP2.sub psX (fm_of_map hwX)) (hD2.sub psX hpsX hwX) hS1 hl hce hcv hcl
  · obtain ⟨hP1, hK1, hD1⟩ := hB
    rw [ht] at hP1
    obtain ⟨hP2, hD2⟩ := va_join hP hD isC isR hC hRr hnd hdis hk1 hFc hP1 hD1
    exact kk r u hw H1 locs1 la (hP2.sub ps (fm_of_map (hw2 u))) (hD2.sub ps hps (hw2 u)) hS1 hl
def CtXL (l : Launch) (D : gD) (tys : List (ClassId × FieldType)) (y : MethodName) (cc : ByteArray) (nL : Nat) (rm : Room) (av : List Value) (w : va_W) {S : Type} (w' : S → va_W) (K : Int64 → S → Prop) (KX : String → Prop) : Prop :=
  ∀ sz : Nat, vx_Met l y (wT y cc nL (some .long)) rm (CtP D tys av w sz) (va_Ql K (CtB D tys w w' sz) (va_A w sz)) (CtXX D tys w sz KX) rm.cells rm.slots (va_A w sz)
theorem ct_startXL {l : Launch} {D : gD} {tys : List (ClassId × FieldType)} {y : MethodName} {cc : ByteArray} {nL : Nat} {rm : Room} {av : List Value} {w : va_W} {S : Type} {w' : S → va_W} {K : Int64 → S → Prop} {KX : String → Prop} (hlt : l.stackTraces = false) (hy : plainName y.cls = true) (hn : (lg_sl av).length ≤ nL) (hrm : 5 < rm.frames ∧ 82 ≤ rm.locals)
    (body : ∀ (E : gE) (A : Nat → Prop) (Q : State → Prop), E.2.1 = l → Cx D tys E rm cc nL y.cls A → (∀ (r : Int64) (u : S) (pc : Nat) (ls : List (Nat × Value)), K r u → decode cc pc = .ok (.lreturn, 1) → Go D E A Q nL rm.cells rm.slots (w' u) ls pc [.long r]) → (∀ (cls : String) (pc : Nat) (ls : List (Nat × Value)) (rest : List Value) (cells slots : Nat), KX cls → cells ≤ rm.cells ∧ slots ≤ rm.slots → Gx D E A Q nL cells slots w ls pc rest cls) →
      (∀ (cls text : String) (ik is ic pc : Nat) (ls : List (Nat × Value)) (cells slots : Nat), KX cls → cells + 1 ≤ rm.cells ∧ slots + 6 ≤ rm.slots → ThW y.cls cls text ik is ic → ThD cc pc ik is ic → Go D E A Q nL cells slots w ls pc []) → Go D E A Q nL 0 0 w (lv_args 0 av) 0 []) : CtXL l D tys y cc nL rm av w w' K KX := by
  intro sz
  refine vx_ofW (cc := cc) (maxL := nL) (ret := (some .long)) hy rfl ?_
  intro p e s m args below meth c s₁ B hml hexc hv
  obtain ⟨rfl, hsz, hP, hK, hD0, hF⟩ := hv
  subst hsz
  have hts := atoms_spec (ws := wT y cc nL (some .long)) B.pre
  have hD := hD0.self (sz := s.heap.size)
  have hl := lv_entry av (n := nL) hn
  have hown : s.vm.findClass y.cls = some m.cls := findClass_of_methodNamed B.named
  rw [lg_entry_eq]
  refine body (p, l, e, (headSpec (wT y cc nL (some .long)) rm).room, s, m, av.toArray, below, meth, c) (va_A w s.heap.size) (vx_MQ below _ _ av.toArray s rm.cells rm.slots (va_A w s.heap.size)) rfl ⟨B.exec, B.bytes, hml, hown, fun w hw => hts w (List.mem_cons_of_mem _ hw), hK, fun q h => Or.inr h, rfl, hF⟩ ?_ ?_ ?_ s.heap [] _ hP hD va_S.rf hl
  · intro r u pc ls hKK hd H locs la hP1 hD1 hS1 hl1
    exact vx_ret (W.lret B.exec B.bytes B.returns (fun t ht hW => ⟨⟨r, u, rfl, hKK, by rw [ht]; exact hP1, va_K.moved hW.alike hK, hD1⟩, hS1.F ht⟩) hS1.2.2 hd B.notSynchronized)
  · intro cls pc ls rest cells slots hkx hcs H locs la ce q hP1 hD1 hS1 hl1 hce hcv hcl
    exact vx_out (fun x hx => (hexc x hx).elim) B.notSynchronized hce hcv hcl (fun t ht hal => ⟨(), trivial, ⟨hkx, by rw [ht]; exact hP1, va_K.moved hal hK, hD1⟩, hS1.F ht⟩) hS1.2.2 hcs.1 hcs.2
  · intro cls text ik is ic pc ls cells slots hkx hcs hW hd H locs la hP1 hD1 hS1 hl1
    obtain ⟨hfit, hlk, hini, hstr, hat, hot⟩ := hW
    obtain ⟨sa, hsa⟩ := hF.2.1 _ _ _ hstr
    have hat' : ∀ w ∈ vx_atS y.cls ic cls exN, w.before av.toArray s = true := fun w hw => by
      rcases (hat w hw).2 with h | h
      · exact hts _ (List.mem_cons_of_mem _ (gtbl_of (hat w hw).1 h))
      · exact va_Nw.use (isNest_ot h) (hF.1 w (hat w hw).1 h)
    have hx : ∀ t : State, s.vm.Alike t.vm → H.size ≤ t.heap.size → (∀ q : Nat, q < H.size → t.heap[q]? = H[q]?) → CtXX D tys w s.heap.size KX cls s t := fun t hal hz hq => ⟨(), trivial, ⟨hkx, hP1.kept (fun k q hk => hq q.1 (vx_lt hP1 hk)), va_K.moved hal hK, hD1⟩, ⟨Nat.le_trans hS1.1 hz, fun q h1 h2 => by rw [hq q (Nat.lt_of_lt_of_le h1 hS1.1)]; exact hS1.2.1 q h1 h2⟩⟩
    have hex : ∀ n ∈ exN, Bundle.fit n = true := by decide +kernel
    obtain ⟨d0, d3, ⟨d4, d6, d9⟩ | ⟨d4, d7, d10⟩⟩ := hd
    · exact vx_throwS B.exec B.bytes hlt hown hfit hex (hts _ (List.mem_cons_of_mem _ hlk)) (hts _ (List.mem_cons_of_mem _ hini)) hsa hat' hot hF.2.2.2.2.2.2.2.1 hF.2.2.2.2.2.2.2.2.1 hS1 (hl1.1.trans hml.symm) d0 d3 d4 d6 d9 (fun x hx => (hexc x hx).elim) hrm.1 hrm.2 hcs.1 hcs.2 B.notSynchronized hx hS1.2.2 hcs.1 hcs.2
    · exact vx_throwSW B.exec B.bytes hlt hown hfit hex (hts _ (List.mem_cons_of_mem _ hlk)) (hts _ (List.mem_cons_of_mem _ hini)) hsa hat' hot hF.2.2.2.2.2.2.2.1 hF.2.2.2.2.2.2.2.2.1 hS1 (hl1.1.trans hml.symm) d0 d3 d4 d7 d10 (fun x hx => (hexc x hx).elim) hrm.1 hrm.2 hcs.1 hcs.2 B.notSynchronized hx hS1.2.2 hcs.1 hcs.2
theorem q_callXVL {D : gD} {tys : List (ClassId × FieldType)} {E : gE} {rm : Room} {cc : ByteArray} {nL : Nat} {own : String} {A : Nat → Prop} {Q : State → Prop} {cells slots : Nat} {w : va_W} {ls : List (Nat × Value)} {pc : Nat} {st rest : List Value} (C : Cx D tys E rm cc nL own A) {y : MethodName} {bytes : ByteArray} {maxL n idx : Nat} {rm' : Room} {As : List Value} {wc wr : va_W} {S : Type} {w1' : S → va_W} {K : Int64 → S → Prop} {KX : String → Prop} {b : Nat}
    (hc : CtXL E.2.1 D tys y bytes maxL rm' (.ref b :: As) wc w1' K KX) (F : CallF own idx y bytes maxL (some .long) n) (hi : Cond.instanceMethod y ∈ gtbl) (hs : Cond.selects y.cls y y ∈ gtbl) (ci : Nat) {q : vw_C} {fs : List Value} (hci : vwCl[ci]? = some q) (hq : q.1 = y.cls) (hb : wc[0]? = some (b, .inr (ci, fs))) (hn : As.length = n) (hR : rm'.frames + 1 ≤ rm.frames ∧ 8 + (maxL + 11) + rm'.locals ≤ rm.locals) (hcs : cells + rm'.cells ≤ rm.cells ∧ slots + rm'.slots ≤ rm.slots) (cells' slots' : Nat) (hce : cells + rm'.cells = cells' ∧ slots + rm'.slots = slots')
    (isC isR : List Nat) (hC : isC.map (fun i => w[i]?) = wc.map some) (hRr : isR.map (fun i => w[i]?) = wr.map some) (hnd : va_nd isR = true) (hndC : va_nd isC = true) (hdis : ∀ i ∈ isR, i ∉ isC)
    (w2 : S → va_W) (ps : List Nat) (hps : va_nd ps = true) (hw2 : ∀ u, ps.map (fun i => (wr ++ w1' u)[i]?) = (w2 u).map some) (psX : List Nat) (hpsX : va_nd psX = true) (hwX : psX.map (fun i => (wr ++ wc)[i]?) = w.map some)
    (hst : st = As.reverse ++ .ref b :: rest) (hrest : (rest.map fun v => v.category).sum ≤ 8) (hd : decode cc pc = .ok (.invokevirtual idx, 3))
    (kx : ∀ cls : String, KX cls → Gx D E A Q nL cells' slots' w ls pc rest cls)
    (kk : ∀ (r : Int64) (u : S), K r u → Go D E A Q nL cells' slots' (w2 u) ls (pc + 3) (.long r :: rest)) : Go D E A Q nL cells slots w ls pc st := by
  intro H locs la hP hD hS hl
  subst hst
  obtain ⟨rfl, rfl⟩ := hce
  have hPc : va_P D.1 vwCl wc H := hP.sub isC (fm_of_map hC)
  have hDc : va_D A wc := hD.sub isC hndC hC
  have hFc := va_free hD hS C.hA isC hC
  refine vx_calll (vx_runV (As := As) (rest := rest) ⟨C.hx, C.hb, C.hml, C.hown, C.hts⟩ (hc H.size) ⟨callB_of n C.hts (wT_good F.1) rfl rfl rfl (C.hts _ F.2.2.1) (C.hts _ F.2.1) F.2.2.2 (by rw [C.hR]; exact hR), C.hts _ hi, C.hts _ hs⟩ ⟨CtP.blind, by rw [← hq]; exact va_recv C.hK hPc hci hb, fun U hU hW => ⟨rfl, by rw [hU], by rw [hU]; exact hPc, va_K.moved hW.alike C.hK, hDc.weaken (fun _ _ _ _ => trivial), by rw [hU]; exact C.hF.warm hW hS.2.1 hFc⟩⟩ rfl hn hl.1 rfl (lv_room hrest) hd (by rw [C.hR]; exact hcs)) hS (fun q _ h => hFc q h) hFc (fun q _ h => hFc q h) (fun cls ce q9 u t H1 locs1 ht hvm _ hB hz1 hk1 hS1 hce hcv hcl => ?_) (fun r u t H1 locs1 ht hvm hw hB hz1 hk1 hS1 => ?_)
  · obtain ⟨hkx, hP1, hK1, hD1⟩ := hB
    rw [ht] at hP1
    obtain ⟨hP2, hD2⟩ := va_join hP hD isC isR hC hRr hnd hdis hk1 hFc hP1 hD1
    exact kx cls hkx H1 locs1 la ce q9 (hP2.sub psX (fm_of_map hwX)) (hD2.sub psX hpsX hwX) hS1 hl hce hcv hcl
  · obtain ⟨hP1, hK1, hD1⟩ := hB
    rw [ht] at hP1
    obtain ⟨hP2, hD2⟩ := va_join hP hD isC isR hC hRr hnd hdis hk1 hFc hP1 hD1
    exact kk r u hw H1 locs1 la (hP2.sub ps (fm_of_map (hw2 u))) (hD2.sub ps hps (hw2 u)) hS1 hl
def CtXV (l : Launch) (D : gD) (tys : List (ClassId × FieldType)) (y : MethodName) (cc : ByteArray) (nL : Nat) (rm : Room) (av : List Value) (w : va_W) {S : Type} (w' : S → va_W) (K : S → Prop) (KX : String → Prop) : Prop :=
  ∀ sz : Nat, vx_Met l y (wT y cc nL none) rm (CtP D tys av w sz) (va_Qv K (CtB D tys w w' sz) (va_A w sz)) (CtXX D tys w sz KX) rm.cells rm.slots (va_A w sz)
theorem ct_startXV {l : Launch} {D : gD} {tys : List (ClassId × FieldType)} {y : MethodName} {cc : ByteArray} {nL : Nat} {rm : Room} {av : List Value} {w : va_W} {S : Type} {w' : S → va_W} {K : S → Prop} {KX : String → Prop} (hlt : l.stackTraces = false) (hy : plainName y.cls = true) (hn : (lg_sl av).length ≤ nL) (hrm : 5 < rm.frames ∧ 82 ≤ rm.locals)
    (body : ∀ (E : gE) (A : Nat → Prop) (Q : State → Prop), E.2.1 = l → Cx D tys E rm cc nL y.cls A → (∀ (u : S) (pc : Nat) (ls : List (Nat × Value)), K u → decode cc pc = .ok (.return_, 1) → Go D E A Q nL rm.cells rm.slots (w' u) ls pc []) → (∀ (cls : String) (pc : Nat) (ls : List (Nat × Value)) (rest : List Value) (cells slots : Nat), KX cls → cells ≤ rm.cells ∧ slots ≤ rm.slots → Gx D E A Q nL cells slots w ls pc rest cls) →
      (∀ (cls text : String) (ik is ic pc : Nat) (ls : List (Nat × Value)) (cells slots : Nat), KX cls → cells + 1 ≤ rm.cells ∧ slots + 6 ≤ rm.slots → ThW y.cls cls text ik is ic → ThD cc pc ik is ic → Go D E A Q nL cells slots w ls pc []) → Go D E A Q nL 0 0 w (lv_args 0 av) 0 []) : CtXV l D tys y cc nL rm av w w' K KX := by
  intro sz
  refine vx_ofW (cc := cc) (maxL := nL) (ret := none) hy rfl ?_
  intro p e s m args below meth c s₁ B hml hexc hv
  obtain ⟨rfl, hsz, hP, hK, hD0, hF⟩ := hv
  subst hsz
  have hts := atoms_spec (ws := wT y cc nL none) B.pre
  have hD := hD0.self (sz := s.heap.size)
  have hl := lv_entry av (n := nL) hn
  have hown : s.vm.findClass y.cls = some m.cls := findClass_of_methodNamed B.named
  rw [lg_entry_eq]
  refine body (p, l, e, (headSpec (wT y cc nL none) rm).room, s, m, av.toArray, below, meth, c) (va_A w s.heap.size) (vx_MQ below _ _ av.toArray s rm.cells rm.slots (va_A w s.heap.size)) rfl ⟨B.exec, B.bytes, hml, hown, fun w hw => hts w (List.mem_cons_of_mem _ hw), hK, fun q h => Or.inr h, rfl, hF⟩ ?_ ?_ ?_ s.heap [] _ hP hD va_S.rf hl
  · intro u pc ls hKK hd H locs la hP1 hD1 hS1 hl1
    exact vx_ret (W.vret B.exec B.bytes B.returns (fun t ht hW => ⟨⟨u, rfl, hKK, by rw [ht]; exact hP1, va_K.moved hW.alike hK, hD1⟩, hS1.F ht⟩) hS1.2.2 hd B.notSynchronized)
  · intro cls pc ls rest cells slots hkx hcs H locs la ce q hP1 hD1 hS1 hl1 hce hcv hcl
    exact vx_out (fun x hx => (hexc x hx).elim) B.notSynchronized hce hcv hcl (fun t ht hal => ⟨(), trivial, ⟨hkx, by rw [ht]; exact hP1, va_K.moved hal hK, hD1⟩, hS1.F ht⟩) hS1.2.2 hcs.1 hcs.2
  · intro cls text ik is ic pc ls cells slots hkx hcs hW hd H locs la hP1 hD1 hS1 hl1
    obtain ⟨hfit, hlk, hini, hstr, hat, hot⟩ := hW
    obtain ⟨sa, hsa⟩ := hF.2.1 _ _ _ hstr
    have hat' : ∀ w ∈ vx_atS y.cls ic cls exN, w.before av.toArray s = true := fun w hw => by
      rcases (hat w hw).2 with h | h
      · exact hts _ (List.mem_cons_of_mem _ (gtbl_of (hat w hw).1 h))
      · exact va_Nw.use (isNest_ot h) (hF.1 w (hat w hw).1 h)
    have hx : ∀ t : State, s.vm.Alike t.vm → H.size ≤ t.heap.size → (∀ q : Nat, q < H.size → t.heap[q]? = H[q]?) → CtXX D tys w s.heap.size KX cls s t := fun t hal hz hq => ⟨(), trivial, ⟨hkx, hP1.kept (fun k q hk => hq q.1 (vx_lt hP1 hk)), va_K.moved hal hK, hD1⟩, ⟨Nat.le_trans hS1.1 hz, fun q h1 h2 => by rw [hq q (Nat.lt_of_lt_of_le h1 hS1.1)]; exact hS1.2.1 q h1 h2⟩⟩
    have hex : ∀ n ∈ exN, Bundle.fit n = true := by decide +kernel
    obtain ⟨d0, d3, ⟨d4, d6, d9⟩ | ⟨d4, d7, d10⟩⟩ := hd
    · exact vx_throwS B.exec B.bytes hlt hown hfit hex (hts _ (List.mem_cons_of_mem _ hlk)) (hts _ (List.mem_cons_of_mem _ hini)) hsa hat' hot hF.2.2.2.2.2.2.2.1 hF.2.2.2.2.2.2.2.2.1 hS1 (hl1.1.trans hml.symm) d0 d3 d4 d6 d9 (fun x hx => (hexc x hx).elim) hrm.1 hrm.2 hcs.1 hcs.2 B.notSynchronized hx hS1.2.2 hcs.1 hcs.2
    · exact vx_throwSW B.exec B.bytes hlt hown hfit hex (hts _ (List.mem_cons_of_mem _ hlk)) (hts _ (List.mem_cons_of_mem _ hini)) hsa hat' hot hF.2.2.2.2.2.2.2.1 hF.2.2.2.2.2.2.2.2.1 hS1 (hl1.1.trans hml.symm) d0 d3 d4 d7 d10 (fun x hx => (hexc x hx).elim) hrm.1 hrm.2 hcs.1 hcs.2 B.notSynchronized hx hS1.2.2 hcs.1 hcs.2
theorem q_callXVV {D : gD} {tys : List (ClassId × FieldType)} {E : gE} {rm : Room} {cc : ByteArray} {nL : Nat} {own : String} {A : Nat → Prop} {Q : State → Prop} {cells slots : Nat} {w : va_W} {ls : List (Nat × Value)} {pc : Nat} {st rest : List Value} (C : Cx D tys E rm cc nL own A) {y : MethodName} {bytes : ByteArray} {maxL n idx : Nat} {rm' : Room} {As : List Value} {wc wr : va_W} {S : Type} {w1' : S → va_W} {K : S → Prop} {KX : String → Prop} {b : Nat}
    (hc : CtXV E.2.1 D tys y bytes maxL rm' (.ref b :: As) wc w1' K KX) (F : CallF own idx y bytes maxL none n) (hi : Cond.instanceMethod y ∈ gtbl) (hs : Cond.selects y.cls y y ∈ gtbl) (ci : Nat) {q : vw_C} {fs : List Value} (hci : vwCl[ci]? = some q) (hq : q.1 = y.cls) (hb : wc[0]? = some (b, .inr (ci, fs))) (hn : As.length = n) (hR : rm'.frames + 1 ≤ rm.frames ∧ 8 + (maxL + 11) + rm'.locals ≤ rm.locals) (hcs : cells + rm'.cells ≤ rm.cells ∧ slots + rm'.slots ≤ rm.slots) (cells' slots' : Nat) (hce : cells + rm'.cells = cells' ∧ slots + rm'.slots = slots')
    (isC isR : List Nat) (hC : isC.map (fun i => w[i]?) = wc.map some) (hRr : isR.map (fun i => w[i]?) = wr.map some) (hnd : va_nd isR = true) (hndC : va_nd isC = true) (hdis : ∀ i ∈ isR, i ∉ isC)
    (w2 : S → va_W) (ps : List Nat) (hps : va_nd ps = true) (hw2 : ∀ u, ps.map (fun i => (wr ++ w1' u)[i]?) = (w2 u).map some) (psX : List Nat) (hpsX : va_nd psX = true) (hwX : psX.map (fun i => (wr ++ wc)[i]?) = w.map some)
    (hst : st = As.reverse ++ .ref b :: rest) (hrest : (rest.map fun v => v.category).sum ≤ 8) (hd : decode cc pc = .ok (.invokevirtual idx, 3))
    (kx : ∀ cls : String, KX cls → Gx D E A Q nL cells' slots' w ls pc rest cls)
    (kk : ∀ (u : S), K u → Go D E A Q nL cells' slots' (w2 u) ls (pc + 3) (rest)) : Go D E A Q nL cells slots w ls pc st := by
  intro H locs la hP hD hS hl
  subst hst
  obtain ⟨rfl, rfl⟩ := hce
  have hPc : va_P D.1 vwCl wc H := hP.sub isC (fm_of_map hC)
  have hDc : va_D A wc := hD.sub isC hndC hC
  have hFc := va_free hD hS C.hA isC hC
  refine vx_callv (vx_runV (As := As) (rest := rest) ⟨C.hx, C.hb, C.hml, C.hown, C.hts⟩ (hc H.size) ⟨callB_of n C.hts (wT_good F.1) rfl rfl rfl (C.hts _ F.2.2.1) (C.hts _ F.2.1) F.2.2.2 (by rw [C.hR]; exact hR), C.hts _ hi, C.hts _ hs⟩ ⟨CtP.blind, by rw [← hq]; exact va_recv C.hK hPc hci hb, fun U hU hW => ⟨rfl, by rw [hU], by rw [hU]; exact hPc, va_K.moved hW.alike C.hK, hDc.weaken (fun _ _ _ _ => trivial), by rw [hU]; exact C.hF.warm hW hS.2.1 hFc⟩⟩ rfl hn hl.1 rfl (lv_room hrest) hd (by rw [C.hR]; exact hcs)) hS (fun q _ h => hFc q h) hFc (fun q _ h => hFc q h) (fun cls ce q9 u t H1 locs1 ht hvm _ hB hz1 hk1 hS1 hce hcv hcl => ?_) (fun u t H1 locs1 ht hvm hw hB hz1 hk1 hS1 => ?_)
  · obtain ⟨hkx, hP1, hK1, hD1⟩ := hB
    rw [ht] at hP1
    obtain ⟨hP2, hD2⟩ := va_join hP hD isC isR hC hRr hnd hdis hk1 hFc hP1 hD1
    exact kx cls hkx H1 locs1 la ce q9 (hP2.sub psX (fm_of_map hwX)) (hD2.sub psX hpsX hwX) hS1 hl hce hcv hcl
  · obtain ⟨hP1, hK1, hD1⟩ := hB
    rw [ht] at hP1
    obtain ⟨hP2, hD2⟩ := va_join hP hD isC isR hC hRr hnd hdis hk1 hFc hP1 hD1
    exact kk u hw H1 locs1 la (hP2.sub ps (fm_of_map (hw2 u))) (hD2.sub ps hps (hw2 u)) hS1 hl
theorem q_catch {D : gD} {tys : List (ClassId × FieldType)} {E : gE} {rm : Room} {cc : ByteArray} {nL : Nat} {own : String} {A : Nat → Prop} {Q : State → Prop} {cells slots : Nat} {w : va_W} {ls : List (Nat × Value)} {pc : Nat} {rest : List Value} (C : Cx D tys E rm cc nL own A) {cls name : String} (tab : List ExceptionTableEntry) (hT : E.2.2.2.2.2.2.2.2.2.exceptionTable.toList = tab) (pre : List ExceptionTableEntry) (x : ExceptionTableEntry) (suf : List ExceptionTableEntry) (hsplit : tab = pre ++ x :: suf)
    (hpass : ∀ z ∈ pre, z.catchType ≠ 0 ∧ ∃ nm : String, Cond.classLink own z.catchType nm ∈ gtbl ∧ va_Nc cls nm E.2.2.2.2.1) (hx : covers x pc = true) (h0 : x.catchType ≠ 0) (hlink : Cond.classLink own x.catchType name ∈ gtbl) (hcast : Cond.castable cls name ∈ lw_tbl) {hpc : Nat} (hh : x.handlerPc = hpc)
    (kk : ∀ q : Nat, Go D E A Q nL cells slots w ls hpc [.ref q]) : Gx D E A Q nL cells slots w ls pc rest cls := by
  intro H locs la ce q hP hD hS hl hce hcv hcl
  subst hh
  refine vx_catch C.hown pre x suf (hT.trans hsplit) (fun z hz => Or.inr ?_) hx h0 (C.hts _ hlink) (va_Nw.use rfl (C.hF.1 _ hcast rfl)) hce hcv hcl (kk q H locs la hP hD hS hl)
  obtain ⟨h1, nm, h2, h3⟩ := hpass z hz
  exact ⟨h1, nm, C.hts _ h2, h3⟩
def wTH (y : MethodName) (cc : ByteArray) (nL : Nat) (ret : Option FieldType) (hh : List (Nat × Nat × Nat × Nat)) : List Cond := Cond.codeWith y cc nL ret hh :: gtbl
def CtHI (l : Launch) (D : gD) (tys : List (ClassId × FieldType)) (y : MethodName) (cc : ByteArray) (nL : Nat) (rt : FieldType) (hh : List (Nat × Nat × Nat × Nat)) (rm : Room) (av : List Value) (w : va_W) {S : Type} (w' : S → va_W) (K : Int32 → S → Prop) : Prop :=
  ∀ sz : Nat, Met l y (wTH y cc nL (some rt) hh) rm (CtP D tys av w sz) (va_Qi K (CtB D tys w w' sz) (va_A w sz)) rm.cells rm.slots (va_A w sz)
theorem Met.ofWHF {l : Launch} {y : MethodName} {ws ws' : List Cond} {rm : Room} {Pc : Array Value → State → Prop} {Qc : Array Value → State → Outcome → State → Prop} {mc ms : Nat} {free : Addr → Prop} {cc : ByteArray} {maxL : Nat} {ret : Option FieldType} {hh : List (Nat × Nat × Nat × Nat)}
    (hy : plainName y.cls = true) (hw : ws = Cond.codeWith y cc maxL ret hh :: ws')
    (body : ∀ p e s m args below meth c s₁, BodyLoose p l y (headSpec ws rm) cc maxL ret e s m args below meth c s₁ → c.maxLocals = maxL → c.exceptionTable.toList = tableOf hh → Pc args s →
      W p l e (headSpec ws rm).room s m args below meth c s.heap [] 0 0 (MQ below Qc args s mc ms free) (entryFrame m args maxL)) : Met l y ws rm Pc Qc mc ms free := by
  refine MetFree.of_bodyS (code := cc) (maxLocals := maxL) (ret := ret) hy ?_ ?_
  · intro args s m h hn
    obtain ⟨m9, meth, c, hn9, h1, h2, h3, h4, -, h5, h6, -⟩ := Cond.codeWith_spec (atoms_spec (ws := ws) h _ (by rw [hw]; exact List.mem_cons_self))
    cases hn.symm.trans hn9
    exact ⟨meth, c, h1, h2, h3, h4, h5, h6⟩
  · intro p e s m args below meth c s₁ B hml hP _
    have hh0 : s₁.heap = s.heap := by rw [B.state]; rfl
    have ht : c.exceptionTable.toList = tableOf hh := vx_table (x := y) B (atoms_spec (ws := ws) B.pre _ (by rw [hw]; exact List.mem_cons_self))
    obtain ⟨t, a1, o, b1, b2, b3⟩ := body p e s m args below meth c s₁ B hml ht hP s₁ hh0 (Stand.of_body B)
    exact ⟨t, o, a1, b1, b2, ⟨b3.1, b3.2⟩⟩
theorem ct_startHI {l : Launch} {D : gD} {tys : List (ClassId × FieldType)} {y : MethodName} {cc : ByteArray} {nL : Nat} {rt : FieldType} {hh : List (Nat × Nat × Nat × Nat)} {rm : Room} {av : List Value} {w : va_W} {S : Type} {w' : S → va_W} {K : Int32 → S → Prop} (hy : plainName y.cls = true) (hn : (lg_sl av).length ≤ nL)
    (body : ∀ (E : gE) (A : Nat → Prop) (Q : State → Prop), E.2.1 = l → Cx D tys E rm cc nL y.cls A → E.2.2.2.2.2.2.2.2.2.exceptionTable.toList = tableOf hh → (∀ (r : Int32) (u : S) (pc : Nat) (ls : List (Nat × Value)), narrow rt (.int r) = .int r → K r u → decode cc pc = .ok (.ireturn, 1) → Go D E A Q nL rm.cells rm.slots (w' u) ls pc [.int r]) → Go D E A Q nL 0 0 w (lv_args 0 av) 0 []) : CtHI l D tys y cc nL rt hh rm av w w' K := by
  intro sz
  refine Met.ofWHF (cc := cc) (maxL := nL) (ret := (some rt)) (hh := hh) hy rfl ?_
  intro p e s m args below meth c s₁ B hml hT hv
  obtain ⟨rfl, hsz, hP, hK, hD0, hF⟩ := hv
  subst hsz
  have hts := atoms_spec (ws := wTH y cc nL (some rt) hh) B.pre
  have hD := hD0.self (sz := s.heap.size)
  have hl := lv_entry av (n := nL) hn
  rw [lg_entry_eq]
  refine body (p, l, e, (headSpec (wTH y cc nL (some rt) hh) rm).room, s, m, av.toArray, below, meth, c) (va_A w s.heap.size) (MQ below _ av.toArray s rm.cells rm.slots (va_A w s.heap.size)) rfl ⟨B.exec, B.bytes, hml, findClass_of_methodNamed B.named, fun w hw => hts w (List.mem_cons_of_mem _ hw), hK, fun q h => Or.inr h, rfl, hF⟩ hT ?_ s.heap [] _ hP hD va_S.rf hl
  intro r u pc ls hn2 hKK hd H locs la hP1 hD1 hS1 hl1
  exact W.zret B.exec B.bytes B.returns hn2 (fun t ht hW => ⟨⟨r, u, rfl, hKK, by rw [ht]; exact hP1, va_K.moved hW.alike hK, hD1⟩, hS1.F ht⟩) hS1.2.2 hd B.notSynchronized
def CallH (own : String) (idx : Nat) (y : MethodName) (bytes : ByteArray) (maxL : Nat) (ret : Option FieldType) (hh : List (Nat × Nat × Nat × Nat)) (n : Nat) : Prop := GoodIn gtbl (va_wsS own idx y (wTH y bytes maxL ret hh)) ∧ (y.cls ≠ "java/lang/invoke/MethodHandle" ∧ y.cls ≠ "java/lang/invoke/VarHandle" ∧ (parseMethodDescriptor y.desc).map (fun d => d.parameters.length) = some n)
theorem callH_of {own : String} {idx : Nat} {y : MethodName} {bytes : ByteArray} {maxL : Nat} {ret : Option FieldType} {hh : List (Nat × Nat × Nat × Nat)} {n : Nat} (h1 : Cond.codeWith y bytes maxL ret hh ∈ gtbl) (h2 : Cond.methodLink own idx y ∈ gtbl) (h3 : Cond.static y ∈ gtbl) (h4 : Cond.initialized y.cls ∈ gtbl) (h5 : y.cls ≠ "java/lang/invoke/MethodHandle" ∧ y.cls ≠ "java/lang/invoke/VarHandle" ∧ (parseMethodDescriptor y.desc).map (fun d => d.parameters.length) = some n) : CallH own idx y bytes maxL ret hh n := by
  have g : ∀ w ∈ gtbl, w ∈ gtbl ∧ _ := fun w hw => ⟨hw, good_of_word (List.all_eq_true.mp gtbl_good _ hw)⟩
  refine ⟨fun w hw => ?_, h5⟩
  unfold va_wsS wTH at hw
  rcases List.mem_append.mp hw with hw | hw
  · simp only [List.mem_cons, List.not_mem_nil, or_false] at hw
    rcases hw with rfl | rfl | rfl
    · exact g _ h2
    · exact g _ h3
    · exact g _ h4
  · rcases List.mem_cons.mp hw with rfl | hw
    · exact g _ h1
    · exact g _ hw
theorem q_callSHI {D : gD} {tys : List (ClassId × FieldType)} {E : gE} {rm : Room} {cc : ByteArray} {nL : Nat} {own : String} {A : Nat → Prop} {Q : State → Prop} {cells slots : Nat} {w : va_W} {ls : List (Nat × Value)} {pc : Nat} {st rest : List Value} (C : Cx D tys E rm cc nL own A) {y : MethodName} {bytes : ByteArray} {maxL n idx : Nat} {rt : FieldType} {hh : List (Nat × Nat × Nat × Nat)} {rm' : Room} {As : List Value} {wc wr : va_W} {S : Type} {w1' : S → va_W} {K : Int32 → S → Prop}
    (hc : CtHI E.2.1 D tys y bytes maxL rt hh rm' (As) wc w1' K) (F : CallH own idx y bytes maxL (some rt) hh n) (hn : As.length = n) (hR : rm'.frames + 1 ≤ rm.frames ∧ 8 + (maxL + 11) + rm'.locals ≤ rm.locals) (hcs : cells + rm'.cells ≤ rm.cells ∧ slots + rm'.slots ≤ rm.slots) (cells' slots' : Nat) (hce : cells + rm'.cells = cells' ∧ slots + rm'.slots = slots')
    (isC isR : List Nat) (hC : isC.map (fun i => w[i]?) = wc.map some) (hRr : isR.map (fun i => w[i]?) = wr.map some) (hnd : va_nd isR = true) (hndC : va_nd isC = true) (hdis : ∀ i ∈ isR, i ∉ isC)
    (w2 : S → va_W) (ps : List Nat) (hps : va_nd ps = true) (hw2 : ∀ u, ps.map (fun i => (wr ++ w1' u)[i]?) = (w2 u).map some)
    (hst : st = As.reverse ++ rest) (hrest : (rest.map fun v => v.category).sum ≤ 8) (hd : decode cc pc = .ok (.invokestatic idx, 3))
    (kk : ∀ (r : Int32) (u : S), K r u → Go D E A Q nL cells' slots' (w2 u) ls (pc + 3) (.int r :: rest)) : Go D E A Q nL cells slots w ls pc st := by
  intro H locs la hP hD hS hl
  subst hst
  obtain ⟨rfl, rfl⟩ := hce
  have hPc : va_P D.1 vwCl wc H := hP.sub isC (fm_of_map hC)
  have hDc : va_D A wc := hD.sub isC hndC hC
  have hFc := va_free hD hS C.hA isC hC
  refine va_calli (vx_runSW (As := As) (rest := rest) ⟨C.hx, C.hb, C.hml, C.hown, C.hts⟩ (hc H.size) (vx_cwSW n C.hts F.1 rfl rfl rfl F.2 (by rw [C.hR]; exact hR)) ⟨CtP.blind, fun U hU hW => ⟨rfl, by rw [hU], by rw [hU]; exact hPc, va_K.moved hW.alike C.hK, hDc.weaken (fun _ _ _ _ => trivial), by rw [hU]; exact C.hF.warm hW hS.2.1 hFc⟩⟩ rfl hn hl.1 rfl (lv_room hrest) hd (by rw [C.hR]; exact hcs)) hS (fun q _ h => hFc q h) hFc (fun r u t H1 locs1 ht hvm hw hB hz1 hk1 hS1 => ?_)
  obtain ⟨hP1, hK1, hD1⟩ := hB
  rw [ht] at hP1
  obtain ⟨hP2, hD2⟩ := va_join hP hD isC isR hC hRr hnd hdis hk1 hFc hP1 hD1
  exact kk r u hw H1 locs1 la (hP2.sub ps (fm_of_map (hw2 u))) (hD2.sub ps hps (hw2 u)) hS1 hl
end EXC
theorem at_62_p : vx_atS RX8 62 "java/lang/IllegalStateException" exN = [12, 812, 821, 825, 828, 830, 813, 814, 32, 33, 815, 820, 826, 846, 802, 847, 804, 848, 806, 816, 818, 808, 842, 843, 845, 808, 833, 834, 835, 836, 794, 836, 837, 838, 839, 796, 839, 840, 841, 842, 798, 832, 791, 792, 799, 800, 801, 803, 805, 807, 811, 810, 809].filterMap (fun i => tables_1[i]?) := by decide +kernel
theorem at_62 : ∀ w ∈ vx_atS RX8 62 "java/lang/IllegalStateException" exN, w ∈ lw_tbl ∧ (goodWord w = true ∨ isNest w = true) := fun w hw => by
  have h1 : goodWord w = true ∨ isNest w = true := by
    have := List.all_eq_true.mp (by decide +kernel : (vx_atS RX8 62 "java/lang/IllegalStateException" exN).all (fun w => goodWord w || isNest w) = true) w hw
    exact Bool.or_eq_true _ _ ▸ this
  rw [at_62_p] at hw
  obtain ⟨i, -, hi⟩ := List.mem_filterMap.mp hw
  exact ⟨List.mem_append_right _ (List.mem_of_getElem? hi), h1⟩
theorem ot_62 : ∀ w ∈ Cond.classLink RX8 58 "java/lang/IllegalStateException" :: Cond.initialized "java/lang/IllegalStateException" :: vx_atS RX8 62 "java/lang/IllegalStateException" exN, vx_ot w = true := List.all_eq_true.mp (by decide +kernel)
theorem tw_60 : ThW RX8 "java/lang/IllegalStateException" "the tape is full" 58 60 62 := ⟨by decide +kernel, gtbl_of (List.mem_append_right _ (List.mem_of_getElem? (i := 790) (by decide +kernel))) rfl, gtbl_of (List.mem_append_right _ (List.mem_of_getElem? (i := 15) (by decide +kernel))) rfl, List.mem_append_right _ (List.mem_of_getElem? (i := 831) (by decide +kernel)), at_62, ot_62⟩
theorem tw_155 : ThW RX8 "java/lang/IllegalStateException" "not found yet" 58 155 62 := ⟨by decide +kernel, gtbl_of (List.mem_append_right _ (List.mem_of_getElem? (i := 790) (by decide +kernel))) rfl, gtbl_of (List.mem_append_right _ (List.mem_of_getElem? (i := 15) (by decide +kernel))) rfl, List.mem_append_right _ (List.mem_of_getElem? (i := 981) (by decide +kernel)), at_62, ot_62⟩
theorem tw_163 : ThW RX8 "java/lang/IllegalStateException" "crumbs have no year" 58 163 62 := ⟨by decide +kernel, gtbl_of (List.mem_append_right _ (List.mem_of_getElem? (i := 790) (by decide +kernel))) rfl, gtbl_of (List.mem_append_right _ (List.mem_of_getElem? (i := 15) (by decide +kernel))) rfl, List.mem_append_right _ (List.mem_of_getElem? (i := 997) (by decide +kernel)), at_62, ot_62⟩
theorem tw_168 : ThW RX8 "java/lang/IllegalStateException" "a coin has no empire" 58 168 62 := ⟨by decide +kernel, gtbl_of (List.mem_append_right _ (List.mem_of_getElem? (i := 790) (by decide +kernel))) rfl, gtbl_of (List.mem_append_right _ (List.mem_of_getElem? (i := 15) (by decide +kernel))) rfl, List.mem_append_right _ (List.mem_of_getElem? (i := 1005) (by decide +kernel)), at_62, ot_62⟩
theorem tw_173 : ThW RX8 "java/lang/IllegalStateException" "found already" 58 173 62 := ⟨by decide +kernel, gtbl_of (List.mem_append_right _ (List.mem_of_getElem? (i := 790) (by decide +kernel))) rfl, gtbl_of (List.mem_append_right _ (List.mem_of_getElem? (i := 15) (by decide +kernel))) rfl, List.mem_append_right _ (List.mem_of_getElem? (i := 1014) (by decide +kernel)), at_62, ot_62⟩
theorem tw_208 : ThW RX8 "java/lang/IllegalStateException" "no prop can be put here" 58 208 62 := ⟨by decide +kernel, gtbl_of (List.mem_append_right _ (List.mem_of_getElem? (i := 790) (by decide +kernel))) rfl, gtbl_of (List.mem_append_right _ (List.mem_of_getElem? (i := 15) (by decide +kernel))) rfl, List.mem_append_right _ (List.mem_of_getElem? (i := 1066) (by decide +kernel)), at_62, ot_62⟩
theorem tw_213 : ThW RX8 "java/lang/IllegalStateException" "no prop here" 58 213 62 := ⟨by decide +kernel, gtbl_of (List.mem_append_right _ (List.mem_of_getElem? (i := 790) (by decide +kernel))) rfl, gtbl_of (List.mem_append_right _ (List.mem_of_getElem? (i := 15) (by decide +kernel))) rfl, List.mem_append_right _ (List.mem_of_getElem? (i := 1079) (by decide +kernel)), at_62, ot_62⟩
theorem tw_251 : ThW RX8 "java/lang/IllegalStateException" "no cushion here" 58 251 62 := ⟨by decide +kernel, gtbl_of (List.mem_append_right _ (List.mem_of_getElem? (i := 790) (by decide +kernel))) rfl, gtbl_of (List.mem_append_right _ (List.mem_of_getElem? (i := 15) (by decide +kernel))) rfl, List.mem_append_right _ (List.mem_of_getElem? (i := 931) (by decide +kernel)), at_62, ot_62⟩
theorem at_73_p : vx_atS RX8 73 "java/lang/IllegalArgumentException" exN = [12, 812, 821, 825, 828, 830, 813, 814, 32, 33, 815, 820, 826, 846, 802, 847, 804, 848, 806, 816, 818, 808, 842, 843, 845, 808, 880, 881, 882, 836, 794, 836, 837, 838, 839, 796, 839, 840, 841, 842, 798, 879, 870, 871, 872, 823, 873, 874, 875, 876, 811, 810, 877].filterMap (fun i => tables_1[i]?) := by decide +kernel
theorem at_73 : ∀ w ∈ vx_atS RX8 73 "java/lang/IllegalArgumentException" exN, w ∈ lw_tbl ∧ (goodWord w = true ∨ isNest w = true) := fun w hw => by
  have h1 : goodWord w = true ∨ isNest w = true := by
    have := List.all_eq_true.mp (by decide +kernel : (vx_atS RX8 73 "java/lang/IllegalArgumentException" exN).all (fun w => goodWord w || isNest w) = true) w hw
    exact Bool.or_eq_true _ _ ▸ this
  rw [at_73_p] at hw
  obtain ⟨i, -, hi⟩ := List.mem_filterMap.mp hw
  exact ⟨List.mem_append_right _ (List.mem_of_getElem? hi), h1⟩
theorem ot_73 : ∀ w ∈ Cond.classLink RX8 69 "java/lang/IllegalArgumentException" :: Cond.initialized "java/lang/IllegalArgumentException" :: vx_atS RX8 73 "java/lang/IllegalArgumentException" exN, vx_ot w = true := List.all_eq_true.mp (by decide +kernel)
theorem tw_71 : ThW RX8 "java/lang/IllegalArgumentException" "not a length of the tape's beginning" 69 71 73 := ⟨by decide +kernel, gtbl_of (List.mem_append_right _ (List.mem_of_getElem? (i := 869) (by decide +kernel))) rfl, gtbl_of (List.mem_append_right _ (List.mem_of_getElem? (i := 16) (by decide +kernel))) rfl, List.mem_append_right _ (List.mem_of_getElem? (i := 878) (by decide +kernel)), at_73, ot_73⟩
theorem tw_257 : ThW RX8 "java/lang/IllegalArgumentException" "not 1 to 30 days" 69 257 73 := ⟨by decide +kernel, gtbl_of (List.mem_append_right _ (List.mem_of_getElem? (i := 869) (by decide +kernel))) rfl, gtbl_of (List.mem_append_right _ (List.mem_of_getElem? (i := 16) (by decide +kernel))) rfl, List.mem_append_right _ (List.mem_of_getElem? (i := 1095) (by decide +kernel)), at_73, ot_73⟩
theorem at_194_p : vx_atS RX8 194 "java/lang/IndexOutOfBoundsException" exN = [12, 812, 821, 825, 828, 830, 813, 814, 32, 33, 815, 820, 826, 846, 802, 847, 804, 848, 806, 816, 818, 808, 842, 843, 845, 808, 908, 909, 910, 836, 794, 836, 837, 838, 839, 796, 839, 840, 841, 842, 798, 907, 898, 899, 900, 824, 901, 902, 903, 904, 811, 810, 905].filterMap (fun i => tables_1[i]?) := by decide +kernel
theorem at_194 : ∀ w ∈ vx_atS RX8 194 "java/lang/IndexOutOfBoundsException" exN, w ∈ lw_tbl ∧ (goodWord w = true ∨ isNest w = true) := fun w hw => by
  have h1 : goodWord w = true ∨ isNest w = true := by
    have := List.all_eq_true.mp (by decide +kernel : (vx_atS RX8 194 "java/lang/IndexOutOfBoundsException" exN).all (fun w => goodWord w || isNest w) = true) w hw
    exact Bool.or_eq_true _ _ ▸ this
  rw [at_194_p] at hw
  obtain ⟨i, -, hi⟩ := List.mem_filterMap.mp hw
  exact ⟨List.mem_append_right _ (List.mem_of_getElem? hi), h1⟩
theorem ot_194 : ∀ w ∈ Cond.classLink RX8 190 "java/lang/IndexOutOfBoundsException" :: Cond.initialized "java/lang/IndexOutOfBoundsException" :: vx_atS RX8 194 "java/lang/IndexOutOfBoundsException" exN, vx_ot w = true := List.all_eq_true.mp (by decide +kernel)
theorem tw_192 : ThW RX8 "java/lang/IndexOutOfBoundsException" "no such empire" 190 192 194 := ⟨by decide +kernel, gtbl_of (List.mem_append_right _ (List.mem_of_getElem? (i := 897) (by decide +kernel))) rfl, gtbl_of (List.mem_append_right _ (List.mem_of_getElem? (i := 24) (by decide +kernel))) rfl, List.mem_append_right _ (List.mem_of_getElem? (i := 1039) (by decide +kernel)), at_194, ot_194⟩
theorem tw_249 : ThW RX8 "java/lang/IndexOutOfBoundsException" "no such seat" 190 249 194 := ⟨by decide +kernel, gtbl_of (List.mem_append_right _ (List.mem_of_getElem? (i := 897) (by decide +kernel))) rfl, gtbl_of (List.mem_append_right _ (List.mem_of_getElem? (i := 24) (by decide +kernel))) rfl, List.mem_append_right _ (List.mem_of_getElem? (i := 906) (by decide +kernel)), at_194, ot_194⟩
theorem tw_253 : ThW RX8 "java/lang/IndexOutOfBoundsException" "no such find" 190 253 194 := ⟨by decide +kernel, gtbl_of (List.mem_append_right _ (List.mem_of_getElem? (i := 897) (by decide +kernel))) rfl, gtbl_of (List.mem_append_right _ (List.mem_of_getElem? (i := 24) (by decide +kernel))) rfl, List.mem_append_right _ (List.mem_of_getElem? (i := 966) (by decide +kernel)), at_194, ot_194⟩
theorem tw_255 : ThW RX8 "java/lang/IndexOutOfBoundsException" "no such stratum" 190 255 194 := ⟨by decide +kernel, gtbl_of (List.mem_append_right _ (List.mem_of_getElem? (i := 897) (by decide +kernel))) rfl, gtbl_of (List.mem_append_right _ (List.mem_of_getElem? (i := 24) (by decide +kernel))) rfl, List.mem_append_right _ (List.mem_of_getElem? (i := 1031) (by decide +kernel)), at_194, ot_194⟩
theorem xl_8 : Cond.classLink RL 8 "SofaDig" ∈ gtbl := gtbl_of (List.mem_append_right _ (List.mem_of_getElem? (i := 26) (by decide +kernel))) rfl
theorem xl_13 : Cond.classLink RL 13 "java/lang/IllegalStateException" ∈ gtbl := gtbl_of (List.mem_append_right _ (List.mem_of_getElem? (i := 785) (by decide +kernel))) rfl
theorem xl_19 : Cond.classLink RL 19 "java/lang/IllegalArgumentException" ∈ gtbl := gtbl_of (List.mem_append_right _ (List.mem_of_getElem? (i := 864) (by decide +kernel))) rfl
theorem xl_24 : Cond.classLink RL 24 "java/lang/IndexOutOfBoundsException" ∈ gtbl := gtbl_of (List.mem_append_right _ (List.mem_of_getElem? (i := 888) (by decide +kernel))) rfl
theorem xl_95 : Cond.classLink RL 95 "SofaDigModel" ∈ gtbl := gtbl_of (List.mem_append_right _ (List.mem_of_getElem? (i := 1211) (by decide +kernel))) rfl
theorem xc_ISE : Cond.castable "java/lang/IllegalStateException" "java/lang/IllegalStateException" ∈ lw_tbl := List.mem_append_right _ (List.mem_of_getElem? (i := 792) (by decide +kernel))
theorem xc_IAE : Cond.castable "java/lang/IllegalArgumentException" "java/lang/IllegalArgumentException" ∈ lw_tbl := List.mem_append_right _ (List.mem_of_getElem? (i := 871) (by decide +kernel))
theorem xc_IOB : Cond.castable "java/lang/IndexOutOfBoundsException" "java/lang/IndexOutOfBoundsException" ∈ lw_tbl := List.mem_append_right _ (List.mem_of_getElem? (i := 899) (by decide +kernel))
theorem ch_L_feed : CallH RL 98 yL_feed cL_feed 8 (some .int) [(0, 16, 19, 13)] 7 := callH_of (gtbl_of (List.mem_append_right _ (List.mem_of_getElem? (i := 784) (by decide +kernel))) rfl) (gtbl_of (List.mem_append_right _ (List.mem_of_getElem? (i := 782) (by decide +kernel))) rfl) (gtbl_of (List.mem_append_right _ (List.mem_of_getElem? (i := 783) (by decide +kernel))) rfl) ini_L (by decide +kernel)
theorem ch_L_trim : CallH RL 108 yL_trim cL_trim 4 (some .int) [(0, 9, 12, 19)] 3 := callH_of (gtbl_of (List.mem_append_right _ (List.mem_of_getElem? (i := 863) (by decide +kernel))) rfl) (gtbl_of (List.mem_append_right _ (List.mem_of_getElem? (i := 861) (by decide +kernel))) rfl) (gtbl_of (List.mem_append_right _ (List.mem_of_getElem? (i := 862) (by decide +kernel))) rfl) ini_L (by decide +kernel)
theorem ch_L_heightOf : CallH RL 160 yL_heightOf cL_heightOf 4 (some .int) [(0, 9, 12, 24)] 3 := callH_of (gtbl_of (List.mem_append_right _ (List.mem_of_getElem? (i := 887) (by decide +kernel))) rfl) (gtbl_of (List.mem_append_right _ (List.mem_of_getElem? (i := 885) (by decide +kernel))) rfl) (gtbl_of (List.mem_append_right _ (List.mem_of_getElem? (i := 886) (by decide +kernel))) rfl) ini_L (by decide +kernel)
theorem ch_L_isPropped : CallH RL 163 yL_isPropped cL_isPropped 4 (some .int) [(0, 16, 19, 24)] 3 := callH_of (gtbl_of (List.mem_append_right _ (List.mem_of_getElem? (i := 915) (by decide +kernel))) rfl) (gtbl_of (List.mem_append_right _ (List.mem_of_getElem? (i := 913) (by decide +kernel))) rfl) (gtbl_of (List.mem_append_right _ (List.mem_of_getElem? (i := 914) (by decide +kernel))) rfl) ini_L (by decide +kernel)
theorem ch_L_topStratum : CallH RL 166 yL_topStratum cL_topStratum 4 (some .int) [(0, 9, 12, 24), (0, 9, 15, 13)] 3 := callH_of (gtbl_of (List.mem_append_right _ (List.mem_of_getElem? (i := 922) (by decide +kernel))) rfl) (gtbl_of (List.mem_append_right _ (List.mem_of_getElem? (i := 920) (by decide +kernel))) rfl) (gtbl_of (List.mem_append_right _ (List.mem_of_getElem? (i := 921) (by decide +kernel))) rfl) ini_L (by decide +kernel)
theorem ch_L_isTopLoose : CallH RL 169 yL_isTopLoose cL_isTopLoose 4 (some .int) [(0, 16, 19, 24), (0, 16, 22, 13)] 3 := callH_of (gtbl_of (List.mem_append_right _ (List.mem_of_getElem? (i := 934) (by decide +kernel))) rfl) (gtbl_of (List.mem_append_right _ (List.mem_of_getElem? (i := 932) (by decide +kernel))) rfl) (gtbl_of (List.mem_append_right _ (List.mem_of_getElem? (i := 933) (by decide +kernel))) rfl) ini_L (by decide +kernel)
theorem ch_L_hasTopSpring : CallH RL 172 yL_hasTopSpring cL_hasTopSpring 4 (some .int) [(0, 16, 19, 24), (0, 16, 22, 13)] 3 := callH_of (gtbl_of (List.mem_append_right _ (List.mem_of_getElem? (i := 942) (by decide +kernel))) rfl) (gtbl_of (List.mem_append_right _ (List.mem_of_getElem? (i := 940) (by decide +kernel))) rfl) (gtbl_of (List.mem_append_right _ (List.mem_of_getElem? (i := 941) (by decide +kernel))) rfl) ini_L (by decide +kernel)
theorem ch_L_findsLeft : CallH RL 175 yL_findsLeft cL_findsLeft 4 (some .int) [(0, 9, 12, 24)] 3 := callH_of (gtbl_of (List.mem_append_right _ (List.mem_of_getElem? (i := 950) (by decide +kernel))) rfl) (gtbl_of (List.mem_append_right _ (List.mem_of_getElem? (i := 948) (by decide +kernel))) rfl) (gtbl_of (List.mem_append_right _ (List.mem_of_getElem? (i := 949) (by decide +kernel))) rfl) ini_L (by decide +kernel)
theorem ch_L_isCoin : CallH RL 178 yL_isCoin cL_isCoin 4 (some .int) [(0, 16, 19, 24)] 3 := callH_of (gtbl_of (List.mem_append_right _ (List.mem_of_getElem? (i := 957) (by decide +kernel))) rfl) (gtbl_of (List.mem_append_right _ (List.mem_of_getElem? (i := 955) (by decide +kernel))) rfl) (gtbl_of (List.mem_append_right _ (List.mem_of_getElem? (i := 956) (by decide +kernel))) rfl) ini_L (by decide +kernel)
theorem ch_L_isFound : CallH RL 181 yL_isFound cL_isFound 4 (some .int) [(0, 16, 19, 24)] 3 := callH_of (gtbl_of (List.mem_append_right _ (List.mem_of_getElem? (i := 969) (by decide +kernel))) rfl) (gtbl_of (List.mem_append_right _ (List.mem_of_getElem? (i := 967) (by decide +kernel))) rfl) (gtbl_of (List.mem_append_right _ (List.mem_of_getElem? (i := 968) (by decide +kernel))) rfl) ini_L (by decide +kernel)
theorem ch_L_isSure : CallH RL 184 yL_isSure cL_isSure 4 (some .int) [(0, 16, 19, 24), (0, 16, 22, 13)] 3 := callH_of (gtbl_of (List.mem_append_right _ (List.mem_of_getElem? (i := 976) (by decide +kernel))) rfl) (gtbl_of (List.mem_append_right _ (List.mem_of_getElem? (i := 974) (by decide +kernel))) rfl) (gtbl_of (List.mem_append_right _ (List.mem_of_getElem? (i := 975) (by decide +kernel))) rfl) ini_L (by decide +kernel)
theorem ch_L_stratumOf : CallH RL 187 yL_stratumOf cL_stratumOf 4 (some .int) [(0, 9, 12, 24)] 3 := callH_of (gtbl_of (List.mem_append_right _ (List.mem_of_getElem? (i := 984) (by decide +kernel))) rfl) (gtbl_of (List.mem_append_right _ (List.mem_of_getElem? (i := 982) (by decide +kernel))) rfl) (gtbl_of (List.mem_append_right _ (List.mem_of_getElem? (i := 983) (by decide +kernel))) rfl) ini_L (by decide +kernel)
theorem ch_L_yearOf : CallH RL 190 yL_yearOf cL_yearOf 4 (some .int) [(0, 9, 12, 24), (0, 9, 15, 13)] 3 := callH_of (gtbl_of (List.mem_append_right _ (List.mem_of_getElem? (i := 992) (by decide +kernel))) rfl) (gtbl_of (List.mem_append_right _ (List.mem_of_getElem? (i := 990) (by decide +kernel))) rfl) (gtbl_of (List.mem_append_right _ (List.mem_of_getElem? (i := 991) (by decide +kernel))) rfl) ini_L (by decide +kernel)
theorem ch_L_empireOf : CallH RL 193 yL_empireOf cL_empireOf 4 (some .int) [(0, 9, 12, 24), (0, 9, 15, 13)] 3 := callH_of (gtbl_of (List.mem_append_right _ (List.mem_of_getElem? (i := 1000) (by decide +kernel))) rfl) (gtbl_of (List.mem_append_right _ (List.mem_of_getElem? (i := 998) (by decide +kernel))) rfl) (gtbl_of (List.mem_append_right _ (List.mem_of_getElem? (i := 999) (by decide +kernel))) rfl) ini_L (by decide +kernel)
theorem ch_L_buriedUnder : CallH RL 196 yL_buriedUnder cL_buriedUnder 4 (some .int) [(0, 9, 12, 24), (0, 9, 15, 13)] 3 := callH_of (gtbl_of (List.mem_append_right _ (List.mem_of_getElem? (i := 1009) (by decide +kernel))) rfl) (gtbl_of (List.mem_append_right _ (List.mem_of_getElem? (i := 1007) (by decide +kernel))) rfl) (gtbl_of (List.mem_append_right _ (List.mem_of_getElem? (i := 1008) (by decide +kernel))) rfl) ini_L (by decide +kernel)
theorem ch_L_notBefore : CallH RL 199 yL_notBefore cL_notBefore 4 (some .int) [(0, 9, 12, 24)] 3 := callH_of (gtbl_of (List.mem_append_right _ (List.mem_of_getElem? (i := 1022) (by decide +kernel))) rfl) (gtbl_of (List.mem_append_right _ (List.mem_of_getElem? (i := 1020) (by decide +kernel))) rfl) (gtbl_of (List.mem_append_right _ (List.mem_of_getElem? (i := 1021) (by decide +kernel))) rfl) ini_L (by decide +kernel)
theorem ch_L_isSeenIn : CallH RL 202 yL_isSeenIn cL_isSeenIn 5 (some .int) [(0, 17, 20, 24)] 4 := callH_of (gtbl_of (List.mem_append_right _ (List.mem_of_getElem? (i := 1034) (by decide +kernel))) rfl) (gtbl_of (List.mem_append_right _ (List.mem_of_getElem? (i := 1032) (by decide +kernel))) rfl) (gtbl_of (List.mem_append_right _ (List.mem_of_getElem? (i := 1033) (by decide +kernel))) rfl) ini_L (by decide +kernel)
theorem ch_L_isMixed : CallH RL 206 yL_isMixed cL_isMixed 4 (some .int) [(0, 16, 19, 24)] 3 := callH_of (gtbl_of (List.mem_append_right _ (List.mem_of_getElem? (i := 1043) (by decide +kernel))) rfl) (gtbl_of (List.mem_append_right _ (List.mem_of_getElem? (i := 1041) (by decide +kernel))) rfl) (gtbl_of (List.mem_append_right _ (List.mem_of_getElem? (i := 1042) (by decide +kernel))) rfl) ini_L (by decide +kernel)
theorem ch_L_dig : CallH RL 209 yL_dig cL_dig 4 (some .int) [(0, 9, 12, 24), (0, 9, 15, 13)] 3 := callH_of (gtbl_of (List.mem_append_right _ (List.mem_of_getElem? (i := 1050) (by decide +kernel))) rfl) (gtbl_of (List.mem_append_right _ (List.mem_of_getElem? (i := 1048) (by decide +kernel))) rfl) (gtbl_of (List.mem_append_right _ (List.mem_of_getElem? (i := 1049) (by decide +kernel))) rfl) ini_L (by decide +kernel)
theorem ch_L_prop : CallH RL 212 yL_prop cL_prop 4 (some .int) [(0, 9, 12, 24), (0, 9, 15, 13)] 3 := callH_of (gtbl_of (List.mem_append_right _ (List.mem_of_getElem? (i := 1057) (by decide +kernel))) rfl) (gtbl_of (List.mem_append_right _ (List.mem_of_getElem? (i := 1055) (by decide +kernel))) rfl) (gtbl_of (List.mem_append_right _ (List.mem_of_getElem? (i := 1056) (by decide +kernel))) rfl) ini_L (by decide +kernel)
theorem ch_L_takeProp : CallH RL 215 yL_takeProp cL_takeProp 4 (some .int) [(0, 9, 12, 24), (0, 9, 15, 13)] 3 := callH_of (gtbl_of (List.mem_append_right _ (List.mem_of_getElem? (i := 1074) (by decide +kernel))) rfl) (gtbl_of (List.mem_append_right _ (List.mem_of_getElem? (i := 1072) (by decide +kernel))) rfl) (gtbl_of (List.mem_append_right _ (List.mem_of_getElem? (i := 1073) (by decide +kernel))) rfl) ini_L (by decide +kernel)
theorem ch_L_passDays : CallH RL 218 yL_passDays cL_passDays 4 (some .int) [(0, 9, 12, 19)] 3 := callH_of (gtbl_of (List.mem_append_right _ (List.mem_of_getElem? (i := 1086) (by decide +kernel))) rfl) (gtbl_of (List.mem_append_right _ (List.mem_of_getElem? (i := 1084) (by decide +kernel))) rfl) (gtbl_of (List.mem_append_right _ (List.mem_of_getElem? (i := 1085) (by decide +kernel))) rfl) ini_L (by decide +kernel)
theorem ch_L_foundAfter : CallH RL 221 yL_foundAfter cL_foundAfter 4 (some .int) [(0, 9, 12, 19)] 3 := callH_of (gtbl_of (List.mem_append_right _ (List.mem_of_getElem? (i := 1192) (by decide +kernel))) rfl) (gtbl_of (List.mem_append_right _ (List.mem_of_getElem? (i := 1190) (by decide +kernel))) rfl) (gtbl_of (List.mem_append_right _ (List.mem_of_getElem? (i := 1191) (by decide +kernel))) rfl) ini_L (by decide +kernel)
theorem ch_L_daysUntilFound : CallH RL 224 yL_daysUntilFound cL_daysUntilFound 4 (some .int) [(0, 9, 12, 24)] 3 := callH_of (gtbl_of (List.mem_append_right _ (List.mem_of_getElem? (i := 1199) (by decide +kernel))) rfl) (gtbl_of (List.mem_append_right _ (List.mem_of_getElem? (i := 1197) (by decide +kernel))) rfl) (gtbl_of (List.mem_append_right _ (List.mem_of_getElem? (i := 1198) (by decide +kernel))) rfl) ini_L (by decide +kernel)
theorem ch_L_wouldSlide : CallH RL 227 yL_wouldSlide cL_wouldSlide 4 (some .int) [(0, 9, 12, 24), (0, 9, 15, 13)] 3 := callH_of (gtbl_of (List.mem_append_right _ (List.mem_of_getElem? (i := 1206) (by decide +kernel))) rfl) (gtbl_of (List.mem_append_right _ (List.mem_of_getElem? (i := 1204) (by decide +kernel))) rfl) (gtbl_of (List.mem_append_right _ (List.mem_of_getElem? (i := 1205) (by decide +kernel))) rfl) ini_L (by decide +kernel)
