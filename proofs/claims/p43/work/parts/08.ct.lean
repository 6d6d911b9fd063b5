/-! Contracts over worlds, and their calls. -/
section CT
def wT (y : MethodName) (cc : ByteArray) (nL : Nat) (ret : Option FieldType) : List Cond := Cond.code y cc nL ret :: gtbl
theorem wT_good {y : MethodName} {cc : ByteArray} {nL : Nat} {ret : Option FieldType} (h : Cond.code y cc nL ret ∈ gtbl) : GoodIn gtbl (wT y cc nL ret) := fun w hw => by
  rcases List.mem_cons.mp hw with rfl | hm
  · exact ⟨h, good_of_word (List.all_eq_true.mp gtbl_good _ h)⟩
  · exact ⟨hm, good_of_word (List.all_eq_true.mp gtbl_good _ hm)⟩
theorem fm_of_map {w w' : va_W} {is : List Nat} (hs : is.map (fun i => w[i]?) = w'.map some) : is.filterMap (fun i => w[i]?) = w' := by
  have h1 : is.filterMap (fun i => w[i]?) = (is.map (fun i => w[i]?)).filterMap id := by rw [List.filterMap_map]; rfl
  rw [h1, hs, List.filterMap_map]
  simp
theorem Met.ofWF {l : Launch} {y : MethodName} {ws ws' : List Cond} {rm : Room} {Pc : Array Value → State → Prop} {Qc : Array Value → State → Outcome → State → Prop} {mc ms : Nat} {free : Addr → Prop} {cc : ByteArray} {maxL : Nat} {ret : Option FieldType}
    (hy : plainFor y = true) (hw : ws = Cond.code y cc maxL ret :: ws')
    (body : ∀ p e s m args below meth c s₁, BodyLoose p l y (headSpec ws rm) cc maxL ret e s m args below meth c s₁ → c.maxLocals = maxL → Pc args s →
      W p l e (headSpec ws rm).room s m args below meth c s.heap [] 0 0 (MQ below Qc args s mc ms free) (entryFrame m args maxL)) : Met l y ws rm Pc Qc mc ms free := by
  refine MetFree.of_bodySF (code := cc) (maxLocals := maxL) (ret := ret) hy ?_ ?_
  · intro args s m h hn
    obtain ⟨meth, c, h1, h2, h3, h4, h5, h6, -, -⟩ := Cond.code_spec hn (atoms_spec (ws := ws) h _ (by rw [hw]; exact List.mem_cons_self))
    exact ⟨meth, c, h1, h2, h3, h4, h5, h6⟩
  · intro p e s m args below meth c s₁ B hml hP _
    have hh0 : s₁.heap = s.heap := by rw [B.state]; rfl
    obtain ⟨t, a1, o, b1, b2, b3⟩ := body p e s m args below meth c s₁ B hml hP s₁ hh0 (Stand.of_body B)
    exact ⟨t, o, a1, b1, b2, ⟨b3.1, b3.2⟩⟩
def CtP (D : gD) (tys : List (ClassId × FieldType)) (av : List Value) (w : va_W) (sz : Nat) : Array Value → State → Prop := va_Pc av (fun U => U.heap.size = sz ∧ va_P D.1 vwCl w U.heap ∧ va_K D.1 vwCl tys U ∧ va_D (fun _ => True) w ∧ SF D.2 (va_A w sz) U U.heap)
def CtB (D : gD) (tys : List (ClassId × FieldType)) (w : va_W) {S : Type} (w' : S → va_W) (sz : Nat) : S → State → Prop := fun u t => va_P D.1 vwCl (w' u) t.heap ∧ va_K D.1 vwCl tys t ∧ va_D (va_A w sz) (w' u)
theorem CtP.blind {D : gD} {tys : List (ClassId × FieldType)} {av : List Value} {w : va_W} {sz : Nat} : FrameBlind (CtP D tys av w sz) := fun a U g mk q => by
  obtain ⟨q0, q1, qP, qK, qD, qF⟩ := q
  exact ⟨q0, q1, qP, va_K.moved (u := U) (U := U.calling g mk a) (Vm.Alike.refl U.vm) qK, qD, SF.same (u := U) (U := U.calling g mk a) qF rfl⟩
def CtI (l : Launch) (D : gD) (tys : List (ClassId × FieldType)) (y : MethodName) (cc : ByteArray) (nL : Nat) (rt : FieldType) (rm : Room) (av : List Value) (w : va_W) {S : Type} (w' : S → va_W) (K : Int32 → S → Prop) : Prop :=
  ∀ sz : Nat, Met l y (wT y cc nL (some rt)) rm (CtP D tys av w sz) (va_Qi K (CtB D tys w w' sz) (va_A w sz)) rm.cells rm.slots (va_A w sz)
theorem ct_startI {l : Launch} {D : gD} {tys : List (ClassId × FieldType)} {y : MethodName} {cc : ByteArray} {nL : Nat} {rt : FieldType} {rm : Room} {av : List Value} {w : va_W} {S : Type} {w' : S → va_W} {K : Int32 → S → Prop} (hy : plainFor y = true) (hn : (lg_sl av).length ≤ nL)
    (body : ∀ (E : gE) (A : Nat → Prop) (Q : State → Prop), E.2.1 = l → Cx D tys E rm cc nL y.cls A → (∀ (r : Int32) (u : S) (pc : Nat) (ls : List (Nat × Value)), narrow rt (.int r) = .int r → K r u → decode cc pc = .ok (.ireturn, 1) → Go D E A Q nL rm.cells rm.slots (w' u) ls pc [.int r]) → Go D E A Q nL 0 0 w (lv_args 0 av) 0 []) : CtI l D tys y cc nL rt rm av w w' K := by
  intro sz
  refine Met.ofWF (cc := cc) (maxL := nL) (ret := (some rt)) hy rfl ?_
  intro p e s m args below meth c s₁ B hml hv
  obtain ⟨rfl, hsz, hP, hK, hD0, hF⟩ := hv
  subst hsz
  have hts := atoms_spec (ws := wT y cc nL (some rt)) B.pre
  have hD := hD0.self (sz := s.heap.size)
  have hl := lv_entry av (n := nL) hn
  rw [lg_entry_eq]
  refine body (p, l, e, (headSpec (wT y cc nL (some rt)) rm).room, s, m, av.toArray, below, meth, c) (va_A w s.heap.size) (MQ below _ av.toArray s rm.cells rm.slots (va_A w s.heap.size)) rfl ⟨B.exec, B.bytes, hml, findClass_of_methodNamed B.named, fun w hw => hts w (List.mem_cons_of_mem _ hw), hK, fun q h => Or.inr h, rfl, hF⟩ ?_ s.heap [] _ hP hD va_S.rf hl
  intro r u pc ls hn2 hKK hd H locs la hP1 hD1 hS1 hl1
  exact W.zret B.exec B.bytes B.returns hn2 (fun t ht hW => ⟨⟨r, u, rfl, hKK, by rw [ht]; exact hP1, va_K.moved hW.alike hK, hD1⟩, hS1.F ht⟩) hS1.2.2 hd B.notSynchronized
theorem q_callVI {D : gD} {tys : List (ClassId × FieldType)} {E : gE} {rm : Room} {cc : ByteArray} {nL : Nat} {own : String} {A : Nat → Prop} {Q : State → Prop} {cells slots : Nat} {w : va_W} {ls : List (Nat × Value)} {pc : Nat} {st rest : List Value} (C : Cx D tys E rm cc nL own A) {y : MethodName} {bytes : ByteArray} {maxL n idx : Nat} {rt : FieldType} {rm' : Room} {As : List Value} {wc wr : va_W} {S : Type} {w1' : S → va_W} {K : Int32 → S → Prop} {b : Nat}
    (hc : CtI E.2.1 D tys y bytes maxL rt rm' (.ref b :: As) wc w1' K) (F : CallF own idx y bytes maxL (some rt) n) (hi : Cond.instanceMethod y ∈ gtbl) (hs : Cond.selects y.cls y y ∈ gtbl) (ci : Nat) {q : vw_C} {fs : List Value} (hci : vwCl[ci]? = some q) (hq : q.1 = y.cls) (hb : wc[0]? = some (b, .inr (ci, fs))) (hn : As.length = n) (hR : rm'.frames + 1 ≤ rm.frames ∧ 8 + (maxL + 11) + rm'.locals ≤ rm.locals) (hcs : cells + rm'.cells ≤ rm.cells ∧ slots + rm'.slots ≤ rm.slots) (cells' slots' : Nat) (hce : cells + rm'.cells = cells' ∧ slots + rm'.slots = slots')
    (isC isR : List Nat) (hC : isC.map (fun i => w[i]?) = wc.map some) (hRr : isR.map (fun i => w[i]?) = wr.map some) (hnd : va_nd isR = true) (hndC : va_nd isC = true) (hdis : ∀ i ∈ isR, i ∉ isC)
    (w2 : S → va_W) (ps : List Nat) (hps : va_nd ps = true) (hw2 : ∀ u, ps.map (fun i => (wr ++ w1' u)[i]?) = (w2 u).map some)
    (hst : st = As.reverse ++ .ref b :: rest) (hrest : (rest.map fun v => v.category).sum ≤ 8) (hd : decode cc pc = .ok (.invokevirtual idx, 3))
    (kk : ∀ (r : Int32) (u : S), K r u → Go D E A Q nL cells' slots' (w2 u) ls (pc + 3) (.int r :: rest)) : Go D E A Q nL cells slots w ls pc st := by
  intro H locs la hP hD hS hl
  subst hst
  obtain ⟨rfl, rfl⟩ := hce
  have hPc : va_P D.1 vwCl wc H := hP.sub isC (fm_of_map hC)
  have hDc : va_D A wc := hD.sub isC hndC hC
  have hFc := va_free hD hS C.hA isC hC
  refine va_calli (va_runV (As := As) (rest := rest) ⟨C.hx, C.hb, C.hml, C.hown, C.hts⟩ (hc H.size) ⟨callB_of n C.hts (wT_good F.1) rfl rfl rfl (C.hts _ F.2.2.1) (C.hts _ F.2.1) F.2.2.2 (by rw [C.hR]; exact hR), C.hts _ hi, C.hts _ hs⟩ ⟨CtP.blind, by rw [← hq]; exact va_recv C.hK hPc hci hb, fun U hU hW => ⟨rfl, by rw [hU], by rw [hU]; exact hPc, va_K.moved hW.alike C.hK, hDc.weaken (fun _ _ _ _ => trivial), by rw [hU]; exact C.hF.warm hW hS.2.1 hFc⟩⟩ rfl hn hl.1 rfl (lv_room hrest) hd (by rw [C.hR]; exact hcs)) hS (fun q _ h => hFc q h) hFc (fun r u t H1 locs1 ht hvm hw hB hz1 hk1 hS1 => ?_)
  obtain ⟨hP1, hK1, hD1⟩ := hB
  rw [ht] at hP1
  obtain ⟨hP2, hD2⟩ := va_join hP hD isC isR hC hRr hnd hdis hk1 hFc hP1 hD1
  exact kk r u hw H1 locs1 la (hP2.sub ps (fm_of_map (hw2 u))) (hD2.sub ps hps (hw2 u)) hS1 hl
theorem q_callSI {D : gD} {tys : List (ClassId × FieldType)} {E : gE} {rm : Room} {cc : ByteArray} {nL : Nat} {own : String} {A : Nat → Prop} {Q : State → Prop} {cells slots : Nat} {w : va_W} {ls : List (Nat × Value)} {pc : Nat} {st rest : List Value} (C : Cx D tys E rm cc nL own A) {y : MethodName} {bytes : ByteArray} {maxL n idx : Nat} {rt : FieldType} {rm' : Room} {As : List Value} {wc wr : va_W} {S : Type} {w1' : S → va_W} {K : Int32 → S → Prop}
    (hc : CtI E.2.1 D tys y bytes maxL rt rm' (As) wc w1' K) (F : CallF own idx y bytes maxL (some rt) n) (hi : Cond.static y ∈ gtbl) (hn : As.length = n) (hR : rm'.frames + 1 ≤ rm.frames ∧ 8 + (maxL + 11) + rm'.locals ≤ rm.locals) (hcs : cells + rm'.cells ≤ rm.cells ∧ slots + rm'.slots ≤ rm.slots) (cells' slots' : Nat) (hce : cells + rm'.cells = cells' ∧ slots + rm'.slots = slots')
    (isC isR : List Nat) (hC : isC.map (fun i => w[i]?) = wc.map some) (hRr : isR.map (fun i => w[i]?) = wr.map some) (hnd : va_nd isR = true) (hndC : va_nd isC = true) (hdis : ∀ i ∈ isR, i ∉ isC)
    (w2 : S → va_W) (ps : List Nat) (hps : va_nd ps = true) (hw2 : ∀ u, ps.map (fun i => (wr ++ w1' u)[i]?) = (w2 u).map some)
    (hst : st = As.reverse ++ rest) (hrest : (rest.map fun v => v.category).sum ≤ 8) (hd : decode cc pc = .ok (.invokestatic idx, 3))
    (kk : ∀ (r : Int32) (u : S), K r u → Go D E A Q nL cells' slots' (w2 u) ls (pc + 3) (.int r :: rest)) : Go D E A Q nL cells slots w ls pc st := by
  intro H locs la hP hD hS hl
  subst hst
  obtain ⟨rfl, rfl⟩ := hce
  have hPc : va_P D.1 vwCl wc H := hP.sub isC (fm_of_map hC)
  have hDc : va_D A wc := hD.sub isC hndC hC
  have hFc := va_free hD hS C.hA isC hC
  refine va_calli (va_runS (As := As) (rest := rest) ⟨C.hx, C.hb, C.hml, C.hown, C.hts⟩ (hc H.size) ⟨callB_of n C.hts (wT_good F.1) rfl rfl rfl (C.hts _ F.2.2.1) (C.hts _ F.2.1) F.2.2.2 (by rw [C.hR]; exact hR), C.hts _ hi⟩ ⟨CtP.blind, fun U hU hW => ⟨rfl, by rw [hU], by rw [hU]; exact hPc, va_K.moved hW.alike C.hK, hDc.weaken (fun _ _ _ _ => trivial), by rw [hU]; exact C.hF.warm hW hS.2.1 hFc⟩⟩ rfl hn hl.1 rfl (lv_room hrest) hd (by rw [C.hR]; exact hcs)) hS (fun q _ h => hFc q h) hFc (fun r u t H1 locs1 ht hvm hw hB hz1 hk1 hS1 => ?_)
  obtain ⟨hP1, hK1, hD1⟩ := hB
  rw [ht] at hP1
  obtain ⟨hP2, hD2⟩ := va_join hP hD isC isR hC hRr hnd hdis hk1 hFc hP1 hD1
  exact kk r u hw H1 locs1 la (hP2.sub ps (fm_of_map (hw2 u))) (hD2.sub ps hps (hw2 u)) hS1 hl
def CtL (l : Launch) (D : gD) (tys : List (ClassId × FieldType)) (y : MethodName) (cc : ByteArray) (nL : Nat)  (rm : Room) (av : List Value) (w : va_W) {S : Type} (w' : S → va_W) (K : Int64 → S → Prop) : Prop :=
  ∀ sz : Nat, Met l y (wT y cc nL (some .long)) rm (CtP D tys av w sz) (va_Ql K (CtB D tys w w' sz) (va_A w sz)) rm.cells rm.slots (va_A w sz)
theorem ct_startL {l : Launch} {D : gD} {tys : List (ClassId × FieldType)} {y : MethodName} {cc : ByteArray} {nL : Nat} {rm : Room} {av : List Value} {w : va_W} {S : Type} {w' : S → va_W} {K : Int64 → S → Prop} (hy : plainFor y = true) (hn : (lg_sl av).length ≤ nL)
    (body : ∀ (E : gE) (A : Nat → Prop) (Q : State → Prop), E.2.1 = l → Cx D tys E rm cc nL y.cls A → (∀ (r : Int64) (u : S) (pc : Nat) (ls : List (Nat × Value)), K r u → decode cc pc = .ok (.lreturn, 1) → Go D E A Q nL rm.cells rm.slots (w' u) ls pc [.long r]) → Go D E A Q nL 0 0 w (lv_args 0 av) 0 []) : CtL l D tys y cc nL rm av w w' K := by
  intro sz
  refine Met.ofWF (cc := cc) (maxL := nL) (ret := (some .long)) hy rfl ?_
  intro p e s m args below meth c s₁ B hml hv
  obtain ⟨rfl, hsz, hP, hK, hD0, hF⟩ := hv
  subst hsz
  have hts := atoms_spec (ws := wT y cc nL (some .long)) B.pre
  have hD := hD0.self (sz := s.heap.size)
  have hl := lv_entry av (n := nL) hn
  rw [lg_entry_eq]
  refine body (p, l, e, (headSpec (wT y cc nL (some .long)) rm).room, s, m, av.toArray, below, meth, c) (va_A w s.heap.size) (MQ below _ av.toArray s rm.cells rm.slots (va_A w s.heap.size)) rfl ⟨B.exec, B.bytes, hml, findClass_of_methodNamed B.named, fun w hw => hts w (List.mem_cons_of_mem _ hw), hK, fun q h => Or.inr h, rfl, hF⟩ ?_ s.heap [] _ hP hD va_S.rf hl
  intro r u pc ls hKK hd H locs la hP1 hD1 hS1 hl1
  exact W.lret B.exec B.bytes B.returns (fun t ht hW => ⟨⟨r, u, rfl, hKK, by rw [ht]; exact hP1, va_K.moved hW.alike hK, hD1⟩, hS1.F ht⟩) hS1.2.2 hd B.notSynchronized
theorem q_callVL {D : gD} {tys : List (ClassId × FieldType)} {E : gE} {rm : Room} {cc : ByteArray} {nL : Nat} {own : String} {A : Nat → Prop} {Q : State → Prop} {cells slots : Nat} {w : va_W} {ls : List (Nat × Value)} {pc : Nat} {st rest : List Value} (C : Cx D tys E rm cc nL own A) {y : MethodName} {bytes : ByteArray} {maxL n idx : Nat} {rm' : Room} {As : List Value} {wc wr : va_W} {S : Type} {w1' : S → va_W} {K : Int64 → S → Prop} {b : Nat}
    (hc : CtL E.2.1 D tys y bytes maxL rm' (.ref b :: As) wc w1' K) (F : CallF own idx y bytes maxL (some .long) n) (hi : Cond.instanceMethod y ∈ gtbl) (hs : Cond.selects y.cls y y ∈ gtbl) (ci : Nat) {q : vw_C} {fs : List Value} (hci : vwCl[ci]? = some q) (hq : q.1 = y.cls) (hb : wc[0]? = some (b, .inr (ci, fs))) (hn : As.length = n) (hR : rm'.frames + 1 ≤ rm.frames ∧ 8 + (maxL + 11) + rm'.locals ≤ rm.locals) (hcs : cells + rm'.cells ≤ rm.cells ∧ slots + rm'.slots ≤ rm.slots) (cells' slots' : Nat) (hce : cells + rm'.cells = cells' ∧ slots + rm'.slots = slots')
    (isC isR : List Nat) (hC : isC.map (fun i => w[i]?) = wc.map some) (hRr : isR.map (fun i => w[i]?) = wr.map some) (hnd : va_nd isR = true) (hndC : va_nd isC = true) (hdis : ∀ i ∈ isR, i ∉ isC)
    (w2 : S → va_W) (ps : List Nat) (hps : va_nd ps = true) (hw2 : ∀ u, ps.map (fun i => (wr ++ w1' u)[i]?) = (w2 u).map some)
    (hst : st = As.reverse ++ .ref b :: rest) (hrest : (rest.map fun v => v.category).sum ≤ 8) (hd : decode cc pc = .ok (.invokevirtual idx, 3))
    (kk : ∀ (r : Int64) (u : S), K r u → Go D E A Q nL cells' slots' (w2 u) ls (pc + 3) (.long r :: rest)) : Go D E A Q nL cells slots w ls pc st := by
  intro H locs la hP hD hS hl
  subst hst
  obtain ⟨rfl, rfl⟩ := hce
  have hPc : va_P D.1 vwCl wc H := hP.sub isC (fm_of_map hC)
  have hDc : va_D A wc := hD.sub isC hndC hC
  have hFc := va_free hD hS C.hA isC hC
  refine va_calll (va_runV (As := As) (rest := rest) ⟨C.hx, C.hb, C.hml, C.hown, C.hts⟩ (hc H.size) ⟨callB_of n C.hts (wT_good F.1) rfl rfl rfl (C.hts _ F.2.2.1) (C.hts _ F.2.1) F.2.2.2 (by rw [C.hR]; exact hR), C.hts _ hi, C.hts _ hs⟩ ⟨CtP.blind, by rw [← hq]; exact va_recv C.hK hPc hci hb, fun U hU hW => ⟨rfl, by rw [hU], by rw [hU]; exact hPc, va_K.moved hW.alike C.hK, hDc.weaken (fun _ _ _ _ => trivial), by rw [hU]; exact C.hF.warm hW hS.2.1 hFc⟩⟩ rfl hn hl.1 rfl (lv_room hrest) hd (by rw [C.hR]; exact hcs)) hS (fun q _ h => hFc q h) hFc (fun r u t H1 locs1 ht hvm hw hB hz1 hk1 hS1 => ?_)
  obtain ⟨hP1, hK1, hD1⟩ := hB
  rw [ht] at hP1
  obtain ⟨hP2, hD2⟩ := va_join hP hD isC isR hC hRr hnd hdis hk1 hFc hP1 hD1
  exact kk r u hw H1 locs1 la (hP2.sub ps (fm_of_map (hw2 u))) (hD2.sub ps hps (hw2 u)) hS1 hl
theorem q_callSL {D : gD} {tys : List (ClassId × FieldType)} {E : gE} {rm : Room} {cc : ByteArray} {nL : Nat} {own : String} {A : Nat → Prop} {Q : State → Prop} {cells slots : Nat} {w : va_W} {ls : List (Nat × Value)} {pc : Nat} {st rest : List Value} (C : Cx D tys E rm cc nL own A) {y : MethodName} {bytes : ByteArray} {maxL n idx : Nat} {rm' : Room} {As : List Value} {wc wr : va_W} {S : Type} {w1' : S → va_W} {K : Int64 → S → Prop}
    (hc : CtL E.2.1 D tys y bytes maxL rm' (As) wc w1' K) (F : CallF own idx y bytes maxL (some .long) n) (hi : Cond.static y ∈ gtbl) (hn : As.length = n) (hR : rm'.frames + 1 ≤ rm.frames ∧ 8 + (maxL + 11) + rm'.locals ≤ rm.locals) (hcs : cells + rm'.cells ≤ rm.cells ∧ slots + rm'.slots ≤ rm.slots) (cells' slots' : Nat) (hce : cells + rm'.cells = cells' ∧ slots + rm'.slots = slots')
    (isC isR : List Nat) (hC : isC.map (fun i => w[i]?) = wc.map some) (hRr : isR.map (fun i => w[i]?) = wr.map some) (hnd : va_nd isR = true) (hndC : va_nd isC = true) (hdis : ∀ i ∈ isR, i ∉ isC)
    (w2 : S → va_W) (ps : List Nat) (hps : va_nd ps = true) (hw2 : ∀ u, ps.map (fun i => (wr ++ w1' u)[i]?) = (w2 u).map some)
    (hst : st = As.reverse ++ rest) (hrest : (rest.map fun v => v.category).sum ≤ 8) (hd : decode cc pc = .ok (.invokestatic idx, 3))
    (kk : ∀ (r : Int64) (u : S), K r u → Go D E A Q nL cells' slots' (w2 u) ls (pc + 3) (.long r :: rest)) : Go D E A Q nL cells slots w ls pc st := by
  intro H locs la hP hD hS hl
  subst hst
  obtain ⟨rfl, rfl⟩ := hce
  have hPc : va_P D.1 vwCl wc H := hP.sub isC (fm_of_map hC)
  have hDc : va_D A wc := hD.sub isC hndC hC
  have hFc := va_free hD hS C.hA isC hC
  refine va_calll (va_runS (As := As) (rest := rest) ⟨C.hx, C.hb, C.hml, C.hown, C.hts⟩ (hc H.size) ⟨callB_of n C.hts (wT_good F.1) rfl rfl rfl (C.hts _ F.2.2.1) (C.hts _ F.2.1) F.2.2.2 (by rw [C.hR]; exact hR), C.hts _ hi⟩ ⟨CtP.blind, fun U hU hW => ⟨rfl, by rw [hU], by rw [hU]; exact hPc, va_K.moved hW.alike C.hK, hDc.weaken (fun _ _ _ _ => trivial), by rw [hU]; exact C.hF.warm hW hS.2.1 hFc⟩⟩ rfl hn hl.1 rfl (lv_room hrest) hd (by rw [C.hR]; exact hcs)) hS (fun q _ h => hFc q h) hFc (fun r u t H1 locs1 ht hvm hw hB hz1 hk1 hS1 => ?_)
  obtain ⟨hP1, hK1, hD1⟩ := hB
  rw [ht] at hP1
  obtain ⟨hP2, hD2⟩ := va_join hP hD isC isR hC hRr hnd hdis hk1 hFc hP1 hD1
  exact kk r u hw H1 locs1 la (hP2.sub ps (fm_of_map (hw2 u))) (hD2.sub ps hps (hw2 u)) hS1 hl
def CtV (l : Launch) (D : gD) (tys : List (ClassId × FieldType)) (y : MethodName) (cc : ByteArray) (nL : Nat)  (rm : Room) (av : List Value) (w : va_W) {S : Type} (w' : S → va_W) (K : S → Prop) : Prop :=
  ∀ sz : Nat, Met l y (wT y cc nL none) rm (CtP D tys av w sz) (va_Qv K (CtB D tys w w' sz) (va_A w sz)) rm.cells rm.slots (va_A w sz)
theorem ct_startV {l : Launch} {D : gD} {tys : List (ClassId × FieldType)} {y : MethodName} {cc : ByteArray} {nL : Nat} {rm : Room} {av : List Value} {w : va_W} {S : Type} {w' : S → va_W} {K : S → Prop} (hy : plainFor y = true) (hn : (lg_sl av).length ≤ nL)
    (body : ∀ (E : gE) (A : Nat → Prop) (Q : State → Prop), E.2.1 = l → Cx D tys E rm cc nL y.cls A → (∀ (u : S) (pc : Nat) (ls : List (Nat × Value)), K u → decode cc pc = .ok (.return_, 1) → Go D E A Q nL rm.cells rm.slots (w' u) ls pc []) → Go D E A Q nL 0 0 w (lv_args 0 av) 0 []) : CtV l D tys y cc nL rm av w w' K := by
  intro sz
  refine Met.ofWF (cc := cc) (maxL := nL) (ret := none) hy rfl ?_
  intro p e s m args below meth c s₁ B hml hv
  obtain ⟨rfl, hsz, hP, hK, hD0, hF⟩ := hv
  subst hsz
  have hts := atoms_spec (ws := wT y cc nL none) B.pre
  have hD := hD0.self (sz := s.heap.size)
  have hl := lv_entry av (n := nL) hn
  rw [lg_entry_eq]
  refine body (p, l, e, (headSpec (wT y cc nL none) rm).room, s, m, av.toArray, below, meth, c) (va_A w s.heap.size) (MQ below _ av.toArray s rm.cells rm.slots (va_A w s.heap.size)) rfl ⟨B.exec, B.bytes, hml, findClass_of_methodNamed B.named, fun w hw => hts w (List.mem_cons_of_mem _ hw), hK, fun q h => Or.inr h, rfl, hF⟩ ?_ s.heap [] _ hP hD va_S.rf hl
  intro u pc ls hKK hd H locs la hP1 hD1 hS1 hl1
  exact W.vret B.exec B.bytes B.returns (fun t ht hW => ⟨⟨u, rfl, hKK, by rw [ht]; exact hP1, va_K.moved hW.alike hK, hD1⟩, hS1.F ht⟩) hS1.2.2 hd B.notSynchronized
theorem q_callVV {D : gD} {tys : List (ClassId × FieldType)} {E : gE} {rm : Room} {cc : ByteArray} {nL : Nat} {own : String} {A : Nat → Prop} {Q : State → Prop} {cells slots : Nat} {w : va_W} {ls : List (Nat × Value)} {pc : Nat} {st rest : List Value} (C : Cx D tys E rm cc nL own A) {y : MethodName} {bytes : ByteArray} {maxL n idx : Nat} {rm' : Room} {As : List Value} {wc wr : va_W} {S : Type} {w1' : S → va_W} {K : S → Prop} {b : Nat}
    (hc : CtV E.2.1 D tys y bytes maxL rm' (.ref b :: As) wc w1' K) (F : CallF own idx y bytes maxL none n) (hi : Cond.instanceMethod y ∈ gtbl) (hs : Cond.selects y.cls y y ∈ gtbl) (ci : Nat) {q : vw_C} {fs : List Value} (hci : vwCl[ci]? = some q) (hq : q.1 = y.cls) (hb : wc[0]? = some (b, .inr (ci, fs))) (hn : As.length = n) (hR : rm'.frames + 1 ≤ rm.frames ∧ 8 + (maxL + 11) + rm'.locals ≤ rm.locals) (hcs : cells + rm'.cells ≤ rm.cells ∧ slots + rm'.slots ≤ rm.slots) (cells' slots' : Nat) (hce : cells + rm'.cells = cells' ∧ slots + rm'.slots = slots')
    (isC isR : List Nat) (hC : isC.map (fun i => w[i]?) = wc.map some) (hRr : isR.map (fun i => w[i]?) = wr.map some) (hnd : va_nd isR = true) (hndC : va_nd isC = true) (hdis : ∀ i ∈ isR, i ∉ isC)
    (w2 : S → va_W) (ps : List Nat) (hps : va_nd ps = true) (hw2 : ∀ u, ps.map (fun i => (wr ++ w1' u)[i]?) = (w2 u).map some)
    (hst : st = As.reverse ++ .ref b :: rest) (hrest : (rest.map fun v => v.category).sum ≤ 8) (hd : decode cc pc = .ok (.invokevirtual idx, 3))
    (kk : ∀ (u : S), K u → Go D E A Q nL cells' slots' (w2 u) ls (pc + 3) (rest)) : Go D E A Q nL cells slots w ls pc st := by
  intro H locs la hP hD hS hl
  subst hst
  obtain ⟨rfl, rfl⟩ := hce
  have hPc : va_P D.1 vwCl wc H := hP.sub isC (fm_of_map hC)
  have hDc : va_D A wc := hD.sub isC hndC hC
  have hFc := va_free hD hS C.hA isC hC
  refine va_callv (va_runV (As := As) (rest := rest) ⟨C.hx, C.hb, C.hml, C.hown, C.hts⟩ (hc H.size) ⟨callB_of n C.hts (wT_good F.1) rfl rfl rfl (C.hts _ F.2.2.1) (C.hts _ F.2.1) F.2.2.2 (by rw [C.hR]; exact hR), C.hts _ hi, C.hts _ hs⟩ ⟨CtP.blind, by rw [← hq]; exact va_recv C.hK hPc hci hb, fun U hU hW => ⟨rfl, by rw [hU], by rw [hU]; exact hPc, va_K.moved hW.alike C.hK, hDc.weaken (fun _ _ _ _ => trivial), by rw [hU]; exact C.hF.warm hW hS.2.1 hFc⟩⟩ rfl hn hl.1 rfl (lv_room hrest) hd (by rw [C.hR]; exact hcs)) hS (fun q _ h => hFc q h) hFc (fun u t H1 locs1 ht hvm hw hB hz1 hk1 hS1 => ?_)
  obtain ⟨hP1, hK1, hD1⟩ := hB
  rw [ht] at hP1
  obtain ⟨hP2, hD2⟩ := va_join hP hD isC isR hC hRr hnd hdis hk1 hFc hP1 hD1
  exact kk u hw H1 locs1 la (hP2.sub ps (fm_of_map (hw2 u))) (hD2.sub ps hps (hw2 u)) hS1 hl
theorem q_callSV {D : gD} {tys : List (ClassId × FieldType)} {E : gE} {rm : Room} {cc : ByteArray} {nL : Nat} {own : String} {A : Nat → Prop} {Q : State → Prop} {cells slots : Nat} {w : va_W} {ls : List (Nat × Value)} {pc : Nat} {st rest : List Value} (C : Cx D tys E rm cc nL own A) {y : MethodName} {bytes : ByteArray} {maxL n idx : Nat} {rm' : Room} {As : List Value} {wc wr : va_W} {S : Type} {w1' : S → va_W} {K : S → Prop}
    (hc : CtV E.2.1 D tys y bytes maxL rm' (As) wc w1' K) (F : CallF own idx y bytes maxL none n) (hi : Cond.static y ∈ gtbl) (hn : As.length = n) (hR : rm'.frames + 1 ≤ rm.frames ∧ 8 + (maxL + 11) + rm'.locals ≤ rm.locals) (hcs : cells + rm'.cells ≤ rm.cells ∧ slots + rm'.slots ≤ rm.slots) (cells' slots' : Nat) (hce : cells + rm'.cells = cells' ∧ slots + rm'.slots = slots')
    (isC isR : List Nat) (hC : isC.map (fun i => w[i]?) = wc.map some) (hRr : isR.map (fun i => w[i]?) = wr.map some) (hnd : va_nd isR = true) (hndC : va_nd isC = true) (hdis : ∀ i ∈ isR, i ∉ isC)
    (w2 : S → va_W) (ps : List Nat) (hps : va_nd ps = true) (hw2 : ∀ u, ps.map (fun i => (wr ++ w1' u)[i]?) = (w2 u).map some)
    (hst : st = As.reverse ++ rest) (hrest : (rest.map fun v => v.category).sum ≤ 8) (hd : decode cc pc = .ok (.invokestatic idx, 3))
    (kk : ∀ (u : S), K u → Go D E A Q nL cells' slots' (w2 u) ls (pc + 3) (rest)) : Go D E A Q nL cells slots w ls pc st := by
  intro H locs la hP hD hS hl
  subst hst
  obtain ⟨rfl, rfl⟩ := hce
  have hPc : va_P D.1 vwCl wc H := hP.sub isC (fm_of_map hC)
  have hDc : va_D A wc := hD.sub isC hndC hC
  have hFc := va_free hD hS C.hA isC hC
  refine va_callv (va_runS (As := As) (rest := rest) ⟨C.hx, C.hb, C.hml, C.hown, C.hts⟩ (hc H.size) ⟨callB_of n C.hts (wT_good F.1) rfl rfl rfl (C.hts _ F.2.2.1) (C.hts _ F.2.1) F.2.2.2 (by rw [C.hR]; exact hR), C.hts _ hi⟩ ⟨CtP.blind, fun U hU hW => ⟨rfl, by rw [hU], by rw [hU]; exact hPc, va_K.moved hW.alike C.hK, hDc.weaken (fun _ _ _ _ => trivial), by rw [hU]; exact C.hF.warm hW hS.2.1 hFc⟩⟩ rfl hn hl.1 rfl (lv_room hrest) hd (by rw [C.hR]; exact hcs)) hS (fun q _ h => hFc q h) hFc (fun u t H1 locs1 ht hvm hw hB hz1 hk1 hS1 => ?_)
  obtain ⟨hP1, hK1, hD1⟩ := hB
  rw [ht] at hP1
  obtain ⟨hP2, hD2⟩ := va_join hP hD isC isR hC hRr hnd hdis hk1 hFc hP1 hD1
  exact kk u hw H1 locs1 la (hP2.sub ps (fm_of_map (hw2 u))) (hD2.sub ps hps (hw2 u)) hS1 hl
theorem q_callIV {D : gD} {tys : List (ClassId × FieldType)} {E : gE} {rm : Room} {cc : ByteArray} {nL : Nat} {own : String} {A : Nat → Prop} {Q : State → Prop} {cells slots : Nat} {w : va_W} {ls : List (Nat × Value)} {pc : Nat} {st rest : List Value} (C : Cx D tys E rm cc nL own A) {y : MethodName} {bytes : ByteArray} {maxL n idx : Nat} {rm' : Room} {As : List Value} {wc wr : va_W} {S : Type} {w1' : S → va_W} {K : S → Prop} {b : Nat}
    (hc : CtV E.2.1 D tys y bytes maxL rm' (.ref b :: As) wc w1' K) (F : CallF own idx y bytes maxL none n) (hi : Cond.instanceMethod y ∈ gtbl) (hy1 : y.name = "<init>") (hn : As.length = n) (hR : rm'.frames + 1 ≤ rm.frames ∧ 8 + (maxL + 11) + rm'.locals ≤ rm.locals) (hcs : cells + rm'.cells ≤ rm.cells ∧ slots + rm'.slots ≤ rm.slots) (cells' slots' : Nat) (hce : cells + rm'.cells = cells' ∧ slots + rm'.slots = slots')
    (isC isR : List Nat) (hC : isC.map (fun i => w[i]?) = wc.map some) (hRr : isR.map (fun i => w[i]?) = wr.map some) (hnd : va_nd isR = true) (hndC : va_nd isC = true) (hdis : ∀ i ∈ isR, i ∉ isC)
    (w2 : S → va_W) (ps : List Nat) (hps : va_nd ps = true) (hw2 : ∀ u, ps.map (fun i => (wr ++ w1' u)[i]?) = (w2 u).map some)
    (hst : st = As.reverse ++ .ref b :: rest) (hrest : (rest.map fun v => v.category).sum ≤ 8) (hd : decode cc pc = .ok (.invokespecial idx, 3))
    (kk : ∀ (u : S), K u → Go D E A Q nL cells' slots' (w2 u) ls (pc + 3) (rest)) : Go D E A Q nL cells slots w ls pc st := by
  intro H locs la hP hD hS hl
  subst hst
  obtain ⟨rfl, rfl⟩ := hce
  have hPc : va_P D.1 vwCl wc H := hP.sub isC (fm_of_map hC)
  have hDc : va_D A wc := hD.sub isC hndC hC
  have hFc := va_free hD hS C.hA isC hC
  refine va_callv (va_runI (As := As) (rest := rest) ⟨C.hx, C.hb, C.hml, C.hown, C.hts⟩ (hc H.size) ⟨callB_of n C.hts (wT_good F.1) rfl rfl rfl (C.hts _ F.2.2.1) (C.hts _ F.2.1) F.2.2.2 (by rw [C.hR]; exact hR), hy1, C.hts _ hi⟩ ⟨CtP.blind, fun U hU hW => ⟨rfl, by rw [hU], by rw [hU]; exact hPc, va_K.moved hW.alike C.hK, hDc.weaken (fun _ _ _ _ => trivial), by rw [hU]; exact C.hF.warm hW hS.2.1 hFc⟩⟩ rfl hn hl.1 rfl (lv_room hrest) hd (by rw [C.hR]; exact hcs)) hS (fun q _ h => hFc q h) hFc (fun u t H1 locs1 ht hvm hw hB hz1 hk1 hS1 => ?_)
  obtain ⟨hP1, hK1, hD1⟩ := hB
  rw [ht] at hP1
  obtain ⟨hP2, hD2⟩ := va_join hP hD isC isR hC hRr hnd hdis hk1 hFc hP1 hD1
  exact kk u hw H1 locs1 la (hP2.sub ps (fm_of_map (hw2 u))) (hD2.sub ps hps (hw2 u)) hS1 hl
theorem q_callINV {D : gD} {tys : List (ClassId × FieldType)} {E : gE} {rm : Room} {cc : ByteArray} {nL : Nat} {own : String} {A : Nat → Prop} {Q : State → Prop} {cells slots : Nat} {w : va_W} {ls : List (Nat × Value)} {pc : Nat} {st rest : List Value} (C : Cx D tys E rm cc nL own A) {y : MethodName} {bytes : ByteArray} {maxL n idx : Nat} {rm' : Room} {As : List Value} {wc wr : va_W} {S : Type} {w1' : S → va_W} {K : S → Prop} {b : Nat} {host : String}
    (hc : CtV E.2.1 D tys y bytes maxL rm' (.ref b :: As) wc w1' K) (hcode : Cond.code y bytes maxL none ∈ gtbl) (hini : Cond.initialized y.cls ∈ gtbl) (hd4 : y.cls ≠ "java/lang/invoke/MethodHandle" ∧ y.cls ≠ "java/lang/invoke/VarHandle" ∧ (parseMethodDescriptor y.desc).map (fun d => d.parameters.length) = some n) (hnest : Cond.methodLinkNest own idx y host ∈ lw_tbl) (hi : Cond.instanceMethod y ∈ gtbl) (hy1 : y.name = "<init>") (hn : As.length = n) (hR : rm'.frames + 1 ≤ rm.frames ∧ 8 + (maxL + 11) + rm'.locals ≤ rm.locals) (hcs : cells + rm'.cells ≤ rm.cells ∧ slots + rm'.slots ≤ rm.slots) (cells' slots' : Nat) (hce : cells + rm'.cells = cells' ∧ slots + rm'.slots = slots')
    (isC isR : List Nat) (hC : isC.map (fun i => w[i]?) = wc.map some) (hRr : isR.map (fun i => w[i]?) = wr.map some) (hnd : va_nd isR = true) (hndC : va_nd isC = true) (hdis : ∀ i ∈ isR, i ∉ isC)
    (w2 : S → va_W) (ps : List Nat) (hps : va_nd ps = true) (hw2 : ∀ u, ps.map (fun i => (wr ++ w1' u)[i]?) = (w2 u).map some)
    (hst : st = As.reverse ++ .ref b :: rest) (hrest : (rest.map fun v => v.category).sum ≤ 8) (hd : decode cc pc = .ok (.invokespecial idx, 3))
    (kk : ∀ (u : S), K u → Go D E A Q nL cells' slots' (w2 u) ls (pc + 3) (rest)) : Go D E A Q nL cells slots w ls pc st := by
  intro H locs la hP hD hS hl
  subst hst
  obtain ⟨rfl, rfl⟩ := hce
  have hPc : va_P D.1 vwCl wc H := hP.sub isC (fm_of_map hC)
  have hDc : va_D A wc := hD.sub isC hndC hC
  have hFc := va_free hD hS C.hA isC hC
  refine va_callv (va_runIN (As := As) (rest := rest) ⟨C.hx, C.hb, C.hml, C.hown, C.hts⟩ (hc H.size) ⟨va_cnB n C.hts (wT_good hcode) rfl rfl rfl (C.hF.1 _ hnest rfl) (C.hts _ hini) hd4 (by rw [C.hR]; exact hR), hy1, C.hts _ hi⟩ ⟨CtP.blind, fun U hU hW => ⟨rfl, by rw [hU], by rw [hU]; exact hPc, va_K.moved hW.alike C.hK, hDc.weaken (fun _ _ _ _ => trivial), by rw [hU]; exact C.hF.warm hW hS.2.1 hFc⟩⟩ rfl hn hl.1 rfl (lv_room hrest) hd (by rw [C.hR]; exact hcs)) hS (fun q _ h => hFc q h) hFc (fun u t H1 locs1 ht hvm hw hB hz1 hk1 hS1 => ?_)
  obtain ⟨hP1, hK1, hD1⟩ := hB
  rw [ht] at hP1
  obtain ⟨hP2, hD2⟩ := va_join hP hD isC isR hC hRr hnd hdis hk1 hFc hP1 hD1
  exact kk u hw H1 locs1 la (hP2.sub ps (fm_of_map (hw2 u))) (hD2.sub ps hps (hw2 u)) hS1 hl

theorem nar_bit {r : Int32} (h : r = 0 ∨ r = 1) : narrow .boolean (.int r) = .int r := by
  rcases h with rfl | rfl <;> rfl
theorem ct_startC {l : Launch} {D : gD} {tys : List (ClassId × FieldType)} {y : MethodName} {cc : ByteArray} {nL : Nat} {rm : Room} {av : List Value} {w : va_W} {S : Type} {w' : S → va_W} {K : S → Prop} (hy : plainFor y = true) (hn : (lg_sl av).length ≤ nL) (hy1 : y.name = "<init>")
    (body : ∀ (E : gE) (A : Nat → Prop) (Q : State → Prop), E.2.1 = l → Cx D tys E rm cc nL y.cls A → E.2.2.2.2.2.2.2.2.1.name = "<init>" → (∀ (u : S) (pc : Nat) (ls : List (Nat × Value)), K u → decode cc pc = .ok (.return_, 1) → Go D E A Q nL rm.cells rm.slots (w' u) ls pc []) → Go D E A Q nL 0 0 w (lv_args 0 av) 0 []) : CtV l D tys y cc nL rm av w w' K := by
  intro sz
  refine Met.ofWF (cc := cc) (maxL := nL) (ret := none) hy rfl ?_
  intro p e s m args below meth c s₁ B hml hv
  obtain ⟨rfl, hsz, hP, hK, hD0, hF⟩ := hv
  subst hsz
  have hts := atoms_spec (ws := wT y cc nL none) B.pre
  have hD := hD0.self (sz := s.heap.size)
  have hl := lv_entry av (n := nL) hn
  have hin : meth.name = "<init>" := ((name_of_methodNamed B.named B.method).1).trans hy1
  rw [lg_entry_eq]
  refine body (p, l, e, (headSpec (wT y cc nL none) rm).room, s, m, av.toArray, below, meth, c) (va_A w s.heap.size) (MQ below _ av.toArray s rm.cells rm.slots (va_A w s.heap.size)) rfl ⟨B.exec, B.bytes, hml, findClass_of_methodNamed B.named, fun w hw => hts w (List.mem_cons_of_mem _ hw), hK, fun q h => Or.inr h, rfl, hF⟩ hin ?_ s.heap [] _ hP hD va_S.rf hl
  intro u pc ls hKK hd H locs la hP1 hD1 hS1 hl1
  exact W.vret B.exec B.bytes B.returns (fun t ht hW => ⟨⟨u, rfl, hKK, by rw [ht]; exact hP1, va_K.moved hW.alike hK, hD1⟩, hS1.F ht⟩) hS1.2.2 hd B.notSynchronized
end CT
