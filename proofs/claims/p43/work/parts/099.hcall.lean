/-! Calls by permutation of the world. -/
section HCALL
theorem pm_P {D : va_G} {w w' : va_W} {Hp : Heap} (h : va_P D vwCl w Hp) (p : ∀ x, x ∈ w' → x ∈ w) : va_P D vwCl w' Hp := fun k q hk => by
  obtain ⟨j, hj⟩ := List.mem_iff_getElem?.mp (p q (List.mem_of_getElem? hk))
  exact h j q hj
theorem pm_nd {A : Nat → Prop} {w : va_W} : va_D A w ↔ (w.map (fun x => x.1)).Nodup ∧ ∀ x ∈ w, A x.1 := by
  constructor
  · intro h
    refine ⟨?_, fun x hx => ?_⟩
    · show List.Pairwise (fun a b => a ≠ b) _
      rw [List.pairwise_iff_getElem]
      intro i j hi hj hij he
      rw [List.length_map] at hi hj
      rw [List.getElem_map, List.getElem_map] at he
      have := h.1 i j _ _ (List.getElem?_eq_getElem hi) (List.getElem?_eq_getElem hj) he
      omega
    · obtain ⟨j, hj⟩ := List.mem_iff_getElem?.mp hx
      exact h.2 j x hj
  · rintro ⟨h1, h2⟩
    refine ⟨fun i j p q hp hq he => ?_, fun k q hk => h2 q (List.mem_of_getElem? hk)⟩
    have h3 : List.Pairwise (fun a b => a ≠ b) (w.map (fun x => x.1)) := h1
    rw [List.pairwise_iff_getElem] at h3
    obtain ⟨hi, ep⟩ := List.getElem?_eq_some_iff.mp hp
    obtain ⟨hj, eq⟩ := List.getElem?_eq_some_iff.mp hq
    rcases Nat.lt_trichotomy i j with z | z | z
    · have := h3 i j (by rw [List.length_map]; exact hi) (by rw [List.length_map]; exact hj) z
      rw [List.getElem_map, List.getElem_map, ep, eq] at this
      exact absurd he this
    · exact z
    · have := h3 j i (by rw [List.length_map]; exact hj) (by rw [List.length_map]; exact hi) z
      rw [List.getElem_map, List.getElem_map, ep, eq] at this
      exact absurd he.symm this
theorem pm_D {A : Nat → Prop} {w w' : va_W} (h : va_D A w) (p : w.Perm w') : va_D A w' := by
  rw [pm_nd] at h ⊢
  exact ⟨((p.map (fun x => x.1)).nodup_iff).mp h.1, fun x hx => h.2 x (p.mem_iff.mpr hx)⟩
theorem pm_l {A : Nat → Prop} {wc wr : va_W} (h : va_D A (wc ++ wr)) : va_D A wc := by
  rw [pm_nd] at h ⊢
  rw [List.map_append] at h
  exact ⟨(List.nodup_append.mp h.1).1, fun x hx => h.2 x (List.mem_append_left _ hx)⟩
/-- behind the call: the callee's new cells and the rest -/
theorem pm_join {A0 : Nat → Prop} {D : va_G} {wc wr w1 : va_W} {Hp H1 : Heap} (hP : va_P D vwCl (wc ++ wr) Hp) (hD : va_D A0 (wc ++ wr)) (hk : ∀ q : Nat, q < Hp.size → ¬ va_A wc Hp.size q → H1[q]? = Hp[q]?) (hf : ∀ q, va_A wc Hp.size q → A0 q) (hP1 : va_P D vwCl w1 H1) (hD1 : va_D (va_A wc Hp.size) w1) : va_P D vwCl (w1 ++ wr) H1 ∧ va_D A0 (w1 ++ wr) := by
  have hlt : ∀ x ∈ wr, x.1 < Hp.size := fun x hx => by
    obtain ⟨j, hj⟩ := List.mem_iff_getElem?.mp (List.mem_append_right wc hx)
    exact (hP j x hj).lt
  have hno : ∀ x ∈ wr, ¬ va_A wc Hp.size x.1 := fun x hx h => by
    rcases h with ⟨k, e, he⟩ | h
    · rw [pm_nd, List.map_append] at hD
      exact (List.nodup_append.mp hD.1).2.2 x.1 (List.mem_map.mpr ⟨(x.1, e), List.mem_of_getElem? he, rfl⟩) x.1 (List.mem_map.mpr ⟨x, hx, rfl⟩) rfl
    · have := hlt x hx; omega
  constructor
  · refine hP1.app (fun k q hk2 => ?_)
    have hm := List.mem_of_getElem? hk2
    obtain ⟨j, hj⟩ := List.mem_iff_getElem?.mp (List.mem_append_right wc hm)
    exact (hP j q hj).kept (hk q.1 (hlt q hm) (hno q hm))
  · rw [pm_nd] at hD hD1 ⊢
    rw [List.map_append] at hD ⊢
    refine ⟨List.nodup_append.mpr ⟨hD1.1, (List.nodup_append.mp hD.1).2.1, fun a ha b hb e => ?_⟩, fun x hx => ?_⟩
    · obtain ⟨x, hx, rfl⟩ := List.mem_map.mp ha
      obtain ⟨y, hy, rfl⟩ := List.mem_map.mp hb
      exact hno y hy (by rw [← e]; exact hD1.2 x hx)
    · rcases List.mem_append.mp hx with hx | hx
      · exact hf _ (hD1.2 x hx)
      · exact hD.2 x (List.mem_append_right _ hx)
theorem pm_free {A0 : Nat → Prop} {wc wr : va_W} {H0 Hp : Heap} {locs : List Loc} (hD : va_D A0 (wc ++ wr)) (hS : va_S A0 H0 Hp locs) (hA : ∀ q, H0.size ≤ q → A0 q) : ∀ q, va_A wc Hp.size q → A0 q := by
  intro q h
  rcases h with ⟨k, e, he⟩ | h
  · rw [pm_nd] at hD
    exact hD.2 (q, e) (List.mem_append_left _ (List.mem_of_getElem? he))
  · exact hA q (Nat.le_trans hS.1 h)
/-- by places: a row and its parts -/
theorem pm_pos {b c r : va_W} (isC isR : List Nat) (hC : isC.map (fun i => b[i]?) = c.map some) (hR : isR.map (fun i => b[i]?) = r.map some) (hp : (isC ++ isR).isPerm (List.range b.length) = true) : b.Perm (c ++ r) := by
  have h1 := (List.isPerm_iff.mp hp).map (fun i => b[i]?)
  rw [List.map_append, hC, hR, ← List.map_append] at h1
  have h2 : (List.range b.length).map (fun i => b[i]?) = b.map some := by
    apply List.ext_getElem?
    intro i
    rw [List.getElem?_map, List.getElem?_map]
    rcases Nat.lt_or_ge i b.length with z | z
    · rw [List.getElem?_range z]
      simp [z]
    · rw [List.getElem?_eq_none (by simpa using z), List.getElem?_eq_none z]
      rfl
  rw [h2] at h1
  have h3 := h1.filterMap id
  rw [List.filterMap_map, List.filterMap_map] at h3
  simpa using h3.symm
/-- the receiver: an object of the world, or a text -/
def hRv (D : gD) (w : va_W) (b : Nat) (cn : String) : Prop := (∃ (k ci : Nat) (q : vw_C) (fs : List Value), w[k]? = some (b, .inr (ci, fs)) ∧ vwCl[ci]? = some q ∧ q.1 = cn) ∨ (∃ i, i < 52 ∧ b = D.2.1 i ∧ cn = "java/lang/String")
theorem hRv_cell {D : gD} {tys : List (ClassId × FieldType)} {E : gE} {rm : Room} {cc : ByteArray} {nL : Nat} {own : String} {A : Nat → Prop} {w : va_W} {b : Nat} {cn : String} {Hp : Heap} {locs : List Loc} (C : Cx D tys E rm cc nL own A) (hP : va_P D.1 vwCl w Hp) (hS : va_S A E.2.2.2.2.1.heap Hp locs) (h : hRv D w b cn) : ∃ cell : Cell, Hp[b]? = some cell ∧ cell.vm.isStatics = false ∧ E.2.2.2.2.1.vm.findClass cn = some cell.cls := by
  rcases h with ⟨k, ci, q, fs, h1, h2, h3⟩ | ⟨i, hi, rfl, rfl⟩
  · rw [← h3]
    exact va_recv C.hK hP h2 h1
  · obtain ⟨cell, h1, h2, h3, -⟩ := (C.str hi).1.kept hS.2.1
    exact ⟨cell, h1, h2, h3⟩
theorem hRv_h {D : gD} {B : va_W} {H : gH} {b ci : Nat} {fs : List Value} {q : vw_C} (h : hpG H b = some (.inr (ci, fs))) (hc : vwCl[ci]? = some q) : hRv D (B ++ hpW H) b q.1 := by
  obtain ⟨k, hk⟩ := hpW_get (B := B) h
  exact Or.inl ⟨k, ci, q, fs, hk, hc, rfl⟩
/-- a method that answers some reference -/
def CtQ (l : Launch) (D : gD) (tys : List (ClassId × FieldType)) (y : MethodName) (cc : ByteArray) (nL : Nat) (rt : FieldType) (rm : Room) (av : List Value) (w : va_W) {S : Type} (w' : S → va_W) (K : Nat → S → Prop) : Prop :=
  ∀ sz : Nat, Met l y (wT y cc nL (some rt)) rm (CtP D tys av w sz) (va_Qr (fun _ : S => True) (fun u q t => K q u ∧ CtB D tys w w' sz u t) (va_A w sz)) rm.cells rm.slots (va_A w sz)
theorem ct_startQ {l : Launch} {D : gD} {tys : List (ClassId × FieldType)} {y : MethodName} {cc : ByteArray} {nL : Nat} {rm : Room} {av : List Value} {w : va_W} {S : Type} {w' : S → va_W} {rt : FieldType} {K : Nat → S → Prop} (hrt : (∃ n, rt = .object n) ∨ ∃ t, rt = .array t) (hy : plainFor y = true) (hn : (lg_sl av).length ≤ nL)
    (body : ∀ (E : gE) (A : Nat → Prop) (Q : State → Prop), E.2.1 = l → Cx D tys E rm cc nL y.cls A → (∀ (r : Nat) (u : S) (pc : Nat) (ls : List (Nat × Value)), K r u → decode cc pc = .ok (.areturn, 1) → Go D E A Q nL rm.cells rm.slots (w' u) ls pc [.ref r]) → Go D E A Q nL 0 0 w (lv_args 0 av) 0 []) : CtQ l D tys y cc nL rt rm av w w' K := by
  intro sz
  refine Met.ofWF (cc := cc) (maxL := nL) (ret := (some rt)) hy rfl ?_
  intro p e s m args below meth c s₁ B hml hv
  obtain ⟨rfl, hsz, hP, hK, hD0, hF⟩ := hv
  subst hsz
  have hts := atoms_spec (ws := wT y cc nL (some rt)) B.pre
  have hD := hD0.self (sz := s.heap.size)
  have hl := lv_entry av (n := nL) hn
  rw [lg_entry_eq]
  refine body (p, l, e, (headSpec (wT y cc nL (some rt)) rm).room, s, m, av.toArray, below, meth, c) (va_A w s.heap.size) (MQ below _ av.toArray s rm.cells rm.slots (va_A w s.heap.size)) rfl ⟨B.exec, B.bytes, hml, findClass_of_methodNamed B.named, fun w hw => hts w (List.mem_cons_of_mem _ hw), hK, fun q h => Or.inr h, rfl, hF⟩ ?_ s.heap [] _ hP hD va_S.rf hl
  intro r u pc ls hKK hd H locs la hP1 hD1 hS1 hl1
  exact W.aret B.exec B.bytes B.returns hrt (Or.inr ⟨r, rfl⟩) (fun t ht hW => ⟨⟨u, r, rfl, trivial, hKK, by rw [ht]; exact hP1, va_K.moved hW.alike hK, hD1⟩, hS1.F ht⟩) hS1.2.2 hd B.notSynchronized
theorem p_callVI {D : gD} {tys tys1 : List (ClassId × FieldType)} {E : gE} {rm : Room} {cc : ByteArray} {nL : Nat} {own : String} {A : Nat → Prop} {Q : State → Prop} {cells slots : Nat} {w : va_W} {ls : List (Nat × Value)} {pc : Nat} {st rest : List Value} (C : Cx D tys E rm cc nL own A) (hty : ∀ U : State, va_K D.1 vwCl tys U → va_K D.1 vwCl tys1 U) {y : MethodName} {bytes : ByteArray} {maxL n idx : Nat} {rt : FieldType} {rm' : Room} {As : List Value} {wc : va_W} (wr : va_W) {S : Type} {w1' : S → va_W} {K : Int32 → S → Prop} {b : Nat}
    (hc : CtI E.2.1 D tys1 y bytes maxL rt rm' (.ref b :: As) wc w1' K) (F : CallF own idx y bytes maxL (some rt) n) (hi : Cond.instanceMethod y ∈ gtbl) (hs : Cond.selects y.cls y y ∈ gtbl) (hrv : hRv D w b y.cls) (hn : As.length = n) (hR : rm'.frames + 1 ≤ rm.frames ∧ 8 + (maxL + 11) + rm'.locals ≤ rm.locals) (hcs : cells + rm'.cells ≤ rm.cells ∧ slots + rm'.slots ≤ rm.slots)
    (hpm : w.Perm (wc ++ wr)) (w2 : S → va_W) (hpm2 : ∀ u, (w1' u ++ wr).Perm (w2 u))
    (hst : st = As.reverse ++ .ref b :: rest) (hrest : (rest.map fun v => v.category).sum ≤ 8) (hd : decode cc pc = .ok (.invokevirtual idx, 3))
    (kk : ∀ (r : Int32) (u : S), K r u → Go D E A Q nL (cells + rm'.cells) (slots + rm'.slots) (w2 u) ls (pc + 3) (.int r :: rest)) : Go D E A Q nL cells slots w ls pc st := by
  intro Hp locs la hP hD hS hl
  subst hst
  have hPw := pm_P hP (fun x hx => hpm.mem_iff.mpr hx)
  have hDw := pm_D hD hpm
  have hPc : va_P D.1 vwCl wc Hp := pm_P hPw (fun x hx => List.mem_append_left _ hx)
  have hDc : va_D A wc := pm_l hDw
  have hFc := pm_free hDw hS C.hA
  refine va_calli (va_runV (As := As) (rest := rest) ⟨C.hx, C.hb, C.hml, C.hown, C.hts⟩ (hc Hp.size) ⟨callB_of n C.hts (wT_good F.1) rfl rfl rfl (C.hts _ F.2.2.1) (C.hts _ F.2.1) F.2.2.2 (by rw [C.hR]; exact hR), C.hts _ hi, C.hts _ hs⟩ ⟨CtP.blind, hRv_cell C hP hS hrv, fun U hU hW => ⟨rfl, by rw [hU], by rw [hU]; exact hPc, va_K.moved hW.alike (hty _ C.hK), hDc.weaken (fun _ _ _ _ => trivial), by rw [hU]; exact C.hF.warm hW hS.2.1 hFc⟩⟩ rfl hn hl.1 rfl (lv_room hrest) hd (by rw [C.hR]; exact hcs)) hS (fun q _ h => hFc q h) hFc (fun r u t H1 locs1 ht hvm hw hB hz1 hk1 hS1 => ?_)
  obtain ⟨hP1, hK1, hD1⟩ := hB
  rw [ht] at hP1
  obtain ⟨hP2, hD2⟩ := pm_join hPw hDw hk1 hFc hP1 hD1
  exact kk r u hw H1 locs1 la (pm_P hP2 (fun x hx => (hpm2 u).mem_iff.mpr hx)) (pm_D hD2 (hpm2 u)) hS1 hl
theorem p_callVL {D : gD} {tys tys1 : List (ClassId × FieldType)} {E : gE} {rm : Room} {cc : ByteArray} {nL : Nat} {own : String} {A : Nat → Prop} {Q : State → Prop} {cells slots : Nat} {w : va_W} {ls : List (Nat × Value)} {pc : Nat} {st rest : List Value} (C : Cx D tys E rm cc nL own A) (hty : ∀ U : State, va_K D.1 vwCl tys U → va_K D.1 vwCl tys1 U) {y : MethodName} {bytes : ByteArray} {maxL n idx : Nat} {rm' : Room} {As : List Value} {wc : va_W} (wr : va_W) {S : Type} {w1' : S → va_W} {K : Int64 → S → Prop} {b : Nat}
    (hc : CtL E.2.1 D tys1 y bytes maxL rm' (.ref b :: As) wc w1' K) (F : CallF own idx y bytes maxL (some .long) n) (hi : Cond.instanceMethod y ∈ gtbl) (hs : Cond.selects y.cls y y ∈ gtbl) (hrv : hRv D w b y.cls) (hn : As.length = n) (hR : rm'.frames + 1 ≤ rm.frames ∧ 8 + (maxL + 11) + rm'.locals ≤ rm.locals) (hcs : cells + rm'.cells ≤ rm.cells ∧ slots + rm'.slots ≤ rm.slots)
    (hpm : w.Perm (wc ++ wr)) (w2 : S → va_W) (hpm2 : ∀ u, (w1' u ++ wr).Perm (w2 u))
    (hst : st = As.reverse ++ .ref b :: rest) (hrest : (rest.map fun v => v.category).sum ≤ 8) (hd : decode cc pc = .ok (.invokevirtual idx, 3))
    (kk : ∀ (r : Int64) (u : S), K r u → Go D E A Q nL (cells + rm'.cells) (slots + rm'.slots) (w2 u) ls (pc + 3) (.long r :: rest)) : Go D E A Q nL cells slots w ls pc st := by
  intro Hp locs la hP hD hS hl
  subst hst
  have hPw := pm_P hP (fun x hx => hpm.mem_iff.mpr hx)
  have hDw := pm_D hD hpm
  have hPc : va_P D.1 vwCl wc Hp := pm_P hPw (fun x hx => List.mem_append_left _ hx)
  have hDc : va_D A wc := pm_l hDw
  have hFc := pm_free hDw hS C.hA
  refine va_calll (va_runV (As := As) (rest := rest) ⟨C.hx, C.hb, C.hml, C.hown, C.hts⟩ (hc Hp.size) ⟨callB_of n C.hts (wT_good F.1) rfl rfl rfl (C.hts _ F.2.2.1) (C.hts _ F.2.1) F.2.2.2 (by rw [C.hR]; exact hR), C.hts _ hi, C.hts _ hs⟩ ⟨CtP.blind, hRv_cell C hP hS hrv, fun U hU hW => ⟨rfl, by rw [hU], by rw [hU]; exact hPc, va_K.moved hW.alike (hty _ C.hK), hDc.weaken (fun _ _ _ _ => trivial), by rw [hU]; exact C.hF.warm hW hS.2.1 hFc⟩⟩ rfl hn hl.1 rfl (lv_room hrest) hd (by rw [C.hR]; exact hcs)) hS (fun q _ h => hFc q h) hFc (fun r u t H1 locs1 ht hvm hw hB hz1 hk1 hS1 => ?_)
  obtain ⟨hP1, hK1, hD1⟩ := hB
  rw [ht] at hP1
  obtain ⟨hP2, hD2⟩ := pm_join hPw hDw hk1 hFc hP1 hD1
  exact kk r u hw H1 locs1 la (pm_P hP2 (fun x hx => (hpm2 u).mem_iff.mpr hx)) (pm_D hD2 (hpm2 u)) hS1 hl
theorem p_callVD {D : gD} {tys tys1 : List (ClassId × FieldType)} {E : gE} {rm : Room} {cc : ByteArray} {nL : Nat} {own : String} {A : Nat → Prop} {Q : State → Prop} {cells slots : Nat} {w : va_W} {ls : List (Nat × Value)} {pc : Nat} {st rest : List Value} (C : Cx D tys E rm cc nL own A) (hty : ∀ U : State, va_K D.1 vwCl tys U → va_K D.1 vwCl tys1 U) {y : MethodName} {bytes : ByteArray} {maxL n idx : Nat} {rm' : Room} {As : List Value} {wc : va_W} (wr : va_W) {S : Type} {w1' : S → va_W} {K : UInt64 → S → Prop} {b : Nat}
    (hc : CtD E.2.1 D tys1 y bytes maxL rm' (.ref b :: As) wc w1' K) (F : CallF own idx y bytes maxL (some .double) n) (hi : Cond.instanceMethod y ∈ gtbl) (hs : Cond.selects y.cls y y ∈ gtbl) (hrv : hRv D w b y.cls) (hn : As.length = n) (hR : rm'.frames + 1 ≤ rm.frames ∧ 8 + (maxL + 11) + rm'.locals ≤ rm.locals) (hcs : cells + rm'.cells ≤ rm.cells ∧ slots + rm'.slots ≤ rm.slots)
    (hpm : w.Perm (wc ++ wr)) (w2 : S → va_W) (hpm2 : ∀ u, (w1' u ++ wr).Perm (w2 u))
    (hst : st = As.reverse ++ .ref b :: rest) (hrest : (rest.map fun v => v.category).sum ≤ 8) (hd : decode cc pc = .ok (.invokevirtual idx, 3))
    (kk : ∀ (r : UInt64) (u : S), K r u → Go D E A Q nL (cells + rm'.cells) (slots + rm'.slots) (w2 u) ls (pc + 3) (.double r :: rest)) : Go D E A Q nL cells slots w ls pc st := by
  intro Hp locs la hP hD hS hl
  subst hst
  have hPw := pm_P hP (fun x hx => hpm.mem_iff.mpr hx)
  have hDw := pm_D hD hpm
  have hPc : va_P D.1 vwCl wc Hp := pm_P hPw (fun x hx => List.mem_append_left _ hx)
  have hDc : va_D A wc := pm_l hDw
  have hFc := pm_free hDw hS C.hA
  refine va_calld (va_runV (As := As) (rest := rest) ⟨C.hx, C.hb, C.hml, C.hown, C.hts⟩ (hc Hp.size) ⟨callB_of n C.hts (wT_good F.1) rfl rfl rfl (C.hts _ F.2.2.1) (C.hts _ F.2.1) F.2.2.2 (by rw [C.hR]; exact hR), C.hts _ hi, C.hts _ hs⟩ ⟨CtP.blind, hRv_cell C hP hS hrv, fun U hU hW => ⟨rfl, by rw [hU], by rw [hU]; exact hPc, va_K.moved hW.alike (hty _ C.hK), hDc.weaken (fun _ _ _ _ => trivial), by rw [hU]; exact C.hF.warm hW hS.2.1 hFc⟩⟩ rfl hn hl.1 rfl (lv_room hrest) hd (by rw [C.hR]; exact hcs)) hS (fun q _ h => hFc q h) hFc (fun r u t H1 locs1 ht hvm hw hB hz1 hk1 hS1 => ?_)
  obtain ⟨hP1, hK1, hD1⟩ := hB
  rw [ht] at hP1
  obtain ⟨hP2, hD2⟩ := pm_join hPw hDw hk1 hFc hP1 hD1
  exact kk r u hw H1 locs1 la (pm_P hP2 (fun x hx => (hpm2 u).mem_iff.mpr hx)) (pm_D hD2 (hpm2 u)) hS1 hl
theorem p_callVV {D : gD} {tys tys1 : List (ClassId × FieldType)} {E : gE} {rm : Room} {cc : ByteArray} {nL : Nat} {own : String} {A : Nat → Prop} {Q : State → Prop} {cells slots : Nat} {w : va_W} {ls : List (Nat × Value)} {pc : Nat} {st rest : List Value} (C : Cx D tys E rm cc nL own A) (hty : ∀ U : State, va_K D.1 vwCl tys U → va_K D.1 vwCl tys1 U) {y : MethodName} {bytes : ByteArray} {maxL n idx : Nat} {rm' : Room} {As : List Value} {wc : va_W} (wr : va_W) {S : Type} {w1' : S → va_W} {K : S → Prop} {b : Nat}
    (hc : CtV E.2.1 D tys1 y bytes maxL rm' (.ref b :: As) wc w1' K) (F : CallF own idx y bytes maxL none n) (hi : Cond.instanceMethod y ∈ gtbl) (hs : Cond.selects y.cls y y ∈ gtbl) (hrv : hRv D w b y.cls) (hn : As.length = n) (hR : rm'.frames + 1 ≤ rm.frames ∧ 8 + (maxL + 11) + rm'.locals ≤ rm.locals) (hcs : cells + rm'.cells ≤ rm.cells ∧ slots + rm'.slots ≤ rm.slots)
    (hpm : w.Perm (wc ++ wr)) (w2 : S → va_W) (hpm2 : ∀ u, (w1' u ++ wr).Perm (w2 u))
    (hst : st = As.reverse ++ .ref b :: rest) (hrest : (rest.map fun v => v.category).sum ≤ 8) (hd : decode cc pc = .ok (.invokevirtual idx, 3))
    (kk : ∀ (u : S), K u → Go D E A Q nL (cells + rm'.cells) (slots + rm'.slots) (w2 u) ls (pc + 3) (rest)) : Go D E A Q nL cells slots w ls pc st := by
  intro Hp locs la hP hD hS hl
  subst hst
  have hPw := pm_P hP (fun x hx => hpm.mem_iff.mpr hx)
  have hDw := pm_D hD hpm
  have hPc : va_P D.1 vwCl wc Hp := pm_P hPw (fun x hx => List.mem_append_left _ hx)
  have hDc : va_D A wc := pm_l hDw
  have hFc := pm_free hDw hS C.hA
  refine va_callv (va_runV (As := As) (rest := rest) ⟨C.hx, C.hb, C.hml, C.hown, C.hts⟩ (hc Hp.size) ⟨callB_of n C.hts (wT_good F.1) rfl rfl rfl (C.hts _ F.2.2.1) (C.hts _ F.2.1) F.2.2.2 (by rw [C.hR]; exact hR), C.hts _ hi, C.hts _ hs⟩ ⟨CtP.blind, hRv_cell C hP hS hrv, fun U hU hW => ⟨rfl, by rw [hU], by rw [hU]; exact hPc, va_K.moved hW.alike (hty _ C.hK), hDc.weaken (fun _ _ _ _ => trivial), by rw [hU]; exact C.hF.warm hW hS.2.1 hFc⟩⟩ rfl hn hl.1 rfl (lv_room hrest) hd (by rw [C.hR]; exact hcs)) hS (fun q _ h => hFc q h) hFc (fun u t H1 locs1 ht hvm hw hB hz1 hk1 hS1 => ?_)
  obtain ⟨hP1, hK1, hD1⟩ := hB
  rw [ht] at hP1
  obtain ⟨hP2, hD2⟩ := pm_join hPw hDw hk1 hFc hP1 hD1
  exact kk u hw H1 locs1 la (pm_P hP2 (fun x hx => (hpm2 u).mem_iff.mpr hx)) (pm_D hD2 (hpm2 u)) hS1 hl
theorem p_callVQ {D : gD} {tys tys1 : List (ClassId × FieldType)} {E : gE} {rm : Room} {cc : ByteArray} {nL : Nat} {own : String} {A : Nat → Prop} {Q : State → Prop} {cells slots : Nat} {w : va_W} {ls : List (Nat × Value)} {pc : Nat} {st rest : List Value} (C : Cx D tys E rm cc nL own A) (hty : ∀ U : State, va_K D.1 vwCl tys U → va_K D.1 vwCl tys1 U) {y : MethodName} {bytes : ByteArray} {maxL n idx : Nat} {rt : FieldType} {rm' : Room} {As : List Value} {wc : va_W} (wr : va_W) {S : Type} {w1' : S → va_W} {K : Nat → S → Prop} {b : Nat}
    (hc : CtQ E.2.1 D tys1 y bytes maxL rt rm' (.ref b :: As) wc w1' K) (F : CallF own idx y bytes maxL (some rt) n) (hi : Cond.instanceMethod y ∈ gtbl) (hs : Cond.selects y.cls y y ∈ gtbl) (hrv : hRv D w b y.cls) (hn : As.length = n) (hR : rm'.frames + 1 ≤ rm.frames ∧ 8 + (maxL + 11) + rm'.locals ≤ rm.locals) (hcs : cells + rm'.cells ≤ rm.cells ∧ slots + rm'.slots ≤ rm.slots)
    (hpm : w.Perm (wc ++ wr)) (w2 : S → va_W) (hpm2 : ∀ u, (w1' u ++ wr).Perm (w2 u))
    (hst : st = As.reverse ++ .ref b :: rest) (hrest : (rest.map fun v => v.category).sum ≤ 8) (hd : decode cc pc = .ok (.invokevirtual idx, 3))
    (kk : ∀ (r : Nat) (u : S), K r u → Go D E A Q nL (cells + rm'.cells) (slots + rm'.slots) (w2 u) ls (pc + 3) (.ref r :: rest)) : Go D E A Q nL cells slots w ls pc st := by
  intro Hp locs la hP hD hS hl
  subst hst
  have hPw := pm_P hP (fun x hx => hpm.mem_iff.mpr hx)
  have hDw := pm_D hD hpm
  have hPc : va_P D.1 vwCl wc Hp := pm_P hPw (fun x hx => List.mem_append_left _ hx)
  have hDc : va_D A wc := pm_l hDw
  have hFc := pm_free hDw hS C.hA
  refine va_callr (va_runV (As := As) (rest := rest) ⟨C.hx, C.hb, C.hml, C.hown, C.hts⟩ (hc Hp.size) ⟨callB_of n C.hts (wT_good F.1) rfl rfl rfl (C.hts _ F.2.2.1) (C.hts _ F.2.1) F.2.2.2 (by rw [C.hR]; exact hR), C.hts _ hi, C.hts _ hs⟩ ⟨CtP.blind, hRv_cell C hP hS hrv, fun U hU hW => ⟨rfl, by rw [hU], by rw [hU]; exact hPc, va_K.moved hW.alike (hty _ C.hK), hDc.weaken (fun _ _ _ _ => trivial), by rw [hU]; exact C.hF.warm hW hS.2.1 hFc⟩⟩ rfl hn hl.1 rfl (lv_room hrest) hd (by rw [C.hR]; exact hcs)) hS (fun q _ h => hFc q h) hFc (fun u r t H1 locs1 ht hvm hw0 hB hz1 hk1 hS1 => ?_)
  obtain ⟨hw, hP1, hK1, hD1⟩ := hB
  rw [ht] at hP1
  obtain ⟨hP2, hD2⟩ := pm_join hPw hDw hk1 hFc hP1 hD1
  exact kk r u hw H1 locs1 la (pm_P hP2 (fun x hx => (hpm2 u).mem_iff.mpr hx)) (pm_D hD2 (hpm2 u)) hS1 hl
theorem p_callSI {D : gD} {tys tys1 : List (ClassId × FieldType)} {E : gE} {rm : Room} {cc : ByteArray} {nL : Nat} {own : String} {A : Nat → Prop} {Q : State → Prop} {cells slots : Nat} {w : va_W} {ls : List (Nat × Value)} {pc : Nat} {st rest : List Value} (C : Cx D tys E rm cc nL own A) (hty : ∀ U : State, va_K D.1 vwCl tys U → va_K D.1 vwCl tys1 U) {y : MethodName} {bytes : ByteArray} {maxL n idx : Nat} {rt : FieldType} {rm' : Room} {As : List Value} {wc : va_W} (wr : va_W) {S : Type} {w1' : S → va_W} {K : Int32 → S → Prop}
    (hc : CtI E.2.1 D tys1 y bytes maxL rt rm' (As) wc w1' K) (F : CallF own idx y bytes maxL (some rt) n) (hi : Cond.static y ∈ gtbl) (hn : As.length = n) (hR : rm'.frames + 1 ≤ rm.frames ∧ 8 + (maxL + 11) + rm'.locals ≤ rm.locals) (hcs : cells + rm'.cells ≤ rm.cells ∧ slots + rm'.slots ≤ rm.slots)
    (hpm : w.Perm (wc ++ wr)) (w2 : S → va_W) (hpm2 : ∀ u, (w1' u ++ wr).Perm (w2 u))
    (hst : st = As.reverse ++ rest) (hrest : (rest.map fun v => v.category).sum ≤ 8) (hd : decode cc pc = .ok (.invokestatic idx, 3))
    (kk : ∀ (r : Int32) (u : S), K r u → Go D E A Q nL (cells + rm'.cells) (slots + rm'.slots) (w2 u) ls (pc + 3) (.int r :: rest)) : Go D E A Q nL cells slots w ls pc st := by
  intro Hp locs la hP hD hS hl
  subst hst
  have hPw := pm_P hP (fun x hx => hpm.mem_iff.mpr hx)
  have hDw := pm_D hD hpm
  have hPc : va_P D.1 vwCl wc Hp := pm_P hPw (fun x hx => List.mem_append_left _ hx)
  have hDc : va_D A wc := pm_l hDw
  have hFc := pm_free hDw hS C.hA
  refine va_calli (va_runS (As := As) (rest := rest) ⟨C.hx, C.hb, C.hml, C.hown, C.hts⟩ (hc Hp.size) ⟨callB_of n C.hts (wT_good F.1) rfl rfl rfl (C.hts _ F.2.2.1) (C.hts _ F.2.1) F.2.2.2 (by rw [C.hR]; exact hR), C.hts _ hi⟩ ⟨CtP.blind, fun U hU hW => ⟨rfl, by rw [hU], by rw [hU]; exact hPc, va_K.moved hW.alike (hty _ C.hK), hDc.weaken (fun _ _ _ _ => trivial), by rw [hU]; exact C.hF.warm hW hS.2.1 hFc⟩⟩ rfl hn hl.1 rfl (lv_room hrest) hd (by rw [C.hR]; exact hcs)) hS (fun q _ h => hFc q h) hFc (fun r u t H1 locs1 ht hvm hw hB hz1 hk1 hS1 => ?_)
  obtain ⟨hP1, hK1, hD1⟩ := hB
  rw [ht] at hP1
  obtain ⟨hP2, hD2⟩ := pm_join hPw hDw hk1 hFc hP1 hD1
  exact kk r u hw H1 locs1 la (pm_P hP2 (fun x hx => (hpm2 u).mem_iff.mpr hx)) (pm_D hD2 (hpm2 u)) hS1 hl
theorem p_callSL {D : gD} {tys tys1 : List (ClassId × FieldType)} {E : gE} {rm : Room} {cc : ByteArray} {nL : Nat} {own : String} {A : Nat → Prop} {Q : State → Prop} {cells slots : Nat} {w : va_W} {ls : List (Nat × Value)} {pc : Nat} {st rest : List Value} (C : Cx D tys E rm cc nL own A) (hty : ∀ U : State, va_K D.1 vwCl tys U → va_K D.1 vwCl tys1 U) {y : MethodName} {bytes : ByteArray} {maxL n idx : Nat} {rm' : Room} {As : List Value} {wc : va_W} (wr : va_W) {S : Type} {w1' : S → va_W} {K : Int64 → S → Prop}
    (hc : CtL E.2.1 D tys1 y bytes maxL rm' (As) wc w1' K) (F : CallF own idx y bytes maxL (some .long) n) (hi : Cond.static y ∈ gtbl) (hn : As.length = n) (hR : rm'.frames + 1 ≤ rm.frames ∧ 8 + (maxL + 11) + rm'.locals ≤ rm.locals) (hcs : cells + rm'.cells ≤ rm.cells ∧ slots + rm'.slots ≤ rm.slots)
    (hpm : w.Perm (wc ++ wr)) (w2 : S → va_W) (hpm2 : ∀ u, (w1' u ++ wr).Perm (w2 u))
    (hst : st = As.reverse ++ rest) (hrest : (rest.map fun v => v.category).sum ≤ 8) (hd : decode cc pc = .ok (.invokestatic idx, 3))
    (kk : ∀ (r : Int64) (u : S), K r u → Go D E A Q nL (cells + rm'.cells) (slots + rm'.slots) (w2 u) ls (pc + 3) (.long r :: rest)) : Go D E A Q nL cells slots w ls pc st := by
  intro Hp locs la hP hD hS hl
  subst hst
  have hPw := pm_P hP (fun x hx => hpm.mem_iff.mpr hx)
  have hDw := pm_D hD hpm
  have hPc : va_P D.1 vwCl wc Hp := pm_P hPw (fun x hx => List.mem_append_left _ hx)
  have hDc : va_D A wc := pm_l hDw
  have hFc := pm_free hDw hS C.hA
  refine va_calll (va_runS (As := As) (rest := rest) ⟨C.hx, C.hb, C.hml, C.hown, C.hts⟩ (hc Hp.size) ⟨callB_of n C.hts (wT_good F.1) rfl rfl rfl (C.hts _ F.2.2.1) (C.hts _ F.2.1) F.2.2.2 (by rw [C.hR]; exact hR), C.hts _ hi⟩ ⟨CtP.blind, fun U hU hW => ⟨rfl, by rw [hU], by rw [hU]; exact hPc, va_K.moved hW.alike (hty _ C.hK), hDc.weaken (fun _ _ _ _ => trivial), by rw [hU]; exact C.hF.warm hW hS.2.1 hFc⟩⟩ rfl hn hl.1 rfl (lv_room hrest) hd (by rw [C.hR]; exact hcs)) hS (fun q _ h => hFc q h) hFc (fun r u t H1 locs1 ht hvm hw hB hz1 hk1 hS1 => ?_)
  obtain ⟨hP1, hK1, hD1⟩ := hB
  rw [ht] at hP1
  obtain ⟨hP2, hD2⟩ := pm_join hPw hDw hk1 hFc hP1 hD1
  exact kk r u hw H1 locs1 la (pm_P hP2 (fun x hx => (hpm2 u).mem_iff.mpr hx)) (pm_D hD2 (hpm2 u)) hS1 hl
theorem p_callSD {D : gD} {tys tys1 : List (ClassId × FieldType)} {E : gE} {rm : Room} {cc : ByteArray} {nL : Nat} {own : String} {A : Nat → Prop} {Q : State → Prop} {cells slots : Nat} {w : va_W} {ls : List (Nat × Value)} {pc : Nat} {st rest : List Value} (C : Cx D tys E rm cc nL own A) (hty : ∀ U : State, va_K D.1 vwCl tys U → va_K D.1 vwCl tys1 U) {y : MethodName} {bytes : ByteArray} {maxL n idx : Nat} {rm' : Room} {As : List Value} {wc : va_W} (wr : va_W) {S : Type} {w1' : S → va_W} {K : UInt64 → S → Prop}
    (hc : CtD E.2.1 D tys1 y bytes maxL rm' (As) wc w1' K) (F : CallF own idx y bytes maxL (some .double) n) (hi : Cond.static y ∈ gtbl) (hn : As.length = n) (hR : rm'.frames + 1 ≤ rm.frames ∧ 8 + (maxL + 11) + rm'.locals ≤ rm.locals) (hcs : cells + rm'.cells ≤ rm.cells ∧ slots + rm'.slots ≤ rm.slots)
    (hpm : w.Perm (wc ++ wr)) (w2 : S → va_W) (hpm2 : ∀ u, (w1' u ++ wr).Perm (w2 u))
    (hst : st = As.reverse ++ rest) (hrest : (rest.map fun v => v.category).sum ≤ 8) (hd : decode cc pc = .ok (.invokestatic idx, 3))
    (kk : ∀ (r : UInt64) (u : S), K r u → Go D E A Q nL (cells + rm'.cells) (slots + rm'.slots) (w2 u) ls (pc + 3) (.double r :: rest)) : Go D E A Q nL cells slots w ls pc st := by
  intro Hp locs la hP hD hS hl
  subst hst
  have hPw := pm_P hP (fun x hx => hpm.mem_iff.mpr hx)
  have hDw := pm_D hD hpm
  have hPc : va_P D.1 vwCl wc Hp := pm_P hPw (fun x hx => List.mem_append_left _ hx)
  have hDc : va_D A wc := pm_l hDw
  have hFc := pm_free hDw hS C.hA
  refine va_calld (va_runS (As := As) (rest := rest) ⟨C.hx, C.hb, C.hml, C.hown, C.hts⟩ (hc Hp.size) ⟨callB_of n C.hts (wT_good F.1) rfl rfl rfl (C.hts _ F.2.2.1) (C.hts _ F.2.1) F.2.2.2 (by rw [C.hR]; exact hR), C.hts _ hi⟩ ⟨CtP.blind, fun U hU hW => ⟨rfl, by rw [hU], by rw [hU]; exact hPc, va_K.moved hW.alike (hty _ C.hK), hDc.weaken (fun _ _ _ _ => trivial), by rw [hU]; exact C.hF.warm hW hS.2.1 hFc⟩⟩ rfl hn hl.1 rfl (lv_room hrest) hd (by rw [C.hR]; exact hcs)) hS (fun q _ h => hFc q h) hFc (fun r u t H1 locs1 ht hvm hw hB hz1 hk1 hS1 => ?_)
  obtain ⟨hP1, hK1, hD1⟩ := hB
  rw [ht] at hP1
  obtain ⟨hP2, hD2⟩ := pm_join hPw hDw hk1 hFc hP1 hD1
  exact kk r u hw H1 locs1 la (pm_P hP2 (fun x hx => (hpm2 u).mem_iff.mpr hx)) (pm_D hD2 (hpm2 u)) hS1 hl
theorem p_callSV {D : gD} {tys tys1 : List (ClassId × FieldType)} {E : gE} {rm : Room} {cc : ByteArray} {nL : Nat} {own : String} {A : Nat → Prop} {Q : State → Prop} {cells slots : Nat} {w : va_W} {ls : List (Nat × Value)} {pc : Nat} {st rest : List Value} (C : Cx D tys E rm cc nL own A) (hty : ∀ U : State, va_K D.1 vwCl tys U → va_K D.1 vwCl tys1 U) {y : MethodName} {bytes : ByteArray} {maxL n idx : Nat} {rm' : Room} {As : List Value} {wc : va_W} (wr : va_W) {S : Type} {w1' : S → va_W} {K : S → Prop}
    (hc : CtV E.2.1 D tys1 y bytes maxL rm' (As) wc w1' K) (F : CallF own idx y bytes maxL none n) (hi : Cond.static y ∈ gtbl) (hn : As.length = n) (hR : rm'.frames + 1 ≤ rm.frames ∧ 8 + (maxL + 11) + rm'.locals ≤ rm.locals) (hcs : cells + rm'.cells ≤ rm.cells ∧ slots + rm'.slots ≤ rm.slots)
    (hpm : w.Perm (wc ++ wr)) (w2 : S → va_W) (hpm2 : ∀ u, (w1' u ++ wr).Perm (w2 u))
    (hst : st = As.reverse ++ rest) (hrest : (rest.map fun v => v.category).sum ≤ 8) (hd : decode cc pc = .ok (.invokestatic idx, 3))
    (kk : ∀ (u : S), K u → Go D E A Q nL (cells + rm'.cells) (slots + rm'.slots) (w2 u) ls (pc + 3) (rest)) : Go D E A Q nL cells slots w ls pc st := by
  intro Hp locs la hP hD hS hl
  subst hst
  have hPw := pm_P hP (fun x hx => hpm.mem_iff.mpr hx)
  have hDw := pm_D hD hpm
  have hPc : va_P D.1 vwCl wc Hp := pm_P hPw (fun x hx => List.mem_append_left _ hx)
  have hDc : va_D A wc := pm_l hDw
  have hFc := pm_free hDw hS C.hA
  refine va_callv (va_runS (As := As) (rest := rest) ⟨C.hx, C.hb, C.hml, C.hown, C.hts⟩ (hc Hp.size) ⟨callB_of n C.hts (wT_good F.1) rfl rfl rfl (C.hts _ F.2.2.1) (C.hts _ F.2.1) F.2.2.2 (by rw [C.hR]; exact hR), C.hts _ hi⟩ ⟨CtP.blind, fun U hU hW => ⟨rfl, by rw [hU], by rw [hU]; exact hPc, va_K.moved hW.alike (hty _ C.hK), hDc.weaken (fun _ _ _ _ => trivial), by rw [hU]; exact C.hF.warm hW hS.2.1 hFc⟩⟩ rfl hn hl.1 rfl (lv_room hrest) hd (by rw [C.hR]; exact hcs)) hS (fun q _ h => hFc q h) hFc (fun u t H1 locs1 ht hvm hw hB hz1 hk1 hS1 => ?_)
  obtain ⟨hP1, hK1, hD1⟩ := hB
  rw [ht] at hP1
  obtain ⟨hP2, hD2⟩ := pm_join hPw hDw hk1 hFc hP1 hD1
  exact kk u hw H1 locs1 la (pm_P hP2 (fun x hx => (hpm2 u).mem_iff.mpr hx)) (pm_D hD2 (hpm2 u)) hS1 hl
theorem p_callSQ {D : gD} {tys tys1 : List (ClassId × FieldType)} {E : gE} {rm : Room} {cc : ByteArray} {nL : Nat} {own : String} {A : Nat → Prop} {Q : State → Prop} {cells slots : Nat} {w : va_W} {ls : List (Nat × Value)} {pc : Nat} {st rest : List Value} (C : Cx D tys E rm cc nL own A) (hty : ∀ U : State, va_K D.1 vwCl tys U → va_K D.1 vwCl tys1 U) {y : MethodName} {bytes : ByteArray} {maxL n idx : Nat} {rt : FieldType} {rm' : Room} {As : List Value} {wc : va_W} (wr : va_W) {S : Type} {w1' : S → va_W} {K : Nat → S → Prop}
    (hc : CtQ E.2.1 D tys1 y bytes maxL rt rm' (As) wc w1' K) (F : CallF own idx y bytes maxL (some rt) n) (hi : Cond.static y ∈ gtbl) (hn : As.length = n) (hR : rm'.frames + 1 ≤ rm.frames ∧ 8 + (maxL + 11) + rm'.locals ≤ rm.locals) (hcs : cells + rm'.cells ≤ rm.cells ∧ slots + rm'.slots ≤ rm.slots)
    (hpm : w.Perm (wc ++ wr)) (w2 : S → va_W) (hpm2 : ∀ u, (w1' u ++ wr).Perm (w2 u))
    (hst : st = As.reverse ++ rest) (hrest : (rest.map fun v => v.category).sum ≤ 8) (hd : decode cc pc = .ok (.invokestatic idx, 3))
    (kk : ∀ (r : Nat) (u : S), K r u → Go D E A Q nL (cells + rm'.cells) (slots + rm'.slots) (w2 u) ls (pc + 3) (.ref r :: rest)) : Go D E A Q nL cells slots w ls pc st := by
  intro Hp locs la hP hD hS hl
  subst hst
  have hPw := pm_P hP (fun x hx => hpm.mem_iff.mpr hx)
  have hDw := pm_D hD hpm
  have hPc : va_P D.1 vwCl wc Hp := pm_P hPw (fun x hx => List.mem_append_left _ hx)
  have hDc : va_D A wc := pm_l hDw
  have hFc := pm_free hDw hS C.hA
  refine va_callr (va_runS (As := As) (rest := rest) ⟨C.hx, C.hb, C.hml, C.hown, C.hts⟩ (hc Hp.size) ⟨callB_of n C.hts (wT_good F.1) rfl rfl rfl (C.hts _ F.2.2.1) (C.hts _ F.2.1) F.2.2.2 (by rw [C.hR]; exact hR), C.hts _ hi⟩ ⟨CtP.blind, fun U hU hW => ⟨rfl, by rw [hU], by rw [hU]; exact hPc, va_K.moved hW.alike (hty _ C.hK), hDc.weaken (fun _ _ _ _ => trivial), by rw [hU]; exact C.hF.warm hW hS.2.1 hFc⟩⟩ rfl hn hl.1 rfl (lv_room hrest) hd (by rw [C.hR]; exact hcs)) hS (fun q _ h => hFc q h) hFc (fun u r t H1 locs1 ht hvm hw0 hB hz1 hk1 hS1 => ?_)
  obtain ⟨hw, hP1, hK1, hD1⟩ := hB
  rw [ht] at hP1
  obtain ⟨hP2, hD2⟩ := pm_join hPw hDw hk1 hFc hP1 hD1
  exact kk r u hw H1 locs1 la (pm_P hP2 (fun x hx => (hpm2 u).mem_iff.mpr hx)) (pm_D hD2 (hpm2 u)) hS1 hl
theorem p_callIV {D : gD} {tys tys1 : List (ClassId × FieldType)} {E : gE} {rm : Room} {cc : ByteArray} {nL : Nat} {own : String} {A : Nat → Prop} {Q : State → Prop} {cells slots : Nat} {w : va_W} {ls : List (Nat × Value)} {pc : Nat} {st rest : List Value} (C : Cx D tys E rm cc nL own A) (hty : ∀ U : State, va_K D.1 vwCl tys U → va_K D.1 vwCl tys1 U) {y : MethodName} {bytes : ByteArray} {maxL n idx : Nat} {rm' : Room} {As : List Value} {wc : va_W} (wr : va_W) {S : Type} {w1' : S → va_W} {K : S → Prop} {b : Nat}
    (hc : CtV E.2.1 D tys1 y bytes maxL rm' (.ref b :: As) wc w1' K) (F : CallF own idx y bytes maxL none n) (hi : Cond.instanceMethod y ∈ gtbl) (hy1 : y.name = "<init>") (hn : As.length = n) (hR : rm'.frames + 1 ≤ rm.frames ∧ 8 + (maxL + 11) + rm'.locals ≤ rm.locals) (hcs : cells + rm'.cells ≤ rm.cells ∧ slots + rm'.slots ≤ rm.slots)
    (hpm : w.Perm (wc ++ wr)) (w2 : S → va_W) (hpm2 : ∀ u, (w1' u ++ wr).Perm (w2 u))
    (hst : st = As.reverse ++ .ref b :: rest) (hrest : (rest.map fun v => v.category).sum ≤ 8) (hd : decode cc pc = .ok (.invokespecial idx, 3))
    (kk : ∀ (u : S), K u → Go D E A Q nL (cells + rm'.cells) (slots + rm'.slots) (w2 u) ls (pc + 3) (rest)) : Go D E A Q nL cells slots w ls pc st := by
  intro Hp locs la hP hD hS hl
  subst hst
  have hPw := pm_P hP (fun x hx => hpm.mem_iff.mpr hx)
  have hDw := pm_D hD hpm
  have hPc : va_P D.1 vwCl wc Hp := pm_P hPw (fun x hx => List.mem_append_left _ hx)
  have hDc : va_D A wc := pm_l hDw
  have hFc := pm_free hDw hS C.hA
  refine va_callv (va_runI (As := As) (rest := rest) ⟨C.hx, C.hb, C.hml, C.hown, C.hts⟩ (hc Hp.size) ⟨callB_of n C.hts (wT_good F.1) rfl rfl rfl (C.hts _ F.2.2.1) (C.hts _ F.2.1) F.2.2.2 (by rw [C.hR]; exact hR), hy1, C.hts _ hi⟩ ⟨CtP.blind, fun U hU hW => ⟨rfl, by rw [hU], by rw [hU]; exact hPc, va_K.moved hW.alike (hty _ C.hK), hDc.weaken (fun _ _ _ _ => trivial), by rw [hU]; exact C.hF.warm hW hS.2.1 hFc⟩⟩ rfl hn hl.1 rfl (lv_room hrest) hd (by rw [C.hR]; exact hcs)) hS (fun q _ h => hFc q h) hFc (fun u t H1 locs1 ht hvm hw hB hz1 hk1 hS1 => ?_)
  obtain ⟨hP1, hK1, hD1⟩ := hB
  rw [ht] at hP1
  obtain ⟨hP2, hD2⟩ := pm_join hPw hDw hk1 hFc hP1 hD1
  exact kk u hw H1 locs1 la (pm_P hP2 (fun x hx => (hpm2 u).mem_iff.mpr hx)) (pm_D hD2 (hpm2 u)) hS1 hl
theorem p_callINV {D : gD} {tys tys1 : List (ClassId × FieldType)} {E : gE} {rm : Room} {cc : ByteArray} {nL : Nat} {own : String} {A : Nat → Prop} {Q : State → Prop} {cells slots : Nat} {w : va_W} {ls : List (Nat × Value)} {pc : Nat} {st rest : List Value} (C : Cx D tys E rm cc nL own A) (hty : ∀ U : State, va_K D.1 vwCl tys U → va_K D.1 vwCl tys1 U) {y : MethodName} {bytes : ByteArray} {maxL n idx : Nat} {rm' : Room} {As : List Value} {wc : va_W} (wr : va_W) {S : Type} {w1' : S → va_W} {K : S → Prop} {b : Nat} {host : String}
    (hc : CtV E.2.1 D tys1 y bytes maxL rm' (.ref b :: As) wc w1' K) (hcode : Cond.code y bytes maxL none ∈ gtbl) (hini : Cond.initialized y.cls ∈ gtbl) (hd4 : y.cls ≠ "java/lang/invoke/MethodHandle" ∧ y.cls ≠ "java/lang/invoke/VarHandle" ∧ (parseMethodDescriptor y.desc).map (fun d => d.parameters.length) = some n) (hnest : Cond.methodLinkNest own idx y host ∈ lw_tbl) (hi : Cond.instanceMethod y ∈ gtbl) (hy1 : y.name = "<init>") (hn : As.length = n) (hR : rm'.frames + 1 ≤ rm.frames ∧ 8 + (maxL + 11) + rm'.locals ≤ rm.locals) (hcs : cells + rm'.cells ≤ rm.cells ∧ slots + rm'.slots ≤ rm.slots)
    (hpm : w.Perm (wc ++ wr)) (w2 : S → va_W) (hpm2 : ∀ u, (w1' u ++ wr).Perm (w2 u))
    (hst : st = As.reverse ++ .ref b :: rest) (hrest : (rest.map fun v => v.category).sum ≤ 8) (hd : decode cc pc = .ok (.invokespecial idx, 3))
    (kk : ∀ (u : S), K u → Go D E A Q nL (cells + rm'.cells) (slots + rm'.slots) (w2 u) ls (pc + 3) (rest)) : Go D E A Q nL cells slots w ls pc st := by
  intro Hp locs la hP hD hS hl
  subst hst
  have hPw := pm_P hP (fun x hx => hpm.mem_iff.mpr hx)
  have hDw := pm_D hD hpm
  have hPc : va_P D.1 vwCl wc Hp := pm_P hPw (fun x hx => List.mem_append_left _ hx)
  have hDc : va_D A wc := pm_l hDw
  have hFc := pm_free hDw hS C.hA
  refine va_callv (va_runIN (As := As) (rest := rest) ⟨C.hx, C.hb, C.hml, C.hown, C.hts⟩ (hc Hp.size) ⟨va_cnB n C.hts (wT_good hcode) rfl rfl rfl (C.hF.1 _ hnest rfl) (C.hts _ hini) hd4 (by rw [C.hR]; exact hR), hy1, C.hts _ hi⟩ ⟨CtP.blind, fun U hU hW => ⟨rfl, by rw [hU], by rw [hU]; exact hPc, va_K.moved hW.alike (hty _ C.hK), hDc.weaken (fun _ _ _ _ => trivial), by rw [hU]; exact C.hF.warm hW hS.2.1 hFc⟩⟩ rfl hn hl.1 rfl (lv_room hrest) hd (by rw [C.hR]; exact hcs)) hS (fun q _ h => hFc q h) hFc (fun u t H1 locs1 ht hvm hw hB hz1 hk1 hS1 => ?_)
  obtain ⟨hP1, hK1, hD1⟩ := hB
  rw [ht] at hP1
  obtain ⟨hP2, hD2⟩ := pm_join hPw hDw hk1 hFc hP1 hD1
  exact kk u hw H1 locs1 la (pm_P hP2 (fun x hx => (hpm2 u).mem_iff.mpr hx)) (pm_D hD2 (hpm2 u)) hS1 hl
theorem p_callUI {D : gD} {tys tys1 : List (ClassId × FieldType)} {E : gE} {rm : Room} {cc : ByteArray} {nL : Nat} {own : String} {A : Nat → Prop} {Q : State → Prop} {cells slots : Nat} {w : va_W} {ls : List (Nat × Value)} {pc : Nat} {st rest : List Value} (C : Cx D tys E rm cc nL own A) (hty : ∀ U : State, va_K D.1 vwCl tys U → va_K D.1 vwCl tys1 U) {y : MethodName} {bytes : ByteArray} {maxL n idx : Nat} {rt : FieldType} {rm' : Room} {As : List Value} {wc : va_W} (wr : va_W) {S : Type} {w1' : S → va_W} {K : Int32 → S → Prop} {b : Nat} {cn owner : String} {x : MethodName}
    (hc : CtI E.2.1 D tys1 y bytes maxL rt rm' (.ref b :: As) wc w1' K) (F : GoodIn gtbl (va_wsU own idx cn owner x y (wT y bytes maxL (some rt)))) (hxy : y = ⟨owner, x.name, x.desc⟩) (hd4 : owner ≠ "java/lang/invoke/MethodHandle" ∧ owner ≠ "java/lang/invoke/VarHandle" ∧ (parseMethodDescriptor x.desc).map (fun d => d.parameters.length) = some n) (hrv : hRv D w b cn) (hn : As.length = n) (hR : rm'.frames + 1 ≤ rm.frames ∧ 8 + (maxL + 11) + rm'.locals ≤ rm.locals) (hcs : cells + rm'.cells ≤ rm.cells ∧ slots + rm'.slots ≤ rm.slots)
    (hpm : w.Perm (wc ++ wr)) (w2 : S → va_W) (hpm2 : ∀ u, (w1' u ++ wr).Perm (w2 u))
    (hst : st = As.reverse ++ .ref b :: rest) (hrest : (rest.map fun v => v.category).sum ≤ 8) (hd : decode cc pc = .ok (.invokevirtual idx, 3))
    (kk : ∀ (r : Int32) (u : S), K r u → Go D E A Q nL (cells + rm'.cells) (slots + rm'.slots) (w2 u) ls (pc + 3) (.int r :: rest)) : Go D E A Q nL cells slots w ls pc st := by
  intro Hp locs la hP hD hS hl
  subst hst
  have hPw := pm_P hP (fun x hx => hpm.mem_iff.mpr hx)
  have hDw := pm_D hD hpm
  have hPc : va_P D.1 vwCl wc Hp := pm_P hPw (fun x hx => List.mem_append_left _ hx)
  have hDc : va_D A wc := pm_l hDw
  have hFc := pm_free hDw hS C.hA
  refine va_calli (va_runU (As := As) (rest := rest) ⟨C.hx, C.hb, C.hml, C.hown, C.hts⟩ (hc Hp.size) (va_cwU n C.hts F rfl rfl rfl hxy hd4 (by rw [C.hR]; exact hR)) ⟨CtP.blind, hRv_cell C hP hS hrv, fun U hU hW => ⟨rfl, by rw [hU], by rw [hU]; exact hPc, va_K.moved hW.alike (hty _ C.hK), hDc.weaken (fun _ _ _ _ => trivial), by rw [hU]; exact C.hF.warm hW hS.2.1 hFc⟩⟩ rfl hn hl.1 rfl (lv_room hrest) hd (by rw [C.hR]; exact hcs)) hS (fun q _ h => hFc q h) hFc (fun r u t H1 locs1 ht hvm hw hB hz1 hk1 hS1 => ?_)
  obtain ⟨hP1, hK1, hD1⟩ := hB
  rw [ht] at hP1
  obtain ⟨hP2, hD2⟩ := pm_join hPw hDw hk1 hFc hP1 hD1
  exact kk r u hw H1 locs1 la (pm_P hP2 (fun x hx => (hpm2 u).mem_iff.mpr hx)) (pm_D hD2 (hpm2 u)) hS1 hl
theorem p_callUV {D : gD} {tys tys1 : List (ClassId × FieldType)} {E : gE} {rm : Room} {cc : ByteArray} {nL : Nat} {own : String} {A : Nat → Prop} {Q : State → Prop} {cells slots : Nat} {w : va_W} {ls : List (Nat × Value)} {pc : Nat} {st rest : List Value} (C : Cx D tys E rm cc nL own A) (hty : ∀ U : State, va_K D.1 vwCl tys U → va_K D.1 vwCl tys1 U) {y : MethodName} {bytes : ByteArray} {maxL n idx : Nat} {rm' : Room} {As : List Value} {wc : va_W} (wr : va_W) {S : Type} {w1' : S → va_W} {K : S → Prop} {b : Nat} {cn owner : String} {x : MethodName}
    (hc : CtV E.2.1 D tys1 y bytes maxL rm' (.ref b :: As) wc w1' K) (F : GoodIn gtbl (va_wsU own idx cn owner x y (wT y bytes maxL none))) (hxy : y = ⟨owner, x.name, x.desc⟩) (hd4 : owner ≠ "java/lang/invoke/MethodHandle" ∧ owner ≠ "java/lang/invoke/VarHandle" ∧ (parseMethodDescriptor x.desc).map (fun d => d.parameters.length) = some n) (hrv : hRv D w b cn) (hn : As.length = n) (hR : rm'.frames + 1 ≤ rm.frames ∧ 8 + (maxL + 11) + rm'.locals ≤ rm.locals) (hcs : cells + rm'.cells ≤ rm.cells ∧ slots + rm'.slots ≤ rm.slots)
    (hpm : w.Perm (wc ++ wr)) (w2 : S → va_W) (hpm2 : ∀ u, (w1' u ++ wr).Perm (w2 u))
    (hst : st = As.reverse ++ .ref b :: rest) (hrest : (rest.map fun v => v.category).sum ≤ 8) (hd : decode cc pc = .ok (.invokevirtual idx, 3))
    (kk : ∀ (u : S), K u → Go D E A Q nL (cells + rm'.cells) (slots + rm'.slots) (w2 u) ls (pc + 3) (rest)) : Go D E A Q nL cells slots w ls pc st := by
  intro Hp locs la hP hD hS hl
  subst hst
  have hPw := pm_P hP (fun x hx => hpm.mem_iff.mpr hx)
  have hDw := pm_D hD hpm
  have hPc : va_P D.1 vwCl wc Hp := pm_P hPw (fun x hx => List.mem_append_left _ hx)
  have hDc : va_D A wc := pm_l hDw
  have hFc := pm_free hDw hS C.hA
  refine va_callv (va_runU (As := As) (rest := rest) ⟨C.hx, C.hb, C.hml, C.hown, C.hts⟩ (hc Hp.size) (va_cwU n C.hts F rfl rfl rfl hxy hd4 (by rw [C.hR]; exact hR)) ⟨CtP.blind, hRv_cell C hP hS hrv, fun U hU hW => ⟨rfl, by rw [hU], by rw [hU]; exact hPc, va_K.moved hW.alike (hty _ C.hK), hDc.weaken (fun _ _ _ _ => trivial), by rw [hU]; exact C.hF.warm hW hS.2.1 hFc⟩⟩ rfl hn hl.1 rfl (lv_room hrest) hd (by rw [C.hR]; exact hcs)) hS (fun q _ h => hFc q h) hFc (fun u t H1 locs1 ht hvm hw hB hz1 hk1 hS1 => ?_)
  obtain ⟨hP1, hK1, hD1⟩ := hB
  rw [ht] at hP1
  obtain ⟨hP2, hD2⟩ := pm_join hPw hDw hk1 hFc hP1 hD1
  exact kk u hw H1 locs1 la (pm_P hP2 (fun x hx => (hpm2 u).mem_iff.mpr hx)) (pm_D hD2 (hpm2 u)) hS1 hl
theorem p_callUQ {D : gD} {tys tys1 : List (ClassId × FieldType)} {E : gE} {rm : Room} {cc : ByteArray} {nL : Nat} {own : String} {A : Nat → Prop} {Q : State → Prop} {cells slots : Nat} {w : va_W} {ls : List (Nat × Value)} {pc : Nat} {st rest : List Value} (C : Cx D tys E rm cc nL own A) (hty : ∀ U : State, va_K D.1 vwCl tys U → va_K D.1 vwCl tys1 U) {y : MethodName} {bytes : ByteArray} {maxL n idx : Nat} {rt : FieldType} {rm' : Room} {As : List Value} {wc : va_W} (wr : va_W) {S : Type} {w1' : S → va_W} {K : Nat → S → Prop} {b : Nat} {cn owner : String} {x : MethodName}
    (hc : CtQ E.2.1 D tys1 y bytes maxL rt rm' (.ref b :: As) wc w1' K) (F : GoodIn gtbl (va_wsU own idx cn owner x y (wT y bytes maxL (some rt)))) (hxy : y = ⟨owner, x.name, x.desc⟩) (hd4 : owner ≠ "java/lang/invoke/MethodHandle" ∧ owner ≠ "java/lang/invoke/VarHandle" ∧ (parseMethodDescriptor x.desc).map (fun d => d.parameters.length) = some n) (hrv : hRv D w b cn) (hn : As.length = n) (hR : rm'.frames + 1 ≤ rm.frames ∧ 8 + (maxL + 11) + rm'.locals ≤ rm.locals) (hcs : cells + rm'.cells ≤ rm.cells ∧ slots + rm'.slots ≤ rm.slots)
    (hpm : w.Perm (wc ++ wr)) (w2 : S → va_W) (hpm2 : ∀ u, (w1' u ++ wr).Perm (w2 u))
    (hst : st = As.reverse ++ .ref b :: rest) (hrest : (rest.map fun v => v.category).sum ≤ 8) (hd : decode cc pc = .ok (.invokevirtual idx, 3))
    (kk : ∀ (r : Nat) (u : S), K r u → Go D E A Q nL (cells + rm'.cells) (slots + rm'.slots) (w2 u) ls (pc + 3) (.ref r :: rest)) : Go D E A Q nL cells slots w ls pc st := by
  intro Hp locs la hP hD hS hl
  subst hst
  have hPw := pm_P hP (fun x hx => hpm.mem_iff.mpr hx)
  have hDw := pm_D hD hpm
  have hPc : va_P D.1 vwCl wc Hp := pm_P hPw (fun x hx => List.mem_append_left _ hx)
  have hDc : va_D A wc := pm_l hDw
  have hFc := pm_free hDw hS C.hA
  refine va_callr (va_runU (As := As) (rest := rest) ⟨C.hx, C.hb, C.hml, C.hown, C.hts⟩ (hc Hp.size) (va_cwU n C.hts F rfl rfl rfl hxy hd4 (by rw [C.hR]; exact hR)) ⟨CtP.blind, hRv_cell C hP hS hrv, fun U hU hW => ⟨rfl, by rw [hU], by rw [hU]; exact hPc, va_K.moved hW.alike (hty _ C.hK), hDc.weaken (fun _ _ _ _ => trivial), by rw [hU]; exact C.hF.warm hW hS.2.1 hFc⟩⟩ rfl hn hl.1 rfl (lv_room hrest) hd (by rw [C.hR]; exact hcs)) hS (fun q _ h => hFc q h) hFc (fun u r t H1 locs1 ht hvm hw0 hB hz1 hk1 hS1 => ?_)
  obtain ⟨hw, hP1, hK1, hD1⟩ := hB
  rw [ht] at hP1
  obtain ⟨hP2, hD2⟩ := pm_join hPw hDw hk1 hFc hP1 hD1
  exact kk r u hw H1 locs1 la (pm_P hP2 (fun x hx => (hpm2 u).mem_iff.mpr hx)) (pm_D hD2 (hpm2 u)) hS1 hl
theorem p_callOI {D : gD} {tys tys1 : List (ClassId × FieldType)} {E : gE} {rm : Room} {cc : ByteArray} {nL : Nat} {own : String} {A : Nat → Prop} {Q : State → Prop} {cells slots : Nat} {w : va_W} {ls : List (Nat × Value)} {pc : Nat} {st rest : List Value} (C : Cx D tys E rm cc nL own A) (hty : ∀ U : State, va_K D.1 vwCl tys U → va_K D.1 vwCl tys1 U) {y : MethodName} {bytes : ByteArray} {maxL n idx : Nat} {rt : FieldType} {rm' : Room} {As : List Value} {wc : va_W} (wr : va_W) {S : Type} {w1' : S → va_W} {K : Int32 → S → Prop} {b : Nat} {cn owner : String} {x : MethodName} {b0 : ByteArray} {m0 : Nat} {r0 : Option FieldType}
    (hc : CtI E.2.1 D tys1 y bytes maxL rt rm' (.ref b :: As) wc w1' K) (F : GoodIn gtbl (va_wsO own idx cn owner x y (wT y bytes maxL (some rt)))) (h0 : Cond.code ⟨owner, x.name, x.desc⟩ b0 m0 r0 ∈ gtbl) (hd4 : owner ≠ "java/lang/invoke/MethodHandle" ∧ owner ≠ "java/lang/invoke/VarHandle" ∧ (parseMethodDescriptor x.desc).map (fun d => d.parameters.length) = some n) (hrv : hRv D w b cn) (hn : As.length = n) (hR : rm'.frames + 1 ≤ rm.frames ∧ 8 + (maxL + 11) + rm'.locals ≤ rm.locals) (hcs : cells + rm'.cells ≤ rm.cells ∧ slots + rm'.slots ≤ rm.slots)
    (hpm : w.Perm (wc ++ wr)) (w2 : S → va_W) (hpm2 : ∀ u, (w1' u ++ wr).Perm (w2 u))
    (hst : st = As.reverse ++ .ref b :: rest) (hrest : (rest.map fun v => v.category).sum ≤ 8) (hd : decode cc pc = .ok (.invokevirtual idx, 3))
    (kk : ∀ (r : Int32) (u : S), K r u → Go D E A Q nL (cells + rm'.cells) (slots + rm'.slots) (w2 u) ls (pc + 3) (.int r :: rest)) : Go D E A Q nL cells slots w ls pc st := by
  intro Hp locs la hP hD hS hl
  subst hst
  have hPw := pm_P hP (fun x hx => hpm.mem_iff.mpr hx)
  have hDw := pm_D hD hpm
  have hPc : va_P D.1 vwCl wc Hp := pm_P hPw (fun x hx => List.mem_append_left _ hx)
  have hDc : va_D A wc := pm_l hDw
  have hFc := pm_free hDw hS C.hA
  refine va_calli (va_runU (As := As) (rest := rest) ⟨C.hx, C.hb, C.hml, C.hown, C.hts⟩ (hc Hp.size) (va_cwO n C.hts F rfl rfl rfl h0 hd4 (by rw [C.hR]; exact hR)) ⟨CtP.blind, hRv_cell C hP hS hrv, fun U hU hW => ⟨rfl, by rw [hU], by rw [hU]; exact hPc, va_K.moved hW.alike (hty _ C.hK), hDc.weaken (fun _ _ _ _ => trivial), by rw [hU]; exact C.hF.warm hW hS.2.1 hFc⟩⟩ rfl hn hl.1 rfl (lv_room hrest) hd (by rw [C.hR]; exact hcs)) hS (fun q _ h => hFc q h) hFc (fun r u t H1 locs1 ht hvm hw hB hz1 hk1 hS1 => ?_)
  obtain ⟨hP1, hK1, hD1⟩ := hB
  rw [ht] at hP1
  obtain ⟨hP2, hD2⟩ := pm_join hPw hDw hk1 hFc hP1 hD1
  exact kk r u hw H1 locs1 la (pm_P hP2 (fun x hx => (hpm2 u).mem_iff.mpr hx)) (pm_D hD2 (hpm2 u)) hS1 hl
theorem p_callSUI {D : gD} {tys tys1 : List (ClassId × FieldType)} {E : gE} {rm : Room} {cc : ByteArray} {nL : Nat} {own : String} {A : Nat → Prop} {Q : State → Prop} {cells slots : Nat} {w : va_W} {ls : List (Nat × Value)} {pc : Nat} {st rest : List Value} (C : Cx D tys E rm cc nL own A) (hty : ∀ U : State, va_K D.1 vwCl tys U → va_K D.1 vwCl tys1 U) {y : MethodName} {bytes : ByteArray} {maxL n idx : Nat} {rt : FieldType} {rm' : Room} {As : List Value} {wc : va_W} (wr : va_W) {S : Type} {w1' : S → va_W} {K : Int32 → S → Prop} {b : Nat} {cn : String} {cC : ClassId}
    (hc : CtI E.2.1 D tys1 y bytes maxL rt rm' (.ref b :: As) wc w1' K) (hCA : ClassAt E.2.2.2.2.1 cn cC) (F : GoodIn gtbl (va_wsSU own idx y (wT y bytes maxL (some rt)))) (hd4 : y.name ≠ "<init>" ∧ (parseMethodDescriptor y.desc).map (fun d => d.parameters.length) = some n) (hrv : hRv D w b cn) (hn : As.length = n) (hR : rm'.frames + 1 ≤ rm.frames ∧ 8 + (maxL + 11) + rm'.locals ≤ rm.locals) (hcs : cells + rm'.cells ≤ rm.cells ∧ slots + rm'.slots ≤ rm.slots)
    (hpm : w.Perm (wc ++ wr)) (w2 : S → va_W) (hpm2 : ∀ u, (w1' u ++ wr).Perm (w2 u))
    (hst : st = As.reverse ++ .ref b :: rest) (hrest : (rest.map fun v => v.category).sum ≤ 8) (hd : decode cc pc = .ok (.invokespecial idx, 3))
    (kk : ∀ (r : Int32) (u : S), K r u → Go D E A Q nL (cells + rm'.cells) (slots + rm'.slots) (w2 u) ls (pc + 3) (.int r :: rest)) : Go D E A Q nL cells slots w ls pc st := by
  intro Hp locs la hP hD hS hl
  subst hst
  have hPw := pm_P hP (fun x hx => hpm.mem_iff.mpr hx)
  have hDw := pm_D hD hpm
  have hPc : va_P D.1 vwCl wc Hp := pm_P hPw (fun x hx => List.mem_append_left _ hx)
  have hDc : va_D A wc := pm_l hDw
  have hFc := pm_free hDw hS C.hA
  refine va_calli (va_runSU (As := As) (rest := rest) hCA ⟨C.hx, C.hb, C.hml, C.hown, C.hts⟩ (hc Hp.size) (va_cwSU n C.hts F rfl rfl rfl hd4 (by rw [C.hR]; exact hR)) ⟨CtP.blind, hRv_cell C hP hS hrv, fun U hU hW => ⟨rfl, by rw [hU], by rw [hU]; exact hPc, va_K.moved hW.alike (hty _ C.hK), hDc.weaken (fun _ _ _ _ => trivial), by rw [hU]; exact C.hF.warm hW hS.2.1 hFc⟩⟩ rfl hn hl.1 rfl (lv_room hrest) hd (by rw [C.hR]; exact hcs)) hS (fun q _ h => hFc q h) hFc (fun r u t H1 locs1 ht hvm hw hB hz1 hk1 hS1 => ?_)
  obtain ⟨hP1, hK1, hD1⟩ := hB
  rw [ht] at hP1
  obtain ⟨hP2, hD2⟩ := pm_join hPw hDw hk1 hFc hP1 hD1
  exact kk r u hw H1 locs1 la (pm_P hP2 (fun x hx => (hpm2 u).mem_iff.mpr hx)) (pm_D hD2 (hpm2 u)) hS1 hl
theorem p_callSUQ {D : gD} {tys tys1 : List (ClassId × FieldType)} {E : gE} {rm : Room} {cc : ByteArray} {nL : Nat} {own : String} {A : Nat → Prop} {Q : State → Prop} {cells slots : Nat} {w : va_W} {ls : List (Nat × Value)} {pc : Nat} {st rest : List Value} (C : Cx D tys E rm cc nL own A) (hty : ∀ U : State, va_K D.1 vwCl tys U → va_K D.1 vwCl tys1 U) {y : MethodName} {bytes : ByteArray} {maxL n idx : Nat} {rt : FieldType} {rm' : Room} {As : List Value} {wc : va_W} (wr : va_W) {S : Type} {w1' : S → va_W} {K : Nat → S → Prop} {b : Nat} {cn : String} {cC : ClassId}
    (hc : CtQ E.2.1 D tys1 y bytes maxL rt rm' (.ref b :: As) wc w1' K) (hCA : ClassAt E.2.2.2.2.1 cn cC) (F : GoodIn gtbl (va_wsSU own idx y (wT y bytes maxL (some rt)))) (hd4 : y.name ≠ "<init>" ∧ (parseMethodDescriptor y.desc).map (fun d => d.parameters.length) = some n) (hrv : hRv D w b cn) (hn : As.length = n) (hR : rm'.frames + 1 ≤ rm.frames ∧ 8 + (maxL + 11) + rm'.locals ≤ rm.locals) (hcs : cells + rm'.cells ≤ rm.cells ∧ slots + rm'.slots ≤ rm.slots)
    (hpm : w.Perm (wc ++ wr)) (w2 : S → va_W) (hpm2 : ∀ u, (w1' u ++ wr).Perm (w2 u))
    (hst : st = As.reverse ++ .ref b :: rest) (hrest : (rest.map fun v => v.category).sum ≤ 8) (hd : decode cc pc = .ok (.invokespecial idx, 3))
    (kk : ∀ (r : Nat) (u : S), K r u → Go D E A Q nL (cells + rm'.cells) (slots + rm'.slots) (w2 u) ls (pc + 3) (.ref r :: rest)) : Go D E A Q nL cells slots w ls pc st := by
  intro Hp locs la hP hD hS hl
  subst hst
  have hPw := pm_P hP (fun x hx => hpm.mem_iff.mpr hx)
  have hDw := pm_D hD hpm
  have hPc : va_P D.1 vwCl wc Hp := pm_P hPw (fun x hx => List.mem_append_left _ hx)
  have hDc : va_D A wc := pm_l hDw
  have hFc := pm_free hDw hS C.hA
  refine va_callr (va_runSU (As := As) (rest := rest) hCA ⟨C.hx, C.hb, C.hml, C.hown, C.hts⟩ (hc Hp.size) (va_cwSU n C.hts F rfl rfl rfl hd4 (by rw [C.hR]; exact hR)) ⟨CtP.blind, hRv_cell C hP hS hrv, fun U hU hW => ⟨rfl, by rw [hU], by rw [hU]; exact hPc, va_K.moved hW.alike (hty _ C.hK), hDc.weaken (fun _ _ _ _ => trivial), by rw [hU]; exact C.hF.warm hW hS.2.1 hFc⟩⟩ rfl hn hl.1 rfl (lv_room hrest) hd (by rw [C.hR]; exact hcs)) hS (fun q _ h => hFc q h) hFc (fun u r t H1 locs1 ht hvm hw0 hB hz1 hk1 hS1 => ?_)
  obtain ⟨hw, hP1, hK1, hD1⟩ := hB
  rw [ht] at hP1
  obtain ⟨hP2, hD2⟩ := pm_join hPw hDw hk1 hFc hP1 hD1
  exact kk r u hw H1 locs1 la (pm_P hP2 (fun x hx => (hpm2 u).mem_iff.mpr hx)) (pm_D hD2 (hpm2 u)) hS1 hl
end HCALL
