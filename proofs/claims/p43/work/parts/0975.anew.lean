/-! Arrays of arrays: made. -/
section ANEWA
variable {p : Program} {l : Launch} {e : Env} {R : Room} {s : State} {m : MethodId} {args : Array Value} {below : List Frame} {meth : Method} {c : Code} {H : Heap} {locs : List Loc} {cells slots : Nat} {Q : State → Prop}
theorem ww_anewA {cc : ByteArray} (hexec : p.tables.exec = Jvm.exec) (hb : c.code = cc) {own : String} {index : Nat} {ty : FieldType} (hown : s.vm.findClass own = some m.cls) (hclink : (Cond.classLink own index (FieldType.array ty).toString).before args s = true) (hover : aF s ty)
    {pc : Nat} {ls : Array Slot} (hdg : decode cc pc = .ok (.anewarray index, 3)) {n : Int32} {rest : List Value} (hn : ¬ n < 0) (hbytes : n.toNatClampNeg * 4 ≤ 536870912) (hcells : cells + 1 ≤ R.cells) (hslots : slots + n.toNatClampNeg ≤ R.slots)
    (kk : ∀ cA : ClassId, s.vm.findClass ("[" ++ (FieldType.array ty).toString) = some cA →
      W p l e R s m args below meth c (H.push { cls := cA, slots := Array.replicate n.toNatClampNeg .null, vm := .none }) locs (cells + 1) (slots + n.toNatClampNeg) Q (F0 m (pc + 3) ls (.ref H.size :: rest))) : W p l e R s m args below meth c H locs cells slots Q (F0 m pc ls (.int n :: rest)) := by
  intro T hT X
  subst hT; subst hb
  have hpl : e.platform.magicAccessors = ({} : Platform).magicAccessors := by rw [X.admits.platform]
  obtain ⟨comp, cA, kA, g1, g2, g3, g4, g5⟩ := hover
  obtain ⟨kE, g6, -⟩ := Vm.findClass_spec g1
  obtain ⟨c9, g7, hcl⟩ := Cond.classLink_spec hown hclink e.platform hpl
  obtain rfl : c9 = comp := Option.some.inj (g7.symm.trans g1)
  obtain ⟨e1, e2, e3⟩ := State.classEntry (e := e) X.warmed hcl
  have hal := e2.alike
  obtain ⟨kE1, f6, -⟩ := hal.2.2 _ _ g6
  obtain ⟨kA1, f3, f4⟩ := hal.2.2 _ _ g3
  have f5 : kA1.kind = .array c9 (.array ty) := by rw [f4]; exact g4
  have f2 := (hal.findIdx?_eq (fun (x : Class) => match x.kind with | .array component _ => component == c9 | _ => false) (fun _ => rfl)).trans g2
  have hlim : ¬ n.toNatClampNeg > e.platform.arrayLengthLimit := by rw [Launch.admits_arrayLengthLimit X.admits]; omega
  have hmax : ¬ n.toNatClampNeg * componentBytes (.array ty) > e.platform.maxHeapBytes := by
    rw [Launch.admits_maxHeapBytes X.admits]
    show ¬ n.toNatClampNeg * 4 > 536870912
    omega
  have Y := (X.noted e2).pushed { cls := cA, slots := Array.replicate n.toNatClampNeg .null, vm := .none }
  rw [show (Array.replicate n.toNatClampNeg Value.null).size = n.toNatClampNeg by simp] at Y
  obtain ⟨r1, r2⟩ := X.roomAbove hcells hslots
  obtain ⟨t, a1, b1⟩ := kk cA g5 _ (by simp) Y
  refine ⟨t, ?_, b1⟩
  jvm_step X.here [hexec, hdg, anewarray.wp_cold (e := e) (s := T) (f := F0 m pc ls (.int n :: rest)) X.here.top e1 e3,
    anewarray.wp_ready (e := e) (s := T.setVm (T.vm.noted m.cls index (.cls c9))) (f := F0 m pc ls (.int n :: rest)) (kc := kE1) (k := kA1) (type := .array ty) X.here.top e3 f6 f2 f3 f5 rfl rfl hn hlim hmax]
  exact ⟨by show T.heap.size < _; omega, by show T.slotsUsed + _ ≤ _; exact r2, a1⟩
end ANEWA
section ANEWH
variable {D : gD} {E : gE} {rm : Room} {cc : ByteArray} {nL : Nat} {own : String} {A : Nat → Prop} {Q : State → Prop} {cells slots : Nat} {ls : List (Nat × Value)} {pc : Nat} {rest : List Value} {B : va_W} {H : gH}
theorem h_anewA (C : CL D E rm cc nL own A) {index : Nat} {ty : FieldType} (t0 : Nat) {cT : ClassId} (ht : (gU (zY D.2))[t0]? = some (cT, .array ty)) (hcl : Cond.classLink own index (FieldType.array ty).toString ∈ gtbl) (hov : aF E.2.2.2.2.1 ty) {n : Int32} (hd : decode cc pc = .ok (.anewarray index, 3)) (hn : ¬ n < 0) (hbytes : n.toNatClampNeg * 4 ≤ 536870912) (hcs : cells + 1 ≤ rm.cells ∧ slots + n.toNatClampNeg ≤ rm.slots) (kk : ∀ q : Nat, hpG H q = none → Go D E A Q nL (cells + 1) (slots + n.toNatClampNeg) (B ++ hpW (hpN H q (qE cT n.toNatClampNeg (fun _ => none)))) ls (pc + 3) (.ref q :: rest)) : Go D E A Q nL cells slots (B ++ hpW H) ls pc (.int n :: rest) := by
  intro Hp locs la hP hD hS hl
  refine ww_anewA C.hx C.hb C.hown (C.hts _ hcl) hov hd hn hbytes (by rw [C.hR]; exact hcs.1) (by rw [C.hR]; exact hcs.2) fun cA hA => ?_
  obtain rfl : cA = cT := Option.some.inj (hA.symm.trans (C.hK.2 t0 _ ht).2)
  generalize hH1 : Hp.push ({ cls := cA, slots := Array.replicate n.toNatClampNeg .null, vm := .none } : Cell) = H1
  have z1 : H1.size = Hp.size + 1 := by rw [← hH1, Array.size_push]
  have e1 : H1[Hp.size]? = some (arrV cA n.toNatClampNeg (fun _ => .null)) := by rw [← hH1, Array.getElem?_push_size, ← arrV_new]
  have o1 : ∀ q : Nat, q < Hp.size → H1[q]? = Hp[q]? := fun q hq => by rw [← hH1, Array.getElem?_push, if_neg (Nat.ne_of_lt hq)]
  have hk : ∀ (k : Nat) (x : Nat × va_E), (B ++ hpW H)[k]? = some x → H1[x.1]? = Hp[x.1]? := fun k x hx => o1 x.1 ((hP k x hx).lt)
  have hP1 : va_P D.1 vwCl ((B ++ hpW H) ++ [(Hp.size, qE cA n.toNatClampNeg (fun _ => none))]) H1 := (hP.kept hk).app (fun k x hx => by
    have hz : k < 1 := (List.getElem?_eq_some_iff.mp hx).1
    rw [show k = 0 by omega] at hx
    cases hx
    show H1[Hp.size]? = some (vp_cell _ _)
    rw [vp_cell_q]
    exact e1)
  have hD1 : va_D A ((B ++ hpW H) ++ [(Hp.size, qE cA n.toNatClampNeg (fun _ => none))]) := hD.push hP rfl (C.hA _ hS.1)
  have hq := hpW_new hD1
  rw [hpW_push hq] at hP1 hD1
  exact kk Hp.size hq H1 locs la hP1 hD1 ⟨Nat.le_trans hS.1 (by omega), fun x h1 h2 => (o1 x (Nat.lt_of_lt_of_le h1 hS.1)).trans (hS.2.1 x h1 h2), hS.2.2⟩ hl
end ANEWH
