/-! Words of inherited calls. -/
section SEL
theorem sel_up {C : String} {y y0 : MethodName} {s : State} {args : Array Value} (hy : y.cls ≠ "java/lang/invoke/MethodHandle" ∧ y.cls ≠ "java/lang/invoke/VarHandle") (hcl : y0.cls = y.cls)
    (h0 : (Cond.selects C y0 y0).before args s = true) (hpriv : (Cond.privateMethod y).before args s = true) (hinst : (Cond.instanceMethod y).before args s = true) : (Cond.selects C y y).before args s = true := by
  obtain ⟨mk, methM, hnamed, hmethM, -, -⟩ := Cond.instanceMethod_spec hinst
  have hfound : s.methodFound? y.cls y.name y.desc = some mk := State.methodFound?_of_named hnamed hy
  have hcm := findClass_of_methodNamed hnamed
  unfold Cond.before at h0 ⊢
  simp only [Cond.holds, Cond.value] at h0 ⊢
  rcases e1 : s.vm.findClass C with _ | c
  · simp [e1] at h0
  rcases e2 : s.methodNamed? y0 with _ | m0
  · rcases e3 : s.methodFound? y0.cls y0.name y0.desc with _ | r0 <;> simp [e1, e2, e3] at h0
  rcases e3 : s.methodFound? y0.cls y0.name y0.desc with _ | r0
  · simp [e1, e2, e3] at h0
  simp only [e1, e2, e3] at h0
  have hc0 := findClass_of_methodNamed e2
  have hcc : m0.cls = mk.cls := Option.some.inj (hc0.symm.trans (by rw [hcl]; exact hcm))
  have hsel : selectMethod {} s.vm c mk = .method mk := selectMethod_private hmethM (Cond.privateMethod_at hpriv mk methM hnamed hmethM)
  simp only [e1, hfound, hnamed, hsel]
  have h9 : (s.vm.classes[m0.cls]?).any (fun x => !x.isInterface) = true := by
    rcases e4 : selectMethod {} s.vm c r0 with _ | _ | _ | _
    all_goals first
      | (simp [e4] at h0; done)
      | (simp only [e4] at h0
         simp at h0
         simpa using h0.2)
  rw [hcc] at h9
  simpa using h9
theorem gu_of {own : String} {idx : Nat} {cn owner : String} {x y : MethodName} {bytes : ByteArray} {maxL : Nat} {ret : Option FieldType} (h1 : Cond.methodLink own idx x ∈ gtbl) (h2 : Cond.sameMethod x.cls owner x.name x.desc ∈ gtbl) (h3 : Cond.selects cn x y ∈ gtbl) (h4 : Cond.instanceMethod y ∈ gtbl) (h5 : Cond.initialized y.cls ∈ gtbl) (h6 : Cond.code y bytes maxL ret ∈ gtbl) : GoodIn gtbl (va_wsU own idx cn owner x y (wT y bytes maxL ret)) := by
  have g : ∀ w ∈ gtbl, w ∈ gtbl ∧ ((w.onTables && w.keeps) = true ∨ ∃ ty, w = .arrayClass ty) := fun w h => ⟨h, good_of_word (List.all_eq_true.mp gtbl_good _ h)⟩
  intro w hw
  unfold va_wsU at hw
  rcases List.mem_append.mp hw with hw | hw
  · simp only [List.mem_cons, List.not_mem_nil, or_false] at hw
    rcases hw with rfl | rfl | rfl | rfl | rfl
    · exact g _ h1
    · exact g _ h2
    · exact g _ h3
    · exact g _ h4
    · exact g _ h5
  · exact g w (wT_good h6 w hw).1
theorem go_of {own : String} {idx : Nat} {cn owner : String} {x y : MethodName} {bytes : ByteArray} {maxL : Nat} {ret : Option FieldType} (h1 : Cond.methodLink own idx x ∈ gtbl) (h2 : Cond.sameMethod x.cls owner x.name x.desc ∈ gtbl) (h7 : Cond.instanceMethod ⟨owner, x.name, x.desc⟩ ∈ gtbl) (h3 : Cond.selects cn x y ∈ gtbl) (h4 : Cond.instanceMethod y ∈ gtbl) (h5 : Cond.initialized y.cls ∈ gtbl) (h6 : Cond.code y bytes maxL ret ∈ gtbl) : GoodIn gtbl (va_wsO own idx cn owner x y (wT y bytes maxL ret)) := by
  have g : ∀ w ∈ gtbl, w ∈ gtbl ∧ ((w.onTables && w.keeps) = true ∨ ∃ ty, w = .arrayClass ty) := fun w h => ⟨h, good_of_word (List.all_eq_true.mp gtbl_good _ h)⟩
  intro w hw
  unfold va_wsO at hw
  rcases List.mem_append.mp hw with hw | hw
  · simp only [List.mem_cons, List.not_mem_nil, or_false] at hw
    rcases hw with rfl | rfl | rfl | rfl | rfl | rfl
    · exact g _ h1
    · exact g _ h2
    · exact g _ h7
    · exact g _ h3
    · exact g _ h4
    · exact g _ h5
  · exact g w (wT_good h6 w hw).1
theorem su_of {own : String} {idx : Nat} {y : MethodName} {bytes : ByteArray} {maxL : Nat} {ret : Option FieldType} (h1 : Cond.methodLink own idx y ∈ gtbl) (h2 : Cond.sameMethod y.cls y.cls y.name y.desc ∈ gtbl) (h3 : Cond.superclass own y.cls ∈ gtbl) (h4 : Cond.instanceMethod y ∈ gtbl) (h5 : Cond.initialized y.cls ∈ gtbl) (h6 : Cond.code y bytes maxL ret ∈ gtbl) : GoodIn gtbl (va_wsSU own idx y (wT y bytes maxL ret)) := by
  have g : ∀ w ∈ gtbl, w ∈ gtbl ∧ ((w.onTables && w.keeps) = true ∨ ∃ ty, w = .arrayClass ty) := fun w h => ⟨h, good_of_word (List.all_eq_true.mp gtbl_good _ h)⟩
  intro w hw
  unfold va_wsSU at hw
  rcases List.mem_append.mp hw with hw | hw
  · simp only [List.mem_cons, List.not_mem_nil, or_false] at hw
    rcases hw with rfl | rfl | rfl | rfl | rfl
    · exact g _ h1
    · exact g _ h2
    · exact g _ h3
    · exact g _ h4
    · exact g _ h5
  · exact g w (wT_good h6 w hw).1
end SEL
