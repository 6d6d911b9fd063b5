/-! texts -/
section STR
theorem vx_lt {D : va_G} {w : va_W} {H : Heap} {k : Nat} {q : Nat × va_E} (hP : va_P D vwCl w H) (hk : w[k]? = some q) : q.1 < H.size := (hP k q hk).lt
def kLn (i : Nat) : Int32 := Int32.ofNat (kLen i)
variable {D : gD} {tys : List (ClassId × FieldType)} {E : gE} {rm : Room} {cc : ByteArray} {nL : Nat} {own : String} {A : Nat → Prop} {Q : State → Prop} {cells slots : Nat} {w : va_W} {ls : List (Nat × Value)} {pc : Nat} {rest : List Value}
theorem Cx.str (C : Cx D tys E rm cc nL own A) {i : Nat} (hi : i < 52) : va_O "java/lang/String" (D.2.1 i) A E.2.2.2.2.1 E.2.2.2.2.1.heap ∧ va_OF "java/lang/String" "coder" "B" (.int 0) (D.2.1 i) A E.2.2.2.2.1 E.2.2.2.2.1.heap ∧ va_OF "java/lang/String" "value" "[B" (.ref (D.2.2.1 i)) (D.2.1 i) A E.2.2.2.2.1 E.2.2.2.2.1.heap ∧ va_T .byte (D.2.2.1 i) (kLen i) (fun j => .int (kCh i j)) A E.2.2.2.2.1 E.2.2.2.2.1.heap := (C.hF.2.1 i hi).2
theorem Cx.strR (C : Cx D tys E rm cc nL own A) {i : Nat} (hi : i < 52) : ∃ tx, vk_R (kOw i) (kIx i) tx (D.2.1 i) E.2.2.2.2.1 := (C.hF.2.1 i hi).1
theorem q_kval (C : Cx D tys E rm cc nL own A) {i idx : Nat} (hi : i < 52) (hl : Cond.fieldLink own idx "java/lang/String" "value" "[B" ∈ gtbl) (hd : decode cc pc = .ok (.getfield idx, 3)) (kk : Go D E A Q nL cells slots w ls (pc + 3) (.ref (D.2.2.1 i) :: rest)) : Go D E A Q nL cells slots w ls pc (.ref (D.2.1 i) :: rest) :=
  fun H locs la hP hD hS h => vk_getf C.hx C.hb (C.str hi).2.2.1 hS C.hown (C.hts _ hl) (fun x hx => hx) hd (kk H locs la hP hD hS h)
theorem q_kcod (C : Cx D tys E rm cc nL own A) {i idx : Nat} (hi : i < 52) (hl : Cond.fieldLink own idx "java/lang/String" "coder" "B" ∈ gtbl) (hd : decode cc pc = .ok (.getfield idx, 3)) (kk : Go D E A Q nL cells slots w ls (pc + 3) (.int 0 :: rest)) : Go D E A Q nL cells slots w ls pc (.ref (D.2.1 i) :: rest) :=
  fun H locs la hP hD hS h => vk_getf C.hx C.hb (C.str hi).2.1 hS C.hown (C.hts _ hl) (fun x hx => hx) hd (kk H locs la hP hD hS h)
theorem q_klen (C : Cx D tys E rm cc nL own A) {i : Nat} (hi : i < 52) (hd : decode cc pc = .ok (.arraylength, 1)) (kk : Go D E A Q nL cells slots w ls (pc + 1) (.int (kLn i) :: rest)) : Go D E A Q nL cells slots w ls pc (.ref (D.2.2.1 i) :: rest) :=
  fun H locs la hP hD hS h => va_tlen C.hx C.hb (C.str hi).2.2.2 hS rfl hd (kk H locs la hP hD hS h)
theorem q_kbyt (C : Cx D tys E rm cc nL own A) {i : Nat} (hi : i < 52) {j : Int32} (hin : vp_in j (kLen i)) (hd : decode cc pc = .ok (.baload, 1)) (kk : Go D E A Q nL cells slots w ls (pc + 1) (.int (kCh i j.toNatClampNeg) :: rest)) : Go D E A Q nL cells slots w ls pc (.int j :: .ref (D.2.2.1 i) :: rest) :=
  fun H locs la hP hD hS h => va_tb C.hx C.hb (C.str hi).2.2.2 hS hin rfl hd (kk H locs la hP hD hS h)
theorem q_ldcK (C : Cx D tys E rm cc nL own A) {i idx : Nat} (hz : ∃ tx, vk_R own idx tx (D.2.1 i) E.2.2.2.2.1) (hd : decode cc pc = .ok (.ldc idx, 2)) (kk : Go D E A Q nL cells slots w ls (pc + 2) (.ref (D.2.1 i) :: rest)) : Go D E A Q nL cells slots w ls pc rest :=
  fun H locs la hP hD hS h => by
    obtain ⟨tx, hz⟩ := hz
    exact va_ldcS C.hx C.hb C.hown hz hd (kk H locs la hP hD hS h)
theorem q_getC (C : Cx D tys E rm cc nL own A) {idx : Nat} (hl : Cond.fieldLink own idx "java/lang/String" "COMPACT_STRINGS" "Z" ∈ gtbl) (hd : decode cc pc = .ok (.getstatic idx, 3)) (kk : Go D E A Q nL cells slots w ls (pc + 3) (.int 1 :: rest)) : Go D E A Q nL cells slots w ls pc rest :=
  fun H locs la hP hD hS h => va_gets C.hx C.hb C.hF.2.2.2.1.1 hS C.hown (C.hts _ hl) (fun x hx => hx) hd (kk H locs la hP hD hS h)
theorem q_getP (C : Cx D tys E rm cc nL own A) {idx : Nat} (hl : Cond.fieldLink own idx "jdk/internal/util/Preconditions" "SIOOBE_FORMATTER" "Ljava/util/function/BiFunction;" ∈ gtbl) (hd : decode cc pc = .ok (.getstatic idx, 3)) (kk : ∀ v : Value, (v = .null ∨ ∃ t, v = .ref t) → Go D E A Q nL cells slots w ls (pc + 3) (v :: rest)) : Go D E A Q nL cells slots w ls pc rest :=
  fun H locs la hP hD hS h => by
    rcases C.hF.2.2.2.1.2 with hz | ⟨t, hz⟩
    · exact va_gets C.hx C.hb hz hS C.hown (C.hts _ hl) (fun x hx => hx) hd (kk .null (Or.inl rfl) H locs la hP hD hS h)
    · exact va_gets C.hx C.hb hz hS C.hown (C.hts _ hl) (fun x hx => hx) hd (kk (.ref t) (Or.inr ⟨t, rfl⟩) H locs la hP hD hS h)
theorem q_astoreV (C : Cx D tys E rm cc nL own A) {i : Nat} {x : Nat} (ls' : List (Nat × Value)) (hd : decode cc pc = .ok (.astore i, 2)) (hn : i < nL) (hl : (i, Value.ref x) :: ls.filter (fun q => !(q.1 == i) && !(q.1 + 1 == i && q.2.category == 2)) = ls') (kk : Go D E A Q nL cells slots w ls' (pc + 2) rest) : Go D E A Q nL cells slots w ls pc (.ref x :: rest) := q_astore C ls' hd hn hl kk
/-- a method of a text: the world isn't touched -/
theorem q_callKI (C : Cx D tys E rm cc nL own A) {y : MethodName} {bytes : ByteArray} {maxL n idx : Nat} {rt : FieldType} {rm' : Room} {As : List Value} {st : List Value} {K : Int32 → Unit → Prop} {i : Nat} (hi31 : i < 52)
    (hc : CtI E.2.1 D tys y bytes maxL rt rm' (.ref (D.2.1 i) :: As) [] (fun _ : Unit => []) K) (F : CallF own idx y bytes maxL (some rt) n) (hi : Cond.instanceMethod y ∈ gtbl) (hs : Cond.selects y.cls y y ∈ gtbl) (hcl : y.cls = "java/lang/String") (hn : As.length = n) (hR : rm'.frames + 1 ≤ rm.frames ∧ 8 + (maxL + 11) + rm'.locals ≤ rm.locals) (h0 : rm'.cells = 0 ∧ rm'.slots = 0) (hcs : cells ≤ rm.cells ∧ slots ≤ rm.slots)
    (hst : st = As.reverse ++ .ref (D.2.1 i) :: rest) (hrest : (rest.map fun v => v.category).sum ≤ 8) (hd : decode cc pc = .ok (.invokevirtual idx, 3))
    (kk : ∀ (r : Int32), K r () → Go D E A Q nL cells slots w ls (pc + 3) (.int r :: rest)) : Go D E A Q nL cells slots w ls pc st := by
  intro H locs la hP hD hS hl
  subst hst
  have hPc : va_P D.1 vwCl [] H := hP.sub [] rfl
  have hDc : va_D A [] := hD.sub [] rfl rfl
  have hFc := va_free (wc := []) hD hS C.hA [] rfl
  have hrecv : ∃ cell : Cell, H[D.2.1 i]? = some cell ∧ cell.vm.isStatics = false ∧ E.2.2.2.2.1.vm.findClass y.cls = some cell.cls := by
    obtain ⟨cell, h1, h2, h3, -⟩ := (C.str hi31).1.kept hS.2.1
    exact ⟨cell, h1, h2, by rw [hcl]; exact h3⟩
  have hcs' : cells + rm'.cells ≤ rm.cells ∧ slots + rm'.slots ≤ rm.slots := by rw [h0.1, h0.2]; exact hcs
  refine va_calli (va_runV (As := As) (rest := rest) ⟨C.hx, C.hb, C.hml, C.hown, C.hts⟩ (hc H.size) ⟨callB_of n C.hts (wT_good F.1) rfl rfl rfl (C.hts _ F.2.2.1) (C.hts _ F.2.1) F.2.2.2 (by rw [C.hR]; exact hR), C.hts _ hi, C.hts _ hs⟩ ⟨CtP.blind, hrecv, fun U hU hW => ⟨rfl, by rw [hU], by rw [hU]; exact hPc, va_K.moved hW.alike C.hK, hDc.weaken (fun _ _ _ _ => trivial), by rw [hU]; exact C.hF.warm hW hS.2.1 hFc⟩⟩ rfl hn hl.1 rfl (lv_room hrest) hd (by rw [C.hR]; exact hcs')) hS (fun q _ h => hFc q h) hFc (fun r u t H1 locs1 ht hvm hw hB hz1 hk1 hS1 => ?_)
  rw [h0.1, h0.2]
  refine kk r hw H1 locs1 la (hP.kept (fun k q hk => hk1 q.1 (vx_lt hP hk) (fun h => ?_))) hD hS1 hl
  rcases h with ⟨k9, e9, h9⟩ | h9
  · cases h9
  · exact absurd (vx_lt hP hk) (Nat.not_lt.mpr h9)
end STR
abbrev rmK0 : Room := { frames := 0, cells := 0, slots := 0, locals := 0 }
abbrev rmK1 : Room := { frames := 1, cells := 0, slots := 0, locals := 30 }
abbrev rmK2 : Room := { frames := 2, cells := 0, slots := 0, locals := 60 }
abbrev rmK3 : Room := { frames := 3, cells := 0, slots := 0, locals := 90 }
set_option maxRecDepth 100000 in
theorem cJ3_checkIndex_8e157_ok (l : Launch) {D : gD} {tys : List (ClassId × FieldType)} {a b : Int32} {v : Value} (hv : v = .null ∨ ∃ t, v = .ref t) {K : Int32 → Unit → Prop} (h1 : ¬ a < 0) (h2 : a < b) (hK : K a ()) : CtI l D tys yJ3_checkIndex_8e157 cJ3_checkIndex_8e157 3 .int rmK0 [.int a, .int b, v] [] (fun _ : Unit => []) K := by
  rcases hv with rfl | ⟨t, rfl⟩
  all_goals
    refine ct_startI (by decide +kernel) (Nat.le_of_ble_eq_true rfl) (fun E A Q hE C hret => ?_)
    refine q_iload_n C dJ3_checkIndex_8e157_0 0 rfl ?_
    refine q_if_lt C 9 dJ3_checkIndex_8e157_1 (by decide) (PA := False) (PB := True) ⟨fun h => h1 h, fun _ => trivial⟩ (fun h => h.elim) (fun _ => ?_)
    refine q_iload_n C dJ3_checkIndex_8e157_4 0 rfl ?_
    refine q_iload_n C dJ3_checkIndex_8e157_5 1 rfl ?_
    refine q_icmp_lt C 16 dJ3_checkIndex_8e157_6 (by decide) (PA := True) (PB := False) ⟨fun _ => trivial, fun h => h h2⟩ (fun _ => ?_) (fun h => h.elim)
    refine q_iload_n C dJ3_checkIndex_8e157_16 0 rfl ?_
    exact hret a () _ _ rfl hK dJ3_checkIndex_8e157_17
set_option maxRecDepth 100000 in
theorem cJ0_checkIndex_df160_ok (l : Launch) {D : gD} {tys : List (ClassId × FieldType)} {a b : Int32} {K : Unit → Prop} (h1 : ¬ a < 0) (h2 : a < b) (hK : K ()) : CtV l D tys yJ0_checkIndex_df160 cJ0_checkIndex_df160 2 rmK1 [.int a, .int b] [] (fun _ : Unit => []) K := by
  refine ct_startV (by decide +kernel) (Nat.le_of_ble_eq_true rfl) (fun E A Q hE C hret => ?_)
  refine q_iload_n C dJ0_checkIndex_df160_0 0 rfl ?_
  refine q_iload_n C dJ0_checkIndex_df160_1 1 rfl ?_
  refine q_getP C fl_J0_1053 dJ0_checkIndex_df160_2 (fun v hv => ?_)
  have hc : (([] : List Value).map fun v => v.category).sum ≤ 8 := Nat.le_of_ble_eq_true rfl
  refine q_callSI C (cJ3_checkIndex_8e157_ok _ hv (K := fun r _ => r = a) h1 h2 rfl) cf_J0_1059 st_J3_checkIndex_8e157 rfl ⟨Nat.le_of_ble_eq_true rfl, Nat.le_of_ble_eq_true rfl⟩ ⟨Nat.le_of_ble_eq_true rfl, Nat.le_of_ble_eq_true rfl⟩ 0 0 ⟨rfl, rfl⟩ [] [] (wr := []) rfl rfl rfl rfl (by decide) (fun _ => []) [] rfl (fun _ => rfl) (rest := []) rfl hc dJ0_checkIndex_df160_5 (fun r u hr => ?_)
  refine q_pop C dJ0_checkIndex_df160_8 rfl ?_
  exact hret () _ _ hK dJ0_checkIndex_df160_9
theorem k_char : ∀ i, i < 52 → ∀ j, j < kLen i → ((kCh i j &&& 255).toUInt32 % 65536).toInt32 = kCh i j ∧ narrow .char (.int (kCh i j)) = .int (kCh i j) := by decide +kernel
theorem k_len : ∀ i, i < 52 → kLn i >>> ((0 : Int32) &&& 31) = kLn i ∧ (kLn i).toNatClampNeg = kLen i ∧ ¬ kLn i < 0 := by decide +kernel
theorem vp_in_lt {j v : Int32} {n : Nat} (h : vp_in j n) (hv : v.toNatClampNeg = n) (h0 : ¬ v < 0) : ¬ j < 0 ∧ j < v := by
  have h1 : ¬ j < 0 := fun q => h (Or.inl q)
  have h2 : ¬ n ≤ j.toNatClampNeg := fun q => h (Or.inr q)
  refine ⟨h1, ?_⟩
  have a1 : 0 ≤ j.toInt := by have := Int32.not_lt.mp h1; simpa using Int32.le_iff_toInt_le.mp this
  have a2 : 0 ≤ v.toInt := by have := Int32.not_lt.mp h0; simpa using Int32.le_iff_toInt_le.mp this
  rw [Int32.lt_iff_toInt_lt]
  have e1 : j.toNatClampNeg = j.toInt.toNat := rfl
  have e2 : v.toNatClampNeg = v.toInt.toNat := rfl
  omega
set_option maxRecDepth 100000 in
theorem cJ1_charAt_3b067_ok (l : Launch) {D : gD} {tys : List (ClassId × FieldType)} {i : Nat} {j : Int32} {K : Int32 → Unit → Prop} (hi : i < 52) (hj : vp_in j (kLen i)) (hK : K (kCh i j.toNatClampNeg) ()) : CtI l D tys yJ1_charAt_3b067 cJ1_charAt_3b067 2 .char rmK2 [.ref (D.2.2.1 i), .int j] [] (fun _ : Unit => []) K := by
  refine ct_startI (by decide +kernel) (Nat.le_of_ble_eq_true rfl) (fun E A Q hE C hret => ?_)
  obtain ⟨n1, n2⟩ := vp_in_lt hj (k_len i hi).2.1 (k_len i hi).2.2
  have hc : (([] : List Value).map fun v => v.category).sum ≤ 8 := Nat.le_of_ble_eq_true rfl
  refine q_iload_n C dJ1_charAt_3b067_0 1 rfl ?_
  refine q_aload_n C dJ1_charAt_3b067_1 0 rfl ?_
  refine q_klen C hi dJ1_charAt_3b067_2 ?_
  refine q_callSV C (cJ0_checkIndex_df160_ok _ (K := fun _ => True) n1 n2 trivial) cf_J1_9 st_J0_checkIndex_df160 rfl ⟨Nat.le_of_ble_eq_true rfl, Nat.le_of_ble_eq_true rfl⟩ ⟨Nat.le_of_ble_eq_true rfl, Nat.le_of_ble_eq_true rfl⟩ 0 0 ⟨rfl, rfl⟩ [] [] (wr := []) rfl rfl rfl rfl (by decide) (fun _ => []) [] rfl (fun _ => rfl) (rest := []) rfl hc dJ1_charAt_3b067_3 (fun u _ => ?_)
  refine q_aload_n C dJ1_charAt_3b067_6 0 rfl ?_
  refine q_iload_n C dJ1_charAt_3b067_7 1 rfl ?_
  refine q_kbyt C hi hj dJ1_charAt_3b067_8 ?_
  refine q_sipush C (v := 255) dJ1_charAt_3b067_9 (by decide) ?_
  refine q_iand C dJ1_charAt_3b067_12 ?_
  refine q_i2c C dJ1_charAt_3b067_13 ?_
  have hlt : j.toNatClampNeg < kLen i := Nat.not_le.mp fun q => hj (Or.inr q)
  rw [(k_char i hi _ hlt).1]
  exact hret _ () _ _ (k_char i hi _ hlt).2 hK dJ1_charAt_3b067_14
set_option maxRecDepth 100000 in
theorem cJ0_coder_7d493_ok (l : Launch) {D : gD} {tys : List (ClassId × FieldType)} {i : Nat} {K : Int32 → Unit → Prop} (hi : i < 52) (hK : K 0 ()) : CtI l D tys yJ0_coder_7d493 cJ0_coder_7d493 1 .byte rmK0 [.ref (D.2.1 i)] [] (fun _ : Unit => []) K := by
  refine ct_startI (by decide +kernel) (Nat.le_of_ble_eq_true rfl) (fun E A Q hE C hret => ?_)
  refine q_getC C fl_J0_38 dJ0_coder_7d493_0 ?_
  refine q_if_eq C 13 dJ0_coder_7d493_3 (by decide) (PA := False) (PB := True) ⟨fun h => absurd h (by decide), fun _ => trivial⟩ (fun h => h.elim) (fun _ => ?_)
  refine q_aload_n C dJ0_coder_7d493_6 0 rfl ?_
  refine q_kcod C hi fl_J0_15 dJ0_coder_7d493_7 ?_
  refine q_goto (tgt := 14) C dJ0_coder_7d493_10 (by decide) ?_
  exact hret 0 () _ _ rfl hK dJ0_coder_7d493_14
set_option maxRecDepth 100000 in
theorem cJ0_isLatin1_aae02_ok (l : Launch) {D : gD} {tys : List (ClassId × FieldType)} {i : Nat} {K : Int32 → Unit → Prop} (hi : i < 52) (hK : K 1 ()) : CtI l D tys yJ0_isLatin1_aae02 cJ0_isLatin1_aae02 1 .boolean rmK0 [.ref (D.2.1 i)] [] (fun _ : Unit => []) K := by
  refine ct_startI (by decide +kernel) (Nat.le_of_ble_eq_true rfl) (fun E A Q hE C hret => ?_)
  refine q_getC C fl_J0_38 dJ0_isLatin1_aae02_0 ?_
  refine q_if_eq C 17 dJ0_isLatin1_aae02_3 (by decide) (PA := False) (PB := True) ⟨fun h => absurd h (by decide), fun _ => trivial⟩ (fun h => h.elim) (fun _ => ?_)
  refine q_aload_n C dJ0_isLatin1_aae02_6 0 rfl ?_
  refine q_kcod C hi fl_J0_15 dJ0_isLatin1_aae02_7 ?_
  refine q_if_ne C 17 dJ0_isLatin1_aae02_10 (by decide) (PA := False) (PB := True) ⟨fun h => absurd rfl h, fun _ => trivial⟩ (fun h => h.elim) (fun _ => ?_)
  refine q_iconst C (v := 1) dJ0_isLatin1_aae02_13 (by decide) ?_
  refine q_goto (tgt := 18) C dJ0_isLatin1_aae02_14 (by decide) ?_
  exact hret 1 () _ _ rfl hK dJ0_isLatin1_aae02_18
set_option maxRecDepth 100000 in
theorem cJ0_length_8abf5_ok (l : Launch) {D : gD} {tys : List (ClassId × FieldType)} {i : Nat} {K : Int32 → Unit → Prop} (hi : i < 52) (hK : K (kLn i) ()) : CtI l D tys yJ0_length_8abf5 cJ0_length_8abf5 1 .int rmK1 [.ref (D.2.1 i)] [] (fun _ : Unit => []) K := by
  refine ct_startI (by decide +kernel) (Nat.le_of_ble_eq_true rfl) (fun E A Q hE C hret => ?_)
  refine q_aload_n C dJ0_length_8abf5_0 0 rfl ?_
  refine q_kval C hi fl_J0_9 dJ0_length_8abf5_1 ?_
  refine q_klen C hi dJ0_length_8abf5_4 ?_
  refine q_aload_n C dJ0_length_8abf5_5 0 rfl ?_
  refine q_callKI C hi (cJ0_coder_7d493_ok _ hi (K := fun r _ => r = 0) rfl) cf_J0_335 im_J0_coder_7d493 se_J0_coder_7d493 rfl rfl ⟨Nat.le_of_ble_eq_true rfl, Nat.le_of_ble_eq_true rfl⟩ ⟨rfl, rfl⟩ ⟨Nat.le_of_ble_eq_true rfl, Nat.le_of_ble_eq_true rfl⟩ (rest := [.int (kLn i)]) rfl (Nat.le_of_ble_eq_true rfl) dJ0_length_8abf5_6 (fun r hr => ?_)
  subst hr
  refine q_ishr C dJ0_length_8abf5_9 ?_
  rw [(k_len i hi).1]
  exact hret _ () _ _ rfl hK dJ0_length_8abf5_10
set_option maxRecDepth 100000 in
theorem cJ0_charAt_5068e_ok (l : Launch) {D : gD} {tys : List (ClassId × FieldType)} {i : Nat} {j : Int32} {K : Int32 → Unit → Prop} (hi : i < 52) (hj : vp_in j (kLen i)) (hK : K (kCh i j.toNatClampNeg) ()) : CtI l D tys yJ0_charAt_5068e cJ0_charAt_5068e 2 .char rmK3 [.ref (D.2.1 i), .int j] [] (fun _ : Unit => []) K := by
  refine ct_startI (by decide +kernel) (Nat.le_of_ble_eq_true rfl) (fun E A Q hE C hret => ?_)
  have hlt : j.toNatClampNeg < kLen i := Nat.not_le.mp fun q => hj (Or.inr q)
  refine q_aload_n C dJ0_charAt_5068e_0 0 rfl ?_
  refine q_callKI C hi (cJ0_isLatin1_aae02_ok _ hi (K := fun r _ => r = 1) rfl) cf_J0_492 im_J0_isLatin1_aae02 se_J0_isLatin1_aae02 rfl rfl ⟨Nat.le_of_ble_eq_true rfl, Nat.le_of_ble_eq_true rfl⟩ ⟨rfl, rfl⟩ ⟨Nat.le_of_ble_eq_true rfl, Nat.le_of_ble_eq_true rfl⟩ (rest := []) rfl (Nat.le_of_ble_eq_true rfl) dJ0_charAt_5068e_1 (fun r hr => ?_)
  subst hr
  refine q_if_eq C 16 dJ0_charAt_5068e_4 (by decide) (PA := False) (PB := True) ⟨fun h => absurd h (by decide), fun _ => trivial⟩ (fun h => h.elim) (fun _ => ?_)
  refine q_aload_n C dJ0_charAt_5068e_7 0 rfl ?_
  refine q_kval C hi fl_J0_9 dJ0_charAt_5068e_8 ?_
  refine q_iload_n C dJ0_charAt_5068e_11 1 rfl ?_
  have hc : (([] : List Value).map fun v => v.category).sum ≤ 8 := Nat.le_of_ble_eq_true rfl
  refine q_callSI C (cJ1_charAt_3b067_ok _ (K := fun r _ => r = kCh i j.toNatClampNeg) hi hj rfl) cf_J0_495 st_J1_charAt_3b067 rfl ⟨Nat.le_of_ble_eq_true rfl, Nat.le_of_ble_eq_true rfl⟩ ⟨Nat.le_of_ble_eq_true rfl, Nat.le_of_ble_eq_true rfl⟩ 0 0 ⟨rfl, rfl⟩ [] [] (wr := []) rfl rfl rfl rfl (by decide) (fun _ => []) [] rfl (fun _ => rfl) (rest := []) rfl hc dJ0_charAt_5068e_12 (fun r u hr => ?_)
  subst hr
  exact hret _ () _ _ (k_char i hi _ hlt).2 hK dJ0_charAt_5068e_15
theorem q_strLen {D : gD} {tys : List (ClassId × FieldType)} {E : gE} {rm : Room} {cc : ByteArray} {nL : Nat} {own : String} {A : Nat → Prop} {Q : State → Prop} {cells slots : Nat} {w : va_W} {ls : List (Nat × Value)} {pc : Nat} {rest : List Value} (C : Cx D tys E rm cc nL own A) {idx i : Nat} {PP : Prop} (F : CallF own idx yJ0_length_8abf5 cJ0_length_8abf5 1 (some .int) 0) (hR : rmK1.frames + 1 ≤ rm.frames ∧ 8 + (1 + 11) + rmK1.locals ≤ rm.locals) (hcs : cells ≤ rm.cells ∧ slots ≤ rm.slots) (hrest : (rest.map fun v => v.category).sum ≤ 8) (hd : decode cc pc = .ok (.invokevirtual idx, 3)) (h : i < 52 ∧ PP) (kk : PP → Go D E A Q nL cells slots w ls (pc + 3) (.int (kLn i) :: rest)) : Go D E A Q nL cells slots w ls pc (.ref (D.2.1 i) :: rest) :=
  q_callKI C h.1 (cJ0_length_8abf5_ok _ h.1 (K := fun r _ => r = kLn i) rfl) F im_J0_length_8abf5 se_J0_length_8abf5 rfl rfl hR ⟨rfl, rfl⟩ hcs rfl hrest hd (fun r hr => by subst hr; exact kk h.2)
theorem q_strChar {D : gD} {tys : List (ClassId × FieldType)} {E : gE} {rm : Room} {cc : ByteArray} {nL : Nat} {own : String} {A : Nat → Prop} {Q : State → Prop} {cells slots : Nat} {w : va_W} {ls : List (Nat × Value)} {pc : Nat} {rest : List Value} (C : Cx D tys E rm cc nL own A) {idx i : Nat} {j : Int32} {PP : Prop} (F : CallF own idx yJ0_charAt_5068e cJ0_charAt_5068e 2 (some .char) 1) (hR : rmK3.frames + 1 ≤ rm.frames ∧ 8 + (2 + 11) + rmK3.locals ≤ rm.locals) (hcs : cells ≤ rm.cells ∧ slots ≤ rm.slots) (hrest : (rest.map fun v => v.category).sum ≤ 8) (hd : decode cc pc = .ok (.invokevirtual idx, 3)) (h : (i < 52 ∧ vp_in j (kLen i)) ∧ PP) (kk : PP → Go D E A Q nL cells slots w ls (pc + 3) (.int (kCh i j.toNatClampNeg) :: rest)) : Go D E A Q nL cells slots w ls pc (.int j :: .ref (D.2.1 i) :: rest) :=
  q_callKI C h.1.1 (cJ0_charAt_5068e_ok _ h.1.1 (K := fun r _ => r = kCh i j.toNatClampNeg) h.1.2 rfl) F im_J0_charAt_5068e se_J0_charAt_5068e rfl rfl hR ⟨rfl, rfl⟩ hcs rfl hrest hd (fun r hr => by subst hr; exact kk h.2)
section RD
variable {D : gD} {tys : List (ClassId × FieldType)} {E : gE} {rm : Room} {cc : ByteArray} {nL : Nat} {own : String} {A : Nat → Prop} {Q : State → Prop} {cells slots : Nat} {w : va_W} {ls : List (Nat × Value)} {pc : Nat} {rest : List Value}
theorem q_i2d (C : Cx D tys E rm cc nL own A) {x : Int32} (hd : decode cc pc = .ok (.i2d, 1)) (kk : Go D E A Q nL cells slots w ls (pc + 1) (.double (FP.i2d x) :: rest)) : Go D E A Q nL cells slots w ls pc (.int x :: rest) :=
  fun H locs la hP hD hS h => lv_i2d C.hx C.hb hd (kk H locs la hP hD hS h)
theorem q_ddiv (C : Cx D tys E rm cc nL own A) {x y : UInt64} {PP : Prop} (hd : decode cc pc = .ok (.ddiv, 1)) (h9 : vf_n64 (FP.ddiv x y) ∧ PP) (kk : PP → Go D E A Q nL cells slots w ls (pc + 1) (.double (FP.ddiv x y) :: rest)) : Go D E A Q nL cells slots w ls pc (.double y :: .double x :: rest) :=
  fun H locs la hP hD hS h => lv_ddiv C.hx C.hb hd h9.1 (kk h9.2 H locs la hP hD hS h)
end RD
/-- a method that answers the reference a -/
def CtR (l : Launch) (D : gD) (tys : List (ClassId × FieldType)) (y : MethodName) (cc : ByteArray) (nL : Nat) (rt : FieldType) (rm : Room) (av : List Value) (w : va_W) {S : Type} (w' : S → va_W) (a : Nat) (K : S → Prop) : Prop :=
  ∀ sz : Nat, Met l y (wT y cc nL (some rt)) rm (CtP D tys av w sz) (va_Qr K (fun u q t => q = a ∧ CtB D tys w w' sz u t) (va_A w sz)) rm.cells rm.slots (va_A w sz)
def CtD (l : Launch) (D : gD) (tys : List (ClassId × FieldType)) (y : MethodName) (cc : ByteArray) (nL : Nat) (rm : Room) (av : List Value) (w : va_W) {S : Type} (w' : S → va_W) (K : UInt64 → S → Prop) : Prop :=
  ∀ sz : Nat, Met l y (wT y cc nL (some .double)) rm (CtP D tys av w sz) (va_Qd K (CtB D tys w w' sz) (va_A w sz)) rm.cells rm.slots (va_A w sz)
theorem ct_startR {l : Launch} {D : gD} {tys : List (ClassId × FieldType)} {y : MethodName} {cc : ByteArray} {nL : Nat} {rm : Room} {av : List Value} {w : va_W} {S : Type} {w' : S → va_W} {rt : FieldType} {a : Nat} {K : S → Prop} (hrt : (∃ n, rt = .object n) ∨ ∃ t, rt = .array t) (hy : plainFor y = true) (hn : (lg_sl av).length ≤ nL)
    (body : ∀ (E : gE) (A : Nat → Prop) (Q : State → Prop), E.2.1 = l → Cx D tys E rm cc nL y.cls A → (∀ (u : S) (pc : Nat) (ls : List (Nat × Value)), K u → decode cc pc = .ok (.areturn, 1) → Go D E A Q nL rm.cells rm.slots (w' u) ls pc [.ref a]) → Go D E A Q nL 0 0 w (lv_args 0 av) 0 []) : CtR l D tys y cc nL rt rm av w w' a K := by
  intro sz
  refine Met.ofWF (cc := cc) (maxL := nL) (ret := (some rt)) hy rfl ?_
  intro p e s m args below meth c s₁ B hml hv
  obtain ⟨rfl, hsz, hP, hK, hD0, hF⟩ := hv
  subst hsz
  have hts := atoms_spec (ws := wT y cc nL (some rt)) B.pre
  have hD := hD0.self (sz := s.heap.size)
  have hl := lv_entry av (n := nL) hn
  rw [lg_entry_eq]
  refine body (p, l, e, (headSpec (wT y cc nL (some rt)) rm).room, s, m, av.toArray, below, meth, c) (va_A w s.heap.size) (MQ below _ av.toArray s rm.cells rm.slots (va_A w s.heap.size)) rfl ⟨B.exec, B.bytes, hml, findClass_of_methodNamed B.named, fun w hw => hts w (List.mem_cons_of_mem _ hw), hK, fun q h => Or.inr h, rfl, hF⟩ ?_ s.heap [] _ hP hD va_S.rf hl
  intro u pc ls hKK hd H locs la hP1 hD1 hS1 hl1
  exact W.aret B.exec B.bytes B.returns hrt (Or.inr ⟨a, rfl⟩) (fun t ht hW => ⟨⟨u, a, rfl, hKK, rfl, by rw [ht]; exact hP1, va_K.moved hW.alike hK, hD1⟩, hS1.F ht⟩) hS1.2.2 hd B.notSynchronized
theorem q_callVR {D : gD} {tys : List (ClassId × FieldType)} {E : gE} {rm : Room} {cc : ByteArray} {nL : Nat} {own : String} {A : Nat → Prop} {Q : State → Prop} {cells slots : Nat} {w : va_W} {ls : List (Nat × Value)} {pc : Nat} {st rest : List Value} (C : Cx D tys E rm cc nL own A) {y : MethodName} {bytes : ByteArray} {maxL n idx : Nat} {rt : FieldType} {a : Nat} {rm' : Room} {As : List Value} {wc wr : va_W} {S : Type} {w1' : S → va_W} {K : S → Prop} {b : Nat}
    (hc : CtR E.2.1 D tys y bytes maxL rt rm' (.ref b :: As) wc w1' a K) (F : CallF own idx y bytes maxL (some rt) n) (hi : Cond.instanceMethod y ∈ gtbl) (hs : Cond.selects y.cls y y ∈ gtbl) (ci : Nat) {q : vw_C} {fs : List Value} (hci : vwCl[ci]? = some q) (hq : q.1 = y.cls) (hb : wc[0]? = some (b, .inr (ci, fs))) (hn : As.length = n) (hR : rm'.frames + 1 ≤ rm.frames ∧ 8 + (maxL + 11) + rm'.locals ≤ rm.locals) (hcs : cells + rm'.cells ≤ rm.cells ∧ slots + rm'.slots ≤ rm.slots) (cells' slots' : Nat) (hce : cells + rm'.cells = cells' ∧ slots + rm'.slots = slots')
    (isC isR : List Nat) (hC : isC.map (fun i => w[i]?) = wc.map some) (hRr : isR.map (fun i => w[i]?) = wr.map some) (hnd : va_nd isR = true) (hndC : va_nd isC = true) (hdis : ∀ i ∈ isR, i ∉ isC)
    (w2 : S → va_W) (ps : List Nat) (hps : va_nd ps = true) (hw2 : ∀ u, ps.map (fun i => (wr ++ w1' u)[i]?) = (w2 u).map some)
    (hst : st = As.reverse ++ .ref b :: rest) (hrest : (rest.map fun v => v.category).sum ≤ 8) (hd : decode cc pc = .ok (.invokevirtual idx, 3))
    (kk : ∀ (u : S), K u → Go D E A Q nL cells' slots' (w2 u) ls (pc + 3) (.ref a :: rest)) : Go D E A Q nL cells slots w ls pc st := by
  intro H locs la hP hD hS hl
  subst hst
  obtain ⟨rfl, rfl⟩ := hce
  have hPc : va_P D.1 vwCl wc H := hP.sub isC (fm_of_map hC)
  have hDc : va_D A wc := hD.sub isC hndC hC
  have hFc := va_free hD hS C.hA isC hC
  refine va_callr (va_runV (As := As) (rest := rest) ⟨C.hx, C.hb, C.hml, C.hown, C.hts⟩ (hc H.size) ⟨callB_of n C.hts (wT_good F.1) rfl rfl rfl (C.hts _ F.2.2.1) (C.hts _ F.2.1) F.2.2.2 (by rw [C.hR]; exact hR), C.hts _ hi, C.hts _ hs⟩ ⟨CtP.blind, by rw [← hq]; exact va_recv C.hK hPc hci hb, fun U hU hW => ⟨rfl, by rw [hU], by rw [hU]; exact hPc, va_K.moved hW.alike C.hK, hDc.weaken (fun _ _ _ _ => trivial), by rw [hU]; exact C.hF.warm hW hS.2.1 hFc⟩⟩ rfl hn hl.1 rfl (lv_room hrest) hd (by rw [C.hR]; exact hcs)) hS (fun q _ h => hFc q h) hFc (fun u ra t H1 locs1 ht hvm hw hB hz1 hk1 hS1 => ?_)
  obtain ⟨hra, hP1, hK1, hD1⟩ := hB
  subst hra
  rw [ht] at hP1
  obtain ⟨hP2, hD2⟩ := va_join hP hD isC isR hC hRr hnd hdis hk1 hFc hP1 hD1
  exact kk u hw H1 locs1 la (hP2.sub ps (fm_of_map (hw2 u))) (hD2.sub ps hps (hw2 u)) hS1 hl
theorem ct_startD {l : Launch} {D : gD} {tys : List (ClassId × FieldType)} {y : MethodName} {cc : ByteArray} {nL : Nat} {rm : Room} {av : List Value} {w : va_W} {S : Type} {w' : S → va_W} {K : UInt64 → S → Prop} (hy : plainFor y = true) (hn : (lg_sl av).length ≤ nL)
    (body : ∀ (E : gE) (A : Nat → Prop) (Q : State → Prop), E.2.1 = l → Cx D tys E rm cc nL y.cls A → (∀ (r : UInt64) (u : S) (pc : Nat) (ls : List (Nat × Value)), K r u → decode cc pc = .ok (.dreturn, 1) → Go D E A Q nL rm.cells rm.slots (w' u) ls pc [.double r]) → Go D E A Q nL 0 0 w (lv_args 0 av) 0 []) : CtD l D tys y cc nL rm av w w' K := by
  intro sz
  refine Met.ofWF (cc := cc) (maxL := nL) (ret := (some .double)) hy rfl ?_
  intro p e s m args below meth c s₁ B hml hv
  obtain ⟨rfl, hsz, hP, hK, hD0, hF⟩ := hv
  subst hsz
  have hts := atoms_spec (ws := wT y cc nL (some .double)) B.pre
  have hD := hD0.self (sz := s.heap.size)
  have hl := lv_entry av (n := nL) hn
  rw [lg_entry_eq]
  refine body (p, l, e, (headSpec (wT y cc nL (some .double)) rm).room, s, m, av.toArray, below, meth, c) (va_A w s.heap.size) (MQ below _ av.toArray s rm.cells rm.slots (va_A w s.heap.size)) rfl ⟨B.exec, B.bytes, hml, findClass_of_methodNamed B.named, fun w hw => hts w (List.mem_cons_of_mem _ hw), hK, fun q h => Or.inr h, rfl, hF⟩ ?_ s.heap [] _ hP hD va_S.rf hl
  intro r u pc ls hKK hd H locs la hP1 hD1 hS1 hl1
  exact W.dret B.exec B.bytes B.returns (fun t ht hW => ⟨⟨r, u, rfl, hKK, by rw [ht]; exact hP1, va_K.moved hW.alike hK, hD1⟩, hS1.F ht⟩) hS1.2.2 hd B.notSynchronized
theorem q_callVD {D : gD} {tys : List (ClassId × FieldType)} {E : gE} {rm : Room} {cc : ByteArray} {nL : Nat} {own : String} {A : Nat → Prop} {Q : State → Prop} {cells slots : Nat} {w : va_W} {ls : List (Nat × Value)} {pc : Nat} {st rest : List Value} (C : Cx D tys E rm cc nL own A) {y : MethodName} {bytes : ByteArray} {maxL n idx : Nat} {rm' : Room} {As : List Value} {wc wr : va_W} {S : Type} {w1' : S → va_W} {K : UInt64 → S → Prop} {b : Nat}
    (hc : CtD E.2.1 D tys y bytes maxL rm' (.ref b :: As) wc w1' K) (F : CallF own idx y bytes maxL (some .double) n) (hi : Cond.instanceMethod y ∈ gtbl) (hs : Cond.selects y.cls y y ∈ gtbl) (ci : Nat) {q : vw_C} {fs : List Value} (hci : vwCl[ci]? = some q) (hq : q.1 = y.cls) (hb : wc[0]? = some (b, .inr (ci, fs))) (hn : As.length = n) (hR : rm'.frames + 1 ≤ rm.frames ∧ 8 + (maxL + 11) + rm'.locals ≤ rm.locals) (hcs : cells + rm'.cells ≤ rm.cells ∧ slots + rm'.slots ≤ rm.slots) (cells' slots' : Nat) (hce : cells + rm'.cells = cells' ∧ slots + rm'.slots = slots')
    (isC isR : List Nat) (hC : isC.map (fun i => w[i]?) = wc.map some) (hRr : isR.map (fun i => w[i]?) = wr.map some) (hnd : va_nd isR = true) (hndC : va_nd isC = true) (hdis : ∀ i ∈ isR, i ∉ isC)
    (w2 : S → va_W) (ps : List Nat) (hps : va_nd ps = true) (hw2 : ∀ u, ps.map (fun i => (wr ++ w1' u)[i]?) = (w2 u).map some)
    (hst : st = As.reverse ++ .ref b :: rest) (hrest : (rest.map fun v => v.category).sum ≤ 8) (hd : decode cc pc = .ok (.invokevirtual idx, 3))
    (kk : ∀ (r : UInt64) (u : S), K r u → Go D E A Q nL cells' slots' (w2 u) ls (pc + 3) (.double r :: rest)) : Go D E A Q nL cells slots w ls pc st := by
  intro H locs la hP hD hS hl
  subst hst
  obtain ⟨rfl, rfl⟩ := hce
  have hPc : va_P D.1 vwCl wc H := hP.sub isC (fm_of_map hC)
  have hDc : va_D A wc := hD.sub isC hndC hC
  have hFc := va_free hD hS C.hA isC hC
  refine va_calld (va_runV (As := As) (rest := rest) ⟨C.hx, C.hb, C.hml, C.hown, C.hts⟩ (hc H.size) ⟨callB_of n C.hts (wT_good F.1) rfl rfl rfl (C.hts _ F.2.2.1) (C.hts _ F.2.1) F.2.2.2 (by rw [C.hR]; exact hR), C.hts _ hi, C.hts _ hs⟩ ⟨CtP.blind, by rw [← hq]; exact va_recv C.hK hPc hci hb, fun U hU hW => ⟨rfl, by rw [hU], by rw [hU]; exact hPc, va_K.moved hW.alike C.hK, hDc.weaken (fun _ _ _ _ => trivial), by rw [hU]; exact C.hF.warm hW hS.2.1 hFc⟩⟩ rfl hn hl.1 rfl (lv_room hrest) hd (by rw [C.hR]; exact hcs)) hS (fun q _ h => hFc q h) hFc (fun r u t H1 locs1 ht hvm hw hB hz1 hk1 hS1 => ?_)
  obtain ⟨hP1, hK1, hD1⟩ := hB
  rw [ht] at hP1
  obtain ⟨hP2, hD2⟩ := va_join hP hD isC isR hC hRr hnd hdis hk1 hFc hP1 hD1
  exact kk r u hw H1 locs1 la (hP2.sub ps (fm_of_map (hw2 u))) (hD2.sub ps hps (hw2 u)) hS1 hl
theorem q_dconst0 {D : gD} {tys : List (ClassId × FieldType)} {E : gE} {rm : Room} {cc : ByteArray} {nL : Nat} {own : String} {A : Nat → Prop} {Q : State → Prop} {cells slots : Nat} {w : va_W} {ls : List (Nat × Value)} {pc : Nat} {rest : List Value} (C : Cx D tys E rm cc nL own A) (hd : decode cc pc = .ok (.dconst 0, 1)) (kk : Go D E A Q nL cells slots w ls (pc + 1) (.double FP.dconst0 :: rest)) : Go D E A Q nL cells slots w ls pc rest :=
  fun H locs la hP hD hS h => lv_dconst0 C.hx C.hb hd (kk H locs la hP hD hS h)
theorem q_dcmp {D : gD} {tys : List (ClassId × FieldType)} {E : gE} {rm : Room} {cc : ByteArray} {nL : Nat} {own : String} {A : Nat → Prop} {Q : State → Prop} {cells slots : Nat} {w : va_W} {ls : List (Nat × Value)} {pc : Nat} {rest : List Value} (C : Cx D tys E rm cc nL own A) {x y : UInt64} {op : CmpOp} (hd : decode cc pc = .ok (.dcmp op, 1)) (kk : Go D E A Q nL cells slots w ls (pc + 1) (.int (Op.cmpValue (FP.dcmp x y) op) :: rest)) : Go D E A Q nL cells slots w ls pc (.double y :: .double x :: rest) :=
  fun H locs la hP hD hS h => lv_dcmp C.hx C.hb hd (kk H locs la hP hD hS h)
theorem q_dload {D : gD} {tys : List (ClassId × FieldType)} {E : gE} {rm : Room} {cc : ByteArray} {nL : Nat} {own : String} {A : Nat → Prop} {Q : State → Prop} {cells slots : Nat} {w : va_W} {ls : List (Nat × Value)} {pc : Nat} {rest : List Value} (C : Cx D tys E rm cc nL own A) {i : Nat} {x : UInt64} (hd : decode cc pc = .ok (.dload i, 2)) (j : Nat) (hl : ls[j]? = some (i, .double x)) (kk : Go D E A Q nL cells slots w ls (pc + 2) (.double x :: rest)) : Go D E A Q nL cells slots w ls pc rest :=
  fun H locs la hP hD hS h => lv_dload C.hx C.hb hd (lv_at h j hl) (kk H locs la hP hD hS h)
theorem q_dstore {D : gD} {tys : List (ClassId × FieldType)} {E : gE} {rm : Room} {cc : ByteArray} {nL : Nat} {own : String} {A : Nat → Prop} {Q : State → Prop} {cells slots : Nat} {w : va_W} {ls : List (Nat × Value)} {pc : Nat} {rest : List Value} (C : Cx D tys E rm cc nL own A) {i : Nat} {x : UInt64} (ls' : List (Nat × Value)) (hd : decode cc pc = .ok (.dstore i, 2)) (hn : i + 1 < nL) (hl : (i, Value.double x) :: ls.filter (fun q => !(q.1 == i) && (!(q.1 == i + 1) && !(q.1 + 1 == i && q.2.category == 2))) = ls') (kk : Go D E A Q nL cells slots w ls' (pc + 2) rest) : Go D E A Q nL cells slots w ls pc (.double x :: rest) :=
  fun H locs la hP hD hS h => lv_dstore C.hx C.hb hd h hn hl (fun la' h' => kk H locs la' hP hD hS h')
theorem q_dload_n {D : gD} {tys : List (ClassId × FieldType)} {E : gE} {rm : Room} {cc : ByteArray} {nL : Nat} {own : String} {A : Nat → Prop} {Q : State → Prop} {cells slots : Nat} {w : va_W} {ls : List (Nat × Value)} {pc : Nat} {rest : List Value} (C : Cx D tys E rm cc nL own A) {k : Fin 4} {x : UInt64} (hd : decode cc pc = .ok (.dload_n k, 1)) (j : Nat) (hl : ls[j]? = some ((k : Nat), .double x)) (kk : Go D E A Q nL cells slots w ls (pc + 1) (.double x :: rest)) : Go D E A Q nL cells slots w ls pc rest :=
  fun H locs la hP hD hS h => lv_dload_n C.hx C.hb hd rfl (lv_at h j hl) (kk H locs la hP hD hS h)
theorem q_dstore_n {D : gD} {tys : List (ClassId × FieldType)} {E : gE} {rm : Room} {cc : ByteArray} {nL : Nat} {own : String} {A : Nat → Prop} {Q : State → Prop} {cells slots : Nat} {w : va_W} {ls : List (Nat × Value)} {pc : Nat} {rest : List Value} (C : Cx D tys E rm cc nL own A) {k : Fin 4} {x : UInt64} (ls' : List (Nat × Value)) (hd : decode cc pc = .ok (.dstore_n k, 1)) (hn : (k : Nat) + 1 < nL) (hl : ((k : Nat), Value.double x) :: ls.filter (fun q => !(q.1 == (k : Nat)) && (!(q.1 == (k : Nat) + 1) && !(q.1 + 1 == (k : Nat) && q.2.category == 2))) = ls') (kk : Go D E A Q nL cells slots w ls' (pc + 1) rest) : Go D E A Q nL cells slots w ls pc (.double x :: rest) :=
  fun H locs la hP hD hS h => lv_dstore_n C.hx C.hb hd rfl h hn hl (fun la' h' => kk H locs la' hP hD hS h')
