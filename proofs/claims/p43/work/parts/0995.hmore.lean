/-! further rules of the law's heap -/
section HMORE
theorem gu_J0_549 : GoodIn gtbl (va_wsO RJ0 549 RJ4 "java/lang/AbstractStringBuilder" (⟨"java/lang/AbstractStringBuilder", "length", "()I"⟩ : MethodName) yJ4_length_8abf5 (wT yJ4_length_8abf5 cJ4_length_8abf5 1 (some .int))) := go_of (gtbl_of (List.mem_append_right _ (List.mem_of_getElem? (i := 1479) (by decide +kernel))) rfl) (gtbl_of (List.mem_append_right _ (List.mem_of_getElem? (i := 1481) (by decide +kernel))) rfl) im_J5_length_8abf5 (gtbl_of (List.mem_append_right _ (List.mem_of_getElem? (i := 1482) (by decide +kernel))) rfl) im_J4_length_8abf5 ini_J4 cd_J4_length_8abf5
theorem gu_J0_552 : GoodIn gtbl (va_wsU RJ0 552 RJ4 "java/lang/AbstractStringBuilder" (⟨"java/lang/AbstractStringBuilder", "getValue", "()[B"⟩ : MethodName) yJ5_getValue_6d5f1 (wT yJ5_getValue_6d5f1 cJ5_getValue_6d5f1 1 (some (Jvm.ClassFile.FieldType.array Jvm.ClassFile.FieldType.byte)))) := gu_of (gtbl_of (List.mem_append_right _ (List.mem_of_getElem? (i := 1474) (by decide +kernel))) rfl) (gtbl_of (List.mem_append_right _ (List.mem_of_getElem? (i := 1476) (by decide +kernel))) rfl) (gtbl_of (List.mem_append_right _ (List.mem_of_getElem? (i := 1477) (by decide +kernel))) rfl) im_J5_getValue_6d5f1 ini_J5 cd_J5_getValue_6d5f1
theorem gu_J0_1047 : GoodIn gtbl (va_wsU RJ0 1047 RJ4 "java/lang/AbstractStringBuilder" (⟨"java/lang/AbstractStringBuilder", "isLatin1", "()Z"⟩ : MethodName) yJ5_isLatin1_aae02 (wT yJ5_isLatin1_aae02 cJ5_isLatin1_aae02 1 (some .boolean))) := gu_of (gtbl_of (List.mem_append_right _ (List.mem_of_getElem? (i := 1487) (by decide +kernel))) rfl) (gtbl_of (List.mem_append_right _ (List.mem_of_getElem? (i := 1345) (by decide +kernel))) rfl) (gtbl_of (List.mem_append_right _ (List.mem_of_getElem? (i := 1346) (by decide +kernel))) rfl) im_J5_isLatin1_aae02 ini_J5 cd_J5_isLatin1_aae02
theorem gu_J5_83 : GoodIn gtbl (va_wsU RJ5 83 RJ4 "java/lang/AbstractStringBuilder" (⟨"java/lang/AbstractStringBuilder", "isLatin1", "()Z"⟩ : MethodName) yJ5_isLatin1_aae02 (wT yJ5_isLatin1_aae02 cJ5_isLatin1_aae02 1 (some .boolean))) := gu_of (gtbl_of (List.mem_append_right _ (List.mem_of_getElem? (i := 1343) (by decide +kernel))) rfl) (gtbl_of (List.mem_append_right _ (List.mem_of_getElem? (i := 1345) (by decide +kernel))) rfl) (gtbl_of (List.mem_append_right _ (List.mem_of_getElem? (i := 1346) (by decide +kernel))) rfl) im_J5_isLatin1_aae02 ini_J5 cd_J5_isLatin1_aae02
theorem gu_J5_100 : GoodIn gtbl (va_wsU RJ5 100 RJ4 "java/lang/AbstractStringBuilder" (⟨"java/lang/AbstractStringBuilder", "ensureCapacityInternal", "(I)V"⟩ : MethodName) yJ5_ensureCapacityInternal_d00df (wT yJ5_ensureCapacityInternal_d00df cJ5_ensureCapacityInternal_d00df 3 none)) := gu_of (gtbl_of (List.mem_append_right _ (List.mem_of_getElem? (i := 1312) (by decide +kernel))) rfl) (gtbl_of (List.mem_append_right _ (List.mem_of_getElem? (i := 1623) (by decide +kernel))) rfl) (List.mem_append_right _ (List.mem_of_getElem? (i := 0) rfl)) im_J5_ensureCapacityInternal_d00df ini_J5 cd_J5_ensureCapacityInternal_d00df
theorem gu_J5_104 : GoodIn gtbl (va_wsU RJ5 104 RJ4 "java/lang/AbstractStringBuilder" (⟨"java/lang/AbstractStringBuilder", "newCapacity", "(I)I"⟩ : MethodName) yJ5_newCapacity_0f7a4 (wT yJ5_newCapacity_0f7a4 cJ5_newCapacity_0f7a4 6 (some .int))) := gu_of (gtbl_of (List.mem_append_right _ (List.mem_of_getElem? (i := 1316) (by decide +kernel))) rfl) (gtbl_of (List.mem_append_right _ (List.mem_of_getElem? (i := 1624) (by decide +kernel))) rfl) (List.mem_append_right _ (List.mem_of_getElem? (i := 1) rfl)) im_J5_newCapacity_0f7a4 ini_J5 cd_J5_newCapacity_0f7a4
theorem gu_J5_208 : GoodIn gtbl (va_wsU RJ5 208 RJ4 "java/lang/AbstractStringBuilder" (⟨"java/lang/AbstractStringBuilder", "putStringAt", "(ILjava/lang/String;)V"⟩ : MethodName) yJ5_putStringAt_47b60 (wT yJ5_putStringAt_47b60 cJ5_putStringAt_47b60 3 none)) := gu_of (gtbl_of (List.mem_append_right _ (List.mem_of_getElem? (i := 1365) (by decide +kernel))) rfl) (gtbl_of (List.mem_append_right _ (List.mem_of_getElem? (i := 1625) (by decide +kernel))) rfl) (List.mem_append_right _ (List.mem_of_getElem? (i := 2) rfl)) im_J5_putStringAt_47b60 ini_J5 cd_J5_putStringAt_47b60
theorem gu_J5_397 : GoodIn gtbl (va_wsU RJ5 397 RJ4 "java/lang/AbstractStringBuilder" (⟨"java/lang/AbstractStringBuilder", "inflateIfNeededFor", "(Ljava/lang/String;)V"⟩ : MethodName) yJ5_inflateIfNeededFor_a7421 (wT yJ5_inflateIfNeededFor_a7421 cJ5_inflateIfNeededFor_a7421 2 none)) := gu_of (gtbl_of (List.mem_append_right _ (List.mem_of_getElem? (i := 1369) (by decide +kernel))) rfl) (gtbl_of (List.mem_append_right _ (List.mem_of_getElem? (i := 1626) (by decide +kernel))) rfl) (List.mem_append_right _ (List.mem_of_getElem? (i := 3) rfl)) im_J5_inflateIfNeededFor_a7421 ini_J5 cd_J5_inflateIfNeededFor_a7421
theorem su_J4_29 : GoodIn gtbl (va_wsSU RJ4 29 yJ5_append_cf1ce (wT yJ5_append_cf1ce cJ5_append_cf1ce 3 (some (Jvm.ClassFile.FieldType.object "java/lang/AbstractStringBuilder")))) := su_of (gtbl_of (List.mem_append_right _ (List.mem_of_getElem? (i := 1304) (by decide +kernel))) rfl) (gtbl_of (List.mem_append_right _ (List.mem_of_getElem? (i := 1621) (by decide +kernel))) rfl) (gtbl_of (List.mem_append_right _ (List.mem_of_getElem? (i := 1305) (by decide +kernel))) rfl) im_J5_append_cf1ce ini_J5 cd_J5_append_cf1ce
theorem su_J4_53 : GoodIn gtbl (va_wsSU RJ4 53 yJ5_append_c97b9 (wT yJ5_append_c97b9 cJ5_append_c97b9 4 (some (Jvm.ClassFile.FieldType.object "java/lang/AbstractStringBuilder")))) := su_of (gtbl_of (List.mem_append_right _ (List.mem_of_getElem? (i := 1410) (by decide +kernel))) rfl) (gtbl_of (List.mem_append_right _ (List.mem_of_getElem? (i := 1628) (by decide +kernel))) rfl) (gtbl_of (List.mem_append_right _ (List.mem_of_getElem? (i := 1305) (by decide +kernel))) rfl) im_J5_append_c97b9 ini_J5 cd_J5_append_c97b9
theorem su_J4_343 : GoodIn gtbl (va_wsSU RJ4 343 yJ5_length_8abf5 (wT yJ5_length_8abf5 cJ5_length_8abf5 1 (some .int))) := su_of (gtbl_of (List.mem_append_right _ (List.mem_of_getElem? (i := 1485) (by decide +kernel))) rfl) (gtbl_of (List.mem_append_right _ (List.mem_of_getElem? (i := 1481) (by decide +kernel))) rfl) (gtbl_of (List.mem_append_right _ (List.mem_of_getElem? (i := 1305) (by decide +kernel))) rfl) im_J5_length_8abf5 ini_J5 cd_J5_length_8abf5
theorem kl_same : Cond.sameMethod "[B" "java/lang/Object" "clone" "()Ljava/lang/Object;" ∈ gtbl := gtbl_of (List.mem_append_right _ (List.mem_of_getElem? (i := 1333) (by decide +kernel))) rfl
theorem kl_nat : Cond.native ⟨"java/lang/Object", "clone", "()Ljava/lang/Object;"⟩ ∈ gtbl := gtbl_of (List.mem_append_right _ (List.mem_of_getElem? (i := 1334) (by decide +kernel))) rfl
theorem kl_inst : Cond.instanceMethod ⟨"java/lang/Object", "clone", "()Ljava/lang/Object;"⟩ ∈ gtbl := gtbl_of (List.mem_append_right _ (List.mem_of_getElem? (i := 1335) (by decide +kernel))) rfl
theorem kl_sel : Cond.selects "[B" ⟨"[B", "clone", "()Ljava/lang/Object;"⟩ ⟨"java/lang/Object", "clone", "()Ljava/lang/Object;"⟩ ∈ gtbl := gtbl_of (List.mem_append_right _ (List.mem_of_getElem? (i := 1336) (by decide +kernel))) rfl
theorem kl_cast : Cond.castable "[B" "java/lang/Cloneable" ∈ lw_tbl := List.mem_append_right _ (List.mem_of_getElem? (i := 1337) (by decide +kernel))
theorem kl_J7_310 : Cond.methodLink RJ7 310 ⟨"[B", "clone", "()Ljava/lang/Object;"⟩ ∈ gtbl := gtbl_of (List.mem_append_right _ (List.mem_of_getElem? (i := 1332) (by decide +kernel))) rfl
theorem kc_J7_311 : Cond.classLink RJ7 311 "[B" ∈ gtbl := gtbl_of (List.mem_append_right _ (List.mem_of_getElem? (i := 1338) (by decide +kernel))) rfl
variable {D : gD} {E : gE} {rm : Room} {cc : ByteArray} {nL : Nat} {own : String} {A : Nat → Prop} {Q : State → Prop} {cells slots : Nat} {ls : List (Nat × Value)} {pc : Nat} {rest : List Value} {B : va_W} {H : gH}
theorem h_clone (C : CL D E rm cc nL own A) {idx idx2 : Nat} (hl : Cond.methodLink own idx ⟨"[B", "clone", "()Ljava/lang/Object;"⟩ ∈ gtbl) (hl2 : Cond.classLink own idx2 "[B" ∈ gtbl) {a n : Nat} {f : Nat → Int32} (he : hpG H a = some (iE (zY D.2 0) n f)) (hf : ∀ i, i < n → fits .byte (.int (f i)) = true) (hR : 1 ≤ rm.frames ∧ (rest.map fun v => v.category).sum + 14 ≤ rm.locals) (hd : decode cc pc = .ok (.invokevirtual idx, 3)) (hd2 : decode cc (pc + 3) = .ok (.checkcast idx2, 3)) (hcs : cells + 1 ≤ rm.cells ∧ slots + n ≤ rm.slots) (kk : ∀ q : Nat, hpG H q = none → Go D E A Q nL (cells + 1) (slots + n) (B ++ hpW (hpN H q (iE (zY D.2 0) n f))) ls (pc + 6) (.ref q :: rest)) : Go D E A Q nL cells slots (B ++ hpW H) ls pc (.ref a :: rest) := by
  intro Hp locs la hP hD hS hls
  obtain ⟨q0, hq0⟩ := hpW_get (B := B) he
  have hnm : E.2.2.2.2.1.vm.findClass "[B" = some (zY D.2 0) := by
    have h9 := (C.hK.2 0 (zY D.2 0, .byte) rfl).2
    have e9 : "[" ++ FieldType.byte.toString = "[B" := by decide +kernel
    rw [← e9]
    exact h9
  refine va_clone (ty := .byte) C.hx C.hb (C.hml.trans hls.1.symm) C.hown (C.hts _ hl) (C.hts _ kl_same) (C.hts _ kl_nat) (C.hts _ kl_inst) (C.hts _ kl_sel) (C.hF.1 _ kl_cast rfl) C.hK hP hD hS C.hA q0 0 hq0 rfl hnm ?_ (by rw [C.hR]; exact hR.1) (by rw [C.hR]; exact hR.2) (by rw [C.hR]; exact hcs.1) (by rw [C.hR]; exact hcs.2) hd (fun q H1 hK1 hP1 hD1 hS1 => ?_)
  · intro i v hv
    rw [vp_cell_i] at hv
    rcases Nat.lt_or_ge i n with z | z
    · rw [arrV_read _ _ z] at hv
      cases hv
      exact hf i z
    · have := (Array.getElem?_eq_some_iff.mp hv).1
      rw [arrV_size] at this
      omega
  · have hq := hpW_new hD1
    rw [hpW_push hq] at hP1 hD1
    obtain ⟨q1, hq1⟩ := hpW_get (B := B) (hpG_n (H := H) (a := q) (e := iE (zY D.2 0) n f))
    exact va_castA C.hx C.hb C.hown (C.hts _ hl2) hP1 q1 hq1 hnm hd2 (kk q hq H1 locs la hP1 hD1 hS1 hls)
theorem h_getDigitOnes (C : CL D E rm cc nL own A) {w : va_W} {idx : Nat} (hl : Cond.fieldLink own idx "java/lang/Integer" "DigitOnes" "[B" ∈ gtbl) (hd : decode cc pc = .ok (.getstatic idx, 3)) (kk : Go D E A Q nL cells slots w ls (pc + 3) (.ref D.2.2.2.1 :: rest)) : Go D E A Q nL cells slots w ls pc rest :=
  fun Hp locs la hP hD hS h => va_gets C.hx C.hb C.hF.2.2.1.1 hS C.hown (C.hts _ hl) (fun x hx => hx) hd (kk Hp locs la hP hD hS h)
theorem h_getDigitTens (C : CL D E rm cc nL own A) {w : va_W} {idx : Nat} (hl : Cond.fieldLink own idx "java/lang/Integer" "DigitTens" "[B" ∈ gtbl) (hd : decode cc pc = .ok (.getstatic idx, 3)) (kk : Go D E A Q nL cells slots w ls (pc + 3) (.ref D.2.2.2.2.1 :: rest)) : Go D E A Q nL cells slots w ls pc rest :=
  fun Hp locs la hP hD hS h => va_gets C.hx C.hb C.hF.2.2.1.2.2.1 hS C.hown (C.hts _ hl) (fun x hx => hx) hd (kk Hp locs la hP hD hS h)
theorem h_ldDigitOnes (C : CL D E rm cc nL own A) {w : va_W} {j : Int32} (hin : vp_in j 100) (hd : decode cc pc = .ok (.baload, 1)) (kk : Go D E A Q nL cells slots w ls (pc + 1) (.int (kDo j.toNatClampNeg) :: rest)) : Go D E A Q nL cells slots w ls pc (.int j :: .ref D.2.2.2.1 :: rest) :=
  fun Hp locs la hP hD hS h => va_tb C.hx C.hb C.hF.2.2.1.2.1 hS hin rfl hd (kk Hp locs la hP hD hS h)
theorem h_ldDigitTens (C : CL D E rm cc nL own A) {w : va_W} {j : Int32} (hin : vp_in j 100) (hd : decode cc pc = .ok (.baload, 1)) (kk : Go D E A Q nL cells slots w ls (pc + 1) (.int (kDt j.toNatClampNeg) :: rest)) : Go D E A Q nL cells slots w ls pc (.int j :: .ref D.2.2.2.2.1 :: rest) :=
  fun Hp locs la hP hD hS h => va_tb C.hx C.hb C.hF.2.2.1.2.2.2 hS hin rfl hd (kk Hp locs la hP hD hS h)
theorem h_ifnR (C : CL D E rm cc nL own A) {w : va_W} {x : Nat} {off : Int} (hd : decode cc pc = .ok (.ifnull off, 3)) (kk : Go D E A Q nL cells slots w ls (pc + 3) rest) : Go D E A Q nL cells slots w ls pc (.ref x :: rest) :=
  fun Hp locs la hP hD hS hl => lv_ifnull C.hx C.hb hd (kk Hp locs la hP hD hS hl)
/-- a text as receiver: of the heap, or a constant -/
def hRs (Z : gZ) (H : gH) (a : Nat) : Prop := (∃ fs, hpG H a = some (.inr (10, fs))) ∨ (∃ i, i < 52 ∧ a = Z.1 i)
theorem hRs_rv {a : Nat} (h : hRs D.2 H a) : hRv D (B ++ hpW H) a "java/lang/String" := by
  rcases h with ⟨fs, h⟩ | ⟨i, h1, h2⟩
  · exact hRv_h (q := (RJ0, TJ0, 4)) h rfl
  · exact Or.inr ⟨i, h1, h2, rfl⟩
theorem kU_T {D : gD} : ∀ U : State, va_K D.1 vwCl (gU (zY D.2)) U → va_K D.1 vwCl (gT (zY D.2 0) (zY D.2 1) (zY D.2 2) (zY D.2 3)) U := fun _ h => h.sub [0, 1, 2, 3] rfl
/-- String.checkIndex: nothing is touched -/
theorem h_ckIndex (C : CL D E rm cc nL own A) {w : va_W} {idx maxL : Nat} {a b : Int32} (F : CallF own idx yJ0_checkIndex_df160 cJ0_checkIndex_df160 maxL none 2) (hm : maxL = 2) (h1 : ¬ a < 0) (h2 : a < b) (hR : rmK1.frames + 1 ≤ rm.frames ∧ 8 + (2 + 11) + rmK1.locals ≤ rm.locals) (hcs : cells ≤ rm.cells ∧ slots ≤ rm.slots) (hrest : (rest.map fun v => v.category).sum ≤ 8) (hd : decode cc pc = .ok (.invokestatic idx, 3)) (kk : Go D E A Q nL cells slots w ls (pc + 3) rest) : Go D E A Q nL cells slots w ls pc (.int b :: .int a :: rest) := by
  subst hm
  exact p_callSV C (fun _ h => h) w (cJ0_checkIndex_df160_ok _ (K := fun _ => True) h1 h2 trivial) F st_J0_checkIndex_df160 rfl hR hcs (List.Perm.refl _) (fun _ => w) (fun _ => List.Perm.refl _) (rest := rest) rfl hrest hd (fun u h => kk)
theorem pm_B {b c r h : va_W} (isC isR : List Nat) (hC : isC.map (fun i => b[i]?) = c.map some) (hR : isR.map (fun i => b[i]?) = r.map some) (hp : (isC ++ isR).isPerm (List.range b.length) = true) : (b ++ h).Perm (c ++ (r ++ h)) := by
  rw [← List.append_assoc]
  exact (pm_pos isC isR hC hR hp).append_right h
theorem pm_B2 {b c r h : va_W} (isC isR : List Nat) (hC : isC.map (fun i => b[i]?) = c.map some) (hR : isR.map (fun i => b[i]?) = r.map some) (hp : (isC ++ isR).isPerm (List.range b.length) = true) : (c ++ (r ++ h)).Perm (b ++ h) := (pm_B isC isR hC hR hp).symm
theorem pm_sw {b c h : va_W} (isC : List Nat) (hC : isC.map (fun i => b[i]?) = c.map some) (hp : isC.isPerm (List.range b.length) = true) : ((c ++ h) ++ []).Perm (b ++ h) := by
  have h1 := pm_pos (r := []) isC [] hC rfl (by rw [List.append_nil]; exact hp)
  rw [List.append_nil] at h1 ⊢
  exact (h1.append_right h).symm
theorem hpS_N (H : gH) (q : Nat) (e e2 : va_E) : hpS (hpN H q e) q e2 = hpN H q e2 := by
  unfold hpS hpN
  congr 1
  funext j
  unfold va_up
  by_cases z : j = q
  · simp [z]
  · simp [z]
theorem h_astSN (C : CL D E rm cc nL own A) {a n j : Nat} {f : Nat → Option Nat} {i : Int32} (hj : j < 52) (hin : vp_in i n) (hd : decode cc pc = .ok (.aastore, 1)) (kk : Go D E A Q nL cells slots (B ++ hpW (hpN H a (qE (zY D.2 7) n (va_up f i.toNatClampNeg (some (D.2.1 j)))))) ls (pc + 1) rest) : Go D E A Q nL cells slots (B ++ hpW (hpN H a (qE (zY D.2 7) n f))) ls pc (.ref (D.2.1 j) :: .int i :: .ref a :: rest) :=
  h_astS C hj (hpG_n) hin hd (by rw [hpS_N]; exact kk)
def hp0 : gH := ([], fun _ => .inr (0, []))
theorem h_newD (C : CL D E rm cc nL own A) {index : Nat} (hcl : Cond.classLink own index RX8 ∈ gtbl) (hd : decode cc pc = .ok (.new index, 3)) (hcs : cells + 1 ≤ rm.cells ∧ slots + 7 ≤ rm.slots) (kk : ∀ q : Nat, Go D E A Q nL (cells + 1) (slots + 7) ([(q, .inr (7, [.null, .null, .null, .null, .null, .null, .int 0]))] ++ hpW H) ls (pc + 3) (.ref q :: rest)) : Go D E A Q nL cells slots ([] ++ hpW H) ls pc rest := by
  refine q_new C inX8g tyX8_ok hcl it_X8 ini_X8 (ci := 7) rfl (fs := [.null, .null, .null, .null, .null, .null, .int 0]) (by decide) hcs hd _ _ ⟨rfl, rfl⟩ _ (fun _ => rfl) (fun q => ?_)
  intro Hp locs la hP hD hS hl
  have hpm : ((([] : va_W) ++ hpW H) ++ ([(q, .inr (7, [.null, .null, .null, .null, .null, .null, .int 0]))] : va_W)).Perm (([(q, .inr (7, [.null, .null, .null, .null, .null, .null, .int 0]))] : va_W) ++ hpW H) := List.perm_append_comm
  exact kk q Hp locs la (pm_P hP (fun x hx => hpm.mem_iff.mpr hx)) (pm_D hD hpm) hS hl
end HMORE
