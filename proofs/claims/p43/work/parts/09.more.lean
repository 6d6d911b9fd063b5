/-! further rules: nest mates' fields, Math, a switch's default, doubled words -/
theorem inX1g : ∀ w ∈ u_ws RX1 TX1 7, w ∈ gtbl := fun w h => gtbl_of (inX1 w h) (List.all_eq_true.mp (by decide +kernel : (u_ws RX1 TX1 7).all goodWord = true) w h)
theorem it_X1 : Cond.instantiable RX1 7 ∈ gtbl := gtbl_of (List.mem_append_right _ (List.mem_of_getElem? (i := 60) (by decide +kernel))) rfl
theorem inX2g : ∀ w ∈ u_ws RX2 TX2 2, w ∈ gtbl := fun w h => gtbl_of (inX2 w h) (List.all_eq_true.mp (by decide +kernel : (u_ws RX2 TX2 2).all goodWord = true) w h)
theorem it_X2 : Cond.instantiable RX2 2 ∈ gtbl := gtbl_of (List.mem_append_right _ (List.mem_of_getElem? (i := 223) (by decide +kernel))) rfl
theorem inX3g : ∀ w ∈ u_ws RX3 TX3 6, w ∈ gtbl := fun w h => gtbl_of (inX3 w h) (List.all_eq_true.mp (by decide +kernel : (u_ws RX3 TX3 6).all goodWord = true) w h)
theorem it_X3 : Cond.instantiable RX3 6 ∈ gtbl := gtbl_of (List.mem_append_right _ (List.mem_of_getElem? (i := 163) (by decide +kernel))) rfl
theorem inX4g : ∀ w ∈ u_ws RX4 TX4 14, w ∈ gtbl := fun w h => gtbl_of (inX4 w h) (List.all_eq_true.mp (by decide +kernel : (u_ws RX4 TX4 14).all goodWord = true) w h)
theorem it_X4 : Cond.instantiable RX4 14 ∈ gtbl := gtbl_of (List.mem_append_right _ (List.mem_of_getElem? (i := 236) (by decide +kernel))) rfl
theorem inX5g : ∀ w ∈ u_ws RX5 TX5 2, w ∈ gtbl := fun w h => gtbl_of (inX5 w h) (List.all_eq_true.mp (by decide +kernel : (u_ws RX5 TX5 2).all goodWord = true) w h)
theorem it_X5 : Cond.instantiable RX5 2 ∈ gtbl := gtbl_of (List.mem_append_right _ (List.mem_of_getElem? (i := 39) (by decide +kernel))) rfl
theorem inX6g : ∀ w ∈ u_ws RX6 TX6 7, w ∈ gtbl := fun w h => gtbl_of (inX6 w h) (List.all_eq_true.mp (by decide +kernel : (u_ws RX6 TX6 7).all goodWord = true) w h)
theorem it_X6 : Cond.instantiable RX6 7 ∈ gtbl := gtbl_of (List.mem_append_right _ (List.mem_of_getElem? (i := 169) (by decide +kernel))) rfl
theorem inX7g : ∀ w ∈ u_ws RX7 TX7 13, w ∈ gtbl := fun w h => gtbl_of (inX7 w h) (List.all_eq_true.mp (by decide +kernel : (u_ws RX7 TX7 13).all goodWord = true) w h)
theorem it_X7 : Cond.instantiable RX7 13 ∈ gtbl := gtbl_of (List.mem_append_right _ (List.mem_of_getElem? (i := 54) (by decide +kernel))) rfl
theorem inX8g : ∀ w ∈ u_ws RX8 TX8 7, w ∈ gtbl := fun w h => gtbl_of (inX8 w h) (List.all_eq_true.mp (by decide +kernel : (u_ws RX8 TX8 7).all goodWord = true) w h)
theorem it_X8 : Cond.instantiable RX8 7 ∈ gtbl := gtbl_of (List.mem_append_right _ (List.mem_of_getElem? (i := 31) (by decide +kernel))) rfl
theorem inX9g : ∀ w ∈ u_ws RX9 TX9 12, w ∈ gtbl := fun w h => gtbl_of (inX9 w h) (List.all_eq_true.mp (by decide +kernel : (u_ws RX9 TX9 12).all goodWord = true) w h)
theorem it_X9 : Cond.instantiable RX9 12 ∈ gtbl := gtbl_of (List.mem_append_right _ (List.mem_of_getElem? (i := 852) (by decide +kernel))) rfl
theorem inX10g : ∀ w ∈ u_ws RX10 TX10 4, w ∈ gtbl := fun w h => gtbl_of (inX10 w h) (List.all_eq_true.mp (by decide +kernel : (u_ws RX10 TX10 4).all goodWord = true) w h)
theorem it_X10 : Cond.instantiable RX10 4 ∈ gtbl := gtbl_of (List.mem_append_right _ (List.mem_of_getElem? (i := 890) (by decide +kernel))) rfl
theorem inJ0g : ∀ w ∈ u_ws RJ0 TJ0 4, w ∈ gtbl := fun w h => gtbl_of (inJ0 w h) (List.all_eq_true.mp (by decide +kernel : (u_ws RJ0 TJ0 4).all goodWord = true) w h)
theorem it_J0 : Cond.instantiable RJ0 4 ∈ gtbl := gtbl_of (List.mem_append_right _ (List.mem_of_getElem? (i := 1466) (by decide +kernel))) rfl
theorem inJ4g : ∀ w ∈ u_ws RJ4 TJ4 4, w ∈ gtbl := fun w h => gtbl_of (inJ4 w h) (List.all_eq_true.mp (by decide +kernel : (u_ws RJ4 TJ4 4).all goodWord = true) w h)
theorem it_J4 : Cond.instantiable RJ4 4 ∈ gtbl := gtbl_of (List.mem_append_right _ (List.mem_of_getElem? (i := 1439) (by decide +kernel))) rfl
theorem cl_L_20 : Cond.classLink RL 20 RX8 ∈ gtbl := gtbl_of (List.mem_append_right _ (List.mem_of_getElem? (i := 30) (by decide +kernel))) rfl
theorem cl_X8_7 : Cond.classLink RX8 7 RX5 ∈ gtbl := gtbl_of (List.mem_append_right _ (List.mem_of_getElem? (i := 38) (by decide +kernel))) rfl
theorem cl_X8_10 : Cond.classLink RX8 10 RX7 ∈ gtbl := gtbl_of (List.mem_append_right _ (List.mem_of_getElem? (i := 53) (by decide +kernel))) rfl
theorem cl_X7_9 : Cond.classLink RX7 9 RX1 ∈ gtbl := gtbl_of (List.mem_append_right _ (List.mem_of_getElem? (i := 59) (by decide +kernel))) rfl
theorem cl_X8_19 : Cond.classLink RX8 19 RX3 ∈ gtbl := gtbl_of (List.mem_append_right _ (List.mem_of_getElem? (i := 162) (by decide +kernel))) rfl
theorem cl_X3_9 : Cond.classLink RX3 9 RX6 ∈ gtbl := gtbl_of (List.mem_append_right _ (List.mem_of_getElem? (i := 168) (by decide +kernel))) rfl
theorem cl_X3_20 : Cond.classLink RX3 20 RX7 ∈ gtbl := gtbl_of (List.mem_append_right _ (List.mem_of_getElem? (i := 201) (by decide +kernel))) rfl
theorem cl_X8_28 : Cond.classLink RX8 28 RX2 ∈ gtbl := gtbl_of (List.mem_append_right _ (List.mem_of_getElem? (i := 222) (by decide +kernel))) rfl
theorem cl_X8_35 : Cond.classLink RX8 35 RX4 ∈ gtbl := gtbl_of (List.mem_append_right _ (List.mem_of_getElem? (i := 235) (by decide +kernel))) rfl
theorem cl_X9_8 : Cond.classLink RX9 8 RX9 ∈ gtbl := gtbl_of (List.mem_append_right _ (List.mem_of_getElem? (i := 1241) (by decide +kernel))) rfl
theorem cl_X9_34 : Cond.classLink RX9 34 RX10 ∈ gtbl := gtbl_of (List.mem_append_right _ (List.mem_of_getElem? (i := 1248) (by decide +kernel))) rfl
theorem cl_L_76 : Cond.classLink RL 76 RJ4 ∈ gtbl := gtbl_of (List.mem_append_right _ (List.mem_of_getElem? (i := 1438) (by decide +kernel))) rfl
theorem cl_J4_18 : Cond.classLink RJ4 18 RJ0 ∈ gtbl := gtbl_of (List.mem_append_right _ (List.mem_of_getElem? (i := 1465) (by decide +kernel))) rfl
theorem cl_L_32 : Cond.classLink RL 32 RX10 ∈ gtbl := gtbl_of (List.mem_append_right _ (List.mem_of_getElem? (i := 1523) (by decide +kernel))) rfl
theorem cl_X10_65 : Cond.classLink RX10 65 RJ0 ∈ gtbl := gtbl_of (List.mem_append_right _ (List.mem_of_getElem? (i := 1559) (by decide +kernel))) rfl
theorem cl_X10_103 : Cond.classLink RX10 103 RJ4 ∈ gtbl := gtbl_of (List.mem_append_right _ (List.mem_of_getElem? (i := 1579) (by decide +kernel))) rfl
theorem cl_X9_19 : Cond.classLink RX9 19 (FieldType.array .int).toString ∈ gtbl := by
  rw [show (FieldType.array .int).toString = "[I" by decide +kernel]
  exact gtbl_of (List.mem_append_right _ (List.mem_of_getElem? (i := 843) (by decide +kernel))) rfl
theorem cl_X9_13 : Cond.classLink RX9 13 (FieldType.array (.array .int)).toString ∈ gtbl := by
  rw [show (FieldType.array (.array .int)).toString = "[[I" by decide +kernel]
  exact gtbl_of (List.mem_append_right _ (List.mem_of_getElem? (i := 1246) (by decide +kernel))) rfl
theorem cl_X9_44 : Cond.classLink RX9 44 (FieldType.array (.array (.array .int))).toString ∈ gtbl := by
  rw [show (FieldType.array (.array (.array .int))).toString = "[[[I" by decide +kernel]
  exact gtbl_of (List.mem_append_right _ (List.mem_of_getElem? (i := 1298) (by decide +kernel))) rfl
theorem ac_I : Cond.arrayClass .int ∈ gtbl := gtbl_of (List.mem_append_right _ (List.mem_of_getElem? (i := 90) (by decide +kernel))) rfl
theorem ac_Z : Cond.arrayClass .boolean ∈ gtbl := gtbl_of (List.mem_append_right _ (List.mem_of_getElem? (i := 161) (by decide +kernel))) rfl
theorem ac_J : Cond.arrayClass .long ∈ gtbl := gtbl_of (List.mem_append_right _ (List.mem_of_getElem? (i := 160) (by decide +kernel))) rfl
theorem ac_B : Cond.arrayClass .byte ∈ gtbl := gtbl_of (List.mem_append_right _ (List.mem_of_getElem? (i := 52) (by decide +kernel))) rfl
theorem oi_code : Cond.code objectInit ⟨#[0xb1]⟩ 1 none ∈ gtbl := gtbl_of (List.mem_append_right _ (List.mem_of_getElem? (i := 37) (by decide +kernel))) rfl
theorem oi_inst : Cond.instanceMethod objectInit ∈ gtbl := gtbl_of (List.mem_append_right _ (List.mem_of_getElem? (i := 36) (by decide +kernel))) rfl
theorem oi_X8_1 : Cond.methodLink RX8 1 objectInit ∈ gtbl := gtbl_of (List.mem_append_right _ (List.mem_of_getElem? (i := 35) (by decide +kernel))) rfl
theorem oi_X5_3 : Cond.methodLink RX5 3 objectInit ∈ gtbl := gtbl_of (List.mem_append_right _ (List.mem_of_getElem? (i := 43) (by decide +kernel))) rfl
theorem oi_X7_3 : Cond.methodLink RX7 3 objectInit ∈ gtbl := gtbl_of (List.mem_append_right _ (List.mem_of_getElem? (i := 58) (by decide +kernel))) rfl
theorem oi_X1_3 : Cond.methodLink RX1 3 objectInit ∈ gtbl := gtbl_of (List.mem_append_right _ (List.mem_of_getElem? (i := 64) (by decide +kernel))) rfl
theorem oi_X3_3 : Cond.methodLink RX3 3 objectInit ∈ gtbl := gtbl_of (List.mem_append_right _ (List.mem_of_getElem? (i := 167) (by decide +kernel))) rfl
theorem oi_X6_3 : Cond.methodLink RX6 3 objectInit ∈ gtbl := gtbl_of (List.mem_append_right _ (List.mem_of_getElem? (i := 173) (by decide +kernel))) rfl
theorem oi_X2_3 : Cond.methodLink RX2 3 objectInit ∈ gtbl := gtbl_of (List.mem_append_right _ (List.mem_of_getElem? (i := 227) (by decide +kernel))) rfl
theorem oi_X4_3 : Cond.methodLink RX4 3 objectInit ∈ gtbl := gtbl_of (List.mem_append_right _ (List.mem_of_getElem? (i := 240) (by decide +kernel))) rfl
theorem oi_X9_1 : Cond.methodLink RX9 1 objectInit ∈ gtbl := gtbl_of (List.mem_append_right _ (List.mem_of_getElem? (i := 1245) (by decide +kernel))) rfl
theorem oi_J5_3 : Cond.methodLink RJ5 3 objectInit ∈ gtbl := gtbl_of (List.mem_append_right _ (List.mem_of_getElem? (i := 1446) (by decide +kernel))) rfl
theorem oi_J0_1 : Cond.methodLink RJ0 1 objectInit ∈ gtbl := gtbl_of (List.mem_append_right _ (List.mem_of_getElem? (i := 1473) (by decide +kernel))) rfl
theorem oi_X10_1 : Cond.methodLink RX10 1 objectInit ∈ gtbl := gtbl_of (List.mem_append_right _ (List.mem_of_getElem? (i := 1530) (by decide +kernel))) rfl
theorem nat_acopy : Cond.native arraycopyName ∈ gtbl := gtbl_of (List.mem_append_right _ (List.mem_of_getElem? (i := 1342) (by decide +kernel))) rfl
theorem st_acopy : Cond.static arraycopyName ∈ gtbl := gtbl_of (List.mem_append_right _ (List.mem_of_getElem? (i := 1341) (by decide +kernel))) rfl
theorem ml_J7_150 : Cond.methodLink RJ7 150 arraycopyName ∈ gtbl := gtbl_of (List.mem_append_right _ (List.mem_of_getElem? (i := 1340) (by decide +kernel))) rfl
theorem ml_J0_212 : Cond.methodLink RJ0 212 arraycopyName ∈ gtbl := gtbl_of (List.mem_append_right _ (List.mem_of_getElem? (i := 1404) (by decide +kernel))) rfl
section MORE
theorem mcd_max : Cond.code Lib.Math.max.name Lib.Math.max.code 2 (some .int) ∈ gtbl := gtbl_of (List.mem_append_right _ (List.mem_of_getElem? (i := 611) (by decide +kernel))) rfl
theorem mst_max : Cond.static Lib.Math.max.name ∈ gtbl := gtbl_of (List.mem_append_right _ (List.mem_of_getElem? (i := 610) (by decide +kernel))) rfl
theorem ml_X4_93 : Cond.methodLink RX4 93 Lib.Math.max.name ∈ gtbl := gtbl_of (List.mem_append_right _ (List.mem_of_getElem? (i := 609) (by decide +kernel))) rfl
theorem ml_X2_143 : Cond.methodLink RX2 143 Lib.Math.max.name ∈ gtbl := gtbl_of (List.mem_append_right _ (List.mem_of_getElem? (i := 762) (by decide +kernel))) rfl
theorem ml_J8_194 : Cond.methodLink RJ8 194 Lib.Math.max.name ∈ gtbl := gtbl_of (List.mem_append_right _ (List.mem_of_getElem? (i := 1323) (by decide +kernel))) rfl
theorem ml_L_215 : Cond.methodLink RL 215 Lib.Math.max.name ∈ gtbl := gtbl_of (List.mem_append_right _ (List.mem_of_getElem? (i := 1618) (by decide +kernel))) rfl
theorem mcd_min : Cond.code Lib.Math.min.name Lib.Math.min.code 2 (some .int) ∈ gtbl := gtbl_of (List.mem_append_right _ (List.mem_of_getElem? (i := 761) (by decide +kernel))) rfl
theorem mst_min : Cond.static Lib.Math.min.name ∈ gtbl := gtbl_of (List.mem_append_right _ (List.mem_of_getElem? (i := 760) (by decide +kernel))) rfl
theorem ml_X2_137 : Cond.methodLink RX2 137 Lib.Math.min.name ∈ gtbl := gtbl_of (List.mem_append_right _ (List.mem_of_getElem? (i := 759) (by decide +kernel))) rfl
theorem ml_J7_304 : Cond.methodLink RJ7 304 Lib.Math.min.name ∈ gtbl := gtbl_of (List.mem_append_right _ (List.mem_of_getElem? (i := 1339) (by decide +kernel))) rfl
theorem ml_L_220 : Cond.methodLink RL 220 Lib.Math.min.name ∈ gtbl := gtbl_of (List.mem_append_right _ (List.mem_of_getElem? (i := 1619) (by decide +kernel))) rfl
theorem mn_X8_9 : Cond.methodLinkNest RX8 9 yX5_init "SofaDig" ∈ lw_tbl := List.mem_append_right _ (List.mem_of_getElem? (i := 40) (by decide +kernel))
theorem mn_X7_11 : Cond.methodLinkNest RX7 11 yX1_init "SofaDig" ∈ lw_tbl := List.mem_append_right _ (List.mem_of_getElem? (i := 61) (by decide +kernel))
theorem mn_X8_30 : Cond.methodLinkNest RX8 30 yX2_init "SofaDig" ∈ lw_tbl := List.mem_append_right _ (List.mem_of_getElem? (i := 224) (by decide +kernel))
theorem mn_L_34 : Cond.methodLinkNest RL 34 yX10_init "SofaDigLaw" ∈ lw_tbl := List.mem_append_right _ (List.mem_of_getElem? (i := 1527) (by decide +kernel))
variable {D : gD} {tys : List (ClassId × FieldType)} {E : gE} {rm : Room} {cc : ByteArray} {nL : Nat} {own : String} {A : Nat → Prop} {Q : State → Prop} {cells slots : Nat} {w : va_W} {ls : List (Nat × Value)} {pc : Nat} {rest : List Value}
def g_max (x y : Int32) : Int32 := if x < y then y else x
def g_min (x y : Int32) : Int32 := if y < x then y else x
theorem q_mmax (C : Cx D tys E rm cc nL own A) {index : Nat} {x y : Int32} (hlink : Cond.methodLink own index Lib.Math.max.name ∈ gtbl) (hd : decode cc pc = .ok (.invokestatic index, 3)) (hR : 1 ≤ rm.frames ∧ (rest.map fun v => v.category).sum + 13 ≤ rm.locals ∧ cells ≤ rm.cells ∧ slots ≤ rm.slots) (kk : Go D E A Q nL cells slots w ls (pc + 3) (.int (g_max x y) :: rest)) : Go D E A Q nL cells slots w ls pc (.int y :: .int x :: rest) :=
  fun H locs la hP hD hS hl => va_mmax C.hx C.hb (C.hml.trans hl.1.symm) C.hown (C.hts _ hlink) (C.hts _ mst_max) (C.hts _ ini_J9) (C.hts _ mcd_max) (by rw [C.hR]; exact hR.1) (by rw [C.hR]; exact hR.2.1) (by rw [C.hR]; exact hR.2.2.1) (by rw [C.hR]; exact hR.2.2.2) hd (kk H locs la hP hD hS hl)
theorem q_mmin (C : Cx D tys E rm cc nL own A) {index : Nat} {x y : Int32} (hlink : Cond.methodLink own index Lib.Math.min.name ∈ gtbl) (hd : decode cc pc = .ok (.invokestatic index, 3)) (hR : 1 ≤ rm.frames ∧ (rest.map fun v => v.category).sum + 13 ≤ rm.locals ∧ cells ≤ rm.cells ∧ slots ≤ rm.slots) (kk : Go D E A Q nL cells slots w ls (pc + 3) (.int (g_min x y) :: rest)) : Go D E A Q nL cells slots w ls pc (.int y :: .int x :: rest) :=
  fun H locs la hP hD hS hl => va_mmin C.hx C.hb (C.hml.trans hl.1.symm) C.hown (C.hts _ hlink) (C.hts _ mst_min) (C.hts _ ini_J9) (C.hts _ mcd_min) (by rw [C.hR]; exact hR.1) (by rw [C.hR]; exact hR.2.1) (by rw [C.hR]; exact hR.2.2.1) (by rw [C.hR]; exact hR.2.2.2) hd (kk H locs la hP hD hS hl)
theorem q_dup2 (C : Cx D tys E rm cc nL own A) {v u : Value} (hd : decode cc pc = .ok (.dup2, 1)) (hv : v.category = 1) (hu : u.category = 1) (kk : Go D E A Q nL cells slots w ls (pc + 1) (v :: u :: v :: u :: rest)) : Go D E A Q nL cells slots w ls pc (v :: u :: rest) :=
  fun H locs la hP hD hS hl => lv_dup2_11 C.hx C.hb hd hv hu (kk H locs la hP hD hS hl)
theorem look_dflt {d k : Int} {keys : List Int} (hx : ∀ q ∈ keys, k ≠ q) : ∀ (l : List (Int × Int)), l.all (fun a => decide (a.1 ∈ keys) || decide (a.2 = d)) = true → Op.lookupswitch.offset l d k = d
  | [], _ => rfl
  | (a, q) :: r, h => by
    simp only [List.all_cons, Bool.and_eq_true, Bool.or_eq_true, decide_eq_true_eq] at h
    rw [Op.lookupswitch.offset_cons]
    split
    · rename_i e
      rcases h.1 with h1 | h1
      · exact absurd e.symm (hx _ h1)
      · exact h1
    · exact look_dflt hx r h.2
theorem q_lookD (C : Cx D tys E rm cc nL own A) {dflt : Int} {ps : Array (Int × Int)} {len : Nat} {x : Int32} (keys : List Int) (tgt : Nat) (hx : ∀ q ∈ keys, x.toInt ≠ q) (hd : decode cc pc = .ok (.lookupswitch dflt ps, len)) (hp : (ps.toList.zip (ps.toList.drop 1)).all (fun (a, next) => a.1 < next.1) = true) (hall : ps.toList.all (fun a => decide (a.1 ∈ keys) || decide (a.2 = dflt)) = true) (ht : (pc : Int) + dflt = (tgt : Int)) (kk : Go D E A Q nL cells slots w ls tgt rest) : Go D E A Q nL cells slots w ls pc (.int x :: rest) :=
  fun H locs la hP hD hS hl => lv_lookup C.hx C.hb hd hp (look_dflt hx _ hall) ht (kk H locs la hP hD hS hl)
theorem q_getN (C : Cx D tys E rm cc nL own A) {ref cn host : String} {T : u_T} {N ci index : Nat} (hin : ∀ w ∈ u_ws cn T N, w ∈ gtbl) (hc : vwCl[ci]? = some (cn, T, N)) (k : Nat) (hk : k < N) (hlink : Cond.fieldLinkNest own index ref (T k).2.1 (T k).2.2.1 host ∈ lw_tbl) (hsame : (T k).1 = ref) (q0 : Nat) {a : Nat} {fs : List Value} {v : Value} (he : w[q0]? = some (a, .inr (ci, fs))) (hv : fs[k]? = some v) (hd : decode cc pc = .ok (.getfield index, 3)) (kk : Go D E A Q nL cells slots w ls (pc + 3) (v :: rest)) : Go D E A Q nL cells slots w ls pc (.ref a :: rest) :=
  fun H locs la hP hD hS hl => va_getN C.hx C.hb C.hts hin C.hown C.hK hP q0 he hc k hk (va_Nw.use rfl (C.hF.1 _ hlink rfl)) (fun x hx => by rw [← hsame]; exact hx) hv hd (kk H locs la hP hD hS hl)
theorem q_putN (C : Cx D tys E rm cc nL own A) {ref cn host : String} {T : u_T} {N ci index : Nat} (hin : ∀ w ∈ u_ws cn T N, w ∈ gtbl) {ty0 : Nat → FieldType} (hty : ∀ k, k < N → parseFieldDescriptor (T k).2.2.1 = some (ty0 k)) (hnm : ∀ a, a < N → ∀ b, b < N → a ≠ b → (T a).2.1 ≠ (T b).2.1) (hc : vwCl[ci]? = some (cn, T, N)) (k : Nat) (hk : k < N) (hlink : Cond.fieldLinkNest own index ref (T k).2.1 (T k).2.2.1 host ∈ lw_tbl) (hsame : (T k).1 = ref) (hfin : (T k).2.2.2 = false) {ty : FieldType} (hdes : parseFieldDescriptor (T k).2.2.1 = some ty) (q0 : Nat) {a : Nat} {fs : List Value} {v : Value} (w' : va_W) (he : w[q0]? = some (a, .inr (ci, fs))) (hn : narrow ty v = v) (hfit : fits ty v = true) (hl : k < fs.length) (hw : w.set q0 (a, .inr (ci, fs.set k v)) = w') (hd : decode cc pc = .ok (.putfield index, 3)) (kk : Go D E A Q nL cells slots w' ls (pc + 3) rest) : Go D E A Q nL cells slots w ls pc (v :: .ref a :: rest) :=
  fun H locs la hP hD hS h => va_putN C.hx C.hb C.hts hin ty0 hty hnm C.hown C.hK hP hD hS q0 he hc k hk (va_Nw.use rfl (C.hF.1 _ hlink rfl)) (fun x hx => by rw [← hsame]; exact hx) hfin hdes hn hfit hl hd (fun H1 locs1 hP1 hD1 hS1 => by subst hw; exact kk H1 locs1 la hP1 hD1 hS1 h)
theorem q_putF (C : Cx D tys E rm cc nL own A) {ref cn : String} {T : u_T} {N ci index : Nat} (hin : ∀ w ∈ u_ws cn T N, w ∈ gtbl) {ty0 : Nat → FieldType} (hty : ∀ k, k < N → parseFieldDescriptor (T k).2.2.1 = some (ty0 k)) (hnm : ∀ a, a < N → ∀ b, b < N → a ≠ b → (T a).2.1 ≠ (T b).2.1) (hc : vwCl[ci]? = some (cn, T, N)) (k : Nat) (hk : k < N) (hlink : Cond.fieldLink own index ref (T k).2.1 (T k).2.2.1 ∈ gtbl) (hsame : (T k).1 = ref) (hfin : (T k).2.2.2 = true) (hin2 : E.2.2.2.2.2.2.2.2.1.name = "<init>") (hdecl : (T k).1 = own) {ty : FieldType} (hdes : parseFieldDescriptor (T k).2.2.1 = some ty) (q0 : Nat) {a : Nat} {fs : List Value} {v : Value} (w' : va_W) (he : w[q0]? = some (a, .inr (ci, fs))) (hn : narrow ty v = v) (hfit : fits ty v = true) (hl : k < fs.length) (hw : w.set q0 (a, .inr (ci, fs.set k v)) = w') (hd : decode cc pc = .ok (.putfield index, 3)) (kk : Go D E A Q nL cells slots w' ls (pc + 3) rest) : Go D E A Q nL cells slots w ls pc (v :: .ref a :: rest) :=
  fun H locs la hP hD hS h => va_putF C.hx C.hb C.hts hin ty0 hty hnm C.hown C.hK hP hD hS q0 he hc k hk (C.hts _ hlink) (fun x hx => by rw [← hsame]; exact hx) hfin hin2 hdecl hdes hn hfit hl hd (fun H1 locs1 hP1 hD1 hS1 => by subst hw; exact kk H1 locs1 la hP1 hD1 hS1 h)
theorem q_objInit (C : Cx D tys E rm cc nL own A) {idx : Nat} {a : Nat} (hlink : Cond.methodLink own idx objectInit ∈ gtbl) (hd : decode cc pc = .ok (.invokespecial idx, 3)) (hR : 1 ≤ rm.frames ∧ (rest.map fun v => v.category).sum + 12 ≤ rm.locals) (h8 : (rest.map fun v => v.category).sum ≤ 8) (kk : Go D E A Q nL cells slots w ls (pc + 3) rest) : Go D E A Q nL cells slots w ls pc (.ref a :: rest) :=
  fun H locs la hP hD hS hl => W.objInit C.hx C.hb C.hown (C.hts _ hlink) (C.hts _ oi_inst) (C.hts _ oi_code) rfl (by rw [C.hml]; exact hl.1) rfl hd (by rw [C.hR]; exact hR.1) (by
    rw [C.hR]
    have h0 : (F0 E.2.2.2.2.2.1 pc la (.ref a :: rest)).monitorRoom = 0 := rfl
    rw [h0]
    have := hR.2
    omega) (kk H locs la hP hD hS hl)
theorem q_newa (C : Cx D tys E rm cc nL own A) {atype : ArrayType} {ty : FieldType} {cT : ClassId} (x : (Nat → Int32) ⊕ (Nat → Int64) ⊕ (Nat → UInt32) ⊕ (Nat → UInt64) ⊕ (Nat → Option Nat)) (t0 : Nat) (ht : tys[t0]? = some (cT, ty)) (hty : newarray.typeOf atype = ty) (hRA : ∀ (U : State) (cA : ClassId), va_RA U cA ty → U.vm.findClass ("[" ++ ty.toString) = some cA) (harr : Cond.arrayClass (newarray.typeOf atype) ∈ gtbl) {n : Int32} (N : Nat) (ha : ∀ cA : ClassId, vp_cell cA (N, x) = arrV cA N (fun _ => defaultValue ty)) (hd : decode cc pc = .ok (.newarray atype, 2)) (hn : ¬ n < 0) (hN : n.toNatClampNeg = N) (hbytes : N * componentBytes ty ≤ 536870912) (hcs : cells + 1 ≤ rm.cells ∧ slots + N ≤ rm.slots) (cells' slots' : Nat) (hce : cells + 1 = cells' ∧ slots + N = slots') (w' : Nat → va_W) (hw : ∀ q, w ++ [(q, .inl (cT, (N, x)))] = w' q) (kk : ∀ q : Nat, Go D E A Q nL cells' slots' (w' q) ls (pc + 2) (.ref q :: rest)) : Go D E A Q nL cells slots w ls pc (.int n :: rest) := by
  intro H locs la hP hD hS hl
  obtain ⟨rfl, rfl⟩ := hce
  refine va_newa C.hx C.hb (C.hts _ harr) hty C.hK hP hD hS C.hA (a0 := (N, x)) ha hn hN hbytes (by rw [C.hR]; exact hcs.1) (by rw [C.hR]; exact hcs.2) hd (fun q cA H1 hK1 hP1 hD1 hS1 => ?_)
  have e : cA = cT := Option.some.inj ((hRA _ _ (hK1.2 tys.length (cA, ty) (by simp)).2).symm.trans (hRA _ _ (C.hK.2 t0 _ ht).2))
  subst e
  rw [hw q] at hP1 hD1
  exact kk q H1 locs la hP1 hD1 hS1 hl
theorem q_new (C : Cx D tys E rm cc nL own A) {cn : String} {T : u_T} {N ci index : Nat} (hin : ∀ w ∈ u_ws cn T N, w ∈ gtbl) {ty0 : Nat → FieldType} (hty : ∀ k, k < N → parseFieldDescriptor (T k).2.2.1 = some (ty0 k)) (hcl : Cond.classLink own index cn ∈ gtbl) (hinst : Cond.instantiable cn N ∈ gtbl) (hini : Cond.initialized cn ∈ gtbl) (hc : vwCl[ci]? = some (cn, T, N)) {fs : List Value} (hfs : ∀ j, j < N → defaultValue (ty0 j) = vp_V fs j) (hcs : cells + 1 ≤ rm.cells ∧ slots + N ≤ rm.slots) (hd : decode cc pc = .ok (.new index, 3)) (cells' slots' : Nat) (hce : cells + 1 = cells' ∧ slots + N = slots') (w' : Nat → va_W) (hw : ∀ q, w ++ [(q, .inr (ci, fs))] = w' q) (kk : ∀ q : Nat, Go D E A Q nL cells' slots' (w' q) ls (pc + 3) (.ref q :: rest)) : Go D E A Q nL cells slots w ls pc rest := by
  intro H locs la hP hD hS hl
  obtain ⟨rfl, rfl⟩ := hce
  refine va_new (c0 := E.2.2.2.2.2.2.2.2.2) C.hx C.hb C.hts hin ty0 hty C.hown (C.hts _ hcl) (C.hts _ hinst) (C.hts _ hini) C.hK hP hD hS C.hA hc hfs (by rw [C.hR]; exact hcs.1) (by rw [C.hR]; exact hcs.2) hd (fun q H1 hP1 hD1 hS1 => ?_)
  rw [hw q] at hP1 hD1
  exact kk q H1 locs la hP1 hD1 hS1 hl
theorem acopy_room : nativeFrameWords "java/lang/System" "arraycopy" 5 + 11 ≤ 60 := by decide +kernel
theorem q_copyi (C : Cx D tys E rm cc nL own A) {index : Nat} (hlink : Cond.methodLink own index arraycopyName ∈ gtbl) (q0 q1 t0 t1 : Nat) {a a0 : Nat} {c0 c1 : ClassId} {n0 n1 : Nat} {f g : Nat → Int32} (ha0 : w[q0]? = some (a0, .inl (c0, n0, .inl f))) (ha1 : w[q1]? = some (a, .inl (c1, n1, .inl g))) (ht0 : tys[t0]? = some (c0, .int)) (ht1 : tys[t1]? = some (c1, .int))
    {sp dp n : Int32} (h1 : ¬ sp < 0) (h2 : ¬ dp < 0) (h3 : ¬ n < 0) (h4 : sp.toNatClampNeg + n.toNatClampNeg ≤ n0) (h5 : dp.toNatClampNeg + n.toNatClampNeg ≤ n1) (hR : 1 ≤ rm.frames ∧ (rest.map fun v => v.category).sum + (nativeFrameWords "java/lang/System" "arraycopy" 5 + 11) ≤ rm.locals) (w' : va_W) (hw : w.set q1 (a, .inl (c1, n1, .inl (va_cpy f g sp.toNatClampNeg dp.toNatClampNeg n.toNatClampNeg))) = w') (hd : decode cc pc = .ok (.invokestatic index, 3)) (kk : Go D E A Q nL cells slots w' ls (pc + 3) rest) : Go D E A Q nL cells slots w ls pc (.int n :: .int dp :: .ref a :: .int sp :: .ref a0 :: rest) :=
  fun H locs la hP hD hS hl => va_copyi C.hx C.hb (C.hml.trans hl.1.symm) C.hown (C.hts _ hlink) (C.hts _ nat_acopy) (C.hts _ st_acopy) (C.hts _ ini_J10) C.hK hP hD hS q0 q1 t0 t1 ha0 ha1 ht0 ht1 rfl h1 h2 h3 h4 h5 (fun _ _ => rfl) (by rw [C.hR]; exact hR.1) (by rw [C.hR]; exact hR.2) hd (fun H1 locs1 hP1 hD1 hS1 => by subst hw; exact kk H1 locs1 la hP1 hD1 hS1 hl)
end MORE
