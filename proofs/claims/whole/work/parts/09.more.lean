/-! further rules: nest mates' fields, Math, a switch's default, doubled words -/
section MORE
theorem mcd_max : Cond.code Lib.Math.max.name Lib.Math.max.code 2 (some .int) ∈ gtbl := gtbl_of (List.mem_append_right _ (List.mem_of_getElem? (i := 767) (by decide +kernel))) rfl
theorem mst_max : Cond.static Lib.Math.max.name ∈ gtbl := gtbl_of (List.mem_append_right _ (List.mem_of_getElem? (i := 766) (by decide +kernel))) rfl
theorem ml_X4_93 : Cond.methodLink RX4 93 Lib.Math.max.name ∈ gtbl := gtbl_of (List.mem_append_right _ (List.mem_of_getElem? (i := 765) (by decide +kernel))) rfl
theorem ml_X2_143 : Cond.methodLink RX2 143 Lib.Math.max.name ∈ gtbl := gtbl_of (List.mem_append_right _ (List.mem_of_getElem? (i := 1169) (by decide +kernel))) rfl
theorem ml_X10_128 : Cond.methodLink RX10 128 Lib.Math.max.name ∈ gtbl := gtbl_of (List.mem_append_right _ (List.mem_of_getElem? (i := 1732) (by decide +kernel))) rfl
theorem mcd_min : Cond.code Lib.Math.min.name Lib.Math.min.code 2 (some .int) ∈ gtbl := gtbl_of (List.mem_append_right _ (List.mem_of_getElem? (i := 1168) (by decide +kernel))) rfl
theorem mst_min : Cond.static Lib.Math.min.name ∈ gtbl := gtbl_of (List.mem_append_right _ (List.mem_of_getElem? (i := 1167) (by decide +kernel))) rfl
theorem ml_X2_137 : Cond.methodLink RX2 137 Lib.Math.min.name ∈ gtbl := gtbl_of (List.mem_append_right _ (List.mem_of_getElem? (i := 1166) (by decide +kernel))) rfl
theorem ml_X10_179 : Cond.methodLink RX10 179 Lib.Math.min.name ∈ gtbl := gtbl_of (List.mem_append_right _ (List.mem_of_getElem? (i := 1443) (by decide +kernel))) rfl
theorem mn_X8_9 : Cond.methodLinkNest RX8 9 yX5_init "SofaDig" ∈ gtbl := gtbl_of (List.mem_append_right _ (List.mem_of_getElem? (i := 36) (by decide +kernel))) rfl
theorem mn_X7_11 : Cond.methodLinkNest RX7 11 yX1_init "SofaDig" ∈ gtbl := gtbl_of (List.mem_append_right _ (List.mem_of_getElem? (i := 57) (by decide +kernel))) rfl
theorem mn_X8_30 : Cond.methodLinkNest RX8 30 yX2_init "SofaDig" ∈ gtbl := gtbl_of (List.mem_append_right _ (List.mem_of_getElem? (i := 220) (by decide +kernel))) rfl
theorem fl_X10_52 : Cond.fieldLinkNest RX10 52 "SofaDigModel$Plan" "seats" "I" "SofaDigModel" ∈ gtbl := gtbl_of (List.mem_append_right _ (List.mem_of_getElem? (i := 1224) (by decide +kernel))) rfl
theorem fl_X10_55 : Cond.fieldLinkNest RX10 55 "SofaDigModel$Plan" "strata" "I" "SofaDigModel" ∈ gtbl := gtbl_of (List.mem_append_right _ (List.mem_of_getElem? (i := 1226) (by decide +kernel))) rfl
theorem fl_X10_137 : Cond.fieldLinkNest RX10 137 "SofaDigModel$Plan" "empires" "I" "SofaDigModel" ∈ gtbl := gtbl_of (List.mem_append_right _ (List.mem_of_getElem? (i := 1227) (by decide +kernel))) rfl
theorem fl_X10_329 : Cond.fieldLinkNest RX10 329 "SofaDigModel$Plan" "empire" "[J" "SofaDigModel" ∈ gtbl := gtbl_of (List.mem_append_right _ (List.mem_of_getElem? (i := 1229) (by decide +kernel))) rfl
theorem fl_X10_125 : Cond.fieldLinkNest RX10 125 "SofaDigModel$Plan" "begin" "[I" "SofaDigModel" ∈ gtbl := gtbl_of (List.mem_append_right _ (List.mem_of_getElem? (i := 1231) (by decide +kernel))) rfl
theorem fl_X10_140 : Cond.fieldLinkNest RX10 140 "SofaDigModel$Plan" "end" "[I" "SofaDigModel" ∈ gtbl := gtbl_of (List.mem_append_right _ (List.mem_of_getElem? (i := 1233) (by decide +kernel))) rfl
theorem fl_X10_65 : Cond.fieldLinkNest RX10 65 "SofaDigModel$Plan" "finds" "I" "SofaDigModel" ∈ gtbl := gtbl_of (List.mem_append_right _ (List.mem_of_getElem? (i := 1234) (by decide +kernel))) rfl
theorem fl_X10_119 : Cond.fieldLinkNest RX10 119 "SofaDigModel$Plan" "isCoin" "[Z" "SofaDigModel" ∈ gtbl := gtbl_of (List.mem_append_right _ (List.mem_of_getElem? (i := 1236) (by decide +kernel))) rfl
theorem fl_X10_110 : Cond.fieldLinkNest RX10 110 "SofaDigModel$Plan" "cushion" "[I" "SofaDigModel" ∈ gtbl := gtbl_of (List.mem_append_right _ (List.mem_of_getElem? (i := 1238) (by decide +kernel))) rfl
theorem fl_X10_122 : Cond.fieldLinkNest RX10 122 "SofaDigModel$Plan" "what" "[I" "SofaDigModel" ∈ gtbl := gtbl_of (List.mem_append_right _ (List.mem_of_getElem? (i := 1240) (by decide +kernel))) rfl
theorem fl_X10_100 : Cond.fieldLinkNest RX10 100 "SofaDigModel$Plan" "find" "[I" "SofaDigModel" ∈ gtbl := gtbl_of (List.mem_append_right _ (List.mem_of_getElem? (i := 1242) (by decide +kernel))) rfl
theorem fl_X10_85 : Cond.fieldLinkNest RX10 85 "SofaDigModel$Plan" "spring" "[Z" "SofaDigModel" ∈ gtbl := gtbl_of (List.mem_append_right _ (List.mem_of_getElem? (i := 1244) (by decide +kernel))) rfl
theorem fl_X10_167 : Cond.fieldLinkNest RX10 167 "SofaDigModel$Plan" "orders" "I" "SofaDigModel" ∈ gtbl := gtbl_of (List.mem_append_right _ (List.mem_of_getElem? (i := 1245) (by decide +kernel))) rfl
theorem fl_X10_154 : Cond.fieldLinkNest RX10 154 "SofaDigModel$Plan" "does" "[I" "SofaDigModel" ∈ gtbl := gtbl_of (List.mem_append_right _ (List.mem_of_getElem? (i := 1247) (by decide +kernel))) rfl
theorem fl_X10_182 : Cond.fieldLinkNest RX10 182 "SofaDigModel$Plan" "begins" "[I" "SofaDigModel" ∈ gtbl := gtbl_of (List.mem_append_right _ (List.mem_of_getElem? (i := 1249) (by decide +kernel))) rfl
theorem fl_X10_185 : Cond.fieldLinkNest RX10 185 "SofaDigModel$Plan" "ends" "[I" "SofaDigModel" ∈ gtbl := gtbl_of (List.mem_append_right _ (List.mem_of_getElem? (i := 1251) (by decide +kernel))) rfl
theorem fl_X10_188 : Cond.fieldLinkNest RX10 188 "SofaDigModel$Plan" "order" "[I" "SofaDigModel" ∈ gtbl := gtbl_of (List.mem_append_right _ (List.mem_of_getElem? (i := 1253) (by decide +kernel))) rfl
theorem fl_X10_194 : Cond.fieldLinkNest RX10 194 "SofaDigModel$Plan" "with" "[I" "SofaDigModel" ∈ gtbl := gtbl_of (List.mem_append_right _ (List.mem_of_getElem? (i := 1255) (by decide +kernel))) rfl
theorem fl_X10_265 : Cond.fieldLinkNest RX10 265 "SofaDigModel$Plan" "many" "I" "SofaDigModel" ∈ gtbl := gtbl_of (List.mem_append_right _ (List.mem_of_getElem? (i := 1256) (by decide +kernel))) rfl
variable {D : va_G} {tys : List (ClassId × FieldType)} {E : gE} {rm : Room} {cc : ByteArray} {nL : Nat} {own : String} {A : Nat → Prop} {Q : State → Prop} {cells slots : Nat} {w : va_W} {ls : List (Nat × Value)} {pc : Nat} {rest : List Value}
def g_max (x y : Int32) : Int32 := if x < y then y else x
def g_min (x y : Int32) : Int32 := if y < x then y else x
theorem q_mmax (C : Cx D tys E rm cc nL own A) {index : Nat} {x y : Int32} (hlink : Cond.methodLink own index Lib.Math.max.name ∈ gtbl) (hd : decode cc pc = .ok (.invokestatic index, 3)) (hR : 1 ≤ rm.frames ∧ (rest.map fun v => v.category).sum + 13 ≤ rm.locals ∧ cells ≤ rm.cells ∧ slots ≤ rm.slots) (kk : Go D E A Q nL cells slots w ls (pc + 3) (.int (g_max x y) :: rest)) : Go D E A Q nL cells slots w ls pc (.int y :: .int x :: rest) :=
  fun H locs la hP hD hS hl => va_mmax C.hx C.hb (C.hml.trans hl.1.symm) C.hown (C.hts _ hlink) (C.hts _ mst_max) (C.hts _ ini_J9) (C.hts _ mcd_max) (by rw [C.hR]; exact hR.1) (by rw [C.hR]; exact hR.2.1) (by rw [C.hR]; exact hR.2.2.1) (by rw [C.hR]; exact hR.2.2.2) hd (kk H locs la hP hD hS hl)
theorem q_mmin (C : Cx D tys E rm cc nL own A) {index : Nat} {x y : Int32} (hlink : Cond.methodLink own index Lib.Math.min.name ∈ gtbl) (hd : decode cc pc = .ok (.invokestatic index, 3)) (hR : 1 ≤ rm.frames ∧ (rest.map fun v => v.category).sum + 13 ≤ rm.locals ∧ cells ≤ rm.cells ∧ slots ≤ rm.slots) (kk : Go D E A Q nL cells slots w ls (pc + 3) (.int (g_min x y) :: rest)) : Go D E A Q nL cells slots w ls pc (.int y :: .int x :: rest) :=
  fun H locs la hP hD hS hl => va_mmin C.hx C.hb (C.hml.trans hl.1.symm) C.hown (C.hts _ hlink) (C.hts _ mst_min) (C.hts _ ini_J9) (C.hts _ mcd_min) (by rw [C.hR]; exact hR.1) (by rw [C.hR]; exact hR.2.1) (by rw [C.hR]; exact hR.2.2.1) (by rw [C.hR]; exact hR.2.2.2) hd (kk H locs la hP hD hS hl)
theorem q_dup2 (C : Cx D tys E rm cc nL own A) {v u : Value} (hd : decode cc pc = .ok (.dup2, 1)) (hv : v.category = 1) (hu : u.category = 1) (kk : Go D E A Q nL cells slots w ls (pc + 1) (v :: u :: v :: u :: rest)) : Go D E A Q nL cells slots w ls pc (v :: u :: rest) :=
  fun H locs la hP hD hS hl => lv_dup2_11 C.hx C.hb hd hv hu (kk H locs la hP hD hS hl)
theorem look_dflt {d k : Int} {keys : List Int} (hx : ∀ q ∈ keys, k ≠ q) : ∀ (l : List (Int × Int)), l.all (fun a => decide (a.1 ∈ keys) || decide (a.2 = d)) = true → Op.lookupswitch.offset l d k = d
  | [], _ => rfl
  | (a, q) :: r, h => by
    simp only [List.all_cons, Bool.and_eq_true, Bool.or_eq_true, decide_eq_true_eq] at h
    rw [Op.lookupswitch.offset_cons]
    split
    · rename_i e
      rcases h.1 with h1 | h1
      · exact absurd e.symm (hx _ h1)
      · exact h1
    · exact look_dflt hx r h.2
theorem q_lookD (C : Cx D tys E rm cc nL own A) {dflt : Int} {ps : Array (Int × Int)} {len : Nat} {x : Int32} (keys : List Int) (tgt : Nat) (hx : ∀ q ∈ keys, x.toInt ≠ q) (hd : decode cc pc = .ok (.lookupswitch dflt ps, len)) (hp : (ps.toList.zip (ps.toList.drop 1)).all (fun (a, next) => a.1 < next.1) = true) (hall : ps.toList.all (fun a => decide (a.1 ∈ keys) || decide (a.2 = dflt)) = true) (ht : (pc : Int) + dflt = (tgt : Int)) (kk : Go D E A Q nL cells slots w ls tgt rest) : Go D E A Q nL cells slots w ls pc (.int x :: rest) :=
  fun H locs la hP hD hS hl => lv_lookup C.hx C.hb hd hp (look_dflt hx _ hall) ht (kk H locs la hP hD hS hl)
theorem q_getN (C : Cx D tys E rm cc nL own A) {ref cn host : String} {T : u_T} {N ci index : Nat} (hin : ∀ w ∈ u_ws cn T N, w ∈ gtbl) (hc : vwCl[ci]? = some (cn, T, N)) (k : Nat) (hk : k < N) (hlink : Cond.fieldLinkNest own index ref (T k).2.1 (T k).2.2.1 host ∈ gtbl) (hsame : (T k).1 = ref) (q0 : Nat) {a : Nat} {fs : List Value} {v : Value} (he : w[q0]? = some (a, .inr (ci, fs))) (hv : fs[k]? = some v) (hd : decode cc pc = .ok (.getfield index, 3)) (kk : Go D E A Q nL cells slots w ls (pc + 3) (v :: rest)) : Go D E A Q nL cells slots w ls pc (.ref a :: rest) :=
  fun H locs la hP hD hS hl => va_getN C.hx C.hb C.hts hin C.hown C.hK hP q0 he hc k hk (C.hts _ hlink) (fun x hx => by rw [← hsame]; exact hx) hv hd (kk H locs la hP hD hS hl)
theorem q_putN (C : Cx D tys E rm cc nL own A) {ref cn host : String} {T : u_T} {N ci index : Nat} (hin : ∀ w ∈ u_ws cn T N, w ∈ gtbl) {ty0 : Nat → FieldType} (hty : ∀ k, k < N → parseFieldDescriptor (T k).2.2.1 = some (ty0 k)) (hnm : ∀ a, a < N → ∀ b, b < N → a ≠ b → (T a).2.1 ≠ (T b).2.1) (hc : vwCl[ci]? = some (cn, T, N)) (k : Nat) (hk : k < N) (hlink : Cond.fieldLinkNest own index ref (T k).2.1 (T k).2.2.1 host ∈ gtbl) (hsame : (T k).1 = ref) (hfin : (T k).2.2.2 = false) {ty : FieldType} (hdes : parseFieldDescriptor (T k).2.2.1 = some ty) (q0 : Nat) {a : Nat} {fs : List Value} {v : Value} (w' : va_W) (he : w[q0]? = some (a, .inr (ci, fs))) (hn : narrow ty v = v) (hfit : fits ty v = true) (hl : k < fs.length) (hw : w.set q0 (a, .inr (ci, fs.set k v)) = w') (hd : decode cc pc = .ok (.putfield index, 3)) (kk : Go D E A Q nL cells slots w' ls (pc + 3) rest) : Go D E A Q nL cells slots w ls pc (v :: .ref a :: rest) :=
  fun H locs la hP hD hS h => va_putN C.hx C.hb C.hts hin ty0 hty hnm C.hown C.hK hP hD hS q0 he hc k hk (C.hts _ hlink) (fun x hx => by rw [← hsame]; exact hx) hfin hdes hn hfit hl hd (fun H1 locs1 hP1 hD1 hS1 => by subst hw; exact kk H1 locs1 la hP1 hD1 hS1 h)
end MORE
