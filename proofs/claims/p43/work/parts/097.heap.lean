/-! The law's own heap: the addresses, and what each holds. The world of a law's method: B (the class's cells, a list) ++ hpW H. -/
abbrev gH : Type := List Nat × (Nat → va_E)
abbrev gY : Type := Nat → ClassId
def hpW (H : gH) : va_W := va_pl H.1 H.2
def hpG (H : gH) (a : Nat) : Option va_E := if a ∈ H.1 then some (H.2 a) else none
def hpS (H : gH) (a : Nat) (c : va_E) : gH := (H.1, va_up H.2 a c)
def hpN (H : gH) (a : Nat) (c : va_E) : gH := (H.1 ++ [a], va_up H.2 a c)
abbrev iE (cA : ClassId) (n : Nat) (f : Nat → Int32) : va_E := .inl (cA, n, .inl f)
abbrev qE (cA : ClassId) (n : Nat) (f : Nat → Option Nat) : va_E := .inl (cA, n, .inr (.inr (.inr (.inr f))))
/-- field k of the object a, of class ci, is v -/
def gF (H : gH) (a ci k : Nat) (v : Value) : Prop := ∃ fs, hpG H a = some (.inr (ci, fs)) ∧ fs[k]? = some v
/-- two new rows of rows: the outer at q, the inner ones behind it -/
def hpM (H : gH) (q : Nat) (cO cI : ClassId) (n k : Nat) : gH :=
  (H.1 ++ List.range' q (n + 1), fun a => if a = q then qE cO n (fun i => if i < n then some (q + 1 + i) else none) else if q < a ∧ a ≤ q + n then qE cI k (fun _ => none) else H.2 a)
/-- a row of bytes: of the heap, a text's, Integer's digits -/
def bA (Z : gZ) (H : gH) (a n : Nat) (f : Nat → Int32) : Prop :=
  hpG H a = some (iE (zY Z 0) n f) ∨ (∃ i, i < 52 ∧ a = Z.2.1 i ∧ n = kLen i ∧ f = kCh i)
/-- a text's bytes -/
def sV (Z : gZ) (H : gH) (a v : Nat) : Prop := gF H a 10 0 (.ref v) ∨ (∃ i, i < 52 ∧ a = Z.1 i ∧ v = Z.2.1 i)
def sC (Z : gZ) (H : gH) (a : Nat) (c : Int32) : Prop := gF H a 10 1 (.int c) ∨ (∃ i, i < 52 ∧ a = Z.1 i ∧ c = 0)
abbrev gU (Y : gY) : List (ClassId × FieldType) := [(Y 0, .byte), (Y 1, .int), (Y 2, .long), (Y 3, .boolean), (Y 4, .array .int), (Y 5, .array (.array .int)), (Y 6, .object "SofaDigLaw$Tree"), (Y 7, .object "java/lang/String")]
section HEAP
theorem hpG_some {H : gH} {a : Nat} {c : va_E} (h : hpG H a = some c) : a ∈ H.1 ∧ H.2 a = c := by
  unfold hpG at h
  split at h
  · next m => exact ⟨m, Option.some.inj h⟩
  · cases h
theorem hpG_none {H : gH} {a : Nat} (h : hpG H a = none) : a ∉ H.1 := by
  unfold hpG at h
  split at h
  · cases h
  · next m => exact m
theorem hpG_of {H : gH} {a : Nat} (h : a ∉ H.1) : hpG H a = none := if_neg h
theorem hpG_s {H : gH} {a : Nat} {c e : va_E} (h : hpG H a = some c) : hpG (hpS H a e) a = some e := by
  obtain ⟨m, -⟩ := hpG_some h
  show (if a ∈ H.1 then some (va_up H.2 a e a) else none) = some e
  rw [if_pos m, va_up_self]
theorem hpG_sn {H : gH} {a b : Nat} {e : va_E} (h : b ≠ a) : hpG (hpS H a e) b = hpG H b := by
  show (if b ∈ H.1 then some (va_up H.2 a e b) else none) = _
  rw [va_up_ne _ _ h]
  rfl
theorem hpG_n {H : gH} {a : Nat} {e : va_E} : hpG (hpN H a e) a = some e := by
  show (if a ∈ H.1 ++ [a] then some (va_up H.2 a e a) else none) = some e
  rw [if_pos (List.mem_append_right _ List.mem_cons_self), va_up_self]
theorem hpG_nn {H : gH} {a b : Nat} {e : va_E} (h : b ≠ a) : hpG (hpN H a e) b = hpG H b := by
  show (if b ∈ H.1 ++ [a] then some (va_up H.2 a e b) else none) = (if b ∈ H.1 then some (H.2 b) else none)
  rw [va_up_ne _ _ h]
  by_cases m : b ∈ H.1
  · rw [if_pos m, if_pos (List.mem_append_left _ m)]
  · rw [if_neg m, if_neg (fun q => (List.mem_append.mp q).elim m (fun q => h (List.mem_singleton.mp q)))]
theorem hpW_get {B : va_W} {H : gH} {a : Nat} {c : va_E} (h : hpG H a = some c) : ∃ k : Nat, (B ++ hpW H)[k]? = some (a, c) := by
  obtain ⟨m, e⟩ := hpG_some h
  obtain ⟨k, hk⟩ := va_pl_get (X := B) (f := H.2) m
  exact ⟨k, by rw [← e]; exact hk⟩
theorem hpW_set {A : Nat → Prop} {B : va_W} {H : gH} {a k : Nat} {c e : va_E} (hD : va_D A (B ++ hpW H)) (h : hpG H a = some c) (hk : (B ++ hpW H)[k]? = some (a, c)) : (B ++ hpW H).set k (a, e) = B ++ hpW (hpS H a e) := by
  obtain ⟨m, e1⟩ := hpG_some h
  subst e1
  exact va_pl_set hD m hk
theorem hpW_push {B : va_W} {H : gH} {q : Nat} {e : va_E} (h : hpG H q = none) : (B ++ hpW H) ++ [(q, e)] = B ++ hpW (hpN H q e) := by
  rw [List.append_assoc]
  exact congrArg (fun l => B ++ l) (va_pl_push (hpG_none h))
theorem hpW_new {A : Nat → Prop} {B : va_W} {H : gH} {q : Nat} {e : va_E} (hD : va_D A ((B ++ hpW H) ++ [(q, e)])) : hpG H q = none := by
  refine hpG_of (fun m => ?_)
  obtain ⟨k, hk⟩ := va_pl_get (X := B) (f := H.2) m
  have hlt : k < (B ++ hpW H).length := (List.getElem?_eq_some_iff.mp hk).1
  have h1 : ((B ++ hpW H) ++ [(q, e)])[k]? = some (q, H.2 q) := by rw [List.getElem?_append_left hlt]; exact hk
  have h2 : ((B ++ hpW H) ++ [(q, e)])[(B ++ hpW H).length]? = some (q, e) := by rw [List.getElem?_append_right (Nat.le_refl _)]; simp
  have := hD.1 _ _ _ _ h1 h2 rfl
  omega
end HEAP
section HRULES
variable {D : gD} {E : gE} {rm : Room} {cc : ByteArray} {nL : Nat} {own : String} {A : Nat → Prop} {Q : State → Prop} {cells slots : Nat} {ls : List (Nat × Value)} {pc : Nat} {rest : List Value} {B : va_W} {H : gH}
/-- the law's context: all array classes -/
abbrev CL (D : gD) (E : gE) (rm : Room) (cc : ByteArray) (nL : Nat) (own : String) (A : Nat → Prop) : Prop := Cx D (gU (zY D.2)) E rm cc nL own A
theorem h_get (C : CL D E rm cc nL own A) {ref cn : String} {T : u_T} {N ci index : Nat} (hin : ∀ w ∈ u_ws cn T N, w ∈ gtbl) (hc : vwCl[ci]? = some (cn, T, N)) (k : Nat) (hk : k < N) (hlink : Cond.fieldLink own index ref (T k).2.1 (T k).2.2.1 ∈ gtbl) (hsame : (T k).1 = ref) {a : Nat} {v : Value} (he : gF H a ci k v) (hd : decode cc pc = .ok (.getfield index, 3)) (kk : Go D E A Q nL cells slots (B ++ hpW H) ls (pc + 3) (v :: rest)) : Go D E A Q nL cells slots (B ++ hpW H) ls pc (.ref a :: rest) := by
  obtain ⟨fs, h1, h2⟩ := he
  obtain ⟨q0, hq⟩ := hpW_get (B := B) h1
  exact q_get C hin hc k hk hlink hsame q0 hq h2 hd kk
theorem h_put (C : CL D E rm cc nL own A) {ref cn : String} {T : u_T} {N ci index : Nat} (hin : ∀ w ∈ u_ws cn T N, w ∈ gtbl) {ty0 : Nat → FieldType} (hty : ∀ k, k < N → parseFieldDescriptor (T k).2.2.1 = some (ty0 k)) (hnm : ∀ a, a < N → ∀ b, b < N → a ≠ b → (T a).2.1 ≠ (T b).2.1) (hc : vwCl[ci]? = some (cn, T, N)) (k : Nat) (hk : k < N) (hlink : Cond.fieldLink own index ref (T k).2.1 (T k).2.2.1 ∈ gtbl) (hsame : (T k).1 = ref) (hfin : (T k).2.2.2 = false) {ty : FieldType} (hdes : parseFieldDescriptor (T k).2.2.1 = some ty) {a : Nat} {fs : List Value} {v : Value} (he : hpG H a = some (.inr (ci, fs))) (hl : k < fs.length) (hn : narrow ty v = v) (hfit : fits ty v = true) (hd : decode cc pc = .ok (.putfield index, 3)) (kk : Go D E A Q nL cells slots (B ++ hpW (hpS H a (.inr (ci, fs.set k v)))) ls (pc + 3) rest) : Go D E A Q nL cells slots (B ++ hpW H) ls pc (v :: .ref a :: rest) := by
  intro Hp locs la hP hD hS h
  obtain ⟨q0, hq⟩ := hpW_get (B := B) he
  exact q_put C hin hty hnm hc k hk hlink hsame hfin hdes q0 _ hq hn hfit hl (hpW_set hD he hq) hd kk Hp locs la hP hD hS h
theorem h_putF (C : CL D E rm cc nL own A) {ref cn : String} {T : u_T} {N ci index : Nat} (hin : ∀ w ∈ u_ws cn T N, w ∈ gtbl) {ty0 : Nat → FieldType} (hty : ∀ k, k < N → parseFieldDescriptor (T k).2.2.1 = some (ty0 k)) (hnm : ∀ a, a < N → ∀ b, b < N → a ≠ b → (T a).2.1 ≠ (T b).2.1) (hc : vwCl[ci]? = some (cn, T, N)) (k : Nat) (hk : k < N) (hlink : Cond.fieldLink own index ref (T k).2.1 (T k).2.2.1 ∈ gtbl) (hsame : (T k).1 = ref) (hfin : (T k).2.2.2 = true) (hin2 : E.2.2.2.2.2.2.2.2.1.name = "<init>") (hdecl : (T k).1 = own) {ty : FieldType} (hdes : parseFieldDescriptor (T k).2.2.1 = some ty) {a : Nat} {fs : List Value} {v : Value} (he : hpG H a = some (.inr (ci, fs))) (hl : k < fs.length) (hn : narrow ty v = v) (hfit : fits ty v = true) (hd : decode cc pc = .ok (.putfield index, 3)) (kk : Go D E A Q nL cells slots (B ++ hpW (hpS H a (.inr (ci, fs.set k v)))) ls (pc + 3) rest) : Go D E A Q nL cells slots (B ++ hpW H) ls pc (v :: .ref a :: rest) := by
  intro Hp locs la hP hD hS h
  obtain ⟨q0, hq⟩ := hpW_get (B := B) he
  exact q_putF C hin hty hnm hc k hk hlink hsame hfin hin2 hdecl hdes q0 _ hq hn hfit hl (hpW_set hD he hq) hd kk Hp locs la hP hD hS h
theorem h_iald (C : CL D E rm cc nL own A) {a n : Nat} {f : Nat → Int32} {i : Int32} (he : hpG H a = some (iE (zY D.2 1) n f)) (hi : vp_in i n) (hd : decode cc pc = .ok (.iaload, 1)) (kk : Go D E A Q nL cells slots (B ++ hpW H) ls (pc + 1) (.int (f i.toNatClampNeg) :: rest)) : Go D E A Q nL cells slots (B ++ hpW H) ls pc (.int i :: .ref a :: rest) := by
  obtain ⟨q0, hq⟩ := hpW_get (B := B) he
  exact q_iald C q0 1 hq rfl hd ⟨hi, trivial⟩ (fun _ => kk)
theorem h_zald (C : CL D E rm cc nL own A) {a n : Nat} {f : Nat → Int32} {i : Int32} (he : hpG H a = some (iE (zY D.2 3) n f)) (hi : vp_in i n) (hd : decode cc pc = .ok (.baload, 1)) (kk : Go D E A Q nL cells slots (B ++ hpW H) ls (pc + 1) (.int (f i.toNatClampNeg) :: rest)) : Go D E A Q nL cells slots (B ++ hpW H) ls pc (.int i :: .ref a :: rest) := by
  obtain ⟨q0, hq⟩ := hpW_get (B := B) he
  exact q_zald C q0 3 hq rfl hd ⟨hi, trivial⟩ (fun _ => kk)
theorem h_bald (C : CL D E rm cc nL own A) {a n : Nat} {f : Nat → Int32} {i : Int32} (he : bA D.2 H a n f) (hi : vp_in i n) (hd : decode cc pc = .ok (.baload, 1)) (kk : Go D E A Q nL cells slots (B ++ hpW H) ls (pc + 1) (.int (f i.toNatClampNeg) :: rest)) : Go D E A Q nL cells slots (B ++ hpW H) ls pc (.int i :: .ref a :: rest) := by
  rcases he with he | ⟨j, hj, rfl, rfl, rfl⟩
  · obtain ⟨q0, hq⟩ := hpW_get (B := B) he
    exact q_bald C q0 0 hq rfl hd ⟨hi, trivial⟩ (fun _ => kk)
  · exact q_kbyt C hj hi hd kk
theorem h_iast (C : CL D E rm cc nL own A) {a n : Nat} {f : Nat → Int32} {i x : Int32} (he : hpG H a = some (iE (zY D.2 1) n f)) (hi : vp_in i n) (hd : decode cc pc = .ok (.iastore, 1)) (kk : Go D E A Q nL cells slots (B ++ hpW (hpS H a (iE (zY D.2 1) n (upd f i.toNatClampNeg x)))) ls (pc + 1) rest) : Go D E A Q nL cells slots (B ++ hpW H) ls pc (.int x :: .int i :: .ref a :: rest) := by
  intro Hp locs la hP hD hS h
  obtain ⟨q0, hq⟩ := hpW_get (B := B) he
  exact q_iast C q0 1 _ hq rfl (hpW_set hD he hq) hd ⟨hi, trivial⟩ (fun _ => kk) Hp locs la hP hD hS h
theorem h_bast (C : CL D E rm cc nL own A) {a n : Nat} {f : Nat → Int32} {i x : Int32} (he : hpG H a = some (iE (zY D.2 0) n f)) (hi : vp_in i n) (hd : decode cc pc = .ok (.bastore, 1)) (kk : Go D E A Q nL cells slots (B ++ hpW (hpS H a (iE (zY D.2 0) n (upd f i.toNatClampNeg (vp_nar .byte x))))) ls (pc + 1) rest) : Go D E A Q nL cells slots (B ++ hpW H) ls pc (.int x :: .int i :: .ref a :: rest) := by
  intro Hp locs la hP hD hS h
  obtain ⟨q0, hq⟩ := hpW_get (B := B) he
  exact q_bast C q0 0 _ hq rfl (hpW_set hD he hq) hd ⟨hi, trivial⟩ (fun _ => kk) Hp locs la hP hD hS h
theorem h_zast (C : CL D E rm cc nL own A) {a n : Nat} {f : Nat → Int32} {i x : Int32} (he : hpG H a = some (iE (zY D.2 3) n f)) (hi : vp_in i n) (hd : decode cc pc = .ok (.bastore, 1)) (kk : Go D E A Q nL cells slots (B ++ hpW (hpS H a (iE (zY D.2 3) n (upd f i.toNatClampNeg (vp_nar .boolean x))))) ls (pc + 1) rest) : Go D E A Q nL cells slots (B ++ hpW H) ls pc (.int x :: .int i :: .ref a :: rest) := by
  intro Hp locs la hP hD hS h
  obtain ⟨q0, hq⟩ := hpW_get (B := B) he
  exact q_zast C q0 3 _ hq rfl (hpW_set hD he hq) hd ⟨hi, trivial⟩ (fun _ => kk) Hp locs la hP hD hS h
/-- an array's length, t0 its element type's place -/
theorem h_alen (C : CL D E rm cc nL own A) (t0 : Nat) {ty : FieldType} {a n : Nat} {cA : ClassId} {x : (Nat → Int32) ⊕ (Nat → Int64) ⊕ (Nat → UInt32) ⊕ (Nat → UInt64) ⊕ (Nat → Option Nat)} (ht : (gU (zY D.2))[t0]? = some (cA, ty)) (he : hpG H a = some (.inl (cA, n, x))) (hd : decode cc pc = .ok (.arraylength, 1)) (kk : Go D E A Q nL cells slots (B ++ hpW H) ls (pc + 1) (.int (nI n) :: rest)) : Go D E A Q nL cells slots (B ++ hpW H) ls pc (.ref a :: rest) := by
  obtain ⟨q0, hq⟩ := hpW_get (B := B) he
  exact q_alen C q0 t0 hq ht rfl hd kk
theorem h_blen (C : CL D E rm cc nL own A) {a n : Nat} {f : Nat → Int32} (he : bA D.2 H a n f) (hd : decode cc pc = .ok (.arraylength, 1)) (kk : Go D E A Q nL cells slots (B ++ hpW H) ls (pc + 1) (.int (nI n) :: rest)) : Go D E A Q nL cells slots (B ++ hpW H) ls pc (.ref a :: rest) := by
  rcases he with he | ⟨j, hj, rfl, rfl, rfl⟩
  · exact h_alen C 0 rfl he hd kk
  · exact q_klen C hj hd kk
theorem h_sval (C : CL D E rm cc nL own A) {a v idx : Nat} (hl : Cond.fieldLink own idx "java/lang/String" "value" "[B" ∈ gtbl) (he : sV D.2 H a v) (hd : decode cc pc = .ok (.getfield idx, 3)) (kk : Go D E A Q nL cells slots (B ++ hpW H) ls (pc + 3) (.ref v :: rest)) : Go D E A Q nL cells slots (B ++ hpW H) ls pc (.ref a :: rest) := by
  rcases he with he | ⟨j, hj, rfl, rfl⟩
  · exact h_get C inJ0g (ci := 10) rfl 0 (by decide) hl rfl he hd kk
  · exact q_kval C hj hl hd kk
theorem h_scod (C : CL D E rm cc nL own A) {a idx : Nat} {c : Int32} (hl : Cond.fieldLink own idx "java/lang/String" "coder" "B" ∈ gtbl) (he : sC D.2 H a c) (hd : decode cc pc = .ok (.getfield idx, 3)) (kk : Go D E A Q nL cells slots (B ++ hpW H) ls (pc + 3) (.int c :: rest)) : Go D E A Q nL cells slots (B ++ hpW H) ls pc (.ref a :: rest) := by
  rcases he with he | ⟨j, hj, rfl, rfl⟩
  · exact h_get C inJ0g (ci := 10) rfl 1 (by decide) hl rfl he hd kk
  · exact q_kcod C hj hl hd kk
/-- an array of references -/
theorem h_aald (C : CL D E rm cc nL own A) (t0 : Nat) {ty : FieldType} {a n : Nat} {cA : ClassId} {f : Nat → Option Nat} {i : Int32} (ht : (gU (zY D.2))[t0]? = some (cA, ty)) (hty : ty.isReference = true) (he : hpG H a = some (qE cA n f)) (hin : vp_in i n) (hd : decode cc pc = .ok (.aaload, 1)) (kk : Go D E A Q nL cells slots (B ++ hpW H) ls (pc + 1) (va_rf (f i.toNatClampNeg) :: rest)) : Go D E A Q nL cells slots (B ++ hpW H) ls pc (.int i :: .ref a :: rest) := by
  obtain ⟨q0, hq⟩ := hpW_get (B := B) he
  intro Hp locs la hP hD hS hl
  have hlt : i.toNatClampNeg < n := Nat.not_le.mp fun q => hin (Or.inr q)
  exact W.aald (v := va_rf (f i.toNatClampNeg)) (ty := ty) C.hx C.hb (hP q0 _ hq) ((C.hK.2 t0 _ ht).1 n (fun j => va_rf (f j))) hty (fun q => by cases q) (by show ¬ (i < 0 ∨ (arrV _ _ _).slots.size ≤ _); rw [arrV_size]; exact hin) (by show (arrV _ _ _).slots[_]? = _; rw [arrV_read _ _ hlt]) rfl rfl hd (kk Hp locs la hP hD hS hl)
theorem h_aldR (C : CL D E rm cc nL own A) (t0 : Nat) {ty : FieldType} {a n x : Nat} {cA : ClassId} {f : Nat → Option Nat} {i : Int32} (ht : (gU (zY D.2))[t0]? = some (cA, ty)) (hty : ty.isReference = true) (he : hpG H a = some (qE cA n f)) (hin : vp_in i n) (hx : f i.toNatClampNeg = some x) (hd : decode cc pc = .ok (.aaload, 1)) (kk : Go D E A Q nL cells slots (B ++ hpW H) ls (pc + 1) (.ref x :: rest)) : Go D E A Q nL cells slots (B ++ hpW H) ls pc (.int i :: .ref a :: rest) :=
  h_aald C t0 ht hty he hin hd (by rw [hx]; exact kk)
/-- storing an array into an array of arrays -/
theorem h_astA (C : CL D E rm cc nL own A) (t0 : Nat) {ty : FieldType} {a n v m : Nat} {cA cV : ClassId} {f : Nat → Option Nat} {x : (Nat → Int32) ⊕ (Nat → Int64) ⊕ (Nat → UInt32) ⊕ (Nat → UInt64) ⊕ (Nat → Option Nat)} {i : Int32} (hK : aK E.2.2.2.2.1 cA cV ty) (hty : ty.isReference = true) (he : hpG H a = some (qE cA n f)) (hv : hpG H v = some (.inl (cV, m, x))) (hin : vp_in i n) (hd : decode cc pc = .ok (.aastore, 1)) (kk : Go D E A Q nL cells slots (B ++ hpW (hpS H a (qE cA n (va_up f i.toNatClampNeg (some v))))) ls (pc + 1) rest) : Go D E A Q nL cells slots (B ++ hpW H) ls pc (.ref v :: .int i :: .ref a :: rest) := by
  intro Hp locs la hP hD hS hl
  obtain ⟨q0, hq⟩ := hpW_get (B := B) he
  obtain ⟨qk, hqk⟩ := hpW_get (B := B) hv
  have hlt : i.toNatClampNeg < n := Nat.not_le.mp fun q => hin (Or.inr q)
  have h0 : ¬ i < 0 := fun q => hin (Or.inl q)
  obtain ⟨kA, kE, k1, k2, k3, k4⟩ := hK
  have hcv : Hp[v]? = some (vp_cell cV (m, x)) := hP qk _ hqk
  have hvc : (vp_cell cV (m, x)).cls = cV ∧ (vp_cell cV (m, x)).vm = .none := by
    rcases x with x | x | x | x | x <;> exact ⟨rfl, rfl⟩
  refine W.aast C.hx C.hb (hP q0 _ hq) (fun q h => by cases h) (fun h => by cases h) k1 k2 hty k3 ⟨h0, by show _ < (arrV _ _ _).slots.size; rw [arrV_size]; exact hlt⟩ hcv (fun q h => by rw [hvc.2] at h; cases h) (by rw [hvc.1]; exact k3) (by rw [hvc.1]; exact k4) rfl rfl hd fun H1 e z oq => ?_
  have hcell : H1[a]? = some (vp_cell cA (n, .inr (.inr (.inr (.inr (va_up f i.toNatClampNeg (some v))))))) := by
    rw [e]
    rw [vp_cell_q, vp_cell_q, arrV_store]
    congr 2
    funext q
    by_cases hq : q = i.toNatClampNeg
    · subst hq
      simp [updV, va_up, va_rf]
    · simp [updV, va_up, hq]
  have hset := hpW_set (e := qE cA n (va_up f i.toNatClampNeg (some v))) hD he hq
  have hP1 : va_P D.1 vwCl ((B ++ hpW H).set q0 (a, qE cA n (va_up f i.toNatClampNeg (some v)))) H1 := hP.set hD hq hcell oq
  have hD1 : va_D A ((B ++ hpW H).set q0 (a, qE cA n (va_up f i.toNatClampNeg (some v)))) := hD.set hq
  rw [hset] at hP1 hD1
  exact kk H1 _ la hP1 hD1 (hS.put z oq (hD.2 q0 _ hq)) hl
/-- storing an object of the heap, a text, null -/
theorem h_astT (C : CL D E rm cc nL own A) {a n v : Nat} {f : Nat → Option Nat} {vs : List Value} {i : Int32} (he : hpG H a = some (qE (zY D.2 6) n f)) (hv : hpG H v = some (.inr (9, vs))) (hin : vp_in i n) (hd : decode cc pc = .ok (.aastore, 1)) (kk : Go D E A Q nL cells slots (B ++ hpW (hpS H a (qE (zY D.2 6) n (va_up f i.toNatClampNeg (some v))))) ls (pc + 1) rest) : Go D E A Q nL cells slots (B ++ hpW H) ls pc (.ref v :: .int i :: .ref a :: rest) := by
  intro Hp locs la hP hD hS hl
  obtain ⟨q0, hq⟩ := hpW_get (B := B) he
  obtain ⟨qk, hqk⟩ := hpW_get (B := B) hv
  have hset := hpW_set (e := qE (zY D.2 6) n (va_up f i.toNatClampNeg (some v))) hD he hq
  exact va_astq (r := (RX10, TX10, 4)) C.hx C.hb C.hK hP hD hS q0 6 qk 9 hq rfl hqk rfl hin hd (fun H1 locs1 hP1 hD1 hS1 => by rw [hset] at hP1 hD1; exact kk H1 locs1 la hP1 hD1 hS1 hl)
theorem h_astN (C : CL D E rm cc nL own A) {a n : Nat} {f : Nat → Option Nat} {i : Int32} (he : hpG H a = some (qE (zY D.2 6) n f)) (hin : vp_in i n) (hd : decode cc pc = .ok (.aastore, 1)) (kk : Go D E A Q nL cells slots (B ++ hpW (hpS H a (qE (zY D.2 6) n (va_up f i.toNatClampNeg none)))) ls (pc + 1) rest) : Go D E A Q nL cells slots (B ++ hpW H) ls pc (.null :: .int i :: .ref a :: rest) := by
  intro Hp locs la hP hD hS hl
  obtain ⟨q0, hq⟩ := hpW_get (B := B) he
  have hset := hpW_set (e := qE (zY D.2 6) n (va_up f i.toNatClampNeg none)) hD he hq
  exact va_astqN (C := "SofaDigLaw$Tree") C.hx C.hb C.hK hP hD hS q0 6 hq rfl hin hd (fun H1 locs1 hP1 hD1 hS1 => by rw [hset] at hP1 hD1; exact kk H1 locs1 la hP1 hD1 hS1 hl)
theorem h_astO (C : CL D E rm cc nL own A) {a n : Nat} {f : Nat → Option Nat} {o : Option Nat} {i : Int32} (he : hpG H a = some (qE (zY D.2 6) n f)) (hv : ∀ v, o = some v → ∃ vs, hpG H v = some (.inr (9, vs))) (hin : vp_in i n) (hd : decode cc pc = .ok (.aastore, 1)) (kk : Go D E A Q nL cells slots (B ++ hpW (hpS H a (qE (zY D.2 6) n (va_up f i.toNatClampNeg o)))) ls (pc + 1) rest) : Go D E A Q nL cells slots (B ++ hpW H) ls pc (va_rf o :: .int i :: .ref a :: rest) := by
  rcases o with _ | v
  · exact h_astN C he hin hd kk
  · obtain ⟨vs, hv⟩ := hv v rfl
    exact h_astT C he hv hin hd kk
theorem h_astS (C : CL D E rm cc nL own A) {a n j : Nat} {f : Nat → Option Nat} {i : Int32} (hj : j < 52) (he : hpG H a = some (qE (zY D.2 7) n f)) (hin : vp_in i n) (hd : decode cc pc = .ok (.aastore, 1)) (kk : Go D E A Q nL cells slots (B ++ hpW (hpS H a (qE (zY D.2 7) n (va_up f i.toNatClampNeg (some (D.2.1 j)))))) ls (pc + 1) rest) : Go D E A Q nL cells slots (B ++ hpW H) ls pc (.ref (D.2.1 j) :: .int i :: .ref a :: rest) := by
  intro Hp locs la hP hD hS hl
  obtain ⟨q0, hq⟩ := hpW_get (B := B) he
  have hset := hpW_set (e := qE (zY D.2 7) n (va_up f i.toNatClampNeg (some (D.2.1 j)))) hD he hq
  have hr : ∃ cellV : Cell, Hp[D.2.1 j]? = some cellV ∧ cellV.vm.isStatics = false ∧ E.2.2.2.2.1.vm.findClass "java/lang/String" = some cellV.cls := by
    obtain ⟨cell, h1, h2, h3, -⟩ := (C.str hj).1.kept hS.2.1
    exact ⟨cell, h1, h2, h3⟩
  refine vb_astq (E := "java/lang/String") (C := "java/lang/String") C.hx C.hb C.hK hP hD hS q0 7 hq rfl hr ?_ hin hd (fun H1 locs1 hP1 hD1 hS1 => by rw [hset] at hP1 hD1; exact kk H1 locs1 la hP1 hD1 hS1 hl)
  intro comp c0 e1 e2
  obtain rfl : c0 = comp := Option.some.inj (e2.symm.trans e1)
  have hk := (C.hK.1 10 (RJ0, TJ0, 4) rfl).2
  have e3 : D.1.1 10 = c0 := Option.some.inj (hk.1.symm.trans e1)
  rw [← e3]
  exact va_assign hk
-- null and references
theorem h_null (C : CL D E rm cc nL own A) {w : va_W} (hd : decode cc pc = .ok (.aconst_null, 1)) (kk : Go D E A Q nL cells slots w ls (pc + 1) (va_rf none :: rest)) : Go D E A Q nL cells slots w ls pc rest :=
  fun Hp locs la hP hD hS hl => lv_null C.hx C.hb hd (kk Hp locs la hP hD hS hl)
theorem h_ifnull (C : CL D E rm cc nL own A) {w : va_W} {o : Option Nat} {off : Int} {PA PB : Prop} (tgt : Nat) (hd : decode cc pc = .ok (.ifnull off, 3)) (ht : (pc : Int) + off = (tgt : Int)) (h : (o = none → PA) ∧ (¬ o = none → PB)) (kt : PA → Go D E A Q nL cells slots w ls tgt rest) (kf : PB → Go D E A Q nL cells slots w ls (pc + 3) rest) : Go D E A Q nL cells slots w ls pc (va_rf o :: rest) := by
  rcases o with _ | x
  · exact fun Hp locs la hP hD hS hl => lv_ifnullN C.hx C.hb hd ht (kt (h.1 rfl) Hp locs la hP hD hS hl)
  · exact fun Hp locs la hP hD hS hl => lv_ifnull C.hx C.hb hd (kf (h.2 (fun q => by cases q)) Hp locs la hP hD hS hl)
theorem h_ifnnR (C : CL D E rm cc nL own A) {w : va_W} {x : Nat} {off : Int} (tgt : Nat) (hd : decode cc pc = .ok (.ifnonnull off, 3)) (ht : (pc : Int) + off = (tgt : Int)) (kk : Go D E A Q nL cells slots w ls tgt rest) : Go D E A Q nL cells slots w ls pc (.ref x :: rest) :=
  fun Hp locs la hP hD hS hl => lv_ifnonnull C.hx C.hb hd ht (kk Hp locs la hP hD hS hl)
theorem h_ifnn (C : CL D E rm cc nL own A) {w : va_W} {o : Option Nat} {off : Int} {PA PB : Prop} (tgt : Nat) (hd : decode cc pc = .ok (.ifnonnull off, 3)) (ht : (pc : Int) + off = (tgt : Int)) (h : (¬ o = none → PA) ∧ (o = none → PB)) (kt : PA → Go D E A Q nL cells slots w ls tgt rest) (kf : PB → Go D E A Q nL cells slots w ls (pc + 3) rest) : Go D E A Q nL cells slots w ls pc (va_rf o :: rest) := by
  rcases o with _ | x
  · exact fun Hp locs la hP hD hS hl => lv_ifnonnullN C.hx C.hb hd (kf (h.2 rfl) Hp locs la hP hD hS hl)
  · exact fun Hp locs la hP hD hS hl => lv_ifnonnull C.hx C.hb hd ht (kt (h.1 (fun q => by cases q)) Hp locs la hP hD hS hl)
-- making
theorem h_newa (C : CL D E rm cc nL own A) {atype : ArrayType} {ty : FieldType} {cT : ClassId} (t0 : Nat) (ht : (gU (zY D.2))[t0]? = some (cT, ty)) (hty : newarray.typeOf atype = ty) (hRA : ∀ (U : State) (cA : ClassId), va_RA U cA ty → U.vm.findClass ("[" ++ ty.toString) = some cA) (harr : Cond.arrayClass (newarray.typeOf atype) ∈ gtbl) {n : Int32} (ha : ∀ (cA : ClassId) (N : Nat), vp_cell cA (N, .inl (fun _ => (0 : Int32))) = arrV cA N (fun _ => defaultValue ty)) (hd : decode cc pc = .ok (.newarray atype, 2)) (hn : ¬ n < 0) (hbytes : n.toNatClampNeg * componentBytes ty ≤ 536870912) (hcs : cells + 1 ≤ rm.cells ∧ slots + n.toNatClampNeg ≤ rm.slots) (kk : ∀ q : Nat, hpG H q = none → Go D E A Q nL (cells + 1) (slots + n.toNatClampNeg) (B ++ hpW (hpN H q (iE cT n.toNatClampNeg (fun _ => 0)))) ls (pc + 2) (.ref q :: rest)) : Go D E A Q nL cells slots (B ++ hpW H) ls pc (.int n :: rest) := by
  intro Hp locs la hP hD hS hl
  refine va_newa C.hx C.hb (C.hts _ harr) hty C.hK hP hD hS C.hA (a0 := (n.toNatClampNeg, .inl (fun _ => 0))) (fun cA => ha cA _) hn rfl hbytes (by rw [C.hR]; exact hcs.1) (by rw [C.hR]; exact hcs.2) hd (fun q cA H1 hK1 hP1 hD1 hS1 => ?_)
  have e : cA = cT := Option.some.inj ((hRA _ _ (hK1.2 (gU (zY D.2)).length (cA, ty) (by simp)).2).symm.trans (hRA _ _ (C.hK.2 t0 _ ht).2))
  subst e
  have hq := hpW_new hD1
  rw [hpW_push hq] at hP1 hD1
  exact kk q hq H1 locs la hP1 hD1 hS1 hl
theorem h_newI (C : CL D E rm cc nL own A) {n : Int32} (hd : decode cc pc = .ok (.newarray .int, 2)) (hn : ¬ n < 0) (hbytes : n.toNatClampNeg * 4 ≤ 536870912) (hcs : cells + 1 ≤ rm.cells ∧ slots + n.toNatClampNeg ≤ rm.slots) (kk : ∀ q : Nat, hpG H q = none → Go D E A Q nL (cells + 1) (slots + n.toNatClampNeg) (B ++ hpW (hpN H q (iE (zY D.2 1) n.toNatClampNeg (fun _ => 0)))) ls (pc + 2) (.ref q :: rest)) : Go D E A Q nL cells slots (B ++ hpW H) ls pc (.int n :: rest) :=
  h_newa (atype := .int) C 1 rfl rfl (fun _ _ h => h) ac_I (fun _ _ => rfl) hd hn hbytes hcs kk
theorem h_newZ (C : CL D E rm cc nL own A) {n : Int32} (hd : decode cc pc = .ok (.newarray .boolean, 2)) (hn : ¬ n < 0) (hbytes : n.toNatClampNeg * 1 ≤ 536870912) (hcs : cells + 1 ≤ rm.cells ∧ slots + n.toNatClampNeg ≤ rm.slots) (kk : ∀ q : Nat, hpG H q = none → Go D E A Q nL (cells + 1) (slots + n.toNatClampNeg) (B ++ hpW (hpN H q (iE (zY D.2 3) n.toNatClampNeg (fun _ => 0)))) ls (pc + 2) (.ref q :: rest)) : Go D E A Q nL cells slots (B ++ hpW H) ls pc (.int n :: rest) :=
  h_newa (atype := .boolean) C 3 rfl rfl (fun _ _ h => h) ac_Z (fun _ _ => rfl) hd hn hbytes hcs kk
theorem h_newB (C : CL D E rm cc nL own A) {n : Int32} (hd : decode cc pc = .ok (.newarray .byte, 2)) (hn : ¬ n < 0) (hbytes : n.toNatClampNeg * 1 ≤ 536870912) (hcs : cells + 1 ≤ rm.cells ∧ slots + n.toNatClampNeg ≤ rm.slots) (kk : ∀ q : Nat, hpG H q = none → Go D E A Q nL (cells + 1) (slots + n.toNatClampNeg) (B ++ hpW (hpN H q (iE (zY D.2 0) n.toNatClampNeg (fun _ => 0)))) ls (pc + 2) (.ref q :: rest)) : Go D E A Q nL cells slots (B ++ hpW H) ls pc (.int n :: rest) :=
  h_newa (atype := .byte) C 0 rfl rfl (fun _ _ h => h) ac_B (fun _ _ => rfl) hd hn hbytes hcs kk
theorem h_new (C : CL D E rm cc nL own A) {cn : String} {T : u_T} {N ci index : Nat} (hin : ∀ w ∈ u_ws cn T N, w ∈ gtbl) {ty0 : Nat → FieldType} (hty : ∀ k, k < N → parseFieldDescriptor (T k).2.2.1 = some (ty0 k)) (hcl : Cond.classLink own index cn ∈ gtbl) (hinst : Cond.instantiable cn N ∈ gtbl) (hini : Cond.initialized cn ∈ gtbl) (hc : vwCl[ci]? = some (cn, T, N)) {fs : List Value} (hfs : ∀ j, j < N → defaultValue (ty0 j) = vp_V fs j) (hd : decode cc pc = .ok (.new index, 3)) (hcs : cells + 1 ≤ rm.cells ∧ slots + N ≤ rm.slots) (kk : ∀ q : Nat, hpG H q = none → Go D E A Q nL (cells + 1) (slots + N) (B ++ hpW (hpN H q (.inr (ci, fs)))) ls (pc + 3) (.ref q :: rest)) : Go D E A Q nL cells slots (B ++ hpW H) ls pc rest := by
  intro Hp locs la hP hD hS hl
  refine va_new (c0 := E.2.2.2.2.2.2.2.2.2) C.hx C.hb C.hts hin ty0 hty C.hown (C.hts _ hcl) (C.hts _ hinst) (C.hts _ hini) C.hK hP hD hS C.hA hc hfs (by rw [C.hR]; exact hcs.1) (by rw [C.hR]; exact hcs.2) hd (fun q H1 hP1 hD1 hS1 => ?_)
  have hq := hpW_new hD1
  rw [hpW_push hq] at hP1 hD1
  exact kk q hq H1 locs la hP1 hD1 hS1 hl
/-- arrays of objects' references -/
theorem h_anewO (C : CL D E rm cc nL own A) {Cn : String} {index : Nat} (t0 : Nat) {cT : ClassId} (ht : (gU (zY D.2))[t0]? = some (cT, .object Cn)) (hcl : Cond.classLink own index Cn ∈ gtbl) (hov : va_AO Cn E.2.2.2.2.1) {n : Int32} (hd : decode cc pc = .ok (.anewarray index, 3)) (hn : ¬ n < 0) (hbytes : n.toNatClampNeg * 4 ≤ 536870912) (hcs : cells + 1 ≤ rm.cells ∧ slots + n.toNatClampNeg ≤ rm.slots) (kk : ∀ q : Nat, hpG H q = none → Go D E A Q nL (cells + 1) (slots + n.toNatClampNeg) (B ++ hpW (hpN H q (qE cT n.toNatClampNeg (fun _ => none)))) ls (pc + 3) (.ref q :: rest)) : Go D E A Q nL cells slots (B ++ hpW H) ls pc (.int n :: rest) := by
  intro Hp locs la hP hD hS hl
  refine va_newq C.hx C.hb C.hown (C.hts _ hcl) hov C.hK hP hD hS C.hA hn rfl hbytes (by rw [C.hR]; exact hcs.1) (by rw [C.hR]; exact hcs.2) hd (fun q cA H1 hK1 hP1 hD1 hS1 => ?_)
  have e : cA = cT := by
    obtain ⟨_, _, _, _, _, g1⟩ := (hK1.2 (gU (zY D.2)).length (cA, .object Cn) (by simp)).2
    obtain ⟨_, _, _, _, _, g2⟩ := (C.hK.2 t0 _ ht).2
    exact Option.some.inj (g1.symm.trans g2)
  subst e
  have hq := hpW_new hD1
  rw [hpW_push hq] at hP1 hD1
  exact kk q hq H1 locs la hP1 hD1 hS1 hl
/-- the script -/
theorem h_sld (C : CL D E rm cc nL own A) {w : va_W} {i : Int32} (hi : vp_in i (zL D.2)) (hd : decode cc pc = .ok (.iaload, 1)) (kk : Go D E A Q nL cells slots w ls (pc + 1) (.int (zX D.2 i.toNatClampNeg) :: rest)) : Go D E A Q nL cells slots w ls pc (.int i :: .ref (zB D.2) :: rest) :=
  fun Hp locs la hP hD hS hl => va_sld C.hx C.hb C.hF.2.2.2.2.2.1 (va_Xlt C.hF.2.2.2.2.2.1) C.hF.2.2.2.2.2.2 hS hi hd (kk Hp locs la hP hD hS hl)
theorem h_slen (C : CL D E rm cc nL own A) {w : va_W} (hd : decode cc pc = .ok (.arraylength, 1)) (kk : Go D E A Q nL cells slots w ls (pc + 1) (.int (nI (zL D.2)) :: rest)) : Go D E A Q nL cells slots w ls pc (.ref (zB D.2) :: rest) :=
  fun Hp locs la hP hD hS hl => va_slen C.hx C.hb C.hF.2.2.2.2.2.1 (va_Xlt C.hF.2.2.2.2.2.1) C.hF.2.2.2.2.2.2 hS hd (kk Hp locs la hP hD hS hl)
/-- bytes copied within the heap, or out of a text -/
theorem h_copy (C : CL D E rm cc nL own A) {index : Nat} (hlink : Cond.methodLink own index arraycopyName ∈ gtbl) {a a0 n0 n1 : Nat} {f g : Nat → Int32} (ha0 : bA D.2 H a0 n0 f) (ha1 : hpG H a = some (iE (zY D.2 0) n1 g)) {sp dp n : Int32} (h1 : ¬ sp < 0) (h2 : ¬ dp < 0) (h3 : ¬ n < 0) (h4 : sp.toNatClampNeg + n.toNatClampNeg ≤ n0) (h5 : dp.toNatClampNeg + n.toNatClampNeg ≤ n1) (hfit : ∀ i, i < n.toNatClampNeg → fits .byte (.int (f (sp.toNatClampNeg + i))) = true)
    (hR : 1 ≤ rm.frames ∧ (rest.map fun v => v.category).sum + (nativeFrameWords "java/lang/System" "arraycopy" 5 + 11) ≤ rm.locals) (hd : decode cc pc = .ok (.invokestatic index, 3)) (kk : Go D E A Q nL cells slots (B ++ hpW (hpS H a (iE (zY D.2 0) n1 (va_cpy f g sp.toNatClampNeg dp.toNatClampNeg n.toNatClampNeg)))) ls (pc + 3) rest) : Go D E A Q nL cells slots (B ++ hpW H) ls pc (.int n :: .int dp :: .ref a :: .int sp :: .ref a0 :: rest) := by
  intro Hp locs la hP hD hS hl
  obtain ⟨q1, hq1⟩ := hpW_get (B := B) ha1
  have hset := hpW_set (e := iE (zY D.2 0) n1 (va_cpy f g sp.toNatClampNeg dp.toNatClampNeg n.toNatClampNeg)) hD ha1 hq1
  rcases ha0 with ha0 | ⟨j, hj, rfl, rfl, rfl⟩
  · obtain ⟨q0, hq0⟩ := hpW_get (B := B) ha0
    exact va_copyi (ty := .byte) C.hx C.hb (C.hml.trans hl.1.symm) C.hown (C.hts _ hlink) (C.hts _ nat_acopy) (C.hts _ st_acopy) (C.hts _ ini_J10) C.hK hP hD hS q0 q1 0 0 hq0 hq1 rfl rfl rfl h1 h2 h3 h4 h5 hfit (by rw [C.hR]; exact hR.1) (by rw [C.hR]; exact hR.2) hd (fun H1 locs1 hP1 hD1 hS1 => by rw [hset] at hP1 hD1; exact kk H1 locs1 la hP1 hD1 hS1 hl)
  · exact vk_copyt C.hx C.hb (C.hml.trans hl.1.symm) C.hown (C.hts _ hlink) (C.hts _ nat_acopy) (C.hts _ st_acopy) (C.hts _ ini_J10) C.hK hP hD hS (C.str hj).2.2.2 q1 0 hq1 rfl h1 h2 h3 h4 h5 hfit (by rw [C.hR]; exact hR.1) (by rw [C.hR]; exact hR.2) hd (fun H1 locs1 hP1 hD1 hS1 => by rw [hset] at hP1 hD1; exact kk H1 locs1 la hP1 hD1 hS1 hl)
end HRULES
