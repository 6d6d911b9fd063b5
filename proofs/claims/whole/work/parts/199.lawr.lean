/-! the law: its script, its room -/
def ScX (E : gE) (A : Nat → Prop) (b Lx : Nat) (xs : Nat → Int32) : Prop := va_X b Lx xs E.2.2.2.2.1 E.2.2.2.2.1.heap ∧ b < E.2.2.2.2.1.heap.size ∧ ¬ A b
theorem q_sld {D : gD} {tys : List (ClassId × FieldType)} {E : gE} {rm : Room} {cc : ByteArray} {nL : Nat} {own : String} {A : Nat → Prop} {Q : State → Prop} {cells slots : Nat} {w : va_W} {ls : List (Nat × Value)} {pc : Nat} {rest : List Value} (C : Cx D tys E rm cc nL own A) {b Lx : Nat} {xs : Nat → Int32} (hsc : ScX E A b Lx xs) {i : Int32} {P : Prop} (hd : decode cc pc = .ok (.iaload, 1)) (h : vp_in i Lx ∧ P) (kk : P → Go D E A Q nL cells slots w ls (pc + 1) (.int (xs i.toNatClampNeg) :: rest)) : Go D E A Q nL cells slots w ls pc (.int i :: .ref b :: rest) :=
  fun H locs la hP hD hS hl => va_sld C.hx C.hb hsc.1 hsc.2.1 hsc.2.2 hS h.1 hd (kk h.2 H locs la hP hD hS hl)
theorem q_slen {D : gD} {tys : List (ClassId × FieldType)} {E : gE} {rm : Room} {cc : ByteArray} {nL : Nat} {own : String} {A : Nat → Prop} {Q : State → Prop} {cells slots : Nat} {w : va_W} {ls : List (Nat × Value)} {pc : Nat} {rest : List Value} (C : Cx D tys E rm cc nL own A) {b Lx : Nat} {xs : Nat → Int32} (hsc : ScX E A b Lx xs) (hd : decode cc pc = .ok (.arraylength, 1)) (kk : Go D E A Q nL cells slots w ls (pc + 1) (.int (Int32.ofNat Lx) :: rest)) : Go D E A Q nL cells slots w ls pc (.ref b :: rest) :=
  fun H locs la hP hD hS hl => va_slen C.hx C.hb hsc.1 hsc.2.1 hsc.2.2 hS hd (kk H locs la hP hD hS hl)
theorem lw_room {b k c m r : Nat} (h : b + m ≤ r) (hk : Nat.ble (k + c) m = true) : b + k + c ≤ r := by
  have := Nat.le_of_ble_eq_true hk
  omega
theorem lw_eq {b k c n : Nat} (hk : Nat.beq (k + c) n = true) : b + k + c = b + n := by
  have := Nat.eq_of_beq_eq_true hk
  omega
theorem lw_n {c n m t r : Nat} (h : n ≤ t) (hk : Nat.ble (c + t * m) r = true) : c + n * m ≤ r := by
  have h1 := Nat.le_of_ble_eq_true hk
  have h2 : n * m ≤ t * m := Nat.mul_le_mul_right m h
  omega
