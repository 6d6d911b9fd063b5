abbrev rmX5_byteAt : Room := { frames := 0, cells := 0, slots := 0, locals := 0 }
def wX5_byteAt (A_bytes : Nat → Int32) (A_length : Int32) (p0 : Int32) (K : Int32 → Unit → Prop) : Prop :=
  ((p0 < 0 → K (-1) ()) ∧ (¬ p0 < 0 → ((A_length ≤ p0 → K (-1) ()) ∧ (¬ A_length ≤ p0 → ((p0 < 2000 → vp_in p0 2000 ∧ (K ((A_bytes p0.toNatClampNeg) &&& 255) ())) ∧ (¬ p0 < 2000 → K (-1) ()))))))
set_option maxRecDepth 100000 in
set_option maxHeartbeats 4000000 in
theorem bX5_byteAt {D : gD} {cB cI cJ cZ : ClassId} {E : gE} {A : Nat → Prop} {Q : State → Prop} {aA aA_bytes : Nat} {A_length : Int32} {A_bytes : Nat → Int32} (C : Cx D (gT cB cI cJ cZ) E rmX5_byteAt cX5_byteAt 2 RX5 A) {p0 : Int32} {K : Int32 → Unit → Prop} (hret : ∀ (r : Int32) (u : Unit) (pc : Nat) (ls : List (Nat × Value)), K r u → decode cX5_byteAt pc = .ok (.ireturn, 1) → Go D E A Q 2 0 0 [(aA, .inr (4, [.ref aA_bytes, .int A_length])), (aA_bytes, .inl (cB, 2000, .inl A_bytes))] ls pc [.int r]) (h : wX5_byteAt A_bytes A_length p0 K) : Go D E A Q 2 0 0 [(aA, .inr (4, [.ref aA_bytes, .int A_length])), (aA_bytes, .inl (cB, 2000, .inl A_bytes))] [(0, .ref aA), (1, .int p0)] 0 [] := by
  unfold wX5_byteAt at h
  refine q_iload_n C dX5_byteAt_0 1 rfl ?_
  refine q_if_lt C 19 dX5_byteAt_1 (by decide) h (fun h => ?_) (fun h => ?_)
  · refine q_iconst C (v := (-1)) dX5_byteAt_19 (by decide) ?_
    exact hret (-1) () _ _ h dX5_byteAt_20
  · refine q_iload_n C dX5_byteAt_4 1 rfl ?_
    refine q_aload_n C dX5_byteAt_5 0 rfl ?_
    refine q_get C inX5g rfl 1 (by decide) fl_X5_15 rfl 0 rfl rfl dX5_byteAt_6 ?_
    refine q_icmp_ge C 19 dX5_byteAt_9 (by decide) h (fun h => ?_) (fun h => ?_)
    · refine q_iconst C (v := (-1)) dX5_byteAt_19 (by decide) ?_
      exact hret (-1) () _ _ h dX5_byteAt_20
    · refine q_iload_n C dX5_byteAt_12 1 rfl ?_
      refine q_sipush C (v := 2000) dX5_byteAt_13 (by decide) ?_
      refine q_icmp_lt C 21 dX5_byteAt_16 (by decide) h (fun h => ?_) (fun h => ?_)
      · refine q_aload_n C dX5_byteAt_21 0 rfl ?_
        refine q_get C inX5g rfl 0 (by decide) fl_X5_9 rfl 0 rfl rfl dX5_byteAt_22 ?_
        refine q_iload_n C dX5_byteAt_25 1 rfl ?_
        refine q_bald C 1 0 rfl rfl dX5_byteAt_26 h (fun h => ?_)
        refine q_sipush C (v := 255) dX5_byteAt_27 (by decide) ?_
        refine q_iand C dX5_byteAt_30 ?_
        exact hret ((A_bytes p0.toNatClampNeg) &&& 255) () _ _ h dX5_byteAt_31
      · refine q_iconst C (v := (-1)) dX5_byteAt_19 (by decide) ?_
        exact hret (-1) () _ _ h dX5_byteAt_20
theorem cX5_byteAt_ok (l : Launch) {D : gD} {cB cI cJ cZ : ClassId} {aA aA_bytes : Nat} {A_length : Int32} {A_bytes : Nat → Int32} {p0 : Int32} {K : Int32 → Unit → Prop} (h : wX5_byteAt A_bytes A_length p0 K) : CtI l D (gT cB cI cJ cZ) yX5_byteAt cX5_byteAt 2 .int rmX5_byteAt [.ref aA, .int p0] [(aA, .inr (4, [.ref aA_bytes, .int A_length])), (aA_bytes, .inl (cB, 2000, .inl A_bytes))] (fun u : Unit => [(aA, .inr (4, [.ref aA_bytes, .int A_length])), (aA_bytes, .inl (cB, 2000, .inl A_bytes))]) K :=
  ct_startI (by decide +kernel) (Nat.le_of_ble_eq_true rfl) (fun E A Q hE C hret => bX5_byteAt C (fun r u pc ls hk hd => hret r u pc ls rfl hk hd) h)
abbrev rmX0_isWord : Room := { frames := 4, cells := 0, slots := 0, locals := 120 }
def wX0_isWord_3 (K : Int32 → Unit → Prop) (A_bytes : Nat → Int32) (A_length : Int32) : Nat → Int32 → Int32 → Int32 → Int32 → Prop
  | 0, _, _, _, _ => False
  | n + 1, x0, x2, x3, x4 =>
  ((x3 ≤ x4 → (0 < 52 ∧ vp_in (x0 + x3) (kLen 0)) ∧ (((¬ kCh 0 (x0 + x3).toNatClampNeg = 32 → K 0 ()) ∧ (kCh 0 (x0 + x3).toNatClampNeg = 32 → K 1 ())))) ∧ (¬ x3 ≤ x4 → (0 < 52 ∧ vp_in (x0 + x4) (kLen 0)) ∧ (wX5_byteAt A_bytes A_length (x2 + x4) (fun r1 u1 => ((kCh 0 (x0 + x4).toNatClampNeg = r1 → wX0_isWord_3 K A_bytes A_length n x0 x2 x3 (x4 + 1)) ∧ (¬ kCh 0 (x0 + x4).toNatClampNeg = r1 → K 0 ()))))))
set_option maxRecDepth 100000 in
set_option maxHeartbeats 4000000 in
theorem bX0_isWord_3 {D : gD} {cB cI cJ cZ : ClassId} {E : gE} {A : Nat → Prop} {Q : State → Prop} {aA aA_bytes : Nat} {A_length : Int32} {A_bytes : Nat → Int32} (C : Cx D (gT cB cI cJ cZ) E rmX0_isWord cX0_isWord 5 RX0 A) {K : Int32 → Unit → Prop} (hret : ∀ (r : Int32) (u : Unit) (pc : Nat) (ls : List (Nat × Value)), (r = 0 ∨ r = 1) → K r u → decode cX0_isWord pc = .ok (.ireturn, 1) → Go D E A Q 5 0 0 [(aA, .inr (4, [.ref aA_bytes, .int A_length])), (aA_bytes, .inl (cB, 2000, .inl A_bytes))] ls pc [.int r]) : ∀ (n : Nat) (x0 : Int32) (x2 : Int32) (x3 : Int32) (x4 : Int32), wX0_isWord_3 K A_bytes A_length n x0 x2 x3 x4 → Go D E A Q 5 0 0 [(aA, .inr (4, [.ref aA_bytes, .int A_length])), (aA_bytes, .inl (cB, 2000, .inl A_bytes))] [(0, .int x0), (1, .ref aA), (2, .int x2), (3, .int x3), (4, .int x4)] 3 [] := by
  intro n
  induction n with
  | zero =>
    intro x0 x2 x3 x4 h
    exact h.elim
  | succ n ih =>
    intro x0 x2 x3 x4 h
    unfold wX0_isWord_3 at h
    refine q_iload C dX0_isWord_3 4 rfl ?_
    refine q_iload_n C dX0_isWord_5 3 rfl ?_
    refine q_icmp_ge C 37 dX0_isWord_6 (by decide) h (fun h => ?_) (fun h => ?_)
    · refine q_ldcK (i := 0) C (C.strR (i := 0) (Nat.le_of_ble_eq_true rfl)) dX0_isWord_37 ?_
      refine q_iload_n C dX0_isWord_39 0 rfl ?_
      refine q_iload_n C dX0_isWord_40 3 rfl ?_
      refine q_iadd C dX0_isWord_41 ?_
      refine q_strChar (i := 0) C cf_X0_21 ⟨Nat.le_of_ble_eq_true rfl, Nat.le_of_ble_eq_true rfl⟩ ⟨Nat.le_of_ble_eq_true rfl, Nat.le_of_ble_eq_true rfl⟩ (Nat.le_of_ble_eq_true rfl) dX0_isWord_42 h (fun h => ?_)
      refine q_bipush C (v := 32) dX0_isWord_45 (by decide) ?_
      refine q_icmp_ne C 54 dX0_isWord_47 (by decide) h (fun h => ?_) (fun h => ?_)
      · refine q_iconst C (v := 0) dX0_isWord_54 (by decide) ?_
        exact hret 0 () _ _ (Or.inl rfl) h dX0_isWord_55
      · refine q_iconst C (v := 1) dX0_isWord_50 (by decide) ?_
        refine q_goto (tgt := 55) C dX0_isWord_51 (by decide) ?_
        exact hret 1 () _ _ (Or.inr rfl) h dX0_isWord_55
    · refine q_ldcK (i := 0) C (C.strR (i := 0) (Nat.le_of_ble_eq_true rfl)) dX0_isWord_9 ?_
      refine q_iload_n C dX0_isWord_11 0 rfl ?_
      refine q_iload C dX0_isWord_12 4 rfl ?_
      refine q_iadd C dX0_isWord_14 ?_
      refine q_strChar (i := 0) C cf_X0_21 ⟨Nat.le_of_ble_eq_true rfl, Nat.le_of_ble_eq_true rfl⟩ ⟨Nat.le_of_ble_eq_true rfl, Nat.le_of_ble_eq_true rfl⟩ (Nat.le_of_ble_eq_true rfl) dX0_isWord_15 h (fun h => ?_)
      refine q_aload_n C dX0_isWord_18 1 rfl ?_
      refine q_iload_n C dX0_isWord_19 2 rfl ?_
      refine q_iload C dX0_isWord_20 4 rfl ?_
      refine q_iadd C dX0_isWord_22 ?_
      refine q_callVI C (cX5_byteAt_ok _ h) cf_X0_25 im_X5_byteAt se_X5_byteAt 4 rfl rfl rfl rfl ⟨Nat.le_of_ble_eq_true rfl, Nat.le_of_ble_eq_true rfl⟩ ⟨Nat.le_of_ble_eq_true rfl, Nat.le_of_ble_eq_true rfl⟩ 0 0 ⟨rfl, rfl⟩ [0, 1] [] (wr := []) rfl rfl rfl rfl (by decide) (fun u1 : Unit => [(aA, .inr (4, [.ref aA_bytes, .int A_length])), (aA_bytes, .inl (cB, 2000, .inl A_bytes))]) [0, 1] rfl (fun _ => rfl) (rest := [.int (kCh 0 (x0 + x4).toNatClampNeg)]) rfl (Nat.le_of_ble_eq_true rfl) dX0_isWord_23 (fun r1 u1 h => ?_)
      refine q_icmp_eq C 31 dX0_isWord_26 (by decide) h (fun h => ?_) (fun h => ?_)
      · refine q_iinc C (v := x4 + 1) [(4, .int (x4 + 1)), (0, .int x0), (1, .ref aA), (2, .int x2), (3, .int x3)] dX0_isWord_31 4 rfl rfl (by decide) rfl ?_
        refine q_goto (tgt := 3) C dX0_isWord_34 (by decide) ?_
        refine q_ls [(0, .int x0), (1, .ref aA), (2, .int x2), (3, .int x3), (4, .int (x4 + 1))] [1, 2, 3, 4, 0] rfl ?_
        exact ih _ _ _ _ h
      · refine q_iconst C (v := 0) dX0_isWord_29 (by decide) ?_
        exact hret 0 () _ _ (Or.inl rfl) h dX0_isWord_30
def wX0_isWord (A_bytes : Nat → Int32) (A_length : Int32) (p0 : Int32) (p2 : Int32) (p3 : Int32) (K : Int32 → Unit → Prop) : Prop :=
  ∃ k9 : Nat, wX0_isWord_3 K A_bytes A_length k9 p0 p2 p3 0
set_option maxRecDepth 100000 in
set_option maxHeartbeats 4000000 in
theorem bX0_isWord {D : gD} {cB cI cJ cZ : ClassId} {E : gE} {A : Nat → Prop} {Q : State → Prop} {aA aA_bytes : Nat} {A_length : Int32} {A_bytes : Nat → Int32} (C : Cx D (gT cB cI cJ cZ) E rmX0_isWord cX0_isWord 5 RX0 A) {p0 : Int32} {p2 : Int32} {p3 : Int32} {K : Int32 → Unit → Prop} (hret : ∀ (r : Int32) (u : Unit) (pc : Nat) (ls : List (Nat × Value)), (r = 0 ∨ r = 1) → K r u → decode cX0_isWord pc = .ok (.ireturn, 1) → Go D E A Q 5 0 0 [(aA, .inr (4, [.ref aA_bytes, .int A_length])), (aA_bytes, .inl (cB, 2000, .inl A_bytes))] ls pc [.int r]) (h : wX0_isWord A_bytes A_length p0 p2 p3 K) : Go D E A Q 5 0 0 [(aA, .inr (4, [.ref aA_bytes, .int A_length])), (aA_bytes, .inl (cB, 2000, .inl A_bytes))] [(0, .int p0), (1, .ref aA), (2, .int p2), (3, .int p3)] 0 [] := by
  unfold wX0_isWord at h
  refine q_iconst C (v := 0) dX0_isWord_0 (by decide) ?_
  refine q_istore C [(4, .int 0), (0, .int p0), (1, .ref aA), (2, .int p2), (3, .int p3)] dX0_isWord_1 (by decide) rfl ?_
  refine q_ls [(0, .int p0), (1, .ref aA), (2, .int p2), (3, .int p3), (4, .int 0)] [1, 2, 3, 4, 0] rfl ?_
  obtain ⟨n1, h⟩ := h
  exact bX0_isWord_3 C  hret  n1 _ _ _ _ h
theorem cX0_isWord_ok (l : Launch) {D : gD} {cB cI cJ cZ : ClassId} {aA aA_bytes : Nat} {A_length : Int32} {A_bytes : Nat → Int32} {p0 : Int32} {p2 : Int32} {p3 : Int32} {K : Int32 → Unit → Prop} (h : wX0_isWord A_bytes A_length p0 p2 p3 K) : CtI l D (gT cB cI cJ cZ) yX0_isWord cX0_isWord 5 .boolean rmX0_isWord [.int p0, .ref aA, .int p2, .int p3] [(aA, .inr (4, [.ref aA_bytes, .int A_length])), (aA_bytes, .inl (cB, 2000, .inl A_bytes))] (fun u : Unit => [(aA, .inr (4, [.ref aA_bytes, .int A_length])), (aA_bytes, .inl (cB, 2000, .inl A_bytes))]) (fun r u => (r = 0 ∨ r = 1) ∧ K r u) :=
  ct_startI (by decide +kernel) (Nat.le_of_ble_eq_true rfl) (fun E A Q hE C hret => bX0_isWord C (fun r u pc ls hb hk hd => hret r u pc ls (nar_bit hb) ⟨hb, hk⟩ hd) h)
abbrev rmX0_ofWord : Room := { frames := 5, cells := 0, slots := 0, locals := 144 }
def wX0_ofWord_39 (K : Int32 → Unit → Prop) (KL2 : Int32 → Int32 → Int32 → Prop) (A_bytes : Nat → Int32) (A_length : Int32) (x1 : Int32) (x2 : Int32) (x3 : Int32) : Prop :=
  KL2 x1 x2 (x3 + 1)
set_option maxRecDepth 100000 in
set_option maxHeartbeats 4000000 in
theorem bX0_ofWord_39 {D : gD} {cB cI cJ cZ : ClassId} {E : gE} {A : Nat → Prop} {Q : State → Prop} {aA aA_bytes : Nat} {A_length : Int32} {A_bytes : Nat → Int32} (C : Cx D (gT cB cI cJ cZ) E rmX0_ofWord cX0_ofWord 4 RX0 A) {K : Int32 → Unit → Prop} (hret : ∀ (r : Int32) (u : Unit) (pc : Nat) (ls : List (Nat × Value)), K r u → decode cX0_ofWord pc = .ok (.ireturn, 1) → Go D E A Q 4 0 0 [(aA, .inr (4, [.ref aA_bytes, .int A_length])), (aA_bytes, .inl (cB, 2000, .inl A_bytes))] ls pc [.int r]) {KL2 : Int32 → Int32 → Int32 → Prop} (hKL2 : ∀ (x1 : Int32) (x2 : Int32) (x3 : Int32), KL2 x1 x2 x3 → Go D E A Q 4 0 0 [(aA, .inr (4, [.ref aA_bytes, .int A_length])), (aA_bytes, .inl (cB, 2000, .inl A_bytes))] [(0, .ref aA), (1, .int x1), (2, .int x2), (3, .int x3)] 2 []) : ∀ (x1 : Int32) (x2 : Int32) (x3 : Int32), wX0_ofWord_39 K KL2 A_bytes A_length x1 x2 x3 → Go D E A Q 4 0 0 [(aA, .inr (4, [.ref aA_bytes, .int A_length])), (aA_bytes, .inl (cB, 2000, .inl A_bytes))] [(0, .ref aA), (1, .int x1), (2, .int x2), (3, .int x3)] 39 [] := by
  intro x1 x2 x3 h
  unfold wX0_ofWord_39 at h
  refine q_iinc C (v := x3 + 1) [(3, .int (x3 + 1)), (0, .ref aA), (1, .int x1), (2, .int x2)] dX0_ofWord_39 3 rfl rfl (by decide) rfl ?_
  refine q_goto (tgt := 2) C dX0_ofWord_42 (by decide) ?_
  refine q_ls [(0, .ref aA), (1, .int x1), (2, .int x2), (3, .int (x3 + 1))] [1, 2, 3, 0] rfl ?_
  exact hKL2 _ _ _ h
def wX0_ofWord_2 (K : Int32 → Unit → Prop) (A_bytes : Nat → Int32) (A_length : Int32) : Nat → Int32 → Int32 → Int32 → Prop
  | 0, _, _, _ => False
  | n + 1, x1, x2, x3 =>
  0 < 52 ∧ (((kLn 0 < (x3 + 1) * 7 → K 44 ()) ∧ (¬ kLn 0 < (x3 + 1) * 7 → ((7 ≤ x2 → wX0_ofWord_39 K (wX0_ofWord_2 K A_bytes A_length n) A_bytes A_length x1 x2 x3) ∧ (¬ 7 ≤ x2 → wX0_isWord A_bytes A_length (x3 * 7) x1 x2 (fun r1 u1 => ((r1 = 0 → wX0_ofWord_39 K (wX0_ofWord_2 K A_bytes A_length n) A_bytes A_length x1 x2 x3) ∧ (¬ r1 = 0 → K (0 + x3) ()))))))))
set_option maxRecDepth 100000 in
set_option maxHeartbeats 4000000 in
theorem bX0_ofWord_2 {D : gD} {cB cI cJ cZ : ClassId} {E : gE} {A : Nat → Prop} {Q : State → Prop} {aA aA_bytes : Nat} {A_length : Int32} {A_bytes : Nat → Int32} (C : Cx D (gT cB cI cJ cZ) E rmX0_ofWord cX0_ofWord 4 RX0 A) {K : Int32 → Unit → Prop} (hret : ∀ (r : Int32) (u : Unit) (pc : Nat) (ls : List (Nat × Value)), K r u → decode cX0_ofWord pc = .ok (.ireturn, 1) → Go D E A Q 4 0 0 [(aA, .inr (4, [.ref aA_bytes, .int A_length])), (aA_bytes, .inl (cB, 2000, .inl A_bytes))] ls pc [.int r]) : ∀ (n : Nat) (x1 : Int32) (x2 : Int32) (x3 : Int32), wX0_ofWord_2 K A_bytes A_length n x1 x2 x3 → Go D E A Q 4 0 0 [(aA, .inr (4, [.ref aA_bytes, .int A_length])), (aA_bytes, .inl (cB, 2000, .inl A_bytes))] [(0, .ref aA), (1, .int x1), (2, .int x2), (3, .int x3)] 2 [] := by
  intro n
  induction n with
  | zero =>
    intro x1 x2 x3 h
    exact h.elim
  | succ n ih =>
    intro x1 x2 x3 h
    unfold wX0_ofWord_2 at h
    refine q_iload_n C dX0_ofWord_2 3 rfl ?_
    refine q_iconst C (v := 1) dX0_ofWord_3 (by decide) ?_
    refine q_iadd C dX0_ofWord_4 ?_
    refine q_bipush C (v := 7) dX0_ofWord_5 (by decide) ?_
    refine q_imul C dX0_ofWord_7 ?_
    refine q_ldcK (i := 0) C (C.strR (i := 0) (Nat.le_of_ble_eq_true rfl)) dX0_ofWord_8 ?_
    refine q_strLen (i := 0) C cf_X0_11 ⟨Nat.le_of_ble_eq_true rfl, Nat.le_of_ble_eq_true rfl⟩ ⟨Nat.le_of_ble_eq_true rfl, Nat.le_of_ble_eq_true rfl⟩ (Nat.le_of_ble_eq_true rfl) dX0_ofWord_10 h (fun h => ?_)
    refine q_icmp_gt C 45 dX0_ofWord_13 (by decide) h (fun h => ?_) (fun h => ?_)
    · refine q_bipush C (v := 44) dX0_ofWord_45 (by decide) ?_
      exact hret 44 () _ _ h dX0_ofWord_47
    · refine q_iload_n C dX0_ofWord_16 2 rfl ?_
      refine q_bipush C (v := 7) dX0_ofWord_17 (by decide) ?_
      refine q_icmp_ge C 39 dX0_ofWord_19 (by decide) h (fun h => ?_) (fun h => ?_)
      · exact bX0_ofWord_39 C (KL2 := (wX0_ofWord_2 K A_bytes A_length n)) hret ih _ _ _ h
      · refine q_iload_n C dX0_ofWord_22 3 rfl ?_
        refine q_bipush C (v := 7) dX0_ofWord_23 (by decide) ?_
        refine q_imul C dX0_ofWord_25 ?_
        refine q_aload_n C dX0_ofWord_26 0 rfl ?_
        refine q_iload_n C dX0_ofWord_27 1 rfl ?_
        refine q_iload_n C dX0_ofWord_28 2 rfl ?_
        refine q_callSI C (cX0_isWord_ok _ h) cf_X0_17 st_X0_isWord rfl ⟨Nat.le_of_ble_eq_true rfl, Nat.le_of_ble_eq_true rfl⟩ ⟨Nat.le_of_ble_eq_true rfl, Nat.le_of_ble_eq_true rfl⟩ 0 0 ⟨rfl, rfl⟩ [0, 1] [] (wr := []) rfl rfl rfl rfl (by decide) (fun u1 : Unit => [(aA, .inr (4, [.ref aA_bytes, .int A_length])), (aA_bytes, .inl (cB, 2000, .inl A_bytes))]) [0, 1] rfl (fun _ => rfl) (rest := []) rfl (Nat.le_of_ble_eq_true rfl) dX0_ofWord_29 (fun r1 u1 h => ?_)
        obtain ⟨hb1, h⟩ := h
        refine q_if_eq C 39 dX0_ofWord_32 (by decide) h (fun h => ?_) (fun h => ?_)
        · exact bX0_ofWord_39 C (KL2 := (wX0_ofWord_2 K A_bytes A_length n)) hret ih _ _ _ h
        · refine q_iconst C (v := 0) dX0_ofWord_35 (by decide) ?_
          refine q_iload_n C dX0_ofWord_36 3 rfl ?_
          refine q_iadd C dX0_ofWord_37 ?_
          exact hret (0 + x3) () _ _ h dX0_ofWord_38
def wX0_ofWord (A_bytes : Nat → Int32) (A_length : Int32) (p1 : Int32) (p2 : Int32) (K : Int32 → Unit → Prop) : Prop :=
  ∃ k9 : Nat, wX0_ofWord_2 K A_bytes A_length k9 p1 p2 0
set_option maxRecDepth 100000 in
set_option maxHeartbeats 4000000 in
theorem bX0_ofWord {D : gD} {cB cI cJ cZ : ClassId} {E : gE} {A : Nat → Prop} {Q : State → Prop} {aA aA_bytes : Nat} {A_length : Int32} {A_bytes : Nat → Int32} (C : Cx D (gT cB cI cJ cZ) E rmX0_ofWord cX0_ofWord 4 RX0 A) {p1 : Int32} {p2 : Int32} {K : Int32 → Unit → Prop} (hret : ∀ (r : Int32) (u : Unit) (pc : Nat) (ls : List (Nat × Value)), K r u → decode cX0_ofWord pc = .ok (.ireturn, 1) → Go D E A Q 4 0 0 [(aA, .inr (4, [.ref aA_bytes, .int A_length])), (aA_bytes, .inl (cB, 2000, .inl A_bytes))] ls pc [.int r]) (h : wX0_ofWord A_bytes A_length p1 p2 K) : Go D E A Q 4 0 0 [(aA, .inr (4, [.ref aA_bytes, .int A_length])), (aA_bytes, .inl (cB, 2000, .inl A_bytes))] [(0, .ref aA), (1, .int p1), (2, .int p2)] 0 [] := by
  unfold wX0_ofWord at h
  refine q_iconst C (v := 0) dX0_ofWord_0 (by decide) ?_
  refine q_istore_n C [(3, .int 0), (0, .ref aA), (1, .int p1), (2, .int p2)] dX0_ofWord_1 (by decide) rfl ?_
  refine q_ls [(0, .ref aA), (1, .int p1), (2, .int p2), (3, .int 0)] [1, 2, 3, 0] rfl ?_
  obtain ⟨n1, h⟩ := h
  exact bX0_ofWord_2 C  hret  n1 _ _ _ h
theorem cX0_ofWord_ok (l : Launch) {D : gD} {cB cI cJ cZ : ClassId} {aA aA_bytes : Nat} {A_length : Int32} {A_bytes : Nat → Int32} {p1 : Int32} {p2 : Int32} {K : Int32 → Unit → Prop} (h : wX0_ofWord A_bytes A_length p1 p2 K) : CtI l D (gT cB cI cJ cZ) yX0_ofWord cX0_ofWord 4 .int rmX0_ofWord [.ref aA, .int p1, .int p2] [(aA, .inr (4, [.ref aA_bytes, .int A_length])), (aA_bytes, .inl (cB, 2000, .inl A_bytes))] (fun u : Unit => [(aA, .inr (4, [.ref aA_bytes, .int A_length])), (aA_bytes, .inl (cB, 2000, .inl A_bytes))]) K :=
  ct_startI (by decide +kernel) (Nat.le_of_ble_eq_true rfl) (fun E A Q hE C hret => bX0_ofWord C (fun r u pc ls hk hd => hret r u pc ls rfl hk hd) h)
abbrev rmX0_ofSign : Room := { frames := 4, cells := 0, slots := 0, locals := 120 }
def wX0_ofSign_54 (K : Int32 → Unit → Prop) (KL8 : Int32 → Int32 → Int32 → Prop) (x0 : Int32) (x1 : Int32) (x2 : Int32) : Prop :=
  KL8 x0 x1 (x2 + (-2))
set_option maxRecDepth 100000 in
set_option maxHeartbeats 4000000 in
theorem bX0_ofSign_54 {D : gD} {cB cI cJ cZ : ClassId} {E : gE} {A : Nat → Prop} {Q : State → Prop} (C : Cx D (gT cB cI cJ cZ) E rmX0_ofSign cX0_ofSign 3 RX0 A) {K : Int32 → Unit → Prop} (hret : ∀ (r : Int32) (u : Unit) (pc : Nat) (ls : List (Nat × Value)), K r u → decode cX0_ofSign pc = .ok (.ireturn, 1) → Go D E A Q 3 0 0 [] ls pc [.int r]) {KL8 : Int32 → Int32 → Int32 → Prop} (hKL8 : ∀ (x0 : Int32) (x1 : Int32) (x2 : Int32), KL8 x0 x1 x2 → Go D E A Q 3 0 0 [] [(0, .int x0), (1, .int x1), (2, .int x2)] 8 []) : ∀ (x0 : Int32) (x1 : Int32) (x2 : Int32), wX0_ofSign_54 K KL8 x0 x1 x2 → Go D E A Q 3 0 0 [] [(0, .int x0), (1, .int x1), (2, .int x2)] 54 [] := by
  intro x0 x1 x2 h
  unfold wX0_ofSign_54 at h
  refine q_iinc C (v := x2 + (-2)) [(2, .int (x2 + (-2))), (0, .int x0), (1, .int x1)] dX0_ofSign_54 2 rfl rfl (by decide) rfl ?_
  refine q_goto (tgt := 8) C dX0_ofSign_57 (by decide) ?_
  refine q_ls [(0, .int x0), (1, .int x1), (2, .int (x2 + (-2)))] [1, 2, 0] rfl ?_
  exact hKL8 _ _ _ h
def wX0_ofSign_8 (K : Int32 → Unit → Prop) : Nat → Int32 → Int32 → Int32 → Prop
  | 0, _, _, _ => False
  | n + 1, x0, x1, x2 =>
  ((x2 < 0 → K 48 ()) ∧ (¬ x2 < 0 → (1 < 52 ∧ vp_in x2 (kLen 1)) ∧ (((¬ kCh 1 x2.toNatClampNeg = x0 → wX0_ofSign_54 K (wX0_ofSign_8 K n) x0 x1 x2) ∧ (kCh 1 x2.toNatClampNeg = x0 → (1 < 52 ∧ vp_in (x2 + 1) (kLen 1)) ∧ (((kCh 1 (x2 + 1).toNatClampNeg = 32 → K (29 + (x2 / 2)) ()) ∧ (¬ kCh 1 (x2 + 1).toNatClampNeg = 32 → (1 < 52 ∧ vp_in (x2 + 1) (kLen 1)) ∧ (((¬ kCh 1 (x2 + 1).toNatClampNeg = x1 → wX0_ofSign_54 K (wX0_ofSign_8 K n) x0 x1 x2) ∧ (kCh 1 (x2 + 1).toNatClampNeg = x1 → K (29 + (x2 / 2)) ())))))))))))
set_option maxRecDepth 100000 in
set_option maxHeartbeats 4000000 in
theorem bX0_ofSign_8 {D : gD} {cB cI cJ cZ : ClassId} {E : gE} {A : Nat → Prop} {Q : State → Prop} (C : Cx D (gT cB cI cJ cZ) E rmX0_ofSign cX0_ofSign 3 RX0 A) {K : Int32 → Unit → Prop} (hret : ∀ (r : Int32) (u : Unit) (pc : Nat) (ls : List (Nat × Value)), K r u → decode cX0_ofSign pc = .ok (.ireturn, 1) → Go D E A Q 3 0 0 [] ls pc [.int r]) : ∀ (n : Nat) (x0 : Int32) (x1 : Int32) (x2 : Int32), wX0_ofSign_8 K n x0 x1 x2 → Go D E A Q 3 0 0 [] [(0, .int x0), (1, .int x1), (2, .int x2)] 8 [] := by
  intro n
  induction n with
  | zero =>
    intro x0 x1 x2 h
    exact h.elim
  | succ n ih =>
    intro x0 x1 x2 h
    unfold wX0_ofSign_8 at h
    refine q_iload_n C dX0_ofSign_8 2 rfl ?_
    refine q_if_lt C 60 dX0_ofSign_9 (by decide) h (fun h => ?_) (fun h => ?_)
    · refine q_bipush C (v := 48) dX0_ofSign_60 (by decide) ?_
      exact hret 48 () _ _ h dX0_ofSign_62
    · refine q_ldcK (i := 1) C (C.strR (i := 1) (Nat.le_of_ble_eq_true rfl)) dX0_ofSign_12 ?_
      refine q_iload_n C dX0_ofSign_14 2 rfl ?_
      refine q_strChar (i := 1) C cf_X0_21 ⟨Nat.le_of_ble_eq_true rfl, Nat.le_of_ble_eq_true rfl⟩ ⟨Nat.le_of_ble_eq_true rfl, Nat.le_of_ble_eq_true rfl⟩ (Nat.le_of_ble_eq_true rfl) dX0_ofSign_15 h (fun h => ?_)
      refine q_iload_n C dX0_ofSign_18 0 rfl ?_
      refine q_icmp_ne C 54 dX0_ofSign_19 (by decide) h (fun h => ?_) (fun h => ?_)
      · exact bX0_ofSign_54 C (KL8 := (wX0_ofSign_8 K n)) hret ih _ _ _ h
      · refine q_ldcK (i := 1) C (C.strR (i := 1) (Nat.le_of_ble_eq_true rfl)) dX0_ofSign_22 ?_
        refine q_iload_n C dX0_ofSign_24 2 rfl ?_
        refine q_iconst C (v := 1) dX0_ofSign_25 (by decide) ?_
        refine q_iadd C dX0_ofSign_26 ?_
        refine q_strChar (i := 1) C cf_X0_21 ⟨Nat.le_of_ble_eq_true rfl, Nat.le_of_ble_eq_true rfl⟩ ⟨Nat.le_of_ble_eq_true rfl, Nat.le_of_ble_eq_true rfl⟩ (Nat.le_of_ble_eq_true rfl) dX0_ofSign_27 h (fun h => ?_)
        refine q_bipush C (v := 32) dX0_ofSign_30 (by decide) ?_
        refine q_icmp_eq C 47 dX0_ofSign_32 (by decide) h (fun h => ?_) (fun h => ?_)
        · refine q_bipush C (v := 29) dX0_ofSign_47 (by decide) ?_
          refine q_iload_n C dX0_ofSign_49 2 rfl ?_
          refine q_iconst C (v := 2) dX0_ofSign_50 (by decide) ?_
          refine q_idiv C dX0_ofSign_51 (by decide) ?_
          refine q_iadd C dX0_ofSign_52 ?_
          exact hret (29 + (x2 / 2)) () _ _ h dX0_ofSign_53
        · refine q_ldcK (i := 1) C (C.strR (i := 1) (Nat.le_of_ble_eq_true rfl)) dX0_ofSign_35 ?_
          refine q_iload_n C dX0_ofSign_37 2 rfl ?_
          refine q_iconst C (v := 1) dX0_ofSign_38 (by decide) ?_
          refine q_iadd C dX0_ofSign_39 ?_
          refine q_strChar (i := 1) C cf_X0_21 ⟨Nat.le_of_ble_eq_true rfl, Nat.le_of_ble_eq_true rfl⟩ ⟨Nat.le_of_ble_eq_true rfl, Nat.le_of_ble_eq_true rfl⟩ (Nat.le_of_ble_eq_true rfl) dX0_ofSign_40 h (fun h => ?_)
          refine q_iload_n C dX0_ofSign_43 1 rfl ?_
          refine q_icmp_ne C 54 dX0_ofSign_44 (by decide) h (fun h => ?_) (fun h => ?_)
          · exact bX0_ofSign_54 C (KL8 := (wX0_ofSign_8 K n)) hret ih _ _ _ h
          · refine q_bipush C (v := 29) dX0_ofSign_47 (by decide) ?_
            refine q_iload_n C dX0_ofSign_49 2 rfl ?_
            refine q_iconst C (v := 2) dX0_ofSign_50 (by decide) ?_
            refine q_idiv C dX0_ofSign_51 (by decide) ?_
            refine q_iadd C dX0_ofSign_52 ?_
            exact hret (29 + (x2 / 2)) () _ _ h dX0_ofSign_53
def wX0_ofSign (p0 : Int32) (p1 : Int32) (K : Int32 → Unit → Prop) : Prop :=
  1 < 52 ∧ (∃ k9 : Nat, wX0_ofSign_8 K k9 p0 p1 ((kLn 1) - 2))
set_option maxRecDepth 100000 in
set_option maxHeartbeats 4000000 in
theorem bX0_ofSign {D : gD} {cB cI cJ cZ : ClassId} {E : gE} {A : Nat → Prop} {Q : State → Prop} (C : Cx D (gT cB cI cJ cZ) E rmX0_ofSign cX0_ofSign 3 RX0 A) {p0 : Int32} {p1 : Int32} {K : Int32 → Unit → Prop} (hret : ∀ (r : Int32) (u : Unit) (pc : Nat) (ls : List (Nat × Value)), K r u → decode cX0_ofSign pc = .ok (.ireturn, 1) → Go D E A Q 3 0 0 [] ls pc [.int r]) (h : wX0_ofSign p0 p1 K) : Go D E A Q 3 0 0 [] [(0, .int p0), (1, .int p1)] 0 [] := by
  unfold wX0_ofSign at h
  refine q_ldcK (i := 1) C (C.strR (i := 1) (Nat.le_of_ble_eq_true rfl)) dX0_ofSign_0 ?_
  refine q_strLen (i := 1) C cf_X0_11 ⟨Nat.le_of_ble_eq_true rfl, Nat.le_of_ble_eq_true rfl⟩ ⟨Nat.le_of_ble_eq_true rfl, Nat.le_of_ble_eq_true rfl⟩ (Nat.le_of_ble_eq_true rfl) dX0_ofSign_2 h (fun h => ?_)
  refine q_iconst C (v := 2) dX0_ofSign_5 (by decide) ?_
  refine q_isub C dX0_ofSign_6 ?_
  refine q_istore_n C [(2, .int ((kLn 1) - 2)), (0, .int p0), (1, .int p1)] dX0_ofSign_7 (by decide) rfl ?_
  refine q_ls [(0, .int p0), (1, .int p1), (2, .int ((kLn 1) - 2))] [1, 2, 0] rfl ?_
  obtain ⟨n1, h⟩ := h
  exact bX0_ofSign_8 C  hret  n1 _ _ _ h
theorem cX0_ofSign_ok (l : Launch) {D : gD} {cB cI cJ cZ : ClassId} {p0 : Int32} {p1 : Int32} {K : Int32 → Unit → Prop} (h : wX0_ofSign p0 p1 K) : CtI l D (gT cB cI cJ cZ) yX0_ofSign cX0_ofSign 3 .int rmX0_ofSign [.int p0, .int p1] [] (fun u : Unit => []) K :=
  ct_startI (by decide +kernel) (Nat.le_of_ble_eq_true rfl) (fun E A Q hE C hret => bX0_ofSign C (fun r u pc ls hk hd => hret r u pc ls rfl hk hd) h)
abbrev rmX0_lengthOfSign : Room := { frames := 0, cells := 0, slots := 0, locals := 0 }
def wX0_lengthOfSign (p0 : Int32) (K : Int32 → Unit → Prop) : Prop :=
  ((p0 = 42 → K 2 ()) ∧ (¬ p0 = 42 → ((¬ p0 = 43 → K 1 ()) ∧ (p0 = 43 → K 2 ()))))
set_option maxRecDepth 100000 in
set_option maxHeartbeats 4000000 in
theorem bX0_lengthOfSign {D : gD} {cB cI cJ cZ : ClassId} {E : gE} {A : Nat → Prop} {Q : State → Prop} (C : Cx D (gT cB cI cJ cZ) E rmX0_lengthOfSign cX0_lengthOfSign 1 RX0 A) {p0 : Int32} {K : Int32 → Unit → Prop} (hret : ∀ (r : Int32) (u : Unit) (pc : Nat) (ls : List (Nat × Value)), K r u → decode cX0_lengthOfSign pc = .ok (.ireturn, 1) → Go D E A Q 1 0 0 [] ls pc [.int r]) (h : wX0_lengthOfSign p0 K) : Go D E A Q 1 0 0 [] [(0, .int p0)] 0 [] := by
  unfold wX0_lengthOfSign at h
  refine q_iload_n C dX0_lengthOfSign_0 0 rfl ?_
  refine q_bipush C (v := 42) dX0_lengthOfSign_1 (by decide) ?_
  refine q_icmp_eq C 12 dX0_lengthOfSign_3 (by decide) h (fun h => ?_) (fun h => ?_)
  · refine q_iconst C (v := 2) dX0_lengthOfSign_12 (by decide) ?_
    refine q_goto (tgt := 17) C dX0_lengthOfSign_13 (by decide) ?_
    exact hret 2 () _ _ h dX0_lengthOfSign_17
  · refine q_iload_n C dX0_lengthOfSign_6 0 rfl ?_
    refine q_bipush C (v := 43) dX0_lengthOfSign_7 (by decide) ?_
    refine q_icmp_ne C 16 dX0_lengthOfSign_9 (by decide) h (fun h => ?_) (fun h => ?_)
    · refine q_iconst C (v := 1) dX0_lengthOfSign_16 (by decide) ?_
      exact hret 1 () _ _ h dX0_lengthOfSign_17
    · refine q_iconst C (v := 2) dX0_lengthOfSign_12 (by decide) ?_
      refine q_goto (tgt := 17) C dX0_lengthOfSign_13 (by decide) ?_
      exact hret 2 () _ _ h dX0_lengthOfSign_17
theorem cX0_lengthOfSign_ok (l : Launch) {D : gD} {cB cI cJ cZ : ClassId} {p0 : Int32} {K : Int32 → Unit → Prop} (h : wX0_lengthOfSign p0 K) : CtI l D (gT cB cI cJ cZ) yX0_lengthOfSign cX0_lengthOfSign 1 .int rmX0_lengthOfSign [.int p0] [] (fun u : Unit => []) K :=
  ct_startI (by decide +kernel) (Nat.le_of_ble_eq_true rfl) (fun E A Q hE C hret => bX0_lengthOfSign C (fun r u pc ls hk hd => hret r u pc ls rfl hk hd) h)
abbrev rmX1_init : Room := { frames := 1, cells := 5, slots := 848, locals := 20 }
def wX1_init (K : ((Nat → Int32) × (Nat → Int32) × (Nat → Int32) × (Nat → Int32) × (Nat → Int32) × Nat × Nat × Nat × Nat × Nat) → Prop) : Prop :=
  ∀ q1 : Nat, ∀ q2 : Nat, ∀ q3 : Nat, ∀ q4 : Nat, ∀ q5 : Nat, K ((fun _ => 0), (fun _ => 0), (fun _ => 0), (fun _ => 0), (fun _ => 0), q1, q2, q3, q4, q5)
set_option maxRecDepth 100000 in
set_option maxHeartbeats 4000000 in
theorem bX1_init {D : gD} {cB cI cJ cZ : ClassId} {E : gE} {A : Nat → Prop} {Q : State → Prop} {aP : Nat} {P_orders P_steps : Int32} (C : Cx D (gT cB cI cJ cZ) E rmX1_init cX1_init 1 RX1 A) (hin : E.2.2.2.2.2.2.2.2.1.name = "<init>") {K : ((Nat → Int32) × (Nat → Int32) × (Nat → Int32) × (Nat → Int32) × (Nat → Int32) × Nat × Nat × Nat × Nat × Nat) → Prop} (hret : ∀ (u : (Nat → Int32) × (Nat → Int32) × (Nat → Int32) × (Nat → Int32) × (Nat → Int32) × Nat × Nat × Nat × Nat × Nat) (pc : Nat) (ls : List (Nat × Value)), K u → decode cX1_init pc = .ok (.return_, 1) → Go D E A Q 1 5 848 [(aP, .inr (0, [.int P_orders, .int P_steps, .ref u.2.2.2.2.2.1, .ref u.2.2.2.2.2.2.1, .ref u.2.2.2.2.2.2.2.1, .ref u.2.2.2.2.2.2.2.2.1, .ref u.2.2.2.2.2.2.2.2.2])), (u.2.2.2.2.2.1, .inl (cI, 16, .inl u.1)), (u.2.2.2.2.2.2.1, .inl (cI, 16, .inl u.2.1)), (u.2.2.2.2.2.2.2.1, .inl (cI, 16, .inl u.2.2.1)), (u.2.2.2.2.2.2.2.2.1, .inl (cI, 400, .inl u.2.2.2.1)), (u.2.2.2.2.2.2.2.2.2, .inl (cI, 400, .inl u.2.2.2.2.1))] ls pc []) (h : wX1_init K) : Go D E A Q 1 0 0 [(aP, .inr (0, [.int P_orders, .int P_steps, .null, .null, .null, .null, .null]))] [(0, .ref aP)] 0 [] := by
  unfold wX1_init at h
  refine q_aload_n C dX1_init_0 0 rfl ?_
  refine q_objInit C oi_X1_3 dX1_init_1 ⟨Nat.le_of_ble_eq_true rfl, Nat.le_of_ble_eq_true rfl⟩ (Nat.le_of_ble_eq_true rfl) ?_
  refine q_aload_n C dX1_init_4 0 rfl ?_
  refine q_bipush C (v := 16) dX1_init_5 (by decide) ?_
  refine q_newa (atype := .int) C (.inl (fun _ => 0)) 1 rfl rfl (fun _ _ h => h) ac_I 16 (fun _ => rfl) dX1_init_7 (by decide) (by decide) (Nat.le_of_ble_eq_true rfl) ⟨Nat.le_of_ble_eq_true rfl, Nat.le_of_ble_eq_true rfl⟩ 1 16 ⟨rfl, rfl⟩ (fun q1 => [(aP, .inr (0, [.int P_orders, .int P_steps, .null, .null, .null, .null, .null])), (q1, .inl (cI, 16, .inl (fun _ => 0)))]) (fun _ => rfl) (fun q1 => ?_)
  replace h := h q1
  refine q_putF C inX1g tyX1_ok nmX1 rfl 2 (by decide) fl_X1_9 rfl rfl hin rfl (ty := (.array .int)) (by decide +kernel) 0 [(aP, .inr (0, [.int P_orders, .int P_steps, .ref q1, .null, .null, .null, .null])), (q1, .inl (cI, 16, .inl (fun _ => 0)))] rfl rfl rfl (Nat.le_of_ble_eq_true rfl) rfl dX1_init_9 ?_
  refine q_aload_n C dX1_init_12 0 rfl ?_
  refine q_bipush C (v := 16) dX1_init_13 (by decide) ?_
  refine q_newa (atype := .int) C (.inl (fun _ => 0)) 1 rfl rfl (fun _ _ h => h) ac_I 16 (fun _ => rfl) dX1_init_15 (by decide) (by decide) (Nat.le_of_ble_eq_true rfl) ⟨Nat.le_of_ble_eq_true rfl, Nat.le_of_ble_eq_true rfl⟩ 2 32 ⟨rfl, rfl⟩ (fun q2 => [(aP, .inr (0, [.int P_orders, .int P_steps, .ref q1, .null, .null, .null, .null])), (q1, .inl (cI, 16, .inl (fun _ => 0))), (q2, .inl (cI, 16, .inl (fun _ => 0)))]) (fun _ => rfl) (fun q2 => ?_)
  replace h := h q2
  refine q_putF C inX1g tyX1_ok nmX1 rfl 3 (by decide) fl_X1_15 rfl rfl hin rfl (ty := (.array .int)) (by decide +kernel) 0 [(aP, .inr (0, [.int P_orders, .int P_steps, .ref q1, .ref q2, .null, .null, .null])), (q1, .inl (cI, 16, .inl (fun _ => 0))), (q2, .inl (cI, 16, .inl (fun _ => 0)))] rfl rfl rfl (Nat.le_of_ble_eq_true rfl) rfl dX1_init_17 ?_
  refine q_aload_n C dX1_init_20 0 rfl ?_
  refine q_bipush C (v := 16) dX1_init_21 (by decide) ?_
  refine q_newa (atype := .int) C (.inl (fun _ => 0)) 1 rfl rfl (fun _ _ h => h) ac_I 16 (fun _ => rfl) dX1_init_23 (by decide) (by decide) (Nat.le_of_ble_eq_true rfl) ⟨Nat.le_of_ble_eq_true rfl, Nat.le_of_ble_eq_true rfl⟩ 3 48 ⟨rfl, rfl⟩ (fun q3 => [(aP, .inr (0, [.int P_orders, .int P_steps, .ref q1, .ref q2, .null, .null, .null])), (q1, .inl (cI, 16, .inl (fun _ => 0))), (q2, .inl (cI, 16, .inl (fun _ => 0))), (q3, .inl (cI, 16, .inl (fun _ => 0)))]) (fun _ => rfl) (fun q3 => ?_)
  replace h := h q3
  refine q_putF C inX1g tyX1_ok nmX1 rfl 4 (by decide) fl_X1_18 rfl rfl hin rfl (ty := (.array .int)) (by decide +kernel) 0 [(aP, .inr (0, [.int P_orders, .int P_steps, .ref q1, .ref q2, .ref q3, .null, .null])), (q1, .inl (cI, 16, .inl (fun _ => 0))), (q2, .inl (cI, 16, .inl (fun _ => 0))), (q3, .inl (cI, 16, .inl (fun _ => 0)))] rfl rfl rfl (Nat.le_of_ble_eq_true rfl) rfl dX1_init_25 ?_
  refine q_aload_n C dX1_init_28 0 rfl ?_
  refine q_sipush C (v := 400) dX1_init_29 (by decide) ?_
  refine q_newa (atype := .int) C (.inl (fun _ => 0)) 1 rfl rfl (fun _ _ h => h) ac_I 400 (fun _ => rfl) dX1_init_32 (by decide) (by decide) (Nat.le_of_ble_eq_true rfl) ⟨Nat.le_of_ble_eq_true rfl, Nat.le_of_ble_eq_true rfl⟩ 4 448 ⟨rfl, rfl⟩ (fun q4 => [(aP, .inr (0, [.int P_orders, .int P_steps, .ref q1, .ref q2, .ref q3, .null, .null])), (q1, .inl (cI, 16, .inl (fun _ => 0))), (q2, .inl (cI, 16, .inl (fun _ => 0))), (q3, .inl (cI, 16, .inl (fun _ => 0))), (q4, .inl (cI, 400, .inl (fun _ => 0)))]) (fun _ => rfl) (fun q4 => ?_)
  replace h := h q4
  refine q_putF C inX1g tyX1_ok nmX1 rfl 5 (by decide) fl_X1_21 rfl rfl hin rfl (ty := (.array .int)) (by decide +kernel) 0 [(aP, .inr (0, [.int P_orders, .int P_steps, .ref q1, .ref q2, .ref q3, .ref q4, .null])), (q1, .inl (cI, 16, .inl (fun _ => 0))), (q2, .inl (cI, 16, .inl (fun _ => 0))), (q3, .inl (cI, 16, .inl (fun _ => 0))), (q4, .inl (cI, 400, .inl (fun _ => 0)))] rfl rfl rfl (Nat.le_of_ble_eq_true rfl) rfl dX1_init_34 ?_
  refine q_aload_n C dX1_init_37 0 rfl ?_
  refine q_sipush C (v := 400) dX1_init_38 (by decide) ?_
  refine q_newa (atype := .int) C (.inl (fun _ => 0)) 1 rfl rfl (fun _ _ h => h) ac_I 400 (fun _ => rfl) dX1_init_41 (by decide) (by decide) (Nat.le_of_ble_eq_true rfl) ⟨Nat.le_of_ble_eq_true rfl, Nat.le_of_ble_eq_true rfl⟩ 5 848 ⟨rfl, rfl⟩ (fun q5 => [(aP, .inr (0, [.int P_orders, .int P_steps, .ref q1, .ref q2, .ref q3, .ref q4, .null])), (q1, .inl (cI, 16, .inl (fun _ => 0))), (q2, .inl (cI, 16, .inl (fun _ => 0))), (q3, .inl (cI, 16, .inl (fun _ => 0))), (q4, .inl (cI, 400, .inl (fun _ => 0))), (q5, .inl (cI, 400, .inl (fun _ => 0)))]) (fun _ => rfl) (fun q5 => ?_)
  replace h := h q5
  refine q_putF C inX1g tyX1_ok nmX1 rfl 6 (by decide) fl_X1_24 rfl rfl hin rfl (ty := (.array .int)) (by decide +kernel) 0 [(aP, .inr (0, [.int P_orders, .int P_steps, .ref q1, .ref q2, .ref q3, .ref q4, .ref q5])), (q1, .inl (cI, 16, .inl (fun _ => 0))), (q2, .inl (cI, 16, .inl (fun _ => 0))), (q3, .inl (cI, 16, .inl (fun _ => 0))), (q4, .inl (cI, 400, .inl (fun _ => 0))), (q5, .inl (cI, 400, .inl (fun _ => 0)))] rfl rfl rfl (Nat.le_of_ble_eq_true rfl) rfl dX1_init_43 ?_
  exact hret ((fun _ => 0), (fun _ => 0), (fun _ => 0), (fun _ => 0), (fun _ => 0), q1, q2, q3, q4, q5) _ _ h dX1_init_46
theorem cX1_init_ok (l : Launch) {D : gD} {cB cI cJ cZ : ClassId} {aP : Nat} {P_orders P_steps : Int32} {K : ((Nat → Int32) × (Nat → Int32) × (Nat → Int32) × (Nat → Int32) × (Nat → Int32) × Nat × Nat × Nat × Nat × Nat) → Prop} (h : wX1_init K) : CtV l D (gT cB cI cJ cZ) yX1_init cX1_init 1 rmX1_init [.ref aP] [(aP, .inr (0, [.int P_orders, .int P_steps, .null, .null, .null, .null, .null]))] (fun u : (Nat → Int32) × (Nat → Int32) × (Nat → Int32) × (Nat → Int32) × (Nat → Int32) × Nat × Nat × Nat × Nat × Nat => [(aP, .inr (0, [.int P_orders, .int P_steps, .ref u.2.2.2.2.2.1, .ref u.2.2.2.2.2.2.1, .ref u.2.2.2.2.2.2.2.1, .ref u.2.2.2.2.2.2.2.2.1, .ref u.2.2.2.2.2.2.2.2.2])), (u.2.2.2.2.2.1, .inl (cI, 16, .inl u.1)), (u.2.2.2.2.2.2.1, .inl (cI, 16, .inl u.2.1)), (u.2.2.2.2.2.2.2.1, .inl (cI, 16, .inl u.2.2.1)), (u.2.2.2.2.2.2.2.2.1, .inl (cI, 400, .inl u.2.2.2.1)), (u.2.2.2.2.2.2.2.2.2, .inl (cI, 400, .inl u.2.2.2.2.1))]) K :=
  ct_startC (by decide +kernel) (Nat.le_of_ble_eq_true rfl) rfl (fun E A Q hE C hin hret => bX1_init C hin hret h)
abbrev rmX1_clear : Room := { frames := 0, cells := 0, slots := 0, locals := 0 }
def wX1_clear (P_orders : Int32) (P_steps : Int32) (K : (Int32 × Int32) → Prop) : Prop :=
  K (0, 0)
set_option maxRecDepth 100000 in
set_option maxHeartbeats 4000000 in
theorem bX1_clear {D : gD} {cB cI cJ cZ : ClassId} {E : gE} {A : Nat → Prop} {Q : State → Prop} {aP aP_kinds aP_sumEnds aP_testEnds aP_stepKinds aP_stepDetails : Nat} {P_orders P_steps : Int32} (C : Cx D (gT cB cI cJ cZ) E rmX1_clear cX1_clear 1 RX1 A) {K : (Int32 × Int32) → Prop} (hret : ∀ (u : Int32 × Int32) (pc : Nat) (ls : List (Nat × Value)), K u → decode cX1_clear pc = .ok (.return_, 1) → Go D E A Q 1 0 0 [(aP, .inr (0, [.int u.1, .int u.2, .ref aP_kinds, .ref aP_sumEnds, .ref aP_testEnds, .ref aP_stepKinds, .ref aP_stepDetails]))] ls pc []) (h : wX1_clear P_orders P_steps K) : Go D E A Q 1 0 0 [(aP, .inr (0, [.int P_orders, .int P_steps, .ref aP_kinds, .ref aP_sumEnds, .ref aP_testEnds, .ref aP_stepKinds, .ref aP_stepDetails]))] [(0, .ref aP)] 0 [] := by
  unfold wX1_clear at h
  refine q_aload_n C dX1_clear_0 0 rfl ?_
  refine q_iconst C (v := 0) dX1_clear_1 (by decide) ?_
  refine q_put C inX1g tyX1_ok nmX1 rfl 0 (by decide) fl_X1_27 rfl rfl (ty := .int) (by decide +kernel) 0 [(aP, .inr (0, [.int 0, .int P_steps, .ref aP_kinds, .ref aP_sumEnds, .ref aP_testEnds, .ref aP_stepKinds, .ref aP_stepDetails]))] rfl rfl rfl (Nat.le_of_ble_eq_true rfl) rfl dX1_clear_2 ?_
  refine q_aload_n C dX1_clear_5 0 rfl ?_
  refine q_iconst C (v := 0) dX1_clear_6 (by decide) ?_
  refine q_put C inX1g tyX1_ok nmX1 rfl 1 (by decide) fl_X1_31 rfl rfl (ty := .int) (by decide +kernel) 0 [(aP, .inr (0, [.int 0, .int 0, .ref aP_kinds, .ref aP_sumEnds, .ref aP_testEnds, .ref aP_stepKinds, .ref aP_stepDetails]))] rfl rfl rfl (Nat.le_of_ble_eq_true rfl) rfl dX1_clear_7 ?_
  exact hret (0, 0) _ _ h dX1_clear_10
theorem cX1_clear_ok (l : Launch) {D : gD} {cB cI cJ cZ : ClassId} {aP aP_kinds aP_sumEnds aP_testEnds aP_stepKinds aP_stepDetails : Nat} {P_orders P_steps : Int32} {K : (Int32 × Int32) → Prop} (h : wX1_clear P_orders P_steps K) : CtV l D (gT cB cI cJ cZ) yX1_clear cX1_clear 1 rmX1_clear [.ref aP] [(aP, .inr (0, [.int P_orders, .int P_steps, .ref aP_kinds, .ref aP_sumEnds, .ref aP_testEnds, .ref aP_stepKinds, .ref aP_stepDetails]))] (fun u : Int32 × Int32 => [(aP, .inr (0, [.int u.1, .int u.2, .ref aP_kinds, .ref aP_sumEnds, .ref aP_testEnds, .ref aP_stepKinds, .ref aP_stepDetails]))]) K :=
  ct_startV (by decide +kernel) (Nat.le_of_ble_eq_true rfl) (fun E A Q hE C hret => bX1_clear C hret h)
abbrev rmX1_addStep : Room := { frames := 0, cells := 0, slots := 0, locals := 0 }
def wX1_addStep (P_steps : Int32) (P_stepKinds : Nat → Int32) (P_stepDetails : Nat → Int32) (p0 : Int32) (p1 : Int32) (K : (Int32 × (Nat → Int32) × (Nat → Int32)) → Prop) : Prop :=
  ((400 ≤ P_steps → K (P_steps, P_stepKinds, P_stepDetails)) ∧ (¬ 400 ≤ P_steps → vp_in P_steps 400 ∧ (vp_in P_steps 400 ∧ (K (P_steps + 1, upd P_stepKinds P_steps.toNatClampNeg p0, upd P_stepDetails P_steps.toNatClampNeg p1)))))
set_option maxRecDepth 100000 in
set_option maxHeartbeats 4000000 in
theorem bX1_addStep {D : gD} {cB cI cJ cZ : ClassId} {E : gE} {A : Nat → Prop} {Q : State → Prop} {aP aP_stepKinds aP_stepDetails aP_kinds aP_sumEnds aP_testEnds : Nat} {P_orders P_steps : Int32} {P_stepKinds P_stepDetails : Nat → Int32} (C : Cx D (gT cB cI cJ cZ) E rmX1_addStep cX1_addStep 3 RX1 A) {p0 : Int32} {p1 : Int32} {K : (Int32 × (Nat → Int32) × (Nat → Int32)) → Prop} (hret : ∀ (u : Int32 × (Nat → Int32) × (Nat → Int32)) (pc : Nat) (ls : List (Nat × Value)), K u → decode cX1_addStep pc = .ok (.return_, 1) → Go D E A Q 3 0 0 [(aP, .inr (0, [.int P_orders, .int u.1, .ref aP_kinds, .ref aP_sumEnds, .ref aP_testEnds, .ref aP_stepKinds, .ref aP_stepDetails])), (aP_stepKinds, .inl (cI, 400, .inl u.2.1)), (aP_stepDetails, .inl (cI, 400, .inl u.2.2))] ls pc []) (h : wX1_addStep P_steps P_stepKinds P_stepDetails p0 p1 K) : Go D E A Q 3 0 0 [(aP, .inr (0, [.int P_orders, .int P_steps, .ref aP_kinds, .ref aP_sumEnds, .ref aP_testEnds, .ref aP_stepKinds, .ref aP_stepDetails])), (aP_stepKinds, .inl (cI, 400, .inl P_stepKinds)), (aP_stepDetails, .inl (cI, 400, .inl P_stepDetails))] [(0, .ref aP), (1, .int p0), (2, .int p1)] 0 [] := by
  unfold wX1_addStep at h
  refine q_aload_n C dX1_addStep_0 0 rfl ?_
  refine q_get C inX1g rfl 1 (by decide) fl_X1_31 rfl 0 rfl rfl dX1_addStep_1 ?_
  refine q_sipush C (v := 400) dX1_addStep_4 (by decide) ?_
  refine q_icmp_ge C 40 dX1_addStep_7 (by decide) h (fun h => ?_) (fun h => ?_)
  · exact hret (P_steps, P_stepKinds, P_stepDetails) _ _ h dX1_addStep_40
  · refine q_aload_n C dX1_addStep_10 0 rfl ?_
    refine q_get C inX1g rfl 5 (by decide) fl_X1_21 rfl 0 rfl rfl dX1_addStep_11 ?_
    refine q_aload_n C dX1_addStep_14 0 rfl ?_
    refine q_get C inX1g rfl 1 (by decide) fl_X1_31 rfl 0 rfl rfl dX1_addStep_15 ?_
    refine q_iload_n C dX1_addStep_18 1 rfl ?_
    refine q_iast C 1 1 [(aP, .inr (0, [.int P_orders, .int P_steps, .ref aP_kinds, .ref aP_sumEnds, .ref aP_testEnds, .ref aP_stepKinds, .ref aP_stepDetails])), (aP_stepKinds, .inl (cI, 400, .inl (upd P_stepKinds P_steps.toNatClampNeg p0))), (aP_stepDetails, .inl (cI, 400, .inl P_stepDetails))] rfl rfl rfl dX1_addStep_19 h (fun h => ?_)
    refine q_aload_n C dX1_addStep_20 0 rfl ?_
    refine q_get C inX1g rfl 6 (by decide) fl_X1_24 rfl 0 rfl rfl dX1_addStep_21 ?_
    refine q_aload_n C dX1_addStep_24 0 rfl ?_
    refine q_get C inX1g rfl 1 (by decide) fl_X1_31 rfl 0 rfl rfl dX1_addStep_25 ?_
    refine q_iload_n C dX1_addStep_28 2 rfl ?_
    refine q_iast C 2 1 [(aP, .inr (0, [.int P_orders, .int P_steps, .ref aP_kinds, .ref aP_sumEnds, .ref aP_testEnds, .ref aP_stepKinds, .ref aP_stepDetails])), (aP_stepKinds, .inl (cI, 400, .inl (upd P_stepKinds P_steps.toNatClampNeg p0))), (aP_stepDetails, .inl (cI, 400, .inl (upd P_stepDetails P_steps.toNatClampNeg p1)))] rfl rfl rfl dX1_addStep_29 h (fun h => ?_)
    refine q_aload_n C dX1_addStep_30 0 rfl ?_
    refine q_dup C dX1_addStep_31 rfl ?_
    refine q_get C inX1g rfl 1 (by decide) fl_X1_31 rfl 0 rfl rfl dX1_addStep_32 ?_
    refine q_iconst C (v := 1) dX1_addStep_35 (by decide) ?_
    refine q_iadd C dX1_addStep_36 ?_
    refine q_put C inX1g tyX1_ok nmX1 rfl 1 (by decide) fl_X1_31 rfl rfl (ty := .int) (by decide +kernel) 0 [(aP, .inr (0, [.int P_orders, .int (P_steps + 1), .ref aP_kinds, .ref aP_sumEnds, .ref aP_testEnds, .ref aP_stepKinds, .ref aP_stepDetails])), (aP_stepKinds, .inl (cI, 400, .inl (upd P_stepKinds P_steps.toNatClampNeg p0))), (aP_stepDetails, .inl (cI, 400, .inl (upd P_stepDetails P_steps.toNatClampNeg p1)))] rfl rfl rfl (Nat.le_of_ble_eq_true rfl) rfl dX1_addStep_37 ?_
    exact hret (P_steps + 1, upd P_stepKinds P_steps.toNatClampNeg p0, upd P_stepDetails P_steps.toNatClampNeg p1) _ _ h dX1_addStep_40
theorem cX1_addStep_ok (l : Launch) {D : gD} {cB cI cJ cZ : ClassId} {aP aP_stepKinds aP_stepDetails aP_kinds aP_sumEnds aP_testEnds : Nat} {P_orders P_steps : Int32} {P_stepKinds P_stepDetails : Nat → Int32} {p0 : Int32} {p1 : Int32} {K : (Int32 × (Nat → Int32) × (Nat → Int32)) → Prop} (h : wX1_addStep P_steps P_stepKinds P_stepDetails p0 p1 K) : CtV l D (gT cB cI cJ cZ) yX1_addStep cX1_addStep 3 rmX1_addStep [.ref aP, .int p0, .int p1] [(aP, .inr (0, [.int P_orders, .int P_steps, .ref aP_kinds, .ref aP_sumEnds, .ref aP_testEnds, .ref aP_stepKinds, .ref aP_stepDetails])), (aP_stepKinds, .inl (cI, 400, .inl P_stepKinds)), (aP_stepDetails, .inl (cI, 400, .inl P_stepDetails))] (fun u : Int32 × (Nat → Int32) × (Nat → Int32) => [(aP, .inr (0, [.int P_orders, .int u.1, .ref aP_kinds, .ref aP_sumEnds, .ref aP_testEnds, .ref aP_stepKinds, .ref aP_stepDetails])), (aP_stepKinds, .inl (cI, 400, .inl u.2.1)), (aP_stepDetails, .inl (cI, 400, .inl u.2.2))]) K :=
  ct_startV (by decide +kernel) (Nat.le_of_ble_eq_true rfl) (fun E A Q hE C hret => bX1_addStep C hret h)
abbrev rmX1_addOrder : Room := { frames := 0, cells := 0, slots := 0, locals := 0 }
def wX1_addOrder (P_orders : Int32) (P_steps : Int32) (P_kinds : Nat → Int32) (P_sumEnds : Nat → Int32) (P_testEnds : Nat → Int32) (p0 : Int32) (p1 : Int32) (K : (Int32 × (Nat → Int32) × (Nat → Int32) × (Nat → Int32)) → Prop) : Prop :=
  ((16 ≤ P_orders → K (P_orders, P_kinds, P_sumEnds, P_testEnds)) ∧ (¬ 16 ≤ P_orders → vp_in P_orders 16 ∧ (vp_in P_orders 16 ∧ (vp_in P_orders 16 ∧ (K (P_orders + 1, upd P_kinds P_orders.toNatClampNeg p0, upd P_sumEnds P_orders.toNatClampNeg p1, upd P_testEnds P_orders.toNatClampNeg P_steps))))))
set_option maxRecDepth 100000 in
set_option maxHeartbeats 4000000 in
theorem bX1_addOrder {D : gD} {cB cI cJ cZ : ClassId} {E : gE} {A : Nat → Prop} {Q : State → Prop} {aP aP_kinds aP_sumEnds aP_testEnds aP_stepKinds aP_stepDetails : Nat} {P_orders P_steps : Int32} {P_kinds P_sumEnds P_testEnds : Nat → Int32} (C : Cx D (gT cB cI cJ cZ) E rmX1_addOrder cX1_addOrder 3 RX1 A) {p0 : Int32} {p1 : Int32} {K : (Int32 × (Nat → Int32) × (Nat → Int32) × (Nat → Int32)) → Prop} (hret : ∀ (u : Int32 × (Nat → Int32) × (Nat → Int32) × (Nat → Int32)) (pc : Nat) (ls : List (Nat × Value)), K u → decode cX1_addOrder pc = .ok (.return_, 1) → Go D E A Q 3 0 0 [(aP, .inr (0, [.int u.1, .int P_steps, .ref aP_kinds, .ref aP_sumEnds, .ref aP_testEnds, .ref aP_stepKinds, .ref aP_stepDetails])), (aP_kinds, .inl (cI, 16, .inl u.2.1)), (aP_sumEnds, .inl (cI, 16, .inl u.2.2.1)), (aP_testEnds, .inl (cI, 16, .inl u.2.2.2))] ls pc []) (h : wX1_addOrder P_orders P_steps P_kinds P_sumEnds P_testEnds p0 p1 K) : Go D E A Q 3 0 0 [(aP, .inr (0, [.int P_orders, .int P_steps, .ref aP_kinds, .ref aP_sumEnds, .ref aP_testEnds, .ref aP_stepKinds, .ref aP_stepDetails])), (aP_kinds, .inl (cI, 16, .inl P_kinds)), (aP_sumEnds, .inl (cI, 16, .inl P_sumEnds)), (aP_testEnds, .inl (cI, 16, .inl P_testEnds))] [(0, .ref aP), (1, .int p0), (2, .int p1)] 0 [] := by
  unfold wX1_addOrder at h
  refine q_aload_n C dX1_addOrder_0 0 rfl ?_
  refine q_get C inX1g rfl 0 (by decide) fl_X1_27 rfl 0 rfl rfl dX1_addOrder_1 ?_
  refine q_bipush C (v := 16) dX1_addOrder_4 (by decide) ?_
  refine q_icmp_ge C 52 dX1_addOrder_6 (by decide) h (fun h => ?_) (fun h => ?_)
  · exact hret (P_orders, P_kinds, P_sumEnds, P_testEnds) _ _ h dX1_addOrder_52
  · refine q_aload_n C dX1_addOrder_9 0 rfl ?_
    refine q_get C inX1g rfl 2 (by decide) fl_X1_9 rfl 0 rfl rfl dX1_addOrder_10 ?_
    refine q_aload_n C dX1_addOrder_13 0 rfl ?_
    refine q_get C inX1g rfl 0 (by decide) fl_X1_27 rfl 0 rfl rfl dX1_addOrder_14 ?_
    refine q_iload_n C dX1_addOrder_17 1 rfl ?_
    refine q_iast C 1 1 [(aP, .inr (0, [.int P_orders, .int P_steps, .ref aP_kinds, .ref aP_sumEnds, .ref aP_testEnds, .ref aP_stepKinds, .ref aP_stepDetails])), (aP_kinds, .inl (cI, 16, .inl (upd P_kinds P_orders.toNatClampNeg p0))), (aP_sumEnds, .inl (cI, 16, .inl P_sumEnds)), (aP_testEnds, .inl (cI, 16, .inl P_testEnds))] rfl rfl rfl dX1_addOrder_18 h (fun h => ?_)
    refine q_aload_n C dX1_addOrder_19 0 rfl ?_
    refine q_get C inX1g rfl 3 (by decide) fl_X1_15 rfl 0 rfl rfl dX1_addOrder_20 ?_
    refine q_aload_n C dX1_addOrder_23 0 rfl ?_
    refine q_get C inX1g rfl 0 (by decide) fl_X1_27 rfl 0 rfl rfl dX1_addOrder_24 ?_
    refine q_iload_n C dX1_addOrder_27 2 rfl ?_
    refine q_iast C 2 1 [(aP, .inr (0, [.int P_orders, .int P_steps, .ref aP_kinds, .ref aP_sumEnds, .ref aP_testEnds, .ref aP_stepKinds, .ref aP_stepDetails])), (aP_kinds, .inl (cI, 16, .inl (upd P_kinds P_orders.toNatClampNeg p0))), (aP_sumEnds, .inl (cI, 16, .inl (upd P_sumEnds P_orders.toNatClampNeg p1))), (aP_testEnds, .inl (cI, 16, .inl P_testEnds))] rfl rfl rfl dX1_addOrder_28 h (fun h => ?_)
    refine q_aload_n C dX1_addOrder_29 0 rfl ?_
    refine q_get C inX1g rfl 4 (by decide) fl_X1_18 rfl 0 rfl rfl dX1_addOrder_30 ?_
    refine q_aload_n C dX1_addOrder_33 0 rfl ?_
    refine q_get C inX1g rfl 0 (by decide) fl_X1_27 rfl 0 rfl rfl dX1_addOrder_34 ?_
    refine q_aload_n C dX1_addOrder_37 0 rfl ?_
    refine q_get C inX1g rfl 1 (by decide) fl_X1_31 rfl 0 rfl rfl dX1_addOrder_38 ?_
    refine q_iast C 3 1 [(aP, .inr (0, [.int P_orders, .int P_steps, .ref aP_kinds, .ref aP_sumEnds, .ref aP_testEnds, .ref aP_stepKinds, .ref aP_stepDetails])), (aP_kinds, .inl (cI, 16, .inl (upd P_kinds P_orders.toNatClampNeg p0))), (aP_sumEnds, .inl (cI, 16, .inl (upd P_sumEnds P_orders.toNatClampNeg p1))), (aP_testEnds, .inl (cI, 16, .inl (upd P_testEnds P_orders.toNatClampNeg P_steps)))] rfl rfl rfl dX1_addOrder_41 h (fun h => ?_)
    refine q_aload_n C dX1_addOrder_42 0 rfl ?_
    refine q_dup C dX1_addOrder_43 rfl ?_
    refine q_get C inX1g rfl 0 (by decide) fl_X1_27 rfl 0 rfl rfl dX1_addOrder_44 ?_
    refine q_iconst C (v := 1) dX1_addOrder_47 (by decide) ?_
    refine q_iadd C dX1_addOrder_48 ?_
    refine q_put C inX1g tyX1_ok nmX1 rfl 0 (by decide) fl_X1_27 rfl rfl (ty := .int) (by decide +kernel) 0 [(aP, .inr (0, [.int (P_orders + 1), .int P_steps, .ref aP_kinds, .ref aP_sumEnds, .ref aP_testEnds, .ref aP_stepKinds, .ref aP_stepDetails])), (aP_kinds, .inl (cI, 16, .inl (upd P_kinds P_orders.toNatClampNeg p0))), (aP_sumEnds, .inl (cI, 16, .inl (upd P_sumEnds P_orders.toNatClampNeg p1))), (aP_testEnds, .inl (cI, 16, .inl (upd P_testEnds P_orders.toNatClampNeg P_steps)))] rfl rfl rfl (Nat.le_of_ble_eq_true rfl) rfl dX1_addOrder_49 ?_
    exact hret (P_orders + 1, upd P_kinds P_orders.toNatClampNeg p0, upd P_sumEnds P_orders.toNatClampNeg p1, upd P_testEnds P_orders.toNatClampNeg P_steps) _ _ h dX1_addOrder_52
theorem cX1_addOrder_ok (l : Launch) {D : gD} {cB cI cJ cZ : ClassId} {aP aP_kinds aP_sumEnds aP_testEnds aP_stepKinds aP_stepDetails : Nat} {P_orders P_steps : Int32} {P_kinds P_sumEnds P_testEnds : Nat → Int32} {p0 : Int32} {p1 : Int32} {K : (Int32 × (Nat → Int32) × (Nat → Int32) × (Nat → Int32)) → Prop} (h : wX1_addOrder P_orders P_steps P_kinds P_sumEnds P_testEnds p0 p1 K) : CtV l D (gT cB cI cJ cZ) yX1_addOrder cX1_addOrder 3 rmX1_addOrder [.ref aP, .int p0, .int p1] [(aP, .inr (0, [.int P_orders, .int P_steps, .ref aP_kinds, .ref aP_sumEnds, .ref aP_testEnds, .ref aP_stepKinds, .ref aP_stepDetails])), (aP_kinds, .inl (cI, 16, .inl P_kinds)), (aP_sumEnds, .inl (cI, 16, .inl P_sumEnds)), (aP_testEnds, .inl (cI, 16, .inl P_testEnds))] (fun u : Int32 × (Nat → Int32) × (Nat → Int32) × (Nat → Int32) => [(aP, .inr (0, [.int u.1, .int P_steps, .ref aP_kinds, .ref aP_sumEnds, .ref aP_testEnds, .ref aP_stepKinds, .ref aP_stepDetails])), (aP_kinds, .inl (cI, 16, .inl u.2.1)), (aP_sumEnds, .inl (cI, 16, .inl u.2.2.1)), (aP_testEnds, .inl (cI, 16, .inl u.2.2.2))]) K :=
  ct_startV (by decide +kernel) (Nat.le_of_ble_eq_true rfl) (fun E A Q hE C hret => bX1_addOrder C hret h)
abbrev rmX1_isOrder : Room := { frames := 0, cells := 0, slots := 0, locals := 0 }
def wX1_isOrder (P_orders : Int32) (p0 : Int32) (K : Int32 → Unit → Prop) : Prop :=
  ((p0 < 0 → K 0 ()) ∧ (¬ p0 < 0 → ((P_orders ≤ p0 → K 0 ()) ∧ (¬ P_orders ≤ p0 → K 1 ()))))
set_option maxRecDepth 100000 in
set_option maxHeartbeats 4000000 in
theorem bX1_isOrder {D : gD} {cB cI cJ cZ : ClassId} {E : gE} {A : Nat → Prop} {Q : State → Prop} {aP aP_kinds aP_sumEnds aP_testEnds aP_stepKinds aP_stepDetails : Nat} {P_orders P_steps : Int32} (C : Cx D (gT cB cI cJ cZ) E rmX1_isOrder cX1_isOrder 2 RX1 A) {p0 : Int32} {K : Int32 → Unit → Prop} (hret : ∀ (r : Int32) (u : Unit) (pc : Nat) (ls : List (Nat × Value)), (r = 0 ∨ r = 1) → K r u → decode cX1_isOrder pc = .ok (.ireturn, 1) → Go D E A Q 2 0 0 [(aP, .inr (0, [.int P_orders, .int P_steps, .ref aP_kinds, .ref aP_sumEnds, .ref aP_testEnds, .ref aP_stepKinds, .ref aP_stepDetails]))] ls pc [.int r]) (h : wX1_isOrder P_orders p0 K) : Go D E A Q 2 0 0 [(aP, .inr (0, [.int P_orders, .int P_steps, .ref aP_kinds, .ref aP_sumEnds, .ref aP_testEnds, .ref aP_stepKinds, .ref aP_stepDetails]))] [(0, .ref aP), (1, .int p0)] 0 [] := by
  unfold wX1_isOrder at h
  refine q_iload_n C dX1_isOrder_0 1 rfl ?_
  refine q_if_lt C 16 dX1_isOrder_1 (by decide) h (fun h => ?_) (fun h => ?_)
  · refine q_iconst C (v := 0) dX1_isOrder_16 (by decide) ?_
    exact hret 0 () _ _ (Or.inl rfl) h dX1_isOrder_17
  · refine q_iload_n C dX1_isOrder_4 1 rfl ?_
    refine q_aload_n C dX1_isOrder_5 0 rfl ?_
    refine q_get C inX1g rfl 0 (by decide) fl_X1_27 rfl 0 rfl rfl dX1_isOrder_6 ?_
    refine q_icmp_ge C 16 dX1_isOrder_9 (by decide) h (fun h => ?_) (fun h => ?_)
    · refine q_iconst C (v := 0) dX1_isOrder_16 (by decide) ?_
      exact hret 0 () _ _ (Or.inl rfl) h dX1_isOrder_17
    · refine q_iconst C (v := 1) dX1_isOrder_12 (by decide) ?_
      refine q_goto (tgt := 17) C dX1_isOrder_13 (by decide) ?_
      exact hret 1 () _ _ (Or.inr rfl) h dX1_isOrder_17
theorem cX1_isOrder_ok (l : Launch) {D : gD} {cB cI cJ cZ : ClassId} {aP aP_kinds aP_sumEnds aP_testEnds aP_stepKinds aP_stepDetails : Nat} {P_orders P_steps : Int32} {p0 : Int32} {K : Int32 → Unit → Prop} (h : wX1_isOrder P_orders p0 K) : CtI l D (gT cB cI cJ cZ) yX1_isOrder cX1_isOrder 2 .boolean rmX1_isOrder [.ref aP, .int p0] [(aP, .inr (0, [.int P_orders, .int P_steps, .ref aP_kinds, .ref aP_sumEnds, .ref aP_testEnds, .ref aP_stepKinds, .ref aP_stepDetails]))] (fun u : Unit => [(aP, .inr (0, [.int P_orders, .int P_steps, .ref aP_kinds, .ref aP_sumEnds, .ref aP_testEnds, .ref aP_stepKinds, .ref aP_stepDetails]))]) (fun r u => (r = 0 ∨ r = 1) ∧ K r u) :=
  ct_startI (by decide +kernel) (Nat.le_of_ble_eq_true rfl) (fun E A Q hE C hret => bX1_isOrder C (fun r u pc ls hb hk hd => hret r u pc ls (nar_bit hb) ⟨hb, hk⟩ hd) h)
abbrev rmX1_kindOf : Room := { frames := 1, cells := 0, slots := 0, locals := 21 }
def wX1_kindOf (P_orders : Int32) (P_kinds : Nat → Int32) (p0 : Int32) (K : Int32 → Unit → Prop) : Prop :=
  wX1_isOrder P_orders p0 (fun r1 u1 => ((r1 = 0 → K 48 ()) ∧ (¬ r1 = 0 → vp_in p0 16 ∧ (K (P_kinds p0.toNatClampNeg) ()))))
set_option maxRecDepth 100000 in
set_option maxHeartbeats 4000000 in
theorem bX1_kindOf {D : gD} {cB cI cJ cZ : ClassId} {E : gE} {A : Nat → Prop} {Q : State → Prop} {aP aP_kinds aP_sumEnds aP_testEnds aP_stepKinds aP_stepDetails : Nat} {P_orders P_steps : Int32} {P_kinds : Nat → Int32} (C : Cx D (gT cB cI cJ cZ) E rmX1_kindOf cX1_kindOf 2 RX1 A) {p0 : Int32} {K : Int32 → Unit → Prop} (hret : ∀ (r : Int32) (u : Unit) (pc : Nat) (ls : List (Nat × Value)), K r u → decode cX1_kindOf pc = .ok (.ireturn, 1) → Go D E A Q 2 0 0 [(aP, .inr (0, [.int P_orders, .int P_steps, .ref aP_kinds, .ref aP_sumEnds, .ref aP_testEnds, .ref aP_stepKinds, .ref aP_stepDetails])), (aP_kinds, .inl (cI, 16, .inl P_kinds))] ls pc [.int r]) (h : wX1_kindOf P_orders P_kinds p0 K) : Go D E A Q 2 0 0 [(aP, .inr (0, [.int P_orders, .int P_steps, .ref aP_kinds, .ref aP_sumEnds, .ref aP_testEnds, .ref aP_stepKinds, .ref aP_stepDetails])), (aP_kinds, .inl (cI, 16, .inl P_kinds))] [(0, .ref aP), (1, .int p0)] 0 [] := by
  unfold wX1_kindOf at h
  refine q_aload_n C dX1_kindOf_0 0 rfl ?_
  refine q_iload_n C dX1_kindOf_1 1 rfl ?_
  refine q_callVI C (cX1_isOrder_ok _ h) cf_X1_34 im_X1_isOrder se_X1_isOrder 0 rfl rfl rfl rfl ⟨Nat.le_of_ble_eq_true rfl, Nat.le_of_ble_eq_true rfl⟩ ⟨Nat.le_of_ble_eq_true rfl, Nat.le_of_ble_eq_true rfl⟩ 0 0 ⟨rfl, rfl⟩ [0] [1] (wr := [(aP_kinds, .inl (cI, 16, .inl P_kinds))]) rfl rfl rfl rfl (by decide) (fun u1 : Unit => [(aP, .inr (0, [.int P_orders, .int P_steps, .ref aP_kinds, .ref aP_sumEnds, .ref aP_testEnds, .ref aP_stepKinds, .ref aP_stepDetails])), (aP_kinds, .inl (cI, 16, .inl P_kinds))]) [1, 0] rfl (fun _ => rfl) (rest := []) rfl (Nat.le_of_ble_eq_true rfl) dX1_kindOf_2 (fun r1 u1 h => ?_)
  obtain ⟨hb1, h⟩ := h
  refine q_if_eq C 17 dX1_kindOf_5 (by decide) h (fun h => ?_) (fun h => ?_)
  · refine q_bipush C (v := 48) dX1_kindOf_17 (by decide) ?_
    exact hret 48 () _ _ h dX1_kindOf_19
  · refine q_aload_n C dX1_kindOf_8 0 rfl ?_
    refine q_get C inX1g rfl 2 (by decide) fl_X1_9 rfl 0 rfl rfl dX1_kindOf_9 ?_
    refine q_iload_n C dX1_kindOf_12 1 rfl ?_
    refine q_iald C 1 1 rfl rfl dX1_kindOf_13 h (fun h => ?_)
    refine q_goto (tgt := 19) C dX1_kindOf_14 (by decide) ?_
    exact hret (P_kinds p0.toNatClampNeg) () _ _ h dX1_kindOf_19
theorem cX1_kindOf_ok (l : Launch) {D : gD} {cB cI cJ cZ : ClassId} {aP aP_kinds aP_sumEnds aP_testEnds aP_stepKinds aP_stepDetails : Nat} {P_orders P_steps : Int32} {P_kinds : Nat → Int32} {p0 : Int32} {K : Int32 → Unit → Prop} (h : wX1_kindOf P_orders P_kinds p0 K) : CtI l D (gT cB cI cJ cZ) yX1_kindOf cX1_kindOf 2 .int rmX1_kindOf [.ref aP, .int p0] [(aP, .inr (0, [.int P_orders, .int P_steps, .ref aP_kinds, .ref aP_sumEnds, .ref aP_testEnds, .ref aP_stepKinds, .ref aP_stepDetails])), (aP_kinds, .inl (cI, 16, .inl P_kinds))] (fun u : Unit => [(aP, .inr (0, [.int P_orders, .int P_steps, .ref aP_kinds, .ref aP_sumEnds, .ref aP_testEnds, .ref aP_stepKinds, .ref aP_stepDetails])), (aP_kinds, .inl (cI, 16, .inl P_kinds))]) K :=
  ct_startI (by decide +kernel) (Nat.le_of_ble_eq_true rfl) (fun E A Q hE C hret => bX1_kindOf C (fun r u pc ls hk hd => hret r u pc ls rfl hk hd) h)
abbrev rmX1_testEnd : Room := { frames := 1, cells := 0, slots := 0, locals := 21 }
def wX1_testEnd (P_orders : Int32) (P_testEnds : Nat → Int32) (p0 : Int32) (K : Int32 → Unit → Prop) : Prop :=
  wX1_isOrder P_orders p0 (fun r1 u1 => ((r1 = 0 → K 0 ()) ∧ (¬ r1 = 0 → vp_in p0 16 ∧ (K (P_testEnds p0.toNatClampNeg) ()))))
set_option maxRecDepth 100000 in
set_option maxHeartbeats 4000000 in
theorem bX1_testEnd {D : gD} {cB cI cJ cZ : ClassId} {E : gE} {A : Nat → Prop} {Q : State → Prop} {aP aP_testEnds aP_kinds aP_sumEnds aP_stepKinds aP_stepDetails : Nat} {P_orders P_steps : Int32} {P_testEnds : Nat → Int32} (C : Cx D (gT cB cI cJ cZ) E rmX1_testEnd cX1_testEnd 2 RX1 A) {p0 : Int32} {K : Int32 → Unit → Prop} (hret : ∀ (r : Int32) (u : Unit) (pc : Nat) (ls : List (Nat × Value)), K r u → decode cX1_testEnd pc = .ok (.ireturn, 1) → Go D E A Q 2 0 0 [(aP, .inr (0, [.int P_orders, .int P_steps, .ref aP_kinds, .ref aP_sumEnds, .ref aP_testEnds, .ref aP_stepKinds, .ref aP_stepDetails])), (aP_testEnds, .inl (cI, 16, .inl P_testEnds))] ls pc [.int r]) (h : wX1_testEnd P_orders P_testEnds p0 K) : Go D E A Q 2 0 0 [(aP, .inr (0, [.int P_orders, .int P_steps, .ref aP_kinds, .ref aP_sumEnds, .ref aP_testEnds, .ref aP_stepKinds, .ref aP_stepDetails])), (aP_testEnds, .inl (cI, 16, .inl P_testEnds))] [(0, .ref aP), (1, .int p0)] 0 [] := by
  unfold wX1_testEnd at h
  refine q_aload_n C dX1_testEnd_0 0 rfl ?_
  refine q_iload_n C dX1_testEnd_1 1 rfl ?_
  refine q_callVI C (cX1_isOrder_ok _ h) cf_X1_34 im_X1_isOrder se_X1_isOrder 0 rfl rfl rfl rfl ⟨Nat.le_of_ble_eq_true rfl, Nat.le_of_ble_eq_true rfl⟩ ⟨Nat.le_of_ble_eq_true rfl, Nat.le_of_ble_eq_true rfl⟩ 0 0 ⟨rfl, rfl⟩ [0] [1] (wr := [(aP_testEnds, .inl (cI, 16, .inl P_testEnds))]) rfl rfl rfl rfl (by decide) (fun u1 : Unit => [(aP, .inr (0, [.int P_orders, .int P_steps, .ref aP_kinds, .ref aP_sumEnds, .ref aP_testEnds, .ref aP_stepKinds, .ref aP_stepDetails])), (aP_testEnds, .inl (cI, 16, .inl P_testEnds))]) [1, 0] rfl (fun _ => rfl) (rest := []) rfl (Nat.le_of_ble_eq_true rfl) dX1_testEnd_2 (fun r1 u1 h => ?_)
  obtain ⟨hb1, h⟩ := h
  refine q_if_eq C 17 dX1_testEnd_5 (by decide) h (fun h => ?_) (fun h => ?_)
  · refine q_iconst C (v := 0) dX1_testEnd_17 (by decide) ?_
    exact hret 0 () _ _ h dX1_testEnd_18
  · refine q_aload_n C dX1_testEnd_8 0 rfl ?_
    refine q_get C inX1g rfl 4 (by decide) fl_X1_18 rfl 0 rfl rfl dX1_testEnd_9 ?_
    refine q_iload_n C dX1_testEnd_12 1 rfl ?_
    refine q_iald C 1 1 rfl rfl dX1_testEnd_13 h (fun h => ?_)
    refine q_goto (tgt := 18) C dX1_testEnd_14 (by decide) ?_
    exact hret (P_testEnds p0.toNatClampNeg) () _ _ h dX1_testEnd_18
theorem cX1_testEnd_ok (l : Launch) {D : gD} {cB cI cJ cZ : ClassId} {aP aP_testEnds aP_kinds aP_sumEnds aP_stepKinds aP_stepDetails : Nat} {P_orders P_steps : Int32} {P_testEnds : Nat → Int32} {p0 : Int32} {K : Int32 → Unit → Prop} (h : wX1_testEnd P_orders P_testEnds p0 K) : CtI l D (gT cB cI cJ cZ) yX1_testEnd cX1_testEnd 2 .int rmX1_testEnd [.ref aP, .int p0] [(aP, .inr (0, [.int P_orders, .int P_steps, .ref aP_kinds, .ref aP_sumEnds, .ref aP_testEnds, .ref aP_stepKinds, .ref aP_stepDetails])), (aP_testEnds, .inl (cI, 16, .inl P_testEnds))] (fun u : Unit => [(aP, .inr (0, [.int P_orders, .int P_steps, .ref aP_kinds, .ref aP_sumEnds, .ref aP_testEnds, .ref aP_stepKinds, .ref aP_stepDetails])), (aP_testEnds, .inl (cI, 16, .inl P_testEnds))]) K :=
  ct_startI (by decide +kernel) (Nat.le_of_ble_eq_true rfl) (fun E A Q hE C hret => bX1_testEnd C (fun r u pc ls hk hd => hret r u pc ls rfl hk hd) h)
abbrev rmX1_sumStart : Room := { frames := 2, cells := 0, slots := 0, locals := 42 }
def wX1_sumStart (P_orders : Int32) (P_testEnds : Nat → Int32) (p0 : Int32) (K : Int32 → Unit → Prop) : Prop :=
  wX1_testEnd P_orders P_testEnds (p0 - 1) (fun r1 u1 => K r1 ())
set_option maxRecDepth 100000 in
set_option maxHeartbeats 4000000 in
theorem bX1_sumStart {D : gD} {cB cI cJ cZ : ClassId} {E : gE} {A : Nat → Prop} {Q : State → Prop} {aP aP_testEnds aP_kinds aP_sumEnds aP_stepKinds aP_stepDetails : Nat} {P_orders P_steps : Int32} {P_testEnds : Nat → Int32} (C : Cx D (gT cB cI cJ cZ) E rmX1_sumStart cX1_sumStart 2 RX1 A) {p0 : Int32} {K : Int32 → Unit → Prop} (hret : ∀ (r : Int32) (u : Unit) (pc : Nat) (ls : List (Nat × Value)), K r u → decode cX1_sumStart pc = .ok (.ireturn, 1) → Go D E A Q 2 0 0 [(aP, .inr (0, [.int P_orders, .int P_steps, .ref aP_kinds, .ref aP_sumEnds, .ref aP_testEnds, .ref aP_stepKinds, .ref aP_stepDetails])), (aP_testEnds, .inl (cI, 16, .inl P_testEnds))] ls pc [.int r]) (h : wX1_sumStart P_orders P_testEnds p0 K) : Go D E A Q 2 0 0 [(aP, .inr (0, [.int P_orders, .int P_steps, .ref aP_kinds, .ref aP_sumEnds, .ref aP_testEnds, .ref aP_stepKinds, .ref aP_stepDetails])), (aP_testEnds, .inl (cI, 16, .inl P_testEnds))] [(0, .ref aP), (1, .int p0)] 0 [] := by
  unfold wX1_sumStart at h
  refine q_aload_n C dX1_sumStart_0 0 rfl ?_
  refine q_iload_n C dX1_sumStart_1 1 rfl ?_
  refine q_iconst C (v := 1) dX1_sumStart_2 (by decide) ?_
  refine q_isub C dX1_sumStart_3 ?_
  refine q_callVI C (cX1_testEnd_ok _ h) cf_X1_40 im_X1_testEnd se_X1_testEnd 0 rfl rfl rfl rfl ⟨Nat.le_of_ble_eq_true rfl, Nat.le_of_ble_eq_true rfl⟩ ⟨Nat.le_of_ble_eq_true rfl, Nat.le_of_ble_eq_true rfl⟩ 0 0 ⟨rfl, rfl⟩ [0, 1] [] (wr := []) rfl rfl rfl rfl (by decide) (fun u1 : Unit => [(aP, .inr (0, [.int P_orders, .int P_steps, .ref aP_kinds, .ref aP_sumEnds, .ref aP_testEnds, .ref aP_stepKinds, .ref aP_stepDetails])), (aP_testEnds, .inl (cI, 16, .inl P_testEnds))]) [0, 1] rfl (fun _ => rfl) (rest := []) rfl (Nat.le_of_ble_eq_true rfl) dX1_sumStart_4 (fun r1 u1 h => ?_)
  exact hret r1 () _ _ h dX1_sumStart_7
theorem cX1_sumStart_ok (l : Launch) {D : gD} {cB cI cJ cZ : ClassId} {aP aP_testEnds aP_kinds aP_sumEnds aP_stepKinds aP_stepDetails : Nat} {P_orders P_steps : Int32} {P_testEnds : Nat → Int32} {p0 : Int32} {K : Int32 → Unit → Prop} (h : wX1_sumStart P_orders P_testEnds p0 K) : CtI l D (gT cB cI cJ cZ) yX1_sumStart cX1_sumStart 2 .int rmX1_sumStart [.ref aP, .int p0] [(aP, .inr (0, [.int P_orders, .int P_steps, .ref aP_kinds, .ref aP_sumEnds, .ref aP_testEnds, .ref aP_stepKinds, .ref aP_stepDetails])), (aP_testEnds, .inl (cI, 16, .inl P_testEnds))] (fun u : Unit => [(aP, .inr (0, [.int P_orders, .int P_steps, .ref aP_kinds, .ref aP_sumEnds, .ref aP_testEnds, .ref aP_stepKinds, .ref aP_stepDetails])), (aP_testEnds, .inl (cI, 16, .inl P_testEnds))]) K :=
  ct_startI (by decide +kernel) (Nat.le_of_ble_eq_true rfl) (fun E A Q hE C hret => bX1_sumStart C (fun r u pc ls hk hd => hret r u pc ls rfl hk hd) h)
abbrev rmX1_sumEnd : Room := { frames := 1, cells := 0, slots := 0, locals := 21 }
def wX1_sumEnd (P_orders : Int32) (P_sumEnds : Nat → Int32) (p0 : Int32) (K : Int32 → Unit → Prop) : Prop :=
  wX1_isOrder P_orders p0 (fun r1 u1 => ((r1 = 0 → K 0 ()) ∧ (¬ r1 = 0 → vp_in p0 16 ∧ (K (P_sumEnds p0.toNatClampNeg) ()))))
set_option maxRecDepth 100000 in
set_option maxHeartbeats 4000000 in
theorem bX1_sumEnd {D : gD} {cB cI cJ cZ : ClassId} {E : gE} {A : Nat → Prop} {Q : State → Prop} {aP aP_sumEnds aP_kinds aP_testEnds aP_stepKinds aP_stepDetails : Nat} {P_orders P_steps : Int32} {P_sumEnds : Nat → Int32} (C : Cx D (gT cB cI cJ cZ) E rmX1_sumEnd cX1_sumEnd 2 RX1 A) {p0 : Int32} {K : Int32 → Unit → Prop} (hret : ∀ (r : Int32) (u : Unit) (pc : Nat) (ls : List (Nat × Value)), K r u → decode cX1_sumEnd pc = .ok (.ireturn, 1) → Go D E A Q 2 0 0 [(aP, .inr (0, [.int P_orders, .int P_steps, .ref aP_kinds, .ref aP_sumEnds, .ref aP_testEnds, .ref aP_stepKinds, .ref aP_stepDetails])), (aP_sumEnds, .inl (cI, 16, .inl P_sumEnds))] ls pc [.int r]) (h : wX1_sumEnd P_orders P_sumEnds p0 K) : Go D E A Q 2 0 0 [(aP, .inr (0, [.int P_orders, .int P_steps, .ref aP_kinds, .ref aP_sumEnds, .ref aP_testEnds, .ref aP_stepKinds, .ref aP_stepDetails])), (aP_sumEnds, .inl (cI, 16, .inl P_sumEnds))] [(0, .ref aP), (1, .int p0)] 0 [] := by
  unfold wX1_sumEnd at h
  refine q_aload_n C dX1_sumEnd_0 0 rfl ?_
  refine q_iload_n C dX1_sumEnd_1 1 rfl ?_
  refine q_callVI C (cX1_isOrder_ok _ h) cf_X1_34 im_X1_isOrder se_X1_isOrder 0 rfl rfl rfl rfl ⟨Nat.le_of_ble_eq_true rfl, Nat.le_of_ble_eq_true rfl⟩ ⟨Nat.le_of_ble_eq_true rfl, Nat.le_of_ble_eq_true rfl⟩ 0 0 ⟨rfl, rfl⟩ [0] [1] (wr := [(aP_sumEnds, .inl (cI, 16, .inl P_sumEnds))]) rfl rfl rfl rfl (by decide) (fun u1 : Unit => [(aP, .inr (0, [.int P_orders, .int P_steps, .ref aP_kinds, .ref aP_sumEnds, .ref aP_testEnds, .ref aP_stepKinds, .ref aP_stepDetails])), (aP_sumEnds, .inl (cI, 16, .inl P_sumEnds))]) [1, 0] rfl (fun _ => rfl) (rest := []) rfl (Nat.le_of_ble_eq_true rfl) dX1_sumEnd_2 (fun r1 u1 h => ?_)
  obtain ⟨hb1, h⟩ := h
  refine q_if_eq C 17 dX1_sumEnd_5 (by decide) h (fun h => ?_) (fun h => ?_)
  · refine q_iconst C (v := 0) dX1_sumEnd_17 (by decide) ?_
    exact hret 0 () _ _ h dX1_sumEnd_18
  · refine q_aload_n C dX1_sumEnd_8 0 rfl ?_
    refine q_get C inX1g rfl 3 (by decide) fl_X1_15 rfl 0 rfl rfl dX1_sumEnd_9 ?_
    refine q_iload_n C dX1_sumEnd_12 1 rfl ?_
    refine q_iald C 1 1 rfl rfl dX1_sumEnd_13 h (fun h => ?_)
    refine q_goto (tgt := 18) C dX1_sumEnd_14 (by decide) ?_
    exact hret (P_sumEnds p0.toNatClampNeg) () _ _ h dX1_sumEnd_18
theorem cX1_sumEnd_ok (l : Launch) {D : gD} {cB cI cJ cZ : ClassId} {aP aP_sumEnds aP_kinds aP_testEnds aP_stepKinds aP_stepDetails : Nat} {P_orders P_steps : Int32} {P_sumEnds : Nat → Int32} {p0 : Int32} {K : Int32 → Unit → Prop} (h : wX1_sumEnd P_orders P_sumEnds p0 K) : CtI l D (gT cB cI cJ cZ) yX1_sumEnd cX1_sumEnd 2 .int rmX1_sumEnd [.ref aP, .int p0] [(aP, .inr (0, [.int P_orders, .int P_steps, .ref aP_kinds, .ref aP_sumEnds, .ref aP_testEnds, .ref aP_stepKinds, .ref aP_stepDetails])), (aP_sumEnds, .inl (cI, 16, .inl P_sumEnds))] (fun u : Unit => [(aP, .inr (0, [.int P_orders, .int P_steps, .ref aP_kinds, .ref aP_sumEnds, .ref aP_testEnds, .ref aP_stepKinds, .ref aP_stepDetails])), (aP_sumEnds, .inl (cI, 16, .inl P_sumEnds))]) K :=
  ct_startI (by decide +kernel) (Nat.le_of_ble_eq_true rfl) (fun E A Q hE C hret => bX1_sumEnd C (fun r u pc ls hk hd => hret r u pc ls rfl hk hd) h)
abbrev rmX1_isStep : Room := { frames := 0, cells := 0, slots := 0, locals := 0 }
def wX1_isStep (P_steps : Int32) (p0 : Int32) (K : Int32 → Unit → Prop) : Prop :=
  ((p0 < 0 → K 0 ()) ∧ (¬ p0 < 0 → ((P_steps ≤ p0 → K 0 ()) ∧ (¬ P_steps ≤ p0 → K 1 ()))))
set_option maxRecDepth 100000 in
set_option maxHeartbeats 4000000 in
theorem bX1_isStep {D : gD} {cB cI cJ cZ : ClassId} {E : gE} {A : Nat → Prop} {Q : State → Prop} {aP aP_kinds aP_sumEnds aP_testEnds aP_stepKinds aP_stepDetails : Nat} {P_orders P_steps : Int32} (C : Cx D (gT cB cI cJ cZ) E rmX1_isStep cX1_isStep 2 RX1 A) {p0 : Int32} {K : Int32 → Unit → Prop} (hret : ∀ (r : Int32) (u : Unit) (pc : Nat) (ls : List (Nat × Value)), (r = 0 ∨ r = 1) → K r u → decode cX1_isStep pc = .ok (.ireturn, 1) → Go D E A Q 2 0 0 [(aP, .inr (0, [.int P_orders, .int P_steps, .ref aP_kinds, .ref aP_sumEnds, .ref aP_testEnds, .ref aP_stepKinds, .ref aP_stepDetails]))] ls pc [.int r]) (h : wX1_isStep P_steps p0 K) : Go D E A Q 2 0 0 [(aP, .inr (0, [.int P_orders, .int P_steps, .ref aP_kinds, .ref aP_sumEnds, .ref aP_testEnds, .ref aP_stepKinds, .ref aP_stepDetails]))] [(0, .ref aP), (1, .int p0)] 0 [] := by
  unfold wX1_isStep at h
  refine q_iload_n C dX1_isStep_0 1 rfl ?_
  refine q_if_lt C 16 dX1_isStep_1 (by decide) h (fun h => ?_) (fun h => ?_)
  · refine q_iconst C (v := 0) dX1_isStep_16 (by decide) ?_
    exact hret 0 () _ _ (Or.inl rfl) h dX1_isStep_17
  · refine q_iload_n C dX1_isStep_4 1 rfl ?_
    refine q_aload_n C dX1_isStep_5 0 rfl ?_
    refine q_get C inX1g rfl 1 (by decide) fl_X1_31 rfl 0 rfl rfl dX1_isStep_6 ?_
    refine q_icmp_ge C 16 dX1_isStep_9 (by decide) h (fun h => ?_) (fun h => ?_)
    · refine q_iconst C (v := 0) dX1_isStep_16 (by decide) ?_
      exact hret 0 () _ _ (Or.inl rfl) h dX1_isStep_17
    · refine q_iconst C (v := 1) dX1_isStep_12 (by decide) ?_
      refine q_goto (tgt := 17) C dX1_isStep_13 (by decide) ?_
      exact hret 1 () _ _ (Or.inr rfl) h dX1_isStep_17
theorem cX1_isStep_ok (l : Launch) {D : gD} {cB cI cJ cZ : ClassId} {aP aP_kinds aP_sumEnds aP_testEnds aP_stepKinds aP_stepDetails : Nat} {P_orders P_steps : Int32} {p0 : Int32} {K : Int32 → Unit → Prop} (h : wX1_isStep P_steps p0 K) : CtI l D (gT cB cI cJ cZ) yX1_isStep cX1_isStep 2 .boolean rmX1_isStep [.ref aP, .int p0] [(aP, .inr (0, [.int P_orders, .int P_steps, .ref aP_kinds, .ref aP_sumEnds, .ref aP_testEnds, .ref aP_stepKinds, .ref aP_stepDetails]))] (fun u : Unit => [(aP, .inr (0, [.int P_orders, .int P_steps, .ref aP_kinds, .ref aP_sumEnds, .ref aP_testEnds, .ref aP_stepKinds, .ref aP_stepDetails]))]) (fun r u => (r = 0 ∨ r = 1) ∧ K r u) :=
  ct_startI (by decide +kernel) (Nat.le_of_ble_eq_true rfl) (fun E A Q hE C hret => bX1_isStep C (fun r u pc ls hb hk hd => hret r u pc ls (nar_bit hb) ⟨hb, hk⟩ hd) h)
abbrev rmX1_stepKind : Room := { frames := 1, cells := 0, slots := 0, locals := 21 }
def wX1_stepKind (P_steps : Int32) (P_stepKinds : Nat → Int32) (p0 : Int32) (K : Int32 → Unit → Prop) : Prop :=
  wX1_isStep P_steps p0 (fun r1 u1 => ((r1 = 0 → K 48 ()) ∧ (¬ r1 = 0 → vp_in p0 400 ∧ (K (P_stepKinds p0.toNatClampNeg) ()))))
set_option maxRecDepth 100000 in
set_option maxHeartbeats 4000000 in
theorem bX1_stepKind {D : gD} {cB cI cJ cZ : ClassId} {E : gE} {A : Nat → Prop} {Q : State → Prop} {aP aP_stepKinds aP_kinds aP_sumEnds aP_testEnds aP_stepDetails : Nat} {P_orders P_steps : Int32} {P_stepKinds : Nat → Int32} (C : Cx D (gT cB cI cJ cZ) E rmX1_stepKind cX1_stepKind 2 RX1 A) {p0 : Int32} {K : Int32 → Unit → Prop} (hret : ∀ (r : Int32) (u : Unit) (pc : Nat) (ls : List (Nat × Value)), K r u → decode cX1_stepKind pc = .ok (.ireturn, 1) → Go D E A Q 2 0 0 [(aP, .inr (0, [.int P_orders, .int P_steps, .ref aP_kinds, .ref aP_sumEnds, .ref aP_testEnds, .ref aP_stepKinds, .ref aP_stepDetails])), (aP_stepKinds, .inl (cI, 400, .inl P_stepKinds))] ls pc [.int r]) (h : wX1_stepKind P_steps P_stepKinds p0 K) : Go D E A Q 2 0 0 [(aP, .inr (0, [.int P_orders, .int P_steps, .ref aP_kinds, .ref aP_sumEnds, .ref aP_testEnds, .ref aP_stepKinds, .ref aP_stepDetails])), (aP_stepKinds, .inl (cI, 400, .inl P_stepKinds))] [(0, .ref aP), (1, .int p0)] 0 [] := by
  unfold wX1_stepKind at h
  refine q_aload_n C dX1_stepKind_0 0 rfl ?_
  refine q_iload_n C dX1_stepKind_1 1 rfl ?_
  refine q_callVI C (cX1_isStep_ok _ h) cf_X1_44 im_X1_isStep se_X1_isStep 0 rfl rfl rfl rfl ⟨Nat.le_of_ble_eq_true rfl, Nat.le_of_ble_eq_true rfl⟩ ⟨Nat.le_of_ble_eq_true rfl, Nat.le_of_ble_eq_true rfl⟩ 0 0 ⟨rfl, rfl⟩ [0] [1] (wr := [(aP_stepKinds, .inl (cI, 400, .inl P_stepKinds))]) rfl rfl rfl rfl (by decide) (fun u1 : Unit => [(aP, .inr (0, [.int P_orders, .int P_steps, .ref aP_kinds, .ref aP_sumEnds, .ref aP_testEnds, .ref aP_stepKinds, .ref aP_stepDetails])), (aP_stepKinds, .inl (cI, 400, .inl P_stepKinds))]) [1, 0] rfl (fun _ => rfl) (rest := []) rfl (Nat.le_of_ble_eq_true rfl) dX1_stepKind_2 (fun r1 u1 h => ?_)
  obtain ⟨hb1, h⟩ := h
  refine q_if_eq C 17 dX1_stepKind_5 (by decide) h (fun h => ?_) (fun h => ?_)
  · refine q_bipush C (v := 48) dX1_stepKind_17 (by decide) ?_
    exact hret 48 () _ _ h dX1_stepKind_19
  · refine q_aload_n C dX1_stepKind_8 0 rfl ?_
    refine q_get C inX1g rfl 5 (by decide) fl_X1_21 rfl 0 rfl rfl dX1_stepKind_9 ?_
    refine q_iload_n C dX1_stepKind_12 1 rfl ?_
    refine q_iald C 1 1 rfl rfl dX1_stepKind_13 h (fun h => ?_)
    refine q_goto (tgt := 19) C dX1_stepKind_14 (by decide) ?_
    exact hret (P_stepKinds p0.toNatClampNeg) () _ _ h dX1_stepKind_19
theorem cX1_stepKind_ok (l : Launch) {D : gD} {cB cI cJ cZ : ClassId} {aP aP_stepKinds aP_kinds aP_sumEnds aP_testEnds aP_stepDetails : Nat} {P_orders P_steps : Int32} {P_stepKinds : Nat → Int32} {p0 : Int32} {K : Int32 → Unit → Prop} (h : wX1_stepKind P_steps P_stepKinds p0 K) : CtI l D (gT cB cI cJ cZ) yX1_stepKind cX1_stepKind 2 .int rmX1_stepKind [.ref aP, .int p0] [(aP, .inr (0, [.int P_orders, .int P_steps, .ref aP_kinds, .ref aP_sumEnds, .ref aP_testEnds, .ref aP_stepKinds, .ref aP_stepDetails])), (aP_stepKinds, .inl (cI, 400, .inl P_stepKinds))] (fun u : Unit => [(aP, .inr (0, [.int P_orders, .int P_steps, .ref aP_kinds, .ref aP_sumEnds, .ref aP_testEnds, .ref aP_stepKinds, .ref aP_stepDetails])), (aP_stepKinds, .inl (cI, 400, .inl P_stepKinds))]) K :=
  ct_startI (by decide +kernel) (Nat.le_of_ble_eq_true rfl) (fun E A Q hE C hret => bX1_stepKind C (fun r u pc ls hk hd => hret r u pc ls rfl hk hd) h)
abbrev rmX1_stepDetail : Room := { frames := 1, cells := 0, slots := 0, locals := 21 }
def wX1_stepDetail (P_steps : Int32) (P_stepDetails : Nat → Int32) (p0 : Int32) (K : Int32 → Unit → Prop) : Prop :=
  wX1_isStep P_steps p0 (fun r1 u1 => ((r1 = 0 → K 0 ()) ∧ (¬ r1 = 0 → vp_in p0 400 ∧ (K (P_stepDetails p0.toNatClampNeg) ()))))
set_option maxRecDepth 100000 in
set_option maxHeartbeats 4000000 in
theorem bX1_stepDetail {D : gD} {cB cI cJ cZ : ClassId} {E : gE} {A : Nat → Prop} {Q : State → Prop} {aP aP_stepDetails aP_kinds aP_sumEnds aP_testEnds aP_stepKinds : Nat} {P_orders P_steps : Int32} {P_stepDetails : Nat → Int32} (C : Cx D (gT cB cI cJ cZ) E rmX1_stepDetail cX1_stepDetail 2 RX1 A) {p0 : Int32} {K : Int32 → Unit → Prop} (hret : ∀ (r : Int32) (u : Unit) (pc : Nat) (ls : List (Nat × Value)), K r u → decode cX1_stepDetail pc = .ok (.ireturn, 1) → Go D E A Q 2 0 0 [(aP, .inr (0, [.int P_orders, .int P_steps, .ref aP_kinds, .ref aP_sumEnds, .ref aP_testEnds, .ref aP_stepKinds, .ref aP_stepDetails])), (aP_stepDetails, .inl (cI, 400, .inl P_stepDetails))] ls pc [.int r]) (h : wX1_stepDetail P_steps P_stepDetails p0 K) : Go D E A Q 2 0 0 [(aP, .inr (0, [.int P_orders, .int P_steps, .ref aP_kinds, .ref aP_sumEnds, .ref aP_testEnds, .ref aP_stepKinds, .ref aP_stepDetails])), (aP_stepDetails, .inl (cI, 400, .inl P_stepDetails))] [(0, .ref aP), (1, .int p0)] 0 [] := by
  unfold wX1_stepDetail at h
  refine q_aload_n C dX1_stepDetail_0 0 rfl ?_
  refine q_iload_n C dX1_stepDetail_1 1 rfl ?_
  refine q_callVI C (cX1_isStep_ok _ h) cf_X1_44 im_X1_isStep se_X1_isStep 0 rfl rfl rfl rfl ⟨Nat.le_of_ble_eq_true rfl, Nat.le_of_ble_eq_true rfl⟩ ⟨Nat.le_of_ble_eq_true rfl, Nat.le_of_ble_eq_true rfl⟩ 0 0 ⟨rfl, rfl⟩ [0] [1] (wr := [(aP_stepDetails, .inl (cI, 400, .inl P_stepDetails))]) rfl rfl rfl rfl (by decide) (fun u1 : Unit => [(aP, .inr (0, [.int P_orders, .int P_steps, .ref aP_kinds, .ref aP_sumEnds, .ref aP_testEnds, .ref aP_stepKinds, .ref aP_stepDetails])), (aP_stepDetails, .inl (cI, 400, .inl P_stepDetails))]) [1, 0] rfl (fun _ => rfl) (rest := []) rfl (Nat.le_of_ble_eq_true rfl) dX1_stepDetail_2 (fun r1 u1 h => ?_)
  obtain ⟨hb1, h⟩ := h
  refine q_if_eq C 17 dX1_stepDetail_5 (by decide) h (fun h => ?_) (fun h => ?_)
  · refine q_iconst C (v := 0) dX1_stepDetail_17 (by decide) ?_
    exact hret 0 () _ _ h dX1_stepDetail_18
  · refine q_aload_n C dX1_stepDetail_8 0 rfl ?_
    refine q_get C inX1g rfl 6 (by decide) fl_X1_24 rfl 0 rfl rfl dX1_stepDetail_9 ?_
    refine q_iload_n C dX1_stepDetail_12 1 rfl ?_
    refine q_iald C 1 1 rfl rfl dX1_stepDetail_13 h (fun h => ?_)
    refine q_goto (tgt := 18) C dX1_stepDetail_14 (by decide) ?_
    exact hret (P_stepDetails p0.toNatClampNeg) () _ _ h dX1_stepDetail_18
theorem cX1_stepDetail_ok (l : Launch) {D : gD} {cB cI cJ cZ : ClassId} {aP aP_stepDetails aP_kinds aP_sumEnds aP_testEnds aP_stepKinds : Nat} {P_orders P_steps : Int32} {P_stepDetails : Nat → Int32} {p0 : Int32} {K : Int32 → Unit → Prop} (h : wX1_stepDetail P_steps P_stepDetails p0 K) : CtI l D (gT cB cI cJ cZ) yX1_stepDetail cX1_stepDetail 2 .int rmX1_stepDetail [.ref aP, .int p0] [(aP, .inr (0, [.int P_orders, .int P_steps, .ref aP_kinds, .ref aP_sumEnds, .ref aP_testEnds, .ref aP_stepKinds, .ref aP_stepDetails])), (aP_stepDetails, .inl (cI, 400, .inl P_stepDetails))] (fun u : Unit => [(aP, .inr (0, [.int P_orders, .int P_steps, .ref aP_kinds, .ref aP_sumEnds, .ref aP_testEnds, .ref aP_stepKinds, .ref aP_stepDetails])), (aP_stepDetails, .inl (cI, 400, .inl P_stepDetails))]) K :=
  ct_startI (by decide +kernel) (Nat.le_of_ble_eq_true rfl) (fun E A Q hE C hret => bX1_stepDetail C (fun r u pc ls hk hd => hret r u pc ls rfl hk hd) h)
abbrev rmX2_init : Room := { frames := 1, cells := 1, slots := 400, locals := 20 }
def wX2_init (K : ((Nat → Int32) × Nat) → Prop) : Prop :=
  ∀ q1 : Nat, K ((fun _ => 0), q1)
set_option maxRecDepth 100000 in
set_option maxHeartbeats 4000000 in
theorem bX2_init {D : gD} {cB cI cJ cZ : ClassId} {E : gE} {A : Nat → Prop} {Q : State → Prop} {aL : Nat} {L_piled : Int32} (C : Cx D (gT cB cI cJ cZ) E rmX2_init cX2_init 1 RX2 A) (hin : E.2.2.2.2.2.2.2.2.1.name = "<init>") {K : ((Nat → Int32) × Nat) → Prop} (hret : ∀ (u : (Nat → Int32) × Nat) (pc : Nat) (ls : List (Nat × Value)), K u → decode cX2_init pc = .ok (.return_, 1) → Go D E A Q 1 1 400 [(aL, .inr (1, [.ref u.2, .int L_piled])), (u.2, .inl (cI, 400, .inl u.1))] ls pc []) (h : wX2_init K) : Go D E A Q 1 0 0 [(aL, .inr (1, [.null, .int L_piled]))] [(0, .ref aL)] 0 [] := by
  unfold wX2_init at h
  refine q_aload_n C dX2_init_0 0 rfl ?_
  refine q_objInit C oi_X2_3 dX2_init_1 ⟨Nat.le_of_ble_eq_true rfl, Nat.le_of_ble_eq_true rfl⟩ (Nat.le_of_ble_eq_true rfl) ?_
  refine q_aload_n C dX2_init_4 0 rfl ?_
  refine q_sipush C (v := 400) dX2_init_5 (by decide) ?_
  refine q_newa (atype := .int) C (.inl (fun _ => 0)) 1 rfl rfl (fun _ _ h => h) ac_I 400 (fun _ => rfl) dX2_init_8 (by decide) (by decide) (Nat.le_of_ble_eq_true rfl) ⟨Nat.le_of_ble_eq_true rfl, Nat.le_of_ble_eq_true rfl⟩ 1 400 ⟨rfl, rfl⟩ (fun q1 => [(aL, .inr (1, [.null, .int L_piled])), (q1, .inl (cI, 400, .inl (fun _ => 0)))]) (fun _ => rfl) (fun q1 => ?_)
  replace h := h q1
  refine q_putF C inX2g tyX2_ok nmX2 rfl 0 (by decide) fl_X2_9 rfl rfl hin rfl (ty := (.array .int)) (by decide +kernel) 0 [(aL, .inr (1, [.ref q1, .int L_piled])), (q1, .inl (cI, 400, .inl (fun _ => 0)))] rfl rfl rfl (Nat.le_of_ble_eq_true rfl) rfl dX2_init_10 ?_
  exact hret ((fun _ => 0), q1) _ _ h dX2_init_13
theorem cX2_init_ok (l : Launch) {D : gD} {cB cI cJ cZ : ClassId} {aL : Nat} {L_piled : Int32} {K : ((Nat → Int32) × Nat) → Prop} (h : wX2_init K) : CtV l D (gT cB cI cJ cZ) yX2_init cX2_init 1 rmX2_init [.ref aL] [(aL, .inr (1, [.null, .int L_piled]))] (fun u : (Nat → Int32) × Nat => [(aL, .inr (1, [.ref u.2, .int L_piled])), (u.2, .inl (cI, 400, .inl u.1))]) K :=
  ct_startC (by decide +kernel) (Nat.le_of_ble_eq_true rfl) rfl (fun E A Q hE C hin hret => bX2_init C hin hret h)
abbrev rmX2_push : Room := { frames := 0, cells := 0, slots := 0, locals := 0 }
def wX2_push (L_pile : Nat → Int32) (L_piled : Int32) (p0 : Int32) (K : ((Nat → Int32) × Int32) → Prop) : Prop :=
  ((L_piled < 0 → K (L_pile, L_piled)) ∧ (¬ L_piled < 0 → ((400 ≤ L_piled → K (L_pile, L_piled)) ∧ (¬ 400 ≤ L_piled → vp_in L_piled 400 ∧ (K (upd L_pile L_piled.toNatClampNeg p0, L_piled + 1))))))
set_option maxRecDepth 100000 in
set_option maxHeartbeats 4000000 in
theorem bX2_push {D : gD} {cB cI cJ cZ : ClassId} {E : gE} {A : Nat → Prop} {Q : State → Prop} {aL aL_pile : Nat} {L_piled : Int32} {L_pile : Nat → Int32} (C : Cx D (gT cB cI cJ cZ) E rmX2_push cX2_push 2 RX2 A) {p0 : Int32} {K : ((Nat → Int32) × Int32) → Prop} (hret : ∀ (u : (Nat → Int32) × Int32) (pc : Nat) (ls : List (Nat × Value)), K u → decode cX2_push pc = .ok (.return_, 1) → Go D E A Q 2 0 0 [(aL, .inr (1, [.ref aL_pile, .int u.2])), (aL_pile, .inl (cI, 400, .inl u.1))] ls pc []) (h : wX2_push L_pile L_piled p0 K) : Go D E A Q 2 0 0 [(aL, .inr (1, [.ref aL_pile, .int L_piled])), (aL_pile, .inl (cI, 400, .inl L_pile))] [(0, .ref aL), (1, .int p0)] 0 [] := by
  unfold wX2_push at h
  refine q_aload_n C dX2_push_0 0 rfl ?_
  refine q_get C inX2g rfl 1 (by decide) fl_X2_89 rfl 0 rfl rfl dX2_push_1 ?_
  refine q_if_lt C 37 dX2_push_4 (by decide) h (fun h => ?_) (fun h => ?_)
  · exact hret (L_pile, L_piled) _ _ h dX2_push_37
  · refine q_aload_n C dX2_push_7 0 rfl ?_
    refine q_get C inX2g rfl 1 (by decide) fl_X2_89 rfl 0 rfl rfl dX2_push_8 ?_
    refine q_sipush C (v := 400) dX2_push_11 (by decide) ?_
    refine q_icmp_ge C 37 dX2_push_14 (by decide) h (fun h => ?_) (fun h => ?_)
    · exact hret (L_pile, L_piled) _ _ h dX2_push_37
    · refine q_aload_n C dX2_push_17 0 rfl ?_
      refine q_get C inX2g rfl 0 (by decide) fl_X2_9 rfl 0 rfl rfl dX2_push_18 ?_
      refine q_aload_n C dX2_push_21 0 rfl ?_
      refine q_get C inX2g rfl 1 (by decide) fl_X2_89 rfl 0 rfl rfl dX2_push_22 ?_
      refine q_iload_n C dX2_push_25 1 rfl ?_
      refine q_iast C 1 1 [(aL, .inr (1, [.ref aL_pile, .int L_piled])), (aL_pile, .inl (cI, 400, .inl (upd L_pile L_piled.toNatClampNeg p0)))] rfl rfl rfl dX2_push_26 h (fun h => ?_)
      refine q_aload_n C dX2_push_27 0 rfl ?_
      refine q_dup C dX2_push_28 rfl ?_
      refine q_get C inX2g rfl 1 (by decide) fl_X2_89 rfl 0 rfl rfl dX2_push_29 ?_
      refine q_iconst C (v := 1) dX2_push_32 (by decide) ?_
      refine q_iadd C dX2_push_33 ?_
      refine q_put C inX2g tyX2_ok nmX2 rfl 1 (by decide) fl_X2_89 rfl rfl (ty := .int) (by decide +kernel) 0 [(aL, .inr (1, [.ref aL_pile, .int (L_piled + 1)])), (aL_pile, .inl (cI, 400, .inl (upd L_pile L_piled.toNatClampNeg p0)))] rfl rfl rfl (Nat.le_of_ble_eq_true rfl) rfl dX2_push_34 ?_
      exact hret (upd L_pile L_piled.toNatClampNeg p0, L_piled + 1) _ _ h dX2_push_37
theorem cX2_push_ok (l : Launch) {D : gD} {cB cI cJ cZ : ClassId} {aL aL_pile : Nat} {L_piled : Int32} {L_pile : Nat → Int32} {p0 : Int32} {K : ((Nat → Int32) × Int32) → Prop} (h : wX2_push L_pile L_piled p0 K) : CtV l D (gT cB cI cJ cZ) yX2_push cX2_push 2 rmX2_push [.ref aL, .int p0] [(aL, .inr (1, [.ref aL_pile, .int L_piled])), (aL_pile, .inl (cI, 400, .inl L_pile))] (fun u : (Nat → Int32) × Int32 => [(aL, .inr (1, [.ref aL_pile, .int u.2])), (aL_pile, .inl (cI, 400, .inl u.1))]) K :=
  ct_startV (by decide +kernel) (Nat.le_of_ble_eq_true rfl) (fun E A Q hE C hret => bX2_push C hret h)
abbrev rmX7_isEmpire : Room := { frames := 0, cells := 0, slots := 0, locals := 0 }
def wX7_isEmpire (T_empires : Int32) (p0 : Int32) (K : Int32 → Unit → Prop) : Prop :=
  ((p0 < 0 → K 0 ()) ∧ (¬ p0 < 0 → ((T_empires ≤ p0 → K 0 ()) ∧ (¬ T_empires ≤ p0 → K 1 ()))))
set_option maxRecDepth 100000 in
set_option maxHeartbeats 4000000 in
theorem bX7_isEmpire {D : gD} {cB cI cJ cZ : ClassId} {E : gE} {A : Nat → Prop} {Q : State → Prop} {aT aP aT_names aT_froms aT_tos aT_coins aT_cushions aT_details aT_findsIn aT_springsIn : Nat} {T_seats T_strata T_empires T_finds : Int32} (C : Cx D (gT cB cI cJ cZ) E rmX7_isEmpire cX7_isEmpire 2 RX7 A) {p0 : Int32} {K : Int32 → Unit → Prop} (hret : ∀ (r : Int32) (u : Unit) (pc : Nat) (ls : List (Nat × Value)), (r = 0 ∨ r = 1) → K r u → decode cX7_isEmpire pc = .ok (.ireturn, 1) → Go D E A Q 2 0 0 [(aT, .inr (6, [.ref aP, .int T_seats, .int T_strata, .int T_empires, .int T_finds, .ref aT_names, .ref aT_froms, .ref aT_tos, .ref aT_coins, .ref aT_cushions, .ref aT_details, .ref aT_findsIn, .ref aT_springsIn]))] ls pc [.int r]) (h : wX7_isEmpire T_empires p0 K) : Go D E A Q 2 0 0 [(aT, .inr (6, [.ref aP, .int T_seats, .int T_strata, .int T_empires, .int T_finds, .ref aT_names, .ref aT_froms, .ref aT_tos, .ref aT_coins, .ref aT_cushions, .ref aT_details, .ref aT_findsIn, .ref aT_springsIn]))] [(0, .ref aT), (1, .int p0)] 0 [] := by
  unfold wX7_isEmpire at h
  refine q_iload_n C dX7_isEmpire_0 1 rfl ?_
  refine q_if_lt C 16 dX7_isEmpire_1 (by decide) h (fun h => ?_) (fun h => ?_)
  · refine q_iconst C (v := 0) dX7_isEmpire_16 (by decide) ?_
    exact hret 0 () _ _ (Or.inl rfl) h dX7_isEmpire_17
  · refine q_iload_n C dX7_isEmpire_4 1 rfl ?_
    refine q_aload_n C dX7_isEmpire_5 0 rfl ?_
    refine q_get C inX7g rfl 3 (by decide) fl_X7_52 rfl 0 rfl rfl dX7_isEmpire_6 ?_
    refine q_icmp_ge C 16 dX7_isEmpire_9 (by decide) h (fun h => ?_) (fun h => ?_)
    · refine q_iconst C (v := 0) dX7_isEmpire_16 (by decide) ?_
      exact hret 0 () _ _ (Or.inl rfl) h dX7_isEmpire_17
    · refine q_iconst C (v := 1) dX7_isEmpire_12 (by decide) ?_
      refine q_goto (tgt := 17) C dX7_isEmpire_13 (by decide) ?_
      exact hret 1 () _ _ (Or.inr rfl) h dX7_isEmpire_17
theorem cX7_isEmpire_ok (l : Launch) {D : gD} {cB cI cJ cZ : ClassId} {aT aP aT_names aT_froms aT_tos aT_coins aT_cushions aT_details aT_findsIn aT_springsIn : Nat} {T_seats T_strata T_empires T_finds : Int32} {p0 : Int32} {K : Int32 → Unit → Prop} (h : wX7_isEmpire T_empires p0 K) : CtI l D (gT cB cI cJ cZ) yX7_isEmpire cX7_isEmpire 2 .boolean rmX7_isEmpire [.ref aT, .int p0] [(aT, .inr (6, [.ref aP, .int T_seats, .int T_strata, .int T_empires, .int T_finds, .ref aT_names, .ref aT_froms, .ref aT_tos, .ref aT_coins, .ref aT_cushions, .ref aT_details, .ref aT_findsIn, .ref aT_springsIn]))] (fun u : Unit => [(aT, .inr (6, [.ref aP, .int T_seats, .int T_strata, .int T_empires, .int T_finds, .ref aT_names, .ref aT_froms, .ref aT_tos, .ref aT_coins, .ref aT_cushions, .ref aT_details, .ref aT_findsIn, .ref aT_springsIn]))]) (fun r u => (r = 0 ∨ r = 1) ∧ K r u) :=
  ct_startI (by decide +kernel) (Nat.le_of_ble_eq_true rfl) (fun E A Q hE C hret => bX7_isEmpire C (fun r u pc ls hb hk hd => hret r u pc ls (nar_bit hb) ⟨hb, hk⟩ hd) h)
abbrev rmX7_fromOf : Room := { frames := 1, cells := 0, slots := 0, locals := 21 }
def wX7_fromOf (T_empires : Int32) (T_froms : Nat → Int32) (p0 : Int32) (K : Int32 → Unit → Prop) : Prop :=
  wX7_isEmpire T_empires p0 (fun r1 u1 => ((r1 = 0 → K (-1) ()) ∧ (¬ r1 = 0 → vp_in p0 6 ∧ (K (T_froms p0.toNatClampNeg) ()))))
set_option maxRecDepth 100000 in
set_option maxHeartbeats 4000000 in
theorem bX7_fromOf {D : gD} {cB cI cJ cZ : ClassId} {E : gE} {A : Nat → Prop} {Q : State → Prop} {aT aT_froms aP aT_names aT_tos aT_coins aT_cushions aT_details aT_findsIn aT_springsIn : Nat} {T_seats T_strata T_empires T_finds : Int32} {T_froms : Nat → Int32} (C : Cx D (gT cB cI cJ cZ) E rmX7_fromOf cX7_fromOf 2 RX7 A) {p0 : Int32} {K : Int32 → Unit → Prop} (hret : ∀ (r : Int32) (u : Unit) (pc : Nat) (ls : List (Nat × Value)), K r u → decode cX7_fromOf pc = .ok (.ireturn, 1) → Go D E A Q 2 0 0 [(aT, .inr (6, [.ref aP, .int T_seats, .int T_strata, .int T_empires, .int T_finds, .ref aT_names, .ref aT_froms, .ref aT_tos, .ref aT_coins, .ref aT_cushions, .ref aT_details, .ref aT_findsIn, .ref aT_springsIn])), (aT_froms, .inl (cI, 6, .inl T_froms))] ls pc [.int r]) (h : wX7_fromOf T_empires T_froms p0 K) : Go D E A Q 2 0 0 [(aT, .inr (6, [.ref aP, .int T_seats, .int T_strata, .int T_empires, .int T_finds, .ref aT_names, .ref aT_froms, .ref aT_tos, .ref aT_coins, .ref aT_cushions, .ref aT_details, .ref aT_findsIn, .ref aT_springsIn])), (aT_froms, .inl (cI, 6, .inl T_froms))] [(0, .ref aT), (1, .int p0)] 0 [] := by
  unfold wX7_fromOf at h
  refine q_aload_n C dX7_fromOf_0 0 rfl ?_
  refine q_iload_n C dX7_fromOf_1 1 rfl ?_
  refine q_callVI C (cX7_isEmpire_ok _ h) cf_X7_95 im_X7_isEmpire se_X7_isEmpire 6 rfl rfl rfl rfl ⟨Nat.le_of_ble_eq_true rfl, Nat.le_of_ble_eq_true rfl⟩ ⟨Nat.le_of_ble_eq_true rfl, Nat.le_of_ble_eq_true rfl⟩ 0 0 ⟨rfl, rfl⟩ [0] [1] (wr := [(aT_froms, .inl (cI, 6, .inl T_froms))]) rfl rfl rfl rfl (by decide) (fun u1 : Unit => [(aT, .inr (6, [.ref aP, .int T_seats, .int T_strata, .int T_empires, .int T_finds, .ref aT_names, .ref aT_froms, .ref aT_tos, .ref aT_coins, .ref aT_cushions, .ref aT_details, .ref aT_findsIn, .ref aT_springsIn])), (aT_froms, .inl (cI, 6, .inl T_froms))]) [1, 0] rfl (fun _ => rfl) (rest := []) rfl (Nat.le_of_ble_eq_true rfl) dX7_fromOf_2 (fun r1 u1 h => ?_)
  obtain ⟨hb1, h⟩ := h
  refine q_if_eq C 17 dX7_fromOf_5 (by decide) h (fun h => ?_) (fun h => ?_)
  · refine q_iconst C (v := (-1)) dX7_fromOf_17 (by decide) ?_
    exact hret (-1) () _ _ h dX7_fromOf_18
  · refine q_aload_n C dX7_fromOf_8 0 rfl ?_
    refine q_get C inX7g rfl 6 (by decide) fl_X7_22 rfl 0 rfl rfl dX7_fromOf_9 ?_
    refine q_iload_n C dX7_fromOf_12 1 rfl ?_
    refine q_iald C 1 1 rfl rfl dX7_fromOf_13 h (fun h => ?_)
    refine q_goto (tgt := 18) C dX7_fromOf_14 (by decide) ?_
    exact hret (T_froms p0.toNatClampNeg) () _ _ h dX7_fromOf_18
theorem cX7_fromOf_ok (l : Launch) {D : gD} {cB cI cJ cZ : ClassId} {aT aT_froms aP aT_names aT_tos aT_coins aT_cushions aT_details aT_findsIn aT_springsIn : Nat} {T_seats T_strata T_empires T_finds : Int32} {T_froms : Nat → Int32} {p0 : Int32} {K : Int32 → Unit → Prop} (h : wX7_fromOf T_empires T_froms p0 K) : CtI l D (gT cB cI cJ cZ) yX7_fromOf cX7_fromOf 2 .int rmX7_fromOf [.ref aT, .int p0] [(aT, .inr (6, [.ref aP, .int T_seats, .int T_strata, .int T_empires, .int T_finds, .ref aT_names, .ref aT_froms, .ref aT_tos, .ref aT_coins, .ref aT_cushions, .ref aT_details, .ref aT_findsIn, .ref aT_springsIn])), (aT_froms, .inl (cI, 6, .inl T_froms))] (fun u : Unit => [(aT, .inr (6, [.ref aP, .int T_seats, .int T_strata, .int T_empires, .int T_finds, .ref aT_names, .ref aT_froms, .ref aT_tos, .ref aT_coins, .ref aT_cushions, .ref aT_details, .ref aT_findsIn, .ref aT_springsIn])), (aT_froms, .inl (cI, 6, .inl T_froms))]) K :=
  ct_startI (by decide +kernel) (Nat.le_of_ble_eq_true rfl) (fun E A Q hE C hret => bX7_fromOf C (fun r u pc ls hk hd => hret r u pc ls rfl hk hd) h)
abbrev rmX7_toOf : Room := { frames := 1, cells := 0, slots := 0, locals := 21 }
def wX7_toOf (T_empires : Int32) (T_tos : Nat → Int32) (p0 : Int32) (K : Int32 → Unit → Prop) : Prop :=
  wX7_isEmpire T_empires p0 (fun r1 u1 => ((r1 = 0 → K (-1) ()) ∧ (¬ r1 = 0 → vp_in p0 6 ∧ (K (T_tos p0.toNatClampNeg) ()))))
set_option maxRecDepth 100000 in
set_option maxHeartbeats 4000000 in
theorem bX7_toOf {D : gD} {cB cI cJ cZ : ClassId} {E : gE} {A : Nat → Prop} {Q : State → Prop} {aT aT_tos aP aT_names aT_froms aT_coins aT_cushions aT_details aT_findsIn aT_springsIn : Nat} {T_seats T_strata T_empires T_finds : Int32} {T_tos : Nat → Int32} (C : Cx D (gT cB cI cJ cZ) E rmX7_toOf cX7_toOf 2 RX7 A) {p0 : Int32} {K : Int32 → Unit → Prop} (hret : ∀ (r : Int32) (u : Unit) (pc : Nat) (ls : List (Nat × Value)), K r u → decode cX7_toOf pc = .ok (.ireturn, 1) → Go D E A Q 2 0 0 [(aT, .inr (6, [.ref aP, .int T_seats, .int T_strata, .int T_empires, .int T_finds, .ref aT_names, .ref aT_froms, .ref aT_tos, .ref aT_coins, .ref aT_cushions, .ref aT_details, .ref aT_findsIn, .ref aT_springsIn])), (aT_tos, .inl (cI, 6, .inl T_tos))] ls pc [.int r]) (h : wX7_toOf T_empires T_tos p0 K) : Go D E A Q 2 0 0 [(aT, .inr (6, [.ref aP, .int T_seats, .int T_strata, .int T_empires, .int T_finds, .ref aT_names, .ref aT_froms, .ref aT_tos, .ref aT_coins, .ref aT_cushions, .ref aT_details, .ref aT_findsIn, .ref aT_springsIn])), (aT_tos, .inl (cI, 6, .inl T_tos))] [(0, .ref aT), (1, .int p0)] 0 [] := by
  unfold wX7_toOf at h
  refine q_aload_n C dX7_toOf_0 0 rfl ?_
  refine q_iload_n C dX7_toOf_1 1 rfl ?_
  refine q_callVI C (cX7_isEmpire_ok _ h) cf_X7_95 im_X7_isEmpire se_X7_isEmpire 6 rfl rfl rfl rfl ⟨Nat.le_of_ble_eq_true rfl, Nat.le_of_ble_eq_true rfl⟩ ⟨Nat.le_of_ble_eq_true rfl, Nat.le_of_ble_eq_true rfl⟩ 0 0 ⟨rfl, rfl⟩ [0] [1] (wr := [(aT_tos, .inl (cI, 6, .inl T_tos))]) rfl rfl rfl rfl (by decide) (fun u1 : Unit => [(aT, .inr (6, [.ref aP, .int T_seats, .int T_strata, .int T_empires, .int T_finds, .ref aT_names, .ref aT_froms, .ref aT_tos, .ref aT_coins, .ref aT_cushions, .ref aT_details, .ref aT_findsIn, .ref aT_springsIn])), (aT_tos, .inl (cI, 6, .inl T_tos))]) [1, 0] rfl (fun _ => rfl) (rest := []) rfl (Nat.le_of_ble_eq_true rfl) dX7_toOf_2 (fun r1 u1 h => ?_)
  obtain ⟨hb1, h⟩ := h
  refine q_if_eq C 17 dX7_toOf_5 (by decide) h (fun h => ?_) (fun h => ?_)
  · refine q_iconst C (v := (-1)) dX7_toOf_17 (by decide) ?_
    exact hret (-1) () _ _ h dX7_toOf_18
  · refine q_aload_n C dX7_toOf_8 0 rfl ?_
    refine q_get C inX7g rfl 7 (by decide) fl_X7_26 rfl 0 rfl rfl dX7_toOf_9 ?_
    refine q_iload_n C dX7_toOf_12 1 rfl ?_
    refine q_iald C 1 1 rfl rfl dX7_toOf_13 h (fun h => ?_)
    refine q_goto (tgt := 18) C dX7_toOf_14 (by decide) ?_
    exact hret (T_tos p0.toNatClampNeg) () _ _ h dX7_toOf_18
theorem cX7_toOf_ok (l : Launch) {D : gD} {cB cI cJ cZ : ClassId} {aT aT_tos aP aT_names aT_froms aT_coins aT_cushions aT_details aT_findsIn aT_springsIn : Nat} {T_seats T_strata T_empires T_finds : Int32} {T_tos : Nat → Int32} {p0 : Int32} {K : Int32 → Unit → Prop} (h : wX7_toOf T_empires T_tos p0 K) : CtI l D (gT cB cI cJ cZ) yX7_toOf cX7_toOf 2 .int rmX7_toOf [.ref aT, .int p0] [(aT, .inr (6, [.ref aP, .int T_seats, .int T_strata, .int T_empires, .int T_finds, .ref aT_names, .ref aT_froms, .ref aT_tos, .ref aT_coins, .ref aT_cushions, .ref aT_details, .ref aT_findsIn, .ref aT_springsIn])), (aT_tos, .inl (cI, 6, .inl T_tos))] (fun u : Unit => [(aT, .inr (6, [.ref aP, .int T_seats, .int T_strata, .int T_empires, .int T_finds, .ref aT_names, .ref aT_froms, .ref aT_tos, .ref aT_coins, .ref aT_cushions, .ref aT_details, .ref aT_findsIn, .ref aT_springsIn])), (aT_tos, .inl (cI, 6, .inl T_tos))]) K :=
  ct_startI (by decide +kernel) (Nat.le_of_ble_eq_true rfl) (fun E A Q hE C hret => bX7_toOf C (fun r u pc ls hk hd => hret r u pc ls rfl hk hd) h)
abbrev rmX4_wasSure : Room := { frames := 0, cells := 0, slots := 0, locals := 0 }
def wX4_wasSure (S_sureOnes : Nat → Int32) (p0 : Int32) (K : Int32 → Unit → Prop) : Prop :=
  ((p0 < 0 → K 0 ()) ∧ (¬ p0 < 0 → ((24 ≤ p0 → K 0 ()) ∧ (¬ 24 ≤ p0 → vp_in p0 24 ∧ (((S_sureOnes p0.toNatClampNeg = 0 → K 0 ()) ∧ (¬ S_sureOnes p0.toNatClampNeg = 0 → K 1 ())))))))
set_option maxRecDepth 100000 in
set_option maxHeartbeats 4000000 in
theorem bX4_wasSure {D : gD} {cB cI cJ cZ : ClassId} {E : gE} {A : Nat → Prop} {Q : State → Prop} {aS aS_sureOnes aT aS_stacks aS_heights aS_loose aS_propped aS_foundOnes : Nat} {S_days S_carriedOut S_dug S_slid S_foundCount S_sureCount S_propCount : Int32} {S_sureOnes : Nat → Int32} (C : Cx D (gT cB cI cJ cZ) E rmX4_wasSure cX4_wasSure 2 RX4 A) {p0 : Int32} {K : Int32 → Unit → Prop} (hret : ∀ (r : Int32) (u : Unit) (pc : Nat) (ls : List (Nat × Value)), (r = 0 ∨ r = 1) → K r u → decode cX4_wasSure pc = .ok (.ireturn, 1) → Go D E A Q 2 0 0 [(aS, .inr (3, [.ref aT, .ref aS_stacks, .ref aS_heights, .ref aS_loose, .ref aS_propped, .ref aS_foundOnes, .ref aS_sureOnes, .int S_days, .int S_carriedOut, .int S_dug, .int S_slid, .int S_foundCount, .int S_sureCount, .int S_propCount])), (aS_sureOnes, .inl (cZ, 24, .inl S_sureOnes))] ls pc [.int r]) (h : wX4_wasSure S_sureOnes p0 K) : Go D E A Q 2 0 0 [(aS, .inr (3, [.ref aT, .ref aS_stacks, .ref aS_heights, .ref aS_loose, .ref aS_propped, .ref aS_foundOnes, .ref aS_sureOnes, .int S_days, .int S_carriedOut, .int S_dug, .int S_slid, .int S_foundCount, .int S_sureCount, .int S_propCount])), (aS_sureOnes, .inl (cZ, 24, .inl S_sureOnes))] [(0, .ref aS), (1, .int p0)] 0 [] := by
  unfold wX4_wasSure at h
  refine q_iload_n C dX4_wasSure_0 1 rfl ?_
  refine q_if_lt C 23 dX4_wasSure_1 (by decide) h (fun h => ?_) (fun h => ?_)
  · refine q_iconst C (v := 0) dX4_wasSure_23 (by decide) ?_
    exact hret 0 () _ _ (Or.inl rfl) h dX4_wasSure_24
  · refine q_iload_n C dX4_wasSure_4 1 rfl ?_
    refine q_bipush C (v := 24) dX4_wasSure_5 (by decide) ?_
    refine q_icmp_ge C 23 dX4_wasSure_7 (by decide) h (fun h => ?_) (fun h => ?_)
    · refine q_iconst C (v := 0) dX4_wasSure_23 (by decide) ?_
      exact hret 0 () _ _ (Or.inl rfl) h dX4_wasSure_24
    · refine q_aload_n C dX4_wasSure_10 0 rfl ?_
      refine q_get C inX4g rfl 6 (by decide) fl_X4_28 rfl 0 rfl rfl dX4_wasSure_11 ?_
      refine q_iload_n C dX4_wasSure_14 1 rfl ?_
      refine q_zald C 1 3 rfl rfl dX4_wasSure_15 h (fun h => ?_)
      refine q_if_eq C 23 dX4_wasSure_16 (by decide) h (fun h => ?_) (fun h => ?_)
      · refine q_iconst C (v := 0) dX4_wasSure_23 (by decide) ?_
        exact hret 0 () _ _ (Or.inl rfl) h dX4_wasSure_24
      · refine q_iconst C (v := 1) dX4_wasSure_19 (by decide) ?_
        refine q_goto (tgt := 24) C dX4_wasSure_20 (by decide) ?_
        exact hret 1 () _ _ (Or.inr rfl) h dX4_wasSure_24
theorem cX4_wasSure_ok (l : Launch) {D : gD} {cB cI cJ cZ : ClassId} {aS aS_sureOnes aT aS_stacks aS_heights aS_loose aS_propped aS_foundOnes : Nat} {S_days S_carriedOut S_dug S_slid S_foundCount S_sureCount S_propCount : Int32} {S_sureOnes : Nat → Int32} {p0 : Int32} {K : Int32 → Unit → Prop} (h : wX4_wasSure S_sureOnes p0 K) : CtI l D (gT cB cI cJ cZ) yX4_wasSure cX4_wasSure 2 .boolean rmX4_wasSure [.ref aS, .int p0] [(aS, .inr (3, [.ref aT, .ref aS_stacks, .ref aS_heights, .ref aS_loose, .ref aS_propped, .ref aS_foundOnes, .ref aS_sureOnes, .int S_days, .int S_carriedOut, .int S_dug, .int S_slid, .int S_foundCount, .int S_sureCount, .int S_propCount])), (aS_sureOnes, .inl (cZ, 24, .inl S_sureOnes))] (fun u : Unit => [(aS, .inr (3, [.ref aT, .ref aS_stacks, .ref aS_heights, .ref aS_loose, .ref aS_propped, .ref aS_foundOnes, .ref aS_sureOnes, .int S_days, .int S_carriedOut, .int S_dug, .int S_slid, .int S_foundCount, .int S_sureCount, .int S_propCount])), (aS_sureOnes, .inl (cZ, 24, .inl S_sureOnes))]) (fun r u => (r = 0 ∨ r = 1) ∧ K r u) :=
  ct_startI (by decide +kernel) (Nat.le_of_ble_eq_true rfl) (fun E A Q hE C hret => bX4_wasSure C (fun r u pc ls hb hk hd => hret r u pc ls (nar_bit hb) ⟨hb, hk⟩ hd) h)
abbrev rmX7_isFind : Room := { frames := 0, cells := 0, slots := 0, locals := 0 }
def wX7_isFind (T_finds : Int32) (p0 : Int32) (K : Int32 → Unit → Prop) : Prop :=
  ((p0 < 0 → K 0 ()) ∧ (¬ p0 < 0 → ((T_finds ≤ p0 → K 0 ()) ∧ (¬ T_finds ≤ p0 → K 1 ()))))
set_option maxRecDepth 100000 in
set_option maxHeartbeats 4000000 in
theorem bX7_isFind {D : gD} {cB cI cJ cZ : ClassId} {E : gE} {A : Nat → Prop} {Q : State → Prop} {aT aP aT_names aT_froms aT_tos aT_coins aT_cushions aT_details aT_findsIn aT_springsIn : Nat} {T_seats T_strata T_empires T_finds : Int32} (C : Cx D (gT cB cI cJ cZ) E rmX7_isFind cX7_isFind 2 RX7 A) {p0 : Int32} {K : Int32 → Unit → Prop} (hret : ∀ (r : Int32) (u : Unit) (pc : Nat) (ls : List (Nat × Value)), (r = 0 ∨ r = 1) → K r u → decode cX7_isFind pc = .ok (.ireturn, 1) → Go D E A Q 2 0 0 [(aT, .inr (6, [.ref aP, .int T_seats, .int T_strata, .int T_empires, .int T_finds, .ref aT_names, .ref aT_froms, .ref aT_tos, .ref aT_coins, .ref aT_cushions, .ref aT_details, .ref aT_findsIn, .ref aT_springsIn]))] ls pc [.int r]) (h : wX7_isFind T_finds p0 K) : Go D E A Q 2 0 0 [(aT, .inr (6, [.ref aP, .int T_seats, .int T_strata, .int T_empires, .int T_finds, .ref aT_names, .ref aT_froms, .ref aT_tos, .ref aT_coins, .ref aT_cushions, .ref aT_details, .ref aT_findsIn, .ref aT_springsIn]))] [(0, .ref aT), (1, .int p0)] 0 [] := by
  unfold wX7_isFind at h
  refine q_iload_n C dX7_isFind_0 1 rfl ?_
  refine q_if_lt C 16 dX7_isFind_1 (by decide) h (fun h => ?_) (fun h => ?_)
  · refine q_iconst C (v := 0) dX7_isFind_16 (by decide) ?_
    exact hret 0 () _ _ (Or.inl rfl) h dX7_isFind_17
  · refine q_iload_n C dX7_isFind_4 1 rfl ?_
    refine q_aload_n C dX7_isFind_5 0 rfl ?_
    refine q_get C inX7g rfl 4 (by decide) fl_X7_56 rfl 0 rfl rfl dX7_isFind_6 ?_
    refine q_icmp_ge C 16 dX7_isFind_9 (by decide) h (fun h => ?_) (fun h => ?_)
    · refine q_iconst C (v := 0) dX7_isFind_16 (by decide) ?_
      exact hret 0 () _ _ (Or.inl rfl) h dX7_isFind_17
    · refine q_iconst C (v := 1) dX7_isFind_12 (by decide) ?_
      refine q_goto (tgt := 17) C dX7_isFind_13 (by decide) ?_
      exact hret 1 () _ _ (Or.inr rfl) h dX7_isFind_17
theorem cX7_isFind_ok (l : Launch) {D : gD} {cB cI cJ cZ : ClassId} {aT aP aT_names aT_froms aT_tos aT_coins aT_cushions aT_details aT_findsIn aT_springsIn : Nat} {T_seats T_strata T_empires T_finds : Int32} {p0 : Int32} {K : Int32 → Unit → Prop} (h : wX7_isFind T_finds p0 K) : CtI l D (gT cB cI cJ cZ) yX7_isFind cX7_isFind 2 .boolean rmX7_isFind [.ref aT, .int p0] [(aT, .inr (6, [.ref aP, .int T_seats, .int T_strata, .int T_empires, .int T_finds, .ref aT_names, .ref aT_froms, .ref aT_tos, .ref aT_coins, .ref aT_cushions, .ref aT_details, .ref aT_findsIn, .ref aT_springsIn]))] (fun u : Unit => [(aT, .inr (6, [.ref aP, .int T_seats, .int T_strata, .int T_empires, .int T_finds, .ref aT_names, .ref aT_froms, .ref aT_tos, .ref aT_coins, .ref aT_cushions, .ref aT_details, .ref aT_findsIn, .ref aT_springsIn]))]) (fun r u => (r = 0 ∨ r = 1) ∧ K r u) :=
  ct_startI (by decide +kernel) (Nat.le_of_ble_eq_true rfl) (fun E A Q hE C hret => bX7_isFind C (fun r u pc ls hb hk hd => hret r u pc ls (nar_bit hb) ⟨hb, hk⟩ hd) h)
abbrev rmX7_crumbsEmpire : Room := { frames := 1, cells := 0, slots := 0, locals := 21 }
def wX7_crumbsEmpire (T_finds : Int32) (T_coins : Nat → Int32) (T_details : Nat → Int32) (p0 : Int32) (K : Int32 → Unit → Prop) : Prop :=
  wX7_isFind T_finds p0 (fun r1 u1 => ((r1 = 0 → K (-1) ()) ∧ (¬ r1 = 0 → vp_in p0 24 ∧ (((¬ T_coins p0.toNatClampNeg = 0 → K (-1) ()) ∧ (T_coins p0.toNatClampNeg = 0 → vp_in p0 24 ∧ (K (T_details p0.toNatClampNeg) ())))))))
set_option maxRecDepth 100000 in
set_option maxHeartbeats 4000000 in
theorem bX7_crumbsEmpire {D : gD} {cB cI cJ cZ : ClassId} {E : gE} {A : Nat → Prop} {Q : State → Prop} {aT aT_coins aT_details aP aT_names aT_froms aT_tos aT_cushions aT_findsIn aT_springsIn : Nat} {T_seats T_strata T_empires T_finds : Int32} {T_coins T_details : Nat → Int32} (C : Cx D (gT cB cI cJ cZ) E rmX7_crumbsEmpire cX7_crumbsEmpire 2 RX7 A) {p0 : Int32} {K : Int32 → Unit → Prop} (hret : ∀ (r : Int32) (u : Unit) (pc : Nat) (ls : List (Nat × Value)), K r u → decode cX7_crumbsEmpire pc = .ok (.ireturn, 1) → Go D E A Q 2 0 0 [(aT, .inr (6, [.ref aP, .int T_seats, .int T_strata, .int T_empires, .int T_finds, .ref aT_names, .ref aT_froms, .ref aT_tos, .ref aT_coins, .ref aT_cushions, .ref aT_details, .ref aT_findsIn, .ref aT_springsIn])), (aT_coins, .inl (cZ, 24, .inl T_coins)), (aT_details, .inl (cI, 24, .inl T_details))] ls pc [.int r]) (h : wX7_crumbsEmpire T_finds T_coins T_details p0 K) : Go D E A Q 2 0 0 [(aT, .inr (6, [.ref aP, .int T_seats, .int T_strata, .int T_empires, .int T_finds, .ref aT_names, .ref aT_froms, .ref aT_tos, .ref aT_coins, .ref aT_cushions, .ref aT_details, .ref aT_findsIn, .ref aT_springsIn])), (aT_coins, .inl (cZ, 24, .inl T_coins)), (aT_details, .inl (cI, 24, .inl T_details))] [(0, .ref aT), (1, .int p0)] 0 [] := by
  unfold wX7_crumbsEmpire at h
  refine q_aload_n C dX7_crumbsEmpire_0 0 rfl ?_
  refine q_iload_n C dX7_crumbsEmpire_1 1 rfl ?_
  refine q_callVI C (cX7_isFind_ok _ h) cf_X7_82 im_X7_isFind se_X7_isFind 6 rfl rfl rfl rfl ⟨Nat.le_of_ble_eq_true rfl, Nat.le_of_ble_eq_true rfl⟩ ⟨Nat.le_of_ble_eq_true rfl, Nat.le_of_ble_eq_true rfl⟩ 0 0 ⟨rfl, rfl⟩ [0] [1, 2] (wr := [(aT_coins, .inl (cZ, 24, .inl T_coins)), (aT_details, .inl (cI, 24, .inl T_details))]) rfl rfl rfl rfl (by decide) (fun u1 : Unit => [(aT, .inr (6, [.ref aP, .int T_seats, .int T_strata, .int T_empires, .int T_finds, .ref aT_names, .ref aT_froms, .ref aT_tos, .ref aT_coins, .ref aT_cushions, .ref aT_details, .ref aT_findsIn, .ref aT_springsIn])), (aT_coins, .inl (cZ, 24, .inl T_coins)), (aT_details, .inl (cI, 24, .inl T_details))]) [2, 0, 1] rfl (fun _ => rfl) (rest := []) rfl (Nat.le_of_ble_eq_true rfl) dX7_crumbsEmpire_2 (fun r1 u1 h => ?_)
  obtain ⟨hb1, h⟩ := h
  refine q_if_eq C 26 dX7_crumbsEmpire_5 (by decide) h (fun h => ?_) (fun h => ?_)
  · refine q_iconst C (v := (-1)) dX7_crumbsEmpire_26 (by decide) ?_
    exact hret (-1) () _ _ h dX7_crumbsEmpire_27
  · refine q_aload_n C dX7_crumbsEmpire_8 0 rfl ?_
    refine q_get C inX7g rfl 8 (by decide) fl_X7_29 rfl 0 rfl rfl dX7_crumbsEmpire_9 ?_
    refine q_iload_n C dX7_crumbsEmpire_12 1 rfl ?_
    refine q_zald C 1 3 rfl rfl dX7_crumbsEmpire_13 h (fun h => ?_)
    refine q_if_ne C 26 dX7_crumbsEmpire_14 (by decide) h (fun h => ?_) (fun h => ?_)
    · refine q_iconst C (v := (-1)) dX7_crumbsEmpire_26 (by decide) ?_
      exact hret (-1) () _ _ h dX7_crumbsEmpire_27
    · refine q_aload_n C dX7_crumbsEmpire_17 0 rfl ?_
      refine q_get C inX7g rfl 10 (by decide) fl_X7_36 rfl 0 rfl rfl dX7_crumbsEmpire_18 ?_
      refine q_iload_n C dX7_crumbsEmpire_21 1 rfl ?_
      refine q_iald C 2 1 rfl rfl dX7_crumbsEmpire_22 h (fun h => ?_)
      refine q_goto (tgt := 27) C dX7_crumbsEmpire_23 (by decide) ?_
      exact hret (T_details p0.toNatClampNeg) () _ _ h dX7_crumbsEmpire_27
theorem cX7_crumbsEmpire_ok (l : Launch) {D : gD} {cB cI cJ cZ : ClassId} {aT aT_coins aT_details aP aT_names aT_froms aT_tos aT_cushions aT_findsIn aT_springsIn : Nat} {T_seats T_strata T_empires T_finds : Int32} {T_coins T_details : Nat → Int32} {p0 : Int32} {K : Int32 → Unit → Prop} (h : wX7_crumbsEmpire T_finds T_coins T_details p0 K) : CtI l D (gT cB cI cJ cZ) yX7_crumbsEmpire cX7_crumbsEmpire 2 .int rmX7_crumbsEmpire [.ref aT, .int p0] [(aT, .inr (6, [.ref aP, .int T_seats, .int T_strata, .int T_empires, .int T_finds, .ref aT_names, .ref aT_froms, .ref aT_tos, .ref aT_coins, .ref aT_cushions, .ref aT_details, .ref aT_findsIn, .ref aT_springsIn])), (aT_coins, .inl (cZ, 24, .inl T_coins)), (aT_details, .inl (cI, 24, .inl T_details))] (fun u : Unit => [(aT, .inr (6, [.ref aP, .int T_seats, .int T_strata, .int T_empires, .int T_finds, .ref aT_names, .ref aT_froms, .ref aT_tos, .ref aT_coins, .ref aT_cushions, .ref aT_details, .ref aT_findsIn, .ref aT_springsIn])), (aT_coins, .inl (cZ, 24, .inl T_coins)), (aT_details, .inl (cI, 24, .inl T_details))]) K :=
  ct_startI (by decide +kernel) (Nat.le_of_ble_eq_true rfl) (fun E A Q hE C hret => bX7_crumbsEmpire C (fun r u pc ls hk hd => hret r u pc ls rfl hk hd) h)
abbrev rmX4_sawEmpireAnywhere : Room := { frames := 2, cells := 0, slots := 0, locals := 42 }
def wX4_sawEmpireAnywhere_35 (K : Int32 → Unit → Prop) (KL2 : Int32 → Int32 → Prop) (T_finds : Int32) (T_coins : Nat → Int32) (T_details : Nat → Int32) (S_sureOnes : Nat → Int32) (x1 : Int32) (x2 : Int32) : Prop :=
  KL2 x1 (x2 + 1)
set_option maxRecDepth 100000 in
set_option maxHeartbeats 4000000 in
theorem bX4_sawEmpireAnywhere_35 {D : gD} {cB cI cJ cZ : ClassId} {E : gE} {A : Nat → Prop} {Q : State → Prop} {aS aT aT_coins aT_details aS_sureOnes aS_stacks aS_heights aS_loose aS_propped aS_foundOnes aP aT_names aT_froms aT_tos aT_cushions aT_findsIn aT_springsIn : Nat} {S_days S_carriedOut S_dug S_slid S_foundCount S_sureCount S_propCount T_seats T_strata T_empires T_finds : Int32} {T_coins T_details S_sureOnes : Nat → Int32} (C : Cx D (gT cB cI cJ cZ) E rmX4_sawEmpireAnywhere cX4_sawEmpireAnywhere 3 RX4 A) {K : Int32 → Unit → Prop} (hret : ∀ (r : Int32) (u : Unit) (pc : Nat) (ls : List (Nat × Value)), (r = 0 ∨ r = 1) → K r u → decode cX4_sawEmpireAnywhere pc = .ok (.ireturn, 1) → Go D E A Q 3 0 0 [(aS, .inr (3, [.ref aT, .ref aS_stacks, .ref aS_heights, .ref aS_loose, .ref aS_propped, .ref aS_foundOnes, .ref aS_sureOnes, .int S_days, .int S_carriedOut, .int S_dug, .int S_slid, .int S_foundCount, .int S_sureCount, .int S_propCount])), (aT, .inr (6, [.ref aP, .int T_seats, .int T_strata, .int T_empires, .int T_finds, .ref aT_names, .ref aT_froms, .ref aT_tos, .ref aT_coins, .ref aT_cushions, .ref aT_details, .ref aT_findsIn, .ref aT_springsIn])), (aT_coins, .inl (cZ, 24, .inl T_coins)), (aT_details, .inl (cI, 24, .inl T_details)), (aS_sureOnes, .inl (cZ, 24, .inl S_sureOnes))] ls pc [.int r]) {KL2 : Int32 → Int32 → Prop} (hKL2 : ∀ (x1 : Int32) (x2 : Int32), KL2 x1 x2 → Go D E A Q 3 0 0 [(aS, .inr (3, [.ref aT, .ref aS_stacks, .ref aS_heights, .ref aS_loose, .ref aS_propped, .ref aS_foundOnes, .ref aS_sureOnes, .int S_days, .int S_carriedOut, .int S_dug, .int S_slid, .int S_foundCount, .int S_sureCount, .int S_propCount])), (aT, .inr (6, [.ref aP, .int T_seats, .int T_strata, .int T_empires, .int T_finds, .ref aT_names, .ref aT_froms, .ref aT_tos, .ref aT_coins, .ref aT_cushions, .ref aT_details, .ref aT_findsIn, .ref aT_springsIn])), (aT_coins, .inl (cZ, 24, .inl T_coins)), (aT_details, .inl (cI, 24, .inl T_details)), (aS_sureOnes, .inl (cZ, 24, .inl S_sureOnes))] [(0, .ref aS), (1, .int x1), (2, .int x2)] 2 []) : ∀ (x1 : Int32) (x2 : Int32), wX4_sawEmpireAnywhere_35 K KL2 T_finds T_coins T_details S_sureOnes x1 x2 → Go D E A Q 3 0 0 [(aS, .inr (3, [.ref aT, .ref aS_stacks, .ref aS_heights, .ref aS_loose, .ref aS_propped, .ref aS_foundOnes, .ref aS_sureOnes, .int S_days, .int S_carriedOut, .int S_dug, .int S_slid, .int S_foundCount, .int S_sureCount, .int S_propCount])), (aT, .inr (6, [.ref aP, .int T_seats, .int T_strata, .int T_empires, .int T_finds, .ref aT_names, .ref aT_froms, .ref aT_tos, .ref aT_coins, .ref aT_cushions, .ref aT_details, .ref aT_findsIn, .ref aT_springsIn])), (aT_coins, .inl (cZ, 24, .inl T_coins)), (aT_details, .inl (cI, 24, .inl T_details)), (aS_sureOnes, .inl (cZ, 24, .inl S_sureOnes))] [(0, .ref aS), (1, .int x1), (2, .int x2)] 35 [] := by
  intro x1 x2 h
  unfold wX4_sawEmpireAnywhere_35 at h
  refine q_iinc C (v := x2 + 1) [(2, .int (x2 + 1)), (0, .ref aS), (1, .int x1)] dX4_sawEmpireAnywhere_35 2 rfl rfl (by decide) rfl ?_
  refine q_goto (tgt := 2) C dX4_sawEmpireAnywhere_38 (by decide) ?_
  refine q_ls [(0, .ref aS), (1, .int x1), (2, .int (x2 + 1))] [1, 2, 0] rfl ?_
  exact hKL2 _ _ h
def wX4_sawEmpireAnywhere_2 (K : Int32 → Unit → Prop) (T_finds : Int32) (T_coins : Nat → Int32) (T_details : Nat → Int32) (S_sureOnes : Nat → Int32) : Nat → Int32 → Int32 → Prop
  | 0, _, _ => False
  | n + 1, x1, x2 =>
  ((T_finds ≤ x2 → K 0 ()) ∧ (¬ T_finds ≤ x2 → wX4_wasSure S_sureOnes x2 (fun r1 u1 => ((r1 = 0 → wX4_sawEmpireAnywhere_35 K (wX4_sawEmpireAnywhere_2 K T_finds T_coins T_details S_sureOnes n) T_finds T_coins T_details S_sureOnes x1 x2) ∧ (¬ r1 = 0 → wX7_crumbsEmpire T_finds T_coins T_details x2 (fun r2 u2 => ((¬ r2 = x1 → wX4_sawEmpireAnywhere_35 K (wX4_sawEmpireAnywhere_2 K T_finds T_coins T_details S_sureOnes n) T_finds T_coins T_details S_sureOnes x1 x2) ∧ (r2 = x1 → K 1 ()))))))))
set_option maxRecDepth 100000 in
set_option maxHeartbeats 4000000 in
theorem bX4_sawEmpireAnywhere_2 {D : gD} {cB cI cJ cZ : ClassId} {E : gE} {A : Nat → Prop} {Q : State → Prop} {aS aT aT_coins aT_details aS_sureOnes aS_stacks aS_heights aS_loose aS_propped aS_foundOnes aP aT_names aT_froms aT_tos aT_cushions aT_findsIn aT_springsIn : Nat} {S_days S_carriedOut S_dug S_slid S_foundCount S_sureCount S_propCount T_seats T_strata T_empires T_finds : Int32} {T_coins T_details S_sureOnes : Nat → Int32} (C : Cx D (gT cB cI cJ cZ) E rmX4_sawEmpireAnywhere cX4_sawEmpireAnywhere 3 RX4 A) {K : Int32 → Unit → Prop} (hret : ∀ (r : Int32) (u : Unit) (pc : Nat) (ls : List (Nat × Value)), (r = 0 ∨ r = 1) → K r u → decode cX4_sawEmpireAnywhere pc = .ok (.ireturn, 1) → Go D E A Q 3 0 0 [(aS, .inr (3, [.ref aT, .ref aS_stacks, .ref aS_heights, .ref aS_loose, .ref aS_propped, .ref aS_foundOnes, .ref aS_sureOnes, .int S_days, .int S_carriedOut, .int S_dug, .int S_slid, .int S_foundCount, .int S_sureCount, .int S_propCount])), (aT, .inr (6, [.ref aP, .int T_seats, .int T_strata, .int T_empires, .int T_finds, .ref aT_names, .ref aT_froms, .ref aT_tos, .ref aT_coins, .ref aT_cushions, .ref aT_details, .ref aT_findsIn, .ref aT_springsIn])), (aT_coins, .inl (cZ, 24, .inl T_coins)), (aT_details, .inl (cI, 24, .inl T_details)), (aS_sureOnes, .inl (cZ, 24, .inl S_sureOnes))] ls pc [.int r]) : ∀ (n : Nat) (x1 : Int32) (x2 : Int32), wX4_sawEmpireAnywhere_2 K T_finds T_coins T_details S_sureOnes n x1 x2 → Go D E A Q 3 0 0 [(aS, .inr (3, [.ref aT, .ref aS_stacks, .ref aS_heights, .ref aS_loose, .ref aS_propped, .ref aS_foundOnes, .ref aS_sureOnes, .int S_days, .int S_carriedOut, .int S_dug, .int S_slid, .int S_foundCount, .int S_sureCount, .int S_propCount])), (aT, .inr (6, [.ref aP, .int T_seats, .int T_strata, .int T_empires, .int T_finds, .ref aT_names, .ref aT_froms, .ref aT_tos, .ref aT_coins, .ref aT_cushions, .ref aT_details, .ref aT_findsIn, .ref aT_springsIn])), (aT_coins, .inl (cZ, 24, .inl T_coins)), (aT_details, .inl (cI, 24, .inl T_details)), (aS_sureOnes, .inl (cZ, 24, .inl S_sureOnes))] [(0, .ref aS), (1, .int x1), (2, .int x2)] 2 [] := by
  intro n
  induction n with
  | zero =>
    intro x1 x2 h
    exact h.elim
  | succ n ih =>
    intro x1 x2 h
    unfold wX4_sawEmpireAnywhere_2 at h
    refine q_iload_n C dX4_sawEmpireAnywhere_2 2 rfl ?_
    refine q_aload_n C dX4_sawEmpireAnywhere_3 0 rfl ?_
    refine q_get C inX4g rfl 0 (by decide) fl_X4_31 rfl 0 rfl rfl dX4_sawEmpireAnywhere_4 ?_
    refine q_get C inX7g rfl 4 (by decide) fl_X4_80 rfl 1 rfl rfl dX4_sawEmpireAnywhere_7 ?_
    refine q_icmp_ge C 41 dX4_sawEmpireAnywhere_10 (by decide) h (fun h => ?_) (fun h => ?_)
    · refine q_iconst C (v := 0) dX4_sawEmpireAnywhere_41 (by decide) ?_
      exact hret 0 () _ _ (Or.inl rfl) h dX4_sawEmpireAnywhere_42
    · refine q_aload_n C dX4_sawEmpireAnywhere_13 0 rfl ?_
      refine q_iload_n C dX4_sawEmpireAnywhere_14 2 rfl ?_
      refine q_callVI C (cX4_wasSure_ok _ h) cf_X4_83 im_X4_wasSure se_X4_wasSure 3 rfl rfl rfl rfl ⟨Nat.le_of_ble_eq_true rfl, Nat.le_of_ble_eq_true rfl⟩ ⟨Nat.le_of_ble_eq_true rfl, Nat.le_of_ble_eq_true rfl⟩ 0 0 ⟨rfl, rfl⟩ [0, 4] [1, 2, 3] (wr := [(aT, .inr (6, [.ref aP, .int T_seats, .int T_strata, .int T_empires, .int T_finds, .ref aT_names, .ref aT_froms, .ref aT_tos, .ref aT_coins, .ref aT_cushions, .ref aT_details, .ref aT_findsIn, .ref aT_springsIn])), (aT_coins, .inl (cZ, 24, .inl T_coins)), (aT_details, .inl (cI, 24, .inl T_details))]) rfl rfl rfl rfl (by decide) (fun u1 : Unit => [(aS, .inr (3, [.ref aT, .ref aS_stacks, .ref aS_heights, .ref aS_loose, .ref aS_propped, .ref aS_foundOnes, .ref aS_sureOnes, .int S_days, .int S_carriedOut, .int S_dug, .int S_slid, .int S_foundCount, .int S_sureCount, .int S_propCount])), (aT, .inr (6, [.ref aP, .int T_seats, .int T_strata, .int T_empires, .int T_finds, .ref aT_names, .ref aT_froms, .ref aT_tos, .ref aT_coins, .ref aT_cushions, .ref aT_details, .ref aT_findsIn, .ref aT_springsIn])), (aT_coins, .inl (cZ, 24, .inl T_coins)), (aT_details, .inl (cI, 24, .inl T_details)), (aS_sureOnes, .inl (cZ, 24, .inl S_sureOnes))]) [3, 0, 1, 2, 4] rfl (fun _ => rfl) (rest := []) rfl (Nat.le_of_ble_eq_true rfl) dX4_sawEmpireAnywhere_15 (fun r1 u1 h => ?_)
      obtain ⟨hb1, h⟩ := h
      refine q_if_eq C 35 dX4_sawEmpireAnywhere_18 (by decide) h (fun h => ?_) (fun h => ?_)
      · exact bX4_sawEmpireAnywhere_35 C (KL2 := (wX4_sawEmpireAnywhere_2 K T_finds T_coins T_details S_sureOnes n)) hret ih _ _ h
      · refine q_aload_n C dX4_sawEmpireAnywhere_21 0 rfl ?_
        refine q_get C inX4g rfl 0 (by decide) fl_X4_31 rfl 0 rfl rfl dX4_sawEmpireAnywhere_22 ?_
        refine q_iload_n C dX4_sawEmpireAnywhere_25 2 rfl ?_
        refine q_callVI C (cX7_crumbsEmpire_ok _ h) cf_X4_98 im_X7_crumbsEmpire se_X7_crumbsEmpire 6 rfl rfl rfl rfl ⟨Nat.le_of_ble_eq_true rfl, Nat.le_of_ble_eq_true rfl⟩ ⟨Nat.le_of_ble_eq_true rfl, Nat.le_of_ble_eq_true rfl⟩ 0 0 ⟨rfl, rfl⟩ [1, 2, 3] [0, 4] (wr := [(aS, .inr (3, [.ref aT, .ref aS_stacks, .ref aS_heights, .ref aS_loose, .ref aS_propped, .ref aS_foundOnes, .ref aS_sureOnes, .int S_days, .int S_carriedOut, .int S_dug, .int S_slid, .int S_foundCount, .int S_sureCount, .int S_propCount])), (aS_sureOnes, .inl (cZ, 24, .inl S_sureOnes))]) rfl rfl rfl rfl (by decide) (fun u2 : Unit => [(aS, .inr (3, [.ref aT, .ref aS_stacks, .ref aS_heights, .ref aS_loose, .ref aS_propped, .ref aS_foundOnes, .ref aS_sureOnes, .int S_days, .int S_carriedOut, .int S_dug, .int S_slid, .int S_foundCount, .int S_sureCount, .int S_propCount])), (aT, .inr (6, [.ref aP, .int T_seats, .int T_strata, .int T_empires, .int T_finds, .ref aT_names, .ref aT_froms, .ref aT_tos, .ref aT_coins, .ref aT_cushions, .ref aT_details, .ref aT_findsIn, .ref aT_springsIn])), (aT_coins, .inl (cZ, 24, .inl T_coins)), (aT_details, .inl (cI, 24, .inl T_details)), (aS_sureOnes, .inl (cZ, 24, .inl S_sureOnes))]) [0, 2, 3, 4, 1] rfl (fun _ => rfl) (rest := []) rfl (Nat.le_of_ble_eq_true rfl) dX4_sawEmpireAnywhere_26 (fun r2 u2 h => ?_)
        refine q_iload_n C dX4_sawEmpireAnywhere_29 1 rfl ?_
        refine q_icmp_ne C 35 dX4_sawEmpireAnywhere_30 (by decide) h (fun h => ?_) (fun h => ?_)
        · exact bX4_sawEmpireAnywhere_35 C (KL2 := (wX4_sawEmpireAnywhere_2 K T_finds T_coins T_details S_sureOnes n)) hret ih _ _ h
        · refine q_iconst C (v := 1) dX4_sawEmpireAnywhere_33 (by decide) ?_
          exact hret 1 () _ _ (Or.inr rfl) h dX4_sawEmpireAnywhere_34
def wX4_sawEmpireAnywhere (T_finds : Int32) (T_coins : Nat → Int32) (T_details : Nat → Int32) (S_sureOnes : Nat → Int32) (p0 : Int32) (K : Int32 → Unit → Prop) : Prop :=
  ∃ k9 : Nat, wX4_sawEmpireAnywhere_2 K T_finds T_coins T_details S_sureOnes k9 p0 0
set_option maxRecDepth 100000 in
set_option maxHeartbeats 4000000 in
theorem bX4_sawEmpireAnywhere {D : gD} {cB cI cJ cZ : ClassId} {E : gE} {A : Nat → Prop} {Q : State → Prop} {aS aT aT_coins aT_details aS_sureOnes aS_stacks aS_heights aS_loose aS_propped aS_foundOnes aP aT_names aT_froms aT_tos aT_cushions aT_findsIn aT_springsIn : Nat} {S_days S_carriedOut S_dug S_slid S_foundCount S_sureCount S_propCount T_seats T_strata T_empires T_finds : Int32} {T_coins T_details S_sureOnes : Nat → Int32} (C : Cx D (gT cB cI cJ cZ) E rmX4_sawEmpireAnywhere cX4_sawEmpireAnywhere 3 RX4 A) {p0 : Int32} {K : Int32 → Unit → Prop} (hret : ∀ (r : Int32) (u : Unit) (pc : Nat) (ls : List (Nat × Value)), (r = 0 ∨ r = 1) → K r u → decode cX4_sawEmpireAnywhere pc = .ok (.ireturn, 1) → Go D E A Q 3 0 0 [(aS, .inr (3, [.ref aT, .ref aS_stacks, .ref aS_heights, .ref aS_loose, .ref aS_propped, .ref aS_foundOnes, .ref aS_sureOnes, .int S_days, .int S_carriedOut, .int S_dug, .int S_slid, .int S_foundCount, .int S_sureCount, .int S_propCount])), (aT, .inr (6, [.ref aP, .int T_seats, .int T_strata, .int T_empires, .int T_finds, .ref aT_names, .ref aT_froms, .ref aT_tos, .ref aT_coins, .ref aT_cushions, .ref aT_details, .ref aT_findsIn, .ref aT_springsIn])), (aT_coins, .inl (cZ, 24, .inl T_coins)), (aT_details, .inl (cI, 24, .inl T_details)), (aS_sureOnes, .inl (cZ, 24, .inl S_sureOnes))] ls pc [.int r]) (h : wX4_sawEmpireAnywhere T_finds T_coins T_details S_sureOnes p0 K) : Go D E A Q 3 0 0 [(aS, .inr (3, [.ref aT, .ref aS_stacks, .ref aS_heights, .ref aS_loose, .ref aS_propped, .ref aS_foundOnes, .ref aS_sureOnes, .int S_days, .int S_carriedOut, .int S_dug, .int S_slid, .int S_foundCount, .int S_sureCount, .int S_propCount])), (aT, .inr (6, [.ref aP, .int T_seats, .int T_strata, .int T_empires, .int T_finds, .ref aT_names, .ref aT_froms, .ref aT_tos, .ref aT_coins, .ref aT_cushions, .ref aT_details, .ref aT_findsIn, .ref aT_springsIn])), (aT_coins, .inl (cZ, 24, .inl T_coins)), (aT_details, .inl (cI, 24, .inl T_details)), (aS_sureOnes, .inl (cZ, 24, .inl S_sureOnes))] [(0, .ref aS), (1, .int p0)] 0 [] := by
  unfold wX4_sawEmpireAnywhere at h
  refine q_iconst C (v := 0) dX4_sawEmpireAnywhere_0 (by decide) ?_
  refine q_istore_n C [(2, .int 0), (0, .ref aS), (1, .int p0)] dX4_sawEmpireAnywhere_1 (by decide) rfl ?_
  refine q_ls [(0, .ref aS), (1, .int p0), (2, .int 0)] [1, 2, 0] rfl ?_
  obtain ⟨n1, h⟩ := h
  exact bX4_sawEmpireAnywhere_2 C  hret  n1 _ _ h
theorem cX4_sawEmpireAnywhere_ok (l : Launch) {D : gD} {cB cI cJ cZ : ClassId} {aS aT aT_coins aT_details aS_sureOnes aS_stacks aS_heights aS_loose aS_propped aS_foundOnes aP aT_names aT_froms aT_tos aT_cushions aT_findsIn aT_springsIn : Nat} {S_days S_carriedOut S_dug S_slid S_foundCount S_sureCount S_propCount T_seats T_strata T_empires T_finds : Int32} {T_coins T_details S_sureOnes : Nat → Int32} {p0 : Int32} {K : Int32 → Unit → Prop} (h : wX4_sawEmpireAnywhere T_finds T_coins T_details S_sureOnes p0 K) : CtI l D (gT cB cI cJ cZ) yX4_sawEmpireAnywhere cX4_sawEmpireAnywhere 3 .boolean rmX4_sawEmpireAnywhere [.ref aS, .int p0] [(aS, .inr (3, [.ref aT, .ref aS_stacks, .ref aS_heights, .ref aS_loose, .ref aS_propped, .ref aS_foundOnes, .ref aS_sureOnes, .int S_days, .int S_carriedOut, .int S_dug, .int S_slid, .int S_foundCount, .int S_sureCount, .int S_propCount])), (aT, .inr (6, [.ref aP, .int T_seats, .int T_strata, .int T_empires, .int T_finds, .ref aT_names, .ref aT_froms, .ref aT_tos, .ref aT_coins, .ref aT_cushions, .ref aT_details, .ref aT_findsIn, .ref aT_springsIn])), (aT_coins, .inl (cZ, 24, .inl T_coins)), (aT_details, .inl (cI, 24, .inl T_details)), (aS_sureOnes, .inl (cZ, 24, .inl S_sureOnes))] (fun u : Unit => [(aS, .inr (3, [.ref aT, .ref aS_stacks, .ref aS_heights, .ref aS_loose, .ref aS_propped, .ref aS_foundOnes, .ref aS_sureOnes, .int S_days, .int S_carriedOut, .int S_dug, .int S_slid, .int S_foundCount, .int S_sureCount, .int S_propCount])), (aT, .inr (6, [.ref aP, .int T_seats, .int T_strata, .int T_empires, .int T_finds, .ref aT_names, .ref aT_froms, .ref aT_tos, .ref aT_coins, .ref aT_cushions, .ref aT_details, .ref aT_findsIn, .ref aT_springsIn])), (aT_coins, .inl (cZ, 24, .inl T_coins)), (aT_details, .inl (cI, 24, .inl T_details)), (aS_sureOnes, .inl (cZ, 24, .inl S_sureOnes))]) (fun r u => (r = 0 ∨ r = 1) ∧ K r u) :=
  ct_startI (by decide +kernel) (Nat.le_of_ble_eq_true rfl) (fun E A Q hE C hret => bX4_sawEmpireAnywhere C (fun r u pc ls hb hk hd => hret r u pc ls (nar_bit hb) ⟨hb, hk⟩ hd) h)
abbrev rmX2_pushTruth : Room := { frames := 1, cells := 0, slots := 0, locals := 21 }
def wX2_pushTruth_10 (K : ((Nat → Int32) × Int32) → Prop) (L_pile : Nat → Int32) (L_piled : Int32) (z0 : Int32) : Prop :=
  wX2_push L_pile L_piled z0 (fun u1 => K (u1.1, u1.2))
set_option maxRecDepth 100000 in
set_option maxHeartbeats 4000000 in
theorem bX2_pushTruth_10 {D : gD} {cB cI cJ cZ : ClassId} {E : gE} {A : Nat → Prop} {Q : State → Prop} {aL aL_pile : Nat} (C : Cx D (gT cB cI cJ cZ) E rmX2_pushTruth cX2_pushTruth 2 RX2 A) {K : ((Nat → Int32) × Int32) → Prop} (hret : ∀ (u : (Nat → Int32) × Int32) (pc : Nat) (ls : List (Nat × Value)), K u → decode cX2_pushTruth pc = .ok (.return_, 1) → Go D E A Q 2 0 0 [(aL, .inr (1, [.ref aL_pile, .int u.2])), (aL_pile, .inl (cI, 400, .inl u.1))] ls pc []) : ∀ (L_pile : Nat → Int32) (L_piled : Int32) (z0 : Int32), wX2_pushTruth_10 K L_pile L_piled z0 → Go D E A Q 2 0 0 [(aL, .inr (1, [.ref aL_pile, .int L_piled])), (aL_pile, .inl (cI, 400, .inl L_pile))] [] 10 [.int z0, .ref aL] := by
  intro L_pile L_piled z0 h
  unfold wX2_pushTruth_10 at h
  refine q_callVV C (cX2_push_ok _ h) cf_X2_105 im_X2_push se_X2_push 1 rfl rfl rfl rfl ⟨Nat.le_of_ble_eq_true rfl, Nat.le_of_ble_eq_true rfl⟩ ⟨Nat.le_of_ble_eq_true rfl, Nat.le_of_ble_eq_true rfl⟩ 0 0 ⟨rfl, rfl⟩ [0, 1] [] (wr := []) rfl rfl rfl rfl (by decide) (fun u1 : (Nat → Int32) × Int32 => [(aL, .inr (1, [.ref aL_pile, .int u1.2])), (aL_pile, .inl (cI, 400, .inl u1.1))]) [0, 1] rfl (fun _ => rfl) (rest := []) rfl (Nat.le_of_ble_eq_true rfl) dX2_pushTruth_10 (fun u1 h => ?_)
  exact hret (u1.1, u1.2) _ _ h dX2_pushTruth_13
def wX2_pushTruth (L_pile : Nat → Int32) (L_piled : Int32) (p0 : Int32) (K : ((Nat → Int32) × Int32) → Prop) : Prop :=
  ((p0 = 0 → wX2_pushTruth_10 K L_pile L_piled 0) ∧ (¬ p0 = 0 → wX2_pushTruth_10 K L_pile L_piled 1))
set_option maxRecDepth 100000 in
set_option maxHeartbeats 4000000 in
theorem bX2_pushTruth {D : gD} {cB cI cJ cZ : ClassId} {E : gE} {A : Nat → Prop} {Q : State → Prop} {aL aL_pile : Nat} {L_piled : Int32} {L_pile : Nat → Int32} (C : Cx D (gT cB cI cJ cZ) E rmX2_pushTruth cX2_pushTruth 2 RX2 A) {p0 : Int32} {K : ((Nat → Int32) × Int32) → Prop} (hret : ∀ (u : (Nat → Int32) × Int32) (pc : Nat) (ls : List (Nat × Value)), K u → decode cX2_pushTruth pc = .ok (.return_, 1) → Go D E A Q 2 0 0 [(aL, .inr (1, [.ref aL_pile, .int u.2])), (aL_pile, .inl (cI, 400, .inl u.1))] ls pc []) (h : wX2_pushTruth L_pile L_piled p0 K) : Go D E A Q 2 0 0 [(aL, .inr (1, [.ref aL_pile, .int L_piled])), (aL_pile, .inl (cI, 400, .inl L_pile))] [(0, .ref aL), (1, .int p0)] 0 [] := by
  unfold wX2_pushTruth at h
  refine q_aload_n C dX2_pushTruth_0 0 rfl ?_
  refine q_iload_n C dX2_pushTruth_1 1 rfl ?_
  refine q_if_eq C 9 dX2_pushTruth_2 (by decide) h (fun h => ?_) (fun h => ?_)
  · refine q_iconst C (v := 0) dX2_pushTruth_9 (by decide) ?_
    refine q_ls [] [] rfl ?_
    exact bX2_pushTruth_10 C  hret  _ _ _ h
  · refine q_iconst C (v := 1) dX2_pushTruth_5 (by decide) ?_
    refine q_goto (tgt := 10) C dX2_pushTruth_6 (by decide) ?_
    refine q_ls [] [] rfl ?_
    exact bX2_pushTruth_10 C  hret  _ _ _ h
theorem cX2_pushTruth_ok (l : Launch) {D : gD} {cB cI cJ cZ : ClassId} {aL aL_pile : Nat} {L_piled : Int32} {L_pile : Nat → Int32} {p0 : Int32} {K : ((Nat → Int32) × Int32) → Prop} (h : wX2_pushTruth L_pile L_piled p0 K) : CtV l D (gT cB cI cJ cZ) yX2_pushTruth cX2_pushTruth 2 rmX2_pushTruth [.ref aL, .int p0] [(aL, .inr (1, [.ref aL_pile, .int L_piled])), (aL_pile, .inl (cI, 400, .inl L_pile))] (fun u : (Nat → Int32) × Int32 => [(aL, .inr (1, [.ref aL_pile, .int u.2])), (aL_pile, .inl (cI, 400, .inl u.1))]) K :=
  ct_startV (by decide +kernel) (Nat.le_of_ble_eq_true rfl) (fun E A Q hE C hret => bX2_pushTruth C hret h)
abbrev rmX2_pull : Room := { frames := 0, cells := 0, slots := 0, locals := 0 }
def wX2_pull (L_pile : Nat → Int32) (L_piled : Int32) (K : Int32 → Int32 → Prop) : Prop :=
  ((L_piled ≤ 0 → K 0 (L_piled)) ∧ (¬ L_piled ≤ 0 → ((L_piled ≤ 400 → vp_in (L_piled - 1) 400 ∧ (K (L_pile (L_piled - 1).toNatClampNeg) (L_piled - 1))) ∧ (¬ L_piled ≤ 400 → K 0 (L_piled)))))
set_option maxRecDepth 100000 in
set_option maxHeartbeats 4000000 in
theorem bX2_pull {D : gD} {cB cI cJ cZ : ClassId} {E : gE} {A : Nat → Prop} {Q : State → Prop} {aL aL_pile : Nat} {L_piled : Int32} {L_pile : Nat → Int32} (C : Cx D (gT cB cI cJ cZ) E rmX2_pull cX2_pull 1 RX2 A) {K : Int32 → Int32 → Prop} (hret : ∀ (r : Int32) (u : Int32) (pc : Nat) (ls : List (Nat × Value)), K r u → decode cX2_pull pc = .ok (.ireturn, 1) → Go D E A Q 1 0 0 [(aL, .inr (1, [.ref aL_pile, .int u])), (aL_pile, .inl (cI, 400, .inl L_pile))] ls pc [.int r]) (h : wX2_pull L_pile L_piled K) : Go D E A Q 1 0 0 [(aL, .inr (1, [.ref aL_pile, .int L_piled])), (aL_pile, .inl (cI, 400, .inl L_pile))] [(0, .ref aL)] 0 [] := by
  unfold wX2_pull at h
  refine q_aload_n C dX2_pull_0 0 rfl ?_
  refine q_get C inX2g rfl 1 (by decide) fl_X2_89 rfl 0 rfl rfl dX2_pull_1 ?_
  refine q_if_le C 17 dX2_pull_4 (by decide) h (fun h => ?_) (fun h => ?_)
  · refine q_iconst C (v := 0) dX2_pull_17 (by decide) ?_
    exact hret 0 (L_piled) _ _ h dX2_pull_18
  · refine q_aload_n C dX2_pull_7 0 rfl ?_
    refine q_get C inX2g rfl 1 (by decide) fl_X2_89 rfl 0 rfl rfl dX2_pull_8 ?_
    refine q_sipush C (v := 400) dX2_pull_11 (by decide) ?_
    refine q_icmp_le C 19 dX2_pull_14 (by decide) h (fun h => ?_) (fun h => ?_)
    · refine q_aload_n C dX2_pull_19 0 rfl ?_
      refine q_dup C dX2_pull_20 rfl ?_
      refine q_get C inX2g rfl 1 (by decide) fl_X2_89 rfl 0 rfl rfl dX2_pull_21 ?_
      refine q_iconst C (v := 1) dX2_pull_24 (by decide) ?_
      refine q_isub C dX2_pull_25 ?_
      refine q_put C inX2g tyX2_ok nmX2 rfl 1 (by decide) fl_X2_89 rfl rfl (ty := .int) (by decide +kernel) 0 [(aL, .inr (1, [.ref aL_pile, .int (L_piled - 1)])), (aL_pile, .inl (cI, 400, .inl L_pile))] rfl rfl rfl (Nat.le_of_ble_eq_true rfl) rfl dX2_pull_26 ?_
      refine q_aload_n C dX2_pull_29 0 rfl ?_
      refine q_get C inX2g rfl 0 (by decide) fl_X2_9 rfl 0 rfl rfl dX2_pull_30 ?_
      refine q_aload_n C dX2_pull_33 0 rfl ?_
      refine q_get C inX2g rfl 1 (by decide) fl_X2_89 rfl 0 rfl rfl dX2_pull_34 ?_
      refine q_iald C 1 1 rfl rfl dX2_pull_37 h (fun h => ?_)
      exact hret (L_pile (L_piled - 1).toNatClampNeg) (L_piled - 1) _ _ h dX2_pull_38
    · refine q_iconst C (v := 0) dX2_pull_17 (by decide) ?_
      exact hret 0 (L_piled) _ _ h dX2_pull_18
theorem cX2_pull_ok (l : Launch) {D : gD} {cB cI cJ cZ : ClassId} {aL aL_pile : Nat} {L_piled : Int32} {L_pile : Nat → Int32} {K : Int32 → Int32 → Prop} (h : wX2_pull L_pile L_piled K) : CtI l D (gT cB cI cJ cZ) yX2_pull cX2_pull 1 .int rmX2_pull [.ref aL] [(aL, .inr (1, [.ref aL_pile, .int L_piled])), (aL_pile, .inl (cI, 400, .inl L_pile))] (fun u : Int32 => [(aL, .inr (1, [.ref aL_pile, .int u])), (aL_pile, .inl (cI, 400, .inl L_pile))]) K :=
  ct_startI (by decide +kernel) (Nat.le_of_ble_eq_true rfl) (fun E A Q hE C hret => bX2_pull C (fun r u pc ls hk hd => hret r u pc ls rfl hk hd) h)
abbrev rmJ9_floorMod_7cf53 : Room := { frames := 0, cells := 0, slots := 0, locals := 0 }
def wJ9_floorMod_7cf53 (p0 : Int32) (p1 : Int32) (K : Int32 → Unit → Prop) : Prop :=
  (¬ p1 = 0) ∧ (((0 ≤ p0 ^^^ p1 → K (p0 - p0 / p1 * p1) ()) ∧ (¬ 0 ≤ p0 ^^^ p1 → ((p0 - p0 / p1 * p1 = 0 → K (p0 - p0 / p1 * p1) ()) ∧ (¬ p0 - p0 / p1 * p1 = 0 → K ((p0 - p0 / p1 * p1) + p1) ())))))
set_option maxRecDepth 100000 in
set_option maxHeartbeats 4000000 in
theorem bJ9_floorMod_7cf53 {D : gD} {cB cI cJ cZ : ClassId} {E : gE} {A : Nat → Prop} {Q : State → Prop} (C : Cx D (gT cB cI cJ cZ) E rmJ9_floorMod_7cf53 cJ9_floorMod_7cf53 3 RJ9 A) {p0 : Int32} {p1 : Int32} {K : Int32 → Unit → Prop} (hret : ∀ (r : Int32) (u : Unit) (pc : Nat) (ls : List (Nat × Value)), K r u → decode cJ9_floorMod_7cf53 pc = .ok (.ireturn, 1) → Go D E A Q 3 0 0 [] ls pc [.int r]) (h : wJ9_floorMod_7cf53 p0 p1 K) : Go D E A Q 3 0 0 [] [(0, .int p0), (1, .int p1)] 0 [] := by
  unfold wJ9_floorMod_7cf53 at h
  refine q_iload_n C dJ9_floorMod_7cf53_0 0 rfl ?_
  refine q_iload_n C dJ9_floorMod_7cf53_1 1 rfl ?_
  refine q_irem C dJ9_floorMod_7cf53_2 h.1 ?_
  replace h := h.2
  refine q_istore_n C [(2, .int (p0 - p0 / p1 * p1)), (0, .int p0), (1, .int p1)] dJ9_floorMod_7cf53_3 (by decide) rfl ?_
  refine q_iload_n C dJ9_floorMod_7cf53_4 1 rfl ?_
  refine q_iload_n C dJ9_floorMod_7cf53_5 2 rfl ?_
  refine q_ixor C dJ9_floorMod_7cf53_6 ?_
  refine q_if_ge C 18 dJ9_floorMod_7cf53_7 (by decide) h (fun h => ?_) (fun h => ?_)
  · refine q_iload_n C dJ9_floorMod_7cf53_18 0 rfl ?_
    exact hret (p0 - p0 / p1 * p1) () _ _ h dJ9_floorMod_7cf53_19
  · refine q_iload_n C dJ9_floorMod_7cf53_10 0 rfl ?_
    refine q_if_eq C 18 dJ9_floorMod_7cf53_11 (by decide) h (fun h => ?_) (fun h => ?_)
    · refine q_iload_n C dJ9_floorMod_7cf53_18 0 rfl ?_
      exact hret (p0 - p0 / p1 * p1) () _ _ h dJ9_floorMod_7cf53_19
    · refine q_iload_n C dJ9_floorMod_7cf53_14 0 rfl ?_
      refine q_iload_n C dJ9_floorMod_7cf53_15 2 rfl ?_
      refine q_iadd C dJ9_floorMod_7cf53_16 ?_
      exact hret ((p0 - p0 / p1 * p1) + p1) () _ _ h dJ9_floorMod_7cf53_17
theorem cJ9_floorMod_7cf53_ok (l : Launch) {D : gD} {cB cI cJ cZ : ClassId} {p0 : Int32} {p1 : Int32} {K : Int32 → Unit → Prop} (h : wJ9_floorMod_7cf53 p0 p1 K) : CtI l D (gT cB cI cJ cZ) yJ9_floorMod_7cf53 cJ9_floorMod_7cf53 3 .int rmJ9_floorMod_7cf53 [.int p0, .int p1] [] (fun u : Unit => []) K :=
  ct_startI (by decide +kernel) (Nat.le_of_ble_eq_true rfl) (fun E A Q hE C hret => bJ9_floorMod_7cf53 C (fun r u pc ls hk hd => hret r u pc ls rfl hk hd) h)
abbrev rmX7_seatOfSum : Room := { frames := 1, cells := 0, slots := 0, locals := 22 }
def wX7_seatOfSum (T_seats : Int32) (p0 : Int32) (K : Int32 → Unit → Prop) : Prop :=
  ((2 ≤ T_seats → wJ9_floorMod_7cf53 p0 T_seats (fun r1 u1 => K r1 ())) ∧ (¬ 2 ≤ T_seats → K 0 ()))
set_option maxRecDepth 100000 in
set_option maxHeartbeats 4000000 in
theorem bX7_seatOfSum {D : gD} {cB cI cJ cZ : ClassId} {E : gE} {A : Nat → Prop} {Q : State → Prop} {aT aP aT_names aT_froms aT_tos aT_coins aT_cushions aT_details aT_findsIn aT_springsIn : Nat} {T_seats T_strata T_empires T_finds : Int32} (C : Cx D (gT cB cI cJ cZ) E rmX7_seatOfSum cX7_seatOfSum 2 RX7 A) {p0 : Int32} {K : Int32 → Unit → Prop} (hret : ∀ (r : Int32) (u : Unit) (pc : Nat) (ls : List (Nat × Value)), K r u → decode cX7_seatOfSum pc = .ok (.ireturn, 1) → Go D E A Q 2 0 0 [(aT, .inr (6, [.ref aP, .int T_seats, .int T_strata, .int T_empires, .int T_finds, .ref aT_names, .ref aT_froms, .ref aT_tos, .ref aT_coins, .ref aT_cushions, .ref aT_details, .ref aT_findsIn, .ref aT_springsIn]))] ls pc [.int r]) (h : wX7_seatOfSum T_seats p0 K) : Go D E A Q 2 0 0 [(aT, .inr (6, [.ref aP, .int T_seats, .int T_strata, .int T_empires, .int T_finds, .ref aT_names, .ref aT_froms, .ref aT_tos, .ref aT_coins, .ref aT_cushions, .ref aT_details, .ref aT_findsIn, .ref aT_springsIn]))] [(0, .ref aT), (1, .int p0)] 0 [] := by
  unfold wX7_seatOfSum at h
  refine q_aload_n C dX7_seatOfSum_0 0 rfl ?_
  refine q_get C inX7g rfl 1 (by decide) fl_X7_66 rfl 0 rfl rfl dX7_seatOfSum_1 ?_
  refine q_iconst C (v := 2) dX7_seatOfSum_4 (by decide) ?_
  refine q_icmp_ge C 12 dX7_seatOfSum_5 (by decide) h (fun h => ?_) (fun h => ?_)
  · refine q_iload_n C dX7_seatOfSum_12 1 rfl ?_
    refine q_aload_n C dX7_seatOfSum_13 0 rfl ?_
    refine q_get C inX7g rfl 1 (by decide) fl_X7_66 rfl 0 rfl rfl dX7_seatOfSum_14 ?_
    refine q_callSI C (cJ9_floorMod_7cf53_ok _ h) cf_X7_76 st_J9_floorMod_7cf53 rfl ⟨Nat.le_of_ble_eq_true rfl, Nat.le_of_ble_eq_true rfl⟩ ⟨Nat.le_of_ble_eq_true rfl, Nat.le_of_ble_eq_true rfl⟩ 0 0 ⟨rfl, rfl⟩ [] [0] (wr := [(aT, .inr (6, [.ref aP, .int T_seats, .int T_strata, .int T_empires, .int T_finds, .ref aT_names, .ref aT_froms, .ref aT_tos, .ref aT_coins, .ref aT_cushions, .ref aT_details, .ref aT_findsIn, .ref aT_springsIn]))]) rfl rfl rfl rfl (by decide) (fun u1 : Unit => [(aT, .inr (6, [.ref aP, .int T_seats, .int T_strata, .int T_empires, .int T_finds, .ref aT_names, .ref aT_froms, .ref aT_tos, .ref aT_coins, .ref aT_cushions, .ref aT_details, .ref aT_findsIn, .ref aT_springsIn]))]) [0] rfl (fun _ => rfl) (rest := []) rfl (Nat.le_of_ble_eq_true rfl) dX7_seatOfSum_17 (fun r1 u1 h => ?_)
    exact hret r1 () _ _ h dX7_seatOfSum_20
  · refine q_iconst C (v := 0) dX7_seatOfSum_8 (by decide) ?_
    refine q_goto (tgt := 20) C dX7_seatOfSum_9 (by decide) ?_
    exact hret 0 () _ _ h dX7_seatOfSum_20
theorem cX7_seatOfSum_ok (l : Launch) {D : gD} {cB cI cJ cZ : ClassId} {aT aP aT_names aT_froms aT_tos aT_coins aT_cushions aT_details aT_findsIn aT_springsIn : Nat} {T_seats T_strata T_empires T_finds : Int32} {p0 : Int32} {K : Int32 → Unit → Prop} (h : wX7_seatOfSum T_seats p0 K) : CtI l D (gT cB cI cJ cZ) yX7_seatOfSum cX7_seatOfSum 2 .int rmX7_seatOfSum [.ref aT, .int p0] [(aT, .inr (6, [.ref aP, .int T_seats, .int T_strata, .int T_empires, .int T_finds, .ref aT_names, .ref aT_froms, .ref aT_tos, .ref aT_coins, .ref aT_cushions, .ref aT_details, .ref aT_findsIn, .ref aT_springsIn]))] (fun u : Unit => [(aT, .inr (6, [.ref aP, .int T_seats, .int T_strata, .int T_empires, .int T_finds, .ref aT_names, .ref aT_froms, .ref aT_tos, .ref aT_coins, .ref aT_cushions, .ref aT_details, .ref aT_findsIn, .ref aT_springsIn]))]) K :=
  ct_startI (by decide +kernel) (Nat.le_of_ble_eq_true rfl) (fun E A Q hE C hret => bX7_seatOfSum C (fun r u pc ls hk hd => hret r u pc ls rfl hk hd) h)
abbrev rmX4_heightAt : Room := { frames := 0, cells := 0, slots := 0, locals := 0 }
def wX4_heightAt (S_heights : Nat → Int32) (p0 : Int32) (K : Int32 → Unit → Prop) : Prop :=
  ((p0 < 0 → K 0 ()) ∧ (¬ p0 < 0 → ((8 ≤ p0 → K 0 ()) ∧ (¬ 8 ≤ p0 → vp_in p0 8 ∧ (K (S_heights p0.toNatClampNeg) ())))))
set_option maxRecDepth 100000 in
set_option maxHeartbeats 4000000 in
theorem bX4_heightAt {D : gD} {cB cI cJ cZ : ClassId} {E : gE} {A : Nat → Prop} {Q : State → Prop} {aS aS_heights aT aS_stacks aS_loose aS_propped aS_foundOnes aS_sureOnes : Nat} {S_days S_carriedOut S_dug S_slid S_foundCount S_sureCount S_propCount : Int32} {S_heights : Nat → Int32} (C : Cx D (gT cB cI cJ cZ) E rmX4_heightAt cX4_heightAt 2 RX4 A) {p0 : Int32} {K : Int32 → Unit → Prop} (hret : ∀ (r : Int32) (u : Unit) (pc : Nat) (ls : List (Nat × Value)), K r u → decode cX4_heightAt pc = .ok (.ireturn, 1) → Go D E A Q 2 0 0 [(aS, .inr (3, [.ref aT, .ref aS_stacks, .ref aS_heights, .ref aS_loose, .ref aS_propped, .ref aS_foundOnes, .ref aS_sureOnes, .int S_days, .int S_carriedOut, .int S_dug, .int S_slid, .int S_foundCount, .int S_sureCount, .int S_propCount])), (aS_heights, .inl (cI, 8, .inl S_heights))] ls pc [.int r]) (h : wX4_heightAt S_heights p0 K) : Go D E A Q 2 0 0 [(aS, .inr (3, [.ref aT, .ref aS_stacks, .ref aS_heights, .ref aS_loose, .ref aS_propped, .ref aS_foundOnes, .ref aS_sureOnes, .int S_days, .int S_carriedOut, .int S_dug, .int S_slid, .int S_foundCount, .int S_sureCount, .int S_propCount])), (aS_heights, .inl (cI, 8, .inl S_heights))] [(0, .ref aS), (1, .int p0)] 0 [] := by
  unfold wX4_heightAt at h
  refine q_iload_n C dX4_heightAt_0 1 rfl ?_
  refine q_if_lt C 19 dX4_heightAt_1 (by decide) h (fun h => ?_) (fun h => ?_)
  · refine q_iconst C (v := 0) dX4_heightAt_19 (by decide) ?_
    exact hret 0 () _ _ h dX4_heightAt_20
  · refine q_iload_n C dX4_heightAt_4 1 rfl ?_
    refine q_bipush C (v := 8) dX4_heightAt_5 (by decide) ?_
    refine q_icmp_ge C 19 dX4_heightAt_7 (by decide) h (fun h => ?_) (fun h => ?_)
    · refine q_iconst C (v := 0) dX4_heightAt_19 (by decide) ?_
      exact hret 0 () _ _ h dX4_heightAt_20
    · refine q_aload_n C dX4_heightAt_10 0 rfl ?_
      refine q_get C inX4g rfl 2 (by decide) fl_X4_15 rfl 0 rfl rfl dX4_heightAt_11 ?_
      refine q_iload_n C dX4_heightAt_14 1 rfl ?_
      refine q_iald C 1 1 rfl rfl dX4_heightAt_15 h (fun h => ?_)
      refine q_goto (tgt := 20) C dX4_heightAt_16 (by decide) ?_
      exact hret (S_heights p0.toNatClampNeg) () _ _ h dX4_heightAt_20
theorem cX4_heightAt_ok (l : Launch) {D : gD} {cB cI cJ cZ : ClassId} {aS aS_heights aT aS_stacks aS_loose aS_propped aS_foundOnes aS_sureOnes : Nat} {S_days S_carriedOut S_dug S_slid S_foundCount S_sureCount S_propCount : Int32} {S_heights : Nat → Int32} {p0 : Int32} {K : Int32 → Unit → Prop} (h : wX4_heightAt S_heights p0 K) : CtI l D (gT cB cI cJ cZ) yX4_heightAt cX4_heightAt 2 .int rmX4_heightAt [.ref aS, .int p0] [(aS, .inr (3, [.ref aT, .ref aS_stacks, .ref aS_heights, .ref aS_loose, .ref aS_propped, .ref aS_foundOnes, .ref aS_sureOnes, .int S_days, .int S_carriedOut, .int S_dug, .int S_slid, .int S_foundCount, .int S_sureCount, .int S_propCount])), (aS_heights, .inl (cI, 8, .inl S_heights))] (fun u : Unit => [(aS, .inr (3, [.ref aT, .ref aS_stacks, .ref aS_heights, .ref aS_loose, .ref aS_propped, .ref aS_foundOnes, .ref aS_sureOnes, .int S_days, .int S_carriedOut, .int S_dug, .int S_slid, .int S_foundCount, .int S_sureCount, .int S_propCount])), (aS_heights, .inl (cI, 8, .inl S_heights))]) K :=
  ct_startI (by decide +kernel) (Nat.le_of_ble_eq_true rfl) (fun E A Q hE C hret => bX4_heightAt C (fun r u pc ls hk hd => hret r u pc ls rfl hk hd) h)
abbrev rmX2_compares : Room := { frames := 0, cells := 0, slots := 0, locals := 0 }
def wX2_compares (p0 : Int32) (p1 : Int32) (p2 : Int32) (K : Int32 → Unit → Prop) : Prop :=
  ((p0 = 39 → ((p2 ≤ p1 → K 0 ()) ∧ (¬ p2 ≤ p1 → K 1 ()))) ∧ (p0 = 40 → ((p1 ≤ p2 → K 0 ()) ∧ (¬ p1 ≤ p2 → K 1 ()))) ∧ (p0 = 41 → ((¬ p1 = p2 → K 0 ()) ∧ (p1 = p2 → K 1 ()))) ∧ (p0 = 42 → ((p2 < p1 → K 0 ()) ∧ (¬ p2 < p1 → K 1 ()))) ∧ (p0 = 43 → ((p1 < p2 → K 0 ()) ∧ (¬ p1 < p2 → K 1 ()))) ∧ (¬ p0 = 39 → ¬ p0 = 40 → ¬ p0 = 41 → ¬ p0 = 42 → ¬ p0 = 43 → K 0 ()))
set_option maxRecDepth 100000 in
set_option maxHeartbeats 4000000 in
theorem bX2_compares {D : gD} {cB cI cJ cZ : ClassId} {E : gE} {A : Nat → Prop} {Q : State → Prop} (C : Cx D (gT cB cI cJ cZ) E rmX2_compares cX2_compares 3 RX2 A) {p0 : Int32} {p1 : Int32} {p2 : Int32} {K : Int32 → Unit → Prop} (hret : ∀ (r : Int32) (u : Unit) (pc : Nat) (ls : List (Nat × Value)), (r = 0 ∨ r = 1) → K r u → decode cX2_compares pc = .ok (.ireturn, 1) → Go D E A Q 3 0 0 [] ls pc [.int r]) (h : wX2_compares p0 p1 p2 K) : Go D E A Q 3 0 0 [] [(0, .int p0), (1, .int p1), (2, .int p2)] 0 [] := by
  unfold wX2_compares at h
  refine q_iload_n C dX2_compares_0 0 rfl ?_
  by_cases hq : p0 = 39
  · replace h := h.1 hq
    refine q_tableK C 39 36 hq dX2_compares_1 (by decide) (by decide) rfl (by decide) ?_
    refine q_iload_n C dX2_compares_36 1 rfl ?_
    refine q_iload_n C dX2_compares_37 2 rfl ?_
    refine q_icmp_ge C 45 dX2_compares_38 (by decide) h (fun h => ?_) (fun h => ?_)
    · refine q_iconst C (v := 0) dX2_compares_45 (by decide) ?_
      exact hret 0 () _ _ (Or.inl rfl) h dX2_compares_46
    · refine q_iconst C (v := 1) dX2_compares_41 (by decide) ?_
      refine q_goto (tgt := 46) C dX2_compares_42 (by decide) ?_
      exact hret 1 () _ _ (Or.inr rfl) h dX2_compares_46
  · have hn0 := hq
    by_cases hq : p0 = 40
    · replace h := h.2.1 hq
      refine q_tableK C 40 47 hq dX2_compares_1 (by decide) (by decide) rfl (by decide) ?_
      refine q_iload_n C dX2_compares_47 1 rfl ?_
      refine q_iload_n C dX2_compares_48 2 rfl ?_
      refine q_icmp_le C 56 dX2_compares_49 (by decide) h (fun h => ?_) (fun h => ?_)
      · refine q_iconst C (v := 0) dX2_compares_56 (by decide) ?_
        exact hret 0 () _ _ (Or.inl rfl) h dX2_compares_57
      · refine q_iconst C (v := 1) dX2_compares_52 (by decide) ?_
        refine q_goto (tgt := 57) C dX2_compares_53 (by decide) ?_
        exact hret 1 () _ _ (Or.inr rfl) h dX2_compares_57
    · have hn1 := hq
      by_cases hq : p0 = 41
      · replace h := h.2.2.1 hq
        refine q_tableK C 41 58 hq dX2_compares_1 (by decide) (by decide) rfl (by decide) ?_
        refine q_iload_n C dX2_compares_58 1 rfl ?_
        refine q_iload_n C dX2_compares_59 2 rfl ?_
        refine q_icmp_ne C 67 dX2_compares_60 (by decide) h (fun h => ?_) (fun h => ?_)
        · refine q_iconst C (v := 0) dX2_compares_67 (by decide) ?_
          exact hret 0 () _ _ (Or.inl rfl) h dX2_compares_68
        · refine q_iconst C (v := 1) dX2_compares_63 (by decide) ?_
          refine q_goto (tgt := 68) C dX2_compares_64 (by decide) ?_
          exact hret 1 () _ _ (Or.inr rfl) h dX2_compares_68
      · have hn2 := hq
        by_cases hq : p0 = 42
        · replace h := h.2.2.2.1 hq
          refine q_tableK C 42 69 hq dX2_compares_1 (by decide) (by decide) rfl (by decide) ?_
          refine q_iload_n C dX2_compares_69 1 rfl ?_
          refine q_iload_n C dX2_compares_70 2 rfl ?_
          refine q_icmp_gt C 78 dX2_compares_71 (by decide) h (fun h => ?_) (fun h => ?_)
          · refine q_iconst C (v := 0) dX2_compares_78 (by decide) ?_
            exact hret 0 () _ _ (Or.inl rfl) h dX2_compares_79
          · refine q_iconst C (v := 1) dX2_compares_74 (by decide) ?_
            refine q_goto (tgt := 79) C dX2_compares_75 (by decide) ?_
            exact hret 1 () _ _ (Or.inr rfl) h dX2_compares_79
        · have hn3 := hq
          by_cases hq : p0 = 43
          · replace h := h.2.2.2.2.1 hq
            refine q_tableK C 43 80 hq dX2_compares_1 (by decide) (by decide) rfl (by decide) ?_
            refine q_iload_n C dX2_compares_80 1 rfl ?_
            refine q_iload_n C dX2_compares_81 2 rfl ?_
            refine q_icmp_lt C 89 dX2_compares_82 (by decide) h (fun h => ?_) (fun h => ?_)
            · refine q_iconst C (v := 0) dX2_compares_89 (by decide) ?_
              exact hret 0 () _ _ (Or.inl rfl) h dX2_compares_90
            · refine q_iconst C (v := 1) dX2_compares_85 (by decide) ?_
              refine q_goto (tgt := 90) C dX2_compares_86 (by decide) ?_
              exact hret 1 () _ _ (Or.inr rfl) h dX2_compares_90
          · have hn4 := hq
            replace h := h.2.2.2.2.2 hn0 hn1 hn2 hn3 hn4
            refine q_tableD C [39, 40, 41, 42, 43] 91 (sw_cons (sw_ne hn0 (by decide)) (sw_cons (sw_ne hn1 (by decide)) (sw_cons (sw_ne hn2 (by decide)) (sw_cons (sw_ne hn3 (by decide)) (sw_cons (sw_ne hn4 (by decide)) sw_nil))))) dX2_compares_1 (by decide) (by decide) ?_
            refine q_iconst C (v := 0) dX2_compares_91 (by decide) ?_
            exact hret 0 () _ _ (Or.inl rfl) h dX2_compares_92
theorem cX2_compares_ok (l : Launch) {D : gD} {cB cI cJ cZ : ClassId} {p0 : Int32} {p1 : Int32} {p2 : Int32} {K : Int32 → Unit → Prop} (h : wX2_compares p0 p1 p2 K) : CtI l D (gT cB cI cJ cZ) yX2_compares cX2_compares 3 .boolean rmX2_compares [.int p0, .int p1, .int p2] [] (fun u : Unit => []) (fun r u => (r = 0 ∨ r = 1) ∧ K r u) :=
  ct_startI (by decide +kernel) (Nat.le_of_ble_eq_true rfl) (fun E A Q hE C hret => bX2_compares C (fun r u pc ls hb hk hd => hret r u pc ls (nar_bit hb) ⟨hb, hk⟩ hd) h)
abbrev rmX2_join : Room := { frames := 1, cells := 0, slots := 0, locals := 22 }
def wX2_join (p0 : Int32) (p1 : Int32) (p2 : Int32) (K : Int32 → Unit → Prop) : Prop :=
  ((p0 = 25 → K (p1 &&& p2) ()) ∧ (p0 = 26 → K (p1 ||| p2) ()) ∧ (p0 = 27 → K (g_min p1 p2) ()) ∧ (p0 = 28 → K (g_max p1 p2) ()) ∧ (p0 = 35 → K (p1 + p2) ()) ∧ (p0 = 36 → K (p1 - p2) ()) ∧ (p0 = 37 → K (p1 * p2) ()) ∧ (p0 = 38 → ((¬ p2 = 0 → (¬ p2 = 0) ∧ (K (p1 / p2) ())) ∧ (p2 = 0 → K 0 ()))) ∧ (¬ p0 = 25 → ¬ p0 = 26 → ¬ p0 = 27 → ¬ p0 = 28 → ¬ p0 = 35 → ¬ p0 = 36 → ¬ p0 = 37 → ¬ p0 = 38 → wX2_compares p0 p1 p2 (fun r1 u1 => ((r1 = 0 → K 0 ()) ∧ (¬ r1 = 0 → K 1 ())))))
set_option maxRecDepth 100000 in
set_option maxHeartbeats 4000000 in
theorem bX2_join {D : gD} {cB cI cJ cZ : ClassId} {E : gE} {A : Nat → Prop} {Q : State → Prop} (C : Cx D (gT cB cI cJ cZ) E rmX2_join cX2_join 3 RX2 A) {p0 : Int32} {p1 : Int32} {p2 : Int32} {K : Int32 → Unit → Prop} (hret : ∀ (r : Int32) (u : Unit) (pc : Nat) (ls : List (Nat × Value)), K r u → decode cX2_join pc = .ok (.ireturn, 1) → Go D E A Q 3 0 0 [] ls pc [.int r]) (h : wX2_join p0 p1 p2 K) : Go D E A Q 3 0 0 [] [(0, .int p0), (1, .int p1), (2, .int p2)] 0 [] := by
  unfold wX2_join at h
  refine q_iload_n C dX2_join_0 0 rfl ?_
  by_cases hq : p0 = 25
  · replace h := h.1 hq
    refine q_tableK C 25 108 hq dX2_join_1 (by decide) (by decide) rfl (by decide) ?_
    refine q_iload_n C dX2_join_108 1 rfl ?_
    refine q_iload_n C dX2_join_109 2 rfl ?_
    refine q_iand C dX2_join_110 ?_
    exact hret (p1 &&& p2) () _ _ h dX2_join_111
  · have hn0 := hq
    by_cases hq : p0 = 26
    · replace h := h.2.1 hq
      refine q_tableK C 26 112 hq dX2_join_1 (by decide) (by decide) rfl (by decide) ?_
      refine q_iload_n C dX2_join_112 1 rfl ?_
      refine q_iload_n C dX2_join_113 2 rfl ?_
      refine q_ior C dX2_join_114 ?_
      exact hret (p1 ||| p2) () _ _ h dX2_join_115
    · have hn1 := hq
      by_cases hq : p0 = 27
      · replace h := h.2.2.1 hq
        refine q_tableK C 27 96 hq dX2_join_1 (by decide) (by decide) rfl (by decide) ?_
        refine q_iload_n C dX2_join_96 1 rfl ?_
        refine q_iload_n C dX2_join_97 2 rfl ?_
        refine q_mmin C ml_X2_137 dX2_join_98 ⟨Nat.le_of_ble_eq_true rfl, Nat.le_of_ble_eq_true rfl, Nat.le_of_ble_eq_true rfl, Nat.le_of_ble_eq_true rfl⟩ ?_
        exact hret (g_min p1 p2) () _ _ h dX2_join_101
      · have hn2 := hq
        by_cases hq : p0 = 28
        · replace h := h.2.2.2.1 hq
          refine q_tableK C 28 102 hq dX2_join_1 (by decide) (by decide) rfl (by decide) ?_
          refine q_iload_n C dX2_join_102 1 rfl ?_
          refine q_iload_n C dX2_join_103 2 rfl ?_
          refine q_mmax C ml_X2_143 dX2_join_104 ⟨Nat.le_of_ble_eq_true rfl, Nat.le_of_ble_eq_true rfl, Nat.le_of_ble_eq_true rfl, Nat.le_of_ble_eq_true rfl⟩ ?_
          exact hret (g_max p1 p2) () _ _ h dX2_join_107
        · have hn3 := hq
          by_cases hq : p0 = 35
          · replace h := h.2.2.2.2.1 hq
            refine q_tableK C 35 72 hq dX2_join_1 (by decide) (by decide) rfl (by decide) ?_
            refine q_iload_n C dX2_join_72 1 rfl ?_
            refine q_iload_n C dX2_join_73 2 rfl ?_
            refine q_iadd C dX2_join_74 ?_
            exact hret (p1 + p2) () _ _ h dX2_join_75
          · have hn4 := hq
            by_cases hq : p0 = 36
            · replace h := h.2.2.2.2.2.1 hq
              refine q_tableK C 36 76 hq dX2_join_1 (by decide) (by decide) rfl (by decide) ?_
              refine q_iload_n C dX2_join_76 1 rfl ?_
              refine q_iload_n C dX2_join_77 2 rfl ?_
              refine q_isub C dX2_join_78 ?_
              exact hret (p1 - p2) () _ _ h dX2_join_79
            · have hn5 := hq
              by_cases hq : p0 = 37
              · replace h := h.2.2.2.2.2.2.1 hq
                refine q_tableK C 37 80 hq dX2_join_1 (by decide) (by decide) rfl (by decide) ?_
                refine q_iload_n C dX2_join_80 1 rfl ?_
                refine q_iload_n C dX2_join_81 2 rfl ?_
                refine q_imul C dX2_join_82 ?_
                exact hret (p1 * p2) () _ _ h dX2_join_83
              · have hn6 := hq
                by_cases hq : p0 = 38
                · replace h := h.2.2.2.2.2.2.2.1 hq
                  refine q_tableK C 38 84 hq dX2_join_1 (by decide) (by decide) rfl (by decide) ?_
                  refine q_iload_n C dX2_join_84 2 rfl ?_
                  refine q_if_ne C 92 dX2_join_85 (by decide) h (fun h => ?_) (fun h => ?_)
                  · refine q_iload_n C dX2_join_92 1 rfl ?_
                    refine q_iload_n C dX2_join_93 2 rfl ?_
                    refine q_idiv C dX2_join_94 h.1 ?_
                    replace h := h.2
                    exact hret (p1 / p2) () _ _ h dX2_join_95
                  · refine q_iconst C (v := 0) dX2_join_88 (by decide) ?_
                    refine q_goto (tgt := 95) C dX2_join_89 (by decide) ?_
                    exact hret 0 () _ _ h dX2_join_95
                · have hn7 := hq
                  replace h := h.2.2.2.2.2.2.2.2 hn0 hn1 hn2 hn3 hn4 hn5 hn6 hn7
                  refine q_tableD C [25, 26, 27, 28, 35, 36, 37, 38] 116 (sw_cons (sw_ne hn0 (by decide)) (sw_cons (sw_ne hn1 (by decide)) (sw_cons (sw_ne hn2 (by decide)) (sw_cons (sw_ne hn3 (by decide)) (sw_cons (sw_ne hn4 (by decide)) (sw_cons (sw_ne hn5 (by decide)) (sw_cons (sw_ne hn6 (by decide)) (sw_cons (sw_ne hn7 (by decide)) sw_nil)))))))) dX2_join_1 (by decide) (by decide) ?_
                  refine q_iload_n C dX2_join_116 0 rfl ?_
                  refine q_iload_n C dX2_join_117 1 rfl ?_
                  refine q_iload_n C dX2_join_118 2 rfl ?_
                  refine q_callSI C (cX2_compares_ok _ h) cf_X2_146 st_X2_compares rfl ⟨Nat.le_of_ble_eq_true rfl, Nat.le_of_ble_eq_true rfl⟩ ⟨Nat.le_of_ble_eq_true rfl, Nat.le_of_ble_eq_true rfl⟩ 0 0 ⟨rfl, rfl⟩ [] [] (wr := []) rfl rfl rfl rfl (by decide) (fun u1 : Unit => []) [] rfl (fun _ => rfl) (rest := []) rfl (Nat.le_of_ble_eq_true rfl) dX2_join_119 (fun r1 u1 h => ?_)
                  obtain ⟨hb1, h⟩ := h
                  refine q_if_eq C 129 dX2_join_122 (by decide) h (fun h => ?_) (fun h => ?_)
                  · refine q_iconst C (v := 0) dX2_join_129 (by decide) ?_
                    exact hret 0 () _ _ h dX2_join_130
                  · refine q_iconst C (v := 1) dX2_join_125 (by decide) ?_
                    refine q_goto (tgt := 130) C dX2_join_126 (by decide) ?_
                    exact hret 1 () _ _ h dX2_join_130
theorem cX2_join_ok (l : Launch) {D : gD} {cB cI cJ cZ : ClassId} {p0 : Int32} {p1 : Int32} {p2 : Int32} {K : Int32 → Unit → Prop} (h : wX2_join p0 p1 p2 K) : CtI l D (gT cB cI cJ cZ) yX2_join cX2_join 3 .int rmX2_join [.int p0, .int p1, .int p2] [] (fun u : Unit => []) K :=
  ct_startI (by decide +kernel) (Nat.le_of_ble_eq_true rfl) (fun E A Q hE C hret => bX2_join C (fun r u pc ls hk hd => hret r u pc ls rfl hk hd) h)
abbrev rmX2_takeStep : Room := { frames := 3, cells := 0, slots := 0, locals := 64 }
def wX2_takeStep_300 (K : ((Nat → Int32) × Int32) → Prop) (T_seats : Int32) (T_empires : Int32) (T_finds : Int32) (T_froms : Nat → Int32) (T_tos : Nat → Int32) (T_coins : Nat → Int32) (T_details : Nat → Int32) (S_heights : Nat → Int32) (S_sureOnes : Nat → Int32) (S_days : Int32) (S_slid : Int32) (S_foundCount : Int32) (S_propCount : Int32) (L_pile : Nat → Int32) (L_piled : Int32) (z0 : Int32) : Prop :=
  wX2_pushTruth L_pile L_piled z0 (fun u1 => K (u1.1, u1.2))
set_option maxRecDepth 100000 in
set_option maxHeartbeats 4000000 in
theorem bX2_takeStep_300 {D : gD} {cB cI cJ cZ : ClassId} {E : gE} {A : Nat → Prop} {Q : State → Prop} {aL aT aT_froms aT_tos aT_coins aT_details aL_pile aS aS_heights aS_sureOnes aP aT_names aT_cushions aT_findsIn aT_springsIn aS_stacks aS_loose aS_propped aS_foundOnes : Nat} {T_seats T_strata T_empires T_finds S_days S_carriedOut S_dug S_slid S_foundCount S_sureCount S_propCount : Int32} {T_froms T_tos T_coins T_details S_heights S_sureOnes : Nat → Int32} (C : Cx D (gT cB cI cJ cZ) E rmX2_takeStep cX2_takeStep 6 RX2 A) {K : ((Nat → Int32) × Int32) → Prop} (hret : ∀ (u : (Nat → Int32) × Int32) (pc : Nat) (ls : List (Nat × Value)), K u → decode cX2_takeStep pc = .ok (.return_, 1) → Go D E A Q 6 0 0 [(aL, .inr (1, [.ref aL_pile, .int u.2])), (aT, .inr (6, [.ref aP, .int T_seats, .int T_strata, .int T_empires, .int T_finds, .ref aT_names, .ref aT_froms, .ref aT_tos, .ref aT_coins, .ref aT_cushions, .ref aT_details, .ref aT_findsIn, .ref aT_springsIn])), (aT_froms, .inl (cI, 6, .inl T_froms)), (aT_tos, .inl (cI, 6, .inl T_tos)), (aT_coins, .inl (cZ, 24, .inl T_coins)), (aT_details, .inl (cI, 24, .inl T_details)), (aL_pile, .inl (cI, 400, .inl u.1)), (aS, .inr (3, [.ref aT, .ref aS_stacks, .ref aS_heights, .ref aS_loose, .ref aS_propped, .ref aS_foundOnes, .ref aS_sureOnes, .int S_days, .int S_carriedOut, .int S_dug, .int S_slid, .int S_foundCount, .int S_sureCount, .int S_propCount])), (aS_heights, .inl (cI, 8, .inl S_heights)), (aS_sureOnes, .inl (cZ, 24, .inl S_sureOnes))] ls pc []) : ∀ (L_pile : Nat → Int32) (L_piled : Int32) (z0 : Int32), wX2_takeStep_300 K T_seats T_empires T_finds T_froms T_tos T_coins T_details S_heights S_sureOnes S_days S_slid S_foundCount S_propCount L_pile L_piled z0 → Go D E A Q 6 0 0 [(aL, .inr (1, [.ref aL_pile, .int L_piled])), (aT, .inr (6, [.ref aP, .int T_seats, .int T_strata, .int T_empires, .int T_finds, .ref aT_names, .ref aT_froms, .ref aT_tos, .ref aT_coins, .ref aT_cushions, .ref aT_details, .ref aT_findsIn, .ref aT_springsIn])), (aT_froms, .inl (cI, 6, .inl T_froms)), (aT_tos, .inl (cI, 6, .inl T_tos)), (aT_coins, .inl (cZ, 24, .inl T_coins)), (aT_details, .inl (cI, 24, .inl T_details)), (aL_pile, .inl (cI, 400, .inl L_pile)), (aS, .inr (3, [.ref aT, .ref aS_stacks, .ref aS_heights, .ref aS_loose, .ref aS_propped, .ref aS_foundOnes, .ref aS_sureOnes, .int S_days, .int S_carriedOut, .int S_dug, .int S_slid, .int S_foundCount, .int S_sureCount, .int S_propCount])), (aS_heights, .inl (cI, 8, .inl S_heights)), (aS_sureOnes, .inl (cZ, 24, .inl S_sureOnes))] [] 300 [.int z0, .ref aL] := by
  intro L_pile L_piled z0 h
  unfold wX2_takeStep_300 at h
  refine q_callVV C (cX2_pushTruth_ok _ h) cf_X2_126 im_X2_pushTruth se_X2_pushTruth 1 rfl rfl rfl rfl ⟨Nat.le_of_ble_eq_true rfl, Nat.le_of_ble_eq_true rfl⟩ ⟨Nat.le_of_ble_eq_true rfl, Nat.le_of_ble_eq_true rfl⟩ 0 0 ⟨rfl, rfl⟩ [0, 6] [1, 2, 3, 4, 5, 7, 8, 9] (wr := [(aT, .inr (6, [.ref aP, .int T_seats, .int T_strata, .int T_empires, .int T_finds, .ref aT_names, .ref aT_froms, .ref aT_tos, .ref aT_coins, .ref aT_cushions, .ref aT_details, .ref aT_findsIn, .ref aT_springsIn])), (aT_froms, .inl (cI, 6, .inl T_froms)), (aT_tos, .inl (cI, 6, .inl T_tos)), (aT_coins, .inl (cZ, 24, .inl T_coins)), (aT_details, .inl (cI, 24, .inl T_details)), (aS, .inr (3, [.ref aT, .ref aS_stacks, .ref aS_heights, .ref aS_loose, .ref aS_propped, .ref aS_foundOnes, .ref aS_sureOnes, .int S_days, .int S_carriedOut, .int S_dug, .int S_slid, .int S_foundCount, .int S_sureCount, .int S_propCount])), (aS_heights, .inl (cI, 8, .inl S_heights)), (aS_sureOnes, .inl (cZ, 24, .inl S_sureOnes))]) rfl rfl rfl rfl (by decide) (fun u1 : (Nat → Int32) × Int32 => [(aL, .inr (1, [.ref aL_pile, .int u1.2])), (aT, .inr (6, [.ref aP, .int T_seats, .int T_strata, .int T_empires, .int T_finds, .ref aT_names, .ref aT_froms, .ref aT_tos, .ref aT_coins, .ref aT_cushions, .ref aT_details, .ref aT_findsIn, .ref aT_springsIn])), (aT_froms, .inl (cI, 6, .inl T_froms)), (aT_tos, .inl (cI, 6, .inl T_tos)), (aT_coins, .inl (cZ, 24, .inl T_coins)), (aT_details, .inl (cI, 24, .inl T_details)), (aL_pile, .inl (cI, 400, .inl u1.1)), (aS, .inr (3, [.ref aT, .ref aS_stacks, .ref aS_heights, .ref aS_loose, .ref aS_propped, .ref aS_foundOnes, .ref aS_sureOnes, .int S_days, .int S_carriedOut, .int S_dug, .int S_slid, .int S_foundCount, .int S_sureCount, .int S_propCount])), (aS_heights, .inl (cI, 8, .inl S_heights)), (aS_sureOnes, .inl (cZ, 24, .inl S_sureOnes))]) [8, 0, 1, 2, 3, 4, 9, 5, 6, 7] rfl (fun _ => rfl) (rest := []) rfl (Nat.le_of_ble_eq_true rfl) dX2_takeStep_300 (fun u1 h => ?_)
  refine q_goto (tgt := 330) C dX2_takeStep_303 (by decide) ?_
  exact hret (u1.1, u1.2) _ _ h dX2_takeStep_330
def wX2_takeStep (T_seats : Int32) (T_empires : Int32) (T_finds : Int32) (T_froms : Nat → Int32) (T_tos : Nat → Int32) (T_coins : Nat → Int32) (T_details : Nat → Int32) (L_pile : Nat → Int32) (L_piled : Int32) (S_heights : Nat → Int32) (S_sureOnes : Nat → Int32) (S_days : Int32) (S_slid : Int32) (S_foundCount : Int32) (S_propCount : Int32) (p1 : Int32) (p2 : Int32) (K : ((Nat → Int32) × Int32) → Prop) : Prop :=
  ((p1 = 15 → wX2_push L_pile L_piled S_days (fun u1 => K (u1.1, u1.2))) ∧ (p1 = 16 → wX2_push L_pile L_piled S_foundCount (fun u2 => K (u2.1, u2.2))) ∧ (p1 = 17 → wX2_push L_pile L_piled S_slid (fun u3 => K (u3.1, u3.2))) ∧ (p1 = 18 → wX2_push L_pile L_piled S_propCount (fun u4 => K (u4.1, u4.2))) ∧ (p1 = 19 → wX7_fromOf T_empires T_froms p2 (fun r5 u5 => wX2_push L_pile L_piled r5 (fun u6 => K (u6.1, u6.2)))) ∧ (p1 = 20 → wX7_toOf T_empires T_tos p2 (fun r7 u7 => wX2_push L_pile L_piled r7 (fun u8 => K (u8.1, u8.2)))) ∧ (p1 = 21 → wX2_pull L_pile L_piled (fun r9 u9 => wX7_seatOfSum T_seats r9 (fun r10 u10 => wX4_heightAt S_heights r10 (fun r11 u11 => wX2_push L_pile u9 r11 (fun u12 => K (u12.1, u12.2)))))) ∧ (p1 = 22 → wX4_sawEmpireAnywhere T_finds T_coins T_details S_sureOnes p2 (fun r13 u13 => wX2_pushTruth L_pile L_piled r13 (fun u14 => K (u14.1, u14.2)))) ∧ (p1 = 23 → wX2_pull L_pile L_piled (fun r15 u15 => wX4_wasSure S_sureOnes r15 (fun r16 u16 => wX2_pushTruth L_pile u15 r16 (fun u17 => K (u17.1, u17.2))))) ∧ (p1 = 24 → wX2_pull L_pile L_piled (fun r18 u18 => ((¬ r18 = 0 → wX2_takeStep_300 K T_seats T_empires T_finds T_froms T_tos T_coins T_details S_heights S_sureOnes S_days S_slid S_foundCount S_propCount L_pile u18 0) ∧ (r18 = 0 → wX2_takeStep_300 K T_seats T_empires T_finds T_froms T_tos T_coins T_details S_heights S_sureOnes S_days S_slid S_foundCount S_propCount L_pile u18 1)))) ∧ (p1 = 45 → wX2_push L_pile L_piled p2 (fun u19 => K (u19.1, u19.2))) ∧ (p1 = 46 → wX2_pull L_pile L_piled (fun r20 u20 => wX2_push L_pile u20 (-r20) (fun u21 => K (u21.1, u21.2)))) ∧ (¬ p1 = 15 → ¬ p1 = 16 → ¬ p1 = 17 → ¬ p1 = 18 → ¬ p1 = 19 → ¬ p1 = 20 → ¬ p1 = 21 → ¬ p1 = 22 → ¬ p1 = 23 → ¬ p1 = 24 → ¬ p1 = 45 → ¬ p1 = 46 → wX2_pull L_pile L_piled (fun r22 u22 => wX2_pull L_pile u22 (fun r23 u23 => wX2_join p1 r23 r22 (fun r24 u24 => wX2_push L_pile u23 r24 (fun u25 => K (u25.1, u25.2)))))))
set_option maxRecDepth 100000 in
set_option maxHeartbeats 4000000 in
theorem bX2_takeStep {D : gD} {cB cI cJ cZ : ClassId} {E : gE} {A : Nat → Prop} {Q : State → Prop} {aL aT aT_froms aT_tos aT_coins aT_details aL_pile aS aS_heights aS_sureOnes aP aT_names aT_cushions aT_findsIn aT_springsIn aS_stacks aS_loose aS_propped aS_foundOnes : Nat} {L_piled T_seats T_strata T_empires T_finds S_days S_carriedOut S_dug S_slid S_foundCount S_sureCount S_propCount : Int32} {T_froms T_tos T_coins T_details L_pile S_heights S_sureOnes : Nat → Int32} (C : Cx D (gT cB cI cJ cZ) E rmX2_takeStep cX2_takeStep 6 RX2 A) {p1 : Int32} {p2 : Int32} {K : ((Nat → Int32) × Int32) → Prop} (hret : ∀ (u : (Nat → Int32) × Int32) (pc : Nat) (ls : List (Nat × Value)), K u → decode cX2_takeStep pc = .ok (.return_, 1) → Go D E A Q 6 0 0 [(aL, .inr (1, [.ref aL_pile, .int u.2])), (aT, .inr (6, [.ref aP, .int T_seats, .int T_strata, .int T_empires, .int T_finds, .ref aT_names, .ref aT_froms, .ref aT_tos, .ref aT_coins, .ref aT_cushions, .ref aT_details, .ref aT_findsIn, .ref aT_springsIn])), (aT_froms, .inl (cI, 6, .inl T_froms)), (aT_tos, .inl (cI, 6, .inl T_tos)), (aT_coins, .inl (cZ, 24, .inl T_coins)), (aT_details, .inl (cI, 24, .inl T_details)), (aL_pile, .inl (cI, 400, .inl u.1)), (aS, .inr (3, [.ref aT, .ref aS_stacks, .ref aS_heights, .ref aS_loose, .ref aS_propped, .ref aS_foundOnes, .ref aS_sureOnes, .int S_days, .int S_carriedOut, .int S_dug, .int S_slid, .int S_foundCount, .int S_sureCount, .int S_propCount])), (aS_heights, .inl (cI, 8, .inl S_heights)), (aS_sureOnes, .inl (cZ, 24, .inl S_sureOnes))] ls pc []) (h : wX2_takeStep T_seats T_empires T_finds T_froms T_tos T_coins T_details L_pile L_piled S_heights S_sureOnes S_days S_slid S_foundCount S_propCount p1 p2 K) : Go D E A Q 6 0 0 [(aL, .inr (1, [.ref aL_pile, .int L_piled])), (aT, .inr (6, [.ref aP, .int T_seats, .int T_strata, .int T_empires, .int T_finds, .ref aT_names, .ref aT_froms, .ref aT_tos, .ref aT_coins, .ref aT_cushions, .ref aT_details, .ref aT_findsIn, .ref aT_springsIn])), (aT_froms, .inl (cI, 6, .inl T_froms)), (aT_tos, .inl (cI, 6, .inl T_tos)), (aT_coins, .inl (cZ, 24, .inl T_coins)), (aT_details, .inl (cI, 24, .inl T_details)), (aL_pile, .inl (cI, 400, .inl L_pile)), (aS, .inr (3, [.ref aT, .ref aS_stacks, .ref aS_heights, .ref aS_loose, .ref aS_propped, .ref aS_foundOnes, .ref aS_sureOnes, .int S_days, .int S_carriedOut, .int S_dug, .int S_slid, .int S_foundCount, .int S_sureCount, .int S_propCount])), (aS_heights, .inl (cI, 8, .inl S_heights)), (aS_sureOnes, .inl (cZ, 24, .inl S_sureOnes))] [(0, .ref aL), (1, .ref aS), (2, .int p1), (3, .int p2)] 0 [] := by
  unfold wX2_takeStep at h
  refine q_iload_n C dX2_takeStep_0 2 rfl ?_
  by_cases hq : p1 = 15
  · replace h := h.1 hq
    refine q_tableK C 15 152 hq dX2_takeStep_1 (by decide) (by decide) rfl (by decide) ?_
    refine q_aload_n C dX2_takeStep_152 0 rfl ?_
    refine q_aload_n C dX2_takeStep_153 1 rfl ?_
    refine q_get C inX4g rfl 7 (by decide) fl_X2_58 rfl 7 rfl rfl dX2_takeStep_154 ?_
    refine q_callVV C (cX2_push_ok _ h) cf_X2_105 im_X2_push se_X2_push 1 rfl rfl rfl rfl ⟨Nat.le_of_ble_eq_true rfl, Nat.le_of_ble_eq_true rfl⟩ ⟨Nat.le_of_ble_eq_true rfl, Nat.le_of_ble_eq_true rfl⟩ 0 0 ⟨rfl, rfl⟩ [0, 6] [1, 2, 3, 4, 5, 7, 8, 9] (wr := [(aT, .inr (6, [.ref aP, .int T_seats, .int T_strata, .int T_empires, .int T_finds, .ref aT_names, .ref aT_froms, .ref aT_tos, .ref aT_coins, .ref aT_cushions, .ref aT_details, .ref aT_findsIn, .ref aT_springsIn])), (aT_froms, .inl (cI, 6, .inl T_froms)), (aT_tos, .inl (cI, 6, .inl T_tos)), (aT_coins, .inl (cZ, 24, .inl T_coins)), (aT_details, .inl (cI, 24, .inl T_details)), (aS, .inr (3, [.ref aT, .ref aS_stacks, .ref aS_heights, .ref aS_loose, .ref aS_propped, .ref aS_foundOnes, .ref aS_sureOnes, .int S_days, .int S_carriedOut, .int S_dug, .int S_slid, .int S_foundCount, .int S_sureCount, .int S_propCount])), (aS_heights, .inl (cI, 8, .inl S_heights)), (aS_sureOnes, .inl (cZ, 24, .inl S_sureOnes))]) rfl rfl rfl rfl (by decide) (fun u1 : (Nat → Int32) × Int32 => [(aL, .inr (1, [.ref aL_pile, .int u1.2])), (aT, .inr (6, [.ref aP, .int T_seats, .int T_strata, .int T_empires, .int T_finds, .ref aT_names, .ref aT_froms, .ref aT_tos, .ref aT_coins, .ref aT_cushions, .ref aT_details, .ref aT_findsIn, .ref aT_springsIn])), (aT_froms, .inl (cI, 6, .inl T_froms)), (aT_tos, .inl (cI, 6, .inl T_tos)), (aT_coins, .inl (cZ, 24, .inl T_coins)), (aT_details, .inl (cI, 24, .inl T_details)), (aL_pile, .inl (cI, 400, .inl u1.1)), (aS, .inr (3, [.ref aT, .ref aS_stacks, .ref aS_heights, .ref aS_loose, .ref aS_propped, .ref aS_foundOnes, .ref aS_sureOnes, .int S_days, .int S_carriedOut, .int S_dug, .int S_slid, .int S_foundCount, .int S_sureCount, .int S_propCount])), (aS_heights, .inl (cI, 8, .inl S_heights)), (aS_sureOnes, .inl (cZ, 24, .inl S_sureOnes))]) [8, 0, 1, 2, 3, 4, 9, 5, 6, 7] rfl (fun _ => rfl) (rest := []) rfl (Nat.le_of_ble_eq_true rfl) dX2_takeStep_157 (fun u1 h => ?_)
    refine q_goto (tgt := 330) C dX2_takeStep_160 (by decide) ?_
    exact hret (u1.1, u1.2) _ _ h dX2_takeStep_330
  · have hn0 := hq
    by_cases hq : p1 = 16
    · replace h := h.2.1 hq
      refine q_tableK C 16 163 hq dX2_takeStep_1 (by decide) (by decide) rfl (by decide) ?_
      refine q_aload_n C dX2_takeStep_163 0 rfl ?_
      refine q_aload_n C dX2_takeStep_164 1 rfl ?_
      refine q_get C inX4g rfl 11 (by decide) fl_X2_108 rfl 7 rfl rfl dX2_takeStep_165 ?_
      refine q_callVV C (cX2_push_ok _ h) cf_X2_105 im_X2_push se_X2_push 1 rfl rfl rfl rfl ⟨Nat.le_of_ble_eq_true rfl, Nat.le_of_ble_eq_true rfl⟩ ⟨Nat.le_of_ble_eq_true rfl, Nat.le_of_ble_eq_true rfl⟩ 0 0 ⟨rfl, rfl⟩ [0, 6] [1, 2, 3, 4, 5, 7, 8, 9] (wr := [(aT, .inr (6, [.ref aP, .int T_seats, .int T_strata, .int T_empires, .int T_finds, .ref aT_names, .ref aT_froms, .ref aT_tos, .ref aT_coins, .ref aT_cushions, .ref aT_details, .ref aT_findsIn, .ref aT_springsIn])), (aT_froms, .inl (cI, 6, .inl T_froms)), (aT_tos, .inl (cI, 6, .inl T_tos)), (aT_coins, .inl (cZ, 24, .inl T_coins)), (aT_details, .inl (cI, 24, .inl T_details)), (aS, .inr (3, [.ref aT, .ref aS_stacks, .ref aS_heights, .ref aS_loose, .ref aS_propped, .ref aS_foundOnes, .ref aS_sureOnes, .int S_days, .int S_carriedOut, .int S_dug, .int S_slid, .int S_foundCount, .int S_sureCount, .int S_propCount])), (aS_heights, .inl (cI, 8, .inl S_heights)), (aS_sureOnes, .inl (cZ, 24, .inl S_sureOnes))]) rfl rfl rfl rfl (by decide) (fun u2 : (Nat → Int32) × Int32 => [(aL, .inr (1, [.ref aL_pile, .int u2.2])), (aT, .inr (6, [.ref aP, .int T_seats, .int T_strata, .int T_empires, .int T_finds, .ref aT_names, .ref aT_froms, .ref aT_tos, .ref aT_coins, .ref aT_cushions, .ref aT_details, .ref aT_findsIn, .ref aT_springsIn])), (aT_froms, .inl (cI, 6, .inl T_froms)), (aT_tos, .inl (cI, 6, .inl T_tos)), (aT_coins, .inl (cZ, 24, .inl T_coins)), (aT_details, .inl (cI, 24, .inl T_details)), (aL_pile, .inl (cI, 400, .inl u2.1)), (aS, .inr (3, [.ref aT, .ref aS_stacks, .ref aS_heights, .ref aS_loose, .ref aS_propped, .ref aS_foundOnes, .ref aS_sureOnes, .int S_days, .int S_carriedOut, .int S_dug, .int S_slid, .int S_foundCount, .int S_sureCount, .int S_propCount])), (aS_heights, .inl (cI, 8, .inl S_heights)), (aS_sureOnes, .inl (cZ, 24, .inl S_sureOnes))]) [8, 0, 1, 2, 3, 4, 9, 5, 6, 7] rfl (fun _ => rfl) (rest := []) rfl (Nat.le_of_ble_eq_true rfl) dX2_takeStep_168 (fun u2 h => ?_)
      refine q_goto (tgt := 330) C dX2_takeStep_171 (by decide) ?_
      exact hret (u2.1, u2.2) _ _ h dX2_takeStep_330
    · have hn1 := hq
      by_cases hq : p1 = 17
      · replace h := h.2.2.1 hq
        refine q_tableK C 17 174 hq dX2_takeStep_1 (by decide) (by decide) rfl (by decide) ?_
        refine q_aload_n C dX2_takeStep_174 0 rfl ?_
        refine q_aload_n C dX2_takeStep_175 1 rfl ?_
        refine q_get C inX4g rfl 10 (by decide) fl_X2_111 rfl 7 rfl rfl dX2_takeStep_176 ?_
        refine q_callVV C (cX2_push_ok _ h) cf_X2_105 im_X2_push se_X2_push 1 rfl rfl rfl rfl ⟨Nat.le_of_ble_eq_true rfl, Nat.le_of_ble_eq_true rfl⟩ ⟨Nat.le_of_ble_eq_true rfl, Nat.le_of_ble_eq_true rfl⟩ 0 0 ⟨rfl, rfl⟩ [0, 6] [1, 2, 3, 4, 5, 7, 8, 9] (wr := [(aT, .inr (6, [.ref aP, .int T_seats, .int T_strata, .int T_empires, .int T_finds, .ref aT_names, .ref aT_froms, .ref aT_tos, .ref aT_coins, .ref aT_cushions, .ref aT_details, .ref aT_findsIn, .ref aT_springsIn])), (aT_froms, .inl (cI, 6, .inl T_froms)), (aT_tos, .inl (cI, 6, .inl T_tos)), (aT_coins, .inl (cZ, 24, .inl T_coins)), (aT_details, .inl (cI, 24, .inl T_details)), (aS, .inr (3, [.ref aT, .ref aS_stacks, .ref aS_heights, .ref aS_loose, .ref aS_propped, .ref aS_foundOnes, .ref aS_sureOnes, .int S_days, .int S_carriedOut, .int S_dug, .int S_slid, .int S_foundCount, .int S_sureCount, .int S_propCount])), (aS_heights, .inl (cI, 8, .inl S_heights)), (aS_sureOnes, .inl (cZ, 24, .inl S_sureOnes))]) rfl rfl rfl rfl (by decide) (fun u3 : (Nat → Int32) × Int32 => [(aL, .inr (1, [.ref aL_pile, .int u3.2])), (aT, .inr (6, [.ref aP, .int T_seats, .int T_strata, .int T_empires, .int T_finds, .ref aT_names, .ref aT_froms, .ref aT_tos, .ref aT_coins, .ref aT_cushions, .ref aT_details, .ref aT_findsIn, .ref aT_springsIn])), (aT_froms, .inl (cI, 6, .inl T_froms)), (aT_tos, .inl (cI, 6, .inl T_tos)), (aT_coins, .inl (cZ, 24, .inl T_coins)), (aT_details, .inl (cI, 24, .inl T_details)), (aL_pile, .inl (cI, 400, .inl u3.1)), (aS, .inr (3, [.ref aT, .ref aS_stacks, .ref aS_heights, .ref aS_loose, .ref aS_propped, .ref aS_foundOnes, .ref aS_sureOnes, .int S_days, .int S_carriedOut, .int S_dug, .int S_slid, .int S_foundCount, .int S_sureCount, .int S_propCount])), (aS_heights, .inl (cI, 8, .inl S_heights)), (aS_sureOnes, .inl (cZ, 24, .inl S_sureOnes))]) [8, 0, 1, 2, 3, 4, 9, 5, 6, 7] rfl (fun _ => rfl) (rest := []) rfl (Nat.le_of_ble_eq_true rfl) dX2_takeStep_179 (fun u3 h => ?_)
        refine q_goto (tgt := 330) C dX2_takeStep_182 (by decide) ?_
        exact hret (u3.1, u3.2) _ _ h dX2_takeStep_330
      · have hn2 := hq
        by_cases hq : p1 = 18
        · replace h := h.2.2.2.1 hq
          refine q_tableK C 18 185 hq dX2_takeStep_1 (by decide) (by decide) rfl (by decide) ?_
          refine q_aload_n C dX2_takeStep_185 0 rfl ?_
          refine q_aload_n C dX2_takeStep_186 1 rfl ?_
          refine q_get C inX4g rfl 13 (by decide) fl_X2_114 rfl 7 rfl rfl dX2_takeStep_187 ?_
          refine q_callVV C (cX2_push_ok _ h) cf_X2_105 im_X2_push se_X2_push 1 rfl rfl rfl rfl ⟨Nat.le_of_ble_eq_true rfl, Nat.le_of_ble_eq_true rfl⟩ ⟨Nat.le_of_ble_eq_true rfl, Nat.le_of_ble_eq_true rfl⟩ 0 0 ⟨rfl, rfl⟩ [0, 6] [1, 2, 3, 4, 5, 7, 8, 9] (wr := [(aT, .inr (6, [.ref aP, .int T_seats, .int T_strata, .int T_empires, .int T_finds, .ref aT_names, .ref aT_froms, .ref aT_tos, .ref aT_coins, .ref aT_cushions, .ref aT_details, .ref aT_findsIn, .ref aT_springsIn])), (aT_froms, .inl (cI, 6, .inl T_froms)), (aT_tos, .inl (cI, 6, .inl T_tos)), (aT_coins, .inl (cZ, 24, .inl T_coins)), (aT_details, .inl (cI, 24, .inl T_details)), (aS, .inr (3, [.ref aT, .ref aS_stacks, .ref aS_heights, .ref aS_loose, .ref aS_propped, .ref aS_foundOnes, .ref aS_sureOnes, .int S_days, .int S_carriedOut, .int S_dug, .int S_slid, .int S_foundCount, .int S_sureCount, .int S_propCount])), (aS_heights, .inl (cI, 8, .inl S_heights)), (aS_sureOnes, .inl (cZ, 24, .inl S_sureOnes))]) rfl rfl rfl rfl (by decide) (fun u4 : (Nat → Int32) × Int32 => [(aL, .inr (1, [.ref aL_pile, .int u4.2])), (aT, .inr (6, [.ref aP, .int T_seats, .int T_strata, .int T_empires, .int T_finds, .ref aT_names, .ref aT_froms, .ref aT_tos, .ref aT_coins, .ref aT_cushions, .ref aT_details, .ref aT_findsIn, .ref aT_springsIn])), (aT_froms, .inl (cI, 6, .inl T_froms)), (aT_tos, .inl (cI, 6, .inl T_tos)), (aT_coins, .inl (cZ, 24, .inl T_coins)), (aT_details, .inl (cI, 24, .inl T_details)), (aL_pile, .inl (cI, 400, .inl u4.1)), (aS, .inr (3, [.ref aT, .ref aS_stacks, .ref aS_heights, .ref aS_loose, .ref aS_propped, .ref aS_foundOnes, .ref aS_sureOnes, .int S_days, .int S_carriedOut, .int S_dug, .int S_slid, .int S_foundCount, .int S_sureCount, .int S_propCount])), (aS_heights, .inl (cI, 8, .inl S_heights)), (aS_sureOnes, .inl (cZ, 24, .inl S_sureOnes))]) [8, 0, 1, 2, 3, 4, 9, 5, 6, 7] rfl (fun _ => rfl) (rest := []) rfl (Nat.le_of_ble_eq_true rfl) dX2_takeStep_190 (fun u4 h => ?_)
          refine q_goto (tgt := 330) C dX2_takeStep_193 (by decide) ?_
          exact hret (u4.1, u4.2) _ _ h dX2_takeStep_330
        · have hn3 := hq
          by_cases hq : p1 = 19
          · replace h := h.2.2.2.2.1 hq
            refine q_tableK C 19 196 hq dX2_takeStep_1 (by decide) (by decide) rfl (by decide) ?_
            refine q_aload_n C dX2_takeStep_196 0 rfl ?_
            refine q_aload_n C dX2_takeStep_197 1 rfl ?_
            refine q_get C inX4g rfl 0 (by decide) fl_X2_15 rfl 7 rfl rfl dX2_takeStep_198 ?_
            refine q_iload_n C dX2_takeStep_201 3 rfl ?_
            refine q_callVI C (cX7_fromOf_ok _ h) cf_X2_117 im_X7_fromOf se_X7_fromOf 6 rfl rfl rfl rfl ⟨Nat.le_of_ble_eq_true rfl, Nat.le_of_ble_eq_true rfl⟩ ⟨Nat.le_of_ble_eq_true rfl, Nat.le_of_ble_eq_true rfl⟩ 0 0 ⟨rfl, rfl⟩ [1, 2] [0, 3, 4, 5, 6, 7, 8, 9] (wr := [(aL, .inr (1, [.ref aL_pile, .int L_piled])), (aT_tos, .inl (cI, 6, .inl T_tos)), (aT_coins, .inl (cZ, 24, .inl T_coins)), (aT_details, .inl (cI, 24, .inl T_details)), (aL_pile, .inl (cI, 400, .inl L_pile)), (aS, .inr (3, [.ref aT, .ref aS_stacks, .ref aS_heights, .ref aS_loose, .ref aS_propped, .ref aS_foundOnes, .ref aS_sureOnes, .int S_days, .int S_carriedOut, .int S_dug, .int S_slid, .int S_foundCount, .int S_sureCount, .int S_propCount])), (aS_heights, .inl (cI, 8, .inl S_heights)), (aS_sureOnes, .inl (cZ, 24, .inl S_sureOnes))]) rfl rfl rfl rfl (by decide) (fun u5 : Unit => [(aL, .inr (1, [.ref aL_pile, .int L_piled])), (aT, .inr (6, [.ref aP, .int T_seats, .int T_strata, .int T_empires, .int T_finds, .ref aT_names, .ref aT_froms, .ref aT_tos, .ref aT_coins, .ref aT_cushions, .ref aT_details, .ref aT_findsIn, .ref aT_springsIn])), (aT_froms, .inl (cI, 6, .inl T_froms)), (aT_tos, .inl (cI, 6, .inl T_tos)), (aT_coins, .inl (cZ, 24, .inl T_coins)), (aT_details, .inl (cI, 24, .inl T_details)), (aL_pile, .inl (cI, 400, .inl L_pile)), (aS, .inr (3, [.ref aT, .ref aS_stacks, .ref aS_heights, .ref aS_loose, .ref aS_propped, .ref aS_foundOnes, .ref aS_sureOnes, .int S_days, .int S_carriedOut, .int S_dug, .int S_slid, .int S_foundCount, .int S_sureCount, .int S_propCount])), (aS_heights, .inl (cI, 8, .inl S_heights)), (aS_sureOnes, .inl (cZ, 24, .inl S_sureOnes))]) [0, 8, 9, 1, 2, 3, 4, 5, 6, 7] rfl (fun _ => rfl) (rest := [.ref aL]) rfl (Nat.le_of_ble_eq_true rfl) dX2_takeStep_202 (fun r5 u5 h => ?_)
            refine q_callVV C (cX2_push_ok _ h) cf_X2_105 im_X2_push se_X2_push 1 rfl rfl rfl rfl ⟨Nat.le_of_ble_eq_true rfl, Nat.le_of_ble_eq_true rfl⟩ ⟨Nat.le_of_ble_eq_true rfl, Nat.le_of_ble_eq_true rfl⟩ 0 0 ⟨rfl, rfl⟩ [0, 6] [1, 2, 3, 4, 5, 7, 8, 9] (wr := [(aT, .inr (6, [.ref aP, .int T_seats, .int T_strata, .int T_empires, .int T_finds, .ref aT_names, .ref aT_froms, .ref aT_tos, .ref aT_coins, .ref aT_cushions, .ref aT_details, .ref aT_findsIn, .ref aT_springsIn])), (aT_froms, .inl (cI, 6, .inl T_froms)), (aT_tos, .inl (cI, 6, .inl T_tos)), (aT_coins, .inl (cZ, 24, .inl T_coins)), (aT_details, .inl (cI, 24, .inl T_details)), (aS, .inr (3, [.ref aT, .ref aS_stacks, .ref aS_heights, .ref aS_loose, .ref aS_propped, .ref aS_foundOnes, .ref aS_sureOnes, .int S_days, .int S_carriedOut, .int S_dug, .int S_slid, .int S_foundCount, .int S_sureCount, .int S_propCount])), (aS_heights, .inl (cI, 8, .inl S_heights)), (aS_sureOnes, .inl (cZ, 24, .inl S_sureOnes))]) rfl rfl rfl rfl (by decide) (fun u6 : (Nat → Int32) × Int32 => [(aL, .inr (1, [.ref aL_pile, .int u6.2])), (aT, .inr (6, [.ref aP, .int T_seats, .int T_strata, .int T_empires, .int T_finds, .ref aT_names, .ref aT_froms, .ref aT_tos, .ref aT_coins, .ref aT_cushions, .ref aT_details, .ref aT_findsIn, .ref aT_springsIn])), (aT_froms, .inl (cI, 6, .inl T_froms)), (aT_tos, .inl (cI, 6, .inl T_tos)), (aT_coins, .inl (cZ, 24, .inl T_coins)), (aT_details, .inl (cI, 24, .inl T_details)), (aL_pile, .inl (cI, 400, .inl u6.1)), (aS, .inr (3, [.ref aT, .ref aS_stacks, .ref aS_heights, .ref aS_loose, .ref aS_propped, .ref aS_foundOnes, .ref aS_sureOnes, .int S_days, .int S_carriedOut, .int S_dug, .int S_slid, .int S_foundCount, .int S_sureCount, .int S_propCount])), (aS_heights, .inl (cI, 8, .inl S_heights)), (aS_sureOnes, .inl (cZ, 24, .inl S_sureOnes))]) [8, 0, 1, 2, 3, 4, 9, 5, 6, 7] rfl (fun _ => rfl) (rest := []) rfl (Nat.le_of_ble_eq_true rfl) dX2_takeStep_205 (fun u6 h => ?_)
            refine q_goto (tgt := 330) C dX2_takeStep_208 (by decide) ?_
            exact hret (u6.1, u6.2) _ _ h dX2_takeStep_330
          · have hn4 := hq
            by_cases hq : p1 = 20
            · replace h := h.2.2.2.2.2.1 hq
              refine q_tableK C 20 211 hq dX2_takeStep_1 (by decide) (by decide) rfl (by decide) ?_
              refine q_aload_n C dX2_takeStep_211 0 rfl ?_
              refine q_aload_n C dX2_takeStep_212 1 rfl ?_
              refine q_get C inX4g rfl 0 (by decide) fl_X2_15 rfl 7 rfl rfl dX2_takeStep_213 ?_
              refine q_iload_n C dX2_takeStep_216 3 rfl ?_
              refine q_callVI C (cX7_toOf_ok _ h) cf_X2_120 im_X7_toOf se_X7_toOf 6 rfl rfl rfl rfl ⟨Nat.le_of_ble_eq_true rfl, Nat.le_of_ble_eq_true rfl⟩ ⟨Nat.le_of_ble_eq_true rfl, Nat.le_of_ble_eq_true rfl⟩ 0 0 ⟨rfl, rfl⟩ [1, 3] [0, 2, 4, 5, 6, 7, 8, 9] (wr := [(aL, .inr (1, [.ref aL_pile, .int L_piled])), (aT_froms, .inl (cI, 6, .inl T_froms)), (aT_coins, .inl (cZ, 24, .inl T_coins)), (aT_details, .inl (cI, 24, .inl T_details)), (aL_pile, .inl (cI, 400, .inl L_pile)), (aS, .inr (3, [.ref aT, .ref aS_stacks, .ref aS_heights, .ref aS_loose, .ref aS_propped, .ref aS_foundOnes, .ref aS_sureOnes, .int S_days, .int S_carriedOut, .int S_dug, .int S_slid, .int S_foundCount, .int S_sureCount, .int S_propCount])), (aS_heights, .inl (cI, 8, .inl S_heights)), (aS_sureOnes, .inl (cZ, 24, .inl S_sureOnes))]) rfl rfl rfl rfl (by decide) (fun u7 : Unit => [(aL, .inr (1, [.ref aL_pile, .int L_piled])), (aT, .inr (6, [.ref aP, .int T_seats, .int T_strata, .int T_empires, .int T_finds, .ref aT_names, .ref aT_froms, .ref aT_tos, .ref aT_coins, .ref aT_cushions, .ref aT_details, .ref aT_findsIn, .ref aT_springsIn])), (aT_froms, .inl (cI, 6, .inl T_froms)), (aT_tos, .inl (cI, 6, .inl T_tos)), (aT_coins, .inl (cZ, 24, .inl T_coins)), (aT_details, .inl (cI, 24, .inl T_details)), (aL_pile, .inl (cI, 400, .inl L_pile)), (aS, .inr (3, [.ref aT, .ref aS_stacks, .ref aS_heights, .ref aS_loose, .ref aS_propped, .ref aS_foundOnes, .ref aS_sureOnes, .int S_days, .int S_carriedOut, .int S_dug, .int S_slid, .int S_foundCount, .int S_sureCount, .int S_propCount])), (aS_heights, .inl (cI, 8, .inl S_heights)), (aS_sureOnes, .inl (cZ, 24, .inl S_sureOnes))]) [0, 8, 1, 9, 2, 3, 4, 5, 6, 7] rfl (fun _ => rfl) (rest := [.ref aL]) rfl (Nat.le_of_ble_eq_true rfl) dX2_takeStep_217 (fun r7 u7 h => ?_)
              refine q_callVV C (cX2_push_ok _ h) cf_X2_105 im_X2_push se_X2_push 1 rfl rfl rfl rfl ⟨Nat.le_of_ble_eq_true rfl, Nat.le_of_ble_eq_true rfl⟩ ⟨Nat.le_of_ble_eq_true rfl, Nat.le_of_ble_eq_true rfl⟩ 0 0 ⟨rfl, rfl⟩ [0, 6] [1, 2, 3, 4, 5, 7, 8, 9] (wr := [(aT, .inr (6, [.ref aP, .int T_seats, .int T_strata, .int T_empires, .int T_finds, .ref aT_names, .ref aT_froms, .ref aT_tos, .ref aT_coins, .ref aT_cushions, .ref aT_details, .ref aT_findsIn, .ref aT_springsIn])), (aT_froms, .inl (cI, 6, .inl T_froms)), (aT_tos, .inl (cI, 6, .inl T_tos)), (aT_coins, .inl (cZ, 24, .inl T_coins)), (aT_details, .inl (cI, 24, .inl T_details)), (aS, .inr (3, [.ref aT, .ref aS_stacks, .ref aS_heights, .ref aS_loose, .ref aS_propped, .ref aS_foundOnes, .ref aS_sureOnes, .int S_days, .int S_carriedOut, .int S_dug, .int S_slid, .int S_foundCount, .int S_sureCount, .int S_propCount])), (aS_heights, .inl (cI, 8, .inl S_heights)), (aS_sureOnes, .inl (cZ, 24, .inl S_sureOnes))]) rfl rfl rfl rfl (by decide) (fun u8 : (Nat → Int32) × Int32 => [(aL, .inr (1, [.ref aL_pile, .int u8.2])), (aT, .inr (6, [.ref aP, .int T_seats, .int T_strata, .int T_empires, .int T_finds, .ref aT_names, .ref aT_froms, .ref aT_tos, .ref aT_coins, .ref aT_cushions, .ref aT_details, .ref aT_findsIn, .ref aT_springsIn])), (aT_froms, .inl (cI, 6, .inl T_froms)), (aT_tos, .inl (cI, 6, .inl T_tos)), (aT_coins, .inl (cZ, 24, .inl T_coins)), (aT_details, .inl (cI, 24, .inl T_details)), (aL_pile, .inl (cI, 400, .inl u8.1)), (aS, .inr (3, [.ref aT, .ref aS_stacks, .ref aS_heights, .ref aS_loose, .ref aS_propped, .ref aS_foundOnes, .ref aS_sureOnes, .int S_days, .int S_carriedOut, .int S_dug, .int S_slid, .int S_foundCount, .int S_sureCount, .int S_propCount])), (aS_heights, .inl (cI, 8, .inl S_heights)), (aS_sureOnes, .inl (cZ, 24, .inl S_sureOnes))]) [8, 0, 1, 2, 3, 4, 9, 5, 6, 7] rfl (fun _ => rfl) (rest := []) rfl (Nat.le_of_ble_eq_true rfl) dX2_takeStep_220 (fun u8 h => ?_)
              refine q_goto (tgt := 330) C dX2_takeStep_223 (by decide) ?_
              exact hret (u8.1, u8.2) _ _ h dX2_takeStep_330
            · have hn5 := hq
              by_cases hq : p1 = 21
              · replace h := h.2.2.2.2.2.2.1 hq
                refine q_tableK C 21 238 hq dX2_takeStep_1 (by decide) (by decide) rfl (by decide) ?_
                refine q_aload_n C dX2_takeStep_238 0 rfl ?_
                refine q_aload_n C dX2_takeStep_239 1 rfl ?_
                refine q_aload_n C dX2_takeStep_240 1 rfl ?_
                refine q_get C inX4g rfl 0 (by decide) fl_X2_15 rfl 7 rfl rfl dX2_takeStep_241 ?_
                refine q_aload_n C dX2_takeStep_244 0 rfl ?_
                refine q_callVI C (cX2_pull_ok _ h) cf_X2_101 im_X2_pull se_X2_pull 1 rfl rfl rfl rfl ⟨Nat.le_of_ble_eq_true rfl, Nat.le_of_ble_eq_true rfl⟩ ⟨Nat.le_of_ble_eq_true rfl, Nat.le_of_ble_eq_true rfl⟩ 0 0 ⟨rfl, rfl⟩ [0, 6] [1, 2, 3, 4, 5, 7, 8, 9] (wr := [(aT, .inr (6, [.ref aP, .int T_seats, .int T_strata, .int T_empires, .int T_finds, .ref aT_names, .ref aT_froms, .ref aT_tos, .ref aT_coins, .ref aT_cushions, .ref aT_details, .ref aT_findsIn, .ref aT_springsIn])), (aT_froms, .inl (cI, 6, .inl T_froms)), (aT_tos, .inl (cI, 6, .inl T_tos)), (aT_coins, .inl (cZ, 24, .inl T_coins)), (aT_details, .inl (cI, 24, .inl T_details)), (aS, .inr (3, [.ref aT, .ref aS_stacks, .ref aS_heights, .ref aS_loose, .ref aS_propped, .ref aS_foundOnes, .ref aS_sureOnes, .int S_days, .int S_carriedOut, .int S_dug, .int S_slid, .int S_foundCount, .int S_sureCount, .int S_propCount])), (aS_heights, .inl (cI, 8, .inl S_heights)), (aS_sureOnes, .inl (cZ, 24, .inl S_sureOnes))]) rfl rfl rfl rfl (by decide) (fun u9 : Int32 => [(aL, .inr (1, [.ref aL_pile, .int u9])), (aT, .inr (6, [.ref aP, .int T_seats, .int T_strata, .int T_empires, .int T_finds, .ref aT_names, .ref aT_froms, .ref aT_tos, .ref aT_coins, .ref aT_cushions, .ref aT_details, .ref aT_findsIn, .ref aT_springsIn])), (aT_froms, .inl (cI, 6, .inl T_froms)), (aT_tos, .inl (cI, 6, .inl T_tos)), (aT_coins, .inl (cZ, 24, .inl T_coins)), (aT_details, .inl (cI, 24, .inl T_details)), (aL_pile, .inl (cI, 400, .inl L_pile)), (aS, .inr (3, [.ref aT, .ref aS_stacks, .ref aS_heights, .ref aS_loose, .ref aS_propped, .ref aS_foundOnes, .ref aS_sureOnes, .int S_days, .int S_carriedOut, .int S_dug, .int S_slid, .int S_foundCount, .int S_sureCount, .int S_propCount])), (aS_heights, .inl (cI, 8, .inl S_heights)), (aS_sureOnes, .inl (cZ, 24, .inl S_sureOnes))]) [8, 0, 1, 2, 3, 4, 9, 5, 6, 7] rfl (fun _ => rfl) (rest := [.ref aT, .ref aS, .ref aL]) rfl (Nat.le_of_ble_eq_true rfl) dX2_takeStep_245 (fun r9 u9 h => ?_)
                refine q_callVI C (cX7_seatOfSum_ok _ h) cf_X2_51 im_X7_seatOfSum se_X7_seatOfSum 6 rfl rfl rfl rfl ⟨Nat.le_of_ble_eq_true rfl, Nat.le_of_ble_eq_true rfl⟩ ⟨Nat.le_of_ble_eq_true rfl, Nat.le_of_ble_eq_true rfl⟩ 0 0 ⟨rfl, rfl⟩ [1] [0, 2, 3, 4, 5, 6, 7, 8, 9] (wr := [(aL, .inr (1, [.ref aL_pile, .int u9])), (aT_froms, .inl (cI, 6, .inl T_froms)), (aT_tos, .inl (cI, 6, .inl T_tos)), (aT_coins, .inl (cZ, 24, .inl T_coins)), (aT_details, .inl (cI, 24, .inl T_details)), (aL_pile, .inl (cI, 400, .inl L_pile)), (aS, .inr (3, [.ref aT, .ref aS_stacks, .ref aS_heights, .ref aS_loose, .ref aS_propped, .ref aS_foundOnes, .ref aS_sureOnes, .int S_days, .int S_carriedOut, .int S_dug, .int S_slid, .int S_foundCount, .int S_sureCount, .int S_propCount])), (aS_heights, .inl (cI, 8, .inl S_heights)), (aS_sureOnes, .inl (cZ, 24, .inl S_sureOnes))]) rfl rfl rfl rfl (by decide) (fun u10 : Unit => [(aL, .inr (1, [.ref aL_pile, .int u9])), (aT, .inr (6, [.ref aP, .int T_seats, .int T_strata, .int T_empires, .int T_finds, .ref aT_names, .ref aT_froms, .ref aT_tos, .ref aT_coins, .ref aT_cushions, .ref aT_details, .ref aT_findsIn, .ref aT_springsIn])), (aT_froms, .inl (cI, 6, .inl T_froms)), (aT_tos, .inl (cI, 6, .inl T_tos)), (aT_coins, .inl (cZ, 24, .inl T_coins)), (aT_details, .inl (cI, 24, .inl T_details)), (aL_pile, .inl (cI, 400, .inl L_pile)), (aS, .inr (3, [.ref aT, .ref aS_stacks, .ref aS_heights, .ref aS_loose, .ref aS_propped, .ref aS_foundOnes, .ref aS_sureOnes, .int S_days, .int S_carriedOut, .int S_dug, .int S_slid, .int S_foundCount, .int S_sureCount, .int S_propCount])), (aS_heights, .inl (cI, 8, .inl S_heights)), (aS_sureOnes, .inl (cZ, 24, .inl S_sureOnes))]) [0, 9, 1, 2, 3, 4, 5, 6, 7, 8] rfl (fun _ => rfl) (rest := [.ref aS, .ref aL]) rfl (Nat.le_of_ble_eq_true rfl) dX2_takeStep_248 (fun r10 u10 h => ?_)
                refine q_callVI C (cX4_heightAt_ok _ h) cf_X2_66 im_X4_heightAt se_X4_heightAt 3 rfl rfl rfl rfl ⟨Nat.le_of_ble_eq_true rfl, Nat.le_of_ble_eq_true rfl⟩ ⟨Nat.le_of_ble_eq_true rfl, Nat.le_of_ble_eq_true rfl⟩ 0 0 ⟨rfl, rfl⟩ [7, 8] [0, 1, 2, 3, 4, 5, 6, 9] (wr := [(aL, .inr (1, [.ref aL_pile, .int u9])), (aT, .inr (6, [.ref aP, .int T_seats, .int T_strata, .int T_empires, .int T_finds, .ref aT_names, .ref aT_froms, .ref aT_tos, .ref aT_coins, .ref aT_cushions, .ref aT_details, .ref aT_findsIn, .ref aT_springsIn])), (aT_froms, .inl (cI, 6, .inl T_froms)), (aT_tos, .inl (cI, 6, .inl T_tos)), (aT_coins, .inl (cZ, 24, .inl T_coins)), (aT_details, .inl (cI, 24, .inl T_details)), (aL_pile, .inl (cI, 400, .inl L_pile)), (aS_sureOnes, .inl (cZ, 24, .inl S_sureOnes))]) rfl rfl rfl rfl (by decide) (fun u11 : Unit => [(aL, .inr (1, [.ref aL_pile, .int u9])), (aT, .inr (6, [.ref aP, .int T_seats, .int T_strata, .int T_empires, .int T_finds, .ref aT_names, .ref aT_froms, .ref aT_tos, .ref aT_coins, .ref aT_cushions, .ref aT_details, .ref aT_findsIn, .ref aT_springsIn])), (aT_froms, .inl (cI, 6, .inl T_froms)), (aT_tos, .inl (cI, 6, .inl T_tos)), (aT_coins, .inl (cZ, 24, .inl T_coins)), (aT_details, .inl (cI, 24, .inl T_details)), (aL_pile, .inl (cI, 400, .inl L_pile)), (aS, .inr (3, [.ref aT, .ref aS_stacks, .ref aS_heights, .ref aS_loose, .ref aS_propped, .ref aS_foundOnes, .ref aS_sureOnes, .int S_days, .int S_carriedOut, .int S_dug, .int S_slid, .int S_foundCount, .int S_sureCount, .int S_propCount])), (aS_heights, .inl (cI, 8, .inl S_heights)), (aS_sureOnes, .inl (cZ, 24, .inl S_sureOnes))]) [0, 1, 2, 3, 4, 5, 6, 8, 9, 7] rfl (fun _ => rfl) (rest := [.ref aL]) rfl (Nat.le_of_ble_eq_true rfl) dX2_takeStep_251 (fun r11 u11 h => ?_)
                refine q_callVV C (cX2_push_ok _ h) cf_X2_105 im_X2_push se_X2_push 1 rfl rfl rfl rfl ⟨Nat.le_of_ble_eq_true rfl, Nat.le_of_ble_eq_true rfl⟩ ⟨Nat.le_of_ble_eq_true rfl, Nat.le_of_ble_eq_true rfl⟩ 0 0 ⟨rfl, rfl⟩ [0, 6] [1, 2, 3, 4, 5, 7, 8, 9] (wr := [(aT, .inr (6, [.ref aP, .int T_seats, .int T_strata, .int T_empires, .int T_finds, .ref aT_names, .ref aT_froms, .ref aT_tos, .ref aT_coins, .ref aT_cushions, .ref aT_details, .ref aT_findsIn, .ref aT_springsIn])), (aT_froms, .inl (cI, 6, .inl T_froms)), (aT_tos, .inl (cI, 6, .inl T_tos)), (aT_coins, .inl (cZ, 24, .inl T_coins)), (aT_details, .inl (cI, 24, .inl T_details)), (aS, .inr (3, [.ref aT, .ref aS_stacks, .ref aS_heights, .ref aS_loose, .ref aS_propped, .ref aS_foundOnes, .ref aS_sureOnes, .int S_days, .int S_carriedOut, .int S_dug, .int S_slid, .int S_foundCount, .int S_sureCount, .int S_propCount])), (aS_heights, .inl (cI, 8, .inl S_heights)), (aS_sureOnes, .inl (cZ, 24, .inl S_sureOnes))]) rfl rfl rfl rfl (by decide) (fun u12 : (Nat → Int32) × Int32 => [(aL, .inr (1, [.ref aL_pile, .int u12.2])), (aT, .inr (6, [.ref aP, .int T_seats, .int T_strata, .int T_empires, .int T_finds, .ref aT_names, .ref aT_froms, .ref aT_tos, .ref aT_coins, .ref aT_cushions, .ref aT_details, .ref aT_findsIn, .ref aT_springsIn])), (aT_froms, .inl (cI, 6, .inl T_froms)), (aT_tos, .inl (cI, 6, .inl T_tos)), (aT_coins, .inl (cZ, 24, .inl T_coins)), (aT_details, .inl (cI, 24, .inl T_details)), (aL_pile, .inl (cI, 400, .inl u12.1)), (aS, .inr (3, [.ref aT, .ref aS_stacks, .ref aS_heights, .ref aS_loose, .ref aS_propped, .ref aS_foundOnes, .ref aS_sureOnes, .int S_days, .int S_carriedOut, .int S_dug, .int S_slid, .int S_foundCount, .int S_sureCount, .int S_propCount])), (aS_heights, .inl (cI, 8, .inl S_heights)), (aS_sureOnes, .inl (cZ, 24, .inl S_sureOnes))]) [8, 0, 1, 2, 3, 4, 9, 5, 6, 7] rfl (fun _ => rfl) (rest := []) rfl (Nat.le_of_ble_eq_true rfl) dX2_takeStep_254 (fun u12 h => ?_)
                refine q_goto (tgt := 330) C dX2_takeStep_257 (by decide) ?_
                exact hret (u12.1, u12.2) _ _ h dX2_takeStep_330
              · have hn6 := hq
                by_cases hq : p1 = 22
                · replace h := h.2.2.2.2.2.2.2.1 hq
                  refine q_tableK C 22 226 hq dX2_takeStep_1 (by decide) (by decide) rfl (by decide) ?_
                  refine q_aload_n C dX2_takeStep_226 0 rfl ?_
                  refine q_aload_n C dX2_takeStep_227 1 rfl ?_
                  refine q_iload_n C dX2_takeStep_228 3 rfl ?_
                  refine q_callVI C (cX4_sawEmpireAnywhere_ok _ h) cf_X2_123 im_X4_sawEmpireAnywhere se_X4_sawEmpireAnywhere 3 rfl rfl rfl rfl ⟨Nat.le_of_ble_eq_true rfl, Nat.le_of_ble_eq_true rfl⟩ ⟨Nat.le_of_ble_eq_true rfl, Nat.le_of_ble_eq_true rfl⟩ 0 0 ⟨rfl, rfl⟩ [7, 1, 4, 5, 9] [0, 2, 3, 6, 8] (wr := [(aL, .inr (1, [.ref aL_pile, .int L_piled])), (aT_froms, .inl (cI, 6, .inl T_froms)), (aT_tos, .inl (cI, 6, .inl T_tos)), (aL_pile, .inl (cI, 400, .inl L_pile)), (aS_heights, .inl (cI, 8, .inl S_heights))]) rfl rfl rfl rfl (by decide) (fun u13 : Unit => [(aL, .inr (1, [.ref aL_pile, .int L_piled])), (aT, .inr (6, [.ref aP, .int T_seats, .int T_strata, .int T_empires, .int T_finds, .ref aT_names, .ref aT_froms, .ref aT_tos, .ref aT_coins, .ref aT_cushions, .ref aT_details, .ref aT_findsIn, .ref aT_springsIn])), (aT_froms, .inl (cI, 6, .inl T_froms)), (aT_tos, .inl (cI, 6, .inl T_tos)), (aT_coins, .inl (cZ, 24, .inl T_coins)), (aT_details, .inl (cI, 24, .inl T_details)), (aL_pile, .inl (cI, 400, .inl L_pile)), (aS, .inr (3, [.ref aT, .ref aS_stacks, .ref aS_heights, .ref aS_loose, .ref aS_propped, .ref aS_foundOnes, .ref aS_sureOnes, .int S_days, .int S_carriedOut, .int S_dug, .int S_slid, .int S_foundCount, .int S_sureCount, .int S_propCount])), (aS_heights, .inl (cI, 8, .inl S_heights)), (aS_sureOnes, .inl (cZ, 24, .inl S_sureOnes))]) [0, 6, 1, 2, 7, 8, 3, 5, 4, 9] rfl (fun _ => rfl) (rest := [.ref aL]) rfl (Nat.le_of_ble_eq_true rfl) dX2_takeStep_229 (fun r13 u13 h => ?_)
                  obtain ⟨hb13, h⟩ := h
                  refine q_callVV C (cX2_pushTruth_ok _ h) cf_X2_126 im_X2_pushTruth se_X2_pushTruth 1 rfl rfl rfl rfl ⟨Nat.le_of_ble_eq_true rfl, Nat.le_of_ble_eq_true rfl⟩ ⟨Nat.le_of_ble_eq_true rfl, Nat.le_of_ble_eq_true rfl⟩ 0 0 ⟨rfl, rfl⟩ [0, 6] [1, 2, 3, 4, 5, 7, 8, 9] (wr := [(aT, .inr (6, [.ref aP, .int T_seats, .int T_strata, .int T_empires, .int T_finds, .ref aT_names, .ref aT_froms, .ref aT_tos, .ref aT_coins, .ref aT_cushions, .ref aT_details, .ref aT_findsIn, .ref aT_springsIn])), (aT_froms, .inl (cI, 6, .inl T_froms)), (aT_tos, .inl (cI, 6, .inl T_tos)), (aT_coins, .inl (cZ, 24, .inl T_coins)), (aT_details, .inl (cI, 24, .inl T_details)), (aS, .inr (3, [.ref aT, .ref aS_stacks, .ref aS_heights, .ref aS_loose, .ref aS_propped, .ref aS_foundOnes, .ref aS_sureOnes, .int S_days, .int S_carriedOut, .int S_dug, .int S_slid, .int S_foundCount, .int S_sureCount, .int S_propCount])), (aS_heights, .inl (cI, 8, .inl S_heights)), (aS_sureOnes, .inl (cZ, 24, .inl S_sureOnes))]) rfl rfl rfl rfl (by decide) (fun u14 : (Nat → Int32) × Int32 => [(aL, .inr (1, [.ref aL_pile, .int u14.2])), (aT, .inr (6, [.ref aP, .int T_seats, .int T_strata, .int T_empires, .int T_finds, .ref aT_names, .ref aT_froms, .ref aT_tos, .ref aT_coins, .ref aT_cushions, .ref aT_details, .ref aT_findsIn, .ref aT_springsIn])), (aT_froms, .inl (cI, 6, .inl T_froms)), (aT_tos, .inl (cI, 6, .inl T_tos)), (aT_coins, .inl (cZ, 24, .inl T_coins)), (aT_details, .inl (cI, 24, .inl T_details)), (aL_pile, .inl (cI, 400, .inl u14.1)), (aS, .inr (3, [.ref aT, .ref aS_stacks, .ref aS_heights, .ref aS_loose, .ref aS_propped, .ref aS_foundOnes, .ref aS_sureOnes, .int S_days, .int S_carriedOut, .int S_dug, .int S_slid, .int S_foundCount, .int S_sureCount, .int S_propCount])), (aS_heights, .inl (cI, 8, .inl S_heights)), (aS_sureOnes, .inl (cZ, 24, .inl S_sureOnes))]) [8, 0, 1, 2, 3, 4, 9, 5, 6, 7] rfl (fun _ => rfl) (rest := []) rfl (Nat.le_of_ble_eq_true rfl) dX2_takeStep_232 (fun u14 h => ?_)
                  refine q_goto (tgt := 330) C dX2_takeStep_235 (by decide) ?_
                  exact hret (u14.1, u14.2) _ _ h dX2_takeStep_330
                · have hn7 := hq
                  by_cases hq : p1 = 23
                  · replace h := h.2.2.2.2.2.2.2.2.1 hq
                    refine q_tableK C 23 260 hq dX2_takeStep_1 (by decide) (by decide) rfl (by decide) ?_
                    refine q_aload_n C dX2_takeStep_260 0 rfl ?_
                    refine q_aload_n C dX2_takeStep_261 1 rfl ?_
                    refine q_aload_n C dX2_takeStep_262 0 rfl ?_
                    refine q_callVI C (cX2_pull_ok _ h) cf_X2_101 im_X2_pull se_X2_pull 1 rfl rfl rfl rfl ⟨Nat.le_of_ble_eq_true rfl, Nat.le_of_ble_eq_true rfl⟩ ⟨Nat.le_of_ble_eq_true rfl, Nat.le_of_ble_eq_true rfl⟩ 0 0 ⟨rfl, rfl⟩ [0, 6] [1, 2, 3, 4, 5, 7, 8, 9] (wr := [(aT, .inr (6, [.ref aP, .int T_seats, .int T_strata, .int T_empires, .int T_finds, .ref aT_names, .ref aT_froms, .ref aT_tos, .ref aT_coins, .ref aT_cushions, .ref aT_details, .ref aT_findsIn, .ref aT_springsIn])), (aT_froms, .inl (cI, 6, .inl T_froms)), (aT_tos, .inl (cI, 6, .inl T_tos)), (aT_coins, .inl (cZ, 24, .inl T_coins)), (aT_details, .inl (cI, 24, .inl T_details)), (aS, .inr (3, [.ref aT, .ref aS_stacks, .ref aS_heights, .ref aS_loose, .ref aS_propped, .ref aS_foundOnes, .ref aS_sureOnes, .int S_days, .int S_carriedOut, .int S_dug, .int S_slid, .int S_foundCount, .int S_sureCount, .int S_propCount])), (aS_heights, .inl (cI, 8, .inl S_heights)), (aS_sureOnes, .inl (cZ, 24, .inl S_sureOnes))]) rfl rfl rfl rfl (by decide) (fun u15 : Int32 => [(aL, .inr (1, [.ref aL_pile, .int u15])), (aT, .inr (6, [.ref aP, .int T_seats, .int T_strata, .int T_empires, .int T_finds, .ref aT_names, .ref aT_froms, .ref aT_tos, .ref aT_coins, .ref aT_cushions, .ref aT_details, .ref aT_findsIn, .ref aT_springsIn])), (aT_froms, .inl (cI, 6, .inl T_froms)), (aT_tos, .inl (cI, 6, .inl T_tos)), (aT_coins, .inl (cZ, 24, .inl T_coins)), (aT_details, .inl (cI, 24, .inl T_details)), (aL_pile, .inl (cI, 400, .inl L_pile)), (aS, .inr (3, [.ref aT, .ref aS_stacks, .ref aS_heights, .ref aS_loose, .ref aS_propped, .ref aS_foundOnes, .ref aS_sureOnes, .int S_days, .int S_carriedOut, .int S_dug, .int S_slid, .int S_foundCount, .int S_sureCount, .int S_propCount])), (aS_heights, .inl (cI, 8, .inl S_heights)), (aS_sureOnes, .inl (cZ, 24, .inl S_sureOnes))]) [8, 0, 1, 2, 3, 4, 9, 5, 6, 7] rfl (fun _ => rfl) (rest := [.ref aS, .ref aL]) rfl (Nat.le_of_ble_eq_true rfl) dX2_takeStep_263 (fun r15 u15 h => ?_)
                    refine q_callVI C (cX4_wasSure_ok _ h) cf_X2_130 im_X4_wasSure se_X4_wasSure 3 rfl rfl rfl rfl ⟨Nat.le_of_ble_eq_true rfl, Nat.le_of_ble_eq_true rfl⟩ ⟨Nat.le_of_ble_eq_true rfl, Nat.le_of_ble_eq_true rfl⟩ 0 0 ⟨rfl, rfl⟩ [7, 9] [0, 1, 2, 3, 4, 5, 6, 8] (wr := [(aL, .inr (1, [.ref aL_pile, .int u15])), (aT, .inr (6, [.ref aP, .int T_seats, .int T_strata, .int T_empires, .int T_finds, .ref aT_names, .ref aT_froms, .ref aT_tos, .ref aT_coins, .ref aT_cushions, .ref aT_details, .ref aT_findsIn, .ref aT_springsIn])), (aT_froms, .inl (cI, 6, .inl T_froms)), (aT_tos, .inl (cI, 6, .inl T_tos)), (aT_coins, .inl (cZ, 24, .inl T_coins)), (aT_details, .inl (cI, 24, .inl T_details)), (aL_pile, .inl (cI, 400, .inl L_pile)), (aS_heights, .inl (cI, 8, .inl S_heights))]) rfl rfl rfl rfl (by decide) (fun u16 : Unit => [(aL, .inr (1, [.ref aL_pile, .int u15])), (aT, .inr (6, [.ref aP, .int T_seats, .int T_strata, .int T_empires, .int T_finds, .ref aT_names, .ref aT_froms, .ref aT_tos, .ref aT_coins, .ref aT_cushions, .ref aT_details, .ref aT_findsIn, .ref aT_springsIn])), (aT_froms, .inl (cI, 6, .inl T_froms)), (aT_tos, .inl (cI, 6, .inl T_tos)), (aT_coins, .inl (cZ, 24, .inl T_coins)), (aT_details, .inl (cI, 24, .inl T_details)), (aL_pile, .inl (cI, 400, .inl L_pile)), (aS, .inr (3, [.ref aT, .ref aS_stacks, .ref aS_heights, .ref aS_loose, .ref aS_propped, .ref aS_foundOnes, .ref aS_sureOnes, .int S_days, .int S_carriedOut, .int S_dug, .int S_slid, .int S_foundCount, .int S_sureCount, .int S_propCount])), (aS_heights, .inl (cI, 8, .inl S_heights)), (aS_sureOnes, .inl (cZ, 24, .inl S_sureOnes))]) [0, 1, 2, 3, 4, 5, 6, 8, 7, 9] rfl (fun _ => rfl) (rest := [.ref aL]) rfl (Nat.le_of_ble_eq_true rfl) dX2_takeStep_266 (fun r16 u16 h => ?_)
                    obtain ⟨hb16, h⟩ := h
                    refine q_callVV C (cX2_pushTruth_ok _ h) cf_X2_126 im_X2_pushTruth se_X2_pushTruth 1 rfl rfl rfl rfl ⟨Nat.le_of_ble_eq_true rfl, Nat.le_of_ble_eq_true rfl⟩ ⟨Nat.le_of_ble_eq_true rfl, Nat.le_of_ble_eq_true rfl⟩ 0 0 ⟨rfl, rfl⟩ [0, 6] [1, 2, 3, 4, 5, 7, 8, 9] (wr := [(aT, .inr (6, [.ref aP, .int T_seats, .int T_strata, .int T_empires, .int T_finds, .ref aT_names, .ref aT_froms, .ref aT_tos, .ref aT_coins, .ref aT_cushions, .ref aT_details, .ref aT_findsIn, .ref aT_springsIn])), (aT_froms, .inl (cI, 6, .inl T_froms)), (aT_tos, .inl (cI, 6, .inl T_tos)), (aT_coins, .inl (cZ, 24, .inl T_coins)), (aT_details, .inl (cI, 24, .inl T_details)), (aS, .inr (3, [.ref aT, .ref aS_stacks, .ref aS_heights, .ref aS_loose, .ref aS_propped, .ref aS_foundOnes, .ref aS_sureOnes, .int S_days, .int S_carriedOut, .int S_dug, .int S_slid, .int S_foundCount, .int S_sureCount, .int S_propCount])), (aS_heights, .inl (cI, 8, .inl S_heights)), (aS_sureOnes, .inl (cZ, 24, .inl S_sureOnes))]) rfl rfl rfl rfl (by decide) (fun u17 : (Nat → Int32) × Int32 => [(aL, .inr (1, [.ref aL_pile, .int u17.2])), (aT, .inr (6, [.ref aP, .int T_seats, .int T_strata, .int T_empires, .int T_finds, .ref aT_names, .ref aT_froms, .ref aT_tos, .ref aT_coins, .ref aT_cushions, .ref aT_details, .ref aT_findsIn, .ref aT_springsIn])), (aT_froms, .inl (cI, 6, .inl T_froms)), (aT_tos, .inl (cI, 6, .inl T_tos)), (aT_coins, .inl (cZ, 24, .inl T_coins)), (aT_details, .inl (cI, 24, .inl T_details)), (aL_pile, .inl (cI, 400, .inl u17.1)), (aS, .inr (3, [.ref aT, .ref aS_stacks, .ref aS_heights, .ref aS_loose, .ref aS_propped, .ref aS_foundOnes, .ref aS_sureOnes, .int S_days, .int S_carriedOut, .int S_dug, .int S_slid, .int S_foundCount, .int S_sureCount, .int S_propCount])), (aS_heights, .inl (cI, 8, .inl S_heights)), (aS_sureOnes, .inl (cZ, 24, .inl S_sureOnes))]) [8, 0, 1, 2, 3, 4, 9, 5, 6, 7] rfl (fun _ => rfl) (rest := []) rfl (Nat.le_of_ble_eq_true rfl) dX2_takeStep_269 (fun u17 h => ?_)
                    refine q_goto (tgt := 330) C dX2_takeStep_272 (by decide) ?_
                    exact hret (u17.1, u17.2) _ _ h dX2_takeStep_330
                  · have hn8 := hq
                    by_cases hq : p1 = 24
                    · replace h := h.2.2.2.2.2.2.2.2.2.1 hq
                      refine q_tableK C 24 287 hq dX2_takeStep_1 (by decide) (by decide) rfl (by decide) ?_
                      refine q_aload_n C dX2_takeStep_287 0 rfl ?_
                      refine q_aload_n C dX2_takeStep_288 0 rfl ?_
                      refine q_callVI C (cX2_pull_ok _ h) cf_X2_101 im_X2_pull se_X2_pull 1 rfl rfl rfl rfl ⟨Nat.le_of_ble_eq_true rfl, Nat.le_of_ble_eq_true rfl⟩ ⟨Nat.le_of_ble_eq_true rfl, Nat.le_of_ble_eq_true rfl⟩ 0 0 ⟨rfl, rfl⟩ [0, 6] [1, 2, 3, 4, 5, 7, 8, 9] (wr := [(aT, .inr (6, [.ref aP, .int T_seats, .int T_strata, .int T_empires, .int T_finds, .ref aT_names, .ref aT_froms, .ref aT_tos, .ref aT_coins, .ref aT_cushions, .ref aT_details, .ref aT_findsIn, .ref aT_springsIn])), (aT_froms, .inl (cI, 6, .inl T_froms)), (aT_tos, .inl (cI, 6, .inl T_tos)), (aT_coins, .inl (cZ, 24, .inl T_coins)), (aT_details, .inl (cI, 24, .inl T_details)), (aS, .inr (3, [.ref aT, .ref aS_stacks, .ref aS_heights, .ref aS_loose, .ref aS_propped, .ref aS_foundOnes, .ref aS_sureOnes, .int S_days, .int S_carriedOut, .int S_dug, .int S_slid, .int S_foundCount, .int S_sureCount, .int S_propCount])), (aS_heights, .inl (cI, 8, .inl S_heights)), (aS_sureOnes, .inl (cZ, 24, .inl S_sureOnes))]) rfl rfl rfl rfl (by decide) (fun u18 : Int32 => [(aL, .inr (1, [.ref aL_pile, .int u18])), (aT, .inr (6, [.ref aP, .int T_seats, .int T_strata, .int T_empires, .int T_finds, .ref aT_names, .ref aT_froms, .ref aT_tos, .ref aT_coins, .ref aT_cushions, .ref aT_details, .ref aT_findsIn, .ref aT_springsIn])), (aT_froms, .inl (cI, 6, .inl T_froms)), (aT_tos, .inl (cI, 6, .inl T_tos)), (aT_coins, .inl (cZ, 24, .inl T_coins)), (aT_details, .inl (cI, 24, .inl T_details)), (aL_pile, .inl (cI, 400, .inl L_pile)), (aS, .inr (3, [.ref aT, .ref aS_stacks, .ref aS_heights, .ref aS_loose, .ref aS_propped, .ref aS_foundOnes, .ref aS_sureOnes, .int S_days, .int S_carriedOut, .int S_dug, .int S_slid, .int S_foundCount, .int S_sureCount, .int S_propCount])), (aS_heights, .inl (cI, 8, .inl S_heights)), (aS_sureOnes, .inl (cZ, 24, .inl S_sureOnes))]) [8, 0, 1, 2, 3, 4, 9, 5, 6, 7] rfl (fun _ => rfl) (rest := [.ref aL]) rfl (Nat.le_of_ble_eq_true rfl) dX2_takeStep_289 (fun r18 u18 h => ?_)
                      refine q_if_ne C 299 dX2_takeStep_292 (by decide) h (fun h => ?_) (fun h => ?_)
                      · refine q_iconst C (v := 0) dX2_takeStep_299 (by decide) ?_
                        refine q_ls [] [] rfl ?_
                        exact bX2_takeStep_300 C  hret  _ _ _ h
                      · refine q_iconst C (v := 1) dX2_takeStep_295 (by decide) ?_
                        refine q_goto (tgt := 300) C dX2_takeStep_296 (by decide) ?_
                        refine q_ls [] [] rfl ?_
                        exact bX2_takeStep_300 C  hret  _ _ _ h
                    · have hn9 := hq
                      by_cases hq : p1 = 45
                      · replace h := h.2.2.2.2.2.2.2.2.2.2.1 hq
                        refine q_tableK C 45 144 hq dX2_takeStep_1 (by decide) (by decide) rfl (by decide) ?_
                        refine q_aload_n C dX2_takeStep_144 0 rfl ?_
                        refine q_iload_n C dX2_takeStep_145 3 rfl ?_
                        refine q_callVV C (cX2_push_ok _ h) cf_X2_105 im_X2_push se_X2_push 1 rfl rfl rfl rfl ⟨Nat.le_of_ble_eq_true rfl, Nat.le_of_ble_eq_true rfl⟩ ⟨Nat.le_of_ble_eq_true rfl, Nat.le_of_ble_eq_true rfl⟩ 0 0 ⟨rfl, rfl⟩ [0, 6] [1, 2, 3, 4, 5, 7, 8, 9] (wr := [(aT, .inr (6, [.ref aP, .int T_seats, .int T_strata, .int T_empires, .int T_finds, .ref aT_names, .ref aT_froms, .ref aT_tos, .ref aT_coins, .ref aT_cushions, .ref aT_details, .ref aT_findsIn, .ref aT_springsIn])), (aT_froms, .inl (cI, 6, .inl T_froms)), (aT_tos, .inl (cI, 6, .inl T_tos)), (aT_coins, .inl (cZ, 24, .inl T_coins)), (aT_details, .inl (cI, 24, .inl T_details)), (aS, .inr (3, [.ref aT, .ref aS_stacks, .ref aS_heights, .ref aS_loose, .ref aS_propped, .ref aS_foundOnes, .ref aS_sureOnes, .int S_days, .int S_carriedOut, .int S_dug, .int S_slid, .int S_foundCount, .int S_sureCount, .int S_propCount])), (aS_heights, .inl (cI, 8, .inl S_heights)), (aS_sureOnes, .inl (cZ, 24, .inl S_sureOnes))]) rfl rfl rfl rfl (by decide) (fun u19 : (Nat → Int32) × Int32 => [(aL, .inr (1, [.ref aL_pile, .int u19.2])), (aT, .inr (6, [.ref aP, .int T_seats, .int T_strata, .int T_empires, .int T_finds, .ref aT_names, .ref aT_froms, .ref aT_tos, .ref aT_coins, .ref aT_cushions, .ref aT_details, .ref aT_findsIn, .ref aT_springsIn])), (aT_froms, .inl (cI, 6, .inl T_froms)), (aT_tos, .inl (cI, 6, .inl T_tos)), (aT_coins, .inl (cZ, 24, .inl T_coins)), (aT_details, .inl (cI, 24, .inl T_details)), (aL_pile, .inl (cI, 400, .inl u19.1)), (aS, .inr (3, [.ref aT, .ref aS_stacks, .ref aS_heights, .ref aS_loose, .ref aS_propped, .ref aS_foundOnes, .ref aS_sureOnes, .int S_days, .int S_carriedOut, .int S_dug, .int S_slid, .int S_foundCount, .int S_sureCount, .int S_propCount])), (aS_heights, .inl (cI, 8, .inl S_heights)), (aS_sureOnes, .inl (cZ, 24, .inl S_sureOnes))]) [8, 0, 1, 2, 3, 4, 9, 5, 6, 7] rfl (fun _ => rfl) (rest := []) rfl (Nat.le_of_ble_eq_true rfl) dX2_takeStep_146 (fun u19 h => ?_)
                        refine q_goto (tgt := 330) C dX2_takeStep_149 (by decide) ?_
                        exact hret (u19.1, u19.2) _ _ h dX2_takeStep_330
                      · have hn10 := hq
                        by_cases hq : p1 = 46
                        · replace h := h.2.2.2.2.2.2.2.2.2.2.2.1 hq
                          refine q_tableK C 46 275 hq dX2_takeStep_1 (by decide) (by decide) rfl (by decide) ?_
                          refine q_aload_n C dX2_takeStep_275 0 rfl ?_
                          refine q_aload_n C dX2_takeStep_276 0 rfl ?_
                          refine q_callVI C (cX2_pull_ok _ h) cf_X2_101 im_X2_pull se_X2_pull 1 rfl rfl rfl rfl ⟨Nat.le_of_ble_eq_true rfl, Nat.le_of_ble_eq_true rfl⟩ ⟨Nat.le_of_ble_eq_true rfl, Nat.le_of_ble_eq_true rfl⟩ 0 0 ⟨rfl, rfl⟩ [0, 6] [1, 2, 3, 4, 5, 7, 8, 9] (wr := [(aT, .inr (6, [.ref aP, .int T_seats, .int T_strata, .int T_empires, .int T_finds, .ref aT_names, .ref aT_froms, .ref aT_tos, .ref aT_coins, .ref aT_cushions, .ref aT_details, .ref aT_findsIn, .ref aT_springsIn])), (aT_froms, .inl (cI, 6, .inl T_froms)), (aT_tos, .inl (cI, 6, .inl T_tos)), (aT_coins, .inl (cZ, 24, .inl T_coins)), (aT_details, .inl (cI, 24, .inl T_details)), (aS, .inr (3, [.ref aT, .ref aS_stacks, .ref aS_heights, .ref aS_loose, .ref aS_propped, .ref aS_foundOnes, .ref aS_sureOnes, .int S_days, .int S_carriedOut, .int S_dug, .int S_slid, .int S_foundCount, .int S_sureCount, .int S_propCount])), (aS_heights, .inl (cI, 8, .inl S_heights)), (aS_sureOnes, .inl (cZ, 24, .inl S_sureOnes))]) rfl rfl rfl rfl (by decide) (fun u20 : Int32 => [(aL, .inr (1, [.ref aL_pile, .int u20])), (aT, .inr (6, [.ref aP, .int T_seats, .int T_strata, .int T_empires, .int T_finds, .ref aT_names, .ref aT_froms, .ref aT_tos, .ref aT_coins, .ref aT_cushions, .ref aT_details, .ref aT_findsIn, .ref aT_springsIn])), (aT_froms, .inl (cI, 6, .inl T_froms)), (aT_tos, .inl (cI, 6, .inl T_tos)), (aT_coins, .inl (cZ, 24, .inl T_coins)), (aT_details, .inl (cI, 24, .inl T_details)), (aL_pile, .inl (cI, 400, .inl L_pile)), (aS, .inr (3, [.ref aT, .ref aS_stacks, .ref aS_heights, .ref aS_loose, .ref aS_propped, .ref aS_foundOnes, .ref aS_sureOnes, .int S_days, .int S_carriedOut, .int S_dug, .int S_slid, .int S_foundCount, .int S_sureCount, .int S_propCount])), (aS_heights, .inl (cI, 8, .inl S_heights)), (aS_sureOnes, .inl (cZ, 24, .inl S_sureOnes))]) [8, 0, 1, 2, 3, 4, 9, 5, 6, 7] rfl (fun _ => rfl) (rest := [.ref aL]) rfl (Nat.le_of_ble_eq_true rfl) dX2_takeStep_277 (fun r20 u20 h => ?_)
                          refine q_ineg C dX2_takeStep_280 ?_
                          refine q_callVV C (cX2_push_ok _ h) cf_X2_105 im_X2_push se_X2_push 1 rfl rfl rfl rfl ⟨Nat.le_of_ble_eq_true rfl, Nat.le_of_ble_eq_true rfl⟩ ⟨Nat.le_of_ble_eq_true rfl, Nat.le_of_ble_eq_true rfl⟩ 0 0 ⟨rfl, rfl⟩ [0, 6] [1, 2, 3, 4, 5, 7, 8, 9] (wr := [(aT, .inr (6, [.ref aP, .int T_seats, .int T_strata, .int T_empires, .int T_finds, .ref aT_names, .ref aT_froms, .ref aT_tos, .ref aT_coins, .ref aT_cushions, .ref aT_details, .ref aT_findsIn, .ref aT_springsIn])), (aT_froms, .inl (cI, 6, .inl T_froms)), (aT_tos, .inl (cI, 6, .inl T_tos)), (aT_coins, .inl (cZ, 24, .inl T_coins)), (aT_details, .inl (cI, 24, .inl T_details)), (aS, .inr (3, [.ref aT, .ref aS_stacks, .ref aS_heights, .ref aS_loose, .ref aS_propped, .ref aS_foundOnes, .ref aS_sureOnes, .int S_days, .int S_carriedOut, .int S_dug, .int S_slid, .int S_foundCount, .int S_sureCount, .int S_propCount])), (aS_heights, .inl (cI, 8, .inl S_heights)), (aS_sureOnes, .inl (cZ, 24, .inl S_sureOnes))]) rfl rfl rfl rfl (by decide) (fun u21 : (Nat → Int32) × Int32 => [(aL, .inr (1, [.ref aL_pile, .int u21.2])), (aT, .inr (6, [.ref aP, .int T_seats, .int T_strata, .int T_empires, .int T_finds, .ref aT_names, .ref aT_froms, .ref aT_tos, .ref aT_coins, .ref aT_cushions, .ref aT_details, .ref aT_findsIn, .ref aT_springsIn])), (aT_froms, .inl (cI, 6, .inl T_froms)), (aT_tos, .inl (cI, 6, .inl T_tos)), (aT_coins, .inl (cZ, 24, .inl T_coins)), (aT_details, .inl (cI, 24, .inl T_details)), (aL_pile, .inl (cI, 400, .inl u21.1)), (aS, .inr (3, [.ref aT, .ref aS_stacks, .ref aS_heights, .ref aS_loose, .ref aS_propped, .ref aS_foundOnes, .ref aS_sureOnes, .int S_days, .int S_carriedOut, .int S_dug, .int S_slid, .int S_foundCount, .int S_sureCount, .int S_propCount])), (aS_heights, .inl (cI, 8, .inl S_heights)), (aS_sureOnes, .inl (cZ, 24, .inl S_sureOnes))]) [8, 0, 1, 2, 3, 4, 9, 5, 6, 7] rfl (fun _ => rfl) (rest := []) rfl (Nat.le_of_ble_eq_true rfl) dX2_takeStep_281 (fun u21 h => ?_)
                          refine q_goto (tgt := 330) C dX2_takeStep_284 (by decide) ?_
                          exact hret (u21.1, u21.2) _ _ h dX2_takeStep_330
                        · have hn11 := hq
                          replace h := h.2.2.2.2.2.2.2.2.2.2.2.2 hn0 hn1 hn2 hn3 hn4 hn5 hn6 hn7 hn8 hn9 hn10 hn11
                          refine q_tableD C [15, 16, 17, 18, 19, 20, 21, 22, 23, 24, 45, 46] 306 (sw_cons (sw_ne hn0 (by decide)) (sw_cons (sw_ne hn1 (by decide)) (sw_cons (sw_ne hn2 (by decide)) (sw_cons (sw_ne hn3 (by decide)) (sw_cons (sw_ne hn4 (by decide)) (sw_cons (sw_ne hn5 (by decide)) (sw_cons (sw_ne hn6 (by decide)) (sw_cons (sw_ne hn7 (by decide)) (sw_cons (sw_ne hn8 (by decide)) (sw_cons (sw_ne hn9 (by decide)) (sw_cons (sw_ne hn10 (by decide)) (sw_cons (sw_ne hn11 (by decide)) sw_nil)))))))))))) dX2_takeStep_1 (by decide) (by decide) ?_
                          refine q_aload_n C dX2_takeStep_306 0 rfl ?_
                          refine q_callVI C (cX2_pull_ok _ h) cf_X2_101 im_X2_pull se_X2_pull 1 rfl rfl rfl rfl ⟨Nat.le_of_ble_eq_true rfl, Nat.le_of_ble_eq_true rfl⟩ ⟨Nat.le_of_ble_eq_true rfl, Nat.le_of_ble_eq_true rfl⟩ 0 0 ⟨rfl, rfl⟩ [0, 6] [1, 2, 3, 4, 5, 7, 8, 9] (wr := [(aT, .inr (6, [.ref aP, .int T_seats, .int T_strata, .int T_empires, .int T_finds, .ref aT_names, .ref aT_froms, .ref aT_tos, .ref aT_coins, .ref aT_cushions, .ref aT_details, .ref aT_findsIn, .ref aT_springsIn])), (aT_froms, .inl (cI, 6, .inl T_froms)), (aT_tos, .inl (cI, 6, .inl T_tos)), (aT_coins, .inl (cZ, 24, .inl T_coins)), (aT_details, .inl (cI, 24, .inl T_details)), (aS, .inr (3, [.ref aT, .ref aS_stacks, .ref aS_heights, .ref aS_loose, .ref aS_propped, .ref aS_foundOnes, .ref aS_sureOnes, .int S_days, .int S_carriedOut, .int S_dug, .int S_slid, .int S_foundCount, .int S_sureCount, .int S_propCount])), (aS_heights, .inl (cI, 8, .inl S_heights)), (aS_sureOnes, .inl (cZ, 24, .inl S_sureOnes))]) rfl rfl rfl rfl (by decide) (fun u22 : Int32 => [(aL, .inr (1, [.ref aL_pile, .int u22])), (aT, .inr (6, [.ref aP, .int T_seats, .int T_strata, .int T_empires, .int T_finds, .ref aT_names, .ref aT_froms, .ref aT_tos, .ref aT_coins, .ref aT_cushions, .ref aT_details, .ref aT_findsIn, .ref aT_springsIn])), (aT_froms, .inl (cI, 6, .inl T_froms)), (aT_tos, .inl (cI, 6, .inl T_tos)), (aT_coins, .inl (cZ, 24, .inl T_coins)), (aT_details, .inl (cI, 24, .inl T_details)), (aL_pile, .inl (cI, 400, .inl L_pile)), (aS, .inr (3, [.ref aT, .ref aS_stacks, .ref aS_heights, .ref aS_loose, .ref aS_propped, .ref aS_foundOnes, .ref aS_sureOnes, .int S_days, .int S_carriedOut, .int S_dug, .int S_slid, .int S_foundCount, .int S_sureCount, .int S_propCount])), (aS_heights, .inl (cI, 8, .inl S_heights)), (aS_sureOnes, .inl (cZ, 24, .inl S_sureOnes))]) [8, 0, 1, 2, 3, 4, 9, 5, 6, 7] rfl (fun _ => rfl) (rest := []) rfl (Nat.le_of_ble_eq_true rfl) dX2_takeStep_307 (fun r22 u22 h => ?_)
                          refine q_istore C [(4, .int r22), (0, .ref aL), (1, .ref aS), (2, .int p1), (3, .int p2)] dX2_takeStep_310 (by decide) rfl ?_
                          refine q_aload_n C dX2_takeStep_312 1 rfl ?_
                          refine q_callVI C (cX2_pull_ok _ h) cf_X2_101 im_X2_pull se_X2_pull 1 rfl rfl rfl rfl ⟨Nat.le_of_ble_eq_true rfl, Nat.le_of_ble_eq_true rfl⟩ ⟨Nat.le_of_ble_eq_true rfl, Nat.le_of_ble_eq_true rfl⟩ 0 0 ⟨rfl, rfl⟩ [0, 6] [1, 2, 3, 4, 5, 7, 8, 9] (wr := [(aT, .inr (6, [.ref aP, .int T_seats, .int T_strata, .int T_empires, .int T_finds, .ref aT_names, .ref aT_froms, .ref aT_tos, .ref aT_coins, .ref aT_cushions, .ref aT_details, .ref aT_findsIn, .ref aT_springsIn])), (aT_froms, .inl (cI, 6, .inl T_froms)), (aT_tos, .inl (cI, 6, .inl T_tos)), (aT_coins, .inl (cZ, 24, .inl T_coins)), (aT_details, .inl (cI, 24, .inl T_details)), (aS, .inr (3, [.ref aT, .ref aS_stacks, .ref aS_heights, .ref aS_loose, .ref aS_propped, .ref aS_foundOnes, .ref aS_sureOnes, .int S_days, .int S_carriedOut, .int S_dug, .int S_slid, .int S_foundCount, .int S_sureCount, .int S_propCount])), (aS_heights, .inl (cI, 8, .inl S_heights)), (aS_sureOnes, .inl (cZ, 24, .inl S_sureOnes))]) rfl rfl rfl rfl (by decide) (fun u23 : Int32 => [(aL, .inr (1, [.ref aL_pile, .int u23])), (aT, .inr (6, [.ref aP, .int T_seats, .int T_strata, .int T_empires, .int T_finds, .ref aT_names, .ref aT_froms, .ref aT_tos, .ref aT_coins, .ref aT_cushions, .ref aT_details, .ref aT_findsIn, .ref aT_springsIn])), (aT_froms, .inl (cI, 6, .inl T_froms)), (aT_tos, .inl (cI, 6, .inl T_tos)), (aT_coins, .inl (cZ, 24, .inl T_coins)), (aT_details, .inl (cI, 24, .inl T_details)), (aL_pile, .inl (cI, 400, .inl L_pile)), (aS, .inr (3, [.ref aT, .ref aS_stacks, .ref aS_heights, .ref aS_loose, .ref aS_propped, .ref aS_foundOnes, .ref aS_sureOnes, .int S_days, .int S_carriedOut, .int S_dug, .int S_slid, .int S_foundCount, .int S_sureCount, .int S_propCount])), (aS_heights, .inl (cI, 8, .inl S_heights)), (aS_sureOnes, .inl (cZ, 24, .inl S_sureOnes))]) [8, 0, 1, 2, 3, 4, 9, 5, 6, 7] rfl (fun _ => rfl) (rest := []) rfl (Nat.le_of_ble_eq_true rfl) dX2_takeStep_313 (fun r23 u23 h => ?_)
                          refine q_istore C [(5, .int r23), (4, .int r22), (0, .ref aL), (1, .ref aS), (2, .int p1), (3, .int p2)] dX2_takeStep_316 (by decide) rfl ?_
                          refine q_aload_n C dX2_takeStep_318 2 rfl ?_
                          refine q_iload_n C dX2_takeStep_319 4 rfl ?_
                          refine q_iload C dX2_takeStep_320 0 rfl ?_
                          refine q_iload C dX2_takeStep_322 1 rfl ?_
                          refine q_callSI C (cX2_join_ok _ h) cf_X2_133 st_X2_join rfl ⟨Nat.le_of_ble_eq_true rfl, Nat.le_of_ble_eq_true rfl⟩ ⟨Nat.le_of_ble_eq_true rfl, Nat.le_of_ble_eq_true rfl⟩ 0 0 ⟨rfl, rfl⟩ [] [0, 1, 2, 3, 4, 5, 6, 7, 8, 9] (wr := [(aL, .inr (1, [.ref aL_pile, .int u23])), (aT, .inr (6, [.ref aP, .int T_seats, .int T_strata, .int T_empires, .int T_finds, .ref aT_names, .ref aT_froms, .ref aT_tos, .ref aT_coins, .ref aT_cushions, .ref aT_details, .ref aT_findsIn, .ref aT_springsIn])), (aT_froms, .inl (cI, 6, .inl T_froms)), (aT_tos, .inl (cI, 6, .inl T_tos)), (aT_coins, .inl (cZ, 24, .inl T_coins)), (aT_details, .inl (cI, 24, .inl T_details)), (aL_pile, .inl (cI, 400, .inl L_pile)), (aS, .inr (3, [.ref aT, .ref aS_stacks, .ref aS_heights, .ref aS_loose, .ref aS_propped, .ref aS_foundOnes, .ref aS_sureOnes, .int S_days, .int S_carriedOut, .int S_dug, .int S_slid, .int S_foundCount, .int S_sureCount, .int S_propCount])), (aS_heights, .inl (cI, 8, .inl S_heights)), (aS_sureOnes, .inl (cZ, 24, .inl S_sureOnes))]) rfl rfl rfl rfl (by decide) (fun u24 : Unit => [(aL, .inr (1, [.ref aL_pile, .int u23])), (aT, .inr (6, [.ref aP, .int T_seats, .int T_strata, .int T_empires, .int T_finds, .ref aT_names, .ref aT_froms, .ref aT_tos, .ref aT_coins, .ref aT_cushions, .ref aT_details, .ref aT_findsIn, .ref aT_springsIn])), (aT_froms, .inl (cI, 6, .inl T_froms)), (aT_tos, .inl (cI, 6, .inl T_tos)), (aT_coins, .inl (cZ, 24, .inl T_coins)), (aT_details, .inl (cI, 24, .inl T_details)), (aL_pile, .inl (cI, 400, .inl L_pile)), (aS, .inr (3, [.ref aT, .ref aS_stacks, .ref aS_heights, .ref aS_loose, .ref aS_propped, .ref aS_foundOnes, .ref aS_sureOnes, .int S_days, .int S_carriedOut, .int S_dug, .int S_slid, .int S_foundCount, .int S_sureCount, .int S_propCount])), (aS_heights, .inl (cI, 8, .inl S_heights)), (aS_sureOnes, .inl (cZ, 24, .inl S_sureOnes))]) [0, 1, 2, 3, 4, 5, 6, 7, 8, 9] rfl (fun _ => rfl) (rest := [.ref aL]) rfl (Nat.le_of_ble_eq_true rfl) dX2_takeStep_324 (fun r24 u24 h => ?_)
                          refine q_callVV C (cX2_push_ok _ h) cf_X2_105 im_X2_push se_X2_push 1 rfl rfl rfl rfl ⟨Nat.le_of_ble_eq_true rfl, Nat.le_of_ble_eq_true rfl⟩ ⟨Nat.le_of_ble_eq_true rfl, Nat.le_of_ble_eq_true rfl⟩ 0 0 ⟨rfl, rfl⟩ [0, 6] [1, 2, 3, 4, 5, 7, 8, 9] (wr := [(aT, .inr (6, [.ref aP, .int T_seats, .int T_strata, .int T_empires, .int T_finds, .ref aT_names, .ref aT_froms, .ref aT_tos, .ref aT_coins, .ref aT_cushions, .ref aT_details, .ref aT_findsIn, .ref aT_springsIn])), (aT_froms, .inl (cI, 6, .inl T_froms)), (aT_tos, .inl (cI, 6, .inl T_tos)), (aT_coins, .inl (cZ, 24, .inl T_coins)), (aT_details, .inl (cI, 24, .inl T_details)), (aS, .inr (3, [.ref aT, .ref aS_stacks, .ref aS_heights, .ref aS_loose, .ref aS_propped, .ref aS_foundOnes, .ref aS_sureOnes, .int S_days, .int S_carriedOut, .int S_dug, .int S_slid, .int S_foundCount, .int S_sureCount, .int S_propCount])), (aS_heights, .inl (cI, 8, .inl S_heights)), (aS_sureOnes, .inl (cZ, 24, .inl S_sureOnes))]) rfl rfl rfl rfl (by decide) (fun u25 : (Nat → Int32) × Int32 => [(aL, .inr (1, [.ref aL_pile, .int u25.2])), (aT, .inr (6, [.ref aP, .int T_seats, .int T_strata, .int T_empires, .int T_finds, .ref aT_names, .ref aT_froms, .ref aT_tos, .ref aT_coins, .ref aT_cushions, .ref aT_details, .ref aT_findsIn, .ref aT_springsIn])), (aT_froms, .inl (cI, 6, .inl T_froms)), (aT_tos, .inl (cI, 6, .inl T_tos)), (aT_coins, .inl (cZ, 24, .inl T_coins)), (aT_details, .inl (cI, 24, .inl T_details)), (aL_pile, .inl (cI, 400, .inl u25.1)), (aS, .inr (3, [.ref aT, .ref aS_stacks, .ref aS_heights, .ref aS_loose, .ref aS_propped, .ref aS_foundOnes, .ref aS_sureOnes, .int S_days, .int S_carriedOut, .int S_dug, .int S_slid, .int S_foundCount, .int S_sureCount, .int S_propCount])), (aS_heights, .inl (cI, 8, .inl S_heights)), (aS_sureOnes, .inl (cZ, 24, .inl S_sureOnes))]) [8, 0, 1, 2, 3, 4, 9, 5, 6, 7] rfl (fun _ => rfl) (rest := []) rfl (Nat.le_of_ble_eq_true rfl) dX2_takeStep_327 (fun u25 h => ?_)
                          exact hret (u25.1, u25.2) _ _ h dX2_takeStep_330
theorem cX2_takeStep_ok (l : Launch) {D : gD} {cB cI cJ cZ : ClassId} {aL aT aT_froms aT_tos aT_coins aT_details aL_pile aS aS_heights aS_sureOnes aP aT_names aT_cushions aT_findsIn aT_springsIn aS_stacks aS_loose aS_propped aS_foundOnes : Nat} {L_piled T_seats T_strata T_empires T_finds S_days S_carriedOut S_dug S_slid S_foundCount S_sureCount S_propCount : Int32} {T_froms T_tos T_coins T_details L_pile S_heights S_sureOnes : Nat → Int32} {p1 : Int32} {p2 : Int32} {K : ((Nat → Int32) × Int32) → Prop} (h : wX2_takeStep T_seats T_empires T_finds T_froms T_tos T_coins T_details L_pile L_piled S_heights S_sureOnes S_days S_slid S_foundCount S_propCount p1 p2 K) : CtV l D (gT cB cI cJ cZ) yX2_takeStep cX2_takeStep 6 rmX2_takeStep [.ref aL, .ref aS, .int p1, .int p2] [(aL, .inr (1, [.ref aL_pile, .int L_piled])), (aT, .inr (6, [.ref aP, .int T_seats, .int T_strata, .int T_empires, .int T_finds, .ref aT_names, .ref aT_froms, .ref aT_tos, .ref aT_coins, .ref aT_cushions, .ref aT_details, .ref aT_findsIn, .ref aT_springsIn])), (aT_froms, .inl (cI, 6, .inl T_froms)), (aT_tos, .inl (cI, 6, .inl T_tos)), (aT_coins, .inl (cZ, 24, .inl T_coins)), (aT_details, .inl (cI, 24, .inl T_details)), (aL_pile, .inl (cI, 400, .inl L_pile)), (aS, .inr (3, [.ref aT, .ref aS_stacks, .ref aS_heights, .ref aS_loose, .ref aS_propped, .ref aS_foundOnes, .ref aS_sureOnes, .int S_days, .int S_carriedOut, .int S_dug, .int S_slid, .int S_foundCount, .int S_sureCount, .int S_propCount])), (aS_heights, .inl (cI, 8, .inl S_heights)), (aS_sureOnes, .inl (cZ, 24, .inl S_sureOnes))] (fun u : (Nat → Int32) × Int32 => [(aL, .inr (1, [.ref aL_pile, .int u.2])), (aT, .inr (6, [.ref aP, .int T_seats, .int T_strata, .int T_empires, .int T_finds, .ref aT_names, .ref aT_froms, .ref aT_tos, .ref aT_coins, .ref aT_cushions, .ref aT_details, .ref aT_findsIn, .ref aT_springsIn])), (aT_froms, .inl (cI, 6, .inl T_froms)), (aT_tos, .inl (cI, 6, .inl T_tos)), (aT_coins, .inl (cZ, 24, .inl T_coins)), (aT_details, .inl (cI, 24, .inl T_details)), (aL_pile, .inl (cI, 400, .inl u.1)), (aS, .inr (3, [.ref aT, .ref aS_stacks, .ref aS_heights, .ref aS_loose, .ref aS_propped, .ref aS_foundOnes, .ref aS_sureOnes, .int S_days, .int S_carriedOut, .int S_dug, .int S_slid, .int S_foundCount, .int S_sureCount, .int S_propCount])), (aS_heights, .inl (cI, 8, .inl S_heights)), (aS_sureOnes, .inl (cZ, 24, .inl S_sureOnes))]) K :=
  ct_startV (by decide +kernel) (Nat.le_of_ble_eq_true rfl) (fun E A Q hE C hret => bX2_takeStep C hret h)
