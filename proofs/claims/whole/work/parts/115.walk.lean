abbrev rmX10_endOf : Room := { frames := 1, cells := 0, slots := 0, locals := 21 }
def wX10_endOf_81 (K : Int32 → Unit → Prop) (M_tape : Nat → Int32) (M_size : Int32) (x3 : Int32) : Prop :=
  wX10_byteOf M_tape M_size x3 (fun r1 u1 => ((¬ r1 = 61 → K x3 ()) ∧ (r1 = 61 → K (x3 + 1) ())))
set_option maxRecDepth 100000 in
set_option maxHeartbeats 4000000 in
theorem bX10_endOf_81 {D : gD} {cB cI cJ cZ : ClassId} {E : gE} {A : Nat → Prop} {Q : State → Prop} {aM aM_tape aQ aM_kind aM_from aM_means aM_value aM_who aM_now aM_kept aM_stack : Nat} {M_thrown M_size M_errorAt M_token M_depth M_ordersRead M_isSpring M_itsSeat : Int32} {M_tape : Nat → Int32} (C : Cx D (gT cB cI cJ cZ) E rmX10_endOf cX10_endOf 4 RX10 A) {K : Int32 → Unit → Prop} (hret : ∀ (r : Int32) (u : Unit) (pc : Nat) (ls : List (Nat × Value)), K r u → decode cX10_endOf pc = .ok (.ireturn, 1) → Go D E A Q 4 0 0 [(aM, .inr (9, [.int M_thrown, .ref aM_tape, .int M_size, .int M_errorAt, .ref aQ, .ref aM_kind, .ref aM_from, .ref aM_means, .ref aM_value, .ref aM_who, .int M_token, .int M_depth, .int M_ordersRead, .int M_isSpring, .int M_itsSeat, .ref aM_now, .ref aM_kept, .ref aM_stack])), (aM_tape, .inl (cI, 2000, .inl M_tape))] ls pc [.int r]) : ∀ (x3 : Int32), wX10_endOf_81 K M_tape M_size x3 → Go D E A Q 4 0 0 [(aM, .inr (9, [.int M_thrown, .ref aM_tape, .int M_size, .int M_errorAt, .ref aQ, .ref aM_kind, .ref aM_from, .ref aM_means, .ref aM_value, .ref aM_who, .int M_token, .int M_depth, .int M_ordersRead, .int M_isSpring, .int M_itsSeat, .ref aM_now, .ref aM_kept, .ref aM_stack])), (aM_tape, .inl (cI, 2000, .inl M_tape))] [(0, .ref aM), (3, .int x3)] 81 [] := by
  intro x3 h
  unfold wX10_endOf_81 at h
  refine q_aload_n C dX10_endOf_81 0 rfl ?_
  refine q_iload_n C dX10_endOf_82 1 rfl ?_
  refine q_callVI C (cX10_byteOf_ok _ h) cf_X10_213 im_X10_byteOf se_X10_byteOf 9 rfl rfl rfl rfl ⟨Nat.le_of_ble_eq_true rfl, Nat.le_of_ble_eq_true rfl⟩ ⟨Nat.le_of_ble_eq_true rfl, Nat.le_of_ble_eq_true rfl⟩ 0 0 ⟨rfl, rfl⟩ [0, 1] [] (wr := []) rfl rfl rfl rfl (by decide) (fun u1 : Unit => [(aM, .inr (9, [.int M_thrown, .ref aM_tape, .int M_size, .int M_errorAt, .ref aQ, .ref aM_kind, .ref aM_from, .ref aM_means, .ref aM_value, .ref aM_who, .int M_token, .int M_depth, .int M_ordersRead, .int M_isSpring, .int M_itsSeat, .ref aM_now, .ref aM_kept, .ref aM_stack])), (aM_tape, .inl (cI, 2000, .inl M_tape))]) [0, 1] rfl (fun _ => rfl) (rest := []) rfl (Nat.le_of_ble_eq_true rfl) dX10_endOf_83 (fun r1 u1 h => ?_)
  refine q_bipush C (v := 61) dX10_endOf_86 (by decide) ?_
  refine q_icmp_ne C 94 dX10_endOf_88 (by decide) h (fun h => ?_) (fun h => ?_)
  · refine q_iload_n C dX10_endOf_94 1 rfl ?_
    exact hret x3 () _ _ h dX10_endOf_95
  · refine q_iinc C (v := x3 + 1) [(3, .int (x3 + 1)), (0, .ref aM)] dX10_endOf_91 1 rfl rfl (by decide) rfl ?_
    refine q_iload_n C dX10_endOf_94 0 rfl ?_
    exact hret (x3 + 1) () _ _ h dX10_endOf_95
def wX10_endOf_69 (K : Int32 → Unit → Prop) (M_tape : Nat → Int32) (M_size : Int32) (x2 : Int32) (x3 : Int32) : Prop :=
  ((x2 = 60 → wX10_endOf_81 K M_tape M_size x3) ∧ (¬ x2 = 60 → ((¬ x2 = 62 → K x3 ()) ∧ (x2 = 62 → wX10_endOf_81 K M_tape M_size x3))))
set_option maxRecDepth 100000 in
set_option maxHeartbeats 4000000 in
theorem bX10_endOf_69 {D : gD} {cB cI cJ cZ : ClassId} {E : gE} {A : Nat → Prop} {Q : State → Prop} {aM aM_tape aQ aM_kind aM_from aM_means aM_value aM_who aM_now aM_kept aM_stack : Nat} {M_thrown M_size M_errorAt M_token M_depth M_ordersRead M_isSpring M_itsSeat : Int32} {M_tape : Nat → Int32} (C : Cx D (gT cB cI cJ cZ) E rmX10_endOf cX10_endOf 4 RX10 A) {K : Int32 → Unit → Prop} (hret : ∀ (r : Int32) (u : Unit) (pc : Nat) (ls : List (Nat × Value)), K r u → decode cX10_endOf pc = .ok (.ireturn, 1) → Go D E A Q 4 0 0 [(aM, .inr (9, [.int M_thrown, .ref aM_tape, .int M_size, .int M_errorAt, .ref aQ, .ref aM_kind, .ref aM_from, .ref aM_means, .ref aM_value, .ref aM_who, .int M_token, .int M_depth, .int M_ordersRead, .int M_isSpring, .int M_itsSeat, .ref aM_now, .ref aM_kept, .ref aM_stack])), (aM_tape, .inl (cI, 2000, .inl M_tape))] ls pc [.int r]) : ∀ (x2 : Int32) (x3 : Int32), wX10_endOf_69 K M_tape M_size x2 x3 → Go D E A Q 4 0 0 [(aM, .inr (9, [.int M_thrown, .ref aM_tape, .int M_size, .int M_errorAt, .ref aQ, .ref aM_kind, .ref aM_from, .ref aM_means, .ref aM_value, .ref aM_who, .int M_token, .int M_depth, .int M_ordersRead, .int M_isSpring, .int M_itsSeat, .ref aM_now, .ref aM_kept, .ref aM_stack])), (aM_tape, .inl (cI, 2000, .inl M_tape))] [(0, .ref aM), (2, .int x2), (3, .int x3)] 69 [] := by
  intro x2 x3 h
  unfold wX10_endOf_69 at h
  refine q_iload_n C dX10_endOf_69 1 rfl ?_
  refine q_bipush C (v := 60) dX10_endOf_70 (by decide) ?_
  refine q_icmp_eq C 81 dX10_endOf_72 (by decide) h (fun h => ?_) (fun h => ?_)
  · refine q_ls [(0, .ref aM), (3, .int x3)] [0, 2] rfl ?_
    exact bX10_endOf_81 C  hret  _ h
  · refine q_iload_n C dX10_endOf_75 1 rfl ?_
    refine q_bipush C (v := 62) dX10_endOf_76 (by decide) ?_
    refine q_icmp_ne C 94 dX10_endOf_78 (by decide) h (fun h => ?_) (fun h => ?_)
    · refine q_iload_n C dX10_endOf_94 2 rfl ?_
      exact hret x3 () _ _ h dX10_endOf_95
    · refine q_ls [(0, .ref aM), (3, .int x3)] [0, 2] rfl ?_
      exact bX10_endOf_81 C  hret  _ h
def wX10_endOf_52 (K : Int32 → Unit → Prop) (M_tape : Nat → Int32) (M_size : Int32) : Nat → Int32 → Int32 → Prop
  | 0, _, _ => False
  | n + 1, x2, x3 =>
  wX10_byteOf M_tape M_size x3 (fun r1 u1 => wX10_isDigit r1 (fun r2 u2 => ((r2 = 0 → wX10_endOf_69 K M_tape M_size x2 x3) ∧ (¬ r2 = 0 → wX10_endOf_52 K M_tape M_size n x2 (x3 + 1)))))
set_option maxRecDepth 100000 in
set_option maxHeartbeats 4000000 in
theorem bX10_endOf_52 {D : gD} {cB cI cJ cZ : ClassId} {E : gE} {A : Nat → Prop} {Q : State → Prop} {aM aM_tape aQ aM_kind aM_from aM_means aM_value aM_who aM_now aM_kept aM_stack : Nat} {M_thrown M_size M_errorAt M_token M_depth M_ordersRead M_isSpring M_itsSeat : Int32} {M_tape : Nat → Int32} (C : Cx D (gT cB cI cJ cZ) E rmX10_endOf cX10_endOf 4 RX10 A) {K : Int32 → Unit → Prop} (hret : ∀ (r : Int32) (u : Unit) (pc : Nat) (ls : List (Nat × Value)), K r u → decode cX10_endOf pc = .ok (.ireturn, 1) → Go D E A Q 4 0 0 [(aM, .inr (9, [.int M_thrown, .ref aM_tape, .int M_size, .int M_errorAt, .ref aQ, .ref aM_kind, .ref aM_from, .ref aM_means, .ref aM_value, .ref aM_who, .int M_token, .int M_depth, .int M_ordersRead, .int M_isSpring, .int M_itsSeat, .ref aM_now, .ref aM_kept, .ref aM_stack])), (aM_tape, .inl (cI, 2000, .inl M_tape))] ls pc [.int r]) : ∀ (n : Nat) (x2 : Int32) (x3 : Int32), wX10_endOf_52 K M_tape M_size n x2 x3 → Go D E A Q 4 0 0 [(aM, .inr (9, [.int M_thrown, .ref aM_tape, .int M_size, .int M_errorAt, .ref aQ, .ref aM_kind, .ref aM_from, .ref aM_means, .ref aM_value, .ref aM_who, .int M_token, .int M_depth, .int M_ordersRead, .int M_isSpring, .int M_itsSeat, .ref aM_now, .ref aM_kept, .ref aM_stack])), (aM_tape, .inl (cI, 2000, .inl M_tape))] [(0, .ref aM), (2, .int x2), (3, .int x3)] 52 [] := by
  intro n
  induction n with
  | zero =>
    intro x2 x3 h
    exact h.elim
  | succ n ih =>
    intro x2 x3 h
    unfold wX10_endOf_52 at h
    refine q_aload_n C dX10_endOf_52 0 rfl ?_
    refine q_iload_n C dX10_endOf_53 2 rfl ?_
    refine q_callVI C (cX10_byteOf_ok _ h) cf_X10_213 im_X10_byteOf se_X10_byteOf 9 rfl rfl rfl rfl ⟨Nat.le_of_ble_eq_true rfl, Nat.le_of_ble_eq_true rfl⟩ ⟨Nat.le_of_ble_eq_true rfl, Nat.le_of_ble_eq_true rfl⟩ 0 0 ⟨rfl, rfl⟩ [0, 1] [] (wr := []) rfl rfl rfl rfl (by decide) (fun u1 : Unit => [(aM, .inr (9, [.int M_thrown, .ref aM_tape, .int M_size, .int M_errorAt, .ref aQ, .ref aM_kind, .ref aM_from, .ref aM_means, .ref aM_value, .ref aM_who, .int M_token, .int M_depth, .int M_ordersRead, .int M_isSpring, .int M_itsSeat, .ref aM_now, .ref aM_kept, .ref aM_stack])), (aM_tape, .inl (cI, 2000, .inl M_tape))]) [0, 1] rfl (fun _ => rfl) (rest := []) rfl (Nat.le_of_ble_eq_true rfl) dX10_endOf_54 (fun r1 u1 h => ?_)
    refine q_callSI C (cX10_isDigit_ok _ h) cf_X10_219 st_X10_isDigit rfl ⟨Nat.le_of_ble_eq_true rfl, Nat.le_of_ble_eq_true rfl⟩ ⟨Nat.le_of_ble_eq_true rfl, Nat.le_of_ble_eq_true rfl⟩ 0 0 ⟨rfl, rfl⟩ [] [0, 1] (wr := [(aM, .inr (9, [.int M_thrown, .ref aM_tape, .int M_size, .int M_errorAt, .ref aQ, .ref aM_kind, .ref aM_from, .ref aM_means, .ref aM_value, .ref aM_who, .int M_token, .int M_depth, .int M_ordersRead, .int M_isSpring, .int M_itsSeat, .ref aM_now, .ref aM_kept, .ref aM_stack])), (aM_tape, .inl (cI, 2000, .inl M_tape))]) rfl rfl rfl rfl (by decide) (fun u2 : Unit => [(aM, .inr (9, [.int M_thrown, .ref aM_tape, .int M_size, .int M_errorAt, .ref aQ, .ref aM_kind, .ref aM_from, .ref aM_means, .ref aM_value, .ref aM_who, .int M_token, .int M_depth, .int M_ordersRead, .int M_isSpring, .int M_itsSeat, .ref aM_now, .ref aM_kept, .ref aM_stack])), (aM_tape, .inl (cI, 2000, .inl M_tape))]) [0, 1] rfl (fun _ => rfl) (rest := []) rfl (Nat.le_of_ble_eq_true rfl) dX10_endOf_57 (fun r2 u2 h => ?_)
    obtain ⟨hb2, h⟩ := h
    refine q_if_eq C 69 dX10_endOf_60 (by decide) h (fun h => ?_) (fun h => ?_)
    · exact bX10_endOf_69 C  hret  _ _ h
    · refine q_iinc C (v := x3 + 1) [(3, .int (x3 + 1)), (0, .ref aM), (2, .int x2)] dX10_endOf_63 2 rfl rfl (by decide) rfl ?_
      refine q_goto (tgt := 52) C dX10_endOf_66 (by decide) ?_
      refine q_ls [(0, .ref aM), (2, .int x2), (3, .int (x3 + 1))] [1, 2, 0] rfl ?_
      exact ih _ _ h
def wX10_endOf_45 (K : Int32 → Unit → Prop) (M_tape : Nat → Int32) (M_size : Int32) (x2 : Int32) (x3 : Int32) : Prop :=
  wX10_isDigit x2 (fun r1 u1 => ((r1 = 0 → wX10_endOf_69 K M_tape M_size x2 x3) ∧ (¬ r1 = 0 → ∃ k9 : Nat, wX10_endOf_52 K M_tape M_size k9 x2 x3)))
set_option maxRecDepth 100000 in
set_option maxHeartbeats 4000000 in
theorem bX10_endOf_45 {D : gD} {cB cI cJ cZ : ClassId} {E : gE} {A : Nat → Prop} {Q : State → Prop} {aM aM_tape aQ aM_kind aM_from aM_means aM_value aM_who aM_now aM_kept aM_stack : Nat} {M_thrown M_size M_errorAt M_token M_depth M_ordersRead M_isSpring M_itsSeat : Int32} {M_tape : Nat → Int32} (C : Cx D (gT cB cI cJ cZ) E rmX10_endOf cX10_endOf 4 RX10 A) {K : Int32 → Unit → Prop} (hret : ∀ (r : Int32) (u : Unit) (pc : Nat) (ls : List (Nat × Value)), K r u → decode cX10_endOf pc = .ok (.ireturn, 1) → Go D E A Q 4 0 0 [(aM, .inr (9, [.int M_thrown, .ref aM_tape, .int M_size, .int M_errorAt, .ref aQ, .ref aM_kind, .ref aM_from, .ref aM_means, .ref aM_value, .ref aM_who, .int M_token, .int M_depth, .int M_ordersRead, .int M_isSpring, .int M_itsSeat, .ref aM_now, .ref aM_kept, .ref aM_stack])), (aM_tape, .inl (cI, 2000, .inl M_tape))] ls pc [.int r]) : ∀ (x2 : Int32) (x3 : Int32), wX10_endOf_45 K M_tape M_size x2 x3 → Go D E A Q 4 0 0 [(aM, .inr (9, [.int M_thrown, .ref aM_tape, .int M_size, .int M_errorAt, .ref aQ, .ref aM_kind, .ref aM_from, .ref aM_means, .ref aM_value, .ref aM_who, .int M_token, .int M_depth, .int M_ordersRead, .int M_isSpring, .int M_itsSeat, .ref aM_now, .ref aM_kept, .ref aM_stack])), (aM_tape, .inl (cI, 2000, .inl M_tape))] [(0, .ref aM), (2, .int x2), (3, .int x3)] 45 [] := by
  intro x2 x3 h
  unfold wX10_endOf_45 at h
  refine q_iload_n C dX10_endOf_45 1 rfl ?_
  refine q_callSI C (cX10_isDigit_ok _ h) cf_X10_219 st_X10_isDigit rfl ⟨Nat.le_of_ble_eq_true rfl, Nat.le_of_ble_eq_true rfl⟩ ⟨Nat.le_of_ble_eq_true rfl, Nat.le_of_ble_eq_true rfl⟩ 0 0 ⟨rfl, rfl⟩ [] [0, 1] (wr := [(aM, .inr (9, [.int M_thrown, .ref aM_tape, .int M_size, .int M_errorAt, .ref aQ, .ref aM_kind, .ref aM_from, .ref aM_means, .ref aM_value, .ref aM_who, .int M_token, .int M_depth, .int M_ordersRead, .int M_isSpring, .int M_itsSeat, .ref aM_now, .ref aM_kept, .ref aM_stack])), (aM_tape, .inl (cI, 2000, .inl M_tape))]) rfl rfl rfl rfl (by decide) (fun u1 : Unit => [(aM, .inr (9, [.int M_thrown, .ref aM_tape, .int M_size, .int M_errorAt, .ref aQ, .ref aM_kind, .ref aM_from, .ref aM_means, .ref aM_value, .ref aM_who, .int M_token, .int M_depth, .int M_ordersRead, .int M_isSpring, .int M_itsSeat, .ref aM_now, .ref aM_kept, .ref aM_stack])), (aM_tape, .inl (cI, 2000, .inl M_tape))]) [0, 1] rfl (fun _ => rfl) (rest := []) rfl (Nat.le_of_ble_eq_true rfl) dX10_endOf_46 (fun r1 u1 h => ?_)
  obtain ⟨hb1, h⟩ := h
  refine q_if_eq C 69 dX10_endOf_49 (by decide) h (fun h => ?_) (fun h => ?_)
  · exact bX10_endOf_69 C  hret  _ _ h
  · obtain ⟨n1, h⟩ := h
    exact bX10_endOf_52 C  hret  n1 _ _ h
def wX10_endOf_39 (K : Int32 → Unit → Prop) (KL17 : Int32 → Int32 → Prop) (M_tape : Nat → Int32) (M_size : Int32) (x2 : Int32) (x3 : Int32) : Prop :=
  KL17 x2 (x3 + 1)
set_option maxRecDepth 100000 in
set_option maxHeartbeats 4000000 in
theorem bX10_endOf_39 {D : gD} {cB cI cJ cZ : ClassId} {E : gE} {A : Nat → Prop} {Q : State → Prop} {aM aM_tape aQ aM_kind aM_from aM_means aM_value aM_who aM_now aM_kept aM_stack : Nat} {M_thrown M_size M_errorAt M_token M_depth M_ordersRead M_isSpring M_itsSeat : Int32} {M_tape : Nat → Int32} (C : Cx D (gT cB cI cJ cZ) E rmX10_endOf cX10_endOf 4 RX10 A) {K : Int32 → Unit → Prop} (hret : ∀ (r : Int32) (u : Unit) (pc : Nat) (ls : List (Nat × Value)), K r u → decode cX10_endOf pc = .ok (.ireturn, 1) → Go D E A Q 4 0 0 [(aM, .inr (9, [.int M_thrown, .ref aM_tape, .int M_size, .int M_errorAt, .ref aQ, .ref aM_kind, .ref aM_from, .ref aM_means, .ref aM_value, .ref aM_who, .int M_token, .int M_depth, .int M_ordersRead, .int M_isSpring, .int M_itsSeat, .ref aM_now, .ref aM_kept, .ref aM_stack])), (aM_tape, .inl (cI, 2000, .inl M_tape))] ls pc [.int r]) {KL17 : Int32 → Int32 → Prop} (hKL17 : ∀ (x2 : Int32) (x3 : Int32), KL17 x2 x3 → Go D E A Q 4 0 0 [(aM, .inr (9, [.int M_thrown, .ref aM_tape, .int M_size, .int M_errorAt, .ref aQ, .ref aM_kind, .ref aM_from, .ref aM_means, .ref aM_value, .ref aM_who, .int M_token, .int M_depth, .int M_ordersRead, .int M_isSpring, .int M_itsSeat, .ref aM_now, .ref aM_kept, .ref aM_stack])), (aM_tape, .inl (cI, 2000, .inl M_tape))] [(0, .ref aM), (2, .int x2), (3, .int x3)] 17 []) : ∀ (x2 : Int32) (x3 : Int32), wX10_endOf_39 K KL17 M_tape M_size x2 x3 → Go D E A Q 4 0 0 [(aM, .inr (9, [.int M_thrown, .ref aM_tape, .int M_size, .int M_errorAt, .ref aQ, .ref aM_kind, .ref aM_from, .ref aM_means, .ref aM_value, .ref aM_who, .int M_token, .int M_depth, .int M_ordersRead, .int M_isSpring, .int M_itsSeat, .ref aM_now, .ref aM_kept, .ref aM_stack])), (aM_tape, .inl (cI, 2000, .inl M_tape))] [(0, .ref aM), (2, .int x2), (3, .int x3)] 39 [] := by
  intro x2 x3 h
  unfold wX10_endOf_39 at h
  refine q_iinc C (v := x3 + 1) [(3, .int (x3 + 1)), (0, .ref aM), (2, .int x2)] dX10_endOf_39 2 rfl rfl (by decide) rfl ?_
  refine q_goto (tgt := 17) C dX10_endOf_42 (by decide) ?_
  refine q_ls [(0, .ref aM), (2, .int x2), (3, .int (x3 + 1))] [1, 2, 0] rfl ?_
  exact hKL17 _ _ h
def wX10_endOf_17 (K : Int32 → Unit → Prop) (M_tape : Nat → Int32) (M_size : Int32) : Nat → Int32 → Int32 → Prop
  | 0, _, _ => False
  | n + 1, x2, x3 =>
  wX10_byteOf M_tape M_size x3 (fun r1 u1 => wX10_isSmall r1 (fun r2 u2 => ((¬ r2 = 0 → wX10_endOf_39 K (wX10_endOf_17 K M_tape M_size n) M_tape M_size x2 x3) ∧ (r2 = 0 → wX10_byteOf M_tape M_size x3 (fun r3 u3 => wX10_isDigit r3 (fun r4 u4 => ((r4 = 0 → wX10_endOf_45 K M_tape M_size x2 x3) ∧ (¬ r4 = 0 → wX10_endOf_39 K (wX10_endOf_17 K M_tape M_size n) M_tape M_size x2 x3))))))))
set_option maxRecDepth 100000 in
set_option maxHeartbeats 4000000 in
theorem bX10_endOf_17 {D : gD} {cB cI cJ cZ : ClassId} {E : gE} {A : Nat → Prop} {Q : State → Prop} {aM aM_tape aQ aM_kind aM_from aM_means aM_value aM_who aM_now aM_kept aM_stack : Nat} {M_thrown M_size M_errorAt M_token M_depth M_ordersRead M_isSpring M_itsSeat : Int32} {M_tape : Nat → Int32} (C : Cx D (gT cB cI cJ cZ) E rmX10_endOf cX10_endOf 4 RX10 A) {K : Int32 → Unit → Prop} (hret : ∀ (r : Int32) (u : Unit) (pc : Nat) (ls : List (Nat × Value)), K r u → decode cX10_endOf pc = .ok (.ireturn, 1) → Go D E A Q 4 0 0 [(aM, .inr (9, [.int M_thrown, .ref aM_tape, .int M_size, .int M_errorAt, .ref aQ, .ref aM_kind, .ref aM_from, .ref aM_means, .ref aM_value, .ref aM_who, .int M_token, .int M_depth, .int M_ordersRead, .int M_isSpring, .int M_itsSeat, .ref aM_now, .ref aM_kept, .ref aM_stack])), (aM_tape, .inl (cI, 2000, .inl M_tape))] ls pc [.int r]) : ∀ (n : Nat) (x2 : Int32) (x3 : Int32), wX10_endOf_17 K M_tape M_size n x2 x3 → Go D E A Q 4 0 0 [(aM, .inr (9, [.int M_thrown, .ref aM_tape, .int M_size, .int M_errorAt, .ref aQ, .ref aM_kind, .ref aM_from, .ref aM_means, .ref aM_value, .ref aM_who, .int M_token, .int M_depth, .int M_ordersRead, .int M_isSpring, .int M_itsSeat, .ref aM_now, .ref aM_kept, .ref aM_stack])), (aM_tape, .inl (cI, 2000, .inl M_tape))] [(0, .ref aM), (2, .int x2), (3, .int x3)] 17 [] := by
  intro n
  induction n with
  | zero =>
    intro x2 x3 h
    exact h.elim
  | succ n ih =>
    intro x2 x3 h
    unfold wX10_endOf_17 at h
    refine q_aload_n C dX10_endOf_17 0 rfl ?_
    refine q_iload_n C dX10_endOf_18 2 rfl ?_
    refine q_callVI C (cX10_byteOf_ok _ h) cf_X10_213 im_X10_byteOf se_X10_byteOf 9 rfl rfl rfl rfl ⟨Nat.le_of_ble_eq_true rfl, Nat.le_of_ble_eq_true rfl⟩ ⟨Nat.le_of_ble_eq_true rfl, Nat.le_of_ble_eq_true rfl⟩ 0 0 ⟨rfl, rfl⟩ [0, 1] [] (wr := []) rfl rfl rfl rfl (by decide) (fun u1 : Unit => [(aM, .inr (9, [.int M_thrown, .ref aM_tape, .int M_size, .int M_errorAt, .ref aQ, .ref aM_kind, .ref aM_from, .ref aM_means, .ref aM_value, .ref aM_who, .int M_token, .int M_depth, .int M_ordersRead, .int M_isSpring, .int M_itsSeat, .ref aM_now, .ref aM_kept, .ref aM_stack])), (aM_tape, .inl (cI, 2000, .inl M_tape))]) [0, 1] rfl (fun _ => rfl) (rest := []) rfl (Nat.le_of_ble_eq_true rfl) dX10_endOf_19 (fun r1 u1 h => ?_)
    refine q_callSI C (cX10_isSmall_ok _ h) cf_X10_216 st_X10_isSmall rfl ⟨Nat.le_of_ble_eq_true rfl, Nat.le_of_ble_eq_true rfl⟩ ⟨Nat.le_of_ble_eq_true rfl, Nat.le_of_ble_eq_true rfl⟩ 0 0 ⟨rfl, rfl⟩ [] [0, 1] (wr := [(aM, .inr (9, [.int M_thrown, .ref aM_tape, .int M_size, .int M_errorAt, .ref aQ, .ref aM_kind, .ref aM_from, .ref aM_means, .ref aM_value, .ref aM_who, .int M_token, .int M_depth, .int M_ordersRead, .int M_isSpring, .int M_itsSeat, .ref aM_now, .ref aM_kept, .ref aM_stack])), (aM_tape, .inl (cI, 2000, .inl M_tape))]) rfl rfl rfl rfl (by decide) (fun u2 : Unit => [(aM, .inr (9, [.int M_thrown, .ref aM_tape, .int M_size, .int M_errorAt, .ref aQ, .ref aM_kind, .ref aM_from, .ref aM_means, .ref aM_value, .ref aM_who, .int M_token, .int M_depth, .int M_ordersRead, .int M_isSpring, .int M_itsSeat, .ref aM_now, .ref aM_kept, .ref aM_stack])), (aM_tape, .inl (cI, 2000, .inl M_tape))]) [0, 1] rfl (fun _ => rfl) (rest := []) rfl (Nat.le_of_ble_eq_true rfl) dX10_endOf_22 (fun r2 u2 h => ?_)
    obtain ⟨hb2, h⟩ := h
    refine q_if_ne C 39 dX10_endOf_25 (by decide) h (fun h => ?_) (fun h => ?_)
    · exact bX10_endOf_39 C (KL17 := (wX10_endOf_17 K M_tape M_size n)) hret ih _ _ h
    · refine q_aload_n C dX10_endOf_28 0 rfl ?_
      refine q_iload_n C dX10_endOf_29 2 rfl ?_
      refine q_callVI C (cX10_byteOf_ok _ h) cf_X10_213 im_X10_byteOf se_X10_byteOf 9 rfl rfl rfl rfl ⟨Nat.le_of_ble_eq_true rfl, Nat.le_of_ble_eq_true rfl⟩ ⟨Nat.le_of_ble_eq_true rfl, Nat.le_of_ble_eq_true rfl⟩ 0 0 ⟨rfl, rfl⟩ [0, 1] [] (wr := []) rfl rfl rfl rfl (by decide) (fun u3 : Unit => [(aM, .inr (9, [.int M_thrown, .ref aM_tape, .int M_size, .int M_errorAt, .ref aQ, .ref aM_kind, .ref aM_from, .ref aM_means, .ref aM_value, .ref aM_who, .int M_token, .int M_depth, .int M_ordersRead, .int M_isSpring, .int M_itsSeat, .ref aM_now, .ref aM_kept, .ref aM_stack])), (aM_tape, .inl (cI, 2000, .inl M_tape))]) [0, 1] rfl (fun _ => rfl) (rest := []) rfl (Nat.le_of_ble_eq_true rfl) dX10_endOf_30 (fun r3 u3 h => ?_)
      refine q_callSI C (cX10_isDigit_ok _ h) cf_X10_219 st_X10_isDigit rfl ⟨Nat.le_of_ble_eq_true rfl, Nat.le_of_ble_eq_true rfl⟩ ⟨Nat.le_of_ble_eq_true rfl, Nat.le_of_ble_eq_true rfl⟩ 0 0 ⟨rfl, rfl⟩ [] [0, 1] (wr := [(aM, .inr (9, [.int M_thrown, .ref aM_tape, .int M_size, .int M_errorAt, .ref aQ, .ref aM_kind, .ref aM_from, .ref aM_means, .ref aM_value, .ref aM_who, .int M_token, .int M_depth, .int M_ordersRead, .int M_isSpring, .int M_itsSeat, .ref aM_now, .ref aM_kept, .ref aM_stack])), (aM_tape, .inl (cI, 2000, .inl M_tape))]) rfl rfl rfl rfl (by decide) (fun u4 : Unit => [(aM, .inr (9, [.int M_thrown, .ref aM_tape, .int M_size, .int M_errorAt, .ref aQ, .ref aM_kind, .ref aM_from, .ref aM_means, .ref aM_value, .ref aM_who, .int M_token, .int M_depth, .int M_ordersRead, .int M_isSpring, .int M_itsSeat, .ref aM_now, .ref aM_kept, .ref aM_stack])), (aM_tape, .inl (cI, 2000, .inl M_tape))]) [0, 1] rfl (fun _ => rfl) (rest := []) rfl (Nat.le_of_ble_eq_true rfl) dX10_endOf_33 (fun r4 u4 h => ?_)
      obtain ⟨hb4, h⟩ := h
      refine q_if_eq C 45 dX10_endOf_36 (by decide) h (fun h => ?_) (fun h => ?_)
      · exact bX10_endOf_45 C  hret  _ _ h
      · exact bX10_endOf_39 C (KL17 := (wX10_endOf_17 K M_tape M_size n)) hret ih _ _ h
def wX10_endOf (M_tape : Nat → Int32) (M_size : Int32) (p0 : Int32) (K : Int32 → Unit → Prop) : Prop :=
  wX10_byteOf M_tape M_size p0 (fun r1 u1 => wX10_isSmall r1 (fun r2 u2 => ((r2 = 0 → wX10_endOf_45 K M_tape M_size r1 (p0 + 1)) ∧ (¬ r2 = 0 → ∃ k9 : Nat, wX10_endOf_17 K M_tape M_size k9 r1 (p0 + 1)))))
set_option maxRecDepth 100000 in
set_option maxHeartbeats 4000000 in
theorem bX10_endOf {D : gD} {cB cI cJ cZ : ClassId} {E : gE} {A : Nat → Prop} {Q : State → Prop} {aM aM_tape aQ aM_kind aM_from aM_means aM_value aM_who aM_now aM_kept aM_stack : Nat} {M_thrown M_size M_errorAt M_token M_depth M_ordersRead M_isSpring M_itsSeat : Int32} {M_tape : Nat → Int32} (C : Cx D (gT cB cI cJ cZ) E rmX10_endOf cX10_endOf 4 RX10 A) {p0 : Int32} {K : Int32 → Unit → Prop} (hret : ∀ (r : Int32) (u : Unit) (pc : Nat) (ls : List (Nat × Value)), K r u → decode cX10_endOf pc = .ok (.ireturn, 1) → Go D E A Q 4 0 0 [(aM, .inr (9, [.int M_thrown, .ref aM_tape, .int M_size, .int M_errorAt, .ref aQ, .ref aM_kind, .ref aM_from, .ref aM_means, .ref aM_value, .ref aM_who, .int M_token, .int M_depth, .int M_ordersRead, .int M_isSpring, .int M_itsSeat, .ref aM_now, .ref aM_kept, .ref aM_stack])), (aM_tape, .inl (cI, 2000, .inl M_tape))] ls pc [.int r]) (h : wX10_endOf M_tape M_size p0 K) : Go D E A Q 4 0 0 [(aM, .inr (9, [.int M_thrown, .ref aM_tape, .int M_size, .int M_errorAt, .ref aQ, .ref aM_kind, .ref aM_from, .ref aM_means, .ref aM_value, .ref aM_who, .int M_token, .int M_depth, .int M_ordersRead, .int M_isSpring, .int M_itsSeat, .ref aM_now, .ref aM_kept, .ref aM_stack])), (aM_tape, .inl (cI, 2000, .inl M_tape))] [(0, .ref aM), (1, .int p0)] 0 [] := by
  unfold wX10_endOf at h
  refine q_aload_n C dX10_endOf_0 0 rfl ?_
  refine q_iload_n C dX10_endOf_1 1 rfl ?_
  refine q_callVI C (cX10_byteOf_ok _ h) cf_X10_213 im_X10_byteOf se_X10_byteOf 9 rfl rfl rfl rfl ⟨Nat.le_of_ble_eq_true rfl, Nat.le_of_ble_eq_true rfl⟩ ⟨Nat.le_of_ble_eq_true rfl, Nat.le_of_ble_eq_true rfl⟩ 0 0 ⟨rfl, rfl⟩ [0, 1] [] (wr := []) rfl rfl rfl rfl (by decide) (fun u1 : Unit => [(aM, .inr (9, [.int M_thrown, .ref aM_tape, .int M_size, .int M_errorAt, .ref aQ, .ref aM_kind, .ref aM_from, .ref aM_means, .ref aM_value, .ref aM_who, .int M_token, .int M_depth, .int M_ordersRead, .int M_isSpring, .int M_itsSeat, .ref aM_now, .ref aM_kept, .ref aM_stack])), (aM_tape, .inl (cI, 2000, .inl M_tape))]) [0, 1] rfl (fun _ => rfl) (rest := []) rfl (Nat.le_of_ble_eq_true rfl) dX10_endOf_2 (fun r1 u1 h => ?_)
  refine q_istore_n C [(2, .int r1), (0, .ref aM), (1, .int p0)] dX10_endOf_5 (by decide) rfl ?_
  refine q_iload_n C dX10_endOf_6 2 rfl ?_
  refine q_iconst C (v := 1) dX10_endOf_7 (by decide) ?_
  refine q_iadd C dX10_endOf_8 ?_
  refine q_istore_n C [(3, .int (p0 + 1)), (2, .int r1), (0, .ref aM), (1, .int p0)] dX10_endOf_9 (by decide) rfl ?_
  refine q_iload_n C dX10_endOf_10 1 rfl ?_
  refine q_callSI C (cX10_isSmall_ok _ h) cf_X10_216 st_X10_isSmall rfl ⟨Nat.le_of_ble_eq_true rfl, Nat.le_of_ble_eq_true rfl⟩ ⟨Nat.le_of_ble_eq_true rfl, Nat.le_of_ble_eq_true rfl⟩ 0 0 ⟨rfl, rfl⟩ [] [0, 1] (wr := [(aM, .inr (9, [.int M_thrown, .ref aM_tape, .int M_size, .int M_errorAt, .ref aQ, .ref aM_kind, .ref aM_from, .ref aM_means, .ref aM_value, .ref aM_who, .int M_token, .int M_depth, .int M_ordersRead, .int M_isSpring, .int M_itsSeat, .ref aM_now, .ref aM_kept, .ref aM_stack])), (aM_tape, .inl (cI, 2000, .inl M_tape))]) rfl rfl rfl rfl (by decide) (fun u2 : Unit => [(aM, .inr (9, [.int M_thrown, .ref aM_tape, .int M_size, .int M_errorAt, .ref aQ, .ref aM_kind, .ref aM_from, .ref aM_means, .ref aM_value, .ref aM_who, .int M_token, .int M_depth, .int M_ordersRead, .int M_isSpring, .int M_itsSeat, .ref aM_now, .ref aM_kept, .ref aM_stack])), (aM_tape, .inl (cI, 2000, .inl M_tape))]) [0, 1] rfl (fun _ => rfl) (rest := []) rfl (Nat.le_of_ble_eq_true rfl) dX10_endOf_11 (fun r2 u2 h => ?_)
  obtain ⟨hb2, h⟩ := h
  refine q_if_eq C 45 dX10_endOf_14 (by decide) h (fun h => ?_) (fun h => ?_)
  · refine q_ls [(0, .ref aM), (2, .int r1), (3, .int (p0 + 1))] [2, 1, 0] rfl ?_
    exact bX10_endOf_45 C  hret  _ _ h
  · refine q_ls [(0, .ref aM), (2, .int r1), (3, .int (p0 + 1))] [2, 1, 0] rfl ?_
    obtain ⟨n1, h⟩ := h
    exact bX10_endOf_17 C  hret  n1 _ _ h
theorem cX10_endOf_ok (l : Launch) {D : gD} {cB cI cJ cZ : ClassId} {aM aM_tape aQ aM_kind aM_from aM_means aM_value aM_who aM_now aM_kept aM_stack : Nat} {M_thrown M_size M_errorAt M_token M_depth M_ordersRead M_isSpring M_itsSeat : Int32} {M_tape : Nat → Int32} {p0 : Int32} {K : Int32 → Unit → Prop} (h : wX10_endOf M_tape M_size p0 K) : CtI l D (gT cB cI cJ cZ) yX10_endOf cX10_endOf 4 .int rmX10_endOf [.ref aM, .int p0] [(aM, .inr (9, [.int M_thrown, .ref aM_tape, .int M_size, .int M_errorAt, .ref aQ, .ref aM_kind, .ref aM_from, .ref aM_means, .ref aM_value, .ref aM_who, .int M_token, .int M_depth, .int M_ordersRead, .int M_isSpring, .int M_itsSeat, .ref aM_now, .ref aM_kept, .ref aM_stack])), (aM_tape, .inl (cI, 2000, .inl M_tape))] (fun u : Unit => [(aM, .inr (9, [.int M_thrown, .ref aM_tape, .int M_size, .int M_errorAt, .ref aQ, .ref aM_kind, .ref aM_from, .ref aM_means, .ref aM_value, .ref aM_who, .int M_token, .int M_depth, .int M_ordersRead, .int M_isSpring, .int M_itsSeat, .ref aM_now, .ref aM_kept, .ref aM_stack])), (aM_tape, .inl (cI, 2000, .inl M_tape))]) K :=
  ct_startI (by decide +kernel) (Nat.le_of_ble_eq_true rfl) (fun E A Q hE C hret => bX10_endOf C (fun r u pc ls hk hd => hret r u pc ls rfl hk hd) h)
abbrev rmX10_numberAt : Room := { frames := 0, cells := 0, slots := 0, locals := 0 }
def wX10_numberAt_6 (K : Int32 → (Nat → Int64) → Prop) (M_tape : Nat → Int32) : Nat → (Nat → Int64) → Int32 → Int32 → Int32 → Int32 → Prop
  | 0, _, _, _, _, _ => False
  | n + 1, M_value, x1, x3, x4, x5 =>
  ((x3 ≤ x5 → vp_in x1 401 ∧ (K 31 (vp_updL M_value x1.toNatClampNeg x4.toInt64))) ∧ (¬ x3 ≤ x5 → vp_in x5 2000 ∧ (wX10_numberAt_6 K M_tape n M_value x1 x3 (((10 * x4) + (M_tape x5.toNatClampNeg)) - 48) (x5 + 1))))
set_option maxRecDepth 100000 in
set_option maxHeartbeats 4000000 in
theorem bX10_numberAt_6 {D : gD} {cB cI cJ cZ : ClassId} {E : gE} {A : Nat → Prop} {Q : State → Prop} {aM aM_tape aM_value aQ aM_kind aM_from aM_means aM_who aM_now aM_kept aM_stack : Nat} {M_thrown M_size M_errorAt M_token M_depth M_ordersRead M_isSpring M_itsSeat : Int32} {M_tape : Nat → Int32} (C : Cx D (gT cB cI cJ cZ) E rmX10_numberAt cX10_numberAt 6 RX10 A) {K : Int32 → (Nat → Int64) → Prop} (hret : ∀ (r : Int32) (u : (Nat → Int64)) (pc : Nat) (ls : List (Nat × Value)), K r u → decode cX10_numberAt pc = .ok (.ireturn, 1) → Go D E A Q 6 0 0 [(aM, .inr (9, [.int M_thrown, .ref aM_tape, .int M_size, .int M_errorAt, .ref aQ, .ref aM_kind, .ref aM_from, .ref aM_means, .ref aM_value, .ref aM_who, .int M_token, .int M_depth, .int M_ordersRead, .int M_isSpring, .int M_itsSeat, .ref aM_now, .ref aM_kept, .ref aM_stack])), (aM_tape, .inl (cI, 2000, .inl M_tape)), (aM_value, .inl (cJ, 401, .inr (.inl u)))] ls pc [.int r]) : ∀ (n : Nat) (M_value : Nat → Int64) (x1 : Int32) (x3 : Int32) (x4 : Int32) (x5 : Int32), wX10_numberAt_6 K M_tape n M_value x1 x3 x4 x5 → Go D E A Q 6 0 0 [(aM, .inr (9, [.int M_thrown, .ref aM_tape, .int M_size, .int M_errorAt, .ref aQ, .ref aM_kind, .ref aM_from, .ref aM_means, .ref aM_value, .ref aM_who, .int M_token, .int M_depth, .int M_ordersRead, .int M_isSpring, .int M_itsSeat, .ref aM_now, .ref aM_kept, .ref aM_stack])), (aM_tape, .inl (cI, 2000, .inl M_tape)), (aM_value, .inl (cJ, 401, .inr (.inl M_value)))] [(0, .ref aM), (1, .int x1), (3, .int x3), (4, .int x4), (5, .int x5)] 6 [] := by
  intro n
  induction n with
  | zero =>
    intro M_value x1 x3 x4 x5 h
    exact h.elim
  | succ n ih =>
    intro M_value x1 x3 x4 x5 h
    unfold wX10_numberAt_6 at h
    refine q_iload C dX10_numberAt_6 4 rfl ?_
    refine q_iload_n C dX10_numberAt_8 2 rfl ?_
    refine q_icmp_ge C 36 dX10_numberAt_9 (by decide) h (fun h => ?_) (fun h => ?_)
    · refine q_aload_n C dX10_numberAt_36 0 rfl ?_
      refine q_get C inX10g rfl 8 (by decide) fl_X10_33 rfl 0 rfl rfl dX10_numberAt_37 ?_
      refine q_iload_n C dX10_numberAt_40 1 rfl ?_
      refine q_iload C dX10_numberAt_41 3 rfl ?_
      refine q_i2l C dX10_numberAt_43 ?_
      refine q_last C 2 2 [(aM, .inr (9, [.int M_thrown, .ref aM_tape, .int M_size, .int M_errorAt, .ref aQ, .ref aM_kind, .ref aM_from, .ref aM_means, .ref aM_value, .ref aM_who, .int M_token, .int M_depth, .int M_ordersRead, .int M_isSpring, .int M_itsSeat, .ref aM_now, .ref aM_kept, .ref aM_stack])), (aM_tape, .inl (cI, 2000, .inl M_tape)), (aM_value, .inl (cJ, 401, .inr (.inl (vp_updL M_value x1.toNatClampNeg x4.toInt64))))] rfl rfl rfl dX10_numberAt_44 h (fun h => ?_)
      refine q_bipush C (v := 31) dX10_numberAt_45 (by decide) ?_
      exact hret 31 (vp_updL M_value x1.toNatClampNeg x4.toInt64) _ _ h dX10_numberAt_47
    · refine q_bipush C (v := 10) dX10_numberAt_12 (by decide) ?_
      refine q_iload C dX10_numberAt_14 3 rfl ?_
      refine q_imul C dX10_numberAt_16 ?_
      refine q_aload_n C dX10_numberAt_17 0 rfl ?_
      refine q_get C inX10g rfl 1 (by decide) fl_X10_9 rfl 0 rfl rfl dX10_numberAt_18 ?_
      refine q_iload C dX10_numberAt_21 4 rfl ?_
      refine q_iald C 1 1 rfl rfl dX10_numberAt_23 h (fun h => ?_)
      refine q_iadd C dX10_numberAt_24 ?_
      refine q_bipush C (v := 48) dX10_numberAt_25 (by decide) ?_
      refine q_isub C dX10_numberAt_27 ?_
      refine q_istore C [(4, .int (((10 * x4) + (M_tape x5.toNatClampNeg)) - 48)), (0, .ref aM), (1, .int x1), (3, .int x3), (5, .int x5)] dX10_numberAt_28 (by decide) rfl ?_
      refine q_iinc C (v := x5 + 1) [(5, .int (x5 + 1)), (4, .int (((10 * x4) + (M_tape x5.toNatClampNeg)) - 48)), (0, .ref aM), (1, .int x1), (3, .int x3)] dX10_numberAt_30 4 rfl rfl (by decide) rfl ?_
      refine q_goto (tgt := 6) C dX10_numberAt_33 (by decide) ?_
      refine q_ls [(0, .ref aM), (1, .int x1), (3, .int x3), (4, .int (((10 * x4) + (M_tape x5.toNatClampNeg)) - 48)), (5, .int (x5 + 1))] [2, 3, 4, 1, 0] rfl ?_
      exact ih _ _ _ _ _ h
def wX10_numberAt (M_tape : Nat → Int32) (M_value : Nat → Int64) (p0 : Int32) (p1 : Int32) (p2 : Int32) (K : Int32 → (Nat → Int64) → Prop) : Prop :=
  ∃ k9 : Nat, wX10_numberAt_6 K M_tape k9 M_value p0 p2 0 p1
set_option maxRecDepth 100000 in
set_option maxHeartbeats 4000000 in
theorem bX10_numberAt {D : gD} {cB cI cJ cZ : ClassId} {E : gE} {A : Nat → Prop} {Q : State → Prop} {aM aM_tape aM_value aQ aM_kind aM_from aM_means aM_who aM_now aM_kept aM_stack : Nat} {M_thrown M_size M_errorAt M_token M_depth M_ordersRead M_isSpring M_itsSeat : Int32} {M_tape : Nat → Int32} {M_value : Nat → Int64} (C : Cx D (gT cB cI cJ cZ) E rmX10_numberAt cX10_numberAt 6 RX10 A) {p0 : Int32} {p1 : Int32} {p2 : Int32} {K : Int32 → (Nat → Int64) → Prop} (hret : ∀ (r : Int32) (u : (Nat → Int64)) (pc : Nat) (ls : List (Nat × Value)), K r u → decode cX10_numberAt pc = .ok (.ireturn, 1) → Go D E A Q 6 0 0 [(aM, .inr (9, [.int M_thrown, .ref aM_tape, .int M_size, .int M_errorAt, .ref aQ, .ref aM_kind, .ref aM_from, .ref aM_means, .ref aM_value, .ref aM_who, .int M_token, .int M_depth, .int M_ordersRead, .int M_isSpring, .int M_itsSeat, .ref aM_now, .ref aM_kept, .ref aM_stack])), (aM_tape, .inl (cI, 2000, .inl M_tape)), (aM_value, .inl (cJ, 401, .inr (.inl u)))] ls pc [.int r]) (h : wX10_numberAt M_tape M_value p0 p1 p2 K) : Go D E A Q 6 0 0 [(aM, .inr (9, [.int M_thrown, .ref aM_tape, .int M_size, .int M_errorAt, .ref aQ, .ref aM_kind, .ref aM_from, .ref aM_means, .ref aM_value, .ref aM_who, .int M_token, .int M_depth, .int M_ordersRead, .int M_isSpring, .int M_itsSeat, .ref aM_now, .ref aM_kept, .ref aM_stack])), (aM_tape, .inl (cI, 2000, .inl M_tape)), (aM_value, .inl (cJ, 401, .inr (.inl M_value)))] [(0, .ref aM), (1, .int p0), (2, .int p1), (3, .int p2)] 0 [] := by
  unfold wX10_numberAt at h
  refine q_iconst C (v := 0) dX10_numberAt_0 (by decide) ?_
  refine q_istore C [(4, .int 0), (0, .ref aM), (1, .int p0), (2, .int p1), (3, .int p2)] dX10_numberAt_1 (by decide) rfl ?_
  refine q_iload_n C dX10_numberAt_3 3 rfl ?_
  refine q_istore C [(5, .int p1), (4, .int 0), (0, .ref aM), (1, .int p0), (2, .int p1), (3, .int p2)] dX10_numberAt_4 (by decide) rfl ?_
  refine q_ls [(0, .ref aM), (1, .int p0), (3, .int p2), (4, .int 0), (5, .int p1)] [2, 3, 5, 1, 0] rfl ?_
  obtain ⟨n1, h⟩ := h
  exact bX10_numberAt_6 C  hret  n1 _ _ _ _ _ h
theorem cX10_numberAt_ok (l : Launch) {D : gD} {cB cI cJ cZ : ClassId} {aM aM_tape aM_value aQ aM_kind aM_from aM_means aM_who aM_now aM_kept aM_stack : Nat} {M_thrown M_size M_errorAt M_token M_depth M_ordersRead M_isSpring M_itsSeat : Int32} {M_tape : Nat → Int32} {M_value : Nat → Int64} {p0 : Int32} {p1 : Int32} {p2 : Int32} {K : Int32 → (Nat → Int64) → Prop} (h : wX10_numberAt M_tape M_value p0 p1 p2 K) : CtI l D (gT cB cI cJ cZ) yX10_numberAt cX10_numberAt 6 .int rmX10_numberAt [.ref aM, .int p0, .int p1, .int p2] [(aM, .inr (9, [.int M_thrown, .ref aM_tape, .int M_size, .int M_errorAt, .ref aQ, .ref aM_kind, .ref aM_from, .ref aM_means, .ref aM_value, .ref aM_who, .int M_token, .int M_depth, .int M_ordersRead, .int M_isSpring, .int M_itsSeat, .ref aM_now, .ref aM_kept, .ref aM_stack])), (aM_tape, .inl (cI, 2000, .inl M_tape)), (aM_value, .inl (cJ, 401, .inr (.inl M_value)))] (fun u : (Nat → Int64) => [(aM, .inr (9, [.int M_thrown, .ref aM_tape, .int M_size, .int M_errorAt, .ref aQ, .ref aM_kind, .ref aM_from, .ref aM_means, .ref aM_value, .ref aM_who, .int M_token, .int M_depth, .int M_ordersRead, .int M_isSpring, .int M_itsSeat, .ref aM_now, .ref aM_kept, .ref aM_stack])), (aM_tape, .inl (cI, 2000, .inl M_tape)), (aM_value, .inl (cJ, 401, .inr (.inl u)))]) K :=
  ct_startI (by decide +kernel) (Nat.le_of_ble_eq_true rfl) (fun E A Q hE C hret => bX10_numberAt C (fun r u pc ls hk hd => hret r u pc ls rfl hk hd) h)
abbrev rmX10_letter : Room := { frames := 1, cells := 0, slots := 0, locals := 20 }
def wX10_letter (p0 : Int32) (K : Int32 → Unit → Prop) : Prop :=
  wX10_isSmall p0 (fun r1 u1 => ((r1 = 0 → K ((p0 - 48) + 27) ()) ∧ (¬ r1 = 0 → K ((p0 - 97) + 1) ())))
set_option maxRecDepth 100000 in
set_option maxHeartbeats 4000000 in
theorem bX10_letter {D : gD} {cB cI cJ cZ : ClassId} {E : gE} {A : Nat → Prop} {Q : State → Prop} (C : Cx D (gT cB cI cJ cZ) E rmX10_letter cX10_letter 1 RX10 A) {p0 : Int32} {K : Int32 → Unit → Prop} (hret : ∀ (r : Int32) (u : Unit) (pc : Nat) (ls : List (Nat × Value)), K r u → decode cX10_letter pc = .ok (.ireturn, 1) → Go D E A Q 1 0 0 [] ls pc [.int r]) (h : wX10_letter p0 K) : Go D E A Q 1 0 0 [] [(0, .int p0)] 0 [] := by
  unfold wX10_letter at h
  refine q_iload_n C dX10_letter_0 0 rfl ?_
  refine q_callSI C (cX10_isSmall_ok _ h) cf_X10_216 st_X10_isSmall rfl ⟨Nat.le_of_ble_eq_true rfl, Nat.le_of_ble_eq_true rfl⟩ ⟨Nat.le_of_ble_eq_true rfl, Nat.le_of_ble_eq_true rfl⟩ 0 0 ⟨rfl, rfl⟩ [] [] (wr := []) rfl rfl rfl rfl (by decide) (fun u1 : Unit => []) [] rfl (fun _ => rfl) (rest := []) rfl (Nat.le_of_ble_eq_true rfl) dX10_letter_1 (fun r1 u1 h => ?_)
  obtain ⟨hb1, h⟩ := h
  refine q_if_eq C 16 dX10_letter_4 (by decide) h (fun h => ?_) (fun h => ?_)
  · refine q_iload_n C dX10_letter_16 0 rfl ?_
    refine q_bipush C (v := 48) dX10_letter_17 (by decide) ?_
    refine q_isub C dX10_letter_19 ?_
    refine q_bipush C (v := 27) dX10_letter_20 (by decide) ?_
    refine q_iadd C dX10_letter_22 ?_
    exact hret ((p0 - 48) + 27) () _ _ h dX10_letter_23
  · refine q_iload_n C dX10_letter_7 0 rfl ?_
    refine q_bipush C (v := 97) dX10_letter_8 (by decide) ?_
    refine q_isub C dX10_letter_10 ?_
    refine q_iconst C (v := 1) dX10_letter_11 (by decide) ?_
    refine q_iadd C dX10_letter_12 ?_
    refine q_goto (tgt := 23) C dX10_letter_13 (by decide) ?_
    exact hret ((p0 - 97) + 1) () _ _ h dX10_letter_23
theorem cX10_letter_ok (l : Launch) {D : gD} {cB cI cJ cZ : ClassId} {p0 : Int32} {K : Int32 → Unit → Prop} (h : wX10_letter p0 K) : CtI l D (gT cB cI cJ cZ) yX10_letter cX10_letter 1 .int rmX10_letter [.int p0] [] (fun u : Unit => []) K :=
  ct_startI (by decide +kernel) (Nat.le_of_ble_eq_true rfl) (fun E A Q hE C hret => bX10_letter C (fun r u pc ls hk hd => hret r u pc ls rfl hk hd) h)
abbrev rmX10_nameOf : Room := { frames := 4, cells := 0, slots := 0, locals := 120 }
def wX10_nameOf_4 (K : Int64 → Unit → Prop) (p0 : Nat) : Nat → Int64 → Int32 → Prop
  | 0, _, _ => False
  | n + 1, x1, x3 =>
  p0 < 31 ∧ (((kLn p0 ≤ x3 → K x1 ()) ∧ (¬ kLn p0 ≤ x3 → (p0 < 31 ∧ vp_in x3 (kLen p0)) ∧ (wX10_letter (kCh p0 x3.toNatClampNeg) (fun r1 u1 => wX10_nameOf_4 K p0 n ((37 * x1) + r1.toInt64) (x3 + 1))))))
set_option maxRecDepth 100000 in
set_option maxHeartbeats 4000000 in
theorem bX10_nameOf_4 {D : gD} {cB cI cJ cZ : ClassId} {E : gE} {A : Nat → Prop} {Q : State → Prop} {p0 : Nat} (C : Cx D (gT cB cI cJ cZ) E rmX10_nameOf cX10_nameOf 4 RX10 A) {K : Int64 → Unit → Prop} (hret : ∀ (r : Int64) (u : Unit) (pc : Nat) (ls : List (Nat × Value)), K r u → decode cX10_nameOf pc = .ok (.lreturn, 1) → Go D E A Q 4 0 0 [] ls pc [.long r]) : ∀ (n : Nat) (x1 : Int64) (x3 : Int32), wX10_nameOf_4 K p0 n x1 x3 → Go D E A Q 4 0 0 [] [(0, .ref (D.2.1 p0)), (1, .long x1), (3, .int x3)] 4 [] := by
  intro n
  induction n with
  | zero =>
    intro x1 x3 h
    exact h.elim
  | succ n ih =>
    intro x1 x3 h
    unfold wX10_nameOf_4 at h
    refine q_iload_n C dX10_nameOf_4 2 rfl ?_
    refine q_aload_n C dX10_nameOf_5 0 rfl ?_
    refine q_strLen (i := p0) C cf_X10_228 ⟨Nat.le_of_ble_eq_true rfl, Nat.le_of_ble_eq_true rfl⟩ ⟨Nat.le_of_ble_eq_true rfl, Nat.le_of_ble_eq_true rfl⟩ (Nat.le_of_ble_eq_true rfl) dX10_nameOf_6 h (fun h => ?_)
    refine q_icmp_ge C 34 dX10_nameOf_9 (by decide) h (fun h => ?_) (fun h => ?_)
    · refine q_lload_n C dX10_nameOf_34 1 rfl ?_
      exact hret x1 () _ _ h dX10_nameOf_35
    · refine q_ldc2 C (v := 37) cj_X10_233 dX10_nameOf_12 ?_
      refine q_lload_n C dX10_nameOf_15 1 rfl ?_
      refine q_lmul C dX10_nameOf_16 ?_
      refine q_aload_n C dX10_nameOf_17 0 rfl ?_
      refine q_iload_n C dX10_nameOf_18 2 rfl ?_
      refine q_strChar (i := p0) C cf_X10_235 ⟨Nat.le_of_ble_eq_true rfl, Nat.le_of_ble_eq_true rfl⟩ ⟨Nat.le_of_ble_eq_true rfl, Nat.le_of_ble_eq_true rfl⟩ (Nat.le_of_ble_eq_true rfl) dX10_nameOf_19 h (fun h => ?_)
      refine q_callSI C (cX10_letter_ok _ h) cf_X10_239 st_X10_letter rfl ⟨Nat.le_of_ble_eq_true rfl, Nat.le_of_ble_eq_true rfl⟩ ⟨Nat.le_of_ble_eq_true rfl, Nat.le_of_ble_eq_true rfl⟩ 0 0 ⟨rfl, rfl⟩ [] [] (wr := []) rfl rfl rfl rfl (by decide) (fun u1 : Unit => []) [] rfl (fun _ => rfl) (rest := [.long (37 * x1)]) rfl (Nat.le_of_ble_eq_true rfl) dX10_nameOf_22 (fun r1 u1 h => ?_)
      refine q_i2l C dX10_nameOf_25 ?_
      refine q_ladd C dX10_nameOf_26 ?_
      refine q_lstore_n C [(1, .long ((37 * x1) + r1.toInt64)), (0, .ref (D.2.1 p0)), (3, .int x3)] dX10_nameOf_27 (by decide) rfl ?_
      refine q_iinc C (v := x3 + 1) [(3, .int (x3 + 1)), (1, .long ((37 * x1) + r1.toInt64)), (0, .ref (D.2.1 p0))] dX10_nameOf_28 2 rfl rfl (by decide) rfl ?_
      refine q_goto (tgt := 4) C dX10_nameOf_31 (by decide) ?_
      refine q_ls [(0, .ref (D.2.1 p0)), (1, .long ((37 * x1) + r1.toInt64)), (3, .int (x3 + 1))] [2, 1, 0] rfl ?_
      exact ih _ _ h
def wX10_nameOf (p0 : Nat) (K : Int64 → Unit → Prop) : Prop :=
  ∃ k9 : Nat, wX10_nameOf_4 K p0 k9 0 0
set_option maxRecDepth 100000 in
set_option maxHeartbeats 4000000 in
theorem bX10_nameOf {D : gD} {cB cI cJ cZ : ClassId} {E : gE} {A : Nat → Prop} {Q : State → Prop} {p0 : Nat} (C : Cx D (gT cB cI cJ cZ) E rmX10_nameOf cX10_nameOf 4 RX10 A) {K : Int64 → Unit → Prop} (hret : ∀ (r : Int64) (u : Unit) (pc : Nat) (ls : List (Nat × Value)), K r u → decode cX10_nameOf pc = .ok (.lreturn, 1) → Go D E A Q 4 0 0 [] ls pc [.long r]) (h : wX10_nameOf p0 K) : Go D E A Q 4 0 0 [] [(0, .ref (D.2.1 p0))] 0 [] := by
  unfold wX10_nameOf at h
  refine q_lconst C (v := 0) dX10_nameOf_0 (by decide) ?_
  refine q_lstore_n C [(1, .long 0), (0, .ref (D.2.1 p0))] dX10_nameOf_1 (by decide) rfl ?_
  refine q_iconst C (v := 0) dX10_nameOf_2 (by decide) ?_
  refine q_istore_n C [(3, .int 0), (1, .long 0), (0, .ref (D.2.1 p0))] dX10_nameOf_3 (by decide) rfl ?_
  refine q_ls [(0, .ref (D.2.1 p0)), (1, .long 0), (3, .int 0)] [2, 1, 0] rfl ?_
  obtain ⟨n1, h⟩ := h
  exact bX10_nameOf_4 C  hret  n1 _ _ h
theorem cX10_nameOf_ok (l : Launch) {D : gD} {cB cI cJ cZ : ClassId} {p0 : Nat} {K : Int64 → Unit → Prop} (h : wX10_nameOf p0 K) : CtL l D (gT cB cI cJ cZ) yX10_nameOf cX10_nameOf 4 rmX10_nameOf [.ref (D.2.1 p0)] [] (fun u : Unit => []) K :=
  ct_startL (by decide +kernel) (Nat.le_of_ble_eq_true rfl) (fun E A Q hE C hret => bX10_nameOf C hret h)
abbrev rmX10_wordAt : Room := { frames := 5, cells := 0, slots := 0, locals := 143 }
def wX10_wordAt_49 (K : Int32 → (Nat → Int64) → Prop) (M_tape : Nat → Int32) : Nat → (Nat → Int64) → Int64 → Int32 → Prop
  | 0, _, _, _ => False
  | n + 1, M_value, x4, x6 =>
  ((29 ≤ x6 → K 30 (M_value)) ∧ (¬ 29 ≤ x6 → vp_in x6 29 ∧ (wX10_nameOf (x6.toNatClampNeg + 2) (fun r1 u1 => ((¬ lg_cmp r1 x4 = 0 → wX10_wordAt_49 K M_tape n M_value x4 (x6 + 1)) ∧ (lg_cmp r1 x4 = 0 → K x6 (M_value)))))))
set_option maxRecDepth 100000 in
set_option maxHeartbeats 4000000 in
theorem bX10_wordAt_49 {D : gD} {cB cI cJ cZ : ClassId} {E : gE} {A : Nat → Prop} {Q : State → Prop} {aM aM_tape aM_value aQ aM_kind aM_from aM_means aM_who aM_now aM_kept aM_stack : Nat} {M_thrown M_size M_errorAt M_token M_depth M_ordersRead M_isSpring M_itsSeat : Int32} {M_tape : Nat → Int32} (C : Cx D (gT cB cI cJ cZ) E rmX10_wordAt cX10_wordAt 7 RX10 A) {K : Int32 → (Nat → Int64) → Prop} (hret : ∀ (r : Int32) (u : (Nat → Int64)) (pc : Nat) (ls : List (Nat × Value)), K r u → decode cX10_wordAt pc = .ok (.ireturn, 1) → Go D E A Q 7 0 0 [(aM, .inr (9, [.int M_thrown, .ref aM_tape, .int M_size, .int M_errorAt, .ref aQ, .ref aM_kind, .ref aM_from, .ref aM_means, .ref aM_value, .ref aM_who, .int M_token, .int M_depth, .int M_ordersRead, .int M_isSpring, .int M_itsSeat, .ref aM_now, .ref aM_kept, .ref aM_stack])), (aM_tape, .inl (cI, 2000, .inl M_tape)), (aM_value, .inl (cJ, 401, .inr (.inl u)))] ls pc [.int r]) : ∀ (n : Nat) (M_value : Nat → Int64) (x4 : Int64) (x6 : Int32), wX10_wordAt_49 K M_tape n M_value x4 x6 → Go D E A Q 7 0 0 [(aM, .inr (9, [.int M_thrown, .ref aM_tape, .int M_size, .int M_errorAt, .ref aQ, .ref aM_kind, .ref aM_from, .ref aM_means, .ref aM_value, .ref aM_who, .int M_token, .int M_depth, .int M_ordersRead, .int M_isSpring, .int M_itsSeat, .ref aM_now, .ref aM_kept, .ref aM_stack])), (aM_tape, .inl (cI, 2000, .inl M_tape)), (aM_value, .inl (cJ, 401, .inr (.inl M_value)))] [(4, .long x4), (6, .int x6)] 49 [] := by
  intro n
  induction n with
  | zero =>
    intro M_value x4 x6 h
    exact h.elim
  | succ n ih =>
    intro M_value x4 x6 h
    unfold wX10_wordAt_49 at h
    refine q_iload C dX10_wordAt_49 1 rfl ?_
    refine q_getW C fl_X10_242 dX10_wordAt_51 ?_
    refine q_lenW C dX10_wordAt_54 ?_
    refine q_icmp_ge C 82 dX10_wordAt_55 (by decide) h (fun h => ?_) (fun h => ?_)
    · refine q_bipush C (v := 30) dX10_wordAt_82 (by decide) ?_
      exact hret 30 (M_value) _ _ h dX10_wordAt_84
    · refine q_getW C fl_X10_242 dX10_wordAt_58 ?_
      refine q_iload C dX10_wordAt_61 1 rfl ?_
      refine q_aaW C dX10_wordAt_63 h (fun h => ?_)
      refine q_callSL C (cX10_nameOf_ok _ h) cf_X10_246 st_X10_nameOf rfl ⟨Nat.le_of_ble_eq_true rfl, Nat.le_of_ble_eq_true rfl⟩ ⟨Nat.le_of_ble_eq_true rfl, Nat.le_of_ble_eq_true rfl⟩ 0 0 ⟨rfl, rfl⟩ [] [0, 1, 2] (wr := [(aM, .inr (9, [.int M_thrown, .ref aM_tape, .int M_size, .int M_errorAt, .ref aQ, .ref aM_kind, .ref aM_from, .ref aM_means, .ref aM_value, .ref aM_who, .int M_token, .int M_depth, .int M_ordersRead, .int M_isSpring, .int M_itsSeat, .ref aM_now, .ref aM_kept, .ref aM_stack])), (aM_tape, .inl (cI, 2000, .inl M_tape)), (aM_value, .inl (cJ, 401, .inr (.inl M_value)))]) rfl rfl rfl rfl (by decide) (fun u1 : Unit => [(aM, .inr (9, [.int M_thrown, .ref aM_tape, .int M_size, .int M_errorAt, .ref aQ, .ref aM_kind, .ref aM_from, .ref aM_means, .ref aM_value, .ref aM_who, .int M_token, .int M_depth, .int M_ordersRead, .int M_isSpring, .int M_itsSeat, .ref aM_now, .ref aM_kept, .ref aM_stack])), (aM_tape, .inl (cI, 2000, .inl M_tape)), (aM_value, .inl (cJ, 401, .inr (.inl M_value)))]) [0, 1, 2] rfl (fun _ => rfl) (rest := []) rfl (Nat.le_of_ble_eq_true rfl) dX10_wordAt_64 (fun r1 u1 h => ?_)
      refine q_lload C dX10_wordAt_67 0 rfl ?_
      refine q_lcmp C dX10_wordAt_69 ?_
      refine q_if_ne C 76 dX10_wordAt_70 (by decide) h (fun h => ?_) (fun h => ?_)
      · refine q_iinc C (v := x6 + 1) [(6, .int (x6 + 1)), (4, .long x4)] dX10_wordAt_76 1 rfl rfl (by decide) rfl ?_
        refine q_goto (tgt := 49) C dX10_wordAt_79 (by decide) ?_
        refine q_ls [(4, .long x4), (6, .int (x6 + 1))] [1, 0] rfl ?_
        exact ih _ _ _ h
      · refine q_iload C dX10_wordAt_73 1 rfl ?_
        exact hret x6 (M_value) _ _ h dX10_wordAt_75
def wX10_wordAt_6 (K : Int32 → (Nat → Int64) → Prop) (M_tape : Nat → Int32) : Nat → (Nat → Int64) → Int32 → Int32 → Int64 → Int32 → Prop
  | 0, _, _, _, _, _ => False
  | n + 1, M_value, x1, x3, x4, x6 =>
  ((x3 ≤ x6 → vp_in x1 401 ∧ (∃ k9 : Nat, wX10_wordAt_49 K M_tape k9 (vp_updL M_value x1.toNatClampNeg x4) x4 0)) ∧ (¬ x3 ≤ x6 → vp_in x6 2000 ∧ (wX10_letter (M_tape x6.toNatClampNeg) (fun r1 u1 => wX10_wordAt_6 K M_tape n M_value x1 x3 ((37 * x4) + r1.toInt64) (x6 + 1)))))
set_option maxRecDepth 100000 in
set_option maxHeartbeats 4000000 in
theorem bX10_wordAt_6 {D : gD} {cB cI cJ cZ : ClassId} {E : gE} {A : Nat → Prop} {Q : State → Prop} {aM aM_tape aM_value aQ aM_kind aM_from aM_means aM_who aM_now aM_kept aM_stack : Nat} {M_thrown M_size M_errorAt M_token M_depth M_ordersRead M_isSpring M_itsSeat : Int32} {M_tape : Nat → Int32} (C : Cx D (gT cB cI cJ cZ) E rmX10_wordAt cX10_wordAt 7 RX10 A) {K : Int32 → (Nat → Int64) → Prop} (hret : ∀ (r : Int32) (u : (Nat → Int64)) (pc : Nat) (ls : List (Nat × Value)), K r u → decode cX10_wordAt pc = .ok (.ireturn, 1) → Go D E A Q 7 0 0 [(aM, .inr (9, [.int M_thrown, .ref aM_tape, .int M_size, .int M_errorAt, .ref aQ, .ref aM_kind, .ref aM_from, .ref aM_means, .ref aM_value, .ref aM_who, .int M_token, .int M_depth, .int M_ordersRead, .int M_isSpring, .int M_itsSeat, .ref aM_now, .ref aM_kept, .ref aM_stack])), (aM_tape, .inl (cI, 2000, .inl M_tape)), (aM_value, .inl (cJ, 401, .inr (.inl u)))] ls pc [.int r]) : ∀ (n : Nat) (M_value : Nat → Int64) (x1 : Int32) (x3 : Int32) (x4 : Int64) (x6 : Int32), wX10_wordAt_6 K M_tape n M_value x1 x3 x4 x6 → Go D E A Q 7 0 0 [(aM, .inr (9, [.int M_thrown, .ref aM_tape, .int M_size, .int M_errorAt, .ref aQ, .ref aM_kind, .ref aM_from, .ref aM_means, .ref aM_value, .ref aM_who, .int M_token, .int M_depth, .int M_ordersRead, .int M_isSpring, .int M_itsSeat, .ref aM_now, .ref aM_kept, .ref aM_stack])), (aM_tape, .inl (cI, 2000, .inl M_tape)), (aM_value, .inl (cJ, 401, .inr (.inl M_value)))] [(0, .ref aM), (1, .int x1), (3, .int x3), (4, .long x4), (6, .int x6)] 6 [] := by
  intro n
  induction n with
  | zero =>
    intro M_value x1 x3 x4 x6 h
    exact h.elim
  | succ n ih =>
    intro M_value x1 x3 x4 x6 h
    unfold wX10_wordAt_6 at h
    refine q_iload C dX10_wordAt_6 4 rfl ?_
    refine q_iload_n C dX10_wordAt_8 2 rfl ?_
    refine q_icmp_ge C 38 dX10_wordAt_9 (by decide) h (fun h => ?_) (fun h => ?_)
    · refine q_aload_n C dX10_wordAt_38 0 rfl ?_
      refine q_get C inX10g rfl 8 (by decide) fl_X10_33 rfl 0 rfl rfl dX10_wordAt_39 ?_
      refine q_iload_n C dX10_wordAt_42 1 rfl ?_
      refine q_lload C dX10_wordAt_43 3 rfl ?_
      refine q_last C 2 2 [(aM, .inr (9, [.int M_thrown, .ref aM_tape, .int M_size, .int M_errorAt, .ref aQ, .ref aM_kind, .ref aM_from, .ref aM_means, .ref aM_value, .ref aM_who, .int M_token, .int M_depth, .int M_ordersRead, .int M_isSpring, .int M_itsSeat, .ref aM_now, .ref aM_kept, .ref aM_stack])), (aM_tape, .inl (cI, 2000, .inl M_tape)), (aM_value, .inl (cJ, 401, .inr (.inl (vp_updL M_value x1.toNatClampNeg x4))))] rfl rfl rfl dX10_wordAt_45 h (fun h => ?_)
      refine q_iconst C (v := 0) dX10_wordAt_46 (by decide) ?_
      refine q_istore C [(6, .int 0), (0, .ref aM), (1, .int x1), (3, .int x3), (4, .long x4)] dX10_wordAt_47 (by decide) rfl ?_
      refine q_ls [(4, .long x4), (6, .int 0)] [4, 0] rfl ?_
      obtain ⟨n1, h⟩ := h
      exact bX10_wordAt_49 C  hret  n1 _ _ _ h
    · refine q_ldc2 C (v := 37) cj_X10_233 dX10_wordAt_12 ?_
      refine q_lload C dX10_wordAt_15 3 rfl ?_
      refine q_lmul C dX10_wordAt_17 ?_
      refine q_aload_n C dX10_wordAt_18 0 rfl ?_
      refine q_get C inX10g rfl 1 (by decide) fl_X10_9 rfl 0 rfl rfl dX10_wordAt_19 ?_
      refine q_iload C dX10_wordAt_22 4 rfl ?_
      refine q_iald C 1 1 rfl rfl dX10_wordAt_24 h (fun h => ?_)
      refine q_callSI C (cX10_letter_ok _ h) cf_X10_239 st_X10_letter rfl ⟨Nat.le_of_ble_eq_true rfl, Nat.le_of_ble_eq_true rfl⟩ ⟨Nat.le_of_ble_eq_true rfl, Nat.le_of_ble_eq_true rfl⟩ 0 0 ⟨rfl, rfl⟩ [] [0, 1, 2] (wr := [(aM, .inr (9, [.int M_thrown, .ref aM_tape, .int M_size, .int M_errorAt, .ref aQ, .ref aM_kind, .ref aM_from, .ref aM_means, .ref aM_value, .ref aM_who, .int M_token, .int M_depth, .int M_ordersRead, .int M_isSpring, .int M_itsSeat, .ref aM_now, .ref aM_kept, .ref aM_stack])), (aM_tape, .inl (cI, 2000, .inl M_tape)), (aM_value, .inl (cJ, 401, .inr (.inl M_value)))]) rfl rfl rfl rfl (by decide) (fun u1 : Unit => [(aM, .inr (9, [.int M_thrown, .ref aM_tape, .int M_size, .int M_errorAt, .ref aQ, .ref aM_kind, .ref aM_from, .ref aM_means, .ref aM_value, .ref aM_who, .int M_token, .int M_depth, .int M_ordersRead, .int M_isSpring, .int M_itsSeat, .ref aM_now, .ref aM_kept, .ref aM_stack])), (aM_tape, .inl (cI, 2000, .inl M_tape)), (aM_value, .inl (cJ, 401, .inr (.inl M_value)))]) [0, 1, 2] rfl (fun _ => rfl) (rest := [.long (37 * x4)]) rfl (Nat.le_of_ble_eq_true rfl) dX10_wordAt_25 (fun r1 u1 h => ?_)
      refine q_i2l C dX10_wordAt_28 ?_
      refine q_ladd C dX10_wordAt_29 ?_
      refine q_lstore C [(4, .long ((37 * x4) + r1.toInt64)), (0, .ref aM), (1, .int x1), (3, .int x3), (6, .int x6)] dX10_wordAt_30 (by decide) rfl ?_
      refine q_iinc C (v := x6 + 1) [(6, .int (x6 + 1)), (4, .long ((37 * x4) + r1.toInt64)), (0, .ref aM), (1, .int x1), (3, .int x3)] dX10_wordAt_32 4 rfl rfl (by decide) rfl ?_
      refine q_goto (tgt := 6) C dX10_wordAt_35 (by decide) ?_
      refine q_ls [(0, .ref aM), (1, .int x1), (3, .int x3), (4, .long ((37 * x4) + r1.toInt64)), (6, .int (x6 + 1))] [2, 3, 4, 1, 0] rfl ?_
      exact ih _ _ _ _ _ h
def wX10_wordAt (M_tape : Nat → Int32) (M_value : Nat → Int64) (p0 : Int32) (p1 : Int32) (p2 : Int32) (K : Int32 → (Nat → Int64) → Prop) : Prop :=
  ∃ k9 : Nat, wX10_wordAt_6 K M_tape k9 M_value p0 p2 0 p1
set_option maxRecDepth 100000 in
set_option maxHeartbeats 4000000 in
theorem bX10_wordAt {D : gD} {cB cI cJ cZ : ClassId} {E : gE} {A : Nat → Prop} {Q : State → Prop} {aM aM_tape aM_value aQ aM_kind aM_from aM_means aM_who aM_now aM_kept aM_stack : Nat} {M_thrown M_size M_errorAt M_token M_depth M_ordersRead M_isSpring M_itsSeat : Int32} {M_tape : Nat → Int32} {M_value : Nat → Int64} (C : Cx D (gT cB cI cJ cZ) E rmX10_wordAt cX10_wordAt 7 RX10 A) {p0 : Int32} {p1 : Int32} {p2 : Int32} {K : Int32 → (Nat → Int64) → Prop} (hret : ∀ (r : Int32) (u : (Nat → Int64)) (pc : Nat) (ls : List (Nat × Value)), K r u → decode cX10_wordAt pc = .ok (.ireturn, 1) → Go D E A Q 7 0 0 [(aM, .inr (9, [.int M_thrown, .ref aM_tape, .int M_size, .int M_errorAt, .ref aQ, .ref aM_kind, .ref aM_from, .ref aM_means, .ref aM_value, .ref aM_who, .int M_token, .int M_depth, .int M_ordersRead, .int M_isSpring, .int M_itsSeat, .ref aM_now, .ref aM_kept, .ref aM_stack])), (aM_tape, .inl (cI, 2000, .inl M_tape)), (aM_value, .inl (cJ, 401, .inr (.inl u)))] ls pc [.int r]) (h : wX10_wordAt M_tape M_value p0 p1 p2 K) : Go D E A Q 7 0 0 [(aM, .inr (9, [.int M_thrown, .ref aM_tape, .int M_size, .int M_errorAt, .ref aQ, .ref aM_kind, .ref aM_from, .ref aM_means, .ref aM_value, .ref aM_who, .int M_token, .int M_depth, .int M_ordersRead, .int M_isSpring, .int M_itsSeat, .ref aM_now, .ref aM_kept, .ref aM_stack])), (aM_tape, .inl (cI, 2000, .inl M_tape)), (aM_value, .inl (cJ, 401, .inr (.inl M_value)))] [(0, .ref aM), (1, .int p0), (2, .int p1), (3, .int p2)] 0 [] := by
  unfold wX10_wordAt at h
  refine q_lconst C (v := 0) dX10_wordAt_0 (by decide) ?_
  refine q_lstore C [(4, .long 0), (0, .ref aM), (1, .int p0), (2, .int p1), (3, .int p2)] dX10_wordAt_1 (by decide) rfl ?_
  refine q_iload_n C dX10_wordAt_3 3 rfl ?_
  refine q_istore C [(6, .int p1), (4, .long 0), (0, .ref aM), (1, .int p0), (2, .int p1), (3, .int p2)] dX10_wordAt_4 (by decide) rfl ?_
  refine q_ls [(0, .ref aM), (1, .int p0), (3, .int p2), (4, .long 0), (6, .int p1)] [2, 3, 5, 1, 0] rfl ?_
  obtain ⟨n1, h⟩ := h
  exact bX10_wordAt_6 C  hret  n1 _ _ _ _ _ h
theorem cX10_wordAt_ok (l : Launch) {D : gD} {cB cI cJ cZ : ClassId} {aM aM_tape aM_value aQ aM_kind aM_from aM_means aM_who aM_now aM_kept aM_stack : Nat} {M_thrown M_size M_errorAt M_token M_depth M_ordersRead M_isSpring M_itsSeat : Int32} {M_tape : Nat → Int32} {M_value : Nat → Int64} {p0 : Int32} {p1 : Int32} {p2 : Int32} {K : Int32 → (Nat → Int64) → Prop} (h : wX10_wordAt M_tape M_value p0 p1 p2 K) : CtI l D (gT cB cI cJ cZ) yX10_wordAt cX10_wordAt 7 .int rmX10_wordAt [.ref aM, .int p0, .int p1, .int p2] [(aM, .inr (9, [.int M_thrown, .ref aM_tape, .int M_size, .int M_errorAt, .ref aQ, .ref aM_kind, .ref aM_from, .ref aM_means, .ref aM_value, .ref aM_who, .int M_token, .int M_depth, .int M_ordersRead, .int M_isSpring, .int M_itsSeat, .ref aM_now, .ref aM_kept, .ref aM_stack])), (aM_tape, .inl (cI, 2000, .inl M_tape)), (aM_value, .inl (cJ, 401, .inr (.inl M_value)))] (fun u : (Nat → Int64) => [(aM, .inr (9, [.int M_thrown, .ref aM_tape, .int M_size, .int M_errorAt, .ref aQ, .ref aM_kind, .ref aM_from, .ref aM_means, .ref aM_value, .ref aM_who, .int M_token, .int M_depth, .int M_ordersRead, .int M_isSpring, .int M_itsSeat, .ref aM_now, .ref aM_kept, .ref aM_stack])), (aM_tape, .inl (cI, 2000, .inl M_tape)), (aM_value, .inl (cJ, 401, .inr (.inl u)))]) K :=
  ct_startI (by decide +kernel) (Nat.le_of_ble_eq_true rfl) (fun E A Q hE C hret => bX10_wordAt C (fun r u pc ls hk hd => hret r u pc ls rfl hk hd) h)
abbrev rmX10_kindOf : Room := { frames := 6, cells := 0, slots := 0, locals := 169 }
def wX10_kindOf (M_tape : Nat → Int32) (M_size : Int32) (M_value : Nat → Int64) (p0 : Int32) (p1 : Int32) (p2 : Int32) (K : Int32 → (Nat → Int64) → Prop) : Prop :=
  wX10_byteOf M_tape M_size p1 (fun r1 u1 => ((¬ r1 = (-1) → wX10_isDigit r1 (fun r2 u2 => ((r2 = 0 → wX10_isSmall r1 (fun r3 u3 => ((r3 = 0 → ((¬ p2 - p1 = 2 → ((r1 = 40 → K r1 (M_value)) ∧ (¬ r1 = 40 → ((r1 = 41 → K r1 (M_value)) ∧ (¬ r1 = 41 → ((r1 = 91 → K r1 (M_value)) ∧ (¬ r1 = 91 → ((r1 = 93 → K r1 (M_value)) ∧ (¬ r1 = 93 → ((r1 = 59 → K r1 (M_value)) ∧ (¬ r1 = 59 → ((r1 = 44 → K r1 (M_value)) ∧ (¬ r1 = 44 → ((r1 = 43 → K r1 (M_value)) ∧ (¬ r1 = 43 → ((r1 = 45 → K r1 (M_value)) ∧ (¬ r1 = 45 → ((r1 = 42 → K r1 (M_value)) ∧ (¬ r1 = 42 → ((r1 = 47 → K r1 (M_value)) ∧ (¬ r1 = 47 → ((r1 = 60 → K r1 (M_value)) ∧ (¬ r1 = 60 → ((r1 = 62 → K r1 (M_value)) ∧ (¬ r1 = 62 → ((¬ r1 = 61 → K 32 (M_value)) ∧ (r1 = 61 → K r1 (M_value)))))))))))))))))))))))))))) ∧ (p2 - p1 = 2 → K (256 + r1) (M_value)))) ∧ (¬ r3 = 0 → ((p2 - p1 ≤ 10 → wX10_wordAt M_tape M_value p0 p1 p2 (fun r4 u4 => K r4 (u4))) ∧ (¬ p2 - p1 ≤ 10 → K 32 (M_value))))))) ∧ (¬ r2 = 0 → ((p2 - p1 ≤ 6 → wX10_numberAt M_tape M_value p0 p1 p2 (fun r5 u5 => K r5 (u5))) ∧ (¬ p2 - p1 ≤ 6 → K 32 (M_value))))))) ∧ (r1 = (-1) → K 33 (M_value))))
set_option maxRecDepth 100000 in
set_option maxHeartbeats 4000000 in
theorem bX10_kindOf {D : gD} {cB cI cJ cZ : ClassId} {E : gE} {A : Nat → Prop} {Q : State → Prop} {aM aM_tape aM_value aQ aM_kind aM_from aM_means aM_who aM_now aM_kept aM_stack : Nat} {M_thrown M_size M_errorAt M_token M_depth M_ordersRead M_isSpring M_itsSeat : Int32} {M_tape : Nat → Int32} {M_value : Nat → Int64} (C : Cx D (gT cB cI cJ cZ) E rmX10_kindOf cX10_kindOf 5 RX10 A) {p0 : Int32} {p1 : Int32} {p2 : Int32} {K : Int32 → (Nat → Int64) → Prop} (hret : ∀ (r : Int32) (u : (Nat → Int64)) (pc : Nat) (ls : List (Nat × Value)), K r u → decode cX10_kindOf pc = .ok (.ireturn, 1) → Go D E A Q 5 0 0 [(aM, .inr (9, [.int M_thrown, .ref aM_tape, .int M_size, .int M_errorAt, .ref aQ, .ref aM_kind, .ref aM_from, .ref aM_means, .ref aM_value, .ref aM_who, .int M_token, .int M_depth, .int M_ordersRead, .int M_isSpring, .int M_itsSeat, .ref aM_now, .ref aM_kept, .ref aM_stack])), (aM_tape, .inl (cI, 2000, .inl M_tape)), (aM_value, .inl (cJ, 401, .inr (.inl u)))] ls pc [.int r]) (h : wX10_kindOf M_tape M_size M_value p0 p1 p2 K) : Go D E A Q 5 0 0 [(aM, .inr (9, [.int M_thrown, .ref aM_tape, .int M_size, .int M_errorAt, .ref aQ, .ref aM_kind, .ref aM_from, .ref aM_means, .ref aM_value, .ref aM_who, .int M_token, .int M_depth, .int M_ordersRead, .int M_isSpring, .int M_itsSeat, .ref aM_now, .ref aM_kept, .ref aM_stack])), (aM_tape, .inl (cI, 2000, .inl M_tape)), (aM_value, .inl (cJ, 401, .inr (.inl M_value)))] [(0, .ref aM), (1, .int p0), (2, .int p1), (3, .int p2)] 0 [] := by
  unfold wX10_kindOf at h
  refine q_aload_n C dX10_kindOf_0 0 rfl ?_
  refine q_iload_n C dX10_kindOf_1 2 rfl ?_
  refine q_callVI C (cX10_byteOf_ok _ h) cf_X10_213 im_X10_byteOf se_X10_byteOf 9 rfl rfl rfl rfl ⟨Nat.le_of_ble_eq_true rfl, Nat.le_of_ble_eq_true rfl⟩ ⟨Nat.le_of_ble_eq_true rfl, Nat.le_of_ble_eq_true rfl⟩ 0 0 ⟨rfl, rfl⟩ [0, 1] [2] (wr := [(aM_value, .inl (cJ, 401, .inr (.inl M_value)))]) rfl rfl rfl rfl (by decide) (fun u1 : Unit => [(aM, .inr (9, [.int M_thrown, .ref aM_tape, .int M_size, .int M_errorAt, .ref aQ, .ref aM_kind, .ref aM_from, .ref aM_means, .ref aM_value, .ref aM_who, .int M_token, .int M_depth, .int M_ordersRead, .int M_isSpring, .int M_itsSeat, .ref aM_now, .ref aM_kept, .ref aM_stack])), (aM_tape, .inl (cI, 2000, .inl M_tape)), (aM_value, .inl (cJ, 401, .inr (.inl M_value)))]) [1, 2, 0] rfl (fun _ => rfl) (rest := []) rfl (Nat.le_of_ble_eq_true rfl) dX10_kindOf_2 (fun r1 u1 h => ?_)
  refine q_istore C [(4, .int r1), (0, .ref aM), (1, .int p0), (2, .int p1), (3, .int p2)] dX10_kindOf_5 (by decide) rfl ?_
  refine q_iload C dX10_kindOf_7 0 rfl ?_
  refine q_iconst C (v := (-1)) dX10_kindOf_9 (by decide) ?_
  refine q_icmp_ne C 16 dX10_kindOf_10 (by decide) h (fun h => ?_) (fun h => ?_)
  · refine q_iload C dX10_kindOf_16 0 rfl ?_
    refine q_callSI C (cX10_isDigit_ok _ h) cf_X10_219 st_X10_isDigit rfl ⟨Nat.le_of_ble_eq_true rfl, Nat.le_of_ble_eq_true rfl⟩ ⟨Nat.le_of_ble_eq_true rfl, Nat.le_of_ble_eq_true rfl⟩ 0 0 ⟨rfl, rfl⟩ [] [0, 1, 2] (wr := [(aM, .inr (9, [.int M_thrown, .ref aM_tape, .int M_size, .int M_errorAt, .ref aQ, .ref aM_kind, .ref aM_from, .ref aM_means, .ref aM_value, .ref aM_who, .int M_token, .int M_depth, .int M_ordersRead, .int M_isSpring, .int M_itsSeat, .ref aM_now, .ref aM_kept, .ref aM_stack])), (aM_tape, .inl (cI, 2000, .inl M_tape)), (aM_value, .inl (cJ, 401, .inr (.inl M_value)))]) rfl rfl rfl rfl (by decide) (fun u2 : Unit => [(aM, .inr (9, [.int M_thrown, .ref aM_tape, .int M_size, .int M_errorAt, .ref aQ, .ref aM_kind, .ref aM_from, .ref aM_means, .ref aM_value, .ref aM_who, .int M_token, .int M_depth, .int M_ordersRead, .int M_isSpring, .int M_itsSeat, .ref aM_now, .ref aM_kept, .ref aM_stack])), (aM_tape, .inl (cI, 2000, .inl M_tape)), (aM_value, .inl (cJ, 401, .inr (.inl M_value)))]) [0, 1, 2] rfl (fun _ => rfl) (rest := []) rfl (Nat.le_of_ble_eq_true rfl) dX10_kindOf_18 (fun r2 u2 h => ?_)
    obtain ⟨hb2, h⟩ := h
    refine q_if_eq C 45 dX10_kindOf_21 (by decide) h (fun h => ?_) (fun h => ?_)
    · refine q_iload C dX10_kindOf_45 0 rfl ?_
      refine q_callSI C (cX10_isSmall_ok _ h) cf_X10_216 st_X10_isSmall rfl ⟨Nat.le_of_ble_eq_true rfl, Nat.le_of_ble_eq_true rfl⟩ ⟨Nat.le_of_ble_eq_true rfl, Nat.le_of_ble_eq_true rfl⟩ 0 0 ⟨rfl, rfl⟩ [] [0, 1, 2] (wr := [(aM, .inr (9, [.int M_thrown, .ref aM_tape, .int M_size, .int M_errorAt, .ref aQ, .ref aM_kind, .ref aM_from, .ref aM_means, .ref aM_value, .ref aM_who, .int M_token, .int M_depth, .int M_ordersRead, .int M_isSpring, .int M_itsSeat, .ref aM_now, .ref aM_kept, .ref aM_stack])), (aM_tape, .inl (cI, 2000, .inl M_tape)), (aM_value, .inl (cJ, 401, .inr (.inl M_value)))]) rfl rfl rfl rfl (by decide) (fun u3 : Unit => [(aM, .inr (9, [.int M_thrown, .ref aM_tape, .int M_size, .int M_errorAt, .ref aQ, .ref aM_kind, .ref aM_from, .ref aM_means, .ref aM_value, .ref aM_who, .int M_token, .int M_depth, .int M_ordersRead, .int M_isSpring, .int M_itsSeat, .ref aM_now, .ref aM_kept, .ref aM_stack])), (aM_tape, .inl (cI, 2000, .inl M_tape)), (aM_value, .inl (cJ, 401, .inr (.inl M_value)))]) [0, 1, 2] rfl (fun _ => rfl) (rest := []) rfl (Nat.le_of_ble_eq_true rfl) dX10_kindOf_47 (fun r3 u3 h => ?_)
      obtain ⟨hb3, h⟩ := h
      refine q_if_eq C 74 dX10_kindOf_50 (by decide) h (fun h => ?_) (fun h => ?_)
      · refine q_iload_n C dX10_kindOf_74 4 rfl ?_
        refine q_iload_n C dX10_kindOf_75 3 rfl ?_
        refine q_isub C dX10_kindOf_76 ?_
        refine q_iconst C (v := 2) dX10_kindOf_77 (by decide) ?_
        refine q_icmp_ne C 88 dX10_kindOf_78 (by decide) h (fun h => ?_) (fun h => ?_)
        · refine q_iload C dX10_kindOf_88 0 rfl ?_
          refine q_bipush C (v := 40) dX10_kindOf_90 (by decide) ?_
          refine q_icmp_eq C 179 dX10_kindOf_92 (by decide) h (fun h => ?_) (fun h => ?_)
          · refine q_iload C dX10_kindOf_179 0 rfl ?_
            refine q_goto (tgt := 186) C dX10_kindOf_181 (by decide) ?_
            exact hret r1 (M_value) _ _ h dX10_kindOf_186
          · refine q_iload C dX10_kindOf_95 0 rfl ?_
            refine q_bipush C (v := 41) dX10_kindOf_97 (by decide) ?_
            refine q_icmp_eq C 179 dX10_kindOf_99 (by decide) h (fun h => ?_) (fun h => ?_)
            · refine q_iload C dX10_kindOf_179 0 rfl ?_
              refine q_goto (tgt := 186) C dX10_kindOf_181 (by decide) ?_
              exact hret r1 (M_value) _ _ h dX10_kindOf_186
            · refine q_iload C dX10_kindOf_102 0 rfl ?_
              refine q_bipush C (v := 91) dX10_kindOf_104 (by decide) ?_
              refine q_icmp_eq C 179 dX10_kindOf_106 (by decide) h (fun h => ?_) (fun h => ?_)
              · refine q_iload C dX10_kindOf_179 0 rfl ?_
                refine q_goto (tgt := 186) C dX10_kindOf_181 (by decide) ?_
                exact hret r1 (M_value) _ _ h dX10_kindOf_186
              · refine q_iload C dX10_kindOf_109 0 rfl ?_
                refine q_bipush C (v := 93) dX10_kindOf_111 (by decide) ?_
                refine q_icmp_eq C 179 dX10_kindOf_113 (by decide) h (fun h => ?_) (fun h => ?_)
                · refine q_iload C dX10_kindOf_179 0 rfl ?_
                  refine q_goto (tgt := 186) C dX10_kindOf_181 (by decide) ?_
                  exact hret r1 (M_value) _ _ h dX10_kindOf_186
                · refine q_iload C dX10_kindOf_116 0 rfl ?_
                  refine q_bipush C (v := 59) dX10_kindOf_118 (by decide) ?_
                  refine q_icmp_eq C 179 dX10_kindOf_120 (by decide) h (fun h => ?_) (fun h => ?_)
                  · refine q_iload C dX10_kindOf_179 0 rfl ?_
                    refine q_goto (tgt := 186) C dX10_kindOf_181 (by decide) ?_
                    exact hret r1 (M_value) _ _ h dX10_kindOf_186
                  · refine q_iload C dX10_kindOf_123 0 rfl ?_
                    refine q_bipush C (v := 44) dX10_kindOf_125 (by decide) ?_
                    refine q_icmp_eq C 179 dX10_kindOf_127 (by decide) h (fun h => ?_) (fun h => ?_)
                    · refine q_iload C dX10_kindOf_179 0 rfl ?_
                      refine q_goto (tgt := 186) C dX10_kindOf_181 (by decide) ?_
                      exact hret r1 (M_value) _ _ h dX10_kindOf_186
                    · refine q_iload C dX10_kindOf_130 0 rfl ?_
                      refine q_bipush C (v := 43) dX10_kindOf_132 (by decide) ?_
                      refine q_icmp_eq C 179 dX10_kindOf_134 (by decide) h (fun h => ?_) (fun h => ?_)
                      · refine q_iload C dX10_kindOf_179 0 rfl ?_
                        refine q_goto (tgt := 186) C dX10_kindOf_181 (by decide) ?_
                        exact hret r1 (M_value) _ _ h dX10_kindOf_186
                      · refine q_iload C dX10_kindOf_137 0 rfl ?_
                        refine q_bipush C (v := 45) dX10_kindOf_139 (by decide) ?_
                        refine q_icmp_eq C 179 dX10_kindOf_141 (by decide) h (fun h => ?_) (fun h => ?_)
                        · refine q_iload C dX10_kindOf_179 0 rfl ?_
                          refine q_goto (tgt := 186) C dX10_kindOf_181 (by decide) ?_
                          exact hret r1 (M_value) _ _ h dX10_kindOf_186
                        · refine q_iload C dX10_kindOf_144 0 rfl ?_
                          refine q_bipush C (v := 42) dX10_kindOf_146 (by decide) ?_
                          refine q_icmp_eq C 179 dX10_kindOf_148 (by decide) h (fun h => ?_) (fun h => ?_)
                          · refine q_iload C dX10_kindOf_179 0 rfl ?_
                            refine q_goto (tgt := 186) C dX10_kindOf_181 (by decide) ?_
                            exact hret r1 (M_value) _ _ h dX10_kindOf_186
                          · refine q_iload C dX10_kindOf_151 0 rfl ?_
                            refine q_bipush C (v := 47) dX10_kindOf_153 (by decide) ?_
                            refine q_icmp_eq C 179 dX10_kindOf_155 (by decide) h (fun h => ?_) (fun h => ?_)
                            · refine q_iload C dX10_kindOf_179 0 rfl ?_
                              refine q_goto (tgt := 186) C dX10_kindOf_181 (by decide) ?_
                              exact hret r1 (M_value) _ _ h dX10_kindOf_186
                            · refine q_iload C dX10_kindOf_158 0 rfl ?_
                              refine q_bipush C (v := 60) dX10_kindOf_160 (by decide) ?_
                              refine q_icmp_eq C 179 dX10_kindOf_162 (by decide) h (fun h => ?_) (fun h => ?_)
                              · refine q_iload C dX10_kindOf_179 0 rfl ?_
                                refine q_goto (tgt := 186) C dX10_kindOf_181 (by decide) ?_
                                exact hret r1 (M_value) _ _ h dX10_kindOf_186
                              · refine q_iload C dX10_kindOf_165 0 rfl ?_
                                refine q_bipush C (v := 62) dX10_kindOf_167 (by decide) ?_
                                refine q_icmp_eq C 179 dX10_kindOf_169 (by decide) h (fun h => ?_) (fun h => ?_)
                                · refine q_iload C dX10_kindOf_179 0 rfl ?_
                                  refine q_goto (tgt := 186) C dX10_kindOf_181 (by decide) ?_
                                  exact hret r1 (M_value) _ _ h dX10_kindOf_186
                                · refine q_iload C dX10_kindOf_172 0 rfl ?_
                                  refine q_bipush C (v := 61) dX10_kindOf_174 (by decide) ?_
                                  refine q_icmp_ne C 184 dX10_kindOf_176 (by decide) h (fun h => ?_) (fun h => ?_)
                                  · refine q_bipush C (v := 32) dX10_kindOf_184 (by decide) ?_
                                    exact hret 32 (M_value) _ _ h dX10_kindOf_186
                                  · refine q_iload C dX10_kindOf_179 0 rfl ?_
                                    refine q_goto (tgt := 186) C dX10_kindOf_181 (by decide) ?_
                                    exact hret r1 (M_value) _ _ h dX10_kindOf_186
        · refine q_sipush C (v := 256) dX10_kindOf_81 (by decide) ?_
          refine q_iload C dX10_kindOf_84 0 rfl ?_
          refine q_iadd C dX10_kindOf_86 ?_
          exact hret (256 + r1) (M_value) _ _ h dX10_kindOf_87
      · refine q_iload_n C dX10_kindOf_53 4 rfl ?_
        refine q_iload_n C dX10_kindOf_54 3 rfl ?_
        refine q_isub C dX10_kindOf_55 ?_
        refine q_bipush C (v := 10) dX10_kindOf_56 (by decide) ?_
        refine q_icmp_le C 66 dX10_kindOf_58 (by decide) h (fun h => ?_) (fun h => ?_)
        · refine q_aload_n C dX10_kindOf_66 1 rfl ?_
          refine q_iload_n C dX10_kindOf_67 2 rfl ?_
          refine q_iload_n C dX10_kindOf_68 3 rfl ?_
          refine q_iload_n C dX10_kindOf_69 4 rfl ?_
          refine q_callVI C (cX10_wordAt_ok _ h) cf_X10_225 im_X10_wordAt se_X10_wordAt 9 rfl rfl rfl rfl ⟨Nat.le_of_ble_eq_true rfl, Nat.le_of_ble_eq_true rfl⟩ ⟨Nat.le_of_ble_eq_true rfl, Nat.le_of_ble_eq_true rfl⟩ 0 0 ⟨rfl, rfl⟩ [0, 1, 2] [] (wr := []) rfl rfl rfl rfl (by decide) (fun u4 : (Nat → Int64) => [(aM, .inr (9, [.int M_thrown, .ref aM_tape, .int M_size, .int M_errorAt, .ref aQ, .ref aM_kind, .ref aM_from, .ref aM_means, .ref aM_value, .ref aM_who, .int M_token, .int M_depth, .int M_ordersRead, .int M_isSpring, .int M_itsSeat, .ref aM_now, .ref aM_kept, .ref aM_stack])), (aM_tape, .inl (cI, 2000, .inl M_tape)), (aM_value, .inl (cJ, 401, .inr (.inl u4)))]) [0, 1, 2] rfl (fun _ => rfl) (rest := []) rfl (Nat.le_of_ble_eq_true rfl) dX10_kindOf_70 (fun r4 u4 h => ?_)
          exact hret r4 (u4) _ _ h dX10_kindOf_73
        · refine q_bipush C (v := 32) dX10_kindOf_61 (by decide) ?_
          refine q_goto (tgt := 73) C dX10_kindOf_63 (by decide) ?_
          exact hret 32 (M_value) _ _ h dX10_kindOf_73
    · refine q_iload_n C dX10_kindOf_24 4 rfl ?_
      refine q_iload_n C dX10_kindOf_25 3 rfl ?_
      refine q_isub C dX10_kindOf_26 ?_
      refine q_bipush C (v := 6) dX10_kindOf_27 (by decide) ?_
      refine q_icmp_le C 37 dX10_kindOf_29 (by decide) h (fun h => ?_) (fun h => ?_)
      · refine q_aload_n C dX10_kindOf_37 1 rfl ?_
        refine q_iload_n C dX10_kindOf_38 2 rfl ?_
        refine q_iload_n C dX10_kindOf_39 3 rfl ?_
        refine q_iload_n C dX10_kindOf_40 4 rfl ?_
        refine q_callVI C (cX10_numberAt_ok _ h) cf_X10_222 im_X10_numberAt se_X10_numberAt 9 rfl rfl rfl rfl ⟨Nat.le_of_ble_eq_true rfl, Nat.le_of_ble_eq_true rfl⟩ ⟨Nat.le_of_ble_eq_true rfl, Nat.le_of_ble_eq_true rfl⟩ 0 0 ⟨rfl, rfl⟩ [0, 1, 2] [] (wr := []) rfl rfl rfl rfl (by decide) (fun u5 : (Nat → Int64) => [(aM, .inr (9, [.int M_thrown, .ref aM_tape, .int M_size, .int M_errorAt, .ref aQ, .ref aM_kind, .ref aM_from, .ref aM_means, .ref aM_value, .ref aM_who, .int M_token, .int M_depth, .int M_ordersRead, .int M_isSpring, .int M_itsSeat, .ref aM_now, .ref aM_kept, .ref aM_stack])), (aM_tape, .inl (cI, 2000, .inl M_tape)), (aM_value, .inl (cJ, 401, .inr (.inl u5)))]) [0, 1, 2] rfl (fun _ => rfl) (rest := []) rfl (Nat.le_of_ble_eq_true rfl) dX10_kindOf_41 (fun r5 u5 h => ?_)
        exact hret r5 (u5) _ _ h dX10_kindOf_44
      · refine q_bipush C (v := 32) dX10_kindOf_32 (by decide) ?_
        refine q_goto (tgt := 44) C dX10_kindOf_34 (by decide) ?_
        exact hret 32 (M_value) _ _ h dX10_kindOf_44
  · refine q_bipush C (v := 33) dX10_kindOf_13 (by decide) ?_
    exact hret 33 (M_value) _ _ h dX10_kindOf_15
theorem cX10_kindOf_ok (l : Launch) {D : gD} {cB cI cJ cZ : ClassId} {aM aM_tape aM_value aQ aM_kind aM_from aM_means aM_who aM_now aM_kept aM_stack : Nat} {M_thrown M_size M_errorAt M_token M_depth M_ordersRead M_isSpring M_itsSeat : Int32} {M_tape : Nat → Int32} {M_value : Nat → Int64} {p0 : Int32} {p1 : Int32} {p2 : Int32} {K : Int32 → (Nat → Int64) → Prop} (h : wX10_kindOf M_tape M_size M_value p0 p1 p2 K) : CtI l D (gT cB cI cJ cZ) yX10_kindOf cX10_kindOf 5 .int rmX10_kindOf [.ref aM, .int p0, .int p1, .int p2] [(aM, .inr (9, [.int M_thrown, .ref aM_tape, .int M_size, .int M_errorAt, .ref aQ, .ref aM_kind, .ref aM_from, .ref aM_means, .ref aM_value, .ref aM_who, .int M_token, .int M_depth, .int M_ordersRead, .int M_isSpring, .int M_itsSeat, .ref aM_now, .ref aM_kept, .ref aM_stack])), (aM_tape, .inl (cI, 2000, .inl M_tape)), (aM_value, .inl (cJ, 401, .inr (.inl M_value)))] (fun u : (Nat → Int64) => [(aM, .inr (9, [.int M_thrown, .ref aM_tape, .int M_size, .int M_errorAt, .ref aQ, .ref aM_kind, .ref aM_from, .ref aM_means, .ref aM_value, .ref aM_who, .int M_token, .int M_depth, .int M_ordersRead, .int M_isSpring, .int M_itsSeat, .ref aM_now, .ref aM_kept, .ref aM_stack])), (aM_tape, .inl (cI, 2000, .inl M_tape)), (aM_value, .inl (cJ, 401, .inr (.inl u)))]) K :=
  ct_startI (by decide +kernel) (Nat.le_of_ble_eq_true rfl) (fun E A Q hE C hret => bX10_kindOf C (fun r u pc ls hk hd => hret r u pc ls rfl hk hd) h)
abbrev rmX10_cutIntoTokens : Room := { frames := 7, cells := 0, slots := 0, locals := 193 }
def wX10_cutIntoTokens_31 (K : ((Nat → Int32) × (Nat → Int32) × (Nat → Int32) × (Nat → Int64)) → Prop) (KL4 : (Nat → Int32) → (Nat → Int32) → (Nat → Int32) → (Nat → Int64) → Int32 → Int32 → Prop) (KL11 : (Nat → Int32) → (Nat → Int32) → (Nat → Int32) → (Nat → Int64) → Int32 → Int32 → Prop) (M_tape : Nat → Int32) (M_size : Int32) (M_kind : Nat → Int32) (M_from : Nat → Int32) (M_means : Nat → Int32) (M_value : Nat → Int64) (x1 : Int32) (x2 : Int32) : Prop :=
  KL11 M_kind M_from M_means M_value (x1 + 1) x2
set_option maxRecDepth 100000 in
set_option maxHeartbeats 4000000 in
theorem bX10_cutIntoTokens_31 {D : gD} {cB cI cJ cZ : ClassId} {E : gE} {A : Nat → Prop} {Q : State → Prop} {aM aM_tape aM_kind aM_from aM_means aM_value aQ aM_who aM_now aM_kept aM_stack : Nat} {M_thrown M_size M_errorAt M_token M_depth M_ordersRead M_isSpring M_itsSeat : Int32} {M_tape : Nat → Int32} (C : Cx D (gT cB cI cJ cZ) E rmX10_cutIntoTokens cX10_cutIntoTokens 4 RX10 A) {K : ((Nat → Int32) × (Nat → Int32) × (Nat → Int32) × (Nat → Int64)) → Prop} (hret : ∀ (u : (Nat → Int32) × (Nat → Int32) × (Nat → Int32) × (Nat → Int64)) (pc : Nat) (ls : List (Nat × Value)), K u → decode cX10_cutIntoTokens pc = .ok (.return_, 1) → Go D E A Q 4 0 0 [(aM, .inr (9, [.int M_thrown, .ref aM_tape, .int M_size, .int M_errorAt, .ref aQ, .ref aM_kind, .ref aM_from, .ref aM_means, .ref aM_value, .ref aM_who, .int M_token, .int M_depth, .int M_ordersRead, .int M_isSpring, .int M_itsSeat, .ref aM_now, .ref aM_kept, .ref aM_stack])), (aM_tape, .inl (cI, 2000, .inl M_tape)), (aM_kind, .inl (cI, 401, .inl u.1)), (aM_from, .inl (cI, 401, .inl u.2.1)), (aM_means, .inl (cI, 401, .inl u.2.2.1)), (aM_value, .inl (cJ, 401, .inr (.inl u.2.2.2)))] ls pc []) {KL4 : (Nat → Int32) → (Nat → Int32) → (Nat → Int32) → (Nat → Int64) → Int32 → Int32 → Prop} (hKL4 : ∀ (M_kind : Nat → Int32) (M_from : Nat → Int32) (M_means : Nat → Int32) (M_value : Nat → Int64) (x1 : Int32) (x2 : Int32), KL4 M_kind M_from M_means M_value x1 x2 → Go D E A Q 4 0 0 [(aM, .inr (9, [.int M_thrown, .ref aM_tape, .int M_size, .int M_errorAt, .ref aQ, .ref aM_kind, .ref aM_from, .ref aM_means, .ref aM_value, .ref aM_who, .int M_token, .int M_depth, .int M_ordersRead, .int M_isSpring, .int M_itsSeat, .ref aM_now, .ref aM_kept, .ref aM_stack])), (aM_tape, .inl (cI, 2000, .inl M_tape)), (aM_kind, .inl (cI, 401, .inl M_kind)), (aM_from, .inl (cI, 401, .inl M_from)), (aM_means, .inl (cI, 401, .inl M_means)), (aM_value, .inl (cJ, 401, .inr (.inl M_value)))] [(0, .ref aM), (1, .int x1), (2, .int x2)] 4 []) {KL11 : (Nat → Int32) → (Nat → Int32) → (Nat → Int32) → (Nat → Int64) → Int32 → Int32 → Prop} (hKL11 : ∀ (M_kind : Nat → Int32) (M_from : Nat → Int32) (M_means : Nat → Int32) (M_value : Nat → Int64) (x1 : Int32) (x2 : Int32), KL11 M_kind M_from M_means M_value x1 x2 → Go D E A Q 4 0 0 [(aM, .inr (9, [.int M_thrown, .ref aM_tape, .int M_size, .int M_errorAt, .ref aQ, .ref aM_kind, .ref aM_from, .ref aM_means, .ref aM_value, .ref aM_who, .int M_token, .int M_depth, .int M_ordersRead, .int M_isSpring, .int M_itsSeat, .ref aM_now, .ref aM_kept, .ref aM_stack])), (aM_tape, .inl (cI, 2000, .inl M_tape)), (aM_kind, .inl (cI, 401, .inl M_kind)), (aM_from, .inl (cI, 401, .inl M_from)), (aM_means, .inl (cI, 401, .inl M_means)), (aM_value, .inl (cJ, 401, .inr (.inl M_value)))] [(0, .ref aM), (1, .int x1), (2, .int x2)] 11 []) : ∀ (M_kind : Nat → Int32) (M_from : Nat → Int32) (M_means : Nat → Int32) (M_value : Nat → Int64) (x1 : Int32) (x2 : Int32), wX10_cutIntoTokens_31 K KL4 KL11 M_tape M_size M_kind M_from M_means M_value x1 x2 → Go D E A Q 4 0 0 [(aM, .inr (9, [.int M_thrown, .ref aM_tape, .int M_size, .int M_errorAt, .ref aQ, .ref aM_kind, .ref aM_from, .ref aM_means, .ref aM_value, .ref aM_who, .int M_token, .int M_depth, .int M_ordersRead, .int M_isSpring, .int M_itsSeat, .ref aM_now, .ref aM_kept, .ref aM_stack])), (aM_tape, .inl (cI, 2000, .inl M_tape)), (aM_kind, .inl (cI, 401, .inl M_kind)), (aM_from, .inl (cI, 401, .inl M_from)), (aM_means, .inl (cI, 401, .inl M_means)), (aM_value, .inl (cJ, 401, .inr (.inl M_value)))] [(0, .ref aM), (1, .int x1), (2, .int x2)] 31 [] := by
  intro M_kind M_from M_means M_value x1 x2 h
  unfold wX10_cutIntoTokens_31 at h
  refine q_iinc C (v := x1 + 1) [(1, .int (x1 + 1)), (0, .ref aM), (2, .int x2)] dX10_cutIntoTokens_31 1 rfl rfl (by decide) rfl ?_
  refine q_goto (tgt := 11) C dX10_cutIntoTokens_34 (by decide) ?_
  refine q_ls [(0, .ref aM), (1, .int (x1 + 1)), (2, .int x2)] [1, 0, 2] rfl ?_
  exact hKL11 _ _ _ _ _ _ h
def wX10_cutIntoTokens_96 (K : ((Nat → Int32) × (Nat → Int32) × (Nat → Int32) × (Nat → Int64)) → Prop) (KL4 : (Nat → Int32) → (Nat → Int32) → (Nat → Int32) → (Nat → Int64) → Int32 → Int32 → Prop) (M_tape : Nat → Int32) (M_size : Int32) (M_kind : Nat → Int32) (M_from : Nat → Int32) (M_means : Nat → Int32) (M_value : Nat → Int64) (x2 : Int32) (x3 : Int32) : Prop :=
  vp_in x2 401 ∧ (((M_kind x2.toNatClampNeg = 32 → K (M_kind, M_from, M_means, M_value)) ∧ (¬ M_kind x2.toNatClampNeg = 32 → vp_in x2 401 ∧ (((¬ M_kind x2.toNatClampNeg = 33 → KL4 M_kind M_from M_means M_value x3 (x2 + 1)) ∧ (M_kind x2.toNatClampNeg = 33 → K (M_kind, M_from, M_means, M_value)))))))
set_option maxRecDepth 100000 in
set_option maxHeartbeats 4000000 in
theorem bX10_cutIntoTokens_96 {D : gD} {cB cI cJ cZ : ClassId} {E : gE} {A : Nat → Prop} {Q : State → Prop} {aM aM_tape aM_kind aM_from aM_means aM_value aQ aM_who aM_now aM_kept aM_stack : Nat} {M_thrown M_size M_errorAt M_token M_depth M_ordersRead M_isSpring M_itsSeat : Int32} {M_tape : Nat → Int32} (C : Cx D (gT cB cI cJ cZ) E rmX10_cutIntoTokens cX10_cutIntoTokens 4 RX10 A) {K : ((Nat → Int32) × (Nat → Int32) × (Nat → Int32) × (Nat → Int64)) → Prop} (hret : ∀ (u : (Nat → Int32) × (Nat → Int32) × (Nat → Int32) × (Nat → Int64)) (pc : Nat) (ls : List (Nat × Value)), K u → decode cX10_cutIntoTokens pc = .ok (.return_, 1) → Go D E A Q 4 0 0 [(aM, .inr (9, [.int M_thrown, .ref aM_tape, .int M_size, .int M_errorAt, .ref aQ, .ref aM_kind, .ref aM_from, .ref aM_means, .ref aM_value, .ref aM_who, .int M_token, .int M_depth, .int M_ordersRead, .int M_isSpring, .int M_itsSeat, .ref aM_now, .ref aM_kept, .ref aM_stack])), (aM_tape, .inl (cI, 2000, .inl M_tape)), (aM_kind, .inl (cI, 401, .inl u.1)), (aM_from, .inl (cI, 401, .inl u.2.1)), (aM_means, .inl (cI, 401, .inl u.2.2.1)), (aM_value, .inl (cJ, 401, .inr (.inl u.2.2.2)))] ls pc []) {KL4 : (Nat → Int32) → (Nat → Int32) → (Nat → Int32) → (Nat → Int64) → Int32 → Int32 → Prop} (hKL4 : ∀ (M_kind : Nat → Int32) (M_from : Nat → Int32) (M_means : Nat → Int32) (M_value : Nat → Int64) (x1 : Int32) (x2 : Int32), KL4 M_kind M_from M_means M_value x1 x2 → Go D E A Q 4 0 0 [(aM, .inr (9, [.int M_thrown, .ref aM_tape, .int M_size, .int M_errorAt, .ref aQ, .ref aM_kind, .ref aM_from, .ref aM_means, .ref aM_value, .ref aM_who, .int M_token, .int M_depth, .int M_ordersRead, .int M_isSpring, .int M_itsSeat, .ref aM_now, .ref aM_kept, .ref aM_stack])), (aM_tape, .inl (cI, 2000, .inl M_tape)), (aM_kind, .inl (cI, 401, .inl M_kind)), (aM_from, .inl (cI, 401, .inl M_from)), (aM_means, .inl (cI, 401, .inl M_means)), (aM_value, .inl (cJ, 401, .inr (.inl M_value)))] [(0, .ref aM), (1, .int x1), (2, .int x2)] 4 []) : ∀ (M_kind : Nat → Int32) (M_from : Nat → Int32) (M_means : Nat → Int32) (M_value : Nat → Int64) (x2 : Int32) (x3 : Int32), wX10_cutIntoTokens_96 K KL4 M_tape M_size M_kind M_from M_means M_value x2 x3 → Go D E A Q 4 0 0 [(aM, .inr (9, [.int M_thrown, .ref aM_tape, .int M_size, .int M_errorAt, .ref aQ, .ref aM_kind, .ref aM_from, .ref aM_means, .ref aM_value, .ref aM_who, .int M_token, .int M_depth, .int M_ordersRead, .int M_isSpring, .int M_itsSeat, .ref aM_now, .ref aM_kept, .ref aM_stack])), (aM_tape, .inl (cI, 2000, .inl M_tape)), (aM_kind, .inl (cI, 401, .inl M_kind)), (aM_from, .inl (cI, 401, .inl M_from)), (aM_means, .inl (cI, 401, .inl M_means)), (aM_value, .inl (cJ, 401, .inr (.inl M_value)))] [(0, .ref aM), (2, .int x2), (3, .int x3)] 96 [] := by
  intro M_kind M_from M_means M_value x2 x3 h
  unfold wX10_cutIntoTokens_96 at h
  refine q_aload_n C dX10_cutIntoTokens_96 0 rfl ?_
  refine q_get C inX10g rfl 5 (by decide) fl_X10_24 rfl 0 rfl rfl dX10_cutIntoTokens_97 ?_
  refine q_iload_n C dX10_cutIntoTokens_100 1 rfl ?_
  refine q_iald C 2 1 rfl rfl dX10_cutIntoTokens_101 h (fun h => ?_)
  refine q_bipush C (v := 32) dX10_cutIntoTokens_102 (by decide) ?_
  refine q_icmp_eq C 118 dX10_cutIntoTokens_104 (by decide) h (fun h => ?_) (fun h => ?_)
  · exact hret (M_kind, M_from, M_means, M_value) _ _ h dX10_cutIntoTokens_118
  · refine q_aload_n C dX10_cutIntoTokens_107 0 rfl ?_
    refine q_get C inX10g rfl 5 (by decide) fl_X10_24 rfl 0 rfl rfl dX10_cutIntoTokens_108 ?_
    refine q_iload_n C dX10_cutIntoTokens_111 1 rfl ?_
    refine q_iald C 2 1 rfl rfl dX10_cutIntoTokens_112 h (fun h => ?_)
    refine q_bipush C (v := 33) dX10_cutIntoTokens_113 (by decide) ?_
    refine q_icmp_ne C 119 dX10_cutIntoTokens_115 (by decide) h (fun h => ?_) (fun h => ?_)
    · refine q_iload_n C dX10_cutIntoTokens_119 2 rfl ?_
      refine q_istore_n C [(1, .int x3), (0, .ref aM), (2, .int x2), (3, .int x3)] dX10_cutIntoTokens_120 (by decide) rfl ?_
      refine q_iinc C (v := x2 + 1) [(2, .int (x2 + 1)), (1, .int x3), (0, .ref aM), (3, .int x3)] dX10_cutIntoTokens_121 2 rfl rfl (by decide) rfl ?_
      refine q_goto (tgt := 4) C dX10_cutIntoTokens_124 (by decide) ?_
      refine q_ls [(0, .ref aM), (1, .int x3), (2, .int (x2 + 1))] [2, 1, 0] rfl ?_
      exact hKL4 _ _ _ _ _ _ h
    · exact hret (M_kind, M_from, M_means, M_value) _ _ h dX10_cutIntoTokens_118
def wX10_cutIntoTokens_11 (K : ((Nat → Int32) × (Nat → Int32) × (Nat → Int32) × (Nat → Int64)) → Prop) (KL4 : (Nat → Int32) → (Nat → Int32) → (Nat → Int32) → (Nat → Int64) → Int32 → Int32 → Prop) (M_tape : Nat → Int32) (M_size : Int32) : Nat → (Nat → Int32) → (Nat → Int32) → (Nat → Int32) → (Nat → Int64) → Int32 → Int32 → Prop
  | 0, _, _, _, _, _, _ => False
  | n + 1, M_kind, M_from, M_means, M_value, x1, x2 =>
  wX10_byteOf M_tape M_size x1 (fun r1 u1 => ((r1 = 32 → wX10_cutIntoTokens_31 K KL4 (wX10_cutIntoTokens_11 K KL4 M_tape M_size n) M_tape M_size M_kind M_from M_means M_value x1 x2) ∧ (¬ r1 = 32 → wX10_byteOf M_tape M_size x1 (fun r2 u2 => ((¬ r2 = 10 → wX10_endOf M_tape M_size x1 (fun r3 u3 => vp_in x2 401 ∧ (vp_in x2 401 ∧ (wX10_kindOf M_tape M_size M_value x2 x1 r3 (fun r4 u4 => vp_in x2 401 ∧ (((¬ x2 = 400 → wX10_cutIntoTokens_96 K KL4 M_tape M_size (upd M_kind x2.toNatClampNeg r4) (upd M_from x2.toNatClampNeg x1) (upd M_means x2.toNatClampNeg 0) u4 x2 r3) ∧ (x2 = 400 → vp_in x2 401 ∧ ((((upd M_kind x2.toNatClampNeg r4) x2.toNatClampNeg = 33 → wX10_cutIntoTokens_96 K KL4 M_tape M_size (upd M_kind x2.toNatClampNeg r4) (upd M_from x2.toNatClampNeg x1) (upd M_means x2.toNatClampNeg 0) u4 x2 r3) ∧ (¬ (upd M_kind x2.toNatClampNeg r4) x2.toNatClampNeg = 33 → vp_in x2 401 ∧ (wX10_cutIntoTokens_96 K KL4 M_tape M_size (upd (upd M_kind x2.toNatClampNeg r4) x2.toNatClampNeg 32) (upd M_from x2.toNatClampNeg x1) (upd M_means x2.toNatClampNeg 0) u4 x2 r3)))))))))))) ∧ (r2 = 10 → wX10_cutIntoTokens_31 K KL4 (wX10_cutIntoTokens_11 K KL4 M_tape M_size n) M_tape M_size M_kind M_from M_means M_value x1 x2))))))
set_option maxRecDepth 100000 in
set_option maxHeartbeats 4000000 in
theorem bX10_cutIntoTokens_11 {D : gD} {cB cI cJ cZ : ClassId} {E : gE} {A : Nat → Prop} {Q : State → Prop} {aM aM_tape aM_kind aM_from aM_means aM_value aQ aM_who aM_now aM_kept aM_stack : Nat} {M_thrown M_size M_errorAt M_token M_depth M_ordersRead M_isSpring M_itsSeat : Int32} {M_tape : Nat → Int32} (C : Cx D (gT cB cI cJ cZ) E rmX10_cutIntoTokens cX10_cutIntoTokens 4 RX10 A) {K : ((Nat → Int32) × (Nat → Int32) × (Nat → Int32) × (Nat → Int64)) → Prop} (hret : ∀ (u : (Nat → Int32) × (Nat → Int32) × (Nat → Int32) × (Nat → Int64)) (pc : Nat) (ls : List (Nat × Value)), K u → decode cX10_cutIntoTokens pc = .ok (.return_, 1) → Go D E A Q 4 0 0 [(aM, .inr (9, [.int M_thrown, .ref aM_tape, .int M_size, .int M_errorAt, .ref aQ, .ref aM_kind, .ref aM_from, .ref aM_means, .ref aM_value, .ref aM_who, .int M_token, .int M_depth, .int M_ordersRead, .int M_isSpring, .int M_itsSeat, .ref aM_now, .ref aM_kept, .ref aM_stack])), (aM_tape, .inl (cI, 2000, .inl M_tape)), (aM_kind, .inl (cI, 401, .inl u.1)), (aM_from, .inl (cI, 401, .inl u.2.1)), (aM_means, .inl (cI, 401, .inl u.2.2.1)), (aM_value, .inl (cJ, 401, .inr (.inl u.2.2.2)))] ls pc []) {KL4 : (Nat → Int32) → (Nat → Int32) → (Nat → Int32) → (Nat → Int64) → Int32 → Int32 → Prop} (hKL4 : ∀ (M_kind : Nat → Int32) (M_from : Nat → Int32) (M_means : Nat → Int32) (M_value : Nat → Int64) (x1 : Int32) (x2 : Int32), KL4 M_kind M_from M_means M_value x1 x2 → Go D E A Q 4 0 0 [(aM, .inr (9, [.int M_thrown, .ref aM_tape, .int M_size, .int M_errorAt, .ref aQ, .ref aM_kind, .ref aM_from, .ref aM_means, .ref aM_value, .ref aM_who, .int M_token, .int M_depth, .int M_ordersRead, .int M_isSpring, .int M_itsSeat, .ref aM_now, .ref aM_kept, .ref aM_stack])), (aM_tape, .inl (cI, 2000, .inl M_tape)), (aM_kind, .inl (cI, 401, .inl M_kind)), (aM_from, .inl (cI, 401, .inl M_from)), (aM_means, .inl (cI, 401, .inl M_means)), (aM_value, .inl (cJ, 401, .inr (.inl M_value)))] [(0, .ref aM), (1, .int x1), (2, .int x2)] 4 []) : ∀ (n : Nat) (M_kind : Nat → Int32) (M_from : Nat → Int32) (M_means : Nat → Int32) (M_value : Nat → Int64) (x1 : Int32) (x2 : Int32), wX10_cutIntoTokens_11 K KL4 M_tape M_size n M_kind M_from M_means M_value x1 x2 → Go D E A Q 4 0 0 [(aM, .inr (9, [.int M_thrown, .ref aM_tape, .int M_size, .int M_errorAt, .ref aQ, .ref aM_kind, .ref aM_from, .ref aM_means, .ref aM_value, .ref aM_who, .int M_token, .int M_depth, .int M_ordersRead, .int M_isSpring, .int M_itsSeat, .ref aM_now, .ref aM_kept, .ref aM_stack])), (aM_tape, .inl (cI, 2000, .inl M_tape)), (aM_kind, .inl (cI, 401, .inl M_kind)), (aM_from, .inl (cI, 401, .inl M_from)), (aM_means, .inl (cI, 401, .inl M_means)), (aM_value, .inl (cJ, 401, .inr (.inl M_value)))] [(0, .ref aM), (1, .int x1), (2, .int x2)] 11 [] := by
  intro n
  induction n with
  | zero =>
    intro M_kind M_from M_means M_value x1 x2 h
    exact h.elim
  | succ n ih =>
    intro M_kind M_from M_means M_value x1 x2 h
    unfold wX10_cutIntoTokens_11 at h
    refine q_aload_n C dX10_cutIntoTokens_11 0 rfl ?_
    refine q_iload_n C dX10_cutIntoTokens_12 1 rfl ?_
    refine q_callVI C (cX10_byteOf_ok _ h) cf_X10_213 im_X10_byteOf se_X10_byteOf 9 rfl rfl rfl rfl ⟨Nat.le_of_ble_eq_true rfl, Nat.le_of_ble_eq_true rfl⟩ ⟨Nat.le_of_ble_eq_true rfl, Nat.le_of_ble_eq_true rfl⟩ 0 0 ⟨rfl, rfl⟩ [0, 1] [2, 3, 4, 5] (wr := [(aM_kind, .inl (cI, 401, .inl M_kind)), (aM_from, .inl (cI, 401, .inl M_from)), (aM_means, .inl (cI, 401, .inl M_means)), (aM_value, .inl (cJ, 401, .inr (.inl M_value)))]) rfl rfl rfl rfl (by decide) (fun u1 : Unit => [(aM, .inr (9, [.int M_thrown, .ref aM_tape, .int M_size, .int M_errorAt, .ref aQ, .ref aM_kind, .ref aM_from, .ref aM_means, .ref aM_value, .ref aM_who, .int M_token, .int M_depth, .int M_ordersRead, .int M_isSpring, .int M_itsSeat, .ref aM_now, .ref aM_kept, .ref aM_stack])), (aM_tape, .inl (cI, 2000, .inl M_tape)), (aM_kind, .inl (cI, 401, .inl M_kind)), (aM_from, .inl (cI, 401, .inl M_from)), (aM_means, .inl (cI, 401, .inl M_means)), (aM_value, .inl (cJ, 401, .inr (.inl M_value)))]) [4, 5, 0, 1, 2, 3] rfl (fun _ => rfl) (rest := []) rfl (Nat.le_of_ble_eq_true rfl) dX10_cutIntoTokens_13 (fun r1 u1 h => ?_)
    refine q_bipush C (v := 32) dX10_cutIntoTokens_16 (by decide) ?_
    refine q_icmp_eq C 31 dX10_cutIntoTokens_18 (by decide) h (fun h => ?_) (fun h => ?_)
    · exact bX10_cutIntoTokens_31 C (KL4 := KL4) (KL11 := (wX10_cutIntoTokens_11 K KL4 M_tape M_size n)) hret hKL4 ih _ _ _ _ _ _ h
    · refine q_aload_n C dX10_cutIntoTokens_21 0 rfl ?_
      refine q_iload_n C dX10_cutIntoTokens_22 1 rfl ?_
      refine q_callVI C (cX10_byteOf_ok _ h) cf_X10_213 im_X10_byteOf se_X10_byteOf 9 rfl rfl rfl rfl ⟨Nat.le_of_ble_eq_true rfl, Nat.le_of_ble_eq_true rfl⟩ ⟨Nat.le_of_ble_eq_true rfl, Nat.le_of_ble_eq_true rfl⟩ 0 0 ⟨rfl, rfl⟩ [0, 1] [2, 3, 4, 5] (wr := [(aM_kind, .inl (cI, 401, .inl M_kind)), (aM_from, .inl (cI, 401, .inl M_from)), (aM_means, .inl (cI, 401, .inl M_means)), (aM_value, .inl (cJ, 401, .inr (.inl M_value)))]) rfl rfl rfl rfl (by decide) (fun u2 : Unit => [(aM, .inr (9, [.int M_thrown, .ref aM_tape, .int M_size, .int M_errorAt, .ref aQ, .ref aM_kind, .ref aM_from, .ref aM_means, .ref aM_value, .ref aM_who, .int M_token, .int M_depth, .int M_ordersRead, .int M_isSpring, .int M_itsSeat, .ref aM_now, .ref aM_kept, .ref aM_stack])), (aM_tape, .inl (cI, 2000, .inl M_tape)), (aM_kind, .inl (cI, 401, .inl M_kind)), (aM_from, .inl (cI, 401, .inl M_from)), (aM_means, .inl (cI, 401, .inl M_means)), (aM_value, .inl (cJ, 401, .inr (.inl M_value)))]) [4, 5, 0, 1, 2, 3] rfl (fun _ => rfl) (rest := []) rfl (Nat.le_of_ble_eq_true rfl) dX10_cutIntoTokens_23 (fun r2 u2 h => ?_)
      refine q_bipush C (v := 10) dX10_cutIntoTokens_26 (by decide) ?_
      refine q_icmp_ne C 37 dX10_cutIntoTokens_28 (by decide) h (fun h => ?_) (fun h => ?_)
      · refine q_aload_n C dX10_cutIntoTokens_37 0 rfl ?_
        refine q_iload_n C dX10_cutIntoTokens_38 1 rfl ?_
        refine q_callVI C (cX10_endOf_ok _ h) cf_X10_250 im_X10_endOf se_X10_endOf 9 rfl rfl rfl rfl ⟨Nat.le_of_ble_eq_true rfl, Nat.le_of_ble_eq_true rfl⟩ ⟨Nat.le_of_ble_eq_true rfl, Nat.le_of_ble_eq_true rfl⟩ 0 0 ⟨rfl, rfl⟩ [0, 1] [2, 3, 4, 5] (wr := [(aM_kind, .inl (cI, 401, .inl M_kind)), (aM_from, .inl (cI, 401, .inl M_from)), (aM_means, .inl (cI, 401, .inl M_means)), (aM_value, .inl (cJ, 401, .inr (.inl M_value)))]) rfl rfl rfl rfl (by decide) (fun u3 : Unit => [(aM, .inr (9, [.int M_thrown, .ref aM_tape, .int M_size, .int M_errorAt, .ref aQ, .ref aM_kind, .ref aM_from, .ref aM_means, .ref aM_value, .ref aM_who, .int M_token, .int M_depth, .int M_ordersRead, .int M_isSpring, .int M_itsSeat, .ref aM_now, .ref aM_kept, .ref aM_stack])), (aM_tape, .inl (cI, 2000, .inl M_tape)), (aM_kind, .inl (cI, 401, .inl M_kind)), (aM_from, .inl (cI, 401, .inl M_from)), (aM_means, .inl (cI, 401, .inl M_means)), (aM_value, .inl (cJ, 401, .inr (.inl M_value)))]) [4, 5, 0, 1, 2, 3] rfl (fun _ => rfl) (rest := []) rfl (Nat.le_of_ble_eq_true rfl) dX10_cutIntoTokens_39 (fun r3 u3 h => ?_)
        refine q_istore_n C [(3, .int r3), (0, .ref aM), (1, .int x1), (2, .int x2)] dX10_cutIntoTokens_42 (by decide) rfl ?_
        refine q_aload_n C dX10_cutIntoTokens_43 1 rfl ?_
        refine q_get C inX10g rfl 6 (by decide) fl_X10_27 rfl 0 rfl rfl dX10_cutIntoTokens_44 ?_
        refine q_iload_n C dX10_cutIntoTokens_47 3 rfl ?_
        refine q_iload_n C dX10_cutIntoTokens_48 2 rfl ?_
        refine q_iast C 3 1 [(aM, .inr (9, [.int M_thrown, .ref aM_tape, .int M_size, .int M_errorAt, .ref aQ, .ref aM_kind, .ref aM_from, .ref aM_means, .ref aM_value, .ref aM_who, .int M_token, .int M_depth, .int M_ordersRead, .int M_isSpring, .int M_itsSeat, .ref aM_now, .ref aM_kept, .ref aM_stack])), (aM_tape, .inl (cI, 2000, .inl M_tape)), (aM_kind, .inl (cI, 401, .inl M_kind)), (aM_from, .inl (cI, 401, .inl (upd M_from x2.toNatClampNeg x1))), (aM_means, .inl (cI, 401, .inl M_means)), (aM_value, .inl (cJ, 401, .inr (.inl M_value)))] rfl rfl rfl dX10_cutIntoTokens_49 h (fun h => ?_)
        refine q_aload_n C dX10_cutIntoTokens_50 1 rfl ?_
        refine q_get C inX10g rfl 7 (by decide) fl_X10_30 rfl 0 rfl rfl dX10_cutIntoTokens_51 ?_
        refine q_iload_n C dX10_cutIntoTokens_54 3 rfl ?_
        refine q_iconst C (v := 0) dX10_cutIntoTokens_55 (by decide) ?_
        refine q_iast C 4 1 [(aM, .inr (9, [.int M_thrown, .ref aM_tape, .int M_size, .int M_errorAt, .ref aQ, .ref aM_kind, .ref aM_from, .ref aM_means, .ref aM_value, .ref aM_who, .int M_token, .int M_depth, .int M_ordersRead, .int M_isSpring, .int M_itsSeat, .ref aM_now, .ref aM_kept, .ref aM_stack])), (aM_tape, .inl (cI, 2000, .inl M_tape)), (aM_kind, .inl (cI, 401, .inl M_kind)), (aM_from, .inl (cI, 401, .inl (upd M_from x2.toNatClampNeg x1))), (aM_means, .inl (cI, 401, .inl (upd M_means x2.toNatClampNeg 0))), (aM_value, .inl (cJ, 401, .inr (.inl M_value)))] rfl rfl rfl dX10_cutIntoTokens_56 h (fun h => ?_)
        refine q_aload_n C dX10_cutIntoTokens_57 1 rfl ?_
        refine q_get C inX10g rfl 5 (by decide) fl_X10_24 rfl 0 rfl rfl dX10_cutIntoTokens_58 ?_
        refine q_iload_n C dX10_cutIntoTokens_61 3 rfl ?_
        refine q_aload_n C dX10_cutIntoTokens_62 1 rfl ?_
        refine q_iload_n C dX10_cutIntoTokens_63 3 rfl ?_
        refine q_iload_n C dX10_cutIntoTokens_64 2 rfl ?_
        refine q_iload_n C dX10_cutIntoTokens_65 0 rfl ?_
        refine q_callVI C (cX10_kindOf_ok _ h) cf_X10_253 im_X10_kindOf se_X10_kindOf 9 rfl rfl rfl rfl ⟨Nat.le_of_ble_eq_true rfl, Nat.le_of_ble_eq_true rfl⟩ ⟨Nat.le_of_ble_eq_true rfl, Nat.le_of_ble_eq_true rfl⟩ 0 0 ⟨rfl, rfl⟩ [0, 1, 5] [2, 3, 4] (wr := [(aM_kind, .inl (cI, 401, .inl M_kind)), (aM_from, .inl (cI, 401, .inl (upd M_from x2.toNatClampNeg x1))), (aM_means, .inl (cI, 401, .inl (upd M_means x2.toNatClampNeg 0)))]) rfl rfl rfl rfl (by decide) (fun u4 : (Nat → Int64) => [(aM, .inr (9, [.int M_thrown, .ref aM_tape, .int M_size, .int M_errorAt, .ref aQ, .ref aM_kind, .ref aM_from, .ref aM_means, .ref aM_value, .ref aM_who, .int M_token, .int M_depth, .int M_ordersRead, .int M_isSpring, .int M_itsSeat, .ref aM_now, .ref aM_kept, .ref aM_stack])), (aM_tape, .inl (cI, 2000, .inl M_tape)), (aM_kind, .inl (cI, 401, .inl M_kind)), (aM_from, .inl (cI, 401, .inl (upd M_from x2.toNatClampNeg x1))), (aM_means, .inl (cI, 401, .inl (upd M_means x2.toNatClampNeg 0))), (aM_value, .inl (cJ, 401, .inr (.inl u4)))]) [3, 4, 0, 1, 2, 5] rfl (fun _ => rfl) (rest := [.int x2, .ref aM_kind]) rfl (Nat.le_of_ble_eq_true rfl) dX10_cutIntoTokens_66 (fun r4 u4 h => ?_)
        refine q_iast C 2 1 [(aM, .inr (9, [.int M_thrown, .ref aM_tape, .int M_size, .int M_errorAt, .ref aQ, .ref aM_kind, .ref aM_from, .ref aM_means, .ref aM_value, .ref aM_who, .int M_token, .int M_depth, .int M_ordersRead, .int M_isSpring, .int M_itsSeat, .ref aM_now, .ref aM_kept, .ref aM_stack])), (aM_tape, .inl (cI, 2000, .inl M_tape)), (aM_kind, .inl (cI, 401, .inl (upd M_kind x2.toNatClampNeg r4))), (aM_from, .inl (cI, 401, .inl (upd M_from x2.toNatClampNeg x1))), (aM_means, .inl (cI, 401, .inl (upd M_means x2.toNatClampNeg 0))), (aM_value, .inl (cJ, 401, .inr (.inl u4)))] rfl rfl rfl dX10_cutIntoTokens_69 h (fun h => ?_)
        refine q_iload_n C dX10_cutIntoTokens_70 3 rfl ?_
        refine q_sipush C (v := 400) dX10_cutIntoTokens_71 (by decide) ?_
        refine q_icmp_ne C 96 dX10_cutIntoTokens_74 (by decide) h (fun h => ?_) (fun h => ?_)
        · refine q_ls [(0, .ref aM), (2, .int x2), (3, .int r3)] [1, 3, 0] rfl ?_
          exact bX10_cutIntoTokens_96 C (KL4 := KL4) hret hKL4 _ _ _ _ _ _ h
        · refine q_aload_n C dX10_cutIntoTokens_77 1 rfl ?_
          refine q_get C inX10g rfl 5 (by decide) fl_X10_24 rfl 0 rfl rfl dX10_cutIntoTokens_78 ?_
          refine q_iload_n C dX10_cutIntoTokens_81 3 rfl ?_
          refine q_iald C 2 1 rfl rfl dX10_cutIntoTokens_82 h (fun h => ?_)
          refine q_bipush C (v := 33) dX10_cutIntoTokens_83 (by decide) ?_
          refine q_icmp_eq C 96 dX10_cutIntoTokens_85 (by decide) h (fun h => ?_) (fun h => ?_)
          · refine q_ls [(0, .ref aM), (2, .int x2), (3, .int r3)] [1, 3, 0] rfl ?_
            exact bX10_cutIntoTokens_96 C (KL4 := KL4) hret hKL4 _ _ _ _ _ _ h
          · refine q_aload_n C dX10_cutIntoTokens_88 1 rfl ?_
            refine q_get C inX10g rfl 5 (by decide) fl_X10_24 rfl 0 rfl rfl dX10_cutIntoTokens_89 ?_
            refine q_iload_n C dX10_cutIntoTokens_92 3 rfl ?_
            refine q_bipush C (v := 32) dX10_cutIntoTokens_93 (by decide) ?_
            refine q_iast C 2 1 [(aM, .inr (9, [.int M_thrown, .ref aM_tape, .int M_size, .int M_errorAt, .ref aQ, .ref aM_kind, .ref aM_from, .ref aM_means, .ref aM_value, .ref aM_who, .int M_token, .int M_depth, .int M_ordersRead, .int M_isSpring, .int M_itsSeat, .ref aM_now, .ref aM_kept, .ref aM_stack])), (aM_tape, .inl (cI, 2000, .inl M_tape)), (aM_kind, .inl (cI, 401, .inl (upd (upd M_kind x2.toNatClampNeg r4) x2.toNatClampNeg 32))), (aM_from, .inl (cI, 401, .inl (upd M_from x2.toNatClampNeg x1))), (aM_means, .inl (cI, 401, .inl (upd M_means x2.toNatClampNeg 0))), (aM_value, .inl (cJ, 401, .inr (.inl u4)))] rfl rfl rfl dX10_cutIntoTokens_95 h (fun h => ?_)
            refine q_ls [(0, .ref aM), (2, .int x2), (3, .int r3)] [1, 3, 0] rfl ?_
            exact bX10_cutIntoTokens_96 C (KL4 := KL4) hret hKL4 _ _ _ _ _ _ h
      · exact bX10_cutIntoTokens_31 C (KL4 := KL4) (KL11 := (wX10_cutIntoTokens_11 K KL4 M_tape M_size n)) hret hKL4 ih _ _ _ _ _ _ h
def wX10_cutIntoTokens_4 (K : ((Nat → Int32) × (Nat → Int32) × (Nat → Int32) × (Nat → Int64)) → Prop) (M_tape : Nat → Int32) (M_size : Int32) : Nat → (Nat → Int32) → (Nat → Int32) → (Nat → Int32) → (Nat → Int64) → Int32 → Int32 → Prop
  | 0, _, _, _, _, _, _ => False
  | n + 1, M_kind, M_from, M_means, M_value, x1, x2 =>
  ((400 < x2 → K (M_kind, M_from, M_means, M_value)) ∧ (¬ 400 < x2 → ∃ k9 : Nat, wX10_cutIntoTokens_11 K (wX10_cutIntoTokens_4 K M_tape M_size n) M_tape M_size k9 M_kind M_from M_means M_value x1 x2))
set_option maxRecDepth 100000 in
set_option maxHeartbeats 4000000 in
theorem bX10_cutIntoTokens_4 {D : gD} {cB cI cJ cZ : ClassId} {E : gE} {A : Nat → Prop} {Q : State → Prop} {aM aM_tape aM_kind aM_from aM_means aM_value aQ aM_who aM_now aM_kept aM_stack : Nat} {M_thrown M_size M_errorAt M_token M_depth M_ordersRead M_isSpring M_itsSeat : Int32} {M_tape : Nat → Int32} (C : Cx D (gT cB cI cJ cZ) E rmX10_cutIntoTokens cX10_cutIntoTokens 4 RX10 A) {K : ((Nat → Int32) × (Nat → Int32) × (Nat → Int32) × (Nat → Int64)) → Prop} (hret : ∀ (u : (Nat → Int32) × (Nat → Int32) × (Nat → Int32) × (Nat → Int64)) (pc : Nat) (ls : List (Nat × Value)), K u → decode cX10_cutIntoTokens pc = .ok (.return_, 1) → Go D E A Q 4 0 0 [(aM, .inr (9, [.int M_thrown, .ref aM_tape, .int M_size, .int M_errorAt, .ref aQ, .ref aM_kind, .ref aM_from, .ref aM_means, .ref aM_value, .ref aM_who, .int M_token, .int M_depth, .int M_ordersRead, .int M_isSpring, .int M_itsSeat, .ref aM_now, .ref aM_kept, .ref aM_stack])), (aM_tape, .inl (cI, 2000, .inl M_tape)), (aM_kind, .inl (cI, 401, .inl u.1)), (aM_from, .inl (cI, 401, .inl u.2.1)), (aM_means, .inl (cI, 401, .inl u.2.2.1)), (aM_value, .inl (cJ, 401, .inr (.inl u.2.2.2)))] ls pc []) : ∀ (n : Nat) (M_kind : Nat → Int32) (M_from : Nat → Int32) (M_means : Nat → Int32) (M_value : Nat → Int64) (x1 : Int32) (x2 : Int32), wX10_cutIntoTokens_4 K M_tape M_size n M_kind M_from M_means M_value x1 x2 → Go D E A Q 4 0 0 [(aM, .inr (9, [.int M_thrown, .ref aM_tape, .int M_size, .int M_errorAt, .ref aQ, .ref aM_kind, .ref aM_from, .ref aM_means, .ref aM_value, .ref aM_who, .int M_token, .int M_depth, .int M_ordersRead, .int M_isSpring, .int M_itsSeat, .ref aM_now, .ref aM_kept, .ref aM_stack])), (aM_tape, .inl (cI, 2000, .inl M_tape)), (aM_kind, .inl (cI, 401, .inl M_kind)), (aM_from, .inl (cI, 401, .inl M_from)), (aM_means, .inl (cI, 401, .inl M_means)), (aM_value, .inl (cJ, 401, .inr (.inl M_value)))] [(0, .ref aM), (1, .int x1), (2, .int x2)] 4 [] := by
  intro n
  induction n with
  | zero =>
    intro M_kind M_from M_means M_value x1 x2 h
    exact h.elim
  | succ n ih =>
    intro M_kind M_from M_means M_value x1 x2 h
    unfold wX10_cutIntoTokens_4 at h
    refine q_iload_n C dX10_cutIntoTokens_4 2 rfl ?_
    refine q_sipush C (v := 400) dX10_cutIntoTokens_5 (by decide) ?_
    refine q_icmp_gt C 127 dX10_cutIntoTokens_8 (by decide) h (fun h => ?_) (fun h => ?_)
    · exact hret (M_kind, M_from, M_means, M_value) _ _ h dX10_cutIntoTokens_127
    · obtain ⟨n1, h⟩ := h
      exact bX10_cutIntoTokens_11 C (KL4 := (wX10_cutIntoTokens_4 K M_tape M_size n)) hret ih n1 _ _ _ _ _ _ h
def wX10_cutIntoTokens (M_tape : Nat → Int32) (M_size : Int32) (M_kind : Nat → Int32) (M_from : Nat → Int32) (M_means : Nat → Int32) (M_value : Nat → Int64) (K : ((Nat → Int32) × (Nat → Int32) × (Nat → Int32) × (Nat → Int64)) → Prop) : Prop :=
  ∃ k9 : Nat, wX10_cutIntoTokens_4 K M_tape M_size k9 M_kind M_from M_means M_value 0 0
set_option maxRecDepth 100000 in
set_option maxHeartbeats 4000000 in
theorem bX10_cutIntoTokens {D : gD} {cB cI cJ cZ : ClassId} {E : gE} {A : Nat → Prop} {Q : State → Prop} {aM aM_tape aM_kind aM_from aM_means aM_value aQ aM_who aM_now aM_kept aM_stack : Nat} {M_thrown M_size M_errorAt M_token M_depth M_ordersRead M_isSpring M_itsSeat : Int32} {M_tape M_kind M_from M_means : Nat → Int32} {M_value : Nat → Int64} (C : Cx D (gT cB cI cJ cZ) E rmX10_cutIntoTokens cX10_cutIntoTokens 4 RX10 A) {K : ((Nat → Int32) × (Nat → Int32) × (Nat → Int32) × (Nat → Int64)) → Prop} (hret : ∀ (u : (Nat → Int32) × (Nat → Int32) × (Nat → Int32) × (Nat → Int64)) (pc : Nat) (ls : List (Nat × Value)), K u → decode cX10_cutIntoTokens pc = .ok (.return_, 1) → Go D E A Q 4 0 0 [(aM, .inr (9, [.int M_thrown, .ref aM_tape, .int M_size, .int M_errorAt, .ref aQ, .ref aM_kind, .ref aM_from, .ref aM_means, .ref aM_value, .ref aM_who, .int M_token, .int M_depth, .int M_ordersRead, .int M_isSpring, .int M_itsSeat, .ref aM_now, .ref aM_kept, .ref aM_stack])), (aM_tape, .inl (cI, 2000, .inl M_tape)), (aM_kind, .inl (cI, 401, .inl u.1)), (aM_from, .inl (cI, 401, .inl u.2.1)), (aM_means, .inl (cI, 401, .inl u.2.2.1)), (aM_value, .inl (cJ, 401, .inr (.inl u.2.2.2)))] ls pc []) (h : wX10_cutIntoTokens M_tape M_size M_kind M_from M_means M_value K) : Go D E A Q 4 0 0 [(aM, .inr (9, [.int M_thrown, .ref aM_tape, .int M_size, .int M_errorAt, .ref aQ, .ref aM_kind, .ref aM_from, .ref aM_means, .ref aM_value, .ref aM_who, .int M_token, .int M_depth, .int M_ordersRead, .int M_isSpring, .int M_itsSeat, .ref aM_now, .ref aM_kept, .ref aM_stack])), (aM_tape, .inl (cI, 2000, .inl M_tape)), (aM_kind, .inl (cI, 401, .inl M_kind)), (aM_from, .inl (cI, 401, .inl M_from)), (aM_means, .inl (cI, 401, .inl M_means)), (aM_value, .inl (cJ, 401, .inr (.inl M_value)))] [(0, .ref aM)] 0 [] := by
  unfold wX10_cutIntoTokens at h
  refine q_iconst C (v := 0) dX10_cutIntoTokens_0 (by decide) ?_
  refine q_istore_n C [(1, .int 0), (0, .ref aM)] dX10_cutIntoTokens_1 (by decide) rfl ?_
  refine q_iconst C (v := 0) dX10_cutIntoTokens_2 (by decide) ?_
  refine q_istore_n C [(2, .int 0), (1, .int 0), (0, .ref aM)] dX10_cutIntoTokens_3 (by decide) rfl ?_
  refine q_ls [(0, .ref aM), (1, .int 0), (2, .int 0)] [2, 1, 0] rfl ?_
  obtain ⟨n1, h⟩ := h
  exact bX10_cutIntoTokens_4 C  hret  n1 _ _ _ _ _ _ h
theorem cX10_cutIntoTokens_ok (l : Launch) {D : gD} {cB cI cJ cZ : ClassId} {aM aM_tape aM_kind aM_from aM_means aM_value aQ aM_who aM_now aM_kept aM_stack : Nat} {M_thrown M_size M_errorAt M_token M_depth M_ordersRead M_isSpring M_itsSeat : Int32} {M_tape M_kind M_from M_means : Nat → Int32} {M_value : Nat → Int64} {K : ((Nat → Int32) × (Nat → Int32) × (Nat → Int32) × (Nat → Int64)) → Prop} (h : wX10_cutIntoTokens M_tape M_size M_kind M_from M_means M_value K) : CtV l D (gT cB cI cJ cZ) yX10_cutIntoTokens cX10_cutIntoTokens 4 rmX10_cutIntoTokens [.ref aM] [(aM, .inr (9, [.int M_thrown, .ref aM_tape, .int M_size, .int M_errorAt, .ref aQ, .ref aM_kind, .ref aM_from, .ref aM_means, .ref aM_value, .ref aM_who, .int M_token, .int M_depth, .int M_ordersRead, .int M_isSpring, .int M_itsSeat, .ref aM_now, .ref aM_kept, .ref aM_stack])), (aM_tape, .inl (cI, 2000, .inl M_tape)), (aM_kind, .inl (cI, 401, .inl M_kind)), (aM_from, .inl (cI, 401, .inl M_from)), (aM_means, .inl (cI, 401, .inl M_means)), (aM_value, .inl (cJ, 401, .inr (.inl M_value)))] (fun u : (Nat → Int32) × (Nat → Int32) × (Nat → Int32) × (Nat → Int64) => [(aM, .inr (9, [.int M_thrown, .ref aM_tape, .int M_size, .int M_errorAt, .ref aQ, .ref aM_kind, .ref aM_from, .ref aM_means, .ref aM_value, .ref aM_who, .int M_token, .int M_depth, .int M_ordersRead, .int M_isSpring, .int M_itsSeat, .ref aM_now, .ref aM_kept, .ref aM_stack])), (aM_tape, .inl (cI, 2000, .inl M_tape)), (aM_kind, .inl (cI, 401, .inl u.1)), (aM_from, .inl (cI, 401, .inl u.2.1)), (aM_means, .inl (cI, 401, .inl u.2.2.1)), (aM_value, .inl (cJ, 401, .inr (.inl u.2.2.2)))]) K :=
  ct_startV (by decide +kernel) (Nat.le_of_ble_eq_true rfl) (fun E A Q hE C hret => bX10_cutIntoTokens C hret h)
abbrev rmX10_eat : Room := { frames := 0, cells := 0, slots := 0, locals := 0 }
def wX10_eat (M_kind : Nat → Int32) (M_token : Int32) (p0 : Int32) (K : Int32 → Int32 → Prop) : Prop :=
  vp_in M_token 401 ∧ (((M_kind M_token.toNatClampNeg = p0 → K 1 (M_token + 1)) ∧ (¬ M_kind M_token.toNatClampNeg = p0 → K 0 (M_token))))
set_option maxRecDepth 100000 in
set_option maxHeartbeats 4000000 in
theorem bX10_eat {D : gD} {cB cI cJ cZ : ClassId} {E : gE} {A : Nat → Prop} {Q : State → Prop} {aM aM_kind aM_tape aQ aM_from aM_means aM_value aM_who aM_now aM_kept aM_stack : Nat} {M_thrown M_size M_errorAt M_token M_depth M_ordersRead M_isSpring M_itsSeat : Int32} {M_kind : Nat → Int32} (C : Cx D (gT cB cI cJ cZ) E rmX10_eat cX10_eat 2 RX10 A) {p0 : Int32} {K : Int32 → Int32 → Prop} (hret : ∀ (r : Int32) (u : Int32) (pc : Nat) (ls : List (Nat × Value)), (r = 0 ∨ r = 1) → K r u → decode cX10_eat pc = .ok (.ireturn, 1) → Go D E A Q 2 0 0 [(aM, .inr (9, [.int M_thrown, .ref aM_tape, .int M_size, .int M_errorAt, .ref aQ, .ref aM_kind, .ref aM_from, .ref aM_means, .ref aM_value, .ref aM_who, .int u, .int M_depth, .int M_ordersRead, .int M_isSpring, .int M_itsSeat, .ref aM_now, .ref aM_kept, .ref aM_stack])), (aM_kind, .inl (cI, 401, .inl M_kind))] ls pc [.int r]) (h : wX10_eat M_kind M_token p0 K) : Go D E A Q 2 0 0 [(aM, .inr (9, [.int M_thrown, .ref aM_tape, .int M_size, .int M_errorAt, .ref aQ, .ref aM_kind, .ref aM_from, .ref aM_means, .ref aM_value, .ref aM_who, .int M_token, .int M_depth, .int M_ordersRead, .int M_isSpring, .int M_itsSeat, .ref aM_now, .ref aM_kept, .ref aM_stack])), (aM_kind, .inl (cI, 401, .inl M_kind))] [(0, .ref aM), (1, .int p0)] 0 [] := by
  unfold wX10_eat at h
  refine q_aload_n C dX10_eat_0 0 rfl ?_
  refine q_get C inX10g rfl 5 (by decide) fl_X10_24 rfl 0 rfl rfl dX10_eat_1 ?_
  refine q_aload_n C dX10_eat_4 0 rfl ?_
  refine q_get C inX10g rfl 10 (by decide) fl_X10_256 rfl 0 rfl rfl dX10_eat_5 ?_
  refine q_iald C 1 1 rfl rfl dX10_eat_8 h (fun h => ?_)
  refine q_iload_n C dX10_eat_9 1 rfl ?_
  refine q_icmp_eq C 15 dX10_eat_10 (by decide) h (fun h => ?_) (fun h => ?_)
  · refine q_aload_n C dX10_eat_15 0 rfl ?_
    refine q_dup C dX10_eat_16 rfl ?_
    refine q_get C inX10g rfl 10 (by decide) fl_X10_256 rfl 0 rfl rfl dX10_eat_17 ?_
    refine q_iconst C (v := 1) dX10_eat_20 (by decide) ?_
    refine q_iadd C dX10_eat_21 ?_
    refine q_put C inX10g tyX10_ok nmX10 rfl 10 (by decide) fl_X10_256 rfl rfl (ty := .int) (by decide +kernel) 0 [(aM, .inr (9, [.int M_thrown, .ref aM_tape, .int M_size, .int M_errorAt, .ref aQ, .ref aM_kind, .ref aM_from, .ref aM_means, .ref aM_value, .ref aM_who, .int (M_token + 1), .int M_depth, .int M_ordersRead, .int M_isSpring, .int M_itsSeat, .ref aM_now, .ref aM_kept, .ref aM_stack])), (aM_kind, .inl (cI, 401, .inl M_kind))] rfl rfl rfl (Nat.le_of_ble_eq_true rfl) rfl dX10_eat_22 ?_
    refine q_iconst C (v := 1) dX10_eat_25 (by decide) ?_
    exact hret 1 (M_token + 1) _ _ (Or.inr rfl) h dX10_eat_26
  · refine q_iconst C (v := 0) dX10_eat_13 (by decide) ?_
    exact hret 0 (M_token) _ _ (Or.inl rfl) h dX10_eat_14
theorem cX10_eat_ok (l : Launch) {D : gD} {cB cI cJ cZ : ClassId} {aM aM_kind aM_tape aQ aM_from aM_means aM_value aM_who aM_now aM_kept aM_stack : Nat} {M_thrown M_size M_errorAt M_token M_depth M_ordersRead M_isSpring M_itsSeat : Int32} {M_kind : Nat → Int32} {p0 : Int32} {K : Int32 → Int32 → Prop} (h : wX10_eat M_kind M_token p0 K) : CtI l D (gT cB cI cJ cZ) yX10_eat cX10_eat 2 .boolean rmX10_eat [.ref aM, .int p0] [(aM, .inr (9, [.int M_thrown, .ref aM_tape, .int M_size, .int M_errorAt, .ref aQ, .ref aM_kind, .ref aM_from, .ref aM_means, .ref aM_value, .ref aM_who, .int M_token, .int M_depth, .int M_ordersRead, .int M_isSpring, .int M_itsSeat, .ref aM_now, .ref aM_kept, .ref aM_stack])), (aM_kind, .inl (cI, 401, .inl M_kind))] (fun u : Int32 => [(aM, .inr (9, [.int M_thrown, .ref aM_tape, .int M_size, .int M_errorAt, .ref aQ, .ref aM_kind, .ref aM_from, .ref aM_means, .ref aM_value, .ref aM_who, .int u, .int M_depth, .int M_ordersRead, .int M_isSpring, .int M_itsSeat, .ref aM_now, .ref aM_kept, .ref aM_stack])), (aM_kind, .inl (cI, 401, .inl M_kind))]) (fun r u => (r = 0 ∨ r = 1) ∧ K r u) :=
  ct_startI (by decide +kernel) (Nat.le_of_ble_eq_true rfl) (fun E A Q hE C hret => bX10_eat C (fun r u pc ls hb hk hd => hret r u pc ls (nar_bit hb) ⟨hb, hk⟩ hd) h)
abbrev rmX10_eatAs : Room := { frames := 1, cells := 0, slots := 0, locals := 21 }
def wX10_eatAs (M_kind : Nat → Int32) (M_means : Nat → Int32) (M_token : Int32) (p0 : Int32) (p1 : Int32) (K : Int32 → ((Nat → Int32) × Int32) → Prop) : Prop :=
  vp_in M_token 401 ∧ (wX10_eat M_kind M_token p0 (fun r1 u1 => K r1 (upd M_means M_token.toNatClampNeg p1, u1)))
set_option maxRecDepth 100000 in
set_option maxHeartbeats 4000000 in
theorem bX10_eatAs {D : gD} {cB cI cJ cZ : ClassId} {E : gE} {A : Nat → Prop} {Q : State → Prop} {aM aM_kind aM_means aM_tape aQ aM_from aM_value aM_who aM_now aM_kept aM_stack : Nat} {M_thrown M_size M_errorAt M_token M_depth M_ordersRead M_isSpring M_itsSeat : Int32} {M_kind M_means : Nat → Int32} (C : Cx D (gT cB cI cJ cZ) E rmX10_eatAs cX10_eatAs 3 RX10 A) {p0 : Int32} {p1 : Int32} {K : Int32 → ((Nat → Int32) × Int32) → Prop} (hret : ∀ (r : Int32) (u : (Nat → Int32) × Int32) (pc : Nat) (ls : List (Nat × Value)), (r = 0 ∨ r = 1) → K r u → decode cX10_eatAs pc = .ok (.ireturn, 1) → Go D E A Q 3 0 0 [(aM, .inr (9, [.int M_thrown, .ref aM_tape, .int M_size, .int M_errorAt, .ref aQ, .ref aM_kind, .ref aM_from, .ref aM_means, .ref aM_value, .ref aM_who, .int u.2, .int M_depth, .int M_ordersRead, .int M_isSpring, .int M_itsSeat, .ref aM_now, .ref aM_kept, .ref aM_stack])), (aM_kind, .inl (cI, 401, .inl M_kind)), (aM_means, .inl (cI, 401, .inl u.1))] ls pc [.int r]) (h : wX10_eatAs M_kind M_means M_token p0 p1 K) : Go D E A Q 3 0 0 [(aM, .inr (9, [.int M_thrown, .ref aM_tape, .int M_size, .int M_errorAt, .ref aQ, .ref aM_kind, .ref aM_from, .ref aM_means, .ref aM_value, .ref aM_who, .int M_token, .int M_depth, .int M_ordersRead, .int M_isSpring, .int M_itsSeat, .ref aM_now, .ref aM_kept, .ref aM_stack])), (aM_kind, .inl (cI, 401, .inl M_kind)), (aM_means, .inl (cI, 401, .inl M_means))] [(0, .ref aM), (1, .int p0), (2, .int p1)] 0 [] := by
  unfold wX10_eatAs at h
  refine q_aload_n C dX10_eatAs_0 0 rfl ?_
  refine q_get C inX10g rfl 7 (by decide) fl_X10_30 rfl 0 rfl rfl dX10_eatAs_1 ?_
  refine q_aload_n C dX10_eatAs_4 0 rfl ?_
  refine q_get C inX10g rfl 10 (by decide) fl_X10_256 rfl 0 rfl rfl dX10_eatAs_5 ?_
  refine q_iload_n C dX10_eatAs_8 2 rfl ?_
  refine q_iast C 2 1 [(aM, .inr (9, [.int M_thrown, .ref aM_tape, .int M_size, .int M_errorAt, .ref aQ, .ref aM_kind, .ref aM_from, .ref aM_means, .ref aM_value, .ref aM_who, .int M_token, .int M_depth, .int M_ordersRead, .int M_isSpring, .int M_itsSeat, .ref aM_now, .ref aM_kept, .ref aM_stack])), (aM_kind, .inl (cI, 401, .inl M_kind)), (aM_means, .inl (cI, 401, .inl (upd M_means M_token.toNatClampNeg p1)))] rfl rfl rfl dX10_eatAs_9 h (fun h => ?_)
  refine q_aload_n C dX10_eatAs_10 0 rfl ?_
  refine q_iload_n C dX10_eatAs_11 1 rfl ?_
  refine q_callVI C (cX10_eat_ok _ h) cf_X10_259 im_X10_eat se_X10_eat 9 rfl rfl rfl rfl ⟨Nat.le_of_ble_eq_true rfl, Nat.le_of_ble_eq_true rfl⟩ ⟨Nat.le_of_ble_eq_true rfl, Nat.le_of_ble_eq_true rfl⟩ 0 0 ⟨rfl, rfl⟩ [0, 1] [2] (wr := [(aM_means, .inl (cI, 401, .inl (upd M_means M_token.toNatClampNeg p1)))]) rfl rfl rfl rfl (by decide) (fun u1 : Int32 => [(aM, .inr (9, [.int M_thrown, .ref aM_tape, .int M_size, .int M_errorAt, .ref aQ, .ref aM_kind, .ref aM_from, .ref aM_means, .ref aM_value, .ref aM_who, .int u1, .int M_depth, .int M_ordersRead, .int M_isSpring, .int M_itsSeat, .ref aM_now, .ref aM_kept, .ref aM_stack])), (aM_kind, .inl (cI, 401, .inl M_kind)), (aM_means, .inl (cI, 401, .inl (upd M_means M_token.toNatClampNeg p1)))]) [1, 2, 0] rfl (fun _ => rfl) (rest := []) rfl (Nat.le_of_ble_eq_true rfl) dX10_eatAs_12 (fun r1 u1 h => ?_)
  obtain ⟨hb1, h⟩ := h
  exact hret r1 (upd M_means M_token.toNatClampNeg p1, u1) _ _ hb1 h dX10_eatAs_15
theorem cX10_eatAs_ok (l : Launch) {D : gD} {cB cI cJ cZ : ClassId} {aM aM_kind aM_means aM_tape aQ aM_from aM_value aM_who aM_now aM_kept aM_stack : Nat} {M_thrown M_size M_errorAt M_token M_depth M_ordersRead M_isSpring M_itsSeat : Int32} {M_kind M_means : Nat → Int32} {p0 : Int32} {p1 : Int32} {K : Int32 → ((Nat → Int32) × Int32) → Prop} (h : wX10_eatAs M_kind M_means M_token p0 p1 K) : CtI l D (gT cB cI cJ cZ) yX10_eatAs cX10_eatAs 3 .boolean rmX10_eatAs [.ref aM, .int p0, .int p1] [(aM, .inr (9, [.int M_thrown, .ref aM_tape, .int M_size, .int M_errorAt, .ref aQ, .ref aM_kind, .ref aM_from, .ref aM_means, .ref aM_value, .ref aM_who, .int M_token, .int M_depth, .int M_ordersRead, .int M_isSpring, .int M_itsSeat, .ref aM_now, .ref aM_kept, .ref aM_stack])), (aM_kind, .inl (cI, 401, .inl M_kind)), (aM_means, .inl (cI, 401, .inl M_means))] (fun u : (Nat → Int32) × Int32 => [(aM, .inr (9, [.int M_thrown, .ref aM_tape, .int M_size, .int M_errorAt, .ref aQ, .ref aM_kind, .ref aM_from, .ref aM_means, .ref aM_value, .ref aM_who, .int u.2, .int M_depth, .int M_ordersRead, .int M_isSpring, .int M_itsSeat, .ref aM_now, .ref aM_kept, .ref aM_stack])), (aM_kind, .inl (cI, 401, .inl M_kind)), (aM_means, .inl (cI, 401, .inl u.1))]) (fun r u => (r = 0 ∨ r = 1) ∧ K r u) :=
  ct_startI (by decide +kernel) (Nat.le_of_ble_eq_true rfl) (fun E A Q hE C hret => bX10_eatAs C (fun r u pc ls hb hk hd => hret r u pc ls (nar_bit hb) ⟨hb, hk⟩ hd) h)
abbrev rmX10_deeper : Room := { frames := 1, cells := 0, slots := 0, locals := 21 }
def wX10_deeper (M_kind : Nat → Int32) (M_token : Int32) (M_depth : Int32) (p0 : Int32) (K : Int32 → (Int32 × Int32) → Prop) : Prop :=
  ((M_depth = 8 → K 0 (M_token, M_depth)) ∧ (¬ M_depth = 8 → wX10_eat M_kind M_token p0 (fun r1 u1 => ((¬ r1 = 0 → K 1 (u1, M_depth + 1)) ∧ (r1 = 0 → K 0 (u1, M_depth))))))
set_option maxRecDepth 100000 in
set_option maxHeartbeats 4000000 in
theorem bX10_deeper {D : gD} {cB cI cJ cZ : ClassId} {E : gE} {A : Nat → Prop} {Q : State → Prop} {aM aM_kind aM_tape aQ aM_from aM_means aM_value aM_who aM_now aM_kept aM_stack : Nat} {M_thrown M_size M_errorAt M_token M_depth M_ordersRead M_isSpring M_itsSeat : Int32} {M_kind : Nat → Int32} (C : Cx D (gT cB cI cJ cZ) E rmX10_deeper cX10_deeper 2 RX10 A) {p0 : Int32} {K : Int32 → (Int32 × Int32) → Prop} (hret : ∀ (r : Int32) (u : Int32 × Int32) (pc : Nat) (ls : List (Nat × Value)), (r = 0 ∨ r = 1) → K r u → decode cX10_deeper pc = .ok (.ireturn, 1) → Go D E A Q 2 0 0 [(aM, .inr (9, [.int M_thrown, .ref aM_tape, .int M_size, .int M_errorAt, .ref aQ, .ref aM_kind, .ref aM_from, .ref aM_means, .ref aM_value, .ref aM_who, .int u.1, .int u.2, .int M_ordersRead, .int M_isSpring, .int M_itsSeat, .ref aM_now, .ref aM_kept, .ref aM_stack])), (aM_kind, .inl (cI, 401, .inl M_kind))] ls pc [.int r]) (h : wX10_deeper M_kind M_token M_depth p0 K) : Go D E A Q 2 0 0 [(aM, .inr (9, [.int M_thrown, .ref aM_tape, .int M_size, .int M_errorAt, .ref aQ, .ref aM_kind, .ref aM_from, .ref aM_means, .ref aM_value, .ref aM_who, .int M_token, .int M_depth, .int M_ordersRead, .int M_isSpring, .int M_itsSeat, .ref aM_now, .ref aM_kept, .ref aM_stack])), (aM_kind, .inl (cI, 401, .inl M_kind))] [(0, .ref aM), (1, .int p0)] 0 [] := by
  unfold wX10_deeper at h
  refine q_aload_n C dX10_deeper_0 0 rfl ?_
  refine q_get C inX10g rfl 11 (by decide) fl_X10_262 rfl 0 rfl rfl dX10_deeper_1 ?_
  refine q_bipush C (v := 8) dX10_deeper_4 (by decide) ?_
  refine q_icmp_eq C 17 dX10_deeper_6 (by decide) h (fun h => ?_) (fun h => ?_)
  · refine q_iconst C (v := 0) dX10_deeper_17 (by decide) ?_
    exact hret 0 (M_token, M_depth) _ _ (Or.inl rfl) h dX10_deeper_18
  · refine q_aload_n C dX10_deeper_9 0 rfl ?_
    refine q_iload_n C dX10_deeper_10 1 rfl ?_
    refine q_callVI C (cX10_eat_ok _ h) cf_X10_259 im_X10_eat se_X10_eat 9 rfl rfl rfl rfl ⟨Nat.le_of_ble_eq_true rfl, Nat.le_of_ble_eq_true rfl⟩ ⟨Nat.le_of_ble_eq_true rfl, Nat.le_of_ble_eq_true rfl⟩ 0 0 ⟨rfl, rfl⟩ [0, 1] [] (wr := []) rfl rfl rfl rfl (by decide) (fun u1 : Int32 => [(aM, .inr (9, [.int M_thrown, .ref aM_tape, .int M_size, .int M_errorAt, .ref aQ, .ref aM_kind, .ref aM_from, .ref aM_means, .ref aM_value, .ref aM_who, .int u1, .int M_depth, .int M_ordersRead, .int M_isSpring, .int M_itsSeat, .ref aM_now, .ref aM_kept, .ref aM_stack])), (aM_kind, .inl (cI, 401, .inl M_kind))]) [0, 1] rfl (fun _ => rfl) (rest := []) rfl (Nat.le_of_ble_eq_true rfl) dX10_deeper_11 (fun r1 u1 h => ?_)
    obtain ⟨hb1, h⟩ := h
    refine q_if_ne C 19 dX10_deeper_14 (by decide) h (fun h => ?_) (fun h => ?_)
    · refine q_aload_n C dX10_deeper_19 0 rfl ?_
      refine q_dup C dX10_deeper_20 rfl ?_
      refine q_get C inX10g rfl 11 (by decide) fl_X10_262 rfl 0 rfl rfl dX10_deeper_21 ?_
      refine q_iconst C (v := 1) dX10_deeper_24 (by decide) ?_
      refine q_iadd C dX10_deeper_25 ?_
      refine q_put C inX10g tyX10_ok nmX10 rfl 11 (by decide) fl_X10_262 rfl rfl (ty := .int) (by decide +kernel) 0 [(aM, .inr (9, [.int M_thrown, .ref aM_tape, .int M_size, .int M_errorAt, .ref aQ, .ref aM_kind, .ref aM_from, .ref aM_means, .ref aM_value, .ref aM_who, .int u1, .int (M_depth + 1), .int M_ordersRead, .int M_isSpring, .int M_itsSeat, .ref aM_now, .ref aM_kept, .ref aM_stack])), (aM_kind, .inl (cI, 401, .inl M_kind))] rfl rfl rfl (Nat.le_of_ble_eq_true rfl) rfl dX10_deeper_26 ?_
      refine q_iconst C (v := 1) dX10_deeper_29 (by decide) ?_
      exact hret 1 (u1, M_depth + 1) _ _ (Or.inr rfl) h dX10_deeper_30
    · refine q_iconst C (v := 0) dX10_deeper_17 (by decide) ?_
      exact hret 0 (u1, M_depth) _ _ (Or.inl rfl) h dX10_deeper_18
theorem cX10_deeper_ok (l : Launch) {D : gD} {cB cI cJ cZ : ClassId} {aM aM_kind aM_tape aQ aM_from aM_means aM_value aM_who aM_now aM_kept aM_stack : Nat} {M_thrown M_size M_errorAt M_token M_depth M_ordersRead M_isSpring M_itsSeat : Int32} {M_kind : Nat → Int32} {p0 : Int32} {K : Int32 → (Int32 × Int32) → Prop} (h : wX10_deeper M_kind M_token M_depth p0 K) : CtI l D (gT cB cI cJ cZ) yX10_deeper cX10_deeper 2 .boolean rmX10_deeper [.ref aM, .int p0] [(aM, .inr (9, [.int M_thrown, .ref aM_tape, .int M_size, .int M_errorAt, .ref aQ, .ref aM_kind, .ref aM_from, .ref aM_means, .ref aM_value, .ref aM_who, .int M_token, .int M_depth, .int M_ordersRead, .int M_isSpring, .int M_itsSeat, .ref aM_now, .ref aM_kept, .ref aM_stack])), (aM_kind, .inl (cI, 401, .inl M_kind))] (fun u : Int32 × Int32 => [(aM, .inr (9, [.int M_thrown, .ref aM_tape, .int M_size, .int M_errorAt, .ref aQ, .ref aM_kind, .ref aM_from, .ref aM_means, .ref aM_value, .ref aM_who, .int u.1, .int u.2, .int M_ordersRead, .int M_isSpring, .int M_itsSeat, .ref aM_now, .ref aM_kept, .ref aM_stack])), (aM_kind, .inl (cI, 401, .inl M_kind))]) (fun r u => (r = 0 ∨ r = 1) ∧ K r u) :=
  ct_startI (by decide +kernel) (Nat.le_of_ble_eq_true rfl) (fun E A Q hE C hret => bX10_deeper C (fun r u pc ls hb hk hd => hret r u pc ls (nar_bit hb) ⟨hb, hk⟩ hd) h)
abbrev rmX10_closes : Room := { frames := 1, cells := 0, slots := 0, locals := 21 }
def wX10_closes (M_kind : Nat → Int32) (M_token : Int32) (M_depth : Int32) (p0 : Int32) (K : Int32 → (Int32 × Int32) → Prop) : Prop :=
  wX10_eat M_kind M_token p0 (fun r1 u1 => ((¬ r1 = 0 → K 1 (u1, M_depth - 1)) ∧ (r1 = 0 → K 0 (u1, M_depth))))
set_option maxRecDepth 100000 in
set_option maxHeartbeats 4000000 in
theorem bX10_closes {D : gD} {cB cI cJ cZ : ClassId} {E : gE} {A : Nat → Prop} {Q : State → Prop} {aM aM_kind aM_tape aQ aM_from aM_means aM_value aM_who aM_now aM_kept aM_stack : Nat} {M_thrown M_size M_errorAt M_token M_depth M_ordersRead M_isSpring M_itsSeat : Int32} {M_kind : Nat → Int32} (C : Cx D (gT cB cI cJ cZ) E rmX10_closes cX10_closes 2 RX10 A) {p0 : Int32} {K : Int32 → (Int32 × Int32) → Prop} (hret : ∀ (r : Int32) (u : Int32 × Int32) (pc : Nat) (ls : List (Nat × Value)), (r = 0 ∨ r = 1) → K r u → decode cX10_closes pc = .ok (.ireturn, 1) → Go D E A Q 2 0 0 [(aM, .inr (9, [.int M_thrown, .ref aM_tape, .int M_size, .int M_errorAt, .ref aQ, .ref aM_kind, .ref aM_from, .ref aM_means, .ref aM_value, .ref aM_who, .int u.1, .int u.2, .int M_ordersRead, .int M_isSpring, .int M_itsSeat, .ref aM_now, .ref aM_kept, .ref aM_stack])), (aM_kind, .inl (cI, 401, .inl M_kind))] ls pc [.int r]) (h : wX10_closes M_kind M_token M_depth p0 K) : Go D E A Q 2 0 0 [(aM, .inr (9, [.int M_thrown, .ref aM_tape, .int M_size, .int M_errorAt, .ref aQ, .ref aM_kind, .ref aM_from, .ref aM_means, .ref aM_value, .ref aM_who, .int M_token, .int M_depth, .int M_ordersRead, .int M_isSpring, .int M_itsSeat, .ref aM_now, .ref aM_kept, .ref aM_stack])), (aM_kind, .inl (cI, 401, .inl M_kind))] [(0, .ref aM), (1, .int p0)] 0 [] := by
  unfold wX10_closes at h
  refine q_aload_n C dX10_closes_0 0 rfl ?_
  refine q_iload_n C dX10_closes_1 1 rfl ?_
  refine q_callVI C (cX10_eat_ok _ h) cf_X10_259 im_X10_eat se_X10_eat 9 rfl rfl rfl rfl ⟨Nat.le_of_ble_eq_true rfl, Nat.le_of_ble_eq_true rfl⟩ ⟨Nat.le_of_ble_eq_true rfl, Nat.le_of_ble_eq_true rfl⟩ 0 0 ⟨rfl, rfl⟩ [0, 1] [] (wr := []) rfl rfl rfl rfl (by decide) (fun u1 : Int32 => [(aM, .inr (9, [.int M_thrown, .ref aM_tape, .int M_size, .int M_errorAt, .ref aQ, .ref aM_kind, .ref aM_from, .ref aM_means, .ref aM_value, .ref aM_who, .int u1, .int M_depth, .int M_ordersRead, .int M_isSpring, .int M_itsSeat, .ref aM_now, .ref aM_kept, .ref aM_stack])), (aM_kind, .inl (cI, 401, .inl M_kind))]) [0, 1] rfl (fun _ => rfl) (rest := []) rfl (Nat.le_of_ble_eq_true rfl) dX10_closes_2 (fun r1 u1 h => ?_)
  obtain ⟨hb1, h⟩ := h
  refine q_if_ne C 10 dX10_closes_5 (by decide) h (fun h => ?_) (fun h => ?_)
  · refine q_aload_n C dX10_closes_10 0 rfl ?_
    refine q_dup C dX10_closes_11 rfl ?_
    refine q_get C inX10g rfl 11 (by decide) fl_X10_262 rfl 0 rfl rfl dX10_closes_12 ?_
    refine q_iconst C (v := 1) dX10_closes_15 (by decide) ?_
    refine q_isub C dX10_closes_16 ?_
    refine q_put C inX10g tyX10_ok nmX10 rfl 11 (by decide) fl_X10_262 rfl rfl (ty := .int) (by decide +kernel) 0 [(aM, .inr (9, [.int M_thrown, .ref aM_tape, .int M_size, .int M_errorAt, .ref aQ, .ref aM_kind, .ref aM_from, .ref aM_means, .ref aM_value, .ref aM_who, .int u1, .int (M_depth - 1), .int M_ordersRead, .int M_isSpring, .int M_itsSeat, .ref aM_now, .ref aM_kept, .ref aM_stack])), (aM_kind, .inl (cI, 401, .inl M_kind))] rfl rfl rfl (Nat.le_of_ble_eq_true rfl) rfl dX10_closes_17 ?_
    refine q_iconst C (v := 1) dX10_closes_20 (by decide) ?_
    exact hret 1 (u1, M_depth - 1) _ _ (Or.inr rfl) h dX10_closes_21
  · refine q_iconst C (v := 0) dX10_closes_8 (by decide) ?_
    exact hret 0 (u1, M_depth) _ _ (Or.inl rfl) h dX10_closes_9
theorem cX10_closes_ok (l : Launch) {D : gD} {cB cI cJ cZ : ClassId} {aM aM_kind aM_tape aQ aM_from aM_means aM_value aM_who aM_now aM_kept aM_stack : Nat} {M_thrown M_size M_errorAt M_token M_depth M_ordersRead M_isSpring M_itsSeat : Int32} {M_kind : Nat → Int32} {p0 : Int32} {K : Int32 → (Int32 × Int32) → Prop} (h : wX10_closes M_kind M_token M_depth p0 K) : CtI l D (gT cB cI cJ cZ) yX10_closes cX10_closes 2 .boolean rmX10_closes [.ref aM, .int p0] [(aM, .inr (9, [.int M_thrown, .ref aM_tape, .int M_size, .int M_errorAt, .ref aQ, .ref aM_kind, .ref aM_from, .ref aM_means, .ref aM_value, .ref aM_who, .int M_token, .int M_depth, .int M_ordersRead, .int M_isSpring, .int M_itsSeat, .ref aM_now, .ref aM_kept, .ref aM_stack])), (aM_kind, .inl (cI, 401, .inl M_kind))] (fun u : Int32 × Int32 => [(aM, .inr (9, [.int M_thrown, .ref aM_tape, .int M_size, .int M_errorAt, .ref aQ, .ref aM_kind, .ref aM_from, .ref aM_means, .ref aM_value, .ref aM_who, .int u.1, .int u.2, .int M_ordersRead, .int M_isSpring, .int M_itsSeat, .ref aM_now, .ref aM_kept, .ref aM_stack])), (aM_kind, .inl (cI, 401, .inl M_kind))]) (fun r u => (r = 0 ∨ r = 1) ∧ K r u) :=
  ct_startI (by decide +kernel) (Nat.le_of_ble_eq_true rfl) (fun E A Q hE C hret => bX10_closes C (fun r u pc ls hb hk hd => hret r u pc ls (nar_bit hb) ⟨hb, hk⟩ hd) h)
abbrev rmX10_put : Room := { frames := 0, cells := 0, slots := 0, locals := 0 }
def wX10_put (G_order : Nat → Int32) (G_with : Nat → Int32) (G_many : Int32) (p1 : Int32) (p2 : Int32) (K : ((Nat → Int32) × (Nat → Int32) × Int32) → Prop) : Prop :=
  vp_in G_many 800 ∧ (vp_in G_many 800 ∧ (K (upd G_order G_many.toNatClampNeg p1, upd G_with G_many.toNatClampNeg p2, G_many + 1)))
set_option maxRecDepth 100000 in
set_option maxHeartbeats 4000000 in
theorem bX10_put {D : gD} {cB cI cJ cZ : ClassId} {E : gE} {A : Nat → Prop} {Q : State → Prop} {aM aG aG_order aG_with aM_tape aQ aM_kind aM_from aM_means aM_value aM_who aM_now aM_kept aM_stack aG_empire aG_begin aG_end aG_isCoin aG_cushion aG_what aG_find aG_spring aG_does aG_begins aG_ends : Nat} {M_thrown M_size M_errorAt M_token M_depth M_ordersRead M_isSpring M_itsSeat G_seats G_strata G_empires G_finds G_orders G_many : Int32} {G_order G_with : Nat → Int32} (C : Cx D (gT cB cI cJ cZ) E rmX10_put cX10_put 4 RX10 A) {p1 : Int32} {p2 : Int32} {K : ((Nat → Int32) × (Nat → Int32) × Int32) → Prop} (hret : ∀ (u : (Nat → Int32) × (Nat → Int32) × Int32) (pc : Nat) (ls : List (Nat × Value)), K u → decode cX10_put pc = .ok (.return_, 1) → Go D E A Q 4 0 0 [(aM, .inr (9, [.int M_thrown, .ref aM_tape, .int M_size, .int M_errorAt, .ref aQ, .ref aM_kind, .ref aM_from, .ref aM_means, .ref aM_value, .ref aM_who, .int M_token, .int M_depth, .int M_ordersRead, .int M_isSpring, .int M_itsSeat, .ref aM_now, .ref aM_kept, .ref aM_stack])), (aG, .inr (8, [.int G_seats, .int G_strata, .int G_empires, .ref aG_empire, .ref aG_begin, .ref aG_end, .int G_finds, .ref aG_isCoin, .ref aG_cushion, .ref aG_what, .ref aG_find, .ref aG_spring, .int G_orders, .ref aG_does, .ref aG_begins, .ref aG_ends, .ref aG_order, .ref aG_with, .int u.2.2])), (aG_order, .inl (cI, 800, .inl u.1)), (aG_with, .inl (cI, 800, .inl u.2.1))] ls pc []) (h : wX10_put G_order G_with G_many p1 p2 K) : Go D E A Q 4 0 0 [(aM, .inr (9, [.int M_thrown, .ref aM_tape, .int M_size, .int M_errorAt, .ref aQ, .ref aM_kind, .ref aM_from, .ref aM_means, .ref aM_value, .ref aM_who, .int M_token, .int M_depth, .int M_ordersRead, .int M_isSpring, .int M_itsSeat, .ref aM_now, .ref aM_kept, .ref aM_stack])), (aG, .inr (8, [.int G_seats, .int G_strata, .int G_empires, .ref aG_empire, .ref aG_begin, .ref aG_end, .int G_finds, .ref aG_isCoin, .ref aG_cushion, .ref aG_what, .ref aG_find, .ref aG_spring, .int G_orders, .ref aG_does, .ref aG_begins, .ref aG_ends, .ref aG_order, .ref aG_with, .int G_many])), (aG_order, .inl (cI, 800, .inl G_order)), (aG_with, .inl (cI, 800, .inl G_with))] [(0, .ref aM), (1, .ref aG), (2, .int p1), (3, .int p2)] 0 [] := by
  unfold wX10_put at h
  refine q_aload_n C dX10_put_0 1 rfl ?_
  refine q_getN C inX9g rfl 16 (by decide) fl_X10_188 rfl 1 rfl rfl dX10_put_1 ?_
  refine q_aload_n C dX10_put_4 1 rfl ?_
  refine q_getN C inX9g rfl 18 (by decide) fl_X10_265 rfl 1 rfl rfl dX10_put_5 ?_
  refine q_iload_n C dX10_put_8 2 rfl ?_
  refine q_iast C 2 1 [(aM, .inr (9, [.int M_thrown, .ref aM_tape, .int M_size, .int M_errorAt, .ref aQ, .ref aM_kind, .ref aM_from, .ref aM_means, .ref aM_value, .ref aM_who, .int M_token, .int M_depth, .int M_ordersRead, .int M_isSpring, .int M_itsSeat, .ref aM_now, .ref aM_kept, .ref aM_stack])), (aG, .inr (8, [.int G_seats, .int G_strata, .int G_empires, .ref aG_empire, .ref aG_begin, .ref aG_end, .int G_finds, .ref aG_isCoin, .ref aG_cushion, .ref aG_what, .ref aG_find, .ref aG_spring, .int G_orders, .ref aG_does, .ref aG_begins, .ref aG_ends, .ref aG_order, .ref aG_with, .int G_many])), (aG_order, .inl (cI, 800, .inl (upd G_order G_many.toNatClampNeg p1))), (aG_with, .inl (cI, 800, .inl G_with))] rfl rfl rfl dX10_put_9 h (fun h => ?_)
  refine q_aload_n C dX10_put_10 1 rfl ?_
  refine q_getN C inX9g rfl 17 (by decide) fl_X10_194 rfl 1 rfl rfl dX10_put_11 ?_
  refine q_aload_n C dX10_put_14 1 rfl ?_
  refine q_getN C inX9g rfl 18 (by decide) fl_X10_265 rfl 1 rfl rfl dX10_put_15 ?_
  refine q_iload_n C dX10_put_18 3 rfl ?_
  refine q_iast C 3 1 [(aM, .inr (9, [.int M_thrown, .ref aM_tape, .int M_size, .int M_errorAt, .ref aQ, .ref aM_kind, .ref aM_from, .ref aM_means, .ref aM_value, .ref aM_who, .int M_token, .int M_depth, .int M_ordersRead, .int M_isSpring, .int M_itsSeat, .ref aM_now, .ref aM_kept, .ref aM_stack])), (aG, .inr (8, [.int G_seats, .int G_strata, .int G_empires, .ref aG_empire, .ref aG_begin, .ref aG_end, .int G_finds, .ref aG_isCoin, .ref aG_cushion, .ref aG_what, .ref aG_find, .ref aG_spring, .int G_orders, .ref aG_does, .ref aG_begins, .ref aG_ends, .ref aG_order, .ref aG_with, .int G_many])), (aG_order, .inl (cI, 800, .inl (upd G_order G_many.toNatClampNeg p1))), (aG_with, .inl (cI, 800, .inl (upd G_with G_many.toNatClampNeg p2)))] rfl rfl rfl dX10_put_19 h (fun h => ?_)
  refine q_aload_n C dX10_put_20 1 rfl ?_
  refine q_dup C dX10_put_21 rfl ?_
  refine q_getN C inX9g rfl 18 (by decide) fl_X10_265 rfl 1 rfl rfl dX10_put_22 ?_
  refine q_iconst C (v := 1) dX10_put_25 (by decide) ?_
  refine q_iadd C dX10_put_26 ?_
  refine q_putN C inX9g tyX9_ok nmX9 rfl 18 (by decide) fl_X10_265 rfl rfl (ty := .int) (by decide +kernel) 1 [(aM, .inr (9, [.int M_thrown, .ref aM_tape, .int M_size, .int M_errorAt, .ref aQ, .ref aM_kind, .ref aM_from, .ref aM_means, .ref aM_value, .ref aM_who, .int M_token, .int M_depth, .int M_ordersRead, .int M_isSpring, .int M_itsSeat, .ref aM_now, .ref aM_kept, .ref aM_stack])), (aG, .inr (8, [.int G_seats, .int G_strata, .int G_empires, .ref aG_empire, .ref aG_begin, .ref aG_end, .int G_finds, .ref aG_isCoin, .ref aG_cushion, .ref aG_what, .ref aG_find, .ref aG_spring, .int G_orders, .ref aG_does, .ref aG_begins, .ref aG_ends, .ref aG_order, .ref aG_with, .int (G_many + 1)])), (aG_order, .inl (cI, 800, .inl (upd G_order G_many.toNatClampNeg p1))), (aG_with, .inl (cI, 800, .inl (upd G_with G_many.toNatClampNeg p2)))] rfl rfl rfl (Nat.le_of_ble_eq_true rfl) rfl dX10_put_27 ?_
  exact hret (upd G_order G_many.toNatClampNeg p1, upd G_with G_many.toNatClampNeg p2, G_many + 1) _ _ h dX10_put_30
theorem cX10_put_ok (l : Launch) {D : gD} {cB cI cJ cZ : ClassId} {aM aG aG_order aG_with aM_tape aQ aM_kind aM_from aM_means aM_value aM_who aM_now aM_kept aM_stack aG_empire aG_begin aG_end aG_isCoin aG_cushion aG_what aG_find aG_spring aG_does aG_begins aG_ends : Nat} {M_thrown M_size M_errorAt M_token M_depth M_ordersRead M_isSpring M_itsSeat G_seats G_strata G_empires G_finds G_orders G_many : Int32} {G_order G_with : Nat → Int32} {p1 : Int32} {p2 : Int32} {K : ((Nat → Int32) × (Nat → Int32) × Int32) → Prop} (h : wX10_put G_order G_with G_many p1 p2 K) : CtV l D (gT cB cI cJ cZ) yX10_put cX10_put 4 rmX10_put [.ref aM, .ref aG, .int p1, .int p2] [(aM, .inr (9, [.int M_thrown, .ref aM_tape, .int M_size, .int M_errorAt, .ref aQ, .ref aM_kind, .ref aM_from, .ref aM_means, .ref aM_value, .ref aM_who, .int M_token, .int M_depth, .int M_ordersRead, .int M_isSpring, .int M_itsSeat, .ref aM_now, .ref aM_kept, .ref aM_stack])), (aG, .inr (8, [.int G_seats, .int G_strata, .int G_empires, .ref aG_empire, .ref aG_begin, .ref aG_end, .int G_finds, .ref aG_isCoin, .ref aG_cushion, .ref aG_what, .ref aG_find, .ref aG_spring, .int G_orders, .ref aG_does, .ref aG_begins, .ref aG_ends, .ref aG_order, .ref aG_with, .int G_many])), (aG_order, .inl (cI, 800, .inl G_order)), (aG_with, .inl (cI, 800, .inl G_with))] (fun u : (Nat → Int32) × (Nat → Int32) × Int32 => [(aM, .inr (9, [.int M_thrown, .ref aM_tape, .int M_size, .int M_errorAt, .ref aQ, .ref aM_kind, .ref aM_from, .ref aM_means, .ref aM_value, .ref aM_who, .int M_token, .int M_depth, .int M_ordersRead, .int M_isSpring, .int M_itsSeat, .ref aM_now, .ref aM_kept, .ref aM_stack])), (aG, .inr (8, [.int G_seats, .int G_strata, .int G_empires, .ref aG_empire, .ref aG_begin, .ref aG_end, .int G_finds, .ref aG_isCoin, .ref aG_cushion, .ref aG_what, .ref aG_find, .ref aG_spring, .int G_orders, .ref aG_does, .ref aG_begins, .ref aG_ends, .ref aG_order, .ref aG_with, .int u.2.2])), (aG_order, .inl (cI, 800, .inl u.1)), (aG_with, .inl (cI, 800, .inl u.2.1))]) K :=
  ct_startV (by decide +kernel) (Nat.le_of_ble_eq_true rfl) (fun E A Q hE C hret => bX10_put C hret h)
abbrev rmX10_isAbout : Room := { frames := 2, cells := 0, slots := 0, locals := 43 }
def wX10_isAbout_27 (K : Int32 → ((Nat → Int32) × Int32 × (Nat → Int32) × (Nat → Int32) × Int32) → Prop) (M_kind : Nat → Int32) (M_means : Nat → Int32) (M_token : Int32) (G_order : Nat → Int32) (G_with : Nat → Int32) (G_many : Int32) (x2 : Int32) : Prop :=
  wX10_put G_order G_with G_many x2 M_token (fun u1 => wX10_eatAs M_kind M_means M_token 30 12 (fun r2 u2 => K r2 (u2.1, u2.2, u1.1, u1.2.1, u1.2.2)))
set_option maxRecDepth 100000 in
set_option maxHeartbeats 4000000 in
theorem bX10_isAbout_27 {D : gD} {cB cI cJ cZ : ClassId} {E : gE} {A : Nat → Prop} {Q : State → Prop} {aM aM_kind aM_means aG aG_order aG_with aM_tape aQ aM_from aM_value aM_who aM_now aM_kept aM_stack aG_empire aG_begin aG_end aG_isCoin aG_cushion aG_what aG_find aG_spring aG_does aG_begins aG_ends : Nat} {M_thrown M_size M_errorAt M_depth M_ordersRead M_isSpring M_itsSeat G_seats G_strata G_empires G_finds G_orders : Int32} {M_kind : Nat → Int32} (C : Cx D (gT cB cI cJ cZ) E rmX10_isAbout cX10_isAbout 3 RX10 A) {K : Int32 → ((Nat → Int32) × Int32 × (Nat → Int32) × (Nat → Int32) × Int32) → Prop} (hret : ∀ (r : Int32) (u : (Nat → Int32) × Int32 × (Nat → Int32) × (Nat → Int32) × Int32) (pc : Nat) (ls : List (Nat × Value)), (r = 0 ∨ r = 1) → K r u → decode cX10_isAbout pc = .ok (.ireturn, 1) → Go D E A Q 3 0 0 [(aM, .inr (9, [.int M_thrown, .ref aM_tape, .int M_size, .int M_errorAt, .ref aQ, .ref aM_kind, .ref aM_from, .ref aM_means, .ref aM_value, .ref aM_who, .int u.2.1, .int M_depth, .int M_ordersRead, .int M_isSpring, .int M_itsSeat, .ref aM_now, .ref aM_kept, .ref aM_stack])), (aM_kind, .inl (cI, 401, .inl M_kind)), (aM_means, .inl (cI, 401, .inl u.1)), (aG, .inr (8, [.int G_seats, .int G_strata, .int G_empires, .ref aG_empire, .ref aG_begin, .ref aG_end, .int G_finds, .ref aG_isCoin, .ref aG_cushion, .ref aG_what, .ref aG_find, .ref aG_spring, .int G_orders, .ref aG_does, .ref aG_begins, .ref aG_ends, .ref aG_order, .ref aG_with, .int u.2.2.2.2])), (aG_order, .inl (cI, 800, .inl u.2.2.1)), (aG_with, .inl (cI, 800, .inl u.2.2.2.1))] ls pc [.int r]) : ∀ (M_means : Nat → Int32) (M_token : Int32) (G_order : Nat → Int32) (G_with : Nat → Int32) (G_many : Int32) (x2 : Int32), wX10_isAbout_27 K M_kind M_means M_token G_order G_with G_many x2 → Go D E A Q 3 0 0 [(aM, .inr (9, [.int M_thrown, .ref aM_tape, .int M_size, .int M_errorAt, .ref aQ, .ref aM_kind, .ref aM_from, .ref aM_means, .ref aM_value, .ref aM_who, .int M_token, .int M_depth, .int M_ordersRead, .int M_isSpring, .int M_itsSeat, .ref aM_now, .ref aM_kept, .ref aM_stack])), (aM_kind, .inl (cI, 401, .inl M_kind)), (aM_means, .inl (cI, 401, .inl M_means)), (aG, .inr (8, [.int G_seats, .int G_strata, .int G_empires, .ref aG_empire, .ref aG_begin, .ref aG_end, .int G_finds, .ref aG_isCoin, .ref aG_cushion, .ref aG_what, .ref aG_find, .ref aG_spring, .int G_orders, .ref aG_does, .ref aG_begins, .ref aG_ends, .ref aG_order, .ref aG_with, .int G_many])), (aG_order, .inl (cI, 800, .inl G_order)), (aG_with, .inl (cI, 800, .inl G_with))] [(0, .ref aM), (1, .ref aG), (2, .int x2)] 27 [] := by
  intro M_means M_token G_order G_with G_many x2 h
  unfold wX10_isAbout_27 at h
  refine q_aload_n C dX10_isAbout_27 0 rfl ?_
  refine q_aload_n C dX10_isAbout_28 1 rfl ?_
  refine q_iload_n C dX10_isAbout_29 2 rfl ?_
  refine q_aload_n C dX10_isAbout_30 0 rfl ?_
  refine q_get C inX10g rfl 10 (by decide) fl_X10_256 rfl 0 rfl rfl dX10_isAbout_31 ?_
  refine q_callVV C (cX10_put_ok _ h) cf_X10_268 im_X10_put se_X10_put 9 rfl rfl rfl rfl ⟨Nat.le_of_ble_eq_true rfl, Nat.le_of_ble_eq_true rfl⟩ ⟨Nat.le_of_ble_eq_true rfl, Nat.le_of_ble_eq_true rfl⟩ 0 0 ⟨rfl, rfl⟩ [0, 3, 4, 5] [1, 2] (wr := [(aM_kind, .inl (cI, 401, .inl M_kind)), (aM_means, .inl (cI, 401, .inl M_means))]) rfl rfl rfl rfl (by decide) (fun u1 : (Nat → Int32) × (Nat → Int32) × Int32 => [(aM, .inr (9, [.int M_thrown, .ref aM_tape, .int M_size, .int M_errorAt, .ref aQ, .ref aM_kind, .ref aM_from, .ref aM_means, .ref aM_value, .ref aM_who, .int M_token, .int M_depth, .int M_ordersRead, .int M_isSpring, .int M_itsSeat, .ref aM_now, .ref aM_kept, .ref aM_stack])), (aM_kind, .inl (cI, 401, .inl M_kind)), (aM_means, .inl (cI, 401, .inl M_means)), (aG, .inr (8, [.int G_seats, .int G_strata, .int G_empires, .ref aG_empire, .ref aG_begin, .ref aG_end, .int G_finds, .ref aG_isCoin, .ref aG_cushion, .ref aG_what, .ref aG_find, .ref aG_spring, .int G_orders, .ref aG_does, .ref aG_begins, .ref aG_ends, .ref aG_order, .ref aG_with, .int u1.2.2])), (aG_order, .inl (cI, 800, .inl u1.1)), (aG_with, .inl (cI, 800, .inl u1.2.1))]) [2, 0, 1, 3, 4, 5] rfl (fun _ => rfl) (rest := []) rfl (Nat.le_of_ble_eq_true rfl) dX10_isAbout_34 (fun u1 h => ?_)
  refine q_aload_n C dX10_isAbout_37 0 rfl ?_
  refine q_bipush C (v := 30) dX10_isAbout_38 (by decide) ?_
  refine q_bipush C (v := 12) dX10_isAbout_40 (by decide) ?_
  refine q_callVI C (cX10_eatAs_ok _ h) cf_X10_272 im_X10_eatAs se_X10_eatAs 9 rfl rfl rfl rfl ⟨Nat.le_of_ble_eq_true rfl, Nat.le_of_ble_eq_true rfl⟩ ⟨Nat.le_of_ble_eq_true rfl, Nat.le_of_ble_eq_true rfl⟩ 0 0 ⟨rfl, rfl⟩ [0, 1, 2] [3, 4, 5] (wr := [(aG, .inr (8, [.int G_seats, .int G_strata, .int G_empires, .ref aG_empire, .ref aG_begin, .ref aG_end, .int G_finds, .ref aG_isCoin, .ref aG_cushion, .ref aG_what, .ref aG_find, .ref aG_spring, .int G_orders, .ref aG_does, .ref aG_begins, .ref aG_ends, .ref aG_order, .ref aG_with, .int u1.2.2])), (aG_order, .inl (cI, 800, .inl u1.1)), (aG_with, .inl (cI, 800, .inl u1.2.1))]) rfl rfl rfl rfl (by decide) (fun u2 : (Nat → Int32) × Int32 => [(aM, .inr (9, [.int M_thrown, .ref aM_tape, .int M_size, .int M_errorAt, .ref aQ, .ref aM_kind, .ref aM_from, .ref aM_means, .ref aM_value, .ref aM_who, .int u2.2, .int M_depth, .int M_ordersRead, .int M_isSpring, .int M_itsSeat, .ref aM_now, .ref aM_kept, .ref aM_stack])), (aM_kind, .inl (cI, 401, .inl M_kind)), (aM_means, .inl (cI, 401, .inl u2.1)), (aG, .inr (8, [.int G_seats, .int G_strata, .int G_empires, .ref aG_empire, .ref aG_begin, .ref aG_end, .int G_finds, .ref aG_isCoin, .ref aG_cushion, .ref aG_what, .ref aG_find, .ref aG_spring, .int G_orders, .ref aG_does, .ref aG_begins, .ref aG_ends, .ref aG_order, .ref aG_with, .int u1.2.2])), (aG_order, .inl (cI, 800, .inl u1.1)), (aG_with, .inl (cI, 800, .inl u1.2.1))]) [3, 4, 5, 0, 1, 2] rfl (fun _ => rfl) (rest := []) rfl (Nat.le_of_ble_eq_true rfl) dX10_isAbout_42 (fun r2 u2 h => ?_)
  obtain ⟨hb2, h⟩ := h
  exact hret r2 (u2.1, u2.2, u1.1, u1.2.1, u1.2.2) _ _ hb2 h dX10_isAbout_45
def wX10_isAbout (M_kind : Nat → Int32) (M_means : Nat → Int32) (M_token : Int32) (G_order : Nat → Int32) (G_with : Nat → Int32) (G_many : Int32) (p1 : Int32) (K : Int32 → ((Nat → Int32) × Int32 × (Nat → Int32) × (Nat → Int32) × Int32) → Prop) : Prop :=
  ((p1 = 22 → wX10_isAbout_27 K M_kind M_means (M_token + 1) G_order G_with G_many p1) ∧ (¬ p1 = 22 → wX10_eat M_kind (M_token + 1) 10 (fun r1 u1 => ((¬ r1 = 0 → wX10_isAbout_27 K M_kind M_means u1 G_order G_with G_many p1) ∧ (r1 = 0 → K 0 (M_means, u1, G_order, G_with, G_many))))))
set_option maxRecDepth 100000 in
set_option maxHeartbeats 4000000 in
theorem bX10_isAbout {D : gD} {cB cI cJ cZ : ClassId} {E : gE} {A : Nat → Prop} {Q : State → Prop} {aM aM_kind aM_means aG aG_order aG_with aM_tape aQ aM_from aM_value aM_who aM_now aM_kept aM_stack aG_empire aG_begin aG_end aG_isCoin aG_cushion aG_what aG_find aG_spring aG_does aG_begins aG_ends : Nat} {M_thrown M_size M_errorAt M_token M_depth M_ordersRead M_isSpring M_itsSeat G_seats G_strata G_empires G_finds G_orders G_many : Int32} {M_kind M_means G_order G_with : Nat → Int32} (C : Cx D (gT cB cI cJ cZ) E rmX10_isAbout cX10_isAbout 3 RX10 A) {p1 : Int32} {K : Int32 → ((Nat → Int32) × Int32 × (Nat → Int32) × (Nat → Int32) × Int32) → Prop} (hret : ∀ (r : Int32) (u : (Nat → Int32) × Int32 × (Nat → Int32) × (Nat → Int32) × Int32) (pc : Nat) (ls : List (Nat × Value)), (r = 0 ∨ r = 1) → K r u → decode cX10_isAbout pc = .ok (.ireturn, 1) → Go D E A Q 3 0 0 [(aM, .inr (9, [.int M_thrown, .ref aM_tape, .int M_size, .int M_errorAt, .ref aQ, .ref aM_kind, .ref aM_from, .ref aM_means, .ref aM_value, .ref aM_who, .int u.2.1, .int M_depth, .int M_ordersRead, .int M_isSpring, .int M_itsSeat, .ref aM_now, .ref aM_kept, .ref aM_stack])), (aM_kind, .inl (cI, 401, .inl M_kind)), (aM_means, .inl (cI, 401, .inl u.1)), (aG, .inr (8, [.int G_seats, .int G_strata, .int G_empires, .ref aG_empire, .ref aG_begin, .ref aG_end, .int G_finds, .ref aG_isCoin, .ref aG_cushion, .ref aG_what, .ref aG_find, .ref aG_spring, .int G_orders, .ref aG_does, .ref aG_begins, .ref aG_ends, .ref aG_order, .ref aG_with, .int u.2.2.2.2])), (aG_order, .inl (cI, 800, .inl u.2.2.1)), (aG_with, .inl (cI, 800, .inl u.2.2.2.1))] ls pc [.int r]) (h : wX10_isAbout M_kind M_means M_token G_order G_with G_many p1 K) : Go D E A Q 3 0 0 [(aM, .inr (9, [.int M_thrown, .ref aM_tape, .int M_size, .int M_errorAt, .ref aQ, .ref aM_kind, .ref aM_from, .ref aM_means, .ref aM_value, .ref aM_who, .int M_token, .int M_depth, .int M_ordersRead, .int M_isSpring, .int M_itsSeat, .ref aM_now, .ref aM_kept, .ref aM_stack])), (aM_kind, .inl (cI, 401, .inl M_kind)), (aM_means, .inl (cI, 401, .inl M_means)), (aG, .inr (8, [.int G_seats, .int G_strata, .int G_empires, .ref aG_empire, .ref aG_begin, .ref aG_end, .int G_finds, .ref aG_isCoin, .ref aG_cushion, .ref aG_what, .ref aG_find, .ref aG_spring, .int G_orders, .ref aG_does, .ref aG_begins, .ref aG_ends, .ref aG_order, .ref aG_with, .int G_many])), (aG_order, .inl (cI, 800, .inl G_order)), (aG_with, .inl (cI, 800, .inl G_with))] [(0, .ref aM), (1, .ref aG), (2, .int p1)] 0 [] := by
  unfold wX10_isAbout at h
  refine q_aload_n C dX10_isAbout_0 0 rfl ?_
  refine q_dup C dX10_isAbout_1 rfl ?_
  refine q_get C inX10g rfl 10 (by decide) fl_X10_256 rfl 0 rfl rfl dX10_isAbout_2 ?_
  refine q_iconst C (v := 1) dX10_isAbout_5 (by decide) ?_
  refine q_iadd C dX10_isAbout_6 ?_
  refine q_put C inX10g tyX10_ok nmX10 rfl 10 (by decide) fl_X10_256 rfl rfl (ty := .int) (by decide +kernel) 0 [(aM, .inr (9, [.int M_thrown, .ref aM_tape, .int M_size, .int M_errorAt, .ref aQ, .ref aM_kind, .ref aM_from, .ref aM_means, .ref aM_value, .ref aM_who, .int (M_token + 1), .int M_depth, .int M_ordersRead, .int M_isSpring, .int M_itsSeat, .ref aM_now, .ref aM_kept, .ref aM_stack])), (aM_kind, .inl (cI, 401, .inl M_kind)), (aM_means, .inl (cI, 401, .inl M_means)), (aG, .inr (8, [.int G_seats, .int G_strata, .int G_empires, .ref aG_empire, .ref aG_begin, .ref aG_end, .int G_finds, .ref aG_isCoin, .ref aG_cushion, .ref aG_what, .ref aG_find, .ref aG_spring, .int G_orders, .ref aG_does, .ref aG_begins, .ref aG_ends, .ref aG_order, .ref aG_with, .int G_many])), (aG_order, .inl (cI, 800, .inl G_order)), (aG_with, .inl (cI, 800, .inl G_with))] rfl rfl rfl (Nat.le_of_ble_eq_true rfl) rfl dX10_isAbout_7 ?_
  refine q_iload_n C dX10_isAbout_10 2 rfl ?_
  refine q_bipush C (v := 22) dX10_isAbout_11 (by decide) ?_
  refine q_icmp_eq C 27 dX10_isAbout_13 (by decide) h (fun h => ?_) (fun h => ?_)
  · exact bX10_isAbout_27 C  hret  _ _ _ _ _ _ h
  · refine q_aload_n C dX10_isAbout_16 0 rfl ?_
    refine q_bipush C (v := 10) dX10_isAbout_17 (by decide) ?_
    refine q_callVI C (cX10_eat_ok _ h) cf_X10_259 im_X10_eat se_X10_eat 9 rfl rfl rfl rfl ⟨Nat.le_of_ble_eq_true rfl, Nat.le_of_ble_eq_true rfl⟩ ⟨Nat.le_of_ble_eq_true rfl, Nat.le_of_ble_eq_true rfl⟩ 0 0 ⟨rfl, rfl⟩ [0, 1] [2, 3, 4, 5] (wr := [(aM_means, .inl (cI, 401, .inl M_means)), (aG, .inr (8, [.int G_seats, .int G_strata, .int G_empires, .ref aG_empire, .ref aG_begin, .ref aG_end, .int G_finds, .ref aG_isCoin, .ref aG_cushion, .ref aG_what, .ref aG_find, .ref aG_spring, .int G_orders, .ref aG_does, .ref aG_begins, .ref aG_ends, .ref aG_order, .ref aG_with, .int G_many])), (aG_order, .inl (cI, 800, .inl G_order)), (aG_with, .inl (cI, 800, .inl G_with))]) rfl rfl rfl rfl (by decide) (fun u1 : Int32 => [(aM, .inr (9, [.int M_thrown, .ref aM_tape, .int M_size, .int M_errorAt, .ref aQ, .ref aM_kind, .ref aM_from, .ref aM_means, .ref aM_value, .ref aM_who, .int u1, .int M_depth, .int M_ordersRead, .int M_isSpring, .int M_itsSeat, .ref aM_now, .ref aM_kept, .ref aM_stack])), (aM_kind, .inl (cI, 401, .inl M_kind)), (aM_means, .inl (cI, 401, .inl M_means)), (aG, .inr (8, [.int G_seats, .int G_strata, .int G_empires, .ref aG_empire, .ref aG_begin, .ref aG_end, .int G_finds, .ref aG_isCoin, .ref aG_cushion, .ref aG_what, .ref aG_find, .ref aG_spring, .int G_orders, .ref aG_does, .ref aG_begins, .ref aG_ends, .ref aG_order, .ref aG_with, .int G_many])), (aG_order, .inl (cI, 800, .inl G_order)), (aG_with, .inl (cI, 800, .inl G_with))]) [4, 5, 0, 1, 2, 3] rfl (fun _ => rfl) (rest := []) rfl (Nat.le_of_ble_eq_true rfl) dX10_isAbout_19 (fun r1 u1 h => ?_)
    obtain ⟨hb1, h⟩ := h
    refine q_if_ne C 27 dX10_isAbout_22 (by decide) h (fun h => ?_) (fun h => ?_)
    · exact bX10_isAbout_27 C  hret  _ _ _ _ _ _ h
    · refine q_iconst C (v := 0) dX10_isAbout_25 (by decide) ?_
      exact hret 0 (M_means, u1, G_order, G_with, G_many) _ _ (Or.inl rfl) h dX10_isAbout_26
theorem cX10_isAbout_ok (l : Launch) {D : gD} {cB cI cJ cZ : ClassId} {aM aM_kind aM_means aG aG_order aG_with aM_tape aQ aM_from aM_value aM_who aM_now aM_kept aM_stack aG_empire aG_begin aG_end aG_isCoin aG_cushion aG_what aG_find aG_spring aG_does aG_begins aG_ends : Nat} {M_thrown M_size M_errorAt M_token M_depth M_ordersRead M_isSpring M_itsSeat G_seats G_strata G_empires G_finds G_orders G_many : Int32} {M_kind M_means G_order G_with : Nat → Int32} {p1 : Int32} {K : Int32 → ((Nat → Int32) × Int32 × (Nat → Int32) × (Nat → Int32) × Int32) → Prop} (h : wX10_isAbout M_kind M_means M_token G_order G_with G_many p1 K) : CtI l D (gT cB cI cJ cZ) yX10_isAbout cX10_isAbout 3 .boolean rmX10_isAbout [.ref aM, .ref aG, .int p1] [(aM, .inr (9, [.int M_thrown, .ref aM_tape, .int M_size, .int M_errorAt, .ref aQ, .ref aM_kind, .ref aM_from, .ref aM_means, .ref aM_value, .ref aM_who, .int M_token, .int M_depth, .int M_ordersRead, .int M_isSpring, .int M_itsSeat, .ref aM_now, .ref aM_kept, .ref aM_stack])), (aM_kind, .inl (cI, 401, .inl M_kind)), (aM_means, .inl (cI, 401, .inl M_means)), (aG, .inr (8, [.int G_seats, .int G_strata, .int G_empires, .ref aG_empire, .ref aG_begin, .ref aG_end, .int G_finds, .ref aG_isCoin, .ref aG_cushion, .ref aG_what, .ref aG_find, .ref aG_spring, .int G_orders, .ref aG_does, .ref aG_begins, .ref aG_ends, .ref aG_order, .ref aG_with, .int G_many])), (aG_order, .inl (cI, 800, .inl G_order)), (aG_with, .inl (cI, 800, .inl G_with))] (fun u : (Nat → Int32) × Int32 × (Nat → Int32) × (Nat → Int32) × Int32 => [(aM, .inr (9, [.int M_thrown, .ref aM_tape, .int M_size, .int M_errorAt, .ref aQ, .ref aM_kind, .ref aM_from, .ref aM_means, .ref aM_value, .ref aM_who, .int u.2.1, .int M_depth, .int M_ordersRead, .int M_isSpring, .int M_itsSeat, .ref aM_now, .ref aM_kept, .ref aM_stack])), (aM_kind, .inl (cI, 401, .inl M_kind)), (aM_means, .inl (cI, 401, .inl u.1)), (aG, .inr (8, [.int G_seats, .int G_strata, .int G_empires, .ref aG_empire, .ref aG_begin, .ref aG_end, .int G_finds, .ref aG_isCoin, .ref aG_cushion, .ref aG_what, .ref aG_find, .ref aG_spring, .int G_orders, .ref aG_does, .ref aG_begins, .ref aG_ends, .ref aG_order, .ref aG_with, .int u.2.2.2.2])), (aG_order, .inl (cI, 800, .inl u.2.2.1)), (aG_with, .inl (cI, 800, .inl u.2.2.2.1))]) (fun r u => (r = 0 ∨ r = 1) ∧ K r u) :=
  ct_startI (by decide +kernel) (Nat.le_of_ble_eq_true rfl) (fun E A Q hE C hret => bX10_isAbout C (fun r u pc ls hb hk hd => hret r u pc ls (nar_bit hb) ⟨hb, hk⟩ hd) h)
