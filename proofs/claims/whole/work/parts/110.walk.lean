abbrev rmX10_turned : Room := { frames := 2, cells := 0, slots := 0, locals := 43 }
def wX10_turned_80 (K : Int32 → Unit → Prop) (M_now : Nat → Int32) (Q_seats : Int32) (Q_finds : Int32) (z0 : Int32) : Prop :=
  wX10_one z0 (fun r1 u1 => K r1 ())
set_option maxRecDepth 100000 in
set_option maxHeartbeats 4000000 in
theorem bX10_turned_80 {D : gD} {cB cI cJ cZ : ClassId} {E : gE} {A : Nat → Prop} {Q : State → Prop} {aM aM_now aQ aM_tape aM_kind aM_from aM_means aM_value aM_who aM_kept aM_stack aQ_empire aQ_begin aQ_end aQ_isCoin aQ_cushion aQ_what aQ_find aQ_spring aQ_does aQ_begins aQ_ends aQ_order aQ_with : Nat} {M_thrown M_size M_errorAt M_token M_depth M_ordersRead M_isSpring M_itsSeat Q_seats Q_strata Q_empires Q_finds Q_orders Q_many : Int32} {M_now : Nat → Int32} (C : Cx D (gT cB cI cJ cZ) E rmX10_turned cX10_turned 3 RX10 A) {K : Int32 → Unit → Prop} (hret : ∀ (r : Int32) (u : Unit) (pc : Nat) (ls : List (Nat × Value)), K r u → decode cX10_turned pc = .ok (.ireturn, 1) → Go D E A Q 3 0 0 [(aM, .inr (9, [.int M_thrown, .ref aM_tape, .int M_size, .int M_errorAt, .ref aQ, .ref aM_kind, .ref aM_from, .ref aM_means, .ref aM_value, .ref aM_who, .int M_token, .int M_depth, .int M_ordersRead, .int M_isSpring, .int M_itsSeat, .ref aM_now, .ref aM_kept, .ref aM_stack])), (aM_now, .inl (cI, 197, .inl M_now)), (aQ, .inr (8, [.int Q_seats, .int Q_strata, .int Q_empires, .ref aQ_empire, .ref aQ_begin, .ref aQ_end, .int Q_finds, .ref aQ_isCoin, .ref aQ_cushion, .ref aQ_what, .ref aQ_find, .ref aQ_spring, .int Q_orders, .ref aQ_does, .ref aQ_begins, .ref aQ_ends, .ref aQ_order, .ref aQ_with, .int Q_many]))] ls pc [.int r]) : ∀ (z0 : Int32), wX10_turned_80 K M_now Q_seats Q_finds z0 → Go D E A Q 3 0 0 [(aM, .inr (9, [.int M_thrown, .ref aM_tape, .int M_size, .int M_errorAt, .ref aQ, .ref aM_kind, .ref aM_from, .ref aM_means, .ref aM_value, .ref aM_who, .int M_token, .int M_depth, .int M_ordersRead, .int M_isSpring, .int M_itsSeat, .ref aM_now, .ref aM_kept, .ref aM_stack])), (aM_now, .inl (cI, 197, .inl M_now)), (aQ, .inr (8, [.int Q_seats, .int Q_strata, .int Q_empires, .ref aQ_empire, .ref aQ_begin, .ref aQ_end, .int Q_finds, .ref aQ_isCoin, .ref aQ_cushion, .ref aQ_what, .ref aQ_find, .ref aQ_spring, .int Q_orders, .ref aQ_does, .ref aQ_begins, .ref aQ_ends, .ref aQ_order, .ref aQ_with, .int Q_many]))] [] 80 [.int z0] := by
  intro z0 h
  unfold wX10_turned_80 at h
  refine q_callSI C (cX10_one_ok _ h) cf_X10_106 st_X10_one rfl ⟨Nat.le_of_ble_eq_true rfl, Nat.le_of_ble_eq_true rfl⟩ ⟨Nat.le_of_ble_eq_true rfl, Nat.le_of_ble_eq_true rfl⟩ 0 0 ⟨rfl, rfl⟩ [] [0, 1, 2] (wr := [(aM, .inr (9, [.int M_thrown, .ref aM_tape, .int M_size, .int M_errorAt, .ref aQ, .ref aM_kind, .ref aM_from, .ref aM_means, .ref aM_value, .ref aM_who, .int M_token, .int M_depth, .int M_ordersRead, .int M_isSpring, .int M_itsSeat, .ref aM_now, .ref aM_kept, .ref aM_stack])), (aM_now, .inl (cI, 197, .inl M_now)), (aQ, .inr (8, [.int Q_seats, .int Q_strata, .int Q_empires, .ref aQ_empire, .ref aQ_begin, .ref aQ_end, .int Q_finds, .ref aQ_isCoin, .ref aQ_cushion, .ref aQ_what, .ref aQ_find, .ref aQ_spring, .int Q_orders, .ref aQ_does, .ref aQ_begins, .ref aQ_ends, .ref aQ_order, .ref aQ_with, .int Q_many]))]) rfl rfl rfl rfl (by decide) (fun u1 : Unit => [(aM, .inr (9, [.int M_thrown, .ref aM_tape, .int M_size, .int M_errorAt, .ref aQ, .ref aM_kind, .ref aM_from, .ref aM_means, .ref aM_value, .ref aM_who, .int M_token, .int M_depth, .int M_ordersRead, .int M_isSpring, .int M_itsSeat, .ref aM_now, .ref aM_kept, .ref aM_stack])), (aM_now, .inl (cI, 197, .inl M_now)), (aQ, .inr (8, [.int Q_seats, .int Q_strata, .int Q_empires, .ref aQ_empire, .ref aQ_begin, .ref aQ_end, .int Q_finds, .ref aQ_isCoin, .ref aQ_cushion, .ref aQ_what, .ref aQ_find, .ref aQ_spring, .int Q_orders, .ref aQ_does, .ref aQ_begins, .ref aQ_ends, .ref aQ_order, .ref aQ_with, .int Q_many]))]) [0, 1, 2] rfl (fun _ => rfl) (rest := []) rfl (Nat.le_of_ble_eq_true rfl) dX10_turned_80 (fun r1 u1 h => ?_)
  exact hret r1 () _ _ h dX10_turned_83
def wX10_turned_79 (K : Int32 → Unit → Prop) (M_now : Nat → Int32) (Q_seats : Int32) (Q_finds : Int32) : Prop :=
  wX10_turned_80 K M_now Q_seats Q_finds 0
set_option maxRecDepth 100000 in
set_option maxHeartbeats 4000000 in
theorem bX10_turned_79 {D : gD} {cB cI cJ cZ : ClassId} {E : gE} {A : Nat → Prop} {Q : State → Prop} {aM aM_now aQ aM_tape aM_kind aM_from aM_means aM_value aM_who aM_kept aM_stack aQ_empire aQ_begin aQ_end aQ_isCoin aQ_cushion aQ_what aQ_find aQ_spring aQ_does aQ_begins aQ_ends aQ_order aQ_with : Nat} {M_thrown M_size M_errorAt M_token M_depth M_ordersRead M_isSpring M_itsSeat Q_seats Q_strata Q_empires Q_finds Q_orders Q_many : Int32} {M_now : Nat → Int32} (C : Cx D (gT cB cI cJ cZ) E rmX10_turned cX10_turned 3 RX10 A) {K : Int32 → Unit → Prop} (hret : ∀ (r : Int32) (u : Unit) (pc : Nat) (ls : List (Nat × Value)), K r u → decode cX10_turned pc = .ok (.ireturn, 1) → Go D E A Q 3 0 0 [(aM, .inr (9, [.int M_thrown, .ref aM_tape, .int M_size, .int M_errorAt, .ref aQ, .ref aM_kind, .ref aM_from, .ref aM_means, .ref aM_value, .ref aM_who, .int M_token, .int M_depth, .int M_ordersRead, .int M_isSpring, .int M_itsSeat, .ref aM_now, .ref aM_kept, .ref aM_stack])), (aM_now, .inl (cI, 197, .inl M_now)), (aQ, .inr (8, [.int Q_seats, .int Q_strata, .int Q_empires, .ref aQ_empire, .ref aQ_begin, .ref aQ_end, .int Q_finds, .ref aQ_isCoin, .ref aQ_cushion, .ref aQ_what, .ref aQ_find, .ref aQ_spring, .int Q_orders, .ref aQ_does, .ref aQ_begins, .ref aQ_ends, .ref aQ_order, .ref aQ_with, .int Q_many]))] ls pc [.int r]) : wX10_turned_79 K M_now Q_seats Q_finds  → Go D E A Q 3 0 0 [(aM, .inr (9, [.int M_thrown, .ref aM_tape, .int M_size, .int M_errorAt, .ref aQ, .ref aM_kind, .ref aM_from, .ref aM_means, .ref aM_value, .ref aM_who, .int M_token, .int M_depth, .int M_ordersRead, .int M_isSpring, .int M_itsSeat, .ref aM_now, .ref aM_kept, .ref aM_stack])), (aM_now, .inl (cI, 197, .inl M_now)), (aQ, .inr (8, [.int Q_seats, .int Q_strata, .int Q_empires, .ref aQ_empire, .ref aQ_begin, .ref aQ_end, .int Q_finds, .ref aQ_isCoin, .ref aQ_cushion, .ref aQ_what, .ref aQ_find, .ref aQ_spring, .int Q_orders, .ref aQ_does, .ref aQ_begins, .ref aQ_ends, .ref aQ_order, .ref aQ_with, .int Q_many]))] [] 79 [] := by
  intro  h
  unfold wX10_turned_79 at h
  refine q_iconst C (v := 0) dX10_turned_79 (by decide) ?_
  exact bX10_turned_80 C  hret  _ h
def wX10_turned (M_now : Nat → Int32) (Q_seats : Int32) (Q_finds : Int32) (p0 : Int32) (p1 : Int32) (K : Int32 → Unit → Prop) : Prop :=
  ((p0 = 21 → wJ9_floorMod_7cf53 p1 Q_seats (fun r1 u1 => wX10_tall M_now r1 (fun r2 u2 => K r2 ()))) ∧ (p0 = 24 → K (1 - p1) ()) ∧ (p0 = 105 → K (-p1) ()) ∧ (¬ p0 = 21 → ¬ p0 = 24 → ¬ p0 = 105 → wX10_isFind Q_finds p1 (fun r3 u3 => ((r3 = 0 → wX10_turned_79 K M_now Q_seats Q_finds ) ∧ (¬ r3 = 0 → wX10_sure M_now p1 (fun r4 u4 => ((r4 = 0 → wX10_turned_79 K M_now Q_seats Q_finds ) ∧ (¬ r4 = 0 → wX10_turned_80 K M_now Q_seats Q_finds 1))))))))
set_option maxRecDepth 100000 in
set_option maxHeartbeats 4000000 in
theorem bX10_turned {D : gD} {cB cI cJ cZ : ClassId} {E : gE} {A : Nat → Prop} {Q : State → Prop} {aM aM_now aQ aM_tape aM_kind aM_from aM_means aM_value aM_who aM_kept aM_stack aQ_empire aQ_begin aQ_end aQ_isCoin aQ_cushion aQ_what aQ_find aQ_spring aQ_does aQ_begins aQ_ends aQ_order aQ_with : Nat} {M_thrown M_size M_errorAt M_token M_depth M_ordersRead M_isSpring M_itsSeat Q_seats Q_strata Q_empires Q_finds Q_orders Q_many : Int32} {M_now : Nat → Int32} (C : Cx D (gT cB cI cJ cZ) E rmX10_turned cX10_turned 3 RX10 A) {p0 : Int32} {p1 : Int32} {K : Int32 → Unit → Prop} (hret : ∀ (r : Int32) (u : Unit) (pc : Nat) (ls : List (Nat × Value)), K r u → decode cX10_turned pc = .ok (.ireturn, 1) → Go D E A Q 3 0 0 [(aM, .inr (9, [.int M_thrown, .ref aM_tape, .int M_size, .int M_errorAt, .ref aQ, .ref aM_kind, .ref aM_from, .ref aM_means, .ref aM_value, .ref aM_who, .int M_token, .int M_depth, .int M_ordersRead, .int M_isSpring, .int M_itsSeat, .ref aM_now, .ref aM_kept, .ref aM_stack])), (aM_now, .inl (cI, 197, .inl M_now)), (aQ, .inr (8, [.int Q_seats, .int Q_strata, .int Q_empires, .ref aQ_empire, .ref aQ_begin, .ref aQ_end, .int Q_finds, .ref aQ_isCoin, .ref aQ_cushion, .ref aQ_what, .ref aQ_find, .ref aQ_spring, .int Q_orders, .ref aQ_does, .ref aQ_begins, .ref aQ_ends, .ref aQ_order, .ref aQ_with, .int Q_many]))] ls pc [.int r]) (h : wX10_turned M_now Q_seats Q_finds p0 p1 K) : Go D E A Q 3 0 0 [(aM, .inr (9, [.int M_thrown, .ref aM_tape, .int M_size, .int M_errorAt, .ref aQ, .ref aM_kind, .ref aM_from, .ref aM_means, .ref aM_value, .ref aM_who, .int M_token, .int M_depth, .int M_ordersRead, .int M_isSpring, .int M_itsSeat, .ref aM_now, .ref aM_kept, .ref aM_stack])), (aM_now, .inl (cI, 197, .inl M_now)), (aQ, .inr (8, [.int Q_seats, .int Q_strata, .int Q_empires, .ref aQ_empire, .ref aQ_begin, .ref aQ_end, .int Q_finds, .ref aQ_isCoin, .ref aQ_cushion, .ref aQ_what, .ref aQ_find, .ref aQ_spring, .int Q_orders, .ref aQ_does, .ref aQ_begins, .ref aQ_ends, .ref aQ_order, .ref aQ_with, .int Q_many]))] [(0, .ref aM), (1, .int p0), (2, .int p1)] 0 [] := by
  unfold wX10_turned at h
  refine q_iload_n C dX10_turned_0 1 rfl ?_
  by_cases hq : p0 = 21
  · replace h := h.1 hq
    refine q_lookK (off := 42) C 21 43 hq dX10_turned_1 (by decide) (by decide) (by decide) ?_
    refine q_aload_n C dX10_turned_43 0 rfl ?_
    refine q_iload_n C dX10_turned_44 2 rfl ?_
    refine q_aload_n C dX10_turned_45 0 rfl ?_
    refine q_get C inX10g rfl 4 (by decide) fl_X10_20 rfl 0 rfl rfl dX10_turned_46 ?_
    refine q_getN C inX9g rfl 0 (by decide) fl_X10_52 rfl 2 rfl rfl dX10_turned_49 ?_
    refine q_callSI C (cJ9_floorMod_7cf53_ok _ h) cf_X10_151 st_J9_floorMod_7cf53 rfl ⟨Nat.le_of_ble_eq_true rfl, Nat.le_of_ble_eq_true rfl⟩ ⟨Nat.le_of_ble_eq_true rfl, Nat.le_of_ble_eq_true rfl⟩ 0 0 ⟨rfl, rfl⟩ [] [0, 1, 2] (wr := [(aM, .inr (9, [.int M_thrown, .ref aM_tape, .int M_size, .int M_errorAt, .ref aQ, .ref aM_kind, .ref aM_from, .ref aM_means, .ref aM_value, .ref aM_who, .int M_token, .int M_depth, .int M_ordersRead, .int M_isSpring, .int M_itsSeat, .ref aM_now, .ref aM_kept, .ref aM_stack])), (aM_now, .inl (cI, 197, .inl M_now)), (aQ, .inr (8, [.int Q_seats, .int Q_strata, .int Q_empires, .ref aQ_empire, .ref aQ_begin, .ref aQ_end, .int Q_finds, .ref aQ_isCoin, .ref aQ_cushion, .ref aQ_what, .ref aQ_find, .ref aQ_spring, .int Q_orders, .ref aQ_does, .ref aQ_begins, .ref aQ_ends, .ref aQ_order, .ref aQ_with, .int Q_many]))]) rfl rfl rfl rfl (by decide) (fun u1 : Unit => [(aM, .inr (9, [.int M_thrown, .ref aM_tape, .int M_size, .int M_errorAt, .ref aQ, .ref aM_kind, .ref aM_from, .ref aM_means, .ref aM_value, .ref aM_who, .int M_token, .int M_depth, .int M_ordersRead, .int M_isSpring, .int M_itsSeat, .ref aM_now, .ref aM_kept, .ref aM_stack])), (aM_now, .inl (cI, 197, .inl M_now)), (aQ, .inr (8, [.int Q_seats, .int Q_strata, .int Q_empires, .ref aQ_empire, .ref aQ_begin, .ref aQ_end, .int Q_finds, .ref aQ_isCoin, .ref aQ_cushion, .ref aQ_what, .ref aQ_find, .ref aQ_spring, .int Q_orders, .ref aQ_does, .ref aQ_begins, .ref aQ_ends, .ref aQ_order, .ref aQ_with, .int Q_many]))]) [0, 1, 2] rfl (fun _ => rfl) (rest := [.ref aM]) rfl (Nat.le_of_ble_eq_true rfl) dX10_turned_52 (fun r1 u1 h => ?_)
    refine q_callVI C (cX10_tall_ok _ h) cf_X10_74 im_X10_tall se_X10_tall 9 rfl rfl rfl rfl ⟨Nat.le_of_ble_eq_true rfl, Nat.le_of_ble_eq_true rfl⟩ ⟨Nat.le_of_ble_eq_true rfl, Nat.le_of_ble_eq_true rfl⟩ 0 0 ⟨rfl, rfl⟩ [0, 1] [2] (wr := [(aQ, .inr (8, [.int Q_seats, .int Q_strata, .int Q_empires, .ref aQ_empire, .ref aQ_begin, .ref aQ_end, .int Q_finds, .ref aQ_isCoin, .ref aQ_cushion, .ref aQ_what, .ref aQ_find, .ref aQ_spring, .int Q_orders, .ref aQ_does, .ref aQ_begins, .ref aQ_ends, .ref aQ_order, .ref aQ_with, .int Q_many]))]) rfl rfl rfl rfl (by decide) (fun u2 : Unit => [(aM, .inr (9, [.int M_thrown, .ref aM_tape, .int M_size, .int M_errorAt, .ref aQ, .ref aM_kind, .ref aM_from, .ref aM_means, .ref aM_value, .ref aM_who, .int M_token, .int M_depth, .int M_ordersRead, .int M_isSpring, .int M_itsSeat, .ref aM_now, .ref aM_kept, .ref aM_stack])), (aM_now, .inl (cI, 197, .inl M_now)), (aQ, .inr (8, [.int Q_seats, .int Q_strata, .int Q_empires, .ref aQ_empire, .ref aQ_begin, .ref aQ_end, .int Q_finds, .ref aQ_isCoin, .ref aQ_cushion, .ref aQ_what, .ref aQ_find, .ref aQ_spring, .int Q_orders, .ref aQ_does, .ref aQ_begins, .ref aQ_ends, .ref aQ_order, .ref aQ_with, .int Q_many]))]) [1, 2, 0] rfl (fun _ => rfl) (rest := []) rfl (Nat.le_of_ble_eq_true rfl) dX10_turned_55 (fun r2 u2 h => ?_)
    exact hret r2 () _ _ h dX10_turned_58
  · have hn0 := hq
    by_cases hq : p0 = 24
    · replace h := h.2.1 hq
      refine q_lookK (off := 38) C 24 39 hq dX10_turned_1 (by decide) (by decide) (by decide) ?_
      refine q_iconst C (v := 1) dX10_turned_39 (by decide) ?_
      refine q_iload_n C dX10_turned_40 2 rfl ?_
      refine q_isub C dX10_turned_41 ?_
      exact hret (1 - p1) () _ _ h dX10_turned_42
    · have hn1 := hq
      by_cases hq : p0 = 105
      · replace h := h.2.2.1 hq
        refine q_lookK (off := 35) C 105 36 hq dX10_turned_1 (by decide) (by decide) (by decide) ?_
        refine q_iload_n C dX10_turned_36 2 rfl ?_
        refine q_ineg C dX10_turned_37 ?_
        exact hret (-p1) () _ _ h dX10_turned_38
      · have hn2 := hq
        replace h := h.2.2.2 hn0 hn1 hn2
        refine q_lookD C [21, 24, 105] 59 (sw_cons (sw_ne hn0 (by decide)) (sw_cons (sw_ne hn1 (by decide)) (sw_cons (sw_ne hn2 (by decide)) sw_nil))) dX10_turned_1 (by decide) (by decide) (by decide) ?_
        refine q_aload_n C dX10_turned_59 0 rfl ?_
        refine q_iload_n C dX10_turned_60 2 rfl ?_
        refine q_callVI C (cX10_isFind_ok _ h) cf_X10_176 im_X10_isFind se_X10_isFind 9 rfl rfl rfl rfl ⟨Nat.le_of_ble_eq_true rfl, Nat.le_of_ble_eq_true rfl⟩ ⟨Nat.le_of_ble_eq_true rfl, Nat.le_of_ble_eq_true rfl⟩ 0 0 ⟨rfl, rfl⟩ [0, 2] [1] (wr := [(aM_now, .inl (cI, 197, .inl M_now))]) rfl rfl rfl rfl (by decide) (fun u3 : Unit => [(aM, .inr (9, [.int M_thrown, .ref aM_tape, .int M_size, .int M_errorAt, .ref aQ, .ref aM_kind, .ref aM_from, .ref aM_means, .ref aM_value, .ref aM_who, .int M_token, .int M_depth, .int M_ordersRead, .int M_isSpring, .int M_itsSeat, .ref aM_now, .ref aM_kept, .ref aM_stack])), (aM_now, .inl (cI, 197, .inl M_now)), (aQ, .inr (8, [.int Q_seats, .int Q_strata, .int Q_empires, .ref aQ_empire, .ref aQ_begin, .ref aQ_end, .int Q_finds, .ref aQ_isCoin, .ref aQ_cushion, .ref aQ_what, .ref aQ_find, .ref aQ_spring, .int Q_orders, .ref aQ_does, .ref aQ_begins, .ref aQ_ends, .ref aQ_order, .ref aQ_with, .int Q_many]))]) [1, 0, 2] rfl (fun _ => rfl) (rest := []) rfl (Nat.le_of_ble_eq_true rfl) dX10_turned_61 (fun r3 u3 h => ?_)
        obtain ⟨hb3, h⟩ := h
        refine q_if_eq C 79 dX10_turned_64 (by decide) h (fun h => ?_) (fun h => ?_)
        · refine q_ls [] [] rfl ?_
          exact bX10_turned_79 C  hret   h
        · refine q_aload_n C dX10_turned_67 0 rfl ?_
          refine q_iload_n C dX10_turned_68 2 rfl ?_
          refine q_callVI C (cX10_sure_ok _ h) cf_X10_113 im_X10_sure se_X10_sure 9 rfl rfl rfl rfl ⟨Nat.le_of_ble_eq_true rfl, Nat.le_of_ble_eq_true rfl⟩ ⟨Nat.le_of_ble_eq_true rfl, Nat.le_of_ble_eq_true rfl⟩ 0 0 ⟨rfl, rfl⟩ [0, 1] [2] (wr := [(aQ, .inr (8, [.int Q_seats, .int Q_strata, .int Q_empires, .ref aQ_empire, .ref aQ_begin, .ref aQ_end, .int Q_finds, .ref aQ_isCoin, .ref aQ_cushion, .ref aQ_what, .ref aQ_find, .ref aQ_spring, .int Q_orders, .ref aQ_does, .ref aQ_begins, .ref aQ_ends, .ref aQ_order, .ref aQ_with, .int Q_many]))]) rfl rfl rfl rfl (by decide) (fun u4 : Unit => [(aM, .inr (9, [.int M_thrown, .ref aM_tape, .int M_size, .int M_errorAt, .ref aQ, .ref aM_kind, .ref aM_from, .ref aM_means, .ref aM_value, .ref aM_who, .int M_token, .int M_depth, .int M_ordersRead, .int M_isSpring, .int M_itsSeat, .ref aM_now, .ref aM_kept, .ref aM_stack])), (aM_now, .inl (cI, 197, .inl M_now)), (aQ, .inr (8, [.int Q_seats, .int Q_strata, .int Q_empires, .ref aQ_empire, .ref aQ_begin, .ref aQ_end, .int Q_finds, .ref aQ_isCoin, .ref aQ_cushion, .ref aQ_what, .ref aQ_find, .ref aQ_spring, .int Q_orders, .ref aQ_does, .ref aQ_begins, .ref aQ_ends, .ref aQ_order, .ref aQ_with, .int Q_many]))]) [1, 2, 0] rfl (fun _ => rfl) (rest := []) rfl (Nat.le_of_ble_eq_true rfl) dX10_turned_69 (fun r4 u4 h => ?_)
          obtain ⟨hb4, h⟩ := h
          refine q_if_eq C 79 dX10_turned_72 (by decide) h (fun h => ?_) (fun h => ?_)
          · refine q_ls [] [] rfl ?_
            exact bX10_turned_79 C  hret   h
          · refine q_iconst C (v := 1) dX10_turned_75 (by decide) ?_
            refine q_goto (tgt := 80) C dX10_turned_76 (by decide) ?_
            refine q_ls [] [] rfl ?_
            exact bX10_turned_80 C  hret  _ h
theorem cX10_turned_ok (l : Launch) {D : gD} {cB cI cJ cZ : ClassId} {aM aM_now aQ aM_tape aM_kind aM_from aM_means aM_value aM_who aM_kept aM_stack aQ_empire aQ_begin aQ_end aQ_isCoin aQ_cushion aQ_what aQ_find aQ_spring aQ_does aQ_begins aQ_ends aQ_order aQ_with : Nat} {M_thrown M_size M_errorAt M_token M_depth M_ordersRead M_isSpring M_itsSeat Q_seats Q_strata Q_empires Q_finds Q_orders Q_many : Int32} {M_now : Nat → Int32} {p0 : Int32} {p1 : Int32} {K : Int32 → Unit → Prop} (h : wX10_turned M_now Q_seats Q_finds p0 p1 K) : CtI l D (gT cB cI cJ cZ) yX10_turned cX10_turned 3 .int rmX10_turned [.ref aM, .int p0, .int p1] [(aM, .inr (9, [.int M_thrown, .ref aM_tape, .int M_size, .int M_errorAt, .ref aQ, .ref aM_kind, .ref aM_from, .ref aM_means, .ref aM_value, .ref aM_who, .int M_token, .int M_depth, .int M_ordersRead, .int M_isSpring, .int M_itsSeat, .ref aM_now, .ref aM_kept, .ref aM_stack])), (aM_now, .inl (cI, 197, .inl M_now)), (aQ, .inr (8, [.int Q_seats, .int Q_strata, .int Q_empires, .ref aQ_empire, .ref aQ_begin, .ref aQ_end, .int Q_finds, .ref aQ_isCoin, .ref aQ_cushion, .ref aQ_what, .ref aQ_find, .ref aQ_spring, .int Q_orders, .ref aQ_does, .ref aQ_begins, .ref aQ_ends, .ref aQ_order, .ref aQ_with, .int Q_many]))] (fun u : Unit => [(aM, .inr (9, [.int M_thrown, .ref aM_tape, .int M_size, .int M_errorAt, .ref aQ, .ref aM_kind, .ref aM_from, .ref aM_means, .ref aM_value, .ref aM_who, .int M_token, .int M_depth, .int M_ordersRead, .int M_isSpring, .int M_itsSeat, .ref aM_now, .ref aM_kept, .ref aM_stack])), (aM_now, .inl (cI, 197, .inl M_now)), (aQ, .inr (8, [.int Q_seats, .int Q_strata, .int Q_empires, .ref aQ_empire, .ref aQ_begin, .ref aQ_end, .int Q_finds, .ref aQ_isCoin, .ref aQ_cushion, .ref aQ_what, .ref aQ_find, .ref aQ_spring, .int Q_orders, .ref aQ_does, .ref aQ_begins, .ref aQ_ends, .ref aQ_order, .ref aQ_with, .int Q_many]))]) K :=
  ct_startI (by decide +kernel) (Nat.le_of_ble_eq_true rfl) (fun E A Q hE C hret => bX10_turned C (fun r u pc ls hk hd => hret r u pc ls rfl hk hd) h)
abbrev rmX10_reckon : Room := { frames := 1, cells := 0, slots := 0, locals := 21 }
def wX10_reckon_154 (K : Int32 → Unit → Prop) (z0 : Int32) : Prop :=
  wX10_one z0 (fun r1 u1 => K r1 ())
set_option maxRecDepth 100000 in
set_option maxHeartbeats 4000000 in
theorem bX10_reckon_154 {D : gD} {cB cI cJ cZ : ClassId} {E : gE} {A : Nat → Prop} {Q : State → Prop} (C : Cx D (gT cB cI cJ cZ) E rmX10_reckon cX10_reckon 3 RX10 A) {K : Int32 → Unit → Prop} (hret : ∀ (r : Int32) (u : Unit) (pc : Nat) (ls : List (Nat × Value)), K r u → decode cX10_reckon pc = .ok (.ireturn, 1) → Go D E A Q 3 0 0 [] ls pc [.int r]) : ∀ (z0 : Int32), wX10_reckon_154 K z0 → Go D E A Q 3 0 0 [] [] 154 [.int z0] := by
  intro z0 h
  unfold wX10_reckon_154 at h
  refine q_callSI C (cX10_one_ok _ h) cf_X10_106 st_X10_one rfl ⟨Nat.le_of_ble_eq_true rfl, Nat.le_of_ble_eq_true rfl⟩ ⟨Nat.le_of_ble_eq_true rfl, Nat.le_of_ble_eq_true rfl⟩ 0 0 ⟨rfl, rfl⟩ [] [] (wr := []) rfl rfl rfl rfl (by decide) (fun u1 : Unit => []) [] rfl (fun _ => rfl) (rest := []) rfl (Nat.le_of_ble_eq_true rfl) dX10_reckon_154 (fun r1 u1 h => ?_)
  exact hret r1 () _ _ h dX10_reckon_157
def wX10_reckon_168 (K : Int32 → Unit → Prop) (z0 : Int32) : Prop :=
  wX10_one z0 (fun r1 u1 => K r1 ())
set_option maxRecDepth 100000 in
set_option maxHeartbeats 4000000 in
theorem bX10_reckon_168 {D : gD} {cB cI cJ cZ : ClassId} {E : gE} {A : Nat → Prop} {Q : State → Prop} (C : Cx D (gT cB cI cJ cZ) E rmX10_reckon cX10_reckon 3 RX10 A) {K : Int32 → Unit → Prop} (hret : ∀ (r : Int32) (u : Unit) (pc : Nat) (ls : List (Nat × Value)), K r u → decode cX10_reckon pc = .ok (.ireturn, 1) → Go D E A Q 3 0 0 [] ls pc [.int r]) : ∀ (z0 : Int32), wX10_reckon_168 K z0 → Go D E A Q 3 0 0 [] [] 168 [.int z0] := by
  intro z0 h
  unfold wX10_reckon_168 at h
  refine q_callSI C (cX10_one_ok _ h) cf_X10_106 st_X10_one rfl ⟨Nat.le_of_ble_eq_true rfl, Nat.le_of_ble_eq_true rfl⟩ ⟨Nat.le_of_ble_eq_true rfl, Nat.le_of_ble_eq_true rfl⟩ 0 0 ⟨rfl, rfl⟩ [] [] (wr := []) rfl rfl rfl rfl (by decide) (fun u1 : Unit => []) [] rfl (fun _ => rfl) (rest := []) rfl (Nat.le_of_ble_eq_true rfl) dX10_reckon_168 (fun r1 u1 h => ?_)
  exact hret r1 () _ _ h dX10_reckon_171
def wX10_reckon_182 (K : Int32 → Unit → Prop) (z0 : Int32) : Prop :=
  wX10_one z0 (fun r1 u1 => K r1 ())
set_option maxRecDepth 100000 in
set_option maxHeartbeats 4000000 in
theorem bX10_reckon_182 {D : gD} {cB cI cJ cZ : ClassId} {E : gE} {A : Nat → Prop} {Q : State → Prop} (C : Cx D (gT cB cI cJ cZ) E rmX10_reckon cX10_reckon 3 RX10 A) {K : Int32 → Unit → Prop} (hret : ∀ (r : Int32) (u : Unit) (pc : Nat) (ls : List (Nat × Value)), K r u → decode cX10_reckon pc = .ok (.ireturn, 1) → Go D E A Q 3 0 0 [] ls pc [.int r]) : ∀ (z0 : Int32), wX10_reckon_182 K z0 → Go D E A Q 3 0 0 [] [] 182 [.int z0] := by
  intro z0 h
  unfold wX10_reckon_182 at h
  refine q_callSI C (cX10_one_ok _ h) cf_X10_106 st_X10_one rfl ⟨Nat.le_of_ble_eq_true rfl, Nat.le_of_ble_eq_true rfl⟩ ⟨Nat.le_of_ble_eq_true rfl, Nat.le_of_ble_eq_true rfl⟩ 0 0 ⟨rfl, rfl⟩ [] [] (wr := []) rfl rfl rfl rfl (by decide) (fun u1 : Unit => []) [] rfl (fun _ => rfl) (rest := []) rfl (Nat.le_of_ble_eq_true rfl) dX10_reckon_182 (fun r1 u1 h => ?_)
  exact hret r1 () _ _ h dX10_reckon_185
def wX10_reckon_196 (K : Int32 → Unit → Prop) (z0 : Int32) : Prop :=
  wX10_one z0 (fun r1 u1 => K r1 ())
set_option maxRecDepth 100000 in
set_option maxHeartbeats 4000000 in
theorem bX10_reckon_196 {D : gD} {cB cI cJ cZ : ClassId} {E : gE} {A : Nat → Prop} {Q : State → Prop} (C : Cx D (gT cB cI cJ cZ) E rmX10_reckon cX10_reckon 3 RX10 A) {K : Int32 → Unit → Prop} (hret : ∀ (r : Int32) (u : Unit) (pc : Nat) (ls : List (Nat × Value)), K r u → decode cX10_reckon pc = .ok (.ireturn, 1) → Go D E A Q 3 0 0 [] ls pc [.int r]) : ∀ (z0 : Int32), wX10_reckon_196 K z0 → Go D E A Q 3 0 0 [] [] 196 [.int z0] := by
  intro z0 h
  unfold wX10_reckon_196 at h
  refine q_callSI C (cX10_one_ok _ h) cf_X10_106 st_X10_one rfl ⟨Nat.le_of_ble_eq_true rfl, Nat.le_of_ble_eq_true rfl⟩ ⟨Nat.le_of_ble_eq_true rfl, Nat.le_of_ble_eq_true rfl⟩ 0 0 ⟨rfl, rfl⟩ [] [] (wr := []) rfl rfl rfl rfl (by decide) (fun u1 : Unit => []) [] rfl (fun _ => rfl) (rest := []) rfl (Nat.le_of_ble_eq_true rfl) dX10_reckon_196 (fun r1 u1 h => ?_)
  exact hret r1 () _ _ h dX10_reckon_199
def wX10_reckon_210 (K : Int32 → Unit → Prop) (z0 : Int32) : Prop :=
  wX10_one z0 (fun r1 u1 => K r1 ())
set_option maxRecDepth 100000 in
set_option maxHeartbeats 4000000 in
theorem bX10_reckon_210 {D : gD} {cB cI cJ cZ : ClassId} {E : gE} {A : Nat → Prop} {Q : State → Prop} (C : Cx D (gT cB cI cJ cZ) E rmX10_reckon cX10_reckon 3 RX10 A) {K : Int32 → Unit → Prop} (hret : ∀ (r : Int32) (u : Unit) (pc : Nat) (ls : List (Nat × Value)), K r u → decode cX10_reckon pc = .ok (.ireturn, 1) → Go D E A Q 3 0 0 [] ls pc [.int r]) : ∀ (z0 : Int32), wX10_reckon_210 K z0 → Go D E A Q 3 0 0 [] [] 210 [.int z0] := by
  intro z0 h
  unfold wX10_reckon_210 at h
  refine q_callSI C (cX10_one_ok _ h) cf_X10_106 st_X10_one rfl ⟨Nat.le_of_ble_eq_true rfl, Nat.le_of_ble_eq_true rfl⟩ ⟨Nat.le_of_ble_eq_true rfl, Nat.le_of_ble_eq_true rfl⟩ 0 0 ⟨rfl, rfl⟩ [] [] (wr := []) rfl rfl rfl rfl (by decide) (fun u1 : Unit => []) [] rfl (fun _ => rfl) (rest := []) rfl (Nat.le_of_ble_eq_true rfl) dX10_reckon_210 (fun r1 u1 h => ?_)
  exact hret r1 () _ _ h dX10_reckon_213
def wX10_reckon (p0 : Int32) (p1 : Int32) (p2 : Int32) (K : Int32 → Unit → Prop) : Prop :=
  ((p0 = 25 → K (p1 &&& p2) ()) ∧ (p0 = 27 → K (g_min p1 p2) ()) ∧ (p0 = 28 → K (g_max p1 p2) ()) ∧ (p0 = 101 → K (p1 + p2) ()) ∧ (p0 = 102 → K (p1 - p2) ()) ∧ (p0 = 103 → K (p1 * p2) ()) ∧ (p0 = 104 → ((¬ p2 = 0 → (¬ p2 = 0) ∧ (K (p1 / p2) ())) ∧ (p2 = 0 → K 0 ()))) ∧ (p0 = 106 → ((p2 ≤ p1 → wX10_reckon_154 K 0) ∧ (¬ p2 ≤ p1 → wX10_reckon_154 K 1))) ∧ (p0 = 107 → ((p1 ≤ p2 → wX10_reckon_168 K 0) ∧ (¬ p1 ≤ p2 → wX10_reckon_168 K 1))) ∧ (p0 = 108 → ((¬ p1 = p2 → wX10_reckon_182 K 0) ∧ (p1 = p2 → wX10_reckon_182 K 1))) ∧ (p0 = 109 → ((p2 < p1 → wX10_reckon_196 K 0) ∧ (¬ p2 < p1 → wX10_reckon_196 K 1))) ∧ (p0 = 110 → ((p1 < p2 → wX10_reckon_210 K 0) ∧ (¬ p1 < p2 → wX10_reckon_210 K 1))) ∧ (¬ p0 = 25 → ¬ p0 = 27 → ¬ p0 = 28 → ¬ p0 = 101 → ¬ p0 = 102 → ¬ p0 = 103 → ¬ p0 = 104 → ¬ p0 = 106 → ¬ p0 = 107 → ¬ p0 = 108 → ¬ p0 = 109 → ¬ p0 = 110 → K (p1 ||| p2) ()))
set_option maxRecDepth 100000 in
set_option maxHeartbeats 4000000 in
theorem bX10_reckon {D : gD} {cB cI cJ cZ : ClassId} {E : gE} {A : Nat → Prop} {Q : State → Prop} (C : Cx D (gT cB cI cJ cZ) E rmX10_reckon cX10_reckon 3 RX10 A) {p0 : Int32} {p1 : Int32} {p2 : Int32} {K : Int32 → Unit → Prop} (hret : ∀ (r : Int32) (u : Unit) (pc : Nat) (ls : List (Nat × Value)), K r u → decode cX10_reckon pc = .ok (.ireturn, 1) → Go D E A Q 3 0 0 [] ls pc [.int r]) (h : wX10_reckon p0 p1 p2 K) : Go D E A Q 3 0 0 [] [(0, .int p0), (1, .int p1), (2, .int p2)] 0 [] := by
  unfold wX10_reckon at h
  refine q_iload_n C dX10_reckon_0 0 rfl ?_
  by_cases hq : p0 = 25
  · replace h := h.1 hq
    refine q_lookK (off := 213) C 25 214 hq dX10_reckon_1 (by decide) (by decide) (by decide) ?_
    refine q_iload_n C dX10_reckon_214 1 rfl ?_
    refine q_iload_n C dX10_reckon_215 2 rfl ?_
    refine q_iand C dX10_reckon_216 ?_
    exact hret (p1 &&& p2) () _ _ h dX10_reckon_217
  · have hn0 := hq
    by_cases hq : p0 = 27
    · replace h := h.2.1 hq
      refine q_lookK (off := 131) C 27 132 hq dX10_reckon_1 (by decide) (by decide) (by decide) ?_
      refine q_iload_n C dX10_reckon_132 1 rfl ?_
      refine q_iload_n C dX10_reckon_133 2 rfl ?_
      refine q_mmin C ml_X10_179 dX10_reckon_134 ⟨Nat.le_of_ble_eq_true rfl, Nat.le_of_ble_eq_true rfl, Nat.le_of_ble_eq_true rfl, Nat.le_of_ble_eq_true rfl⟩ ?_
      exact hret (g_min p1 p2) () _ _ h dX10_reckon_137
    · have hn1 := hq
      by_cases hq : p0 = 28
      · replace h := h.2.2.1 hq
        refine q_lookK (off := 137) C 28 138 hq dX10_reckon_1 (by decide) (by decide) (by decide) ?_
        refine q_iload_n C dX10_reckon_138 1 rfl ?_
        refine q_iload_n C dX10_reckon_139 2 rfl ?_
        refine q_mmax C ml_X10_128 dX10_reckon_140 ⟨Nat.le_of_ble_eq_true rfl, Nat.le_of_ble_eq_true rfl, Nat.le_of_ble_eq_true rfl, Nat.le_of_ble_eq_true rfl⟩ ?_
        exact hret (g_max p1 p2) () _ _ h dX10_reckon_143
      · have hn2 := hq
        by_cases hq : p0 = 101
        · replace h := h.2.2.2.1 hq
          refine q_lookK (off := 107) C 101 108 hq dX10_reckon_1 (by decide) (by decide) (by decide) ?_
          refine q_iload_n C dX10_reckon_108 1 rfl ?_
          refine q_iload_n C dX10_reckon_109 2 rfl ?_
          refine q_iadd C dX10_reckon_110 ?_
          exact hret (p1 + p2) () _ _ h dX10_reckon_111
        · have hn3 := hq
          by_cases hq : p0 = 102
          · replace h := h.2.2.2.2.1 hq
            refine q_lookK (off := 111) C 102 112 hq dX10_reckon_1 (by decide) (by decide) (by decide) ?_
            refine q_iload_n C dX10_reckon_112 1 rfl ?_
            refine q_iload_n C dX10_reckon_113 2 rfl ?_
            refine q_isub C dX10_reckon_114 ?_
            exact hret (p1 - p2) () _ _ h dX10_reckon_115
          · have hn4 := hq
            by_cases hq : p0 = 103
            · replace h := h.2.2.2.2.2.1 hq
              refine q_lookK (off := 115) C 103 116 hq dX10_reckon_1 (by decide) (by decide) (by decide) ?_
              refine q_iload_n C dX10_reckon_116 1 rfl ?_
              refine q_iload_n C dX10_reckon_117 2 rfl ?_
              refine q_imul C dX10_reckon_118 ?_
              exact hret (p1 * p2) () _ _ h dX10_reckon_119
            · have hn5 := hq
              by_cases hq : p0 = 104
              · replace h := h.2.2.2.2.2.2.1 hq
                refine q_lookK (off := 119) C 104 120 hq dX10_reckon_1 (by decide) (by decide) (by decide) ?_
                refine q_iload_n C dX10_reckon_120 2 rfl ?_
                refine q_if_ne C 128 dX10_reckon_121 (by decide) h (fun h => ?_) (fun h => ?_)
                · refine q_iload_n C dX10_reckon_128 1 rfl ?_
                  refine q_iload_n C dX10_reckon_129 2 rfl ?_
                  refine q_idiv C dX10_reckon_130 h.1 ?_
                  replace h := h.2
                  exact hret (p1 / p2) () _ _ h dX10_reckon_131
                · refine q_iconst C (v := 0) dX10_reckon_124 (by decide) ?_
                  refine q_goto (tgt := 131) C dX10_reckon_125 (by decide) ?_
                  exact hret 0 () _ _ h dX10_reckon_131
              · have hn6 := hq
                by_cases hq : p0 = 106
                · replace h := h.2.2.2.2.2.2.2.1 hq
                  refine q_lookK (off := 143) C 106 144 hq dX10_reckon_1 (by decide) (by decide) (by decide) ?_
                  refine q_iload_n C dX10_reckon_144 1 rfl ?_
                  refine q_iload_n C dX10_reckon_145 2 rfl ?_
                  refine q_icmp_ge C 153 dX10_reckon_146 (by decide) h (fun h => ?_) (fun h => ?_)
                  · refine q_iconst C (v := 0) dX10_reckon_153 (by decide) ?_
                    refine q_ls [] [] rfl ?_
                    exact bX10_reckon_154 C  hret  _ h
                  · refine q_iconst C (v := 1) dX10_reckon_149 (by decide) ?_
                    refine q_goto (tgt := 154) C dX10_reckon_150 (by decide) ?_
                    refine q_ls [] [] rfl ?_
                    exact bX10_reckon_154 C  hret  _ h
                · have hn7 := hq
                  by_cases hq : p0 = 107
                  · replace h := h.2.2.2.2.2.2.2.2.1 hq
                    refine q_lookK (off := 157) C 107 158 hq dX10_reckon_1 (by decide) (by decide) (by decide) ?_
                    refine q_iload_n C dX10_reckon_158 1 rfl ?_
                    refine q_iload_n C dX10_reckon_159 2 rfl ?_
                    refine q_icmp_le C 167 dX10_reckon_160 (by decide) h (fun h => ?_) (fun h => ?_)
                    · refine q_iconst C (v := 0) dX10_reckon_167 (by decide) ?_
                      refine q_ls [] [] rfl ?_
                      exact bX10_reckon_168 C  hret  _ h
                    · refine q_iconst C (v := 1) dX10_reckon_163 (by decide) ?_
                      refine q_goto (tgt := 168) C dX10_reckon_164 (by decide) ?_
                      refine q_ls [] [] rfl ?_
                      exact bX10_reckon_168 C  hret  _ h
                  · have hn8 := hq
                    by_cases hq : p0 = 108
                    · replace h := h.2.2.2.2.2.2.2.2.2.1 hq
                      refine q_lookK (off := 171) C 108 172 hq dX10_reckon_1 (by decide) (by decide) (by decide) ?_
                      refine q_iload_n C dX10_reckon_172 1 rfl ?_
                      refine q_iload_n C dX10_reckon_173 2 rfl ?_
                      refine q_icmp_ne C 181 dX10_reckon_174 (by decide) h (fun h => ?_) (fun h => ?_)
                      · refine q_iconst C (v := 0) dX10_reckon_181 (by decide) ?_
                        refine q_ls [] [] rfl ?_
                        exact bX10_reckon_182 C  hret  _ h
                      · refine q_iconst C (v := 1) dX10_reckon_177 (by decide) ?_
                        refine q_goto (tgt := 182) C dX10_reckon_178 (by decide) ?_
                        refine q_ls [] [] rfl ?_
                        exact bX10_reckon_182 C  hret  _ h
                    · have hn9 := hq
                      by_cases hq : p0 = 109
                      · replace h := h.2.2.2.2.2.2.2.2.2.2.1 hq
                        refine q_lookK (off := 185) C 109 186 hq dX10_reckon_1 (by decide) (by decide) (by decide) ?_
                        refine q_iload_n C dX10_reckon_186 1 rfl ?_
                        refine q_iload_n C dX10_reckon_187 2 rfl ?_
                        refine q_icmp_gt C 195 dX10_reckon_188 (by decide) h (fun h => ?_) (fun h => ?_)
                        · refine q_iconst C (v := 0) dX10_reckon_195 (by decide) ?_
                          refine q_ls [] [] rfl ?_
                          exact bX10_reckon_196 C  hret  _ h
                        · refine q_iconst C (v := 1) dX10_reckon_191 (by decide) ?_
                          refine q_goto (tgt := 196) C dX10_reckon_192 (by decide) ?_
                          refine q_ls [] [] rfl ?_
                          exact bX10_reckon_196 C  hret  _ h
                      · have hn10 := hq
                        by_cases hq : p0 = 110
                        · replace h := h.2.2.2.2.2.2.2.2.2.2.2.1 hq
                          refine q_lookK (off := 199) C 110 200 hq dX10_reckon_1 (by decide) (by decide) (by decide) ?_
                          refine q_iload_n C dX10_reckon_200 1 rfl ?_
                          refine q_iload_n C dX10_reckon_201 2 rfl ?_
                          refine q_icmp_lt C 209 dX10_reckon_202 (by decide) h (fun h => ?_) (fun h => ?_)
                          · refine q_iconst C (v := 0) dX10_reckon_209 (by decide) ?_
                            refine q_ls [] [] rfl ?_
                            exact bX10_reckon_210 C  hret  _ h
                          · refine q_iconst C (v := 1) dX10_reckon_205 (by decide) ?_
                            refine q_goto (tgt := 210) C dX10_reckon_206 (by decide) ?_
                            refine q_ls [] [] rfl ?_
                            exact bX10_reckon_210 C  hret  _ h
                        · have hn11 := hq
                          replace h := h.2.2.2.2.2.2.2.2.2.2.2.2 hn0 hn1 hn2 hn3 hn4 hn5 hn6 hn7 hn8 hn9 hn10 hn11
                          refine q_lookD C [25, 27, 28, 101, 102, 103, 104, 106, 107, 108, 109, 110] 218 (sw_cons (sw_ne hn0 (by decide)) (sw_cons (sw_ne hn1 (by decide)) (sw_cons (sw_ne hn2 (by decide)) (sw_cons (sw_ne hn3 (by decide)) (sw_cons (sw_ne hn4 (by decide)) (sw_cons (sw_ne hn5 (by decide)) (sw_cons (sw_ne hn6 (by decide)) (sw_cons (sw_ne hn7 (by decide)) (sw_cons (sw_ne hn8 (by decide)) (sw_cons (sw_ne hn9 (by decide)) (sw_cons (sw_ne hn10 (by decide)) (sw_cons (sw_ne hn11 (by decide)) sw_nil)))))))))))) dX10_reckon_1 (by decide) (by decide) (by decide) ?_
                          refine q_iload_n C dX10_reckon_218 1 rfl ?_
                          refine q_iload_n C dX10_reckon_219 2 rfl ?_
                          refine q_ior C dX10_reckon_220 ?_
                          exact hret (p1 ||| p2) () _ _ h dX10_reckon_221
theorem cX10_reckon_ok (l : Launch) {D : gD} {cB cI cJ cZ : ClassId} {p0 : Int32} {p1 : Int32} {p2 : Int32} {K : Int32 → Unit → Prop} (h : wX10_reckon p0 p1 p2 K) : CtI l D (gT cB cI cJ cZ) yX10_reckon cX10_reckon 3 .int rmX10_reckon [.int p0, .int p1, .int p2] [] (fun u : Unit => []) K :=
  ct_startI (by decide +kernel) (Nat.le_of_ble_eq_true rfl) (fun E A Q hE C hret => bX10_reckon C (fun r u pc ls hk hd => hret r u pc ls rfl hk hd) h)
abbrev rmX10_byteOf : Room := { frames := 0, cells := 0, slots := 0, locals := 0 }
def wX10_byteOf (M_tape : Nat → Int32) (M_size : Int32) (p0 : Int32) (K : Int32 → Unit → Prop) : Prop :=
  ((M_size ≤ p0 → K (-1) ()) ∧ (¬ M_size ≤ p0 → vp_in p0 2000 ∧ (K (M_tape p0.toNatClampNeg) ())))
set_option maxRecDepth 100000 in
set_option maxHeartbeats 4000000 in
theorem bX10_byteOf {D : gD} {cB cI cJ cZ : ClassId} {E : gE} {A : Nat → Prop} {Q : State → Prop} {aM aM_tape aQ aM_kind aM_from aM_means aM_value aM_who aM_now aM_kept aM_stack : Nat} {M_thrown M_size M_errorAt M_token M_depth M_ordersRead M_isSpring M_itsSeat : Int32} {M_tape : Nat → Int32} (C : Cx D (gT cB cI cJ cZ) E rmX10_byteOf cX10_byteOf 2 RX10 A) {p0 : Int32} {K : Int32 → Unit → Prop} (hret : ∀ (r : Int32) (u : Unit) (pc : Nat) (ls : List (Nat × Value)), K r u → decode cX10_byteOf pc = .ok (.ireturn, 1) → Go D E A Q 2 0 0 [(aM, .inr (9, [.int M_thrown, .ref aM_tape, .int M_size, .int M_errorAt, .ref aQ, .ref aM_kind, .ref aM_from, .ref aM_means, .ref aM_value, .ref aM_who, .int M_token, .int M_depth, .int M_ordersRead, .int M_isSpring, .int M_itsSeat, .ref aM_now, .ref aM_kept, .ref aM_stack])), (aM_tape, .inl (cI, 2000, .inl M_tape))] ls pc [.int r]) (h : wX10_byteOf M_tape M_size p0 K) : Go D E A Q 2 0 0 [(aM, .inr (9, [.int M_thrown, .ref aM_tape, .int M_size, .int M_errorAt, .ref aQ, .ref aM_kind, .ref aM_from, .ref aM_means, .ref aM_value, .ref aM_who, .int M_token, .int M_depth, .int M_ordersRead, .int M_isSpring, .int M_itsSeat, .ref aM_now, .ref aM_kept, .ref aM_stack])), (aM_tape, .inl (cI, 2000, .inl M_tape))] [(0, .ref aM), (1, .int p0)] 0 [] := by
  unfold wX10_byteOf at h
  refine q_iload_n C dX10_byteOf_0 1 rfl ?_
  refine q_aload_n C dX10_byteOf_1 0 rfl ?_
  refine q_get C inX10g rfl 2 (by decide) fl_X10_210 rfl 0 rfl rfl dX10_byteOf_2 ?_
  refine q_icmp_ge C 17 dX10_byteOf_5 (by decide) h (fun h => ?_) (fun h => ?_)
  · refine q_iconst C (v := (-1)) dX10_byteOf_17 (by decide) ?_
    exact hret (-1) () _ _ h dX10_byteOf_18
  · refine q_aload_n C dX10_byteOf_8 0 rfl ?_
    refine q_get C inX10g rfl 1 (by decide) fl_X10_9 rfl 0 rfl rfl dX10_byteOf_9 ?_
    refine q_iload_n C dX10_byteOf_12 1 rfl ?_
    refine q_iald C 1 1 rfl rfl dX10_byteOf_13 h (fun h => ?_)
    refine q_goto (tgt := 18) C dX10_byteOf_14 (by decide) ?_
    exact hret (M_tape p0.toNatClampNeg) () _ _ h dX10_byteOf_18
theorem cX10_byteOf_ok (l : Launch) {D : gD} {cB cI cJ cZ : ClassId} {aM aM_tape aQ aM_kind aM_from aM_means aM_value aM_who aM_now aM_kept aM_stack : Nat} {M_thrown M_size M_errorAt M_token M_depth M_ordersRead M_isSpring M_itsSeat : Int32} {M_tape : Nat → Int32} {p0 : Int32} {K : Int32 → Unit → Prop} (h : wX10_byteOf M_tape M_size p0 K) : CtI l D (gT cB cI cJ cZ) yX10_byteOf cX10_byteOf 2 .int rmX10_byteOf [.ref aM, .int p0] [(aM, .inr (9, [.int M_thrown, .ref aM_tape, .int M_size, .int M_errorAt, .ref aQ, .ref aM_kind, .ref aM_from, .ref aM_means, .ref aM_value, .ref aM_who, .int M_token, .int M_depth, .int M_ordersRead, .int M_isSpring, .int M_itsSeat, .ref aM_now, .ref aM_kept, .ref aM_stack])), (aM_tape, .inl (cI, 2000, .inl M_tape))] (fun u : Unit => [(aM, .inr (9, [.int M_thrown, .ref aM_tape, .int M_size, .int M_errorAt, .ref aQ, .ref aM_kind, .ref aM_from, .ref aM_means, .ref aM_value, .ref aM_who, .int M_token, .int M_depth, .int M_ordersRead, .int M_isSpring, .int M_itsSeat, .ref aM_now, .ref aM_kept, .ref aM_stack])), (aM_tape, .inl (cI, 2000, .inl M_tape))]) K :=
  ct_startI (by decide +kernel) (Nat.le_of_ble_eq_true rfl) (fun E A Q hE C hret => bX10_byteOf C (fun r u pc ls hk hd => hret r u pc ls rfl hk hd) h)
abbrev rmX10_isSmall : Room := { frames := 0, cells := 0, slots := 0, locals := 0 }
def wX10_isSmall (p0 : Int32) (K : Int32 → Unit → Prop) : Prop :=
  ((p0 < 97 → K 0 ()) ∧ (¬ p0 < 97 → ((122 < p0 → K 0 ()) ∧ (¬ 122 < p0 → K 1 ()))))
set_option maxRecDepth 100000 in
set_option maxHeartbeats 4000000 in
theorem bX10_isSmall {D : gD} {cB cI cJ cZ : ClassId} {E : gE} {A : Nat → Prop} {Q : State → Prop} (C : Cx D (gT cB cI cJ cZ) E rmX10_isSmall cX10_isSmall 1 RX10 A) {p0 : Int32} {K : Int32 → Unit → Prop} (hret : ∀ (r : Int32) (u : Unit) (pc : Nat) (ls : List (Nat × Value)), (r = 0 ∨ r = 1) → K r u → decode cX10_isSmall pc = .ok (.ireturn, 1) → Go D E A Q 1 0 0 [] ls pc [.int r]) (h : wX10_isSmall p0 K) : Go D E A Q 1 0 0 [] [(0, .int p0)] 0 [] := by
  unfold wX10_isSmall at h
  refine q_iload_n C dX10_isSmall_0 0 rfl ?_
  refine q_bipush C (v := 97) dX10_isSmall_1 (by decide) ?_
  refine q_icmp_lt C 16 dX10_isSmall_3 (by decide) h (fun h => ?_) (fun h => ?_)
  · refine q_iconst C (v := 0) dX10_isSmall_16 (by decide) ?_
    exact hret 0 () _ _ (Or.inl rfl) h dX10_isSmall_17
  · refine q_iload_n C dX10_isSmall_6 0 rfl ?_
    refine q_bipush C (v := 122) dX10_isSmall_7 (by decide) ?_
    refine q_icmp_gt C 16 dX10_isSmall_9 (by decide) h (fun h => ?_) (fun h => ?_)
    · refine q_iconst C (v := 0) dX10_isSmall_16 (by decide) ?_
      exact hret 0 () _ _ (Or.inl rfl) h dX10_isSmall_17
    · refine q_iconst C (v := 1) dX10_isSmall_12 (by decide) ?_
      refine q_goto (tgt := 17) C dX10_isSmall_13 (by decide) ?_
      exact hret 1 () _ _ (Or.inr rfl) h dX10_isSmall_17
theorem cX10_isSmall_ok (l : Launch) {D : gD} {cB cI cJ cZ : ClassId} {p0 : Int32} {K : Int32 → Unit → Prop} (h : wX10_isSmall p0 K) : CtI l D (gT cB cI cJ cZ) yX10_isSmall cX10_isSmall 1 .boolean rmX10_isSmall [.int p0] [] (fun u : Unit => []) (fun r u => (r = 0 ∨ r = 1) ∧ K r u) :=
  ct_startI (by decide +kernel) (Nat.le_of_ble_eq_true rfl) (fun E A Q hE C hret => bX10_isSmall C (fun r u pc ls hb hk hd => hret r u pc ls (nar_bit hb) ⟨hb, hk⟩ hd) h)
abbrev rmX10_isDigit : Room := { frames := 0, cells := 0, slots := 0, locals := 0 }
def wX10_isDigit (p0 : Int32) (K : Int32 → Unit → Prop) : Prop :=
  ((p0 < 48 → K 0 ()) ∧ (¬ p0 < 48 → ((57 < p0 → K 0 ()) ∧ (¬ 57 < p0 → K 1 ()))))
set_option maxRecDepth 100000 in
set_option maxHeartbeats 4000000 in
theorem bX10_isDigit {D : gD} {cB cI cJ cZ : ClassId} {E : gE} {A : Nat → Prop} {Q : State → Prop} (C : Cx D (gT cB cI cJ cZ) E rmX10_isDigit cX10_isDigit 1 RX10 A) {p0 : Int32} {K : Int32 → Unit → Prop} (hret : ∀ (r : Int32) (u : Unit) (pc : Nat) (ls : List (Nat × Value)), (r = 0 ∨ r = 1) → K r u → decode cX10_isDigit pc = .ok (.ireturn, 1) → Go D E A Q 1 0 0 [] ls pc [.int r]) (h : wX10_isDigit p0 K) : Go D E A Q 1 0 0 [] [(0, .int p0)] 0 [] := by
  unfold wX10_isDigit at h
  refine q_iload_n C dX10_isDigit_0 0 rfl ?_
  refine q_bipush C (v := 48) dX10_isDigit_1 (by decide) ?_
  refine q_icmp_lt C 16 dX10_isDigit_3 (by decide) h (fun h => ?_) (fun h => ?_)
  · refine q_iconst C (v := 0) dX10_isDigit_16 (by decide) ?_
    exact hret 0 () _ _ (Or.inl rfl) h dX10_isDigit_17
  · refine q_iload_n C dX10_isDigit_6 0 rfl ?_
    refine q_bipush C (v := 57) dX10_isDigit_7 (by decide) ?_
    refine q_icmp_gt C 16 dX10_isDigit_9 (by decide) h (fun h => ?_) (fun h => ?_)
    · refine q_iconst C (v := 0) dX10_isDigit_16 (by decide) ?_
      exact hret 0 () _ _ (Or.inl rfl) h dX10_isDigit_17
    · refine q_iconst C (v := 1) dX10_isDigit_12 (by decide) ?_
      refine q_goto (tgt := 17) C dX10_isDigit_13 (by decide) ?_
      exact hret 1 () _ _ (Or.inr rfl) h dX10_isDigit_17
theorem cX10_isDigit_ok (l : Launch) {D : gD} {cB cI cJ cZ : ClassId} {p0 : Int32} {K : Int32 → Unit → Prop} (h : wX10_isDigit p0 K) : CtI l D (gT cB cI cJ cZ) yX10_isDigit cX10_isDigit 1 .boolean rmX10_isDigit [.int p0] [] (fun u : Unit => []) (fun r u => (r = 0 ∨ r = 1) ∧ K r u) :=
  ct_startI (by decide +kernel) (Nat.le_of_ble_eq_true rfl) (fun E A Q hE C hret => bX10_isDigit C (fun r u pc ls hb hk hd => hret r u pc ls (nar_bit hb) ⟨hb, hk⟩ hd) h)
abbrev rmX10_endOf : Room := { frames := 1, cells := 0, slots := 0, locals := 21 }
def wX10_endOf_81 (K : Int32 → Unit → Prop) (M_tape : Nat → Int32) (M_size : Int32) (x3 : Int32) : Prop :=
  wX10_byteOf M_tape M_size x3 (fun r1 u1 => ((¬ r1 = 61 → K x3 ()) ∧ (r1 = 61 → K (x3 + 1) ())))
set_option maxRecDepth 100000 in
set_option maxHeartbeats 4000000 in
theorem bX10_endOf_81 {D : gD} {cB cI cJ cZ : ClassId} {E : gE} {A : Nat → Prop} {Q : State → Prop} {aM aM_tape aQ aM_kind aM_from aM_means aM_value aM_who aM_now aM_kept aM_stack : Nat} {M_thrown M_size M_errorAt M_token M_depth M_ordersRead M_isSpring M_itsSeat : Int32} {M_tape : Nat → Int32} (C : Cx D (gT cB cI cJ cZ) E rmX10_endOf cX10_endOf 4 RX10 A) {K : Int32 → Unit → Prop} (hret : ∀ (r : Int32) (u : Unit) (pc : Nat) (ls : List (Nat × Value)), K r u → decode cX10_endOf pc = .ok (.ireturn, 1) → Go D E A Q 4 0 0 [(aM, .inr (9, [.int M_thrown, .ref aM_tape, .int M_size, .int M_errorAt, .ref aQ, .ref aM_kind, .ref aM_from, .ref aM_means, .ref aM_value, .ref aM_who, .int M_token, .int M_depth, .int M_ordersRead, .int M_isSpring, .int M_itsSeat, .ref aM_now, .ref aM_kept, .ref aM_stack])), (aM_tape, .inl (cI, 2000, .inl M_tape))] ls pc [.int r]) : ∀ (x3 : Int32), wX10_endOf_81 K M_tape M_size x3 → Go D E A Q 4 0 0 [(aM, .inr (9, [.int M_thrown, .ref aM_tape, .int M_size, .int M_errorAt, .ref aQ, .ref aM_kind, .ref aM_from, .ref aM_means, .ref aM_value, .ref aM_who, .int M_token, .int M_depth, .int M_ordersRead, .int M_isSpring, .int M_itsSeat, .ref aM_now, .ref aM_kept, .ref aM_stack])), (aM_tape, .inl (cI, 2000, .inl M_tape))] [(0, .ref aM), (3, .int x3)] 81 [] := by
  intro x3 h
  unfold wX10_endOf_81 at h
  refine q_aload_n C dX10_endOf_81 0 rfl ?_
  refine q_iload_n C dX10_endOf_82 1 rfl ?_
  refine q_callVI C (cX10_byteOf_ok _ h) cf_X10_213 im_X10_byteOf se_X10_byteOf 9 rfl rfl rfl rfl ⟨Nat.le_of_ble_eq_true rfl, Nat.le_of_ble_eq_true rfl⟩ ⟨Nat.le_of_ble_eq_true rfl, Nat.le_of_ble_eq_true rfl⟩ 0 0 ⟨rfl, rfl⟩ [0, 1] [] (wr := []) rfl rfl rfl rfl (by decide) (fun u1 : Unit => [(aM, .inr (9, [.int M_thrown, .ref aM_tape, .int M_size, .int M_errorAt, .ref aQ, .ref aM_kind, .ref aM_from, .ref aM_means, .ref aM_value, .ref aM_who, .int M_token, .int M_depth, .int M_ordersRead, .int M_isSpring, .int M_itsSeat, .ref aM_now, .ref aM_kept, .ref aM_stack])), (aM_tape, .inl (cI, 2000, .inl M_tape))]) [0, 1] rfl (fun _ => rfl) (rest := []) rfl (Nat.le_of_ble_eq_true rfl) dX10_endOf_83 (fun r1 u1 h => ?_)
  refine q_bipush C (v := 61) dX10_endOf_86 (by decide) ?_
  refine q_icmp_ne C 94 dX10_endOf_88 (by decide) h (fun h => ?_) (fun h => ?_)
  · refine q_iload_n C dX10_endOf_94 1 rfl ?_
    exact hret x3 () _ _ h dX10_endOf_95
  · refine q_iinc C (v := x3 + 1) [(3, .int (x3 + 1)), (0, .ref aM)] dX10_endOf_91 1 rfl rfl (by decide) rfl ?_
    refine q_iload_n C dX10_endOf_94 0 rfl ?_
    exact hret (x3 + 1) () _ _ h dX10_endOf_95
def wX10_endOf_69 (K : Int32 → Unit → Prop) (M_tape : Nat → Int32) (M_size : Int32) (x2 : Int32) (x3 : Int32) : Prop :=
  ((x2 = 60 → wX10_endOf_81 K M_tape M_size x3) ∧ (¬ x2 = 60 → ((¬ x2 = 62 → K x3 ()) ∧ (x2 = 62 → wX10_endOf_81 K M_tape M_size x3))))
set_option maxRecDepth 100000 in
set_option maxHeartbeats 4000000 in
theorem bX10_endOf_69 {D : gD} {cB cI cJ cZ : ClassId} {E : gE} {A : Nat → Prop} {Q : State → Prop} {aM aM_tape aQ aM_kind aM_from aM_means aM_value aM_who aM_now aM_kept aM_stack : Nat} {M_thrown M_size M_errorAt M_token M_depth M_ordersRead M_isSpring M_itsSeat : Int32} {M_tape : Nat → Int32} (C : Cx D (gT cB cI cJ cZ) E rmX10_endOf cX10_endOf 4 RX10 A) {K : Int32 → Unit → Prop} (hret : ∀ (r : Int32) (u : Unit) (pc : Nat) (ls : List (Nat × Value)), K r u → decode cX10_endOf pc = .ok (.ireturn, 1) → Go D E A Q 4 0 0 [(aM, .inr (9, [.int M_thrown, .ref aM_tape, .int M_size, .int M_errorAt, .ref aQ, .ref aM_kind, .ref aM_from, .ref aM_means, .ref aM_value, .ref aM_who, .int M_token, .int M_depth, .int M_ordersRead, .int M_isSpring, .int M_itsSeat, .ref aM_now, .ref aM_kept, .ref aM_stack])), (aM_tape, .inl (cI, 2000, .inl M_tape))] ls pc [.int r]) : ∀ (x2 : Int32) (x3 : Int32), wX10_endOf_69 K M_tape M_size x2 x3 → Go D E A Q 4 0 0 [(aM, .inr (9, [.int M_thrown, .ref aM_tape, .int M_size, .int M_errorAt, .ref aQ, .ref aM_kind, .ref aM_from, .ref aM_means, .ref aM_value, .ref aM_who, .int M_token, .int M_depth, .int M_ordersRead, .int M_isSpring, .int M_itsSeat, .ref aM_now, .ref aM_kept, .ref aM_stack])), (aM_tape, .inl (cI, 2000, .inl M_tape))] [(0, .ref aM), (2, .int x2), (3, .int x3)] 69 [] := by
  intro x2 x3 h
  unfold wX10_endOf_69 at h
  refine q_iload_n C dX10_endOf_69 1 rfl ?_
  refine q_bipush C (v := 60) dX10_endOf_70 (by decide) ?_
  refine q_icmp_eq C 81 dX10_endOf_72 (by decide) h (fun h => ?_) (fun h => ?_)
  · refine q_ls [(0, .ref aM), (3, .int x3)] [0, 2] rfl ?_
    exact bX10_endOf_81 C  hret  _ h
  · refine q_iload_n C dX10_endOf_75 1 rfl ?_
    refine q_bipush C (v := 62) dX10_endOf_76 (by decide) ?_
    refine q_icmp_ne C 94 dX10_endOf_78 (by decide) h (fun h => ?_) (fun h => ?_)
    · refine q_iload_n C dX10_endOf_94 2 rfl ?_
      exact hret x3 () _ _ h dX10_endOf_95
    · refine q_ls [(0, .ref aM), (3, .int x3)] [0, 2] rfl ?_
      exact bX10_endOf_81 C  hret  _ h
def wX10_endOf_52 (K : Int32 → Unit → Prop) (M_tape : Nat → Int32) (M_size : Int32) : Nat → Int32 → Int32 → Prop
  | 0, _, _ => False
  | n + 1, x2, x3 =>
  wX10_byteOf M_tape M_size x3 (fun r1 u1 => wX10_isDigit r1 (fun r2 u2 => ((r2 = 0 → wX10_endOf_69 K M_tape M_size x2 x3) ∧ (¬ r2 = 0 → wX10_endOf_52 K M_tape M_size n x2 (x3 + 1)))))
set_option maxRecDepth 100000 in
set_option maxHeartbeats 4000000 in
theorem bX10_endOf_52 {D : gD} {cB cI cJ cZ : ClassId} {E : gE} {A : Nat → Prop} {Q : State → Prop} {aM aM_tape aQ aM_kind aM_from aM_means aM_value aM_who aM_now aM_kept aM_stack : Nat} {M_thrown M_size M_errorAt M_token M_depth M_ordersRead M_isSpring M_itsSeat : Int32} {M_tape : Nat → Int32} (C : Cx D (gT cB cI cJ cZ) E rmX10_endOf cX10_endOf 4 RX10 A) {K : Int32 → Unit → Prop} (hret : ∀ (r : Int32) (u : Unit) (pc : Nat) (ls : List (Nat × Value)), K r u → decode cX10_endOf pc = .ok (.ireturn, 1) → Go D E A Q 4 0 0 [(aM, .inr (9, [.int M_thrown, .ref aM_tape, .int M_size, .int M_errorAt, .ref aQ, .ref aM_kind, .ref aM_from, .ref aM_means, .ref aM_value, .ref aM_who, .int M_token, .int M_depth, .int M_ordersRead, .int M_isSpring, .int M_itsSeat, .ref aM_now, .ref aM_kept, .ref aM_stack])), (aM_tape, .inl (cI, 2000, .inl M_tape))] ls pc [.int r]) : ∀ (n : Nat) (x2 : Int32) (x3 : Int32), wX10_endOf_52 K M_tape M_size n x2 x3 → Go D E A Q 4 0 0 [(aM, .inr (9, [.int M_thrown, .ref aM_tape, .int M_size, .int M_errorAt, .ref aQ, .ref aM_kind, .ref aM_from, .ref aM_means, .ref aM_value, .ref aM_who, .int M_token, .int M_depth, .int M_ordersRead, .int M_isSpring, .int M_itsSeat, .ref aM_now, .ref aM_kept, .ref aM_stack])), (aM_tape, .inl (cI, 2000, .inl M_tape))] [(0, .ref aM), (2, .int x2), (3, .int x3)] 52 [] := by
  intro n
  induction n with
  | zero =>
    intro x2 x3 h
    exact h.elim
  | succ n ih =>
    intro x2 x3 h
    unfold wX10_endOf_52 at h
    refine q_aload_n C dX10_endOf_52 0 rfl ?_
    refine q_iload_n C dX10_endOf_53 2 rfl ?_
    refine q_callVI C (cX10_byteOf_ok _ h) cf_X10_213 im_X10_byteOf se_X10_byteOf 9 rfl rfl rfl rfl ⟨Nat.le_of_ble_eq_true rfl, Nat.le_of_ble_eq_true rfl⟩ ⟨Nat.le_of_ble_eq_true rfl, Nat.le_of_ble_eq_true rfl⟩ 0 0 ⟨rfl, rfl⟩ [0, 1] [] (wr := []) rfl rfl rfl rfl (by decide) (fun u1 : Unit => [(aM, .inr (9, [.int M_thrown, .ref aM_tape, .int M_size, .int M_errorAt, .ref aQ, .ref aM_kind, .ref aM_from, .ref aM_means, .ref aM_value, .ref aM_who, .int M_token, .int M_depth, .int M_ordersRead, .int M_isSpring, .int M_itsSeat, .ref aM_now, .ref aM_kept, .ref aM_stack])), (aM_tape, .inl (cI, 2000, .inl M_tape))]) [0, 1] rfl (fun _ => rfl) (rest := []) rfl (Nat.le_of_ble_eq_true rfl) dX10_endOf_54 (fun r1 u1 h => ?_)
    refine q_callSI C (cX10_isDigit_ok _ h) cf_X10_219 st_X10_isDigit rfl ⟨Nat.le_of_ble_eq_true rfl, Nat.le_of_ble_eq_true rfl⟩ ⟨Nat.le_of_ble_eq_true rfl, Nat.le_of_ble_eq_true rfl⟩ 0 0 ⟨rfl, rfl⟩ [] [0, 1] (wr := [(aM, .inr (9, [.int M_thrown, .ref aM_tape, .int M_size, .int M_errorAt, .ref aQ, .ref aM_kind, .ref aM_from, .ref aM_means, .ref aM_value, .ref aM_who, .int M_token, .int M_depth, .int M_ordersRead, .int M_isSpring, .int M_itsSeat, .ref aM_now, .ref aM_kept, .ref aM_stack])), (aM_tape, .inl (cI, 2000, .inl M_tape))]) rfl rfl rfl rfl (by decide) (fun u2 : Unit => [(aM, .inr (9, [.int M_thrown, .ref aM_tape, .int M_size, .int M_errorAt, .ref aQ, .ref aM_kind, .ref aM_from, .ref aM_means, .ref aM_value, .ref aM_who, .int M_token, .int M_depth, .int M_ordersRead, .int M_isSpring, .int M_itsSeat, .ref aM_now, .ref aM_kept, .ref aM_stack])), (aM_tape, .inl (cI, 2000, .inl M_tape))]) [0, 1] rfl (fun _ => rfl) (rest := []) rfl (Nat.le_of_ble_eq_true rfl) dX10_endOf_57 (fun r2 u2 h => ?_)
    obtain ⟨hb2, h⟩ := h
    refine q_if_eq C 69 dX10_endOf_60 (by decide) h (fun h => ?_) (fun h => ?_)
    · exact bX10_endOf_69 C  hret  _ _ h
    · refine q_iinc C (v := x3 + 1) [(3, .int (x3 + 1)), (0, .ref aM), (2, .int x2)] dX10_endOf_63 2 rfl rfl (by decide) rfl ?_
      refine q_goto (tgt := 52) C dX10_endOf_66 (by decide) ?_
      refine q_ls [(0, .ref aM), (2, .int x2), (3, .int (x3 + 1))] [1, 2, 0] rfl ?_
      exact ih _ _ h
def wX10_endOf_45 (K : Int32 → Unit → Prop) (M_tape : Nat → Int32) (M_size : Int32) (x2 : Int32) (x3 : Int32) : Prop :=
  wX10_isDigit x2 (fun r1 u1 => ((r1 = 0 → wX10_endOf_69 K M_tape M_size x2 x3) ∧ (¬ r1 = 0 → ∃ k9 : Nat, wX10_endOf_52 K M_tape M_size k9 x2 x3)))
set_option maxRecDepth 100000 in
set_option maxHeartbeats 4000000 in
theorem bX10_endOf_45 {D : gD} {cB cI cJ cZ : ClassId} {E : gE} {A : Nat → Prop} {Q : State → Prop} {aM aM_tape aQ aM_kind aM_from aM_means aM_value aM_who aM_now aM_kept aM_stack : Nat} {M_thrown M_size M_errorAt M_token M_depth M_ordersRead M_isSpring M_itsSeat : Int32} {M_tape : Nat → Int32} (C : Cx D (gT cB cI cJ cZ) E rmX10_endOf cX10_endOf 4 RX10 A) {K : Int32 → Unit → Prop} (hret : ∀ (r : Int32) (u : Unit) (pc : Nat) (ls : List (Nat × Value)), K r u → decode cX10_endOf pc = .ok (.ireturn, 1) → Go D E A Q 4 0 0 [(aM, .inr (9, [.int M_thrown, .ref aM_tape, .int M_size, .int M_errorAt, .ref aQ, .ref aM_kind, .ref aM_from, .ref aM_means, .ref aM_value, .ref aM_who, .int M_token, .int M_depth, .int M_ordersRead, .int M_isSpring, .int M_itsSeat, .ref aM_now, .ref aM_kept, .ref aM_stack])), (aM_tape, .inl (cI, 2000, .inl M_tape))] ls pc [.int r]) : ∀ (x2 : Int32) (x3 : Int32), wX10_endOf_45 K M_tape M_size x2 x3 → Go D E A Q 4 0 0 [(aM, .inr (9, [.int M_thrown, .ref aM_tape, .int M_size, .int M_errorAt, .ref aQ, .ref aM_kind, .ref aM_from, .ref aM_means, .ref aM_value, .ref aM_who, .int M_token, .int M_depth, .int M_ordersRead, .int M_isSpring, .int M_itsSeat, .ref aM_now, .ref aM_kept, .ref aM_stack])), (aM_tape, .inl (cI, 2000, .inl M_tape))] [(0, .ref aM), (2, .int x2), (3, .int x3)] 45 [] := by
  intro x2 x3 h
  unfold wX10_endOf_45 at h
  refine q_iload_n C dX10_endOf_45 1 rfl ?_
  refine q_callSI C (cX10_isDigit_ok _ h) cf_X10_219 st_X10_isDigit rfl ⟨Nat.le_of_ble_eq_true rfl, Nat.le_of_ble_eq_true rfl⟩ ⟨Nat.le_of_ble_eq_true rfl, Nat.le_of_ble_eq_true rfl⟩ 0 0 ⟨rfl, rfl⟩ [] [0, 1] (wr := [(aM, .inr (9, [.int M_thrown, .ref aM_tape, .int M_size, .int M_errorAt, .ref aQ, .ref aM_kind, .ref aM_from, .ref aM_means, .ref aM_value, .ref aM_who, .int M_token, .int M_depth, .int M_ordersRead, .int M_isSpring, .int M_itsSeat, .ref aM_now, .ref aM_kept, .ref aM_stack])), (aM_tape, .inl (cI, 2000, .inl M_tape))]) rfl rfl rfl rfl (by decide) (fun u1 : Unit => [(aM, .inr (9, [.int M_thrown, .ref aM_tape, .int M_size, .int M_errorAt, .ref aQ, .ref aM_kind, .ref aM_from, .ref aM_means, .ref aM_value, .ref aM_who, .int M_token, .int M_depth, .int M_ordersRead, .int M_isSpring, .int M_itsSeat, .ref aM_now, .ref aM_kept, .ref aM_stack])), (aM_tape, .inl (cI, 2000, .inl M_tape))]) [0, 1] rfl (fun _ => rfl) (rest := []) rfl (Nat.le_of_ble_eq_true rfl) dX10_endOf_46 (fun r1 u1 h => ?_)
  obtain ⟨hb1, h⟩ := h
  refine q_if_eq C 69 dX10_endOf_49 (by decide) h (fun h => ?_) (fun h => ?_)
  · exact bX10_endOf_69 C  hret  _ _ h
  · obtain ⟨n1, h⟩ := h
    exact bX10_endOf_52 C  hret  n1 _ _ h
def wX10_endOf_39 (K : Int32 → Unit → Prop) (KL17 : Int32 → Int32 → Prop) (M_tape : Nat → Int32) (M_size : Int32) (x2 : Int32) (x3 : Int32) : Prop :=
  KL17 x2 (x3 + 1)
set_option maxRecDepth 100000 in
set_option maxHeartbeats 4000000 in
theorem bX10_endOf_39 {D : gD} {cB cI cJ cZ : ClassId} {E : gE} {A : Nat → Prop} {Q : State → Prop} {aM aM_tape aQ aM_kind aM_from aM_means aM_value aM_who aM_now aM_kept aM_stack : Nat} {M_thrown M_size M_errorAt M_token M_depth M_ordersRead M_isSpring M_itsSeat : Int32} {M_tape : Nat → Int32} (C : Cx D (gT cB cI cJ cZ) E rmX10_endOf cX10_endOf 4 RX10 A) {K : Int32 → Unit → Prop} (hret : ∀ (r : Int32) (u : Unit) (pc : Nat) (ls : List (Nat × Value)), K r u → decode cX10_endOf pc = .ok (.ireturn, 1) → Go D E A Q 4 0 0 [(aM, .inr (9, [.int M_thrown, .ref aM_tape, .int M_size, .int M_errorAt, .ref aQ, .ref aM_kind, .ref aM_from, .ref aM_means, .ref aM_value, .ref aM_who, .int M_token, .int M_depth, .int M_ordersRead, .int M_isSpring, .int M_itsSeat, .ref aM_now, .ref aM_kept, .ref aM_stack])), (aM_tape, .inl (cI, 2000, .inl M_tape))] ls pc [.int r]) {KL17 : Int32 → Int32 → Prop} (hKL17 : ∀ (x2 : Int32) (x3 : Int32), KL17 x2 x3 → Go D E A Q 4 0 0 [(aM, .inr (9, [.int M_thrown, .ref aM_tape, .int M_size, .int M_errorAt, .ref aQ, .ref aM_kind, .ref aM_from, .ref aM_means, .ref aM_value, .ref aM_who, .int M_token, .int M_depth, .int M_ordersRead, .int M_isSpring, .int M_itsSeat, .ref aM_now, .ref aM_kept, .ref aM_stack])), (aM_tape, .inl (cI, 2000, .inl M_tape))] [(0, .ref aM), (2, .int x2), (3, .int x3)] 17 []) : ∀ (x2 : Int32) (x3 : Int32), wX10_endOf_39 K KL17 M_tape M_size x2 x3 → Go D E A Q 4 0 0 [(aM, .inr (9, [.int M_thrown, .ref aM_tape, .int M_size, .int M_errorAt, .ref aQ, .ref aM_kind, .ref aM_from, .ref aM_means, .ref aM_value, .ref aM_who, .int M_token, .int M_depth, .int M_ordersRead, .int M_isSpring, .int M_itsSeat, .ref aM_now, .ref aM_kept, .ref aM_stack])), (aM_tape, .inl (cI, 2000, .inl M_tape))] [(0, .ref aM), (2, .int x2), (3, .int x3)] 39 [] := by
  intro x2 x3 h
  unfold wX10_endOf_39 at h
  refine q_iinc C (v := x3 + 1) [(3, .int (x3 + 1)), (0, .ref aM), (2, .int x2)] dX10_endOf_39 2 rfl rfl (by decide) rfl ?_
  refine q_goto (tgt := 17) C dX10_endOf_42 (by decide) ?_
  refine q_ls [(0, .ref aM), (2, .int x2), (3, .int (x3 + 1))] [1, 2, 0] rfl ?_
  exact hKL17 _ _ h
def wX10_endOf_17 (K : Int32 → Unit → Prop) (M_tape : Nat → Int32) (M_size : Int32) : Nat → Int32 → Int32 → Prop
  | 0, _, _ => False
  | n + 1, x2, x3 =>
  wX10_byteOf M_tape M_size x3 (fun r1 u1 => wX10_isSmall r1 (fun r2 u2 => ((¬ r2 = 0 → wX10_endOf_39 K (wX10_endOf_17 K M_tape M_size n) M_tape M_size x2 x3) ∧ (r2 = 0 → wX10_byteOf M_tape M_size x3 (fun r3 u3 => wX10_isDigit r3 (fun r4 u4 => ((r4 = 0 → wX10_endOf_45 K M_tape M_size x2 x3) ∧ (¬ r4 = 0 → wX10_endOf_39 K (wX10_endOf_17 K M_tape M_size n) M_tape M_size x2 x3))))))))
set_option maxRecDepth 100000 in
set_option maxHeartbeats 4000000 in
theorem bX10_endOf_17 {D : gD} {cB cI cJ cZ : ClassId} {E : gE} {A : Nat → Prop} {Q : State → Prop} {aM aM_tape aQ aM_kind aM_from aM_means aM_value aM_who aM_now aM_kept aM_stack : Nat} {M_thrown M_size M_errorAt M_token M_depth M_ordersRead M_isSpring M_itsSeat : Int32} {M_tape : Nat → Int32} (C : Cx D (gT cB cI cJ cZ) E rmX10_endOf cX10_endOf 4 RX10 A) {K : Int32 → Unit → Prop} (hret : ∀ (r : Int32) (u : Unit) (pc : Nat) (ls : List (Nat × Value)), K r u → decode cX10_endOf pc = .ok (.ireturn, 1) → Go D E A Q 4 0 0 [(aM, .inr (9, [.int M_thrown, .ref aM_tape, .int M_size, .int M_errorAt, .ref aQ, .ref aM_kind, .ref aM_from, .ref aM_means, .ref aM_value, .ref aM_who, .int M_token, .int M_depth, .int M_ordersRead, .int M_isSpring, .int M_itsSeat, .ref aM_now, .ref aM_kept, .ref aM_stack])), (aM_tape, .inl (cI, 2000, .inl M_tape))] ls pc [.int r]) : ∀ (n : Nat) (x2 : Int32) (x3 : Int32), wX10_endOf_17 K M_tape M_size n x2 x3 → Go D E A Q 4 0 0 [(aM, .inr (9, [.int M_thrown, .ref aM_tape, .int M_size, .int M_errorAt, .ref aQ, .ref aM_kind, .ref aM_from, .ref aM_means, .ref aM_value, .ref aM_who, .int M_token, .int M_depth, .int M_ordersRead, .int M_isSpring, .int M_itsSeat, .ref aM_now, .ref aM_kept, .ref aM_stack])), (aM_tape, .inl (cI, 2000, .inl M_tape))] [(0, .ref aM), (2, .int x2), (3, .int x3)] 17 [] := by
  intro n
  induction n with
  | zero =>
    intro x2 x3 h
    exact h.elim
  | succ n ih =>
    intro x2 x3 h
    unfold wX10_endOf_17 at h
    refine q_aload_n C dX10_endOf_17 0 rfl ?_
    refine q_iload_n C dX10_endOf_18 2 rfl ?_
    refine q_callVI C (cX10_byteOf_ok _ h) cf_X10_213 im_X10_byteOf se_X10_byteOf 9 rfl rfl rfl rfl ⟨Nat.le_of_ble_eq_true rfl, Nat.le_of_ble_eq_true rfl⟩ ⟨Nat.le_of_ble_eq_true rfl, Nat.le_of_ble_eq_true rfl⟩ 0 0 ⟨rfl, rfl⟩ [0, 1] [] (wr := []) rfl rfl rfl rfl (by decide) (fun u1 : Unit => [(aM, .inr (9, [.int M_thrown, .ref aM_tape, .int M_size, .int M_errorAt, .ref aQ, .ref aM_kind, .ref aM_from, .ref aM_means, .ref aM_value, .ref aM_who, .int M_token, .int M_depth, .int M_ordersRead, .int M_isSpring, .int M_itsSeat, .ref aM_now, .ref aM_kept, .ref aM_stack])), (aM_tape, .inl (cI, 2000, .inl M_tape))]) [0, 1] rfl (fun _ => rfl) (rest := []) rfl (Nat.le_of_ble_eq_true rfl) dX10_endOf_19 (fun r1 u1 h => ?_)
    refine q_callSI C (cX10_isSmall_ok _ h) cf_X10_216 st_X10_isSmall rfl ⟨Nat.le_of_ble_eq_true rfl, Nat.le_of_ble_eq_true rfl⟩ ⟨Nat.le_of_ble_eq_true rfl, Nat.le_of_ble_eq_true rfl⟩ 0 0 ⟨rfl, rfl⟩ [] [0, 1] (wr := [(aM, .inr (9, [.int M_thrown, .ref aM_tape, .int M_size, .int M_errorAt, .ref aQ, .ref aM_kind, .ref aM_from, .ref aM_means, .ref aM_value, .ref aM_who, .int M_token, .int M_depth, .int M_ordersRead, .int M_isSpring, .int M_itsSeat, .ref aM_now, .ref aM_kept, .ref aM_stack])), (aM_tape, .inl (cI, 2000, .inl M_tape))]) rfl rfl rfl rfl (by decide) (fun u2 : Unit => [(aM, .inr (9, [.int M_thrown, .ref aM_tape, .int M_size, .int M_errorAt, .ref aQ, .ref aM_kind, .ref aM_from, .ref aM_means, .ref aM_value, .ref aM_who, .int M_token, .int M_depth, .int M_ordersRead, .int M_isSpring, .int M_itsSeat, .ref aM_now, .ref aM_kept, .ref aM_stack])), (aM_tape, .inl (cI, 2000, .inl M_tape))]) [0, 1] rfl (fun _ => rfl) (rest := []) rfl (Nat.le_of_ble_eq_true rfl) dX10_endOf_22 (fun r2 u2 h => ?_)
    obtain ⟨hb2, h⟩ := h
    refine q_if_ne C 39 dX10_endOf_25 (by decide) h (fun h => ?_) (fun h => ?_)
    · exact bX10_endOf_39 C (KL17 := (wX10_endOf_17 K M_tape M_size n)) hret ih _ _ h
    · refine q_aload_n C dX10_endOf_28 0 rfl ?_
      refine q_iload_n C dX10_endOf_29 2 rfl ?_
      refine q_callVI C (cX10_byteOf_ok _ h) cf_X10_213 im_X10_byteOf se_X10_byteOf 9 rfl rfl rfl rfl ⟨Nat.le_of_ble_eq_true rfl, Nat.le_of_ble_eq_true rfl⟩ ⟨Nat.le_of_ble_eq_true rfl, Nat.le_of_ble_eq_true rfl⟩ 0 0 ⟨rfl, rfl⟩ [0, 1] [] (wr := []) rfl rfl rfl rfl (by decide) (fun u3 : Unit => [(aM, .inr (9, [.int M_thrown, .ref aM_tape, .int M_size, .int M_errorAt, .ref aQ, .ref aM_kind, .ref aM_from, .ref aM_means, .ref aM_value, .ref aM_who, .int M_token, .int M_depth, .int M_ordersRead, .int M_isSpring, .int M_itsSeat, .ref aM_now, .ref aM_kept, .ref aM_stack])), (aM_tape, .inl (cI, 2000, .inl M_tape))]) [0, 1] rfl (fun _ => rfl) (rest := []) rfl (Nat.le_of_ble_eq_true rfl) dX10_endOf_30 (fun r3 u3 h => ?_)
      refine q_callSI C (cX10_isDigit_ok _ h) cf_X10_219 st_X10_isDigit rfl ⟨Nat.le_of_ble_eq_true rfl, Nat.le_of_ble_eq_true rfl⟩ ⟨Nat.le_of_ble_eq_true rfl, Nat.le_of_ble_eq_true rfl⟩ 0 0 ⟨rfl, rfl⟩ [] [0, 1] (wr := [(aM, .inr (9, [.int M_thrown, .ref aM_tape, .int M_size, .int M_errorAt, .ref aQ, .ref aM_kind, .ref aM_from, .ref aM_means, .ref aM_value, .ref aM_who, .int M_token, .int M_depth, .int M_ordersRead, .int M_isSpring, .int M_itsSeat, .ref aM_now, .ref aM_kept, .ref aM_stack])), (aM_tape, .inl (cI, 2000, .inl M_tape))]) rfl rfl rfl rfl (by decide) (fun u4 : Unit => [(aM, .inr (9, [.int M_thrown, .ref aM_tape, .int M_size, .int M_errorAt, .ref aQ, .ref aM_kind, .ref aM_from, .ref aM_means, .ref aM_value, .ref aM_who, .int M_token, .int M_depth, .int M_ordersRead, .int M_isSpring, .int M_itsSeat, .ref aM_now, .ref aM_kept, .ref aM_stack])), (aM_tape, .inl (cI, 2000, .inl M_tape))]) [0, 1] rfl (fun _ => rfl) (rest := []) rfl (Nat.le_of_ble_eq_true rfl) dX10_endOf_33 (fun r4 u4 h => ?_)
      obtain ⟨hb4, h⟩ := h
      refine q_if_eq C 45 dX10_endOf_36 (by decide) h (fun h => ?_) (fun h => ?_)
      · exact bX10_endOf_45 C  hret  _ _ h
      · exact bX10_endOf_39 C (KL17 := (wX10_endOf_17 K M_tape M_size n)) hret ih _ _ h
def wX10_endOf (M_tape : Nat → Int32) (M_size : Int32) (p0 : Int32) (K : Int32 → Unit → Prop) : Prop :=
  wX10_byteOf M_tape M_size p0 (fun r1 u1 => wX10_isSmall r1 (fun r2 u2 => ((r2 = 0 → wX10_endOf_45 K M_tape M_size r1 (p0 + 1)) ∧ (¬ r2 = 0 → ∃ k9 : Nat, wX10_endOf_17 K M_tape M_size k9 r1 (p0 + 1)))))
set_option maxRecDepth 100000 in
set_option maxHeartbeats 4000000 in
theorem bX10_endOf {D : gD} {cB cI cJ cZ : ClassId} {E : gE} {A : Nat → Prop} {Q : State → Prop} {aM aM_tape aQ aM_kind aM_from aM_means aM_value aM_who aM_now aM_kept aM_stack : Nat} {M_thrown M_size M_errorAt M_token M_depth M_ordersRead M_isSpring M_itsSeat : Int32} {M_tape : Nat → Int32} (C : Cx D (gT cB cI cJ cZ) E rmX10_endOf cX10_endOf 4 RX10 A) {p0 : Int32} {K : Int32 → Unit → Prop} (hret : ∀ (r : Int32) (u : Unit) (pc : Nat) (ls : List (Nat × Value)), K r u → decode cX10_endOf pc = .ok (.ireturn, 1) → Go D E A Q 4 0 0 [(aM, .inr (9, [.int M_thrown, .ref aM_tape, .int M_size, .int M_errorAt, .ref aQ, .ref aM_kind, .ref aM_from, .ref aM_means, .ref aM_value, .ref aM_who, .int M_token, .int M_depth, .int M_ordersRead, .int M_isSpring, .int M_itsSeat, .ref aM_now, .ref aM_kept, .ref aM_stack])), (aM_tape, .inl (cI, 2000, .inl M_tape))] ls pc [.int r]) (h : wX10_endOf M_tape M_size p0 K) : Go D E A Q 4 0 0 [(aM, .inr (9, [.int M_thrown, .ref aM_tape, .int M_size, .int M_errorAt, .ref aQ, .ref aM_kind, .ref aM_from, .ref aM_means, .ref aM_value, .ref aM_who, .int M_token, .int M_depth, .int M_ordersRead, .int M_isSpring, .int M_itsSeat, .ref aM_now, .ref aM_kept, .ref aM_stack])), (aM_tape, .inl (cI, 2000, .inl M_tape))] [(0, .ref aM), (1, .int p0)] 0 [] := by
  unfold wX10_endOf at h
  refine q_aload_n C dX10_endOf_0 0 rfl ?_
  refine q_iload_n C dX10_endOf_1 1 rfl ?_
  refine q_callVI C (cX10_byteOf_ok _ h) cf_X10_213 im_X10_byteOf se_X10_byteOf 9 rfl rfl rfl rfl ⟨Nat.le_of_ble_eq_true rfl, Nat.le_of_ble_eq_true rfl⟩ ⟨Nat.le_of_ble_eq_true rfl, Nat.le_of_ble_eq_true rfl⟩ 0 0 ⟨rfl, rfl⟩ [0, 1] [] (wr := []) rfl rfl rfl rfl (by decide) (fun u1 : Unit => [(aM, .inr (9, [.int M_thrown, .ref aM_tape, .int M_size, .int M_errorAt, .ref aQ, .ref aM_kind, .ref aM_from, .ref aM_means, .ref aM_value, .ref aM_who, .int M_token, .int M_depth, .int M_ordersRead, .int M_isSpring, .int M_itsSeat, .ref aM_now, .ref aM_kept, .ref aM_stack])), (aM_tape, .inl (cI, 2000, .inl M_tape))]) [0, 1] rfl (fun _ => rfl) (rest := []) rfl (Nat.le_of_ble_eq_true rfl) dX10_endOf_2 (fun r1 u1 h => ?_)
  refine q_istore_n C [(2, .int r1), (0, .ref aM), (1, .int p0)] dX10_endOf_5 (by decide) rfl ?_
  refine q_iload_n C dX10_endOf_6 2 rfl ?_
  refine q_iconst C (v := 1) dX10_endOf_7 (by decide) ?_
  refine q_iadd C dX10_endOf_8 ?_
  refine q_istore_n C [(3, .int (p0 + 1)), (2, .int r1), (0, .ref aM), (1, .int p0)] dX10_endOf_9 (by decide) rfl ?_
  refine q_iload_n C dX10_endOf_10 1 rfl ?_
  refine q_callSI C (cX10_isSmall_ok _ h) cf_X10_216 st_X10_isSmall rfl ⟨Nat.le_of_ble_eq_true rfl, Nat.le_of_ble_eq_true rfl⟩ ⟨Nat.le_of_ble_eq_true rfl, Nat.le_of_ble_eq_true rfl⟩ 0 0 ⟨rfl, rfl⟩ [] [0, 1] (wr := [(aM, .inr (9, [.int M_thrown, .ref aM_tape, .int M_size, .int M_errorAt, .ref aQ, .ref aM_kind, .ref aM_from, .ref aM_means, .ref aM_value, .ref aM_who, .int M_token, .int M_depth, .int M_ordersRead, .int M_isSpring, .int M_itsSeat, .ref aM_now, .ref aM_kept, .ref aM_stack])), (aM_tape, .inl (cI, 2000, .inl M_tape))]) rfl rfl rfl rfl (by decide) (fun u2 : Unit => [(aM, .inr (9, [.int M_thrown, .ref aM_tape, .int M_size, .int M_errorAt, .ref aQ, .ref aM_kind, .ref aM_from, .ref aM_means, .ref aM_value, .ref aM_who, .int M_token, .int M_depth, .int M_ordersRead, .int M_isSpring, .int M_itsSeat, .ref aM_now, .ref aM_kept, .ref aM_stack])), (aM_tape, .inl (cI, 2000, .inl M_tape))]) [0, 1] rfl (fun _ => rfl) (rest := []) rfl (Nat.le_of_ble_eq_true rfl) dX10_endOf_11 (fun r2 u2 h => ?_)
  obtain ⟨hb2, h⟩ := h
  refine q_if_eq C 45 dX10_endOf_14 (by decide) h (fun h => ?_) (fun h => ?_)
  · refine q_ls [(0, .ref aM), (2, .int r1), (3, .int (p0 + 1))] [2, 1, 0] rfl ?_
    exact bX10_endOf_45 C  hret  _ _ h
  · refine q_ls [(0, .ref aM), (2, .int r1), (3, .int (p0 + 1))] [2, 1, 0] rfl ?_
    obtain ⟨n1, h⟩ := h
    exact bX10_endOf_17 C  hret  n1 _ _ h
theorem cX10_endOf_ok (l : Launch) {D : gD} {cB cI cJ cZ : ClassId} {aM aM_tape aQ aM_kind aM_from aM_means aM_value aM_who aM_now aM_kept aM_stack : Nat} {M_thrown M_size M_errorAt M_token M_depth M_ordersRead M_isSpring M_itsSeat : Int32} {M_tape : Nat → Int32} {p0 : Int32} {K : Int32 → Unit → Prop} (h : wX10_endOf M_tape M_size p0 K) : CtI l D (gT cB cI cJ cZ) yX10_endOf cX10_endOf 4 .int rmX10_endOf [.ref aM, .int p0] [(aM, .inr (9, [.int M_thrown, .ref aM_tape, .int M_size, .int M_errorAt, .ref aQ, .ref aM_kind, .ref aM_from, .ref aM_means, .ref aM_value, .ref aM_who, .int M_token, .int M_depth, .int M_ordersRead, .int M_isSpring, .int M_itsSeat, .ref aM_now, .ref aM_kept, .ref aM_stack])), (aM_tape, .inl (cI, 2000, .inl M_tape))] (fun u : Unit => [(aM, .inr (9, [.int M_thrown, .ref aM_tape, .int M_size, .int M_errorAt, .ref aQ, .ref aM_kind, .ref aM_from, .ref aM_means, .ref aM_value, .ref aM_who, .int M_token, .int M_depth, .int M_ordersRead, .int M_isSpring, .int M_itsSeat, .ref aM_now, .ref aM_kept, .ref aM_stack])), (aM_tape, .inl (cI, 2000, .inl M_tape))]) K :=
  ct_startI (by decide +kernel) (Nat.le_of_ble_eq_true rfl) (fun E A Q hE C hret => bX10_endOf C (fun r u pc ls hk hd => hret r u pc ls rfl hk hd) h)
abbrev rmX10_numberAt : Room := { frames := 0, cells := 0, slots := 0, locals := 0 }
def wX10_numberAt_6 (K : Int32 → (Nat → Int64) → Prop) (M_tape : Nat → Int32) : Nat → (Nat → Int64) → Int32 → Int32 → Int32 → Int32 → Prop
  | 0, _, _, _, _, _ => False
  | n + 1, M_value, x1, x3, x4, x5 =>
  ((x3 ≤ x5 → vp_in x1 401 ∧ (K 31 (vp_updL M_value x1.toNatClampNeg x4.toInt64))) ∧ (¬ x3 ≤ x5 → vp_in x5 2000 ∧ (wX10_numberAt_6 K M_tape n M_value x1 x3 (((10 * x4) + (M_tape x5.toNatClampNeg)) - 48) (x5 + 1))))
set_option maxRecDepth 100000 in
set_option maxHeartbeats 4000000 in
theorem bX10_numberAt_6 {D : gD} {cB cI cJ cZ : ClassId} {E : gE} {A : Nat → Prop} {Q : State → Prop} {aM aM_tape aM_value aQ aM_kind aM_from aM_means aM_who aM_now aM_kept aM_stack : Nat} {M_thrown M_size M_errorAt M_token M_depth M_ordersRead M_isSpring M_itsSeat : Int32} {M_tape : Nat → Int32} (C : Cx D (gT cB cI cJ cZ) E rmX10_numberAt cX10_numberAt 6 RX10 A) {K : Int32 → (Nat → Int64) → Prop} (hret : ∀ (r : Int32) (u : (Nat → Int64)) (pc : Nat) (ls : List (Nat × Value)), K r u → decode cX10_numberAt pc = .ok (.ireturn, 1) → Go D E A Q 6 0 0 [(aM, .inr (9, [.int M_thrown, .ref aM_tape, .int M_size, .int M_errorAt, .ref aQ, .ref aM_kind, .ref aM_from, .ref aM_means, .ref aM_value, .ref aM_who, .int M_token, .int M_depth, .int M_ordersRead, .int M_isSpring, .int M_itsSeat, .ref aM_now, .ref aM_kept, .ref aM_stack])), (aM_tape, .inl (cI, 2000, .inl M_tape)), (aM_value, .inl (cJ, 401, .inr (.inl u)))] ls pc [.int r]) : ∀ (n : Nat) (M_value : Nat → Int64) (x1 : Int32) (x3 : Int32) (x4 : Int32) (x5 : Int32), wX10_numberAt_6 K M_tape n M_value x1 x3 x4 x5 → Go D E A Q 6 0 0 [(aM, .inr (9, [.int M_thrown, .ref aM_tape, .int M_size, .int M_errorAt, .ref aQ, .ref aM_kind, .ref aM_from, .ref aM_means, .ref aM_value, .ref aM_who, .int M_token, .int M_depth, .int M_ordersRead, .int M_isSpring, .int M_itsSeat, .ref aM_now, .ref aM_kept, .ref aM_stack])), (aM_tape, .inl (cI, 2000, .inl M_tape)), (aM_value, .inl (cJ, 401, .inr (.inl M_value)))] [(0, .ref aM), (1, .int x1), (3, .int x3), (4, .int x4), (5, .int x5)] 6 [] := by
  intro n
  induction n with
  | zero =>
    intro M_value x1 x3 x4 x5 h
    exact h.elim
  | succ n ih =>
    intro M_value x1 x3 x4 x5 h
    unfold wX10_numberAt_6 at h
    refine q_iload C dX10_numberAt_6 4 rfl ?_
    refine q_iload_n C dX10_numberAt_8 2 rfl ?_
    refine q_icmp_ge C 36 dX10_numberAt_9 (by decide) h (fun h => ?_) (fun h => ?_)
    · refine q_aload_n C dX10_numberAt_36 0 rfl ?_
      refine q_get C inX10g rfl 8 (by decide) fl_X10_33 rfl 0 rfl rfl dX10_numberAt_37 ?_
      refine q_iload_n C dX10_numberAt_40 1 rfl ?_
      refine q_iload C dX10_numberAt_41 3 rfl ?_
      refine q_i2l C dX10_numberAt_43 ?_
      refine q_last C 2 2 [(aM, .inr (9, [.int M_thrown, .ref aM_tape, .int M_size, .int M_errorAt, .ref aQ, .ref aM_kind, .ref aM_from, .ref aM_means, .ref aM_value, .ref aM_who, .int M_token, .int M_depth, .int M_ordersRead, .int M_isSpring, .int M_itsSeat, .ref aM_now, .ref aM_kept, .ref aM_stack])), (aM_tape, .inl (cI, 2000, .inl M_tape)), (aM_value, .inl (cJ, 401, .inr (.inl (vp_updL M_value x1.toNatClampNeg x4.toInt64))))] rfl rfl rfl dX10_numberAt_44 h (fun h => ?_)
      refine q_bipush C (v := 31) dX10_numberAt_45 (by decide) ?_
      exact hret 31 (vp_updL M_value x1.toNatClampNeg x4.toInt64) _ _ h dX10_numberAt_47
    · refine q_bipush C (v := 10) dX10_numberAt_12 (by decide) ?_
      refine q_iload C dX10_numberAt_14 3 rfl ?_
      refine q_imul C dX10_numberAt_16 ?_
      refine q_aload_n C dX10_numberAt_17 0 rfl ?_
      refine q_get C inX10g rfl 1 (by decide) fl_X10_9 rfl 0 rfl rfl dX10_numberAt_18 ?_
      refine q_iload C dX10_numberAt_21 4 rfl ?_
      refine q_iald C 1 1 rfl rfl dX10_numberAt_23 h (fun h => ?_)
      refine q_iadd C dX10_numberAt_24 ?_
      refine q_bipush C (v := 48) dX10_numberAt_25 (by decide) ?_
      refine q_isub C dX10_numberAt_27 ?_
      refine q_istore C [(4, .int (((10 * x4) + (M_tape x5.toNatClampNeg)) - 48)), (0, .ref aM), (1, .int x1), (3, .int x3), (5, .int x5)] dX10_numberAt_28 (by decide) rfl ?_
      refine q_iinc C (v := x5 + 1) [(5, .int (x5 + 1)), (4, .int (((10 * x4) + (M_tape x5.toNatClampNeg)) - 48)), (0, .ref aM), (1, .int x1), (3, .int x3)] dX10_numberAt_30 4 rfl rfl (by decide) rfl ?_
      refine q_goto (tgt := 6) C dX10_numberAt_33 (by decide) ?_
      refine q_ls [(0, .ref aM), (1, .int x1), (3, .int x3), (4, .int (((10 * x4) + (M_tape x5.toNatClampNeg)) - 48)), (5, .int (x5 + 1))] [2, 3, 4, 1, 0] rfl ?_
      exact ih _ _ _ _ _ h
def wX10_numberAt (M_tape : Nat → Int32) (M_value : Nat → Int64) (p0 : Int32) (p1 : Int32) (p2 : Int32) (K : Int32 → (Nat → Int64) → Prop) : Prop :=
  ∃ k9 : Nat, wX10_numberAt_6 K M_tape k9 M_value p0 p2 0 p1
set_option maxRecDepth 100000 in
set_option maxHeartbeats 4000000 in
theorem bX10_numberAt {D : gD} {cB cI cJ cZ : ClassId} {E : gE} {A : Nat → Prop} {Q : State → Prop} {aM aM_tape aM_value aQ aM_kind aM_from aM_means aM_who aM_now aM_kept aM_stack : Nat} {M_thrown M_size M_errorAt M_token M_depth M_ordersRead M_isSpring M_itsSeat : Int32} {M_tape : Nat → Int32} {M_value : Nat → Int64} (C : Cx D (gT cB cI cJ cZ) E rmX10_numberAt cX10_numberAt 6 RX10 A) {p0 : Int32} {p1 : Int32} {p2 : Int32} {K : Int32 → (Nat → Int64) → Prop} (hret : ∀ (r : Int32) (u : (Nat → Int64)) (pc : Nat) (ls : List (Nat × Value)), K r u → decode cX10_numberAt pc = .ok (.ireturn, 1) → Go D E A Q 6 0 0 [(aM, .inr (9, [.int M_thrown, .ref aM_tape, .int M_size, .int M_errorAt, .ref aQ, .ref aM_kind, .ref aM_from, .ref aM_means, .ref aM_value, .ref aM_who, .int M_token, .int M_depth, .int M_ordersRead, .int M_isSpring, .int M_itsSeat, .ref aM_now, .ref aM_kept, .ref aM_stack])), (aM_tape, .inl (cI, 2000, .inl M_tape)), (aM_value, .inl (cJ, 401, .inr (.inl u)))] ls pc [.int r]) (h : wX10_numberAt M_tape M_value p0 p1 p2 K) : Go D E A Q 6 0 0 [(aM, .inr (9, [.int M_thrown, .ref aM_tape, .int M_size, .int M_errorAt, .ref aQ, .ref aM_kind, .ref aM_from, .ref aM_means, .ref aM_value, .ref aM_who, .int M_token, .int M_depth, .int M_ordersRead, .int M_isSpring, .int M_itsSeat, .ref aM_now, .ref aM_kept, .ref aM_stack])), (aM_tape, .inl (cI, 2000, .inl M_tape)), (aM_value, .inl (cJ, 401, .inr (.inl M_value)))] [(0, .ref aM), (1, .int p0), (2, .int p1), (3, .int p2)] 0 [] := by
  unfold wX10_numberAt at h
  refine q_iconst C (v := 0) dX10_numberAt_0 (by decide) ?_
  refine q_istore C [(4, .int 0), (0, .ref aM), (1, .int p0), (2, .int p1), (3, .int p2)] dX10_numberAt_1 (by decide) rfl ?_
  refine q_iload_n C dX10_numberAt_3 3 rfl ?_
  refine q_istore C [(5, .int p1), (4, .int 0), (0, .ref aM), (1, .int p0), (2, .int p1), (3, .int p2)] dX10_numberAt_4 (by decide) rfl ?_
  refine q_ls [(0, .ref aM), (1, .int p0), (3, .int p2), (4, .int 0), (5, .int p1)] [2, 3, 5, 1, 0] rfl ?_
  obtain ⟨n1, h⟩ := h
  exact bX10_numberAt_6 C  hret  n1 _ _ _ _ _ h
theorem cX10_numberAt_ok (l : Launch) {D : gD} {cB cI cJ cZ : ClassId} {aM aM_tape aM_value aQ aM_kind aM_from aM_means aM_who aM_now aM_kept aM_stack : Nat} {M_thrown M_size M_errorAt M_token M_depth M_ordersRead M_isSpring M_itsSeat : Int32} {M_tape : Nat → Int32} {M_value : Nat → Int64} {p0 : Int32} {p1 : Int32} {p2 : Int32} {K : Int32 → (Nat → Int64) → Prop} (h : wX10_numberAt M_tape M_value p0 p1 p2 K) : CtI l D (gT cB cI cJ cZ) yX10_numberAt cX10_numberAt 6 .int rmX10_numberAt [.ref aM, .int p0, .int p1, .int p2] [(aM, .inr (9, [.int M_thrown, .ref aM_tape, .int M_size, .int M_errorAt, .ref aQ, .ref aM_kind, .ref aM_from, .ref aM_means, .ref aM_value, .ref aM_who, .int M_token, .int M_depth, .int M_ordersRead, .int M_isSpring, .int M_itsSeat, .ref aM_now, .ref aM_kept, .ref aM_stack])), (aM_tape, .inl (cI, 2000, .inl M_tape)), (aM_value, .inl (cJ, 401, .inr (.inl M_value)))] (fun u : (Nat → Int64) => [(aM, .inr (9, [.int M_thrown, .ref aM_tape, .int M_size, .int M_errorAt, .ref aQ, .ref aM_kind, .ref aM_from, .ref aM_means, .ref aM_value, .ref aM_who, .int M_token, .int M_depth, .int M_ordersRead, .int M_isSpring, .int M_itsSeat, .ref aM_now, .ref aM_kept, .ref aM_stack])), (aM_tape, .inl (cI, 2000, .inl M_tape)), (aM_value, .inl (cJ, 401, .inr (.inl u)))]) K :=
  ct_startI (by decide +kernel) (Nat.le_of_ble_eq_true rfl) (fun E A Q hE C hret => bX10_numberAt C (fun r u pc ls hk hd => hret r u pc ls rfl hk hd) h)
abbrev rmX10_letter : Room := { frames := 1, cells := 0, slots := 0, locals := 20 }
def wX10_letter (p0 : Int32) (K : Int32 → Unit → Prop) : Prop :=
  wX10_isSmall p0 (fun r1 u1 => ((r1 = 0 → K ((p0 - 48) + 27) ()) ∧ (¬ r1 = 0 → K ((p0 - 97) + 1) ())))
set_option maxRecDepth 100000 in
set_option maxHeartbeats 4000000 in
theorem bX10_letter {D : gD} {cB cI cJ cZ : ClassId} {E : gE} {A : Nat → Prop} {Q : State → Prop} (C : Cx D (gT cB cI cJ cZ) E rmX10_letter cX10_letter 1 RX10 A) {p0 : Int32} {K : Int32 → Unit → Prop} (hret : ∀ (r : Int32) (u : Unit) (pc : Nat) (ls : List (Nat × Value)), K r u → decode cX10_letter pc = .ok (.ireturn, 1) → Go D E A Q 1 0 0 [] ls pc [.int r]) (h : wX10_letter p0 K) : Go D E A Q 1 0 0 [] [(0, .int p0)] 0 [] := by
  unfold wX10_letter at h
  refine q_iload_n C dX10_letter_0 0 rfl ?_
  refine q_callSI C (cX10_isSmall_ok _ h) cf_X10_216 st_X10_isSmall rfl ⟨Nat.le_of_ble_eq_true rfl, Nat.le_of_ble_eq_true rfl⟩ ⟨Nat.le_of_ble_eq_true rfl, Nat.le_of_ble_eq_true rfl⟩ 0 0 ⟨rfl, rfl⟩ [] [] (wr := []) rfl rfl rfl rfl (by decide) (fun u1 : Unit => []) [] rfl (fun _ => rfl) (rest := []) rfl (Nat.le_of_ble_eq_true rfl) dX10_letter_1 (fun r1 u1 h => ?_)
  obtain ⟨hb1, h⟩ := h
  refine q_if_eq C 16 dX10_letter_4 (by decide) h (fun h => ?_) (fun h => ?_)
  · refine q_iload_n C dX10_letter_16 0 rfl ?_
    refine q_bipush C (v := 48) dX10_letter_17 (by decide) ?_
    refine q_isub C dX10_letter_19 ?_
    refine q_bipush C (v := 27) dX10_letter_20 (by decide) ?_
    refine q_iadd C dX10_letter_22 ?_
    exact hret ((p0 - 48) + 27) () _ _ h dX10_letter_23
  · refine q_iload_n C dX10_letter_7 0 rfl ?_
    refine q_bipush C (v := 97) dX10_letter_8 (by decide) ?_
    refine q_isub C dX10_letter_10 ?_
    refine q_iconst C (v := 1) dX10_letter_11 (by decide) ?_
    refine q_iadd C dX10_letter_12 ?_
    refine q_goto (tgt := 23) C dX10_letter_13 (by decide) ?_
    exact hret ((p0 - 97) + 1) () _ _ h dX10_letter_23
theorem cX10_letter_ok (l : Launch) {D : gD} {cB cI cJ cZ : ClassId} {p0 : Int32} {K : Int32 → Unit → Prop} (h : wX10_letter p0 K) : CtI l D (gT cB cI cJ cZ) yX10_letter cX10_letter 1 .int rmX10_letter [.int p0] [] (fun u : Unit => []) K :=
  ct_startI (by decide +kernel) (Nat.le_of_ble_eq_true rfl) (fun E A Q hE C hret => bX10_letter C (fun r u pc ls hk hd => hret r u pc ls rfl hk hd) h)
abbrev rmX10_eat : Room := { frames := 0, cells := 0, slots := 0, locals := 0 }
def wX10_eat (M_kind : Nat → Int32) (M_token : Int32) (p0 : Int32) (K : Int32 → Int32 → Prop) : Prop :=
  vp_in M_token 401 ∧ (((M_kind M_token.toNatClampNeg = p0 → K 1 (M_token + 1)) ∧ (¬ M_kind M_token.toNatClampNeg = p0 → K 0 (M_token))))
set_option maxRecDepth 100000 in
set_option maxHeartbeats 4000000 in
theorem bX10_eat {D : gD} {cB cI cJ cZ : ClassId} {E : gE} {A : Nat → Prop} {Q : State → Prop} {aM aM_kind aM_tape aQ aM_from aM_means aM_value aM_who aM_now aM_kept aM_stack : Nat} {M_thrown M_size M_errorAt M_token M_depth M_ordersRead M_isSpring M_itsSeat : Int32} {M_kind : Nat → Int32} (C : Cx D (gT cB cI cJ cZ) E rmX10_eat cX10_eat 2 RX10 A) {p0 : Int32} {K : Int32 → Int32 → Prop} (hret : ∀ (r : Int32) (u : Int32) (pc : Nat) (ls : List (Nat × Value)), (r = 0 ∨ r = 1) → K r u → decode cX10_eat pc = .ok (.ireturn, 1) → Go D E A Q 2 0 0 [(aM, .inr (9, [.int M_thrown, .ref aM_tape, .int M_size, .int M_errorAt, .ref aQ, .ref aM_kind, .ref aM_from, .ref aM_means, .ref aM_value, .ref aM_who, .int u, .int M_depth, .int M_ordersRead, .int M_isSpring, .int M_itsSeat, .ref aM_now, .ref aM_kept, .ref aM_stack])), (aM_kind, .inl (cI, 401, .inl M_kind))] ls pc [.int r]) (h : wX10_eat M_kind M_token p0 K) : Go D E A Q 2 0 0 [(aM, .inr (9, [.int M_thrown, .ref aM_tape, .int M_size, .int M_errorAt, .ref aQ, .ref aM_kind, .ref aM_from, .ref aM_means, .ref aM_value, .ref aM_who, .int M_token, .int M_depth, .int M_ordersRead, .int M_isSpring, .int M_itsSeat, .ref aM_now, .ref aM_kept, .ref aM_stack])), (aM_kind, .inl (cI, 401, .inl M_kind))] [(0, .ref aM), (1, .int p0)] 0 [] := by
  unfold wX10_eat at h
  refine q_aload_n C dX10_eat_0 0 rfl ?_
  refine q_get C inX10g rfl 5 (by decide) fl_X10_24 rfl 0 rfl rfl dX10_eat_1 ?_
  refine q_aload_n C dX10_eat_4 0 rfl ?_
  refine q_get C inX10g rfl 10 (by decide) fl_X10_256 rfl 0 rfl rfl dX10_eat_5 ?_
  refine q_iald C 1 1 rfl rfl dX10_eat_8 h (fun h => ?_)
  refine q_iload_n C dX10_eat_9 1 rfl ?_
  refine q_icmp_eq C 15 dX10_eat_10 (by decide) h (fun h => ?_) (fun h => ?_)
  · refine q_aload_n C dX10_eat_15 0 rfl ?_
    refine q_dup C dX10_eat_16 rfl ?_
    refine q_get C inX10g rfl 10 (by decide) fl_X10_256 rfl 0 rfl rfl dX10_eat_17 ?_
    refine q_iconst C (v := 1) dX10_eat_20 (by decide) ?_
    refine q_iadd C dX10_eat_21 ?_
    refine q_put C inX10g tyX10_ok nmX10 rfl 10 (by decide) fl_X10_256 rfl rfl (ty := .int) (by decide +kernel) 0 [(aM, .inr (9, [.int M_thrown, .ref aM_tape, .int M_size, .int M_errorAt, .ref aQ, .ref aM_kind, .ref aM_from, .ref aM_means, .ref aM_value, .ref aM_who, .int (M_token + 1), .int M_depth, .int M_ordersRead, .int M_isSpring, .int M_itsSeat, .ref aM_now, .ref aM_kept, .ref aM_stack])), (aM_kind, .inl (cI, 401, .inl M_kind))] rfl rfl rfl (Nat.le_of_ble_eq_true rfl) rfl dX10_eat_22 ?_
    refine q_iconst C (v := 1) dX10_eat_25 (by decide) ?_
    exact hret 1 (M_token + 1) _ _ (Or.inr rfl) h dX10_eat_26
  · refine q_iconst C (v := 0) dX10_eat_13 (by decide) ?_
    exact hret 0 (M_token) _ _ (Or.inl rfl) h dX10_eat_14
theorem cX10_eat_ok (l : Launch) {D : gD} {cB cI cJ cZ : ClassId} {aM aM_kind aM_tape aQ aM_from aM_means aM_value aM_who aM_now aM_kept aM_stack : Nat} {M_thrown M_size M_errorAt M_token M_depth M_ordersRead M_isSpring M_itsSeat : Int32} {M_kind : Nat → Int32} {p0 : Int32} {K : Int32 → Int32 → Prop} (h : wX10_eat M_kind M_token p0 K) : CtI l D (gT cB cI cJ cZ) yX10_eat cX10_eat 2 .boolean rmX10_eat [.ref aM, .int p0] [(aM, .inr (9, [.int M_thrown, .ref aM_tape, .int M_size, .int M_errorAt, .ref aQ, .ref aM_kind, .ref aM_from, .ref aM_means, .ref aM_value, .ref aM_who, .int M_token, .int M_depth, .int M_ordersRead, .int M_isSpring, .int M_itsSeat, .ref aM_now, .ref aM_kept, .ref aM_stack])), (aM_kind, .inl (cI, 401, .inl M_kind))] (fun u : Int32 => [(aM, .inr (9, [.int M_thrown, .ref aM_tape, .int M_size, .int M_errorAt, .ref aQ, .ref aM_kind, .ref aM_from, .ref aM_means, .ref aM_value, .ref aM_who, .int u, .int M_depth, .int M_ordersRead, .int M_isSpring, .int M_itsSeat, .ref aM_now, .ref aM_kept, .ref aM_stack])), (aM_kind, .inl (cI, 401, .inl M_kind))]) (fun r u => (r = 0 ∨ r = 1) ∧ K r u) :=
  ct_startI (by decide +kernel) (Nat.le_of_ble_eq_true rfl) (fun E A Q hE C hret => bX10_eat C (fun r u pc ls hb hk hd => hret r u pc ls (nar_bit hb) ⟨hb, hk⟩ hd) h)
abbrev rmX10_eatAs : Room := { frames := 1, cells := 0, slots := 0, locals := 21 }
def wX10_eatAs (M_kind : Nat → Int32) (M_means : Nat → Int32) (M_token : Int32) (p0 : Int32) (p1 : Int32) (K : Int32 → ((Nat → Int32) × Int32) → Prop) : Prop :=
  vp_in M_token 401 ∧ (wX10_eat M_kind M_token p0 (fun r1 u1 => K r1 (upd M_means M_token.toNatClampNeg p1, u1)))
set_option maxRecDepth 100000 in
set_option maxHeartbeats 4000000 in
theorem bX10_eatAs {D : gD} {cB cI cJ cZ : ClassId} {E : gE} {A : Nat → Prop} {Q : State → Prop} {aM aM_kind aM_means aM_tape aQ aM_from aM_value aM_who aM_now aM_kept aM_stack : Nat} {M_thrown M_size M_errorAt M_token M_depth M_ordersRead M_isSpring M_itsSeat : Int32} {M_kind M_means : Nat → Int32} (C : Cx D (gT cB cI cJ cZ) E rmX10_eatAs cX10_eatAs 3 RX10 A) {p0 : Int32} {p1 : Int32} {K : Int32 → ((Nat → Int32) × Int32) → Prop} (hret : ∀ (r : Int32) (u : (Nat → Int32) × Int32) (pc : Nat) (ls : List (Nat × Value)), (r = 0 ∨ r = 1) → K r u → decode cX10_eatAs pc = .ok (.ireturn, 1) → Go D E A Q 3 0 0 [(aM, .inr (9, [.int M_thrown, .ref aM_tape, .int M_size, .int M_errorAt, .ref aQ, .ref aM_kind, .ref aM_from, .ref aM_means, .ref aM_value, .ref aM_who, .int u.2, .int M_depth, .int M_ordersRead, .int M_isSpring, .int M_itsSeat, .ref aM_now, .ref aM_kept, .ref aM_stack])), (aM_kind, .inl (cI, 401, .inl M_kind)), (aM_means, .inl (cI, 401, .inl u.1))] ls pc [.int r]) (h : wX10_eatAs M_kind M_means M_token p0 p1 K) : Go D E A Q 3 0 0 [(aM, .inr (9, [.int M_thrown, .ref aM_tape, .int M_size, .int M_errorAt, .ref aQ, .ref aM_kind, .ref aM_from, .ref aM_means, .ref aM_value, .ref aM_who, .int M_token, .int M_depth, .int M_ordersRead, .int M_isSpring, .int M_itsSeat, .ref aM_now, .ref aM_kept, .ref aM_stack])), (aM_kind, .inl (cI, 401, .inl M_kind)), (aM_means, .inl (cI, 401, .inl M_means))] [(0, .ref aM), (1, .int p0), (2, .int p1)] 0 [] := by
  unfold wX10_eatAs at h
  refine q_aload_n C dX10_eatAs_0 0 rfl ?_
  refine q_get C inX10g rfl 7 (by decide) fl_X10_30 rfl 0 rfl rfl dX10_eatAs_1 ?_
  refine q_aload_n C dX10_eatAs_4 0 rfl ?_
  refine q_get C inX10g rfl 10 (by decide) fl_X10_256 rfl 0 rfl rfl dX10_eatAs_5 ?_
  refine q_iload_n C dX10_eatAs_8 2 rfl ?_
  refine q_iast C 2 1 [(aM, .inr (9, [.int M_thrown, .ref aM_tape, .int M_size, .int M_errorAt, .ref aQ, .ref aM_kind, .ref aM_from, .ref aM_means, .ref aM_value, .ref aM_who, .int M_token, .int M_depth, .int M_ordersRead, .int M_isSpring, .int M_itsSeat, .ref aM_now, .ref aM_kept, .ref aM_stack])), (aM_kind, .inl (cI, 401, .inl M_kind)), (aM_means, .inl (cI, 401, .inl (upd M_means M_token.toNatClampNeg p1)))] rfl rfl rfl dX10_eatAs_9 h (fun h => ?_)
  refine q_aload_n C dX10_eatAs_10 0 rfl ?_
  refine q_iload_n C dX10_eatAs_11 1 rfl ?_
  refine q_callVI C (cX10_eat_ok _ h) cf_X10_259 im_X10_eat se_X10_eat 9 rfl rfl rfl rfl ⟨Nat.le_of_ble_eq_true rfl, Nat.le_of_ble_eq_true rfl⟩ ⟨Nat.le_of_ble_eq_true rfl, Nat.le_of_ble_eq_true rfl⟩ 0 0 ⟨rfl, rfl⟩ [0, 1] [2] (wr := [(aM_means, .inl (cI, 401, .inl (upd M_means M_token.toNatClampNeg p1)))]) rfl rfl rfl rfl (by decide) (fun u1 : Int32 => [(aM, .inr (9, [.int M_thrown, .ref aM_tape, .int M_size, .int M_errorAt, .ref aQ, .ref aM_kind, .ref aM_from, .ref aM_means, .ref aM_value, .ref aM_who, .int u1, .int M_depth, .int M_ordersRead, .int M_isSpring, .int M_itsSeat, .ref aM_now, .ref aM_kept, .ref aM_stack])), (aM_kind, .inl (cI, 401, .inl M_kind)), (aM_means, .inl (cI, 401, .inl (upd M_means M_token.toNatClampNeg p1)))]) [1, 2, 0] rfl (fun _ => rfl) (rest := []) rfl (Nat.le_of_ble_eq_true rfl) dX10_eatAs_12 (fun r1 u1 h => ?_)
  obtain ⟨hb1, h⟩ := h
  exact hret r1 (upd M_means M_token.toNatClampNeg p1, u1) _ _ hb1 h dX10_eatAs_15
theorem cX10_eatAs_ok (l : Launch) {D : gD} {cB cI cJ cZ : ClassId} {aM aM_kind aM_means aM_tape aQ aM_from aM_value aM_who aM_now aM_kept aM_stack : Nat} {M_thrown M_size M_errorAt M_token M_depth M_ordersRead M_isSpring M_itsSeat : Int32} {M_kind M_means : Nat → Int32} {p0 : Int32} {p1 : Int32} {K : Int32 → ((Nat → Int32) × Int32) → Prop} (h : wX10_eatAs M_kind M_means M_token p0 p1 K) : CtI l D (gT cB cI cJ cZ) yX10_eatAs cX10_eatAs 3 .boolean rmX10_eatAs [.ref aM, .int p0, .int p1] [(aM, .inr (9, [.int M_thrown, .ref aM_tape, .int M_size, .int M_errorAt, .ref aQ, .ref aM_kind, .ref aM_from, .ref aM_means, .ref aM_value, .ref aM_who, .int M_token, .int M_depth, .int M_ordersRead, .int M_isSpring, .int M_itsSeat, .ref aM_now, .ref aM_kept, .ref aM_stack])), (aM_kind, .inl (cI, 401, .inl M_kind)), (aM_means, .inl (cI, 401, .inl M_means))] (fun u : (Nat → Int32) × Int32 => [(aM, .inr (9, [.int M_thrown, .ref aM_tape, .int M_size, .int M_errorAt, .ref aQ, .ref aM_kind, .ref aM_from, .ref aM_means, .ref aM_value, .ref aM_who, .int u.2, .int M_depth, .int M_ordersRead, .int M_isSpring, .int M_itsSeat, .ref aM_now, .ref aM_kept, .ref aM_stack])), (aM_kind, .inl (cI, 401, .inl M_kind)), (aM_means, .inl (cI, 401, .inl u.1))]) (fun r u => (r = 0 ∨ r = 1) ∧ K r u) :=
  ct_startI (by decide +kernel) (Nat.le_of_ble_eq_true rfl) (fun E A Q hE C hret => bX10_eatAs C (fun r u pc ls hb hk hd => hret r u pc ls (nar_bit hb) ⟨hb, hk⟩ hd) h)
abbrev rmX10_deeper : Room := { frames := 1, cells := 0, slots := 0, locals := 21 }
def wX10_deeper (M_kind : Nat → Int32) (M_token : Int32) (M_depth : Int32) (p0 : Int32) (K : Int32 → (Int32 × Int32) → Prop) : Prop :=
  ((M_depth = 8 → K 0 (M_token, M_depth)) ∧ (¬ M_depth = 8 → wX10_eat M_kind M_token p0 (fun r1 u1 => ((¬ r1 = 0 → K 1 (u1, M_depth + 1)) ∧ (r1 = 0 → K 0 (u1, M_depth))))))
set_option maxRecDepth 100000 in
set_option maxHeartbeats 4000000 in
theorem bX10_deeper {D : gD} {cB cI cJ cZ : ClassId} {E : gE} {A : Nat → Prop} {Q : State → Prop} {aM aM_kind aM_tape aQ aM_from aM_means aM_value aM_who aM_now aM_kept aM_stack : Nat} {M_thrown M_size M_errorAt M_token M_depth M_ordersRead M_isSpring M_itsSeat : Int32} {M_kind : Nat → Int32} (C : Cx D (gT cB cI cJ cZ) E rmX10_deeper cX10_deeper 2 RX10 A) {p0 : Int32} {K : Int32 → (Int32 × Int32) → Prop} (hret : ∀ (r : Int32) (u : Int32 × Int32) (pc : Nat) (ls : List (Nat × Value)), (r = 0 ∨ r = 1) → K r u → decode cX10_deeper pc = .ok (.ireturn, 1) → Go D E A Q 2 0 0 [(aM, .inr (9, [.int M_thrown, .ref aM_tape, .int M_size, .int M_errorAt, .ref aQ, .ref aM_kind, .ref aM_from, .ref aM_means, .ref aM_value, .ref aM_who, .int u.1, .int u.2, .int M_ordersRead, .int M_isSpring, .int M_itsSeat, .ref aM_now, .ref aM_kept, .ref aM_stack])), (aM_kind, .inl (cI, 401, .inl M_kind))] ls pc [.int r]) (h : wX10_deeper M_kind M_token M_depth p0 K) : Go D E A Q 2 0 0 [(aM, .inr (9, [.int M_thrown, .ref aM_tape, .int M_size, .int M_errorAt, .ref aQ, .ref aM_kind, .ref aM_from, .ref aM_means, .ref aM_value, .ref aM_who, .int M_token, .int M_depth, .int M_ordersRead, .int M_isSpring, .int M_itsSeat, .ref aM_now, .ref aM_kept, .ref aM_stack])), (aM_kind, .inl (cI, 401, .inl M_kind))] [(0, .ref aM), (1, .int p0)] 0 [] := by
  unfold wX10_deeper at h
  refine q_aload_n C dX10_deeper_0 0 rfl ?_
  refine q_get C inX10g rfl 11 (by decide) fl_X10_262 rfl 0 rfl rfl dX10_deeper_1 ?_
  refine q_bipush C (v := 8) dX10_deeper_4 (by decide) ?_
  refine q_icmp_eq C 17 dX10_deeper_6 (by decide) h (fun h => ?_) (fun h => ?_)
  · refine q_iconst C (v := 0) dX10_deeper_17 (by decide) ?_
    exact hret 0 (M_token, M_depth) _ _ (Or.inl rfl) h dX10_deeper_18
  · refine q_aload_n C dX10_deeper_9 0 rfl ?_
    refine q_iload_n C dX10_deeper_10 1 rfl ?_
    refine q_callVI C (cX10_eat_ok _ h) cf_X10_259 im_X10_eat se_X10_eat 9 rfl rfl rfl rfl ⟨Nat.le_of_ble_eq_true rfl, Nat.le_of_ble_eq_true rfl⟩ ⟨Nat.le_of_ble_eq_true rfl, Nat.le_of_ble_eq_true rfl⟩ 0 0 ⟨rfl, rfl⟩ [0, 1] [] (wr := []) rfl rfl rfl rfl (by decide) (fun u1 : Int32 => [(aM, .inr (9, [.int M_thrown, .ref aM_tape, .int M_size, .int M_errorAt, .ref aQ, .ref aM_kind, .ref aM_from, .ref aM_means, .ref aM_value, .ref aM_who, .int u1, .int M_depth, .int M_ordersRead, .int M_isSpring, .int M_itsSeat, .ref aM_now, .ref aM_kept, .ref aM_stack])), (aM_kind, .inl (cI, 401, .inl M_kind))]) [0, 1] rfl (fun _ => rfl) (rest := []) rfl (Nat.le_of_ble_eq_true rfl) dX10_deeper_11 (fun r1 u1 h => ?_)
    obtain ⟨hb1, h⟩ := h
    refine q_if_ne C 19 dX10_deeper_14 (by decide) h (fun h => ?_) (fun h => ?_)
    · refine q_aload_n C dX10_deeper_19 0 rfl ?_
      refine q_dup C dX10_deeper_20 rfl ?_
      refine q_get C inX10g rfl 11 (by decide) fl_X10_262 rfl 0 rfl rfl dX10_deeper_21 ?_
      refine q_iconst C (v := 1) dX10_deeper_24 (by decide) ?_
      refine q_iadd C dX10_deeper_25 ?_
      refine q_put C inX10g tyX10_ok nmX10 rfl 11 (by decide) fl_X10_262 rfl rfl (ty := .int) (by decide +kernel) 0 [(aM, .inr (9, [.int M_thrown, .ref aM_tape, .int M_size, .int M_errorAt, .ref aQ, .ref aM_kind, .ref aM_from, .ref aM_means, .ref aM_value, .ref aM_who, .int u1, .int (M_depth + 1), .int M_ordersRead, .int M_isSpring, .int M_itsSeat, .ref aM_now, .ref aM_kept, .ref aM_stack])), (aM_kind, .inl (cI, 401, .inl M_kind))] rfl rfl rfl (Nat.le_of_ble_eq_true rfl) rfl dX10_deeper_26 ?_
      refine q_iconst C (v := 1) dX10_deeper_29 (by decide) ?_
      exact hret 1 (u1, M_depth + 1) _ _ (Or.inr rfl) h dX10_deeper_30
    · refine q_iconst C (v := 0) dX10_deeper_17 (by decide) ?_
      exact hret 0 (u1, M_depth) _ _ (Or.inl rfl) h dX10_deeper_18
theorem cX10_deeper_ok (l : Launch) {D : gD} {cB cI cJ cZ : ClassId} {aM aM_kind aM_tape aQ aM_from aM_means aM_value aM_who aM_now aM_kept aM_stack : Nat} {M_thrown M_size M_errorAt M_token M_depth M_ordersRead M_isSpring M_itsSeat : Int32} {M_kind : Nat → Int32} {p0 : Int32} {K : Int32 → (Int32 × Int32) → Prop} (h : wX10_deeper M_kind M_token M_depth p0 K) : CtI l D (gT cB cI cJ cZ) yX10_deeper cX10_deeper 2 .boolean rmX10_deeper [.ref aM, .int p0] [(aM, .inr (9, [.int M_thrown, .ref aM_tape, .int M_size, .int M_errorAt, .ref aQ, .ref aM_kind, .ref aM_from, .ref aM_means, .ref aM_value, .ref aM_who, .int M_token, .int M_depth, .int M_ordersRead, .int M_isSpring, .int M_itsSeat, .ref aM_now, .ref aM_kept, .ref aM_stack])), (aM_kind, .inl (cI, 401, .inl M_kind))] (fun u : Int32 × Int32 => [(aM, .inr (9, [.int M_thrown, .ref aM_tape, .int M_size, .int M_errorAt, .ref aQ, .ref aM_kind, .ref aM_from, .ref aM_means, .ref aM_value, .ref aM_who, .int u.1, .int u.2, .int M_ordersRead, .int M_isSpring, .int M_itsSeat, .ref aM_now, .ref aM_kept, .ref aM_stack])), (aM_kind, .inl (cI, 401, .inl M_kind))]) (fun r u => (r = 0 ∨ r = 1) ∧ K r u) :=
  ct_startI (by decide +kernel) (Nat.le_of_ble_eq_true rfl) (fun E A Q hE C hret => bX10_deeper C (fun r u pc ls hb hk hd => hret r u pc ls (nar_bit hb) ⟨hb, hk⟩ hd) h)
abbrev rmX10_closes : Room := { frames := 1, cells := 0, slots := 0, locals := 21 }
def wX10_closes (M_kind : Nat → Int32) (M_token : Int32) (M_depth : Int32) (p0 : Int32) (K : Int32 → (Int32 × Int32) → Prop) : Prop :=
  wX10_eat M_kind M_token p0 (fun r1 u1 => ((¬ r1 = 0 → K 1 (u1, M_depth - 1)) ∧ (r1 = 0 → K 0 (u1, M_depth))))
set_option maxRecDepth 100000 in
set_option maxHeartbeats 4000000 in
theorem bX10_closes {D : gD} {cB cI cJ cZ : ClassId} {E : gE} {A : Nat → Prop} {Q : State → Prop} {aM aM_kind aM_tape aQ aM_from aM_means aM_value aM_who aM_now aM_kept aM_stack : Nat} {M_thrown M_size M_errorAt M_token M_depth M_ordersRead M_isSpring M_itsSeat : Int32} {M_kind : Nat → Int32} (C : Cx D (gT cB cI cJ cZ) E rmX10_closes cX10_closes 2 RX10 A) {p0 : Int32} {K : Int32 → (Int32 × Int32) → Prop} (hret : ∀ (r : Int32) (u : Int32 × Int32) (pc : Nat) (ls : List (Nat × Value)), (r = 0 ∨ r = 1) → K r u → decode cX10_closes pc = .ok (.ireturn, 1) → Go D E A Q 2 0 0 [(aM, .inr (9, [.int M_thrown, .ref aM_tape, .int M_size, .int M_errorAt, .ref aQ, .ref aM_kind, .ref aM_from, .ref aM_means, .ref aM_value, .ref aM_who, .int u.1, .int u.2, .int M_ordersRead, .int M_isSpring, .int M_itsSeat, .ref aM_now, .ref aM_kept, .ref aM_stack])), (aM_kind, .inl (cI, 401, .inl M_kind))] ls pc [.int r]) (h : wX10_closes M_kind M_token M_depth p0 K) : Go D E A Q 2 0 0 [(aM, .inr (9, [.int M_thrown, .ref aM_tape, .int M_size, .int M_errorAt, .ref aQ, .ref aM_kind, .ref aM_from, .ref aM_means, .ref aM_value, .ref aM_who, .int M_token, .int M_depth, .int M_ordersRead, .int M_isSpring, .int M_itsSeat, .ref aM_now, .ref aM_kept, .ref aM_stack])), (aM_kind, .inl (cI, 401, .inl M_kind))] [(0, .ref aM), (1, .int p0)] 0 [] := by
  unfold wX10_closes at h
  refine q_aload_n C dX10_closes_0 0 rfl ?_
  refine q_iload_n C dX10_closes_1 1 rfl ?_
  refine q_callVI C (cX10_eat_ok _ h) cf_X10_259 im_X10_eat se_X10_eat 9 rfl rfl rfl rfl ⟨Nat.le_of_ble_eq_true rfl, Nat.le_of_ble_eq_true rfl⟩ ⟨Nat.le_of_ble_eq_true rfl, Nat.le_of_ble_eq_true rfl⟩ 0 0 ⟨rfl, rfl⟩ [0, 1] [] (wr := []) rfl rfl rfl rfl (by decide) (fun u1 : Int32 => [(aM, .inr (9, [.int M_thrown, .ref aM_tape, .int M_size, .int M_errorAt, .ref aQ, .ref aM_kind, .ref aM_from, .ref aM_means, .ref aM_value, .ref aM_who, .int u1, .int M_depth, .int M_ordersRead, .int M_isSpring, .int M_itsSeat, .ref aM_now, .ref aM_kept, .ref aM_stack])), (aM_kind, .inl (cI, 401, .inl M_kind))]) [0, 1] rfl (fun _ => rfl) (rest := []) rfl (Nat.le_of_ble_eq_true rfl) dX10_closes_2 (fun r1 u1 h => ?_)
  obtain ⟨hb1, h⟩ := h
  refine q_if_ne C 10 dX10_closes_5 (by decide) h (fun h => ?_) (fun h => ?_)
  · refine q_aload_n C dX10_closes_10 0 rfl ?_
    refine q_dup C dX10_closes_11 rfl ?_
    refine q_get C inX10g rfl 11 (by decide) fl_X10_262 rfl 0 rfl rfl dX10_closes_12 ?_
    refine q_iconst C (v := 1) dX10_closes_15 (by decide) ?_
    refine q_isub C dX10_closes_16 ?_
    refine q_put C inX10g tyX10_ok nmX10 rfl 11 (by decide) fl_X10_262 rfl rfl (ty := .int) (by decide +kernel) 0 [(aM, .inr (9, [.int M_thrown, .ref aM_tape, .int M_size, .int M_errorAt, .ref aQ, .ref aM_kind, .ref aM_from, .ref aM_means, .ref aM_value, .ref aM_who, .int u1, .int (M_depth - 1), .int M_ordersRead, .int M_isSpring, .int M_itsSeat, .ref aM_now, .ref aM_kept, .ref aM_stack])), (aM_kind, .inl (cI, 401, .inl M_kind))] rfl rfl rfl (Nat.le_of_ble_eq_true rfl) rfl dX10_closes_17 ?_
    refine q_iconst C (v := 1) dX10_closes_20 (by decide) ?_
    exact hret 1 (u1, M_depth - 1) _ _ (Or.inr rfl) h dX10_closes_21
  · refine q_iconst C (v := 0) dX10_closes_8 (by decide) ?_
    exact hret 0 (u1, M_depth) _ _ (Or.inl rfl) h dX10_closes_9
theorem cX10_closes_ok (l : Launch) {D : gD} {cB cI cJ cZ : ClassId} {aM aM_kind aM_tape aQ aM_from aM_means aM_value aM_who aM_now aM_kept aM_stack : Nat} {M_thrown M_size M_errorAt M_token M_depth M_ordersRead M_isSpring M_itsSeat : Int32} {M_kind : Nat → Int32} {p0 : Int32} {K : Int32 → (Int32 × Int32) → Prop} (h : wX10_closes M_kind M_token M_depth p0 K) : CtI l D (gT cB cI cJ cZ) yX10_closes cX10_closes 2 .boolean rmX10_closes [.ref aM, .int p0] [(aM, .inr (9, [.int M_thrown, .ref aM_tape, .int M_size, .int M_errorAt, .ref aQ, .ref aM_kind, .ref aM_from, .ref aM_means, .ref aM_value, .ref aM_who, .int M_token, .int M_depth, .int M_ordersRead, .int M_isSpring, .int M_itsSeat, .ref aM_now, .ref aM_kept, .ref aM_stack])), (aM_kind, .inl (cI, 401, .inl M_kind))] (fun u : Int32 × Int32 => [(aM, .inr (9, [.int M_thrown, .ref aM_tape, .int M_size, .int M_errorAt, .ref aQ, .ref aM_kind, .ref aM_from, .ref aM_means, .ref aM_value, .ref aM_who, .int u.1, .int u.2, .int M_ordersRead, .int M_isSpring, .int M_itsSeat, .ref aM_now, .ref aM_kept, .ref aM_stack])), (aM_kind, .inl (cI, 401, .inl M_kind))]) (fun r u => (r = 0 ∨ r = 1) ∧ K r u) :=
  ct_startI (by decide +kernel) (Nat.le_of_ble_eq_true rfl) (fun E A Q hE C hret => bX10_closes C (fun r u pc ls hb hk hd => hret r u pc ls (nar_bit hb) ⟨hb, hk⟩ hd) h)
abbrev rmX10_put : Room := { frames := 0, cells := 0, slots := 0, locals := 0 }
def wX10_put (G_order : Nat → Int32) (G_with : Nat → Int32) (G_many : Int32) (p1 : Int32) (p2 : Int32) (K : ((Nat → Int32) × (Nat → Int32) × Int32) → Prop) : Prop :=
  vp_in G_many 800 ∧ (vp_in G_many 800 ∧ (K (upd G_order G_many.toNatClampNeg p1, upd G_with G_many.toNatClampNeg p2, G_many + 1)))
set_option maxRecDepth 100000 in
set_option maxHeartbeats 4000000 in
theorem bX10_put {D : gD} {cB cI cJ cZ : ClassId} {E : gE} {A : Nat → Prop} {Q : State → Prop} {aM aG aG_order aG_with aM_tape aQ aM_kind aM_from aM_means aM_value aM_who aM_now aM_kept aM_stack aG_empire aG_begin aG_end aG_isCoin aG_cushion aG_what aG_find aG_spring aG_does aG_begins aG_ends : Nat} {M_thrown M_size M_errorAt M_token M_depth M_ordersRead M_isSpring M_itsSeat G_seats G_strata G_empires G_finds G_orders G_many : Int32} {G_order G_with : Nat → Int32} (C : Cx D (gT cB cI cJ cZ) E rmX10_put cX10_put 4 RX10 A) {p1 : Int32} {p2 : Int32} {K : ((Nat → Int32) × (Nat → Int32) × Int32) → Prop} (hret : ∀ (u : (Nat → Int32) × (Nat → Int32) × Int32) (pc : Nat) (ls : List (Nat × Value)), K u → decode cX10_put pc = .ok (.return_, 1) → Go D E A Q 4 0 0 [(aM, .inr (9, [.int M_thrown, .ref aM_tape, .int M_size, .int M_errorAt, .ref aQ, .ref aM_kind, .ref aM_from, .ref aM_means, .ref aM_value, .ref aM_who, .int M_token, .int M_depth, .int M_ordersRead, .int M_isSpring, .int M_itsSeat, .ref aM_now, .ref aM_kept, .ref aM_stack])), (aG, .inr (8, [.int G_seats, .int G_strata, .int G_empires, .ref aG_empire, .ref aG_begin, .ref aG_end, .int G_finds, .ref aG_isCoin, .ref aG_cushion, .ref aG_what, .ref aG_find, .ref aG_spring, .int G_orders, .ref aG_does, .ref aG_begins, .ref aG_ends, .ref aG_order, .ref aG_with, .int u.2.2])), (aG_order, .inl (cI, 800, .inl u.1)), (aG_with, .inl (cI, 800, .inl u.2.1))] ls pc []) (h : wX10_put G_order G_with G_many p1 p2 K) : Go D E A Q 4 0 0 [(aM, .inr (9, [.int M_thrown, .ref aM_tape, .int M_size, .int M_errorAt, .ref aQ, .ref aM_kind, .ref aM_from, .ref aM_means, .ref aM_value, .ref aM_who, .int M_token, .int M_depth, .int M_ordersRead, .int M_isSpring, .int M_itsSeat, .ref aM_now, .ref aM_kept, .ref aM_stack])), (aG, .inr (8, [.int G_seats, .int G_strata, .int G_empires, .ref aG_empire, .ref aG_begin, .ref aG_end, .int G_finds, .ref aG_isCoin, .ref aG_cushion, .ref aG_what, .ref aG_find, .ref aG_spring, .int G_orders, .ref aG_does, .ref aG_begins, .ref aG_ends, .ref aG_order, .ref aG_with, .int G_many])), (aG_order, .inl (cI, 800, .inl G_order)), (aG_with, .inl (cI, 800, .inl G_with))] [(0, .ref aM), (1, .ref aG), (2, .int p1), (3, .int p2)] 0 [] := by
  unfold wX10_put at h
  refine q_aload_n C dX10_put_0 1 rfl ?_
  refine q_getN C inX9g rfl 16 (by decide) fl_X10_188 rfl 1 rfl rfl dX10_put_1 ?_
  refine q_aload_n C dX10_put_4 1 rfl ?_
  refine q_getN C inX9g rfl 18 (by decide) fl_X10_265 rfl 1 rfl rfl dX10_put_5 ?_
  refine q_iload_n C dX10_put_8 2 rfl ?_
  refine q_iast C 2 1 [(aM, .inr (9, [.int M_thrown, .ref aM_tape, .int M_size, .int M_errorAt, .ref aQ, .ref aM_kind, .ref aM_from, .ref aM_means, .ref aM_value, .ref aM_who, .int M_token, .int M_depth, .int M_ordersRead, .int M_isSpring, .int M_itsSeat, .ref aM_now, .ref aM_kept, .ref aM_stack])), (aG, .inr (8, [.int G_seats, .int G_strata, .int G_empires, .ref aG_empire, .ref aG_begin, .ref aG_end, .int G_finds, .ref aG_isCoin, .ref aG_cushion, .ref aG_what, .ref aG_find, .ref aG_spring, .int G_orders, .ref aG_does, .ref aG_begins, .ref aG_ends, .ref aG_order, .ref aG_with, .int G_many])), (aG_order, .inl (cI, 800, .inl (upd G_order G_many.toNatClampNeg p1))), (aG_with, .inl (cI, 800, .inl G_with))] rfl rfl rfl dX10_put_9 h (fun h => ?_)
  refine q_aload_n C dX10_put_10 1 rfl ?_
  refine q_getN C inX9g rfl 17 (by decide) fl_X10_194 rfl 1 rfl rfl dX10_put_11 ?_
  refine q_aload_n C dX10_put_14 1 rfl ?_
  refine q_getN C inX9g rfl 18 (by decide) fl_X10_265 rfl 1 rfl rfl dX10_put_15 ?_
  refine q_iload_n C dX10_put_18 3 rfl ?_
  refine q_iast C 3 1 [(aM, .inr (9, [.int M_thrown, .ref aM_tape, .int M_size, .int M_errorAt, .ref aQ, .ref aM_kind, .ref aM_from, .ref aM_means, .ref aM_value, .ref aM_who, .int M_token, .int M_depth, .int M_ordersRead, .int M_isSpring, .int M_itsSeat, .ref aM_now, .ref aM_kept, .ref aM_stack])), (aG, .inr (8, [.int G_seats, .int G_strata, .int G_empires, .ref aG_empire, .ref aG_begin, .ref aG_end, .int G_finds, .ref aG_isCoin, .ref aG_cushion, .ref aG_what, .ref aG_find, .ref aG_spring, .int G_orders, .ref aG_does, .ref aG_begins, .ref aG_ends, .ref aG_order, .ref aG_with, .int G_many])), (aG_order, .inl (cI, 800, .inl (upd G_order G_many.toNatClampNeg p1))), (aG_with, .inl (cI, 800, .inl (upd G_with G_many.toNatClampNeg p2)))] rfl rfl rfl dX10_put_19 h (fun h => ?_)
  refine q_aload_n C dX10_put_20 1 rfl ?_
  refine q_dup C dX10_put_21 rfl ?_
  refine q_getN C inX9g rfl 18 (by decide) fl_X10_265 rfl 1 rfl rfl dX10_put_22 ?_
  refine q_iconst C (v := 1) dX10_put_25 (by decide) ?_
  refine q_iadd C dX10_put_26 ?_
  refine q_putN C inX9g tyX9_ok nmX9 rfl 18 (by decide) fl_X10_265 rfl rfl (ty := .int) (by decide +kernel) 1 [(aM, .inr (9, [.int M_thrown, .ref aM_tape, .int M_size, .int M_errorAt, .ref aQ, .ref aM_kind, .ref aM_from, .ref aM_means, .ref aM_value, .ref aM_who, .int M_token, .int M_depth, .int M_ordersRead, .int M_isSpring, .int M_itsSeat, .ref aM_now, .ref aM_kept, .ref aM_stack])), (aG, .inr (8, [.int G_seats, .int G_strata, .int G_empires, .ref aG_empire, .ref aG_begin, .ref aG_end, .int G_finds, .ref aG_isCoin, .ref aG_cushion, .ref aG_what, .ref aG_find, .ref aG_spring, .int G_orders, .ref aG_does, .ref aG_begins, .ref aG_ends, .ref aG_order, .ref aG_with, .int (G_many + 1)])), (aG_order, .inl (cI, 800, .inl (upd G_order G_many.toNatClampNeg p1))), (aG_with, .inl (cI, 800, .inl (upd G_with G_many.toNatClampNeg p2)))] rfl rfl rfl (Nat.le_of_ble_eq_true rfl) rfl dX10_put_27 ?_
  exact hret (upd G_order G_many.toNatClampNeg p1, upd G_with G_many.toNatClampNeg p2, G_many + 1) _ _ h dX10_put_30
theorem cX10_put_ok (l : Launch) {D : gD} {cB cI cJ cZ : ClassId} {aM aG aG_order aG_with aM_tape aQ aM_kind aM_from aM_means aM_value aM_who aM_now aM_kept aM_stack aG_empire aG_begin aG_end aG_isCoin aG_cushion aG_what aG_find aG_spring aG_does aG_begins aG_ends : Nat} {M_thrown M_size M_errorAt M_token M_depth M_ordersRead M_isSpring M_itsSeat G_seats G_strata G_empires G_finds G_orders G_many : Int32} {G_order G_with : Nat → Int32} {p1 : Int32} {p2 : Int32} {K : ((Nat → Int32) × (Nat → Int32) × Int32) → Prop} (h : wX10_put G_order G_with G_many p1 p2 K) : CtV l D (gT cB cI cJ cZ) yX10_put cX10_put 4 rmX10_put [.ref aM, .ref aG, .int p1, .int p2] [(aM, .inr (9, [.int M_thrown, .ref aM_tape, .int M_size, .int M_errorAt, .ref aQ, .ref aM_kind, .ref aM_from, .ref aM_means, .ref aM_value, .ref aM_who, .int M_token, .int M_depth, .int M_ordersRead, .int M_isSpring, .int M_itsSeat, .ref aM_now, .ref aM_kept, .ref aM_stack])), (aG, .inr (8, [.int G_seats, .int G_strata, .int G_empires, .ref aG_empire, .ref aG_begin, .ref aG_end, .int G_finds, .ref aG_isCoin, .ref aG_cushion, .ref aG_what, .ref aG_find, .ref aG_spring, .int G_orders, .ref aG_does, .ref aG_begins, .ref aG_ends, .ref aG_order, .ref aG_with, .int G_many])), (aG_order, .inl (cI, 800, .inl G_order)), (aG_with, .inl (cI, 800, .inl G_with))] (fun u : (Nat → Int32) × (Nat → Int32) × Int32 => [(aM, .inr (9, [.int M_thrown, .ref aM_tape, .int M_size, .int M_errorAt, .ref aQ, .ref aM_kind, .ref aM_from, .ref aM_means, .ref aM_value, .ref aM_who, .int M_token, .int M_depth, .int M_ordersRead, .int M_isSpring, .int M_itsSeat, .ref aM_now, .ref aM_kept, .ref aM_stack])), (aG, .inr (8, [.int G_seats, .int G_strata, .int G_empires, .ref aG_empire, .ref aG_begin, .ref aG_end, .int G_finds, .ref aG_isCoin, .ref aG_cushion, .ref aG_what, .ref aG_find, .ref aG_spring, .int G_orders, .ref aG_does, .ref aG_begins, .ref aG_ends, .ref aG_order, .ref aG_with, .int u.2.2])), (aG_order, .inl (cI, 800, .inl u.1)), (aG_with, .inl (cI, 800, .inl u.2.1))]) K :=
  ct_startV (by decide +kernel) (Nat.le_of_ble_eq_true rfl) (fun E A Q hE C hret => bX10_put C hret h)
abbrev rmX10_isAbout : Room := { frames := 2, cells := 0, slots := 0, locals := 43 }
def wX10_isAbout_27 (K : Int32 → ((Nat → Int32) × Int32 × (Nat → Int32) × (Nat → Int32) × Int32) → Prop) (M_kind : Nat → Int32) (M_means : Nat → Int32) (M_token : Int32) (G_order : Nat → Int32) (G_with : Nat → Int32) (G_many : Int32) (x2 : Int32) : Prop :=
  wX10_put G_order G_with G_many x2 M_token (fun u1 => wX10_eatAs M_kind M_means M_token 30 12 (fun r2 u2 => K r2 (u2.1, u2.2, u1.1, u1.2.1, u1.2.2)))
set_option maxRecDepth 100000 in
set_option maxHeartbeats 4000000 in
theorem bX10_isAbout_27 {D : gD} {cB cI cJ cZ : ClassId} {E : gE} {A : Nat → Prop} {Q : State → Prop} {aM aM_kind aM_means aG aG_order aG_with aM_tape aQ aM_from aM_value aM_who aM_now aM_kept aM_stack aG_empire aG_begin aG_end aG_isCoin aG_cushion aG_what aG_find aG_spring aG_does aG_begins aG_ends : Nat} {M_thrown M_size M_errorAt M_depth M_ordersRead M_isSpring M_itsSeat G_seats G_strata G_empires G_finds G_orders : Int32} {M_kind : Nat → Int32} (C : Cx D (gT cB cI cJ cZ) E rmX10_isAbout cX10_isAbout 3 RX10 A) {K : Int32 → ((Nat → Int32) × Int32 × (Nat → Int32) × (Nat → Int32) × Int32) → Prop} (hret : ∀ (r : Int32) (u : (Nat → Int32) × Int32 × (Nat → Int32) × (Nat → Int32) × Int32) (pc : Nat) (ls : List (Nat × Value)), (r = 0 ∨ r = 1) → K r u → decode cX10_isAbout pc = .ok (.ireturn, 1) → Go D E A Q 3 0 0 [(aM, .inr (9, [.int M_thrown, .ref aM_tape, .int M_size, .int M_errorAt, .ref aQ, .ref aM_kind, .ref aM_from, .ref aM_means, .ref aM_value, .ref aM_who, .int u.2.1, .int M_depth, .int M_ordersRead, .int M_isSpring, .int M_itsSeat, .ref aM_now, .ref aM_kept, .ref aM_stack])), (aM_kind, .inl (cI, 401, .inl M_kind)), (aM_means, .inl (cI, 401, .inl u.1)), (aG, .inr (8, [.int G_seats, .int G_strata, .int G_empires, .ref aG_empire, .ref aG_begin, .ref aG_end, .int G_finds, .ref aG_isCoin, .ref aG_cushion, .ref aG_what, .ref aG_find, .ref aG_spring, .int G_orders, .ref aG_does, .ref aG_begins, .ref aG_ends, .ref aG_order, .ref aG_with, .int u.2.2.2.2])), (aG_order, .inl (cI, 800, .inl u.2.2.1)), (aG_with, .inl (cI, 800, .inl u.2.2.2.1))] ls pc [.int r]) : ∀ (M_means : Nat → Int32) (M_token : Int32) (G_order : Nat → Int32) (G_with : Nat → Int32) (G_many : Int32) (x2 : Int32), wX10_isAbout_27 K M_kind M_means M_token G_order G_with G_many x2 → Go D E A Q 3 0 0 [(aM, .inr (9, [.int M_thrown, .ref aM_tape, .int M_size, .int M_errorAt, .ref aQ, .ref aM_kind, .ref aM_from, .ref aM_means, .ref aM_value, .ref aM_who, .int M_token, .int M_depth, .int M_ordersRead, .int M_isSpring, .int M_itsSeat, .ref aM_now, .ref aM_kept, .ref aM_stack])), (aM_kind, .inl (cI, 401, .inl M_kind)), (aM_means, .inl (cI, 401, .inl M_means)), (aG, .inr (8, [.int G_seats, .int G_strata, .int G_empires, .ref aG_empire, .ref aG_begin, .ref aG_end, .int G_finds, .ref aG_isCoin, .ref aG_cushion, .ref aG_what, .ref aG_find, .ref aG_spring, .int G_orders, .ref aG_does, .ref aG_begins, .ref aG_ends, .ref aG_order, .ref aG_with, .int G_many])), (aG_order, .inl (cI, 800, .inl G_order)), (aG_with, .inl (cI, 800, .inl G_with))] [(0, .ref aM), (1, .ref aG), (2, .int x2)] 27 [] := by
  intro M_means M_token G_order G_with G_many x2 h
  unfold wX10_isAbout_27 at h
  refine q_aload_n C dX10_isAbout_27 0 rfl ?_
  refine q_aload_n C dX10_isAbout_28 1 rfl ?_
  refine q_iload_n C dX10_isAbout_29 2 rfl ?_
  refine q_aload_n C dX10_isAbout_30 0 rfl ?_
  refine q_get C inX10g rfl 10 (by decide) fl_X10_256 rfl 0 rfl rfl dX10_isAbout_31 ?_
  refine q_callVV C (cX10_put_ok _ h) cf_X10_268 im_X10_put se_X10_put 9 rfl rfl rfl rfl ⟨Nat.le_of_ble_eq_true rfl, Nat.le_of_ble_eq_true rfl⟩ ⟨Nat.le_of_ble_eq_true rfl, Nat.le_of_ble_eq_true rfl⟩ 0 0 ⟨rfl, rfl⟩ [0, 3, 4, 5] [1, 2] (wr := [(aM_kind, .inl (cI, 401, .inl M_kind)), (aM_means, .inl (cI, 401, .inl M_means))]) rfl rfl rfl rfl (by decide) (fun u1 : (Nat → Int32) × (Nat → Int32) × Int32 => [(aM, .inr (9, [.int M_thrown, .ref aM_tape, .int M_size, .int M_errorAt, .ref aQ, .ref aM_kind, .ref aM_from, .ref aM_means, .ref aM_value, .ref aM_who, .int M_token, .int M_depth, .int M_ordersRead, .int M_isSpring, .int M_itsSeat, .ref aM_now, .ref aM_kept, .ref aM_stack])), (aM_kind, .inl (cI, 401, .inl M_kind)), (aM_means, .inl (cI, 401, .inl M_means)), (aG, .inr (8, [.int G_seats, .int G_strata, .int G_empires, .ref aG_empire, .ref aG_begin, .ref aG_end, .int G_finds, .ref aG_isCoin, .ref aG_cushion, .ref aG_what, .ref aG_find, .ref aG_spring, .int G_orders, .ref aG_does, .ref aG_begins, .ref aG_ends, .ref aG_order, .ref aG_with, .int u1.2.2])), (aG_order, .inl (cI, 800, .inl u1.1)), (aG_with, .inl (cI, 800, .inl u1.2.1))]) [2, 0, 1, 3, 4, 5] rfl (fun _ => rfl) (rest := []) rfl (Nat.le_of_ble_eq_true rfl) dX10_isAbout_34 (fun u1 h => ?_)
  refine q_aload_n C dX10_isAbout_37 0 rfl ?_
  refine q_bipush C (v := 30) dX10_isAbout_38 (by decide) ?_
  refine q_bipush C (v := 12) dX10_isAbout_40 (by decide) ?_
  refine q_callVI C (cX10_eatAs_ok _ h) cf_X10_272 im_X10_eatAs se_X10_eatAs 9 rfl rfl rfl rfl ⟨Nat.le_of_ble_eq_true rfl, Nat.le_of_ble_eq_true rfl⟩ ⟨Nat.le_of_ble_eq_true rfl, Nat.le_of_ble_eq_true rfl⟩ 0 0 ⟨rfl, rfl⟩ [0, 1, 2] [3, 4, 5] (wr := [(aG, .inr (8, [.int G_seats, .int G_strata, .int G_empires, .ref aG_empire, .ref aG_begin, .ref aG_end, .int G_finds, .ref aG_isCoin, .ref aG_cushion, .ref aG_what, .ref aG_find, .ref aG_spring, .int G_orders, .ref aG_does, .ref aG_begins, .ref aG_ends, .ref aG_order, .ref aG_with, .int u1.2.2])), (aG_order, .inl (cI, 800, .inl u1.1)), (aG_with, .inl (cI, 800, .inl u1.2.1))]) rfl rfl rfl rfl (by decide) (fun u2 : (Nat → Int32) × Int32 => [(aM, .inr (9, [.int M_thrown, .ref aM_tape, .int M_size, .int M_errorAt, .ref aQ, .ref aM_kind, .ref aM_from, .ref aM_means, .ref aM_value, .ref aM_who, .int u2.2, .int M_depth, .int M_ordersRead, .int M_isSpring, .int M_itsSeat, .ref aM_now, .ref aM_kept, .ref aM_stack])), (aM_kind, .inl (cI, 401, .inl M_kind)), (aM_means, .inl (cI, 401, .inl u2.1)), (aG, .inr (8, [.int G_seats, .int G_strata, .int G_empires, .ref aG_empire, .ref aG_begin, .ref aG_end, .int G_finds, .ref aG_isCoin, .ref aG_cushion, .ref aG_what, .ref aG_find, .ref aG_spring, .int G_orders, .ref aG_does, .ref aG_begins, .ref aG_ends, .ref aG_order, .ref aG_with, .int u1.2.2])), (aG_order, .inl (cI, 800, .inl u1.1)), (aG_with, .inl (cI, 800, .inl u1.2.1))]) [3, 4, 5, 0, 1, 2] rfl (fun _ => rfl) (rest := []) rfl (Nat.le_of_ble_eq_true rfl) dX10_isAbout_42 (fun r2 u2 h => ?_)
  obtain ⟨hb2, h⟩ := h
  exact hret r2 (u2.1, u2.2, u1.1, u1.2.1, u1.2.2) _ _ hb2 h dX10_isAbout_45
def wX10_isAbout (M_kind : Nat → Int32) (M_means : Nat → Int32) (M_token : Int32) (G_order : Nat → Int32) (G_with : Nat → Int32) (G_many : Int32) (p1 : Int32) (K : Int32 → ((Nat → Int32) × Int32 × (Nat → Int32) × (Nat → Int32) × Int32) → Prop) : Prop :=
  ((p1 = 22 → wX10_isAbout_27 K M_kind M_means (M_token + 1) G_order G_with G_many p1) ∧ (¬ p1 = 22 → wX10_eat M_kind (M_token + 1) 10 (fun r1 u1 => ((¬ r1 = 0 → wX10_isAbout_27 K M_kind M_means u1 G_order G_with G_many p1) ∧ (r1 = 0 → K 0 (M_means, u1, G_order, G_with, G_many))))))
set_option maxRecDepth 100000 in
set_option maxHeartbeats 4000000 in
theorem bX10_isAbout {D : gD} {cB cI cJ cZ : ClassId} {E : gE} {A : Nat → Prop} {Q : State → Prop} {aM aM_kind aM_means aG aG_order aG_with aM_tape aQ aM_from aM_value aM_who aM_now aM_kept aM_stack aG_empire aG_begin aG_end aG_isCoin aG_cushion aG_what aG_find aG_spring aG_does aG_begins aG_ends : Nat} {M_thrown M_size M_errorAt M_token M_depth M_ordersRead M_isSpring M_itsSeat G_seats G_strata G_empires G_finds G_orders G_many : Int32} {M_kind M_means G_order G_with : Nat → Int32} (C : Cx D (gT cB cI cJ cZ) E rmX10_isAbout cX10_isAbout 3 RX10 A) {p1 : Int32} {K : Int32 → ((Nat → Int32) × Int32 × (Nat → Int32) × (Nat → Int32) × Int32) → Prop} (hret : ∀ (r : Int32) (u : (Nat → Int32) × Int32 × (Nat → Int32) × (Nat → Int32) × Int32) (pc : Nat) (ls : List (Nat × Value)), (r = 0 ∨ r = 1) → K r u → decode cX10_isAbout pc = .ok (.ireturn, 1) → Go D E A Q 3 0 0 [(aM, .inr (9, [.int M_thrown, .ref aM_tape, .int M_size, .int M_errorAt, .ref aQ, .ref aM_kind, .ref aM_from, .ref aM_means, .ref aM_value, .ref aM_who, .int u.2.1, .int M_depth, .int M_ordersRead, .int M_isSpring, .int M_itsSeat, .ref aM_now, .ref aM_kept, .ref aM_stack])), (aM_kind, .inl (cI, 401, .inl M_kind)), (aM_means, .inl (cI, 401, .inl u.1)), (aG, .inr (8, [.int G_seats, .int G_strata, .int G_empires, .ref aG_empire, .ref aG_begin, .ref aG_end, .int G_finds, .ref aG_isCoin, .ref aG_cushion, .ref aG_what, .ref aG_find, .ref aG_spring, .int G_orders, .ref aG_does, .ref aG_begins, .ref aG_ends, .ref aG_order, .ref aG_with, .int u.2.2.2.2])), (aG_order, .inl (cI, 800, .inl u.2.2.1)), (aG_with, .inl (cI, 800, .inl u.2.2.2.1))] ls pc [.int r]) (h : wX10_isAbout M_kind M_means M_token G_order G_with G_many p1 K) : Go D E A Q 3 0 0 [(aM, .inr (9, [.int M_thrown, .ref aM_tape, .int M_size, .int M_errorAt, .ref aQ, .ref aM_kind, .ref aM_from, .ref aM_means, .ref aM_value, .ref aM_who, .int M_token, .int M_depth, .int M_ordersRead, .int M_isSpring, .int M_itsSeat, .ref aM_now, .ref aM_kept, .ref aM_stack])), (aM_kind, .inl (cI, 401, .inl M_kind)), (aM_means, .inl (cI, 401, .inl M_means)), (aG, .inr (8, [.int G_seats, .int G_strata, .int G_empires, .ref aG_empire, .ref aG_begin, .ref aG_end, .int G_finds, .ref aG_isCoin, .ref aG_cushion, .ref aG_what, .ref aG_find, .ref aG_spring, .int G_orders, .ref aG_does, .ref aG_begins, .ref aG_ends, .ref aG_order, .ref aG_with, .int G_many])), (aG_order, .inl (cI, 800, .inl G_order)), (aG_with, .inl (cI, 800, .inl G_with))] [(0, .ref aM), (1, .ref aG), (2, .int p1)] 0 [] := by
  unfold wX10_isAbout at h
  refine q_aload_n C dX10_isAbout_0 0 rfl ?_
  refine q_dup C dX10_isAbout_1 rfl ?_
  refine q_get C inX10g rfl 10 (by decide) fl_X10_256 rfl 0 rfl rfl dX10_isAbout_2 ?_
  refine q_iconst C (v := 1) dX10_isAbout_5 (by decide) ?_
  refine q_iadd C dX10_isAbout_6 ?_
  refine q_put C inX10g tyX10_ok nmX10 rfl 10 (by decide) fl_X10_256 rfl rfl (ty := .int) (by decide +kernel) 0 [(aM, .inr (9, [.int M_thrown, .ref aM_tape, .int M_size, .int M_errorAt, .ref aQ, .ref aM_kind, .ref aM_from, .ref aM_means, .ref aM_value, .ref aM_who, .int (M_token + 1), .int M_depth, .int M_ordersRead, .int M_isSpring, .int M_itsSeat, .ref aM_now, .ref aM_kept, .ref aM_stack])), (aM_kind, .inl (cI, 401, .inl M_kind)), (aM_means, .inl (cI, 401, .inl M_means)), (aG, .inr (8, [.int G_seats, .int G_strata, .int G_empires, .ref aG_empire, .ref aG_begin, .ref aG_end, .int G_finds, .ref aG_isCoin, .ref aG_cushion, .ref aG_what, .ref aG_find, .ref aG_spring, .int G_orders, .ref aG_does, .ref aG_begins, .ref aG_ends, .ref aG_order, .ref aG_with, .int G_many])), (aG_order, .inl (cI, 800, .inl G_order)), (aG_with, .inl (cI, 800, .inl G_with))] rfl rfl rfl (Nat.le_of_ble_eq_true rfl) rfl dX10_isAbout_7 ?_
  refine q_iload_n C dX10_isAbout_10 2 rfl ?_
  refine q_bipush C (v := 22) dX10_isAbout_11 (by decide) ?_
  refine q_icmp_eq C 27 dX10_isAbout_13 (by decide) h (fun h => ?_) (fun h => ?_)
  · exact bX10_isAbout_27 C  hret  _ _ _ _ _ _ h
  · refine q_aload_n C dX10_isAbout_16 0 rfl ?_
    refine q_bipush C (v := 10) dX10_isAbout_17 (by decide) ?_
    refine q_callVI C (cX10_eat_ok _ h) cf_X10_259 im_X10_eat se_X10_eat 9 rfl rfl rfl rfl ⟨Nat.le_of_ble_eq_true rfl, Nat.le_of_ble_eq_true rfl⟩ ⟨Nat.le_of_ble_eq_true rfl, Nat.le_of_ble_eq_true rfl⟩ 0 0 ⟨rfl, rfl⟩ [0, 1] [2, 3, 4, 5] (wr := [(aM_means, .inl (cI, 401, .inl M_means)), (aG, .inr (8, [.int G_seats, .int G_strata, .int G_empires, .ref aG_empire, .ref aG_begin, .ref aG_end, .int G_finds, .ref aG_isCoin, .ref aG_cushion, .ref aG_what, .ref aG_find, .ref aG_spring, .int G_orders, .ref aG_does, .ref aG_begins, .ref aG_ends, .ref aG_order, .ref aG_with, .int G_many])), (aG_order, .inl (cI, 800, .inl G_order)), (aG_with, .inl (cI, 800, .inl G_with))]) rfl rfl rfl rfl (by decide) (fun u1 : Int32 => [(aM, .inr (9, [.int M_thrown, .ref aM_tape, .int M_size, .int M_errorAt, .ref aQ, .ref aM_kind, .ref aM_from, .ref aM_means, .ref aM_value, .ref aM_who, .int u1, .int M_depth, .int M_ordersRead, .int M_isSpring, .int M_itsSeat, .ref aM_now, .ref aM_kept, .ref aM_stack])), (aM_kind, .inl (cI, 401, .inl M_kind)), (aM_means, .inl (cI, 401, .inl M_means)), (aG, .inr (8, [.int G_seats, .int G_strata, .int G_empires, .ref aG_empire, .ref aG_begin, .ref aG_end, .int G_finds, .ref aG_isCoin, .ref aG_cushion, .ref aG_what, .ref aG_find, .ref aG_spring, .int G_orders, .ref aG_does, .ref aG_begins, .ref aG_ends, .ref aG_order, .ref aG_with, .int G_many])), (aG_order, .inl (cI, 800, .inl G_order)), (aG_with, .inl (cI, 800, .inl G_with))]) [4, 5, 0, 1, 2, 3] rfl (fun _ => rfl) (rest := []) rfl (Nat.le_of_ble_eq_true rfl) dX10_isAbout_19 (fun r1 u1 h => ?_)
    obtain ⟨hb1, h⟩ := h
    refine q_if_ne C 27 dX10_isAbout_22 (by decide) h (fun h => ?_) (fun h => ?_)
    · exact bX10_isAbout_27 C  hret  _ _ _ _ _ _ h
    · refine q_iconst C (v := 0) dX10_isAbout_25 (by decide) ?_
      exact hret 0 (M_means, u1, G_order, G_with, G_many) _ _ (Or.inl rfl) h dX10_isAbout_26
theorem cX10_isAbout_ok (l : Launch) {D : gD} {cB cI cJ cZ : ClassId} {aM aM_kind aM_means aG aG_order aG_with aM_tape aQ aM_from aM_value aM_who aM_now aM_kept aM_stack aG_empire aG_begin aG_end aG_isCoin aG_cushion aG_what aG_find aG_spring aG_does aG_begins aG_ends : Nat} {M_thrown M_size M_errorAt M_token M_depth M_ordersRead M_isSpring M_itsSeat G_seats G_strata G_empires G_finds G_orders G_many : Int32} {M_kind M_means G_order G_with : Nat → Int32} {p1 : Int32} {K : Int32 → ((Nat → Int32) × Int32 × (Nat → Int32) × (Nat → Int32) × Int32) → Prop} (h : wX10_isAbout M_kind M_means M_token G_order G_with G_many p1 K) : CtI l D (gT cB cI cJ cZ) yX10_isAbout cX10_isAbout 3 .boolean rmX10_isAbout [.ref aM, .ref aG, .int p1] [(aM, .inr (9, [.int M_thrown, .ref aM_tape, .int M_size, .int M_errorAt, .ref aQ, .ref aM_kind, .ref aM_from, .ref aM_means, .ref aM_value, .ref aM_who, .int M_token, .int M_depth, .int M_ordersRead, .int M_isSpring, .int M_itsSeat, .ref aM_now, .ref aM_kept, .ref aM_stack])), (aM_kind, .inl (cI, 401, .inl M_kind)), (aM_means, .inl (cI, 401, .inl M_means)), (aG, .inr (8, [.int G_seats, .int G_strata, .int G_empires, .ref aG_empire, .ref aG_begin, .ref aG_end, .int G_finds, .ref aG_isCoin, .ref aG_cushion, .ref aG_what, .ref aG_find, .ref aG_spring, .int G_orders, .ref aG_does, .ref aG_begins, .ref aG_ends, .ref aG_order, .ref aG_with, .int G_many])), (aG_order, .inl (cI, 800, .inl G_order)), (aG_with, .inl (cI, 800, .inl G_with))] (fun u : (Nat → Int32) × Int32 × (Nat → Int32) × (Nat → Int32) × Int32 => [(aM, .inr (9, [.int M_thrown, .ref aM_tape, .int M_size, .int M_errorAt, .ref aQ, .ref aM_kind, .ref aM_from, .ref aM_means, .ref aM_value, .ref aM_who, .int u.2.1, .int M_depth, .int M_ordersRead, .int M_isSpring, .int M_itsSeat, .ref aM_now, .ref aM_kept, .ref aM_stack])), (aM_kind, .inl (cI, 401, .inl M_kind)), (aM_means, .inl (cI, 401, .inl u.1)), (aG, .inr (8, [.int G_seats, .int G_strata, .int G_empires, .ref aG_empire, .ref aG_begin, .ref aG_end, .int G_finds, .ref aG_isCoin, .ref aG_cushion, .ref aG_what, .ref aG_find, .ref aG_spring, .int G_orders, .ref aG_does, .ref aG_begins, .ref aG_ends, .ref aG_order, .ref aG_with, .int u.2.2.2.2])), (aG_order, .inl (cI, 800, .inl u.2.2.1)), (aG_with, .inl (cI, 800, .inl u.2.2.2.1))]) (fun r u => (r = 0 ∨ r = 1) ∧ K r u) :=
  ct_startI (by decide +kernel) (Nat.le_of_ble_eq_true rfl) (fun E A Q hE C hret => bX10_isAbout C (fun r u pc ls hb hk hd => hret r u pc ls (nar_bit hb) ⟨hb, hk⟩ hd) h)
