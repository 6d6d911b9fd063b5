abbrev rmL_told (bc bs : Nat) : Room := { frames := 262, cells := bc, slots := bs, locals := 3570 }
def wL_told_770 (K : Nat → gH → Prop) (KL566 : gH → Nat → Nat → Nat → Nat → Int32 → Int32 → Int32 → Prop) (Z : gZ) (H : gH) (bc : Nat) (bs : Nat) (x1 : Nat) (x4 : Nat) (x5 : Int32) (x6 : Int32) (x7 : Int32) (z0 : Nat) (z1 : Nat) : Prop :=
  (∃ fs, hpG H z1 = some (.inr (11, fs))) ∧ ∃ (c1 s1 : Nat), c1 ≤ bc ∧ s1 ≤ bs ∧ whJ4_append_15ec4 Z H c1 s1 z1 z0 (fun r1 H1 => (∃ fs, hpG H1 r1 = some (.inr (11, fs))) ∧ ∃ (c2 s2 : Nat), c2 ≤ (bc - c1) ∧ s2 ≤ (bs - s1) ∧ whJ4_append_15ec4 Z H1 c2 s2 r1 (Z.1 39) (fun r2 H2 => KL566 H2 ((bc - c1) - c2) ((bs - s1) - s2) x1 x4 x5 x6 (x7 + 1)))
set_option maxRecDepth 100000 in
set_option maxHeartbeats 4000000 in
theorem bL_told_770 {D : gD} {E : gE} {A : Nat → Prop} {Q : State → Prop} {bc0 bs0 : Nat} (C : CL D E (rmL_told bc0 bs0) cL_told 13 RL A) {K : Nat → gH → Prop} (hret : ∀ (r : Nat) (H : gH) (pc : Nat) (ls : List (Nat × Value)), K r H → decode cL_told pc = .ok (.areturn, 1) → Go D E A Q 13 bc0 bs0 ([] ++ hpW H) ls pc [.ref r]) {KL566 : gH → Nat → Nat → Nat → Nat → Int32 → Int32 → Int32 → Prop} (hKL566 : ∀ (cells slots : Nat) (H : gH) (bc : Nat) (bs : Nat) (x1 : Nat) (x4 : Nat) (x5 : Int32) (x6 : Int32) (x7 : Int32), cells + bc ≤ bc0 → slots + bs ≤ bs0 → KL566 H bc bs x1 x4 x5 x6 x7 → Go D E A Q 13 cells slots ([] ++ hpW H) [(0, .ref (zB D.2)), (1, .ref x1), (4, .ref x4), (5, .int x5), (6, .int x6), (7, .int x7)] 566 []) : ∀ (cells slots : Nat) (H : gH) (bc : Nat) (bs : Nat) (x1 : Nat) (x4 : Nat) (x5 : Int32) (x6 : Int32) (x7 : Int32) (z0 : Nat) (z1 : Nat), cells + bc ≤ bc0 → slots + bs ≤ bs0 → wL_told_770 K KL566 D.2 H bc bs x1 x4 x5 x6 x7 z0 z1 → Go D E A Q 13 cells slots ([] ++ hpW H) [(0, .ref (zB D.2)), (1, .ref x1), (4, .ref x4), (5, .int x5), (6, .int x6), (7, .int x7)] 770 [.ref z0, .ref z1] := by
  intro cells slots H bc bs x1 x4 x5 x6 x7 z0 z1 hbc hbs h
  unfold wL_told_770 at h
  obtain ⟨⟨fs9, hr9⟩, h⟩ := h
  obtain ⟨c1, s1, hc1, hs1, h⟩ := h
  refine p_callVQ C (fun _ h => h) [] (chJ4_append_15ec4_ok _ h) cf_L_75 im_J4_append_15ec4 se_J4_append_15ec4 (hRv_h (q := (RJ4, TJ4, 4)) hr9 rfl) rfl ⟨Nat.le_of_ble_eq_true rfl, Nat.le_of_ble_eq_true rfl⟩ ⟨by show cells + c1 ≤ bc0; omega, by show slots + s1 ≤ bs0; omega⟩ List.perm_append_comm (fun H1 : gH => [] ++ hpW H1) (fun _ => List.perm_append_comm) (rest := []) rfl (Nat.le_of_ble_eq_true rfl) dL_told_770 (fun r1 H1 h => ?_)
  show Go D E A Q 13 (cells + c1) (slots + s1) ([] ++ hpW H1) [(0, .ref (zB D.2)), (1, .ref x1), (4, .ref x4), (5, .int x5), (6, .int x6), (7, .int x7)] 773 [.ref r1]
  refine q_ldcK (i := 39) C (C.strR (i := 39) (Nat.le_of_ble_eq_true rfl)) dL_told_773 ?_
  obtain ⟨⟨fs9, hr9⟩, h⟩ := h
  obtain ⟨c2, s2, hc2, hs2, h⟩ := h
  refine p_callVQ C (fun _ h => h) [] (chJ4_append_15ec4_ok _ h) cf_L_75 im_J4_append_15ec4 se_J4_append_15ec4 (hRv_h (q := (RJ4, TJ4, 4)) hr9 rfl) rfl ⟨Nat.le_of_ble_eq_true rfl, Nat.le_of_ble_eq_true rfl⟩ ⟨by show cells + c1 + c2 ≤ bc0; omega, by show slots + s1 + s2 ≤ bs0; omega⟩ List.perm_append_comm (fun H2 : gH => [] ++ hpW H2) (fun _ => List.perm_append_comm) (rest := []) rfl (Nat.le_of_ble_eq_true rfl) dL_told_775 (fun r2 H2 h => ?_)
  show Go D E A Q 13 (cells + c1 + c2) (slots + s1 + s2) ([] ++ hpW H2) [(0, .ref (zB D.2)), (1, .ref x1), (4, .ref x4), (5, .int x5), (6, .int x6), (7, .int x7)] 778 [.ref r2]
  refine q_pop C dL_told_778 rfl ?_
  refine q_iinc C (v := x7 + 1) [(7, .int (x7 + 1)), (0, .ref (zB D.2)), (1, .ref x1), (4, .ref x4), (5, .int x5), (6, .int x6)] dL_told_779 5 rfl rfl (by decide) rfl ?_
  refine q_goto (tgt := 566) C dL_told_782 (by decide) ?_
  refine q_ls [(0, .ref (zB D.2)), (1, .ref x1), (4, .ref x4), (5, .int x5), (6, .int x6), (7, .int (x7 + 1))] [1, 2, 3, 4, 5, 0] rfl ?_
  exact hKL566 (cells + c1 + c2) (slots + s1 + s2) _ _ _ _ _ _ _ _ (by omega) (by omega) h
def wL_told_708 (K : Nat → gH → Prop) (KL566 : gH → Nat → Nat → Nat → Nat → Int32 → Int32 → Int32 → Prop) (Z : gZ) (H : gH) (bc : Nat) (bs : Nat) (x1 : Nat) (x4 : Nat) (x5 : Int32) (x6 : Int32) (x7 : Int32) (z0 : Nat) (z1 : Nat) : Prop :=
  (∃ fs, hpG H z1 = some (.inr (11, fs))) ∧ ∃ (c1 s1 : Nat), c1 ≤ bc ∧ s1 ≤ bs ∧ whJ4_append_15ec4 Z H c1 s1 z1 z0 (fun r1 H1 => ∃ y2 : Nat, gF H1 x4 8 6 (.ref y2) ∧ (∃ (n4 : Nat) (f5 : Nat → Option Nat) (y8 : Nat), hpG H1 y2 = some (qE (zY Z 6) n4 f5) ∧ vp_in x7 n4 ∧ f5 x7.toNatClampNeg = some y8 ∧ ((∃ fs, hpG H1 y8 = some (.inr (9, fs))) ∧ ∃ d10 : Nat, d10 ≤ 8 ∧ ∃ (c10 s10 : Nat), c10 ≤ (bc - c1) ∧ s10 ≤ (bs - s1) ∧ wX10_text Z d10 H1 c10 s10 y8 (fun r10 H10 => (∃ fs, hpG H10 r1 = some (.inr (11, fs))) ∧ ∃ (c11 s11 : Nat), c11 ≤ ((bc - c1) - c10) ∧ s11 ≤ ((bs - s1) - s10) ∧ whJ4_append_15ec4 Z H10 c11 s11 r1 r10 (fun r11 H11 => ∃ y12 : Nat, gF H11 x4 8 7 (.ref y12) ∧ (∃ (n14 : Nat) (f15 : Nat → Option Nat), hpG H11 y12 = some (qE (zY Z 6) n14 f15) ∧ vp_in x7 n14 ∧ (((¬ (f15 x7.toNatClampNeg) = none → 1 ≤ (((bc - c1) - c10) - c11) ∧ 4 ≤ (((bs - s1) - s10) - s11) ∧ (∀ q18 : Nat, hpG H11 q18 = none → (∃ (c20 s20 : Nat), c20 ≤ ((((bc - c1) - c10) - c11) - 1) ∧ s20 ≤ ((((bs - s1) - s10) - s11) - 4) ∧ whJ4_init_da8c8 Z (hpN H11 q18 (.inr (11, [.null, .int 0, .int 0, .int 0]))) c20 s20 q18 (fun H20 => (∃ fs, hpG H20 q18 = some (.inr (11, fs))) ∧ ∃ (c21 s21 : Nat), c21 ≤ (((((bc - c1) - c10) - c11) - 1) - c20) ∧ s21 ≤ (((((bs - s1) - s10) - s11) - 4) - s20) ∧ whJ4_append_15ec4 Z H20 c21 s21 q18 (Z.1 51) (fun r21 H21 => ∃ y22 : Nat, gF H21 x4 8 7 (.ref y22) ∧ (∃ (n24 : Nat) (f25 : Nat → Option Nat) (y28 : Nat), hpG H21 y22 = some (qE (zY Z 6) n24 f25) ∧ vp_in x7 n24 ∧ f25 x7.toNatClampNeg = some y28 ∧ ((∃ fs, hpG H21 y28 = some (.inr (9, fs))) ∧ ∃ d30 : Nat, d30 ≤ 8 ∧ ∃ (c30 s30 : Nat), c30 ≤ ((((((bc - c1) - c10) - c11) - 1) - c20) - c21) ∧ s30 ≤ ((((((bs - s1) - s10) - s11) - 4) - s20) - s21) ∧ wX10_text Z d30 H21 c30 s30 y28 (fun r30 H30 => (∃ fs, hpG H30 r21 = some (.inr (11, fs))) ∧ ∃ (c31 s31 : Nat), c31 ≤ (((((((bc - c1) - c10) - c11) - 1) - c20) - c21) - c30) ∧ s31 ≤ (((((((bs - s1) - s10) - s11) - 4) - s20) - s21) - s30) ∧ whJ4_append_15ec4 Z H30 c31 s31 r21 r30 (fun r31 H31 => (∃ fs, hpG H31 r31 = some (.inr (11, fs))) ∧ ∃ (c32 s32 : Nat), c32 ≤ ((((((((bc - c1) - c10) - c11) - 1) - c20) - c21) - c30) - c31) ∧ s32 ≤ ((((((((bs - s1) - s10) - s11) - 4) - s20) - s21) - s30) - s31) ∧ whJ4_toString_0e30d Z H31 c32 s32 r31 (fun r32 H32 => wL_told_770 K KL566 Z H32 (((((((((bc - c1) - c10) - c11) - 1) - c20) - c21) - c30) - c31) - c32) (((((((((bs - s1) - s10) - s11) - 4) - s20) - s21) - s30) - s31) - s32) x1 x4 x5 x6 x7 r32 r11)))))))))) ∧ ((f15 x7.toNatClampNeg) = none → wL_told_770 K KL566 Z H11 (((bc - c1) - c10) - c11) (((bs - s1) - s10) - s11) x1 x4 x5 x6 x7 (Z.1 50) r11)))))))))
set_option maxRecDepth 100000 in
set_option maxHeartbeats 4000000 in
theorem bL_told_708 {D : gD} {E : gE} {A : Nat → Prop} {Q : State → Prop} {bc0 bs0 : Nat} (C : CL D E (rmL_told bc0 bs0) cL_told 13 RL A) {K : Nat → gH → Prop} (hret : ∀ (r : Nat) (H : gH) (pc : Nat) (ls : List (Nat × Value)), K r H → decode cL_told pc = .ok (.areturn, 1) → Go D E A Q 13 bc0 bs0 ([] ++ hpW H) ls pc [.ref r]) {KL566 : gH → Nat → Nat → Nat → Nat → Int32 → Int32 → Int32 → Prop} (hKL566 : ∀ (cells slots : Nat) (H : gH) (bc : Nat) (bs : Nat) (x1 : Nat) (x4 : Nat) (x5 : Int32) (x6 : Int32) (x7 : Int32), cells + bc ≤ bc0 → slots + bs ≤ bs0 → KL566 H bc bs x1 x4 x5 x6 x7 → Go D E A Q 13 cells slots ([] ++ hpW H) [(0, .ref (zB D.2)), (1, .ref x1), (4, .ref x4), (5, .int x5), (6, .int x6), (7, .int x7)] 566 []) : ∀ (cells slots : Nat) (H : gH) (bc : Nat) (bs : Nat) (x1 : Nat) (x4 : Nat) (x5 : Int32) (x6 : Int32) (x7 : Int32) (z0 : Nat) (z1 : Nat), cells + bc ≤ bc0 → slots + bs ≤ bs0 → wL_told_708 K KL566 D.2 H bc bs x1 x4 x5 x6 x7 z0 z1 → Go D E A Q 13 cells slots ([] ++ hpW H) [(0, .ref (zB D.2)), (1, .ref x1), (4, .ref x4), (5, .int x5), (6, .int x6), (7, .int x7)] 708 [.ref z0, .ref z1] := by
  intro cells slots H bc bs x1 x4 x5 x6 x7 z0 z1 hbc hbs h
  unfold wL_told_708 at h
  obtain ⟨⟨fs9, hr9⟩, h⟩ := h
  obtain ⟨c1, s1, hc1, hs1, h⟩ := h
  refine p_callVQ C (fun _ h => h) [] (chJ4_append_15ec4_ok _ h) cf_L_75 im_J4_append_15ec4 se_J4_append_15ec4 (hRv_h (q := (RJ4, TJ4, 4)) hr9 rfl) rfl ⟨Nat.le_of_ble_eq_true rfl, Nat.le_of_ble_eq_true rfl⟩ ⟨by show cells + c1 ≤ bc0; omega, by show slots + s1 ≤ bs0; omega⟩ List.perm_append_comm (fun H1 : gH => [] ++ hpW H1) (fun _ => List.perm_append_comm) (rest := []) rfl (Nat.le_of_ble_eq_true rfl) dL_told_708 (fun r1 H1 h => ?_)
  show Go D E A Q 13 (cells + c1) (slots + s1) ([] ++ hpW H1) [(0, .ref (zB D.2)), (1, .ref x1), (4, .ref x4), (5, .int x5), (6, .int x6), (7, .int x7)] 711 [.ref r1]
  refine q_aload C dL_told_711 2 rfl ?_
  obtain ⟨y2, e3, h⟩ := h
  refine h_get C inX9g (ci := 8) rfl 6 (by decide) fl_L_134 rfl e3 dL_told_713 ?_
  refine q_iload C dL_told_716 5 rfl ?_
  obtain ⟨n4, f5, y8, e6, i7, g9, h⟩ := h
  refine h_aldR C 6 rfl rfl e6 i7 g9 dL_told_718 ?_
  obtain ⟨⟨fs9, hr9⟩, h⟩ := h
  obtain ⟨d10, hd10, c10, s10, hc10, hs10, h⟩ := h
  refine p_callVQ C (fun _ h => h) [] (cX10_text_ok _ d10 _ _ _ _ _ h) cf_L_147 im_X10_text se_X10_text (hRv_h (q := (RX10, TX10, 4)) hr9 rfl) rfl ⟨Nat.le_trans (by show _ * (d10 + 1) + 1 ≤ 64; omega) (Nat.le_of_ble_eq_true rfl), Nat.le_trans (by show 8 + (4 + 11) + _ * (d10 + 1) ≤ 1571; omega) (Nat.le_of_ble_eq_true rfl)⟩ ⟨by show cells + c1 + c10 ≤ bc0; omega, by show slots + s1 + s10 ≤ bs0; omega⟩ List.perm_append_comm (fun H10 : gH => [] ++ hpW H10) (fun _ => List.perm_append_comm) (rest := [.ref r1]) rfl (Nat.le_of_ble_eq_true rfl) dL_told_719 (fun r10 H10 h => ?_)
  show Go D E A Q 13 (cells + c1 + c10) (slots + s1 + s10) ([] ++ hpW H10) [(0, .ref (zB D.2)), (1, .ref x1), (4, .ref x4), (5, .int x5), (6, .int x6), (7, .int x7)] 722 [.ref r10, .ref r1]
  obtain ⟨⟨fs9, hr9⟩, h⟩ := h
  obtain ⟨c11, s11, hc11, hs11, h⟩ := h
  refine p_callVQ C (fun _ h => h) [] (chJ4_append_15ec4_ok _ h) cf_L_75 im_J4_append_15ec4 se_J4_append_15ec4 (hRv_h (q := (RJ4, TJ4, 4)) hr9 rfl) rfl ⟨Nat.le_of_ble_eq_true rfl, Nat.le_of_ble_eq_true rfl⟩ ⟨by show cells + c1 + c10 + c11 ≤ bc0; omega, by show slots + s1 + s10 + s11 ≤ bs0; omega⟩ List.perm_append_comm (fun H11 : gH => [] ++ hpW H11) (fun _ => List.perm_append_comm) (rest := []) rfl (Nat.le_of_ble_eq_true rfl) dL_told_722 (fun r11 H11 h => ?_)
  show Go D E A Q 13 (cells + c1 + c10 + c11) (slots + s1 + s10 + s11) ([] ++ hpW H11) [(0, .ref (zB D.2)), (1, .ref x1), (4, .ref x4), (5, .int x5), (6, .int x6), (7, .int x7)] 725 [.ref r11]
  refine q_aload C dL_told_725 2 rfl ?_
  obtain ⟨y12, e13, h⟩ := h
  refine h_get C inX9g (ci := 8) rfl 7 (by decide) fl_L_138 rfl e13 dL_told_727 ?_
  refine q_iload C dL_told_730 5 rfl ?_
  obtain ⟨n14, f15, e16, i17, h⟩ := h
  refine h_aald C 6 rfl rfl e16 i17 dL_told_732 ?_
  refine h_ifnn C 741 dL_told_733 (by decide) h (fun h => ?_) (fun h => ?_)
  · obtain ⟨b1, b2, h⟩ := h
    refine h_new C inJ4g tyJ4_ok cl_L_76 it_J4 ini_J4 (ci := 11) rfl (fs := [.null, .int 0, .int 0, .int 0]) (by decide) dL_told_741 ⟨by show cells + c1 + c10 + c11 + 1 ≤ bc0; omega, by show slots + s1 + s10 + s11 + 4 ≤ bs0; omega⟩ (fun q18 g19 => ?_)
    replace h := h q18 g19
    refine q_dup C dL_told_744 rfl ?_
    obtain ⟨c20, s20, hc20, hs20, h⟩ := h
    refine p_callIV C (fun _ h => h) [] (chJ4_init_da8c8_ok _ h) cf_L_108 im_J4_init_da8c8 rfl rfl ⟨Nat.le_of_ble_eq_true rfl, Nat.le_of_ble_eq_true rfl⟩ ⟨by show cells + c1 + c10 + c11 + 1 + c20 ≤ bc0; omega, by show slots + s1 + s10 + s11 + 4 + s20 ≤ bs0; omega⟩ List.perm_append_comm (fun H20 : gH => [] ++ hpW H20) (fun _ => List.perm_append_comm) (rest := [.ref q18, .ref r11]) rfl (Nat.le_of_ble_eq_true rfl) dL_told_745 (fun H20 h => ?_)
    show Go D E A Q 13 (cells + c1 + c10 + c11 + 1 + c20) (slots + s1 + s10 + s11 + 4 + s20) ([] ++ hpW H20) [(0, .ref (zB D.2)), (1, .ref x1), (4, .ref x4), (5, .int x5), (6, .int x6), (7, .int x7)] 748 [.ref q18, .ref r11]
    refine q_ldcK (i := 51) C (C.strR (i := 51) (Nat.le_of_ble_eq_true rfl)) dL_told_748 ?_
    obtain ⟨⟨fs9, hr9⟩, h⟩ := h
    obtain ⟨c21, s21, hc21, hs21, h⟩ := h
    refine p_callVQ C (fun _ h => h) [] (chJ4_append_15ec4_ok _ h) cf_L_75 im_J4_append_15ec4 se_J4_append_15ec4 (hRv_h (q := (RJ4, TJ4, 4)) hr9 rfl) rfl ⟨Nat.le_of_ble_eq_true rfl, Nat.le_of_ble_eq_true rfl⟩ ⟨by show cells + c1 + c10 + c11 + 1 + c20 + c21 ≤ bc0; omega, by show slots + s1 + s10 + s11 + 4 + s20 + s21 ≤ bs0; omega⟩ List.perm_append_comm (fun H21 : gH => [] ++ hpW H21) (fun _ => List.perm_append_comm) (rest := [.ref r11]) rfl (Nat.le_of_ble_eq_true rfl) dL_told_750 (fun r21 H21 h => ?_)
    show Go D E A Q 13 (cells + c1 + c10 + c11 + 1 + c20 + c21) (slots + s1 + s10 + s11 + 4 + s20 + s21) ([] ++ hpW H21) [(0, .ref (zB D.2)), (1, .ref x1), (4, .ref x4), (5, .int x5), (6, .int x6), (7, .int x7)] 753 [.ref r21, .ref r11]
    refine q_aload C dL_told_753 2 rfl ?_
    obtain ⟨y22, e23, h⟩ := h
    refine h_get C inX9g (ci := 8) rfl 7 (by decide) fl_L_138 rfl e23 dL_told_755 ?_
    refine q_iload C dL_told_758 5 rfl ?_
    obtain ⟨n24, f25, y28, e26, i27, g29, h⟩ := h
    refine h_aldR C 6 rfl rfl e26 i27 g29 dL_told_760 ?_
    obtain ⟨⟨fs9, hr9⟩, h⟩ := h
    obtain ⟨d30, hd30, c30, s30, hc30, hs30, h⟩ := h
    refine p_callVQ C (fun _ h => h) [] (cX10_text_ok _ d30 _ _ _ _ _ h) cf_L_147 im_X10_text se_X10_text (hRv_h (q := (RX10, TX10, 4)) hr9 rfl) rfl ⟨Nat.le_trans (by show _ * (d30 + 1) + 1 ≤ 64; omega) (Nat.le_of_ble_eq_true rfl), Nat.le_trans (by show 8 + (4 + 11) + _ * (d30 + 1) ≤ 1571; omega) (Nat.le_of_ble_eq_true rfl)⟩ ⟨by show cells + c1 + c10 + c11 + 1 + c20 + c21 + c30 ≤ bc0; omega, by show slots + s1 + s10 + s11 + 4 + s20 + s21 + s30 ≤ bs0; omega⟩ List.perm_append_comm (fun H30 : gH => [] ++ hpW H30) (fun _ => List.perm_append_comm) (rest := [.ref r21, .ref r11]) rfl (Nat.le_of_ble_eq_true rfl) dL_told_761 (fun r30 H30 h => ?_)
    show Go D E A Q 13 (cells + c1 + c10 + c11 + 1 + c20 + c21 + c30) (slots + s1 + s10 + s11 + 4 + s20 + s21 + s30) ([] ++ hpW H30) [(0, .ref (zB D.2)), (1, .ref x1), (4, .ref x4), (5, .int x5), (6, .int x6), (7, .int x7)] 764 [.ref r30, .ref r21, .ref r11]
    obtain ⟨⟨fs9, hr9⟩, h⟩ := h
    obtain ⟨c31, s31, hc31, hs31, h⟩ := h
    refine p_callVQ C (fun _ h => h) [] (chJ4_append_15ec4_ok _ h) cf_L_75 im_J4_append_15ec4 se_J4_append_15ec4 (hRv_h (q := (RJ4, TJ4, 4)) hr9 rfl) rfl ⟨Nat.le_of_ble_eq_true rfl, Nat.le_of_ble_eq_true rfl⟩ ⟨by show cells + c1 + c10 + c11 + 1 + c20 + c21 + c30 + c31 ≤ bc0; omega, by show slots + s1 + s10 + s11 + 4 + s20 + s21 + s30 + s31 ≤ bs0; omega⟩ List.perm_append_comm (fun H31 : gH => [] ++ hpW H31) (fun _ => List.perm_append_comm) (rest := [.ref r11]) rfl (Nat.le_of_ble_eq_true rfl) dL_told_764 (fun r31 H31 h => ?_)
    show Go D E A Q 13 (cells + c1 + c10 + c11 + 1 + c20 + c21 + c30 + c31) (slots + s1 + s10 + s11 + 4 + s20 + s21 + s30 + s31) ([] ++ hpW H31) [(0, .ref (zB D.2)), (1, .ref x1), (4, .ref x4), (5, .int x5), (6, .int x6), (7, .int x7)] 767 [.ref r31, .ref r11]
    obtain ⟨⟨fs9, hr9⟩, h⟩ := h
    obtain ⟨c32, s32, hc32, hs32, h⟩ := h
    refine p_callVQ C (fun _ h => h) [] (chJ4_toString_0e30d_ok _ h) cf_L_113 im_J4_toString_0e30d se_J4_toString_0e30d (hRv_h (q := (RJ4, TJ4, 4)) hr9 rfl) rfl ⟨Nat.le_of_ble_eq_true rfl, Nat.le_of_ble_eq_true rfl⟩ ⟨by show cells + c1 + c10 + c11 + 1 + c20 + c21 + c30 + c31 + c32 ≤ bc0; omega, by show slots + s1 + s10 + s11 + 4 + s20 + s21 + s30 + s31 + s32 ≤ bs0; omega⟩ List.perm_append_comm (fun H32 : gH => [] ++ hpW H32) (fun _ => List.perm_append_comm) (rest := [.ref r11]) rfl (Nat.le_of_ble_eq_true rfl) dL_told_767 (fun r32 H32 h => ?_)
    show Go D E A Q 13 (cells + c1 + c10 + c11 + 1 + c20 + c21 + c30 + c31 + c32) (slots + s1 + s10 + s11 + 4 + s20 + s21 + s30 + s31 + s32) ([] ++ hpW H32) [(0, .ref (zB D.2)), (1, .ref x1), (4, .ref x4), (5, .int x5), (6, .int x6), (7, .int x7)] 770 [.ref r32, .ref r11]
    exact bL_told_770 C (KL566 := KL566) hret hKL566 (cells + c1 + c10 + c11 + 1 + c20 + c21 + c30 + c31 + c32) (slots + s1 + s10 + s11 + 4 + s20 + s21 + s30 + s31 + s32) _ _ _ _ _ _ _ _ _ _ (by omega) (by omega) h
  · refine q_ldcK (i := 50) C (C.strR (i := 50) (Nat.le_of_ble_eq_true rfl)) dL_told_736 ?_
    refine q_goto (tgt := 770) C dL_told_738 (by decide) ?_
    exact bL_told_770 C (KL566 := KL566) hret hKL566 (cells + c1 + c10 + c11) (slots + s1 + s10 + s11) _ _ _ _ _ _ _ _ _ _ (by omega) (by omega) h
def wL_told_671 (K : Nat → gH → Prop) (KL566 : gH → Nat → Nat → Nat → Nat → Int32 → Int32 → Int32 → Prop) (Z : gZ) (H : gH) (bc : Nat) (bs : Nat) (x1 : Nat) (x4 : Nat) (x5 : Int32) (x6 : Int32) (x7 : Int32) (z0 : Option Nat) (z1 : Int32) (z2 : Nat) : Prop :=
  ∃ (n1 : Nat) (f2 : Nat → Option Nat), hpG H z2 = some (qE (zY Z 6) n1 f2) ∧ vp_in z1 n1 ∧ (∀ v, z0 = some v → ∃ vs, hpG H v = some (.inr (9, vs))) ∧ (∃ y6 : Nat, gF (hpS H z2 (qE (zY Z 6) n1 (va_up f2 z1.toNatClampNeg (z0)))) x4 8 5 (.ref y6) ∧ (∃ (n8 : Nat) (f9 : Nat → Int32), hpG (hpS H z2 (qE (zY Z 6) n1 (va_up f2 z1.toNatClampNeg (z0)))) y6 = some (iE (zY Z 1) n8 f9) ∧ vp_in x7 n8 ∧ (((¬ f9 x7.toNatClampNeg = 0 → ∃ y12 : Nat, gF (hpS H z2 (qE (zY Z 6) n1 (va_up f2 z1.toNatClampNeg (z0)))) x4 8 5 (.ref y12) ∧ (∃ (n14 : Nat) (f15 : Nat → Int32), hpG (hpS H z2 (qE (zY Z 6) n1 (va_up f2 z1.toNatClampNeg (z0)))) y12 = some (iE (zY Z 1) n14 f15) ∧ vp_in x7 n14 ∧ (((¬ f15 x7.toNatClampNeg = 1 → wL_told_708 K KL566 Z (hpS H z2 (qE (zY Z 6) n1 (va_up f2 z1.toNatClampNeg (z0)))) bc bs x1 x4 x5 x6 x7 (Z.1 49) x1) ∧ (f15 x7.toNatClampNeg = 1 → wL_told_708 K KL566 Z (hpS H z2 (qE (zY Z 6) n1 (va_up f2 z1.toNatClampNeg (z0)))) bc bs x1 x4 x5 x6 x7 (Z.1 48) x1))))) ∧ (f9 x7.toNatClampNeg = 0 → wL_told_708 K KL566 Z (hpS H z2 (qE (zY Z 6) n1 (va_up f2 z1.toNatClampNeg (z0)))) bc bs x1 x4 x5 x6 x7 (Z.1 47) x1)))))
set_option maxRecDepth 100000 in
set_option maxHeartbeats 4000000 in
theorem bL_told_671 {D : gD} {E : gE} {A : Nat → Prop} {Q : State → Prop} {bc0 bs0 : Nat} (C : CL D E (rmL_told bc0 bs0) cL_told 13 RL A) {K : Nat → gH → Prop} (hret : ∀ (r : Nat) (H : gH) (pc : Nat) (ls : List (Nat × Value)), K r H → decode cL_told pc = .ok (.areturn, 1) → Go D E A Q 13 bc0 bs0 ([] ++ hpW H) ls pc [.ref r]) {KL566 : gH → Nat → Nat → Nat → Nat → Int32 → Int32 → Int32 → Prop} (hKL566 : ∀ (cells slots : Nat) (H : gH) (bc : Nat) (bs : Nat) (x1 : Nat) (x4 : Nat) (x5 : Int32) (x6 : Int32) (x7 : Int32), cells + bc ≤ bc0 → slots + bs ≤ bs0 → KL566 H bc bs x1 x4 x5 x6 x7 → Go D E A Q 13 cells slots ([] ++ hpW H) [(0, .ref (zB D.2)), (1, .ref x1), (4, .ref x4), (5, .int x5), (6, .int x6), (7, .int x7)] 566 []) : ∀ (cells slots : Nat) (H : gH) (bc : Nat) (bs : Nat) (x1 : Nat) (x4 : Nat) (x5 : Int32) (x6 : Int32) (x7 : Int32) (z0 : Option Nat) (z1 : Int32) (z2 : Nat), cells + bc ≤ bc0 → slots + bs ≤ bs0 → wL_told_671 K KL566 D.2 H bc bs x1 x4 x5 x6 x7 z0 z1 z2 → Go D E A Q 13 cells slots ([] ++ hpW H) [(0, .ref (zB D.2)), (1, .ref x1), (4, .ref x4), (5, .int x5), (6, .int x6), (7, .int x7)] 671 [va_rf z0, .int z1, .ref z2] := by
  intro cells slots H bc bs x1 x4 x5 x6 x7 z0 z1 z2 hbc hbs h
  unfold wL_told_671 at h
  obtain ⟨n1, f2, e3, i4, v5, h⟩ := h
  refine h_astO C e3 v5 i4 dL_told_671 ?_
  refine q_aload_n C dL_told_672 1 rfl ?_
  refine q_aload C dL_told_673 2 rfl ?_
  obtain ⟨y6, e7, h⟩ := h
  refine h_get C inX9g (ci := 8) rfl 5 (by decide) fl_L_130 rfl e7 dL_told_675 ?_
  refine q_iload C dL_told_678 5 rfl ?_
  obtain ⟨n8, f9, e10, i11, h⟩ := h
  refine h_iald C e10 i11 dL_told_680 ?_
  refine q_if_ne C 689 dL_told_681 (by decide) h (fun h => ?_) (fun h => ?_)
  · refine q_aload C dL_told_689 2 rfl ?_
    obtain ⟨y12, e13, h⟩ := h
    refine h_get C inX9g (ci := 8) rfl 5 (by decide) fl_L_130 rfl e13 dL_told_691 ?_
    refine q_iload C dL_told_694 5 rfl ?_
    obtain ⟨n14, f15, e16, i17, h⟩ := h
    refine h_iald C e16 i17 dL_told_696 ?_
    refine q_iconst C (v := 1) dL_told_697 (by decide) ?_
    refine q_icmp_ne C 706 dL_told_698 (by decide) h (fun h => ?_) (fun h => ?_)
    · refine q_ldcK (i := 49) C (C.strR (i := 49) (Nat.le_of_ble_eq_true rfl)) dL_told_706 ?_
      exact bL_told_708 C (KL566 := KL566) hret hKL566 cells slots _ _ _ _ _ _ _ _ _ _ (by omega) (by omega) h
    · refine q_ldcK (i := 48) C (C.strR (i := 48) (Nat.le_of_ble_eq_true rfl)) dL_told_701 ?_
      refine q_goto (tgt := 708) C dL_told_703 (by decide) ?_
      exact bL_told_708 C (KL566 := KL566) hret hKL566 cells slots _ _ _ _ _ _ _ _ _ _ (by omega) (by omega) h
  · refine q_ldcK (i := 47) C (C.strR (i := 47) (Nat.le_of_ble_eq_true rfl)) dL_told_684 ?_
    refine q_goto (tgt := 708) C dL_told_686 (by decide) ?_
    exact bL_told_708 C (KL566 := KL566) hret hKL566 cells slots _ _ _ _ _ _ _ _ _ _ (by omega) (by omega) h
def wL_told_620 (K : Nat → gH → Prop) (KL566 : gH → Nat → Nat → Nat → Nat → Int32 → Int32 → Int32 → Prop) (Z : gZ) (H : gH) (bc : Nat) (bs : Nat) (x1 : Nat) (x4 : Nat) (x5 : Int32) (x6 : Int32) (x7 : Int32) (x8 : Int32) (z0 : Int32) (z1 : Int32) (z2 : Nat) : Prop :=
  ∃ (n1 : Nat) (f2 : Nat → Int32), hpG H z2 = some (iE (zY Z 1) n1 f2) ∧ vp_in z1 n1 ∧ (∃ y5 : Nat, gF (hpS H z2 (iE (zY Z 1) n1 (upd f2 z1.toNatClampNeg z0))) x4 8 6 (.ref y5) ∧ (∃ d7 : Nat, d7 ≤ 8 ∧ ∃ (c7 s7 : Nat), c7 ≤ bc ∧ s7 ≤ bs ∧ wL_sum Z d7 (hpS H z2 (iE (zY Z 1) n1 (upd f2 z1.toNatClampNeg z0))) c7 s7 (x8 >>> (2 &&& 31)) x5 1 (fun r7 H7 => ∃ (n8 : Nat) (f9 : Nat → Option Nat) (y13 : List Value), hpG H7 y5 = some (qE (zY Z 6) n8 f9) ∧ vp_in x7 n8 ∧ hpG H7 r7 = some (.inr (9, y13)) ∧ (∃ y14 : Nat, gF (hpS H7 y5 (qE (zY Z 6) n8 (va_up f9 x7.toNatClampNeg (some r7)))) x4 8 7 (.ref y14) ∧ (wL_below Z (hpS H7 y5 (qE (zY Z 6) n8 (va_up f9 x7.toNatClampNeg (some r7)))) (x8 >>> (4 &&& 31)) 3 (fun r16 => ((¬ r16 = 0 → ∃ d17 : Nat, d17 ≤ 8 ∧ ∃ (c17 s17 : Nat), c17 ≤ (bc - c7) ∧ s17 ≤ (bs - s7) ∧ wL_test Z d17 (hpS H7 y5 (qE (zY Z 6) n8 (va_up f9 x7.toNatClampNeg (some r7)))) c17 s17 (x8 >>> (3 &&& 31)) x5 0 (fun r17 H17 => wL_told_671 K KL566 Z H17 ((bc - c7) - c17) ((bs - s7) - s17) x1 x4 x5 x6 x7 (some r17) x7 y14)) ∧ (r16 = 0 → wL_told_671 K KL566 Z (hpS H7 y5 (qE (zY Z 6) n8 (va_up f9 x7.toNatClampNeg (some r7)))) (bc - c7) (bs - s7) x1 x4 x5 x6 x7 none x7 y14))))))))
set_option maxRecDepth 100000 in
set_option maxHeartbeats 4000000 in
theorem bL_told_620 {D : gD} {E : gE} {A : Nat → Prop} {Q : State → Prop} {bc0 bs0 : Nat} (C : CL D E (rmL_told bc0 bs0) cL_told 13 RL A) {K : Nat → gH → Prop} (hret : ∀ (r : Nat) (H : gH) (pc : Nat) (ls : List (Nat × Value)), K r H → decode cL_told pc = .ok (.areturn, 1) → Go D E A Q 13 bc0 bs0 ([] ++ hpW H) ls pc [.ref r]) {KL566 : gH → Nat → Nat → Nat → Nat → Int32 → Int32 → Int32 → Prop} (hKL566 : ∀ (cells slots : Nat) (H : gH) (bc : Nat) (bs : Nat) (x1 : Nat) (x4 : Nat) (x5 : Int32) (x6 : Int32) (x7 : Int32), cells + bc ≤ bc0 → slots + bs ≤ bs0 → KL566 H bc bs x1 x4 x5 x6 x7 → Go D E A Q 13 cells slots ([] ++ hpW H) [(0, .ref (zB D.2)), (1, .ref x1), (4, .ref x4), (5, .int x5), (6, .int x6), (7, .int x7)] 566 []) : ∀ (cells slots : Nat) (H : gH) (bc : Nat) (bs : Nat) (x1 : Nat) (x4 : Nat) (x5 : Int32) (x6 : Int32) (x7 : Int32) (x8 : Int32) (z0 : Int32) (z1 : Int32) (z2 : Nat), cells + bc ≤ bc0 → slots + bs ≤ bs0 → wL_told_620 K KL566 D.2 H bc bs x1 x4 x5 x6 x7 x8 z0 z1 z2 → Go D E A Q 13 cells slots ([] ++ hpW H) [(0, .ref (zB D.2)), (1, .ref x1), (4, .ref x4), (5, .int x5), (6, .int x6), (7, .int x7), (8, .int x8)] 620 [.int z0, .int z1, .ref z2] := by
  intro cells slots H bc bs x1 x4 x5 x6 x7 x8 z0 z1 z2 hbc hbs h
  unfold wL_told_620 at h
  obtain ⟨n1, f2, e3, i4, h⟩ := h
  refine h_iast C e3 i4 dL_told_620 ?_
  refine q_aload C dL_told_621 2 rfl ?_
  obtain ⟨y5, e6, h⟩ := h
  refine h_get C inX9g (ci := 8) rfl 6 (by decide) fl_L_134 rfl e6 dL_told_623 ?_
  refine q_iload C dL_told_626 5 rfl ?_
  refine q_iload C dL_told_628 6 rfl ?_
  refine q_iconst C (v := 2) dL_told_630 (by decide) ?_
  refine q_ishr C dL_told_631 ?_
  refine q_iload C dL_told_632 3 rfl ?_
  refine q_iconst C (v := 1) dL_told_634 (by decide) ?_
  obtain ⟨d7, hd7, c7, s7, hc7, hs7, h⟩ := h
  refine p_callSQ C (fun _ h => h) [] (cL_sum_ok _ d7 _ _ _ _ _ _ _ h) cf_L_49 st_L_sum rfl ⟨Nat.le_trans (by show _ * (d7 + 1) + 1 ≤ 28; omega) (Nat.le_of_ble_eq_true rfl), Nat.le_trans (by show 8 + (5 + 11) + _ * (d7 + 1) ≤ 393; omega) (Nat.le_of_ble_eq_true rfl)⟩ ⟨by show cells + c7 ≤ bc0; omega, by show slots + s7 ≤ bs0; omega⟩ List.perm_append_comm (fun H7 : gH => [] ++ hpW H7) (fun _ => List.perm_append_comm) (rest := [.int x7, .ref y5]) rfl (Nat.le_of_ble_eq_true rfl) dL_told_635 (fun r7 H7 h => ?_)
  show Go D E A Q 13 (cells + c7) (slots + s7) ([] ++ hpW H7) [(0, .ref (zB D.2)), (1, .ref x1), (4, .ref x4), (5, .int x5), (6, .int x6), (7, .int x7), (8, .int x8)] 638 [.ref r7, .int x7, .ref y5]
  obtain ⟨n8, f9, y13, e10, i11, v12, h⟩ := h
  refine h_astT C e10 v12 i11 dL_told_638 ?_
  refine q_aload C dL_told_639 2 rfl ?_
  obtain ⟨y14, e15, h⟩ := h
  refine h_get C inX9g (ci := 8) rfl 7 (by decide) fl_L_138 rfl e15 dL_told_641 ?_
  refine q_iload C dL_told_644 5 rfl ?_
  refine q_iload C dL_told_646 6 rfl ?_
  refine q_iconst C (v := 4) dL_told_648 (by decide) ?_
  refine q_ishr C dL_told_649 ?_
  refine q_iconst C (v := 3) dL_told_650 (by decide) ?_
  refine p_callSI C (fun _ h => h) [] (cL_below_ok _ h) cf_L_35 st_L_below rfl ⟨Nat.le_of_ble_eq_true rfl, Nat.le_of_ble_eq_true rfl⟩ ⟨by show cells + c7 + 0 ≤ bc0; omega, by show slots + s7 + 0 ≤ bs0; omega⟩ List.perm_append_comm (fun _ : Unit => [] ++ hpW (hpS H7 y5 (qE (zY D.2 6) n8 (va_up f9 x7.toNatClampNeg (some r7))))) (fun _ => List.perm_append_comm) (rest := [.int x7, .ref y14]) rfl (Nat.le_of_ble_eq_true rfl) dL_told_651 (fun r16 _ h => ?_)
  show Go D E A Q 13 (cells + c7) (slots + s7) ([] ++ hpW (hpS H7 y5 (qE (zY D.2 6) n8 (va_up f9 x7.toNatClampNeg (some r7))))) [(0, .ref (zB D.2)), (1, .ref x1), (4, .ref x4), (5, .int x5), (6, .int x6), (7, .int x7), (8, .int x8)] 654 [.int r16, .int x7, .ref y14]
  refine q_if_ne C 661 dL_told_654 (by decide) h (fun h => ?_) (fun h => ?_)
  · refine q_iload C dL_told_661 6 rfl ?_
    refine q_iconst C (v := 3) dL_told_663 (by decide) ?_
    refine q_ishr C dL_told_664 ?_
    refine q_iload C dL_told_665 3 rfl ?_
    refine q_iconst C (v := 0) dL_told_667 (by decide) ?_
    obtain ⟨d17, hd17, c17, s17, hc17, hs17, h⟩ := h
    refine p_callSQ C (fun _ h => h) [] (cL_test_ok _ d17 _ _ _ _ _ _ _ h) cf_L_60 st_L_test rfl ⟨Nat.le_trans (by show _ * (d17 + 1) + 1 ≤ 262; omega) (Nat.le_of_ble_eq_true rfl), Nat.le_trans (by show 8 + (5 + 11) + _ * (d17 + 1) ≤ 3570; omega) (Nat.le_of_ble_eq_true rfl)⟩ ⟨by show cells + c7 + c17 ≤ bc0; omega, by show slots + s7 + s17 ≤ bs0; omega⟩ List.perm_append_comm (fun H17 : gH => [] ++ hpW H17) (fun _ => List.perm_append_comm) (rest := [.int x7, .ref y14]) rfl (Nat.le_of_ble_eq_true rfl) dL_told_668 (fun r17 H17 h => ?_)
    show Go D E A Q 13 (cells + c7 + c17) (slots + s7 + s17) ([] ++ hpW H17) [(0, .ref (zB D.2)), (1, .ref x1), (4, .ref x4), (5, .int x5), (6, .int x6), (7, .int x7), (8, .int x8)] 671 [.ref r17, .int x7, .ref y14]
    refine q_ls [(0, .ref (zB D.2)), (1, .ref x1), (4, .ref x4), (5, .int x5), (6, .int x6), (7, .int x7)] [0, 1, 2, 3, 4, 5] rfl ?_
    exact bL_told_671 C (KL566 := KL566) hret hKL566 (cells + c7 + c17) (slots + s7 + s17) _ _ _ _ _ _ _ _ _ _ _ (by omega) (by omega) h
  · refine h_null C dL_told_657 ?_
    refine q_goto (tgt := 671) C dL_told_658 (by decide) ?_
    refine q_ls [(0, .ref (zB D.2)), (1, .ref x1), (4, .ref x4), (5, .int x5), (6, .int x6), (7, .int x7)] [0, 1, 2, 3, 4, 5] rfl ?_
    exact bL_told_671 C (KL566 := KL566) hret hKL566 (cells + c7) (slots + s7) _ _ _ _ _ _ _ _ _ _ _ (by omega) (by omega) h
def wL_told_566 (K : Nat → gH → Prop) (Z : gZ) : Nat → gH → Nat → Nat → Nat → Nat → Int32 → Int32 → Int32 → Prop
  | 0, _, _, _, _, _, _, _, _ => False
  | n + 1, H, bc, bs, x1, x4, x5, x6, x7 =>
  ((x6 ≤ x7 → K x4 H) ∧ (¬ x6 ≤ x7 → wL_cell Z H (3 + x7) (fun r1 => ∃ y2 : Nat, gF H x4 8 5 (.ref y2) ∧ (wL_below Z H ((r1 >>> (3 &&& 31)) + (17 * x7)) 5 (fun r4 => ((3 ≤ r4 → wL_below Z H ((r1 >>> (3 &&& 31)) + (17 * x7)) 5 (fun r5 => wL_told_620 K (wL_told_566 K Z n) Z H bc bs x1 x4 x5 x6 x7 ((r1 >>> (3 &&& 31)) + (17 * x7)) (r5 - 2) x7 y2)) ∧ (¬ 3 ≤ r4 → wL_told_620 K (wL_told_566 K Z n) Z H bc bs x1 x4 x5 x6 x7 ((r1 >>> (3 &&& 31)) + (17 * x7)) 0 x7 y2)))))))
set_option maxRecDepth 100000 in
set_option maxHeartbeats 4000000 in
theorem bL_told_566 {D : gD} {E : gE} {A : Nat → Prop} {Q : State → Prop} {bc0 bs0 : Nat} (C : CL D E (rmL_told bc0 bs0) cL_told 13 RL A) {K : Nat → gH → Prop} (hret : ∀ (r : Nat) (H : gH) (pc : Nat) (ls : List (Nat × Value)), K r H → decode cL_told pc = .ok (.areturn, 1) → Go D E A Q 13 bc0 bs0 ([] ++ hpW H) ls pc [.ref r]) : ∀ (n : Nat) (cells slots : Nat) (H : gH) (bc : Nat) (bs : Nat) (x1 : Nat) (x4 : Nat) (x5 : Int32) (x6 : Int32) (x7 : Int32), cells + bc ≤ bc0 → slots + bs ≤ bs0 → wL_told_566 K D.2 n H bc bs x1 x4 x5 x6 x7 → Go D E A Q 13 cells slots ([] ++ hpW H) [(0, .ref (zB D.2)), (1, .ref x1), (4, .ref x4), (5, .int x5), (6, .int x6), (7, .int x7)] 566 [] := by
  intro n
  induction n with
  | zero =>
    intro cells slots H bc bs x1 x4 x5 x6 x7 hbc hbs h
    exact h.elim
  | succ n ih =>
    intro cells slots H bc bs x1 x4 x5 x6 x7 hbc hbs h
    unfold wL_told_566 at h
    refine q_iload C dL_told_566 5 rfl ?_
    refine q_iload C dL_told_568 4 rfl ?_
    refine q_icmp_ge C 785 dL_told_570 (by decide) h (fun h => ?_) (fun h => ?_)
    · refine q_aload C dL_told_785 2 rfl ?_
      refine q_widen (k := bc0) (n := bs0) (by omega) (by omega) ?_
      exact hret x4 H _ _ h dL_told_787
    · refine q_aload_n C dL_told_573 0 rfl ?_
      refine q_iconst C (v := 3) dL_told_574 (by decide) ?_
      refine q_iload C dL_told_575 5 rfl ?_
      refine q_iadd C dL_told_577 ?_
      refine p_callSI C (fun _ h => h) [] (cL_cell_ok _ h) cf_L_63 st_L_cell rfl ⟨Nat.le_of_ble_eq_true rfl, Nat.le_of_ble_eq_true rfl⟩ ⟨by show cells + 0 ≤ bc0; omega, by show slots + 0 ≤ bs0; omega⟩ List.perm_append_comm (fun _ : Unit => [] ++ hpW H) (fun _ => List.perm_append_comm) (rest := []) rfl (Nat.le_of_ble_eq_true rfl) dL_told_578 (fun r1 _ h => ?_)
      show Go D E A Q 13 cells slots ([] ++ hpW H) [(0, .ref (zB D.2)), (1, .ref x1), (4, .ref x4), (5, .int x5), (6, .int x6), (7, .int x7)] 581 [.int r1]
      refine q_iconst C (v := 3) dL_told_581 (by decide) ?_
      refine q_ishr C dL_told_582 ?_
      refine q_bipush C (v := 17) dL_told_583 (by decide) ?_
      refine q_iload C dL_told_585 5 rfl ?_
      refine q_imul C dL_told_587 ?_
      refine q_iadd C dL_told_588 ?_
      refine q_istore C [(8, .int ((r1 >>> (3 &&& 31)) + (17 * x7))), (0, .ref (zB D.2)), (1, .ref x1), (4, .ref x4), (5, .int x5), (6, .int x6), (7, .int x7)] dL_told_589 (by decide) rfl ?_
      refine q_aload C dL_told_591 3 rfl ?_
      obtain ⟨y2, e3, h⟩ := h
      refine h_get C inX9g (ci := 8) rfl 5 (by decide) fl_L_130 rfl e3 dL_told_593 ?_
      refine q_iload C dL_told_596 6 rfl ?_
      refine q_iload C dL_told_598 0 rfl ?_
      refine q_iconst C (v := 5) dL_told_600 (by decide) ?_
      refine p_callSI C (fun _ h => h) [] (cL_below_ok _ h) cf_L_35 st_L_below rfl ⟨Nat.le_of_ble_eq_true rfl, Nat.le_of_ble_eq_true rfl⟩ ⟨by show cells + 0 ≤ bc0; omega, by show slots + 0 ≤ bs0; omega⟩ List.perm_append_comm (fun _ : Unit => [] ++ hpW H) (fun _ => List.perm_append_comm) (rest := [.int x7, .ref y2]) rfl (Nat.le_of_ble_eq_true rfl) dL_told_601 (fun r4 _ h => ?_)
      show Go D E A Q 13 cells slots ([] ++ hpW H) [(8, .int ((r1 >>> (3 &&& 31)) + (17 * x7))), (0, .ref (zB D.2)), (1, .ref x1), (4, .ref x4), (5, .int x5), (6, .int x6), (7, .int x7)] 604 [.int r4, .int x7, .ref y2]
      refine q_iconst C (v := 3) dL_told_604 (by decide) ?_
      refine q_icmp_ge C 612 dL_told_605 (by decide) h (fun h => ?_) (fun h => ?_)
      · refine q_iload C dL_told_612 0 rfl ?_
        refine q_iconst C (v := 5) dL_told_614 (by decide) ?_
        refine p_callSI C (fun _ h => h) [] (cL_below_ok _ h) cf_L_35 st_L_below rfl ⟨Nat.le_of_ble_eq_true rfl, Nat.le_of_ble_eq_true rfl⟩ ⟨by show cells + 0 ≤ bc0; omega, by show slots + 0 ≤ bs0; omega⟩ List.perm_append_comm (fun _ : Unit => [] ++ hpW H) (fun _ => List.perm_append_comm) (rest := [.int x7, .ref y2]) rfl (Nat.le_of_ble_eq_true rfl) dL_told_615 (fun r5 _ h => ?_)
        show Go D E A Q 13 cells slots ([] ++ hpW H) [(8, .int ((r1 >>> (3 &&& 31)) + (17 * x7))), (0, .ref (zB D.2)), (1, .ref x1), (4, .ref x4), (5, .int x5), (6, .int x6), (7, .int x7)] 618 [.int r5, .int x7, .ref y2]
        refine q_iconst C (v := 2) dL_told_618 (by decide) ?_
        refine q_isub C dL_told_619 ?_
        refine q_ls [(0, .ref (zB D.2)), (1, .ref x1), (4, .ref x4), (5, .int x5), (6, .int x6), (7, .int x7), (8, .int ((r1 >>> (3 &&& 31)) + (17 * x7)))] [1, 2, 3, 4, 5, 6, 0] rfl ?_
        exact bL_told_620 C (KL566 := (wL_told_566 K D.2 n)) hret ih cells slots _ _ _ _ _ _ _ _ _ _ _ _ (by omega) (by omega) h
      · refine q_iconst C (v := 0) dL_told_608 (by decide) ?_
        refine q_goto (tgt := 620) C dL_told_609 (by decide) ?_
        refine q_ls [(0, .ref (zB D.2)), (1, .ref x1), (4, .ref x4), (5, .int x5), (6, .int x6), (7, .int x7), (8, .int ((r1 >>> (3 &&& 31)) + (17 * x7)))] [1, 2, 3, 4, 5, 6, 0] rfl ?_
        exact bL_told_620 C (KL566 := (wL_told_566 K D.2 n)) hret ih cells slots _ _ _ _ _ _ _ _ _ _ _ _ (by omega) (by omega) h
def wL_told_514 (K : Nat → gH → Prop) (KL198 : gH → Nat → Nat → Nat → Int32 → Int32 → Nat → Int32 → Int32 → Prop) (Z : gZ) (H : gH) (bc : Nat) (bs : Nat) (x1 : Nat) (x2 : Int32) (x3 : Int32) (x4 : Nat) (x5 : Int32) (x6 : Int32) : Prop :=
  KL198 H bc bs x1 x2 x3 x4 x5 (x6 + 1)
set_option maxRecDepth 100000 in
set_option maxHeartbeats 4000000 in
theorem bL_told_514 {D : gD} {E : gE} {A : Nat → Prop} {Q : State → Prop} {bc0 bs0 : Nat} (C : CL D E (rmL_told bc0 bs0) cL_told 13 RL A) {K : Nat → gH → Prop} (hret : ∀ (r : Nat) (H : gH) (pc : Nat) (ls : List (Nat × Value)), K r H → decode cL_told pc = .ok (.areturn, 1) → Go D E A Q 13 bc0 bs0 ([] ++ hpW H) ls pc [.ref r]) {KL198 : gH → Nat → Nat → Nat → Int32 → Int32 → Nat → Int32 → Int32 → Prop} (hKL198 : ∀ (cells slots : Nat) (H : gH) (bc : Nat) (bs : Nat) (x1 : Nat) (x2 : Int32) (x3 : Int32) (x4 : Nat) (x5 : Int32) (x6 : Int32), cells + bc ≤ bc0 → slots + bs ≤ bs0 → KL198 H bc bs x1 x2 x3 x4 x5 x6 → Go D E A Q 13 cells slots ([] ++ hpW H) [(0, .ref (zB D.2)), (1, .ref x1), (2, .int x2), (3, .int x3), (4, .ref x4), (5, .int x5), (6, .int x6)] 198 []) : ∀ (cells slots : Nat) (H : gH) (bc : Nat) (bs : Nat) (x1 : Nat) (x2 : Int32) (x3 : Int32) (x4 : Nat) (x5 : Int32) (x6 : Int32), cells + bc ≤ bc0 → slots + bs ≤ bs0 → wL_told_514 K KL198 D.2 H bc bs x1 x2 x3 x4 x5 x6 → Go D E A Q 13 cells slots ([] ++ hpW H) [(0, .ref (zB D.2)), (1, .ref x1), (2, .int x2), (3, .int x3), (4, .ref x4), (5, .int x5), (6, .int x6)] 514 [] := by
  intro cells slots H bc bs x1 x2 x3 x4 x5 x6 hbc hbs h
  unfold wL_told_514 at h
  refine q_iinc C (v := x6 + 1) [(6, .int (x6 + 1)), (0, .ref (zB D.2)), (1, .ref x1), (2, .int x2), (3, .int x3), (4, .ref x4), (5, .int x5)] dL_told_514 6 rfl rfl (by decide) rfl ?_
  refine q_goto (tgt := 198) C dL_told_517 (by decide) ?_
  refine q_ls [(0, .ref (zB D.2)), (1, .ref x1), (2, .int x2), (3, .int x3), (4, .ref x4), (5, .int x5), (6, .int (x6 + 1))] [1, 2, 3, 4, 5, 6, 0] rfl ?_
  exact hKL198 cells slots _ _ _ _ _ _ _ _ _ (by omega) (by omega) h
def wL_told_498 (K : Nat → gH → Prop) (KL198 : gH → Nat → Nat → Nat → Int32 → Int32 → Nat → Int32 → Int32 → Prop) (Z : gZ) (H : gH) (bc : Nat) (bs : Nat) (x1 : Nat) (x2 : Int32) (x3 : Int32) (x4 : Nat) (x5 : Int32) (x6 : Int32) (x12 : Nat) (z0 : Nat) (z1 : Nat) : Prop :=
  (∃ fs, hpG H z1 = some (.inr (11, fs))) ∧ ∃ (c1 s1 : Nat), c1 ≤ bc ∧ s1 ≤ bs ∧ whJ4_append_15ec4 Z H c1 s1 z1 z0 (fun r1 H1 => ∃ (n2 : Nat) (f3 : Nat → Int32), hpG H1 x12 = some (iE (zY Z 1) n2 f3) ∧ vp_in 2 n2 ∧ ((∃ fs, hpG H1 r1 = some (.inr (11, fs))) ∧ ∃ (c6 s6 : Nat), c6 ≤ (bc - c1) ∧ s6 ≤ (bs - s1) ∧ whJ4_append_bf812 Z H1 c6 s6 r1 (f3 (2 : Int32).toNatClampNeg) (fun r6 H6 => (∃ fs, hpG H6 r6 = some (.inr (11, fs))) ∧ ∃ (c7 s7 : Nat), c7 ≤ ((bc - c1) - c6) ∧ s7 ≤ ((bs - s1) - s6) ∧ whJ4_append_15ec4 Z H6 c7 s7 r6 (Z.1 35) (fun r7 H7 => wL_told_514 K KL198 Z H7 (((bc - c1) - c6) - c7) (((bs - s1) - s6) - s7) x1 x2 x3 x4 x5 x6))))
set_option maxRecDepth 100000 in
set_option maxHeartbeats 4000000 in
theorem bL_told_498 {D : gD} {E : gE} {A : Nat → Prop} {Q : State → Prop} {bc0 bs0 : Nat} (C : CL D E (rmL_told bc0 bs0) cL_told 13 RL A) {K : Nat → gH → Prop} (hret : ∀ (r : Nat) (H : gH) (pc : Nat) (ls : List (Nat × Value)), K r H → decode cL_told pc = .ok (.areturn, 1) → Go D E A Q 13 bc0 bs0 ([] ++ hpW H) ls pc [.ref r]) {KL198 : gH → Nat → Nat → Nat → Int32 → Int32 → Nat → Int32 → Int32 → Prop} (hKL198 : ∀ (cells slots : Nat) (H : gH) (bc : Nat) (bs : Nat) (x1 : Nat) (x2 : Int32) (x3 : Int32) (x4 : Nat) (x5 : Int32) (x6 : Int32), cells + bc ≤ bc0 → slots + bs ≤ bs0 → KL198 H bc bs x1 x2 x3 x4 x5 x6 → Go D E A Q 13 cells slots ([] ++ hpW H) [(0, .ref (zB D.2)), (1, .ref x1), (2, .int x2), (3, .int x3), (4, .ref x4), (5, .int x5), (6, .int x6)] 198 []) : ∀ (cells slots : Nat) (H : gH) (bc : Nat) (bs : Nat) (x1 : Nat) (x2 : Int32) (x3 : Int32) (x4 : Nat) (x5 : Int32) (x6 : Int32) (x12 : Nat) (z0 : Nat) (z1 : Nat), cells + bc ≤ bc0 → slots + bs ≤ bs0 → wL_told_498 K KL198 D.2 H bc bs x1 x2 x3 x4 x5 x6 x12 z0 z1 → Go D E A Q 13 cells slots ([] ++ hpW H) [(0, .ref (zB D.2)), (1, .ref x1), (2, .int x2), (3, .int x3), (4, .ref x4), (5, .int x5), (6, .int x6), (12, .ref x12)] 498 [.ref z0, .ref z1] := by
  intro cells slots H bc bs x1 x2 x3 x4 x5 x6 x12 z0 z1 hbc hbs h
  unfold wL_told_498 at h
  obtain ⟨⟨fs9, hr9⟩, h⟩ := h
  obtain ⟨c1, s1, hc1, hs1, h⟩ := h
  refine p_callVQ C (fun _ h => h) [] (chJ4_append_15ec4_ok _ h) cf_L_75 im_J4_append_15ec4 se_J4_append_15ec4 (hRv_h (q := (RJ4, TJ4, 4)) hr9 rfl) rfl ⟨Nat.le_of_ble_eq_true rfl, Nat.le_of_ble_eq_true rfl⟩ ⟨by show cells + c1 ≤ bc0; omega, by show slots + s1 ≤ bs0; omega⟩ List.perm_append_comm (fun H1 : gH => [] ++ hpW H1) (fun _ => List.perm_append_comm) (rest := []) rfl (Nat.le_of_ble_eq_true rfl) dL_told_498 (fun r1 H1 h => ?_)
  show Go D E A Q 13 (cells + c1) (slots + s1) ([] ++ hpW H1) [(0, .ref (zB D.2)), (1, .ref x1), (2, .int x2), (3, .int x3), (4, .ref x4), (5, .int x5), (6, .int x6), (12, .ref x12)] 501 [.ref r1]
  refine q_aload C dL_told_501 7 rfl ?_
  refine q_iconst C (v := 2) dL_told_503 (by decide) ?_
  obtain ⟨n2, f3, e4, i5, h⟩ := h
  refine h_iald C e4 i5 dL_told_504 ?_
  obtain ⟨⟨fs9, hr9⟩, h⟩ := h
  obtain ⟨c6, s6, hc6, hs6, h⟩ := h
  refine p_callVQ C (fun _ h => h) [] (chJ4_append_bf812_ok _ h) cf_L_81 im_J4_append_bf812 se_J4_append_bf812 (hRv_h (q := (RJ4, TJ4, 4)) hr9 rfl) rfl ⟨Nat.le_of_ble_eq_true rfl, Nat.le_of_ble_eq_true rfl⟩ ⟨by show cells + c1 + c6 ≤ bc0; omega, by show slots + s1 + s6 ≤ bs0; omega⟩ List.perm_append_comm (fun H6 : gH => [] ++ hpW H6) (fun _ => List.perm_append_comm) (rest := []) rfl (Nat.le_of_ble_eq_true rfl) dL_told_505 (fun r6 H6 h => ?_)
  show Go D E A Q 13 (cells + c1 + c6) (slots + s1 + s6) ([] ++ hpW H6) [(0, .ref (zB D.2)), (1, .ref x1), (2, .int x2), (3, .int x3), (4, .ref x4), (5, .int x5), (6, .int x6), (12, .ref x12)] 508 [.ref r6]
  refine q_ldcK (i := 35) C (C.strR (i := 35) (Nat.le_of_ble_eq_true rfl)) dL_told_508 ?_
  obtain ⟨⟨fs9, hr9⟩, h⟩ := h
  obtain ⟨c7, s7, hc7, hs7, h⟩ := h
  refine p_callVQ C (fun _ h => h) [] (chJ4_append_15ec4_ok _ h) cf_L_75 im_J4_append_15ec4 se_J4_append_15ec4 (hRv_h (q := (RJ4, TJ4, 4)) hr9 rfl) rfl ⟨Nat.le_of_ble_eq_true rfl, Nat.le_of_ble_eq_true rfl⟩ ⟨by show cells + c1 + c6 + c7 ≤ bc0; omega, by show slots + s1 + s6 + s7 ≤ bs0; omega⟩ List.perm_append_comm (fun H7 : gH => [] ++ hpW H7) (fun _ => List.perm_append_comm) (rest := []) rfl (Nat.le_of_ble_eq_true rfl) dL_told_510 (fun r7 H7 h => ?_)
  show Go D E A Q 13 (cells + c1 + c6 + c7) (slots + s1 + s6 + s7) ([] ++ hpW H7) [(0, .ref (zB D.2)), (1, .ref x1), (2, .int x2), (3, .int x3), (4, .ref x4), (5, .int x5), (6, .int x6), (12, .ref x12)] 513 [.ref r7]
  refine q_pop C dL_told_513 rfl ?_
  refine q_ls [(0, .ref (zB D.2)), (1, .ref x1), (2, .int x2), (3, .int x3), (4, .ref x4), (5, .int x5), (6, .int x6)] [0, 1, 2, 3, 4, 5, 6] rfl ?_
  exact bL_told_514 C (KL198 := KL198) hret hKL198 (cells + c1 + c6 + c7) (slots + s1 + s6 + s7) _ _ _ _ _ _ _ _ _ (by omega) (by omega) h
def wL_told_478 (K : Nat → gH → Prop) (KL198 : gH → Nat → Nat → Nat → Int32 → Int32 → Nat → Int32 → Int32 → Prop) (Z : gZ) (H : gH) (bc : Nat) (bs : Nat) (x1 : Nat) (x2 : Int32) (x3 : Int32) (x4 : Nat) (x5 : Int32) (x6 : Int32) (x9 : Nat) (x11 : Int32) (x12 : Nat) (z0 : Nat) (z1 : Nat) : Prop :=
  (∃ fs, hpG H z1 = some (.inr (11, fs))) ∧ ∃ (c1 s1 : Nat), c1 ≤ bc ∧ s1 ≤ bs ∧ whJ4_append_15ec4 Z H c1 s1 z1 z0 (fun r1 H1 => (∃ fs, hpG H1 r1 = some (.inr (11, fs))) ∧ ∃ (c2 s2 : Nat), c2 ≤ (bc - c1) ∧ s2 ≤ (bs - s1) ∧ whJ4_append_15ec4 Z H1 c2 s2 r1 x9 (fun r2 H2 => ((x11 = 0 → wL_told_498 K KL198 Z H2 ((bc - c1) - c2) ((bs - s1) - s2) x1 x2 x3 x4 x5 x6 x12 (Z.1 46) r2) ∧ (¬ x11 = 0 → wL_told_498 K KL198 Z H2 ((bc - c1) - c2) ((bs - s1) - s2) x1 x2 x3 x4 x5 x6 x12 (Z.1 45) r2))))
set_option maxRecDepth 100000 in
set_option maxHeartbeats 4000000 in
theorem bL_told_478 {D : gD} {E : gE} {A : Nat → Prop} {Q : State → Prop} {bc0 bs0 : Nat} (C : CL D E (rmL_told bc0 bs0) cL_told 13 RL A) {K : Nat → gH → Prop} (hret : ∀ (r : Nat) (H : gH) (pc : Nat) (ls : List (Nat × Value)), K r H → decode cL_told pc = .ok (.areturn, 1) → Go D E A Q 13 bc0 bs0 ([] ++ hpW H) ls pc [.ref r]) {KL198 : gH → Nat → Nat → Nat → Int32 → Int32 → Nat → Int32 → Int32 → Prop} (hKL198 : ∀ (cells slots : Nat) (H : gH) (bc : Nat) (bs : Nat) (x1 : Nat) (x2 : Int32) (x3 : Int32) (x4 : Nat) (x5 : Int32) (x6 : Int32), cells + bc ≤ bc0 → slots + bs ≤ bs0 → KL198 H bc bs x1 x2 x3 x4 x5 x6 → Go D E A Q 13 cells slots ([] ++ hpW H) [(0, .ref (zB D.2)), (1, .ref x1), (2, .int x2), (3, .int x3), (4, .ref x4), (5, .int x5), (6, .int x6)] 198 []) : ∀ (cells slots : Nat) (H : gH) (bc : Nat) (bs : Nat) (x1 : Nat) (x2 : Int32) (x3 : Int32) (x4 : Nat) (x5 : Int32) (x6 : Int32) (x9 : Nat) (x11 : Int32) (x12 : Nat) (z0 : Nat) (z1 : Nat), cells + bc ≤ bc0 → slots + bs ≤ bs0 → wL_told_478 K KL198 D.2 H bc bs x1 x2 x3 x4 x5 x6 x9 x11 x12 z0 z1 → Go D E A Q 13 cells slots ([] ++ hpW H) [(0, .ref (zB D.2)), (1, .ref x1), (2, .int x2), (3, .int x3), (4, .ref x4), (5, .int x5), (6, .int x6), (9, .ref x9), (11, .int x11), (12, .ref x12)] 478 [.ref z0, .ref z1] := by
  intro cells slots H bc bs x1 x2 x3 x4 x5 x6 x9 x11 x12 z0 z1 hbc hbs h
  unfold wL_told_478 at h
  obtain ⟨⟨fs9, hr9⟩, h⟩ := h
  obtain ⟨c1, s1, hc1, hs1, h⟩ := h
  refine p_callVQ C (fun _ h => h) [] (chJ4_append_15ec4_ok _ h) cf_L_75 im_J4_append_15ec4 se_J4_append_15ec4 (hRv_h (q := (RJ4, TJ4, 4)) hr9 rfl) rfl ⟨Nat.le_of_ble_eq_true rfl, Nat.le_of_ble_eq_true rfl⟩ ⟨by show cells + c1 ≤ bc0; omega, by show slots + s1 ≤ bs0; omega⟩ List.perm_append_comm (fun H1 : gH => [] ++ hpW H1) (fun _ => List.perm_append_comm) (rest := []) rfl (Nat.le_of_ble_eq_true rfl) dL_told_478 (fun r1 H1 h => ?_)
  show Go D E A Q 13 (cells + c1) (slots + s1) ([] ++ hpW H1) [(0, .ref (zB D.2)), (1, .ref x1), (2, .int x2), (3, .int x3), (4, .ref x4), (5, .int x5), (6, .int x6), (9, .ref x9), (11, .int x11), (12, .ref x12)] 481 [.ref r1]
  refine q_aload C dL_told_481 7 rfl ?_
  obtain ⟨⟨fs9, hr9⟩, h⟩ := h
  obtain ⟨c2, s2, hc2, hs2, h⟩ := h
  refine p_callVQ C (fun _ h => h) [] (chJ4_append_15ec4_ok _ h) cf_L_75 im_J4_append_15ec4 se_J4_append_15ec4 (hRv_h (q := (RJ4, TJ4, 4)) hr9 rfl) rfl ⟨Nat.le_of_ble_eq_true rfl, Nat.le_of_ble_eq_true rfl⟩ ⟨by show cells + c1 + c2 ≤ bc0; omega, by show slots + s1 + s2 ≤ bs0; omega⟩ List.perm_append_comm (fun H2 : gH => [] ++ hpW H2) (fun _ => List.perm_append_comm) (rest := []) rfl (Nat.le_of_ble_eq_true rfl) dL_told_483 (fun r2 H2 h => ?_)
  show Go D E A Q 13 (cells + c1 + c2) (slots + s1 + s2) ([] ++ hpW H2) [(0, .ref (zB D.2)), (1, .ref x1), (2, .int x2), (3, .int x3), (4, .ref x4), (5, .int x5), (6, .int x6), (9, .ref x9), (11, .int x11), (12, .ref x12)] 486 [.ref r2]
  refine q_iload C dL_told_486 8 rfl ?_
  refine q_if_eq C 496 dL_told_488 (by decide) h (fun h => ?_) (fun h => ?_)
  · refine q_ldcK (i := 46) C (C.strR (i := 46) (Nat.le_of_ble_eq_true rfl)) dL_told_496 ?_
    refine q_ls [(0, .ref (zB D.2)), (1, .ref x1), (2, .int x2), (3, .int x3), (4, .ref x4), (5, .int x5), (6, .int x6), (12, .ref x12)] [0, 1, 2, 3, 4, 5, 6, 9] rfl ?_
    exact bL_told_498 C (KL198 := KL198) hret hKL198 (cells + c1 + c2) (slots + s1 + s2) _ _ _ _ _ _ _ _ _ _ _ _ (by omega) (by omega) h
  · refine q_ldcK (i := 45) C (C.strR (i := 45) (Nat.le_of_ble_eq_true rfl)) dL_told_491 ?_
    refine q_goto (tgt := 498) C dL_told_493 (by decide) ?_
    refine q_ls [(0, .ref (zB D.2)), (1, .ref x1), (2, .int x2), (3, .int x3), (4, .ref x4), (5, .int x5), (6, .int x6), (12, .ref x12)] [0, 1, 2, 3, 4, 5, 6, 9] rfl ?_
    exact bL_told_498 C (KL198 := KL198) hret hKL198 (cells + c1 + c2) (slots + s1 + s2) _ _ _ _ _ _ _ _ _ _ _ _ (by omega) (by omega) h
def wL_told_443 (K : Nat → gH → Prop) (KL198 : gH → Nat → Nat → Nat → Int32 → Int32 → Nat → Int32 → Int32 → Prop) (Z : gZ) (H : gH) (bc : Nat) (bs : Nat) (x1 : Nat) (x2 : Int32) (x3 : Int32) (x4 : Nat) (x5 : Int32) (x6 : Int32) (x9 : Nat) (x11 : Int32) (z0 : Int32) (z1 : Int32) (z2 : Nat) (z3 : Nat) : Prop :=
  ∃ (n1 : Nat) (f2 : Nat → Int32), hpG H z2 = some (iE (zY Z 1) n1 f2) ∧ vp_in z1 n1 ∧ (∃ (n5 : Nat) (f6 : Nat → Int32), hpG (hpS H z2 (iE (zY Z 1) n1 (upd f2 z1.toNatClampNeg z0))) z3 = some (iE (zY Z 1) n5 f6) ∧ vp_in 3 n5 ∧ (∃ y9 : Nat, gF (hpS (hpS H z2 (iE (zY Z 1) n1 (upd f2 z1.toNatClampNeg z0))) z3 (iE (zY Z 1) n5 (upd f6 (3 : Int32).toNatClampNeg 0))) x4 8 2 (.ref y9) ∧ (∃ (c11 s11 : Nat), c11 ≤ bc ∧ s11 ≤ bs ∧ wX9_with Z (hpS (hpS H z2 (iE (zY Z 1) n1 (upd f2 z1.toNatClampNeg z0))) z3 (iE (zY Z 1) n5 (upd f6 (3 : Int32).toNatClampNeg 0))) c11 s11 y9 z3 (fun r11 H11 => ∃ f12 : List Value, hpG H11 x4 = some (.inr (8, f12)) ∧ 2 < f12.length ∧ (((x11 = 0 → wL_told_478 K KL198 Z (hpS H11 x4 (.inr (8, f12.set 2 (.ref r11)))) (bc - c11) (bs - s11) x1 x2 x3 x4 x5 x6 x9 x11 z3 (Z.1 44) x1) ∧ (¬ x11 = 0 → wL_told_478 K KL198 Z (hpS H11 x4 (.inr (8, f12.set 2 (.ref r11)))) (bc - c11) (bs - s11) x1 x2 x3 x4 x5 x6 x9 x11 z3 (Z.1 43) x1)))))))
set_option maxRecDepth 100000 in
set_option maxHeartbeats 4000000 in
theorem bL_told_443 {D : gD} {E : gE} {A : Nat → Prop} {Q : State → Prop} {bc0 bs0 : Nat} (C : CL D E (rmL_told bc0 bs0) cL_told 13 RL A) {K : Nat → gH → Prop} (hret : ∀ (r : Nat) (H : gH) (pc : Nat) (ls : List (Nat × Value)), K r H → decode cL_told pc = .ok (.areturn, 1) → Go D E A Q 13 bc0 bs0 ([] ++ hpW H) ls pc [.ref r]) {KL198 : gH → Nat → Nat → Nat → Int32 → Int32 → Nat → Int32 → Int32 → Prop} (hKL198 : ∀ (cells slots : Nat) (H : gH) (bc : Nat) (bs : Nat) (x1 : Nat) (x2 : Int32) (x3 : Int32) (x4 : Nat) (x5 : Int32) (x6 : Int32), cells + bc ≤ bc0 → slots + bs ≤ bs0 → KL198 H bc bs x1 x2 x3 x4 x5 x6 → Go D E A Q 13 cells slots ([] ++ hpW H) [(0, .ref (zB D.2)), (1, .ref x1), (2, .int x2), (3, .int x3), (4, .ref x4), (5, .int x5), (6, .int x6)] 198 []) : ∀ (cells slots : Nat) (H : gH) (bc : Nat) (bs : Nat) (x1 : Nat) (x2 : Int32) (x3 : Int32) (x4 : Nat) (x5 : Int32) (x6 : Int32) (x9 : Nat) (x11 : Int32) (z0 : Int32) (z1 : Int32) (z2 : Nat) (z3 : Nat), cells + bc ≤ bc0 → slots + bs ≤ bs0 → wL_told_443 K KL198 D.2 H bc bs x1 x2 x3 x4 x5 x6 x9 x11 z0 z1 z2 z3 → Go D E A Q 13 cells slots ([] ++ hpW H) [(0, .ref (zB D.2)), (1, .ref x1), (2, .int x2), (3, .int x3), (4, .ref x4), (5, .int x5), (6, .int x6), (9, .ref x9), (11, .int x11)] 443 [.int z0, .int z1, .ref z2, .ref z3] := by
  intro cells slots H bc bs x1 x2 x3 x4 x5 x6 x9 x11 z0 z1 z2 z3 hbc hbs h
  unfold wL_told_443 at h
  obtain ⟨n1, f2, e3, i4, h⟩ := h
  refine h_iast C e3 i4 dL_told_443 ?_
  refine q_dup C dL_told_444 rfl ?_
  refine q_iconst C (v := 3) dL_told_445 (by decide) ?_
  refine q_iconst C (v := 0) dL_told_446 (by decide) ?_
  obtain ⟨n5, f6, e7, i8, h⟩ := h
  refine h_iast C e7 i8 dL_told_447 ?_
  refine q_astore C [(12, .ref z3), (0, .ref (zB D.2)), (1, .ref x1), (2, .int x2), (3, .int x3), (4, .ref x4), (5, .int x5), (6, .int x6), (9, .ref x9), (11, .int x11)] dL_told_448 (by decide) rfl ?_
  refine q_aload C dL_told_450 5 rfl ?_
  refine q_aload C dL_told_452 5 rfl ?_
  obtain ⟨y9, e10, h⟩ := h
  refine h_get C inX9g (ci := 8) rfl 2 (by decide) fl_L_119 rfl e10 dL_told_454 ?_
  refine q_aload C dL_told_457 0 rfl ?_
  obtain ⟨c11, s11, hc11, hs11, h⟩ := h
  refine p_callSQ C (fun _ h => h) [] (cX9_with_ok _ h) cf_L_92 st_X9_with rfl ⟨Nat.le_of_ble_eq_true rfl, Nat.le_of_ble_eq_true rfl⟩ ⟨by show cells + c11 ≤ bc0; omega, by show slots + s11 ≤ bs0; omega⟩ List.perm_append_comm (fun H11 : gH => [] ++ hpW H11) (fun _ => List.perm_append_comm) (rest := [.ref x4]) rfl (Nat.le_of_ble_eq_true rfl) dL_told_459 (fun r11 H11 h => ?_)
  show Go D E A Q 13 (cells + c11) (slots + s11) ([] ++ hpW H11) [(12, .ref z3), (0, .ref (zB D.2)), (1, .ref x1), (2, .int x2), (3, .int x3), (4, .ref x4), (5, .int x5), (6, .int x6), (9, .ref x9), (11, .int x11)] 462 [.ref r11, .ref x4]
  obtain ⟨f12, e13, l14, h⟩ := h
  refine h_put C inX9g tyX9_ok nmX9 (ci := 8) rfl 2 (by decide) fl_L_119 rfl rfl (ty := (.array (.array .int))) (by decide +kernel) e13 l14 rfl rfl dL_told_462 ?_
  refine q_aload_n C dL_told_465 2 rfl ?_
  refine q_iload C dL_told_466 9 rfl ?_
  refine q_if_eq C 476 dL_told_468 (by decide) h (fun h => ?_) (fun h => ?_)
  · refine q_ldcK (i := 44) C (C.strR (i := 44) (Nat.le_of_ble_eq_true rfl)) dL_told_476 ?_
    refine q_ls [(0, .ref (zB D.2)), (1, .ref x1), (2, .int x2), (3, .int x3), (4, .ref x4), (5, .int x5), (6, .int x6), (9, .ref x9), (11, .int x11), (12, .ref z3)] [1, 2, 3, 4, 5, 6, 7, 8, 9, 0] rfl ?_
    exact bL_told_478 C (KL198 := KL198) hret hKL198 (cells + c11) (slots + s11) _ _ _ _ _ _ _ _ _ _ _ _ _ _ (by omega) (by omega) h
  · refine q_ldcK (i := 43) C (C.strR (i := 43) (Nat.le_of_ble_eq_true rfl)) dL_told_471 ?_
    refine q_goto (tgt := 478) C dL_told_473 (by decide) ?_
    refine q_ls [(0, .ref (zB D.2)), (1, .ref x1), (2, .int x2), (3, .int x3), (4, .ref x4), (5, .int x5), (6, .int x6), (9, .ref x9), (11, .int x11), (12, .ref z3)] [1, 2, 3, 4, 5, 6, 7, 8, 9, 0] rfl ?_
    exact bL_told_478 C (KL198 := KL198) hret hKL198 (cells + c11) (slots + s11) _ _ _ _ _ _ _ _ _ _ _ _ _ _ (by omega) (by omega) h
def wL_told_405 (K : Nat → gH → Prop) (KL198 : gH → Nat → Nat → Nat → Int32 → Int32 → Nat → Int32 → Int32 → Prop) (Z : gZ) (H : gH) (bc : Nat) (bs : Nat) (x1 : Nat) (x2 : Int32) (x3 : Int32) (x4 : Nat) (x5 : Int32) (x6 : Int32) (x7 : Int32) (x8 : Nat) (x9 : Nat) (x11 : Int32) (z0 : Int32) (z1 : Int32) (z2 : Nat) (z3 : Nat) : Prop :=
  ∃ (n1 : Nat) (f2 : Nat → Int32), hpG H z2 = some (iE (zY Z 1) n1 f2) ∧ vp_in z1 n1 ∧ (∃ (n5 : Nat) (f6 : Nat → Int32), hpG (hpS H z2 (iE (zY Z 1) n1 (upd f2 z1.toNatClampNeg z0))) x8 = some (iE (zY Z 1) n5 f6) ∧ vp_in 0 n5 ∧ (∃ (n9 : Nat) (f10 : Nat → Int32), hpG (hpS H z2 (iE (zY Z 1) n1 (upd f2 z1.toNatClampNeg z0))) z3 = some (iE (zY Z 1) n9 f10) ∧ vp_in 1 n9 ∧ (((x11 = 0 → wL_below Z (hpS (hpS H z2 (iE (zY Z 1) n1 (upd f2 z1.toNatClampNeg z0))) z3 (iE (zY Z 1) n9 (upd f10 (1 : Int32).toNatClampNeg (f6 (0 : Int32).toNatClampNeg)))) (x7 >>> (6 &&& 31)) x5 (fun r13 => wL_told_443 K KL198 Z (hpS (hpS H z2 (iE (zY Z 1) n1 (upd f2 z1.toNatClampNeg z0))) z3 (iE (zY Z 1) n9 (upd f10 (1 : Int32).toNatClampNeg (f6 (0 : Int32).toNatClampNeg)))) bc bs x1 x2 x3 x4 x5 x6 x9 x11 r13 2 z3 z3)) ∧ (¬ x11 = 0 → wL_below Z (hpS (hpS H z2 (iE (zY Z 1) n1 (upd f2 z1.toNatClampNeg z0))) z3 (iE (zY Z 1) n9 (upd f10 (1 : Int32).toNatClampNeg (f6 (0 : Int32).toNatClampNeg)))) (x7 >>> (4 &&& 31)) 1000 (fun r14 => wL_told_443 K KL198 Z (hpS (hpS H z2 (iE (zY Z 1) n1 (upd f2 z1.toNatClampNeg z0))) z3 (iE (zY Z 1) n9 (upd f10 (1 : Int32).toNatClampNeg (f6 (0 : Int32).toNatClampNeg)))) bc bs x1 x2 x3 x4 x5 x6 x9 x11 r14 2 z3 z3))))))
set_option maxRecDepth 100000 in
set_option maxHeartbeats 4000000 in
theorem bL_told_405 {D : gD} {E : gE} {A : Nat → Prop} {Q : State → Prop} {bc0 bs0 : Nat} (C : CL D E (rmL_told bc0 bs0) cL_told 13 RL A) {K : Nat → gH → Prop} (hret : ∀ (r : Nat) (H : gH) (pc : Nat) (ls : List (Nat × Value)), K r H → decode cL_told pc = .ok (.areturn, 1) → Go D E A Q 13 bc0 bs0 ([] ++ hpW H) ls pc [.ref r]) {KL198 : gH → Nat → Nat → Nat → Int32 → Int32 → Nat → Int32 → Int32 → Prop} (hKL198 : ∀ (cells slots : Nat) (H : gH) (bc : Nat) (bs : Nat) (x1 : Nat) (x2 : Int32) (x3 : Int32) (x4 : Nat) (x5 : Int32) (x6 : Int32), cells + bc ≤ bc0 → slots + bs ≤ bs0 → KL198 H bc bs x1 x2 x3 x4 x5 x6 → Go D E A Q 13 cells slots ([] ++ hpW H) [(0, .ref (zB D.2)), (1, .ref x1), (2, .int x2), (3, .int x3), (4, .ref x4), (5, .int x5), (6, .int x6)] 198 []) : ∀ (cells slots : Nat) (H : gH) (bc : Nat) (bs : Nat) (x1 : Nat) (x2 : Int32) (x3 : Int32) (x4 : Nat) (x5 : Int32) (x6 : Int32) (x7 : Int32) (x8 : Nat) (x9 : Nat) (x11 : Int32) (z0 : Int32) (z1 : Int32) (z2 : Nat) (z3 : Nat), cells + bc ≤ bc0 → slots + bs ≤ bs0 → wL_told_405 K KL198 D.2 H bc bs x1 x2 x3 x4 x5 x6 x7 x8 x9 x11 z0 z1 z2 z3 → Go D E A Q 13 cells slots ([] ++ hpW H) [(0, .ref (zB D.2)), (1, .ref x1), (2, .int x2), (3, .int x3), (4, .ref x4), (5, .int x5), (6, .int x6), (7, .int x7), (8, .ref x8), (9, .ref x9), (11, .int x11)] 405 [.int z0, .int z1, .ref z2, .ref z3] := by
  intro cells slots H bc bs x1 x2 x3 x4 x5 x6 x7 x8 x9 x11 z0 z1 z2 z3 hbc hbs h
  unfold wL_told_405 at h
  obtain ⟨n1, f2, e3, i4, h⟩ := h
  refine h_iast C e3 i4 dL_told_405 ?_
  refine q_dup C dL_told_406 rfl ?_
  refine q_iconst C (v := 1) dL_told_407 (by decide) ?_
  refine q_aload C dL_told_408 8 rfl ?_
  refine q_iconst C (v := 0) dL_told_410 (by decide) ?_
  obtain ⟨n5, f6, e7, i8, h⟩ := h
  refine h_iald C e7 i8 dL_told_411 ?_
  obtain ⟨n9, f10, e11, i12, h⟩ := h
  refine h_iast C e11 i12 dL_told_412 ?_
  refine q_dup C dL_told_413 rfl ?_
  refine q_iconst C (v := 2) dL_told_414 (by decide) ?_
  refine q_iload C dL_told_415 10 rfl ?_
  refine q_if_eq C 433 dL_told_417 (by decide) h (fun h => ?_) (fun h => ?_)
  · refine q_iload C dL_told_433 7 rfl ?_
    refine q_bipush C (v := 6) dL_told_435 (by decide) ?_
    refine q_ishr C dL_told_437 ?_
    refine q_iload C dL_told_438 5 rfl ?_
    refine p_callSI C (fun _ h => h) [] (cL_below_ok _ h) cf_L_35 st_L_below rfl ⟨Nat.le_of_ble_eq_true rfl, Nat.le_of_ble_eq_true rfl⟩ ⟨by show cells + 0 ≤ bc0; omega, by show slots + 0 ≤ bs0; omega⟩ List.perm_append_comm (fun _ : Unit => [] ++ hpW (hpS (hpS H z2 (iE (zY D.2 1) n1 (upd f2 z1.toNatClampNeg z0))) z3 (iE (zY D.2 1) n9 (upd f10 (1 : Int32).toNatClampNeg (f6 (0 : Int32).toNatClampNeg))))) (fun _ => List.perm_append_comm) (rest := [.int 2, .ref z3, .ref z3]) rfl (Nat.le_of_ble_eq_true rfl) dL_told_440 (fun r13 _ h => ?_)
    show Go D E A Q 13 cells slots ([] ++ hpW (hpS (hpS H z2 (iE (zY D.2 1) n1 (upd f2 z1.toNatClampNeg z0))) z3 (iE (zY D.2 1) n9 (upd f10 (1 : Int32).toNatClampNeg (f6 (0 : Int32).toNatClampNeg))))) [(0, .ref (zB D.2)), (1, .ref x1), (2, .int x2), (3, .int x3), (4, .ref x4), (5, .int x5), (6, .int x6), (7, .int x7), (8, .ref x8), (9, .ref x9), (11, .int x11)] 443 [.int r13, .int 2, .ref z3, .ref z3]
    refine q_ls [(0, .ref (zB D.2)), (1, .ref x1), (2, .int x2), (3, .int x3), (4, .ref x4), (5, .int x5), (6, .int x6), (9, .ref x9), (11, .int x11)] [0, 1, 2, 3, 4, 5, 6, 9, 10] rfl ?_
    exact bL_told_443 C (KL198 := KL198) hret hKL198 cells slots _ _ _ _ _ _ _ _ _ _ _ _ _ _ _ (by omega) (by omega) h
  · refine q_iload C dL_told_420 7 rfl ?_
    refine q_iconst C (v := 4) dL_told_422 (by decide) ?_
    refine q_ishr C dL_told_423 ?_
    refine q_sipush C (v := 1000) dL_told_424 (by decide) ?_
    refine p_callSI C (fun _ h => h) [] (cL_below_ok _ h) cf_L_35 st_L_below rfl ⟨Nat.le_of_ble_eq_true rfl, Nat.le_of_ble_eq_true rfl⟩ ⟨by show cells + 0 ≤ bc0; omega, by show slots + 0 ≤ bs0; omega⟩ List.perm_append_comm (fun _ : Unit => [] ++ hpW (hpS (hpS H z2 (iE (zY D.2 1) n1 (upd f2 z1.toNatClampNeg z0))) z3 (iE (zY D.2 1) n9 (upd f10 (1 : Int32).toNatClampNeg (f6 (0 : Int32).toNatClampNeg))))) (fun _ => List.perm_append_comm) (rest := [.int 2, .ref z3, .ref z3]) rfl (Nat.le_of_ble_eq_true rfl) dL_told_427 (fun r14 _ h => ?_)
    show Go D E A Q 13 cells slots ([] ++ hpW (hpS (hpS H z2 (iE (zY D.2 1) n1 (upd f2 z1.toNatClampNeg z0))) z3 (iE (zY D.2 1) n9 (upd f10 (1 : Int32).toNatClampNeg (f6 (0 : Int32).toNatClampNeg))))) [(0, .ref (zB D.2)), (1, .ref x1), (2, .int x2), (3, .int x3), (4, .ref x4), (5, .int x5), (6, .int x6), (7, .int x7), (8, .ref x8), (9, .ref x9), (11, .int x11)] 430 [.int r14, .int 2, .ref z3, .ref z3]
    refine q_goto (tgt := 443) C dL_told_430 (by decide) ?_
    refine q_ls [(0, .ref (zB D.2)), (1, .ref x1), (2, .int x2), (3, .int x3), (4, .ref x4), (5, .int x5), (6, .int x6), (9, .ref x9), (11, .int x11)] [0, 1, 2, 3, 4, 5, 6, 9, 10] rfl ?_
    exact bL_told_443 C (KL198 := KL198) hret hKL198 cells slots _ _ _ _ _ _ _ _ _ _ _ _ _ _ _ (by omega) (by omega) h
def wL_told_378 (K : Nat → gH → Prop) (KL198 : gH → Nat → Nat → Nat → Int32 → Int32 → Nat → Int32 → Int32 → Prop) (Z : gZ) (H : gH) (bc : Nat) (bs : Nat) (x1 : Nat) (x2 : Int32) (x3 : Int32) (x4 : Nat) (x5 : Int32) (x6 : Int32) (x7 : Int32) (x8 : Nat) (x9 : Nat) (z0 : Int32) : Prop :=
  ∃ y1 : Nat, gF H x4 8 2 (.ref y1) ∧ (∃ (n3 : Nat) (f4 : Nat → Option Nat), hpG H y1 = some (qE (zY Z 4) n3 f4) ∧ (∃ (n6 : Nat) (f7 : Nat → Int32), hpG H x8 = some (iE (zY Z 1) n6 f7) ∧ vp_in 1 n6 ∧ (1 ≤ bc ∧ (4 : Int32).toNatClampNeg ≤ bs ∧ (∀ q10 : Nat, hpG (hpS H x8 (iE (zY Z 1) n6 (upd f7 (1 : Int32).toNatClampNeg (nI n3)))) q10 = none → (((z0 = 0 → wL_told_405 K KL198 Z (hpN (hpS H x8 (iE (zY Z 1) n6 (upd f7 (1 : Int32).toNatClampNeg (nI n3)))) q10 (iE (zY Z 1) (4 : Int32).toNatClampNeg (fun _ => 0))) (bc - 1) (bs - (4 : Int32).toNatClampNeg) x1 x2 x3 x4 x5 x6 x7 x8 x9 z0 0 0 q10 q10) ∧ (¬ z0 = 0 → wL_told_405 K KL198 Z (hpN (hpS H x8 (iE (zY Z 1) n6 (upd f7 (1 : Int32).toNatClampNeg (nI n3)))) q10 (iE (zY Z 1) (4 : Int32).toNatClampNeg (fun _ => 0))) (bc - 1) (bs - (4 : Int32).toNatClampNeg) x1 x2 x3 x4 x5 x6 x7 x8 x9 z0 1 0 q10 q10)))))))
set_option maxRecDepth 100000 in
set_option maxHeartbeats 4000000 in
theorem bL_told_378 {D : gD} {E : gE} {A : Nat → Prop} {Q : State → Prop} {bc0 bs0 : Nat} (C : CL D E (rmL_told bc0 bs0) cL_told 13 RL A) {K : Nat → gH → Prop} (hret : ∀ (r : Nat) (H : gH) (pc : Nat) (ls : List (Nat × Value)), K r H → decode cL_told pc = .ok (.areturn, 1) → Go D E A Q 13 bc0 bs0 ([] ++ hpW H) ls pc [.ref r]) {KL198 : gH → Nat → Nat → Nat → Int32 → Int32 → Nat → Int32 → Int32 → Prop} (hKL198 : ∀ (cells slots : Nat) (H : gH) (bc : Nat) (bs : Nat) (x1 : Nat) (x2 : Int32) (x3 : Int32) (x4 : Nat) (x5 : Int32) (x6 : Int32), cells + bc ≤ bc0 → slots + bs ≤ bs0 → KL198 H bc bs x1 x2 x3 x4 x5 x6 → Go D E A Q 13 cells slots ([] ++ hpW H) [(0, .ref (zB D.2)), (1, .ref x1), (2, .int x2), (3, .int x3), (4, .ref x4), (5, .int x5), (6, .int x6)] 198 []) : ∀ (cells slots : Nat) (H : gH) (bc : Nat) (bs : Nat) (x1 : Nat) (x2 : Int32) (x3 : Int32) (x4 : Nat) (x5 : Int32) (x6 : Int32) (x7 : Int32) (x8 : Nat) (x9 : Nat) (z0 : Int32), cells + bc ≤ bc0 → slots + bs ≤ bs0 → wL_told_378 K KL198 D.2 H bc bs x1 x2 x3 x4 x5 x6 x7 x8 x9 z0 → Go D E A Q 13 cells slots ([] ++ hpW H) [(0, .ref (zB D.2)), (1, .ref x1), (2, .int x2), (3, .int x3), (4, .ref x4), (5, .int x5), (6, .int x6), (7, .int x7), (8, .ref x8), (9, .ref x9)] 378 [.int z0] := by
  intro cells slots H bc bs x1 x2 x3 x4 x5 x6 x7 x8 x9 z0 hbc hbs h
  unfold wL_told_378 at h
  refine q_istore C [(11, .int z0), (0, .ref (zB D.2)), (1, .ref x1), (2, .int x2), (3, .int x3), (4, .ref x4), (5, .int x5), (6, .int x6), (7, .int x7), (8, .ref x8), (9, .ref x9)] dL_told_378 (by decide) rfl ?_
  refine q_aload C dL_told_380 9 rfl ?_
  refine q_iconst C (v := 1) dL_told_382 (by decide) ?_
  refine q_aload C dL_told_383 5 rfl ?_
  obtain ⟨y1, e2, h⟩ := h
  refine h_get C inX9g (ci := 8) rfl 2 (by decide) fl_L_119 rfl e2 dL_told_385 ?_
  obtain ⟨n3, f4, e5, h⟩ := h
  refine h_alen C 4 rfl e5 dL_told_388 ?_
  obtain ⟨n6, f7, e8, i9, h⟩ := h
  refine h_iast C e8 i9 dL_told_389 ?_
  refine q_iconst C (v := 4) dL_told_390 (by decide) ?_
  obtain ⟨b1, b2, h⟩ := h
  refine h_newI C dL_told_391 (by decide) (by decide) ⟨by show cells + 1 ≤ bc0; omega, by show slots + (4 : Int32).toNatClampNeg ≤ bs0; omega⟩ (fun q10 g11 => ?_)
  replace h := h q10 g11
  refine q_dup C dL_told_393 rfl ?_
  refine q_iconst C (v := 0) dL_told_394 (by decide) ?_
  refine q_iload C dL_told_395 0 rfl ?_
  refine q_if_eq C 404 dL_told_397 (by decide) h (fun h => ?_) (fun h => ?_)
  · refine q_iconst C (v := 0) dL_told_404 (by decide) ?_
    refine q_ls [(0, .ref (zB D.2)), (1, .ref x1), (2, .int x2), (3, .int x3), (4, .ref x4), (5, .int x5), (6, .int x6), (7, .int x7), (8, .ref x8), (9, .ref x9), (11, .int z0)] [1, 2, 3, 4, 5, 6, 7, 8, 9, 10, 0] rfl ?_
    exact bL_told_405 C (KL198 := KL198) hret hKL198 (cells + 1) (slots + (4 : Int32).toNatClampNeg) _ _ _ _ _ _ _ _ _ _ _ _ _ _ _ _ _ (by omega) (by omega) h
  · refine q_iconst C (v := 1) dL_told_400 (by decide) ?_
    refine q_goto (tgt := 405) C dL_told_401 (by decide) ?_
    refine q_ls [(0, .ref (zB D.2)), (1, .ref x1), (2, .int x2), (3, .int x3), (4, .ref x4), (5, .int x5), (6, .int x6), (7, .int x7), (8, .ref x8), (9, .ref x9), (11, .int z0)] [1, 2, 3, 4, 5, 6, 7, 8, 9, 10, 0] rfl ?_
    exact bL_told_405 C (KL198 := KL198) hret hKL198 (cells + 1) (slots + (4 : Int32).toNatClampNeg) _ _ _ _ _ _ _ _ _ _ _ _ _ _ _ _ _ (by omega) (by omega) h
def wL_told_373 (K : Nat → gH → Prop) (KL198 : gH → Nat → Nat → Nat → Int32 → Int32 → Nat → Int32 → Int32 → Prop) (Z : gZ) (H : gH) (bc : Nat) (bs : Nat) (x1 : Nat) (x2 : Int32) (x3 : Int32) (x4 : Nat) (x5 : Int32) (x6 : Int32) (x7 : Int32) (x8 : Nat) (x9 : Nat) : Prop :=
  wL_told_378 K KL198 Z H bc bs x1 x2 x3 x4 x5 x6 x7 x8 x9 1
set_option maxRecDepth 100000 in
set_option maxHeartbeats 4000000 in
theorem bL_told_373 {D : gD} {E : gE} {A : Nat → Prop} {Q : State → Prop} {bc0 bs0 : Nat} (C : CL D E (rmL_told bc0 bs0) cL_told 13 RL A) {K : Nat → gH → Prop} (hret : ∀ (r : Nat) (H : gH) (pc : Nat) (ls : List (Nat × Value)), K r H → decode cL_told pc = .ok (.areturn, 1) → Go D E A Q 13 bc0 bs0 ([] ++ hpW H) ls pc [.ref r]) {KL198 : gH → Nat → Nat → Nat → Int32 → Int32 → Nat → Int32 → Int32 → Prop} (hKL198 : ∀ (cells slots : Nat) (H : gH) (bc : Nat) (bs : Nat) (x1 : Nat) (x2 : Int32) (x3 : Int32) (x4 : Nat) (x5 : Int32) (x6 : Int32), cells + bc ≤ bc0 → slots + bs ≤ bs0 → KL198 H bc bs x1 x2 x3 x4 x5 x6 → Go D E A Q 13 cells slots ([] ++ hpW H) [(0, .ref (zB D.2)), (1, .ref x1), (2, .int x2), (3, .int x3), (4, .ref x4), (5, .int x5), (6, .int x6)] 198 []) : ∀ (cells slots : Nat) (H : gH) (bc : Nat) (bs : Nat) (x1 : Nat) (x2 : Int32) (x3 : Int32) (x4 : Nat) (x5 : Int32) (x6 : Int32) (x7 : Int32) (x8 : Nat) (x9 : Nat), cells + bc ≤ bc0 → slots + bs ≤ bs0 → wL_told_373 K KL198 D.2 H bc bs x1 x2 x3 x4 x5 x6 x7 x8 x9 → Go D E A Q 13 cells slots ([] ++ hpW H) [(0, .ref (zB D.2)), (1, .ref x1), (2, .int x2), (3, .int x3), (4, .ref x4), (5, .int x5), (6, .int x6), (7, .int x7), (8, .ref x8), (9, .ref x9)] 373 [] := by
  intro cells slots H bc bs x1 x2 x3 x4 x5 x6 x7 x8 x9 hbc hbs h
  unfold wL_told_373 at h
  refine q_iconst C (v := 1) dL_told_373 (by decide) ?_
  refine q_goto (tgt := 378) C dL_told_374 (by decide) ?_
  exact bL_told_378 C (KL198 := KL198) hret hKL198 cells slots _ _ _ _ _ _ _ _ _ _ _ _ _ (by omega) (by omega) h
def wL_told_343 (K : Nat → gH → Prop) (KL198 : gH → Nat → Nat → Nat → Int32 → Int32 → Nat → Int32 → Int32 → Prop) (Z : gZ) (H : gH) (bc : Nat) (bs : Nat) (x1 : Nat) (x2 : Int32) (x3 : Int32) (x4 : Nat) (x5 : Int32) (x6 : Int32) (x7 : Int32) (x8 : Nat) (x9 : Nat) (x10 : Int32) : Prop :=
  ((x10 ≤ 0 → wL_told_514 K KL198 Z H bc bs x1 x2 x3 x4 x5 x6) ∧ (¬ x10 ≤ 0 → ∃ (n1 : Nat) (f2 : Nat → Int32), hpG H x8 = some (iE (zY Z 1) n1 f2) ∧ vp_in 1 n1 ∧ (((0 ≤ f2 (1 : Int32).toNatClampNeg → wL_told_514 K KL198 Z H bc bs x1 x2 x3 x4 x5 x6) ∧ (¬ 0 ≤ f2 (1 : Int32).toNatClampNeg → ((10 ≤ x6 → wL_told_514 K KL198 Z H bc bs x1 x2 x3 x4 x5 x6) ∧ (¬ 10 ≤ x6 → ((x5 = 0 → wL_told_373 K KL198 Z H bc bs x1 x2 x3 x4 x5 x6 x7 x8 x9) ∧ (¬ x5 = 0 → ((3 ≤ x10 → wL_told_378 K KL198 Z H bc bs x1 x2 x3 x4 x5 x6 x7 x8 x9 0) ∧ (¬ 3 ≤ x10 → wL_told_373 K KL198 Z H bc bs x1 x2 x3 x4 x5 x6 x7 x8 x9)))))))))))
set_option maxRecDepth 100000 in
set_option maxHeartbeats 4000000 in
theorem bL_told_343 {D : gD} {E : gE} {A : Nat → Prop} {Q : State → Prop} {bc0 bs0 : Nat} (C : CL D E (rmL_told bc0 bs0) cL_told 13 RL A) {K : Nat → gH → Prop} (hret : ∀ (r : Nat) (H : gH) (pc : Nat) (ls : List (Nat × Value)), K r H → decode cL_told pc = .ok (.areturn, 1) → Go D E A Q 13 bc0 bs0 ([] ++ hpW H) ls pc [.ref r]) {KL198 : gH → Nat → Nat → Nat → Int32 → Int32 → Nat → Int32 → Int32 → Prop} (hKL198 : ∀ (cells slots : Nat) (H : gH) (bc : Nat) (bs : Nat) (x1 : Nat) (x2 : Int32) (x3 : Int32) (x4 : Nat) (x5 : Int32) (x6 : Int32), cells + bc ≤ bc0 → slots + bs ≤ bs0 → KL198 H bc bs x1 x2 x3 x4 x5 x6 → Go D E A Q 13 cells slots ([] ++ hpW H) [(0, .ref (zB D.2)), (1, .ref x1), (2, .int x2), (3, .int x3), (4, .ref x4), (5, .int x5), (6, .int x6)] 198 []) : ∀ (cells slots : Nat) (H : gH) (bc : Nat) (bs : Nat) (x1 : Nat) (x2 : Int32) (x3 : Int32) (x4 : Nat) (x5 : Int32) (x6 : Int32) (x7 : Int32) (x8 : Nat) (x9 : Nat) (x10 : Int32), cells + bc ≤ bc0 → slots + bs ≤ bs0 → wL_told_343 K KL198 D.2 H bc bs x1 x2 x3 x4 x5 x6 x7 x8 x9 x10 → Go D E A Q 13 cells slots ([] ++ hpW H) [(0, .ref (zB D.2)), (1, .ref x1), (2, .int x2), (3, .int x3), (4, .ref x4), (5, .int x5), (6, .int x6), (7, .int x7), (8, .ref x8), (9, .ref x9), (10, .int x10)] 343 [] := by
  intro cells slots H bc bs x1 x2 x3 x4 x5 x6 x7 x8 x9 x10 hbc hbs h
  unfold wL_told_343 at h
  refine q_iload C dL_told_343 10 rfl ?_
  refine q_if_le C 514 dL_told_345 (by decide) h (fun h => ?_) (fun h => ?_)
  · refine q_ls [(0, .ref (zB D.2)), (1, .ref x1), (2, .int x2), (3, .int x3), (4, .ref x4), (5, .int x5), (6, .int x6)] [0, 1, 2, 3, 4, 5, 6] rfl ?_
    exact bL_told_514 C (KL198 := KL198) hret hKL198 cells slots _ _ _ _ _ _ _ _ _ (by omega) (by omega) h
  · refine q_aload C dL_told_348 8 rfl ?_
    refine q_iconst C (v := 1) dL_told_350 (by decide) ?_
    obtain ⟨n1, f2, e3, i4, h⟩ := h
    refine h_iald C e3 i4 dL_told_351 ?_
    refine q_if_ge C 514 dL_told_352 (by decide) h (fun h => ?_) (fun h => ?_)
    · refine q_ls [(0, .ref (zB D.2)), (1, .ref x1), (2, .int x2), (3, .int x3), (4, .ref x4), (5, .int x5), (6, .int x6)] [0, 1, 2, 3, 4, 5, 6] rfl ?_
      exact bL_told_514 C (KL198 := KL198) hret hKL198 cells slots _ _ _ _ _ _ _ _ _ (by omega) (by omega) h
    · refine q_iload C dL_told_355 6 rfl ?_
      refine q_bipush C (v := 10) dL_told_357 (by decide) ?_
      refine q_icmp_ge C 514 dL_told_359 (by decide) h (fun h => ?_) (fun h => ?_)
      · refine q_ls [(0, .ref (zB D.2)), (1, .ref x1), (2, .int x2), (3, .int x3), (4, .ref x4), (5, .int x5), (6, .int x6)] [0, 1, 2, 3, 4, 5, 6] rfl ?_
        exact bL_told_514 C (KL198 := KL198) hret hKL198 cells slots _ _ _ _ _ _ _ _ _ (by omega) (by omega) h
      · refine q_iload C dL_told_362 5 rfl ?_
        refine q_if_eq C 373 dL_told_364 (by decide) h (fun h => ?_) (fun h => ?_)
        · refine q_ls [(0, .ref (zB D.2)), (1, .ref x1), (2, .int x2), (3, .int x3), (4, .ref x4), (5, .int x5), (6, .int x6), (7, .int x7), (8, .ref x8), (9, .ref x9)] [0, 1, 2, 3, 4, 5, 6, 7, 8, 9] rfl ?_
          exact bL_told_373 C (KL198 := KL198) hret hKL198 cells slots _ _ _ _ _ _ _ _ _ _ _ _ (by omega) (by omega) h
        · refine q_iload C dL_told_367 10 rfl ?_
          refine q_iconst C (v := 3) dL_told_369 (by decide) ?_
          refine q_icmp_ge C 377 dL_told_370 (by decide) h (fun h => ?_) (fun h => ?_)
          · refine q_iconst C (v := 0) dL_told_377 (by decide) ?_
            refine q_ls [(0, .ref (zB D.2)), (1, .ref x1), (2, .int x2), (3, .int x3), (4, .ref x4), (5, .int x5), (6, .int x6), (7, .int x7), (8, .ref x8), (9, .ref x9)] [0, 1, 2, 3, 4, 5, 6, 7, 8, 9] rfl ?_
            exact bL_told_378 C (KL198 := KL198) hret hKL198 cells slots _ _ _ _ _ _ _ _ _ _ _ _ _ (by omega) (by omega) h
          · refine q_ls [(0, .ref (zB D.2)), (1, .ref x1), (2, .int x2), (3, .int x3), (4, .ref x4), (5, .int x5), (6, .int x6), (7, .int x7), (8, .ref x8), (9, .ref x9)] [0, 1, 2, 3, 4, 5, 6, 7, 8, 9] rfl ?_
            exact bL_told_373 C (KL198 := KL198) hret hKL198 cells slots _ _ _ _ _ _ _ _ _ _ _ _ (by omega) (by omega) h
def wL_told_198 (K : Nat → gH → Prop) (Z : gZ) : Nat → gH → Nat → Nat → Nat → Int32 → Int32 → Nat → Int32 → Int32 → Prop
  | 0, _, _, _, _, _, _, _, _, _ => False
  | n + 1, H, bc, bs, x1, x2, x3, x4, x5, x6 =>
  ((12 ≤ x6 → wL_cell Z H 2 (fun r1 => wL_below Z H (r1 >>> (7 &&& 31)) 5 (fun r2 => ¬ r2 < 0 ∧ r2.toNatClampNeg * 4 ≤ 536870912 ∧ 1 ≤ bc ∧ r2.toNatClampNeg ≤ bs ∧ (∀ q3 : Nat, hpG H q3 = none → (∃ f5 : List Value, hpG (hpN H q3 (iE (zY Z 1) r2.toNatClampNeg (fun _ => 0))) x4 = some (.inr (8, f5)) ∧ 5 < f5.length ∧ (¬ r2 < 0 ∧ r2.toNatClampNeg * 4 ≤ 536870912 ∧ 1 ≤ (bc - 1) ∧ r2.toNatClampNeg ≤ (bs - r2.toNatClampNeg) ∧ (∀ q8 : Nat, hpG (hpS (hpN H q3 (iE (zY Z 1) r2.toNatClampNeg (fun _ => 0))) x4 (.inr (8, f5.set 5 (.ref q3)))) q8 = none → (∃ f10 : List Value, hpG (hpN (hpS (hpN H q3 (iE (zY Z 1) r2.toNatClampNeg (fun _ => 0))) x4 (.inr (8, f5.set 5 (.ref q3)))) q8 (qE (zY Z 6) r2.toNatClampNeg (fun _ => none))) x4 = some (.inr (8, f10)) ∧ 6 < f10.length ∧ (¬ r2 < 0 ∧ r2.toNatClampNeg * 4 ≤ 536870912 ∧ 1 ≤ ((bc - 1) - 1) ∧ r2.toNatClampNeg ≤ ((bs - r2.toNatClampNeg) - r2.toNatClampNeg) ∧ (∀ q13 : Nat, hpG (hpS (hpN (hpS (hpN H q3 (iE (zY Z 1) r2.toNatClampNeg (fun _ => 0))) x4 (.inr (8, f5.set 5 (.ref q3)))) q8 (qE (zY Z 6) r2.toNatClampNeg (fun _ => none))) x4 (.inr (8, f10.set 6 (.ref q8)))) q13 = none → (∃ f15 : List Value, hpG (hpN (hpS (hpN (hpS (hpN H q3 (iE (zY Z 1) r2.toNatClampNeg (fun _ => 0))) x4 (.inr (8, f5.set 5 (.ref q3)))) q8 (qE (zY Z 6) r2.toNatClampNeg (fun _ => none))) x4 (.inr (8, f10.set 6 (.ref q8)))) q13 (qE (zY Z 6) r2.toNatClampNeg (fun _ => none))) x4 = some (.inr (8, f15)) ∧ 7 < f15.length ∧ (∃ k9 : Nat, wL_told_566 K Z k9 (hpS (hpN (hpS (hpN (hpS (hpN H q3 (iE (zY Z 1) r2.toNatClampNeg (fun _ => 0))) x4 (.inr (8, f5.set 5 (.ref q3)))) q8 (qE (zY Z 6) r2.toNatClampNeg (fun _ => none))) x4 (.inr (8, f10.set 6 (.ref q8)))) q13 (qE (zY Z 6) r2.toNatClampNeg (fun _ => none))) x4 (.inr (8, f15.set 7 (.ref q13)))) (((bc - 1) - 1) - 1) (((bs - r2.toNatClampNeg) - r2.toNatClampNeg) - r2.toNatClampNeg) x1 x4 x5 r2 0)))))))))))) ∧ (¬ 12 ≤ x6 → wL_cell Z H (3 + x6) (fun r18 => ∃ y19 : Nat, gF H x4 8 1 (.ref y19) ∧ (wL_below Z H ((r18 >>> (1 &&& 31)) + (13 * x6)) x2 (fun r21 => ∃ (n22 : Nat) (f23 : Nat → Option Nat) (y26 : Nat), hpG H y19 = some (qE (zY Z 5) n22 f23) ∧ vp_in r21 n22 ∧ f23 r21.toNatClampNeg = some y26 ∧ (wL_below Z H (((r18 >>> (1 &&& 31)) + (13 * x6)) >>> (3 &&& 31)) x3 (fun r28 => ∃ (n29 : Nat) (f30 : Nat → Option Nat) (y33 : Nat), hpG H y26 = some (qE (zY Z 4) n29 f30) ∧ vp_in r28 n29 ∧ f30 r28.toNatClampNeg = some y33 ∧ (1 ≤ bc ∧ 4 ≤ bs ∧ (∀ q35 : Nat, hpG H q35 = none → (∃ (c37 s37 : Nat), c37 ≤ (bc - 1) ∧ s37 ≤ (bs - 4) ∧ whJ4_init_da8c8 Z (hpN H q35 (.inr (11, [.null, .int 0, .int 0, .int 0]))) c37 s37 q35 (fun H37 => (∃ fs, hpG H37 q35 = some (.inr (11, fs))) ∧ ∃ (c38 s38 : Nat), c38 ≤ ((bc - 1) - c37) ∧ s38 ≤ ((bs - 4) - s37) ∧ whJ4_append_15ec4 Z H37 c38 s38 q35 (Z.1 40) (fun r38 H38 => wL_below Z H38 ((r18 >>> (1 &&& 31)) + (13 * x6)) x2 (fun r39 => (∃ fs, hpG H38 r38 = some (.inr (11, fs))) ∧ ∃ (c40 s40 : Nat), c40 ≤ (((bc - 1) - c37) - c38) ∧ s40 ≤ (((bs - 4) - s37) - s38) ∧ whJ4_append_bf812 Z H38 c40 s40 r38 r39 (fun r40 H40 => (∃ fs, hpG H40 r40 = some (.inr (11, fs))) ∧ ∃ (c41 s41 : Nat), c41 ≤ ((((bc - 1) - c37) - c38) - c40) ∧ s41 ≤ ((((bs - 4) - s37) - s38) - s40) ∧ whJ4_append_15ec4 Z H40 c41 s41 r40 (Z.1 41) (fun r41 H41 => wL_below Z H41 (((r18 >>> (1 &&& 31)) + (13 * x6)) >>> (3 &&& 31)) x3 (fun r42 => (∃ fs, hpG H41 r41 = some (.inr (11, fs))) ∧ ∃ (c43 s43 : Nat), c43 ≤ (((((bc - 1) - c37) - c38) - c40) - c41) ∧ s43 ≤ (((((bs - 4) - s37) - s38) - s40) - s41) ∧ whJ4_append_bf812 Z H41 c43 s43 r41 r42 (fun r43 H43 => (∃ fs, hpG H43 r43 = some (.inr (11, fs))) ∧ ∃ (c44 s44 : Nat), c44 ≤ ((((((bc - 1) - c37) - c38) - c40) - c41) - c43) ∧ s44 ≤ ((((((bs - 4) - s37) - s38) - s40) - s41) - s43) ∧ whJ4_toString_0e30d Z H43 c44 s44 r43 (fun r44 H44 => wL_below Z H44 (((r18 >>> (1 &&& 31)) + (13 * x6)) >>> (5 &&& 31)) 7 (fun r45 => ((¬ r45 = 0 → wL_told_343 K (wL_told_198 K Z n) Z H44 (((((((bc - 1) - c37) - c38) - c40) - c41) - c43) - c44) (((((((bs - 4) - s37) - s38) - s40) - s41) - s43) - s44) x1 x2 x3 x4 x5 x6 ((r18 >>> (1 &&& 31)) + (13 * x6)) y33 r44 r45) ∧ (r45 = 0 → ∃ (n46 : Nat) (f47 : Nat → Int32), hpG H44 y33 = some (iE (zY Z 1) n46 f47) ∧ vp_in 2 n46 ∧ (((¬ f47 (2 : Int32).toNatClampNeg = 0 → wL_told_343 K (wL_told_198 K Z n) Z H44 (((((((bc - 1) - c37) - c38) - c40) - c41) - c43) - c44) (((((((bs - 4) - s37) - s38) - s40) - s41) - s43) - s44) x1 x2 x3 x4 x5 x6 ((r18 >>> (1 &&& 31)) + (13 * x6)) y33 r44 r45) ∧ (f47 (2 : Int32).toNatClampNeg = 0 → ((x6 ≤ 8 → wL_told_343 K (wL_told_198 K Z n) Z H44 (((((((bc - 1) - c37) - c38) - c40) - c41) - c43) - c44) (((((((bs - 4) - s37) - s38) - s40) - s41) - s43) - s44) x1 x2 x3 x4 x5 x6 ((r18 >>> (1 &&& 31)) + (13 * x6)) y33 r44 r45) ∧ (¬ x6 ≤ 8 → ∃ (n50 : Nat) (f51 : Nat → Int32), hpG H44 y33 = some (iE (zY Z 1) n50 f51) ∧ vp_in 2 n50 ∧ ((∃ fs, hpG (hpS H44 y33 (iE (zY Z 1) n50 (upd f51 (2 : Int32).toNatClampNeg 1))) x1 = some (.inr (11, fs))) ∧ ∃ (c54 s54 : Nat), c54 ≤ (((((((bc - 1) - c37) - c38) - c40) - c41) - c43) - c44) ∧ s54 ≤ (((((((bs - 4) - s37) - s38) - s40) - s41) - s43) - s44) ∧ whJ4_append_15ec4 Z (hpS H44 y33 (iE (zY Z 1) n50 (upd f51 (2 : Int32).toNatClampNeg 1))) c54 s54 x1 (Z.1 42) (fun r54 H54 => (∃ fs, hpG H54 r54 = some (.inr (11, fs))) ∧ ∃ (c55 s55 : Nat), c55 ≤ ((((((((bc - 1) - c37) - c38) - c40) - c41) - c43) - c44) - c54) ∧ s55 ≤ ((((((((bs - 4) - s37) - s38) - s40) - s41) - s43) - s44) - s54) ∧ whJ4_append_15ec4 Z H54 c55 s55 r54 r44 (fun r55 H55 => (∃ fs, hpG H55 r55 = some (.inr (11, fs))) ∧ ∃ (c56 s56 : Nat), c56 ≤ (((((((((bc - 1) - c37) - c38) - c40) - c41) - c43) - c44) - c54) - c55) ∧ s56 ≤ (((((((((bs - 4) - s37) - s38) - s40) - s41) - s43) - s44) - s54) - s55) ∧ whJ4_append_15ec4 Z H55 c56 s56 r55 (Z.1 39) (fun r56 H56 => wL_told_514 K (wL_told_198 K Z n) Z H56 ((((((((((bc - 1) - c37) - c38) - c40) - c41) - c43) - c44) - c54) - c55) - c56) ((((((((((bs - 4) - s37) - s38) - s40) - s41) - s43) - s44) - s54) - s55) - s56) x1 x2 x3 x4 x5 x6))))))))))))))))))))))))))))))
set_option maxRecDepth 100000 in
set_option maxHeartbeats 4000000 in
theorem bL_told_198 {D : gD} {E : gE} {A : Nat → Prop} {Q : State → Prop} {bc0 bs0 : Nat} (C : CL D E (rmL_told bc0 bs0) cL_told 13 RL A) {K : Nat → gH → Prop} (hret : ∀ (r : Nat) (H : gH) (pc : Nat) (ls : List (Nat × Value)), K r H → decode cL_told pc = .ok (.areturn, 1) → Go D E A Q 13 bc0 bs0 ([] ++ hpW H) ls pc [.ref r]) : ∀ (n : Nat) (cells slots : Nat) (H : gH) (bc : Nat) (bs : Nat) (x1 : Nat) (x2 : Int32) (x3 : Int32) (x4 : Nat) (x5 : Int32) (x6 : Int32), cells + bc ≤ bc0 → slots + bs ≤ bs0 → wL_told_198 K D.2 n H bc bs x1 x2 x3 x4 x5 x6 → Go D E A Q 13 cells slots ([] ++ hpW H) [(0, .ref (zB D.2)), (1, .ref x1), (2, .int x2), (3, .int x3), (4, .ref x4), (5, .int x5), (6, .int x6)] 198 [] := by
  intro n
  induction n with
  | zero =>
    intro cells slots H bc bs x1 x2 x3 x4 x5 x6 hbc hbs h
    exact h.elim
  | succ n ih =>
    intro cells slots H bc bs x1 x2 x3 x4 x5 x6 hbc hbs h
    unfold wL_told_198 at h
    refine q_iload C dL_told_198 6 rfl ?_
    refine q_bipush C (v := 12) dL_told_200 (by decide) ?_
    refine q_icmp_ge C 520 dL_told_202 (by decide) h (fun h => ?_) (fun h => ?_)
    · refine q_aload_n C dL_told_520 0 rfl ?_
      refine q_iconst C (v := 2) dL_told_521 (by decide) ?_
      refine p_callSI C (fun _ h => h) [] (cL_cell_ok _ h) cf_L_63 st_L_cell rfl ⟨Nat.le_of_ble_eq_true rfl, Nat.le_of_ble_eq_true rfl⟩ ⟨by show cells + 0 ≤ bc0; omega, by show slots + 0 ≤ bs0; omega⟩ List.perm_append_comm (fun _ : Unit => [] ++ hpW H) (fun _ => List.perm_append_comm) (rest := []) rfl (Nat.le_of_ble_eq_true rfl) dL_told_522 (fun r1 _ h => ?_)
      show Go D E A Q 13 cells slots ([] ++ hpW H) [(0, .ref (zB D.2)), (1, .ref x1), (2, .int x2), (3, .int x3), (4, .ref x4), (5, .int x5), (6, .int x6)] 525 [.int r1]
      refine q_bipush C (v := 7) dL_told_525 (by decide) ?_
      refine q_ishr C dL_told_527 ?_
      refine q_iconst C (v := 5) dL_told_528 (by decide) ?_
      refine p_callSI C (fun _ h => h) [] (cL_below_ok _ h) cf_L_35 st_L_below rfl ⟨Nat.le_of_ble_eq_true rfl, Nat.le_of_ble_eq_true rfl⟩ ⟨by show cells + 0 ≤ bc0; omega, by show slots + 0 ≤ bs0; omega⟩ List.perm_append_comm (fun _ : Unit => [] ++ hpW H) (fun _ => List.perm_append_comm) (rest := []) rfl (Nat.le_of_ble_eq_true rfl) dL_told_529 (fun r2 _ h => ?_)
      show Go D E A Q 13 cells slots ([] ++ hpW H) [(0, .ref (zB D.2)), (1, .ref x1), (2, .int x2), (3, .int x3), (4, .ref x4), (5, .int x5), (6, .int x6)] 532 [.int r2]
      refine q_istore C [(6, .int r2), (0, .ref (zB D.2)), (1, .ref x1), (2, .int x2), (3, .int x3), (4, .ref x4), (5, .int x5)] dL_told_532 (by decide) rfl ?_
      refine q_aload C dL_told_534 5 rfl ?_
      refine q_iload C dL_told_536 0 rfl ?_
      obtain ⟨b3, b4, b1, b2, h⟩ := h
      refine h_newI C dL_told_538 b3 b4 ⟨by show cells + 1 ≤ bc0; omega, by show slots + r2.toNatClampNeg ≤ bs0; omega⟩ (fun q3 g4 => ?_)
      replace h := h q3 g4
      obtain ⟨f5, e6, l7, h⟩ := h
      refine h_put C inX9g tyX9_ok nmX9 (ci := 8) rfl 5 (by decide) fl_L_130 rfl rfl (ty := (.array .int)) (by decide +kernel) e6 l7 rfl rfl dL_told_540 ?_
      refine q_aload C dL_told_543 5 rfl ?_
      refine q_iload C dL_told_545 0 rfl ?_
      obtain ⟨b3, b4, b1, b2, h⟩ := h
      refine h_anewO C 6 rfl cl_L_32 C.hF.2.2.2.2.1.2.2.2.2.1 dL_told_547 b3 b4 ⟨by show cells + 1 + 1 ≤ bc0; omega, by show slots + r2.toNatClampNeg + r2.toNatClampNeg ≤ bs0; omega⟩ (fun q8 g9 => ?_)
      replace h := h q8 g9
      obtain ⟨f10, e11, l12, h⟩ := h
      refine h_put C inX9g tyX9_ok nmX9 (ci := 8) rfl 6 (by decide) fl_L_134 rfl rfl (ty := (.array (.object "SofaDigLaw$Tree"))) (by decide +kernel) e11 l12 rfl rfl dL_told_550 ?_
      refine q_aload C dL_told_553 5 rfl ?_
      refine q_iload C dL_told_555 0 rfl ?_
      obtain ⟨b3, b4, b1, b2, h⟩ := h
      refine h_anewO C 6 rfl cl_L_32 C.hF.2.2.2.2.1.2.2.2.2.1 dL_told_557 b3 b4 ⟨by show cells + 1 + 1 + 1 ≤ bc0; omega, by show slots + r2.toNatClampNeg + r2.toNatClampNeg + r2.toNatClampNeg ≤ bs0; omega⟩ (fun q13 g14 => ?_)
      replace h := h q13 g14
      obtain ⟨f15, e16, l17, h⟩ := h
      refine h_put C inX9g tyX9_ok nmX9 (ci := 8) rfl 7 (by decide) fl_L_138 rfl rfl (ty := (.array (.object "SofaDigLaw$Tree"))) (by decide +kernel) e16 l17 rfl rfl dL_told_560 ?_
      refine q_iconst C (v := 0) dL_told_563 (by decide) ?_
      refine q_istore C [(7, .int 0), (6, .int r2), (0, .ref (zB D.2)), (1, .ref x1), (2, .int x2), (3, .int x3), (4, .ref x4), (5, .int x5)] dL_told_564 (by decide) rfl ?_
      refine q_ls [(0, .ref (zB D.2)), (1, .ref x1), (4, .ref x4), (5, .int x5), (6, .int r2), (7, .int 0)] [2, 3, 6, 7, 1, 0] rfl ?_
      obtain ⟨nw, h⟩ := h
      exact bL_told_566 C  hret  nw (cells + 1 + 1 + 1) (slots + r2.toNatClampNeg + r2.toNatClampNeg + r2.toNatClampNeg) _ _ _ _ _ _ _ _ (by omega) (by omega) h
    · refine q_aload_n C dL_told_205 0 rfl ?_
      refine q_iconst C (v := 3) dL_told_206 (by decide) ?_
      refine q_iload C dL_told_207 6 rfl ?_
      refine q_iadd C dL_told_209 ?_
      refine p_callSI C (fun _ h => h) [] (cL_cell_ok _ h) cf_L_63 st_L_cell rfl ⟨Nat.le_of_ble_eq_true rfl, Nat.le_of_ble_eq_true rfl⟩ ⟨by show cells + 0 ≤ bc0; omega, by show slots + 0 ≤ bs0; omega⟩ List.perm_append_comm (fun _ : Unit => [] ++ hpW H) (fun _ => List.perm_append_comm) (rest := []) rfl (Nat.le_of_ble_eq_true rfl) dL_told_210 (fun r18 _ h => ?_)
      show Go D E A Q 13 cells slots ([] ++ hpW H) [(0, .ref (zB D.2)), (1, .ref x1), (2, .int x2), (3, .int x3), (4, .ref x4), (5, .int x5), (6, .int x6)] 213 [.int r18]
      refine q_iconst C (v := 1) dL_told_213 (by decide) ?_
      refine q_ishr C dL_told_214 ?_
      refine q_bipush C (v := 13) dL_told_215 (by decide) ?_
      refine q_iload C dL_told_217 6 rfl ?_
      refine q_imul C dL_told_219 ?_
      refine q_iadd C dL_told_220 ?_
      refine q_istore C [(7, .int ((r18 >>> (1 &&& 31)) + (13 * x6))), (0, .ref (zB D.2)), (1, .ref x1), (2, .int x2), (3, .int x3), (4, .ref x4), (5, .int x5), (6, .int x6)] dL_told_221 (by decide) rfl ?_
      refine q_aload C dL_told_223 5 rfl ?_
      obtain ⟨y19, e20, h⟩ := h
      refine h_get C inX9g (ci := 8) rfl 1 (by decide) fl_L_104 rfl e20 dL_told_225 ?_
      refine q_iload C dL_told_228 0 rfl ?_
      refine q_iload_n C dL_told_230 3 rfl ?_
      refine p_callSI C (fun _ h => h) [] (cL_below_ok _ h) cf_L_35 st_L_below rfl ⟨Nat.le_of_ble_eq_true rfl, Nat.le_of_ble_eq_true rfl⟩ ⟨by show cells + 0 ≤ bc0; omega, by show slots + 0 ≤ bs0; omega⟩ List.perm_append_comm (fun _ : Unit => [] ++ hpW H) (fun _ => List.perm_append_comm) (rest := [.ref y19]) rfl (Nat.le_of_ble_eq_true rfl) dL_told_231 (fun r21 _ h => ?_)
      show Go D E A Q 13 cells slots ([] ++ hpW H) [(7, .int ((r18 >>> (1 &&& 31)) + (13 * x6))), (0, .ref (zB D.2)), (1, .ref x1), (2, .int x2), (3, .int x3), (4, .ref x4), (5, .int x5), (6, .int x6)] 234 [.int r21, .ref y19]
      obtain ⟨n22, f23, y26, e24, i25, g27, h⟩ := h
      refine h_aldR C 5 rfl rfl e24 i25 g27 dL_told_234 ?_
      refine q_iload C dL_told_235 0 rfl ?_
      refine q_iconst C (v := 3) dL_told_237 (by decide) ?_
      refine q_ishr C dL_told_238 ?_
      refine q_iload_n C dL_told_239 4 rfl ?_
      refine p_callSI C (fun _ h => h) [] (cL_below_ok _ h) cf_L_35 st_L_below rfl ⟨Nat.le_of_ble_eq_true rfl, Nat.le_of_ble_eq_true rfl⟩ ⟨by show cells + 0 ≤ bc0; omega, by show slots + 0 ≤ bs0; omega⟩ List.perm_append_comm (fun _ : Unit => [] ++ hpW H) (fun _ => List.perm_append_comm) (rest := [.ref y26]) rfl (Nat.le_of_ble_eq_true rfl) dL_told_240 (fun r28 _ h => ?_)
      show Go D E A Q 13 cells slots ([] ++ hpW H) [(7, .int ((r18 >>> (1 &&& 31)) + (13 * x6))), (0, .ref (zB D.2)), (1, .ref x1), (2, .int x2), (3, .int x3), (4, .ref x4), (5, .int x5), (6, .int x6)] 243 [.int r28, .ref y26]
      obtain ⟨n29, f30, y33, e31, i32, g34, h⟩ := h
      refine h_aldR C 4 rfl rfl e31 i32 g34 dL_told_243 ?_
      refine q_astore C [(8, .ref y33), (7, .int ((r18 >>> (1 &&& 31)) + (13 * x6))), (0, .ref (zB D.2)), (1, .ref x1), (2, .int x2), (3, .int x3), (4, .ref x4), (5, .int x5), (6, .int x6)] dL_told_244 (by decide) rfl ?_
      obtain ⟨b1, b2, h⟩ := h
      refine h_new C inJ4g tyJ4_ok cl_L_76 it_J4 ini_J4 (ci := 11) rfl (fs := [.null, .int 0, .int 0, .int 0]) (by decide) dL_told_246 ⟨by show cells + 1 ≤ bc0; omega, by show slots + 4 ≤ bs0; omega⟩ (fun q35 g36 => ?_)
      replace h := h q35 g36
      refine q_dup C dL_told_249 rfl ?_
      obtain ⟨c37, s37, hc37, hs37, h⟩ := h
      refine p_callIV C (fun _ h => h) [] (chJ4_init_da8c8_ok _ h) cf_L_108 im_J4_init_da8c8 rfl rfl ⟨Nat.le_of_ble_eq_true rfl, Nat.le_of_ble_eq_true rfl⟩ ⟨by show cells + 1 + c37 ≤ bc0; omega, by show slots + 4 + s37 ≤ bs0; omega⟩ List.perm_append_comm (fun H37 : gH => [] ++ hpW H37) (fun _ => List.perm_append_comm) (rest := [.ref q35]) rfl (Nat.le_of_ble_eq_true rfl) dL_told_250 (fun H37 h => ?_)
      show Go D E A Q 13 (cells + 1 + c37) (slots + 4 + s37) ([] ++ hpW H37) [(8, .ref y33), (7, .int ((r18 >>> (1 &&& 31)) + (13 * x6))), (0, .ref (zB D.2)), (1, .ref x1), (2, .int x2), (3, .int x3), (4, .ref x4), (5, .int x5), (6, .int x6)] 253 [.ref q35]
      refine q_ldcK (i := 40) C (C.strR (i := 40) (Nat.le_of_ble_eq_true rfl)) dL_told_253 ?_
      obtain ⟨⟨fs9, hr9⟩, h⟩ := h
      obtain ⟨c38, s38, hc38, hs38, h⟩ := h
      refine p_callVQ C (fun _ h => h) [] (chJ4_append_15ec4_ok _ h) cf_L_75 im_J4_append_15ec4 se_J4_append_15ec4 (hRv_h (q := (RJ4, TJ4, 4)) hr9 rfl) rfl ⟨Nat.le_of_ble_eq_true rfl, Nat.le_of_ble_eq_true rfl⟩ ⟨by show cells + 1 + c37 + c38 ≤ bc0; omega, by show slots + 4 + s37 + s38 ≤ bs0; omega⟩ List.perm_append_comm (fun H38 : gH => [] ++ hpW H38) (fun _ => List.perm_append_comm) (rest := []) rfl (Nat.le_of_ble_eq_true rfl) dL_told_255 (fun r38 H38 h => ?_)
      show Go D E A Q 13 (cells + 1 + c37 + c38) (slots + 4 + s37 + s38) ([] ++ hpW H38) [(8, .ref y33), (7, .int ((r18 >>> (1 &&& 31)) + (13 * x6))), (0, .ref (zB D.2)), (1, .ref x1), (2, .int x2), (3, .int x3), (4, .ref x4), (5, .int x5), (6, .int x6)] 258 [.ref r38]
      refine q_iload C dL_told_258 1 rfl ?_
      refine q_iload_n C dL_told_260 4 rfl ?_
      refine p_callSI C (fun _ h => h) [] (cL_below_ok _ h) cf_L_35 st_L_below rfl ⟨Nat.le_of_ble_eq_true rfl, Nat.le_of_ble_eq_true rfl⟩ ⟨by show cells + 1 + c37 + c38 + 0 ≤ bc0; omega, by show slots + 4 + s37 + s38 + 0 ≤ bs0; omega⟩ List.perm_append_comm (fun _ : Unit => [] ++ hpW H38) (fun _ => List.perm_append_comm) (rest := [.ref r38]) rfl (Nat.le_of_ble_eq_true rfl) dL_told_261 (fun r39 _ h => ?_)
      show Go D E A Q 13 (cells + 1 + c37 + c38) (slots + 4 + s37 + s38) ([] ++ hpW H38) [(8, .ref y33), (7, .int ((r18 >>> (1 &&& 31)) + (13 * x6))), (0, .ref (zB D.2)), (1, .ref x1), (2, .int x2), (3, .int x3), (4, .ref x4), (5, .int x5), (6, .int x6)] 264 [.int r39, .ref r38]
      obtain ⟨⟨fs9, hr9⟩, h⟩ := h
      obtain ⟨c40, s40, hc40, hs40, h⟩ := h
      refine p_callVQ C (fun _ h => h) [] (chJ4_append_bf812_ok _ h) cf_L_81 im_J4_append_bf812 se_J4_append_bf812 (hRv_h (q := (RJ4, TJ4, 4)) hr9 rfl) rfl ⟨Nat.le_of_ble_eq_true rfl, Nat.le_of_ble_eq_true rfl⟩ ⟨by show cells + 1 + c37 + c38 + c40 ≤ bc0; omega, by show slots + 4 + s37 + s38 + s40 ≤ bs0; omega⟩ List.perm_append_comm (fun H40 : gH => [] ++ hpW H40) (fun _ => List.perm_append_comm) (rest := []) rfl (Nat.le_of_ble_eq_true rfl) dL_told_264 (fun r40 H40 h => ?_)
      show Go D E A Q 13 (cells + 1 + c37 + c38 + c40) (slots + 4 + s37 + s38 + s40) ([] ++ hpW H40) [(8, .ref y33), (7, .int ((r18 >>> (1 &&& 31)) + (13 * x6))), (0, .ref (zB D.2)), (1, .ref x1), (2, .int x2), (3, .int x3), (4, .ref x4), (5, .int x5), (6, .int x6)] 267 [.ref r40]
      refine q_ldcK (i := 41) C (C.strR (i := 41) (Nat.le_of_ble_eq_true rfl)) dL_told_267 ?_
      obtain ⟨⟨fs9, hr9⟩, h⟩ := h
      obtain ⟨c41, s41, hc41, hs41, h⟩ := h
      refine p_callVQ C (fun _ h => h) [] (chJ4_append_15ec4_ok _ h) cf_L_75 im_J4_append_15ec4 se_J4_append_15ec4 (hRv_h (q := (RJ4, TJ4, 4)) hr9 rfl) rfl ⟨Nat.le_of_ble_eq_true rfl, Nat.le_of_ble_eq_true rfl⟩ ⟨by show cells + 1 + c37 + c38 + c40 + c41 ≤ bc0; omega, by show slots + 4 + s37 + s38 + s40 + s41 ≤ bs0; omega⟩ List.perm_append_comm (fun H41 : gH => [] ++ hpW H41) (fun _ => List.perm_append_comm) (rest := []) rfl (Nat.le_of_ble_eq_true rfl) dL_told_269 (fun r41 H41 h => ?_)
      show Go D E A Q 13 (cells + 1 + c37 + c38 + c40 + c41) (slots + 4 + s37 + s38 + s40 + s41) ([] ++ hpW H41) [(8, .ref y33), (7, .int ((r18 >>> (1 &&& 31)) + (13 * x6))), (0, .ref (zB D.2)), (1, .ref x1), (2, .int x2), (3, .int x3), (4, .ref x4), (5, .int x5), (6, .int x6)] 272 [.ref r41]
      refine q_iload C dL_told_272 1 rfl ?_
      refine q_iconst C (v := 3) dL_told_274 (by decide) ?_
      refine q_ishr C dL_told_275 ?_
      refine q_iload_n C dL_told_276 5 rfl ?_
      refine p_callSI C (fun _ h => h) [] (cL_below_ok _ h) cf_L_35 st_L_below rfl ⟨Nat.le_of_ble_eq_true rfl, Nat.le_of_ble_eq_true rfl⟩ ⟨by show cells + 1 + c37 + c38 + c40 + c41 + 0 ≤ bc0; omega, by show slots + 4 + s37 + s38 + s40 + s41 + 0 ≤ bs0; omega⟩ List.perm_append_comm (fun _ : Unit => [] ++ hpW H41) (fun _ => List.perm_append_comm) (rest := [.ref r41]) rfl (Nat.le_of_ble_eq_true rfl) dL_told_277 (fun r42 _ h => ?_)
      show Go D E A Q 13 (cells + 1 + c37 + c38 + c40 + c41) (slots + 4 + s37 + s38 + s40 + s41) ([] ++ hpW H41) [(8, .ref y33), (7, .int ((r18 >>> (1 &&& 31)) + (13 * x6))), (0, .ref (zB D.2)), (1, .ref x1), (2, .int x2), (3, .int x3), (4, .ref x4), (5, .int x5), (6, .int x6)] 280 [.int r42, .ref r41]
      obtain ⟨⟨fs9, hr9⟩, h⟩ := h
      obtain ⟨c43, s43, hc43, hs43, h⟩ := h
      refine p_callVQ C (fun _ h => h) [] (chJ4_append_bf812_ok _ h) cf_L_81 im_J4_append_bf812 se_J4_append_bf812 (hRv_h (q := (RJ4, TJ4, 4)) hr9 rfl) rfl ⟨Nat.le_of_ble_eq_true rfl, Nat.le_of_ble_eq_true rfl⟩ ⟨by show cells + 1 + c37 + c38 + c40 + c41 + c43 ≤ bc0; omega, by show slots + 4 + s37 + s38 + s40 + s41 + s43 ≤ bs0; omega⟩ List.perm_append_comm (fun H43 : gH => [] ++ hpW H43) (fun _ => List.perm_append_comm) (rest := []) rfl (Nat.le_of_ble_eq_true rfl) dL_told_280 (fun r43 H43 h => ?_)
      show Go D E A Q 13 (cells + 1 + c37 + c38 + c40 + c41 + c43) (slots + 4 + s37 + s38 + s40 + s41 + s43) ([] ++ hpW H43) [(8, .ref y33), (7, .int ((r18 >>> (1 &&& 31)) + (13 * x6))), (0, .ref (zB D.2)), (1, .ref x1), (2, .int x2), (3, .int x3), (4, .ref x4), (5, .int x5), (6, .int x6)] 283 [.ref r43]
      obtain ⟨⟨fs9, hr9⟩, h⟩ := h
      obtain ⟨c44, s44, hc44, hs44, h⟩ := h
      refine p_callVQ C (fun _ h => h) [] (chJ4_toString_0e30d_ok _ h) cf_L_113 im_J4_toString_0e30d se_J4_toString_0e30d (hRv_h (q := (RJ4, TJ4, 4)) hr9 rfl) rfl ⟨Nat.le_of_ble_eq_true rfl, Nat.le_of_ble_eq_true rfl⟩ ⟨by show cells + 1 + c37 + c38 + c40 + c41 + c43 + c44 ≤ bc0; omega, by show slots + 4 + s37 + s38 + s40 + s41 + s43 + s44 ≤ bs0; omega⟩ List.perm_append_comm (fun H44 : gH => [] ++ hpW H44) (fun _ => List.perm_append_comm) (rest := []) rfl (Nat.le_of_ble_eq_true rfl) dL_told_283 (fun r44 H44 h => ?_)
      show Go D E A Q 13 (cells + 1 + c37 + c38 + c40 + c41 + c43 + c44) (slots + 4 + s37 + s38 + s40 + s41 + s43 + s44) ([] ++ hpW H44) [(8, .ref y33), (7, .int ((r18 >>> (1 &&& 31)) + (13 * x6))), (0, .ref (zB D.2)), (1, .ref x1), (2, .int x2), (3, .int x3), (4, .ref x4), (5, .int x5), (6, .int x6)] 286 [.ref r44]
      refine q_astore C [(9, .ref r44), (8, .ref y33), (7, .int ((r18 >>> (1 &&& 31)) + (13 * x6))), (0, .ref (zB D.2)), (1, .ref x1), (2, .int x2), (3, .int x3), (4, .ref x4), (5, .int x5), (6, .int x6)] dL_told_286 (by decide) rfl ?_
      refine q_iload C dL_told_288 2 rfl ?_
      refine q_iconst C (v := 5) dL_told_290 (by decide) ?_
      refine q_ishr C dL_told_291 ?_
      refine q_bipush C (v := 7) dL_told_292 (by decide) ?_
      refine p_callSI C (fun _ h => h) [] (cL_below_ok _ h) cf_L_35 st_L_below rfl ⟨Nat.le_of_ble_eq_true rfl, Nat.le_of_ble_eq_true rfl⟩ ⟨by show cells + 1 + c37 + c38 + c40 + c41 + c43 + c44 + 0 ≤ bc0; omega, by show slots + 4 + s37 + s38 + s40 + s41 + s43 + s44 + 0 ≤ bs0; omega⟩ List.perm_append_comm (fun _ : Unit => [] ++ hpW H44) (fun _ => List.perm_append_comm) (rest := []) rfl (Nat.le_of_ble_eq_true rfl) dL_told_294 (fun r45 _ h => ?_)
      show Go D E A Q 13 (cells + 1 + c37 + c38 + c40 + c41 + c43 + c44) (slots + 4 + s37 + s38 + s40 + s41 + s43 + s44) ([] ++ hpW H44) [(9, .ref r44), (8, .ref y33), (7, .int ((r18 >>> (1 &&& 31)) + (13 * x6))), (0, .ref (zB D.2)), (1, .ref x1), (2, .int x2), (3, .int x3), (4, .ref x4), (5, .int x5), (6, .int x6)] 297 [.int r45]
      refine q_istore C [(10, .int r45), (9, .ref r44), (8, .ref y33), (7, .int ((r18 >>> (1 &&& 31)) + (13 * x6))), (0, .ref (zB D.2)), (1, .ref x1), (2, .int x2), (3, .int x3), (4, .ref x4), (5, .int x5), (6, .int x6)] dL_told_297 (by decide) rfl ?_
      refine q_iload C dL_told_299 0 rfl ?_
      refine q_if_ne C 343 dL_told_301 (by decide) h (fun h => ?_) (fun h => ?_)
      · refine q_ls [(0, .ref (zB D.2)), (1, .ref x1), (2, .int x2), (3, .int x3), (4, .ref x4), (5, .int x5), (6, .int x6), (7, .int ((r18 >>> (1 &&& 31)) + (13 * x6))), (8, .ref y33), (9, .ref r44), (10, .int r45)] [4, 5, 6, 7, 8, 9, 10, 3, 2, 1, 0] rfl ?_
        exact bL_told_343 C (KL198 := (wL_told_198 K D.2 n)) hret ih (cells + 1 + c37 + c38 + c40 + c41 + c43 + c44) (slots + 4 + s37 + s38 + s40 + s41 + s43 + s44) _ _ _ _ _ _ _ _ _ _ _ _ _ (by omega) (by omega) h
      · refine q_aload C dL_told_304 2 rfl ?_
        refine q_iconst C (v := 2) dL_told_306 (by decide) ?_
        obtain ⟨n46, f47, e48, i49, h⟩ := h
        refine h_iald C e48 i49 dL_told_307 ?_
        refine q_if_ne C 343 dL_told_308 (by decide) h (fun h => ?_) (fun h => ?_)
        · refine q_ls [(0, .ref (zB D.2)), (1, .ref x1), (2, .int x2), (3, .int x3), (4, .ref x4), (5, .int x5), (6, .int x6), (7, .int ((r18 >>> (1 &&& 31)) + (13 * x6))), (8, .ref y33), (9, .ref r44), (10, .int r45)] [4, 5, 6, 7, 8, 9, 10, 3, 2, 1, 0] rfl ?_
          exact bL_told_343 C (KL198 := (wL_told_198 K D.2 n)) hret ih (cells + 1 + c37 + c38 + c40 + c41 + c43 + c44) (slots + 4 + s37 + s38 + s40 + s41 + s43 + s44) _ _ _ _ _ _ _ _ _ _ _ _ _ (by omega) (by omega) h
        · refine q_iload C dL_told_311 10 rfl ?_
          refine q_bipush C (v := 8) dL_told_313 (by decide) ?_
          refine q_icmp_le C 343 dL_told_315 (by decide) h (fun h => ?_) (fun h => ?_)
          · refine q_ls [(0, .ref (zB D.2)), (1, .ref x1), (2, .int x2), (3, .int x3), (4, .ref x4), (5, .int x5), (6, .int x6), (7, .int ((r18 >>> (1 &&& 31)) + (13 * x6))), (8, .ref y33), (9, .ref r44), (10, .int r45)] [4, 5, 6, 7, 8, 9, 10, 3, 2, 1, 0] rfl ?_
            exact bL_told_343 C (KL198 := (wL_told_198 K D.2 n)) hret ih (cells + 1 + c37 + c38 + c40 + c41 + c43 + c44) (slots + 4 + s37 + s38 + s40 + s41 + s43 + s44) _ _ _ _ _ _ _ _ _ _ _ _ _ (by omega) (by omega) h
          · refine q_aload C dL_told_318 2 rfl ?_
            refine q_iconst C (v := 2) dL_told_320 (by decide) ?_
            refine q_iconst C (v := 1) dL_told_321 (by decide) ?_
            obtain ⟨n50, f51, e52, i53, h⟩ := h
            refine h_iast C e52 i53 dL_told_322 ?_
            refine q_aload_n C dL_told_323 5 rfl ?_
            refine q_ldcK (i := 42) C (C.strR (i := 42) (Nat.le_of_ble_eq_true rfl)) dL_told_324 ?_
            obtain ⟨⟨fs9, hr9⟩, h⟩ := h
            obtain ⟨c54, s54, hc54, hs54, h⟩ := h
            refine p_callVQ C (fun _ h => h) [] (chJ4_append_15ec4_ok _ h) cf_L_75 im_J4_append_15ec4 se_J4_append_15ec4 (hRv_h (q := (RJ4, TJ4, 4)) hr9 rfl) rfl ⟨Nat.le_of_ble_eq_true rfl, Nat.le_of_ble_eq_true rfl⟩ ⟨by show cells + 1 + c37 + c38 + c40 + c41 + c43 + c44 + c54 ≤ bc0; omega, by show slots + 4 + s37 + s38 + s40 + s41 + s43 + s44 + s54 ≤ bs0; omega⟩ List.perm_append_comm (fun H54 : gH => [] ++ hpW H54) (fun _ => List.perm_append_comm) (rest := []) rfl (Nat.le_of_ble_eq_true rfl) dL_told_326 (fun r54 H54 h => ?_)
            show Go D E A Q 13 (cells + 1 + c37 + c38 + c40 + c41 + c43 + c44 + c54) (slots + 4 + s37 + s38 + s40 + s41 + s43 + s44 + s54) ([] ++ hpW H54) [(10, .int r45), (9, .ref r44), (8, .ref y33), (7, .int ((r18 >>> (1 &&& 31)) + (13 * x6))), (0, .ref (zB D.2)), (1, .ref x1), (2, .int x2), (3, .int x3), (4, .ref x4), (5, .int x5), (6, .int x6)] 329 [.ref r54]
            refine q_aload C dL_told_329 1 rfl ?_
            obtain ⟨⟨fs9, hr9⟩, h⟩ := h
            obtain ⟨c55, s55, hc55, hs55, h⟩ := h
            refine p_callVQ C (fun _ h => h) [] (chJ4_append_15ec4_ok _ h) cf_L_75 im_J4_append_15ec4 se_J4_append_15ec4 (hRv_h (q := (RJ4, TJ4, 4)) hr9 rfl) rfl ⟨Nat.le_of_ble_eq_true rfl, Nat.le_of_ble_eq_true rfl⟩ ⟨by show cells + 1 + c37 + c38 + c40 + c41 + c43 + c44 + c54 + c55 ≤ bc0; omega, by show slots + 4 + s37 + s38 + s40 + s41 + s43 + s44 + s54 + s55 ≤ bs0; omega⟩ List.perm_append_comm (fun H55 : gH => [] ++ hpW H55) (fun _ => List.perm_append_comm) (rest := []) rfl (Nat.le_of_ble_eq_true rfl) dL_told_331 (fun r55 H55 h => ?_)
            show Go D E A Q 13 (cells + 1 + c37 + c38 + c40 + c41 + c43 + c44 + c54 + c55) (slots + 4 + s37 + s38 + s40 + s41 + s43 + s44 + s54 + s55) ([] ++ hpW H55) [(10, .int r45), (9, .ref r44), (8, .ref y33), (7, .int ((r18 >>> (1 &&& 31)) + (13 * x6))), (0, .ref (zB D.2)), (1, .ref x1), (2, .int x2), (3, .int x3), (4, .ref x4), (5, .int x5), (6, .int x6)] 334 [.ref r55]
            refine q_ldcK (i := 39) C (C.strR (i := 39) (Nat.le_of_ble_eq_true rfl)) dL_told_334 ?_
            obtain ⟨⟨fs9, hr9⟩, h⟩ := h
            obtain ⟨c56, s56, hc56, hs56, h⟩ := h
            refine p_callVQ C (fun _ h => h) [] (chJ4_append_15ec4_ok _ h) cf_L_75 im_J4_append_15ec4 se_J4_append_15ec4 (hRv_h (q := (RJ4, TJ4, 4)) hr9 rfl) rfl ⟨Nat.le_of_ble_eq_true rfl, Nat.le_of_ble_eq_true rfl⟩ ⟨by show cells + 1 + c37 + c38 + c40 + c41 + c43 + c44 + c54 + c55 + c56 ≤ bc0; omega, by show slots + 4 + s37 + s38 + s40 + s41 + s43 + s44 + s54 + s55 + s56 ≤ bs0; omega⟩ List.perm_append_comm (fun H56 : gH => [] ++ hpW H56) (fun _ => List.perm_append_comm) (rest := []) rfl (Nat.le_of_ble_eq_true rfl) dL_told_336 (fun r56 H56 h => ?_)
            show Go D E A Q 13 (cells + 1 + c37 + c38 + c40 + c41 + c43 + c44 + c54 + c55 + c56) (slots + 4 + s37 + s38 + s40 + s41 + s43 + s44 + s54 + s55 + s56) ([] ++ hpW H56) [(10, .int r45), (9, .ref r44), (8, .ref y33), (7, .int ((r18 >>> (1 &&& 31)) + (13 * x6))), (0, .ref (zB D.2)), (1, .ref x1), (2, .int x2), (3, .int x3), (4, .ref x4), (5, .int x5), (6, .int x6)] 339 [.ref r56]
            refine q_pop C dL_told_339 rfl ?_
            refine q_goto (tgt := 514) C dL_told_340 (by decide) ?_
            refine q_ls [(0, .ref (zB D.2)), (1, .ref x1), (2, .int x2), (3, .int x3), (4, .ref x4), (5, .int x5), (6, .int x6)] [4, 5, 6, 7, 8, 9, 10] rfl ?_
            exact bL_told_514 C (KL198 := (wL_told_198 K D.2 n)) hret ih (cells + 1 + c37 + c38 + c40 + c41 + c43 + c44 + c54 + c55 + c56) (slots + 4 + s37 + s38 + s40 + s41 + s43 + s44 + s54 + s55 + s56) _ _ _ _ _ _ _ _ _ (by omega) (by omega) h
def wL_told_74 (K : Nat → gH → Prop) (Z : gZ) : Nat → gH → Nat → Nat → Nat → Int32 → Int32 → Nat → Int32 → Int32 → Prop
  | 0, _, _, _, _, _, _, _, _, _ => False
  | n + 1, H, bc, bs, x1, x2, x3, x4, x5, x6 =>
  ((x5 ≤ x6 → ∃ k9 : Nat, wL_told_198 K Z k9 H bc bs x1 x2 x3 x4 x5 0) ∧ (¬ x5 ≤ x6 → wL_cell Z H 1 (fun r1 => wL_below Z H (r1 >>> ((3 + (3 * x6)) &&& 31)) 600 (fun r2 => 1 ≤ bc ∧ (2 : Int32).toNatClampNeg ≤ bs ∧ (∀ q3 : Nat, hpG H q3 = none → (∃ (n5 : Nat) (f6 : Nat → Int32), hpG (hpN H q3 (iE (zY Z 1) (2 : Int32).toNatClampNeg (fun _ => 0))) q3 = some (iE (zY Z 1) n5 f6) ∧ vp_in 0 n5 ∧ (wL_cell Z (hpS (hpN H q3 (iE (zY Z 1) (2 : Int32).toNatClampNeg (fun _ => 0))) q3 (iE (zY Z 1) n5 (upd f6 (0 : Int32).toNatClampNeg r2))) 2 (fun r9 => wL_below Z (hpS (hpN H q3 (iE (zY Z 1) (2 : Int32).toNatClampNeg (fun _ => 0))) q3 (iE (zY Z 1) n5 (upd f6 (0 : Int32).toNatClampNeg r2))) (r9 >>> ((2 * x6) &&& 31)) 300 (fun r10 => ∃ (n11 : Nat) (f12 : Nat → Int32), hpG (hpS (hpN H q3 (iE (zY Z 1) (2 : Int32).toNatClampNeg (fun _ => 0))) q3 (iE (zY Z 1) n5 (upd f6 (0 : Int32).toNatClampNeg r2))) q3 = some (iE (zY Z 1) n11 f12) ∧ vp_in 1 n11 ∧ (∃ y15 : Nat, gF (hpS (hpS (hpN H q3 (iE (zY Z 1) (2 : Int32).toNatClampNeg (fun _ => 0))) q3 (iE (zY Z 1) n5 (upd f6 (0 : Int32).toNatClampNeg r2))) q3 (iE (zY Z 1) n11 (upd f12 (1 : Int32).toNatClampNeg (r2 + r10)))) x4 8 3 (.ref y15) ∧ (∃ (c17 s17 : Nat), c17 ≤ (bc - 1) ∧ s17 ≤ (bs - (2 : Int32).toNatClampNeg) ∧ wX9_with Z (hpS (hpS (hpN H q3 (iE (zY Z 1) (2 : Int32).toNatClampNeg (fun _ => 0))) q3 (iE (zY Z 1) n5 (upd f6 (0 : Int32).toNatClampNeg r2))) q3 (iE (zY Z 1) n11 (upd f12 (1 : Int32).toNatClampNeg (r2 + r10)))) c17 s17 y15 q3 (fun r17 H17 => ∃ f18 : List Value, hpG H17 x4 = some (.inr (8, f18)) ∧ 3 < f18.length ∧ ((∃ fs, hpG (hpS H17 x4 (.inr (8, f18.set 3 (.ref r17)))) x1 = some (.inr (11, fs))) ∧ ∃ (c21 s21 : Nat), c21 ≤ ((bc - 1) - c17) ∧ s21 ≤ ((bs - (2 : Int32).toNatClampNeg) - s17) ∧ whJ4_append_15ec4 Z (hpS H17 x4 (.inr (8, f18.set 3 (.ref r17)))) c21 s21 x1 (Z.1 36) (fun r21 H21 => (∃ fs, hpG H21 r21 = some (.inr (11, fs))) ∧ ∃ (c22 s22 : Nat), c22 ≤ (((bc - 1) - c17) - c21) ∧ s22 ≤ (((bs - (2 : Int32).toNatClampNeg) - s17) - s21) ∧ whJ4_append_bf812 Z H21 c22 s22 r21 x6 (fun r22 H22 => (∃ fs, hpG H22 r22 = some (.inr (11, fs))) ∧ ∃ (c23 s23 : Nat), c23 ≤ ((((bc - 1) - c17) - c21) - c22) ∧ s23 ≤ ((((bs - (2 : Int32).toNatClampNeg) - s17) - s21) - s22) ∧ whJ4_append_15ec4 Z H22 c23 s23 r22 (Z.1 37) (fun r23 H23 => ∃ (n24 : Nat) (f25 : Nat → Int32), hpG H23 q3 = some (iE (zY Z 1) n24 f25) ∧ vp_in 0 n24 ∧ ((∃ fs, hpG H23 r23 = some (.inr (11, fs))) ∧ ∃ (c28 s28 : Nat), c28 ≤ (((((bc - 1) - c17) - c21) - c22) - c23) ∧ s28 ≤ (((((bs - (2 : Int32).toNatClampNeg) - s17) - s21) - s22) - s23) ∧ whJ4_append_bf812 Z H23 c28 s28 r23 (f25 (0 : Int32).toNatClampNeg) (fun r28 H28 => (∃ fs, hpG H28 r28 = some (.inr (11, fs))) ∧ ∃ (c29 s29 : Nat), c29 ≤ ((((((bc - 1) - c17) - c21) - c22) - c23) - c28) ∧ s29 ≤ ((((((bs - (2 : Int32).toNatClampNeg) - s17) - s21) - s22) - s23) - s28) ∧ whJ4_append_15ec4 Z H28 c29 s29 r28 (Z.1 38) (fun r29 H29 => ∃ (n30 : Nat) (f31 : Nat → Int32), hpG H29 q3 = some (iE (zY Z 1) n30 f31) ∧ vp_in 1 n30 ∧ ((∃ fs, hpG H29 r29 = some (.inr (11, fs))) ∧ ∃ (c34 s34 : Nat), c34 ≤ (((((((bc - 1) - c17) - c21) - c22) - c23) - c28) - c29) ∧ s34 ≤ (((((((bs - (2 : Int32).toNatClampNeg) - s17) - s21) - s22) - s23) - s28) - s29) ∧ whJ4_append_bf812 Z H29 c34 s34 r29 (f31 (1 : Int32).toNatClampNeg) (fun r34 H34 => (∃ fs, hpG H34 r34 = some (.inr (11, fs))) ∧ ∃ (c35 s35 : Nat), c35 ≤ ((((((((bc - 1) - c17) - c21) - c22) - c23) - c28) - c29) - c34) ∧ s35 ≤ ((((((((bs - (2 : Int32).toNatClampNeg) - s17) - s21) - s22) - s23) - s28) - s29) - s34) ∧ whJ4_append_15ec4 Z H34 c35 s35 r34 (Z.1 39) (fun r35 H35 => wL_told_74 K Z n H35 (((((((((bc - 1) - c17) - c21) - c22) - c23) - c28) - c29) - c34) - c35) (((((((((bs - (2 : Int32).toNatClampNeg) - s17) - s21) - s22) - s23) - s28) - s29) - s34) - s35) x1 x2 x3 x4 x5 (x6 + 1)))))))))))))))))))))))
set_option maxRecDepth 100000 in
set_option maxHeartbeats 4000000 in
theorem bL_told_74 {D : gD} {E : gE} {A : Nat → Prop} {Q : State → Prop} {bc0 bs0 : Nat} (C : CL D E (rmL_told bc0 bs0) cL_told 13 RL A) {K : Nat → gH → Prop} (hret : ∀ (r : Nat) (H : gH) (pc : Nat) (ls : List (Nat × Value)), K r H → decode cL_told pc = .ok (.areturn, 1) → Go D E A Q 13 bc0 bs0 ([] ++ hpW H) ls pc [.ref r]) : ∀ (n : Nat) (cells slots : Nat) (H : gH) (bc : Nat) (bs : Nat) (x1 : Nat) (x2 : Int32) (x3 : Int32) (x4 : Nat) (x5 : Int32) (x6 : Int32), cells + bc ≤ bc0 → slots + bs ≤ bs0 → wL_told_74 K D.2 n H bc bs x1 x2 x3 x4 x5 x6 → Go D E A Q 13 cells slots ([] ++ hpW H) [(0, .ref (zB D.2)), (1, .ref x1), (2, .int x2), (3, .int x3), (4, .ref x4), (5, .int x5), (6, .int x6)] 74 [] := by
  intro n
  induction n with
  | zero =>
    intro cells slots H bc bs x1 x2 x3 x4 x5 x6 hbc hbs h
    exact h.elim
  | succ n ih =>
    intro cells slots H bc bs x1 x2 x3 x4 x5 x6 hbc hbs h
    unfold wL_told_74 at h
    refine q_iload C dL_told_74 6 rfl ?_
    refine q_iload C dL_told_76 5 rfl ?_
    refine q_icmp_ge C 195 dL_told_78 (by decide) h (fun h => ?_) (fun h => ?_)
    · refine q_iconst C (v := 0) dL_told_195 (by decide) ?_
      refine q_istore C [(6, .int 0), (0, .ref (zB D.2)), (1, .ref x1), (2, .int x2), (3, .int x3), (4, .ref x4), (5, .int x5)] dL_told_196 (by decide) rfl ?_
      refine q_ls [(0, .ref (zB D.2)), (1, .ref x1), (2, .int x2), (3, .int x3), (4, .ref x4), (5, .int x5), (6, .int 0)] [1, 2, 3, 4, 5, 6, 0] rfl ?_
      obtain ⟨nw, h⟩ := h
      exact bL_told_198 C  hret  nw cells slots _ _ _ _ _ _ _ _ _ (by omega) (by omega) h
    · refine q_aload_n C dL_told_81 0 rfl ?_
      refine q_iconst C (v := 1) dL_told_82 (by decide) ?_
      refine p_callSI C (fun _ h => h) [] (cL_cell_ok _ h) cf_L_63 st_L_cell rfl ⟨Nat.le_of_ble_eq_true rfl, Nat.le_of_ble_eq_true rfl⟩ ⟨by show cells + 0 ≤ bc0; omega, by show slots + 0 ≤ bs0; omega⟩ List.perm_append_comm (fun _ : Unit => [] ++ hpW H) (fun _ => List.perm_append_comm) (rest := []) rfl (Nat.le_of_ble_eq_true rfl) dL_told_83 (fun r1 _ h => ?_)
      show Go D E A Q 13 cells slots ([] ++ hpW H) [(0, .ref (zB D.2)), (1, .ref x1), (2, .int x2), (3, .int x3), (4, .ref x4), (5, .int x5), (6, .int x6)] 86 [.int r1]
      refine q_iconst C (v := 3) dL_told_86 (by decide) ?_
      refine q_iconst C (v := 3) dL_told_87 (by decide) ?_
      refine q_iload C dL_told_88 6 rfl ?_
      refine q_imul C dL_told_90 ?_
      refine q_iadd C dL_told_91 ?_
      refine q_ishr C dL_told_92 ?_
      refine q_sipush C (v := 600) dL_told_93 (by decide) ?_
      refine p_callSI C (fun _ h => h) [] (cL_below_ok _ h) cf_L_35 st_L_below rfl ⟨Nat.le_of_ble_eq_true rfl, Nat.le_of_ble_eq_true rfl⟩ ⟨by show cells + 0 ≤ bc0; omega, by show slots + 0 ≤ bs0; omega⟩ List.perm_append_comm (fun _ : Unit => [] ++ hpW H) (fun _ => List.perm_append_comm) (rest := []) rfl (Nat.le_of_ble_eq_true rfl) dL_told_96 (fun r2 _ h => ?_)
      show Go D E A Q 13 cells slots ([] ++ hpW H) [(0, .ref (zB D.2)), (1, .ref x1), (2, .int x2), (3, .int x3), (4, .ref x4), (5, .int x5), (6, .int x6)] 99 [.int r2]
      refine q_istore C [(7, .int r2), (0, .ref (zB D.2)), (1, .ref x1), (2, .int x2), (3, .int x3), (4, .ref x4), (5, .int x5), (6, .int x6)] dL_told_99 (by decide) rfl ?_
      refine q_iconst C (v := 2) dL_told_101 (by decide) ?_
      obtain ⟨b1, b2, h⟩ := h
      refine h_newI C dL_told_102 (by decide) (by decide) ⟨by show cells + 1 ≤ bc0; omega, by show slots + (2 : Int32).toNatClampNeg ≤ bs0; omega⟩ (fun q3 g4 => ?_)
      replace h := h q3 g4
      refine q_dup C dL_told_104 rfl ?_
      refine q_iconst C (v := 0) dL_told_105 (by decide) ?_
      refine q_iload C dL_told_106 0 rfl ?_
      obtain ⟨n5, f6, e7, i8, h⟩ := h
      refine h_iast C e7 i8 dL_told_108 ?_
      refine q_dup C dL_told_109 rfl ?_
      refine q_iconst C (v := 1) dL_told_110 (by decide) ?_
      refine q_iload C dL_told_111 0 rfl ?_
      refine q_aload_n C dL_told_113 1 rfl ?_
      refine q_iconst C (v := 2) dL_told_114 (by decide) ?_
      refine p_callSI C (fun _ h => h) [] (cL_cell_ok _ h) cf_L_63 st_L_cell rfl ⟨Nat.le_of_ble_eq_true rfl, Nat.le_of_ble_eq_true rfl⟩ ⟨by show cells + 1 + 0 ≤ bc0; omega, by show slots + (2 : Int32).toNatClampNeg + 0 ≤ bs0; omega⟩ List.perm_append_comm (fun _ : Unit => [] ++ hpW (hpS (hpN H q3 (iE (zY D.2 1) (2 : Int32).toNatClampNeg (fun _ => 0))) q3 (iE (zY D.2 1) n5 (upd f6 (0 : Int32).toNatClampNeg r2)))) (fun _ => List.perm_append_comm) (rest := [.int r2, .int 1, .ref q3, .ref q3]) rfl (Nat.le_of_ble_eq_true rfl) dL_told_115 (fun r9 _ h => ?_)
      show Go D E A Q 13 (cells + 1) (slots + (2 : Int32).toNatClampNeg) ([] ++ hpW (hpS (hpN H q3 (iE (zY D.2 1) (2 : Int32).toNatClampNeg (fun _ => 0))) q3 (iE (zY D.2 1) n5 (upd f6 (0 : Int32).toNatClampNeg r2)))) [(7, .int r2), (0, .ref (zB D.2)), (1, .ref x1), (2, .int x2), (3, .int x3), (4, .ref x4), (5, .int x5), (6, .int x6)] 118 [.int r9, .int r2, .int 1, .ref q3, .ref q3]
      refine q_iconst C (v := 2) dL_told_118 (by decide) ?_
      refine q_iload C dL_told_119 7 rfl ?_
      refine q_imul C dL_told_121 ?_
      refine q_ishr C dL_told_122 ?_
      refine q_sipush C (v := 300) dL_told_123 (by decide) ?_
      refine p_callSI C (fun _ h => h) [] (cL_below_ok _ h) cf_L_35 st_L_below rfl ⟨Nat.le_of_ble_eq_true rfl, Nat.le_of_ble_eq_true rfl⟩ ⟨by show cells + 1 + 0 ≤ bc0; omega, by show slots + (2 : Int32).toNatClampNeg + 0 ≤ bs0; omega⟩ List.perm_append_comm (fun _ : Unit => [] ++ hpW (hpS (hpN H q3 (iE (zY D.2 1) (2 : Int32).toNatClampNeg (fun _ => 0))) q3 (iE (zY D.2 1) n5 (upd f6 (0 : Int32).toNatClampNeg r2)))) (fun _ => List.perm_append_comm) (rest := [.int r2, .int 1, .ref q3, .ref q3]) rfl (Nat.le_of_ble_eq_true rfl) dL_told_126 (fun r10 _ h => ?_)
      show Go D E A Q 13 (cells + 1) (slots + (2 : Int32).toNatClampNeg) ([] ++ hpW (hpS (hpN H q3 (iE (zY D.2 1) (2 : Int32).toNatClampNeg (fun _ => 0))) q3 (iE (zY D.2 1) n5 (upd f6 (0 : Int32).toNatClampNeg r2)))) [(7, .int r2), (0, .ref (zB D.2)), (1, .ref x1), (2, .int x2), (3, .int x3), (4, .ref x4), (5, .int x5), (6, .int x6)] 129 [.int r10, .int r2, .int 1, .ref q3, .ref q3]
      refine q_iadd C dL_told_129 ?_
      obtain ⟨n11, f12, e13, i14, h⟩ := h
      refine h_iast C e13 i14 dL_told_130 ?_
      refine q_astore C [(8, .ref q3), (7, .int r2), (0, .ref (zB D.2)), (1, .ref x1), (2, .int x2), (3, .int x3), (4, .ref x4), (5, .int x5), (6, .int x6)] dL_told_131 (by decide) rfl ?_
      refine q_aload C dL_told_133 6 rfl ?_
      refine q_aload C dL_told_135 6 rfl ?_
      obtain ⟨y15, e16, h⟩ := h
      refine h_get C inX9g (ci := 8) rfl 3 (by decide) fl_L_88 rfl e16 dL_told_137 ?_
      refine q_aload C dL_told_140 0 rfl ?_
      obtain ⟨c17, s17, hc17, hs17, h⟩ := h
      refine p_callSQ C (fun _ h => h) [] (cX9_with_ok _ h) cf_L_92 st_X9_with rfl ⟨Nat.le_of_ble_eq_true rfl, Nat.le_of_ble_eq_true rfl⟩ ⟨by show cells + 1 + c17 ≤ bc0; omega, by show slots + (2 : Int32).toNatClampNeg + s17 ≤ bs0; omega⟩ List.perm_append_comm (fun H17 : gH => [] ++ hpW H17) (fun _ => List.perm_append_comm) (rest := [.ref x4]) rfl (Nat.le_of_ble_eq_true rfl) dL_told_142 (fun r17 H17 h => ?_)
      show Go D E A Q 13 (cells + 1 + c17) (slots + (2 : Int32).toNatClampNeg + s17) ([] ++ hpW H17) [(8, .ref q3), (7, .int r2), (0, .ref (zB D.2)), (1, .ref x1), (2, .int x2), (3, .int x3), (4, .ref x4), (5, .int x5), (6, .int x6)] 145 [.ref r17, .ref x4]
      obtain ⟨f18, e19, l20, h⟩ := h
      refine h_put C inX9g tyX9_ok nmX9 (ci := 8) rfl 3 (by decide) fl_L_88 rfl rfl (ty := (.array (.array .int))) (by decide +kernel) e19 l20 rfl rfl dL_told_145 ?_
      refine q_aload_n C dL_told_148 3 rfl ?_
      refine q_ldcK (i := 36) C (C.strR (i := 36) (Nat.le_of_ble_eq_true rfl)) dL_told_149 ?_
      obtain ⟨⟨fs9, hr9⟩, h⟩ := h
      obtain ⟨c21, s21, hc21, hs21, h⟩ := h
      refine p_callVQ C (fun _ h => h) [] (chJ4_append_15ec4_ok _ h) cf_L_75 im_J4_append_15ec4 se_J4_append_15ec4 (hRv_h (q := (RJ4, TJ4, 4)) hr9 rfl) rfl ⟨Nat.le_of_ble_eq_true rfl, Nat.le_of_ble_eq_true rfl⟩ ⟨by show cells + 1 + c17 + c21 ≤ bc0; omega, by show slots + (2 : Int32).toNatClampNeg + s17 + s21 ≤ bs0; omega⟩ List.perm_append_comm (fun H21 : gH => [] ++ hpW H21) (fun _ => List.perm_append_comm) (rest := []) rfl (Nat.le_of_ble_eq_true rfl) dL_told_151 (fun r21 H21 h => ?_)
      show Go D E A Q 13 (cells + 1 + c17 + c21) (slots + (2 : Int32).toNatClampNeg + s17 + s21) ([] ++ hpW H21) [(8, .ref q3), (7, .int r2), (0, .ref (zB D.2)), (1, .ref x1), (2, .int x2), (3, .int x3), (4, .ref x4), (5, .int x5), (6, .int x6)] 154 [.ref r21]
      refine q_iload C dL_told_154 8 rfl ?_
      obtain ⟨⟨fs9, hr9⟩, h⟩ := h
      obtain ⟨c22, s22, hc22, hs22, h⟩ := h
      refine p_callVQ C (fun _ h => h) [] (chJ4_append_bf812_ok _ h) cf_L_81 im_J4_append_bf812 se_J4_append_bf812 (hRv_h (q := (RJ4, TJ4, 4)) hr9 rfl) rfl ⟨Nat.le_of_ble_eq_true rfl, Nat.le_of_ble_eq_true rfl⟩ ⟨by show cells + 1 + c17 + c21 + c22 ≤ bc0; omega, by show slots + (2 : Int32).toNatClampNeg + s17 + s21 + s22 ≤ bs0; omega⟩ List.perm_append_comm (fun H22 : gH => [] ++ hpW H22) (fun _ => List.perm_append_comm) (rest := []) rfl (Nat.le_of_ble_eq_true rfl) dL_told_156 (fun r22 H22 h => ?_)
      show Go D E A Q 13 (cells + 1 + c17 + c21 + c22) (slots + (2 : Int32).toNatClampNeg + s17 + s21 + s22) ([] ++ hpW H22) [(8, .ref q3), (7, .int r2), (0, .ref (zB D.2)), (1, .ref x1), (2, .int x2), (3, .int x3), (4, .ref x4), (5, .int x5), (6, .int x6)] 159 [.ref r22]
      refine q_ldcK (i := 37) C (C.strR (i := 37) (Nat.le_of_ble_eq_true rfl)) dL_told_159 ?_
      obtain ⟨⟨fs9, hr9⟩, h⟩ := h
      obtain ⟨c23, s23, hc23, hs23, h⟩ := h
      refine p_callVQ C (fun _ h => h) [] (chJ4_append_15ec4_ok _ h) cf_L_75 im_J4_append_15ec4 se_J4_append_15ec4 (hRv_h (q := (RJ4, TJ4, 4)) hr9 rfl) rfl ⟨Nat.le_of_ble_eq_true rfl, Nat.le_of_ble_eq_true rfl⟩ ⟨by show cells + 1 + c17 + c21 + c22 + c23 ≤ bc0; omega, by show slots + (2 : Int32).toNatClampNeg + s17 + s21 + s22 + s23 ≤ bs0; omega⟩ List.perm_append_comm (fun H23 : gH => [] ++ hpW H23) (fun _ => List.perm_append_comm) (rest := []) rfl (Nat.le_of_ble_eq_true rfl) dL_told_161 (fun r23 H23 h => ?_)
      show Go D E A Q 13 (cells + 1 + c17 + c21 + c22 + c23) (slots + (2 : Int32).toNatClampNeg + s17 + s21 + s22 + s23) ([] ++ hpW H23) [(8, .ref q3), (7, .int r2), (0, .ref (zB D.2)), (1, .ref x1), (2, .int x2), (3, .int x3), (4, .ref x4), (5, .int x5), (6, .int x6)] 164 [.ref r23]
      refine q_aload C dL_told_164 0 rfl ?_
      refine q_iconst C (v := 0) dL_told_166 (by decide) ?_
      obtain ⟨n24, f25, e26, i27, h⟩ := h
      refine h_iald C e26 i27 dL_told_167 ?_
      obtain ⟨⟨fs9, hr9⟩, h⟩ := h
      obtain ⟨c28, s28, hc28, hs28, h⟩ := h
      refine p_callVQ C (fun _ h => h) [] (chJ4_append_bf812_ok _ h) cf_L_81 im_J4_append_bf812 se_J4_append_bf812 (hRv_h (q := (RJ4, TJ4, 4)) hr9 rfl) rfl ⟨Nat.le_of_ble_eq_true rfl, Nat.le_of_ble_eq_true rfl⟩ ⟨by show cells + 1 + c17 + c21 + c22 + c23 + c28 ≤ bc0; omega, by show slots + (2 : Int32).toNatClampNeg + s17 + s21 + s22 + s23 + s28 ≤ bs0; omega⟩ List.perm_append_comm (fun H28 : gH => [] ++ hpW H28) (fun _ => List.perm_append_comm) (rest := []) rfl (Nat.le_of_ble_eq_true rfl) dL_told_168 (fun r28 H28 h => ?_)
      show Go D E A Q 13 (cells + 1 + c17 + c21 + c22 + c23 + c28) (slots + (2 : Int32).toNatClampNeg + s17 + s21 + s22 + s23 + s28) ([] ++ hpW H28) [(8, .ref q3), (7, .int r2), (0, .ref (zB D.2)), (1, .ref x1), (2, .int x2), (3, .int x3), (4, .ref x4), (5, .int x5), (6, .int x6)] 171 [.ref r28]
      refine q_ldcK (i := 38) C (C.strR (i := 38) (Nat.le_of_ble_eq_true rfl)) dL_told_171 ?_
      obtain ⟨⟨fs9, hr9⟩, h⟩ := h
      obtain ⟨c29, s29, hc29, hs29, h⟩ := h
      refine p_callVQ C (fun _ h => h) [] (chJ4_append_15ec4_ok _ h) cf_L_75 im_J4_append_15ec4 se_J4_append_15ec4 (hRv_h (q := (RJ4, TJ4, 4)) hr9 rfl) rfl ⟨Nat.le_of_ble_eq_true rfl, Nat.le_of_ble_eq_true rfl⟩ ⟨by show cells + 1 + c17 + c21 + c22 + c23 + c28 + c29 ≤ bc0; omega, by show slots + (2 : Int32).toNatClampNeg + s17 + s21 + s22 + s23 + s28 + s29 ≤ bs0; omega⟩ List.perm_append_comm (fun H29 : gH => [] ++ hpW H29) (fun _ => List.perm_append_comm) (rest := []) rfl (Nat.le_of_ble_eq_true rfl) dL_told_173 (fun r29 H29 h => ?_)
      show Go D E A Q 13 (cells + 1 + c17 + c21 + c22 + c23 + c28 + c29) (slots + (2 : Int32).toNatClampNeg + s17 + s21 + s22 + s23 + s28 + s29) ([] ++ hpW H29) [(8, .ref q3), (7, .int r2), (0, .ref (zB D.2)), (1, .ref x1), (2, .int x2), (3, .int x3), (4, .ref x4), (5, .int x5), (6, .int x6)] 176 [.ref r29]
      refine q_aload C dL_told_176 0 rfl ?_
      refine q_iconst C (v := 1) dL_told_178 (by decide) ?_
      obtain ⟨n30, f31, e32, i33, h⟩ := h
      refine h_iald C e32 i33 dL_told_179 ?_
      obtain ⟨⟨fs9, hr9⟩, h⟩ := h
      obtain ⟨c34, s34, hc34, hs34, h⟩ := h
      refine p_callVQ C (fun _ h => h) [] (chJ4_append_bf812_ok _ h) cf_L_81 im_J4_append_bf812 se_J4_append_bf812 (hRv_h (q := (RJ4, TJ4, 4)) hr9 rfl) rfl ⟨Nat.le_of_ble_eq_true rfl, Nat.le_of_ble_eq_true rfl⟩ ⟨by show cells + 1 + c17 + c21 + c22 + c23 + c28 + c29 + c34 ≤ bc0; omega, by show slots + (2 : Int32).toNatClampNeg + s17 + s21 + s22 + s23 + s28 + s29 + s34 ≤ bs0; omega⟩ List.perm_append_comm (fun H34 : gH => [] ++ hpW H34) (fun _ => List.perm_append_comm) (rest := []) rfl (Nat.le_of_ble_eq_true rfl) dL_told_180 (fun r34 H34 h => ?_)
      show Go D E A Q 13 (cells + 1 + c17 + c21 + c22 + c23 + c28 + c29 + c34) (slots + (2 : Int32).toNatClampNeg + s17 + s21 + s22 + s23 + s28 + s29 + s34) ([] ++ hpW H34) [(8, .ref q3), (7, .int r2), (0, .ref (zB D.2)), (1, .ref x1), (2, .int x2), (3, .int x3), (4, .ref x4), (5, .int x5), (6, .int x6)] 183 [.ref r34]
      refine q_ldcK (i := 39) C (C.strR (i := 39) (Nat.le_of_ble_eq_true rfl)) dL_told_183 ?_
      obtain ⟨⟨fs9, hr9⟩, h⟩ := h
      obtain ⟨c35, s35, hc35, hs35, h⟩ := h
      refine p_callVQ C (fun _ h => h) [] (chJ4_append_15ec4_ok _ h) cf_L_75 im_J4_append_15ec4 se_J4_append_15ec4 (hRv_h (q := (RJ4, TJ4, 4)) hr9 rfl) rfl ⟨Nat.le_of_ble_eq_true rfl, Nat.le_of_ble_eq_true rfl⟩ ⟨by show cells + 1 + c17 + c21 + c22 + c23 + c28 + c29 + c34 + c35 ≤ bc0; omega, by show slots + (2 : Int32).toNatClampNeg + s17 + s21 + s22 + s23 + s28 + s29 + s34 + s35 ≤ bs0; omega⟩ List.perm_append_comm (fun H35 : gH => [] ++ hpW H35) (fun _ => List.perm_append_comm) (rest := []) rfl (Nat.le_of_ble_eq_true rfl) dL_told_185 (fun r35 H35 h => ?_)
      show Go D E A Q 13 (cells + 1 + c17 + c21 + c22 + c23 + c28 + c29 + c34 + c35) (slots + (2 : Int32).toNatClampNeg + s17 + s21 + s22 + s23 + s28 + s29 + s34 + s35) ([] ++ hpW H35) [(8, .ref q3), (7, .int r2), (0, .ref (zB D.2)), (1, .ref x1), (2, .int x2), (3, .int x3), (4, .ref x4), (5, .int x5), (6, .int x6)] 188 [.ref r35]
      refine q_pop C dL_told_188 rfl ?_
      refine q_iinc C (v := x6 + 1) [(6, .int (x6 + 1)), (8, .ref q3), (7, .int r2), (0, .ref (zB D.2)), (1, .ref x1), (2, .int x2), (3, .int x3), (4, .ref x4), (5, .int x5)] dL_told_189 8 rfl rfl (by decide) rfl ?_
      refine q_goto (tgt := 74) C dL_told_192 (by decide) ?_
      refine q_ls [(0, .ref (zB D.2)), (1, .ref x1), (2, .int x2), (3, .int x3), (4, .ref x4), (5, .int x5), (6, .int (x6 + 1))] [3, 4, 5, 6, 7, 8, 0] rfl ?_
      exact ih (cells + 1 + c17 + c21 + c22 + c23 + c28 + c29 + c34 + c35) (slots + (2 : Int32).toNatClampNeg + s17 + s21 + s22 + s23 + s28 + s29 + s34 + s35) _ _ _ _ _ _ _ _ _ (by omega) (by omega) h
set_option maxRecDepth 100000 in
def wL_told (Z : gZ) (H : gH) (bc : Nat) (bs : Nat) (p1 : Nat) (K : Nat → gH → Prop) : Prop :=
  wL_cell Z H 0 (fun r1 => wL_below Z H r1 6 (fun r2 => wL_cell Z H 0 (fun r3 => wL_below Z H (r3 >>> (4 &&& 31)) 9 (fun r4 => ∃ (c5 s5 : Nat), c5 ≤ bc ∧ s5 ≤ bs ∧ wX9_of Z H c5 s5 (2 + r2) (2 + r4) (fun r5 H5 => (∃ fs, hpG H5 p1 = some (.inr (11, fs))) ∧ ∃ (c6 s6 : Nat), c6 ≤ (bc - c5) ∧ s6 ≤ (bs - s5) ∧ whJ4_append_15ec4 Z H5 c6 s6 p1 (Z.1 33) (fun r6 H6 => (∃ fs, hpG H6 r6 = some (.inr (11, fs))) ∧ ∃ (c7 s7 : Nat), c7 ≤ ((bc - c5) - c6) ∧ s7 ≤ ((bs - s5) - s6) ∧ whJ4_append_bf812 Z H6 c7 s7 r6 (2 + r2) (fun r7 H7 => (∃ fs, hpG H7 r7 = some (.inr (11, fs))) ∧ ∃ (c8 s8 : Nat), c8 ≤ (((bc - c5) - c6) - c7) ∧ s8 ≤ (((bs - s5) - s6) - s7) ∧ whJ4_append_15ec4 Z H7 c8 s8 r7 (Z.1 34) (fun r8 H8 => (∃ fs, hpG H8 r8 = some (.inr (11, fs))) ∧ ∃ (c9 s9 : Nat), c9 ≤ ((((bc - c5) - c6) - c7) - c8) ∧ s9 ≤ ((((bs - s5) - s6) - s7) - s8) ∧ whJ4_append_bf812 Z H8 c9 s9 r8 (2 + r4) (fun r9 H9 => (∃ fs, hpG H9 r9 = some (.inr (11, fs))) ∧ ∃ (c10 s10 : Nat), c10 ≤ (((((bc - c5) - c6) - c7) - c8) - c9) ∧ s10 ≤ (((((bs - s5) - s6) - s7) - s8) - s9) ∧ whJ4_append_15ec4 Z H9 c10 s10 r9 (Z.1 35) (fun r10 H10 => wL_cell Z H10 1 (fun r11 => wL_below Z H10 r11 4 (fun r12 => ∃ k9 : Nat, wL_told_74 K Z k9 H10 ((((((bc - c5) - c6) - c7) - c8) - c9) - c10) ((((((bs - s5) - s6) - s7) - s8) - s9) - s10) p1 (2 + r2) (2 + r4) r5 r12 0))))))))))))
set_option maxRecDepth 100000 in
set_option maxHeartbeats 4000000 in
theorem bL_told {D : gD} {E : gE} {A : Nat → Prop} {Q : State → Prop} {bc0 bs0 : Nat} (C : CL D E (rmL_told bc0 bs0) cL_told 13 RL A) {K : Nat → gH → Prop} (hret : ∀ (r : Nat) (H : gH) (pc : Nat) (ls : List (Nat × Value)), K r H → decode cL_told pc = .ok (.areturn, 1) → Go D E A Q 13 bc0 bs0 ([] ++ hpW H) ls pc [.ref r]) (cells slots : Nat) (H : gH) (bc : Nat) (bs : Nat) (p1 : Nat) (hbc : cells + bc ≤ bc0) (hbs : slots + bs ≤ bs0) (h : wL_told D.2 H bc bs p1 K) : Go D E A Q 13 cells slots ([] ++ hpW H) [(0, .ref (zB D.2)), (1, .ref p1)] 0 [] := by
  unfold wL_told at h
  refine q_iconst C (v := 2) dL_told_0 (by decide) ?_
  refine q_aload_n C dL_told_1 0 rfl ?_
  refine q_iconst C (v := 0) dL_told_2 (by decide) ?_
  refine p_callSI C (fun _ h => h) [] (cL_cell_ok _ h) cf_L_63 st_L_cell rfl ⟨Nat.le_of_ble_eq_true rfl, Nat.le_of_ble_eq_true rfl⟩ ⟨by show cells + 0 ≤ bc0; omega, by show slots + 0 ≤ bs0; omega⟩ List.perm_append_comm (fun _ : Unit => [] ++ hpW H) (fun _ => List.perm_append_comm) (rest := [.int 2]) rfl (Nat.le_of_ble_eq_true rfl) dL_told_3 (fun r1 _ h => ?_)
  show Go D E A Q 13 cells slots ([] ++ hpW H) [(0, .ref (zB D.2)), (1, .ref p1)] 6 [.int r1, .int 2]
  refine q_bipush C (v := 6) dL_told_6 (by decide) ?_
  refine p_callSI C (fun _ h => h) [] (cL_below_ok _ h) cf_L_35 st_L_below rfl ⟨Nat.le_of_ble_eq_true rfl, Nat.le_of_ble_eq_true rfl⟩ ⟨by show cells + 0 ≤ bc0; omega, by show slots + 0 ≤ bs0; omega⟩ List.perm_append_comm (fun _ : Unit => [] ++ hpW H) (fun _ => List.perm_append_comm) (rest := [.int 2]) rfl (Nat.le_of_ble_eq_true rfl) dL_told_8 (fun r2 _ h => ?_)
  show Go D E A Q 13 cells slots ([] ++ hpW H) [(0, .ref (zB D.2)), (1, .ref p1)] 11 [.int r2, .int 2]
  refine q_iadd C dL_told_11 ?_
  refine q_istore_n C [(2, .int (2 + r2)), (0, .ref (zB D.2)), (1, .ref p1)] dL_told_12 (by decide) rfl ?_
  refine q_iconst C (v := 2) dL_told_13 (by decide) ?_
  refine q_aload_n C dL_told_14 1 rfl ?_
  refine q_iconst C (v := 0) dL_told_15 (by decide) ?_
  refine p_callSI C (fun _ h => h) [] (cL_cell_ok _ h) cf_L_63 st_L_cell rfl ⟨Nat.le_of_ble_eq_true rfl, Nat.le_of_ble_eq_true rfl⟩ ⟨by show cells + 0 ≤ bc0; omega, by show slots + 0 ≤ bs0; omega⟩ List.perm_append_comm (fun _ : Unit => [] ++ hpW H) (fun _ => List.perm_append_comm) (rest := [.int 2]) rfl (Nat.le_of_ble_eq_true rfl) dL_told_16 (fun r3 _ h => ?_)
  show Go D E A Q 13 cells slots ([] ++ hpW H) [(2, .int (2 + r2)), (0, .ref (zB D.2)), (1, .ref p1)] 19 [.int r3, .int 2]
  refine q_iconst C (v := 4) dL_told_19 (by decide) ?_
  refine q_ishr C dL_told_20 ?_
  refine q_bipush C (v := 9) dL_told_21 (by decide) ?_
  refine p_callSI C (fun _ h => h) [] (cL_below_ok _ h) cf_L_35 st_L_below rfl ⟨Nat.le_of_ble_eq_true rfl, Nat.le_of_ble_eq_true rfl⟩ ⟨by show cells + 0 ≤ bc0; omega, by show slots + 0 ≤ bs0; omega⟩ List.perm_append_comm (fun _ : Unit => [] ++ hpW H) (fun _ => List.perm_append_comm) (rest := [.int 2]) rfl (Nat.le_of_ble_eq_true rfl) dL_told_23 (fun r4 _ h => ?_)
  show Go D E A Q 13 cells slots ([] ++ hpW H) [(2, .int (2 + r2)), (0, .ref (zB D.2)), (1, .ref p1)] 26 [.int r4, .int 2]
  refine q_iadd C dL_told_26 ?_
  refine q_istore_n C [(3, .int (2 + r4)), (2, .int (2 + r2)), (0, .ref (zB D.2)), (1, .ref p1)] dL_told_27 (by decide) rfl ?_
  refine q_iload_n C dL_told_28 1 rfl ?_
  refine q_iload_n C dL_told_29 0 rfl ?_
  obtain ⟨c5, s5, hc5, hs5, h⟩ := h
  refine p_callSQ C (fun _ h => h) [] (cX9_of_ok _ h) cf_L_67 st_X9_of rfl ⟨Nat.le_of_ble_eq_true rfl, Nat.le_of_ble_eq_true rfl⟩ ⟨by show cells + c5 ≤ bc0; omega, by show slots + s5 ≤ bs0; omega⟩ List.perm_append_comm (fun H5 : gH => [] ++ hpW H5) (fun _ => List.perm_append_comm) (rest := []) rfl (Nat.le_of_ble_eq_true rfl) dL_told_30 (fun r5 H5 h => ?_)
  show Go D E A Q 13 (cells + c5) (slots + s5) ([] ++ hpW H5) [(3, .int (2 + r4)), (2, .int (2 + r2)), (0, .ref (zB D.2)), (1, .ref p1)] 33 [.ref r5]
  refine q_astore C [(4, .ref r5), (3, .int (2 + r4)), (2, .int (2 + r2)), (0, .ref (zB D.2)), (1, .ref p1)] dL_told_33 (by decide) rfl ?_
  refine q_aload_n C dL_told_35 4 rfl ?_
  refine q_ldcK (i := 33) C (C.strR (i := 33) (Nat.le_of_ble_eq_true rfl)) dL_told_36 ?_
  obtain ⟨⟨fs9, hr9⟩, h⟩ := h
  obtain ⟨c6, s6, hc6, hs6, h⟩ := h
  refine p_callVQ C (fun _ h => h) [] (chJ4_append_15ec4_ok _ h) cf_L_75 im_J4_append_15ec4 se_J4_append_15ec4 (hRv_h (q := (RJ4, TJ4, 4)) hr9 rfl) rfl ⟨Nat.le_of_ble_eq_true rfl, Nat.le_of_ble_eq_true rfl⟩ ⟨by show cells + c5 + c6 ≤ bc0; omega, by show slots + s5 + s6 ≤ bs0; omega⟩ List.perm_append_comm (fun H6 : gH => [] ++ hpW H6) (fun _ => List.perm_append_comm) (rest := []) rfl (Nat.le_of_ble_eq_true rfl) dL_told_38 (fun r6 H6 h => ?_)
  show Go D E A Q 13 (cells + c5 + c6) (slots + s5 + s6) ([] ++ hpW H6) [(4, .ref r5), (3, .int (2 + r4)), (2, .int (2 + r2)), (0, .ref (zB D.2)), (1, .ref p1)] 41 [.ref r6]
  refine q_iload_n C dL_told_41 2 rfl ?_
  obtain ⟨⟨fs9, hr9⟩, h⟩ := h
  obtain ⟨c7, s7, hc7, hs7, h⟩ := h
  refine p_callVQ C (fun _ h => h) [] (chJ4_append_bf812_ok _ h) cf_L_81 im_J4_append_bf812 se_J4_append_bf812 (hRv_h (q := (RJ4, TJ4, 4)) hr9 rfl) rfl ⟨Nat.le_of_ble_eq_true rfl, Nat.le_of_ble_eq_true rfl⟩ ⟨by show cells + c5 + c6 + c7 ≤ bc0; omega, by show slots + s5 + s6 + s7 ≤ bs0; omega⟩ List.perm_append_comm (fun H7 : gH => [] ++ hpW H7) (fun _ => List.perm_append_comm) (rest := []) rfl (Nat.le_of_ble_eq_true rfl) dL_told_42 (fun r7 H7 h => ?_)
  show Go D E A Q 13 (cells + c5 + c6 + c7) (slots + s5 + s6 + s7) ([] ++ hpW H7) [(4, .ref r5), (3, .int (2 + r4)), (2, .int (2 + r2)), (0, .ref (zB D.2)), (1, .ref p1)] 45 [.ref r7]
  refine q_ldcK (i := 34) C (C.strR (i := 34) (Nat.le_of_ble_eq_true rfl)) dL_told_45 ?_
  obtain ⟨⟨fs9, hr9⟩, h⟩ := h
  obtain ⟨c8, s8, hc8, hs8, h⟩ := h
  refine p_callVQ C (fun _ h => h) [] (chJ4_append_15ec4_ok _ h) cf_L_75 im_J4_append_15ec4 se_J4_append_15ec4 (hRv_h (q := (RJ4, TJ4, 4)) hr9 rfl) rfl ⟨Nat.le_of_ble_eq_true rfl, Nat.le_of_ble_eq_true rfl⟩ ⟨by show cells + c5 + c6 + c7 + c8 ≤ bc0; omega, by show slots + s5 + s6 + s7 + s8 ≤ bs0; omega⟩ List.perm_append_comm (fun H8 : gH => [] ++ hpW H8) (fun _ => List.perm_append_comm) (rest := []) rfl (Nat.le_of_ble_eq_true rfl) dL_told_47 (fun r8 H8 h => ?_)
  show Go D E A Q 13 (cells + c5 + c6 + c7 + c8) (slots + s5 + s6 + s7 + s8) ([] ++ hpW H8) [(4, .ref r5), (3, .int (2 + r4)), (2, .int (2 + r2)), (0, .ref (zB D.2)), (1, .ref p1)] 50 [.ref r8]
  refine q_iload_n C dL_told_50 1 rfl ?_
  obtain ⟨⟨fs9, hr9⟩, h⟩ := h
  obtain ⟨c9, s9, hc9, hs9, h⟩ := h
  refine p_callVQ C (fun _ h => h) [] (chJ4_append_bf812_ok _ h) cf_L_81 im_J4_append_bf812 se_J4_append_bf812 (hRv_h (q := (RJ4, TJ4, 4)) hr9 rfl) rfl ⟨Nat.le_of_ble_eq_true rfl, Nat.le_of_ble_eq_true rfl⟩ ⟨by show cells + c5 + c6 + c7 + c8 + c9 ≤ bc0; omega, by show slots + s5 + s6 + s7 + s8 + s9 ≤ bs0; omega⟩ List.perm_append_comm (fun H9 : gH => [] ++ hpW H9) (fun _ => List.perm_append_comm) (rest := []) rfl (Nat.le_of_ble_eq_true rfl) dL_told_51 (fun r9 H9 h => ?_)
  show Go D E A Q 13 (cells + c5 + c6 + c7 + c8 + c9) (slots + s5 + s6 + s7 + s8 + s9) ([] ++ hpW H9) [(4, .ref r5), (3, .int (2 + r4)), (2, .int (2 + r2)), (0, .ref (zB D.2)), (1, .ref p1)] 54 [.ref r9]
  refine q_ldcK (i := 35) C (C.strR (i := 35) (Nat.le_of_ble_eq_true rfl)) dL_told_54 ?_
  obtain ⟨⟨fs9, hr9⟩, h⟩ := h
  obtain ⟨c10, s10, hc10, hs10, h⟩ := h
  refine p_callVQ C (fun _ h => h) [] (chJ4_append_15ec4_ok _ h) cf_L_75 im_J4_append_15ec4 se_J4_append_15ec4 (hRv_h (q := (RJ4, TJ4, 4)) hr9 rfl) rfl ⟨Nat.le_of_ble_eq_true rfl, Nat.le_of_ble_eq_true rfl⟩ ⟨by show cells + c5 + c6 + c7 + c8 + c9 + c10 ≤ bc0; omega, by show slots + s5 + s6 + s7 + s8 + s9 + s10 ≤ bs0; omega⟩ List.perm_append_comm (fun H10 : gH => [] ++ hpW H10) (fun _ => List.perm_append_comm) (rest := []) rfl (Nat.le_of_ble_eq_true rfl) dL_told_56 (fun r10 H10 h => ?_)
  show Go D E A Q 13 (cells + c5 + c6 + c7 + c8 + c9 + c10) (slots + s5 + s6 + s7 + s8 + s9 + s10) ([] ++ hpW H10) [(4, .ref r5), (3, .int (2 + r4)), (2, .int (2 + r2)), (0, .ref (zB D.2)), (1, .ref p1)] 59 [.ref r10]
  refine q_pop C dL_told_59 rfl ?_
  refine q_aload_n C dL_told_60 3 rfl ?_
  refine q_iconst C (v := 1) dL_told_61 (by decide) ?_
  refine p_callSI C (fun _ h => h) [] (cL_cell_ok _ h) cf_L_63 st_L_cell rfl ⟨Nat.le_of_ble_eq_true rfl, Nat.le_of_ble_eq_true rfl⟩ ⟨by show cells + c5 + c6 + c7 + c8 + c9 + c10 + 0 ≤ bc0; omega, by show slots + s5 + s6 + s7 + s8 + s9 + s10 + 0 ≤ bs0; omega⟩ List.perm_append_comm (fun _ : Unit => [] ++ hpW H10) (fun _ => List.perm_append_comm) (rest := []) rfl (Nat.le_of_ble_eq_true rfl) dL_told_62 (fun r11 _ h => ?_)
  show Go D E A Q 13 (cells + c5 + c6 + c7 + c8 + c9 + c10) (slots + s5 + s6 + s7 + s8 + s9 + s10) ([] ++ hpW H10) [(4, .ref r5), (3, .int (2 + r4)), (2, .int (2 + r2)), (0, .ref (zB D.2)), (1, .ref p1)] 65 [.int r11]
  refine q_iconst C (v := 4) dL_told_65 (by decide) ?_
  refine p_callSI C (fun _ h => h) [] (cL_below_ok _ h) cf_L_35 st_L_below rfl ⟨Nat.le_of_ble_eq_true rfl, Nat.le_of_ble_eq_true rfl⟩ ⟨by show cells + c5 + c6 + c7 + c8 + c9 + c10 + 0 ≤ bc0; omega, by show slots + s5 + s6 + s7 + s8 + s9 + s10 + 0 ≤ bs0; omega⟩ List.perm_append_comm (fun _ : Unit => [] ++ hpW H10) (fun _ => List.perm_append_comm) (rest := []) rfl (Nat.le_of_ble_eq_true rfl) dL_told_66 (fun r12 _ h => ?_)
  show Go D E A Q 13 (cells + c5 + c6 + c7 + c8 + c9 + c10) (slots + s5 + s6 + s7 + s8 + s9 + s10) ([] ++ hpW H10) [(4, .ref r5), (3, .int (2 + r4)), (2, .int (2 + r2)), (0, .ref (zB D.2)), (1, .ref p1)] 69 [.int r12]
  refine q_istore C [(5, .int r12), (4, .ref r5), (3, .int (2 + r4)), (2, .int (2 + r2)), (0, .ref (zB D.2)), (1, .ref p1)] dL_told_69 (by decide) rfl ?_
  refine q_iconst C (v := 0) dL_told_71 (by decide) ?_
  refine q_istore C [(6, .int 0), (5, .int r12), (4, .ref r5), (3, .int (2 + r4)), (2, .int (2 + r2)), (0, .ref (zB D.2)), (1, .ref p1)] dL_told_72 (by decide) rfl ?_
  refine q_ls [(0, .ref (zB D.2)), (1, .ref p1), (2, .int (2 + r2)), (3, .int (2 + r4)), (4, .ref r5), (5, .int r12), (6, .int 0)] [5, 6, 4, 3, 2, 1, 0] rfl ?_
  obtain ⟨nw, h⟩ := h
  exact bL_told_74 C  hret  nw (cells + c5 + c6 + c7 + c8 + c9 + c10) (slots + s5 + s6 + s7 + s8 + s9 + s10) _ _ _ _ _ _ _ _ _ (by omega) (by omega) h
theorem cL_told_ok (l : Launch) {D : gD} {H : gH} {bc : Nat} {bs : Nat} {p1 : Nat} {K : Nat → gH → Prop} (h : wL_told D.2 H bc bs p1 K) : CtQ l D (gU (zY D.2)) yL_told cL_told 13 (.object "SofaDigLaw$Sim") (rmL_told bc bs) [.ref (zB D.2), .ref p1] ([] ++ hpW H) (fun u : gH => [] ++ hpW u) (fun r u => K r u) :=
  ct_startQ (Or.inl ⟨_, rfl⟩) (by decide +kernel) (Nat.le_of_ble_eq_true rfl) (fun E A Q hE C hret => bL_told C (fun r H pc ls hk hd => hret r H pc ls hk hd) 0 0 _ _ _ _ (by omega) (by omega) h)
