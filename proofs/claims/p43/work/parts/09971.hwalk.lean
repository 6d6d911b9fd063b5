abbrev rmX9_found : Room := { frames := 0, cells := 0, slots := 0, locals := 0 }
def wX9_found_41 (K : Int32 → Prop) (KL14 : Int32 → Int32 → Nat → Int32 → Int32 → Prop) (Z : gZ) (H : gH) (x1 : Int32) (x3 : Nat) (x4 : Int32) (x5 : Int32) (z0 : Int32) (z1 : Int32) : Prop :=
  KL14 x1 (z1 + z0) x3 x4 (x5 + 1)
set_option maxRecDepth 100000 in
set_option maxHeartbeats 4000000 in
theorem bX9_found_41 {D : gD} {E : gE} {A : Nat → Prop} {Q : State → Prop} {H : gH} (C : CL D E rmX9_found cX9_found 7 RX9 A) {K : Int32 → Prop} (hret : ∀ (r : Int32) (pc : Nat) (ls : List (Nat × Value)), K r → decode cX9_found pc = .ok (.ireturn, 1) → Go D E A Q 7 0 0 ([] ++ hpW H) ls pc [.int r]) {KL14 : Int32 → Int32 → Nat → Int32 → Int32 → Prop} (hKL14 : ∀ (x1 : Int32) (x2 : Int32) (x3 : Nat) (x4 : Int32) (x5 : Int32), KL14 x1 x2 x3 x4 x5 → Go D E A Q 7 0 0 ([] ++ hpW H) [(1, .int x1), (2, .int x2), (3, .ref x3), (4, .int x4), (5, .int x5)] 14 []) : ∀ (x1 : Int32) (x3 : Nat) (x4 : Int32) (x5 : Int32) (z0 : Int32) (z1 : Int32), wX9_found_41 K KL14 D.2 H x1 x3 x4 x5 z0 z1 → Go D E A Q 7 0 0 ([] ++ hpW H) [(1, .int x1), (3, .ref x3), (4, .int x4), (5, .int x5)] 41 [.int z0, .int z1] := by
  intro x1 x3 x4 x5 z0 z1 h
  unfold wX9_found_41 at h
  refine q_iadd C dX9_found_41 ?_
  refine q_istore_n C [(2, .int (z1 + z0)), (1, .int x1), (3, .ref x3), (4, .int x4), (5, .int x5)] dX9_found_42 (by decide) rfl ?_
  refine q_iinc C (v := x5 + 1) [(5, .int (x5 + 1)), (2, .int (z1 + z0)), (1, .int x1), (3, .ref x3), (4, .int x4)] dX9_found_43 4 rfl rfl (by decide) rfl ?_
  refine q_goto (tgt := 14) C dX9_found_46 (by decide) ?_
  refine q_ls [(1, .int x1), (2, .int (z1 + z0)), (3, .ref x3), (4, .int x4), (5, .int (x5 + 1))] [2, 1, 3, 4, 0] rfl ?_
  exact hKL14 _ _ _ _ _ h
def wX9_found_14 (K : Int32 → Prop) (Z : gZ) (H : gH) : Nat → Int32 → Int32 → Nat → Int32 → Int32 → Prop
  | 0, _, _, _, _, _ => False
  | n + 1, x1, x2, x3, x4, x5 =>
  ((x4 ≤ x5 → K x2) ∧ (¬ x4 ≤ x5 → ∃ (n1 : Nat) (f2 : Nat → Option Nat) (y5 : Nat), hpG H x3 = some (qE (zY Z 4) n1 f2) ∧ vp_in x5 n1 ∧ f2 x5.toNatClampNeg = some y5 ∧ (∃ (n7 : Nat) (f8 : Nat → Int32), hpG H y5 = some (iE (zY Z 1) n7 f8) ∧ vp_in 3 n7 ∧ (((f8 (3 : Int32).toNatClampNeg < x1 → wX9_found_41 K (wX9_found_14 K Z H n) Z H x1 x3 x4 x5 0 x2) ∧ (¬ f8 (3 : Int32).toNatClampNeg < x1 → wX9_found_41 K (wX9_found_14 K Z H n) Z H x1 x3 x4 x5 1 x2))))))
set_option maxRecDepth 100000 in
set_option maxHeartbeats 4000000 in
theorem bX9_found_14 {D : gD} {E : gE} {A : Nat → Prop} {Q : State → Prop} {H : gH} (C : CL D E rmX9_found cX9_found 7 RX9 A) {K : Int32 → Prop} (hret : ∀ (r : Int32) (pc : Nat) (ls : List (Nat × Value)), K r → decode cX9_found pc = .ok (.ireturn, 1) → Go D E A Q 7 0 0 ([] ++ hpW H) ls pc [.int r]) : ∀ (n : Nat) (x1 : Int32) (x2 : Int32) (x3 : Nat) (x4 : Int32) (x5 : Int32), wX9_found_14 K D.2 H n x1 x2 x3 x4 x5 → Go D E A Q 7 0 0 ([] ++ hpW H) [(1, .int x1), (2, .int x2), (3, .ref x3), (4, .int x4), (5, .int x5)] 14 [] := by
  intro n
  induction n with
  | zero =>
    intro x1 x2 x3 x4 x5 h
    exact h.elim
  | succ n ih =>
    intro x1 x2 x3 x4 x5 h
    unfold wX9_found_14 at h
    refine q_iload C dX9_found_14 4 rfl ?_
    refine q_iload C dX9_found_16 3 rfl ?_
    refine q_icmp_ge C 49 dX9_found_18 (by decide) h (fun h => ?_) (fun h => ?_)
    · refine q_iload_n C dX9_found_49 1 rfl ?_
      exact hret x2 _ _ h dX9_found_50
    · refine q_aload_n C dX9_found_21 2 rfl ?_
      refine q_iload C dX9_found_22 4 rfl ?_
      obtain ⟨n1, f2, y5, e3, i4, g6, h⟩ := h
      refine h_aldR C 4 rfl rfl e3 i4 g6 dX9_found_24 ?_
      refine q_astore C [(6, .ref y5), (1, .int x1), (2, .int x2), (3, .ref x3), (4, .int x4), (5, .int x5)] dX9_found_25 (by decide) rfl ?_
      refine q_iload_n C dX9_found_27 2 rfl ?_
      refine q_aload C dX9_found_28 0 rfl ?_
      refine q_iconst C (v := 3) dX9_found_30 (by decide) ?_
      obtain ⟨n7, f8, e9, i10, h⟩ := h
      refine h_iald C e9 i10 dX9_found_31 ?_
      refine q_iload_n C dX9_found_32 1 rfl ?_
      refine q_icmp_lt C 40 dX9_found_33 (by decide) h (fun h => ?_) (fun h => ?_)
      · refine q_iconst C (v := 0) dX9_found_40 (by decide) ?_
        refine q_ls [(1, .int x1), (3, .ref x3), (4, .int x4), (5, .int x5)] [1, 3, 4, 5] rfl ?_
        exact bX9_found_41 C (KL14 := (wX9_found_14 K D.2 H n)) hret ih _ _ _ _ _ _ h
      · refine q_iconst C (v := 1) dX9_found_36 (by decide) ?_
        refine q_goto (tgt := 41) C dX9_found_37 (by decide) ?_
        refine q_ls [(1, .int x1), (3, .ref x3), (4, .int x4), (5, .int x5)] [1, 3, 4, 5] rfl ?_
        exact bX9_found_41 C (KL14 := (wX9_found_14 K D.2 H n)) hret ih _ _ _ _ _ _ h
def wX9_found (Z : gZ) (H : gH) (p : Nat) (p0 : Int32) (K : Int32 → Prop) : Prop :=
  ∃ y1 : Nat, gF H p 8 2 (.ref y1) ∧ (∃ (n3 : Nat) (f4 : Nat → Option Nat), hpG H y1 = some (qE (zY Z 4) n3 f4) ∧ (∃ k9 : Nat, wX9_found_14 K Z H k9 p0 0 y1 (nI n3) 0))
set_option maxRecDepth 100000 in
set_option maxHeartbeats 4000000 in
theorem bX9_found {D : gD} {E : gE} {A : Nat → Prop} {Q : State → Prop} {H : gH} (C : CL D E rmX9_found cX9_found 7 RX9 A) {K : Int32 → Prop} (hret : ∀ (r : Int32) (pc : Nat) (ls : List (Nat × Value)), K r → decode cX9_found pc = .ok (.ireturn, 1) → Go D E A Q 7 0 0 ([] ++ hpW H) ls pc [.int r]) (p : Nat) (p0 : Int32) (h : wX9_found D.2 H p p0 K) : Go D E A Q 7 0 0 ([] ++ hpW H) [(0, .ref p), (1, .int p0)] 0 [] := by
  unfold wX9_found at h
  refine q_iconst C (v := 0) dX9_found_0 (by decide) ?_
  refine q_istore_n C [(2, .int 0), (0, .ref p), (1, .int p0)] dX9_found_1 (by decide) rfl ?_
  refine q_aload_n C dX9_found_2 1 rfl ?_
  obtain ⟨y1, e2, h⟩ := h
  refine h_get C inX9g (ci := 8) rfl 2 (by decide) fl_X9_21 rfl e2 dX9_found_3 ?_
  refine q_astore_n C [(3, .ref y1), (2, .int 0), (0, .ref p), (1, .int p0)] dX9_found_6 (by decide) rfl ?_
  refine q_aload_n C dX9_found_7 0 rfl ?_
  obtain ⟨n3, f4, e5, h⟩ := h
  refine h_alen C 4 rfl e5 dX9_found_8 ?_
  refine q_istore C [(4, .int (nI n3)), (3, .ref y1), (2, .int 0), (0, .ref p), (1, .int p0)] dX9_found_9 (by decide) rfl ?_
  refine q_iconst C (v := 0) dX9_found_11 (by decide) ?_
  refine q_istore C [(5, .int 0), (4, .int (nI n3)), (3, .ref y1), (2, .int 0), (0, .ref p), (1, .int p0)] dX9_found_12 (by decide) rfl ?_
  refine q_ls [(1, .int p0), (2, .int 0), (3, .ref y1), (4, .int (nI n3)), (5, .int 0)] [5, 3, 2, 1, 0] rfl ?_
  obtain ⟨nw, h⟩ := h
  exact bX9_found_14 C  hret  nw _ _ _ _ _ h
theorem cX9_found_ok (l : Launch) {D : gD} {H : gH} {p : Nat} {p0 : Int32} {K : Int32 → Prop} (h : wX9_found D.2 H p p0 K) : CtI l D (gU (zY D.2)) yX9_found cX9_found 7 .int rmX9_found [.ref p, .int p0] ([] ++ hpW H) (fun _ : Unit => [] ++ hpW H) (fun r _ => K r ) :=
  ct_startI (by decide +kernel) (Nat.le_of_ble_eq_true rfl) (fun E A Q hE C hret => bX9_found C (fun r pc ls hk hd => hret r () pc ls rfl hk hd) _ _ h)
abbrev rmX9_isSure : Room := { frames := 0, cells := 0, slots := 0, locals := 0 }
def wX9_isSure (Z : gZ) (H : gH) (p : Nat) (p0 : Int32) (K : Int32 → Prop) : Prop :=
  ((p0 < 0 → K 0) ∧ (¬ p0 < 0 → ∃ y1 : Nat, gF H p 8 2 (.ref y1) ∧ (∃ (n3 : Nat) (f4 : Nat → Option Nat), hpG H y1 = some (qE (zY Z 4) n3 f4) ∧ (((nI n3 ≤ p0 → K 0) ∧ (¬ nI n3 ≤ p0 → ∃ y6 : Nat, gF H p 8 2 (.ref y6) ∧ (∃ (n8 : Nat) (f9 : Nat → Option Nat) (y12 : Nat), hpG H y6 = some (qE (zY Z 4) n8 f9) ∧ vp_in p0 n8 ∧ f9 p0.toNatClampNeg = some y12 ∧ (∃ (n14 : Nat) (f15 : Nat → Int32), hpG H y12 = some (iE (zY Z 1) n14 f15) ∧ vp_in 3 n14 ∧ (((¬ f15 (3 : Int32).toNatClampNeg = 2 → K 0) ∧ (f15 (3 : Int32).toNatClampNeg = 2 → K 1)))))))))))
set_option maxRecDepth 100000 in
set_option maxHeartbeats 4000000 in
theorem bX9_isSure {D : gD} {E : gE} {A : Nat → Prop} {Q : State → Prop} {H : gH} (C : CL D E rmX9_isSure cX9_isSure 2 RX9 A) {K : Int32 → Prop} (hret : ∀ (r : Int32) (pc : Nat) (ls : List (Nat × Value)), narrow .boolean (.int r) = .int r → K r → decode cX9_isSure pc = .ok (.ireturn, 1) → Go D E A Q 2 0 0 ([] ++ hpW H) ls pc [.int r]) (p : Nat) (p0 : Int32) (h : wX9_isSure D.2 H p p0 K) : Go D E A Q 2 0 0 ([] ++ hpW H) [(0, .ref p), (1, .int p0)] 0 [] := by
  unfold wX9_isSure at h
  refine q_iload_n C dX9_isSure_0 1 rfl ?_
  refine q_if_lt C 29 dX9_isSure_1 (by decide) h (fun h => ?_) (fun h => ?_)
  · refine q_iconst C (v := 0) dX9_isSure_29 (by decide) ?_
    exact hret 0 _ _ rfl h dX9_isSure_30
  · refine q_iload_n C dX9_isSure_4 1 rfl ?_
    refine q_aload_n C dX9_isSure_5 0 rfl ?_
    obtain ⟨y1, e2, h⟩ := h
    refine h_get C inX9g (ci := 8) rfl 2 (by decide) fl_X9_21 rfl e2 dX9_isSure_6 ?_
    obtain ⟨n3, f4, e5, h⟩ := h
    refine h_alen C 4 rfl e5 dX9_isSure_9 ?_
    refine q_icmp_ge C 29 dX9_isSure_10 (by decide) h (fun h => ?_) (fun h => ?_)
    · refine q_iconst C (v := 0) dX9_isSure_29 (by decide) ?_
      exact hret 0 _ _ rfl h dX9_isSure_30
    · refine q_aload_n C dX9_isSure_13 0 rfl ?_
      obtain ⟨y6, e7, h⟩ := h
      refine h_get C inX9g (ci := 8) rfl 2 (by decide) fl_X9_21 rfl e7 dX9_isSure_14 ?_
      refine q_iload_n C dX9_isSure_17 1 rfl ?_
      obtain ⟨n8, f9, y12, e10, i11, g13, h⟩ := h
      refine h_aldR C 4 rfl rfl e10 i11 g13 dX9_isSure_18 ?_
      refine q_iconst C (v := 3) dX9_isSure_19 (by decide) ?_
      obtain ⟨n14, f15, e16, i17, h⟩ := h
      refine h_iald C e16 i17 dX9_isSure_20 ?_
      refine q_iconst C (v := 2) dX9_isSure_21 (by decide) ?_
      refine q_icmp_ne C 29 dX9_isSure_22 (by decide) h (fun h => ?_) (fun h => ?_)
      · refine q_iconst C (v := 0) dX9_isSure_29 (by decide) ?_
        exact hret 0 _ _ rfl h dX9_isSure_30
      · refine q_iconst C (v := 1) dX9_isSure_25 (by decide) ?_
        refine q_goto (tgt := 30) C dX9_isSure_26 (by decide) ?_
        exact hret 1 _ _ rfl h dX9_isSure_30
theorem cX9_isSure_ok (l : Launch) {D : gD} {H : gH} {p : Nat} {p0 : Int32} {K : Int32 → Prop} (h : wX9_isSure D.2 H p p0 K) : CtI l D (gU (zY D.2)) yX9_isSure cX9_isSure 2 .boolean rmX9_isSure [.ref p, .int p0] ([] ++ hpW H) (fun _ : Unit => [] ++ hpW H) (fun r _ => K r ) :=
  ct_startI (by decide +kernel) (Nat.le_of_ble_eq_true rfl) (fun E A Q hE C hret => bX9_isSure C (fun r pc ls hn hk hd => hret r () pc ls hn hk hd) _ _ h)
abbrev rmX9_isSeen : Room := { frames := 0, cells := 0, slots := 0, locals := 0 }
def wX9_isSeen_48 (K : Int32 → Prop) (KL11 : Int32 → Nat → Int32 → Int32 → Prop) (Z : gZ) (H : gH) (x1 : Int32) (x2 : Nat) (x3 : Int32) (x4 : Int32) : Prop :=
  KL11 x1 x2 x3 (x4 + 1)
set_option maxRecDepth 100000 in
set_option maxHeartbeats 4000000 in
theorem bX9_isSeen_48 {D : gD} {E : gE} {A : Nat → Prop} {Q : State → Prop} {H : gH} (C : CL D E rmX9_isSeen cX9_isSeen 6 RX9 A) {K : Int32 → Prop} (hret : ∀ (r : Int32) (pc : Nat) (ls : List (Nat × Value)), narrow .boolean (.int r) = .int r → K r → decode cX9_isSeen pc = .ok (.ireturn, 1) → Go D E A Q 6 0 0 ([] ++ hpW H) ls pc [.int r]) {KL11 : Int32 → Nat → Int32 → Int32 → Prop} (hKL11 : ∀ (x1 : Int32) (x2 : Nat) (x3 : Int32) (x4 : Int32), KL11 x1 x2 x3 x4 → Go D E A Q 6 0 0 ([] ++ hpW H) [(1, .int x1), (2, .ref x2), (3, .int x3), (4, .int x4)] 11 []) : ∀ (x1 : Int32) (x2 : Nat) (x3 : Int32) (x4 : Int32), wX9_isSeen_48 K KL11 D.2 H x1 x2 x3 x4 → Go D E A Q 6 0 0 ([] ++ hpW H) [(1, .int x1), (2, .ref x2), (3, .int x3), (4, .int x4)] 48 [] := by
  intro x1 x2 x3 x4 h
  unfold wX9_isSeen_48 at h
  refine q_iinc C (v := x4 + 1) [(4, .int (x4 + 1)), (1, .int x1), (2, .ref x2), (3, .int x3)] dX9_isSeen_48 3 rfl rfl (by decide) rfl ?_
  refine q_goto (tgt := 11) C dX9_isSeen_51 (by decide) ?_
  refine q_ls [(1, .int x1), (2, .ref x2), (3, .int x3), (4, .int (x4 + 1))] [1, 2, 3, 0] rfl ?_
  exact hKL11 _ _ _ _ h
def wX9_isSeen_11 (K : Int32 → Prop) (Z : gZ) (H : gH) : Nat → Int32 → Nat → Int32 → Int32 → Prop
  | 0, _, _, _, _ => False
  | n + 1, x1, x2, x3, x4 =>
  ((x3 ≤ x4 → K 0) ∧ (¬ x3 ≤ x4 → ∃ (n1 : Nat) (f2 : Nat → Option Nat) (y5 : Nat), hpG H x2 = some (qE (zY Z 4) n1 f2) ∧ vp_in x4 n1 ∧ f2 x4.toNatClampNeg = some y5 ∧ (∃ (n7 : Nat) (f8 : Nat → Int32), hpG H y5 = some (iE (zY Z 1) n7 f8) ∧ vp_in 0 n7 ∧ (((¬ f8 (0 : Int32).toNatClampNeg = 0 → wX9_isSeen_48 K (wX9_isSeen_11 K Z H n) Z H x1 x2 x3 x4) ∧ (f8 (0 : Int32).toNatClampNeg = 0 → ∃ (n11 : Nat) (f12 : Nat → Int32), hpG H y5 = some (iE (zY Z 1) n11 f12) ∧ vp_in 2 n11 ∧ (((¬ f12 (2 : Int32).toNatClampNeg = x1 → wX9_isSeen_48 K (wX9_isSeen_11 K Z H n) Z H x1 x2 x3 x4) ∧ (f12 (2 : Int32).toNatClampNeg = x1 → ∃ (n15 : Nat) (f16 : Nat → Int32), hpG H y5 = some (iE (zY Z 1) n15 f16) ∧ vp_in 3 n15 ∧ (((¬ f16 (3 : Int32).toNatClampNeg = 2 → wX9_isSeen_48 K (wX9_isSeen_11 K Z H n) Z H x1 x2 x3 x4) ∧ (f16 (3 : Int32).toNatClampNeg = 2 → K 1))))))))))))
set_option maxRecDepth 100000 in
set_option maxHeartbeats 4000000 in
theorem bX9_isSeen_11 {D : gD} {E : gE} {A : Nat → Prop} {Q : State → Prop} {H : gH} (C : CL D E rmX9_isSeen cX9_isSeen 6 RX9 A) {K : Int32 → Prop} (hret : ∀ (r : Int32) (pc : Nat) (ls : List (Nat × Value)), narrow .boolean (.int r) = .int r → K r → decode cX9_isSeen pc = .ok (.ireturn, 1) → Go D E A Q 6 0 0 ([] ++ hpW H) ls pc [.int r]) : ∀ (n : Nat) (x1 : Int32) (x2 : Nat) (x3 : Int32) (x4 : Int32), wX9_isSeen_11 K D.2 H n x1 x2 x3 x4 → Go D E A Q 6 0 0 ([] ++ hpW H) [(1, .int x1), (2, .ref x2), (3, .int x3), (4, .int x4)] 11 [] := by
  intro n
  induction n with
  | zero =>
    intro x1 x2 x3 x4 h
    exact h.elim
  | succ n ih =>
    intro x1 x2 x3 x4 h
    unfold wX9_isSeen_11 at h
    refine q_iload C dX9_isSeen_11 3 rfl ?_
    refine q_iload_n C dX9_isSeen_13 2 rfl ?_
    refine q_icmp_ge C 54 dX9_isSeen_14 (by decide) h (fun h => ?_) (fun h => ?_)
    · refine q_iconst C (v := 0) dX9_isSeen_54 (by decide) ?_
      exact hret 0 _ _ rfl h dX9_isSeen_55
    · refine q_aload_n C dX9_isSeen_17 1 rfl ?_
      refine q_iload C dX9_isSeen_18 3 rfl ?_
      obtain ⟨n1, f2, y5, e3, i4, g6, h⟩ := h
      refine h_aldR C 4 rfl rfl e3 i4 g6 dX9_isSeen_20 ?_
      refine q_astore C [(5, .ref y5), (1, .int x1), (2, .ref x2), (3, .int x3), (4, .int x4)] dX9_isSeen_21 (by decide) rfl ?_
      refine q_aload C dX9_isSeen_23 0 rfl ?_
      refine q_iconst C (v := 0) dX9_isSeen_25 (by decide) ?_
      obtain ⟨n7, f8, e9, i10, h⟩ := h
      refine h_iald C e9 i10 dX9_isSeen_26 ?_
      refine q_if_ne C 48 dX9_isSeen_27 (by decide) h (fun h => ?_) (fun h => ?_)
      · refine q_ls [(1, .int x1), (2, .ref x2), (3, .int x3), (4, .int x4)] [1, 2, 3, 4] rfl ?_
        exact bX9_isSeen_48 C (KL11 := (wX9_isSeen_11 K D.2 H n)) hret ih _ _ _ _ h
      · refine q_aload C dX9_isSeen_30 0 rfl ?_
        refine q_iconst C (v := 2) dX9_isSeen_32 (by decide) ?_
        obtain ⟨n11, f12, e13, i14, h⟩ := h
        refine h_iald C e13 i14 dX9_isSeen_33 ?_
        refine q_iload_n C dX9_isSeen_34 1 rfl ?_
        refine q_icmp_ne C 48 dX9_isSeen_35 (by decide) h (fun h => ?_) (fun h => ?_)
        · refine q_ls [(1, .int x1), (2, .ref x2), (3, .int x3), (4, .int x4)] [1, 2, 3, 4] rfl ?_
          exact bX9_isSeen_48 C (KL11 := (wX9_isSeen_11 K D.2 H n)) hret ih _ _ _ _ h
        · refine q_aload C dX9_isSeen_38 0 rfl ?_
          refine q_iconst C (v := 3) dX9_isSeen_40 (by decide) ?_
          obtain ⟨n15, f16, e17, i18, h⟩ := h
          refine h_iald C e17 i18 dX9_isSeen_41 ?_
          refine q_iconst C (v := 2) dX9_isSeen_42 (by decide) ?_
          refine q_icmp_ne C 48 dX9_isSeen_43 (by decide) h (fun h => ?_) (fun h => ?_)
          · refine q_ls [(1, .int x1), (2, .ref x2), (3, .int x3), (4, .int x4)] [1, 2, 3, 4] rfl ?_
            exact bX9_isSeen_48 C (KL11 := (wX9_isSeen_11 K D.2 H n)) hret ih _ _ _ _ h
          · refine q_iconst C (v := 1) dX9_isSeen_46 (by decide) ?_
            exact hret 1 _ _ rfl h dX9_isSeen_47
def wX9_isSeen (Z : gZ) (H : gH) (p : Nat) (p0 : Int32) (K : Int32 → Prop) : Prop :=
  ∃ y1 : Nat, gF H p 8 2 (.ref y1) ∧ (∃ (n3 : Nat) (f4 : Nat → Option Nat), hpG H y1 = some (qE (zY Z 4) n3 f4) ∧ (∃ k9 : Nat, wX9_isSeen_11 K Z H k9 p0 y1 (nI n3) 0))
set_option maxRecDepth 100000 in
set_option maxHeartbeats 4000000 in
theorem bX9_isSeen {D : gD} {E : gE} {A : Nat → Prop} {Q : State → Prop} {H : gH} (C : CL D E rmX9_isSeen cX9_isSeen 6 RX9 A) {K : Int32 → Prop} (hret : ∀ (r : Int32) (pc : Nat) (ls : List (Nat × Value)), narrow .boolean (.int r) = .int r → K r → decode cX9_isSeen pc = .ok (.ireturn, 1) → Go D E A Q 6 0 0 ([] ++ hpW H) ls pc [.int r]) (p : Nat) (p0 : Int32) (h : wX9_isSeen D.2 H p p0 K) : Go D E A Q 6 0 0 ([] ++ hpW H) [(0, .ref p), (1, .int p0)] 0 [] := by
  unfold wX9_isSeen at h
  refine q_aload_n C dX9_isSeen_0 0 rfl ?_
  obtain ⟨y1, e2, h⟩ := h
  refine h_get C inX9g (ci := 8) rfl 2 (by decide) fl_X9_21 rfl e2 dX9_isSeen_1 ?_
  refine q_astore_n C [(2, .ref y1), (0, .ref p), (1, .int p0)] dX9_isSeen_4 (by decide) rfl ?_
  refine q_aload_n C dX9_isSeen_5 0 rfl ?_
  obtain ⟨n3, f4, e5, h⟩ := h
  refine h_alen C 4 rfl e5 dX9_isSeen_6 ?_
  refine q_istore_n C [(3, .int (nI n3)), (2, .ref y1), (0, .ref p), (1, .int p0)] dX9_isSeen_7 (by decide) rfl ?_
  refine q_iconst C (v := 0) dX9_isSeen_8 (by decide) ?_
  refine q_istore C [(4, .int 0), (3, .int (nI n3)), (2, .ref y1), (0, .ref p), (1, .int p0)] dX9_isSeen_9 (by decide) rfl ?_
  refine q_ls [(1, .int p0), (2, .ref y1), (3, .int (nI n3)), (4, .int 0)] [4, 2, 1, 0] rfl ?_
  obtain ⟨nw, h⟩ := h
  exact bX9_isSeen_11 C  hret  nw _ _ _ _ h
theorem cX9_isSeen_ok (l : Launch) {D : gD} {H : gH} {p : Nat} {p0 : Int32} {K : Int32 → Prop} (h : wX9_isSeen D.2 H p p0 K) : CtI l D (gU (zY D.2)) yX9_isSeen cX9_isSeen 6 .boolean rmX9_isSeen [.ref p, .int p0] ([] ++ hpW H) (fun _ : Unit => [] ++ hpW H) (fun r _ => K r ) :=
  ct_startI (by decide +kernel) (Nat.le_of_ble_eq_true rfl) (fun E A Q hE C hret => bX9_isSeen C (fun r pc ls hn hk hd => hret r () pc ls hn hk hd) _ _ h)
abbrev rmX9_isSeenIn : Room := { frames := 0, cells := 0, slots := 0, locals := 0 }
def wX9_isSeenIn_58 (K : Int32 → Prop) (KL12 : Int32 → Int32 → Nat → Int32 → Int32 → Prop) (Z : gZ) (H : gH) (x1 : Int32) (x2 : Int32) (x3 : Nat) (x4 : Int32) (x5 : Int32) : Prop :=
  KL12 x1 x2 x3 x4 (x5 + 1)
set_option maxRecDepth 100000 in
set_option maxHeartbeats 4000000 in
theorem bX9_isSeenIn_58 {D : gD} {E : gE} {A : Nat → Prop} {Q : State → Prop} {H : gH} (C : CL D E rmX9_isSeenIn cX9_isSeenIn 7 RX9 A) {K : Int32 → Prop} (hret : ∀ (r : Int32) (pc : Nat) (ls : List (Nat × Value)), narrow .boolean (.int r) = .int r → K r → decode cX9_isSeenIn pc = .ok (.ireturn, 1) → Go D E A Q 7 0 0 ([] ++ hpW H) ls pc [.int r]) {KL12 : Int32 → Int32 → Nat → Int32 → Int32 → Prop} (hKL12 : ∀ (x1 : Int32) (x2 : Int32) (x3 : Nat) (x4 : Int32) (x5 : Int32), KL12 x1 x2 x3 x4 x5 → Go D E A Q 7 0 0 ([] ++ hpW H) [(1, .int x1), (2, .int x2), (3, .ref x3), (4, .int x4), (5, .int x5)] 12 []) : ∀ (x1 : Int32) (x2 : Int32) (x3 : Nat) (x4 : Int32) (x5 : Int32), wX9_isSeenIn_58 K KL12 D.2 H x1 x2 x3 x4 x5 → Go D E A Q 7 0 0 ([] ++ hpW H) [(1, .int x1), (2, .int x2), (3, .ref x3), (4, .int x4), (5, .int x5)] 58 [] := by
  intro x1 x2 x3 x4 x5 h
  unfold wX9_isSeenIn_58 at h
  refine q_iinc C (v := x5 + 1) [(5, .int (x5 + 1)), (1, .int x1), (2, .int x2), (3, .ref x3), (4, .int x4)] dX9_isSeenIn_58 4 rfl rfl (by decide) rfl ?_
  refine q_goto (tgt := 12) C dX9_isSeenIn_61 (by decide) ?_
  refine q_ls [(1, .int x1), (2, .int x2), (3, .ref x3), (4, .int x4), (5, .int (x5 + 1))] [1, 2, 3, 4, 0] rfl ?_
  exact hKL12 _ _ _ _ _ h
def wX9_isSeenIn_12 (K : Int32 → Prop) (Z : gZ) (H : gH) : Nat → Int32 → Int32 → Nat → Int32 → Int32 → Prop
  | 0, _, _, _, _, _ => False
  | n + 1, x1, x2, x3, x4, x5 =>
  ((x4 ≤ x5 → K 0) ∧ (¬ x4 ≤ x5 → ∃ (n1 : Nat) (f2 : Nat → Option Nat) (y5 : Nat), hpG H x3 = some (qE (zY Z 4) n1 f2) ∧ vp_in x5 n1 ∧ f2 x5.toNatClampNeg = some y5 ∧ (∃ (n7 : Nat) (f8 : Nat → Int32), hpG H y5 = some (iE (zY Z 1) n7 f8) ∧ vp_in 0 n7 ∧ (((¬ f8 (0 : Int32).toNatClampNeg = 0 → wX9_isSeenIn_58 K (wX9_isSeenIn_12 K Z H n) Z H x1 x2 x3 x4 x5) ∧ (f8 (0 : Int32).toNatClampNeg = 0 → ∃ (n11 : Nat) (f12 : Nat → Int32), hpG H y5 = some (iE (zY Z 1) n11 f12) ∧ vp_in 2 n11 ∧ (((¬ f12 (2 : Int32).toNatClampNeg = x2 → wX9_isSeenIn_58 K (wX9_isSeenIn_12 K Z H n) Z H x1 x2 x3 x4 x5) ∧ (f12 (2 : Int32).toNatClampNeg = x2 → ∃ (n15 : Nat) (f16 : Nat → Int32), hpG H y5 = some (iE (zY Z 1) n15 f16) ∧ vp_in 3 n15 ∧ (((¬ f16 (3 : Int32).toNatClampNeg = 2 → wX9_isSeenIn_58 K (wX9_isSeenIn_12 K Z H n) Z H x1 x2 x3 x4 x5) ∧ (f16 (3 : Int32).toNatClampNeg = 2 → ∃ (n19 : Nat) (f20 : Nat → Int32), hpG H y5 = some (iE (zY Z 1) n19 f20) ∧ vp_in 1 n19 ∧ (((¬ f20 (1 : Int32).toNatClampNeg = x1 → wX9_isSeenIn_58 K (wX9_isSeenIn_12 K Z H n) Z H x1 x2 x3 x4 x5) ∧ (f20 (1 : Int32).toNatClampNeg = x1 → K 1)))))))))))))))
set_option maxRecDepth 100000 in
set_option maxHeartbeats 4000000 in
theorem bX9_isSeenIn_12 {D : gD} {E : gE} {A : Nat → Prop} {Q : State → Prop} {H : gH} (C : CL D E rmX9_isSeenIn cX9_isSeenIn 7 RX9 A) {K : Int32 → Prop} (hret : ∀ (r : Int32) (pc : Nat) (ls : List (Nat × Value)), narrow .boolean (.int r) = .int r → K r → decode cX9_isSeenIn pc = .ok (.ireturn, 1) → Go D E A Q 7 0 0 ([] ++ hpW H) ls pc [.int r]) : ∀ (n : Nat) (x1 : Int32) (x2 : Int32) (x3 : Nat) (x4 : Int32) (x5 : Int32), wX9_isSeenIn_12 K D.2 H n x1 x2 x3 x4 x5 → Go D E A Q 7 0 0 ([] ++ hpW H) [(1, .int x1), (2, .int x2), (3, .ref x3), (4, .int x4), (5, .int x5)] 12 [] := by
  intro n
  induction n with
  | zero =>
    intro x1 x2 x3 x4 x5 h
    exact h.elim
  | succ n ih =>
    intro x1 x2 x3 x4 x5 h
    unfold wX9_isSeenIn_12 at h
    refine q_iload C dX9_isSeenIn_12 4 rfl ?_
    refine q_iload C dX9_isSeenIn_14 3 rfl ?_
    refine q_icmp_ge C 64 dX9_isSeenIn_16 (by decide) h (fun h => ?_) (fun h => ?_)
    · refine q_iconst C (v := 0) dX9_isSeenIn_64 (by decide) ?_
      exact hret 0 _ _ rfl h dX9_isSeenIn_65
    · refine q_aload_n C dX9_isSeenIn_19 2 rfl ?_
      refine q_iload C dX9_isSeenIn_20 4 rfl ?_
      obtain ⟨n1, f2, y5, e3, i4, g6, h⟩ := h
      refine h_aldR C 4 rfl rfl e3 i4 g6 dX9_isSeenIn_22 ?_
      refine q_astore C [(6, .ref y5), (1, .int x1), (2, .int x2), (3, .ref x3), (4, .int x4), (5, .int x5)] dX9_isSeenIn_23 (by decide) rfl ?_
      refine q_aload C dX9_isSeenIn_25 0 rfl ?_
      refine q_iconst C (v := 0) dX9_isSeenIn_27 (by decide) ?_
      obtain ⟨n7, f8, e9, i10, h⟩ := h
      refine h_iald C e9 i10 dX9_isSeenIn_28 ?_
      refine q_if_ne C 58 dX9_isSeenIn_29 (by decide) h (fun h => ?_) (fun h => ?_)
      · refine q_ls [(1, .int x1), (2, .int x2), (3, .ref x3), (4, .int x4), (5, .int x5)] [1, 2, 3, 4, 5] rfl ?_
        exact bX9_isSeenIn_58 C (KL12 := (wX9_isSeenIn_12 K D.2 H n)) hret ih _ _ _ _ _ h
      · refine q_aload C dX9_isSeenIn_32 0 rfl ?_
        refine q_iconst C (v := 2) dX9_isSeenIn_34 (by decide) ?_
        obtain ⟨n11, f12, e13, i14, h⟩ := h
        refine h_iald C e13 i14 dX9_isSeenIn_35 ?_
        refine q_iload_n C dX9_isSeenIn_36 2 rfl ?_
        refine q_icmp_ne C 58 dX9_isSeenIn_37 (by decide) h (fun h => ?_) (fun h => ?_)
        · refine q_ls [(1, .int x1), (2, .int x2), (3, .ref x3), (4, .int x4), (5, .int x5)] [1, 2, 3, 4, 5] rfl ?_
          exact bX9_isSeenIn_58 C (KL12 := (wX9_isSeenIn_12 K D.2 H n)) hret ih _ _ _ _ _ h
        · refine q_aload C dX9_isSeenIn_40 0 rfl ?_
          refine q_iconst C (v := 3) dX9_isSeenIn_42 (by decide) ?_
          obtain ⟨n15, f16, e17, i18, h⟩ := h
          refine h_iald C e17 i18 dX9_isSeenIn_43 ?_
          refine q_iconst C (v := 2) dX9_isSeenIn_44 (by decide) ?_
          refine q_icmp_ne C 58 dX9_isSeenIn_45 (by decide) h (fun h => ?_) (fun h => ?_)
          · refine q_ls [(1, .int x1), (2, .int x2), (3, .ref x3), (4, .int x4), (5, .int x5)] [1, 2, 3, 4, 5] rfl ?_
            exact bX9_isSeenIn_58 C (KL12 := (wX9_isSeenIn_12 K D.2 H n)) hret ih _ _ _ _ _ h
          · refine q_aload C dX9_isSeenIn_48 0 rfl ?_
            refine q_iconst C (v := 1) dX9_isSeenIn_50 (by decide) ?_
            obtain ⟨n19, f20, e21, i22, h⟩ := h
            refine h_iald C e21 i22 dX9_isSeenIn_51 ?_
            refine q_iload_n C dX9_isSeenIn_52 1 rfl ?_
            refine q_icmp_ne C 58 dX9_isSeenIn_53 (by decide) h (fun h => ?_) (fun h => ?_)
            · refine q_ls [(1, .int x1), (2, .int x2), (3, .ref x3), (4, .int x4), (5, .int x5)] [1, 2, 3, 4, 5] rfl ?_
              exact bX9_isSeenIn_58 C (KL12 := (wX9_isSeenIn_12 K D.2 H n)) hret ih _ _ _ _ _ h
            · refine q_iconst C (v := 1) dX9_isSeenIn_56 (by decide) ?_
              exact hret 1 _ _ rfl h dX9_isSeenIn_57
def wX9_isSeenIn (Z : gZ) (H : gH) (p : Nat) (p0 : Int32) (p1 : Int32) (K : Int32 → Prop) : Prop :=
  ∃ y1 : Nat, gF H p 8 2 (.ref y1) ∧ (∃ (n3 : Nat) (f4 : Nat → Option Nat), hpG H y1 = some (qE (zY Z 4) n3 f4) ∧ (∃ k9 : Nat, wX9_isSeenIn_12 K Z H k9 p0 p1 y1 (nI n3) 0))
set_option maxRecDepth 100000 in
set_option maxHeartbeats 4000000 in
theorem bX9_isSeenIn {D : gD} {E : gE} {A : Nat → Prop} {Q : State → Prop} {H : gH} (C : CL D E rmX9_isSeenIn cX9_isSeenIn 7 RX9 A) {K : Int32 → Prop} (hret : ∀ (r : Int32) (pc : Nat) (ls : List (Nat × Value)), narrow .boolean (.int r) = .int r → K r → decode cX9_isSeenIn pc = .ok (.ireturn, 1) → Go D E A Q 7 0 0 ([] ++ hpW H) ls pc [.int r]) (p : Nat) (p0 : Int32) (p1 : Int32) (h : wX9_isSeenIn D.2 H p p0 p1 K) : Go D E A Q 7 0 0 ([] ++ hpW H) [(0, .ref p), (1, .int p0), (2, .int p1)] 0 [] := by
  unfold wX9_isSeenIn at h
  refine q_aload_n C dX9_isSeenIn_0 0 rfl ?_
  obtain ⟨y1, e2, h⟩ := h
  refine h_get C inX9g (ci := 8) rfl 2 (by decide) fl_X9_21 rfl e2 dX9_isSeenIn_1 ?_
  refine q_astore_n C [(3, .ref y1), (0, .ref p), (1, .int p0), (2, .int p1)] dX9_isSeenIn_4 (by decide) rfl ?_
  refine q_aload_n C dX9_isSeenIn_5 0 rfl ?_
  obtain ⟨n3, f4, e5, h⟩ := h
  refine h_alen C 4 rfl e5 dX9_isSeenIn_6 ?_
  refine q_istore C [(4, .int (nI n3)), (3, .ref y1), (0, .ref p), (1, .int p0), (2, .int p1)] dX9_isSeenIn_7 (by decide) rfl ?_
  refine q_iconst C (v := 0) dX9_isSeenIn_9 (by decide) ?_
  refine q_istore C [(5, .int 0), (4, .int (nI n3)), (3, .ref y1), (0, .ref p), (1, .int p0), (2, .int p1)] dX9_isSeenIn_10 (by decide) rfl ?_
  refine q_ls [(1, .int p0), (2, .int p1), (3, .ref y1), (4, .int (nI n3)), (5, .int 0)] [4, 5, 2, 1, 0] rfl ?_
  obtain ⟨nw, h⟩ := h
  exact bX9_isSeenIn_12 C  hret  nw _ _ _ _ _ h
theorem cX9_isSeenIn_ok (l : Launch) {D : gD} {H : gH} {p : Nat} {p0 : Int32} {p1 : Int32} {K : Int32 → Prop} (h : wX9_isSeenIn D.2 H p p0 p1 K) : CtI l D (gU (zY D.2)) yX9_isSeenIn cX9_isSeenIn 7 .boolean rmX9_isSeenIn [.ref p, .int p0, .int p1] ([] ++ hpW H) (fun _ : Unit => [] ++ hpW H) (fun r _ => K r ) :=
  ct_startI (by decide +kernel) (Nat.le_of_ble_eq_true rfl) (fun E A Q hE C hret => bX9_isSeenIn C (fun r pc ls hn hk hd => hret r () pc ls hn hk hd) _ _ _ h)
abbrev rmX9_notBefore : Room := { frames := 0, cells := 0, slots := 0, locals := 0 }
def wX9_notBefore_80 (K : Int32 → Prop) (KL14 : Nat → Int32 → Int32 → Nat → Int32 → Int32 → Prop) (Z : gZ) (H : gH) (x0 : Nat) (x1 : Int32) (x2 : Int32) (x3 : Nat) (x4 : Int32) (x5 : Int32) : Prop :=
  KL14 x0 x1 x2 x3 x4 (x5 + 1)
set_option maxRecDepth 100000 in
set_option maxHeartbeats 4000000 in
theorem bX9_notBefore_80 {D : gD} {E : gE} {A : Nat → Prop} {Q : State → Prop} {H : gH} (C : CL D E rmX9_notBefore cX9_notBefore 8 RX9 A) {K : Int32 → Prop} (hret : ∀ (r : Int32) (pc : Nat) (ls : List (Nat × Value)), K r → decode cX9_notBefore pc = .ok (.ireturn, 1) → Go D E A Q 8 0 0 ([] ++ hpW H) ls pc [.int r]) {KL14 : Nat → Int32 → Int32 → Nat → Int32 → Int32 → Prop} (hKL14 : ∀ (x0 : Nat) (x1 : Int32) (x2 : Int32) (x3 : Nat) (x4 : Int32) (x5 : Int32), KL14 x0 x1 x2 x3 x4 x5 → Go D E A Q 8 0 0 ([] ++ hpW H) [(0, .ref x0), (1, .int x1), (2, .int x2), (3, .ref x3), (4, .int x4), (5, .int x5)] 14 []) : ∀ (x0 : Nat) (x1 : Int32) (x2 : Int32) (x3 : Nat) (x4 : Int32) (x5 : Int32), wX9_notBefore_80 K KL14 D.2 H x0 x1 x2 x3 x4 x5 → Go D E A Q 8 0 0 ([] ++ hpW H) [(0, .ref x0), (1, .int x1), (2, .int x2), (3, .ref x3), (4, .int x4), (5, .int x5)] 80 [] := by
  intro x0 x1 x2 x3 x4 x5 h
  unfold wX9_notBefore_80 at h
  refine q_iinc C (v := x5 + 1) [(5, .int (x5 + 1)), (0, .ref x0), (1, .int x1), (2, .int x2), (3, .ref x3), (4, .int x4)] dX9_notBefore_80 5 rfl rfl (by decide) rfl ?_
  refine q_goto (tgt := 14) C dX9_notBefore_83 (by decide) ?_
  refine q_ls [(0, .ref x0), (1, .int x1), (2, .int x2), (3, .ref x3), (4, .int x4), (5, .int (x5 + 1))] [1, 2, 3, 4, 5, 0] rfl ?_
  exact hKL14 _ _ _ _ _ _ h
def wX9_notBefore_53 (K : Int32 → Prop) (KL14 : Nat → Int32 → Int32 → Nat → Int32 → Int32 → Prop) (Z : gZ) (H : gH) (x0 : Nat) (x1 : Int32) (x2 : Int32) (x3 : Nat) (x4 : Int32) (x5 : Int32) (x6 : Nat) (z0 : Int32) : Prop :=
  ∃ (n1 : Nat) (f2 : Nat → Int32), hpG H x6 = some (iE (zY Z 1) n1 f2) ∧ vp_in 3 n1 ∧ (((¬ f2 (3 : Int32).toNatClampNeg = 2 → wX9_notBefore_80 K KL14 Z H x0 x1 x2 x3 x4 x5) ∧ (f2 (3 : Int32).toNatClampNeg = 2 → ∃ (n5 : Nat) (f6 : Nat → Int32), hpG H x6 = some (iE (zY Z 1) n5 f6) ∧ vp_in 1 n5 ∧ (((x1 < f6 (1 : Int32).toNatClampNeg → wX9_notBefore_80 K KL14 Z H x0 x1 x2 x3 x4 x5) ∧ (¬ x1 < f6 (1 : Int32).toNatClampNeg → ((z0 ≤ x2 → wX9_notBefore_80 K KL14 Z H x0 x1 x2 x3 x4 x5) ∧ (¬ z0 ≤ x2 → wX9_notBefore_80 K KL14 Z H x0 x1 z0 x3 x4 x5))))))))
set_option maxRecDepth 100000 in
set_option maxHeartbeats 4000000 in
theorem bX9_notBefore_53 {D : gD} {E : gE} {A : Nat → Prop} {Q : State → Prop} {H : gH} (C : CL D E rmX9_notBefore cX9_notBefore 8 RX9 A) {K : Int32 → Prop} (hret : ∀ (r : Int32) (pc : Nat) (ls : List (Nat × Value)), K r → decode cX9_notBefore pc = .ok (.ireturn, 1) → Go D E A Q 8 0 0 ([] ++ hpW H) ls pc [.int r]) {KL14 : Nat → Int32 → Int32 → Nat → Int32 → Int32 → Prop} (hKL14 : ∀ (x0 : Nat) (x1 : Int32) (x2 : Int32) (x3 : Nat) (x4 : Int32) (x5 : Int32), KL14 x0 x1 x2 x3 x4 x5 → Go D E A Q 8 0 0 ([] ++ hpW H) [(0, .ref x0), (1, .int x1), (2, .int x2), (3, .ref x3), (4, .int x4), (5, .int x5)] 14 []) : ∀ (x0 : Nat) (x1 : Int32) (x2 : Int32) (x3 : Nat) (x4 : Int32) (x5 : Int32) (x6 : Nat) (z0 : Int32), wX9_notBefore_53 K KL14 D.2 H x0 x1 x2 x3 x4 x5 x6 z0 → Go D E A Q 8 0 0 ([] ++ hpW H) [(0, .ref x0), (1, .int x1), (2, .int x2), (3, .ref x3), (4, .int x4), (5, .int x5), (6, .ref x6)] 53 [.int z0] := by
  intro x0 x1 x2 x3 x4 x5 x6 z0 h
  unfold wX9_notBefore_53 at h
  refine q_istore C [(7, .int z0), (0, .ref x0), (1, .int x1), (2, .int x2), (3, .ref x3), (4, .int x4), (5, .int x5), (6, .ref x6)] dX9_notBefore_53 (by decide) rfl ?_
  refine q_aload C dX9_notBefore_55 7 rfl ?_
  refine q_iconst C (v := 3) dX9_notBefore_57 (by decide) ?_
  obtain ⟨n1, f2, e3, i4, h⟩ := h
  refine h_iald C e3 i4 dX9_notBefore_58 ?_
  refine q_iconst C (v := 2) dX9_notBefore_59 (by decide) ?_
  refine q_icmp_ne C 80 dX9_notBefore_60 (by decide) h (fun h => ?_) (fun h => ?_)
  · refine q_ls [(0, .ref x0), (1, .int x1), (2, .int x2), (3, .ref x3), (4, .int x4), (5, .int x5)] [1, 2, 3, 4, 5, 6] rfl ?_
    exact bX9_notBefore_80 C (KL14 := KL14) hret hKL14 _ _ _ _ _ _ h
  · refine q_aload C dX9_notBefore_63 7 rfl ?_
    refine q_iconst C (v := 1) dX9_notBefore_65 (by decide) ?_
    obtain ⟨n5, f6, e7, i8, h⟩ := h
    refine h_iald C e7 i8 dX9_notBefore_66 ?_
    refine q_iload_n C dX9_notBefore_67 2 rfl ?_
    refine q_icmp_gt C 80 dX9_notBefore_68 (by decide) h (fun h => ?_) (fun h => ?_)
    · refine q_ls [(0, .ref x0), (1, .int x1), (2, .int x2), (3, .ref x3), (4, .int x4), (5, .int x5)] [1, 2, 3, 4, 5, 6] rfl ?_
      exact bX9_notBefore_80 C (KL14 := KL14) hret hKL14 _ _ _ _ _ _ h
    · refine q_iload C dX9_notBefore_71 0 rfl ?_
      refine q_iload_n C dX9_notBefore_73 3 rfl ?_
      refine q_icmp_le C 80 dX9_notBefore_74 (by decide) h (fun h => ?_) (fun h => ?_)
      · refine q_ls [(0, .ref x0), (1, .int x1), (2, .int x2), (3, .ref x3), (4, .int x4), (5, .int x5)] [1, 2, 3, 4, 5, 6] rfl ?_
        exact bX9_notBefore_80 C (KL14 := KL14) hret hKL14 _ _ _ _ _ _ h
      · refine q_iload C dX9_notBefore_77 0 rfl ?_
        refine q_istore_n C [(2, .int z0), (7, .int z0), (0, .ref x0), (1, .int x1), (3, .ref x3), (4, .int x4), (5, .int x5), (6, .ref x6)] dX9_notBefore_79 (by decide) rfl ?_
        refine q_ls [(0, .ref x0), (1, .int x1), (2, .int z0), (3, .ref x3), (4, .int x4), (5, .int x5)] [2, 3, 0, 4, 5, 6] rfl ?_
        exact bX9_notBefore_80 C (KL14 := KL14) hret hKL14 _ _ _ _ _ _ h
def wX9_notBefore_14 (K : Int32 → Prop) (Z : gZ) (H : gH) : Nat → Nat → Int32 → Int32 → Nat → Int32 → Int32 → Prop
  | 0, _, _, _, _, _, _ => False
  | n + 1, x0, x1, x2, x3, x4, x5 =>
  ((x4 ≤ x5 → K x2) ∧ (¬ x4 ≤ x5 → ∃ (n1 : Nat) (f2 : Nat → Option Nat) (y5 : Nat), hpG H x3 = some (qE (zY Z 4) n1 f2) ∧ vp_in x5 n1 ∧ f2 x5.toNatClampNeg = some y5 ∧ (∃ (n7 : Nat) (f8 : Nat → Int32), hpG H y5 = some (iE (zY Z 1) n7 f8) ∧ vp_in 0 n7 ∧ (((¬ f8 (0 : Int32).toNatClampNeg = 1 → ∃ y11 : Nat, gF H x0 8 3 (.ref y11) ∧ (∃ (n13 : Nat) (f14 : Nat → Int32), hpG H y5 = some (iE (zY Z 1) n13 f14) ∧ vp_in 2 n13 ∧ (∃ (n17 : Nat) (f18 : Nat → Option Nat) (y21 : Nat), hpG H y11 = some (qE (zY Z 4) n17 f18) ∧ vp_in (f14 (2 : Int32).toNatClampNeg) n17 ∧ f18 (f14 (2 : Int32).toNatClampNeg).toNatClampNeg = some y21 ∧ (∃ (n23 : Nat) (f24 : Nat → Int32), hpG H y21 = some (iE (zY Z 1) n23 f24) ∧ vp_in 0 n23 ∧ (wX9_notBefore_53 K (wX9_notBefore_14 K Z H n) Z H x0 x1 x2 x3 x4 x5 y5 (f24 (0 : Int32).toNatClampNeg)))))) ∧ (f8 (0 : Int32).toNatClampNeg = 1 → ∃ (n27 : Nat) (f28 : Nat → Int32), hpG H y5 = some (iE (zY Z 1) n27 f28) ∧ vp_in 2 n27 ∧ (wX9_notBefore_53 K (wX9_notBefore_14 K Z H n) Z H x0 x1 x2 x3 x4 x5 y5 (f28 (2 : Int32).toNatClampNeg))))))))
set_option maxRecDepth 100000 in
set_option maxHeartbeats 4000000 in
theorem bX9_notBefore_14 {D : gD} {E : gE} {A : Nat → Prop} {Q : State → Prop} {H : gH} (C : CL D E rmX9_notBefore cX9_notBefore 8 RX9 A) {K : Int32 → Prop} (hret : ∀ (r : Int32) (pc : Nat) (ls : List (Nat × Value)), K r → decode cX9_notBefore pc = .ok (.ireturn, 1) → Go D E A Q 8 0 0 ([] ++ hpW H) ls pc [.int r]) : ∀ (n : Nat) (x0 : Nat) (x1 : Int32) (x2 : Int32) (x3 : Nat) (x4 : Int32) (x5 : Int32), wX9_notBefore_14 K D.2 H n x0 x1 x2 x3 x4 x5 → Go D E A Q 8 0 0 ([] ++ hpW H) [(0, .ref x0), (1, .int x1), (2, .int x2), (3, .ref x3), (4, .int x4), (5, .int x5)] 14 [] := by
  intro n
  induction n with
  | zero =>
    intro x0 x1 x2 x3 x4 x5 h
    exact h.elim
  | succ n ih =>
    intro x0 x1 x2 x3 x4 x5 h
    unfold wX9_notBefore_14 at h
    refine q_iload C dX9_notBefore_14 5 rfl ?_
    refine q_iload C dX9_notBefore_16 4 rfl ?_
    refine q_icmp_ge C 86 dX9_notBefore_18 (by decide) h (fun h => ?_) (fun h => ?_)
    · refine q_iload_n C dX9_notBefore_86 2 rfl ?_
      exact hret x2 _ _ h dX9_notBefore_87
    · refine q_aload_n C dX9_notBefore_21 3 rfl ?_
      refine q_iload C dX9_notBefore_22 5 rfl ?_
      obtain ⟨n1, f2, y5, e3, i4, g6, h⟩ := h
      refine h_aldR C 4 rfl rfl e3 i4 g6 dX9_notBefore_24 ?_
      refine q_astore C [(6, .ref y5), (0, .ref x0), (1, .int x1), (2, .int x2), (3, .ref x3), (4, .int x4), (5, .int x5)] dX9_notBefore_25 (by decide) rfl ?_
      refine q_aload C dX9_notBefore_27 0 rfl ?_
      refine q_iconst C (v := 0) dX9_notBefore_29 (by decide) ?_
      obtain ⟨n7, f8, e9, i10, h⟩ := h
      refine h_iald C e9 i10 dX9_notBefore_30 ?_
      refine q_iconst C (v := 1) dX9_notBefore_31 (by decide) ?_
      refine q_icmp_ne C 42 dX9_notBefore_32 (by decide) h (fun h => ?_) (fun h => ?_)
      · refine q_aload_n C dX9_notBefore_42 1 rfl ?_
        obtain ⟨y11, e12, h⟩ := h
        refine h_get C inX9g (ci := 8) rfl 3 (by decide) fl_X9_24 rfl e12 dX9_notBefore_43 ?_
        refine q_aload C dX9_notBefore_46 0 rfl ?_
        refine q_iconst C (v := 2) dX9_notBefore_48 (by decide) ?_
        obtain ⟨n13, f14, e15, i16, h⟩ := h
        refine h_iald C e15 i16 dX9_notBefore_49 ?_
        obtain ⟨n17, f18, y21, e19, i20, g22, h⟩ := h
        refine h_aldR C 4 rfl rfl e19 i20 g22 dX9_notBefore_50 ?_
        refine q_iconst C (v := 0) dX9_notBefore_51 (by decide) ?_
        obtain ⟨n23, f24, e25, i26, h⟩ := h
        refine h_iald C e25 i26 dX9_notBefore_52 ?_
        refine q_ls [(0, .ref x0), (1, .int x1), (2, .int x2), (3, .ref x3), (4, .int x4), (5, .int x5), (6, .ref y5)] [1, 2, 3, 4, 5, 6, 0] rfl ?_
        exact bX9_notBefore_53 C (KL14 := (wX9_notBefore_14 K D.2 H n)) hret ih _ _ _ _ _ _ _ _ h
      · refine q_aload C dX9_notBefore_35 0 rfl ?_
        refine q_iconst C (v := 2) dX9_notBefore_37 (by decide) ?_
        obtain ⟨n27, f28, e29, i30, h⟩ := h
        refine h_iald C e29 i30 dX9_notBefore_38 ?_
        refine q_goto (tgt := 53) C dX9_notBefore_39 (by decide) ?_
        refine q_ls [(0, .ref x0), (1, .int x1), (2, .int x2), (3, .ref x3), (4, .int x4), (5, .int x5), (6, .ref y5)] [1, 2, 3, 4, 5, 6, 0] rfl ?_
        exact bX9_notBefore_53 C (KL14 := (wX9_notBefore_14 K D.2 H n)) hret ih _ _ _ _ _ _ _ _ h
def wX9_notBefore (Z : gZ) (H : gH) (p : Nat) (p0 : Int32) (K : Int32 → Prop) : Prop :=
  ∃ y1 : Nat, gF H p 8 2 (.ref y1) ∧ (∃ (n3 : Nat) (f4 : Nat → Option Nat), hpG H y1 = some (qE (zY Z 4) n3 f4) ∧ (∃ k9 : Nat, wX9_notBefore_14 K Z H k9 p p0 (-1) y1 (nI n3) 0))
set_option maxRecDepth 100000 in
set_option maxHeartbeats 4000000 in
theorem bX9_notBefore {D : gD} {E : gE} {A : Nat → Prop} {Q : State → Prop} {H : gH} (C : CL D E rmX9_notBefore cX9_notBefore 8 RX9 A) {K : Int32 → Prop} (hret : ∀ (r : Int32) (pc : Nat) (ls : List (Nat × Value)), K r → decode cX9_notBefore pc = .ok (.ireturn, 1) → Go D E A Q 8 0 0 ([] ++ hpW H) ls pc [.int r]) (p : Nat) (p0 : Int32) (h : wX9_notBefore D.2 H p p0 K) : Go D E A Q 8 0 0 ([] ++ hpW H) [(0, .ref p), (1, .int p0)] 0 [] := by
  unfold wX9_notBefore at h
  refine q_iconst C (v := (-1)) dX9_notBefore_0 (by decide) ?_
  refine q_istore_n C [(2, .int (-1)), (0, .ref p), (1, .int p0)] dX9_notBefore_1 (by decide) rfl ?_
  refine q_aload_n C dX9_notBefore_2 1 rfl ?_
  obtain ⟨y1, e2, h⟩ := h
  refine h_get C inX9g (ci := 8) rfl 2 (by decide) fl_X9_21 rfl e2 dX9_notBefore_3 ?_
  refine q_astore_n C [(3, .ref y1), (2, .int (-1)), (0, .ref p), (1, .int p0)] dX9_notBefore_6 (by decide) rfl ?_
  refine q_aload_n C dX9_notBefore_7 0 rfl ?_
  obtain ⟨n3, f4, e5, h⟩ := h
  refine h_alen C 4 rfl e5 dX9_notBefore_8 ?_
  refine q_istore C [(4, .int (nI n3)), (3, .ref y1), (2, .int (-1)), (0, .ref p), (1, .int p0)] dX9_notBefore_9 (by decide) rfl ?_
  refine q_iconst C (v := 0) dX9_notBefore_11 (by decide) ?_
  refine q_istore C [(5, .int 0), (4, .int (nI n3)), (3, .ref y1), (2, .int (-1)), (0, .ref p), (1, .int p0)] dX9_notBefore_12 (by decide) rfl ?_
  refine q_ls [(0, .ref p), (1, .int p0), (2, .int (-1)), (3, .ref y1), (4, .int (nI n3)), (5, .int 0)] [4, 5, 3, 2, 1, 0] rfl ?_
  obtain ⟨nw, h⟩ := h
  exact bX9_notBefore_14 C  hret  nw _ _ _ _ _ _ h
theorem cX9_notBefore_ok (l : Launch) {D : gD} {H : gH} {p : Nat} {p0 : Int32} {K : Int32 → Prop} (h : wX9_notBefore D.2 H p p0 K) : CtI l D (gU (zY D.2)) yX9_notBefore cX9_notBefore 8 .int rmX9_notBefore [.ref p, .int p0] ([] ++ hpW H) (fun _ : Unit => [] ++ hpW H) (fun r _ => K r ) :=
  ct_startI (by decide +kernel) (Nat.le_of_ble_eq_true rfl) (fun E A Q hE C hret => bX9_notBefore C (fun r pc ls hk hd => hret r () pc ls rfl hk hd) _ _ h)
abbrev rmX9_isMixed : Room := { frames := 1, cells := 0, slots := 0, locals := 26 }
def wX9_isMixed_61 (K : Int32 → Prop) (KL2 : Nat → Int32 → Int32 → Prop) (KL13 : Nat → Int32 → Int32 → Int32 → Prop) (Z : gZ) (H : gH) (x0 : Nat) (x1 : Int32) (x2 : Int32) (x3 : Int32) : Prop :=
  KL13 x0 x1 x2 (x3 + 1)
set_option maxRecDepth 100000 in
set_option maxHeartbeats 4000000 in
theorem bX9_isMixed_61 {D : gD} {E : gE} {A : Nat → Prop} {Q : State → Prop} {H : gH} (C : CL D E rmX9_isMixed cX9_isMixed 4 RX9 A) {K : Int32 → Prop} (hret : ∀ (r : Int32) (pc : Nat) (ls : List (Nat × Value)), narrow .boolean (.int r) = .int r → K r → decode cX9_isMixed pc = .ok (.ireturn, 1) → Go D E A Q 4 0 0 ([] ++ hpW H) ls pc [.int r]) {KL2 : Nat → Int32 → Int32 → Prop} (hKL2 : ∀ (x0 : Nat) (x1 : Int32) (x2 : Int32), KL2 x0 x1 x2 → Go D E A Q 4 0 0 ([] ++ hpW H) [(0, .ref x0), (1, .int x1), (2, .int x2)] 2 []) {KL13 : Nat → Int32 → Int32 → Int32 → Prop} (hKL13 : ∀ (x0 : Nat) (x1 : Int32) (x2 : Int32) (x3 : Int32), KL13 x0 x1 x2 x3 → Go D E A Q 4 0 0 ([] ++ hpW H) [(0, .ref x0), (1, .int x1), (2, .int x2), (3, .int x3)] 13 []) : ∀ (x0 : Nat) (x1 : Int32) (x2 : Int32) (x3 : Int32), wX9_isMixed_61 K KL2 KL13 D.2 H x0 x1 x2 x3 → Go D E A Q 4 0 0 ([] ++ hpW H) [(0, .ref x0), (1, .int x1), (2, .int x2), (3, .int x3)] 61 [] := by
  intro x0 x1 x2 x3 h
  unfold wX9_isMixed_61 at h
  refine q_iinc C (v := x3 + 1) [(3, .int (x3 + 1)), (0, .ref x0), (1, .int x1), (2, .int x2)] dX9_isMixed_61 3 rfl rfl (by decide) rfl ?_
  refine q_goto (tgt := 13) C dX9_isMixed_64 (by decide) ?_
  refine q_ls [(0, .ref x0), (1, .int x1), (2, .int x2), (3, .int (x3 + 1))] [1, 2, 3, 0] rfl ?_
  exact hKL13 _ _ _ _ h
def wX9_isMixed_13 (K : Int32 → Prop) (KL2 : Nat → Int32 → Int32 → Prop) (Z : gZ) (H : gH) : Nat → Nat → Int32 → Int32 → Int32 → Prop
  | 0, _, _, _, _ => False
  | n + 1, x0, x1, x2, x3 =>
  ∃ y1 : Nat, gF H x0 8 3 (.ref y1) ∧ (∃ (n3 : Nat) (f4 : Nat → Option Nat), hpG H y1 = some (qE (zY Z 4) n3 f4) ∧ (((nI n3 ≤ x3 → KL2 x0 x1 (x2 + 1)) ∧ (¬ nI n3 ≤ x3 → (∃ fs, hpG H x0 = some (.inr (8, fs))) ∧ wX9_isSeenIn Z H x0 x1 x2 (fun r6 => ((r6 = 0 → wX9_isMixed_61 K KL2 (wX9_isMixed_13 K KL2 Z H n) Z H x0 x1 x2 x3) ∧ (¬ r6 = 0 → (∃ fs, hpG H x0 = some (.inr (8, fs))) ∧ wX9_isSeenIn Z H x0 x1 x3 (fun r7 => ((r7 = 0 → wX9_isMixed_61 K KL2 (wX9_isMixed_13 K KL2 Z H n) Z H x0 x1 x2 x3) ∧ (¬ r7 = 0 → ∃ y8 : Nat, gF H x0 8 3 (.ref y8) ∧ (∃ (n10 : Nat) (f11 : Nat → Option Nat) (y14 : Nat), hpG H y8 = some (qE (zY Z 4) n10 f11) ∧ vp_in x2 n10 ∧ f11 x2.toNatClampNeg = some y14 ∧ (∃ (n16 : Nat) (f17 : Nat → Int32), hpG H y14 = some (iE (zY Z 1) n16 f17) ∧ vp_in 1 n16 ∧ (∃ y20 : Nat, gF H x0 8 3 (.ref y20) ∧ (∃ (n22 : Nat) (f23 : Nat → Option Nat) (y26 : Nat), hpG H y20 = some (qE (zY Z 4) n22 f23) ∧ vp_in x3 n22 ∧ f23 x3.toNatClampNeg = some y26 ∧ (∃ (n28 : Nat) (f29 : Nat → Int32), hpG H y26 = some (iE (zY Z 1) n28 f29) ∧ vp_in 0 n28 ∧ (((f29 (0 : Int32).toNatClampNeg ≤ f17 (1 : Int32).toNatClampNeg → wX9_isMixed_61 K KL2 (wX9_isMixed_13 K KL2 Z H n) Z H x0 x1 x2 x3) ∧ (¬ f29 (0 : Int32).toNatClampNeg ≤ f17 (1 : Int32).toNatClampNeg → K 1))))))))))))))))))
set_option maxRecDepth 100000 in
set_option maxHeartbeats 4000000 in
theorem bX9_isMixed_13 {D : gD} {E : gE} {A : Nat → Prop} {Q : State → Prop} {H : gH} (C : CL D E rmX9_isMixed cX9_isMixed 4 RX9 A) {K : Int32 → Prop} (hret : ∀ (r : Int32) (pc : Nat) (ls : List (Nat × Value)), narrow .boolean (.int r) = .int r → K r → decode cX9_isMixed pc = .ok (.ireturn, 1) → Go D E A Q 4 0 0 ([] ++ hpW H) ls pc [.int r]) {KL2 : Nat → Int32 → Int32 → Prop} (hKL2 : ∀ (x0 : Nat) (x1 : Int32) (x2 : Int32), KL2 x0 x1 x2 → Go D E A Q 4 0 0 ([] ++ hpW H) [(0, .ref x0), (1, .int x1), (2, .int x2)] 2 []) : ∀ (n : Nat) (x0 : Nat) (x1 : Int32) (x2 : Int32) (x3 : Int32), wX9_isMixed_13 K KL2 D.2 H n x0 x1 x2 x3 → Go D E A Q 4 0 0 ([] ++ hpW H) [(0, .ref x0), (1, .int x1), (2, .int x2), (3, .int x3)] 13 [] := by
  intro n
  induction n with
  | zero =>
    intro x0 x1 x2 x3 h
    exact h.elim
  | succ n ih =>
    intro x0 x1 x2 x3 h
    unfold wX9_isMixed_13 at h
    refine q_iload_n C dX9_isMixed_13 3 rfl ?_
    refine q_aload_n C dX9_isMixed_14 0 rfl ?_
    obtain ⟨y1, e2, h⟩ := h
    refine h_get C inX9g (ci := 8) rfl 3 (by decide) fl_X9_24 rfl e2 dX9_isMixed_15 ?_
    obtain ⟨n3, f4, e5, h⟩ := h
    refine h_alen C 4 rfl e5 dX9_isMixed_18 ?_
    refine q_icmp_ge C 67 dX9_isMixed_19 (by decide) h (fun h => ?_) (fun h => ?_)
    · refine q_iinc C (v := x2 + 1) [(2, .int (x2 + 1)), (0, .ref x0), (1, .int x1), (3, .int x3)] dX9_isMixed_67 2 rfl rfl (by decide) rfl ?_
      refine q_goto (tgt := 2) C dX9_isMixed_70 (by decide) ?_
      refine q_ls [(0, .ref x0), (1, .int x1), (2, .int (x2 + 1))] [1, 2, 0] rfl ?_
      exact hKL2 _ _ _ h
    · refine q_aload_n C dX9_isMixed_22 0 rfl ?_
      refine q_iload_n C dX9_isMixed_23 1 rfl ?_
      refine q_iload_n C dX9_isMixed_24 2 rfl ?_
      obtain ⟨⟨fs9, hr9⟩, h⟩ := h
      refine p_callVI C (fun _ h => h) [] (cX9_isSeenIn_ok _ h) cf_X9_61 im_X9_isSeenIn se_X9_isSeenIn (hRv_h (q := (RX9, TX9, 12)) hr9 rfl) rfl ⟨Nat.le_of_ble_eq_true rfl, Nat.le_of_ble_eq_true rfl⟩ ⟨Nat.le_refl _, Nat.le_refl _⟩ List.perm_append_comm (fun _ : Unit => [] ++ hpW H) (fun _ => List.perm_append_comm) (rest := []) rfl (Nat.le_of_ble_eq_true rfl) dX9_isMixed_25 (fun r6 _ h => ?_)
      show Go D E A Q 4 0 0 ([] ++ hpW H) [(0, .ref x0), (1, .int x1), (2, .int x2), (3, .int x3)] 28 [.int r6]
      refine q_if_eq C 61 dX9_isMixed_28 (by decide) h (fun h => ?_) (fun h => ?_)
      · exact bX9_isMixed_61 C (KL2 := KL2) (KL13 := (wX9_isMixed_13 K KL2 D.2 H n)) hret hKL2 ih _ _ _ _ h
      · refine q_aload_n C dX9_isMixed_31 0 rfl ?_
        refine q_iload_n C dX9_isMixed_32 1 rfl ?_
        refine q_iload_n C dX9_isMixed_33 3 rfl ?_
        obtain ⟨⟨fs9, hr9⟩, h⟩ := h
        refine p_callVI C (fun _ h => h) [] (cX9_isSeenIn_ok _ h) cf_X9_61 im_X9_isSeenIn se_X9_isSeenIn (hRv_h (q := (RX9, TX9, 12)) hr9 rfl) rfl ⟨Nat.le_of_ble_eq_true rfl, Nat.le_of_ble_eq_true rfl⟩ ⟨Nat.le_refl _, Nat.le_refl _⟩ List.perm_append_comm (fun _ : Unit => [] ++ hpW H) (fun _ => List.perm_append_comm) (rest := []) rfl (Nat.le_of_ble_eq_true rfl) dX9_isMixed_34 (fun r7 _ h => ?_)
        show Go D E A Q 4 0 0 ([] ++ hpW H) [(0, .ref x0), (1, .int x1), (2, .int x2), (3, .int x3)] 37 [.int r7]
        refine q_if_eq C 61 dX9_isMixed_37 (by decide) h (fun h => ?_) (fun h => ?_)
        · exact bX9_isMixed_61 C (KL2 := KL2) (KL13 := (wX9_isMixed_13 K KL2 D.2 H n)) hret hKL2 ih _ _ _ _ h
        · refine q_aload_n C dX9_isMixed_40 0 rfl ?_
          obtain ⟨y8, e9, h⟩ := h
          refine h_get C inX9g (ci := 8) rfl 3 (by decide) fl_X9_24 rfl e9 dX9_isMixed_41 ?_
          refine q_iload_n C dX9_isMixed_44 2 rfl ?_
          obtain ⟨n10, f11, y14, e12, i13, g15, h⟩ := h
          refine h_aldR C 4 rfl rfl e12 i13 g15 dX9_isMixed_45 ?_
          refine q_iconst C (v := 1) dX9_isMixed_46 (by decide) ?_
          obtain ⟨n16, f17, e18, i19, h⟩ := h
          refine h_iald C e18 i19 dX9_isMixed_47 ?_
          refine q_aload_n C dX9_isMixed_48 0 rfl ?_
          obtain ⟨y20, e21, h⟩ := h
          refine h_get C inX9g (ci := 8) rfl 3 (by decide) fl_X9_24 rfl e21 dX9_isMixed_49 ?_
          refine q_iload_n C dX9_isMixed_52 3 rfl ?_
          obtain ⟨n22, f23, y26, e24, i25, g27, h⟩ := h
          refine h_aldR C 4 rfl rfl e24 i25 g27 dX9_isMixed_53 ?_
          refine q_iconst C (v := 0) dX9_isMixed_54 (by decide) ?_
          obtain ⟨n28, f29, e30, i31, h⟩ := h
          refine h_iald C e30 i31 dX9_isMixed_55 ?_
          refine q_icmp_ge C 61 dX9_isMixed_56 (by decide) h (fun h => ?_) (fun h => ?_)
          · exact bX9_isMixed_61 C (KL2 := KL2) (KL13 := (wX9_isMixed_13 K KL2 D.2 H n)) hret hKL2 ih _ _ _ _ h
          · refine q_iconst C (v := 1) dX9_isMixed_59 (by decide) ?_
            exact hret 1 _ _ rfl h dX9_isMixed_60
def wX9_isMixed_2 (K : Int32 → Prop) (Z : gZ) (H : gH) : Nat → Nat → Int32 → Int32 → Prop
  | 0, _, _, _ => False
  | n + 1, x0, x1, x2 =>
  ∃ y1 : Nat, gF H x0 8 3 (.ref y1) ∧ (∃ (n3 : Nat) (f4 : Nat → Option Nat), hpG H y1 = some (qE (zY Z 4) n3 f4) ∧ (((nI n3 ≤ x2 → K 0) ∧ (¬ nI n3 ≤ x2 → ∃ k9 : Nat, wX9_isMixed_13 K (wX9_isMixed_2 K Z H n) Z H k9 x0 x1 x2 0))))
set_option maxRecDepth 100000 in
set_option maxHeartbeats 4000000 in
theorem bX9_isMixed_2 {D : gD} {E : gE} {A : Nat → Prop} {Q : State → Prop} {H : gH} (C : CL D E rmX9_isMixed cX9_isMixed 4 RX9 A) {K : Int32 → Prop} (hret : ∀ (r : Int32) (pc : Nat) (ls : List (Nat × Value)), narrow .boolean (.int r) = .int r → K r → decode cX9_isMixed pc = .ok (.ireturn, 1) → Go D E A Q 4 0 0 ([] ++ hpW H) ls pc [.int r]) : ∀ (n : Nat) (x0 : Nat) (x1 : Int32) (x2 : Int32), wX9_isMixed_2 K D.2 H n x0 x1 x2 → Go D E A Q 4 0 0 ([] ++ hpW H) [(0, .ref x0), (1, .int x1), (2, .int x2)] 2 [] := by
  intro n
  induction n with
  | zero =>
    intro x0 x1 x2 h
    exact h.elim
  | succ n ih =>
    intro x0 x1 x2 h
    unfold wX9_isMixed_2 at h
    refine q_iload_n C dX9_isMixed_2 2 rfl ?_
    refine q_aload_n C dX9_isMixed_3 0 rfl ?_
    obtain ⟨y1, e2, h⟩ := h
    refine h_get C inX9g (ci := 8) rfl 3 (by decide) fl_X9_24 rfl e2 dX9_isMixed_4 ?_
    obtain ⟨n3, f4, e5, h⟩ := h
    refine h_alen C 4 rfl e5 dX9_isMixed_7 ?_
    refine q_icmp_ge C 73 dX9_isMixed_8 (by decide) h (fun h => ?_) (fun h => ?_)
    · refine q_iconst C (v := 0) dX9_isMixed_73 (by decide) ?_
      exact hret 0 _ _ rfl h dX9_isMixed_74
    · refine q_iconst C (v := 0) dX9_isMixed_11 (by decide) ?_
      refine q_istore_n C [(3, .int 0), (0, .ref x0), (1, .int x1), (2, .int x2)] dX9_isMixed_12 (by decide) rfl ?_
      refine q_ls [(0, .ref x0), (1, .int x1), (2, .int x2), (3, .int 0)] [1, 2, 3, 0] rfl ?_
      obtain ⟨nw, h⟩ := h
      exact bX9_isMixed_13 C (KL2 := (wX9_isMixed_2 K D.2 H n)) hret ih nw _ _ _ _ h
def wX9_isMixed (Z : gZ) (H : gH) (p : Nat) (p0 : Int32) (K : Int32 → Prop) : Prop :=
  ∃ k9 : Nat, wX9_isMixed_2 K Z H k9 p p0 0
set_option maxRecDepth 100000 in
set_option maxHeartbeats 4000000 in
theorem bX9_isMixed {D : gD} {E : gE} {A : Nat → Prop} {Q : State → Prop} {H : gH} (C : CL D E rmX9_isMixed cX9_isMixed 4 RX9 A) {K : Int32 → Prop} (hret : ∀ (r : Int32) (pc : Nat) (ls : List (Nat × Value)), narrow .boolean (.int r) = .int r → K r → decode cX9_isMixed pc = .ok (.ireturn, 1) → Go D E A Q 4 0 0 ([] ++ hpW H) ls pc [.int r]) (p : Nat) (p0 : Int32) (h : wX9_isMixed D.2 H p p0 K) : Go D E A Q 4 0 0 ([] ++ hpW H) [(0, .ref p), (1, .int p0)] 0 [] := by
  unfold wX9_isMixed at h
  refine q_iconst C (v := 0) dX9_isMixed_0 (by decide) ?_
  refine q_istore_n C [(2, .int 0), (0, .ref p), (1, .int p0)] dX9_isMixed_1 (by decide) rfl ?_
  refine q_ls [(0, .ref p), (1, .int p0), (2, .int 0)] [1, 2, 0] rfl ?_
  obtain ⟨nw, h⟩ := h
  exact bX9_isMixed_2 C  hret  nw _ _ _ h
theorem cX9_isMixed_ok (l : Launch) {D : gD} {H : gH} {p : Nat} {p0 : Int32} {K : Int32 → Prop} (h : wX9_isMixed D.2 H p p0 K) : CtI l D (gU (zY D.2)) yX9_isMixed cX9_isMixed 4 .boolean rmX9_isMixed [.ref p, .int p0] ([] ++ hpW H) (fun _ : Unit => [] ++ hpW H) (fun r _ => K r ) :=
  ct_startI (by decide +kernel) (Nat.le_of_ble_eq_true rfl) (fun E A Q hE C hret => bX9_isMixed C (fun r pc ls hn hk hd => hret r () pc ls hn hk hd) _ _ h)
abbrev rmX9_slidesOnto : Room := { frames := 0, cells := 0, slots := 0, locals := 0 }
def wX9_slidesOnto (Z : gZ) (H : gH) (p : Nat) (p0 : Int32) (p1 : Int32) (K : Int32 → Prop) : Prop :=
  ((p1 < 0 → K 0) ∧ (¬ p1 < 0 → ∃ y1 : Nat, gF H p 8 1 (.ref y1) ∧ (∃ (n3 : Nat) (f4 : Nat → Option Nat), hpG H y1 = some (qE (zY Z 5) n3 f4) ∧ (((p1 = nI n3 → K 0) ∧ (¬ p1 = nI n3 → ∃ y6 : Nat, gF H p 8 1 (.ref y6) ∧ (∃ (n8 : Nat) (f9 : Nat → Option Nat) (y12 : Nat), hpG H y6 = some (qE (zY Z 5) n8 f9) ∧ vp_in p1 n8 ∧ f9 p1.toNatClampNeg = some y12 ∧ (∃ (n14 : Nat) (f15 : Nat → Option Nat), hpG H y12 = some (qE (zY Z 4) n14 f15) ∧ (∃ y17 : Nat, gF H p 8 1 (.ref y17) ∧ (∃ (n19 : Nat) (f20 : Nat → Option Nat) (y23 : Nat), hpG H y17 = some (qE (zY Z 5) n19 f20) ∧ vp_in p0 n19 ∧ f20 p0.toNatClampNeg = some y23 ∧ (∃ (n25 : Nat) (f26 : Nat → Option Nat), hpG H y23 = some (qE (zY Z 4) n25 f26) ∧ (((nI n14 < (nI n25) + 4 → K 0) ∧ (¬ nI n14 < (nI n25) + 4 → ∃ y28 : Nat, gF H p 8 4 (.ref y28) ∧ (∃ (n30 : Nat) (f31 : Nat → Int32), hpG H y28 = some (iE (zY Z 3) n30 f31) ∧ vp_in p1 n30 ∧ (((f31 p1.toNatClampNeg = 0 → ∃ y34 : Nat, gF H p 8 1 (.ref y34) ∧ (∃ (n36 : Nat) (f37 : Nat → Option Nat) (y40 : Nat), hpG H y34 = some (qE (zY Z 5) n36 f37) ∧ vp_in p1 n36 ∧ f37 p1.toNatClampNeg = some y40 ∧ (∃ y42 : Nat, gF H p 8 1 (.ref y42) ∧ (∃ (n44 : Nat) (f45 : Nat → Option Nat) (y48 : Nat), hpG H y42 = some (qE (zY Z 5) n44 f45) ∧ vp_in p1 n44 ∧ f45 p1.toNatClampNeg = some y48 ∧ (∃ (n50 : Nat) (f51 : Nat → Option Nat), hpG H y48 = some (qE (zY Z 4) n50 f51) ∧ (∃ (n53 : Nat) (f54 : Nat → Option Nat) (y57 : Nat), hpG H y40 = some (qE (zY Z 4) n53 f54) ∧ vp_in ((nI n50) - 1) n53 ∧ f54 ((nI n50) - 1).toNatClampNeg = some y57 ∧ (∃ (n59 : Nat) (f60 : Nat → Int32), hpG H y57 = some (iE (zY Z 1) n59 f60) ∧ vp_in 2 n59 ∧ (((¬ f60 (2 : Int32).toNatClampNeg = 0 → K 0) ∧ (f60 (2 : Int32).toNatClampNeg = 0 → K 1)))))))))) ∧ (¬ f31 p1.toNatClampNeg = 0 → K 0))))))))))))))))))
set_option maxRecDepth 100000 in
set_option maxHeartbeats 4000000 in
theorem bX9_slidesOnto {D : gD} {E : gE} {A : Nat → Prop} {Q : State → Prop} {H : gH} (C : CL D E rmX9_slidesOnto cX9_slidesOnto 3 RX9 A) {K : Int32 → Prop} (hret : ∀ (r : Int32) (pc : Nat) (ls : List (Nat × Value)), narrow .boolean (.int r) = .int r → K r → decode cX9_slidesOnto pc = .ok (.ireturn, 1) → Go D E A Q 3 0 0 ([] ++ hpW H) ls pc [.int r]) (p : Nat) (p0 : Int32) (p1 : Int32) (h : wX9_slidesOnto D.2 H p p0 p1 K) : Go D E A Q 3 0 0 ([] ++ hpW H) [(0, .ref p), (1, .int p0), (2, .int p1)] 0 [] := by
  unfold wX9_slidesOnto at h
  refine q_iload_n C dX9_slidesOnto_0 2 rfl ?_
  refine q_if_lt C 41 dX9_slidesOnto_1 (by decide) h (fun h => ?_) (fun h => ?_)
  · refine q_iconst C (v := 0) dX9_slidesOnto_41 (by decide) ?_
    exact hret 0 _ _ rfl h dX9_slidesOnto_42
  · refine q_iload_n C dX9_slidesOnto_4 2 rfl ?_
    refine q_aload_n C dX9_slidesOnto_5 0 rfl ?_
    obtain ⟨y1, e2, h⟩ := h
    refine h_get C inX9g (ci := 8) rfl 1 (by decide) fl_X9_15 rfl e2 dX9_slidesOnto_6 ?_
    obtain ⟨n3, f4, e5, h⟩ := h
    refine h_alen C 5 rfl e5 dX9_slidesOnto_9 ?_
    refine q_icmp_eq C 41 dX9_slidesOnto_10 (by decide) h (fun h => ?_) (fun h => ?_)
    · refine q_iconst C (v := 0) dX9_slidesOnto_41 (by decide) ?_
      exact hret 0 _ _ rfl h dX9_slidesOnto_42
    · refine q_aload_n C dX9_slidesOnto_13 0 rfl ?_
      obtain ⟨y6, e7, h⟩ := h
      refine h_get C inX9g (ci := 8) rfl 1 (by decide) fl_X9_15 rfl e7 dX9_slidesOnto_14 ?_
      refine q_iload_n C dX9_slidesOnto_17 2 rfl ?_
      obtain ⟨n8, f9, y12, e10, i11, g13, h⟩ := h
      refine h_aldR C 5 rfl rfl e10 i11 g13 dX9_slidesOnto_18 ?_
      obtain ⟨n14, f15, e16, h⟩ := h
      refine h_alen C 4 rfl e16 dX9_slidesOnto_19 ?_
      refine q_aload_n C dX9_slidesOnto_20 0 rfl ?_
      obtain ⟨y17, e18, h⟩ := h
      refine h_get C inX9g (ci := 8) rfl 1 (by decide) fl_X9_15 rfl e18 dX9_slidesOnto_21 ?_
      refine q_iload_n C dX9_slidesOnto_24 1 rfl ?_
      obtain ⟨n19, f20, y23, e21, i22, g24, h⟩ := h
      refine h_aldR C 5 rfl rfl e21 i22 g24 dX9_slidesOnto_25 ?_
      obtain ⟨n25, f26, e27, h⟩ := h
      refine h_alen C 4 rfl e27 dX9_slidesOnto_26 ?_
      refine q_iconst C (v := 4) dX9_slidesOnto_27 (by decide) ?_
      refine q_iadd C dX9_slidesOnto_28 ?_
      refine q_icmp_lt C 41 dX9_slidesOnto_29 (by decide) h (fun h => ?_) (fun h => ?_)
      · refine q_iconst C (v := 0) dX9_slidesOnto_41 (by decide) ?_
        exact hret 0 _ _ rfl h dX9_slidesOnto_42
      · refine q_aload_n C dX9_slidesOnto_32 0 rfl ?_
        obtain ⟨y28, e29, h⟩ := h
        refine h_get C inX9g (ci := 8) rfl 4 (by decide) fl_X9_27 rfl e29 dX9_slidesOnto_33 ?_
        refine q_iload_n C dX9_slidesOnto_36 2 rfl ?_
        obtain ⟨n30, f31, e32, i33, h⟩ := h
        refine h_zald C e32 i33 dX9_slidesOnto_37 ?_
        refine q_if_eq C 43 dX9_slidesOnto_38 (by decide) h (fun h => ?_) (fun h => ?_)
        · refine q_aload_n C dX9_slidesOnto_43 0 rfl ?_
          obtain ⟨y34, e35, h⟩ := h
          refine h_get C inX9g (ci := 8) rfl 1 (by decide) fl_X9_15 rfl e35 dX9_slidesOnto_44 ?_
          refine q_iload_n C dX9_slidesOnto_47 2 rfl ?_
          obtain ⟨n36, f37, y40, e38, i39, g41, h⟩ := h
          refine h_aldR C 5 rfl rfl e38 i39 g41 dX9_slidesOnto_48 ?_
          refine q_aload_n C dX9_slidesOnto_49 0 rfl ?_
          obtain ⟨y42, e43, h⟩ := h
          refine h_get C inX9g (ci := 8) rfl 1 (by decide) fl_X9_15 rfl e43 dX9_slidesOnto_50 ?_
          refine q_iload_n C dX9_slidesOnto_53 2 rfl ?_
          obtain ⟨n44, f45, y48, e46, i47, g49, h⟩ := h
          refine h_aldR C 5 rfl rfl e46 i47 g49 dX9_slidesOnto_54 ?_
          obtain ⟨n50, f51, e52, h⟩ := h
          refine h_alen C 4 rfl e52 dX9_slidesOnto_55 ?_
          refine q_iconst C (v := 1) dX9_slidesOnto_56 (by decide) ?_
          refine q_isub C dX9_slidesOnto_57 ?_
          obtain ⟨n53, f54, y57, e55, i56, g58, h⟩ := h
          refine h_aldR C 4 rfl rfl e55 i56 g58 dX9_slidesOnto_58 ?_
          refine q_iconst C (v := 2) dX9_slidesOnto_59 (by decide) ?_
          obtain ⟨n59, f60, e61, i62, h⟩ := h
          refine h_iald C e61 i62 dX9_slidesOnto_60 ?_
          refine q_if_ne C 68 dX9_slidesOnto_61 (by decide) h (fun h => ?_) (fun h => ?_)
          · refine q_iconst C (v := 0) dX9_slidesOnto_68 (by decide) ?_
            exact hret 0 _ _ rfl h dX9_slidesOnto_69
          · refine q_iconst C (v := 1) dX9_slidesOnto_64 (by decide) ?_
            refine q_goto (tgt := 69) C dX9_slidesOnto_65 (by decide) ?_
            exact hret 1 _ _ rfl h dX9_slidesOnto_69
        · refine q_iconst C (v := 0) dX9_slidesOnto_41 (by decide) ?_
          exact hret 0 _ _ rfl h dX9_slidesOnto_42
theorem cX9_slidesOnto_ok (l : Launch) {D : gD} {H : gH} {p : Nat} {p0 : Int32} {p1 : Int32} {K : Int32 → Prop} (h : wX9_slidesOnto D.2 H p p0 p1 K) : CtI l D (gU (zY D.2)) yX9_slidesOnto cX9_slidesOnto 3 .boolean rmX9_slidesOnto [.ref p, .int p0, .int p1] ([] ++ hpW H) (fun _ : Unit => [] ++ hpW H) (fun r _ => K r ) :=
  ct_startI (by decide +kernel) (Nat.le_of_ble_eq_true rfl) (fun E A Q hE C hret => bX9_slidesOnto C (fun r pc ls hn hk hd => hret r () pc ls hn hk hd) _ _ _ h)
abbrev rmX9_left : Room := { frames := 0, cells := 0, slots := 0, locals := 0 }
def wX9_left_42 (K : Int32 → Prop) (KL16 : Int32 → Nat → Int32 → Int32 → Prop) (Z : gZ) (H : gH) (x3 : Nat) (x4 : Int32) (x5 : Int32) (z0 : Int32) (z1 : Int32) : Prop :=
  KL16 (z1 + z0) x3 x4 (x5 + 1)
set_option maxRecDepth 100000 in
set_option maxHeartbeats 4000000 in
theorem bX9_left_42 {D : gD} {E : gE} {A : Nat → Prop} {Q : State → Prop} {H : gH} (C : CL D E rmX9_left cX9_left 7 RX9 A) {K : Int32 → Prop} (hret : ∀ (r : Int32) (pc : Nat) (ls : List (Nat × Value)), K r → decode cX9_left pc = .ok (.ireturn, 1) → Go D E A Q 7 0 0 ([] ++ hpW H) ls pc [.int r]) {KL16 : Int32 → Nat → Int32 → Int32 → Prop} (hKL16 : ∀ (x2 : Int32) (x3 : Nat) (x4 : Int32) (x5 : Int32), KL16 x2 x3 x4 x5 → Go D E A Q 7 0 0 ([] ++ hpW H) [(2, .int x2), (3, .ref x3), (4, .int x4), (5, .int x5)] 16 []) : ∀ (x3 : Nat) (x4 : Int32) (x5 : Int32) (z0 : Int32) (z1 : Int32), wX9_left_42 K KL16 D.2 H x3 x4 x5 z0 z1 → Go D E A Q 7 0 0 ([] ++ hpW H) [(3, .ref x3), (4, .int x4), (5, .int x5)] 42 [.int z0, .int z1] := by
  intro x3 x4 x5 z0 z1 h
  unfold wX9_left_42 at h
  refine q_iadd C dX9_left_42 ?_
  refine q_istore_n C [(2, .int (z1 + z0)), (3, .ref x3), (4, .int x4), (5, .int x5)] dX9_left_43 (by decide) rfl ?_
  refine q_iinc C (v := x5 + 1) [(5, .int (x5 + 1)), (2, .int (z1 + z0)), (3, .ref x3), (4, .int x4)] dX9_left_44 3 rfl rfl (by decide) rfl ?_
  refine q_goto (tgt := 16) C dX9_left_47 (by decide) ?_
  refine q_ls [(2, .int (z1 + z0)), (3, .ref x3), (4, .int x4), (5, .int (x5 + 1))] [1, 2, 3, 0] rfl ?_
  exact hKL16 _ _ _ _ h
def wX9_left_16 (K : Int32 → Prop) (Z : gZ) (H : gH) : Nat → Int32 → Nat → Int32 → Int32 → Prop
  | 0, _, _, _, _ => False
  | n + 1, x2, x3, x4, x5 =>
  ((x4 ≤ x5 → K x2) ∧ (¬ x4 ≤ x5 → ∃ (n1 : Nat) (f2 : Nat → Option Nat) (y5 : Nat), hpG H x3 = some (qE (zY Z 4) n1 f2) ∧ vp_in x5 n1 ∧ f2 x5.toNatClampNeg = some y5 ∧ (∃ (n7 : Nat) (f8 : Nat → Int32), hpG H y5 = some (iE (zY Z 1) n7 f8) ∧ vp_in 1 n7 ∧ (((f8 (1 : Int32).toNatClampNeg < 0 → wX9_left_42 K (wX9_left_16 K Z H n) Z H x3 x4 x5 0 x2) ∧ (¬ f8 (1 : Int32).toNatClampNeg < 0 → wX9_left_42 K (wX9_left_16 K Z H n) Z H x3 x4 x5 1 x2))))))
set_option maxRecDepth 100000 in
set_option maxHeartbeats 4000000 in
theorem bX9_left_16 {D : gD} {E : gE} {A : Nat → Prop} {Q : State → Prop} {H : gH} (C : CL D E rmX9_left cX9_left 7 RX9 A) {K : Int32 → Prop} (hret : ∀ (r : Int32) (pc : Nat) (ls : List (Nat × Value)), K r → decode cX9_left pc = .ok (.ireturn, 1) → Go D E A Q 7 0 0 ([] ++ hpW H) ls pc [.int r]) : ∀ (n : Nat) (x2 : Int32) (x3 : Nat) (x4 : Int32) (x5 : Int32), wX9_left_16 K D.2 H n x2 x3 x4 x5 → Go D E A Q 7 0 0 ([] ++ hpW H) [(2, .int x2), (3, .ref x3), (4, .int x4), (5, .int x5)] 16 [] := by
  intro n
  induction n with
  | zero =>
    intro x2 x3 x4 x5 h
    exact h.elim
  | succ n ih =>
    intro x2 x3 x4 x5 h
    unfold wX9_left_16 at h
    refine q_iload C dX9_left_16 3 rfl ?_
    refine q_iload C dX9_left_18 2 rfl ?_
    refine q_icmp_ge C 50 dX9_left_20 (by decide) h (fun h => ?_) (fun h => ?_)
    · refine q_iload_n C dX9_left_50 0 rfl ?_
      exact hret x2 _ _ h dX9_left_51
    · refine q_aload_n C dX9_left_23 1 rfl ?_
      refine q_iload C dX9_left_24 3 rfl ?_
      obtain ⟨n1, f2, y5, e3, i4, g6, h⟩ := h
      refine h_aldR C 4 rfl rfl e3 i4 g6 dX9_left_26 ?_
      refine q_astore C [(6, .ref y5), (2, .int x2), (3, .ref x3), (4, .int x4), (5, .int x5)] dX9_left_27 (by decide) rfl ?_
      refine q_iload_n C dX9_left_29 1 rfl ?_
      refine q_aload C dX9_left_30 0 rfl ?_
      refine q_iconst C (v := 1) dX9_left_32 (by decide) ?_
      obtain ⟨n7, f8, e9, i10, h⟩ := h
      refine h_iald C e9 i10 dX9_left_33 ?_
      refine q_if_lt C 41 dX9_left_34 (by decide) h (fun h => ?_) (fun h => ?_)
      · refine q_iconst C (v := 0) dX9_left_41 (by decide) ?_
        refine q_ls [(3, .ref x3), (4, .int x4), (5, .int x5)] [2, 3, 4] rfl ?_
        exact bX9_left_42 C (KL16 := (wX9_left_16 K D.2 H n)) hret ih _ _ _ _ _ h
      · refine q_iconst C (v := 1) dX9_left_37 (by decide) ?_
        refine q_goto (tgt := 42) C dX9_left_38 (by decide) ?_
        refine q_ls [(3, .ref x3), (4, .int x4), (5, .int x5)] [2, 3, 4] rfl ?_
        exact bX9_left_42 C (KL16 := (wX9_left_16 K D.2 H n)) hret ih _ _ _ _ _ h
def wX9_left (Z : gZ) (H : gH) (p : Nat) (p0 : Int32) (K : Int32 → Prop) : Prop :=
  ∃ y1 : Nat, gF H p 8 1 (.ref y1) ∧ (∃ (n3 : Nat) (f4 : Nat → Option Nat) (y7 : Nat), hpG H y1 = some (qE (zY Z 5) n3 f4) ∧ vp_in p0 n3 ∧ f4 p0.toNatClampNeg = some y7 ∧ (∃ (n9 : Nat) (f10 : Nat → Option Nat), hpG H y7 = some (qE (zY Z 4) n9 f10) ∧ (∃ k9 : Nat, wX9_left_16 K Z H k9 0 y7 (nI n9) 0)))
set_option maxRecDepth 100000 in
set_option maxHeartbeats 4000000 in
theorem bX9_left {D : gD} {E : gE} {A : Nat → Prop} {Q : State → Prop} {H : gH} (C : CL D E rmX9_left cX9_left 7 RX9 A) {K : Int32 → Prop} (hret : ∀ (r : Int32) (pc : Nat) (ls : List (Nat × Value)), K r → decode cX9_left pc = .ok (.ireturn, 1) → Go D E A Q 7 0 0 ([] ++ hpW H) ls pc [.int r]) (p : Nat) (p0 : Int32) (h : wX9_left D.2 H p p0 K) : Go D E A Q 7 0 0 ([] ++ hpW H) [(0, .ref p), (1, .int p0)] 0 [] := by
  unfold wX9_left at h
  refine q_iconst C (v := 0) dX9_left_0 (by decide) ?_
  refine q_istore_n C [(2, .int 0), (0, .ref p), (1, .int p0)] dX9_left_1 (by decide) rfl ?_
  refine q_aload_n C dX9_left_2 1 rfl ?_
  obtain ⟨y1, e2, h⟩ := h
  refine h_get C inX9g (ci := 8) rfl 1 (by decide) fl_X9_15 rfl e2 dX9_left_3 ?_
  refine q_iload_n C dX9_left_6 2 rfl ?_
  obtain ⟨n3, f4, y7, e5, i6, g8, h⟩ := h
  refine h_aldR C 5 rfl rfl e5 i6 g8 dX9_left_7 ?_
  refine q_astore_n C [(3, .ref y7), (2, .int 0), (0, .ref p), (1, .int p0)] dX9_left_8 (by decide) rfl ?_
  refine q_aload_n C dX9_left_9 0 rfl ?_
  obtain ⟨n9, f10, e11, h⟩ := h
  refine h_alen C 4 rfl e11 dX9_left_10 ?_
  refine q_istore C [(4, .int (nI n9)), (3, .ref y7), (2, .int 0), (0, .ref p), (1, .int p0)] dX9_left_11 (by decide) rfl ?_
  refine q_iconst C (v := 0) dX9_left_13 (by decide) ?_
  refine q_istore C [(5, .int 0), (4, .int (nI n9)), (3, .ref y7), (2, .int 0), (0, .ref p), (1, .int p0)] dX9_left_14 (by decide) rfl ?_
  refine q_ls [(2, .int 0), (3, .ref y7), (4, .int (nI n9)), (5, .int 0)] [3, 2, 1, 0] rfl ?_
  obtain ⟨nw, h⟩ := h
  exact bX9_left_16 C  hret  nw _ _ _ _ h
theorem cX9_left_ok (l : Launch) {D : gD} {H : gH} {p : Nat} {p0 : Int32} {K : Int32 → Prop} (h : wX9_left D.2 H p p0 K) : CtI l D (gU (zY D.2)) yX9_left cX9_left 7 .int rmX9_left [.ref p, .int p0] ([] ++ hpW H) (fun _ : Unit => [] ++ hpW H) (fun r _ => K r ) :=
  ct_startI (by decide +kernel) (Nat.le_of_ble_eq_true rfl) (fun E A Q hE C hret => bX9_left C (fun r pc ls hk hd => hret r () pc ls rfl hk hd) _ _ h)
abbrev rmX9_with (bc bs : Nat) : Room := { frames := 0, cells := bc, slots := bs, locals := 0 }
def wX9_with_10 (K : Nat → gH → Prop) (Z : gZ) : Nat → gH → Nat → Nat → Nat → Nat → Nat → Int32 → Prop
  | 0, _, _, _, _, _, _, _ => False
  | n + 1, H, bc, bs, x0, x1, x2, x3 =>
  ∃ (n1 : Nat) (f2 : Nat → Option Nat), hpG H x0 = some (qE (zY Z 4) n1 f2) ∧ (((nI n1 ≤ x3 → ∃ (n4 : Nat) (f5 : Nat → Option Nat), hpG H x0 = some (qE (zY Z 4) n4 f5) ∧ (∃ (n7 : Nat) (f8 : Nat → Option Nat) (m11 : Nat) (k12 : Nat → Int32), hpG H x2 = some (qE (zY Z 4) n7 f8) ∧ vp_in (nI n4) n7 ∧ hpG H x1 = some (iE (zY Z 1) m11 k12) ∧ (K x2 (hpS H x2 (qE (zY Z 4) n7 (va_up f8 (nI n4).toNatClampNeg (some x1))))))) ∧ (¬ nI n1 ≤ x3 → ∃ (n14 : Nat) (f15 : Nat → Option Nat) (y18 : Nat), hpG H x0 = some (qE (zY Z 4) n14 f15) ∧ vp_in x3 n14 ∧ f15 x3.toNatClampNeg = some y18 ∧ (∃ (n20 : Nat) (f21 : Nat → Option Nat) (m24 : Nat) (k25 : Nat → Int32), hpG H x2 = some (qE (zY Z 4) n20 f21) ∧ vp_in x3 n20 ∧ hpG H y18 = some (iE (zY Z 1) m24 k25) ∧ (wX9_with_10 K Z n (hpS H x2 (qE (zY Z 4) n20 (va_up f21 x3.toNatClampNeg (some y18)))) bc bs x0 x1 x2 (x3 + 1))))))
set_option maxRecDepth 100000 in
set_option maxHeartbeats 4000000 in
theorem bX9_with_10 {D : gD} {E : gE} {A : Nat → Prop} {Q : State → Prop} {bc0 bs0 : Nat} (C : CL D E (rmX9_with bc0 bs0) cX9_with 4 RX9 A) {K : Nat → gH → Prop} (hret : ∀ (r : Nat) (H : gH) (pc : Nat) (ls : List (Nat × Value)), K r H → decode cX9_with pc = .ok (.areturn, 1) → Go D E A Q 4 bc0 bs0 ([] ++ hpW H) ls pc [.ref r]) : ∀ (n : Nat) (cells slots : Nat) (H : gH) (bc : Nat) (bs : Nat) (x0 : Nat) (x1 : Nat) (x2 : Nat) (x3 : Int32), cells + bc ≤ bc0 → slots + bs ≤ bs0 → wX9_with_10 K D.2 n H bc bs x0 x1 x2 x3 → Go D E A Q 4 cells slots ([] ++ hpW H) [(0, .ref x0), (1, .ref x1), (2, .ref x2), (3, .int x3)] 10 [] := by
  intro n
  induction n with
  | zero =>
    intro cells slots H bc bs x0 x1 x2 x3 hbc hbs h
    exact h.elim
  | succ n ih =>
    intro cells slots H bc bs x0 x1 x2 x3 hbc hbs h
    unfold wX9_with_10 at h
    refine q_iload_n C dX9_with_10 3 rfl ?_
    refine q_aload_n C dX9_with_11 0 rfl ?_
    obtain ⟨n1, f2, e3, h⟩ := h
    refine h_alen C 4 rfl e3 dX9_with_12 ?_
    refine q_icmp_ge C 28 dX9_with_13 (by decide) h (fun h => ?_) (fun h => ?_)
    · refine q_aload_n C dX9_with_28 2 rfl ?_
      refine q_aload_n C dX9_with_29 0 rfl ?_
      obtain ⟨n4, f5, e6, h⟩ := h
      refine h_alen C 4 rfl e6 dX9_with_30 ?_
      refine q_aload_n C dX9_with_31 1 rfl ?_
      obtain ⟨n7, f8, m11, k12, e9, i10, v13, h⟩ := h
      refine h_astA C 4 C.hF.2.2.2.2.1.1 rfl e9 v13 i10 dX9_with_32 ?_
      refine q_aload_n C dX9_with_33 2 rfl ?_
      refine q_widen (k := bc0) (n := bs0) (by omega) (by omega) ?_
      exact hret x2 (hpS H x2 (qE (zY D.2 4) n7 (va_up f8 (nI n4).toNatClampNeg (some x1)))) _ _ h dX9_with_34
    · refine q_aload_n C dX9_with_16 2 rfl ?_
      refine q_iload_n C dX9_with_17 3 rfl ?_
      refine q_aload_n C dX9_with_18 0 rfl ?_
      refine q_iload_n C dX9_with_19 3 rfl ?_
      obtain ⟨n14, f15, y18, e16, i17, g19, h⟩ := h
      refine h_aldR C 4 rfl rfl e16 i17 g19 dX9_with_20 ?_
      obtain ⟨n20, f21, m24, k25, e22, i23, v26, h⟩ := h
      refine h_astA C 4 C.hF.2.2.2.2.1.1 rfl e22 v26 i23 dX9_with_21 ?_
      refine q_iinc C (v := x3 + 1) [(3, .int (x3 + 1)), (0, .ref x0), (1, .ref x1), (2, .ref x2)] dX9_with_22 3 rfl rfl (by decide) rfl ?_
      refine q_goto (tgt := 10) C dX9_with_25 (by decide) ?_
      refine q_ls [(0, .ref x0), (1, .ref x1), (2, .ref x2), (3, .int (x3 + 1))] [1, 2, 3, 0] rfl ?_
      exact ih cells slots _ _ _ _ _ _ _ (by omega) (by omega) h
def wX9_with (Z : gZ) (H : gH) (bc : Nat) (bs : Nat) (p0 : Nat) (p1 : Nat) (K : Nat → gH → Prop) : Prop :=
  ∃ (n1 : Nat) (f2 : Nat → Option Nat), hpG H p0 = some (qE (zY Z 4) n1 f2) ∧ (¬ ((nI n1) + 1) < 0 ∧ ((nI n1) + 1).toNatClampNeg * 4 ≤ 536870912 ∧ 1 ≤ bc ∧ ((nI n1) + 1).toNatClampNeg ≤ bs ∧ (∀ q4 : Nat, hpG H q4 = none → (∃ k9 : Nat, wX9_with_10 K Z k9 (hpN H q4 (qE (zY Z 4) ((nI n1) + 1).toNatClampNeg (fun _ => none))) (bc - 1) (bs - ((nI n1) + 1).toNatClampNeg) p0 p1 q4 0)))
set_option maxRecDepth 100000 in
set_option maxHeartbeats 4000000 in
theorem bX9_with {D : gD} {E : gE} {A : Nat → Prop} {Q : State → Prop} {bc0 bs0 : Nat} (C : CL D E (rmX9_with bc0 bs0) cX9_with 4 RX9 A) {K : Nat → gH → Prop} (hret : ∀ (r : Nat) (H : gH) (pc : Nat) (ls : List (Nat × Value)), K r H → decode cX9_with pc = .ok (.areturn, 1) → Go D E A Q 4 bc0 bs0 ([] ++ hpW H) ls pc [.ref r]) (cells slots : Nat) (H : gH) (bc : Nat) (bs : Nat) (p0 : Nat) (p1 : Nat) (hbc : cells + bc ≤ bc0) (hbs : slots + bs ≤ bs0) (h : wX9_with D.2 H bc bs p0 p1 K) : Go D E A Q 4 cells slots ([] ++ hpW H) [(0, .ref p0), (1, .ref p1)] 0 [] := by
  unfold wX9_with at h
  refine q_aload_n C dX9_with_0 0 rfl ?_
  obtain ⟨n1, f2, e3, h⟩ := h
  refine h_alen C 4 rfl e3 dX9_with_1 ?_
  refine q_iconst C (v := 1) dX9_with_2 (by decide) ?_
  refine q_iadd C dX9_with_3 ?_
  obtain ⟨b3, b4, b1, b2, h⟩ := h
  refine h_anewA C 4 rfl cl_X9_19 C.hF.2.2.2.2.1.2.2.1 dX9_with_4 b3 b4 ⟨by show cells + 1 ≤ bc0; omega, by show slots + ((nI n1) + 1).toNatClampNeg ≤ bs0; omega⟩ (fun q4 g5 => ?_)
  replace h := h q4 g5
  refine q_astore_n C [(2, .ref q4), (0, .ref p0), (1, .ref p1)] dX9_with_7 (by decide) rfl ?_
  refine q_iconst C (v := 0) dX9_with_8 (by decide) ?_
  refine q_istore_n C [(3, .int 0), (2, .ref q4), (0, .ref p0), (1, .ref p1)] dX9_with_9 (by decide) rfl ?_
  refine q_ls [(0, .ref p0), (1, .ref p1), (2, .ref q4), (3, .int 0)] [2, 3, 1, 0] rfl ?_
  obtain ⟨nw, h⟩ := h
  exact bX9_with_10 C  hret  nw (cells + 1) (slots + ((nI n1) + 1).toNatClampNeg) _ _ _ _ _ _ _ (by omega) (by omega) h
theorem cX9_with_ok (l : Launch) {D : gD} {H : gH} {bc : Nat} {bs : Nat} {p0 : Nat} {p1 : Nat} {K : Nat → gH → Prop} (h : wX9_with D.2 H bc bs p0 p1 K) : CtQ l D (gU (zY D.2)) yX9_with cX9_with 4 (.array (.array .int)) (rmX9_with bc bs) [.ref p0, .ref p1] ([] ++ hpW H) (fun u : gH => [] ++ hpW u) (fun r u => K r u) :=
  ct_startQ (Or.inr ⟨_, rfl⟩) (by decide +kernel) (Nat.le_of_ble_eq_true rfl) (fun E A Q hE C hret => bX9_with C (fun r H pc ls hk hd => hret r H pc ls hk hd) 0 0 _ _ _ _ _ (by omega) (by omega) h)
abbrev rmX9_less (bc bs : Nat) : Room := { frames := 0, cells := bc, slots := bs, locals := 0 }
def wX9_less_10 (K : Nat → gH → Prop) (Z : gZ) : Nat → gH → Nat → Nat → Nat → Nat → Int32 → Prop
  | 0, _, _, _, _, _, _ => False
  | n + 1, H, bc, bs, x0, x1, x2 =>
  ∃ (n1 : Nat) (f2 : Nat → Option Nat), hpG H x1 = some (qE (zY Z 4) n1 f2) ∧ (((nI n1 ≤ x2 → K x1 H) ∧ (¬ nI n1 ≤ x2 → ∃ (n4 : Nat) (f5 : Nat → Option Nat) (y8 : Nat), hpG H x0 = some (qE (zY Z 4) n4 f5) ∧ vp_in x2 n4 ∧ f5 x2.toNatClampNeg = some y8 ∧ (∃ (n10 : Nat) (f11 : Nat → Option Nat) (m14 : Nat) (k15 : Nat → Int32), hpG H x1 = some (qE (zY Z 4) n10 f11) ∧ vp_in x2 n10 ∧ hpG H y8 = some (iE (zY Z 1) m14 k15) ∧ (wX9_less_10 K Z n (hpS H x1 (qE (zY Z 4) n10 (va_up f11 x2.toNatClampNeg (some y8)))) bc bs x0 x1 (x2 + 1))))))
set_option maxRecDepth 100000 in
set_option maxHeartbeats 4000000 in
theorem bX9_less_10 {D : gD} {E : gE} {A : Nat → Prop} {Q : State → Prop} {bc0 bs0 : Nat} (C : CL D E (rmX9_less bc0 bs0) cX9_less 3 RX9 A) {K : Nat → gH → Prop} (hret : ∀ (r : Nat) (H : gH) (pc : Nat) (ls : List (Nat × Value)), K r H → decode cX9_less pc = .ok (.areturn, 1) → Go D E A Q 3 bc0 bs0 ([] ++ hpW H) ls pc [.ref r]) : ∀ (n : Nat) (cells slots : Nat) (H : gH) (bc : Nat) (bs : Nat) (x0 : Nat) (x1 : Nat) (x2 : Int32), cells + bc ≤ bc0 → slots + bs ≤ bs0 → wX9_less_10 K D.2 n H bc bs x0 x1 x2 → Go D E A Q 3 cells slots ([] ++ hpW H) [(0, .ref x0), (1, .ref x1), (2, .int x2)] 10 [] := by
  intro n
  induction n with
  | zero =>
    intro cells slots H bc bs x0 x1 x2 hbc hbs h
    exact h.elim
  | succ n ih =>
    intro cells slots H bc bs x0 x1 x2 hbc hbs h
    unfold wX9_less_10 at h
    refine q_iload_n C dX9_less_10 2 rfl ?_
    refine q_aload_n C dX9_less_11 1 rfl ?_
    obtain ⟨n1, f2, e3, h⟩ := h
    refine h_alen C 4 rfl e3 dX9_less_12 ?_
    refine q_icmp_ge C 28 dX9_less_13 (by decide) h (fun h => ?_) (fun h => ?_)
    · refine q_aload_n C dX9_less_28 1 rfl ?_
      refine q_widen (k := bc0) (n := bs0) (by omega) (by omega) ?_
      exact hret x1 H _ _ h dX9_less_29
    · refine q_aload_n C dX9_less_16 1 rfl ?_
      refine q_iload_n C dX9_less_17 2 rfl ?_
      refine q_aload_n C dX9_less_18 0 rfl ?_
      refine q_iload_n C dX9_less_19 2 rfl ?_
      obtain ⟨n4, f5, y8, e6, i7, g9, h⟩ := h
      refine h_aldR C 4 rfl rfl e6 i7 g9 dX9_less_20 ?_
      obtain ⟨n10, f11, m14, k15, e12, i13, v16, h⟩ := h
      refine h_astA C 4 C.hF.2.2.2.2.1.1 rfl e12 v16 i13 dX9_less_21 ?_
      refine q_iinc C (v := x2 + 1) [(2, .int (x2 + 1)), (0, .ref x0), (1, .ref x1)] dX9_less_22 2 rfl rfl (by decide) rfl ?_
      refine q_goto (tgt := 10) C dX9_less_25 (by decide) ?_
      refine q_ls [(0, .ref x0), (1, .ref x1), (2, .int (x2 + 1))] [1, 2, 0] rfl ?_
      exact ih cells slots _ _ _ _ _ _ (by omega) (by omega) h
def wX9_less (Z : gZ) (H : gH) (bc : Nat) (bs : Nat) (p0 : Nat) (K : Nat → gH → Prop) : Prop :=
  ∃ (n1 : Nat) (f2 : Nat → Option Nat), hpG H p0 = some (qE (zY Z 4) n1 f2) ∧ (¬ ((nI n1) - 1) < 0 ∧ ((nI n1) - 1).toNatClampNeg * 4 ≤ 536870912 ∧ 1 ≤ bc ∧ ((nI n1) - 1).toNatClampNeg ≤ bs ∧ (∀ q4 : Nat, hpG H q4 = none → (∃ k9 : Nat, wX9_less_10 K Z k9 (hpN H q4 (qE (zY Z 4) ((nI n1) - 1).toNatClampNeg (fun _ => none))) (bc - 1) (bs - ((nI n1) - 1).toNatClampNeg) p0 q4 0)))
set_option maxRecDepth 100000 in
set_option maxHeartbeats 4000000 in
theorem bX9_less {D : gD} {E : gE} {A : Nat → Prop} {Q : State → Prop} {bc0 bs0 : Nat} (C : CL D E (rmX9_less bc0 bs0) cX9_less 3 RX9 A) {K : Nat → gH → Prop} (hret : ∀ (r : Nat) (H : gH) (pc : Nat) (ls : List (Nat × Value)), K r H → decode cX9_less pc = .ok (.areturn, 1) → Go D E A Q 3 bc0 bs0 ([] ++ hpW H) ls pc [.ref r]) (cells slots : Nat) (H : gH) (bc : Nat) (bs : Nat) (p0 : Nat) (hbc : cells + bc ≤ bc0) (hbs : slots + bs ≤ bs0) (h : wX9_less D.2 H bc bs p0 K) : Go D E A Q 3 cells slots ([] ++ hpW H) [(0, .ref p0)] 0 [] := by
  unfold wX9_less at h
  refine q_aload_n C dX9_less_0 0 rfl ?_
  obtain ⟨n1, f2, e3, h⟩ := h
  refine h_alen C 4 rfl e3 dX9_less_1 ?_
  refine q_iconst C (v := 1) dX9_less_2 (by decide) ?_
  refine q_isub C dX9_less_3 ?_
  obtain ⟨b3, b4, b1, b2, h⟩ := h
  refine h_anewA C 4 rfl cl_X9_19 C.hF.2.2.2.2.1.2.2.1 dX9_less_4 b3 b4 ⟨by show cells + 1 ≤ bc0; omega, by show slots + ((nI n1) - 1).toNatClampNeg ≤ bs0; omega⟩ (fun q4 g5 => ?_)
  replace h := h q4 g5
  refine q_astore_n C [(1, .ref q4), (0, .ref p0)] dX9_less_7 (by decide) rfl ?_
  refine q_iconst C (v := 0) dX9_less_8 (by decide) ?_
  refine q_istore_n C [(2, .int 0), (1, .ref q4), (0, .ref p0)] dX9_less_9 (by decide) rfl ?_
  refine q_ls [(0, .ref p0), (1, .ref q4), (2, .int 0)] [2, 1, 0] rfl ?_
  obtain ⟨nw, h⟩ := h
  exact bX9_less_10 C  hret  nw (cells + 1) (slots + ((nI n1) - 1).toNatClampNeg) _ _ _ _ _ _ (by omega) (by omega) h
theorem cX9_less_ok (l : Launch) {D : gD} {H : gH} {bc : Nat} {bs : Nat} {p0 : Nat} {K : Nat → gH → Prop} (h : wX9_less D.2 H bc bs p0 K) : CtQ l D (gU (zY D.2)) yX9_less cX9_less 3 (.array (.array .int)) (rmX9_less bc bs) [.ref p0] ([] ++ hpW H) (fun u : gH => [] ++ hpW u) (fun r u => K r u) :=
  ct_startQ (Or.inr ⟨_, rfl⟩) (by decide +kernel) (Nat.le_of_ble_eq_true rfl) (fun E A Q hE C hret => bX9_less C (fun r H pc ls hk hd => hret r H pc ls hk hd) 0 0 _ _ _ _ (by omega) (by omega) h)
abbrev rmX9_settle (bc bs : Nat) : Room := { frames := 1, cells := bc, slots := bs, locals := 23 }
def wX9_settle_48 (K : Int32 → gH → Prop) (KL4 : gH → Nat → Nat → Nat → Int32 → Int32 → Prop) (Z : gZ) (H : gH) (bc : Nat) (bs : Nat) (x0 : Nat) (x1 : Int32) (x2 : Int32) (z0 : Int32) : Prop :=
  ((0 ≤ z0 → ∃ y1 : Nat, gF H x0 8 1 (.ref y1) ∧ (∃ (n3 : Nat) (f4 : Nat → Option Nat) (y7 : Nat), hpG H y1 = some (qE (zY Z 5) n3 f4) ∧ vp_in z0 n3 ∧ f4 z0.toNatClampNeg = some y7 ∧ (∃ y9 : Nat, gF H x0 8 1 (.ref y9) ∧ (∃ (n11 : Nat) (f12 : Nat → Option Nat) (y15 : Nat), hpG H y9 = some (qE (zY Z 5) n11 f12) ∧ vp_in z0 n11 ∧ f12 z0.toNatClampNeg = some y15 ∧ (∃ (n17 : Nat) (f18 : Nat → Option Nat), hpG H y15 = some (qE (zY Z 4) n17 f18) ∧ (∃ (n20 : Nat) (f21 : Nat → Option Nat) (y24 : Nat), hpG H y7 = some (qE (zY Z 4) n20 f21) ∧ vp_in ((nI n17) - 1) n20 ∧ f21 ((nI n17) - 1).toNatClampNeg = some y24 ∧ (∃ (n26 : Nat) (f27 : Nat → Int32), hpG H y24 = some (iE (zY Z 1) n26 f27) ∧ vp_in 3 n26 ∧ (∃ y30 : Nat, gF (hpS H y24 (iE (zY Z 1) n26 (upd f27 (3 : Int32).toNatClampNeg 1))) x0 8 1 (.ref y30) ∧ (∃ y32 : Nat, gF (hpS H y24 (iE (zY Z 1) n26 (upd f27 (3 : Int32).toNatClampNeg 1))) x0 8 1 (.ref y32) ∧ (∃ (n34 : Nat) (f35 : Nat → Option Nat) (y38 : Nat), hpG (hpS H y24 (iE (zY Z 1) n26 (upd f27 (3 : Int32).toNatClampNeg 1))) y32 = some (qE (zY Z 5) n34 f35) ∧ vp_in z0 n34 ∧ f35 z0.toNatClampNeg = some y38 ∧ (∃ (c40 s40 : Nat), c40 ≤ bc ∧ s40 ≤ bs ∧ wX9_less Z (hpS H y24 (iE (zY Z 1) n26 (upd f27 (3 : Int32).toNatClampNeg 1))) c40 s40 y38 (fun r40 H40 => ∃ (n41 : Nat) (f42 : Nat → Option Nat) (m45 : Nat) (k46 : Nat → Option Nat), hpG H40 y30 = some (qE (zY Z 5) n41 f42) ∧ vp_in z0 n41 ∧ hpG H40 r40 = some (qE (zY Z 4) m45 k46) ∧ (∃ y48 : Nat, gF (hpS H40 y30 (qE (zY Z 5) n41 (va_up f42 z0.toNatClampNeg (some r40)))) x0 8 1 (.ref y48) ∧ (∃ y50 : Nat, gF (hpS H40 y30 (qE (zY Z 5) n41 (va_up f42 z0.toNatClampNeg (some r40)))) x0 8 1 (.ref y50) ∧ (∃ (n52 : Nat) (f53 : Nat → Option Nat) (y56 : Nat), hpG (hpS H40 y30 (qE (zY Z 5) n41 (va_up f42 z0.toNatClampNeg (some r40)))) y50 = some (qE (zY Z 5) n52 f53) ∧ vp_in ((x2 + 1) - 1) n52 ∧ f53 ((x2 + 1) - 1).toNatClampNeg = some y56 ∧ (∃ (c58 s58 : Nat), c58 ≤ (bc - c40) ∧ s58 ≤ (bs - s40) ∧ wX9_with Z (hpS H40 y30 (qE (zY Z 5) n41 (va_up f42 z0.toNatClampNeg (some r40)))) c58 s58 y56 y24 (fun r58 H58 => ∃ (n59 : Nat) (f60 : Nat → Option Nat) (m63 : Nat) (k64 : Nat → Option Nat), hpG H58 y48 = some (qE (zY Z 5) n59 f60) ∧ vp_in ((x2 + 1) - 1) n59 ∧ hpG H58 r58 = some (qE (zY Z 4) m63 k64) ∧ (KL4 (hpS H58 y48 (qE (zY Z 5) n59 (va_up f60 ((x2 + 1) - 1).toNatClampNeg (some r58)))) ((bc - c40) - c58) ((bs - s40) - s58) x0 (x1 + 1) 0)))))))))))))))))) ∧ (¬ 0 ≤ z0 → KL4 H bc bs x0 x1 (x2 + 1)))
set_option maxRecDepth 100000 in
set_option maxHeartbeats 4000000 in
theorem bX9_settle_48 {D : gD} {E : gE} {A : Nat → Prop} {Q : State → Prop} {bc0 bs0 : Nat} (C : CL D E (rmX9_settle bc0 bs0) cX9_settle 5 RX9 A) {K : Int32 → gH → Prop} (hret : ∀ (r : Int32) (H : gH) (pc : Nat) (ls : List (Nat × Value)), K r H → decode cX9_settle pc = .ok (.ireturn, 1) → Go D E A Q 5 bc0 bs0 ([] ++ hpW H) ls pc [.int r]) {KL4 : gH → Nat → Nat → Nat → Int32 → Int32 → Prop} (hKL4 : ∀ (cells slots : Nat) (H : gH) (bc : Nat) (bs : Nat) (x0 : Nat) (x1 : Int32) (x2 : Int32), cells + bc ≤ bc0 → slots + bs ≤ bs0 → KL4 H bc bs x0 x1 x2 → Go D E A Q 5 cells slots ([] ++ hpW H) [(0, .ref x0), (1, .int x1), (2, .int x2)] 4 []) : ∀ (cells slots : Nat) (H : gH) (bc : Nat) (bs : Nat) (x0 : Nat) (x1 : Int32) (x2 : Int32) (z0 : Int32), cells + bc ≤ bc0 → slots + bs ≤ bs0 → wX9_settle_48 K KL4 D.2 H bc bs x0 x1 x2 z0 → Go D E A Q 5 cells slots ([] ++ hpW H) [(0, .ref x0), (1, .int x1), (2, .int x2)] 48 [.int z0] := by
  intro cells slots H bc bs x0 x1 x2 z0 hbc hbs h
  unfold wX9_settle_48 at h
  refine q_istore_n C [(3, .int z0), (0, .ref x0), (1, .int x1), (2, .int x2)] dX9_settle_48 (by decide) rfl ?_
  refine q_iinc C (v := x2 + 1) [(2, .int (x2 + 1)), (3, .int z0), (0, .ref x0), (1, .int x1)] dX9_settle_49 3 rfl rfl (by decide) rfl ?_
  refine q_iload_n C dX9_settle_52 1 rfl ?_
  refine q_if_ge C 59 dX9_settle_53 (by decide) h (fun h => ?_) (fun h => ?_)
  · refine q_aload_n C dX9_settle_59 2 rfl ?_
    obtain ⟨y1, e2, h⟩ := h
    refine h_get C inX9g (ci := 8) rfl 1 (by decide) fl_X9_15 rfl e2 dX9_settle_60 ?_
    refine q_iload_n C dX9_settle_63 1 rfl ?_
    obtain ⟨n3, f4, y7, e5, i6, g8, h⟩ := h
    refine h_aldR C 5 rfl rfl e5 i6 g8 dX9_settle_64 ?_
    refine q_aload_n C dX9_settle_65 2 rfl ?_
    obtain ⟨y9, e10, h⟩ := h
    refine h_get C inX9g (ci := 8) rfl 1 (by decide) fl_X9_15 rfl e10 dX9_settle_66 ?_
    refine q_iload_n C dX9_settle_69 1 rfl ?_
    obtain ⟨n11, f12, y15, e13, i14, g16, h⟩ := h
    refine h_aldR C 5 rfl rfl e13 i14 g16 dX9_settle_70 ?_
    obtain ⟨n17, f18, e19, h⟩ := h
    refine h_alen C 4 rfl e19 dX9_settle_71 ?_
    refine q_iconst C (v := 1) dX9_settle_72 (by decide) ?_
    refine q_isub C dX9_settle_73 ?_
    obtain ⟨n20, f21, y24, e22, i23, g25, h⟩ := h
    refine h_aldR C 4 rfl rfl e22 i23 g25 dX9_settle_74 ?_
    refine q_astore C [(4, .ref y24), (2, .int (x2 + 1)), (3, .int z0), (0, .ref x0), (1, .int x1)] dX9_settle_75 (by decide) rfl ?_
    refine q_aload C dX9_settle_77 0 rfl ?_
    refine q_iconst C (v := 3) dX9_settle_79 (by decide) ?_
    refine q_iconst C (v := 1) dX9_settle_80 (by decide) ?_
    obtain ⟨n26, f27, e28, i29, h⟩ := h
    refine h_iast C e28 i29 dX9_settle_81 ?_
    refine q_aload_n C dX9_settle_82 3 rfl ?_
    obtain ⟨y30, e31, h⟩ := h
    refine h_get C inX9g (ci := 8) rfl 1 (by decide) fl_X9_15 rfl e31 dX9_settle_83 ?_
    refine q_iload_n C dX9_settle_86 2 rfl ?_
    refine q_aload_n C dX9_settle_87 3 rfl ?_
    obtain ⟨y32, e33, h⟩ := h
    refine h_get C inX9g (ci := 8) rfl 1 (by decide) fl_X9_15 rfl e33 dX9_settle_88 ?_
    refine q_iload_n C dX9_settle_91 2 rfl ?_
    obtain ⟨n34, f35, y38, e36, i37, g39, h⟩ := h
    refine h_aldR C 5 rfl rfl e36 i37 g39 dX9_settle_92 ?_
    obtain ⟨c40, s40, hc40, hs40, h⟩ := h
    refine p_callSQ C (fun _ h => h) [] (cX9_less_ok _ h) cf_X9_68 st_X9_less rfl ⟨Nat.le_of_ble_eq_true rfl, Nat.le_of_ble_eq_true rfl⟩ ⟨by show cells + c40 ≤ bc0; omega, by show slots + s40 ≤ bs0; omega⟩ List.perm_append_comm (fun H40 : gH => [] ++ hpW H40) (fun _ => List.perm_append_comm) (rest := [.int z0, .ref y30]) rfl (Nat.le_of_ble_eq_true rfl) dX9_settle_93 (fun r40 H40 h => ?_)
    show Go D E A Q 5 (cells + c40) (slots + s40) ([] ++ hpW H40) [(4, .ref y24), (2, .int (x2 + 1)), (3, .int z0), (0, .ref x0), (1, .int x1)] 96 [.ref r40, .int z0, .ref y30]
    obtain ⟨n41, f42, m45, k46, e43, i44, v47, h⟩ := h
    refine h_astA C 5 C.hF.2.2.2.2.1.2.1 rfl e43 v47 i44 dX9_settle_96 ?_
    refine q_aload_n C dX9_settle_97 3 rfl ?_
    obtain ⟨y48, e49, h⟩ := h
    refine h_get C inX9g (ci := 8) rfl 1 (by decide) fl_X9_15 rfl e49 dX9_settle_98 ?_
    refine q_iload_n C dX9_settle_101 1 rfl ?_
    refine q_iconst C (v := 1) dX9_settle_102 (by decide) ?_
    refine q_isub C dX9_settle_103 ?_
    refine q_aload_n C dX9_settle_104 3 rfl ?_
    obtain ⟨y50, e51, h⟩ := h
    refine h_get C inX9g (ci := 8) rfl 1 (by decide) fl_X9_15 rfl e51 dX9_settle_105 ?_
    refine q_iload_n C dX9_settle_108 1 rfl ?_
    refine q_iconst C (v := 1) dX9_settle_109 (by decide) ?_
    refine q_isub C dX9_settle_110 ?_
    obtain ⟨n52, f53, y56, e54, i55, g57, h⟩ := h
    refine h_aldR C 5 rfl rfl e54 i55 g57 dX9_settle_111 ?_
    refine q_aload C dX9_settle_112 0 rfl ?_
    obtain ⟨c58, s58, hc58, hs58, h⟩ := h
    refine p_callSQ C (fun _ h => h) [] (cX9_with_ok _ h) cf_X9_57 st_X9_with rfl ⟨Nat.le_of_ble_eq_true rfl, Nat.le_of_ble_eq_true rfl⟩ ⟨by show cells + c40 + c58 ≤ bc0; omega, by show slots + s40 + s58 ≤ bs0; omega⟩ List.perm_append_comm (fun H58 : gH => [] ++ hpW H58) (fun _ => List.perm_append_comm) (rest := [.int ((x2 + 1) - 1), .ref y48]) rfl (Nat.le_of_ble_eq_true rfl) dX9_settle_114 (fun r58 H58 h => ?_)
    show Go D E A Q 5 (cells + c40 + c58) (slots + s40 + s58) ([] ++ hpW H58) [(4, .ref y24), (2, .int (x2 + 1)), (3, .int z0), (0, .ref x0), (1, .int x1)] 117 [.ref r58, .int ((x2 + 1) - 1), .ref y48]
    obtain ⟨n59, f60, m63, k64, e61, i62, v65, h⟩ := h
    refine h_astA C 5 C.hF.2.2.2.2.1.2.1 rfl e61 v65 i62 dX9_settle_117 ?_
    refine q_iinc C (v := x1 + 1) [(1, .int (x1 + 1)), (4, .ref y24), (2, .int (x2 + 1)), (3, .int z0), (0, .ref x0)] dX9_settle_118 4 rfl rfl (by decide) rfl ?_
    refine q_iconst C (v := 0) dX9_settle_121 (by decide) ?_
    refine q_istore_n C [(2, .int 0), (1, .int (x1 + 1)), (4, .ref y24), (3, .int z0), (0, .ref x0)] dX9_settle_122 (by decide) rfl ?_
    refine q_goto (tgt := 4) C dX9_settle_123 (by decide) ?_
    refine q_ls [(0, .ref x0), (1, .int (x1 + 1)), (2, .int 0)] [4, 1, 0] rfl ?_
    exact hKL4 (cells + c40 + c58) (slots + s40 + s58) _ _ _ _ _ _ (by omega) (by omega) h
  · refine q_goto (tgt := 4) C dX9_settle_56 (by decide) ?_
    refine q_ls [(0, .ref x0), (1, .int x1), (2, .int (x2 + 1))] [2, 3, 0] rfl ?_
    exact hKL4 cells slots _ _ _ _ _ _ (by omega) (by omega) h
def wX9_settle_4 (K : Int32 → gH → Prop) (Z : gZ) : Nat → gH → Nat → Nat → Nat → Int32 → Int32 → Prop
  | 0, _, _, _, _, _, _ => False
  | n + 1, H, bc, bs, x0, x1, x2 =>
  ∃ y1 : Nat, gF H x0 8 1 (.ref y1) ∧ (∃ (n3 : Nat) (f4 : Nat → Option Nat), hpG H y1 = some (qE (zY Z 5) n3 f4) ∧ (((nI n3 ≤ x2 → ∃ y6 : Int32, gF H x0 8 11 (.int y6) ∧ (∃ f8 : List Value, hpG H x0 = some (.inr (8, f8)) ∧ 11 < f8.length ∧ (K x1 (hpS H x0 (.inr (8, f8.set 11 (.int (y6 + x1)))))))) ∧ (¬ nI n3 ≤ x2 → (∃ fs, hpG H x0 = some (.inr (8, fs))) ∧ wX9_slidesOnto Z H x0 x2 (x2 - 1) (fun r11 => ((r11 = 0 → (∃ fs, hpG H x0 = some (.inr (8, fs))) ∧ wX9_slidesOnto Z H x0 x2 (x2 + 1) (fun r12 => ((r12 = 0 → wX9_settle_48 K (wX9_settle_4 K Z n) Z H bc bs x0 x1 x2 (-1)) ∧ (¬ r12 = 0 → wX9_settle_48 K (wX9_settle_4 K Z n) Z H bc bs x0 x1 x2 (x2 + 1))))) ∧ (¬ r11 = 0 → wX9_settle_48 K (wX9_settle_4 K Z n) Z H bc bs x0 x1 x2 (x2 - 1))))))))
set_option maxRecDepth 100000 in
set_option maxHeartbeats 4000000 in
theorem bX9_settle_4 {D : gD} {E : gE} {A : Nat → Prop} {Q : State → Prop} {bc0 bs0 : Nat} (C : CL D E (rmX9_settle bc0 bs0) cX9_settle 5 RX9 A) {K : Int32 → gH → Prop} (hret : ∀ (r : Int32) (H : gH) (pc : Nat) (ls : List (Nat × Value)), K r H → decode cX9_settle pc = .ok (.ireturn, 1) → Go D E A Q 5 bc0 bs0 ([] ++ hpW H) ls pc [.int r]) : ∀ (n : Nat) (cells slots : Nat) (H : gH) (bc : Nat) (bs : Nat) (x0 : Nat) (x1 : Int32) (x2 : Int32), cells + bc ≤ bc0 → slots + bs ≤ bs0 → wX9_settle_4 K D.2 n H bc bs x0 x1 x2 → Go D E A Q 5 cells slots ([] ++ hpW H) [(0, .ref x0), (1, .int x1), (2, .int x2)] 4 [] := by
  intro n
  induction n with
  | zero =>
    intro cells slots H bc bs x0 x1 x2 hbc hbs h
    exact h.elim
  | succ n ih =>
    intro cells slots H bc bs x0 x1 x2 hbc hbs h
    unfold wX9_settle_4 at h
    refine q_iload_n C dX9_settle_4 2 rfl ?_
    refine q_aload_n C dX9_settle_5 0 rfl ?_
    obtain ⟨y1, e2, h⟩ := h
    refine h_get C inX9g (ci := 8) rfl 1 (by decide) fl_X9_15 rfl e2 dX9_settle_6 ?_
    obtain ⟨n3, f4, e5, h⟩ := h
    refine h_alen C 5 rfl e5 dX9_settle_9 ?_
    refine q_icmp_ge C 126 dX9_settle_10 (by decide) h (fun h => ?_) (fun h => ?_)
    · refine q_aload_n C dX9_settle_126 0 rfl ?_
      refine q_dup C dX9_settle_127 rfl ?_
      obtain ⟨y6, e7, h⟩ := h
      refine h_get C inX9g (ci := 8) rfl 11 (by decide) fl_X9_54 rfl e7 dX9_settle_128 ?_
      refine q_iload_n C dX9_settle_131 1 rfl ?_
      refine q_iadd C dX9_settle_132 ?_
      obtain ⟨f8, e9, l10, h⟩ := h
      refine h_put C inX9g tyX9_ok nmX9 (ci := 8) rfl 11 (by decide) fl_X9_54 rfl rfl (ty := .int) (by decide +kernel) e9 l10 rfl rfl dX9_settle_133 ?_
      refine q_iload_n C dX9_settle_136 1 rfl ?_
      refine q_widen (k := bc0) (n := bs0) (by omega) (by omega) ?_
      exact hret x1 (hpS H x0 (.inr (8, f8.set 11 (.int (y6 + x1))))) _ _ h dX9_settle_137
    · refine q_aload_n C dX9_settle_13 0 rfl ?_
      refine q_iload_n C dX9_settle_14 2 rfl ?_
      refine q_iload_n C dX9_settle_15 2 rfl ?_
      refine q_iconst C (v := 1) dX9_settle_16 (by decide) ?_
      refine q_isub C dX9_settle_17 ?_
      obtain ⟨⟨fs9, hr9⟩, h⟩ := h
      refine p_callVI C (fun _ h => h) [] (cX9_slidesOnto_ok _ h) cf_X9_65 im_X9_slidesOnto se_X9_slidesOnto (hRv_h (q := (RX9, TX9, 12)) hr9 rfl) rfl ⟨Nat.le_of_ble_eq_true rfl, Nat.le_of_ble_eq_true rfl⟩ ⟨by show cells + 0 ≤ bc0; omega, by show slots + 0 ≤ bs0; omega⟩ List.perm_append_comm (fun _ : Unit => [] ++ hpW H) (fun _ => List.perm_append_comm) (rest := []) rfl (Nat.le_of_ble_eq_true rfl) dX9_settle_18 (fun r11 _ h => ?_)
      show Go D E A Q 5 cells slots ([] ++ hpW H) [(0, .ref x0), (1, .int x1), (2, .int x2)] 21 [.int r11]
      refine q_if_eq C 30 dX9_settle_21 (by decide) h (fun h => ?_) (fun h => ?_)
      · refine q_aload_n C dX9_settle_30 0 rfl ?_
        refine q_iload_n C dX9_settle_31 2 rfl ?_
        refine q_iload_n C dX9_settle_32 2 rfl ?_
        refine q_iconst C (v := 1) dX9_settle_33 (by decide) ?_
        refine q_iadd C dX9_settle_34 ?_
        obtain ⟨⟨fs9, hr9⟩, h⟩ := h
        refine p_callVI C (fun _ h => h) [] (cX9_slidesOnto_ok _ h) cf_X9_65 im_X9_slidesOnto se_X9_slidesOnto (hRv_h (q := (RX9, TX9, 12)) hr9 rfl) rfl ⟨Nat.le_of_ble_eq_true rfl, Nat.le_of_ble_eq_true rfl⟩ ⟨by show cells + 0 ≤ bc0; omega, by show slots + 0 ≤ bs0; omega⟩ List.perm_append_comm (fun _ : Unit => [] ++ hpW H) (fun _ => List.perm_append_comm) (rest := []) rfl (Nat.le_of_ble_eq_true rfl) dX9_settle_35 (fun r12 _ h => ?_)
        show Go D E A Q 5 cells slots ([] ++ hpW H) [(0, .ref x0), (1, .int x1), (2, .int x2)] 38 [.int r12]
        refine q_if_eq C 47 dX9_settle_38 (by decide) h (fun h => ?_) (fun h => ?_)
        · refine q_iconst C (v := (-1)) dX9_settle_47 (by decide) ?_
          exact bX9_settle_48 C (KL4 := (wX9_settle_4 K D.2 n)) hret ih cells slots _ _ _ _ _ _ _ (by omega) (by omega) h
        · refine q_iload_n C dX9_settle_41 2 rfl ?_
          refine q_iconst C (v := 1) dX9_settle_42 (by decide) ?_
          refine q_iadd C dX9_settle_43 ?_
          refine q_goto (tgt := 48) C dX9_settle_44 (by decide) ?_
          exact bX9_settle_48 C (KL4 := (wX9_settle_4 K D.2 n)) hret ih cells slots _ _ _ _ _ _ _ (by omega) (by omega) h
      · refine q_iload_n C dX9_settle_24 2 rfl ?_
        refine q_iconst C (v := 1) dX9_settle_25 (by decide) ?_
        refine q_isub C dX9_settle_26 ?_
        refine q_goto (tgt := 48) C dX9_settle_27 (by decide) ?_
        exact bX9_settle_48 C (KL4 := (wX9_settle_4 K D.2 n)) hret ih cells slots _ _ _ _ _ _ _ (by omega) (by omega) h
def wX9_settle (Z : gZ) (H : gH) (bc : Nat) (bs : Nat) (p : Nat) (K : Int32 → gH → Prop) : Prop :=
  ∃ k9 : Nat, wX9_settle_4 K Z k9 H bc bs p 0 0
set_option maxRecDepth 100000 in
set_option maxHeartbeats 4000000 in
theorem bX9_settle {D : gD} {E : gE} {A : Nat → Prop} {Q : State → Prop} {bc0 bs0 : Nat} (C : CL D E (rmX9_settle bc0 bs0) cX9_settle 5 RX9 A) {K : Int32 → gH → Prop} (hret : ∀ (r : Int32) (H : gH) (pc : Nat) (ls : List (Nat × Value)), K r H → decode cX9_settle pc = .ok (.ireturn, 1) → Go D E A Q 5 bc0 bs0 ([] ++ hpW H) ls pc [.int r]) (cells slots : Nat) (H : gH) (bc : Nat) (bs : Nat) (p : Nat) (hbc : cells + bc ≤ bc0) (hbs : slots + bs ≤ bs0) (h : wX9_settle D.2 H bc bs p K) : Go D E A Q 5 cells slots ([] ++ hpW H) [(0, .ref p)] 0 [] := by
  unfold wX9_settle at h
  refine q_iconst C (v := 0) dX9_settle_0 (by decide) ?_
  refine q_istore_n C [(1, .int 0), (0, .ref p)] dX9_settle_1 (by decide) rfl ?_
  refine q_iconst C (v := 0) dX9_settle_2 (by decide) ?_
  refine q_istore_n C [(2, .int 0), (1, .int 0), (0, .ref p)] dX9_settle_3 (by decide) rfl ?_
  refine q_ls [(0, .ref p), (1, .int 0), (2, .int 0)] [2, 1, 0] rfl ?_
  obtain ⟨nw, h⟩ := h
  exact bX9_settle_4 C  hret  nw cells slots _ _ _ _ _ _ (by omega) (by omega) h
theorem cX9_settle_ok (l : Launch) {D : gD} {H : gH} {bc : Nat} {bs : Nat} {p : Nat} {K : Int32 → gH → Prop} (h : wX9_settle D.2 H bc bs p K) : CtI l D (gU (zY D.2)) yX9_settle cX9_settle 5 .int (rmX9_settle bc bs) [.ref p] ([] ++ hpW H) (fun u : gH => [] ++ hpW u) (fun r u => K r u) :=
  ct_startI (by decide +kernel) (Nat.le_of_ble_eq_true rfl) (fun E A Q hE C hret => bX9_settle C (fun r H pc ls hk hd => hret r H pc ls rfl hk hd) 0 0 _ _ _ _ (by omega) (by omega) h)
abbrev rmX9_dig (bc bs : Nat) : Room := { frames := 2, cells := bc, slots := bs, locals := 47 }
def wX9_dig_53 (K : Int32 → gH → Prop) (Z : gZ) (H : gH) (bc : Nat) (bs : Nat) (x0 : Nat) (x2 : Nat) : Prop :=
  ∃ y1 : Int32, gF H x0 8 10 (.int y1) ∧ (∃ f3 : List Value, hpG H x0 = some (.inr (8, f3)) ∧ 10 < f3.length ∧ ((∃ fs, hpG (hpS H x0 (.inr (8, f3.set 10 (.int (y1 + 1))))) x0 = some (.inr (8, fs))) ∧ ∃ (c6 s6 : Nat), c6 ≤ bc ∧ s6 ≤ bs ∧ wX9_settle Z (hpS H x0 (.inr (8, f3.set 10 (.int (y1 + 1))))) c6 s6 x0 (fun r6 H6 => ∃ (n7 : Nat) (f8 : Nat → Int32), hpG H6 x2 = some (iE (zY Z 1) n7 f8) ∧ vp_in 1 n7 ∧ (K (f8 (1 : Int32).toNatClampNeg) H6))))
set_option maxRecDepth 100000 in
set_option maxHeartbeats 4000000 in
theorem bX9_dig_53 {D : gD} {E : gE} {A : Nat → Prop} {Q : State → Prop} {bc0 bs0 : Nat} (C : CL D E (rmX9_dig bc0 bs0) cX9_dig 3 RX9 A) {K : Int32 → gH → Prop} (hret : ∀ (r : Int32) (H : gH) (pc : Nat) (ls : List (Nat × Value)), K r H → decode cX9_dig pc = .ok (.ireturn, 1) → Go D E A Q 3 bc0 bs0 ([] ++ hpW H) ls pc [.int r]) : ∀ (cells slots : Nat) (H : gH) (bc : Nat) (bs : Nat) (x0 : Nat) (x2 : Nat), cells + bc ≤ bc0 → slots + bs ≤ bs0 → wX9_dig_53 K D.2 H bc bs x0 x2 → Go D E A Q 3 cells slots ([] ++ hpW H) [(0, .ref x0), (2, .ref x2)] 53 [] := by
  intro cells slots H bc bs x0 x2 hbc hbs h
  unfold wX9_dig_53 at h
  refine q_aload_n C dX9_dig_53 0 rfl ?_
  refine q_dup C dX9_dig_54 rfl ?_
  obtain ⟨y1, e2, h⟩ := h
  refine h_get C inX9g (ci := 8) rfl 10 (by decide) fl_X9_51 rfl e2 dX9_dig_55 ?_
  refine q_iconst C (v := 1) dX9_dig_58 (by decide) ?_
  refine q_iadd C dX9_dig_59 ?_
  obtain ⟨f3, e4, l5, h⟩ := h
  refine h_put C inX9g tyX9_ok nmX9 (ci := 8) rfl 10 (by decide) fl_X9_51 rfl rfl (ty := .int) (by decide +kernel) e4 l5 rfl rfl dX9_dig_60 ?_
  refine q_aload_n C dX9_dig_63 0 rfl ?_
  obtain ⟨⟨fs9, hr9⟩, h⟩ := h
  obtain ⟨c6, s6, hc6, hs6, h⟩ := h
  refine p_callVI C (fun _ h => h) [] (cX9_settle_ok _ h) cf_X9_72 im_X9_settle se_X9_settle (hRv_h (q := (RX9, TX9, 12)) hr9 rfl) rfl ⟨Nat.le_of_ble_eq_true rfl, Nat.le_of_ble_eq_true rfl⟩ ⟨by show cells + c6 ≤ bc0; omega, by show slots + s6 ≤ bs0; omega⟩ List.perm_append_comm (fun H6 : gH => [] ++ hpW H6) (fun _ => List.perm_append_comm) (rest := []) rfl (Nat.le_of_ble_eq_true rfl) dX9_dig_64 (fun r6 H6 h => ?_)
  show Go D E A Q 3 (cells + c6) (slots + s6) ([] ++ hpW H6) [(0, .ref x0), (2, .ref x2)] 67 [.int r6]
  refine q_pop C dX9_dig_67 rfl ?_
  refine q_aload_n C dX9_dig_68 1 rfl ?_
  refine q_iconst C (v := 1) dX9_dig_69 (by decide) ?_
  obtain ⟨n7, f8, e9, i10, h⟩ := h
  refine h_iald C e9 i10 dX9_dig_70 ?_
  refine q_widen (k := bc0) (n := bs0) (by omega) (by omega) ?_
  exact hret (f8 (1 : Int32).toNatClampNeg) H6 _ _ h dX9_dig_71
def wX9_dig (Z : gZ) (H : gH) (bc : Nat) (bs : Nat) (p : Nat) (p0 : Int32) (K : Int32 → gH → Prop) : Prop :=
  ∃ y1 : Nat, gF H p 8 1 (.ref y1) ∧ (∃ (n3 : Nat) (f4 : Nat → Option Nat) (y7 : Nat), hpG H y1 = some (qE (zY Z 5) n3 f4) ∧ vp_in p0 n3 ∧ f4 p0.toNatClampNeg = some y7 ∧ (∃ y9 : Nat, gF H p 8 1 (.ref y9) ∧ (∃ (n11 : Nat) (f12 : Nat → Option Nat) (y15 : Nat), hpG H y9 = some (qE (zY Z 5) n11 f12) ∧ vp_in p0 n11 ∧ f12 p0.toNatClampNeg = some y15 ∧ (∃ (n17 : Nat) (f18 : Nat → Option Nat), hpG H y15 = some (qE (zY Z 4) n17 f18) ∧ (∃ (n20 : Nat) (f21 : Nat → Option Nat) (y24 : Nat), hpG H y7 = some (qE (zY Z 4) n20 f21) ∧ vp_in ((nI n17) - 1) n20 ∧ f21 ((nI n17) - 1).toNatClampNeg = some y24 ∧ (∃ y26 : Nat, gF H p 8 1 (.ref y26) ∧ (∃ y28 : Nat, gF H p 8 1 (.ref y28) ∧ (∃ (n30 : Nat) (f31 : Nat → Option Nat) (y34 : Nat), hpG H y28 = some (qE (zY Z 5) n30 f31) ∧ vp_in p0 n30 ∧ f31 p0.toNatClampNeg = some y34 ∧ (∃ (c36 s36 : Nat), c36 ≤ bc ∧ s36 ≤ bs ∧ wX9_less Z H c36 s36 y34 (fun r36 H36 => ∃ (n37 : Nat) (f38 : Nat → Option Nat) (m41 : Nat) (k42 : Nat → Option Nat), hpG H36 y26 = some (qE (zY Z 5) n37 f38) ∧ vp_in p0 n37 ∧ hpG H36 r36 = some (qE (zY Z 4) m41 k42) ∧ (∃ (n44 : Nat) (f45 : Nat → Int32), hpG (hpS H36 y26 (qE (zY Z 5) n37 (va_up f38 p0.toNatClampNeg (some r36)))) y24 = some (iE (zY Z 1) n44 f45) ∧ vp_in 1 n44 ∧ (((f45 (1 : Int32).toNatClampNeg < 0 → wX9_dig_53 K Z (hpS H36 y26 (qE (zY Z 5) n37 (va_up f38 p0.toNatClampNeg (some r36)))) (bc - c36) (bs - s36) p y24) ∧ (¬ f45 (1 : Int32).toNatClampNeg < 0 → ∃ y48 : Nat, gF (hpS H36 y26 (qE (zY Z 5) n37 (va_up f38 p0.toNatClampNeg (some r36)))) p 8 2 (.ref y48) ∧ (∃ (n50 : Nat) (f51 : Nat → Int32), hpG (hpS H36 y26 (qE (zY Z 5) n37 (va_up f38 p0.toNatClampNeg (some r36)))) y24 = some (iE (zY Z 1) n50 f51) ∧ vp_in 1 n50 ∧ (∃ (n54 : Nat) (f55 : Nat → Option Nat) (y58 : Nat), hpG (hpS H36 y26 (qE (zY Z 5) n37 (va_up f38 p0.toNatClampNeg (some r36)))) y48 = some (qE (zY Z 4) n54 f55) ∧ vp_in (f51 (1 : Int32).toNatClampNeg) n54 ∧ f55 (f51 (1 : Int32).toNatClampNeg).toNatClampNeg = some y58 ∧ (∃ (n60 : Nat) (f61 : Nat → Int32), hpG (hpS H36 y26 (qE (zY Z 5) n37 (va_up f38 p0.toNatClampNeg (some r36)))) y24 = some (iE (zY Z 1) n60 f61) ∧ vp_in 3 n60 ∧ (∃ (n64 : Nat) (f65 : Nat → Int32), hpG (hpS H36 y26 (qE (zY Z 5) n37 (va_up f38 p0.toNatClampNeg (some r36)))) y58 = some (iE (zY Z 1) n64 f65) ∧ vp_in 3 n64 ∧ (wX9_dig_53 K Z (hpS (hpS H36 y26 (qE (zY Z 5) n37 (va_up f38 p0.toNatClampNeg (some r36)))) y58 (iE (zY Z 1) n64 (upd f65 (3 : Int32).toNatClampNeg (2 - (f61 (3 : Int32).toNatClampNeg))))) (bc - c36) (bs - s36) p y24)))))))))))))))))))
set_option maxRecDepth 100000 in
set_option maxHeartbeats 4000000 in
theorem bX9_dig {D : gD} {E : gE} {A : Nat → Prop} {Q : State → Prop} {bc0 bs0 : Nat} (C : CL D E (rmX9_dig bc0 bs0) cX9_dig 3 RX9 A) {K : Int32 → gH → Prop} (hret : ∀ (r : Int32) (H : gH) (pc : Nat) (ls : List (Nat × Value)), K r H → decode cX9_dig pc = .ok (.ireturn, 1) → Go D E A Q 3 bc0 bs0 ([] ++ hpW H) ls pc [.int r]) (cells slots : Nat) (H : gH) (bc : Nat) (bs : Nat) (p : Nat) (p0 : Int32) (hbc : cells + bc ≤ bc0) (hbs : slots + bs ≤ bs0) (h : wX9_dig D.2 H bc bs p p0 K) : Go D E A Q 3 cells slots ([] ++ hpW H) [(0, .ref p), (1, .int p0)] 0 [] := by
  unfold wX9_dig at h
  refine q_aload_n C dX9_dig_0 0 rfl ?_
  obtain ⟨y1, e2, h⟩ := h
  refine h_get C inX9g (ci := 8) rfl 1 (by decide) fl_X9_15 rfl e2 dX9_dig_1 ?_
  refine q_iload_n C dX9_dig_4 1 rfl ?_
  obtain ⟨n3, f4, y7, e5, i6, g8, h⟩ := h
  refine h_aldR C 5 rfl rfl e5 i6 g8 dX9_dig_5 ?_
  refine q_aload_n C dX9_dig_6 0 rfl ?_
  obtain ⟨y9, e10, h⟩ := h
  refine h_get C inX9g (ci := 8) rfl 1 (by decide) fl_X9_15 rfl e10 dX9_dig_7 ?_
  refine q_iload_n C dX9_dig_10 1 rfl ?_
  obtain ⟨n11, f12, y15, e13, i14, g16, h⟩ := h
  refine h_aldR C 5 rfl rfl e13 i14 g16 dX9_dig_11 ?_
  obtain ⟨n17, f18, e19, h⟩ := h
  refine h_alen C 4 rfl e19 dX9_dig_12 ?_
  refine q_iconst C (v := 1) dX9_dig_13 (by decide) ?_
  refine q_isub C dX9_dig_14 ?_
  obtain ⟨n20, f21, y24, e22, i23, g25, h⟩ := h
  refine h_aldR C 4 rfl rfl e22 i23 g25 dX9_dig_15 ?_
  refine q_astore_n C [(2, .ref y24), (0, .ref p), (1, .int p0)] dX9_dig_16 (by decide) rfl ?_
  refine q_aload_n C dX9_dig_17 1 rfl ?_
  obtain ⟨y26, e27, h⟩ := h
  refine h_get C inX9g (ci := 8) rfl 1 (by decide) fl_X9_15 rfl e27 dX9_dig_18 ?_
  refine q_iload_n C dX9_dig_21 2 rfl ?_
  refine q_aload_n C dX9_dig_22 1 rfl ?_
  obtain ⟨y28, e29, h⟩ := h
  refine h_get C inX9g (ci := 8) rfl 1 (by decide) fl_X9_15 rfl e29 dX9_dig_23 ?_
  refine q_iload_n C dX9_dig_26 2 rfl ?_
  obtain ⟨n30, f31, y34, e32, i33, g35, h⟩ := h
  refine h_aldR C 5 rfl rfl e32 i33 g35 dX9_dig_27 ?_
  obtain ⟨c36, s36, hc36, hs36, h⟩ := h
  refine p_callSQ C (fun _ h => h) [] (cX9_less_ok _ h) cf_X9_68 st_X9_less rfl ⟨Nat.le_of_ble_eq_true rfl, Nat.le_of_ble_eq_true rfl⟩ ⟨by show cells + c36 ≤ bc0; omega, by show slots + s36 ≤ bs0; omega⟩ List.perm_append_comm (fun H36 : gH => [] ++ hpW H36) (fun _ => List.perm_append_comm) (rest := [.int p0, .ref y26]) rfl (Nat.le_of_ble_eq_true rfl) dX9_dig_28 (fun r36 H36 h => ?_)
  show Go D E A Q 3 (cells + c36) (slots + s36) ([] ++ hpW H36) [(2, .ref y24), (0, .ref p), (1, .int p0)] 31 [.ref r36, .int p0, .ref y26]
  obtain ⟨n37, f38, m41, k42, e39, i40, v43, h⟩ := h
  refine h_astA C 5 C.hF.2.2.2.2.1.2.1 rfl e39 v43 i40 dX9_dig_31 ?_
  refine q_aload_n C dX9_dig_32 0 rfl ?_
  refine q_iconst C (v := 1) dX9_dig_33 (by decide) ?_
  obtain ⟨n44, f45, e46, i47, h⟩ := h
  refine h_iald C e46 i47 dX9_dig_34 ?_
  refine q_if_lt C 53 dX9_dig_35 (by decide) h (fun h => ?_) (fun h => ?_)
  · refine q_ls [(0, .ref p), (2, .ref y24)] [1, 0] rfl ?_
    exact bX9_dig_53 C  hret  (cells + c36) (slots + s36) _ _ _ _ _ (by omega) (by omega) h
  · refine q_aload_n C dX9_dig_38 1 rfl ?_
    obtain ⟨y48, e49, h⟩ := h
    refine h_get C inX9g (ci := 8) rfl 2 (by decide) fl_X9_21 rfl e49 dX9_dig_39 ?_
    refine q_aload_n C dX9_dig_42 0 rfl ?_
    refine q_iconst C (v := 1) dX9_dig_43 (by decide) ?_
    obtain ⟨n50, f51, e52, i53, h⟩ := h
    refine h_iald C e52 i53 dX9_dig_44 ?_
    obtain ⟨n54, f55, y58, e56, i57, g59, h⟩ := h
    refine h_aldR C 4 rfl rfl e56 i57 g59 dX9_dig_45 ?_
    refine q_iconst C (v := 3) dX9_dig_46 (by decide) ?_
    refine q_iconst C (v := 2) dX9_dig_47 (by decide) ?_
    refine q_aload_n C dX9_dig_48 0 rfl ?_
    refine q_iconst C (v := 3) dX9_dig_49 (by decide) ?_
    obtain ⟨n60, f61, e62, i63, h⟩ := h
    refine h_iald C e62 i63 dX9_dig_50 ?_
    refine q_isub C dX9_dig_51 ?_
    obtain ⟨n64, f65, e66, i67, h⟩ := h
    refine h_iast C e66 i67 dX9_dig_52 ?_
    refine q_ls [(0, .ref p), (2, .ref y24)] [1, 0] rfl ?_
    exact bX9_dig_53 C  hret  (cells + c36) (slots + s36) _ _ _ _ _ (by omega) (by omega) h
theorem cX9_dig_ok (l : Launch) {D : gD} {H : gH} {bc : Nat} {bs : Nat} {p : Nat} {p0 : Int32} {K : Int32 → gH → Prop} (h : wX9_dig D.2 H bc bs p p0 K) : CtI l D (gU (zY D.2)) yX9_dig cX9_dig 3 .int (rmX9_dig bc bs) [.ref p, .int p0] ([] ++ hpW H) (fun u : gH => [] ++ hpW u) (fun r u => K r u) :=
  ct_startI (by decide +kernel) (Nat.le_of_ble_eq_true rfl) (fun E A Q hE C hret => bX9_dig C (fun r H pc ls hk hd => hret r H pc ls rfl hk hd) 0 0 _ _ _ _ _ (by omega) (by omega) h)
abbrev rmX10_ofTwo : Room := { frames := 0, cells := 0, slots := 0, locals := 0 }
def wX10_ofTwo (Z : gZ) (H : gH) (p : Nat) (p0 : Int32) (p1 : Int32) (K : Int32 → Prop) : Prop :=
  ∃ y1 : Int32, gF H p 9 0 (.int y1) ∧ (((y1 = 9 → K (p0 + p1)) ∧ (y1 = 10 → K (p0 - p1)) ∧ (y1 = 11 → K (p0 * p1)) ∧ (y1 = 12 → ((¬ p1 = 0 → ((¬ p1 = (-1) → (¬ p1 = 0) ∧ (K (p0 / p1))) ∧ (p1 = (-1) → K (-p0)))) ∧ (p1 = 0 → K 0))) ∧ (y1 = 13 → ((p1 ≤ p0 → K p1) ∧ (¬ p1 ≤ p0 → K p0))) ∧ (y1 = 14 → ((p1 ≤ p0 → K p0) ∧ (¬ p1 ≤ p0 → K p1))) ∧ (y1 = 20 → ((p1 ≤ p0 → K 0) ∧ (¬ p1 ≤ p0 → K 1))) ∧ (y1 = 21 → ((p0 ≤ p1 → K 0) ∧ (¬ p0 ≤ p1 → K 1))) ∧ (y1 = 22 → ((¬ p0 = p1 → K 0) ∧ (p0 = p1 → K 1))) ∧ (y1 = 23 → ((p0 ≤ p1 → K 1) ∧ (¬ p0 ≤ p1 → K 0))) ∧ (y1 = 24 → ((p1 ≤ p0 → K 1) ∧ (¬ p1 ≤ p0 → K 0))) ∧ (y1 = 30 → ((¬ p0 + p1 = 2 → K 0) ∧ (p0 + p1 = 2 → K 1))) ∧ (¬ y1 = 9 → ¬ y1 = 10 → ¬ y1 = 11 → ¬ y1 = 12 → ¬ y1 = 13 → ¬ y1 = 14 → ¬ y1 = 20 → ¬ y1 = 21 → ¬ y1 = 22 → ¬ y1 = 23 → ¬ y1 = 24 → ¬ y1 = 30 → ((p0 + p1 ≤ 0 → K 0) ∧ (¬ p0 + p1 ≤ 0 → K 1)))))
set_option maxRecDepth 100000 in
set_option maxHeartbeats 4000000 in
theorem bX10_ofTwo {D : gD} {E : gE} {A : Nat → Prop} {Q : State → Prop} {H : gH} (C : CL D E rmX10_ofTwo cX10_ofTwo 3 RX10 A) {K : Int32 → Prop} (hret : ∀ (r : Int32) (pc : Nat) (ls : List (Nat × Value)), K r → decode cX10_ofTwo pc = .ok (.ireturn, 1) → Go D E A Q 3 0 0 ([] ++ hpW H) ls pc [.int r]) (p : Nat) (p0 : Int32) (p1 : Int32) (h : wX10_ofTwo D.2 H p p0 p1 K) : Go D E A Q 3 0 0 ([] ++ hpW H) [(0, .ref p), (1, .int p0), (2, .int p1)] 0 [] := by
  unfold wX10_ofTwo at h
  refine q_aload_n C dX10_ofTwo_0 0 rfl ?_
  obtain ⟨y1, e2, h⟩ := h
  refine h_get C inX10g (ci := 9) rfl 0 (by decide) fl_X10_7 rfl e2 dX10_ofTwo_1 ?_
  by_cases hq : y1 = 9
  · replace h := h.1 hq
    refine q_tableK C 9 108 hq dX10_ofTwo_4 (by decide) (by decide) rfl (by decide) ?_
    refine q_iload_n C dX10_ofTwo_108 1 rfl ?_
    refine q_iload_n C dX10_ofTwo_109 2 rfl ?_
    refine q_iadd C dX10_ofTwo_110 ?_
    exact hret (p0 + p1) _ _ h dX10_ofTwo_111
  · have hn0 := hq
    by_cases hq : y1 = 10
    · replace h := h.2.1 hq
      refine q_tableK C 10 112 hq dX10_ofTwo_4 (by decide) (by decide) rfl (by decide) ?_
      refine q_iload_n C dX10_ofTwo_112 1 rfl ?_
      refine q_iload_n C dX10_ofTwo_113 2 rfl ?_
      refine q_isub C dX10_ofTwo_114 ?_
      exact hret (p0 - p1) _ _ h dX10_ofTwo_115
    · have hn1 := hq
      by_cases hq : y1 = 11
      · replace h := h.2.2.1 hq
        refine q_tableK C 11 116 hq dX10_ofTwo_4 (by decide) (by decide) rfl (by decide) ?_
        refine q_iload_n C dX10_ofTwo_116 1 rfl ?_
        refine q_iload_n C dX10_ofTwo_117 2 rfl ?_
        refine q_imul C dX10_ofTwo_118 ?_
        exact hret (p0 * p1) _ _ h dX10_ofTwo_119
      · have hn2 := hq
        by_cases hq : y1 = 12
        · replace h := h.2.2.2.1 hq
          refine q_tableK C 12 120 hq dX10_ofTwo_4 (by decide) (by decide) rfl (by decide) ?_
          refine q_iload_n C dX10_ofTwo_120 2 rfl ?_
          refine q_if_ne C 128 dX10_ofTwo_121 (by decide) h (fun h => ?_) (fun h => ?_)
          · refine q_iload_n C dX10_ofTwo_128 2 rfl ?_
            refine q_iconst C (v := (-1)) dX10_ofTwo_129 (by decide) ?_
            refine q_icmp_ne C 138 dX10_ofTwo_130 (by decide) h (fun h => ?_) (fun h => ?_)
            · refine q_iload_n C dX10_ofTwo_138 1 rfl ?_
              refine q_iload_n C dX10_ofTwo_139 2 rfl ?_
              refine q_idiv C dX10_ofTwo_140 h.1 ?_
              replace h := h.2
              exact hret (p0 / p1) _ _ h dX10_ofTwo_141
            · refine q_iload_n C dX10_ofTwo_133 1 rfl ?_
              refine q_ineg C dX10_ofTwo_134 ?_
              refine q_goto (tgt := 141) C dX10_ofTwo_135 (by decide) ?_
              exact hret (-p0) _ _ h dX10_ofTwo_141
          · refine q_iconst C (v := 0) dX10_ofTwo_124 (by decide) ?_
            refine q_goto (tgt := 141) C dX10_ofTwo_125 (by decide) ?_
            exact hret 0 _ _ h dX10_ofTwo_141
        · have hn3 := hq
          by_cases hq : y1 = 13
          · replace h := h.2.2.2.2.1 hq
            refine q_tableK C 13 142 hq dX10_ofTwo_4 (by decide) (by decide) rfl (by decide) ?_
            refine q_iload_n C dX10_ofTwo_142 1 rfl ?_
            refine q_iload_n C dX10_ofTwo_143 2 rfl ?_
            refine q_icmp_ge C 151 dX10_ofTwo_144 (by decide) h (fun h => ?_) (fun h => ?_)
            · refine q_iload_n C dX10_ofTwo_151 2 rfl ?_
              exact hret p1 _ _ h dX10_ofTwo_152
            · refine q_iload_n C dX10_ofTwo_147 1 rfl ?_
              refine q_goto (tgt := 152) C dX10_ofTwo_148 (by decide) ?_
              exact hret p0 _ _ h dX10_ofTwo_152
          · have hn4 := hq
            by_cases hq : y1 = 14
            · replace h := h.2.2.2.2.2.1 hq
              refine q_tableK C 14 153 hq dX10_ofTwo_4 (by decide) (by decide) rfl (by decide) ?_
              refine q_iload_n C dX10_ofTwo_153 1 rfl ?_
              refine q_iload_n C dX10_ofTwo_154 2 rfl ?_
              refine q_icmp_ge C 162 dX10_ofTwo_155 (by decide) h (fun h => ?_) (fun h => ?_)
              · refine q_iload_n C dX10_ofTwo_162 1 rfl ?_
                exact hret p0 _ _ h dX10_ofTwo_163
              · refine q_iload_n C dX10_ofTwo_158 2 rfl ?_
                refine q_goto (tgt := 163) C dX10_ofTwo_159 (by decide) ?_
                exact hret p1 _ _ h dX10_ofTwo_163
            · have hn5 := hq
              by_cases hq : y1 = 20
              · replace h := h.2.2.2.2.2.2.1 hq
                refine q_tableK C 20 164 hq dX10_ofTwo_4 (by decide) (by decide) rfl (by decide) ?_
                refine q_iload_n C dX10_ofTwo_164 1 rfl ?_
                refine q_iload_n C dX10_ofTwo_165 2 rfl ?_
                refine q_icmp_ge C 173 dX10_ofTwo_166 (by decide) h (fun h => ?_) (fun h => ?_)
                · refine q_iconst C (v := 0) dX10_ofTwo_173 (by decide) ?_
                  exact hret 0 _ _ h dX10_ofTwo_174
                · refine q_iconst C (v := 1) dX10_ofTwo_169 (by decide) ?_
                  refine q_goto (tgt := 174) C dX10_ofTwo_170 (by decide) ?_
                  exact hret 1 _ _ h dX10_ofTwo_174
              · have hn6 := hq
                by_cases hq : y1 = 21
                · replace h := h.2.2.2.2.2.2.2.1 hq
                  refine q_tableK C 21 175 hq dX10_ofTwo_4 (by decide) (by decide) rfl (by decide) ?_
                  refine q_iload_n C dX10_ofTwo_175 1 rfl ?_
                  refine q_iload_n C dX10_ofTwo_176 2 rfl ?_
                  refine q_icmp_le C 184 dX10_ofTwo_177 (by decide) h (fun h => ?_) (fun h => ?_)
                  · refine q_iconst C (v := 0) dX10_ofTwo_184 (by decide) ?_
                    exact hret 0 _ _ h dX10_ofTwo_185
                  · refine q_iconst C (v := 1) dX10_ofTwo_180 (by decide) ?_
                    refine q_goto (tgt := 185) C dX10_ofTwo_181 (by decide) ?_
                    exact hret 1 _ _ h dX10_ofTwo_185
                · have hn7 := hq
                  by_cases hq : y1 = 22
                  · replace h := h.2.2.2.2.2.2.2.2.1 hq
                    refine q_tableK C 22 186 hq dX10_ofTwo_4 (by decide) (by decide) rfl (by decide) ?_
                    refine q_iload_n C dX10_ofTwo_186 1 rfl ?_
                    refine q_iload_n C dX10_ofTwo_187 2 rfl ?_
                    refine q_icmp_ne C 195 dX10_ofTwo_188 (by decide) h (fun h => ?_) (fun h => ?_)
                    · refine q_iconst C (v := 0) dX10_ofTwo_195 (by decide) ?_
                      exact hret 0 _ _ h dX10_ofTwo_196
                    · refine q_iconst C (v := 1) dX10_ofTwo_191 (by decide) ?_
                      refine q_goto (tgt := 196) C dX10_ofTwo_192 (by decide) ?_
                      exact hret 1 _ _ h dX10_ofTwo_196
                  · have hn8 := hq
                    by_cases hq : y1 = 23
                    · replace h := h.2.2.2.2.2.2.2.2.2.1 hq
                      refine q_tableK C 23 197 hq dX10_ofTwo_4 (by decide) (by decide) rfl (by decide) ?_
                      refine q_iload_n C dX10_ofTwo_197 1 rfl ?_
                      refine q_iload_n C dX10_ofTwo_198 2 rfl ?_
                      refine q_icmp_le C 206 dX10_ofTwo_199 (by decide) h (fun h => ?_) (fun h => ?_)
                      · refine q_iconst C (v := 1) dX10_ofTwo_206 (by decide) ?_
                        exact hret 1 _ _ h dX10_ofTwo_207
                      · refine q_iconst C (v := 0) dX10_ofTwo_202 (by decide) ?_
                        refine q_goto (tgt := 207) C dX10_ofTwo_203 (by decide) ?_
                        exact hret 0 _ _ h dX10_ofTwo_207
                    · have hn9 := hq
                      by_cases hq : y1 = 24
                      · replace h := h.2.2.2.2.2.2.2.2.2.2.1 hq
                        refine q_tableK C 24 208 hq dX10_ofTwo_4 (by decide) (by decide) rfl (by decide) ?_
                        refine q_iload_n C dX10_ofTwo_208 1 rfl ?_
                        refine q_iload_n C dX10_ofTwo_209 2 rfl ?_
                        refine q_icmp_ge C 217 dX10_ofTwo_210 (by decide) h (fun h => ?_) (fun h => ?_)
                        · refine q_iconst C (v := 1) dX10_ofTwo_217 (by decide) ?_
                          exact hret 1 _ _ h dX10_ofTwo_218
                        · refine q_iconst C (v := 0) dX10_ofTwo_213 (by decide) ?_
                          refine q_goto (tgt := 218) C dX10_ofTwo_214 (by decide) ?_
                          exact hret 0 _ _ h dX10_ofTwo_218
                      · have hn10 := hq
                        by_cases hq : y1 = 30
                        · replace h := h.2.2.2.2.2.2.2.2.2.2.2.1 hq
                          refine q_tableK C 30 219 hq dX10_ofTwo_4 (by decide) (by decide) rfl (by decide) ?_
                          refine q_iload_n C dX10_ofTwo_219 1 rfl ?_
                          refine q_iload_n C dX10_ofTwo_220 2 rfl ?_
                          refine q_iadd C dX10_ofTwo_221 ?_
                          refine q_iconst C (v := 2) dX10_ofTwo_222 (by decide) ?_
                          refine q_icmp_ne C 230 dX10_ofTwo_223 (by decide) h (fun h => ?_) (fun h => ?_)
                          · refine q_iconst C (v := 0) dX10_ofTwo_230 (by decide) ?_
                            exact hret 0 _ _ h dX10_ofTwo_231
                          · refine q_iconst C (v := 1) dX10_ofTwo_226 (by decide) ?_
                            refine q_goto (tgt := 231) C dX10_ofTwo_227 (by decide) ?_
                            exact hret 1 _ _ h dX10_ofTwo_231
                        · have hn11 := hq
                          replace h := h.2.2.2.2.2.2.2.2.2.2.2.2 hn0 hn1 hn2 hn3 hn4 hn5 hn6 hn7 hn8 hn9 hn10 hn11
                          refine q_tableD C [9, 10, 11, 12, 13, 14, 20, 21, 22, 23, 24, 30] 232 (sw_cons (sw_ne hn0 (by decide)) (sw_cons (sw_ne hn1 (by decide)) (sw_cons (sw_ne hn2 (by decide)) (sw_cons (sw_ne hn3 (by decide)) (sw_cons (sw_ne hn4 (by decide)) (sw_cons (sw_ne hn5 (by decide)) (sw_cons (sw_ne hn6 (by decide)) (sw_cons (sw_ne hn7 (by decide)) (sw_cons (sw_ne hn8 (by decide)) (sw_cons (sw_ne hn9 (by decide)) (sw_cons (sw_ne hn10 (by decide)) (sw_cons (sw_ne hn11 (by decide)) sw_nil)))))))))))) dX10_ofTwo_4 (by decide) (by decide) ?_
                          refine q_iload_n C dX10_ofTwo_232 1 rfl ?_
                          refine q_iload_n C dX10_ofTwo_233 2 rfl ?_
                          refine q_iadd C dX10_ofTwo_234 ?_
                          refine q_if_le C 242 dX10_ofTwo_235 (by decide) h (fun h => ?_) (fun h => ?_)
                          · refine q_iconst C (v := 0) dX10_ofTwo_242 (by decide) ?_
                            exact hret 0 _ _ h dX10_ofTwo_243
                          · refine q_iconst C (v := 1) dX10_ofTwo_238 (by decide) ?_
                            refine q_goto (tgt := 243) C dX10_ofTwo_239 (by decide) ?_
                            exact hret 1 _ _ h dX10_ofTwo_243
theorem cX10_ofTwo_ok (l : Launch) {D : gD} {H : gH} {p : Nat} {p0 : Int32} {p1 : Int32} {K : Int32 → Prop} (h : wX10_ofTwo D.2 H p p0 p1 K) : CtI l D (gU (zY D.2)) yX10_ofTwo cX10_ofTwo 3 .int rmX10_ofTwo [.ref p, .int p0, .int p1] ([] ++ hpW H) (fun _ : Unit => [] ++ hpW H) (fun r _ => K r ) :=
  ct_startI (by decide +kernel) (Nat.le_of_ble_eq_true rfl) (fun E A Q hE C hret => bX10_ofTwo C (fun r pc ls hk hd => hret r () pc ls rfl hk hd) _ _ _ h)
