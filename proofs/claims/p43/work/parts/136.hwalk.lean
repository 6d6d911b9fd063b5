abbrev rmX9_isSame : Room := { frames := 6, cells := 0, slots := 0, locals := 130 }
def wX9_isSame_587 (K : Int32 → Prop) (Z : gZ) (a : gA) (S : cLS) (H : gH) (z0 : UInt64) (z1 : UInt64) : Prop :=
  ((¬ Op.cmpValue (FP.dcmp z1 z0) .l = 0 → K 0) ∧ (Op.cmpValue (FP.dcmp z1 z0) .l = 0 → K 1))
set_option maxRecDepth 100000 in
set_option maxHeartbeats 4000000 in
theorem bX9_isSame_587 {D : gD} {E : gE} {A : Nat → Prop} {Q : State → Prop} {a : gA} {S : cLS} {H : gH} (C : CL D E rmX9_isSame cX9_isSame 6 RX9 A) {K : Int32 → Prop} (hret : ∀ (r : Int32) (pc : Nat) (ls : List (Nat × Value)), narrow .boolean (.int r) = .int r → K r → decode cX9_isSame pc = .ok (.ireturn, 1) → Go D E A Q 6 0 0 (lwB D.2 a S ++ hpW H) ls pc [.int r]) : ∀ (z0 : UInt64) (z1 : UInt64), wX9_isSame_587 K D.2 a S H z0 z1 → Go D E A Q 6 0 0 (lwB D.2 a S ++ hpW H) [] 587 [.double z0, .double z1] := by
  intro z0 z1 h
  unfold wX9_isSame_587 at h
  refine q_dcmp C dX9_isSame_587 ?_
  refine q_if_ne C 595 dX9_isSame_588 (by decide) h (fun h => ?_) (fun h => ?_)
  · refine q_iconst C (v := 0) dX9_isSame_595 (by decide) ?_
    exact hret 0 _ _ rfl h dX9_isSame_596
  · refine q_iconst C (v := 1) dX9_isSame_591 (by decide) ?_
    refine q_goto (tgt := 596) C dX9_isSame_592 (by decide) ?_
    exact hret 1 _ _ rfl h dX9_isSame_596
def wX9_isSame_527 (K : Int32 → Prop) (KL483 : Nat → Int32 → Int32 → Int32 → Prop) (Z : gZ) (a : gA) (S : cLS) (H : gH) : Nat → Nat → Int32 → Int32 → Int32 → Int32 → Prop
  | 0, _, _, _, _, _ => False
  | n + 1, x0, x2, x3, x4, x5 =>
  ∃ y1 : Nat, gF H x0 8 3 (.ref y1) ∧ (∃ (n3 : Nat) (f4 : Nat → Option Nat), hpG H y1 = some (qE (zY Z 4) n3 f4) ∧ (((nI n3 ≤ x5 → KL483 x0 x2 x3 (x4 + 1)) ∧ (¬ nI n3 ≤ x5 → kX8_isSeenIn a S x4 x5 (fun r6 => (∃ fs, hpG H x0 = some (.inr (8, fs))) ∧ wX9_isSeenIn Z H x0 x4 x5 (fun r7 => ((r6 = r7 → wX9_isSame_527 K KL483 Z a S H n x0 x2 x3 x4 (x5 + 1)) ∧ (¬ r6 = r7 → K 0))))))))
set_option maxRecDepth 100000 in
set_option maxHeartbeats 4000000 in
theorem bX9_isSame_527 {D : gD} {E : gE} {A : Nat → Prop} {Q : State → Prop} {a : gA} {S : cLS} {H : gH} (C : CL D E rmX9_isSame cX9_isSame 6 RX9 A) {K : Int32 → Prop} (hret : ∀ (r : Int32) (pc : Nat) (ls : List (Nat × Value)), narrow .boolean (.int r) = .int r → K r → decode cX9_isSame pc = .ok (.ireturn, 1) → Go D E A Q 6 0 0 (lwB D.2 a S ++ hpW H) ls pc [.int r]) {KL483 : Nat → Int32 → Int32 → Int32 → Prop} (hKL483 : ∀ (x0 : Nat) (x2 : Int32) (x3 : Int32) (x4 : Int32), KL483 x0 x2 x3 x4 → Go D E A Q 6 0 0 (lwB D.2 a S ++ hpW H) [(0, .ref x0), (1, .ref (a 0)), (2, .int x2), (3, .int x3), (4, .int x4)] 483 []) : ∀ (n : Nat) (x0 : Nat) (x2 : Int32) (x3 : Int32) (x4 : Int32) (x5 : Int32), wX9_isSame_527 K KL483 D.2 a S H n x0 x2 x3 x4 x5 → Go D E A Q 6 0 0 (lwB D.2 a S ++ hpW H) [(0, .ref x0), (1, .ref (a 0)), (2, .int x2), (3, .int x3), (4, .int x4), (5, .int x5)] 527 [] := by
  intro n
  induction n with
  | zero =>
    intro x0 x2 x3 x4 x5 h
    exact h.elim
  | succ n ih =>
    intro x0 x2 x3 x4 x5 h
    unfold wX9_isSame_527 at h
    refine q_iload C dX9_isSame_527 5 rfl ?_
    refine q_aload_n C dX9_isSame_529 0 rfl ?_
    obtain ⟨y1, e2, h⟩ := h
    refine h_get C inX9g (ci := 8) rfl 3 (by decide) fl_X9_24 rfl e2 dX9_isSame_530 ?_
    obtain ⟨n3, f4, e5, h⟩ := h
    refine h_alen C 4 rfl e5 dX9_isSame_533 ?_
    refine q_icmp_ge C 564 dX9_isSame_534 (by decide) h (fun h => ?_) (fun h => ?_)
    · refine q_iinc C (v := x4 + 1) [(4, .int (x4 + 1)), (0, .ref x0), (1, .ref (a 0)), (2, .int x2), (3, .int x3), (5, .int x5)] dX9_isSame_564 4 rfl rfl (by decide) rfl ?_
      refine q_goto (tgt := 483) C dX9_isSame_567 (by decide) ?_
      refine q_ls [(0, .ref x0), (1, .ref (a 0)), (2, .int x2), (3, .int x3), (4, .int (x4 + 1))] [1, 2, 3, 4, 0] rfl ?_
      exact hKL483 _ _ _ _ h
    · refine q_aload_n C dX9_isSame_537 1 rfl ?_
      refine q_iload C dX9_isSame_538 4 rfl ?_
      refine q_iload C dX9_isSame_540 5 rfl ?_
      refine lc_isSeenIn C h cf_X9_168 ⟨Nat.le_of_ble_eq_true rfl, Nat.le_of_ble_eq_true rfl⟩ ⟨Nat.le_refl _, Nat.le_refl _⟩ (Nat.le_of_ble_eq_true rfl) dX9_isSame_542 (fun r6 h => ?_)
      show Go D E A Q 6 0 0 (lwB D.2 a S ++ hpW H) [(0, .ref x0), (1, .ref (a 0)), (2, .int x2), (3, .int x3), (4, .int x4), (5, .int x5)] 545 [.int r6]
      refine q_aload_n C dX9_isSame_545 0 rfl ?_
      refine q_iload C dX9_isSame_546 4 rfl ?_
      refine q_iload C dX9_isSame_548 5 rfl ?_
      obtain ⟨⟨fs9, hr9⟩, h⟩ := h
      refine p_callVI C (fun _ h => h) (lwB D.2 a S) (cX9_isSeenIn_ok _ h) cf_X9_61 im_X9_isSeenIn se_X9_isSeenIn (hRv_h (q := (RX9, TX9, 12)) hr9 rfl) rfl ⟨Nat.le_of_ble_eq_true rfl, Nat.le_of_ble_eq_true rfl⟩ ⟨Nat.le_refl _, Nat.le_refl _⟩ List.perm_append_comm (fun _ : Unit => lwB D.2 a S ++ hpW H) (fun _ => List.perm_append_comm) (rest := [.int r6]) rfl (Nat.le_of_ble_eq_true rfl) dX9_isSame_550 (fun r7 _ h => ?_)
      show Go D E A Q 6 0 0 (lwB D.2 a S ++ hpW H) [(0, .ref x0), (1, .ref (a 0)), (2, .int x2), (3, .int x3), (4, .int x4), (5, .int x5)] 553 [.int r7, .int r6]
      refine q_icmp_eq C 558 dX9_isSame_553 (by decide) h (fun h => ?_) (fun h => ?_)
      · refine q_iinc C (v := x5 + 1) [(5, .int (x5 + 1)), (0, .ref x0), (1, .ref (a 0)), (2, .int x2), (3, .int x3), (4, .int x4)] dX9_isSame_558 5 rfl rfl (by decide) rfl ?_
        refine q_goto (tgt := 527) C dX9_isSame_561 (by decide) ?_
        refine q_ls [(0, .ref x0), (1, .ref (a 0)), (2, .int x2), (3, .int x3), (4, .int x4), (5, .int (x5 + 1))] [1, 2, 3, 4, 5, 0] rfl ?_
        exact ih _ _ _ _ _ h
      · refine q_iconst C (v := 0) dX9_isSame_556 (by decide) ?_
        exact hret 0 _ _ rfl h dX9_isSame_557
def wX9_isSame_483 (K : Int32 → Prop) (Z : gZ) (a : gA) (S : cLS) (H : gH) : Nat → Nat → Int32 → Int32 → Int32 → Prop
  | 0, _, _, _, _ => False
  | n + 1, x0, x2, x3, x4 =>
  ∃ y1 : Int32, gF H x0 8 0 (.int y1) ∧ (((y1 ≤ x4 → kX8_meanYear a S (fun r3 => ((¬ x3 = 0 → vf_n64 (FP.ddiv (FP.i2d x2) (FP.i2d x3)) ∧ (wX9_isSame_587 K Z a S H (FP.ddiv (FP.i2d x2) (FP.i2d x3)) r3)) ∧ (x3 = 0 → wX9_isSame_587 K Z a S H FP.dconst0 r3)))) ∧ (¬ y1 ≤ x4 → kX8_notBefore a S x4 (fun r4 => (∃ fs, hpG H x0 = some (.inr (8, fs))) ∧ wX9_notBefore Z H x0 x4 (fun r5 => ((¬ r4 = r5 → K 0) ∧ (r4 = r5 → kX8_isMixed a S x4 (fun r6 => (∃ fs, hpG H x0 = some (.inr (8, fs))) ∧ wX9_isMixed Z H x0 x4 (fun r7 => ((r6 = r7 → ∃ k9 : Nat, wX9_isSame_527 K (wX9_isSame_483 K Z a S H n) Z a S H k9 x0 x2 x3 x4 0) ∧ (¬ r6 = r7 → K 0)))))))))))
set_option maxRecDepth 100000 in
set_option maxHeartbeats 4000000 in
theorem bX9_isSame_483 {D : gD} {E : gE} {A : Nat → Prop} {Q : State → Prop} {a : gA} {S : cLS} {H : gH} (C : CL D E rmX9_isSame cX9_isSame 6 RX9 A) {K : Int32 → Prop} (hret : ∀ (r : Int32) (pc : Nat) (ls : List (Nat × Value)), narrow .boolean (.int r) = .int r → K r → decode cX9_isSame pc = .ok (.ireturn, 1) → Go D E A Q 6 0 0 (lwB D.2 a S ++ hpW H) ls pc [.int r]) : ∀ (n : Nat) (x0 : Nat) (x2 : Int32) (x3 : Int32) (x4 : Int32), wX9_isSame_483 K D.2 a S H n x0 x2 x3 x4 → Go D E A Q 6 0 0 (lwB D.2 a S ++ hpW H) [(0, .ref x0), (1, .ref (a 0)), (2, .int x2), (3, .int x3), (4, .int x4)] 483 [] := by
  intro n
  induction n with
  | zero =>
    intro x0 x2 x3 x4 h
    exact h.elim
  | succ n ih =>
    intro x0 x2 x3 x4 h
    unfold wX9_isSame_483 at h
    refine q_iload C dX9_isSame_483 4 rfl ?_
    refine q_aload_n C dX9_isSame_485 0 rfl ?_
    obtain ⟨y1, e2, h⟩ := h
    refine h_get C inX9g (ci := 8) rfl 0 (by decide) fl_X9_7 rfl e2 dX9_isSame_486 ?_
    refine q_icmp_ge C 570 dX9_isSame_489 (by decide) h (fun h => ?_) (fun h => ?_)
    · refine q_aload_n C dX9_isSame_570 1 rfl ?_
      refine lc_meanYear C h cf_X9_169 ⟨Nat.le_of_ble_eq_true rfl, Nat.le_of_ble_eq_true rfl⟩ ⟨Nat.le_refl _, Nat.le_refl _⟩ (Nat.le_of_ble_eq_true rfl) dX9_isSame_571 (fun r3 h => ?_)
      show Go D E A Q 6 0 0 (lwB D.2 a S ++ hpW H) [(0, .ref x0), (1, .ref (a 0)), (2, .int x2), (3, .int x3), (4, .int x4)] 574 [.double r3]
      refine q_iload_n C dX9_isSame_574 3 rfl ?_
      refine q_if_ne C 582 dX9_isSame_575 (by decide) h (fun h => ?_) (fun h => ?_)
      · refine q_iload_n C dX9_isSame_582 2 rfl ?_
        refine q_i2d C dX9_isSame_583 ?_
        refine q_iload_n C dX9_isSame_584 3 rfl ?_
        refine q_i2d C dX9_isSame_585 ?_
        refine q_ddiv C dX9_isSame_586 h (fun h => ?_)
        refine q_ls [] [] rfl ?_
        exact bX9_isSame_587 C  hret  _ _ h
      · refine q_dconst0 C dX9_isSame_578 ?_
        refine q_goto (tgt := 587) C dX9_isSame_579 (by decide) ?_
        refine q_ls [] [] rfl ?_
        exact bX9_isSame_587 C  hret  _ _ h
    · refine q_aload_n C dX9_isSame_492 1 rfl ?_
      refine q_iload C dX9_isSame_493 4 rfl ?_
      refine lc_notBefore C h cf_X9_160 ⟨Nat.le_of_ble_eq_true rfl, Nat.le_of_ble_eq_true rfl⟩ ⟨Nat.le_refl _, Nat.le_refl _⟩ (Nat.le_of_ble_eq_true rfl) dX9_isSame_495 (fun r4 h => ?_)
      show Go D E A Q 6 0 0 (lwB D.2 a S ++ hpW H) [(0, .ref x0), (1, .ref (a 0)), (2, .int x2), (3, .int x3), (4, .int x4)] 498 [.int r4]
      refine q_aload_n C dX9_isSame_498 0 rfl ?_
      refine q_iload C dX9_isSame_499 4 rfl ?_
      obtain ⟨⟨fs9, hr9⟩, h⟩ := h
      refine p_callVI C (fun _ h => h) (lwB D.2 a S) (cX9_notBefore_ok _ h) cf_X9_163 im_X9_notBefore se_X9_notBefore (hRv_h (q := (RX9, TX9, 12)) hr9 rfl) rfl ⟨Nat.le_of_ble_eq_true rfl, Nat.le_of_ble_eq_true rfl⟩ ⟨Nat.le_refl _, Nat.le_refl _⟩ List.perm_append_comm (fun _ : Unit => lwB D.2 a S ++ hpW H) (fun _ => List.perm_append_comm) (rest := [.int r4]) rfl (Nat.le_of_ble_eq_true rfl) dX9_isSame_501 (fun r5 _ h => ?_)
      show Go D E A Q 6 0 0 (lwB D.2 a S ++ hpW H) [(0, .ref x0), (1, .ref (a 0)), (2, .int x2), (3, .int x3), (4, .int x4)] 504 [.int r5, .int r4]
      refine q_icmp_ne C 522 dX9_isSame_504 (by decide) h (fun h => ?_) (fun h => ?_)
      · refine q_iconst C (v := 0) dX9_isSame_522 (by decide) ?_
        exact hret 0 _ _ rfl h dX9_isSame_523
      · refine q_aload_n C dX9_isSame_507 1 rfl ?_
        refine q_iload C dX9_isSame_508 4 rfl ?_
        refine lc_isMixed C h cf_X9_164 ⟨Nat.le_of_ble_eq_true rfl, Nat.le_of_ble_eq_true rfl⟩ ⟨Nat.le_refl _, Nat.le_refl _⟩ (Nat.le_of_ble_eq_true rfl) dX9_isSame_510 (fun r6 h => ?_)
        show Go D E A Q 6 0 0 (lwB D.2 a S ++ hpW H) [(0, .ref x0), (1, .ref (a 0)), (2, .int x2), (3, .int x3), (4, .int x4)] 513 [.int r6]
        refine q_aload_n C dX9_isSame_513 0 rfl ?_
        refine q_iload C dX9_isSame_514 4 rfl ?_
        obtain ⟨⟨fs9, hr9⟩, h⟩ := h
        refine p_callVI C (fun _ h => h) (lwB D.2 a S) (cX9_isMixed_ok _ h) cf_X9_167 im_X9_isMixed se_X9_isMixed (hRv_h (q := (RX9, TX9, 12)) hr9 rfl) rfl ⟨Nat.le_of_ble_eq_true rfl, Nat.le_of_ble_eq_true rfl⟩ ⟨Nat.le_refl _, Nat.le_refl _⟩ List.perm_append_comm (fun _ : Unit => lwB D.2 a S ++ hpW H) (fun _ => List.perm_append_comm) (rest := [.int r6]) rfl (Nat.le_of_ble_eq_true rfl) dX9_isSame_516 (fun r7 _ h => ?_)
        show Go D E A Q 6 0 0 (lwB D.2 a S ++ hpW H) [(0, .ref x0), (1, .ref (a 0)), (2, .int x2), (3, .int x3), (4, .int x4)] 519 [.int r7, .int r6]
        refine q_icmp_eq C 524 dX9_isSame_519 (by decide) h (fun h => ?_) (fun h => ?_)
        · refine q_iconst C (v := 0) dX9_isSame_524 (by decide) ?_
          refine q_istore C [(5, .int 0), (0, .ref x0), (1, .ref (a 0)), (2, .int x2), (3, .int x3), (4, .int x4)] dX9_isSame_525 (by decide) rfl ?_
          refine q_ls [(0, .ref x0), (1, .ref (a 0)), (2, .int x2), (3, .int x3), (4, .int x4), (5, .int 0)] [1, 2, 3, 4, 5, 0] rfl ?_
          obtain ⟨nw, h⟩ := h
          exact bX9_isSame_527 C (KL483 := (wX9_isSame_483 K D.2 a S H n)) hret ih nw _ _ _ _ _ h
        · refine q_iconst C (v := 0) dX9_isSame_522 (by decide) ?_
          exact hret 0 _ _ rfl h dX9_isSame_523
def wX9_isSame_474 (K : Int32 → Prop) (KL310 : Nat → Int32 → Int32 → Int32 → Prop) (Z : gZ) (a : gA) (S : cLS) (H : gH) (x0 : Nat) (x2 : Int32) (x3 : Int32) (x4 : Int32) : Prop :=
  KL310 x0 x2 x3 (x4 + 1)
set_option maxRecDepth 100000 in
set_option maxHeartbeats 4000000 in
theorem bX9_isSame_474 {D : gD} {E : gE} {A : Nat → Prop} {Q : State → Prop} {a : gA} {S : cLS} {H : gH} (C : CL D E rmX9_isSame cX9_isSame 6 RX9 A) {K : Int32 → Prop} (hret : ∀ (r : Int32) (pc : Nat) (ls : List (Nat × Value)), narrow .boolean (.int r) = .int r → K r → decode cX9_isSame pc = .ok (.ireturn, 1) → Go D E A Q 6 0 0 (lwB D.2 a S ++ hpW H) ls pc [.int r]) {KL310 : Nat → Int32 → Int32 → Int32 → Prop} (hKL310 : ∀ (x0 : Nat) (x2 : Int32) (x3 : Int32) (x4 : Int32), KL310 x0 x2 x3 x4 → Go D E A Q 6 0 0 (lwB D.2 a S ++ hpW H) [(0, .ref x0), (1, .ref (a 0)), (2, .int x2), (3, .int x3), (4, .int x4)] 310 []) : ∀ (x0 : Nat) (x2 : Int32) (x3 : Int32) (x4 : Int32), wX9_isSame_474 K KL310 D.2 a S H x0 x2 x3 x4 → Go D E A Q 6 0 0 (lwB D.2 a S ++ hpW H) [(0, .ref x0), (1, .ref (a 0)), (2, .int x2), (3, .int x3), (4, .int x4)] 474 [] := by
  intro x0 x2 x3 x4 h
  unfold wX9_isSame_474 at h
  refine q_iinc C (v := x4 + 1) [(4, .int (x4 + 1)), (0, .ref x0), (1, .ref (a 0)), (2, .int x2), (3, .int x3)] dX9_isSame_474 4 rfl rfl (by decide) rfl ?_
  refine q_goto (tgt := 310) C dX9_isSame_477 (by decide) ?_
  refine q_ls [(0, .ref x0), (1, .ref (a 0)), (2, .int x2), (3, .int x3), (4, .int (x4 + 1))] [1, 2, 3, 4, 0] rfl ?_
  exact hKL310 _ _ _ _ h
def wX9_isSame_437 (K : Int32 → Prop) (KL310 : Nat → Int32 → Int32 → Int32 → Prop) (Z : gZ) (a : gA) (S : cLS) (H : gH) (x0 : Nat) (x2 : Int32) (x3 : Int32) (x4 : Int32) (x5 : Nat) (z0 : Int32) : Prop :=
  ∃ (n1 : Nat) (f2 : Nat → Int32), hpG H x5 = some (iE (zY Z 1) n1 f2) ∧ vp_in 2 n1 ∧ (((z0 = f2 (2 : Int32).toNatClampNeg → ∃ (n5 : Nat) (f6 : Nat → Int32), hpG H x5 = some (iE (zY Z 1) n5 f6) ∧ vp_in 0 n5 ∧ (((f6 (0 : Int32).toNatClampNeg = 0 → wX9_isSame_474 K KL310 Z a S H x0 x2 x3 x4) ∧ (¬ f6 (0 : Int32).toNatClampNeg = 0 → ∃ (n9 : Nat) (f10 : Nat → Int32), hpG H x5 = some (iE (zY Z 1) n9 f10) ∧ vp_in 3 n9 ∧ (((2 ≤ f10 (3 : Int32).toNatClampNeg → ∃ (n13 : Nat) (f14 : Nat → Int32), hpG H x5 = some (iE (zY Z 1) n13 f14) ∧ vp_in 2 n13 ∧ (wX9_isSame_474 K KL310 Z a S H x0 (x2 + (f14 (2 : Int32).toNatClampNeg)) (x3 + 1) x4)) ∧ (¬ 2 ≤ f10 (3 : Int32).toNatClampNeg → wX9_isSame_474 K KL310 Z a S H x0 x2 x3 x4))))))) ∧ (¬ z0 = f2 (2 : Int32).toNatClampNeg → K 0)))
set_option maxRecDepth 100000 in
set_option maxHeartbeats 4000000 in
theorem bX9_isSame_437 {D : gD} {E : gE} {A : Nat → Prop} {Q : State → Prop} {a : gA} {S : cLS} {H : gH} (C : CL D E rmX9_isSame cX9_isSame 6 RX9 A) {K : Int32 → Prop} (hret : ∀ (r : Int32) (pc : Nat) (ls : List (Nat × Value)), narrow .boolean (.int r) = .int r → K r → decode cX9_isSame pc = .ok (.ireturn, 1) → Go D E A Q 6 0 0 (lwB D.2 a S ++ hpW H) ls pc [.int r]) {KL310 : Nat → Int32 → Int32 → Int32 → Prop} (hKL310 : ∀ (x0 : Nat) (x2 : Int32) (x3 : Int32) (x4 : Int32), KL310 x0 x2 x3 x4 → Go D E A Q 6 0 0 (lwB D.2 a S ++ hpW H) [(0, .ref x0), (1, .ref (a 0)), (2, .int x2), (3, .int x3), (4, .int x4)] 310 []) : ∀ (x0 : Nat) (x2 : Int32) (x3 : Int32) (x4 : Int32) (x5 : Nat) (z0 : Int32), wX9_isSame_437 K KL310 D.2 a S H x0 x2 x3 x4 x5 z0 → Go D E A Q 6 0 0 (lwB D.2 a S ++ hpW H) [(0, .ref x0), (1, .ref (a 0)), (2, .int x2), (3, .int x3), (4, .int x4), (5, .ref x5)] 437 [.int z0] := by
  intro x0 x2 x3 x4 x5 z0 h
  unfold wX9_isSame_437 at h
  refine q_aload C dX9_isSame_437 5 rfl ?_
  refine q_iconst C (v := 2) dX9_isSame_439 (by decide) ?_
  obtain ⟨n1, f2, e3, i4, h⟩ := h
  refine h_iald C e3 i4 dX9_isSame_440 ?_
  refine q_icmp_eq C 446 dX9_isSame_441 (by decide) h (fun h => ?_) (fun h => ?_)
  · refine q_aload C dX9_isSame_446 5 rfl ?_
    refine q_iconst C (v := 0) dX9_isSame_448 (by decide) ?_
    obtain ⟨n5, f6, e7, i8, h⟩ := h
    refine h_iald C e7 i8 dX9_isSame_449 ?_
    refine q_if_eq C 474 dX9_isSame_450 (by decide) h (fun h => ?_) (fun h => ?_)
    · refine q_ls [(0, .ref x0), (1, .ref (a 0)), (2, .int x2), (3, .int x3), (4, .int x4)] [0, 1, 2, 3, 4] rfl ?_
      exact bX9_isSame_474 C (KL310 := KL310) hret hKL310 _ _ _ _ h
    · refine q_aload C dX9_isSame_453 5 rfl ?_
      refine q_iconst C (v := 3) dX9_isSame_455 (by decide) ?_
      obtain ⟨n9, f10, e11, i12, h⟩ := h
      refine h_iald C e11 i12 dX9_isSame_456 ?_
      refine q_iconst C (v := 2) dX9_isSame_457 (by decide) ?_
      refine q_icmp_ge C 464 dX9_isSame_458 (by decide) h (fun h => ?_) (fun h => ?_)
      · refine q_iload_n C dX9_isSame_464 2 rfl ?_
        refine q_aload C dX9_isSame_465 5 rfl ?_
        refine q_iconst C (v := 2) dX9_isSame_467 (by decide) ?_
        obtain ⟨n13, f14, e15, i16, h⟩ := h
        refine h_iald C e15 i16 dX9_isSame_468 ?_
        refine q_iadd C dX9_isSame_469 ?_
        refine q_istore_n C [(2, .int (x2 + (f14 (2 : Int32).toNatClampNeg))), (0, .ref x0), (1, .ref (a 0)), (3, .int x3), (4, .int x4), (5, .ref x5)] dX9_isSame_470 (by decide) rfl ?_
        refine q_iinc C (v := x3 + 1) [(3, .int (x3 + 1)), (2, .int (x2 + (f14 (2 : Int32).toNatClampNeg))), (0, .ref x0), (1, .ref (a 0)), (4, .int x4), (5, .ref x5)] dX9_isSame_471 3 rfl rfl (by decide) rfl ?_
        refine q_ls [(0, .ref x0), (1, .ref (a 0)), (2, .int (x2 + (f14 (2 : Int32).toNatClampNeg))), (3, .int (x3 + 1)), (4, .int x4)] [2, 3, 1, 0, 4] rfl ?_
        exact bX9_isSame_474 C (KL310 := KL310) hret hKL310 _ _ _ _ h
      · refine q_goto (tgt := 474) C dX9_isSame_461 (by decide) ?_
        refine q_ls [(0, .ref x0), (1, .ref (a 0)), (2, .int x2), (3, .int x3), (4, .int x4)] [0, 1, 2, 3, 4] rfl ?_
        exact bX9_isSame_474 C (KL310 := KL310) hret hKL310 _ _ _ _ h
  · refine q_iconst C (v := 0) dX9_isSame_444 (by decide) ?_
    exact hret 0 _ _ rfl h dX9_isSame_445
def wX9_isSame_401 (K : Int32 → Prop) (KL310 : Nat → Int32 → Int32 → Int32 → Prop) (Z : gZ) (a : gA) (S : cLS) (H : gH) (x0 : Nat) (x2 : Int32) (x3 : Int32) (x4 : Int32) (x5 : Nat) : Prop :=
  kX8_stratumOf a S x4 (fun r1 => ∃ (n2 : Nat) (f3 : Nat → Int32), hpG H x5 = some (iE (zY Z 1) n2 f3) ∧ vp_in 1 n2 ∧ (((¬ r1 = f3 (1 : Int32).toNatClampNeg → K 0) ∧ (r1 = f3 (1 : Int32).toNatClampNeg → ∃ (n6 : Nat) (f7 : Nat → Int32), hpG H x5 = some (iE (zY Z 1) n6 f7) ∧ vp_in 0 n6 ∧ (((¬ f7 (0 : Int32).toNatClampNeg = 1 → kX8_empireOf a S x4 (fun r10 => wX9_isSame_437 K KL310 Z a S H x0 x2 x3 x4 x5 r10)) ∧ (f7 (0 : Int32).toNatClampNeg = 1 → kX8_yearOf a S x4 (fun r11 => wX9_isSame_437 K KL310 Z a S H x0 x2 x3 x4 x5 r11))))))))
set_option maxRecDepth 100000 in
set_option maxHeartbeats 4000000 in
theorem bX9_isSame_401 {D : gD} {E : gE} {A : Nat → Prop} {Q : State → Prop} {a : gA} {S : cLS} {H : gH} (C : CL D E rmX9_isSame cX9_isSame 6 RX9 A) {K : Int32 → Prop} (hret : ∀ (r : Int32) (pc : Nat) (ls : List (Nat × Value)), narrow .boolean (.int r) = .int r → K r → decode cX9_isSame pc = .ok (.ireturn, 1) → Go D E A Q 6 0 0 (lwB D.2 a S ++ hpW H) ls pc [.int r]) {KL310 : Nat → Int32 → Int32 → Int32 → Prop} (hKL310 : ∀ (x0 : Nat) (x2 : Int32) (x3 : Int32) (x4 : Int32), KL310 x0 x2 x3 x4 → Go D E A Q 6 0 0 (lwB D.2 a S ++ hpW H) [(0, .ref x0), (1, .ref (a 0)), (2, .int x2), (3, .int x3), (4, .int x4)] 310 []) : ∀ (x0 : Nat) (x2 : Int32) (x3 : Int32) (x4 : Int32) (x5 : Nat), wX9_isSame_401 K KL310 D.2 a S H x0 x2 x3 x4 x5 → Go D E A Q 6 0 0 (lwB D.2 a S ++ hpW H) [(0, .ref x0), (1, .ref (a 0)), (2, .int x2), (3, .int x3), (4, .int x4), (5, .ref x5)] 401 [] := by
  intro x0 x2 x3 x4 x5 h
  unfold wX9_isSame_401 at h
  refine q_aload_n C dX9_isSame_401 1 rfl ?_
  refine q_iload C dX9_isSame_402 4 rfl ?_
  refine lc_stratumOf C h cf_X9_151 ⟨Nat.le_of_ble_eq_true rfl, Nat.le_of_ble_eq_true rfl⟩ ⟨Nat.le_refl _, Nat.le_refl _⟩ (Nat.le_of_ble_eq_true rfl) dX9_isSame_404 (fun r1 h => ?_)
  show Go D E A Q 6 0 0 (lwB D.2 a S ++ hpW H) [(0, .ref x0), (1, .ref (a 0)), (2, .int x2), (3, .int x3), (4, .int x4), (5, .ref x5)] 407 [.int r1]
  refine q_aload C dX9_isSame_407 5 rfl ?_
  refine q_iconst C (v := 1) dX9_isSame_409 (by decide) ?_
  obtain ⟨n2, f3, e4, i5, h⟩ := h
  refine h_iald C e4 i5 dX9_isSame_410 ?_
  refine q_icmp_ne C 444 dX9_isSame_411 (by decide) h (fun h => ?_) (fun h => ?_)
  · refine q_iconst C (v := 0) dX9_isSame_444 (by decide) ?_
    exact hret 0 _ _ rfl h dX9_isSame_445
  · refine q_aload C dX9_isSame_414 5 rfl ?_
    refine q_iconst C (v := 0) dX9_isSame_416 (by decide) ?_
    obtain ⟨n6, f7, e8, i9, h⟩ := h
    refine h_iald C e8 i9 dX9_isSame_417 ?_
    refine q_iconst C (v := 1) dX9_isSame_418 (by decide) ?_
    refine q_icmp_ne C 431 dX9_isSame_419 (by decide) h (fun h => ?_) (fun h => ?_)
    · refine q_aload_n C dX9_isSame_431 1 rfl ?_
      refine q_iload C dX9_isSame_432 4 rfl ?_
      refine lc_empireOf C h cf_X9_157 ⟨Nat.le_of_ble_eq_true rfl, Nat.le_of_ble_eq_true rfl⟩ ⟨Nat.le_refl _, Nat.le_refl _⟩ (Nat.le_of_ble_eq_true rfl) dX9_isSame_434 (fun r10 h => ?_)
      show Go D E A Q 6 0 0 (lwB D.2 a S ++ hpW H) [(0, .ref x0), (1, .ref (a 0)), (2, .int x2), (3, .int x3), (4, .int x4), (5, .ref x5)] 437 [.int r10]
      exact bX9_isSame_437 C (KL310 := KL310) hret hKL310 _ _ _ _ _ _ h
    · refine q_aload_n C dX9_isSame_422 1 rfl ?_
      refine q_iload C dX9_isSame_423 4 rfl ?_
      refine lc_yearOf C h cf_X9_154 ⟨Nat.le_of_ble_eq_true rfl, Nat.le_of_ble_eq_true rfl⟩ ⟨Nat.le_refl _, Nat.le_refl _⟩ (Nat.le_of_ble_eq_true rfl) dX9_isSame_425 (fun r11 h => ?_)
      show Go D E A Q 6 0 0 (lwB D.2 a S ++ hpW H) [(0, .ref x0), (1, .ref (a 0)), (2, .int x2), (3, .int x3), (4, .int x4), (5, .ref x5)] 428 [.int r11]
      refine q_goto (tgt := 437) C dX9_isSame_428 (by decide) ?_
      exact bX9_isSame_437 C (KL310 := KL310) hret hKL310 _ _ _ _ _ _ h
def wX9_isSame_398 (K : Int32 → Prop) (KL310 : Nat → Int32 → Int32 → Int32 → Prop) (Z : gZ) (a : gA) (S : cLS) (H : gH) (x0 : Nat) (x2 : Int32) (x3 : Int32) (x4 : Int32) (x5 : Nat) (z0 : Int32) (z1 : Int32) : Prop :=
  ((¬ z1 = z0 → K 0) ∧ (z1 = z0 → wX9_isSame_401 K KL310 Z a S H x0 x2 x3 x4 x5))
set_option maxRecDepth 100000 in
set_option maxHeartbeats 4000000 in
theorem bX9_isSame_398 {D : gD} {E : gE} {A : Nat → Prop} {Q : State → Prop} {a : gA} {S : cLS} {H : gH} (C : CL D E rmX9_isSame cX9_isSame 6 RX9 A) {K : Int32 → Prop} (hret : ∀ (r : Int32) (pc : Nat) (ls : List (Nat × Value)), narrow .boolean (.int r) = .int r → K r → decode cX9_isSame pc = .ok (.ireturn, 1) → Go D E A Q 6 0 0 (lwB D.2 a S ++ hpW H) ls pc [.int r]) {KL310 : Nat → Int32 → Int32 → Int32 → Prop} (hKL310 : ∀ (x0 : Nat) (x2 : Int32) (x3 : Int32) (x4 : Int32), KL310 x0 x2 x3 x4 → Go D E A Q 6 0 0 (lwB D.2 a S ++ hpW H) [(0, .ref x0), (1, .ref (a 0)), (2, .int x2), (3, .int x3), (4, .int x4)] 310 []) : ∀ (x0 : Nat) (x2 : Int32) (x3 : Int32) (x4 : Int32) (x5 : Nat) (z0 : Int32) (z1 : Int32), wX9_isSame_398 K KL310 D.2 a S H x0 x2 x3 x4 x5 z0 z1 → Go D E A Q 6 0 0 (lwB D.2 a S ++ hpW H) [(0, .ref x0), (1, .ref (a 0)), (2, .int x2), (3, .int x3), (4, .int x4), (5, .ref x5)] 398 [.int z0, .int z1] := by
  intro x0 x2 x3 x4 x5 z0 z1 h
  unfold wX9_isSame_398 at h
  refine q_icmp_ne C 444 dX9_isSame_398 (by decide) h (fun h => ?_) (fun h => ?_)
  · refine q_iconst C (v := 0) dX9_isSame_444 (by decide) ?_
    exact hret 0 _ _ rfl h dX9_isSame_445
  · exact bX9_isSame_401 C (KL310 := KL310) hret hKL310 _ _ _ _ _ h
def wX9_isSame_369 (K : Int32 → Prop) (KL310 : Nat → Int32 → Int32 → Int32 → Prop) (Z : gZ) (a : gA) (S : cLS) (H : gH) (x0 : Nat) (x2 : Int32) (x3 : Int32) (x4 : Int32) (x5 : Nat) (z0 : Int32) (z1 : Int32) : Prop :=
  ((¬ z1 = z0 → K 0) ∧ (z1 = z0 → ∃ (n1 : Nat) (f2 : Nat → Int32), hpG H x5 = some (iE (zY Z 1) n1 f2) ∧ vp_in 3 n1 ∧ (((f2 (3 : Int32).toNatClampNeg ≤ 0 → wX9_isSame_401 K KL310 Z a S H x0 x2 x3 x4 x5) ∧ (¬ f2 (3 : Int32).toNatClampNeg ≤ 0 → kX8_isSure a S x4 (fun r5 => ∃ (n6 : Nat) (f7 : Nat → Int32), hpG H x5 = some (iE (zY Z 1) n6 f7) ∧ vp_in 3 n6 ∧ (((¬ f7 (3 : Int32).toNatClampNeg = 2 → wX9_isSame_398 K KL310 Z a S H x0 x2 x3 x4 x5 0 r5) ∧ (f7 (3 : Int32).toNatClampNeg = 2 → wX9_isSame_398 K KL310 Z a S H x0 x2 x3 x4 x5 1 r5)))))))))
set_option maxRecDepth 100000 in
set_option maxHeartbeats 4000000 in
theorem bX9_isSame_369 {D : gD} {E : gE} {A : Nat → Prop} {Q : State → Prop} {a : gA} {S : cLS} {H : gH} (C : CL D E rmX9_isSame cX9_isSame 6 RX9 A) {K : Int32 → Prop} (hret : ∀ (r : Int32) (pc : Nat) (ls : List (Nat × Value)), narrow .boolean (.int r) = .int r → K r → decode cX9_isSame pc = .ok (.ireturn, 1) → Go D E A Q 6 0 0 (lwB D.2 a S ++ hpW H) ls pc [.int r]) {KL310 : Nat → Int32 → Int32 → Int32 → Prop} (hKL310 : ∀ (x0 : Nat) (x2 : Int32) (x3 : Int32) (x4 : Int32), KL310 x0 x2 x3 x4 → Go D E A Q 6 0 0 (lwB D.2 a S ++ hpW H) [(0, .ref x0), (1, .ref (a 0)), (2, .int x2), (3, .int x3), (4, .int x4)] 310 []) : ∀ (x0 : Nat) (x2 : Int32) (x3 : Int32) (x4 : Int32) (x5 : Nat) (z0 : Int32) (z1 : Int32), wX9_isSame_369 K KL310 D.2 a S H x0 x2 x3 x4 x5 z0 z1 → Go D E A Q 6 0 0 (lwB D.2 a S ++ hpW H) [(0, .ref x0), (1, .ref (a 0)), (2, .int x2), (3, .int x3), (4, .int x4), (5, .ref x5)] 369 [.int z0, .int z1] := by
  intro x0 x2 x3 x4 x5 z0 z1 h
  unfold wX9_isSame_369 at h
  refine q_icmp_ne C 444 dX9_isSame_369 (by decide) h (fun h => ?_) (fun h => ?_)
  · refine q_iconst C (v := 0) dX9_isSame_444 (by decide) ?_
    exact hret 0 _ _ rfl h dX9_isSame_445
  · refine q_aload C dX9_isSame_372 5 rfl ?_
    refine q_iconst C (v := 3) dX9_isSame_374 (by decide) ?_
    obtain ⟨n1, f2, e3, i4, h⟩ := h
    refine h_iald C e3 i4 dX9_isSame_375 ?_
    refine q_if_le C 401 dX9_isSame_376 (by decide) h (fun h => ?_) (fun h => ?_)
    · exact bX9_isSame_401 C (KL310 := KL310) hret hKL310 _ _ _ _ _ h
    · refine q_aload_n C dX9_isSame_379 1 rfl ?_
      refine q_iload C dX9_isSame_380 4 rfl ?_
      refine lc_isSure C h cf_X9_148 ⟨Nat.le_of_ble_eq_true rfl, Nat.le_of_ble_eq_true rfl⟩ ⟨Nat.le_refl _, Nat.le_refl _⟩ (Nat.le_of_ble_eq_true rfl) dX9_isSame_382 (fun r5 h => ?_)
      show Go D E A Q 6 0 0 (lwB D.2 a S ++ hpW H) [(0, .ref x0), (1, .ref (a 0)), (2, .int x2), (3, .int x3), (4, .int x4), (5, .ref x5)] 385 [.int r5]
      refine q_aload C dX9_isSame_385 5 rfl ?_
      refine q_iconst C (v := 3) dX9_isSame_387 (by decide) ?_
      obtain ⟨n6, f7, e8, i9, h⟩ := h
      refine h_iald C e8 i9 dX9_isSame_388 ?_
      refine q_iconst C (v := 2) dX9_isSame_389 (by decide) ?_
      refine q_icmp_ne C 397 dX9_isSame_390 (by decide) h (fun h => ?_) (fun h => ?_)
      · refine q_iconst C (v := 0) dX9_isSame_397 (by decide) ?_
        exact bX9_isSame_398 C (KL310 := KL310) hret hKL310 _ _ _ _ _ _ _ h
      · refine q_iconst C (v := 1) dX9_isSame_393 (by decide) ?_
        refine q_goto (tgt := 398) C dX9_isSame_394 (by decide) ?_
        exact bX9_isSame_398 C (KL310 := KL310) hret hKL310 _ _ _ _ _ _ _ h
def wX9_isSame_348 (K : Int32 → Prop) (KL310 : Nat → Int32 → Int32 → Int32 → Prop) (Z : gZ) (a : gA) (S : cLS) (H : gH) (x0 : Nat) (x2 : Int32) (x3 : Int32) (x4 : Int32) (x5 : Nat) (z0 : Int32) (z1 : Int32) : Prop :=
  ((¬ z1 = z0 → K 0) ∧ (z1 = z0 → kX8_isFound a S x4 (fun r1 => ∃ (n2 : Nat) (f3 : Nat → Int32), hpG H x5 = some (iE (zY Z 1) n2 f3) ∧ vp_in 3 n2 ∧ (((f3 (3 : Int32).toNatClampNeg ≤ 0 → wX9_isSame_369 K KL310 Z a S H x0 x2 x3 x4 x5 0 r1) ∧ (¬ f3 (3 : Int32).toNatClampNeg ≤ 0 → wX9_isSame_369 K KL310 Z a S H x0 x2 x3 x4 x5 1 r1))))))
set_option maxRecDepth 100000 in
set_option maxHeartbeats 4000000 in
theorem bX9_isSame_348 {D : gD} {E : gE} {A : Nat → Prop} {Q : State → Prop} {a : gA} {S : cLS} {H : gH} (C : CL D E rmX9_isSame cX9_isSame 6 RX9 A) {K : Int32 → Prop} (hret : ∀ (r : Int32) (pc : Nat) (ls : List (Nat × Value)), narrow .boolean (.int r) = .int r → K r → decode cX9_isSame pc = .ok (.ireturn, 1) → Go D E A Q 6 0 0 (lwB D.2 a S ++ hpW H) ls pc [.int r]) {KL310 : Nat → Int32 → Int32 → Int32 → Prop} (hKL310 : ∀ (x0 : Nat) (x2 : Int32) (x3 : Int32) (x4 : Int32), KL310 x0 x2 x3 x4 → Go D E A Q 6 0 0 (lwB D.2 a S ++ hpW H) [(0, .ref x0), (1, .ref (a 0)), (2, .int x2), (3, .int x3), (4, .int x4)] 310 []) : ∀ (x0 : Nat) (x2 : Int32) (x3 : Int32) (x4 : Int32) (x5 : Nat) (z0 : Int32) (z1 : Int32), wX9_isSame_348 K KL310 D.2 a S H x0 x2 x3 x4 x5 z0 z1 → Go D E A Q 6 0 0 (lwB D.2 a S ++ hpW H) [(0, .ref x0), (1, .ref (a 0)), (2, .int x2), (3, .int x3), (4, .int x4), (5, .ref x5)] 348 [.int z0, .int z1] := by
  intro x0 x2 x3 x4 x5 z0 z1 h
  unfold wX9_isSame_348 at h
  refine q_icmp_ne C 444 dX9_isSame_348 (by decide) h (fun h => ?_) (fun h => ?_)
  · refine q_iconst C (v := 0) dX9_isSame_444 (by decide) ?_
    exact hret 0 _ _ rfl h dX9_isSame_445
  · refine q_aload_n C dX9_isSame_351 1 rfl ?_
    refine q_iload C dX9_isSame_352 4 rfl ?_
    refine lc_isFound C h cf_X9_145 ⟨Nat.le_of_ble_eq_true rfl, Nat.le_of_ble_eq_true rfl⟩ ⟨Nat.le_refl _, Nat.le_refl _⟩ (Nat.le_of_ble_eq_true rfl) dX9_isSame_354 (fun r1 h => ?_)
    show Go D E A Q 6 0 0 (lwB D.2 a S ++ hpW H) [(0, .ref x0), (1, .ref (a 0)), (2, .int x2), (3, .int x3), (4, .int x4), (5, .ref x5)] 357 [.int r1]
    refine q_aload C dX9_isSame_357 5 rfl ?_
    refine q_iconst C (v := 3) dX9_isSame_359 (by decide) ?_
    obtain ⟨n2, f3, e4, i5, h⟩ := h
    refine h_iald C e4 i5 dX9_isSame_360 ?_
    refine q_if_le C 368 dX9_isSame_361 (by decide) h (fun h => ?_) (fun h => ?_)
    · refine q_iconst C (v := 0) dX9_isSame_368 (by decide) ?_
      exact bX9_isSame_369 C (KL310 := KL310) hret hKL310 _ _ _ _ _ _ _ h
    · refine q_iconst C (v := 1) dX9_isSame_364 (by decide) ?_
      refine q_goto (tgt := 369) C dX9_isSame_365 (by decide) ?_
      exact bX9_isSame_369 C (KL310 := KL310) hret hKL310 _ _ _ _ _ _ _ h
def wX9_isSame_310 (K : Int32 → Prop) (Z : gZ) (a : gA) (S : cLS) (H : gH) : Nat → Nat → Int32 → Int32 → Int32 → Prop
  | 0, _, _, _, _ => False
  | n + 1, x0, x2, x3, x4 =>
  ∃ y1 : Nat, gF H x0 8 2 (.ref y1) ∧ (∃ (n3 : Nat) (f4 : Nat → Option Nat), hpG H y1 = some (qE (zY Z 4) n3 f4) ∧ (((nI n3 ≤ x4 → ∃ k9 : Nat, wX9_isSame_483 K Z a S H k9 x0 x2 x3 0) ∧ (¬ nI n3 ≤ x4 → ∃ y6 : Nat, gF H x0 8 2 (.ref y6) ∧ (∃ (n8 : Nat) (f9 : Nat → Option Nat) (y12 : Nat), hpG H y6 = some (qE (zY Z 4) n8 f9) ∧ vp_in x4 n8 ∧ f9 x4.toNatClampNeg = some y12 ∧ (kX8_isCoin a S x4 (fun r14 => ∃ (n15 : Nat) (f16 : Nat → Int32), hpG H y12 = some (iE (zY Z 1) n15 f16) ∧ vp_in 0 n15 ∧ (((¬ f16 (0 : Int32).toNatClampNeg = 1 → wX9_isSame_348 K (wX9_isSame_310 K Z a S H n) Z a S H x0 x2 x3 x4 y12 0 r14) ∧ (f16 (0 : Int32).toNatClampNeg = 1 → wX9_isSame_348 K (wX9_isSame_310 K Z a S H n) Z a S H x0 x2 x3 x4 y12 1 r14))))))))))
set_option maxRecDepth 100000 in
set_option maxHeartbeats 4000000 in
theorem bX9_isSame_310 {D : gD} {E : gE} {A : Nat → Prop} {Q : State → Prop} {a : gA} {S : cLS} {H : gH} (C : CL D E rmX9_isSame cX9_isSame 6 RX9 A) {K : Int32 → Prop} (hret : ∀ (r : Int32) (pc : Nat) (ls : List (Nat × Value)), narrow .boolean (.int r) = .int r → K r → decode cX9_isSame pc = .ok (.ireturn, 1) → Go D E A Q 6 0 0 (lwB D.2 a S ++ hpW H) ls pc [.int r]) : ∀ (n : Nat) (x0 : Nat) (x2 : Int32) (x3 : Int32) (x4 : Int32), wX9_isSame_310 K D.2 a S H n x0 x2 x3 x4 → Go D E A Q 6 0 0 (lwB D.2 a S ++ hpW H) [(0, .ref x0), (1, .ref (a 0)), (2, .int x2), (3, .int x3), (4, .int x4)] 310 [] := by
  intro n
  induction n with
  | zero =>
    intro x0 x2 x3 x4 h
    exact h.elim
  | succ n ih =>
    intro x0 x2 x3 x4 h
    unfold wX9_isSame_310 at h
    refine q_iload C dX9_isSame_310 4 rfl ?_
    refine q_aload_n C dX9_isSame_312 0 rfl ?_
    obtain ⟨y1, e2, h⟩ := h
    refine h_get C inX9g (ci := 8) rfl 2 (by decide) fl_X9_21 rfl e2 dX9_isSame_313 ?_
    obtain ⟨n3, f4, e5, h⟩ := h
    refine h_alen C 4 rfl e5 dX9_isSame_316 ?_
    refine q_icmp_ge C 480 dX9_isSame_317 (by decide) h (fun h => ?_) (fun h => ?_)
    · refine q_iconst C (v := 0) dX9_isSame_480 (by decide) ?_
      refine q_istore C [(4, .int 0), (0, .ref x0), (1, .ref (a 0)), (2, .int x2), (3, .int x3)] dX9_isSame_481 (by decide) rfl ?_
      refine q_ls [(0, .ref x0), (1, .ref (a 0)), (2, .int x2), (3, .int x3), (4, .int 0)] [1, 2, 3, 4, 0] rfl ?_
      obtain ⟨nw, h⟩ := h
      exact bX9_isSame_483 C  hret  nw _ _ _ _ h
    · refine q_aload_n C dX9_isSame_320 0 rfl ?_
      obtain ⟨y6, e7, h⟩ := h
      refine h_get C inX9g (ci := 8) rfl 2 (by decide) fl_X9_21 rfl e7 dX9_isSame_321 ?_
      refine q_iload C dX9_isSame_324 4 rfl ?_
      obtain ⟨n8, f9, y12, e10, i11, g13, h⟩ := h
      refine h_aldR C 4 rfl rfl e10 i11 g13 dX9_isSame_326 ?_
      refine q_astore C [(5, .ref y12), (0, .ref x0), (1, .ref (a 0)), (2, .int x2), (3, .int x3), (4, .int x4)] dX9_isSame_327 (by decide) rfl ?_
      refine q_aload_n C dX9_isSame_329 2 rfl ?_
      refine q_iload C dX9_isSame_330 5 rfl ?_
      refine lc_isCoin C h cf_X9_142 ⟨Nat.le_of_ble_eq_true rfl, Nat.le_of_ble_eq_true rfl⟩ ⟨Nat.le_refl _, Nat.le_refl _⟩ (Nat.le_of_ble_eq_true rfl) dX9_isSame_332 (fun r14 h => ?_)
      show Go D E A Q 6 0 0 (lwB D.2 a S ++ hpW H) [(5, .ref y12), (0, .ref x0), (1, .ref (a 0)), (2, .int x2), (3, .int x3), (4, .int x4)] 335 [.int r14]
      refine q_aload C dX9_isSame_335 0 rfl ?_
      refine q_iconst C (v := 0) dX9_isSame_337 (by decide) ?_
      obtain ⟨n15, f16, e17, i18, h⟩ := h
      refine h_iald C e17 i18 dX9_isSame_338 ?_
      refine q_iconst C (v := 1) dX9_isSame_339 (by decide) ?_
      refine q_icmp_ne C 347 dX9_isSame_340 (by decide) h (fun h => ?_) (fun h => ?_)
      · refine q_iconst C (v := 0) dX9_isSame_347 (by decide) ?_
        refine q_ls [(0, .ref x0), (1, .ref (a 0)), (2, .int x2), (3, .int x3), (4, .int x4), (5, .ref y12)] [1, 2, 3, 4, 5, 0] rfl ?_
        exact bX9_isSame_348 C (KL310 := (wX9_isSame_310 K D.2 a S H n)) hret ih _ _ _ _ _ _ _ h
      · refine q_iconst C (v := 1) dX9_isSame_343 (by decide) ?_
        refine q_goto (tgt := 348) C dX9_isSame_344 (by decide) ?_
        refine q_ls [(0, .ref x0), (1, .ref (a 0)), (2, .int x2), (3, .int x3), (4, .int x4), (5, .ref y12)] [1, 2, 3, 4, 5, 0] rfl ?_
        exact bX9_isSame_348 C (KL310 := (wX9_isSame_310 K D.2 a S H n)) hret ih _ _ _ _ _ _ _ h
def wX9_isSame_291 (K : Int32 → Prop) (KL118 : Nat → Int32 → Prop) (KL253 : Nat → Int32 → Nat → Int32 → Int32 → Prop) (Z : gZ) (a : gA) (S : cLS) (H : gH) (x0 : Nat) (x2 : Int32) (x3 : Nat) (x4 : Int32) (x5 : Int32) : Prop :=
  KL253 x0 x2 x3 x4 (x5 + 1)
set_option maxRecDepth 100000 in
set_option maxHeartbeats 4000000 in
theorem bX9_isSame_291 {D : gD} {E : gE} {A : Nat → Prop} {Q : State → Prop} {a : gA} {S : cLS} {H : gH} (C : CL D E rmX9_isSame cX9_isSame 6 RX9 A) {K : Int32 → Prop} (hret : ∀ (r : Int32) (pc : Nat) (ls : List (Nat × Value)), narrow .boolean (.int r) = .int r → K r → decode cX9_isSame pc = .ok (.ireturn, 1) → Go D E A Q 6 0 0 (lwB D.2 a S ++ hpW H) ls pc [.int r]) {KL118 : Nat → Int32 → Prop} (hKL118 : ∀ (x0 : Nat) (x2 : Int32), KL118 x0 x2 → Go D E A Q 6 0 0 (lwB D.2 a S ++ hpW H) [(0, .ref x0), (1, .ref (a 0)), (2, .int x2)] 118 []) {KL253 : Nat → Int32 → Nat → Int32 → Int32 → Prop} (hKL253 : ∀ (x0 : Nat) (x2 : Int32) (x3 : Nat) (x4 : Int32) (x5 : Int32), KL253 x0 x2 x3 x4 x5 → Go D E A Q 6 0 0 (lwB D.2 a S ++ hpW H) [(0, .ref x0), (1, .ref (a 0)), (2, .int x2), (3, .ref x3), (4, .int x4), (5, .int x5)] 253 []) : ∀ (x0 : Nat) (x2 : Int32) (x3 : Nat) (x4 : Int32) (x5 : Int32), wX9_isSame_291 K KL118 KL253 D.2 a S H x0 x2 x3 x4 x5 → Go D E A Q 6 0 0 (lwB D.2 a S ++ hpW H) [(0, .ref x0), (1, .ref (a 0)), (2, .int x2), (3, .ref x3), (4, .int x4), (5, .int x5)] 291 [] := by
  intro x0 x2 x3 x4 x5 h
  unfold wX9_isSame_291 at h
  refine q_iinc C (v := x5 + 1) [(5, .int (x5 + 1)), (0, .ref x0), (1, .ref (a 0)), (2, .int x2), (3, .ref x3), (4, .int x4)] dX9_isSame_291 5 rfl rfl (by decide) rfl ?_
  refine q_goto (tgt := 253) C dX9_isSame_294 (by decide) ?_
  refine q_ls [(0, .ref x0), (1, .ref (a 0)), (2, .int x2), (3, .ref x3), (4, .int x4), (5, .int (x5 + 1))] [1, 2, 3, 4, 5, 0] rfl ?_
  exact hKL253 _ _ _ _ _ h
def wX9_isSame_253 (K : Int32 → Prop) (KL118 : Nat → Int32 → Prop) (Z : gZ) (a : gA) (S : cLS) (H : gH) : Nat → Nat → Int32 → Nat → Int32 → Int32 → Prop
  | 0, _, _, _, _, _ => False
  | n + 1, x0, x2, x3, x4, x5 =>
  ((x4 ≤ x5 → KL118 x0 (x2 + 1)) ∧ (¬ x4 ≤ x5 → ∃ (n1 : Nat) (f2 : Nat → Option Nat) (y5 : Nat), hpG H x3 = some (qE (zY Z 4) n1 f2) ∧ vp_in x5 n1 ∧ f2 x5.toNatClampNeg = some y5 ∧ (∃ (n7 : Nat) (f8 : Nat → Int32), hpG H y5 = some (iE (zY Z 1) n7 f8) ∧ vp_in 1 n7 ∧ (((f8 (1 : Int32).toNatClampNeg < 0 → wX9_isSame_291 K KL118 (wX9_isSame_253 K KL118 Z a S H n) Z a S H x0 x2 x3 x4 x5) ∧ (¬ f8 (1 : Int32).toNatClampNeg < 0 → ∃ (n11 : Nat) (f12 : Nat → Option Nat) (y15 : Nat), hpG H x3 = some (qE (zY Z 4) n11 f12) ∧ vp_in x5 n11 ∧ f12 x5.toNatClampNeg = some y15 ∧ (∃ (n17 : Nat) (f18 : Nat → Int32), hpG H y15 = some (iE (zY Z 1) n17 f18) ∧ vp_in 1 n17 ∧ (kX8_buriedUnder a S (f18 (1 : Int32).toNatClampNeg) (fun r21 => ((r21 = (x4 - 1) - x5 → wX9_isSame_291 K KL118 (wX9_isSame_253 K KL118 Z a S H n) Z a S H x0 x2 x3 x4 x5) ∧ (¬ r21 = (x4 - 1) - x5 → K 0)))))))))))
set_option maxRecDepth 100000 in
set_option maxHeartbeats 4000000 in
theorem bX9_isSame_253 {D : gD} {E : gE} {A : Nat → Prop} {Q : State → Prop} {a : gA} {S : cLS} {H : gH} (C : CL D E rmX9_isSame cX9_isSame 6 RX9 A) {K : Int32 → Prop} (hret : ∀ (r : Int32) (pc : Nat) (ls : List (Nat × Value)), narrow .boolean (.int r) = .int r → K r → decode cX9_isSame pc = .ok (.ireturn, 1) → Go D E A Q 6 0 0 (lwB D.2 a S ++ hpW H) ls pc [.int r]) {KL118 : Nat → Int32 → Prop} (hKL118 : ∀ (x0 : Nat) (x2 : Int32), KL118 x0 x2 → Go D E A Q 6 0 0 (lwB D.2 a S ++ hpW H) [(0, .ref x0), (1, .ref (a 0)), (2, .int x2)] 118 []) : ∀ (n : Nat) (x0 : Nat) (x2 : Int32) (x3 : Nat) (x4 : Int32) (x5 : Int32), wX9_isSame_253 K KL118 D.2 a S H n x0 x2 x3 x4 x5 → Go D E A Q 6 0 0 (lwB D.2 a S ++ hpW H) [(0, .ref x0), (1, .ref (a 0)), (2, .int x2), (3, .ref x3), (4, .int x4), (5, .int x5)] 253 [] := by
  intro n
  induction n with
  | zero =>
    intro x0 x2 x3 x4 x5 h
    exact h.elim
  | succ n ih =>
    intro x0 x2 x3 x4 x5 h
    unfold wX9_isSame_253 at h
    refine q_iload C dX9_isSame_253 5 rfl ?_
    refine q_iload C dX9_isSame_255 4 rfl ?_
    refine q_icmp_ge C 297 dX9_isSame_257 (by decide) h (fun h => ?_) (fun h => ?_)
    · refine q_iinc C (v := x2 + 1) [(2, .int (x2 + 1)), (0, .ref x0), (1, .ref (a 0)), (3, .ref x3), (4, .int x4), (5, .int x5)] dX9_isSame_297 2 rfl rfl (by decide) rfl ?_
      refine q_goto (tgt := 118) C dX9_isSame_300 (by decide) ?_
      refine q_ls [(0, .ref x0), (1, .ref (a 0)), (2, .int (x2 + 1))] [1, 2, 0] rfl ?_
      exact hKL118 _ _ h
    · refine q_aload_n C dX9_isSame_260 3 rfl ?_
      refine q_iload C dX9_isSame_261 5 rfl ?_
      obtain ⟨n1, f2, y5, e3, i4, g6, h⟩ := h
      refine h_aldR C 4 rfl rfl e3 i4 g6 dX9_isSame_263 ?_
      refine q_iconst C (v := 1) dX9_isSame_264 (by decide) ?_
      obtain ⟨n7, f8, e9, i10, h⟩ := h
      refine h_iald C e9 i10 dX9_isSame_265 ?_
      refine q_if_lt C 291 dX9_isSame_266 (by decide) h (fun h => ?_) (fun h => ?_)
      · exact bX9_isSame_291 C (KL118 := KL118) (KL253 := (wX9_isSame_253 K KL118 D.2 a S H n)) hret hKL118 ih _ _ _ _ _ h
      · refine q_aload_n C dX9_isSame_269 1 rfl ?_
        refine q_aload_n C dX9_isSame_270 3 rfl ?_
        refine q_iload C dX9_isSame_271 5 rfl ?_
        obtain ⟨n11, f12, y15, e13, i14, g16, h⟩ := h
        refine h_aldR C 4 rfl rfl e13 i14 g16 dX9_isSame_273 ?_
        refine q_iconst C (v := 1) dX9_isSame_274 (by decide) ?_
        obtain ⟨n17, f18, e19, i20, h⟩ := h
        refine h_iald C e19 i20 dX9_isSame_275 ?_
        refine lc_buriedUnder C h cf_X9_139 ⟨Nat.le_of_ble_eq_true rfl, Nat.le_of_ble_eq_true rfl⟩ ⟨Nat.le_refl _, Nat.le_refl _⟩ (Nat.le_of_ble_eq_true rfl) dX9_isSame_276 (fun r21 h => ?_)
        show Go D E A Q 6 0 0 (lwB D.2 a S ++ hpW H) [(0, .ref x0), (1, .ref (a 0)), (2, .int x2), (3, .ref x3), (4, .int x4), (5, .int x5)] 279 [.int r21]
        refine q_iload C dX9_isSame_279 4 rfl ?_
        refine q_iconst C (v := 1) dX9_isSame_281 (by decide) ?_
        refine q_isub C dX9_isSame_282 ?_
        refine q_iload C dX9_isSame_283 5 rfl ?_
        refine q_isub C dX9_isSame_285 ?_
        refine q_icmp_eq C 291 dX9_isSame_286 (by decide) h (fun h => ?_) (fun h => ?_)
        · exact bX9_isSame_291 C (KL118 := KL118) (KL253 := (wX9_isSame_253 K KL118 D.2 a S H n)) hret hKL118 ih _ _ _ _ _ h
        · refine q_iconst C (v := 0) dX9_isSame_289 (by decide) ?_
          exact hret 0 _ _ rfl h dX9_isSame_290
def wX9_isSame_250 (K : Int32 → Prop) (KL118 : Nat → Int32 → Prop) (Z : gZ) (a : gA) (S : cLS) (H : gH) (x0 : Nat) (x2 : Int32) (x3 : Nat) (x4 : Int32) : Prop :=
  ∃ k9 : Nat, wX9_isSame_253 K KL118 Z a S H k9 x0 x2 x3 x4 0
set_option maxRecDepth 100000 in
set_option maxHeartbeats 4000000 in
theorem bX9_isSame_250 {D : gD} {E : gE} {A : Nat → Prop} {Q : State → Prop} {a : gA} {S : cLS} {H : gH} (C : CL D E rmX9_isSame cX9_isSame 6 RX9 A) {K : Int32 → Prop} (hret : ∀ (r : Int32) (pc : Nat) (ls : List (Nat × Value)), narrow .boolean (.int r) = .int r → K r → decode cX9_isSame pc = .ok (.ireturn, 1) → Go D E A Q 6 0 0 (lwB D.2 a S ++ hpW H) ls pc [.int r]) {KL118 : Nat → Int32 → Prop} (hKL118 : ∀ (x0 : Nat) (x2 : Int32), KL118 x0 x2 → Go D E A Q 6 0 0 (lwB D.2 a S ++ hpW H) [(0, .ref x0), (1, .ref (a 0)), (2, .int x2)] 118 []) : ∀ (x0 : Nat) (x2 : Int32) (x3 : Nat) (x4 : Int32), wX9_isSame_250 K KL118 D.2 a S H x0 x2 x3 x4 → Go D E A Q 6 0 0 (lwB D.2 a S ++ hpW H) [(0, .ref x0), (1, .ref (a 0)), (2, .int x2), (3, .ref x3), (4, .int x4)] 250 [] := by
  intro x0 x2 x3 x4 h
  unfold wX9_isSame_250 at h
  refine q_iconst C (v := 0) dX9_isSame_250 (by decide) ?_
  refine q_istore C [(5, .int 0), (0, .ref x0), (1, .ref (a 0)), (2, .int x2), (3, .ref x3), (4, .int x4)] dX9_isSame_251 (by decide) rfl ?_
  refine q_ls [(0, .ref x0), (1, .ref (a 0)), (2, .int x2), (3, .ref x3), (4, .int x4), (5, .int 0)] [1, 2, 3, 4, 5, 0] rfl ?_
  obtain ⟨nw, h⟩ := h
  exact bX9_isSame_253 C (KL118 := KL118) hret hKL118 nw _ _ _ _ _ h
def wX9_isSame_245 (K : Int32 → Prop) (KL118 : Nat → Int32 → Prop) (Z : gZ) (a : gA) (S : cLS) (H : gH) (x0 : Nat) (x2 : Int32) (x3 : Nat) (x4 : Int32) (z0 : Int32) (z1 : Int32) : Prop :=
  ((z1 = z0 → wX9_isSame_250 K KL118 Z a S H x0 x2 x3 x4) ∧ (¬ z1 = z0 → K 0))
set_option maxRecDepth 100000 in
set_option maxHeartbeats 4000000 in
theorem bX9_isSame_245 {D : gD} {E : gE} {A : Nat → Prop} {Q : State → Prop} {a : gA} {S : cLS} {H : gH} (C : CL D E rmX9_isSame cX9_isSame 6 RX9 A) {K : Int32 → Prop} (hret : ∀ (r : Int32) (pc : Nat) (ls : List (Nat × Value)), narrow .boolean (.int r) = .int r → K r → decode cX9_isSame pc = .ok (.ireturn, 1) → Go D E A Q 6 0 0 (lwB D.2 a S ++ hpW H) ls pc [.int r]) {KL118 : Nat → Int32 → Prop} (hKL118 : ∀ (x0 : Nat) (x2 : Int32), KL118 x0 x2 → Go D E A Q 6 0 0 (lwB D.2 a S ++ hpW H) [(0, .ref x0), (1, .ref (a 0)), (2, .int x2)] 118 []) : ∀ (x0 : Nat) (x2 : Int32) (x3 : Nat) (x4 : Int32) (z0 : Int32) (z1 : Int32), wX9_isSame_245 K KL118 D.2 a S H x0 x2 x3 x4 z0 z1 → Go D E A Q 6 0 0 (lwB D.2 a S ++ hpW H) [(0, .ref x0), (1, .ref (a 0)), (2, .int x2), (3, .ref x3), (4, .int x4)] 245 [.int z0, .int z1] := by
  intro x0 x2 x3 x4 z0 z1 h
  unfold wX9_isSame_245 at h
  refine q_icmp_eq C 250 dX9_isSame_245 (by decide) h (fun h => ?_) (fun h => ?_)
  · exact bX9_isSame_250 C (KL118 := KL118) hret hKL118 _ _ _ _ h
  · refine q_iconst C (v := 0) dX9_isSame_248 (by decide) ?_
    exact hret 0 _ _ rfl h dX9_isSame_249
def wX9_isSame_220 (K : Int32 → Prop) (KL118 : Nat → Int32 → Prop) (Z : gZ) (a : gA) (S : cLS) (H : gH) (x0 : Nat) (x2 : Int32) (x3 : Nat) (x4 : Int32) (z0 : Int32) (z1 : Int32) : Prop :=
  ((¬ z1 = z0 → K 0) ∧ (z1 = z0 → kX8_hasTopSpring a S x2 (fun r1 => ∃ (n2 : Nat) (f3 : Nat → Option Nat) (y6 : Nat), hpG H x3 = some (qE (zY Z 4) n2 f3) ∧ vp_in (x4 - 1) n2 ∧ f3 (x4 - 1).toNatClampNeg = some y6 ∧ (∃ (n8 : Nat) (f9 : Nat → Int32), hpG H y6 = some (iE (zY Z 1) n8 f9) ∧ vp_in 2 n8 ∧ (((¬ f9 (2 : Int32).toNatClampNeg = 1 → wX9_isSame_245 K KL118 Z a S H x0 x2 x3 x4 0 r1) ∧ (f9 (2 : Int32).toNatClampNeg = 1 → wX9_isSame_245 K KL118 Z a S H x0 x2 x3 x4 1 r1)))))))
set_option maxRecDepth 100000 in
set_option maxHeartbeats 4000000 in
theorem bX9_isSame_220 {D : gD} {E : gE} {A : Nat → Prop} {Q : State → Prop} {a : gA} {S : cLS} {H : gH} (C : CL D E rmX9_isSame cX9_isSame 6 RX9 A) {K : Int32 → Prop} (hret : ∀ (r : Int32) (pc : Nat) (ls : List (Nat × Value)), narrow .boolean (.int r) = .int r → K r → decode cX9_isSame pc = .ok (.ireturn, 1) → Go D E A Q 6 0 0 (lwB D.2 a S ++ hpW H) ls pc [.int r]) {KL118 : Nat → Int32 → Prop} (hKL118 : ∀ (x0 : Nat) (x2 : Int32), KL118 x0 x2 → Go D E A Q 6 0 0 (lwB D.2 a S ++ hpW H) [(0, .ref x0), (1, .ref (a 0)), (2, .int x2)] 118 []) : ∀ (x0 : Nat) (x2 : Int32) (x3 : Nat) (x4 : Int32) (z0 : Int32) (z1 : Int32), wX9_isSame_220 K KL118 D.2 a S H x0 x2 x3 x4 z0 z1 → Go D E A Q 6 0 0 (lwB D.2 a S ++ hpW H) [(0, .ref x0), (1, .ref (a 0)), (2, .int x2), (3, .ref x3), (4, .int x4)] 220 [.int z0, .int z1] := by
  intro x0 x2 x3 x4 z0 z1 h
  unfold wX9_isSame_220 at h
  refine q_icmp_ne C 248 dX9_isSame_220 (by decide) h (fun h => ?_) (fun h => ?_)
  · refine q_iconst C (v := 0) dX9_isSame_248 (by decide) ?_
    exact hret 0 _ _ rfl h dX9_isSame_249
  · refine q_aload_n C dX9_isSame_223 1 rfl ?_
    refine q_iload_n C dX9_isSame_224 2 rfl ?_
    refine lc_hasTopSpring C h cf_X9_136 ⟨Nat.le_of_ble_eq_true rfl, Nat.le_of_ble_eq_true rfl⟩ ⟨Nat.le_refl _, Nat.le_refl _⟩ (Nat.le_of_ble_eq_true rfl) dX9_isSame_225 (fun r1 h => ?_)
    show Go D E A Q 6 0 0 (lwB D.2 a S ++ hpW H) [(0, .ref x0), (1, .ref (a 0)), (2, .int x2), (3, .ref x3), (4, .int x4)] 228 [.int r1]
    refine q_aload_n C dX9_isSame_228 3 rfl ?_
    refine q_iload C dX9_isSame_229 4 rfl ?_
    refine q_iconst C (v := 1) dX9_isSame_231 (by decide) ?_
    refine q_isub C dX9_isSame_232 ?_
    obtain ⟨n2, f3, y6, e4, i5, g7, h⟩ := h
    refine h_aldR C 4 rfl rfl e4 i5 g7 dX9_isSame_233 ?_
    refine q_iconst C (v := 2) dX9_isSame_234 (by decide) ?_
    obtain ⟨n8, f9, e10, i11, h⟩ := h
    refine h_iald C e10 i11 dX9_isSame_235 ?_
    refine q_iconst C (v := 1) dX9_isSame_236 (by decide) ?_
    refine q_icmp_ne C 244 dX9_isSame_237 (by decide) h (fun h => ?_) (fun h => ?_)
    · refine q_iconst C (v := 0) dX9_isSame_244 (by decide) ?_
      exact bX9_isSame_245 C (KL118 := KL118) hret hKL118 _ _ _ _ _ _ h
    · refine q_iconst C (v := 1) dX9_isSame_240 (by decide) ?_
      refine q_goto (tgt := 245) C dX9_isSame_241 (by decide) ?_
      exact bX9_isSame_245 C (KL118 := KL118) hret hKL118 _ _ _ _ _ _ h
def wX9_isSame_118 (K : Int32 → Prop) (Z : gZ) (a : gA) (S : cLS) (H : gH) : Nat → Nat → Int32 → Prop
  | 0, _, _ => False
  | n + 1, x0, x2 =>
  ∃ y1 : Nat, gF H x0 8 1 (.ref y1) ∧ (∃ (n3 : Nat) (f4 : Nat → Option Nat), hpG H y1 = some (qE (zY Z 5) n3 f4) ∧ (((nI n3 ≤ x2 → ∃ k9 : Nat, wX9_isSame_310 K Z a S H k9 x0 0 0 0) ∧ (¬ nI n3 ≤ x2 → ∃ y6 : Nat, gF H x0 8 1 (.ref y6) ∧ (∃ (n8 : Nat) (f9 : Nat → Option Nat) (y12 : Nat), hpG H y6 = some (qE (zY Z 5) n8 f9) ∧ vp_in x2 n8 ∧ f9 x2.toNatClampNeg = some y12 ∧ (∃ (n14 : Nat) (f15 : Nat → Option Nat), hpG H y12 = some (qE (zY Z 4) n14 f15) ∧ (kX8_heightOf a S x2 (fun r17 => ((¬ r17 = nI n14 → K 0) ∧ (r17 = nI n14 → kX8_isPropped a S x2 (fun r18 => ∃ y19 : Nat, gF H x0 8 4 (.ref y19) ∧ (∃ (n21 : Nat) (f22 : Nat → Int32), hpG H y19 = some (iE (zY Z 3) n21 f22) ∧ vp_in x2 n21 ∧ (((¬ r18 = f22 x2.toNatClampNeg → K 0) ∧ (r18 = f22 x2.toNatClampNeg → kX8_findsLeft a S x2 (fun r25 => (∃ fs, hpG H x0 = some (.inr (8, fs))) ∧ wX9_left Z H x0 x2 (fun r26 => ((r25 = r26 → ((nI n14 ≤ 0 → wX9_isSame_250 K (wX9_isSame_118 K Z a S H n) Z a S H x0 x2 y12 (nI n14)) ∧ (¬ nI n14 ≤ 0 → kX8_topStratum a S x2 (fun r27 => ∃ (n28 : Nat) (f29 : Nat → Option Nat) (y32 : Nat), hpG H y12 = some (qE (zY Z 4) n28 f29) ∧ vp_in ((nI n14) - 1) n28 ∧ f29 ((nI n14) - 1).toNatClampNeg = some y32 ∧ (∃ (n34 : Nat) (f35 : Nat → Int32), hpG H y32 = some (iE (zY Z 1) n34 f35) ∧ vp_in 0 n34 ∧ (((¬ r27 = f35 (0 : Int32).toNatClampNeg → K 0) ∧ (r27 = f35 (0 : Int32).toNatClampNeg → kX8_isTopLoose a S x2 (fun r38 => ∃ (n39 : Nat) (f40 : Nat → Option Nat) (y43 : Nat), hpG H y12 = some (qE (zY Z 4) n39 f40) ∧ vp_in ((nI n14) - 1) n39 ∧ f40 ((nI n14) - 1).toNatClampNeg = some y43 ∧ (∃ (n45 : Nat) (f46 : Nat → Int32), hpG H y43 = some (iE (zY Z 1) n45 f46) ∧ vp_in 3 n45 ∧ (((¬ f46 (3 : Int32).toNatClampNeg = 1 → wX9_isSame_220 K (wX9_isSame_118 K Z a S H n) Z a S H x0 x2 y12 (nI n14) 0 r38) ∧ (f46 (3 : Int32).toNatClampNeg = 1 → wX9_isSame_220 K (wX9_isSame_118 K Z a S H n) Z a S H x0 x2 y12 (nI n14) 1 r38))))))))))))) ∧ (¬ r25 = r26 → K 0)))))))))))))))))))
set_option maxRecDepth 100000 in
set_option maxHeartbeats 4000000 in
theorem bX9_isSame_118 {D : gD} {E : gE} {A : Nat → Prop} {Q : State → Prop} {a : gA} {S : cLS} {H : gH} (C : CL D E rmX9_isSame cX9_isSame 6 RX9 A) {K : Int32 → Prop} (hret : ∀ (r : Int32) (pc : Nat) (ls : List (Nat × Value)), narrow .boolean (.int r) = .int r → K r → decode cX9_isSame pc = .ok (.ireturn, 1) → Go D E A Q 6 0 0 (lwB D.2 a S ++ hpW H) ls pc [.int r]) : ∀ (n : Nat) (x0 : Nat) (x2 : Int32), wX9_isSame_118 K D.2 a S H n x0 x2 → Go D E A Q 6 0 0 (lwB D.2 a S ++ hpW H) [(0, .ref x0), (1, .ref (a 0)), (2, .int x2)] 118 [] := by
  intro n
  induction n with
  | zero =>
    intro x0 x2 h
    exact h.elim
  | succ n ih =>
    intro x0 x2 h
    unfold wX9_isSame_118 at h
    refine q_iload_n C dX9_isSame_118 2 rfl ?_
    refine q_aload_n C dX9_isSame_119 0 rfl ?_
    obtain ⟨y1, e2, h⟩ := h
    refine h_get C inX9g (ci := 8) rfl 1 (by decide) fl_X9_15 rfl e2 dX9_isSame_120 ?_
    obtain ⟨n3, f4, e5, h⟩ := h
    refine h_alen C 5 rfl e5 dX9_isSame_123 ?_
    refine q_icmp_ge C 303 dX9_isSame_124 (by decide) h (fun h => ?_) (fun h => ?_)
    · refine q_iconst C (v := 0) dX9_isSame_303 (by decide) ?_
      refine q_istore_n C [(2, .int 0), (0, .ref x0), (1, .ref (a 0))] dX9_isSame_304 (by decide) rfl ?_
      refine q_iconst C (v := 0) dX9_isSame_305 (by decide) ?_
      refine q_istore_n C [(3, .int 0), (2, .int 0), (0, .ref x0), (1, .ref (a 0))] dX9_isSame_306 (by decide) rfl ?_
      refine q_iconst C (v := 0) dX9_isSame_307 (by decide) ?_
      refine q_istore C [(4, .int 0), (3, .int 0), (2, .int 0), (0, .ref x0), (1, .ref (a 0))] dX9_isSame_308 (by decide) rfl ?_
      refine q_ls [(0, .ref x0), (1, .ref (a 0)), (2, .int 0), (3, .int 0), (4, .int 0)] [3, 4, 2, 1, 0] rfl ?_
      obtain ⟨nw, h⟩ := h
      exact bX9_isSame_310 C  hret  nw _ _ _ _ h
    · refine q_aload_n C dX9_isSame_127 0 rfl ?_
      obtain ⟨y6, e7, h⟩ := h
      refine h_get C inX9g (ci := 8) rfl 1 (by decide) fl_X9_15 rfl e7 dX9_isSame_128 ?_
      refine q_iload_n C dX9_isSame_131 2 rfl ?_
      obtain ⟨n8, f9, y12, e10, i11, g13, h⟩ := h
      refine h_aldR C 5 rfl rfl e10 i11 g13 dX9_isSame_132 ?_
      refine q_astore_n C [(3, .ref y12), (0, .ref x0), (1, .ref (a 0)), (2, .int x2)] dX9_isSame_133 (by decide) rfl ?_
      refine q_aload_n C dX9_isSame_134 0 rfl ?_
      obtain ⟨n14, f15, e16, h⟩ := h
      refine h_alen C 4 rfl e16 dX9_isSame_135 ?_
      refine q_istore C [(4, .int (nI n14)), (3, .ref y12), (0, .ref x0), (1, .ref (a 0)), (2, .int x2)] dX9_isSame_136 (by decide) rfl ?_
      refine q_aload_n C dX9_isSame_138 3 rfl ?_
      refine q_iload_n C dX9_isSame_139 4 rfl ?_
      refine lc_heightOf C h cf_X9_118 ⟨Nat.le_of_ble_eq_true rfl, Nat.le_of_ble_eq_true rfl⟩ ⟨Nat.le_refl _, Nat.le_refl _⟩ (Nat.le_of_ble_eq_true rfl) dX9_isSame_140 (fun r17 h => ?_)
      show Go D E A Q 6 0 0 (lwB D.2 a S ++ hpW H) [(4, .int (nI n14)), (3, .ref y12), (0, .ref x0), (1, .ref (a 0)), (2, .int x2)] 143 [.int r17]
      refine q_iload C dX9_isSame_143 0 rfl ?_
      refine q_icmp_ne C 175 dX9_isSame_145 (by decide) h (fun h => ?_) (fun h => ?_)
      · refine q_iconst C (v := 0) dX9_isSame_175 (by decide) ?_
        exact hret 0 _ _ rfl h dX9_isSame_176
      · refine q_aload_n C dX9_isSame_148 3 rfl ?_
        refine q_iload_n C dX9_isSame_149 4 rfl ?_
        refine lc_isPropped C h cf_X9_121 ⟨Nat.le_of_ble_eq_true rfl, Nat.le_of_ble_eq_true rfl⟩ ⟨Nat.le_refl _, Nat.le_refl _⟩ (Nat.le_of_ble_eq_true rfl) dX9_isSame_150 (fun r18 h => ?_)
        show Go D E A Q 6 0 0 (lwB D.2 a S ++ hpW H) [(4, .int (nI n14)), (3, .ref y12), (0, .ref x0), (1, .ref (a 0)), (2, .int x2)] 153 [.int r18]
        refine q_aload_n C dX9_isSame_153 2 rfl ?_
        obtain ⟨y19, e20, h⟩ := h
        refine h_get C inX9g (ci := 8) rfl 4 (by decide) fl_X9_27 rfl e20 dX9_isSame_154 ?_
        refine q_iload_n C dX9_isSame_157 4 rfl ?_
        obtain ⟨n21, f22, e23, i24, h⟩ := h
        refine h_zald C e23 i24 dX9_isSame_158 ?_
        refine q_icmp_ne C 175 dX9_isSame_159 (by decide) h (fun h => ?_) (fun h => ?_)
        · refine q_iconst C (v := 0) dX9_isSame_175 (by decide) ?_
          exact hret 0 _ _ rfl h dX9_isSame_176
        · refine q_aload_n C dX9_isSame_162 3 rfl ?_
          refine q_iload_n C dX9_isSame_163 4 rfl ?_
          refine lc_findsLeft C h cf_X9_124 ⟨Nat.le_of_ble_eq_true rfl, Nat.le_of_ble_eq_true rfl⟩ ⟨Nat.le_refl _, Nat.le_refl _⟩ (Nat.le_of_ble_eq_true rfl) dX9_isSame_164 (fun r25 h => ?_)
          show Go D E A Q 6 0 0 (lwB D.2 a S ++ hpW H) [(4, .int (nI n14)), (3, .ref y12), (0, .ref x0), (1, .ref (a 0)), (2, .int x2)] 167 [.int r25]
          refine q_aload_n C dX9_isSame_167 2 rfl ?_
          refine q_iload_n C dX9_isSame_168 4 rfl ?_
          obtain ⟨⟨fs9, hr9⟩, h⟩ := h
          refine p_callVI C (fun _ h => h) (lwB D.2 a S) (cX9_left_ok _ h) cf_X9_127 im_X9_left se_X9_left (hRv_h (q := (RX9, TX9, 12)) hr9 rfl) rfl ⟨Nat.le_of_ble_eq_true rfl, Nat.le_of_ble_eq_true rfl⟩ ⟨Nat.le_refl _, Nat.le_refl _⟩ List.perm_append_comm (fun _ : Unit => lwB D.2 a S ++ hpW H) (fun _ => List.perm_append_comm) (rest := [.int r25]) rfl (Nat.le_of_ble_eq_true rfl) dX9_isSame_169 (fun r26 _ h => ?_)
          show Go D E A Q 6 0 0 (lwB D.2 a S ++ hpW H) [(4, .int (nI n14)), (3, .ref y12), (0, .ref x0), (1, .ref (a 0)), (2, .int x2)] 172 [.int r26, .int r25]
          refine q_icmp_eq C 177 dX9_isSame_172 (by decide) h (fun h => ?_) (fun h => ?_)
          · refine q_iload C dX9_isSame_177 0 rfl ?_
            refine q_if_le C 250 dX9_isSame_179 (by decide) h (fun h => ?_) (fun h => ?_)
            · refine q_ls [(0, .ref x0), (1, .ref (a 0)), (2, .int x2), (3, .ref y12), (4, .int (nI n14))] [2, 3, 4, 1, 0] rfl ?_
              exact bX9_isSame_250 C (KL118 := (wX9_isSame_118 K D.2 a S H n)) hret ih _ _ _ _ h
            · refine q_aload_n C dX9_isSame_182 3 rfl ?_
              refine q_iload_n C dX9_isSame_183 4 rfl ?_
              refine lc_topStratum C h cf_X9_130 ⟨Nat.le_of_ble_eq_true rfl, Nat.le_of_ble_eq_true rfl⟩ ⟨Nat.le_refl _, Nat.le_refl _⟩ (Nat.le_of_ble_eq_true rfl) dX9_isSame_184 (fun r27 h => ?_)
              show Go D E A Q 6 0 0 (lwB D.2 a S ++ hpW H) [(4, .int (nI n14)), (3, .ref y12), (0, .ref x0), (1, .ref (a 0)), (2, .int x2)] 187 [.int r27]
              refine q_aload_n C dX9_isSame_187 1 rfl ?_
              refine q_iload C dX9_isSame_188 0 rfl ?_
              refine q_iconst C (v := 1) dX9_isSame_190 (by decide) ?_
              refine q_isub C dX9_isSame_191 ?_
              obtain ⟨n28, f29, y32, e30, i31, g33, h⟩ := h
              refine h_aldR C 4 rfl rfl e30 i31 g33 dX9_isSame_192 ?_
              refine q_iconst C (v := 0) dX9_isSame_193 (by decide) ?_
              obtain ⟨n34, f35, e36, i37, h⟩ := h
              refine h_iald C e36 i37 dX9_isSame_194 ?_
              refine q_icmp_ne C 248 dX9_isSame_195 (by decide) h (fun h => ?_) (fun h => ?_)
              · refine q_iconst C (v := 0) dX9_isSame_248 (by decide) ?_
                exact hret 0 _ _ rfl h dX9_isSame_249
              · refine q_aload_n C dX9_isSame_198 3 rfl ?_
                refine q_iload_n C dX9_isSame_199 4 rfl ?_
                refine lc_isTopLoose C h cf_X9_133 ⟨Nat.le_of_ble_eq_true rfl, Nat.le_of_ble_eq_true rfl⟩ ⟨Nat.le_refl _, Nat.le_refl _⟩ (Nat.le_of_ble_eq_true rfl) dX9_isSame_200 (fun r38 h => ?_)
                show Go D E A Q 6 0 0 (lwB D.2 a S ++ hpW H) [(4, .int (nI n14)), (3, .ref y12), (0, .ref x0), (1, .ref (a 0)), (2, .int x2)] 203 [.int r38]
                refine q_aload_n C dX9_isSame_203 1 rfl ?_
                refine q_iload C dX9_isSame_204 0 rfl ?_
                refine q_iconst C (v := 1) dX9_isSame_206 (by decide) ?_
                refine q_isub C dX9_isSame_207 ?_
                obtain ⟨n39, f40, y43, e41, i42, g44, h⟩ := h
                refine h_aldR C 4 rfl rfl e41 i42 g44 dX9_isSame_208 ?_
                refine q_iconst C (v := 3) dX9_isSame_209 (by decide) ?_
                obtain ⟨n45, f46, e47, i48, h⟩ := h
                refine h_iald C e47 i48 dX9_isSame_210 ?_
                refine q_iconst C (v := 1) dX9_isSame_211 (by decide) ?_
                refine q_icmp_ne C 219 dX9_isSame_212 (by decide) h (fun h => ?_) (fun h => ?_)
                · refine q_iconst C (v := 0) dX9_isSame_219 (by decide) ?_
                  refine q_ls [(0, .ref x0), (1, .ref (a 0)), (2, .int x2), (3, .ref y12), (4, .int (nI n14))] [2, 3, 4, 1, 0] rfl ?_
                  exact bX9_isSame_220 C (KL118 := (wX9_isSame_118 K D.2 a S H n)) hret ih _ _ _ _ _ _ h
                · refine q_iconst C (v := 1) dX9_isSame_215 (by decide) ?_
                  refine q_goto (tgt := 220) C dX9_isSame_216 (by decide) ?_
                  refine q_ls [(0, .ref x0), (1, .ref (a 0)), (2, .int x2), (3, .ref y12), (4, .int (nI n14))] [2, 3, 4, 1, 0] rfl ?_
                  exact bX9_isSame_220 C (KL118 := (wX9_isSame_118 K D.2 a S H n)) hret ih _ _ _ _ _ _ h
          · refine q_iconst C (v := 0) dX9_isSame_175 (by decide) ?_
            exact hret 0 _ _ rfl h dX9_isSame_176
def wX9_isSame (Z : gZ) (a : gA) (S : cLS) (H : gH) (p : Nat) (K : Int32 → Prop) : Prop :=
  kX8_seats a S (fun r1 => ∃ y2 : Nat, gF H p 8 1 (.ref y2) ∧ (∃ (n4 : Nat) (f5 : Nat → Option Nat), hpG H y2 = some (qE (zY Z 5) n4 f5) ∧ (((¬ r1 = nI n4 → K 0) ∧ (r1 = nI n4 → kX8_strata a S (fun r7 => ∃ y8 : Int32, gF H p 8 0 (.int y8) ∧ (((¬ r7 = y8 → K 0) ∧ (r7 = y8 → kX8_finds a S (fun r10 => ∃ y11 : Nat, gF H p 8 2 (.ref y11) ∧ (∃ (n13 : Nat) (f14 : Nat → Option Nat), hpG H y11 = some (qE (zY Z 4) n13 f14) ∧ (((¬ r10 = nI n13 → K 0) ∧ (r10 = nI n13 → kX8_days a S (fun r16 => ∃ y17 : Int32, gF H p 8 8 (.int y17) ∧ (((¬ r16 = y17 → K 0) ∧ (r16 = y17 → kX8_ordersCarriedOut a S (fun r19 => ∃ y20 : Int32, gF H p 8 9 (.int y20) ∧ (((¬ r19 = y20 → K 0) ∧ (r19 = y20 → kX8_cushionsDug a S (fun r22 => ∃ y23 : Int32, gF H p 8 10 (.int y23) ∧ (((¬ r22 = y23 → K 0) ∧ (r22 = y23 → kX8_slides a S (fun r25 => ∃ y26 : Int32, gF H p 8 11 (.int y26) ∧ (((¬ r25 = y26 → K 0) ∧ (r25 = y26 → kX8_found a S (fun r28 => (∃ fs, hpG H p = some (.inr (8, fs))) ∧ wX9_found Z H p 1 (fun r29 => ((¬ r28 = r29 → K 0) ∧ (r28 = r29 → kX8_sureFinds a S (fun r30 => (∃ fs, hpG H p = some (.inr (8, fs))) ∧ wX9_found Z H p 2 (fun r31 => ((¬ r30 = r31 → K 0) ∧ (r30 = r31 → kX8_props a S (fun r32 => (∃ fs, hpG H p = some (.inr (8, fs))) ∧ wX9_props Z H p (fun r33 => ((r32 = r33 → ∃ k9 : Nat, wX9_isSame_118 K Z a S H k9 p 0) ∧ (¬ r32 = r33 → K 0))))))))))))))))))))))))))))))))))))))))))
set_option maxRecDepth 100000 in
set_option maxHeartbeats 4000000 in
theorem bX9_isSame {D : gD} {E : gE} {A : Nat → Prop} {Q : State → Prop} {a : gA} {S : cLS} {H : gH} (C : CL D E rmX9_isSame cX9_isSame 6 RX9 A) {K : Int32 → Prop} (hret : ∀ (r : Int32) (pc : Nat) (ls : List (Nat × Value)), narrow .boolean (.int r) = .int r → K r → decode cX9_isSame pc = .ok (.ireturn, 1) → Go D E A Q 6 0 0 (lwB D.2 a S ++ hpW H) ls pc [.int r]) (p : Nat) (h : wX9_isSame D.2 a S H p K) : Go D E A Q 6 0 0 (lwB D.2 a S ++ hpW H) [(0, .ref p), (1, .ref (a 0))] 0 [] := by
  unfold wX9_isSame at h
  refine q_aload_n C dX9_isSame_0 1 rfl ?_
  refine lc_seats C h cf_X9_93 ⟨Nat.le_of_ble_eq_true rfl, Nat.le_of_ble_eq_true rfl⟩ ⟨Nat.le_refl _, Nat.le_refl _⟩ (Nat.le_of_ble_eq_true rfl) dX9_isSame_1 (fun r1 h => ?_)
  show Go D E A Q 6 0 0 (lwB D.2 a S ++ hpW H) [(0, .ref p), (1, .ref (a 0))] 4 [.int r1]
  refine q_aload_n C dX9_isSame_4 0 rfl ?_
  obtain ⟨y2, e3, h⟩ := h
  refine h_get C inX9g (ci := 8) rfl 1 (by decide) fl_X9_15 rfl e3 dX9_isSame_5 ?_
  obtain ⟨n4, f5, e6, h⟩ := h
  refine h_alen C 5 rfl e6 dX9_isSame_8 ?_
  refine q_icmp_ne C 114 dX9_isSame_9 (by decide) h (fun h => ?_) (fun h => ?_)
  · refine q_iconst C (v := 0) dX9_isSame_114 (by decide) ?_
    exact hret 0 _ _ rfl h dX9_isSame_115
  · refine q_aload_n C dX9_isSame_12 1 rfl ?_
    refine lc_strata C h cf_X9_98 ⟨Nat.le_of_ble_eq_true rfl, Nat.le_of_ble_eq_true rfl⟩ ⟨Nat.le_refl _, Nat.le_refl _⟩ (Nat.le_of_ble_eq_true rfl) dX9_isSame_13 (fun r7 h => ?_)
    show Go D E A Q 6 0 0 (lwB D.2 a S ++ hpW H) [(0, .ref p), (1, .ref (a 0))] 16 [.int r7]
    refine q_aload_n C dX9_isSame_16 0 rfl ?_
    obtain ⟨y8, e9, h⟩ := h
    refine h_get C inX9g (ci := 8) rfl 0 (by decide) fl_X9_7 rfl e9 dX9_isSame_17 ?_
    refine q_icmp_ne C 114 dX9_isSame_20 (by decide) h (fun h => ?_) (fun h => ?_)
    · refine q_iconst C (v := 0) dX9_isSame_114 (by decide) ?_
      exact hret 0 _ _ rfl h dX9_isSame_115
    · refine q_aload_n C dX9_isSame_23 1 rfl ?_
      refine lc_finds C h cf_X9_100 ⟨Nat.le_of_ble_eq_true rfl, Nat.le_of_ble_eq_true rfl⟩ ⟨Nat.le_refl _, Nat.le_refl _⟩ (Nat.le_of_ble_eq_true rfl) dX9_isSame_24 (fun r10 h => ?_)
      show Go D E A Q 6 0 0 (lwB D.2 a S ++ hpW H) [(0, .ref p), (1, .ref (a 0))] 27 [.int r10]
      refine q_aload_n C dX9_isSame_27 0 rfl ?_
      obtain ⟨y11, e12, h⟩ := h
      refine h_get C inX9g (ci := 8) rfl 2 (by decide) fl_X9_21 rfl e12 dX9_isSame_28 ?_
      obtain ⟨n13, f14, e15, h⟩ := h
      refine h_alen C 4 rfl e15 dX9_isSame_31 ?_
      refine q_icmp_ne C 114 dX9_isSame_32 (by decide) h (fun h => ?_) (fun h => ?_)
      · refine q_iconst C (v := 0) dX9_isSame_114 (by decide) ?_
        exact hret 0 _ _ rfl h dX9_isSame_115
      · refine q_aload_n C dX9_isSame_35 1 rfl ?_
        refine lc_days C h cf_X9_102 ⟨Nat.le_of_ble_eq_true rfl, Nat.le_of_ble_eq_true rfl⟩ ⟨Nat.le_refl _, Nat.le_refl _⟩ (Nat.le_of_ble_eq_true rfl) dX9_isSame_36 (fun r16 h => ?_)
        show Go D E A Q 6 0 0 (lwB D.2 a S ++ hpW H) [(0, .ref p), (1, .ref (a 0))] 39 [.int r16]
        refine q_aload_n C dX9_isSame_39 0 rfl ?_
        obtain ⟨y17, e18, h⟩ := h
        refine h_get C inX9g (ci := 8) rfl 8 (by decide) fl_X9_45 rfl e18 dX9_isSame_40 ?_
        refine q_icmp_ne C 114 dX9_isSame_43 (by decide) h (fun h => ?_) (fun h => ?_)
        · refine q_iconst C (v := 0) dX9_isSame_114 (by decide) ?_
          exact hret 0 _ _ rfl h dX9_isSame_115
        · refine q_aload_n C dX9_isSame_46 1 rfl ?_
          refine lc_ordersCarriedOut C h cf_X9_104 ⟨Nat.le_of_ble_eq_true rfl, Nat.le_of_ble_eq_true rfl⟩ ⟨Nat.le_refl _, Nat.le_refl _⟩ (Nat.le_of_ble_eq_true rfl) dX9_isSame_47 (fun r19 h => ?_)
          show Go D E A Q 6 0 0 (lwB D.2 a S ++ hpW H) [(0, .ref p), (1, .ref (a 0))] 50 [.int r19]
          refine q_aload_n C dX9_isSame_50 0 rfl ?_
          obtain ⟨y20, e21, h⟩ := h
          refine h_get C inX9g (ci := 8) rfl 9 (by decide) fl_X9_48 rfl e21 dX9_isSame_51 ?_
          refine q_icmp_ne C 114 dX9_isSame_54 (by decide) h (fun h => ?_) (fun h => ?_)
          · refine q_iconst C (v := 0) dX9_isSame_114 (by decide) ?_
            exact hret 0 _ _ rfl h dX9_isSame_115
          · refine q_aload_n C dX9_isSame_57 1 rfl ?_
            refine lc_cushionsDug C h cf_X9_107 ⟨Nat.le_of_ble_eq_true rfl, Nat.le_of_ble_eq_true rfl⟩ ⟨Nat.le_refl _, Nat.le_refl _⟩ (Nat.le_of_ble_eq_true rfl) dX9_isSame_58 (fun r22 h => ?_)
            show Go D E A Q 6 0 0 (lwB D.2 a S ++ hpW H) [(0, .ref p), (1, .ref (a 0))] 61 [.int r22]
            refine q_aload_n C dX9_isSame_61 0 rfl ?_
            obtain ⟨y23, e24, h⟩ := h
            refine h_get C inX9g (ci := 8) rfl 10 (by decide) fl_X9_51 rfl e24 dX9_isSame_62 ?_
            refine q_icmp_ne C 114 dX9_isSame_65 (by decide) h (fun h => ?_) (fun h => ?_)
            · refine q_iconst C (v := 0) dX9_isSame_114 (by decide) ?_
              exact hret 0 _ _ rfl h dX9_isSame_115
            · refine q_aload_n C dX9_isSame_68 1 rfl ?_
              refine lc_slides C h cf_X9_110 ⟨Nat.le_of_ble_eq_true rfl, Nat.le_of_ble_eq_true rfl⟩ ⟨Nat.le_refl _, Nat.le_refl _⟩ (Nat.le_of_ble_eq_true rfl) dX9_isSame_69 (fun r25 h => ?_)
              show Go D E A Q 6 0 0 (lwB D.2 a S ++ hpW H) [(0, .ref p), (1, .ref (a 0))] 72 [.int r25]
              refine q_aload_n C dX9_isSame_72 0 rfl ?_
              obtain ⟨y26, e27, h⟩ := h
              refine h_get C inX9g (ci := 8) rfl 11 (by decide) fl_X9_54 rfl e27 dX9_isSame_73 ?_
              refine q_icmp_ne C 114 dX9_isSame_76 (by decide) h (fun h => ?_) (fun h => ?_)
              · refine q_iconst C (v := 0) dX9_isSame_114 (by decide) ?_
                exact hret 0 _ _ rfl h dX9_isSame_115
              · refine q_aload_n C dX9_isSame_79 1 rfl ?_
                refine lc_found C h cf_X9_112 ⟨Nat.le_of_ble_eq_true rfl, Nat.le_of_ble_eq_true rfl⟩ ⟨Nat.le_refl _, Nat.le_refl _⟩ (Nat.le_of_ble_eq_true rfl) dX9_isSame_80 (fun r28 h => ?_)
                show Go D E A Q 6 0 0 (lwB D.2 a S ++ hpW H) [(0, .ref p), (1, .ref (a 0))] 83 [.int r28]
                refine q_aload_n C dX9_isSame_83 0 rfl ?_
                refine q_iconst C (v := 1) dX9_isSame_84 (by decide) ?_
                obtain ⟨⟨fs9, hr9⟩, h⟩ := h
                refine p_callVI C (fun _ h => h) (lwB D.2 a S) (cX9_found_ok _ h) cf_X9_76 im_X9_found se_X9_found (hRv_h (q := (RX9, TX9, 12)) hr9 rfl) rfl ⟨Nat.le_of_ble_eq_true rfl, Nat.le_of_ble_eq_true rfl⟩ ⟨Nat.le_refl _, Nat.le_refl _⟩ List.perm_append_comm (fun _ : Unit => lwB D.2 a S ++ hpW H) (fun _ => List.perm_append_comm) (rest := [.int r28]) rfl (Nat.le_of_ble_eq_true rfl) dX9_isSame_85 (fun r29 _ h => ?_)
                show Go D E A Q 6 0 0 (lwB D.2 a S ++ hpW H) [(0, .ref p), (1, .ref (a 0))] 88 [.int r29, .int r28]
                refine q_icmp_ne C 114 dX9_isSame_88 (by decide) h (fun h => ?_) (fun h => ?_)
                · refine q_iconst C (v := 0) dX9_isSame_114 (by decide) ?_
                  exact hret 0 _ _ rfl h dX9_isSame_115
                · refine q_aload_n C dX9_isSame_91 1 rfl ?_
                  refine lc_sureFinds C h cf_X9_114 ⟨Nat.le_of_ble_eq_true rfl, Nat.le_of_ble_eq_true rfl⟩ ⟨Nat.le_refl _, Nat.le_refl _⟩ (Nat.le_of_ble_eq_true rfl) dX9_isSame_92 (fun r30 h => ?_)
                  show Go D E A Q 6 0 0 (lwB D.2 a S ++ hpW H) [(0, .ref p), (1, .ref (a 0))] 95 [.int r30]
                  refine q_aload_n C dX9_isSame_95 0 rfl ?_
                  refine q_iconst C (v := 2) dX9_isSame_96 (by decide) ?_
                  obtain ⟨⟨fs9, hr9⟩, h⟩ := h
                  refine p_callVI C (fun _ h => h) (lwB D.2 a S) (cX9_found_ok _ h) cf_X9_76 im_X9_found se_X9_found (hRv_h (q := (RX9, TX9, 12)) hr9 rfl) rfl ⟨Nat.le_of_ble_eq_true rfl, Nat.le_of_ble_eq_true rfl⟩ ⟨Nat.le_refl _, Nat.le_refl _⟩ List.perm_append_comm (fun _ : Unit => lwB D.2 a S ++ hpW H) (fun _ => List.perm_append_comm) (rest := [.int r30]) rfl (Nat.le_of_ble_eq_true rfl) dX9_isSame_97 (fun r31 _ h => ?_)
                  show Go D E A Q 6 0 0 (lwB D.2 a S ++ hpW H) [(0, .ref p), (1, .ref (a 0))] 100 [.int r31, .int r30]
                  refine q_icmp_ne C 114 dX9_isSame_100 (by decide) h (fun h => ?_) (fun h => ?_)
                  · refine q_iconst C (v := 0) dX9_isSame_114 (by decide) ?_
                    exact hret 0 _ _ rfl h dX9_isSame_115
                  · refine q_aload_n C dX9_isSame_103 1 rfl ?_
                    refine lc_props C h cf_X9_117 ⟨Nat.le_of_ble_eq_true rfl, Nat.le_of_ble_eq_true rfl⟩ ⟨Nat.le_refl _, Nat.le_refl _⟩ (Nat.le_of_ble_eq_true rfl) dX9_isSame_104 (fun r32 h => ?_)
                    show Go D E A Q 6 0 0 (lwB D.2 a S ++ hpW H) [(0, .ref p), (1, .ref (a 0))] 107 [.int r32]
                    refine q_aload_n C dX9_isSame_107 0 rfl ?_
                    obtain ⟨⟨fs9, hr9⟩, h⟩ := h
                    refine p_callVI C (fun _ h => h) (lwB D.2 a S) (cX9_props_ok _ h) cf_X9_87 im_X9_props se_X9_props (hRv_h (q := (RX9, TX9, 12)) hr9 rfl) rfl ⟨Nat.le_of_ble_eq_true rfl, Nat.le_of_ble_eq_true rfl⟩ ⟨Nat.le_refl _, Nat.le_refl _⟩ List.perm_append_comm (fun _ : Unit => lwB D.2 a S ++ hpW H) (fun _ => List.perm_append_comm) (rest := [.int r32]) rfl (Nat.le_of_ble_eq_true rfl) dX9_isSame_108 (fun r33 _ h => ?_)
                    show Go D E A Q 6 0 0 (lwB D.2 a S ++ hpW H) [(0, .ref p), (1, .ref (a 0))] 111 [.int r33, .int r32]
                    refine q_icmp_eq C 116 dX9_isSame_111 (by decide) h (fun h => ?_) (fun h => ?_)
                    · refine q_iconst C (v := 0) dX9_isSame_116 (by decide) ?_
                      refine q_istore_n C [(2, .int 0), (0, .ref p), (1, .ref (a 0))] dX9_isSame_117 (by decide) rfl ?_
                      refine q_ls [(0, .ref p), (1, .ref (a 0)), (2, .int 0)] [1, 2, 0] rfl ?_
                      obtain ⟨nw, h⟩ := h
                      exact bX9_isSame_118 C  hret  nw _ _ h
                    · refine q_iconst C (v := 0) dX9_isSame_114 (by decide) ?_
                      exact hret 0 _ _ rfl h dX9_isSame_115
theorem cX9_isSame_ok (l : Launch) {D : gD} {a : gA} {S : cLS} {H : gH} {p : Nat} {K : Int32 → Prop} (h : wX9_isSame D.2 a S H p K) : CtI l D (gU (zY D.2)) yX9_isSame cX9_isSame 6 .boolean rmX9_isSame [.ref p, .ref (a 0)] (lwB D.2 a S ++ hpW H) (fun _ : Unit => lwB D.2 a S ++ hpW H) (fun r _ => K r ) :=
  ct_startI (by decide +kernel) (Nat.le_of_ble_eq_true rfl) (fun E A Q hE C hret => bX9_isSame C (fun r pc ls hn hk hd => hret r () pc ls hn hk hd) _ h)
abbrev rmL_taught (bc bs : Nat) : Room := { frames := 138, cells := bc, slots := bs, locals := 3053 }
def wL_taught_79 (K : Int32 → cLS → gH → Prop) (KL6 : gH → Nat → Nat → cLS → Nat → Nat → Int32 → Prop) (KL17 : gH → Nat → Nat → cLS → Nat → Nat → Int32 → Int32 → Prop) (KL36 : gH → Nat → Nat → cLS → Nat → Nat → Int32 → Int32 → Int32 → Prop) (Z : gZ) (a : gA) (H : gH) (bc : Nat) (bs : Nat) (S : cLS) (x1 : Nat) (x2 : Nat) (x3 : Int32) (x4 : Int32) (x5 : Int32) (z0 : Int32) (z1 : Int32) (z2 : Int32) (z3 : Nat) : Prop :=
  ∃ (n1 : Nat) (f2 : Nat → Int32), hpG H z3 = some (iE (zY Z 1) n1 f2) ∧ vp_in z2 n1 ∧ (KL36 (hpS H z3 (iE (zY Z 1) n1 (upd f2 z2.toNatClampNeg (z1 ||| z0)))) bc bs S x1 x2 x3 x4 (x5 + 1))
set_option maxRecDepth 100000 in
set_option maxHeartbeats 4000000 in
theorem bL_taught_79 {D : gD} {E : gE} {A : Nat → Prop} {Q : State → Prop} {bc0 bs0 : Nat} {a : gA} (C : CL D E (rmL_taught bc0 bs0) cL_taught 6 RL A) {K : Int32 → cLS → gH → Prop} (hret : ∀ (r : Int32) (S : cLS) (H : gH) (pc : Nat) (ls : List (Nat × Value)), K r S H → decode cL_taught pc = .ok (.ireturn, 1) → Go D E A Q 6 bc0 bs0 (lwB D.2 (swA a) S ++ hpW H) ls pc [.int r]) {KL6 : gH → Nat → Nat → cLS → Nat → Nat → Int32 → Prop} (hKL6 : ∀ (cells slots : Nat) (H : gH) (bc : Nat) (bs : Nat) (S : cLS) (x1 : Nat) (x2 : Nat) (x3 : Int32), cells + bc ≤ bc0 → slots + bs ≤ bs0 → KL6 H bc bs S x1 x2 x3 → Go D E A Q 6 cells slots (lwB D.2 a S ++ hpW H) [(0, .ref (a 0)), (1, .ref x1), (2, .ref x2), (3, .int x3)] 6 []) {KL17 : gH → Nat → Nat → cLS → Nat → Nat → Int32 → Int32 → Prop} (hKL17 : ∀ (cells slots : Nat) (H : gH) (bc : Nat) (bs : Nat) (S : cLS) (x1 : Nat) (x2 : Nat) (x3 : Int32) (x4 : Int32), cells + bc ≤ bc0 → slots + bs ≤ bs0 → KL17 H bc bs S x1 x2 x3 x4 → Go D E A Q 6 cells slots (lwB D.2 a S ++ hpW H) [(0, .ref (a 0)), (1, .ref x1), (2, .ref x2), (3, .int x3), (4, .int x4)] 17 []) {KL36 : gH → Nat → Nat → cLS → Nat → Nat → Int32 → Int32 → Int32 → Prop} (hKL36 : ∀ (cells slots : Nat) (H : gH) (bc : Nat) (bs : Nat) (S : cLS) (x1 : Nat) (x2 : Nat) (x3 : Int32) (x4 : Int32) (x5 : Int32), cells + bc ≤ bc0 → slots + bs ≤ bs0 → KL36 H bc bs S x1 x2 x3 x4 x5 → Go D E A Q 6 cells slots (lwB D.2 a S ++ hpW H) [(0, .ref (a 0)), (1, .ref x1), (2, .ref x2), (3, .int x3), (4, .int x4), (5, .int x5)] 36 []) : ∀ (cells slots : Nat) (H : gH) (bc : Nat) (bs : Nat) (S : cLS) (x1 : Nat) (x2 : Nat) (x3 : Int32) (x4 : Int32) (x5 : Int32) (z0 : Int32) (z1 : Int32) (z2 : Int32) (z3 : Nat), cells + bc ≤ bc0 → slots + bs ≤ bs0 → wL_taught_79 K KL6 KL17 KL36 D.2 a H bc bs S x1 x2 x3 x4 x5 z0 z1 z2 z3 → Go D E A Q 6 cells slots (lwB D.2 a S ++ hpW H) [(0, .ref (a 0)), (1, .ref x1), (2, .ref x2), (3, .int x3), (4, .int x4), (5, .int x5)] 79 [.int z0, .int z1, .int z2, .ref z3] := by
  intro cells slots H bc bs S x1 x2 x3 x4 x5 z0 z1 z2 z3 hbc hbs h
  unfold wL_taught_79 at h
  refine q_ior C dL_taught_79 ?_
  obtain ⟨n1, f2, e3, i4, h⟩ := h
  refine h_iast C e3 i4 dL_taught_80 ?_
  refine q_iinc C (v := x5 + 1) [(5, .int (x5 + 1)), (0, .ref (a 0)), (1, .ref x1), (2, .ref x2), (3, .int x3), (4, .int x4)] dL_taught_81 5 rfl rfl (by decide) rfl ?_
  refine q_goto (tgt := 36) C dL_taught_84 (by decide) ?_
  refine q_ls [(0, .ref (a 0)), (1, .ref x1), (2, .ref x2), (3, .int x3), (4, .int x4), (5, .int (x5 + 1))] [1, 2, 3, 4, 5, 0] rfl ?_
  exact hKL36 cells slots _ _ _ _ _ _ _ _ _ (by omega) (by omega) h
def wL_taught_36 (K : Int32 → cLS → gH → Prop) (KL6 : gH → Nat → Nat → cLS → Nat → Nat → Int32 → Prop) (KL17 : gH → Nat → Nat → cLS → Nat → Nat → Int32 → Int32 → Prop) (Z : gZ) (a : gA) : Nat → gH → Nat → Nat → cLS → Nat → Nat → Int32 → Int32 → Int32 → Prop
  | 0, _, _, _, _, _, _, _, _, _ => False
  | n + 1, H, bc, bs, S, x1, x2, x3, x4, x5 =>
  (((x3 + (4 * x4)) + 4 ≤ x5 → KL17 H bc bs S x1 x2 x3 (x4 + 1)) ∧ (¬ (x3 + (4 * x4)) + 4 ≤ x5 → ∃ (n1 : Nat) (f2 : Nat → Int32), hpG H x2 = some (iE (zY Z 1) n1 f2) ∧ vp_in x4 n1 ∧ (hRs Z H x1 ∧ whJ0_length_8abf5 Z H x1 (fun r5 => ((r5 ≤ x5 → wL_taught_79 K KL6 KL17 (wL_taught_36 K KL6 KL17 Z a n) Z a H bc bs S x1 x2 x3 x4 x5 32 ((f2 x4.toNatClampNeg) <<< (8 &&& 31)) x4 x2) ∧ (¬ r5 ≤ x5 → hRs Z H x1 ∧ whJ0_charAt_5068e Z H x1 x5 (fun r6 => wL_taught_79 K KL6 KL17 (wL_taught_36 K KL6 KL17 Z a n) Z a H bc bs S x1 x2 x3 x4 x5 r6 ((f2 x4.toNatClampNeg) <<< (8 &&& 31)) x4 x2)))))))
set_option maxRecDepth 100000 in
set_option maxHeartbeats 4000000 in
theorem bL_taught_36 {D : gD} {E : gE} {A : Nat → Prop} {Q : State → Prop} {bc0 bs0 : Nat} {a : gA} (C : CL D E (rmL_taught bc0 bs0) cL_taught 6 RL A) {K : Int32 → cLS → gH → Prop} (hret : ∀ (r : Int32) (S : cLS) (H : gH) (pc : Nat) (ls : List (Nat × Value)), K r S H → decode cL_taught pc = .ok (.ireturn, 1) → Go D E A Q 6 bc0 bs0 (lwB D.2 (swA a) S ++ hpW H) ls pc [.int r]) {KL6 : gH → Nat → Nat → cLS → Nat → Nat → Int32 → Prop} (hKL6 : ∀ (cells slots : Nat) (H : gH) (bc : Nat) (bs : Nat) (S : cLS) (x1 : Nat) (x2 : Nat) (x3 : Int32), cells + bc ≤ bc0 → slots + bs ≤ bs0 → KL6 H bc bs S x1 x2 x3 → Go D E A Q 6 cells slots (lwB D.2 a S ++ hpW H) [(0, .ref (a 0)), (1, .ref x1), (2, .ref x2), (3, .int x3)] 6 []) {KL17 : gH → Nat → Nat → cLS → Nat → Nat → Int32 → Int32 → Prop} (hKL17 : ∀ (cells slots : Nat) (H : gH) (bc : Nat) (bs : Nat) (S : cLS) (x1 : Nat) (x2 : Nat) (x3 : Int32) (x4 : Int32), cells + bc ≤ bc0 → slots + bs ≤ bs0 → KL17 H bc bs S x1 x2 x3 x4 → Go D E A Q 6 cells slots (lwB D.2 a S ++ hpW H) [(0, .ref (a 0)), (1, .ref x1), (2, .ref x2), (3, .int x3), (4, .int x4)] 17 []) : ∀ (n : Nat) (cells slots : Nat) (H : gH) (bc : Nat) (bs : Nat) (S : cLS) (x1 : Nat) (x2 : Nat) (x3 : Int32) (x4 : Int32) (x5 : Int32), cells + bc ≤ bc0 → slots + bs ≤ bs0 → wL_taught_36 K KL6 KL17 D.2 a n H bc bs S x1 x2 x3 x4 x5 → Go D E A Q 6 cells slots (lwB D.2 a S ++ hpW H) [(0, .ref (a 0)), (1, .ref x1), (2, .ref x2), (3, .int x3), (4, .int x4), (5, .int x5)] 36 [] := by
  intro n
  induction n with
  | zero =>
    intro cells slots H bc bs S x1 x2 x3 x4 x5 hbc hbs h
    exact h.elim
  | succ n ih =>
    intro cells slots H bc bs S x1 x2 x3 x4 x5 hbc hbs h
    unfold wL_taught_36 at h
    refine q_iload C dL_taught_36 5 rfl ?_
    refine q_iload_n C dL_taught_38 3 rfl ?_
    refine q_iconst C (v := 4) dL_taught_39 (by decide) ?_
    refine q_iload C dL_taught_40 4 rfl ?_
    refine q_imul C dL_taught_42 ?_
    refine q_iadd C dL_taught_43 ?_
    refine q_iconst C (v := 4) dL_taught_44 (by decide) ?_
    refine q_iadd C dL_taught_45 ?_
    refine q_icmp_ge C 87 dL_taught_46 (by decide) h (fun h => ?_) (fun h => ?_)
    · refine q_iinc C (v := x4 + 1) [(4, .int (x4 + 1)), (0, .ref (a 0)), (1, .ref x1), (2, .ref x2), (3, .int x3), (5, .int x5)] dL_taught_87 4 rfl rfl (by decide) rfl ?_
      refine q_goto (tgt := 17) C dL_taught_90 (by decide) ?_
      refine q_ls [(0, .ref (a 0)), (1, .ref x1), (2, .ref x2), (3, .int x3), (4, .int (x4 + 1))] [1, 2, 3, 4, 0] rfl ?_
      exact hKL17 cells slots _ _ _ _ _ _ _ _ (by omega) (by omega) h
    · refine q_aload_n C dL_taught_49 2 rfl ?_
      refine q_iload C dL_taught_50 4 rfl ?_
      refine q_aload_n C dL_taught_52 2 rfl ?_
      refine q_iload C dL_taught_53 4 rfl ?_
      obtain ⟨n1, f2, e3, i4, h⟩ := h
      refine h_iald C e3 i4 dL_taught_55 ?_
      refine q_bipush C (v := 8) dL_taught_56 (by decide) ?_
      refine q_ishl C dL_taught_58 ?_
      refine q_iload C dL_taught_59 5 rfl ?_
      refine q_aload_n C dL_taught_61 1 rfl ?_
      obtain ⟨hr9, h⟩ := h
      refine p_callVI C (fun _ h => h) (lwB D.2 a S) (chJ0_length_8abf5_ok _ h) cf_L_9 im_J0_length_8abf5 se_J0_length_8abf5 (hRs_rv hr9) rfl ⟨Nat.le_of_ble_eq_true rfl, Nat.le_of_ble_eq_true rfl⟩ ⟨by show cells + 0 ≤ bc0; omega, by show slots + 0 ≤ bs0; omega⟩ List.perm_append_comm (fun _ : Unit => lwB D.2 a S ++ hpW H) (fun _ => List.perm_append_comm) (rest := [.int x5, .int ((f2 x4.toNatClampNeg) <<< (8 &&& 31)), .int x4, .ref x2]) rfl (Nat.le_of_ble_eq_true rfl) dL_taught_62 (fun r5 _ h => ?_)
      show Go D E A Q 6 cells slots (lwB D.2 a S ++ hpW H) [(0, .ref (a 0)), (1, .ref x1), (2, .ref x2), (3, .int x3), (4, .int x4), (5, .int x5)] 65 [.int r5, .int x5, .int ((f2 x4.toNatClampNeg) <<< (8 &&& 31)), .int x4, .ref x2]
      refine q_icmp_ge C 77 dL_taught_65 (by decide) h (fun h => ?_) (fun h => ?_)
      · refine q_bipush C (v := 32) dL_taught_77 (by decide) ?_
        exact bL_taught_79 C (KL6 := KL6) (KL17 := KL17) (KL36 := (wL_taught_36 K KL6 KL17 D.2 a n)) hret hKL6 hKL17 ih cells slots _ _ _ _ _ _ _ _ _ _ _ _ _ (by omega) (by omega) h
      · refine q_aload_n C dL_taught_68 1 rfl ?_
        refine q_iload C dL_taught_69 5 rfl ?_
        obtain ⟨hr9, h⟩ := h
        refine p_callVI C (fun _ h => h) (lwB D.2 a S) (chJ0_charAt_5068e_ok _ h) cf_L_15 im_J0_charAt_5068e se_J0_charAt_5068e (hRs_rv hr9) rfl ⟨Nat.le_of_ble_eq_true rfl, Nat.le_of_ble_eq_true rfl⟩ ⟨by show cells + 0 ≤ bc0; omega, by show slots + 0 ≤ bs0; omega⟩ List.perm_append_comm (fun _ : Unit => lwB D.2 a S ++ hpW H) (fun _ => List.perm_append_comm) (rest := [.int ((f2 x4.toNatClampNeg) <<< (8 &&& 31)), .int x4, .ref x2]) rfl (Nat.le_of_ble_eq_true rfl) dL_taught_71 (fun r6 _ h => ?_)
        show Go D E A Q 6 cells slots (lwB D.2 a S ++ hpW H) [(0, .ref (a 0)), (1, .ref x1), (2, .ref x2), (3, .int x3), (4, .int x4), (5, .int x5)] 74 [.int r6, .int ((f2 x4.toNatClampNeg) <<< (8 &&& 31)), .int x4, .ref x2]
        refine q_goto (tgt := 79) C dL_taught_74 (by decide) ?_
        exact bL_taught_79 C (KL6 := KL6) (KL17 := KL17) (KL36 := (wL_taught_36 K KL6 KL17 D.2 a n)) hret hKL6 hKL17 ih cells slots _ _ _ _ _ _ _ _ _ _ _ _ _ (by omega) (by omega) h
def wL_taught_17 (K : Int32 → cLS → gH → Prop) (KL6 : gH → Nat → Nat → cLS → Nat → Nat → Int32 → Prop) (Z : gZ) (a : gA) : Nat → gH → Nat → Nat → cLS → Nat → Nat → Int32 → Int32 → Prop
  | 0, _, _, _, _, _, _, _, _ => False
  | n + 1, H, bc, bs, S, x1, x2, x3, x4 =>
  ((5 ≤ x4 → ∃ (n1 : Nat) (f2 : Nat → Int32), hpG H x2 = some (iE (zY Z 1) n1 f2) ∧ vp_in 0 n1 ∧ (∃ (n5 : Nat) (f6 : Nat → Int32), hpG H x2 = some (iE (zY Z 1) n5 f6) ∧ vp_in 1 n5 ∧ (∃ (n9 : Nat) (f10 : Nat → Int32), hpG H x2 = some (iE (zY Z 1) n9 f10) ∧ vp_in 2 n9 ∧ (∃ (n13 : Nat) (f14 : Nat → Int32), hpG H x2 = some (iE (zY Z 1) n13 f14) ∧ vp_in 3 n13 ∧ (∃ (n17 : Nat) (f18 : Nat → Int32), hpG H x2 = some (iE (zY Z 1) n17 f18) ∧ vp_in 4 n17 ∧ (kX8_feed a S (f2 (0 : Int32).toNatClampNeg) (f6 (1 : Int32).toNatClampNeg) (f10 (2 : Int32).toNatClampNeg) (f14 (3 : Int32).toNatClampNeg) (f18 (4 : Int32).toNatClampNeg) (fun r21 S21 => KL6 H bc bs S21 x1 x2 (x3 + 20)))))))) ∧ (¬ 5 ≤ x4 → ∃ (n22 : Nat) (f23 : Nat → Int32), hpG H x2 = some (iE (zY Z 1) n22 f23) ∧ vp_in x4 n22 ∧ (∃ k9 : Nat, wL_taught_36 K KL6 (wL_taught_17 K KL6 Z a n) Z a k9 (hpS H x2 (iE (zY Z 1) n22 (upd f23 x4.toNatClampNeg 0))) bc bs S x1 x2 x3 x4 (x3 + (4 * x4)))))
set_option maxRecDepth 100000 in
set_option maxHeartbeats 4000000 in
theorem bL_taught_17 {D : gD} {E : gE} {A : Nat → Prop} {Q : State → Prop} {bc0 bs0 : Nat} {a : gA} (C : CL D E (rmL_taught bc0 bs0) cL_taught 6 RL A) {K : Int32 → cLS → gH → Prop} (hret : ∀ (r : Int32) (S : cLS) (H : gH) (pc : Nat) (ls : List (Nat × Value)), K r S H → decode cL_taught pc = .ok (.ireturn, 1) → Go D E A Q 6 bc0 bs0 (lwB D.2 (swA a) S ++ hpW H) ls pc [.int r]) {KL6 : gH → Nat → Nat → cLS → Nat → Nat → Int32 → Prop} (hKL6 : ∀ (cells slots : Nat) (H : gH) (bc : Nat) (bs : Nat) (S : cLS) (x1 : Nat) (x2 : Nat) (x3 : Int32), cells + bc ≤ bc0 → slots + bs ≤ bs0 → KL6 H bc bs S x1 x2 x3 → Go D E A Q 6 cells slots (lwB D.2 a S ++ hpW H) [(0, .ref (a 0)), (1, .ref x1), (2, .ref x2), (3, .int x3)] 6 []) : ∀ (n : Nat) (cells slots : Nat) (H : gH) (bc : Nat) (bs : Nat) (S : cLS) (x1 : Nat) (x2 : Nat) (x3 : Int32) (x4 : Int32), cells + bc ≤ bc0 → slots + bs ≤ bs0 → wL_taught_17 K KL6 D.2 a n H bc bs S x1 x2 x3 x4 → Go D E A Q 6 cells slots (lwB D.2 a S ++ hpW H) [(0, .ref (a 0)), (1, .ref x1), (2, .ref x2), (3, .int x3), (4, .int x4)] 17 [] := by
  intro n
  induction n with
  | zero =>
    intro cells slots H bc bs S x1 x2 x3 x4 hbc hbs h
    exact h.elim
  | succ n ih =>
    intro cells slots H bc bs S x1 x2 x3 x4 hbc hbs h
    unfold wL_taught_17 at h
    refine q_iload C dL_taught_17 4 rfl ?_
    refine q_iconst C (v := 5) dL_taught_19 (by decide) ?_
    refine q_icmp_ge C 93 dL_taught_20 (by decide) h (fun h => ?_) (fun h => ?_)
    · refine q_aload_n C dL_taught_93 0 rfl ?_
      refine q_aload_n C dL_taught_94 2 rfl ?_
      refine q_iconst C (v := 0) dL_taught_95 (by decide) ?_
      obtain ⟨n1, f2, e3, i4, h⟩ := h
      refine h_iald C e3 i4 dL_taught_96 ?_
      refine q_aload_n C dL_taught_97 2 rfl ?_
      refine q_iconst C (v := 1) dL_taught_98 (by decide) ?_
      obtain ⟨n5, f6, e7, i8, h⟩ := h
      refine h_iald C e7 i8 dL_taught_99 ?_
      refine q_aload_n C dL_taught_100 2 rfl ?_
      refine q_iconst C (v := 2) dL_taught_101 (by decide) ?_
      obtain ⟨n9, f10, e11, i12, h⟩ := h
      refine h_iald C e11 i12 dL_taught_102 ?_
      refine q_aload_n C dL_taught_103 2 rfl ?_
      refine q_iconst C (v := 3) dL_taught_104 (by decide) ?_
      obtain ⟨n13, f14, e15, i16, h⟩ := h
      refine h_iald C e15 i16 dL_taught_105 ?_
      refine q_aload_n C dL_taught_106 2 rfl ?_
      refine q_iconst C (v := 4) dL_taught_107 (by decide) ?_
      obtain ⟨n17, f18, e19, i20, h⟩ := h
      refine h_iald C e19 i20 dL_taught_108 ?_
      refine lc_feed C h cf_L_19 ⟨Nat.le_of_ble_eq_true rfl, Nat.le_of_ble_eq_true rfl⟩ ⟨by show cells ≤ bc0; omega, by show slots ≤ bs0; omega⟩ (Nat.le_of_ble_eq_true rfl) dL_taught_109 (fun r21 S21 h => ?_)
      show Go D E A Q 6 cells slots (lwB D.2 a S21 ++ hpW H) [(0, .ref (a 0)), (1, .ref x1), (2, .ref x2), (3, .int x3), (4, .int x4)] 112 [.int r21]
      refine q_pop C dL_taught_112 rfl ?_
      refine q_iinc C (v := x3 + 20) [(3, .int (x3 + 20)), (0, .ref (a 0)), (1, .ref x1), (2, .ref x2), (4, .int x4)] dL_taught_113 3 rfl rfl (by decide) rfl ?_
      refine q_goto (tgt := 6) C dL_taught_116 (by decide) ?_
      refine q_ls [(0, .ref (a 0)), (1, .ref x1), (2, .ref x2), (3, .int (x3 + 20))] [1, 2, 3, 0] rfl ?_
      exact hKL6 cells slots _ _ _ _ _ _ _ (by omega) (by omega) h
    · refine q_aload_n C dL_taught_23 2 rfl ?_
      refine q_iload C dL_taught_24 4 rfl ?_
      refine q_iconst C (v := 0) dL_taught_26 (by decide) ?_
      obtain ⟨n22, f23, e24, i25, h⟩ := h
      refine h_iast C e24 i25 dL_taught_27 ?_
      refine q_iload_n C dL_taught_28 3 rfl ?_
      refine q_iconst C (v := 4) dL_taught_29 (by decide) ?_
      refine q_iload C dL_taught_30 4 rfl ?_
      refine q_imul C dL_taught_32 ?_
      refine q_iadd C dL_taught_33 ?_
      refine q_istore C [(5, .int (x3 + (4 * x4))), (0, .ref (a 0)), (1, .ref x1), (2, .ref x2), (3, .int x3), (4, .int x4)] dL_taught_34 (by decide) rfl ?_
      refine q_ls [(0, .ref (a 0)), (1, .ref x1), (2, .ref x2), (3, .int x3), (4, .int x4), (5, .int (x3 + (4 * x4)))] [1, 2, 3, 4, 5, 0] rfl ?_
      obtain ⟨nw, h⟩ := h
      exact bL_taught_36 C (KL6 := KL6) (KL17 := (wL_taught_17 K KL6 D.2 a n)) hret hKL6 ih nw cells slots _ _ _ _ _ _ _ _ _ (by omega) (by omega) h
def wL_taught_6 (K : Int32 → cLS → gH → Prop) (Z : gZ) (a : gA) : Nat → gH → Nat → Nat → cLS → Nat → Nat → Int32 → Prop
  | 0, _, _, _, _, _, _, _ => False
  | n + 1, H, bc, bs, S, x1, x2, x3 =>
  hRs Z H x1 ∧ whJ0_length_8abf5 Z H x1 (fun r1 => ((r1 ≤ x3 → hRs Z H x1 ∧ whJ0_length_8abf5 Z H x1 (fun r2 => kX8_trim a S r2 (fun r3 S3 => kX8_teach a S3 (fun r4 S4 => K r4 S4 H)))) ∧ (¬ r1 ≤ x3 → ∃ k9 : Nat, wL_taught_17 K (wL_taught_6 K Z a n) Z a k9 H bc bs S x1 x2 x3 0)))
set_option maxRecDepth 100000 in
set_option maxHeartbeats 4000000 in
theorem bL_taught_6 {D : gD} {E : gE} {A : Nat → Prop} {Q : State → Prop} {bc0 bs0 : Nat} {a : gA} (C : CL D E (rmL_taught bc0 bs0) cL_taught 6 RL A) {K : Int32 → cLS → gH → Prop} (hret : ∀ (r : Int32) (S : cLS) (H : gH) (pc : Nat) (ls : List (Nat × Value)), K r S H → decode cL_taught pc = .ok (.ireturn, 1) → Go D E A Q 6 bc0 bs0 (lwB D.2 (swA a) S ++ hpW H) ls pc [.int r]) : ∀ (n : Nat) (cells slots : Nat) (H : gH) (bc : Nat) (bs : Nat) (S : cLS) (x1 : Nat) (x2 : Nat) (x3 : Int32), cells + bc ≤ bc0 → slots + bs ≤ bs0 → wL_taught_6 K D.2 a n H bc bs S x1 x2 x3 → Go D E A Q 6 cells slots (lwB D.2 a S ++ hpW H) [(0, .ref (a 0)), (1, .ref x1), (2, .ref x2), (3, .int x3)] 6 [] := by
  intro n
  induction n with
  | zero =>
    intro cells slots H bc bs S x1 x2 x3 hbc hbs h
    exact h.elim
  | succ n ih =>
    intro cells slots H bc bs S x1 x2 x3 hbc hbs h
    unfold wL_taught_6 at h
    refine q_iload_n C dL_taught_6 3 rfl ?_
    refine q_aload_n C dL_taught_7 1 rfl ?_
    obtain ⟨hr9, h⟩ := h
    refine p_callVI C (fun _ h => h) (lwB D.2 a S) (chJ0_length_8abf5_ok _ h) cf_L_9 im_J0_length_8abf5 se_J0_length_8abf5 (hRs_rv hr9) rfl ⟨Nat.le_of_ble_eq_true rfl, Nat.le_of_ble_eq_true rfl⟩ ⟨by show cells + 0 ≤ bc0; omega, by show slots + 0 ≤ bs0; omega⟩ List.perm_append_comm (fun _ : Unit => lwB D.2 a S ++ hpW H) (fun _ => List.perm_append_comm) (rest := [.int x3]) rfl (Nat.le_of_ble_eq_true rfl) dL_taught_8 (fun r1 _ h => ?_)
    show Go D E A Q 6 cells slots (lwB D.2 a S ++ hpW H) [(0, .ref (a 0)), (1, .ref x1), (2, .ref x2), (3, .int x3)] 11 [.int r1, .int x3]
    refine q_icmp_ge C 119 dL_taught_11 (by decide) h (fun h => ?_) (fun h => ?_)
    · refine q_aload_n C dL_taught_119 0 rfl ?_
      refine q_aload_n C dL_taught_120 1 rfl ?_
      obtain ⟨hr9, h⟩ := h
      refine p_callVI C (fun _ h => h) (lwB D.2 a S) (chJ0_length_8abf5_ok _ h) cf_L_9 im_J0_length_8abf5 se_J0_length_8abf5 (hRs_rv hr9) rfl ⟨Nat.le_of_ble_eq_true rfl, Nat.le_of_ble_eq_true rfl⟩ ⟨by show cells + 0 ≤ bc0; omega, by show slots + 0 ≤ bs0; omega⟩ List.perm_append_comm (fun _ : Unit => lwB D.2 a S ++ hpW H) (fun _ => List.perm_append_comm) (rest := [.ref (a 0)]) rfl (Nat.le_of_ble_eq_true rfl) dL_taught_121 (fun r2 _ h => ?_)
      show Go D E A Q 6 cells slots (lwB D.2 a S ++ hpW H) [(0, .ref (a 0)), (1, .ref x1), (2, .ref x2), (3, .int x3)] 124 [.int r2, .ref (a 0)]
      refine lc_trim C h cf_L_25 ⟨Nat.le_of_ble_eq_true rfl, Nat.le_of_ble_eq_true rfl⟩ ⟨by show cells ≤ bc0; omega, by show slots ≤ bs0; omega⟩ (Nat.le_of_ble_eq_true rfl) dL_taught_124 (fun r3 S3 h => ?_)
      show Go D E A Q 6 cells slots (lwB D.2 a S3 ++ hpW H) [(0, .ref (a 0)), (1, .ref x1), (2, .ref x2), (3, .int x3)] 127 [.int r3]
      refine q_pop C dL_taught_127 rfl ?_
      refine q_aload_n C dL_taught_128 0 rfl ?_
      refine lc_teach C h cf_L_29 ⟨Nat.le_of_ble_eq_true rfl, Nat.le_of_ble_eq_true rfl⟩ ⟨by show cells ≤ bc0; omega, by show slots ≤ bs0; omega⟩ (Nat.le_of_ble_eq_true rfl) dL_taught_129 (fun r4 S4 h => ?_)
      show Go D E A Q 6 cells slots (lwB D.2 (swA a) S4 ++ hpW H) [(0, .ref ((swA a) 0)), (1, .ref x1), (2, .ref x2), (3, .int x3)] 132 [.int r4]
      refine q_widen (k := bc0) (n := bs0) (by omega) (by omega) ?_
      exact hret r4 S4 H _ _ h dL_taught_132
    · refine q_iconst C (v := 0) dL_taught_14 (by decide) ?_
      refine q_istore C [(4, .int 0), (0, .ref (a 0)), (1, .ref x1), (2, .ref x2), (3, .int x3)] dL_taught_15 (by decide) rfl ?_
      refine q_ls [(0, .ref (a 0)), (1, .ref x1), (2, .ref x2), (3, .int x3), (4, .int 0)] [1, 2, 3, 4, 0] rfl ?_
      obtain ⟨nw, h⟩ := h
      exact bL_taught_17 C (KL6 := (wL_taught_6 K D.2 a n)) hret ih nw cells slots _ _ _ _ _ _ _ _ (by omega) (by omega) h
def wL_taught (Z : gZ) (a : gA) (H : gH) (bc : Nat) (bs : Nat) (S : cLS) (p1 : Nat) (K : Int32 → cLS → gH → Prop) : Prop :=
  1 ≤ bc ∧ (5 : Int32).toNatClampNeg ≤ bs ∧ (∀ q1 : Nat, hpG H q1 = none → (∃ k9 : Nat, wL_taught_6 K Z a k9 (hpN H q1 (iE (zY Z 1) (5 : Int32).toNatClampNeg (fun _ => 0))) (bc - 1) (bs - (5 : Int32).toNatClampNeg) S p1 q1 0))
set_option maxRecDepth 100000 in
set_option maxHeartbeats 4000000 in
theorem bL_taught {D : gD} {E : gE} {A : Nat → Prop} {Q : State → Prop} {bc0 bs0 : Nat} {a : gA} (C : CL D E (rmL_taught bc0 bs0) cL_taught 6 RL A) {K : Int32 → cLS → gH → Prop} (hret : ∀ (r : Int32) (S : cLS) (H : gH) (pc : Nat) (ls : List (Nat × Value)), K r S H → decode cL_taught pc = .ok (.ireturn, 1) → Go D E A Q 6 bc0 bs0 (lwB D.2 (swA a) S ++ hpW H) ls pc [.int r]) (cells slots : Nat) (H : gH) (bc : Nat) (bs : Nat) (S : cLS) (p1 : Nat) (hbc : cells + bc ≤ bc0) (hbs : slots + bs ≤ bs0) (h : wL_taught D.2 a H bc bs S p1 K) : Go D E A Q 6 cells slots (lwB D.2 a S ++ hpW H) [(0, .ref (a 0)), (1, .ref p1)] 0 [] := by
  unfold wL_taught at h
  refine q_iconst C (v := 5) dL_taught_0 (by decide) ?_
  obtain ⟨b1, b2, h⟩ := h
  refine h_newI C dL_taught_1 (by decide) (by decide) ⟨by show cells + 1 ≤ bc0; omega, by show slots + (5 : Int32).toNatClampNeg ≤ bs0; omega⟩ (fun q1 g2 => ?_)
  replace h := h q1 g2
  refine q_astore_n C [(2, .ref q1), (0, .ref (a 0)), (1, .ref p1)] dL_taught_3 (by decide) rfl ?_
  refine q_iconst C (v := 0) dL_taught_4 (by decide) ?_
  refine q_istore_n C [(3, .int 0), (2, .ref q1), (0, .ref (a 0)), (1, .ref p1)] dL_taught_5 (by decide) rfl ?_
  refine q_ls [(0, .ref (a 0)), (1, .ref p1), (2, .ref q1), (3, .int 0)] [2, 3, 1, 0] rfl ?_
  obtain ⟨nw, h⟩ := h
  exact bL_taught_6 C  hret  nw (cells + 1) (slots + (5 : Int32).toNatClampNeg) _ _ _ _ _ _ _ (by omega) (by omega) h
theorem cL_taught_ok (l : Launch) {D : gD} {a : gA} {H : gH} {bc : Nat} {bs : Nat} {S : cLS} {p1 : Nat} {K : Int32 → cLS → gH → Prop} (h : wL_taught D.2 a H bc bs S p1 K) : CtI l D (gU (zY D.2)) yL_taught cL_taught 6 .int (rmL_taught bc bs) [.ref (a 0), .ref p1] (lwB D.2 a S ++ hpW H) (fun u : cLS × gH => lwB D.2 (swA a) u.1 ++ hpW u.2) (fun r u => K r u.1 u.2) :=
  ct_startI (by decide +kernel) (Nat.le_of_ble_eq_true rfl) (fun E A Q hE C hret => bL_taught C (fun r S H pc ls hk hd => hret r (S, H) pc ls rfl hk hd) 0 0 _ _ _ _ _ (by omega) (by omega) h)
abbrev rmL_act (bc bs : Nat) : Room := { frames := 20, cells := bc, slots := bs, locals := 288 }
def wL_act_52 (K : Int32 → cLS → gH → Prop) (Z : gZ) (a : gA) (H : gH) (bc : Nat) (bs : Nat) (S : cLS) (x1 : Nat) (x3 : Int32) : Prop :=
  ∃ y1 : Nat, gF H x1 8 1 (.ref y1) ∧ (∃ (n3 : Nat) (f4 : Nat → Option Nat) (y7 : Nat), hpG H y1 = some (qE (zY Z 5) n3 f4) ∧ vp_in x3 n3 ∧ f4 x3.toNatClampNeg = some y7 ∧ (∃ (n9 : Nat) (f10 : Nat → Option Nat), hpG H y7 = some (qE (zY Z 4) n9 f10) ∧ (((nI n9 = 0 → K 1 S H) ∧ (¬ nI n9 = 0 → kX8_dig a S x3 (fun r12 S12 => (∃ fs, hpG H x1 = some (.inr (8, fs))) ∧ ∃ (c13 s13 : Nat), c13 ≤ bc ∧ s13 ≤ bs ∧ wX9_dig Z H c13 s13 x1 x3 (fun r13 H13 => ((¬ r12 = r13 → K 0 S12 H13) ∧ (r12 = r13 → K 1 S12 H13)))))))))
set_option maxRecDepth 100000 in
set_option maxHeartbeats 4000000 in
theorem bL_act_52 {D : gD} {E : gE} {A : Nat → Prop} {Q : State → Prop} {bc0 bs0 : Nat} {a : gA} (C : CL D E (rmL_act bc0 bs0) cL_act 7 RL A) {K : Int32 → cLS → gH → Prop} (hret : ∀ (r : Int32) (S : cLS) (H : gH) (pc : Nat) (ls : List (Nat × Value)), narrow .boolean (.int r) = .int r → K r S H → decode cL_act pc = .ok (.ireturn, 1) → Go D E A Q 7 bc0 bs0 (lwB D.2 a S ++ hpW H) ls pc [.int r]) : ∀ (cells slots : Nat) (H : gH) (bc : Nat) (bs : Nat) (S : cLS) (x1 : Nat) (x3 : Int32), cells + bc ≤ bc0 → slots + bs ≤ bs0 → wL_act_52 K D.2 a H bc bs S x1 x3 → Go D E A Q 7 cells slots (lwB D.2 a S ++ hpW H) [(0, .ref (a 0)), (1, .ref x1), (3, .int x3)] 52 [] := by
  intro cells slots H bc bs S x1 x3 hbc hbs h
  unfold wL_act_52 at h
  refine q_aload_n C dL_act_52 1 rfl ?_
  obtain ⟨y1, e2, h⟩ := h
  refine h_get C inX9g (ci := 8) rfl 1 (by decide) fl_L_104 rfl e2 dL_act_53 ?_
  refine q_iload_n C dL_act_56 2 rfl ?_
  obtain ⟨n3, f4, y7, e5, i6, g8, h⟩ := h
  refine h_aldR C 5 rfl rfl e5 i6 g8 dL_act_57 ?_
  obtain ⟨n9, f10, e11, h⟩ := h
  refine h_alen C 4 rfl e11 dL_act_58 ?_
  refine q_if_eq C 75 dL_act_59 (by decide) h (fun h => ?_) (fun h => ?_)
  · refine q_iconst C (v := 1) dL_act_75 (by decide) ?_
    refine q_goto (tgt := 80) C dL_act_76 (by decide) ?_
    refine q_widen (k := bc0) (n := bs0) (by omega) (by omega) ?_
    exact hret 1 S H _ _ rfl h dL_act_80
  · refine q_aload_n C dL_act_62 0 rfl ?_
    refine q_iload_n C dL_act_63 2 rfl ?_
    refine lc_dig C h cf_L_154 ⟨Nat.le_of_ble_eq_true rfl, Nat.le_of_ble_eq_true rfl⟩ ⟨by show cells ≤ bc0; omega, by show slots ≤ bs0; omega⟩ (Nat.le_of_ble_eq_true rfl) dL_act_64 (fun r12 S12 h => ?_)
    show Go D E A Q 7 cells slots (lwB D.2 a S12 ++ hpW H) [(0, .ref (a 0)), (1, .ref x1), (3, .int x3)] 67 [.int r12]
    refine q_aload_n C dL_act_67 1 rfl ?_
    refine q_iload_n C dL_act_68 2 rfl ?_
    obtain ⟨⟨fs9, hr9⟩, h⟩ := h
    obtain ⟨c13, s13, hc13, hs13, h⟩ := h
    refine p_callVI C (fun _ h => h) (lwB D.2 a S12) (cX9_dig_ok _ h) cf_L_157 im_X9_dig se_X9_dig (hRv_h (q := (RX9, TX9, 12)) hr9 rfl) rfl ⟨Nat.le_of_ble_eq_true rfl, Nat.le_of_ble_eq_true rfl⟩ ⟨by show cells + c13 ≤ bc0; omega, by show slots + s13 ≤ bs0; omega⟩ List.perm_append_comm (fun H13 : gH => lwB D.2 a S12 ++ hpW H13) (fun _ => List.perm_append_comm) (rest := [.int r12]) rfl (Nat.le_of_ble_eq_true rfl) dL_act_69 (fun r13 H13 h => ?_)
    show Go D E A Q 7 (cells + c13) (slots + s13) (lwB D.2 a S12 ++ hpW H13) [(0, .ref (a 0)), (1, .ref x1), (3, .int x3)] 72 [.int r13, .int r12]
    refine q_icmp_ne C 79 dL_act_72 (by decide) h (fun h => ?_) (fun h => ?_)
    · refine q_iconst C (v := 0) dL_act_79 (by decide) ?_
      refine q_widen (k := bc0) (n := bs0) (by omega) (by omega) ?_
      exact hret 0 S12 H13 _ _ rfl h dL_act_80
    · refine q_iconst C (v := 1) dL_act_75 (by decide) ?_
      refine q_goto (tgt := 80) C dL_act_76 (by decide) ?_
      refine q_widen (k := bc0) (n := bs0) (by omega) (by omega) ?_
      exact hret 1 S12 H13 _ _ rfl h dL_act_80
def wL_act_195 (K : Int32 → cLS → gH → Prop) (Z : gZ) (a : gA) : Nat → gH → Nat → Nat → cLS → Nat → Int32 → Int32 → Int32 → Prop
  | 0, _, _, _, _, _, _, _, _ => False
  | n + 1, H, bc, bs, S, x1, x4, x5, x6 =>
  ((x4 ≤ x6 → kX8_passDays a S x4 (fun r1 S1 => ((¬ r1 = x5 → K 0 S1 H) ∧ (r1 = x5 → K 1 S1 H)))) ∧ (¬ x4 ≤ x6 → (∃ fs, hpG H x1 = some (.inr (8, fs))) ∧ ∃ (c2 s2 : Nat), c2 ≤ bc ∧ s2 ≤ bs ∧ wX9_pass Z H c2 s2 x1 (fun r2 H2 => wL_act_195 K Z a n H2 (bc - c2) (bs - s2) S x1 x4 (x5 + r2) (x6 + 1))))
set_option maxRecDepth 100000 in
set_option maxHeartbeats 4000000 in
theorem bL_act_195 {D : gD} {E : gE} {A : Nat → Prop} {Q : State → Prop} {bc0 bs0 : Nat} {a : gA} (C : CL D E (rmL_act bc0 bs0) cL_act 7 RL A) {K : Int32 → cLS → gH → Prop} (hret : ∀ (r : Int32) (S : cLS) (H : gH) (pc : Nat) (ls : List (Nat × Value)), narrow .boolean (.int r) = .int r → K r S H → decode cL_act pc = .ok (.ireturn, 1) → Go D E A Q 7 bc0 bs0 (lwB D.2 a S ++ hpW H) ls pc [.int r]) : ∀ (n : Nat) (cells slots : Nat) (H : gH) (bc : Nat) (bs : Nat) (S : cLS) (x1 : Nat) (x4 : Int32) (x5 : Int32) (x6 : Int32), cells + bc ≤ bc0 → slots + bs ≤ bs0 → wL_act_195 K D.2 a n H bc bs S x1 x4 x5 x6 → Go D E A Q 7 cells slots (lwB D.2 a S ++ hpW H) [(0, .ref (a 0)), (1, .ref x1), (4, .int x4), (5, .int x5), (6, .int x6)] 195 [] := by
  intro n
  induction n with
  | zero =>
    intro cells slots H bc bs S x1 x4 x5 x6 hbc hbs h
    exact h.elim
  | succ n ih =>
    intro cells slots H bc bs S x1 x4 x5 x6 hbc hbs h
    unfold wL_act_195 at h
    refine q_iload C dL_act_195 4 rfl ?_
    refine q_iload C dL_act_197 2 rfl ?_
    refine q_icmp_ge C 217 dL_act_199 (by decide) h (fun h => ?_) (fun h => ?_)
    · refine q_aload_n C dL_act_217 0 rfl ?_
      refine q_iload C dL_act_218 2 rfl ?_
      refine lc_passDays C h cf_L_177 ⟨Nat.le_of_ble_eq_true rfl, Nat.le_of_ble_eq_true rfl⟩ ⟨by show cells ≤ bc0; omega, by show slots ≤ bs0; omega⟩ (Nat.le_of_ble_eq_true rfl) dL_act_220 (fun r1 S1 h => ?_)
      show Go D E A Q 7 cells slots (lwB D.2 a S1 ++ hpW H) [(0, .ref (a 0)), (1, .ref x1), (4, .int x4), (5, .int x5), (6, .int x6)] 223 [.int r1]
      refine q_iload C dL_act_223 3 rfl ?_
      refine q_icmp_ne C 232 dL_act_225 (by decide) h (fun h => ?_) (fun h => ?_)
      · refine q_iconst C (v := 0) dL_act_232 (by decide) ?_
        refine q_widen (k := bc0) (n := bs0) (by omega) (by omega) ?_
        exact hret 0 S1 H _ _ rfl h dL_act_233
      · refine q_iconst C (v := 1) dL_act_228 (by decide) ?_
        refine q_goto (tgt := 233) C dL_act_229 (by decide) ?_
        refine q_widen (k := bc0) (n := bs0) (by omega) (by omega) ?_
        exact hret 1 S1 H _ _ rfl h dL_act_233
    · refine q_iload C dL_act_202 3 rfl ?_
      refine q_aload_n C dL_act_204 1 rfl ?_
      obtain ⟨⟨fs9, hr9⟩, h⟩ := h
      obtain ⟨c2, s2, hc2, hs2, h⟩ := h
      refine p_callVI C (fun _ h => h) (lwB D.2 a S) (cX9_pass_ok _ h) cf_L_174 im_X9_pass se_X9_pass (hRv_h (q := (RX9, TX9, 12)) hr9 rfl) rfl ⟨Nat.le_of_ble_eq_true rfl, Nat.le_of_ble_eq_true rfl⟩ ⟨by show cells + c2 ≤ bc0; omega, by show slots + s2 ≤ bs0; omega⟩ List.perm_append_comm (fun H2 : gH => lwB D.2 a S ++ hpW H2) (fun _ => List.perm_append_comm) (rest := [.int x5]) rfl (Nat.le_of_ble_eq_true rfl) dL_act_205 (fun r2 H2 h => ?_)
      show Go D E A Q 7 (cells + c2) (slots + s2) (lwB D.2 a S ++ hpW H2) [(0, .ref (a 0)), (1, .ref x1), (4, .int x4), (5, .int x5), (6, .int x6)] 208 [.int r2, .int x5]
      refine q_iadd C dL_act_208 ?_
      refine q_istore C [(5, .int (x5 + r2)), (0, .ref (a 0)), (1, .ref x1), (4, .int x4), (6, .int x6)] dL_act_209 (by decide) rfl ?_
      refine q_iinc C (v := x6 + 1) [(6, .int (x6 + 1)), (5, .int (x5 + r2)), (0, .ref (a 0)), (1, .ref x1), (4, .int x4)] dL_act_211 4 rfl rfl (by decide) rfl ?_
      refine q_goto (tgt := 195) C dL_act_214 (by decide) ?_
      refine q_ls [(0, .ref (a 0)), (1, .ref x1), (4, .int x4), (5, .int (x5 + r2)), (6, .int (x6 + 1))] [2, 3, 4, 1, 0] rfl ?_
      exact ih (cells + c2) (slots + s2) _ _ _ _ _ _ _ _ (by omega) (by omega) h
def wL_act_183 (K : Int32 → cLS → gH → Prop) (Z : gZ) (a : gA) (H : gH) (bc : Nat) (bs : Nat) (S : cLS) (x1 : Nat) (z0 : Int32) (z1 : Int32) (z2 : Int32) : Prop :=
  wL_below Z H z1 z0 (fun r1 => ∃ k9 : Nat, wL_act_195 K Z a k9 H bc bs S x1 (z2 + r1) 0 0)
set_option maxRecDepth 100000 in
set_option maxHeartbeats 4000000 in
theorem bL_act_183 {D : gD} {E : gE} {A : Nat → Prop} {Q : State → Prop} {bc0 bs0 : Nat} {a : gA} (C : CL D E (rmL_act bc0 bs0) cL_act 7 RL A) {K : Int32 → cLS → gH → Prop} (hret : ∀ (r : Int32) (S : cLS) (H : gH) (pc : Nat) (ls : List (Nat × Value)), narrow .boolean (.int r) = .int r → K r S H → decode cL_act pc = .ok (.ireturn, 1) → Go D E A Q 7 bc0 bs0 (lwB D.2 a S ++ hpW H) ls pc [.int r]) : ∀ (cells slots : Nat) (H : gH) (bc : Nat) (bs : Nat) (S : cLS) (x1 : Nat) (z0 : Int32) (z1 : Int32) (z2 : Int32), cells + bc ≤ bc0 → slots + bs ≤ bs0 → wL_act_183 K D.2 a H bc bs S x1 z0 z1 z2 → Go D E A Q 7 cells slots (lwB D.2 a S ++ hpW H) [(0, .ref (a 0)), (1, .ref x1)] 183 [.int z0, .int z1, .int z2] := by
  intro cells slots H bc bs S x1 z0 z1 z2 hbc hbs h
  unfold wL_act_183 at h
  refine p_callSI C (fun _ h => h) (lwB D.2 a S) (cL_below_ok _ h) cf_L_35 st_L_below rfl ⟨Nat.le_of_ble_eq_true rfl, Nat.le_of_ble_eq_true rfl⟩ ⟨by show cells + 0 ≤ bc0; omega, by show slots + 0 ≤ bs0; omega⟩ List.perm_append_comm (fun _ : Unit => lwB D.2 a S ++ hpW H) (fun _ => List.perm_append_comm) (rest := [.int z2]) rfl (Nat.le_of_ble_eq_true rfl) dL_act_183 (fun r1 _ h => ?_)
  show Go D E A Q 7 cells slots (lwB D.2 a S ++ hpW H) [(0, .ref (a 0)), (1, .ref x1)] 186 [.int r1, .int z2]
  refine q_iadd C dL_act_186 ?_
  refine q_istore C [(4, .int (z2 + r1)), (0, .ref (a 0)), (1, .ref x1)] dL_act_187 (by decide) rfl ?_
  refine q_iconst C (v := 0) dL_act_189 (by decide) ?_
  refine q_istore C [(5, .int 0), (4, .int (z2 + r1)), (0, .ref (a 0)), (1, .ref x1)] dL_act_190 (by decide) rfl ?_
  refine q_iconst C (v := 0) dL_act_192 (by decide) ?_
  refine q_istore C [(6, .int 0), (5, .int 0), (4, .int (z2 + r1)), (0, .ref (a 0)), (1, .ref x1)] dL_act_193 (by decide) rfl ?_
  refine q_ls [(0, .ref (a 0)), (1, .ref x1), (4, .int (z2 + r1)), (5, .int 0), (6, .int 0)] [3, 4, 2, 1, 0] rfl ?_
  obtain ⟨nw, h⟩ := h
  exact bL_act_195 C  hret  nw cells slots _ _ _ _ _ _ _ _ (by omega) (by omega) h
def wL_act (Z : gZ) (a : gA) (H : gH) (bc : Nat) (bs : Nat) (S : cLS) (p1 : Nat) (p2 : Int32) (K : Int32 → cLS → gH → Prop) : Prop :=
  ∃ y1 : Nat, gF H p1 8 1 (.ref y1) ∧ (∃ (n3 : Nat) (f4 : Nat → Option Nat), hpG H y1 = some (qE (zY Z 5) n3 f4) ∧ (wL_below Z H (p2 >>> (3 &&& 31)) (nI n3) (fun r6 => wL_below Z H p2 9 (fun r7 => ((r7 = 0 → wL_act_52 K Z a H bc bs S p1 r6) ∧ (r7 = 1 → wL_act_52 K Z a H bc bs S p1 r6) ∧ (r7 = 2 → wL_act_52 K Z a H bc bs S p1 r6) ∧ (r7 = 3 → ∃ y8 : Nat, gF H p1 8 4 (.ref y8) ∧ (∃ (n10 : Nat) (f11 : Nat → Int32), hpG H y8 = some (iE (zY Z 3) n10 f11) ∧ vp_in r6 n10 ∧ (((¬ f11 r6.toNatClampNeg = 0 → K 1 S H) ∧ (f11 r6.toNatClampNeg = 0 → (∃ fs, hpG H p1 = some (.inr (8, fs))) ∧ wX9_props Z H p1 (fun r14 => ((¬ r14 = 3 → ∃ y15 : Nat, gF H p1 8 4 (.ref y15) ∧ (∃ (n17 : Nat) (f18 : Nat → Int32), hpG H y15 = some (iE (zY Z 3) n17 f18) ∧ vp_in r6 n17 ∧ (kX8_prop a S r6 (fun r21 S21 => (∃ fs, hpG (hpS H y15 (iE (zY Z 3) n17 (upd f18 r6.toNatClampNeg (vp_nar .boolean 1)))) p1 = some (.inr (8, fs))) ∧ wX9_props Z (hpS H y15 (iE (zY Z 3) n17 (upd f18 r6.toNatClampNeg (vp_nar .boolean 1)))) p1 (fun r22 => ((¬ r21 = r22 → K 0 S21 (hpS H y15 (iE (zY Z 3) n17 (upd f18 r6.toNatClampNeg (vp_nar .boolean 1))))) ∧ (r21 = r22 → K 1 S21 (hpS H y15 (iE (zY Z 3) n17 (upd f18 r6.toNatClampNeg (vp_nar .boolean 1))))))))))) ∧ (r14 = 3 → K 1 S H)))))))) ∧ (r7 = 4 → ∃ y23 : Nat, gF H p1 8 4 (.ref y23) ∧ (∃ (n25 : Nat) (f26 : Nat → Int32), hpG H y23 = some (iE (zY Z 3) n25 f26) ∧ vp_in r6 n25 ∧ (((¬ f26 r6.toNatClampNeg = 0 → ∃ y29 : Nat, gF H p1 8 4 (.ref y29) ∧ (∃ (n31 : Nat) (f32 : Nat → Int32), hpG H y29 = some (iE (zY Z 3) n31 f32) ∧ vp_in r6 n31 ∧ (kX8_takeProp a S r6 (fun r35 S35 => (∃ fs, hpG (hpS H y29 (iE (zY Z 3) n31 (upd f32 r6.toNatClampNeg (vp_nar .boolean 0)))) p1 = some (.inr (8, fs))) ∧ ∃ (c36 s36 : Nat), c36 ≤ bc ∧ s36 ≤ bs ∧ wX9_settle Z (hpS H y29 (iE (zY Z 3) n31 (upd f32 r6.toNatClampNeg (vp_nar .boolean 0)))) c36 s36 p1 (fun r36 H36 => ((¬ r35 = r36 → K 0 S35 H36) ∧ (r35 = r36 → K 1 S35 H36))))))) ∧ (f26 r6.toNatClampNeg = 0 → K 1 S H))))) ∧ (¬ r7 = 0 → ¬ r7 = 1 → ¬ r7 = 2 → ¬ r7 = 3 → ¬ r7 = 4 → wL_below Z H (p2 >>> (8 &&& 31)) 6 (fun r37 => ((¬ r37 = 0 → wL_act_183 K Z a H bc bs S p1 3 (p2 >>> (5 &&& 31)) 1) ∧ (r37 = 0 → wL_act_183 K Z a H bc bs S p1 30 (p2 >>> (5 &&& 31)) 1)))))))))
set_option maxRecDepth 100000 in
set_option maxHeartbeats 4000000 in
theorem bL_act {D : gD} {E : gE} {A : Nat → Prop} {Q : State → Prop} {bc0 bs0 : Nat} {a : gA} (C : CL D E (rmL_act bc0 bs0) cL_act 7 RL A) {K : Int32 → cLS → gH → Prop} (hret : ∀ (r : Int32) (S : cLS) (H : gH) (pc : Nat) (ls : List (Nat × Value)), narrow .boolean (.int r) = .int r → K r S H → decode cL_act pc = .ok (.ireturn, 1) → Go D E A Q 7 bc0 bs0 (lwB D.2 a S ++ hpW H) ls pc [.int r]) (cells slots : Nat) (H : gH) (bc : Nat) (bs : Nat) (S : cLS) (p1 : Nat) (p2 : Int32) (hbc : cells + bc ≤ bc0) (hbs : slots + bs ≤ bs0) (h : wL_act D.2 a H bc bs S p1 p2 K) : Go D E A Q 7 cells slots (lwB D.2 a S ++ hpW H) [(0, .ref (a 0)), (1, .ref p1), (2, .int p2)] 0 [] := by
  unfold wL_act at h
  refine q_iload_n C dL_act_0 2 rfl ?_
  refine q_iconst C (v := 3) dL_act_1 (by decide) ?_
  refine q_ishr C dL_act_2 ?_
  refine q_aload_n C dL_act_3 1 rfl ?_
  obtain ⟨y1, e2, h⟩ := h
  refine h_get C inX9g (ci := 8) rfl 1 (by decide) fl_L_104 rfl e2 dL_act_4 ?_
  obtain ⟨n3, f4, e5, h⟩ := h
  refine h_alen C 5 rfl e5 dL_act_7 ?_
  refine p_callSI C (fun _ h => h) (lwB D.2 a S) (cL_below_ok _ h) cf_L_35 st_L_below rfl ⟨Nat.le_of_ble_eq_true rfl, Nat.le_of_ble_eq_true rfl⟩ ⟨by show cells + 0 ≤ bc0; omega, by show slots + 0 ≤ bs0; omega⟩ List.perm_append_comm (fun _ : Unit => lwB D.2 a S ++ hpW H) (fun _ => List.perm_append_comm) (rest := []) rfl (Nat.le_of_ble_eq_true rfl) dL_act_8 (fun r6 _ h => ?_)
  show Go D E A Q 7 cells slots (lwB D.2 a S ++ hpW H) [(0, .ref (a 0)), (1, .ref p1), (2, .int p2)] 11 [.int r6]
  refine q_istore_n C [(3, .int r6), (0, .ref (a 0)), (1, .ref p1), (2, .int p2)] dL_act_11 (by decide) rfl ?_
  refine q_iload_n C dL_act_12 3 rfl ?_
  refine q_bipush C (v := 9) dL_act_13 (by decide) ?_
  refine p_callSI C (fun _ h => h) (lwB D.2 a S) (cL_below_ok _ h) cf_L_35 st_L_below rfl ⟨Nat.le_of_ble_eq_true rfl, Nat.le_of_ble_eq_true rfl⟩ ⟨by show cells + 0 ≤ bc0; omega, by show slots + 0 ≤ bs0; omega⟩ List.perm_append_comm (fun _ : Unit => lwB D.2 a S ++ hpW H) (fun _ => List.perm_append_comm) (rest := []) rfl (Nat.le_of_ble_eq_true rfl) dL_act_15 (fun r7 _ h => ?_)
  show Go D E A Q 7 cells slots (lwB D.2 a S ++ hpW H) [(3, .int r6), (0, .ref (a 0)), (1, .ref p1), (2, .int p2)] 18 [.int r7]
  by_cases hq : r7 = 0
  · replace h := h.1 hq
    refine q_tableK C 0 52 hq dL_act_18 (by decide) (by decide) rfl (by decide) ?_
    refine q_ls [(0, .ref (a 0)), (1, .ref p1), (3, .int r6)] [1, 2, 0] rfl ?_
    exact bL_act_52 C  hret  cells slots _ _ _ _ _ _ (by omega) (by omega) h
  · have hn0 := hq
    by_cases hq : r7 = 1
    · replace h := h.2.1 hq
      refine q_tableK C 1 52 hq dL_act_18 (by decide) (by decide) rfl (by decide) ?_
      refine q_ls [(0, .ref (a 0)), (1, .ref p1), (3, .int r6)] [1, 2, 0] rfl ?_
      exact bL_act_52 C  hret  cells slots _ _ _ _ _ _ (by omega) (by omega) h
    · have hn1 := hq
      by_cases hq : r7 = 2
      · replace h := h.2.2.1 hq
        refine q_tableK C 2 52 hq dL_act_18 (by decide) (by decide) rfl (by decide) ?_
        refine q_ls [(0, .ref (a 0)), (1, .ref p1), (3, .int r6)] [1, 2, 0] rfl ?_
        exact bL_act_52 C  hret  cells slots _ _ _ _ _ _ (by omega) (by omega) h
      · have hn2 := hq
        by_cases hq : r7 = 3
        · replace h := h.2.2.2.1 hq
          refine q_tableK C 3 81 hq dL_act_18 (by decide) (by decide) rfl (by decide) ?_
          refine q_aload_n C dL_act_81 2 rfl ?_
          obtain ⟨y8, e9, h⟩ := h
          refine h_get C inX9g (ci := 8) rfl 4 (by decide) fl_L_158 rfl e9 dL_act_82 ?_
          refine q_iload_n C dL_act_85 0 rfl ?_
          obtain ⟨n10, f11, e12, i13, h⟩ := h
          refine h_zald C e12 i13 dL_act_86 ?_
          refine q_if_ne C 98 dL_act_87 (by decide) h (fun h => ?_) (fun h => ?_)
          · refine q_iconst C (v := 1) dL_act_98 (by decide) ?_
            refine q_widen (k := bc0) (n := bs0) (by omega) (by omega) ?_
            exact hret 1 S H _ _ rfl h dL_act_99
          · refine q_aload_n C dL_act_90 2 rfl ?_
            obtain ⟨⟨fs9, hr9⟩, h⟩ := h
            refine p_callVI C (fun _ h => h) (lwB D.2 a S) (cX9_props_ok _ h) cf_L_162 im_X9_props se_X9_props (hRv_h (q := (RX9, TX9, 12)) hr9 rfl) rfl ⟨Nat.le_of_ble_eq_true rfl, Nat.le_of_ble_eq_true rfl⟩ ⟨by show cells + 0 ≤ bc0; omega, by show slots + 0 ≤ bs0; omega⟩ List.perm_append_comm (fun _ : Unit => lwB D.2 a S ++ hpW H) (fun _ => List.perm_append_comm) (rest := []) rfl (Nat.le_of_ble_eq_true rfl) dL_act_91 (fun r14 _ h => ?_)
            show Go D E A Q 7 cells slots (lwB D.2 a S ++ hpW H) [(3, .int r6), (0, .ref (a 0)), (1, .ref p1), (2, .int p2)] 94 [.int r14]
            refine q_iconst C (v := 3) dL_act_94 (by decide) ?_
            refine q_icmp_ne C 100 dL_act_95 (by decide) h (fun h => ?_) (fun h => ?_)
            · refine q_aload_n C dL_act_100 2 rfl ?_
              obtain ⟨y15, e16, h⟩ := h
              refine h_get C inX9g (ci := 8) rfl 4 (by decide) fl_L_158 rfl e16 dL_act_101 ?_
              refine q_iload_n C dL_act_104 0 rfl ?_
              refine q_iconst C (v := 1) dL_act_105 (by decide) ?_
              obtain ⟨n17, f18, e19, i20, h⟩ := h
              refine h_zast C e19 i20 dL_act_106 ?_
              refine q_aload_n C dL_act_107 1 rfl ?_
              refine q_iload_n C dL_act_108 0 rfl ?_
              refine lc_prop C h cf_L_165 ⟨Nat.le_of_ble_eq_true rfl, Nat.le_of_ble_eq_true rfl⟩ ⟨by show cells ≤ bc0; omega, by show slots ≤ bs0; omega⟩ (Nat.le_of_ble_eq_true rfl) dL_act_109 (fun r21 S21 h => ?_)
              show Go D E A Q 7 cells slots (lwB D.2 a S21 ++ hpW (hpS H y15 (iE (zY D.2 3) n17 (upd f18 r6.toNatClampNeg (vp_nar .boolean 1))))) [(3, .int r6), (0, .ref (a 0)), (1, .ref p1), (2, .int p2)] 112 [.int r21]
              refine q_aload_n C dL_act_112 2 rfl ?_
              obtain ⟨⟨fs9, hr9⟩, h⟩ := h
              refine p_callVI C (fun _ h => h) (lwB D.2 a S21) (cX9_props_ok _ h) cf_L_162 im_X9_props se_X9_props (hRv_h (q := (RX9, TX9, 12)) hr9 rfl) rfl ⟨Nat.le_of_ble_eq_true rfl, Nat.le_of_ble_eq_true rfl⟩ ⟨by show cells + 0 ≤ bc0; omega, by show slots + 0 ≤ bs0; omega⟩ List.perm_append_comm (fun _ : Unit => lwB D.2 a S21 ++ hpW (hpS H y15 (iE (zY D.2 3) n17 (upd f18 r6.toNatClampNeg (vp_nar .boolean 1))))) (fun _ => List.perm_append_comm) (rest := [.int r21]) rfl (Nat.le_of_ble_eq_true rfl) dL_act_113 (fun r22 _ h => ?_)
              show Go D E A Q 7 cells slots (lwB D.2 a S21 ++ hpW (hpS H y15 (iE (zY D.2 3) n17 (upd f18 r6.toNatClampNeg (vp_nar .boolean 1))))) [(3, .int r6), (0, .ref (a 0)), (1, .ref p1), (2, .int p2)] 116 [.int r22, .int r21]
              refine q_icmp_ne C 123 dL_act_116 (by decide) h (fun h => ?_) (fun h => ?_)
              · refine q_iconst C (v := 0) dL_act_123 (by decide) ?_
                refine q_widen (k := bc0) (n := bs0) (by omega) (by omega) ?_
                exact hret 0 S21 (hpS H y15 (iE (zY D.2 3) n17 (upd f18 r6.toNatClampNeg (vp_nar .boolean 1)))) _ _ rfl h dL_act_124
              · refine q_iconst C (v := 1) dL_act_119 (by decide) ?_
                refine q_goto (tgt := 124) C dL_act_120 (by decide) ?_
                refine q_widen (k := bc0) (n := bs0) (by omega) (by omega) ?_
                exact hret 1 S21 (hpS H y15 (iE (zY D.2 3) n17 (upd f18 r6.toNatClampNeg (vp_nar .boolean 1)))) _ _ rfl h dL_act_124
            · refine q_iconst C (v := 1) dL_act_98 (by decide) ?_
              refine q_widen (k := bc0) (n := bs0) (by omega) (by omega) ?_
              exact hret 1 S H _ _ rfl h dL_act_99
        · have hn3 := hq
          by_cases hq : r7 = 4
          · replace h := h.2.2.2.2.1 hq
            refine q_tableK C 4 125 hq dL_act_18 (by decide) (by decide) rfl (by decide) ?_
            refine q_aload_n C dL_act_125 2 rfl ?_
            obtain ⟨y23, e24, h⟩ := h
            refine h_get C inX9g (ci := 8) rfl 4 (by decide) fl_L_158 rfl e24 dL_act_126 ?_
            refine q_iload_n C dL_act_129 0 rfl ?_
            obtain ⟨n25, f26, e27, i28, h⟩ := h
            refine h_zald C e27 i28 dL_act_130 ?_
            refine q_if_ne C 136 dL_act_131 (by decide) h (fun h => ?_) (fun h => ?_)
            · refine q_aload_n C dL_act_136 2 rfl ?_
              obtain ⟨y29, e30, h⟩ := h
              refine h_get C inX9g (ci := 8) rfl 4 (by decide) fl_L_158 rfl e30 dL_act_137 ?_
              refine q_iload_n C dL_act_140 0 rfl ?_
              refine q_iconst C (v := 0) dL_act_141 (by decide) ?_
              obtain ⟨n31, f32, e33, i34, h⟩ := h
              refine h_zast C e33 i34 dL_act_142 ?_
              refine q_aload_n C dL_act_143 1 rfl ?_
              refine q_iload_n C dL_act_144 0 rfl ?_
              refine lc_takeProp C h cf_L_168 ⟨Nat.le_of_ble_eq_true rfl, Nat.le_of_ble_eq_true rfl⟩ ⟨by show cells ≤ bc0; omega, by show slots ≤ bs0; omega⟩ (Nat.le_of_ble_eq_true rfl) dL_act_145 (fun r35 S35 h => ?_)
              show Go D E A Q 7 cells slots (lwB D.2 a S35 ++ hpW (hpS H y29 (iE (zY D.2 3) n31 (upd f32 r6.toNatClampNeg (vp_nar .boolean 0))))) [(3, .int r6), (0, .ref (a 0)), (1, .ref p1), (2, .int p2)] 148 [.int r35]
              refine q_aload_n C dL_act_148 2 rfl ?_
              obtain ⟨⟨fs9, hr9⟩, h⟩ := h
              obtain ⟨c36, s36, hc36, hs36, h⟩ := h
              refine p_callVI C (fun _ h => h) (lwB D.2 a S35) (cX9_settle_ok _ h) cf_L_171 im_X9_settle se_X9_settle (hRv_h (q := (RX9, TX9, 12)) hr9 rfl) rfl ⟨Nat.le_of_ble_eq_true rfl, Nat.le_of_ble_eq_true rfl⟩ ⟨by show cells + c36 ≤ bc0; omega, by show slots + s36 ≤ bs0; omega⟩ List.perm_append_comm (fun H36 : gH => lwB D.2 a S35 ++ hpW H36) (fun _ => List.perm_append_comm) (rest := [.int r35]) rfl (Nat.le_of_ble_eq_true rfl) dL_act_149 (fun r36 H36 h => ?_)
              show Go D E A Q 7 (cells + c36) (slots + s36) (lwB D.2 a S35 ++ hpW H36) [(3, .int r6), (0, .ref (a 0)), (1, .ref p1), (2, .int p2)] 152 [.int r36, .int r35]
              refine q_icmp_ne C 159 dL_act_152 (by decide) h (fun h => ?_) (fun h => ?_)
              · refine q_iconst C (v := 0) dL_act_159 (by decide) ?_
                refine q_widen (k := bc0) (n := bs0) (by omega) (by omega) ?_
                exact hret 0 S35 H36 _ _ rfl h dL_act_160
              · refine q_iconst C (v := 1) dL_act_155 (by decide) ?_
                refine q_goto (tgt := 160) C dL_act_156 (by decide) ?_
                refine q_widen (k := bc0) (n := bs0) (by omega) (by omega) ?_
                exact hret 1 S35 H36 _ _ rfl h dL_act_160
            · refine q_iconst C (v := 1) dL_act_134 (by decide) ?_
              refine q_widen (k := bc0) (n := bs0) (by omega) (by omega) ?_
              exact hret 1 S H _ _ rfl h dL_act_135
          · have hn4 := hq
            replace h := h.2.2.2.2.2 hn0 hn1 hn2 hn3 hn4
            refine q_tableD C [0, 1, 2, 3, 4] 161 (sw_cons (sw_ne hn0 (by decide)) (sw_cons (sw_ne hn1 (by decide)) (sw_cons (sw_ne hn2 (by decide)) (sw_cons (sw_ne hn3 (by decide)) (sw_cons (sw_ne hn4 (by decide)) sw_nil))))) dL_act_18 (by decide) (by decide) ?_
            refine q_iconst C (v := 1) dL_act_161 (by decide) ?_
            refine q_iload_n C dL_act_162 3 rfl ?_
            refine q_iconst C (v := 5) dL_act_163 (by decide) ?_
            refine q_ishr C dL_act_164 ?_
            refine q_iload_n C dL_act_165 3 rfl ?_
            refine q_bipush C (v := 8) dL_act_166 (by decide) ?_
            refine q_ishr C dL_act_168 ?_
            refine q_bipush C (v := 6) dL_act_169 (by decide) ?_
            refine p_callSI C (fun _ h => h) (lwB D.2 a S) (cL_below_ok _ h) cf_L_35 st_L_below rfl ⟨Nat.le_of_ble_eq_true rfl, Nat.le_of_ble_eq_true rfl⟩ ⟨by show cells + 0 ≤ bc0; omega, by show slots + 0 ≤ bs0; omega⟩ List.perm_append_comm (fun _ : Unit => lwB D.2 a S ++ hpW H) (fun _ => List.perm_append_comm) (rest := [.int (p2 >>> (5 &&& 31)), .int 1]) rfl (Nat.le_of_ble_eq_true rfl) dL_act_171 (fun r37 _ h => ?_)
            show Go D E A Q 7 cells slots (lwB D.2 a S ++ hpW H) [(3, .int r6), (0, .ref (a 0)), (1, .ref p1), (2, .int p2)] 174 [.int r37, .int (p2 >>> (5 &&& 31)), .int 1]
            refine q_if_ne C 182 dL_act_174 (by decide) h (fun h => ?_) (fun h => ?_)
            · refine q_iconst C (v := 3) dL_act_182 (by decide) ?_
              refine q_ls [(0, .ref (a 0)), (1, .ref p1)] [1, 2] rfl ?_
              exact bL_act_183 C  hret  cells slots _ _ _ _ _ _ _ _ (by omega) (by omega) h
            · refine q_bipush C (v := 30) dL_act_177 (by decide) ?_
              refine q_goto (tgt := 183) C dL_act_179 (by decide) ?_
              refine q_ls [(0, .ref (a 0)), (1, .ref p1)] [1, 2] rfl ?_
              exact bL_act_183 C  hret  cells slots _ _ _ _ _ _ _ _ (by omega) (by omega) h
theorem cL_act_ok (l : Launch) {D : gD} {a : gA} {H : gH} {bc : Nat} {bs : Nat} {S : cLS} {p1 : Nat} {p2 : Int32} {K : Int32 → cLS → gH → Prop} (h : wL_act D.2 a H bc bs S p1 p2 K) : CtI l D (gU (zY D.2)) yL_act cL_act 7 .boolean (rmL_act bc bs) [.ref (a 0), .ref p1, .int p2] (lwB D.2 a S ++ hpW H) (fun u : cLS × gH => lwB D.2 a u.1 ++ hpW u.2) (fun r u => K r u.1 u.2) :=
  ct_startI (by decide +kernel) (Nat.le_of_ble_eq_true rfl) (fun E A Q hE C hret => bL_act C (fun r S H pc ls hn hk hd => hret r (S, H) pc ls hn hk hd) 0 0 _ _ _ _ _ _ (by omega) (by omega) h)
