abbrev rmhJ5_isLatin1_aae02 : Room := { frames := 0, cells := 0, slots := 0, locals := 0 }
def whJ5_isLatin1_aae02 (Z : gZ) (H : gH) (p : Nat) (K : Int32 → Prop) : Prop :=
  (((1 : Int32) = 0 → K 0) ∧ (¬ (1 : Int32) = 0 → ∃ y1 : Int32, gF H p 11 1 (.int y1) ∧ (((¬ y1 = 0 → K 0) ∧ (y1 = 0 → K 1)))))
set_option maxRecDepth 100000 in
set_option maxHeartbeats 4000000 in
theorem bhJ5_isLatin1_aae02 {D : gD} {E : gE} {A : Nat → Prop} {Q : State → Prop} {H : gH} (C : CL D E rmhJ5_isLatin1_aae02 cJ5_isLatin1_aae02 1 RJ5 A) {K : Int32 → Prop} (hret : ∀ (r : Int32) (pc : Nat) (ls : List (Nat × Value)), narrow .boolean (.int r) = .int r → K r → decode cJ5_isLatin1_aae02 pc = .ok (.ireturn, 1) → Go D E A Q 1 0 0 ([] ++ hpW H) ls pc [.int r]) (p : Nat) (h : whJ5_isLatin1_aae02 D.2 H p K) : Go D E A Q 1 0 0 ([] ++ hpW H) [(0, .ref p)] 0 [] := by
  unfold whJ5_isLatin1_aae02 at h
  refine q_getC C fl_J5_18 dJ5_isLatin1_aae02_0 ?_
  refine q_if_eq C 17 dJ5_isLatin1_aae02_3 (by decide) h (fun h => ?_) (fun h => ?_)
  · refine q_iconst C (v := 0) dJ5_isLatin1_aae02_17 (by decide) ?_
    exact hret 0 _ _ rfl h dJ5_isLatin1_aae02_18
  · refine q_aload_n C dJ5_isLatin1_aae02_6 0 rfl ?_
    obtain ⟨y1, e2, h⟩ := h
    refine h_get C inJ4g (ci := 11) rfl 1 (by decide) fl_J5_22 rfl e2 dJ5_isLatin1_aae02_7 ?_
    refine q_if_ne C 17 dJ5_isLatin1_aae02_10 (by decide) h (fun h => ?_) (fun h => ?_)
    · refine q_iconst C (v := 0) dJ5_isLatin1_aae02_17 (by decide) ?_
      exact hret 0 _ _ rfl h dJ5_isLatin1_aae02_18
    · refine q_iconst C (v := 1) dJ5_isLatin1_aae02_13 (by decide) ?_
      refine q_goto (tgt := 18) C dJ5_isLatin1_aae02_14 (by decide) ?_
      exact hret 1 _ _ rfl h dJ5_isLatin1_aae02_18
theorem chJ5_isLatin1_aae02_ok (l : Launch) {D : gD} {H : gH} {p : Nat} {K : Int32 → Prop} (h : whJ5_isLatin1_aae02 D.2 H p K) : CtI l D (gU (zY D.2)) yJ5_isLatin1_aae02 cJ5_isLatin1_aae02 1 .boolean rmhJ5_isLatin1_aae02 [.ref p] ([] ++ hpW H) (fun _ : Unit => [] ++ hpW H) (fun r _ => K r ) :=
  ct_startI (by decide +kernel) (Nat.le_of_ble_eq_true rfl) (fun E A Q hE C hret => bhJ5_isLatin1_aae02 C (fun r pc ls hn hk hd => hret r () pc ls hn hk hd) _ h)
abbrev rmhJ0_coder_7d493 : Room := { frames := 0, cells := 0, slots := 0, locals := 0 }
def whJ0_coder_7d493 (Z : gZ) (H : gH) (p : Nat) (K : Int32 → Prop) : Prop :=
  (((1 : Int32) = 0 → K 1) ∧ (¬ (1 : Int32) = 0 → ∃ y1 : Int32, sC Z H p y1 ∧ ((narrow .byte (.int y1) = .int y1 ∧ K y1 ))))
set_option maxRecDepth 100000 in
set_option maxHeartbeats 4000000 in
theorem bhJ0_coder_7d493 {D : gD} {E : gE} {A : Nat → Prop} {Q : State → Prop} {H : gH} (C : CL D E rmhJ0_coder_7d493 cJ0_coder_7d493 1 RJ0 A) {K : Int32 → Prop} (hret : ∀ (r : Int32) (pc : Nat) (ls : List (Nat × Value)), narrow .byte (.int r) = .int r → K r → decode cJ0_coder_7d493 pc = .ok (.ireturn, 1) → Go D E A Q 1 0 0 ([] ++ hpW H) ls pc [.int r]) (p : Nat) (h : whJ0_coder_7d493 D.2 H p K) : Go D E A Q 1 0 0 ([] ++ hpW H) [(0, .ref p)] 0 [] := by
  unfold whJ0_coder_7d493 at h
  refine q_getC C fl_J0_38 dJ0_coder_7d493_0 ?_
  refine q_if_eq C 13 dJ0_coder_7d493_3 (by decide) h (fun h => ?_) (fun h => ?_)
  · refine q_iconst C (v := 1) dJ0_coder_7d493_13 (by decide) ?_
    exact hret 1 _ _ rfl h dJ0_coder_7d493_14
  · refine q_aload_n C dJ0_coder_7d493_6 0 rfl ?_
    obtain ⟨y1, e2, h⟩ := h
    refine h_scod C fl_J0_15 e2 dJ0_coder_7d493_7 ?_
    refine q_goto (tgt := 14) C dJ0_coder_7d493_10 (by decide) ?_
    exact hret y1 _ _ h.1 h.2 dJ0_coder_7d493_14
theorem chJ0_coder_7d493_ok (l : Launch) {D : gD} {H : gH} {p : Nat} {K : Int32 → Prop} (h : whJ0_coder_7d493 D.2 H p K) : CtI l D (gU (zY D.2)) yJ0_coder_7d493 cJ0_coder_7d493 1 .byte rmhJ0_coder_7d493 [.ref p] ([] ++ hpW H) (fun _ : Unit => [] ++ hpW H) (fun r _ => K r ) :=
  ct_startI (by decide +kernel) (Nat.le_of_ble_eq_true rfl) (fun E A Q hE C hret => bhJ0_coder_7d493 C (fun r pc ls hn hk hd => hret r () pc ls hn hk hd) _ h)
abbrev rmhJ0_isLatin1_aae02 : Room := { frames := 0, cells := 0, slots := 0, locals := 0 }
def whJ0_isLatin1_aae02 (Z : gZ) (H : gH) (p : Nat) (K : Int32 → Prop) : Prop :=
  (((1 : Int32) = 0 → K 0) ∧ (¬ (1 : Int32) = 0 → ∃ y1 : Int32, sC Z H p y1 ∧ (((¬ y1 = 0 → K 0) ∧ (y1 = 0 → K 1)))))
set_option maxRecDepth 100000 in
set_option maxHeartbeats 4000000 in
theorem bhJ0_isLatin1_aae02 {D : gD} {E : gE} {A : Nat → Prop} {Q : State → Prop} {H : gH} (C : CL D E rmhJ0_isLatin1_aae02 cJ0_isLatin1_aae02 1 RJ0 A) {K : Int32 → Prop} (hret : ∀ (r : Int32) (pc : Nat) (ls : List (Nat × Value)), narrow .boolean (.int r) = .int r → K r → decode cJ0_isLatin1_aae02 pc = .ok (.ireturn, 1) → Go D E A Q 1 0 0 ([] ++ hpW H) ls pc [.int r]) (p : Nat) (h : whJ0_isLatin1_aae02 D.2 H p K) : Go D E A Q 1 0 0 ([] ++ hpW H) [(0, .ref p)] 0 [] := by
  unfold whJ0_isLatin1_aae02 at h
  refine q_getC C fl_J0_38 dJ0_isLatin1_aae02_0 ?_
  refine q_if_eq C 17 dJ0_isLatin1_aae02_3 (by decide) h (fun h => ?_) (fun h => ?_)
  · refine q_iconst C (v := 0) dJ0_isLatin1_aae02_17 (by decide) ?_
    exact hret 0 _ _ rfl h dJ0_isLatin1_aae02_18
  · refine q_aload_n C dJ0_isLatin1_aae02_6 0 rfl ?_
    obtain ⟨y1, e2, h⟩ := h
    refine h_scod C fl_J0_15 e2 dJ0_isLatin1_aae02_7 ?_
    refine q_if_ne C 17 dJ0_isLatin1_aae02_10 (by decide) h (fun h => ?_) (fun h => ?_)
    · refine q_iconst C (v := 0) dJ0_isLatin1_aae02_17 (by decide) ?_
      exact hret 0 _ _ rfl h dJ0_isLatin1_aae02_18
    · refine q_iconst C (v := 1) dJ0_isLatin1_aae02_13 (by decide) ?_
      refine q_goto (tgt := 18) C dJ0_isLatin1_aae02_14 (by decide) ?_
      exact hret 1 _ _ rfl h dJ0_isLatin1_aae02_18
theorem chJ0_isLatin1_aae02_ok (l : Launch) {D : gD} {H : gH} {p : Nat} {K : Int32 → Prop} (h : whJ0_isLatin1_aae02 D.2 H p K) : CtI l D (gU (zY D.2)) yJ0_isLatin1_aae02 cJ0_isLatin1_aae02 1 .boolean rmhJ0_isLatin1_aae02 [.ref p] ([] ++ hpW H) (fun _ : Unit => [] ++ hpW H) (fun r _ => K r ) :=
  ct_startI (by decide +kernel) (Nat.le_of_ble_eq_true rfl) (fun E A Q hE C hret => bhJ0_isLatin1_aae02 C (fun r pc ls hn hk hd => hret r () pc ls hn hk hd) _ h)
abbrev rmhJ0_length_8abf5 : Room := { frames := 1, cells := 0, slots := 0, locals := 20 }
def whJ0_length_8abf5 (Z : gZ) (H : gH) (p : Nat) (K : Int32 → Prop) : Prop :=
  ∃ y1 : Nat, sV Z H p y1 ∧ (∃ (n3 : Nat) (f4 : Nat → Int32), bA Z H y1 n3 f4 ∧ (hRs Z H p ∧ whJ0_coder_7d493 Z H p (fun r6 => K ((nI n3) >>> (r6 &&& 31)))))
set_option maxRecDepth 100000 in
set_option maxHeartbeats 4000000 in
theorem bhJ0_length_8abf5 {D : gD} {E : gE} {A : Nat → Prop} {Q : State → Prop} {H : gH} (C : CL D E rmhJ0_length_8abf5 cJ0_length_8abf5 1 RJ0 A) {K : Int32 → Prop} (hret : ∀ (r : Int32) (pc : Nat) (ls : List (Nat × Value)), K r → decode cJ0_length_8abf5 pc = .ok (.ireturn, 1) → Go D E A Q 1 0 0 ([] ++ hpW H) ls pc [.int r]) (p : Nat) (h : whJ0_length_8abf5 D.2 H p K) : Go D E A Q 1 0 0 ([] ++ hpW H) [(0, .ref p)] 0 [] := by
  unfold whJ0_length_8abf5 at h
  refine q_aload_n C dJ0_length_8abf5_0 0 rfl ?_
  obtain ⟨y1, e2, h⟩ := h
  refine h_sval C fl_J0_9 e2 dJ0_length_8abf5_1 ?_
  obtain ⟨n3, f4, e5, h⟩ := h
  refine h_blen C e5 dJ0_length_8abf5_4 ?_
  refine q_aload_n C dJ0_length_8abf5_5 0 rfl ?_
  obtain ⟨hr9, h⟩ := h
  refine p_callVI C (fun _ h => h) [] (chJ0_coder_7d493_ok _ h) cf_J0_335 im_J0_coder_7d493 se_J0_coder_7d493 (hRs_rv hr9) rfl ⟨Nat.le_of_ble_eq_true rfl, Nat.le_of_ble_eq_true rfl⟩ ⟨Nat.le_refl _, Nat.le_refl _⟩ List.perm_append_comm (fun _ : Unit => [] ++ hpW H) (fun _ => List.perm_append_comm) (rest := [.int (nI n3)]) rfl (Nat.le_of_ble_eq_true rfl) dJ0_length_8abf5_6 (fun r6 _ h => ?_)
  show Go D E A Q 1 0 0 ([] ++ hpW H) [(0, .ref p)] 9 [.int r6, .int (nI n3)]
  refine q_ishr C dJ0_length_8abf5_9 ?_
  exact hret ((nI n3) >>> (r6 &&& 31)) _ _ h dJ0_length_8abf5_10
theorem chJ0_length_8abf5_ok (l : Launch) {D : gD} {H : gH} {p : Nat} {K : Int32 → Prop} (h : whJ0_length_8abf5 D.2 H p K) : CtI l D (gU (zY D.2)) yJ0_length_8abf5 cJ0_length_8abf5 1 .int rmhJ0_length_8abf5 [.ref p] ([] ++ hpW H) (fun _ : Unit => [] ++ hpW H) (fun r _ => K r ) :=
  ct_startI (by decide +kernel) (Nat.le_of_ble_eq_true rfl) (fun E A Q hE C hret => bhJ0_length_8abf5 C (fun r pc ls hk hd => hret r () pc ls rfl hk hd) _ h)
abbrev rmhJ5_length_8abf5 : Room := { frames := 0, cells := 0, slots := 0, locals := 0 }
def whJ5_length_8abf5 (Z : gZ) (H : gH) (p : Nat) (K : Int32 → Prop) : Prop :=
  ∃ y1 : Int32, gF H p 11 3 (.int y1) ∧ (K y1)
set_option maxRecDepth 100000 in
set_option maxHeartbeats 4000000 in
theorem bhJ5_length_8abf5 {D : gD} {E : gE} {A : Nat → Prop} {Q : State → Prop} {H : gH} (C : CL D E rmhJ5_length_8abf5 cJ5_length_8abf5 1 RJ5 A) {K : Int32 → Prop} (hret : ∀ (r : Int32) (pc : Nat) (ls : List (Nat × Value)), K r → decode cJ5_length_8abf5 pc = .ok (.ireturn, 1) → Go D E A Q 1 0 0 ([] ++ hpW H) ls pc [.int r]) (p : Nat) (h : whJ5_length_8abf5 D.2 H p K) : Go D E A Q 1 0 0 ([] ++ hpW H) [(0, .ref p)] 0 [] := by
  unfold whJ5_length_8abf5 at h
  refine q_aload_n C dJ5_length_8abf5_0 0 rfl ?_
  obtain ⟨y1, e2, h⟩ := h
  refine h_get C inJ4g (ci := 11) rfl 3 (by decide) fl_J5_79 rfl e2 dJ5_length_8abf5_1 ?_
  exact hret y1 _ _ h dJ5_length_8abf5_4
theorem chJ5_length_8abf5_ok (l : Launch) {D : gD} {H : gH} {p : Nat} {K : Int32 → Prop} (h : whJ5_length_8abf5 D.2 H p K) : CtI l D (gU (zY D.2)) yJ5_length_8abf5 cJ5_length_8abf5 1 .int rmhJ5_length_8abf5 [.ref p] ([] ++ hpW H) (fun _ : Unit => [] ++ hpW H) (fun r _ => K r ) :=
  ct_startI (by decide +kernel) (Nat.le_of_ble_eq_true rfl) (fun E A Q hE C hret => bhJ5_length_8abf5 C (fun r pc ls hk hd => hret r () pc ls rfl hk hd) _ h)
abbrev rmhJ4_length_8abf5 : Room := { frames := 1, cells := 0, slots := 0, locals := 20 }
def whJ4_length_8abf5 (Z : gZ) (H : gH) (p : Nat) (K : Int32 → Prop) : Prop :=
  (∃ fs, hpG H p = some (.inr (11, fs))) ∧ whJ5_length_8abf5 Z H p (fun r1 => K r1)
set_option maxRecDepth 100000 in
set_option maxHeartbeats 4000000 in
theorem bhJ4_length_8abf5 {D : gD} {E : gE} {A : Nat → Prop} {Q : State → Prop} {H : gH} (C : CL D E rmhJ4_length_8abf5 cJ4_length_8abf5 1 RJ4 A) {K : Int32 → Prop} (hret : ∀ (r : Int32) (pc : Nat) (ls : List (Nat × Value)), K r → decode cJ4_length_8abf5 pc = .ok (.ireturn, 1) → Go D E A Q 1 0 0 ([] ++ hpW H) ls pc [.int r]) (p : Nat) (h : whJ4_length_8abf5 D.2 H p K) : Go D E A Q 1 0 0 ([] ++ hpW H) [(0, .ref p)] 0 [] := by
  unfold whJ4_length_8abf5 at h
  refine q_aload_n C dJ4_length_8abf5_0 0 rfl ?_
  obtain ⟨⟨fs9, hr9⟩, h⟩ := h
  refine p_callSUI C (fun _ h => h) [] (chJ5_length_8abf5_ok _ h) (C.hK.1 11 (RJ4, TJ4, 4) rfl).2 (n := 0) su_J4_343 (by decide +kernel) (hRv_h (q := (RJ4, TJ4, 4)) hr9 rfl) rfl ⟨Nat.le_of_ble_eq_true rfl, Nat.le_of_ble_eq_true rfl⟩ ⟨Nat.le_refl _, Nat.le_refl _⟩ List.perm_append_comm (fun _ : Unit => [] ++ hpW H) (fun _ => List.perm_append_comm) (rest := []) rfl (Nat.le_of_ble_eq_true rfl) dJ4_length_8abf5_1 (fun r1 _ h => ?_)
  show Go D E A Q 1 0 0 ([] ++ hpW H) [(0, .ref p)] 4 [.int r1]
  exact hret r1 _ _ h dJ4_length_8abf5_4
theorem chJ4_length_8abf5_ok (l : Launch) {D : gD} {H : gH} {p : Nat} {K : Int32 → Prop} (h : whJ4_length_8abf5 D.2 H p K) : CtI l D (gU (zY D.2)) yJ4_length_8abf5 cJ4_length_8abf5 1 .int rmhJ4_length_8abf5 [.ref p] ([] ++ hpW H) (fun _ : Unit => [] ++ hpW H) (fun r _ => K r ) :=
  ct_startI (by decide +kernel) (Nat.le_of_ble_eq_true rfl) (fun E A Q hE C hret => bhJ4_length_8abf5 C (fun r pc ls hk hd => hret r () pc ls rfl hk hd) _ h)
abbrev rmhJ5_getValue_6d5f1 : Room := { frames := 0, cells := 0, slots := 0, locals := 0 }
def whJ5_getValue_6d5f1 (Z : gZ) (H : gH) (p : Nat) (K : Nat → Prop) : Prop :=
  ∃ y1 : Nat, gF H p 11 0 (.ref y1) ∧ (K y1)
set_option maxRecDepth 100000 in
set_option maxHeartbeats 4000000 in
theorem bhJ5_getValue_6d5f1 {D : gD} {E : gE} {A : Nat → Prop} {Q : State → Prop} {H : gH} (C : CL D E rmhJ5_getValue_6d5f1 cJ5_getValue_6d5f1 1 RJ5 A) {K : Nat → Prop} (hret : ∀ (r : Nat) (pc : Nat) (ls : List (Nat × Value)), K r → decode cJ5_getValue_6d5f1 pc = .ok (.areturn, 1) → Go D E A Q 1 0 0 ([] ++ hpW H) ls pc [.ref r]) (p : Nat) (h : whJ5_getValue_6d5f1 D.2 H p K) : Go D E A Q 1 0 0 ([] ++ hpW H) [(0, .ref p)] 0 [] := by
  unfold whJ5_getValue_6d5f1 at h
  refine q_aload_n C dJ5_getValue_6d5f1_0 0 rfl ?_
  obtain ⟨y1, e2, h⟩ := h
  refine h_get C inJ4g (ci := 11) rfl 0 (by decide) fl_J5_15 rfl e2 dJ5_getValue_6d5f1_1 ?_
  exact hret y1 _ _ h dJ5_getValue_6d5f1_4
theorem chJ5_getValue_6d5f1_ok (l : Launch) {D : gD} {H : gH} {p : Nat} {K : Nat → Prop} (h : whJ5_getValue_6d5f1 D.2 H p K) : CtQ l D (gU (zY D.2)) yJ5_getValue_6d5f1 cJ5_getValue_6d5f1 1 (.array .byte) rmhJ5_getValue_6d5f1 [.ref p] ([] ++ hpW H) (fun _ : Unit => [] ++ hpW H) (fun r _ => K r ) :=
  ct_startQ (Or.inr ⟨_, rfl⟩) (by decide +kernel) (Nat.le_of_ble_eq_true rfl) (fun E A Q hE C hret => bhJ5_getValue_6d5f1 C (fun r pc ls hk hd => hret r () pc ls hk hd) _ h)
abbrev rmhJ8_newLength_cabcc : Room := { frames := 1, cells := 0, slots := 0, locals := 21 }
def whJ8_newLength_cabcc_21 (K : Int32 → Prop) (Z : gZ) (H : gH) (x0 : Int32) (x1 : Int32) : Prop :=
  False
set_option maxRecDepth 100000 in
set_option maxHeartbeats 4000000 in
theorem bhJ8_newLength_cabcc_21 {D : gD} {E : gE} {A : Nat → Prop} {Q : State → Prop} {H : gH} (C : CL D E rmhJ8_newLength_cabcc cJ8_newLength_cabcc 4 RJ8 A) {K : Int32 → Prop} (hret : ∀ (r : Int32) (pc : Nat) (ls : List (Nat × Value)), K r → decode cJ8_newLength_cabcc pc = .ok (.ireturn, 1) → Go D E A Q 4 0 0 ([] ++ hpW H) ls pc [.int r]) : ∀ (x0 : Int32) (x1 : Int32), whJ8_newLength_cabcc_21 K D.2 H x0 x1 → Go D E A Q 4 0 0 ([] ++ hpW H) [(0, .int x0), (1, .int x1)] 21 [] := by
  intro x0 x1 h
  unfold whJ8_newLength_cabcc_21 at h
  refine q_iload_n C dJ8_newLength_cabcc_21 0 rfl ?_
  refine q_iload_n C dJ8_newLength_cabcc_22 1 rfl ?_
  exact h.elim
def whJ8_newLength_cabcc (Z : gZ) (H : gH) (p0 : Int32) (p1 : Int32) (p2 : Int32) (K : Int32 → Prop) : Prop :=
  ((p0 + (g_max p1 p2) ≤ (0 : Int32) → whJ8_newLength_cabcc_21 K Z H p0 p1) ∧ (¬ p0 + (g_max p1 p2) ≤ (0 : Int32) → ((2147483639 < p0 + (g_max p1 p2) → whJ8_newLength_cabcc_21 K Z H p0 p1) ∧ (¬ 2147483639 < p0 + (g_max p1 p2) → K (p0 + (g_max p1 p2))))))
set_option maxRecDepth 100000 in
set_option maxHeartbeats 4000000 in
theorem bhJ8_newLength_cabcc {D : gD} {E : gE} {A : Nat → Prop} {Q : State → Prop} {H : gH} (C : CL D E rmhJ8_newLength_cabcc cJ8_newLength_cabcc 4 RJ8 A) {K : Int32 → Prop} (hret : ∀ (r : Int32) (pc : Nat) (ls : List (Nat × Value)), K r → decode cJ8_newLength_cabcc pc = .ok (.ireturn, 1) → Go D E A Q 4 0 0 ([] ++ hpW H) ls pc [.int r]) (p0 : Int32) (p1 : Int32) (p2 : Int32) (h : whJ8_newLength_cabcc D.2 H p0 p1 p2 K) : Go D E A Q 4 0 0 ([] ++ hpW H) [(0, .int p0), (1, .int p1), (2, .int p2)] 0 [] := by
  unfold whJ8_newLength_cabcc at h
  refine q_iload_n C dJ8_newLength_cabcc_0 0 rfl ?_
  refine q_iload_n C dJ8_newLength_cabcc_1 1 rfl ?_
  refine q_iload_n C dJ8_newLength_cabcc_2 2 rfl ?_
  refine q_mmax C ml_J8_194 dJ8_newLength_cabcc_3 ⟨Nat.le_of_ble_eq_true rfl, Nat.le_of_ble_eq_true rfl, Nat.zero_le _, Nat.zero_le _⟩ ?_
  refine q_iadd C dJ8_newLength_cabcc_6 ?_
  refine q_istore_n C [(3, .int (p0 + (g_max p1 p2))), (0, .int p0), (1, .int p1), (2, .int p2)] dJ8_newLength_cabcc_7 (by decide) rfl ?_
  refine q_iconst C (v := 0) dJ8_newLength_cabcc_8 (by decide) ?_
  refine q_iload_n C dJ8_newLength_cabcc_9 0 rfl ?_
  refine q_icmp_ge C 21 dJ8_newLength_cabcc_10 (by decide) h (fun h => ?_) (fun h => ?_)
  · refine q_ls [(0, .int p0), (1, .int p1)] [1, 2] rfl ?_
    exact bhJ8_newLength_cabcc_21 C  hret  _ _ h
  · refine q_iload_n C dJ8_newLength_cabcc_13 0 rfl ?_
    refine q_ldc C (v := 2147483639) co_J8_200 dJ8_newLength_cabcc_14 ?_
    refine q_icmp_gt C 21 dJ8_newLength_cabcc_16 (by decide) h (fun h => ?_) (fun h => ?_)
    · refine q_ls [(0, .int p0), (1, .int p1)] [1, 2] rfl ?_
      exact bhJ8_newLength_cabcc_21 C  hret  _ _ h
    · refine q_iload_n C dJ8_newLength_cabcc_19 0 rfl ?_
      exact hret (p0 + (g_max p1 p2)) _ _ h dJ8_newLength_cabcc_20
theorem chJ8_newLength_cabcc_ok (l : Launch) {D : gD} {H : gH} {p0 : Int32} {p1 : Int32} {p2 : Int32} {K : Int32 → Prop} (h : whJ8_newLength_cabcc D.2 H p0 p1 p2 K) : CtI l D (gU (zY D.2)) yJ8_newLength_cabcc cJ8_newLength_cabcc 4 .int rmhJ8_newLength_cabcc [.int p0, .int p1, .int p2] ([] ++ hpW H) (fun _ : Unit => [] ++ hpW H) (fun r _ => K r ) :=
  ct_startI (by decide +kernel) (Nat.le_of_ble_eq_true rfl) (fun E A Q hE C hret => bhJ8_newLength_cabcc C (fun r pc ls hk hd => hret r () pc ls rfl hk hd) _ _ _ h)
abbrev rmhJ5_newCapacity_0f7a4 : Room := { frames := 2, cells := 0, slots := 0, locals := 44 }
def whJ5_newCapacity_0f7a4 (Z : gZ) (H : gH) (p : Nat) (p0 : Int32) (K : Int32 → Prop) : Prop :=
  ∃ y1 : Nat, gF H p 11 0 (.ref y1) ∧ (∃ (n3 : Nat) (f4 : Nat → Int32), bA Z H y1 n3 f4 ∧ (∃ y6 : Int32, gF H p 11 1 (.int y6) ∧ (∃ y8 : Int32, gF H p 11 1 (.int y8) ∧ (whJ8_newLength_cabcc Z H (nI n3) ((p0 <<< (y6 &&& 31)) - (nI n3)) ((nI n3) + (2 <<< (y8 &&& 31))) (fun r10 => ((¬ r10 = 2147483647 → ∃ y11 : Int32, gF H p 11 1 (.int y11) ∧ (K (r10 >>> (y11 &&& 31)))) ∧ (r10 = 2147483647 → False)))))))
set_option maxRecDepth 100000 in
set_option maxHeartbeats 4000000 in
theorem bhJ5_newCapacity_0f7a4 {D : gD} {E : gE} {A : Nat → Prop} {Q : State → Prop} {H : gH} (C : CL D E rmhJ5_newCapacity_0f7a4 cJ5_newCapacity_0f7a4 6 RJ5 A) {K : Int32 → Prop} (hret : ∀ (r : Int32) (pc : Nat) (ls : List (Nat × Value)), K r → decode cJ5_newCapacity_0f7a4 pc = .ok (.ireturn, 1) → Go D E A Q 6 0 0 ([] ++ hpW H) ls pc [.int r]) (p : Nat) (p0 : Int32) (h : whJ5_newCapacity_0f7a4 D.2 H p p0 K) : Go D E A Q 6 0 0 ([] ++ hpW H) [(0, .ref p), (1, .int p0)] 0 [] := by
  unfold whJ5_newCapacity_0f7a4 at h
  refine q_aload_n C dJ5_newCapacity_0f7a4_0 0 rfl ?_
  obtain ⟨y1, e2, h⟩ := h
  refine h_get C inJ4g (ci := 11) rfl 0 (by decide) fl_J5_15 rfl e2 dJ5_newCapacity_0f7a4_1 ?_
  obtain ⟨n3, f4, e5, h⟩ := h
  refine h_blen C e5 dJ5_newCapacity_0f7a4_4 ?_
  refine q_istore_n C [(2, .int (nI n3)), (0, .ref p), (1, .int p0)] dJ5_newCapacity_0f7a4_5 (by decide) rfl ?_
  refine q_iload_n C dJ5_newCapacity_0f7a4_6 2 rfl ?_
  refine q_aload_n C dJ5_newCapacity_0f7a4_7 1 rfl ?_
  obtain ⟨y6, e7, h⟩ := h
  refine h_get C inJ4g (ci := 11) rfl 1 (by decide) fl_J5_22 rfl e7 dJ5_newCapacity_0f7a4_8 ?_
  refine q_ishl C dJ5_newCapacity_0f7a4_11 ?_
  refine q_istore_n C [(3, .int (p0 <<< (y6 &&& 31))), (2, .int (nI n3)), (0, .ref p), (1, .int p0)] dJ5_newCapacity_0f7a4_12 (by decide) rfl ?_
  refine q_iload_n C dJ5_newCapacity_0f7a4_13 0 rfl ?_
  refine q_iload_n C dJ5_newCapacity_0f7a4_14 1 rfl ?_
  refine q_isub C dJ5_newCapacity_0f7a4_15 ?_
  refine q_istore C [(4, .int ((p0 <<< (y6 &&& 31)) - (nI n3))), (3, .int (p0 <<< (y6 &&& 31))), (2, .int (nI n3)), (0, .ref p), (1, .int p0)] dJ5_newCapacity_0f7a4_16 (by decide) rfl ?_
  refine q_iload_n C dJ5_newCapacity_0f7a4_18 2 rfl ?_
  refine q_iload C dJ5_newCapacity_0f7a4_19 0 rfl ?_
  refine q_iload_n C dJ5_newCapacity_0f7a4_21 2 rfl ?_
  refine q_iconst C (v := 2) dJ5_newCapacity_0f7a4_22 (by decide) ?_
  refine q_aload_n C dJ5_newCapacity_0f7a4_23 3 rfl ?_
  obtain ⟨y8, e9, h⟩ := h
  refine h_get C inJ4g (ci := 11) rfl 1 (by decide) fl_J5_22 rfl e9 dJ5_newCapacity_0f7a4_24 ?_
  refine q_ishl C dJ5_newCapacity_0f7a4_27 ?_
  refine q_iadd C dJ5_newCapacity_0f7a4_28 ?_
  refine p_callSI C (fun _ h => h) [] (chJ8_newLength_cabcc_ok _ h) cf_J5_114 st_J8_newLength_cabcc rfl ⟨Nat.le_of_ble_eq_true rfl, Nat.le_of_ble_eq_true rfl⟩ ⟨Nat.le_refl _, Nat.le_refl _⟩ List.perm_append_comm (fun _ : Unit => [] ++ hpW H) (fun _ => List.perm_append_comm) (rest := []) rfl (Nat.le_of_ble_eq_true rfl) dJ5_newCapacity_0f7a4_29 (fun r10 _ h => ?_)
  show Go D E A Q 6 0 0 ([] ++ hpW H) [(4, .int ((p0 <<< (y6 &&& 31)) - (nI n3))), (3, .int (p0 <<< (y6 &&& 31))), (2, .int (nI n3)), (0, .ref p), (1, .int p0)] 32 [.int r10]
  refine q_istore C [(5, .int r10), (4, .int ((p0 <<< (y6 &&& 31)) - (nI n3))), (3, .int (p0 <<< (y6 &&& 31))), (2, .int (nI n3)), (0, .ref p), (1, .int p0)] dJ5_newCapacity_0f7a4_32 (by decide) rfl ?_
  refine q_iload C dJ5_newCapacity_0f7a4_34 0 rfl ?_
  refine q_ldc C (v := 2147483647) co_J5_39 dJ5_newCapacity_0f7a4_36 ?_
  refine q_icmp_ne C 51 dJ5_newCapacity_0f7a4_38 (by decide) h (fun h => ?_) (fun h => ?_)
  · refine q_iload C dJ5_newCapacity_0f7a4_51 0 rfl ?_
    refine q_aload_n C dJ5_newCapacity_0f7a4_53 4 rfl ?_
    obtain ⟨y11, e12, h⟩ := h
    refine h_get C inJ4g (ci := 11) rfl 1 (by decide) fl_J5_22 rfl e12 dJ5_newCapacity_0f7a4_54 ?_
    refine q_ishr C dJ5_newCapacity_0f7a4_57 ?_
    exact hret (r10 >>> (y11 &&& 31)) _ _ h dJ5_newCapacity_0f7a4_58
  · exact h.elim
theorem chJ5_newCapacity_0f7a4_ok (l : Launch) {D : gD} {H : gH} {p : Nat} {p0 : Int32} {K : Int32 → Prop} (h : whJ5_newCapacity_0f7a4 D.2 H p p0 K) : CtI l D (gU (zY D.2)) yJ5_newCapacity_0f7a4 cJ5_newCapacity_0f7a4 6 .int rmhJ5_newCapacity_0f7a4 [.ref p, .int p0] ([] ++ hpW H) (fun _ : Unit => [] ++ hpW H) (fun r _ => K r ) :=
  ct_startI (by decide +kernel) (Nat.le_of_ble_eq_true rfl) (fun E A Q hE C hret => bhJ5_newCapacity_0f7a4 C (fun r pc ls hk hd => hret r () pc ls rfl hk hd) _ _ h)
abbrev rmhJ7_copyOf_9075b (bc bs : Nat) : Room := { frames := 1, cells := bc, slots := bs, locals := 60 }
def whJ7_copyOf_9075b (Z : gZ) (H : gH) (bc : Nat) (bs : Nat) (p0 : Nat) (p1 : Int32) (K : Nat → gH → Prop) : Prop :=
  ∃ (n1 : Nat) (f2 : Nat → Int32), bA Z H p0 n1 f2 ∧ (((¬ p1 = nI n1 → ¬ p1 < 0 ∧ p1.toNatClampNeg * 1 ≤ 536870912 ∧ 1 ≤ bc ∧ p1.toNatClampNeg ≤ bs ∧ (∀ q4 : Nat, hpG H q4 = none → (∃ (n6 : Nat) (f7 : Nat → Int32), bA Z (hpN H q4 (iE (zY Z 0) p1.toNatClampNeg (fun _ => 0))) p0 n6 f7 ∧ (∃ (n8 : Nat) (f8 : Nat → Int32) (m8 : Nat) (g8 : Nat → Int32), bA Z (hpN H q4 (iE (zY Z 0) p1.toNatClampNeg (fun _ => 0))) p0 n8 f8 ∧ hpG (hpN H q4 (iE (zY Z 0) p1.toNatClampNeg (fun _ => 0))) q4 = some (iE (zY Z 0) m8 g8) ∧ ¬ (0 : Int32) < 0 ∧ ¬ (0 : Int32) < 0 ∧ ¬ (g_min (nI n6) p1) < 0 ∧ (0 : Int32).toNatClampNeg + (g_min (nI n6) p1).toNatClampNeg ≤ n8 ∧ (0 : Int32).toNatClampNeg + (g_min (nI n6) p1).toNatClampNeg ≤ m8 ∧ (∀ i, i < (g_min (nI n6) p1).toNatClampNeg → fits .byte (.int (f8 ((0 : Int32).toNatClampNeg + i))) = true) ∧ (K q4 (hpS (hpN H q4 (iE (zY Z 0) p1.toNatClampNeg (fun _ => 0))) q4 (iE (zY Z 0) m8 (va_cpy f8 g8 (0 : Int32).toNatClampNeg (0 : Int32).toNatClampNeg (g_min (nI n6) p1).toNatClampNeg)))))))) ∧ (p1 = nI n1 → ∃ (n10 : Nat) (f10 : Nat → Int32), hpG H p0 = some (iE (zY Z 0) n10 f10) ∧ (∀ i, i < n10 → fits .byte (.int (f10 i)) = true) ∧ 1 ≤ bc ∧ n10 ≤ bs ∧ (∀ q10 : Nat, hpG H q10 = none → (K q10 (hpN H q10 (iE (zY Z 0) n10 f10)))))))
set_option maxRecDepth 100000 in
set_option maxHeartbeats 4000000 in
theorem bhJ7_copyOf_9075b {D : gD} {E : gE} {A : Nat → Prop} {Q : State → Prop} {bc0 bs0 : Nat} (C : CL D E (rmhJ7_copyOf_9075b bc0 bs0) cJ7_copyOf_9075b 3 RJ7 A) {K : Nat → gH → Prop} (hret : ∀ (r : Nat) (H : gH) (pc : Nat) (ls : List (Nat × Value)), K r H → decode cJ7_copyOf_9075b pc = .ok (.areturn, 1) → Go D E A Q 3 bc0 bs0 ([] ++ hpW H) ls pc [.ref r]) (cells slots : Nat) (H : gH) (bc : Nat) (bs : Nat) (p0 : Nat) (p1 : Int32) (hbc : cells + bc ≤ bc0) (hbs : slots + bs ≤ bs0) (h : whJ7_copyOf_9075b D.2 H bc bs p0 p1 K) : Go D E A Q 3 cells slots ([] ++ hpW H) [(0, .ref p0), (1, .int p1)] 0 [] := by
  unfold whJ7_copyOf_9075b at h
  refine q_iload_n C dJ7_copyOf_9075b_0 1 rfl ?_
  refine q_aload_n C dJ7_copyOf_9075b_1 0 rfl ?_
  obtain ⟨n1, f2, e3, h⟩ := h
  refine h_blen C e3 dJ7_copyOf_9075b_2 ?_
  refine q_icmp_ne C 14 dJ7_copyOf_9075b_3 (by decide) h (fun h => ?_) (fun h => ?_)
  · refine q_iload_n C dJ7_copyOf_9075b_14 1 rfl ?_
    obtain ⟨b3, b4, b1, b2, h⟩ := h
    refine h_newB C dJ7_copyOf_9075b_15 b3 b4 ⟨by show cells + 1 ≤ bc0; omega, by show slots + p1.toNatClampNeg ≤ bs0; omega⟩ (fun q4 g5 => ?_)
    replace h := h q4 g5
    refine q_astore_n C [(2, .ref q4), (0, .ref p0), (1, .int p1)] dJ7_copyOf_9075b_17 (by decide) rfl ?_
    refine q_aload_n C dJ7_copyOf_9075b_18 1 rfl ?_
    refine q_iconst C (v := 0) dJ7_copyOf_9075b_19 (by decide) ?_
    refine q_aload_n C dJ7_copyOf_9075b_20 0 rfl ?_
    refine q_iconst C (v := 0) dJ7_copyOf_9075b_21 (by decide) ?_
    refine q_aload_n C dJ7_copyOf_9075b_22 1 rfl ?_
    obtain ⟨n6, f7, e8, h⟩ := h
    refine h_blen C e8 dJ7_copyOf_9075b_23 ?_
    refine q_iload_n C dJ7_copyOf_9075b_24 2 rfl ?_
    refine q_mmin C ml_J7_304 dJ7_copyOf_9075b_25 ⟨Nat.le_of_ble_eq_true rfl, Nat.le_of_ble_eq_true rfl, by show cells + 1 ≤ bc0; omega, by show slots + p1.toNatClampNeg ≤ bs0; omega⟩ ?_
    obtain ⟨n8, f8, m8, g8, e1, e2, b1, b2, b3, b4, b5, b6, h⟩ := h
    refine h_copy C ml_J7_150 e1 e2 b1 b2 b3 b4 b5 b6 ⟨Nat.le_of_ble_eq_true rfl, acopy_room⟩ dJ7_copyOf_9075b_28 ?_
    refine q_aload_n C dJ7_copyOf_9075b_31 0 rfl ?_
    refine q_widen (k := bc0) (n := bs0) (by omega) (by omega) ?_
    exact hret q4 (hpS (hpN H q4 (iE (zY D.2 0) p1.toNatClampNeg (fun _ => 0))) q4 (iE (zY D.2 0) m8 (va_cpy f8 g8 (0 : Int32).toNatClampNeg (0 : Int32).toNatClampNeg (g_min (nI n6) p1).toNatClampNeg))) _ _ h dJ7_copyOf_9075b_32
  · refine q_aload_n C dJ7_copyOf_9075b_6 0 rfl ?_
    obtain ⟨n10, f10, e1, e2, b1, b2, h⟩ := h
    refine h_clone C kl_J7_310 kc_J7_311 e1 e2 ⟨Nat.le_of_ble_eq_true rfl, Nat.le_of_ble_eq_true rfl⟩ dJ7_copyOf_9075b_7 dJ7_copyOf_9075b_10 ⟨by show cells + 1 ≤ bc0; omega, by show slots + n10 ≤ bs0; omega⟩ (fun q10 g10 => ?_)
    replace h := h q10 g10
    refine q_widen (k := bc0) (n := bs0) (by omega) (by omega) ?_
    exact hret q10 (hpN H q10 (iE (zY D.2 0) n10 f10)) _ _ h dJ7_copyOf_9075b_13
theorem chJ7_copyOf_9075b_ok (l : Launch) {D : gD} {H : gH} {bc : Nat} {bs : Nat} {p0 : Nat} {p1 : Int32} {K : Nat → gH → Prop} (h : whJ7_copyOf_9075b D.2 H bc bs p0 p1 K) : CtQ l D (gU (zY D.2)) yJ7_copyOf_9075b cJ7_copyOf_9075b 3 (.array .byte) (rmhJ7_copyOf_9075b bc bs) [.ref p0, .int p1] ([] ++ hpW H) (fun u : gH => [] ++ hpW u) (fun r u => K r u) :=
  ct_startQ (Or.inr ⟨_, rfl⟩) (by decide +kernel) (Nat.le_of_ble_eq_true rfl) (fun E A Q hE C hret => bhJ7_copyOf_9075b C (fun r H pc ls hk hd => hret r H pc ls hk hd) 0 0 _ _ _ _ _ (by omega) (by omega) h)
abbrev rmhJ5_ensureCapacityInternal_d00df (bc bs : Nat) : Room := { frames := 3, cells := bc, slots := bs, locals := 82 }
def whJ5_ensureCapacityInternal_d00df (Z : gZ) (H : gH) (bc : Nat) (bs : Nat) (p : Nat) (p0 : Int32) (K : gH → Prop) : Prop :=
  ∃ y1 : Nat, gF H p 11 0 (.ref y1) ∧ (∃ (n3 : Nat) (f4 : Nat → Int32), bA Z H y1 n3 f4 ∧ (∃ y6 : Int32, gF H p 11 1 (.int y6) ∧ (((p0 - ((nI n3) >>> (y6 &&& 31)) ≤ 0 → K H) ∧ (¬ p0 - ((nI n3) >>> (y6 &&& 31)) ≤ 0 → ∃ y8 : Nat, gF H p 11 0 (.ref y8) ∧ ((∃ fs, hpG H p = some (.inr (11, fs))) ∧ whJ5_newCapacity_0f7a4 Z H p p0 (fun r10 => ∃ y11 : Int32, gF H p 11 1 (.int y11) ∧ (∃ (c13 s13 : Nat), c13 ≤ bc ∧ s13 ≤ bs ∧ whJ7_copyOf_9075b Z H c13 s13 y8 (r10 <<< (y11 &&& 31)) (fun r13 H13 => ∃ f14 : List Value, hpG H13 p = some (.inr (11, f14)) ∧ 0 < f14.length ∧ (K (hpS H13 p (.inr (11, f14.set 0 (.ref r13))))))))))))))
set_option maxRecDepth 100000 in
set_option maxHeartbeats 4000000 in
theorem bhJ5_ensureCapacityInternal_d00df {D : gD} {E : gE} {A : Nat → Prop} {Q : State → Prop} {bc0 bs0 : Nat} (C : CL D E (rmhJ5_ensureCapacityInternal_d00df bc0 bs0) cJ5_ensureCapacityInternal_d00df 3 RJ5 A) {K : gH → Prop} (hret : ∀ (H : gH) (pc : Nat) (ls : List (Nat × Value)), K H → decode cJ5_ensureCapacityInternal_d00df pc = .ok (.return_, 1) → Go D E A Q 3 bc0 bs0 ([] ++ hpW H) ls pc []) (cells slots : Nat) (H : gH) (bc : Nat) (bs : Nat) (p : Nat) (p0 : Int32) (hbc : cells + bc ≤ bc0) (hbs : slots + bs ≤ bs0) (h : whJ5_ensureCapacityInternal_d00df D.2 H bc bs p p0 K) : Go D E A Q 3 cells slots ([] ++ hpW H) [(0, .ref p), (1, .int p0)] 0 [] := by
  unfold whJ5_ensureCapacityInternal_d00df at h
  refine q_aload_n C dJ5_ensureCapacityInternal_d00df_0 0 rfl ?_
  obtain ⟨y1, e2, h⟩ := h
  refine h_get C inJ4g (ci := 11) rfl 0 (by decide) fl_J5_15 rfl e2 dJ5_ensureCapacityInternal_d00df_1 ?_
  obtain ⟨n3, f4, e5, h⟩ := h
  refine h_blen C e5 dJ5_ensureCapacityInternal_d00df_4 ?_
  refine q_aload_n C dJ5_ensureCapacityInternal_d00df_5 0 rfl ?_
  obtain ⟨y6, e7, h⟩ := h
  refine h_get C inJ4g (ci := 11) rfl 1 (by decide) fl_J5_22 rfl e7 dJ5_ensureCapacityInternal_d00df_6 ?_
  refine q_ishr C dJ5_ensureCapacityInternal_d00df_9 ?_
  refine q_istore_n C [(2, .int ((nI n3) >>> (y6 &&& 31))), (0, .ref p), (1, .int p0)] dJ5_ensureCapacityInternal_d00df_10 (by decide) rfl ?_
  refine q_iload_n C dJ5_ensureCapacityInternal_d00df_11 2 rfl ?_
  refine q_iload_n C dJ5_ensureCapacityInternal_d00df_12 0 rfl ?_
  refine q_isub C dJ5_ensureCapacityInternal_d00df_13 ?_
  refine q_if_le C 38 dJ5_ensureCapacityInternal_d00df_14 (by decide) h (fun h => ?_) (fun h => ?_)
  · refine q_widen (k := bc0) (n := bs0) (by omega) (by omega) ?_
    exact hret H _ _ h dJ5_ensureCapacityInternal_d00df_38
  · refine q_aload_n C dJ5_ensureCapacityInternal_d00df_17 1 rfl ?_
    refine q_aload_n C dJ5_ensureCapacityInternal_d00df_18 1 rfl ?_
    obtain ⟨y8, e9, h⟩ := h
    refine h_get C inJ4g (ci := 11) rfl 0 (by decide) fl_J5_15 rfl e9 dJ5_ensureCapacityInternal_d00df_19 ?_
    refine q_aload_n C dJ5_ensureCapacityInternal_d00df_22 1 rfl ?_
    refine q_iload_n C dJ5_ensureCapacityInternal_d00df_23 2 rfl ?_
    obtain ⟨⟨fs9, hr9⟩, h⟩ := h
    refine p_callUI C (fun _ h => h) [] (chJ5_newCapacity_0f7a4_ok _ h) (n := 1) gu_J5_104 rfl (by decide +kernel) (hRv_h (q := (RJ4, TJ4, 4)) hr9 rfl) rfl ⟨Nat.le_of_ble_eq_true rfl, Nat.le_of_ble_eq_true rfl⟩ ⟨by show cells + 0 ≤ bc0; omega, by show slots + 0 ≤ bs0; omega⟩ List.perm_append_comm (fun _ : Unit => [] ++ hpW H) (fun _ => List.perm_append_comm) (rest := [.ref y8, .ref p]) rfl (Nat.le_of_ble_eq_true rfl) dJ5_ensureCapacityInternal_d00df_24 (fun r10 _ h => ?_)
    show Go D E A Q 3 cells slots ([] ++ hpW H) [(2, .int ((nI n3) >>> (y6 &&& 31))), (0, .ref p), (1, .int p0)] 27 [.int r10, .ref y8, .ref p]
    refine q_aload_n C dJ5_ensureCapacityInternal_d00df_27 1 rfl ?_
    obtain ⟨y11, e12, h⟩ := h
    refine h_get C inJ4g (ci := 11) rfl 1 (by decide) fl_J5_22 rfl e12 dJ5_ensureCapacityInternal_d00df_28 ?_
    refine q_ishl C dJ5_ensureCapacityInternal_d00df_31 ?_
    obtain ⟨c13, s13, hc13, hs13, h⟩ := h
    refine p_callSQ C (fun _ h => h) [] (chJ7_copyOf_9075b_ok _ h) cf_J5_108 st_J7_copyOf_9075b rfl ⟨Nat.le_of_ble_eq_true rfl, Nat.le_of_ble_eq_true rfl⟩ ⟨by show cells + c13 ≤ bc0; omega, by show slots + s13 ≤ bs0; omega⟩ List.perm_append_comm (fun H13 : gH => [] ++ hpW H13) (fun _ => List.perm_append_comm) (rest := [.ref p]) rfl (Nat.le_of_ble_eq_true rfl) dJ5_ensureCapacityInternal_d00df_32 (fun r13 H13 h => ?_)
    show Go D E A Q 3 (cells + c13) (slots + s13) ([] ++ hpW H13) [(2, .int ((nI n3) >>> (y6 &&& 31))), (0, .ref p), (1, .int p0)] 35 [.ref r13, .ref p]
    obtain ⟨f14, e15, l16, h⟩ := h
    refine h_put C inJ4g tyJ4_ok nmJ4 (ci := 11) rfl 0 (by decide) fl_J5_15 rfl rfl (ty := (.array .byte)) (by decide +kernel) e15 l16 rfl rfl dJ5_ensureCapacityInternal_d00df_35 ?_
    refine q_widen (k := bc0) (n := bs0) (by omega) (by omega) ?_
    exact hret (hpS H13 p (.inr (11, f14.set 0 (.ref r13)))) _ _ h dJ5_ensureCapacityInternal_d00df_38
theorem chJ5_ensureCapacityInternal_d00df_ok (l : Launch) {D : gD} {H : gH} {bc : Nat} {bs : Nat} {p : Nat} {p0 : Int32} {K : gH → Prop} (h : whJ5_ensureCapacityInternal_d00df D.2 H bc bs p p0 K) : CtV l D (gU (zY D.2)) yJ5_ensureCapacityInternal_d00df cJ5_ensureCapacityInternal_d00df 3 (rmhJ5_ensureCapacityInternal_d00df bc bs) [.ref p, .int p0] ([] ++ hpW H) (fun u : gH => [] ++ hpW u) (fun u => K u) :=
  ct_startV (by decide +kernel) (Nat.le_of_ble_eq_true rfl) (fun E A Q hE C hret => bhJ5_ensureCapacityInternal_d00df C (fun H pc ls hk hd => hret H pc ls hk hd) 0 0 _ _ _ _ _ (by omega) (by omega) h)
abbrev rmhJ0_getBytes_840e7 : Room := { frames := 1, cells := 0, slots := 0, locals := 60 }
def whJ0_getBytes_840e7 (Z : gZ) (H : gH) (p : Nat) (p0 : Nat) (p1 : Int32) (p2 : Int32) (K : gH → Prop) : Prop :=
  hRs Z H p ∧ whJ0_coder_7d493 Z H p (fun r1 => ((¬ r1 = p2 → ∃ y2 : Nat, sV Z H p y2 ∧ (∃ y4 : Nat, sV Z H p y4 ∧ (∃ (n6 : Nat) (f7 : Nat → Int32), bA Z H y4 n6 f7 ∧ (False)))) ∧ (r1 = p2 → ∃ y9 : Nat, sV Z H p y9 ∧ (∃ y11 : Nat, sV Z H p y11 ∧ (∃ (n13 : Nat) (f14 : Nat → Int32), bA Z H y11 n13 f14 ∧ (∃ (n15 : Nat) (f15 : Nat → Int32) (m15 : Nat) (g15 : Nat → Int32), bA Z H y9 n15 f15 ∧ hpG H p0 = some (iE (zY Z 0) m15 g15) ∧ ¬ (0 : Int32) < 0 ∧ ¬ (p1 <<< (p2 &&& 31)) < 0 ∧ ¬ (nI n13) < 0 ∧ (0 : Int32).toNatClampNeg + (nI n13).toNatClampNeg ≤ n15 ∧ (p1 <<< (p2 &&& 31)).toNatClampNeg + (nI n13).toNatClampNeg ≤ m15 ∧ (∀ i, i < (nI n13).toNatClampNeg → fits .byte (.int (f15 ((0 : Int32).toNatClampNeg + i))) = true) ∧ (K (hpS H p0 (iE (zY Z 0) m15 (va_cpy f15 g15 (0 : Int32).toNatClampNeg (p1 <<< (p2 &&& 31)).toNatClampNeg (nI n13).toNatClampNeg))))))))))
set_option maxRecDepth 100000 in
set_option maxHeartbeats 4000000 in
theorem bhJ0_getBytes_840e7 {D : gD} {E : gE} {A : Nat → Prop} {Q : State → Prop} (C : CL D E rmhJ0_getBytes_840e7 cJ0_getBytes_840e7 4 RJ0 A) {K : gH → Prop} (hret : ∀ (H : gH) (pc : Nat) (ls : List (Nat × Value)), K H → decode cJ0_getBytes_840e7 pc = .ok (.return_, 1) → Go D E A Q 4 0 0 ([] ++ hpW H) ls pc []) (H : gH) (p : Nat) (p0 : Nat) (p1 : Int32) (p2 : Int32) (h : whJ0_getBytes_840e7 D.2 H p p0 p1 p2 K) : Go D E A Q 4 0 0 ([] ++ hpW H) [(0, .ref p), (1, .ref p0), (2, .int p1), (3, .int p2)] 0 [] := by
  unfold whJ0_getBytes_840e7 at h
  refine q_aload_n C dJ0_getBytes_840e7_0 0 rfl ?_
  obtain ⟨hr9, h⟩ := h
  refine p_callVI C (fun _ h => h) [] (chJ0_coder_7d493_ok _ h) cf_J0_335 im_J0_coder_7d493 se_J0_coder_7d493 (hRs_rv hr9) rfl ⟨Nat.le_of_ble_eq_true rfl, Nat.le_of_ble_eq_true rfl⟩ ⟨Nat.le_refl _, Nat.le_refl _⟩ List.perm_append_comm (fun _ : Unit => [] ++ hpW H) (fun _ => List.perm_append_comm) (rest := []) rfl (Nat.le_of_ble_eq_true rfl) dJ0_getBytes_840e7_1 (fun r1 _ h => ?_)
  show Go D E A Q 4 0 0 ([] ++ hpW H) [(0, .ref p), (1, .ref p0), (2, .int p1), (3, .int p2)] 4 [.int r1]
  refine q_iload_n C dJ0_getBytes_840e7_4 3 rfl ?_
  refine q_icmp_ne C 28 dJ0_getBytes_840e7_5 (by decide) h (fun h => ?_) (fun h => ?_)
  · refine q_aload_n C dJ0_getBytes_840e7_28 0 rfl ?_
    obtain ⟨y2, e3, h⟩ := h
    refine h_sval C fl_J0_9 e3 dJ0_getBytes_840e7_29 ?_
    refine q_iconst C (v := 0) dJ0_getBytes_840e7_32 (by decide) ?_
    refine q_aload_n C dJ0_getBytes_840e7_33 1 rfl ?_
    refine q_iload_n C dJ0_getBytes_840e7_34 2 rfl ?_
    refine q_aload_n C dJ0_getBytes_840e7_35 0 rfl ?_
    obtain ⟨y4, e5, h⟩ := h
    refine h_sval C fl_J0_9 e5 dJ0_getBytes_840e7_36 ?_
    obtain ⟨n6, f7, e8, h⟩ := h
    refine h_blen C e8 dJ0_getBytes_840e7_39 ?_
    exact h.elim
  · refine q_aload_n C dJ0_getBytes_840e7_8 0 rfl ?_
    obtain ⟨y9, e10, h⟩ := h
    refine h_sval C fl_J0_9 e10 dJ0_getBytes_840e7_9 ?_
    refine q_iconst C (v := 0) dJ0_getBytes_840e7_12 (by decide) ?_
    refine q_aload_n C dJ0_getBytes_840e7_13 1 rfl ?_
    refine q_iload_n C dJ0_getBytes_840e7_14 2 rfl ?_
    refine q_iload_n C dJ0_getBytes_840e7_15 3 rfl ?_
    refine q_ishl C dJ0_getBytes_840e7_16 ?_
    refine q_aload_n C dJ0_getBytes_840e7_17 0 rfl ?_
    obtain ⟨y11, e12, h⟩ := h
    refine h_sval C fl_J0_9 e12 dJ0_getBytes_840e7_18 ?_
    obtain ⟨n13, f14, e15, h⟩ := h
    refine h_blen C e15 dJ0_getBytes_840e7_21 ?_
    obtain ⟨n15, f15, m15, g15, e1, e2, b1, b2, b3, b4, b5, b6, h⟩ := h
    refine h_copy C ml_J0_212 e1 e2 b1 b2 b3 b4 b5 b6 ⟨Nat.le_of_ble_eq_true rfl, acopy_room⟩ dJ0_getBytes_840e7_22 ?_
    refine q_goto (tgt := 43) C dJ0_getBytes_840e7_25 (by decide) ?_
    exact hret (hpS H p0 (iE (zY D.2 0) m15 (va_cpy f15 g15 (0 : Int32).toNatClampNeg (p1 <<< (p2 &&& 31)).toNatClampNeg (nI n13).toNatClampNeg))) _ _ h dJ0_getBytes_840e7_43
theorem chJ0_getBytes_840e7_ok (l : Launch) {D : gD} {H : gH} {p : Nat} {p0 : Nat} {p1 : Int32} {p2 : Int32} {K : gH → Prop} (h : whJ0_getBytes_840e7 D.2 H p p0 p1 p2 K) : CtV l D (gU (zY D.2)) yJ0_getBytes_840e7 cJ0_getBytes_840e7 4 rmhJ0_getBytes_840e7 [.ref p, .ref p0, .int p1, .int p2] ([] ++ hpW H) (fun u : gH => [] ++ hpW u) (fun u => K u) :=
  ct_startV (by decide +kernel) (Nat.le_of_ble_eq_true rfl) (fun E A Q hE C hret => bhJ0_getBytes_840e7 C (fun H pc ls hk hd => hret H pc ls hk hd) _ _ _ _ _ h)
abbrev rmhJ5_inflateIfNeededFor_a7421 : Room := { frames := 1, cells := 0, slots := 0, locals := 20 }
def whJ5_inflateIfNeededFor_a7421 (Z : gZ) (H : gH) (p : Nat) (p0 : Nat) (K : Prop) : Prop :=
  (((1 : Int32) = 0 → K) ∧ (¬ (1 : Int32) = 0 → ∃ y1 : Int32, gF H p 11 1 (.int y1) ∧ (hRs Z H p0 ∧ whJ0_coder_7d493 Z H p0 (fun r3 => ((y1 = r3 → K) ∧ (¬ y1 = r3 → False))))))
set_option maxRecDepth 100000 in
set_option maxHeartbeats 4000000 in
theorem bhJ5_inflateIfNeededFor_a7421 {D : gD} {E : gE} {A : Nat → Prop} {Q : State → Prop} {H : gH} (C : CL D E rmhJ5_inflateIfNeededFor_a7421 cJ5_inflateIfNeededFor_a7421 2 RJ5 A) {K : Prop} (hret : ∀ (pc : Nat) (ls : List (Nat × Value)), K → decode cJ5_inflateIfNeededFor_a7421 pc = .ok (.return_, 1) → Go D E A Q 2 0 0 ([] ++ hpW H) ls pc []) (p : Nat) (p0 : Nat) (h : whJ5_inflateIfNeededFor_a7421 D.2 H p p0 K) : Go D E A Q 2 0 0 ([] ++ hpW H) [(0, .ref p), (1, .ref p0)] 0 [] := by
  unfold whJ5_inflateIfNeededFor_a7421 at h
  refine q_getC C fl_J5_18 dJ5_inflateIfNeededFor_a7421_0 ?_
  refine q_if_eq C 21 dJ5_inflateIfNeededFor_a7421_3 (by decide) h (fun h => ?_) (fun h => ?_)
  · exact hret _ _ h dJ5_inflateIfNeededFor_a7421_21
  · refine q_aload_n C dJ5_inflateIfNeededFor_a7421_6 0 rfl ?_
    obtain ⟨y1, e2, h⟩ := h
    refine h_get C inJ4g (ci := 11) rfl 1 (by decide) fl_J5_22 rfl e2 dJ5_inflateIfNeededFor_a7421_7 ?_
    refine q_aload_n C dJ5_inflateIfNeededFor_a7421_10 1 rfl ?_
    obtain ⟨hr9, h⟩ := h
    refine p_callVI C (fun _ h => h) [] (chJ0_coder_7d493_ok _ h) cf_J5_40 im_J0_coder_7d493 se_J0_coder_7d493 (hRs_rv hr9) rfl ⟨Nat.le_of_ble_eq_true rfl, Nat.le_of_ble_eq_true rfl⟩ ⟨Nat.le_refl _, Nat.le_refl _⟩ List.perm_append_comm (fun _ : Unit => [] ++ hpW H) (fun _ => List.perm_append_comm) (rest := [.int y1]) rfl (Nat.le_of_ble_eq_true rfl) dJ5_inflateIfNeededFor_a7421_11 (fun r3 _ h => ?_)
    show Go D E A Q 2 0 0 ([] ++ hpW H) [(0, .ref p), (1, .ref p0)] 14 [.int r3, .int y1]
    refine q_icmp_eq C 21 dJ5_inflateIfNeededFor_a7421_14 (by decide) h (fun h => ?_) (fun h => ?_)
    · exact hret _ _ h dJ5_inflateIfNeededFor_a7421_21
    · refine q_aload_n C dJ5_inflateIfNeededFor_a7421_17 0 rfl ?_
      exact h.elim
theorem chJ5_inflateIfNeededFor_a7421_ok (l : Launch) {D : gD} {H : gH} {p : Nat} {p0 : Nat} {K : Prop} (h : whJ5_inflateIfNeededFor_a7421 D.2 H p p0 K) : CtV l D (gU (zY D.2)) yJ5_inflateIfNeededFor_a7421 cJ5_inflateIfNeededFor_a7421 2 rmhJ5_inflateIfNeededFor_a7421 [.ref p, .ref p0] ([] ++ hpW H) (fun _ : Unit => [] ++ hpW H) (fun _ => K) :=
  ct_startV (by decide +kernel) (Nat.le_of_ble_eq_true rfl) (fun E A Q hE C hret => bhJ5_inflateIfNeededFor_a7421 C (fun pc ls hk hd => hret () pc ls hk hd) _ _ h)
abbrev rmhJ5_putStringAt_47b60 : Room := { frames := 2, cells := 0, slots := 0, locals := 83 }
def whJ5_putStringAt_47b60 (Z : gZ) (H : gH) (p : Nat) (p0 : Int32) (p1 : Nat) (K : gH → Prop) : Prop :=
  (∃ fs, hpG H p = some (.inr (11, fs))) ∧ whJ5_inflateIfNeededFor_a7421 Z H p p1 (∃ y2 : Nat, gF H p 11 0 (.ref y2) ∧ (∃ y4 : Int32, gF H p 11 1 (.int y4) ∧ (hRs Z H p1 ∧ whJ0_getBytes_840e7 Z H p1 y2 p0 y4 (fun H6 => K H6))))
set_option maxRecDepth 100000 in
set_option maxHeartbeats 4000000 in
theorem bhJ5_putStringAt_47b60 {D : gD} {E : gE} {A : Nat → Prop} {Q : State → Prop} (C : CL D E rmhJ5_putStringAt_47b60 cJ5_putStringAt_47b60 3 RJ5 A) {K : gH → Prop} (hret : ∀ (H : gH) (pc : Nat) (ls : List (Nat × Value)), K H → decode cJ5_putStringAt_47b60 pc = .ok (.return_, 1) → Go D E A Q 3 0 0 ([] ++ hpW H) ls pc []) (H : gH) (p : Nat) (p0 : Int32) (p1 : Nat) (h : whJ5_putStringAt_47b60 D.2 H p p0 p1 K) : Go D E A Q 3 0 0 ([] ++ hpW H) [(0, .ref p), (1, .int p0), (2, .ref p1)] 0 [] := by
  unfold whJ5_putStringAt_47b60 at h
  refine q_aload_n C dJ5_putStringAt_47b60_0 0 rfl ?_
  refine q_aload_n C dJ5_putStringAt_47b60_1 2 rfl ?_
  obtain ⟨⟨fs9, hr9⟩, h⟩ := h
  refine p_callUV C (fun _ h => h) [] (chJ5_inflateIfNeededFor_a7421_ok _ h) (n := 1) gu_J5_397 rfl (by decide +kernel) (hRv_h (q := (RJ4, TJ4, 4)) hr9 rfl) rfl ⟨Nat.le_of_ble_eq_true rfl, Nat.le_of_ble_eq_true rfl⟩ ⟨Nat.le_refl _, Nat.le_refl _⟩ List.perm_append_comm (fun _ : Unit => [] ++ hpW H) (fun _ => List.perm_append_comm) (rest := []) rfl (Nat.le_of_ble_eq_true rfl) dJ5_putStringAt_47b60_2 (fun _ h => ?_)
  show Go D E A Q 3 0 0 ([] ++ hpW H) [(0, .ref p), (1, .int p0), (2, .ref p1)] 5 []
  refine q_aload_n C dJ5_putStringAt_47b60_5 2 rfl ?_
  refine q_aload_n C dJ5_putStringAt_47b60_6 0 rfl ?_
  obtain ⟨y2, e3, h⟩ := h
  refine h_get C inJ4g (ci := 11) rfl 0 (by decide) fl_J5_15 rfl e3 dJ5_putStringAt_47b60_7 ?_
  refine q_iload_n C dJ5_putStringAt_47b60_10 1 rfl ?_
  refine q_aload_n C dJ5_putStringAt_47b60_11 0 rfl ?_
  obtain ⟨y4, e5, h⟩ := h
  refine h_get C inJ4g (ci := 11) rfl 1 (by decide) fl_J5_22 rfl e5 dJ5_putStringAt_47b60_12 ?_
  obtain ⟨hr9, h⟩ := h
  refine p_callVV C (fun _ h => h) [] (chJ0_getBytes_840e7_ok _ h) cf_J5_399 im_J0_getBytes_840e7 se_J0_getBytes_840e7 (hRs_rv hr9) rfl ⟨Nat.le_of_ble_eq_true rfl, Nat.le_of_ble_eq_true rfl⟩ ⟨Nat.le_refl _, Nat.le_refl _⟩ List.perm_append_comm (fun H6 : gH => [] ++ hpW H6) (fun _ => List.perm_append_comm) (rest := []) rfl (Nat.le_of_ble_eq_true rfl) dJ5_putStringAt_47b60_15 (fun H6 h => ?_)
  show Go D E A Q 3 0 0 ([] ++ hpW H6) [(0, .ref p), (1, .int p0), (2, .ref p1)] 18 []
  exact hret H6 _ _ h dJ5_putStringAt_47b60_18
theorem chJ5_putStringAt_47b60_ok (l : Launch) {D : gD} {H : gH} {p : Nat} {p0 : Int32} {p1 : Nat} {K : gH → Prop} (h : whJ5_putStringAt_47b60 D.2 H p p0 p1 K) : CtV l D (gU (zY D.2)) yJ5_putStringAt_47b60 cJ5_putStringAt_47b60 3 rmhJ5_putStringAt_47b60 [.ref p, .int p0, .ref p1] ([] ++ hpW H) (fun u : gH => [] ++ hpW u) (fun u => K u) :=
  ct_startV (by decide +kernel) (Nat.le_of_ble_eq_true rfl) (fun E A Q hE C hret => bhJ5_putStringAt_47b60 C (fun H pc ls hk hd => hret H pc ls hk hd) _ _ _ _ h)
abbrev rmhJ5_append_cf1ce (bc bs : Nat) : Room := { frames := 4, cells := bc, slots := bs, locals := 105 }
def whJ5_append_cf1ce (Z : gZ) (H : gH) (bc : Nat) (bs : Nat) (p : Nat) (p0 : Nat) (K : Nat → gH → Prop) : Prop :=
  hRs Z H p0 ∧ whJ0_length_8abf5 Z H p0 (fun r1 => ∃ y2 : Int32, gF H p 11 3 (.int y2) ∧ ((∃ fs, hpG H p = some (.inr (11, fs))) ∧ ∃ (c4 s4 : Nat), c4 ≤ bc ∧ s4 ≤ bs ∧ whJ5_ensureCapacityInternal_d00df Z H c4 s4 p (y2 + r1) (fun H4 => ∃ y5 : Int32, gF H4 p 11 3 (.int y5) ∧ ((∃ fs, hpG H4 p = some (.inr (11, fs))) ∧ whJ5_putStringAt_47b60 Z H4 p y5 p0 (fun H7 => ∃ y8 : Int32, gF H7 p 11 3 (.int y8) ∧ (∃ f10 : List Value, hpG H7 p = some (.inr (11, f10)) ∧ 3 < f10.length ∧ (K p (hpS H7 p (.inr (11, f10.set 3 (.int (y8 + r1))))))))))))
set_option maxRecDepth 100000 in
set_option maxHeartbeats 4000000 in
theorem bhJ5_append_cf1ce {D : gD} {E : gE} {A : Nat → Prop} {Q : State → Prop} {bc0 bs0 : Nat} (C : CL D E (rmhJ5_append_cf1ce bc0 bs0) cJ5_append_cf1ce 3 RJ5 A) {K : Nat → gH → Prop} (hret : ∀ (r : Nat) (H : gH) (pc : Nat) (ls : List (Nat × Value)), K r H → decode cJ5_append_cf1ce pc = .ok (.areturn, 1) → Go D E A Q 3 bc0 bs0 ([] ++ hpW H) ls pc [.ref r]) (cells slots : Nat) (H : gH) (bc : Nat) (bs : Nat) (p : Nat) (p0 : Nat) (hbc : cells + bc ≤ bc0) (hbs : slots + bs ≤ bs0) (h : whJ5_append_cf1ce D.2 H bc bs p p0 K) : Go D E A Q 3 cells slots ([] ++ hpW H) [(0, .ref p), (1, .ref p0)] 0 [] := by
  unfold whJ5_append_cf1ce at h
  refine q_aload_n C dJ5_append_cf1ce_0 1 rfl ?_
  refine h_ifnnR C 9 dJ5_append_cf1ce_1 (by decide) ?_
  refine q_aload_n C dJ5_append_cf1ce_9 1 rfl ?_
  obtain ⟨hr9, h⟩ := h
  refine p_callVI C (fun _ h => h) [] (chJ0_length_8abf5_ok _ h) cf_J5_32 im_J0_length_8abf5 se_J0_length_8abf5 (hRs_rv hr9) rfl ⟨Nat.le_of_ble_eq_true rfl, Nat.le_of_ble_eq_true rfl⟩ ⟨by show cells + 0 ≤ bc0; omega, by show slots + 0 ≤ bs0; omega⟩ List.perm_append_comm (fun _ : Unit => [] ++ hpW H) (fun _ => List.perm_append_comm) (rest := []) rfl (Nat.le_of_ble_eq_true rfl) dJ5_append_cf1ce_10 (fun r1 _ h => ?_)
  show Go D E A Q 3 cells slots ([] ++ hpW H) [(0, .ref p), (1, .ref p0)] 13 [.int r1]
  refine q_istore_n C [(2, .int r1), (0, .ref p), (1, .ref p0)] dJ5_append_cf1ce_13 (by decide) rfl ?_
  refine q_aload_n C dJ5_append_cf1ce_14 1 rfl ?_
  refine q_aload_n C dJ5_append_cf1ce_15 1 rfl ?_
  obtain ⟨y2, e3, h⟩ := h
  refine h_get C inJ4g (ci := 11) rfl 3 (by decide) fl_J5_79 rfl e3 dJ5_append_cf1ce_16 ?_
  refine q_iload_n C dJ5_append_cf1ce_19 0 rfl ?_
  refine q_iadd C dJ5_append_cf1ce_20 ?_
  obtain ⟨⟨fs9, hr9⟩, h⟩ := h
  obtain ⟨c4, s4, hc4, hs4, h⟩ := h
  refine p_callUV C (fun _ h => h) [] (chJ5_ensureCapacityInternal_d00df_ok _ h) (n := 1) gu_J5_100 rfl (by decide +kernel) (hRv_h (q := (RJ4, TJ4, 4)) hr9 rfl) rfl ⟨Nat.le_of_ble_eq_true rfl, Nat.le_of_ble_eq_true rfl⟩ ⟨by show cells + c4 ≤ bc0; omega, by show slots + s4 ≤ bs0; omega⟩ List.perm_append_comm (fun H4 : gH => [] ++ hpW H4) (fun _ => List.perm_append_comm) (rest := []) rfl (Nat.le_of_ble_eq_true rfl) dJ5_append_cf1ce_21 (fun H4 h => ?_)
  show Go D E A Q 3 (cells + c4) (slots + s4) ([] ++ hpW H4) [(2, .int r1), (0, .ref p), (1, .ref p0)] 24 []
  refine q_aload_n C dJ5_append_cf1ce_24 1 rfl ?_
  refine q_aload_n C dJ5_append_cf1ce_25 1 rfl ?_
  obtain ⟨y5, e6, h⟩ := h
  refine h_get C inJ4g (ci := 11) rfl 3 (by decide) fl_J5_79 rfl e6 dJ5_append_cf1ce_26 ?_
  refine q_aload_n C dJ5_append_cf1ce_29 2 rfl ?_
  obtain ⟨⟨fs9, hr9⟩, h⟩ := h
  refine p_callUV C (fun _ h => h) [] (chJ5_putStringAt_47b60_ok _ h) (n := 2) gu_J5_208 rfl (by decide +kernel) (hRv_h (q := (RJ4, TJ4, 4)) hr9 rfl) rfl ⟨Nat.le_of_ble_eq_true rfl, Nat.le_of_ble_eq_true rfl⟩ ⟨by show cells + c4 + 0 ≤ bc0; omega, by show slots + s4 + 0 ≤ bs0; omega⟩ List.perm_append_comm (fun H7 : gH => [] ++ hpW H7) (fun _ => List.perm_append_comm) (rest := []) rfl (Nat.le_of_ble_eq_true rfl) dJ5_append_cf1ce_30 (fun H7 h => ?_)
  show Go D E A Q 3 (cells + c4) (slots + s4) ([] ++ hpW H7) [(2, .int r1), (0, .ref p), (1, .ref p0)] 33 []
  refine q_aload_n C dJ5_append_cf1ce_33 1 rfl ?_
  refine q_dup C dJ5_append_cf1ce_34 rfl ?_
  obtain ⟨y8, e9, h⟩ := h
  refine h_get C inJ4g (ci := 11) rfl 3 (by decide) fl_J5_79 rfl e9 dJ5_append_cf1ce_35 ?_
  refine q_iload_n C dJ5_append_cf1ce_38 0 rfl ?_
  refine q_iadd C dJ5_append_cf1ce_39 ?_
  obtain ⟨f10, e11, l12, h⟩ := h
  refine h_put C inJ4g tyJ4_ok nmJ4 (ci := 11) rfl 3 (by decide) fl_J5_79 rfl rfl (ty := .int) (by decide +kernel) e11 l12 rfl rfl dJ5_append_cf1ce_40 ?_
  refine q_aload_n C dJ5_append_cf1ce_43 1 rfl ?_
  refine q_widen (k := bc0) (n := bs0) (by omega) (by omega) ?_
  exact hret p (hpS H7 p (.inr (11, f10.set 3 (.int (y8 + r1))))) _ _ h dJ5_append_cf1ce_44
theorem chJ5_append_cf1ce_ok (l : Launch) {D : gD} {H : gH} {bc : Nat} {bs : Nat} {p : Nat} {p0 : Nat} {K : Nat → gH → Prop} (h : whJ5_append_cf1ce D.2 H bc bs p p0 K) : CtQ l D (gU (zY D.2)) yJ5_append_cf1ce cJ5_append_cf1ce 3 (.object "java/lang/AbstractStringBuilder") (rmhJ5_append_cf1ce bc bs) [.ref p, .ref p0] ([] ++ hpW H) (fun u : gH => [] ++ hpW u) (fun r u => K r u) :=
  ct_startQ (Or.inl ⟨_, rfl⟩) (by decide +kernel) (Nat.le_of_ble_eq_true rfl) (fun E A Q hE C hret => bhJ5_append_cf1ce C (fun r H pc ls hk hd => hret r H pc ls hk hd) 0 0 _ _ _ _ _ (by omega) (by omega) h)
abbrev rmhJ4_append_15ec4 (bc bs : Nat) : Room := { frames := 5, cells := bc, slots := bs, locals := 127 }
def whJ4_append_15ec4 (Z : gZ) (H : gH) (bc : Nat) (bs : Nat) (p : Nat) (p0 : Nat) (K : Nat → gH → Prop) : Prop :=
  (∃ fs, hpG H p = some (.inr (11, fs))) ∧ ∃ (c1 s1 : Nat), c1 ≤ bc ∧ s1 ≤ bs ∧ whJ5_append_cf1ce Z H c1 s1 p p0 (fun r1 H1 => K p H1)
set_option maxRecDepth 100000 in
set_option maxHeartbeats 4000000 in
theorem bhJ4_append_15ec4 {D : gD} {E : gE} {A : Nat → Prop} {Q : State → Prop} {bc0 bs0 : Nat} (C : CL D E (rmhJ4_append_15ec4 bc0 bs0) cJ4_append_15ec4 2 RJ4 A) {K : Nat → gH → Prop} (hret : ∀ (r : Nat) (H : gH) (pc : Nat) (ls : List (Nat × Value)), K r H → decode cJ4_append_15ec4 pc = .ok (.areturn, 1) → Go D E A Q 2 bc0 bs0 ([] ++ hpW H) ls pc [.ref r]) (cells slots : Nat) (H : gH) (bc : Nat) (bs : Nat) (p : Nat) (p0 : Nat) (hbc : cells + bc ≤ bc0) (hbs : slots + bs ≤ bs0) (h : whJ4_append_15ec4 D.2 H bc bs p p0 K) : Go D E A Q 2 cells slots ([] ++ hpW H) [(0, .ref p), (1, .ref p0)] 0 [] := by
  unfold whJ4_append_15ec4 at h
  refine q_aload_n C dJ4_append_15ec4_0 0 rfl ?_
  refine q_aload_n C dJ4_append_15ec4_1 1 rfl ?_
  obtain ⟨⟨fs9, hr9⟩, h⟩ := h
  obtain ⟨c1, s1, hc1, hs1, h⟩ := h
  refine p_callSUQ C (fun _ h => h) [] (chJ5_append_cf1ce_ok _ h) (C.hK.1 11 (RJ4, TJ4, 4) rfl).2 (n := 1) su_J4_29 (by decide +kernel) (hRv_h (q := (RJ4, TJ4, 4)) hr9 rfl) rfl ⟨Nat.le_of_ble_eq_true rfl, Nat.le_of_ble_eq_true rfl⟩ ⟨by show cells + c1 ≤ bc0; omega, by show slots + s1 ≤ bs0; omega⟩ List.perm_append_comm (fun H1 : gH => [] ++ hpW H1) (fun _ => List.perm_append_comm) (rest := []) rfl (Nat.le_of_ble_eq_true rfl) dJ4_append_15ec4_2 (fun r1 H1 h => ?_)
  show Go D E A Q 2 (cells + c1) (slots + s1) ([] ++ hpW H1) [(0, .ref p), (1, .ref p0)] 5 [.ref r1]
  refine q_pop C dJ4_append_15ec4_5 rfl ?_
  refine q_aload_n C dJ4_append_15ec4_6 0 rfl ?_
  refine q_widen (k := bc0) (n := bs0) (by omega) (by omega) ?_
  exact hret p H1 _ _ h dJ4_append_15ec4_7
theorem chJ4_append_15ec4_ok (l : Launch) {D : gD} {H : gH} {bc : Nat} {bs : Nat} {p : Nat} {p0 : Nat} {K : Nat → gH → Prop} (h : whJ4_append_15ec4 D.2 H bc bs p p0 K) : CtQ l D (gU (zY D.2)) yJ4_append_15ec4 cJ4_append_15ec4 2 (.object "java/lang/StringBuilder") (rmhJ4_append_15ec4 bc bs) [.ref p, .ref p0] ([] ++ hpW H) (fun u : gH => [] ++ hpW u) (fun r u => K r u) :=
  ct_startQ (Or.inl ⟨_, rfl⟩) (by decide +kernel) (Nat.le_of_ble_eq_true rfl) (fun E A Q hE C hret => bhJ4_append_15ec4 C (fun r H pc ls hk hd => hret r H pc ls hk hd) 0 0 _ _ _ _ _ (by omega) (by omega) h)
abbrev rmhJ6_stringSize_0f7a4 : Room := { frames := 0, cells := 0, slots := 0, locals := 0 }
def whJ6_stringSize_0f7a4_16 (K : Int32 → Prop) (Z : gZ) (H : gH) : Nat → Int32 → Int32 → Int32 → Int32 → Prop
  | 0, _, _, _, _ => False
  | n + 1, x0, x1, x2, x3 =>
  ((10 ≤ x3 → K (10 + x1)) ∧ (¬ 10 ≤ x3 → ((x0 ≤ x2 → whJ6_stringSize_0f7a4_16 K Z H n x0 x1 (10 * x2) (x3 + 1)) ∧ (¬ x0 ≤ x2 → K (x3 + x1)))))
set_option maxRecDepth 100000 in
set_option maxHeartbeats 4000000 in
theorem bhJ6_stringSize_0f7a4_16 {D : gD} {E : gE} {A : Nat → Prop} {Q : State → Prop} {H : gH} (C : CL D E rmhJ6_stringSize_0f7a4 cJ6_stringSize_0f7a4 4 RJ6 A) {K : Int32 → Prop} (hret : ∀ (r : Int32) (pc : Nat) (ls : List (Nat × Value)), K r → decode cJ6_stringSize_0f7a4 pc = .ok (.ireturn, 1) → Go D E A Q 4 0 0 ([] ++ hpW H) ls pc [.int r]) : ∀ (n : Nat) (x0 : Int32) (x1 : Int32) (x2 : Int32) (x3 : Int32), whJ6_stringSize_0f7a4_16 K D.2 H n x0 x1 x2 x3 → Go D E A Q 4 0 0 ([] ++ hpW H) [(0, .int x0), (1, .int x1), (2, .int x2), (3, .int x3)] 16 [] := by
  intro n
  induction n with
  | zero =>
    intro x0 x1 x2 x3 h
    exact h.elim
  | succ n ih =>
    intro x0 x1 x2 x3 h
    unfold whJ6_stringSize_0f7a4_16 at h
    refine q_iload_n C dJ6_stringSize_0f7a4_16 3 rfl ?_
    refine q_bipush C (v := 10) dJ6_stringSize_0f7a4_17 (by decide) ?_
    refine q_icmp_ge C 42 dJ6_stringSize_0f7a4_19 (by decide) h (fun h => ?_) (fun h => ?_)
    · refine q_bipush C (v := 10) dJ6_stringSize_0f7a4_42 (by decide) ?_
      refine q_iload_n C dJ6_stringSize_0f7a4_44 1 rfl ?_
      refine q_iadd C dJ6_stringSize_0f7a4_45 ?_
      exact hret (10 + x1) _ _ h dJ6_stringSize_0f7a4_46
    · refine q_iload_n C dJ6_stringSize_0f7a4_22 0 rfl ?_
      refine q_iload_n C dJ6_stringSize_0f7a4_23 2 rfl ?_
      refine q_icmp_le C 31 dJ6_stringSize_0f7a4_24 (by decide) h (fun h => ?_) (fun h => ?_)
      · refine q_bipush C (v := 10) dJ6_stringSize_0f7a4_31 (by decide) ?_
        refine q_iload_n C dJ6_stringSize_0f7a4_33 2 rfl ?_
        refine q_imul C dJ6_stringSize_0f7a4_34 ?_
        refine q_istore_n C [(2, .int (10 * x2)), (0, .int x0), (1, .int x1), (3, .int x3)] dJ6_stringSize_0f7a4_35 (by decide) rfl ?_
        refine q_iinc C (v := x3 + 1) [(3, .int (x3 + 1)), (2, .int (10 * x2)), (0, .int x0), (1, .int x1)] dJ6_stringSize_0f7a4_36 3 rfl rfl (by decide) rfl ?_
        refine q_goto (tgt := 16) C dJ6_stringSize_0f7a4_39 (by decide) ?_
        refine q_ls [(0, .int x0), (1, .int x1), (2, .int (10 * x2)), (3, .int (x3 + 1))] [2, 3, 1, 0] rfl ?_
        exact ih _ _ _ _ h
      · refine q_iload_n C dJ6_stringSize_0f7a4_27 3 rfl ?_
        refine q_iload_n C dJ6_stringSize_0f7a4_28 1 rfl ?_
        refine q_iadd C dJ6_stringSize_0f7a4_29 ?_
        exact hret (x3 + x1) _ _ h dJ6_stringSize_0f7a4_30
def whJ6_stringSize_0f7a4_11 (K : Int32 → Prop) (Z : gZ) (H : gH) (x0 : Int32) (x1 : Int32) : Prop :=
  ∃ k9 : Nat, whJ6_stringSize_0f7a4_16 K Z H k9 x0 x1 (-10) 1
set_option maxRecDepth 100000 in
set_option maxHeartbeats 4000000 in
theorem bhJ6_stringSize_0f7a4_11 {D : gD} {E : gE} {A : Nat → Prop} {Q : State → Prop} {H : gH} (C : CL D E rmhJ6_stringSize_0f7a4 cJ6_stringSize_0f7a4 4 RJ6 A) {K : Int32 → Prop} (hret : ∀ (r : Int32) (pc : Nat) (ls : List (Nat × Value)), K r → decode cJ6_stringSize_0f7a4 pc = .ok (.ireturn, 1) → Go D E A Q 4 0 0 ([] ++ hpW H) ls pc [.int r]) : ∀ (x0 : Int32) (x1 : Int32), whJ6_stringSize_0f7a4_11 K D.2 H x0 x1 → Go D E A Q 4 0 0 ([] ++ hpW H) [(0, .int x0), (1, .int x1)] 11 [] := by
  intro x0 x1 h
  unfold whJ6_stringSize_0f7a4_11 at h
  refine q_bipush C (v := (-10)) dJ6_stringSize_0f7a4_11 (by decide) ?_
  refine q_istore_n C [(2, .int (-10)), (0, .int x0), (1, .int x1)] dJ6_stringSize_0f7a4_13 (by decide) rfl ?_
  refine q_iconst C (v := 1) dJ6_stringSize_0f7a4_14 (by decide) ?_
  refine q_istore_n C [(3, .int 1), (2, .int (-10)), (0, .int x0), (1, .int x1)] dJ6_stringSize_0f7a4_15 (by decide) rfl ?_
  refine q_ls [(0, .int x0), (1, .int x1), (2, .int (-10)), (3, .int 1)] [2, 3, 1, 0] rfl ?_
  obtain ⟨nw, h⟩ := h
  exact bhJ6_stringSize_0f7a4_16 C  hret  nw _ _ _ _ h
def whJ6_stringSize_0f7a4 (Z : gZ) (H : gH) (p0 : Int32) (K : Int32 → Prop) : Prop :=
  ((p0 < 0 → whJ6_stringSize_0f7a4_11 K Z H p0 1) ∧ (¬ p0 < 0 → whJ6_stringSize_0f7a4_11 K Z H (-p0) 0))
set_option maxRecDepth 100000 in
set_option maxHeartbeats 4000000 in
theorem bhJ6_stringSize_0f7a4 {D : gD} {E : gE} {A : Nat → Prop} {Q : State → Prop} {H : gH} (C : CL D E rmhJ6_stringSize_0f7a4 cJ6_stringSize_0f7a4 4 RJ6 A) {K : Int32 → Prop} (hret : ∀ (r : Int32) (pc : Nat) (ls : List (Nat × Value)), K r → decode cJ6_stringSize_0f7a4 pc = .ok (.ireturn, 1) → Go D E A Q 4 0 0 ([] ++ hpW H) ls pc [.int r]) (p0 : Int32) (h : whJ6_stringSize_0f7a4 D.2 H p0 K) : Go D E A Q 4 0 0 ([] ++ hpW H) [(0, .int p0)] 0 [] := by
  unfold whJ6_stringSize_0f7a4 at h
  refine q_iconst C (v := 1) dJ6_stringSize_0f7a4_0 (by decide) ?_
  refine q_istore_n C [(1, .int 1), (0, .int p0)] dJ6_stringSize_0f7a4_1 (by decide) rfl ?_
  refine q_iload_n C dJ6_stringSize_0f7a4_2 1 rfl ?_
  refine q_if_lt C 11 dJ6_stringSize_0f7a4_3 (by decide) h (fun h => ?_) (fun h => ?_)
  · refine q_ls [(0, .int p0), (1, .int 1)] [1, 0] rfl ?_
    exact bhJ6_stringSize_0f7a4_11 C  hret  _ _ h
  · refine q_iconst C (v := 0) dJ6_stringSize_0f7a4_6 (by decide) ?_
    refine q_istore_n C [(1, .int 0), (0, .int p0)] dJ6_stringSize_0f7a4_7 (by decide) rfl ?_
    refine q_iload_n C dJ6_stringSize_0f7a4_8 1 rfl ?_
    refine q_ineg C dJ6_stringSize_0f7a4_9 ?_
    refine q_istore_n C [(0, .int (-p0)), (1, .int 0)] dJ6_stringSize_0f7a4_10 (by decide) rfl ?_
    exact bhJ6_stringSize_0f7a4_11 C  hret  _ _ h
theorem chJ6_stringSize_0f7a4_ok (l : Launch) {D : gD} {H : gH} {p0 : Int32} {K : Int32 → Prop} (h : whJ6_stringSize_0f7a4 D.2 H p0 K) : CtI l D (gU (zY D.2)) yJ6_stringSize_0f7a4 cJ6_stringSize_0f7a4 4 .int rmhJ6_stringSize_0f7a4 [.int p0] ([] ++ hpW H) (fun _ : Unit => [] ++ hpW H) (fun r _ => K r ) :=
  ct_startI (by decide +kernel) (Nat.le_of_ble_eq_true rfl) (fun E A Q hE C hret => bhJ6_stringSize_0f7a4 C (fun r pc ls hk hd => hret r () pc ls rfl hk hd) _ h)
abbrev rmhJ6_getChars_ba4f3 : Room := { frames := 0, cells := 0, slots := 0, locals := 0 }
def whJ6_getChars_ba4f3_104 (K : Int32 → gH → Prop) (Z : gZ) (H : gH) (x2 : Nat) (x5 : Int32) (x6 : Int32) : Prop :=
  ((x6 = 0 → K x5 H) ∧ (¬ x6 = 0 → ∃ (n1 : Nat) (f2 : Nat → Int32), hpG H x2 = some (iE (zY Z 0) n1 f2) ∧ vp_in (x5 + (-1)) n1 ∧ (K (x5 + (-1)) (hpS H x2 (iE (zY Z 0) n1 (upd f2 (x5 + (-1)).toNatClampNeg (vp_nar .byte 45)))))))
set_option maxRecDepth 100000 in
set_option maxHeartbeats 4000000 in
theorem bhJ6_getChars_ba4f3_104 {D : gD} {E : gE} {A : Nat → Prop} {Q : State → Prop} (C : CL D E rmhJ6_getChars_ba4f3 cJ6_getChars_ba4f3 7 RJ6 A) {K : Int32 → gH → Prop} (hret : ∀ (r : Int32) (H : gH) (pc : Nat) (ls : List (Nat × Value)), K r H → decode cJ6_getChars_ba4f3 pc = .ok (.ireturn, 1) → Go D E A Q 7 0 0 ([] ++ hpW H) ls pc [.int r]) : ∀ (H : gH) (x2 : Nat) (x5 : Int32) (x6 : Int32), whJ6_getChars_ba4f3_104 K D.2 H x2 x5 x6 → Go D E A Q 7 0 0 ([] ++ hpW H) [(2, .ref x2), (5, .int x5), (6, .int x6)] 104 [] := by
  intro H x2 x5 x6 h
  unfold whJ6_getChars_ba4f3_104 at h
  refine q_iload C dJ6_getChars_ba4f3_104 2 rfl ?_
  refine q_if_eq C 118 dJ6_getChars_ba4f3_106 (by decide) h (fun h => ?_) (fun h => ?_)
  · refine q_iload C dJ6_getChars_ba4f3_118 1 rfl ?_
    exact hret x5 H _ _ h dJ6_getChars_ba4f3_120
  · refine q_aload_n C dJ6_getChars_ba4f3_109 0 rfl ?_
    refine q_iinc C (v := x5 + (-1)) [(5, .int (x5 + (-1))), (2, .ref x2), (6, .int x6)] dJ6_getChars_ba4f3_110 1 rfl rfl (by decide) rfl ?_
    refine q_iload C dJ6_getChars_ba4f3_113 0 rfl ?_
    refine q_bipush C (v := 45) dJ6_getChars_ba4f3_115 (by decide) ?_
    obtain ⟨n1, f2, e3, i4, h⟩ := h
    refine h_bast C e3 i4 dJ6_getChars_ba4f3_117 ?_
    refine q_iload C dJ6_getChars_ba4f3_118 0 rfl ?_
    exact hret (x5 + (-1)) (hpS H x2 (iE (zY D.2 0) n1 (upd f2 (x5 + (-1)).toNatClampNeg (vp_nar .byte 45)))) _ _ h dJ6_getChars_ba4f3_120
def whJ6_getChars_ba4f3_22 (K : Int32 → gH → Prop) (Z : gZ) : Nat → gH → Int32 → Nat → Int32 → Int32 → Prop
  | 0, _, _, _, _, _ => False
  | n + 1, H, x0, x2, x5, x6 =>
  (((-100) < x0 → vp_in (-x0) 100 ∧ (∃ (n1 : Nat) (f2 : Nat → Int32), hpG H x2 = some (iE (zY Z 0) n1 f2) ∧ vp_in (x5 + (-1)) n1 ∧ ((((-9) ≤ x0 → whJ6_getChars_ba4f3_104 K Z (hpS H x2 (iE (zY Z 0) n1 (upd f2 (x5 + (-1)).toNatClampNeg (vp_nar .byte (kDo (-x0).toNatClampNeg))))) x2 (x5 + (-1)) x6) ∧ (¬ (-9) ≤ x0 → vp_in (-x0) 100 ∧ (∃ (n5 : Nat) (f6 : Nat → Int32), hpG (hpS H x2 (iE (zY Z 0) n1 (upd f2 (x5 + (-1)).toNatClampNeg (vp_nar .byte (kDo (-x0).toNatClampNeg))))) x2 = some (iE (zY Z 0) n5 f6) ∧ vp_in ((x5 + (-1)) + (-1)) n5 ∧ (whJ6_getChars_ba4f3_104 K Z (hpS (hpS H x2 (iE (zY Z 0) n1 (upd f2 (x5 + (-1)).toNatClampNeg (vp_nar .byte (kDo (-x0).toNatClampNeg))))) x2 (iE (zY Z 0) n5 (upd f6 ((x5 + (-1)) + (-1)).toNatClampNeg (vp_nar .byte (kDt (-x0).toNatClampNeg))))) x2 ((x5 + (-1)) + (-1)) x6))))))) ∧ (¬ (-100) < x0 → vp_in (((x0 / 100) * 100) - x0) 100 ∧ (∃ (n9 : Nat) (f10 : Nat → Int32), hpG H x2 = some (iE (zY Z 0) n9 f10) ∧ vp_in (x5 + (-1)) n9 ∧ (vp_in (((x0 / 100) * 100) - x0) 100 ∧ (∃ (n13 : Nat) (f14 : Nat → Int32), hpG (hpS H x2 (iE (zY Z 0) n9 (upd f10 (x5 + (-1)).toNatClampNeg (vp_nar .byte (kDo (((x0 / 100) * 100) - x0).toNatClampNeg))))) x2 = some (iE (zY Z 0) n13 f14) ∧ vp_in ((x5 + (-1)) + (-1)) n13 ∧ (whJ6_getChars_ba4f3_22 K Z n (hpS (hpS H x2 (iE (zY Z 0) n9 (upd f10 (x5 + (-1)).toNatClampNeg (vp_nar .byte (kDo (((x0 / 100) * 100) - x0).toNatClampNeg))))) x2 (iE (zY Z 0) n13 (upd f14 ((x5 + (-1)) + (-1)).toNatClampNeg (vp_nar .byte (kDt (((x0 / 100) * 100) - x0).toNatClampNeg))))) (x0 / 100) x2 ((x5 + (-1)) + (-1)) x6))))))
set_option maxRecDepth 100000 in
set_option maxHeartbeats 4000000 in
theorem bhJ6_getChars_ba4f3_22 {D : gD} {E : gE} {A : Nat → Prop} {Q : State → Prop} (C : CL D E rmhJ6_getChars_ba4f3 cJ6_getChars_ba4f3 7 RJ6 A) {K : Int32 → gH → Prop} (hret : ∀ (r : Int32) (H : gH) (pc : Nat) (ls : List (Nat × Value)), K r H → decode cJ6_getChars_ba4f3 pc = .ok (.ireturn, 1) → Go D E A Q 7 0 0 ([] ++ hpW H) ls pc [.int r]) : ∀ (n : Nat) (H : gH) (x0 : Int32) (x2 : Nat) (x5 : Int32) (x6 : Int32), whJ6_getChars_ba4f3_22 K D.2 n H x0 x2 x5 x6 → Go D E A Q 7 0 0 ([] ++ hpW H) [(0, .int x0), (2, .ref x2), (5, .int x5), (6, .int x6)] 22 [] := by
  intro n
  induction n with
  | zero =>
    intro H x0 x2 x5 x6 h
    exact h.elim
  | succ n ih =>
    intro H x0 x2 x5 x6 h
    unfold whJ6_getChars_ba4f3_22 at h
    refine q_iload_n C dJ6_getChars_ba4f3_22 0 rfl ?_
    refine q_bipush C (v := (-100)) dJ6_getChars_ba4f3_23 (by decide) ?_
    refine q_icmp_gt C 72 dJ6_getChars_ba4f3_25 (by decide) h (fun h => ?_) (fun h => ?_)
    · refine q_aload_n C dJ6_getChars_ba4f3_72 1 rfl ?_
      refine q_iinc C (v := x5 + (-1)) [(5, .int (x5 + (-1))), (0, .int x0), (2, .ref x2), (6, .int x6)] dJ6_getChars_ba4f3_73 2 rfl rfl (by decide) rfl ?_
      refine q_iload C dJ6_getChars_ba4f3_76 0 rfl ?_
      refine h_getDigitOnes C fl_J6_83 dJ6_getChars_ba4f3_78 ?_
      refine q_iload_n C dJ6_getChars_ba4f3_81 1 rfl ?_
      refine q_ineg C dJ6_getChars_ba4f3_82 ?_
      obtain ⟨e0, h⟩ := h
      refine h_ldDigitOnes C e0 dJ6_getChars_ba4f3_83 ?_
      obtain ⟨n1, f2, e3, i4, h⟩ := h
      refine h_bast C e3 i4 dJ6_getChars_ba4f3_84 ?_
      refine q_iload_n C dJ6_getChars_ba4f3_85 1 rfl ?_
      refine q_bipush C (v := (-9)) dJ6_getChars_ba4f3_86 (by decide) ?_
      refine q_icmp_ge C 104 dJ6_getChars_ba4f3_88 (by decide) h (fun h => ?_) (fun h => ?_)
      · refine q_ls [(2, .ref x2), (5, .int (x5 + (-1))), (6, .int x6)] [2, 0, 3] rfl ?_
        exact bhJ6_getChars_ba4f3_104 C  hret  _ _ _ _ h
      · refine q_aload_n C dJ6_getChars_ba4f3_91 2 rfl ?_
        refine q_iinc C (v := (x5 + (-1)) + (-1)) [(5, .int ((x5 + (-1)) + (-1))), (0, .int x0), (2, .ref x2), (6, .int x6)] dJ6_getChars_ba4f3_92 0 rfl rfl (by decide) rfl ?_
        refine q_iload C dJ6_getChars_ba4f3_95 0 rfl ?_
        refine h_getDigitTens C fl_J6_87 dJ6_getChars_ba4f3_97 ?_
        refine q_iload_n C dJ6_getChars_ba4f3_100 1 rfl ?_
        refine q_ineg C dJ6_getChars_ba4f3_101 ?_
        obtain ⟨e0, h⟩ := h
        refine h_ldDigitTens C e0 dJ6_getChars_ba4f3_102 ?_
        obtain ⟨n5, f6, e7, i8, h⟩ := h
        refine h_bast C e7 i8 dJ6_getChars_ba4f3_103 ?_
        refine q_ls [(2, .ref x2), (5, .int ((x5 + (-1)) + (-1))), (6, .int x6)] [2, 0, 3] rfl ?_
        exact bhJ6_getChars_ba4f3_104 C  hret  _ _ _ _ h
    · refine q_iload_n C dJ6_getChars_ba4f3_28 0 rfl ?_
      refine q_bipush C (v := 100) dJ6_getChars_ba4f3_29 (by decide) ?_
      refine q_idiv C dJ6_getChars_ba4f3_31 (by decide) ?_
      refine q_istore_n C [(3, .int (x0 / 100)), (0, .int x0), (2, .ref x2), (5, .int x5), (6, .int x6)] dJ6_getChars_ba4f3_32 (by decide) rfl ?_
      refine q_iload_n C dJ6_getChars_ba4f3_33 0 rfl ?_
      refine q_bipush C (v := 100) dJ6_getChars_ba4f3_34 (by decide) ?_
      refine q_imul C dJ6_getChars_ba4f3_36 ?_
      refine q_iload_n C dJ6_getChars_ba4f3_37 1 rfl ?_
      refine q_isub C dJ6_getChars_ba4f3_38 ?_
      refine q_istore C [(4, .int (((x0 / 100) * 100) - x0)), (3, .int (x0 / 100)), (0, .int x0), (2, .ref x2), (5, .int x5), (6, .int x6)] dJ6_getChars_ba4f3_39 (by decide) rfl ?_
      refine q_iload_n C dJ6_getChars_ba4f3_41 1 rfl ?_
      refine q_istore_n C [(0, .int (x0 / 100)), (4, .int (((x0 / 100) * 100) - x0)), (3, .int (x0 / 100)), (2, .ref x2), (5, .int x5), (6, .int x6)] dJ6_getChars_ba4f3_42 (by decide) rfl ?_
      refine q_aload_n C dJ6_getChars_ba4f3_43 3 rfl ?_
      refine q_iinc C (v := x5 + (-1)) [(5, .int (x5 + (-1))), (0, .int (x0 / 100)), (4, .int (((x0 / 100) * 100) - x0)), (3, .int (x0 / 100)), (2, .ref x2), (6, .int x6)] dJ6_getChars_ba4f3_44 4 rfl rfl (by decide) rfl ?_
      refine q_iload C dJ6_getChars_ba4f3_47 0 rfl ?_
      refine h_getDigitOnes C fl_J6_83 dJ6_getChars_ba4f3_49 ?_
      refine q_iload C dJ6_getChars_ba4f3_52 2 rfl ?_
      obtain ⟨e0, h⟩ := h
      refine h_ldDigitOnes C e0 dJ6_getChars_ba4f3_54 ?_
      obtain ⟨n9, f10, e11, i12, h⟩ := h
      refine h_bast C e11 i12 dJ6_getChars_ba4f3_55 ?_
      refine q_aload_n C dJ6_getChars_ba4f3_56 4 rfl ?_
      refine q_iinc C (v := (x5 + (-1)) + (-1)) [(5, .int ((x5 + (-1)) + (-1))), (0, .int (x0 / 100)), (4, .int (((x0 / 100) * 100) - x0)), (3, .int (x0 / 100)), (2, .ref x2), (6, .int x6)] dJ6_getChars_ba4f3_57 0 rfl rfl (by decide) rfl ?_
      refine q_iload C dJ6_getChars_ba4f3_60 0 rfl ?_
      refine h_getDigitTens C fl_J6_87 dJ6_getChars_ba4f3_62 ?_
      refine q_iload C dJ6_getChars_ba4f3_65 2 rfl ?_
      obtain ⟨e0, h⟩ := h
      refine h_ldDigitTens C e0 dJ6_getChars_ba4f3_67 ?_
      obtain ⟨n13, f14, e15, i16, h⟩ := h
      refine h_bast C e15 i16 dJ6_getChars_ba4f3_68 ?_
      refine q_goto (tgt := 22) C dJ6_getChars_ba4f3_69 (by decide) ?_
      refine q_ls [(0, .int (x0 / 100)), (2, .ref x2), (5, .int ((x5 + (-1)) + (-1))), (6, .int x6)] [1, 4, 0, 5] rfl ?_
      exact ih _ _ _ _ _ h
def whJ6_getChars_ba4f3_12 (K : Int32 → gH → Prop) (Z : gZ) (H : gH) (x0 : Int32) (x2 : Nat) (x5 : Int32) (z0 : Int32) : Prop :=
  ((¬ z0 = 0 → ∃ k9 : Nat, whJ6_getChars_ba4f3_22 K Z k9 H x0 x2 x5 z0) ∧ (z0 = 0 → ∃ k9 : Nat, whJ6_getChars_ba4f3_22 K Z k9 H (-x0) x2 x5 z0))
set_option maxRecDepth 100000 in
set_option maxHeartbeats 4000000 in
theorem bhJ6_getChars_ba4f3_12 {D : gD} {E : gE} {A : Nat → Prop} {Q : State → Prop} (C : CL D E rmhJ6_getChars_ba4f3 cJ6_getChars_ba4f3 7 RJ6 A) {K : Int32 → gH → Prop} (hret : ∀ (r : Int32) (H : gH) (pc : Nat) (ls : List (Nat × Value)), K r H → decode cJ6_getChars_ba4f3 pc = .ok (.ireturn, 1) → Go D E A Q 7 0 0 ([] ++ hpW H) ls pc [.int r]) : ∀ (H : gH) (x0 : Int32) (x2 : Nat) (x5 : Int32) (z0 : Int32), whJ6_getChars_ba4f3_12 K D.2 H x0 x2 x5 z0 → Go D E A Q 7 0 0 ([] ++ hpW H) [(0, .int x0), (2, .ref x2), (5, .int x5)] 12 [.int z0] := by
  intro H x0 x2 x5 z0 h
  unfold whJ6_getChars_ba4f3_12 at h
  refine q_istore C [(6, .int z0), (0, .int x0), (2, .ref x2), (5, .int x5)] dJ6_getChars_ba4f3_12 (by decide) rfl ?_
  refine q_iload C dJ6_getChars_ba4f3_14 0 rfl ?_
  refine q_if_ne C 22 dJ6_getChars_ba4f3_16 (by decide) h (fun h => ?_) (fun h => ?_)
  · refine q_ls [(0, .int x0), (2, .ref x2), (5, .int x5), (6, .int z0)] [1, 2, 3, 0] rfl ?_
    obtain ⟨nw, h⟩ := h
    exact bhJ6_getChars_ba4f3_22 C  hret  nw _ _ _ _ _ h
  · refine q_iload_n C dJ6_getChars_ba4f3_19 1 rfl ?_
    refine q_ineg C dJ6_getChars_ba4f3_20 ?_
    refine q_istore_n C [(0, .int (-x0)), (6, .int z0), (2, .ref x2), (5, .int x5)] dJ6_getChars_ba4f3_21 (by decide) rfl ?_
    refine q_ls [(0, .int (-x0)), (2, .ref x2), (5, .int x5), (6, .int z0)] [0, 2, 3, 1] rfl ?_
    obtain ⟨nw, h⟩ := h
    exact bhJ6_getChars_ba4f3_22 C  hret  nw _ _ _ _ _ h
def whJ6_getChars_ba4f3 (Z : gZ) (H : gH) (p0 : Int32) (p1 : Int32) (p2 : Nat) (K : Int32 → gH → Prop) : Prop :=
  ((0 ≤ p0 → whJ6_getChars_ba4f3_12 K Z H p0 p2 p1 0) ∧ (¬ 0 ≤ p0 → whJ6_getChars_ba4f3_12 K Z H p0 p2 p1 1))
set_option maxRecDepth 100000 in
set_option maxHeartbeats 4000000 in
theorem bhJ6_getChars_ba4f3 {D : gD} {E : gE} {A : Nat → Prop} {Q : State → Prop} (C : CL D E rmhJ6_getChars_ba4f3 cJ6_getChars_ba4f3 7 RJ6 A) {K : Int32 → gH → Prop} (hret : ∀ (r : Int32) (H : gH) (pc : Nat) (ls : List (Nat × Value)), K r H → decode cJ6_getChars_ba4f3 pc = .ok (.ireturn, 1) → Go D E A Q 7 0 0 ([] ++ hpW H) ls pc [.int r]) (H : gH) (p0 : Int32) (p1 : Int32) (p2 : Nat) (h : whJ6_getChars_ba4f3 D.2 H p0 p1 p2 K) : Go D E A Q 7 0 0 ([] ++ hpW H) [(0, .int p0), (1, .int p1), (2, .ref p2)] 0 [] := by
  unfold whJ6_getChars_ba4f3 at h
  refine q_iload_n C dJ6_getChars_ba4f3_0 1 rfl ?_
  refine q_istore C [(5, .int p1), (0, .int p0), (1, .int p1), (2, .ref p2)] dJ6_getChars_ba4f3_1 (by decide) rfl ?_
  refine q_iload_n C dJ6_getChars_ba4f3_3 1 rfl ?_
  refine q_if_ge C 11 dJ6_getChars_ba4f3_4 (by decide) h (fun h => ?_) (fun h => ?_)
  · refine q_iconst C (v := 0) dJ6_getChars_ba4f3_11 (by decide) ?_
    refine q_ls [(0, .int p0), (2, .ref p2), (5, .int p1)] [1, 3, 0] rfl ?_
    exact bhJ6_getChars_ba4f3_12 C  hret  _ _ _ _ _ h
  · refine q_iconst C (v := 1) dJ6_getChars_ba4f3_7 (by decide) ?_
    refine q_goto (tgt := 12) C dJ6_getChars_ba4f3_8 (by decide) ?_
    refine q_ls [(0, .int p0), (2, .ref p2), (5, .int p1)] [1, 3, 0] rfl ?_
    exact bhJ6_getChars_ba4f3_12 C  hret  _ _ _ _ _ h
theorem chJ6_getChars_ba4f3_ok (l : Launch) {D : gD} {H : gH} {p0 : Int32} {p1 : Int32} {p2 : Nat} {K : Int32 → gH → Prop} (h : whJ6_getChars_ba4f3 D.2 H p0 p1 p2 K) : CtI l D (gU (zY D.2)) yJ6_getChars_ba4f3 cJ6_getChars_ba4f3 7 .int rmhJ6_getChars_ba4f3 [.int p0, .int p1, .ref p2] ([] ++ hpW H) (fun u : gH => [] ++ hpW u) (fun r u => K r u) :=
  ct_startI (by decide +kernel) (Nat.le_of_ble_eq_true rfl) (fun E A Q hE C hret => bhJ6_getChars_ba4f3 C (fun r H pc ls hk hd => hret r H pc ls rfl hk hd) _ _ _ _ h)
abbrev rmhJ5_append_c97b9 (bc bs : Nat) : Room := { frames := 4, cells := bc, slots := bs, locals := 104 }
def whJ5_append_c97b9_48 (K : Nat → gH → Prop) (Z : gZ) (H : gH) (bc : Nat) (bs : Nat) (x0 : Nat) (x3 : Int32) : Prop :=
  ∃ f1 : List Value, hpG H x0 = some (.inr (11, f1)) ∧ 3 < f1.length ∧ (K x0 (hpS H x0 (.inr (11, f1.set 3 (.int x3)))))
set_option maxRecDepth 100000 in
set_option maxHeartbeats 4000000 in
theorem bhJ5_append_c97b9_48 {D : gD} {E : gE} {A : Nat → Prop} {Q : State → Prop} {bc0 bs0 : Nat} (C : CL D E (rmhJ5_append_c97b9 bc0 bs0) cJ5_append_c97b9 4 RJ5 A) {K : Nat → gH → Prop} (hret : ∀ (r : Nat) (H : gH) (pc : Nat) (ls : List (Nat × Value)), K r H → decode cJ5_append_c97b9 pc = .ok (.areturn, 1) → Go D E A Q 4 bc0 bs0 ([] ++ hpW H) ls pc [.ref r]) : ∀ (cells slots : Nat) (H : gH) (bc : Nat) (bs : Nat) (x0 : Nat) (x3 : Int32), cells + bc ≤ bc0 → slots + bs ≤ bs0 → whJ5_append_c97b9_48 K D.2 H bc bs x0 x3 → Go D E A Q 4 cells slots ([] ++ hpW H) [(0, .ref x0), (3, .int x3)] 48 [] := by
  intro cells slots H bc bs x0 x3 hbc hbs h
  unfold whJ5_append_c97b9_48 at h
  refine q_aload_n C dJ5_append_c97b9_48 0 rfl ?_
  refine q_iload_n C dJ5_append_c97b9_49 1 rfl ?_
  obtain ⟨f1, e2, l3, h⟩ := h
  refine h_put C inJ4g tyJ4_ok nmJ4 (ci := 11) rfl 3 (by decide) fl_J5_79 rfl rfl (ty := .int) (by decide +kernel) e2 l3 rfl rfl dJ5_append_c97b9_50 ?_
  refine q_aload_n C dJ5_append_c97b9_53 0 rfl ?_
  refine q_widen (k := bc0) (n := bs0) (by omega) (by omega) ?_
  exact hret x0 (hpS H x0 (.inr (11, f1.set 3 (.int x3)))) _ _ h dJ5_append_c97b9_54
def whJ5_append_c97b9 (Z : gZ) (H : gH) (bc : Nat) (bs : Nat) (p : Nat) (p0 : Int32) (K : Nat → gH → Prop) : Prop :=
  ∃ y1 : Int32, gF H p 11 3 (.int y1) ∧ (whJ6_stringSize_0f7a4 Z H p0 (fun r3 => (∃ fs, hpG H p = some (.inr (11, fs))) ∧ ∃ (c4 s4 : Nat), c4 ≤ bc ∧ s4 ≤ bs ∧ whJ5_ensureCapacityInternal_d00df Z H c4 s4 p (y1 + r3) (fun H4 => (∃ fs, hpG H4 p = some (.inr (11, fs))) ∧ whJ5_isLatin1_aae02 Z H4 p (fun r5 => ((r5 = 0 → ∃ y6 : Nat, gF H4 p 11 0 (.ref y6) ∧ (False)) ∧ (¬ r5 = 0 → ∃ y8 : Nat, gF H4 p 11 0 (.ref y8) ∧ (whJ6_getChars_ba4f3 Z H4 p0 (y1 + r3) y8 (fun r10 H10 => whJ5_append_c97b9_48 K Z H10 (bc - c4) (bs - s4) p (y1 + r3)))))))))
set_option maxRecDepth 100000 in
set_option maxHeartbeats 4000000 in
theorem bhJ5_append_c97b9 {D : gD} {E : gE} {A : Nat → Prop} {Q : State → Prop} {bc0 bs0 : Nat} (C : CL D E (rmhJ5_append_c97b9 bc0 bs0) cJ5_append_c97b9 4 RJ5 A) {K : Nat → gH → Prop} (hret : ∀ (r : Nat) (H : gH) (pc : Nat) (ls : List (Nat × Value)), K r H → decode cJ5_append_c97b9 pc = .ok (.areturn, 1) → Go D E A Q 4 bc0 bs0 ([] ++ hpW H) ls pc [.ref r]) (cells slots : Nat) (H : gH) (bc : Nat) (bs : Nat) (p : Nat) (p0 : Int32) (hbc : cells + bc ≤ bc0) (hbs : slots + bs ≤ bs0) (h : whJ5_append_c97b9 D.2 H bc bs p p0 K) : Go D E A Q 4 cells slots ([] ++ hpW H) [(0, .ref p), (1, .int p0)] 0 [] := by
  unfold whJ5_append_c97b9 at h
  refine q_aload_n C dJ5_append_c97b9_0 0 rfl ?_
  obtain ⟨y1, e2, h⟩ := h
  refine h_get C inJ4g (ci := 11) rfl 3 (by decide) fl_J5_79 rfl e2 dJ5_append_c97b9_1 ?_
  refine q_istore_n C [(2, .int y1), (0, .ref p), (1, .int p0)] dJ5_append_c97b9_4 (by decide) rfl ?_
  refine q_iload_n C dJ5_append_c97b9_5 0 rfl ?_
  refine q_iload_n C dJ5_append_c97b9_6 2 rfl ?_
  refine p_callSI C (fun _ h => h) [] (chJ6_stringSize_0f7a4_ok _ h) cf_J5_245 st_J6_stringSize_0f7a4 rfl ⟨Nat.le_of_ble_eq_true rfl, Nat.le_of_ble_eq_true rfl⟩ ⟨by show cells + 0 ≤ bc0; omega, by show slots + 0 ≤ bs0; omega⟩ List.perm_append_comm (fun _ : Unit => [] ++ hpW H) (fun _ => List.perm_append_comm) (rest := [.int y1]) rfl (Nat.le_of_ble_eq_true rfl) dJ5_append_c97b9_7 (fun r3 _ h => ?_)
  show Go D E A Q 4 cells slots ([] ++ hpW H) [(2, .int y1), (0, .ref p), (1, .int p0)] 10 [.int r3, .int y1]
  refine q_iadd C dJ5_append_c97b9_10 ?_
  refine q_istore_n C [(3, .int (y1 + r3)), (2, .int y1), (0, .ref p), (1, .int p0)] dJ5_append_c97b9_11 (by decide) rfl ?_
  refine q_aload_n C dJ5_append_c97b9_12 2 rfl ?_
  refine q_iload_n C dJ5_append_c97b9_13 0 rfl ?_
  obtain ⟨⟨fs9, hr9⟩, h⟩ := h
  obtain ⟨c4, s4, hc4, hs4, h⟩ := h
  refine p_callUV C (fun _ h => h) [] (chJ5_ensureCapacityInternal_d00df_ok _ h) (n := 1) gu_J5_100 rfl (by decide +kernel) (hRv_h (q := (RJ4, TJ4, 4)) hr9 rfl) rfl ⟨Nat.le_of_ble_eq_true rfl, Nat.le_of_ble_eq_true rfl⟩ ⟨by show cells + c4 ≤ bc0; omega, by show slots + s4 ≤ bs0; omega⟩ List.perm_append_comm (fun H4 : gH => [] ++ hpW H4) (fun _ => List.perm_append_comm) (rest := []) rfl (Nat.le_of_ble_eq_true rfl) dJ5_append_c97b9_14 (fun H4 h => ?_)
  show Go D E A Q 4 (cells + c4) (slots + s4) ([] ++ hpW H4) [(3, .int (y1 + r3)), (2, .int y1), (0, .ref p), (1, .int p0)] 17 []
  refine q_aload_n C dJ5_append_c97b9_17 2 rfl ?_
  obtain ⟨⟨fs9, hr9⟩, h⟩ := h
  refine p_callUI C (fun _ h => h) [] (chJ5_isLatin1_aae02_ok _ h) (n := 0) gu_J5_83 rfl (by decide +kernel) (hRv_h (q := (RJ4, TJ4, 4)) hr9 rfl) rfl ⟨Nat.le_of_ble_eq_true rfl, Nat.le_of_ble_eq_true rfl⟩ ⟨by show cells + c4 + 0 ≤ bc0; omega, by show slots + s4 + 0 ≤ bs0; omega⟩ List.perm_append_comm (fun _ : Unit => [] ++ hpW H4) (fun _ => List.perm_append_comm) (rest := []) rfl (Nat.le_of_ble_eq_true rfl) dJ5_append_c97b9_18 (fun r5 _ h => ?_)
  show Go D E A Q 4 (cells + c4) (slots + s4) ([] ++ hpW H4) [(3, .int (y1 + r3)), (2, .int y1), (0, .ref p), (1, .int p0)] 21 [.int r5]
  refine q_if_eq C 37 dJ5_append_c97b9_21 (by decide) h (fun h => ?_) (fun h => ?_)
  · refine q_iload_n C dJ5_append_c97b9_37 3 rfl ?_
    refine q_iload_n C dJ5_append_c97b9_38 1 rfl ?_
    refine q_iload_n C dJ5_append_c97b9_39 0 rfl ?_
    refine q_aload_n C dJ5_append_c97b9_40 2 rfl ?_
    obtain ⟨y6, e7, h⟩ := h
    refine h_get C inJ4g (ci := 11) rfl 0 (by decide) fl_J5_15 rfl e7 dJ5_append_c97b9_41 ?_
    exact h.elim
  · refine q_iload_n C dJ5_append_c97b9_24 3 rfl ?_
    refine q_iload_n C dJ5_append_c97b9_25 0 rfl ?_
    refine q_aload_n C dJ5_append_c97b9_26 2 rfl ?_
    obtain ⟨y8, e9, h⟩ := h
    refine h_get C inJ4g (ci := 11) rfl 0 (by decide) fl_J5_15 rfl e9 dJ5_append_c97b9_27 ?_
    refine p_callSI C (fun _ h => h) [] (chJ6_getChars_ba4f3_ok _ h) cf_J5_248 st_J6_getChars_ba4f3 rfl ⟨Nat.le_of_ble_eq_true rfl, Nat.le_of_ble_eq_true rfl⟩ ⟨by show cells + c4 + 0 ≤ bc0; omega, by show slots + s4 + 0 ≤ bs0; omega⟩ List.perm_append_comm (fun H10 : gH => [] ++ hpW H10) (fun _ => List.perm_append_comm) (rest := []) rfl (Nat.le_of_ble_eq_true rfl) dJ5_append_c97b9_30 (fun r10 H10 h => ?_)
    show Go D E A Q 4 (cells + c4) (slots + s4) ([] ++ hpW H10) [(3, .int (y1 + r3)), (2, .int y1), (0, .ref p), (1, .int p0)] 33 [.int r10]
    refine q_pop C dJ5_append_c97b9_33 rfl ?_
    refine q_goto (tgt := 48) C dJ5_append_c97b9_34 (by decide) ?_
    refine q_ls [(0, .ref p), (3, .int (y1 + r3))] [2, 0] rfl ?_
    exact bhJ5_append_c97b9_48 C  hret  (cells + c4) (slots + s4) _ _ _ _ _ (by omega) (by omega) h
theorem chJ5_append_c97b9_ok (l : Launch) {D : gD} {H : gH} {bc : Nat} {bs : Nat} {p : Nat} {p0 : Int32} {K : Nat → gH → Prop} (h : whJ5_append_c97b9 D.2 H bc bs p p0 K) : CtQ l D (gU (zY D.2)) yJ5_append_c97b9 cJ5_append_c97b9 4 (.object "java/lang/AbstractStringBuilder") (rmhJ5_append_c97b9 bc bs) [.ref p, .int p0] ([] ++ hpW H) (fun u : gH => [] ++ hpW u) (fun r u => K r u) :=
  ct_startQ (Or.inl ⟨_, rfl⟩) (by decide +kernel) (Nat.le_of_ble_eq_true rfl) (fun E A Q hE C hret => bhJ5_append_c97b9 C (fun r H pc ls hk hd => hret r H pc ls hk hd) 0 0 _ _ _ _ _ (by omega) (by omega) h)
abbrev rmhJ4_append_bf812 (bc bs : Nat) : Room := { frames := 5, cells := bc, slots := bs, locals := 127 }
def whJ4_append_bf812 (Z : gZ) (H : gH) (bc : Nat) (bs : Nat) (p : Nat) (p0 : Int32) (K : Nat → gH → Prop) : Prop :=
  (∃ fs, hpG H p = some (.inr (11, fs))) ∧ ∃ (c1 s1 : Nat), c1 ≤ bc ∧ s1 ≤ bs ∧ whJ5_append_c97b9 Z H c1 s1 p p0 (fun r1 H1 => K p H1)
set_option maxRecDepth 100000 in
set_option maxHeartbeats 4000000 in
theorem bhJ4_append_bf812 {D : gD} {E : gE} {A : Nat → Prop} {Q : State → Prop} {bc0 bs0 : Nat} (C : CL D E (rmhJ4_append_bf812 bc0 bs0) cJ4_append_bf812 2 RJ4 A) {K : Nat → gH → Prop} (hret : ∀ (r : Nat) (H : gH) (pc : Nat) (ls : List (Nat × Value)), K r H → decode cJ4_append_bf812 pc = .ok (.areturn, 1) → Go D E A Q 2 bc0 bs0 ([] ++ hpW H) ls pc [.ref r]) (cells slots : Nat) (H : gH) (bc : Nat) (bs : Nat) (p : Nat) (p0 : Int32) (hbc : cells + bc ≤ bc0) (hbs : slots + bs ≤ bs0) (h : whJ4_append_bf812 D.2 H bc bs p p0 K) : Go D E A Q 2 cells slots ([] ++ hpW H) [(0, .ref p), (1, .int p0)] 0 [] := by
  unfold whJ4_append_bf812 at h
  refine q_aload_n C dJ4_append_bf812_0 0 rfl ?_
  refine q_iload_n C dJ4_append_bf812_1 1 rfl ?_
  obtain ⟨⟨fs9, hr9⟩, h⟩ := h
  obtain ⟨c1, s1, hc1, hs1, h⟩ := h
  refine p_callSUQ C (fun _ h => h) [] (chJ5_append_c97b9_ok _ h) (C.hK.1 11 (RJ4, TJ4, 4) rfl).2 (n := 1) su_J4_53 (by decide +kernel) (hRv_h (q := (RJ4, TJ4, 4)) hr9 rfl) rfl ⟨Nat.le_of_ble_eq_true rfl, Nat.le_of_ble_eq_true rfl⟩ ⟨by show cells + c1 ≤ bc0; omega, by show slots + s1 ≤ bs0; omega⟩ List.perm_append_comm (fun H1 : gH => [] ++ hpW H1) (fun _ => List.perm_append_comm) (rest := []) rfl (Nat.le_of_ble_eq_true rfl) dJ4_append_bf812_2 (fun r1 H1 h => ?_)
  show Go D E A Q 2 (cells + c1) (slots + s1) ([] ++ hpW H1) [(0, .ref p), (1, .int p0)] 5 [.ref r1]
  refine q_pop C dJ4_append_bf812_5 rfl ?_
  refine q_aload_n C dJ4_append_bf812_6 0 rfl ?_
  refine q_widen (k := bc0) (n := bs0) (by omega) (by omega) ?_
  exact hret p H1 _ _ h dJ4_append_bf812_7
theorem chJ4_append_bf812_ok (l : Launch) {D : gD} {H : gH} {bc : Nat} {bs : Nat} {p : Nat} {p0 : Int32} {K : Nat → gH → Prop} (h : whJ4_append_bf812 D.2 H bc bs p p0 K) : CtQ l D (gU (zY D.2)) yJ4_append_bf812 cJ4_append_bf812 2 (.object "java/lang/StringBuilder") (rmhJ4_append_bf812 bc bs) [.ref p, .int p0] ([] ++ hpW H) (fun u : gH => [] ++ hpW u) (fun r u => K r u) :=
  ct_startQ (Or.inl ⟨_, rfl⟩) (by decide +kernel) (Nat.le_of_ble_eq_true rfl) (fun E A Q hE C hret => bhJ4_append_bf812 C (fun r H pc ls hk hd => hret r H pc ls hk hd) 0 0 _ _ _ _ _ (by omega) (by omega) h)
abbrev rmhJ7_checkLength_df160 : Room := { frames := 0, cells := 0, slots := 0, locals := 0 }
def whJ7_checkLength_df160 (Z : gZ) (H : gH) (p0 : Int32) (p1 : Int32) (K : Prop) : Prop :=
  ((p0 ≤ p1 → K) ∧ (¬ p0 ≤ p1 → False))
set_option maxRecDepth 100000 in
set_option maxHeartbeats 4000000 in
theorem bhJ7_checkLength_df160 {D : gD} {E : gE} {A : Nat → Prop} {Q : State → Prop} {H : gH} (C : CL D E rmhJ7_checkLength_df160 cJ7_checkLength_df160 2 RJ7 A) {K : Prop} (hret : ∀ (pc : Nat) (ls : List (Nat × Value)), K → decode cJ7_checkLength_df160 pc = .ok (.return_, 1) → Go D E A Q 2 0 0 ([] ++ hpW H) ls pc []) (p0 : Int32) (p1 : Int32) (h : whJ7_checkLength_df160 D.2 H p0 p1 K) : Go D E A Q 2 0 0 ([] ++ hpW H) [(0, .int p0), (1, .int p1)] 0 [] := by
  unfold whJ7_checkLength_df160 at h
  refine q_iload_n C dJ7_checkLength_df160_0 1 rfl ?_
  refine q_iload_n C dJ7_checkLength_df160_1 0 rfl ?_
  refine q_icmp_ge C 37 dJ7_checkLength_df160_2 (by decide) h (fun h => ?_) (fun h => ?_)
  · exact hret _ _ h dJ7_checkLength_df160_37
  · exact h.elim
theorem chJ7_checkLength_df160_ok (l : Launch) {D : gD} {H : gH} {p0 : Int32} {p1 : Int32} {K : Prop} (h : whJ7_checkLength_df160 D.2 H p0 p1 K) : CtV l D (gU (zY D.2)) yJ7_checkLength_df160 cJ7_checkLength_df160 2 rmhJ7_checkLength_df160 [.int p0, .int p1] ([] ++ hpW H) (fun _ : Unit => [] ++ hpW H) (fun _ => K) :=
  ct_startV (by decide +kernel) (Nat.le_of_ble_eq_true rfl) (fun E A Q hE C hret => bhJ7_checkLength_df160 C (fun pc ls hk hd => hret () pc ls hk hd) _ _ h)
abbrev rmhJ7_copyOfRangeByte_39247 (bc bs : Nat) : Room := { frames := 1, cells := bc, slots := bs, locals := 60 }
def whJ7_copyOfRangeByte_39247 (Z : gZ) (H : gH) (bc : Nat) (bs : Nat) (p0 : Nat) (p1 : Int32) (p2 : Int32) (K : Nat → gH → Prop) : Prop :=
  whJ7_checkLength_df160 Z H p1 p2 (¬ (p2 - p1) < 0 ∧ (p2 - p1).toNatClampNeg * 1 ≤ 536870912 ∧ 1 ≤ bc ∧ (p2 - p1).toNatClampNeg ≤ bs ∧ (∀ q2 : Nat, hpG H q2 = none → (∃ (n4 : Nat) (f5 : Nat → Int32), bA Z (hpN H q2 (iE (zY Z 0) (p2 - p1).toNatClampNeg (fun _ => 0))) p0 n4 f5 ∧ (∃ (n6 : Nat) (f6 : Nat → Int32) (m6 : Nat) (g6 : Nat → Int32), bA Z (hpN H q2 (iE (zY Z 0) (p2 - p1).toNatClampNeg (fun _ => 0))) p0 n6 f6 ∧ hpG (hpN H q2 (iE (zY Z 0) (p2 - p1).toNatClampNeg (fun _ => 0))) q2 = some (iE (zY Z 0) m6 g6) ∧ ¬ p1 < 0 ∧ ¬ (0 : Int32) < 0 ∧ ¬ (g_min ((nI n4) - p1) (p2 - p1)) < 0 ∧ p1.toNatClampNeg + (g_min ((nI n4) - p1) (p2 - p1)).toNatClampNeg ≤ n6 ∧ (0 : Int32).toNatClampNeg + (g_min ((nI n4) - p1) (p2 - p1)).toNatClampNeg ≤ m6 ∧ (∀ i, i < (g_min ((nI n4) - p1) (p2 - p1)).toNatClampNeg → fits .byte (.int (f6 (p1.toNatClampNeg + i))) = true) ∧ (K q2 (hpS (hpN H q2 (iE (zY Z 0) (p2 - p1).toNatClampNeg (fun _ => 0))) q2 (iE (zY Z 0) m6 (va_cpy f6 g6 p1.toNatClampNeg (0 : Int32).toNatClampNeg (g_min ((nI n4) - p1) (p2 - p1)).toNatClampNeg))))))))
set_option maxRecDepth 100000 in
set_option maxHeartbeats 4000000 in
theorem bhJ7_copyOfRangeByte_39247 {D : gD} {E : gE} {A : Nat → Prop} {Q : State → Prop} {bc0 bs0 : Nat} (C : CL D E (rmhJ7_copyOfRangeByte_39247 bc0 bs0) cJ7_copyOfRangeByte_39247 5 RJ7 A) {K : Nat → gH → Prop} (hret : ∀ (r : Nat) (H : gH) (pc : Nat) (ls : List (Nat × Value)), K r H → decode cJ7_copyOfRangeByte_39247 pc = .ok (.areturn, 1) → Go D E A Q 5 bc0 bs0 ([] ++ hpW H) ls pc [.ref r]) (cells slots : Nat) (H : gH) (bc : Nat) (bs : Nat) (p0 : Nat) (p1 : Int32) (p2 : Int32) (hbc : cells + bc ≤ bc0) (hbs : slots + bs ≤ bs0) (h : whJ7_copyOfRangeByte_39247 D.2 H bc bs p0 p1 p2 K) : Go D E A Q 5 cells slots ([] ++ hpW H) [(0, .ref p0), (1, .int p1), (2, .int p2)] 0 [] := by
  unfold whJ7_copyOfRangeByte_39247 at h
  refine q_iload_n C dJ7_copyOfRangeByte_39247_0 1 rfl ?_
  refine q_iload_n C dJ7_copyOfRangeByte_39247_1 2 rfl ?_
  refine p_callSV C (fun _ h => h) [] (chJ7_checkLength_df160_ok _ h) cf_J7_343 st_J7_checkLength_df160 rfl ⟨Nat.le_of_ble_eq_true rfl, Nat.le_of_ble_eq_true rfl⟩ ⟨by show cells + 0 ≤ bc0; omega, by show slots + 0 ≤ bs0; omega⟩ List.perm_append_comm (fun _ : Unit => [] ++ hpW H) (fun _ => List.perm_append_comm) (rest := []) rfl (Nat.le_of_ble_eq_true rfl) dJ7_copyOfRangeByte_39247_2 (fun _ h => ?_)
  show Go D E A Q 5 cells slots ([] ++ hpW H) [(0, .ref p0), (1, .int p1), (2, .int p2)] 5 []
  refine q_iload_n C dJ7_copyOfRangeByte_39247_5 2 rfl ?_
  refine q_iload_n C dJ7_copyOfRangeByte_39247_6 1 rfl ?_
  refine q_isub C dJ7_copyOfRangeByte_39247_7 ?_
  refine q_istore_n C [(3, .int (p2 - p1)), (0, .ref p0), (1, .int p1), (2, .int p2)] dJ7_copyOfRangeByte_39247_8 (by decide) rfl ?_
  refine q_iload_n C dJ7_copyOfRangeByte_39247_9 0 rfl ?_
  obtain ⟨b3, b4, b1, b2, h⟩ := h
  refine h_newB C dJ7_copyOfRangeByte_39247_10 b3 b4 ⟨by show cells + 1 ≤ bc0; omega, by show slots + (p2 - p1).toNatClampNeg ≤ bs0; omega⟩ (fun q2 g3 => ?_)
  replace h := h q2 g3
  refine q_astore C [(4, .ref q2), (3, .int (p2 - p1)), (0, .ref p0), (1, .int p1), (2, .int p2)] dJ7_copyOfRangeByte_39247_12 (by decide) rfl ?_
  refine q_aload_n C dJ7_copyOfRangeByte_39247_14 2 rfl ?_
  refine q_iload_n C dJ7_copyOfRangeByte_39247_15 3 rfl ?_
  refine q_aload C dJ7_copyOfRangeByte_39247_16 0 rfl ?_
  refine q_iconst C (v := 0) dJ7_copyOfRangeByte_39247_18 (by decide) ?_
  refine q_aload_n C dJ7_copyOfRangeByte_39247_19 2 rfl ?_
  obtain ⟨n4, f5, e6, h⟩ := h
  refine h_blen C e6 dJ7_copyOfRangeByte_39247_20 ?_
  refine q_iload_n C dJ7_copyOfRangeByte_39247_21 3 rfl ?_
  refine q_isub C dJ7_copyOfRangeByte_39247_22 ?_
  refine q_iload_n C dJ7_copyOfRangeByte_39247_23 1 rfl ?_
  refine q_mmin C ml_J7_304 dJ7_copyOfRangeByte_39247_24 ⟨Nat.le_of_ble_eq_true rfl, Nat.le_of_ble_eq_true rfl, by show cells + 1 ≤ bc0; omega, by show slots + (p2 - p1).toNatClampNeg ≤ bs0; omega⟩ ?_
  obtain ⟨n6, f6, m6, g6, e1, e2, b1, b2, b3, b4, b5, b6, h⟩ := h
  refine h_copy C ml_J7_150 e1 e2 b1 b2 b3 b4 b5 b6 ⟨Nat.le_of_ble_eq_true rfl, acopy_room⟩ dJ7_copyOfRangeByte_39247_27 ?_
  refine q_aload C dJ7_copyOfRangeByte_39247_30 0 rfl ?_
  refine q_widen (k := bc0) (n := bs0) (by omega) (by omega) ?_
  exact hret q2 (hpS (hpN H q2 (iE (zY D.2 0) (p2 - p1).toNatClampNeg (fun _ => 0))) q2 (iE (zY D.2 0) m6 (va_cpy f6 g6 p1.toNatClampNeg (0 : Int32).toNatClampNeg (g_min ((nI n4) - p1) (p2 - p1)).toNatClampNeg))) _ _ h dJ7_copyOfRangeByte_39247_32
theorem chJ7_copyOfRangeByte_39247_ok (l : Launch) {D : gD} {H : gH} {bc : Nat} {bs : Nat} {p0 : Nat} {p1 : Int32} {p2 : Int32} {K : Nat → gH → Prop} (h : whJ7_copyOfRangeByte_39247 D.2 H bc bs p0 p1 p2 K) : CtQ l D (gU (zY D.2)) yJ7_copyOfRangeByte_39247 cJ7_copyOfRangeByte_39247 5 (.array .byte) (rmhJ7_copyOfRangeByte_39247 bc bs) [.ref p0, .int p1, .int p2] ([] ++ hpW H) (fun u : gH => [] ++ hpW u) (fun r u => K r u) :=
  ct_startQ (Or.inr ⟨_, rfl⟩) (by decide +kernel) (Nat.le_of_ble_eq_true rfl) (fun E A Q hE C hret => bhJ7_copyOfRangeByte_39247 C (fun r H pc ls hk hd => hret r H pc ls hk hd) 0 0 _ _ _ _ _ _ (by omega) (by omega) h)
abbrev rmhJ7_copyOfRange_39247 (bc bs : Nat) : Room := { frames := 2, cells := bc, slots := bs, locals := 84 }
def whJ7_copyOfRange_39247_10 (K : Nat → gH → Prop) (Z : gZ) (H : gH) (bc : Nat) (bs : Nat) (x0 : Nat) (x1 : Int32) (x2 : Int32) : Prop :=
  ∃ (c1 s1 : Nat), c1 ≤ bc ∧ s1 ≤ bs ∧ whJ7_copyOfRangeByte_39247 Z H c1 s1 x0 x1 x2 (fun r1 H1 => K r1 H1)
set_option maxRecDepth 100000 in
set_option maxHeartbeats 4000000 in
theorem bhJ7_copyOfRange_39247_10 {D : gD} {E : gE} {A : Nat → Prop} {Q : State → Prop} {bc0 bs0 : Nat} (C : CL D E (rmhJ7_copyOfRange_39247 bc0 bs0) cJ7_copyOfRange_39247 3 RJ7 A) {K : Nat → gH → Prop} (hret : ∀ (r : Nat) (H : gH) (pc : Nat) (ls : List (Nat × Value)), K r H → decode cJ7_copyOfRange_39247 pc = .ok (.areturn, 1) → Go D E A Q 3 bc0 bs0 ([] ++ hpW H) ls pc [.ref r]) : ∀ (cells slots : Nat) (H : gH) (bc : Nat) (bs : Nat) (x0 : Nat) (x1 : Int32) (x2 : Int32), cells + bc ≤ bc0 → slots + bs ≤ bs0 → whJ7_copyOfRange_39247_10 K D.2 H bc bs x0 x1 x2 → Go D E A Q 3 cells slots ([] ++ hpW H) [(0, .ref x0), (1, .int x1), (2, .int x2)] 10 [] := by
  intro cells slots H bc bs x0 x1 x2 hbc hbs h
  unfold whJ7_copyOfRange_39247_10 at h
  refine q_aload_n C dJ7_copyOfRange_39247_10 0 rfl ?_
  refine q_iload_n C dJ7_copyOfRange_39247_11 1 rfl ?_
  refine q_iload_n C dJ7_copyOfRange_39247_12 2 rfl ?_
  obtain ⟨c1, s1, hc1, hs1, h⟩ := h
  refine p_callSQ C (fun _ h => h) [] (chJ7_copyOfRangeByte_39247_ok _ h) cf_J7_339 st_J7_copyOfRangeByte_39247 rfl ⟨Nat.le_of_ble_eq_true rfl, Nat.le_of_ble_eq_true rfl⟩ ⟨by show cells + c1 ≤ bc0; omega, by show slots + s1 ≤ bs0; omega⟩ List.perm_append_comm (fun H1 : gH => [] ++ hpW H1) (fun _ => List.perm_append_comm) (rest := []) rfl (Nat.le_of_ble_eq_true rfl) dJ7_copyOfRange_39247_13 (fun r1 H1 h => ?_)
  show Go D E A Q 3 (cells + c1) (slots + s1) ([] ++ hpW H1) [(0, .ref x0), (1, .int x1), (2, .int x2)] 16 [.ref r1]
  refine q_widen (k := bc0) (n := bs0) (by omega) (by omega) ?_
  exact hret r1 H1 _ _ h dJ7_copyOfRange_39247_16
def whJ7_copyOfRange_39247 (Z : gZ) (H : gH) (bc : Nat) (bs : Nat) (p0 : Nat) (p1 : Int32) (p2 : Int32) (K : Nat → gH → Prop) : Prop :=
  ((¬ p1 = 0 → whJ7_copyOfRange_39247_10 K Z H bc bs p0 p1 p2) ∧ (p1 = 0 → ∃ (n1 : Nat) (f2 : Nat → Int32), bA Z H p0 n1 f2 ∧ (((p2 = nI n1 → ∃ (n4 : Nat) (f4 : Nat → Int32), hpG H p0 = some (iE (zY Z 0) n4 f4) ∧ (∀ i, i < n4 → fits .byte (.int (f4 i)) = true) ∧ 1 ≤ bc ∧ n4 ≤ bs ∧ (∀ q4 : Nat, hpG H q4 = none → (K q4 (hpN H q4 (iE (zY Z 0) n4 f4))))) ∧ (¬ p2 = nI n1 → whJ7_copyOfRange_39247_10 K Z H bc bs p0 p1 p2)))))
set_option maxRecDepth 100000 in
set_option maxHeartbeats 4000000 in
theorem bhJ7_copyOfRange_39247 {D : gD} {E : gE} {A : Nat → Prop} {Q : State → Prop} {bc0 bs0 : Nat} (C : CL D E (rmhJ7_copyOfRange_39247 bc0 bs0) cJ7_copyOfRange_39247 3 RJ7 A) {K : Nat → gH → Prop} (hret : ∀ (r : Nat) (H : gH) (pc : Nat) (ls : List (Nat × Value)), K r H → decode cJ7_copyOfRange_39247 pc = .ok (.areturn, 1) → Go D E A Q 3 bc0 bs0 ([] ++ hpW H) ls pc [.ref r]) (cells slots : Nat) (H : gH) (bc : Nat) (bs : Nat) (p0 : Nat) (p1 : Int32) (p2 : Int32) (hbc : cells + bc ≤ bc0) (hbs : slots + bs ≤ bs0) (h : whJ7_copyOfRange_39247 D.2 H bc bs p0 p1 p2 K) : Go D E A Q 3 cells slots ([] ++ hpW H) [(0, .ref p0), (1, .int p1), (2, .int p2)] 0 [] := by
  unfold whJ7_copyOfRange_39247 at h
  refine q_iload_n C dJ7_copyOfRange_39247_0 1 rfl ?_
  refine q_if_ne C 10 dJ7_copyOfRange_39247_1 (by decide) h (fun h => ?_) (fun h => ?_)
  · exact bhJ7_copyOfRange_39247_10 C  hret  cells slots _ _ _ _ _ _ (by omega) (by omega) h
  · refine q_iload_n C dJ7_copyOfRange_39247_4 2 rfl ?_
    refine q_aload_n C dJ7_copyOfRange_39247_5 0 rfl ?_
    obtain ⟨n1, f2, e3, h⟩ := h
    refine h_blen C e3 dJ7_copyOfRange_39247_6 ?_
    refine q_icmp_eq C 17 dJ7_copyOfRange_39247_7 (by decide) h (fun h => ?_) (fun h => ?_)
    · refine q_aload_n C dJ7_copyOfRange_39247_17 0 rfl ?_
      obtain ⟨n4, f4, e1, e2, b1, b2, h⟩ := h
      refine h_clone C kl_J7_310 kc_J7_311 e1 e2 ⟨Nat.le_of_ble_eq_true rfl, Nat.le_of_ble_eq_true rfl⟩ dJ7_copyOfRange_39247_18 dJ7_copyOfRange_39247_21 ⟨by show cells + 1 ≤ bc0; omega, by show slots + n4 ≤ bs0; omega⟩ (fun q4 g4 => ?_)
      replace h := h q4 g4
      refine q_widen (k := bc0) (n := bs0) (by omega) (by omega) ?_
      exact hret q4 (hpN H q4 (iE (zY D.2 0) n4 f4)) _ _ h dJ7_copyOfRange_39247_24
    · exact bhJ7_copyOfRange_39247_10 C  hret  cells slots _ _ _ _ _ _ (by omega) (by omega) h
theorem chJ7_copyOfRange_39247_ok (l : Launch) {D : gD} {H : gH} {bc : Nat} {bs : Nat} {p0 : Nat} {p1 : Int32} {p2 : Int32} {K : Nat → gH → Prop} (h : whJ7_copyOfRange_39247 D.2 H bc bs p0 p1 p2 K) : CtQ l D (gU (zY D.2)) yJ7_copyOfRange_39247 cJ7_copyOfRange_39247 3 (.array .byte) (rmhJ7_copyOfRange_39247 bc bs) [.ref p0, .int p1, .int p2] ([] ++ hpW H) (fun u : gH => [] ++ hpW u) (fun r u => K r u) :=
  ct_startQ (Or.inr ⟨_, rfl⟩) (by decide +kernel) (Nat.le_of_ble_eq_true rfl) (fun E A Q hE C hret => bhJ7_copyOfRange_39247 C (fun r H pc ls hk hd => hret r H pc ls hk hd) 0 0 _ _ _ _ _ _ (by omega) (by omega) h)
abbrev rmhJ0_init_db425 (bc bs : Nat) : Room := { frames := 3, cells := bc, slots := bs, locals := 106 }
def whJ0_init_db425_79 (K : gH → Prop) (Z : gZ) (H : gH) (bc : Nat) (bs : Nat) (x0 : Nat) (x3 : Nat) (x4 : Int32) : Prop :=
  ∃ f1 : List Value, hpG H x0 = some (.inr (10, f1)) ∧ 1 < f1.length ∧ (∃ (c4 s4 : Nat), c4 ≤ bc ∧ s4 ≤ bs ∧ whJ7_copyOfRange_39247 Z (hpS H x0 (.inr (10, f1.set 1 (.int 1)))) c4 s4 x3 0 (x4 <<< (1 &&& 31)) (fun r4 H4 => ∃ f5 : List Value, hpG H4 x0 = some (.inr (10, f5)) ∧ 0 < f5.length ∧ (K (hpS H4 x0 (.inr (10, f5.set 0 (.ref r4)))))))
set_option maxRecDepth 100000 in
set_option maxHeartbeats 4000000 in
theorem bhJ0_init_db425_79 {D : gD} {E : gE} {A : Nat → Prop} {Q : State → Prop} {bc0 bs0 : Nat} (C : CL D E (rmhJ0_init_db425 bc0 bs0) cJ0_init_db425 5 RJ0 A) (hin : E.2.2.2.2.2.2.2.2.1.name = "<init>") {K : gH → Prop} (hret : ∀ (H : gH) (pc : Nat) (ls : List (Nat × Value)), K H → decode cJ0_init_db425 pc = .ok (.return_, 1) → Go D E A Q 5 bc0 bs0 ([] ++ hpW H) ls pc []) : ∀ (cells slots : Nat) (H : gH) (bc : Nat) (bs : Nat) (x0 : Nat) (x3 : Nat) (x4 : Int32), cells + bc ≤ bc0 → slots + bs ≤ bs0 → whJ0_init_db425_79 K D.2 H bc bs x0 x3 x4 → Go D E A Q 5 cells slots ([] ++ hpW H) [(0, .ref x0), (3, .ref x3), (4, .int x4)] 79 [] := by
  intro cells slots H bc bs x0 x3 x4 hbc hbs h
  unfold whJ0_init_db425_79 at h
  refine q_aload_n C dJ0_init_db425_79 0 rfl ?_
  refine q_iconst C (v := 1) dJ0_init_db425_80 (by decide) ?_
  obtain ⟨f1, e2, l3, h⟩ := h
  refine h_putF C inJ0g tyJ0_ok nmJ0 (ci := 10) rfl 1 (by decide) fl_J0_15 rfl rfl hin rfl (ty := .byte) (by decide +kernel) e2 l3 rfl rfl dJ0_init_db425_81 ?_
  refine q_aload_n C dJ0_init_db425_84 0 rfl ?_
  refine q_aload_n C dJ0_init_db425_85 1 rfl ?_
  refine q_iconst C (v := 0) dJ0_init_db425_86 (by decide) ?_
  refine q_iload C dJ0_init_db425_87 2 rfl ?_
  refine q_iconst C (v := 1) dJ0_init_db425_89 (by decide) ?_
  refine q_ishl C dJ0_init_db425_90 ?_
  obtain ⟨c4, s4, hc4, hs4, h⟩ := h
  refine p_callSQ C (fun _ h => h) [] (chJ7_copyOfRange_39247_ok _ h) cf_J0_54 st_J7_copyOfRange_39247 rfl ⟨Nat.le_of_ble_eq_true rfl, Nat.le_of_ble_eq_true rfl⟩ ⟨by show cells + c4 ≤ bc0; omega, by show slots + s4 ≤ bs0; omega⟩ List.perm_append_comm (fun H4 : gH => [] ++ hpW H4) (fun _ => List.perm_append_comm) (rest := [.ref x0]) rfl (Nat.le_of_ble_eq_true rfl) dJ0_init_db425_91 (fun r4 H4 h => ?_)
  show Go D E A Q 5 (cells + c4) (slots + s4) ([] ++ hpW H4) [(0, .ref x0), (3, .ref x3), (4, .int x4)] 94 [.ref r4, .ref x0]
  obtain ⟨f5, e6, l7, h⟩ := h
  refine h_putF C inJ0g tyJ0_ok nmJ0 (ci := 10) rfl 0 (by decide) fl_J0_9 rfl rfl hin rfl (ty := (.array .byte)) (by decide +kernel) e6 l7 rfl rfl dJ0_init_db425_94 ?_
  refine q_widen (k := bc0) (n := bs0) (by omega) (by omega) ?_
  exact hret (hpS H4 x0 (.inr (10, f5.set 0 (.ref r4)))) _ _ h dJ0_init_db425_97
def whJ0_init_db425 (Z : gZ) (H : gH) (bc : Nat) (bs : Nat) (p : Nat) (p0 : Nat) (K : gH → Prop) : Prop :=
  (∃ fs, hpG H p0 = some (.inr (11, fs))) ∧ whJ5_getValue_6d5f1 Z H p0 (fun r1 => (∃ fs, hpG H p0 = some (.inr (11, fs))) ∧ whJ4_length_8abf5 Z H p0 (fun r2 => (∃ fs, hpG H p0 = some (.inr (11, fs))) ∧ whJ5_isLatin1_aae02 Z H p0 (fun r3 => ((r3 = 0 → (((1 : Int32) = 0 → whJ0_init_db425_79 K Z H bc bs p r1 r2) ∧ (¬ (1 : Int32) = 0 → ∃ y4 : Int32, gF H p0 11 2 (.int y4) ∧ (((y4 = 0 → whJ0_init_db425_79 K Z H bc bs p r1 r2) ∧ (¬ y4 = 0 → False)))))) ∧ (¬ r3 = 0 → ∃ f6 : List Value, hpG H p = some (.inr (10, f6)) ∧ 1 < f6.length ∧ (∃ (c9 s9 : Nat), c9 ≤ bc ∧ s9 ≤ bs ∧ whJ7_copyOfRange_39247 Z (hpS H p (.inr (10, f6.set 1 (.int 0)))) c9 s9 r1 0 r2 (fun r9 H9 => ∃ f10 : List Value, hpG H9 p = some (.inr (10, f10)) ∧ 0 < f10.length ∧ (K (hpS H9 p (.inr (10, f10.set 0 (.ref r9))))))))))))
set_option maxRecDepth 100000 in
set_option maxHeartbeats 4000000 in
theorem bhJ0_init_db425 {D : gD} {E : gE} {A : Nat → Prop} {Q : State → Prop} {bc0 bs0 : Nat} (C : CL D E (rmhJ0_init_db425 bc0 bs0) cJ0_init_db425 5 RJ0 A) (hin : E.2.2.2.2.2.2.2.2.1.name = "<init>") {K : gH → Prop} (hret : ∀ (H : gH) (pc : Nat) (ls : List (Nat × Value)), K H → decode cJ0_init_db425 pc = .ok (.return_, 1) → Go D E A Q 5 bc0 bs0 ([] ++ hpW H) ls pc []) (cells slots : Nat) (H : gH) (bc : Nat) (bs : Nat) (p : Nat) (p0 : Nat) (hbc : cells + bc ≤ bc0) (hbs : slots + bs ≤ bs0) (h : whJ0_init_db425 D.2 H bc bs p p0 K) : Go D E A Q 5 cells slots ([] ++ hpW H) [(0, .ref p), (1, .ref p0), (2, va_rf none)] 0 [] := by
  unfold whJ0_init_db425 at h
  refine q_aload_n C dJ0_init_db425_0 0 rfl ?_
  refine q_objInit C oi_J0_1 dJ0_init_db425_1 ⟨Nat.le_of_ble_eq_true rfl, Nat.le_of_ble_eq_true rfl⟩ (Nat.le_of_ble_eq_true rfl) ?_
  refine q_aload_n C dJ0_init_db425_4 1 rfl ?_
  obtain ⟨⟨fs9, hr9⟩, h⟩ := h
  refine p_callUQ C (fun _ h => h) [] (chJ5_getValue_6d5f1_ok _ h) (n := 0) gu_J0_552 rfl (by decide +kernel) (hRv_h (q := (RJ4, TJ4, 4)) hr9 rfl) rfl ⟨Nat.le_of_ble_eq_true rfl, Nat.le_of_ble_eq_true rfl⟩ ⟨by show cells + 0 ≤ bc0; omega, by show slots + 0 ≤ bs0; omega⟩ List.perm_append_comm (fun _ : Unit => [] ++ hpW H) (fun _ => List.perm_append_comm) (rest := []) rfl (Nat.le_of_ble_eq_true rfl) dJ0_init_db425_5 (fun r1 _ h => ?_)
  show Go D E A Q 5 cells slots ([] ++ hpW H) [(0, .ref p), (1, .ref p0), (2, va_rf none)] 8 [.ref r1]
  refine q_astore_n C [(3, .ref r1), (0, .ref p), (1, .ref p0), (2, va_rf none)] dJ0_init_db425_8 (by decide) rfl ?_
  refine q_aload_n C dJ0_init_db425_9 2 rfl ?_
  obtain ⟨⟨fs9, hr9⟩, h⟩ := h
  refine p_callOI C (fun _ h => h) [] (chJ4_length_8abf5_ok _ h) (n := 0) gu_J0_549 cd_J5_length_8abf5 (by decide +kernel) (hRv_h (q := (RJ4, TJ4, 4)) hr9 rfl) rfl ⟨Nat.le_of_ble_eq_true rfl, Nat.le_of_ble_eq_true rfl⟩ ⟨by show cells + 0 ≤ bc0; omega, by show slots + 0 ≤ bs0; omega⟩ List.perm_append_comm (fun _ : Unit => [] ++ hpW H) (fun _ => List.perm_append_comm) (rest := []) rfl (Nat.le_of_ble_eq_true rfl) dJ0_init_db425_10 (fun r2 _ h => ?_)
  show Go D E A Q 5 cells slots ([] ++ hpW H) [(3, .ref r1), (0, .ref p), (1, .ref p0), (2, va_rf none)] 13 [.int r2]
  refine q_istore C [(4, .int r2), (3, .ref r1), (0, .ref p), (1, .ref p0), (2, va_rf none)] dJ0_init_db425_13 (by decide) rfl ?_
  refine q_aload_n C dJ0_init_db425_15 3 rfl ?_
  obtain ⟨⟨fs9, hr9⟩, h⟩ := h
  refine p_callUI C (fun _ h => h) [] (chJ5_isLatin1_aae02_ok _ h) (n := 0) gu_J0_1047 rfl (by decide +kernel) (hRv_h (q := (RJ4, TJ4, 4)) hr9 rfl) rfl ⟨Nat.le_of_ble_eq_true rfl, Nat.le_of_ble_eq_true rfl⟩ ⟨by show cells + 0 ≤ bc0; omega, by show slots + 0 ≤ bs0; omega⟩ List.perm_append_comm (fun _ : Unit => [] ++ hpW H) (fun _ => List.perm_append_comm) (rest := []) rfl (Nat.le_of_ble_eq_true rfl) dJ0_init_db425_16 (fun r3 _ h => ?_)
  show Go D E A Q 5 cells slots ([] ++ hpW H) [(4, .int r2), (3, .ref r1), (0, .ref p), (1, .ref p0), (2, va_rf none)] 19 [.int r3]
  refine q_if_eq C 41 dJ0_init_db425_19 (by decide) h (fun h => ?_) (fun h => ?_)
  · refine q_getC C fl_J0_38 dJ0_init_db425_41 ?_
    refine q_if_eq C 79 dJ0_init_db425_44 (by decide) h (fun h => ?_) (fun h => ?_)
    · refine q_ls [(0, .ref p), (3, .ref r1), (4, .int r2)] [2, 1, 0] rfl ?_
      exact bhJ0_init_db425_79 C hin  hret  cells slots _ _ _ _ _ _ (by omega) (by omega) h
    · refine q_aload_n C dJ0_init_db425_47 3 rfl ?_
      obtain ⟨y4, e5, h⟩ := h
      refine h_get C inJ4g (ci := 11) rfl 2 (by decide) fl_J0_1048 rfl e5 dJ0_init_db425_48 ?_
      refine q_if_eq C 79 dJ0_init_db425_51 (by decide) h (fun h => ?_) (fun h => ?_)
      · refine q_ls [(0, .ref p), (3, .ref r1), (4, .int r2)] [2, 1, 0] rfl ?_
        exact bhJ0_init_db425_79 C hin  hret  cells slots _ _ _ _ _ _ (by omega) (by omega) h
      · refine q_aload_n C dJ0_init_db425_54 2 rfl ?_
        refine q_aload_n C dJ0_init_db425_55 1 rfl ?_
        refine q_iconst C (v := 0) dJ0_init_db425_56 (by decide) ?_
        refine q_iload C dJ0_init_db425_57 0 rfl ?_
        exact h.elim
  · refine q_aload_n C dJ0_init_db425_22 2 rfl ?_
    refine q_iconst C (v := 0) dJ0_init_db425_23 (by decide) ?_
    obtain ⟨f6, e7, l8, h⟩ := h
    refine h_putF C inJ0g tyJ0_ok nmJ0 (ci := 10) rfl 1 (by decide) fl_J0_15 rfl rfl hin rfl (ty := .byte) (by decide +kernel) e7 l8 rfl rfl dJ0_init_db425_24 ?_
    refine q_aload_n C dJ0_init_db425_27 2 rfl ?_
    refine q_aload_n C dJ0_init_db425_28 1 rfl ?_
    refine q_iconst C (v := 0) dJ0_init_db425_29 (by decide) ?_
    refine q_iload C dJ0_init_db425_30 0 rfl ?_
    obtain ⟨c9, s9, hc9, hs9, h⟩ := h
    refine p_callSQ C (fun _ h => h) [] (chJ7_copyOfRange_39247_ok _ h) cf_J0_54 st_J7_copyOfRange_39247 rfl ⟨Nat.le_of_ble_eq_true rfl, Nat.le_of_ble_eq_true rfl⟩ ⟨by show cells + c9 ≤ bc0; omega, by show slots + s9 ≤ bs0; omega⟩ List.perm_append_comm (fun H9 : gH => [] ++ hpW H9) (fun _ => List.perm_append_comm) (rest := [.ref p]) rfl (Nat.le_of_ble_eq_true rfl) dJ0_init_db425_32 (fun r9 H9 h => ?_)
    show Go D E A Q 5 (cells + c9) (slots + s9) ([] ++ hpW H9) [(4, .int r2), (3, .ref r1), (0, .ref p), (1, .ref p0), (2, va_rf none)] 35 [.ref r9, .ref p]
    obtain ⟨f10, e11, l12, h⟩ := h
    refine h_putF C inJ0g tyJ0_ok nmJ0 (ci := 10) rfl 0 (by decide) fl_J0_9 rfl rfl hin rfl (ty := (.array .byte)) (by decide +kernel) e11 l12 rfl rfl dJ0_init_db425_35 ?_
    refine q_goto (tgt := 97) C dJ0_init_db425_38 (by decide) ?_
    refine q_widen (k := bc0) (n := bs0) (by omega) (by omega) ?_
    exact hret (hpS H9 p (.inr (10, f10.set 0 (.ref r9)))) _ _ h dJ0_init_db425_97
theorem chJ0_init_db425_ok (l : Launch) {D : gD} {H : gH} {bc : Nat} {bs : Nat} {p : Nat} {p0 : Nat} {K : gH → Prop} (h : whJ0_init_db425 D.2 H bc bs p p0 K) : CtV l D (gU (zY D.2)) yJ0_init_db425 cJ0_init_db425 5 (rmhJ0_init_db425 bc bs) [.ref p, .ref p0, va_rf none] ([] ++ hpW H) (fun u : gH => [] ++ hpW u) (fun u => K u) :=
  ct_startC (by decide +kernel) (Nat.le_of_ble_eq_true rfl) rfl (fun E A Q hE C hin hret => bhJ0_init_db425 C hin (fun H pc ls hk hd => hret H pc ls hk hd) 0 0 _ _ _ _ _ (by omega) (by omega) h)
abbrev rmhJ0_init_81219 (bc bs : Nat) : Room := { frames := 4, cells := bc, slots := bs, locals := 130 }
def whJ0_init_81219 (Z : gZ) (H : gH) (bc : Nat) (bs : Nat) (p : Nat) (p0 : Nat) (K : gH → Prop) : Prop :=
  ∃ (c1 s1 : Nat), c1 ≤ bc ∧ s1 ≤ bs ∧ whJ0_init_db425 Z H c1 s1 p p0 (fun H1 => K H1)
set_option maxRecDepth 100000 in
set_option maxHeartbeats 4000000 in
theorem bhJ0_init_81219 {D : gD} {E : gE} {A : Nat → Prop} {Q : State → Prop} {bc0 bs0 : Nat} (C : CL D E (rmhJ0_init_81219 bc0 bs0) cJ0_init_81219 2 RJ0 A) (hin : E.2.2.2.2.2.2.2.2.1.name = "<init>") {K : gH → Prop} (hret : ∀ (H : gH) (pc : Nat) (ls : List (Nat × Value)), K H → decode cJ0_init_81219 pc = .ok (.return_, 1) → Go D E A Q 2 bc0 bs0 ([] ++ hpW H) ls pc []) (cells slots : Nat) (H : gH) (bc : Nat) (bs : Nat) (p : Nat) (p0 : Nat) (hbc : cells + bc ≤ bc0) (hbs : slots + bs ≤ bs0) (h : whJ0_init_81219 D.2 H bc bs p p0 K) : Go D E A Q 2 cells slots ([] ++ hpW H) [(0, .ref p), (1, .ref p0)] 0 [] := by
  unfold whJ0_init_81219 at h
  refine q_aload_n C dJ0_init_81219_0 0 rfl ?_
  refine q_aload_n C dJ0_init_81219_1 1 rfl ?_
  refine h_null C dJ0_init_81219_2 ?_
  obtain ⟨c1, s1, hc1, hs1, h⟩ := h
  refine p_callIV C (fun _ h => h) [] (chJ0_init_db425_ok _ h) cf_J0_489 im_J0_init_db425 rfl rfl ⟨Nat.le_of_ble_eq_true rfl, Nat.le_of_ble_eq_true rfl⟩ ⟨by show cells + c1 ≤ bc0; omega, by show slots + s1 ≤ bs0; omega⟩ List.perm_append_comm (fun H1 : gH => [] ++ hpW H1) (fun _ => List.perm_append_comm) (rest := []) rfl (Nat.le_of_ble_eq_true rfl) dJ0_init_81219_3 (fun H1 h => ?_)
  show Go D E A Q 2 (cells + c1) (slots + s1) ([] ++ hpW H1) [(0, .ref p), (1, .ref p0)] 6 []
  refine q_widen (k := bc0) (n := bs0) (by omega) (by omega) ?_
  exact hret H1 _ _ h dJ0_init_81219_6
theorem chJ0_init_81219_ok (l : Launch) {D : gD} {H : gH} {bc : Nat} {bs : Nat} {p : Nat} {p0 : Nat} {K : gH → Prop} (h : whJ0_init_81219 D.2 H bc bs p p0 K) : CtV l D (gU (zY D.2)) yJ0_init_81219 cJ0_init_81219 2 (rmhJ0_init_81219 bc bs) [.ref p, .ref p0] ([] ++ hpW H) (fun u : gH => [] ++ hpW u) (fun u => K u) :=
  ct_startC (by decide +kernel) (Nat.le_of_ble_eq_true rfl) rfl (fun E A Q hE C hin hret => bhJ0_init_81219 C hin (fun H pc ls hk hd => hret H pc ls hk hd) 0 0 _ _ _ _ _ (by omega) (by omega) h)
abbrev rmhJ4_toString_0e30d (bc bs : Nat) : Room := { frames := 5, cells := bc, slots := bs, locals := 151 }
def whJ4_toString_0e30d (Z : gZ) (H : gH) (bc : Nat) (bs : Nat) (p : Nat) (K : Nat → gH → Prop) : Prop :=
  1 ≤ bc ∧ 4 ≤ bs ∧ (∀ q1 : Nat, hpG H q1 = none → (∃ (c3 s3 : Nat), c3 ≤ (bc - 1) ∧ s3 ≤ (bs - 4) ∧ whJ0_init_81219 Z (hpN H q1 (.inr (10, [.null, .int 0, .int 0, .int 0]))) c3 s3 q1 p (fun H3 => K q1 H3)))
set_option maxRecDepth 100000 in
set_option maxHeartbeats 4000000 in
theorem bhJ4_toString_0e30d {D : gD} {E : gE} {A : Nat → Prop} {Q : State → Prop} {bc0 bs0 : Nat} (C : CL D E (rmhJ4_toString_0e30d bc0 bs0) cJ4_toString_0e30d 1 RJ4 A) {K : Nat → gH → Prop} (hret : ∀ (r : Nat) (H : gH) (pc : Nat) (ls : List (Nat × Value)), K r H → decode cJ4_toString_0e30d pc = .ok (.areturn, 1) → Go D E A Q 1 bc0 bs0 ([] ++ hpW H) ls pc [.ref r]) (cells slots : Nat) (H : gH) (bc : Nat) (bs : Nat) (p : Nat) (hbc : cells + bc ≤ bc0) (hbs : slots + bs ≤ bs0) (h : whJ4_toString_0e30d D.2 H bc bs p K) : Go D E A Q 1 cells slots ([] ++ hpW H) [(0, .ref p)] 0 [] := by
  unfold whJ4_toString_0e30d at h
  obtain ⟨b1, b2, h⟩ := h
  refine h_new C inJ0g tyJ0_ok cl_J4_18 it_J0 ini_J0 (ci := 10) rfl (fs := [.null, .int 0, .int 0, .int 0]) (by decide) dJ4_toString_0e30d_0 ⟨by show cells + 1 ≤ bc0; omega, by show slots + 4 ≤ bs0; omega⟩ (fun q1 g2 => ?_)
  replace h := h q1 g2
  refine q_dup C dJ4_toString_0e30d_3 rfl ?_
  refine q_aload_n C dJ4_toString_0e30d_4 0 rfl ?_
  obtain ⟨c3, s3, hc3, hs3, h⟩ := h
  refine p_callIV C (fun _ h => h) [] (chJ0_init_81219_ok _ h) cf_J4_137 im_J0_init_81219 rfl rfl ⟨Nat.le_of_ble_eq_true rfl, Nat.le_of_ble_eq_true rfl⟩ ⟨by show cells + 1 + c3 ≤ bc0; omega, by show slots + 4 + s3 ≤ bs0; omega⟩ List.perm_append_comm (fun H3 : gH => [] ++ hpW H3) (fun _ => List.perm_append_comm) (rest := [.ref q1]) rfl (Nat.le_of_ble_eq_true rfl) dJ4_toString_0e30d_5 (fun H3 h => ?_)
  show Go D E A Q 1 (cells + 1 + c3) (slots + 4 + s3) ([] ++ hpW H3) [(0, .ref p)] 8 [.ref q1]
  refine q_widen (k := bc0) (n := bs0) (by omega) (by omega) ?_
  exact hret q1 H3 _ _ h dJ4_toString_0e30d_8
theorem chJ4_toString_0e30d_ok (l : Launch) {D : gD} {H : gH} {bc : Nat} {bs : Nat} {p : Nat} {K : Nat → gH → Prop} (h : whJ4_toString_0e30d D.2 H bc bs p K) : CtQ l D (gU (zY D.2)) yJ4_toString_0e30d cJ4_toString_0e30d 1 (.object "java/lang/String") (rmhJ4_toString_0e30d bc bs) [.ref p] ([] ++ hpW H) (fun u : gH => [] ++ hpW u) (fun r u => K r u) :=
  ct_startQ (Or.inl ⟨_, rfl⟩) (by decide +kernel) (Nat.le_of_ble_eq_true rfl) (fun E A Q hE C hret => bhJ4_toString_0e30d C (fun r H pc ls hk hd => hret r H pc ls hk hd) 0 0 _ _ _ _ (by omega) (by omega) h)
abbrev rmhJ5_init_d00df (bc bs : Nat) : Room := { frames := 1, cells := bc, slots := bs, locals := 20 }
def whJ5_init_d00df (Z : gZ) (H : gH) (bc : Nat) (bs : Nat) (p : Nat) (p0 : Int32) (K : gH → Prop) : Prop :=
  (((1 : Int32) = 0 → False) ∧ (¬ (1 : Int32) = 0 → ¬ p0 < 0 ∧ p0.toNatClampNeg * 1 ≤ 536870912 ∧ 1 ≤ bc ∧ p0.toNatClampNeg ≤ bs ∧ (∀ q1 : Nat, hpG H q1 = none → (∃ f3 : List Value, hpG (hpN H q1 (iE (zY Z 0) p0.toNatClampNeg (fun _ => 0))) p = some (.inr (11, f3)) ∧ 0 < f3.length ∧ (∃ f6 : List Value, hpG (hpS (hpN H q1 (iE (zY Z 0) p0.toNatClampNeg (fun _ => 0))) p (.inr (11, f3.set 0 (.ref q1)))) p = some (.inr (11, f6)) ∧ 1 < f6.length ∧ (K (hpS (hpS (hpN H q1 (iE (zY Z 0) p0.toNatClampNeg (fun _ => 0))) p (.inr (11, f3.set 0 (.ref q1)))) p (.inr (11, f6.set 1 (.int 0))))))))))
set_option maxRecDepth 100000 in
set_option maxHeartbeats 4000000 in
theorem bhJ5_init_d00df {D : gD} {E : gE} {A : Nat → Prop} {Q : State → Prop} {bc0 bs0 : Nat} (C : CL D E (rmhJ5_init_d00df bc0 bs0) cJ5_init_d00df 2 RJ5 A) (hin : E.2.2.2.2.2.2.2.2.1.name = "<init>") {K : gH → Prop} (hret : ∀ (H : gH) (pc : Nat) (ls : List (Nat × Value)), K H → decode cJ5_init_d00df pc = .ok (.return_, 1) → Go D E A Q 2 bc0 bs0 ([] ++ hpW H) ls pc []) (cells slots : Nat) (H : gH) (bc : Nat) (bs : Nat) (p : Nat) (p0 : Int32) (hbc : cells + bc ≤ bc0) (hbs : slots + bs ≤ bs0) (h : whJ5_init_d00df D.2 H bc bs p p0 K) : Go D E A Q 2 cells slots ([] ++ hpW H) [(0, .ref p), (1, .int p0)] 0 [] := by
  unfold whJ5_init_d00df at h
  refine q_aload_n C dJ5_init_d00df_0 0 rfl ?_
  refine q_objInit C oi_J5_3 dJ5_init_d00df_1 ⟨Nat.le_of_ble_eq_true rfl, Nat.le_of_ble_eq_true rfl⟩ (Nat.le_of_ble_eq_true rfl) ?_
  refine q_getC C fl_J5_18 dJ5_init_d00df_4 ?_
  refine q_if_eq C 25 dJ5_init_d00df_7 (by decide) h (fun h => ?_) (fun h => ?_)
  · refine q_aload_n C dJ5_init_d00df_25 0 rfl ?_
    refine q_iload_n C dJ5_init_d00df_26 1 rfl ?_
    exact h.elim
  · refine q_aload_n C dJ5_init_d00df_10 0 rfl ?_
    refine q_iload_n C dJ5_init_d00df_11 1 rfl ?_
    obtain ⟨b3, b4, b1, b2, h⟩ := h
    refine h_newB C dJ5_init_d00df_12 b3 b4 ⟨by show cells + 1 ≤ bc0; omega, by show slots + p0.toNatClampNeg ≤ bs0; omega⟩ (fun q1 g2 => ?_)
    replace h := h q1 g2
    obtain ⟨f3, e4, l5, h⟩ := h
    refine h_put C inJ4g tyJ4_ok nmJ4 (ci := 11) rfl 0 (by decide) fl_J5_15 rfl rfl (ty := (.array .byte)) (by decide +kernel) e4 l5 rfl rfl dJ5_init_d00df_14 ?_
    refine q_aload_n C dJ5_init_d00df_17 0 rfl ?_
    refine q_iconst C (v := 0) dJ5_init_d00df_18 (by decide) ?_
    obtain ⟨f6, e7, l8, h⟩ := h
    refine h_put C inJ4g tyJ4_ok nmJ4 (ci := 11) rfl 1 (by decide) fl_J5_22 rfl rfl (ty := .byte) (by decide +kernel) e7 l8 rfl rfl dJ5_init_d00df_19 ?_
    refine q_goto (tgt := 38) C dJ5_init_d00df_22 (by decide) ?_
    refine q_widen (k := bc0) (n := bs0) (by omega) (by omega) ?_
    exact hret (hpS (hpS (hpN H q1 (iE (zY D.2 0) p0.toNatClampNeg (fun _ => 0))) p (.inr (11, f3.set 0 (.ref q1)))) p (.inr (11, f6.set 1 (.int 0)))) _ _ h dJ5_init_d00df_38
theorem chJ5_init_d00df_ok (l : Launch) {D : gD} {H : gH} {bc : Nat} {bs : Nat} {p : Nat} {p0 : Int32} {K : gH → Prop} (h : whJ5_init_d00df D.2 H bc bs p p0 K) : CtV l D (gU (zY D.2)) yJ5_init_d00df cJ5_init_d00df 2 (rmhJ5_init_d00df bc bs) [.ref p, .int p0] ([] ++ hpW H) (fun u : gH => [] ++ hpW u) (fun u => K u) :=
  ct_startC (by decide +kernel) (Nat.le_of_ble_eq_true rfl) rfl (fun E A Q hE C hin hret => bhJ5_init_d00df C hin (fun H pc ls hk hd => hret H pc ls hk hd) 0 0 _ _ _ _ _ (by omega) (by omega) h)
abbrev rmhJ4_init_da8c8 (bc bs : Nat) : Room := { frames := 2, cells := bc, slots := bs, locals := 41 }
def whJ4_init_da8c8 (Z : gZ) (H : gH) (bc : Nat) (bs : Nat) (p : Nat) (K : gH → Prop) : Prop :=
  ∃ (c1 s1 : Nat), c1 ≤ bc ∧ s1 ≤ bs ∧ whJ5_init_d00df Z H c1 s1 p 16 (fun H1 => K H1)
set_option maxRecDepth 100000 in
set_option maxHeartbeats 4000000 in
theorem bhJ4_init_da8c8 {D : gD} {E : gE} {A : Nat → Prop} {Q : State → Prop} {bc0 bs0 : Nat} (C : CL D E (rmhJ4_init_da8c8 bc0 bs0) cJ4_init_da8c8 1 RJ4 A) (hin : E.2.2.2.2.2.2.2.2.1.name = "<init>") {K : gH → Prop} (hret : ∀ (H : gH) (pc : Nat) (ls : List (Nat × Value)), K H → decode cJ4_init_da8c8 pc = .ok (.return_, 1) → Go D E A Q 1 bc0 bs0 ([] ++ hpW H) ls pc []) (cells slots : Nat) (H : gH) (bc : Nat) (bs : Nat) (p : Nat) (hbc : cells + bc ≤ bc0) (hbs : slots + bs ≤ bs0) (h : whJ4_init_da8c8 D.2 H bc bs p K) : Go D E A Q 1 cells slots ([] ++ hpW H) [(0, .ref p)] 0 [] := by
  unfold whJ4_init_da8c8 at h
  refine q_aload_n C dJ4_init_da8c8_0 0 rfl ?_
  refine q_bipush C (v := 16) dJ4_init_da8c8_1 (by decide) ?_
  obtain ⟨c1, s1, hc1, hs1, h⟩ := h
  refine p_callIV C (fun _ h => h) [] (chJ5_init_d00df_ok _ h) cf_J4_1 im_J5_init_d00df rfl rfl ⟨Nat.le_of_ble_eq_true rfl, Nat.le_of_ble_eq_true rfl⟩ ⟨by show cells + c1 ≤ bc0; omega, by show slots + s1 ≤ bs0; omega⟩ List.perm_append_comm (fun H1 : gH => [] ++ hpW H1) (fun _ => List.perm_append_comm) (rest := []) rfl (Nat.le_of_ble_eq_true rfl) dJ4_init_da8c8_3 (fun H1 h => ?_)
  show Go D E A Q 1 (cells + c1) (slots + s1) ([] ++ hpW H1) [(0, .ref p)] 6 []
  refine q_widen (k := bc0) (n := bs0) (by omega) (by omega) ?_
  exact hret H1 _ _ h dJ4_init_da8c8_6
theorem chJ4_init_da8c8_ok (l : Launch) {D : gD} {H : gH} {bc : Nat} {bs : Nat} {p : Nat} {K : gH → Prop} (h : whJ4_init_da8c8 D.2 H bc bs p K) : CtV l D (gU (zY D.2)) yJ4_init_da8c8 cJ4_init_da8c8 1 (rmhJ4_init_da8c8 bc bs) [.ref p] ([] ++ hpW H) (fun u : gH => [] ++ hpW u) (fun u => K u) :=
  ct_startC (by decide +kernel) (Nat.le_of_ble_eq_true rfl) rfl (fun E A Q hE C hin hret => bhJ4_init_da8c8 C hin (fun H pc ls hk hd => hret H pc ls hk hd) 0 0 _ _ _ _ (by omega) (by omega) h)
abbrev rmhJ1_charAt_3b067 : Room := { frames := 2, cells := 0, slots := 0, locals := 80 }
def whJ1_charAt_3b067 (Z : gZ) (H : gH) (p0 : Nat) (p1 : Int32) (K : Int32 → Prop) : Prop :=
  ∃ (n1 : Nat) (f2 : Nat → Int32), bA Z H p0 n1 f2 ∧ (¬ p1 < 0 ∧ p1 < (nI n1) ∧ (∃ (n4 : Nat) (f5 : Nat → Int32), bA Z H p0 n4 f5 ∧ vp_in p1 n4 ∧ ((narrow .char (.int ((((f5 p1.toNatClampNeg) &&& 255).toUInt32 % 65536).toInt32)) = .int ((((f5 p1.toNatClampNeg) &&& 255).toUInt32 % 65536).toInt32) ∧ K ((((f5 p1.toNatClampNeg) &&& 255).toUInt32 % 65536).toInt32) ))))
set_option maxRecDepth 100000 in
set_option maxHeartbeats 4000000 in
theorem bhJ1_charAt_3b067 {D : gD} {E : gE} {A : Nat → Prop} {Q : State → Prop} {H : gH} (C : CL D E rmhJ1_charAt_3b067 cJ1_charAt_3b067 2 RJ1 A) {K : Int32 → Prop} (hret : ∀ (r : Int32) (pc : Nat) (ls : List (Nat × Value)), narrow .char (.int r) = .int r → K r → decode cJ1_charAt_3b067 pc = .ok (.ireturn, 1) → Go D E A Q 2 0 0 ([] ++ hpW H) ls pc [.int r]) (p0 : Nat) (p1 : Int32) (h : whJ1_charAt_3b067 D.2 H p0 p1 K) : Go D E A Q 2 0 0 ([] ++ hpW H) [(0, .ref p0), (1, .int p1)] 0 [] := by
  unfold whJ1_charAt_3b067 at h
  refine q_iload_n C dJ1_charAt_3b067_0 1 rfl ?_
  refine q_aload_n C dJ1_charAt_3b067_1 0 rfl ?_
  obtain ⟨n1, f2, e3, h⟩ := h
  refine h_blen C e3 dJ1_charAt_3b067_2 ?_
  obtain ⟨e1, e2, h⟩ := h
  refine h_ckIndex C cf_J1_9 rfl e1 e2 ⟨Nat.le_of_ble_eq_true rfl, Nat.le_of_ble_eq_true rfl⟩ ⟨Nat.le_refl _, Nat.le_refl _⟩ (Nat.le_of_ble_eq_true rfl) dJ1_charAt_3b067_3 ?_
  refine q_aload_n C dJ1_charAt_3b067_6 0 rfl ?_
  refine q_iload_n C dJ1_charAt_3b067_7 1 rfl ?_
  obtain ⟨n4, f5, e6, i7, h⟩ := h
  refine h_bald C e6 i7 dJ1_charAt_3b067_8 ?_
  refine q_sipush C (v := 255) dJ1_charAt_3b067_9 (by decide) ?_
  refine q_iand C dJ1_charAt_3b067_12 ?_
  refine q_i2c C dJ1_charAt_3b067_13 ?_
  exact hret ((((f5 p1.toNatClampNeg) &&& 255).toUInt32 % 65536).toInt32) _ _ h.1 h.2 dJ1_charAt_3b067_14
theorem chJ1_charAt_3b067_ok (l : Launch) {D : gD} {H : gH} {p0 : Nat} {p1 : Int32} {K : Int32 → Prop} (h : whJ1_charAt_3b067 D.2 H p0 p1 K) : CtI l D (gU (zY D.2)) yJ1_charAt_3b067 cJ1_charAt_3b067 2 .char rmhJ1_charAt_3b067 [.ref p0, .int p1] ([] ++ hpW H) (fun _ : Unit => [] ++ hpW H) (fun r _ => K r ) :=
  ct_startI (by decide +kernel) (Nat.le_of_ble_eq_true rfl) (fun E A Q hE C hret => bhJ1_charAt_3b067 C (fun r pc ls hn hk hd => hret r () pc ls hn hk hd) _ _ h)
abbrev rmhJ0_charAt_5068e : Room := { frames := 3, cells := 0, slots := 0, locals := 101 }
def whJ0_charAt_5068e (Z : gZ) (H : gH) (p : Nat) (p0 : Int32) (K : Int32 → Prop) : Prop :=
  hRs Z H p ∧ whJ0_isLatin1_aae02 Z H p (fun r1 => ((r1 = 0 → ∃ y2 : Nat, sV Z H p y2 ∧ (False)) ∧ (¬ r1 = 0 → ∃ y4 : Nat, sV Z H p y4 ∧ (whJ1_charAt_3b067 Z H y4 p0 (fun r6 => (narrow .char (.int r6) = .int r6 ∧ K r6 ))))))
set_option maxRecDepth 100000 in
set_option maxHeartbeats 4000000 in
theorem bhJ0_charAt_5068e {D : gD} {E : gE} {A : Nat → Prop} {Q : State → Prop} {H : gH} (C : CL D E rmhJ0_charAt_5068e cJ0_charAt_5068e 2 RJ0 A) {K : Int32 → Prop} (hret : ∀ (r : Int32) (pc : Nat) (ls : List (Nat × Value)), narrow .char (.int r) = .int r → K r → decode cJ0_charAt_5068e pc = .ok (.ireturn, 1) → Go D E A Q 2 0 0 ([] ++ hpW H) ls pc [.int r]) (p : Nat) (p0 : Int32) (h : whJ0_charAt_5068e D.2 H p p0 K) : Go D E A Q 2 0 0 ([] ++ hpW H) [(0, .ref p), (1, .int p0)] 0 [] := by
  unfold whJ0_charAt_5068e at h
  refine q_aload_n C dJ0_charAt_5068e_0 0 rfl ?_
  obtain ⟨hr9, h⟩ := h
  refine p_callVI C (fun _ h => h) [] (chJ0_isLatin1_aae02_ok _ h) cf_J0_492 im_J0_isLatin1_aae02 se_J0_isLatin1_aae02 (hRs_rv hr9) rfl ⟨Nat.le_of_ble_eq_true rfl, Nat.le_of_ble_eq_true rfl⟩ ⟨Nat.le_refl _, Nat.le_refl _⟩ List.perm_append_comm (fun _ : Unit => [] ++ hpW H) (fun _ => List.perm_append_comm) (rest := []) rfl (Nat.le_of_ble_eq_true rfl) dJ0_charAt_5068e_1 (fun r1 _ h => ?_)
  show Go D E A Q 2 0 0 ([] ++ hpW H) [(0, .ref p), (1, .int p0)] 4 [.int r1]
  refine q_if_eq C 16 dJ0_charAt_5068e_4 (by decide) h (fun h => ?_) (fun h => ?_)
  · refine q_aload_n C dJ0_charAt_5068e_16 0 rfl ?_
    obtain ⟨y2, e3, h⟩ := h
    refine h_sval C fl_J0_9 e3 dJ0_charAt_5068e_17 ?_
    refine q_iload_n C dJ0_charAt_5068e_20 1 rfl ?_
    exact h.elim
  · refine q_aload_n C dJ0_charAt_5068e_7 0 rfl ?_
    obtain ⟨y4, e5, h⟩ := h
    refine h_sval C fl_J0_9 e5 dJ0_charAt_5068e_8 ?_
    refine q_iload_n C dJ0_charAt_5068e_11 1 rfl ?_
    refine p_callSI C (fun _ h => h) [] (chJ1_charAt_3b067_ok _ h) cf_J0_495 st_J1_charAt_3b067 rfl ⟨Nat.le_of_ble_eq_true rfl, Nat.le_of_ble_eq_true rfl⟩ ⟨Nat.le_refl _, Nat.le_refl _⟩ List.perm_append_comm (fun _ : Unit => [] ++ hpW H) (fun _ => List.perm_append_comm) (rest := []) rfl (Nat.le_of_ble_eq_true rfl) dJ0_charAt_5068e_12 (fun r6 _ h => ?_)
    show Go D E A Q 2 0 0 ([] ++ hpW H) [(0, .ref p), (1, .int p0)] 15 [.int r6]
    exact hret r6 _ _ h.1 h.2 dJ0_charAt_5068e_15
theorem chJ0_charAt_5068e_ok (l : Launch) {D : gD} {H : gH} {p : Nat} {p0 : Int32} {K : Int32 → Prop} (h : whJ0_charAt_5068e D.2 H p p0 K) : CtI l D (gU (zY D.2)) yJ0_charAt_5068e cJ0_charAt_5068e 2 .char rmhJ0_charAt_5068e [.ref p, .int p0] ([] ++ hpW H) (fun _ : Unit => [] ++ hpW H) (fun r _ => K r ) :=
  ct_startI (by decide +kernel) (Nat.le_of_ble_eq_true rfl) (fun E A Q hE C hret => bhJ0_charAt_5068e C (fun r pc ls hn hk hd => hret r () pc ls hn hk hd) _ _ h)
abbrev rmL_below : Room := { frames := 0, cells := 0, slots := 0, locals := 0 }
def wL_below (Z : gZ) (H : gH) (p0 : Int32) (p1 : Int32) (K : Int32 → Prop) : Prop :=
  (¬ p1 = 0) ∧ (K ((p0 &&& 2147483647) - (p0 &&& 2147483647) / p1 * p1))
set_option maxRecDepth 100000 in
set_option maxHeartbeats 4000000 in
theorem bL_below {D : gD} {E : gE} {A : Nat → Prop} {Q : State → Prop} {H : gH} (C : CL D E rmL_below cL_below 2 RL A) {K : Int32 → Prop} (hret : ∀ (r : Int32) (pc : Nat) (ls : List (Nat × Value)), K r → decode cL_below pc = .ok (.ireturn, 1) → Go D E A Q 2 0 0 ([] ++ hpW H) ls pc [.int r]) (p0 : Int32) (p1 : Int32) (h : wL_below D.2 H p0 p1 K) : Go D E A Q 2 0 0 ([] ++ hpW H) [(0, .int p0), (1, .int p1)] 0 [] := by
  unfold wL_below at h
  refine q_iload_n C dL_below_0 0 rfl ?_
  refine q_ldc C (v := 2147483647) co_L_7 dL_below_1 ?_
  refine q_iand C dL_below_3 ?_
  refine q_iload_n C dL_below_4 1 rfl ?_
  refine q_irem C dL_below_5 h.1 ?_
  replace h := h.2
  exact hret ((p0 &&& 2147483647) - (p0 &&& 2147483647) / p1 * p1) _ _ h dL_below_6
theorem cL_below_ok (l : Launch) {D : gD} {H : gH} {p0 : Int32} {p1 : Int32} {K : Int32 → Prop} (h : wL_below D.2 H p0 p1 K) : CtI l D (gU (zY D.2)) yL_below cL_below 2 .int rmL_below [.int p0, .int p1] ([] ++ hpW H) (fun _ : Unit => [] ++ hpW H) (fun r _ => K r ) :=
  ct_startI (by decide +kernel) (Nat.le_of_ble_eq_true rfl) (fun E A Q hE C hret => bL_below C (fun r pc ls hk hd => hret r () pc ls rfl hk hd) _ _ h)
abbrev rmL_cell : Room := { frames := 0, cells := 0, slots := 0, locals := 0 }
def wL_cell (Z : gZ) (H : gH) (p1 : Int32) (K : Int32 → Prop) : Prop :=
  ((nI (zL Z) ≤ p1 → K (790386105 * (p1 + 3))) ∧ (¬ nI (zL Z) ≤ p1 → vp_in p1 (zL Z) ∧ (K (zX Z p1.toNatClampNeg))))
set_option maxRecDepth 100000 in
set_option maxHeartbeats 4000000 in
theorem bL_cell {D : gD} {E : gE} {A : Nat → Prop} {Q : State → Prop} {H : gH} (C : CL D E rmL_cell cL_cell 2 RL A) {K : Int32 → Prop} (hret : ∀ (r : Int32) (pc : Nat) (ls : List (Nat × Value)), K r → decode cL_cell pc = .ok (.ireturn, 1) → Go D E A Q 2 0 0 ([] ++ hpW H) ls pc [.int r]) (p1 : Int32) (h : wL_cell D.2 H p1 K) : Go D E A Q 2 0 0 ([] ++ hpW H) [(0, .ref (zB D.2)), (1, .int p1)] 0 [] := by
  unfold wL_cell at h
  refine q_iload_n C dL_cell_0 1 rfl ?_
  refine q_aload_n C dL_cell_1 0 rfl ?_
  refine h_slen C dL_cell_2 ?_
  refine q_icmp_ge C 12 dL_cell_3 (by decide) h (fun h => ?_) (fun h => ?_)
  · refine q_ldc C (v := 790386105) co_L_8 dL_cell_12 ?_
    refine q_iload_n C dL_cell_14 1 rfl ?_
    refine q_iconst C (v := 3) dL_cell_15 (by decide) ?_
    refine q_iadd C dL_cell_16 ?_
    refine q_imul C dL_cell_17 ?_
    exact hret (790386105 * (p1 + 3)) _ _ h dL_cell_18
  · refine q_aload_n C dL_cell_6 0 rfl ?_
    refine q_iload_n C dL_cell_7 1 rfl ?_
    obtain ⟨e0, h⟩ := h
    refine h_sld C e0 dL_cell_8 ?_
    refine q_goto (tgt := 18) C dL_cell_9 (by decide) ?_
    exact hret (zX D.2 p1.toNatClampNeg) _ _ h dL_cell_18
theorem cL_cell_ok (l : Launch) {D : gD} {H : gH} {p1 : Int32} {K : Int32 → Prop} (h : wL_cell D.2 H p1 K) : CtI l D (gU (zY D.2)) yL_cell cL_cell 2 .int rmL_cell [.ref (zB D.2), .int p1] ([] ++ hpW H) (fun _ : Unit => [] ++ hpW H) (fun r _ => K r ) :=
  ct_startI (by decide +kernel) (Nat.le_of_ble_eq_true rfl) (fun E A Q hE C hret => bL_cell C (fun r pc ls hk hd => hret r () pc ls rfl hk hd) _ h)
abbrev rmX9_seat : Room := { frames := 0, cells := 0, slots := 0, locals := 0 }
def wX9_seat (Z : gZ) (H : gH) (p : Nat) (p0 : Int32) (K : Int32 → Prop) : Prop :=
  ∃ y1 : Nat, gF H p 8 1 (.ref y1) ∧ (∃ (n3 : Nat) (f4 : Nat → Option Nat), hpG H y1 = some (qE (zY Z 5) n3 f4) ∧ ((¬ (nI n3) = 0) ∧ (∃ y6 : Nat, gF H p 8 1 (.ref y6) ∧ (∃ (n8 : Nat) (f9 : Nat → Option Nat), hpG H y6 = some (qE (zY Z 5) n8 f9) ∧ (∃ y11 : Nat, gF H p 8 1 (.ref y11) ∧ (∃ (n13 : Nat) (f14 : Nat → Option Nat), hpG H y11 = some (qE (zY Z 5) n13 f14) ∧ ((¬ (nI n13) = 0) ∧ (K (((p0 - p0 / (nI n3) * (nI n3)) + (nI n8)) - ((p0 - p0 / (nI n3) * (nI n3)) + (nI n8)) / (nI n13) * (nI n13))))))))))
set_option maxRecDepth 100000 in
set_option maxHeartbeats 4000000 in
theorem bX9_seat {D : gD} {E : gE} {A : Nat → Prop} {Q : State → Prop} {H : gH} (C : CL D E rmX9_seat cX9_seat 2 RX9 A) {K : Int32 → Prop} (hret : ∀ (r : Int32) (pc : Nat) (ls : List (Nat × Value)), K r → decode cX9_seat pc = .ok (.ireturn, 1) → Go D E A Q 2 0 0 ([] ++ hpW H) ls pc [.int r]) (p : Nat) (p0 : Int32) (h : wX9_seat D.2 H p p0 K) : Go D E A Q 2 0 0 ([] ++ hpW H) [(0, .ref p), (1, .int p0)] 0 [] := by
  unfold wX9_seat at h
  refine q_iload_n C dX9_seat_0 1 rfl ?_
  refine q_aload_n C dX9_seat_1 0 rfl ?_
  obtain ⟨y1, e2, h⟩ := h
  refine h_get C inX9g (ci := 8) rfl 1 (by decide) fl_X9_15 rfl e2 dX9_seat_2 ?_
  obtain ⟨n3, f4, e5, h⟩ := h
  refine h_alen C 5 rfl e5 dX9_seat_5 ?_
  refine q_irem C dX9_seat_6 h.1 ?_
  replace h := h.2
  refine q_aload_n C dX9_seat_7 0 rfl ?_
  obtain ⟨y6, e7, h⟩ := h
  refine h_get C inX9g (ci := 8) rfl 1 (by decide) fl_X9_15 rfl e7 dX9_seat_8 ?_
  obtain ⟨n8, f9, e10, h⟩ := h
  refine h_alen C 5 rfl e10 dX9_seat_11 ?_
  refine q_iadd C dX9_seat_12 ?_
  refine q_aload_n C dX9_seat_13 0 rfl ?_
  obtain ⟨y11, e12, h⟩ := h
  refine h_get C inX9g (ci := 8) rfl 1 (by decide) fl_X9_15 rfl e12 dX9_seat_14 ?_
  obtain ⟨n13, f14, e15, h⟩ := h
  refine h_alen C 5 rfl e15 dX9_seat_17 ?_
  refine q_irem C dX9_seat_18 h.1 ?_
  replace h := h.2
  exact hret (((p0 - p0 / (nI n3) * (nI n3)) + (nI n8)) - ((p0 - p0 / (nI n3) * (nI n3)) + (nI n8)) / (nI n13) * (nI n13)) _ _ h dX9_seat_19
theorem cX9_seat_ok (l : Launch) {D : gD} {H : gH} {p : Nat} {p0 : Int32} {K : Int32 → Prop} (h : wX9_seat D.2 H p p0 K) : CtI l D (gU (zY D.2)) yX9_seat cX9_seat 2 .int rmX9_seat [.ref p, .int p0] ([] ++ hpW H) (fun _ : Unit => [] ++ hpW H) (fun r _ => K r ) :=
  ct_startI (by decide +kernel) (Nat.le_of_ble_eq_true rfl) (fun E A Q hE C hret => bX9_seat C (fun r pc ls hk hd => hret r () pc ls rfl hk hd) _ _ h)
abbrev rmX9_props : Room := { frames := 0, cells := 0, slots := 0, locals := 0 }
def wX9_props_36 (K : Int32 → Prop) (KL13 : Int32 → Nat → Int32 → Int32 → Prop) (Z : gZ) (H : gH) (x2 : Nat) (x3 : Int32) (x4 : Int32) (z0 : Int32) (z1 : Int32) : Prop :=
  KL13 (z1 + z0) x2 x3 (x4 + 1)
set_option maxRecDepth 100000 in
set_option maxHeartbeats 4000000 in
theorem bX9_props_36 {D : gD} {E : gE} {A : Nat → Prop} {Q : State → Prop} {H : gH} (C : CL D E rmX9_props cX9_props 6 RX9 A) {K : Int32 → Prop} (hret : ∀ (r : Int32) (pc : Nat) (ls : List (Nat × Value)), K r → decode cX9_props pc = .ok (.ireturn, 1) → Go D E A Q 6 0 0 ([] ++ hpW H) ls pc [.int r]) {KL13 : Int32 → Nat → Int32 → Int32 → Prop} (hKL13 : ∀ (x1 : Int32) (x2 : Nat) (x3 : Int32) (x4 : Int32), KL13 x1 x2 x3 x4 → Go D E A Q 6 0 0 ([] ++ hpW H) [(1, .int x1), (2, .ref x2), (3, .int x3), (4, .int x4)] 13 []) : ∀ (x2 : Nat) (x3 : Int32) (x4 : Int32) (z0 : Int32) (z1 : Int32), wX9_props_36 K KL13 D.2 H x2 x3 x4 z0 z1 → Go D E A Q 6 0 0 ([] ++ hpW H) [(2, .ref x2), (3, .int x3), (4, .int x4)] 36 [.int z0, .int z1] := by
  intro x2 x3 x4 z0 z1 h
  unfold wX9_props_36 at h
  refine q_iadd C dX9_props_36 ?_
  refine q_istore_n C [(1, .int (z1 + z0)), (2, .ref x2), (3, .int x3), (4, .int x4)] dX9_props_37 (by decide) rfl ?_
  refine q_iinc C (v := x4 + 1) [(4, .int (x4 + 1)), (1, .int (z1 + z0)), (2, .ref x2), (3, .int x3)] dX9_props_38 3 rfl rfl (by decide) rfl ?_
  refine q_goto (tgt := 13) C dX9_props_41 (by decide) ?_
  refine q_ls [(1, .int (z1 + z0)), (2, .ref x2), (3, .int x3), (4, .int (x4 + 1))] [1, 2, 3, 0] rfl ?_
  exact hKL13 _ _ _ _ h
def wX9_props_13 (K : Int32 → Prop) (Z : gZ) (H : gH) : Nat → Int32 → Nat → Int32 → Int32 → Prop
  | 0, _, _, _, _ => False
  | n + 1, x1, x2, x3, x4 =>
  ((x3 ≤ x4 → K x1) ∧ (¬ x3 ≤ x4 → ∃ (n1 : Nat) (f2 : Nat → Int32), hpG H x2 = some (iE (zY Z 3) n1 f2) ∧ vp_in x4 n1 ∧ (((f2 x4.toNatClampNeg = 0 → wX9_props_36 K (wX9_props_13 K Z H n) Z H x2 x3 x4 0 x1) ∧ (¬ f2 x4.toNatClampNeg = 0 → wX9_props_36 K (wX9_props_13 K Z H n) Z H x2 x3 x4 1 x1)))))
set_option maxRecDepth 100000 in
set_option maxHeartbeats 4000000 in
theorem bX9_props_13 {D : gD} {E : gE} {A : Nat → Prop} {Q : State → Prop} {H : gH} (C : CL D E rmX9_props cX9_props 6 RX9 A) {K : Int32 → Prop} (hret : ∀ (r : Int32) (pc : Nat) (ls : List (Nat × Value)), K r → decode cX9_props pc = .ok (.ireturn, 1) → Go D E A Q 6 0 0 ([] ++ hpW H) ls pc [.int r]) : ∀ (n : Nat) (x1 : Int32) (x2 : Nat) (x3 : Int32) (x4 : Int32), wX9_props_13 K D.2 H n x1 x2 x3 x4 → Go D E A Q 6 0 0 ([] ++ hpW H) [(1, .int x1), (2, .ref x2), (3, .int x3), (4, .int x4)] 13 [] := by
  intro n
  induction n with
  | zero =>
    intro x1 x2 x3 x4 h
    exact h.elim
  | succ n ih =>
    intro x1 x2 x3 x4 h
    unfold wX9_props_13 at h
    refine q_iload C dX9_props_13 3 rfl ?_
    refine q_iload_n C dX9_props_15 2 rfl ?_
    refine q_icmp_ge C 44 dX9_props_16 (by decide) h (fun h => ?_) (fun h => ?_)
    · refine q_iload_n C dX9_props_44 0 rfl ?_
      exact hret x1 _ _ h dX9_props_45
    · refine q_aload_n C dX9_props_19 1 rfl ?_
      refine q_iload C dX9_props_20 3 rfl ?_
      obtain ⟨n1, f2, e3, i4, h⟩ := h
      refine h_zald C e3 i4 dX9_props_22 ?_
      refine q_istore C [(5, .int (f2 x4.toNatClampNeg)), (1, .int x1), (2, .ref x2), (3, .int x3), (4, .int x4)] dX9_props_23 (by decide) rfl ?_
      refine q_iload_n C dX9_props_25 1 rfl ?_
      refine q_iload C dX9_props_26 0 rfl ?_
      refine q_if_eq C 35 dX9_props_28 (by decide) h (fun h => ?_) (fun h => ?_)
      · refine q_iconst C (v := 0) dX9_props_35 (by decide) ?_
        refine q_ls [(2, .ref x2), (3, .int x3), (4, .int x4)] [2, 3, 4] rfl ?_
        exact bX9_props_36 C (KL13 := (wX9_props_13 K D.2 H n)) hret ih _ _ _ _ _ h
      · refine q_iconst C (v := 1) dX9_props_31 (by decide) ?_
        refine q_goto (tgt := 36) C dX9_props_32 (by decide) ?_
        refine q_ls [(2, .ref x2), (3, .int x3), (4, .int x4)] [2, 3, 4] rfl ?_
        exact bX9_props_36 C (KL13 := (wX9_props_13 K D.2 H n)) hret ih _ _ _ _ _ h
def wX9_props (Z : gZ) (H : gH) (p : Nat) (K : Int32 → Prop) : Prop :=
  ∃ y1 : Nat, gF H p 8 4 (.ref y1) ∧ (∃ (n3 : Nat) (f4 : Nat → Int32), hpG H y1 = some (iE (zY Z 3) n3 f4) ∧ (∃ k9 : Nat, wX9_props_13 K Z H k9 0 y1 (nI n3) 0))
set_option maxRecDepth 100000 in
set_option maxHeartbeats 4000000 in
theorem bX9_props {D : gD} {E : gE} {A : Nat → Prop} {Q : State → Prop} {H : gH} (C : CL D E rmX9_props cX9_props 6 RX9 A) {K : Int32 → Prop} (hret : ∀ (r : Int32) (pc : Nat) (ls : List (Nat × Value)), K r → decode cX9_props pc = .ok (.ireturn, 1) → Go D E A Q 6 0 0 ([] ++ hpW H) ls pc [.int r]) (p : Nat) (h : wX9_props D.2 H p K) : Go D E A Q 6 0 0 ([] ++ hpW H) [(0, .ref p)] 0 [] := by
  unfold wX9_props at h
  refine q_iconst C (v := 0) dX9_props_0 (by decide) ?_
  refine q_istore_n C [(1, .int 0), (0, .ref p)] dX9_props_1 (by decide) rfl ?_
  refine q_aload_n C dX9_props_2 1 rfl ?_
  obtain ⟨y1, e2, h⟩ := h
  refine h_get C inX9g (ci := 8) rfl 4 (by decide) fl_X9_27 rfl e2 dX9_props_3 ?_
  refine q_astore_n C [(2, .ref y1), (1, .int 0), (0, .ref p)] dX9_props_6 (by decide) rfl ?_
  refine q_aload_n C dX9_props_7 0 rfl ?_
  obtain ⟨n3, f4, e5, h⟩ := h
  refine h_alen C 3 rfl e5 dX9_props_8 ?_
  refine q_istore_n C [(3, .int (nI n3)), (2, .ref y1), (1, .int 0), (0, .ref p)] dX9_props_9 (by decide) rfl ?_
  refine q_iconst C (v := 0) dX9_props_10 (by decide) ?_
  refine q_istore C [(4, .int 0), (3, .int (nI n3)), (2, .ref y1), (1, .int 0), (0, .ref p)] dX9_props_11 (by decide) rfl ?_
  refine q_ls [(1, .int 0), (2, .ref y1), (3, .int (nI n3)), (4, .int 0)] [3, 2, 1, 0] rfl ?_
  obtain ⟨nw, h⟩ := h
  exact bX9_props_13 C  hret  nw _ _ _ _ h
theorem cX9_props_ok (l : Launch) {D : gD} {H : gH} {p : Nat} {K : Int32 → Prop} (h : wX9_props D.2 H p K) : CtI l D (gU (zY D.2)) yX9_props cX9_props 6 .int rmX9_props [.ref p] ([] ++ hpW H) (fun _ : Unit => [] ++ hpW H) (fun r _ => K r ) :=
  ct_startI (by decide +kernel) (Nat.le_of_ble_eq_true rfl) (fun E A Q hE C hret => bX9_props C (fun r pc ls hk hd => hret r () pc ls rfl hk hd) _ h)
