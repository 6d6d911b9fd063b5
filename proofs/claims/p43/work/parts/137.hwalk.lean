abbrev rmL_law (bc bs : Nat) : Room := { frames := 2048, cells := bc, slots := bs, locals := 84000 }
def wL_law_1048 (KL50 : gH → Nat → Nat → cLS → Nat → Int32 → Int32 → Int32 → Prop) (Z : gZ) (a : gA) (H : gH) (bc : Nat) (bs : Nat) (S : cLS) (x3 : Nat) (x4 : Int32) (x5 : Int32) (x6 : Int32) : Prop :=
  KL50 H bc bs S x3 x4 x5 (x6 + 1)
set_option maxRecDepth 100000 in
set_option maxHeartbeats 4000000 in
theorem bL_law_1048 {D : gD} {E : gE} {A : Nat → Prop} {Q : State → Prop} {bc0 bs0 : Nat} {a : gA} (C : CL D E (rmL_law bc0 bs0) cL_law 26 RL A) (hret : ∀ (w : va_W) (ls : List (Nat × Value)) (pc : Nat), decode cL_law pc = .ok (.ireturn, 1) → Go D E A Q 26 bc0 bs0 w ls pc [.int 1]) {KL50 : gH → Nat → Nat → cLS → Nat → Int32 → Int32 → Int32 → Prop} (hKL50 : ∀ (cells slots : Nat) (H : gH) (bc : Nat) (bs : Nat) (S : cLS) (x3 : Nat) (x4 : Int32) (x5 : Int32) (x6 : Int32), cells + bc ≤ bc0 → slots + bs ≤ bs0 → KL50 H bc bs S x3 x4 x5 x6 → Go D E A Q 26 cells slots (lwB D.2 a S ++ hpW H) [(0, .ref (zB D.2)), (1, .ref (a 0)), (3, .ref x3), (4, .int x4), (5, .int x5), (6, .int x6)] 50 []) : ∀ (cells slots : Nat) (H : gH) (bc : Nat) (bs : Nat) (S : cLS) (x3 : Nat) (x4 : Int32) (x5 : Int32) (x6 : Int32), cells + bc ≤ bc0 → slots + bs ≤ bs0 → wL_law_1048 KL50 D.2 a H bc bs S x3 x4 x5 x6 → Go D E A Q 26 cells slots (lwB D.2 a S ++ hpW H) [(0, .ref (zB D.2)), (1, .ref (a 0)), (3, .ref x3), (4, .int x4), (5, .int x5), (6, .int x6)] 1048 [] := by
  intro cells slots H bc bs S x3 x4 x5 x6 hbc hbs h
  unfold wL_law_1048 at h
  refine q_iinc C (v := x6 + 1) [(6, .int (x6 + 1)), (0, .ref (zB D.2)), (1, .ref (a 0)), (3, .ref x3), (4, .int x4), (5, .int x5)] dL_law_1048 5 rfl rfl (by decide) rfl ?_
  refine q_goto (tgt := 50) C dL_law_1051 (by decide) ?_
  refine q_ls [(0, .ref (zB D.2)), (1, .ref (a 0)), (3, .ref x3), (4, .int x4), (5, .int x5), (6, .int (x6 + 1))] [1, 2, 3, 4, 5, 0] rfl ?_
  exact hKL50 cells slots _ _ _ _ _ _ _ _ (by omega) (by omega) h
def wL_law_909 (KL50 : gH → Nat → Nat → cLS → Nat → Int32 → Int32 → Int32 → Prop) (KL843 : gH → Nat → Nat → cLS → Nat → Int32 → Int32 → Int32 → Int32 → Int32 → Int32 → Int32 → Int32 → Int32 → Prop) (Z : gZ) (a : gA) (H : gH) (bc : Nat) (bs : Nat) (S : cLS) (x3 : Nat) (x4 : Int32) (x5 : Int32) (x6 : Int32) (x7 : Int32) (x16 : Int32) (x17 : Int32) (x18 : Int32) (x19 : Int32) (x20 : Int32) : Prop :=
  KL843 H bc bs S x3 x4 x5 x6 x7 x16 x17 x18 x19 (x20 + 1)
set_option maxRecDepth 100000 in
set_option maxHeartbeats 4000000 in
theorem bL_law_909 {D : gD} {E : gE} {A : Nat → Prop} {Q : State → Prop} {bc0 bs0 : Nat} {a : gA} (C : CL D E (rmL_law bc0 bs0) cL_law 26 RL A) (hret : ∀ (w : va_W) (ls : List (Nat × Value)) (pc : Nat), decode cL_law pc = .ok (.ireturn, 1) → Go D E A Q 26 bc0 bs0 w ls pc [.int 1]) {KL50 : gH → Nat → Nat → cLS → Nat → Int32 → Int32 → Int32 → Prop} (hKL50 : ∀ (cells slots : Nat) (H : gH) (bc : Nat) (bs : Nat) (S : cLS) (x3 : Nat) (x4 : Int32) (x5 : Int32) (x6 : Int32), cells + bc ≤ bc0 → slots + bs ≤ bs0 → KL50 H bc bs S x3 x4 x5 x6 → Go D E A Q 26 cells slots (lwB D.2 a S ++ hpW H) [(0, .ref (zB D.2)), (1, .ref (a 0)), (3, .ref x3), (4, .int x4), (5, .int x5), (6, .int x6)] 50 []) {KL843 : gH → Nat → Nat → cLS → Nat → Int32 → Int32 → Int32 → Int32 → Int32 → Int32 → Int32 → Int32 → Int32 → Prop} (hKL843 : ∀ (cells slots : Nat) (H : gH) (bc : Nat) (bs : Nat) (S : cLS) (x3 : Nat) (x4 : Int32) (x5 : Int32) (x6 : Int32) (x7 : Int32) (x16 : Int32) (x17 : Int32) (x18 : Int32) (x19 : Int32) (x20 : Int32), cells + bc ≤ bc0 → slots + bs ≤ bs0 → KL843 H bc bs S x3 x4 x5 x6 x7 x16 x17 x18 x19 x20 → Go D E A Q 26 cells slots (lwB D.2 a S ++ hpW H) [(0, .ref (zB D.2)), (1, .ref (a 0)), (3, .ref x3), (4, .int x4), (5, .int x5), (6, .int x6), (7, .int x7), (16, .int x16), (17, .int x17), (18, .int x18), (19, .int x19), (20, .int x20)] 843 []) : ∀ (cells slots : Nat) (H : gH) (bc : Nat) (bs : Nat) (S : cLS) (x3 : Nat) (x4 : Int32) (x5 : Int32) (x6 : Int32) (x7 : Int32) (x16 : Int32) (x17 : Int32) (x18 : Int32) (x19 : Int32) (x20 : Int32), cells + bc ≤ bc0 → slots + bs ≤ bs0 → wL_law_909 KL50 KL843 D.2 a H bc bs S x3 x4 x5 x6 x7 x16 x17 x18 x19 x20 → Go D E A Q 26 cells slots (lwB D.2 a S ++ hpW H) [(0, .ref (zB D.2)), (1, .ref (a 0)), (3, .ref x3), (4, .int x4), (5, .int x5), (6, .int x6), (7, .int x7), (16, .int x16), (17, .int x17), (18, .int x18), (19, .int x19), (20, .int x20)] 909 [] := by
  intro cells slots H bc bs S x3 x4 x5 x6 x7 x16 x17 x18 x19 x20 hbc hbs h
  unfold wL_law_909 at h
  refine q_iinc C (v := x20 + 1) [(20, .int (x20 + 1)), (0, .ref (zB D.2)), (1, .ref (a 0)), (3, .ref x3), (4, .int x4), (5, .int x5), (6, .int x6), (7, .int x7), (16, .int x16), (17, .int x17), (18, .int x18), (19, .int x19)] dL_law_909 11 rfl rfl (by decide) rfl ?_
  refine q_goto (tgt := 843) C dL_law_912 (by decide) ?_
  refine q_ls [(0, .ref (zB D.2)), (1, .ref (a 0)), (3, .ref x3), (4, .int x4), (5, .int x5), (6, .int x6), (7, .int x7), (16, .int x16), (17, .int x17), (18, .int x18), (19, .int x19), (20, .int (x20 + 1))] [1, 2, 3, 4, 5, 6, 7, 8, 9, 10, 11, 0] rfl ?_
  exact hKL843 cells slots _ _ _ _ _ _ _ _ _ _ _ _ _ _ (by omega) (by omega) h
def wL_law_893 (KL50 : gH → Nat → Nat → cLS → Nat → Int32 → Int32 → Int32 → Prop) (KL843 : gH → Nat → Nat → cLS → Nat → Int32 → Int32 → Int32 → Int32 → Int32 → Int32 → Int32 → Int32 → Int32 → Prop) (Z : gZ) (a : gA) (H : gH) (bc : Nat) (bs : Nat) (S : cLS) (x3 : Nat) (x4 : Int32) (x5 : Int32) (x6 : Int32) (x7 : Int32) (x16 : Int32) (x17 : Int32) (x18 : Int32) (x19 : Int32) (x20 : Int32) : Prop :=
  ((0 ≤ x19 → wL_law_909 KL50 KL843 Z a H bc bs S x3 x4 x5 x6 x7 x16 x17 x18 x19 x20) ∧ (¬ 0 ≤ x19 → kX8_isFound a S x18 (fun r1 => ((r1 = 0 → wL_law_909 KL50 KL843 Z a H bc bs S x3 x4 x5 x6 x7 x16 x17 x18 x19 x20) ∧ (¬ r1 = 0 → False)))))
set_option maxRecDepth 100000 in
set_option maxHeartbeats 4000000 in
theorem bL_law_893 {D : gD} {E : gE} {A : Nat → Prop} {Q : State → Prop} {bc0 bs0 : Nat} {a : gA} (C : CL D E (rmL_law bc0 bs0) cL_law 26 RL A) (hret : ∀ (w : va_W) (ls : List (Nat × Value)) (pc : Nat), decode cL_law pc = .ok (.ireturn, 1) → Go D E A Q 26 bc0 bs0 w ls pc [.int 1]) {KL50 : gH → Nat → Nat → cLS → Nat → Int32 → Int32 → Int32 → Prop} (hKL50 : ∀ (cells slots : Nat) (H : gH) (bc : Nat) (bs : Nat) (S : cLS) (x3 : Nat) (x4 : Int32) (x5 : Int32) (x6 : Int32), cells + bc ≤ bc0 → slots + bs ≤ bs0 → KL50 H bc bs S x3 x4 x5 x6 → Go D E A Q 26 cells slots (lwB D.2 a S ++ hpW H) [(0, .ref (zB D.2)), (1, .ref (a 0)), (3, .ref x3), (4, .int x4), (5, .int x5), (6, .int x6)] 50 []) {KL843 : gH → Nat → Nat → cLS → Nat → Int32 → Int32 → Int32 → Int32 → Int32 → Int32 → Int32 → Int32 → Int32 → Prop} (hKL843 : ∀ (cells slots : Nat) (H : gH) (bc : Nat) (bs : Nat) (S : cLS) (x3 : Nat) (x4 : Int32) (x5 : Int32) (x6 : Int32) (x7 : Int32) (x16 : Int32) (x17 : Int32) (x18 : Int32) (x19 : Int32) (x20 : Int32), cells + bc ≤ bc0 → slots + bs ≤ bs0 → KL843 H bc bs S x3 x4 x5 x6 x7 x16 x17 x18 x19 x20 → Go D E A Q 26 cells slots (lwB D.2 a S ++ hpW H) [(0, .ref (zB D.2)), (1, .ref (a 0)), (3, .ref x3), (4, .int x4), (5, .int x5), (6, .int x6), (7, .int x7), (16, .int x16), (17, .int x17), (18, .int x18), (19, .int x19), (20, .int x20)] 843 []) : ∀ (cells slots : Nat) (H : gH) (bc : Nat) (bs : Nat) (S : cLS) (x3 : Nat) (x4 : Int32) (x5 : Int32) (x6 : Int32) (x7 : Int32) (x16 : Int32) (x17 : Int32) (x18 : Int32) (x19 : Int32) (x20 : Int32), cells + bc ≤ bc0 → slots + bs ≤ bs0 → wL_law_893 KL50 KL843 D.2 a H bc bs S x3 x4 x5 x6 x7 x16 x17 x18 x19 x20 → Go D E A Q 26 cells slots (lwB D.2 a S ++ hpW H) [(0, .ref (zB D.2)), (1, .ref (a 0)), (3, .ref x3), (4, .int x4), (5, .int x5), (6, .int x6), (7, .int x7), (16, .int x16), (17, .int x17), (18, .int x18), (19, .int x19), (20, .int x20)] 893 [] := by
  intro cells slots H bc bs S x3 x4 x5 x6 x7 x16 x17 x18 x19 x20 hbc hbs h
  unfold wL_law_893 at h
  refine q_iload C dL_law_893 10 rfl ?_
  refine q_if_ge C 909 dL_law_895 (by decide) h (fun h => ?_) (fun h => ?_)
  · exact bL_law_909 C (KL50 := KL50) (KL843 := KL843) hret hKL50 hKL843 cells slots _ _ _ _ _ _ _ _ _ _ _ _ _ _ (by omega) (by omega) h
  · refine q_aload_n C dL_law_898 1 rfl ?_
    refine q_iload C dL_law_899 9 rfl ?_
    refine lc_isFound C h cf_L_238 ⟨Nat.le_of_ble_eq_true rfl, Nat.le_of_ble_eq_true rfl⟩ ⟨by show cells ≤ bc0; omega, by show slots ≤ bs0; omega⟩ (Nat.le_of_ble_eq_true rfl) dL_law_901 (fun r1 h => ?_)
    show Go D E A Q 26 cells slots (lwB D.2 a S ++ hpW H) [(0, .ref (zB D.2)), (1, .ref (a 0)), (3, .ref x3), (4, .int x4), (5, .int x5), (6, .int x6), (7, .int x7), (16, .int x16), (17, .int x17), (18, .int x18), (19, .int x19), (20, .int x20)] 904 [.int r1]
    refine q_if_eq C 909 dL_law_904 (by decide) h (fun h => ?_) (fun h => ?_)
    · exact bL_law_909 C (KL50 := KL50) (KL843 := KL843) hret hKL50 hKL843 cells slots _ _ _ _ _ _ _ _ _ _ _ _ _ _ (by omega) (by omega) h
    · refine q_iconst C (v := 0) dL_law_907 (by decide) ?_
      exact h.elim
def wL_law_890 (KL50 : gH → Nat → Nat → cLS → Nat → Int32 → Int32 → Int32 → Prop) (KL843 : gH → Nat → Nat → cLS → Nat → Int32 → Int32 → Int32 → Int32 → Int32 → Int32 → Int32 → Int32 → Int32 → Prop) (Z : gZ) (a : gA) (H : gH) (bc : Nat) (bs : Nat) (S : cLS) (x3 : Nat) (x4 : Int32) (x5 : Int32) (x6 : Int32) (x7 : Int32) (x16 : Int32) (x17 : Int32) (x18 : Int32) (x19 : Int32) (x20 : Int32) (z0 : Int32) (z1 : Int32) : Prop :=
  ((¬ z1 = z0 → False) ∧ (z1 = z0 → wL_law_893 KL50 KL843 Z a H bc bs S x3 x4 x5 x6 x7 x16 x17 x18 x19 x20))
set_option maxRecDepth 100000 in
set_option maxHeartbeats 4000000 in
theorem bL_law_890 {D : gD} {E : gE} {A : Nat → Prop} {Q : State → Prop} {bc0 bs0 : Nat} {a : gA} (C : CL D E (rmL_law bc0 bs0) cL_law 26 RL A) (hret : ∀ (w : va_W) (ls : List (Nat × Value)) (pc : Nat), decode cL_law pc = .ok (.ireturn, 1) → Go D E A Q 26 bc0 bs0 w ls pc [.int 1]) {KL50 : gH → Nat → Nat → cLS → Nat → Int32 → Int32 → Int32 → Prop} (hKL50 : ∀ (cells slots : Nat) (H : gH) (bc : Nat) (bs : Nat) (S : cLS) (x3 : Nat) (x4 : Int32) (x5 : Int32) (x6 : Int32), cells + bc ≤ bc0 → slots + bs ≤ bs0 → KL50 H bc bs S x3 x4 x5 x6 → Go D E A Q 26 cells slots (lwB D.2 a S ++ hpW H) [(0, .ref (zB D.2)), (1, .ref (a 0)), (3, .ref x3), (4, .int x4), (5, .int x5), (6, .int x6)] 50 []) {KL843 : gH → Nat → Nat → cLS → Nat → Int32 → Int32 → Int32 → Int32 → Int32 → Int32 → Int32 → Int32 → Int32 → Prop} (hKL843 : ∀ (cells slots : Nat) (H : gH) (bc : Nat) (bs : Nat) (S : cLS) (x3 : Nat) (x4 : Int32) (x5 : Int32) (x6 : Int32) (x7 : Int32) (x16 : Int32) (x17 : Int32) (x18 : Int32) (x19 : Int32) (x20 : Int32), cells + bc ≤ bc0 → slots + bs ≤ bs0 → KL843 H bc bs S x3 x4 x5 x6 x7 x16 x17 x18 x19 x20 → Go D E A Q 26 cells slots (lwB D.2 a S ++ hpW H) [(0, .ref (zB D.2)), (1, .ref (a 0)), (3, .ref x3), (4, .int x4), (5, .int x5), (6, .int x6), (7, .int x7), (16, .int x16), (17, .int x17), (18, .int x18), (19, .int x19), (20, .int x20)] 843 []) : ∀ (cells slots : Nat) (H : gH) (bc : Nat) (bs : Nat) (S : cLS) (x3 : Nat) (x4 : Int32) (x5 : Int32) (x6 : Int32) (x7 : Int32) (x16 : Int32) (x17 : Int32) (x18 : Int32) (x19 : Int32) (x20 : Int32) (z0 : Int32) (z1 : Int32), cells + bc ≤ bc0 → slots + bs ≤ bs0 → wL_law_890 KL50 KL843 D.2 a H bc bs S x3 x4 x5 x6 x7 x16 x17 x18 x19 x20 z0 z1 → Go D E A Q 26 cells slots (lwB D.2 a S ++ hpW H) [(0, .ref (zB D.2)), (1, .ref (a 0)), (3, .ref x3), (4, .int x4), (5, .int x5), (6, .int x6), (7, .int x7), (16, .int x16), (17, .int x17), (18, .int x18), (19, .int x19), (20, .int x20)] 890 [.int z0, .int z1] := by
  intro cells slots H bc bs S x3 x4 x5 x6 x7 x16 x17 x18 x19 x20 z0 z1 hbc hbs h
  unfold wL_law_890 at h
  refine q_icmp_ne C 907 dL_law_890 (by decide) h (fun h => ?_) (fun h => ?_)
  · refine q_iconst C (v := 0) dL_law_907 (by decide) ?_
    exact h.elim
  · exact bL_law_893 C (KL50 := KL50) (KL843 := KL843) hret hKL50 hKL843 cells slots _ _ _ _ _ _ _ _ _ _ _ _ _ _ (by omega) (by omega) h
def wL_law_843 (KL50 : gH → Nat → Nat → cLS → Nat → Int32 → Int32 → Int32 → Prop) (Z : gZ) (a : gA) : Nat → gH → Nat → Nat → cLS → Nat → Int32 → Int32 → Int32 → Int32 → Int32 → Int32 → Int32 → Int32 → Int32 → Prop
  | 0, _, _, _, _, _, _, _, _, _, _, _, _, _, _ => False
  | n + 1, H, bc, bs, S, x3, x4, x5, x6, x7, x16, x17, x18, x19, x20 =>
  ((x16 < x20 → kX8_found a S (fun r1 => ((r1 = x17 → wL_below Z H (x7 >>> (4 &&& 31)) x4 (fun r2 => kX8_heightOf a S r2 (fun r3 => ((¬ r3 = 0 → kX8_wouldSlide a S r2 (fun r4 S4 => kX8_slides a S4 (fun r5 => kX8_isTopLoose a S4 r2 (fun r6 => kX8_topStratum a S4 r2 (fun r7 => kX8_dig a S4 r2 (fun r8 S8 => (∃ fs, hpG H x3 = some (.inr (8, fs))) ∧ ∃ (c9 s9 : Nat), c9 ≤ bc ∧ s9 ≤ bs ∧ wX9_dig Z H c9 s9 x3 r2 (fun r9 H9 => ((¬ r8 = r9 → False) ∧ (r8 = r9 → kX8_slides a S8 (fun r10 => ((¬ r10 = r5 + r4 → False) ∧ (r10 = r5 + r4 → ((r8 < 0 → wL_law_1048 KL50 Z a H9 (bc - c9) (bs - s9) S8 x3 x4 x5 x6) ∧ (¬ r8 < 0 → kX8_isFound a S8 r8 (fun r11 => ((r11 = 0 → False) ∧ (¬ r11 = 0 → kX8_isSure a S8 r8 (fun r12 => ((r12 = r6 → False) ∧ (¬ r12 = r6 → kX8_stratumOf a S8 r8 (fun r13 => ((r13 = r7 → wL_law_1048 KL50 Z a H9 (bc - c9) (bs - s9) S8 x3 x4 x5 x6) ∧ (¬ r13 = r7 → False))))))))))))))))))))))) ∧ (r3 = 0 → wL_law_1048 KL50 Z a H bc bs S x3 x4 x5 x6))))) ∧ (¬ r1 = x17 → False)))) ∧ (¬ x16 < x20 → kX8_passDays a S 1 (fun r14 S14 => (∃ fs, hpG H x3 = some (.inr (8, fs))) ∧ ∃ (c15 s15 : Nat), c15 ≤ bc ∧ s15 ≤ bs ∧ wX9_pass Z H c15 s15 x3 (fun r15 H15 => ((¬ r14 = r15 → False) ∧ (r14 = r15 → ((x18 < 0 → wL_law_893 KL50 (wL_law_843 KL50 Z a n) Z a H15 (bc - c15) (bs - s15) S14 x3 x4 x5 x6 x7 x16 x17 x18 x19 x20) ∧ (¬ x18 < 0 → ((x19 < 0 → wL_law_893 KL50 (wL_law_843 KL50 Z a n) Z a H15 (bc - c15) (bs - s15) S14 x3 x4 x5 x6 x7 x16 x17 x18 x19 x20) ∧ (¬ x19 < 0 → kX8_isFound a S14 x18 (fun r16 => ((x20 < x19 → wL_law_890 KL50 (wL_law_843 KL50 Z a n) Z a H15 (bc - c15) (bs - s15) S14 x3 x4 x5 x6 x7 x16 x17 x18 x19 x20 0 r16) ∧ (¬ x20 < x19 → wL_law_890 KL50 (wL_law_843 KL50 Z a n) Z a H15 (bc - c15) (bs - s15) S14 x3 x4 x5 x6 x7 x16 x17 x18 x19 x20 1 r16)))))))))))))
set_option maxRecDepth 100000 in
set_option maxHeartbeats 4000000 in
theorem bL_law_843 {D : gD} {E : gE} {A : Nat → Prop} {Q : State → Prop} {bc0 bs0 : Nat} {a : gA} (C : CL D E (rmL_law bc0 bs0) cL_law 26 RL A) (hret : ∀ (w : va_W) (ls : List (Nat × Value)) (pc : Nat), decode cL_law pc = .ok (.ireturn, 1) → Go D E A Q 26 bc0 bs0 w ls pc [.int 1]) {KL50 : gH → Nat → Nat → cLS → Nat → Int32 → Int32 → Int32 → Prop} (hKL50 : ∀ (cells slots : Nat) (H : gH) (bc : Nat) (bs : Nat) (S : cLS) (x3 : Nat) (x4 : Int32) (x5 : Int32) (x6 : Int32), cells + bc ≤ bc0 → slots + bs ≤ bs0 → KL50 H bc bs S x3 x4 x5 x6 → Go D E A Q 26 cells slots (lwB D.2 a S ++ hpW H) [(0, .ref (zB D.2)), (1, .ref (a 0)), (3, .ref x3), (4, .int x4), (5, .int x5), (6, .int x6)] 50 []) : ∀ (n : Nat) (cells slots : Nat) (H : gH) (bc : Nat) (bs : Nat) (S : cLS) (x3 : Nat) (x4 : Int32) (x5 : Int32) (x6 : Int32) (x7 : Int32) (x16 : Int32) (x17 : Int32) (x18 : Int32) (x19 : Int32) (x20 : Int32), cells + bc ≤ bc0 → slots + bs ≤ bs0 → wL_law_843 KL50 D.2 a n H bc bs S x3 x4 x5 x6 x7 x16 x17 x18 x19 x20 → Go D E A Q 26 cells slots (lwB D.2 a S ++ hpW H) [(0, .ref (zB D.2)), (1, .ref (a 0)), (3, .ref x3), (4, .int x4), (5, .int x5), (6, .int x6), (7, .int x7), (16, .int x16), (17, .int x17), (18, .int x18), (19, .int x19), (20, .int x20)] 843 [] := by
  intro n
  induction n with
  | zero =>
    intro cells slots H bc bs S x3 x4 x5 x6 x7 x16 x17 x18 x19 x20 hbc hbs h
    exact h.elim
  | succ n ih =>
    intro cells slots H bc bs S x3 x4 x5 x6 x7 x16 x17 x18 x19 x20 hbc hbs h
    unfold wL_law_843 at h
    refine q_iload C dL_law_843 11 rfl ?_
    refine q_iload C dL_law_845 7 rfl ?_
    refine q_icmp_gt C 915 dL_law_847 (by decide) h (fun h => ?_) (fun h => ?_)
    · refine q_aload_n C dL_law_915 1 rfl ?_
      refine lc_found C h cf_L_229 ⟨Nat.le_of_ble_eq_true rfl, Nat.le_of_ble_eq_true rfl⟩ ⟨by show cells ≤ bc0; omega, by show slots ≤ bs0; omega⟩ (Nat.le_of_ble_eq_true rfl) dL_law_916 (fun r1 h => ?_)
      show Go D E A Q 26 cells slots (lwB D.2 a S ++ hpW H) [(0, .ref (zB D.2)), (1, .ref (a 0)), (3, .ref x3), (4, .int x4), (5, .int x5), (6, .int x6), (7, .int x7), (16, .int x16), (17, .int x17), (18, .int x18), (19, .int x19), (20, .int x20)] 919 [.int r1]
      refine q_iload C dL_law_919 8 rfl ?_
      refine q_icmp_eq C 926 dL_law_921 (by decide) h (fun h => ?_) (fun h => ?_)
      · refine q_iload C dL_law_926 6 rfl ?_
        refine q_iconst C (v := 4) dL_law_928 (by decide) ?_
        refine q_ishr C dL_law_929 ?_
        refine q_iload C dL_law_930 3 rfl ?_
        refine p_callSI C (fun _ h => h) (lwB D.2 a S) (cL_below_ok _ h) cf_L_35 st_L_below rfl ⟨Nat.le_of_ble_eq_true rfl, Nat.le_of_ble_eq_true rfl⟩ ⟨by show cells + 0 ≤ bc0; omega, by show slots + 0 ≤ bs0; omega⟩ List.perm_append_comm (fun _ : Unit => lwB D.2 a S ++ hpW H) (fun _ => List.perm_append_comm) (rest := []) rfl (Nat.le_of_ble_eq_true rfl) dL_law_932 (fun r2 _ h => ?_)
        show Go D E A Q 26 cells slots (lwB D.2 a S ++ hpW H) [(0, .ref (zB D.2)), (1, .ref (a 0)), (3, .ref x3), (4, .int x4), (5, .int x5), (6, .int x6), (7, .int x7), (16, .int x16), (17, .int x17), (18, .int x18), (19, .int x19), (20, .int x20)] 935 [.int r2]
        refine q_istore C [(20, .int r2), (0, .ref (zB D.2)), (1, .ref (a 0)), (3, .ref x3), (4, .int x4), (5, .int x5), (6, .int x6), (7, .int x7), (16, .int x16), (17, .int x17), (18, .int x18), (19, .int x19)] dL_law_935 (by decide) rfl ?_
        refine q_aload_n C dL_law_937 2 rfl ?_
        refine q_iload C dL_law_938 0 rfl ?_
        refine lc_heightOf C h cf_L_203 ⟨Nat.le_of_ble_eq_true rfl, Nat.le_of_ble_eq_true rfl⟩ ⟨by show cells ≤ bc0; omega, by show slots ≤ bs0; omega⟩ (Nat.le_of_ble_eq_true rfl) dL_law_940 (fun r3 h => ?_)
        show Go D E A Q 26 cells slots (lwB D.2 a S ++ hpW H) [(20, .int r2), (0, .ref (zB D.2)), (1, .ref (a 0)), (3, .ref x3), (4, .int x4), (5, .int x5), (6, .int x6), (7, .int x7), (16, .int x16), (17, .int x17), (18, .int x18), (19, .int x19)] 943 [.int r3]
        refine q_if_ne C 949 dL_law_943 (by decide) h (fun h => ?_) (fun h => ?_)
        · refine q_aload_n C dL_law_949 2 rfl ?_
          refine q_iload C dL_law_950 0 rfl ?_
          refine lc_wouldSlide C h cf_L_272 ⟨Nat.le_of_ble_eq_true rfl, Nat.le_of_ble_eq_true rfl⟩ ⟨by show cells ≤ bc0; omega, by show slots ≤ bs0; omega⟩ (Nat.le_of_ble_eq_true rfl) dL_law_952 (fun r4 S4 h => ?_)
          show Go D E A Q 26 cells slots (lwB D.2 a S4 ++ hpW H) [(20, .int r2), (0, .ref (zB D.2)), (1, .ref (a 0)), (3, .ref x3), (4, .int x4), (5, .int x5), (6, .int x6), (7, .int x7), (16, .int x16), (17, .int x17), (18, .int x18), (19, .int x19)] 955 [.int r4]
          refine q_istore C [(21, .int r4), (20, .int r2), (0, .ref (zB D.2)), (1, .ref (a 0)), (3, .ref x3), (4, .int x4), (5, .int x5), (6, .int x6), (7, .int x7), (16, .int x16), (17, .int x17), (18, .int x18), (19, .int x19)] dL_law_955 (by decide) rfl ?_
          refine q_aload_n C dL_law_957 3 rfl ?_
          refine lc_slides C h cf_L_278 ⟨Nat.le_of_ble_eq_true rfl, Nat.le_of_ble_eq_true rfl⟩ ⟨by show cells ≤ bc0; omega, by show slots ≤ bs0; omega⟩ (Nat.le_of_ble_eq_true rfl) dL_law_958 (fun r5 h => ?_)
          show Go D E A Q 26 cells slots (lwB D.2 a S4 ++ hpW H) [(21, .int r4), (20, .int r2), (0, .ref (zB D.2)), (1, .ref (a 0)), (3, .ref x3), (4, .int x4), (5, .int x5), (6, .int x6), (7, .int x7), (16, .int x16), (17, .int x17), (18, .int x18), (19, .int x19)] 961 [.int r5]
          refine q_istore C [(22, .int r5), (21, .int r4), (20, .int r2), (0, .ref (zB D.2)), (1, .ref (a 0)), (3, .ref x3), (4, .int x4), (5, .int x5), (6, .int x6), (7, .int x7), (16, .int x16), (17, .int x17), (18, .int x18), (19, .int x19)] dL_law_961 (by decide) rfl ?_
          refine q_aload_n C dL_law_963 4 rfl ?_
          refine q_iload C dL_law_964 2 rfl ?_
          refine lc_isTopLoose C h cf_L_281 ⟨Nat.le_of_ble_eq_true rfl, Nat.le_of_ble_eq_true rfl⟩ ⟨by show cells ≤ bc0; omega, by show slots ≤ bs0; omega⟩ (Nat.le_of_ble_eq_true rfl) dL_law_966 (fun r6 h => ?_)
          show Go D E A Q 26 cells slots (lwB D.2 a S4 ++ hpW H) [(22, .int r5), (21, .int r4), (20, .int r2), (0, .ref (zB D.2)), (1, .ref (a 0)), (3, .ref x3), (4, .int x4), (5, .int x5), (6, .int x6), (7, .int x7), (16, .int x16), (17, .int x17), (18, .int x18), (19, .int x19)] 969 [.int r6]
          refine q_istore C [(23, .int r6), (22, .int r5), (21, .int r4), (20, .int r2), (0, .ref (zB D.2)), (1, .ref (a 0)), (3, .ref x3), (4, .int x4), (5, .int x5), (6, .int x6), (7, .int x7), (16, .int x16), (17, .int x17), (18, .int x18), (19, .int x19)] dL_law_969 (by decide) rfl ?_
          refine q_aload_n C dL_law_971 5 rfl ?_
          refine q_iload C dL_law_972 3 rfl ?_
          refine lc_topStratum C h cf_L_212 ⟨Nat.le_of_ble_eq_true rfl, Nat.le_of_ble_eq_true rfl⟩ ⟨by show cells ≤ bc0; omega, by show slots ≤ bs0; omega⟩ (Nat.le_of_ble_eq_true rfl) dL_law_974 (fun r7 h => ?_)
          show Go D E A Q 26 cells slots (lwB D.2 a S4 ++ hpW H) [(23, .int r6), (22, .int r5), (21, .int r4), (20, .int r2), (0, .ref (zB D.2)), (1, .ref (a 0)), (3, .ref x3), (4, .int x4), (5, .int x5), (6, .int x6), (7, .int x7), (16, .int x16), (17, .int x17), (18, .int x18), (19, .int x19)] 977 [.int r7]
          refine q_istore C [(24, .int r7), (23, .int r6), (22, .int r5), (21, .int r4), (20, .int r2), (0, .ref (zB D.2)), (1, .ref (a 0)), (3, .ref x3), (4, .int x4), (5, .int x5), (6, .int x6), (7, .int x7), (16, .int x16), (17, .int x17), (18, .int x18), (19, .int x19)] dL_law_977 (by decide) rfl ?_
          refine q_aload_n C dL_law_979 6 rfl ?_
          refine q_iload C dL_law_980 4 rfl ?_
          refine lc_dig C h cf_L_154 ⟨Nat.le_of_ble_eq_true rfl, Nat.le_of_ble_eq_true rfl⟩ ⟨by show cells ≤ bc0; omega, by show slots ≤ bs0; omega⟩ (Nat.le_of_ble_eq_true rfl) dL_law_982 (fun r8 S8 h => ?_)
          show Go D E A Q 26 cells slots (lwB D.2 a S8 ++ hpW H) [(24, .int r7), (23, .int r6), (22, .int r5), (21, .int r4), (20, .int r2), (0, .ref (zB D.2)), (1, .ref (a 0)), (3, .ref x3), (4, .int x4), (5, .int x5), (6, .int x6), (7, .int x7), (16, .int x16), (17, .int x17), (18, .int x18), (19, .int x19)] 985 [.int r8]
          refine q_istore C [(25, .int r8), (24, .int r7), (23, .int r6), (22, .int r5), (21, .int r4), (20, .int r2), (0, .ref (zB D.2)), (1, .ref (a 0)), (3, .ref x3), (4, .int x4), (5, .int x5), (6, .int x6), (7, .int x7), (16, .int x16), (17, .int x17), (18, .int x18), (19, .int x19)] dL_law_985 (by decide) rfl ?_
          refine q_iload C dL_law_987 0 rfl ?_
          refine q_aload_n C dL_law_989 8 rfl ?_
          refine q_iload C dL_law_990 5 rfl ?_
          obtain ⟨⟨fs9, hr9⟩, h⟩ := h
          obtain ⟨c9, s9, hc9, hs9, h⟩ := h
          refine p_callVI C (fun _ h => h) (lwB D.2 a S8) (cX9_dig_ok _ h) cf_L_157 im_X9_dig se_X9_dig (hRv_h (q := (RX9, TX9, 12)) hr9 rfl) rfl ⟨Nat.le_of_ble_eq_true rfl, Nat.le_of_ble_eq_true rfl⟩ ⟨by show cells + c9 ≤ bc0; omega, by show slots + s9 ≤ bs0; omega⟩ List.perm_append_comm (fun H9 : gH => lwB D.2 a S8 ++ hpW H9) (fun _ => List.perm_append_comm) (rest := [.int r8]) rfl (Nat.le_of_ble_eq_true rfl) dL_law_992 (fun r9 H9 h => ?_)
          show Go D E A Q 26 (cells + c9) (slots + s9) (lwB D.2 a S8 ++ hpW H9) [(25, .int r8), (24, .int r7), (23, .int r6), (22, .int r5), (21, .int r4), (20, .int r2), (0, .ref (zB D.2)), (1, .ref (a 0)), (3, .ref x3), (4, .int x4), (5, .int x5), (6, .int x6), (7, .int x7), (16, .int x16), (17, .int x17), (18, .int x18), (19, .int x19)] 995 [.int r9, .int r8]
          refine q_icmp_ne C 1046 dL_law_995 (by decide) h (fun h => ?_) (fun h => ?_)
          · refine q_iconst C (v := 0) dL_law_1046 (by decide) ?_
            exact h.elim
          · refine q_aload_n C dL_law_998 7 rfl ?_
            refine lc_slides C h cf_L_278 ⟨Nat.le_of_ble_eq_true rfl, Nat.le_of_ble_eq_true rfl⟩ ⟨by show cells + c9 ≤ bc0; omega, by show slots + s9 ≤ bs0; omega⟩ (Nat.le_of_ble_eq_true rfl) dL_law_999 (fun r10 h => ?_)
            show Go D E A Q 26 (cells + c9) (slots + s9) (lwB D.2 a S8 ++ hpW H9) [(25, .int r8), (24, .int r7), (23, .int r6), (22, .int r5), (21, .int r4), (20, .int r2), (0, .ref (zB D.2)), (1, .ref (a 0)), (3, .ref x3), (4, .int x4), (5, .int x5), (6, .int x6), (7, .int x7), (16, .int x16), (17, .int x17), (18, .int x18), (19, .int x19)] 1002 [.int r10]
            refine q_iload C dL_law_1002 3 rfl ?_
            refine q_iload C dL_law_1004 4 rfl ?_
            refine q_iadd C dL_law_1006 ?_
            refine q_icmp_ne C 1046 dL_law_1007 (by decide) h (fun h => ?_) (fun h => ?_)
            · refine q_iconst C (v := 0) dL_law_1046 (by decide) ?_
              exact h.elim
            · refine q_iload C dL_law_1010 0 rfl ?_
              refine q_if_lt C 1048 dL_law_1012 (by decide) h (fun h => ?_) (fun h => ?_)
              · refine q_ls [(0, .ref (zB D.2)), (1, .ref (a 0)), (3, .ref x3), (4, .int x4), (5, .int x5), (6, .int x6)] [6, 7, 8, 9, 10, 11] rfl ?_
                exact bL_law_1048 C (KL50 := KL50) hret hKL50 (cells + c9) (slots + s9) _ _ _ _ _ _ _ _ (by omega) (by omega) h
              · refine q_aload_n C dL_law_1015 7 rfl ?_
                refine q_iload C dL_law_1016 0 rfl ?_
                refine lc_isFound C h cf_L_238 ⟨Nat.le_of_ble_eq_true rfl, Nat.le_of_ble_eq_true rfl⟩ ⟨by show cells + c9 ≤ bc0; omega, by show slots + s9 ≤ bs0; omega⟩ (Nat.le_of_ble_eq_true rfl) dL_law_1018 (fun r11 h => ?_)
                show Go D E A Q 26 (cells + c9) (slots + s9) (lwB D.2 a S8 ++ hpW H9) [(25, .int r8), (24, .int r7), (23, .int r6), (22, .int r5), (21, .int r4), (20, .int r2), (0, .ref (zB D.2)), (1, .ref (a 0)), (3, .ref x3), (4, .int x4), (5, .int x5), (6, .int x6), (7, .int x7), (16, .int x16), (17, .int x17), (18, .int x18), (19, .int x19)] 1021 [.int r11]
                refine q_if_eq C 1046 dL_law_1021 (by decide) h (fun h => ?_) (fun h => ?_)
                · refine q_iconst C (v := 0) dL_law_1046 (by decide) ?_
                  exact h.elim
                · refine q_aload_n C dL_law_1024 7 rfl ?_
                  refine q_iload C dL_law_1025 0 rfl ?_
                  refine lc_isSure C h cf_L_241 ⟨Nat.le_of_ble_eq_true rfl, Nat.le_of_ble_eq_true rfl⟩ ⟨by show cells + c9 ≤ bc0; omega, by show slots + s9 ≤ bs0; omega⟩ (Nat.le_of_ble_eq_true rfl) dL_law_1027 (fun r12 h => ?_)
                  show Go D E A Q 26 (cells + c9) (slots + s9) (lwB D.2 a S8 ++ hpW H9) [(25, .int r8), (24, .int r7), (23, .int r6), (22, .int r5), (21, .int r4), (20, .int r2), (0, .ref (zB D.2)), (1, .ref (a 0)), (3, .ref x3), (4, .int x4), (5, .int x5), (6, .int x6), (7, .int x7), (16, .int x16), (17, .int x17), (18, .int x18), (19, .int x19)] 1030 [.int r12]
                  refine q_iload C dL_law_1030 2 rfl ?_
                  refine q_icmp_eq C 1046 dL_law_1032 (by decide) h (fun h => ?_) (fun h => ?_)
                  · refine q_iconst C (v := 0) dL_law_1046 (by decide) ?_
                    exact h.elim
                  · refine q_aload_n C dL_law_1035 7 rfl ?_
                    refine q_iload C dL_law_1036 0 rfl ?_
                    refine lc_stratumOf C h cf_L_247 ⟨Nat.le_of_ble_eq_true rfl, Nat.le_of_ble_eq_true rfl⟩ ⟨by show cells + c9 ≤ bc0; omega, by show slots + s9 ≤ bs0; omega⟩ (Nat.le_of_ble_eq_true rfl) dL_law_1038 (fun r13 h => ?_)
                    show Go D E A Q 26 (cells + c9) (slots + s9) (lwB D.2 a S8 ++ hpW H9) [(25, .int r8), (24, .int r7), (23, .int r6), (22, .int r5), (21, .int r4), (20, .int r2), (0, .ref (zB D.2)), (1, .ref (a 0)), (3, .ref x3), (4, .int x4), (5, .int x5), (6, .int x6), (7, .int x7), (16, .int x16), (17, .int x17), (18, .int x18), (19, .int x19)] 1041 [.int r13]
                    refine q_iload C dL_law_1041 1 rfl ?_
                    refine q_icmp_eq C 1048 dL_law_1043 (by decide) h (fun h => ?_) (fun h => ?_)
                    · refine q_ls [(0, .ref (zB D.2)), (1, .ref (a 0)), (3, .ref x3), (4, .int x4), (5, .int x5), (6, .int x6)] [6, 7, 8, 9, 10, 11] rfl ?_
                      exact bL_law_1048 C (KL50 := KL50) hret hKL50 (cells + c9) (slots + s9) _ _ _ _ _ _ _ _ (by omega) (by omega) h
                    · refine q_iconst C (v := 0) dL_law_1046 (by decide) ?_
                      exact h.elim
        · refine q_goto (tgt := 1048) C dL_law_946 (by decide) ?_
          refine q_ls [(0, .ref (zB D.2)), (1, .ref (a 0)), (3, .ref x3), (4, .int x4), (5, .int x5), (6, .int x6)] [1, 2, 3, 4, 5, 6] rfl ?_
          exact bL_law_1048 C (KL50 := KL50) hret hKL50 cells slots _ _ _ _ _ _ _ _ (by omega) (by omega) h
      · refine q_iconst C (v := 0) dL_law_924 (by decide) ?_
        exact h.elim
    · refine q_aload_n C dL_law_850 1 rfl ?_
      refine q_iconst C (v := 1) dL_law_851 (by decide) ?_
      refine lc_passDays C h cf_L_177 ⟨Nat.le_of_ble_eq_true rfl, Nat.le_of_ble_eq_true rfl⟩ ⟨by show cells ≤ bc0; omega, by show slots ≤ bs0; omega⟩ (Nat.le_of_ble_eq_true rfl) dL_law_852 (fun r14 S14 h => ?_)
      show Go D E A Q 26 cells slots (lwB D.2 a S14 ++ hpW H) [(0, .ref (zB D.2)), (1, .ref (a 0)), (3, .ref x3), (4, .int x4), (5, .int x5), (6, .int x6), (7, .int x7), (16, .int x16), (17, .int x17), (18, .int x18), (19, .int x19), (20, .int x20)] 855 [.int r14]
      refine q_aload_n C dL_law_855 2 rfl ?_
      obtain ⟨⟨fs9, hr9⟩, h⟩ := h
      obtain ⟨c15, s15, hc15, hs15, h⟩ := h
      refine p_callVI C (fun _ h => h) (lwB D.2 a S14) (cX9_pass_ok _ h) cf_L_174 im_X9_pass se_X9_pass (hRv_h (q := (RX9, TX9, 12)) hr9 rfl) rfl ⟨Nat.le_of_ble_eq_true rfl, Nat.le_of_ble_eq_true rfl⟩ ⟨by show cells + c15 ≤ bc0; omega, by show slots + s15 ≤ bs0; omega⟩ List.perm_append_comm (fun H15 : gH => lwB D.2 a S14 ++ hpW H15) (fun _ => List.perm_append_comm) (rest := [.int r14]) rfl (Nat.le_of_ble_eq_true rfl) dL_law_856 (fun r15 H15 h => ?_)
      show Go D E A Q 26 (cells + c15) (slots + s15) (lwB D.2 a S14 ++ hpW H15) [(0, .ref (zB D.2)), (1, .ref (a 0)), (3, .ref x3), (4, .int x4), (5, .int x5), (6, .int x6), (7, .int x7), (16, .int x16), (17, .int x17), (18, .int x18), (19, .int x19), (20, .int x20)] 859 [.int r15, .int r14]
      refine q_icmp_ne C 907 dL_law_859 (by decide) h (fun h => ?_) (fun h => ?_)
      · refine q_iconst C (v := 0) dL_law_907 (by decide) ?_
        exact h.elim
      · refine q_iload C dL_law_862 9 rfl ?_
        refine q_if_lt C 893 dL_law_864 (by decide) h (fun h => ?_) (fun h => ?_)
        · exact bL_law_893 C (KL50 := KL50) (KL843 := (wL_law_843 KL50 D.2 a n)) hret hKL50 ih (cells + c15) (slots + s15) _ _ _ _ _ _ _ _ _ _ _ _ _ _ (by omega) (by omega) h
        · refine q_iload C dL_law_867 10 rfl ?_
          refine q_if_lt C 893 dL_law_869 (by decide) h (fun h => ?_) (fun h => ?_)
          · exact bL_law_893 C (KL50 := KL50) (KL843 := (wL_law_843 KL50 D.2 a n)) hret hKL50 ih (cells + c15) (slots + s15) _ _ _ _ _ _ _ _ _ _ _ _ _ _ (by omega) (by omega) h
          · refine q_aload_n C dL_law_872 1 rfl ?_
            refine q_iload C dL_law_873 9 rfl ?_
            refine lc_isFound C h cf_L_238 ⟨Nat.le_of_ble_eq_true rfl, Nat.le_of_ble_eq_true rfl⟩ ⟨by show cells + c15 ≤ bc0; omega, by show slots + s15 ≤ bs0; omega⟩ (Nat.le_of_ble_eq_true rfl) dL_law_875 (fun r16 h => ?_)
            show Go D E A Q 26 (cells + c15) (slots + s15) (lwB D.2 a S14 ++ hpW H15) [(0, .ref (zB D.2)), (1, .ref (a 0)), (3, .ref x3), (4, .int x4), (5, .int x5), (6, .int x6), (7, .int x7), (16, .int x16), (17, .int x17), (18, .int x18), (19, .int x19), (20, .int x20)] 878 [.int r16]
            refine q_iload C dL_law_878 11 rfl ?_
            refine q_iload C dL_law_880 10 rfl ?_
            refine q_icmp_lt C 889 dL_law_882 (by decide) h (fun h => ?_) (fun h => ?_)
            · refine q_iconst C (v := 0) dL_law_889 (by decide) ?_
              exact bL_law_890 C (KL50 := KL50) (KL843 := (wL_law_843 KL50 D.2 a n)) hret hKL50 ih (cells + c15) (slots + s15) _ _ _ _ _ _ _ _ _ _ _ _ _ _ _ _ (by omega) (by omega) h
            · refine q_iconst C (v := 1) dL_law_885 (by decide) ?_
              refine q_goto (tgt := 890) C dL_law_886 (by decide) ?_
              exact bL_law_890 C (KL50 := KL50) (KL843 := (wL_law_843 KL50 D.2 a n)) hret hKL50 ih (cells + c15) (slots + s15) _ _ _ _ _ _ _ _ _ _ _ _ _ _ _ _ (by omega) (by omega) h
def wL_law_838 (KL50 : gH → Nat → Nat → cLS → Nat → Int32 → Int32 → Int32 → Prop) (Z : gZ) (a : gA) (H : gH) (bc : Nat) (bs : Nat) (S : cLS) (x3 : Nat) (x4 : Int32) (x5 : Int32) (x6 : Int32) (x7 : Int32) (x16 : Int32) (x17 : Int32) (x18 : Int32) (z0 : Int32) : Prop :=
  ∃ k9 : Nat, wL_law_843 KL50 Z a k9 H bc bs S x3 x4 x5 x6 x7 x16 x17 x18 z0 1
set_option maxRecDepth 100000 in
set_option maxHeartbeats 4000000 in
theorem bL_law_838 {D : gD} {E : gE} {A : Nat → Prop} {Q : State → Prop} {bc0 bs0 : Nat} {a : gA} (C : CL D E (rmL_law bc0 bs0) cL_law 26 RL A) (hret : ∀ (w : va_W) (ls : List (Nat × Value)) (pc : Nat), decode cL_law pc = .ok (.ireturn, 1) → Go D E A Q 26 bc0 bs0 w ls pc [.int 1]) {KL50 : gH → Nat → Nat → cLS → Nat → Int32 → Int32 → Int32 → Prop} (hKL50 : ∀ (cells slots : Nat) (H : gH) (bc : Nat) (bs : Nat) (S : cLS) (x3 : Nat) (x4 : Int32) (x5 : Int32) (x6 : Int32), cells + bc ≤ bc0 → slots + bs ≤ bs0 → KL50 H bc bs S x3 x4 x5 x6 → Go D E A Q 26 cells slots (lwB D.2 a S ++ hpW H) [(0, .ref (zB D.2)), (1, .ref (a 0)), (3, .ref x3), (4, .int x4), (5, .int x5), (6, .int x6)] 50 []) : ∀ (cells slots : Nat) (H : gH) (bc : Nat) (bs : Nat) (S : cLS) (x3 : Nat) (x4 : Int32) (x5 : Int32) (x6 : Int32) (x7 : Int32) (x16 : Int32) (x17 : Int32) (x18 : Int32) (z0 : Int32), cells + bc ≤ bc0 → slots + bs ≤ bs0 → wL_law_838 KL50 D.2 a H bc bs S x3 x4 x5 x6 x7 x16 x17 x18 z0 → Go D E A Q 26 cells slots (lwB D.2 a S ++ hpW H) [(0, .ref (zB D.2)), (1, .ref (a 0)), (3, .ref x3), (4, .int x4), (5, .int x5), (6, .int x6), (7, .int x7), (16, .int x16), (17, .int x17), (18, .int x18)] 838 [.int z0] := by
  intro cells slots H bc bs S x3 x4 x5 x6 x7 x16 x17 x18 z0 hbc hbs h
  unfold wL_law_838 at h
  refine q_istore C [(19, .int z0), (0, .ref (zB D.2)), (1, .ref (a 0)), (3, .ref x3), (4, .int x4), (5, .int x5), (6, .int x6), (7, .int x7), (16, .int x16), (17, .int x17), (18, .int x18)] dL_law_838 (by decide) rfl ?_
  refine q_iconst C (v := 1) dL_law_840 (by decide) ?_
  refine q_istore C [(20, .int 1), (19, .int z0), (0, .ref (zB D.2)), (1, .ref (a 0)), (3, .ref x3), (4, .int x4), (5, .int x5), (6, .int x6), (7, .int x7), (16, .int x16), (17, .int x17), (18, .int x18)] dL_law_841 (by decide) rfl ?_
  refine q_ls [(0, .ref (zB D.2)), (1, .ref (a 0)), (3, .ref x3), (4, .int x4), (5, .int x5), (6, .int x6), (7, .int x7), (16, .int x16), (17, .int x17), (18, .int x18), (19, .int z0), (20, .int 1)] [2, 3, 4, 5, 6, 7, 8, 9, 10, 11, 1, 0] rfl ?_
  obtain ⟨nw, h⟩ := h
  exact bL_law_843 C (KL50 := KL50) hret hKL50 nw cells slots _ _ _ _ _ _ _ _ _ _ _ _ _ _ (by omega) (by omega) h
def wL_law_821 (KL50 : gH → Nat → Nat → cLS → Nat → Int32 → Int32 → Int32 → Prop) (Z : gZ) (a : gA) (H : gH) (bc : Nat) (bs : Nat) (S : cLS) (x3 : Nat) (x4 : Int32) (x5 : Int32) (x6 : Int32) (x7 : Int32) (x16 : Int32) (x17 : Int32) (z0 : Int32) : Prop :=
  ((0 ≤ z0 → kX8_daysUntilFound a S z0 (fun r1 S1 => wL_law_838 KL50 Z a H bc bs S1 x3 x4 x5 x6 x7 x16 x17 z0 r1)) ∧ (¬ 0 ≤ z0 → wL_law_838 KL50 Z a H bc bs S x3 x4 x5 x6 x7 x16 x17 z0 0))
set_option maxRecDepth 100000 in
set_option maxHeartbeats 4000000 in
theorem bL_law_821 {D : gD} {E : gE} {A : Nat → Prop} {Q : State → Prop} {bc0 bs0 : Nat} {a : gA} (C : CL D E (rmL_law bc0 bs0) cL_law 26 RL A) (hret : ∀ (w : va_W) (ls : List (Nat × Value)) (pc : Nat), decode cL_law pc = .ok (.ireturn, 1) → Go D E A Q 26 bc0 bs0 w ls pc [.int 1]) {KL50 : gH → Nat → Nat → cLS → Nat → Int32 → Int32 → Int32 → Prop} (hKL50 : ∀ (cells slots : Nat) (H : gH) (bc : Nat) (bs : Nat) (S : cLS) (x3 : Nat) (x4 : Int32) (x5 : Int32) (x6 : Int32), cells + bc ≤ bc0 → slots + bs ≤ bs0 → KL50 H bc bs S x3 x4 x5 x6 → Go D E A Q 26 cells slots (lwB D.2 a S ++ hpW H) [(0, .ref (zB D.2)), (1, .ref (a 0)), (3, .ref x3), (4, .int x4), (5, .int x5), (6, .int x6)] 50 []) : ∀ (cells slots : Nat) (H : gH) (bc : Nat) (bs : Nat) (S : cLS) (x3 : Nat) (x4 : Int32) (x5 : Int32) (x6 : Int32) (x7 : Int32) (x16 : Int32) (x17 : Int32) (z0 : Int32), cells + bc ≤ bc0 → slots + bs ≤ bs0 → wL_law_821 KL50 D.2 a H bc bs S x3 x4 x5 x6 x7 x16 x17 z0 → Go D E A Q 26 cells slots (lwB D.2 a S ++ hpW H) [(0, .ref (zB D.2)), (1, .ref (a 0)), (3, .ref x3), (4, .int x4), (5, .int x5), (6, .int x6), (7, .int x7), (16, .int x16), (17, .int x17)] 821 [.int z0] := by
  intro cells slots H bc bs S x3 x4 x5 x6 x7 x16 x17 z0 hbc hbs h
  unfold wL_law_821 at h
  refine q_istore C [(18, .int z0), (0, .ref (zB D.2)), (1, .ref (a 0)), (3, .ref x3), (4, .int x4), (5, .int x5), (6, .int x6), (7, .int x7), (16, .int x16), (17, .int x17)] dL_law_821 (by decide) rfl ?_
  refine q_iload C dL_law_823 0 rfl ?_
  refine q_if_ge C 832 dL_law_825 (by decide) h (fun h => ?_) (fun h => ?_)
  · refine q_aload_n C dL_law_832 2 rfl ?_
    refine q_iload C dL_law_833 0 rfl ?_
    refine lc_daysUntilFound C h cf_L_250 ⟨Nat.le_of_ble_eq_true rfl, Nat.le_of_ble_eq_true rfl⟩ ⟨by show cells ≤ bc0; omega, by show slots ≤ bs0; omega⟩ (Nat.le_of_ble_eq_true rfl) dL_law_835 (fun r1 S1 h => ?_)
    show Go D E A Q 26 cells slots (lwB D.2 a S1 ++ hpW H) [(18, .int z0), (0, .ref (zB D.2)), (1, .ref (a 0)), (3, .ref x3), (4, .int x4), (5, .int x5), (6, .int x6), (7, .int x7), (16, .int x16), (17, .int x17)] 838 [.int r1]
    refine q_ls [(0, .ref (zB D.2)), (1, .ref (a 0)), (3, .ref x3), (4, .int x4), (5, .int x5), (6, .int x6), (7, .int x7), (16, .int x16), (17, .int x17), (18, .int z0)] [1, 2, 3, 4, 5, 6, 7, 8, 9, 0] rfl ?_
    exact bL_law_838 C (KL50 := KL50) hret hKL50 cells slots _ _ _ _ _ _ _ _ _ _ _ _ _ (by omega) (by omega) h
  · refine q_iconst C (v := 0) dL_law_828 (by decide) ?_
    refine q_goto (tgt := 838) C dL_law_829 (by decide) ?_
    refine q_ls [(0, .ref (zB D.2)), (1, .ref (a 0)), (3, .ref x3), (4, .int x4), (5, .int x5), (6, .int x6), (7, .int x7), (16, .int x16), (17, .int x17), (18, .int z0)] [1, 2, 3, 4, 5, 6, 7, 8, 9, 0] rfl ?_
    exact bL_law_838 C (KL50 := KL50) hret hKL50 cells slots _ _ _ _ _ _ _ _ _ _ _ _ _ (by omega) (by omega) h
def wL_law_767 (KL50 : gH → Nat → Nat → cLS → Nat → Int32 → Int32 → Int32 → Prop) (Z : gZ) (a : gA) (H : gH) (bc : Nat) (bs : Nat) (S : cLS) (x3 : Nat) (x4 : Int32) (x5 : Int32) (x6 : Int32) (x7 : Int32) (x8 : Int64) : Prop :=
  kX8_digest a S (fun r1 S1 => ((lg_cmp r1 x8 = 0 → wL_below Z H (x7 >>> (5 &&& 31)) 5 (fun r2 => kX8_foundAfter a S1 (1 + r2) (fun r3 S3 => kX8_finds a S3 (fun r4 => ((¬ r4 = 0 → kX8_finds a S3 (fun r5 => wL_below Z H (x7 >>> (3 &&& 31)) r5 (fun r6 => wL_law_821 KL50 Z a H bc bs S3 x3 x4 x5 x6 x7 (1 + r2) r3 r6))) ∧ (r4 = 0 → wL_law_821 KL50 Z a H bc bs S3 x3 x4 x5 x6 x7 (1 + r2) r3 (-1))))))) ∧ (¬ lg_cmp r1 x8 = 0 → False)))
set_option maxRecDepth 100000 in
set_option maxHeartbeats 4000000 in
theorem bL_law_767 {D : gD} {E : gE} {A : Nat → Prop} {Q : State → Prop} {bc0 bs0 : Nat} {a : gA} (C : CL D E (rmL_law bc0 bs0) cL_law 26 RL A) (hret : ∀ (w : va_W) (ls : List (Nat × Value)) (pc : Nat), decode cL_law pc = .ok (.ireturn, 1) → Go D E A Q 26 bc0 bs0 w ls pc [.int 1]) {KL50 : gH → Nat → Nat → cLS → Nat → Int32 → Int32 → Int32 → Prop} (hKL50 : ∀ (cells slots : Nat) (H : gH) (bc : Nat) (bs : Nat) (S : cLS) (x3 : Nat) (x4 : Int32) (x5 : Int32) (x6 : Int32), cells + bc ≤ bc0 → slots + bs ≤ bs0 → KL50 H bc bs S x3 x4 x5 x6 → Go D E A Q 26 cells slots (lwB D.2 a S ++ hpW H) [(0, .ref (zB D.2)), (1, .ref (a 0)), (3, .ref x3), (4, .int x4), (5, .int x5), (6, .int x6)] 50 []) : ∀ (cells slots : Nat) (H : gH) (bc : Nat) (bs : Nat) (S : cLS) (x3 : Nat) (x4 : Int32) (x5 : Int32) (x6 : Int32) (x7 : Int32) (x8 : Int64), cells + bc ≤ bc0 → slots + bs ≤ bs0 → wL_law_767 KL50 D.2 a H bc bs S x3 x4 x5 x6 x7 x8 → Go D E A Q 26 cells slots (lwB D.2 a S ++ hpW H) [(0, .ref (zB D.2)), (1, .ref (a 0)), (3, .ref x3), (4, .int x4), (5, .int x5), (6, .int x6), (7, .int x7), (8, .long x8)] 767 [] := by
  intro cells slots H bc bs S x3 x4 x5 x6 x7 x8 hbc hbs h
  unfold wL_law_767 at h
  refine q_aload_n C dL_law_767 1 rfl ?_
  refine lc_digest C h cf_L_199 ⟨Nat.le_of_ble_eq_true rfl, Nat.le_of_ble_eq_true rfl⟩ ⟨by show cells ≤ bc0; omega, by show slots ≤ bs0; omega⟩ (Nat.le_of_ble_eq_true rfl) dL_law_768 (fun r1 S1 h => ?_)
  show Go D E A Q 26 cells slots (lwB D.2 a S1 ++ hpW H) [(0, .ref (zB D.2)), (1, .ref (a 0)), (3, .ref x3), (4, .int x4), (5, .int x5), (6, .int x6), (7, .int x7), (8, .long x8)] 771 [.long r1]
  refine q_lload C dL_law_771 7 rfl ?_
  refine q_lcmp C dL_law_773 ?_
  refine q_if_eq C 779 dL_law_774 (by decide) h (fun h => ?_) (fun h => ?_)
  · refine q_iconst C (v := 1) dL_law_779 (by decide) ?_
    refine q_iload C dL_law_780 6 rfl ?_
    refine q_iconst C (v := 5) dL_law_782 (by decide) ?_
    refine q_ishr C dL_law_783 ?_
    refine q_iconst C (v := 5) dL_law_784 (by decide) ?_
    refine p_callSI C (fun _ h => h) (lwB D.2 a S1) (cL_below_ok _ h) cf_L_35 st_L_below rfl ⟨Nat.le_of_ble_eq_true rfl, Nat.le_of_ble_eq_true rfl⟩ ⟨by show cells + 0 ≤ bc0; omega, by show slots + 0 ≤ bs0; omega⟩ List.perm_append_comm (fun _ : Unit => lwB D.2 a S1 ++ hpW H) (fun _ => List.perm_append_comm) (rest := [.int 1]) rfl (Nat.le_of_ble_eq_true rfl) dL_law_785 (fun r2 _ h => ?_)
    show Go D E A Q 26 cells slots (lwB D.2 a S1 ++ hpW H) [(0, .ref (zB D.2)), (1, .ref (a 0)), (3, .ref x3), (4, .int x4), (5, .int x5), (6, .int x6), (7, .int x7), (8, .long x8)] 788 [.int r2, .int 1]
    refine q_iadd C dL_law_788 ?_
    refine q_istore C [(16, .int (1 + r2)), (0, .ref (zB D.2)), (1, .ref (a 0)), (3, .ref x3), (4, .int x4), (5, .int x5), (6, .int x6), (7, .int x7), (8, .long x8)] dL_law_789 (by decide) rfl ?_
    refine q_aload_n C dL_law_791 2 rfl ?_
    refine q_iload C dL_law_792 0 rfl ?_
    refine lc_foundAfter C h cf_L_275 ⟨Nat.le_of_ble_eq_true rfl, Nat.le_of_ble_eq_true rfl⟩ ⟨by show cells ≤ bc0; omega, by show slots ≤ bs0; omega⟩ (Nat.le_of_ble_eq_true rfl) dL_law_794 (fun r3 S3 h => ?_)
    show Go D E A Q 26 cells slots (lwB D.2 a S3 ++ hpW H) [(16, .int (1 + r2)), (0, .ref (zB D.2)), (1, .ref (a 0)), (3, .ref x3), (4, .int x4), (5, .int x5), (6, .int x6), (7, .int x7), (8, .long x8)] 797 [.int r3]
    refine q_istore C [(17, .int r3), (16, .int (1 + r2)), (0, .ref (zB D.2)), (1, .ref (a 0)), (3, .ref x3), (4, .int x4), (5, .int x5), (6, .int x6), (7, .int x7), (8, .long x8)] dL_law_797 (by decide) rfl ?_
    refine q_aload_n C dL_law_799 3 rfl ?_
    refine lc_finds C h cf_L_232 ⟨Nat.le_of_ble_eq_true rfl, Nat.le_of_ble_eq_true rfl⟩ ⟨by show cells ≤ bc0; omega, by show slots ≤ bs0; omega⟩ (Nat.le_of_ble_eq_true rfl) dL_law_800 (fun r4 h => ?_)
    show Go D E A Q 26 cells slots (lwB D.2 a S3 ++ hpW H) [(17, .int r3), (16, .int (1 + r2)), (0, .ref (zB D.2)), (1, .ref (a 0)), (3, .ref x3), (4, .int x4), (5, .int x5), (6, .int x6), (7, .int x7), (8, .long x8)] 803 [.int r4]
    refine q_if_ne C 810 dL_law_803 (by decide) h (fun h => ?_) (fun h => ?_)
    · refine q_iload C dL_law_810 8 rfl ?_
      refine q_iconst C (v := 3) dL_law_812 (by decide) ?_
      refine q_ishr C dL_law_813 ?_
      refine q_aload_n C dL_law_814 3 rfl ?_
      refine lc_finds C h cf_L_232 ⟨Nat.le_of_ble_eq_true rfl, Nat.le_of_ble_eq_true rfl⟩ ⟨by show cells ≤ bc0; omega, by show slots ≤ bs0; omega⟩ (Nat.le_of_ble_eq_true rfl) dL_law_815 (fun r5 h => ?_)
      show Go D E A Q 26 cells slots (lwB D.2 a S3 ++ hpW H) [(17, .int r3), (16, .int (1 + r2)), (0, .ref (zB D.2)), (1, .ref (a 0)), (3, .ref x3), (4, .int x4), (5, .int x5), (6, .int x6), (7, .int x7), (8, .long x8)] 818 [.int r5, .int (x7 >>> (3 &&& 31))]
      refine p_callSI C (fun _ h => h) (lwB D.2 a S3) (cL_below_ok _ h) cf_L_35 st_L_below rfl ⟨Nat.le_of_ble_eq_true rfl, Nat.le_of_ble_eq_true rfl⟩ ⟨by show cells + 0 ≤ bc0; omega, by show slots + 0 ≤ bs0; omega⟩ List.perm_append_comm (fun _ : Unit => lwB D.2 a S3 ++ hpW H) (fun _ => List.perm_append_comm) (rest := []) rfl (Nat.le_of_ble_eq_true rfl) dL_law_818 (fun r6 _ h => ?_)
      show Go D E A Q 26 cells slots (lwB D.2 a S3 ++ hpW H) [(17, .int r3), (16, .int (1 + r2)), (0, .ref (zB D.2)), (1, .ref (a 0)), (3, .ref x3), (4, .int x4), (5, .int x5), (6, .int x6), (7, .int x7), (8, .long x8)] 821 [.int r6]
      refine q_ls [(0, .ref (zB D.2)), (1, .ref (a 0)), (3, .ref x3), (4, .int x4), (5, .int x5), (6, .int x6), (7, .int x7), (16, .int (1 + r2)), (17, .int r3)] [2, 3, 4, 5, 6, 7, 8, 1, 0] rfl ?_
      exact bL_law_821 C (KL50 := KL50) hret hKL50 cells slots _ _ _ _ _ _ _ _ _ _ _ _ (by omega) (by omega) h
    · refine q_iconst C (v := (-1)) dL_law_806 (by decide) ?_
      refine q_goto (tgt := 821) C dL_law_807 (by decide) ?_
      refine q_ls [(0, .ref (zB D.2)), (1, .ref (a 0)), (3, .ref x3), (4, .int x4), (5, .int x5), (6, .int x6), (7, .int x7), (16, .int (1 + r2)), (17, .int r3)] [2, 3, 4, 5, 6, 7, 8, 1, 0] rfl ?_
      exact bL_law_821 C (KL50 := KL50) hret hKL50 cells slots _ _ _ _ _ _ _ _ _ _ _ _ (by omega) (by omega) h
  · refine q_iconst C (v := 0) dL_law_777 (by decide) ?_
    exact h.elim
def wL_law_751 (KL50 : gH → Nat → Nat → cLS → Nat → Int32 → Int32 → Int32 → Prop) (KL683 : gH → Nat → Nat → cLS → Nat → Int32 → Int32 → Int32 → Int32 → Int64 → Int32 → Int32 → Int32 → Prop) (Z : gZ) (a : gA) (H : gH) (bc : Nat) (bs : Nat) (S : cLS) (x3 : Nat) (x4 : Int32) (x5 : Int32) (x6 : Int32) (x7 : Int32) (x8 : Int64) (x10 : Int32) (x15 : Int32) (x16 : Int32) : Prop :=
  KL683 H bc bs S x3 x4 x5 x6 x7 x8 x10 x15 (x16 + 1)
set_option maxRecDepth 100000 in
set_option maxHeartbeats 4000000 in
theorem bL_law_751 {D : gD} {E : gE} {A : Nat → Prop} {Q : State → Prop} {bc0 bs0 : Nat} {a : gA} (C : CL D E (rmL_law bc0 bs0) cL_law 26 RL A) (hret : ∀ (w : va_W) (ls : List (Nat × Value)) (pc : Nat), decode cL_law pc = .ok (.ireturn, 1) → Go D E A Q 26 bc0 bs0 w ls pc [.int 1]) {KL50 : gH → Nat → Nat → cLS → Nat → Int32 → Int32 → Int32 → Prop} (hKL50 : ∀ (cells slots : Nat) (H : gH) (bc : Nat) (bs : Nat) (S : cLS) (x3 : Nat) (x4 : Int32) (x5 : Int32) (x6 : Int32), cells + bc ≤ bc0 → slots + bs ≤ bs0 → KL50 H bc bs S x3 x4 x5 x6 → Go D E A Q 26 cells slots (lwB D.2 a S ++ hpW H) [(0, .ref (zB D.2)), (1, .ref (a 0)), (3, .ref x3), (4, .int x4), (5, .int x5), (6, .int x6)] 50 []) {KL683 : gH → Nat → Nat → cLS → Nat → Int32 → Int32 → Int32 → Int32 → Int64 → Int32 → Int32 → Int32 → Prop} (hKL683 : ∀ (cells slots : Nat) (H : gH) (bc : Nat) (bs : Nat) (S : cLS) (x3 : Nat) (x4 : Int32) (x5 : Int32) (x6 : Int32) (x7 : Int32) (x8 : Int64) (x10 : Int32) (x15 : Int32) (x16 : Int32), cells + bc ≤ bc0 → slots + bs ≤ bs0 → KL683 H bc bs S x3 x4 x5 x6 x7 x8 x10 x15 x16 → Go D E A Q 26 cells slots (lwB D.2 a S ++ hpW H) [(0, .ref (zB D.2)), (1, .ref (a 0)), (3, .ref x3), (4, .int x4), (5, .int x5), (6, .int x6), (7, .int x7), (8, .long x8), (10, .int x10), (15, .int x15), (16, .int x16)] 683 []) : ∀ (cells slots : Nat) (H : gH) (bc : Nat) (bs : Nat) (S : cLS) (x3 : Nat) (x4 : Int32) (x5 : Int32) (x6 : Int32) (x7 : Int32) (x8 : Int64) (x10 : Int32) (x15 : Int32) (x16 : Int32), cells + bc ≤ bc0 → slots + bs ≤ bs0 → wL_law_751 KL50 KL683 D.2 a H bc bs S x3 x4 x5 x6 x7 x8 x10 x15 x16 → Go D E A Q 26 cells slots (lwB D.2 a S ++ hpW H) [(0, .ref (zB D.2)), (1, .ref (a 0)), (3, .ref x3), (4, .int x4), (5, .int x5), (6, .int x6), (7, .int x7), (8, .long x8), (10, .int x10), (15, .int x15), (16, .int x16)] 751 [] := by
  intro cells slots H bc bs S x3 x4 x5 x6 x7 x8 x10 x15 x16 hbc hbs h
  unfold wL_law_751 at h
  refine q_iinc C (v := x16 + 1) [(16, .int (x16 + 1)), (0, .ref (zB D.2)), (1, .ref (a 0)), (3, .ref x3), (4, .int x4), (5, .int x5), (6, .int x6), (7, .int x7), (8, .long x8), (10, .int x10), (15, .int x15)] dL_law_751 10 rfl rfl (by decide) rfl ?_
  refine q_goto (tgt := 683) C dL_law_754 (by decide) ?_
  refine q_ls [(0, .ref (zB D.2)), (1, .ref (a 0)), (3, .ref x3), (4, .int x4), (5, .int x5), (6, .int x6), (7, .int x7), (8, .long x8), (10, .int x10), (15, .int x15), (16, .int (x16 + 1))] [1, 2, 3, 4, 5, 6, 7, 8, 9, 10, 0] rfl ?_
  exact hKL683 cells slots _ _ _ _ _ _ _ _ _ _ _ _ _ (by omega) (by omega) h
def wL_law_683 (KL50 : gH → Nat → Nat → cLS → Nat → Int32 → Int32 → Int32 → Prop) (Z : gZ) (a : gA) : Nat → gH → Nat → Nat → cLS → Nat → Int32 → Int32 → Int32 → Int32 → Int64 → Int32 → Int32 → Int32 → Prop
  | 0, _, _, _, _, _, _, _, _, _, _, _, _, _ => False
  | n + 1, H, bc, bs, S, x3, x4, x5, x6, x7, x8, x10, x15, x16 =>
  ((x4 ≤ x16 → ((0 ≤ x15 → wL_law_767 KL50 Z a H bc bs S x3 x4 x5 x6 x7 x8) ∧ (¬ 0 ≤ x15 → ((0 < x10 → False) ∧ (¬ 0 < x10 → wL_law_767 KL50 Z a H bc bs S x3 x4 x5 x6 x7 x8))))) ∧ (¬ x4 ≤ x16 → kX8_heightOf a S x16 (fun r1 => ((r1 ≤ 0 → wL_law_751 KL50 (wL_law_683 KL50 Z a n) Z a H bc bs S x3 x4 x5 x6 x7 x8 x10 x15 x16) ∧ (¬ r1 ≤ 0 → ((x15 < 0 → False) ∧ (¬ x15 < 0 → kX8_wouldSlide a S x15 (fun r2 S2 => kX8_wouldSlide a S2 x16 (fun r3 S3 => ((r3 < r2 → False) ∧ (¬ r3 < r2 → kX8_wouldSlide a S3 x15 (fun r4 S4 => kX8_wouldSlide a S4 x16 (fun r5 S5 => ((¬ r4 = r5 → wL_law_751 KL50 (wL_law_683 KL50 Z a n) Z a H bc bs S5 x3 x4 x5 x6 x7 x8 x10 x15 x16) ∧ (r4 = r5 → kX8_findsLeft a S5 x15 (fun r6 => kX8_findsLeft a S5 x16 (fun r7 => ((r7 ≤ r6 → wL_law_751 KL50 (wL_law_683 KL50 Z a n) Z a H bc bs S5 x3 x4 x5 x6 x7 x8 x10 x15 x16) ∧ (¬ r7 ≤ r6 → False)))))))))))))))))))
set_option maxRecDepth 100000 in
set_option maxHeartbeats 4000000 in
theorem bL_law_683 {D : gD} {E : gE} {A : Nat → Prop} {Q : State → Prop} {bc0 bs0 : Nat} {a : gA} (C : CL D E (rmL_law bc0 bs0) cL_law 26 RL A) (hret : ∀ (w : va_W) (ls : List (Nat × Value)) (pc : Nat), decode cL_law pc = .ok (.ireturn, 1) → Go D E A Q 26 bc0 bs0 w ls pc [.int 1]) {KL50 : gH → Nat → Nat → cLS → Nat → Int32 → Int32 → Int32 → Prop} (hKL50 : ∀ (cells slots : Nat) (H : gH) (bc : Nat) (bs : Nat) (S : cLS) (x3 : Nat) (x4 : Int32) (x5 : Int32) (x6 : Int32), cells + bc ≤ bc0 → slots + bs ≤ bs0 → KL50 H bc bs S x3 x4 x5 x6 → Go D E A Q 26 cells slots (lwB D.2 a S ++ hpW H) [(0, .ref (zB D.2)), (1, .ref (a 0)), (3, .ref x3), (4, .int x4), (5, .int x5), (6, .int x6)] 50 []) : ∀ (n : Nat) (cells slots : Nat) (H : gH) (bc : Nat) (bs : Nat) (S : cLS) (x3 : Nat) (x4 : Int32) (x5 : Int32) (x6 : Int32) (x7 : Int32) (x8 : Int64) (x10 : Int32) (x15 : Int32) (x16 : Int32), cells + bc ≤ bc0 → slots + bs ≤ bs0 → wL_law_683 KL50 D.2 a n H bc bs S x3 x4 x5 x6 x7 x8 x10 x15 x16 → Go D E A Q 26 cells slots (lwB D.2 a S ++ hpW H) [(0, .ref (zB D.2)), (1, .ref (a 0)), (3, .ref x3), (4, .int x4), (5, .int x5), (6, .int x6), (7, .int x7), (8, .long x8), (10, .int x10), (15, .int x15), (16, .int x16)] 683 [] := by
  intro n
  induction n with
  | zero =>
    intro cells slots H bc bs S x3 x4 x5 x6 x7 x8 x10 x15 x16 hbc hbs h
    exact h.elim
  | succ n ih =>
    intro cells slots H bc bs S x3 x4 x5 x6 x7 x8 x10 x15 x16 hbc hbs h
    unfold wL_law_683 at h
    refine q_iload C dL_law_683 10 rfl ?_
    refine q_iload C dL_law_685 3 rfl ?_
    refine q_icmp_ge C 757 dL_law_687 (by decide) h (fun h => ?_) (fun h => ?_)
    · refine q_iload C dL_law_757 9 rfl ?_
      refine q_if_ge C 767 dL_law_759 (by decide) h (fun h => ?_) (fun h => ?_)
      · refine q_ls [(0, .ref (zB D.2)), (1, .ref (a 0)), (3, .ref x3), (4, .int x4), (5, .int x5), (6, .int x6), (7, .int x7), (8, .long x8)] [0, 1, 2, 3, 4, 5, 6, 7] rfl ?_
        exact bL_law_767 C (KL50 := KL50) hret hKL50 cells slots _ _ _ _ _ _ _ _ _ _ (by omega) (by omega) h
      · refine q_iload C dL_law_762 8 rfl ?_
        refine q_if_gt C 777 dL_law_764 (by decide) h (fun h => ?_) (fun h => ?_)
        · refine q_iconst C (v := 0) dL_law_777 (by decide) ?_
          exact h.elim
        · refine q_ls [(0, .ref (zB D.2)), (1, .ref (a 0)), (3, .ref x3), (4, .int x4), (5, .int x5), (6, .int x6), (7, .int x7), (8, .long x8)] [0, 1, 2, 3, 4, 5, 6, 7] rfl ?_
          exact bL_law_767 C (KL50 := KL50) hret hKL50 cells slots _ _ _ _ _ _ _ _ _ _ (by omega) (by omega) h
    · refine q_aload_n C dL_law_690 1 rfl ?_
      refine q_iload C dL_law_691 10 rfl ?_
      refine lc_heightOf C h cf_L_203 ⟨Nat.le_of_ble_eq_true rfl, Nat.le_of_ble_eq_true rfl⟩ ⟨by show cells ≤ bc0; omega, by show slots ≤ bs0; omega⟩ (Nat.le_of_ble_eq_true rfl) dL_law_693 (fun r1 h => ?_)
      show Go D E A Q 26 cells slots (lwB D.2 a S ++ hpW H) [(0, .ref (zB D.2)), (1, .ref (a 0)), (3, .ref x3), (4, .int x4), (5, .int x5), (6, .int x6), (7, .int x7), (8, .long x8), (10, .int x10), (15, .int x15), (16, .int x16)] 696 [.int r1]
      refine q_if_le C 751 dL_law_696 (by decide) h (fun h => ?_) (fun h => ?_)
      · exact bL_law_751 C (KL50 := KL50) (KL683 := (wL_law_683 KL50 D.2 a n)) hret hKL50 ih cells slots _ _ _ _ _ _ _ _ _ _ _ _ _ (by omega) (by omega) h
      · refine q_iload C dL_law_699 9 rfl ?_
        refine q_if_lt C 749 dL_law_701 (by decide) h (fun h => ?_) (fun h => ?_)
        · refine q_iconst C (v := 0) dL_law_749 (by decide) ?_
          exact h.elim
        · refine q_aload_n C dL_law_704 1 rfl ?_
          refine q_iload C dL_law_705 9 rfl ?_
          refine lc_wouldSlide C h cf_L_272 ⟨Nat.le_of_ble_eq_true rfl, Nat.le_of_ble_eq_true rfl⟩ ⟨by show cells ≤ bc0; omega, by show slots ≤ bs0; omega⟩ (Nat.le_of_ble_eq_true rfl) dL_law_707 (fun r2 S2 h => ?_)
          show Go D E A Q 26 cells slots (lwB D.2 a S2 ++ hpW H) [(0, .ref (zB D.2)), (1, .ref (a 0)), (3, .ref x3), (4, .int x4), (5, .int x5), (6, .int x6), (7, .int x7), (8, .long x8), (10, .int x10), (15, .int x15), (16, .int x16)] 710 [.int r2]
          refine q_aload_n C dL_law_710 1 rfl ?_
          refine q_iload C dL_law_711 10 rfl ?_
          refine lc_wouldSlide C h cf_L_272 ⟨Nat.le_of_ble_eq_true rfl, Nat.le_of_ble_eq_true rfl⟩ ⟨by show cells ≤ bc0; omega, by show slots ≤ bs0; omega⟩ (Nat.le_of_ble_eq_true rfl) dL_law_713 (fun r3 S3 h => ?_)
          show Go D E A Q 26 cells slots (lwB D.2 a S3 ++ hpW H) [(0, .ref (zB D.2)), (1, .ref (a 0)), (3, .ref x3), (4, .int x4), (5, .int x5), (6, .int x6), (7, .int x7), (8, .long x8), (10, .int x10), (15, .int x15), (16, .int x16)] 716 [.int r3, .int r2]
          refine q_icmp_gt C 749 dL_law_716 (by decide) h (fun h => ?_) (fun h => ?_)
          · refine q_iconst C (v := 0) dL_law_749 (by decide) ?_
            exact h.elim
          · refine q_aload_n C dL_law_719 1 rfl ?_
            refine q_iload C dL_law_720 9 rfl ?_
            refine lc_wouldSlide C h cf_L_272 ⟨Nat.le_of_ble_eq_true rfl, Nat.le_of_ble_eq_true rfl⟩ ⟨by show cells ≤ bc0; omega, by show slots ≤ bs0; omega⟩ (Nat.le_of_ble_eq_true rfl) dL_law_722 (fun r4 S4 h => ?_)
            show Go D E A Q 26 cells slots (lwB D.2 a S4 ++ hpW H) [(0, .ref (zB D.2)), (1, .ref (a 0)), (3, .ref x3), (4, .int x4), (5, .int x5), (6, .int x6), (7, .int x7), (8, .long x8), (10, .int x10), (15, .int x15), (16, .int x16)] 725 [.int r4]
            refine q_aload_n C dL_law_725 1 rfl ?_
            refine q_iload C dL_law_726 10 rfl ?_
            refine lc_wouldSlide C h cf_L_272 ⟨Nat.le_of_ble_eq_true rfl, Nat.le_of_ble_eq_true rfl⟩ ⟨by show cells ≤ bc0; omega, by show slots ≤ bs0; omega⟩ (Nat.le_of_ble_eq_true rfl) dL_law_728 (fun r5 S5 h => ?_)
            show Go D E A Q 26 cells slots (lwB D.2 a S5 ++ hpW H) [(0, .ref (zB D.2)), (1, .ref (a 0)), (3, .ref x3), (4, .int x4), (5, .int x5), (6, .int x6), (7, .int x7), (8, .long x8), (10, .int x10), (15, .int x15), (16, .int x16)] 731 [.int r5, .int r4]
            refine q_icmp_ne C 751 dL_law_731 (by decide) h (fun h => ?_) (fun h => ?_)
            · exact bL_law_751 C (KL50 := KL50) (KL683 := (wL_law_683 KL50 D.2 a n)) hret hKL50 ih cells slots _ _ _ _ _ _ _ _ _ _ _ _ _ (by omega) (by omega) h
            · refine q_aload_n C dL_law_734 1 rfl ?_
              refine q_iload C dL_law_735 9 rfl ?_
              refine lc_findsLeft C h cf_L_206 ⟨Nat.le_of_ble_eq_true rfl, Nat.le_of_ble_eq_true rfl⟩ ⟨by show cells ≤ bc0; omega, by show slots ≤ bs0; omega⟩ (Nat.le_of_ble_eq_true rfl) dL_law_737 (fun r6 h => ?_)
              show Go D E A Q 26 cells slots (lwB D.2 a S5 ++ hpW H) [(0, .ref (zB D.2)), (1, .ref (a 0)), (3, .ref x3), (4, .int x4), (5, .int x5), (6, .int x6), (7, .int x7), (8, .long x8), (10, .int x10), (15, .int x15), (16, .int x16)] 740 [.int r6]
              refine q_aload_n C dL_law_740 1 rfl ?_
              refine q_iload C dL_law_741 10 rfl ?_
              refine lc_findsLeft C h cf_L_206 ⟨Nat.le_of_ble_eq_true rfl, Nat.le_of_ble_eq_true rfl⟩ ⟨by show cells ≤ bc0; omega, by show slots ≤ bs0; omega⟩ (Nat.le_of_ble_eq_true rfl) dL_law_743 (fun r7 h => ?_)
              show Go D E A Q 26 cells slots (lwB D.2 a S5 ++ hpW H) [(0, .ref (zB D.2)), (1, .ref (a 0)), (3, .ref x3), (4, .int x4), (5, .int x5), (6, .int x6), (7, .int x7), (8, .long x8), (10, .int x10), (15, .int x15), (16, .int x16)] 746 [.int r7, .int r6]
              refine q_icmp_ge C 751 dL_law_746 (by decide) h (fun h => ?_) (fun h => ?_)
              · exact bL_law_751 C (KL50 := KL50) (KL683 := (wL_law_683 KL50 D.2 a n)) hret hKL50 ih cells slots _ _ _ _ _ _ _ _ _ _ _ _ _ (by omega) (by omega) h
              · refine q_iconst C (v := 0) dL_law_749 (by decide) ?_
                exact h.elim
def wL_law_647 (KL50 : gH → Nat → Nat → cLS → Nat → Int32 → Int32 → Int32 → Prop) (KL493 : gH → Nat → Nat → cLS → Nat → Int32 → Int32 → Int32 → Int32 → Int64 → Int32 → Int32 → Int32 → Prop) (Z : gZ) (a : gA) (H : gH) (bc : Nat) (bs : Nat) (S : cLS) (x3 : Nat) (x4 : Int32) (x5 : Int32) (x6 : Int32) (x7 : Int32) (x8 : Int64) (x10 : Int32) (x14 : Int32) (x15 : Int32) : Prop :=
  kX8_notBefore a S x15 (fun r1 => ((x14 ≤ r1 → kX8_notBefore a S x15 (fun r2 => KL493 H bc bs S x3 x4 x5 x6 x7 x8 x10 r2 (x15 + 1))) ∧ (¬ x14 ≤ r1 → False)))
set_option maxRecDepth 100000 in
set_option maxHeartbeats 4000000 in
theorem bL_law_647 {D : gD} {E : gE} {A : Nat → Prop} {Q : State → Prop} {bc0 bs0 : Nat} {a : gA} (C : CL D E (rmL_law bc0 bs0) cL_law 26 RL A) (hret : ∀ (w : va_W) (ls : List (Nat × Value)) (pc : Nat), decode cL_law pc = .ok (.ireturn, 1) → Go D E A Q 26 bc0 bs0 w ls pc [.int 1]) {KL50 : gH → Nat → Nat → cLS → Nat → Int32 → Int32 → Int32 → Prop} (hKL50 : ∀ (cells slots : Nat) (H : gH) (bc : Nat) (bs : Nat) (S : cLS) (x3 : Nat) (x4 : Int32) (x5 : Int32) (x6 : Int32), cells + bc ≤ bc0 → slots + bs ≤ bs0 → KL50 H bc bs S x3 x4 x5 x6 → Go D E A Q 26 cells slots (lwB D.2 a S ++ hpW H) [(0, .ref (zB D.2)), (1, .ref (a 0)), (3, .ref x3), (4, .int x4), (5, .int x5), (6, .int x6)] 50 []) {KL493 : gH → Nat → Nat → cLS → Nat → Int32 → Int32 → Int32 → Int32 → Int64 → Int32 → Int32 → Int32 → Prop} (hKL493 : ∀ (cells slots : Nat) (H : gH) (bc : Nat) (bs : Nat) (S : cLS) (x3 : Nat) (x4 : Int32) (x5 : Int32) (x6 : Int32) (x7 : Int32) (x8 : Int64) (x10 : Int32) (x14 : Int32) (x15 : Int32), cells + bc ≤ bc0 → slots + bs ≤ bs0 → KL493 H bc bs S x3 x4 x5 x6 x7 x8 x10 x14 x15 → Go D E A Q 26 cells slots (lwB D.2 a S ++ hpW H) [(0, .ref (zB D.2)), (1, .ref (a 0)), (3, .ref x3), (4, .int x4), (5, .int x5), (6, .int x6), (7, .int x7), (8, .long x8), (10, .int x10), (14, .int x14), (15, .int x15)] 493 []) : ∀ (cells slots : Nat) (H : gH) (bc : Nat) (bs : Nat) (S : cLS) (x3 : Nat) (x4 : Int32) (x5 : Int32) (x6 : Int32) (x7 : Int32) (x8 : Int64) (x10 : Int32) (x14 : Int32) (x15 : Int32), cells + bc ≤ bc0 → slots + bs ≤ bs0 → wL_law_647 KL50 KL493 D.2 a H bc bs S x3 x4 x5 x6 x7 x8 x10 x14 x15 → Go D E A Q 26 cells slots (lwB D.2 a S ++ hpW H) [(0, .ref (zB D.2)), (1, .ref (a 0)), (3, .ref x3), (4, .int x4), (5, .int x5), (6, .int x6), (7, .int x7), (8, .long x8), (10, .int x10), (14, .int x14), (15, .int x15)] 647 [] := by
  intro cells slots H bc bs S x3 x4 x5 x6 x7 x8 x10 x14 x15 hbc hbs h
  unfold wL_law_647 at h
  refine q_aload_n C dL_law_647 1 rfl ?_
  refine q_iload C dL_law_648 10 rfl ?_
  refine lc_notBefore C h cf_L_266 ⟨Nat.le_of_ble_eq_true rfl, Nat.le_of_ble_eq_true rfl⟩ ⟨by show cells ≤ bc0; omega, by show slots ≤ bs0; omega⟩ (Nat.le_of_ble_eq_true rfl) dL_law_650 (fun r1 h => ?_)
  show Go D E A Q 26 cells slots (lwB D.2 a S ++ hpW H) [(0, .ref (zB D.2)), (1, .ref (a 0)), (3, .ref x3), (4, .int x4), (5, .int x5), (6, .int x6), (7, .int x7), (8, .long x8), (10, .int x10), (14, .int x14), (15, .int x15)] 653 [.int r1]
  refine q_iload C dL_law_653 9 rfl ?_
  refine q_icmp_ge C 660 dL_law_655 (by decide) h (fun h => ?_) (fun h => ?_)
  · refine q_aload_n C dL_law_660 1 rfl ?_
    refine q_iload C dL_law_661 10 rfl ?_
    refine lc_notBefore C h cf_L_266 ⟨Nat.le_of_ble_eq_true rfl, Nat.le_of_ble_eq_true rfl⟩ ⟨by show cells ≤ bc0; omega, by show slots ≤ bs0; omega⟩ (Nat.le_of_ble_eq_true rfl) dL_law_663 (fun r2 h => ?_)
    show Go D E A Q 26 cells slots (lwB D.2 a S ++ hpW H) [(0, .ref (zB D.2)), (1, .ref (a 0)), (3, .ref x3), (4, .int x4), (5, .int x5), (6, .int x6), (7, .int x7), (8, .long x8), (10, .int x10), (14, .int x14), (15, .int x15)] 666 [.int r2]
    refine q_istore C [(14, .int r2), (0, .ref (zB D.2)), (1, .ref (a 0)), (3, .ref x3), (4, .int x4), (5, .int x5), (6, .int x6), (7, .int x7), (8, .long x8), (10, .int x10), (15, .int x15)] dL_law_666 (by decide) rfl ?_
    refine q_iinc C (v := x15 + 1) [(15, .int (x15 + 1)), (14, .int r2), (0, .ref (zB D.2)), (1, .ref (a 0)), (3, .ref x3), (4, .int x4), (5, .int x5), (6, .int x6), (7, .int x7), (8, .long x8), (10, .int x10)] dL_law_668 10 rfl rfl (by decide) rfl ?_
    refine q_goto (tgt := 493) C dL_law_671 (by decide) ?_
    refine q_ls [(0, .ref (zB D.2)), (1, .ref (a 0)), (3, .ref x3), (4, .int x4), (5, .int x5), (6, .int x6), (7, .int x7), (8, .long x8), (10, .int x10), (14, .int r2), (15, .int (x15 + 1))] [2, 3, 4, 5, 6, 7, 8, 9, 10, 1, 0] rfl ?_
    exact hKL493 cells slots _ _ _ _ _ _ _ _ _ _ _ _ _ (by omega) (by omega) h
  · refine q_iconst C (v := 0) dL_law_658 (by decide) ?_
    exact h.elim
def wL_law_623 (KL50 : gH → Nat → Nat → cLS → Nat → Int32 → Int32 → Int32 → Prop) (KL493 : gH → Nat → Nat → cLS → Nat → Int32 → Int32 → Int32 → Int32 → Int64 → Int32 → Int32 → Int32 → Prop) (KL506 : gH → Nat → Nat → cLS → Nat → Int32 → Int32 → Int32 → Int32 → Int64 → Int32 → Int32 → Int32 → Int32 → Int32 → Prop) (Z : gZ) (a : gA) (H : gH) (bc : Nat) (bs : Nat) (S : cLS) (x3 : Nat) (x4 : Int32) (x5 : Int32) (x6 : Int32) (x7 : Int32) (x8 : Int64) (x10 : Int32) (x14 : Int32) (x15 : Int32) (x17 : Int32) (z0 : Int32) (z1 : Int32) : Prop :=
  KL506 H bc bs S x3 x4 x5 x6 x7 x8 x10 x14 x15 (z1 + z0) (x17 + 1)
set_option maxRecDepth 100000 in
set_option maxHeartbeats 4000000 in
theorem bL_law_623 {D : gD} {E : gE} {A : Nat → Prop} {Q : State → Prop} {bc0 bs0 : Nat} {a : gA} (C : CL D E (rmL_law bc0 bs0) cL_law 26 RL A) (hret : ∀ (w : va_W) (ls : List (Nat × Value)) (pc : Nat), decode cL_law pc = .ok (.ireturn, 1) → Go D E A Q 26 bc0 bs0 w ls pc [.int 1]) {KL50 : gH → Nat → Nat → cLS → Nat → Int32 → Int32 → Int32 → Prop} (hKL50 : ∀ (cells slots : Nat) (H : gH) (bc : Nat) (bs : Nat) (S : cLS) (x3 : Nat) (x4 : Int32) (x5 : Int32) (x6 : Int32), cells + bc ≤ bc0 → slots + bs ≤ bs0 → KL50 H bc bs S x3 x4 x5 x6 → Go D E A Q 26 cells slots (lwB D.2 a S ++ hpW H) [(0, .ref (zB D.2)), (1, .ref (a 0)), (3, .ref x3), (4, .int x4), (5, .int x5), (6, .int x6)] 50 []) {KL493 : gH → Nat → Nat → cLS → Nat → Int32 → Int32 → Int32 → Int32 → Int64 → Int32 → Int32 → Int32 → Prop} (hKL493 : ∀ (cells slots : Nat) (H : gH) (bc : Nat) (bs : Nat) (S : cLS) (x3 : Nat) (x4 : Int32) (x5 : Int32) (x6 : Int32) (x7 : Int32) (x8 : Int64) (x10 : Int32) (x14 : Int32) (x15 : Int32), cells + bc ≤ bc0 → slots + bs ≤ bs0 → KL493 H bc bs S x3 x4 x5 x6 x7 x8 x10 x14 x15 → Go D E A Q 26 cells slots (lwB D.2 a S ++ hpW H) [(0, .ref (zB D.2)), (1, .ref (a 0)), (3, .ref x3), (4, .int x4), (5, .int x5), (6, .int x6), (7, .int x7), (8, .long x8), (10, .int x10), (14, .int x14), (15, .int x15)] 493 []) {KL506 : gH → Nat → Nat → cLS → Nat → Int32 → Int32 → Int32 → Int32 → Int64 → Int32 → Int32 → Int32 → Int32 → Int32 → Prop} (hKL506 : ∀ (cells slots : Nat) (H : gH) (bc : Nat) (bs : Nat) (S : cLS) (x3 : Nat) (x4 : Int32) (x5 : Int32) (x6 : Int32) (x7 : Int32) (x8 : Int64) (x10 : Int32) (x14 : Int32) (x15 : Int32) (x16 : Int32) (x17 : Int32), cells + bc ≤ bc0 → slots + bs ≤ bs0 → KL506 H bc bs S x3 x4 x5 x6 x7 x8 x10 x14 x15 x16 x17 → Go D E A Q 26 cells slots (lwB D.2 a S ++ hpW H) [(0, .ref (zB D.2)), (1, .ref (a 0)), (3, .ref x3), (4, .int x4), (5, .int x5), (6, .int x6), (7, .int x7), (8, .long x8), (10, .int x10), (14, .int x14), (15, .int x15), (16, .int x16), (17, .int x17)] 506 []) : ∀ (cells slots : Nat) (H : gH) (bc : Nat) (bs : Nat) (S : cLS) (x3 : Nat) (x4 : Int32) (x5 : Int32) (x6 : Int32) (x7 : Int32) (x8 : Int64) (x10 : Int32) (x14 : Int32) (x15 : Int32) (x17 : Int32) (z0 : Int32) (z1 : Int32), cells + bc ≤ bc0 → slots + bs ≤ bs0 → wL_law_623 KL50 KL493 KL506 D.2 a H bc bs S x3 x4 x5 x6 x7 x8 x10 x14 x15 x17 z0 z1 → Go D E A Q 26 cells slots (lwB D.2 a S ++ hpW H) [(0, .ref (zB D.2)), (1, .ref (a 0)), (3, .ref x3), (4, .int x4), (5, .int x5), (6, .int x6), (7, .int x7), (8, .long x8), (10, .int x10), (14, .int x14), (15, .int x15), (17, .int x17)] 623 [.int z0, .int z1] := by
  intro cells slots H bc bs S x3 x4 x5 x6 x7 x8 x10 x14 x15 x17 z0 z1 hbc hbs h
  unfold wL_law_623 at h
  refine q_iadd C dL_law_623 ?_
  refine q_istore C [(16, .int (z1 + z0)), (0, .ref (zB D.2)), (1, .ref (a 0)), (3, .ref x3), (4, .int x4), (5, .int x5), (6, .int x6), (7, .int x7), (8, .long x8), (10, .int x10), (14, .int x14), (15, .int x15), (17, .int x17)] dL_law_624 (by decide) rfl ?_
  refine q_iinc C (v := x17 + 1) [(17, .int (x17 + 1)), (16, .int (z1 + z0)), (0, .ref (zB D.2)), (1, .ref (a 0)), (3, .ref x3), (4, .int x4), (5, .int x5), (6, .int x6), (7, .int x7), (8, .long x8), (10, .int x10), (14, .int x14), (15, .int x15)] dL_law_626 12 rfl rfl (by decide) rfl ?_
  refine q_goto (tgt := 506) C dL_law_629 (by decide) ?_
  refine q_ls [(0, .ref (zB D.2)), (1, .ref (a 0)), (3, .ref x3), (4, .int x4), (5, .int x5), (6, .int x6), (7, .int x7), (8, .long x8), (10, .int x10), (14, .int x14), (15, .int x15), (16, .int (z1 + z0)), (17, .int (x17 + 1))] [2, 3, 4, 5, 6, 7, 8, 9, 10, 11, 12, 1, 0] rfl ?_
  exact hKL506 cells slots _ _ _ _ _ _ _ _ _ _ _ _ _ _ _ (by omega) (by omega) h
def wL_law_587 (KL50 : gH → Nat → Nat → cLS → Nat → Int32 → Int32 → Int32 → Prop) (KL493 : gH → Nat → Nat → cLS → Nat → Int32 → Int32 → Int32 → Int32 → Int64 → Int32 → Int32 → Int32 → Prop) (KL506 : gH → Nat → Nat → cLS → Nat → Int32 → Int32 → Int32 → Int32 → Int64 → Int32 → Int32 → Int32 → Int32 → Int32 → Prop) (KL522 : gH → Nat → Nat → cLS → Nat → Int32 → Int32 → Int32 → Int32 → Int64 → Int32 → Int32 → Int32 → Int32 → Int32 → Int32 → Int32 → Prop) (Z : gZ) (a : gA) (H : gH) (bc : Nat) (bs : Nat) (S : cLS) (x3 : Nat) (x4 : Int32) (x5 : Int32) (x6 : Int32) (x7 : Int32) (x8 : Int64) (x10 : Int32) (x14 : Int32) (x15 : Int32) (x16 : Int32) (x17 : Int32) (x19 : Int32) (z0 : Int32) (z1 : Int32) : Prop :=
  KL522 H bc bs S x3 x4 x5 x6 x7 x8 x10 x14 x15 x16 x17 (z1 ||| z0) (x19 + 1)
set_option maxRecDepth 100000 in
set_option maxHeartbeats 4000000 in
theorem bL_law_587 {D : gD} {E : gE} {A : Nat → Prop} {Q : State → Prop} {bc0 bs0 : Nat} {a : gA} (C : CL D E (rmL_law bc0 bs0) cL_law 26 RL A) (hret : ∀ (w : va_W) (ls : List (Nat × Value)) (pc : Nat), decode cL_law pc = .ok (.ireturn, 1) → Go D E A Q 26 bc0 bs0 w ls pc [.int 1]) {KL50 : gH → Nat → Nat → cLS → Nat → Int32 → Int32 → Int32 → Prop} (hKL50 : ∀ (cells slots : Nat) (H : gH) (bc : Nat) (bs : Nat) (S : cLS) (x3 : Nat) (x4 : Int32) (x5 : Int32) (x6 : Int32), cells + bc ≤ bc0 → slots + bs ≤ bs0 → KL50 H bc bs S x3 x4 x5 x6 → Go D E A Q 26 cells slots (lwB D.2 a S ++ hpW H) [(0, .ref (zB D.2)), (1, .ref (a 0)), (3, .ref x3), (4, .int x4), (5, .int x5), (6, .int x6)] 50 []) {KL493 : gH → Nat → Nat → cLS → Nat → Int32 → Int32 → Int32 → Int32 → Int64 → Int32 → Int32 → Int32 → Prop} (hKL493 : ∀ (cells slots : Nat) (H : gH) (bc : Nat) (bs : Nat) (S : cLS) (x3 : Nat) (x4 : Int32) (x5 : Int32) (x6 : Int32) (x7 : Int32) (x8 : Int64) (x10 : Int32) (x14 : Int32) (x15 : Int32), cells + bc ≤ bc0 → slots + bs ≤ bs0 → KL493 H bc bs S x3 x4 x5 x6 x7 x8 x10 x14 x15 → Go D E A Q 26 cells slots (lwB D.2 a S ++ hpW H) [(0, .ref (zB D.2)), (1, .ref (a 0)), (3, .ref x3), (4, .int x4), (5, .int x5), (6, .int x6), (7, .int x7), (8, .long x8), (10, .int x10), (14, .int x14), (15, .int x15)] 493 []) {KL506 : gH → Nat → Nat → cLS → Nat → Int32 → Int32 → Int32 → Int32 → Int64 → Int32 → Int32 → Int32 → Int32 → Int32 → Prop} (hKL506 : ∀ (cells slots : Nat) (H : gH) (bc : Nat) (bs : Nat) (S : cLS) (x3 : Nat) (x4 : Int32) (x5 : Int32) (x6 : Int32) (x7 : Int32) (x8 : Int64) (x10 : Int32) (x14 : Int32) (x15 : Int32) (x16 : Int32) (x17 : Int32), cells + bc ≤ bc0 → slots + bs ≤ bs0 → KL506 H bc bs S x3 x4 x5 x6 x7 x8 x10 x14 x15 x16 x17 → Go D E A Q 26 cells slots (lwB D.2 a S ++ hpW H) [(0, .ref (zB D.2)), (1, .ref (a 0)), (3, .ref x3), (4, .int x4), (5, .int x5), (6, .int x6), (7, .int x7), (8, .long x8), (10, .int x10), (14, .int x14), (15, .int x15), (16, .int x16), (17, .int x17)] 506 []) {KL522 : gH → Nat → Nat → cLS → Nat → Int32 → Int32 → Int32 → Int32 → Int64 → Int32 → Int32 → Int32 → Int32 → Int32 → Int32 → Int32 → Prop} (hKL522 : ∀ (cells slots : Nat) (H : gH) (bc : Nat) (bs : Nat) (S : cLS) (x3 : Nat) (x4 : Int32) (x5 : Int32) (x6 : Int32) (x7 : Int32) (x8 : Int64) (x10 : Int32) (x14 : Int32) (x15 : Int32) (x16 : Int32) (x17 : Int32) (x18 : Int32) (x19 : Int32), cells + bc ≤ bc0 → slots + bs ≤ bs0 → KL522 H bc bs S x3 x4 x5 x6 x7 x8 x10 x14 x15 x16 x17 x18 x19 → Go D E A Q 26 cells slots (lwB D.2 a S ++ hpW H) [(0, .ref (zB D.2)), (1, .ref (a 0)), (3, .ref x3), (4, .int x4), (5, .int x5), (6, .int x6), (7, .int x7), (8, .long x8), (10, .int x10), (14, .int x14), (15, .int x15), (16, .int x16), (17, .int x17), (18, .int x18), (19, .int x19)] 522 []) : ∀ (cells slots : Nat) (H : gH) (bc : Nat) (bs : Nat) (S : cLS) (x3 : Nat) (x4 : Int32) (x5 : Int32) (x6 : Int32) (x7 : Int32) (x8 : Int64) (x10 : Int32) (x14 : Int32) (x15 : Int32) (x16 : Int32) (x17 : Int32) (x19 : Int32) (z0 : Int32) (z1 : Int32), cells + bc ≤ bc0 → slots + bs ≤ bs0 → wL_law_587 KL50 KL493 KL506 KL522 D.2 a H bc bs S x3 x4 x5 x6 x7 x8 x10 x14 x15 x16 x17 x19 z0 z1 → Go D E A Q 26 cells slots (lwB D.2 a S ++ hpW H) [(0, .ref (zB D.2)), (1, .ref (a 0)), (3, .ref x3), (4, .int x4), (5, .int x5), (6, .int x6), (7, .int x7), (8, .long x8), (10, .int x10), (14, .int x14), (15, .int x15), (16, .int x16), (17, .int x17), (19, .int x19)] 587 [.int z0, .int z1] := by
  intro cells slots H bc bs S x3 x4 x5 x6 x7 x8 x10 x14 x15 x16 x17 x19 z0 z1 hbc hbs h
  unfold wL_law_587 at h
  refine q_ior C dL_law_587 ?_
  refine q_istore C [(18, .int (z1 ||| z0)), (0, .ref (zB D.2)), (1, .ref (a 0)), (3, .ref x3), (4, .int x4), (5, .int x5), (6, .int x6), (7, .int x7), (8, .long x8), (10, .int x10), (14, .int x14), (15, .int x15), (16, .int x16), (17, .int x17), (19, .int x19)] dL_law_588 (by decide) rfl ?_
  refine q_iinc C (v := x19 + 1) [(19, .int (x19 + 1)), (18, .int (z1 ||| z0)), (0, .ref (zB D.2)), (1, .ref (a 0)), (3, .ref x3), (4, .int x4), (5, .int x5), (6, .int x6), (7, .int x7), (8, .long x8), (10, .int x10), (14, .int x14), (15, .int x15), (16, .int x16), (17, .int x17)] dL_law_590 14 rfl rfl (by decide) rfl ?_
  refine q_goto (tgt := 522) C dL_law_593 (by decide) ?_
  refine q_ls [(0, .ref (zB D.2)), (1, .ref (a 0)), (3, .ref x3), (4, .int x4), (5, .int x5), (6, .int x6), (7, .int x7), (8, .long x8), (10, .int x10), (14, .int x14), (15, .int x15), (16, .int x16), (17, .int x17), (18, .int (z1 ||| z0)), (19, .int (x19 + 1))] [2, 3, 4, 5, 6, 7, 8, 9, 10, 11, 12, 13, 14, 1, 0] rfl ?_
  exact hKL522 cells slots _ _ _ _ _ _ _ _ _ _ _ _ _ _ _ _ _ (by omega) (by omega) h
def wL_law_586 (KL50 : gH → Nat → Nat → cLS → Nat → Int32 → Int32 → Int32 → Prop) (KL493 : gH → Nat → Nat → cLS → Nat → Int32 → Int32 → Int32 → Int32 → Int64 → Int32 → Int32 → Int32 → Prop) (KL506 : gH → Nat → Nat → cLS → Nat → Int32 → Int32 → Int32 → Int32 → Int64 → Int32 → Int32 → Int32 → Int32 → Int32 → Prop) (KL522 : gH → Nat → Nat → cLS → Nat → Int32 → Int32 → Int32 → Int32 → Int64 → Int32 → Int32 → Int32 → Int32 → Int32 → Int32 → Int32 → Prop) (Z : gZ) (a : gA) (H : gH) (bc : Nat) (bs : Nat) (S : cLS) (x3 : Nat) (x4 : Int32) (x5 : Int32) (x6 : Int32) (x7 : Int32) (x8 : Int64) (x10 : Int32) (x14 : Int32) (x15 : Int32) (x16 : Int32) (x17 : Int32) (x19 : Int32) (z0 : Int32) : Prop :=
  wL_law_587 KL50 KL493 KL506 KL522 Z a H bc bs S x3 x4 x5 x6 x7 x8 x10 x14 x15 x16 x17 x19 0 z0
set_option maxRecDepth 100000 in
set_option maxHeartbeats 4000000 in
theorem bL_law_586 {D : gD} {E : gE} {A : Nat → Prop} {Q : State → Prop} {bc0 bs0 : Nat} {a : gA} (C : CL D E (rmL_law bc0 bs0) cL_law 26 RL A) (hret : ∀ (w : va_W) (ls : List (Nat × Value)) (pc : Nat), decode cL_law pc = .ok (.ireturn, 1) → Go D E A Q 26 bc0 bs0 w ls pc [.int 1]) {KL50 : gH → Nat → Nat → cLS → Nat → Int32 → Int32 → Int32 → Prop} (hKL50 : ∀ (cells slots : Nat) (H : gH) (bc : Nat) (bs : Nat) (S : cLS) (x3 : Nat) (x4 : Int32) (x5 : Int32) (x6 : Int32), cells + bc ≤ bc0 → slots + bs ≤ bs0 → KL50 H bc bs S x3 x4 x5 x6 → Go D E A Q 26 cells slots (lwB D.2 a S ++ hpW H) [(0, .ref (zB D.2)), (1, .ref (a 0)), (3, .ref x3), (4, .int x4), (5, .int x5), (6, .int x6)] 50 []) {KL493 : gH → Nat → Nat → cLS → Nat → Int32 → Int32 → Int32 → Int32 → Int64 → Int32 → Int32 → Int32 → Prop} (hKL493 : ∀ (cells slots : Nat) (H : gH) (bc : Nat) (bs : Nat) (S : cLS) (x3 : Nat) (x4 : Int32) (x5 : Int32) (x6 : Int32) (x7 : Int32) (x8 : Int64) (x10 : Int32) (x14 : Int32) (x15 : Int32), cells + bc ≤ bc0 → slots + bs ≤ bs0 → KL493 H bc bs S x3 x4 x5 x6 x7 x8 x10 x14 x15 → Go D E A Q 26 cells slots (lwB D.2 a S ++ hpW H) [(0, .ref (zB D.2)), (1, .ref (a 0)), (3, .ref x3), (4, .int x4), (5, .int x5), (6, .int x6), (7, .int x7), (8, .long x8), (10, .int x10), (14, .int x14), (15, .int x15)] 493 []) {KL506 : gH → Nat → Nat → cLS → Nat → Int32 → Int32 → Int32 → Int32 → Int64 → Int32 → Int32 → Int32 → Int32 → Int32 → Prop} (hKL506 : ∀ (cells slots : Nat) (H : gH) (bc : Nat) (bs : Nat) (S : cLS) (x3 : Nat) (x4 : Int32) (x5 : Int32) (x6 : Int32) (x7 : Int32) (x8 : Int64) (x10 : Int32) (x14 : Int32) (x15 : Int32) (x16 : Int32) (x17 : Int32), cells + bc ≤ bc0 → slots + bs ≤ bs0 → KL506 H bc bs S x3 x4 x5 x6 x7 x8 x10 x14 x15 x16 x17 → Go D E A Q 26 cells slots (lwB D.2 a S ++ hpW H) [(0, .ref (zB D.2)), (1, .ref (a 0)), (3, .ref x3), (4, .int x4), (5, .int x5), (6, .int x6), (7, .int x7), (8, .long x8), (10, .int x10), (14, .int x14), (15, .int x15), (16, .int x16), (17, .int x17)] 506 []) {KL522 : gH → Nat → Nat → cLS → Nat → Int32 → Int32 → Int32 → Int32 → Int64 → Int32 → Int32 → Int32 → Int32 → Int32 → Int32 → Int32 → Prop} (hKL522 : ∀ (cells slots : Nat) (H : gH) (bc : Nat) (bs : Nat) (S : cLS) (x3 : Nat) (x4 : Int32) (x5 : Int32) (x6 : Int32) (x7 : Int32) (x8 : Int64) (x10 : Int32) (x14 : Int32) (x15 : Int32) (x16 : Int32) (x17 : Int32) (x18 : Int32) (x19 : Int32), cells + bc ≤ bc0 → slots + bs ≤ bs0 → KL522 H bc bs S x3 x4 x5 x6 x7 x8 x10 x14 x15 x16 x17 x18 x19 → Go D E A Q 26 cells slots (lwB D.2 a S ++ hpW H) [(0, .ref (zB D.2)), (1, .ref (a 0)), (3, .ref x3), (4, .int x4), (5, .int x5), (6, .int x6), (7, .int x7), (8, .long x8), (10, .int x10), (14, .int x14), (15, .int x15), (16, .int x16), (17, .int x17), (18, .int x18), (19, .int x19)] 522 []) : ∀ (cells slots : Nat) (H : gH) (bc : Nat) (bs : Nat) (S : cLS) (x3 : Nat) (x4 : Int32) (x5 : Int32) (x6 : Int32) (x7 : Int32) (x8 : Int64) (x10 : Int32) (x14 : Int32) (x15 : Int32) (x16 : Int32) (x17 : Int32) (x19 : Int32) (z0 : Int32), cells + bc ≤ bc0 → slots + bs ≤ bs0 → wL_law_586 KL50 KL493 KL506 KL522 D.2 a H bc bs S x3 x4 x5 x6 x7 x8 x10 x14 x15 x16 x17 x19 z0 → Go D E A Q 26 cells slots (lwB D.2 a S ++ hpW H) [(0, .ref (zB D.2)), (1, .ref (a 0)), (3, .ref x3), (4, .int x4), (5, .int x5), (6, .int x6), (7, .int x7), (8, .long x8), (10, .int x10), (14, .int x14), (15, .int x15), (16, .int x16), (17, .int x17), (19, .int x19)] 586 [.int z0] := by
  intro cells slots H bc bs S x3 x4 x5 x6 x7 x8 x10 x14 x15 x16 x17 x19 z0 hbc hbs h
  unfold wL_law_586 at h
  refine q_iconst C (v := 0) dL_law_586 (by decide) ?_
  exact bL_law_587 C (KL50 := KL50) (KL493 := KL493) (KL506 := KL506) (KL522 := KL522) hret hKL50 hKL493 hKL506 hKL522 cells slots _ _ _ _ _ _ _ _ _ _ _ _ _ _ _ _ _ _ (by omega) (by omega) h
def wL_law_522 (KL50 : gH → Nat → Nat → cLS → Nat → Int32 → Int32 → Int32 → Prop) (KL493 : gH → Nat → Nat → cLS → Nat → Int32 → Int32 → Int32 → Int32 → Int64 → Int32 → Int32 → Int32 → Prop) (KL506 : gH → Nat → Nat → cLS → Nat → Int32 → Int32 → Int32 → Int32 → Int64 → Int32 → Int32 → Int32 → Int32 → Int32 → Prop) (Z : gZ) (a : gA) : Nat → gH → Nat → Nat → cLS → Nat → Int32 → Int32 → Int32 → Int32 → Int64 → Int32 → Int32 → Int32 → Int32 → Int32 → Int32 → Int32 → Prop
  | 0, _, _, _, _, _, _, _, _, _, _, _, _, _, _, _, _, _ => False
  | n + 1, H, bc, bs, S, x3, x4, x5, x6, x7, x8, x10, x14, x15, x16, x17, x18, x19 =>
  kX8_finds a S (fun r1 => ((r1 ≤ x19 → kX8_isSeenIn a S x15 x17 (fun r2 => ((r2 = x18 → ((x18 = 0 → wL_law_623 KL50 KL493 KL506 Z a H bc bs S x3 x4 x5 x6 x7 x8 x10 x14 x15 x17 0 x16) ∧ (¬ x18 = 0 → wL_law_623 KL50 KL493 KL506 Z a H bc bs S x3 x4 x5 x6 x7 x8 x10 x14 x15 x17 1 x16))) ∧ (¬ r2 = x18 → False)))) ∧ (¬ r1 ≤ x19 → kX8_isCoin a S x19 (fun r3 => ((¬ r3 = 0 → wL_law_586 KL50 KL493 KL506 (wL_law_522 KL50 KL493 KL506 Z a n) Z a H bc bs S x3 x4 x5 x6 x7 x8 x10 x14 x15 x16 x17 x19 x18) ∧ (r3 = 0 → kX8_empireOf a S x19 (fun r4 => ((¬ r4 = x17 → wL_law_586 KL50 KL493 KL506 (wL_law_522 KL50 KL493 KL506 Z a n) Z a H bc bs S x3 x4 x5 x6 x7 x8 x10 x14 x15 x16 x17 x19 x18) ∧ (r4 = x17 → kX8_stratumOf a S x19 (fun r5 => ((¬ r5 = x15 → wL_law_586 KL50 KL493 KL506 (wL_law_522 KL50 KL493 KL506 Z a n) Z a H bc bs S x3 x4 x5 x6 x7 x8 x10 x14 x15 x16 x17 x19 x18) ∧ (r5 = x15 → kX8_isFound a S x19 (fun r6 => ((r6 = 0 → wL_law_586 KL50 KL493 KL506 (wL_law_522 KL50 KL493 KL506 Z a n) Z a H bc bs S x3 x4 x5 x6 x7 x8 x10 x14 x15 x16 x17 x19 x18) ∧ (¬ r6 = 0 → kX8_isSure a S x19 (fun r7 => ((r7 = 0 → wL_law_586 KL50 KL493 KL506 (wL_law_522 KL50 KL493 KL506 Z a n) Z a H bc bs S x3 x4 x5 x6 x7 x8 x10 x14 x15 x16 x17 x19 x18) ∧ (¬ r7 = 0 → wL_law_587 KL50 KL493 KL506 (wL_law_522 KL50 KL493 KL506 Z a n) Z a H bc bs S x3 x4 x5 x6 x7 x8 x10 x14 x15 x16 x17 x19 1 x18))))))))))))))))))
set_option maxRecDepth 100000 in
set_option maxHeartbeats 4000000 in
theorem bL_law_522 {D : gD} {E : gE} {A : Nat → Prop} {Q : State → Prop} {bc0 bs0 : Nat} {a : gA} (C : CL D E (rmL_law bc0 bs0) cL_law 26 RL A) (hret : ∀ (w : va_W) (ls : List (Nat × Value)) (pc : Nat), decode cL_law pc = .ok (.ireturn, 1) → Go D E A Q 26 bc0 bs0 w ls pc [.int 1]) {KL50 : gH → Nat → Nat → cLS → Nat → Int32 → Int32 → Int32 → Prop} (hKL50 : ∀ (cells slots : Nat) (H : gH) (bc : Nat) (bs : Nat) (S : cLS) (x3 : Nat) (x4 : Int32) (x5 : Int32) (x6 : Int32), cells + bc ≤ bc0 → slots + bs ≤ bs0 → KL50 H bc bs S x3 x4 x5 x6 → Go D E A Q 26 cells slots (lwB D.2 a S ++ hpW H) [(0, .ref (zB D.2)), (1, .ref (a 0)), (3, .ref x3), (4, .int x4), (5, .int x5), (6, .int x6)] 50 []) {KL493 : gH → Nat → Nat → cLS → Nat → Int32 → Int32 → Int32 → Int32 → Int64 → Int32 → Int32 → Int32 → Prop} (hKL493 : ∀ (cells slots : Nat) (H : gH) (bc : Nat) (bs : Nat) (S : cLS) (x3 : Nat) (x4 : Int32) (x5 : Int32) (x6 : Int32) (x7 : Int32) (x8 : Int64) (x10 : Int32) (x14 : Int32) (x15 : Int32), cells + bc ≤ bc0 → slots + bs ≤ bs0 → KL493 H bc bs S x3 x4 x5 x6 x7 x8 x10 x14 x15 → Go D E A Q 26 cells slots (lwB D.2 a S ++ hpW H) [(0, .ref (zB D.2)), (1, .ref (a 0)), (3, .ref x3), (4, .int x4), (5, .int x5), (6, .int x6), (7, .int x7), (8, .long x8), (10, .int x10), (14, .int x14), (15, .int x15)] 493 []) {KL506 : gH → Nat → Nat → cLS → Nat → Int32 → Int32 → Int32 → Int32 → Int64 → Int32 → Int32 → Int32 → Int32 → Int32 → Prop} (hKL506 : ∀ (cells slots : Nat) (H : gH) (bc : Nat) (bs : Nat) (S : cLS) (x3 : Nat) (x4 : Int32) (x5 : Int32) (x6 : Int32) (x7 : Int32) (x8 : Int64) (x10 : Int32) (x14 : Int32) (x15 : Int32) (x16 : Int32) (x17 : Int32), cells + bc ≤ bc0 → slots + bs ≤ bs0 → KL506 H bc bs S x3 x4 x5 x6 x7 x8 x10 x14 x15 x16 x17 → Go D E A Q 26 cells slots (lwB D.2 a S ++ hpW H) [(0, .ref (zB D.2)), (1, .ref (a 0)), (3, .ref x3), (4, .int x4), (5, .int x5), (6, .int x6), (7, .int x7), (8, .long x8), (10, .int x10), (14, .int x14), (15, .int x15), (16, .int x16), (17, .int x17)] 506 []) : ∀ (n : Nat) (cells slots : Nat) (H : gH) (bc : Nat) (bs : Nat) (S : cLS) (x3 : Nat) (x4 : Int32) (x5 : Int32) (x6 : Int32) (x7 : Int32) (x8 : Int64) (x10 : Int32) (x14 : Int32) (x15 : Int32) (x16 : Int32) (x17 : Int32) (x18 : Int32) (x19 : Int32), cells + bc ≤ bc0 → slots + bs ≤ bs0 → wL_law_522 KL50 KL493 KL506 D.2 a n H bc bs S x3 x4 x5 x6 x7 x8 x10 x14 x15 x16 x17 x18 x19 → Go D E A Q 26 cells slots (lwB D.2 a S ++ hpW H) [(0, .ref (zB D.2)), (1, .ref (a 0)), (3, .ref x3), (4, .int x4), (5, .int x5), (6, .int x6), (7, .int x7), (8, .long x8), (10, .int x10), (14, .int x14), (15, .int x15), (16, .int x16), (17, .int x17), (18, .int x18), (19, .int x19)] 522 [] := by
  intro n
  induction n with
  | zero =>
    intro cells slots H bc bs S x3 x4 x5 x6 x7 x8 x10 x14 x15 x16 x17 x18 x19 hbc hbs h
    exact h.elim
  | succ n ih =>
    intro cells slots H bc bs S x3 x4 x5 x6 x7 x8 x10 x14 x15 x16 x17 x18 x19 hbc hbs h
    unfold wL_law_522 at h
    refine q_iload C dL_law_522 14 rfl ?_
    refine q_aload_n C dL_law_524 1 rfl ?_
    refine lc_finds C h cf_L_232 ⟨Nat.le_of_ble_eq_true rfl, Nat.le_of_ble_eq_true rfl⟩ ⟨by show cells ≤ bc0; omega, by show slots ≤ bs0; omega⟩ (Nat.le_of_ble_eq_true rfl) dL_law_525 (fun r1 h => ?_)
    show Go D E A Q 26 cells slots (lwB D.2 a S ++ hpW H) [(0, .ref (zB D.2)), (1, .ref (a 0)), (3, .ref x3), (4, .int x4), (5, .int x5), (6, .int x6), (7, .int x7), (8, .long x8), (10, .int x10), (14, .int x14), (15, .int x15), (16, .int x16), (17, .int x17), (18, .int x18), (19, .int x19)] 528 [.int r1, .int x19]
    refine q_icmp_ge C 596 dL_law_528 (by decide) h (fun h => ?_) (fun h => ?_)
    · refine q_aload_n C dL_law_596 1 rfl ?_
      refine q_iload C dL_law_597 10 rfl ?_
      refine q_iload C dL_law_599 12 rfl ?_
      refine lc_isSeenIn C h cf_L_259 ⟨Nat.le_of_ble_eq_true rfl, Nat.le_of_ble_eq_true rfl⟩ ⟨by show cells ≤ bc0; omega, by show slots ≤ bs0; omega⟩ (Nat.le_of_ble_eq_true rfl) dL_law_601 (fun r2 h => ?_)
      show Go D E A Q 26 cells slots (lwB D.2 a S ++ hpW H) [(0, .ref (zB D.2)), (1, .ref (a 0)), (3, .ref x3), (4, .int x4), (5, .int x5), (6, .int x6), (7, .int x7), (8, .long x8), (10, .int x10), (14, .int x14), (15, .int x15), (16, .int x16), (17, .int x17), (18, .int x18), (19, .int x19)] 604 [.int r2]
      refine q_iload C dL_law_604 13 rfl ?_
      refine q_icmp_eq C 611 dL_law_606 (by decide) h (fun h => ?_) (fun h => ?_)
      · refine q_iload C dL_law_611 11 rfl ?_
        refine q_iload C dL_law_613 13 rfl ?_
        refine q_if_eq C 622 dL_law_615 (by decide) h (fun h => ?_) (fun h => ?_)
        · refine q_iconst C (v := 0) dL_law_622 (by decide) ?_
          refine q_ls [(0, .ref (zB D.2)), (1, .ref (a 0)), (3, .ref x3), (4, .int x4), (5, .int x5), (6, .int x6), (7, .int x7), (8, .long x8), (10, .int x10), (14, .int x14), (15, .int x15), (17, .int x17)] [0, 1, 2, 3, 4, 5, 6, 7, 8, 9, 10, 12] rfl ?_
          exact bL_law_623 C (KL50 := KL50) (KL493 := KL493) (KL506 := KL506) hret hKL50 hKL493 hKL506 cells slots _ _ _ _ _ _ _ _ _ _ _ _ _ _ _ _ (by omega) (by omega) h
        · refine q_iconst C (v := 1) dL_law_618 (by decide) ?_
          refine q_goto (tgt := 623) C dL_law_619 (by decide) ?_
          refine q_ls [(0, .ref (zB D.2)), (1, .ref (a 0)), (3, .ref x3), (4, .int x4), (5, .int x5), (6, .int x6), (7, .int x7), (8, .long x8), (10, .int x10), (14, .int x14), (15, .int x15), (17, .int x17)] [0, 1, 2, 3, 4, 5, 6, 7, 8, 9, 10, 12] rfl ?_
          exact bL_law_623 C (KL50 := KL50) (KL493 := KL493) (KL506 := KL506) hret hKL50 hKL493 hKL506 cells slots _ _ _ _ _ _ _ _ _ _ _ _ _ _ _ _ (by omega) (by omega) h
      · refine q_iconst C (v := 0) dL_law_609 (by decide) ?_
        exact h.elim
    · refine q_iload C dL_law_531 13 rfl ?_
      refine q_aload_n C dL_law_533 1 rfl ?_
      refine q_iload C dL_law_534 14 rfl ?_
      refine lc_isCoin C h cf_L_253 ⟨Nat.le_of_ble_eq_true rfl, Nat.le_of_ble_eq_true rfl⟩ ⟨by show cells ≤ bc0; omega, by show slots ≤ bs0; omega⟩ (Nat.le_of_ble_eq_true rfl) dL_law_536 (fun r3 h => ?_)
      show Go D E A Q 26 cells slots (lwB D.2 a S ++ hpW H) [(0, .ref (zB D.2)), (1, .ref (a 0)), (3, .ref x3), (4, .int x4), (5, .int x5), (6, .int x6), (7, .int x7), (8, .long x8), (10, .int x10), (14, .int x14), (15, .int x15), (16, .int x16), (17, .int x17), (18, .int x18), (19, .int x19)] 539 [.int r3, .int x18]
      refine q_if_ne C 586 dL_law_539 (by decide) h (fun h => ?_) (fun h => ?_)
      · refine q_ls [(0, .ref (zB D.2)), (1, .ref (a 0)), (3, .ref x3), (4, .int x4), (5, .int x5), (6, .int x6), (7, .int x7), (8, .long x8), (10, .int x10), (14, .int x14), (15, .int x15), (16, .int x16), (17, .int x17), (19, .int x19)] [0, 1, 2, 3, 4, 5, 6, 7, 8, 9, 10, 11, 12, 14] rfl ?_
        exact bL_law_586 C (KL50 := KL50) (KL493 := KL493) (KL506 := KL506) (KL522 := (wL_law_522 KL50 KL493 KL506 D.2 a n)) hret hKL50 hKL493 hKL506 ih cells slots _ _ _ _ _ _ _ _ _ _ _ _ _ _ _ _ _ (by omega) (by omega) h
      · refine q_aload_n C dL_law_542 1 rfl ?_
        refine q_iload C dL_law_543 14 rfl ?_
        refine lc_empireOf C h cf_L_256 ⟨Nat.le_of_ble_eq_true rfl, Nat.le_of_ble_eq_true rfl⟩ ⟨by show cells ≤ bc0; omega, by show slots ≤ bs0; omega⟩ (Nat.le_of_ble_eq_true rfl) dL_law_545 (fun r4 h => ?_)
        show Go D E A Q 26 cells slots (lwB D.2 a S ++ hpW H) [(0, .ref (zB D.2)), (1, .ref (a 0)), (3, .ref x3), (4, .int x4), (5, .int x5), (6, .int x6), (7, .int x7), (8, .long x8), (10, .int x10), (14, .int x14), (15, .int x15), (16, .int x16), (17, .int x17), (18, .int x18), (19, .int x19)] 548 [.int r4, .int x18]
        refine q_iload C dL_law_548 12 rfl ?_
        refine q_icmp_ne C 586 dL_law_550 (by decide) h (fun h => ?_) (fun h => ?_)
        · refine q_ls [(0, .ref (zB D.2)), (1, .ref (a 0)), (3, .ref x3), (4, .int x4), (5, .int x5), (6, .int x6), (7, .int x7), (8, .long x8), (10, .int x10), (14, .int x14), (15, .int x15), (16, .int x16), (17, .int x17), (19, .int x19)] [0, 1, 2, 3, 4, 5, 6, 7, 8, 9, 10, 11, 12, 14] rfl ?_
          exact bL_law_586 C (KL50 := KL50) (KL493 := KL493) (KL506 := KL506) (KL522 := (wL_law_522 KL50 KL493 KL506 D.2 a n)) hret hKL50 hKL493 hKL506 ih cells slots _ _ _ _ _ _ _ _ _ _ _ _ _ _ _ _ _ (by omega) (by omega) h
        · refine q_aload_n C dL_law_553 1 rfl ?_
          refine q_iload C dL_law_554 14 rfl ?_
          refine lc_stratumOf C h cf_L_247 ⟨Nat.le_of_ble_eq_true rfl, Nat.le_of_ble_eq_true rfl⟩ ⟨by show cells ≤ bc0; omega, by show slots ≤ bs0; omega⟩ (Nat.le_of_ble_eq_true rfl) dL_law_556 (fun r5 h => ?_)
          show Go D E A Q 26 cells slots (lwB D.2 a S ++ hpW H) [(0, .ref (zB D.2)), (1, .ref (a 0)), (3, .ref x3), (4, .int x4), (5, .int x5), (6, .int x6), (7, .int x7), (8, .long x8), (10, .int x10), (14, .int x14), (15, .int x15), (16, .int x16), (17, .int x17), (18, .int x18), (19, .int x19)] 559 [.int r5, .int x18]
          refine q_iload C dL_law_559 10 rfl ?_
          refine q_icmp_ne C 586 dL_law_561 (by decide) h (fun h => ?_) (fun h => ?_)
          · refine q_ls [(0, .ref (zB D.2)), (1, .ref (a 0)), (3, .ref x3), (4, .int x4), (5, .int x5), (6, .int x6), (7, .int x7), (8, .long x8), (10, .int x10), (14, .int x14), (15, .int x15), (16, .int x16), (17, .int x17), (19, .int x19)] [0, 1, 2, 3, 4, 5, 6, 7, 8, 9, 10, 11, 12, 14] rfl ?_
            exact bL_law_586 C (KL50 := KL50) (KL493 := KL493) (KL506 := KL506) (KL522 := (wL_law_522 KL50 KL493 KL506 D.2 a n)) hret hKL50 hKL493 hKL506 ih cells slots _ _ _ _ _ _ _ _ _ _ _ _ _ _ _ _ _ (by omega) (by omega) h
          · refine q_aload_n C dL_law_564 1 rfl ?_
            refine q_iload C dL_law_565 14 rfl ?_
            refine lc_isFound C h cf_L_238 ⟨Nat.le_of_ble_eq_true rfl, Nat.le_of_ble_eq_true rfl⟩ ⟨by show cells ≤ bc0; omega, by show slots ≤ bs0; omega⟩ (Nat.le_of_ble_eq_true rfl) dL_law_567 (fun r6 h => ?_)
            show Go D E A Q 26 cells slots (lwB D.2 a S ++ hpW H) [(0, .ref (zB D.2)), (1, .ref (a 0)), (3, .ref x3), (4, .int x4), (5, .int x5), (6, .int x6), (7, .int x7), (8, .long x8), (10, .int x10), (14, .int x14), (15, .int x15), (16, .int x16), (17, .int x17), (18, .int x18), (19, .int x19)] 570 [.int r6, .int x18]
            refine q_if_eq C 586 dL_law_570 (by decide) h (fun h => ?_) (fun h => ?_)
            · refine q_ls [(0, .ref (zB D.2)), (1, .ref (a 0)), (3, .ref x3), (4, .int x4), (5, .int x5), (6, .int x6), (7, .int x7), (8, .long x8), (10, .int x10), (14, .int x14), (15, .int x15), (16, .int x16), (17, .int x17), (19, .int x19)] [0, 1, 2, 3, 4, 5, 6, 7, 8, 9, 10, 11, 12, 14] rfl ?_
              exact bL_law_586 C (KL50 := KL50) (KL493 := KL493) (KL506 := KL506) (KL522 := (wL_law_522 KL50 KL493 KL506 D.2 a n)) hret hKL50 hKL493 hKL506 ih cells slots _ _ _ _ _ _ _ _ _ _ _ _ _ _ _ _ _ (by omega) (by omega) h
            · refine q_aload_n C dL_law_573 1 rfl ?_
              refine q_iload C dL_law_574 14 rfl ?_
              refine lc_isSure C h cf_L_241 ⟨Nat.le_of_ble_eq_true rfl, Nat.le_of_ble_eq_true rfl⟩ ⟨by show cells ≤ bc0; omega, by show slots ≤ bs0; omega⟩ (Nat.le_of_ble_eq_true rfl) dL_law_576 (fun r7 h => ?_)
              show Go D E A Q 26 cells slots (lwB D.2 a S ++ hpW H) [(0, .ref (zB D.2)), (1, .ref (a 0)), (3, .ref x3), (4, .int x4), (5, .int x5), (6, .int x6), (7, .int x7), (8, .long x8), (10, .int x10), (14, .int x14), (15, .int x15), (16, .int x16), (17, .int x17), (18, .int x18), (19, .int x19)] 579 [.int r7, .int x18]
              refine q_if_eq C 586 dL_law_579 (by decide) h (fun h => ?_) (fun h => ?_)
              · refine q_ls [(0, .ref (zB D.2)), (1, .ref (a 0)), (3, .ref x3), (4, .int x4), (5, .int x5), (6, .int x6), (7, .int x7), (8, .long x8), (10, .int x10), (14, .int x14), (15, .int x15), (16, .int x16), (17, .int x17), (19, .int x19)] [0, 1, 2, 3, 4, 5, 6, 7, 8, 9, 10, 11, 12, 14] rfl ?_
                exact bL_law_586 C (KL50 := KL50) (KL493 := KL493) (KL506 := KL506) (KL522 := (wL_law_522 KL50 KL493 KL506 D.2 a n)) hret hKL50 hKL493 hKL506 ih cells slots _ _ _ _ _ _ _ _ _ _ _ _ _ _ _ _ _ (by omega) (by omega) h
              · refine q_iconst C (v := 1) dL_law_582 (by decide) ?_
                refine q_goto (tgt := 587) C dL_law_583 (by decide) ?_
                refine q_ls [(0, .ref (zB D.2)), (1, .ref (a 0)), (3, .ref x3), (4, .int x4), (5, .int x5), (6, .int x6), (7, .int x7), (8, .long x8), (10, .int x10), (14, .int x14), (15, .int x15), (16, .int x16), (17, .int x17), (19, .int x19)] [0, 1, 2, 3, 4, 5, 6, 7, 8, 9, 10, 11, 12, 14] rfl ?_
                exact bL_law_587 C (KL50 := KL50) (KL493 := KL493) (KL506 := KL506) (KL522 := (wL_law_522 KL50 KL493 KL506 D.2 a n)) hret hKL50 hKL493 hKL506 ih cells slots _ _ _ _ _ _ _ _ _ _ _ _ _ _ _ _ _ _ (by omega) (by omega) h
def wL_law_506 (KL50 : gH → Nat → Nat → cLS → Nat → Int32 → Int32 → Int32 → Prop) (KL493 : gH → Nat → Nat → cLS → Nat → Int32 → Int32 → Int32 → Int32 → Int64 → Int32 → Int32 → Int32 → Prop) (Z : gZ) (a : gA) : Nat → gH → Nat → Nat → cLS → Nat → Int32 → Int32 → Int32 → Int32 → Int64 → Int32 → Int32 → Int32 → Int32 → Int32 → Prop
  | 0, _, _, _, _, _, _, _, _, _, _, _, _, _, _, _ => False
  | n + 1, H, bc, bs, S, x3, x4, x5, x6, x7, x8, x10, x14, x15, x16, x17 =>
  ∃ y1 : Nat, gF H x3 8 3 (.ref y1) ∧ (∃ (n3 : Nat) (f4 : Nat → Option Nat), hpG H y1 = some (qE (zY Z 4) n3 f4) ∧ (((nI n3 ≤ x17 → kX8_isMixed a S x15 (fun r6 => ((r6 = 0 → wL_law_647 KL50 KL493 Z a H bc bs S x3 x4 x5 x6 x7 x8 x10 x14 x15) ∧ (¬ r6 = 0 → ((x16 < 2 → False) ∧ (¬ x16 < 2 → wL_law_647 KL50 KL493 Z a H bc bs S x3 x4 x5 x6 x7 x8 x10 x14 x15)))))) ∧ (¬ nI n3 ≤ x17 → ∃ k9 : Nat, wL_law_522 KL50 KL493 (wL_law_506 KL50 KL493 Z a n) Z a k9 H bc bs S x3 x4 x5 x6 x7 x8 x10 x14 x15 x16 x17 0 0))))
set_option maxRecDepth 100000 in
set_option maxHeartbeats 4000000 in
theorem bL_law_506 {D : gD} {E : gE} {A : Nat → Prop} {Q : State → Prop} {bc0 bs0 : Nat} {a : gA} (C : CL D E (rmL_law bc0 bs0) cL_law 26 RL A) (hret : ∀ (w : va_W) (ls : List (Nat × Value)) (pc : Nat), decode cL_law pc = .ok (.ireturn, 1) → Go D E A Q 26 bc0 bs0 w ls pc [.int 1]) {KL50 : gH → Nat → Nat → cLS → Nat → Int32 → Int32 → Int32 → Prop} (hKL50 : ∀ (cells slots : Nat) (H : gH) (bc : Nat) (bs : Nat) (S : cLS) (x3 : Nat) (x4 : Int32) (x5 : Int32) (x6 : Int32), cells + bc ≤ bc0 → slots + bs ≤ bs0 → KL50 H bc bs S x3 x4 x5 x6 → Go D E A Q 26 cells slots (lwB D.2 a S ++ hpW H) [(0, .ref (zB D.2)), (1, .ref (a 0)), (3, .ref x3), (4, .int x4), (5, .int x5), (6, .int x6)] 50 []) {KL493 : gH → Nat → Nat → cLS → Nat → Int32 → Int32 → Int32 → Int32 → Int64 → Int32 → Int32 → Int32 → Prop} (hKL493 : ∀ (cells slots : Nat) (H : gH) (bc : Nat) (bs : Nat) (S : cLS) (x3 : Nat) (x4 : Int32) (x5 : Int32) (x6 : Int32) (x7 : Int32) (x8 : Int64) (x10 : Int32) (x14 : Int32) (x15 : Int32), cells + bc ≤ bc0 → slots + bs ≤ bs0 → KL493 H bc bs S x3 x4 x5 x6 x7 x8 x10 x14 x15 → Go D E A Q 26 cells slots (lwB D.2 a S ++ hpW H) [(0, .ref (zB D.2)), (1, .ref (a 0)), (3, .ref x3), (4, .int x4), (5, .int x5), (6, .int x6), (7, .int x7), (8, .long x8), (10, .int x10), (14, .int x14), (15, .int x15)] 493 []) : ∀ (n : Nat) (cells slots : Nat) (H : gH) (bc : Nat) (bs : Nat) (S : cLS) (x3 : Nat) (x4 : Int32) (x5 : Int32) (x6 : Int32) (x7 : Int32) (x8 : Int64) (x10 : Int32) (x14 : Int32) (x15 : Int32) (x16 : Int32) (x17 : Int32), cells + bc ≤ bc0 → slots + bs ≤ bs0 → wL_law_506 KL50 KL493 D.2 a n H bc bs S x3 x4 x5 x6 x7 x8 x10 x14 x15 x16 x17 → Go D E A Q 26 cells slots (lwB D.2 a S ++ hpW H) [(0, .ref (zB D.2)), (1, .ref (a 0)), (3, .ref x3), (4, .int x4), (5, .int x5), (6, .int x6), (7, .int x7), (8, .long x8), (10, .int x10), (14, .int x14), (15, .int x15), (16, .int x16), (17, .int x17)] 506 [] := by
  intro n
  induction n with
  | zero =>
    intro cells slots H bc bs S x3 x4 x5 x6 x7 x8 x10 x14 x15 x16 x17 hbc hbs h
    exact h.elim
  | succ n ih =>
    intro cells slots H bc bs S x3 x4 x5 x6 x7 x8 x10 x14 x15 x16 x17 hbc hbs h
    unfold wL_law_506 at h
    refine q_iload C dL_law_506 12 rfl ?_
    refine q_aload_n C dL_law_508 2 rfl ?_
    obtain ⟨y1, e2, h⟩ := h
    refine h_get C inX9g (ci := 8) rfl 3 (by decide) fl_L_88 rfl e2 dL_law_509 ?_
    obtain ⟨n3, f4, e5, h⟩ := h
    refine h_alen C 4 rfl e5 dL_law_512 ?_
    refine q_icmp_ge C 632 dL_law_513 (by decide) h (fun h => ?_) (fun h => ?_)
    · refine q_aload_n C dL_law_632 1 rfl ?_
      refine q_iload C dL_law_633 10 rfl ?_
      refine lc_isMixed C h cf_L_263 ⟨Nat.le_of_ble_eq_true rfl, Nat.le_of_ble_eq_true rfl⟩ ⟨by show cells ≤ bc0; omega, by show slots ≤ bs0; omega⟩ (Nat.le_of_ble_eq_true rfl) dL_law_635 (fun r6 h => ?_)
      show Go D E A Q 26 cells slots (lwB D.2 a S ++ hpW H) [(0, .ref (zB D.2)), (1, .ref (a 0)), (3, .ref x3), (4, .int x4), (5, .int x5), (6, .int x6), (7, .int x7), (8, .long x8), (10, .int x10), (14, .int x14), (15, .int x15), (16, .int x16), (17, .int x17)] 638 [.int r6]
      refine q_if_eq C 647 dL_law_638 (by decide) h (fun h => ?_) (fun h => ?_)
      · refine q_ls [(0, .ref (zB D.2)), (1, .ref (a 0)), (3, .ref x3), (4, .int x4), (5, .int x5), (6, .int x6), (7, .int x7), (8, .long x8), (10, .int x10), (14, .int x14), (15, .int x15)] [0, 1, 2, 3, 4, 5, 6, 7, 8, 9, 10] rfl ?_
        exact bL_law_647 C (KL50 := KL50) (KL493 := KL493) hret hKL50 hKL493 cells slots _ _ _ _ _ _ _ _ _ _ _ _ _ (by omega) (by omega) h
      · refine q_iload C dL_law_641 11 rfl ?_
        refine q_iconst C (v := 2) dL_law_643 (by decide) ?_
        refine q_icmp_lt C 658 dL_law_644 (by decide) h (fun h => ?_) (fun h => ?_)
        · refine q_iconst C (v := 0) dL_law_658 (by decide) ?_
          exact h.elim
        · refine q_ls [(0, .ref (zB D.2)), (1, .ref (a 0)), (3, .ref x3), (4, .int x4), (5, .int x5), (6, .int x6), (7, .int x7), (8, .long x8), (10, .int x10), (14, .int x14), (15, .int x15)] [0, 1, 2, 3, 4, 5, 6, 7, 8, 9, 10] rfl ?_
          exact bL_law_647 C (KL50 := KL50) (KL493 := KL493) hret hKL50 hKL493 cells slots _ _ _ _ _ _ _ _ _ _ _ _ _ (by omega) (by omega) h
    · refine q_iconst C (v := 0) dL_law_516 (by decide) ?_
      refine q_istore C [(18, .int 0), (0, .ref (zB D.2)), (1, .ref (a 0)), (3, .ref x3), (4, .int x4), (5, .int x5), (6, .int x6), (7, .int x7), (8, .long x8), (10, .int x10), (14, .int x14), (15, .int x15), (16, .int x16), (17, .int x17)] dL_law_517 (by decide) rfl ?_
      refine q_iconst C (v := 0) dL_law_519 (by decide) ?_
      refine q_istore C [(19, .int 0), (18, .int 0), (0, .ref (zB D.2)), (1, .ref (a 0)), (3, .ref x3), (4, .int x4), (5, .int x5), (6, .int x6), (7, .int x7), (8, .long x8), (10, .int x10), (14, .int x14), (15, .int x15), (16, .int x16), (17, .int x17)] dL_law_520 (by decide) rfl ?_
      refine q_ls [(0, .ref (zB D.2)), (1, .ref (a 0)), (3, .ref x3), (4, .int x4), (5, .int x5), (6, .int x6), (7, .int x7), (8, .long x8), (10, .int x10), (14, .int x14), (15, .int x15), (16, .int x16), (17, .int x17), (18, .int 0), (19, .int 0)] [2, 3, 4, 5, 6, 7, 8, 9, 10, 11, 12, 13, 14, 1, 0] rfl ?_
      obtain ⟨nw, h⟩ := h
      exact bL_law_522 C (KL50 := KL50) (KL493 := KL493) (KL506 := (wL_law_506 KL50 KL493 D.2 a n)) hret hKL50 hKL493 ih nw cells slots _ _ _ _ _ _ _ _ _ _ _ _ _ _ _ _ _ (by omega) (by omega) h
def wL_law_493 (KL50 : gH → Nat → Nat → cLS → Nat → Int32 → Int32 → Int32 → Prop) (Z : gZ) (a : gA) : Nat → gH → Nat → Nat → cLS → Nat → Int32 → Int32 → Int32 → Int32 → Int64 → Int32 → Int32 → Int32 → Prop
  | 0, _, _, _, _, _, _, _, _, _, _, _, _, _ => False
  | n + 1, H, bc, bs, S, x3, x4, x5, x6, x7, x8, x10, x14, x15 =>
  ((x5 ≤ x15 → kX8_bestDig a S (fun r1 S1 => ∃ k9 : Nat, wL_law_683 KL50 Z a k9 H bc bs S1 x3 x4 x5 x6 x7 x8 x10 r1 0)) ∧ (¬ x5 ≤ x15 → ∃ k9 : Nat, wL_law_506 KL50 (wL_law_493 KL50 Z a n) Z a k9 H bc bs S x3 x4 x5 x6 x7 x8 x10 x14 x15 0 0))
set_option maxRecDepth 100000 in
set_option maxHeartbeats 4000000 in
theorem bL_law_493 {D : gD} {E : gE} {A : Nat → Prop} {Q : State → Prop} {bc0 bs0 : Nat} {a : gA} (C : CL D E (rmL_law bc0 bs0) cL_law 26 RL A) (hret : ∀ (w : va_W) (ls : List (Nat × Value)) (pc : Nat), decode cL_law pc = .ok (.ireturn, 1) → Go D E A Q 26 bc0 bs0 w ls pc [.int 1]) {KL50 : gH → Nat → Nat → cLS → Nat → Int32 → Int32 → Int32 → Prop} (hKL50 : ∀ (cells slots : Nat) (H : gH) (bc : Nat) (bs : Nat) (S : cLS) (x3 : Nat) (x4 : Int32) (x5 : Int32) (x6 : Int32), cells + bc ≤ bc0 → slots + bs ≤ bs0 → KL50 H bc bs S x3 x4 x5 x6 → Go D E A Q 26 cells slots (lwB D.2 a S ++ hpW H) [(0, .ref (zB D.2)), (1, .ref (a 0)), (3, .ref x3), (4, .int x4), (5, .int x5), (6, .int x6)] 50 []) : ∀ (n : Nat) (cells slots : Nat) (H : gH) (bc : Nat) (bs : Nat) (S : cLS) (x3 : Nat) (x4 : Int32) (x5 : Int32) (x6 : Int32) (x7 : Int32) (x8 : Int64) (x10 : Int32) (x14 : Int32) (x15 : Int32), cells + bc ≤ bc0 → slots + bs ≤ bs0 → wL_law_493 KL50 D.2 a n H bc bs S x3 x4 x5 x6 x7 x8 x10 x14 x15 → Go D E A Q 26 cells slots (lwB D.2 a S ++ hpW H) [(0, .ref (zB D.2)), (1, .ref (a 0)), (3, .ref x3), (4, .int x4), (5, .int x5), (6, .int x6), (7, .int x7), (8, .long x8), (10, .int x10), (14, .int x14), (15, .int x15)] 493 [] := by
  intro n
  induction n with
  | zero =>
    intro cells slots H bc bs S x3 x4 x5 x6 x7 x8 x10 x14 x15 hbc hbs h
    exact h.elim
  | succ n ih =>
    intro cells slots H bc bs S x3 x4 x5 x6 x7 x8 x10 x14 x15 hbc hbs h
    unfold wL_law_493 at h
    refine q_iload C dL_law_493 10 rfl ?_
    refine q_iload C dL_law_495 4 rfl ?_
    refine q_icmp_ge C 674 dL_law_497 (by decide) h (fun h => ?_) (fun h => ?_)
    · refine q_aload_n C dL_law_674 1 rfl ?_
      refine lc_bestDig C h cf_L_269 ⟨Nat.le_of_ble_eq_true rfl, Nat.le_of_ble_eq_true rfl⟩ ⟨by show cells ≤ bc0; omega, by show slots ≤ bs0; omega⟩ (Nat.le_of_ble_eq_true rfl) dL_law_675 (fun r1 S1 h => ?_)
      show Go D E A Q 26 cells slots (lwB D.2 a S1 ++ hpW H) [(0, .ref (zB D.2)), (1, .ref (a 0)), (3, .ref x3), (4, .int x4), (5, .int x5), (6, .int x6), (7, .int x7), (8, .long x8), (10, .int x10), (14, .int x14), (15, .int x15)] 678 [.int r1]
      refine q_istore C [(15, .int r1), (0, .ref (zB D.2)), (1, .ref (a 0)), (3, .ref x3), (4, .int x4), (5, .int x5), (6, .int x6), (7, .int x7), (8, .long x8), (10, .int x10), (14, .int x14)] dL_law_678 (by decide) rfl ?_
      refine q_iconst C (v := 0) dL_law_680 (by decide) ?_
      refine q_istore C [(16, .int 0), (15, .int r1), (0, .ref (zB D.2)), (1, .ref (a 0)), (3, .ref x3), (4, .int x4), (5, .int x5), (6, .int x6), (7, .int x7), (8, .long x8), (10, .int x10), (14, .int x14)] dL_law_681 (by decide) rfl ?_
      refine q_ls [(0, .ref (zB D.2)), (1, .ref (a 0)), (3, .ref x3), (4, .int x4), (5, .int x5), (6, .int x6), (7, .int x7), (8, .long x8), (10, .int x10), (15, .int r1), (16, .int 0)] [2, 3, 4, 5, 6, 7, 8, 9, 10, 1, 0] rfl ?_
      obtain ⟨nw, h⟩ := h
      exact bL_law_683 C (KL50 := KL50) hret hKL50 nw cells slots _ _ _ _ _ _ _ _ _ _ _ _ _ (by omega) (by omega) h
    · refine q_iconst C (v := 0) dL_law_500 (by decide) ?_
      refine q_istore C [(16, .int 0), (0, .ref (zB D.2)), (1, .ref (a 0)), (3, .ref x3), (4, .int x4), (5, .int x5), (6, .int x6), (7, .int x7), (8, .long x8), (10, .int x10), (14, .int x14), (15, .int x15)] dL_law_501 (by decide) rfl ?_
      refine q_iconst C (v := 0) dL_law_503 (by decide) ?_
      refine q_istore C [(17, .int 0), (16, .int 0), (0, .ref (zB D.2)), (1, .ref (a 0)), (3, .ref x3), (4, .int x4), (5, .int x5), (6, .int x6), (7, .int x7), (8, .long x8), (10, .int x10), (14, .int x14), (15, .int x15)] dL_law_504 (by decide) rfl ?_
      refine q_ls [(0, .ref (zB D.2)), (1, .ref (a 0)), (3, .ref x3), (4, .int x4), (5, .int x5), (6, .int x6), (7, .int x7), (8, .long x8), (10, .int x10), (14, .int x14), (15, .int x15), (16, .int 0), (17, .int 0)] [2, 3, 4, 5, 6, 7, 8, 9, 10, 11, 12, 1, 0] rfl ?_
      obtain ⟨nw, h⟩ := h
      exact bL_law_506 C (KL50 := KL50) (KL493 := (wL_law_493 KL50 D.2 a n)) hret hKL50 ih nw cells slots _ _ _ _ _ _ _ _ _ _ _ _ _ _ _ (by omega) (by omega) h
def wL_law_459 (KL50 : gH → Nat → Nat → cLS → Nat → Int32 → Int32 → Int32 → Prop) (KL363 : gH → Nat → Nat → cLS → Nat → Int32 → Int32 → Int32 → Int32 → Int64 → Int32 → Int32 → Int32 → Prop) (Z : gZ) (a : gA) (H : gH) (bc : Nat) (bs : Nat) (S : cLS) (x3 : Nat) (x4 : Int32) (x5 : Int32) (x6 : Int32) (x7 : Int32) (x8 : Int64) (x10 : Int32) (x13 : Int32) (x14 : Int32) (z0 : Int32) : Prop :=
  kX8_isFound a S x14 (fun r1 => ((z0 = r1 → KL363 H bc bs S x3 x4 x5 x6 x7 x8 x10 x13 (x14 + 1)) ∧ (¬ z0 = r1 → False)))
set_option maxRecDepth 100000 in
set_option maxHeartbeats 4000000 in
theorem bL_law_459 {D : gD} {E : gE} {A : Nat → Prop} {Q : State → Prop} {bc0 bs0 : Nat} {a : gA} (C : CL D E (rmL_law bc0 bs0) cL_law 26 RL A) (hret : ∀ (w : va_W) (ls : List (Nat × Value)) (pc : Nat), decode cL_law pc = .ok (.ireturn, 1) → Go D E A Q 26 bc0 bs0 w ls pc [.int 1]) {KL50 : gH → Nat → Nat → cLS → Nat → Int32 → Int32 → Int32 → Prop} (hKL50 : ∀ (cells slots : Nat) (H : gH) (bc : Nat) (bs : Nat) (S : cLS) (x3 : Nat) (x4 : Int32) (x5 : Int32) (x6 : Int32), cells + bc ≤ bc0 → slots + bs ≤ bs0 → KL50 H bc bs S x3 x4 x5 x6 → Go D E A Q 26 cells slots (lwB D.2 a S ++ hpW H) [(0, .ref (zB D.2)), (1, .ref (a 0)), (3, .ref x3), (4, .int x4), (5, .int x5), (6, .int x6)] 50 []) {KL363 : gH → Nat → Nat → cLS → Nat → Int32 → Int32 → Int32 → Int32 → Int64 → Int32 → Int32 → Int32 → Prop} (hKL363 : ∀ (cells slots : Nat) (H : gH) (bc : Nat) (bs : Nat) (S : cLS) (x3 : Nat) (x4 : Int32) (x5 : Int32) (x6 : Int32) (x7 : Int32) (x8 : Int64) (x10 : Int32) (x13 : Int32) (x14 : Int32), cells + bc ≤ bc0 → slots + bs ≤ bs0 → KL363 H bc bs S x3 x4 x5 x6 x7 x8 x10 x13 x14 → Go D E A Q 26 cells slots (lwB D.2 a S ++ hpW H) [(0, .ref (zB D.2)), (1, .ref (a 0)), (3, .ref x3), (4, .int x4), (5, .int x5), (6, .int x6), (7, .int x7), (8, .long x8), (10, .int x10), (13, .int x13), (14, .int x14)] 363 []) : ∀ (cells slots : Nat) (H : gH) (bc : Nat) (bs : Nat) (S : cLS) (x3 : Nat) (x4 : Int32) (x5 : Int32) (x6 : Int32) (x7 : Int32) (x8 : Int64) (x10 : Int32) (x13 : Int32) (x14 : Int32) (z0 : Int32), cells + bc ≤ bc0 → slots + bs ≤ bs0 → wL_law_459 KL50 KL363 D.2 a H bc bs S x3 x4 x5 x6 x7 x8 x10 x13 x14 z0 → Go D E A Q 26 cells slots (lwB D.2 a S ++ hpW H) [(0, .ref (zB D.2)), (1, .ref (a 0)), (3, .ref x3), (4, .int x4), (5, .int x5), (6, .int x6), (7, .int x7), (8, .long x8), (10, .int x10), (13, .int x13), (14, .int x14)] 459 [.int z0] := by
  intro cells slots H bc bs S x3 x4 x5 x6 x7 x8 x10 x13 x14 z0 hbc hbs h
  unfold wL_law_459 at h
  refine q_aload_n C dL_law_459 1 rfl ?_
  refine q_iload C dL_law_460 10 rfl ?_
  refine lc_isFound C h cf_L_238 ⟨Nat.le_of_ble_eq_true rfl, Nat.le_of_ble_eq_true rfl⟩ ⟨by show cells ≤ bc0; omega, by show slots ≤ bs0; omega⟩ (Nat.le_of_ble_eq_true rfl) dL_law_462 (fun r1 h => ?_)
  show Go D E A Q 26 cells slots (lwB D.2 a S ++ hpW H) [(0, .ref (zB D.2)), (1, .ref (a 0)), (3, .ref x3), (4, .int x4), (5, .int x5), (6, .int x6), (7, .int x7), (8, .long x8), (10, .int x10), (13, .int x13), (14, .int x14)] 465 [.int r1, .int z0]
  refine q_icmp_eq C 470 dL_law_465 (by decide) h (fun h => ?_) (fun h => ?_)
  · refine q_iinc C (v := x14 + 1) [(14, .int (x14 + 1)), (0, .ref (zB D.2)), (1, .ref (a 0)), (3, .ref x3), (4, .int x4), (5, .int x5), (6, .int x6), (7, .int x7), (8, .long x8), (10, .int x10), (13, .int x13)] dL_law_470 10 rfl rfl (by decide) rfl ?_
    refine q_goto (tgt := 363) C dL_law_473 (by decide) ?_
    refine q_ls [(0, .ref (zB D.2)), (1, .ref (a 0)), (3, .ref x3), (4, .int x4), (5, .int x5), (6, .int x6), (7, .int x7), (8, .long x8), (10, .int x10), (13, .int x13), (14, .int (x14 + 1))] [1, 2, 3, 4, 5, 6, 7, 8, 9, 10, 0] rfl ?_
    exact hKL363 cells slots _ _ _ _ _ _ _ _ _ _ _ _ _ (by omega) (by omega) h
  · refine q_iconst C (v := 0) dL_law_468 (by decide) ?_
    exact h.elim
def wL_law_425 (KL50 : gH → Nat → Nat → cLS → Nat → Int32 → Int32 → Int32 → Prop) (KL363 : gH → Nat → Nat → cLS → Nat → Int32 → Int32 → Int32 → Int32 → Int64 → Int32 → Int32 → Int32 → Prop) (Z : gZ) (a : gA) (H : gH) (bc : Nat) (bs : Nat) (S : cLS) (x3 : Nat) (x4 : Int32) (x5 : Int32) (x6 : Int32) (x7 : Int32) (x8 : Int64) (x10 : Int32) (x13 : Int32) (x14 : Int32) : Prop :=
  kX8_stratumOf a S x14 (fun r1 => ((r1 < 0 → False) ∧ (¬ r1 < 0 → kX8_stratumOf a S x14 (fun r2 => ((x5 ≤ r2 → False) ∧ (¬ x5 ≤ r2 → kX8_daysUntilFound a S x14 (fun r3 S3 => ((¬ r3 = 0 → wL_law_459 KL50 KL363 Z a H bc bs S3 x3 x4 x5 x6 x7 x8 x10 x13 x14 0) ∧ (r3 = 0 → wL_law_459 KL50 KL363 Z a H bc bs S3 x3 x4 x5 x6 x7 x8 x10 x13 x14 1)))))))))
set_option maxRecDepth 100000 in
set_option maxHeartbeats 4000000 in
theorem bL_law_425 {D : gD} {E : gE} {A : Nat → Prop} {Q : State → Prop} {bc0 bs0 : Nat} {a : gA} (C : CL D E (rmL_law bc0 bs0) cL_law 26 RL A) (hret : ∀ (w : va_W) (ls : List (Nat × Value)) (pc : Nat), decode cL_law pc = .ok (.ireturn, 1) → Go D E A Q 26 bc0 bs0 w ls pc [.int 1]) {KL50 : gH → Nat → Nat → cLS → Nat → Int32 → Int32 → Int32 → Prop} (hKL50 : ∀ (cells slots : Nat) (H : gH) (bc : Nat) (bs : Nat) (S : cLS) (x3 : Nat) (x4 : Int32) (x5 : Int32) (x6 : Int32), cells + bc ≤ bc0 → slots + bs ≤ bs0 → KL50 H bc bs S x3 x4 x5 x6 → Go D E A Q 26 cells slots (lwB D.2 a S ++ hpW H) [(0, .ref (zB D.2)), (1, .ref (a 0)), (3, .ref x3), (4, .int x4), (5, .int x5), (6, .int x6)] 50 []) {KL363 : gH → Nat → Nat → cLS → Nat → Int32 → Int32 → Int32 → Int32 → Int64 → Int32 → Int32 → Int32 → Prop} (hKL363 : ∀ (cells slots : Nat) (H : gH) (bc : Nat) (bs : Nat) (S : cLS) (x3 : Nat) (x4 : Int32) (x5 : Int32) (x6 : Int32) (x7 : Int32) (x8 : Int64) (x10 : Int32) (x13 : Int32) (x14 : Int32), cells + bc ≤ bc0 → slots + bs ≤ bs0 → KL363 H bc bs S x3 x4 x5 x6 x7 x8 x10 x13 x14 → Go D E A Q 26 cells slots (lwB D.2 a S ++ hpW H) [(0, .ref (zB D.2)), (1, .ref (a 0)), (3, .ref x3), (4, .int x4), (5, .int x5), (6, .int x6), (7, .int x7), (8, .long x8), (10, .int x10), (13, .int x13), (14, .int x14)] 363 []) : ∀ (cells slots : Nat) (H : gH) (bc : Nat) (bs : Nat) (S : cLS) (x3 : Nat) (x4 : Int32) (x5 : Int32) (x6 : Int32) (x7 : Int32) (x8 : Int64) (x10 : Int32) (x13 : Int32) (x14 : Int32), cells + bc ≤ bc0 → slots + bs ≤ bs0 → wL_law_425 KL50 KL363 D.2 a H bc bs S x3 x4 x5 x6 x7 x8 x10 x13 x14 → Go D E A Q 26 cells slots (lwB D.2 a S ++ hpW H) [(0, .ref (zB D.2)), (1, .ref (a 0)), (3, .ref x3), (4, .int x4), (5, .int x5), (6, .int x6), (7, .int x7), (8, .long x8), (10, .int x10), (13, .int x13), (14, .int x14)] 425 [] := by
  intro cells slots H bc bs S x3 x4 x5 x6 x7 x8 x10 x13 x14 hbc hbs h
  unfold wL_law_425 at h
  refine q_aload_n C dL_law_425 1 rfl ?_
  refine q_iload C dL_law_426 10 rfl ?_
  refine lc_stratumOf C h cf_L_247 ⟨Nat.le_of_ble_eq_true rfl, Nat.le_of_ble_eq_true rfl⟩ ⟨by show cells ≤ bc0; omega, by show slots ≤ bs0; omega⟩ (Nat.le_of_ble_eq_true rfl) dL_law_428 (fun r1 h => ?_)
  show Go D E A Q 26 cells slots (lwB D.2 a S ++ hpW H) [(0, .ref (zB D.2)), (1, .ref (a 0)), (3, .ref x3), (4, .int x4), (5, .int x5), (6, .int x6), (7, .int x7), (8, .long x8), (10, .int x10), (13, .int x13), (14, .int x14)] 431 [.int r1]
  refine q_if_lt C 468 dL_law_431 (by decide) h (fun h => ?_) (fun h => ?_)
  · refine q_iconst C (v := 0) dL_law_468 (by decide) ?_
    exact h.elim
  · refine q_aload_n C dL_law_434 1 rfl ?_
    refine q_iload C dL_law_435 10 rfl ?_
    refine lc_stratumOf C h cf_L_247 ⟨Nat.le_of_ble_eq_true rfl, Nat.le_of_ble_eq_true rfl⟩ ⟨by show cells ≤ bc0; omega, by show slots ≤ bs0; omega⟩ (Nat.le_of_ble_eq_true rfl) dL_law_437 (fun r2 h => ?_)
    show Go D E A Q 26 cells slots (lwB D.2 a S ++ hpW H) [(0, .ref (zB D.2)), (1, .ref (a 0)), (3, .ref x3), (4, .int x4), (5, .int x5), (6, .int x6), (7, .int x7), (8, .long x8), (10, .int x10), (13, .int x13), (14, .int x14)] 440 [.int r2]
    refine q_iload C dL_law_440 4 rfl ?_
    refine q_icmp_ge C 468 dL_law_442 (by decide) h (fun h => ?_) (fun h => ?_)
    · refine q_iconst C (v := 0) dL_law_468 (by decide) ?_
      exact h.elim
    · refine q_aload_n C dL_law_445 1 rfl ?_
      refine q_iload C dL_law_446 10 rfl ?_
      refine lc_daysUntilFound C h cf_L_250 ⟨Nat.le_of_ble_eq_true rfl, Nat.le_of_ble_eq_true rfl⟩ ⟨by show cells ≤ bc0; omega, by show slots ≤ bs0; omega⟩ (Nat.le_of_ble_eq_true rfl) dL_law_448 (fun r3 S3 h => ?_)
      show Go D E A Q 26 cells slots (lwB D.2 a S3 ++ hpW H) [(0, .ref (zB D.2)), (1, .ref (a 0)), (3, .ref x3), (4, .int x4), (5, .int x5), (6, .int x6), (7, .int x7), (8, .long x8), (10, .int x10), (13, .int x13), (14, .int x14)] 451 [.int r3]
      refine q_if_ne C 458 dL_law_451 (by decide) h (fun h => ?_) (fun h => ?_)
      · refine q_iconst C (v := 0) dL_law_458 (by decide) ?_
        exact bL_law_459 C (KL50 := KL50) (KL363 := KL363) hret hKL50 hKL363 cells slots _ _ _ _ _ _ _ _ _ _ _ _ _ _ (by omega) (by omega) h
      · refine q_iconst C (v := 1) dL_law_454 (by decide) ?_
        refine q_goto (tgt := 459) C dL_law_455 (by decide) ?_
        exact bL_law_459 C (KL50 := KL50) (KL363 := KL363) hret hKL50 hKL363 cells slots _ _ _ _ _ _ _ _ _ _ _ _ _ _ (by omega) (by omega) h
def wL_law_397 (KL50 : gH → Nat → Nat → cLS → Nat → Int32 → Int32 → Int32 → Prop) (KL363 : gH → Nat → Nat → cLS → Nat → Int32 → Int32 → Int32 → Int32 → Int64 → Int32 → Int32 → Int32 → Prop) (Z : gZ) (a : gA) (H : gH) (bc : Nat) (bs : Nat) (S : cLS) (x3 : Nat) (x4 : Int32) (x5 : Int32) (x6 : Int32) (x7 : Int32) (x8 : Int64) (x10 : Int32) (x14 : Int32) (z0 : Int32) (z1 : Int32) : Prop :=
  wL_law_425 KL50 KL363 Z a H bc bs S x3 x4 x5 x6 x7 x8 x10 (z1 + z0) x14
set_option maxRecDepth 100000 in
set_option maxHeartbeats 4000000 in
theorem bL_law_397 {D : gD} {E : gE} {A : Nat → Prop} {Q : State → Prop} {bc0 bs0 : Nat} {a : gA} (C : CL D E (rmL_law bc0 bs0) cL_law 26 RL A) (hret : ∀ (w : va_W) (ls : List (Nat × Value)) (pc : Nat), decode cL_law pc = .ok (.ireturn, 1) → Go D E A Q 26 bc0 bs0 w ls pc [.int 1]) {KL50 : gH → Nat → Nat → cLS → Nat → Int32 → Int32 → Int32 → Prop} (hKL50 : ∀ (cells slots : Nat) (H : gH) (bc : Nat) (bs : Nat) (S : cLS) (x3 : Nat) (x4 : Int32) (x5 : Int32) (x6 : Int32), cells + bc ≤ bc0 → slots + bs ≤ bs0 → KL50 H bc bs S x3 x4 x5 x6 → Go D E A Q 26 cells slots (lwB D.2 a S ++ hpW H) [(0, .ref (zB D.2)), (1, .ref (a 0)), (3, .ref x3), (4, .int x4), (5, .int x5), (6, .int x6)] 50 []) {KL363 : gH → Nat → Nat → cLS → Nat → Int32 → Int32 → Int32 → Int32 → Int64 → Int32 → Int32 → Int32 → Prop} (hKL363 : ∀ (cells slots : Nat) (H : gH) (bc : Nat) (bs : Nat) (S : cLS) (x3 : Nat) (x4 : Int32) (x5 : Int32) (x6 : Int32) (x7 : Int32) (x8 : Int64) (x10 : Int32) (x13 : Int32) (x14 : Int32), cells + bc ≤ bc0 → slots + bs ≤ bs0 → KL363 H bc bs S x3 x4 x5 x6 x7 x8 x10 x13 x14 → Go D E A Q 26 cells slots (lwB D.2 a S ++ hpW H) [(0, .ref (zB D.2)), (1, .ref (a 0)), (3, .ref x3), (4, .int x4), (5, .int x5), (6, .int x6), (7, .int x7), (8, .long x8), (10, .int x10), (13, .int x13), (14, .int x14)] 363 []) : ∀ (cells slots : Nat) (H : gH) (bc : Nat) (bs : Nat) (S : cLS) (x3 : Nat) (x4 : Int32) (x5 : Int32) (x6 : Int32) (x7 : Int32) (x8 : Int64) (x10 : Int32) (x14 : Int32) (z0 : Int32) (z1 : Int32), cells + bc ≤ bc0 → slots + bs ≤ bs0 → wL_law_397 KL50 KL363 D.2 a H bc bs S x3 x4 x5 x6 x7 x8 x10 x14 z0 z1 → Go D E A Q 26 cells slots (lwB D.2 a S ++ hpW H) [(0, .ref (zB D.2)), (1, .ref (a 0)), (3, .ref x3), (4, .int x4), (5, .int x5), (6, .int x6), (7, .int x7), (8, .long x8), (10, .int x10), (14, .int x14)] 397 [.int z0, .int z1] := by
  intro cells slots H bc bs S x3 x4 x5 x6 x7 x8 x10 x14 z0 z1 hbc hbs h
  unfold wL_law_397 at h
  refine q_iadd C dL_law_397 ?_
  refine q_istore C [(13, .int (z1 + z0)), (0, .ref (zB D.2)), (1, .ref (a 0)), (3, .ref x3), (4, .int x4), (5, .int x5), (6, .int x6), (7, .int x7), (8, .long x8), (10, .int x10), (14, .int x14)] dL_law_398 (by decide) rfl ?_
  refine q_goto (tgt := 425) C dL_law_400 (by decide) ?_
  refine q_ls [(0, .ref (zB D.2)), (1, .ref (a 0)), (3, .ref x3), (4, .int x4), (5, .int x5), (6, .int x6), (7, .int x7), (8, .long x8), (10, .int x10), (13, .int (z1 + z0)), (14, .int x14)] [1, 2, 3, 4, 5, 6, 7, 8, 9, 0, 10] rfl ?_
  exact bL_law_425 C (KL50 := KL50) (KL363 := KL363) hret hKL50 hKL363 cells slots _ _ _ _ _ _ _ _ _ _ _ _ _ (by omega) (by omega) h
def wL_law_363 (KL50 : gH → Nat → Nat → cLS → Nat → Int32 → Int32 → Int32 → Prop) (Z : gZ) (a : gA) : Nat → gH → Nat → Nat → cLS → Nat → Int32 → Int32 → Int32 → Int32 → Int64 → Int32 → Int32 → Int32 → Prop
  | 0, _, _, _, _, _, _, _, _, _, _, _, _, _ => False
  | n + 1, H, bc, bs, S, x3, x4, x5, x6, x7, x8, x10, x13, x14 =>
  kX8_finds a S (fun r1 => ((r1 ≤ x14 → kX8_sureFinds a S (fun r2 => ((x13 = r2 → ∃ k9 : Nat, wL_law_493 KL50 Z a k9 H bc bs S x3 x4 x5 x6 x7 x8 x10 (-1) 0) ∧ (¬ x13 = r2 → False)))) ∧ (¬ r1 ≤ x14 → kX8_isFound a S x14 (fun r3 => ((r3 = 0 → kX8_buriedUnder a S x14 (fun r4 => ((r4 < 0 → False) ∧ (¬ r4 < 0 → kX8_buriedUnder a S x14 (fun r5 => ((r5 < x5 → wL_law_425 KL50 (wL_law_363 KL50 Z a n) Z a H bc bs S x3 x4 x5 x6 x7 x8 x10 x13 x14) ∧ (¬ r5 < x5 → False))))))) ∧ (¬ r3 = 0 → kX8_isSure a S x14 (fun r6 => ((r6 = 0 → wL_law_397 KL50 (wL_law_363 KL50 Z a n) Z a H bc bs S x3 x4 x5 x6 x7 x8 x10 x14 0 x13) ∧ (¬ r6 = 0 → wL_law_397 KL50 (wL_law_363 KL50 Z a n) Z a H bc bs S x3 x4 x5 x6 x7 x8 x10 x14 1 x13)))))))))
set_option maxRecDepth 100000 in
set_option maxHeartbeats 4000000 in
theorem bL_law_363 {D : gD} {E : gE} {A : Nat → Prop} {Q : State → Prop} {bc0 bs0 : Nat} {a : gA} (C : CL D E (rmL_law bc0 bs0) cL_law 26 RL A) (hret : ∀ (w : va_W) (ls : List (Nat × Value)) (pc : Nat), decode cL_law pc = .ok (.ireturn, 1) → Go D E A Q 26 bc0 bs0 w ls pc [.int 1]) {KL50 : gH → Nat → Nat → cLS → Nat → Int32 → Int32 → Int32 → Prop} (hKL50 : ∀ (cells slots : Nat) (H : gH) (bc : Nat) (bs : Nat) (S : cLS) (x3 : Nat) (x4 : Int32) (x5 : Int32) (x6 : Int32), cells + bc ≤ bc0 → slots + bs ≤ bs0 → KL50 H bc bs S x3 x4 x5 x6 → Go D E A Q 26 cells slots (lwB D.2 a S ++ hpW H) [(0, .ref (zB D.2)), (1, .ref (a 0)), (3, .ref x3), (4, .int x4), (5, .int x5), (6, .int x6)] 50 []) : ∀ (n : Nat) (cells slots : Nat) (H : gH) (bc : Nat) (bs : Nat) (S : cLS) (x3 : Nat) (x4 : Int32) (x5 : Int32) (x6 : Int32) (x7 : Int32) (x8 : Int64) (x10 : Int32) (x13 : Int32) (x14 : Int32), cells + bc ≤ bc0 → slots + bs ≤ bs0 → wL_law_363 KL50 D.2 a n H bc bs S x3 x4 x5 x6 x7 x8 x10 x13 x14 → Go D E A Q 26 cells slots (lwB D.2 a S ++ hpW H) [(0, .ref (zB D.2)), (1, .ref (a 0)), (3, .ref x3), (4, .int x4), (5, .int x5), (6, .int x6), (7, .int x7), (8, .long x8), (10, .int x10), (13, .int x13), (14, .int x14)] 363 [] := by
  intro n
  induction n with
  | zero =>
    intro cells slots H bc bs S x3 x4 x5 x6 x7 x8 x10 x13 x14 hbc hbs h
    exact h.elim
  | succ n ih =>
    intro cells slots H bc bs S x3 x4 x5 x6 x7 x8 x10 x13 x14 hbc hbs h
    unfold wL_law_363 at h
    refine q_iload C dL_law_363 10 rfl ?_
    refine q_aload_n C dL_law_365 1 rfl ?_
    refine lc_finds C h cf_L_232 ⟨Nat.le_of_ble_eq_true rfl, Nat.le_of_ble_eq_true rfl⟩ ⟨by show cells ≤ bc0; omega, by show slots ≤ bs0; omega⟩ (Nat.le_of_ble_eq_true rfl) dL_law_366 (fun r1 h => ?_)
    show Go D E A Q 26 cells slots (lwB D.2 a S ++ hpW H) [(0, .ref (zB D.2)), (1, .ref (a 0)), (3, .ref x3), (4, .int x4), (5, .int x5), (6, .int x6), (7, .int x7), (8, .long x8), (10, .int x10), (13, .int x13), (14, .int x14)] 369 [.int r1, .int x14]
    refine q_icmp_ge C 476 dL_law_369 (by decide) h (fun h => ?_) (fun h => ?_)
    · refine q_iload C dL_law_476 9 rfl ?_
      refine q_aload_n C dL_law_478 1 rfl ?_
      refine lc_sureFinds C h cf_L_235 ⟨Nat.le_of_ble_eq_true rfl, Nat.le_of_ble_eq_true rfl⟩ ⟨by show cells ≤ bc0; omega, by show slots ≤ bs0; omega⟩ (Nat.le_of_ble_eq_true rfl) dL_law_479 (fun r2 h => ?_)
      show Go D E A Q 26 cells slots (lwB D.2 a S ++ hpW H) [(0, .ref (zB D.2)), (1, .ref (a 0)), (3, .ref x3), (4, .int x4), (5, .int x5), (6, .int x6), (7, .int x7), (8, .long x8), (10, .int x10), (13, .int x13), (14, .int x14)] 482 [.int r2, .int x13]
      refine q_icmp_eq C 487 dL_law_482 (by decide) h (fun h => ?_) (fun h => ?_)
      · refine q_iconst C (v := (-1)) dL_law_487 (by decide) ?_
        refine q_istore C [(14, .int (-1)), (0, .ref (zB D.2)), (1, .ref (a 0)), (3, .ref x3), (4, .int x4), (5, .int x5), (6, .int x6), (7, .int x7), (8, .long x8), (10, .int x10), (13, .int x13)] dL_law_488 (by decide) rfl ?_
        refine q_iconst C (v := 0) dL_law_490 (by decide) ?_
        refine q_istore C [(15, .int 0), (14, .int (-1)), (0, .ref (zB D.2)), (1, .ref (a 0)), (3, .ref x3), (4, .int x4), (5, .int x5), (6, .int x6), (7, .int x7), (8, .long x8), (10, .int x10), (13, .int x13)] dL_law_491 (by decide) rfl ?_
        refine q_ls [(0, .ref (zB D.2)), (1, .ref (a 0)), (3, .ref x3), (4, .int x4), (5, .int x5), (6, .int x6), (7, .int x7), (8, .long x8), (10, .int x10), (14, .int (-1)), (15, .int 0)] [2, 3, 4, 5, 6, 7, 8, 9, 10, 1, 0] rfl ?_
        obtain ⟨nw, h⟩ := h
        exact bL_law_493 C (KL50 := KL50) hret hKL50 nw cells slots _ _ _ _ _ _ _ _ _ _ _ _ _ (by omega) (by omega) h
      · refine q_iconst C (v := 0) dL_law_485 (by decide) ?_
        exact h.elim
    · refine q_aload_n C dL_law_372 1 rfl ?_
      refine q_iload C dL_law_373 10 rfl ?_
      refine lc_isFound C h cf_L_238 ⟨Nat.le_of_ble_eq_true rfl, Nat.le_of_ble_eq_true rfl⟩ ⟨by show cells ≤ bc0; omega, by show slots ≤ bs0; omega⟩ (Nat.le_of_ble_eq_true rfl) dL_law_375 (fun r3 h => ?_)
      show Go D E A Q 26 cells slots (lwB D.2 a S ++ hpW H) [(0, .ref (zB D.2)), (1, .ref (a 0)), (3, .ref x3), (4, .int x4), (5, .int x5), (6, .int x6), (7, .int x7), (8, .long x8), (10, .int x10), (13, .int x13), (14, .int x14)] 378 [.int r3]
      refine q_if_eq C 403 dL_law_378 (by decide) h (fun h => ?_) (fun h => ?_)
      · refine q_aload_n C dL_law_403 1 rfl ?_
        refine q_iload C dL_law_404 10 rfl ?_
        refine lc_buriedUnder C h cf_L_244 ⟨Nat.le_of_ble_eq_true rfl, Nat.le_of_ble_eq_true rfl⟩ ⟨by show cells ≤ bc0; omega, by show slots ≤ bs0; omega⟩ (Nat.le_of_ble_eq_true rfl) dL_law_406 (fun r4 h => ?_)
        show Go D E A Q 26 cells slots (lwB D.2 a S ++ hpW H) [(0, .ref (zB D.2)), (1, .ref (a 0)), (3, .ref x3), (4, .int x4), (5, .int x5), (6, .int x6), (7, .int x7), (8, .long x8), (10, .int x10), (13, .int x13), (14, .int x14)] 409 [.int r4]
        refine q_if_lt C 423 dL_law_409 (by decide) h (fun h => ?_) (fun h => ?_)
        · refine q_iconst C (v := 0) dL_law_423 (by decide) ?_
          exact h.elim
        · refine q_aload_n C dL_law_412 1 rfl ?_
          refine q_iload C dL_law_413 10 rfl ?_
          refine lc_buriedUnder C h cf_L_244 ⟨Nat.le_of_ble_eq_true rfl, Nat.le_of_ble_eq_true rfl⟩ ⟨by show cells ≤ bc0; omega, by show slots ≤ bs0; omega⟩ (Nat.le_of_ble_eq_true rfl) dL_law_415 (fun r5 h => ?_)
          show Go D E A Q 26 cells slots (lwB D.2 a S ++ hpW H) [(0, .ref (zB D.2)), (1, .ref (a 0)), (3, .ref x3), (4, .int x4), (5, .int x5), (6, .int x6), (7, .int x7), (8, .long x8), (10, .int x10), (13, .int x13), (14, .int x14)] 418 [.int r5]
          refine q_iload C dL_law_418 4 rfl ?_
          refine q_icmp_lt C 425 dL_law_420 (by decide) h (fun h => ?_) (fun h => ?_)
          · exact bL_law_425 C (KL50 := KL50) (KL363 := (wL_law_363 KL50 D.2 a n)) hret hKL50 ih cells slots _ _ _ _ _ _ _ _ _ _ _ _ _ (by omega) (by omega) h
          · refine q_iconst C (v := 0) dL_law_423 (by decide) ?_
            exact h.elim
      · refine q_iload C dL_law_381 9 rfl ?_
        refine q_aload_n C dL_law_383 1 rfl ?_
        refine q_iload C dL_law_384 10 rfl ?_
        refine lc_isSure C h cf_L_241 ⟨Nat.le_of_ble_eq_true rfl, Nat.le_of_ble_eq_true rfl⟩ ⟨by show cells ≤ bc0; omega, by show slots ≤ bs0; omega⟩ (Nat.le_of_ble_eq_true rfl) dL_law_386 (fun r6 h => ?_)
        show Go D E A Q 26 cells slots (lwB D.2 a S ++ hpW H) [(0, .ref (zB D.2)), (1, .ref (a 0)), (3, .ref x3), (4, .int x4), (5, .int x5), (6, .int x6), (7, .int x7), (8, .long x8), (10, .int x10), (13, .int x13), (14, .int x14)] 389 [.int r6, .int x13]
        refine q_if_eq C 396 dL_law_389 (by decide) h (fun h => ?_) (fun h => ?_)
        · refine q_iconst C (v := 0) dL_law_396 (by decide) ?_
          refine q_ls [(0, .ref (zB D.2)), (1, .ref (a 0)), (3, .ref x3), (4, .int x4), (5, .int x5), (6, .int x6), (7, .int x7), (8, .long x8), (10, .int x10), (14, .int x14)] [0, 1, 2, 3, 4, 5, 6, 7, 8, 10] rfl ?_
          exact bL_law_397 C (KL50 := KL50) (KL363 := (wL_law_363 KL50 D.2 a n)) hret hKL50 ih cells slots _ _ _ _ _ _ _ _ _ _ _ _ _ _ (by omega) (by omega) h
        · refine q_iconst C (v := 1) dL_law_392 (by decide) ?_
          refine q_goto (tgt := 397) C dL_law_393 (by decide) ?_
          refine q_ls [(0, .ref (zB D.2)), (1, .ref (a 0)), (3, .ref x3), (4, .int x4), (5, .int x5), (6, .int x6), (7, .int x7), (8, .long x8), (10, .int x10), (14, .int x14)] [0, 1, 2, 3, 4, 5, 6, 7, 8, 10] rfl ?_
          exact bL_law_397 C (KL50 := KL50) (KL363 := (wL_law_363 KL50 D.2 a n)) hret hKL50 ih cells slots _ _ _ _ _ _ _ _ _ _ _ _ _ _ (by omega) (by omega) h
def wL_law_288 (KL50 : gH → Nat → Nat → cLS → Nat → Int32 → Int32 → Int32 → Prop) (KL129 : gH → Nat → Nat → cLS → Nat → Int32 → Int32 → Int32 → Int32 → Int64 → Int32 → Int32 → Int32 → Int32 → Prop) (KL241 : gH → Nat → Nat → cLS → Nat → Int32 → Int32 → Int32 → Int32 → Int64 → Int32 → Int32 → Int32 → Int32 → Int32 → Int32 → Prop) (Z : gZ) (a : gA) (H : gH) (bc : Nat) (bs : Nat) (S : cLS) (x3 : Nat) (x4 : Int32) (x5 : Int32) (x6 : Int32) (x7 : Int32) (x8 : Int64) (x10 : Int32) (x11 : Int32) (x12 : Int32) (x13 : Int32) (x14 : Int32) (x15 : Int32) : Prop :=
  KL241 H bc bs S x3 x4 x5 x6 x7 x8 x10 x11 x12 x13 x14 (x15 + 1)
set_option maxRecDepth 100000 in
set_option maxHeartbeats 4000000 in
theorem bL_law_288 {D : gD} {E : gE} {A : Nat → Prop} {Q : State → Prop} {bc0 bs0 : Nat} {a : gA} (C : CL D E (rmL_law bc0 bs0) cL_law 26 RL A) (hret : ∀ (w : va_W) (ls : List (Nat × Value)) (pc : Nat), decode cL_law pc = .ok (.ireturn, 1) → Go D E A Q 26 bc0 bs0 w ls pc [.int 1]) {KL50 : gH → Nat → Nat → cLS → Nat → Int32 → Int32 → Int32 → Prop} (hKL50 : ∀ (cells slots : Nat) (H : gH) (bc : Nat) (bs : Nat) (S : cLS) (x3 : Nat) (x4 : Int32) (x5 : Int32) (x6 : Int32), cells + bc ≤ bc0 → slots + bs ≤ bs0 → KL50 H bc bs S x3 x4 x5 x6 → Go D E A Q 26 cells slots (lwB D.2 a S ++ hpW H) [(0, .ref (zB D.2)), (1, .ref (a 0)), (3, .ref x3), (4, .int x4), (5, .int x5), (6, .int x6)] 50 []) {KL129 : gH → Nat → Nat → cLS → Nat → Int32 → Int32 → Int32 → Int32 → Int64 → Int32 → Int32 → Int32 → Int32 → Prop} (hKL129 : ∀ (cells slots : Nat) (H : gH) (bc : Nat) (bs : Nat) (S : cLS) (x3 : Nat) (x4 : Int32) (x5 : Int32) (x6 : Int32) (x7 : Int32) (x8 : Int64) (x10 : Int32) (x11 : Int32) (x12 : Int32) (x13 : Int32), cells + bc ≤ bc0 → slots + bs ≤ bs0 → KL129 H bc bs S x3 x4 x5 x6 x7 x8 x10 x11 x12 x13 → Go D E A Q 26 cells slots (lwB D.2 a S ++ hpW H) [(0, .ref (zB D.2)), (1, .ref (a 0)), (3, .ref x3), (4, .int x4), (5, .int x5), (6, .int x6), (7, .int x7), (8, .long x8), (10, .int x10), (11, .int x11), (12, .int x12), (13, .int x13)] 129 []) {KL241 : gH → Nat → Nat → cLS → Nat → Int32 → Int32 → Int32 → Int32 → Int64 → Int32 → Int32 → Int32 → Int32 → Int32 → Int32 → Prop} (hKL241 : ∀ (cells slots : Nat) (H : gH) (bc : Nat) (bs : Nat) (S : cLS) (x3 : Nat) (x4 : Int32) (x5 : Int32) (x6 : Int32) (x7 : Int32) (x8 : Int64) (x10 : Int32) (x11 : Int32) (x12 : Int32) (x13 : Int32) (x14 : Int32) (x15 : Int32), cells + bc ≤ bc0 → slots + bs ≤ bs0 → KL241 H bc bs S x3 x4 x5 x6 x7 x8 x10 x11 x12 x13 x14 x15 → Go D E A Q 26 cells slots (lwB D.2 a S ++ hpW H) [(0, .ref (zB D.2)), (1, .ref (a 0)), (3, .ref x3), (4, .int x4), (5, .int x5), (6, .int x6), (7, .int x7), (8, .long x8), (10, .int x10), (11, .int x11), (12, .int x12), (13, .int x13), (14, .int x14), (15, .int x15)] 241 []) : ∀ (cells slots : Nat) (H : gH) (bc : Nat) (bs : Nat) (S : cLS) (x3 : Nat) (x4 : Int32) (x5 : Int32) (x6 : Int32) (x7 : Int32) (x8 : Int64) (x10 : Int32) (x11 : Int32) (x12 : Int32) (x13 : Int32) (x14 : Int32) (x15 : Int32), cells + bc ≤ bc0 → slots + bs ≤ bs0 → wL_law_288 KL50 KL129 KL241 D.2 a H bc bs S x3 x4 x5 x6 x7 x8 x10 x11 x12 x13 x14 x15 → Go D E A Q 26 cells slots (lwB D.2 a S ++ hpW H) [(0, .ref (zB D.2)), (1, .ref (a 0)), (3, .ref x3), (4, .int x4), (5, .int x5), (6, .int x6), (7, .int x7), (8, .long x8), (10, .int x10), (11, .int x11), (12, .int x12), (13, .int x13), (14, .int x14), (15, .int x15)] 288 [] := by
  intro cells slots H bc bs S x3 x4 x5 x6 x7 x8 x10 x11 x12 x13 x14 x15 hbc hbs h
  unfold wL_law_288 at h
  refine q_iinc C (v := x15 + 1) [(15, .int (x15 + 1)), (0, .ref (zB D.2)), (1, .ref (a 0)), (3, .ref x3), (4, .int x4), (5, .int x5), (6, .int x6), (7, .int x7), (8, .long x8), (10, .int x10), (11, .int x11), (12, .int x12), (13, .int x13), (14, .int x14)] dL_law_288 13 rfl rfl (by decide) rfl ?_
  refine q_goto (tgt := 241) C dL_law_291 (by decide) ?_
  refine q_ls [(0, .ref (zB D.2)), (1, .ref (a 0)), (3, .ref x3), (4, .int x4), (5, .int x5), (6, .int x6), (7, .int x7), (8, .long x8), (10, .int x10), (11, .int x11), (12, .int x12), (13, .int x13), (14, .int x14), (15, .int (x15 + 1))] [1, 2, 3, 4, 5, 6, 7, 8, 9, 10, 11, 12, 13, 0] rfl ?_
  exact hKL241 cells slots _ _ _ _ _ _ _ _ _ _ _ _ _ _ _ _ (by omega) (by omega) h
def wL_law_241 (KL50 : gH → Nat → Nat → cLS → Nat → Int32 → Int32 → Int32 → Prop) (KL129 : gH → Nat → Nat → cLS → Nat → Int32 → Int32 → Int32 → Int32 → Int64 → Int32 → Int32 → Int32 → Int32 → Prop) (Z : gZ) (a : gA) : Nat → gH → Nat → Nat → cLS → Nat → Int32 → Int32 → Int32 → Int32 → Int64 → Int32 → Int32 → Int32 → Int32 → Int32 → Int32 → Prop
  | 0, _, _, _, _, _, _, _, _, _, _, _, _, _, _, _, _ => False
  | n + 1, H, bc, bs, S, x3, x4, x5, x6, x7, x8, x10, x11, x12, x13, x14, x15 =>
  ((g_min x4 (x13 + 2) ≤ x15 → KL129 H bc bs S x3 x4 x5 x6 x7 x8 x10 x11 x12 (x13 + 1)) ∧ (¬ g_min x4 (x13 + 2) ≤ x15 → kX8_heightOf a S x15 (fun r1 => ((r1 ≤ x14 + 3 → wL_law_288 KL50 KL129 (wL_law_241 KL50 KL129 Z a n) Z a H bc bs S x3 x4 x5 x6 x7 x8 x10 x11 x12 x13 x14 x15) ∧ (¬ r1 ≤ x14 + 3 → kX8_isPropped a S x15 (fun r2 => ((¬ r2 = 0 → wL_law_288 KL50 KL129 (wL_law_241 KL50 KL129 Z a n) Z a H bc bs S x3 x4 x5 x6 x7 x8 x10 x11 x12 x13 x14 x15) ∧ (r2 = 0 → kX8_hasTopSpring a S x15 (fun r3 => ((¬ r3 = 0 → wL_law_288 KL50 KL129 (wL_law_241 KL50 KL129 Z a n) Z a H bc bs S x3 x4 x5 x6 x7 x8 x10 x11 x12 x13 x14 x15) ∧ (r3 = 0 → False)))))))))))
set_option maxRecDepth 100000 in
set_option maxHeartbeats 4000000 in
theorem bL_law_241 {D : gD} {E : gE} {A : Nat → Prop} {Q : State → Prop} {bc0 bs0 : Nat} {a : gA} (C : CL D E (rmL_law bc0 bs0) cL_law 26 RL A) (hret : ∀ (w : va_W) (ls : List (Nat × Value)) (pc : Nat), decode cL_law pc = .ok (.ireturn, 1) → Go D E A Q 26 bc0 bs0 w ls pc [.int 1]) {KL50 : gH → Nat → Nat → cLS → Nat → Int32 → Int32 → Int32 → Prop} (hKL50 : ∀ (cells slots : Nat) (H : gH) (bc : Nat) (bs : Nat) (S : cLS) (x3 : Nat) (x4 : Int32) (x5 : Int32) (x6 : Int32), cells + bc ≤ bc0 → slots + bs ≤ bs0 → KL50 H bc bs S x3 x4 x5 x6 → Go D E A Q 26 cells slots (lwB D.2 a S ++ hpW H) [(0, .ref (zB D.2)), (1, .ref (a 0)), (3, .ref x3), (4, .int x4), (5, .int x5), (6, .int x6)] 50 []) {KL129 : gH → Nat → Nat → cLS → Nat → Int32 → Int32 → Int32 → Int32 → Int64 → Int32 → Int32 → Int32 → Int32 → Prop} (hKL129 : ∀ (cells slots : Nat) (H : gH) (bc : Nat) (bs : Nat) (S : cLS) (x3 : Nat) (x4 : Int32) (x5 : Int32) (x6 : Int32) (x7 : Int32) (x8 : Int64) (x10 : Int32) (x11 : Int32) (x12 : Int32) (x13 : Int32), cells + bc ≤ bc0 → slots + bs ≤ bs0 → KL129 H bc bs S x3 x4 x5 x6 x7 x8 x10 x11 x12 x13 → Go D E A Q 26 cells slots (lwB D.2 a S ++ hpW H) [(0, .ref (zB D.2)), (1, .ref (a 0)), (3, .ref x3), (4, .int x4), (5, .int x5), (6, .int x6), (7, .int x7), (8, .long x8), (10, .int x10), (11, .int x11), (12, .int x12), (13, .int x13)] 129 []) : ∀ (n : Nat) (cells slots : Nat) (H : gH) (bc : Nat) (bs : Nat) (S : cLS) (x3 : Nat) (x4 : Int32) (x5 : Int32) (x6 : Int32) (x7 : Int32) (x8 : Int64) (x10 : Int32) (x11 : Int32) (x12 : Int32) (x13 : Int32) (x14 : Int32) (x15 : Int32), cells + bc ≤ bc0 → slots + bs ≤ bs0 → wL_law_241 KL50 KL129 D.2 a n H bc bs S x3 x4 x5 x6 x7 x8 x10 x11 x12 x13 x14 x15 → Go D E A Q 26 cells slots (lwB D.2 a S ++ hpW H) [(0, .ref (zB D.2)), (1, .ref (a 0)), (3, .ref x3), (4, .int x4), (5, .int x5), (6, .int x6), (7, .int x7), (8, .long x8), (10, .int x10), (11, .int x11), (12, .int x12), (13, .int x13), (14, .int x14), (15, .int x15)] 241 [] := by
  intro n
  induction n with
  | zero =>
    intro cells slots H bc bs S x3 x4 x5 x6 x7 x8 x10 x11 x12 x13 x14 x15 hbc hbs h
    exact h.elim
  | succ n ih =>
    intro cells slots H bc bs S x3 x4 x5 x6 x7 x8 x10 x11 x12 x13 x14 x15 hbc hbs h
    unfold wL_law_241 at h
    refine q_iload C dL_law_241 13 rfl ?_
    refine q_iload C dL_law_243 3 rfl ?_
    refine q_iload C dL_law_245 11 rfl ?_
    refine q_iconst C (v := 2) dL_law_247 (by decide) ?_
    refine q_iadd C dL_law_248 ?_
    refine q_mmin C ml_L_220 dL_law_249 ⟨Nat.le_of_ble_eq_true rfl, Nat.le_of_ble_eq_true rfl, by show cells ≤ bc0; omega, by show slots ≤ bs0; omega⟩ ?_
    refine q_icmp_ge C 294 dL_law_252 (by decide) h (fun h => ?_) (fun h => ?_)
    · refine q_iinc C (v := x13 + 1) [(13, .int (x13 + 1)), (0, .ref (zB D.2)), (1, .ref (a 0)), (3, .ref x3), (4, .int x4), (5, .int x5), (6, .int x6), (7, .int x7), (8, .long x8), (10, .int x10), (11, .int x11), (12, .int x12), (14, .int x14), (15, .int x15)] dL_law_294 11 rfl rfl (by decide) rfl ?_
      refine q_goto (tgt := 129) C dL_law_297 (by decide) ?_
      refine q_ls [(0, .ref (zB D.2)), (1, .ref (a 0)), (3, .ref x3), (4, .int x4), (5, .int x5), (6, .int x6), (7, .int x7), (8, .long x8), (10, .int x10), (11, .int x11), (12, .int x12), (13, .int (x13 + 1))] [1, 2, 3, 4, 5, 6, 7, 8, 9, 10, 11, 0] rfl ?_
      exact hKL129 cells slots _ _ _ _ _ _ _ _ _ _ _ _ _ _ (by omega) (by omega) h
    · refine q_aload_n C dL_law_255 1 rfl ?_
      refine q_iload C dL_law_256 13 rfl ?_
      refine lc_heightOf C h cf_L_203 ⟨Nat.le_of_ble_eq_true rfl, Nat.le_of_ble_eq_true rfl⟩ ⟨by show cells ≤ bc0; omega, by show slots ≤ bs0; omega⟩ (Nat.le_of_ble_eq_true rfl) dL_law_258 (fun r1 h => ?_)
      show Go D E A Q 26 cells slots (lwB D.2 a S ++ hpW H) [(0, .ref (zB D.2)), (1, .ref (a 0)), (3, .ref x3), (4, .int x4), (5, .int x5), (6, .int x6), (7, .int x7), (8, .long x8), (10, .int x10), (11, .int x11), (12, .int x12), (13, .int x13), (14, .int x14), (15, .int x15)] 261 [.int r1]
      refine q_iload C dL_law_261 12 rfl ?_
      refine q_iconst C (v := 3) dL_law_263 (by decide) ?_
      refine q_iadd C dL_law_264 ?_
      refine q_icmp_le C 288 dL_law_265 (by decide) h (fun h => ?_) (fun h => ?_)
      · exact bL_law_288 C (KL50 := KL50) (KL129 := KL129) (KL241 := (wL_law_241 KL50 KL129 D.2 a n)) hret hKL50 hKL129 ih cells slots _ _ _ _ _ _ _ _ _ _ _ _ _ _ _ _ (by omega) (by omega) h
      · refine q_aload_n C dL_law_268 1 rfl ?_
        refine q_iload C dL_law_269 13 rfl ?_
        refine lc_isPropped C h cf_L_209 ⟨Nat.le_of_ble_eq_true rfl, Nat.le_of_ble_eq_true rfl⟩ ⟨by show cells ≤ bc0; omega, by show slots ≤ bs0; omega⟩ (Nat.le_of_ble_eq_true rfl) dL_law_271 (fun r2 h => ?_)
        show Go D E A Q 26 cells slots (lwB D.2 a S ++ hpW H) [(0, .ref (zB D.2)), (1, .ref (a 0)), (3, .ref x3), (4, .int x4), (5, .int x5), (6, .int x6), (7, .int x7), (8, .long x8), (10, .int x10), (11, .int x11), (12, .int x12), (13, .int x13), (14, .int x14), (15, .int x15)] 274 [.int r2]
        refine q_if_ne C 288 dL_law_274 (by decide) h (fun h => ?_) (fun h => ?_)
        · exact bL_law_288 C (KL50 := KL50) (KL129 := KL129) (KL241 := (wL_law_241 KL50 KL129 D.2 a n)) hret hKL50 hKL129 ih cells slots _ _ _ _ _ _ _ _ _ _ _ _ _ _ _ _ (by omega) (by omega) h
        · refine q_aload_n C dL_law_277 1 rfl ?_
          refine q_iload C dL_law_278 13 rfl ?_
          refine lc_hasTopSpring C h cf_L_223 ⟨Nat.le_of_ble_eq_true rfl, Nat.le_of_ble_eq_true rfl⟩ ⟨by show cells ≤ bc0; omega, by show slots ≤ bs0; omega⟩ (Nat.le_of_ble_eq_true rfl) dL_law_280 (fun r3 h => ?_)
          show Go D E A Q 26 cells slots (lwB D.2 a S ++ hpW H) [(0, .ref (zB D.2)), (1, .ref (a 0)), (3, .ref x3), (4, .int x4), (5, .int x5), (6, .int x6), (7, .int x7), (8, .long x8), (10, .int x10), (11, .int x11), (12, .int x12), (13, .int x13), (14, .int x14), (15, .int x15)] 283 [.int r3]
          refine q_if_ne C 288 dL_law_283 (by decide) h (fun h => ?_) (fun h => ?_)
          · exact bL_law_288 C (KL50 := KL50) (KL129 := KL129) (KL241 := (wL_law_241 KL50 KL129 D.2 a n)) hret hKL50 hKL129 ih cells slots _ _ _ _ _ _ _ _ _ _ _ _ _ _ _ _ (by omega) (by omega) h
          · refine q_iconst C (v := 0) dL_law_286 (by decide) ?_
            exact h.elim
def wL_law_231 (KL50 : gH → Nat → Nat → cLS → Nat → Int32 → Int32 → Int32 → Prop) (KL129 : gH → Nat → Nat → cLS → Nat → Int32 → Int32 → Int32 → Int32 → Int64 → Int32 → Int32 → Int32 → Int32 → Prop) (Z : gZ) (a : gA) (H : gH) (bc : Nat) (bs : Nat) (S : cLS) (x3 : Nat) (x4 : Int32) (x5 : Int32) (x6 : Int32) (x7 : Int32) (x8 : Int64) (x10 : Int32) (x11 : Int32) (x12 : Int32) (x13 : Int32) (x14 : Int32) : Prop :=
  ∃ k9 : Nat, wL_law_241 KL50 KL129 Z a k9 H bc bs S x3 x4 x5 x6 x7 x8 x10 x11 x12 x13 x14 (g_max 0 (x13 - 1))
set_option maxRecDepth 100000 in
set_option maxHeartbeats 4000000 in
theorem bL_law_231 {D : gD} {E : gE} {A : Nat → Prop} {Q : State → Prop} {bc0 bs0 : Nat} {a : gA} (C : CL D E (rmL_law bc0 bs0) cL_law 26 RL A) (hret : ∀ (w : va_W) (ls : List (Nat × Value)) (pc : Nat), decode cL_law pc = .ok (.ireturn, 1) → Go D E A Q 26 bc0 bs0 w ls pc [.int 1]) {KL50 : gH → Nat → Nat → cLS → Nat → Int32 → Int32 → Int32 → Prop} (hKL50 : ∀ (cells slots : Nat) (H : gH) (bc : Nat) (bs : Nat) (S : cLS) (x3 : Nat) (x4 : Int32) (x5 : Int32) (x6 : Int32), cells + bc ≤ bc0 → slots + bs ≤ bs0 → KL50 H bc bs S x3 x4 x5 x6 → Go D E A Q 26 cells slots (lwB D.2 a S ++ hpW H) [(0, .ref (zB D.2)), (1, .ref (a 0)), (3, .ref x3), (4, .int x4), (5, .int x5), (6, .int x6)] 50 []) {KL129 : gH → Nat → Nat → cLS → Nat → Int32 → Int32 → Int32 → Int32 → Int64 → Int32 → Int32 → Int32 → Int32 → Prop} (hKL129 : ∀ (cells slots : Nat) (H : gH) (bc : Nat) (bs : Nat) (S : cLS) (x3 : Nat) (x4 : Int32) (x5 : Int32) (x6 : Int32) (x7 : Int32) (x8 : Int64) (x10 : Int32) (x11 : Int32) (x12 : Int32) (x13 : Int32), cells + bc ≤ bc0 → slots + bs ≤ bs0 → KL129 H bc bs S x3 x4 x5 x6 x7 x8 x10 x11 x12 x13 → Go D E A Q 26 cells slots (lwB D.2 a S ++ hpW H) [(0, .ref (zB D.2)), (1, .ref (a 0)), (3, .ref x3), (4, .int x4), (5, .int x5), (6, .int x6), (7, .int x7), (8, .long x8), (10, .int x10), (11, .int x11), (12, .int x12), (13, .int x13)] 129 []) : ∀ (cells slots : Nat) (H : gH) (bc : Nat) (bs : Nat) (S : cLS) (x3 : Nat) (x4 : Int32) (x5 : Int32) (x6 : Int32) (x7 : Int32) (x8 : Int64) (x10 : Int32) (x11 : Int32) (x12 : Int32) (x13 : Int32) (x14 : Int32), cells + bc ≤ bc0 → slots + bs ≤ bs0 → wL_law_231 KL50 KL129 D.2 a H bc bs S x3 x4 x5 x6 x7 x8 x10 x11 x12 x13 x14 → Go D E A Q 26 cells slots (lwB D.2 a S ++ hpW H) [(0, .ref (zB D.2)), (1, .ref (a 0)), (3, .ref x3), (4, .int x4), (5, .int x5), (6, .int x6), (7, .int x7), (8, .long x8), (10, .int x10), (11, .int x11), (12, .int x12), (13, .int x13), (14, .int x14)] 231 [] := by
  intro cells slots H bc bs S x3 x4 x5 x6 x7 x8 x10 x11 x12 x13 x14 hbc hbs h
  unfold wL_law_231 at h
  refine q_iconst C (v := 0) dL_law_231 (by decide) ?_
  refine q_iload C dL_law_232 11 rfl ?_
  refine q_iconst C (v := 1) dL_law_234 (by decide) ?_
  refine q_isub C dL_law_235 ?_
  refine q_mmax C ml_L_215 dL_law_236 ⟨Nat.le_of_ble_eq_true rfl, Nat.le_of_ble_eq_true rfl, by show cells ≤ bc0; omega, by show slots ≤ bs0; omega⟩ ?_
  refine q_istore C [(15, .int (g_max 0 (x13 - 1))), (0, .ref (zB D.2)), (1, .ref (a 0)), (3, .ref x3), (4, .int x4), (5, .int x5), (6, .int x6), (7, .int x7), (8, .long x8), (10, .int x10), (11, .int x11), (12, .int x12), (13, .int x13), (14, .int x14)] dL_law_239 (by decide) rfl ?_
  refine q_ls [(0, .ref (zB D.2)), (1, .ref (a 0)), (3, .ref x3), (4, .int x4), (5, .int x5), (6, .int x6), (7, .int x7), (8, .long x8), (10, .int x10), (11, .int x11), (12, .int x12), (13, .int x13), (14, .int x14), (15, .int (g_max 0 (x13 - 1)))] [1, 2, 3, 4, 5, 6, 7, 8, 9, 10, 11, 12, 13, 0] rfl ?_
  obtain ⟨nw, h⟩ := h
  exact bL_law_241 C (KL50 := KL50) (KL129 := KL129) hret hKL50 hKL129 nw cells slots _ _ _ _ _ _ _ _ _ _ _ _ _ _ _ _ (by omega) (by omega) h
def wL_law_178 (KL50 : gH → Nat → Nat → cLS → Nat → Int32 → Int32 → Int32 → Prop) (KL129 : gH → Nat → Nat → cLS → Nat → Int32 → Int32 → Int32 → Int32 → Int64 → Int32 → Int32 → Int32 → Int32 → Prop) (Z : gZ) (a : gA) (H : gH) (bc : Nat) (bs : Nat) (S : cLS) (x3 : Nat) (x4 : Int32) (x5 : Int32) (x6 : Int32) (x7 : Int32) (x8 : Int64) (x10 : Int32) (x11 : Int32) (x13 : Int32) (x14 : Int32) (z0 : Int32) (z1 : Int32) : Prop :=
  ((x14 < 0 → False) ∧ (¬ x14 < 0 → ((x5 < x14 → False) ∧ (¬ x5 < x14 → kX8_findsLeft a S x13 (fun r1 => ((x14 < r1 → False) ∧ (¬ x14 < r1 → ((x14 ≤ 0 → wL_law_231 KL50 KL129 Z a H bc bs S x3 x4 x5 x6 x7 x8 x10 x11 (z1 + z0) x13 x14) ∧ (¬ x14 ≤ 0 → kX8_topStratum a S x13 (fun r2 => ((r2 < 0 → False) ∧ (¬ r2 < 0 → kX8_topStratum a S x13 (fun r3 => ((r3 < x5 → wL_law_231 KL50 KL129 Z a H bc bs S x3 x4 x5 x6 x7 x8 x10 x11 (z1 + z0) x13 x14) ∧ (¬ r3 < x5 → False)))))))))))))))
set_option maxRecDepth 100000 in
set_option maxHeartbeats 4000000 in
theorem bL_law_178 {D : gD} {E : gE} {A : Nat → Prop} {Q : State → Prop} {bc0 bs0 : Nat} {a : gA} (C : CL D E (rmL_law bc0 bs0) cL_law 26 RL A) (hret : ∀ (w : va_W) (ls : List (Nat × Value)) (pc : Nat), decode cL_law pc = .ok (.ireturn, 1) → Go D E A Q 26 bc0 bs0 w ls pc [.int 1]) {KL50 : gH → Nat → Nat → cLS → Nat → Int32 → Int32 → Int32 → Prop} (hKL50 : ∀ (cells slots : Nat) (H : gH) (bc : Nat) (bs : Nat) (S : cLS) (x3 : Nat) (x4 : Int32) (x5 : Int32) (x6 : Int32), cells + bc ≤ bc0 → slots + bs ≤ bs0 → KL50 H bc bs S x3 x4 x5 x6 → Go D E A Q 26 cells slots (lwB D.2 a S ++ hpW H) [(0, .ref (zB D.2)), (1, .ref (a 0)), (3, .ref x3), (4, .int x4), (5, .int x5), (6, .int x6)] 50 []) {KL129 : gH → Nat → Nat → cLS → Nat → Int32 → Int32 → Int32 → Int32 → Int64 → Int32 → Int32 → Int32 → Int32 → Prop} (hKL129 : ∀ (cells slots : Nat) (H : gH) (bc : Nat) (bs : Nat) (S : cLS) (x3 : Nat) (x4 : Int32) (x5 : Int32) (x6 : Int32) (x7 : Int32) (x8 : Int64) (x10 : Int32) (x11 : Int32) (x12 : Int32) (x13 : Int32), cells + bc ≤ bc0 → slots + bs ≤ bs0 → KL129 H bc bs S x3 x4 x5 x6 x7 x8 x10 x11 x12 x13 → Go D E A Q 26 cells slots (lwB D.2 a S ++ hpW H) [(0, .ref (zB D.2)), (1, .ref (a 0)), (3, .ref x3), (4, .int x4), (5, .int x5), (6, .int x6), (7, .int x7), (8, .long x8), (10, .int x10), (11, .int x11), (12, .int x12), (13, .int x13)] 129 []) : ∀ (cells slots : Nat) (H : gH) (bc : Nat) (bs : Nat) (S : cLS) (x3 : Nat) (x4 : Int32) (x5 : Int32) (x6 : Int32) (x7 : Int32) (x8 : Int64) (x10 : Int32) (x11 : Int32) (x13 : Int32) (x14 : Int32) (z0 : Int32) (z1 : Int32), cells + bc ≤ bc0 → slots + bs ≤ bs0 → wL_law_178 KL50 KL129 D.2 a H bc bs S x3 x4 x5 x6 x7 x8 x10 x11 x13 x14 z0 z1 → Go D E A Q 26 cells slots (lwB D.2 a S ++ hpW H) [(0, .ref (zB D.2)), (1, .ref (a 0)), (3, .ref x3), (4, .int x4), (5, .int x5), (6, .int x6), (7, .int x7), (8, .long x8), (10, .int x10), (11, .int x11), (13, .int x13), (14, .int x14)] 178 [.int z0, .int z1] := by
  intro cells slots H bc bs S x3 x4 x5 x6 x7 x8 x10 x11 x13 x14 z0 z1 hbc hbs h
  unfold wL_law_178 at h
  refine q_iadd C dL_law_178 ?_
  refine q_istore C [(12, .int (z1 + z0)), (0, .ref (zB D.2)), (1, .ref (a 0)), (3, .ref x3), (4, .int x4), (5, .int x5), (6, .int x6), (7, .int x7), (8, .long x8), (10, .int x10), (11, .int x11), (13, .int x13), (14, .int x14)] dL_law_179 (by decide) rfl ?_
  refine q_iload C dL_law_181 12 rfl ?_
  refine q_if_lt C 229 dL_law_183 (by decide) h (fun h => ?_) (fun h => ?_)
  · refine q_iconst C (v := 0) dL_law_229 (by decide) ?_
    exact h.elim
  · refine q_iload C dL_law_186 12 rfl ?_
    refine q_iload C dL_law_188 5 rfl ?_
    refine q_icmp_gt C 229 dL_law_190 (by decide) h (fun h => ?_) (fun h => ?_)
    · refine q_iconst C (v := 0) dL_law_229 (by decide) ?_
      exact h.elim
    · refine q_aload_n C dL_law_193 2 rfl ?_
      refine q_iload C dL_law_194 11 rfl ?_
      refine lc_findsLeft C h cf_L_206 ⟨Nat.le_of_ble_eq_true rfl, Nat.le_of_ble_eq_true rfl⟩ ⟨by show cells ≤ bc0; omega, by show slots ≤ bs0; omega⟩ (Nat.le_of_ble_eq_true rfl) dL_law_196 (fun r1 h => ?_)
      show Go D E A Q 26 cells slots (lwB D.2 a S ++ hpW H) [(12, .int (z1 + z0)), (0, .ref (zB D.2)), (1, .ref (a 0)), (3, .ref x3), (4, .int x4), (5, .int x5), (6, .int x6), (7, .int x7), (8, .long x8), (10, .int x10), (11, .int x11), (13, .int x13), (14, .int x14)] 199 [.int r1]
      refine q_iload C dL_law_199 12 rfl ?_
      refine q_icmp_gt C 229 dL_law_201 (by decide) h (fun h => ?_) (fun h => ?_)
      · refine q_iconst C (v := 0) dL_law_229 (by decide) ?_
        exact h.elim
      · refine q_iload C dL_law_204 12 rfl ?_
        refine q_if_le C 231 dL_law_206 (by decide) h (fun h => ?_) (fun h => ?_)
        · refine q_ls [(0, .ref (zB D.2)), (1, .ref (a 0)), (3, .ref x3), (4, .int x4), (5, .int x5), (6, .int x6), (7, .int x7), (8, .long x8), (10, .int x10), (11, .int x11), (12, .int (z1 + z0)), (13, .int x13), (14, .int x14)] [1, 2, 3, 4, 5, 6, 7, 8, 9, 10, 0, 11, 12] rfl ?_
          exact bL_law_231 C (KL50 := KL50) (KL129 := KL129) hret hKL50 hKL129 cells slots _ _ _ _ _ _ _ _ _ _ _ _ _ _ _ (by omega) (by omega) h
        · refine q_aload_n C dL_law_209 2 rfl ?_
          refine q_iload C dL_law_210 11 rfl ?_
          refine lc_topStratum C h cf_L_212 ⟨Nat.le_of_ble_eq_true rfl, Nat.le_of_ble_eq_true rfl⟩ ⟨by show cells ≤ bc0; omega, by show slots ≤ bs0; omega⟩ (Nat.le_of_ble_eq_true rfl) dL_law_212 (fun r2 h => ?_)
          show Go D E A Q 26 cells slots (lwB D.2 a S ++ hpW H) [(12, .int (z1 + z0)), (0, .ref (zB D.2)), (1, .ref (a 0)), (3, .ref x3), (4, .int x4), (5, .int x5), (6, .int x6), (7, .int x7), (8, .long x8), (10, .int x10), (11, .int x11), (13, .int x13), (14, .int x14)] 215 [.int r2]
          refine q_if_lt C 229 dL_law_215 (by decide) h (fun h => ?_) (fun h => ?_)
          · refine q_iconst C (v := 0) dL_law_229 (by decide) ?_
            exact h.elim
          · refine q_aload_n C dL_law_218 2 rfl ?_
            refine q_iload C dL_law_219 11 rfl ?_
            refine lc_topStratum C h cf_L_212 ⟨Nat.le_of_ble_eq_true rfl, Nat.le_of_ble_eq_true rfl⟩ ⟨by show cells ≤ bc0; omega, by show slots ≤ bs0; omega⟩ (Nat.le_of_ble_eq_true rfl) dL_law_221 (fun r3 h => ?_)
            show Go D E A Q 26 cells slots (lwB D.2 a S ++ hpW H) [(12, .int (z1 + z0)), (0, .ref (zB D.2)), (1, .ref (a 0)), (3, .ref x3), (4, .int x4), (5, .int x5), (6, .int x6), (7, .int x7), (8, .long x8), (10, .int x10), (11, .int x11), (13, .int x13), (14, .int x14)] 224 [.int r3]
            refine q_iload C dL_law_224 5 rfl ?_
            refine q_icmp_lt C 231 dL_law_226 (by decide) h (fun h => ?_) (fun h => ?_)
            · refine q_ls [(0, .ref (zB D.2)), (1, .ref (a 0)), (3, .ref x3), (4, .int x4), (5, .int x5), (6, .int x6), (7, .int x7), (8, .long x8), (10, .int x10), (11, .int x11), (12, .int (z1 + z0)), (13, .int x13), (14, .int x14)] [1, 2, 3, 4, 5, 6, 7, 8, 9, 10, 0, 11, 12] rfl ?_
              exact bL_law_231 C (KL50 := KL50) (KL129 := KL129) hret hKL50 hKL129 cells slots _ _ _ _ _ _ _ _ _ _ _ _ _ _ _ (by omega) (by omega) h
            · refine q_iconst C (v := 0) dL_law_229 (by decide) ?_
              exact h.elim
def wL_law_129 (KL50 : gH → Nat → Nat → cLS → Nat → Int32 → Int32 → Int32 → Prop) (Z : gZ) (a : gA) : Nat → gH → Nat → Nat → cLS → Nat → Int32 → Int32 → Int32 → Int32 → Int64 → Int32 → Int32 → Int32 → Int32 → Prop
  | 0, _, _, _, _, _, _, _, _, _, _, _, _, _, _ => False
  | n + 1, H, bc, bs, S, x3, x4, x5, x6, x7, x8, x10, x11, x12, x13 =>
  ((x4 ≤ x13 → kX8_cushionsDug a S (fun r1 => ((¬ x10 + r1 = x4 * x5 → False) ∧ (x10 + r1 = x4 * x5 → kX8_found a S (fun r2 => kX8_finds a S (fun r3 => ((¬ x11 + r2 = r3 → False) ∧ (x11 + r2 = r3 → kX8_props a S (fun r4 => ((¬ x12 = r4 → False) ∧ (x12 = r4 → ((3 < x12 → False) ∧ (¬ 3 < x12 → kX8_sureFinds a S (fun r5 => kX8_found a S (fun r6 => ((r5 ≤ r6 → ∃ k9 : Nat, wL_law_363 KL50 Z a k9 H bc bs S x3 x4 x5 x6 x7 x8 x10 0 0) ∧ (¬ r5 ≤ r6 → False))))))))))))))))) ∧ (¬ x4 ≤ x13 → kX8_heightOf a S x13 (fun r7 => kX8_findsLeft a S x13 (fun r8 => kX8_isPropped a S x13 (fun r9 => ((r9 = 0 → wL_law_178 KL50 (wL_law_129 KL50 Z a n) Z a H bc bs S x3 x4 x5 x6 x7 x8 (x10 + r7) (x11 + r8) x13 r7 0 x12) ∧ (¬ r9 = 0 → wL_law_178 KL50 (wL_law_129 KL50 Z a n) Z a H bc bs S x3 x4 x5 x6 x7 x8 (x10 + r7) (x11 + r8) x13 r7 1 x12)))))))
set_option maxRecDepth 100000 in
set_option maxHeartbeats 4000000 in
theorem bL_law_129 {D : gD} {E : gE} {A : Nat → Prop} {Q : State → Prop} {bc0 bs0 : Nat} {a : gA} (C : CL D E (rmL_law bc0 bs0) cL_law 26 RL A) (hret : ∀ (w : va_W) (ls : List (Nat × Value)) (pc : Nat), decode cL_law pc = .ok (.ireturn, 1) → Go D E A Q 26 bc0 bs0 w ls pc [.int 1]) {KL50 : gH → Nat → Nat → cLS → Nat → Int32 → Int32 → Int32 → Prop} (hKL50 : ∀ (cells slots : Nat) (H : gH) (bc : Nat) (bs : Nat) (S : cLS) (x3 : Nat) (x4 : Int32) (x5 : Int32) (x6 : Int32), cells + bc ≤ bc0 → slots + bs ≤ bs0 → KL50 H bc bs S x3 x4 x5 x6 → Go D E A Q 26 cells slots (lwB D.2 a S ++ hpW H) [(0, .ref (zB D.2)), (1, .ref (a 0)), (3, .ref x3), (4, .int x4), (5, .int x5), (6, .int x6)] 50 []) : ∀ (n : Nat) (cells slots : Nat) (H : gH) (bc : Nat) (bs : Nat) (S : cLS) (x3 : Nat) (x4 : Int32) (x5 : Int32) (x6 : Int32) (x7 : Int32) (x8 : Int64) (x10 : Int32) (x11 : Int32) (x12 : Int32) (x13 : Int32), cells + bc ≤ bc0 → slots + bs ≤ bs0 → wL_law_129 KL50 D.2 a n H bc bs S x3 x4 x5 x6 x7 x8 x10 x11 x12 x13 → Go D E A Q 26 cells slots (lwB D.2 a S ++ hpW H) [(0, .ref (zB D.2)), (1, .ref (a 0)), (3, .ref x3), (4, .int x4), (5, .int x5), (6, .int x6), (7, .int x7), (8, .long x8), (10, .int x10), (11, .int x11), (12, .int x12), (13, .int x13)] 129 [] := by
  intro n
  induction n with
  | zero =>
    intro cells slots H bc bs S x3 x4 x5 x6 x7 x8 x10 x11 x12 x13 hbc hbs h
    exact h.elim
  | succ n ih =>
    intro cells slots H bc bs S x3 x4 x5 x6 x7 x8 x10 x11 x12 x13 hbc hbs h
    unfold wL_law_129 at h
    refine q_iload C dL_law_129 11 rfl ?_
    refine q_iload C dL_law_131 3 rfl ?_
    refine q_icmp_ge C 300 dL_law_133 (by decide) h (fun h => ?_) (fun h => ?_)
    · refine q_iload C dL_law_300 8 rfl ?_
      refine q_aload_n C dL_law_302 1 rfl ?_
      refine lc_cushionsDug C h cf_L_226 ⟨Nat.le_of_ble_eq_true rfl, Nat.le_of_ble_eq_true rfl⟩ ⟨by show cells ≤ bc0; omega, by show slots ≤ bs0; omega⟩ (Nat.le_of_ble_eq_true rfl) dL_law_303 (fun r1 h => ?_)
      show Go D E A Q 26 cells slots (lwB D.2 a S ++ hpW H) [(0, .ref (zB D.2)), (1, .ref (a 0)), (3, .ref x3), (4, .int x4), (5, .int x5), (6, .int x6), (7, .int x7), (8, .long x8), (10, .int x10), (11, .int x11), (12, .int x12), (13, .int x13)] 306 [.int r1, .int x10]
      refine q_iadd C dL_law_306 ?_
      refine q_iload C dL_law_307 3 rfl ?_
      refine q_iload C dL_law_309 4 rfl ?_
      refine q_imul C dL_law_311 ?_
      refine q_icmp_ne C 355 dL_law_312 (by decide) h (fun h => ?_) (fun h => ?_)
      · refine q_iconst C (v := 0) dL_law_355 (by decide) ?_
        exact h.elim
      · refine q_iload C dL_law_315 9 rfl ?_
        refine q_aload_n C dL_law_317 1 rfl ?_
        refine lc_found C h cf_L_229 ⟨Nat.le_of_ble_eq_true rfl, Nat.le_of_ble_eq_true rfl⟩ ⟨by show cells ≤ bc0; omega, by show slots ≤ bs0; omega⟩ (Nat.le_of_ble_eq_true rfl) dL_law_318 (fun r2 h => ?_)
        show Go D E A Q 26 cells slots (lwB D.2 a S ++ hpW H) [(0, .ref (zB D.2)), (1, .ref (a 0)), (3, .ref x3), (4, .int x4), (5, .int x5), (6, .int x6), (7, .int x7), (8, .long x8), (10, .int x10), (11, .int x11), (12, .int x12), (13, .int x13)] 321 [.int r2, .int x11]
        refine q_iadd C dL_law_321 ?_
        refine q_aload_n C dL_law_322 1 rfl ?_
        refine lc_finds C h cf_L_232 ⟨Nat.le_of_ble_eq_true rfl, Nat.le_of_ble_eq_true rfl⟩ ⟨by show cells ≤ bc0; omega, by show slots ≤ bs0; omega⟩ (Nat.le_of_ble_eq_true rfl) dL_law_323 (fun r3 h => ?_)
        show Go D E A Q 26 cells slots (lwB D.2 a S ++ hpW H) [(0, .ref (zB D.2)), (1, .ref (a 0)), (3, .ref x3), (4, .int x4), (5, .int x5), (6, .int x6), (7, .int x7), (8, .long x8), (10, .int x10), (11, .int x11), (12, .int x12), (13, .int x13)] 326 [.int r3, .int (x11 + r2)]
        refine q_icmp_ne C 355 dL_law_326 (by decide) h (fun h => ?_) (fun h => ?_)
        · refine q_iconst C (v := 0) dL_law_355 (by decide) ?_
          exact h.elim
        · refine q_iload C dL_law_329 10 rfl ?_
          refine q_aload_n C dL_law_331 1 rfl ?_
          refine lc_props C h cf_L_234 ⟨Nat.le_of_ble_eq_true rfl, Nat.le_of_ble_eq_true rfl⟩ ⟨by show cells ≤ bc0; omega, by show slots ≤ bs0; omega⟩ (Nat.le_of_ble_eq_true rfl) dL_law_332 (fun r4 h => ?_)
          show Go D E A Q 26 cells slots (lwB D.2 a S ++ hpW H) [(0, .ref (zB D.2)), (1, .ref (a 0)), (3, .ref x3), (4, .int x4), (5, .int x5), (6, .int x6), (7, .int x7), (8, .long x8), (10, .int x10), (11, .int x11), (12, .int x12), (13, .int x13)] 335 [.int r4, .int x12]
          refine q_icmp_ne C 355 dL_law_335 (by decide) h (fun h => ?_) (fun h => ?_)
          · refine q_iconst C (v := 0) dL_law_355 (by decide) ?_
            exact h.elim
          · refine q_iload C dL_law_338 10 rfl ?_
            refine q_iconst C (v := 3) dL_law_340 (by decide) ?_
            refine q_icmp_gt C 355 dL_law_341 (by decide) h (fun h => ?_) (fun h => ?_)
            · refine q_iconst C (v := 0) dL_law_355 (by decide) ?_
              exact h.elim
            · refine q_aload_n C dL_law_344 1 rfl ?_
              refine lc_sureFinds C h cf_L_235 ⟨Nat.le_of_ble_eq_true rfl, Nat.le_of_ble_eq_true rfl⟩ ⟨by show cells ≤ bc0; omega, by show slots ≤ bs0; omega⟩ (Nat.le_of_ble_eq_true rfl) dL_law_345 (fun r5 h => ?_)
              show Go D E A Q 26 cells slots (lwB D.2 a S ++ hpW H) [(0, .ref (zB D.2)), (1, .ref (a 0)), (3, .ref x3), (4, .int x4), (5, .int x5), (6, .int x6), (7, .int x7), (8, .long x8), (10, .int x10), (11, .int x11), (12, .int x12), (13, .int x13)] 348 [.int r5]
              refine q_aload_n C dL_law_348 1 rfl ?_
              refine lc_found C h cf_L_229 ⟨Nat.le_of_ble_eq_true rfl, Nat.le_of_ble_eq_true rfl⟩ ⟨by show cells ≤ bc0; omega, by show slots ≤ bs0; omega⟩ (Nat.le_of_ble_eq_true rfl) dL_law_349 (fun r6 h => ?_)
              show Go D E A Q 26 cells slots (lwB D.2 a S ++ hpW H) [(0, .ref (zB D.2)), (1, .ref (a 0)), (3, .ref x3), (4, .int x4), (5, .int x5), (6, .int x6), (7, .int x7), (8, .long x8), (10, .int x10), (11, .int x11), (12, .int x12), (13, .int x13)] 352 [.int r6, .int r5]
              refine q_icmp_le C 357 dL_law_352 (by decide) h (fun h => ?_) (fun h => ?_)
              · refine q_iconst C (v := 0) dL_law_357 (by decide) ?_
                refine q_istore C [(13, .int 0), (0, .ref (zB D.2)), (1, .ref (a 0)), (3, .ref x3), (4, .int x4), (5, .int x5), (6, .int x6), (7, .int x7), (8, .long x8), (10, .int x10), (11, .int x11), (12, .int x12)] dL_law_358 (by decide) rfl ?_
                refine q_iconst C (v := 0) dL_law_360 (by decide) ?_
                refine q_istore C [(14, .int 0), (13, .int 0), (0, .ref (zB D.2)), (1, .ref (a 0)), (3, .ref x3), (4, .int x4), (5, .int x5), (6, .int x6), (7, .int x7), (8, .long x8), (10, .int x10), (11, .int x11), (12, .int x12)] dL_law_361 (by decide) rfl ?_
                refine q_ls [(0, .ref (zB D.2)), (1, .ref (a 0)), (3, .ref x3), (4, .int x4), (5, .int x5), (6, .int x6), (7, .int x7), (8, .long x8), (10, .int x10), (13, .int 0), (14, .int 0)] [2, 3, 4, 5, 6, 7, 8, 9, 10, 1, 0] rfl ?_
                obtain ⟨nw, h⟩ := h
                exact bL_law_363 C (KL50 := KL50) hret hKL50 nw cells slots _ _ _ _ _ _ _ _ _ _ _ _ _ (by omega) (by omega) h
              · refine q_iconst C (v := 0) dL_law_355 (by decide) ?_
                exact h.elim
    · refine q_aload_n C dL_law_136 1 rfl ?_
      refine q_iload C dL_law_137 11 rfl ?_
      refine lc_heightOf C h cf_L_203 ⟨Nat.le_of_ble_eq_true rfl, Nat.le_of_ble_eq_true rfl⟩ ⟨by show cells ≤ bc0; omega, by show slots ≤ bs0; omega⟩ (Nat.le_of_ble_eq_true rfl) dL_law_139 (fun r7 h => ?_)
      show Go D E A Q 26 cells slots (lwB D.2 a S ++ hpW H) [(0, .ref (zB D.2)), (1, .ref (a 0)), (3, .ref x3), (4, .int x4), (5, .int x5), (6, .int x6), (7, .int x7), (8, .long x8), (10, .int x10), (11, .int x11), (12, .int x12), (13, .int x13)] 142 [.int r7]
      refine q_istore C [(14, .int r7), (0, .ref (zB D.2)), (1, .ref (a 0)), (3, .ref x3), (4, .int x4), (5, .int x5), (6, .int x6), (7, .int x7), (8, .long x8), (10, .int x10), (11, .int x11), (12, .int x12), (13, .int x13)] dL_law_142 (by decide) rfl ?_
      refine q_iload C dL_law_144 9 rfl ?_
      refine q_iload C dL_law_146 0 rfl ?_
      refine q_iadd C dL_law_148 ?_
      refine q_istore C [(10, .int (x10 + r7)), (14, .int r7), (0, .ref (zB D.2)), (1, .ref (a 0)), (3, .ref x3), (4, .int x4), (5, .int x5), (6, .int x6), (7, .int x7), (8, .long x8), (11, .int x11), (12, .int x12), (13, .int x13)] dL_law_149 (by decide) rfl ?_
      refine q_iload C dL_law_151 10 rfl ?_
      refine q_aload_n C dL_law_153 3 rfl ?_
      refine q_iload C dL_law_154 12 rfl ?_
      refine lc_findsLeft C h cf_L_206 ⟨Nat.le_of_ble_eq_true rfl, Nat.le_of_ble_eq_true rfl⟩ ⟨by show cells ≤ bc0; omega, by show slots ≤ bs0; omega⟩ (Nat.le_of_ble_eq_true rfl) dL_law_156 (fun r8 h => ?_)
      show Go D E A Q 26 cells slots (lwB D.2 a S ++ hpW H) [(10, .int (x10 + r7)), (14, .int r7), (0, .ref (zB D.2)), (1, .ref (a 0)), (3, .ref x3), (4, .int x4), (5, .int x5), (6, .int x6), (7, .int x7), (8, .long x8), (11, .int x11), (12, .int x12), (13, .int x13)] 159 [.int r8, .int x11]
      refine q_iadd C dL_law_159 ?_
      refine q_istore C [(11, .int (x11 + r8)), (10, .int (x10 + r7)), (14, .int r7), (0, .ref (zB D.2)), (1, .ref (a 0)), (3, .ref x3), (4, .int x4), (5, .int x5), (6, .int x6), (7, .int x7), (8, .long x8), (12, .int x12), (13, .int x13)] dL_law_160 (by decide) rfl ?_
      refine q_iload C dL_law_162 11 rfl ?_
      refine q_aload_n C dL_law_164 4 rfl ?_
      refine q_iload C dL_law_165 12 rfl ?_
      refine lc_isPropped C h cf_L_209 ⟨Nat.le_of_ble_eq_true rfl, Nat.le_of_ble_eq_true rfl⟩ ⟨by show cells ≤ bc0; omega, by show slots ≤ bs0; omega⟩ (Nat.le_of_ble_eq_true rfl) dL_law_167 (fun r9 h => ?_)
      show Go D E A Q 26 cells slots (lwB D.2 a S ++ hpW H) [(11, .int (x11 + r8)), (10, .int (x10 + r7)), (14, .int r7), (0, .ref (zB D.2)), (1, .ref (a 0)), (3, .ref x3), (4, .int x4), (5, .int x5), (6, .int x6), (7, .int x7), (8, .long x8), (12, .int x12), (13, .int x13)] 170 [.int r9, .int x12]
      refine q_if_eq C 177 dL_law_170 (by decide) h (fun h => ?_) (fun h => ?_)
      · refine q_iconst C (v := 0) dL_law_177 (by decide) ?_
        refine q_ls [(0, .ref (zB D.2)), (1, .ref (a 0)), (3, .ref x3), (4, .int x4), (5, .int x5), (6, .int x6), (7, .int x7), (8, .long x8), (10, .int (x10 + r7)), (11, .int (x11 + r8)), (13, .int x13), (14, .int r7)] [3, 4, 5, 6, 7, 8, 9, 10, 1, 0, 12, 2] rfl ?_
        exact bL_law_178 C (KL50 := KL50) (KL129 := (wL_law_129 KL50 D.2 a n)) hret hKL50 ih cells slots _ _ _ _ _ _ _ _ _ _ _ _ _ _ _ _ (by omega) (by omega) h
      · refine q_iconst C (v := 1) dL_law_173 (by decide) ?_
        refine q_goto (tgt := 178) C dL_law_174 (by decide) ?_
        refine q_ls [(0, .ref (zB D.2)), (1, .ref (a 0)), (3, .ref x3), (4, .int x4), (5, .int x5), (6, .int x6), (7, .int x7), (8, .long x8), (10, .int (x10 + r7)), (11, .int (x11 + r8)), (13, .int x13), (14, .int r7)] [3, 4, 5, 6, 7, 8, 9, 10, 1, 0, 12, 2] rfl ?_
        exact bL_law_178 C (KL50 := KL50) (KL129 := (wL_law_129 KL50 D.2 a n)) hret hKL50 ih cells slots _ _ _ _ _ _ _ _ _ _ _ _ _ _ _ _ (by omega) (by omega) h
def wL_law_76 (KL50 : gH → Nat → Nat → cLS → Nat → Int32 → Int32 → Int32 → Prop) (Z : gZ) (a : gA) : Nat → gH → Nat → Nat → cLS → Nat → Int32 → Int32 → Int32 → Int32 → Int32 → Prop
  | 0, _, _, _, _, _, _, _, _, _, _ => False
  | n + 1, H, bc, bs, S, x3, x4, x5, x6, x7, x8 =>
  ((2 ≤ x8 → kX8_digest a S (fun r1 S1 => ∃ k9 : Nat, wL_law_129 KL50 Z a k9 H bc bs S1 x3 x4 x5 x6 x7 r1 0 0 0 0)) ∧ (¬ 2 ≤ x8 → ∃ (c2 s2 : Nat), c2 ≤ bc ∧ s2 ≤ bs ∧ wL_act Z a H c2 s2 S x3 ((x7 >>> ((3 * x8) &&& 31)) + (29 * x8)) (fun r2 S2 H2 => ((¬ r2 = 0 → wL_law_76 KL50 Z a n H2 (bc - c2) (bs - s2) S2 x3 x4 x5 x6 x7 (x8 + 1)) ∧ (r2 = 0 → False)))))
set_option maxRecDepth 100000 in
set_option maxHeartbeats 4000000 in
theorem bL_law_76 {D : gD} {E : gE} {A : Nat → Prop} {Q : State → Prop} {bc0 bs0 : Nat} {a : gA} (C : CL D E (rmL_law bc0 bs0) cL_law 26 RL A) (hret : ∀ (w : va_W) (ls : List (Nat × Value)) (pc : Nat), decode cL_law pc = .ok (.ireturn, 1) → Go D E A Q 26 bc0 bs0 w ls pc [.int 1]) {KL50 : gH → Nat → Nat → cLS → Nat → Int32 → Int32 → Int32 → Prop} (hKL50 : ∀ (cells slots : Nat) (H : gH) (bc : Nat) (bs : Nat) (S : cLS) (x3 : Nat) (x4 : Int32) (x5 : Int32) (x6 : Int32), cells + bc ≤ bc0 → slots + bs ≤ bs0 → KL50 H bc bs S x3 x4 x5 x6 → Go D E A Q 26 cells slots (lwB D.2 a S ++ hpW H) [(0, .ref (zB D.2)), (1, .ref (a 0)), (3, .ref x3), (4, .int x4), (5, .int x5), (6, .int x6)] 50 []) : ∀ (n : Nat) (cells slots : Nat) (H : gH) (bc : Nat) (bs : Nat) (S : cLS) (x3 : Nat) (x4 : Int32) (x5 : Int32) (x6 : Int32) (x7 : Int32) (x8 : Int32), cells + bc ≤ bc0 → slots + bs ≤ bs0 → wL_law_76 KL50 D.2 a n H bc bs S x3 x4 x5 x6 x7 x8 → Go D E A Q 26 cells slots (lwB D.2 a S ++ hpW H) [(0, .ref (zB D.2)), (1, .ref (a 0)), (3, .ref x3), (4, .int x4), (5, .int x5), (6, .int x6), (7, .int x7), (8, .int x8)] 76 [] := by
  intro n
  induction n with
  | zero =>
    intro cells slots H bc bs S x3 x4 x5 x6 x7 x8 hbc hbs h
    exact h.elim
  | succ n ih =>
    intro cells slots H bc bs S x3 x4 x5 x6 x7 x8 hbc hbs h
    unfold wL_law_76 at h
    refine q_iload C dL_law_76 7 rfl ?_
    refine q_iconst C (v := 2) dL_law_78 (by decide) ?_
    refine q_icmp_ge C 111 dL_law_79 (by decide) h (fun h => ?_) (fun h => ?_)
    · refine q_aload_n C dL_law_111 1 rfl ?_
      refine lc_digest C h cf_L_199 ⟨Nat.le_of_ble_eq_true rfl, Nat.le_of_ble_eq_true rfl⟩ ⟨by show cells ≤ bc0; omega, by show slots ≤ bs0; omega⟩ (Nat.le_of_ble_eq_true rfl) dL_law_112 (fun r1 S1 h => ?_)
      show Go D E A Q 26 cells slots (lwB D.2 a S1 ++ hpW H) [(0, .ref (zB D.2)), (1, .ref (a 0)), (3, .ref x3), (4, .int x4), (5, .int x5), (6, .int x6), (7, .int x7), (8, .int x8)] 115 [.long r1]
      refine q_lstore C [(8, .long r1), (0, .ref (zB D.2)), (1, .ref (a 0)), (3, .ref x3), (4, .int x4), (5, .int x5), (6, .int x6), (7, .int x7)] dL_law_115 (by decide) rfl ?_
      refine q_iconst C (v := 0) dL_law_117 (by decide) ?_
      refine q_istore C [(10, .int 0), (8, .long r1), (0, .ref (zB D.2)), (1, .ref (a 0)), (3, .ref x3), (4, .int x4), (5, .int x5), (6, .int x6), (7, .int x7)] dL_law_118 (by decide) rfl ?_
      refine q_iconst C (v := 0) dL_law_120 (by decide) ?_
      refine q_istore C [(11, .int 0), (10, .int 0), (8, .long r1), (0, .ref (zB D.2)), (1, .ref (a 0)), (3, .ref x3), (4, .int x4), (5, .int x5), (6, .int x6), (7, .int x7)] dL_law_121 (by decide) rfl ?_
      refine q_iconst C (v := 0) dL_law_123 (by decide) ?_
      refine q_istore C [(12, .int 0), (11, .int 0), (10, .int 0), (8, .long r1), (0, .ref (zB D.2)), (1, .ref (a 0)), (3, .ref x3), (4, .int x4), (5, .int x5), (6, .int x6), (7, .int x7)] dL_law_124 (by decide) rfl ?_
      refine q_iconst C (v := 0) dL_law_126 (by decide) ?_
      refine q_istore C [(13, .int 0), (12, .int 0), (11, .int 0), (10, .int 0), (8, .long r1), (0, .ref (zB D.2)), (1, .ref (a 0)), (3, .ref x3), (4, .int x4), (5, .int x5), (6, .int x6), (7, .int x7)] dL_law_127 (by decide) rfl ?_
      refine q_ls [(0, .ref (zB D.2)), (1, .ref (a 0)), (3, .ref x3), (4, .int x4), (5, .int x5), (6, .int x6), (7, .int x7), (8, .long r1), (10, .int 0), (11, .int 0), (12, .int 0), (13, .int 0)] [5, 6, 7, 8, 9, 10, 11, 4, 3, 2, 1, 0] rfl ?_
      obtain ⟨nw, h⟩ := h
      exact bL_law_129 C (KL50 := KL50) hret hKL50 nw cells slots _ _ _ _ _ _ _ _ _ _ _ _ _ _ (by omega) (by omega) h
    · refine q_aload_n C dL_law_82 1 rfl ?_
      refine q_aload_n C dL_law_83 2 rfl ?_
      refine q_iload C dL_law_84 6 rfl ?_
      refine q_iconst C (v := 3) dL_law_86 (by decide) ?_
      refine q_iload C dL_law_87 7 rfl ?_
      refine q_imul C dL_law_89 ?_
      refine q_ishr C dL_law_90 ?_
      refine q_bipush C (v := 29) dL_law_91 (by decide) ?_
      refine q_iload C dL_law_93 7 rfl ?_
      refine q_imul C dL_law_95 ?_
      refine q_iadd C dL_law_96 ?_
      obtain ⟨c2, s2, hc2, hs2, h⟩ := h
      refine p_callSI C (fun _ h => h) [] (cL_act_ok _ h) cf_L_195 st_L_act rfl ⟨Nat.le_of_ble_eq_true rfl, Nat.le_of_ble_eq_true rfl⟩ ⟨by show cells + c2 ≤ bc0; omega, by show slots + s2 ≤ bs0; omega⟩ (List.Perm.of_eq (List.append_nil _).symm) (fun v2 : cLS × gH => lwB D.2 a v2.1 ++ hpW v2.2) (fun _ => List.Perm.of_eq (List.append_nil _)) (rest := []) rfl (Nat.le_of_ble_eq_true rfl) dL_law_97 (fun r2 v2 h => ?_)
      obtain ⟨S2, H2⟩ := v2
      show Go D E A Q 26 (cells + c2) (slots + s2) (lwB D.2 a S2 ++ hpW H2) [(0, .ref (zB D.2)), (1, .ref (a 0)), (3, .ref x3), (4, .int x4), (5, .int x5), (6, .int x6), (7, .int x7), (8, .int x8)] 100 [.int r2]
      refine q_if_ne C 105 dL_law_100 (by decide) h (fun h => ?_) (fun h => ?_)
      · refine q_iinc C (v := x8 + 1) [(8, .int (x8 + 1)), (0, .ref (zB D.2)), (1, .ref (a 0)), (3, .ref x3), (4, .int x4), (5, .int x5), (6, .int x6), (7, .int x7)] dL_law_105 7 rfl rfl (by decide) rfl ?_
        refine q_goto (tgt := 76) C dL_law_108 (by decide) ?_
        refine q_ls [(0, .ref (zB D.2)), (1, .ref (a 0)), (3, .ref x3), (4, .int x4), (5, .int x5), (6, .int x6), (7, .int x7), (8, .int (x8 + 1))] [1, 2, 3, 4, 5, 6, 7, 0] rfl ?_
        exact ih (cells + c2) (slots + s2) _ _ _ _ _ _ _ _ _ _ (by omega) (by omega) h
      · refine q_iconst C (v := 0) dL_law_103 (by decide) ?_
        exact h.elim
def wL_law_50 (Z : gZ) (a : gA) : Nat → gH → Nat → Nat → cLS → Nat → Int32 → Int32 → Int32 → Prop
  | 0, _, _, _, _, _, _, _, _ => False
  | n + 1, H, bc, bs, S, x3, x4, x5, x6 =>
  ((8 ≤ x6 → (∃ fs, hpG H x3 = some (.inr (8, fs))) ∧ wX9_isSame Z a S H x3 (fun r1 => r1 = 1)) ∧ (¬ 8 ≤ x6 → wL_cell Z H x6 (fun r2 => ∃ k9 : Nat, wL_law_76 (wL_law_50 Z a n) Z a k9 H bc bs S x3 x4 x5 x6 ((r2 >>> (2 &&& 31)) + (53 * x6)) 0)))
set_option maxRecDepth 100000 in
set_option maxHeartbeats 4000000 in
theorem bL_law_50 {D : gD} {E : gE} {A : Nat → Prop} {Q : State → Prop} {bc0 bs0 : Nat} {a : gA} (C : CL D E (rmL_law bc0 bs0) cL_law 26 RL A) (hret : ∀ (w : va_W) (ls : List (Nat × Value)) (pc : Nat), decode cL_law pc = .ok (.ireturn, 1) → Go D E A Q 26 bc0 bs0 w ls pc [.int 1]) : ∀ (n : Nat) (cells slots : Nat) (H : gH) (bc : Nat) (bs : Nat) (S : cLS) (x3 : Nat) (x4 : Int32) (x5 : Int32) (x6 : Int32), cells + bc ≤ bc0 → slots + bs ≤ bs0 → wL_law_50 D.2 a n H bc bs S x3 x4 x5 x6 → Go D E A Q 26 cells slots (lwB D.2 a S ++ hpW H) [(0, .ref (zB D.2)), (1, .ref (a 0)), (3, .ref x3), (4, .int x4), (5, .int x5), (6, .int x6)] 50 [] := by
  intro n
  induction n with
  | zero =>
    intro cells slots H bc bs S x3 x4 x5 x6 hbc hbs h
    exact h.elim
  | succ n ih =>
    intro cells slots H bc bs S x3 x4 x5 x6 hbc hbs h
    unfold wL_law_50 at h
    refine q_iload C dL_law_50 5 rfl ?_
    refine q_bipush C (v := 8) dL_law_52 (by decide) ?_
    refine q_icmp_ge C 1054 dL_law_54 (by decide) h (fun h => ?_) (fun h => ?_)
    · refine q_aload_n C dL_law_1054 2 rfl ?_
      refine q_aload_n C dL_law_1055 1 rfl ?_
      obtain ⟨⟨fs9, hr9⟩, h⟩ := h
      refine p_callVI C (fun _ h => h) [] (cX9_isSame_ok _ h) cf_L_284 im_X9_isSame se_X9_isSame (hRv_h (q := (RX9, TX9, 12)) hr9 rfl) rfl ⟨Nat.le_of_ble_eq_true rfl, Nat.le_of_ble_eq_true rfl⟩ ⟨by show cells + 0 ≤ bc0; omega, by show slots + 0 ≤ bs0; omega⟩ (List.Perm.of_eq (List.append_nil _).symm) (fun _ : Unit => lwB D.2 a S ++ hpW H) (fun _ => List.Perm.of_eq (List.append_nil _)) (rest := []) rfl (Nat.le_of_ble_eq_true rfl) dL_law_1056 (fun r1 _ h => ?_)
      show Go D E A Q 26 cells slots (lwB D.2 a S ++ hpW H) [(0, .ref (zB D.2)), (1, .ref (a 0)), (3, .ref x3), (4, .int x4), (5, .int x5), (6, .int x6)] 1059 [.int r1]
      subst h
      refine q_widen (k := bc0) (n := bs0) (by omega) (by omega) ?_
      exact hret _ _ _ dL_law_1059
    · refine q_aload_n C dL_law_57 0 rfl ?_
      refine q_iload C dL_law_58 5 rfl ?_
      refine p_callSI C (fun _ h => h) (lwB D.2 a S) (cL_cell_ok _ h) cf_L_63 st_L_cell rfl ⟨Nat.le_of_ble_eq_true rfl, Nat.le_of_ble_eq_true rfl⟩ ⟨by show cells + 0 ≤ bc0; omega, by show slots + 0 ≤ bs0; omega⟩ List.perm_append_comm (fun _ : Unit => lwB D.2 a S ++ hpW H) (fun _ => List.perm_append_comm) (rest := []) rfl (Nat.le_of_ble_eq_true rfl) dL_law_60 (fun r2 _ h => ?_)
      show Go D E A Q 26 cells slots (lwB D.2 a S ++ hpW H) [(0, .ref (zB D.2)), (1, .ref (a 0)), (3, .ref x3), (4, .int x4), (5, .int x5), (6, .int x6)] 63 [.int r2]
      refine q_iconst C (v := 2) dL_law_63 (by decide) ?_
      refine q_ishr C dL_law_64 ?_
      refine q_bipush C (v := 53) dL_law_65 (by decide) ?_
      refine q_iload C dL_law_67 5 rfl ?_
      refine q_imul C dL_law_69 ?_
      refine q_iadd C dL_law_70 ?_
      refine q_istore C [(7, .int ((r2 >>> (2 &&& 31)) + (53 * x6))), (0, .ref (zB D.2)), (1, .ref (a 0)), (3, .ref x3), (4, .int x4), (5, .int x5), (6, .int x6)] dL_law_71 (by decide) rfl ?_
      refine q_iconst C (v := 0) dL_law_73 (by decide) ?_
      refine q_istore C [(8, .int 0), (7, .int ((r2 >>> (2 &&& 31)) + (53 * x6))), (0, .ref (zB D.2)), (1, .ref (a 0)), (3, .ref x3), (4, .int x4), (5, .int x5), (6, .int x6)] dL_law_74 (by decide) rfl ?_
      refine q_ls [(0, .ref (zB D.2)), (1, .ref (a 0)), (3, .ref x3), (4, .int x4), (5, .int x5), (6, .int x6), (7, .int ((r2 >>> (2 &&& 31)) + (53 * x6))), (8, .int 0)] [2, 3, 4, 5, 6, 7, 1, 0] rfl ?_
      obtain ⟨nw, h⟩ := h
      exact bL_law_76 C (KL50 := (wL_law_50 D.2 a n)) hret ih nw cells slots _ _ _ _ _ _ _ _ _ _ (by omega) (by omega) h
def wL_law (Z : gZ) (bc : Nat) (bs : Nat) : Prop :=
  1 ≤ bc ∧ 7 ≤ bs ∧ (∀ q1 : Nat, 54 ≤ (bc - 1) ∧ 6733 ≤ (bs - 7) ∧ kX8_init q1 (fun a S => 1 ≤ ((bc - 1) - 54) ∧ 4 ≤ ((bs - 7) - 6733) ∧ (∀ q3 : Nat, hpG hp0 q3 = none → (∃ (c5 s5 : Nat), c5 ≤ (((bc - 1) - 54) - 1) ∧ s5 ≤ (((bs - 7) - 6733) - 4) ∧ whJ4_init_da8c8 Z (hpN hp0 q3 (.inr (11, [.null, .int 0, .int 0, .int 0]))) c5 s5 q3 (fun H5 => ∃ (c6 s6 : Nat), c6 ≤ ((((bc - 1) - 54) - 1) - c5) ∧ s6 ≤ ((((bs - 7) - 6733) - 4) - s5) ∧ wL_told Z H5 c6 s6 q3 (fun r6 H6 => (∃ fs, hpG H6 q3 = some (.inr (11, fs))) ∧ ∃ (c7 s7 : Nat), c7 ≤ (((((bc - 1) - 54) - 1) - c5) - c6) ∧ s7 ≤ (((((bs - 7) - 6733) - 4) - s5) - s6) ∧ whJ4_toString_0e30d Z H6 c7 s7 q3 (fun r7 H7 => ∃ (c8 s8 : Nat), c8 ≤ ((((((bc - 1) - 54) - 1) - c5) - c6) - c7) ∧ s8 ≤ ((((((bs - 7) - 6733) - 4) - s5) - s6) - s7) ∧ wL_taught Z a H7 c8 s8 S r7 (fun r8 S8 H8 => ((r8 = 0 → kX8_seats (swA a) S8 (fun r9 => kX8_strata (swA a) S8 (fun r10 => ∃ k9 : Nat, wL_law_50 Z (swA a) k9 H8 (((((((bc - 1) - 54) - 1) - c5) - c6) - c7) - c8) (((((((bs - 7) - 6733) - 4) - s5) - s6) - s7) - s8) S8 r6 r9 r10 0))) ∧ (¬ r8 = 0 → False))))))))))
set_option maxRecDepth 100000 in
set_option maxHeartbeats 4000000 in
theorem bL_law {D : gD} {E : gE} {A : Nat → Prop} {Q : State → Prop} {bc0 bs0 : Nat} (C : CL D E (rmL_law bc0 bs0) cL_law 26 RL A) (hret : ∀ (w : va_W) (ls : List (Nat × Value)) (pc : Nat), decode cL_law pc = .ok (.ireturn, 1) → Go D E A Q 26 bc0 bs0 w ls pc [.int 1]) (cells slots : Nat) (bc : Nat) (bs : Nat) (hbc : cells + bc ≤ bc0) (hbs : slots + bs ≤ bs0) (h : wL_law D.2 bc bs ) : Go D E A Q 26 cells slots ([] ++ hpW hp0) [(0, .ref (zB D.2))] 0 [] := by
  unfold wL_law at h
  obtain ⟨b1, b2, h⟩ := h
  refine h_newD C cl_L_20 dL_law_0 ⟨by show cells + 1 ≤ bc0; omega, by show slots + 7 ≤ bs0; omega⟩ (fun q1 => ?_)
  replace h := h q1
  show Go D E A Q 26 (cells + 1) (slots + 7) ([(q1, .inr (7, [.null, .null, .null, .null, .null, .null, .int 0]))] ++ hpW hp0) [(0, .ref (zB D.2))] 3 [.ref q1]
  refine q_dup C dL_law_3 rfl ?_
  obtain ⟨b1, b2, h⟩ := h
  refine lc_init C h cf_L_180 ⟨Nat.le_of_ble_eq_true rfl, Nat.le_of_ble_eq_true rfl⟩ ⟨by show cells + 1 + 54 ≤ bc0; omega, by show slots + 7 + 6733 ≤ bs0; omega⟩ (Nat.le_of_ble_eq_true rfl) dL_law_4 (fun a S hq h2 => ?_)
  subst hq
  replace h := h2
  show Go D E A Q 26 (cells + 1 + 54) (slots + 7 + 6733) (lwB D.2 a S ++ hpW hp0) [(0, .ref (zB D.2))] 7 [.ref (a 0)]
  refine q_astore_n C [(1, .ref (a 0)), (0, .ref (zB D.2))] dL_law_7 (by decide) rfl ?_
  obtain ⟨b1, b2, h⟩ := h
  refine h_new C inJ4g tyJ4_ok cl_L_76 it_J4 ini_J4 (ci := 11) rfl (fs := [.null, .int 0, .int 0, .int 0]) (by decide) dL_law_8 ⟨by show cells + 1 + 54 + 1 ≤ bc0; omega, by show slots + 7 + 6733 + 4 ≤ bs0; omega⟩ (fun q3 g4 => ?_)
  replace h := h q3 g4
  refine q_dup C dL_law_11 rfl ?_
  obtain ⟨c5, s5, hc5, hs5, h⟩ := h
  refine p_callIV C (fun _ h => h) (lwB D.2 a S) (chJ4_init_da8c8_ok _ h) cf_L_108 im_J4_init_da8c8 rfl rfl ⟨Nat.le_of_ble_eq_true rfl, Nat.le_of_ble_eq_true rfl⟩ ⟨by show cells + 1 + 54 + 1 + c5 ≤ bc0; omega, by show slots + 7 + 6733 + 4 + s5 ≤ bs0; omega⟩ List.perm_append_comm (fun H5 : gH => lwB D.2 a S ++ hpW H5) (fun _ => List.perm_append_comm) (rest := [.ref q3]) rfl (Nat.le_of_ble_eq_true rfl) dL_law_12 (fun H5 h => ?_)
  show Go D E A Q 26 (cells + 1 + 54 + 1 + c5) (slots + 7 + 6733 + 4 + s5) (lwB D.2 a S ++ hpW H5) [(1, .ref (a 0)), (0, .ref (zB D.2))] 15 [.ref q3]
  refine q_astore_n C [(2, .ref q3), (1, .ref (a 0)), (0, .ref (zB D.2))] dL_law_15 (by decide) rfl ?_
  refine q_aload_n C dL_law_16 2 rfl ?_
  refine q_aload_n C dL_law_17 0 rfl ?_
  obtain ⟨c6, s6, hc6, hs6, h⟩ := h
  refine p_callSQ C (fun _ h => h) (lwB D.2 a S) (cL_told_ok _ h) cf_L_181 st_L_told rfl ⟨Nat.le_of_ble_eq_true rfl, Nat.le_of_ble_eq_true rfl⟩ ⟨by show cells + 1 + 54 + 1 + c5 + c6 ≤ bc0; omega, by show slots + 7 + 6733 + 4 + s5 + s6 ≤ bs0; omega⟩ List.perm_append_comm (fun H6 : gH => lwB D.2 a S ++ hpW H6) (fun _ => List.perm_append_comm) (rest := []) rfl (Nat.le_of_ble_eq_true rfl) dL_law_18 (fun r6 H6 h => ?_)
  show Go D E A Q 26 (cells + 1 + 54 + 1 + c5 + c6) (slots + 7 + 6733 + 4 + s5 + s6) (lwB D.2 a S ++ hpW H6) [(2, .ref q3), (1, .ref (a 0)), (0, .ref (zB D.2))] 21 [.ref r6]
  refine q_astore_n C [(3, .ref r6), (2, .ref q3), (1, .ref (a 0)), (0, .ref (zB D.2))] dL_law_21 (by decide) rfl ?_
  refine q_aload_n C dL_law_22 2 rfl ?_
  refine q_aload_n C dL_law_23 1 rfl ?_
  obtain ⟨⟨fs9, hr9⟩, h⟩ := h
  obtain ⟨c7, s7, hc7, hs7, h⟩ := h
  refine p_callVQ C (fun _ h => h) (lwB D.2 a S) (chJ4_toString_0e30d_ok _ h) cf_L_113 im_J4_toString_0e30d se_J4_toString_0e30d (hRv_h (q := (RJ4, TJ4, 4)) hr9 rfl) rfl ⟨Nat.le_of_ble_eq_true rfl, Nat.le_of_ble_eq_true rfl⟩ ⟨by show cells + 1 + 54 + 1 + c5 + c6 + c7 ≤ bc0; omega, by show slots + 7 + 6733 + 4 + s5 + s6 + s7 ≤ bs0; omega⟩ List.perm_append_comm (fun H7 : gH => lwB D.2 a S ++ hpW H7) (fun _ => List.perm_append_comm) (rest := [.ref (a 0)]) rfl (Nat.le_of_ble_eq_true rfl) dL_law_24 (fun r7 H7 h => ?_)
  show Go D E A Q 26 (cells + 1 + 54 + 1 + c5 + c6 + c7) (slots + 7 + 6733 + 4 + s5 + s6 + s7) (lwB D.2 a S ++ hpW H7) [(3, .ref r6), (2, .ref q3), (1, .ref (a 0)), (0, .ref (zB D.2))] 27 [.ref r7, .ref (a 0)]
  obtain ⟨c8, s8, hc8, hs8, h⟩ := h
  refine p_callSI C (fun _ h => h) [] (cL_taught_ok _ h) cf_L_185 st_L_taught rfl ⟨Nat.le_of_ble_eq_true rfl, Nat.le_of_ble_eq_true rfl⟩ ⟨by show cells + 1 + 54 + 1 + c5 + c6 + c7 + c8 ≤ bc0; omega, by show slots + 7 + 6733 + 4 + s5 + s6 + s7 + s8 ≤ bs0; omega⟩ (List.Perm.of_eq (List.append_nil _).symm) (fun v8 : cLS × gH => lwB D.2 (swA a) v8.1 ++ hpW v8.2) (fun _ => List.Perm.of_eq (List.append_nil _)) (rest := []) rfl (Nat.le_of_ble_eq_true rfl) dL_law_27 (fun r8 v8 h => ?_)
  obtain ⟨S8, H8⟩ := v8
  show Go D E A Q 26 (cells + 1 + 54 + 1 + c5 + c6 + c7 + c8) (slots + 7 + 6733 + 4 + s5 + s6 + s7 + s8) (lwB D.2 (swA a) S8 ++ hpW H8) [(3, .ref r6), (2, .ref q3), (1, .ref ((swA a) 0)), (0, .ref (zB D.2))] 30 [.int r8]
  refine q_if_eq C 35 dL_law_30 (by decide) h (fun h => ?_) (fun h => ?_)
  · refine q_aload_n C dL_law_35 2 rfl ?_
    refine lc_seats C h cf_L_189 ⟨Nat.le_of_ble_eq_true rfl, Nat.le_of_ble_eq_true rfl⟩ ⟨by show cells + 1 + 54 + 1 + c5 + c6 + c7 + c8 ≤ bc0; omega, by show slots + 7 + 6733 + 4 + s5 + s6 + s7 + s8 ≤ bs0; omega⟩ (Nat.le_of_ble_eq_true rfl) dL_law_36 (fun r9 h => ?_)
    show Go D E A Q 26 (cells + 1 + 54 + 1 + c5 + c6 + c7 + c8) (slots + 7 + 6733 + 4 + s5 + s6 + s7 + s8) (lwB D.2 (swA a) S8 ++ hpW H8) [(3, .ref r6), (2, .ref q3), (1, .ref ((swA a) 0)), (0, .ref (zB D.2))] 39 [.int r9]
    refine q_istore C [(4, .int r9), (3, .ref r6), (2, .ref q3), (1, .ref ((swA a) 0)), (0, .ref (zB D.2))] dL_law_39 (by decide) rfl ?_
    refine q_aload_n C dL_law_41 3 rfl ?_
    refine lc_strata C h cf_L_192 ⟨Nat.le_of_ble_eq_true rfl, Nat.le_of_ble_eq_true rfl⟩ ⟨by show cells + 1 + 54 + 1 + c5 + c6 + c7 + c8 ≤ bc0; omega, by show slots + 7 + 6733 + 4 + s5 + s6 + s7 + s8 ≤ bs0; omega⟩ (Nat.le_of_ble_eq_true rfl) dL_law_42 (fun r10 h => ?_)
    show Go D E A Q 26 (cells + 1 + 54 + 1 + c5 + c6 + c7 + c8) (slots + 7 + 6733 + 4 + s5 + s6 + s7 + s8) (lwB D.2 (swA a) S8 ++ hpW H8) [(4, .int r9), (3, .ref r6), (2, .ref q3), (1, .ref ((swA a) 0)), (0, .ref (zB D.2))] 45 [.int r10]
    refine q_istore C [(5, .int r10), (4, .int r9), (3, .ref r6), (2, .ref q3), (1, .ref ((swA a) 0)), (0, .ref (zB D.2))] dL_law_45 (by decide) rfl ?_
    refine q_iconst C (v := 0) dL_law_47 (by decide) ?_
    refine q_istore C [(6, .int 0), (5, .int r10), (4, .int r9), (3, .ref r6), (2, .ref q3), (1, .ref ((swA a) 0)), (0, .ref (zB D.2))] dL_law_48 (by decide) rfl ?_
    refine q_ls [(0, .ref (zB D.2)), (1, .ref ((swA a) 0)), (3, .ref r6), (4, .int r9), (5, .int r10), (6, .int 0)] [6, 5, 3, 2, 1, 0] rfl ?_
    obtain ⟨nw, h⟩ := h
    exact bL_law_50 C  hret  nw (cells + 1 + 54 + 1 + c5 + c6 + c7 + c8) (slots + 7 + 6733 + 4 + s5 + s6 + s7 + s8) _ _ _ _ _ _ _ _ (by omega) (by omega) h
  · refine q_iconst C (v := 0) dL_law_33 (by decide) ?_
    exact h.elim
