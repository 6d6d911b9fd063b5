abbrev rmL_sum (d bc bs : Nat) : Room := { frames := 3 * (d + 1), cells := bc, slots := bs, locals := 41 * (d + 1) }
def wL_sum_178 (rec : gH → Nat → Nat → Int32 → Int32 → Int32 → (Nat → gH → Prop) → Prop) (K : Nat → gH → Prop) (Z : gZ) (H : gH) (bc : Nat) (bs : Nat) (x0 : Int32) (x1 : Int32) (x2 : Int32) (x3 : Nat) : Prop :=
  ∃ y1 : Int32, gF H x3 9 0 (.int y1) ∧ (((y1 < 9 → K x3 H) ∧ (¬ y1 < 9 → ∃ (c3 s3 : Nat), c3 ≤ bc ∧ s3 ≤ bs ∧ rec H c3 s3 ((x0 * 5) + 2) x1 (x2 + 1) (fun r3 H3 => ∃ f4 : List Value, hpG H3 x3 = some (.inr (9, f4)) ∧ 3 < f4.length ∧ (K x3 (hpS H3 x3 (.inr (9, f4.set 3 (.ref r3)))))))))
def wL_sum_150 (rec : gH → Nat → Nat → Int32 → Int32 → Int32 → (Nat → gH → Prop) → Prop) (K : Nat → gH → Prop) (Z : gZ) (H : gH) (bc : Nat) (bs : Nat) (x0 : Int32) (x1 : Int32) (x2 : Int32) (x3 : Nat) (z0 : Int32) (z1 : Nat) : Prop :=
  ∃ f1 : List Value, hpG H z1 = some (.inr (9, f1)) ∧ 1 < f1.length ∧ (∃ y4 : Int32, gF (hpS H z1 (.inr (9, f1.set 1 (.int z0)))) x3 9 0 (.int y4) ∧ (((y4 < 7 → wL_sum_178 rec K Z (hpS H z1 (.inr (9, f1.set 1 (.int z0)))) bc bs x0 x1 x2 x3) ∧ (¬ y4 < 7 → ∃ (c6 s6 : Nat), c6 ≤ bc ∧ s6 ≤ bs ∧ rec (hpS H z1 (.inr (9, f1.set 1 (.int z0)))) c6 s6 ((x0 * 3) + 1) x1 (x2 + 1) (fun r6 H6 => ∃ f7 : List Value, hpG H6 x3 = some (.inr (9, f7)) ∧ 2 < f7.length ∧ (wL_sum_178 rec K Z (hpS H6 x3 (.inr (9, f7.set 2 (.ref r6)))) (bc - c6) (bs - s6) x0 x1 x2 x3))))))
def wL_sum_129 (rec : gH → Nat → Nat → Int32 → Int32 → Int32 → (Nat → gH → Prop) → Prop) (K : Nat → gH → Prop) (Z : gZ) (H : gH) (bc : Nat) (bs : Nat) (x0 : Int32) (x1 : Int32) (x2 : Int32) (x3 : Nat) (z0 : Int32) (z1 : Int32) (z2 : Nat) : Prop :=
  wL_below Z H z1 z0 (fun r1 => wL_sum_150 rec K Z H bc bs x0 x1 x2 x3 r1 z2)
def wL_sum_99 (rec : gH → Nat → Nat → Int32 → Int32 → Int32 → (Nat → gH → Prop) → Prop) (K : Nat → gH → Prop) (Z : gZ) (H : gH) (bc : Nat) (bs : Nat) (x0 : Int32) (x1 : Int32) (x2 : Int32) (x3 : Nat) : Prop :=
  ∃ y1 : Int32, gF H x3 9 0 (.int y1) ∧ (((¬ y1 = 0 → ((¬ x1 = 0 → wL_below Z H (x0 >>> (4 &&& 31)) x1 (fun r3 => wL_sum_150 rec K Z H bc bs x0 x1 x2 x3 r3 x3)) ∧ (x1 = 0 → wL_sum_150 rec K Z H bc bs x0 x1 x2 x3 0 x3))) ∧ (y1 = 0 → wL_below Z H (x0 >>> (7 &&& 31)) 6 (fun r4 => ((¬ r4 = 0 → wL_sum_129 rec K Z H bc bs x0 x1 x2 x3 11 (x0 >>> (3 &&& 31)) x3) ∧ (r4 = 0 → wL_sum_129 rec K Z H bc bs x0 x1 x2 x3 1000000 (x0 >>> (3 &&& 31)) x3))))))
def wL_sum_89 (rec : gH → Nat → Nat → Int32 → Int32 → Int32 → (Nat → gH → Prop) → Prop) (K : Nat → gH → Prop) (Z : gZ) (H : gH) (bc : Nat) (bs : Nat) (x0 : Int32) (x1 : Int32) (x2 : Int32) (x3 : Nat) : Prop :=
  ∃ y1 : Int32, gF H x3 9 0 (.int y1) ∧ (∃ f3 : List Value, hpG H x3 = some (.inr (9, f3)) ∧ 0 < f3.length ∧ (wL_sum_99 rec K Z (hpS H x3 (.inr (9, f3.set 0 (.int (y1 - 4))))) bc bs x0 x1 x2 x3))
def wL_sum_65 (rec : gH → Nat → Nat → Int32 → Int32 → Int32 → (Nat → gH → Prop) → Prop) (K : Nat → gH → Prop) (Z : gZ) (H : gH) (bc : Nat) (bs : Nat) (x0 : Int32) (x1 : Int32) (x2 : Int32) (x3 : Nat) (z0 : Int32) (z1 : Nat) : Prop :=
  ∃ f1 : List Value, hpG H z1 = some (.inr (9, f1)) ∧ 0 < f1.length ∧ (((¬ x1 = 0 → wL_sum_99 rec K Z (hpS H z1 (.inr (9, f1.set 0 (.int z0)))) bc bs x0 x1 x2 x3) ∧ (x1 = 0 → ∃ y4 : Int32, gF (hpS H z1 (.inr (9, f1.set 0 (.int z0)))) x3 9 0 (.int y4) ∧ (((y4 = 5 → wL_sum_89 rec K Z (hpS H z1 (.inr (9, f1.set 0 (.int z0)))) bc bs x0 x1 x2 x3) ∧ (¬ y4 = 5 → ∃ y6 : Int32, gF (hpS H z1 (.inr (9, f1.set 0 (.int z0)))) x3 9 0 (.int y6) ∧ (((¬ y6 = 6 → wL_sum_99 rec K Z (hpS H z1 (.inr (9, f1.set 0 (.int z0)))) bc bs x0 x1 x2 x3) ∧ (y6 = 6 → wL_sum_89 rec K Z (hpS H z1 (.inr (9, f1.set 0 (.int z0)))) bc bs x0 x1 x2 x3)))))))))
def wL_sum_36 (rec : gH → Nat → Nat → Int32 → Int32 → Int32 → (Nat → gH → Prop) → Prop) (K : Nat → gH → Prop) (Z : gZ) (H : gH) (bc : Nat) (bs : Nat) (x0 : Int32) (x1 : Int32) (x2 : Int32) (x3 : Nat) (z0 : Nat) : Prop :=
  wL_sum_65 rec K Z H bc bs x0 x1 x2 x3 0 z0
def wL_sum_40 (rec : gH → Nat → Nat → Int32 → Int32 → Int32 → (Nat → gH → Prop) → Prop) (K : Nat → gH → Prop) (Z : gZ) (H : gH) (bc : Nat) (bs : Nat) (x0 : Int32) (x1 : Int32) (x2 : Int32) (x3 : Nat) (x4 : Int32) (z0 : Nat) : Prop :=
  ((12 ≤ x4 → wL_sum_65 rec K Z H bc bs x0 x1 x2 x3 (7 + (x4 - x4 / 8 * 8)) z0) ∧ (¬ 12 ≤ x4 → wL_sum_65 rec K Z H bc bs x0 x1 x2 x3 (1 + (x4 - x4 / 6 * 6)) z0))
set_option maxRecDepth 100000 in
def wL_sum_E (rec : gH → Nat → Nat → Int32 → Int32 → Int32 → (Nat → gH → Prop) → Prop) (Z : gZ) (H : gH) (bc : Nat) (bs : Nat) (p0 : Int32) (p1 : Int32) (p2 : Int32) (K : Nat → gH → Prop) : Prop :=
  1 ≤ bc ∧ 4 ≤ bs ∧ (∀ q1 : Nat, hpG H q1 = none → (wX10_init Z (hpN H q1 (.inr (9, [.int 0, .int 0, .null, .null]))) q1 (fun H3 => wL_below Z H3 p0 20 (fun r4 => ((r4 < 6 → wL_sum_36 rec K Z H3 (bc - 1) (bs - 4) p0 p1 p2 q1 q1) ∧ (¬ r4 < 6 → ((p2 ≤ 1 → wL_sum_40 rec K Z H3 (bc - 1) (bs - 4) p0 p1 p2 q1 r4 q1) ∧ (¬ p2 ≤ 1 → ((r4 ≤ 11 → wL_sum_40 rec K Z H3 (bc - 1) (bs - 4) p0 p1 p2 q1 r4 q1) ∧ (¬ r4 ≤ 11 → wL_sum_36 rec K Z H3 (bc - 1) (bs - 4) p0 p1 p2 q1 q1))))))))))
def wL_sum (Z : gZ) : Nat → gH → Nat → Nat → Int32 → Int32 → Int32 → (Nat → gH → Prop) → Prop
  | 0, _, _, _, _, _, _, _ => False
  | d + 1, H, bc, bs, p0, p1, p2, K => wL_sum_E (wL_sum Z d) Z H bc bs p0 p1 p2 K
set_option maxRecDepth 100000 in
set_option maxHeartbeats 4000000 in
theorem bL_sum_178 {D : gD} {E : gE} {A : Nat → Prop} {Q : State → Prop} {nr : Nat} {bc0 bs0 : Nat} (C : CL D E (rmL_sum (nr + 1) bc0 bs0) cL_sum 5 RL A) (hrec : ∀ (H : gH) (bc : Nat) (bs : Nat) (p0 : Int32) (p1 : Int32) (p2 : Int32) (K : Nat → gH → Prop), wL_sum D.2 nr H bc bs p0 p1 p2 K → CtQ E.2.1 D (gU (zY D.2)) yL_sum cL_sum 5 (.object "SofaDigLaw$Tree") (rmL_sum nr bc bs) [.int p0, .int p1, .int p2] ([] ++ hpW H) (fun u : gH => [] ++ hpW u) (fun r u => K r u)) {K : Nat → gH → Prop} (hret : ∀ (r : Nat) (H : gH) (pc : Nat) (ls : List (Nat × Value)), K r H → decode cL_sum pc = .ok (.areturn, 1) → Go D E A Q 5 bc0 bs0 ([] ++ hpW H) ls pc [.ref r]) : ∀ (cells slots : Nat) (H : gH) (bc : Nat) (bs : Nat) (x0 : Int32) (x1 : Int32) (x2 : Int32) (x3 : Nat), cells + bc ≤ bc0 → slots + bs ≤ bs0 → wL_sum_178 (wL_sum D.2 nr) K D.2 H bc bs x0 x1 x2 x3 → Go D E A Q 5 cells slots ([] ++ hpW H) [(0, .int x0), (1, .int x1), (2, .int x2), (3, .ref x3)] 178 [] := by
  intro cells slots H bc bs x0 x1 x2 x3 hbc hbs h
  unfold wL_sum_178 at h
  refine q_aload_n C dL_sum_178 3 rfl ?_
  obtain ⟨y1, e2, h⟩ := h
  refine h_get C inX10g (ci := 9) rfl 0 (by decide) fl_L_41 rfl e2 dL_sum_179 ?_
  refine q_bipush C (v := 9) dL_sum_182 (by decide) ?_
  refine q_icmp_lt C 203 dL_sum_184 (by decide) h (fun h => ?_) (fun h => ?_)
  · refine q_aload_n C dL_sum_203 3 rfl ?_
    refine q_widen (k := bc0) (n := bs0) (by omega) (by omega) ?_
    exact hret x3 H _ _ h dL_sum_204
  · refine q_aload_n C dL_sum_187 3 rfl ?_
    refine q_iload_n C dL_sum_188 0 rfl ?_
    refine q_iconst C (v := 5) dL_sum_189 (by decide) ?_
    refine q_imul C dL_sum_190 ?_
    refine q_iconst C (v := 2) dL_sum_191 (by decide) ?_
    refine q_iadd C dL_sum_192 ?_
    refine q_iload_n C dL_sum_193 1 rfl ?_
    refine q_iload_n C dL_sum_194 2 rfl ?_
    refine q_iconst C (v := 1) dL_sum_195 (by decide) ?_
    refine q_iadd C dL_sum_196 ?_
    obtain ⟨c3, s3, hc3, hs3, h⟩ := h
    refine p_callSQ C (fun _ h => h) [] (hrec _ _ _ _ _ _ _ h) cf_L_49 st_L_sum rfl ⟨by show _ * (nr + 1) + 1 ≤ _ * (nr + 1 + 1); omega, by show 8 + (5 + 11) + _ * (nr + 1) ≤ _ * (nr + 1 + 1); omega⟩ ⟨by show cells + c3 ≤ bc0; omega, by show slots + s3 ≤ bs0; omega⟩ List.perm_append_comm (fun H3 : gH => [] ++ hpW H3) (fun _ => List.perm_append_comm) (rest := [.ref x3]) rfl (Nat.le_of_ble_eq_true rfl) dL_sum_197 (fun r3 H3 h => ?_)
    show Go D E A Q 5 (cells + c3) (slots + s3) ([] ++ hpW H3) [(0, .int x0), (1, .int x1), (2, .int x2), (3, .ref x3)] 200 [.ref r3, .ref x3]
    obtain ⟨f4, e5, l6, h⟩ := h
    refine h_put C inX10g tyX10_ok nmX10 (ci := 9) rfl 3 (by decide) fl_L_57 rfl rfl (ty := (.object "SofaDigLaw$Tree")) (by decide +kernel) e5 l6 rfl rfl dL_sum_200 ?_
    refine q_aload_n C dL_sum_203 3 rfl ?_
    refine q_widen (k := bc0) (n := bs0) (by omega) (by omega) ?_
    exact hret x3 (hpS H3 x3 (.inr (9, f4.set 3 (.ref r3)))) _ _ h dL_sum_204
set_option maxRecDepth 100000 in
set_option maxHeartbeats 4000000 in
theorem bL_sum_150 {D : gD} {E : gE} {A : Nat → Prop} {Q : State → Prop} {nr : Nat} {bc0 bs0 : Nat} (C : CL D E (rmL_sum (nr + 1) bc0 bs0) cL_sum 5 RL A) (hrec : ∀ (H : gH) (bc : Nat) (bs : Nat) (p0 : Int32) (p1 : Int32) (p2 : Int32) (K : Nat → gH → Prop), wL_sum D.2 nr H bc bs p0 p1 p2 K → CtQ E.2.1 D (gU (zY D.2)) yL_sum cL_sum 5 (.object "SofaDigLaw$Tree") (rmL_sum nr bc bs) [.int p0, .int p1, .int p2] ([] ++ hpW H) (fun u : gH => [] ++ hpW u) (fun r u => K r u)) {K : Nat → gH → Prop} (hret : ∀ (r : Nat) (H : gH) (pc : Nat) (ls : List (Nat × Value)), K r H → decode cL_sum pc = .ok (.areturn, 1) → Go D E A Q 5 bc0 bs0 ([] ++ hpW H) ls pc [.ref r]) : ∀ (cells slots : Nat) (H : gH) (bc : Nat) (bs : Nat) (x0 : Int32) (x1 : Int32) (x2 : Int32) (x3 : Nat) (z0 : Int32) (z1 : Nat), cells + bc ≤ bc0 → slots + bs ≤ bs0 → wL_sum_150 (wL_sum D.2 nr) K D.2 H bc bs x0 x1 x2 x3 z0 z1 → Go D E A Q 5 cells slots ([] ++ hpW H) [(0, .int x0), (1, .int x1), (2, .int x2), (3, .ref x3)] 150 [.int z0, .ref z1] := by
  intro cells slots H bc bs x0 x1 x2 x3 z0 z1 hbc hbs h
  unfold wL_sum_150 at h
  obtain ⟨f1, e2, l3, h⟩ := h
  refine h_put C inX10g tyX10_ok nmX10 (ci := 9) rfl 1 (by decide) fl_L_46 rfl rfl (ty := .int) (by decide +kernel) e2 l3 rfl rfl dL_sum_150 ?_
  refine q_aload_n C dL_sum_153 3 rfl ?_
  obtain ⟨y4, e5, h⟩ := h
  refine h_get C inX10g (ci := 9) rfl 0 (by decide) fl_L_41 rfl e5 dL_sum_154 ?_
  refine q_bipush C (v := 7) dL_sum_157 (by decide) ?_
  refine q_icmp_lt C 178 dL_sum_159 (by decide) h (fun h => ?_) (fun h => ?_)
  · exact bL_sum_178 C hrec  hret  cells slots _ _ _ _ _ _ _ (by omega) (by omega) h
  · refine q_aload_n C dL_sum_162 3 rfl ?_
    refine q_iload_n C dL_sum_163 0 rfl ?_
    refine q_iconst C (v := 3) dL_sum_164 (by decide) ?_
    refine q_imul C dL_sum_165 ?_
    refine q_iconst C (v := 1) dL_sum_166 (by decide) ?_
    refine q_iadd C dL_sum_167 ?_
    refine q_iload_n C dL_sum_168 1 rfl ?_
    refine q_iload_n C dL_sum_169 2 rfl ?_
    refine q_iconst C (v := 1) dL_sum_170 (by decide) ?_
    refine q_iadd C dL_sum_171 ?_
    obtain ⟨c6, s6, hc6, hs6, h⟩ := h
    refine p_callSQ C (fun _ h => h) [] (hrec _ _ _ _ _ _ _ h) cf_L_49 st_L_sum rfl ⟨by show _ * (nr + 1) + 1 ≤ _ * (nr + 1 + 1); omega, by show 8 + (5 + 11) + _ * (nr + 1) ≤ _ * (nr + 1 + 1); omega⟩ ⟨by show cells + c6 ≤ bc0; omega, by show slots + s6 ≤ bs0; omega⟩ List.perm_append_comm (fun H6 : gH => [] ++ hpW H6) (fun _ => List.perm_append_comm) (rest := [.ref x3]) rfl (Nat.le_of_ble_eq_true rfl) dL_sum_172 (fun r6 H6 h => ?_)
    show Go D E A Q 5 (cells + c6) (slots + s6) ([] ++ hpW H6) [(0, .int x0), (1, .int x1), (2, .int x2), (3, .ref x3)] 175 [.ref r6, .ref x3]
    obtain ⟨f7, e8, l9, h⟩ := h
    refine h_put C inX10g tyX10_ok nmX10 (ci := 9) rfl 2 (by decide) fl_L_53 rfl rfl (ty := (.object "SofaDigLaw$Tree")) (by decide +kernel) e8 l9 rfl rfl dL_sum_175 ?_
    exact bL_sum_178 C hrec  hret  (cells + c6) (slots + s6) _ _ _ _ _ _ _ (by omega) (by omega) h
set_option maxRecDepth 100000 in
set_option maxHeartbeats 4000000 in
theorem bL_sum_129 {D : gD} {E : gE} {A : Nat → Prop} {Q : State → Prop} {nr : Nat} {bc0 bs0 : Nat} (C : CL D E (rmL_sum (nr + 1) bc0 bs0) cL_sum 5 RL A) (hrec : ∀ (H : gH) (bc : Nat) (bs : Nat) (p0 : Int32) (p1 : Int32) (p2 : Int32) (K : Nat → gH → Prop), wL_sum D.2 nr H bc bs p0 p1 p2 K → CtQ E.2.1 D (gU (zY D.2)) yL_sum cL_sum 5 (.object "SofaDigLaw$Tree") (rmL_sum nr bc bs) [.int p0, .int p1, .int p2] ([] ++ hpW H) (fun u : gH => [] ++ hpW u) (fun r u => K r u)) {K : Nat → gH → Prop} (hret : ∀ (r : Nat) (H : gH) (pc : Nat) (ls : List (Nat × Value)), K r H → decode cL_sum pc = .ok (.areturn, 1) → Go D E A Q 5 bc0 bs0 ([] ++ hpW H) ls pc [.ref r]) : ∀ (cells slots : Nat) (H : gH) (bc : Nat) (bs : Nat) (x0 : Int32) (x1 : Int32) (x2 : Int32) (x3 : Nat) (z0 : Int32) (z1 : Int32) (z2 : Nat), cells + bc ≤ bc0 → slots + bs ≤ bs0 → wL_sum_129 (wL_sum D.2 nr) K D.2 H bc bs x0 x1 x2 x3 z0 z1 z2 → Go D E A Q 5 cells slots ([] ++ hpW H) [(0, .int x0), (1, .int x1), (2, .int x2), (3, .ref x3)] 129 [.int z0, .int z1, .ref z2] := by
  intro cells slots H bc bs x0 x1 x2 x3 z0 z1 z2 hbc hbs h
  unfold wL_sum_129 at h
  refine p_callSI C (fun _ h => h) [] (cL_below_ok _ h) cf_L_35 st_L_below rfl ⟨by show 0 + 1 ≤ _ * (nr + 1 + 1); omega, by show 8 + (2 + 11) + 0 ≤ _ * (nr + 1 + 1); omega⟩ ⟨by show cells + 0 ≤ bc0; omega, by show slots + 0 ≤ bs0; omega⟩ List.perm_append_comm (fun _ : Unit => [] ++ hpW H) (fun _ => List.perm_append_comm) (rest := [.ref z2]) rfl (Nat.le_of_ble_eq_true rfl) dL_sum_129 (fun r1 _ h => ?_)
  show Go D E A Q 5 cells slots ([] ++ hpW H) [(0, .int x0), (1, .int x1), (2, .int x2), (3, .ref x3)] 132 [.int r1, .ref z2]
  refine q_goto (tgt := 150) C dL_sum_132 (by decide) ?_
  exact bL_sum_150 C hrec  hret  cells slots _ _ _ _ _ _ _ _ _ (by omega) (by omega) h
set_option maxRecDepth 100000 in
set_option maxHeartbeats 4000000 in
theorem bL_sum_99 {D : gD} {E : gE} {A : Nat → Prop} {Q : State → Prop} {nr : Nat} {bc0 bs0 : Nat} (C : CL D E (rmL_sum (nr + 1) bc0 bs0) cL_sum 5 RL A) (hrec : ∀ (H : gH) (bc : Nat) (bs : Nat) (p0 : Int32) (p1 : Int32) (p2 : Int32) (K : Nat → gH → Prop), wL_sum D.2 nr H bc bs p0 p1 p2 K → CtQ E.2.1 D (gU (zY D.2)) yL_sum cL_sum 5 (.object "SofaDigLaw$Tree") (rmL_sum nr bc bs) [.int p0, .int p1, .int p2] ([] ++ hpW H) (fun u : gH => [] ++ hpW u) (fun r u => K r u)) {K : Nat → gH → Prop} (hret : ∀ (r : Nat) (H : gH) (pc : Nat) (ls : List (Nat × Value)), K r H → decode cL_sum pc = .ok (.areturn, 1) → Go D E A Q 5 bc0 bs0 ([] ++ hpW H) ls pc [.ref r]) : ∀ (cells slots : Nat) (H : gH) (bc : Nat) (bs : Nat) (x0 : Int32) (x1 : Int32) (x2 : Int32) (x3 : Nat), cells + bc ≤ bc0 → slots + bs ≤ bs0 → wL_sum_99 (wL_sum D.2 nr) K D.2 H bc bs x0 x1 x2 x3 → Go D E A Q 5 cells slots ([] ++ hpW H) [(0, .int x0), (1, .int x1), (2, .int x2), (3, .ref x3)] 99 [] := by
  intro cells slots H bc bs x0 x1 x2 x3 hbc hbs h
  unfold wL_sum_99 at h
  refine q_aload_n C dL_sum_99 3 rfl ?_
  refine q_aload_n C dL_sum_100 3 rfl ?_
  obtain ⟨y1, e2, h⟩ := h
  refine h_get C inX10g (ci := 9) rfl 0 (by decide) fl_L_41 rfl e2 dL_sum_101 ?_
  refine q_if_ne C 135 dL_sum_104 (by decide) h (fun h => ?_) (fun h => ?_)
  · refine q_iload_n C dL_sum_135 1 rfl ?_
    refine q_if_ne C 143 dL_sum_136 (by decide) h (fun h => ?_) (fun h => ?_)
    · refine q_iload_n C dL_sum_143 0 rfl ?_
      refine q_iconst C (v := 4) dL_sum_144 (by decide) ?_
      refine q_ishr C dL_sum_145 ?_
      refine q_iload_n C dL_sum_146 1 rfl ?_
      refine p_callSI C (fun _ h => h) [] (cL_below_ok _ h) cf_L_35 st_L_below rfl ⟨by show 0 + 1 ≤ _ * (nr + 1 + 1); omega, by show 8 + (2 + 11) + 0 ≤ _ * (nr + 1 + 1); omega⟩ ⟨by show cells + 0 ≤ bc0; omega, by show slots + 0 ≤ bs0; omega⟩ List.perm_append_comm (fun _ : Unit => [] ++ hpW H) (fun _ => List.perm_append_comm) (rest := [.ref x3]) rfl (Nat.le_of_ble_eq_true rfl) dL_sum_147 (fun r3 _ h => ?_)
      show Go D E A Q 5 cells slots ([] ++ hpW H) [(0, .int x0), (1, .int x1), (2, .int x2), (3, .ref x3)] 150 [.int r3, .ref x3]
      exact bL_sum_150 C hrec  hret  cells slots _ _ _ _ _ _ _ _ _ (by omega) (by omega) h
    · refine q_iconst C (v := 0) dL_sum_139 (by decide) ?_
      refine q_goto (tgt := 150) C dL_sum_140 (by decide) ?_
      exact bL_sum_150 C hrec  hret  cells slots _ _ _ _ _ _ _ _ _ (by omega) (by omega) h
  · refine q_iload_n C dL_sum_107 0 rfl ?_
    refine q_iconst C (v := 3) dL_sum_108 (by decide) ?_
    refine q_ishr C dL_sum_109 ?_
    refine q_iload_n C dL_sum_110 0 rfl ?_
    refine q_bipush C (v := 7) dL_sum_111 (by decide) ?_
    refine q_ishr C dL_sum_113 ?_
    refine q_bipush C (v := 6) dL_sum_114 (by decide) ?_
    refine p_callSI C (fun _ h => h) [] (cL_below_ok _ h) cf_L_35 st_L_below rfl ⟨by show 0 + 1 ≤ _ * (nr + 1 + 1); omega, by show 8 + (2 + 11) + 0 ≤ _ * (nr + 1 + 1); omega⟩ ⟨by show cells + 0 ≤ bc0; omega, by show slots + 0 ≤ bs0; omega⟩ List.perm_append_comm (fun _ : Unit => [] ++ hpW H) (fun _ => List.perm_append_comm) (rest := [.int (x0 >>> (3 &&& 31)), .ref x3]) rfl (Nat.le_of_ble_eq_true rfl) dL_sum_116 (fun r4 _ h => ?_)
    show Go D E A Q 5 cells slots ([] ++ hpW H) [(0, .int x0), (1, .int x1), (2, .int x2), (3, .ref x3)] 119 [.int r4, .int (x0 >>> (3 &&& 31)), .ref x3]
    refine q_if_ne C 127 dL_sum_119 (by decide) h (fun h => ?_) (fun h => ?_)
    · refine q_bipush C (v := 11) dL_sum_127 (by decide) ?_
      exact bL_sum_129 C hrec  hret  cells slots _ _ _ _ _ _ _ _ _ _ (by omega) (by omega) h
    · refine q_ldc C (v := 1000000) co_L_45 dL_sum_122 ?_
      refine q_goto (tgt := 129) C dL_sum_124 (by decide) ?_
      exact bL_sum_129 C hrec  hret  cells slots _ _ _ _ _ _ _ _ _ _ (by omega) (by omega) h
set_option maxRecDepth 100000 in
set_option maxHeartbeats 4000000 in
theorem bL_sum_89 {D : gD} {E : gE} {A : Nat → Prop} {Q : State → Prop} {nr : Nat} {bc0 bs0 : Nat} (C : CL D E (rmL_sum (nr + 1) bc0 bs0) cL_sum 5 RL A) (hrec : ∀ (H : gH) (bc : Nat) (bs : Nat) (p0 : Int32) (p1 : Int32) (p2 : Int32) (K : Nat → gH → Prop), wL_sum D.2 nr H bc bs p0 p1 p2 K → CtQ E.2.1 D (gU (zY D.2)) yL_sum cL_sum 5 (.object "SofaDigLaw$Tree") (rmL_sum nr bc bs) [.int p0, .int p1, .int p2] ([] ++ hpW H) (fun u : gH => [] ++ hpW u) (fun r u => K r u)) {K : Nat → gH → Prop} (hret : ∀ (r : Nat) (H : gH) (pc : Nat) (ls : List (Nat × Value)), K r H → decode cL_sum pc = .ok (.areturn, 1) → Go D E A Q 5 bc0 bs0 ([] ++ hpW H) ls pc [.ref r]) : ∀ (cells slots : Nat) (H : gH) (bc : Nat) (bs : Nat) (x0 : Int32) (x1 : Int32) (x2 : Int32) (x3 : Nat), cells + bc ≤ bc0 → slots + bs ≤ bs0 → wL_sum_89 (wL_sum D.2 nr) K D.2 H bc bs x0 x1 x2 x3 → Go D E A Q 5 cells slots ([] ++ hpW H) [(0, .int x0), (1, .int x1), (2, .int x2), (3, .ref x3)] 89 [] := by
  intro cells slots H bc bs x0 x1 x2 x3 hbc hbs h
  unfold wL_sum_89 at h
  refine q_aload_n C dL_sum_89 3 rfl ?_
  refine q_dup C dL_sum_90 rfl ?_
  obtain ⟨y1, e2, h⟩ := h
  refine h_get C inX10g (ci := 9) rfl 0 (by decide) fl_L_41 rfl e2 dL_sum_91 ?_
  refine q_iconst C (v := 4) dL_sum_94 (by decide) ?_
  refine q_isub C dL_sum_95 ?_
  obtain ⟨f3, e4, l5, h⟩ := h
  refine h_put C inX10g tyX10_ok nmX10 (ci := 9) rfl 0 (by decide) fl_L_41 rfl rfl (ty := .int) (by decide +kernel) e4 l5 rfl rfl dL_sum_96 ?_
  exact bL_sum_99 C hrec  hret  cells slots _ _ _ _ _ _ _ (by omega) (by omega) h
set_option maxRecDepth 100000 in
set_option maxHeartbeats 4000000 in
theorem bL_sum_65 {D : gD} {E : gE} {A : Nat → Prop} {Q : State → Prop} {nr : Nat} {bc0 bs0 : Nat} (C : CL D E (rmL_sum (nr + 1) bc0 bs0) cL_sum 5 RL A) (hrec : ∀ (H : gH) (bc : Nat) (bs : Nat) (p0 : Int32) (p1 : Int32) (p2 : Int32) (K : Nat → gH → Prop), wL_sum D.2 nr H bc bs p0 p1 p2 K → CtQ E.2.1 D (gU (zY D.2)) yL_sum cL_sum 5 (.object "SofaDigLaw$Tree") (rmL_sum nr bc bs) [.int p0, .int p1, .int p2] ([] ++ hpW H) (fun u : gH => [] ++ hpW u) (fun r u => K r u)) {K : Nat → gH → Prop} (hret : ∀ (r : Nat) (H : gH) (pc : Nat) (ls : List (Nat × Value)), K r H → decode cL_sum pc = .ok (.areturn, 1) → Go D E A Q 5 bc0 bs0 ([] ++ hpW H) ls pc [.ref r]) : ∀ (cells slots : Nat) (H : gH) (bc : Nat) (bs : Nat) (x0 : Int32) (x1 : Int32) (x2 : Int32) (x3 : Nat) (z0 : Int32) (z1 : Nat), cells + bc ≤ bc0 → slots + bs ≤ bs0 → wL_sum_65 (wL_sum D.2 nr) K D.2 H bc bs x0 x1 x2 x3 z0 z1 → Go D E A Q 5 cells slots ([] ++ hpW H) [(0, .int x0), (1, .int x1), (2, .int x2), (3, .ref x3)] 65 [.int z0, .ref z1] := by
  intro cells slots H bc bs x0 x1 x2 x3 z0 z1 hbc hbs h
  unfold wL_sum_65 at h
  obtain ⟨f1, e2, l3, h⟩ := h
  refine h_put C inX10g tyX10_ok nmX10 (ci := 9) rfl 0 (by decide) fl_L_41 rfl rfl (ty := .int) (by decide +kernel) e2 l3 rfl rfl dL_sum_65 ?_
  refine q_iload_n C dL_sum_68 1 rfl ?_
  refine q_if_ne C 99 dL_sum_69 (by decide) h (fun h => ?_) (fun h => ?_)
  · exact bL_sum_99 C hrec  hret  cells slots _ _ _ _ _ _ _ (by omega) (by omega) h
  · refine q_aload_n C dL_sum_72 3 rfl ?_
    obtain ⟨y4, e5, h⟩ := h
    refine h_get C inX10g (ci := 9) rfl 0 (by decide) fl_L_41 rfl e5 dL_sum_73 ?_
    refine q_iconst C (v := 5) dL_sum_76 (by decide) ?_
    refine q_icmp_eq C 89 dL_sum_77 (by decide) h (fun h => ?_) (fun h => ?_)
    · exact bL_sum_89 C hrec  hret  cells slots _ _ _ _ _ _ _ (by omega) (by omega) h
    · refine q_aload_n C dL_sum_80 3 rfl ?_
      obtain ⟨y6, e7, h⟩ := h
      refine h_get C inX10g (ci := 9) rfl 0 (by decide) fl_L_41 rfl e7 dL_sum_81 ?_
      refine q_bipush C (v := 6) dL_sum_84 (by decide) ?_
      refine q_icmp_ne C 99 dL_sum_86 (by decide) h (fun h => ?_) (fun h => ?_)
      · exact bL_sum_99 C hrec  hret  cells slots _ _ _ _ _ _ _ (by omega) (by omega) h
      · exact bL_sum_89 C hrec  hret  cells slots _ _ _ _ _ _ _ (by omega) (by omega) h
set_option maxRecDepth 100000 in
set_option maxHeartbeats 4000000 in
theorem bL_sum_36 {D : gD} {E : gE} {A : Nat → Prop} {Q : State → Prop} {nr : Nat} {bc0 bs0 : Nat} (C : CL D E (rmL_sum (nr + 1) bc0 bs0) cL_sum 5 RL A) (hrec : ∀ (H : gH) (bc : Nat) (bs : Nat) (p0 : Int32) (p1 : Int32) (p2 : Int32) (K : Nat → gH → Prop), wL_sum D.2 nr H bc bs p0 p1 p2 K → CtQ E.2.1 D (gU (zY D.2)) yL_sum cL_sum 5 (.object "SofaDigLaw$Tree") (rmL_sum nr bc bs) [.int p0, .int p1, .int p2] ([] ++ hpW H) (fun u : gH => [] ++ hpW u) (fun r u => K r u)) {K : Nat → gH → Prop} (hret : ∀ (r : Nat) (H : gH) (pc : Nat) (ls : List (Nat × Value)), K r H → decode cL_sum pc = .ok (.areturn, 1) → Go D E A Q 5 bc0 bs0 ([] ++ hpW H) ls pc [.ref r]) : ∀ (cells slots : Nat) (H : gH) (bc : Nat) (bs : Nat) (x0 : Int32) (x1 : Int32) (x2 : Int32) (x3 : Nat) (z0 : Nat), cells + bc ≤ bc0 → slots + bs ≤ bs0 → wL_sum_36 (wL_sum D.2 nr) K D.2 H bc bs x0 x1 x2 x3 z0 → Go D E A Q 5 cells slots ([] ++ hpW H) [(0, .int x0), (1, .int x1), (2, .int x2), (3, .ref x3)] 36 [.ref z0] := by
  intro cells slots H bc bs x0 x1 x2 x3 z0 hbc hbs h
  unfold wL_sum_36 at h
  refine q_iconst C (v := 0) dL_sum_36 (by decide) ?_
  refine q_goto (tgt := 65) C dL_sum_37 (by decide) ?_
  exact bL_sum_65 C hrec  hret  cells slots _ _ _ _ _ _ _ _ _ (by omega) (by omega) h
set_option maxRecDepth 100000 in
set_option maxHeartbeats 4000000 in
theorem bL_sum_40 {D : gD} {E : gE} {A : Nat → Prop} {Q : State → Prop} {nr : Nat} {bc0 bs0 : Nat} (C : CL D E (rmL_sum (nr + 1) bc0 bs0) cL_sum 5 RL A) (hrec : ∀ (H : gH) (bc : Nat) (bs : Nat) (p0 : Int32) (p1 : Int32) (p2 : Int32) (K : Nat → gH → Prop), wL_sum D.2 nr H bc bs p0 p1 p2 K → CtQ E.2.1 D (gU (zY D.2)) yL_sum cL_sum 5 (.object "SofaDigLaw$Tree") (rmL_sum nr bc bs) [.int p0, .int p1, .int p2] ([] ++ hpW H) (fun u : gH => [] ++ hpW u) (fun r u => K r u)) {K : Nat → gH → Prop} (hret : ∀ (r : Nat) (H : gH) (pc : Nat) (ls : List (Nat × Value)), K r H → decode cL_sum pc = .ok (.areturn, 1) → Go D E A Q 5 bc0 bs0 ([] ++ hpW H) ls pc [.ref r]) : ∀ (cells slots : Nat) (H : gH) (bc : Nat) (bs : Nat) (x0 : Int32) (x1 : Int32) (x2 : Int32) (x3 : Nat) (x4 : Int32) (z0 : Nat), cells + bc ≤ bc0 → slots + bs ≤ bs0 → wL_sum_40 (wL_sum D.2 nr) K D.2 H bc bs x0 x1 x2 x3 x4 z0 → Go D E A Q 5 cells slots ([] ++ hpW H) [(0, .int x0), (1, .int x1), (2, .int x2), (3, .ref x3), (4, .int x4)] 40 [.ref z0] := by
  intro cells slots H bc bs x0 x1 x2 x3 x4 z0 hbc hbs h
  unfold wL_sum_40 at h
  refine q_iload C dL_sum_40 4 rfl ?_
  refine q_bipush C (v := 12) dL_sum_42 (by decide) ?_
  refine q_icmp_ge C 57 dL_sum_44 (by decide) h (fun h => ?_) (fun h => ?_)
  · refine q_bipush C (v := 7) dL_sum_57 (by decide) ?_
    refine q_iload C dL_sum_59 4 rfl ?_
    refine q_bipush C (v := 8) dL_sum_61 (by decide) ?_
    refine q_irem C dL_sum_63 (by decide) ?_
    refine q_iadd C dL_sum_64 ?_
    refine q_ls [(0, .int x0), (1, .int x1), (2, .int x2), (3, .ref x3)] [0, 1, 2, 3] rfl ?_
    exact bL_sum_65 C hrec  hret  cells slots _ _ _ _ _ _ _ _ _ (by omega) (by omega) h
  · refine q_iconst C (v := 1) dL_sum_47 (by decide) ?_
    refine q_iload C dL_sum_48 4 rfl ?_
    refine q_bipush C (v := 6) dL_sum_50 (by decide) ?_
    refine q_irem C dL_sum_52 (by decide) ?_
    refine q_iadd C dL_sum_53 ?_
    refine q_goto (tgt := 65) C dL_sum_54 (by decide) ?_
    refine q_ls [(0, .int x0), (1, .int x1), (2, .int x2), (3, .ref x3)] [0, 1, 2, 3] rfl ?_
    exact bL_sum_65 C hrec  hret  cells slots _ _ _ _ _ _ _ _ _ (by omega) (by omega) h
set_option maxRecDepth 100000 in
set_option maxHeartbeats 4000000 in
theorem bL_sum {D : gD} {E : gE} {A : Nat → Prop} {Q : State → Prop} {nr : Nat} {bc0 bs0 : Nat} (C : CL D E (rmL_sum (nr + 1) bc0 bs0) cL_sum 5 RL A) (hrec : ∀ (H : gH) (bc : Nat) (bs : Nat) (p0 : Int32) (p1 : Int32) (p2 : Int32) (K : Nat → gH → Prop), wL_sum D.2 nr H bc bs p0 p1 p2 K → CtQ E.2.1 D (gU (zY D.2)) yL_sum cL_sum 5 (.object "SofaDigLaw$Tree") (rmL_sum nr bc bs) [.int p0, .int p1, .int p2] ([] ++ hpW H) (fun u : gH => [] ++ hpW u) (fun r u => K r u)) {K : Nat → gH → Prop} (hret : ∀ (r : Nat) (H : gH) (pc : Nat) (ls : List (Nat × Value)), K r H → decode cL_sum pc = .ok (.areturn, 1) → Go D E A Q 5 bc0 bs0 ([] ++ hpW H) ls pc [.ref r]) (cells slots : Nat) (H : gH) (bc : Nat) (bs : Nat) (p0 : Int32) (p1 : Int32) (p2 : Int32) (hbc : cells + bc ≤ bc0) (hbs : slots + bs ≤ bs0) (h : wL_sum_E (wL_sum D.2 nr) D.2 H bc bs p0 p1 p2 K) : Go D E A Q 5 cells slots ([] ++ hpW H) [(0, .int p0), (1, .int p1), (2, .int p2)] 0 [] := by
  unfold wL_sum_E at h
  obtain ⟨b1, b2, h⟩ := h
  refine h_new C inX10g tyX10_ok cl_L_32 it_X10 ini_X10 (ci := 9) rfl (fs := [.int 0, .int 0, .null, .null]) (by decide) dL_sum_0 ⟨by show cells + 1 ≤ bc0; omega, by show slots + 4 ≤ bs0; omega⟩ (fun q1 g2 => ?_)
  replace h := h q1 g2
  refine q_dup C dL_sum_3 rfl ?_
  refine p_callINV C (fun _ h => h) [] (cX10_init_ok _ h) cd_X10_init ini_X10 (by decide +kernel) mn_L_34 im_X10_init rfl rfl ⟨by show 1 + 1 ≤ _ * (nr + 1 + 1); omega, by show 8 + (1 + 11) + 20 ≤ _ * (nr + 1 + 1); omega⟩ ⟨by show cells + 1 + 0 ≤ bc0; omega, by show slots + 4 + 0 ≤ bs0; omega⟩ List.perm_append_comm (fun H3 : gH => [] ++ hpW H3) (fun _ => List.perm_append_comm) (rest := [.ref q1]) rfl (Nat.le_of_ble_eq_true rfl) dL_sum_4 (fun H3 h => ?_)
  show Go D E A Q 5 (cells + 1) (slots + 4) ([] ++ hpW H3) [(0, .int p0), (1, .int p1), (2, .int p2)] 7 [.ref q1]
  refine q_astore_n C [(3, .ref q1), (0, .int p0), (1, .int p1), (2, .int p2)] dL_sum_7 (by decide) rfl ?_
  refine q_iload_n C dL_sum_8 1 rfl ?_
  refine q_bipush C (v := 20) dL_sum_9 (by decide) ?_
  refine p_callSI C (fun _ h => h) [] (cL_below_ok _ h) cf_L_35 st_L_below rfl ⟨by show 0 + 1 ≤ _ * (nr + 1 + 1); omega, by show 8 + (2 + 11) + 0 ≤ _ * (nr + 1 + 1); omega⟩ ⟨by show cells + 1 + 0 ≤ bc0; omega, by show slots + 4 + 0 ≤ bs0; omega⟩ List.perm_append_comm (fun _ : Unit => [] ++ hpW H3) (fun _ => List.perm_append_comm) (rest := []) rfl (Nat.le_of_ble_eq_true rfl) dL_sum_11 (fun r4 _ h => ?_)
  show Go D E A Q 5 (cells + 1) (slots + 4) ([] ++ hpW H3) [(3, .ref q1), (0, .int p0), (1, .int p1), (2, .int p2)] 14 [.int r4]
  refine q_istore C [(4, .int r4), (3, .ref q1), (0, .int p0), (1, .int p1), (2, .int p2)] dL_sum_14 (by decide) rfl ?_
  refine q_aload_n C dL_sum_16 1 rfl ?_
  refine q_iload C dL_sum_17 0 rfl ?_
  refine q_bipush C (v := 6) dL_sum_19 (by decide) ?_
  refine q_icmp_lt C 36 dL_sum_21 (by decide) h (fun h => ?_) (fun h => ?_)
  · refine q_ls [(0, .int p0), (1, .int p1), (2, .int p2), (3, .ref q1)] [2, 3, 4, 1] rfl ?_
    exact bL_sum_36 C hrec  hret  (cells + 1) (slots + 4) _ _ _ _ _ _ _ _ (by omega) (by omega) h
  · refine q_iload_n C dL_sum_24 4 rfl ?_
    refine q_iconst C (v := 1) dL_sum_25 (by decide) ?_
    refine q_icmp_le C 40 dL_sum_26 (by decide) h (fun h => ?_) (fun h => ?_)
    · refine q_ls [(0, .int p0), (1, .int p1), (2, .int p2), (3, .ref q1), (4, .int r4)] [2, 3, 4, 1, 0] rfl ?_
      exact bL_sum_40 C hrec  hret  (cells + 1) (slots + 4) _ _ _ _ _ _ _ _ _ (by omega) (by omega) h
    · refine q_iload C dL_sum_29 0 rfl ?_
      refine q_bipush C (v := 11) dL_sum_31 (by decide) ?_
      refine q_icmp_le C 40 dL_sum_33 (by decide) h (fun h => ?_) (fun h => ?_)
      · refine q_ls [(0, .int p0), (1, .int p1), (2, .int p2), (3, .ref q1), (4, .int r4)] [2, 3, 4, 1, 0] rfl ?_
        exact bL_sum_40 C hrec  hret  (cells + 1) (slots + 4) _ _ _ _ _ _ _ _ _ (by omega) (by omega) h
      · refine q_ls [(0, .int p0), (1, .int p1), (2, .int p2), (3, .ref q1)] [2, 3, 4, 1] rfl ?_
        exact bL_sum_36 C hrec  hret  (cells + 1) (slots + 4) _ _ _ _ _ _ _ _ (by omega) (by omega) h
theorem cL_sum_ok (l : Launch) {D : gD} : ∀ (d : Nat) (H : gH) (bc : Nat) (bs : Nat) (p0 : Int32) (p1 : Int32) (p2 : Int32) (K : Nat → gH → Prop), wL_sum D.2 d H bc bs p0 p1 p2 K → CtQ l D (gU (zY D.2)) yL_sum cL_sum 5 (.object "SofaDigLaw$Tree") (rmL_sum d bc bs) [.int p0, .int p1, .int p2] ([] ++ hpW H) (fun u : gH => [] ++ hpW u) (fun r u => K r u) := by
  intro d
  induction d with
  | zero =>
    intro H bc bs p0 p1 p2 K h
    exact h.elim
  | succ d ih =>
    intro H bc bs p0 p1 p2 K h
    exact ct_startQ (Or.inl ⟨_, rfl⟩) (by decide +kernel) (Nat.le_of_ble_eq_true rfl) (fun E A Q hE C hret => bL_sum C (by rw [hE]; exact ih) (fun r H pc ls hk hd => hret r H pc ls hk hd) 0 0 _ _ _ _ _ _ (by omega) (by omega) h)
abbrev rmL_test (d bc bs : Nat) : Room := { frames := 29 * (d + 1), cells := bc, slots := bs, locals := 394 * (d + 1) }
def wL_test_100 (rec : gH → Nat → Nat → Int32 → Int32 → Int32 → (Nat → gH → Prop) → Prop) (K : Nat → gH → Prop) (Z : gZ) (H : gH) (bc : Nat) (bs : Nat) (x0 : Int32) (x1 : Int32) (x2 : Int32) (x3 : Nat) (z0 : Int32) (z1 : Nat) : Prop :=
  ∃ f1 : List Value, hpG H z1 = some (.inr (9, f1)) ∧ 1 < f1.length ∧ (∃ y4 : Int32, gF (hpS H z1 (.inr (9, f1.set 1 (.int z0)))) x3 9 0 (.int y4) ∧ (((25 ≤ y4 → ∃ y6 : Int32, gF (hpS H z1 (.inr (9, f1.set 1 (.int z0)))) x3 9 0 (.int y6) ∧ (((¬ y6 = 26 → ∃ y8 : Int32, gF (hpS H z1 (.inr (9, f1.set 1 (.int z0)))) x3 9 0 (.int y8) ∧ (((y8 ≤ 28 → K x3 (hpS H z1 (.inr (9, f1.set 1 (.int z0))))) ∧ (¬ y8 ≤ 28 → ∃ (c10 s10 : Nat), c10 ≤ bc ∧ s10 ≤ bs ∧ rec (hpS H z1 (.inr (9, f1.set 1 (.int z0)))) c10 s10 ((x0 * 3) + 5) x1 (x2 + 1) (fun r10 H10 => ∃ f11 : List Value, hpG H10 x3 = some (.inr (9, f11)) ∧ 2 < f11.length ∧ (∃ y14 : Int32, gF (hpS H10 x3 (.inr (9, f11.set 2 (.ref r10)))) x3 9 0 (.int y14) ∧ (((y14 ≤ 29 → K x3 (hpS H10 x3 (.inr (9, f11.set 2 (.ref r10))))) ∧ (¬ y14 ≤ 29 → ∃ (c16 s16 : Nat), c16 ≤ (bc - c10) ∧ s16 ≤ (bs - s10) ∧ rec (hpS H10 x3 (.inr (9, f11.set 2 (.ref r10)))) c16 s16 ((x0 * 7) + 3) x1 (x2 + 1) (fun r16 H16 => ∃ f17 : List Value, hpG H16 x3 = some (.inr (9, f17)) ∧ 3 < f17.length ∧ (K x3 (hpS H16 x3 (.inr (9, f17.set 3 (.ref r16))))))))))))))) ∧ (y6 = 26 → ∃ d20 : Nat, d20 ≤ 8 ∧ ∃ (c20 s20 : Nat), c20 ≤ bc ∧ s20 ≤ bs ∧ wL_sum Z d20 (hpS H z1 (.inr (9, f1.set 1 (.int z0)))) c20 s20 ((x0 * 7) + 3) x1 2 (fun r20 H20 => ∃ f21 : List Value, hpG H20 x3 = some (.inr (9, f21)) ∧ 2 < f21.length ∧ (K x3 (hpS H20 x3 (.inr (9, f21.set 2 (.ref r20)))))))))) ∧ (¬ 25 ≤ y4 → ∃ d24 : Nat, d24 ≤ 8 ∧ ∃ (c24 s24 : Nat), c24 ≤ bc ∧ s24 ≤ bs ∧ wL_sum Z d24 (hpS H z1 (.inr (9, f1.set 1 (.int z0)))) c24 s24 ((x0 * 3) + 7) x1 (x2 + 1) (fun r24 H24 => ∃ f25 : List Value, hpG H24 x3 = some (.inr (9, f25)) ∧ 2 < f25.length ∧ (∃ d28 : Nat, d28 ≤ 8 ∧ ∃ (c28 s28 : Nat), c28 ≤ (bc - c24) ∧ s28 ≤ (bs - s24) ∧ wL_sum Z d28 (hpS H24 x3 (.inr (9, f25.set 2 (.ref r24)))) c28 s28 ((x0 * 5) + 1) x1 (x2 + 1) (fun r28 H28 => ∃ f29 : List Value, hpG H28 x3 = some (.inr (9, f29)) ∧ 3 < f29.length ∧ (K x3 (hpS H28 x3 (.inr (9, f29.set 3 (.ref r28))))))))))))
def wL_test_81 (rec : gH → Nat → Nat → Int32 → Int32 → Int32 → (Nat → gH → Prop) → Prop) (K : Nat → gH → Prop) (Z : gZ) (H : gH) (bc : Nat) (bs : Nat) (x0 : Int32) (x1 : Int32) (x2 : Int32) (x3 : Nat) (z0 : Int32) (z1 : Nat) : Prop :=
  ∃ f1 : List Value, hpG H z1 = some (.inr (9, f1)) ∧ 0 < f1.length ∧ (((¬ x1 = 0 → wL_below Z (hpS H z1 (.inr (9, f1.set 0 (.int z0)))) (x0 >>> (4 &&& 31)) x1 (fun r4 => wL_test_100 rec K Z (hpS H z1 (.inr (9, f1.set 0 (.int z0)))) bc bs x0 x1 x2 x3 r4 x3)) ∧ (x1 = 0 → wL_test_100 rec K Z (hpS H z1 (.inr (9, f1.set 0 (.int z0)))) bc bs x0 x1 x2 x3 0 x3)))
def wL_test_38 (rec : gH → Nat → Nat → Int32 → Int32 → Int32 → (Nat → gH → Prop) → Prop) (K : Nat → gH → Prop) (Z : gZ) (H : gH) (bc : Nat) (bs : Nat) (x0 : Int32) (x1 : Int32) (x2 : Int32) (x3 : Nat) (x4 : Int32) (z0 : Nat) : Prop :=
  wL_test_81 rec K Z H bc bs x0 x1 x2 x3 (20 + (x4 - x4 / 5 * 5)) z0
def wL_test_48 (rec : gH → Nat → Nat → Int32 → Int32 → Int32 → (Nat → gH → Prop) → Prop) (K : Nat → gH → Prop) (Z : gZ) (H : gH) (bc : Nat) (bs : Nat) (x0 : Int32) (x1 : Int32) (x2 : Int32) (x3 : Nat) (x4 : Int32) (z0 : Nat) : Prop :=
  ((11 ≤ x4 → wL_test_81 rec K Z H bc bs x0 x1 x2 x3 (29 + (x4 - x4 / 3 * 3)) z0) ∧ (¬ 11 ≤ x4 → ((¬ x1 = 0 → wL_test_81 rec K Z H bc bs x0 x1 x2 x3 (25 + (x4 - x4 / 2 * 2)) z0) ∧ (x1 = 0 → wL_test_81 rec K Z H bc bs x0 x1 x2 x3 26 z0))))
set_option maxRecDepth 100000 in
def wL_test_E (rec : gH → Nat → Nat → Int32 → Int32 → Int32 → (Nat → gH → Prop) → Prop) (Z : gZ) (H : gH) (bc : Nat) (bs : Nat) (p0 : Int32) (p1 : Int32) (p2 : Int32) (K : Nat → gH → Prop) : Prop :=
  1 ≤ bc ∧ 4 ≤ bs ∧ (∀ q1 : Nat, hpG H q1 = none → (wX10_init Z (hpN H q1 (.inr (9, [.int 0, .int 0, .null, .null]))) q1 (fun H3 => wL_below Z H3 (p0 >>> (1 &&& 31)) 14 (fun r4 => ((r4 < 6 → wL_test_38 rec K Z H3 (bc - 1) (bs - 4) p0 p1 p2 q1 r4 q1) ∧ (¬ r4 < 6 → ((p2 ≤ 1 → wL_test_48 rec K Z H3 (bc - 1) (bs - 4) p0 p1 p2 q1 r4 q1) ∧ (¬ p2 ≤ 1 → ((r4 ≤ 10 → wL_test_48 rec K Z H3 (bc - 1) (bs - 4) p0 p1 p2 q1 r4 q1) ∧ (¬ r4 ≤ 10 → wL_test_38 rec K Z H3 (bc - 1) (bs - 4) p0 p1 p2 q1 r4 q1))))))))))
def wL_test (Z : gZ) : Nat → gH → Nat → Nat → Int32 → Int32 → Int32 → (Nat → gH → Prop) → Prop
  | 0, _, _, _, _, _, _, _ => False
  | d + 1, H, bc, bs, p0, p1, p2, K => wL_test_E (wL_test Z d) Z H bc bs p0 p1 p2 K
set_option maxRecDepth 100000 in
set_option maxHeartbeats 4000000 in
theorem bL_test_100 {D : gD} {E : gE} {A : Nat → Prop} {Q : State → Prop} {nr : Nat} {bc0 bs0 : Nat} (C : CL D E (rmL_test (nr + 1) bc0 bs0) cL_test 5 RL A) (hrec : ∀ (H : gH) (bc : Nat) (bs : Nat) (p0 : Int32) (p1 : Int32) (p2 : Int32) (K : Nat → gH → Prop), wL_test D.2 nr H bc bs p0 p1 p2 K → CtQ E.2.1 D (gU (zY D.2)) yL_test cL_test 5 (.object "SofaDigLaw$Tree") (rmL_test nr bc bs) [.int p0, .int p1, .int p2] ([] ++ hpW H) (fun u : gH => [] ++ hpW u) (fun r u => K r u)) {K : Nat → gH → Prop} (hret : ∀ (r : Nat) (H : gH) (pc : Nat) (ls : List (Nat × Value)), K r H → decode cL_test pc = .ok (.areturn, 1) → Go D E A Q 5 bc0 bs0 ([] ++ hpW H) ls pc [.ref r]) : ∀ (cells slots : Nat) (H : gH) (bc : Nat) (bs : Nat) (x0 : Int32) (x1 : Int32) (x2 : Int32) (x3 : Nat) (z0 : Int32) (z1 : Nat), cells + bc ≤ bc0 → slots + bs ≤ bs0 → wL_test_100 (wL_test D.2 nr) K D.2 H bc bs x0 x1 x2 x3 z0 z1 → Go D E A Q 5 cells slots ([] ++ hpW H) [(0, .int x0), (1, .int x1), (2, .int x2), (3, .ref x3)] 100 [.int z0, .ref z1] := by
  intro cells slots H bc bs x0 x1 x2 x3 z0 z1 hbc hbs h
  unfold wL_test_100 at h
  obtain ⟨f1, e2, l3, h⟩ := h
  refine h_put C inX10g tyX10_ok nmX10 (ci := 9) rfl 1 (by decide) fl_L_46 rfl rfl (ty := .int) (by decide +kernel) e2 l3 rfl rfl dL_test_100 ?_
  refine q_aload_n C dL_test_103 3 rfl ?_
  obtain ⟨y4, e5, h⟩ := h
  refine h_get C inX10g (ci := 9) rfl 0 (by decide) fl_L_41 rfl e5 dL_test_104 ?_
  refine q_bipush C (v := 25) dL_test_107 (by decide) ?_
  refine q_icmp_ge C 148 dL_test_109 (by decide) h (fun h => ?_) (fun h => ?_)
  · refine q_aload_n C dL_test_148 3 rfl ?_
    obtain ⟨y6, e7, h⟩ := h
    refine h_get C inX10g (ci := 9) rfl 0 (by decide) fl_L_41 rfl e7 dL_test_149 ?_
    refine q_bipush C (v := 26) dL_test_152 (by decide) ?_
    refine q_icmp_ne C 175 dL_test_154 (by decide) h (fun h => ?_) (fun h => ?_)
    · refine q_aload_n C dL_test_175 3 rfl ?_
      obtain ⟨y8, e9, h⟩ := h
      refine h_get C inX10g (ci := 9) rfl 0 (by decide) fl_L_41 rfl e9 dL_test_176 ?_
      refine q_bipush C (v := 28) dL_test_179 (by decide) ?_
      refine q_icmp_le C 226 dL_test_181 (by decide) h (fun h => ?_) (fun h => ?_)
      · refine q_aload_n C dL_test_226 3 rfl ?_
        refine q_widen (k := bc0) (n := bs0) (by omega) (by omega) ?_
        exact hret x3 (hpS H z1 (.inr (9, f1.set 1 (.int z0)))) _ _ h dL_test_227
      · refine q_aload_n C dL_test_184 3 rfl ?_
        refine q_iload_n C dL_test_185 0 rfl ?_
        refine q_iconst C (v := 3) dL_test_186 (by decide) ?_
        refine q_imul C dL_test_187 ?_
        refine q_iconst C (v := 5) dL_test_188 (by decide) ?_
        refine q_iadd C dL_test_189 ?_
        refine q_iload_n C dL_test_190 1 rfl ?_
        refine q_iload_n C dL_test_191 2 rfl ?_
        refine q_iconst C (v := 1) dL_test_192 (by decide) ?_
        refine q_iadd C dL_test_193 ?_
        obtain ⟨c10, s10, hc10, hs10, h⟩ := h
        refine p_callSQ C (fun _ h => h) [] (hrec _ _ _ _ _ _ _ h) cf_L_60 st_L_test rfl ⟨by show _ * (nr + 1) + 1 ≤ _ * (nr + 1 + 1); omega, by show 8 + (5 + 11) + _ * (nr + 1) ≤ _ * (nr + 1 + 1); omega⟩ ⟨by show cells + c10 ≤ bc0; omega, by show slots + s10 ≤ bs0; omega⟩ List.perm_append_comm (fun H10 : gH => [] ++ hpW H10) (fun _ => List.perm_append_comm) (rest := [.ref x3]) rfl (Nat.le_of_ble_eq_true rfl) dL_test_194 (fun r10 H10 h => ?_)
        show Go D E A Q 5 (cells + c10) (slots + s10) ([] ++ hpW H10) [(0, .int x0), (1, .int x1), (2, .int x2), (3, .ref x3)] 197 [.ref r10, .ref x3]
        obtain ⟨f11, e12, l13, h⟩ := h
        refine h_put C inX10g tyX10_ok nmX10 (ci := 9) rfl 2 (by decide) fl_L_53 rfl rfl (ty := (.object "SofaDigLaw$Tree")) (by decide +kernel) e12 l13 rfl rfl dL_test_197 ?_
        refine q_aload_n C dL_test_200 3 rfl ?_
        obtain ⟨y14, e15, h⟩ := h
        refine h_get C inX10g (ci := 9) rfl 0 (by decide) fl_L_41 rfl e15 dL_test_201 ?_
        refine q_bipush C (v := 29) dL_test_204 (by decide) ?_
        refine q_icmp_le C 226 dL_test_206 (by decide) h (fun h => ?_) (fun h => ?_)
        · refine q_aload_n C dL_test_226 3 rfl ?_
          refine q_widen (k := bc0) (n := bs0) (by omega) (by omega) ?_
          exact hret x3 (hpS H10 x3 (.inr (9, f11.set 2 (.ref r10)))) _ _ h dL_test_227
        · refine q_aload_n C dL_test_209 3 rfl ?_
          refine q_iload_n C dL_test_210 0 rfl ?_
          refine q_bipush C (v := 7) dL_test_211 (by decide) ?_
          refine q_imul C dL_test_213 ?_
          refine q_iconst C (v := 3) dL_test_214 (by decide) ?_
          refine q_iadd C dL_test_215 ?_
          refine q_iload_n C dL_test_216 1 rfl ?_
          refine q_iload_n C dL_test_217 2 rfl ?_
          refine q_iconst C (v := 1) dL_test_218 (by decide) ?_
          refine q_iadd C dL_test_219 ?_
          obtain ⟨c16, s16, hc16, hs16, h⟩ := h
          refine p_callSQ C (fun _ h => h) [] (hrec _ _ _ _ _ _ _ h) cf_L_60 st_L_test rfl ⟨by show _ * (nr + 1) + 1 ≤ _ * (nr + 1 + 1); omega, by show 8 + (5 + 11) + _ * (nr + 1) ≤ _ * (nr + 1 + 1); omega⟩ ⟨by show cells + c10 + c16 ≤ bc0; omega, by show slots + s10 + s16 ≤ bs0; omega⟩ List.perm_append_comm (fun H16 : gH => [] ++ hpW H16) (fun _ => List.perm_append_comm) (rest := [.ref x3]) rfl (Nat.le_of_ble_eq_true rfl) dL_test_220 (fun r16 H16 h => ?_)
          show Go D E A Q 5 (cells + c10 + c16) (slots + s10 + s16) ([] ++ hpW H16) [(0, .int x0), (1, .int x1), (2, .int x2), (3, .ref x3)] 223 [.ref r16, .ref x3]
          obtain ⟨f17, e18, l19, h⟩ := h
          refine h_put C inX10g tyX10_ok nmX10 (ci := 9) rfl 3 (by decide) fl_L_57 rfl rfl (ty := (.object "SofaDigLaw$Tree")) (by decide +kernel) e18 l19 rfl rfl dL_test_223 ?_
          refine q_aload_n C dL_test_226 3 rfl ?_
          refine q_widen (k := bc0) (n := bs0) (by omega) (by omega) ?_
          exact hret x3 (hpS H16 x3 (.inr (9, f17.set 3 (.ref r16)))) _ _ h dL_test_227
    · refine q_aload_n C dL_test_157 3 rfl ?_
      refine q_iload_n C dL_test_158 0 rfl ?_
      refine q_bipush C (v := 7) dL_test_159 (by decide) ?_
      refine q_imul C dL_test_161 ?_
      refine q_iconst C (v := 3) dL_test_162 (by decide) ?_
      refine q_iadd C dL_test_163 ?_
      refine q_iload_n C dL_test_164 1 rfl ?_
      refine q_iconst C (v := 2) dL_test_165 (by decide) ?_
      obtain ⟨d20, hd20, c20, s20, hc20, hs20, h⟩ := h
      refine p_callSQ C (fun _ h => h) [] (cL_sum_ok _ d20 _ _ _ _ _ _ _ h) cf_L_49 st_L_sum rfl ⟨Nat.le_trans (by show _ * (d20 + 1) + 1 ≤ 28; omega) (by show 28 ≤ _ * (nr + 1 + 1); omega), Nat.le_trans (by show 8 + (5 + 11) + _ * (d20 + 1) ≤ 393; omega) (by show 393 ≤ _ * (nr + 1 + 1); omega)⟩ ⟨by show cells + c20 ≤ bc0; omega, by show slots + s20 ≤ bs0; omega⟩ List.perm_append_comm (fun H20 : gH => [] ++ hpW H20) (fun _ => List.perm_append_comm) (rest := [.ref x3]) rfl (Nat.le_of_ble_eq_true rfl) dL_test_166 (fun r20 H20 h => ?_)
      show Go D E A Q 5 (cells + c20) (slots + s20) ([] ++ hpW H20) [(0, .int x0), (1, .int x1), (2, .int x2), (3, .ref x3)] 169 [.ref r20, .ref x3]
      obtain ⟨f21, e22, l23, h⟩ := h
      refine h_put C inX10g tyX10_ok nmX10 (ci := 9) rfl 2 (by decide) fl_L_53 rfl rfl (ty := (.object "SofaDigLaw$Tree")) (by decide +kernel) e22 l23 rfl rfl dL_test_169 ?_
      refine q_goto (tgt := 226) C dL_test_172 (by decide) ?_
      refine q_aload_n C dL_test_226 3 rfl ?_
      refine q_widen (k := bc0) (n := bs0) (by omega) (by omega) ?_
      exact hret x3 (hpS H20 x3 (.inr (9, f21.set 2 (.ref r20)))) _ _ h dL_test_227
  · refine q_aload_n C dL_test_112 3 rfl ?_
    refine q_iload_n C dL_test_113 0 rfl ?_
    refine q_iconst C (v := 3) dL_test_114 (by decide) ?_
    refine q_imul C dL_test_115 ?_
    refine q_bipush C (v := 7) dL_test_116 (by decide) ?_
    refine q_iadd C dL_test_118 ?_
    refine q_iload_n C dL_test_119 1 rfl ?_
    refine q_iload_n C dL_test_120 2 rfl ?_
    refine q_iconst C (v := 1) dL_test_121 (by decide) ?_
    refine q_iadd C dL_test_122 ?_
    obtain ⟨d24, hd24, c24, s24, hc24, hs24, h⟩ := h
    refine p_callSQ C (fun _ h => h) [] (cL_sum_ok _ d24 _ _ _ _ _ _ _ h) cf_L_49 st_L_sum rfl ⟨Nat.le_trans (by show _ * (d24 + 1) + 1 ≤ 28; omega) (by show 28 ≤ _ * (nr + 1 + 1); omega), Nat.le_trans (by show 8 + (5 + 11) + _ * (d24 + 1) ≤ 393; omega) (by show 393 ≤ _ * (nr + 1 + 1); omega)⟩ ⟨by show cells + c24 ≤ bc0; omega, by show slots + s24 ≤ bs0; omega⟩ List.perm_append_comm (fun H24 : gH => [] ++ hpW H24) (fun _ => List.perm_append_comm) (rest := [.ref x3]) rfl (Nat.le_of_ble_eq_true rfl) dL_test_123 (fun r24 H24 h => ?_)
    show Go D E A Q 5 (cells + c24) (slots + s24) ([] ++ hpW H24) [(0, .int x0), (1, .int x1), (2, .int x2), (3, .ref x3)] 126 [.ref r24, .ref x3]
    obtain ⟨f25, e26, l27, h⟩ := h
    refine h_put C inX10g tyX10_ok nmX10 (ci := 9) rfl 2 (by decide) fl_L_53 rfl rfl (ty := (.object "SofaDigLaw$Tree")) (by decide +kernel) e26 l27 rfl rfl dL_test_126 ?_
    refine q_aload_n C dL_test_129 3 rfl ?_
    refine q_iload_n C dL_test_130 0 rfl ?_
    refine q_iconst C (v := 5) dL_test_131 (by decide) ?_
    refine q_imul C dL_test_132 ?_
    refine q_iconst C (v := 1) dL_test_133 (by decide) ?_
    refine q_iadd C dL_test_134 ?_
    refine q_iload_n C dL_test_135 1 rfl ?_
    refine q_iload_n C dL_test_136 2 rfl ?_
    refine q_iconst C (v := 1) dL_test_137 (by decide) ?_
    refine q_iadd C dL_test_138 ?_
    obtain ⟨d28, hd28, c28, s28, hc28, hs28, h⟩ := h
    refine p_callSQ C (fun _ h => h) [] (cL_sum_ok _ d28 _ _ _ _ _ _ _ h) cf_L_49 st_L_sum rfl ⟨Nat.le_trans (by show _ * (d28 + 1) + 1 ≤ 28; omega) (by show 28 ≤ _ * (nr + 1 + 1); omega), Nat.le_trans (by show 8 + (5 + 11) + _ * (d28 + 1) ≤ 393; omega) (by show 393 ≤ _ * (nr + 1 + 1); omega)⟩ ⟨by show cells + c24 + c28 ≤ bc0; omega, by show slots + s24 + s28 ≤ bs0; omega⟩ List.perm_append_comm (fun H28 : gH => [] ++ hpW H28) (fun _ => List.perm_append_comm) (rest := [.ref x3]) rfl (Nat.le_of_ble_eq_true rfl) dL_test_139 (fun r28 H28 h => ?_)
    show Go D E A Q 5 (cells + c24 + c28) (slots + s24 + s28) ([] ++ hpW H28) [(0, .int x0), (1, .int x1), (2, .int x2), (3, .ref x3)] 142 [.ref r28, .ref x3]
    obtain ⟨f29, e30, l31, h⟩ := h
    refine h_put C inX10g tyX10_ok nmX10 (ci := 9) rfl 3 (by decide) fl_L_57 rfl rfl (ty := (.object "SofaDigLaw$Tree")) (by decide +kernel) e30 l31 rfl rfl dL_test_142 ?_
    refine q_goto (tgt := 226) C dL_test_145 (by decide) ?_
    refine q_aload_n C dL_test_226 3 rfl ?_
    refine q_widen (k := bc0) (n := bs0) (by omega) (by omega) ?_
    exact hret x3 (hpS H28 x3 (.inr (9, f29.set 3 (.ref r28)))) _ _ h dL_test_227
set_option maxRecDepth 100000 in
set_option maxHeartbeats 4000000 in
theorem bL_test_81 {D : gD} {E : gE} {A : Nat → Prop} {Q : State → Prop} {nr : Nat} {bc0 bs0 : Nat} (C : CL D E (rmL_test (nr + 1) bc0 bs0) cL_test 5 RL A) (hrec : ∀ (H : gH) (bc : Nat) (bs : Nat) (p0 : Int32) (p1 : Int32) (p2 : Int32) (K : Nat → gH → Prop), wL_test D.2 nr H bc bs p0 p1 p2 K → CtQ E.2.1 D (gU (zY D.2)) yL_test cL_test 5 (.object "SofaDigLaw$Tree") (rmL_test nr bc bs) [.int p0, .int p1, .int p2] ([] ++ hpW H) (fun u : gH => [] ++ hpW u) (fun r u => K r u)) {K : Nat → gH → Prop} (hret : ∀ (r : Nat) (H : gH) (pc : Nat) (ls : List (Nat × Value)), K r H → decode cL_test pc = .ok (.areturn, 1) → Go D E A Q 5 bc0 bs0 ([] ++ hpW H) ls pc [.ref r]) : ∀ (cells slots : Nat) (H : gH) (bc : Nat) (bs : Nat) (x0 : Int32) (x1 : Int32) (x2 : Int32) (x3 : Nat) (z0 : Int32) (z1 : Nat), cells + bc ≤ bc0 → slots + bs ≤ bs0 → wL_test_81 (wL_test D.2 nr) K D.2 H bc bs x0 x1 x2 x3 z0 z1 → Go D E A Q 5 cells slots ([] ++ hpW H) [(0, .int x0), (1, .int x1), (2, .int x2), (3, .ref x3)] 81 [.int z0, .ref z1] := by
  intro cells slots H bc bs x0 x1 x2 x3 z0 z1 hbc hbs h
  unfold wL_test_81 at h
  obtain ⟨f1, e2, l3, h⟩ := h
  refine h_put C inX10g tyX10_ok nmX10 (ci := 9) rfl 0 (by decide) fl_L_41 rfl rfl (ty := .int) (by decide +kernel) e2 l3 rfl rfl dL_test_81 ?_
  refine q_aload_n C dL_test_84 3 rfl ?_
  refine q_iload_n C dL_test_85 1 rfl ?_
  refine q_if_ne C 93 dL_test_86 (by decide) h (fun h => ?_) (fun h => ?_)
  · refine q_iload_n C dL_test_93 0 rfl ?_
    refine q_iconst C (v := 4) dL_test_94 (by decide) ?_
    refine q_ishr C dL_test_95 ?_
    refine q_iload_n C dL_test_96 1 rfl ?_
    refine p_callSI C (fun _ h => h) [] (cL_below_ok _ h) cf_L_35 st_L_below rfl ⟨by show 0 + 1 ≤ _ * (nr + 1 + 1); omega, by show 8 + (2 + 11) + 0 ≤ _ * (nr + 1 + 1); omega⟩ ⟨by show cells + 0 ≤ bc0; omega, by show slots + 0 ≤ bs0; omega⟩ List.perm_append_comm (fun _ : Unit => [] ++ hpW (hpS H z1 (.inr (9, f1.set 0 (.int z0))))) (fun _ => List.perm_append_comm) (rest := [.ref x3]) rfl (Nat.le_of_ble_eq_true rfl) dL_test_97 (fun r4 _ h => ?_)
    show Go D E A Q 5 cells slots ([] ++ hpW (hpS H z1 (.inr (9, f1.set 0 (.int z0))))) [(0, .int x0), (1, .int x1), (2, .int x2), (3, .ref x3)] 100 [.int r4, .ref x3]
    exact bL_test_100 C hrec  hret  cells slots _ _ _ _ _ _ _ _ _ (by omega) (by omega) h
  · refine q_iconst C (v := 0) dL_test_89 (by decide) ?_
    refine q_goto (tgt := 100) C dL_test_90 (by decide) ?_
    exact bL_test_100 C hrec  hret  cells slots _ _ _ _ _ _ _ _ _ (by omega) (by omega) h
set_option maxRecDepth 100000 in
set_option maxHeartbeats 4000000 in
theorem bL_test_38 {D : gD} {E : gE} {A : Nat → Prop} {Q : State → Prop} {nr : Nat} {bc0 bs0 : Nat} (C : CL D E (rmL_test (nr + 1) bc0 bs0) cL_test 5 RL A) (hrec : ∀ (H : gH) (bc : Nat) (bs : Nat) (p0 : Int32) (p1 : Int32) (p2 : Int32) (K : Nat → gH → Prop), wL_test D.2 nr H bc bs p0 p1 p2 K → CtQ E.2.1 D (gU (zY D.2)) yL_test cL_test 5 (.object "SofaDigLaw$Tree") (rmL_test nr bc bs) [.int p0, .int p1, .int p2] ([] ++ hpW H) (fun u : gH => [] ++ hpW u) (fun r u => K r u)) {K : Nat → gH → Prop} (hret : ∀ (r : Nat) (H : gH) (pc : Nat) (ls : List (Nat × Value)), K r H → decode cL_test pc = .ok (.areturn, 1) → Go D E A Q 5 bc0 bs0 ([] ++ hpW H) ls pc [.ref r]) : ∀ (cells slots : Nat) (H : gH) (bc : Nat) (bs : Nat) (x0 : Int32) (x1 : Int32) (x2 : Int32) (x3 : Nat) (x4 : Int32) (z0 : Nat), cells + bc ≤ bc0 → slots + bs ≤ bs0 → wL_test_38 (wL_test D.2 nr) K D.2 H bc bs x0 x1 x2 x3 x4 z0 → Go D E A Q 5 cells slots ([] ++ hpW H) [(0, .int x0), (1, .int x1), (2, .int x2), (3, .ref x3), (4, .int x4)] 38 [.ref z0] := by
  intro cells slots H bc bs x0 x1 x2 x3 x4 z0 hbc hbs h
  unfold wL_test_38 at h
  refine q_bipush C (v := 20) dL_test_38 (by decide) ?_
  refine q_iload C dL_test_40 4 rfl ?_
  refine q_iconst C (v := 5) dL_test_42 (by decide) ?_
  refine q_irem C dL_test_43 (by decide) ?_
  refine q_iadd C dL_test_44 ?_
  refine q_goto (tgt := 81) C dL_test_45 (by decide) ?_
  refine q_ls [(0, .int x0), (1, .int x1), (2, .int x2), (3, .ref x3)] [0, 1, 2, 3] rfl ?_
  exact bL_test_81 C hrec  hret  cells slots _ _ _ _ _ _ _ _ _ (by omega) (by omega) h
set_option maxRecDepth 100000 in
set_option maxHeartbeats 4000000 in
theorem bL_test_48 {D : gD} {E : gE} {A : Nat → Prop} {Q : State → Prop} {nr : Nat} {bc0 bs0 : Nat} (C : CL D E (rmL_test (nr + 1) bc0 bs0) cL_test 5 RL A) (hrec : ∀ (H : gH) (bc : Nat) (bs : Nat) (p0 : Int32) (p1 : Int32) (p2 : Int32) (K : Nat → gH → Prop), wL_test D.2 nr H bc bs p0 p1 p2 K → CtQ E.2.1 D (gU (zY D.2)) yL_test cL_test 5 (.object "SofaDigLaw$Tree") (rmL_test nr bc bs) [.int p0, .int p1, .int p2] ([] ++ hpW H) (fun u : gH => [] ++ hpW u) (fun r u => K r u)) {K : Nat → gH → Prop} (hret : ∀ (r : Nat) (H : gH) (pc : Nat) (ls : List (Nat × Value)), K r H → decode cL_test pc = .ok (.areturn, 1) → Go D E A Q 5 bc0 bs0 ([] ++ hpW H) ls pc [.ref r]) : ∀ (cells slots : Nat) (H : gH) (bc : Nat) (bs : Nat) (x0 : Int32) (x1 : Int32) (x2 : Int32) (x3 : Nat) (x4 : Int32) (z0 : Nat), cells + bc ≤ bc0 → slots + bs ≤ bs0 → wL_test_48 (wL_test D.2 nr) K D.2 H bc bs x0 x1 x2 x3 x4 z0 → Go D E A Q 5 cells slots ([] ++ hpW H) [(0, .int x0), (1, .int x1), (2, .int x2), (3, .ref x3), (4, .int x4)] 48 [.ref z0] := by
  intro cells slots H bc bs x0 x1 x2 x3 x4 z0 hbc hbs h
  unfold wL_test_48 at h
  refine q_iload C dL_test_48 4 rfl ?_
  refine q_bipush C (v := 11) dL_test_50 (by decide) ?_
  refine q_icmp_ge C 74 dL_test_52 (by decide) h (fun h => ?_) (fun h => ?_)
  · refine q_bipush C (v := 29) dL_test_74 (by decide) ?_
    refine q_iload C dL_test_76 4 rfl ?_
    refine q_iconst C (v := 3) dL_test_78 (by decide) ?_
    refine q_irem C dL_test_79 (by decide) ?_
    refine q_iadd C dL_test_80 ?_
    refine q_ls [(0, .int x0), (1, .int x1), (2, .int x2), (3, .ref x3)] [0, 1, 2, 3] rfl ?_
    exact bL_test_81 C hrec  hret  cells slots _ _ _ _ _ _ _ _ _ (by omega) (by omega) h
  · refine q_iload_n C dL_test_55 1 rfl ?_
    refine q_if_ne C 64 dL_test_56 (by decide) h (fun h => ?_) (fun h => ?_)
    · refine q_bipush C (v := 25) dL_test_64 (by decide) ?_
      refine q_iload C dL_test_66 4 rfl ?_
      refine q_iconst C (v := 2) dL_test_68 (by decide) ?_
      refine q_irem C dL_test_69 (by decide) ?_
      refine q_iadd C dL_test_70 ?_
      refine q_goto (tgt := 81) C dL_test_71 (by decide) ?_
      refine q_ls [(0, .int x0), (1, .int x1), (2, .int x2), (3, .ref x3)] [0, 1, 2, 3] rfl ?_
      exact bL_test_81 C hrec  hret  cells slots _ _ _ _ _ _ _ _ _ (by omega) (by omega) h
    · refine q_bipush C (v := 26) dL_test_59 (by decide) ?_
      refine q_goto (tgt := 81) C dL_test_61 (by decide) ?_
      refine q_ls [(0, .int x0), (1, .int x1), (2, .int x2), (3, .ref x3)] [0, 1, 2, 3] rfl ?_
      exact bL_test_81 C hrec  hret  cells slots _ _ _ _ _ _ _ _ _ (by omega) (by omega) h
set_option maxRecDepth 100000 in
set_option maxHeartbeats 4000000 in
theorem bL_test {D : gD} {E : gE} {A : Nat → Prop} {Q : State → Prop} {nr : Nat} {bc0 bs0 : Nat} (C : CL D E (rmL_test (nr + 1) bc0 bs0) cL_test 5 RL A) (hrec : ∀ (H : gH) (bc : Nat) (bs : Nat) (p0 : Int32) (p1 : Int32) (p2 : Int32) (K : Nat → gH → Prop), wL_test D.2 nr H bc bs p0 p1 p2 K → CtQ E.2.1 D (gU (zY D.2)) yL_test cL_test 5 (.object "SofaDigLaw$Tree") (rmL_test nr bc bs) [.int p0, .int p1, .int p2] ([] ++ hpW H) (fun u : gH => [] ++ hpW u) (fun r u => K r u)) {K : Nat → gH → Prop} (hret : ∀ (r : Nat) (H : gH) (pc : Nat) (ls : List (Nat × Value)), K r H → decode cL_test pc = .ok (.areturn, 1) → Go D E A Q 5 bc0 bs0 ([] ++ hpW H) ls pc [.ref r]) (cells slots : Nat) (H : gH) (bc : Nat) (bs : Nat) (p0 : Int32) (p1 : Int32) (p2 : Int32) (hbc : cells + bc ≤ bc0) (hbs : slots + bs ≤ bs0) (h : wL_test_E (wL_test D.2 nr) D.2 H bc bs p0 p1 p2 K) : Go D E A Q 5 cells slots ([] ++ hpW H) [(0, .int p0), (1, .int p1), (2, .int p2)] 0 [] := by
  unfold wL_test_E at h
  obtain ⟨b1, b2, h⟩ := h
  refine h_new C inX10g tyX10_ok cl_L_32 it_X10 ini_X10 (ci := 9) rfl (fs := [.int 0, .int 0, .null, .null]) (by decide) dL_test_0 ⟨by show cells + 1 ≤ bc0; omega, by show slots + 4 ≤ bs0; omega⟩ (fun q1 g2 => ?_)
  replace h := h q1 g2
  refine q_dup C dL_test_3 rfl ?_
  refine p_callINV C (fun _ h => h) [] (cX10_init_ok _ h) cd_X10_init ini_X10 (by decide +kernel) mn_L_34 im_X10_init rfl rfl ⟨by show 1 + 1 ≤ _ * (nr + 1 + 1); omega, by show 8 + (1 + 11) + 20 ≤ _ * (nr + 1 + 1); omega⟩ ⟨by show cells + 1 + 0 ≤ bc0; omega, by show slots + 4 + 0 ≤ bs0; omega⟩ List.perm_append_comm (fun H3 : gH => [] ++ hpW H3) (fun _ => List.perm_append_comm) (rest := [.ref q1]) rfl (Nat.le_of_ble_eq_true rfl) dL_test_4 (fun H3 h => ?_)
  show Go D E A Q 5 (cells + 1) (slots + 4) ([] ++ hpW H3) [(0, .int p0), (1, .int p1), (2, .int p2)] 7 [.ref q1]
  refine q_astore_n C [(3, .ref q1), (0, .int p0), (1, .int p1), (2, .int p2)] dL_test_7 (by decide) rfl ?_
  refine q_iload_n C dL_test_8 1 rfl ?_
  refine q_iconst C (v := 1) dL_test_9 (by decide) ?_
  refine q_ishr C dL_test_10 ?_
  refine q_bipush C (v := 14) dL_test_11 (by decide) ?_
  refine p_callSI C (fun _ h => h) [] (cL_below_ok _ h) cf_L_35 st_L_below rfl ⟨by show 0 + 1 ≤ _ * (nr + 1 + 1); omega, by show 8 + (2 + 11) + 0 ≤ _ * (nr + 1 + 1); omega⟩ ⟨by show cells + 1 + 0 ≤ bc0; omega, by show slots + 4 + 0 ≤ bs0; omega⟩ List.perm_append_comm (fun _ : Unit => [] ++ hpW H3) (fun _ => List.perm_append_comm) (rest := []) rfl (Nat.le_of_ble_eq_true rfl) dL_test_13 (fun r4 _ h => ?_)
  show Go D E A Q 5 (cells + 1) (slots + 4) ([] ++ hpW H3) [(3, .ref q1), (0, .int p0), (1, .int p1), (2, .int p2)] 16 [.int r4]
  refine q_istore C [(4, .int r4), (3, .ref q1), (0, .int p0), (1, .int p1), (2, .int p2)] dL_test_16 (by decide) rfl ?_
  refine q_aload_n C dL_test_18 1 rfl ?_
  refine q_iload C dL_test_19 0 rfl ?_
  refine q_bipush C (v := 6) dL_test_21 (by decide) ?_
  refine q_icmp_lt C 38 dL_test_23 (by decide) h (fun h => ?_) (fun h => ?_)
  · refine q_ls [(0, .int p0), (1, .int p1), (2, .int p2), (3, .ref q1), (4, .int r4)] [2, 3, 4, 1, 0] rfl ?_
    exact bL_test_38 C hrec  hret  (cells + 1) (slots + 4) _ _ _ _ _ _ _ _ _ (by omega) (by omega) h
  · refine q_iload_n C dL_test_26 4 rfl ?_
    refine q_iconst C (v := 1) dL_test_27 (by decide) ?_
    refine q_icmp_le C 48 dL_test_28 (by decide) h (fun h => ?_) (fun h => ?_)
    · refine q_ls [(0, .int p0), (1, .int p1), (2, .int p2), (3, .ref q1), (4, .int r4)] [2, 3, 4, 1, 0] rfl ?_
      exact bL_test_48 C hrec  hret  (cells + 1) (slots + 4) _ _ _ _ _ _ _ _ _ (by omega) (by omega) h
    · refine q_iload C dL_test_31 0 rfl ?_
      refine q_bipush C (v := 10) dL_test_33 (by decide) ?_
      refine q_icmp_le C 48 dL_test_35 (by decide) h (fun h => ?_) (fun h => ?_)
      · refine q_ls [(0, .int p0), (1, .int p1), (2, .int p2), (3, .ref q1), (4, .int r4)] [2, 3, 4, 1, 0] rfl ?_
        exact bL_test_48 C hrec  hret  (cells + 1) (slots + 4) _ _ _ _ _ _ _ _ _ (by omega) (by omega) h
      · refine q_ls [(0, .int p0), (1, .int p1), (2, .int p2), (3, .ref q1), (4, .int r4)] [2, 3, 4, 1, 0] rfl ?_
        exact bL_test_38 C hrec  hret  (cells + 1) (slots + 4) _ _ _ _ _ _ _ _ _ (by omega) (by omega) h
theorem cL_test_ok (l : Launch) {D : gD} : ∀ (d : Nat) (H : gH) (bc : Nat) (bs : Nat) (p0 : Int32) (p1 : Int32) (p2 : Int32) (K : Nat → gH → Prop), wL_test D.2 d H bc bs p0 p1 p2 K → CtQ l D (gU (zY D.2)) yL_test cL_test 5 (.object "SofaDigLaw$Tree") (rmL_test d bc bs) [.int p0, .int p1, .int p2] ([] ++ hpW H) (fun u : gH => [] ++ hpW u) (fun r u => K r u) := by
  intro d
  induction d with
  | zero =>
    intro H bc bs p0 p1 p2 K h
    exact h.elim
  | succ d ih =>
    intro H bc bs p0 p1 p2 K h
    exact ct_startQ (Or.inl ⟨_, rfl⟩) (by decide +kernel) (Nat.le_of_ble_eq_true rfl) (fun E A Q hE C hret => bL_test C (by rw [hE]; exact ih) (fun r H pc ls hk hd => hret r H pc ls hk hd) 0 0 _ _ _ _ _ _ (by omega) (by omega) h)
