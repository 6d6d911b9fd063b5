abbrev rmX10_of (d : Nat) : Room := { frames := 2 * (d + 1), cells := 0, slots := 0, locals := 27 * (d + 1) }
def wX10_of_E (rec : gH → Nat → Nat → (Int32 → gH → Prop) → Prop) (Z : gZ) (H : gH) (p : Nat) (p0 : Nat) (K : Int32 → gH → Prop) : Prop :=
  ∃ y1 : Int32, gF H p 9 0 (.int y1) ∧ (((y1 = 0 → ∃ y3 : Int32, gF H p 9 1 (.int y3) ∧ (K y3 H)) ∧ (y1 = 1 → ∃ y5 : Int32, gF H p0 8 8 (.int y5) ∧ (K y5 H)) ∧ (y1 = 2 → (∃ fs, hpG H p0 = some (.inr (8, fs))) ∧ wX9_found Z H p0 1 (fun r7 => K r7 H)) ∧ (y1 = 3 → ∃ y8 : Int32, gF H p0 8 11 (.int y8) ∧ (K y8 H)) ∧ (y1 = 4 → (∃ fs, hpG H p0 = some (.inr (8, fs))) ∧ wX9_props Z H p0 (fun r10 => K r10 H)) ∧ (y1 = 5 → ∃ y11 : Nat, gF H p0 8 3 (.ref y11) ∧ (∃ y13 : Int32, gF H p 9 1 (.int y13) ∧ (∃ (n15 : Nat) (f16 : Nat → Option Nat) (y19 : Nat), hpG H y11 = some (qE (zY Z 4) n15 f16) ∧ vp_in y13 n15 ∧ f16 y13.toNatClampNeg = some y19 ∧ (∃ (n21 : Nat) (f22 : Nat → Int32), hpG H y19 = some (iE (zY Z 1) n21 f22) ∧ vp_in 0 n21 ∧ (K (f22 (0 : Int32).toNatClampNeg) H))))) ∧ (y1 = 6 → ∃ y25 : Nat, gF H p0 8 3 (.ref y25) ∧ (∃ y27 : Int32, gF H p 9 1 (.int y27) ∧ (∃ (n29 : Nat) (f30 : Nat → Option Nat) (y33 : Nat), hpG H y25 = some (qE (zY Z 4) n29 f30) ∧ vp_in y27 n29 ∧ f30 y27.toNatClampNeg = some y33 ∧ (∃ (n35 : Nat) (f36 : Nat → Int32), hpG H y33 = some (iE (zY Z 1) n35 f36) ∧ vp_in 1 n35 ∧ (K (f36 (1 : Int32).toNatClampNeg) H))))) ∧ (y1 = 7 → ∃ y39 : Nat, gF H p0 8 1 (.ref y39) ∧ (∃ y41 : Nat, gF H p 9 2 (.ref y41) ∧ ((∃ fs, hpG H y41 = some (.inr (9, fs))) ∧ rec H y41 p0 (fun r43 H43 => (∃ fs, hpG H43 p0 = some (.inr (8, fs))) ∧ wX9_seat Z H43 p0 r43 (fun r44 => ∃ (n45 : Nat) (f46 : Nat → Option Nat) (y49 : Nat), hpG H43 y39 = some (qE (zY Z 5) n45 f46) ∧ vp_in r44 n45 ∧ f46 r44.toNatClampNeg = some y49 ∧ (∃ (n51 : Nat) (f52 : Nat → Option Nat), hpG H43 y49 = some (qE (zY Z 4) n51 f52) ∧ (K (nI n51) H43))))))) ∧ (y1 = 8 → ∃ y54 : Nat, gF H p 9 2 (.ref y54) ∧ ((∃ fs, hpG H y54 = some (.inr (9, fs))) ∧ rec H y54 p0 (fun r56 H56 => K (-r56) H56))) ∧ (y1 = 25 → ∃ y57 : Int32, gF H p 9 1 (.int y57) ∧ ((∃ fs, hpG H p0 = some (.inr (8, fs))) ∧ wX9_isSeen Z H p0 y57 (fun r59 => ((r59 = 0 → K 0 H) ∧ (¬ r59 = 0 → K 1 H))))) ∧ (y1 = 26 → ∃ y60 : Nat, gF H p 9 2 (.ref y60) ∧ ((∃ fs, hpG H y60 = some (.inr (9, fs))) ∧ rec H y60 p0 (fun r62 H62 => (∃ fs, hpG H62 p0 = some (.inr (8, fs))) ∧ wX9_isSure Z H62 p0 r62 (fun r63 => ((r63 = 0 → K 0 H62) ∧ (¬ r63 = 0 → K 1 H62)))))) ∧ (y1 = 29 → ∃ y64 : Nat, gF H p 9 2 (.ref y64) ∧ ((∃ fs, hpG H y64 = some (.inr (9, fs))) ∧ rec H y64 p0 (fun r66 H66 => K (1 - r66) H66))) ∧ (¬ y1 = 0 → ¬ y1 = 1 → ¬ y1 = 2 → ¬ y1 = 3 → ¬ y1 = 4 → ¬ y1 = 5 → ¬ y1 = 6 → ¬ y1 = 7 → ¬ y1 = 8 → ¬ y1 = 25 → ¬ y1 = 26 → ¬ y1 = 29 → ∃ y67 : Nat, gF H p 9 2 (.ref y67) ∧ ((∃ fs, hpG H y67 = some (.inr (9, fs))) ∧ rec H y67 p0 (fun r69 H69 => ∃ y70 : Nat, gF H69 p 9 3 (.ref y70) ∧ ((∃ fs, hpG H69 y70 = some (.inr (9, fs))) ∧ rec H69 y70 p0 (fun r72 H72 => (∃ fs, hpG H72 p = some (.inr (9, fs))) ∧ wX10_ofTwo Z H72 p r69 r72 (fun r73 => K r73 H72))))))))
def wX10_of (Z : gZ) : Nat → gH → Nat → Nat → (Int32 → gH → Prop) → Prop
  | 0, _, _, _, _ => False
  | d + 1, H, p, p0, K => wX10_of_E (wX10_of Z d) Z H p p0 K
set_option maxRecDepth 100000 in
set_option maxHeartbeats 4000000 in
theorem bX10_of {D : gD} {E : gE} {A : Nat → Prop} {Q : State → Prop} {nr : Nat} (C : CL D E (rmX10_of (nr + 1)) cX10_of 2 RX10 A) (hrec : ∀ (H : gH) (p : Nat) (p0 : Nat) (K : Int32 → gH → Prop), wX10_of D.2 nr H p p0 K → CtI E.2.1 D (gU (zY D.2)) yX10_of cX10_of 2 .int (rmX10_of nr) [.ref p, .ref p0] ([] ++ hpW H) (fun u : gH => [] ++ hpW u) (fun r u => K r u)) {K : Int32 → gH → Prop} (hret : ∀ (r : Int32) (H : gH) (pc : Nat) (ls : List (Nat × Value)), K r H → decode cX10_of pc = .ok (.ireturn, 1) → Go D E A Q 2 0 0 ([] ++ hpW H) ls pc [.int r]) (H : gH) (p : Nat) (p0 : Nat) (h : wX10_of_E (wX10_of D.2 nr) D.2 H p p0 K) : Go D E A Q 2 0 0 ([] ++ hpW H) [(0, .ref p), (1, .ref p0)] 0 [] := by
  unfold wX10_of_E at h
  refine q_aload_n C dX10_of_0 0 rfl ?_
  obtain ⟨y1, e2, h⟩ := h
  refine h_get C inX10g (ci := 9) rfl 0 (by decide) fl_X10_7 rfl e2 dX10_of_1 ?_
  by_cases hq : y1 = 0
  · replace h := h.1 hq
    refine q_tableK C 0 140 hq dX10_of_4 (by decide) (by decide) rfl (by decide) ?_
    refine q_aload_n C dX10_of_140 0 rfl ?_
    obtain ⟨y3, e4, h⟩ := h
    refine h_get C inX10g (ci := 9) rfl 1 (by decide) fl_X10_13 rfl e4 dX10_of_141 ?_
    exact hret y3 H _ _ h dX10_of_144
  · have hn0 := hq
    by_cases hq : y1 = 1
    · replace h := h.2.1 hq
      refine q_tableK C 1 145 hq dX10_of_4 (by decide) (by decide) rfl (by decide) ?_
      refine q_aload_n C dX10_of_145 1 rfl ?_
      obtain ⟨y5, e6, h⟩ := h
      refine h_get C inX9g (ci := 8) rfl 8 (by decide) fl_X10_16 rfl e6 dX10_of_146 ?_
      exact hret y5 H _ _ h dX10_of_149
    · have hn1 := hq
      by_cases hq : y1 = 2
      · replace h := h.2.2.1 hq
        refine q_tableK C 2 150 hq dX10_of_4 (by decide) (by decide) rfl (by decide) ?_
        refine q_aload_n C dX10_of_150 1 rfl ?_
        refine q_iconst C (v := 1) dX10_of_151 (by decide) ?_
        obtain ⟨⟨fs9, hr9⟩, h⟩ := h
        refine p_callVI C (fun _ h => h) [] (cX9_found_ok _ h) cf_X10_21 im_X9_found se_X9_found (hRv_h (q := (RX9, TX9, 12)) hr9 rfl) rfl ⟨by show 0 + 1 ≤ _ * (nr + 1 + 1); omega, by show 8 + (7 + 11) + 0 ≤ _ * (nr + 1 + 1); omega⟩ ⟨Nat.le_refl _, Nat.le_refl _⟩ List.perm_append_comm (fun _ : Unit => [] ++ hpW H) (fun _ => List.perm_append_comm) (rest := []) rfl (Nat.le_of_ble_eq_true rfl) dX10_of_152 (fun r7 _ h => ?_)
        show Go D E A Q 2 0 0 ([] ++ hpW H) [(0, .ref p), (1, .ref p0)] 155 [.int r7]
        exact hret r7 H _ _ h dX10_of_155
      · have hn2 := hq
        by_cases hq : y1 = 3
        · replace h := h.2.2.2.1 hq
          refine q_tableK C 3 156 hq dX10_of_4 (by decide) (by decide) rfl (by decide) ?_
          refine q_aload_n C dX10_of_156 1 rfl ?_
          obtain ⟨y8, e9, h⟩ := h
          refine h_get C inX9g (ci := 8) rfl 11 (by decide) fl_X10_25 rfl e9 dX10_of_157 ?_
          exact hret y8 H _ _ h dX10_of_160
        · have hn3 := hq
          by_cases hq : y1 = 4
          · replace h := h.2.2.2.2.1 hq
            refine q_tableK C 4 161 hq dX10_of_4 (by decide) (by decide) rfl (by decide) ?_
            refine q_aload_n C dX10_of_161 1 rfl ?_
            obtain ⟨⟨fs9, hr9⟩, h⟩ := h
            refine p_callVI C (fun _ h => h) [] (cX9_props_ok _ h) cf_X10_28 im_X9_props se_X9_props (hRv_h (q := (RX9, TX9, 12)) hr9 rfl) rfl ⟨by show 0 + 1 ≤ _ * (nr + 1 + 1); omega, by show 8 + (6 + 11) + 0 ≤ _ * (nr + 1 + 1); omega⟩ ⟨Nat.le_refl _, Nat.le_refl _⟩ List.perm_append_comm (fun _ : Unit => [] ++ hpW H) (fun _ => List.perm_append_comm) (rest := []) rfl (Nat.le_of_ble_eq_true rfl) dX10_of_162 (fun r10 _ h => ?_)
            show Go D E A Q 2 0 0 ([] ++ hpW H) [(0, .ref p), (1, .ref p0)] 165 [.int r10]
            exact hret r10 H _ _ h dX10_of_165
          · have hn4 := hq
            by_cases hq : y1 = 5
            · replace h := h.2.2.2.2.2.1 hq
              refine q_tableK C 5 166 hq dX10_of_4 (by decide) (by decide) rfl (by decide) ?_
              refine q_aload_n C dX10_of_166 1 rfl ?_
              obtain ⟨y11, e12, h⟩ := h
              refine h_get C inX9g (ci := 8) rfl 3 (by decide) fl_X10_32 rfl e12 dX10_of_167 ?_
              refine q_aload_n C dX10_of_170 0 rfl ?_
              obtain ⟨y13, e14, h⟩ := h
              refine h_get C inX10g (ci := 9) rfl 1 (by decide) fl_X10_13 rfl e14 dX10_of_171 ?_
              obtain ⟨n15, f16, y19, e17, i18, g20, h⟩ := h
              refine h_aldR C 4 rfl rfl e17 i18 g20 dX10_of_174 ?_
              refine q_iconst C (v := 0) dX10_of_175 (by decide) ?_
              obtain ⟨n21, f22, e23, i24, h⟩ := h
              refine h_iald C e23 i24 dX10_of_176 ?_
              exact hret (f22 (0 : Int32).toNatClampNeg) H _ _ h dX10_of_177
            · have hn5 := hq
              by_cases hq : y1 = 6
              · replace h := h.2.2.2.2.2.2.1 hq
                refine q_tableK C 6 178 hq dX10_of_4 (by decide) (by decide) rfl (by decide) ?_
                refine q_aload_n C dX10_of_178 1 rfl ?_
                obtain ⟨y25, e26, h⟩ := h
                refine h_get C inX9g (ci := 8) rfl 3 (by decide) fl_X10_32 rfl e26 dX10_of_179 ?_
                refine q_aload_n C dX10_of_182 0 rfl ?_
                obtain ⟨y27, e28, h⟩ := h
                refine h_get C inX10g (ci := 9) rfl 1 (by decide) fl_X10_13 rfl e28 dX10_of_183 ?_
                obtain ⟨n29, f30, y33, e31, i32, g34, h⟩ := h
                refine h_aldR C 4 rfl rfl e31 i32 g34 dX10_of_186 ?_
                refine q_iconst C (v := 1) dX10_of_187 (by decide) ?_
                obtain ⟨n35, f36, e37, i38, h⟩ := h
                refine h_iald C e37 i38 dX10_of_188 ?_
                exact hret (f36 (1 : Int32).toNatClampNeg) H _ _ h dX10_of_189
              · have hn6 := hq
                by_cases hq : y1 = 7
                · replace h := h.2.2.2.2.2.2.2.1 hq
                  refine q_tableK C 7 190 hq dX10_of_4 (by decide) (by decide) rfl (by decide) ?_
                  refine q_aload_n C dX10_of_190 1 rfl ?_
                  obtain ⟨y39, e40, h⟩ := h
                  refine h_get C inX9g (ci := 8) rfl 1 (by decide) fl_X10_36 rfl e40 dX10_of_191 ?_
                  refine q_aload_n C dX10_of_194 1 rfl ?_
                  refine q_aload_n C dX10_of_195 0 rfl ?_
                  obtain ⟨y41, e42, h⟩ := h
                  refine h_get C inX10g (ci := 9) rfl 2 (by decide) fl_X10_40 rfl e42 dX10_of_196 ?_
                  refine q_aload_n C dX10_of_199 1 rfl ?_
                  obtain ⟨⟨fs9, hr9⟩, h⟩ := h
                  refine p_callVI C (fun _ h => h) [] (hrec _ _ _ _ h) cf_X10_44 im_X10_of se_X10_of (hRv_h (q := (RX10, TX10, 4)) hr9 rfl) rfl ⟨by show _ * (nr + 1) + 1 ≤ _ * (nr + 1 + 1); omega, by show 8 + (2 + 11) + _ * (nr + 1) ≤ _ * (nr + 1 + 1); omega⟩ ⟨Nat.le_refl _, Nat.le_refl _⟩ List.perm_append_comm (fun H43 : gH => [] ++ hpW H43) (fun _ => List.perm_append_comm) (rest := [.ref p0, .ref y39]) rfl (Nat.le_of_ble_eq_true rfl) dX10_of_200 (fun r43 H43 h => ?_)
                  show Go D E A Q 2 0 0 ([] ++ hpW H43) [(0, .ref p), (1, .ref p0)] 203 [.int r43, .ref p0, .ref y39]
                  obtain ⟨⟨fs9, hr9⟩, h⟩ := h
                  refine p_callVI C (fun _ h => h) [] (cX9_seat_ok _ h) cf_X10_48 im_X9_seat se_X9_seat (hRv_h (q := (RX9, TX9, 12)) hr9 rfl) rfl ⟨by show 0 + 1 ≤ _ * (nr + 1 + 1); omega, by show 8 + (2 + 11) + 0 ≤ _ * (nr + 1 + 1); omega⟩ ⟨Nat.le_refl _, Nat.le_refl _⟩ List.perm_append_comm (fun _ : Unit => [] ++ hpW H43) (fun _ => List.perm_append_comm) (rest := [.ref y39]) rfl (Nat.le_of_ble_eq_true rfl) dX10_of_203 (fun r44 _ h => ?_)
                  show Go D E A Q 2 0 0 ([] ++ hpW H43) [(0, .ref p), (1, .ref p0)] 206 [.int r44, .ref y39]
                  obtain ⟨n45, f46, y49, e47, i48, g50, h⟩ := h
                  refine h_aldR C 5 rfl rfl e47 i48 g50 dX10_of_206 ?_
                  obtain ⟨n51, f52, e53, h⟩ := h
                  refine h_alen C 4 rfl e53 dX10_of_207 ?_
                  exact hret (nI n51) H43 _ _ h dX10_of_208
                · have hn7 := hq
                  by_cases hq : y1 = 8
                  · replace h := h.2.2.2.2.2.2.2.2.1 hq
                    refine q_tableK C 8 209 hq dX10_of_4 (by decide) (by decide) rfl (by decide) ?_
                    refine q_aload_n C dX10_of_209 0 rfl ?_
                    obtain ⟨y54, e55, h⟩ := h
                    refine h_get C inX10g (ci := 9) rfl 2 (by decide) fl_X10_40 rfl e55 dX10_of_210 ?_
                    refine q_aload_n C dX10_of_213 1 rfl ?_
                    obtain ⟨⟨fs9, hr9⟩, h⟩ := h
                    refine p_callVI C (fun _ h => h) [] (hrec _ _ _ _ h) cf_X10_44 im_X10_of se_X10_of (hRv_h (q := (RX10, TX10, 4)) hr9 rfl) rfl ⟨by show _ * (nr + 1) + 1 ≤ _ * (nr + 1 + 1); omega, by show 8 + (2 + 11) + _ * (nr + 1) ≤ _ * (nr + 1 + 1); omega⟩ ⟨Nat.le_refl _, Nat.le_refl _⟩ List.perm_append_comm (fun H56 : gH => [] ++ hpW H56) (fun _ => List.perm_append_comm) (rest := []) rfl (Nat.le_of_ble_eq_true rfl) dX10_of_214 (fun r56 H56 h => ?_)
                    show Go D E A Q 2 0 0 ([] ++ hpW H56) [(0, .ref p), (1, .ref p0)] 217 [.int r56]
                    refine q_ineg C dX10_of_217 ?_
                    exact hret (-r56) H56 _ _ h dX10_of_218
                  · have hn8 := hq
                    by_cases hq : y1 = 25
                    · replace h := h.2.2.2.2.2.2.2.2.2.1 hq
                      refine q_tableK C 25 219 hq dX10_of_4 (by decide) (by decide) rfl (by decide) ?_
                      refine q_aload_n C dX10_of_219 1 rfl ?_
                      refine q_aload_n C dX10_of_220 0 rfl ?_
                      obtain ⟨y57, e58, h⟩ := h
                      refine h_get C inX10g (ci := 9) rfl 1 (by decide) fl_X10_13 rfl e58 dX10_of_221 ?_
                      obtain ⟨⟨fs9, hr9⟩, h⟩ := h
                      refine p_callVI C (fun _ h => h) [] (cX9_isSeen_ok _ h) cf_X10_51 im_X9_isSeen se_X9_isSeen (hRv_h (q := (RX9, TX9, 12)) hr9 rfl) rfl ⟨by show 0 + 1 ≤ _ * (nr + 1 + 1); omega, by show 8 + (6 + 11) + 0 ≤ _ * (nr + 1 + 1); omega⟩ ⟨Nat.le_refl _, Nat.le_refl _⟩ List.perm_append_comm (fun _ : Unit => [] ++ hpW H) (fun _ => List.perm_append_comm) (rest := []) rfl (Nat.le_of_ble_eq_true rfl) dX10_of_224 (fun r59 _ h => ?_)
                      show Go D E A Q 2 0 0 ([] ++ hpW H) [(0, .ref p), (1, .ref p0)] 227 [.int r59]
                      refine q_if_eq C 234 dX10_of_227 (by decide) h (fun h => ?_) (fun h => ?_)
                      · refine q_iconst C (v := 0) dX10_of_234 (by decide) ?_
                        exact hret 0 H _ _ h dX10_of_235
                      · refine q_iconst C (v := 1) dX10_of_230 (by decide) ?_
                        refine q_goto (tgt := 235) C dX10_of_231 (by decide) ?_
                        exact hret 1 H _ _ h dX10_of_235
                    · have hn9 := hq
                      by_cases hq : y1 = 26
                      · replace h := h.2.2.2.2.2.2.2.2.2.2.1 hq
                        refine q_tableK C 26 236 hq dX10_of_4 (by decide) (by decide) rfl (by decide) ?_
                        refine q_aload_n C dX10_of_236 1 rfl ?_
                        refine q_aload_n C dX10_of_237 0 rfl ?_
                        obtain ⟨y60, e61, h⟩ := h
                        refine h_get C inX10g (ci := 9) rfl 2 (by decide) fl_X10_40 rfl e61 dX10_of_238 ?_
                        refine q_aload_n C dX10_of_241 1 rfl ?_
                        obtain ⟨⟨fs9, hr9⟩, h⟩ := h
                        refine p_callVI C (fun _ h => h) [] (hrec _ _ _ _ h) cf_X10_44 im_X10_of se_X10_of (hRv_h (q := (RX10, TX10, 4)) hr9 rfl) rfl ⟨by show _ * (nr + 1) + 1 ≤ _ * (nr + 1 + 1); omega, by show 8 + (2 + 11) + _ * (nr + 1) ≤ _ * (nr + 1 + 1); omega⟩ ⟨Nat.le_refl _, Nat.le_refl _⟩ List.perm_append_comm (fun H62 : gH => [] ++ hpW H62) (fun _ => List.perm_append_comm) (rest := [.ref p0]) rfl (Nat.le_of_ble_eq_true rfl) dX10_of_242 (fun r62 H62 h => ?_)
                        show Go D E A Q 2 0 0 ([] ++ hpW H62) [(0, .ref p), (1, .ref p0)] 245 [.int r62, .ref p0]
                        obtain ⟨⟨fs9, hr9⟩, h⟩ := h
                        refine p_callVI C (fun _ h => h) [] (cX9_isSure_ok _ h) cf_X10_55 im_X9_isSure se_X9_isSure (hRv_h (q := (RX9, TX9, 12)) hr9 rfl) rfl ⟨by show 0 + 1 ≤ _ * (nr + 1 + 1); omega, by show 8 + (2 + 11) + 0 ≤ _ * (nr + 1 + 1); omega⟩ ⟨Nat.le_refl _, Nat.le_refl _⟩ List.perm_append_comm (fun _ : Unit => [] ++ hpW H62) (fun _ => List.perm_append_comm) (rest := []) rfl (Nat.le_of_ble_eq_true rfl) dX10_of_245 (fun r63 _ h => ?_)
                        show Go D E A Q 2 0 0 ([] ++ hpW H62) [(0, .ref p), (1, .ref p0)] 248 [.int r63]
                        refine q_if_eq C 255 dX10_of_248 (by decide) h (fun h => ?_) (fun h => ?_)
                        · refine q_iconst C (v := 0) dX10_of_255 (by decide) ?_
                          exact hret 0 H62 _ _ h dX10_of_256
                        · refine q_iconst C (v := 1) dX10_of_251 (by decide) ?_
                          refine q_goto (tgt := 256) C dX10_of_252 (by decide) ?_
                          exact hret 1 H62 _ _ h dX10_of_256
                      · have hn10 := hq
                        by_cases hq : y1 = 29
                        · replace h := h.2.2.2.2.2.2.2.2.2.2.2.1 hq
                          refine q_tableK C 29 257 hq dX10_of_4 (by decide) (by decide) rfl (by decide) ?_
                          refine q_iconst C (v := 1) dX10_of_257 (by decide) ?_
                          refine q_aload_n C dX10_of_258 0 rfl ?_
                          obtain ⟨y64, e65, h⟩ := h
                          refine h_get C inX10g (ci := 9) rfl 2 (by decide) fl_X10_40 rfl e65 dX10_of_259 ?_
                          refine q_aload_n C dX10_of_262 1 rfl ?_
                          obtain ⟨⟨fs9, hr9⟩, h⟩ := h
                          refine p_callVI C (fun _ h => h) [] (hrec _ _ _ _ h) cf_X10_44 im_X10_of se_X10_of (hRv_h (q := (RX10, TX10, 4)) hr9 rfl) rfl ⟨by show _ * (nr + 1) + 1 ≤ _ * (nr + 1 + 1); omega, by show 8 + (2 + 11) + _ * (nr + 1) ≤ _ * (nr + 1 + 1); omega⟩ ⟨Nat.le_refl _, Nat.le_refl _⟩ List.perm_append_comm (fun H66 : gH => [] ++ hpW H66) (fun _ => List.perm_append_comm) (rest := [.int 1]) rfl (Nat.le_of_ble_eq_true rfl) dX10_of_263 (fun r66 H66 h => ?_)
                          show Go D E A Q 2 0 0 ([] ++ hpW H66) [(0, .ref p), (1, .ref p0)] 266 [.int r66, .int 1]
                          refine q_isub C dX10_of_266 ?_
                          exact hret (1 - r66) H66 _ _ h dX10_of_267
                        · have hn11 := hq
                          replace h := h.2.2.2.2.2.2.2.2.2.2.2.2 hn0 hn1 hn2 hn3 hn4 hn5 hn6 hn7 hn8 hn9 hn10 hn11
                          refine q_tableD C [0, 1, 2, 3, 4, 5, 6, 7, 8, 25, 26, 29] 268 (sw_cons (sw_ne hn0 (by decide)) (sw_cons (sw_ne hn1 (by decide)) (sw_cons (sw_ne hn2 (by decide)) (sw_cons (sw_ne hn3 (by decide)) (sw_cons (sw_ne hn4 (by decide)) (sw_cons (sw_ne hn5 (by decide)) (sw_cons (sw_ne hn6 (by decide)) (sw_cons (sw_ne hn7 (by decide)) (sw_cons (sw_ne hn8 (by decide)) (sw_cons (sw_ne hn9 (by decide)) (sw_cons (sw_ne hn10 (by decide)) (sw_cons (sw_ne hn11 (by decide)) sw_nil)))))))))))) dX10_of_4 (by decide) (by decide) ?_
                          refine q_aload_n C dX10_of_268 0 rfl ?_
                          refine q_aload_n C dX10_of_269 0 rfl ?_
                          obtain ⟨y67, e68, h⟩ := h
                          refine h_get C inX10g (ci := 9) rfl 2 (by decide) fl_X10_40 rfl e68 dX10_of_270 ?_
                          refine q_aload_n C dX10_of_273 1 rfl ?_
                          obtain ⟨⟨fs9, hr9⟩, h⟩ := h
                          refine p_callVI C (fun _ h => h) [] (hrec _ _ _ _ h) cf_X10_44 im_X10_of se_X10_of (hRv_h (q := (RX10, TX10, 4)) hr9 rfl) rfl ⟨by show _ * (nr + 1) + 1 ≤ _ * (nr + 1 + 1); omega, by show 8 + (2 + 11) + _ * (nr + 1) ≤ _ * (nr + 1 + 1); omega⟩ ⟨Nat.le_refl _, Nat.le_refl _⟩ List.perm_append_comm (fun H69 : gH => [] ++ hpW H69) (fun _ => List.perm_append_comm) (rest := [.ref p]) rfl (Nat.le_of_ble_eq_true rfl) dX10_of_274 (fun r69 H69 h => ?_)
                          show Go D E A Q 2 0 0 ([] ++ hpW H69) [(0, .ref p), (1, .ref p0)] 277 [.int r69, .ref p]
                          refine q_aload_n C dX10_of_277 0 rfl ?_
                          obtain ⟨y70, e71, h⟩ := h
                          refine h_get C inX10g (ci := 9) rfl 3 (by decide) fl_X10_58 rfl e71 dX10_of_278 ?_
                          refine q_aload_n C dX10_of_281 1 rfl ?_
                          obtain ⟨⟨fs9, hr9⟩, h⟩ := h
                          refine p_callVI C (fun _ h => h) [] (hrec _ _ _ _ h) cf_X10_44 im_X10_of se_X10_of (hRv_h (q := (RX10, TX10, 4)) hr9 rfl) rfl ⟨by show _ * (nr + 1) + 1 ≤ _ * (nr + 1 + 1); omega, by show 8 + (2 + 11) + _ * (nr + 1) ≤ _ * (nr + 1 + 1); omega⟩ ⟨Nat.le_refl _, Nat.le_refl _⟩ List.perm_append_comm (fun H72 : gH => [] ++ hpW H72) (fun _ => List.perm_append_comm) (rest := [.int r69, .ref p]) rfl (Nat.le_of_ble_eq_true rfl) dX10_of_282 (fun r72 H72 h => ?_)
                          show Go D E A Q 2 0 0 ([] ++ hpW H72) [(0, .ref p), (1, .ref p0)] 285 [.int r72, .int r69, .ref p]
                          obtain ⟨⟨fs9, hr9⟩, h⟩ := h
                          refine p_callVI C (fun _ h => h) [] (cX10_ofTwo_ok _ h) cf_X10_61 im_X10_ofTwo se_X10_ofTwo (hRv_h (q := (RX10, TX10, 4)) hr9 rfl) rfl ⟨by show 0 + 1 ≤ _ * (nr + 1 + 1); omega, by show 8 + (3 + 11) + 0 ≤ _ * (nr + 1 + 1); omega⟩ ⟨Nat.le_refl _, Nat.le_refl _⟩ List.perm_append_comm (fun _ : Unit => [] ++ hpW H72) (fun _ => List.perm_append_comm) (rest := []) rfl (Nat.le_of_ble_eq_true rfl) dX10_of_285 (fun r73 _ h => ?_)
                          show Go D E A Q 2 0 0 ([] ++ hpW H72) [(0, .ref p), (1, .ref p0)] 288 [.int r73]
                          exact hret r73 H72 _ _ h dX10_of_288
theorem cX10_of_ok (l : Launch) {D : gD} : ∀ (d : Nat) (H : gH) (p : Nat) (p0 : Nat) (K : Int32 → gH → Prop), wX10_of D.2 d H p p0 K → CtI l D (gU (zY D.2)) yX10_of cX10_of 2 .int (rmX10_of d) [.ref p, .ref p0] ([] ++ hpW H) (fun u : gH => [] ++ hpW u) (fun r u => K r u) := by
  intro d
  induction d with
  | zero =>
    intro H p p0 K h
    exact h.elim
  | succ d ih =>
    intro H p p0 K h
    exact ct_startI (by decide +kernel) (Nat.le_of_ble_eq_true rfl) (fun E A Q hE C hret => bX10_of C (by rw [hE]; exact ih) (fun r H pc ls hk hd => hret r H pc ls rfl hk hd) _ _ _ h)
abbrev rmX9_pass (bc bs : Nat) : Room := { frames := 19, cells := bc, slots := bs, locals := 264 }
def wX9_pass_200 (K : Int32 → gH → Prop) (KL8 : gH → Nat → Nat → Nat → Int32 → Int32 → Prop) (Z : gZ) (H : gH) (bc : Nat) (bs : Nat) (x0 : Nat) (x1 : Int32) (x2 : Int32) : Prop :=
  KL8 H bc bs x0 x1 (x2 + 1)
set_option maxRecDepth 100000 in
set_option maxHeartbeats 4000000 in
theorem bX9_pass_200 {D : gD} {E : gE} {A : Nat → Prop} {Q : State → Prop} {bc0 bs0 : Nat} (C : CL D E (rmX9_pass bc0 bs0) cX9_pass 5 RX9 A) {K : Int32 → gH → Prop} (hret : ∀ (r : Int32) (H : gH) (pc : Nat) (ls : List (Nat × Value)), K r H → decode cX9_pass pc = .ok (.ireturn, 1) → Go D E A Q 5 bc0 bs0 ([] ++ hpW H) ls pc [.int r]) {KL8 : gH → Nat → Nat → Nat → Int32 → Int32 → Prop} (hKL8 : ∀ (cells slots : Nat) (H : gH) (bc : Nat) (bs : Nat) (x0 : Nat) (x1 : Int32) (x2 : Int32), cells + bc ≤ bc0 → slots + bs ≤ bs0 → KL8 H bc bs x0 x1 x2 → Go D E A Q 5 cells slots ([] ++ hpW H) [(0, .ref x0), (1, .int x1), (2, .int x2)] 8 []) : ∀ (cells slots : Nat) (H : gH) (bc : Nat) (bs : Nat) (x0 : Nat) (x1 : Int32) (x2 : Int32), cells + bc ≤ bc0 → slots + bs ≤ bs0 → wX9_pass_200 K KL8 D.2 H bc bs x0 x1 x2 → Go D E A Q 5 cells slots ([] ++ hpW H) [(0, .ref x0), (1, .int x1), (2, .int x2)] 200 [] := by
  intro cells slots H bc bs x0 x1 x2 hbc hbs h
  unfold wX9_pass_200 at h
  refine q_iinc C (v := x2 + 1) [(2, .int (x2 + 1)), (0, .ref x0), (1, .int x1)] dX9_pass_200 2 rfl rfl (by decide) rfl ?_
  refine q_goto (tgt := 8) C dX9_pass_203 (by decide) ?_
  refine q_ls [(0, .ref x0), (1, .int x1), (2, .int (x2 + 1))] [1, 2, 0] rfl ?_
  exact hKL8 cells slots _ _ _ _ _ _ (by omega) (by omega) h
def wX9_pass_185 (K : Int32 → gH → Prop) (KL8 : gH → Nat → Nat → Nat → Int32 → Int32 → Prop) (Z : gZ) (H : gH) (bc : Nat) (bs : Nat) (x0 : Nat) (x1 : Int32) (x2 : Int32) : Prop :=
  ∃ y1 : Nat, gF H x0 8 5 (.ref y1) ∧ (∃ (n3 : Nat) (f4 : Nat → Int32), hpG H y1 = some (iE (zY Z 1) n3 f4) ∧ vp_in x2 n3 ∧ (((¬ f4 x2.toNatClampNeg = 2 → wX9_pass_200 K KL8 Z H bc bs x0 x1 x2) ∧ (f4 x2.toNatClampNeg = 2 → (∃ fs, hpG H x0 = some (.inr (8, fs))) ∧ ∃ (c7 s7 : Nat), c7 ≤ bc ∧ s7 ≤ bs ∧ wX9_settle Z H c7 s7 x0 (fun r7 H7 => wX9_pass_200 K KL8 Z H7 (bc - c7) (bs - s7) x0 x1 x2)))))
set_option maxRecDepth 100000 in
set_option maxHeartbeats 4000000 in
theorem bX9_pass_185 {D : gD} {E : gE} {A : Nat → Prop} {Q : State → Prop} {bc0 bs0 : Nat} (C : CL D E (rmX9_pass bc0 bs0) cX9_pass 5 RX9 A) {K : Int32 → gH → Prop} (hret : ∀ (r : Int32) (H : gH) (pc : Nat) (ls : List (Nat × Value)), K r H → decode cX9_pass pc = .ok (.ireturn, 1) → Go D E A Q 5 bc0 bs0 ([] ++ hpW H) ls pc [.int r]) {KL8 : gH → Nat → Nat → Nat → Int32 → Int32 → Prop} (hKL8 : ∀ (cells slots : Nat) (H : gH) (bc : Nat) (bs : Nat) (x0 : Nat) (x1 : Int32) (x2 : Int32), cells + bc ≤ bc0 → slots + bs ≤ bs0 → KL8 H bc bs x0 x1 x2 → Go D E A Q 5 cells slots ([] ++ hpW H) [(0, .ref x0), (1, .int x1), (2, .int x2)] 8 []) : ∀ (cells slots : Nat) (H : gH) (bc : Nat) (bs : Nat) (x0 : Nat) (x1 : Int32) (x2 : Int32), cells + bc ≤ bc0 → slots + bs ≤ bs0 → wX9_pass_185 K KL8 D.2 H bc bs x0 x1 x2 → Go D E A Q 5 cells slots ([] ++ hpW H) [(0, .ref x0), (1, .int x1), (2, .int x2)] 185 [] := by
  intro cells slots H bc bs x0 x1 x2 hbc hbs h
  unfold wX9_pass_185 at h
  refine q_aload_n C dX9_pass_185 0 rfl ?_
  obtain ⟨y1, e2, h⟩ := h
  refine h_get C inX9g (ci := 8) rfl 5 (by decide) fl_X9_31 rfl e2 dX9_pass_186 ?_
  refine q_iload_n C dX9_pass_189 2 rfl ?_
  obtain ⟨n3, f4, e5, i6, h⟩ := h
  refine h_iald C e5 i6 dX9_pass_190 ?_
  refine q_iconst C (v := 2) dX9_pass_191 (by decide) ?_
  refine q_icmp_ne C 200 dX9_pass_192 (by decide) h (fun h => ?_) (fun h => ?_)
  · exact bX9_pass_200 C (KL8 := KL8) hret hKL8 cells slots _ _ _ _ _ _ (by omega) (by omega) h
  · refine q_aload_n C dX9_pass_195 0 rfl ?_
    obtain ⟨⟨fs9, hr9⟩, h⟩ := h
    obtain ⟨c7, s7, hc7, hs7, h⟩ := h
    refine p_callVI C (fun _ h => h) [] (cX9_settle_ok _ h) cf_X9_72 im_X9_settle se_X9_settle (hRv_h (q := (RX9, TX9, 12)) hr9 rfl) rfl ⟨Nat.le_of_ble_eq_true rfl, Nat.le_of_ble_eq_true rfl⟩ ⟨by show cells + c7 ≤ bc0; omega, by show slots + s7 ≤ bs0; omega⟩ List.perm_append_comm (fun H7 : gH => [] ++ hpW H7) (fun _ => List.perm_append_comm) (rest := []) rfl (Nat.le_of_ble_eq_true rfl) dX9_pass_196 (fun r7 H7 h => ?_)
    show Go D E A Q 5 (cells + c7) (slots + s7) ([] ++ hpW H7) [(0, .ref x0), (1, .int x1), (2, .int x2)] 199 [.int r7]
    refine q_pop C dX9_pass_199 rfl ?_
    exact bX9_pass_200 C (KL8 := KL8) hret hKL8 (cells + c7) (slots + s7) _ _ _ _ _ _ (by omega) (by omega) h
def wX9_pass_184 (K : Int32 → gH → Prop) (KL8 : gH → Nat → Nat → Nat → Int32 → Int32 → Prop) (Z : gZ) (H : gH) (bc : Nat) (bs : Nat) (x0 : Nat) (x1 : Int32) (x2 : Int32) (z0 : Int32) (z1 : Int32) (z2 : Nat) : Prop :=
  ∃ (n1 : Nat) (f2 : Nat → Int32), hpG H z2 = some (iE (zY Z 3) n1 f2) ∧ vp_in z1 n1 ∧ (wX9_pass_185 K KL8 Z (hpS H z2 (iE (zY Z 3) n1 (upd f2 z1.toNatClampNeg (vp_nar .boolean z0)))) bc bs x0 x1 x2)
set_option maxRecDepth 100000 in
set_option maxHeartbeats 4000000 in
theorem bX9_pass_184 {D : gD} {E : gE} {A : Nat → Prop} {Q : State → Prop} {bc0 bs0 : Nat} (C : CL D E (rmX9_pass bc0 bs0) cX9_pass 5 RX9 A) {K : Int32 → gH → Prop} (hret : ∀ (r : Int32) (H : gH) (pc : Nat) (ls : List (Nat × Value)), K r H → decode cX9_pass pc = .ok (.ireturn, 1) → Go D E A Q 5 bc0 bs0 ([] ++ hpW H) ls pc [.int r]) {KL8 : gH → Nat → Nat → Nat → Int32 → Int32 → Prop} (hKL8 : ∀ (cells slots : Nat) (H : gH) (bc : Nat) (bs : Nat) (x0 : Nat) (x1 : Int32) (x2 : Int32), cells + bc ≤ bc0 → slots + bs ≤ bs0 → KL8 H bc bs x0 x1 x2 → Go D E A Q 5 cells slots ([] ++ hpW H) [(0, .ref x0), (1, .int x1), (2, .int x2)] 8 []) : ∀ (cells slots : Nat) (H : gH) (bc : Nat) (bs : Nat) (x0 : Nat) (x1 : Int32) (x2 : Int32) (z0 : Int32) (z1 : Int32) (z2 : Nat), cells + bc ≤ bc0 → slots + bs ≤ bs0 → wX9_pass_184 K KL8 D.2 H bc bs x0 x1 x2 z0 z1 z2 → Go D E A Q 5 cells slots ([] ++ hpW H) [(0, .ref x0), (1, .int x1), (2, .int x2)] 184 [.int z0, .int z1, .ref z2] := by
  intro cells slots H bc bs x0 x1 x2 z0 z1 z2 hbc hbs h
  unfold wX9_pass_184 at h
  obtain ⟨n1, f2, e3, i4, h⟩ := h
  refine h_zast C e3 i4 dX9_pass_184 ?_
  exact bX9_pass_185 C (KL8 := KL8) hret hKL8 cells slots _ _ _ _ _ _ (by omega) (by omega) h
def wX9_pass_126 (K : Int32 → gH → Prop) (KL8 : gH → Nat → Nat → Nat → Int32 → Int32 → Prop) (Z : gZ) (H : gH) (bc : Nat) (bs : Nat) (x0 : Nat) (x1 : Int32) (x2 : Int32) (x3 : Int32) (z0 : Int32) : Prop :=
  ((¬ z0 = 0 → ∃ y1 : Int32, gF H x0 8 9 (.int y1) ∧ (∃ f3 : List Value, hpG H x0 = some (.inr (8, f3)) ∧ 9 < f3.length ∧ (∃ y6 : Nat, gF (hpS H x0 (.inr (8, f3.set 9 (.int (y1 + 1))))) x0 8 5 (.ref y6) ∧ (∃ (n8 : Nat) (f9 : Nat → Int32), hpG (hpS H x0 (.inr (8, f3.set 9 (.int (y1 + 1))))) y6 = some (iE (zY Z 1) n8 f9) ∧ vp_in x2 n8 ∧ (((¬ f9 x2.toNatClampNeg = 0 → ∃ y12 : Nat, gF (hpS H x0 (.inr (8, f3.set 9 (.int (y1 + 1))))) x0 8 4 (.ref y12) ∧ (∃ y14 : Nat, gF (hpS H x0 (.inr (8, f3.set 9 (.int (y1 + 1))))) x0 8 5 (.ref y14) ∧ (∃ (n16 : Nat) (f17 : Nat → Int32), hpG (hpS H x0 (.inr (8, f3.set 9 (.int (y1 + 1))))) y14 = some (iE (zY Z 1) n16 f17) ∧ vp_in x2 n16 ∧ (((¬ f17 x2.toNatClampNeg = 1 → wX9_pass_184 K KL8 Z (hpS H x0 (.inr (8, f3.set 9 (.int (y1 + 1))))) bc bs x0 x1 x2 0 x3 y12) ∧ (f17 x2.toNatClampNeg = 1 → wX9_pass_184 K KL8 Z (hpS H x0 (.inr (8, f3.set 9 (.int (y1 + 1))))) bc bs x0 x1 x2 1 x3 y12)))))) ∧ (f9 x2.toNatClampNeg = 0 → (∃ fs, hpG (hpS H x0 (.inr (8, f3.set 9 (.int (y1 + 1))))) x0 = some (.inr (8, fs))) ∧ ∃ (c20 s20 : Nat), c20 ≤ bc ∧ s20 ≤ bs ∧ wX9_dig Z (hpS H x0 (.inr (8, f3.set 9 (.int (y1 + 1))))) c20 s20 x0 x3 (fun r20 H20 => wX9_pass_185 K KL8 Z H20 (bc - c20) (bs - s20) x0 x1 x2)))))))) ∧ (z0 = 0 → wX9_pass_200 K KL8 Z H bc bs x0 x1 x2))
set_option maxRecDepth 100000 in
set_option maxHeartbeats 4000000 in
theorem bX9_pass_126 {D : gD} {E : gE} {A : Nat → Prop} {Q : State → Prop} {bc0 bs0 : Nat} (C : CL D E (rmX9_pass bc0 bs0) cX9_pass 5 RX9 A) {K : Int32 → gH → Prop} (hret : ∀ (r : Int32) (H : gH) (pc : Nat) (ls : List (Nat × Value)), K r H → decode cX9_pass pc = .ok (.ireturn, 1) → Go D E A Q 5 bc0 bs0 ([] ++ hpW H) ls pc [.int r]) {KL8 : gH → Nat → Nat → Nat → Int32 → Int32 → Prop} (hKL8 : ∀ (cells slots : Nat) (H : gH) (bc : Nat) (bs : Nat) (x0 : Nat) (x1 : Int32) (x2 : Int32), cells + bc ≤ bc0 → slots + bs ≤ bs0 → KL8 H bc bs x0 x1 x2 → Go D E A Q 5 cells slots ([] ++ hpW H) [(0, .ref x0), (1, .int x1), (2, .int x2)] 8 []) : ∀ (cells slots : Nat) (H : gH) (bc : Nat) (bs : Nat) (x0 : Nat) (x1 : Int32) (x2 : Int32) (x3 : Int32) (z0 : Int32), cells + bc ≤ bc0 → slots + bs ≤ bs0 → wX9_pass_126 K KL8 D.2 H bc bs x0 x1 x2 x3 z0 → Go D E A Q 5 cells slots ([] ++ hpW H) [(0, .ref x0), (1, .int x1), (2, .int x2), (3, .int x3)] 126 [.int z0] := by
  intro cells slots H bc bs x0 x1 x2 x3 z0 hbc hbs h
  unfold wX9_pass_126 at h
  refine q_istore C [(4, .int z0), (0, .ref x0), (1, .int x1), (2, .int x2), (3, .int x3)] dX9_pass_126 (by decide) rfl ?_
  refine q_iload C dX9_pass_128 0 rfl ?_
  refine q_if_ne C 136 dX9_pass_130 (by decide) h (fun h => ?_) (fun h => ?_)
  · refine q_aload_n C dX9_pass_136 1 rfl ?_
    refine q_dup C dX9_pass_137 rfl ?_
    obtain ⟨y1, e2, h⟩ := h
    refine h_get C inX9g (ci := 8) rfl 9 (by decide) fl_X9_48 rfl e2 dX9_pass_138 ?_
    refine q_iconst C (v := 1) dX9_pass_141 (by decide) ?_
    refine q_iadd C dX9_pass_142 ?_
    obtain ⟨f3, e4, l5, h⟩ := h
    refine h_put C inX9g tyX9_ok nmX9 (ci := 8) rfl 9 (by decide) fl_X9_48 rfl rfl (ty := .int) (by decide +kernel) e4 l5 rfl rfl dX9_pass_143 ?_
    refine q_aload_n C dX9_pass_146 1 rfl ?_
    obtain ⟨y6, e7, h⟩ := h
    refine h_get C inX9g (ci := 8) rfl 5 (by decide) fl_X9_31 rfl e7 dX9_pass_147 ?_
    refine q_iload_n C dX9_pass_150 3 rfl ?_
    obtain ⟨n8, f9, e10, i11, h⟩ := h
    refine h_iald C e10 i11 dX9_pass_151 ?_
    refine q_if_ne C 164 dX9_pass_152 (by decide) h (fun h => ?_) (fun h => ?_)
    · refine q_aload_n C dX9_pass_164 1 rfl ?_
      obtain ⟨y12, e13, h⟩ := h
      refine h_get C inX9g (ci := 8) rfl 4 (by decide) fl_X9_27 rfl e13 dX9_pass_165 ?_
      refine q_iload_n C dX9_pass_168 4 rfl ?_
      refine q_aload_n C dX9_pass_169 1 rfl ?_
      obtain ⟨y14, e15, h⟩ := h
      refine h_get C inX9g (ci := 8) rfl 5 (by decide) fl_X9_31 rfl e15 dX9_pass_170 ?_
      refine q_iload_n C dX9_pass_173 3 rfl ?_
      obtain ⟨n16, f17, e18, i19, h⟩ := h
      refine h_iald C e18 i19 dX9_pass_174 ?_
      refine q_iconst C (v := 1) dX9_pass_175 (by decide) ?_
      refine q_icmp_ne C 183 dX9_pass_176 (by decide) h (fun h => ?_) (fun h => ?_)
      · refine q_iconst C (v := 0) dX9_pass_183 (by decide) ?_
        refine q_ls [(0, .ref x0), (1, .int x1), (2, .int x2)] [1, 2, 3] rfl ?_
        exact bX9_pass_184 C (KL8 := KL8) hret hKL8 cells slots _ _ _ _ _ _ _ _ _ (by omega) (by omega) h
      · refine q_iconst C (v := 1) dX9_pass_179 (by decide) ?_
        refine q_goto (tgt := 184) C dX9_pass_180 (by decide) ?_
        refine q_ls [(0, .ref x0), (1, .int x1), (2, .int x2)] [1, 2, 3] rfl ?_
        exact bX9_pass_184 C (KL8 := KL8) hret hKL8 cells slots _ _ _ _ _ _ _ _ _ (by omega) (by omega) h
    · refine q_aload_n C dX9_pass_155 1 rfl ?_
      refine q_iload_n C dX9_pass_156 4 rfl ?_
      obtain ⟨⟨fs9, hr9⟩, h⟩ := h
      obtain ⟨c20, s20, hc20, hs20, h⟩ := h
      refine p_callVI C (fun _ h => h) [] (cX9_dig_ok _ h) cf_X9_90 im_X9_dig se_X9_dig (hRv_h (q := (RX9, TX9, 12)) hr9 rfl) rfl ⟨Nat.le_of_ble_eq_true rfl, Nat.le_of_ble_eq_true rfl⟩ ⟨by show cells + c20 ≤ bc0; omega, by show slots + s20 ≤ bs0; omega⟩ List.perm_append_comm (fun H20 : gH => [] ++ hpW H20) (fun _ => List.perm_append_comm) (rest := []) rfl (Nat.le_of_ble_eq_true rfl) dX9_pass_157 (fun r20 H20 h => ?_)
      show Go D E A Q 5 (cells + c20) (slots + s20) ([] ++ hpW H20) [(4, .int z0), (0, .ref x0), (1, .int x1), (2, .int x2), (3, .int x3)] 160 [.int r20]
      refine q_pop C dX9_pass_160 rfl ?_
      refine q_goto (tgt := 185) C dX9_pass_161 (by decide) ?_
      refine q_ls [(0, .ref x0), (1, .int x1), (2, .int x2)] [1, 2, 3] rfl ?_
      exact bX9_pass_185 C (KL8 := KL8) hret hKL8 (cells + c20) (slots + s20) _ _ _ _ _ _ (by omega) (by omega) h
  · refine q_goto (tgt := 200) C dX9_pass_133 (by decide) ?_
    refine q_ls [(0, .ref x0), (1, .int x1), (2, .int x2)] [1, 2, 3] rfl ?_
    exact bX9_pass_200 C (KL8 := KL8) hret hKL8 cells slots _ _ _ _ _ _ (by omega) (by omega) h
def wX9_pass_116 (K : Int32 → gH → Prop) (KL8 : gH → Nat → Nat → Nat → Int32 → Int32 → Prop) (Z : gZ) (H : gH) (bc : Nat) (bs : Nat) (x0 : Nat) (x1 : Int32) (x2 : Int32) (x3 : Int32) : Prop :=
  wX9_pass_126 K KL8 Z H bc bs x0 x1 x2 x3 0
set_option maxRecDepth 100000 in
set_option maxHeartbeats 4000000 in
theorem bX9_pass_116 {D : gD} {E : gE} {A : Nat → Prop} {Q : State → Prop} {bc0 bs0 : Nat} (C : CL D E (rmX9_pass bc0 bs0) cX9_pass 5 RX9 A) {K : Int32 → gH → Prop} (hret : ∀ (r : Int32) (H : gH) (pc : Nat) (ls : List (Nat × Value)), K r H → decode cX9_pass pc = .ok (.ireturn, 1) → Go D E A Q 5 bc0 bs0 ([] ++ hpW H) ls pc [.int r]) {KL8 : gH → Nat → Nat → Nat → Int32 → Int32 → Prop} (hKL8 : ∀ (cells slots : Nat) (H : gH) (bc : Nat) (bs : Nat) (x0 : Nat) (x1 : Int32) (x2 : Int32), cells + bc ≤ bc0 → slots + bs ≤ bs0 → KL8 H bc bs x0 x1 x2 → Go D E A Q 5 cells slots ([] ++ hpW H) [(0, .ref x0), (1, .int x1), (2, .int x2)] 8 []) : ∀ (cells slots : Nat) (H : gH) (bc : Nat) (bs : Nat) (x0 : Nat) (x1 : Int32) (x2 : Int32) (x3 : Int32), cells + bc ≤ bc0 → slots + bs ≤ bs0 → wX9_pass_116 K KL8 D.2 H bc bs x0 x1 x2 x3 → Go D E A Q 5 cells slots ([] ++ hpW H) [(0, .ref x0), (1, .int x1), (2, .int x2), (3, .int x3)] 116 [] := by
  intro cells slots H bc bs x0 x1 x2 x3 hbc hbs h
  unfold wX9_pass_116 at h
  refine q_iconst C (v := 0) dX9_pass_116 (by decide) ?_
  refine q_goto (tgt := 126) C dX9_pass_117 (by decide) ?_
  exact bX9_pass_126 C (KL8 := KL8) hret hKL8 cells slots _ _ _ _ _ _ _ _ (by omega) (by omega) h
def wX9_pass_43 (K : Int32 → gH → Prop) (KL8 : gH → Nat → Nat → Nat → Int32 → Int32 → Prop) (Z : gZ) (H : gH) (bc : Nat) (bs : Nat) (x0 : Nat) (x1 : Int32) (x2 : Int32) : Prop :=
  ∃ y1 : Nat, gF H x0 8 6 (.ref y1) ∧ (∃ (n3 : Nat) (f4 : Nat → Option Nat) (y7 : Nat), hpG H y1 = some (qE (zY Z 6) n3 f4) ∧ vp_in x2 n3 ∧ f4 x2.toNatClampNeg = some y7 ∧ ((∃ fs, hpG H y7 = some (.inr (9, fs))) ∧ ∃ d9 : Nat, d9 ≤ 8 ∧ wX10_of Z d9 H y7 x0 (fun r9 H9 => (∃ fs, hpG H9 x0 = some (.inr (8, fs))) ∧ wX9_seat Z H9 x0 r9 (fun r10 => ∃ y11 : Nat, gF H9 x0 8 5 (.ref y11) ∧ (∃ (n13 : Nat) (f14 : Nat → Int32), hpG H9 y11 = some (iE (zY Z 1) n13 f14) ∧ vp_in x2 n13 ∧ (((¬ f14 x2.toNatClampNeg = 0 → ∃ y17 : Nat, gF H9 x0 8 5 (.ref y17) ∧ (∃ (n19 : Nat) (f20 : Nat → Int32), hpG H9 y17 = some (iE (zY Z 1) n19 f20) ∧ vp_in x2 n19 ∧ (((¬ f20 x2.toNatClampNeg = 1 → ∃ y23 : Nat, gF H9 x0 8 4 (.ref y23) ∧ (∃ (n25 : Nat) (f26 : Nat → Int32), hpG H9 y23 = some (iE (zY Z 3) n25 f26) ∧ vp_in r10 n25 ∧ (wX9_pass_126 K KL8 Z H9 bc bs x0 x1 x2 r10 (f26 r10.toNatClampNeg)))) ∧ (f20 x2.toNatClampNeg = 1 → ∃ y29 : Nat, gF H9 x0 8 4 (.ref y29) ∧ (∃ (n31 : Nat) (f32 : Nat → Int32), hpG H9 y29 = some (iE (zY Z 3) n31 f32) ∧ vp_in r10 n31 ∧ (((¬ f32 r10.toNatClampNeg = 0 → wX9_pass_116 K KL8 Z H9 bc bs x0 x1 x2 r10) ∧ (f32 r10.toNatClampNeg = 0 → (∃ fs, hpG H9 x0 = some (.inr (8, fs))) ∧ wX9_props Z H9 x0 (fun r35 => ((3 ≤ r35 → wX9_pass_116 K KL8 Z H9 bc bs x0 x1 x2 r10) ∧ (¬ 3 ≤ r35 → wX9_pass_126 K KL8 Z H9 bc bs x0 x1 x2 r10 1)))))))))))) ∧ (f14 x2.toNatClampNeg = 0 → ∃ y36 : Nat, gF H9 x0 8 1 (.ref y36) ∧ (∃ (n38 : Nat) (f39 : Nat → Option Nat) (y42 : Nat), hpG H9 y36 = some (qE (zY Z 5) n38 f39) ∧ vp_in r10 n38 ∧ f39 r10.toNatClampNeg = some y42 ∧ (∃ (n44 : Nat) (f45 : Nat → Option Nat), hpG H9 y42 = some (qE (zY Z 4) n44 f45) ∧ (((nI n44 ≤ 0 → wX9_pass_126 K KL8 Z H9 bc bs x0 x1 x2 r10 0) ∧ (¬ nI n44 ≤ 0 → wX9_pass_126 K KL8 Z H9 bc bs x0 x1 x2 r10 1)))))))))))))
set_option maxRecDepth 100000 in
set_option maxHeartbeats 4000000 in
theorem bX9_pass_43 {D : gD} {E : gE} {A : Nat → Prop} {Q : State → Prop} {bc0 bs0 : Nat} (C : CL D E (rmX9_pass bc0 bs0) cX9_pass 5 RX9 A) {K : Int32 → gH → Prop} (hret : ∀ (r : Int32) (H : gH) (pc : Nat) (ls : List (Nat × Value)), K r H → decode cX9_pass pc = .ok (.ireturn, 1) → Go D E A Q 5 bc0 bs0 ([] ++ hpW H) ls pc [.int r]) {KL8 : gH → Nat → Nat → Nat → Int32 → Int32 → Prop} (hKL8 : ∀ (cells slots : Nat) (H : gH) (bc : Nat) (bs : Nat) (x0 : Nat) (x1 : Int32) (x2 : Int32), cells + bc ≤ bc0 → slots + bs ≤ bs0 → KL8 H bc bs x0 x1 x2 → Go D E A Q 5 cells slots ([] ++ hpW H) [(0, .ref x0), (1, .int x1), (2, .int x2)] 8 []) : ∀ (cells slots : Nat) (H : gH) (bc : Nat) (bs : Nat) (x0 : Nat) (x1 : Int32) (x2 : Int32), cells + bc ≤ bc0 → slots + bs ≤ bs0 → wX9_pass_43 K KL8 D.2 H bc bs x0 x1 x2 → Go D E A Q 5 cells slots ([] ++ hpW H) [(0, .ref x0), (1, .int x1), (2, .int x2)] 43 [] := by
  intro cells slots H bc bs x0 x1 x2 hbc hbs h
  unfold wX9_pass_43 at h
  refine q_aload_n C dX9_pass_43 0 rfl ?_
  refine q_aload_n C dX9_pass_44 0 rfl ?_
  obtain ⟨y1, e2, h⟩ := h
  refine h_get C inX9g (ci := 8) rfl 6 (by decide) fl_X9_36 rfl e2 dX9_pass_45 ?_
  refine q_iload_n C dX9_pass_48 2 rfl ?_
  obtain ⟨n3, f4, y7, e5, i6, g8, h⟩ := h
  refine h_aldR C 6 rfl rfl e5 i6 g8 dX9_pass_49 ?_
  refine q_aload_n C dX9_pass_50 0 rfl ?_
  obtain ⟨⟨fs9, hr9⟩, h⟩ := h
  obtain ⟨d9, hd9, h⟩ := h
  refine p_callVI C (fun _ h => h) [] (cX10_of_ok _ d9 _ _ _ _ h) cf_X9_80 im_X10_of se_X10_of (hRv_h (q := (RX10, TX10, 4)) hr9 rfl) rfl ⟨Nat.le_trans (by show _ * (d9 + 1) + 1 ≤ 19; omega) (Nat.le_of_ble_eq_true rfl), Nat.le_trans (by show 8 + (2 + 11) + _ * (d9 + 1) ≤ 264; omega) (Nat.le_of_ble_eq_true rfl)⟩ ⟨by show cells + 0 ≤ bc0; omega, by show slots + 0 ≤ bs0; omega⟩ List.perm_append_comm (fun H9 : gH => [] ++ hpW H9) (fun _ => List.perm_append_comm) (rest := [.ref x0]) rfl (Nat.le_of_ble_eq_true rfl) dX9_pass_51 (fun r9 H9 h => ?_)
  show Go D E A Q 5 cells slots ([] ++ hpW H9) [(0, .ref x0), (1, .int x1), (2, .int x2)] 54 [.int r9, .ref x0]
  obtain ⟨⟨fs9, hr9⟩, h⟩ := h
  refine p_callVI C (fun _ h => h) [] (cX9_seat_ok _ h) cf_X9_84 im_X9_seat se_X9_seat (hRv_h (q := (RX9, TX9, 12)) hr9 rfl) rfl ⟨Nat.le_of_ble_eq_true rfl, Nat.le_of_ble_eq_true rfl⟩ ⟨by show cells + 0 ≤ bc0; omega, by show slots + 0 ≤ bs0; omega⟩ List.perm_append_comm (fun _ : Unit => [] ++ hpW H9) (fun _ => List.perm_append_comm) (rest := []) rfl (Nat.le_of_ble_eq_true rfl) dX9_pass_54 (fun r10 _ h => ?_)
  show Go D E A Q 5 cells slots ([] ++ hpW H9) [(0, .ref x0), (1, .int x1), (2, .int x2)] 57 [.int r10]
  refine q_istore_n C [(3, .int r10), (0, .ref x0), (1, .int x1), (2, .int x2)] dX9_pass_57 (by decide) rfl ?_
  refine q_aload_n C dX9_pass_58 1 rfl ?_
  obtain ⟨y11, e12, h⟩ := h
  refine h_get C inX9g (ci := 8) rfl 5 (by decide) fl_X9_31 rfl e12 dX9_pass_59 ?_
  refine q_iload_n C dX9_pass_62 3 rfl ?_
  obtain ⟨n13, f14, e15, i16, h⟩ := h
  refine h_iald C e15 i16 dX9_pass_63 ?_
  refine q_if_ne C 85 dX9_pass_64 (by decide) h (fun h => ?_) (fun h => ?_)
  · refine q_aload_n C dX9_pass_85 1 rfl ?_
    obtain ⟨y17, e18, h⟩ := h
    refine h_get C inX9g (ci := 8) rfl 5 (by decide) fl_X9_31 rfl e18 dX9_pass_86 ?_
    refine q_iload_n C dX9_pass_89 3 rfl ?_
    obtain ⟨n19, f20, e21, i22, h⟩ := h
    refine h_iald C e21 i22 dX9_pass_90 ?_
    refine q_iconst C (v := 1) dX9_pass_91 (by decide) ?_
    refine q_icmp_ne C 120 dX9_pass_92 (by decide) h (fun h => ?_) (fun h => ?_)
    · refine q_aload_n C dX9_pass_120 1 rfl ?_
      obtain ⟨y23, e24, h⟩ := h
      refine h_get C inX9g (ci := 8) rfl 4 (by decide) fl_X9_27 rfl e24 dX9_pass_121 ?_
      refine q_iload_n C dX9_pass_124 0 rfl ?_
      obtain ⟨n25, f26, e27, i28, h⟩ := h
      refine h_zald C e27 i28 dX9_pass_125 ?_
      refine q_ls [(0, .ref x0), (1, .int x1), (2, .int x2), (3, .int r10)] [1, 2, 3, 0] rfl ?_
      exact bX9_pass_126 C (KL8 := KL8) hret hKL8 cells slots _ _ _ _ _ _ _ _ (by omega) (by omega) h
    · refine q_aload_n C dX9_pass_95 1 rfl ?_
      obtain ⟨y29, e30, h⟩ := h
      refine h_get C inX9g (ci := 8) rfl 4 (by decide) fl_X9_27 rfl e30 dX9_pass_96 ?_
      refine q_iload_n C dX9_pass_99 0 rfl ?_
      obtain ⟨n31, f32, e33, i34, h⟩ := h
      refine h_zald C e33 i34 dX9_pass_100 ?_
      refine q_if_ne C 116 dX9_pass_101 (by decide) h (fun h => ?_) (fun h => ?_)
      · refine q_ls [(0, .ref x0), (1, .int x1), (2, .int x2), (3, .int r10)] [1, 2, 3, 0] rfl ?_
        exact bX9_pass_116 C (KL8 := KL8) hret hKL8 cells slots _ _ _ _ _ _ _ (by omega) (by omega) h
      · refine q_aload_n C dX9_pass_104 1 rfl ?_
        obtain ⟨⟨fs9, hr9⟩, h⟩ := h
        refine p_callVI C (fun _ h => h) [] (cX9_props_ok _ h) cf_X9_87 im_X9_props se_X9_props (hRv_h (q := (RX9, TX9, 12)) hr9 rfl) rfl ⟨Nat.le_of_ble_eq_true rfl, Nat.le_of_ble_eq_true rfl⟩ ⟨by show cells + 0 ≤ bc0; omega, by show slots + 0 ≤ bs0; omega⟩ List.perm_append_comm (fun _ : Unit => [] ++ hpW H9) (fun _ => List.perm_append_comm) (rest := []) rfl (Nat.le_of_ble_eq_true rfl) dX9_pass_105 (fun r35 _ h => ?_)
        show Go D E A Q 5 cells slots ([] ++ hpW H9) [(3, .int r10), (0, .ref x0), (1, .int x1), (2, .int x2)] 108 [.int r35]
        refine q_iconst C (v := 3) dX9_pass_108 (by decide) ?_
        refine q_icmp_ge C 116 dX9_pass_109 (by decide) h (fun h => ?_) (fun h => ?_)
        · refine q_ls [(0, .ref x0), (1, .int x1), (2, .int x2), (3, .int r10)] [1, 2, 3, 0] rfl ?_
          exact bX9_pass_116 C (KL8 := KL8) hret hKL8 cells slots _ _ _ _ _ _ _ (by omega) (by omega) h
        · refine q_iconst C (v := 1) dX9_pass_112 (by decide) ?_
          refine q_goto (tgt := 126) C dX9_pass_113 (by decide) ?_
          refine q_ls [(0, .ref x0), (1, .int x1), (2, .int x2), (3, .int r10)] [1, 2, 3, 0] rfl ?_
          exact bX9_pass_126 C (KL8 := KL8) hret hKL8 cells slots _ _ _ _ _ _ _ _ (by omega) (by omega) h
  · refine q_aload_n C dX9_pass_67 1 rfl ?_
    obtain ⟨y36, e37, h⟩ := h
    refine h_get C inX9g (ci := 8) rfl 1 (by decide) fl_X9_15 rfl e37 dX9_pass_68 ?_
    refine q_iload_n C dX9_pass_71 0 rfl ?_
    obtain ⟨n38, f39, y42, e40, i41, g43, h⟩ := h
    refine h_aldR C 5 rfl rfl e40 i41 g43 dX9_pass_72 ?_
    obtain ⟨n44, f45, e46, h⟩ := h
    refine h_alen C 4 rfl e46 dX9_pass_73 ?_
    refine q_if_le C 81 dX9_pass_74 (by decide) h (fun h => ?_) (fun h => ?_)
    · refine q_iconst C (v := 0) dX9_pass_81 (by decide) ?_
      refine q_goto (tgt := 126) C dX9_pass_82 (by decide) ?_
      refine q_ls [(0, .ref x0), (1, .int x1), (2, .int x2), (3, .int r10)] [1, 2, 3, 0] rfl ?_
      exact bX9_pass_126 C (KL8 := KL8) hret hKL8 cells slots _ _ _ _ _ _ _ _ (by omega) (by omega) h
    · refine q_iconst C (v := 1) dX9_pass_77 (by decide) ?_
      refine q_goto (tgt := 126) C dX9_pass_78 (by decide) ?_
      refine q_ls [(0, .ref x0), (1, .int x1), (2, .int x2), (3, .int r10)] [1, 2, 3, 0] rfl ?_
      exact bX9_pass_126 C (KL8 := KL8) hret hKL8 cells slots _ _ _ _ _ _ _ _ (by omega) (by omega) h
def wX9_pass_8 (K : Int32 → gH → Prop) (Z : gZ) : Nat → gH → Nat → Nat → Nat → Int32 → Int32 → Prop
  | 0, _, _, _, _, _, _ => False
  | n + 1, H, bc, bs, x0, x1, x2 =>
  ∃ y1 : Nat, gF H x0 8 5 (.ref y1) ∧ (∃ (n3 : Nat) (f4 : Nat → Int32), hpG H y1 = some (iE (zY Z 1) n3 f4) ∧ (((nI n3 ≤ x2 → ∃ y6 : Int32, gF H x0 8 8 (.int y6) ∧ (∃ f8 : List Value, hpG H x0 = some (.inr (8, f8)) ∧ 8 < f8.length ∧ ((∃ fs, hpG (hpS H x0 (.inr (8, f8.set 8 (.int (y6 + 1))))) x0 = some (.inr (8, fs))) ∧ wX9_found Z (hpS H x0 (.inr (8, f8.set 8 (.int (y6 + 1))))) x0 1 (fun r11 => K (r11 - x1) (hpS H x0 (.inr (8, f8.set 8 (.int (y6 + 1))))))))) ∧ (¬ nI n3 ≤ x2 → ∃ y12 : Nat, gF H x0 8 7 (.ref y12) ∧ (∃ (n14 : Nat) (f15 : Nat → Option Nat), hpG H y12 = some (qE (zY Z 6) n14 f15) ∧ vp_in x2 n14 ∧ ((((f15 x2.toNatClampNeg) = none → wX9_pass_43 K (wX9_pass_8 K Z n) Z H bc bs x0 x1 x2) ∧ (¬ (f15 x2.toNatClampNeg) = none → ∃ y18 : Nat, gF H x0 8 7 (.ref y18) ∧ (∃ (n20 : Nat) (f21 : Nat → Option Nat) (y24 : Nat), hpG H y18 = some (qE (zY Z 6) n20 f21) ∧ vp_in x2 n20 ∧ f21 x2.toNatClampNeg = some y24 ∧ ((∃ fs, hpG H y24 = some (.inr (9, fs))) ∧ ∃ d26 : Nat, d26 ≤ 8 ∧ wX10_of Z d26 H y24 x0 (fun r26 H26 => ((r26 = 1 → wX9_pass_43 K (wX9_pass_8 K Z n) Z H26 bc bs x0 x1 x2) ∧ (¬ r26 = 1 → wX9_pass_200 K (wX9_pass_8 K Z n) Z H26 bc bs x0 x1 x2)))))))))))))
set_option maxRecDepth 100000 in
set_option maxHeartbeats 4000000 in
theorem bX9_pass_8 {D : gD} {E : gE} {A : Nat → Prop} {Q : State → Prop} {bc0 bs0 : Nat} (C : CL D E (rmX9_pass bc0 bs0) cX9_pass 5 RX9 A) {K : Int32 → gH → Prop} (hret : ∀ (r : Int32) (H : gH) (pc : Nat) (ls : List (Nat × Value)), K r H → decode cX9_pass pc = .ok (.ireturn, 1) → Go D E A Q 5 bc0 bs0 ([] ++ hpW H) ls pc [.int r]) : ∀ (n : Nat) (cells slots : Nat) (H : gH) (bc : Nat) (bs : Nat) (x0 : Nat) (x1 : Int32) (x2 : Int32), cells + bc ≤ bc0 → slots + bs ≤ bs0 → wX9_pass_8 K D.2 n H bc bs x0 x1 x2 → Go D E A Q 5 cells slots ([] ++ hpW H) [(0, .ref x0), (1, .int x1), (2, .int x2)] 8 [] := by
  intro n
  induction n with
  | zero =>
    intro cells slots H bc bs x0 x1 x2 hbc hbs h
    exact h.elim
  | succ n ih =>
    intro cells slots H bc bs x0 x1 x2 hbc hbs h
    unfold wX9_pass_8 at h
    refine q_iload_n C dX9_pass_8 2 rfl ?_
    refine q_aload_n C dX9_pass_9 0 rfl ?_
    obtain ⟨y1, e2, h⟩ := h
    refine h_get C inX9g (ci := 8) rfl 5 (by decide) fl_X9_31 rfl e2 dX9_pass_10 ?_
    obtain ⟨n3, f4, e5, h⟩ := h
    refine h_alen C 1 rfl e5 dX9_pass_13 ?_
    refine q_icmp_ge C 206 dX9_pass_14 (by decide) h (fun h => ?_) (fun h => ?_)
    · refine q_aload_n C dX9_pass_206 0 rfl ?_
      refine q_dup C dX9_pass_207 rfl ?_
      obtain ⟨y6, e7, h⟩ := h
      refine h_get C inX9g (ci := 8) rfl 8 (by decide) fl_X9_45 rfl e7 dX9_pass_208 ?_
      refine q_iconst C (v := 1) dX9_pass_211 (by decide) ?_
      refine q_iadd C dX9_pass_212 ?_
      obtain ⟨f8, e9, l10, h⟩ := h
      refine h_put C inX9g tyX9_ok nmX9 (ci := 8) rfl 8 (by decide) fl_X9_45 rfl rfl (ty := .int) (by decide +kernel) e9 l10 rfl rfl dX9_pass_213 ?_
      refine q_aload_n C dX9_pass_216 0 rfl ?_
      refine q_iconst C (v := 1) dX9_pass_217 (by decide) ?_
      obtain ⟨⟨fs9, hr9⟩, h⟩ := h
      refine p_callVI C (fun _ h => h) [] (cX9_found_ok _ h) cf_X9_76 im_X9_found se_X9_found (hRv_h (q := (RX9, TX9, 12)) hr9 rfl) rfl ⟨Nat.le_of_ble_eq_true rfl, Nat.le_of_ble_eq_true rfl⟩ ⟨by show cells + 0 ≤ bc0; omega, by show slots + 0 ≤ bs0; omega⟩ List.perm_append_comm (fun _ : Unit => [] ++ hpW (hpS H x0 (.inr (8, f8.set 8 (.int (y6 + 1)))))) (fun _ => List.perm_append_comm) (rest := []) rfl (Nat.le_of_ble_eq_true rfl) dX9_pass_218 (fun r11 _ h => ?_)
      show Go D E A Q 5 cells slots ([] ++ hpW (hpS H x0 (.inr (8, f8.set 8 (.int (y6 + 1)))))) [(0, .ref x0), (1, .int x1), (2, .int x2)] 221 [.int r11]
      refine q_iload_n C dX9_pass_221 1 rfl ?_
      refine q_isub C dX9_pass_222 ?_
      refine q_widen (k := bc0) (n := bs0) (by omega) (by omega) ?_
      exact hret (r11 - x1) (hpS H x0 (.inr (8, f8.set 8 (.int (y6 + 1))))) _ _ h dX9_pass_223
    · refine q_aload_n C dX9_pass_17 0 rfl ?_
      obtain ⟨y12, e13, h⟩ := h
      refine h_get C inX9g (ci := 8) rfl 7 (by decide) fl_X9_40 rfl e13 dX9_pass_18 ?_
      refine q_iload_n C dX9_pass_21 2 rfl ?_
      obtain ⟨n14, f15, e16, i17, h⟩ := h
      refine h_aald C 6 rfl rfl e16 i17 dX9_pass_22 ?_
      refine h_ifnull C 43 dX9_pass_23 (by decide) h (fun h => ?_) (fun h => ?_)
      · exact bX9_pass_43 C (KL8 := (wX9_pass_8 K D.2 n)) hret ih cells slots _ _ _ _ _ _ (by omega) (by omega) h
      · refine q_aload_n C dX9_pass_26 0 rfl ?_
        obtain ⟨y18, e19, h⟩ := h
        refine h_get C inX9g (ci := 8) rfl 7 (by decide) fl_X9_40 rfl e19 dX9_pass_27 ?_
        refine q_iload_n C dX9_pass_30 2 rfl ?_
        obtain ⟨n20, f21, y24, e22, i23, g25, h⟩ := h
        refine h_aldR C 6 rfl rfl e22 i23 g25 dX9_pass_31 ?_
        refine q_aload_n C dX9_pass_32 0 rfl ?_
        obtain ⟨⟨fs9, hr9⟩, h⟩ := h
        obtain ⟨d26, hd26, h⟩ := h
        refine p_callVI C (fun _ h => h) [] (cX10_of_ok _ d26 _ _ _ _ h) cf_X9_80 im_X10_of se_X10_of (hRv_h (q := (RX10, TX10, 4)) hr9 rfl) rfl ⟨Nat.le_trans (by show _ * (d26 + 1) + 1 ≤ 19; omega) (Nat.le_of_ble_eq_true rfl), Nat.le_trans (by show 8 + (2 + 11) + _ * (d26 + 1) ≤ 264; omega) (Nat.le_of_ble_eq_true rfl)⟩ ⟨by show cells + 0 ≤ bc0; omega, by show slots + 0 ≤ bs0; omega⟩ List.perm_append_comm (fun H26 : gH => [] ++ hpW H26) (fun _ => List.perm_append_comm) (rest := []) rfl (Nat.le_of_ble_eq_true rfl) dX9_pass_33 (fun r26 H26 h => ?_)
        show Go D E A Q 5 cells slots ([] ++ hpW H26) [(0, .ref x0), (1, .int x1), (2, .int x2)] 36 [.int r26]
        refine q_iconst C (v := 1) dX9_pass_36 (by decide) ?_
        refine q_icmp_eq C 43 dX9_pass_37 (by decide) h (fun h => ?_) (fun h => ?_)
        · exact bX9_pass_43 C (KL8 := (wX9_pass_8 K D.2 n)) hret ih cells slots _ _ _ _ _ _ (by omega) (by omega) h
        · refine q_goto (tgt := 200) C dX9_pass_40 (by decide) ?_
          exact bX9_pass_200 C (KL8 := (wX9_pass_8 K D.2 n)) hret ih cells slots _ _ _ _ _ _ (by omega) (by omega) h
def wX9_pass (Z : gZ) (H : gH) (bc : Nat) (bs : Nat) (p : Nat) (K : Int32 → gH → Prop) : Prop :=
  (∃ fs, hpG H p = some (.inr (8, fs))) ∧ wX9_found Z H p 1 (fun r1 => ∃ k9 : Nat, wX9_pass_8 K Z k9 H bc bs p r1 0)
set_option maxRecDepth 100000 in
set_option maxHeartbeats 4000000 in
theorem bX9_pass {D : gD} {E : gE} {A : Nat → Prop} {Q : State → Prop} {bc0 bs0 : Nat} (C : CL D E (rmX9_pass bc0 bs0) cX9_pass 5 RX9 A) {K : Int32 → gH → Prop} (hret : ∀ (r : Int32) (H : gH) (pc : Nat) (ls : List (Nat × Value)), K r H → decode cX9_pass pc = .ok (.ireturn, 1) → Go D E A Q 5 bc0 bs0 ([] ++ hpW H) ls pc [.int r]) (cells slots : Nat) (H : gH) (bc : Nat) (bs : Nat) (p : Nat) (hbc : cells + bc ≤ bc0) (hbs : slots + bs ≤ bs0) (h : wX9_pass D.2 H bc bs p K) : Go D E A Q 5 cells slots ([] ++ hpW H) [(0, .ref p)] 0 [] := by
  unfold wX9_pass at h
  refine q_aload_n C dX9_pass_0 0 rfl ?_
  refine q_iconst C (v := 1) dX9_pass_1 (by decide) ?_
  obtain ⟨⟨fs9, hr9⟩, h⟩ := h
  refine p_callVI C (fun _ h => h) [] (cX9_found_ok _ h) cf_X9_76 im_X9_found se_X9_found (hRv_h (q := (RX9, TX9, 12)) hr9 rfl) rfl ⟨Nat.le_of_ble_eq_true rfl, Nat.le_of_ble_eq_true rfl⟩ ⟨by show cells + 0 ≤ bc0; omega, by show slots + 0 ≤ bs0; omega⟩ List.perm_append_comm (fun _ : Unit => [] ++ hpW H) (fun _ => List.perm_append_comm) (rest := []) rfl (Nat.le_of_ble_eq_true rfl) dX9_pass_2 (fun r1 _ h => ?_)
  show Go D E A Q 5 cells slots ([] ++ hpW H) [(0, .ref p)] 5 [.int r1]
  refine q_istore_n C [(1, .int r1), (0, .ref p)] dX9_pass_5 (by decide) rfl ?_
  refine q_iconst C (v := 0) dX9_pass_6 (by decide) ?_
  refine q_istore_n C [(2, .int 0), (1, .int r1), (0, .ref p)] dX9_pass_7 (by decide) rfl ?_
  refine q_ls [(0, .ref p), (1, .int r1), (2, .int 0)] [2, 1, 0] rfl ?_
  obtain ⟨nw, h⟩ := h
  exact bX9_pass_8 C  hret  nw cells slots _ _ _ _ _ _ (by omega) (by omega) h
theorem cX9_pass_ok (l : Launch) {D : gD} {H : gH} {bc : Nat} {bs : Nat} {p : Nat} {K : Int32 → gH → Prop} (h : wX9_pass D.2 H bc bs p K) : CtI l D (gU (zY D.2)) yX9_pass cX9_pass 5 .int (rmX9_pass bc bs) [.ref p] ([] ++ hpW H) (fun u : gH => [] ++ hpW u) (fun r u => K r u) :=
  ct_startI (by decide +kernel) (Nat.le_of_ble_eq_true rfl) (fun E A Q hE C hret => bX9_pass C (fun r H pc ls hk hd => hret r H pc ls rfl hk hd) 0 0 _ _ _ _ (by omega) (by omega) h)
abbrev rmX10_init : Room := { frames := 1, cells := 0, slots := 0, locals := 20 }
def wX10_init (Z : gZ) (H : gH) (p : Nat) (K : gH → Prop) : Prop :=
  K H
set_option maxRecDepth 100000 in
set_option maxHeartbeats 4000000 in
theorem bX10_init {D : gD} {E : gE} {A : Nat → Prop} {Q : State → Prop} (C : CL D E rmX10_init cX10_init 1 RX10 A) (hin : E.2.2.2.2.2.2.2.2.1.name = "<init>") {K : gH → Prop} (hret : ∀ (H : gH) (pc : Nat) (ls : List (Nat × Value)), K H → decode cX10_init pc = .ok (.return_, 1) → Go D E A Q 1 0 0 ([] ++ hpW H) ls pc []) (H : gH) (p : Nat) (h : wX10_init D.2 H p K) : Go D E A Q 1 0 0 ([] ++ hpW H) [(0, .ref p)] 0 [] := by
  unfold wX10_init at h
  refine q_aload_n C dX10_init_0 0 rfl ?_
  refine q_objInit C oi_X10_1 dX10_init_1 ⟨Nat.le_of_ble_eq_true rfl, Nat.le_of_ble_eq_true rfl⟩ (Nat.le_of_ble_eq_true rfl) ?_
  exact hret H _ _ h dX10_init_4
theorem cX10_init_ok (l : Launch) {D : gD} {H : gH} {p : Nat} {K : gH → Prop} (h : wX10_init D.2 H p K) : CtV l D (gU (zY D.2)) yX10_init cX10_init 1 rmX10_init [.ref p] ([] ++ hpW H) (fun u : gH => [] ++ hpW u) (fun u => K u) :=
  ct_startC (by decide +kernel) (Nat.le_of_ble_eq_true rfl) rfl (fun E A Q hE C hin hret => bX10_init C hin (fun H pc ls hk hd => hret H pc ls hk hd) _ _ h)
abbrev rmX9_init (bc bs : Nat) : Room := { frames := 1, cells := bc, slots := bs, locals := 20 }
def wX9_init (Z : gZ) (H : gH) (bc : Nat) (bs : Nat) (p : Nat) (K : gH → Prop) : Prop :=
  ∃ f1 : List Value, hpG H p = some (.inr (8, f1)) ∧ 0 < f1.length ∧ (1 ≤ bc ∧ (0 : Int32).toNatClampNeg ≤ bs ∧ (∀ q4 : Nat, hpG (hpS H p (.inr (8, f1.set 0 (.int 6)))) q4 = none → (∃ f6 : List Value, hpG (hpN (hpS H p (.inr (8, f1.set 0 (.int 6)))) q4 (qE (zY Z 5) (0 : Int32).toNatClampNeg (fun _ => none))) p = some (.inr (8, f6)) ∧ 1 < f6.length ∧ (1 ≤ (bc - 1) ∧ (0 : Int32).toNatClampNeg ≤ (bs - (0 : Int32).toNatClampNeg) ∧ (∀ q9 : Nat, hpG (hpS (hpN (hpS H p (.inr (8, f1.set 0 (.int 6)))) q4 (qE (zY Z 5) (0 : Int32).toNatClampNeg (fun _ => none))) p (.inr (8, f6.set 1 (.ref q4)))) q9 = none → (∃ f11 : List Value, hpG (hpN (hpS (hpN (hpS H p (.inr (8, f1.set 0 (.int 6)))) q4 (qE (zY Z 5) (0 : Int32).toNatClampNeg (fun _ => none))) p (.inr (8, f6.set 1 (.ref q4)))) q9 (qE (zY Z 4) (0 : Int32).toNatClampNeg (fun _ => none))) p = some (.inr (8, f11)) ∧ 2 < f11.length ∧ (1 ≤ ((bc - 1) - 1) ∧ (0 : Int32).toNatClampNeg ≤ ((bs - (0 : Int32).toNatClampNeg) - (0 : Int32).toNatClampNeg) ∧ (∀ q14 : Nat, hpG (hpS (hpN (hpS (hpN (hpS H p (.inr (8, f1.set 0 (.int 6)))) q4 (qE (zY Z 5) (0 : Int32).toNatClampNeg (fun _ => none))) p (.inr (8, f6.set 1 (.ref q4)))) q9 (qE (zY Z 4) (0 : Int32).toNatClampNeg (fun _ => none))) p (.inr (8, f11.set 2 (.ref q9)))) q14 = none → (∃ f16 : List Value, hpG (hpN (hpS (hpN (hpS (hpN (hpS H p (.inr (8, f1.set 0 (.int 6)))) q4 (qE (zY Z 5) (0 : Int32).toNatClampNeg (fun _ => none))) p (.inr (8, f6.set 1 (.ref q4)))) q9 (qE (zY Z 4) (0 : Int32).toNatClampNeg (fun _ => none))) p (.inr (8, f11.set 2 (.ref q9)))) q14 (qE (zY Z 4) (0 : Int32).toNatClampNeg (fun _ => none))) p = some (.inr (8, f16)) ∧ 3 < f16.length ∧ (1 ≤ (((bc - 1) - 1) - 1) ∧ (0 : Int32).toNatClampNeg ≤ (((bs - (0 : Int32).toNatClampNeg) - (0 : Int32).toNatClampNeg) - (0 : Int32).toNatClampNeg) ∧ (∀ q19 : Nat, hpG (hpS (hpN (hpS (hpN (hpS (hpN (hpS H p (.inr (8, f1.set 0 (.int 6)))) q4 (qE (zY Z 5) (0 : Int32).toNatClampNeg (fun _ => none))) p (.inr (8, f6.set 1 (.ref q4)))) q9 (qE (zY Z 4) (0 : Int32).toNatClampNeg (fun _ => none))) p (.inr (8, f11.set 2 (.ref q9)))) q14 (qE (zY Z 4) (0 : Int32).toNatClampNeg (fun _ => none))) p (.inr (8, f16.set 3 (.ref q14)))) q19 = none → (∃ f21 : List Value, hpG (hpN (hpS (hpN (hpS (hpN (hpS (hpN (hpS H p (.inr (8, f1.set 0 (.int 6)))) q4 (qE (zY Z 5) (0 : Int32).toNatClampNeg (fun _ => none))) p (.inr (8, f6.set 1 (.ref q4)))) q9 (qE (zY Z 4) (0 : Int32).toNatClampNeg (fun _ => none))) p (.inr (8, f11.set 2 (.ref q9)))) q14 (qE (zY Z 4) (0 : Int32).toNatClampNeg (fun _ => none))) p (.inr (8, f16.set 3 (.ref q14)))) q19 (iE (zY Z 3) (0 : Int32).toNatClampNeg (fun _ => 0))) p = some (.inr (8, f21)) ∧ 4 < f21.length ∧ (1 ≤ ((((bc - 1) - 1) - 1) - 1) ∧ (0 : Int32).toNatClampNeg ≤ ((((bs - (0 : Int32).toNatClampNeg) - (0 : Int32).toNatClampNeg) - (0 : Int32).toNatClampNeg) - (0 : Int32).toNatClampNeg) ∧ (∀ q24 : Nat, hpG (hpS (hpN (hpS (hpN (hpS (hpN (hpS (hpN (hpS H p (.inr (8, f1.set 0 (.int 6)))) q4 (qE (zY Z 5) (0 : Int32).toNatClampNeg (fun _ => none))) p (.inr (8, f6.set 1 (.ref q4)))) q9 (qE (zY Z 4) (0 : Int32).toNatClampNeg (fun _ => none))) p (.inr (8, f11.set 2 (.ref q9)))) q14 (qE (zY Z 4) (0 : Int32).toNatClampNeg (fun _ => none))) p (.inr (8, f16.set 3 (.ref q14)))) q19 (iE (zY Z 3) (0 : Int32).toNatClampNeg (fun _ => 0))) p (.inr (8, f21.set 4 (.ref q19)))) q24 = none → (∃ f26 : List Value, hpG (hpN (hpS (hpN (hpS (hpN (hpS (hpN (hpS (hpN (hpS H p (.inr (8, f1.set 0 (.int 6)))) q4 (qE (zY Z 5) (0 : Int32).toNatClampNeg (fun _ => none))) p (.inr (8, f6.set 1 (.ref q4)))) q9 (qE (zY Z 4) (0 : Int32).toNatClampNeg (fun _ => none))) p (.inr (8, f11.set 2 (.ref q9)))) q14 (qE (zY Z 4) (0 : Int32).toNatClampNeg (fun _ => none))) p (.inr (8, f16.set 3 (.ref q14)))) q19 (iE (zY Z 3) (0 : Int32).toNatClampNeg (fun _ => 0))) p (.inr (8, f21.set 4 (.ref q19)))) q24 (iE (zY Z 1) (0 : Int32).toNatClampNeg (fun _ => 0))) p = some (.inr (8, f26)) ∧ 5 < f26.length ∧ (1 ≤ (((((bc - 1) - 1) - 1) - 1) - 1) ∧ (0 : Int32).toNatClampNeg ≤ (((((bs - (0 : Int32).toNatClampNeg) - (0 : Int32).toNatClampNeg) - (0 : Int32).toNatClampNeg) - (0 : Int32).toNatClampNeg) - (0 : Int32).toNatClampNeg) ∧ (∀ q29 : Nat, hpG (hpS (hpN (hpS (hpN (hpS (hpN (hpS (hpN (hpS (hpN (hpS H p (.inr (8, f1.set 0 (.int 6)))) q4 (qE (zY Z 5) (0 : Int32).toNatClampNeg (fun _ => none))) p (.inr (8, f6.set 1 (.ref q4)))) q9 (qE (zY Z 4) (0 : Int32).toNatClampNeg (fun _ => none))) p (.inr (8, f11.set 2 (.ref q9)))) q14 (qE (zY Z 4) (0 : Int32).toNatClampNeg (fun _ => none))) p (.inr (8, f16.set 3 (.ref q14)))) q19 (iE (zY Z 3) (0 : Int32).toNatClampNeg (fun _ => 0))) p (.inr (8, f21.set 4 (.ref q19)))) q24 (iE (zY Z 1) (0 : Int32).toNatClampNeg (fun _ => 0))) p (.inr (8, f26.set 5 (.ref q24)))) q29 = none → (∃ f31 : List Value, hpG (hpN (hpS (hpN (hpS (hpN (hpS (hpN (hpS (hpN (hpS (hpN (hpS H p (.inr (8, f1.set 0 (.int 6)))) q4 (qE (zY Z 5) (0 : Int32).toNatClampNeg (fun _ => none))) p (.inr (8, f6.set 1 (.ref q4)))) q9 (qE (zY Z 4) (0 : Int32).toNatClampNeg (fun _ => none))) p (.inr (8, f11.set 2 (.ref q9)))) q14 (qE (zY Z 4) (0 : Int32).toNatClampNeg (fun _ => none))) p (.inr (8, f16.set 3 (.ref q14)))) q19 (iE (zY Z 3) (0 : Int32).toNatClampNeg (fun _ => 0))) p (.inr (8, f21.set 4 (.ref q19)))) q24 (iE (zY Z 1) (0 : Int32).toNatClampNeg (fun _ => 0))) p (.inr (8, f26.set 5 (.ref q24)))) q29 (qE (zY Z 6) (0 : Int32).toNatClampNeg (fun _ => none))) p = some (.inr (8, f31)) ∧ 6 < f31.length ∧ (1 ≤ ((((((bc - 1) - 1) - 1) - 1) - 1) - 1) ∧ (0 : Int32).toNatClampNeg ≤ ((((((bs - (0 : Int32).toNatClampNeg) - (0 : Int32).toNatClampNeg) - (0 : Int32).toNatClampNeg) - (0 : Int32).toNatClampNeg) - (0 : Int32).toNatClampNeg) - (0 : Int32).toNatClampNeg) ∧ (∀ q34 : Nat, hpG (hpS (hpN (hpS (hpN (hpS (hpN (hpS (hpN (hpS (hpN (hpS (hpN (hpS H p (.inr (8, f1.set 0 (.int 6)))) q4 (qE (zY Z 5) (0 : Int32).toNatClampNeg (fun _ => none))) p (.inr (8, f6.set 1 (.ref q4)))) q9 (qE (zY Z 4) (0 : Int32).toNatClampNeg (fun _ => none))) p (.inr (8, f11.set 2 (.ref q9)))) q14 (qE (zY Z 4) (0 : Int32).toNatClampNeg (fun _ => none))) p (.inr (8, f16.set 3 (.ref q14)))) q19 (iE (zY Z 3) (0 : Int32).toNatClampNeg (fun _ => 0))) p (.inr (8, f21.set 4 (.ref q19)))) q24 (iE (zY Z 1) (0 : Int32).toNatClampNeg (fun _ => 0))) p (.inr (8, f26.set 5 (.ref q24)))) q29 (qE (zY Z 6) (0 : Int32).toNatClampNeg (fun _ => none))) p (.inr (8, f31.set 6 (.ref q29)))) q34 = none → (∃ f36 : List Value, hpG (hpN (hpS (hpN (hpS (hpN (hpS (hpN (hpS (hpN (hpS (hpN (hpS (hpN (hpS H p (.inr (8, f1.set 0 (.int 6)))) q4 (qE (zY Z 5) (0 : Int32).toNatClampNeg (fun _ => none))) p (.inr (8, f6.set 1 (.ref q4)))) q9 (qE (zY Z 4) (0 : Int32).toNatClampNeg (fun _ => none))) p (.inr (8, f11.set 2 (.ref q9)))) q14 (qE (zY Z 4) (0 : Int32).toNatClampNeg (fun _ => none))) p (.inr (8, f16.set 3 (.ref q14)))) q19 (iE (zY Z 3) (0 : Int32).toNatClampNeg (fun _ => 0))) p (.inr (8, f21.set 4 (.ref q19)))) q24 (iE (zY Z 1) (0 : Int32).toNatClampNeg (fun _ => 0))) p (.inr (8, f26.set 5 (.ref q24)))) q29 (qE (zY Z 6) (0 : Int32).toNatClampNeg (fun _ => none))) p (.inr (8, f31.set 6 (.ref q29)))) q34 (qE (zY Z 6) (0 : Int32).toNatClampNeg (fun _ => none))) p = some (.inr (8, f36)) ∧ 7 < f36.length ∧ (K (hpS (hpN (hpS (hpN (hpS (hpN (hpS (hpN (hpS (hpN (hpS (hpN (hpS (hpN (hpS H p (.inr (8, f1.set 0 (.int 6)))) q4 (qE (zY Z 5) (0 : Int32).toNatClampNeg (fun _ => none))) p (.inr (8, f6.set 1 (.ref q4)))) q9 (qE (zY Z 4) (0 : Int32).toNatClampNeg (fun _ => none))) p (.inr (8, f11.set 2 (.ref q9)))) q14 (qE (zY Z 4) (0 : Int32).toNatClampNeg (fun _ => none))) p (.inr (8, f16.set 3 (.ref q14)))) q19 (iE (zY Z 3) (0 : Int32).toNatClampNeg (fun _ => 0))) p (.inr (8, f21.set 4 (.ref q19)))) q24 (iE (zY Z 1) (0 : Int32).toNatClampNeg (fun _ => 0))) p (.inr (8, f26.set 5 (.ref q24)))) q29 (qE (zY Z 6) (0 : Int32).toNatClampNeg (fun _ => none))) p (.inr (8, f31.set 6 (.ref q29)))) q34 (qE (zY Z 6) (0 : Int32).toNatClampNeg (fun _ => none))) p (.inr (8, f36.set 7 (.ref q34))))))))))))))))))))))))))
set_option maxRecDepth 100000 in
set_option maxHeartbeats 4000000 in
theorem bX9_init {D : gD} {E : gE} {A : Nat → Prop} {Q : State → Prop} {bc0 bs0 : Nat} (C : CL D E (rmX9_init bc0 bs0) cX9_init 1 RX9 A) (hin : E.2.2.2.2.2.2.2.2.1.name = "<init>") {K : gH → Prop} (hret : ∀ (H : gH) (pc : Nat) (ls : List (Nat × Value)), K H → decode cX9_init pc = .ok (.return_, 1) → Go D E A Q 1 bc0 bs0 ([] ++ hpW H) ls pc []) (cells slots : Nat) (H : gH) (bc : Nat) (bs : Nat) (p : Nat) (hbc : cells + bc ≤ bc0) (hbs : slots + bs ≤ bs0) (h : wX9_init D.2 H bc bs p K) : Go D E A Q 1 cells slots ([] ++ hpW H) [(0, .ref p)] 0 [] := by
  unfold wX9_init at h
  refine q_aload_n C dX9_init_0 0 rfl ?_
  refine q_objInit C oi_X9_1 dX9_init_1 ⟨Nat.le_of_ble_eq_true rfl, Nat.le_of_ble_eq_true rfl⟩ (Nat.le_of_ble_eq_true rfl) ?_
  refine q_aload_n C dX9_init_4 0 rfl ?_
  refine q_bipush C (v := 6) dX9_init_5 (by decide) ?_
  obtain ⟨f1, e2, l3, h⟩ := h
  refine h_put C inX9g tyX9_ok nmX9 (ci := 8) rfl 0 (by decide) fl_X9_7 rfl rfl (ty := .int) (by decide +kernel) e2 l3 rfl rfl dX9_init_7 ?_
  refine q_aload_n C dX9_init_10 0 rfl ?_
  refine q_iconst C (v := 0) dX9_init_11 (by decide) ?_
  obtain ⟨b1, b2, h⟩ := h
  refine h_anewA C 5 rfl cl_X9_13 C.hF.2.2.2.2.1.2.2.2.1 dX9_init_12 (by decide) (by decide) ⟨by show cells + 1 ≤ bc0; omega, by show slots + (0 : Int32).toNatClampNeg ≤ bs0; omega⟩ (fun q4 g5 => ?_)
  replace h := h q4 g5
  obtain ⟨f6, e7, l8, h⟩ := h
  refine h_put C inX9g tyX9_ok nmX9 (ci := 8) rfl 1 (by decide) fl_X9_15 rfl rfl (ty := (.array (.array (.array .int)))) (by decide +kernel) e7 l8 rfl rfl dX9_init_15 ?_
  refine q_aload_n C dX9_init_18 0 rfl ?_
  refine q_iconst C (v := 0) dX9_init_19 (by decide) ?_
  obtain ⟨b1, b2, h⟩ := h
  refine h_anewA C 4 rfl cl_X9_19 C.hF.2.2.2.2.1.2.2.1 dX9_init_20 (by decide) (by decide) ⟨by show cells + 1 + 1 ≤ bc0; omega, by show slots + (0 : Int32).toNatClampNeg + (0 : Int32).toNatClampNeg ≤ bs0; omega⟩ (fun q9 g10 => ?_)
  replace h := h q9 g10
  obtain ⟨f11, e12, l13, h⟩ := h
  refine h_put C inX9g tyX9_ok nmX9 (ci := 8) rfl 2 (by decide) fl_X9_21 rfl rfl (ty := (.array (.array .int))) (by decide +kernel) e12 l13 rfl rfl dX9_init_23 ?_
  refine q_aload_n C dX9_init_26 0 rfl ?_
  refine q_iconst C (v := 0) dX9_init_27 (by decide) ?_
  obtain ⟨b1, b2, h⟩ := h
  refine h_anewA C 4 rfl cl_X9_19 C.hF.2.2.2.2.1.2.2.1 dX9_init_28 (by decide) (by decide) ⟨by show cells + 1 + 1 + 1 ≤ bc0; omega, by show slots + (0 : Int32).toNatClampNeg + (0 : Int32).toNatClampNeg + (0 : Int32).toNatClampNeg ≤ bs0; omega⟩ (fun q14 g15 => ?_)
  replace h := h q14 g15
  obtain ⟨f16, e17, l18, h⟩ := h
  refine h_put C inX9g tyX9_ok nmX9 (ci := 8) rfl 3 (by decide) fl_X9_24 rfl rfl (ty := (.array (.array .int))) (by decide +kernel) e17 l18 rfl rfl dX9_init_31 ?_
  refine q_aload_n C dX9_init_34 0 rfl ?_
  refine q_iconst C (v := 0) dX9_init_35 (by decide) ?_
  obtain ⟨b1, b2, h⟩ := h
  refine h_newZ C dX9_init_36 (by decide) (by decide) ⟨by show cells + 1 + 1 + 1 + 1 ≤ bc0; omega, by show slots + (0 : Int32).toNatClampNeg + (0 : Int32).toNatClampNeg + (0 : Int32).toNatClampNeg + (0 : Int32).toNatClampNeg ≤ bs0; omega⟩ (fun q19 g20 => ?_)
  replace h := h q19 g20
  obtain ⟨f21, e22, l23, h⟩ := h
  refine h_put C inX9g tyX9_ok nmX9 (ci := 8) rfl 4 (by decide) fl_X9_27 rfl rfl (ty := (.array .boolean)) (by decide +kernel) e22 l23 rfl rfl dX9_init_38 ?_
  refine q_aload_n C dX9_init_41 0 rfl ?_
  refine q_iconst C (v := 0) dX9_init_42 (by decide) ?_
  obtain ⟨b1, b2, h⟩ := h
  refine h_newI C dX9_init_43 (by decide) (by decide) ⟨by show cells + 1 + 1 + 1 + 1 + 1 ≤ bc0; omega, by show slots + (0 : Int32).toNatClampNeg + (0 : Int32).toNatClampNeg + (0 : Int32).toNatClampNeg + (0 : Int32).toNatClampNeg + (0 : Int32).toNatClampNeg ≤ bs0; omega⟩ (fun q24 g25 => ?_)
  replace h := h q24 g25
  obtain ⟨f26, e27, l28, h⟩ := h
  refine h_put C inX9g tyX9_ok nmX9 (ci := 8) rfl 5 (by decide) fl_X9_31 rfl rfl (ty := (.array .int)) (by decide +kernel) e27 l28 rfl rfl dX9_init_45 ?_
  refine q_aload_n C dX9_init_48 0 rfl ?_
  refine q_iconst C (v := 0) dX9_init_49 (by decide) ?_
  obtain ⟨b1, b2, h⟩ := h
  refine h_anewO C 6 rfl cl_X9_34 C.hF.2.2.2.2.1.2.2.2.2.1 dX9_init_50 (by decide) (by decide) ⟨by show cells + 1 + 1 + 1 + 1 + 1 + 1 ≤ bc0; omega, by show slots + (0 : Int32).toNatClampNeg + (0 : Int32).toNatClampNeg + (0 : Int32).toNatClampNeg + (0 : Int32).toNatClampNeg + (0 : Int32).toNatClampNeg + (0 : Int32).toNatClampNeg ≤ bs0; omega⟩ (fun q29 g30 => ?_)
  replace h := h q29 g30
  obtain ⟨f31, e32, l33, h⟩ := h
  refine h_put C inX9g tyX9_ok nmX9 (ci := 8) rfl 6 (by decide) fl_X9_36 rfl rfl (ty := (.array (.object "SofaDigLaw$Tree"))) (by decide +kernel) e32 l33 rfl rfl dX9_init_53 ?_
  refine q_aload_n C dX9_init_56 0 rfl ?_
  refine q_iconst C (v := 0) dX9_init_57 (by decide) ?_
  obtain ⟨b1, b2, h⟩ := h
  refine h_anewO C 6 rfl cl_X9_34 C.hF.2.2.2.2.1.2.2.2.2.1 dX9_init_58 (by decide) (by decide) ⟨by show cells + 1 + 1 + 1 + 1 + 1 + 1 + 1 ≤ bc0; omega, by show slots + (0 : Int32).toNatClampNeg + (0 : Int32).toNatClampNeg + (0 : Int32).toNatClampNeg + (0 : Int32).toNatClampNeg + (0 : Int32).toNatClampNeg + (0 : Int32).toNatClampNeg + (0 : Int32).toNatClampNeg ≤ bs0; omega⟩ (fun q34 g35 => ?_)
  replace h := h q34 g35
  obtain ⟨f36, e37, l38, h⟩ := h
  refine h_put C inX9g tyX9_ok nmX9 (ci := 8) rfl 7 (by decide) fl_X9_40 rfl rfl (ty := (.array (.object "SofaDigLaw$Tree"))) (by decide +kernel) e37 l38 rfl rfl dX9_init_61 ?_
  refine q_widen (k := bc0) (n := bs0) (by omega) (by omega) ?_
  exact hret (hpS (hpN (hpS (hpN (hpS (hpN (hpS (hpN (hpS (hpN (hpS (hpN (hpS (hpN (hpS H p (.inr (8, f1.set 0 (.int 6)))) q4 (qE (zY D.2 5) (0 : Int32).toNatClampNeg (fun _ => none))) p (.inr (8, f6.set 1 (.ref q4)))) q9 (qE (zY D.2 4) (0 : Int32).toNatClampNeg (fun _ => none))) p (.inr (8, f11.set 2 (.ref q9)))) q14 (qE (zY D.2 4) (0 : Int32).toNatClampNeg (fun _ => none))) p (.inr (8, f16.set 3 (.ref q14)))) q19 (iE (zY D.2 3) (0 : Int32).toNatClampNeg (fun _ => 0))) p (.inr (8, f21.set 4 (.ref q19)))) q24 (iE (zY D.2 1) (0 : Int32).toNatClampNeg (fun _ => 0))) p (.inr (8, f26.set 5 (.ref q24)))) q29 (qE (zY D.2 6) (0 : Int32).toNatClampNeg (fun _ => none))) p (.inr (8, f31.set 6 (.ref q29)))) q34 (qE (zY D.2 6) (0 : Int32).toNatClampNeg (fun _ => none))) p (.inr (8, f36.set 7 (.ref q34)))) _ _ h dX9_init_64
theorem cX9_init_ok (l : Launch) {D : gD} {H : gH} {bc : Nat} {bs : Nat} {p : Nat} {K : gH → Prop} (h : wX9_init D.2 H bc bs p K) : CtV l D (gU (zY D.2)) yX9_init cX9_init 1 (rmX9_init bc bs) [.ref p] ([] ++ hpW H) (fun u : gH => [] ++ hpW u) (fun u => K u) :=
  ct_startC (by decide +kernel) (Nat.le_of_ble_eq_true rfl) rfl (fun E A Q hE C hin hret => bX9_init C hin (fun H pc ls hk hd => hret H pc ls hk hd) 0 0 _ _ _ _ (by omega) (by omega) h)
abbrev rmX9_of (bc bs : Nat) : Room := { frames := 2, cells := bc, slots := bs, locals := 40 }
def wX9_of_40 (K : Nat → gH → Prop) (KL32 : gH → Nat → Nat → Int32 → Int32 → Nat → Int32 → Prop) (Z : gZ) : Nat → gH → Nat → Nat → Int32 → Int32 → Nat → Int32 → Int32 → Prop
  | 0, _, _, _, _, _, _, _, _ => False
  | n + 1, H, bc, bs, x0, x1, x2, x3, x4 =>
  ((x1 ≤ x4 → KL32 H bc bs x0 x1 x2 (x3 + 1)) ∧ (¬ x1 ≤ x4 → ∃ y1 : Nat, gF H x2 8 1 (.ref y1) ∧ (∃ (n3 : Nat) (f4 : Nat → Option Nat) (y7 : Nat), hpG H y1 = some (qE (zY Z 5) n3 f4) ∧ vp_in x3 n3 ∧ f4 x3.toNatClampNeg = some y7 ∧ (1 ≤ bc ∧ (4 : Int32).toNatClampNeg ≤ bs ∧ (∀ q9 : Nat, hpG H q9 = none → (∃ (n11 : Nat) (f12 : Nat → Int32), hpG (hpN H q9 (iE (zY Z 1) (4 : Int32).toNatClampNeg (fun _ => 0))) q9 = some (iE (zY Z 1) n11 f12) ∧ vp_in 0 n11 ∧ (∃ (n15 : Nat) (f16 : Nat → Int32), hpG (hpS (hpN H q9 (iE (zY Z 1) (4 : Int32).toNatClampNeg (fun _ => 0))) q9 (iE (zY Z 1) n11 (upd f12 (0 : Int32).toNatClampNeg x4))) q9 = some (iE (zY Z 1) n15 f16) ∧ vp_in 1 n15 ∧ (∃ (n19 : Nat) (f20 : Nat → Int32), hpG (hpS (hpS (hpN H q9 (iE (zY Z 1) (4 : Int32).toNatClampNeg (fun _ => 0))) q9 (iE (zY Z 1) n11 (upd f12 (0 : Int32).toNatClampNeg x4))) q9 (iE (zY Z 1) n15 (upd f16 (1 : Int32).toNatClampNeg (-1)))) q9 = some (iE (zY Z 1) n19 f20) ∧ vp_in 2 n19 ∧ (∃ (n23 : Nat) (f24 : Nat → Int32), hpG (hpS (hpS (hpS (hpN H q9 (iE (zY Z 1) (4 : Int32).toNatClampNeg (fun _ => 0))) q9 (iE (zY Z 1) n11 (upd f12 (0 : Int32).toNatClampNeg x4))) q9 (iE (zY Z 1) n15 (upd f16 (1 : Int32).toNatClampNeg (-1)))) q9 (iE (zY Z 1) n19 (upd f20 (2 : Int32).toNatClampNeg 0))) q9 = some (iE (zY Z 1) n23 f24) ∧ vp_in 3 n23 ∧ (∃ (n27 : Nat) (f28 : Nat → Option Nat) (m31 : Nat) (k32 : Nat → Int32), hpG (hpS (hpS (hpS (hpS (hpN H q9 (iE (zY Z 1) (4 : Int32).toNatClampNeg (fun _ => 0))) q9 (iE (zY Z 1) n11 (upd f12 (0 : Int32).toNatClampNeg x4))) q9 (iE (zY Z 1) n15 (upd f16 (1 : Int32).toNatClampNeg (-1)))) q9 (iE (zY Z 1) n19 (upd f20 (2 : Int32).toNatClampNeg 0))) q9 (iE (zY Z 1) n23 (upd f24 (3 : Int32).toNatClampNeg 0))) y7 = some (qE (zY Z 4) n27 f28) ∧ vp_in x4 n27 ∧ hpG (hpS (hpS (hpS (hpS (hpN H q9 (iE (zY Z 1) (4 : Int32).toNatClampNeg (fun _ => 0))) q9 (iE (zY Z 1) n11 (upd f12 (0 : Int32).toNatClampNeg x4))) q9 (iE (zY Z 1) n15 (upd f16 (1 : Int32).toNatClampNeg (-1)))) q9 (iE (zY Z 1) n19 (upd f20 (2 : Int32).toNatClampNeg 0))) q9 (iE (zY Z 1) n23 (upd f24 (3 : Int32).toNatClampNeg 0))) q9 = some (iE (zY Z 1) m31 k32) ∧ (wX9_of_40 K KL32 Z n (hpS (hpS (hpS (hpS (hpS (hpN H q9 (iE (zY Z 1) (4 : Int32).toNatClampNeg (fun _ => 0))) q9 (iE (zY Z 1) n11 (upd f12 (0 : Int32).toNatClampNeg x4))) q9 (iE (zY Z 1) n15 (upd f16 (1 : Int32).toNatClampNeg (-1)))) q9 (iE (zY Z 1) n19 (upd f20 (2 : Int32).toNatClampNeg 0))) q9 (iE (zY Z 1) n23 (upd f24 (3 : Int32).toNatClampNeg 0))) y7 (qE (zY Z 4) n27 (va_up f28 x4.toNatClampNeg (some q9)))) (bc - 1) (bs - (4 : Int32).toNatClampNeg) x0 x1 x2 x3 (x4 + 1))))))))))))
set_option maxRecDepth 100000 in
set_option maxHeartbeats 4000000 in
theorem bX9_of_40 {D : gD} {E : gE} {A : Nat → Prop} {Q : State → Prop} {bc0 bs0 : Nat} (C : CL D E (rmX9_of bc0 bs0) cX9_of 5 RX9 A) {K : Nat → gH → Prop} (hret : ∀ (r : Nat) (H : gH) (pc : Nat) (ls : List (Nat × Value)), K r H → decode cX9_of pc = .ok (.areturn, 1) → Go D E A Q 5 bc0 bs0 ([] ++ hpW H) ls pc [.ref r]) {KL32 : gH → Nat → Nat → Int32 → Int32 → Nat → Int32 → Prop} (hKL32 : ∀ (cells slots : Nat) (H : gH) (bc : Nat) (bs : Nat) (x0 : Int32) (x1 : Int32) (x2 : Nat) (x3 : Int32), cells + bc ≤ bc0 → slots + bs ≤ bs0 → KL32 H bc bs x0 x1 x2 x3 → Go D E A Q 5 cells slots ([] ++ hpW H) [(0, .int x0), (1, .int x1), (2, .ref x2), (3, .int x3)] 32 []) : ∀ (n : Nat) (cells slots : Nat) (H : gH) (bc : Nat) (bs : Nat) (x0 : Int32) (x1 : Int32) (x2 : Nat) (x3 : Int32) (x4 : Int32), cells + bc ≤ bc0 → slots + bs ≤ bs0 → wX9_of_40 K KL32 D.2 n H bc bs x0 x1 x2 x3 x4 → Go D E A Q 5 cells slots ([] ++ hpW H) [(0, .int x0), (1, .int x1), (2, .ref x2), (3, .int x3), (4, .int x4)] 40 [] := by
  intro n
  induction n with
  | zero =>
    intro cells slots H bc bs x0 x1 x2 x3 x4 hbc hbs h
    exact h.elim
  | succ n ih =>
    intro cells slots H bc bs x0 x1 x2 x3 x4 hbc hbs h
    unfold wX9_of_40 at h
    refine q_iload C dX9_of_40 4 rfl ?_
    refine q_iload_n C dX9_of_42 1 rfl ?_
    refine q_icmp_ge C 81 dX9_of_43 (by decide) h (fun h => ?_) (fun h => ?_)
    · refine q_iinc C (v := x3 + 1) [(3, .int (x3 + 1)), (0, .int x0), (1, .int x1), (2, .ref x2), (4, .int x4)] dX9_of_81 3 rfl rfl (by decide) rfl ?_
      refine q_goto (tgt := 32) C dX9_of_84 (by decide) ?_
      refine q_ls [(0, .int x0), (1, .int x1), (2, .ref x2), (3, .int (x3 + 1))] [1, 2, 3, 0] rfl ?_
      exact hKL32 cells slots _ _ _ _ _ _ _ (by omega) (by omega) h
    · refine q_aload_n C dX9_of_46 2 rfl ?_
      obtain ⟨y1, e2, h⟩ := h
      refine h_get C inX9g (ci := 8) rfl 1 (by decide) fl_X9_15 rfl e2 dX9_of_47 ?_
      refine q_iload_n C dX9_of_50 3 rfl ?_
      obtain ⟨n3, f4, y7, e5, i6, g8, h⟩ := h
      refine h_aldR C 5 rfl rfl e5 i6 g8 dX9_of_51 ?_
      refine q_iload C dX9_of_52 4 rfl ?_
      refine q_iconst C (v := 4) dX9_of_54 (by decide) ?_
      obtain ⟨b1, b2, h⟩ := h
      refine h_newI C dX9_of_55 (by decide) (by decide) ⟨by show cells + 1 ≤ bc0; omega, by show slots + (4 : Int32).toNatClampNeg ≤ bs0; omega⟩ (fun q9 g10 => ?_)
      replace h := h q9 g10
      refine q_dup C dX9_of_57 rfl ?_
      refine q_iconst C (v := 0) dX9_of_58 (by decide) ?_
      refine q_iload C dX9_of_59 4 rfl ?_
      obtain ⟨n11, f12, e13, i14, h⟩ := h
      refine h_iast C e13 i14 dX9_of_61 ?_
      refine q_dup C dX9_of_62 rfl ?_
      refine q_iconst C (v := 1) dX9_of_63 (by decide) ?_
      refine q_iconst C (v := (-1)) dX9_of_64 (by decide) ?_
      obtain ⟨n15, f16, e17, i18, h⟩ := h
      refine h_iast C e17 i18 dX9_of_65 ?_
      refine q_dup C dX9_of_66 rfl ?_
      refine q_iconst C (v := 2) dX9_of_67 (by decide) ?_
      refine q_iconst C (v := 0) dX9_of_68 (by decide) ?_
      obtain ⟨n19, f20, e21, i22, h⟩ := h
      refine h_iast C e21 i22 dX9_of_69 ?_
      refine q_dup C dX9_of_70 rfl ?_
      refine q_iconst C (v := 3) dX9_of_71 (by decide) ?_
      refine q_iconst C (v := 0) dX9_of_72 (by decide) ?_
      obtain ⟨n23, f24, e25, i26, h⟩ := h
      refine h_iast C e25 i26 dX9_of_73 ?_
      obtain ⟨n27, f28, m31, k32, e29, i30, v33, h⟩ := h
      refine h_astA C 4 C.hF.2.2.2.2.1.1 rfl e29 v33 i30 dX9_of_74 ?_
      refine q_iinc C (v := x4 + 1) [(4, .int (x4 + 1)), (0, .int x0), (1, .int x1), (2, .ref x2), (3, .int x3)] dX9_of_75 4 rfl rfl (by decide) rfl ?_
      refine q_goto (tgt := 40) C dX9_of_78 (by decide) ?_
      refine q_ls [(0, .int x0), (1, .int x1), (2, .ref x2), (3, .int x3), (4, .int (x4 + 1))] [1, 2, 3, 4, 0] rfl ?_
      exact ih (cells + 1) (slots + (4 : Int32).toNatClampNeg) _ _ _ _ _ _ _ _ (by omega) (by omega) h
def wX9_of_32 (K : Nat → gH → Prop) (Z : gZ) : Nat → gH → Nat → Nat → Int32 → Int32 → Nat → Int32 → Prop
  | 0, _, _, _, _, _, _, _ => False
  | n + 1, H, bc, bs, x0, x1, x2, x3 =>
  ((x0 ≤ x3 → K x2 H) ∧ (¬ x0 ≤ x3 → ∃ k9 : Nat, wX9_of_40 K (wX9_of_32 K Z n) Z k9 H bc bs x0 x1 x2 x3 0))
set_option maxRecDepth 100000 in
set_option maxHeartbeats 4000000 in
theorem bX9_of_32 {D : gD} {E : gE} {A : Nat → Prop} {Q : State → Prop} {bc0 bs0 : Nat} (C : CL D E (rmX9_of bc0 bs0) cX9_of 5 RX9 A) {K : Nat → gH → Prop} (hret : ∀ (r : Nat) (H : gH) (pc : Nat) (ls : List (Nat × Value)), K r H → decode cX9_of pc = .ok (.areturn, 1) → Go D E A Q 5 bc0 bs0 ([] ++ hpW H) ls pc [.ref r]) : ∀ (n : Nat) (cells slots : Nat) (H : gH) (bc : Nat) (bs : Nat) (x0 : Int32) (x1 : Int32) (x2 : Nat) (x3 : Int32), cells + bc ≤ bc0 → slots + bs ≤ bs0 → wX9_of_32 K D.2 n H bc bs x0 x1 x2 x3 → Go D E A Q 5 cells slots ([] ++ hpW H) [(0, .int x0), (1, .int x1), (2, .ref x2), (3, .int x3)] 32 [] := by
  intro n
  induction n with
  | zero =>
    intro cells slots H bc bs x0 x1 x2 x3 hbc hbs h
    exact h.elim
  | succ n ih =>
    intro cells slots H bc bs x0 x1 x2 x3 hbc hbs h
    unfold wX9_of_32 at h
    refine q_iload_n C dX9_of_32 3 rfl ?_
    refine q_iload_n C dX9_of_33 0 rfl ?_
    refine q_icmp_ge C 87 dX9_of_34 (by decide) h (fun h => ?_) (fun h => ?_)
    · refine q_aload_n C dX9_of_87 2 rfl ?_
      refine q_widen (k := bc0) (n := bs0) (by omega) (by omega) ?_
      exact hret x2 H _ _ h dX9_of_88
    · refine q_iconst C (v := 0) dX9_of_37 (by decide) ?_
      refine q_istore C [(4, .int 0), (0, .int x0), (1, .int x1), (2, .ref x2), (3, .int x3)] dX9_of_38 (by decide) rfl ?_
      refine q_ls [(0, .int x0), (1, .int x1), (2, .ref x2), (3, .int x3), (4, .int 0)] [1, 2, 3, 4, 0] rfl ?_
      obtain ⟨nw, h⟩ := h
      exact bX9_of_40 C (KL32 := (wX9_of_32 K D.2 n)) hret ih nw cells slots _ _ _ _ _ _ _ _ (by omega) (by omega) h
def wX9_of (Z : gZ) (H : gH) (bc : Nat) (bs : Nat) (p0 : Int32) (p1 : Int32) (K : Nat → gH → Prop) : Prop :=
  1 ≤ bc ∧ 12 ≤ bs ∧ (∀ q1 : Nat, hpG H q1 = none → (∃ (c3 s3 : Nat), c3 ≤ (bc - 1) ∧ s3 ≤ (bs - 12) ∧ wX9_init Z (hpN H q1 (.inr (8, [.int 0, .null, .null, .null, .null, .null, .null, .null, .int 0, .int 0, .int 0, .int 0]))) c3 s3 q1 (fun H3 => ∃ f4 : List Value, hpG H3 q1 = some (.inr (8, f4)) ∧ 0 < f4.length ∧ (¬ p0 < 0 ∧ ¬ p1 < 0 ∧ p0.toNatClampNeg * 4 ≤ 536870912 ∧ p1.toNatClampNeg * 4 ≤ 536870912 ∧ 1 + p0.toNatClampNeg ≤ ((bc - 1) - c3) ∧ p0.toNatClampNeg + p0.toNatClampNeg * p1.toNatClampNeg ≤ ((bs - 12) - s3) ∧ (∀ q7 : Nat, (∀ i, i ≤ p0.toNatClampNeg → hpG (hpS H3 q1 (.inr (8, f4.set 0 (.int p1)))) (q7 + i) = none) → (∃ f9 : List Value, hpG (hpM (hpS H3 q1 (.inr (8, f4.set 0 (.int p1)))) q7 (zY Z 5) (zY Z 4) p0.toNatClampNeg p1.toNatClampNeg) q1 = some (.inr (8, f9)) ∧ 1 < f9.length ∧ (¬ p0 < 0 ∧ p0.toNatClampNeg * 1 ≤ 536870912 ∧ 1 ≤ (((bc - 1) - c3) - (1 + p0.toNatClampNeg)) ∧ p0.toNatClampNeg ≤ (((bs - 12) - s3) - (p0.toNatClampNeg + p0.toNatClampNeg * p1.toNatClampNeg)) ∧ (∀ q12 : Nat, hpG (hpS (hpM (hpS H3 q1 (.inr (8, f4.set 0 (.int p1)))) q7 (zY Z 5) (zY Z 4) p0.toNatClampNeg p1.toNatClampNeg) q1 (.inr (8, f9.set 1 (.ref q7)))) q12 = none → (∃ f14 : List Value, hpG (hpN (hpS (hpM (hpS H3 q1 (.inr (8, f4.set 0 (.int p1)))) q7 (zY Z 5) (zY Z 4) p0.toNatClampNeg p1.toNatClampNeg) q1 (.inr (8, f9.set 1 (.ref q7)))) q12 (iE (zY Z 3) p0.toNatClampNeg (fun _ => 0))) q1 = some (.inr (8, f14)) ∧ 4 < f14.length ∧ (∃ k9 : Nat, wX9_of_32 K Z k9 (hpS (hpN (hpS (hpM (hpS H3 q1 (.inr (8, f4.set 0 (.int p1)))) q7 (zY Z 5) (zY Z 4) p0.toNatClampNeg p1.toNatClampNeg) q1 (.inr (8, f9.set 1 (.ref q7)))) q12 (iE (zY Z 3) p0.toNatClampNeg (fun _ => 0))) q1 (.inr (8, f14.set 4 (.ref q12)))) ((((bc - 1) - c3) - (1 + p0.toNatClampNeg)) - 1) ((((bs - 12) - s3) - (p0.toNatClampNeg + p0.toNatClampNeg * p1.toNatClampNeg)) - p0.toNatClampNeg) p0 p1 q1 0))))))))))
set_option maxRecDepth 100000 in
set_option maxHeartbeats 4000000 in
theorem bX9_of {D : gD} {E : gE} {A : Nat → Prop} {Q : State → Prop} {bc0 bs0 : Nat} (C : CL D E (rmX9_of bc0 bs0) cX9_of 5 RX9 A) {K : Nat → gH → Prop} (hret : ∀ (r : Nat) (H : gH) (pc : Nat) (ls : List (Nat × Value)), K r H → decode cX9_of pc = .ok (.areturn, 1) → Go D E A Q 5 bc0 bs0 ([] ++ hpW H) ls pc [.ref r]) (cells slots : Nat) (H : gH) (bc : Nat) (bs : Nat) (p0 : Int32) (p1 : Int32) (hbc : cells + bc ≤ bc0) (hbs : slots + bs ≤ bs0) (h : wX9_of D.2 H bc bs p0 p1 K) : Go D E A Q 5 cells slots ([] ++ hpW H) [(0, .int p0), (1, .int p1)] 0 [] := by
  unfold wX9_of at h
  obtain ⟨b1, b2, h⟩ := h
  refine h_new C inX9g tyX9_ok cl_X9_8 it_X9 ini_X9 (ci := 8) rfl (fs := [.int 0, .null, .null, .null, .null, .null, .null, .null, .int 0, .int 0, .int 0, .int 0]) (by decide) dX9_of_0 ⟨by show cells + 1 ≤ bc0; omega, by show slots + 12 ≤ bs0; omega⟩ (fun q1 g2 => ?_)
  replace h := h q1 g2
  refine q_dup C dX9_of_3 rfl ?_
  obtain ⟨c3, s3, hc3, hs3, h⟩ := h
  refine p_callIV C (fun _ h => h) [] (cX9_init_ok _ h) cf_X9_43 im_X9_init rfl rfl ⟨Nat.le_of_ble_eq_true rfl, Nat.le_of_ble_eq_true rfl⟩ ⟨by show cells + 1 + c3 ≤ bc0; omega, by show slots + 12 + s3 ≤ bs0; omega⟩ List.perm_append_comm (fun H3 : gH => [] ++ hpW H3) (fun _ => List.perm_append_comm) (rest := [.ref q1]) rfl (Nat.le_of_ble_eq_true rfl) dX9_of_4 (fun H3 h => ?_)
  show Go D E A Q 5 (cells + 1 + c3) (slots + 12 + s3) ([] ++ hpW H3) [(0, .int p0), (1, .int p1)] 7 [.ref q1]
  refine q_astore_n C [(2, .ref q1), (0, .int p0), (1, .int p1)] dX9_of_7 (by decide) rfl ?_
  refine q_aload_n C dX9_of_8 0 rfl ?_
  refine q_iload_n C dX9_of_9 2 rfl ?_
  obtain ⟨f4, e5, l6, h⟩ := h
  refine h_put C inX9g tyX9_ok nmX9 (ci := 8) rfl 0 (by decide) fl_X9_7 rfl rfl (ty := .int) (by decide +kernel) e5 l6 rfl rfl dX9_of_10 ?_
  refine q_aload_n C dX9_of_13 0 rfl ?_
  refine q_iload_n C dX9_of_14 1 rfl ?_
  refine q_iload_n C dX9_of_15 2 rfl ?_
  obtain ⟨b3, b4, b5, b6, b1, b2, h⟩ := h
  refine h_multi C cl_X9_44 dX9_of_16 b3 b4 b5 b6 ⟨by show cells + 1 + c3 + (1 + p0.toNatClampNeg) ≤ bc0; omega, by show slots + 12 + s3 + (p0.toNatClampNeg + p0.toNatClampNeg * p1.toNatClampNeg) ≤ bs0; omega⟩ (fun q7 g8 => ?_)
  replace h := h q7 g8
  obtain ⟨f9, e10, l11, h⟩ := h
  refine h_put C inX9g tyX9_ok nmX9 (ci := 8) rfl 1 (by decide) fl_X9_15 rfl rfl (ty := (.array (.array (.array .int)))) (by decide +kernel) e10 l11 rfl rfl dX9_of_20 ?_
  refine q_aload_n C dX9_of_23 0 rfl ?_
  refine q_iload_n C dX9_of_24 1 rfl ?_
  obtain ⟨b3, b4, b1, b2, h⟩ := h
  refine h_newZ C dX9_of_25 b3 b4 ⟨by show cells + 1 + c3 + (1 + p0.toNatClampNeg) + 1 ≤ bc0; omega, by show slots + 12 + s3 + (p0.toNatClampNeg + p0.toNatClampNeg * p1.toNatClampNeg) + p0.toNatClampNeg ≤ bs0; omega⟩ (fun q12 g13 => ?_)
  replace h := h q12 g13
  obtain ⟨f14, e15, l16, h⟩ := h
  refine h_put C inX9g tyX9_ok nmX9 (ci := 8) rfl 4 (by decide) fl_X9_27 rfl rfl (ty := (.array .boolean)) (by decide +kernel) e15 l16 rfl rfl dX9_of_27 ?_
  refine q_iconst C (v := 0) dX9_of_30 (by decide) ?_
  refine q_istore_n C [(3, .int 0), (2, .ref q1), (0, .int p0), (1, .int p1)] dX9_of_31 (by decide) rfl ?_
  refine q_ls [(0, .int p0), (1, .int p1), (2, .ref q1), (3, .int 0)] [2, 3, 1, 0] rfl ?_
  obtain ⟨nw, h⟩ := h
  exact bX9_of_32 C  hret  nw (cells + 1 + c3 + (1 + p0.toNatClampNeg) + 1) (slots + 12 + s3 + (p0.toNatClampNeg + p0.toNatClampNeg * p1.toNatClampNeg) + p0.toNatClampNeg) _ _ _ _ _ _ _ (by omega) (by omega) h
theorem cX9_of_ok (l : Launch) {D : gD} {H : gH} {bc : Nat} {bs : Nat} {p0 : Int32} {p1 : Int32} {K : Nat → gH → Prop} (h : wX9_of D.2 H bc bs p0 p1 K) : CtQ l D (gU (zY D.2)) yX9_of cX9_of 5 (.object "SofaDigLaw$Sim") (rmX9_of bc bs) [.int p0, .int p1] ([] ++ hpW H) (fun u : gH => [] ++ hpW u) (fun r u => K r u) :=
  ct_startQ (Or.inl ⟨_, rfl⟩) (by decide +kernel) (Nat.le_of_ble_eq_true rfl) (fun E A Q hE C hret => bX9_of C (fun r H pc ls hk hd => hret r H pc ls hk hd) 0 0 _ _ _ _ _ (by omega) (by omega) h)
