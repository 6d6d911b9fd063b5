abbrev rmX4_heightAt : Room := { frames := 0, cells := 0, slots := 0, locals := 0 }
def wX4_heightAt (S_heights : Nat → Int32) (p0 : Int32) (K : Int32 → Unit → Prop) : Prop :=
  ((p0 < 0 → K 0 ()) ∧ (¬ p0 < 0 → ((8 ≤ p0 → K 0 ()) ∧ (¬ 8 ≤ p0 → vp_in p0 8 ∧ (K (S_heights p0.toNatClampNeg) ())))))
set_option maxRecDepth 100000 in
set_option maxHeartbeats 4000000 in
theorem bX4_heightAt {D : va_G} {cB cI cJ cZ : ClassId} {E : gE} {A : Nat → Prop} {Q : State → Prop} {aS aS_heights aT aS_stacks aS_loose aS_propped aS_foundOnes aS_sureOnes : Nat} {S_days S_carriedOut S_dug S_slid S_foundCount S_sureCount S_propCount : Int32} {S_heights : Nat → Int32} (C : Cx D (gT cB cI cJ cZ) E rmX4_heightAt cX4_heightAt 2 RX4 A) {p0 : Int32} {K : Int32 → Unit → Prop} (hret : ∀ (r : Int32) (u : Unit) (pc : Nat) (ls : List (Nat × Value)), K r u → decode cX4_heightAt pc = .ok (.ireturn, 1) → Go D E A Q 2 0 0 [(aS, .inr (3, [.ref aT, .ref aS_stacks, .ref aS_heights, .ref aS_loose, .ref aS_propped, .ref aS_foundOnes, .ref aS_sureOnes, .int S_days, .int S_carriedOut, .int S_dug, .int S_slid, .int S_foundCount, .int S_sureCount, .int S_propCount])), (aS_heights, .inl (cI, 8, .inl S_heights))] ls pc [.int r]) (h : wX4_heightAt S_heights p0 K) : Go D E A Q 2 0 0 [(aS, .inr (3, [.ref aT, .ref aS_stacks, .ref aS_heights, .ref aS_loose, .ref aS_propped, .ref aS_foundOnes, .ref aS_sureOnes, .int S_days, .int S_carriedOut, .int S_dug, .int S_slid, .int S_foundCount, .int S_sureCount, .int S_propCount])), (aS_heights, .inl (cI, 8, .inl S_heights))] [(0, .ref aS), (1, .int p0)] 0 [] := by
  unfold wX4_heightAt at h
  refine q_iload_n C dX4_heightAt_0 1 rfl ?_
  refine q_if_lt C 19 dX4_heightAt_1 (by decide) h (fun h => ?_) (fun h => ?_)
  · refine q_iconst C (v := 0) dX4_heightAt_19 (by decide) ?_
    exact hret 0 () _ _ h dX4_heightAt_20
  · refine q_iload_n C dX4_heightAt_4 1 rfl ?_
    refine q_bipush C (v := 8) dX4_heightAt_5 (by decide) ?_
    refine q_icmp_ge C 19 dX4_heightAt_7 (by decide) h (fun h => ?_) (fun h => ?_)
    · refine q_iconst C (v := 0) dX4_heightAt_19 (by decide) ?_
      exact hret 0 () _ _ h dX4_heightAt_20
    · refine q_aload_n C dX4_heightAt_10 0 rfl ?_
      refine q_get C inX4g rfl 2 (by decide) fl_X4_15 rfl 0 rfl rfl dX4_heightAt_11 ?_
      refine q_iload_n C dX4_heightAt_14 1 rfl ?_
      refine q_iald C 1 1 rfl rfl dX4_heightAt_15 h (fun h => ?_)
      refine q_goto (tgt := 20) C dX4_heightAt_16 (by decide) ?_
      exact hret (S_heights p0.toNatClampNeg) () _ _ h dX4_heightAt_20
theorem cX4_heightAt_ok (l : Launch) {D : va_G} {cB cI cJ cZ : ClassId} {aS aS_heights aT aS_stacks aS_loose aS_propped aS_foundOnes aS_sureOnes : Nat} {S_days S_carriedOut S_dug S_slid S_foundCount S_sureCount S_propCount : Int32} {S_heights : Nat → Int32} {p0 : Int32} {K : Int32 → Unit → Prop} (h : wX4_heightAt S_heights p0 K) : CtI l D (gT cB cI cJ cZ) yX4_heightAt cX4_heightAt 2 .int rmX4_heightAt [.ref aS, .int p0] [(aS, .inr (3, [.ref aT, .ref aS_stacks, .ref aS_heights, .ref aS_loose, .ref aS_propped, .ref aS_foundOnes, .ref aS_sureOnes, .int S_days, .int S_carriedOut, .int S_dug, .int S_slid, .int S_foundCount, .int S_sureCount, .int S_propCount])), (aS_heights, .inl (cI, 8, .inl S_heights))] (fun u : Unit => [(aS, .inr (3, [.ref aT, .ref aS_stacks, .ref aS_heights, .ref aS_loose, .ref aS_propped, .ref aS_foundOnes, .ref aS_sureOnes, .int S_days, .int S_carriedOut, .int S_dug, .int S_slid, .int S_foundCount, .int S_sureCount, .int S_propCount])), (aS_heights, .inl (cI, 8, .inl S_heights))]) K :=
  ct_startI (by decide +kernel) (by decide) (fun E A Q hE C hret => bX4_heightAt C (fun r u pc ls hk hd => hret r u pc ls rfl hk hd) h)
abbrev rmX4_hasProp : Room := { frames := 0, cells := 0, slots := 0, locals := 0 }
def wX4_hasProp (S_propped : Nat → Int32) (p0 : Int32) (K : Int32 → Unit → Prop) : Prop :=
  ((p0 < 0 → K 0 ()) ∧ (¬ p0 < 0 → ((8 ≤ p0 → K 0 ()) ∧ (¬ 8 ≤ p0 → vp_in p0 8 ∧ (((S_propped p0.toNatClampNeg = 0 → K 0 ()) ∧ (¬ S_propped p0.toNatClampNeg = 0 → K 1 ())))))))
set_option maxRecDepth 100000 in
set_option maxHeartbeats 4000000 in
theorem bX4_hasProp {D : va_G} {cB cI cJ cZ : ClassId} {E : gE} {A : Nat → Prop} {Q : State → Prop} {aS aS_propped aT aS_stacks aS_heights aS_loose aS_foundOnes aS_sureOnes : Nat} {S_days S_carriedOut S_dug S_slid S_foundCount S_sureCount S_propCount : Int32} {S_propped : Nat → Int32} (C : Cx D (gT cB cI cJ cZ) E rmX4_hasProp cX4_hasProp 2 RX4 A) {p0 : Int32} {K : Int32 → Unit → Prop} (hret : ∀ (r : Int32) (u : Unit) (pc : Nat) (ls : List (Nat × Value)), (r = 0 ∨ r = 1) → K r u → decode cX4_hasProp pc = .ok (.ireturn, 1) → Go D E A Q 2 0 0 [(aS, .inr (3, [.ref aT, .ref aS_stacks, .ref aS_heights, .ref aS_loose, .ref aS_propped, .ref aS_foundOnes, .ref aS_sureOnes, .int S_days, .int S_carriedOut, .int S_dug, .int S_slid, .int S_foundCount, .int S_sureCount, .int S_propCount])), (aS_propped, .inl (cZ, 8, .inl S_propped))] ls pc [.int r]) (h : wX4_hasProp S_propped p0 K) : Go D E A Q 2 0 0 [(aS, .inr (3, [.ref aT, .ref aS_stacks, .ref aS_heights, .ref aS_loose, .ref aS_propped, .ref aS_foundOnes, .ref aS_sureOnes, .int S_days, .int S_carriedOut, .int S_dug, .int S_slid, .int S_foundCount, .int S_sureCount, .int S_propCount])), (aS_propped, .inl (cZ, 8, .inl S_propped))] [(0, .ref aS), (1, .int p0)] 0 [] := by
  unfold wX4_hasProp at h
  refine q_iload_n C dX4_hasProp_0 1 rfl ?_
  refine q_if_lt C 23 dX4_hasProp_1 (by decide) h (fun h => ?_) (fun h => ?_)
  · refine q_iconst C (v := 0) dX4_hasProp_23 (by decide) ?_
    exact hret 0 () _ _ (Or.inl rfl) h dX4_hasProp_24
  · refine q_iload_n C dX4_hasProp_4 1 rfl ?_
    refine q_bipush C (v := 8) dX4_hasProp_5 (by decide) ?_
    refine q_icmp_ge C 23 dX4_hasProp_7 (by decide) h (fun h => ?_) (fun h => ?_)
    · refine q_iconst C (v := 0) dX4_hasProp_23 (by decide) ?_
      exact hret 0 () _ _ (Or.inl rfl) h dX4_hasProp_24
    · refine q_aload_n C dX4_hasProp_10 0 rfl ?_
      refine q_get C inX4g rfl 4 (by decide) fl_X4_22 rfl 0 rfl rfl dX4_hasProp_11 ?_
      refine q_iload_n C dX4_hasProp_14 1 rfl ?_
      refine q_zald C 1 3 rfl rfl dX4_hasProp_15 h (fun h => ?_)
      refine q_if_eq C 23 dX4_hasProp_16 (by decide) h (fun h => ?_) (fun h => ?_)
      · refine q_iconst C (v := 0) dX4_hasProp_23 (by decide) ?_
        exact hret 0 () _ _ (Or.inl rfl) h dX4_hasProp_24
      · refine q_iconst C (v := 1) dX4_hasProp_19 (by decide) ?_
        refine q_goto (tgt := 24) C dX4_hasProp_20 (by decide) ?_
        exact hret 1 () _ _ (Or.inr rfl) h dX4_hasProp_24
theorem cX4_hasProp_ok (l : Launch) {D : va_G} {cB cI cJ cZ : ClassId} {aS aS_propped aT aS_stacks aS_heights aS_loose aS_foundOnes aS_sureOnes : Nat} {S_days S_carriedOut S_dug S_slid S_foundCount S_sureCount S_propCount : Int32} {S_propped : Nat → Int32} {p0 : Int32} {K : Int32 → Unit → Prop} (h : wX4_hasProp S_propped p0 K) : CtI l D (gT cB cI cJ cZ) yX4_hasProp cX4_hasProp 2 .boolean rmX4_hasProp [.ref aS, .int p0] [(aS, .inr (3, [.ref aT, .ref aS_stacks, .ref aS_heights, .ref aS_loose, .ref aS_propped, .ref aS_foundOnes, .ref aS_sureOnes, .int S_days, .int S_carriedOut, .int S_dug, .int S_slid, .int S_foundCount, .int S_sureCount, .int S_propCount])), (aS_propped, .inl (cZ, 8, .inl S_propped))] (fun u : Unit => [(aS, .inr (3, [.ref aT, .ref aS_stacks, .ref aS_heights, .ref aS_loose, .ref aS_propped, .ref aS_foundOnes, .ref aS_sureOnes, .int S_days, .int S_carriedOut, .int S_dug, .int S_slid, .int S_foundCount, .int S_sureCount, .int S_propCount])), (aS_propped, .inl (cZ, 8, .inl S_propped))]) (fun r u => (r = 0 ∨ r = 1) ∧ K r u) :=
  ct_startI (by decide +kernel) (by decide) (fun E A Q hE C hret => bX4_hasProp C (fun r u pc ls hb hk hd => hret r u pc ls (nar_bit hb) ⟨hb, hk⟩ hd) h)
abbrev rmX4_isLoose : Room := { frames := 0, cells := 0, slots := 0, locals := 0 }
def wX4_isLoose (S_loose : Nat → Int32) (p0 : Int32) (K : Int32 → Unit → Prop) : Prop :=
  ((p0 < 0 → K 0 ()) ∧ (¬ p0 < 0 → ((80 ≤ p0 → K 0 ()) ∧ (¬ 80 ≤ p0 → vp_in p0 80 ∧ (((S_loose p0.toNatClampNeg = 0 → K 0 ()) ∧ (¬ S_loose p0.toNatClampNeg = 0 → K 1 ())))))))
set_option maxRecDepth 100000 in
set_option maxHeartbeats 4000000 in
theorem bX4_isLoose {D : va_G} {cB cI cJ cZ : ClassId} {E : gE} {A : Nat → Prop} {Q : State → Prop} {aS aS_loose aT aS_stacks aS_heights aS_propped aS_foundOnes aS_sureOnes : Nat} {S_days S_carriedOut S_dug S_slid S_foundCount S_sureCount S_propCount : Int32} {S_loose : Nat → Int32} (C : Cx D (gT cB cI cJ cZ) E rmX4_isLoose cX4_isLoose 2 RX4 A) {p0 : Int32} {K : Int32 → Unit → Prop} (hret : ∀ (r : Int32) (u : Unit) (pc : Nat) (ls : List (Nat × Value)), (r = 0 ∨ r = 1) → K r u → decode cX4_isLoose pc = .ok (.ireturn, 1) → Go D E A Q 2 0 0 [(aS, .inr (3, [.ref aT, .ref aS_stacks, .ref aS_heights, .ref aS_loose, .ref aS_propped, .ref aS_foundOnes, .ref aS_sureOnes, .int S_days, .int S_carriedOut, .int S_dug, .int S_slid, .int S_foundCount, .int S_sureCount, .int S_propCount])), (aS_loose, .inl (cZ, 80, .inl S_loose))] ls pc [.int r]) (h : wX4_isLoose S_loose p0 K) : Go D E A Q 2 0 0 [(aS, .inr (3, [.ref aT, .ref aS_stacks, .ref aS_heights, .ref aS_loose, .ref aS_propped, .ref aS_foundOnes, .ref aS_sureOnes, .int S_days, .int S_carriedOut, .int S_dug, .int S_slid, .int S_foundCount, .int S_sureCount, .int S_propCount])), (aS_loose, .inl (cZ, 80, .inl S_loose))] [(0, .ref aS), (1, .int p0)] 0 [] := by
  unfold wX4_isLoose at h
  refine q_iload_n C dX4_isLoose_0 1 rfl ?_
  refine q_if_lt C 23 dX4_isLoose_1 (by decide) h (fun h => ?_) (fun h => ?_)
  · refine q_iconst C (v := 0) dX4_isLoose_23 (by decide) ?_
    exact hret 0 () _ _ (Or.inl rfl) h dX4_isLoose_24
  · refine q_iload_n C dX4_isLoose_4 1 rfl ?_
    refine q_bipush C (v := 80) dX4_isLoose_5 (by decide) ?_
    refine q_icmp_ge C 23 dX4_isLoose_7 (by decide) h (fun h => ?_) (fun h => ?_)
    · refine q_iconst C (v := 0) dX4_isLoose_23 (by decide) ?_
      exact hret 0 () _ _ (Or.inl rfl) h dX4_isLoose_24
    · refine q_aload_n C dX4_isLoose_10 0 rfl ?_
      refine q_get C inX4g rfl 3 (by decide) fl_X4_18 rfl 0 rfl rfl dX4_isLoose_11 ?_
      refine q_iload_n C dX4_isLoose_14 1 rfl ?_
      refine q_zald C 1 3 rfl rfl dX4_isLoose_15 h (fun h => ?_)
      refine q_if_eq C 23 dX4_isLoose_16 (by decide) h (fun h => ?_) (fun h => ?_)
      · refine q_iconst C (v := 0) dX4_isLoose_23 (by decide) ?_
        exact hret 0 () _ _ (Or.inl rfl) h dX4_isLoose_24
      · refine q_iconst C (v := 1) dX4_isLoose_19 (by decide) ?_
        refine q_goto (tgt := 24) C dX4_isLoose_20 (by decide) ?_
        exact hret 1 () _ _ (Or.inr rfl) h dX4_isLoose_24
theorem cX4_isLoose_ok (l : Launch) {D : va_G} {cB cI cJ cZ : ClassId} {aS aS_loose aT aS_stacks aS_heights aS_propped aS_foundOnes aS_sureOnes : Nat} {S_days S_carriedOut S_dug S_slid S_foundCount S_sureCount S_propCount : Int32} {S_loose : Nat → Int32} {p0 : Int32} {K : Int32 → Unit → Prop} (h : wX4_isLoose S_loose p0 K) : CtI l D (gT cB cI cJ cZ) yX4_isLoose cX4_isLoose 2 .boolean rmX4_isLoose [.ref aS, .int p0] [(aS, .inr (3, [.ref aT, .ref aS_stacks, .ref aS_heights, .ref aS_loose, .ref aS_propped, .ref aS_foundOnes, .ref aS_sureOnes, .int S_days, .int S_carriedOut, .int S_dug, .int S_slid, .int S_foundCount, .int S_sureCount, .int S_propCount])), (aS_loose, .inl (cZ, 80, .inl S_loose))] (fun u : Unit => [(aS, .inr (3, [.ref aT, .ref aS_stacks, .ref aS_heights, .ref aS_loose, .ref aS_propped, .ref aS_foundOnes, .ref aS_sureOnes, .int S_days, .int S_carriedOut, .int S_dug, .int S_slid, .int S_foundCount, .int S_sureCount, .int S_propCount])), (aS_loose, .inl (cZ, 80, .inl S_loose))]) (fun r u => (r = 0 ∨ r = 1) ∧ K r u) :=
  ct_startI (by decide +kernel) (by decide) (fun E A Q hE C hret => bX4_isLoose C (fun r u pc ls hb hk hd => hret r u pc ls (nar_bit hb) ⟨hb, hk⟩ hd) h)
abbrev rmX4_wasFound : Room := { frames := 0, cells := 0, slots := 0, locals := 0 }
def wX4_wasFound (S_foundOnes : Nat → Int32) (p0 : Int32) (K : Int32 → Unit → Prop) : Prop :=
  ((p0 < 0 → K 0 ()) ∧ (¬ p0 < 0 → ((24 ≤ p0 → K 0 ()) ∧ (¬ 24 ≤ p0 → vp_in p0 24 ∧ (((S_foundOnes p0.toNatClampNeg = 0 → K 0 ()) ∧ (¬ S_foundOnes p0.toNatClampNeg = 0 → K 1 ())))))))
set_option maxRecDepth 100000 in
set_option maxHeartbeats 4000000 in
theorem bX4_wasFound {D : va_G} {cB cI cJ cZ : ClassId} {E : gE} {A : Nat → Prop} {Q : State → Prop} {aS aS_foundOnes aT aS_stacks aS_heights aS_loose aS_propped aS_sureOnes : Nat} {S_days S_carriedOut S_dug S_slid S_foundCount S_sureCount S_propCount : Int32} {S_foundOnes : Nat → Int32} (C : Cx D (gT cB cI cJ cZ) E rmX4_wasFound cX4_wasFound 2 RX4 A) {p0 : Int32} {K : Int32 → Unit → Prop} (hret : ∀ (r : Int32) (u : Unit) (pc : Nat) (ls : List (Nat × Value)), (r = 0 ∨ r = 1) → K r u → decode cX4_wasFound pc = .ok (.ireturn, 1) → Go D E A Q 2 0 0 [(aS, .inr (3, [.ref aT, .ref aS_stacks, .ref aS_heights, .ref aS_loose, .ref aS_propped, .ref aS_foundOnes, .ref aS_sureOnes, .int S_days, .int S_carriedOut, .int S_dug, .int S_slid, .int S_foundCount, .int S_sureCount, .int S_propCount])), (aS_foundOnes, .inl (cZ, 24, .inl S_foundOnes))] ls pc [.int r]) (h : wX4_wasFound S_foundOnes p0 K) : Go D E A Q 2 0 0 [(aS, .inr (3, [.ref aT, .ref aS_stacks, .ref aS_heights, .ref aS_loose, .ref aS_propped, .ref aS_foundOnes, .ref aS_sureOnes, .int S_days, .int S_carriedOut, .int S_dug, .int S_slid, .int S_foundCount, .int S_sureCount, .int S_propCount])), (aS_foundOnes, .inl (cZ, 24, .inl S_foundOnes))] [(0, .ref aS), (1, .int p0)] 0 [] := by
  unfold wX4_wasFound at h
  refine q_iload_n C dX4_wasFound_0 1 rfl ?_
  refine q_if_lt C 23 dX4_wasFound_1 (by decide) h (fun h => ?_) (fun h => ?_)
  · refine q_iconst C (v := 0) dX4_wasFound_23 (by decide) ?_
    exact hret 0 () _ _ (Or.inl rfl) h dX4_wasFound_24
  · refine q_iload_n C dX4_wasFound_4 1 rfl ?_
    refine q_bipush C (v := 24) dX4_wasFound_5 (by decide) ?_
    refine q_icmp_ge C 23 dX4_wasFound_7 (by decide) h (fun h => ?_) (fun h => ?_)
    · refine q_iconst C (v := 0) dX4_wasFound_23 (by decide) ?_
      exact hret 0 () _ _ (Or.inl rfl) h dX4_wasFound_24
    · refine q_aload_n C dX4_wasFound_10 0 rfl ?_
      refine q_get C inX4g rfl 5 (by decide) fl_X4_25 rfl 0 rfl rfl dX4_wasFound_11 ?_
      refine q_iload_n C dX4_wasFound_14 1 rfl ?_
      refine q_zald C 1 3 rfl rfl dX4_wasFound_15 h (fun h => ?_)
      refine q_if_eq C 23 dX4_wasFound_16 (by decide) h (fun h => ?_) (fun h => ?_)
      · refine q_iconst C (v := 0) dX4_wasFound_23 (by decide) ?_
        exact hret 0 () _ _ (Or.inl rfl) h dX4_wasFound_24
      · refine q_iconst C (v := 1) dX4_wasFound_19 (by decide) ?_
        refine q_goto (tgt := 24) C dX4_wasFound_20 (by decide) ?_
        exact hret 1 () _ _ (Or.inr rfl) h dX4_wasFound_24
theorem cX4_wasFound_ok (l : Launch) {D : va_G} {cB cI cJ cZ : ClassId} {aS aS_foundOnes aT aS_stacks aS_heights aS_loose aS_propped aS_sureOnes : Nat} {S_days S_carriedOut S_dug S_slid S_foundCount S_sureCount S_propCount : Int32} {S_foundOnes : Nat → Int32} {p0 : Int32} {K : Int32 → Unit → Prop} (h : wX4_wasFound S_foundOnes p0 K) : CtI l D (gT cB cI cJ cZ) yX4_wasFound cX4_wasFound 2 .boolean rmX4_wasFound [.ref aS, .int p0] [(aS, .inr (3, [.ref aT, .ref aS_stacks, .ref aS_heights, .ref aS_loose, .ref aS_propped, .ref aS_foundOnes, .ref aS_sureOnes, .int S_days, .int S_carriedOut, .int S_dug, .int S_slid, .int S_foundCount, .int S_sureCount, .int S_propCount])), (aS_foundOnes, .inl (cZ, 24, .inl S_foundOnes))] (fun u : Unit => [(aS, .inr (3, [.ref aT, .ref aS_stacks, .ref aS_heights, .ref aS_loose, .ref aS_propped, .ref aS_foundOnes, .ref aS_sureOnes, .int S_days, .int S_carriedOut, .int S_dug, .int S_slid, .int S_foundCount, .int S_sureCount, .int S_propCount])), (aS_foundOnes, .inl (cZ, 24, .inl S_foundOnes))]) (fun r u => (r = 0 ∨ r = 1) ∧ K r u) :=
  ct_startI (by decide +kernel) (by decide) (fun E A Q hE C hret => bX4_wasFound C (fun r u pc ls hb hk hd => hret r u pc ls (nar_bit hb) ⟨hb, hk⟩ hd) h)
abbrev rmX4_wasSure : Room := { frames := 0, cells := 0, slots := 0, locals := 0 }
def wX4_wasSure (S_sureOnes : Nat → Int32) (p0 : Int32) (K : Int32 → Unit → Prop) : Prop :=
  ((p0 < 0 → K 0 ()) ∧ (¬ p0 < 0 → ((24 ≤ p0 → K 0 ()) ∧ (¬ 24 ≤ p0 → vp_in p0 24 ∧ (((S_sureOnes p0.toNatClampNeg = 0 → K 0 ()) ∧ (¬ S_sureOnes p0.toNatClampNeg = 0 → K 1 ())))))))
set_option maxRecDepth 100000 in
set_option maxHeartbeats 4000000 in
theorem bX4_wasSure {D : va_G} {cB cI cJ cZ : ClassId} {E : gE} {A : Nat → Prop} {Q : State → Prop} {aS aS_sureOnes aT aS_stacks aS_heights aS_loose aS_propped aS_foundOnes : Nat} {S_days S_carriedOut S_dug S_slid S_foundCount S_sureCount S_propCount : Int32} {S_sureOnes : Nat → Int32} (C : Cx D (gT cB cI cJ cZ) E rmX4_wasSure cX4_wasSure 2 RX4 A) {p0 : Int32} {K : Int32 → Unit → Prop} (hret : ∀ (r : Int32) (u : Unit) (pc : Nat) (ls : List (Nat × Value)), (r = 0 ∨ r = 1) → K r u → decode cX4_wasSure pc = .ok (.ireturn, 1) → Go D E A Q 2 0 0 [(aS, .inr (3, [.ref aT, .ref aS_stacks, .ref aS_heights, .ref aS_loose, .ref aS_propped, .ref aS_foundOnes, .ref aS_sureOnes, .int S_days, .int S_carriedOut, .int S_dug, .int S_slid, .int S_foundCount, .int S_sureCount, .int S_propCount])), (aS_sureOnes, .inl (cZ, 24, .inl S_sureOnes))] ls pc [.int r]) (h : wX4_wasSure S_sureOnes p0 K) : Go D E A Q 2 0 0 [(aS, .inr (3, [.ref aT, .ref aS_stacks, .ref aS_heights, .ref aS_loose, .ref aS_propped, .ref aS_foundOnes, .ref aS_sureOnes, .int S_days, .int S_carriedOut, .int S_dug, .int S_slid, .int S_foundCount, .int S_sureCount, .int S_propCount])), (aS_sureOnes, .inl (cZ, 24, .inl S_sureOnes))] [(0, .ref aS), (1, .int p0)] 0 [] := by
  unfold wX4_wasSure at h
  refine q_iload_n C dX4_wasSure_0 1 rfl ?_
  refine q_if_lt C 23 dX4_wasSure_1 (by decide) h (fun h => ?_) (fun h => ?_)
  · refine q_iconst C (v := 0) dX4_wasSure_23 (by decide) ?_
    exact hret 0 () _ _ (Or.inl rfl) h dX4_wasSure_24
  · refine q_iload_n C dX4_wasSure_4 1 rfl ?_
    refine q_bipush C (v := 24) dX4_wasSure_5 (by decide) ?_
    refine q_icmp_ge C 23 dX4_wasSure_7 (by decide) h (fun h => ?_) (fun h => ?_)
    · refine q_iconst C (v := 0) dX4_wasSure_23 (by decide) ?_
      exact hret 0 () _ _ (Or.inl rfl) h dX4_wasSure_24
    · refine q_aload_n C dX4_wasSure_10 0 rfl ?_
      refine q_get C inX4g rfl 6 (by decide) fl_X4_28 rfl 0 rfl rfl dX4_wasSure_11 ?_
      refine q_iload_n C dX4_wasSure_14 1 rfl ?_
      refine q_zald C 1 3 rfl rfl dX4_wasSure_15 h (fun h => ?_)
      refine q_if_eq C 23 dX4_wasSure_16 (by decide) h (fun h => ?_) (fun h => ?_)
      · refine q_iconst C (v := 0) dX4_wasSure_23 (by decide) ?_
        exact hret 0 () _ _ (Or.inl rfl) h dX4_wasSure_24
      · refine q_iconst C (v := 1) dX4_wasSure_19 (by decide) ?_
        refine q_goto (tgt := 24) C dX4_wasSure_20 (by decide) ?_
        exact hret 1 () _ _ (Or.inr rfl) h dX4_wasSure_24
theorem cX4_wasSure_ok (l : Launch) {D : va_G} {cB cI cJ cZ : ClassId} {aS aS_sureOnes aT aS_stacks aS_heights aS_loose aS_propped aS_foundOnes : Nat} {S_days S_carriedOut S_dug S_slid S_foundCount S_sureCount S_propCount : Int32} {S_sureOnes : Nat → Int32} {p0 : Int32} {K : Int32 → Unit → Prop} (h : wX4_wasSure S_sureOnes p0 K) : CtI l D (gT cB cI cJ cZ) yX4_wasSure cX4_wasSure 2 .boolean rmX4_wasSure [.ref aS, .int p0] [(aS, .inr (3, [.ref aT, .ref aS_stacks, .ref aS_heights, .ref aS_loose, .ref aS_propped, .ref aS_foundOnes, .ref aS_sureOnes, .int S_days, .int S_carriedOut, .int S_dug, .int S_slid, .int S_foundCount, .int S_sureCount, .int S_propCount])), (aS_sureOnes, .inl (cZ, 24, .inl S_sureOnes))] (fun u : Unit => [(aS, .inr (3, [.ref aT, .ref aS_stacks, .ref aS_heights, .ref aS_loose, .ref aS_propped, .ref aS_foundOnes, .ref aS_sureOnes, .int S_days, .int S_carriedOut, .int S_dug, .int S_slid, .int S_foundCount, .int S_sureCount, .int S_propCount])), (aS_sureOnes, .inl (cZ, 24, .inl S_sureOnes))]) (fun r u => (r = 0 ∨ r = 1) ∧ K r u) :=
  ct_startI (by decide +kernel) (by decide) (fun E A Q hE C hret => bX4_wasSure C (fun r u pc ls hb hk hd => hret r u pc ls (nar_bit hb) ⟨hb, hk⟩ hd) h)
abbrev rmX4_cushionAt : Room := { frames := 0, cells := 0, slots := 0, locals := 0 }
def wX4_cushionAt (S_stacks : Nat → Int32) (p0 : Int32) (p1 : Int32) (K : Int32 → Unit → Prop) : Prop :=
  ((p0 < 0 → K (-1) ()) ∧ (¬ p0 < 0 → ((8 ≤ p0 → K (-1) ()) ∧ (¬ 8 ≤ p0 → ((p1 < 0 → K (-1) ()) ∧ (¬ p1 < 0 → ((p1 < 10 → vp_in ((p0 * 10) + p1) 80 ∧ (K (S_stacks ((p0 * 10) + p1).toNatClampNeg) ())) ∧ (¬ p1 < 10 → K (-1) ()))))))))
set_option maxRecDepth 100000 in
set_option maxHeartbeats 4000000 in
theorem bX4_cushionAt {D : va_G} {cB cI cJ cZ : ClassId} {E : gE} {A : Nat → Prop} {Q : State → Prop} {aS aS_stacks aT aS_heights aS_loose aS_propped aS_foundOnes aS_sureOnes : Nat} {S_days S_carriedOut S_dug S_slid S_foundCount S_sureCount S_propCount : Int32} {S_stacks : Nat → Int32} (C : Cx D (gT cB cI cJ cZ) E rmX4_cushionAt cX4_cushionAt 3 RX4 A) {p0 : Int32} {p1 : Int32} {K : Int32 → Unit → Prop} (hret : ∀ (r : Int32) (u : Unit) (pc : Nat) (ls : List (Nat × Value)), K r u → decode cX4_cushionAt pc = .ok (.ireturn, 1) → Go D E A Q 3 0 0 [(aS, .inr (3, [.ref aT, .ref aS_stacks, .ref aS_heights, .ref aS_loose, .ref aS_propped, .ref aS_foundOnes, .ref aS_sureOnes, .int S_days, .int S_carriedOut, .int S_dug, .int S_slid, .int S_foundCount, .int S_sureCount, .int S_propCount])), (aS_stacks, .inl (cI, 80, .inl S_stacks))] ls pc [.int r]) (h : wX4_cushionAt S_stacks p0 p1 K) : Go D E A Q 3 0 0 [(aS, .inr (3, [.ref aT, .ref aS_stacks, .ref aS_heights, .ref aS_loose, .ref aS_propped, .ref aS_foundOnes, .ref aS_sureOnes, .int S_days, .int S_carriedOut, .int S_dug, .int S_slid, .int S_foundCount, .int S_sureCount, .int S_propCount])), (aS_stacks, .inl (cI, 80, .inl S_stacks))] [(0, .ref aS), (1, .int p0), (2, .int p1)] 0 [] := by
  unfold wX4_cushionAt at h
  refine q_iload_n C dX4_cushionAt_0 1 rfl ?_
  refine q_if_lt C 20 dX4_cushionAt_1 (by decide) h (fun h => ?_) (fun h => ?_)
  · refine q_iconst C (v := (-1)) dX4_cushionAt_20 (by decide) ?_
    exact hret (-1) () _ _ h dX4_cushionAt_21
  · refine q_iload_n C dX4_cushionAt_4 1 rfl ?_
    refine q_bipush C (v := 8) dX4_cushionAt_5 (by decide) ?_
    refine q_icmp_ge C 20 dX4_cushionAt_7 (by decide) h (fun h => ?_) (fun h => ?_)
    · refine q_iconst C (v := (-1)) dX4_cushionAt_20 (by decide) ?_
      exact hret (-1) () _ _ h dX4_cushionAt_21
    · refine q_iload_n C dX4_cushionAt_10 2 rfl ?_
      refine q_if_lt C 20 dX4_cushionAt_11 (by decide) h (fun h => ?_) (fun h => ?_)
      · refine q_iconst C (v := (-1)) dX4_cushionAt_20 (by decide) ?_
        exact hret (-1) () _ _ h dX4_cushionAt_21
      · refine q_iload_n C dX4_cushionAt_14 2 rfl ?_
        refine q_bipush C (v := 10) dX4_cushionAt_15 (by decide) ?_
        refine q_icmp_lt C 22 dX4_cushionAt_17 (by decide) h (fun h => ?_) (fun h => ?_)
        · refine q_aload_n C dX4_cushionAt_22 0 rfl ?_
          refine q_get C inX4g rfl 1 (by decide) fl_X4_9 rfl 0 rfl rfl dX4_cushionAt_23 ?_
          refine q_iload_n C dX4_cushionAt_26 1 rfl ?_
          refine q_bipush C (v := 10) dX4_cushionAt_27 (by decide) ?_
          refine q_imul C dX4_cushionAt_29 ?_
          refine q_iload_n C dX4_cushionAt_30 2 rfl ?_
          refine q_iadd C dX4_cushionAt_31 ?_
          refine q_iald C 1 1 rfl rfl dX4_cushionAt_32 h (fun h => ?_)
          exact hret (S_stacks ((p0 * 10) + p1).toNatClampNeg) () _ _ h dX4_cushionAt_33
        · refine q_iconst C (v := (-1)) dX4_cushionAt_20 (by decide) ?_
          exact hret (-1) () _ _ h dX4_cushionAt_21
theorem cX4_cushionAt_ok (l : Launch) {D : va_G} {cB cI cJ cZ : ClassId} {aS aS_stacks aT aS_heights aS_loose aS_propped aS_foundOnes aS_sureOnes : Nat} {S_days S_carriedOut S_dug S_slid S_foundCount S_sureCount S_propCount : Int32} {S_stacks : Nat → Int32} {p0 : Int32} {p1 : Int32} {K : Int32 → Unit → Prop} (h : wX4_cushionAt S_stacks p0 p1 K) : CtI l D (gT cB cI cJ cZ) yX4_cushionAt cX4_cushionAt 3 .int rmX4_cushionAt [.ref aS, .int p0, .int p1] [(aS, .inr (3, [.ref aT, .ref aS_stacks, .ref aS_heights, .ref aS_loose, .ref aS_propped, .ref aS_foundOnes, .ref aS_sureOnes, .int S_days, .int S_carriedOut, .int S_dug, .int S_slid, .int S_foundCount, .int S_sureCount, .int S_propCount])), (aS_stacks, .inl (cI, 80, .inl S_stacks))] (fun u : Unit => [(aS, .inr (3, [.ref aT, .ref aS_stacks, .ref aS_heights, .ref aS_loose, .ref aS_propped, .ref aS_foundOnes, .ref aS_sureOnes, .int S_days, .int S_carriedOut, .int S_dug, .int S_slid, .int S_foundCount, .int S_sureCount, .int S_propCount])), (aS_stacks, .inl (cI, 80, .inl S_stacks))]) K :=
  ct_startI (by decide +kernel) (by decide) (fun E A Q hE C hret => bX4_cushionAt C (fun r u pc ls hk hd => hret r u pc ls rfl hk hd) h)
abbrev rmX4_topOf : Room := { frames := 1, cells := 0, slots := 0, locals := 22 }
def wX4_topOf (S_stacks : Nat → Int32) (S_heights : Nat → Int32) (p0 : Int32) (K : Int32 → Unit → Prop) : Prop :=
  wX4_heightAt S_heights p0 (fun r1 u1 => wX4_cushionAt S_stacks p0 (r1 - 1) (fun r2 u2 => K r2 ()))
set_option maxRecDepth 100000 in
set_option maxHeartbeats 4000000 in
theorem bX4_topOf {D : va_G} {cB cI cJ cZ : ClassId} {E : gE} {A : Nat → Prop} {Q : State → Prop} {aS aS_stacks aS_heights aT aS_loose aS_propped aS_foundOnes aS_sureOnes : Nat} {S_days S_carriedOut S_dug S_slid S_foundCount S_sureCount S_propCount : Int32} {S_stacks S_heights : Nat → Int32} (C : Cx D (gT cB cI cJ cZ) E rmX4_topOf cX4_topOf 2 RX4 A) {p0 : Int32} {K : Int32 → Unit → Prop} (hret : ∀ (r : Int32) (u : Unit) (pc : Nat) (ls : List (Nat × Value)), K r u → decode cX4_topOf pc = .ok (.ireturn, 1) → Go D E A Q 2 0 0 [(aS, .inr (3, [.ref aT, .ref aS_stacks, .ref aS_heights, .ref aS_loose, .ref aS_propped, .ref aS_foundOnes, .ref aS_sureOnes, .int S_days, .int S_carriedOut, .int S_dug, .int S_slid, .int S_foundCount, .int S_sureCount, .int S_propCount])), (aS_stacks, .inl (cI, 80, .inl S_stacks)), (aS_heights, .inl (cI, 8, .inl S_heights))] ls pc [.int r]) (h : wX4_topOf S_stacks S_heights p0 K) : Go D E A Q 2 0 0 [(aS, .inr (3, [.ref aT, .ref aS_stacks, .ref aS_heights, .ref aS_loose, .ref aS_propped, .ref aS_foundOnes, .ref aS_sureOnes, .int S_days, .int S_carriedOut, .int S_dug, .int S_slid, .int S_foundCount, .int S_sureCount, .int S_propCount])), (aS_stacks, .inl (cI, 80, .inl S_stacks)), (aS_heights, .inl (cI, 8, .inl S_heights))] [(0, .ref aS), (1, .int p0)] 0 [] := by
  unfold wX4_topOf at h
  refine q_aload_n C dX4_topOf_0 0 rfl ?_
  refine q_iload_n C dX4_topOf_1 1 rfl ?_
  refine q_aload_n C dX4_topOf_2 0 rfl ?_
  refine q_iload_n C dX4_topOf_3 1 rfl ?_
  refine q_callVI C (cX4_heightAt_ok _ h) cf_X4_69 im_X4_heightAt se_X4_heightAt 3 rfl rfl rfl rfl ⟨Nat.le_of_ble_eq_true rfl, Nat.le_of_ble_eq_true rfl⟩ ⟨Nat.le_of_ble_eq_true rfl, Nat.le_of_ble_eq_true rfl⟩ 0 0 ⟨rfl, rfl⟩ [0, 2] [1] (wr := [(aS_stacks, .inl (cI, 80, .inl S_stacks))]) rfl rfl rfl rfl (by decide) (fun u1 : Unit => [(aS, .inr (3, [.ref aT, .ref aS_stacks, .ref aS_heights, .ref aS_loose, .ref aS_propped, .ref aS_foundOnes, .ref aS_sureOnes, .int S_days, .int S_carriedOut, .int S_dug, .int S_slid, .int S_foundCount, .int S_sureCount, .int S_propCount])), (aS_stacks, .inl (cI, 80, .inl S_stacks)), (aS_heights, .inl (cI, 8, .inl S_heights))]) [1, 0, 2] rfl (fun _ => rfl) (rest := [.int p0, .ref aS]) rfl (by decide) dX4_topOf_4 (fun r1 u1 h => ?_)
  refine q_iconst C (v := 1) dX4_topOf_7 (by decide) ?_
  refine q_isub C dX4_topOf_8 ?_
  refine q_callVI C (cX4_cushionAt_ok _ h) cf_X4_73 im_X4_cushionAt se_X4_cushionAt 3 rfl rfl rfl rfl ⟨Nat.le_of_ble_eq_true rfl, Nat.le_of_ble_eq_true rfl⟩ ⟨Nat.le_of_ble_eq_true rfl, Nat.le_of_ble_eq_true rfl⟩ 0 0 ⟨rfl, rfl⟩ [0, 1] [2] (wr := [(aS_heights, .inl (cI, 8, .inl S_heights))]) rfl rfl rfl rfl (by decide) (fun u2 : Unit => [(aS, .inr (3, [.ref aT, .ref aS_stacks, .ref aS_heights, .ref aS_loose, .ref aS_propped, .ref aS_foundOnes, .ref aS_sureOnes, .int S_days, .int S_carriedOut, .int S_dug, .int S_slid, .int S_foundCount, .int S_sureCount, .int S_propCount])), (aS_stacks, .inl (cI, 80, .inl S_stacks)), (aS_heights, .inl (cI, 8, .inl S_heights))]) [1, 2, 0] rfl (fun _ => rfl) (rest := []) rfl (by decide) dX4_topOf_9 (fun r2 u2 h => ?_)
  exact hret r2 () _ _ h dX4_topOf_12
theorem cX4_topOf_ok (l : Launch) {D : va_G} {cB cI cJ cZ : ClassId} {aS aS_stacks aS_heights aT aS_loose aS_propped aS_foundOnes aS_sureOnes : Nat} {S_days S_carriedOut S_dug S_slid S_foundCount S_sureCount S_propCount : Int32} {S_stacks S_heights : Nat → Int32} {p0 : Int32} {K : Int32 → Unit → Prop} (h : wX4_topOf S_stacks S_heights p0 K) : CtI l D (gT cB cI cJ cZ) yX4_topOf cX4_topOf 2 .int rmX4_topOf [.ref aS, .int p0] [(aS, .inr (3, [.ref aT, .ref aS_stacks, .ref aS_heights, .ref aS_loose, .ref aS_propped, .ref aS_foundOnes, .ref aS_sureOnes, .int S_days, .int S_carriedOut, .int S_dug, .int S_slid, .int S_foundCount, .int S_sureCount, .int S_propCount])), (aS_stacks, .inl (cI, 80, .inl S_stacks)), (aS_heights, .inl (cI, 8, .inl S_heights))] (fun u : Unit => [(aS, .inr (3, [.ref aT, .ref aS_stacks, .ref aS_heights, .ref aS_loose, .ref aS_propped, .ref aS_foundOnes, .ref aS_sureOnes, .int S_days, .int S_carriedOut, .int S_dug, .int S_slid, .int S_foundCount, .int S_sureCount, .int S_propCount])), (aS_stacks, .inl (cI, 80, .inl S_stacks)), (aS_heights, .inl (cI, 8, .inl S_heights))]) K :=
  ct_startI (by decide +kernel) (by decide) (fun E A Q hE C hret => bX4_topOf C (fun r u pc ls hk hd => hret r u pc ls rfl hk hd) h)
