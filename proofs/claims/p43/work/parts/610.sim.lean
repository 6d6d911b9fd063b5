/-! PURE: the law's own sofa in the heap. ad: its places: 0 the object, 1-7 its arrays, 10+ the stacks, 20+ the empires, 30+ the finds, 60+ the cushions. -/
def uA (t : Tl) (i : Nat) : Prop := i ≤ 7 ∨ (10 ≤ i ∧ i < 10 + tN t) ∨ (20 ≤ i ∧ i < 20 + tE t) ∨ (30 ≤ i ∧ i < 30 + tF t) ∨ (60 ≤ i ∧ (i - 60) / 10 < tN t ∧ (i - 60) % 10 < tM t)
def clT (t : Tl) (c : Nat) : Prop := c / 10 < tN t ∧ c % 10 < tM t
abbrev smV (ad : Nat → Nat) (t : Tl) (dy ca du sl : Int32) : List Value := [.int (nI (tM t)), .ref (ad 1), .ref (ad 2), .ref (ad 3), .ref (ad 4), .ref (ad 5), .ref (ad 6), .ref (ad 7), .int dy, .int ca, .int du, .int sl]
def smO (Z : gZ) (H : gH) (ad : Nat → Nat) (t : Tl) (dy ca du sl : Int32) : Prop := hpG H (ad 0) = some (.inr (8, smV ad t dy ca du sl))
def smS (Z : gZ) (H : gH) (ad : Nat → Nat) (t : Tl) : Prop := ∃ f, hpG H (ad 1) = some (qE (zY Z 5) (tN t) f) ∧ ∀ s, s < tN t → f s = some (ad (10 + s))
def smR (Z : gZ) (H : gH) (ad : Nat → Nat) (t : Tl) (a : Sg) : Prop := ∀ s, s < tN t → ∃ f, hpG H (ad (10 + s)) = some (qE (zY Z 4) (a.2.1 s) f) ∧ ∀ j, j < a.2.1 s → f j = some (ad (60 + a.1 (s * 10 + j)))
def smC (Z : gZ) (H : gH) (ad : Nat → Nat) (t : Tl) (a : Sg) : Prop := ∀ c, clT t c → ∃ f, hpG H (ad (60 + c)) = some (iE (zY Z 1) 4 f) ∧ f 0 = nI (c % 10) ∧ f 1 = fI (tFi t c) ∧ f 2 = zB1w (tSp t c) ∧ f 3 = zB1w (a.2.2 c)
def smF (Z : gZ) (H : gH) (ad : Nat → Nat) (t : Tl) : Prop := ∃ f, hpG H (ad 2) = some (qE (zY Z 4) (tF t) f) ∧ ∀ i, i < tF t → f i = some (ad (30 + i))
def smD (Z : gZ) (H : gH) (ad : Nat → Nat) (t : Tl) (fa : Nat → Nat) : Prop := ∀ i, i < tF t → ∃ f, hpG H (ad (30 + i)) = some (iE (zY Z 1) 4 f) ∧ f 0 = zB1w (tCo t i) ∧ f 1 = nI (tCu t i % 10) ∧ f 2 = tDe t i ∧ f 3 = nI (fa i)
def smE (Z : gZ) (H : gH) (ad : Nat → Nat) (t : Tl) : Prop := ∃ f, hpG H (ad 3) = some (qE (zY Z 4) (tE t) f) ∧ ∀ i, i < tE t → f i = some (ad (20 + i))
def smG (Z : gZ) (H : gH) (ad : Nat → Nat) (t : Tl) : Prop := ∀ i, i < tE t → ∃ f, hpG H (ad (20 + i)) = some (iE (zY Z 1) 2 f) ∧ f 0 = tFr t i ∧ f 1 = tTo t i
def smP (Z : gZ) (H : gH) (ad : Nat → Nat) (t : Tl) (pr : Nat → Bool) : Prop := ∃ f, hpG H (ad 4) = some (iE (zY Z 3) (tN t) f) ∧ rB (tN t) f pr
def smI (ad : Nat → Nat) (t : Tl) : Prop := ∀ i j, uA t i → uA t j → ad i = ad j → i = j
def smL (H : gH) (ad : Nat → Nat) : Prop := ∀ i, 5 ≤ i → i ≤ 7 → ∃ c, hpG H (ad i) = some (.inl c)
/-- the whole -/
def SimAt (Z : gZ) (H : gH) (ad : Nat → Nat) (t : Tl) (a : Sg) (pr : Nat → Bool) (fa : Nat → Nat) (dy ca du sl : Int32) : Prop :=
  smO Z H ad t dy ca du sl ∧ smS Z H ad t ∧ smR Z H ad t a ∧ smC Z H ad t a ∧ smF Z H ad t ∧ smD Z H ad t fa ∧ smE Z H ad t ∧ smG Z H ad t ∧ smP Z H ad t pr ∧ (smI ad t ∧ smL H ad) ∧ ∀ s j, j < a.2.1 s → clT t (a.1 (s * 10 + j))
theorem clT_80 {t : Tl} (wt : wfT t) {c : Nat} (h : clT t c) : c < 80 := by
  have := wt.1.2
  have := h.1
  omega
section SIM
variable {Z : gZ} {H : gH} {ad : Nat → Nat} {t : Tl} {a : Sg} {pr : Nat → Bool} {fa : Nat → Nat} {dy ca du sl : Int32} {K : Int32 → Prop}
theorem sm_props (S : SimAt Z H ad t a pr fa dy ca du sl) (n8 : tN t ≤ 8) (k : K (nI (fb_ct pr (tN t)))) : wX9_props Z H (ad 0) K := by
  obtain ⟨h0, -, -, -, -, -, -, -, ⟨f, h4, hf⟩, -⟩ := S
  have lp : ∀ m i, i + m = tN t → wX9_props_13 K Z H (m + 1) (nI (fb_ct pr i)) (ad 4) (nI (tN t)) (nI i) := by
    intro m
    induction m with
    | zero =>
      intro i hi
      rw [show i = tN t by omega]
      exact br_t (nI_le (Nat.le_refl _) (by omega)) k
    | succ m ih =>
      intro i hi
      refine br_f (nI_ge (by omega) (by omega)) ⟨tN t, f, h4, vp_in_nI (by omega) (by omega), ?_⟩
      have e1 : f (nI i).toNatClampNeg = zB1w (pr i) := by rw [nI_clamp (by omega)]; exact hf i (by omega)
      have nx : wX9_props_13 K Z H (m + 1) (nI (fb_ct pr i) + zB1w (pr i)) (ad 4) (nI (tN t)) (nI i + 1) := by
        have := ih (i + 1) (by omega)
        rw [fb_ct_succ] at this
        rw [show nI i + 1 = nI (i + 1) from nI_add i 1]
        cases e : pr i
        · rw [e] at this
          show wX9_props_13 K Z H (m + 1) (nI (fb_ct pr i) + 0) _ _ _
          rw [show nI (fb_ct pr i) + 0 = nI (fb_ct pr i + 0) from nI_add _ 0]
          exact this
        · rw [e] at this
          show wX9_props_13 K Z H (m + 1) (nI (fb_ct pr i) + 1) _ _ _
          rw [show nI (fb_ct pr i) + 1 = nI (fb_ct pr i + 1) from nI_add _ 1]
          exact this
      rw [e1]
      cases e : pr i
      · rw [e] at nx
        exact br_t rfl nx
      · rw [e] at nx
        exact br_f (by decide) nx
  unfold wX9_props
  exact ⟨ad 4, gF_of h0 rfl, tN t, f, h4, tN t + 1, lp (tN t) 0 (by omega)⟩
/-- one row of the finds, its place c -/
theorem sm_row (S : SimAt Z H ad t a pr fa dy ca du sl) {i : Nat} (hi : i < tF t) : ∃ f, hpG H (ad (30 + i)) = some (iE (zY Z 1) 4 f) ∧ f 0 = zB1w (tCo t i) ∧ f 1 = nI (tCu t i % 10) ∧ f 2 = tDe t i ∧ f 3 = nI (fa i) := S.2.2.2.2.2.1 i hi
theorem sm_found (S : SimAt Z H ad t a pr fa dy ca du sl) (n24 : tF t ≤ 24) (f2 : ∀ f, fa f ≤ 2) {l : Nat} (hl : l ≤ 2) (k : K (nI (fb_ct (fun f => decide (l ≤ fa f)) (tF t)))) : wX9_found Z H (ad 0) (nI l) K := by
  obtain ⟨f, h2, hf⟩ := S.2.2.2.2.1
  have lp : ∀ m i, i + m = tF t → wX9_found_14 K Z H (m + 1) (nI l) (nI (fb_ct (fun f => decide (l ≤ fa f)) i)) (ad 2) (nI (tF t)) (nI i) := by
    intro m
    induction m with
    | zero =>
      intro i hi
      rw [show i = tF t by omega]
      exact br_t (nI_le (Nat.le_refl _) (by omega)) k
    | succ m ih =>
      intro i hi
      obtain ⟨g, g1, -, -, -, g5⟩ := sm_row S (show i < tF t by omega)
      have nx := ih (i + 1) (by omega)
      rw [fb_ct_succ] at nx
      have f2i := f2 i
      refine br_f (nI_ge (by omega) (by omega)) ⟨tF t, f, ad (30 + i), h2, vp_in_nI (by omega) (by omega), by rw [nI_clamp (by omega)]; exact hf i (by omega), 4, g, g1, by unfold vp_in; decide, ?_⟩
      rw [show (3 : Int32).toNatClampNeg = 3 from rfl, g5]
      by_cases z : l ≤ fa i
      · refine br_f (nI_nlt z (by omega)) ?_
        rw [decide_eq_true z] at nx
        unfold wX9_found_41
        rw [show nI i + 1 = nI (i + 1) from nI_add i 1, show nI (fb_ct (fun f => decide (l ≤ fa f)) i) + 1 = nI (fb_ct (fun f => decide (l ≤ fa f)) i + 1) from nI_add _ 1]
        exact nx
      · refine br_t (nI_lt (by omega) (by omega)) ?_
        rw [decide_eq_false z] at nx
        unfold wX9_found_41
        rw [show nI i + 1 = nI (i + 1) from nI_add i 1, show nI (fb_ct (fun f => decide (l ≤ fa f)) i) + 0 = nI (fb_ct (fun f => decide (l ≤ fa f)) i + 0) from nI_add _ 0]
        exact nx
  unfold wX9_found
  exact ⟨ad 2, gF_of S.1 rfl, tF t, f, h2, tF t + 1, lp (tF t) 0 (by omega)⟩
theorem sm_isSure (S : SimAt Z H ad t a pr fa dy ca du sl) (n24 : tF t ≤ 24) (f2 : ∀ f, fa f ≤ 2) (h24 : ∀ f, tF t ≤ f → fa f = 0) (x : Int32) (k : K (zB1w (suB fa x))) : wX9_isSure Z H (ad 0) x K := by
  obtain ⟨f, h2, hf⟩ := S.2.2.2.2.1
  unfold wX9_isSure
  by_cases z : x < 0
  · refine br_t z ?_
    have e : suB fa x = false := by
      unfold suB
      rw [decide_eq_false (fun y => by have := y.1; rw [fa_le] at this; rw [fa_lt] at z; omega)]
      rfl
    rw [e] at k
    exact k
  · obtain ⟨i, hi, rfl⟩ := nI_of z
    refine br_f z ⟨ad 2, gF_of S.1 rfl, tF t, f, h2, ?_⟩
    have ec : (nI i).toNatClampNeg = i := nI_clamp hi
    by_cases z2 : tF t ≤ i
    · refine br_t (nI_le z2 hi) ?_
      have e : suB fa (nI i) = false := by
        unfold suB
        rw [ec, h24 i z2]
        simp
      rw [e] at k
      exact k
    · obtain ⟨g, g1, -, -, -, g5⟩ := sm_row S (show i < tF t by omega)
      refine br_f (nI_ge (by omega) (by omega)) ⟨ad 2, gF_of S.1 rfl, tF t, f, ad (30 + i), h2, vp_in_nI (by omega) (by omega), by rw [ec]; exact hf i (by omega), 4, g, g1, by unfold vp_in; decide, ?_⟩
      rw [show (3 : Int32).toNatClampNeg = 3 from rfl, g5]
      have e : suB fa (nI i) = decide (fa i = 2) := by
        unfold suB
        rw [ec, decide_eq_true (show (0 : Int32) ≤ nI i ∧ nI i < 24 from ⟨nI_le (a := 0) (by omega) hi, nI_lt (b := 24) (by omega) (by decide)⟩)]
        rfl
      rw [e] at k
      have f2i := f2 i
      by_cases z3 : fa i = 2
      · rw [decide_eq_true z3] at k
        exact bn_t (by rw [z3]; rfl) k
      · rw [decide_eq_false z3] at k
        exact bn_f (fun y => z3 ((nI_eq (by omega) (by decide)).mp (show nI (fa i) = nI 2 from y))) k
theorem sm_isSeen (S : SimAt Z H ad t a pr fa dy ca du sl) (n24 : tF t ≤ 24) (f2 : ∀ f, fa f ≤ 2) {e : Nat} (k : K (zB1w (anyB (snP0 t fa e) (tF t)))) : wX9_isSeen Z H (ad 0) (nI e) K := by
  obtain ⟨f, h2, hf⟩ := S.2.2.2.2.1
  have lp : ∀ m i, i + m = tF t → (∀ j, j < i → snP0 t fa e j = false) → wX9_isSeen_11 K Z H (m + 1) (nI e) (ad 2) (nI (tF t)) (nI i) := by
    intro m
    induction m with
    | zero =>
      intro i hi hno
      refine br_t (nI_le (by omega) (by omega)) ?_
      rw [anyB_f (fun j hj => hno j (by omega))] at k
      exact k
    | succ m ih =>
      intro i hi hno
      obtain ⟨g, g1, g2, -, g4, g5⟩ := sm_row S (show i < tF t by omega)
      have f2i := f2 i
      have nx : snP0 t fa e i = false → wX9_isSeen_48 K (wX9_isSeen_11 K Z H (m + 1)) Z H (nI e) (ad 2) (nI (tF t)) (nI i) := fun e9 => by
        unfold wX9_isSeen_48
        rw [show nI i + 1 = nI (i + 1) from nI_add i 1]
        refine ih (i + 1) (by omega) (fun j hj => ?_)
        by_cases z : j = i
        · rw [z]; exact e9
        · exact hno j (by omega)
      have i3 : (3 : Int32).toNatClampNeg = 3 := rfl
      have i2 : (2 : Int32).toNatClampNeg = 2 := rfl
      have i0 : (0 : Int32).toNatClampNeg = 0 := rfl
      refine br_f (nI_ge (by omega) (by omega)) ⟨tF t, f, ad (30 + i), h2, vp_in_nI (by omega) (by omega), by rw [nI_clamp (by omega)]; exact hf i (by omega), 4, g, g1, by unfold vp_in; decide, ?_⟩
      rw [i0, g2]
      cases ec : tCo t i
      · refine bn_t rfl ⟨4, g, g1, by unfold vp_in; decide, ?_⟩
        rw [i2, g4]
        by_cases z : tDe t i = nI e
        · refine bn_t z ⟨4, g, g1, by unfold vp_in; decide, ?_⟩
          rw [i3, g5]
          by_cases z3 : fa i = 2
          · refine bn_t (by rw [z3]; rfl) ?_
            rw [anyB_t (i := i) (by omega) (by simp [snP0, ec, z, z3])] at k
            exact k
          · exact bn_f (fun y => z3 ((nI_eq (by omega) (by decide)).mp (show nI (fa i) = nI 2 from y))) (nx (by simp [snP0, z3]))
        · exact bn_f z (nx (by simp [snP0, z]))
      · exact bn_f (by decide) (nx (by simp [snP0, ec]))
  unfold wX9_isSeen
  exact ⟨ad 2, gF_of S.1 rfl, tF t, f, h2, tF t + 1, lp (tF t) 0 (by omega) (fun j hj => absurd hj (Nat.not_lt_zero j))⟩
theorem sm_isSeenIn (S : SimAt Z H ad t a pr fa dy ca du sl) (n24 : tF t ≤ 24) (f2 : ∀ f, fa f ≤ 2) {q e : Nat} (hq : q < 10) (k : K (zB1w (anyB (snP t fa q e) (tF t)))) : wX9_isSeenIn Z H (ad 0) (nI q) (nI e) K := by
  obtain ⟨f, h2, hf⟩ := S.2.2.2.2.1
  have lp : ∀ m i, i + m = tF t → (∀ j, j < i → snP t fa q e j = false) → wX9_isSeenIn_12 K Z H (m + 1) (nI q) (nI e) (ad 2) (nI (tF t)) (nI i) := by
    intro m
    induction m with
    | zero =>
      intro i hi hno
      refine br_t (nI_le (by omega) (by omega)) ?_
      rw [anyB_f (fun j hj => hno j (by omega))] at k
      exact k
    | succ m ih =>
      intro i hi hno
      obtain ⟨g, g1, g2, g3, g4, g5⟩ := sm_row S (show i < tF t by omega)
      have f2i := f2 i
      have nx : snP t fa q e i = false → wX9_isSeenIn_58 K (wX9_isSeenIn_12 K Z H (m + 1)) Z H (nI q) (nI e) (ad 2) (nI (tF t)) (nI i) := fun e9 => by
        unfold wX9_isSeenIn_58
        rw [show nI i + 1 = nI (i + 1) from nI_add i 1]
        refine ih (i + 1) (by omega) (fun j hj => ?_)
        by_cases z : j = i
        · rw [z]; exact e9
        · exact hno j (by omega)
      have i3 : (3 : Int32).toNatClampNeg = 3 := rfl
      have i2 : (2 : Int32).toNatClampNeg = 2 := rfl
      have i1 : (1 : Int32).toNatClampNeg = 1 := rfl
      have i0 : (0 : Int32).toNatClampNeg = 0 := rfl
      refine br_f (nI_ge (by omega) (by omega)) ⟨tF t, f, ad (30 + i), h2, vp_in_nI (by omega) (by omega), by rw [nI_clamp (by omega)]; exact hf i (by omega), 4, g, g1, by unfold vp_in; decide, ?_⟩
      rw [i0, g2]
      cases ec : tCo t i
      · refine bn_t rfl ⟨4, g, g1, by unfold vp_in; decide, ?_⟩
        rw [i2, g4]
        by_cases z : tDe t i = nI e
        · refine bn_t z ⟨4, g, g1, by unfold vp_in; decide, ?_⟩
          rw [i3, g5]
          by_cases z3 : fa i = 2
          · refine bn_t (by rw [z3]; rfl) ⟨4, g, g1, by unfold vp_in; decide, ?_⟩
            rw [i1, g3]
            by_cases z4 : tCu t i % 10 = q
            · refine bn_t (by rw [z4]) ?_
              rw [anyB_t (i := i) (by omega) (by simp [snP, ec, z, z3, z4])] at k
              exact k
            · exact bn_f (fun y => z4 ((nI_eq (by omega) (by omega)).mp y)) (nx (by simp [snP, z4]))
          · exact bn_f (fun y => z3 ((nI_eq (by omega) (by decide)).mp (show nI (fa i) = nI 2 from y))) (nx (by simp [snP, z3]))
        · exact bn_f z (nx (by simp [snP, z]))
      · exact bn_f (by decide) (nx (by simp [snP, ec]))
  unfold wX9_isSeenIn
  exact ⟨ad 2, gF_of S.1 rfl, tF t, f, h2, tF t + 1, lp (tF t) 0 (by omega) (fun j hj => absurd hj (Nat.not_lt_zero j))⟩
theorem sm_left (S : SimAt Z H ad t a pr fa dy ca du sl) (wt : wfT t) (w : wfS (tN t) a) {s : Nat} (hs : s < tN t) (k : K (nI (lf t a s))) : wX9_left Z H (ad 0) (nI s) K := by
  obtain ⟨f, h1, hf⟩ := S.2.1
  obtain ⟨g, g1, hg⟩ := S.2.2.1 s hs
  have n8 := wt.1.2
  have h10 := w.1 s
  have ht := S.2.2.2.2.2.2.2.2.2.2
  have lp : ∀ m i, i + m = a.2.1 s → wX9_left_16 K Z H (m + 1) (nI (fb_ct (lfP t a s) i)) (ad (10 + s)) (nI (a.2.1 s)) (nI i) := by
    intro m
    induction m with
    | zero =>
      intro i hi
      have hi' : i = a.2.1 s := by omega
      subst hi'
      exact br_t (nI_le (Nat.le_refl _) (by omega)) k
    | succ m ih =>
      intro i hi
      obtain ⟨r, r1, -, r3, -⟩ := S.2.2.2.1 _ (ht s i (by omega))
      have nx := ih (i + 1) (by omega)
      rw [fb_ct_succ] at nx
      refine br_f (nI_ge (by omega) (by omega)) ⟨a.2.1 s, g, ad (60 + a.1 (s * 10 + i)), g1, vp_in_nI (by omega) (by omega), by rw [nI_clamp (by omega)]; exact hg i (by omega), 4, r, r1, by unfold vp_in; decide, ?_⟩
      rw [show (1 : Int32).toNatClampNeg = 1 from rfl, r3]
      have hc := clT_80 wt (ht s i (by omega))
      cases e : tFi t (a.1 (s * 10 + i)) with
      | none =>
        refine br_t (show (-1 : Int32) < 0 by decide) ?_
        rw [show lfP t a s i = false by simp [lfP, e]] at nx
        unfold wX9_left_42
        rw [show nI i + 1 = nI (i + 1) from nI_add i 1, show nI (fb_ct (lfP t a s) i) + 0 = nI (fb_ct (lfP t a s) i + 0) from nI_add _ 0]
        exact nx
      | some v =>
        have hv := (wt.2.2.2.2.2.1 _ v hc e).1
        have h24 := wt.2.2.2.1
        refine br_f (show ¬ nI v < 0 from nI_pos (by omega)) ?_
        rw [show lfP t a s i = true by simp [lfP, e]] at nx
        unfold wX9_left_42
        rw [show nI i + 1 = nI (i + 1) from nI_add i 1, show nI (fb_ct (lfP t a s) i) + 1 = nI (fb_ct (lfP t a s) i + 1) from nI_add _ 1]
        exact nx
  unfold wX9_left
  exact ⟨ad 1, gF_of S.1 rfl, tN t, f, ad (10 + s), h1, vp_in_nI hs (by omega), by rw [nI_clamp (by omega)]; exact hf s hs, a.2.1 s, g, g1, a.2.1 s + 1, lp (a.2.1 s) 0 (by omega)⟩
end SIM
