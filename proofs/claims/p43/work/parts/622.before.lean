/-! PURE: the law's own sofa: the year that a stratum isn't before. -/
section SBEF
variable {Z : gZ} {H : gH} {ad : Nat → Nat} {t : Tl} {a : Sg} {pr : Nat → Bool} {fa : Nat → Nat} {dy ca du sl : Int32} {K : Int32 → Prop}
theorem sm_notBefore (S : SimAt Z H ad t a pr fa dy ca du sl) (wt : wfT t) (f2 : ∀ f, fa f ≤ 2) {q : Nat} (hq : q < 10) (k : K (eyr t fa q (tF t))) : wX9_notBefore Z H (ad 0) (nI q) K := by
  obtain ⟨f, h2, hf⟩ := S.2.2.2.2.1
  obtain ⟨fe, h3, he⟩ := S.2.2.2.2.2.2.1
  have n24 := wt.2.2.2.1
  have e6 := wt.2.2.1
  have lp : ∀ m i, i + m = tF t → wX9_notBefore_14 K Z H (m + 1) (ad 0) (nI q) (eyr t fa q i) (ad 2) (nI (tF t)) (nI i) := by
    intro m
    induction m with
    | zero =>
      intro i hi
      rw [show i = tF t by omega]
      exact br_t (nI_le (Nat.le_refl _) (by omega)) k
    | succ m ih =>
      intro i hi
      have hit : i < tF t := by omega
      obtain ⟨g, g1, g2, g3, g4, g5⟩ := sm_row S hit
      have f2i := f2 i
      have i3 : (3 : Int32).toNatClampNeg = 3 := rfl
      have i2 : (2 : Int32).toNatClampNeg = 2 := rfl
      have i1 : (1 : Int32).toNatClampNeg = 1 := rfl
      have i0 : (0 : Int32).toNatClampNeg = 0 := rfl
      have nx := ih (i + 1) (by omega)
      have s80 : ∀ y, y = eyr t fa q (i + 1) → wX9_notBefore_80 K (wX9_notBefore_14 K Z H (m + 1)) Z H (ad 0) (nI q) y (ad 2) (nI (tF t)) (nI i) := fun y hy => by
        unfold wX9_notBefore_80
        rw [show nI i + 1 = nI (i + 1) from nI_add i 1, hy]
        exact nx
      have s53 : wX9_notBefore_53 K (wX9_notBefore_14 K Z H (m + 1)) Z H (ad 0) (nI q) (eyr t fa q i) (ad 2) (nI (tF t)) (nI i) (ad (30 + i)) (yrF t i) := by
        unfold wX9_notBefore_53
        refine ⟨4, g, g1, by unfold vp_in; decide, ?_⟩
        rw [i3, g5]
        by_cases z : fa i = 2
        · refine bn_t (by rw [z]; rfl) ⟨4, g, g1, by unfold vp_in; decide, ?_⟩
          rw [i1, g3]
          by_cases z2 : tCu t i % 10 ≤ q
          · refine br_f (nI_nlt z2 (by omega)) ?_
            have eq9 : eyr t fa q (i + 1) = g_max (eyr t fa q i) (yrF t i) := by
              rw [eyr, if_pos ⟨z, z2⟩]
            by_cases z3 : yrF t i ≤ eyr t fa q i
            · refine br_t z3 (s80 _ ?_)
              rw [eq9]
              unfold g_max
              rw [if_neg (fun h => by rw [fa_lt] at h; rw [fa_le] at z3; omega)]
            · refine br_f z3 (s80 _ ?_)
              rw [eq9]
              unfold g_max
              rw [if_pos (by rw [fa_lt]; rw [fa_le] at z3; omega)]
          · refine br_t (nI_lt (by omega) (by omega)) (s80 _ ?_)
            rw [eyr, if_neg (fun h => z2 h.2)]
        · refine bn_f (fun y => z ((nI_eq (by omega) (by decide)).mp (show nI (fa i) = nI 2 from y))) (s80 _ ?_)
          rw [eyr, if_neg (fun h => z h.1)]
      refine br_f (nI_ge (by omega) (by omega)) ⟨tF t, f, ad (30 + i), h2, vp_in_nI (by omega) (by omega), by rw [nI_clamp (by omega)]; exact hf i (by omega), 4, g, g1, by unfold vp_in; decide, ?_⟩
      rw [i0, g2]
      cases ec : tCo t i
      · obtain ⟨e, he1, he2⟩ := wt.2.2.2.2.2.2 i hit ec
        obtain ⟨r, r1, r2, -⟩ := S.2.2.2.2.2.2.2.1 e he1
        have ee : (nI e).toNatClampNeg = e := nI_clamp (by omega)
        have ey : yrF t i = tFr t e := by
          unfold yrF
          rw [if_neg (by rw [ec]; decide), he2, ee]
        refine bn_f (by decide) ⟨_, gF_of S.1 rfl, 4, g, g1, by unfold vp_in; decide, _, fe, ad (20 + e), h3, ?_, ?_, 2, r, r1, by unfold vp_in; decide, ?_⟩
        · rw [i2, g4, he2]
          exact vp_in_nI he1 (by omega)
        · rw [i2, g4, he2, ee]
          exact he e he1
        · rw [r2, ← ey]
          exact s53
      · refine bn_t rfl ⟨4, g, g1, by unfold vp_in; decide, ?_⟩
        have ey : yrF t i = tDe t i := by
          unfold yrF
          rw [if_pos ec]
        rw [i2, g4, ← ey]
        exact s53
  unfold wX9_notBefore
  exact ⟨ad 2, gF_of S.1 rfl, tF t, f, h2, tF t + 1, lp (tF t) 0 (by omega)⟩
end SBEF
