/-! PURE: the law's own sofa: a mixed stratum. -/
section SMIX
variable {Z : gZ} {H : gH} {ad : Nat → Nat} {t : Tl} {a : Sg} {pr : Nat → Bool} {fa : Nat → Nat} {dy ca du sl : Int32} {K : Int32 → Prop}
theorem sm_isMixed (S : SimAt Z H ad t a pr fa dy ca du sl) (wt : wfT t) (f2 : ∀ f, fa f ≤ 2) {q : Nat} (hq : q < 10) (k : K (zB1w (anyB (fun x => anyB (mxP t fa q x) (tE t)) (tE t)))) : wX9_isMixed Z H (ad 0) (nI q) K := by
  obtain ⟨fe, h3, he⟩ := S.2.2.2.2.2.2.1
  have n24 := wt.2.2.2.1
  have e6 := wt.2.2.1
  have g3 := gF_of (k := 3) S.1 (rfl : (smV ad t dy ca du sl)[3]? = some (.ref (ad 3)))
  have obj : ∃ fs, hpG H (ad 0) = some (.inr (8, fs)) := ⟨_, S.1⟩
  -- the inner loop, at x
  have inner : ∀ (KL : Nat → Int32 → Int32 → Prop) (x : Nat), x < tE t → (anyB (mxP t fa q x) (tE t) = true → K 1) → (anyB (mxP t fa q x) (tE t) = false → KL (ad 0) (nI q) (nI x + 1)) → ∀ m y, y + m = tE t → (∀ j, j < y → mxP t fa q x j = false) → wX9_isMixed_13 K KL Z H (m + 1) (ad 0) (nI q) (nI x) (nI y) := by
    intro KL x hx kyes kno m
    induction m with
    | zero =>
      intro y hy hno
      exact ⟨_, g3, _, fe, h3, br_t (nI_le (by omega) (by omega)) (kno (anyB_f (fun j hj => hno j (by omega))))⟩
    | succ m ih =>
      intro y hy hno
      have hyt : y < tE t := by omega
      have nx : mxP t fa q x y = false → wX9_isMixed_61 K KL (wX9_isMixed_13 K KL Z H (m + 1)) Z H (ad 0) (nI q) (nI x) (nI y) := fun e9 => by
        unfold wX9_isMixed_61
        rw [show nI y + 1 = nI (y + 1) from nI_add y 1]
        refine ih (y + 1) (by omega) (fun j hj => ?_)
        by_cases z : j = y
        · rw [z]; exact e9
        · exact hno j (by omega)
      obtain ⟨r, r1, r2, r3⟩ := S.2.2.2.2.2.2.2.1 x hx
      obtain ⟨u, u1, u2, u3⟩ := S.2.2.2.2.2.2.2.1 y hyt
      have ex : (nI x).toNatClampNeg = x := nI_clamp (by omega)
      have ey : (nI y).toNatClampNeg = y := nI_clamp (by omega)
      refine ⟨_, g3, _, fe, h3, br_f (nI_ge (by omega) (by omega)) ⟨obj, sm_isSeenIn S n24 f2 hq ?_⟩⟩
      cases e1 : anyB (snP t fa q x) (tF t)
      · exact br_t rfl (nx (by simp [mxP, e1]))
      · refine br_f (by decide) ⟨obj, sm_isSeenIn S n24 f2 hq ?_⟩
        cases e2 : anyB (snP t fa q y) (tF t)
        · exact br_t rfl (nx (by simp [mxP, e2]))
        · refine br_f (by decide) ⟨_, g3, _, fe, ad (20 + x), h3, vp_in_nI hx (by omega), by rw [ex]; exact he x hx, 2, r, r1, by unfold vp_in; decide, _, g3, _, fe, ad (20 + y), h3, vp_in_nI hyt (by omega), by rw [ey]; exact he y hyt, 2, u, u1, by unfold vp_in; decide, ?_⟩
          rw [show (0 : Int32).toNatClampNeg = 0 from rfl, show (1 : Int32).toNatClampNeg = 1 from rfl, u2, r3]
          by_cases z : tFr t y ≤ tTo t x
          · refine br_t z (nx ?_)
            have : ¬ tTo t x < tFr t y := fun h => by rw [fa_lt] at h; rw [fa_le] at z; omega
            simp [mxP, this]
          · refine br_f z (kyes (anyB_t hyt ?_))
            have : tTo t x < tFr t y := by rw [fa_lt]; rw [fa_le] at z; omega
            simp [mxP, this, e1, e2]
  have outer : ∀ m x, x + m = tE t → (∀ j, j < x → anyB (mxP t fa q j) (tE t) = false) → wX9_isMixed_2 K Z H (m + 1) (ad 0) (nI q) (nI x) := by
    intro m
    induction m with
    | zero =>
      intro x hx hno
      refine ⟨_, g3, _, fe, h3, br_t (nI_le (by omega) (by omega)) ?_⟩
      rw [anyB_f (fun j hj => hno j (by omega))] at k
      exact k
    | succ m ih =>
      intro x hx hno
      refine ⟨_, g3, _, fe, h3, br_f (nI_ge (by omega) (by omega)) ⟨tE t + 1, ?_⟩⟩
      refine inner _ x (by omega) (fun e => ?_) (fun e => ?_) (tE t) 0 (by omega) (fun j hj => absurd hj (Nat.not_lt_zero j))
      · rw [anyB_t (i := x) (by omega) e] at k
        exact k
      · rw [show nI x + 1 = nI (x + 1) from nI_add x 1]
        refine ih (x + 1) (by omega) (fun j hj => ?_)
        by_cases z : j = x
        · rw [z]; exact e
        · exact hno j (by omega)
  unfold wX9_isMixed
  exact ⟨tE t + 1, outer (tE t) 0 (by omega) (fun j hj => absurd hj (Nat.not_lt_zero j))⟩
end SMIX
