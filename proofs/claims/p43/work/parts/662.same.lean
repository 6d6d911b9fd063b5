/-! PURE: the class and the sofa kept by hand are the same. -/
section SAME
variable {Z : gZ} {H : gH} {ad : Nat → Nat} {t : Tl} {p : Pn} {x : Gs} {S : cLS} {a : gA} {K : Int32 → Prop}
theorem is_587 {u : UInt64} (h : u.toNat % 9223372036854775808 ≤ 9218868437227405312) (k : K 1) : wX9_isSame_587 K Z a S H u u := by
  unfold wX9_isSame_587
  rw [dcmp_same h]
  exact ⟨fun z => absurd rfl z, fun _ => k⟩
theorem is_527 {KL : Nat → Int32 → Int32 → Int32 → Prop} (wt : wfT t) (w : wfX t x) (C : CR S t p x) (G : SimG Z H ad t x) {s : Nat} (hs : s < tM t) {x2 x3 : Int32} (k : KL (ad 0) x2 x3 (nI (s + 1))) : ∀ d i, i + d = tE t → wX9_isSame_527 K KL Z a S H (d + 1) (ad 0) x2 x3 (nI s) (nI i) := by
  have m10 := wt.2.1.2
  have e6 := wt.2.2.1
  have f2 := w.2.2.2.2.2.2
  obtain ⟨fE, s6, s6'⟩ := G.2.2.2.2.2.2.1
  intro d
  induction d with
  | zero =>
    intro i hi
    unfold wX9_isSame_527
    rw [nI_1]
    exact ⟨ad 3, gF_of G.1 rfl, tE t, fE, s6, br_t (nI_le (by omega) (by omega)) k⟩
  | succ d ih =>
    intro i hi
    unfold wX9_isSame_527
    refine ⟨ad 3, gF_of G.1 rfl, tE t, fE, s6, br_f (nI_ge (by omega) (by omega)) (ka_isSeenIn wt w C hs (by omega) ⟨⟨_, G.1⟩, sm_isSeenIn G wt.2.2.2.1 f2 (by omega) ⟨fun _ => ?_, fun z => absurd rfl z⟩⟩)⟩
    rw [nI_1]
    exact ih (i + 1) (by omega)
theorem is_483 (wt : wfT t) (w : wfX t x) (C : CR S t p x) (G : SimG Z H ad t x) (k : K 1) : ∀ d s, s + d = tM t → wX9_isSame_483 K Z a S H (d + 1) (ad 0) (myS t (gF1w x) (tF t)).1 (nI (myS t (gF1w x) (tF t)).2) (nI s) := by
  have m10 := wt.2.1.2
  have f24 := wt.2.2.2.1
  have f2 := w.2.2.2.2.2.2
  have hle := myS_le t (gF1w x) (tF t)
  intro d
  induction d with
  | zero =>
    intro s hs
    unfold wX9_isSame_483
    refine ⟨_, gF_of G.1 rfl, br_t (nI_le (by omega) (by omega)) (ka_meanYear wt C ⟨fun z => ?_, fun z => ?_⟩)⟩
    · have z0 : (myS t (gF1w x) (tF t)).2 ≠ 0 := fun e => z (by rw [e]; rfl)
      have e : myV t (gF1w x) = FP.ddiv (FP.i2d (myS t (gF1w x) (tF t)).1) (FP.i2d (nI (myS t (gF1w x) (tF t)).2)) := if_neg z0
      have h := ddiv_ok (myS t (gF1w x) (tF t)).1 (c := (myS t (gF1w x) (tF t)).2) (by omega) z0
      refine ⟨n64_of h, ?_⟩
      rw [e]
      exact is_587 h k
    · have z0 : (myS t (gF1w x) (tF t)).2 = 0 := (nI_eq (b := 0) (by omega) (by decide)).mp z
      have e : myV t (gF1w x) = FP.dconst0 := if_pos z0
      rw [e]
      exact is_587 (by decide) k
  | succ d ih =>
    intro s hs
    unfold wX9_isSame_483
    refine ⟨_, gF_of G.1 rfl, br_f (nI_ge (by omega) (by omega)) (ka_notBefore wt w C (by omega) ⟨⟨_, G.1⟩, sm_notBefore G wt f2 (by omega) (bn_t rfl (ka_isMixed wt w C (by omega) ⟨⟨_, G.1⟩, sm_isMixed G wt f2 (by omega) ⟨fun _ => ⟨tE t + 1, ?_⟩, fun z => absurd rfl z⟩⟩))⟩)⟩
    exact is_527 wt w C G (by omega) (ih (s + 1) (by omega)) (tE t) 0 (by omega)
theorem is_310 (wt : wfT t) (w : wfX t x) (C : CR S t p x) (G : SimG Z H ad t x) (k : K 1) : ∀ d i, i + d = tF t → wX9_isSame_310 K Z a S H (d + 1) (ad 0) (myS t (gF1w x) i).1 (nI (myS t (gF1w x) i).2) (nI i) := by
  have f24 := wt.2.2.2.1
  have f2 := w.2.2.2.2.2.2
  obtain ⟨fF, s4, s4'⟩ := G.2.2.2.2.1
  intro d
  induction d with
  | zero =>
    intro i hi
    have : i = tF t := by omega
    subst this
    unfold wX9_isSame_310
    exact ⟨ad 2, gF_of G.1 rfl, tF t, fF, s4, br_t (nI_le (Nat.le_refl _) (by omega)) ⟨tM t + 1, is_483 wt w C G k (tM t) 0 (by omega)⟩⟩
  | succ d ih =>
    intro i hi
    have hf : i < tF t := by omega
    have nx := ih (i + 1) (by omega)
    obtain ⟨g, g1, g2, g3, g4, g5⟩ := sm_row G hf
    have fi2 := f2 i
    have v0 : vp_in 0 4 := by unfold vp_in; decide
    have v1 : vp_in 1 4 := by unfold vp_in; decide
    have v2 : vp_in 2 4 := by unfold vp_in; decide
    have v3 : vp_in 3 4 := by unfold vp_in; decide
    have z0 : (0 : Int32).toNatClampNeg = 0 := rfl
    have z1 : (1 : Int32).toNatClampNeg = 1 := rfl
    have z2 : (2 : Int32).toNatClampNeg = 2 := rfl
    have z3 : (3 : Int32).toNatClampNeg = 3 := rfl
    have h437 : wX9_isSame_437 K (wX9_isSame_310 K Z a S H (d + 1)) Z a S H (ad 0) (myS t (gF1w x) i).1 (nI (myS t (gF1w x) i).2) (nI i) (ad (30 + i)) (tDe t i) := by
      unfold wX9_isSame_437 wX9_isSame_474
      rw [z0, z2, z3]
      refine ⟨4, g, g1, v2, ⟨fun _ => ⟨4, g, g1, v0, ⟨fun h => ?_, fun h => ⟨4, g, g1, v3, ⟨fun h2 => ⟨4, g, g1, v2, ?_⟩, fun h2 => ?_⟩⟩⟩⟩, fun h => absurd g4.symm h⟩⟩
      · have hc : tCo t i = false := by
          cases e : tCo t i
          · rfl
          · rw [g2, e] at h
            exact absurd h (by decide)
        rw [nI_1]
        unfold myS at nx
        rw [if_neg (fun y => by rw [hc] at y; cases y.1)] at nx
        exact nx
      · have hc : tCo t i = true := by
          cases e : tCo t i
          · rw [g2, e] at h
            exact absurd rfl h
          · rfl
        have h2' : gF1w x i = 2 := by
          rw [g5] at h2
          by_cases y : 2 ≤ gF1w x i
          · omega
          · exact absurd h2 (nI_ge (b := 2) (by omega) (by decide))
        rw [g4, nI_1, nI_1]
        unfold myS at nx
        rw [if_pos ⟨hc, h2'⟩] at nx
        exact nx
      · have h2' : gF1w x i ≠ 2 := fun y => h2 (by rw [g5, y]; decide)
        rw [nI_1]
        unfold myS at nx
        rw [if_neg (fun y => h2' y.2)] at nx
        exact nx
    have h401 : wX9_isSame_401 K (wX9_isSame_310 K Z a S H (d + 1)) Z a S H (ad 0) (myS t (gF1w x) i).1 (nI (myS t (gF1w x) i).2) (nI i) (ad (30 + i)) := by
      unfold wX9_isSame_401
      rw [z0, z1]
      refine ka_stratumOf wt w C hf ⟨4, g, g1, v1, bn_t g3.symm ⟨4, g, g1, v0, ?_⟩⟩
      cases e : tCo t i
      · exact bn_f (by rw [g2, e]; decide) (ka_empireOf wt w C hf e h437)
      · exact bn_t (by rw [g2, e]; rfl) (ka_yearOf wt w C hf e h437)
    have h369 : wX9_isSame_369 K (wX9_isSame_310 K Z a S H (d + 1)) Z a S H (ad 0) (myS t (gF1w x) i).1 (nI (myS t (gF1w x) i).2) (nI i) (ad (30 + i)) (zB1w (decide (1 ≤ gF1w x i))) (zB1w (decide (1 ≤ gF1w x i))) := by
      unfold wX9_isSame_369
      rw [z3]
      refine bn_t rfl ⟨4, g, g1, v3, ?_⟩
      by_cases h : gF1w x i = 0
      · exact br_t (by rw [g5, h]; decide) h401
      · refine br_f (by rw [g5]; exact nI_ge (b := gF1w x i) (a := 0) (by omega) (by omega)) (ka_isSure wt w C hf (by omega) ⟨4, g, g1, v3, ?_⟩)
        unfold wX9_isSame_398
        by_cases h2 : gF1w x i = 2
        · refine bn_t (by rw [g5, h2]; rfl) ?_
          rw [decide_eq_true h2]
          exact bn_t rfl h401
        · refine bn_f (fun y => h2 ?_) ?_
          · rw [g5] at y
            exact (nI_eq (b := 2) (by omega) (by decide)).mp y
          · rw [decide_eq_false h2]
            exact bn_t rfl h401
    have h348 : wX9_isSame_348 K (wX9_isSame_310 K Z a S H (d + 1)) Z a S H (ad 0) (myS t (gF1w x) i).1 (nI (myS t (gF1w x) i).2) (nI i) (ad (30 + i)) (zB1w (tCo t i)) (zB1w (tCo t i)) := by
      unfold wX9_isSame_348
      rw [z3]
      refine bn_t rfl (ka_isFound wt w C hf ⟨4, g, g1, v3, ?_⟩)
      by_cases h : gF1w x i = 0
      · refine br_t (by rw [g5, h]; decide) ?_
        rw [decide_eq_false (by omega)] at h369 ⊢
        exact h369
      · refine br_f (by rw [g5]; exact nI_ge (b := gF1w x i) (a := 0) (by omega) (by omega)) ?_
        rw [decide_eq_true (by omega)] at h369 ⊢
        exact h369
    unfold wX9_isSame_310
    refine ⟨ad 2, gF_of G.1 rfl, tF t, fF, s4, br_f (nI_ge hf (by omega)) ⟨ad 2, gF_of G.1 rfl, tF t, fF, ad (30 + i), s4, vp_in_nI hf (by omega), by rw [nI_clamp (by omega)]; exact s4' i hf, ka_isCoin wt w C hf ⟨4, g, g1, v0, ?_⟩⟩⟩
    rw [z0]
    cases e : tCo t i
    · rw [e] at h348
      exact bn_f (by rw [g2, e]; decide) h348
    · rw [e] at h348
      exact bn_t (by rw [g2, e]; rfl) h348
theorem is_253 {KL : Nat → Int32 → Prop} (wt : wfT t) (w : wfX t x) (C : CR S t p x) (G : SimG Z H ad t x) {s : Nat} (hs : s < tN t) {fR : Nat → Option Nat} (q1 : hpG H (ad (10 + s)) = some (qE (zY Z 4) ((gA1w x).2.1 s) fR)) (q2 : ∀ j, j < (gA1w x).2.1 s → fR j = some (ad (60 + (gA1w x).1 (s * 10 + j)))) (k : KL (ad 0) (nI (s + 1))) : ∀ d j, j + d = (gA1w x).2.1 s → wX9_isSame_253 K KL Z a S H (d + 1) (ad 0) (nI s) (ad (10 + s)) (nI ((gA1w x).2.1 s)) (nI j) := by
  have n8 := wt.1.2
  have h10 := w.1.1 s
  intro d
  induction d with
  | zero =>
    intro j hj
    unfold wX9_isSame_253
    rw [nI_1]
    exact br_t (nI_le (by omega) (by omega)) k
  | succ d ih =>
    intro j hj
    have hj' : j < (gA1w x).2.1 s := by omega
    have nx := ih (j + 1) (by omega)
    have v1 : vp_in 1 4 := by unfold vp_in; decide
    have hc := G.2.2.2.2.2.2.2.2.2.2 s j hj'
    obtain ⟨g, g1, g2, g3, g4, g5⟩ := G.2.2.2.1 _ hc
    unfold wX9_isSame_253 wX9_isSame_291
    have ex : fR (nI j).toNatClampNeg = some (ad (60 + (gA1w x).1 (s * 10 + j))) := by rw [nI_clamp (by omega)]; exact q2 j hj'
    refine br_f (nI_ge hj' (by omega)) ⟨_, fR, _, q1, vp_in_nI hj' (by omega), ex, 4, g, g1, v1, ?_⟩
    rw [show (1 : Int32).toNatClampNeg = 1 from rfl, g3]
    cases e : tFi t ((gA1w x).1 (s * 10 + j)) with
    | none =>
      refine br_t (by show fI none < 0; decide) ?_
      rw [nI_1 (a := j)]
      exact nx
    | some f =>
      have c80 := clT_80 wt hc
      obtain ⟨hf, hcu⟩ := wt.2.2.2.2.2.1 _ f c80 e
      have f24 := wt.2.2.2.1
      have hfa : gF1w x f = 0 := w.2.1 s j f hj' e
      refine br_f (by show ¬ nI f < 0; exact nI_pos (by omega)) ⟨_, fR, _, q1, vp_in_nI hj' (by omega), ex, 4, g, g1, v1, ?_⟩
      rw [g3, e]
      show kX8_buriedUnder a S (nI f) _
      refine ka_buriedUnder wt w C hf hfa hs hj' hcu.symm ⟨fun _ => ?_, fun z => absurd ?_ z⟩
      · rw [nI_1]
        exact nx
      · rw [nI_dec (by omega)]
        obtain ⟨r, hr⟩ : ∃ r, (gA1w x).2.1 s - 1 = r + j := ⟨(gA1w x).2.1 s - 1 - j, by omega⟩
        rw [hr, Nat.add_sub_cancel, ← nI_add]
        exact (Int32.add_sub_cancel _ _).symm
theorem is_118 (wt : wfT t) (w : wfX t x) (C : CR S t p x) (G : SimG Z H ad t x) (k : K 1) : ∀ d s, s + d = tN t → wX9_isSame_118 K Z a S H (d + 1) (ad 0) (nI s) := by
  have n8 := wt.1.2
  obtain ⟨fS, s1, s1'⟩ := G.2.1
  obtain ⟨fP, s8, s8'⟩ := G.2.2.2.2.2.2.2.2.1
  intro d
  induction d with
  | zero =>
    intro s hs
    unfold wX9_isSame_118
    exact ⟨ad 1, gF_of G.1 rfl, tN t, fS, s1, br_t (nI_le (by omega) (by omega)) ⟨tF t + 1, is_310 wt w C G k (tF t) 0 (by omega)⟩⟩
  | succ d ih =>
    intro s hs
    have hs' : s < tN t := by omega
    have nx := ih (s + 1) (by omega)
    have h10 := w.1.1 s
    obtain ⟨fR, q1, q2⟩ := G.2.2.1 s hs'
    have h250 : wX9_isSame_250 K (wX9_isSame_118 K Z a S H (d + 1)) Z a S H (ad 0) (nI s) (ad (10 + s)) (nI ((gA1w x).2.1 s)) := by
      unfold wX9_isSame_250
      exact ⟨(gA1w x).2.1 s + 1, is_253 wt w C G hs' q1 q2 nx ((gA1w x).2.1 s) 0 (by omega)⟩
    unfold wX9_isSame_118
    refine ⟨ad 1, gF_of G.1 rfl, tN t, fS, s1, br_f (nI_ge hs' (by omega)) ⟨ad 1, gF_of G.1 rfl, tN t, fS, ad (10 + s), s1, vp_in_nI hs' (by omega), by rw [nI_clamp (by omega)]; exact s1' s hs', _, fR, q1, ?_⟩⟩
    refine ka_heightOf wt w C hs' (bn_t rfl (ka_isPropped wt w C hs' ⟨ad 4, gF_of G.1 rfl, tN t, fP, s8, vp_in_nI hs' (by omega), bn_t (by rw [nI_clamp (by omega)]; exact (s8' s hs').symm) (ka_findsLeft wt w C hs' ⟨⟨_, G.1⟩, sm_left G wt w.1 hs' ⟨fun _ => ?_, fun z => absurd rfl z⟩⟩)⟩))
    by_cases h0 : (gA1w x).2.1 s = 0
    · rw [h0] at h250 ⊢
      exact br_t (by decide) h250
    · have h0' : 0 < (gA1w x).2.1 s := by omega
      refine br_f (nI_ge (a := 0) h0' (by omega)) ?_
      have hc : clT t (tp (gA1w x) s) := sm_top G h0'
      obtain ⟨g, g1, g2, g3, g4, g5⟩ := G.2.2.2.1 _ hc
      have e1 : nI ((gA1w x).2.1 s) - 1 = nI ((gA1w x).2.1 s - 1) := nI_dec h0'
      have ex : fR (nI ((gA1w x).2.1 s - 1)).toNatClampNeg = some (ad (60 + tp (gA1w x) s)) := by rw [nI_clamp (by omega)]; exact q2 _ (by omega)
      have vx : vp_in (nI ((gA1w x).2.1 s - 1)) ((gA1w x).2.1 s) := vp_in_nI (by omega) (by omega)
      have v0 : vp_in 0 4 := by unfold vp_in; decide
      have v2 : vp_in 2 4 := by unfold vp_in; decide
      have v3 : vp_in 3 4 := by unfold vp_in; decide
      have h245 : wX9_isSame_245 K (wX9_isSame_118 K Z a S H (d + 1)) Z a S H (ad 0) (nI s) (ad (10 + s)) (nI ((gA1w x).2.1 s)) (zB1w (tSp t (tp (gA1w x) s))) (zB1w (tSp t (tp (gA1w x) s))) := by
        unfold wX9_isSame_245
        exact ⟨fun _ => h250, fun z => absurd rfl z⟩
      have h220 : wX9_isSame_220 K (wX9_isSame_118 K Z a S H (d + 1)) Z a S H (ad 0) (nI s) (ad (10 + s)) (nI ((gA1w x).2.1 s)) (zB1w ((gA1w x).2.2 (tp (gA1w x) s))) (zB1w ((gA1w x).2.2 (tp (gA1w x) s))) := by
        unfold wX9_isSame_220
        rw [e1]
        refine bn_t rfl (ka_hasTopSpring wt w C hs' h0' ⟨_, fR, _, q1, vx, ex, 4, g, g1, v2, ?_⟩)
        rw [show (2 : Int32).toNatClampNeg = 2 from rfl, g4]
        cases e : tSp t (tp (gA1w x) s)
        · rw [e] at h245
          exact bn_f (by decide) h245
        · rw [e] at h245
          exact bn_t rfl h245
      rw [e1]
      refine ka_topStratum wt w C hs' h0' ⟨_, fR, _, q1, vx, ex, 4, g, g1, v0, bn_t g2.symm (ka_isTopLoose wt w C hs' h0' ⟨_, fR, _, q1, vx, ex, 4, g, g1, v3, ?_⟩)⟩
      rw [show (3 : Int32).toNatClampNeg = 3 from rfl, g5]
      cases e : (gA1w x).2.2 (tp (gA1w x) s)
      · rw [e] at h220
        exact bn_f (by decide) h220
      · rw [e] at h220
        exact bn_t rfl h220
theorem sz_isSame (wt : wfT t) (w : wfX t x) (C : CR S t p x) (G : SimG Z H ad t x) (k : K 1) : wX9_isSame Z a S H (ad 0) K := by
  have n8 := wt.1.2
  have f24 := wt.2.2.2.1
  have f2 := w.2.2.2.2.2.2
  have fz := w.2.2.2.2.2.1
  have pz := w.2.2.2.2.1
  obtain ⟨fS, s1, s1'⟩ := G.2.1
  obtain ⟨fF, s4, s4'⟩ := G.2.2.2.2.1
  have a1 : fcX x = nI (fb_ct (fun f => decide (1 ≤ gF1w x f)) (tF t)) := by
    show nI (fb_ct (fun f => decide (1 ≤ gF1w x f)) 24) = _
    rw [ct_cut f24 (fun k hk => by rw [fz k hk]; rfl)]
  have a2 : nI (fb_ct (fun f => decide (gF1w x f = 2)) 24) = nI (fb_ct (fun f => decide (2 ≤ gF1w x f)) (tF t)) := by
    rw [ct_2 f2, ct_cut f24 (fun k hk => by rw [fz k hk]; rfl)]
  have a3 : nI (fb_ct (gP x) 8) = nI (fb_ct (gP x) (tN t)) := by
    rw [ct_cut n8 (fun k hk => pz k hk)]
  unfold wX9_isSame
  refine ka_seats C ⟨ad 1, gF_of G.1 rfl, tN t, fS, s1, bn_t rfl (ka_strata C ⟨_, gF_of G.1 rfl, bn_t rfl (ka_finds C ⟨ad 2, gF_of G.1 rfl, tF t, fF, s4, bn_t rfl (ka_days C ⟨_, gF_of G.1 rfl, bn_t rfl (ka_ordersCarriedOut C ⟨_, gF_of G.1 rfl, bn_t rfl (ka_cushionsDug C ⟨_, gF_of G.1 rfl, bn_t rfl (ka_slides C ⟨_, gF_of G.1 rfl, bn_t rfl ?_⟩)⟩)⟩)⟩)⟩)⟩)⟩
  refine ka_found C ⟨⟨_, G.1⟩, sm_found (l := 1) G f24 f2 (by decide) (bn_t a1 (ka_sureFinds C ⟨⟨_, G.1⟩, sm_found (l := 2) G f24 f2 (by decide) (bn_t a2 (ka_props C ⟨⟨_, G.1⟩, sm_props G n8 ⟨fun _ => ⟨tN t + 1, is_118 wt w C G k (tN t) 0 (by omega)⟩, fun z => absurd a3 z⟩⟩))⟩))⟩
end SAME
