/-! finds and strata asked from outside, both -/
section ASKED2
variable {t : Tl} {p : Pn} {x : Gs} {S H L P F U N : Nat → Int32} {dy ca du sl fc sc pc : Int32} {W : Nat → Int64} {th q q2 : Int32} {C Cu De Fi Ts Fr To Pk Ps Pt Ks Ds Qb Qe Qc Qu Qw Qf Qs Qd Qbs Qes Qo Qx : Nat → Int32} {K : Int32 → (Nat → Int64) → Prop} {J : Int32 → Int32 → Prop}
def oCn (t : Tl) (q : Int32) : Int32 × Int32 := oq (tF t) q (fun f => (0, zB (tCo t f)))
theorem cl_isCoin (wt : wfT t) (rc : rB (tF t) C (tCo t)) (k : kC K (oCn t q)) : wL_isCoin (nI (tF t)) C W q K := by
  have n24 := wt.2.2.2.1
  unfold oCn at k
  unfold wL_isCoin wX8_isCoin
  rcases sq_cases q (tF t) (by omega) with ⟨s, hs, rfl⟩ | hno
  · rw [oq_y hs (by omega)] at k
    exact nf_y hs (by omega) (sz_tellsCoin wt rc hs (kC_b k))
  · rw [oq_n hno] at k
    exact nf_n hno ⟨rfl, kC_no k (by decide)⟩
theorem ml_isCoin (wt : wfT t) (rc : rB (tF t) Qc (tCo t)) (k : J (oCn t q).2 (oCn t q).1) : wX10_isCoin th (nI (tF t)) Qc q J := by
  have n24 := wt.2.2.2.1
  unfold oCn at k
  unfold wX10_isCoin wX10_isFind
  rcases sq_cases q (tF t) (by omega) with ⟨s, hs, rfl⟩ | hno
  · rw [oq_y hs (by omega)] at k
    refine isIn_y hs (by omega) (br_f (by decide) ⟨vp_in_nI (by omega) (by decide), ?_⟩)
    rw [nI_clamp (by omega), rc s hs]
    exact ⟨zB_01 _, k⟩
  · rw [oq_n hno] at k
    exact isIn_n hno (by omega) (br_t rfl k)
def oFo (t : Tl) (x : Gs) (q : Int32) : Int32 × Int32 := oq (tF t) q (fun f => (0, zB (decide (1 ≤ gF x f))))
theorem cl_isFound (wt : wfT t) (r : rSG S H L P F U dy ca du sl fc sc pc x) (k : kC K (oFo t x q)) : wL_isFound (nI (tF t)) F W q K := by
  have n24 := wt.2.2.2.1
  unfold oFo at k
  unfold wL_isFound wX8_isFound
  rcases sq_cases q (tF t) (by omega) with ⟨s, hs, rfl⟩ | hno
  · rw [oq_y hs (by omega)] at k
    exact nf_y hs (by omega) (sz_wasFound r.1.2.2.2.2.1 (by omega) (kC_b k))
  · rw [oq_n hno] at k
    exact nf_n hno ⟨rfl, kC_no k (by decide)⟩
theorem ml_isFound (wt : wfT t) (w : wfX t x) (g : rMG N x) (k : J (oFo t x q).2 (oFo t x q).1) : wX10_isFound th N (nI (tF t)) q J := by
  have n24 := wt.2.2.2.1
  unfold oFo at k
  unfold wX10_isFound wX10_isFind
  rcases sq_cases q (tF t) (by omega) with ⟨s, hs, rfl⟩ | hno
  · rw [oq_y hs (by omega)] at k
    have h2 : gF x s ≤ 2 := w.2.2.2.2.2.2 s
    refine isIn_y hs (by omega) (br_f (by decide) ?_)
    rw [n173]
    refine ⟨vp_in_nI (by omega) (by decide), ?_⟩
    rw [nI_clamp (by omega), g.2.2.2.1 s (by omega)]
    rcases Nat.eq_zero_or_pos (gF x s) with e | e
    · rw [decide_eq_false (by omega)] at k
      exact br_t (by rw [e]; decide) k
    · rw [decide_eq_true (by omega)] at k
      exact br_f (nI_nle e (by omega)) k
  · rw [oq_n hno] at k
    exact isIn_n hno (by omega) (br_t rfl k)
def oSu (t : Tl) (x : Gs) (q : Int32) : Int32 × Int32 := oq (tF t) q (fun f => if gF x f = 0 then (2, 0) else (0, zB (decide (gF x f = 2))))
theorem cl_isSure (wt : wfT t) (r : rSG S H L P F U dy ca du sl fc sc pc x) (k : kC K (oSu t x q)) : wL_isSure (nI (tF t)) F U W q K := by
  have n24 := wt.2.2.2.1
  unfold oSu at k
  unfold wL_isSure wX8_isSure
  rcases sq_cases q (tF t) (by omega) with ⟨s, hs, rfl⟩ | hno
  · rw [oq_y hs (by omega)] at k
    refine nf_y hs (by omega) (sz_wasFound r.1.2.2.2.2.1 (by omega) (bz' rfl (fun e => ?_) (fun e => ?_)))
    · rw [decide_eq_false_iff_not] at e
      rw [if_pos (by omega)] at k
      exact Or.inr ⟨rfl, kC_no k (by decide)⟩
    · rw [decide_eq_true_eq] at e
      rw [if_neg (by omega)] at k
      exact sz_wasSure r.1.2.2.2.2.2.1 (by omega) (kC_b k)
  · rw [oq_n hno] at k
    exact nf_n hno (Or.inl ⟨rfl, kC_no k (by decide)⟩)
theorem ml_isSure (wt : wfT t) (w : wfX t x) (g : rMG N x) (k : J (oSu t x q).2 (oSu t x q).1) : wX10_isSure th N (nI (tF t)) q J := by
  have n24 := wt.2.2.2.1
  unfold oSu at k
  unfold wX10_isSure wX10_isFind
  rcases sq_cases q (tF t) (by omega) with ⟨s, hs, rfl⟩ | hno
  · rw [oq_y hs (by omega)] at k
    have h2 : gF x s ≤ 2 := w.2.2.2.2.2.2 s
    refine isIn_y hs (by omega) (bn_f (by decide) ?_)
    rw [n173]
    refine ⟨vp_in_nI (by omega) (by decide), ?_⟩
    rw [nI_clamp (by omega), g.2.2.2.1 s (by omega)]
    unfold wX10_isSure_31
    rcases Nat.eq_zero_or_pos (gF x s) with e | e
    · rw [if_pos e] at k
      exact bn_t (by rw [e]; exact nI_0) (bn_f (by decide) k)
    · rw [if_neg (by omega)] at k
      refine bn_f (nI_ne0 e (by omega)) (bn_t rfl (sm_sure g w.2.2.2.2.2.2 (by omega) (bz rfl (fun e => ?_) (fun e => ?_))))
      · rw [e] at k
        exact k
      · rw [e] at k
        exact k
  · rw [oq_n hno] at k
    refine isIn_n hno (by omega) (bn_t rfl ?_)
    unfold wX10_isSure_31
    exact bn_f (by decide) k
def oSt (t : Tl) (q : Int32) : Int32 × Int32 := oq (tF t) q (fun f => (0, nI (tCu t f % 10)))
theorem cl_stratumOf (wt : wfT t) (ru : rN (tF t) Cu (tCu t)) (k : kC K (oSt t q)) : wL_stratumOf (nI (tF t)) Cu W q K := by
  have n24 := wt.2.2.2.1
  unfold oSt at k
  unfold wL_stratumOf wX8_stratumOf
  rcases sq_cases q (tF t) (by omega) with ⟨s, hs, rfl⟩ | hno
  · rw [oq_y hs (by omega)] at k
    exact nf_y hs (by omega) (sz_stratumOfFind wt ru hs (kC_ok k))
  · rw [oq_n hno] at k
    exact nf_n hno ⟨rfl, kC_no k (by decide)⟩
theorem ml_stratumOf (wt : wfT t) (ru : rN (tF t) Qu (tCu t)) (k : J (oSt t q).2 (oSt t q).1) : wX10_stratumOf th (nI (tF t)) Qu q J := by
  have n24 := wt.2.2.2.1
  unfold oSt at k
  unfold wX10_stratumOf wX10_isFind
  rcases sq_cases q (tF t) (by omega) with ⟨s, hs, rfl⟩ | hno
  · rw [oq_y hs (by omega)] at k
    exact isIn_y hs (by omega) (br_f (by decide) (sm_stratum wt ru hs k))
  · rw [oq_n hno] at k
    exact isIn_n hno (by omega) (br_t rfl k)
def oWh (t : Tl) (b : Bool) (q : Int32) : Int32 × Int32 := oq (tF t) q (fun f => if tCo t f = b then (0, tDe t f) else (2, 0))
theorem cl_yearOf (wt : wfT t) (rc : rB (tF t) C (tCo t)) (rd : ∀ f, f < tF t → De f = tDe t f) (k : kC K (oWh t true q)) : wL_yearOf (nI (tF t)) C De W q K := by
  have n24 := wt.2.2.2.1
  unfold oWh at k
  unfold wL_yearOf wX8_yearOf
  rcases sq_cases q (tF t) (by omega) with ⟨s, hs, rfl⟩ | hno
  · rw [oq_y hs (by omega)] at k
    refine nf_y hs (by omega) (sz_tellsCoin wt rc hs (bz' rfl (fun e => ?_) (fun e => ?_)))
    · rw [if_neg (by rw [e]; decide)] at k
      exact Or.inr ⟨rfl, kC_no k (by decide)⟩
    · rw [if_pos e] at k
      refine sz_coinYear wt rc rd hs ?_
      rw [if_pos e]
      exact kC_ok k
  · rw [oq_n hno] at k
    exact nf_n hno (Or.inl ⟨rfl, kC_no k (by decide)⟩)
theorem cl_empireOf (wt : wfT t) (rc : rB (tF t) C (tCo t)) (rd : ∀ f, f < tF t → De f = tDe t f) (k : kC K (oWh t false q)) : wL_empireOf (nI (tF t)) C De W q K := by
  have n24 := wt.2.2.2.1
  unfold oWh at k
  unfold wL_empireOf wX8_empireOf
  rcases sq_cases q (tF t) (by omega) with ⟨s, hs, rfl⟩ | hno
  · rw [oq_y hs (by omega)] at k
    refine nf_y hs (by omega) (sz_tellsCoin wt rc hs (bz rfl (fun e => ?_) (fun e => ?_)))
    · rw [if_pos e] at k
      refine sz_crumbsEmpire wt rc rd hs ?_
      rw [if_neg (by rw [e]; decide)]
      exact kC_ok k
    · rw [if_neg (by rw [e]; decide)] at k
      exact Or.inr ⟨rfl, kC_no k (by decide)⟩
  · rw [oq_n hno] at k
    exact nf_n hno (Or.inl ⟨rfl, kC_no k (by decide)⟩)
theorem zB_eq {b c : Bool} : zB b = zB c ↔ b = c := by cases b <;> cases c <;> decide
theorem ml_whatOf {b : Bool} {v : Int32} (hv : v = zB b) (wt : wfT t) (rc : rB (tF t) Qc (tCo t)) (rd : ∀ f, f < tF t → Qw f = tDe t f) (k : J (oWh t b q).2 (oWh t b q).1) : wX10_whatOf th (nI (tF t)) Qc Qw q v J := by
  have n24 := wt.2.2.2.1
  subst hv
  unfold oWh at k
  unfold wX10_whatOf wX10_isFind
  rcases sq_cases q (tF t) (by omega) with ⟨s, hs, rfl⟩ | hno
  · rw [oq_y hs (by omega)] at k
    refine isIn_y hs (by omega) (bn_f (by decide) ⟨vp_in_nI (by omega) (by decide), ?_⟩)
    rw [nI_clamp (by omega), rc s hs, rd s hs]
    by_cases e : tCo t s = b
    · rw [if_pos e] at k
      exact bn_t (zB_eq.mpr e) ⟨vp_in_nI (by omega) (by decide), k⟩
    · rw [if_neg e] at k
      exact bn_f (fun z => e (zB_eq.mp z)) k
  · rw [oq_n hno] at k
    exact isIn_n hno (by omega) (bn_t rfl k)
theorem ml_yearOf (wt : wfT t) (rc : rB (tF t) Qc (tCo t)) (rd : ∀ f, f < tF t → Qw f = tDe t f) (k : J (oWh t true q).2 (oWh t true q).1) : wX10_yearOf th (nI (tF t)) Qc Qw q J := ml_whatOf (b := true) (by decide) wt rc rd k
theorem ml_empireOf (wt : wfT t) (rc : rB (tF t) Qc (tCo t)) (rd : ∀ f, f < tF t → Qw f = tDe t f) (k : J (oWh t false q).2 (oWh t false q).1) : wX10_empireOf th (nI (tF t)) Qc Qw q J := ml_whatOf (b := false) (by decide) wt rc rd k
/-- how deep the finds lie -/
def dpX (t : Tl) (x : Gs) (dp : Nat → Nat) : Prop := ∀ f, f < tF t → gF x f = 0 → ∃ s j, s < tN t ∧ j < (gA x).2.1 s ∧ (gA x).1 (s * 10 + j) = tCu t f ∧ dp f = (gA x).2.1 s - 1 - j
theorem dp_ex (w : wfX t x) : ∃ dp : Nat → Nat, dpX t x dp := by
  have h : ∀ f, ∃ d : Nat, f < tF t → gF x f = 0 → ∃ s j, s < tN t ∧ j < (gA x).2.1 s ∧ (gA x).1 (s * 10 + j) = tCu t f ∧ d = (gA x).2.1 s - 1 - j := by
    intro f
    by_cases hf : f < tF t ∧ gF x f = 0
    · obtain ⟨s, j, h1, h2, h3⟩ := w.2.2.2.1 f hf.1 hf.2
      exact ⟨_, fun _ _ => ⟨s, j, h1, h2, h3, rfl⟩⟩
    · exact ⟨0, fun a b => absurd ⟨a, b⟩ hf⟩
  exact ⟨fun f => Classical.choose (h f), fun f => Classical.choose_spec (h f)⟩
def oBu (t : Tl) (x : Gs) (dp : Nat → Nat) (q : Int32) : Int32 × Int32 := oq (tF t) q (fun f => if gF x f = 0 then (0, nI (dp f)) else (2, 0))
theorem cl_buriedUnder {dp : Nat → Nat} (hdp : dpX t x dp) (wt : wfT t) (w : wfX t x) (r : rSG S H L P F U dy ca du sl fc sc pc x) (ru : rN (tF t) Cu (tCu t)) (k : kC K (oBu t x dp q)) : wL_buriedUnder (nI (tN t)) (nI (tF t)) Cu S H F W q K := by
  have n24 := wt.2.2.2.1
  unfold oBu at k
  unfold wL_buriedUnder wX8_buriedUnder
  rcases sq_cases q (tF t) (by omega) with ⟨s, hs, rfl⟩ | hno
  · rw [oq_y hs (by omega)] at k
    refine nf_y hs (by omega) (sz_wasFound r.1.2.2.2.2.1 (by omega) (bz rfl (fun e => ?_) (fun e => ?_)))
    · rw [decide_eq_false_iff_not] at e
      have e0 : gF x s = 0 := by omega
      rw [if_pos e0] at k
      obtain ⟨s0, j0, h1, h2, h3, h4⟩ := hdp s hs e0
      rw [h4] at k
      refine sz_cushionOf wt ru hs ?_
      rw [← h3]
      exact sz_cushionsAbove wt w r.1.1 r.1.2.1 h1 h2 (kC_ok k)
    · rw [decide_eq_true_eq] at e
      rw [if_neg (by omega)] at k
      exact Or.inr ⟨rfl, kC_no k (by decide)⟩
  · rw [oq_n hno] at k
    exact nf_n hno (Or.inl ⟨rfl, kC_no k (by decide)⟩)
theorem ml_buriedUnder {dp : Nat → Nat} (hdp : dpX t x dp) (wt : wfT t) (w : wfX t x) (g : rMG N x) (ru : rN (tF t) Qu (tCu t)) (k : J (oBu t x dp q).2 (oBu t x dp q).1) : wX10_buriedUnder th N (nI (tN t)) (nI (tF t)) Qu q J := by
  have n24 := wt.2.2.2.1
  unfold oBu at k
  unfold wX10_buriedUnder wX10_isFind
  rcases sq_cases q (tF t) (by omega) with ⟨s, hs, rfl⟩ | hno
  · rw [oq_y hs (by omega)] at k
    have h2 : gF x s ≤ 2 := w.2.2.2.2.2.2 s
    refine isIn_y hs (by omega) (bn_f (by decide) ?_)
    rw [n173]
    refine ⟨vp_in_nI (by omega) (by decide), ?_⟩
    rw [nI_clamp (by omega), g.2.2.2.1 s (by omega)]
    rcases Nat.eq_zero_or_pos (gF x s) with e | e
    · rw [if_pos e] at k
      obtain ⟨s0, j0, h1, h2, h3, h4⟩ := hdp s hs e
      rw [h4] at k
      exact br_t (by rw [e]; decide) (sm_buried wt w g ru hs h1 h2 h3 k)
    · rw [if_neg (by omega)] at k
      exact br_f (nI_nle e (by omega)) k
  · rw [oq_n hno] at k
    exact isIn_n hno (by omega) (bn_t rfl k)
/-! strata -/
def oNb (t : Tl) (x : Gs) (q : Int32) : Int32 × Int32 := oq (tM t) q (fun k => (0, eyr t (gF x) k (tF t)))
theorem cl_notBefore (wt : wfT t) (rc : rB (tF t) C (tCo t)) (rd : ∀ f, f < tF t → De f = tDe t f) (rf : ∀ e, e < tE t → Fr e = tFr t e) (ru : rN (tF t) Cu (tCu t)) (r : rSG S H L P F U dy ca du sl fc sc pc x) (k : kC K (oNb t x q)) : wL_notBefore (nI (tM t)) (nI (tE t)) (nI (tF t)) Fr C Cu De U W q K := by
  have n10 := wt.2.1.2
  unfold oNb at k
  unfold wL_notBefore wX8_notBefore
  rcases sq_cases q (tM t) (by omega) with ⟨s, hs, rfl⟩ | hno
  · rw [oq_y hs (by omega)] at k
    exact nt_y hs (by omega) (sz_earliestYear wt rc rd rf ru r.1.2.2.2.2.2.1 (by omega) (kC_ok k))
  · rw [oq_n hno] at k
    exact nt_n hno ⟨rfl, kC_no k (by decide)⟩
theorem ml_notBefore (wt : wfT t) (w : wfX t x) (g : rMG N x) (rc : rB (tF t) Qc (tCo t)) (rd : ∀ f, f < tF t → Qw f = tDe t f) (rf : ∀ e, e < tE t → Qb e = tFr t e) (ru : rN (tF t) Qu (tCu t)) (k : J (oNb t x q).2 (oNb t x q).1) : wX10_notBefore th N (nI (tM t)) Qb (nI (tF t)) Qc Qu Qw q J := by
  have n10 := wt.2.1.2
  unfold oNb at k
  unfold wX10_notBefore wX10_isStratum
  rcases sq_cases q (tM t) (by omega) with ⟨s, hs, rfl⟩ | hno
  · rw [oq_y hs (by omega)] at k
    exact isIn_y hs (by omega) (br_f (by decide) (sm_notBeforeNow wt g w.2.2.2.2.2.2 rc rd rf ru (by omega) k))
  · rw [oq_n hno] at k
    exact isIn_n hno (by omega) (br_t rfl k)
def oSn (t : Tl) (x : Gs) (q q2 : Int32) : Int32 × Int32 := oq (tM t) q (fun k => oq (tE t) q2 (fun e => (0, zB (anyB (snP t (gF x) k e) (tF t)))))
theorem cl_isSeenIn (wt : wfT t) (rc : rB (tF t) C (tCo t)) (rd : ∀ f, f < tF t → De f = tDe t f) (ru : rN (tF t) Cu (tCu t)) (r : rSG S H L P F U dy ca du sl fc sc pc x) (k : kC K (oSn t x q q2)) : wL_isSeenIn (nI (tM t)) (nI (tE t)) (nI (tF t)) C Cu De U W q q2 K := by
  have n10 := wt.2.1.2
  have n6 := wt.2.2.1
  unfold oSn at k
  unfold wL_isSeenIn wX8_isSeenIn
  rcases sq_cases q (tM t) (by omega) with ⟨s, hs, rfl⟩ | hno
  · rw [oq_y hs (by omega)] at k
    refine nt_y hs (by omega) ?_
    rcases sq_cases q2 (tE t) (by omega) with ⟨s2, hs2, rfl⟩ | hno
    · rw [oq_y hs2 (by omega)] at k
      exact br_f (nI_pos (by omega)) (br_t (nI_lt hs2 (by omega)) (sz_sawEmpire wt rc rd ru r.1.2.2.2.2.2.1 (by omega) (by omega) (kC_b k)))
    · rw [oq_n hno] at k
      by_cases h0 : q2 < 0
      · exact br_t h0 ⟨rfl, kC_no k (by decide)⟩
      · exact br_f h0 (br_f (hno.resolve_left h0) ⟨rfl, kC_no k (by decide)⟩)
  · rw [oq_n hno] at k
    exact nt_n hno ⟨rfl, kC_no k (by decide)⟩
theorem ml_isSeenIn (wt : wfT t) (w : wfX t x) (g : rMG N x) (rc : rB (tF t) Qc (tCo t)) (rd : ∀ f, f < tF t → Qw f = tDe t f) (ru : rN (tF t) Qu (tCu t)) (k : J (oSn t x q q2).2 (oSn t x q q2).1) : wX10_isSeenIn th N (nI (tM t)) (nI (tE t)) (nI (tF t)) Qc Qu Qw q q2 J := by
  have n10 := wt.2.1.2
  have n6 := wt.2.2.1
  unfold oSn at k
  unfold wX10_isSeenIn wX10_isStratum wX10_isSeenIn_39
  rcases sq_cases q (tM t) (by omega) with ⟨s, hs, rfl⟩ | hno
  · rw [oq_y hs (by omega)] at k
    refine isIn_y hs (by omega) (br_f (by decide) ?_)
    rcases sq_cases q2 (tE t) (by omega) with ⟨s2, hs2, rfl⟩ | hno
    · rw [oq_y hs2 (by omega)] at k
      exact isIn_y hs2 (by omega) (br_f (by decide) (sm_seenIn wt g w.2.2.2.2.2.2 rc rd ru (by omega) (by omega) k))
    · rw [oq_n hno] at k
      exact isIn_n hno (by omega) (br_t rfl k)
  · rw [oq_n hno] at k
    exact isIn_n hno (by omega) (br_t rfl k)
def oMx (t : Tl) (x : Gs) (q : Int32) : Int32 × Int32 := oq (tM t) q (fun k => (0, zB (anyB (fun y => anyB (mxP t (gF x) k y) (tE t)) (tE t))))
theorem cl_isMixed (wt : wfT t) (rc : rB (tF t) C (tCo t)) (rd : ∀ f, f < tF t → De f = tDe t f) (ru : rN (tF t) Cu (tCu t)) (rf : ∀ e, e < tE t → Fr e = tFr t e) (ro : ∀ e, e < tE t → To e = tTo t e) (r : rSG S H L P F U dy ca du sl fc sc pc x) (k : kC K (oMx t x q)) : wL_isMixed (nI (tM t)) (nI (tE t)) (nI (tF t)) Fr To C Cu De U W q K := by
  have n10 := wt.2.1.2
  unfold oMx at k
  unfold wL_isMixed wX8_isMixed
  rcases sq_cases q (tM t) (by omega) with ⟨s, hs, rfl⟩ | hno
  · rw [oq_y hs (by omega)] at k
    exact nt_y hs (by omega) (sz_showsMixture wt rc rd ru rf ro r.1.2.2.2.2.2.1 (by omega) (kC_b k))
  · rw [oq_n hno] at k
    exact nt_n hno ⟨rfl, kC_no k (by decide)⟩
theorem ml_isMixed (wt : wfT t) (w : wfX t x) (g : rMG N x) (rc : rB (tF t) Qc (tCo t)) (rd : ∀ f, f < tF t → Qw f = tDe t f) (ru : rN (tF t) Qu (tCu t)) (rf : ∀ e, e < tE t → Qb e = tFr t e) (ro : ∀ e, e < tE t → Qe e = tTo t e) (k : J (oMx t x q).2 (oMx t x q).1) : wX10_isMixed th N (nI (tM t)) (nI (tE t)) Qb Qe (nI (tF t)) Qc Qu Qw q J := by
  have n10 := wt.2.1.2
  unfold oMx at k
  unfold wX10_isMixed wX10_isStratum
  rcases sq_cases q (tM t) (by omega) with ⟨s, hs, rfl⟩ | hno
  · rw [oq_y hs (by omega)] at k
    exact isIn_y hs (by omega) (br_f (by decide) (sm_mixed wt g w.2.2.2.2.2.2 rc rd ru rf ro (by omega) k))
  · rw [oq_n hno] at k
    exact isIn_n hno (by omega) (br_t rfl k)
end ASKED2
