/-! what is done by hand, days, what would be: both -/
section DEEDS
variable {t : Tl} {p : Pn} {x : Gs} {S H L P F U N Ms Mk : Nat → Int32} {dy ca du sl fc sc pc : Int32} {W : Nat → Int64} {th q : Int32} {C Cu De Fi Ts Fr To Pk Ps Pt Ks Ds Qb Qe Qc Qu Qw Qf Qs Qd Qbs Qes Qo Qx : Nat → Int32} {S0 H0 L0 P0 F0 U0 G0 : Nat → Int32} {y0 y1 y2 y3 y4 y5 y6 g0 : Int32} {ot aT : Nat}
theorem dig_ex (wt : wfT t) (w : wfX t x) (hTi : ∀ c, c < 80 → Fi c = fI (tFi t c)) (hTs : rB 80 Ts (tSp t)) (hQf : ∀ c, c < 80 → Qf c = fI (tFi t c)) (hQs : rB 80 Qs (tSp t)) (r : rSG S H L P F U dy ca du sl fc sc pc x) (g : rMG N x) (W : Nat → Int64) (th q : Int32) : ∃ (o : Int32 × Int32) (y : Gs), wfX t y ∧
    (∀ K : Int32 → ((Nat → Int32) × (Nat → Int32) × (Nat → Int32) × (Nat → Int32) × (Nat → Int32) × Int32 × Int32 × Int32 × Int32 × (Nat → Int64)) → Prop, (∀ S' H' L' F' U' du' sl' fc' sc' W', rSG S' H' L' P F' U' dy ca du' sl' fc' sc' pc y → (o.1 = 0 → W' (0 : Int32).toNatClampNeg = o.2.toInt64) → K o.1 (S', H', L', F', U', du', sl', fc', sc', W')) → wL_dig (nI (tN t)) Fi Ts S H L P F U du sl fc sc W q K) ∧
    ∀ J : Int32 → (Int32 × (Nat → Int32)) → Prop, (∀ N', rMG N' y → J o.2 (o.1, N')) → wX10_dig th N (nI (tN t)) Qf Qs q J := by
  rcases st_cases t x q wt with ⟨s, hs, rfl, h0⟩ | ⟨s, hs, rfl, h0⟩ | hno
  · have wd := wfG_dg wt w hs h0
    obtain ⟨k, b, hk, hst⟩ := stl_ok wt (gP x) wd.1
    refine ⟨(0, fI (tFi t (tp (gA x) s))), (b, gP x, dgF t (gA x) (gF x) s, gDy x, gCa x, gDu x + 1, gSl x + nI k), wfG_stl k _ _ hst wd, fun K kk => ?_, fun J kk => ?_⟩
    · unfold wL_dig wX8_dig
      exact nc_y wt w r hs h0 (sz_digSeat wt w hTi hTs r.1 hs h0 hst hk fun S' H' L' F' U' fc' sc' r' => ⟨in01, kk _ _ _ _ _ _ _ _ _ _ ⟨r', r.2.1, r.2.2.1, congrArg (fun z => z + 1) r.2.2.2.1, congrArg (fun z => z + nI k) r.2.2.2.2⟩ (fun _ => upL_eq)⟩)
    · unfold wX10_dig
      exact ht_y wt w g hs h0 (br_f (by decide) (sm_digs wt w hQf hQs g hs h0 hst fun N' g' => kk N' g'))
  · refine ⟨(2, 0), x, w, fun K kk => ?_, fun J kk => ?_⟩
    · unfold wL_dig wX8_dig
      exact nc_0 wt w r hs h0 (Or.inr ⟨rfl, kk _ _ _ _ _ _ _ _ _ _ r (fun z => absurd z (by decide))⟩)
    · unfold wX10_dig
      exact ht_0 wt g hs h0 (br_t rfl (kk N g))
  · refine ⟨(1, 0), x, w, fun K kk => ?_, fun J kk => ?_⟩
    · unfold wL_dig wX8_dig
      exact nc_n hno (Or.inl ⟨rfl, kk _ _ _ _ _ _ _ _ _ _ r (fun z => absurd z (by decide))⟩)
    · unfold wX10_dig
      exact ht_n wt hno (br_t rfl (kk N g))
theorem c4n : (4 : Int32).toNatClampNeg = 4 := by decide
theorem prop_ex (wt : wfT t) (w : wfX t x) (r : rSG S H L P F U dy ca du sl fc sc pc x) (g : rMG N x) (W : Nat → Int64) (th q : Int32) : ∃ (o : Int32 × Int32) (y : Gs), wfX t y ∧
    (∀ K : Int32 → ((Nat → Int32) × Int32 × (Nat → Int64)) → Prop, (∀ P' pc' W', rSG S H L P' F U dy ca du sl fc sc pc' y → (o.1 = 0 → W' (0 : Int32).toNatClampNeg = o.2.toInt64) → K o.1 (P', pc', W')) → wL_prop (nI (tN t)) P pc W q K) ∧
    ∀ J : Int32 → (Int32 × (Nat → Int32)) → Prop, (∀ N', rMG N' y → J o.2 (o.1, N')) → wX10_prop th N (nI (tN t)) q J := by
  have n8 := wt.1.2
  have hpc : pc = nI (fb_ct (gP x) 8) := r.1.2.2.2.2.2.2.2.2
  have g4 : N 4 = nI (mk8 (gP x)) := g.2.2.2.2.1
  rcases sq_cases q (tN t) (by omega) with ⟨s, hs, rfl⟩ | hno
  · by_cases hc : (!gP x s && decide (fb_ct (gP x) 8 < 3)) = true
    · have h1 : gP x s = false := by
        cases e : gP x s
        · rfl
        · rw [e] at hc; exact absurd hc (by simp)
      have h2 : fb_ct (gP x) 8 < 3 := by
        rw [h1] at hc
        simpa using hc
      refine ⟨(0, nI (fb_ct (va_up (gP x) s true) 8)), (gA x, va_up (gP x) s true, gF x, gDy x, gCa x, gDu x, gSl x), wfG_pr w hs true, fun K kk => ?_, fun J kk => ?_⟩
      · unfold wL_prop wX8_prop
        refine ns_y hs (by omega) ?_
        rw [hpc]
        refine sz_canProp wt r.1.2.2.2.1 hs (bn_f (by rw [hc]; decide) (sz_putProp wt r.1.2.2.2.1 hs h1 h2 ⟨in01, kk _ _ _ ⟨⟨r.1.1, r.1.2.1, r.1.2.2.1, rB_t r.1.2.2.2.1 s, r.1.2.2.2.2.1, r.1.2.2.2.2.2.1, r.1.2.2.2.2.2.2.1, r.1.2.2.2.2.2.2.2.1, rfl⟩, r.2⟩ (fun _ => upL_eq)⟩))
      · unfold wX10_prop wX10_isSeat
        refine isIn_y hs (by omega) (bn_f (by decide) (sm_hasProp g (by omega) (bn_t (by rw [h1]; decide) (sm_isPropped3 g (br_t (by rw [decide_eq_true h2]; decide) ⟨pk_in 4 197 (by omega), pk_in 4 197 (by omega), pk_in 4 197 (by omega), ?_⟩)))))
        rw [c4n, g4, mk8_set (gP x) (by omega), pk_us]
        exact sm_bitCount (kk _ (rM_pr g _))
    · refine ⟨(2, 0), x, w, fun K kk => ?_, fun J kk => ?_⟩
      · unfold wL_prop wX8_prop
        refine ns_y hs (by omega) ?_
        rw [hpc]
        refine sz_canProp wt r.1.2.2.2.1 hs (bn_t (by rw [Bool.eq_false_iff.mpr hc]; decide) (Or.inr ⟨rfl, ?_⟩))
        rw [← hpc]
        exact kk _ _ _ r (fun z => absurd z (by decide))
      · unfold wX10_prop wX10_isSeat wX10_prop_34
        refine isIn_y hs (by omega) (bn_f (by decide) (sm_hasProp g (by omega) ?_))
        cases e : gP x s
        · rw [e] at hc
          have h2 : ¬ fb_ct (gP x) 8 < 3 := by simpa using hc
          exact bn_t (by decide) (sm_isPropped3 g (br_f (by rw [decide_eq_false h2]; decide) (kk N g)))
        · exact bn_f (by decide) (kk N g)
  · refine ⟨(1, 0), x, w, fun K kk => ?_, fun J kk => ?_⟩
    · unfold wL_prop wX8_prop
      exact ns_n hno (Or.inl ⟨rfl, kk _ _ _ r (fun z => absurd z (by decide))⟩)
    · unfold wX10_prop wX10_isSeat
      exact isIn_n hno (by omega) (bn_t rfl (kk N g))
theorem take_ex (wt : wfT t) (w : wfX t x) (hTs : rB 80 Ts (tSp t)) (hQs : rB 80 Qs (tSp t)) (r : rSG S H L P F U dy ca du sl fc sc pc x) (g : rMG N x) (W : Nat → Int64) (th q : Int32) : ∃ (o : Int32 × Int32) (y : Gs), wfX t y ∧
    (∀ K : Int32 → ((Nat → Int32) × (Nat → Int32) × (Nat → Int32) × (Nat → Int32) × Int32 × Int32 × (Nat → Int64)) → Prop, (∀ S' H' L' P' sl' pc' W', rSG S' H' L' P' F U dy ca du sl' fc sc pc' y → (o.1 = 0 → W' (0 : Int32).toNatClampNeg = o.2.toInt64) → K o.1 (S', H', L', P', sl', pc', W')) → wL_takeProp (nI (tN t)) Ts S H L P sl pc W q K) ∧
    ∀ J : Int32 → (Int32 × (Nat → Int32)) → Prop, (∀ N', rMG N' y → J o.2 (o.1, N')) → wX10_takeProp th N (nI (tN t)) Qs q J := by
  have n8 := wt.1.2
  have g4 : N 4 = nI (mk8 (gP x)) := g.2.2.2.2.1
  rcases sq_cases q (tN t) (by omega) with ⟨s, hs, rfl⟩ | hno
  · cases h1 : gP x s
    · refine ⟨(2, 0), x, w, fun K kk => ?_, fun J kk => ?_⟩
      · unfold wL_takeProp wX8_takeProp
        exact ns_y hs (by omega) (sz_hasProp r.1.2.2.2.1 (by omega) (bn_t (by rw [h1]; decide) (Or.inr ⟨rfl, kk _ _ _ _ _ _ _ r (fun z => absurd z (by decide))⟩)))
      · unfold wX10_takeProp wX10_isSeat
        exact isIn_y hs (by omega) (bn_f (by decide) (sm_hasProp g (by omega) (bn_t (by rw [h1]; decide) (kk N g))))
    · have wp1 := wfG_pr w hs false
      obtain ⟨k, b, hk, hst⟩ := stl_ok wt (va_up (gP x) s false) w.1
      refine ⟨(0, nI k), (b, va_up (gP x) s false, gF x, gDy x, gCa x, gDu x, gSl x + nI k), wfG_stl k _ _ hst wp1, fun K kk => ?_, fun J kk => ?_⟩
      · unfold wL_takeProp wX8_takeProp
        refine ns_y hs (by omega) (sz_hasProp r.1.2.2.2.1 (by omega) (bn_f (by rw [h1]; decide) (sz_freeSeat wt w hTs r.1 hs h1 hk hst fun S' H' L' P' pc' r' => ⟨in01, ?_⟩)))
        rw [show ((S', H', L', P', sl + nI k, pc') : (Nat → Int32) × (Nat → Int32) × (Nat → Int32) × (Nat → Int32) × Int32 × Int32).2.2.2.2.1 - sl = nI k from sub_back sl (nI k)]
        exact kk _ _ _ _ _ _ _ ⟨r', r.2.1, r.2.2.1, r.2.2.2.1, congrArg (fun z => z + nI k) r.2.2.2.2⟩ (fun _ => upL_eq)
      · unfold wX10_takeProp wX10_isSeat
        refine isIn_y hs (by omega) (bn_f (by decide) (sm_hasProp g (by omega) (bn_f (by rw [h1]; decide) ⟨pk_in 4 197 (by omega), pk_in 4 197 (by omega), ?_⟩)))
        rw [c4n, g4, mk8_clr (gP x) (by omega)]
        exact sm_settle (by omega) (by omega) hQs hst w.1 (rM_pr g _) (fun N' g' => kk N' g')
  · refine ⟨(1, 0), x, w, fun K kk => ?_, fun J kk => ?_⟩
    · unfold wL_takeProp wX8_takeProp
      exact ns_n hno (Or.inl ⟨rfl, kk _ _ _ _ _ _ _ r (fun z => absurd z (by decide))⟩)
    · unfold wX10_takeProp wX10_isSeat
      exact isIn_n hno (by omega) (bn_t rfl (kk N g))
theorem dq_cases (q : Int32) : (∃ d, 1 ≤ d ∧ d ≤ 30 ∧ q = nI d) ∨ (q < 1 ∨ ¬ q ≤ 30) := by
  by_cases h : q < 1
  · exact Or.inr (Or.inl h)
  · by_cases h3 : q ≤ 30
    · obtain ⟨d, hd, rfl⟩ := nI_of (x := q) (by rw [fa_lt] at h ⊢; have : (1 : Int32).toInt = 1 := rfl; have : (0 : Int32).toInt = 0 := rfl; omega)
      rw [show (1 : Int32) = nI 1 from rfl, nI_ltI hd (by decide)] at h
      rw [show (30 : Int32) = nI 30 from rfl, nI_leI hd (by decide)] at h3
      exact Or.inl ⟨d, by omega, h3, rfl⟩
    · exact Or.inr (Or.inr h3)
theorem nd_y {d : Nat} (h1 : 1 ≤ d) (h2 : d ≤ 30) {K : Unit → Prop} {KX : String → Prop} (k : K ()) : wX8_needDays (nI d) K KX := by
  unfold wX8_needDays
  exact br_f (nI_nlt (b := 1) h1 (by omega)) (br_t (nI_le (b := 30) h2 (by decide)) k)
theorem nd_n (h : q < 1 ∨ ¬ q ≤ 30) {K : Unit → Prop} {KX : String → Prop} (k : KX "java/lang/IllegalArgumentException") : wX8_needDays q K KX := by
  unfold wX8_needDays
  by_cases h0 : q < 1
  · exact br_t h0 k
  · exact br_f h0 (br_f (h.resolve_left h0) k)
theorem id_y {d : Nat} (h1 : 1 ≤ d) (h2 : d ≤ 30) {K : Int32 → Unit → Prop} (k : K 1 ()) : wX10_isIn (nI d) 1 30 K := by
  unfold wX10_isIn
  exact br_f (nI_nlt (b := 1) h1 (by omega)) (br_f (nI_nlt (a := 30) h2 (by decide)) k)
theorem id_n (h : q < 1 ∨ ¬ q ≤ 30) {K : Int32 → Unit → Prop} (k : K 0 ()) : wX10_isIn q 1 30 K := by
  unfold wX10_isIn
  by_cases h0 : q < 1
  · exact br_t h0 k
  · exact br_f h0 (br_t (fa_of_nle (h.resolve_left h0)) k)
theorem pass_ex (wt : wfT t) (wp : wfP p) (w : wfX t x) (rt : rCT t p C Cu De Fi Ts Fr To Pk Ps Pt Ks Ds) (rm : rMT t p Qb Qe Qc Qu Qw Qf Qs Qd Qbs Qes Qo Qx) (r : rSG S H L P F U dy ca du sl fc sc pc x) (g : rMG N x) (G0 : Nat → Int32) (g0 : Int32) (Ms : Nat → Int32) (W : Nat → Int64) (th q : Int32) : ∃ (o : Int32 × Int32) (y : Gs), wfX t y ∧
    (∀ K : Int32 → ((Nat → Int32) × Int32 × (Nat → Int32) × (Nat → Int32) × (Nat → Int32) × (Nat → Int32) × (Nat → Int32) × (Nat → Int32) × Int32 × Int32 × Int32 × Int32 × Int32 × Int32 × Int32 × (Nat → Int64)) → Prop, (∀ G' g' S' H' L' P' F' U' dy' ca' du' sl' fc' sc' pc' W', rSG S' H' L' P' F' U' dy' ca' du' sl' fc' sc' pc' y → (o.1 = 0 → W' (0 : Int32).toNatClampNeg = o.2.toInt64) → K o.1 (G', g', S', H', L', P', F', U', dy', ca', du', sl', fc', sc', pc', W')) → wL_passDays (nI (tN t)) (nI (tE t)) (nI (tF t)) Fr To C De Fi Ts (nI (pO p)) (nI (pS p)) Pk Ps Pt Ks Ds G0 g0 S H L P F U dy ca du sl fc sc pc W q K) ∧
    ∀ J : Int32 → (Int32 × (Nat → Int32) × (Nat → Int32)) → Prop, (∀ N' M', rMG N' y → J o.2 (o.1, N', M')) → wX10_passDays th N Ms (nI (tN t)) (nI (tM t)) Qb Qe (nI (tF t)) Qc Qu Qw Qf Qs (nI (pO p)) Qd Qbs Qes Qo Qx q J := by
  rcases dq_cases q with ⟨d, h1, h2, rfl⟩ | hno
  · obtain ⟨y, hd, wy⟩ := days_ex wt wp d x w
    refine ⟨(0, fcX y - fcX x), y, wy, fun K kk => ?_, fun J kk => ?_⟩
    · unfold wL_passDays wX8_passDays
      refine nd_y h1 h2 (sz_liveDays wt wp rt h2 hd w r fun G' g' S' H' L' P' F' U' dy' ca' du' sl' fc' sc' pc' r' => ⟨in01, ?_⟩)
      have e1 : fc' = fcX y := r'.1.2.2.2.2.2.2.1
      have e2 : fc = fcX x := r.1.2.2.2.2.2.2.1
      exact kk _ _ _ _ _ _ _ _ _ _ _ _ _ _ _ _ r' (fun _ => upL_eq.trans (by rw [e2, e1]))
    · unfold wX10_passDays
      exact id_y h1 h2 (br_f (by decide) (sm_go wt wp rm h2 hd w g fun N' M' g' => kk N' M' g'))
  · refine ⟨(1, 0), x, w, fun K kk => ?_, fun J kk => ?_⟩
    · unfold wL_passDays wX8_passDays
      exact nd_n hno ⟨rfl, kk _ _ _ _ _ _ _ _ _ _ _ _ _ _ _ _ r (fun z => absurd z (by decide))⟩
    · unfold wX10_passDays
      exact id_n hno (br_t rfl (kk N Ms g))
theorem after_ex (wt : wfT t) (wp : wfP p) (w : wfX t x) (rt : rCT t p C Cu De Fi Ts Fr To Pk Ps Pt Ks Ds) (rm : rMT t p Qb Qe Qc Qu Qw Qf Qs Qd Qbs Qes Qo Qx) (r : rSG S H L P F U dy ca du sl fc sc pc x) (g : rMG N x) (G0 : Nat → Int32) (g0 : Int32) (Ms Mk : Nat → Int32) (S0 H0 L0 P0 F0 U0 : Nat → Int32) (y0 y1 y2 y3 y4 y5 y6 : Int32) (ot aT : Nat) (W : Nat → Int64) (th q : Int32) : ∃ (o : Int32 × Int32),
    (∀ K : Int32 → ((Nat → Int32) × Int32 × Nat × (Nat → Int32) × (Nat → Int32) × (Nat → Int32) × (Nat → Int32) × (Nat → Int32) × (Nat → Int32) × Int32 × Int32 × Int32 × Int32 × Int32 × Int32 × Int32 × (Nat → Int64)) → Prop, (∀ G' g' o' S' H' L' P' F' U' dy' ca' du' sl' fc' sc' pc' W', (o.1 = 0 → W' (0 : Int32).toNatClampNeg = o.2.toInt64) → K o.1 (G', g', o', S', H', L', P', F', U', dy', ca', du', sl', fc', sc', pc', W')) → wL_foundAfter (nI (tN t)) (nI (tE t)) (nI (tF t)) Fr To C De Fi Ts (nI (pO p)) (nI (pS p)) Pk Ps Pt Ks Ds G0 g0 S H L P F U dy ca du sl fc sc pc ot S0 H0 L0 P0 F0 U0 y0 y1 y2 y3 y4 y5 y6 W aT q K) ∧
    ∀ J : Int32 → (Int32 × (Nat → Int32) × (Nat → Int32) × (Nat → Int32)) → Prop, (∀ N' M' X', rMG N' x → J o.2 (o.1, N', M', X')) → wX10_foundAfter th N Mk Ms (nI (tN t)) (nI (tM t)) Qb Qe (nI (tF t)) Qc Qu Qw Qf Qs (nI (pO p)) Qd Qbs Qes Qo Qx q J := by
  rcases dq_cases q with ⟨d, h1, h2, rfl⟩ | hno
  · obtain ⟨y, hd, wy⟩ := days_ex wt wp d x w
    refine ⟨(0, fcX y), fun K kk => ?_, fun J kk => ?_⟩
    · unfold wL_foundAfter wX8_foundAfter
      refine nd_y h1 h2 (sz_copyFrom r.1 fun S1 H1 L1 P1 F1 U1 r1 => sz_liveDays wt wp rt h2 hd w ⟨r1, r.2⟩ fun G' g' S' H' L' P' F' U' dy' ca' du' sl' fc' sc' pc' r' => ⟨in01, ?_⟩)
      have e1 : fc' = fcX y := r'.1.2.2.2.2.2.2.1
      exact kk _ _ _ _ _ _ _ _ _ _ _ _ _ _ _ _ _ (fun _ => upL_eq.trans (by rw [e1]))
    · unfold wX10_foundAfter
      exact id_y h1 h2 (bn_f (by decide) (sm_keep fun M' hM => sm_go wt wp rm h2 hd w g fun N' X' g' => sm_foundNow (v := 1) wt g' wy.2.2.2.2.2.2 wy.2.2.2.2.2.1 (by decide) (by decide) (sm_bringBack fun N2 hN => kk N2 M' X' (rM_ext (fun j hj => (hN j hj).trans (hM j hj)) w.1.1 g))))
  · refine ⟨(1, 0), fun K kk => ?_, fun J kk => ?_⟩
    · unfold wL_foundAfter wX8_foundAfter
      exact nd_n hno ⟨rfl, kk _ _ _ _ _ _ _ _ _ _ _ _ _ _ _ _ _ (fun z => absurd z (by decide))⟩
    · unfold wX10_foundAfter
      exact id_n hno (bn_t rfl (kk N Mk Ms g))
theorem until_ex (wt : wfT t) (wp : wfP p) (w : wfX t x) (rt : rCT t p C Cu De Fi Ts Fr To Pk Ps Pt Ks Ds) (rm : rMT t p Qb Qe Qc Qu Qw Qf Qs Qd Qbs Qes Qo Qx) (r : rSG S H L P F U dy ca du sl fc sc pc x) (g : rMG N x) (G0 : Nat → Int32) (g0 : Int32) (Ms Mk : Nat → Int32) (S0 H0 L0 P0 F0 U0 : Nat → Int32) (y0 y1 y2 y3 y4 y5 y6 : Int32) (ot aT : Nat) (W : Nat → Int64) (th q : Int32) : ∃ (o : Int32 × Int32),
    (∀ K : Int32 → ((Nat → Int32) × Int32 × Nat × (Nat → Int32) × (Nat → Int32) × (Nat → Int32) × (Nat → Int32) × (Nat → Int32) × (Nat → Int32) × Int32 × Int32 × Int32 × Int32 × Int32 × Int32 × Int32 × (Nat → Int64)) → Prop, (∀ G' g' o' S' H' L' P' F' U' dy' ca' du' sl' fc' sc' pc' W', (o.1 = 0 → W' (0 : Int32).toNatClampNeg = o.2.toInt64) → K o.1 (G', g', o', S', H', L', P', F', U', dy', ca', du', sl', fc', sc', pc', W')) → wL_daysUntilFound (nI (tN t)) (nI (tE t)) (nI (tF t)) Fr To C De Fi Ts (nI (pO p)) (nI (pS p)) Pk Ps Pt Ks Ds G0 g0 S H L P F U dy ca du sl fc sc pc ot S0 H0 L0 P0 F0 U0 y0 y1 y2 y3 y4 y5 y6 W aT q K) ∧
    ∀ J : Int32 → (Int32 × (Nat → Int32) × (Nat → Int32) × (Nat → Int32)) → Prop, (∀ N' M' X', rMG N' x → J o.2 (o.1, N', M', X')) → wX10_daysUntilFound th N Mk Ms (nI (tN t)) (nI (tM t)) Qb Qe (nI (tF t)) Qc Qu Qw Qf Qs (nI (pO p)) Qd Qbs Qes Qo Qx q J := by
  have n24 := wt.2.2.2.1
  rcases sq_cases q (tF t) (by omega) with ⟨f, hf, rfl⟩ | hno
  · obtain ⟨sq, h0, hq, hw⟩ := sq_ex wt wp w
    refine ⟨(0, fI (fstB (fun i => decide (1 ≤ gF (sq i) f)) 30 0)), fun K kk => ?_, fun J kk => ?_⟩
    · unfold wL_daysUntilFound wX8_daysUntilFound
      refine nf_y hf (by omega) (sz_copyFrom r.1 fun S1 H1 L1 P1 F1 U1 r1 => ⟨31, sz_until wt wp rt hq hw (by omega) (fun u => ⟨in01, kk _ _ _ _ _ _ _ _ _ _ _ _ _ _ _ _ _ (fun _ => upL_eq)⟩) 30 0 rfl rfl _ _ _ _ _ _ _ _ _ _ _ _ _ _ _ ?_⟩)
      rw [h0]
      exact ⟨r1, r.2⟩
    · unfold wX10_daysUntilFound wX10_isFind
      refine isIn_y hf (by omega) (bn_f (by decide) (sm_keep fun M' hM => ⟨32, sm_until wt wp rm hq hw w (fun N' hN => rM_ext (fun j hj => (hN j hj).trans (hM j hj)) w.1.1 g) (by omega) (fun N' X' g' => kk N' M' X' g') 30 0 rfl rfl _ _ ?_⟩))
      rw [h0]
      exact g
  · refine ⟨(1, 0), fun K kk => ?_, fun J kk => ?_⟩
    · unfold wL_daysUntilFound wX8_daysUntilFound
      exact nf_n hno ⟨rfl, kk _ _ _ _ _ _ _ _ _ _ _ _ _ _ _ _ _ (fun z => absurd z (by decide))⟩
    · unfold wX10_daysUntilFound wX10_isFind
      exact isIn_n hno (by omega) (bn_t rfl (kk N Mk Ms g))
theorem would_ex (wt : wfT t) (w : wfX t x) (hTi : ∀ c, c < 80 → Fi c = fI (tFi t c)) (hTs : rB 80 Ts (tSp t)) (hQf : ∀ c, c < 80 → Qf c = fI (tFi t c)) (hQs : rB 80 Qs (tSp t)) (r : rSG S H L P F U dy ca du sl fc sc pc x) (g : rMG N x) (Mk : Nat → Int32) (S0 H0 L0 P0 F0 U0 : Nat → Int32) (y0 y1 y2 y3 y4 y5 y6 : Int32) (ot aT : Nat) (W : Nat → Int64) (th q : Int32) : ∃ (o : Int32 × Int32),
    (∀ K : Int32 → (Nat × (Nat → Int32) × (Nat → Int32) × (Nat → Int32) × (Nat → Int32) × (Nat → Int32) × (Nat → Int32) × Int32 × Int32 × Int32 × Int32 × Int32 × Int32 × Int32 × (Nat → Int64)) → Prop, (∀ o' S' H' L' P' F' U' dy' ca' du' sl' fc' sc' pc' W', (o.1 = 0 → W' (0 : Int32).toNatClampNeg = o.2.toInt64) → K o.1 (o', S', H', L', P', F', U', dy', ca', du', sl', fc', sc', pc', W')) → wL_wouldSlide (nI (tN t)) Fi Ts S H L P F U dy ca du sl fc sc pc ot S0 H0 L0 P0 F0 U0 y0 y1 y2 y3 y4 y5 y6 W aT q K) ∧
    ∀ J : Int32 → (Int32 × (Nat → Int32) × (Nat → Int32)) → Prop, (∀ N' M', rMG N' x → J o.2 (o.1, N', M')) → wX10_wouldSlide th N Mk (nI (tN t)) Qf Qs q J := by
  rcases st_cases t x q wt with ⟨s, hs, rfl, h0⟩ | ⟨s, hs, rfl, h0⟩ | hno
  · have wd := wfG_dg wt w hs h0
    obtain ⟨k, b, hk, hst⟩ := stl_ok wt (gP x) wd.1
    refine ⟨(0, nI k), fun K kk => ?_, fun J kk => ?_⟩
    · unfold wL_wouldSlide wX8_wouldSlide
      exact nc_y wt w r hs h0 (sz_slidesOfDig wt w hTi hTs r hs h0 hk hst fun u => ⟨in01, kk _ _ _ _ _ _ _ _ _ _ _ _ _ _ _ (fun _ => upL_eq)⟩)
    · unfold wX10_wouldSlide
      exact ht_y wt w g hs h0 (br_f (by decide) (sm_slideBy wt w hQf hQs g hs h0 hst fun N' M' g' => kk N' M' g'))
  · refine ⟨(2, 0), fun K kk => ?_, fun J kk => ?_⟩
    · unfold wL_wouldSlide wX8_wouldSlide
      exact nc_0 wt w r hs h0 (Or.inr ⟨rfl, kk _ _ _ _ _ _ _ _ _ _ _ _ _ _ _ (fun z => absurd z (by decide))⟩)
    · unfold wX10_wouldSlide
      exact ht_0 wt g hs h0 (br_t rfl (kk N Mk g))
  · refine ⟨(1, 0), fun K kk => ?_, fun J kk => ?_⟩
    · unfold wL_wouldSlide wX8_wouldSlide
      exact nc_n hno (Or.inl ⟨rfl, kk _ _ _ _ _ _ _ _ _ _ _ _ _ _ _ (fun z => absurd z (by decide))⟩)
    · unfold wX10_wouldSlide
      exact ht_n wt hno (br_t rfl (kk N Mk g))
end DEEDS
