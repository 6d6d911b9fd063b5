/-! days: the orders one after the other, the days, both -/
def Ords (t : Tl) (p : Pn) : Nat → Nat → Gs → Gs → Prop
  | 0, _, x, y => y = x
  | n + 1, o, x, y => ∃ z dn, Ord t p o x z dn ∧ Ords t p n (o + 1) z y
def dayX (y : Gs) : Gs := (gA1w y, gP y, gF1w y, gDy y + 1, gCa y, gDu y, gSl y)
def Days (t : Tl) (p : Pn) : Nat → Gs → Gs → Prop
  | 0, x, y => y = x
  | n + 1, x, y => ∃ z, Ords t p (pO p) 0 x z ∧ Days t p n (dayX z) y
theorem ords_ex {t : Tl} (wt : wfT t) {p : Pn} (wp : wfP p) : ∀ (n o : Nat) (x : Gs), o + n = pO p → wfX t x → ∃ y, Ords t p n o x y ∧ wfX t y := by
  intro n
  induction n with
  | zero => intro o x _ w; exact ⟨x, rfl, w⟩
  | succ n ih =>
    intro o x h w
    obtain ⟨z, dn, h1, h2⟩ := ord_ex wt wp (o := o) (by omega) w
    obtain ⟨y, h3, h4⟩ := ih (o + 1) z (by omega) h2
    exact ⟨y, ⟨z, dn, h1, h3⟩, h4⟩
theorem days_ex {t : Tl} (wt : wfT t) {p : Pn} (wp : wfP p) : ∀ (n : Nat) (x : Gs), wfX t x → ∃ y, Days t p n x y ∧ wfX t y := by
  intro n
  induction n with
  | zero => intro x w; exact ⟨x, rfl, w⟩
  | succ n ih =>
    intro x w
    obtain ⟨z, h1, h2⟩ := ords_ex wt wp (pO p) 0 x (by omega) w
    obtain ⟨y, h3, h4⟩ := ih (dayX z) h2
    exact ⟨y, ⟨z, h1, h3⟩, h4⟩
theorem cry_ca {t : Tl} {kd s : Nat} {x y : Gs} {dn : Bool} (h : Cry t kd s x y dn) : gCa y = gCa x + zB1w dn ∧ gDy y = gDy x := by
  rcases h with ⟨-, -, rfl, k, b, -, -, rfl⟩ | ⟨-, -, -, rfl, rfl⟩ | ⟨-, -, rfl, k, b, -, -, rfl⟩ | ⟨-, rfl, rfl⟩
  · exact ⟨rfl, rfl⟩
  · exact ⟨rfl, rfl⟩
  · exact ⟨rfl, rfl⟩
  · exact ⟨(Int32.add_zero _).symm, rfl⟩
theorem ord_ca {t : Tl} {p : Pn} {o : Nat} {x y : Gs} {dn : Bool} (h : Ord t p o x y dn) : gCa y = gCa x + zB1w dn ∧ gDy y = gDy x := by
  rcases h with ⟨-, rfl, rfl⟩ | ⟨-, s, -, -, h⟩
  · exact ⟨(Int32.add_zero _).symm, rfl⟩
  · exact cry_ca h
theorem cry_wf {t : Tl} (wt : wfT t) {kd s : Nat} (hs : s < tN t) {x y : Gs} {dn : Bool} (h : Cry t kd s x y dn) (w : wfX t x) : wfX t y := by
  rcases h with ⟨-, h0, rfl, k, b, -, hst, rfl⟩ | ⟨-, -, -, rfl, rfl⟩ | ⟨-, -, rfl, k, b, -, hst, rfl⟩ | ⟨-, rfl, rfl⟩
  · exact wfG_stl k _ b hst (wfG_dg wt w hs h0)
  · exact wfG_pr w hs true
  · exact wfG_stl k _ b hst (wfG_pr w hs false)
  · exact w
theorem ord_wf {t : Tl} (wt : wfT t) {p : Pn} {o : Nat} {x y : Gs} {dn : Bool} (h : Ord t p o x y dn) (w : wfX t x) : wfX t y := by
  rcases h with ⟨-, rfl, rfl⟩ | ⟨-, s, hs, -, h⟩
  · exact w
  · exact cry_wf wt hs h w
section DAYSC
variable {C Cu De Fi Ts Fr To Pk Ps Pt Ks Ds : Nat → Int32} {t : Tl} {p : Pn}
theorem sz_sumEnd {K : Int32 → Unit → Prop} (wp : wfP p) (rp : ∀ o, o < pO p → Pk o = nI (pKd p o) ∧ Ps o = nI (pE1 p o) ∧ Pt o = nI (pE2 p o)) {o : Nat} (ho : o < pO p) (k : K (nI (pE1 p o)) ()) : wX1_sumEnd (nI (pO p)) Ps (nI o) K := by
  have b := wp.1
  unfold wX1_sumEnd wX1_isOrder
  refine br_f (nI_pos (by omega)) (br_f (nI_ge ho (by omega)) (br_f (by decide) ⟨vp_in_nI (by omega) (by decide), ?_⟩))
  rw [nI_clamp (by omega), (rp o ho).2.1]
  exact k
theorem sz_testEnd {K : Int32 → Unit → Prop} (wp : wfP p) (rp : ∀ o, o < pO p → Pk o = nI (pKd p o) ∧ Ps o = nI (pE1 p o) ∧ Pt o = nI (pE2 p o)) {o : Nat} (ho : o < pO p) (k : K (nI (pE2 p o)) ()) : wX1_testEnd (nI (pO p)) Pt (nI o) K := by
  have b := wp.1
  unfold wX1_testEnd wX1_isOrder
  refine br_f (nI_pos (by omega)) (br_f (nI_ge ho (by omega)) (br_f (by decide) ⟨vp_in_nI (by omega) (by decide), ?_⟩))
  rw [nI_clamp (by omega), (rp o ho).2.2]
  exact k
theorem sz_kindOf {K : Int32 → Unit → Prop} (wp : wfP p) (rp : ∀ o, o < pO p → Pk o = nI (pKd p o) ∧ Ps o = nI (pE1 p o) ∧ Pt o = nI (pE2 p o)) {o : Nat} (ho : o < pO p) (k : K (nI (pKd p o)) ()) : wX1_kindOf (nI (pO p)) Pk (nI o) K := by
  have b := wp.1
  unfold wX1_kindOf wX1_isOrder
  refine br_f (nI_pos (by omega)) (br_f (nI_ge ho (by omega)) (br_f (by decide) ⟨vp_in_nI (by omega) (by decide), ?_⟩))
  rw [nI_clamp (by omega), (rp o ho).1]
  exact k
theorem sz_sumStart {K : Int32 → Unit → Prop} (wp : wfP p) (rp : ∀ o, o < pO p → Pk o = nI (pKd p o) ∧ Ps o = nI (pE1 p o) ∧ Pt o = nI (pE2 p o)) {o : Nat} (ho : o < pO p) (k : K (nI (be0 p o)) ()) : wX1_sumStart (nI (pO p)) Pt (nI o) K := by
  unfold wX1_sumStart
  unfold be0 at k
  rcases Nat.eq_zero_or_pos o with z | z
  · subst z
    unfold wX1_testEnd wX1_isOrder
    exact br_t (by decide) (br_t rfl k)
  · rw [if_neg (by omega)] at k
    rw [nI_dec z]
    exact sz_testEnd wp rp (by omega) k
/-- the class's told things and plan, whole -/
def rCT (t : Tl) (p : Pn) (C Cu De Fi Ts Fr To Pk Ps Pt Ks Ds : Nat → Int32) : Prop :=
  (rB (tF t) C (tCo t) ∧ rN (tF t) Cu (tCu t) ∧ (∀ f, f < tF t → De f = tDe t f) ∧ (∀ c, c < 80 → Fi c = fI (tFi t c)) ∧ rB 80 Ts (tSp t) ∧ (∀ e, e < tE t → Fr e = tFr t e) ∧ (∀ e, e < tE t → To e = tTo t e)) ∧
  (∀ o, o < pO p → Pk o = nI (pKd p o) ∧ Ps o = nI (pE1 p o) ∧ Pt o = nI (pE2 p o)) ∧ rKc t (pS p) (pK p) (pD p) Ks Ds
theorem sz_isDue {S H L P F U G : Nat → Int32} {x : Gs} {dy ca du sl fc sc pc g : Int32} {K : Int32 → ((Nat → Int32) × Int32) → Prop} (wt : wfT t) (wp : wfP p) (w : wfX t x) (rt : rCT t p C Cu De Fi Ts Fr To Pk Ps Pt Ks Ds) (r : rSG S H L P F U dy ca du sl fc sc pc x) {o : Nat} (ho : o < pO p) (kk : ∀ G' g', K (zB1w (dueX t p x o)) (G', g')) :
    wX2_isDue (nI (tN t)) (nI (tE t)) (nI (tF t)) Fr To C De (nI (pO p)) (nI (pS p)) Ps Pt Ks Ds G g H U dy sl fc pc (nI o) K := by
  obtain ⟨v1, ⟨v2, v3, v4⟩, v5, v6⟩ := wp.2.2 o ho
  have hns := wp.2.1
  obtain ⟨⟨rc, ru, rd, rfi, rts, rf, ro⟩, rp, rk⟩ := rt
  obtain ⟨r, rfl, rfl, rfl, rfl⟩ := r
  unfold wX2_isDue
  refine sz_sumEnd wp rp ho (sz_testEnd wp rp ho (pk_eq (pE1 p o) (pE2 p o) (fun e => ?_) (fun e => ?_)))
  · have kk := kk G g
    have z : dueX t p x o = true := by unfold dueX; simp [e]
    rw [z] at kk
    exact kk
  · have ht : tyR (pK p) (pE2 p o - pE1 p o) (pE1 p o) [] = some [true] := by
      rcases v6 with z | z
      · exact absurd z e
      · exact z
    refine sz_reckon wt w.1 rc rd rf ro r.2.1 r.2.2.2.2.2.1 r.2.2.2.2.2.2.1 r.2.2.2.2.2.2.2.2 hns rk v3 v4 ht (fun P' => ?_)
    have kk := kk P' 0
    show (vX t p x (pE1 p o) (pE2 p o) = 0 → _) ∧ (¬ vX t p x (pE1 p o) (pE2 p o) = 0 → _)
    refine ⟨fun q => ?_, fun q => ?_⟩
    · have z : dueX t p x o = false := by unfold dueX; simp [e, q]
      rw [z] at kk
      exact kk
    · have z : dueX t p x o = true := by unfold dueX; simp [q]
      rw [z] at kk
      exact kk
theorem sz_orders {KK : ((Nat → Int32) × Int32 × (Nat → Int32) × (Nat → Int32) × (Nat → Int32) × (Nat → Int32) × (Nat → Int32) × (Nat → Int32) × Int32 × Int32 × Int32 × Int32 × Int32 × Int32 × Int32) → Prop} {KL : (Nat → Int32) → Int32 → (Nat → Int32) → (Nat → Int32) → (Nat → Int32) → (Nat → Int32) → (Nat → Int32) → (Nat → Int32) → Int32 → Int32 → Int32 → Int32 → Int32 → Int32 → Int32 → Int32 → Int32 → Prop}
    (wt : wfT t) (wp : wfP p) (rt : rCT t p C Cu De Fi Ts Fr To Pk Ps Pt Ks Ds) {x2 x4 : Int32} : ∀ (n o : Nat) (x y : Gs), Ords t p n o x y → o + n = pO p → wfX t x → ∀ (G : Nat → Int32) (g : Int32) (S H L P F U : Nat → Int32) (dy ca du sl fc sc pc : Int32), rSG S H L P F U dy ca du sl fc sc pc x →
    (∀ G' g' S' H' L' P' F' U' dy' ca' du' sl' fc' sc' pc', rSG S' H' L' P' F' U' dy' ca' du' sl' fc' sc' pc' y → KL G' g' S' H' L' P' F' U' (dy' + 1) ca' du' sl' fc' sc' pc' x2 (x4 + 1)) →
    wX2_liveDays_20 KK KL (nI (tN t)) (nI (tE t)) (nI (tF t)) Fr To C De Fi Ts (nI (pO p)) (nI (pS p)) Pk Ps Pt Ks Ds (n + 1) G g S H L P F U dy ca du sl fc sc pc x2 x4 (nI o) := by
  have b16 := wp.1
  intro n
  induction n with
  | zero =>
    intro o x y h ho w G g S H L P F U dy ca du sl fc sc pc r kk
    have h : y = x := h
    subst h
    unfold wX2_liveDays_20
    exact br_t (nI_le (by omega) (by omega)) (kk G g S H L P F U dy ca du sl fc sc pc r)
  | succ n ih =>
    intro o x y h ho w G g S H L P F U dy ca du sl fc sc pc r kk
    obtain ⟨z, dn, h1, h2⟩ := h
    have wz := ord_wf wt h1 w
    obtain ⟨v1, ⟨v2, v3, v4⟩, v5, v6⟩ := wp.2.2 o (by omega)
    have hns := wp.2.1
    have ih := ih (o + 1) z y h2 (by omega) wz
    unfold wX2_liveDays_20
    refine br_f (nI_ge (by omega) (by omega)) (sz_isDue wt wp w rt r (by omega) (fun G' g' => ?_))
    unfold wX2_liveDays_78
    rw [nI_1]
    rcases h1 with ⟨hd, rfl, rfl⟩ | ⟨hd, s, hs, hf, hc⟩
    · rw [hd]
      exact br_t rfl (ih G' g' S H L P F U dy ca du sl fc sc pc r kk)
    · rw [hd]
      obtain ⟨⟨rc, ru, rd, rfi, rts, rf, ro⟩, rp, rk⟩ := rt
      obtain ⟨r1, e1, e2, e3, e4⟩ := r
      have hf : fmV (vR t (gA1w x) (gP x) (gF1w x) (gDy x) (gSl x) (pK p) (pD p) (be0 p o) (pE1 p o)) (nI (tN t)) = nI s := hf
      refine br_f (by decide) (sz_sumStart wp rp (by omega) (sz_sumEnd wp rp (by omega) ?_))
      rw [e1, e4]
      refine sz_reckon wt w.1 rc rd rf ro r1.2.1 r1.2.2.2.2.2.1 r1.2.2.2.2.2.2.1 r1.2.2.2.2.2.2.2.2 hns rk v2 (by omega) v5 (fun P9 => sz_kindOf wp rp (by omega) ?_)
      unfold wX7_seatOfSum
      refine br_t (nI_le (a := 2) wt.1.1 (by have := wt.1.2; omega)) (fm_wp (nI_ne0 (by have := wt.1.1; omega) (by have := wt.1.2; omega)) ?_)
      rw [hf]
      refine sz_carryOut (dy := gDy x) wt w rfi rts ⟨r1, rfl, e2, e3, rfl⟩ hs hc (fun S' H' L' P' F' U' ca' du' sl' fc' sc' pc' q => ?_)
      exact ih P9 0 S' H' L' P' F' U' (gDy x) ca' du' (sl') fc' sc' pc' q kk
theorem sz_liveDays {K : ((Nat → Int32) × Int32 × (Nat → Int32) × (Nat → Int32) × (Nat → Int32) × (Nat → Int32) × (Nat → Int32) × (Nat → Int32) × Int32 × Int32 × Int32 × Int32 × Int32 × Int32 × Int32) → Prop} (wt : wfT t) (wp : wfP p) (rt : rCT t p C Cu De Fi Ts Fr To Pk Ps Pt Ks Ds) {G S H L P F U : Nat → Int32} {g dy ca du sl fc sc pc : Int32} {d : Nat} (hd : d ≤ 30) {x y : Gs} (h : Days t p d x y) (w : wfX t x) (r : rSG S H L P F U dy ca du sl fc sc pc x)
    (kk : ∀ G' g' S' H' L' P' F' U' dy' ca' du' sl' fc' sc' pc', rSG S' H' L' P' F' U' dy' ca' du' sl' fc' sc' pc' y → K (G', g', S', H', L', P', F', U', dy', ca', du', sl', fc', sc', pc')) :
    wX2_liveDays (nI (tN t)) (nI (tE t)) (nI (tF t)) Fr To C De Fi Ts (nI (pO p)) (nI (pS p)) Pk Ps Pt Ks Ds G g S H L P F U dy ca du sl fc sc pc (nI d) K := by
  unfold wX2_liveDays
  have key : ∀ (n i : Nat) (x : Gs), i + n = d → Days t p n x y → wfX t x → ∀ (G : Nat → Int32) (g : Int32) (S H L P F U : Nat → Int32) (dy ca du sl fc sc pc : Int32), rSG S H L P F U dy ca du sl fc sc pc x →
      wX2_liveDays_11 K (nI (tN t)) (nI (tE t)) (nI (tF t)) Fr To C De Fi Ts (nI (pO p)) (nI (pS p)) Pk Ps Pt Ks Ds (n + 1) G g S H L P F U dy ca du sl fc sc pc (nI d) (nI i) := by
    intro n
    induction n with
    | zero =>
      intro i x hi h w G g S H L P F U dy ca du sl fc sc pc r
      have h : y = x := h
      subst h
      unfold wX2_liveDays_11
      exact br_t (nI_le (by omega) (by omega)) (kk G g S H L P F U dy ca du sl fc sc pc r)
    | succ n ih =>
      intro i x hi h w G g S H L P F U dy ca du sl fc sc pc r
      obtain ⟨z, h1, h2⟩ := h
      have wz : wfX t z := by
        have : ∀ (n o : Nat) (x y : Gs), Ords t p n o x y → wfX t x → wfX t y := by
          intro n
          induction n with
          | zero => intro o x y h w; have h : y = x := h; rw [h]; exact w
          | succ n ih =>
            intro o x y h w
            obtain ⟨z, dn, a1, a2⟩ := h
            exact ih (o + 1) z y a2 (ord_wf wt a1 w)
        exact this _ _ _ _ h1 w
      unfold wX2_liveDays_11
      refine br_f (nI_ge (by omega) (by omega)) ⟨pO p + 1, ?_⟩
      refine sz_orders wt wp rt (pO p) 0 x z h1 (by omega) w G g S H L P F U dy ca du sl fc sc pc r (fun G' g' S' H' L' P' F' U' dy' ca' du' sl' fc' sc' pc' q => ?_)
      rw [nI_1]
      obtain ⟨q1, q2, q3, q4, q5⟩ := q
      exact ih (i + 1) (dayX z) (by omega) h2 wz G' g' S' H' L' P' F' U' (dy' + 1) ca' du' sl' fc' sc' pc' ⟨q1, by rw [q2]; rfl, q3, q4, q5⟩
  exact ⟨d + 1, key d 0 x (by omega) h w G g S H L P F U dy ca du sl fc sc pc r⟩
end DAYSC
section DAYSM
variable {N Ms Qs Qf Qc Qu Qw Qb Qe Qd Qbs Qes Qo Qx : Nat → Int32} {t : Tl} {p : Pn}
/-- the model's told things and plan, whole -/
def rMT (t : Tl) (p : Pn) (Qb Qe Qc Qu Qw Qf Qs Qd Qbs Qes Qo Qx : Nat → Int32) : Prop :=
  (rB (tF t) Qc (tCo t) ∧ rN (tF t) Qu (tCu t) ∧ (∀ f, f < tF t → Qw f = tDe t f) ∧ (∀ c, c < 80 → Qf c = fI (tFi t c)) ∧ rB 80 Qs (tSp t) ∧ (∀ e, e < tE t → Qb e = tFr t e) ∧ (∀ e, e < tE t → Qe e = tTo t e)) ∧
  (∀ o, o < pO p → Qd o = nI (pKd p o) ∧ Qbs (2 * o) = nI (be0 p o) ∧ Qes (2 * o) = nI (pE1 p o) ∧ Qbs (2 * o + 1) = nI (pE1 p o) ∧ Qes (2 * o + 1) = nI (pE2 p o)) ∧ rKm t (pS p) (pK p) (pD p) Qo Qx
theorem ords_wf {t : Tl} (wt : wfT t) {p : Pn} : ∀ (n o : Nat) (x y : Gs), Ords t p n o x y → wfX t x → wfX t y := by
  intro n
  induction n with
  | zero => intro o x y h w; have h : y = x := h; rw [h]; exact w
  | succ n ih =>
    intro o x y h w
    obtain ⟨z, dn, a1, a2⟩ := h
    exact ih (o + 1) z y a2 (ord_wf wt a1 w)
theorem days_wf {t : Tl} (wt : wfT t) {p : Pn} : ∀ (n : Nat) (x y : Gs), Days t p n x y → wfX t x → wfX t y := by
  intro n
  induction n with
  | zero => intro x y h w; have h : y = x := h; rw [h]; exact w
  | succ n ih =>
    intro x y h w
    obtain ⟨z, a1, a2⟩ := h
    have wz := ords_wf wt _ _ _ _ a1 w
    exact ih (dayX z) y a2 wz
def fcX (x : Gs) : Int32 := nI (fb_ct (fun f => decide (1 ≤ gF1w x f)) 24)
end DAYSM
