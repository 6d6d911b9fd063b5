/-! days until found, the mean year, the checksum: both -/
def fstB (g : Nat → Bool) : Nat → Nat → Option Nat
  | 0, i => if g i = true then some i else none
  | d + 1, i => if g i = true then some i else fstB g d (i + 1)
section UNTIL
variable {C Cu De Fi Ts Fr To Pk Ps Pt Ks Ds : Nat → Int32} {N Ms Mk Qs Qf Qc Qu Qw Qb Qe Qd Qbs Qes Qo Qx : Nat → Int32} {t : Tl} {p : Pn}
theorem sz_until {K : Int32 → ((Nat → Int32) × Int32 × (Nat → Int32) × (Nat → Int32) × (Nat → Int32) × (Nat → Int32) × (Nat → Int32) × (Nat → Int32) × Int32 × Int32 × Int32 × Int32 × Int32 × Int32 × Int32) → Prop} (wt : wfT t) (wp : wfP p) (rt : rCT t p C Cu De Fi Ts Fr To Pk Ps Pt Ks Ds) {S1 H1 L1 P1 F1 U1 : Nat → Int32} {z1 z2 z3 z4 z5 z6 z7 : Int32} {sq : Nat → Gs} (hq : ∀ i, Days t p 1 (sq i) (sq (i + 1))) (hw : ∀ i, wfX t (sq i)) {f : Nat} (hf : f < 24)
    (kk : ∀ u, K (fI (fstB (fun i => decide (1 ≤ gF1w (sq i) f)) 30 0)) u) : ∀ (d i : Nat), i + d = 30 → fstB (fun i => decide (1 ≤ gF1w (sq i) f)) d i = fstB (fun i => decide (1 ≤ gF1w (sq i) f)) 30 0 → ∀ (G : Nat → Int32) (g : Int32) (S H L P F U : Nat → Int32) (dy ca du sl fc sc pc : Int32), rSG S H L P F U dy ca du sl fc sc pc (sq i) →
    wX8_daysUntilFound_18 K (nI (tN t)) (nI (tE t)) (nI (tF t)) Fr To C De Fi Ts (nI (pO p)) (nI (pS p)) Pk Ps Pt Ks Ds S1 H1 L1 P1 F1 U1 z1 z2 z3 z4 z5 z6 z7 (d + 1) G g S H L P F U dy ca du sl fc sc pc (nI f) (nI i) := by
  intro d
  induction d with
  | zero =>
    intro i hi he G g S H L P F U dy ca du sl fc sc pc r
    have : i = 30 := by omega
    subst this
    unfold wX8_daysUntilFound_18
    refine br_t (by decide) (sz_wasFound r.1.2.2.2.2.1 hf ?_)
    have he2 : fstB (fun i => decide (1 ≤ gF1w (sq i) f)) 0 30 = (if decide (1 ≤ gF1w (sq 30) f) = true then some 30 else none) := rfl
    rw [he2] at he
    rw [← he] at kk
    refine bz rfl (fun e => ?_) (fun e => ?_)
    · rw [e] at kk; exact kk _
    · rw [e] at kk; exact kk _
  | succ d ih =>
    intro i hi he G g S H L P F U dy ca du sl fc sc pc r
    unfold wX8_daysUntilFound_18
    refine br_f (nI_ge (b := 30) (by omega) (by decide)) (sz_wasFound r.1.2.2.2.2.1 hf (bz rfl (fun e => ?_) (fun e => ?_)))
    · refine sz_liveDays (d := 1) wt wp rt (by decide) (hq i) (hw i) r (fun G' g' S' H' L' P' F' U' dy' ca' du' sl' fc' sc' pc' q => ?_)
      rw [nI_1]
      refine ih (i + 1) (by omega) ?_ G' g' S' H' L' P' F' U' dy' ca' du' sl' fc' sc' pc' q
      rw [← he]
      show _ = (if decide (1 ≤ gF1w (sq i) f) = true then some i else _)
      rw [e]
      rfl
    · have he2 : fstB (fun i => decide (1 ≤ gF1w (sq i) f)) (d + 1) i = some i := by
        show (if decide (1 ≤ gF1w (sq i) f) = true then some i else _) = _
        rw [e]
        rfl
      rw [← he, he2] at kk
      exact kk _
/-- the days one after the other -/
theorem sq_ex (wt : wfT t) (wp : wfP p) {x : Gs} (w : wfX t x) : ∃ sq : Nat → Gs, sq 0 = x ∧ (∀ i, Days t p 1 (sq i) (sq (i + 1))) ∧ ∀ i, wfX t (sq i) := by
  have h : ∀ x : { y : Gs // wfX t y }, ∃ y : { y : Gs // wfX t y }, Days t p 1 x.1 y.1 := fun x => by
    obtain ⟨y, h1, h2⟩ := days_ex wt wp 1 x.1 x.2
    exact ⟨⟨y, h2⟩, h1⟩
  obtain ⟨nx, hnx⟩ := Classical.axiomOfChoice h
  refine ⟨fun i => (Nat.rec (motive := fun _ => { y : Gs // wfX t y }) ⟨x, w⟩ (fun _ y => nx y) i).1, rfl, fun i => hnx _, fun i => Subtype.property _⟩
end UNTIL
section MEAN
variable {C De U N Qc Qw : Nat → Int32} {t : Tl} {a : Sg} {pr : Nat → Bool} {fa : Nat → Nat} {dy ca du sl : Int32}
def myS (t : Tl) (fa : Nat → Nat) : Nat → Int32 × Nat
  | 0 => (0, 0)
  | i + 1 => if tCo t i = true ∧ fa i = 2 then ((myS t fa i).1 + tDe t i, (myS t fa i).2 + 1) else myS t fa i
theorem myS_le (t : Tl) (fa : Nat → Nat) : ∀ i, (myS t fa i).2 ≤ i
  | 0 => Nat.le_refl _
  | i + 1 => by
    have := myS_le t fa i
    unfold myS
    split
    · dsimp only; omega
    · omega
def myV (t : Tl) (fa : Nat → Nat) : UInt64 := if (myS t fa (tF t)).2 = 0 then FP.dconst0 else FP.ddiv (FP.i2d (myS t fa (tF t)).1) (FP.i2d (nI (myS t fa (tF t)).2))
theorem myV_ok (wt : wfT t) : (myV t fa).toNat % 9223372036854775808 ≤ 9218868437227405312 := by
  unfold myV
  have := myS_le t fa (tF t)
  have := wt.2.2.2.1
  by_cases z : (myS t fa (tF t)).2 = 0
  · rw [if_pos z]; decide
  · rw [if_neg z]; exact ddiv_ok _ (by omega) z
theorem sz_meanYear {K : UInt64 → Unit → Prop} (wt : wfT t) (rc : rB (tF t) C (tCo t)) (rd : ∀ f, f < tF t → De f = tDe t f) (rU : rB 24 U (fun f => decide (fa f = 2))) (kk : K (myV t fa) ()) : wX8_meanYear (nI (tF t)) C De U K := by
  have n24 := wt.2.2.2.1
  unfold wX8_meanYear
  refine pk_loop (fun n i (y : Int32 × Int32) => wX8_meanYear_6 K (nI (tF t)) C De U n y.1 y.2 (nI i)) (fun i y => y = (nI (myS t fa i).2, (myS t fa i).1)) (tF t) 0 (0, 0) (Nat.zero_le _) rfl (fun n y hy => ?_) (fun n i y hi hy ih => ?_)
  · subst hy
    have hle := myS_le t fa (tF t)
    unfold wX8_meanYear_6
    unfold myV at kk
    refine br_t (nI_le (Nat.le_refl _) (by omega)) ⟨fun z => ?_, fun z => ?_⟩
    · have z0 : (myS t fa (tF t)).2 ≠ 0 := fun e => z (by show nI (myS t fa (tF t)).2 = 0; rw [e]; rfl)
      rw [if_neg z0] at kk
      exact ⟨n64_of (ddiv_ok _ (by omega) z0), kk⟩
    · have z0 : (myS t fa (tF t)).2 = 0 := (nI_eq (by omega) (by decide)).mp z
      rw [if_pos z0] at kk
      exact kk
  · subst hy
    have ih := ih _ rfl
    unfold myS at ih
    unfold wX8_meanYear_6 wX8_meanYear_53
    rw [nI_1]
    refine br_f (nI_ge hi (by omega)) (sz_tellsCoin wt rc hi (bz rfl (fun e => ?_) (fun e => ?_)))
    · rw [if_neg (fun z => by rw [e] at z; cases z.1)] at ih
      exact ih
    · refine sz_wasSure rU (by omega) (bz rfl (fun e2 => ?_) (fun e2 => ?_))
      · rw [decide_eq_false_iff_not] at e2
        rw [if_neg (fun z => e2 z.2)] at ih
        exact ih
      · rw [decide_eq_true_eq] at e2
        rw [if_pos ⟨e, e2⟩] at ih
        refine sz_coinYear wt rc rd hi ?_
        rw [if_pos e]
        rw [← nI_1] at ih
        exact ih
end MEAN
def tsX (a : Sg) (i : Nat) : Int32 := if a.2.1 i = 0 then -1 else nI (tp a i % 10)
def dgS (t : Tl) (x : Gs) (d : Int64) : Nat → Int64
  | 0 => d
  | i + 1 => (((((((dgS t x d i * 31) + (nI ((gA1w x).2.1 i)).toInt64) * 31) + (zB1w (gP x i)).toInt64) * 31) + (nI (lf t (gA1w x) i)).toInt64) * 31) + (tsX (gA1w x) i).toInt64
def dgN (t : Tl) (x : Gs) (d : Int64) : Nat → Int64
  | 0 => d
  | i + 1 => (((dgN t x d i * 31) + (zB1w (decide (1 ≤ gF1w x i))).toInt64) * 31) + (zB1w (decide (gF1w x i = 2))).toInt64
def dgT (t : Tl) (x : Gs) (d : Int64) : Nat → Int64
  | 0 => d
  | i + 1 => (((dgT t x d i * 31) + (eyr t (gF1w x) i (tF t)).toInt64) * 31) + (zB1w (anyB (fun y => anyB (mxP t (gF1w x) i y) (tE t)) (tE t))).toInt64
def dg0 (t : Tl) (x : Gs) (b : Int32) : Int64 := (((((((((((((((((((((1021 : Int64) * 31) + (nI (tN t)).toInt64) * 31) + (nI (tM t)).toInt64) * 31) + (nI (tF t)).toInt64) * 31) + (gDy x).toInt64) * 31) + (gCa x).toInt64) * 31) + (gDu x).toInt64) * 31) + (gSl x).toInt64) * 31) + (fcX x).toInt64) * 31) + (nI (fb_ct (fun f => decide (gF1w x f = 2)) 24)).toInt64) * 31) + b.toInt64)
def dgA (t : Tl) (x : Gs) (b : Int32) : Int64 := dgT t x (dgN t x (dgS t x (dg0 t x b) (tN t)) (tF t)) (tM t)
section DIGEST
variable {S H L P F U S0 H0 L0 P0 F0 U0 C Cu De Ti Ts Fr To N M Qs Qf Qc Qu Qw Qb Qe : Nat → Int32} {dy ca du sl fc sc pc y0 y1 y2 y3 y4 y5 y6 : Int32} {x : Gs} {t : Tl}
theorem sz_digestSeats {K : Int64 → Unit → Prop} (wt : wfT t) (w : wfX t x) (hTi : ∀ c, c < 80 → Ti c = fI (tFi t c)) (r : rSG S H L P F U dy ca du sl fc sc pc x) (d : Int64) (kk : K (dgS t x d (tN t)) ()) : wX8_digestSeats (nI (tN t)) Ti S H P d K := by
  have n8 := wt.1.2
  have h8 : ∀ s, 8 ≤ s → (gA1w x).2.1 s = 0 := fun s z => w.1.2.1 s (by omega)
  unfold wX8_digestSeats
  refine pk_loop (fun n i (y : Int64) => wX8_digestSeats_5 K (nI (tN t)) Ti S H P n y (nI i)) (fun i y => y = dgS t x d i) (tN t) 0 d (Nat.zero_le _) rfl (fun n y hy => ?_) (fun n i y hi hy ih => ?_)
  · subst hy
    unfold wX8_digestSeats_5
    exact br_t (nI_le (Nat.le_refl _) (by omega)) kk
  · subst hy
    have ih := ih _ rfl
    have b10 := w.1.1 i
    unfold wX8_digestSeats_5
    refine br_f (nI_ge hi (by omega)) (sz_heightAt r.1.2.1 h8 (by omega) (sz_hasProp r.1.2.2.2.1 (by omega) ?_))
    have go : ∀ b : Bool, b = gP x i → wX8_digestSeats_56 K (wX8_digestSeats_5 K (nI (tN t)) Ti S H P n) (nI (tN t)) Ti S H P (nI i) (zB1w b) (((dgS t x d i * 31) + (nI ((gA1w x).2.1 i)).toInt64) * 31) := by
      intro b hb
      subst hb
      unfold wX8_digestSeats_56
      refine sz_findsInStack wt w.1 r.1.1 r.1.2.1 hTi hi ?_
      rw [nI_1]
      have ih : wX8_digestSeats_5 K (nI (tN t)) Ti S H P n ((((((((dgS t x d i * 31) + (nI ((gA1w x).2.1 i)).toInt64) * 31) + (zB1w (gP x i)).toInt64) * 31) + (nI (lf t (gA1w x) i)).toInt64) * 31) + (tsX (gA1w x) i).toInt64) (nI (i + 1)) := ih
      unfold tsX at ih
      rcases Nat.eq_zero_or_pos ((gA1w x).2.1 i) with z | z
      · rw [if_pos z] at ih
        refine sz_topOf0 r.1.2.1 (by omega) z h8 ?_
        unfold wX7_stratumOfCushion wX7_isCushion
        exact br_t (by decide) (br_t rfl ih)
      · rw [if_neg (by omega)] at ih
        exact sz_topOf r.1.1 r.1.2.1 (by omega) z b10 h8 (sz_stratumOfCushion (w.1.2.2 i _ (by omega)) ih)
    refine bz rfl (fun e => ?_) (fun e => ?_)
    · exact go false e.symm
    · exact go true e.symm
theorem sz_digestFinds {K : Int64 → Unit → Prop} (wt : wfT t) (r : rSG S H L P F U dy ca du sl fc sc pc x) (d : Int64) (kk : K (dgN t x d (tF t)) ()) : wX8_digestFinds (nI (tF t)) F U d K := by
  have n24 := wt.2.2.2.1
  unfold wX8_digestFinds
  refine pk_loop (fun n i (y : Int64) => wX8_digestFinds_5 K (nI (tF t)) F U n y (nI i)) (fun i y => y = dgN t x d i) (tF t) 0 d (Nat.zero_le _) rfl (fun n y hy => ?_) (fun n i y hi hy ih => ?_)
  · subst hy
    unfold wX8_digestFinds_5
    exact br_t (nI_le (Nat.le_refl _) (by omega)) kk
  · subst hy
    have ih := ih _ rfl
    have ih : wX8_digestFinds_5 K (nI (tF t)) F U n ((((dgN t x d i * 31) + (zB1w (decide (1 ≤ gF1w x i))).toInt64) * 31) + (zB1w (decide (gF1w x i = 2))).toInt64) (nI (i + 1)) := ih
    unfold wX8_digestFinds_5
    refine br_f (nI_ge hi (by omega)) (sz_wasFound r.1.2.2.2.2.1 (by omega) ?_)
    have go : ∀ b : Bool, b = decide (1 ≤ gF1w x i) → wX8_digestFinds_39 K (wX8_digestFinds_5 K (nI (tF t)) F U n) (nI (tF t)) F U (nI i) (zB1w b) (dgN t x d i * 31) := by
      intro b hb
      subst hb
      unfold wX8_digestFinds_39
      refine sz_wasSure r.1.2.2.2.2.2.1 (by omega) ?_
      unfold wX8_digestFinds_64
      rw [nI_1]
      refine bz rfl (fun e => ?_) (fun e => ?_)
      · have e : decide (gF1w x i = 2) = false := e
        rw [e] at ih; exact ih
      · have e : decide (gF1w x i = 2) = true := e
        rw [e] at ih; exact ih
    refine bz rfl (fun e => ?_) (fun e => ?_)
    · exact go false e.symm
    · exact go true e.symm
theorem sz_digestStrata {K : Int64 → Unit → Prop} (wt : wfT t) (rc : rB (tF t) C (tCo t)) (rd : ∀ f, f < tF t → De f = tDe t f) (ru : rN (tF t) Cu (tCu t)) (rf : ∀ e, e < tE t → Fr e = tFr t e) (ro : ∀ e, e < tE t → To e = tTo t e) (r : rSG S H L P F U dy ca du sl fc sc pc x) (d : Int64) (kk : K (dgT t x d (tM t)) ()) : wX8_digestStrata (nI (tM t)) (nI (tE t)) (nI (tF t)) Fr To C Cu De U d K := by
  have m10 := wt.2.1.2
  unfold wX8_digestStrata
  refine pk_loop (fun n i (y : Int64) => wX8_digestStrata_5 K (nI (tM t)) (nI (tE t)) (nI (tF t)) Fr To C Cu De U n y (nI i)) (fun i y => y = dgT t x d i) (tM t) 0 d (Nat.zero_le _) rfl (fun n y hy => ?_) (fun n i y hi hy ih => ?_)
  · subst hy
    unfold wX8_digestStrata_5
    exact br_t (nI_le (Nat.le_refl _) (by omega)) kk
  · subst hy
    have ih := ih _ rfl
    have ih : wX8_digestStrata_5 K (nI (tM t)) (nI (tE t)) (nI (tF t)) Fr To C Cu De U n ((((dgT t x d i * 31) + (eyr t (gF1w x) i (tF t)).toInt64) * 31) + (zB1w (anyB (fun y => anyB (mxP t (gF1w x) i y) (tE t)) (tE t))).toInt64) (nI (i + 1)) := ih
    unfold wX8_digestStrata_5 wX8_digestStrata_56
    rw [nI_1]
    refine br_f (nI_ge hi (by omega)) (sz_earliestYear wt rc rd rf ru r.1.2.2.2.2.2.1 (by omega) (sz_showsMixture wt rc rd ru rf ro r.1.2.2.2.2.2.1 (by omega) (bz rfl (fun e => ?_) (fun e => ?_))))
    · rw [e] at ih; exact ih
    · rw [e] at ih; exact ih
theorem sz_digest {K : Int64 → (Nat × (Nat → Int32) × (Nat → Int32) × (Nat → Int32) × (Nat → Int32) × (Nat → Int32) × (Nat → Int32) × Int32 × Int32 × Int32 × Int32 × Int32 × Int32 × Int32) → Prop} (wt : wfT t) (w : wfX t x) (hTi : ∀ c, c < 80 → Ti c = fI (tFi t c)) (hTs : rB 80 Ts (tSp t)) (rc : rB (tF t) C (tCo t)) (rd : ∀ f, f < tF t → De f = tDe t f) (ru : rN (tF t) Cu (tCu t)) (rf : ∀ e, e < tE t → Fr e = tFr t e) (ro : ∀ e, e < tE t → To e = tTo t e) (r : rSG S H L P F U dy ca du sl fc sc pc x) {kf : Nat → Nat} (hkf : ∀ s, s < tN t → 0 < (gA1w x).2.1 s → kf s ≤ 800 ∧ ∃ b, Stl (tSp t) (gP x) (tN t) (kf s) (dg1 (gA1w x) s) b) {ot aT : Nat}
    (kk : ∀ u, K (dgA t x (fI (bst (gA1w x).2.1 kf (lf t (gA1w x)) (tN t)))) u) : wX8_digest (nI (tN t)) (nI (tM t)) (nI (tE t)) (nI (tF t)) Fr To C Cu De Ti Ts S H L P F U dy ca du sl fc sc pc ot S0 H0 L0 P0 F0 U0 y0 y1 y2 y3 y4 y5 y6 aT K := by
  unfold wX8_digest
  refine sz_bestDig wt w hTi hTs r hkf (fun u => ?_)
  have r' := r
  obtain ⟨r1, rfl, rfl, rfl, rfl⟩ := r'
  have hf := r1.2.2.2.2.2.2.1
  have hs := r1.2.2.2.2.2.2.2.1
  subst hf hs
  refine sz_digestSeats wt w hTi r _ (sz_digestFinds wt r _ (sz_digestStrata wt rc rd ru rf ro r _ (kk _)))
def fo (Y : Nat → Int32) : Nat → Int64
  | 0 => 1021
  | i + 1 => (fo Y i * 31) + (Y i).toInt64
theorem ct_2 {fa : Nat → Nat} (h2 : ∀ f, fa f ≤ 2) : (fun f => decide (2 ≤ fa f)) = (fun f => decide (fa f = 2)) := by
  funext f
  have := h2 f
  by_cases e : fa f = 2
  · simp [e]
  · have : ¬ 2 ≤ fa f := by omega
    simp [e, this]
end DIGEST
