/-! days until found, the mean year, the checksum: both -/
def fstB (g : Nat → Bool) : Nat → Nat → Option Nat
  | 0, i => if g i = true then some i else none
  | d + 1, i => if g i = true then some i else fstB g d (i + 1)
section UNTIL
variable {C Cu De Fi Ts Fr To Pk Ps Pt Ks Ds : Nat → Int32} {N Ms Mk Qs Qf Qc Qu Qw Qb Qe Qd Qbs Qes Qo Qx : Nat → Int32} {t : Tl} {p : Pn}
theorem sz_until {K : Int32 → ((Nat → Int32) × Int32 × (Nat → Int32) × (Nat → Int32) × (Nat → Int32) × (Nat → Int32) × (Nat → Int32) × (Nat → Int32) × Int32 × Int32 × Int32 × Int32 × Int32 × Int32 × Int32) → Prop} (wt : wfT t) (wp : wfP p) (rt : rCT t p C Cu De Fi Ts Fr To Pk Ps Pt Ks Ds) {S1 H1 L1 P1 F1 U1 : Nat → Int32} {z1 z2 z3 z4 z5 z6 z7 : Int32} {sq : Nat → Gs} (hq : ∀ i, Days t p 1 (sq i) (sq (i + 1))) (hw : ∀ i, wfX t (sq i)) {f : Nat} (hf : f < 24)
    (kk : ∀ u, K (fI (fstB (fun i => decide (1 ≤ gF (sq i) f)) 30 0)) u) : ∀ (d i : Nat), i + d = 30 → fstB (fun i => decide (1 ≤ gF (sq i) f)) d i = fstB (fun i => decide (1 ≤ gF (sq i) f)) 30 0 → ∀ (G : Nat → Int32) (g : Int32) (S H L P F U : Nat → Int32) (dy ca du sl fc sc pc : Int32), rSG S H L P F U dy ca du sl fc sc pc (sq i) →
    wX8_daysUntilFound_18 K (nI (tN t)) (nI (tE t)) (nI (tF t)) Fr To C De Fi Ts (nI (pO p)) (nI (pS p)) Pk Ps Pt Ks Ds S1 H1 L1 P1 F1 U1 z1 z2 z3 z4 z5 z6 z7 (d + 1) G g S H L P F U dy ca du sl fc sc pc (nI f) (nI i) := by
  intro d
  induction d with
  | zero =>
    intro i hi he G g S H L P F U dy ca du sl fc sc pc r
    have : i = 30 := by omega
    subst this
    unfold wX8_daysUntilFound_18
    refine br_t (by decide) (sz_wasFound r.1.2.2.2.2.1 hf ?_)
    have he2 : fstB (fun i => decide (1 ≤ gF (sq i) f)) 0 30 = (if decide (1 ≤ gF (sq 30) f) = true then some 30 else none) := rfl
    rw [he2] at he
    rw [← he] at kk
    refine bz rfl (fun e => ?_) (fun e => ?_)
    · rw [e] at kk; exact kk _
    · rw [e] at kk; exact kk _
  | succ d ih =>
    intro i hi he G g S H L P F U dy ca du sl fc sc pc r
    unfold wX8_daysUntilFound_18
    refine br_f (nI_ge (b := 30) (by omega) (by decide)) (sz_wasFound r.1.2.2.2.2.1 hf (bz rfl (fun e => ?_) (fun e => ?_)))
    · refine sz_liveDays (d := 1) wt wp rt (by decide) (hq i) (hw i) r (fun G' g' S' H' L' P' F' U' dy' ca' du' sl' fc' sc' pc' q => ?_)
      rw [nI_1]
      refine ih (i + 1) (by omega) ?_ G' g' S' H' L' P' F' U' dy' ca' du' sl' fc' sc' pc' q
      rw [← he]
      show _ = (if decide (1 ≤ gF (sq i) f) = true then some i else _)
      rw [e]
      rfl
    · have he2 : fstB (fun i => decide (1 ≤ gF (sq i) f)) (d + 1) i = some i := by
        show (if decide (1 ≤ gF (sq i) f) = true then some i else _) = _
        rw [e]
        rfl
      rw [← he, he2] at kk
      exact kk _
theorem sm_until {K : Int32 → (Int32 × (Nat → Int32) × (Nat → Int32) × (Nat → Int32)) → Prop} (wt : wfT t) (wp : wfP p) (rt : rMT t p Qb Qe Qc Qu Qw Qf Qs Qd Qbs Qes Qo Qx) {sq : Nat → Gs} (hq : ∀ i, Days t p 1 (sq i) (sq (i + 1))) (hw : ∀ i, wfX t (sq i)) {x : Gs} (wx : wfX t x) (hk : ∀ N', (∀ j, j < 197 → N' j = Mk j) → rMG N' x) {f : Nat} (hf : f < 24) {th : Int32}
    (kk : ∀ N' M', rMG N' x → K (fI (fstB (fun i => decide (1 ≤ gF (sq i) f)) 30 0)) (th, N', Mk, M')) : ∀ (d i : Nat), i + d = 30 → fstB (fun i => decide (1 ≤ gF (sq i) f)) d i = fstB (fun i => decide (1 ≤ gF (sq i) f)) 30 0 → ∀ (N Ms : Nat → Int32), rMG N (sq i) →
    wX10_daysUntilFound_25 K (nI (tN t)) (nI (tM t)) Qb Qe (nI (tF t)) Qc Qu Qw Qf Qs (nI (pO p)) Qd Qbs Qes Qo Qx (d + 2) th N Mk Ms (nI f) (nI i) := by
  have fin : ∀ (o : Option Nat) (N Ms : Nat → Int32) (i : Nat), i ≤ 31 → (o = if i ≤ 30 then some i else none) → o = fstB (fun i => decide (1 ≤ gF (sq i) f)) 30 0 → wX10_daysUntilFound_56 K (nI (tN t)) (nI (tM t)) Qb Qe (nI (tF t)) Qc Qu Qw Qf Qs (nI (pO p)) Qd Qbs Qes Qo Qx th N Mk Ms (nI i) := by
    intro o N Ms i hi h1 h2
    unfold wX10_daysUntilFound_56
    refine sm_bringBack (fun N' hN => ?_)
    have kk := kk N' Ms (hk N' hN)
    rw [← h2, h1] at kk
    refine pk_le i 30 (fun z => ?_) (fun z => ?_)
    · rw [if_pos z] at kk; exact kk
    · rw [if_neg (by omega)] at kk; exact kk
  intro d
  induction d with
  | zero =>
    intro i hi he N Ms r
    have : i = 30 := by omega
    subst this
    have b := (hw 30).2.2.2.2.2.2 f
    unfold wX10_daysUntilFound_25
    rw [n173, nI_clamp (by omega), r.2.2.2.1 f hf]
    refine br_f (by decide) ⟨vp_in_nI (by omega) (by decide), ?_⟩
    by_cases z : gF (sq 30) f = 0
    · refine bn_t (by rw [z]; rfl) (sm_go (d := 1) wt wp rt (by decide) (hq 30) (hw 30) r (fun N' M' r' => ?_))
      rw [nI_1]
      unfold wX10_daysUntilFound_25
      refine br_t (by decide) (fin none N' M' 31 (by omega) (by rw [if_neg (by omega)]) ?_)
      rw [← he]
      unfold fstB
      rw [show decide (1 ≤ gF (sq 30) f) = false by rw [z]; rfl]
      rfl
    · refine bn_f (nI_ne0 (by omega) (by omega)) (fin (some 30) N Ms 30 (by omega) rfl ?_)
      rw [← he]
      unfold fstB
      rw [show decide (1 ≤ gF (sq 30) f) = true from decide_eq_true (by omega)]
      rfl
  | succ d ih =>
    intro i hi he N Ms r
    have b := (hw i).2.2.2.2.2.2 f
    unfold wX10_daysUntilFound_25
    rw [n173, nI_clamp (by omega), r.2.2.2.1 f hf]
    refine br_f (nI_nlt (a := 30) (b := i) (by omega) (by decide)) ⟨vp_in_nI (by omega) (by decide), ?_⟩
    by_cases z : gF (sq i) f = 0
    · refine bn_t (by rw [z]; rfl) (sm_go (d := 1) wt wp rt (by decide) (hq i) (hw i) r (fun N' M' r' => ?_))
      rw [nI_1]
      refine ih (i + 1) (by omega) ?_ N' M' r'
      rw [← he]
      show _ = (if decide (1 ≤ gF (sq i) f) = true then some i else _)
      rw [show decide (1 ≤ gF (sq i) f) = false by rw [z]; rfl]
      rfl
    · refine bn_f (nI_ne0 (by omega) (by omega)) (fin (some i) N Ms i (by omega) (by rw [if_pos (by omega)]) ?_)
      rw [← he]
      show some i = (if decide (1 ≤ gF (sq i) f) = true then some i else _)
      rw [show decide (1 ≤ gF (sq i) f) = true from decide_eq_true (by omega)]
      rfl
/-- the days one after the other -/
theorem sq_ex (wt : wfT t) (wp : wfP p) {x : Gs} (w : wfX t x) : ∃ sq : Nat → Gs, sq 0 = x ∧ (∀ i, Days t p 1 (sq i) (sq (i + 1))) ∧ ∀ i, wfX t (sq i) := by
  have h : ∀ x : { y : Gs // wfX t y }, ∃ y : { y : Gs // wfX t y }, Days t p 1 x.1 y.1 := fun x => by
    obtain ⟨y, h1, h2⟩ := days_ex wt wp 1 x.1 x.2
    exact ⟨⟨y, h2⟩, h1⟩
  obtain ⟨nx, hnx⟩ := Classical.axiomOfChoice h
  refine ⟨fun i => (Nat.rec (motive := fun _ => { y : Gs // wfX t y }) ⟨x, w⟩ (fun _ y => nx y) i).1, rfl, fun i => hnx _, fun i => Subtype.property _⟩
end UNTIL
section MEAN
variable {C De U N Qc Qw : Nat → Int32} {t : Tl} {a : Sg} {pr : Nat → Bool} {fa : Nat → Nat} {dy ca du sl : Int32}
def myS (t : Tl) (fa : Nat → Nat) : Nat → Int32 × Nat
  | 0 => (0, 0)
  | i + 1 => if tCo t i = true ∧ fa i = 2 then ((myS t fa i).1 + tDe t i, (myS t fa i).2 + 1) else myS t fa i
theorem myS_le (t : Tl) (fa : Nat → Nat) : ∀ i, (myS t fa i).2 ≤ i
  | 0 => Nat.le_refl _
  | i + 1 => by
    have := myS_le t fa i
    unfold myS
    split
    · dsimp only; omega
    · omega
def myV (t : Tl) (fa : Nat → Nat) : UInt64 := if (myS t fa (tF t)).2 = 0 then FP.dconst0 else FP.ddiv (FP.i2d (myS t fa (tF t)).1) (FP.i2d (nI (myS t fa (tF t)).2))
theorem myV_ok (wt : wfT t) : (myV t fa).toNat % 9223372036854775808 ≤ 9218868437227405312 := by
  unfold myV
  have := myS_le t fa (tF t)
  have := wt.2.2.2.1
  by_cases z : (myS t fa (tF t)).2 = 0
  · rw [if_pos z]; decide
  · rw [if_neg z]; exact ddiv_ok _ (by omega) z
theorem sz_meanYear {K : UInt64 → Unit → Prop} (wt : wfT t) (rc : rB (tF t) C (tCo t)) (rd : ∀ f, f < tF t → De f = tDe t f) (rU : rB 24 U (fun f => decide (fa f = 2))) (kk : K (myV t fa) ()) : wX8_meanYear (nI (tF t)) C De U K := by
  have n24 := wt.2.2.2.1
  unfold wX8_meanYear
  refine pk_loop (fun n i (y : Int32 × Int32) => wX8_meanYear_6 K (nI (tF t)) C De U n y.1 y.2 (nI i)) (fun i y => y = (nI (myS t fa i).2, (myS t fa i).1)) (tF t) 0 (0, 0) (Nat.zero_le _) rfl (fun n y hy => ?_) (fun n i y hi hy ih => ?_)
  · subst hy
    have hle := myS_le t fa (tF t)
    unfold wX8_meanYear_6
    unfold myV at kk
    refine br_t (nI_le (Nat.le_refl _) (by omega)) ⟨fun z => ?_, fun z => ?_⟩
    · have z0 : (myS t fa (tF t)).2 ≠ 0 := fun e => z (by show nI (myS t fa (tF t)).2 = 0; rw [e]; rfl)
      rw [if_neg z0] at kk
      exact ⟨n64_of (ddiv_ok _ (by omega) z0), kk⟩
    · have z0 : (myS t fa (tF t)).2 = 0 := (nI_eq (by omega) (by decide)).mp z
      rw [if_pos z0] at kk
      exact kk
  · subst hy
    have ih := ih _ rfl
    unfold myS at ih
    unfold wX8_meanYear_6 wX8_meanYear_53
    rw [nI_1]
    refine br_f (nI_ge hi (by omega)) (sz_tellsCoin wt rc hi (bz rfl (fun e => ?_) (fun e => ?_)))
    · rw [if_neg (fun z => by rw [e] at z; cases z.1)] at ih
      exact ih
    · refine sz_wasSure rU (by omega) (bz rfl (fun e2 => ?_) (fun e2 => ?_))
      · rw [decide_eq_false_iff_not] at e2
        rw [if_neg (fun z => e2 z.2)] at ih
        exact ih
      · rw [decide_eq_true_eq] at e2
        rw [if_pos ⟨e, e2⟩] at ih
        refine sz_coinYear wt rc rd hi ?_
        rw [if_pos e]
        rw [← nI_1] at ih
        exact ih
theorem sm_meanYear {K : UInt64 → Int32 → Prop} {th : Int32} (wt : wfT t) (r : rM N a pr fa dy ca du sl) (h2 : ∀ f, fa f ≤ 2) (rc : rB (tF t) Qc (tCo t)) (rd : ∀ f, f < tF t → Qw f = tDe t f) (kk : K (myV t fa) 0) : wX10_meanYear th N (nI (tF t)) Qc Qw K := by
  have n24 := wt.2.2.2.1
  unfold wX10_meanYear
  refine pk_loop (fun n i (y : Int32 × Int32) => wX10_meanYear_11 K N (nI (tF t)) Qc Qw n 0 y.1 y.2 (nI i)) (fun i y => y = ((myS t fa i).1, nI (myS t fa i).2)) (tF t) 0 (0, 0) (Nat.zero_le _) rfl (fun n y hy => ?_) (fun n i y hi hy ih => ?_)
  · subst hy
    have hle := myS_le t fa (tF t)
    unfold wX10_meanYear_11
    unfold myV at kk
    refine br_t (nI_le (Nat.le_refl _) (by omega)) ⟨fun z => ?_, fun z => ?_⟩
    · have z0 : (myS t fa (tF t)).2 ≠ 0 := fun e => z (by show nI (myS t fa (tF t)).2 = 0; rw [e]; rfl)
      rw [if_neg z0] at kk
      exact ⟨n64_of (ddiv_ok _ (by omega) z0), kk⟩
    · have z0 : (myS t fa (tF t)).2 = 0 := (nI_eq (by omega) (by decide)).mp z
      rw [if_pos z0] at kk
      exact kk
  · subst hy
    have ih := ih _ rfl
    unfold myS at ih
    unfold wX10_meanYear_11 wX10_meanYear_60
    rw [nI_1, nI_clamp (by omega), rd i hi]
    refine br_f (nI_ge hi (by omega)) ⟨vp_in_nI (by omega) (by decide), bz (rc i hi) (fun e => ?_) (fun e => ?_)⟩
    · rw [if_neg (fun z => by rw [e] at z; cases z.1)] at ih
      exact ih
    · refine sm_sure r h2 (by omega) (bz' rfl (fun e2 => ?_) (fun e2 => ⟨vp_in_nI (by omega) (by decide), ?_⟩))
      · rw [decide_eq_false_iff_not] at e2
        rw [if_neg (fun z => e2 z.2)] at ih
        exact ih
      · rw [decide_eq_true_eq] at e2
        rw [if_pos ⟨e, e2⟩, ← nI_1] at ih
        exact ih
end MEAN
def tsX (a : Sg) (i : Nat) : Int32 := if a.2.1 i = 0 then -1 else nI (tp a i % 10)
def dgS (t : Tl) (x : Gs) (d : Int64) : Nat → Int64
  | 0 => d
  | i + 1 => (((((((dgS t x d i * 31) + (nI ((gA x).2.1 i)).toInt64) * 31) + (zB (gP x i)).toInt64) * 31) + (nI (lf t (gA x) i)).toInt64) * 31) + (tsX (gA x) i).toInt64
def dgN (t : Tl) (x : Gs) (d : Int64) : Nat → Int64
  | 0 => d
  | i + 1 => (((dgN t x d i * 31) + (zB (decide (1 ≤ gF x i))).toInt64) * 31) + (zB (decide (gF x i = 2))).toInt64
def dgT (t : Tl) (x : Gs) (d : Int64) : Nat → Int64
  | 0 => d
  | i + 1 => (((dgT t x d i * 31) + (eyr t (gF x) i (tF t)).toInt64) * 31) + (zB (anyB (fun y => anyB (mxP t (gF x) i y) (tE t)) (tE t))).toInt64
def dg0 (t : Tl) (x : Gs) (b : Int32) : Int64 := (((((((((((((((((((((1021 : Int64) * 31) + (nI (tN t)).toInt64) * 31) + (nI (tM t)).toInt64) * 31) + (nI (tF t)).toInt64) * 31) + (gDy x).toInt64) * 31) + (gCa x).toInt64) * 31) + (gDu x).toInt64) * 31) + (gSl x).toInt64) * 31) + (fcX x).toInt64) * 31) + (nI (fb_ct (fun f => decide (gF x f = 2)) 24)).toInt64) * 31) + b.toInt64)
def dgA (t : Tl) (x : Gs) (b : Int32) : Int64 := dgT t x (dgN t x (dgS t x (dg0 t x b) (tN t)) (tF t)) (tM t)
section DIGEST
variable {S H L P F U S0 H0 L0 P0 F0 U0 C Cu De Ti Ts Fr To N M Qs Qf Qc Qu Qw Qb Qe : Nat → Int32} {dy ca du sl fc sc pc y0 y1 y2 y3 y4 y5 y6 : Int32} {x : Gs} {t : Tl}
theorem sz_digestSeats {K : Int64 → Unit → Prop} (wt : wfT t) (w : wfX t x) (hTi : ∀ c, c < 80 → Ti c = fI (tFi t c)) (r : rSG S H L P F U dy ca du sl fc sc pc x) (d : Int64) (kk : K (dgS t x d (tN t)) ()) : wX8_digestSeats (nI (tN t)) Ti S H P d K := by
  have n8 := wt.1.2
  have h8 : ∀ s, 8 ≤ s → (gA x).2.1 s = 0 := fun s z => w.1.2.1 s (by omega)
  unfold wX8_digestSeats
  refine pk_loop (fun n i (y : Int64) => wX8_digestSeats_5 K (nI (tN t)) Ti S H P n y (nI i)) (fun i y => y = dgS t x d i) (tN t) 0 d (Nat.zero_le _) rfl (fun n y hy => ?_) (fun n i y hi hy ih => ?_)
  · subst hy
    unfold wX8_digestSeats_5
    exact br_t (nI_le (Nat.le_refl _) (by omega)) kk
  · subst hy
    have ih := ih _ rfl
    have b10 := w.1.1 i
    unfold wX8_digestSeats_5
    refine br_f (nI_ge hi (by omega)) (sz_heightAt r.1.2.1 h8 (by omega) (sz_hasProp r.1.2.2.2.1 (by omega) ?_))
    have go : ∀ b : Bool, b = gP x i → wX8_digestSeats_56 K (wX8_digestSeats_5 K (nI (tN t)) Ti S H P n) (nI (tN t)) Ti S H P (nI i) (zB b) (((dgS t x d i * 31) + (nI ((gA x).2.1 i)).toInt64) * 31) := by
      intro b hb
      subst hb
      unfold wX8_digestSeats_56
      refine sz_findsInStack wt w.1 r.1.1 r.1.2.1 hTi hi ?_
      rw [nI_1]
      have ih : wX8_digestSeats_5 K (nI (tN t)) Ti S H P n ((((((((dgS t x d i * 31) + (nI ((gA x).2.1 i)).toInt64) * 31) + (zB (gP x i)).toInt64) * 31) + (nI (lf t (gA x) i)).toInt64) * 31) + (tsX (gA x) i).toInt64) (nI (i + 1)) := ih
      unfold tsX at ih
      rcases Nat.eq_zero_or_pos ((gA x).2.1 i) with z | z
      · rw [if_pos z] at ih
        refine sz_topOf0 r.1.2.1 (by omega) z h8 ?_
        unfold wX7_stratumOfCushion wX7_isCushion
        exact br_t (by decide) (br_t rfl ih)
      · rw [if_neg (by omega)] at ih
        exact sz_topOf r.1.1 r.1.2.1 (by omega) z b10 h8 (sz_stratumOfCushion (w.1.2.2 i _ (by omega)) ih)
    refine bz rfl (fun e => ?_) (fun e => ?_)
    · exact go false e.symm
    · exact go true e.symm
theorem sz_digestFinds {K : Int64 → Unit → Prop} (wt : wfT t) (r : rSG S H L P F U dy ca du sl fc sc pc x) (d : Int64) (kk : K (dgN t x d (tF t)) ()) : wX8_digestFinds (nI (tF t)) F U d K := by
  have n24 := wt.2.2.2.1
  unfold wX8_digestFinds
  refine pk_loop (fun n i (y : Int64) => wX8_digestFinds_5 K (nI (tF t)) F U n y (nI i)) (fun i y => y = dgN t x d i) (tF t) 0 d (Nat.zero_le _) rfl (fun n y hy => ?_) (fun n i y hi hy ih => ?_)
  · subst hy
    unfold wX8_digestFinds_5
    exact br_t (nI_le (Nat.le_refl _) (by omega)) kk
  · subst hy
    have ih := ih _ rfl
    have ih : wX8_digestFinds_5 K (nI (tF t)) F U n ((((dgN t x d i * 31) + (zB (decide (1 ≤ gF x i))).toInt64) * 31) + (zB (decide (gF x i = 2))).toInt64) (nI (i + 1)) := ih
    unfold wX8_digestFinds_5
    refine br_f (nI_ge hi (by omega)) (sz_wasFound r.1.2.2.2.2.1 (by omega) ?_)
    have go : ∀ b : Bool, b = decide (1 ≤ gF x i) → wX8_digestFinds_39 K (wX8_digestFinds_5 K (nI (tF t)) F U n) (nI (tF t)) F U (nI i) (zB b) (dgN t x d i * 31) := by
      intro b hb
      subst hb
      unfold wX8_digestFinds_39
      refine sz_wasSure r.1.2.2.2.2.2.1 (by omega) ?_
      unfold wX8_digestFinds_64
      rw [nI_1]
      refine bz rfl (fun e => ?_) (fun e => ?_)
      · have e : decide (gF x i = 2) = false := e
        rw [e] at ih; exact ih
      · have e : decide (gF x i = 2) = true := e
        rw [e] at ih; exact ih
    refine bz rfl (fun e => ?_) (fun e => ?_)
    · exact go false e.symm
    · exact go true e.symm
theorem sz_digestStrata {K : Int64 → Unit → Prop} (wt : wfT t) (rc : rB (tF t) C (tCo t)) (rd : ∀ f, f < tF t → De f = tDe t f) (ru : rN (tF t) Cu (tCu t)) (rf : ∀ e, e < tE t → Fr e = tFr t e) (ro : ∀ e, e < tE t → To e = tTo t e) (r : rSG S H L P F U dy ca du sl fc sc pc x) (d : Int64) (kk : K (dgT t x d (tM t)) ()) : wX8_digestStrata (nI (tM t)) (nI (tE t)) (nI (tF t)) Fr To C Cu De U d K := by
  have m10 := wt.2.1.2
  unfold wX8_digestStrata
  refine pk_loop (fun n i (y : Int64) => wX8_digestStrata_5 K (nI (tM t)) (nI (tE t)) (nI (tF t)) Fr To C Cu De U n y (nI i)) (fun i y => y = dgT t x d i) (tM t) 0 d (Nat.zero_le _) rfl (fun n y hy => ?_) (fun n i y hi hy ih => ?_)
  · subst hy
    unfold wX8_digestStrata_5
    exact br_t (nI_le (Nat.le_refl _) (by omega)) kk
  · subst hy
    have ih := ih _ rfl
    have ih : wX8_digestStrata_5 K (nI (tM t)) (nI (tE t)) (nI (tF t)) Fr To C Cu De U n ((((dgT t x d i * 31) + (eyr t (gF x) i (tF t)).toInt64) * 31) + (zB (anyB (fun y => anyB (mxP t (gF x) i y) (tE t)) (tE t))).toInt64) (nI (i + 1)) := ih
    unfold wX8_digestStrata_5 wX8_digestStrata_56
    rw [nI_1]
    refine br_f (nI_ge hi (by omega)) (sz_earliestYear wt rc rd rf ru r.1.2.2.2.2.2.1 (by omega) (sz_showsMixture wt rc rd ru rf ro r.1.2.2.2.2.2.1 (by omega) (bz rfl (fun e => ?_) (fun e => ?_))))
    · rw [e] at ih; exact ih
    · rw [e] at ih; exact ih
theorem sz_digest {K : Int64 → (Nat × (Nat → Int32) × (Nat → Int32) × (Nat → Int32) × (Nat → Int32) × (Nat → Int32) × (Nat → Int32) × Int32 × Int32 × Int32 × Int32 × Int32 × Int32 × Int32) → Prop} (wt : wfT t) (w : wfX t x) (hTi : ∀ c, c < 80 → Ti c = fI (tFi t c)) (hTs : rB 80 Ts (tSp t)) (rc : rB (tF t) C (tCo t)) (rd : ∀ f, f < tF t → De f = tDe t f) (ru : rN (tF t) Cu (tCu t)) (rf : ∀ e, e < tE t → Fr e = tFr t e) (ro : ∀ e, e < tE t → To e = tTo t e) (r : rSG S H L P F U dy ca du sl fc sc pc x) {kf : Nat → Nat} (hkf : ∀ s, s < tN t → 0 < (gA x).2.1 s → kf s ≤ 800 ∧ ∃ b, Stl (tSp t) (gP x) (tN t) (kf s) (dg1 (gA x) s) b) {ot aT : Nat}
    (kk : ∀ u, K (dgA t x (fI (bst (gA x).2.1 kf (lf t (gA x)) (tN t)))) u) : wX8_digest (nI (tN t)) (nI (tM t)) (nI (tE t)) (nI (tF t)) Fr To C Cu De Ti Ts S H L P F U dy ca du sl fc sc pc ot S0 H0 L0 P0 F0 U0 y0 y1 y2 y3 y4 y5 y6 aT K := by
  unfold wX8_digest
  refine sz_bestDig wt w hTi hTs r hkf (fun u => ?_)
  have r' := r
  obtain ⟨r1, rfl, rfl, rfl, rfl⟩ := r'
  have hf := r1.2.2.2.2.2.2.1
  have hs := r1.2.2.2.2.2.2.2.1
  subst hf hs
  refine sz_digestSeats wt w hTi r _ (sz_digestFinds wt r _ (sz_digestStrata wt rc rd ru rf ro r _ (kk _)))
def fo (Y : Nat → Int32) : Nat → Int64
  | 0 => 1021
  | i + 1 => (fo Y i * 31) + (Y i).toInt64
theorem sm_digestSeats {K : Int64 → (Int32 × (Nat → Int32) × (Nat → Int32)) → Prop} {Y : Nat → Int32} {th : Int32} (wt : wfT t) (w : wfX t x) (hQf : ∀ c, c < 80 → Qf c = fI (tFi t c)) (r : rMG N x) (d : Int64) (kk : ∃ k9, wX10_digest_241 K (nI (tN t)) (nI (tM t)) (nI (tE t)) Qb Qe (nI (tF t)) Qc Qu Qw Qf Qs k9 th N M Y (dgS t x d (tN t)) 0) : ∃ k9, wX10_digest_151 K (nI (tN t)) (nI (tM t)) (nI (tE t)) Qb Qe (nI (tF t)) Qc Qu Qw Qf Qs k9 th N M Y d 0 := by
  have n8 := wt.1.2
  refine pk_loop (fun n i (y : Int64) => wX10_digest_151 K (nI (tN t)) (nI (tM t)) (nI (tE t)) Qb Qe (nI (tF t)) Qc Qu Qw Qf Qs n th N M Y y (nI i)) (fun i y => y = dgS t x d i) (tN t) 0 d (Nat.zero_le _) rfl (fun n y hy => ?_) (fun n i y hi hy ih => ?_)
  · subst hy
    unfold wX10_digest_151
    exact br_t (nI_le (Nat.le_refl _) (by omega)) kk
  · subst hy
    have ih := ih _ rfl
    have b10 := w.1.1 i
    have ih : wX10_digest_151 K (nI (tN t)) (nI (tM t)) (nI (tE t)) Qb Qe (nI (tF t)) Qc Qu Qw Qf Qs n th N M Y ((((((((dgS t x d i * 31) + (nI ((gA x).2.1 i)).toInt64) * 31) + (zB (gP x i)).toInt64) * 31) + (nI (lf t (gA x) i)).toInt64) * 31) + (tsX (gA x) i).toInt64) (nI (i + 1)) := ih
    unfold tsX at ih
    unfold wX10_digest_151 wX10_digest_229
    rw [nI_1]
    refine br_f (nI_ge hi (by omega)) (sm_tall r (by omega) (sm_hasProp r (by omega) (sm_one (sm_left wt w.1 r hQf hi (sm_tall r (by omega) ?_)))))
    rcases Nat.eq_zero_or_pos ((gA x).2.1 i) with z | z
    · rw [if_pos z] at ih
      exact bn_t (by rw [z]; rfl) ih
    · rw [if_neg (by omega)] at ih
      have hc : tp (gA x) i < 80 := w.1.2.2 i _ (by omega)
      refine bn_f (nI_ne0 z (by omega)) (sm_top r w.1.1 (by omega) z ?_)
      rw [show (10 : Int32) = nI 10 from rfl, pk_rem (by show tp (gA x) i < _; omega) (by decide) (by decide)]
      exact ih
theorem sm_digestFinds {K : Int64 → (Int32 × (Nat → Int32) × (Nat → Int32)) → Prop} {Y : Nat → Int32} {th : Int32} (wt : wfT t) (w : wfX t x) (r : rMG N x) (d : Int64) (kk : ∃ k9, wX10_digest_307 K (nI (tN t)) (nI (tM t)) (nI (tE t)) Qb Qe (nI (tF t)) Qc Qu Qw Qf Qs k9 th N M Y (dgN t x d (tF t)) 0) : ∃ k9, wX10_digest_241 K (nI (tN t)) (nI (tM t)) (nI (tE t)) Qb Qe (nI (tF t)) Qc Qu Qw Qf Qs k9 th N M Y d 0 := by
  have n24 := wt.2.2.2.1
  have h2 := w.2.2.2.2.2.2
  refine pk_loop (fun n i (y : Int64) => wX10_digest_241 K (nI (tN t)) (nI (tM t)) (nI (tE t)) Qb Qe (nI (tF t)) Qc Qu Qw Qf Qs n th N M Y y (nI i)) (fun i y => y = dgN t x d i) (tF t) 0 d (Nat.zero_le _) rfl (fun n y hy => ?_) (fun n i y hi hy ih => ?_)
  · subst hy
    unfold wX10_digest_241
    exact br_t (nI_le (Nat.le_refl _) (by omega)) kk
  · subst hy
    have ih := ih _ rfl
    have ih : wX10_digest_241 K (nI (tN t)) (nI (tM t)) (nI (tE t)) Qb Qe (nI (tF t)) Qc Qu Qw Qf Qs n th N M Y ((((dgN t x d i * 31) + (zB (decide (1 ≤ gF x i))).toInt64) * 31) + (zB (decide (gF x i = 2))).toInt64) (nI (i + 1)) := ih
    have b := h2 i
    unfold wX10_digest_241 wX10_digest_277
    rw [n173, nI_clamp (by omega), r.2.2.2.1 i (by omega), nI_1]
    refine br_f (nI_ge hi (by omega)) ⟨vp_in_nI (by omega) (by decide), pk_le (gF x i) 0 (fun q => ?_) (fun q => ?_)⟩
    · have e : decide (1 ≤ gF x i) = false := by simp; omega
      rw [e] at ih
      exact sm_one (b := false) (sm_sure r h2 (by omega) (sm_one ih))
    · have e : decide (1 ≤ gF x i) = true := by simp; omega
      rw [e] at ih
      exact sm_one (b := true) (sm_sure r h2 (by omega) (sm_one ih))
theorem sm_digestStrata {K : Int64 → (Int32 × (Nat → Int32) × (Nat → Int32)) → Prop} {Y : Nat → Int32} {th : Int32} (wt : wfT t) (w : wfX t x) (r : rMG N x) (rc : rB (tF t) Qc (tCo t)) (rd : ∀ f, f < tF t → Qw f = tDe t f) (ru : rN (tF t) Qu (tCu t)) (rf : ∀ e, e < tE t → Qb e = tFr t e) (ro : ∀ e, e < tE t → Qe e = tTo t e) (d : Int64) (kk : K (dgT t x d (tM t)) (th, N, M)) : ∃ k9, wX10_digest_307 K (nI (tN t)) (nI (tM t)) (nI (tE t)) Qb Qe (nI (tF t)) Qc Qu Qw Qf Qs k9 th N M Y d 0 := by
  have m10 := wt.2.1.2
  have h2 := w.2.2.2.2.2.2
  refine pk_loop (fun n i (y : Int64) => wX10_digest_307 K (nI (tN t)) (nI (tM t)) (nI (tE t)) Qb Qe (nI (tF t)) Qc Qu Qw Qf Qs n th N M Y y (nI i)) (fun i y => y = dgT t x d i) (tM t) 0 d (Nat.zero_le _) rfl (fun n y hy => ?_) (fun n i y hi hy ih => ?_)
  · subst hy
    unfold wX10_digest_307
    exact br_t (nI_le (Nat.le_refl _) (by omega)) kk
  · subst hy
    have ih := ih _ rfl
    unfold wX10_digest_307
    rw [nI_1]
    exact br_f (nI_ge hi (by omega)) (sm_notBeforeNow wt r h2 rc rd rf ru (by omega) (sm_mixed wt r h2 rc rd ru rf ro (by omega) (sm_one ih)))
theorem ct_2 {fa : Nat → Nat} (h2 : ∀ f, fa f ≤ 2) : (fun f => decide (2 ≤ fa f)) = (fun f => decide (fa f = 2)) := by
  funext f
  have := h2 f
  by_cases e : fa f = 2
  · simp [e]
  · have : ¬ 2 ≤ fa f := by omega
    simp [e, this]
theorem sm_digest {K : Int64 → (Int32 × (Nat → Int32) × (Nat → Int32)) → Prop} {th : Int32} (wt : wfT t) (w : wfX t x) (hQf : ∀ c, c < 80 → Qf c = fI (tFi t c)) (hQs : rB 80 Qs (tSp t)) (r : rMG N x) (rc : rB (tF t) Qc (tCo t)) (rd : ∀ f, f < tF t → Qw f = tDe t f) (ru : rN (tF t) Qu (tCu t)) (rf : ∀ e, e < tE t → Qb e = tFr t e) (ro : ∀ e, e < tE t → Qe e = tTo t e) {kf : Nat → Nat} (hkf : ∀ s, s < tN t → 0 < (gA x).2.1 s → kf s ≤ 800 ∧ ∃ b, Stl (tSp t) (gP x) (tN t) (kf s) (dg1 (gA x) s) b)
    (kk : ∀ N' M', rMG N' x → K (dgA t x (fI (bst (gA x).2.1 kf (lf t (gA x)) (tN t)))) (0, N', M')) : wX10_digest th N M (nI (tN t)) (nI (tM t)) (nI (tE t)) Qb Qe (nI (tF t)) Qc Qu Qw Qf Qs K := by
  have h2 := w.2.2.2.2.2.2
  have hz := w.2.2.2.2.2.1
  unfold wX10_digest
  intro q1
  refine ⟨pk_in 0 10 (by omega), pk_in 1 10 (by omega), pk_in 2 10 (by omega), pk_in 0 197 (by omega), pk_in 3 10 (by omega), pk_in 1 197 (by omega), pk_in 4 10 (by omega), pk_in 2 197 (by omega), pk_in 5 10 (by omega), pk_in 3 197 (by omega), pk_in 6 10 (by omega), ?_⟩
  refine sm_foundNow wt r h2 hz (v := 1) (by decide) (by decide) ⟨pk_in 7 10 (by omega), sm_foundNow wt r h2 hz (v := 2) (by decide) (by decide) ⟨pk_in 8 10 (by omega), sm_best wt w hQf hQs r hkf (fun N' M' r' => ⟨pk_in 9 10 (by omega), ?_⟩)⟩⟩
  rw [ct_2 h2, show (0 : Int32).toNatClampNeg = 0 from rfl, show (1 : Int32).toNatClampNeg = 1 from rfl, show (2 : Int32).toNatClampNeg = 2 from rfl, show (3 : Int32).toNatClampNeg = 3 from rfl, show (4 : Int32).toNatClampNeg = 4 from rfl, show (5 : Int32).toNatClampNeg = 5 from rfl, show (6 : Int32).toNatClampNeg = 6 from rfl, show (7 : Int32).toNatClampNeg = 7 from rfl, show (8 : Int32).toNatClampNeg = 8 from rfl, show (9 : Int32).toNatClampNeg = 9 from rfl, r.2.2.2.2.2.1, r.2.2.2.2.2.2.1, r.2.2.2.2.2.2.2.1, r.2.2.2.2.2.2.2.2]
  generalize hY : upd (upd (upd (upd (upd (upd (upd (upd (upd (upd (fun _ => 0) 0 (nI (tN t))) 1 (nI (tM t))) 2 (nI (tF t))) 3 (gDy x)) 4 (gCa x)) 5 (gDu x)) 6 (gSl x)) 7 (nI (fb_ct (fun f => decide (1 ≤ gF x f)) 24))) 8 (nI (fb_ct (fun f => decide (gF x f = 2)) 24))) 9 (fI (bst (gA x).2.1 kf (lf t (gA x)) (tN t))) = Y
  have e10 : fo Y 10 = dg0 t x (fI (bst (gA x).2.1 kf (lf t (gA x)) (tN t))) := by
    rw [← hY]
    rfl
  refine pk_loop (fun n i (y : Int64) => wX10_digest_118 K (nI (tN t)) (nI (tM t)) (nI (tE t)) Qb Qe (nI (tF t)) Qc Qu Qw Qf Qs n 0 N' M' Y y 10 (nI i)) (fun i y => y = fo Y i) 10 0 1021 (Nat.zero_le _) rfl (fun n y hy => ?_) (fun n i y hi hy ih => ?_)
  · subst hy
    unfold wX10_digest_118
    refine br_t (by decide) ?_
    rw [e10]
    exact sm_digestSeats wt w hQf r' _ (sm_digestFinds wt w r' _ (sm_digestStrata wt w r' rc rd ru rf ro _ (kk N' M' r')))
  · subst hy
    have ih := ih _ rfl
    unfold wX10_digest_118
    refine br_f (nI_ge (b := 10) hi (by decide)) ⟨vp_in_nI hi (by decide), ?_⟩
    rw [nI_clamp (by omega), nI_1]
    exact ih
end DIGEST
