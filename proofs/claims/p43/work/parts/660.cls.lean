/-! PURE: the class's state against the told things, the plan and the game; what it answers, what it does. -/
def CR (S : cLS) (t : Tl) (p : Pn) (x : Gs) : Prop :=
  S.2.2.2.2.1.1 = nI (tN t) ∧ S.2.2.2.2.1.2.1 = nI (tM t) ∧ S.2.2.2.2.1.2.2.1 = nI (tE t) ∧ S.2.2.2.2.1.2.2.2.1 = nI (tF t) ∧ S.2.2.2.2.2.1.1 = nI (pO p) ∧ S.2.2.2.2.2.1.2.1 = nI (pS p) ∧
  rCT t p S.2.2.2.2.1.2.2.2.2.2.2.2.1 S.2.2.2.2.1.2.2.2.2.2.2.2.2.1 S.2.2.2.2.1.2.2.2.2.2.2.2.2.2.1 S.2.2.2.2.1.2.2.2.2.2.2.2.2.2.2.1 S.2.2.2.2.1.2.2.2.2.2.2.2.2.2.2.2 S.2.2.2.2.1.2.2.2.2.2.1 S.2.2.2.2.1.2.2.2.2.2.2.1 S.2.2.2.2.2.1.2.2.1 S.2.2.2.2.2.1.2.2.2.1 S.2.2.2.2.2.1.2.2.2.2.1 S.2.2.2.2.2.1.2.2.2.2.2.1 S.2.2.2.2.2.1.2.2.2.2.2.2 ∧
  rSG S.2.2.2.2.2.2.2.2.2.1.2.2.2.2.2.2.2.1 S.2.2.2.2.2.2.2.2.2.1.2.2.2.2.2.2.2.2.1 S.2.2.2.2.2.2.2.2.2.1.2.2.2.2.2.2.2.2.2.1 S.2.2.2.2.2.2.2.2.2.1.2.2.2.2.2.2.2.2.2.2.1 S.2.2.2.2.2.2.2.2.2.1.2.2.2.2.2.2.2.2.2.2.2.1 S.2.2.2.2.2.2.2.2.2.1.2.2.2.2.2.2.2.2.2.2.2.2 S.2.2.2.2.2.2.2.2.2.1.1 S.2.2.2.2.2.2.2.2.2.1.2.1 S.2.2.2.2.2.2.2.2.2.1.2.2.1 S.2.2.2.2.2.2.2.2.2.1.2.2.2.1 S.2.2.2.2.2.2.2.2.2.1.2.2.2.2.1 S.2.2.2.2.2.2.2.2.2.1.2.2.2.2.2.1 S.2.2.2.2.2.2.2.2.2.1.2.2.2.2.2.2.1 x
theorem ns_k {n s : Nat} {K : Unit → Prop} (hs : s < n) (hn : n < 2 ^ 31) (k : K ()) : wX8_needSeat (nI n) (nI s) K := br_f (nI_pos (by omega)) (br_t (nI_lt hs hn) k)
theorem nf_k {n s : Nat} {K : Unit → Prop} (hs : s < n) (hn : n < 2 ^ 31) (k : K ()) : wX8_needFind (nI n) (nI s) K := br_f (nI_pos (by omega)) (br_t (nI_lt hs hn) k)
theorem nt_k {n s : Nat} {K : Unit → Prop} (hs : s < n) (hn : n < 2 ^ 31) (k : K ()) : wX8_needStratum (nI n) (nI s) K := br_f (nI_pos (by omega)) (br_t (nI_lt hs hn) k)
theorem nd_k {d : Nat} (h1 : 1 ≤ d) (h2 : d ≤ 30) {K : Unit → Prop} (k : K ()) : wX8_needDays (nI d) K := by
  unfold wX8_needDays
  exact br_f (nI_nlt (b := 1) h1 (by omega)) (br_t (nI_le (b := 30) h2 (by decide)) k)
theorem bn_n {x : Int32} {A B : Prop} (h : ¬ x = 0) (k : A) : (¬ x = 0 → A) ∧ (x = 0 → B) := ⟨fun _ => k, fun z => absurd z h⟩
section ASK
variable {t : Tl} {p : Pn} {x : Gs} {S : cLS} {a : gA} {s f e : Nat} {K : Int32 → Prop} {KS : Int32 → cLS → Prop}
theorem h8x (wt : wfT t) (w : wfX t x) : ∀ s, 8 ≤ s → (gA1w x).2.1 s = 0 := fun s hs => w.1.2.1 s (Nat.le_trans wt.1.2 hs)
theorem tp8 (w : wfX t x) (h0 : 0 < (gA1w x).2.1 s) : tp (gA1w x) s < 80 := w.1.2.2 s _ (by omega)
theorem nc_k {H : Nat → Int32} {K : Unit → Prop} (wt : wfT t) (w : wfX t x) (rh : rN 8 H (gA1w x).2.1) (hs : s < tN t) (h0 : 0 < (gA1w x).2.1 s) (k : K ()) : wX8_needCushion (nI (tN t)) H (nI s) K := by
  have n8 := wt.1.2
  have h10 := w.1.1 s
  unfold wX8_needCushion
  exact ns_k hs (by omega) (sz_heightAt rh (h8x wt w) (by omega) (bn_f (fun z => by have := (nI_eq (b := 0) (by omega) (by decide)).mp z; omega) k))
theorem ka_seats (C : CR S t p x) (k : K (nI (tN t))) : kX8_seats a S K := by
  obtain ⟨c1, c2, c3, c4, c5, c6, rt, r⟩ := C
  unfold kX8_seats wX8_seats
  rw [c1]
  exact k
theorem ka_strata (C : CR S t p x) (k : K (nI (tM t))) : kX8_strata a S K := by
  obtain ⟨c1, c2, c3, c4, c5, c6, rt, r⟩ := C
  unfold kX8_strata wX8_strata
  rw [c2]
  exact k
theorem ka_finds (C : CR S t p x) (k : K (nI (tF t))) : kX8_finds a S K := by
  obtain ⟨c1, c2, c3, c4, c5, c6, rt, r⟩ := C
  unfold kX8_finds wX8_finds
  rw [c4]
  exact k
theorem ka_days (C : CR S t p x) (k : K (gDy x)) : kX8_days a S K := by
  obtain ⟨c1, c2, c3, c4, c5, c6, rt, r⟩ := C
  unfold kX8_days wX8_days
  rw [r.2.1]
  exact k
theorem ka_ordersCarriedOut (C : CR S t p x) (k : K (gCa x)) : kX8_ordersCarriedOut a S K := by
  obtain ⟨c1, c2, c3, c4, c5, c6, rt, r⟩ := C
  unfold kX8_ordersCarriedOut wX8_ordersCarriedOut
  rw [r.2.2.1]
  exact k
theorem ka_cushionsDug (C : CR S t p x) (k : K (gDu x)) : kX8_cushionsDug a S K := by
  obtain ⟨c1, c2, c3, c4, c5, c6, rt, r⟩ := C
  unfold kX8_cushionsDug wX8_cushionsDug
  rw [r.2.2.2.1]
  exact k
theorem ka_slides (C : CR S t p x) (k : K (gSl x)) : kX8_slides a S K := by
  obtain ⟨c1, c2, c3, c4, c5, c6, rt, r⟩ := C
  unfold kX8_slides wX8_slides
  rw [r.2.2.2.2]
  exact k
theorem ka_found (C : CR S t p x) (k : K (fcX x)) : kX8_found a S K := by
  obtain ⟨c1, c2, c3, c4, c5, c6, rt, r⟩ := C
  unfold kX8_found wX8_found
  rw [(show _ = fcX x from r.1.2.2.2.2.2.2.1)]
  exact k
theorem ka_sureFinds (C : CR S t p x) (k : K (nI (fb_ct (fun f => decide (gF1w x f = 2)) 24))) : kX8_sureFinds a S K := by
  obtain ⟨c1, c2, c3, c4, c5, c6, rt, r⟩ := C
  unfold kX8_sureFinds wX8_sureFinds
  rw [r.1.2.2.2.2.2.2.2.1]
  exact k
theorem ka_props (C : CR S t p x) (k : K (nI (fb_ct (gP x) 8))) : kX8_props a S K := by
  obtain ⟨c1, c2, c3, c4, c5, c6, rt, r⟩ := C
  unfold kX8_props wX8_props
  rw [r.1.2.2.2.2.2.2.2.2]
  exact k
theorem ka_heightOf (wt : wfT t) (w : wfX t x) (C : CR S t p x) (hs : s < tN t) (k : K (nI ((gA1w x).2.1 s))) : kX8_heightOf a S (nI s) K := by
  obtain ⟨c1, c2, c3, c4, c5, c6, ⟨⟨rc, ru, rd, rfi, rsp, rf, ro⟩, rk⟩, r⟩ := C
  have n8 := wt.1.2
  have m10 := wt.2.1.2
  have e6 := wt.2.2.1
  have f24 := wt.2.2.2.1
  unfold kX8_heightOf wX8_heightOf
  rw [c1]
  exact ns_k hs (by omega) (sz_heightAt r.1.2.1 (h8x wt w) (by omega) k)
theorem ka_isPropped (wt : wfT t) (w : wfX t x) (C : CR S t p x) (hs : s < tN t) (k : K (zB1w (gP x s))) : kX8_isPropped a S (nI s) K := by
  obtain ⟨c1, c2, c3, c4, c5, c6, ⟨⟨rc, ru, rd, rfi, rsp, rf, ro⟩, rk⟩, r⟩ := C
  have n8 := wt.1.2
  have m10 := wt.2.1.2
  have e6 := wt.2.2.1
  have f24 := wt.2.2.2.1
  unfold kX8_isPropped wX8_isPropped
  rw [c1]
  exact ns_k hs (by omega) (sz_hasProp r.1.2.2.2.1 (by omega) k)
theorem ka_topStratum (wt : wfT t) (w : wfX t x) (C : CR S t p x) (hs : s < tN t) (h0 : 0 < (gA1w x).2.1 s) (k : K (nI (tp (gA1w x) s % 10))) : kX8_topStratum a S (nI s) K := by
  obtain ⟨c1, c2, c3, c4, c5, c6, ⟨⟨rc, ru, rd, rfi, rsp, rf, ro⟩, rk⟩, r⟩ := C
  have n8 := wt.1.2
  have m10 := wt.2.1.2
  have e6 := wt.2.2.1
  have f24 := wt.2.2.2.1
  unfold kX8_topStratum wX8_topStratum
  rw [c1]
  exact nc_k wt w r.1.2.1 hs h0 (sz_topOf r.1.1 r.1.2.1 (by omega) h0 (w.1.1 s) (h8x wt w) (sz_stratumOfCushion (tp8 w h0) k))
theorem ka_isTopLoose (wt : wfT t) (w : wfX t x) (C : CR S t p x) (hs : s < tN t) (h0 : 0 < (gA1w x).2.1 s) (k : K (zB1w ((gA1w x).2.2 (tp (gA1w x) s)))) : kX8_isTopLoose a S (nI s) K := by
  obtain ⟨c1, c2, c3, c4, c5, c6, ⟨⟨rc, ru, rd, rfi, rsp, rf, ro⟩, rk⟩, r⟩ := C
  have n8 := wt.1.2
  have m10 := wt.2.1.2
  have e6 := wt.2.2.1
  have f24 := wt.2.2.2.1
  unfold kX8_isTopLoose wX8_isTopLoose
  rw [c1]
  exact nc_k wt w r.1.2.1 hs h0 (sz_topOf r.1.1 r.1.2.1 (by omega) h0 (w.1.1 s) (h8x wt w) (sz_isLoose r.1.2.2.1 (tp8 w h0) k))
theorem ka_hasTopSpring (wt : wfT t) (w : wfX t x) (C : CR S t p x) (hs : s < tN t) (h0 : 0 < (gA1w x).2.1 s) (k : K (zB1w (tSp t (tp (gA1w x) s)))) : kX8_hasTopSpring a S (nI s) K := by
  obtain ⟨c1, c2, c3, c4, c5, c6, ⟨⟨rc, ru, rd, rfi, rsp, rf, ro⟩, rk⟩, r⟩ := C
  have n8 := wt.1.2
  have m10 := wt.2.1.2
  have e6 := wt.2.2.1
  have f24 := wt.2.2.2.1
  unfold kX8_hasTopSpring wX8_hasTopSpring
  rw [c1]
  exact nc_k wt w r.1.2.1 hs h0 (sz_topOf r.1.1 r.1.2.1 (by omega) h0 (w.1.1 s) (h8x wt w) (sz_hasSpring rsp (tp8 w h0) k))
theorem ka_findsLeft (wt : wfT t) (w : wfX t x) (C : CR S t p x) (hs : s < tN t) (k : K (nI (lf t (gA1w x) s))) : kX8_findsLeft a S (nI s) K := by
  obtain ⟨c1, c2, c3, c4, c5, c6, ⟨⟨rc, ru, rd, rfi, rsp, rf, ro⟩, rk⟩, r⟩ := C
  have n8 := wt.1.2
  have m10 := wt.2.1.2
  have e6 := wt.2.2.1
  have f24 := wt.2.2.2.1
  unfold kX8_findsLeft wX8_findsLeft
  rw [c1]
  exact ns_k hs (by omega) (sz_findsInStack wt w.1 r.1.1 r.1.2.1 rfi hs k)
theorem ka_isCoin (wt : wfT t) (w : wfX t x) (C : CR S t p x) (hf : f < tF t) (k : K (zB1w (tCo t f))) : kX8_isCoin a S (nI f) K := by
  obtain ⟨c1, c2, c3, c4, c5, c6, ⟨⟨rc, ru, rd, rfi, rsp, rf, ro⟩, rk⟩, r⟩ := C
  have n8 := wt.1.2
  have m10 := wt.2.1.2
  have e6 := wt.2.2.1
  have f24 := wt.2.2.2.1
  unfold kX8_isCoin wX8_isCoin
  rw [c4]
  exact nf_k hf (by omega) (sz_tellsCoin wt rc hf k)
theorem ka_isFound (wt : wfT t) (w : wfX t x) (C : CR S t p x) (hf : f < tF t) (k : K (zB1w (decide (1 ≤ gF1w x f)))) : kX8_isFound a S (nI f) K := by
  obtain ⟨c1, c2, c3, c4, c5, c6, ⟨⟨rc, ru, rd, rfi, rsp, rf, ro⟩, rk⟩, r⟩ := C
  have n8 := wt.1.2
  have m10 := wt.2.1.2
  have e6 := wt.2.2.1
  have f24 := wt.2.2.2.1
  unfold kX8_isFound wX8_isFound
  rw [c4]
  exact nf_k hf (by omega) (sz_wasFound r.1.2.2.2.2.1 (by omega) k)
theorem ka_isSure (wt : wfT t) (w : wfX t x) (C : CR S t p x) (hf : f < tF t) (h1 : 1 ≤ gF1w x f) (k : K (zB1w (decide (gF1w x f = 2)))) : kX8_isSure a S (nI f) K := by
  obtain ⟨c1, c2, c3, c4, c5, c6, ⟨⟨rc, ru, rd, rfi, rsp, rf, ro⟩, rk⟩, r⟩ := C
  have n8 := wt.1.2
  have m10 := wt.2.1.2
  have e6 := wt.2.2.1
  have f24 := wt.2.2.2.1
  unfold kX8_isSure wX8_isSure
  rw [c4]
  exact nf_k hf (by omega) (sz_wasFound r.1.2.2.2.2.1 (by omega) (bn_n (by rw [decide_eq_true h1]; decide) (sz_wasSure r.1.2.2.2.2.2.1 (by omega) k)))
theorem ka_stratumOf (wt : wfT t) (w : wfX t x) (C : CR S t p x) (hf : f < tF t) (k : K (nI (tCu t f % 10))) : kX8_stratumOf a S (nI f) K := by
  obtain ⟨c1, c2, c3, c4, c5, c6, ⟨⟨rc, ru, rd, rfi, rsp, rf, ro⟩, rk⟩, r⟩ := C
  have n8 := wt.1.2
  have m10 := wt.2.1.2
  have e6 := wt.2.2.1
  have f24 := wt.2.2.2.1
  unfold kX8_stratumOf wX8_stratumOf
  rw [c4]
  exact nf_k hf (by omega) (sz_stratumOfFind wt ru hf k)
theorem ka_yearOf (wt : wfT t) (w : wfX t x) (C : CR S t p x) (hf : f < tF t) (h1 : tCo t f = true) (k : K (tDe t f)) : kX8_yearOf a S (nI f) K := by
  obtain ⟨c1, c2, c3, c4, c5, c6, ⟨⟨rc, ru, rd, rfi, rsp, rf, ro⟩, rk⟩, r⟩ := C
  have n8 := wt.1.2
  have m10 := wt.2.1.2
  have e6 := wt.2.2.1
  have f24 := wt.2.2.2.1
  unfold kX8_yearOf wX8_yearOf
  rw [c4]
  refine nf_k hf (by omega) (sz_tellsCoin wt rc hf (bn_n (by rw [h1]; decide) (sz_coinYear wt rc rd hf ?_)))
  rw [if_pos h1]
  exact k
theorem ka_empireOf (wt : wfT t) (w : wfX t x) (C : CR S t p x) (hf : f < tF t) (h1 : tCo t f = false) (k : K (tDe t f)) : kX8_empireOf a S (nI f) K := by
  obtain ⟨c1, c2, c3, c4, c5, c6, ⟨⟨rc, ru, rd, rfi, rsp, rf, ro⟩, rk⟩, r⟩ := C
  have n8 := wt.1.2
  have m10 := wt.2.1.2
  have e6 := wt.2.2.1
  have f24 := wt.2.2.2.1
  unfold kX8_empireOf wX8_empireOf
  rw [c4]
  refine nf_k hf (by omega) (sz_tellsCoin wt rc hf (br_t (by rw [h1]; decide) (sz_crumbsEmpire wt rc rd hf ?_)))
  rw [if_neg (by rw [h1]; decide)]
  exact k
theorem ka_buriedUnder (wt : wfT t) (w : wfX t x) (C : CR S t p x) (hf : f < tF t) (h1 : gF1w x f = 0) {s0 j0 : Nat} (hs0 : s0 < tN t) (hj0 : j0 < (gA1w x).2.1 s0) (hc : (gA1w x).1 (s0 * 10 + j0) = tCu t f) (k : K (nI ((gA1w x).2.1 s0 - 1 - j0))) : kX8_buriedUnder a S (nI f) K := by
  obtain ⟨c1, c2, c3, c4, c5, c6, ⟨⟨rc, ru, rd, rfi, rsp, rf, ro⟩, rk⟩, r⟩ := C
  have n8 := wt.1.2
  have m10 := wt.2.1.2
  have e6 := wt.2.2.1
  have f24 := wt.2.2.2.1
  unfold kX8_buriedUnder wX8_buriedUnder
  rw [c1, c4]
  refine nf_k hf (by omega) (sz_wasFound r.1.2.2.2.2.1 (by omega) (br_t (by rw [decide_eq_false (by omega)]; decide) (sz_cushionOf wt ru hf ?_)))
  rw [← hc]
  exact sz_cushionsAbove wt w r.1.1 r.1.2.1 hs0 hj0 k
theorem ka_notBefore (wt : wfT t) (w : wfX t x) (C : CR S t p x) (hs : s < tM t) (k : K (eyr t (gF1w x) s (tF t))) : kX8_notBefore a S (nI s) K := by
  obtain ⟨c1, c2, c3, c4, c5, c6, ⟨⟨rc, ru, rd, rfi, rsp, rf, ro⟩, rk⟩, r⟩ := C
  have n8 := wt.1.2
  have m10 := wt.2.1.2
  have e6 := wt.2.2.1
  have f24 := wt.2.2.2.1
  unfold kX8_notBefore wX8_notBefore
  rw [c2, c3, c4]
  exact nt_k hs (by omega) (sz_earliestYear wt rc rd rf ru r.1.2.2.2.2.2.1 (by omega) k)
theorem ka_isSeenIn (wt : wfT t) (w : wfX t x) (C : CR S t p x) (hs : s < tM t) (he : e < tE t) (k : K (zB1w (anyB (snP t (gF1w x) s e) (tF t)))) : kX8_isSeenIn a S (nI s) (nI e) K := by
  obtain ⟨c1, c2, c3, c4, c5, c6, ⟨⟨rc, ru, rd, rfi, rsp, rf, ro⟩, rk⟩, r⟩ := C
  have n8 := wt.1.2
  have m10 := wt.2.1.2
  have e6 := wt.2.2.1
  have f24 := wt.2.2.2.1
  unfold kX8_isSeenIn wX8_isSeenIn
  rw [c2, c3, c4]
  exact nt_k hs (by omega) (br_f (nI_pos (by omega)) (br_t (nI_lt he (by omega)) (sz_sawEmpire wt rc rd ru r.1.2.2.2.2.2.1 (by omega) (by omega) k)))
theorem ka_isMixed (wt : wfT t) (w : wfX t x) (C : CR S t p x) (hs : s < tM t) (k : K (zB1w (anyB (fun y => anyB (mxP t (gF1w x) s y) (tE t)) (tE t)))) : kX8_isMixed a S (nI s) K := by
  obtain ⟨c1, c2, c3, c4, c5, c6, ⟨⟨rc, ru, rd, rfi, rsp, rf, ro⟩, rk⟩, r⟩ := C
  have n8 := wt.1.2
  have m10 := wt.2.1.2
  have e6 := wt.2.2.1
  have f24 := wt.2.2.2.1
  unfold kX8_isMixed wX8_isMixed
  rw [c2, c3, c4]
  exact nt_k hs (by omega) (sz_showsMixture wt rc rd ru rf ro r.1.2.2.2.2.2.1 (by omega) k)
theorem ka_meanYear (wt : wfT t) (C : CR S t p x) {K : UInt64 → Prop} (k : K (myV t (gF1w x))) : kX8_meanYear a S K := by
  obtain ⟨c1, c2, c3, c4, c5, c6, ⟨⟨rc, ru, rd, rfi, rsp, rf, ro⟩, rk⟩, r⟩ := C
  have n8 := wt.1.2
  have m10 := wt.2.1.2
  have e6 := wt.2.2.1
  have f24 := wt.2.2.2.1
  unfold kX8_meanYear
  rw [c4]
  exact sz_meanYear wt rc rd r.1.2.2.2.2.2.1 k
theorem ka_dig (wt : wfT t) (w : wfX t x) (C : CR S t p x) (hs : s < tN t) (h0 : 0 < (gA1w x).2.1 s) {k : Nat} {b : Sg} (hk : k ≤ 800) (hst : Stl (tSp t) (gP x) (tN t) k (dg1 (gA1w x) s) b) (kk : ∀ S', CR S' t p (b, gP x, dgF t (gA1w x) (gF1w x) s, gDy x, gCa x, gDu x + 1, gSl x + nI k) → KS (fI (tFi t (tp (gA1w x) s))) S') : kX8_dig a S (nI s) KS := by
  obtain ⟨c1, c2, c3, c4, c5, c6, rt, r⟩ := C
  have rfi := rt.1.2.2.2.1
  have rsp := rt.1.2.2.2.2.1
  have n8 := wt.1.2
  have f24 := wt.2.2.2.1
  unfold kX8_dig wX8_dig
  rw [c1]
  exact nc_k wt w r.1.2.1 hs h0 (sz_digSeat wt w rfi rsp r.1 hs h0 hst hk (fun S' H' L' F' U' fc' sc' r' => kk _ ⟨by first | rfl | exact c1, by first | rfl | exact c2, by first | rfl | exact c3, by first | rfl | exact c4, by first | rfl | exact c5, by first | rfl | exact c6, rt, ⟨r', r.2.1, r.2.2.1, congrArg (fun z => z + 1) r.2.2.2.1, congrArg (fun z => z + nI k) r.2.2.2.2⟩⟩))
theorem ka_prop (wt : wfT t) (w : wfX t x) (C : CR S t p x) (hs : s < tN t) (h1 : gP x s = false) (h2 : fb_ct (gP x) 8 < 3) (kk : ∀ S', CR S' t p (gA1w x, va_up (gP x) s true, gF1w x, gDy x, gCa x, gDu x, gSl x) → KS (nI (fb_ct (va_up (gP x) s true) 8)) S') : kX8_prop a S (nI s) KS := by
  obtain ⟨c1, c2, c3, c4, c5, c6, rt, r⟩ := C
  have rfi := rt.1.2.2.2.1
  have rsp := rt.1.2.2.2.2.1
  have n8 := wt.1.2
  have f24 := wt.2.2.2.1
  unfold kX8_prop wX8_prop
  rw [c1, r.1.2.2.2.2.2.2.2.2]
  refine ns_k hs (by omega) (sz_canProp wt r.1.2.2.2.1 hs (bn_n (by rw [h1, decide_eq_true h2]; decide) (sz_putProp wt r.1.2.2.2.1 hs h1 h2 (kk _ ⟨by first | rfl | exact c1, by first | rfl | exact c2, by first | rfl | exact c3, by first | rfl | exact c4, by first | rfl | exact c5, by first | rfl | exact c6, rt, ⟨⟨r.1.1, r.1.2.1, r.1.2.2.1, rB_t r.1.2.2.2.1 s, r.1.2.2.2.2.1, r.1.2.2.2.2.2.1, r.1.2.2.2.2.2.2.1, r.1.2.2.2.2.2.2.2.1, rfl⟩, r.2⟩⟩))))
theorem ka_takeProp (wt : wfT t) (w : wfX t x) (C : CR S t p x) (hs : s < tN t) (h1 : gP x s = true) {k : Nat} {b : Sg} (hk : k ≤ 800) (hst : Stl (tSp t) (va_up (gP x) s false) (tN t) k (gA1w x) b) (kk : ∀ S', CR S' t p (b, va_up (gP x) s false, gF1w x, gDy x, gCa x, gDu x, gSl x + nI k) → KS (nI k) S') : kX8_takeProp a S (nI s) KS := by
  obtain ⟨c1, c2, c3, c4, c5, c6, rt, r⟩ := C
  have rfi := rt.1.2.2.2.1
  have rsp := rt.1.2.2.2.2.1
  have n8 := wt.1.2
  have f24 := wt.2.2.2.1
  unfold kX8_takeProp wX8_takeProp
  rw [c1]
  refine ns_k hs (by omega) (sz_hasProp r.1.2.2.2.1 (by omega) (bn_n (by rw [h1]; decide) (sz_freeSeat wt w rsp r.1 hs h1 hk hst (fun S' H' L' P' pc' r' => ?_))))
  dsimp only
  rw [sub_back]
  exact kk _ ⟨by first | rfl | exact c1, by first | rfl | exact c2, by first | rfl | exact c3, by first | rfl | exact c4, by first | rfl | exact c5, by first | rfl | exact c6, rt, ⟨r', r.2.1, r.2.2.1, r.2.2.2.1, congrArg (fun z => z + nI k) r.2.2.2.2⟩⟩
theorem ka_passDays (wt : wfT t) (wp : wfP p) (w : wfX t x) (C : CR S t p x) {d : Nat} (h1 : 1 ≤ d) (h2 : d ≤ 30) {y : Gs} (hd : Days t p d x y) (kk : ∀ S', CR S' t p y → KS (fcX y - fcX x) S') : kX8_passDays a S (nI d) KS := by
  obtain ⟨c1, c2, c3, c4, c5, c6, rt, r⟩ := C
  have rfi := rt.1.2.2.2.1
  have rsp := rt.1.2.2.2.2.1
  have n8 := wt.1.2
  have f24 := wt.2.2.2.1
  unfold kX8_passDays wX8_passDays
  rw [c1, c3, c4, c5, c6]
  refine nd_k h1 h2 (sz_liveDays wt wp rt h2 hd w r (fun G' g' S' H' L' P' F' U' dy' ca' du' sl' fc' sc' pc' r' => ?_))
  have e1 : fc' = fcX y := r'.1.2.2.2.2.2.2.1
  have e2 : S.2.2.2.2.2.2.2.2.2.1.2.2.2.2.1 = fcX x := r.1.2.2.2.2.2.2.1
  dsimp only
  rw [show fc' - S.2.2.2.2.2.2.2.2.2.1.2.2.2.2.1 = fcX y - fcX x by rw [e1, e2]]
  exact kk _ ⟨by first | rfl | exact c1, by first | rfl | exact c2, by first | rfl | exact c3, by first | rfl | exact c4, by first | rfl | exact c5, by first | rfl | exact c6, rt, r'⟩
theorem ka_foundAfter (wt : wfT t) (wp : wfP p) (w : wfX t x) (C : CR S t p x) {d : Nat} (h1 : 1 ≤ d) (h2 : d ≤ 30) {y : Gs} (hd : Days t p d x y) (kk : ∀ S', CR S' t p x → KS (fcX y) S') : kX8_foundAfter a S (nI d) KS := by
  obtain ⟨c1, c2, c3, c4, c5, c6, rt, r⟩ := C
  have rfi := rt.1.2.2.2.1
  have rsp := rt.1.2.2.2.2.1
  have n8 := wt.1.2
  have f24 := wt.2.2.2.1
  unfold kX8_foundAfter wX8_foundAfter
  rw [c1, c3, c4, c5, c6]
  refine nd_k h1 h2 (sz_copyFrom r.1 (fun S1 H1 L1 P1 F1 U1 r1 => sz_liveDays wt wp rt h2 hd w ⟨r1, r.2⟩ (fun G' g' S' H' L' P' F' U' dy' ca' du' sl' fc' sc' pc' r' => ?_)))
  have e1 : fc' = fcX y := r'.1.2.2.2.2.2.2.1
  subst e1
  exact kk _ ⟨by first | rfl | exact c1, by first | rfl | exact c2, by first | rfl | exact c3, by first | rfl | exact c4, by first | rfl | exact c5, by first | rfl | exact c6, rt, r⟩
theorem ka_daysUntilFound (wt : wfT t) (wp : wfP p) (C : CR S t p x) (hf : f < tF t) {sq : Nat → Gs} (q0 : sq 0 = x) (hq : ∀ i, Days t p 1 (sq i) (sq (i + 1))) (hw : ∀ i, wfX t (sq i)) (kk : ∀ S', CR S' t p x → KS (fI (fstB (fun i => decide (1 ≤ gF1w (sq i) f)) 30 0)) S') : kX8_daysUntilFound a S (nI f) KS := by
  obtain ⟨c1, c2, c3, c4, c5, c6, rt, r⟩ := C
  have rfi := rt.1.2.2.2.1
  have rsp := rt.1.2.2.2.2.1
  have n8 := wt.1.2
  have f24 := wt.2.2.2.1
  unfold kX8_daysUntilFound wX8_daysUntilFound
  rw [c1, c3, c4, c5, c6]
  refine nf_k hf (by omega) (sz_copyFrom r.1 (fun S1 H1 L1 P1 F1 U1 r1 => ⟨31, sz_until wt wp rt hq hw (by omega) (fun u => ?_) 30 0 rfl rfl _ _ _ _ _ _ _ _ _ _ _ _ _ _ _ ?_⟩))
  · exact kk _ ⟨by first | rfl | exact c1, by first | rfl | exact c2, by first | rfl | exact c3, by first | rfl | exact c4, by first | rfl | exact c5, by first | rfl | exact c6, rt, r⟩
  · rw [q0]
    exact ⟨r1, r.2⟩
theorem ka_wouldSlide (wt : wfT t) (w : wfX t x) (C : CR S t p x) (hs : s < tN t) (h0 : 0 < (gA1w x).2.1 s) {k : Nat} {b : Sg} (hk : k ≤ 800) (hst : Stl (tSp t) (gP x) (tN t) k (dg1 (gA1w x) s) b) (kk : ∀ S', CR S' t p x → KS (nI k) S') : kX8_wouldSlide a S (nI s) KS := by
  obtain ⟨c1, c2, c3, c4, c5, c6, rt, r⟩ := C
  have rfi := rt.1.2.2.2.1
  have rsp := rt.1.2.2.2.2.1
  have n8 := wt.1.2
  have f24 := wt.2.2.2.1
  unfold kX8_wouldSlide wX8_wouldSlide
  rw [c1]
  exact nc_k wt w r.1.2.1 hs h0 (sz_slidesOfDig wt w rfi rsp r hs h0 hk hst (fun u => kk _ ⟨by first | rfl | exact c1, by first | rfl | exact c2, by first | rfl | exact c3, by first | rfl | exact c4, by first | rfl | exact c5, by first | rfl | exact c6, rt, r⟩))
theorem ka_bestDig (wt : wfT t) (w : wfX t x) (C : CR S t p x) {kf : Nat → Nat} (hkf : ∀ s, s < tN t → 0 < (gA1w x).2.1 s → kf s ≤ 800 ∧ ∃ b, Stl (tSp t) (gP x) (tN t) (kf s) (dg1 (gA1w x) s) b) (kk : ∀ S', CR S' t p x → KS (fI (bst (gA1w x).2.1 kf (lf t (gA1w x)) (tN t))) S') : kX8_bestDig a S KS := by
  obtain ⟨c1, c2, c3, c4, c5, c6, rt, r⟩ := C
  have rfi := rt.1.2.2.2.1
  have rsp := rt.1.2.2.2.2.1
  have n8 := wt.1.2
  have f24 := wt.2.2.2.1
  unfold kX8_bestDig
  rw [c1]
  exact sz_bestDig wt w rfi rsp r hkf (fun u => kk _ ⟨by first | rfl | exact c1, by first | rfl | exact c2, by first | rfl | exact c3, by first | rfl | exact c4, by first | rfl | exact c5, by first | rfl | exact c6, rt, r⟩)
theorem ka_digest (wt : wfT t) (w : wfX t x) (C : CR S t p x) {K8 : Int64 → cLS → Prop} {kf : Nat → Nat} (hkf : ∀ s, s < tN t → 0 < (gA1w x).2.1 s → kf s ≤ 800 ∧ ∃ b, Stl (tSp t) (gP x) (tN t) (kf s) (dg1 (gA1w x) s) b) (kk : ∀ S', CR S' t p x → K8 (dgA t x (fI (bst (gA1w x).2.1 kf (lf t (gA1w x)) (tN t)))) S') : kX8_digest a S K8 := by
  obtain ⟨c1, c2, c3, c4, c5, c6, rt, r⟩ := C
  have rfi := rt.1.2.2.2.1
  have rsp := rt.1.2.2.2.2.1
  have n8 := wt.1.2
  have f24 := wt.2.2.2.1
  unfold kX8_digest
  rw [c1, c2, c3, c4]
  exact sz_digest wt w rfi rsp rt.1.1 rt.1.2.2.1 rt.1.2.1 rt.1.2.2.2.2.2.1 rt.1.2.2.2.2.2.2 r hkf (fun u => kk _ ⟨by first | rfl | exact c1, by first | rfl | exact c2, by first | rfl | exact c3, by first | rfl | exact c4, by first | rfl | exact c5, by first | rfl | exact c6, rt, r⟩)
end ASK
