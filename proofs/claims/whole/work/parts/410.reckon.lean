/-! sums and tests reckoned, both -/
def evR (t : Tl) (a : Sg) (pr : Nat → Bool) (fa : Nat → Nat) (dy sl : Int32) (ks : Nat → Nat) (ds : Nat → Int32) : Nat → Nat → List Int32 → List Int32
  | 0, _, vs => vs
  | n + 1, i, vs => evR t a pr fa dy sl ks ds n (i + 1) (evS t a pr fa dy sl (ks i) (ds i) vs)
def tyR (ks : Nat → Nat) : Nat → Nat → List Bool → Option (List Bool)
  | 0, _, bs => some bs
  | n + 1, i, bs => match tyS (ks i) bs with
    | none => none
    | some bs' => tyR ks n (i + 1) bs'
theorem tyR_succ {ks : Nat → Nat} {n i : Nat} {bs bs2 : List Bool} (h : tyR ks (n + 1) i bs = some bs2) : ∃ bs', tyS (ks i) bs = some bs' ∧ tyR ks n (i + 1) bs' = some bs2 := by
  unfold tyR at h
  rcases e : tyS (ks i) bs with _ | bs'
  · rw [e] at h; cases h
  · rw [e] at h; exact ⟨bs', rfl, h⟩
theorem vt_run {t : Tl} {a : Sg} {pr : Nat → Bool} {fa : Nat → Nat} {dy sl : Int32} {ks : Nat → Nat} {ds : Nat → Int32} : ∀ (n i : Nat) (vs : List Int32) (bs bs2 : List Bool), tyR ks n i bs = some bs2 → vt vs bs → vt (evR t a pr fa dy sl ks ds n i vs) bs2 := by
  intro n
  induction n with
  | zero => intro i vs bs bs2 h hv; cases h; exact hv
  | succ n ih =>
    intro i vs bs bs2 h hv
    obtain ⟨bs', h1, h2⟩ := tyR_succ h
    exact ih (i + 1) _ bs' bs2 h2 (vt_step h1 hv)
theorem evS_len {t : Tl} {a : Sg} {pr : Nat → Bool} {fa : Nat → Nat} {dy sl : Int32} {k : Nat} {d : Int32} (vs : List Int32) : (evS t a pr fa dy sl k d vs).length ≤ vs.length + 1 := by
  rcases arK3 k with e | e | e
  · rw [evS0 e]; exact Nat.le_refl _
  · rcases vs with _ | ⟨x, vs⟩
    · unfold evS; rw [e]; exact Nat.zero_le _
    · rw [evS1 e]; simp only [List.length_cons]; omega
  · rcases vs with _ | ⟨y, _ | ⟨x, vs⟩⟩
    · unfold evS; rw [e]; exact Nat.zero_le _
    · unfold evS; rw [e]; simp
    · rw [evS2 e]; simp only [List.length_cons]; omega
/-- the value of a part of the code -/
def vR (t : Tl) (a : Sg) (pr : Nat → Bool) (fa : Nat → Nat) (dy sl : Int32) (ks : Nat → Nat) (ds : Nat → Int32) (s e : Nat) : Int32 := (evR t a pr fa dy sl ks ds (e - s) s []).headD 0
theorem vR_one {t : Tl} {a : Sg} {pr : Nat → Bool} {fa : Nat → Nat} {dy sl : Int32} {ks : Nat → Nat} {ds : Nat → Int32} {s e : Nat} {b : Bool} (h : tyR ks (e - s) s [] = some [b]) : evR t a pr fa dy sl ks ds (e - s) s [] = [vR t a pr fa dy sl ks ds s e] ∧ (b = true → vR t a pr fa dy sl ks ds s e = 0 ∨ vR t a pr fa dy sl ks ds s e = 1) := by
  have hv := vt_run (t := t) (a := a) (pr := pr) (fa := fa) (dy := dy) (sl := sl) (ds := ds) (e - s) s [] [] [b] h trivial
  unfold vR
  rcases q : evR t a pr fa dy sl ks ds (e - s) s [] with _ | ⟨x, _ | ⟨y, r⟩⟩
  · rw [q] at hv; exact hv.elim
  · rw [q] at hv; exact ⟨rfl, hv.1⟩
  · rw [q] at hv; exact hv.2.elim
def trK (k : Nat) : Nat := if k = 45 then 100 else if k = 46 then 105 else if 35 ≤ k ∧ k ≤ 38 then k + 66 else if 39 ≤ k ∧ k ≤ 43 then k + 67 else k
/-- the code's steps: as the class has them, as the model has them -/
def rKc (t : Tl) (ns : Nat) (ks : Nat → Nat) (ds Ks Ds : Nat → Int32) : Prop := ∀ i, i < ns → Ks i = nI (ks i) ∧ Ds i = ds i ∧ okD t (ks i) (ds i)
def rKm (t : Tl) (ns : Nat) (ks : Nat → Nat) (ds Qo Qw : Nat → Int32) : Prop := ∀ i, i < ns → Qo i = nI (trK (ks i)) ∧ (arK (ks i) = 0 → 19 ≤ ks i → Qw i = ds i) ∧ okD t (ks i) (ds i)
section RECKC
variable {P H U Fr To C De Ks Ds : Nat → Int32} {t : Tl} {a : Sg} {pr : Nat → Bool} {fa : Nat → Nat} {dy sl fc pc L : Int32} {ks : Nat → Nat} {ds : Nat → Int32} {ns : Nat}
theorem sz_reckon_loop {K : Int32 → ((Nat → Int32) × Int32) → Prop} (wt : wfT t) (w : wfS (tN t) a) (rc : rB (tF t) C (tCo t)) (rd : ∀ f, f < tF t → De f = tDe t f) (rf : ∀ e, e < tE t → Fr e = tFr t e) (ro : ∀ e, e < tE t → To e = tTo t e) (rh : rN 8 H a.2.1) (rU : rB 24 U (fun f => decide (fa f = 2))) (hfc : fc = nI (fb_ct (fun f => decide (1 ≤ fa f)) 24)) (hpc : pc = nI (fb_ct pr 8)) (hns : ns ≤ 400) (rk : rKc t ns ks ds Ks Ds)
    {e : Nat} (he : e ≤ ns) : ∀ (d i : Nat) (P : Nat → Int32) (vs : List Int32) (bs bs2 : List Bool), i + d = e → tyR ks d i bs = some bs2 → vt vs bs → stk P vs → vs.length ≤ i →
    (∀ P', stk P' (evR t a pr fa dy sl ks ds d i vs) → wX2_pull P' (nI (evR t a pr fa dy sl ks ds d i vs).length) (fun r u => K r (P', u))) →
    wX2_reckon_17 K (nI (tN t)) (nI (tE t)) (nI (tF t)) Fr To C De (nI ns) Ks Ds H U dy sl fc pc (d + 1) P (nI vs.length) (nI e) (nI i) := by
  intro d
  induction d with
  | zero =>
    intro i P vs bs bs2 hi ht hv hs hl kk
    have : i = e := by omega
    subst this
    unfold wX2_reckon_17
    exact br_t (nI_le (Nat.le_refl _) (by omega)) (kk P hs)
  | succ d ih =>
    intro i P vs bs bs2 hi ht hv hs hl kk
    obtain ⟨bs', h1, h2⟩ := tyR_succ ht
    obtain ⟨k1, k2, k3⟩ := rk i (by omega)
    unfold wX2_reckon_17
    refine br_f (nI_ge (by omega) (by omega)) ?_
    unfold wX1_stepKind wX1_stepDetail wX1_isStep
    refine br_f (nI_pos (by omega)) (br_f (nI_ge (by omega) (by omega)) (br_f (by decide) ⟨vp_in_nI (by omega) (by decide), ?_⟩))
    refine br_f (nI_pos (by omega)) (br_f (nI_ge (by omega) (by omega)) (br_f (by decide) ⟨vp_in_nI (by omega) (by decide), ?_⟩))
    rw [nI_clamp (by omega), k1, k2]
    refine sz_takeStep wt w rc rd rf ro rh rU hfc hpc h1 hv k3 hs (by omega) (fun P' hs' => ?_)
    rw [nI_1]
    exact ih (i + 1) P' _ bs' bs2 (by omega) h2 (vt_step h1 hv) hs' (Nat.le_trans (evS_len vs) (by omega)) kk
theorem sz_reckon {K : Int32 → ((Nat → Int32) × Int32) → Prop} (wt : wfT t) (w : wfS (tN t) a) (rc : rB (tF t) C (tCo t)) (rd : ∀ f, f < tF t → De f = tDe t f) (rf : ∀ e, e < tE t → Fr e = tFr t e) (ro : ∀ e, e < tE t → To e = tTo t e) (rh : rN 8 H a.2.1) (rU : rB 24 U (fun f => decide (fa f = 2))) (hfc : fc = nI (fb_ct (fun f => decide (1 ≤ fa f)) 24)) (hpc : pc = nI (fb_ct pr 8)) (hns : ns ≤ 400) (rk : rKc t ns ks ds Ks Ds)
    {s e : Nat} (hs : s ≤ e) (he : e ≤ ns) {b : Bool} (ht : tyR ks (e - s) s [] = some [b]) (kk : ∀ P', K (vR t a pr fa dy sl ks ds s e) (P', 0)) : wX2_reckon (nI (tN t)) (nI (tE t)) (nI (tF t)) Fr To C De (nI ns) Ks Ds P L H U dy sl fc pc (nI s) (nI e) K := by
  unfold wX2_reckon
  refine ⟨(e - s) + 1, ?_⟩
  refine sz_reckon_loop wt w rc rd rf ro rh rU hfc hpc hns rk he (e - s) s P [] [] [b] (by omega) ht trivial trivial (Nat.zero_le _) (fun P' hs' => ?_)
  have h1 := (vR_one (t := t) (a := a) (pr := pr) (fa := fa) (dy := dy) (sl := sl) (ds := ds) ht).1
  rw [h1] at hs' ⊢
  exact sz_pull (vs := []) (by decide) hs' (kk P')
end RECKC
section RECKM
variable {Ms N Qc Qu Qw Qb Qe Qo Qx Qbs Qes : Nat → Int32} {t : Tl} {a : Sg} {pr : Nat → Bool} {fa : Nat → Nat} {dy ca du sl : Int32} {ks : Nat → Nat} {ds : Nat → Int32} {ns : Nat}
theorem sm_asked {K : Int32 → Unit → Prop} {k : Nat} (hk : k = 45 ∨ k = 15 ∨ k = 16 ∨ k = 17 ∨ k = 18 ∨ k = 19 ∨ k = 20 ∨ k = 22) (kk : K 1 ()) : wX10_isAsked (nI (trK k)) K := by
  unfold wX10_isAsked wX10_isIn
  rcases hk with rfl | rfl | rfl | rfl | rfl | rfl | rfl | rfl
  · exact br_t rfl kk
  · exact br_f (by decide) (br_f (by decide) (br_f (by decide) (bn_f (by decide) kk)))
  · exact br_f (by decide) (br_f (by decide) (br_f (by decide) (bn_f (by decide) kk)))
  · exact br_f (by decide) (br_f (by decide) (br_f (by decide) (bn_f (by decide) kk)))
  · exact br_f (by decide) (br_f (by decide) (br_f (by decide) (bn_f (by decide) kk)))
  · exact br_f (by decide) (br_f (by decide) (br_f (by decide) (bn_f (by decide) kk)))
  · exact br_f (by decide) (br_f (by decide) (br_f (by decide) (bn_f (by decide) kk)))
  · exact br_f (by decide) (br_f (by decide) (br_t (by decide) (bn_t rfl (bn_t rfl kk))))
theorem sm_nasked {K : Int32 → Unit → Prop} {k : Nat} (hk : (k = 46 ∨ k = 24 ∨ k = 21 ∨ k = 23) ∨ (k = 25 ∨ k = 26 ∨ k = 27 ∨ k = 28 ∨ (35 ≤ k ∧ k ≤ 43))) (kk : K 0 ()) : wX10_isAsked (nI (trK k)) K := by
  have hk : k = 46 ∨ k = 24 ∨ k = 21 ∨ k = 23 ∨ k = 25 ∨ k = 26 ∨ k = 27 ∨ k = 28 ∨ k = 35 ∨ k = 36 ∨ k = 37 ∨ k = 38 ∨ k = 39 ∨ k = 40 ∨ k = 41 ∨ k = 42 ∨ k = 43 := by omega
  unfold wX10_isAsked wX10_isIn
  rcases hk with rfl | rfl | rfl | rfl | rfl | rfl | rfl | rfl | rfl | rfl | rfl | rfl | rfl | rfl | rfl | rfl | rfl
  · exact br_f (by decide) (br_f (by decide) (br_t (by decide) (bn_t rfl (bn_f (by decide) kk))))
  · exact br_f (by decide) (br_f (by decide) (br_t (by decide) (bn_t rfl (bn_f (by decide) kk))))
  · exact br_f (by decide) (br_f (by decide) (br_t (by decide) (bn_t rfl (bn_f (by decide) kk))))
  · exact br_f (by decide) (br_f (by decide) (br_t (by decide) (bn_t rfl (bn_f (by decide) kk))))
  · exact br_f (by decide) (br_f (by decide) (br_t (by decide) (bn_t rfl (bn_f (by decide) kk))))
  · exact br_f (by decide) (br_f (by decide) (br_t (by decide) (bn_t rfl (bn_f (by decide) kk))))
  · exact br_f (by decide) (br_f (by decide) (br_t (by decide) (bn_t rfl (bn_f (by decide) kk))))
  · exact br_f (by decide) (br_f (by decide) (br_t (by decide) (bn_t rfl (bn_f (by decide) kk))))
  · exact br_f (by decide) (br_f (by decide) (br_t (by decide) (bn_t rfl (bn_f (by decide) kk))))
  · exact br_f (by decide) (br_f (by decide) (br_t (by decide) (bn_t rfl (bn_f (by decide) kk))))
  · exact br_f (by decide) (br_f (by decide) (br_t (by decide) (bn_t rfl (bn_f (by decide) kk))))
  · exact br_f (by decide) (br_f (by decide) (br_t (by decide) (bn_t rfl (bn_f (by decide) kk))))
  · exact br_f (by decide) (br_f (by decide) (br_t (by decide) (bn_t rfl (bn_f (by decide) kk))))
  · exact br_f (by decide) (br_f (by decide) (br_t (by decide) (bn_t rfl (bn_f (by decide) kk))))
  · exact br_f (by decide) (br_f (by decide) (br_t (by decide) (bn_t rfl (bn_f (by decide) kk))))
  · exact br_f (by decide) (br_f (by decide) (br_t (by decide) (bn_t rfl (bn_f (by decide) kk))))
  · exact br_f (by decide) (br_f (by decide) (br_t (by decide) (bn_t rfl (bn_f (by decide) kk))))
theorem sm_ofOne {K : Int32 → Unit → Prop} {k : Nat} (hk : k = 46 ∨ k = 24 ∨ k = 21 ∨ k = 23) (kk : K 1 ()) : wX10_isOfOneNow (nI (trK k)) K := by
  unfold wX10_isOfOneNow
  rcases hk with rfl | rfl | rfl | rfl
  · exact br_t rfl kk
  · exact br_f (by decide) (br_t rfl kk)
  · exact br_f (by decide) (br_f (by decide) (br_t rfl kk))
  · exact br_f (by decide) (br_f (by decide) (br_f (by decide) (bn_t rfl kk)))
theorem sm_nofOne {K : Int32 → Unit → Prop} {k : Nat} (hk : k = 25 ∨ k = 26 ∨ k = 27 ∨ k = 28 ∨ (35 ≤ k ∧ k ≤ 43)) (kk : K 0 ()) : wX10_isOfOneNow (nI (trK k)) K := by
  have hk : k = 25 ∨ k = 26 ∨ k = 27 ∨ k = 28 ∨ k = 35 ∨ k = 36 ∨ k = 37 ∨ k = 38 ∨ k = 39 ∨ k = 40 ∨ k = 41 ∨ k = 42 ∨ k = 43 := by omega
  unfold wX10_isOfOneNow
  rcases hk with rfl | rfl | rfl | rfl | rfl | rfl | rfl | rfl | rfl | rfl | rfl | rfl | rfl
  · exact br_f (by decide) (br_f (by decide) (br_f (by decide) (bn_f (by decide) kk)))
  · exact br_f (by decide) (br_f (by decide) (br_f (by decide) (bn_f (by decide) kk)))
  · exact br_f (by decide) (br_f (by decide) (br_f (by decide) (bn_f (by decide) kk)))
  · exact br_f (by decide) (br_f (by decide) (br_f (by decide) (bn_f (by decide) kk)))
  · exact br_f (by decide) (br_f (by decide) (br_f (by decide) (bn_f (by decide) kk)))
  · exact br_f (by decide) (br_f (by decide) (br_f (by decide) (bn_f (by decide) kk)))
  · exact br_f (by decide) (br_f (by decide) (br_f (by decide) (bn_f (by decide) kk)))
  · exact br_f (by decide) (br_f (by decide) (br_f (by decide) (bn_f (by decide) kk)))
  · exact br_f (by decide) (br_f (by decide) (br_f (by decide) (bn_f (by decide) kk)))
  · exact br_f (by decide) (br_f (by decide) (br_f (by decide) (bn_f (by decide) kk)))
  · exact br_f (by decide) (br_f (by decide) (br_f (by decide) (bn_f (by decide) kk)))
  · exact br_f (by decide) (br_f (by decide) (br_f (by decide) (bn_f (by decide) kk)))
  · exact br_f (by decide) (br_f (by decide) (br_f (by decide) (bn_f (by decide) kk)))
theorem sm_reckon2 {K : Int32 → Unit → Prop} {k : Nat} {x y : Int32} (hk : k = 25 ∨ k = 26 ∨ k = 27 ∨ k = 28 ∨ (35 ≤ k ∧ k ≤ 43)) (kk : K (jnV k x y) ()) : wX10_reckon (nI (trK k)) x y K := by
  have hk : k = 25 ∨ k = 26 ∨ k = 27 ∨ k = 28 ∨ k = 35 ∨ k = 36 ∨ k = 37 ∨ k = 38 ∨ k = 39 ∨ k = 40 ∨ k = 41 ∨ k = 42 ∨ k = 43 := by omega
  unfold wX10_reckon
  rcases hk with rfl | rfl | rfl | rfl | rfl | rfl | rfl | rfl | rfl | rfl | rfl | rfl | rfl
  · exact ⟨fun _ => kk, fun z => absurd z (by decide), fun z => absurd z (by decide), fun z => absurd z (by decide), fun z => absurd z (by decide), fun z => absurd z (by decide), fun z => absurd z (by decide), fun z => absurd z (by decide), fun z => absurd z (by decide), fun z => absurd z (by decide), fun z => absurd z (by decide), fun z => absurd z (by decide), fun h25 h27 h28 h101 h102 h103 h104 h106 h107 h108 h109 h110 => absurd rfl h25⟩
  · exact ⟨fun z => absurd z (by decide), fun z => absurd z (by decide), fun z => absurd z (by decide), fun z => absurd z (by decide), fun z => absurd z (by decide), fun z => absurd z (by decide), fun z => absurd z (by decide), fun z => absurd z (by decide), fun z => absurd z (by decide), fun z => absurd z (by decide), fun z => absurd z (by decide), fun z => absurd z (by decide), fun _ _ _ _ _ _ _ _ _ _ _ _ => kk⟩
  · exact ⟨fun z => absurd z (by decide), fun _ => kk, fun z => absurd z (by decide), fun z => absurd z (by decide), fun z => absurd z (by decide), fun z => absurd z (by decide), fun z => absurd z (by decide), fun z => absurd z (by decide), fun z => absurd z (by decide), fun z => absurd z (by decide), fun z => absurd z (by decide), fun z => absurd z (by decide), fun h25 h27 h28 h101 h102 h103 h104 h106 h107 h108 h109 h110 => absurd rfl h27⟩
  · exact ⟨fun z => absurd z (by decide), fun z => absurd z (by decide), fun _ => kk, fun z => absurd z (by decide), fun z => absurd z (by decide), fun z => absurd z (by decide), fun z => absurd z (by decide), fun z => absurd z (by decide), fun z => absurd z (by decide), fun z => absurd z (by decide), fun z => absurd z (by decide), fun z => absurd z (by decide), fun h25 h27 h28 h101 h102 h103 h104 h106 h107 h108 h109 h110 => absurd rfl h28⟩
  · exact ⟨fun z => absurd z (by decide), fun z => absurd z (by decide), fun z => absurd z (by decide), fun _ => kk, fun z => absurd z (by decide), fun z => absurd z (by decide), fun z => absurd z (by decide), fun z => absurd z (by decide), fun z => absurd z (by decide), fun z => absurd z (by decide), fun z => absurd z (by decide), fun z => absurd z (by decide), fun h25 h27 h28 h101 h102 h103 h104 h106 h107 h108 h109 h110 => absurd rfl h101⟩
  · exact ⟨fun z => absurd z (by decide), fun z => absurd z (by decide), fun z => absurd z (by decide), fun z => absurd z (by decide), fun _ => kk, fun z => absurd z (by decide), fun z => absurd z (by decide), fun z => absurd z (by decide), fun z => absurd z (by decide), fun z => absurd z (by decide), fun z => absurd z (by decide), fun z => absurd z (by decide), fun h25 h27 h28 h101 h102 h103 h104 h106 h107 h108 h109 h110 => absurd rfl h102⟩
  · exact ⟨fun z => absurd z (by decide), fun z => absurd z (by decide), fun z => absurd z (by decide), fun z => absurd z (by decide), fun z => absurd z (by decide), fun _ => kk, fun z => absurd z (by decide), fun z => absurd z (by decide), fun z => absurd z (by decide), fun z => absurd z (by decide), fun z => absurd z (by decide), fun z => absurd z (by decide), fun h25 h27 h28 h101 h102 h103 h104 h106 h107 h108 h109 h110 => absurd rfl h103⟩
  · refine ⟨fun z => absurd z (by decide), fun z => absurd z (by decide), fun z => absurd z (by decide), fun z => absurd z (by decide), fun z => absurd z (by decide), fun z => absurd z (by decide), fun _ => ⟨fun h => ⟨h, ?_⟩, fun h => ?_⟩, fun z => absurd z (by decide), fun z => absurd z (by decide), fun z => absurd z (by decide), fun z => absurd z (by decide), fun z => absurd z (by decide), fun h25 h27 h28 h101 h102 h103 h104 h106 h107 h108 h109 h110 => absurd rfl h104⟩
    · have kk : K (if y = 0 then 0 else x / y) () := kk
      rw [if_neg h] at kk; exact kk
    · have kk : K (if y = 0 then 0 else x / y) () := kk
      rw [if_pos h] at kk; exact kk
  · refine ⟨fun z => absurd z (by decide), fun z => absurd z (by decide), fun z => absurd z (by decide), fun z => absurd z (by decide), fun z => absurd z (by decide), fun z => absurd z (by decide), fun z => absurd z (by decide), fun _ => ⟨fun h => ?_, fun h => ?_⟩, fun z => absurd z (by decide), fun z => absurd z (by decide), fun z => absurd z (by decide), fun z => absurd z (by decide), fun h25 h27 h28 h101 h102 h103 h104 h106 h107 h108 h109 h110 => absurd rfl h106⟩
    · have kk : K (zB (decide (x < y))) () := kk
      have e : decide (x < y) = false := decide_eq_false (nlt_le.mpr h)
      rw [e] at kk
      unfold wX10_reckon_154
      exact sm_one (b := false) kk
    · have kk : K (zB (decide (x < y))) () := kk
      have e : decide (x < y) = true := decide_eq_true (by rw [fa_le] at h; rw [fa_lt]; omega)
      rw [e] at kk
      unfold wX10_reckon_154
      exact sm_one (b := true) kk
  · refine ⟨fun z => absurd z (by decide), fun z => absurd z (by decide), fun z => absurd z (by decide), fun z => absurd z (by decide), fun z => absurd z (by decide), fun z => absurd z (by decide), fun z => absurd z (by decide), fun z => absurd z (by decide), fun _ => ⟨fun h => ?_, fun h => ?_⟩, fun z => absurd z (by decide), fun z => absurd z (by decide), fun z => absurd z (by decide), fun h25 h27 h28 h101 h102 h103 h104 h106 h107 h108 h109 h110 => absurd rfl h107⟩
    · have kk : K (zB (decide (y < x))) () := kk
      have e : decide (y < x) = false := decide_eq_false (nlt_le.mpr h)
      rw [e] at kk
      unfold wX10_reckon_168
      exact sm_one (b := false) kk
    · have kk : K (zB (decide (y < x))) () := kk
      have e : decide (y < x) = true := decide_eq_true (by rw [fa_le] at h; rw [fa_lt]; omega)
      rw [e] at kk
      unfold wX10_reckon_168
      exact sm_one (b := true) kk
  · refine ⟨fun z => absurd z (by decide), fun z => absurd z (by decide), fun z => absurd z (by decide), fun z => absurd z (by decide), fun z => absurd z (by decide), fun z => absurd z (by decide), fun z => absurd z (by decide), fun z => absurd z (by decide), fun z => absurd z (by decide), fun _ => ⟨fun h => ?_, fun h => ?_⟩, fun z => absurd z (by decide), fun z => absurd z (by decide), fun h25 h27 h28 h101 h102 h103 h104 h106 h107 h108 h109 h110 => absurd rfl h108⟩
    · have kk : K (zB (decide (x = y))) () := kk
      have e : decide (x = y) = false := decide_eq_false h
      rw [e] at kk
      unfold wX10_reckon_182
      exact sm_one (b := false) kk
    · have kk : K (zB (decide (x = y))) () := kk
      have e : decide (x = y) = true := decide_eq_true h
      rw [e] at kk
      unfold wX10_reckon_182
      exact sm_one (b := true) kk
  · refine ⟨fun z => absurd z (by decide), fun z => absurd z (by decide), fun z => absurd z (by decide), fun z => absurd z (by decide), fun z => absurd z (by decide), fun z => absurd z (by decide), fun z => absurd z (by decide), fun z => absurd z (by decide), fun z => absurd z (by decide), fun z => absurd z (by decide), fun _ => ⟨fun h => ?_, fun h => ?_⟩, fun z => absurd z (by decide), fun h25 h27 h28 h101 h102 h103 h104 h106 h107 h108 h109 h110 => absurd rfl h109⟩
    · have kk : K (zB (decide (x ≤ y))) () := kk
      have e : decide (x ≤ y) = false := decide_eq_false (by rw [fa_lt] at h; rw [fa_le]; omega)
      rw [e] at kk
      unfold wX10_reckon_196
      exact sm_one (b := false) kk
    · have kk : K (zB (decide (x ≤ y))) () := kk
      have e : decide (x ≤ y) = true := decide_eq_true (by rw [fa_lt] at h; rw [fa_le]; omega)
      rw [e] at kk
      unfold wX10_reckon_196
      exact sm_one (b := true) kk
  · refine ⟨fun z => absurd z (by decide), fun z => absurd z (by decide), fun z => absurd z (by decide), fun z => absurd z (by decide), fun z => absurd z (by decide), fun z => absurd z (by decide), fun z => absurd z (by decide), fun z => absurd z (by decide), fun z => absurd z (by decide), fun z => absurd z (by decide), fun z => absurd z (by decide), fun _ => ⟨fun h => ?_, fun h => ?_⟩, fun h25 h27 h28 h101 h102 h103 h104 h106 h107 h108 h109 h110 => absurd rfl h110⟩
    · have kk : K (zB (decide (y ≤ x))) () := kk
      have e : decide (y ≤ x) = false := decide_eq_false (by rw [fa_lt] at h; rw [fa_le]; omega)
      rw [e] at kk
      unfold wX10_reckon_210
      exact sm_one (b := false) kk
    · have kk : K (zB (decide (y ≤ x))) () := kk
      have e : decide (y ≤ x) = true := decide_eq_true (by rw [fa_lt] at h; rw [fa_le]; omega)
      rw [e] at kk
      unfold wX10_reckon_210
      exact sm_one (b := true) kk
theorem sm_ask {K : Int32 → Unit → Prop} {k : Nat} {d q : Int32} (wt : wfT t) (r : rM N a pr fa dy ca du sl) (h2 : ∀ f, fa f ≤ 2) (hz : ∀ f, tF t ≤ f → fa f = 0) (rc : rB (tF t) Qc (tCo t)) (rd : ∀ f, f < tF t → Qw f = tDe t f) (ru : rN (tF t) Qu (tCu t)) (rf : ∀ e, e < tE t → Qb e = tFr t e) (ro : ∀ e, e < tE t → Qe e = tTo t e) (hk : k = 45 ∨ k = 15 ∨ k = 16 ∨ k = 17 ∨ k = 18 ∨ k = 19 ∨ k = 20 ∨ k = 22) (hd : okD t k d) (hq : 19 ≤ k → q = d) (kk : K (as0 t pr fa dy sl k d) ()) : wX10_ask N (nI (tM t)) Qb Qe (nI (tF t)) Qc Qu Qw (nI (trK k)) q K := by
  have n6 := wt.2.2.1
  unfold wX10_ask
  rcases hk with rfl | rfl | rfl | rfl | rfl | rfl | rfl | rfl
  · have hq := hq (by decide)
    subst hq
    exact ⟨fun z => absurd z (by decide), fun z => absurd z (by decide), fun z => absurd z (by decide), fun z => absurd z (by decide), fun z => absurd z (by decide), fun z => absurd z (by decide), fun _ => kk, fun h15 h16 h17 h18 h19 h20 h100 => absurd rfl h100⟩
  · refine ⟨fun _ => ⟨pk_in 0 197 (by omega), ?_⟩, fun z => absurd z (by decide), fun z => absurd z (by decide), fun z => absurd z (by decide), fun z => absurd z (by decide), fun z => absurd z (by decide), fun z => absurd z (by decide), fun h15 h16 h17 h18 h19 h20 h100 => absurd rfl h15⟩
    rw [show (0 : Int32).toNatClampNeg = 0 from rfl, r.2.2.2.2.2.1]; exact kk
  · exact ⟨fun z => absurd z (by decide), fun _ => sm_foundNow wt r h2 hz (v := 1) (by decide) (by decide) kk, fun z => absurd z (by decide), fun z => absurd z (by decide), fun z => absurd z (by decide), fun z => absurd z (by decide), fun z => absurd z (by decide), fun h15 h16 h17 h18 h19 h20 h100 => absurd rfl h16⟩
  · refine ⟨fun z => absurd z (by decide), fun z => absurd z (by decide), fun _ => ⟨pk_in 3 197 (by omega), ?_⟩, fun z => absurd z (by decide), fun z => absurd z (by decide), fun z => absurd z (by decide), fun z => absurd z (by decide), fun h15 h16 h17 h18 h19 h20 h100 => absurd rfl h17⟩
    rw [show (3 : Int32).toNatClampNeg = 3 from rfl, r.2.2.2.2.2.2.2.2]; exact kk
  · refine ⟨fun z => absurd z (by decide), fun z => absurd z (by decide), fun z => absurd z (by decide), fun _ => ⟨pk_in 4 197 (by omega), ?_⟩, fun z => absurd z (by decide), fun z => absurd z (by decide), fun z => absurd z (by decide), fun h15 h16 h17 h18 h19 h20 h100 => absurd rfl h18⟩
    rw [show (4 : Int32).toNatClampNeg = 4 from rfl, r.2.2.2.2.1]; exact sm_bitCount kk
  · have hq := hq (by decide)
    subst hq
    obtain ⟨x, hx, rfl⟩ := hd (by decide)
    refine ⟨fun z => absurd z (by decide), fun z => absurd z (by decide), fun z => absurd z (by decide), fun z => absurd z (by decide), fun _ => ⟨vp_in_nI (by omega) (by decide), ?_⟩, fun z => absurd z (by decide), fun z => absurd z (by decide), fun h15 h16 h17 h18 h19 h20 h100 => absurd rfl h19⟩
    have kk : K (tFr t (nI x).toNatClampNeg) () := kk
    rw [nI_clamp (by omega)] at kk ⊢
    rw [rf x hx]; exact kk
  · have hq := hq (by decide)
    subst hq
    obtain ⟨x, hx, rfl⟩ := hd (by decide)
    refine ⟨fun z => absurd z (by decide), fun z => absurd z (by decide), fun z => absurd z (by decide), fun z => absurd z (by decide), fun z => absurd z (by decide), fun _ => ⟨vp_in_nI (by omega) (by decide), ?_⟩, fun z => absurd z (by decide), fun h15 h16 h17 h18 h19 h20 h100 => absurd rfl h20⟩
    have kk : K (tTo t (nI x).toNatClampNeg) () := kk
    rw [nI_clamp (by omega)] at kk ⊢
    rw [ro x hx]; exact kk
  · have hq := hq (by decide)
    subst hq
    obtain ⟨x, hx, rfl⟩ := hd (by decide)
    refine ⟨fun z => absurd z (by decide), fun z => absurd z (by decide), fun z => absurd z (by decide), fun z => absurd z (by decide), fun z => absurd z (by decide), fun z => absurd z (by decide), fun z => absurd z (by decide), fun _ _ _ _ _ _ _ => ?_⟩
    have kk : K (zB (anyB (snP0 t fa (nI x).toNatClampNeg) (tF t))) () := kk
    rw [nI_clamp (by omega)] at kk
    exact sm_seen wt r h2 rc rd ru (by omega) (sm_one kk)
theorem sm_turned {K : Int32 → Unit → Prop} {k : Nat} {x : Int32} (wt : wfT t) (w : wfS (tN t) a) (r : rM N a pr fa dy ca du sl) (h2 : ∀ f, fa f ≤ 2) (hz : ∀ f, tF t ≤ f → fa f = 0) (hk : k = 46 ∨ k = 24 ∨ k = 21 ∨ k = 23) (h01 : k = 24 → x = 0 ∨ x = 1) (kk : K (un1 a (tN t) fa k x) ()) : wX10_turned N (nI (tN t)) (nI (tF t)) (nI (trK k)) x K := by
  have n8 := wt.1.2
  have n2 := wt.1.1
  have n24 := wt.2.2.2.1
  unfold wX10_turned
  rcases hk with rfl | rfl | rfl | rfl
  · exact ⟨fun z => absurd z (by decide), fun z => absurd z (by decide), fun _ => kk, fun h21 h24 h105 => absurd rfl h105⟩
  · refine ⟨fun z => absurd z (by decide), fun _ => ?_, fun z => absurd z (by decide), fun h21 h24 h105 => absurd rfl h24⟩
    rcases h01 rfl with rfl | rfl
    · exact kk
    · exact kk
  · refine ⟨fun _ => fm_wp (nI_ne0 (by omega) (by omega)) ?_, fun z => absurd z (by decide), fun z => absurd z (by decide), fun h21 h24 h105 => absurd rfl h21⟩
    obtain ⟨s, hs, e⟩ := fm_in x (n := tN t) (by omega) n8
    have kk : K (nI (a.2.1 (fmV x (nI (tN t))).toNatClampNeg)) () := kk
    rw [e] at kk ⊢
    rw [nI_clamp (by omega)] at kk
    exact sm_tall r (by omega) kk
  · refine ⟨fun z => absurd z (by decide), fun z => absurd z (by decide), fun z => absurd z (by decide), fun _ _ _ => ?_⟩
    have kk : K (zB (suB fa x)) () := kk
    have no : suB fa x = false → wX10_turned_79 K N (nI (tN t)) (nI (tF t)) := by
      intro e
      rw [e] at kk
      unfold wX10_turned_79 wX10_turned_80
      exact sm_one (b := false) kk
    unfold wX10_isFind wX10_isIn
    rcases pk_ix x (n := 24) (by decide) with h | h | ⟨j, hj, rfl⟩
    · refine br_t h (br_t rfl (no ?_))
      unfold suB
      have : ¬ (0 ≤ x ∧ x < 24) := fun z => by
        have z1 := z.1
        rw [fa_le] at z1
        rw [fa_lt] at h
        omega
      simp [this]
    · have h : (24 : Int32) ≤ x := h
      have h' := h
      rw [fa_le] at h'
      have a1 : (24 : Int32).toInt = 24 := rfl
      have a2 : (0 : Int32).toInt = 0 := rfl
      have a3 : (1 : Int32).toInt = 1 := rfl
      refine br_f (by rw [fa_lt]; omega) (br_t ?_ (br_t rfl (no ?_)))
      · rw [fa_lt, fb_subI, nI_toInt (by omega)]
        · omega
        · rw [nI_toInt (by omega)]; omega
        · rw [nI_toInt (by omega)]; omega
      · unfold suB
        have : ¬ (0 ≤ x ∧ x < 24) := fun z => by
          have z1 := z.2
          rw [fa_lt] at z1
          omega
        simp [this]
    · have e : suB fa (nI j) = decide (fa j = 2) := by
        unfold suB
        have : (0 : Int32) ≤ nI j ∧ nI j < 24 := ⟨nI_pos' (by omega), nI_lt hj (by decide)⟩
        simp [this, nI_clamp (show j < 2 ^ 31 by omega)]
      rw [e] at kk no
      have go : wX10_sure N (nI j) (fun r4 u4 => ((r4 = 0 → wX10_turned_79 K N (nI (tN t)) (nI (tF t))) ∧ (¬ r4 = 0 → wX10_turned_80 K N (nI (tN t)) (nI (tF t)) 1))) := by
        refine sm_sure r h2 hj (bz rfl (fun z => no z) (fun z => ?_))
        rw [z] at kk
        unfold wX10_turned_80
        exact sm_one (b := true) kk
      refine br_f (nI_pos (by omega)) ?_
      by_cases q : j < tF t
      · refine br_f ?_ (br_f (by decide) go)
        rw [nI_dec (by omega)]
        exact nI_nlt (by omega) (by omega)
      · have z0 := hz j (by omega)
        refine br_t ?_ (br_t rfl (no (by simp [z0])))
        rcases Nat.eq_zero_or_pos (tF t) with z | z
        · rw [z]
          rw [fa_lt, nI_toInt (by omega)]
          have : (nI 0 - 1).toInt = -1 := rfl
          omega
        · rw [nI_dec z]
          exact nI_lt (by omega) (by omega)
theorem sm_step {K : Int32 → (Nat → Int32) → Prop} (wt : wfT t) (w : wfS (tN t) a) (r : rM N a pr fa dy ca du sl) (h2 : ∀ f, fa f ≤ 2) (hz : ∀ f, tF t ≤ f → fa f = 0) (rc : rB (tF t) Qc (tCo t)) (rd : ∀ f, f < tF t → Qw f = tDe t f) (ru : rN (tF t) Qu (tCu t)) (rf : ∀ e, e < tE t → Qb e = tFr t e) (ro : ∀ e, e < tE t → Qe e = tTo t e) (hns : ns ≤ 400) (rk : rKm t ns ks ds Qo Qx)
    {m p i e : Nat} (hp : p < 32) (he : Qes p = nI e) (hi : i < e) (hen : e ≤ ns) {vs : List Int32} {bs bs' : List Bool} (h : tyS (ks i) bs = some bs') (hv : vt vs bs) (hs : stk Ms vs) (hl : vs.length < 400)
    (kk : ∀ M', stk M' (evS t a pr fa dy sl (ks i) (ds i) vs) → wX10_reckonPart_12 K N (nI (tN t)) (nI (tM t)) Qb Qe (nI (tF t)) Qc Qu Qw Qbs Qes Qo Qx m M' (nI p) (nI (evS t a pr fa dy sl (ks i) (ds i) vs).length) (nI (i + 1))) :
    wX10_reckonPart_12 K N (nI (tN t)) (nI (tM t)) Qb Qe (nI (tF t)) Qc Qu Qw Qbs Qes Qo Qx (m + 1) Ms (nI p) (nI vs.length) (nI i) := by
  obtain ⟨k1, k2, k3⟩ := rk i (by omega)
  unfold wX10_reckonPart_12
  refine ⟨vp_in_nI hp (by decide), ?_⟩
  rw [nI_clamp (by omega), he, nI_clamp (by omega), k1]
  refine br_f (nI_ge hi (by omega)) ⟨vp_in_nI (by omega) (by decide), ?_⟩
  unfold wX10_reckonPart_134
  rcases arK3 (ks i) with c | c | c
  · have hk : ks i = 45 ∨ ks i = 15 ∨ ks i = 16 ∨ ks i = 17 ∨ ks i = 18 ∨ ks i = 19 ∨ ks i = 20 ∨ ks i = 22 := by
      unfold arK at c
      split at c
      · omega
      · split at c <;> cases c
    rw [evS0 c] at kk
    refine sm_asked hk (br_f (by decide) ⟨vp_in_nI (by omega) (by decide), sm_ask wt r h2 hz rc rd ru rf ro hk k3 (fun z => k2 c z) ⟨vp_in_nI (by omega) (by decide), ?_⟩⟩)
    rw [nI_clamp (by omega), nI_1, nI_1]
    exact kk _ (stk_push hs)
  · have hk : ks i = 46 ∨ ks i = 24 ∨ ks i = 21 ∨ ks i = 23 := by
      unfold arK at c
      split at c
      · cases c
      · split at c
        · assumption
        · cases c
    rcases bs with _ | ⟨b, rr⟩
    · rw [tyS1n c] at h; cases h
    · rcases vs with _ | ⟨x, vs⟩
      · exact hv.elim
      · rw [evS1 c] at kk
        have hl2 : vs.length < 400 := Nat.lt_of_succ_lt hl
        have el : (x :: vs).length = vs.length + 1 := rfl
        rw [el, nI_pred]
        have h01 : ks i = 24 → x = 0 ∨ x = 1 := by
          intro z
          rw [tyS1 c] at h
          by_cases q : b = (ks i == 24)
          · exact hv.1 (by rw [q, z]; rfl)
          · rw [if_neg q] at h; cases h
        refine sm_nasked (Or.inl hk) (br_t rfl (sm_ofOne hk (br_f (by decide) ⟨vp_in_nI (by omega) (by decide), ?_⟩)))
        rw [nI_clamp (by omega), hs.1, nI_1]
        exact sm_turned wt w r h2 hz hk h01 ⟨vp_in_nI (by omega) (by decide), kk _ (stk_rep hs)⟩
  · rcases bs with _ | ⟨cc, _ | ⟨b, rr⟩⟩
    · rw [tyS2n c] at h; cases h
    · rw [tyS2m c] at h; cases h
    · rcases vs with _ | ⟨y, _ | ⟨x, vs⟩⟩
      · exact hv.elim
      · exact hv.2.elim
      · rw [tyS2 c] at h
        rw [evS2 c] at kk
        have hl2 : (x :: vs).length < 400 := Nat.lt_of_succ_lt hl
        have hl3 : vs.length < 400 := Nat.lt_of_succ_lt hl2
        by_cases q : (b = cc) ∧ (b = (ks i == 25 || ks i == 26)) ∧ (ks i = 25 ∨ ks i = 26 ∨ ks i = 27 ∨ ks i = 28 ∨ (35 ≤ ks i ∧ ks i ≤ 43))
        · have hk := q.2.2
          have el : (y :: x :: vs).length = (vs.length + 1) + 1 := rfl
          rw [el, pk_m1, nI_pred]
          refine sm_nasked (Or.inr hk) (br_t rfl (sm_nofOne hk (br_t rfl ⟨vp_in_nI (by omega) (by decide), vp_in_nI (by omega) (by decide), ?_⟩)))
          rw [nI_clamp (by omega), nI_clamp (by omega), nI_1]
          have e1 : Ms vs.length = x := hs.2.1
          have e2 : Ms (vs.length + 1) = y := hs.1
          rw [e1, e2]
          exact sm_reckon2 hk ⟨vp_in_nI (by omega) (by decide), kk _ (stk_rep hs.2)⟩
        · rw [if_neg q] at h; cases h
theorem sm_reckon_loop {K : Int32 → (Nat → Int32) → Prop} (wt : wfT t) (w : wfS (tN t) a) (r : rM N a pr fa dy ca du sl) (h2 : ∀ f, fa f ≤ 2) (hz : ∀ f, tF t ≤ f → fa f = 0) (rc : rB (tF t) Qc (tCo t)) (rd : ∀ f, f < tF t → Qw f = tDe t f) (ru : rN (tF t) Qu (tCu t)) (rf : ∀ e, e < tE t → Qb e = tFr t e) (ro : ∀ e, e < tE t → Qe e = tTo t e) (hns : ns ≤ 400) (rk : rKm t ns ks ds Qo Qx)
    {p e : Nat} (hp : p < 32) (he : Qes p = nI e) (hen : e ≤ ns) : ∀ (d i : Nat) (Ms : Nat → Int32) (vs : List Int32) (bs bs2 : List Bool), i + d = e → tyR ks d i bs = some bs2 → vt vs bs → stk Ms vs → vs.length ≤ i →
    (∀ M', stk M' (evR t a pr fa dy sl ks ds d i vs) → wX10_reckonPart_12 K N (nI (tN t)) (nI (tM t)) Qb Qe (nI (tF t)) Qc Qu Qw Qbs Qes Qo Qx 1 M' (nI p) (nI (evR t a pr fa dy sl ks ds d i vs).length) (nI e)) →
    wX10_reckonPart_12 K N (nI (tN t)) (nI (tM t)) Qb Qe (nI (tF t)) Qc Qu Qw Qbs Qes Qo Qx (d + 1) Ms (nI p) (nI vs.length) (nI i) := by
  intro d
  induction d with
  | zero =>
    intro i Ms vs bs bs2 hi ht hv hs hl kk
    have : i = e := by omega
    subst this
    exact kk Ms hs
  | succ d ih =>
    intro i Ms vs bs bs2 hi ht hv hs hl kk
    obtain ⟨bs', h1, h3⟩ := tyR_succ ht
    exact sm_step wt w r h2 hz rc rd ru rf ro hns rk hp he (by omega) hen h1 hv hs (by omega) (fun M' hs' => ih (i + 1) M' _ bs' bs2 (by omega) h3 (vt_step h1 hv) hs' (Nat.le_trans (evS_len vs) (by omega)) kk)
theorem sm_reckonPart {K : Int32 → (Nat → Int32) → Prop} (wt : wfT t) (w : wfS (tN t) a) (r : rM N a pr fa dy ca du sl) (h2 : ∀ f, fa f ≤ 2) (hz : ∀ f, tF t ≤ f → fa f = 0) (rc : rB (tF t) Qc (tCo t)) (rd : ∀ f, f < tF t → Qw f = tDe t f) (ru : rN (tF t) Qu (tCu t)) (rf : ∀ e, e < tE t → Qb e = tFr t e) (ro : ∀ e, e < tE t → Qe e = tTo t e) (hns : ns ≤ 400) (rk : rKm t ns ks ds Qo Qx)
    {p s e : Nat} (hp : p < 32) (hb : Qbs p = nI s) (he : Qes p = nI e) (hs : s ≤ e) (hen : e ≤ ns) {b : Bool} (ht : tyR ks (e - s) s [] = some [b]) (kk : ∀ M', K (vR t a pr fa dy sl ks ds s e) M') : wX10_reckonPart N Ms (nI (tN t)) (nI (tM t)) Qb Qe (nI (tF t)) Qc Qu Qw Qbs Qes Qo Qx (nI p) K := by
  unfold wX10_reckonPart
  refine ⟨vp_in_nI hp (by decide), (e - s) + 1, ?_⟩
  rw [nI_clamp (by omega), hb]
  refine sm_reckon_loop wt w r h2 hz rc rd ru rf ro hns rk hp he hen (e - s) s Ms [] [] [b] (by omega) ht trivial trivial (Nat.zero_le _) (fun M' hs' => ?_)
  have h1 := (vR_one (t := t) (a := a) (pr := pr) (fa := fa) (dy := dy) (sl := sl) (ds := ds) ht).1
  rw [h1] at hs' ⊢
  unfold wX10_reckonPart_12
  refine ⟨vp_in_nI hp (by decide), ?_⟩
  rw [nI_clamp (by omega), he]
  refine br_t (nI_le (Nat.le_refl _) (by omega)) (bn_f (show ¬ nI 1 = 0 by decide) ⟨pk_in 0 800 (by omega), ?_⟩)
  have e0 : M' (0 : Int32).toNatClampNeg = vR t a pr fa dy sl ks ds s e := hs'.1
  rw [e0]
  exact kk M'
/-- no test: 1 -/
theorem sm_reckonNone {K : Int32 → (Nat → Int32) → Prop} {p s : Nat} {x1 x2 x3 : Int32} (hp : p < 32) (hs : s ≤ 400) (hb : Qbs p = nI s) (he : Qes p = nI s) (kk : K 1 Ms) : wX10_reckonPart N Ms x1 x2 Qb Qe x3 Qc Qu Qw Qbs Qes Qo Qx (nI p) K := by
  unfold wX10_reckonPart
  refine ⟨vp_in_nI hp (by decide), 1, ?_⟩
  rw [nI_clamp (by omega), hb]
  unfold wX10_reckonPart_12
  refine ⟨vp_in_nI hp (by decide), ?_⟩
  rw [nI_clamp (by omega), he]
  exact br_t (nI_le (Nat.le_refl _) (by omega)) (bn_t rfl kk)
end RECKM
