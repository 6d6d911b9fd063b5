/-! sums and tests reckoned, both -/
def evR (t : Tl) (a : Sg) (pr : Nat → Bool) (fa : Nat → Nat) (dy sl : Int32) (ks : Nat → Nat) (ds : Nat → Int32) : Nat → Nat → List Int32 → List Int32
  | 0, _, vs => vs
  | n + 1, i, vs => evR t a pr fa dy sl ks ds n (i + 1) (evS t a pr fa dy sl (ks i) (ds i) vs)
def tyR (ks : Nat → Nat) : Nat → Nat → List Bool → Option (List Bool)
  | 0, _, bs => some bs
  | n + 1, i, bs => match tyS (ks i) bs with
    | none => none
    | some bs' => tyR ks n (i + 1) bs'
theorem tyR_succ {ks : Nat → Nat} {n i : Nat} {bs bs2 : List Bool} (h : tyR ks (n + 1) i bs = some bs2) : ∃ bs', tyS (ks i) bs = some bs' ∧ tyR ks n (i + 1) bs' = some bs2 := by
  unfold tyR at h
  rcases e : tyS (ks i) bs with _ | bs'
  · rw [e] at h; cases h
  · rw [e] at h; exact ⟨bs', rfl, h⟩
theorem vt_run {t : Tl} {a : Sg} {pr : Nat → Bool} {fa : Nat → Nat} {dy sl : Int32} {ks : Nat → Nat} {ds : Nat → Int32} : ∀ (n i : Nat) (vs : List Int32) (bs bs2 : List Bool), tyR ks n i bs = some bs2 → vt vs bs → vt (evR t a pr fa dy sl ks ds n i vs) bs2 := by
  intro n
  induction n with
  | zero => intro i vs bs bs2 h hv; cases h; exact hv
  | succ n ih =>
    intro i vs bs bs2 h hv
    obtain ⟨bs', h1, h2⟩ := tyR_succ h
    exact ih (i + 1) _ bs' bs2 h2 (vt_step h1 hv)
theorem evS_len {t : Tl} {a : Sg} {pr : Nat → Bool} {fa : Nat → Nat} {dy sl : Int32} {k : Nat} {d : Int32} (vs : List Int32) : (evS t a pr fa dy sl k d vs).length ≤ vs.length + 1 := by
  rcases arK3 k with e | e | e
  · rw [evS0 e]; exact Nat.le_refl _
  · rcases vs with _ | ⟨x, vs⟩
    · unfold evS; rw [e]; exact Nat.zero_le _
    · rw [evS1 e]; simp only [List.length_cons]; omega
  · rcases vs with _ | ⟨y, _ | ⟨x, vs⟩⟩
    · unfold evS; rw [e]; exact Nat.zero_le _
    · unfold evS; rw [e]; simp
    · rw [evS2 e]; simp only [List.length_cons]; omega
/-- the value of a part of the code -/
def vR (t : Tl) (a : Sg) (pr : Nat → Bool) (fa : Nat → Nat) (dy sl : Int32) (ks : Nat → Nat) (ds : Nat → Int32) (s e : Nat) : Int32 := (evR t a pr fa dy sl ks ds (e - s) s []).headD 0
theorem vR_one {t : Tl} {a : Sg} {pr : Nat → Bool} {fa : Nat → Nat} {dy sl : Int32} {ks : Nat → Nat} {ds : Nat → Int32} {s e : Nat} {b : Bool} (h : tyR ks (e - s) s [] = some [b]) : evR t a pr fa dy sl ks ds (e - s) s [] = [vR t a pr fa dy sl ks ds s e] ∧ (b = true → vR t a pr fa dy sl ks ds s e = 0 ∨ vR t a pr fa dy sl ks ds s e = 1) := by
  have hv := vt_run (t := t) (a := a) (pr := pr) (fa := fa) (dy := dy) (sl := sl) (ds := ds) (e - s) s [] [] [b] h trivial
  unfold vR
  rcases q : evR t a pr fa dy sl ks ds (e - s) s [] with _ | ⟨x, _ | ⟨y, r⟩⟩
  · rw [q] at hv; exact hv.elim
  · rw [q] at hv; exact ⟨rfl, hv.1⟩
  · rw [q] at hv; exact hv.2.elim
def trK (k : Nat) : Nat := if k = 45 then 100 else if k = 46 then 105 else if 35 ≤ k ∧ k ≤ 38 then k + 66 else if 39 ≤ k ∧ k ≤ 43 then k + 67 else k
/-- the code's steps: as the class has them, as the model has them -/
def rKc (t : Tl) (ns : Nat) (ks : Nat → Nat) (ds Ks Ds : Nat → Int32) : Prop := ∀ i, i < ns → Ks i = nI (ks i) ∧ Ds i = ds i ∧ okD t (ks i) (ds i)
def rKm (t : Tl) (ns : Nat) (ks : Nat → Nat) (ds Qo Qw : Nat → Int32) : Prop := ∀ i, i < ns → Qo i = nI (trK (ks i)) ∧ (arK (ks i) = 0 → 19 ≤ ks i → Qw i = ds i) ∧ okD t (ks i) (ds i)
section RECKC
variable {P H U Fr To C De Ks Ds : Nat → Int32} {t : Tl} {a : Sg} {pr : Nat → Bool} {fa : Nat → Nat} {dy sl fc pc L : Int32} {ks : Nat → Nat} {ds : Nat → Int32} {ns : Nat}
theorem sz_reckon_loop {K : Int32 → ((Nat → Int32) × Int32) → Prop} (wt : wfT t) (w : wfS (tN t) a) (rc : rB (tF t) C (tCo t)) (rd : ∀ f, f < tF t → De f = tDe t f) (rf : ∀ e, e < tE t → Fr e = tFr t e) (ro : ∀ e, e < tE t → To e = tTo t e) (rh : rN 8 H a.2.1) (rU : rB 24 U (fun f => decide (fa f = 2))) (hfc : fc = nI (fb_ct (fun f => decide (1 ≤ fa f)) 24)) (hpc : pc = nI (fb_ct pr 8)) (hns : ns ≤ 400) (rk : rKc t ns ks ds Ks Ds)
    {e : Nat} (he : e ≤ ns) : ∀ (d i : Nat) (P : Nat → Int32) (vs : List Int32) (bs bs2 : List Bool), i + d = e → tyR ks d i bs = some bs2 → vt vs bs → stk P vs → vs.length ≤ i →
    (∀ P', stk P' (evR t a pr fa dy sl ks ds d i vs) → wX2_pull P' (nI (evR t a pr fa dy sl ks ds d i vs).length) (fun r u => K r (P', u))) →
    wX2_reckon_17 K (nI (tN t)) (nI (tE t)) (nI (tF t)) Fr To C De (nI ns) Ks Ds H U dy sl fc pc (d + 1) P (nI vs.length) (nI e) (nI i) := by
  intro d
  induction d with
  | zero =>
    intro i P vs bs bs2 hi ht hv hs hl kk
    have : i = e := by omega
    subst this
    unfold wX2_reckon_17
    exact br_t (nI_le (Nat.le_refl _) (by omega)) (kk P hs)
  | succ d ih =>
    intro i P vs bs bs2 hi ht hv hs hl kk
    obtain ⟨bs', h1, h2⟩ := tyR_succ ht
    obtain ⟨k1, k2, k3⟩ := rk i (by omega)
    unfold wX2_reckon_17
    refine br_f (nI_ge (by omega) (by omega)) ?_
    unfold wX1_stepKind wX1_stepDetail wX1_isStep
    refine br_f (nI_pos (by omega)) (br_f (nI_ge (by omega) (by omega)) (br_f (by decide) ⟨vp_in_nI (by omega) (by decide), ?_⟩))
    refine br_f (nI_pos (by omega)) (br_f (nI_ge (by omega) (by omega)) (br_f (by decide) ⟨vp_in_nI (by omega) (by decide), ?_⟩))
    rw [nI_clamp (by omega), k1, k2]
    refine sz_takeStep wt w rc rd rf ro rh rU hfc hpc h1 hv k3 hs (by omega) (fun P' hs' => ?_)
    rw [nI_1]
    exact ih (i + 1) P' _ bs' bs2 (by omega) h2 (vt_step h1 hv) hs' (Nat.le_trans (evS_len vs) (by omega)) kk
theorem sz_reckon {K : Int32 → ((Nat → Int32) × Int32) → Prop} (wt : wfT t) (w : wfS (tN t) a) (rc : rB (tF t) C (tCo t)) (rd : ∀ f, f < tF t → De f = tDe t f) (rf : ∀ e, e < tE t → Fr e = tFr t e) (ro : ∀ e, e < tE t → To e = tTo t e) (rh : rN 8 H a.2.1) (rU : rB 24 U (fun f => decide (fa f = 2))) (hfc : fc = nI (fb_ct (fun f => decide (1 ≤ fa f)) 24)) (hpc : pc = nI (fb_ct pr 8)) (hns : ns ≤ 400) (rk : rKc t ns ks ds Ks Ds)
    {s e : Nat} (hs : s ≤ e) (he : e ≤ ns) {b : Bool} (ht : tyR ks (e - s) s [] = some [b]) (kk : ∀ P', K (vR t a pr fa dy sl ks ds s e) (P', 0)) : wX2_reckon (nI (tN t)) (nI (tE t)) (nI (tF t)) Fr To C De (nI ns) Ks Ds P L H U dy sl fc pc (nI s) (nI e) K := by
  unfold wX2_reckon
  refine ⟨(e - s) + 1, ?_⟩
  refine sz_reckon_loop wt w rc rd rf ro rh rU hfc hpc hns rk he (e - s) s P [] [] [b] (by omega) ht trivial trivial (Nat.zero_le _) (fun P' hs' => ?_)
  have h1 := (vR_one (t := t) (a := a) (pr := pr) (fa := fa) (dy := dy) (sl := sl) (ds := ds) ht).1
  rw [h1] at hs' ⊢
  exact sz_pull (vs := []) (by decide) hs' (kk P')
end RECKC
section RECKM
variable {Ms N Qc Qu Qw Qb Qe Qo Qx Qbs Qes : Nat → Int32} {t : Tl} {a : Sg} {pr : Nat → Bool} {fa : Nat → Nat} {dy ca du sl : Int32} {ks : Nat → Nat} {ds : Nat → Int32} {ns : Nat}
end RECKM
