/-! digging: the class's digSeat, the model's digs -/
theorem va_up_same {α : Type} (p : Nat → α) (f : Nat) : va_up p f (p f) = p := by
  funext j
  unfold va_up
  split
  · next e => rw [e]
  · rfl
theorem ct_up {p : Nat → Bool} {i n : Nat} (hi : i < n) (hp : p i = false) : fb_ct (va_up p i true) n = fb_ct p n + 1 := by
  have h := fb_ct_upd p true hi
  rw [hp] at h
  simp only [if_true] at h
  exact h
theorem ct_dn {p : Nat → Bool} {i n : Nat} (hi : i < n) (hp : p i = true) : fb_ct (va_up p i false) n + 1 = fb_ct p n := by
  have h := fb_ct_upd p false hi
  rw [hp] at h
  simp only [if_true] at h
  exact h
theorem up_1 (fa : Nat → Nat) (f v : Nat) : (fun g => decide (1 ≤ va_up fa f v g)) = va_up (fun g => decide (1 ≤ fa g)) f (decide (1 ≤ v)) := by
  funext g
  unfold va_up
  split <;> rfl
theorem up_2 (fa : Nat → Nat) (f v : Nat) : (fun g => decide (va_up fa f v g = 2)) = va_up (fun g => decide (fa g = 2)) f (decide (v = 2)) := by
  funext g
  unfold va_up
  split <;> rfl
/-- a find's fate noted -/
def ntF (fa : Nat → Nat) (o : Option Nat) (b : Bool) : Nat → Nat :=
  match o with
  | none => fa
  | some f => va_up fa f (if b = true then 2 else 1)
section DIG
variable {S H L P F U Ti Ts : Nat → Int32} {fc sc pc dug sl : Int32} {a : Sg} {pr : Nat → Bool} {fa : Nat → Nat} {t : Tl}
theorem sz_noteFind {K : ((Nat → Int32) × (Nat → Int32) × Int32 × Int32) → Prop} (rF : rB 24 F (fun f => decide (1 ≤ fa f))) (rU : rB 24 U (fun f => decide (fa f = 2))) (hf : fc = nI (fb_ct (fun f => decide (1 ≤ fa f)) 24)) (hs : sc = nI (fb_ct (fun f => decide (fa f = 2)) 24)) (o : Option Nat) (ho : ∀ f, o = some f → f < 24 ∧ fa f = 0) (b : Bool)
    (k : ∀ F' U' fc' sc', rB 24 F' (fun f => decide (1 ≤ ntF fa o b f)) → rB 24 U' (fun f => decide (ntF fa o b f = 2)) → fc' = nI (fb_ct (fun f => decide (1 ≤ ntF fa o b f)) 24) → sc' = nI (fb_ct (fun f => decide (ntF fa o b f = 2)) 24) → K (F', U', fc', sc')) : wX4_noteFind F U fc sc (fI o) (zB1w b) K := by
  unfold wX4_noteFind
  rcases o with _ | f
  · exact br_t (show (-1 : Int32) < 0 by decide) (k F U fc sc rF rU hf hs)
  · obtain ⟨h1, h2⟩ := ho f rfl
    show (nI f < 0 → _) ∧ (¬ nI f < 0 → _)
    refine br_f (nI_pos (by omega)) (br_t (nI_lt h1 (by decide)) ⟨vp_in_nI h1 (by decide), ?_⟩)
    have e1 : decide (1 ≤ fa f) = false := by rw [h2]; rfl
    have e2 : decide (fa f = 2) = false := by rw [h2]; rfl
    show (zB1w b = 0 → K (upd F (nI f).toNatClampNeg 1, U, fc + 1, sc)) ∧ (¬ zB1w b = 0 → vp_in (nI f) 24 ∧ K (upd F (nI f).toNatClampNeg 1, upd U (nI f).toNatClampNeg 1, fc + 1, sc + 1))
    rw [nI_clamp (by omega)]
    refine bz rfl (fun e => ?_) (fun e => ⟨vp_in_nI h1 (by decide), ?_⟩)
    · subst e
      refine k _ _ _ _ ?_ ?_ ?_ ?_
      · show rB 24 _ (fun g => decide (1 ≤ va_up fa f 1 g))
        rw [up_1]; exact rB_t rF f
      · show rB 24 _ (fun g => decide (va_up fa f 1 g = 2))
        rw [up_2]
        have : va_up (fun g => decide (fa g = 2)) f (decide (1 = 2)) = fun g => decide (fa g = 2) := by
          have h := va_up_same (fun g => decide (fa g = 2)) f
          simp only [e2] at h
          exact h
        rw [this]; exact rU
      · show _ = nI (fb_ct (fun g => decide (1 ≤ va_up fa f 1 g)) 24)
        rw [up_1, show decide (1 ≤ 1) = true from rfl, ct_up h1 e1, hf, nI_succ]
      · show _ = nI (fb_ct (fun g => decide (va_up fa f 1 g = 2)) 24)
        rw [up_2]
        have : va_up (fun g => decide (fa g = 2)) f (decide (1 = 2)) = fun g => decide (fa g = 2) := by
          have h := va_up_same (fun g => decide (fa g = 2)) f
          simp only [e2] at h
          exact h
        rw [this]; exact hs
    · subst e
      refine k _ _ _ _ ?_ ?_ ?_ ?_
      · show rB 24 _ (fun g => decide (1 ≤ va_up fa f 2 g))
        rw [up_1]; exact rB_t rF f
      · show rB 24 _ (fun g => decide (va_up fa f 2 g = 2))
        rw [up_2]; exact rB_t rU f
      · show _ = nI (fb_ct (fun g => decide (1 ≤ va_up fa f 2 g)) 24)
        rw [up_1, show decide (1 ≤ 2) = true from rfl, ct_up h1 e1, hf, nI_succ]
      · show _ = nI (fb_ct (fun g => decide (va_up fa f 2 g = 2)) 24)
        rw [up_2, show decide (2 = 2) = true from rfl, ct_up h1 e2, hs, nI_succ]
theorem ntF_dgF (s : Nat) : ntF fa (tFi t (tp a s)) (!a.2.2 (tp a s)) = dgF t a fa s := by
  unfold ntF dgF
  rcases tFi t (tp a s) with _ | f
  · rfl
  · show va_up fa f _ = va_up fa f _
    cases a.2.2 (tp a s) <;> rfl
theorem sz_digSeat {K : Int32 → ((Nat → Int32) × (Nat → Int32) × (Nat → Int32) × (Nat → Int32) × (Nat → Int32) × Int32 × Int32 × Int32 × Int32) → Prop} (wt : wfT t) (w : wfG t a pr fa) (hTi : ∀ c, c < 80 → Ti c = fI (tFi t c)) (hTs : rB 80 Ts (tSp t)) (r : rS S H L P F U fc sc pc a pr fa) {s : Nat} (hs : s < tN t) (h0 : 0 < a.2.1 s) {k : Nat} {b : Sg} (hst : Stl (tSp t) pr (tN t) k (dg1 a s) b) (hk : k ≤ 800)
    (kk : ∀ S' H' L' F' U' fc' sc', rS S' H' L' P F' U' fc' sc' pc b pr (dgF t a fa s) → K (fI (tFi t (tp a s))) (S', H', L', F', U', dug + 1, sl + nI k, fc', sc')) : wX4_digSeat (nI (tN t)) Ti Ts S H L P F U dug sl fc sc (nI s) K := by
  obtain ⟨rs, rh, rl, rp, rF, rU, hf, hsc, hpc⟩ := r
  have n8 := wt.1.2
  have wS := w.1
  have h8 : ∀ s, 8 ≤ s → a.2.1 s = 0 := fun s z => wS.2.1 s (by omega)
  have b1 := wS.1 s
  have hc : tp a s < 80 := wS.2.2 s _ (by omega)
  have hwd := (wfG_dg wt w hs h0).1
  have ho : ∀ f, tFi t (tp a s) = some f → f < 24 ∧ fa f = 0 := fun f e => ⟨by have := (wt.2.2.2.2.2.1 _ _ hc e).1; have := wt.2.2.2.1; omega, w.2.1 s (a.2.1 s - 1) f (by omega) e⟩
  unfold wX4_digSeat
  refine sz_topOf rs rh (by omega) h0 b1 h8 (sz_findIn hc ?_)
  have hc2 : a.1 (s * 10 + (a.2.1 s - 1)) = tp a s := rfl
  rw [hc2, hTi _ hc]
  refine br_f (nI_nm (by omega)) (sz_heightAt rh h8 (by omega) (br_f (nI_nle h0 (by omega)) ⟨vp_in_nI (by omega) (by decide), vp_in_nI (by omega) (by decide), ?_⟩))
  rw [nI_clamp (by omega), rh s (by omega), nI_dec h0]
  have go : ∀ q : Bool, q = (!a.2.2 (tp a s)) → wX4_digSeat_63 K (nI (tN t)) Ti Ts P S (upd H s (nI (a.2.1 s - 1))) L F U (dug + 1) sl fc sc (fI (tFi t (tp a s))) (zB1w q) (fI (tFi t (tp a s))) := by
    intro q hq
    subst hq
    unfold wX4_digSeat_63
    refine sz_noteFind rF rU hf hsc (tFi t (tp a s)) ho _ (fun F' U' fc' sc' q1 q2 q3 q4 => ?_)
    rw [ntF_dgF] at q1 q2 q3 q4
    refine sz_settle n8 rp hTs hst hk hwd rs (rN_up rh s (a.2.1 s - 1)) rl (fun S' H' L' p1 p2 p3 => ?_)
    exact kk S' H' L' F' U' fc' sc' ⟨p1, p2, p3, rp, q1, q2, q3, q4, hpc⟩
  refine sz_isLoose rl hc (bz' rfl (fun e => ?_) (fun e => ?_))
  · exact go true (by rw [e]; rfl)
  · exact go false (by rw [e]; rfl)
end DIG
section DIGM
variable {N Qs Qf : Nat → Int32} {a : Sg} {pr : Nat → Bool} {fa : Nat → Nat} {dy ca du sl : Int32} {t : Tl}
theorem rM_dg (r : rM N a pr fa dy ca du sl) {s : Nat} (hs : s < 8) : rM (upd N (5 + s) (nI (a.2.1 s - 1))) (dg1 a s) pr fa dy ca du sl := by
  obtain ⟨r1, r2, r3, r4, r5, r6, r7, r8, r9⟩ := r
  refine ⟨fun x hx => ?_, fun x j hx hj => ?_, fun c hc => by rw [un (by omega)]; exact r3 c hc, fun f hf => by rw [un (by omega)]; exact r4 f hf, by rw [un (by omega)]; exact r5, by rw [un (by omega)]; exact r6, by rw [un (by omega)]; exact r7, by rw [un (by omega)]; exact r8, by rw [un (by omega)]; exact r9⟩
  · show _ = nI (va_up a.2.1 s (a.2.1 s - 1) x)
    by_cases e : x = s
    · subst e
      rw [us, va_up_self]
    · rw [un (by omega), va_up_ne _ _ e]
      exact r1 x hx
  · have hj : j < va_up a.2.1 s (a.2.1 s - 1) x := hj
    rw [un (by omega)]
    apply r2 x j hx
    by_cases e : x = s
    · subst e
      rw [va_up_self] at hj
      omega
    · rw [va_up_ne _ _ e] at hj
      exact hj
end DIGM
