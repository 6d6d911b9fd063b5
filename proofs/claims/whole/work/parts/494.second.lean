/-! the model's second look, over the tokens -/
abbrev S2 := (Nat → Int32) × Int32 × Int32 × Int32 × Int32 × Int32 × (Nat → Int64) × (Nat → Int32) × (Nat → Int32) × Int32 × (Nat → Int32) × (Nat → Int32) × (Nat → Int32) × (Nat → Int32) × (Nat → Int32) × Int32
abbrev RKt := Int32 × (Nat → Int32) × (Nat → Int32) × (Nat → Int32) × (Nat → Int64) × (Nat → Int32) × Int32 × Int32 × Int32 × Int32 × Int32 × Int32 × Int32 × Int32 × (Nat → Int64) × (Nat → Int32) × (Nat → Int32) × Int32 × (Nat → Int32) × (Nat → Int32) × (Nat → Int32) × (Nat → Int32) × (Nat → Int32) × Int32 × (Nat → Int32) × (Nat → Int32) × (Nat → Int32) × (Nat → Int32) × (Nat → Int32) × Int32
def P2 (K : Int32 → (Int32 × (Nat → Int32) × (Nat → Int32) × (Nat → Int32) × (Nat → Int64) × (Nat → Int32) × Int32 × Int32 × Int32 × Int32 × Int32 × Int32 × Int32 × Int32 × (Nat → Int64) × (Nat → Int32) × (Nat → Int32) × Int32 × (Nat → Int32) × (Nat → Int32) × (Nat → Int32) × (Nat → Int32) × (Nat → Int32) × Int32 × (Nat → Int32) × (Nat → Int32) × (Nat → Int32) × (Nat → Int32) × (Nat → Int32) × Int32) → Prop) (tp : (Nat → Int32)) (sz ea : Int32) (mk fr me : (Nat → Int32)) (va : (Nat → Int64)) (T : Nat) (dp od : Int32) (gd gb ge go gw : (Nat → Int32)) (gm : Int32) (u : S2) (k : Nat) : Prop := wX10_read_44 K tp sz (T + 1 - k) ea mk fr me va u.1 (nI T) dp od u.2.1 u.2.2.1 u.2.2.2.1 u.2.2.2.2.1 u.2.2.2.2.2.1 u.2.2.2.2.2.2.1 u.2.2.2.2.2.2.2.1 u.2.2.2.2.2.2.2.2.1 u.2.2.2.2.2.2.2.2.2.1 u.2.2.2.2.2.2.2.2.2.2.1 u.2.2.2.2.2.2.2.2.2.2.2.1 u.2.2.2.2.2.2.2.2.2.2.2.2.1 u.2.2.2.2.2.2.2.2.2.2.2.2.2.1 u.2.2.2.2.2.2.2.2.2.2.2.2.2.2.1 u.2.2.2.2.2.2.2.2.2.2.2.2.2.2.2 gd gb ge go gw gm (nI k)
def Q2 (K : Int32 → (Int32 × (Nat → Int32) × (Nat → Int32) × (Nat → Int32) × (Nat → Int64) × (Nat → Int32) × Int32 × Int32 × Int32 × Int32 × Int32 × Int32 × Int32 × Int32 × (Nat → Int64) × (Nat → Int32) × (Nat → Int32) × Int32 × (Nat → Int32) × (Nat → Int32) × (Nat → Int32) × (Nat → Int32) × (Nat → Int32) × Int32 × (Nat → Int32) × (Nat → Int32) × (Nat → Int32) × (Nat → Int32) × (Nat → Int32) × Int32) → Prop) (tp : (Nat → Int32)) (sz ea : Int32) (mk fr me : (Nat → Int32)) (va : (Nat → Int64)) (T : Nat) (dp od : Int32) (gd gb ge go gw : (Nat → Int32)) (gm : Int32) (k : Nat) : Int32 → S2 → Prop := fun r2 u2 => (¬ r2 = 0 → vp_in (nI k) 401 ∧ (K r2 (fr (nI k).toNatClampNeg, mk, fr, me, va, u2.1, nI T, dp, od, u2.2.1, u2.2.2.1, u2.2.2.2.1, u2.2.2.2.2.1, u2.2.2.2.2.2.1, u2.2.2.2.2.2.2.1, u2.2.2.2.2.2.2.2.1, u2.2.2.2.2.2.2.2.2.1, u2.2.2.2.2.2.2.2.2.2.1, u2.2.2.2.2.2.2.2.2.2.2.1, u2.2.2.2.2.2.2.2.2.2.2.2.1, u2.2.2.2.2.2.2.2.2.2.2.2.2.1, u2.2.2.2.2.2.2.2.2.2.2.2.2.2.1, u2.2.2.2.2.2.2.2.2.2.2.2.2.2.2.1, u2.2.2.2.2.2.2.2.2.2.2.2.2.2.2.2, gd, gb, ge, go, gw, gm))) ∧ (r2 = 0 → P2 K tp sz ea mk fr me va T dp od gd gb ge go gw gm u2 (k + 1))
def KE (K : Int32 → RKt → Prop) (e : Int32 × Int32) : Prop := ∀ R, K e.1 (e.2, R)
theorem lgc3 (x y : Int64) : (lg_cmp x y < 0 ↔ x < y) ∧ (0 < lg_cmp x y ↔ y < x) ∧ (lg_cmp x y ≤ 0 ↔ x ≤ y) ∧ (0 ≤ lg_cmp x y ↔ y ≤ x) := by
  unfold lg_cmp
  rcases Int.lt_trichotomy x.toInt y.toInt with h | h | h
  · have h1 : x < y := (fa_lt64 x y).2 h
    have h2 : ¬ x = y := fun e => by subst e; omega
    have h3 : ¬ y < x := fun e => by have := (fa_lt64 y x).1 e; omega
    have h4 : x ≤ y := (fa_le64 x y).2 (by omega)
    have h5 : ¬ y ≤ x := fun e => by have := (fa_le64 y x).1 e; omega
    simp only [h1, h2, h3, h4, h5, if_true, if_false]
    decide
  · have e : x = y := (fa_eq64 x y).2 h
    subst e
    have h3 : ¬ x < x := fun e => by have := (fa_lt64 x x).1 e; omega
    have h4 : x ≤ x := (fa_le64 x x).2 (by omega)
    simp only [h3, h4, if_true, if_false]
    decide
  · have h1 : y < x := (fa_lt64 y x).2 h
    have h2 : ¬ x = y := fun e => by subst e; omega
    have h3 : ¬ x < y := fun e => by have := (fa_lt64 x y).1 e; omega
    have h4 : y ≤ x := (fa_le64 y x).2 (by omega)
    have h5 : ¬ x ≤ y := fun e => by have := (fa_le64 x y).1 e; omega
    simp only [h1, h2, h3, h4, h5, if_true, if_false]
    decide
theorem ck_t {x : Tn} {b : Bool} {c : Int32} {p : Nat} {e : Int32 × Int32} (h : e.1 = 0) (hb : b = true) : ck x b c p e = (c, nI (sN x p)) := if_pos ⟨h, hb⟩
section SECOND
variable {x : Tn}  {K : Int32 → (Int32 × (Nat → Int32) × (Nat → Int32) × (Nat → Int32) × (Nat → Int64) × (Nat → Int32) × Int32 × Int32 × Int32 × Int32 × Int32 × Int32 × Int32 × Int32 × (Nat → Int64) × (Nat → Int32) × (Nat → Int32) × Int32 × (Nat → Int32) × (Nat → Int32) × (Nat → Int32) × (Nat → Int32) × (Nat → Int32) × Int32 × (Nat → Int32) × (Nat → Int32) × (Nat → Int32) × (Nat → Int32) × (Nat → Int32) × Int32) → Prop} {tp : (Nat → Int32)} {sz ea : Int32} {mk fr me : (Nat → Int32)} {va : (Nat → Int64)} {T : Nat} {dp od : Int32} {gd gb ge go gw : (Nat → Int32)} {gm : Int32} {k : Nat} {u : S2}
theorem p2_step (hT : T ≤ 400) (hk : k < T) (h : wX10_errorOf mk me va u.1 u.2.1 u.2.2.1 u.2.2.2.1 u.2.2.2.2.1 u.2.2.2.2.2.1 u.2.2.2.2.2.2.1 u.2.2.2.2.2.2.2.1 u.2.2.2.2.2.2.2.2.1 u.2.2.2.2.2.2.2.2.2.1 u.2.2.2.2.2.2.2.2.2.2.1 u.2.2.2.2.2.2.2.2.2.2.2.1 u.2.2.2.2.2.2.2.2.2.2.2.2.1 u.2.2.2.2.2.2.2.2.2.2.2.2.2.1 u.2.2.2.2.2.2.2.2.2.2.2.2.2.2.1 u.2.2.2.2.2.2.2.2.2.2.2.2.2.2.2 (nI k) (Q2 K tp sz ea mk fr me va T dp od gd gb ge go gw gm k)) : P2 K tp sz ea mk fr me va T dp od gd gb ge go gw gm u k := by
  obtain ⟨j, hj⟩ : ∃ j, T + 1 - k = j + 1 := ⟨T - k, by omega⟩
  have hj2 : T + 1 - (k + 1) = j := by omega
  unfold P2
  rw [hj]
  unfold wX10_read_44
  refine br_f (nI_ge hk (by omega)) ?_
  unfold Q2 P2 at h
  rw [hj2] at h
  rw [nI_1]
  exact h
theorem p2_stepT (hT : T ≤ 400) (hk : k < T) {wh be en gIs gCu gWh gFi gSp : (Nat → Int32)} {em : (Nat → Int64)} {isS itS gs gst gE gF gO : Int32} (h : wX10_errorOf mk me va wh isS itS gs gst gE em be en gF gIs gCu gWh gFi gSp gO (nI k) (Q2 K tp sz ea mk fr me va T dp od gd gb ge go gw gm k)) : P2 K tp sz ea mk fr me va T dp od gd gb ge go gw gm (wh, isS, itS, gs, gst, gE, em, be, en, gF, gIs, gCu, gWh, gFi, gSp, gO) k := p2_step hT hk h
theorem q2_err (hk : k < 401) (hs : fr k = nI (sN x k)) {r : Int32} (hr : r ≠ 0) (h : KE K (r, nI (sN x k))) {u2 : S2} : Q2 K tp sz ea mk fr me va T dp od gd gb ge go gw gm k r u2 := by
  unfold Q2
  refine ⟨fun _ => ⟨vp_in_nI hk (by decide), ?_⟩, fun z => absurd z hr⟩
  rw [nI_clamp (by omega), hs]
  exact h _
theorem q2_ok {u2 : S2} (h : P2 K tp sz ea mk fr me va T dp od gd gb ge go gw gm u2 (k + 1)) : Q2 K tp sz ea mk fr me va T dp od gd gb ge go gw gm k 0 u2 := by
  unfold Q2
  exact ⟨fun z => absurd rfl z, fun _ => h⟩
variable {wh be en gIs gCu gWh gFi gSp : (Nat → Int32)} {em : (Nat → Int64)} {isS itS gs gst gE gF gO : Int32}
theorem p2_0 (hT : T ≤ 400) (hk : k < T) (hme : me k = nI 0) (h : P2 K tp sz ea mk fr me va T dp od gd gb ge go gw gm u (k + 1)) : P2 K tp sz ea mk fr me va T dp od gd gb ge go gw gm u k := by
  refine p2_step hT hk ?_
  unfold wX10_errorOf
  rw [nI_clamp (n := k) (by omega), hme]
  refine ⟨vp_in_nI (by omega) (by decide), ⟨fun _ => ?_, fun z => absurd z (by decide), fun z => absurd z (by decide), fun z => absurd z (by decide), fun z => absurd z (by decide), fun z => absurd z (by decide), fun z => absurd z (by decide), fun z => absurd z (by decide), fun z => absurd z (by decide), fun z => absurd z (by decide), fun z => absurd z (by decide), fun z0 _ _ _ _ _ _ _ _ _ _ => absurd rfl z0⟩⟩
  exact q2_ok h
theorem p2_seats (hT : T ≤ 400) (hk : k < T) (hme : me k = nI 1) (hs : fr k = nI (sN x k)) {v : Nat} (hv : va k = lN v) (v6 : v < 1000000) (h1 : (decide (v < 2) || decide (8 < v)) = true → KE K (5, nI (sN x k))) (h0 : (decide (v < 2) || decide (8 < v)) = false → P2 K tp sz ea mk fr me va T dp od gd gb ge go gw gm (wh, isS, itS, nI v, gst, gE, em, be, en, gF, gIs, gCu, gWh, gFi, gSp, gO) (k + 1)) : P2 K tp sz ea mk fr me va T dp od gd gb ge go gw gm (wh, isS, itS, gs, gst, gE, em, be, en, gF, gIs, gCu, gWh, gFi, gSp, gO) k := by
  refine p2_stepT hT hk ?_
  unfold wX10_errorOf
  rw [nI_clamp (n := k) (by omega), hme]
  refine ⟨vp_in_nI (by omega) (by decide), ⟨fun z => absurd z (by decide), fun _ => ?_, fun z => absurd z (by decide), fun z => absurd z (by decide), fun z => absurd z (by decide), fun z => absurd z (by decide), fun z => absurd z (by decide), fun z => absurd z (by decide), fun z => absurd z (by decide), fun z => absurd z (by decide), fun z => absurd z (by decide), fun _ z1 _ _ _ _ _ _ _ _ _ => absurd rfl z1⟩⟩
  refine ⟨vp_in_nI (by omega) (by decide), ?_⟩
  rw [hv]
  unfold wX10_itsSeats
  have c2 := (lgc3 (lN v) 2).1.trans (pk_lLT (a := v) (b := 2) (by omega) (by decide))
  have c8 := (lgc3 (lN v) 8).2.2.1.trans (pk_lLE (a := v) (b := 8) (by omega) (by decide))
  refine ⟨fun z => q2_err (by omega) hs (by decide) (h1 (by rw [decide_eq_true (c2.1 z)]; rfl)), fun z => ⟨fun y => ?_, fun y => q2_err (by omega) hs (by decide) (h1 (by rw [decide_eq_true (p := 8 < v) (by have : ¬ v ≤ 8 := fun t => y (c8.2 t); omega), Bool.or_true]))⟩⟩
  have z2 := fun t => z (c2.2 t)
  have y2 := c8.1 y
  rw [lN_i]
  exact q2_ok (h0 (by rw [decide_eq_false z2, decide_eq_false (by omega)]; rfl))
theorem p2_layers (hT : T ≤ 400) (hk : k < T) (hme : me k = nI 2) (hs : fr k = nI (sN x k)) {v : Nat} (hv : va k = lN v) (v6 : v < 1000000) (h1 : (decide (v < 2) || decide (10 < v)) = true → KE K (5, nI (sN x k))) (h0 : (decide (v < 2) || decide (10 < v)) = false → P2 K tp sz ea mk fr me va T dp od gd gb ge go gw gm (wh, isS, itS, gs, nI v, gE, em, be, en, gF, gIs, gCu, gWh, gFi, gSp, gO) (k + 1)) : P2 K tp sz ea mk fr me va T dp od gd gb ge go gw gm (wh, isS, itS, gs, gst, gE, em, be, en, gF, gIs, gCu, gWh, gFi, gSp, gO) k := by
  refine p2_stepT hT hk ?_
  unfold wX10_errorOf
  rw [nI_clamp (n := k) (by omega), hme]
  refine ⟨vp_in_nI (by omega) (by decide), ⟨fun z => absurd z (by decide), fun z => absurd z (by decide), fun _ => ?_, fun z => absurd z (by decide), fun z => absurd z (by decide), fun z => absurd z (by decide), fun z => absurd z (by decide), fun z => absurd z (by decide), fun z => absurd z (by decide), fun z => absurd z (by decide), fun z => absurd z (by decide), fun _ _ z2 _ _ _ _ _ _ _ _ => absurd rfl z2⟩⟩
  refine ⟨vp_in_nI (by omega) (by decide), ?_⟩
  rw [hv]
  unfold wX10_itsLayers
  have c2 := (lgc3 (lN v) 2).1.trans (pk_lLT (a := v) (b := 2) (by omega) (by decide))
  have c8 := (lgc3 (lN v) 10).2.2.1.trans (pk_lLE (a := v) (b := 10) (by omega) (by decide))
  refine ⟨fun z => q2_err (by omega) hs (by decide) (h1 (by rw [decide_eq_true (c2.1 z)]; rfl)), fun z => ⟨fun y => ?_, fun y => q2_err (by omega) hs (by decide) (h1 (by rw [decide_eq_true (p := 10 < v) (by have : ¬ v ≤ 10 := fun t => y (c8.2 t); omega), Bool.or_true]))⟩⟩
  have z2 := fun t => z (c2.2 t)
  have y2 := c8.1 y
  rw [lN_i]
  exact q2_ok (h0 (by rw [decide_eq_false z2, decide_eq_false (by omega)]; rfl))
theorem s_find {E : Nat} (hE : E ≤ 6) {v : Int64} {Q : Int32 → Unit → Prop} (kk : Q (fI (emF em v E)) ()) : wX10_find (nI E) em v Q := by
  unfold wX10_find
  refine pk_loop (fun n i (_ : Unit) => wX10_find_2 Q (nI E) em n v (nI i)) (fun i _ => ∀ j, j < i → em j ≠ v) E 0 () (Nat.zero_le _) (fun j h => absurd h (Nat.not_lt_zero j)) (fun n _ hy => ?_) (fun n i _ hi hy ih => ?_)
  · unfold wX10_find_2
    refine br_t (nI_le (Nat.le_refl E) (by omega)) ?_
    rcases e : emF em v E with _ | k
    · rw [e] at kk; exact kk
    · have t := emF_some e
      exact absurd t.2.1 (hy k t.1)
  · unfold wX10_find_2
    refine br_f (nI_ge hi (by omega)) ⟨vp_in_nI (by omega) (by decide), ?_⟩
    rw [nI_clamp (by omega)]
    refine ⟨fun z => ?_, fun z => ?_⟩
    · rw [nI_1]
      refine ih () (fun j hj => ?_)
      rcases Nat.lt_or_ge j i with y | y
      · exact hy j y
      · have : j = i := by omega
        subst this
        exact fun w => z ((lgc _ _).2 w)
    · have hw := (lgc _ _).1 z
      have e : emF em v E = some i := by
        rcases e : emF em v E with _ | k
        · exact absurd hw (emF_none e i hi)
        · have t := emF_some e
          rcases Nat.lt_trichotomy i k with y | y | y
          · exact absurd hw (t.2.2 i y)
          · rw [y]
          · exact absurd t.2.1 (hy k y)
      rw [e] at kk; exact kk
theorem p2_name (hT : T ≤ 400) (hk : k < T) (hme : me k = nI 3) (hs : fr k = nI (sN x k)) {E : Nat} (hE : E ≤ 6) (h2 : (emF em (va k) E).isSome = true → KE K (2, nI (sN x k))) (h4 : (emF em (va k) E).isSome = false → E = 6 → KE K (4, nI (sN x k))) (h0 : (emF em (va k) E).isSome = false → E < 6 → P2 K tp sz ea mk fr me va T dp od gd gb ge go gw gm (wh, isS, itS, gs, gst, nI (E + 1), vp_updL em E (va k), be, en, gF, gIs, gCu, gWh, gFi, gSp, gO) (k + 1)) : P2 K tp sz ea mk fr me va T dp od gd gb ge go gw gm (wh, isS, itS, gs, gst, nI E, em, be, en, gF, gIs, gCu, gWh, gFi, gSp, gO) k := by
  refine p2_stepT hT hk ?_
  unfold wX10_errorOf
  rw [nI_clamp (n := k) (by omega), hme]
  refine ⟨vp_in_nI (by omega) (by decide), ⟨fun z => absurd z (by decide), fun z => absurd z (by decide), fun z => absurd z (by decide), fun _ => ?_, fun z => absurd z (by decide), fun z => absurd z (by decide), fun z => absurd z (by decide), fun z => absurd z (by decide), fun z => absurd z (by decide), fun z => absurd z (by decide), fun z => absurd z (by decide), fun _ _ _ z3 _ _ _ _ _ _ _ => absurd rfl z3⟩⟩
  refine ⟨vp_in_nI (by omega) (by decide), ?_⟩
  have m1 := fI_m1 (o := emF em (va k) E) (fun e z => by have := (emF_some z).1; omega)
  unfold wX10_newEmpire
  refine s_find hE ⟨fun z => ?_, fun z => ?_⟩
  · have hn := m1.1 z
    have hf : (emF em (va k) E).isSome = false := by
      rw [Option.isNone_iff_eq_none.1 hn]; rfl
    refine (pk_eq E 6 (fun y => q2_err (by omega) hs (by decide) (h4 hf y)) (fun y => ⟨vp_in_nI (by omega) (by decide), ?_⟩)).symm
    rw [nI_1, nI_clamp (n := E) (by omega)]
    exact q2_ok (h0 hf (by omega))
  · refine q2_err (by omega) hs (by decide) (h2 ?_)
    cases q : emF em (va k) E
    · exact absurd (m1.2 (by rw [q]; rfl)) z
    · rfl
theorem p2_from (hT : T ≤ 400) (hk : k < T) (hme : me k = nI 4) (hs : fr k = nI (sN x k)) {E v : Nat} (hE : E < 6) (hv : va k = lN v) (v6 : v < 1000000) (h1 : (decide (v < 0) || decide (999 < v)) = true → KE K (5, nI (sN x k))) (h0 : (decide (v < 0) || decide (999 < v)) = false → P2 K tp sz ea mk fr me va T dp od gd gb ge go gw gm (wh, isS, itS, gs, gst, nI (E + 1), em, upd be E (nI v), en, gF, gIs, gCu, gWh, gFi, gSp, gO) (k + 1)) : P2 K tp sz ea mk fr me va T dp od gd gb ge go gw gm (wh, isS, itS, gs, gst, nI (E + 1), em, be, en, gF, gIs, gCu, gWh, gFi, gSp, gO) k := by
  refine p2_stepT hT hk ?_
  unfold wX10_errorOf
  rw [nI_clamp (n := k) (by omega), hme]
  refine ⟨vp_in_nI (by omega) (by decide), ⟨fun z => absurd z (by decide), fun z => absurd z (by decide), fun z => absurd z (by decide), fun z => absurd z (by decide), fun _ => ?_, fun z => absurd z (by decide), fun z => absurd z (by decide), fun z => absurd z (by decide), fun z => absurd z (by decide), fun z => absurd z (by decide), fun z => absurd z (by decide), fun _ _ _ _ z4 _ _ _ _ _ _ => absurd rfl z4⟩⟩
  refine ⟨vp_in_nI (by omega) (by decide), ?_⟩
  rw [hv]
  unfold wX10_itsYears
  have c9 := (lgc3 (lN v) 999).2.1.trans (pk_lLT (a := 999) (b := v) (by decide) (by omega))
  refine ⟨fun z => q2_err (by omega) hs (by decide) (h1 (by rw [decide_eq_true (c9.1 z), Bool.or_true])), fun z => bn_f (by decide) ?_⟩
  have z2 := fun t => z (c9.2 t)
  unfold wX10_itsYears_36
  rw [nI_pred, nI_clamp (n := E) (by omega), lN_i]
  exact br_f (by decide) ⟨vp_in_nI (by omega) (by decide), q2_ok (h0 (by rw [decide_eq_false (by omega), decide_eq_false z2]; rfl))⟩
theorem p2_to (hT : T ≤ 400) (hk : k < T) (hme : me k = nI 5) (hs : fr k = nI (sN x k)) {E v v3 : Nat} (hE : E < 6) (hv : va k = lN v) (v6 : v < 1000000) (v36 : v3 < 1000000) (hb : be E = nI v3) (h1 : (decide (v < v3) || decide (999 < v)) = true → KE K (5, nI (sN x k))) (h0 : (decide (v < v3) || decide (999 < v)) = false → P2 K tp sz ea mk fr me va T dp od gd gb ge go gw gm (wh, isS, itS, gs, gst, nI (E + 1), em, be, upd en E (nI v), gF, gIs, gCu, gWh, gFi, gSp, gO) (k + 1)) : P2 K tp sz ea mk fr me va T dp od gd gb ge go gw gm (wh, isS, itS, gs, gst, nI (E + 1), em, be, en, gF, gIs, gCu, gWh, gFi, gSp, gO) k := by
  refine p2_stepT hT hk ?_
  unfold wX10_errorOf
  rw [nI_clamp (n := k) (by omega), hme]
  refine ⟨vp_in_nI (by omega) (by decide), ⟨fun z => absurd z (by decide), fun z => absurd z (by decide), fun z => absurd z (by decide), fun z => absurd z (by decide), fun z => absurd z (by decide), fun _ => ?_, fun z => absurd z (by decide), fun z => absurd z (by decide), fun z => absurd z (by decide), fun z => absurd z (by decide), fun z => absurd z (by decide), fun _ _ _ _ _ z5 _ _ _ _ _ => absurd rfl z5⟩⟩
  refine ⟨vp_in_nI (by omega) (by decide), ?_⟩
  rw [hv]
  unfold wX10_itsYears
  have c9 := (lgc3 (lN v) 999).2.1.trans (pk_lLT (a := 999) (b := v) (by decide) (by omega))
  refine ⟨fun z => q2_err (by omega) hs (by decide) (h1 (by rw [decide_eq_true (c9.1 z), Bool.or_true])), fun z => bn_t rfl ?_⟩
  have z2 := fun t => z (c9.2 t)
  rw [nI_pred, nI_clamp (n := E) (by omega), hb, nI_l (by omega)]
  have c3 := (lgc3 (lN v) (lN v3)).2.2.2.trans (pk_lLE (a := v3) (b := v) (by omega) (by omega))
  refine ⟨vp_in_nI (by omega) (by decide), fun y => ?_, fun y => q2_err (by omega) hs (by decide) (h1 (by rw [decide_eq_true (p := v < v3) (by have : ¬ v3 ≤ v := fun t => y (c3.2 t); omega)]; rfl))⟩
  have y2 := c3.1 y
  unfold wX10_itsYears_36
  rw [nI_clamp (n := E) (by omega), lN_i]
  exact br_t rfl ⟨vp_in_nI (by omega) (by decide), q2_ok (h0 (by rw [decide_eq_false (by omega), decide_eq_false z2]; rfl))⟩
theorem p2_find (hT : T ≤ 400) (hk : k < T) (hme : me k = nI 6) (hs : fr k = nI (sN x k)) {F : Nat} (hF : F ≤ 24) {b : Bool} (hb : mk k = 5 ↔ b = true) (h4 : F = 24 → KE K (4, nI (sN x k))) (h0 : F < 24 → P2 K tp sz ea mk fr me va T dp od gd gb ge go gw gm (wh, 0, itS, gs, gst, gE, em, be, en, nI (F + 1), upd gIs F (zB b), gCu, gWh, gFi, gSp, gO) (k + 1)) : P2 K tp sz ea mk fr me va T dp od gd gb ge go gw gm (wh, isS, itS, gs, gst, gE, em, be, en, nI F, gIs, gCu, gWh, gFi, gSp, gO) k := by
  refine p2_stepT hT hk ?_
  unfold wX10_errorOf
  rw [nI_clamp (n := k) (by omega), hme]
  refine ⟨vp_in_nI (by omega) (by decide), ⟨fun z => absurd z (by decide), fun z => absurd z (by decide), fun z => absurd z (by decide), fun z => absurd z (by decide), fun z => absurd z (by decide), fun z => absurd z (by decide), fun _ => ?_, fun z => absurd z (by decide), fun z => absurd z (by decide), fun z => absurd z (by decide), fun z => absurd z (by decide), fun _ _ _ _ _ _ z6 _ _ _ _ => absurd rfl z6⟩⟩
  refine ⟨vp_in_nI (by omega) (by decide), ?_⟩
  have go9 : ∀ z0 : Int32, z0 = zB b → wX10_errorOf_149 (Q2 K tp sz ea mk fr me va T dp od gd gb ge go gw gm k) mk me va wh isS itS gs gst gE em be en (nI F) gIs gCu gWh gFi gSp gO z0 := by
    intro z0 hz
    subst hz
    unfold wX10_errorOf_149 wX10_newFind
    refine (pk_eq F 24 (fun y => q2_err (by omega) hs (by decide) (h4 y)) (fun y => ⟨vp_in_nI (by omega) (by decide), ?_⟩)).symm
    have e : vp_nar .boolean (zB b) = zB b := by cases b <;> decide
    rw [e, nI_1, nI_clamp (n := F) (by omega)]
    exact q2_ok (h0 (by omega))
  refine ⟨fun z => go9 0 ?_, fun z => go9 1 ?_⟩
  · cases b
    · rfl
    · exact absurd (hb.2 rfl) z
  · rw [hb.1 z]; rfl
theorem p2_seat (hT : T ≤ 400) {j : Nat} (hj : k = j + 2) (hk : k < T) (hme : me k = nI 7) (hs : fr k = nI (sN x k)) {N v : Nat} (hN : N ≤ 8) (hv : va k = lN v) (v6 : v < 1000000) {b : Bool} (hb : mk j = 7 ↔ b = true) (h1 : decide (N ≤ v) = true → KE K (5, nI (sN x k))) (h0 : decide (N ≤ v) = false → P2 K tp sz ea mk fr me va T dp od gd gb ge go gw gm (wh, (if b = true then 1 else isS), nI v, nI N, gst, gE, em, be, en, gF, gIs, gCu, gWh, gFi, gSp, gO) (k + 1)) : P2 K tp sz ea mk fr me va T dp od gd gb ge go gw gm (wh, isS, itS, nI N, gst, gE, em, be, en, gF, gIs, gCu, gWh, gFi, gSp, gO) k := by
  refine p2_stepT hT hk ?_
  unfold wX10_errorOf
  rw [nI_clamp (n := k) (by omega), hme]
  refine ⟨vp_in_nI (by omega) (by decide), ⟨fun z => absurd z (by decide), fun z => absurd z (by decide), fun z => absurd z (by decide), fun z => absurd z (by decide), fun z => absurd z (by decide), fun z => absurd z (by decide), fun z => absurd z (by decide), fun _ => ?_, fun z => absurd z (by decide), fun z => absurd z (by decide), fun z => absurd z (by decide), fun _ _ _ _ _ _ _ z7 _ _ _ => absurd rfl z7⟩⟩
  have c := (lgc3 (lN v) (lN N)).1.trans (pk_lLT (a := v) (b := N) (by omega) (by omega))
  have g8 : ∀ i0 : Int32, i0 = (if b = true then 1 else isS) → wX10_itsSeat_18 (fun r6 u6 => Q2 K tp sz ea mk fr me va T dp od gd gb ge go gw gm k r6 (wh, u6.1, u6.2, nI N, gst, gE, em, be, en, gF, gIs, gCu, gWh, gFi, gSp, gO)) mk va (nI N) i0 itS (nI k) := by
    intro i0 hi
    subst hi
    unfold wX10_itsSeat_18
    rw [nI_clamp (n := k) (by omega), hv, nI_l (by omega)]
    refine ⟨vp_in_nI (by omega) (by decide), fun z => ⟨vp_in_nI (by omega) (by decide), ?_⟩, fun z => q2_err (by omega) hs (by decide) (h1 (decide_eq_true (by have : ¬ v < N := fun t => z (c.2 t); omega)))⟩
    have := c.1 z
    rw [lN_i]
    exact q2_ok (h0 (decide_eq_false (by omega)))
  unfold wX10_itsSeat
  have e : nI k - 2 = nI j := by
    rw [show (2 : Int32) = nI 2 from rfl, pk_sub (by omega), show k - 2 = j by omega]
  rw [e, nI_clamp (n := j) (by omega)]
  refine ⟨vp_in_nI (by omega) (by decide), fun z => g8 isS ?_, fun z => g8 1 ?_⟩
  · rw [if_neg (fun y => z (hb.2 y))]
  · rw [if_pos (hb.1 z)]
theorem p2_stratum (hT : T ≤ 400) (hk : k < T) (hme : me k = nI 8) (hs : fr k = nI (sN x k)) {M a v F : Nat} {fi : Nat → Option Nat} {sp : Nat → Bool} (hM : M ≤ 10) (ha : a < 8) (hF : F < 24) (rfi : ∀ c, c < 80 → gFi c = fI (fi c)) (hfi : ∀ c f, c < 80 → fi c = some f → f < 2 ^ 31) (rsp : rB 80 gSp sp) (hv : va k = lN v) (v6 : v < 1000000) {b : Bool} (hi : isS = zB b) (hit : itS = nI a) (h5 : decide (M ≤ v) = true → KE K (5, nI (sN x k))) (h2 : decide (M ≤ v) = false → tkf fi sp b (a * 10 + v) = true → KE K (2, nI (sN x k))) (h0 : decide (M ≤ v) = false → tkf fi sp b (a * 10 + v) = false → P2 K tp sz ea mk fr me va T dp od gd gb ge go gw gm (wh, isS, itS, gs, nI M, gE, em, be, en, nI (F + 1), gIs, (if b = true then gCu else upd gCu F (nI (a * 10 + v))), gWh, (if b = true then gFi else upd gFi (a * 10 + v) (nI F)), (if b = true then upd gSp (a * 10 + v) 1 else gSp), gO) (k + 1)) (h0s : b = true → True) : P2 K tp sz ea mk fr me va T dp od gd gb ge go gw gm (wh, isS, itS, gs, nI M, gE, em, be, en, nI (F + 1), gIs, gCu, gWh, gFi, gSp, gO) k := by
  refine p2_stepT hT hk ?_
  unfold wX10_errorOf
  rw [nI_clamp (n := k) (by omega), hme]
  refine ⟨vp_in_nI (by omega) (by decide), ⟨fun z => absurd z (by decide), fun z => absurd z (by decide), fun z => absurd z (by decide), fun z => absurd z (by decide), fun z => absurd z (by decide), fun z => absurd z (by decide), fun z => absurd z (by decide), fun z => absurd z (by decide), fun _ => ?_, fun z => absurd z (by decide), fun z => absurd z (by decide), fun _ _ _ _ _ _ _ _ z8 _ _ => absurd rfl z8⟩⟩
  refine ⟨vp_in_nI (by omega) (by decide), ?_⟩
  have c := (lgc3 (lN v) (lN M)).1.trans (pk_lLT (a := v) (b := M) (by omega) (by omega))
  unfold wX10_itsStratum
  rw [hv, nI_l (n := M) (by omega), lN_i, hit, show (10 : Int32) = nI 10 from rfl, pk_mul, nI_add, Nat.mul_comm 10 a, hi]
  refine ⟨fun z => ?_, fun z => q2_err (by omega) hs (by decide) (h5 (decide_eq_true (by have : ¬ v < M := fun t => z (c.2 t); omega)))⟩
  have vM := c.1 z
  have dM : decide (M ≤ v) = false := decide_eq_false (by omega)
  have c80 : a * 10 + v < 80 := by omega
  rw [nI_clamp (n := a * 10 + v) (by omega), rfi _ c80]
  have m1 := fI_m1 (o := fi (a * 10 + v)) (fun f hf => hfi _ f c80 hf)
  refine bz rfl (fun hb => ⟨vp_in_nI c80 (by decide), fun y => ?_, fun y => ?_⟩) (fun hb => ⟨vp_in_nI c80 (by decide), ?_⟩)
  · unfold wX10_itsStratum_57
    rw [nI_pred, nI_clamp (n := F) (by omega), nI_clamp (n := a * 10 + v) (by omega)]
    refine br_t (by rw [hb]; rfl) ⟨vp_in_nI c80 (by decide), vp_in_nI (by omega) (by decide), ?_⟩
    have hf : tkf fi sp b (a * 10 + v) = false := by
      unfold tkf
      rw [if_neg (by rw [hb]; decide)]
      have := m1.1 y
      rw [Option.isNone_iff_eq_none.1 this]; rfl
    have t := h0 dM hf
    rw [if_neg (by rw [hb]; decide), if_neg (by rw [hb]; decide), if_neg (by rw [hb]; decide)] at t
    rw [← hi, ← hit]
    exact q2_ok t
  · refine q2_err (by omega) hs (by decide) (h2 dM ?_)
    unfold tkf
    rw [if_neg (by rw [hb]; decide)]
    cases q : fi (a * 10 + v)
    · exact absurd (m1.2 (by rw [q]; rfl)) y
    · rfl
  · refine bz (rsp _ c80) (fun y => ?_) (fun y => ?_)
    · unfold wX10_itsStratum_57
      rw [nI_clamp (n := a * 10 + v) (by omega)]
      refine br_f (by rw [hb]; decide) ⟨vp_in_nI c80 (by decide), ?_⟩
      have hf : tkf fi sp b (a * 10 + v) = false := by
        unfold tkf
        rw [if_pos hb]; exact y
      have t := h0 dM hf
      rw [if_pos hb, if_pos hb, if_pos hb] at t
      rw [← hi, ← hit]
      exact q2_ok t
    · refine q2_err (by omega) hs (by decide) (h2 dM ?_)
      unfold tkf
      rw [if_pos hb]; exact y
theorem p2_year (hT : T ≤ 400) (hk : k < T) (hme : me k = nI 9) (hs : fr k = nI (sN x k)) {F v : Nat} (hF : F < 24) (hv : va k = lN v) (v6 : v < 1000000) (h1 : (decide (v < 0) || decide (999 < v)) = true → KE K (5, nI (sN x k))) (h0 : (decide (v < 0) || decide (999 < v)) = false → P2 K tp sz ea mk fr me va T dp od gd gb ge go gw gm (wh, isS, itS, gs, gst, gE, em, be, en, nI (F + 1), gIs, gCu, upd gWh F (nI v), gFi, gSp, gO) (k + 1)) : P2 K tp sz ea mk fr me va T dp od gd gb ge go gw gm (wh, isS, itS, gs, gst, gE, em, be, en, nI (F + 1), gIs, gCu, gWh, gFi, gSp, gO) k := by
  refine p2_stepT hT hk ?_
  unfold wX10_errorOf
  rw [nI_clamp (n := k) (by omega), hme]
  refine ⟨vp_in_nI (by omega) (by decide), ⟨fun z => absurd z (by decide), fun z => absurd z (by decide), fun z => absurd z (by decide), fun z => absurd z (by decide), fun z => absurd z (by decide), fun z => absurd z (by decide), fun z => absurd z (by decide), fun z => absurd z (by decide), fun z => absurd z (by decide), fun _ => ?_, fun z => absurd z (by decide), fun _ _ _ _ _ _ _ _ _ z9 _ => absurd rfl z9⟩⟩
  refine ⟨vp_in_nI (by omega) (by decide), ?_⟩
  rw [hv]
  unfold wX10_itsYear
  have c9 := (lgc3 (lN v) 999).2.2.1.trans (pk_lLE (a := v) (b := 999) (by omega) (by decide))
  rw [nI_pred, nI_clamp (n := F) (by omega), lN_i]
  refine ⟨fun z => ⟨vp_in_nI (by omega) (by decide), ?_⟩, fun z => q2_err (by omega) hs (by decide) (h1 (by rw [decide_eq_true (p := 999 < v) (by have : ¬ v ≤ 999 := fun t => z (c9.2 t); omega), Bool.or_true]))⟩
  have := c9.1 z
  exact q2_ok (h0 (by rw [decide_eq_false (by omega), decide_eq_false (by omega)]; rfl))
theorem p2_order (hT : T ≤ 400) (hk : k < T) (hme : me k = nI 11) (hs : fr k = nI (sN x k)) {O : Nat} (hO : O ≤ 16) (h1 : O = 16 → KE K (4, nI (sN x k))) (h0 : O < 16 → P2 K tp sz ea mk fr me va T dp od gd gb ge go gw gm (wh, isS, itS, gs, gst, gE, em, be, en, gF, gIs, gCu, gWh, gFi, gSp, nI (O + 1)) (k + 1)) : P2 K tp sz ea mk fr me va T dp od gd gb ge go gw gm (wh, isS, itS, gs, gst, gE, em, be, en, gF, gIs, gCu, gWh, gFi, gSp, nI O) k := by
  refine p2_stepT hT hk ?_
  unfold wX10_errorOf
  rw [nI_clamp (n := k) (by omega), hme]
  refine ⟨vp_in_nI (by omega) (by decide), ⟨fun z => absurd z (by decide), fun z => absurd z (by decide), fun z => absurd z (by decide), fun z => absurd z (by decide), fun z => absurd z (by decide), fun z => absurd z (by decide), fun z => absurd z (by decide), fun z => absurd z (by decide), fun z => absurd z (by decide), fun z => absurd z (by decide), fun _ => ?_, fun _ _ _ _ _ _ _ _ _ _ z11 => absurd rfl z11⟩⟩
  unfold wX10_newOrder
  refine (pk_eq O 16 (fun y => q2_err (by omega) hs (by decide) (h1 y)) (fun y => ?_)).symm
  rw [nI_1]
  exact q2_ok (h0 (by omega))
theorem p2_empOf (hT : T ≤ 400) (hk : k < T) {c : Int32} (hme : me k = c) (hc : c = nI 10 ∨ c = nI 12) (hs : fr k = nI (sN x k)) {E F : Nat} (hE : E ≤ 6) (hF : c = nI 10 → F < 24) (h1 : (emF em (va k) E).isNone = true → KE K (3, nI (sN x k))) (h0 : (emF em (va k) E).isNone = false → P2 K tp sz ea mk fr me va T dp od gd gb ge go gw gm (upd wh k (fI (emF em (va k) E)), isS, itS, gs, gst, nI E, em, be, en, gF, gIs, gCu, (if c = nI 10 then upd gWh F (fI (emF em (va k) E)) else gWh), gFi, gSp, gO) (k + 1)) (hgF : c = nI 10 → gF = nI (F + 1)) : P2 K tp sz ea mk fr me va T dp od gd gb ge go gw gm (wh, isS, itS, gs, gst, nI E, em, be, en, gF, gIs, gCu, gWh, gFi, gSp, gO) k := by
  have ne : ∀ v, v = nI 0 ∨ v = nI 1 ∨ v = nI 2 ∨ v = nI 3 ∨ v = nI 4 ∨ v = nI 5 ∨ v = nI 6 ∨ v = nI 7 ∨ v = nI 8 ∨ v = nI 9 ∨ v = nI 11 → ¬ c = v := by
    intro v hv z
    rw [z] at hc
    rcases hv with rfl | rfl | rfl | rfl | rfl | rfl | rfl | rfl | rfl | rfl | rfl <;> exact absurd hc (by decide)
  refine p2_stepT hT hk ?_
  unfold wX10_errorOf
  rw [nI_clamp (n := k) (by omega), hme]
  refine ⟨vp_in_nI (by omega) (by decide), fun z => absurd z (ne 0 (by decide)), fun z => absurd z (ne 1 (by decide)), fun z => absurd z (ne 2 (by decide)), fun z => absurd z (ne 3 (by decide)), fun z => absurd z (ne 4 (by decide)), fun z => absurd z (ne 5 (by decide)), fun z => absurd z (ne 6 (by decide)), fun z => absurd z (ne 7 (by decide)), fun z => absurd z (ne 8 (by decide)), fun z => absurd z (ne 9 (by decide)), fun z => absurd z (ne 11 (by decide)), fun _ _ _ _ _ _ _ _ _ _ _ => ?_⟩
  unfold wX10_anEmpire
  have m1 := fI_m1 (o := emF em (va k) E) (fun e z => by have := (emF_some z).1; omega)
  rw [nI_clamp (n := k) (by omega)]
  refine ⟨vp_in_nI (by omega) (by decide), s_find hE ⟨vp_in_nI (by omega) (by decide), vp_in_nI (by omega) (by decide), ?_⟩⟩
  rw [us, hme]
  refine ⟨fun z => ⟨vp_in_nI (by omega) (by decide), ?_⟩, fun z => q2_err (by omega) hs (by decide) (h1 (m1.1 z))⟩
  have hn : (emF em (va k) E).isNone = false := by
    cases q : (emF em (va k) E).isNone
    · rfl
    · exact absurd (m1.2 q) z
  have t := h0 hn
  refine ⟨fun y => ?_, fun y => ⟨vp_in_nI (by omega) (by decide), ?_⟩⟩
  · rw [if_neg (show ¬ c = nI 10 from y)] at t
    exact q2_ok t
  · have y : c = nI 10 := y
    rw [if_pos y] at t
    rw [hgF y] at t ⊢
    have := hF y
    rw [nI_pred, nI_clamp (n := F) (by omega)]
    exact ⟨vp_in_nI (by omega) (by decide), q2_ok t⟩
end SECOND
