/-! the second look, line by line -/
section SEGS
variable {x : Tn} {K : Int32 → RKt → Prop} {tp : (Nat → Int32)} {sz ea : Int32} {mk fr me : (Nat → Int32)} {va : (Nat → Int64)} {T : Nat} {dp od : Int32} {gd gb ge go gw : (Nat → Int32)} {gm : Int32} {p : Nat} {u : S2} {wh be en gIs gCu gWh gFi gSp : (Nat → Int32)} {em cn : (Nat → Int64)} {isS itS gs gst gE gF gO : Int32} {N M E F O : Nat} {fi : Nat → Option Nat} {sp : Nat → Bool}
def eG : Int32 × Int32 := (0, -1)
theorem ck_keep {b : Bool} {c c' s : Int32} {q : Nat} (h : c' ≠ 0) : ck x b c q (c', s) = (c', s) := ck_err h
theorem ePl_keep {f : Nat → Bool} {c' s : Int32} (h : c' ≠ 0) : ePl x N M f p (c', s) = (c', s) := ePl_err h
theorem s_fr (rm : rNm x mk fr va) (hp : p ≤ nN x) : fr p = nI (sN x p) := (rm p hp).2.1
theorem seg_emp (wf : wfN x) (rm : rNm x mk fr va) (hT : T ≤ nN x) (hp : p + 6 ≤ T) (h1 : kN x (p + 1) = 44) (h3 : kN x (p + 3) = 45) (h5 : kN x (p + 5) = 45) (m0 : me p = nI 0) (m1 : me (p + 1) = nI 3) (m2 : me (p + 2) = nI 0) (m3 : me (p + 3) = nI 4) (m4 : me (p + 4) = nI 0) (m5 : me (p + 5) = nI 5) (hE : E ≤ 6) (hnm : emF cn (cN x (p + 1)) E = emF em (mN x (p + 1)) E)
    (k1 : (eEm x E cn p eG).1 ≠ 0 → KE K (eEm x E cn p eG)) (k0 : (eEm x E cn p eG).1 = 0 → E < 6 → P2 K tp sz ea mk fr me va T dp od gd gb ge go gw gm (wh, isS, itS, gs, gst, nI (E + 1), vp_updL em E (mN x (p + 1)), upd be E (nI (vN x (p + 3))), upd en E (nI (vN x (p + 5))), gF, gIs, gCu, gWh, gFi, gSp, gO) (p + 6)) : P2 K tp sz ea mk fr me va T dp od gd gb ge go gw gm (wh, isS, itS, gs, gst, nI E, em, be, en, gF, gIs, gCu, gWh, gFi, gSp, gO) p := by
  have n4 := wf.1
  have v3 := wf.2.2.2.2.1 (p + 3) (by omega) h3
  have v5 := wf.2.2.2.2.1 (p + 5) (by omega) h5
  have a1 := (rm (p + 1) (by omega)).2.2.2 h1
  have a3 := (rm (p + 3) (by omega)).2.2.1 h3
  have a5 := (rm (p + 5) (by omega)).2.2.1 h5
  refine p2_0 (by omega) (by omega) m0 (p2_name (x := x) (by omega) (by omega) m1 (s_fr rm (by omega)) hE (fun z => ?_) (fun z y => ?_) (fun z e6 => ?_))
  · rw [a1, ← hnm] at z
    have q : eEm x E cn p eG = (2, nI (sN x (p + 1))) := by
      unfold eEm
      rw [ck_t rfl z, ck_keep (c' := 2) (by decide), ck_keep (c' := 2) (by decide), ck_keep (c' := 2) (by decide)]
    rw [q] at k1
    exact k1 (show (2 : Int32) ≠ 0 by decide)
  · rw [a1, ← hnm] at z
    have hn : (emF cn (cN x (p + 1)) E).isNone = true := by
      cases q : emF cn (cN x (p + 1)) E
      · rfl
      · rw [q] at z; cases z
    have q : eEm x E cn p eG = (4, nI (sN x (p + 1))) := by
      unfold eEm
      rw [ck_f z, ck_t (b := (emF cn (cN x (p + 1)) E).isNone && decide (6 ≤ E)) rfl (by rw [hn, decide_eq_true (by omega)]; rfl), ck_keep (c' := 4) (by decide), ck_keep (c' := 4) (by decide)]
    rw [q] at k1
    exact k1 (show (4 : Int32) ≠ 0 by decide)
  · rw [a1, ← hnm] at z
    rw [a1]
    have c12 : ck x ((emF cn (cN x (p + 1)) E).isNone && decide (6 ≤ E)) 4 (p + 1) (ck x (emF cn (cN x (p + 1)) E).isSome 2 (p + 1) eG) = eG := by
      rw [ck_f z, ck_f (b := (emF cn (cN x (p + 1)) E).isNone && decide (6 ≤ E)) (by rw [decide_eq_false (by omega), Bool.and_false])]
    unfold eEm at k0 k1
    rw [c12] at k0 k1
    refine p2_0 (by omega) (by omega) m2 (p2_from (x := x) (by omega) (by omega) m3 (s_fr rm (by omega)) e6 a3 v3 (fun y => ?_) (fun y => ?_))
    · rw [ck_t rfl y, ck_keep (c' := 5) (by decide)] at k1
      exact k1 (show (5 : Int32) ≠ 0 by decide)
    · rw [ck_f y] at k0 k1
      refine p2_0 (by omega) (by omega) m4 (p2_to (x := x) (v3 := vN x (p + 3)) (by omega) (by omega) m5 (s_fr rm (by omega)) e6 a5 v5 v3 us (fun t => ?_) (fun t => ?_))
      · rw [ck_t rfl t] at k1
        exact k1 (show (5 : Int32) ≠ 0 by decide)
      · rw [ck_f t] at k0
        exact k0 rfl e6
theorem seg_size (wf : wfN x) (rm : rNm x mk fr va) (hT : T ≤ nN x) (hp : p + 5 ≤ T) (h1 : kN x (p + 1) = 45) (h3 : kN x (p + 3) = 45) (m0 : me p = nI 0) (m1 : me (p + 1) = nI 1) (m2 : me (p + 2) = nI 0) (m3 : me (p + 3) = nI 2) (m4 : me (p + 4) = nI 0)
    (k1 : (eSz x p eG).1 ≠ 0 → KE K (eSz x p eG)) (k0 : (eSz x p eG).1 = 0 → P2 K tp sz ea mk fr me va T dp od gd gb ge go gw gm (wh, isS, itS, nI (vN x (p + 1)), nI (vN x (p + 3)), gE, em, be, en, gF, gIs, gCu, gWh, gFi, gSp, gO) (p + 5)) : P2 K tp sz ea mk fr me va T dp od gd gb ge go gw gm (wh, isS, itS, gs, gst, gE, em, be, en, gF, gIs, gCu, gWh, gFi, gSp, gO) p := by
  have n4 := wf.1
  have v1 := wf.2.2.2.2.1 (p + 1) (by omega) h1
  have v3 := wf.2.2.2.2.1 (p + 3) (by omega) h3
  have a1 := (rm (p + 1) (by omega)).2.2.1 h1
  have a3 := (rm (p + 3) (by omega)).2.2.1 h3
  unfold eSz at k0 k1
  refine p2_0 (by omega) (by omega) m0 (p2_seats (x := x) (by omega) (by omega) m1 (s_fr rm (by omega)) a1 v1 (fun y => ?_) (fun y => ?_))
  · rw [ck_t rfl y, ck_keep (c' := 5) (by decide)] at k1
    exact k1 (show (5 : Int32) ≠ 0 by decide)
  · rw [ck_f y] at k0 k1
    refine p2_0 (by omega) (by omega) m2 (p2_layers (x := x) (by omega) (by omega) m3 (s_fr rm (by omega)) a3 v3 (fun t => ?_) (fun t => p2_0 (by omega) (by omega) m4 ?_))
    · rw [ck_t rfl t] at k1
      exact k1 (show (5 : Int32) ≠ 0 by decide)
    · rw [ck_f t] at k0
      exact k0 rfl
/-- from the word 'in' on: seat and stratum -/
theorem seg_place {b : Bool} (wf : wfN x) (rm : rNm x mk fr va) (hT : T ≤ nN x) (hp : p + 5 ≤ T) (hb : mk p = 7 ↔ b = true) (hsb : b = false → isS = 0) (h2 : kN x (p + 1 + 1) = 45) (h4 : kN x (p + 1 + 3) = 45) (m1 : me (p + 1) = nI 0) (m2 : me (p + 1 + 1) = nI 7) (m3 : me (p + 1 + 2) = nI 0) (m4 : me (p + 1 + 3) = nI 8) (hN : 2 ≤ N ∧ N ≤ 8) (hM : 2 ≤ M ∧ M ≤ 10) (hF : F < 24) (rfi : ∀ c, c < 80 → gFi c = fI (fi c)) (hfi : ∀ c f, c < 80 → fi c = some f → f < 2 ^ 31) (rsp : rB 80 gSp sp)
    (k1 : (ePl x N M (tkf fi sp b) (p + 1) eG).1 ≠ 0 → KE K (ePl x N M (tkf fi sp b) (p + 1) eG)) (k0 : (ePl x N M (tkf fi sp b) (p + 1) eG).1 = 0 → P2 K tp sz ea mk fr me va T dp od gd gb ge go gw gm (wh, (if b = true then 1 else isS), nI (vN x (p + 1 + 1)), nI N, nI M, gE, em, be, en, nI (F + 1), gIs, (if b = true then gCu else upd gCu F (nI (vN x (p + 1 + 1) * 10 + vN x (p + 1 + 3)))), gWh, (if b = true then gFi else upd gFi (vN x (p + 1 + 1) * 10 + vN x (p + 1 + 3)) (nI F)), (if b = true then upd gSp (vN x (p + 1 + 1) * 10 + vN x (p + 1 + 3)) 1 else gSp), gO) (p + 5)) : P2 K tp sz ea mk fr me va T dp od gd gb ge go gw gm (wh, isS, itS, nI N, nI M, gE, em, be, en, nI (F + 1), gIs, gCu, gWh, gFi, gSp, gO) (p + 1) := by
  have n4 := wf.1
  have v2 := wf.2.2.2.2.1 (p + 1 + 1) (by omega) h2
  have v4 := wf.2.2.2.2.1 (p + 1 + 3) (by omega) h4
  have a2 := (rm (p + 1 + 1) (by omega)).2.2.1 h2
  have a4 := (rm (p + 1 + 3) (by omega)).2.2.1 h4
  have hi : (if b = true then (1 : Int32) else isS) = zB b := by
    cases b
    · exact hsb rfl
    · rfl
  unfold ePl at k0 k1
  refine p2_0 (by omega) (by omega) m1 (p2_seat (x := x) (j := p) (by omega) (by omega) (by omega) m2 (s_fr rm (by omega)) hN.2 a2 v2 hb (fun y => ?_) (fun y => ?_))
  · rw [ck_t rfl y, ck_keep (c' := 5) (by decide), ck_keep (c' := 5) (by decide)] at k1
    exact k1 (show (5 : Int32) ≠ 0 by decide)
  · rw [ck_f y] at k0 k1
    have vN8 : vN x (p + 1 + 1) < N := by
      have := of_decide_eq_false y
      omega
    have tk0 : tkn N M (tkf fi sp b) (vN x (p + 1 + 1)) (vN x (p + 1 + 3)) = (decide (vN x (p + 1 + 3) < M) && tkf fi sp b (vN x (p + 1 + 1) * 10 + vN x (p + 1 + 3))) := by
      unfold tkn
      rw [decide_eq_true vN8, Bool.true_and]
    rw [tk0] at k0 k1
    refine p2_0 (by omega) (by omega) m3 (p2_stratum (x := x) (fi := fi) (sp := sp) (b := b) (by omega) (by omega) m4 (s_fr rm (by omega)) hM.2 (by omega) hF rfi hfi rsp a4 v4 hi rfl (fun t => ?_) (fun t t2 => ?_) (fun t t2 => ?_) (fun _ => trivial))
    · rw [ck_f (b := decide (vN x (p + 1 + 3) < M) && tkf fi sp b (vN x (p + 1 + 1) * 10 + vN x (p + 1 + 3))) (by have := of_decide_eq_true t; rw [decide_eq_false (by omega), Bool.false_and]), ck_t rfl t] at k1
      exact k1 (show (5 : Int32) ≠ 0 by decide)
    · have vM := of_decide_eq_false t
      rw [ck_t (b := decide (vN x (p + 1 + 3) < M) && tkf fi sp b (vN x (p + 1 + 1) * 10 + vN x (p + 1 + 3))) rfl (by rw [decide_eq_true (by omega), t2]; rfl), ck_keep (c' := 2) (by decide)] at k1
      exact k1 (show (2 : Int32) ≠ 0 by decide)
    · rw [ck_f (b := decide (vN x (p + 1 + 3) < M) && tkf fi sp b (vN x (p + 1 + 1) * 10 + vN x (p + 1 + 3))) (by rw [t2, Bool.and_false]), ck_f t] at k0
      exact k0 rfl
theorem seg_coin (wf : wfN x) (rm : rNm x mk fr va) (hT : T ≤ nN x) (hp : p + 7 ≤ T) (h0 : kN x p = 5) (h2 : kN x (p + 1 + 1) = 45) (h4 : kN x (p + 1 + 3) = 45) (h6 : kN x (p + 6) = 45) (m0 : me p = nI 6) (m1 : me (p + 1) = nI 0) (m2 : me (p + 1 + 1) = nI 7) (m3 : me (p + 1 + 2) = nI 0) (m4 : me (p + 1 + 3) = nI 8) (m5 : me (p + 5) = nI 0) (m6 : me (p + 6) = nI 9) (hN : 2 ≤ N ∧ N ≤ 8) (hM : 2 ≤ M ∧ M ≤ 10) (hF : F ≤ 24) (rfi : ∀ c, c < 80 → gFi c = fI (fi c)) (hfi : ∀ c f, c < 80 → fi c = some f → f < 2 ^ 31) (rsp : rB 80 gSp sp)
    (k1 : (eCo x N M F (tkf fi sp false) p eG).1 ≠ 0 → KE K (eCo x N M F (tkf fi sp false) p eG)) (k0 : (eCo x N M F (tkf fi sp false) p eG).1 = 0 → F < 24 → P2 K tp sz ea mk fr me va T dp od gd gb ge go gw gm (wh, 0, nI (vN x (p + 1 + 1)), nI N, nI M, gE, em, be, en, nI (F + 1), upd gIs F 1, upd gCu F (nI (vN x (p + 1 + 1) * 10 + vN x (p + 1 + 3))), upd gWh F (nI (vN x (p + 6))), upd gFi (vN x (p + 1 + 1) * 10 + vN x (p + 1 + 3)) (nI F), gSp, gO) (p + 7)) : P2 K tp sz ea mk fr me va T dp od gd gb ge go gw gm (wh, isS, itS, nI N, nI M, gE, em, be, en, nI F, gIs, gCu, gWh, gFi, gSp, gO) p := by
  have n4 := wf.1
  have v6 := wf.2.2.2.2.1 (p + 6) (by omega) h6
  have a6 := (rm (p + 6) (by omega)).2.2.1 h6
  have mk0 : mk p = nI (mkT 5) := by rw [(rm p (by omega)).1, h0]
  unfold eCo at k0 k1
  refine p2_find (x := x) (b := true) (by omega) (by omega) m0 (s_fr rm (by omega)) hF ⟨fun _ => rfl, fun _ => by rw [mk0]; rfl⟩ (fun y => ?_) (fun y => ?_)
  · rw [ck_t (x := x) (b := decide (24 ≤ F)) rfl (decide_eq_true (by omega)), ePl_keep (c' := 4) (by decide), ck_keep (c' := 4) (by decide)] at k1
    exact k1 (show (4 : Int32) ≠ 0 by decide)
  · rw [ck_f (x := x) (b := decide (24 ≤ F)) (decide_eq_false (by omega))] at k0 k1
    refine seg_place (b := false) (fi := fi) (sp := sp) wf rm hT (by omega) ⟨fun z => absurd (mk0.symm.trans z) (by decide), fun z => by cases z⟩ (fun _ => rfl) h2 h4 m1 m2 m3 m4 hN hM y rfi hfi rsp (fun z => ?_) (fun z => ?_)
    · rw [ck_err z] at k1
      exact k1 z
    · have e1 := ePl_0 z
      rw [e1.2.1] at k0 k1
      refine p2_0 (by omega) (by omega) m5 (p2_year (x := x) (by omega) (by omega) m6 (s_fr rm (by omega)) y a6 v6 (fun t => ?_) (fun t => ?_))
      · rw [ck_t rfl t] at k1
        exact k1 (show (5 : Int32) ≠ 0 by decide)
      · rw [ck_f t] at k0
        exact k0 rfl y
theorem seg_crumb (wf : wfN x) (rm : rNm x mk fr va) (hT : T ≤ nN x) (hp : p + 7 ≤ T) (h0 : kN x p = 6) (h2 : kN x (p + 1 + 1) = 45) (h4 : kN x (p + 1 + 3) = 45) (h6 : kN x (p + 6) = 44) (m0 : me p = nI 6) (m1 : me (p + 1) = nI 0) (m2 : me (p + 1 + 1) = nI 7) (m3 : me (p + 1 + 2) = nI 0) (m4 : me (p + 1 + 3) = nI 8) (m5 : me (p + 5) = nI 0) (m6 : me (p + 6) = nI 10) (hN : 2 ≤ N ∧ N ≤ 8) (hM : 2 ≤ M ∧ M ≤ 10) (hF : F ≤ 24) (hE : E ≤ 6) (hnm : emF cn (cN x (p + 6)) E = emF em (mN x (p + 6)) E) (rfi : ∀ c, c < 80 → gFi c = fI (fi c)) (hfi : ∀ c f, c < 80 → fi c = some f → f < 2 ^ 31) (rsp : rB 80 gSp sp)
    (k1 : (eCr x N M E F cn (tkf fi sp false) p eG).1 ≠ 0 → KE K (eCr x N M E F cn (tkf fi sp false) p eG)) (k0 : (eCr x N M E F cn (tkf fi sp false) p eG).1 = 0 → F < 24 → P2 K tp sz ea mk fr me va T dp od gd gb ge go gw gm (upd wh (p + 6) (fI (emF cn (cN x (p + 6)) E)), 0, nI (vN x (p + 1 + 1)), nI N, nI M, nI E, em, be, en, nI (F + 1), upd gIs F 0, upd gCu F (nI (vN x (p + 1 + 1) * 10 + vN x (p + 1 + 3))), upd gWh F (fI (emF cn (cN x (p + 6)) E)), upd gFi (vN x (p + 1 + 1) * 10 + vN x (p + 1 + 3)) (nI F), gSp, gO) (p + 7)) : P2 K tp sz ea mk fr me va T dp od gd gb ge go gw gm (wh, isS, itS, nI N, nI M, nI E, em, be, en, nI F, gIs, gCu, gWh, gFi, gSp, gO) p := by
  have n4 := wf.1
  have a6 := (rm (p + 6) (by omega)).2.2.2 h6
  have mk0 : mk p = nI (mkT 6) := by rw [(rm p (by omega)).1, h0]
  unfold eCr at k0 k1
  rw [erF_one] at k0 k1
  have bd6 : bdN x E cn (p + 6) = (emF cn (cN x (p + 6)) E).isNone := by
    unfold bdN
    rw [decide_eq_true h6, Bool.true_and]
  rw [bd6] at k0 k1
  refine p2_find (x := x) (b := false) (by omega) (by omega) m0 (s_fr rm (by omega)) hF ⟨fun z => absurd (mk0.symm.trans z) (by decide), fun z => by cases z⟩ (fun y => ?_) (fun y => ?_)
  · rw [ck_t (x := x) (b := decide (24 ≤ F)) rfl (decide_eq_true (by omega)), ePl_keep (c' := 4) (by decide), if_neg (fun z => absurd z.1 (show ¬ (4 : Int32) = 0 by decide))] at k1
    exact k1 (show (4 : Int32) ≠ 0 by decide)
  · rw [ck_f (x := x) (b := decide (24 ≤ F)) (decide_eq_false (by omega))] at k0 k1
    refine seg_place (b := false) (fi := fi) (sp := sp) wf rm hT (by omega) ⟨fun z => absurd (mk0.symm.trans z) (by decide), fun z => by cases z⟩ (fun _ => rfl) h2 h4 m1 m2 m3 m4 hN hM y rfi hfi rsp (fun z => ?_) (fun z => ?_)
    · rw [if_neg (fun t => z t.1)] at k1
      exact k1 z
    · have e1 := ePl_0 z
      rw [e1.2.1] at k0 k1
      refine p2_0 (by omega) (by omega) m5 (p2_empOf (x := x) (F := F) (by omega) (by omega) m6 (Or.inl rfl) (s_fr rm (by omega)) hE (fun _ => y) (fun t => ?_) (fun t => ?_) (fun _ => rfl))
      · rw [a6, ← hnm] at t
        rw [if_pos ⟨rfl, t⟩] at k1
        exact k1 (show (3 : Int32) ≠ 0 by decide)
      · rw [a6, ← hnm] at t
        rw [a6, ← hnm, if_pos rfl]
        rw [if_neg (fun z => by rw [t] at z; exact absurd z.2 (by decide))] at k0
        exact k0 rfl y
theorem p2_stratumS (hT : T ≤ 400) {k : Nat} (hk : k < T) (hme : me k = nI 8) (hs : fr k = nI (sN x k)) {M a v : Nat} (hM : M ≤ 10) (ha : a < 8) (rsp : rB 80 gSp sp) (hv : va k = lN v) (v6 : v < 1000000) (h5 : decide (M ≤ v) = true → KE K (5, nI (sN x k))) (h2 : decide (M ≤ v) = false → sp (a * 10 + v) = true → KE K (2, nI (sN x k))) (h0 : decide (M ≤ v) = false → sp (a * 10 + v) = false → P2 K tp sz ea mk fr me va T dp od gd gb ge go gw gm (wh, 1, nI a, gs, nI M, gE, em, be, en, gF, gIs, gCu, gWh, gFi, upd gSp (a * 10 + v) 1, gO) (k + 1)) : P2 K tp sz ea mk fr me va T dp od gd gb ge go gw gm (wh, 1, nI a, gs, nI M, gE, em, be, en, gF, gIs, gCu, gWh, gFi, gSp, gO) k := by
  refine p2_stepT hT hk ?_
  unfold wX10_errorOf
  rw [nI_clamp (n := k) (by omega), hme]
  refine ⟨vp_in_nI (by omega) (by decide), fun z => absurd z (by decide), fun z => absurd z (by decide), fun z => absurd z (by decide), fun z => absurd z (by decide), fun z => absurd z (by decide), fun z => absurd z (by decide), fun z => absurd z (by decide), fun z => absurd z (by decide), fun _ => ?_, fun z => absurd z (by decide), fun z => absurd z (by decide), fun _ _ _ _ _ _ _ _ z8 _ _ => absurd rfl z8⟩
  refine ⟨vp_in_nI (by omega) (by decide), ?_⟩
  have c := (lgc3 (lN v) (lN M)).1.trans (pk_lLT (a := v) (b := M) (by omega) (by omega))
  unfold wX10_itsStratum
  rw [hv, nI_l (n := M) (by omega), lN_i, show (10 : Int32) = nI 10 from rfl, pk_mul, nI_add, Nat.mul_comm 10 a]
  refine ⟨fun z => ?_, fun z => q2_err (by omega) hs (by decide) (h5 (decide_eq_true (by have : ¬ v < M := fun t => z (c.2 t); omega)))⟩
  have vM := c.1 z
  have dM : decide (M ≤ v) = false := decide_eq_false (by omega)
  have c80 : a * 10 + v < 80 := by omega
  rw [nI_clamp (n := a * 10 + v) (by omega)]
  refine br_f (by decide) ⟨vp_in_nI c80 (by decide), ?_⟩
  refine bz (rsp _ c80) (fun y => ?_) (fun y => q2_err (by omega) hs (by decide) (h2 dM y))
  unfold wX10_itsStratum_57
  rw [nI_clamp (n := a * 10 + v) (by omega)]
  exact br_f (by decide) ⟨vp_in_nI c80 (by decide), q2_ok (h0 dM y)⟩
theorem seg_spring (wf : wfN x) (rm : rNm x mk fr va) (hT : T ≤ nN x) (hp : p + 5 ≤ T) (h0 : kN x p = 7) (h2 : kN x (p + 1 + 1) = 45) (h4 : kN x (p + 1 + 3) = 45) (m0 : me p = nI 0) (m1 : me (p + 1) = nI 0) (m2 : me (p + 1 + 1) = nI 7) (m3 : me (p + 1 + 2) = nI 0) (m4 : me (p + 1 + 3) = nI 8) (hN : 2 ≤ N ∧ N ≤ 8) (hM : 2 ≤ M ∧ M ≤ 10) (rsp : rB 80 gSp sp)
    (k1 : (ePl x N M (tkf fi sp true) (p + 1) eG).1 ≠ 0 → KE K (ePl x N M (tkf fi sp true) (p + 1) eG)) (k0 : (ePl x N M (tkf fi sp true) (p + 1) eG).1 = 0 → P2 K tp sz ea mk fr me va T dp od gd gb ge go gw gm (wh, 1, nI (vN x (p + 1 + 1)), nI N, nI M, gE, em, be, en, gF, gIs, gCu, gWh, gFi, upd gSp (vN x (p + 1 + 1) * 10 + vN x (p + 1 + 3)) 1, gO) (p + 5)) : P2 K tp sz ea mk fr me va T dp od gd gb ge go gw gm (wh, isS, itS, nI N, nI M, gE, em, be, en, gF, gIs, gCu, gWh, gFi, gSp, gO) p := by
  have n4 := wf.1
  have v2 := wf.2.2.2.2.1 (p + 1 + 1) (by omega) h2
  have v4 := wf.2.2.2.2.1 (p + 1 + 3) (by omega) h4
  have a2 := (rm (p + 1 + 1) (by omega)).2.2.1 h2
  have a4 := (rm (p + 1 + 3) (by omega)).2.2.1 h4
  have mk0 : mk p = nI (mkT 7) := by rw [(rm p (by omega)).1, h0]
  unfold ePl at k0 k1
  refine p2_0 (by omega) (by omega) m0 (p2_0 (by omega) (by omega) m1 (p2_seat (x := x) (j := p) (b := true) (by omega) (by omega) (by omega) m2 (s_fr rm (by omega)) hN.2 a2 v2 ⟨fun _ => rfl, fun _ => by rw [mk0]; rfl⟩ (fun y => ?_) (fun y => ?_)))
  · rw [ck_t rfl y, ck_keep (c' := 5) (by decide), ck_keep (c' := 5) (by decide)] at k1
    exact k1 (show (5 : Int32) ≠ 0 by decide)
  · rw [ck_f y] at k0 k1
    have vN8 : vN x (p + 1 + 1) < N := by
      have := of_decide_eq_false y
      omega
    have tk0 : tkn N M (tkf fi sp true) (vN x (p + 1 + 1)) (vN x (p + 1 + 3)) = (decide (vN x (p + 1 + 3) < M) && sp (vN x (p + 1 + 1) * 10 + vN x (p + 1 + 3))) := by
      unfold tkn
      rw [decide_eq_true vN8, Bool.true_and]; rfl
    rw [tk0] at k0 k1
    rw [if_pos rfl]
    refine p2_0 (by omega) (by omega) m3 (p2_stratumS (x := x) (sp := sp) (by omega) (by omega) m4 (s_fr rm (by omega)) hM.2 (by omega) rsp a4 v4 (fun t => ?_) (fun t t2 => ?_) (fun t t2 => ?_))
    · rw [ck_f (b := decide (vN x (p + 1 + 3) < M) && sp (vN x (p + 1 + 1) * 10 + vN x (p + 1 + 3))) (by have := of_decide_eq_true t; rw [decide_eq_false (by omega), Bool.false_and]), ck_t rfl t] at k1
      exact k1 (show (5 : Int32) ≠ 0 by decide)
    · have vM := of_decide_eq_false t
      rw [ck_t (b := decide (vN x (p + 1 + 3) < M) && sp (vN x (p + 1 + 1) * 10 + vN x (p + 1 + 3))) rfl (by rw [decide_eq_true (by omega), t2]; rfl), ck_keep (c' := 2) (by decide)] at k1
      exact k1 (show (2 : Int32) ≠ 0 by decide)
    · rw [ck_f (b := decide (vN x (p + 1 + 3) < M) && sp (vN x (p + 1 + 1) * 10 + vN x (p + 1 + 3))) (by rw [t2, Bool.and_false]), ck_f t] at k0
      exact k0 rfl
/-- names in sums and tests -/
theorem seg_names (wf : wfN x) (rm : rNm x mk fr va) (hT : T ≤ nN x) (hE : E ≤ 6) (hnm : ∀ i, i < nN x → kN x i = 44 → emF cn (cN x i) E = emF em (mN x i) E) : ∀ (n q : Nat) (wh : (Nat → Int32)), q + n ≤ T → (∀ i, q ≤ i → i < q + n → me i = if kN x i = 44 then nI 12 else nI 0) → ((erF x (bdN x E cn) q (q + n) eG).1 ≠ 0 → KE K (erF x (bdN x E cn) q (q + n) eG)) → ((erF x (bdN x E cn) q (q + n) eG).1 = 0 → ∀ wh', (∀ i, i < q → wh' i = wh i) → (∀ i, q ≤ i → i < q + n → kN x i = 44 → wh' i = fI (emF cn (cN x i) E)) → P2 K tp sz ea mk fr me va T dp od gd gb ge go gw gm (wh', isS, itS, gs, gst, nI E, em, be, en, gF, gIs, gCu, gWh, gFi, gSp, gO) (q + n)) → P2 K tp sz ea mk fr me va T dp od gd gb ge go gw gm (wh, isS, itS, gs, gst, nI E, em, be, en, gF, gIs, gCu, gWh, gFi, gSp, gO) q := by
  have n4 := wf.1
  intro n
  induction n with
  | zero =>
    intro q wh hq hm k1 k0
    rw [Nat.add_zero, erF_same] at k0
    exact k0 rfl wh (fun _ _ => rfl) (fun i a b => by omega)
  | succ n ih =>
    intro q wh hq hm k1 k0
    have mq := hm q (Nat.le_refl q) (by omega)
    have nx : q + (n + 1) = (q + 1) + n := by omega
    have jn : ∀ e, erF x (bdN x E cn) q (q + (n + 1)) e = erF x (bdN x E cn) (q + 1) ((q + 1) + n) (erF x (bdN x E cn) q (q + 1) e) := fun e => by rw [erF_join (by omega) (by omega), nx]
    rw [jn] at k0 k1
    by_cases h : kN x q = 44
    · rw [if_pos h] at mq
      have aq := (rm q (by omega)).2.2.2 h
      have hn := hnm q (by omega) h
      have bdq : bdN x E cn q = (emF cn (cN x q) E).isNone := by
        unfold bdN
        rw [decide_eq_true h, Bool.true_and]
      rw [erF_one, bdq] at k0 k1
      refine p2_empOf (x := x) (F := 0) (by omega) (by omega) mq (Or.inr rfl) (s_fr rm (by omega)) hE (fun z => absurd z (by decide)) (fun t => ?_) (fun t => ?_) (fun z => absurd z (by decide))
      · rw [aq, ← hn] at t
        rw [if_pos ⟨rfl, t⟩, erF_err (show (3 : Int32) ≠ 0 by decide)] at k1
        exact k1 (show (3 : Int32) ≠ 0 by decide)
      · rw [aq, ← hn] at t
        rw [aq, ← hn, if_neg (by decide)]
        rw [if_neg (fun z => by rw [t] at z; exact absurd z.2 (by decide))] at k0 k1
        refine ih (q + 1) _ (by omega) (fun i a b => hm i (by omega) (by omega)) k1 (fun z wh' b1 b2 => ?_)
        rw [← nx]
        rw [← nx] at k0 b2 z
        refine k0 z wh' (fun i hi => by rw [b1 i (by omega), un (by omega)]) (fun i a b c => ?_)
        rcases Nat.lt_or_ge q i with y | y
        · exact b2 i y (by omega) c
        · have : i = q := by omega
          subst this
          rw [b1 i (by omega), us]
    · rw [if_neg h] at mq
      rw [erF_no h] at k0 k1
      refine p2_0 (by omega) (by omega) mq (ih (q + 1) wh (by omega) (fun i a b => hm i (by omega) (by omega)) k1 (fun z wh' b1 b2 => ?_))
      rw [← nx]
      rw [← nx] at k0 b2 z
      refine k0 z wh' (fun i hi => b1 i (by omega)) (fun i a b c => ?_)
      rcases Nat.lt_or_ge q i with y | y
      · exact b2 i y (by omega) c
      · have : i = q := by omega
        subst this
        exact absurd c h
theorem seg_order (wf : wfN x) (rm : rNm x mk fr va) (hT : T ≤ nN x) (hE : E ≤ 6) (hO : O ≤ 16) {q : Nat} (hpq : p < q) (hq : q ≤ T) (hnm : ∀ i, i < nN x → kN x i = 44 → emF cn (cN x i) E = emF em (mN x i) E) (m0 : me p = nI 11) (hm : ∀ i, p + 1 ≤ i → i < q → me i = if kN x i = 44 then nI 12 else nI 0)
    (k1 : (erF x (bdN x E cn) (p + 1) q (ck x (decide (16 ≤ O)) 4 p eG)).1 ≠ 0 → KE K (erF x (bdN x E cn) (p + 1) q (ck x (decide (16 ≤ O)) 4 p eG))) (k0 : (erF x (bdN x E cn) (p + 1) q (ck x (decide (16 ≤ O)) 4 p eG)).1 = 0 → O < 16 → ∀ wh', (∀ i, i < p + 1 → wh' i = wh i) → (∀ i, p + 1 ≤ i → i < q → kN x i = 44 → wh' i = fI (emF cn (cN x i) E)) → P2 K tp sz ea mk fr me va T dp od gd gb ge go gw gm (wh', isS, itS, gs, gst, nI E, em, be, en, gF, gIs, gCu, gWh, gFi, gSp, nI (O + 1)) q) : P2 K tp sz ea mk fr me va T dp od gd gb ge go gw gm (wh, isS, itS, gs, gst, nI E, em, be, en, gF, gIs, gCu, gWh, gFi, gSp, nI O) p := by
  have n4 := wf.1
  obtain ⟨n, hn⟩ : ∃ n, q = (p + 1) + n := ⟨q - (p + 1), by omega⟩
  subst hn
  refine p2_order (x := x) (by omega) (by omega) m0 (s_fr rm (by omega)) hO (fun y => ?_) (fun y => ?_)
  · rw [ck_t (b := decide (16 ≤ O)) rfl (decide_eq_true (by omega)), erF_err (show (4 : Int32) ≠ 0 by decide)] at k1
    exact k1 (show (4 : Int32) ≠ 0 by decide)
  · rw [ck_f (b := decide (16 ≤ O)) (decide_eq_false (by omega))] at k0 k1
    exact seg_names wf rm hT hE hnm n (p + 1) wh hq hm k1 (fun z wh' b1 b2 => k0 z y wh' b1 b2)
end SEGS
