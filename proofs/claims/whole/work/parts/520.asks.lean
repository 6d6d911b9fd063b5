/-! each method asked from outside: what it answers, both -/
theorem in01 : vp_in (0 : Int32) 1 := pk_in 0 1 (by decide)
theorem sq_cases (q : Int32) (n : Nat) (hn : n < 2 ^ 31) : (∃ s, s < n ∧ q = nI s) ∨ (q < 0 ∨ ¬ q < nI n) := by
  by_cases h : q < 0
  · exact Or.inr (Or.inl h)
  · obtain ⟨j, hj, rfl⟩ := nI_of h
    by_cases h2 : j < n
    · exact Or.inl ⟨j, h2, rfl⟩
    · exact Or.inr (Or.inr (nI_nlt (by omega) hj))
/-- an answer: 0 and the value, or what was thrown -/
def oq (n : Nat) (q : Int32) (v : Nat → Int32 × Int32) : Int32 × Int32 := if q < 0 ∨ ¬ q < nI n then (1, 0) else v q.toNatClampNeg
theorem oq_n {n : Nat} {q : Int32} {v : Nat → Int32 × Int32} (h : q < 0 ∨ ¬ q < nI n) : oq n q v = (1, 0) := if_pos h
theorem oq_y {n s : Nat} {v : Nat → Int32 × Int32} (hs : s < n) (hn : n < 2 ^ 31) : oq n (nI s) v = v s := by
  unfold oq
  rw [if_neg (fun z => z.elim (nI_pos (by omega)) (fun z => z (nI_lt hs hn))), nI_clamp (by omega)]
def kC (K : Int32 → (Nat → Int64) → Prop) (o : Int32 × Int32) : Prop := ∀ W', (o.1 = 0 → W' (0 : Int32).toNatClampNeg = o.2.toInt64) → K o.1 W'
theorem kC_ok {K : Int32 → (Nat → Int64) → Prop} {v : Int32} (k : kC K (0, v)) {W : Nat → Int64} : vp_in 0 1 ∧ K 0 (vp_updL W (0 : Int32).toNatClampNeg v.toInt64) := ⟨in01, k _ (fun _ => upL_eq)⟩
theorem kC_no {K : Int32 → (Nat → Int64) → Prop} {c v : Int32} (k : kC K (c, v)) (hc : c ≠ 0) {W : Nat → Int64} : K c W := k W (fun z => absurd z hc)
theorem kC_b {K : Int32 → (Nat → Int64) → Prop} {b : Bool} (k : kC K (0, zB b)) {W : Nat → Int64} : (zB b = 0 → vp_in 0 1 ∧ K 0 (vp_updL W (0 : Int32).toNatClampNeg 0)) ∧ (¬ zB b = 0 → vp_in 0 1 ∧ K 0 (vp_updL W (0 : Int32).toNatClampNeg 1)) := by
  cases b
  · exact ⟨fun _ => ⟨in01, k _ (fun _ => upL_eq.trans (by decide))⟩, fun z => absurd ((zB_0 false).mpr rfl) z⟩
  · exact ⟨fun z => absurd ((zB_0 true).mp z) (by decide), fun _ => ⟨in01, k _ (fun _ => upL_eq.trans (by decide))⟩⟩
section NEED
variable {K : Unit → Prop} {KX : String → Prop} {K1 : Int32 → Unit → Prop} {q : Int32} {n s : Nat}
theorem ns_y (hs : s < n) (hn : n < 2 ^ 31) (k : K ()) : wX8_needSeat (nI n) (nI s) K KX := br_f (nI_pos (by omega)) (br_t (nI_lt hs hn) k)
theorem ns_n (h : q < 0 ∨ ¬ q < nI n) (k : KX "java/lang/IndexOutOfBoundsException") : wX8_needSeat (nI n) q K KX := by
  unfold wX8_needSeat
  by_cases h0 : q < 0
  · exact br_t h0 k
  · exact br_f h0 (br_f (h.resolve_left h0) k)
theorem nf_y (hs : s < n) (hn : n < 2 ^ 31) (k : K ()) : wX8_needFind (nI n) (nI s) K KX := br_f (nI_pos (by omega)) (br_t (nI_lt hs hn) k)
theorem nf_n (h : q < 0 ∨ ¬ q < nI n) (k : KX "java/lang/IndexOutOfBoundsException") : wX8_needFind (nI n) q K KX := by
  unfold wX8_needFind
  by_cases h0 : q < 0
  · exact br_t h0 k
  · exact br_f h0 (br_f (h.resolve_left h0) k)
theorem nt_y (hs : s < n) (hn : n < 2 ^ 31) (k : K ()) : wX8_needStratum (nI n) (nI s) K KX := br_f (nI_pos (by omega)) (br_t (nI_lt hs hn) k)
theorem nt_n (h : q < 0 ∨ ¬ q < nI n) (k : KX "java/lang/IndexOutOfBoundsException") : wX8_needStratum (nI n) q K KX := by
  unfold wX8_needStratum
  by_cases h0 : q < 0
  · exact br_t h0 k
  · exact br_f h0 (br_f (h.resolve_left h0) k)
theorem isIn_y (hs : s < n) (hn : n < 2 ^ 31) (k : K1 1 ()) : wX10_isIn (nI s) 0 (nI n - 1) K1 := by
  unfold wX10_isIn
  rw [nI_dec (by omega)]
  exact br_f (nI_pos (by omega)) (br_f (nI_nlt (by omega) (by omega)) k)
theorem isIn_n (h : q < 0 ∨ ¬ q < nI n) (hn : n < 2 ^ 31) (k : K1 0 ()) : wX10_isIn q 0 (nI n - 1) K1 := by
  unfold wX10_isIn
  by_cases h0 : q < 0
  · exact br_t h0 k
  · obtain ⟨j, hj, rfl⟩ := nI_of h0
    have h1 := h.resolve_left h0
    rw [nI_ltI hj hn] at h1
    refine br_f h0 (br_t ?_ k)
    rcases Nat.eq_zero_or_pos n with e | e
    · subst e
      rw [fa_lt, nI_toInt hj]
      have : (nI 0 - 1).toInt = -1 := by decide
      omega
    · rw [nI_dec e]
      exact nI_lt (by omega) hj
end NEED
section ASKED
variable {t : Tl} {p : Pn} {x : Gs} {S H L P F U N : Nat → Int32} {dy ca du sl fc sc pc : Int32} {W : Nat → Int64} {th q q2 : Int32} {C Cu De Fi Ts Fr To Pk Ps Pt Ks Ds Qb Qe Qc Qu Qw Qf Qs Qd Qbs Qes Qo Qx : Nat → Int32} {K : Int32 → (Nat → Int64) → Prop} {J : Int32 → Int32 → Prop}
theorem h8w (wt : wfT t) (w : wfX t x) : ∀ s, 8 ≤ s → (gA x).2.1 s = 0 := fun s hs => w.1.2.1 s (Nat.le_trans wt.1.2 hs)
theorem tp80 (w : wfX t x) {s : Nat} (h0 : 0 < (gA x).2.1 s) : tp (gA x) s < 80 := w.1.2.2 s _ (by omega)
theorem nc_y {K : Unit → Prop} {KX : String → Prop} {s : Nat} (wt : wfT t) (w : wfX t x) (r : rSG S H L P F U dy ca du sl fc sc pc x) (hs : s < tN t) (h0 : 0 < (gA x).2.1 s) (k : K ()) : wX8_needCushion (nI (tN t)) H (nI s) K KX := by
  have n8 := wt.1.2
  have h10 := w.1.1 s
  unfold wX8_needCushion
  exact ns_y hs (by omega) (sz_heightAt r.1.2.1 (h8w wt w) (by omega) (bn_f (nI_ne0 h0 (by omega)) k))
theorem nc_0 {K : Unit → Prop} {KX : String → Prop} {s : Nat} (wt : wfT t) (w : wfX t x) (r : rSG S H L P F U dy ca du sl fc sc pc x) (hs : s < tN t) (h0 : (gA x).2.1 s = 0) (k : KX "java/lang/IllegalStateException") : wX8_needCushion (nI (tN t)) H (nI s) K KX := by
  have n8 := wt.1.2
  unfold wX8_needCushion
  exact ns_y hs (by omega) (sz_heightAt r.1.2.1 (h8w wt w) (by omega) (bn_t (by rw [h0]; exact nI_0) k))
theorem nc_n {K : Unit → Prop} {KX : String → Prop} (h : q < 0 ∨ ¬ q < nI (tN t)) (k : KX "java/lang/IndexOutOfBoundsException") : wX8_needCushion (nI (tN t)) H q K KX := ns_n h k
theorem ht_y {s : Nat} (wt : wfT t) (w : wfX t x) (g : rMG N x) (hs : s < tN t) (h0 : 0 < (gA x).2.1 s) (k : J 1 0) : wX10_hasTop th N (nI (tN t)) (nI s) J := by
  have n8 := wt.1.2
  have h10 := w.1.1 s
  unfold wX10_hasTop wX10_isSeat
  refine isIn_y hs (by omega) (bn_f (by decide) (sm_tall g (by omega) (bn_f (nI_ne0 h0 (by omega)) ?_)))
  unfold wX10_hasTop_26
  exact bn_t rfl k
theorem ht_0 {s : Nat} (wt : wfT t) (g : rMG N x) (hs : s < tN t) (h0 : (gA x).2.1 s = 0) (k : J 0 2) : wX10_hasTop th N (nI (tN t)) (nI s) J := by
  have n8 := wt.1.2
  unfold wX10_hasTop wX10_isSeat
  refine isIn_y hs (by omega) (bn_f (by decide) (sm_tall g (by omega) (bn_t (by rw [h0]; exact nI_0) ?_)))
  unfold wX10_hasTop_26
  exact bn_f (by decide) k
theorem ht_n (wt : wfT t) (h : q < 0 ∨ ¬ q < nI (tN t)) (k : J 0 1) : wX10_hasTop th N (nI (tN t)) q J := by
  have n8 := wt.1.2
  unfold wX10_hasTop wX10_isSeat
  refine isIn_n h (by omega) (bn_t rfl ?_)
  unfold wX10_hasTop_26
  exact bn_f (by decide) k
/-! seats -/
def oH (t : Tl) (x : Gs) (q : Int32) : Int32 × Int32 := oq (tN t) q (fun s => (0, nI ((gA x).2.1 s)))
theorem cl_heightOf (wt : wfT t) (w : wfX t x) (r : rSG S H L P F U dy ca du sl fc sc pc x) (k : kC K (oH t x q)) : wL_heightOf (nI (tN t)) H W q K := by
  have n8 := wt.1.2
  unfold oH at k
  unfold wL_heightOf wX8_heightOf
  rcases sq_cases q (tN t) (by omega) with ⟨s, hs, rfl⟩ | hno
  · rw [oq_y hs (by omega)] at k
    exact ns_y hs (by omega) (sz_heightAt r.1.2.1 (h8w wt w) (by omega) (kC_ok k))
  · rw [oq_n hno] at k
    exact ns_n hno ⟨rfl, kC_no k (by decide)⟩
theorem ml_heightOf (wt : wfT t) (g : rMG N x) (k : J (oH t x q).2 (oH t x q).1) : wX10_heightOf th N (nI (tN t)) q J := by
  have n8 := wt.1.2
  unfold oH at k
  unfold wX10_heightOf wX10_isSeat
  rcases sq_cases q (tN t) (by omega) with ⟨s, hs, rfl⟩ | hno
  · rw [oq_y hs (by omega)] at k
    exact isIn_y hs (by omega) (br_f (by decide) (sm_tall g (by omega) k))
  · rw [oq_n hno] at k
    exact isIn_n hno (by omega) (br_t rfl k)
def oP (t : Tl) (x : Gs) (q : Int32) : Int32 × Int32 := oq (tN t) q (fun s => (0, zB (gP x s)))
theorem cl_isPropped (wt : wfT t) (r : rSG S H L P F U dy ca du sl fc sc pc x) (k : kC K (oP t x q)) : wL_isPropped (nI (tN t)) P W q K := by
  have n8 := wt.1.2
  unfold oP at k
  unfold wL_isPropped wX8_isPropped
  rcases sq_cases q (tN t) (by omega) with ⟨s, hs, rfl⟩ | hno
  · rw [oq_y hs (by omega)] at k
    exact ns_y hs (by omega) (sz_hasProp r.1.2.2.2.1 (by omega) (kC_b k))
  · rw [oq_n hno] at k
    exact ns_n hno ⟨rfl, kC_no k (by decide)⟩
theorem ml_isPropped (wt : wfT t) (g : rMG N x) (k : J (oP t x q).2 (oP t x q).1) : wX10_isPropped th N (nI (tN t)) q J := by
  have n8 := wt.1.2
  unfold oP at k
  unfold wX10_isPropped wX10_isSeat
  rcases sq_cases q (tN t) (by omega) with ⟨s, hs, rfl⟩ | hno
  · rw [oq_y hs (by omega)] at k
    exact isIn_y hs (by omega) (br_f (by decide) (sm_hasProp g (by omega) k))
  · rw [oq_n hno] at k
    exact isIn_n hno (by omega) (br_t rfl k)
/-- an answer about a seat's top -/
def oT (t : Tl) (x : Gs) (q : Int32) (v : Nat → Int32) : Int32 × Int32 := oq (tN t) q (fun s => if (gA x).2.1 s = 0 then (2, 0) else (0, v s))
theorem oT_y {s : Nat} {v : Nat → Int32} (wt : wfT t) (hs : s < tN t) (h0 : 0 < (gA x).2.1 s) : oT t x (nI s) v = (0, v s) := by
  have n8 := wt.1.2
  unfold oT
  rw [oq_y hs (by omega), if_neg (by omega)]
theorem oT_0 {s : Nat} {v : Nat → Int32} (wt : wfT t) (hs : s < tN t) (h0 : (gA x).2.1 s = 0) : oT t x (nI s) v = (2, 0) := by
  have n8 := wt.1.2
  unfold oT
  rw [oq_y hs (by omega), if_pos h0]
theorem oT_n {v : Nat → Int32} (h : q < 0 ∨ ¬ q < nI (tN t)) : oT t x q v = (1, 0) := oq_n h
theorem st_cases (t : Tl) (x : Gs) (q : Int32) (wt : wfT t) : (∃ s, s < tN t ∧ q = nI s ∧ 0 < (gA x).2.1 s) ∨ (∃ s, s < tN t ∧ q = nI s ∧ (gA x).2.1 s = 0) ∨ (q < 0 ∨ ¬ q < nI (tN t)) := by
  have n8 := wt.1.2
  rcases sq_cases q (tN t) (by omega) with ⟨s, hs, e⟩ | hno
  · rcases Nat.eq_zero_or_pos ((gA x).2.1 s) with h | h
    · exact Or.inr (Or.inl ⟨s, hs, e, h⟩)
    · exact Or.inl ⟨s, hs, e, h⟩
  · exact Or.inr (Or.inr hno)
theorem sz_topX (wt : wfT t) (w : wfX t x) (r : rSG S H L P F U dy ca du sl fc sc pc x) {s : Nat} (hs : s < tN t) (h0 : 0 < (gA x).2.1 s) {K : Int32 → Unit → Prop} (k : K (nI (tp (gA x) s)) ()) : wX4_topOf S H (nI s) K := by
  have n8 := wt.1.2
  exact sz_topOf r.1.1 r.1.2.1 (by omega) h0 (w.1.1 s) (h8w wt w) k
theorem sm_topX (wt : wfT t) (w : wfX t x) (g : rMG N x) {s : Nat} (hs : s < tN t) (h0 : 0 < (gA x).2.1 s) {K : Int32 → Unit → Prop} (k : K (nI (tp (gA x) s)) ()) : wX10_top N (nI s) K := by
  have n8 := wt.1.2
  exact sm_top g w.1.1 (by omega) h0 k
theorem cl_topStratum (wt : wfT t) (w : wfX t x) (r : rSG S H L P F U dy ca du sl fc sc pc x) (k : kC K (oT t x q (fun s => nI (tp (gA x) s % 10)))) : wL_topStratum (nI (tN t)) S H W q K := by
  unfold wL_topStratum wX8_topStratum
  rcases st_cases t x q wt with ⟨s, hs, rfl, h0⟩ | ⟨s, hs, rfl, h0⟩ | hno
  · rw [oT_y wt hs h0] at k
    exact nc_y wt w r hs h0 (sz_topX wt w r hs h0 (sz_stratumOfCushion (tp80 w h0) (kC_ok k)))
  · rw [oT_0 wt hs h0] at k
    exact nc_0 wt w r hs h0 (Or.inr ⟨rfl, kC_no k (by decide)⟩)
  · rw [oT_n hno] at k
    exact nc_n hno (Or.inl ⟨rfl, kC_no k (by decide)⟩)
theorem ml_topStratum (wt : wfT t) (w : wfX t x) (g : rMG N x) (k : J (oT t x q (fun s => nI (tp (gA x) s % 10))).2 (oT t x q (fun s => nI (tp (gA x) s % 10))).1) : wX10_topStratum th N (nI (tN t)) q J := by
  unfold wX10_topStratum
  rcases st_cases t x q wt with ⟨s, hs, rfl, h0⟩ | ⟨s, hs, rfl, h0⟩ | hno
  · rw [oT_y wt hs h0] at k
    have h80 := tp80 w h0
    refine ht_y wt w g hs h0 (br_f (by decide) (sm_topX wt w g hs h0 ?_))
    rw [show (10 : Int32) = nI 10 from rfl, pk_rem (by omega) (by decide) (by decide)]
    exact k
  · rw [oT_0 wt hs h0] at k
    exact ht_0 wt g hs h0 (br_t rfl k)
  · rw [oT_n hno] at k
    exact ht_n wt hno (br_t rfl k)
theorem cl_isTopLoose (wt : wfT t) (w : wfX t x) (r : rSG S H L P F U dy ca du sl fc sc pc x) (k : kC K (oT t x q (fun s => zB ((gA x).2.2 (tp (gA x) s))))) : wL_isTopLoose (nI (tN t)) S H L W q K := by
  unfold wL_isTopLoose wX8_isTopLoose
  rcases st_cases t x q wt with ⟨s, hs, rfl, h0⟩ | ⟨s, hs, rfl, h0⟩ | hno
  · rw [oT_y wt hs h0] at k
    exact nc_y wt w r hs h0 (sz_topX wt w r hs h0 (sz_isLoose r.1.2.2.1 (tp80 w h0) (kC_b k)))
  · rw [oT_0 wt hs h0] at k
    exact nc_0 wt w r hs h0 (Or.inr ⟨rfl, kC_no k (by decide)⟩)
  · rw [oT_n hno] at k
    exact nc_n hno (Or.inl ⟨rfl, kC_no k (by decide)⟩)
theorem ml_isTopLoose (wt : wfT t) (w : wfX t x) (g : rMG N x) (k : J (oT t x q (fun s => zB ((gA x).2.2 (tp (gA x) s)))).2 (oT t x q (fun s => zB ((gA x).2.2 (tp (gA x) s)))).1) : wX10_isTopLoose th N (nI (tN t)) q J := by
  unfold wX10_isTopLoose
  rcases st_cases t x q wt with ⟨s, hs, rfl, h0⟩ | ⟨s, hs, rfl, h0⟩ | hno
  · rw [oT_y wt hs h0] at k
    have h80 := tp80 w h0
    refine ht_y wt w g hs h0 (br_f (by decide) (sm_topX wt w g hs h0 ?_))
    rw [n93]
    refine ⟨vp_in_nI (by omega) (by decide), ?_⟩
    rw [nI_clamp (by omega), g.2.2.1 _ h80]
    cases e : (gA x).2.2 (tp (gA x) s)
    · rw [e] at k
      exact ⟨fun _ => k, fun z => absurd z (by decide)⟩
    · rw [e] at k
      exact bn_t (by decide) k
  · rw [oT_0 wt hs h0] at k
    exact ht_0 wt g hs h0 (br_t rfl k)
  · rw [oT_n hno] at k
    exact ht_n wt hno (br_t rfl k)
theorem cl_hasTopSpring (wt : wfT t) (w : wfX t x) (r : rSG S H L P F U dy ca du sl fc sc pc x) (hTs : rB 80 Ts (tSp t)) (k : kC K (oT t x q (fun s => zB (tSp t (tp (gA x) s))))) : wL_hasTopSpring (nI (tN t)) Ts S H W q K := by
  unfold wL_hasTopSpring wX8_hasTopSpring
  rcases st_cases t x q wt with ⟨s, hs, rfl, h0⟩ | ⟨s, hs, rfl, h0⟩ | hno
  · rw [oT_y wt hs h0] at k
    exact nc_y wt w r hs h0 (sz_topX wt w r hs h0 (sz_hasSpring hTs (tp80 w h0) (kC_b k)))
  · rw [oT_0 wt hs h0] at k
    exact nc_0 wt w r hs h0 (Or.inr ⟨rfl, kC_no k (by decide)⟩)
  · rw [oT_n hno] at k
    exact nc_n hno (Or.inl ⟨rfl, kC_no k (by decide)⟩)
theorem ml_hasTopSpring (wt : wfT t) (w : wfX t x) (g : rMG N x) (hQs : rB 80 Qs (tSp t)) (k : J (oT t x q (fun s => zB (tSp t (tp (gA x) s)))).2 (oT t x q (fun s => zB (tSp t (tp (gA x) s)))).1) : wX10_hasTopSpring th N (nI (tN t)) Qs q J := by
  unfold wX10_hasTopSpring
  rcases st_cases t x q wt with ⟨s, hs, rfl, h0⟩ | ⟨s, hs, rfl, h0⟩ | hno
  · rw [oT_y wt hs h0] at k
    have h80 := tp80 w h0
    refine ht_y wt w g hs h0 (br_f (by decide) (sm_topX wt w g hs h0 ⟨vp_in_nI h80 (by decide), ?_⟩))
    rw [nI_clamp (by omega)]
    refine bz (hQs _ h80) (fun e => ?_) (fun e => ?_)
    · rw [e] at k
      exact k
    · rw [e] at k
      exact k
  · rw [oT_0 wt hs h0] at k
    exact ht_0 wt g hs h0 (br_t rfl k)
  · rw [oT_n hno] at k
    exact ht_n wt hno (br_t rfl k)
def oLf (t : Tl) (x : Gs) (q : Int32) : Int32 × Int32 := oq (tN t) q (fun s => (0, nI (lf t (gA x) s)))
theorem cl_findsLeft (wt : wfT t) (w : wfX t x) (r : rSG S H L P F U dy ca du sl fc sc pc x) (hFi : ∀ c, c < 80 → Fi c = fI (tFi t c)) (k : kC K (oLf t x q)) : wL_findsLeft (nI (tN t)) Fi S H W q K := by
  have n8 := wt.1.2
  unfold oLf at k
  unfold wL_findsLeft wX8_findsLeft
  rcases sq_cases q (tN t) (by omega) with ⟨s, hs, rfl⟩ | hno
  · rw [oq_y hs (by omega)] at k
    exact ns_y hs (by omega) (sz_findsInStack wt w.1 r.1.1 r.1.2.1 hFi hs (kC_ok k))
  · rw [oq_n hno] at k
    exact ns_n hno ⟨rfl, kC_no k (by decide)⟩
theorem ml_findsLeft (wt : wfT t) (w : wfX t x) (g : rMG N x) (hQf : ∀ c, c < 80 → Qf c = fI (tFi t c)) (k : J (oLf t x q).2 (oLf t x q).1) : wX10_findsLeft th N (nI (tN t)) Qf q J := by
  have n8 := wt.1.2
  unfold oLf at k
  unfold wX10_findsLeft wX10_isSeat
  rcases sq_cases q (tN t) (by omega) with ⟨s, hs, rfl⟩ | hno
  · rw [oq_y hs (by omega)] at k
    exact isIn_y hs (by omega) (br_f (by decide) (sm_left wt w.1 g hQf hs k))
  · rw [oq_n hno] at k
    exact isIn_n hno (by omega) (br_t rfl k)
end ASKED
