/-! the same things asked of the model -/
section ASKM
variable {N Qc Qu Qw Qb Qe Qf : Nat → Int32} {K : Int32 → Unit → Prop} {t : Tl} {fa : Nat → Nat} {a : Sg} {pr : Nat → Bool} {dy ca du sl : Int32}
theorem sm_one {b : Bool} (k : K (zB b) ()) : wX10_one (zB b) K := by
  unfold wX10_one
  exact bzK rfl k
theorem sm_sure (r : rM N a pr fa dy ca du sl) (h2 : ∀ f, fa f ≤ 2) {f : Nat} (hf : f < 24) (k : K (zB (decide (fa f = 2))) ()) : wX10_sure N (nI f) K := by
  unfold wX10_sure
  rw [n173, nI_clamp (by omega), r.2.2.2.1 f hf]
  have b := h2 f
  refine ⟨vp_in_nI (by omega) (by decide), ?_⟩
  by_cases e : fa f = 2
  · refine bn_t (by rw [e]; rfl) ?_
    have : decide (fa f = 2) = true := by simp [e]
    rw [this] at k; exact k
  · refine bn_f (fun z => e ((nI_eq (by omega) (by decide)).mp z)) ?_
    have : decide (fa f = 2) = false := by simp [e]
    rw [this] at k; exact k
theorem sm_stratum (wt : wfT t) (ru : rN (tF t) Qu (tCu t)) {f : Nat} (hf : f < tF t) (k : K (nI (tCu t f % 10)) ()) : wX10_stratum Qu (nI f) K := by
  have n24 := wt.2.2.2.1
  have b := (wt.2.2.2.2.1 f hf).1
  unfold wX10_stratum
  refine ⟨vp_in_nI (by omega) (by decide), ?_⟩
  rw [nI_clamp (by omega), ru f hf, show (10 : Int32) = nI 10 from rfl, pk_rem (by omega) (by decide) (by decide)]
  exact k
theorem sm_notBeforeNow (wt : wfT t) (r : rM N a pr fa dy ca du sl) (h2 : ∀ f, fa f ≤ 2) (rc : rB (tF t) Qc (tCo t)) (rd : ∀ f, f < tF t → Qw f = tDe t f) (rf : ∀ e, e < tE t → Qb e = tFr t e) (ru : rN (tF t) Qu (tCu t)) {k : Nat} (hk : k < 10) (kk : K (eyr t fa k (tF t)) ()) : wX10_notBeforeNow N Qb (nI (tF t)) Qc Qu Qw (nI k) K := by
  have n24 := wt.2.2.2.1
  have n6 := wt.2.2.1
  unfold wX10_notBeforeNow
  refine pk_loop (fun n i (y : Int32) => wX10_notBeforeNow_4 K N Qb (nI (tF t)) Qc Qu Qw n (nI k) y (nI i)) (fun i y => y = eyr t fa k i) (tF t) 0 (-1) (Nat.zero_le _) rfl (fun n y hy => ?_) (fun n i y hi hy ih => ?_)
  · subst hy
    unfold wX10_notBeforeNow_4
    exact br_t (nI_le (Nat.le_refl _) (by omega)) kk
  · subst hy
    have ih := ih _ rfl
    unfold eyr at ih
    unfold wX10_notBeforeNow_4
    refine br_f (nI_ge hi (by omega)) (sm_sure r h2 (by omega) (bz rfl (fun e => ?_) (fun e => ?_)))
    · have : ¬ (fa i = 2 ∧ tCu t i % 10 ≤ k) := fun z => by rw [decide_eq_false_iff_not] at e; exact e z.1
      rw [if_neg this] at ih
      unfold wX10_notBeforeNow_78
      rw [nI_1]
      exact ih
    · rw [decide_eq_true_eq] at e
      refine sm_stratum wt ru hi (pk_lt k (tCu t i % 10) (fun q => ?_) (fun q => ⟨vp_in_nI (by omega) (by decide), ?_⟩))
      · rw [if_neg (by omega)] at ih
        unfold wX10_notBeforeNow_78
        rw [nI_1]
        exact ih
      · rw [if_pos ⟨e, q⟩] at ih
        rw [nI_clamp (by omega)]
        unfold wX10_notBeforeNow_74 wX10_notBeforeNow_78
        rw [nI_1, rd i hi]
        unfold yrF at ih
        refine bz (rc i hi) (fun c => ⟨vp_in_nI (by omega) (by decide), ?_, ?_⟩) (fun c => ⟨vp_in_nI (by omega) (by decide), ?_⟩)
        · obtain ⟨x, hx, hd⟩ := wt.2.2.2.2.2.2 i hi c
          rw [hd]
          exact vp_in_nI (by omega) (by decide)
        · obtain ⟨x, hx, hd⟩ := wt.2.2.2.2.2.2 i hi c
          rw [c, hd, nI_clamp (by omega)] at ih
          rw [hd, nI_clamp (by omega), rf x hx]
          exact ih
        · rw [c] at ih
          exact ih
theorem sm_seenIn (wt : wfT t) (r : rM N a pr fa dy ca du sl) (h2 : ∀ f, fa f ≤ 2) (rc : rB (tF t) Qc (tCo t)) (rd : ∀ f, f < tF t → Qw f = tDe t f) (ru : rN (tF t) Qu (tCu t)) {k e : Nat} (hk : k < 10) (he : e < 2 ^ 31) (kk : K (zB (anyB (snP t fa k e) (tF t))) ()) : wX10_seenIn N (nI (tF t)) Qc Qu Qw (nI k) (nI e) K := by
  have n24 := wt.2.2.2.1
  unfold wX10_seenIn
  refine lp_any (W := fun n i => wX10_seenIn_2 K N (nI (tF t)) Qc Qu Qw n (nI k) (nI e) (nI i)) (snP t fa k e) (tF t) (K 0 ()) (K 1 ()) (fun n h => ?_) (fun n i hi hy hn => ?_) (fun z => by rw [z] at kk; exact kk) (fun z => by rw [z] at kk; exact kk)
  · unfold wX10_seenIn_2
    exact br_t (nI_le (Nat.le_refl _) (by omega)) h
  · unfold wX10_seenIn_2
    have next : snP t fa k e i = false → wX10_seenIn_57 K (wX10_seenIn_2 K N (nI (tF t)) Qc Qu Qw n) N (nI (tF t)) Qc Qu Qw (nI k) (nI e) (nI i) := by
      intro z
      unfold wX10_seenIn_57
      rw [nI_1]
      exact hn z
    refine br_f (nI_ge hi (by omega)) (sm_sure r h2 (by omega) (bz rfl (fun q => ?_) (fun q => ⟨vp_in_nI (by omega) (by decide), ?_⟩)))
    · exact next (by unfold snP; rw [q]; rfl)
    · rw [nI_clamp (by omega)]
      refine bz' (rc i hi) (fun c => ⟨vp_in_nI (by omega) (by decide), ?_⟩) (fun c => next ?_)
      · rw [rd i hi]
        by_cases z : tDe t i = nI e
        · refine bn_t z (sm_stratum wt ru hi ?_)
          by_cases s : tCu t i % 10 = k
          · rw [s]
            refine bn_t rfl (hy ?_)
            unfold snP
            rw [q, c, z]
            simp [s]
          · refine bn_f (fun z => s ((nI_eq (by omega) (by omega)).mp z)) (next ?_)
            unfold snP
            simp [s]
        · refine bn_f z (next ?_)
          unfold snP
          simp [z]
      · unfold snP; rw [c]; simp
theorem sm_seen (wt : wfT t) (r : rM N a pr fa dy ca du sl) (h2 : ∀ f, fa f ≤ 2) (rc : rB (tF t) Qc (tCo t)) (rd : ∀ f, f < tF t → Qw f = tDe t f) (ru : rN (tF t) Qu (tCu t)) {e : Nat} (he : e < 2 ^ 31) (kk : K (zB (anyB (snP0 t fa e) (tF t))) ()) : wX10_seen N (nI (tM t)) (nI (tF t)) Qc Qu Qw (nI e) K := by
  have m10 := wt.2.1.2
  rw [← sn_any wt e] at kk
  unfold wX10_seen
  refine lp_any (W := fun n i => wX10_seen_2 K N (nI (tM t)) (nI (tF t)) Qc Qu Qw n (nI e) (nI i)) (fun k => anyB (snP t fa k e) (tF t)) (tM t) (K 0 ()) (K 1 ()) (fun n h => ?_) (fun n i hi hy hn => ?_) (fun z => by rw [z] at kk; exact kk) (fun z => by rw [z] at kk; exact kk)
  · unfold wX10_seen_2
    exact br_t (nI_le (Nat.le_refl _) (by omega)) h
  · unfold wX10_seen_2
    refine br_f (nI_ge hi (by omega)) (sm_seenIn wt r h2 rc rd ru (by omega) he (bz rfl (fun z => ?_) (fun z => hy z)))
    rw [nI_1]
    exact hn z
theorem sm_mixed (wt : wfT t) (r : rM N a pr fa dy ca du sl) (h2 : ∀ f, fa f ≤ 2) (rc : rB (tF t) Qc (tCo t)) (rd : ∀ f, f < tF t → Qw f = tDe t f) (ru : rN (tF t) Qu (tCu t)) (rf : ∀ e, e < tE t → Qb e = tFr t e) (ro : ∀ e, e < tE t → Qe e = tTo t e) {k : Nat} (hk : k < 10) (kk : K (zB (anyB (fun x => anyB (mxP t fa k x) (tE t)) (tE t))) ()) : wX10_mixed N (nI (tE t)) Qb Qe (nI (tF t)) Qc Qu Qw (nI k) K := by
  have n6 := wt.2.2.1
  unfold wX10_mixed
  refine lp_any (W := fun n i => wX10_mixed_2 K N (nI (tE t)) Qb Qe (nI (tF t)) Qc Qu Qw n (nI k) (nI i)) (fun x => anyB (mxP t fa k x) (tE t)) (tE t) (K 0 ()) (K 1 ()) (fun n h => ?_) (fun n i hi hy hn => ?_) (fun z => by rw [z] at kk; exact kk) (fun z => by rw [z] at kk; exact kk)
  · unfold wX10_mixed_2
    exact br_t (nI_le (Nat.le_refl _) (by omega)) h
  · unfold wX10_mixed_2
    refine br_f (nI_ge hi (by omega)) ?_
    refine lp_any (W := fun m j => wX10_mixed_15 K (wX10_mixed_2 K N (nI (tE t)) Qb Qe (nI (tF t)) Qc Qu Qw n) N (nI (tE t)) Qb Qe (nI (tF t)) Qc Qu Qw m (nI k) (nI i) (nI j)) (mxP t fa k i) (tE t) (wX10_mixed_2 K N (nI (tE t)) Qb Qe (nI (tF t)) Qc Qu Qw n (nI k) (nI (i + 1))) (K 1 ()) (fun m h => ?_) (fun m j hj hy2 hn2 => ?_) (fun z => hn z) (fun z => hy z)
    · unfold wX10_mixed_15
      refine br_t (nI_le (Nat.le_refl _) (by omega)) ?_
      rw [nI_1]; exact h
    · unfold wX10_mixed_15
      have next : mxP t fa k i j = false → wX10_mixed_67 K (wX10_mixed_2 K N (nI (tE t)) Qb Qe (nI (tF t)) Qc Qu Qw n) (wX10_mixed_15 K (wX10_mixed_2 K N (nI (tE t)) Qb Qe (nI (tF t)) Qc Qu Qw n) N (nI (tE t)) Qb Qe (nI (tF t)) Qc Qu Qw m) N (nI (tE t)) Qb Qe (nI (tF t)) Qc Qu Qw (nI k) (nI i) (nI j) := by
        intro z
        unfold wX10_mixed_67
        rw [nI_1]
        exact hn2 z
      rw [nI_clamp (by omega), nI_clamp (by omega), ro i hi, rf j hj]
      refine br_f (nI_ge hj (by omega)) ⟨vp_in_nI (by omega) (by decide), vp_in_nI (by omega) (by decide), fun q => next ?_, fun q => ?_⟩
      · unfold mxP
        have : ¬ tTo t i < tFr t j := nlt_le.mpr q
        simp [this]
      · have q2 : tTo t i < tFr t j := by
          rw [fa_le] at q; rw [fa_lt]; omega
        refine sm_seenIn wt r h2 rc rd ru hk (by omega) (bz rfl (fun e1 => next ?_) (fun e1 => ?_))
        · unfold mxP; rw [e1]; simp
        · refine sm_seenIn wt r h2 rc rd ru hk (by omega) (bz rfl (fun e2 => next ?_) (fun e2 => hy2 ?_))
          · unfold mxP; rw [e2]; simp
          · unfold mxP; rw [e1, e2]; simp [q2]
theorem sm_left (wt : wfT t) (w : wfS (tN t) a) (r : rM N a pr fa dy ca du sl) (hQf : ∀ c, c < 80 → Qf c = fI (tFi t c)) {s : Nat} (hs : s < tN t) (kk : K (nI (lf t a s)) ()) : wX10_left N Qf (nI s) K := by
  have n8 := wt.1.2
  have b := w.1 s
  unfold wX10_left
  refine pk_loop (fun n i (y : Int32) => wX10_left_4 K N Qf n (nI s) y (nI i)) (fun i y => y = nI (fb_ct (lfP t a s) i)) (a.2.1 s) 0 0 (Nat.zero_le _) rfl (fun n y hy => ?_) (fun n i y hi hy ih => ?_)
  · subst hy
    unfold wX10_left_4
    exact sm_tall r (by omega) (br_t (nI_le (Nat.le_refl _) (by omega)) kk)
  · subst hy
    have hc := w.2.2 s i hi
    have ih := ih _ rfl
    rw [fb_ct_succ] at ih
    unfold wX10_left_4
    refine sm_tall r (by omega) (br_f (nI_ge hi (by omega)) ?_)
    rw [n13, nI_clamp (by omega), r.2.1 s i (by omega) hi, nI_clamp (by omega), hQf _ hc]
    have hl : ∀ f, tFi t (a.1 (s * 10 + i)) = some f → f < 24 := fun f e => by have := (wt.2.2.2.2.2.1 _ _ hc e).1; have := wt.2.2.2.1; omega
    rw [fI_none hl]
    refine ⟨vp_in_nI (by omega) (by decide), vp_in_nI hc (by decide), fun z => ?_, fun z => ?_⟩
    · have e : lfP t a s i = false := z
      rw [e] at ih
      unfold wX10_left_45
      refine sm_one (b := false) ?_
      rw [nI_1]
      have : nI (fb_ct (lfP t a s) i) + zB false = nI (fb_ct (lfP t a s) i + 0) := by rw [← nI_add]; rfl
      rw [this]
      exact ih
    · have e : lfP t a s i = true := by
        unfold lfP
        cases q : (tFi t (a.1 (s * 10 + i))).isSome
        · exact absurd q z
        · rfl
      rw [e] at ih
      unfold wX10_left_45
      refine sm_one (b := true) ?_
      rw [nI_1]
      have : nI (fb_ct (lfP t a s) i) + zB true = nI (fb_ct (lfP t a s) i + 1) := by rw [← nI_add]; rfl
      rw [this]
      exact ih
theorem ct_cut {p : Nat → Bool} {m n : Nat} (h : m ≤ n) (hp : ∀ k, m ≤ k → p k = false) : fb_ct p n = fb_ct p m := by
  obtain ⟨d, rfl⟩ : ∃ d, n = m + d := ⟨n - m, by omega⟩
  rw [fb_ct_split, fb_ct_zero.mpr (fun k _ => hp (m + k) (by omega))]
  rfl
theorem sm_foundNow (wt : wfT t) (r : rM N a pr fa dy ca du sl) (h2 : ∀ f, fa f ≤ 2) (hz : ∀ f, tF t ≤ f → fa f = 0) {v : Nat} (hv : 0 < v) (hv2 : v < 10) (kk : K (nI (fb_ct (fun f => decide (v ≤ fa f)) 24)) ()) : wX10_foundNow N (nI (tF t)) (nI v) K := by
  have n24 := wt.2.2.2.1
  have ez : ∀ k, tF t ≤ k → (fun f => decide (v ≤ fa f)) k = false := fun k hk => by
    show decide (v ≤ fa k) = false
    rw [hz k hk]; simp; omega
  rw [ct_cut n24 ez] at kk
  unfold wX10_foundNow
  refine pk_loop (fun n i (y : Int32) => wX10_foundNow_4 K N (nI (tF t)) n (nI v) y (nI i)) (fun i y => y = nI (fb_ct (fun f => decide (v ≤ fa f)) i)) (tF t) 0 0 (Nat.zero_le _) rfl (fun n y hy => ?_) (fun n i y hi hy ih => ?_)
  · subst hy
    unfold wX10_foundNow_4
    exact br_t (nI_le (Nat.le_refl _) (by omega)) kk
  · subst hy
    have ih := ih _ rfl
    rw [fb_ct_succ] at ih
    have b := h2 i
    unfold wX10_foundNow_4
    rw [n173, nI_clamp (by omega), r.2.2.2.1 i (by omega)]
    refine br_f (nI_ge hi (by omega)) ⟨vp_in_nI (by omega) (by decide), pk_lt (fa i) v (fun q => ?_) (fun q => ?_)⟩
    · unfold wX10_foundNow_35
      refine sm_one (b := false) ?_
      rw [nI_1]
      have e : decide (v ≤ fa i) = false := by simp; omega
      rw [e] at ih
      have : nI (fb_ct (fun f => decide (v ≤ fa f)) i) + zB false = nI (fb_ct (fun f => decide (v ≤ fa f)) i + 0) := by rw [← nI_add]; rfl
      rw [this]
      exact ih
    · unfold wX10_foundNow_35
      refine sm_one (b := true) ?_
      rw [nI_1]
      have e : decide (v ≤ fa i) = true := by simp; omega
      rw [e] at ih
      have : nI (fb_ct (fun f => decide (v ≤ fa f)) i) + zB true = nI (fb_ct (fun f => decide (v ≤ fa f)) i + 1) := by rw [← nI_add]; rfl
      rw [this]
      exact ih
end ASKM
set_option maxRecDepth 20000 in
theorem m8_cnt : ∀ (b0 b1 b2 b3 b4 b5 b6 b7 : Bool), wJ6_bitCount_0f7a4 (nI (m8 b0 b1 b2 b3 b4 b5 b6 b7)) (fun r _ => r = nI ((if b0 = true then 1 else 0) + (if b1 = true then 1 else 0) + (if b2 = true then 1 else 0) + (if b3 = true then 1 else 0) + (if b4 = true then 1 else 0) + (if b5 = true then 1 else 0) + (if b6 = true then 1 else 0) + (if b7 = true then 1 else 0))) := by
  unfold wJ6_bitCount_0f7a4
  decide +kernel
theorem sm_bitCount {p : Nat → Bool} {K : Int32 → Unit → Prop} (k : K (nI (fb_ct p 8)) ()) : wJ6_bitCount_0f7a4 (nI (mk8 p)) K := by
  have h := m8_cnt (p 0) (p 1) (p 2) (p 3) (p 4) (p 5) (p 6) (p 7)
  unfold wJ6_bitCount_0f7a4 at h ⊢
  unfold mk8
  rw [h]
  have e : fb_ct p 8 = (if p 0 = true then 1 else 0) + (if p 1 = true then 1 else 0) + (if p 2 = true then 1 else 0) + (if p 3 = true then 1 else 0) + (if p 4 = true then 1 else 0) + (if p 5 = true then 1 else 0) + (if p 6 = true then 1 else 0) + (if p 7 = true then 1 else 0) := by
    simp only [fb_ct]
    omega
  rw [← e]
  exact k
-- the cushion that lies at a place is the first found there, by both
section BURIED
variable {S H N Qu : Nat → Int32} {K : Int32 → Unit → Prop} {t : Tl} {fa : Nat → Nat} {a : Sg} {pr : Nat → Bool} {dy ca du sl : Int32}
theorem sz_cushionsAbove (wt : wfT t) (w : wfG t a pr fa) (rs : rN 80 S a.1) (rh : rN 8 H a.2.1) {s0 j0 : Nat} (hs : s0 < tN t) (hj : j0 < a.2.1 s0) (kk : K (nI (a.2.1 s0 - 1 - j0)) ()) : wX4_cushionsAbove (nI (tN t)) S H (nI (a.1 (s0 * 10 + j0))) K := by
  have n8 := wt.1.2
  have w1 := w.1
  have h8 : ∀ s, 8 ≤ s → a.2.1 s = 0 := fun s z => w1.2.1 s (by omega)
  have b0 := w1.1 s0
  have hc0 := w1.2.2 s0 j0 hj
  -- the inner loop
  have inner : ∀ (KL : Int32 → Int32 → Prop) (s : Nat), s ≤ s0 → (s ≠ s0 → KL (nI (a.1 (s0 * 10 + j0))) (nI (s + 1))) → ∀ d j, j + d = (if s = s0 then j0 else a.2.1 s) → ∃ m, wX4_cushionsAbove_15 K KL (nI (tN t)) S H m (nI (a.1 (s0 * 10 + j0))) (nI s) (nI j) := by
    intro KL s hs' hKL d
    have b := w1.1 s
    induction d with
    | zero =>
      intro j hd
      refine ⟨1, ?_⟩
      unfold wX4_cushionsAbove_15
      by_cases e : s = s0
      · subst e
        rw [if_pos rfl] at hd
        have : j = j0 := by omega
        subst this
        refine sz_heightAt rh h8 (by omega) (br_f (nI_ge hj (by omega)) (sz_cushionAt rs (by omega) (by omega) (bn_t rfl (sz_heightAt rh h8 (by omega) ?_))))
        rw [nI_dec (by omega), pk_sub (by omega)]
        exact kk
      · rw [if_neg e] at hd
        refine sz_heightAt rh h8 (by omega) (br_t (nI_le (by omega) (by omega)) ?_)
        rw [nI_1]
        exact hKL e
    | succ d ih =>
      intro j hd
      obtain ⟨m, hm⟩ := ih (j + 1) (by omega)
      refine ⟨m + 1, ?_⟩
      unfold wX4_cushionsAbove_15
      have hj2 : j < a.2.1 s := by
        by_cases e : s = s0
        · subst e; rw [if_pos rfl] at hd; omega
        · rw [if_neg e] at hd; omega
      have hc := w1.2.2 s j hj2
      refine sz_heightAt rh h8 (by omega) (br_f (nI_ge hj2 (by omega)) (sz_cushionAt rs (by omega) (by omega) (bn_f (fun z => ?_) ?_)))
      · rw [nI_eq (by omega) (by omega)] at z
        obtain ⟨g1, g2⟩ := w.2.2.1 s j s0 j0 hj2 hj z
        subst g1
        rw [if_pos rfl] at hd
        omega
      · rw [nI_1]; exact hm
  unfold wX4_cushionsAbove
  have outer : ∀ d s, s + d = s0 → ∃ m, wX4_cushionsAbove_2 K (nI (tN t)) S H m (nI (a.1 (s0 * 10 + j0))) (nI s) := by
    intro d
    induction d with
    | zero =>
      intro s hd
      have : s = s0 := by omega
      subst this
      refine ⟨1, ?_⟩
      unfold wX4_cushionsAbove_2
      exact br_f (nI_ge hs (by omega)) (inner _ s (Nat.le_refl _) (fun z => absurd rfl z) j0 0 (by rw [if_pos rfl]; omega))
    | succ d ih =>
      intro s hd
      obtain ⟨m, hm⟩ := ih (s + 1) (by omega)
      refine ⟨m + 1, ?_⟩
      unfold wX4_cushionsAbove_2
      exact br_f (nI_ge (by omega) (by omega)) (inner _ s (by omega) (fun _ => hm) (a.2.1 s) 0 (by rw [if_neg (by omega)]; omega))
  exact outer s0 0 (by omega)
theorem sm_buried (wt : wfT t) (w : wfG t a pr fa) (r : rM N a pr fa dy ca du sl) (ru : rN (tF t) Qu (tCu t)) {f s0 j0 : Nat} (hf : f < tF t) (hs : s0 < tN t) (hj : j0 < a.2.1 s0) (hv : a.1 (s0 * 10 + j0) = tCu t f) (kk : K (nI (a.2.1 s0 - 1 - j0)) ()) : wX10_buried N (nI (tN t)) Qu (nI f) K := by
  have n8 := wt.1.2
  have n24 := wt.2.2.2.1
  have w1 := w.1
  have b0 := w1.1 s0
  have hc0 := w1.2.2 s0 j0 hj
  have inner : ∀ (KL : Int32 → Int32 → Prop) (s : Nat), s ≤ s0 → (s ≠ s0 → KL (nI f) (nI (s + 1))) → ∀ d j, j + d = (if s = s0 then j0 else a.2.1 s) → ∃ m, wX10_buried_15 K KL N (nI (tN t)) Qu m (nI f) (nI s) (nI j) := by
    intro KL s hs' hKL d
    have b := w1.1 s
    induction d with
    | zero =>
      intro j hd
      refine ⟨1, ?_⟩
      unfold wX10_buried_15
      by_cases e : s = s0
      · subst e
        rw [if_pos rfl] at hd
        have : j = j0 := by omega
        subst this
        refine sm_tall r (by omega) (br_f (nI_ge hj (by omega)) ?_)
        rw [n13, nI_clamp (by omega), nI_clamp (by omega), r.2.1 s j (by omega) hj, ru f hf, hv]
        refine ⟨vp_in_nI (by omega) (by decide), vp_in_nI (by omega) (by decide), bn_t rfl (sm_tall r (by omega) ?_)⟩
        rw [nI_dec (by omega), pk_sub (by omega)]
        exact kk
      · rw [if_neg e] at hd
        refine sm_tall r (by omega) (br_t (nI_le (by omega) (by omega)) ?_)
        rw [nI_1]
        exact hKL e
    | succ d ih =>
      intro j hd
      obtain ⟨m, hm⟩ := ih (j + 1) (by omega)
      refine ⟨m + 1, ?_⟩
      unfold wX10_buried_15
      have hj2 : j < a.2.1 s := by
        by_cases e : s = s0
        · subst e; rw [if_pos rfl] at hd; omega
        · rw [if_neg e] at hd; omega
      have hc := w1.2.2 s j hj2
      refine sm_tall r (by omega) (br_f (nI_ge hj2 (by omega)) ?_)
      rw [n13, nI_clamp (by omega), nI_clamp (by omega), r.2.1 s j (by omega) hj2, ru f hf]
      refine ⟨vp_in_nI (by omega) (by decide), vp_in_nI (by omega) (by decide), bn_f (fun z => ?_) ?_⟩
      · rw [← hv, nI_eq (by omega) (by omega)] at z
        obtain ⟨g1, g2⟩ := w.2.2.1 s j s0 j0 hj2 hj z
        subst g1
        rw [if_pos rfl] at hd
        omega
      · rw [nI_1]; exact hm
  unfold wX10_buried
  have outer : ∀ d s, s + d = s0 → ∃ m, wX10_buried_2 K N (nI (tN t)) Qu m (nI f) (nI s) := by
    intro d
    induction d with
    | zero =>
      intro s hd
      have : s = s0 := by omega
      subst this
      refine ⟨1, ?_⟩
      unfold wX10_buried_2
      exact br_f (nI_ge hs (by omega)) (inner _ s (Nat.le_refl _) (fun z => absurd rfl z) j0 0 (by rw [if_pos rfl]; omega))
    | succ d ih =>
      intro s hd
      obtain ⟨m, hm⟩ := ih (s + 1) (by omega)
      refine ⟨m + 1, ?_⟩
      unfold wX10_buried_2
      exact br_f (nI_ge (by omega) (by omega)) (inner _ s (by omega) (fun _ => hm) (a.2.1 s) 0 (by rw [if_neg (by omega)]; omega))
  exact outer s0 0 (by omega)
end BURIED
