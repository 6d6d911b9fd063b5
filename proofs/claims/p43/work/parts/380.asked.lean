/-! the same things asked of the model -/
section ASKM
variable {N Qc Qu Qw Qb Qe Qf : Nat → Int32} {K : Int32 → Unit → Prop} {t : Tl} {fa : Nat → Nat} {a : Sg} {pr : Nat → Bool} {dy ca du sl : Int32}
theorem ct_cut {p : Nat → Bool} {m n : Nat} (h : m ≤ n) (hp : ∀ k, m ≤ k → p k = false) : fb_ct p n = fb_ct p m := by
  obtain ⟨d, rfl⟩ : ∃ d, n = m + d := ⟨n - m, by omega⟩
  rw [fb_ct_split, fb_ct_zero.mpr (fun k _ => hp (m + k) (by omega))]
  rfl
end ASKM
-- the cushion that lies at a place is the first found there, by both
section BURIED
variable {S H N Qu : Nat → Int32} {K : Int32 → Unit → Prop} {t : Tl} {fa : Nat → Nat} {a : Sg} {pr : Nat → Bool} {dy ca du sl : Int32}
theorem sz_cushionsAbove (wt : wfT t) (w : wfG t a pr fa) (rs : rN 80 S a.1) (rh : rN 8 H a.2.1) {s0 j0 : Nat} (hs : s0 < tN t) (hj : j0 < a.2.1 s0) (kk : K (nI (a.2.1 s0 - 1 - j0)) ()) : wX4_cushionsAbove (nI (tN t)) S H (nI (a.1 (s0 * 10 + j0))) K := by
  have n8 := wt.1.2
  have w1 := w.1
  have h8 : ∀ s, 8 ≤ s → a.2.1 s = 0 := fun s z => w1.2.1 s (by omega)
  have b0 := w1.1 s0
  have hc0 := w1.2.2 s0 j0 hj
  -- the inner loop
  have inner : ∀ (KL : Int32 → Int32 → Prop) (s : Nat), s ≤ s0 → (s ≠ s0 → KL (nI (a.1 (s0 * 10 + j0))) (nI (s + 1))) → ∀ d j, j + d = (if s = s0 then j0 else a.2.1 s) → ∃ m, wX4_cushionsAbove_15 K KL (nI (tN t)) S H m (nI (a.1 (s0 * 10 + j0))) (nI s) (nI j) := by
    intro KL s hs' hKL d
    have b := w1.1 s
    induction d with
    | zero =>
      intro j hd
      refine ⟨1, ?_⟩
      unfold wX4_cushionsAbove_15
      by_cases e : s = s0
      · subst e
        rw [if_pos rfl] at hd
        have : j = j0 := by omega
        subst this
        refine sz_heightAt rh h8 (by omega) (br_f (nI_ge hj (by omega)) (sz_cushionAt rs (by omega) (by omega) (bn_t rfl (sz_heightAt rh h8 (by omega) ?_))))
        rw [nI_dec (by omega), pk_sub (by omega)]
        exact kk
      · rw [if_neg e] at hd
        refine sz_heightAt rh h8 (by omega) (br_t (nI_le (by omega) (by omega)) ?_)
        rw [nI_1]
        exact hKL e
    | succ d ih =>
      intro j hd
      obtain ⟨m, hm⟩ := ih (j + 1) (by omega)
      refine ⟨m + 1, ?_⟩
      unfold wX4_cushionsAbove_15
      have hj2 : j < a.2.1 s := by
        by_cases e : s = s0
        · subst e; rw [if_pos rfl] at hd; omega
        · rw [if_neg e] at hd; omega
      have hc := w1.2.2 s j hj2
      refine sz_heightAt rh h8 (by omega) (br_f (nI_ge hj2 (by omega)) (sz_cushionAt rs (by omega) (by omega) (bn_f (fun z => ?_) ?_)))
      · rw [nI_eq (by omega) (by omega)] at z
        obtain ⟨g1, g2⟩ := w.2.2.1 s j s0 j0 hj2 hj z
        subst g1
        rw [if_pos rfl] at hd
        omega
      · rw [nI_1]; exact hm
  unfold wX4_cushionsAbove
  have outer : ∀ d s, s + d = s0 → ∃ m, wX4_cushionsAbove_2 K (nI (tN t)) S H m (nI (a.1 (s0 * 10 + j0))) (nI s) := by
    intro d
    induction d with
    | zero =>
      intro s hd
      have : s = s0 := by omega
      subst this
      refine ⟨1, ?_⟩
      unfold wX4_cushionsAbove_2
      exact br_f (nI_ge hs (by omega)) (inner _ s (Nat.le_refl _) (fun z => absurd rfl z) j0 0 (by rw [if_pos rfl]; omega))
    | succ d ih =>
      intro s hd
      obtain ⟨m, hm⟩ := ih (s + 1) (by omega)
      refine ⟨m + 1, ?_⟩
      unfold wX4_cushionsAbove_2
      exact br_f (nI_ge (by omega) (by omega)) (inner _ s (by omega) (fun _ => hm) (a.2.1 s) 0 (by rw [if_neg (by omega)]; omega))
  exact outer s0 0 (by omega)
end BURIED
