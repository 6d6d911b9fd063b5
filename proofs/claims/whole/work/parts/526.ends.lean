/-! the law's comparisons; the tape's calls; a plan's beginning -/
theorem fin_e {L : Prop} {a b : Int32} (e : a = b) (k : L) : (a = b → L) ∧ (¬ a = b → False) := ⟨fun _ => k, fun z => absurd e z⟩
theorem fin_i {L : Prop} {c th v : Int32} {W : Nat → Int64} (e1 : th = c) (e2 : c = 0 → W (0 : Int32).toNatClampNeg = v.toInt64) (k : L) : wX10_thrown th (fun r3 _ => ((r3 = c → ((¬ c = 0 → L) ∧ (c = 0 → vp_in 0 1 ∧ (((lg_cmp (W (0 : Int32).toNatClampNeg) v.toInt64 = 0 → L) ∧ (¬ lg_cmp (W (0 : Int32).toNatClampNeg) v.toInt64 = 0 → False)))))) ∧ (¬ r3 = c → False))) := by
  unfold wX10_thrown
  exact ⟨fun _ => ⟨fun _ => k, fun h => ⟨in01, fun _ => k, fun z => z ((lgc _ _).mpr (e2 h))⟩⟩, fun z => z e1⟩
theorem fin_b {L : Prop} {c th v : Int32} {W : Nat → Int64} (e1 : th = c) (e2 : c = 0 → W (0 : Int32).toNatClampNeg = v.toInt64) (hb : v = 0 ∨ v = 1) (k : L) : wX10_thrown th (fun r3 _ => ((r3 = c → ((¬ c = 0 → L) ∧ (c = 0 → vp_in 0 1 ∧ (((v = 0 → ((lg_cmp (W (0 : Int32).toNatClampNeg) 0 = 0 → L) ∧ (¬ lg_cmp (W (0 : Int32).toNatClampNeg) 0 = 0 → False))) ∧ (¬ v = 0 → ((lg_cmp (W (0 : Int32).toNatClampNeg) 1 = 0 → L) ∧ (¬ lg_cmp (W (0 : Int32).toNatClampNeg) 1 = 0 → False)))))))) ∧ (¬ r3 = c → False))) := by
  unfold wX10_thrown
  refine ⟨fun _ => ⟨fun _ => k, fun h => ⟨in01, fun hv => ⟨fun _ => k, fun z => z ((lgc _ _).mpr ((e2 h).trans ?_))⟩, fun hv => ⟨fun _ => k, fun z => z ((lgc _ _).mpr ((e2 h).trans ?_))⟩⟩⟩, fun z => z e1⟩
  · rw [hv]; decide
  · rw [hb.resolve_left hv]; decide
theorem oq_zb {n : Nat} {q : Int32} {f : Nat → Bool} : (oq n q (fun s => (0, zB (f s)))).2 = 0 ∨ (oq n q (fun s => (0, zB (f s)))).2 = 1 := by
  unfold oq
  split
  · exact Or.inl rfl
  · exact zB_01 _
section OB
variable {t : Tl} {x : Gs} {q q2 : Int32}
theorem oP_b : (oP t x q).2 = 0 ∨ (oP t x q).2 = 1 := oq_zb
theorem oT_b {f : Nat → Bool} : (oT t x q (fun s => zB (f s))).2 = 0 ∨ (oT t x q (fun s => zB (f s))).2 = 1 := by
  unfold oT oq
  split
  · exact Or.inl rfl
  · dsimp only
    by_cases h : (gA x).2.1 q.toNatClampNeg = 0
    · rw [if_pos h]; exact Or.inl rfl
    · rw [if_neg h]; exact zB_01 _
theorem oCn_b : (oCn t q).2 = 0 ∨ (oCn t q).2 = 1 := oq_zb
theorem oFo_b : (oFo t x q).2 = 0 ∨ (oFo t x q).2 = 1 := oq_zb (f := fun s => decide (1 ≤ gF x s))
theorem oSu_b : (oSu t x q).2 = 0 ∨ (oSu t x q).2 = 1 := by
  unfold oSu oq
  split
  · exact Or.inl rfl
  · dsimp only
    by_cases h : gF x q.toNatClampNeg = 0
    · rw [if_pos h]; exact Or.inl rfl
    · rw [if_neg h]; exact zB_01 _
theorem oSn_b : (oSn t x q q2).2 = 0 ∨ (oSn t x q q2).2 = 1 := by
  unfold oSn oq
  split
  · exact Or.inl rfl
  · split
    · exact Or.inl rfl
    · exact zB_01 _
theorem oMx_b : (oMx t x q).2 = 0 ∨ (oMx t x q).2 = 1 := oq_zb (f := fun k => anyB (fun y => anyB (mxP t (gF x) k y) (tE t)) (tE t))
end OB
section TAPEX
variable {A M : Nat → Int32} {l : Nat} {W : Nat → Int64} {th : Int32}
theorem feed_ex (hl : l ≤ 2000) (ra : rA A M l) (W : Nat → Int64) (th a b c d e : Int32) : ∃ (o : Int32 × Int32) (l' : Nat) (FA FM : (Nat → Int32) → Prop), l' ≤ 2000 ∧ (∀ A' M', FA A' → FM M' → rA A' M' l') ∧
    (∀ K : Int32 → ((Nat → Int32) × Int32 × (Nat → Int64)) → Prop, (∀ A' W', FA A' → (o.1 = 0 → W' (0 : Int32).toNatClampNeg = o.2.toInt64) → K o.1 (A', nI l', W')) → wL_feed A (nI l) W a b c d e K) ∧
    ∀ J : Int32 → (Int32 × (Nat → Int32) × Int32) → Prop, (∀ M', FM M' → J o.2 (o.1, M', nI l')) → wX10_feed th M (nI l) a b c d e J := by
  rcases Nat.lt_or_ge 1980 l with h | h
  · refine ⟨(1, 0), l, fun A' => A' = A, fun M' => M' = M, hl, fun A' M' h1 h2 => by rw [h1, h2]; exact ra, fun K kk => ?_, fun J kk => ?_⟩
    · unfold wL_feed
      exact sz_feed hl (fun _ => ⟨rfl, kk _ _ rfl (fun z => absurd z (by decide))⟩) (fun z => absurd h (Nat.not_lt.mpr z))
    · exact sm_feed hl (fun _ => kk M rfl) (fun z => absurd h (Nat.not_lt.mpr z))
  · refine ⟨(0, nI (l + 20)), l + 20, fun A' => (∀ i, i < l → A' i = A i) ∧ (∀ j, j < 20 → A' (l + j) &&& 255 = nI (byJ (five a b c d e (j / 4)) (j % 4))), fun M' => (∀ i, i < l → M' i = M i) ∧ (∀ j, j < 20 → M' (l + j) = nI (byJ (five a b c d e (j / 4)) (j % 4))), by omega, fun A' M' h1 h2 => rA_feed ra h1.1 h1.2 h2.1 h2.2, fun K kk => ?_, fun J kk => ?_⟩
    · unfold wL_feed
      exact sz_feed hl (fun z => absurd z (Nat.not_lt.mpr h)) (fun _ A' h1 h2 => ⟨in01, kk _ _ ⟨h1, h2⟩ (fun _ => upL_eq)⟩)
    · exact sm_feed hl (fun z => absurd z (Nat.not_lt.mpr h)) (fun _ M' h1 h2 => kk M' ⟨h1, h2⟩)
theorem trim_ex (hl : l ≤ 2000) (ra : rA A M l) (W : Nat → Int64) (th q : Int32) : ∃ (o : Int32 × Int32) (l' : Nat), l' ≤ 2000 ∧ rA A M l' ∧
    (∀ K : Int32 → (Int32 × (Nat → Int64)) → Prop, (∀ W', (o.1 = 0 → W' (0 : Int32).toNatClampNeg = o.2.toInt64) → K o.1 (nI l', W')) → wL_trim (nI l) W q K) ∧
    ∀ J : Int32 → (Int32 × Int32) → Prop, J o.2 (o.1, nI l') → wX10_trim th (nI l) q J := by
  rcases sq_cases q (l + 1) (by omega) with ⟨s, hs, rfl⟩ | hno
  · refine ⟨(0, nI s), s, by omega, fun i hi => ra i (by omega), fun K kk => ?_, fun J kk => ?_⟩
    · unfold wL_trim wX8_trim
      exact br_f (nI_pos (by omega)) (br_t (nI_le (by omega) (by omega)) ⟨in01, kk _ (fun _ => upL_eq)⟩)
    · unfold wX10_trim wX10_isIn
      exact br_f (nI_pos (by omega)) (br_f (nI_nlt (by omega) (by omega)) (bn_f (by decide) kk))
  · refine ⟨(1, 0), l, hl, ra, fun K kk => ?_, fun J kk => ?_⟩
    · unfold wL_trim wX8_trim
      by_cases h0 : q < 0
      · exact br_t h0 ⟨rfl, kk W (fun z => absurd z (by decide))⟩
      · obtain ⟨j, hj, rfl⟩ := nI_of h0
        have h1 := hno.resolve_left h0
        rw [nI_ltI hj (by omega)] at h1
        exact br_f h0 (br_f (nI_ge (by omega) hj) ⟨rfl, kk W (fun z => absurd z (by decide))⟩)
    · unfold wX10_trim wX10_isIn
      by_cases h0 : q < 0
      · exact br_t h0 (bn_t rfl kk)
      · obtain ⟨j, hj, rfl⟩ := nI_of h0
        have h1 := hno.resolve_left h0
        rw [nI_ltI hj (by omega)] at h1
        exact br_f h0 (br_t (nI_lt (by omega) hj) (bn_t rfl kk))
end TAPEX
theorem sm_plan {s0 m0 : Int32} {K : (Int32 × Int32 × (Nat → Int64) × (Nat → Int32) × (Nat → Int32) × (Nat → Int32) × (Nat → Int32) × (Nat → Int32) × (Nat → Int32) × (Nat → Int32) × (Nat → Int32) × (Nat → Int32) × (Nat → Int32) × (Nat → Int32) × (Nat → Int32) × Nat × Nat × Nat × Nat × Nat × Nat × Nat × Nat × Nat × Nat × Nat × Nat × Nat) → Prop} (kk : ∀ q1 q2 q3 q4 q5 q6 q7 q8 q9 q10 q11 q12 q13 : Nat, K (4, 6, (fun _ => 0), (fun _ => 0), (fun _ => 0), (fun _ => 0), (fun _ => 0), (fun _ => 0), m1f (fun _ => 0), (fun _ => 0), (fun _ => 0), (fun _ => 0), (fun _ => 0), (fun _ => 0), (fun _ => 0), q1, q2, q3, q4, q5, q6, q7, q8, q9, q10, q11, q12, q13)) : wX9_init s0 m0 K := by
  unfold wX9_init
  intro q1 q2 q3 q4 q5 q6 q7 q8 q9 q10 q11 q12 q13
  have h := pk_loop (fun n i (_ : Unit) => wX9_init_123 K q1 q2 q3 q4 q5 q6 q7 q8 q9 q10 q11 q12 q13 n 4 6 (fun _ => 0) (fun _ => 0) (fun _ => 0) (fun _ => 0) (fun _ => 0) (fun _ => 0) (fun j => if j < i then -1 else (fun _ => 0) j) (fun _ => 0) (fun _ => 0) (fun _ => 0) (fun _ => 0) (fun _ => 0) (fun _ => 0) (nI i)) (fun _ _ => True) 80 0 () (by omega) trivial (fun n _ _ => ?_) (fun n i _ hi _ ih => ?_)
  · obtain ⟨n, hn⟩ := h
    rw [fill_0] at hn
    exact ⟨n, hn⟩
  · unfold wX9_init_123
    exact br_t (by decide) (kk q1 q2 q3 q4 q5 q6 q7 q8 q9 q10 q11 q12 q13)
  · unfold wX9_init_123
    refine br_f (nI_ge (b := 80) hi (by decide)) ⟨vp_in_nI hi (by decide), ?_⟩
    rw [nI_clamp (by omega), nI_1, fill_st]
    exact ih () trivial
