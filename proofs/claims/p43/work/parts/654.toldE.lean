/-! PURE: the law tells the empires. -/
theorem nq_S {Z : gZ} {H : gH} {ad : Nat → Nat} {t : Tl} {x : Gs} (S : SimG Z H ad t x) {q : Nat} (hq : hpG H q = none) : ∀ i, uA t i → ad i ≠ q := fun i hi => by
  obtain ⟨c, hc, -⟩ := sm_live S hi
  exact ne_fresh hc hq
def ES (Z : gZ) (H : gH) (x1 v : Nat) (ad : Nat → Nat) (n m : Nat) (L : List Ln) (j : Nat) : Prop := TS Z H x1 v ad (adA (t00 n m) L) (hdX n m ++ lnsX L) ∧ okA (t00 n m) L ∧ tE (adA (t00 n m) L) = j ∧ tF (adA (t00 n m) L) = 0 ∧ (lnsT L).length ≤ 7 * j ∧ (hdX n m ++ lnsX L).length ≤ 30 + 40 * j
theorem lnsT_snoc : ∀ (l : List Ln) (a : Ln), (lnsT (l ++ [a])).length = (lnsT l).length + (lnT a).length + 1
  | [], a => by
    show (lnT a ++ [t0 33]).length = 0 + (lnT a).length + 1
    rw [List.length_append, Nat.zero_add]
    rfl
  | b :: l, a => by
    show (lnT b ++ (t0 33 :: lnsT (l ++ [a]))).length = (lnT b ++ (t0 33 :: lnsT l)).length + (lnT a).length + 1
    rw [List.length_append, List.length_append, List.length_cons, List.length_cons, lnsT_snoc l a]
    omega
/-- one empire -/
theorem td_emp {K : Nat → gH → Prop} {Z : gZ} {H : gH} {x1 v bc bs e k : Nat} {ad : Nat → Nat} {t : Tl} {l : List Nat} {x2 x3 : Int32} (wt : wfT t) (T : TS Z H x1 v ad t l) (hE : tE t < 3) (he : tE t < e) (he3 : e ≤ 3) (hl : l.length ≤ 200) (hbc : 10 ≤ bc) (hbs : 22000 ≤ bs)
    (kk : ∀ H' v' ad' bc' bs' y z, TS Z H' x1 v' ad' (adE t y z) (l ++ lnX (0, tE t, y, z)) → ad' 0 = ad 0 → y ≤ z → z ≤ 999 → bc ≤ bc' + 10 → bs ≤ bs' + 22000 → wL_told_74 K Z k H' bc' bs' x1 x2 x3 (ad 0) (nI e) (nI (tE t + 1))) : wL_told_74 K Z (k + 1) H bc bs x1 x2 x3 (ad 0) (nI e) (nI (tE t)) := by
  have S := T.2.1
  have S' := S
  obtain ⟨s0, -, -, -, -, -, ⟨fE, s6, s6'⟩, s7, -, ⟨s9, -⟩, -⟩ := S'
  have s0 : hpG H (ad 0) = some (.inr (8, smV ad t 0 0 0 0)) := s0
  have u0 : uA t 0 := Or.inl (by omega)
  have u3 : uA t 3 := Or.inl (by omega)
  unfold wL_told_74
  refine br_f (nI_ge he (by omega)) (hz_cell (j := 1) (by decide) (fun r1 => hz_blw (n := 600) (by decide) (by decide) ⟨by omega, by show 2 ≤ bs; omega, fun q hq => ?_⟩))
  have nq := nq_S S hq
  refine ⟨_, _, hpG_n, by unfold vp_in; decide, hz_cell (j := 2) (by decide) (fun r9 => hz_blw (n := 300) (by decide) (by decide) ⟨_, _, hpG_s hpG_n, by unfold vp_in; decide, ad 3, gF_of ((hpG_sn (nq 0 u0)).trans ((hpG_sn (nq 0 u0)).trans ((hpG_nn (nq 0 u0)).trans s0))) rfl, 1, tE t + 1, by omega, by show tE t + 1 ≤ bs - 2; omega, ?_⟩)⟩
  have y6 := blw_lt (x := r1 >>> ((3 + 3 * nI (tE t)) &&& 31)) (n := 600) (by decide)
  have z3 := blw_lt (x := r9 >>> ((2 * nI (tE t)) &&& 31)) (n := 300) (by decide)
  generalize blw (r1 >>> ((3 + 3 * nI (tE t)) &&& 31)) 600 = y at y6 ⊢
  generalize blw (r9 >>> ((2 * nI (tE t)) &&& 31)) 300 = dz at z3 ⊢
  refine hz_with ((hpG_sn (nq 3 u3)).trans ((hpG_sn (nq 3 u3)).trans ((hpG_nn (nq 3 u3)).trans s6))) (by omega) (hpG_s (hpG_s hpG_n)) (fun i hi => ?_) (Nat.le_refl _) (Nat.le_refl _) (fun q2 H17 g a1 a2 a3 a4 a5 => ?_)
  · obtain ⟨f', b1, -⟩ := s7 i hi
    have ui : uA t (20 + i) := Or.inr (Or.inr (Or.inl ⟨by omega, by omega⟩))
    exact ⟨ad (20 + i), 2, f', s6' i hi, (hpG_sn (nq _ ui)).trans ((hpG_sn (nq _ ui)).trans ((hpG_nn (nq _ ui)).trans b1))⟩
  · -- the heap behind the array's making
    have kq : ∀ b, b ≠ q → ∀ c, hpG H b = some c → hpG H17 b = some c := fun b hb c hc => a5 _ _ ((hpG_sn hb).trans ((hpG_sn hb).trans ((hpG_nn hb).trans hc))) (fun z => z)
    have q17 := a5 _ _ (hpG_s (hpG_s hpG_n)) (fun z => z)
    have hq2 : hpG H q2 = none ∧ q2 ≠ q := by
      have n : q2 ≠ q := fun z => by rw [z, hpG_s (hpG_s hpG_n)] at a1; cases a1
      rw [hpG_sn n, hpG_sn n, hpG_nn n] at a1
      exact ⟨a1, n⟩
    have nq2 := nq_S S hq2.1
    have o17 := kq _ (nq 0 u0) _ s0
    refine ⟨_, o17, Nat.le_of_ble_eq_true rfl, ?_⟩
    obtain ⟨H3, e3⟩ : ∃ H3, H3 = hpS H17 (ad 0) (.inr (8, (smV ad t 0 0 0 0).set 3 (.ref q2))) := ⟨_, rfl⟩
    have S3 : SimG Z H3 (va_up (va_up ad 3 q2) (20 + tE t) q) (adE t y (y + dz)) (x0 (adE t y (y + dz))) := by
      refine sm_addE wt S (by omega) (by rw [e3]; exact hpG_s o17) (by rw [e3, hpG_sn (Ne.symm (nq 0 u0))]; exact q17) rfl (nI_add y dz) (by rw [e3, hpG_sn (Ne.symm (nq2 0 u0))]; exact a2) (fun i hi => by rw [a3 i hi]; exact s6' i hi) a4 (fun i hi h0 h3 => ?_) (fun i hi => ⟨nq i hi, nq2 i hi⟩) (Ne.symm hq2.2)
      have ni : ad i ≠ ad 0 := fun z => h0 (s9 i 0 hi u0 z)
      obtain ⟨c, hc, -⟩ := sm_live S hi
      rw [e3, hpG_sn ni, hc]
      exact kq _ (nq i hi) _ hc
    have B3 : TB Z H3 x1 v l := by
      obtain ⟨mm, ⟨ml, f, b1, b2, b3⟩, b4⟩ := T.1
      have xq : x1 ≠ q := ne_fresh b1 hq
      have vq : v ≠ q := ne_fresh b2 hq
      refine ⟨mm, ⟨ml, f, ?_, ?_, b3⟩, b4⟩
      · rw [e3, hpG_sn (fun z => (T.2.2 0 u0).2 z.symm)]
        exact kq _ xq _ b1
      · rw [e3, hpG_sn (fun z => (T.2.2 0 u0).1 z.symm)]
        exact kq _ vq _ b2
    have N3 : ∀ i, uA (adE t y (y + dz)) i → va_up (va_up ad 3 q2) (20 + tE t) q i ≠ v ∧ va_up (va_up ad 3 q2) (20 + tE t) q i ≠ x1 := fun i hi => by
      obtain ⟨mm, ⟨ml, f, b1, b2, b3⟩, b4⟩ := T.1
      by_cases z1 : i = 20 + tE t
      · rw [z1, va_up_self]
        exact ⟨(ne_fresh b2 hq).symm, (ne_fresh b1 hq).symm⟩
      · rw [va_up_ne _ _ z1]
        by_cases z2 : i = 3
        · rw [z2, va_up_self]
          exact ⟨(ne_fresh b2 hq2.1).symm, (ne_fresh b1 hq2.1).symm⟩
        · rw [va_up_ne _ _ z2]
          refine T.2.2 i ?_
          rcases hi with a | a | a | a | a
          · exact Or.inl a
          · exact Or.inr (Or.inl a)
          · have a2 : i < 20 + (tE t + 1) := a.2
            exact Or.inr (Or.inr (Or.inl ⟨a.1, by omega⟩))
          · exact Or.inr (Or.inr (Or.inr (Or.inl a)))
          · exact Or.inr (Or.inr (Or.inr (Or.inr a)))
    have T3 : TS Z H3 x1 v (va_up (va_up ad 3 q2) (20 + tE t) q) (adE t y (y + dz)) l := ⟨B3, S3, N3⟩
    have A0 : va_up (va_up ad 3 q2) (20 + tE t) q 0 = ad 0 := by rw [va_up_ne _ _ (by omega), va_up_ne _ _ (by omega)]
    have Aq : va_up (va_up ad 3 q2) (20 + tE t) q (20 + tE t) = q := va_up_self _ _ _
    show _ ∧ _
    rw [← e3]
    generalize va_up (va_up ad 3 q2) (20 + tE t) q = ad' at T3 A0 Aq
    have row : ∀ {H4 : gH} {v4 : Nat} {l4 : List Nat}, TS Z H4 x1 v4 ad' (adE t y (y + dz)) l4 → ∃ f, hpG H4 q = some (iE (zY Z 1) 2 f) ∧ f 0 = nI y ∧ f 1 = nI (y + dz) := by
      intro H4 v4 l4 T4
      obtain ⟨f, c1, c2, c3⟩ := T4.2.1.2.2.2.2.2.2.2.1 (tE t) (Nat.lt_succ_self _)
      rw [Aq] at c1
      exact ⟨f, c1, c2.trans (va_up_self _ _ _), c3.trans (va_up_self _ _ _)⟩
    have dj := dL (show tE t < 1000000 by omega)
    have dy := dL (show y < 1000000 by omega)
    have dd := dL (show y + dz < 1000000 by omega)
    refine ts_K (i := 36) (by decide) T3 (by rw [kl36]; omega) (by omega) (by show 3002 ≤ bs - 2 - (tE t + 1); omega) (fun H4 v4 T4 _ _ => ?_)
    refine ts_I (y := tE t) (by omega) T4 (by simp only [List.length_append, kl36]; omega) (by omega) (by show 3002 ≤ bs - 2 - (tE t + 1) - 3002; omega) (fun H5 v5 T5 _ _ => ?_)
    refine ts_K (i := 37) (by decide) T5 (by simp only [List.length_append, kl36, kl37]; omega) (by omega) (by show 3002 ≤ bs - 2 - (tE t + 1) - 3002 - 3002; omega) (fun H6 v6 T6 _ _ => ?_)
    obtain ⟨f6, r1', r2', r3'⟩ := row T6
    refine ⟨2, f6, r1', by unfold vp_in; decide, ?_⟩
    rw [show (0 : Int32).toNatClampNeg = 0 from rfl, r2']
    refine ts_I (y := y) (by omega) T6 (by simp only [List.length_append, kl36, kl37]; omega) (by omega) (by show 3002 ≤ bs - 2 - (tE t + 1) - 3002 - 3002 - 3002; omega) (fun H7 v7 T7 _ _ => ?_)
    refine ts_K (i := 38) (by decide) T7 (by simp only [List.length_append, kl36, kl37, kl38]; omega) (by omega) (by show 3002 ≤ bs - 2 - (tE t + 1) - 3002 - 3002 - 3002 - 3002; omega) (fun H8 v8 T8 _ _ => ?_)
    obtain ⟨f8, w1, w2, w3⟩ := row T8
    refine ⟨2, f8, w1, by unfold vp_in; decide, ?_⟩
    rw [show (1 : Int32).toNatClampNeg = 1 from rfl, w3]
    refine ts_I (y := y + dz) (by omega) T8 (by simp only [List.length_append, kl36, kl37, kl38]; omega) (by omega) (by show 3002 ≤ bs - 2 - (tE t + 1) - 3002 - 3002 - 3002 - 3002 - 3002; omega) (fun H9 v9 T9 _ _ => ?_)
    refine ts_K (i := 39) (by decide) T9 (by simp only [List.length_append, kl36, kl37, kl38, kl39]; omega) (by omega) (by show 3002 ≤ bs - 2 - (tE t + 1) - 3002 - 3002 - 3002 - 3002 - 3002 - 3002; omega) (fun H10 v10 T10 _ _ => ?_)
    rw [nI_1]
    refine kk H10 v10 ad' _ _ y (y + dz) ?_ A0 (by omega) (by omega) (by omega) ?_
    · have e : ((((((l ++ kTl 36) ++ decL (tE t)) ++ kTl 37) ++ decL y) ++ kTl 38) ++ decL (y + dz)) ++ kTl 39 = l ++ lnX (0, tE t, y, y + dz) := by
        show _ = l ++ (kTl 36 ++ (decL (tE t) ++ (kTl 37 ++ (decL y ++ (kTl 38 ++ (decL (y + dz) ++ kTl 39))))))
        simp only [List.append_assoc]
      rw [← e]
      exact T10
    · show bs ≤ bs - 2 - (tE t + 1) - 3002 - 3002 - 3002 - 3002 - 3002 - 3002 - 3002 + 22000
      omega
