/-! PURE: the law tells a find: a coin or crumbs. -/
section TOLDP
variable {K : Nat → gH → Prop} {KL : gH → Nat → Nat → Nat → Int32 → Int32 → Nat → Int32 → Int32 → Prop} {Z : gZ} {H : gH} {x1 v bc bs x4 : Nat} {ad : Nat → Nat} {t : Tl} {l : List Nat} {x2 x3 x5 x6 x7 : Int32}
theorem td_498 {q d i2 fi : Nat} (T : TS Z H x1 v ad t l) (hq : ad (30 + fi) = q) (hfi : fi < tF t) (hd : tDe t fi = nI d) (hd9 : d ≤ 999) (hi2 : i2 < 52) (hl2 : (kTl i2).length ≤ 6) (hl : l.length ≤ 1400) (hbc : 3 ≤ bc) (hbs : 9006 ≤ bs)
    (kk : ∀ H' v', TS Z H' x1 v' ad t (l ++ (kTl i2 ++ (decL d ++ kTl 35))) → KL H' (bc - 1 - 1 - 1) (bs - 3002 - 3002 - 3002) x1 x2 x3 x4 x5 (x6 + 1)) : wL_told_498 K KL Z H bc bs x1 x2 x3 x4 x5 x6 q (Z.1 i2) x1 := by
  unfold wL_told_498
  have dd := dL (show d < 1000000 by omega)
  refine ts_K (i := i2) hi2 T (by omega) (by omega) (by omega) (fun H4 v4 T4 _ _ => ?_)
  obtain ⟨f, c1, c2, c3, c4, c5⟩ := T4.2.1.2.2.2.2.2.1 fi hfi
  rw [hq] at c1
  refine ⟨4, f, c1, by unfold vp_in; decide, ?_⟩
  rw [show (2 : Int32).toNatClampNeg = 2 from rfl, c4, hd]
  refine ts_I (y := d) (by omega) T4 (by simp only [List.length_append]; omega) (by omega) (by omega) (fun H5 v5 T5 _ _ => ?_)
  refine ts_K (i := 35) (by decide) T5 (by simp only [List.length_append, kl35]; omega) (by omega) (by omega) (fun H6 v6 T6 _ _ => ?_)
  unfold wL_told_514
  refine kk H6 v6 ?_
  rw [List.append_assoc, List.append_assoc] at T6
  exact T6
theorem td_478 {q d i1 fi r w s y : Nat} {co : Bool} (T : TS Z H x1 v ad t l) (hq : ad (30 + fi) = q) (hfi : fi < tF t) (hd : tDe t fi = nI d) (hd9 : d ≤ 999) (hi1 : i1 < 52) (hl1 : (kTl i1).length ≤ 6) (hr : stD Z H r w (plX s y)) (hw : w ≠ v) (hs : s < 10) (hy : y < 10) (hl : l.length ≤ 1300) (hbc : 5 ≤ bc) (hbs : 15010 ≤ bs)
    (kk : ∀ H' v', TS Z H' x1 v' ad t (l ++ (kTl i1 ++ (plX s y ++ (kTl (if co = true then 45 else 46) ++ (decL d ++ kTl 35))))) → KL H' (bc - 1 - 1 - 1 - 1 - 1) (bs - 3002 - 3002 - 3002 - 3002 - 3002) x1 x2 x3 x4 x5 (x6 + 1)) : wL_told_478 K KL Z H bc bs x1 x2 x3 x4 x5 x6 r (zB1w co) q (Z.1 i1) x1 := by
  unfold wL_told_478
  have ds := dL (show s < 1000000 by omega)
  have dy := dL (show y < 1000000 by omega)
  have pl : (plX s y).length ≤ 17 := by
    show ([] ++ kTl 40 ++ decL s ++ kTl 41 ++ decL y).length ≤ 17
    simp only [List.length_append, kl40, kl41, List.length_nil]
    omega
  refine ts_K (i := i1) hi1 T (by omega) (by omega) (by omega) (fun H4 v4 T4 F4 n4 => ?_)
  obtain ⟨hr4, hw4⟩ := st_keep T hr hw F4 n4
  refine ts_X T4 (Or.inl ⟨w, hr4⟩) (by simp only [List.length_append]; omega) (by omega) (by omega) (fun H5 v5 T5 _ _ => ?_)
  cases co
  · refine br_t rfl (td_498 T5 hq hfi hd hd9 (by decide) (by rw [kl46]; decide) (by simp only [List.length_append]; omega) (by omega) (by omega) (fun H' v' T' => kk H' v' ?_))
    rw [List.append_assoc, List.append_assoc] at T'
    exact T'
  · refine br_f (by decide) (td_498 T5 hq hfi hd hd9 (by decide) (by rw [kl45]; decide) (by simp only [List.length_append]; omega) (by omega) (by omega) (fun H' v' T' => kk H' v' ?_))
    rw [List.append_assoc, List.append_assoc] at T'
    exact T'
/-- the new row of the find is filled, the finds grow, the text is told -/
theorem td_443 {q d r w s y : Nat} {co : Bool} {H0 : gH} {fc f : Nat → Int32} (wt : wfT t) (T : TS Z H0 x1 v ad t l) (hs : s < tN t) (hy : y < tM t) (hF : tF t < 24) (hE : tE t ≤ 3) (hq : hpG H0 q = none) (hr : stD Z H0 r w (plX s y)) (hw : w ≠ v) (hwA : ∀ i, uA t i → w ≠ ad i) (hl : l.length ≤ 1300) (hd9 : d ≤ 999)
    (hcc : hpG H (ad (60 + (s * 10 + y))) = some (iE (zY Z 1) 4 fc)) (c0 : fc 0 = nI ((s * 10 + y) % 10)) (c1 : fc 1 = nI (tF t)) (c2 : fc 2 = zB1w (tSp t (s * 10 + y))) (c3 : fc 3 = 0) (hqc : hpG H q = some (iE (zY Z 1) 4 f)) (f0 : f 0 = zB1w co) (f1 : f 1 = nI ((s * 10 + y) % 10))
    (hk : ∀ b, b ≠ q → b ≠ ad (60 + (s * 10 + y)) → hpG H b = hpG H0 b) (hbc : 6 ≤ bc) (hbs : 15040 ≤ bs)
    (kk : ∀ H' v' ad', TS Z H' x1 v' ad' (adF t co (s * 10 + y) d) (l ++ (kTl (if co = true then 43 else 44) ++ (plX s y ++ (kTl (if co = true then 45 else 46) ++ (decL d ++ kTl 35))))) → ad' 0 = ad 0 → KL H' (bc - 1 - 1 - 1 - 1 - 1 - 1) (bs - (tF t + 1) - 3002 - 3002 - 3002 - 3002 - 3002) x1 x2 x3 (ad 0) x5 (x6 + 1)) : wL_told_443 K KL Z H bc bs x1 x2 x3 (ad 0) x5 x6 r (zB1w co) (nI d) 2 q q := by
  have S := T.2.1
  have S' := S
  obtain ⟨s0, -, -, s3, ⟨fF, s4, s4'⟩, s5, -, -, -, ⟨s9, -⟩, -⟩ := S'
  have s0 : hpG H0 (ad 0) = some (.inr (8, smV ad t 0 0 0 0)) := s0
  have hct : clT t (s * 10 + y) := ⟨by have := wt.2.1.2; omega, by have := wt.2.1.2; omega⟩
  have n8 := wt.1.2
  have m10 := wt.2.1.2
  have u0 : uA t 0 := Or.inl (by omega)
  have u2 : uA t 2 := Or.inl (by omega)
  have uc : uA t (60 + (s * 10 + y)) := Or.inr (Or.inr (Or.inr (Or.inr ⟨by omega, by rw [show 60 + (s * 10 + y) - 60 = s * 10 + y by omega]; exact hct.1, by rw [show 60 + (s * 10 + y) - 60 = s * 10 + y by omega]; exact hct.2⟩)))
  have nq := nq_S S hq
  have kp : ∀ i, uA t i → i ≠ 60 + (s * 10 + y) → hpG H (ad i) = hpG H0 (ad i) := fun i hi hn => hk _ (nq i hi) (fun z => hn (s9 i _ hi uc z))
  unfold wL_told_443
  refine ⟨4, f, hqc, by unfold vp_in; decide, 4, _, hpG_s hqc, by unfold vp_in; decide, ad 2, gF_of ((hpG_sn (nq 0 u0)).trans ((hpG_sn (nq 0 u0)).trans ((kp 0 u0 (by omega)).trans s0))) rfl, 1, tF t + 1, by omega, by omega, ?_⟩
  refine hz_with ((hpG_sn (nq 2 u2)).trans ((hpG_sn (nq 2 u2)).trans ((kp 2 u2 (by omega)).trans s4))) (by omega) (hpG_s (hpG_s hqc)) (fun i hi => ?_) (Nat.le_refl _) (Nat.le_refl _) (fun q2 H17 g a1 a2 a3 a4 a5 => ?_)
  · obtain ⟨f', b1, -⟩ := s5 i hi
    have ui : uA t (30 + i) := Or.inr (Or.inr (Or.inr (Or.inl ⟨by omega, by omega⟩)))
    exact ⟨ad (30 + i), 4, f', s4' i hi, (hpG_sn (nq _ ui)).trans ((hpG_sn (nq _ ui)).trans ((kp _ ui (by omega)).trans b1))⟩
  · have kq : ∀ b, b ≠ q → ∀ c, hpG H b = some c → hpG H17 b = some c := fun b hb c hc => a5 _ _ ((hpG_sn hb).trans ((hpG_sn hb).trans hc)) (fun z => z)
    have q17 := a5 _ _ (hpG_s (hpG_s hqc)) (fun z => z)
    have hq2 : hpG H q2 = none ∧ q2 ≠ q := by
      have n : q2 ≠ q := fun z => by rw [z, hpG_s (hpG_s hqc)] at a1; cases a1
      rw [hpG_sn n, hpG_sn n] at a1
      exact ⟨a1, n⟩
    have nq2' : ∀ b c, hpG H b = some c → b ≠ q2 := fun b c hb => ne_fresh hb hq2.1
    have nq2 : ∀ i, uA t i → ad i ≠ q2 := fun i hi => by
      by_cases z : i = 60 + (s * 10 + y)
      · rw [z]; exact nq2' _ _ hcc
      · obtain ⟨c, hc, -⟩ := sm_live S hi
        exact nq2' _ c ((kp i hi z).trans hc)
    have o17 := kq _ (nq 0 u0) _ ((kp 0 u0 (by omega)).trans s0)
    refine ⟨_, o17, Nat.le_of_ble_eq_true rfl, ?_⟩
    obtain ⟨H3, e3⟩ : ∃ H3, H3 = hpS H17 (ad 0) (.inr (8, (smV ad t 0 0 0 0).set 2 (.ref q2))) := ⟨_, rfl⟩
    have nc0 : ad (60 + (s * 10 + y)) ≠ ad 0 := fun z => by have := s9 _ _ uc u0 z; omega
    have S3 : SimG Z H3 (va_up (va_up ad 2 q2) (30 + tF t) q) (adF t co (s * 10 + y) d) (x0 (adF t co (s * 10 + y) d)) := by
      refine sm_addF (f := upd (upd f (2 : Int32).toNatClampNeg (nI d)) (3 : Int32).toNatClampNeg 0) wt S (by omega) hF hct (by rw [e3]; exact hpG_s o17) (by rw [e3, hpG_sn (Ne.symm (nq 0 u0))]; exact q17) f0 f1 rfl rfl (by rw [e3, hpG_sn (Ne.symm (nq2 0 u0))]; exact a2) (fun i hi => by rw [a3 i hi]; exact s4' i hi) a4 (fc := fc) (by rw [e3, hpG_sn nc0]; exact kq _ (nq _ uc) _ hcc) c0 c1 c2 c3 (fun i hi h0 h2 hc => ?_) (fun i hi => ⟨nq i hi, nq2 i hi⟩) (Ne.symm hq2.2)
      have ni : ad i ≠ ad 0 := fun z => h0 (s9 i 0 hi u0 z)
      obtain ⟨c, hc', -⟩ := sm_live S hi
      rw [e3, hpG_sn ni, hc']
      exact kq _ (nq i hi) _ ((kp i hi hc).trans hc')
    have kx : ∀ b c, hpG H0 b = some c → b ≠ ad (60 + (s * 10 + y)) → b ≠ ad 0 → hpG H3 b = some c := fun b c hb h1 h2 => by
      have nb : b ≠ q := ne_fresh hb hq
      rw [e3, hpG_sn h2]
      exact kq _ nb _ ((hk b nb h1).trans hb)
    have B3 : TB Z H3 x1 v l := by
      obtain ⟨mm, ⟨ml, f, b1, b2, b3⟩, b4⟩ := T.1
      exact ⟨mm, ⟨ml, f, kx _ _ b1 (fun z => (T.2.2 _ uc).2 z.symm) (fun z => (T.2.2 0 u0).2 z.symm), kx _ _ b2 (fun z => (T.2.2 _ uc).1 z.symm) (fun z => (T.2.2 0 u0).1 z.symm), b3⟩, b4⟩
    have q2H0 : ∀ b c, hpG H0 b = some c → b ≠ q2 := fun b c hb => by
      by_cases z : b = ad (60 + (s * 10 + y))
      · rw [z]; exact nq2 _ uc
      · exact nq2' b c ((hk b (ne_fresh hb hq) z).trans hb)
    have N3 : ∀ i, uA (adF t co (s * 10 + y) d) i → va_up (va_up ad 2 q2) (30 + tF t) q i ≠ v ∧ va_up (va_up ad 2 q2) (30 + tF t) q i ≠ x1 := fun i hi => by
      obtain ⟨mm, ⟨ml, f, b1, b2, b3⟩, b4⟩ := T.1
      by_cases z1 : i = 30 + tF t
      · rw [z1, va_up_self]
        exact ⟨(ne_fresh b2 hq).symm, (ne_fresh b1 hq).symm⟩
      · rw [va_up_ne _ _ z1]
        by_cases z2 : i = 2
        · rw [z2, va_up_self]
          exact ⟨(q2H0 _ _ b2).symm, (q2H0 _ _ b1).symm⟩
        · rw [va_up_ne _ _ z2]
          refine T.2.2 i ?_
          rcases hi with a | a | a | a | a
          · exact Or.inl a
          · exact Or.inr (Or.inl a)
          · exact Or.inr (Or.inr (Or.inl a))
          · have a2 : i < 30 + (tF t + 1) := a.2
            exact Or.inr (Or.inr (Or.inr (Or.inl ⟨a.1, by omega⟩)))
          · exact Or.inr (Or.inr (Or.inr (Or.inr a)))
    have T3 : TS Z H3 x1 v (va_up (va_up ad 2 q2) (30 + tF t) q) (adF t co (s * 10 + y) d) l := ⟨B3, S3, N3⟩
    have A0 : va_up (va_up ad 2 q2) (30 + tF t) q 0 = ad 0 := by rw [va_up_ne _ _ (by omega), va_up_ne _ _ (by omega)]
    have Aq : va_up (va_up ad 2 q2) (30 + tF t) q (30 + tF t) = q := va_up_self _ _ _
    have hr3 : stD Z H3 r w (plX s y) := by
      obtain ⟨h1, h2, gg, g1, g2, g3⟩ := hr
      obtain ⟨fcc, hcc0, -⟩ := s3 _ hct
      refine ⟨h1, h2, gg, kx _ _ g1 (ne_of_cells g1 hcc0 (by simp)) (ne_of_cells g1 s0 (by simp)), ?_, g3⟩
      exact kx _ _ g2 (hwA _ uc) (ne_of_cells g2 s0 (by simp))
    rw [← e3]
    generalize va_up (va_up ad 2 q2) (30 + tF t) q = ad' at T3 A0 Aq
    have hde : tDe (adF t co (s * 10 + y) d) (tF t) = nI d := va_up_self _ _ _
    cases co
    · exact br_t rfl (td_478 T3 Aq (Nat.lt_succ_self _) hde hd9 (by decide) (by rw [kl44]; decide) hr3 hw (by omega) (by omega) hl (by omega) (by omega) (fun H' v' T' => kk H' v' ad' T' A0))
    · exact br_f (by decide) (td_478 T3 Aq (Nat.lt_succ_self _) hde hd9 (by decide) (by rw [kl43]; decide) hr3 hw (by omega) (by omega) hl (by omega) (by omega) (fun H' v' T' => kk H' v' ad' T' A0))
end TOLDP
