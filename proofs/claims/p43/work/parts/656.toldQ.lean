/-! PURE: the law tells the places, one after another. -/
section TOLDQ
variable {K : Nat → gH → Prop} {KL : gH → Nat → Nat → Nat → Int32 → Int32 → Nat → Int32 → Int32 → Prop} {Z : gZ} {H : gH} {x1 v bc bs x4 : Nat} {ad : Nat → Nat} {t : Tl} {l : List Nat} {x2 x3 x5 x6 x7 : Int32}
theorem cu_row (S : SimG Z H ad t (x0 t)) {c : Nat} (hc : clT t c) : ∃ f, hpG H (ad (60 + c)) = some (iE (zY Z 1) 4 f) ∧ f 0 = nI (c % 10) ∧ f 1 = fI (tFi t c) ∧ f 2 = zB1w (tSp t c) ∧ f 3 = 0 := S.2.2.2.1 c hc
abbrev KKF (Z : gZ) (x1 bc bs : Nat) (ad : Nat → Nat) (t : Tl) (l : List Nat) (KL : gH → Nat → Nat → Nat → Int32 → Int32 → Nat → Int32 → Int32 → Prop) (x2 x3 x6 : Int32) (s y : Nat) : Prop := ∀ H' v' ad' d bc' bs' co, TS Z H' x1 v' ad' (adF t co (s * 10 + y) d) (l ++ lnX (if co = true then (1, s, y, d) else (2, s, y, d))) → ad' 0 = ad 0 → tFi t (s * 10 + y) = none → d ≤ 999 → (co = false → d < tE t) → bc ≤ bc' + 7 → bs ≤ bs' + 15044 → KL H' bc' bs' x1 x2 x3 (ad 0) (nI (tE t)) (x6 + 1)

theorem td_378f {s y r w : Nat} (wt : wfT t) (T : TS Z H x1 v ad t l) (hs : s < tN t) (hy : y < tM t) (hn : tFi t (s * 10 + y) = none) (hF : tF t < 24) (hE : tE t ≤ 3) (hco : 0 < tE t) (hr : stD Z H r w (plX s y)) (hw : w ≠ v) (hwA : ∀ i, uA t i → w ≠ ad i) (hl : l.length ≤ 1300) (hbc : 7 ≤ bc) (hbs : 15044 ≤ bs)
    (kk : KKF Z x1 bc bs ad t l KL x2 x3 x6 s y) : wL_told_378 K KL Z H bc bs x1 x2 x3 (ad 0) (nI (tE t)) x6 x7 (ad (60 + (s * 10 + y))) r 0 := by
  have S := T.2.1
  have S' := S
  obtain ⟨s0, -, -, -, ⟨fF, s4, s4'⟩, -⟩ := S'
  have m10 := wt.2.1.2
  have n8 := wt.1.2
  have hct : clT t (s * 10 + y) := ⟨by omega, by omega⟩
  obtain ⟨fc, hc, g0, g1, g2, g3⟩ := cu_row S hct
  unfold wL_told_378
  refine ⟨ad 2, gF_of s0 rfl, tF t, fF, s4, 4, fc, hc, by unfold vp_in; decide, by omega, by show 4 ≤ bs; omega, fun q hq => ?_⟩
  have nqc : q ≠ ad (60 + (s * 10 + y)) := fun z => by rw [z, hpG_s hc] at hq; cases hq
  have hq0 : hpG H q = none := (hpG_sn nqc).symm.trans hq
  have ncq := Ne.symm nqc
  refine br_t rfl ?_
  unfold wL_told_405
  refine ⟨_, _, hpG_n, by unfold vp_in; decide, _, _, (hpG_sn ncq).trans ((hpG_nn ncq).trans (hpG_s hc)), by unfold vp_in; decide, _, _, hpG_s hpG_n, by unfold vp_in; decide, ?_⟩
  refine br_t rfl (hz_blw (n := tE t) (hco) (by omega) ?_)
  have hd := blw_lt (x := x7 >>> (6 &&& 31)) (n := tE t) hco
  generalize blw (x7 >>> (6 &&& 31)) (tE t) = d at hd ⊢
  refine td_443 (co := false) (fc := upd fc (1 : Int32).toNatClampNeg (nI (tF t))) wt T hs hy hF hE hq0 hr hw hwA hl (by omega) ((hpG_sn ncq).trans ((hpG_sn ncq).trans ((hpG_nn ncq).trans (hpG_s hc)))) g0 rfl g2 g3 (hpG_s (hpG_s hpG_n)) rfl g0 (fun b hb hb2 => (hpG_sn hb).trans ((hpG_sn hb).trans ((hpG_nn hb).trans (hpG_sn hb2)))) (by omega) (by show 15040 ≤ bs - 4; omega) (fun H' v' ad' T' A0 => kk H' v' ad' d _ _ false T' A0 hn (by omega) (fun z => hd) (by omega) ?_)
  show bs ≤ bs - 4 - (tF t + 1) - 3002 - 3002 - 3002 - 3002 - 3002 + 15044
  omega
theorem td_378t {s y r w : Nat} (wt : wfT t) (T : TS Z H x1 v ad t l) (hs : s < tN t) (hy : y < tM t) (hn : tFi t (s * 10 + y) = none) (hF : tF t < 24) (hE : tE t ≤ 3) (hr : stD Z H r w (plX s y)) (hw : w ≠ v) (hwA : ∀ i, uA t i → w ≠ ad i) (hl : l.length ≤ 1300) (hbc : 7 ≤ bc) (hbs : 15044 ≤ bs)
    (kk : KKF Z x1 bc bs ad t l KL x2 x3 x6 s y) : wL_told_378 K KL Z H bc bs x1 x2 x3 (ad 0) (nI (tE t)) x6 x7 (ad (60 + (s * 10 + y))) r 1 := by
  have S := T.2.1
  have S' := S
  obtain ⟨s0, -, -, -, ⟨fF, s4, s4'⟩, -⟩ := S'
  have m10 := wt.2.1.2
  have n8 := wt.1.2
  have hct : clT t (s * 10 + y) := ⟨by omega, by omega⟩
  obtain ⟨fc, hc, g0, g1, g2, g3⟩ := cu_row S hct
  unfold wL_told_378
  refine ⟨ad 2, gF_of s0 rfl, tF t, fF, s4, 4, fc, hc, by unfold vp_in; decide, by omega, by show 4 ≤ bs; omega, fun q hq => ?_⟩
  have nqc : q ≠ ad (60 + (s * 10 + y)) := fun z => by rw [z, hpG_s hc] at hq; cases hq
  have hq0 : hpG H q = none := (hpG_sn nqc).symm.trans hq
  have ncq := Ne.symm nqc
  refine br_f (by decide) ?_
  unfold wL_told_405
  refine ⟨_, _, hpG_n, by unfold vp_in; decide, _, _, (hpG_sn ncq).trans ((hpG_nn ncq).trans (hpG_s hc)), by unfold vp_in; decide, _, _, hpG_s hpG_n, by unfold vp_in; decide, ?_⟩
  refine br_f (by decide) (hz_blw (n := 1000) (by decide) (by decide) ?_)
  have hd := blw_lt (x := x7 >>> (4 &&& 31)) (n := 1000) (by decide)
  generalize blw (x7 >>> (4 &&& 31)) 1000 = d at hd ⊢
  refine td_443 (co := true) (fc := upd fc (1 : Int32).toNatClampNeg (nI (tF t))) wt T hs hy hF hE hq0 hr hw hwA hl (by omega) ((hpG_sn ncq).trans ((hpG_sn ncq).trans ((hpG_nn ncq).trans (hpG_s hc)))) g0 rfl g2 g3 (hpG_s (hpG_s hpG_n)) rfl g0 (fun b hb hb2 => (hpG_sn hb).trans ((hpG_sn hb).trans ((hpG_nn hb).trans (hpG_sn hb2)))) (by omega) (by show 15040 ≤ bs - 4; omega) (fun H' v' ad' T' A0 => kk H' v' ad' d _ _ true T' A0 hn (by omega) (fun z => by cases z) (by omega) ?_)
  show bs ≤ bs - 4 - (tF t + 1) - 3002 - 3002 - 3002 - 3002 - 3002 + 15044
  omega
theorem td_343 {s y r w x10 : Nat} (wt : wfT t) (T : TS Z H x1 v ad t l) (hs : s < tN t) (hy : y < tM t) (hF : tF t < 24) (hE : tE t ≤ 3) (hr : stD Z H r w (plX s y)) (hw : w ≠ v) (hwA : ∀ i, uA t i → w ≠ ad i) (hl : l.length ≤ 1300) (hbc : 7 ≤ bc) (hbs : 15044 ≤ bs)
    (k0 : KL H bc bs x1 x2 x3 (ad 0) (nI (tE t)) (x6 + 1)) (kk : KKF Z x1 bc bs ad t l KL x2 x3 x6 s y) : wL_told_343 K KL Z H bc bs x1 x2 x3 (ad 0) (nI (tE t)) x6 x7 (ad (60 + (s * 10 + y))) r (nI x10) := by
  have S := T.2.1
  have m10 := wt.2.1.2
  have n8 := wt.1.2
  have hct : clT t (s * 10 + y) := ⟨by omega, by omega⟩
  obtain ⟨fc, hc, g0, g1, g2, g3⟩ := cu_row S hct
  have none' : ¬ (0 : Int32) ≤ fc (1 : Int32).toNatClampNeg → tFi t (s * 10 + y) = none := fun h => by
    rw [show (1 : Int32).toNatClampNeg = 1 from rfl, g1] at h
    cases z : tFi t (s * 10 + y) with
    | none => rfl
    | some f =>
      rw [z] at h
      have := wt.2.2.2.2.2.1 _ _ (clT_80 wt hct) z
      have f24 := wt.2.2.2.1
      exact absurd (nI_le (a := 0) (b := f) (by omega) (by omega)) h
  unfold wL_told_343 wL_told_514
  refine ⟨fun _ => k0, fun _ => ⟨4, fc, hc, by unfold vp_in; decide, ⟨fun _ => k0, fun h1 => ⟨fun _ => k0, fun _ => ⟨fun _ => ?_, fun h5 => ⟨fun _ => ?_, fun _ => ?_⟩⟩⟩⟩⟩⟩
  · unfold wL_told_373
    exact td_378t wt T hs hy (none' h1) hF hE hr hw hwA hl hbc hbs kk
  · refine td_378f wt T hs hy (none' h1) hF hE ?_ hr hw hwA hl hbc hbs kk
    rcases Nat.eq_zero_or_pos (tE t) with z | z
    · exact absurd (show nI (tE t) = 0 by rw [z]; rfl) h5
    · exact z
  · unfold wL_told_373
    exact td_378t wt T hs hy (none' h1) hF hE hr hw hwA hl hbc hbs kk
/-- a spring -/
theorem td_spr {s y r w : Nat} (wt : wfT t) (T : TS Z H x1 v ad t l) (hs : s < tN t) (hy : y < tM t) (hr : stD Z H r w (plX s y)) (hw : w ≠ v) (hwA : ∀ i, uA t i → w ≠ ad i) (hl : l.length ≤ 1300) (hbc : 3 ≤ bc) (hbs : 9006 ≤ bs)
    (kk : ∀ H' v', TS Z H' x1 v' ad (adS t (s * 10 + y)) (l ++ lnX (3, s, y, 0)) → KL H' (bc - 1 - 1 - 1) (bs - 3002 - 3002 - 3002) x1 x2 x3 (ad 0) (nI (tE t)) (x6 + 1)) :
    ∃ (n50 : Nat) (f51 : Nat → Int32), hpG H (ad (60 + (s * 10 + y))) = some (iE (zY Z 1) n50 f51) ∧ vp_in 2 n50 ∧ ((∃ fs, hpG (hpS H (ad (60 + (s * 10 + y))) (iE (zY Z 1) n50 (upd f51 (2 : Int32).toNatClampNeg 1))) x1 = some (.inr (11, fs))) ∧ ∃ (c54 s54 : Nat), c54 ≤ bc ∧ s54 ≤ bs ∧ whJ4_append_15ec4 Z (hpS H (ad (60 + (s * 10 + y))) (iE (zY Z 1) n50 (upd f51 (2 : Int32).toNatClampNeg 1))) c54 s54 x1 (Z.1 42) (fun r54 H54 => (∃ fs, hpG H54 r54 = some (.inr (11, fs))) ∧ ∃ (c55 s55 : Nat), c55 ≤ (bc - c54) ∧ s55 ≤ (bs - s54) ∧ whJ4_append_15ec4 Z H54 c55 s55 r54 r (fun r55 H55 => (∃ fs, hpG H55 r55 = some (.inr (11, fs))) ∧ ∃ (c56 s56 : Nat), c56 ≤ ((bc - c54) - c55) ∧ s56 ≤ ((bs - s54) - s55) ∧ whJ4_append_15ec4 Z H55 c56 s56 r55 (Z.1 39) (fun r56 H56 => wL_told_514 K KL Z H56 (((bc - c54) - c55) - c56) (((bs - s54) - s55) - s56) x1 x2 x3 (ad 0) (nI (tE t)) x6)))) := by
  have S := T.2.1
  have S' := S
  obtain ⟨-, -, -, -, -, -, -, -, -, ⟨s9, -⟩, -⟩ := S'
  have m10 := wt.2.1.2
  have n8 := wt.1.2
  have hct : clT t (s * 10 + y) := ⟨by omega, by omega⟩
  have uc : uA t (60 + (s * 10 + y)) := Or.inr (Or.inr (Or.inr (Or.inr ⟨by omega, by rw [show 60 + (s * 10 + y) - 60 = s * 10 + y by omega]; exact hct.1, by rw [show 60 + (s * 10 + y) - 60 = s * 10 + y by omega]; exact hct.2⟩)))
  obtain ⟨fc, hc, g0, g1, g2, g3⟩ := cu_row S hct
  refine ⟨4, fc, hc, by unfold vp_in; decide, ?_⟩
  have F : Fr (fun b => b = ad (60 + (s * 10 + y))) H (hpS H (ad (60 + (s * 10 + y))) (iE (zY Z 1) 4 (upd fc (2 : Int32).toNatClampNeg 1))) := Fr.s rfl
  have S3 : SimG Z (hpS H (ad (60 + (s * 10 + y))) (iE (zY Z 1) 4 (upd fc (2 : Int32).toNatClampNeg 1))) ad (adS t (s * 10 + y)) (x0 (adS t (s * 10 + y))) := sm_addS wt hct S (hpG_s hc) g0 g1 rfl g3 (fun i hi hn => hpG_sn (fun z => hn (s9 i _ hi uc z)))
  have T3 : TS Z (hpS H (ad (60 + (s * 10 + y))) (iE (zY Z 1) 4 (upd fc (2 : Int32).toNatClampNeg 1))) x1 v ad (adS t (s * 10 + y)) l := ⟨T.1.fr F (fun z => (T.2.2 _ uc).2 z.symm) (fun z => (T.2.2 _ uc).1 z.symm), S3, fun i hi => T.2.2 i hi⟩
  have hr3 := hr.fr F (fun z => by
    obtain ⟨h1, h2, gg, g1, -⟩ := hr
    rw [z, hc] at g1
    cases g1) (hwA _ uc)
  have ds := dL (show s < 1000000 by omega)
  have dy := dL (show y < 1000000 by omega)
  have pl : (plX s y).length ≤ 17 := by
    show ([] ++ kTl 40 ++ decL s ++ kTl 41 ++ decL y).length ≤ 17
    simp only [List.length_append, kl40, kl41, List.length_nil]
    omega
  refine ts_K (i := 42) (by decide) T3 (by rw [kl42]; omega) (by omega) (by omega) (fun H4 v4 T4 F4 n4 => ?_)
  obtain ⟨hr4, hw4⟩ := st_keep T3 hr3 hw F4 n4
  refine ts_X T4 (Or.inl ⟨w, hr4⟩) (by simp only [List.length_append, kl42]; omega) (by omega) (by omega) (fun H5 v5 T5 _ _ => ?_)
  refine ts_K (i := 39) (by decide) T5 (by simp only [List.length_append, kl42, kl39]; omega) (by omega) (by omega) (fun H6 v6 T6 _ _ => ?_)
  unfold wL_told_514
  refine kk H6 v6 ?_
  rw [List.append_assoc, List.append_assoc] at T6
  exact T6
/-- before the place j -/
def PS (Z : gZ) (H : gH) (x1 v : Nat) (ad : Nat → Nat) (n m e : Nat) (L : List Ln) (j : Nat) : Prop := TS Z H x1 v ad (adA (t00 n m) L) (hdX n m ++ lnsX L) ∧ okA (t00 n m) L ∧ tE (adA (t00 n m) L) = e ∧ tF (adA (t00 n m) L) ≤ j ∧ (lnsT L).length ≤ 21 + 8 * j ∧ (hdX n m ++ lnsX L).length ≤ 160 + 40 * j
theorem PS.no {n m e j : Nat} {L : List Ln} (P : PS Z H x1 v ad n m e L j) : PS Z H x1 v ad n m e L (j + 1) := by
  obtain ⟨p1, p2, p3, p4, p5, p6⟩ := P
  exact ⟨p1, p2, p3, by omega, by omega, by omega⟩
theorem lnX_le {a : Ln} (h1 : a.2.1 < 1000000) (h2 : a.2.2.1 < 1000000) (h3 : a.2.2.2 < 1000000) : (lnX a).length ≤ 40 := by
  obtain ⟨k, x, y, z⟩ := a
  have d1 := dL (v := x) h1
  have d2 := dL (v := y) h2
  have d3 := dL (v := z) h3
  match k with
  | 0 =>
    show (kTl 36 ++ (decL x ++ (kTl 37 ++ (decL y ++ (kTl 38 ++ (decL z ++ kTl 39)))))).length ≤ 40
    simp only [List.length_append, kl36, kl37, kl38, kl39]
    omega
  | 1 =>
    show (kTl 43 ++ (([] ++ kTl 40 ++ decL x ++ kTl 41 ++ decL y) ++ (kTl 45 ++ (decL z ++ kTl 35)))).length ≤ 40
    simp only [List.length_append, List.length_nil, kl43, kl40, kl41, kl45, kl35]
    omega
  | 2 =>
    show (kTl 44 ++ (([] ++ kTl 40 ++ decL x ++ kTl 41 ++ decL y) ++ (kTl 46 ++ (decL z ++ kTl 35)))).length ≤ 40
    simp only [List.length_append, List.length_nil, kl44, kl40, kl41, kl46, kl35]
    omega
  | n + 3 =>
    show (kTl 42 ++ (([] ++ kTl 40 ++ decL x ++ kTl 41 ++ decL y) ++ kTl 39)).length ≤ 40
    simp only [List.length_append, List.length_nil, kl42, kl40, kl41, kl39]
    omega
theorem PS.add {n m e j : Nat} {L : List Ln} (P : PS Z H x1 v ad n m e L j) {H' : gH} {v' : Nat} {ad' : Nat → Nat} {a : Ln} (ok : okL (adA (t00 n m) L) a) (T : TS Z H' x1 v' ad' (adL (adA (t00 n m) L) a) ((hdX n m ++ lnsX L) ++ lnX a)) (h1 : a.2.1 < 1000000) (h2 : a.2.2.1 < 1000000) (h3 : a.2.2.2 < 1000000) (hE : tE (adL (adA (t00 n m) L) a) = tE (adA (t00 n m) L)) (hF : tF (adL (adA (t00 n m) L) a) ≤ tF (adA (t00 n m) L) + 1) : PS Z H' x1 v' ad' n m e (L ++ [a]) (j + 1) := by
  obtain ⟨p1, p2, p3, p4, p5, p6⟩ := P
  have t7 := lnT_le a
  have x40 := lnX_le h1 h2 h3
  rw [List.append_assoc, ← lnsX_snoc] at T
  refine ⟨by rw [adA_snoc]; exact T, okA_snoc L _ a p2 ok, by rw [adA_snoc, hE, p3], by rw [adA_snoc]; omega, by rw [lnsT_snoc]; omega, ?_⟩
  rw [lnsX_snoc, ← List.append_assoc, List.length_append]
  omega
end TOLDQ
/-- the places -/
theorem td_198 {K : Nat → gH → Prop} {Z : gZ} {x1 x4 n m e R R' : Nat} (hn : 2 ≤ n ∧ n ≤ 8) (hm : 2 ≤ m ∧ m ≤ 10) (he : e ≤ 3)
    (fin : ∀ H v ad bc bs L, PS Z H x1 v ad n m e L 12 → ad 0 = x4 → R ≤ bc → R' ≤ bs → wL_told_198 K Z 1 H bc bs x1 (nI n) (nI m) x4 (nI e) (nI 12)) : ∀ (d j : Nat) (H : gH) (v : Nat) (ad : Nat → Nat) (bc bs : Nat) (L : List Ln), j + d = 12 → PS Z H x1 v ad n m e L j → ad 0 = x4 → 16 * d + R ≤ bc → 30000 * d + R' ≤ bs → wL_told_198 K Z (d + 1) H bc bs x1 (nI n) (nI m) x4 (nI e) (nI j) := by
  intro d
  induction d with
  | zero =>
    intro j H v ad bc bs L hj P h0 hb hb2
    have : j = 12 := by omega
    subst this
    exact fin H v ad bc bs L P h0 (by omega) (by omega)
  | succ d ih =>
    intro j H v ad bc bs L hj P h0 hb hb2
    have P0 := P
    obtain ⟨T, p2, p3, p4, p5, p6⟩ := P
    have wt : wfT (adA (t00 n m) L) := wf_adA L _ (wf_00 hn hm) p2
    have tn : tN (adA (t00 n m) L) = n := (adA_nm L _).1
    have tm : tM (adA (t00 n m) L) = m := (adA_nm L _).2
    have S := T.2.1
    have S' := S
    obtain ⟨s0, ⟨fS, s1, s1'⟩, s2, -⟩ := S'
    rw [← p3] at he
    generalize ht : adA (t00 n m) L = t at T wt tn tm S s0 s1 s1' s2 p3 p4 he
    generalize hl : hdX n m ++ lnsX L = l at T p6
    unfold wL_told_198
    rw [show (3 : Int32) + nI j = nI (3 + j) from nI_add 3 j]
    refine br_f (nI_ge (b := 12) (by omega) (by decide)) (hz_cell (j := 3 + j) (by omega) (fun r18 => ?_))
    generalize (r18 >>> (1 &&& 31)) + 13 * nI j = x8
    refine ⟨ad 1, by rw [← h0]; exact gF_of s0 rfl, hz_blw (n := n) (by omega) (by omega) ?_⟩
    have hs := blw_lt (x := x8) (n := n) (by omega)
    have hy := blw_lt (x := x8 >>> (3 &&& 31)) (n := m) (by omega)
    generalize hsv : blw x8 n = s at hs ⊢
    generalize hyv : blw (x8 >>> (3 &&& 31)) m = y at hy ⊢
    have hs' : s < tN t := by omega
    have hy' : y < tM t := by omega
    obtain ⟨fR, q1, q2⟩ := s2 s hs'
    have hh : (gA1w (x0 t)).2.1 s = m := by
      show (if s < tN t then tM t else 0) = m
      rw [if_pos hs', tm]
    rw [hh] at q1 q2
    refine ⟨tN t, fS, ad (10 + s), s1, vp_in_nI hs' (by omega), by rw [nI_clamp (by omega)]; exact s1' s hs', hz_blw (n := m) (by omega) (by omega) ?_⟩
    rw [hyv]
    refine ⟨m, fR, ad (60 + (s * 10 + y)), q1, vp_in_nI hy (by omega), by rw [nI_clamp (by omega)]; exact q2 y hy, by omega, by omega, fun q35 hq35 => ?_⟩
    refine bd_new (Fr.refl) hq35 (by omega) (by omega) (fun H1 B1 => ?_)
    refine bd_K (i := 40) (by decide) B1 (by rw [kl40]; decide) (by omega) (by omega) (fun H2 B2 => ?_)
    refine hz_blw (n := n) (by omega) (by omega) ?_
    rw [hsv]
    refine bd_I (x := s) (by omega) B2 (by simp only [List.length_append, kl40, List.length_nil]; decide) (by omega) (by omega) (fun H3 B3 => ?_)
    have ds := dL (show s < 1000000 by omega)
    have dy := dL (show y < 1000000 by omega)
    refine bd_K (i := 41) (by decide) B3 (by simp only [List.length_append, kl40, kl41, List.length_nil]; omega) (by omega) (by omega) (fun H4 B4 => ?_)
    refine hz_blw (n := m) (by omega) (by omega) ?_
    rw [hyv]
    refine bd_I (x := y) (by omega) B4 (by simp only [List.length_append, kl40, kl41, List.length_nil]; omega) (by omega) (by omega) (fun H5 B5 => ?_)
    refine bd_end B5 (by simp only [List.length_append, kl40, kl41, List.length_nil]; omega) (by omega) (by omega) (fun r w H6 hr hrn hwn F5 F6 => ?_)
    have T5 := T.nf B5.2.2
    have T6 := T.nf F6
    have hr : stD Z H6 r w (plX s y) := hr
    have hw : w ≠ v := by
      obtain ⟨mm, ⟨ml, f, b1, b2, b3⟩, b4⟩ := T5.1
      exact (ne_fresh b2 hwn).symm
    have hwA : ∀ i, uA t i → w ≠ ad i := fun i hi => by
      obtain ⟨c, hc, -⟩ := sm_live T5.2.1 hi
      exact (ne_fresh hc hwn).symm
    have P6 : PS Z H6 x1 v ad n m e L j := ⟨by rw [ht, hl]; exact T6, p2, by rw [ht]; exact p3, by rw [ht]; exact p4, p5, by rw [hl]; exact p6⟩
    have hl13 : l.length ≤ 1300 := by omega
    have f24 : tF t < 24 := by omega
    -- what follows
    have k0 : wL_told_198 K Z (d + 1) H6 (bc - 1 - 1 - 1 - 1 - 1 - 1 - 2) (bs - 4 - 16 - 3002 - 3002 - 3002 - 3002 - 1504) x1 (nI n) (nI m) x4 (nI e) (nI (j + 1)) := ih (j + 1) H6 v ad _ _ L (by omega) P6.no h0 (by omega) (by omega)
    have kk : KKF Z x1 (bc - 1 - 1 - 1 - 1 - 1 - 1 - 2) (bs - 4 - 16 - 3002 - 3002 - 3002 - 3002 - 1504) ad t l (wL_told_198 K Z (d + 1)) (nI n) (nI m) (nI j) s y := by
      intro H' v' ad' dd bc' bs' co T' A' hnn hd hdE hb1' hb2'
      rw [nI_1, h0, p3]
      have P' : PS Z H' x1 v' ad' n m e (L ++ [if co = true then (1, s, y, dd) else (2, s, y, dd)]) (j + 1) := by
        cases co
        · refine PS.add P6 (a := (2, s, y, dd)) ?_ ?_ ?_ ?_ ?_ ?_ ?_
          · rw [ht]; exact ⟨hs', hy', hnn, f24, hdE rfl⟩
          · rw [ht, hl]; exact T'
          · show s < 1000000; omega
          · show y < 1000000; omega
          · show dd < 1000000; omega
          · rfl
          · exact Nat.le_refl _
        · refine PS.add P6 (a := (1, s, y, dd)) ?_ ?_ ?_ ?_ ?_ ?_ ?_
          · rw [ht]; exact ⟨hs', hy', hnn, f24, hd⟩
          · rw [ht, hl]; exact T'
          · show s < 1000000; omega
          · show y < 1000000; omega
          · show dd < 1000000; omega
          · rfl
          · exact Nat.le_refl _
      exact ih (j + 1) H' v' ad' bc' bs' _ (by omega) P' (by rw [A', h0]) (by omega) (by omega)
    have h343 : ∀ x10 : Nat, wL_told_343 K (wL_told_198 K Z (d + 1)) Z H6 (bc - 1 - 1 - 1 - 1 - 1 - 1 - 2) (bs - 4 - 16 - 3002 - 3002 - 3002 - 3002 - 1504) x1 (nI n) (nI m) x4 (nI e) (nI j) x8 (ad (60 + (s * 10 + y))) r (nI x10) := fun x10 => by
      have := td_343 (K := K) (x7 := x8) (x10 := x10) wt T6 hs' hy' f24 he hr hw hwA hl13 (by omega) (by omega) (by rw [nI_1, h0, p3]; exact k0) kk
      rw [h0, p3] at this
      exact this
    refine hz_blw (n := 7) (by decide) (by decide) ?_
    generalize blw (x8 >>> (5 &&& 31)) 7 = x10
    refine ⟨fun _ => h343 x10, fun _ => ?_⟩
    have hct : clT t (s * 10 + y) := ⟨by omega, by omega⟩
    obtain ⟨fc, hc, g0, g1, g2, g3⟩ := cu_row T6.2.1 hct
    refine ⟨4, fc, hc, by unfold vp_in; decide, fun _ => h343 x10, fun hz => ⟨fun _ => h343 x10, fun _ => ?_⟩⟩
    have hsp : tSp t (s * 10 + y) = false := by
      rw [show (2 : Int32).toNatClampNeg = 2 from rfl, g2] at hz
      cases z : tSp t (s * 10 + y)
      · rfl
      · rw [z] at hz
        exact absurd hz (by decide)
    have := td_spr (K := K) (KL := wL_told_198 K Z (d + 1)) (x2 := nI n) (x3 := nI m) (x6 := nI j) (bc := bc - 1 - 1 - 1 - 1 - 1 - 1 - 2) (bs := bs - 4 - 16 - 3002 - 3002 - 3002 - 3002 - 1504) wt T6 hs' hy' hr hw hwA hl13 (by omega) (by omega) (fun H' v' T' => by
      rw [nI_1, h0, p3]
      have P' : PS Z H' x1 v' ad n m e (L ++ [(3, s, y, 0)]) (j + 1) := by
        refine PS.add P6 (a := (3, s, y, 0)) ?_ ?_ ?_ ?_ ?_ ?_ ?_
        · rw [ht]; exact ⟨hs', hy', hsp⟩
        · rw [ht, hl]; exact T'
        · show s < 1000000; omega
        · show y < 1000000; omega
        · show 0 < 1000000; omega
        · rfl
        · exact Nat.le_succ _
      exact ih (j + 1) H' v' ad _ _ _ (by omega) P' h0 (by omega) (by omega))
    rw [h0, p3] at this
    exact this
