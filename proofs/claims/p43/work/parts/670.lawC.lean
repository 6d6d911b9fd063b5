/-! PURE: the law, the whole. -/
section LAWC
variable {KL : gH → Nat → Nat → cLS → Nat → Int32 → Int32 → Int32 → Prop} {Z : gZ} {a : gA} {t : Tl} {p : Pn} {o : Od} {x3 : Nat} {x6 x7 : Int32} {x : Gs} {H : gH} {ad : Nat → Nat} {bc bs : Nat}
theorem gmin_n {n u : Nat} (hn : n < 2 ^ 31) (hu : u < 2 ^ 31) : g_min (nI n) (nI u) = nI (min n u) := by
  unfold g_min
  by_cases z : u < n
  · rw [if_pos (nI_lt z hn), Nat.min_eq_right (by omega)]
  · rw [if_neg (nI_nlt (by omega) hu), Nat.min_eq_left (by omega)]
theorem gmax_d {s : Nat} (hs : s < 2 ^ 31) : g_max 0 (nI s - 1) = nI (s - 1) := by
  unfold g_max
  by_cases z : s = 0
  · subst z
    decide
  · rw [nI_dec (by omega)]
    by_cases y : s = 1
    · subst y
      decide
    · exact if_pos (nI_lt (a := 0) (by omega) (by omega))
theorem lw_241 {KL129 : gH → Nat → Nat → cLS → Nat → Int32 → Int32 → Int32 → Int32 → Int64 → Int32 → Int32 → Int32 → Int32 → Prop} (wt : wfT t) (Ix : Iv t x) {S : cLS} (C : CR S t p x) {s : Nat} (hs : s < tN t) {x8 : Int64} {x10 x11 x12 : Int32} (kk : KL129 H bc bs S x3 (nI (tN t)) (nI (tM t)) x6 x7 x8 x10 x11 x12 (nI (s + 1))) : ∀ (d u : Nat), u + d = min (tN t) (s + 2) → s - 1 ≤ u → wL_law_241 KL KL129 Z a (d + 1) H bc bs S x3 (nI (tN t)) (nI (tM t)) x6 x7 x8 x10 x11 x12 (nI s) (nI ((gA1w x).2.1 s)) (nI u) := by
  have n8 := wt.1.2
  have hs10 := Ix.1.1.1 s
  have eg : g_min (nI (tN t)) (nI s + 2) = nI (min (tN t) (s + 2)) := by
    rw [show nI s + 2 = nI (s + 2) from nI_add s 2, gmin_n (by omega) (by omega)]
  intro d
  induction d with
  | zero =>
    intro u hu _
    unfold wL_law_241
    rw [eg, nI_1]
    exact br_t (nI_le (by omega) (by omega)) kk
  | succ d ih =>
    intro u hu hl
    have hun : u < tN t := by omega
    have hu10 := Ix.1.1.1 u
    have nx := ih (u + 1) (by omega) (by omega)
    unfold wL_law_241 wL_law_288
    rw [eg, nI_1, nI_1, show nI ((gA1w x).2.1 s) + 3 = nI ((gA1w x).2.1 s + 3) from nI_add _ 3]
    refine br_f (nI_ge (by omega) (by omega)) (ka_heightOf wt Ix.1 C hun ?_)
    by_cases c1 : (gA1w x).2.1 u ≤ (gA1w x).2.1 s + 3
    · exact br_t (nI_le c1 (by omega)) nx
    · refine br_f (nI_ge (by omega) (by omega)) (ka_isPropped wt Ix.1 C hun ?_)
      cases c2 : gP x u
      · refine bn_t (by decide) (ka_hasTopSpring wt Ix.1 C hun (by omega) ?_)
        cases c3 : tSp t (tp (gA1w x) u)
        · exfalso
          obtain ⟨a1, a2⟩ := src_iff.mp (Ix.2.2.2.1 s hs)
          have key : cs (tSp t) (gP x) (gA1w x).1 (gA1w x).2.1 u s = true := by
            unfold cs
            rw [decide_eq_true (by omega), c2]
            show (true && (true && !tSp t ((gA1w x).1 (u * 10 + ((gA1w x).2.1 u - 1))))) = true
            rw [show tSp t ((gA1w x).1 (u * 10 + ((gA1w x).2.1 u - 1))) = false from c3]
            rfl
          have : u = s - 1 ∨ u = s ∨ u = s + 1 := by omega
          rcases this with q | q | q
          · by_cases z : s = 0
            · rw [show u = s by omega] at c1; omega
            · rw [q, a1 z] at key; cases key
          · rw [q] at c1; omega
          · rw [q, a2] at key; cases key
        · exact bn_n (by decide) nx
      · exact bn_n (by decide) nx
theorem sm_cut {f : Nat → Nat} {n : Nat} (hz : ∀ k, n ≤ k → f k = 0) : ∀ m, n ≤ m → fb_sm f m = fb_sm f n := by
  intro m
  induction m with
  | zero => intro h; rw [show n = 0 by omega]
  | succ m ih =>
    intro h
    by_cases z : n = m + 1
    · rw [z]
    · rw [fb_sm_succ, ih (by omega), hz m (by omega)]
      rfl
theorem lw_129 (wt : wfT t) (wp : wfP p) (wo : odW (tE t) o) (hp : odP p o) (ft : ∀ e, e < tE t → ¬ tTo t e < tFr t e) (Ix : Iv t x) (G : SimG Z H ad t x) (A : odA Z H ad o) (h0 : ad 0 = x3) (b1 : bgX (gA1w x) ≤ bc) (b2 : 10 * bgX (gA1w x) ≤ bs) (kk : KKL KL Z t p o x3 x6) {kf : Nat → Nat} (hkf : ∀ s, s < tN t → 0 < (gA1w x).2.1 s → kf s ≤ 800 ∧ ∃ b, Stl (tSp t) (gP x) (tN t) (kf s) (dg1 (gA1w x) s) b) {S : cLS} (C : CR S t p x) : ∀ (d s : Nat), s + d = tN t → wL_law_129 KL Z a (d + 1) H bc bs S x3 (nI (tN t)) (nI (tM t)) x6 x7 (dgA t x (fI (bst (gA1w x).2.1 kf (lf t (gA1w x)) (tN t)))) (nI (fb_sm (gA1w x).2.1 s)) (nI (fb_sm (fun s => lf t (gA1w x) s) s)) (nI (fb_ct (gP x) s)) (nI s) := by
  have n8 := wt.1.2
  have m10 := wt.2.1.2
  have f24 := wt.2.2.2.1
  obtain ⟨dd, i5, i6⟩ := Ix.2.2.2.2
  have nm : tN t * tM t ≤ 80 := Nat.le_trans (Nat.mul_le_mul n8 m10) (by decide)
  have hcut : fb_sm (gA1w x).2.1 8 = fb_sm (gA1w x).2.1 (tN t) := sm_cut (fun k hk => Ix.1.1.2.1 k hk) 8 n8
  have i6' : fb_sm (gA1w x).2.1 (tN t) + dd = tN t * tM t := by rw [← hcut]; exact i6
  have ls := lf_sum wt Ix.1
  have a1 : fcX x = nI (fb_ct (fun f => decide (1 ≤ gF1w x f)) (tF t)) := by
    show nI (fb_ct (fun f => decide (1 ≤ gF1w x f)) 24) = _
    rw [ct_cut f24 (fun k hk => by rw [Ix.1.2.2.2.2.2.1 k hk]; rfl)]
  have p3 := Ix.2.1
  intro d
  induction d with
  | zero =>
    intro s hs
    have : s = tN t := by omega
    subst this
    have a3 : fb_ct (gP x) 8 = fb_ct (gP x) (tN t) := ct_cut n8 (fun k hk => Ix.1.2.2.2.2.1 k hk)
    unfold wL_law_129
    refine br_t (nI_le (Nat.le_refl _) (by omega)) (ka_cushionsDug C (bn_t ?_ (ka_found C (ka_finds C (bn_t ?_ (ka_props C (bn_t (by rw [a3]) (br_f ?_ (ka_sureFinds C (ka_found C (br_t ?_ ⟨tF t + 1, ?_⟩)))))))))))
    · rw [i5, nI_add, pk_mul, i6']
    · rw [a1, nI_add, ls]
    · exact nI_nlt (a := 3) (by omega) (by decide)
    · refine nI_le (fb_ct_sub (fun k _ h => ?_)) (by have := fb_ct_le (fun f => decide (1 ≤ gF1w x f)) 24; omega)
      have := of_decide_eq_true h
      exact decide_eq_true (by omega)
    · exact lw_363 wt wp wo hp ft Ix G A h0 b1 b2 kk hkf rfl (by omega) (tF t) 0 S (by omega) C
  | succ d ih =>
    intro s hs
    have hs' : s < tN t := by omega
    have nx := ih (s + 1) (by omega)
    rw [fb_sm_succ, fb_sm_succ, fb_ct_succ] at nx
    have hm := Ix.2.2.1 s
    have h10 := Ix.1.1.1 s
    have lle : lf t (gA1w x) s ≤ (gA1w x).2.1 s := fb_ct_le _ _
    have h178 : ∀ c, c = fb_ct (gP x) s + (if gP x s = true then 1 else 0) → wL_law_231 KL (wL_law_129 KL Z a (d + 1)) Z a H bc bs S x3 (nI (tN t)) (nI (tM t)) x6 x7 (dgA t x (fI (bst (gA1w x).2.1 kf (lf t (gA1w x)) (tN t)))) (nI (fb_sm (gA1w x).2.1 s + (gA1w x).2.1 s)) (nI (fb_sm (fun s => lf t (gA1w x) s) s + lf t (gA1w x) s)) (nI c) (nI s) (nI ((gA1w x).2.1 s)) := by
      intro c hc
      rw [← hc] at nx
      unfold wL_law_231
      rw [gmax_d (by omega)]
      exact ⟨min (tN t) (s + 2) - (s - 1) + 1, lw_241 wt Ix C hs' nx (min (tN t) (s + 2) - (s - 1)) (s - 1) (by omega) (Nat.le_refl _)⟩
    have h2 : ∀ z0 c, nI (fb_ct (gP x) s) + z0 = nI c → c = fb_ct (gP x) s + (if gP x s = true then 1 else 0) → wL_law_178 KL (wL_law_129 KL Z a (d + 1)) Z a H bc bs S x3 (nI (tN t)) (nI (tM t)) x6 x7 (dgA t x (fI (bst (gA1w x).2.1 kf (lf t (gA1w x)) (tN t)))) (nI (fb_sm (gA1w x).2.1 s + (gA1w x).2.1 s)) (nI (fb_sm (fun s => lf t (gA1w x) s) s + lf t (gA1w x) s)) (nI s) (nI ((gA1w x).2.1 s)) z0 (nI (fb_ct (gP x) s)) := by
      intro z0 c e hc
      have h3 := h178 c hc
      unfold wL_law_178
      rw [e]
      refine br_f (nI_pos (by omega)) (br_f (nI_nlt hm (by omega)) (ka_findsLeft wt Ix.1 C hs' (br_f (nI_nlt lle (by omega)) ?_)))
      by_cases z : (gA1w x).2.1 s = 0
      · exact br_t (by rw [z]; decide) h3
      · have hp0 : 0 < (gA1w x).2.1 s := by omega
        have hct : clT t (tp (gA1w x) s) := sm_top G hp0
        exact br_f (nI_ge (a := 0) hp0 (by omega)) (ka_topStratum wt Ix.1 C hs' hp0 (br_f (nI_pos (by omega)) (ka_topStratum wt Ix.1 C hs' hp0 (br_t (nI_lt hct.2 (by omega)) h3))))
    unfold wL_law_129
    refine br_f (nI_ge hs' (by omega)) (ka_heightOf wt Ix.1 C hs' (ka_findsLeft wt Ix.1 C hs' (ka_isPropped wt Ix.1 C hs' ?_)))
    rw [nI_add, nI_add]
    cases e : gP x s
    · refine br_t (by decide) (h2 0 (fb_ct (gP x) s + 0) (nI_add _ 0) ?_)
      rw [e]
      rfl
    · refine br_f (by decide) (h2 1 (fb_ct (gP x) s + 1) (nI_add _ 1) ?_)
      rw [e]
      rfl
theorem lw_76 (wt : wfT t) (wp : wfP p) (wo : odW (tE t) o) (hp : odP p o) (ft : ∀ e, e < tE t → ¬ tTo t e < tFr t e) (kk : KKL KL Z t p o x3 x6) : ∀ (d j : Nat) (S : cLS) (H : gH) (x : Gs) (ad : Nat → Nat) (bc bs : Nat), j + d = 2 → LSt Z S H t p o x ad → ad 0 = x3 → bgX (gA1w x) ≤ bc → 10 * bgX (gA1w x) ≤ bs → wL_law_76 KL Z a (d + 1) H bc bs S x3 (nI (tN t)) (nI (tM t)) x6 x7 (nI j) := by
  intro d
  induction d with
  | zero =>
    intro j S H x ad bc bs hj I h0 b1 b2
    obtain ⟨C, Ix, G, A⟩ := I
    obtain ⟨kf, hkf⟩ := kf_ex wt Ix.1
    unfold wL_law_76
    exact br_t (nI_le (a := 2) (by omega) (by omega)) (ka_digest wt Ix.1 C hkf (fun S1 C1 => ⟨tN t + 1, lw_129 wt wp wo hp ft Ix G A h0 b1 b2 kk hkf C1 (tN t) 0 (by omega)⟩))
  | succ d ih =>
    intro j S H x ad bc bs hj I h0 b1 b2
    unfold wL_law_76
    rw [nI_1]
    obtain ⟨y, g1, g2⟩ := sz_act (a := a) wt wp wo hp I ((x7 >>> ((3 * nI j) &&& 31)) + (29 * nI j))
    refine br_f (nI_ge (b := 2) (by omega) (by decide)) ⟨bgX (gA1w x) - bgX (gA1w y), 10 * (bgX (gA1w x) - bgX (gA1w y)), by omega, by omega, ?_⟩
    rw [← h0]
    refine g2 _ _ _ (by omega) (by omega) (fun S' H' ad' I' e => bn_n (by decide) ?_)
    rw [h0]
    exact ih (j + 1) S' H' y ad' _ _ (by omega) I' (by rw [e, h0]) (by omega) (by omega)
theorem lw_50 (wt : wfT t) (wp : wfP p) (wo : odW (tE t) o) (hp : odP p o) (ft : ∀ e, e < tE t → ¬ tTo t e < tFr t e) : ∀ (d i : Nat) (S : cLS) (H : gH) (x : Gs) (ad : Nat → Nat) (bc bs : Nat), i + d = 8 → LSt Z S H t p o x ad → ad 0 = x3 → bgX (gA1w x) ≤ bc → 10 * bgX (gA1w x) ≤ bs → wL_law_50 Z a (d + 1) H bc bs S x3 (nI (tN t)) (nI (tM t)) (nI i) := by
  intro d
  induction d with
  | zero =>
    intro i S H x ad bc bs hi I h0 b1 b2
    obtain ⟨C, Ix, G, A⟩ := I
    unfold wL_law_50
    rw [← h0]
    exact br_t (nI_le (a := 8) (by omega) (by omega)) ⟨⟨_, G.1⟩, sz_isSame wt Ix.1 C G rfl⟩
  | succ d ih =>
    intro i S H x ad bc bs hi I h0 b1 b2
    unfold wL_law_50
    refine br_f (nI_ge (b := 8) (by omega) (by decide)) (hz_cell (j := i) (by omega) (fun r2 => ⟨3, ?_⟩))
    refine lw_76 wt wp wo hp ft (fun S' H' y ad' bc' bs' I' h0' b1' b2' => ?_) 2 0 S H x ad bc bs rfl I h0 b1 b2
    rw [nI_1]
    exact ih (i + 1) S' H' y ad' bc' bs' (by omega) I' h0' b1' b2'
end LAWC
/-- the law -/
theorem law_pure (Z : gZ) : wL_law Z 600086 7301442 := by
  unfold wL_law
  refine ⟨by omega, by omega, fun q1 => ⟨by omega, by omega, ?_⟩⟩
  unfold kX8_init
  refine sz_init (fun u u1 u2 _ _ _ => ⟨by omega, by omega, fun q3 hq3 => ⟨1, 16, by omega, by omega, hz_new (x := .null) hpG_n (Nat.le_refl _) (Nat.le_refl _) (fun H5 v5 sb F5 _ => ⟨1600, 2450000, by omega, by omega, ?_⟩)⟩⟩)
  have B : TB Z H5 q3 v5 [] := ⟨16, sb, by decide⟩
  refine hz_told B (Nat.le_refl _) (Nat.le_refl _) (fun H6 v6 ad n m L os R => ?_)
  obtain ⟨⟨hn, hm⟩, okl, ok, h4, hL, hx, T, A, hE⟩ := R
  have wt : wfT (adA (t00 n m) L) := wf_adA L _ (wf_00 hn hm) okl
  obtain ⟨mm, sbm, hmm⟩ := T.1
  have sbm' := sbm
  obtain ⟨ml, f, e1, -⟩ := sbm'
  refine ⟨⟨_, e1⟩, 2, 1504, by omega, by omega, hz_toString sbm (Nat.le_refl _) (by omega) (fun r7 w7 H7 st7 _ _ F7 => ⟨1, 5, by omega, by omega, ?_⟩)⟩
  refine sz_taught hn hm okl ok h4 hL hx st7 u2 (Nat.le_refl _) (Nat.le_refl _) (fun S8 H8 C8 h400 F8 => br_t rfl ?_)
  have wo : odW (tE (adA (t00 n m) L)) (odL os) := odW_L ok h4
  have gd : goodP (adP pZ os) ([] ++ os) := good_adP os [] pZ good_0
  have hp : odP (adP pZ os) (odL os) := gd.1
  have wp : wfP (adP pZ os) := odP_wf wo hp h400 gd.2.2
  have F := F7.trans F8
  have T8 := T.nf F
  have Ix := Iv_0 wt
  have A8 : odA Z H8 ad (odL os) := A.fr T.2.1 (Fr.mono F (fun _ z => z.elim)) (fun _ _ => rfl)
  have ft := ft_adA L (t00 n m) (fun e he => absurd he (Nat.not_lt_zero e)) okl
  have m1 := mu_le Ix.1.1
  have m2 : hsS (gA1w (x0 (adA (t00 n m) L))).2.1 ≤ 80 := by
    obtain ⟨dd, i5, i6⟩ := Ix.2.2.2.2
    have nm : tN (adA (t00 n m) L) * tM (adA (t00 n m) L) ≤ 80 := Nat.le_trans (Nat.mul_le_mul wt.1.2 wt.2.1.2) (by decide)
    omega
  have b : bgX (gA1w (x0 (adA (t00 n m) L))) ≤ 1680 := by
    show 2 * muS1w _ + hsS _ ≤ 1680
    omega
  refine ka_seats C8 (ka_strata C8 ⟨9, ?_⟩)
  exact lw_50 wt wp wo hp ft 8 0 S8 H8 (x0 (adA (t00 n m) L)) ad _ _ rfl ⟨C8, Ix, T8.2.1, A8⟩ rfl (by omega) (by omega)
