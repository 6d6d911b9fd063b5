/-! PURE: the law's loop, its last part: the days that were foretold, the last dig. -/
section LAWA
variable {KL : gH → Nat → Nat → cLS → Nat → Int32 → Int32 → Int32 → Prop} {Z : gZ} {a : gA} {t : Tl} {p : Pn} {o : Od} {x3 : Nat} {x6 x7 : Int32}
/-- what the next round asks for -/
def KKL (KL : gH → Nat → Nat → cLS → Nat → Int32 → Int32 → Int32 → Prop) (Z : gZ) (t : Tl) (p : Pn) (o : Od) (x3 : Nat) (x6 : Int32) : Prop := ∀ S H y ad bc bs, LSt Z S H t p o y ad → ad 0 = x3 → bgX (gA1w y) ≤ bc → 10 * bgX (gA1w y) ≤ bs → KL H bc bs S x3 (nI (tN t)) (nI (tM t)) (x6 + 1)
/-- a find that is asked for, the day that was foretold -/
def FIx (t : Tl) (sq : Nat → Gs) (x18 x19 : Int32) : Prop := (x18 = -1 ∧ x19 = 0) ∨ ∃ f, f < tF t ∧ x18 = nI f ∧ x19 = fI (fstB (fun j => decide (1 ≤ gF1w (sq j) f)) 30 0)
theorem lw_dig (wt : wfT t) {S : cLS} {H : gH} {x : Gs} {ad : Nat → Nat} {bc bs : Nat} (I : LSt Z S H t p o x ad) (h0 : ad 0 = x3) (b1 : bgX (gA1w x) ≤ bc) (b2 : 10 * bgX (gA1w x) ≤ bs) (kk : KKL KL Z t p o x3 x6) (y : Int32) : wL_below Z H y (nI (tN t)) (fun r2 => kX8_heightOf a S r2 (fun r3 => ((¬ r3 = 0 → kX8_wouldSlide a S r2 (fun r4 S4 => kX8_slides a S4 (fun r5 => kX8_isTopLoose a S4 r2 (fun r6 => kX8_topStratum a S4 r2 (fun r7 => kX8_dig a S4 r2 (fun r8 S8 => (∃ fs, hpG H x3 = some (.inr (8, fs))) ∧ ∃ (c9 s9 : Nat), c9 ≤ bc ∧ s9 ≤ bs ∧ wX9_dig Z H c9 s9 x3 r2 (fun r9 H9 => ((¬ r8 = r9 → False) ∧ (r8 = r9 → kX8_slides a S8 (fun r10 => ((¬ r10 = r5 + r4 → False) ∧ (r10 = r5 + r4 → ((r8 < 0 → wL_law_1048 KL Z a H9 (bc - c9) (bs - s9) S8 x3 (nI (tN t)) (nI (tM t)) x6) ∧ (¬ r8 < 0 → kX8_isFound a S8 r8 (fun r11 => ((r11 = 0 → False) ∧ (¬ r11 = 0 → kX8_isSure a S8 r8 (fun r12 => ((r12 = r6 → False) ∧ (¬ r12 = r6 → kX8_stratumOf a S8 r8 (fun r13 => ((r13 = r7 → wL_law_1048 KL Z a H9 (bc - c9) (bs - s9) S8 x3 (nI (tN t)) (nI (tM t)) x6) ∧ (¬ r13 = r7 → False))))))))))))))))))))))) ∧ (r3 = 0 → wL_law_1048 KL Z a H bc bs S x3 (nI (tN t)) (nI (tM t)) x6)))) := by
  have n2 := wt.1
  obtain ⟨C, Ix, G, A⟩ := I
  refine hz_blw (by omega) (by omega) ?_
  have hs := blw_lt (x := y) (n := tN t) (by omega)
  generalize blw y (tN t) = s at hs ⊢
  have h10 := Ix.1.1.1 s
  refine ka_heightOf wt Ix.1 C hs ?_
  unfold wL_law_1048
  by_cases hh : (gA1w x).2.1 s = 0
  · exact bn_t (by rw [hh]; rfl) (kk S H x ad bc bs ⟨C, Ix, G, A⟩ h0 b1 b2)
  · have hp0 : 0 < (gA1w x).2.1 s := by omega
    have wd := wfG_dg wt Ix.1 hs hp0
    obtain ⟨k, b, hk, hst⟩ := stl_ok wt (gP x) wd.1
    have g1 := stl_bg n2.2 k _ b hst wd.1
    have g2 := dg_bg (a := gA1w x) (s := s) (by omega) hp0
    have g3 : bgX b + (2 * k + 1) ≤ bgX (gA1w x) := by
      show 2 * muS1w b.2.1 + hsS b.2.1 + (2 * k + 1) ≤ 2 * muS1w (gA1w x).2.1 + hsS (gA1w x).2.1
      omega
    have tp80 := tp8 Ix.1 hp0
    refine bn_f (fun z => hh ((nI_eq (b := 0) (by omega) (by decide)).mp z)) (ka_wouldSlide wt Ix.1 C hs hp0 hk hst (fun S4 C4 => ka_slides C4 (ka_isTopLoose wt Ix.1 C4 hs hp0 (ka_topStratum wt Ix.1 C4 hs hp0 (ka_dig wt Ix.1 C4 hs hp0 hk hst (fun S8 C8 => ⟨⟨_, by rw [← h0]; exact G.1⟩, 1 + 2 * k, 10 + 20 * k, by omega, by omega, ?_⟩))))))
    rw [← h0]
    refine sm_dig G wt Ix.1 hs hp0 hst (Nat.le_refl _) (Nat.le_refl _) (fun H9 ad9 G9 F9 ea => bn_t rfl (ka_slides C8 (bn_t rfl ?_)))
    have Iy := Ix.dig wt hs hp0 hst (ca := gCa x) (dy := gDy x) (sl := gSl x + nI k)
    have fin := kk S8 H9 _ ad9 (bc - (1 + 2 * k)) (bs - (10 + 20 * k)) ⟨C8, Iy, G9, A.fr G F9 ea⟩ (by rw [ea 0 (by omega), h0]) (by show bgX b ≤ _; omega) (by show 10 * bgX b ≤ _; omega)
    rw [h0]
    cases e : tFi t (tp (gA1w x) s) with
    | none => exact br_t (by show fI none < 0; decide) fin
    | some f =>
      obtain ⟨hf, hcu⟩ := wt.2.2.2.2.2.1 _ f tp80 e
      have f24 := wt.2.2.2.1
      have ef : dgF t (gA1w x) (gF1w x) s f = if (gA1w x).2.2 (tp (gA1w x) s) = true then 1 else 2 := by
        unfold dgF
        rw [e]
        exact va_up_self _ _ _
      have e1 : 1 ≤ dgF t (gA1w x) (gF1w x) s f := by rw [ef]; split <;> decide
      refine br_f (by show ¬ nI f < 0; exact nI_pos (by omega)) (ka_isFound wt Iy.1 C8 hf (br_f (by rw [show decide (1 ≤ gF1w (b, gP x, dgF t (gA1w x) (gF1w x) s, gDy x, gCa x, gDu x + 1, gSl x + nI k) f) = true from decide_eq_true e1]; decide) (ka_isSure wt Iy.1 C8 hf e1 (br_f ?_ (ka_stratumOf wt Iy.1 C8 hf (br_t (by rw [hcu]) fin))))))
      show ¬ zB1w (decide (dgF t (gA1w x) (gF1w x) s f = 2)) = zB1w ((gA1w x).2.2 (tp (gA1w x) s))
      rw [ef]
      cases (gA1w x).2.2 (tp (gA1w x) s)
      · decide
      · decide
theorem lw_843 (wt : wfT t) (wp : wfP p) (wo : odW (tE t) o) (hp : odP p o) {sq : Nat → Gs} (hq : ∀ i, Days t p 1 (sq i) (sq (i + 1))) {d : Nat} (hd : d ≤ 29) {x18 x19 : Int32} (hx : FIx t sq x18 x19) (kk : KKL KL Z t p o x3 x6) : ∀ (r j : Nat) (S : cLS) (H : gH) (ad : Nat → Nat) (bc bs : Nat), j + r = d → LSt Z S H t p o (sq j) ad → ad 0 = x3 → bgX (gA1w (sq j)) ≤ bc → 10 * bgX (gA1w (sq j)) ≤ bs → wL_law_843 KL Z a (r + 1) H bc bs S x3 (nI (tN t)) (nI (tM t)) x6 x7 (nI d) (fcX (sq d)) x18 x19 (nI (j + 1)) := by
  intro r
  induction r with
  | zero =>
    intro j S H ad bc bs hj I h0 b1 b2
    have : j = d := by omega
    subst this
    unfold wL_law_843
    exact br_t (nI_lt (by omega) (by omega)) (ka_found I.1 (br_t rfl (lw_dig wt I h0 b1 b2 kk _)))
  | succ r ih =>
    intro j S H ad bc bs hj I h0 b1 b2
    obtain ⟨C, Ix, G, A⟩ := I
    obtain ⟨z, g1, g2⟩ := hq j
    have e : sq (j + 1) = dayX z := g2
    have gb := ords_bg wt _ _ _ _ Ix.1 g1
    have Iy : Iv t (sq (j + 1)) := Iv.days wt _ _ _ (hq j) Ix
    unfold wL_law_843
    refine br_f (nI_nlt (by omega) (by omega)) (ka_passDays wt wp Ix.1 C (d := 1) (by decide) (by decide) (hq j) (fun S' C' => ⟨⟨_, by rw [← h0]; exact G.1⟩, bgX (gA1w (sq j)) - bgX (gA1w z), 10 * (bgX (gA1w (sq j)) - bgX (gA1w z)), by omega, by omega, ?_⟩))
    rw [← h0]
    refine sm_pass wt wo hp g1 Ix.1 G A (by omega) (by omega) (fun H' ad' G' A' F' ea => ?_)
    have ez : fcX (sq (j + 1)) = fcX z := by rw [e]; rfl
    refine bn_t (by rw [ez]) ?_
    rw [h0]
    rw [← e] at G'
    have nx := ih (j + 1) S' H' ad' (bc - (bgX (gA1w (sq j)) - bgX (gA1w z))) (bs - 10 * (bgX (gA1w (sq j)) - bgX (gA1w z))) (by omega) ⟨C', Iy, G', A'⟩ (by rw [ea 0 (by omega), h0]) (by rw [e]; show bgX (gA1w z) ≤ _; omega) (by rw [e]; show 10 * bgX (gA1w z) ≤ _; omega)
    have h893 : wL_law_893 KL (wL_law_843 KL Z a (r + 1)) Z a H' (bc - (bgX (gA1w (sq j)) - bgX (gA1w z))) (bs - 10 * (bgX (gA1w (sq j)) - bgX (gA1w z))) S' x3 (nI (tN t)) (nI (tM t)) x6 x7 (nI d) (fcX (sq d)) x18 x19 (nI (j + 1)) := by
      unfold wL_law_893 wL_law_909
      rw [nI_1]
      rcases hx with ⟨h18, h19⟩ | ⟨f, hf, h18, h19⟩
      · rw [h19] at nx ⊢
        exact br_t (by decide) nx
      · obtain ⟨q1, q2⟩ := fst_some (g := fun j => decide (1 ≤ gF1w (sq j) f)) (d := 30) (i := 0)
        cases y : fstB (fun j => decide (1 ≤ gF1w (sq j) f)) 30 0 with
        | some jj =>
          obtain ⟨-, a2, -, -⟩ := q1 jj y
          rw [y] at h19
          rw [h19] at nx ⊢
          exact br_t (nI_le (a := 0) (Nat.zero_le _) (by omega)) nx
        | none =>
          have nf : decide (1 ≤ gF1w (sq (j + 1)) f) = false := q2 y (j + 1) (by omega) (by omega)
          rw [y] at h19
          rw [h18, h19] at nx ⊢
          exact br_f (by decide) (ka_isFound wt Iy.1 C' hf (br_t (by rw [nf]; rfl) nx))
    rcases hx with ⟨h18, h19⟩ | ⟨f, hf, h18, h19⟩
    · exact br_t (by rw [h18]; decide) h893
    · have f24 := wt.2.2.2.1
      refine br_f (by rw [h18]; exact nI_pos (by omega)) ?_
      obtain ⟨q1, q2⟩ := fst_some (g := fun j => decide (1 ≤ gF1w (sq j) f)) (d := 30) (i := 0)
      cases y : fstB (fun j => decide (1 ≤ gF1w (sq j) f)) 30 0 with
      | none =>
        rw [y] at h19
        exact br_t (by rw [h19]; decide) h893
      | some jj =>
        obtain ⟨-, a2, a3, a4⟩ := q1 jj y
        rw [y] at h19
        refine br_f (by rw [h19]; show ¬ nI jj < 0; exact nI_pos (by omega)) ?_
        rw [h18] at h893 ⊢
        refine ka_isFound wt Iy.1 C' hf ?_
        rw [h19] at h893 ⊢
        unfold wL_law_890
        by_cases q : j + 1 < jj
        · refine br_t (nI_lt q (by omega)) (bn_t ?_ h893)
          have nf : decide (1 ≤ gF1w (sq (j + 1)) f) = false := a4 (j + 1) (by omega) q
          rw [nf]
          rfl
        · refine br_f (nI_nlt (by omega) (by omega)) (bn_t ?_ h893)
          have a3 : 1 ≤ gF1w (sq jj) f := of_decide_eq_true a3
          have := fd_sq hq (j + 1 - jj) jj a3
          rw [show jj + (j + 1 - jj) = j + 1 by omega] at this
          rw [decide_eq_true this]
          rfl
theorem lw_767 (wt : wfT t) (wp : wfP p) (wo : odW (tE t) o) (hp : odP p o) {x : Gs} {S : cLS} {H : gH} {ad : Nat → Nat} {bc bs : Nat} (I : LSt Z S H t p o x ad) (h0 : ad 0 = x3) (b1 : bgX (gA1w x) ≤ bc) (b2 : 10 * bgX (gA1w x) ≤ bs) (kk : KKL KL Z t p o x3 x6) {kf : Nat → Nat} (hkf : ∀ s, s < tN t → 0 < (gA1w x).2.1 s → kf s ≤ 800 ∧ ∃ b, Stl (tSp t) (gP x) (tN t) (kf s) (dg1 (gA1w x) s) b) : wL_law_767 KL Z a H bc bs S x3 (nI (tN t)) (nI (tM t)) x6 x7 (dgA t x (fI (bst (gA1w x).2.1 kf (lf t (gA1w x)) (tN t)))) := by
  have f24 := wt.2.2.2.1
  obtain ⟨C, Ix, G, A⟩ := I
  obtain ⟨sq, q0, hq, hw⟩ := sq_ex wt wp Ix.1
  unfold wL_law_767
  refine ka_digest wt Ix.1 C hkf (fun S1 C1 => br_t ((lgc _ _).mpr rfl) (hz_blw (n := 5) (by decide) (by decide) ?_))
  have h5 := blw_lt (x := x7 >>> ((5 : Int32) &&& 31)) (n := 5) (by decide)
  generalize blw (x7 >>> ((5 : Int32) &&& 31)) 5 = r2 at h5 ⊢
  rw [show (1 : Int32) + nI r2 = nI (1 + r2) from nI_add 1 r2]
  have hd : Days t p (1 + r2) x (sq (1 + r2)) := by
    have := days_to hq (1 + r2) 0
    rw [q0, Nat.zero_add] at this
    exact this
  have f838 : ∀ (S : cLS) (x18 x19 : Int32), CR S t p x → FIx t sq x18 x19 → wL_law_838 KL Z a H bc bs S x3 (nI (tN t)) (nI (tM t)) x6 x7 (nI (1 + r2)) (fcX (sq (1 + r2))) x18 x19 := by
    intro S x18 x19 C hx
    unfold wL_law_838
    refine ⟨1 + r2 + 1, ?_⟩
    have := lw_843 (a := a) (x7 := x7) wt wp wo hp hq (d := 1 + r2) (by omega) hx kk (1 + r2) 0 S H ad bc bs (by omega) (by rw [q0]; exact ⟨C, Ix, G, A⟩) h0 (by rw [q0]; exact b1) (by rw [q0]; exact b2)
    exact this
  refine ka_foundAfter wt wp Ix.1 C1 (by omega) (by omega) hd (fun S3 C3 => ka_finds C3 ?_)
  by_cases z : tF t = 0
  · refine bn_t (by rw [z]; rfl) ?_
    unfold wL_law_821
    exact br_f (by decide) (f838 S3 _ _ C3 (Or.inl ⟨rfl, rfl⟩))
  · refine bn_f (fun y => z ((nI_eq (b := 0) (by omega) (by decide)).mp y)) (ka_finds C3 (hz_blw (by omega) (by omega) ?_))
    have hf := blw_lt (x := x7 >>> ((3 : Int32) &&& 31)) (n := tF t) (by omega)
    generalize blw (x7 >>> ((3 : Int32) &&& 31)) (tF t) = f at hf ⊢
    unfold wL_law_821
    exact br_t (nI_le (a := 0) (Nat.zero_le _) (by omega)) (ka_daysUntilFound wt wp C3 hf q0 hq hw (fun S4 C4 => f838 S4 _ _ C4 (Or.inr ⟨f, hf, rfl, rfl⟩)))
end LAWA
