/-! PURE: the law's loop: the best dig, the layers, the finds, the seats; the rounds. -/
section LAWB
variable {KL : gH → Nat → Nat → cLS → Nat → Int32 → Int32 → Int32 → Prop} {Z : gZ} {a : gA} {t : Tl} {p : Pn} {o : Od} {x3 : Nat} {x6 x7 : Int32} {x : Gs} {H : gH} {ad : Nat → Nat} {bc bs : Nat}
theorem lw_683 (wt : wfT t) (wp : wfP p) (wo : odW (tE t) o) (hp : odP p o) (Ix : Iv t x) (G : SimG Z H ad t x) (A : odA Z H ad o) (h0 : ad 0 = x3) (b1 : bgX (gA1w x) ≤ bc) (b2 : 10 * bgX (gA1w x) ≤ bs) (kk : KKL KL Z t p o x3 x6) {kf : Nat → Nat} (hkf : ∀ s, s < tN t → 0 < (gA1w x).2.1 s → kf s ≤ 800 ∧ ∃ b, Stl (tSp t) (gP x) (tN t) (kf s) (dg1 (gA1w x) s) b) {v : Nat} (hv : v = fb_sm (gA1w x).2.1 (tN t)) (hv80 : v ≤ 80) : ∀ (d s : Nat) (S : cLS), s + d = tN t → CR S t p x → wL_law_683 KL Z a (d + 1) H bc bs S x3 (nI (tN t)) (nI (tM t)) x6 x7 (dgA t x (fI (bst (gA1w x).2.1 kf (lf t (gA1w x)) (tN t)))) (nI v) (fI (bst (gA1w x).2.1 kf (lf t (gA1w x)) (tN t))) (nI s) := by
  have n2 := wt.1
  obtain ⟨B1, B2⟩ := bst_best (h := (gA1w x).2.1) (kf := kf) (lv := lf t (gA1w x)) (i := tN t)
  intro d
  induction d with
  | zero =>
    intro s S hs C
    have := lw_767 (a := a) (x7 := x7) wt wp wo hp ⟨C, Ix, G, A⟩ h0 b1 b2 kk hkf
    unfold wL_law_683
    refine br_t (nI_le (by omega) (by omega)) ⟨fun _ => this, fun z => br_f ?_ this⟩
    cases e : bst (gA1w x).2.1 kf (lf t (gA1w x)) (tN t) with
    | some c =>
      rw [e] at z
      have := (bst_lt e).1
      exact absurd (nI_le (a := 0) (b := c) (Nat.zero_le _) (by omega)) z
    | none =>
      have : v = 0 := by
        rw [hv, fb_sm_cong (g := fun _ => 0) (fun k hk => B1 e k hk)]
        have z : ∀ n, fb_sm (fun _ => 0) n = 0 := by
          intro n
          induction n with
          | zero => rfl
          | succ n ih => rw [fb_sm_succ, ih]
        exact z _
      rw [this]
      decide
  | succ d ih =>
    intro s S hs C
    have hs' : s < tN t := by omega
    have h10 := Ix.1.1.1 s
    unfold wL_law_683 wL_law_751
    rw [nI_1]
    refine br_f (nI_ge hs' (by omega)) (ka_heightOf wt Ix.1 C hs' ?_)
    by_cases hh : (gA1w x).2.1 s = 0
    · exact br_t (by rw [hh]; decide) (ih (s + 1) S (by omega) C)
    · have hp0 : 0 < (gA1w x).2.1 s := by omega
      refine br_f (nI_ge (a := 0) hp0 (by omega)) ?_
      obtain ⟨k1, bu, k2⟩ := hkf s hs' hp0
      cases e : bst (gA1w x).2.1 kf (lf t (gA1w x)) (tN t) with
      | none => exact absurd (B1 e s hs') hh
      | some c =>
        obtain ⟨c1, c2⟩ := bst_lt e
        obtain ⟨k3, bc', k4⟩ := hkf c c1 c2
        obtain ⟨m1, m2⟩ := B2 c e s hs' hp0
        have l1 := lf_le (t := t) Ix.1.1 c
        have l2 := lf_le (t := t) Ix.1.1 s
        have ih' := fun S' C' => ih (s + 1) S' (by omega) C'
        rw [e] at ih'
        show ((nI c < 0 → False) ∧ (¬ nI c < 0 → _))
        refine br_f (nI_pos (by omega)) (ka_wouldSlide wt Ix.1 C c1 c2 k3 k4 (fun S2 C2 => ka_wouldSlide wt Ix.1 C2 hs' hp0 k1 k2 (fun S3 C3 => br_f (nI_nlt m1 (by omega)) (ka_wouldSlide wt Ix.1 C3 c1 c2 k3 k4 (fun S4 C4 => ka_wouldSlide wt Ix.1 C4 hs' hp0 k1 k2 (fun S5 C5 => ⟨fun _ => ih' S5 C5, fun z => ka_findsLeft wt Ix.1 C5 c1 (ka_findsLeft wt Ix.1 C5 hs' (br_t (nI_le ?_ (by omega)) (ih' S5 C5)))⟩))))))
        exact m2 ((nI_eq (by omega) (by omega)).mp z)
theorem zor (b c : Bool) : zB1w b ||| zB1w c = zB1w (b || c) := by cases b <;> cases c <;> decide
theorem lw_522 {KL493 : gH → Nat → Nat → cLS → Nat → Int32 → Int32 → Int32 → Int32 → Int64 → Int32 → Int32 → Int32 → Prop} {KL506 : gH → Nat → Nat → cLS → Nat → Int32 → Int32 → Int32 → Int32 → Int64 → Int32 → Int32 → Int32 → Int32 → Int32 → Prop} (wt : wfT t) {S : cLS} (C : CR S t p x) (w : wfX t x) {k e c : Nat} (hk : k < tM t) (he : e < tE t) {x8 : Int64} {x10 x14 : Int32} (kk : KL506 H bc bs S x3 (nI (tN t)) (nI (tM t)) x6 x7 x8 x10 x14 (nI k) (nI (c + if anyB (snP t (gF1w x) k e) (tF t) = true then 1 else 0)) (nI (e + 1))) : ∀ (d f : Nat), f + d = tF t → wL_law_522 KL KL493 KL506 Z a (d + 1) H bc bs S x3 (nI (tN t)) (nI (tM t)) x6 x7 x8 x10 x14 (nI k) (nI c) (nI e) (zB1w (anyB (snP t (gF1w x) k e) f)) (nI f) := by
  have f24 := wt.2.2.2.1
  have m10 := wt.2.1.2
  have e6 := wt.2.2.1
  intro d
  induction d with
  | zero =>
    intro f hf
    have : f = tF t := by omega
    subst this
    unfold wL_law_522 wL_law_623
    rw [nI_1]
    refine ka_finds C (br_t (nI_le (Nat.le_refl _) (by omega)) (ka_isSeenIn wt w C hk he (br_t rfl ?_)))
    cases z : anyB (snP t (gF1w x) k e) (tF t)
    · rw [z] at kk
      refine br_t (by decide) ?_
      rw [show nI c + 0 = nI (c + 0) from nI_add c 0]
      exact kk
    · rw [z] at kk
      refine br_f (by decide) ?_
      rw [nI_1]
      exact kk
  | succ d ih =>
    intro f hf
    have hf' : f < tF t := by omega
    have nx := ih (f + 1) (by omega)
    have n0 : snP t (gF1w x) k e f = false → wL_law_586 KL KL493 KL506 (wL_law_522 KL KL493 KL506 Z a (d + 1)) Z a H bc bs S x3 (nI (tN t)) (nI (tM t)) x6 x7 x8 x10 x14 (nI k) (nI c) (nI e) (nI f) (zB1w (anyB (snP t (gF1w x) k e) f)) := fun h => by
      unfold wL_law_586 wL_law_587
      rw [nI_1, show (0 : Int32) = zB1w false from rfl, zor]
      unfold anyB at nx
      rw [h] at nx
      exact nx
    unfold wL_law_522
    refine ka_finds C (br_f (nI_ge hf' (by omega)) (ka_isCoin wt w C hf' ?_))
    cases hco : tCo t f
    · refine bn_t (by decide) (ka_empireOf wt w C hf' hco ?_)
      by_cases q1 : tDe t f = nI e
      · refine bn_t q1 (ka_stratumOf wt w C hf' ?_)
        by_cases q2 : tCu t f % 10 = k
        · refine bn_t (by rw [q2]) (ka_isFound wt w C hf' ?_)
          by_cases q3 : 1 ≤ gF1w x f
          · rw [decide_eq_true q3]
            refine br_f (by decide) (ka_isSure wt w C hf' q3 ?_)
            by_cases q4 : gF1w x f = 2
            · rw [decide_eq_true q4]
              refine br_f (by decide) ?_
              have hsn : snP t (gF1w x) k e f = true := by
                unfold snP
                rw [decide_eq_true q4, hco, decide_eq_true q2, decide_eq_true q1]
                rfl
              unfold wL_law_587
              rw [nI_1, show (1 : Int32) = zB1w true from rfl, zor]
              unfold anyB at nx
              rw [hsn] at nx
              exact nx
            · rw [decide_eq_false q4]
              refine br_t (by decide) (n0 ?_)
              unfold snP
              rw [decide_eq_false q4]
              rfl
          · rw [decide_eq_false q3]
            refine br_t (by decide) (n0 ?_)
            unfold snP
            rw [decide_eq_false (p := gF1w x f = 2) (by omega)]
            rfl
        · have cu : tCu t f % 10 < 10 := Nat.mod_lt _ (by decide)
          refine bn_f (fun z => q2 ((nI_eq (by omega) (by omega)).mp z)) (n0 ?_)
          unfold snP
          rw [decide_eq_false q2, Bool.false_and, Bool.and_false, Bool.and_false]
      · refine bn_f q1 (n0 ?_)
        unfold snP
        rw [decide_eq_false q1, Bool.and_false, Bool.and_false, Bool.and_false]
    · refine bn_f (by decide) (n0 ?_)
      unfold snP
      rw [hco]
      show (_ && (false && _)) = false
      rw [Bool.false_and, Bool.and_false]
theorem lw_506 {KL493 : gH → Nat → Nat → cLS → Nat → Int32 → Int32 → Int32 → Int32 → Int64 → Int32 → Int32 → Int32 → Prop} (wt : wfT t) (ft : ∀ e, e < tE t → ¬ tTo t e < tFr t e) {S : cLS} (C : CR S t p x) (w : wfX t x) (G : SimG Z H ad t x) (h0 : ad 0 = x3) {k : Nat} (hk : k < tM t) {x8 : Int64} {x10 x14 : Int32} (h14 : x14 ≤ eyr t (gF1w x) k (tF t)) (kk : KL493 H bc bs S x3 (nI (tN t)) (nI (tM t)) x6 x7 x8 x10 (eyr t (gF1w x) k (tF t)) (nI (k + 1))) : ∀ (d e : Nat), e + d = tE t → wL_law_506 KL KL493 Z a (d + 1) H bc bs S x3 (nI (tN t)) (nI (tM t)) x6 x7 x8 x10 x14 (nI k) (nI (fb_ct (fun e => anyB (snP t (gF1w x) k e) (tF t)) e)) (nI e) := by
  have m10 := wt.2.1.2
  have e6 := wt.2.2.1
  obtain ⟨fE, s6, s6'⟩ := G.2.2.2.2.2.2.1
  intro d
  induction d with
  | zero =>
    intro e he
    have : e = tE t := by omega
    subst this
    have h647 : wL_law_647 KL KL493 Z a H bc bs S x3 (nI (tN t)) (nI (tM t)) x6 x7 x8 x10 x14 (nI k) := by
      unfold wL_law_647
      rw [nI_1]
      exact ka_notBefore wt w C hk (br_t h14 (ka_notBefore wt w C hk kk))
    unfold wL_law_506
    refine ⟨ad 3, by rw [← h0]; exact gF_of G.1 rfl, tE t, fE, s6, br_t (nI_le (Nat.le_refl _) (by omega)) (ka_isMixed wt w C hk ?_)⟩
    cases z : anyB (fun y => anyB (mxP t (gF1w x) k y) (tE t)) (tE t)
    · exact br_t (by decide) h647
    · refine br_f (by decide) (br_f ?_ h647)
      obtain ⟨e1, l1, z1⟩ := anyB_ex z
      obtain ⟨e2, l2, z2⟩ := anyB_ex z1
      unfold mxP at z2
      rw [Bool.and_eq_true, Bool.and_eq_true] at z2
      obtain ⟨y1, y2, y3⟩ := z2
      have y1 := of_decide_eq_true y1
      have ne : e1 ≠ e2 := fun q => by rw [q] at y1; exact ft e2 l2 y1
      have c2 := ct_two (p := fun e => anyB (snP t (gF1w x) k e) (tF t)) l1 l2 ne y2 y3
      have cl := fb_ct_le (fun e => anyB (snP t (gF1w x) k e) (tF t)) (tE t)
      exact nI_nlt (a := fb_ct (fun e => anyB (snP t (gF1w x) k e) (tF t)) (tE t)) (b := 2) c2 (by omega)
  | succ d ih =>
    intro e he
    have he' : e < tE t := by omega
    have nx := ih (e + 1) (by omega)
    unfold wL_law_506
    refine ⟨ad 3, by rw [← h0]; exact gF_of G.1 rfl, tE t, fE, s6, br_f (nI_ge he' (by omega)) ⟨tF t + 1, ?_⟩⟩
    exact lw_522 wt C w hk he' (by rw [fb_ct_succ] at nx; exact nx) (tF t) 0 (by omega)
theorem lw_493 (wt : wfT t) (wp : wfP p) (wo : odW (tE t) o) (hp : odP p o) (ft : ∀ e, e < tE t → ¬ tTo t e < tFr t e) (Ix : Iv t x) (G : SimG Z H ad t x) (A : odA Z H ad o) (h0 : ad 0 = x3) (b1 : bgX (gA1w x) ≤ bc) (b2 : 10 * bgX (gA1w x) ≤ bs) (kk : KKL KL Z t p o x3 x6) {kf : Nat → Nat} (hkf : ∀ s, s < tN t → 0 < (gA1w x).2.1 s → kf s ≤ 800 ∧ ∃ b, Stl (tSp t) (gP x) (tN t) (kf s) (dg1 (gA1w x) s) b) {v : Nat} (hv : v = fb_sm (gA1w x).2.1 (tN t)) (hv80 : v ≤ 80) {S : cLS} (C : CR S t p x) : ∀ (d k : Nat) (x14 : Int32), k + d = tM t → (x14.toInt ≤ (eyr t (gF1w x) k (tF t)).toInt) → wL_law_493 KL Z a (d + 1) H bc bs S x3 (nI (tN t)) (nI (tM t)) x6 x7 (dgA t x (fI (bst (gA1w x).2.1 kf (lf t (gA1w x)) (tN t)))) (nI v) x14 (nI k) := by
  have m10 := wt.2.1.2
  intro d
  induction d with
  | zero =>
    intro k x14 hk _
    unfold wL_law_493
    exact br_t (nI_le (by omega) (by omega)) (ka_bestDig wt Ix.1 C hkf (fun S1 C1 => ⟨tN t + 1, lw_683 wt wp wo hp Ix G A h0 b1 b2 kk hkf hv hv80 (tN t) 0 S1 (by omega) C1⟩))
  | succ d ih =>
    intro k x14 hk h14
    unfold wL_law_493
    refine br_f (nI_ge (by omega) (by omega)) ⟨tE t + 1, ?_⟩
    exact lw_506 wt ft C Ix.1 G h0 (by omega) (Int32.le_iff_toInt_le.mpr h14) (ih (k + 1) _ (by omega) (ey_mono t (gF1w x) k (tF t))) (tE t) 0 (by omega)
theorem lw_363 (wt : wfT t) (wp : wfP p) (wo : odW (tE t) o) (hp : odP p o) (ft : ∀ e, e < tE t → ¬ tTo t e < tFr t e) (Ix : Iv t x) (G : SimG Z H ad t x) (A : odA Z H ad o) (h0 : ad 0 = x3) (b1 : bgX (gA1w x) ≤ bc) (b2 : 10 * bgX (gA1w x) ≤ bs) (kk : KKL KL Z t p o x3 x6) {kf : Nat → Nat} (hkf : ∀ s, s < tN t → 0 < (gA1w x).2.1 s → kf s ≤ 800 ∧ ∃ b, Stl (tSp t) (gP x) (tN t) (kf s) (dg1 (gA1w x) s) b) {v : Nat} (hv : v = fb_sm (gA1w x).2.1 (tN t)) (hv80 : v ≤ 80) : ∀ (d f : Nat) (S : cLS), f + d = tF t → CR S t p x → wL_law_363 KL Z a (d + 1) H bc bs S x3 (nI (tN t)) (nI (tM t)) x6 x7 (dgA t x (fI (bst (gA1w x).2.1 kf (lf t (gA1w x)) (tN t)))) (nI v) (nI (fb_ct (fun f => decide (gF1w x f = 2)) f)) (nI f) := by
  have n2 := wt.1
  have m10 := wt.2.1
  have f24 := wt.2.2.2.1
  obtain ⟨sq, q0, hq, hw⟩ := sq_ex wt wp Ix.1
  intro d
  induction d with
  | zero =>
    intro f S hf C
    have : f = tF t := by omega
    subst this
    unfold wL_law_363
    refine ka_finds C (br_t (nI_le (Nat.le_refl _) (by omega)) (ka_sureFinds C (br_t ?_ ⟨tM t + 1, ?_⟩)))
    · rw [ct_cut f24 (fun k hk => by rw [Ix.1.2.2.2.2.2.1 k hk]; rfl)]
    · exact lw_493 wt wp wo hp ft Ix G A h0 b1 b2 kk hkf hv hv80 C (tM t) 0 (-1) (by omega) (ey_ge t (gF1w x) 0 (tF t))
  | succ d ih =>
    intro f S hf C
    have hf' : f < tF t := by omega
    have nx := fun S' C' => ih (f + 1) S' (by omega) C'
    rw [fb_ct_succ] at nx
    have f2 := Ix.1.2.2.2.2.2.2 f
    have cu := wt.2.2.2.2.1 f hf'
    have h425 : ∀ c, c = fb_ct (fun f => decide (gF1w x f = 2)) f + (if decide (gF1w x f = 2) = true then 1 else 0) → wL_law_425 KL (wL_law_363 KL Z a (d + 1)) Z a H bc bs S x3 (nI (tN t)) (nI (tM t)) x6 x7 (dgA t x (fI (bst (gA1w x).2.1 kf (lf t (gA1w x)) (tN t)))) (nI v) (nI c) (nI f) := by
      intro c hc
      rw [← hc] at nx
      unfold wL_law_425 wL_law_459
      rw [nI_1]
      refine ka_stratumOf wt Ix.1 C hf' (br_f (nI_pos (by omega)) (ka_stratumOf wt Ix.1 C hf' (br_f (nI_ge cu.2.2.1 (by omega)) (ka_daysUntilFound wt wp C hf' q0 hq hw (fun S3 C3 => ?_)))))
      obtain ⟨g1, g2⟩ := fst_some (g := fun j => decide (1 ≤ gF1w (sq j) f)) (d := 30) (i := 0)
      have gx : decide (1 ≤ gF1w (sq 0) f) = decide (1 ≤ gF1w x f) := by rw [q0]
      cases y : fstB (fun j => decide (1 ≤ gF1w (sq j) f)) 30 0 with
      | none =>
        have n0 : decide (1 ≤ gF1w (sq 0) f) = false := g2 y 0 (Nat.le_refl _) (by omega)
        refine bn_f (by show ¬ fI none = 0; decide) (ka_isFound wt Ix.1 C3 hf' (br_t ?_ (nx S3 C3)))
        rw [← gx, n0]
        rfl
      | some j =>
        obtain ⟨-, a2, a3, a4⟩ := g1 j y
        by_cases q : j = 0
        · rw [q] at a3
          have a3 : decide (1 ≤ gF1w (sq 0) f) = true := a3
          refine bn_t (by rw [q]; rfl) (ka_isFound wt Ix.1 C3 hf' (br_t ?_ (nx S3 C3)))
          rw [← gx, a3]
          rfl
        · have n0 : decide (1 ≤ gF1w (sq 0) f) = false := a4 0 (Nat.le_refl _) (by omega)
          refine bn_f (by show ¬ nI j = 0; exact fun z => q ((nI_eq (b := 0) (by omega) (by decide)).mp z)) (ka_isFound wt Ix.1 C3 hf' (br_t ?_ (nx S3 C3)))
          rw [← gx, n0]
          rfl
    unfold wL_law_363
    refine ka_finds C (br_f (nI_ge hf' (by omega)) (ka_isFound wt Ix.1 C hf' ?_))
    by_cases h1 : gF1w x f = 0
    · rw [decide_eq_false (by omega)]
      obtain ⟨s0, j0, hs0, hj0, hc⟩ := Ix.1.2.2.2.1 f hf' h1
      have hm := Ix.2.2.1 s0
      refine br_t (by decide) (ka_buriedUnder wt Ix.1 C hf' h1 hs0 hj0 hc (br_f (nI_pos (by omega)) (ka_buriedUnder wt Ix.1 C hf' h1 hs0 hj0 hc (br_t (nI_lt (by omega) (by omega)) (h425 _ ?_)))))
      rw [decide_eq_false (by omega)]
      rfl
    · rw [decide_eq_true (p := 1 ≤ gF1w x f) (by omega)]
      refine br_f (by decide) (ka_isSure wt Ix.1 C hf' (by omega) ?_)
      unfold wL_law_397
      by_cases h2 : gF1w x f = 2
      · rw [decide_eq_true h2]
        refine br_f (by decide) ?_
        rw [nI_1]
        exact h425 _ (by rw [decide_eq_true h2]; rfl)
      · rw [decide_eq_false h2]
        refine br_t (by decide) ?_
        rw [show nI (fb_ct (fun f => decide (gF1w x f = 2)) f) + 0 = nI (fb_ct (fun f => decide (gF1w x f = 2)) f + 0) from nI_add _ 0]
        exact h425 _ (by rw [decide_eq_false h2]; rfl)
end LAWB
