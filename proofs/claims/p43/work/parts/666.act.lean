/-! PURE: taught, the whole; one deed done on both sides. -/
section TAU
variable {Z : gZ} {H0 : gH} {q r w n m : Nat} {L : List Ln} {os : List Or} {S : cLS} {a : gA} {K : Int32 → cLS → gH → Prop}
theorem ka_trim {l len : Nat} (t1 : S.2.1.1 = nI l) (h : len ≤ l) (hl : l < 2 ^ 31) {KS : Int32 → cLS → Prop} (kk : ∀ v S', S'.2.1.1 = nI len → S'.2.1.2 = S.2.1.2 → KS v S') : kX8_trim a S (nI len) KS := by
  unfold kX8_trim wX8_trim
  rw [t1]
  exact br_f (nI_pos (by omega)) (br_t (nI_le h hl) (kk _ _ rfl rfl))
theorem tg_6 (hn : 2 ≤ n ∧ n ≤ 8) (hm : 2 ≤ m ∧ m ≤ 10) (okl : okA (t00 n m) L) (ok : ∀ o, o ∈ os → okO (tE (adA (t00 n m) L)) o) (h4 : os.length ≤ 4) (hL : (lnsT L).length ≤ 117) (hx : (hdX n m ++ (lnsX L ++ orsX os)).length ≤ 1500) (hs : stD Z H0 r w (hdX n m ++ (lnsX L ++ orsX os))) (hr : r ≠ q) (hw : w ≠ q) (hq : hpG H0 q = none) {bc bs : Nat}
    (kk : ∀ S' H', CR S' (adA (t00 n m) L) (adP pZ os) (x0 (adA (t00 n m) L)) → pS (adP pZ os) ≤ 400 → Fr (fun _ => False) H0 H' → K 0 S' H') : ∀ (d l : Nat) (S : cLS) (H : gH) (f : Nat → Int32), (hdX n m ++ (lnsX L ++ orsX os)).length ≤ l + 20 * d → l ≤ (hdX n m ++ (lnsX L ++ orsX os)).length + 20 → HQ Z H0 H q f → TPR S (chX (hdX n m ++ (lnsX L ++ orsX os))) l → wL_taught_6 K Z a (d + 1) H bc bs S r q (nI l) := by
  have hX : cOK (hdX n m ++ (lnsX L ++ orsX os)) := cOK_a (hd_c n m) (cOK_a (lns_c L) (ods_c os ok))
  obtain ⟨X, hXe⟩ : ∃ X, X = hdX n m ++ (lnsX L ++ orsX os) := ⟨_, rfl⟩
  intro d
  induction d with
  | zero =>
    intro l S H f h1 h2 Q T
    obtain ⟨g, sg⟩ := strF_D (Q.str hs hr hw)
    have hRs := sg.2.2.2.1
    unfold wL_taught_6
    refine ⟨hRs, hz_length sg (br_t (nI_le (by omega) (by omega)) ⟨hRs, hz_length sg (ka_trim T.1 (by omega) (by omega) (fun v S' a1 a2 => ka_teach hn hm okl ok h4 hL (by omega) a1 ?_ (fun S'' C h400 => kk S'' H C h400 (fun b c hb _ => (Q.2 b (ne_fresh hb hq)).trans hb))))⟩)⟩
    rw [a2]
    intro i hi
    obtain ⟨b, b1, b2, b3⟩ := T.2 i (by omega)
    refine ⟨b, b1, b2, ?_⟩
    rw [← b3]
    show nI _ = nI (if i < _ then _ else _)
    rw [if_pos hi]
  | succ d ih =>
    intro l S H f h1 h2 Q T
    by_cases z : (hdX n m ++ (lnsX L ++ orsX os)).length ≤ l
    · obtain ⟨g, sg⟩ := strF_D (Q.str hs hr hw)
      have hRs := sg.2.2.2.1
      unfold wL_taught_6
      refine ⟨hRs, hz_length sg (br_t (nI_le z (by omega)) ⟨hRs, hz_length sg (ka_trim T.1 (by omega) (by omega) (fun v S' a1 a2 => ka_teach hn hm okl ok h4 hL (by omega) a1 ?_ (fun S'' C h400 => kk S'' H C h400 (fun b c hb _ => (Q.2 b (ne_fresh hb hq)).trans hb))))⟩)⟩
      rw [a2]
      intro i hi
      obtain ⟨b, b1, b2, b3⟩ := T.2 i (by omega)
      refine ⟨b, b1, b2, ?_⟩
      rw [← b3]
      show nI _ = nI (if i < _ then _ else _)
      rw [if_pos hi]
    · obtain ⟨g, sg⟩ := strF_D (Q.str hs hr hw)
      have hRs := sg.2.2.2.1
      unfold wL_taught_6
      refine ⟨hRs, hz_length sg (br_f (nI_ge (by omega) (by omega)) ⟨6, ?_⟩)⟩
      exact tg_17 hX hs hr hw (by omega) (by omega) T (fun H' f' S' Q' T' => ih (l + 20) S' H' f' (by omega) (by omega) Q' T') 5 0 H f (by omega) Q (fun i hi => absurd hi (Nat.not_lt_zero i))
theorem sz_taught {bc bs : Nat} (hn : 2 ≤ n ∧ n ≤ 8) (hm : 2 ≤ m ∧ m ≤ 10) (okl : okA (t00 n m) L) (ok : ∀ o, o ∈ os → okO (tE (adA (t00 n m) L)) o) (h4 : os.length ≤ 4) (hL : (lnsT L).length ≤ 117) (hx : (hdX n m ++ (lnsX L ++ orsX os)).length ≤ 1500) (hs : stD Z H0 r w (hdX n m ++ (lnsX L ++ orsX os))) (t0 : S.2.1.1 = 0) (hbc : 1 ≤ bc) (hbs : 5 ≤ bs)
    (kk : ∀ S' H', CR S' (adA (t00 n m) L) (adP pZ os) (x0 (adA (t00 n m) L)) → pS (adP pZ os) ≤ 400 → Fr (fun _ => False) H0 H' → K 0 S' H') : wL_taught Z a H0 bc bs S r K := by
  unfold wL_taught
  refine ⟨hbc, hbs, fun q hq => ⟨76, ?_⟩⟩
  have hs' := hs
  obtain ⟨h1, h2, g, g1, g2, g3⟩ := hs'
  exact tg_6 hn hm okl ok h4 hL hx hs (ne_fresh g1 hq) (ne_fresh g2 hq) hq kk 75 0 S _ (fun _ => 0) (by omega) (by omega) ⟨hpG_n, fun b hb => hpG_nn hb⟩ ⟨t0, fun i hi => absurd hi (Nat.not_lt_zero i)⟩
end TAU
/-! deeds -/
abbrev LSt (Z : gZ) (S : cLS) (H : gH) (t : Tl) (p : Pn) (o : Od) (x : Gs) (ad : Nat → Nat) : Prop := CR S t p x ∧ Iv t x ∧ SimG Z H ad t x ∧ odA Z H ad o
theorem sub_tel (a b c : Int32) : (b - a) + (c - b) = c - a := by
  rw [Int32.add_comm, Int32.sub_eq_add_neg, Int32.sub_eq_add_neg, Int32.sub_eq_add_neg, Int32.add_assoc, ← Int32.add_assoc (-b), Int32.add_left_neg, Int32.zero_add]
section ACT
variable {Z : gZ} {H : gH} {ad : Nat → Nat} {t : Tl} {p : Pn} {o : Od} {x y : Gs} {S : cLS} {a : gA} {K : Int32 → cLS → gH → Prop}
theorem act_195 (wt : wfT t) (wp : wfP p) (wo : odW (tE t) o) (hp : odP p o) (C : CR S t p x) {d x1 : Nat} (h1 : 1 ≤ d) (h2 : d ≤ 30) (hd : Days t p d x y) (Ix : Iv t x) (kk : ∀ S' H' ad', LSt Z S' H' t p o y ad' → ad' 0 = x1 → K 1 S' H') : ∀ (n i : Nat) (xi : Gs) (H : gH) (ad : Nat → Nat) (bc bs : Nat), i + n = d → Days t p n xi y → Iv t xi → SimG Z H ad t xi → odA Z H ad o → ad 0 = x1 → bgX (gA1w xi) ≤ bc + bgX (gA1w y) → 10 * bgX (gA1w xi) ≤ bs + 10 * bgX (gA1w y) → wL_act_195 K Z a (n + 1) H bc bs S x1 (nI d) (fcX xi - fcX x) (nI i) := by
  intro n
  induction n with
  | zero =>
    intro i xi H ad bc bs hi hdy I G A h0 _ _
    have e : y = xi := hdy
    subst e
    unfold wL_act_195
    exact br_t (nI_le (by omega) (by omega)) (ka_passDays wt wp Ix.1 C h1 h2 hd (fun S' C' => bn_t rfl (kk S' H ad ⟨C', I, G, A⟩ h0)))
  | succ n ih =>
    intro i xi H ad bc bs hi hdy I G A h0 hb1 hb2
    obtain ⟨z, hz, hd'⟩ := hdy
    have Iz := Iv.ords wt _ _ _ _ hz I
    have g1 := ords_bg wt _ _ _ _ I.1 hz
    have Iz' : Iv t (dayX z) := Iz
    have g2 : bgX (gA1w y) ≤ bgX (gA1w z) := days_bg wt n (dayX z) y Iz'.1 hd'
    unfold wL_act_195
    refine br_f (nI_ge (by omega) (by omega)) ⟨⟨_, by rw [← h0]; exact G.1⟩, bgX (gA1w xi) - bgX (gA1w z), 10 * (bgX (gA1w xi) - bgX (gA1w z)), by omega, by omega, ?_⟩
    rw [← h0]
    refine sm_pass wt wo hp hz I.1 G A (by omega) (by omega) (fun H' ad' G' A' F' ea => ?_)
    rw [sub_tel, nI_1, h0]
    exact ih (i + 1) (dayX z) H' ad' _ _ (by omega) hd' Iz' G' A' (by rw [ea 0 (by omega), h0]) (by show bgX (gA1w z) ≤ _; omega) (by show 10 * bgX (gA1w z) ≤ _; omega)
theorem act_183 (wt : wfT t) (wp : wfP p) (wo : odW (tE t) o) (hp : odP p o) (I : LSt Z S H t p o x ad) (z1 : Int32) {z : Nat} (hz : 0 < z) (hz3 : z ≤ 30) : ∃ y, bgX (gA1w y) ≤ bgX (gA1w x) ∧ ∀ (bc bs : Nat) (K : Int32 → cLS → gH → Prop), bgX (gA1w x) ≤ bc + bgX (gA1w y) → 10 * bgX (gA1w x) ≤ bs + 10 * bgX (gA1w y) → (∀ S' H' ad', LSt Z S' H' t p o y ad' → ad' 0 = ad 0 → K 1 S' H') → wL_act_183 K Z a H bc bs S (ad 0) (nI z) z1 1 := by
  have hb := blw_lt (x := z1) hz
  obtain ⟨y, hd, wy⟩ := days_ex wt wp (1 + blw z1 z) x I.2.1.1
  refine ⟨y, days_bg wt _ _ _ I.2.1.1 hd, fun bc bs K b1 b2 kk => ?_⟩
  have Iy := Iv.days wt _ _ _ hd I.2.1
  unfold wL_act_183
  refine hz_blw hz (by omega) ⟨1 + blw z1 z + 1, ?_⟩
  rw [show (1 : Int32) + nI (blw z1 z) = nI (1 + blw z1 z) from nI_add 1 _]
  have := act_195 (a := a) wt wp wo hp I.1 (x1 := ad 0) (by omega) (by omega) hd I.2.1 kk (1 + blw z1 z) 0 x H ad bc bs (by omega) hd I.2.1 I.2.2.1 I.2.2.2 rfl b1 b2
  rw [show fcX x - fcX x = 0 from Int32.sub_self _] at this
  exact this
theorem act_52 (wt : wfT t) (I : LSt Z S H t p o x ad) {s : Nat} (hs : s < tN t) : ∃ y, bgX (gA1w y) ≤ bgX (gA1w x) ∧ ∀ (bc bs : Nat) (K : Int32 → cLS → gH → Prop), bgX (gA1w x) ≤ bc + bgX (gA1w y) → 10 * bgX (gA1w x) ≤ bs + 10 * bgX (gA1w y) → (∀ S' H' ad', LSt Z S' H' t p o y ad' → ad' 0 = ad 0 → K 1 S' H') → wL_act_52 K Z a H bc bs S (ad 0) (nI s) := by
  have n8 := wt.1.2
  obtain ⟨C, Ix, G, A⟩ := I
  have h10 := Ix.1.1.1 s
  obtain ⟨fS, s1, s1'⟩ := G.2.1
  obtain ⟨fR, q1, q2⟩ := G.2.2.1 s hs
  have ex : fS (nI s).toNatClampNeg = some (ad (10 + s)) := by rw [nI_clamp (by omega)]; exact s1' s hs
  by_cases h0 : (gA1w x).2.1 s = 0
  · refine ⟨x, Nat.le_refl _, fun bc bs K b1 b2 kk => ?_⟩
    unfold wL_act_52
    exact ⟨ad 1, gF_of G.1 rfl, tN t, fS, _, s1, vp_in_nI hs (by omega), ex, _, fR, q1, br_t (by rw [h0]; rfl) (kk S H ad ⟨C, Ix, G, A⟩ rfl)⟩
  · have h0' : 0 < (gA1w x).2.1 s := by omega
    have wd := wfG_dg wt Ix.1 hs h0'
    obtain ⟨k, b, hk, hst⟩ := stl_ok wt (gP x) wd.1
    have g1 := stl_bg n8 k _ b hst wd.1
    have g2 := dg_bg (a := gA1w x) (s := s) (by omega) h0'
    have g3 : bgX b + (2 * k + 1) ≤ bgX (gA1w x) := by
      show 2 * muS1w b.2.1 + hsS b.2.1 + (2 * k + 1) ≤ 2 * muS1w (gA1w x).2.1 + hsS (gA1w x).2.1
      omega
    refine ⟨(b, gP x, dgF t (gA1w x) (gF1w x) s, gDy x, gCa x, gDu x + 1, gSl x + nI k), by show bgX b ≤ _; omega, fun bc bs K b1 b2 kk => ?_⟩
    have b1 : bgX (gA1w x) ≤ bc + bgX b := b1
    have b2 : 10 * bgX (gA1w x) ≤ bs + 10 * bgX b := b2
    unfold wL_act_52
    refine ⟨ad 1, gF_of G.1 rfl, tN t, fS, _, s1, vp_in_nI hs (by omega), ex, _, fR, q1, br_f (fun z => h0 ((nI_eq (b := 0) (by omega) (by decide)).mp z)) (ka_dig wt Ix.1 C hs h0' hk hst (fun S' C' => ⟨⟨_, G.1⟩, 1 + 2 * k, 10 + 20 * k, by omega, by omega, sm_dig G wt Ix.1 hs h0' hst (Nat.le_refl _) (Nat.le_refl _) (fun H' ad' G' F' ea => bn_t rfl (kk S' H' ad' ⟨C', Ix.dig wt hs h0' hst, G', A.fr G F' ea⟩ (ea 0 (by omega))))⟩))⟩
theorem sz_act (wt : wfT t) (wp : wfP p) (wo : odW (tE t) o) (hp : odP p o) (I : LSt Z S H t p o x ad) (p2 : Int32) : ∃ y, bgX (gA1w y) ≤ bgX (gA1w x) ∧ ∀ (bc bs : Nat) (K : Int32 → cLS → gH → Prop), bgX (gA1w x) ≤ bc + bgX (gA1w y) → 10 * bgX (gA1w x) ≤ bs + 10 * bgX (gA1w y) → (∀ S' H' ad', LSt Z S' H' t p o y ad' → ad' 0 = ad 0 → K 1 S' H') → wL_act Z a H bc bs S (ad 0) p2 K := by
  have I0 := I
  obtain ⟨C, Ix, G, A⟩ := I
  have n2 := wt.1
  obtain ⟨fS, s1, s1'⟩ := G.2.1
  obtain ⟨fP, s8, s8'⟩ := G.2.2.2.2.2.2.2.2.1
  have hs := blw_lt (x := p2 >>> ((3 : Int32) &&& 31)) (n := tN t) (by omega)
  have hr := blw_lt (x := p2) (n := 9) (by decide)
  obtain ⟨s, hse⟩ : ∃ s, s = blw (p2 >>> ((3 : Int32) &&& 31)) (tN t) := ⟨_, rfl⟩
  obtain ⟨r, hre⟩ : ∃ r, r = blw p2 9 := ⟨_, rfl⟩
  rw [← hse] at hs
  rw [← hre] at hr
  have vs : vp_in (nI s) (tN t) := vp_in_nI hs (by omega)
  have cs' : (nI s).toNatClampNeg = s := nI_clamp (by omega)
  have ps := s8' s hs
  have a3 : fb_ct (gP x) 8 = fb_ct (gP x) (tN t) := ct_cut n2.2 (fun k hk => Ix.1.2.2.2.2.1 k hk)
  -- the frame of it
  have go : ∀ (y : Gs) (KC : (Int32 → cLS → gH → Prop) → Nat → Nat → Prop), bgX (gA1w y) ≤ bgX (gA1w x) → (∀ (bc bs : Nat) (K : Int32 → cLS → gH → Prop), bgX (gA1w x) ≤ bc + bgX (gA1w y) → 10 * bgX (gA1w x) ≤ bs + 10 * bgX (gA1w y) → (∀ S' H' ad', LSt Z S' H' t p o y ad' → ad' 0 = ad 0 → K 1 S' H') → KC K bc bs) → (∀ K bc bs, KC K bc bs → wL_act Z a H bc bs S (ad 0) p2 K) → ∃ y, bgX (gA1w y) ≤ bgX (gA1w x) ∧ ∀ (bc bs : Nat) (K : Int32 → cLS → gH → Prop), bgX (gA1w x) ≤ bc + bgX (gA1w y) → 10 * bgX (gA1w x) ≤ bs + 10 * bgX (gA1w y) → (∀ S' H' ad', LSt Z S' H' t p o y ad' → ad' 0 = ad 0 → K 1 S' H') → wL_act Z a H bc bs S (ad 0) p2 K :=
    fun y KC h1 h2 h3 => ⟨y, h1, fun bc bs K b1 b2 kk => h3 K bc bs (h2 bc bs K b1 b2 kk)⟩
  have nr : ∀ {u : Nat} (v : Nat), u < 2 ^ 31 → v < 2 ^ 31 → u ≠ v → ¬ nI u = nI v := fun v hu hv h z => h ((nI_eq hu hv).mp z)
  by_cases r2 : r ≤ 2
  · obtain ⟨y, h1, h2⟩ := act_52 (a := a) wt I0 hs
    refine go y _ h1 h2 (fun K bc bs k => ?_)
    unfold wL_act
    refine ⟨ad 1, gF_of G.1 rfl, tN t, fS, s1, hz_blw (by omega) (by omega) (hz_blw (n := 9) (by decide) (by decide) ?_)⟩
    rw [← hse, ← hre]
    exact ⟨fun _ => k, fun _ => k, fun _ => k, fun z => absurd z (nr 3 (by omega) (by decide) (by omega)), fun z => absurd z (nr 4 (by omega) (by decide) (by omega)), fun a0 a1 a2 _ _ => by
      exfalso
      have : r = 0 ∨ r = 1 ∨ r = 2 := by omega
      rcases this with e | e | e
      · exact a0 (by rw [e]; rfl)
      · exact a1 (by rw [e]; rfl)
      · exact a2 (by rw [e]; rfl)⟩
  · by_cases r3 : r = 3
    · -- a prop is put
      have e3 : nI r = 3 := by rw [r3]; rfl
      have sel : ∀ {P3 P0 P4 P5 : Prop}, P3 → (nI r = 0 → P0) ∧ (nI r = 1 → P0) ∧ (nI r = 2 → P0) ∧ (nI r = 3 → P3) ∧ (nI r = 4 → P4) ∧ (¬ nI r = 0 → ¬ nI r = 1 → ¬ nI r = 2 → ¬ nI r = 3 → ¬ nI r = 4 → P5) := fun k => ⟨fun z => absurd z (nr 0 (by omega) (by decide) (by omega)), fun z => absurd z (nr 1 (by omega) (by decide) (by omega)), fun z => absurd z (nr 2 (by omega) (by decide) (by omega)), fun _ => k, fun z => absurd z (nr 4 (by omega) (by decide) (by omega)), fun _ _ _ z _ => absurd e3 z⟩
      by_cases hput : gP x s = false ∧ fb_ct (gP x) 8 < 3
      · obtain ⟨h1, h2⟩ := hput
        refine ⟨(gA1w x, va_up (gP x) s true, gF1w x, gDy x, gCa x, gDu x, gSl x), Nat.le_refl _, fun bc bs K b1 b2 kk => ?_⟩
        unfold wL_act
        refine ⟨ad 1, gF_of G.1 rfl, tN t, fS, s1, hz_blw (by omega) (by omega) (hz_blw (n := 9) (by decide) (by decide) ?_)⟩
        rw [← hse, ← hre]
        refine sel ⟨ad 4, gF_of G.1 rfl, tN t, fP, s8, vs, bn_t (by rw [cs', ps, h1]; rfl) ⟨⟨_, G.1⟩, sm_props G n2.2 (bn_f (fun z => ?_) ⟨ad 4, gF_of G.1 rfl, tN t, fP, s8, vs, ka_prop wt Ix.1 C hs h1 h2 (fun S' C' => ?_)⟩)⟩⟩
        · rw [← a3] at z
          have := (nI_eq (b := 3) (by omega) (by decide)).mp z
          omega
        · have G' := sm_setP G (v := s) (x := true) s8
          have e : vp_nar .boolean 1 = zB1w true := nar_zB true
          rw [cs', e]
          have a4 : fb_ct (va_up (gP x) s true) 8 = fb_ct (va_up (gP x) s true) (tN t) := ct_cut n2.2 (fun k hk => by rw [va_up_ne _ _ (by omega)]; exact Ix.1.2.2.2.2.1 k hk)
          refine ⟨⟨_, G'.1⟩, sm_props G' n2.2 (bn_t (by rw [a4]) (kk S' _ ad ⟨C', Ix.prop wt hs h1 h2, G', A.fr G (Fr.s (Or.inr (Or.inr (Or.inl rfl)))) (fun _ _ => rfl)⟩ rfl))⟩
      · refine ⟨x, Nat.le_refl _, fun bc bs K b1 b2 kk => ?_⟩
        have fin := kk S H ad I0 rfl
        unfold wL_act
        refine ⟨ad 1, gF_of G.1 rfl, tN t, fS, s1, hz_blw (by omega) (by omega) (hz_blw (n := 9) (by decide) (by decide) ?_)⟩
        rw [← hse, ← hre]
        refine sel ⟨ad 4, gF_of G.1 rfl, tN t, fP, s8, vs, ⟨fun _ => fin, fun z => ?_⟩⟩
        have h1 : gP x s = false := by
          rw [cs', ps] at z
          cases e : gP x s
          · rfl
          · rw [e] at z; exact absurd z (by decide)
        refine ⟨⟨_, G.1⟩, sm_props G n2.2 ⟨fun y => ?_, fun _ => fin⟩⟩
        exfalso
        have p3 := Ix.2.1
        have : ¬ fb_ct (gP x) 8 < 3 := fun q => hput ⟨h1, q⟩
        exact y (by rw [← a3, show fb_ct (gP x) 8 = 3 by omega]; rfl)
    · by_cases r4 : r = 4
      · have e4 : nI r = 4 := by rw [r4]; rfl
        have sel : ∀ {P3 P0 P4 P5 : Prop}, P4 → (nI r = 0 → P0) ∧ (nI r = 1 → P0) ∧ (nI r = 2 → P0) ∧ (nI r = 3 → P3) ∧ (nI r = 4 → P4) ∧ (¬ nI r = 0 → ¬ nI r = 1 → ¬ nI r = 2 → ¬ nI r = 3 → ¬ nI r = 4 → P5) := fun k => ⟨fun z => absurd z (nr 0 (by omega) (by decide) (by omega)), fun z => absurd z (nr 1 (by omega) (by decide) (by omega)), fun z => absurd z (nr 2 (by omega) (by decide) (by omega)), fun z => absurd z (nr 3 (by omega) (by decide) (by omega)), fun _ => k, fun _ _ _ _ z => absurd e4 z⟩
        cases h1 : gP x s
        · refine ⟨x, Nat.le_refl _, fun bc bs K b1 b2 kk => ?_⟩
          have fin := kk S H ad I0 rfl
          unfold wL_act
          refine ⟨ad 1, gF_of G.1 rfl, tN t, fS, s1, hz_blw (by omega) (by omega) (hz_blw (n := 9) (by decide) (by decide) ?_)⟩
          rw [← hse, ← hre]
          exact sel ⟨ad 4, gF_of G.1 rfl, tN t, fP, s8, vs, bn_t (by rw [cs', ps, h1]; rfl) fin⟩
        · obtain ⟨k, b, hk, hst⟩ := stl_ok wt (va_up (gP x) s false) Ix.1.1
          have g1 := stl_bg n2.2 k _ b hst Ix.1.1
          have g3 : bgX b + 2 * k ≤ bgX (gA1w x) := by
            show 2 * muS1w b.2.1 + hsS b.2.1 + 2 * k ≤ 2 * muS1w (gA1w x).2.1 + hsS (gA1w x).2.1
            omega
          refine ⟨(b, va_up (gP x) s false, gF1w x, gDy x, gCa x, gDu x, gSl x + nI k), by show bgX b ≤ _; omega, fun bc bs K b1 b2 kk => ?_⟩
          have b1 : bgX (gA1w x) ≤ bc + bgX b := b1
          have b2 : 10 * bgX (gA1w x) ≤ bs + 10 * bgX b := b2
          unfold wL_act
          refine ⟨ad 1, gF_of G.1 rfl, tN t, fS, s1, hz_blw (by omega) (by omega) (hz_blw (n := 9) (by decide) (by decide) ?_)⟩
          rw [← hse, ← hre]
          refine sel ⟨ad 4, gF_of G.1 rfl, tN t, fP, s8, vs, bn_n (by rw [cs', ps, h1]; decide) ⟨ad 4, gF_of G.1 rfl, tN t, fP, s8, vs, ka_takeProp wt Ix.1 C hs h1 hk hst (fun S' C' => ?_)⟩⟩
          have G' := sm_setP G (v := s) (x := false) s8
          have e : vp_nar .boolean 0 = zB1w false := nar_zB false
          rw [cs', e]
          refine ⟨⟨_, G'.1⟩, 2 * k, 20 * k, by omega, by omega, sm_settle_ex wt hst Ix.1.1 G' (Nat.le_refl _) (Nat.le_refl _) (fun H' ad' G2 F2 ea => bn_t rfl (kk S' H' ad' ⟨C', Ix.free wt hs hst, G2, ?_⟩ (ea 0 (by omega))))⟩
          have A1 : odA Z _ ad o := A.fr G (Fr.s (a := ad 4) (e := iE (zY Z 3) (tN t) (upd fP s (zB1w false))) (Or.inr (Or.inr (Or.inl rfl)))) (fun _ _ => rfl)
          exact odA.fr (x := (gA1w x, va_up (gP x) s false, gF1w x, gDy x, gCa x, gDu x, gSl x)) A1 G' F2 ea
      · have sel : ∀ {P3 P0 P4 P5 : Prop}, P5 → (nI r = 0 → P0) ∧ (nI r = 1 → P0) ∧ (nI r = 2 → P0) ∧ (nI r = 3 → P3) ∧ (nI r = 4 → P4) ∧ (¬ nI r = 0 → ¬ nI r = 1 → ¬ nI r = 2 → ¬ nI r = 3 → ¬ nI r = 4 → P5) := fun k => ⟨fun z => absurd z (nr 0 (by omega) (by decide) (by omega)), fun z => absurd z (nr 1 (by omega) (by decide) (by omega)), fun z => absurd z (nr 2 (by omega) (by decide) (by omega)), fun z => absurd z (nr 3 (by omega) (by decide) (by omega)), fun z => absurd z (nr 4 (by omega) (by decide) (by omega)), fun _ _ _ _ _ => k⟩
        have h6 := blw_lt (x := p2 >>> ((8 : Int32) &&& 31)) (n := 6) (by decide)
        by_cases h0 : blw (p2 >>> ((8 : Int32) &&& 31)) 6 = 0
        · obtain ⟨y, g1, g2⟩ := act_183 (a := a) wt wp wo hp I0 (p2 >>> ((5 : Int32) &&& 31)) (z := 30) (by decide) (by decide)
          refine go y _ g1 g2 (fun K bc bs k => ?_)
          unfold wL_act
          refine ⟨ad 1, gF_of G.1 rfl, tN t, fS, s1, hz_blw (by omega) (by omega) (hz_blw (n := 9) (by decide) (by decide) ?_)⟩
          rw [← hse, ← hre]
          exact sel (hz_blw (n := 6) (by decide) (by decide) (bn_t (by rw [h0]; rfl) k))
        · obtain ⟨y, g1, g2⟩ := act_183 (a := a) wt wp wo hp I0 (p2 >>> ((5 : Int32) &&& 31)) (z := 3) (by decide) (by decide)
          refine go y _ g1 g2 (fun K bc bs k => ?_)
          unfold wL_act
          refine ⟨ad 1, gF_of G.1 rfl, tN t, fS, s1, hz_blw (by omega) (by omega) (hz_blw (n := 9) (by decide) (by decide) ?_)⟩
          rw [← hse, ← hre]
          exact sel (hz_blw (n := 6) (by decide) (by decide) (bn_n (fun z => h0 ((nI_eq (b := 0) (by omega) (by decide)).mp z)) k))
end ACT
