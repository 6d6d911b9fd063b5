/-! the whole reading, both -/
def m1f (f : (Nat → Int32)) : (Nat → Int32) := fun i => if i < 80 then -1 else f i
def z0f (f : (Nat → Int32)) : (Nat → Int32) := fun i => if i < 80 then 0 else f i
def tZ : Tl := ((4, 6, 0, 0), fun _ => 0, fun _ => none, fun _ => false, fun _ => false, fun _ => 0, fun _ => 0, fun _ => 0)
def pZ : Pn := ((0, 0), fun _ => 0, fun _ => 0, fun _ => 0, fun _ => 0, fun _ => 0)
theorem wfT_0 : wfT tZ := by
  refine ⟨⟨by decide, by decide⟩, ⟨by decide, by decide⟩, by decide, by decide, fun f hf => absurd hf (Nat.not_lt_zero f), fun c f _ h => ?_, fun f hf => absurd hf (Nat.not_lt_zero f)⟩
  cases h
theorem wfP_0 : wfP pZ := ⟨by decide, by decide, fun o h => absurd h (Nat.not_lt_zero o)⟩
theorem rT_0 {co cu de fi sp fr to : (Nat → Int32)} (h1 : ∀ c, c < 80 → fi c = -1) (h2 : ∀ c, c < 80 → sp c = 0) : rT tZ (nI 4) (nI 6) (nI 0) (nI 0) co cu de fi sp fr to := ⟨⟨rfl, rfl, rfl, rfl⟩, fun i h => absurd h (Nat.not_lt_zero i), fun i h => absurd h (Nat.not_lt_zero i), fun i h => absurd h (Nat.not_lt_zero i), fun c h => h1 c h, fun c h => h2 c h, fun i h => absurd h (Nat.not_lt_zero i), fun i h => absurd h (Nat.not_lt_zero i)⟩
theorem m1f_in {f : (Nat → Int32)} {c : Nat} (h : c < 80) : m1f f c = -1 := if_pos h
theorem z0f_in {f : (Nat → Int32)} {c : Nat} (h : c < 80) : z0f f c = 0 := if_pos h
theorem fill_st {f : (Nat → Int32)} {v : Int32} {i : Nat} : upd (fun j => if j < i then v else f j) i v = fun j => if j < i + 1 then v else f j := by
  funext j
  by_cases z : j = i
  · subst z; rw [us, if_pos (by omega)]
  · rw [un z]
    by_cases y : j < i
    · rw [if_pos y, if_pos (by omega)]
    · rw [if_neg y, if_neg (by omega)]
theorem fill_0 {f : (Nat → Int32)} {v : Int32} : (fun j => if j < 0 then v else f j) = f := by
  funext j
  rw [if_neg (Nat.not_lt_zero j)]
theorem sz_fill80 {f : (Nat → Int32)} {K : (Nat → Int32) → Prop} (kk : K (m1f f)) : wJ7_fill_53178 f (-1) K := by
  unfold wJ7_fill_53178
  have h := pk_loop (fun n i (_ : Unit) => wJ7_fill_53178_5 K n (fun j => if j < i then -1 else f j) (-1) (nI i) 80) (fun _ _ => True) 80 0 () (by omega) trivial (fun n _ _ => ?_) (fun n i _ hi _ ih => ?_)
  · obtain ⟨n, hn⟩ := h
    rw [fill_0] at hn
    exact ⟨n, hn⟩
  · unfold wJ7_fill_53178_5
    exact br_t (by decide) kk
  · unfold wJ7_fill_53178_5
    refine br_f (nI_ge (b := 80) hi (by decide)) ⟨vp_in_nI hi (by decide), ?_⟩
    rw [nI_clamp (by omega), nI_1, fill_st]
    exact ih () trivial
theorem sz_clear {s st e f O S : Int32} {fi sp : (Nat → Int32)} {K : (Int32 × Int32 × Int32 × Int32 × (Nat → Int32) × (Nat → Int32) × Int32 × Int32) → Prop} (kk : K (4, 6, 0, 0, m1f fi, z0f sp, 0, 0)) : wX7_clear s st e f fi sp O S K := by
  unfold wX7_clear wX7_resize
  refine sz_fill80 ?_
  have h := pk_loop (fun n i (_ : Unit) => wX7_clear_27 K n 4 6 0 0 (m1f fi) (fun j => if j < i then 0 else sp j) O S (nI i)) (fun _ _ => True) 80 0 () (by omega) trivial (fun n _ _ => ?_) (fun n i _ hi _ ih => ?_)
  · obtain ⟨n, hn⟩ := h
    rw [fill_0] at hn
    exact ⟨n, hn⟩
  · unfold wX7_clear_27
    exact br_t (by decide) kk
  · unfold wX7_clear_27
    refine br_f (nI_ge (b := 80) hi (by decide)) ⟨vp_in_nI hi (by decide), ?_⟩
    rw [nI_clamp (by omega), nI_1, fill_st]
    exact ih () trivial
theorem tyS_b {k : Nat} {bs b1 : List Bool} (h : tyS k bs = some b1) : k < 49 := by
  rcases arK3 k with e | e | e
  · unfold arK at e
    split at e
    · omega
    · split at e <;> omega
  · unfold arK at e
    split at e
    · omega
    · split at e
      · omega
      · omega
  · rcases bs with _ | ⟨c, _ | ⟨b, r⟩⟩
    · rw [tyS2n e] at h; cases h
    · rw [tyS2m e] at h; cases h
    · rw [tyS2 e] at h
      split at h
      · rename_i z
        omega
      · cases h
theorem tyR_b {ks : Nat → Nat} : ∀ (n s : Nat) (bs b2 : List Bool), tyR ks n s bs = some b2 → ∀ j, j < n → ks (s + j) < 49 := by
  intro n
  induction n with
  | zero => intro s bs b2 _ j hj; exact absurd hj (Nat.not_lt_zero j)
  | succ n ih =>
    intro s bs b2 h j hj
    obtain ⟨bs', h1, h2⟩ := tyR_succ h
    cases j with
    | zero => exact tyS_b h1
    | succ j =>
      have := ih (s + 1) bs' b2 h2 j (by omega)
      rw [show s + (j + 1) = s + 1 + j by omega]; exact this
theorem pK_b {pl : Pn} (w : wfP pl) (hb : be0 pl (pO pl) = pS pl) : ∀ i, i < pS pl → pK pl i < 49 := by
  have key : ∀ o, o ≤ pO pl → ∀ i, i < be0 pl o → pK pl i < 49 := by
    intro o
    induction o with
    | zero =>
      intro _ i hi
      exact absurd hi (Nat.not_lt_zero i)
    | succ o ih =>
      intro ho i hi
      have t := w.2.2 o (by omega)
      have e : be0 pl (o + 1) = pE2 pl o := by
        unfold be0
        rw [if_neg (by omega)]; rfl
      rw [e] at hi
      rcases Nat.lt_or_ge i (be0 pl o) with z | z
      · exact ih (by omega) i z
      · rcases Nat.lt_or_ge i (pE1 pl o) with y | y
        · have := tyR_b _ _ _ _ t.2.2.1 (i - be0 pl o) (by omega)
          rw [show be0 pl o + (i - be0 pl o) = i by omega] at this
          exact this
        · rcases t.2.2.2 with v | v
          · omega
          · have := tyR_b _ _ _ _ v (i - pE1 pl o) (by omega)
            rw [show pE1 pl o + (i - pE1 pl o) = i by omega] at this
            exact this
  intro i hi
  exact key (pO pl) (Nat.le_refl _) i (by rw [hb]; exact hi)
theorem trK_tab : ∀ k, k < 49 → (trK k = 19 ↔ k = 19) ∧ (trK k = 20 ↔ k = 20) ∧ (trK k = 22 ↔ k = 22) ∧ trK k < 200 ∧ (arK k = 0 → 19 ≤ k → k = 19 ∨ k = 20 ∨ k = 22 ∨ k = 45) := by decide +kernel
/-- names' tokens become numbers -/
theorem sm_settleN {pl : Pn} {tk : Nat → Nat} {T : Nat} {gd gb ge go gw wh : (Nat → Int32)} {K : (Nat → Int32) → Prop} (w : wfP pl) (hb : be0 pl (pO pl) = pS pl) (hT : T ≤ 400) (r : rel1 pl tk T gd gb ge go gw) (hw : ∀ i, i < pS pl → (pK pl i = 19 ∨ pK pl i = 20 ∨ pK pl i = 22) → wh (tk i) = pD pl i) (kk : ∀ gw', (∀ i, i < pS pl → arK (pK pl i) = 0 → 19 ≤ pK pl i → gw' i = pD pl i) → K gw') : wX10_settle_ wh go gw (nI (pS pl)) K := by
  have s4 := w.2.1
  unfold wX10_settle_
  refine pk_loop (fun n i (g : (Nat → Int32)) => wX10_settle__2 K wh go (nI (pS pl)) n g (nI i)) (fun i g => (∀ j, j < i → arK (pK pl j) = 0 → 19 ≤ pK pl j → g j = pD pl j) ∧ ∀ j, i ≤ j → g j = gw j) (pS pl) 0 gw (Nat.zero_le _) ⟨fun j h => absurd h (Nat.not_lt_zero j), fun _ _ => rfl⟩ (fun n g hg => ?_) (fun n i g hi hg ih => ?_)
  · unfold wX10_settle__2
    exact br_t (nI_le (Nat.le_refl _) (by omega)) (kk g hg.1)
  · have kb := pK_b w hb i hi
    have tb := trK_tab _ kb
    have ri := r.2 i hi
    unfold wX10_settle__2
    refine br_f (nI_ge hi (by omega)) ⟨vp_in_nI (by omega) (by decide), ?_⟩
    rw [nI_clamp (n := i) (by omega), ri.1]
    have go35 : (pK pl i = 19 ∨ pK pl i = 20 ∨ pK pl i = 22) → wX10_settle__35 K (wX10_settle__2 K wh go (nI (pS pl)) n) wh go (nI (pS pl)) g (nI i) := by
      intro hn
      have tn := ri.2.2 hn
      unfold wX10_settle__35 wX10_settle__52
      rw [nI_clamp (n := i) (by omega), hg.2 i (Nat.le_refl i), tn.1, nI_clamp (n := tk i) (by omega), nI_1, hw i hi hn]
      refine ⟨vp_in_nI (by omega) (by decide), vp_in_nI (by omega) (by decide), vp_in_nI (by omega) (by decide), ih _ ⟨fun j hj a b => ?_, fun j hj => ?_⟩⟩
      · by_cases z : j = i
        · subst z; exact us
        · rw [un z]; exact hg.1 j (by omega) a b
      · rw [un (by omega)]; exact hg.2 j (by omega)
    refine pk_eq (trK (pK pl i)) 19 (fun z => go35 (Or.inl (tb.1.1 z))) (fun z19 => pk_eq (trK (pK pl i)) 20 (fun z => go35 (Or.inr (Or.inl (tb.2.1.1 z)))) (fun z20 => (pk_eq (trK (pK pl i)) 22 (fun z => go35 (Or.inr (Or.inr (tb.2.2.1.1 z)))) (fun z22 => ?_)).symm))
    unfold wX10_settle__52
    rw [nI_1]
    refine ih _ ⟨fun j hj a b => ?_, fun j hj => hg.2 j (by omega)⟩
    by_cases z : j = i
    · subst z
      have := tb.2.2.2.2 a b
      have k45 : pK pl j = 45 := by
        rcases this with y | y | y | y
        · exact absurd (tb.1.2 y) z19
        · exact absurd (tb.2.1.2 y) z20
        · exact absurd (tb.2.2.1.2 y) z22
        · exact y
      rw [hg.2 j (Nat.le_refl j)]
      exact ri.2.1 k45
    · exact hg.1 j (by omega) a b
/-- what the model's reading gives -/
def KMS (K : Int32 → RKt → Prop) (ea : Int32) (t : Tl) (pl : Pn) : Prop := ∀ (mk fr me : (Nat → Int32)) (va : (Nat → Int64)) (wh : (Nat → Int32)) (tok dp od isS itS gs gst gE : Int32) (em : (Nat → Int64)) (be en : (Nat → Int32)) (gF : Int32) (gIs gCu gWh gFi gSp : (Nat → Int32)) (gO : Int32) (gd gb ge go gw : (Nat → Int32)) (gm : Int32), rT t gs gst gE gF gIs gCu gWh gFi gSp be en → rPm t pl gO gd gb ge go gw → K 0 (ea, mk, fr, me, va, wh, tok, dp, od, isS, itS, gs, gst, gE, em, be, en, gF, gIs, gCu, gWh, gFi, gSp, gO, gd, gb, ge, go, gw, gm)
theorem p2_fin {x : Tn} {K : Int32 → RKt → Prop} {tp : (Nat → Int32)} {sz ea : Int32} {mk fr me : (Nat → Int32)} {va : (Nat → Int64)} {dp od : Int32} {gd gb ge go gw : (Nat → Int32)} {t : Tl} {pl : Pn} {tk : Nat → Nat} {u : S2} (wf : wfN x) (w : wfP pl) (hb : be0 pl (pO pl) = pS pl) (ho : ∀ i, i < pS pl → okD t (pK pl i) (pD pl i)) (r : rel1 pl tk (nN x) gd gb ge go gw) (h : rel2e t pl tk u) (kk : KMS K ea t pl) : P2 K tp sz ea mk fr me va (nN x) dp od gd gb ge go gw (nI (pS pl)) u (nN x) := by
  have n4 := wf.1
  unfold P2
  rw [show nN x + 1 - nN x = 0 + 1 by omega]
  unfold wX10_read_44
  refine br_t (nI_le (Nat.le_refl _) (by omega)) (sm_settleN w hb n4 r h.2.2 (fun gw' hg => ?_))
  exact kk _ _ _ _ _ _ _ _ _ _ _ _ _ _ _ _ _ _ _ _ _ _ _ _ _ _ _ _ _ h.1 ⟨h.2.1, r.1, fun i hi => ⟨(r.2 i hi).1, fun a b => hg i hi a b, ho i hi⟩⟩
section READ
variable {Ab Mt : (Nat → Int32)} {len : Nat} {ki st nu mk fr me : (Nat → Int32)} {na va : (Nat → Int64)} {cn : (Nat → Int64)} {Fr To Co Cu De fi sp Ok Se Te sK sD wh : (Nat → Int32)} {isS itS : Int32}
def CRD (Ab : (Nat → Int32)) (len : Nat) (ki st nu : (Nat → Int32)) (na cn : (Nat → Int64)) (Fr To Co Cu De fi sp Ok Se Te sK sD : (Nat → Int32)) (K : Int32 → CKt → Prop) : Prop := ∀ cnt nx a kd er es s s2 e f O S, wX3_read Ab (nI len) ki st nu na cnt nx a kd er es s s2 e f cn Fr To Co Cu De fi sp O S Ok Se Te sK sD K
def MRD (Mt : (Nat → Int32)) (len : Nat) (mk fr me : (Nat → Int32)) (va : (Nat → Int64)) (wh : (Nat → Int32)) (isS itS : Int32) (ea : Int32) (K : Int32 → RKt → Prop) : Prop := ∀ tok dp od, wX10_read Mt (nI len) ea mk fr me va wh tok dp od isS itS 4 6 0 (fun _ => 0) (fun _ => 0) (fun _ => 0) 0 (fun _ => 0) (fun _ => 0) (fun _ => 0) (m1f (fun _ => 0)) (fun _ => 0) 0 (fun _ => 0) (fun _ => 0) (fun _ => 0) (fun _ => 0) (fun _ => 0) 0 K
def RO (C : (Int32 → CKt → Prop) → Prop) (M : Int32 → (Int32 → RKt → Prop) → Prop) : Prop := (∃ e' : Int32 × Int32, (e'.1 ≠ 0 ∧ 0 ≤ e'.1) ∧ (∀ K, KCE K e' → C K) ∧ (∀ ea K, KE K e' → M ea K)) ∨ (∃ t pl, wfT t ∧ wfP pl ∧ (∀ K, KCS K t pl → C K) ∧ (∀ ea K, KMS K ea t pl → M ea K))
/-- the model's second part of its reading -/
def MK9 (Mt : (Nat → Int32)) (len : Nat) (mk fr : (Nat → Int32)) (va : (Nat → Int64)) (wh : (Nat → Int32)) (isS itS : Int32) (ea : Int32) (K : Int32 → RKt → Prop) : Int32 → LK → Prop := fun r2 u2 => ((¬ r2 = 0 → ∃ k9 : Nat, wX10_read_44 K Mt (nI len) k9 ea mk fr u2.1 va wh u2.2.1 u2.2.2.1 u2.2.2.2.1 isS itS 4 6 0 (fun _ => 0) (fun _ => 0) (fun _ => 0) 0 (fun _ => 0) (fun _ => 0) (fun _ => 0) (m1f (fun _ => 0)) (fun _ => 0) 0 u2.2.2.2.2.1 u2.2.2.2.2.2.1 u2.2.2.2.2.2.2.1 u2.2.2.2.2.2.2.2.1 u2.2.2.2.2.2.2.2.2.1 u2.2.2.2.2.2.2.2.2.2 0) ∧ (r2 = 0 → vp_in u2.2.1 401 ∧ (K 1 (fr u2.2.1.toNatClampNeg, mk, fr, u2.1, va, wh, u2.2.1, u2.2.2.1, u2.2.2.2.1, isS, itS, 4, 6, 0, (fun _ => 0), (fun _ => 0), (fun _ => 0), 0, (fun _ => 0), (fun _ => 0), (fun _ => 0), (m1f (fun _ => 0)), (fun _ => 0), 0, u2.2.2.2.2.1, u2.2.2.2.2.2.1, u2.2.2.2.2.2.2.1, u2.2.2.2.2.2.2.2.1, u2.2.2.2.2.2.2.2.2.1, u2.2.2.2.2.2.2.2.2.2))))
def u00 (wh : (Nat → Int32)) (isS itS : Int32) : S2 := (wh, isS, itS, 4, 6, 0, (fun _ => 0), (fun _ => 0), (fun _ => 0), 0, (fun _ => 0), (fun _ => 0), (fun _ => 0), (m1f (fun _ => 0)), (fun _ => 0), 0)
theorem u00_rel {x : Tn} {tk : Nat → Nat} : rel2 x tZ pZ tk cn (u00 wh isS itS) := ⟨⟨rT_0 (show ∀ c, c < 80 → m1f (fun _ => 0) c = -1 from fun c h => m1f_in h) (fun _ _ => rfl), rfl, fun i h => absurd h (Nat.not_lt_zero i)⟩, fun _ _ _ => rfl⟩
theorem mk9_F {x : Tn} (wf : wfN x) (rm : rNm x mk fr va) {q : Nat} (hq : q ≤ nN x) {ea : Int32} {K : Int32 → RKt → Prop} (kk : KE K (1, nI (sN x q))) {u : LK} (hu : u.2.1 = nI q) : MK9 Mt len mk fr va wh isS itS ea K 0 u := by
  have n4 := wf.1
  unfold MK9
  refine ⟨fun z => absurd rfl z, fun _ => ?_⟩
  rw [hu, nI_clamp (n := q) (by omega), (rm q hq).2.1]
  exact ⟨vp_in_nI (by omega) (by decide), kk _⟩
theorem mk9_S {x : Tn} (wf : wfN x) {ea : Int32} {K : Int32 → RKt → Prop} {me' gd' gb' ge' go' gw' : (Nat → Int32)} {od' gm' : Int32} (h : P2 K Mt (nI len) ea mk fr me' va (nN x) (nI 0) od' gd' gb' ge' go' gw' gm' (u00 wh isS itS) 0) : MK9 Mt len mk fr va wh isS itS ea K 1 (me', nI (nN x), nI 0, od', gd', gb', ge', go', gw', gm') := by
  unfold MK9
  refine ⟨fun _ => ⟨nN x + 1 - 0, h⟩, fun z => absurd z (by decide)⟩
theorem top {x : Tn} {C : (Int32 → CKt → Prop) → Prop} {M : Int32 → (Int32 → RKt → Prop) → Prop} {p : Nat} {e : Int32 × Int32} {t : Tl} {c : CRt} {me1 gd gb ge go gw : (Nat → Int32)} {tk : Nat → Nat} {nx : Int32} (wf : wfN x) (rm : rNm x mk fr va) (he : 0 ≤ e.1)
    (cp : ∀ K, RB K Ab (nI len) ki st nu na (nI (nN x + 1)) nx (nI (tN t)) (nI (tM t)) (nI p) (nI (kN x p)) e.1 e.2 c 0 → C K)
    (mp : ∀ ea K, (∃ n : Nat, wX10_isBook_47 (MK9 Mt len mk fr va wh isS itS ea K) mk va n me1 (nI p) (nI 0) (nI 0) gd gb ge go gw (nI 0)) → M ea K)
    (sec : ∀ me' od' gd' gb' ge' go' gw' gm', (∀ i, i < p → me' i = me1 i) → ∀ K tp sz ea, (e.1 ≠ 0 → KE K e → P2 K tp sz ea mk fr me' va (nN x) (nI 0) od' gd' gb' ge' go' gw' gm' (u00 wh isS itS) 0) ∧ (e.1 = 0 → (∀ u1, rel2 x t pZ tk cn u1 → P2 K tp sz ea mk fr me' va (nN x) (nI 0) od' gd' gb' ge' go' gw' gm' u1 p) → P2 K tp sz ea mk fr me' va (nN x) (nI 0) od' gd' gb' ge' go' gw' gm' (u00 wh isS itS) 0))
    (bo : BO x ki st nu mk fr na va p e t c 0 0 0 me1 gd gb ge go gw pZ tk cn) : RO C M := by
  rcases bo with ⟨q, b1, b2, b3⟩ | ⟨me', od', gd', gb', ge', go', gw', gm', b1, b2, b3⟩
  · exact Or.inl ⟨(1, nI (sN x q)), ⟨(show (1 : Int32) ≠ 0 by decide), (show (0 : Int32) ≤ 1 by decide)⟩, fun K kk => cp K (b2 K _ _ _ kk), fun ea K kk => mp ea K (b3 _ (fun u hu => mk9_F wf rm b1 kk hu))⟩
  · rcases b3 with ⟨e', d1, d2, d3, d4⟩ | ⟨d0, t', pl', tk', d1, d2, d3, d4, d5, d6⟩
    · refine Or.inl ⟨e', ⟨d1.1, d1.2 he⟩, fun K kk => cp K (d3 K _ _ _ kk), fun ea K kk => mp ea K (b1 _ (mk9_S wf ?_))⟩
      have s := sec me' od' gd' gb' ge' go' gw' gm' b2 K Mt (nI len) ea
      by_cases y : e.1 = 0
      · exact s.2 y (fun u1 hu1 => d4 y K Mt (nI len) ea u1 hu1 kk)
      · rw [d2 y] at kk
        exact s.1 y kk
    · refine Or.inr ⟨t', pl', d1, d2.1, fun K kk => cp K (d4 K _ _ _ kk), fun ea K kk => mp ea K (b1 _ (mk9_S wf ?_))⟩
      have s := sec me' od' gd' gb' ge' go' gw' gm' b2 K Mt (nI len) ea
      subst d3
      exact s.2 d0 (fun u1 hu1 => d6 K Mt (nI len) ea u1 hu1 (fun u' hu' => p2_fin wf d2.1 d2.2.1 d2.2.2 d5 hu' kk))
theorem read_ex (r : rA Ab Mt len) (hl : len ≤ 2000) : RO (CRD Ab len ki st nu na cn Fr To Co Cu De fi sp Ok Se Te sK sD) (MRD Mt len mk fr me va wh isS itS) := by
  obtain ⟨x, wf, ⟨ki', st', nu', na', nx', rc, ck9⟩, ⟨mk', fr', me0, va', rm, hm0, cm9⟩⟩ := toks_ex r hl ki st nu na mk fr me va
  have n4 := wf.1
  have k0 : ki' 0 = nI (kN x 0) := (rc 0 (by omega)).1
  have hk0 := (kN_b wf (p := 0) (by omega)).1
  have cpre : ∀ K : Int32 → CKt → Prop, ((¬ kN x 0 = 0 → RB K Ab (nI len) ki' st' nu' na' (nI (nN x + 1)) nx' (nI 4) (nI 6) (nI 0) (nI (kN x 0)) 0 (-1) (nI 0, nI 0, cn, Fr, To, Co, Cu, De, m1f fi, z0f sp, nI 0, nI 0, Ok, Se, Te, sK, sD) 0) ∧ (kN x 0 = 0 → wX3_readSize ki' st' nu' (nI (nN x + 1)) (nI 0) (nI (kN x 0)) 0 (-1) (nI 4) (nI 6) (fun u3 => RB K Ab (nI len) ki' st' nu' na' (nI (nN x + 1)) nx' u3.2.2.2.2.1 u3.2.2.2.2.2 u3.1 u3.2.1 u3.2.2.1 u3.2.2.2.1 (nI 0, nI 0, cn, Fr, To, Co, Cu, De, m1f fi, z0f sp, nI 0, nI 0, Ok, Se, Te, sK, sD) 0))) → CRD Ab len ki st nu na cn Fr To Co Cu De fi sp Ok Se Te sK sD K := by
    intro K h cnt nx a kd er es s s2 e f O S
    unfold wX3_read
    refine sz_clear (ck9 _ _ _ ⟨pk_in 0 401 (by omega), ?_⟩)
    have e0 : ki' (0 : Int32).toNatClampNeg = nI (kN x 0) := k0
    rw [← e0] at h
    refine ⟨fun z => h.1 (fun y => z ?_), fun z => h.2 ?_⟩
    · exact e0.trans (by rw [y]; rfl)
    · exact (nI_eq (a := kN x 0) (b := 0) (by omega) (by omega)).1 (e0.symm.trans z)
  have mpre : ∀ (ea : Int32) (K : Int32 → RKt → Prop), wX10_isBook mk' me0 va' (nI 0) (nI 0) (nI 0) (fun _ => 0) (fun _ => 0) (fun _ => 0) (fun _ => 0) (fun _ => 0) (nI 0) (MK9 Mt len mk' fr' va' wh isS itS ea K) → MRD Mt len mk fr me va wh isS itS ea K := by
    intro ea K h tok dp od
    unfold wX10_read
    exact cm9 _ h
  have z1 : ∀ c, c < 80 → m1f fi c = -1 := fun c h => m1f_in h
  have z2 : ∀ c, c < 80 → z0f sp c = 0 := fun c h => z0f_in h
  have gz : ∀ (e : Int32 × Int32) (t : Tl) (p : Nat), e = eG → rT t (nI (tN t)) (nI (tM t)) (nI 0) (nI 0) Co Cu De (m1f fi) (z0f sp) Fr To → goodL x e t 0 0 0 0 Ok Se Te sK sD (fun _ => 0) (fun _ => 0) (fun _ => 0) (fun _ => 0) (fun _ => 0) pZ (fun _ => 0) p := fun e t p h _ => ⟨h, wfP_0, rfl, rfl, rfl, rfl, rfl, ⟨⟨rfl, rfl⟩, fun o h => absurd h (Nat.not_lt_zero o), fun i h => absurd h (Nat.not_lt_zero i)⟩, fun o h => absurd h (Nat.not_lt_zero o), fun i h => absurd h (Nat.not_lt_zero i)⟩
  by_cases h0 : kN x 0 = 0
  · have lt0 := kN_lt wf (p := 0) (by omega) (by omega)
    by_cases h1 : kN x (0 + 1) ≠ 45
    · refine Or.inl ⟨(1, nI (sN x 1)), ⟨(show (1 : Int32) ≠ 0 by decide), (show (0 : Int32) ≤ 1 by decide)⟩, fun K kk => cpre K ⟨fun z => absurd h0 z, fun _ => ?_⟩, fun ea K kk => mpre ea K ?_⟩
      · refine c_size_F1 (p := 0) (e := eG) (N := 4) (M := 6) wf rc (by omega) (by decide) h0 h1 ⟨1, ?_⟩
        exact rb_stop kk
      · unfold wX10_isBook
        exact m_eat_y wf rm (p := 0) (by omega) 0 h0 (br_f (by decide) (m_as_n wf rm (p := 1) (by omega) 45 h1 (br_t rfl (mk9_F wf rm (q := 1) (by omega) kk rfl))))
    have h1 : kN x (0 + 1) = 45 := Classical.not_not.1 h1
    have lt1 := kN_lt wf (p := 0 + 1) (by omega) (by omega)
    by_cases h2 : kN x (0 + 2) ≠ 1
    · refine Or.inl ⟨(1, nI (sN x 2)), ⟨(show (1 : Int32) ≠ 0 by decide), (show (0 : Int32) ≤ 1 by decide)⟩, fun K kk => cpre K ⟨fun z => absurd h0 z, fun _ => ?_⟩, fun ea K kk => mpre ea K ?_⟩
      · refine c_size_F2 (p := 0) (e := eG) (N := 4) (M := 6) wf rc (by omega) (by decide) h0 h1 h2 ⟨1, ?_⟩
        exact rb_stop kk
      · unfold wX10_isBook
        exact m_eat_y wf rm (p := 0) (by omega) 0 h0 (br_f (by decide) (m_as_y wf rm (p := 1) (by omega) 45 h1 (br_f (by decide) (m_eat_n wf rm (p := 2) (by omega) 1 h2 (br_t rfl (mk9_F wf rm (q := 2) (by omega) kk rfl))))))
    have h2 : kN x (0 + 2) = 1 := Classical.not_not.1 h2
    have lt2 := kN_lt wf (p := 0 + 2) (by omega) (by omega)
    by_cases h3 : kN x (0 + 3) ≠ 45
    · refine Or.inl ⟨(1, nI (sN x 3)), ⟨(show (1 : Int32) ≠ 0 by decide), (show (0 : Int32) ≤ 1 by decide)⟩, fun K kk => cpre K ⟨fun z => absurd h0 z, fun _ => ?_⟩, fun ea K kk => mpre ea K ?_⟩
      · refine c_size_F3 (p := 0) (e := eG) (N := 4) (M := 6) wf rc (by omega) (by decide) h0 h1 h2 h3 ⟨1, ?_⟩
        exact rb_stop kk
      · unfold wX10_isBook
        exact m_eat_y wf rm (p := 0) (by omega) 0 h0 (br_f (by decide) (m_as_y wf rm (p := 1) (by omega) 45 h1 (br_f (by decide) (m_eat_y wf rm (p := 2) (by omega) 1 h2 (br_f (by decide) (m_as_n wf rm (p := 3) (by omega) 45 h3 (br_t rfl (mk9_F wf rm (q := 3) (by omega) kk rfl))))))))
    have h3 : kN x (0 + 3) = 45 := Classical.not_not.1 h3
    have lt3 := kN_lt wf (p := 0 + 3) (by omega) (by omega)
    by_cases h4 : kN x (0 + 4) ≠ 33
    · refine Or.inl ⟨(1, nI (sN x 4)), ⟨(show (1 : Int32) ≠ 0 by decide), (show (0 : Int32) ≤ 1 by decide)⟩, fun K kk => cpre K ⟨fun z => absurd h0 z, fun _ => ?_⟩, fun ea K kk => mpre ea K ?_⟩
      · refine c_size_F4 (p := 0) (e := eG) (N := 4) (M := 6) wf rc (by omega) (by decide) h0 h1 h2 h3 h4 ⟨1, ?_⟩
        exact rb_stop kk
      · unfold wX10_isBook
        exact m_eat_y wf rm (p := 0) (by omega) 0 h0 (br_f (by decide) (m_as_y wf rm (p := 1) (by omega) 45 h1 (br_f (by decide) (m_eat_y wf rm (p := 2) (by omega) 1 h2 (br_f (by decide) (m_as_y wf rm (p := 3) (by omega) 45 h3 (br_f (by decide) (m_eat_n wf rm (p := 4) (by omega) 33 h4 (bn_t rfl (mk9_F wf rm (q := 4) (by omega) kk rfl))))))))))
    have h4 : kN x (0 + 4) = 33 := Classical.not_not.1 h4
    have lt4 := kN_lt wf (p := 0 + 4) (by omega) (by omega)
    have hh : ∀ i, i < 5 → i = 0 ∨ i = 1 ∨ i = 2 ∨ i = 3 ∨ i = 4 := fun i h => by omega
    have mS : ∀ (ea : Int32) (K : Int32 → RKt → Prop), (∃ n : Nat, wX10_isBook_47 (MK9 Mt len mk' fr' va' wh isS itS ea K) mk' va' n (upd (upd me0 1 1) 3 2) (nI 5) (nI 0) (nI 0) (fun _ => 0) (fun _ => 0) (fun _ => 0) (fun _ => 0) (fun _ => 0) (nI 0)) → MRD Mt len mk fr me va wh isS itS ea K := by
      intro ea K h
      refine mpre ea K ?_
      unfold wX10_isBook
      exact m_eat_y wf rm (p := 0) (by omega) 0 h0 (br_f (by decide) (m_as_y wf rm (p := 1) (by omega) 45 h1 (br_f (by decide) (m_eat_y wf rm (p := 2) (by omega) 1 h2 (br_f (by decide) (m_as_y wf rm (p := 3) (by omega) 45 h3 (br_f (by decide) (m_eat_y wf rm (p := 4) (by omega) 33 h4 (bn_f (by decide) h)))))))))
    have h1' : kN x 1 = 45 := h1
    have h3' : kN x 3 = 45 := h3
    have hz : ∀ i, 5 ≤ i → i ≤ nN x → upd (upd me0 1 1) 3 2 i = nI 0 := fun i a b => by rw [un (by omega), un (by omega)]; exact hm0 i b
    have sg : ∀ me' od' gd' gb' ge' go' gw' gm', (∀ i, i < 5 → me' i = upd (upd me0 1 1) 3 2 i) → ∀ (K : Int32 → RKt → Prop) tp sz ea, ((eSz x 0 eG).1 ≠ 0 → KE K (eSz x 0 eG)) → ((eSz x 0 eG).1 = 0 → P2 K tp sz ea mk' fr' me' va' (nN x) (nI 0) od' gd' gb' ge' go' gw' gm' (wh, isS, itS, nI (vN x 1), nI (vN x 3), 0, (fun _ => 0), (fun _ => 0), (fun _ => 0), 0, (fun _ => 0), (fun _ => 0), (fun _ => 0), (m1f (fun _ => 0)), (fun _ => 0), 0) 5) → P2 K tp sz ea mk' fr' me' va' (nN x) (nI 0) od' gd' gb' ge' go' gw' gm' (u00 wh isS itS) 0 := by
      intro me' od' gd' gb' ge' go' gw' gm' agr K tp sz ea a b
      exact seg_size (p := 0) wf rm (Nat.le_refl _) (by omega) h1 h3 (by rw [agr 0 (by omega), un (by omega), un (by omega)]; exact hm0 0 (by omega)) (show me' 1 = nI 1 from by rw [agr 1 (by omega), un (by omega), us]; rfl) (show me' 2 = nI 0 from by rw [agr 2 (by omega), un (by omega), un (by omega)]; exact hm0 2 (by omega)) (show me' 3 = nI 2 from by rw [agr 3 (by omega), us]; rfl) (show me' 4 = nI 0 from by rw [agr 4 (by omega), un (by omega), un (by omega)]; exact hm0 4 (by omega)) a b
    have hne : (eSz x 0 eG).1 ≠ 1 := ck_ne (by decide) (ck_ne (by decide) (by decide))
    have hpos : 0 ≤ (eSz x 0 eG).1 := ck_pos (by decide) (ck_pos (by decide) (by decide))
    by_cases z : (eSz x 0 eG).1 = 0
    · have a := ck_0 (by decide) z
      have b := ck_0 (by decide) a.1
      have ee : eSz x 0 eG = eG := by
        unfold eSz
        rw [a.2.2, b.2.2]
      have vb1 := b.2.1
      have vb3 := a.2.1
      rw [Bool.or_eq_false_iff] at vb1 vb3
      have n1 : 2 ≤ vN x 1 ∧ vN x 1 ≤ 8 := by
        have q1 := of_decide_eq_false vb1.1
        have q2 := of_decide_eq_false vb1.2
        have q1 : ¬ vN x 1 < 2 := q1
        have q2 : ¬ 8 < vN x 1 := q2
        omega
      have n3 : 2 ≤ vN x 3 ∧ vN x 3 ≤ 10 := by
        have q1 := of_decide_eq_false vb3.1
        have q2 := of_decide_eq_false vb3.2
        have q1 : ¬ vN x 3 < 2 := q1
        have q2 : ¬ 10 < vN x 3 := q2
        omega
      have rt1 : rT (tNewZ tZ (vN x 1) (vN x 3)) (nI (vN x 1)) (nI (vN x 3)) (nI 0) (nI 0) Co Cu De (m1f fi) (z0f sp) Fr To := rT_Z (rT_0 z1 z2) _ _
      refine top (x := x) (p := 5) (e := eSz x 0 eG) (t := tNewZ tZ (vN x 1) (vN x 3)) (c := (nI 0, nI 0, cn, Fr, To, Co, Cu, De, m1f fi, z0f sp, nI 0, nI 0, Ok, Se, Te, sK, sD)) (tk := fun _ => 0) (cn := cn) wf rm hpos (fun K h => cpre K ⟨fun y => absurd h0 y, fun _ => c_size_S (p := 0) (e := eG) (N := 4) (M := 6) wf rc (by omega) h0 h1 h2 h3 h4 (fun _ => h) (fun y => absurd z y)⟩) mS (fun me' od' gd' gb' ge' go' gw' gm' agr K tp sz ea => ⟨fun y => absurd z y, fun _ kk => sg me' od' gd' gb' ge' go' gw' gm' agr K tp sz ea (fun y => absurd z y) (fun _ => kk _ ⟨⟨rT_Z (rT_0 (show ∀ c, c < 80 → m1f (fun _ => 0) c = -1 from fun c h => m1f_in h) (fun _ _ => rfl)) _ _, rfl, fun i h => absurd h (Nat.not_lt_zero i)⟩, fun _ _ _ => rfl⟩)⟩) ?_
      exact book wf rc rm (nN x) 5 (by omega) (by omega) _ (tNewZ tZ (vN x 1) (vN x 3)) 0 0 0 0 0 _ _ _ _ _ _ _ _ _ _ _ _ _ _ _ _ _ _ _ _ _ ⟨hne, by omega, wfT_Z wfT_0 rfl n1 n3, rt1, by omega, by omega, by omega, by omega, hz, fun _ => gz _ _ _ ee rt1⟩
    · refine top (x := x) (p := 5) (e := eSz x 0 eG) (t := tZ) (c := (nI 0, nI 0, cn, Fr, To, Co, Cu, De, m1f fi, z0f sp, nI 0, nI 0, Ok, Se, Te, sK, sD)) (tk := fun _ => 0) (cn := cn) wf rm hpos (fun K h => cpre K ⟨fun y => absurd h0 y, fun _ => c_size_S (p := 0) (e := eG) (N := 4) (M := 6) wf rc (by omega) h0 h1 h2 h3 h4 (fun y => absurd y z) (fun _ => h)⟩) mS (fun me' od' gd' gb' ge' go' gw' gm' agr K tp sz ea => ⟨fun _ kk => sg me' od' gd' gb' ge' go' gw' gm' agr K tp sz ea (fun _ => kk) (fun y => absurd y z), fun y => absurd y z⟩) ?_
      exact book wf rc rm (nN x) 5 (by omega) (by omega) _ tZ 0 0 0 0 0 _ _ _ _ _ _ _ _ _ _ _ _ _ _ _ _ _ _ _ _ _ ⟨hne, by omega, wfT_0, rT_0 z1 z2, by omega, by omega, by omega, by omega, hz, fun y => absurd y z⟩
  · refine top (Ab := Ab) (Mt := Mt) (len := len) (wh := wh) (isS := isS) (itS := itS) (x := x) (p := 0) (e := eG) (t := tZ) (c := (nI 0, nI 0, cn, Fr, To, Co, Cu, De, m1f fi, z0f sp, nI 0, nI 0, Ok, Se, Te, sK, sD)) (tk := fun _ => 0) (cn := cn) wf rm (by decide) (fun K h => cpre K ⟨fun _ => h, fun y => absurd y h0⟩) (fun ea K h => mpre ea K ?_) (fun me' od' gd' gb' ge' go' gw' gm' agr K tp sz ea => ⟨fun y => absurd rfl y, fun _ kk => kk _ u00_rel⟩) (book wf rc rm (nN x) 0 (by omega) (by omega) eG tZ 0 0 0 0 0 _ _ _ _ _ _ _ _ _ _ _ _ _ _ _ _ _ _ _ _ _ ⟨by decide, by omega, wfT_0, rT_0 z1 z2, by omega, by omega, by omega, by omega, fun i _ b => hm0 i b, fun _ => gz _ _ _ rfl (rT_0 z1 z2)⟩)
    unfold wX10_isBook
    exact m_eat_n wf rm (p := 0) (by omega) 0 h0 (br_t rfl h)
end READ
