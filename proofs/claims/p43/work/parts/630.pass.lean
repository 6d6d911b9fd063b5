/-! PURE: the law's own sofa: the orders of a day. The budget: slides make the sum of squares smaller, a dig the sum of heights. -/
def hsS (h : Nat → Nat) : Nat := fb_sm h 8
def bgX (a : Sg) : Nat := 2 * muS1w a.2.1 + hsS a.2.1
theorem hs_up (h : Nat → Nat) {i v : Nat} (hi : i < 8) : hsS (va_up h i v) + h i = hsS h + v := fb_sm_upd h v hi
theorem hs_mv {a : Sg} {s o : Nat} (hs : s < 8) (ho : o < 8) (ne : o ≠ s) (q : a.2.1 s + 3 < a.2.1 o) : hsS (mv a o s).2.1 = hsS a.2.1 := by
  have h1 := hs_up (va_up a.2.1 o (a.2.1 o - 1)) (i := s) (v := a.2.1 s + 1) hs
  have h2 := hs_up a.2.1 (i := o) (v := a.2.1 o - 1) ho
  rw [va_up_ne _ _ (Ne.symm ne)] at h1
  show hsS (va_up (va_up a.2.1 o (a.2.1 o - 1)) s (a.2.1 s + 1)) = _
  omega
theorem stl_bg {sp pr : Nat → Bool} {n : Nat} (n8 : n ≤ 8) : ∀ (k : Nat) (a b : Sg), Stl sp pr n k a b → wfS n a → muS1w b.2.1 + k ≤ muS1w a.2.1 ∧ hsS b.2.1 = hsS a.2.1 := by
  intro k
  induction k with
  | zero =>
    intro a b h w
    rw [h.2]
    exact ⟨Nat.le_refl _, rfl⟩
  | succ k ih =>
    intro a b h w
    obtain ⟨s, o, hs, hp, e, h⟩ := h
    obtain ⟨c1, c2, c3⟩ := mv_ne w e
    obtain ⟨i1, i2⟩ := ih _ b h (wf_mv w hs c2 c1 c3)
    have m1 := mu_mv (a := a) (s := s) (o := o) (by omega) (by omega) c1 c3
    have m2 := hs_mv (a := a) (s := s) (o := o) (by omega) (by omega) c1 c3
    exact ⟨by omega, by omega⟩
theorem dg_bg {a : Sg} {s : Nat} (hs : s < 8) (h0 : 0 < a.2.1 s) : muS1w (dg1 a s).2.1 ≤ muS1w a.2.1 ∧ hsS (dg1 a s).2.1 + 1 = hsS a.2.1 := by
  refine ⟨?_, ?_⟩
  · show fb_sm (fun j => va_up a.2.1 s (a.2.1 s - 1) j * va_up a.2.1 s (a.2.1 s - 1) j) 8 ≤ fb_sm (fun j => a.2.1 j * a.2.1 j) 8
    refine fb_sm_le (fun k hk => ?_)
    have : va_up a.2.1 s (a.2.1 s - 1) k ≤ a.2.1 k := by
      by_cases z : k = s
      · subst z
        rw [va_up_self]
        omega
      · rw [va_up_ne _ _ z]
        exact Nat.le_refl _
    exact Nat.mul_le_mul this this
  · have h2 := hs_up a.2.1 (i := s) (v := a.2.1 s - 1) hs
    show hsS (va_up a.2.1 s (a.2.1 s - 1)) + 1 = _
    omega
theorem cry_bg {t : Tl} (wt : wfT t) {kd s : Nat} (hs : s < tN t) {x y : Gs} {dn : Bool} (w : wfX t x) (h : Cry t kd s x y dn) : bgX (gA1w y) ≤ bgX (gA1w x) := by
  have n8 := wt.1.2
  rcases h with ⟨-, h0, rfl, k, b, -, hst, rfl⟩ | ⟨-, -, -, rfl, rfl⟩ | ⟨-, -, rfl, k, b, -, hst, rfl⟩ | ⟨-, rfl, rfl⟩
  · have h1 := stl_bg n8 k _ b hst (wfG_dg wt w hs h0).1
    have h2 := dg_bg (a := gA1w x) (s := s) (by omega) h0
    show 2 * muS1w b.2.1 + hsS b.2.1 ≤ 2 * muS1w (gA1w x).2.1 + hsS (gA1w x).2.1
    omega
  · exact Nat.le_refl _
  · have h1 := stl_bg n8 k _ b hst w.1
    show 2 * muS1w b.2.1 + hsS b.2.1 ≤ 2 * muS1w (gA1w x).2.1 + hsS (gA1w x).2.1
    omega
  · exact Nat.le_refl _
theorem ord_bg {t : Tl} (wt : wfT t) {p : Pn} {o : Nat} {x y : Gs} {dn : Bool} (w : wfX t x) (h : Ord t p o x y dn) : bgX (gA1w y) ≤ bgX (gA1w x) := by
  rcases h with ⟨-, rfl, rfl⟩ | ⟨-, s, hs, -, h⟩
  · exact Nat.le_refl _
  · exact cry_bg wt hs w h
theorem ords_bg {t : Tl} (wt : wfT t) {p : Pn} : ∀ (n o : Nat) (x y : Gs), wfX t x → Ords t p n o x y → bgX (gA1w y) ≤ bgX (gA1w x) := by
  intro n
  induction n with
  | zero =>
    intro o x y w h
    have h : y = x := h
    rw [h]
    exact Nat.le_refl _
  | succ n ih =>
    intro o x y w h
    obtain ⟨z, dn, h1, h2⟩ := h
    exact Nat.le_trans (ih _ z y (ord_wf wt h1 w) h2) (ord_bg wt w h1)
theorem days_bg {t : Tl} (wt : wfT t) {p : Pn} : ∀ (n : Nat) (x y : Gs), wfX t x → Days t p n x y → bgX (gA1w y) ≤ bgX (gA1w x) := by
  intro n
  induction n with
  | zero =>
    intro x y w h
    have h : y = x := h
    rw [h]
    exact Nat.le_refl _
  | succ n ih =>
    intro x y w h
    obtain ⟨z, h1, h2⟩ := h
    have wz := ords_wf wt _ _ _ _ h1 w
    have h3 := ords_bg wt (pO p) 0 x z w h1
    exact Nat.le_trans (ih (dayX z) y wz h2) h3
/-- the types of a tree's steps -/
theorem pf_pos {e d : Nat} {b : Bool} {x : Tr d} (h : trW e d b x) : 0 < (pf d x).length := by
  cases d with
  | zero => exact h.elim
  | succ d =>
    rcases arK3 (cK (trQ x)) with z | z | z
    · rw [pf, z]
      exact Nat.zero_lt_succ _
    · rw [pf, z]
      show 0 < (pf d (trL x) ++ [(cK (trQ x), 0)]).length
      rw [List.length_append]
      exact Nat.lt_of_lt_of_le (Nat.zero_lt_succ 0) (Nat.le_add_left _ _)
    · rw [pf, z]
      show 0 < (pf d (trL x) ++ (pf d (trR x) ++ [(cK (trQ x), 0)])).length
      rw [List.length_append, List.length_append]
      show 0 < _ + (_ + 1)
      omega
theorem tyR_app {ks : Nat → Nat} : ∀ (n m i : Nat) (bs bs' : List Bool), tyR ks n i bs = some bs' → tyR ks (n + m) i bs = tyR ks m (i + n) bs' := by
  intro n
  induction n with
  | zero =>
    intro m i bs bs' h
    have h : bs = bs' := Option.some.inj h
    rw [h, Nat.zero_add]
    rfl
  | succ n ih =>
    intro m i bs bs' h
    obtain ⟨b1, h1, h2⟩ := tyR_succ h
    have := ih m (i + 1) b1 bs' h2
    rw [show n + 1 + m = (n + m) + 1 by omega, show i + (n + 1) = i + 1 + n by omega, ← this]
    show (match tyS (ks i) bs with | none => none | some bs' => tyR ks (n + m) (i + 1) bs') = _
    rw [h1]
theorem tyR_1 {ks : Nat → Nat} {i : Nat} {bs : List Bool} : tyR ks 1 i bs = tyS (ks i) bs := by
  show (match tyS (ks i) bs with | none => none | some bs' => some bs') = _
  cases tyS (ks i) bs <;> rfl
/-- the laws' steps: what a kind takes and gives -/
theorem k_ty {b : Bool} {k : Nat} (h : if b = true then (20 ≤ k ∧ k ≤ 31 ∧ k ≠ 27 ∧ k ≠ 28) else k ≤ 14) (r : List Bool) : (arK (cK k) = 0 → tyS (cK k) r = some (b :: r)) ∧ (arK (cK k) = 1 → tyS (cK k) (decide (29 ≤ k) :: r) = some (b :: r)) ∧ (arK (cK k) = 2 → tyS (cK k) (decide (29 ≤ k) :: decide (29 ≤ k) :: r) = some (b :: r)) := by
  cases b
  · rw [if_neg (by decide)] at h
    rcases k_sums h with e | e | e | e | e | e | e | e | e | e | e | e | e | e | e <;> subst e <;> exact ⟨fun z => by first | rfl | exact absurd z (by decide), fun z => by first | rfl | exact absurd z (by decide), fun z => by first | rfl | exact absurd z (by decide)⟩
  · rw [if_pos rfl] at h
    rcases k_tests h with e | e | e | e | e | e | e | e | e | e <;> subst e <;> exact ⟨fun z => by first | rfl | exact absurd z (by decide), fun z => by first | rfl | exact absurd z (by decide), fun z => by first | rfl | exact absurd z (by decide)⟩
theorem ty_pf {e : Nat} {ks : Nat → Nat} {ds : Nat → Int32} : ∀ (d : Nat) (b : Bool) (x : Tr d) (s : Nat) (bs : List Bool), trW e d b x → cdAt ks ds s (pf d x) → tyR ks (pf d x).length s bs = some (b :: bs) := by
  intro d
  induction d with
  | zero => intro b x s bs h; exact h.elim
  | succ d ih =>
    intro b x s bs hw hc
    obtain ⟨w1, -, -, w4, w5⟩ := hw
    have T := k_ty w1
    rcases k_ar w1 with ⟨h, -⟩ | ⟨h, hA, -⟩ | ⟨h, hB⟩
    · have ep : pf (d + 1) x = [(cK (trQ x), dtl (cK (trQ x)) (nI (trN x)))] := by
        rw [pf, h]
        rfl
      rw [ep] at hc ⊢
      obtain ⟨c1, -⟩ := hc 0 (by simp)
      show tyR ks 1 s bs = _
      rw [tyR_1, show ks s = cK (trQ x) from c1]
      exact (T bs).1 h
    · have ep : pf (d + 1) x = pf d (trL x) ++ [(cK (trQ x), 0)] := by
        rw [pf, h]
        rfl
      rw [ep] at hc ⊢
      obtain ⟨ca, cb⟩ := cd_app hc
      obtain ⟨c1, -⟩ := cb 0 (by simp)
      rw [List.length_append, tyR_app _ _ _ _ _ (ih _ (trL x) s bs (w4 hA) ca)]
      show tyR ks 1 _ _ = _
      rw [tyR_1, show ks (s + (pf d (trL x)).length) = cK (trQ x) from c1]
      exact (T bs).2.1 h
    · have ep : pf (d + 1) x = pf d (trL x) ++ (pf d (trR x) ++ [(cK (trQ x), 0)]) := by
        rw [pf, h]
        rfl
      rw [ep] at hc ⊢
      obtain ⟨ca, cb⟩ := cd_app hc
      obtain ⟨cc, ce⟩ := cd_app cb
      obtain ⟨c1, -⟩ := ce 0 (by simp)
      rw [List.length_append, tyR_app _ _ _ _ _ (ih _ (trL x) s bs (w4 (knB_A hB)) ca), List.length_append, tyR_app _ _ _ _ _ (ih _ (trR x) _ _ (w5 hB) cc)]
      show tyR ks 1 _ _ = _
      rw [tyR_1, show ks (s + (pf d (trL x)).length + (pf d (trR x)).length) = cK (trQ x) from c1]
      exact (T bs).2.2 h
/-- the orders: how many, their kinds, sums, tests -/
abbrev Od : Type := Nat × (Nat → Nat) × (Nat → Tr 2) × (Nat → Option (Tr 4))
def odA (Z : gZ) (H : gH) (ad : Nat → Nat) (o : Od) : Prop :=
  (∃ f, hpG H (ad 5) = some (iE (zY Z 1) o.1 f) ∧ ∀ i, i < o.1 → f i = nI (o.2.1 i)) ∧
  (∃ f, hpG H (ad 6) = some (qE (zY Z 6) o.1 f) ∧ ∀ i, i < o.1 → ∃ q, f i = some q ∧ trA (fun _ => True) H 2 q (o.2.2.1 i)) ∧
  (∃ f, hpG H (ad 7) = some (qE (zY Z 6) o.1 f) ∧ ∀ i, i < o.1 → (o.2.2.2 i = none → f i = none) ∧ ∀ x, o.2.2.2 i = some x → ∃ q, f i = some q ∧ trA (fun _ => True) H 4 q x)
def odW (e : Nat) (o : Od) : Prop := o.1 ≤ 4 ∧ ∀ i, i < o.1 → o.2.1 i ≤ 2 ∧ trW e 2 false (o.2.2.1 i) ∧ ∀ x, o.2.2.2 i = some x → trW e 4 true x
def odP (p : Pn) (o : Od) : Prop := pO p = o.1 ∧ ∀ i, i < o.1 → pKd p i = 11 + o.2.1 i ∧ (cdAt (pK p) (pD p) (be0 p i) (pf 2 (o.2.2.1 i)) ∧ pE1 p i = be0 p i + (pf 2 (o.2.2.1 i)).length) ∧ (o.2.2.2 i = none → pE2 p i = pE1 p i) ∧ ∀ x, o.2.2.2 i = some x → cdAt (pK p) (pD p) (pE1 p i) (pf 4 x) ∧ pE2 p i = pE1 p i + (pf 4 x).length
theorem odP_wf {e : Nat} {p : Pn} {o : Od} (w : odW e o) (h : odP p o) (hS : pS p ≤ 400) (hE : ∀ i, i < pO p → pE2 p i ≤ pS p) : wfP p := by
  obtain ⟨w1, w2⟩ := w
  obtain ⟨h1, h2⟩ := h
  refine ⟨by omega, hS, fun i hi => ?_⟩
  rw [h1] at hi
  obtain ⟨a1, a2, a3⟩ := w2 i hi
  obtain ⟨b1, ⟨b2, b3⟩, b4, b5⟩ := h2 i hi
  have e2 := hE i (by omega)
  refine ⟨by rw [b1]; omega, ⟨by omega, ?_, e2⟩, ?_, ?_⟩
  · cases z : o.2.2.2 i with
    | none => rw [b4 z]; exact Nat.le_refl _
    | some x => have := (b5 x z).2; omega
  · rw [b3, Nat.add_sub_cancel_left]
    exact ty_pf 2 false _ _ [] a2 b2
  · cases z : o.2.2.2 i with
    | none => exact Or.inl (b4 z).symm
    | some x =>
      obtain ⟨c1, c2⟩ := b5 x z
      right
      rw [c2, Nat.add_sub_cancel_left]
      exact ty_pf 4 true x _ [] (a3 x z) c1
abbrev SimG (Z : gZ) (H : gH) (ad : Nat → Nat) (t : Tl) (x : Gs) : Prop := SimAt Z H ad t (gA1w x) (gP x) (gF1w x) (gDy x) (gCa x) (gDu x) (gSl x)
section PASS
variable {Z : gZ} {H : gH} {ad : Nat → Nat} {t : Tl} {p : Pn} {o : Od} {x y z : Gs}
theorem smX_no {a : Sg} {pr : Nat → Bool} {fa : Nat → Nat} {dy ca du sl : Int32} (S : SimAt Z H ad t a pr fa dy ca du sl) {j : Nat} (h5 : 5 ≤ j) (h7 : j ≤ 7) : ¬ smX t ad (ad j) := by
  have hI := S.2.2.2.2.2.2.2.2.2.1.1
  have uj : uA t j := uA_7 h7
  rintro (h | h | h | ⟨c, h1, h⟩ | ⟨f, h1, h⟩)
  · have := hI j 0 uj (uA_7 (by omega)) h; omega
  · have := hI j 1 uj (uA_7 (by omega)) h; omega
  · have := hI j 4 uj (uA_7 (by omega)) h; omega
  · have := hI j _ uj (uA_c h1) h; omega
  · have := hI j _ uj (uA_f h1) h; omega
theorem odA.fr (h : odA Z H ad o) (S : SimG Z H ad t x) {H' : gH} {ad' : Nat → Nat} (hF : Fr (smX t ad) H H') (ea : ∀ i, i < 10 ∨ 20 ≤ i → ad' i = ad i) : odA Z H' ad' o := by
  have K9 := smX_k9 S hF
  obtain ⟨⟨f5, a1, a2⟩, ⟨f6, b1, b2⟩, ⟨f7, c1, c2⟩⟩ := h
  refine ⟨⟨f5, by rw [ea 5 (by omega)]; exact hF _ _ a1 (smX_no S (by omega) (by omega)), a2⟩, ⟨f6, by rw [ea 6 (by omega)]; exact hF _ _ b1 (smX_no S (by omega) (by omega)), fun i hi => ?_⟩, ⟨f7, by rw [ea 7 (by omega)]; exact hF _ _ c1 (smX_no S (by omega) (by omega)), fun i hi => ⟨(c2 i hi).1, fun x hx => ?_⟩⟩⟩
  · obtain ⟨q, e1, e2⟩ := b2 i hi
    exact ⟨q, e1, e2.k9 K9⟩
  · obtain ⟨q, e1, e2⟩ := (c2 i hi).2 x hx
    exact ⟨q, e1, e2.k9 K9⟩
theorem trA_9 {N : Nat → Prop} {d q : Nat} {x : Tr d} (h : trA N H d q x) : ∃ fs, hpG H q = some (.inr (9, fs)) := by
  cases d with
  | zero => exact h.elim
  | succ d => obtain ⟨-, va, vb, h, -⟩ := h; exact ⟨_, h⟩
/-- behind the deed -/
theorem ps_185 {K : Int32 → gH → Prop} {KL : gH → Nat → Nat → Nat → Int32 → Int32 → Prop} {bc bs i : Nat} {x1 : Int32} (wo : odW (tE t) o) (hi : i < o.1) (A : odA Z H ad o) (S : SimG Z H ad t x) (h2 : ¬ o.2.1 i = 2) (k : KL H bc bs (ad 0) x1 (nI (i + 1))) : wX9_pass_185 K KL Z H bc bs (ad 0) x1 (nI i) := by
  obtain ⟨f5, a1, a2⟩ := A.1
  have w4 := wo.1
  have e := a2 i hi
  have := (wo.2 i hi).1
  unfold wX9_pass_185
  refine ⟨_, gF_of S.1 rfl, _, f5, a1, vp_in_nI hi (by omega), ?_⟩
  rw [nI_clamp (by omega), e]
  refine bn_f (fun y => h2 ((nI_eq (by omega) (by decide)).mp (show nI (o.2.1 i) = nI 2 from y))) ?_
  unfold wX9_pass_200
  rw [nI_1]
  exact k
theorem ps_126 {K : Int32 → gH → Prop} {KL : gH → Nat → Nat → Nat → Int32 → Int32 → Prop} {bc bs i s : Nat} {x1 : Int32} {dn : Bool} (wt : wfT t) (wx : wfX t x) (wo : odW (tE t) o) (hi : i < o.1) (hs : s < tN t) (hc : Cry t (11 + o.2.1 i) s x z dn) (A : odA Z H ad o) (S : SimG Z H ad t x) (hbc : bgX (gA1w x) ≤ bc + bgX (gA1w z)) (hbs : 10 * bgX (gA1w x) ≤ bs + 10 * bgX (gA1w z))
    (k : ∀ H' ad' bc' bs', SimG Z H' ad' t z → odA Z H' ad' o → Fr (smX t ad) H H' → (∀ i, i < 10 ∨ 20 ≤ i → ad' i = ad i) → bc + bgX (gA1w z) ≤ bc' + bgX (gA1w x) → bs + 10 * bgX (gA1w z) ≤ bs' + 10 * bgX (gA1w x) → KL H' bc' bs' (ad 0) x1 (nI (i + 1))) : wX9_pass_126 K KL Z H bc bs (ad 0) x1 (nI i) (nI s) (zB1w dn) := by
  obtain ⟨f5, a1, a2⟩ := A.1
  have w4 := wo.1
  have n8 := wt.1.2
  have e5 := a2 i hi
  have k2 := (wo.2 i hi).1
  have ei : (nI i).toNatClampNeg = i := nI_clamp (by omega)
  have es : (nI s).toNatClampNeg = s := nI_clamp (by omega)
  have sh : ∀ {b : Sg} {j : Nat} {pr : Nat → Bool} {a : Sg}, Stl (tSp t) pr (tN t) j a b → wfS (tN t) a → 2 * muS1w b.2.1 + hsS b.2.1 + 2 * j ≤ 2 * muS1w a.2.1 + hsS a.2.1 := fun h w => by
    have := stl_bg n8 _ _ _ h w
    omega
  unfold wX9_pass_126
  -- the deed is done: the count, then by its kind
  have S1 : SimAt Z (hpS H (ad 0) (.inr (8, (smV ad t (gDy x) (gCa x) (gDu x) (gSl x)).set 9 (.int (gCa x + 1))))) ad t (gA1w x) (gP x) (gF1w x) (gDy x) (gCa x + 1) (gDu x) (gSl x) := sm_set0 _ _ _ _ S
  have F1 : Fr (smX t ad) H (hpS H (ad 0) (.inr (8, (smV ad t (gDy x) (gCa x) (gDu x) (gSl x)).set 9 (.int (gCa x + 1))))) := fr_set0
  have A1 := A.fr S F1 (fun _ _ => rfl)
  rcases hc with ⟨hk, h0, rfl, j, b, -, hst, rfl⟩ | ⟨hk, hp, hq, rfl, rfl⟩ | ⟨hk, hp, rfl, j, b, -, hst, rfl⟩ | ⟨-, rfl, rfl⟩
  · refine bn_f (by decide) ⟨_, gF_of S.1 rfl, _, S.1, by simp, ?_⟩
    generalize hpS H (ad 0) (.inr (8, (smV ad t (gDy x) (gCa x) (gDu x) (gSl x)).set 9 (.int (gCa x + 1)))) = H1 at S1 F1 A1 ⊢
    obtain ⟨g5, c1, c2⟩ := A1.1
    have q1 := sh hst (wfG_dg wt wx hs h0).1
    have q2 := dg_bg (a := gA1w x) (s := s) (by omega) h0
    have eb : bgX (gA1w x) = 2 * muS1w (gA1w x).2.1 + hsS (gA1w x).2.1 := rfl
    have ez : bgX (gA1w (b, gP x, dgF t (gA1w x) (gF1w x) s, gDy x, gCa x + 1, gDu x + 1, gSl x + nI j)) = 2 * muS1w b.2.1 + hsS b.2.1 := rfl
    refine ⟨_, gF_of S1.1 rfl, _, g5, c1, vp_in_nI hi (by omega), bn_t (by rw [ei, c2 i hi]; show nI (o.2.1 i) = nI 0; congr 1; omega) ⟨⟨_, S1.1⟩, 1 + 2 * j, 10 + 20 * j, by omega, by omega, ?_⟩⟩
    refine sm_dig S1 wt wx hs h0 hst (by omega) (by omega) (fun H' ad' S' F' ea => ?_)
    have A' := A1.fr (x := (gA1w x, gP x, gF1w x, gDy x, gCa x + 1, gDu x, gSl x)) S1 F' ea
    rw [← ea 0 (by omega)]
    refine ps_185 (x := (b, gP x, dgF t (gA1w x) (gF1w x) s, gDy x, gCa x + 1, gDu x + 1, gSl x + nI j)) wo hi A' S' (by omega) ?_
    rw [ea 0 (by omega)]
    exact k H' ad' _ _ S' A' (F1.trans F') ea (by omega) (by omega)
  · refine bn_f (by decide) ⟨_, gF_of S.1 rfl, _, S.1, by simp, ?_⟩
    generalize hpS H (ad 0) (.inr (8, (smV ad t (gDy x) (gCa x) (gDu x) (gSl x)).set 9 (.int (gCa x + 1)))) = H1 at S1 F1 A1 ⊢
    obtain ⟨g5, c1, c2⟩ := A1.1
    obtain ⟨g, p1, p2⟩ := S1.2.2.2.2.2.2.2.2.1
    have S2 := sm_setP S1 (v := s) (x := true) p1
    have F2 : Fr (smX t ad) H1 (hpS H1 (ad 4) (iE (zY Z 3) (tN t) (upd g s (zB1w true)))) := Fr.s (Or.inr (Or.inr (Or.inl rfl)))
    have A2 := A1.fr (x := (gA1w x, gP x, gF1w x, gDy x, gCa x + 1, gDu x, gSl x)) S1 F2 (fun _ _ => rfl)
    refine ⟨_, gF_of S1.1 rfl, _, g5, c1, vp_in_nI hi (by omega), bn_f (by rw [ei, c2 i hi]; exact fun y => by have := (nI_eq (by omega) (by decide)).mp (show nI (o.2.1 i) = nI 0 from y); omega) ⟨_, gF_of S1.1 rfl, _, gF_of S1.1 rfl, _, g5, c1, vp_in_nI hi (by omega), bn_t (by rw [ei, c2 i hi]; show nI (o.2.1 i) = nI 1; congr 1; omega) ?_⟩⟩
    unfold wX9_pass_184
    refine ⟨_, g, p1, vp_in_nI hs (by omega), ?_⟩
    rw [es, show vp_nar .boolean 1 = zB1w true from nar_zB true]
    refine ps_185 (x := (gA1w x, va_up (gP x) s true, gF1w x, gDy x, gCa x + 1, gDu x, gSl x)) wo hi A2 S2 (by omega) ?_
    exact k _ ad _ _ S2 A2 (F1.trans F2) (fun _ _ => rfl) (Nat.le_refl _) (Nat.le_refl _)
  · refine bn_f (by decide) ⟨_, gF_of S.1 rfl, _, S.1, by simp, ?_⟩
    generalize hpS H (ad 0) (.inr (8, (smV ad t (gDy x) (gCa x) (gDu x) (gSl x)).set 9 (.int (gCa x + 1)))) = H1 at S1 F1 A1 ⊢
    obtain ⟨g5, c1, c2⟩ := A1.1
    obtain ⟨g, p1, p2⟩ := S1.2.2.2.2.2.2.2.2.1
    have S2 := sm_setP S1 (v := s) (x := false) p1
    have F2 : Fr (smX t ad) H1 (hpS H1 (ad 4) (iE (zY Z 3) (tN t) (upd g s (zB1w false)))) := Fr.s (Or.inr (Or.inr (Or.inl rfl)))
    have A2 := A1.fr (x := (gA1w x, gP x, gF1w x, gDy x, gCa x + 1, gDu x, gSl x)) S1 F2 (fun _ _ => rfl)
    have q1 := sh hst wx.1
    have eb : bgX (gA1w x) = 2 * muS1w (gA1w x).2.1 + hsS (gA1w x).2.1 := rfl
    have ez : bgX (gA1w (b, va_up (gP x) s false, gF1w x, gDy x, gCa x + 1, gDu x, gSl x + nI j)) = 2 * muS1w b.2.1 + hsS b.2.1 := rfl
    refine ⟨_, gF_of S1.1 rfl, _, g5, c1, vp_in_nI hi (by omega), bn_f (by rw [ei, c2 i hi]; exact fun y => by have := (nI_eq (by omega) (by decide)).mp (show nI (o.2.1 i) = nI 0 from y); omega) ⟨_, gF_of S1.1 rfl, _, gF_of S1.1 rfl, _, g5, c1, vp_in_nI hi (by omega), bn_f (by rw [ei, c2 i hi]; exact fun y => by have := (nI_eq (by omega) (by decide)).mp (show nI (o.2.1 i) = nI 1 from y); omega) ?_⟩⟩
    unfold wX9_pass_184
    refine ⟨_, g, p1, vp_in_nI hs (by omega), ?_⟩
    rw [es, show vp_nar .boolean 0 = zB1w false from nar_zB false]
    generalize hpS H1 (ad 4) (iE (zY Z 3) (tN t) (upd g s (zB1w false))) = H2 at S2 F2 A2 ⊢
    obtain ⟨g6, d1, d2⟩ := A2.1
    unfold wX9_pass_185
    refine ⟨_, gF_of S2.1 rfl, _, g6, d1, vp_in_nI hi (by omega), bn_t (by rw [ei, d2 i hi]; show nI (o.2.1 i) = nI 2; congr 1; omega) ⟨⟨_, S2.1⟩, 2 * j, 20 * j, by omega, by omega, ?_⟩⟩
    refine sm_settle_ex wt hst wx.1 S2 (Nat.le_refl _) (Nat.le_refl _) (fun H' ad' S' F' ea => ?_)
    have A' := A2.fr (x := (gA1w x, va_up (gP x) s false, gF1w x, gDy x, gCa x + 1, gDu x, gSl x)) S2 F' ea
    unfold wX9_pass_200
    rw [nI_1]
    exact k H' ad' _ _ S' A' ((F1.trans F2).trans F') ea (by omega) (by omega)
  · refine bn_t rfl ?_
    unfold wX9_pass_200
    rw [nI_1]
    exact k H ad _ _ S A Fr.refl (fun _ _ => rfl) (Nat.le_refl _) (Nat.le_refl _)
/-- whether it can be done -/
def canB (t : Tl) (k s : Nat) (x : Gs) : Bool := if k = 0 then decide (0 < (gA1w x).2.1 s) else if k = 1 then !gP x s && decide (fb_ct (gP x) 8 < 3) else gP x s
theorem cry_can {k s : Nat} (hk : k ≤ 2) {dn : Bool} (h : Cry t (11 + k) s x z dn) : dn = canB t k s x := by
  unfold canB
  rcases h with ⟨h1, h0, rfl, -⟩ | ⟨h1, hp, hq, rfl, -⟩ | ⟨h1, hp, rfl, -⟩ | ⟨h1, rfl, -⟩
  · rw [if_pos (by omega), decide_eq_true h0]
  · rw [if_neg (by omega), if_pos (by omega), hp, decide_eq_true hq]
    rfl
  · rw [if_neg (by omega), if_neg (by omega), hp]
  · rcases h1 with ⟨a, b⟩ | ⟨a, b⟩ | ⟨a, b⟩
    · rw [if_pos (by omega), b]
      rfl
    · rw [if_neg (by omega), if_pos (by omega)]
      cases c : gP x s
      · rw [decide_eq_false (fun w => b ⟨c, w⟩)]
        rfl
      · rfl
    · rw [if_neg (by omega), if_neg (by omega), b]
theorem ps_43 {K : Int32 → gH → Prop} {KL : gH → Nat → Nat → Nat → Int32 → Int32 → Prop} {bc bs i s : Nat} {x1 : Int32} {dn : Bool} (wt : wfT t) (wx : wfX t x) (wo : odW (tE t) o) (hi : i < o.1) (hs : s < tN t) (hv : fmV (evT t (gA1w x) (gP x) (gF1w x) (gDy x) (gSl x) 2 (o.2.2.1 i)) (nI (tN t)) = nI s) (hc : Cry t (11 + o.2.1 i) s x z dn) (A : odA Z H ad o) (S : SimG Z H ad t x) (hbc : bgX (gA1w x) ≤ bc + bgX (gA1w z)) (hbs : 10 * bgX (gA1w x) ≤ bs + 10 * bgX (gA1w z))
    (k : ∀ H' ad' bc' bs', SimG Z H' ad' t z → odA Z H' ad' o → Fr (smX t ad) H H' → (∀ i, i < 10 ∨ 20 ≤ i → ad' i = ad i) → bc + bgX (gA1w z) ≤ bc' + bgX (gA1w x) → bs + 10 * bgX (gA1w z) ≤ bs' + 10 * bgX (gA1w x) → KL H' bc' bs' (ad 0) x1 (nI (i + 1))) : wX9_pass_43 K KL Z H bc bs (ad 0) x1 (nI i) := by
  obtain ⟨f5, a1, a2⟩ := A.1
  obtain ⟨f6, b1, b2⟩ := A.2.1
  obtain ⟨q, b3, b4⟩ := b2 i hi
  have w4 := wo.1
  have n8 := wt.1.2
  have e5 := a2 i hi
  obtain ⟨k2, wS, -⟩ := wo.2 i hi
  have ei : (nI i).toNatClampNeg = i := nI_clamp (by omega)
  have es : (nI s).toNatClampNeg = s := nI_clamp (by omega)
  have is := vp_in_nI hs (show tN t < 2 ^ 31 by omega)
  have ii := vp_in_nI hi (show o.1 < 2 ^ 31 by omega)
  have nk : ∀ j : Nat, j < 10 → (f5 i = nI j ↔ o.2.1 i = j) := fun j hj => by rw [e5]; exact nI_eq (by omega) (by omega)
  have dd := cry_can k2 hc
  have P := ps_126 (K := K) (KL := KL) (x1 := x1) wt wx wo hi hs hc A S hbc hbs k
  unfold wX9_pass_43
  refine ⟨_, gF_of S.1 rfl, _, f6, q, b1, ii, by rw [ei]; exact b3, trA_9 b4, 2, by decide, ?_⟩
  refine hz_of S wt wx 2 false q _ _ b4 wS ⟨⟨_, S.1⟩, ?_⟩
  refine sm_seat S wt _ ?_
  rw [hv]
  refine ⟨_, gF_of S.1 rfl, _, f5, a1, ii, ?_⟩
  rw [ei, es]
  by_cases z0 : o.2.1 i = 0
  · refine bn_t ((nk 0 (by decide)).mpr z0) ?_
    obtain ⟨f, h1, hf⟩ := S.2.1
    obtain ⟨r, r1, -⟩ := S.2.2.1 s hs
    have h10 := wx.1.1 s
    refine ⟨_, gF_of S.1 rfl, _, f, _, h1, is, hf s hs, _, r, r1, ?_⟩
    have ed : dn = decide (0 < (gA1w x).2.1 s) := by rw [dd]; unfold canB; rw [if_pos z0]
    by_cases z1 : 0 < (gA1w x).2.1 s
    · rw [ed, decide_eq_true z1] at P
      exact br_f (no_le 0 z1 (by omega)) P
    · rw [ed, decide_eq_false z1] at P
      exact br_t (nI_le (b := (gA1w x).2.1 s) (a := 0) (by omega) (by omega) |> fun h => by rw [show (gA1w x).2.1 s = 0 by omega]; decide) P
  · refine bn_f (fun y => z0 ((nk 0 (by decide)).mp y)) ⟨_, gF_of S.1 rfl, _, f5, a1, ii, ?_⟩
    obtain ⟨g, p1, p2⟩ := S.2.2.2.2.2.2.2.2.1
    by_cases z1 : o.2.1 i = 1
    · have ed : dn = (!gP x s && decide (fb_ct (gP x) 8 < 3)) := by rw [dd]; unfold canB; rw [if_neg z0, if_pos z1]
      refine bn_t ((nk 1 (by decide)).mpr z1) ⟨_, gF_of S.1 rfl, _, g, p1, is, ?_⟩
      rw [p2 s hs]
      cases c : gP x s
      · refine bn_t rfl ⟨⟨_, S.1⟩, sm_props S n8 ?_⟩
        have e8 : fb_ct (gP x) (tN t) = fb_ct (gP x) 8 := (ct_cut n8 (fun j hj => wx.2.2.2.2.1 j hj)).symm
        have le8 := fb_ct_le (gP x) 8
        rw [e8]
        rw [c] at ed
        by_cases z3 : fb_ct (gP x) 8 < 3
        · rw [ed, decide_eq_true z3] at P
          exact br_f (nI_ge z3 (by decide)) P
        · rw [ed, decide_eq_false z3] at P
          unfold wX9_pass_116
          exact br_t (nI_le (a := 3) (by omega) (by omega)) P
      · rw [c] at ed
        rw [ed] at P
        unfold wX9_pass_116
        exact bn_f (by decide) P
    · have ed : dn = gP x s := by rw [dd]; unfold canB; rw [if_neg z0, if_neg z1]
      refine bn_f (fun y => z1 ((nk 1 (by decide)).mp y)) ⟨_, gF_of S.1 rfl, _, g, p1, is, ?_⟩
      rw [p2 s hs, ← ed]
      exact P
theorem sm_pass_lp {K : Int32 → gH → Prop} {x1 : Int32} (wt : wfT t) (wo : odW (tE t) o) (hp : odP p o) : ∀ (n i : Nat) (x : Gs) (H : gH) (ad : Nat → Nat) (bc bs : Nat), i + n = o.1 → Ords t p n i x y → wfX t x → SimG Z H ad t x → odA Z H ad o → bgX (gA1w x) ≤ bc + bgX (gA1w y) → 10 * bgX (gA1w x) ≤ bs + 10 * bgX (gA1w y) →
    (∀ H' ad', SimG Z H' ad' t (dayX y) → odA Z H' ad' o → Fr (smX t ad) H H' → (∀ i, i < 10 ∨ 20 ≤ i → ad' i = ad i) → K (fcX y - x1) H') → wX9_pass_8 K Z (n + 1) H bc bs (ad 0) x1 (nI i) := by
  have w4 := wo.1
  have n8 := wt.1.2
  have n24 := wt.2.2.2.1
  intro n
  induction n with
  | zero =>
    intro i x H ad bc bs hi h w S A _ _ k
    have h : y = x := h
    subst h
    obtain ⟨f5, a1, a2⟩ := A.1
    have S1 : SimAt Z (hpS H (ad 0) (.inr (8, (smV ad t (gDy y) (gCa y) (gDu y) (gSl y)).set 8 (.int (gDy y + 1))))) ad t (gA1w y) (gP y) (gF1w y) (gDy y + 1) (gCa y) (gDu y) (gSl y) := sm_set0 _ _ _ _ S
    have F1 : Fr (smX t ad) H (hpS H (ad 0) (.inr (8, (smV ad t (gDy y) (gCa y) (gDu y) (gSl y)).set 8 (.int (gDy y + 1))))) := fr_set0
    have A1 := A.fr S F1 (fun _ _ => rfl)
    refine ⟨_, gF_of S.1 rfl, _, f5, a1, br_t (nI_le (by omega) (by omega)) ⟨_, gF_of S.1 rfl, _, S.1, by simp, ⟨_, S1.1⟩, ?_⟩⟩
    refine sm_found (l := 1) S1 n24 w.2.2.2.2.2.2 (by decide) ?_
    have e24 : fb_ct (fun f => decide (1 ≤ gF1w y f)) (tF t) = fb_ct (fun f => decide (1 ≤ gF1w y f)) 24 := (ct_cut n24 (fun j hj => by rw [w.2.2.2.2.2.1 j hj]; rfl)).symm
    rw [e24]
    exact k _ ad S1 A1 F1 (fun _ _ => rfl)
  | succ n ih =>
    intro i x H ad bc bs hi h w S A hbc hbs k
    obtain ⟨z, dn, h1, h2⟩ := h
    have wz := ord_wf wt h1 w
    have gyz := ords_bg wt _ _ _ _ wz h2
    have gzx := ord_bg wt w h1
    have hio : i < o.1 := by omega
    obtain ⟨k2, wS, wT⟩ := wo.2 i hio
    obtain ⟨p1, ⟨p2, p3⟩, p4, p5⟩ := hp.2 i hio
    obtain ⟨f5, a1, a2⟩ := A.1
    obtain ⟨f7, c1, c2⟩ := A.2.2
    have ei : (nI i).toNatClampNeg = i := nI_clamp (by omega)
    have ii := vp_in_nI hio (show o.1 < 2 ^ 31 by omega)
    have on : ∀ (H' : gH) (ad' : Nat → Nat) (bc' bs' : Nat), SimG Z H' ad' t z → odA Z H' ad' o → Fr (smX t ad) H H' → (∀ i, i < 10 ∨ 20 ≤ i → ad' i = ad i) → bc + bgX (gA1w z) ≤ bc' + bgX (gA1w x) → bs + 10 * bgX (gA1w z) ≤ bs' + 10 * bgX (gA1w x) → wX9_pass_8 K Z (n + 1) H' bc' bs' (ad 0) x1 (nI (i + 1)) := fun H' ad' bc' bs' S' A' F' ea e1 e2 => by
      rw [← ea 0 (by omega)]
      refine ih (i + 1) z H' ad' bc' bs' (by omega) h2 wz S' A' (by omega) (by omega) (fun H2 ad2 S2 A2 F2 ea2 => ?_)
      exact k H2 ad2 S2 A2 (F'.trans (F2.mono (fun b hb => (smX_eq ea).mp hb))) (fun j hj => (ea2 j hj).trans (ea j hj))
    have sumv : vX t p x (be0 p i) (pE1 p i) = evT t (gA1w x) (gP x) (gF1w x) (gDy x) (gSl x) 2 (o.2.2.1 i) := by
      unfold vX
      rw [p3]
      exact vR_pf wS p2
    have run : dueX t p x i = true → wX9_pass_43 K (wX9_pass_8 K Z (n + 1)) Z H bc bs (ad 0) x1 (nI i) := fun hd => by
      rcases h1 with ⟨d1, -, -⟩ | ⟨-, s, hs, hv, hc⟩
      · rw [hd] at d1; cases d1
      · rw [sumv] at hv
        rw [p1] at hc
        exact ps_43 wt w wo hio hs hv hc A S (by omega) (by omega) on
    have skip : dueX t p x i = false → wX9_pass_200 K (wX9_pass_8 K Z (n + 1)) Z H bc bs (ad 0) x1 (nI i) := fun hd => by
      rcases h1 with ⟨-, -, rfl⟩ | ⟨d1, -⟩
      · unfold wX9_pass_200
        rw [nI_1]
        exact on H ad bc bs S A Fr.refl (fun _ _ => rfl) (Nat.le_refl _) (Nat.le_refl _)
      · rw [hd] at d1; cases d1
    rw [wX9_pass_8]
    refine ⟨_, gF_of S.1 rfl, _, f5, a1, br_f (nI_ge (by omega) (by omega)) ⟨_, gF_of S.1 rfl, _, f7, c1, ii, ?_⟩⟩
    rw [ei]
    cases et : o.2.2.2 i with
    | none =>
      refine br_t ((c2 i hio).1 et) (run ?_)
      unfold dueX
      rw [decide_eq_true (p4 et).symm]
      rfl
    | some tr =>
      obtain ⟨q, e1, e2⟩ := (c2 i hio).2 tr et
      obtain ⟨r1, r2⟩ := p5 tr et
      have wTr := wT tr et
      have tv : vX t p x (pE1 p i) (pE2 p i) = evT t (gA1w x) (gP x) (gF1w x) (gDy x) (gSl x) 4 tr := by
        unfold vX
        rw [r2]
        exact vR_pf wTr r1
      have hne : ¬ pE1 p i = pE2 p i := by
        have := pf_pos wTr
        omega
      have ed : dueX t p x i = !decide (evT t (gA1w x) (gP x) (gF1w x) (gDy x) (gSl x) 4 tr = 0) := by
        unfold dueX
        rw [decide_eq_false hne, tv]
        rfl
      refine br_f (by rw [e1]; exact fun y => by cases y) ⟨_, gF_of S.1 rfl, _, f7, q, c1, ii, e1, trA_9 e2, 4, by decide, ?_⟩
      refine hz_of S wt w 4 true q _ _ e2 wTr ?_
      rcases evT_01 (a := gA1w x) (pr := gP x) (fa := gF1w x) (dy := gDy x) (sl := gSl x) wTr with z | z
      · rw [z] at ed ⊢
        exact br_f (by decide) (skip ed)
      · rw [z] at ed ⊢
        exact br_t rfl (run ed)
theorem sm_pass {K : Int32 → gH → Prop} {bc bs : Nat} (wt : wfT t) (wo : odW (tE t) o) (hp : odP p o) (h : Ords t p (pO p) 0 x y) (w : wfX t x) (S : SimG Z H ad t x) (A : odA Z H ad o) (hbc : bgX (gA1w x) ≤ bc + bgX (gA1w y)) (hbs : 10 * bgX (gA1w x) ≤ bs + 10 * bgX (gA1w y))
    (k : ∀ H' ad', SimG Z H' ad' t (dayX y) → odA Z H' ad' o → Fr (smX t ad) H H' → (∀ i, i < 10 ∨ 20 ≤ i → ad' i = ad i) → K (fcX y - fcX x) H') : wX9_pass Z H bc bs (ad 0) K := by
  have n24 := wt.2.2.2.1
  unfold wX9_pass
  refine ⟨⟨_, S.1⟩, sm_found (l := 1) S n24 w.2.2.2.2.2.2 (by decide) ?_⟩
  have e24 : fb_ct (fun f => decide (1 ≤ gF1w x f)) (tF t) = fb_ct (fun f => decide (1 ≤ gF1w x f)) 24 := (ct_cut n24 (fun j hj => by rw [w.2.2.2.2.2.1 j hj]; rfl)).symm
  rw [e24]
  rw [hp.1] at h
  exact ⟨o.1 + 1, sm_pass_lp wt wo hp o.1 0 x H ad bc bs (by omega) h w S A hbc hbs k⟩
end PASS
