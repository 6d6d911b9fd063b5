/-! the book: line after line, both -/
abbrev CKt := (Nat → Int32) × (Nat → Int32) × (Nat → Int32) × (Nat → Int64) × Int32 × Int32 × Int32 × Int32 × Int32 × Int32 × Int32 × Int32 × CRt
abbrev CLt := Int32 × Int32 × Int32 × Int32 × CRt
def RB (K : Int32 → CKt → Prop) (Ab : (Nat → Int32)) (Al : Int32) (ki st nu : (Nat → Int32)) (na : (Nat → Int64)) (nn nx N M a kd er es : Int32) (c : CRt) (ctr : Nat) : Prop := ∃ n : Nat, wX3_read_58 K Ab Al n ki st nu na nn nx a kd er es N M c.1 c.2.1 c.2.2.1 c.2.2.2.1 c.2.2.2.2.1 c.2.2.2.2.2.1 c.2.2.2.2.2.2.1 c.2.2.2.2.2.2.2.1 c.2.2.2.2.2.2.2.2.1 c.2.2.2.2.2.2.2.2.2.1 c.2.2.2.2.2.2.2.2.2.2.1 c.2.2.2.2.2.2.2.2.2.2.2.1 c.2.2.2.2.2.2.2.2.2.2.2.2.1 c.2.2.2.2.2.2.2.2.2.2.2.2.2.1 c.2.2.2.2.2.2.2.2.2.2.2.2.2.2.1 c.2.2.2.2.2.2.2.2.2.2.2.2.2.2.2.1 c.2.2.2.2.2.2.2.2.2.2.2.2.2.2.2.2 (nI ctr)
def KCE (K : Int32 → CKt → Prop) (e : Int32 × Int32) : Prop := ∀ (ki st nu : (Nat → Int32)) (na : (Nat → Int64)) (n1 n2 n3 n4 n5 : Int32) (R : Int32 × Int32 × CRt), K e.1 (ki, st, nu, na, n1, n2, n3, n4, n5, e.2, R)
def rC (t : Tl) (pl : Pn) (c : CRt) : Prop := rT t (nI (tN t)) (nI (tM t)) c.1 c.2.1 c.2.2.2.2.2.1 c.2.2.2.2.2.2.1 c.2.2.2.2.2.2.2.1 c.2.2.2.2.2.2.2.2.1 c.2.2.2.2.2.2.2.2.2.1 c.2.2.2.1 c.2.2.2.2.1 ∧ rPc t pl c.2.2.2.2.2.2.2.2.2.2.1 c.2.2.2.2.2.2.2.2.2.2.2.1 c.2.2.2.2.2.2.2.2.2.2.2.2.1 c.2.2.2.2.2.2.2.2.2.2.2.2.2.1 c.2.2.2.2.2.2.2.2.2.2.2.2.2.2.1 c.2.2.2.2.2.2.2.2.2.2.2.2.2.2.2.1 c.2.2.2.2.2.2.2.2.2.2.2.2.2.2.2.2
def KCS (K : Int32 → CKt → Prop) (t : Tl) (pl : Pn) : Prop := ∀ (ki st nu : (Nat → Int32)) (na : (Nat → Int64)) (n1 n2 n3 n4 : Int32) (c : CRt), rC t pl c → K 0 (ki, st, nu, na, n1, n2, n3, n4, 0, -1, nI (tN t), nI (tM t), c)
def rel2e (t : Tl) (pl : Pn) (tk : Nat → Nat) (u : S2) : Prop := rT t u.2.2.2.1 u.2.2.2.2.1 u.2.2.2.2.2.1 u.2.2.2.2.2.2.2.2.2.1 u.2.2.2.2.2.2.2.2.2.2.1 u.2.2.2.2.2.2.2.2.2.2.2.1 u.2.2.2.2.2.2.2.2.2.2.2.2.1 u.2.2.2.2.2.2.2.2.2.2.2.2.2.1 u.2.2.2.2.2.2.2.2.2.2.2.2.2.2.1 u.2.2.2.2.2.2.2.1 u.2.2.2.2.2.2.2.2.1 ∧ u.2.2.2.2.2.2.2.2.2.2.2.2.2.2.2 = nI (pO pl) ∧ ∀ i, i < pS pl → (pK pl i = 19 ∨ pK pl i = 20 ∨ pK pl i = 22) → u.1 (tk i) = pD pl i
def rel2 (x : Tn) (t : Tl) (pl : Pn) (tk : Nat → Nat) (cn : (Nat → Int64)) (u : S2) : Prop := rel2e t pl tk u ∧ ∀ i, i < nN x → kN x i = 44 → emF cn (cN x i) (tE t) = emF u.2.2.2.2.2.2.1 (mN x i) (tE t)
/-- a good beginning of a line -/
def goodL (x : Tn) (e : Int32 × Int32) (t : Tl) (O m mm Om : Nat) (Ok Se Te sK sD gd gb ge go gw : (Nat → Int32)) (pl : Pn) (tk : Nat → Nat) (p : Nat) : Prop := e = eG ∧ wfP pl ∧ O = pO pl ∧ m = pS pl ∧ mm = pS pl ∧ Om = pO pl ∧ be0 pl (pO pl) = pS pl ∧ rPc t pl (nI O) (nI m) Ok Se Te sK sD ∧ rel1 pl tk p gd gb ge go gw
def BO (x : Tn) (ki st nu mk fr : (Nat → Int32)) (na va : (Nat → Int64)) (p : Nat) (e : Int32 × Int32) (t : Tl) (c : CRt) (ctr Om mm : Nat) (me gd gb ge go gw : (Nat → Int32)) (pl : Pn) (tk : Nat → Nat) (cn : (Nat → Int64)) : Prop :=
  (∃ q, q ≤ nN x ∧ (∀ K Ab Al nx, KCE K (1, nI (sN x q)) → RB K Ab Al ki st nu na (nI (nN x + 1)) nx (nI (tN t)) (nI (tM t)) (nI p) (nI (kN x p)) e.1 e.2 c ctr) ∧ (∀ K : Int32 → LK → Prop, (∀ u : LK, u.2.1 = nI q → K 0 u) → ∃ n : Nat, wX10_isBook_47 K mk va n me (nI p) (nI 0) (nI Om) gd gb ge go gw (nI mm))) ∨
  (∃ me' od' gd' gb' ge' go' gw' gm', (∀ K : Int32 → LK → Prop, K 1 (me', nI (nN x), nI 0, od', gd', gb', ge', go', gw', gm') → ∃ n : Nat, wX10_isBook_47 K mk va n me (nI p) (nI 0) (nI Om) gd gb ge go gw (nI mm)) ∧ (∀ i, i < p → me' i = me i) ∧
    ((∃ e', (e'.1 ≠ 0 ∧ (0 ≤ e.1 → 0 ≤ e'.1)) ∧ (e.1 ≠ 0 → e' = e) ∧ (∀ K Ab Al nx, KCE K e' → RB K Ab Al ki st nu na (nI (nN x + 1)) nx (nI (tN t)) (nI (tM t)) (nI p) (nI (kN x p)) e.1 e.2 c ctr) ∧ (e.1 = 0 → ∀ K tp sz ea u, rel2 x t pl tk cn u → KE K e' → P2 K tp sz ea mk fr me' va (nN x) (nI 0) od' gd' gb' ge' go' gw' gm' u p)) ∨
     (e.1 = 0 ∧ ∃ t' pl' tk', wfT t' ∧ (wfP pl' ∧ be0 pl' (pO pl') = pS pl' ∧ ∀ i, i < pS pl' → okD t' (pK pl' i) (pD pl' i)) ∧ gm' = nI (pS pl') ∧ (∀ K Ab Al nx, KCS K t' pl' → RB K Ab Al ki st nu na (nI (nN x + 1)) nx (nI (tN t)) (nI (tM t)) (nI p) (nI (kN x p)) e.1 e.2 c ctr) ∧ rel1 pl' tk' (nN x) gd' gb' ge' go' gw' ∧ (∀ K tp sz ea u, rel2 x t pl tk cn u → (∀ u', rel2e t' pl' tk' u' → P2 K tp sz ea mk fr me' va (nN x) (nI 0) od' gd' gb' ge' go' gw' gm' u' (nN x)) → P2 K tp sz ea mk fr me' va (nN x) (nI 0) od' gd' gb' ge' go' gw' gm' u p))))
section BOOK
variable {x : Tn} {ki st nu mk fr : (Nat → Int32)} {na va : (Nat → Int64)} {p : Nat}
theorem ck_pos {b : Bool} {c : Int32} {q : Nat} {e : Int32 × Int32} (hc : 0 ≤ c) (h : 0 ≤ e.1) : 0 ≤ (ck x b c q e).1 := by
  unfold ck
  split
  · exact hc
  · exact h
theorem erF_pos {bd : Nat → Bool} {a b : Nat} {e : Int32 × Int32} (h : 0 ≤ e.1) : 0 ≤ (erF x bd a b e).1 := by
  unfold erF
  generalize b - a = n
  induction n generalizing a e with
  | zero => exact h
  | succ n ih =>
    refine ih (a := a + 1) ?_
    split
    · exact (show (0 : Int32) ≤ 3 by decide)
    · exact h
theorem rb_step (wf : wfN x) (hp : p ≤ nN x) (h47 : kN x p ≠ 47) {K : Int32 → CKt → Prop} {Ab : (Nat → Int32)} {Al nx N M : Int32} {e : Int32 × Int32} {c : CRt} {ctr n : Nat} (he : e.1 ≠ 1) (hc : 2 * ctr ≤ p) (h : wX3_readLine ki st nu na (nI (nN x + 1)) (nI p) (nI (kN x p)) e.1 e.2 N M c.1 c.2.1 c.2.2.1 c.2.2.2.1 c.2.2.2.2.1 c.2.2.2.2.2.1 c.2.2.2.2.2.2.1 c.2.2.2.2.2.2.2.1 c.2.2.2.2.2.2.2.2.1 c.2.2.2.2.2.2.2.2.2.1 c.2.2.2.2.2.2.2.2.2.2.1 c.2.2.2.2.2.2.2.2.2.2.2.1 c.2.2.2.2.2.2.2.2.2.2.2.2.1 c.2.2.2.2.2.2.2.2.2.2.2.2.2.1 c.2.2.2.2.2.2.2.2.2.2.2.2.2.2.1 c.2.2.2.2.2.2.2.2.2.2.2.2.2.2.2.1 c.2.2.2.2.2.2.2.2.2.2.2.2.2.2.2.2 (fun u1 => wX3_expect ki st (nI (nN x + 1)) u1.1 u1.2.1 u1.2.2.1 u1.2.2.2.1 33 (fun u2 => wX3_read_58 K Ab Al n ki st nu na (nI (nN x + 1)) nx u2.1 u2.2.1 u2.2.2.1 u2.2.2.2 N M u1.2.2.2.2.1 u1.2.2.2.2.2.1 u1.2.2.2.2.2.2.1 u1.2.2.2.2.2.2.2.1 u1.2.2.2.2.2.2.2.2.1 u1.2.2.2.2.2.2.2.2.2.1 u1.2.2.2.2.2.2.2.2.2.2.1 u1.2.2.2.2.2.2.2.2.2.2.2.1 u1.2.2.2.2.2.2.2.2.2.2.2.2.1 u1.2.2.2.2.2.2.2.2.2.2.2.2.2.1 u1.2.2.2.2.2.2.2.2.2.2.2.2.2.2.1 u1.2.2.2.2.2.2.2.2.2.2.2.2.2.2.2.1 u1.2.2.2.2.2.2.2.2.2.2.2.2.2.2.2.2.1 u1.2.2.2.2.2.2.2.2.2.2.2.2.2.2.2.2.2.1 u1.2.2.2.2.2.2.2.2.2.2.2.2.2.2.2.2.2.2.1 u1.2.2.2.2.2.2.2.2.2.2.2.2.2.2.2.2.2.2.2.1 u1.2.2.2.2.2.2.2.2.2.2.2.2.2.2.2.2.2.2.2.2 (nI (ctr + 1))))) : wX3_read_58 K Ab Al (n + 1) ki st nu na (nI (nN x + 1)) nx (nI p) (nI (kN x p)) e.1 e.2 N M c.1 c.2.1 c.2.2.1 c.2.2.2.1 c.2.2.2.2.1 c.2.2.2.2.2.1 c.2.2.2.2.2.2.1 c.2.2.2.2.2.2.2.1 c.2.2.2.2.2.2.2.2.1 c.2.2.2.2.2.2.2.2.2.1 c.2.2.2.2.2.2.2.2.2.2.1 c.2.2.2.2.2.2.2.2.2.2.2.1 c.2.2.2.2.2.2.2.2.2.2.2.2.1 c.2.2.2.2.2.2.2.2.2.2.2.2.2.1 c.2.2.2.2.2.2.2.2.2.2.2.2.2.2.1 c.2.2.2.2.2.2.2.2.2.2.2.2.2.2.2.1 c.2.2.2.2.2.2.2.2.2.2.2.2.2.2.2.2 (nI ctr) := by
  have n4 := wf.1
  unfold wX3_read_58
  refine br_f (nI_ge (b := 400) (by omega) (by decide)) (br_f (c_ne wf hp 47 h47) (br_f he ?_))
  rw [nI_1 ctr]
  exact h
theorem rb_stop {K : Int32 → CKt → Prop} {Ab : (Nat → Int32)} {Al nn nx N M a es ctr : Int32} {c : CRt} {n : Nat} (h : KCE K (1, es)) : wX3_read_58 K Ab Al (n + 1) ki st nu na nn nx a 48 1 es N M c.1 c.2.1 c.2.2.1 c.2.2.2.1 c.2.2.2.2.1 c.2.2.2.2.2.1 c.2.2.2.2.2.2.1 c.2.2.2.2.2.2.2.1 c.2.2.2.2.2.2.2.2.1 c.2.2.2.2.2.2.2.2.2.1 c.2.2.2.2.2.2.2.2.2.2.1 c.2.2.2.2.2.2.2.2.2.2.2.1 c.2.2.2.2.2.2.2.2.2.2.2.2.1 c.2.2.2.2.2.2.2.2.2.2.2.2.2.1 c.2.2.2.2.2.2.2.2.2.2.2.2.2.2.1 c.2.2.2.2.2.2.2.2.2.2.2.2.2.2.2.1 c.2.2.2.2.2.2.2.2.2.2.2.2.2.2.2.2 ctr := by
  unfold wX3_read_58
  exact ⟨fun _ => h _ _ _ _ _ _ _ _ _ _, fun _ => br_f (by decide) (br_t rfl (h _ _ _ _ _ _ _ _ _ _))⟩
theorem ib_step (wf : wfN x) (rm : rNm x mk fr va) (hp : p ≤ nN x) (h47 : kN x p ≠ 47) {K : Int32 → LK → Prop} {n : Nat} {me gd gb ge go gw : (Nat → Int32)} {dp od gm : Int32} (h : wX10_isLine mk me va (nI p) dp od gd gb ge go gw gm (fun r1 u1 => ((r1 = 0 → K 0 u1) ∧ (¬ r1 = 0 → wX10_eat mk u1.2.1 59 (fun r2 u2 => ((¬ r2 = 0 → wX10_isBook_47 K mk va n u1.1 u2 u1.2.2.1 u1.2.2.2.1 u1.2.2.2.2.1 u1.2.2.2.2.2.1 u1.2.2.2.2.2.2.1 u1.2.2.2.2.2.2.2.1 u1.2.2.2.2.2.2.2.2.1 u1.2.2.2.2.2.2.2.2.2) ∧ (r2 = 0 → K 0 (u1.1, u2, u1.2.2)))))))) : wX10_isBook_47 K mk va (n + 1) me (nI p) dp od gd gb ge go gw gm := by
  have n4 := wf.1
  unfold wX10_isBook_47
  exact ⟨vp_in_nI (by omega) (by decide), br_f (m_ne wf rm hp 47 h47) h⟩
theorem fin_F (wf : wfN x) (rm : rNm x mk fr va) (hp : p ≤ nN x) (h47 : kN x p ≠ 47) {e : Int32 × Int32} {t : Tl} {c : CRt} {ctr Om mm : Nat} {me gd gb ge go gw : (Nat → Int32)} {pl : Pn} {tk : Nat → Nat} {cn : (Nat → Int64)} (he : e.1 ≠ 1) (hc : 2 * ctr ≤ p) {q : Nat} (hq : q ≤ nN x)
    (lc : ∀ K : CLt → Prop, (∀ R, K (nI q, 48, 1, nI (sN x q), R)) → wX3_readLine ki st nu na (nI (nN x + 1)) (nI p) (nI (kN x p)) e.1 e.2 (nI (tN t)) (nI (tM t)) c.1 c.2.1 c.2.2.1 c.2.2.2.1 c.2.2.2.2.1 c.2.2.2.2.2.1 c.2.2.2.2.2.2.1 c.2.2.2.2.2.2.2.1 c.2.2.2.2.2.2.2.2.1 c.2.2.2.2.2.2.2.2.2.1 c.2.2.2.2.2.2.2.2.2.2.1 c.2.2.2.2.2.2.2.2.2.2.2.1 c.2.2.2.2.2.2.2.2.2.2.2.2.1 c.2.2.2.2.2.2.2.2.2.2.2.2.2.1 c.2.2.2.2.2.2.2.2.2.2.2.2.2.2.1 c.2.2.2.2.2.2.2.2.2.2.2.2.2.2.2.1 c.2.2.2.2.2.2.2.2.2.2.2.2.2.2.2.2 K)
    (lm : ∀ K : Int32 → LK → Prop, (∀ u : LK, u.2.1 = nI q → K 0 u) → wX10_isLine mk me va (nI p) (nI 0) (nI Om) gd gb ge go gw (nI mm) K) : BO x ki st nu mk fr na va p e t c ctr Om mm me gd gb ge go gw pl tk cn := by
  refine Or.inl ⟨q, hq, fun K Ab Al nx kk => ⟨2, rb_step wf hp h47 he hc (lc _ (fun R => c_exp_B (rb_stop kk)))⟩, fun K kk => ⟨1, ib_step wf rm hp h47 (lm _ (fun u hu => br_t rfl (kk _ hu)))⟩⟩
theorem fin_S (wf : wfN x) (rc : rNc x ki st nu na) (rm : rNm x mk fr va) (hp : p ≤ nN x) (h47 : kN x p ≠ 47) {e e1 : Int32 × Int32} {t t1 : Tl} {c c1 : CRt} {ctr Om mm Om1 mm1 : Nat} {me gd gb ge go gw me1 gd1 gb1 ge1 go1 gw1 : (Nat → Int32)} {pl pl1 : Pn} {tk tk1 : Nat → Nat} {cn cn1 : (Nat → Int64)} (he : e.1 ≠ 1) (he1 : e1.1 ≠ 1) (hc : 2 * ctr ≤ p) {q : Nat} (hpq : p < q) (hq : q ≤ nN x) (tn : tN t1 = tN t) (tm : tM t1 = tM t)
    (lc : ∀ K : CLt → Prop, K (nI q, nI (kN x q), e1.1, e1.2, c1) → wX3_readLine ki st nu na (nI (nN x + 1)) (nI p) (nI (kN x p)) e.1 e.2 (nI (tN t)) (nI (tM t)) c.1 c.2.1 c.2.2.1 c.2.2.2.1 c.2.2.2.2.1 c.2.2.2.2.2.1 c.2.2.2.2.2.2.1 c.2.2.2.2.2.2.2.1 c.2.2.2.2.2.2.2.2.1 c.2.2.2.2.2.2.2.2.2.1 c.2.2.2.2.2.2.2.2.2.2.1 c.2.2.2.2.2.2.2.2.2.2.2.1 c.2.2.2.2.2.2.2.2.2.2.2.2.1 c.2.2.2.2.2.2.2.2.2.2.2.2.2.1 c.2.2.2.2.2.2.2.2.2.2.2.2.2.2.1 c.2.2.2.2.2.2.2.2.2.2.2.2.2.2.2.1 c.2.2.2.2.2.2.2.2.2.2.2.2.2.2.2.2 K)
    (lm : ∀ K : Int32 → LK → Prop, K 1 (me1, nI q, nI 0, nI Om1, gd1, gb1, ge1, go1, gw1, nI mm1) → wX10_isLine mk me va (nI p) (nI 0) (nI Om) gd gb ge go gw (nI mm) K)
    (hme : ∀ i, i < p → me1 i = me i) (hbad : e.1 ≠ 0 → e1 = e) (hpos : 0 ≤ e.1 → 0 ≤ e1.1)
    (sec : e.1 = 0 → ∀ me' od' gd' gb' ge' go' gw' gm', (∀ i, i < q → me' i = me1 i) → ∀ K tp sz ea u, rel2 x t pl tk cn u → (e1.1 ≠ 0 → KE K e1 → P2 K tp sz ea mk fr me' va (nN x) (nI 0) od' gd' gb' ge' go' gw' gm' u p) ∧ (e1.1 = 0 → (∀ u1, rel2 x t1 pl1 tk1 cn1 u1 → P2 K tp sz ea mk fr me' va (nN x) (nI 0) od' gd' gb' ge' go' gw' gm' u1 q) → P2 K tp sz ea mk fr me' va (nN x) (nI 0) od' gd' gb' ge' go' gw' gm' u p))
    (me1q : me1 q = nI 0)
    (ih : kN x q = 33 → BO x ki st nu mk fr na va (q + 1) e1 t1 c1 (ctr + 1) Om1 mm1 me1 gd1 gb1 ge1 go1 gw1 pl1 tk1 cn1) : BO x ki st nu mk fr na va p e t c ctr Om mm me gd gb ge go gw pl tk cn := by
  have n4 := wf.1
  by_cases h33 : kN x q = 33
  · have lt := kN_lt wf hq (by omega)
    have lcx : ∀ K Ab Al nx n, wX3_read_58 K Ab Al n ki st nu na (nI (nN x + 1)) nx (nI (q + 1)) (nI (kN x (q + 1))) e1.1 e1.2 (nI (tN t1)) (nI (tM t1)) c1.1 c1.2.1 c1.2.2.1 c1.2.2.2.1 c1.2.2.2.2.1 c1.2.2.2.2.2.1 c1.2.2.2.2.2.2.1 c1.2.2.2.2.2.2.2.1 c1.2.2.2.2.2.2.2.2.1 c1.2.2.2.2.2.2.2.2.2.1 c1.2.2.2.2.2.2.2.2.2.2.1 c1.2.2.2.2.2.2.2.2.2.2.2.1 c1.2.2.2.2.2.2.2.2.2.2.2.2.1 c1.2.2.2.2.2.2.2.2.2.2.2.2.2.1 c1.2.2.2.2.2.2.2.2.2.2.2.2.2.2.1 c1.2.2.2.2.2.2.2.2.2.2.2.2.2.2.2.1 c1.2.2.2.2.2.2.2.2.2.2.2.2.2.2.2.2 (nI (ctr + 1)) → wX3_read_58 K Ab Al (n + 1) ki st nu na (nI (nN x + 1)) nx (nI p) (nI (kN x p)) e.1 e.2 (nI (tN t)) (nI (tM t)) c.1 c.2.1 c.2.2.1 c.2.2.2.1 c.2.2.2.2.1 c.2.2.2.2.2.1 c.2.2.2.2.2.2.1 c.2.2.2.2.2.2.2.1 c.2.2.2.2.2.2.2.2.1 c.2.2.2.2.2.2.2.2.2.1 c.2.2.2.2.2.2.2.2.2.2.1 c.2.2.2.2.2.2.2.2.2.2.2.1 c.2.2.2.2.2.2.2.2.2.2.2.2.1 c.2.2.2.2.2.2.2.2.2.2.2.2.2.1 c.2.2.2.2.2.2.2.2.2.2.2.2.2.2.1 c.2.2.2.2.2.2.2.2.2.2.2.2.2.2.2.1 c.2.2.2.2.2.2.2.2.2.2.2.2.2.2.2.2 (nI ctr) := by
      intro K Ab Al nx n h
      rw [tn, tm] at h
      exact rb_step wf hp h47 he hc (lc _ (c_exp_y wf rc hq 33 h33 h))
    have lmx : ∀ (K : Int32 → LK → Prop) (n : Nat), wX10_isBook_47 K mk va n me1 (nI (q + 1)) (nI 0) (nI Om1) gd1 gb1 ge1 go1 gw1 (nI mm1) → wX10_isBook_47 K mk va (n + 1) me (nI p) (nI 0) (nI Om) gd gb ge go gw (nI mm) := by
      intro K n h
      exact ib_step wf rm hp h47 (lm _ (br_f (by decide) (m_eat_y wf rm hq 33 h33 (bn_f (by decide) h))))
    rcases ih h33 with ⟨q2, b1, b2, b3⟩ | ⟨me', od', gd', gb', ge', go', gw', gm', b1, b2, b3⟩
    · refine Or.inl ⟨q2, b1, fun K Ab Al nx kk => ?_, fun K kk => ?_⟩
      · obtain ⟨n, hn⟩ := b2 K Ab Al nx kk
        exact ⟨n + 1, lcx K Ab Al nx n hn⟩
      · obtain ⟨n, hn⟩ := b3 K kk
        exact ⟨n + 1, lmx K n hn⟩
    · have agr : ∀ i, i < q → me' i = me1 i := fun i hi => b2 i (by omega)
      have meq : me' q = nI 0 := by rw [b2 q (by omega)]; exact me1q
      refine Or.inr ⟨me', od', gd', gb', ge', go', gw', gm', fun K kk => ?_, fun i hi => by rw [agr i (by omega)]; exact hme i hi, ?_⟩
      · obtain ⟨n, hn⟩ := b1 K kk
        exact ⟨n + 1, lmx K n hn⟩
      · rcases b3 with ⟨e', d1, d2, d3, d4⟩ | ⟨d0, t', pl', tk', d1, d2, d3, d4, d5, d6⟩
        · refine Or.inl ⟨e', ⟨d1.1, fun y => d1.2 (hpos y)⟩, fun z => ?_, fun K Ab Al nx kk => ?_, fun z K tp sz ea u hu kk => ?_⟩
          · have q1 := hbad z
            rw [d2 (by rw [q1]; exact z), q1]
          · obtain ⟨n, hn⟩ := d3 K Ab Al nx kk
            exact ⟨n + 1, lcx K Ab Al nx n hn⟩
          · have s := sec z me' od' gd' gb' ge' go' gw' gm' agr K tp sz ea u hu
            by_cases y : e1.1 = 0
            · exact s.2 y (fun u1 hu1 => p2_0 n4 lt meq (d4 y K tp sz ea u1 hu1 kk))
            · rw [d2 y] at kk
              exact s.1 y kk
        · have z : e.1 = 0 := by
            rcases Classical.em (e.1 = 0) with y | y
            · exact y
            · rw [hbad y] at d0; exact d0
          refine Or.inr ⟨z, t', pl', tk', d1, d2, d3, fun K Ab Al nx kk => ?_, d5, fun K tp sz ea u hu kk => ?_⟩
          · obtain ⟨n, hn⟩ := d4 K Ab Al nx kk
            exact ⟨n + 1, lcx K Ab Al nx n hn⟩
          · have s := sec z me' od' gd' gb' ge' go' gw' gm' agr K tp sz ea u hu
            exact s.2 d0 (fun u1 hu1 => p2_0 n4 lt meq (d6 K tp sz ea u1 hu1 kk))
  · refine Or.inl ⟨q, hq, fun K Ab Al nx kk => ⟨2, rb_step wf hp h47 he hc (lc _ (c_exp_n wf rc hq he1 33 h33 (rb_stop kk)))⟩, fun K kk => ⟨1, ib_step wf rm hp h47 (lm _ (br_f (by decide) (m_eat_n wf rm hq 33 h33 (bn_t rfl (kk _ rfl)))))⟩⟩
end BOOK
