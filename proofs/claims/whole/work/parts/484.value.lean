/-! values, both; then sums whole -/
section VALUE
variable {x : Tn} {ki st nu mk fr : Nat → Int32} {na va : Nat → Int64} {E : Nat} {nm : Nat → Int64} {p d : Nat} {A B : Prop}
theorem c_ne (wf : wfN x) (hp : p ≤ nN x) (w : Nat) (h : kN x p ≠ w) {w' : Int32} (hw : w' = nI w := by rfl) (hb : w < 2 ^ 31 := by omega) : ¬ nI (kN x p) = w' := fun z => h ((nI_eq (by have := (kN_b wf hp).1; omega) hb).1 (z.trans hw))
theorem m_ne (wf : wfN x) (rm : rNm x mk fr va) (hp : p ≤ nN x) (w : Nat) (h : kN x p ≠ w) {w' : Int32} (hw : w' = nI (mkT w) := by rfl) (hb : w < 49 ∧ w ≠ 46 := by omega) : ¬ mk (nI p).toNatClampNeg = w' := by
  have hk := kN_b wf hp
  have h1 := mkT_lt _ hk.1
  have h2 := mkT_lt _ hb.1
  have n4 := wf.1
  rw [nI_clamp (by omega), (rm p hp).1, hw]
  exact fun z => h (mkT_tab _ hk.1 _ hb.1 hk.2 hb.2 ((nI_eq (by omega) (by omega)).1 z))
theorem erF_pre {p q : Nat} {e : Int32 × Int32} (h : kN x p ≠ 44) (hq : p < q) : erF x (bdN x E nm) p q e = erF x (bdN x E nm) (p + 1) q e := by
  rw [← erF_join (p := p) (q := p + 1) (r := q) (by omega) (by omega), erF_no h]
theorem erF_suf {p q : Nat} {e : Int32 × Int32} (h : kN x q ≠ 44) (hq : p ≤ q) : erF x (bdN x E nm) p (q + 1) e = erF x (bdN x E nm) p q e := by
  rw [← erF_join (p := p) (q := q) (r := q + 1) hq (by omega), erF_no h]
theorem meF_pre {p q : Nat} {me : Nat → Int32} (h : kN x p ≠ 44) (hq : p < q) : meF x p q me = meF x (p + 1) q me := by
  rw [← meF_join (p := p) (q := p + 1) (r := q) (by omega) (by omega), meF_no h]
theorem meF_suf {p q : Nat} {me : Nat → Int32} (h : kN x q ≠ 44) (hq : p ≤ q) : meF x p (q + 1) me = meF x p q me := by
  rw [← meF_join (p := p) (q := q) (r := q + 1) hq (by omega), meF_no h]
theorem bVal {n : Nat} : cB (cA x ki st nu na E nm (n + 1) 4 d) := by
  intro a es m sK sD K ha hm kk
  show wX3_readValue_E (wX3a n) ki st nu na (nI (nN x + 1)) (nI a) 48 1 es (nI E) nm (nI m) sK sD (nI d) K
  unfold wX3_readValue_E
  exact ⟨fun z => absurd z (by decide), fun z => absurd z (by decide), fun z => absurd z (by decide), fun z => absurd z (by decide), fun z => absurd z (by decide), fun z => absurd z (by decide), fun z => absurd z (by decide), fun z => absurd z (by decide), fun z => absurd z (by decide), fun z => absurd z (by decide), fun z => absurd z (by decide), fun z => absurd z (by decide), fun _ _ _ _ _ _ _ _ _ _ _ _ => c_refB (kk _ _ _ hm)⟩
theorem bProduct {n : Nat} : cB (cA x ki st nu na E nm (n + 2) 2 d) := by
  intro a es m sK sD K ha hm kk
  show wX3_readProduct_E (wX3a (n + 1)) ki st nu na (nI (nN x + 1)) (nI a) 48 1 es (nI E) nm (nI m) sK sD (nI d) K
  unfold wX3_readProduct_E
  refine bVal a es m sK sD _ ha hm (fun m' sK' sD' hm' => ⟨1, ?_⟩)
  unfold wX3_readProduct_7
  exact ⟨fun _ => kk _ _ _ hm', fun _ => br_f (show ¬ (48 : Int32) = 37 by decide) (bn_f (show ¬ (48 : Int32) = 38 by decide) (kk _ _ _ hm'))⟩
theorem bSum {n : Nat} : cB (cA x ki st nu na E nm (n + 3) 3 d) := by
  intro a es m sK sD K ha hm kk
  show wX3_readSum_E (wX3a (n + 2)) ki st nu na (nI (nN x + 1)) (nI a) 48 1 es (nI E) nm (nI m) sK sD (nI d) K
  unfold wX3_readSum_E
  refine bProduct a es m sK sD _ ha hm (fun m' sK' sD' hm' => ⟨1, ?_⟩)
  unfold wX3_readSum_7
  exact ⟨fun _ => kk _ _ _ hm', fun _ => br_f (show ¬ (48 : Int32) = 35 by decide) (bn_f (show ¬ (48 : Int32) = 36 by decide) (kk _ _ _ hm'))⟩
theorem uV (n : Nat) {a k er es m : Int32} {sK sD : Nat → Int32} {K : CK → Prop} (h : wX3_readValue_E (wX3a n) ki st nu na (nI (nN x + 1)) a k er es (nI E) nm m sK sD (nI d) K) : cA x ki st nu na E nm (n + 1) 4 d a k er es m sK sD K := h
theorem uE (n : Nat) {c a k er es m e dd : Int32} {sK sD : Nat → Int32} {K : CK → Prop} (h : wX3_readEnclosed_E (wX3a n) ki st nu na c a k er es e nm m sK sD dd K) : wX3a (n + 1) 0 ki st nu na c a k er es e nm m sK sD dd K := h
theorem uP (n : Nat) {c a k er es m e dd : Int32} {sK sD : Nat → Int32} {K : CK → Prop} (h : wX3_readPair_E (wX3a n) ki st nu na c a k er es e nm m sK sD dd K) : wX3a (n + 1) 1 ki st nu na c a k er es e nm m sK sD dd K := h
theorem vV (n : Nat) {tk dp m : Int32} {me go gw : Nat → Int32} {K : Int32 → MK → Prop} (h : wX10_isValue_E (wX10a n) mk me va tk dp go gw m K) : mA mk va (n + 1) 4 me tk dp go gw m K := h
theorem v1 (n : Nat) {tk dp m p1 : Int32} {me go gw : Nat → Int32} {K : Int32 → MK → Prop} (h : wX10_isOfOne_E (wX10a n) mk me va tk dp go gw m p1 K) : wX10a (n + 1) 0 mk me va tk dp go gw m p1 K := h
theorem v2 (n : Nat) {tk dp m p1 : Int32} {me go gw : Nat → Int32} {K : Int32 → MK → Prop} (h : wX10_isOfTwo_E (wX10a n) mk me va tk dp go gw m p1 K) : wX10a (n + 1) 1 mk me va tk dp go gw m p1 K := h
theorem okP {k t : Nat} {q : Nat} (h : ¬ (k = 19 ∨ k = 20 ∨ k = 22)) : okL x p q [(k, t)] := okL_plain h
theorem cDk {k t : Nat} (h : k ≠ 45 ∧ k ≠ 19 ∧ k ≠ 20 ∧ k ≠ 22) : cDt x E nm (k, t) = 0 := cDt_0 h
theorem mWk {k t : Nat} (h : k ≠ 45 ∧ k ≠ 19 ∧ k ≠ 20 ∧ k ≠ 22) : mWt x (k, t) = 0 := mWt_0 h
theorem cDn {k t : Nat} (h : k = 19 ∨ k = 20 ∨ k = 22) : cDt x E nm (k, t) = fI (emF nm (cN x t) E) := cDt_e h
theorem mWn {k t : Nat} (h : k = 19 ∨ k = 20 ∨ k = 22) : mWt x (k, t) = nI t := mWt_e h
theorem one_le {L : List (Nat × Nat)} {a : Nat × Nat} {j : Nat} (h : L.length + 1 ≤ j) : (L ++ [a]).length ≤ j := by
  rw [List.length_append]; exact h
theorem val45 (wf : wfN x) (rc : rNc x ki st nu na) (rm : rNm x mk fr va) (hE : E ≤ 6) {n n' : Nat} (hd : d ≤ 8) (hp : p ≤ nN x) (h : kN x p = 45) : Out x E nm (cA x ki st nu na E nm (n + 2) 4 d) (mA mk va (n' + 2) 4) d p [] false := by
  have n4 := wf.1
  have lt := kN_lt wf hp (by omega)
  have n44 : kN x p ≠ 44 := by omega
  have d1 : cDt x E nm (45, p) = nI (vN x p) := if_pos rfl
  have d2 : mWt x (45, p) = nI (vN x p) := if_pos rfl
  refine ⟨p + 1, by omega, by omega, Or.inr ⟨[(45, p)], Nat.le_of_eq (by show 1 = p + 1 - p; omega), fun bs => ty_val (by decide) (by decide) bs, okP (by decide), fun er es m sK sD K he hm kk => uV (n + 1) ?_, fun me go gw m K hm kk => vV (n' + 1) ?_⟩⟩
  · rw [erF_no n44] at kk
    have kk2 : K (nI (p + 1), nI (kN x (p + 1)), er, es, nI (m + 1), upd sK m (nI 45), upd sD m (cDt x E nm (45, p))) := kk
    rw [d1] at kk2
    unfold wX3_readValue_E
    rw [h]
    refine ⟨fun z => absurd z (by decide), fun z => absurd z (by decide), fun z => absurd z (by decide), fun z => absurd z (by decide), fun z => absurd z (by decide), fun z => absurd z (by decide), fun z => absurd z (by decide), fun z => absurd z (by decide), fun z => absurd z (by decide), fun z => absurd z (by decide), fun z => absurd z (by decide), fun _ => ?_, fun _ _ _ _ _ _ _ _ _ _ _ z45 => absurd rfl z45⟩
    refine ⟨vp_in_nI (by omega) (by decide), ?_⟩
    rw [nI_clamp (by omega), (rc p hp).2.2.1 h]
    exact c_push (by omega) (c_adv wf rc lt kk2)
  · rw [meF_no n44] at kk
    have kk2 : K 1 (me, nI (p + 1), nI d, upd go m (nI 100), upd gw m (mWt x (45, p)), nI (m + 1)) := kk
    rw [d2] at kk2
    unfold wX10_isValue_E
    rw [nI_clamp (by omega), (rm p hp).1, h]
    refine ⟨vp_in_nI (by omega) (by decide), bn_f (by decide) (bn_f (by decide) (br_f (by decide) (bn_f (by decide) (br_f (by decide) (bn_f (by decide) (bn_f (by decide) (bn_t (by decide) (?_))))))))⟩
    refine ⟨vp_in_nI (by omega) (by decide), ?_⟩
    rw [(rm p hp).2.2.1 h, lN_i]
    refine m_put (by omega) ?_
    unfold wX10_isValue_193
    rw [nI_1]
    exact kk2
theorem val15 (wf : wfN x) (rc : rNc x ki st nu na) (rm : rNm x mk fr va) (hE : E ≤ 6) {n n' : Nat} (hd : d ≤ 8) (hp : p ≤ nN x) (h : kN x p = 15) : Out x E nm (cA x ki st nu na E nm (n + 2) 4 d) (mA mk va (n' + 2) 4) d p [] false := by
  have n4 := wf.1
  have lt := kN_lt wf hp (by omega)
  have n44 : kN x p ≠ 44 := by omega
  have d1 : cDt x E nm (15, p) = 0 := cDk (by decide)
  have d2 : mWt x (15, p) = 0 := mWk (by decide)
  refine ⟨p + 1, by omega, by omega, Or.inr ⟨[(15, p)], Nat.le_of_eq (by show 1 = p + 1 - p; omega), fun bs => ty_val (by decide) (by decide) bs, okP (by decide), fun er es m sK sD K he hm kk => uV (n + 1) ?_, fun me go gw m K hm kk => vV (n' + 1) ?_⟩⟩
  · rw [erF_no n44] at kk
    have kk2 : K (nI (p + 1), nI (kN x (p + 1)), er, es, nI (m + 1), upd sK m (nI 15), upd sD m (cDt x E nm (15, p))) := kk
    rw [d1] at kk2
    unfold wX3_readValue_E
    rw [h]
    refine ⟨fun _ => ?_, fun z => absurd z (by decide), fun z => absurd z (by decide), fun z => absurd z (by decide), fun z => absurd z (by decide), fun z => absurd z (by decide), fun z => absurd z (by decide), fun z => absurd z (by decide), fun z => absurd z (by decide), fun z => absurd z (by decide), fun z => absurd z (by decide), fun z => absurd z (by decide), fun z15 _ _ _ _ _ _ _ _ _ _ _ => absurd rfl z15⟩
    unfold wX3_readValue_175
    exact c_push (by omega) (c_adv wf rc lt kk2)
  · rw [meF_no n44] at kk
    have kk2 : K 1 (me, nI (p + 1), nI d, upd go m (nI (mkT 15)), upd gw m (mWt x (15, p)), nI (m + 1)) := kk
    rw [d2] at kk2
    unfold wX10_isValue_E
    rw [nI_clamp (by omega), (rm p hp).1, h]
    refine ⟨vp_in_nI (by omega) (by decide), bn_f (by decide) (bn_f (by decide) (br_f (by decide) (bn_f (by decide) (br_f (by decide) (bn_f (by decide) (bn_f (by decide) (bn_f (by decide) (?_))))))))⟩
    unfold wX10_isIn
    refine br_f (by decide) (br_f (by decide) (br_f (by decide) (m_put (by omega) ?_)))
    unfold wX10_isValue_193
    rw [nI_1]
    exact kk2
theorem val16 (wf : wfN x) (rc : rNc x ki st nu na) (rm : rNm x mk fr va) (hE : E ≤ 6) {n n' : Nat} (hd : d ≤ 8) (hp : p ≤ nN x) (h : kN x p = 16) : Out x E nm (cA x ki st nu na E nm (n + 2) 4 d) (mA mk va (n' + 2) 4) d p [] false := by
  have n4 := wf.1
  have lt := kN_lt wf hp (by omega)
  have n44 : kN x p ≠ 44 := by omega
  have d1 : cDt x E nm (16, p) = 0 := cDk (by decide)
  have d2 : mWt x (16, p) = 0 := mWk (by decide)
  refine ⟨p + 1, by omega, by omega, Or.inr ⟨[(16, p)], Nat.le_of_eq (by show 1 = p + 1 - p; omega), fun bs => ty_val (by decide) (by decide) bs, okP (by decide), fun er es m sK sD K he hm kk => uV (n + 1) ?_, fun me go gw m K hm kk => vV (n' + 1) ?_⟩⟩
  · rw [erF_no n44] at kk
    have kk2 : K (nI (p + 1), nI (kN x (p + 1)), er, es, nI (m + 1), upd sK m (nI 16), upd sD m (cDt x E nm (16, p))) := kk
    rw [d1] at kk2
    unfold wX3_readValue_E
    rw [h]
    refine ⟨fun z => absurd z (by decide), fun _ => ?_, fun z => absurd z (by decide), fun z => absurd z (by decide), fun z => absurd z (by decide), fun z => absurd z (by decide), fun z => absurd z (by decide), fun z => absurd z (by decide), fun z => absurd z (by decide), fun z => absurd z (by decide), fun z => absurd z (by decide), fun z => absurd z (by decide), fun _ z16 _ _ _ _ _ _ _ _ _ _ => absurd rfl z16⟩
    unfold wX3_readValue_175
    exact c_push (by omega) (c_adv wf rc lt kk2)
  · rw [meF_no n44] at kk
    have kk2 : K 1 (me, nI (p + 1), nI d, upd go m (nI (mkT 16)), upd gw m (mWt x (16, p)), nI (m + 1)) := kk
    rw [d2] at kk2
    unfold wX10_isValue_E
    rw [nI_clamp (by omega), (rm p hp).1, h]
    refine ⟨vp_in_nI (by omega) (by decide), bn_f (by decide) (bn_f (by decide) (br_f (by decide) (bn_f (by decide) (br_f (by decide) (bn_f (by decide) (bn_f (by decide) (bn_f (by decide) (?_))))))))⟩
    unfold wX10_isIn
    refine br_f (by decide) (br_f (by decide) (br_f (by decide) (m_put (by omega) ?_)))
    unfold wX10_isValue_193
    rw [nI_1]
    exact kk2
theorem val17 (wf : wfN x) (rc : rNc x ki st nu na) (rm : rNm x mk fr va) (hE : E ≤ 6) {n n' : Nat} (hd : d ≤ 8) (hp : p ≤ nN x) (h : kN x p = 17) : Out x E nm (cA x ki st nu na E nm (n + 2) 4 d) (mA mk va (n' + 2) 4) d p [] false := by
  have n4 := wf.1
  have lt := kN_lt wf hp (by omega)
  have n44 : kN x p ≠ 44 := by omega
  have d1 : cDt x E nm (17, p) = 0 := cDk (by decide)
  have d2 : mWt x (17, p) = 0 := mWk (by decide)
  refine ⟨p + 1, by omega, by omega, Or.inr ⟨[(17, p)], Nat.le_of_eq (by show 1 = p + 1 - p; omega), fun bs => ty_val (by decide) (by decide) bs, okP (by decide), fun er es m sK sD K he hm kk => uV (n + 1) ?_, fun me go gw m K hm kk => vV (n' + 1) ?_⟩⟩
  · rw [erF_no n44] at kk
    have kk2 : K (nI (p + 1), nI (kN x (p + 1)), er, es, nI (m + 1), upd sK m (nI 17), upd sD m (cDt x E nm (17, p))) := kk
    rw [d1] at kk2
    unfold wX3_readValue_E
    rw [h]
    refine ⟨fun z => absurd z (by decide), fun z => absurd z (by decide), fun _ => ?_, fun z => absurd z (by decide), fun z => absurd z (by decide), fun z => absurd z (by decide), fun z => absurd z (by decide), fun z => absurd z (by decide), fun z => absurd z (by decide), fun z => absurd z (by decide), fun z => absurd z (by decide), fun z => absurd z (by decide), fun _ _ z17 _ _ _ _ _ _ _ _ _ => absurd rfl z17⟩
    unfold wX3_readValue_175
    exact c_push (by omega) (c_adv wf rc lt kk2)
  · rw [meF_no n44] at kk
    have kk2 : K 1 (me, nI (p + 1), nI d, upd go m (nI (mkT 17)), upd gw m (mWt x (17, p)), nI (m + 1)) := kk
    rw [d2] at kk2
    unfold wX10_isValue_E
    rw [nI_clamp (by omega), (rm p hp).1, h]
    refine ⟨vp_in_nI (by omega) (by decide), bn_f (by decide) (bn_f (by decide) (br_f (by decide) (bn_f (by decide) (br_f (by decide) (bn_f (by decide) (bn_f (by decide) (bn_f (by decide) (?_))))))))⟩
    unfold wX10_isIn
    refine br_f (by decide) (br_f (by decide) (br_f (by decide) (m_put (by omega) ?_)))
    unfold wX10_isValue_193
    rw [nI_1]
    exact kk2
theorem val18 (wf : wfN x) (rc : rNc x ki st nu na) (rm : rNm x mk fr va) (hE : E ≤ 6) {n n' : Nat} (hd : d ≤ 8) (hp : p ≤ nN x) (h : kN x p = 18) : Out x E nm (cA x ki st nu na E nm (n + 2) 4 d) (mA mk va (n' + 2) 4) d p [] false := by
  have n4 := wf.1
  have lt := kN_lt wf hp (by omega)
  have n44 : kN x p ≠ 44 := by omega
  have d1 : cDt x E nm (18, p) = 0 := cDk (by decide)
  have d2 : mWt x (18, p) = 0 := mWk (by decide)
  refine ⟨p + 1, by omega, by omega, Or.inr ⟨[(18, p)], Nat.le_of_eq (by show 1 = p + 1 - p; omega), fun bs => ty_val (by decide) (by decide) bs, okP (by decide), fun er es m sK sD K he hm kk => uV (n + 1) ?_, fun me go gw m K hm kk => vV (n' + 1) ?_⟩⟩
  · rw [erF_no n44] at kk
    have kk2 : K (nI (p + 1), nI (kN x (p + 1)), er, es, nI (m + 1), upd sK m (nI 18), upd sD m (cDt x E nm (18, p))) := kk
    rw [d1] at kk2
    unfold wX3_readValue_E
    rw [h]
    refine ⟨fun z => absurd z (by decide), fun z => absurd z (by decide), fun z => absurd z (by decide), fun _ => ?_, fun z => absurd z (by decide), fun z => absurd z (by decide), fun z => absurd z (by decide), fun z => absurd z (by decide), fun z => absurd z (by decide), fun z => absurd z (by decide), fun z => absurd z (by decide), fun z => absurd z (by decide), fun _ _ _ z18 _ _ _ _ _ _ _ _ => absurd rfl z18⟩
    unfold wX3_readValue_175
    exact c_push (by omega) (c_adv wf rc lt kk2)
  · rw [meF_no n44] at kk
    have kk2 : K 1 (me, nI (p + 1), nI d, upd go m (nI (mkT 18)), upd gw m (mWt x (18, p)), nI (m + 1)) := kk
    rw [d2] at kk2
    unfold wX10_isValue_E
    rw [nI_clamp (by omega), (rm p hp).1, h]
    refine ⟨vp_in_nI (by omega) (by decide), bn_f (by decide) (bn_f (by decide) (br_f (by decide) (bn_f (by decide) (br_f (by decide) (bn_f (by decide) (bn_f (by decide) (bn_f (by decide) (?_))))))))⟩
    unfold wX10_isIn
    refine br_f (by decide) (br_f (by decide) (br_f (by decide) (m_put (by omega) ?_)))
    unfold wX10_isValue_193
    rw [nI_1]
    exact kk2
theorem val19 (wf : wfN x) (rc : rNc x ki st nu na) (rm : rNm x mk fr va) (hE : E ≤ 6) {n n' : Nat} (hd : d ≤ 8) (hp : p ≤ nN x) (h : kN x p = 19) : Out x E nm (cA x ki st nu na E nm (n + 2) 4 d) (mA mk va (n' + 2) 4) d p [] false := by
  have n4 := wf.1
  have lt := kN_lt wf hp (by omega)
  have n44 : kN x p ≠ 44 := by omega
  by_cases h2 : kN x (p + 1) = 10
  case pos =>
    have lt2 := kN_lt wf (p := p + 1) (by omega) (by omega)
    by_cases h3 : kN x (p + 2) = 44
    case pos =>
      have lt3 := kN_lt wf (p := p + 2) (by omega) (by omega)
      have d1 : cDt x E nm (19, p + 2) = fI (emF nm (cN x (p + 2)) E) := cDn (by decide)
      have d2 : mWt x (19, p + 2) = nI (p + 2) := mWn (by decide)
      refine ⟨p + 3, by omega, by omega, Or.inr ⟨[(19, p + 2)], by show 1 ≤ p + 3 - p; omega, fun bs => ty_val (by decide) (by decide) bs, okL_name ⟨by show p ≤ p + 2; omega, by show p + 2 < p + 3; omega, h3⟩, fun er es m sK sD K he hm kk => uV (n + 1) ?_, fun me go gw m K hm kk => vV (n' + 1) ?_⟩⟩
      rw [erF_pre n44 (by omega), erF_pre (by omega) (by omega)] at kk
      have kk2 : K (nI (p + 3), nI (kN x (p + 3)), (erF x (bdN x E nm) (p + 2) (p + 3) (er, es)).1, (erF x (bdN x E nm) (p + 2) (p + 3) (er, es)).2, nI (m + 1), upd sK m (nI 19), upd sD m (cDt x E nm (19, p + 2))) := kk
      rw [d1] at kk2
      unfold wX3_readValue_E
      rw [h]
      refine ⟨fun z => absurd z (by decide), fun z => absurd z (by decide), fun z => absurd z (by decide), fun z => absurd z (by decide), fun _ => ?_, fun z => absurd z (by decide), fun z => absurd z (by decide), fun z => absurd z (by decide), fun z => absurd z (by decide), fun z => absurd z (by decide), fun z => absurd z (by decide), fun z => absurd z (by decide), fun _ _ _ _ z19 _ _ _ _ _ _ _ => absurd rfl z19⟩
      unfold wX3_readValue_194
      exact c_adv wf rc lt (c_exp_y wf rc (by omega) 10 h2 (c_known_y wf rc (by omega) h3 hE (c_push (by omega) kk2)))
      rw [meF_pre n44 (by omega), meF_pre (by omega) (by omega), meF_yes h3] at kk
      have kk2 : K 1 (upd me (p + 2) 12, nI (p + 3), nI d, upd go m (nI (mkT 19)), upd gw m (mWt x (19, p + 2)), nI (m + 1)) := kk
      rw [d2] at kk2
      unfold wX10_isValue_E
      rw [nI_clamp (by omega), (rm p hp).1, h]
      refine ⟨vp_in_nI (by omega) (by decide), bn_f (by decide) (bn_f (by decide) (br_f (by decide) (bn_f (by decide) (br_t (by decide) (?_)))))⟩
      unfold wX10_isValue_124 wX10_isAbout
      rw [nI_1 p]
      refine br_f (by decide) (m_eat_y wf rm (by omega) 10 h2 (bn_f (by decide) ?_))
      unfold wX10_isAbout_27
      exact m_put (by omega) (m_as_y wf rm (by omega) 44 h3 kk2)
    case neg =>
      refine ⟨p + 2, by omega, by omega, Or.inl ⟨fun er es m sK sD K he hm kk => uV (n + 1) ?_, fun me go gw m K hm kk => vV (n' + 1) ?_⟩⟩
      unfold wX3_readValue_E
      rw [h]
      refine ⟨fun z => absurd z (by decide), fun z => absurd z (by decide), fun z => absurd z (by decide), fun z => absurd z (by decide), fun _ => ?_, fun z => absurd z (by decide), fun z => absurd z (by decide), fun z => absurd z (by decide), fun z => absurd z (by decide), fun z => absurd z (by decide), fun z => absurd z (by decide), fun z => absurd z (by decide), fun _ _ _ _ z19 _ _ _ _ _ _ _ => absurd rfl z19⟩
      unfold wX3_readValue_194
      exact c_adv wf rc lt (c_exp_y wf rc (by omega) 10 h2 (c_known_n wf rc (by omega) h3 he (c_pushB (by omega) (fun m' sK' sD' hm' => kk m' sK' sD' hm'))))
      unfold wX10_isValue_E
      rw [nI_clamp (by omega), (rm p hp).1, h]
      refine ⟨vp_in_nI (by omega) (by decide), bn_f (by decide) (bn_f (by decide) (br_f (by decide) (bn_f (by decide) (br_t (by decide) (?_)))))⟩
      unfold wX10_isValue_124 wX10_isAbout
      rw [nI_1 p]
      refine br_f (by decide) (m_eat_y wf rm (by omega) 10 h2 (bn_f (by decide) ?_))
      unfold wX10_isAbout_27
      exact m_put (by omega) (m_as_n wf rm (by omega) 44 h3 (kk _ rfl))
  case neg =>
    refine ⟨p + 1, by omega, by omega, Or.inl ⟨fun er es m sK sD K he hm kk => uV (n + 1) ?_, fun me go gw m K hm kk => vV (n' + 1) ?_⟩⟩
    unfold wX3_readValue_E
    rw [h]
    refine ⟨fun z => absurd z (by decide), fun z => absurd z (by decide), fun z => absurd z (by decide), fun z => absurd z (by decide), fun _ => ?_, fun z => absurd z (by decide), fun z => absurd z (by decide), fun z => absurd z (by decide), fun z => absurd z (by decide), fun z => absurd z (by decide), fun z => absurd z (by decide), fun z => absurd z (by decide), fun _ _ _ _ z19 _ _ _ _ _ _ _ => absurd rfl z19⟩
    unfold wX3_readValue_194
    exact c_adv wf rc lt (c_exp_n wf rc (by omega) he 10 h2 (c_known_B (c_pushB (by omega) (fun m' sK' sD' hm' => kk m' sK' sD' hm'))))
    unfold wX10_isValue_E
    rw [nI_clamp (by omega), (rm p hp).1, h]
    refine ⟨vp_in_nI (by omega) (by decide), bn_f (by decide) (bn_f (by decide) (br_f (by decide) (bn_f (by decide) (br_t (by decide) (?_)))))⟩
    unfold wX10_isValue_124 wX10_isAbout
    rw [nI_1 p]
    exact br_f (by decide) (m_eat_n wf rm (by omega) 10 h2 (bn_t rfl (kk _ rfl)))
theorem val20 (wf : wfN x) (rc : rNc x ki st nu na) (rm : rNm x mk fr va) (hE : E ≤ 6) {n n' : Nat} (hd : d ≤ 8) (hp : p ≤ nN x) (h : kN x p = 20) : Out x E nm (cA x ki st nu na E nm (n + 2) 4 d) (mA mk va (n' + 2) 4) d p [] false := by
  have n4 := wf.1
  have lt := kN_lt wf hp (by omega)
  have n44 : kN x p ≠ 44 := by omega
  by_cases h2 : kN x (p + 1) = 10
  case pos =>
    have lt2 := kN_lt wf (p := p + 1) (by omega) (by omega)
    by_cases h3 : kN x (p + 2) = 44
    case pos =>
      have lt3 := kN_lt wf (p := p + 2) (by omega) (by omega)
      have d1 : cDt x E nm (20, p + 2) = fI (emF nm (cN x (p + 2)) E) := cDn (by decide)
      have d2 : mWt x (20, p + 2) = nI (p + 2) := mWn (by decide)
      refine ⟨p + 3, by omega, by omega, Or.inr ⟨[(20, p + 2)], by show 1 ≤ p + 3 - p; omega, fun bs => ty_val (by decide) (by decide) bs, okL_name ⟨by show p ≤ p + 2; omega, by show p + 2 < p + 3; omega, h3⟩, fun er es m sK sD K he hm kk => uV (n + 1) ?_, fun me go gw m K hm kk => vV (n' + 1) ?_⟩⟩
      rw [erF_pre n44 (by omega), erF_pre (by omega) (by omega)] at kk
      have kk2 : K (nI (p + 3), nI (kN x (p + 3)), (erF x (bdN x E nm) (p + 2) (p + 3) (er, es)).1, (erF x (bdN x E nm) (p + 2) (p + 3) (er, es)).2, nI (m + 1), upd sK m (nI 20), upd sD m (cDt x E nm (20, p + 2))) := kk
      rw [d1] at kk2
      unfold wX3_readValue_E
      rw [h]
      refine ⟨fun z => absurd z (by decide), fun z => absurd z (by decide), fun z => absurd z (by decide), fun z => absurd z (by decide), fun z => absurd z (by decide), fun _ => ?_, fun z => absurd z (by decide), fun z => absurd z (by decide), fun z => absurd z (by decide), fun z => absurd z (by decide), fun z => absurd z (by decide), fun z => absurd z (by decide), fun _ _ _ _ _ z20 _ _ _ _ _ _ => absurd rfl z20⟩
      unfold wX3_readValue_194
      exact c_adv wf rc lt (c_exp_y wf rc (by omega) 10 h2 (c_known_y wf rc (by omega) h3 hE (c_push (by omega) kk2)))
      rw [meF_pre n44 (by omega), meF_pre (by omega) (by omega), meF_yes h3] at kk
      have kk2 : K 1 (upd me (p + 2) 12, nI (p + 3), nI d, upd go m (nI (mkT 20)), upd gw m (mWt x (20, p + 2)), nI (m + 1)) := kk
      rw [d2] at kk2
      unfold wX10_isValue_E
      rw [nI_clamp (by omega), (rm p hp).1, h]
      refine ⟨vp_in_nI (by omega) (by decide), bn_f (by decide) (bn_f (by decide) (br_f (by decide) (bn_f (by decide) (br_f (by decide) (bn_t (by decide) (?_))))))⟩
      unfold wX10_isValue_124 wX10_isAbout
      rw [nI_1 p]
      refine br_f (by decide) (m_eat_y wf rm (by omega) 10 h2 (bn_f (by decide) ?_))
      unfold wX10_isAbout_27
      exact m_put (by omega) (m_as_y wf rm (by omega) 44 h3 kk2)
    case neg =>
      refine ⟨p + 2, by omega, by omega, Or.inl ⟨fun er es m sK sD K he hm kk => uV (n + 1) ?_, fun me go gw m K hm kk => vV (n' + 1) ?_⟩⟩
      unfold wX3_readValue_E
      rw [h]
      refine ⟨fun z => absurd z (by decide), fun z => absurd z (by decide), fun z => absurd z (by decide), fun z => absurd z (by decide), fun z => absurd z (by decide), fun _ => ?_, fun z => absurd z (by decide), fun z => absurd z (by decide), fun z => absurd z (by decide), fun z => absurd z (by decide), fun z => absurd z (by decide), fun z => absurd z (by decide), fun _ _ _ _ _ z20 _ _ _ _ _ _ => absurd rfl z20⟩
      unfold wX3_readValue_194
      exact c_adv wf rc lt (c_exp_y wf rc (by omega) 10 h2 (c_known_n wf rc (by omega) h3 he (c_pushB (by omega) (fun m' sK' sD' hm' => kk m' sK' sD' hm'))))
      unfold wX10_isValue_E
      rw [nI_clamp (by omega), (rm p hp).1, h]
      refine ⟨vp_in_nI (by omega) (by decide), bn_f (by decide) (bn_f (by decide) (br_f (by decide) (bn_f (by decide) (br_f (by decide) (bn_t (by decide) (?_))))))⟩
      unfold wX10_isValue_124 wX10_isAbout
      rw [nI_1 p]
      refine br_f (by decide) (m_eat_y wf rm (by omega) 10 h2 (bn_f (by decide) ?_))
      unfold wX10_isAbout_27
      exact m_put (by omega) (m_as_n wf rm (by omega) 44 h3 (kk _ rfl))
  case neg =>
    refine ⟨p + 1, by omega, by omega, Or.inl ⟨fun er es m sK sD K he hm kk => uV (n + 1) ?_, fun me go gw m K hm kk => vV (n' + 1) ?_⟩⟩
    unfold wX3_readValue_E
    rw [h]
    refine ⟨fun z => absurd z (by decide), fun z => absurd z (by decide), fun z => absurd z (by decide), fun z => absurd z (by decide), fun z => absurd z (by decide), fun _ => ?_, fun z => absurd z (by decide), fun z => absurd z (by decide), fun z => absurd z (by decide), fun z => absurd z (by decide), fun z => absurd z (by decide), fun z => absurd z (by decide), fun _ _ _ _ _ z20 _ _ _ _ _ _ => absurd rfl z20⟩
    unfold wX3_readValue_194
    exact c_adv wf rc lt (c_exp_n wf rc (by omega) he 10 h2 (c_known_B (c_pushB (by omega) (fun m' sK' sD' hm' => kk m' sK' sD' hm'))))
    unfold wX10_isValue_E
    rw [nI_clamp (by omega), (rm p hp).1, h]
    refine ⟨vp_in_nI (by omega) (by decide), bn_f (by decide) (bn_f (by decide) (br_f (by decide) (bn_f (by decide) (br_f (by decide) (bn_t (by decide) (?_))))))⟩
    unfold wX10_isValue_124 wX10_isAbout
    rw [nI_1 p]
    exact br_f (by decide) (m_eat_n wf rm (by omega) 10 h2 (bn_t rfl (kk _ rfl)))
theorem val21 (wf : wfN x) (rc : rNc x ki st nu na) (rm : rNm x mk fr va) (hE : E ≤ 6) {n n' : Nat} (hd : d ≤ 8) (hS : d < 8 → ∀ n1 n2 p, n ≤ n1 → n' ≤ n2 → p ≤ nN x → Out x E nm (cA x ki st nu na E nm n1 3 (d + 1)) (mA mk va n2 3) (d + 1) p [] false) (hp : p ≤ nN x) (h : kN x p = 21) : Out x E nm (cA x ki st nu na E nm (n + 2) 4 d) (mA mk va (n' + 2) 4) d p [] false := by
  have n4 := wf.1
  have lt := kN_lt wf hp (by omega)
  have n44 : kN x p ≠ 44 := by omega
  by_cases h2 : kN x (p + 1) ≠ 29 ∨ d = 8
  case pos =>
    refine ⟨p + 1, by omega, by omega, Or.inl ⟨fun er es m sK sD K he hm kk => uV (n + 1) ?_, fun me go gw m K hm kk => vV (n' + 1) ?_⟩⟩
    unfold wX3_readValue_E
    rw [h]
    refine ⟨fun z => absurd z (by decide), fun z => absurd z (by decide), fun z => absurd z (by decide), fun z => absurd z (by decide), fun z => absurd z (by decide), fun z => absurd z (by decide), fun _ => ?_, fun z => absurd z (by decide), fun z => absurd z (by decide), fun z => absurd z (by decide), fun z => absurd z (by decide), fun z => absurd z (by decide), fun _ _ _ _ _ _ z21 _ _ _ _ _ => absurd rfl z21⟩
    refine c_adv wf rc lt (uE n ?_)
    unfold wX3_readEnclosed_E
    exact c_deep_n wf rc (by omega) he 29 hd h2 (br_t rfl (c_pushB (by omega) (fun m' sK' sD' hm' => kk m' sK' sD' hm')))
    unfold wX10_isValue_E
    rw [nI_clamp (by omega), (rm p hp).1, h]
    refine ⟨vp_in_nI (by omega) (by decide), bn_f (by decide) (bn_f (by decide) (br_f (by decide) (bn_f (by decide) (br_f (by decide) (bn_f (by decide) (bn_t (by decide) (?_)))))))⟩
    refine v1 n' ?_
    unfold wX10_isOfOne_E
    rw [nI_1 p]
    exact bn_t (by decide) (m_deep_n wf rm (by omega) 29 hd h2 (br_t rfl (kk _ rfl)))
  case neg =>
    have h3 : kN x (p + 1) = 29 := by omega
    have d8 : d < 8 := by omega
    have lt2 := kN_lt wf (p := p + 1) (by omega) (by omega)
    obtain ⟨q, q1, q2, ⟨cf, mf⟩ | ⟨L, l1, l2, l3, cs, ms⟩⟩ := hS d8 n n' (p + 2) (by omega) (by omega) (by omega)
    refine ⟨q, by omega, q2, Or.inl ⟨fun er es m sK sD K he hm kk => uV (n + 1) ?_, fun me go gw m K hm kk => vV (n' + 1) ?_⟩⟩
    unfold wX3_readValue_E
    rw [h]
    refine ⟨fun z => absurd z (by decide), fun z => absurd z (by decide), fun z => absurd z (by decide), fun z => absurd z (by decide), fun z => absurd z (by decide), fun z => absurd z (by decide), fun _ => ?_, fun z => absurd z (by decide), fun z => absurd z (by decide), fun z => absurd z (by decide), fun z => absurd z (by decide), fun z => absurd z (by decide), fun _ _ _ _ _ _ z21 _ _ _ _ _ => absurd rfl z21⟩
    refine c_adv wf rc lt (uE n ?_)
    unfold wX3_readEnclosed_E
    refine c_deep_y wf rc (by omega) 29 h3 d8 (br_f (by decide) ?_)
    rw [nI_1 d]
    exact cf er es m sK sD _ he (by omega) (fun m' sK' sD' hm' => c_exp_B (c_pushB hm' (fun m2 sK2 sD2 hm2 => kk m2 sK2 sD2 hm2)))
    unfold wX10_isValue_E
    rw [nI_clamp (by omega), (rm p hp).1, h]
    refine ⟨vp_in_nI (by omega) (by decide), bn_f (by decide) (bn_f (by decide) (br_f (by decide) (bn_f (by decide) (br_f (by decide) (bn_f (by decide) (bn_t (by decide) (?_)))))))⟩
    refine v1 n' ?_
    unfold wX10_isOfOne_E
    rw [nI_1 p]
    exact bn_t (by decide) (m_deep_y wf rm (by omega) 29 h3 d8 (br_f (by decide) (mf me go gw m _ (by omega) (fun u hu => br_t rfl (kk _ hu)))))
    by_cases h4 : kN x q = 30
    case pos =>
      have lt4 := kN_lt wf q2 (by omega)
      refine ⟨q + 1, by omega, by omega, Or.inr ⟨L ++ [(21, p)], one_le (by omega), fun bs => ?_, okL_app l3 (okP (by decide)) (p := p) (q := q + 1) (p1 := p + 2) (p2 := p) (q1 := q) (q2 := q + 1) (by omega) (by omega) (by omega) (by omega), fun er es m sK sD K he hm kk => uV (n + 1) ?_, fun me go gw m K hm kk => vV (n' + 1) ?_⟩⟩
      rw [tyL_app (l2 bs)]
      exact ty_un (by decide) (by decide) (by decide) bs
      rw [List.length_append, ← Nat.add_assoc, apF_one, apF_one, cDk (k := 21) (t := p) (by decide), erF_pre n44 (by omega), erF_pre (by omega) (by omega), erF_suf (by omega) (by omega)] at kk
      unfold wX3_readValue_E
      rw [h]
      refine ⟨fun z => absurd z (by decide), fun z => absurd z (by decide), fun z => absurd z (by decide), fun z => absurd z (by decide), fun z => absurd z (by decide), fun z => absurd z (by decide), fun _ => ?_, fun z => absurd z (by decide), fun z => absurd z (by decide), fun z => absurd z (by decide), fun z => absurd z (by decide), fun z => absurd z (by decide), fun _ _ _ _ _ _ z21 _ _ _ _ _ => absurd rfl z21⟩
      refine c_adv wf rc lt (uE n ?_)
      unfold wX3_readEnclosed_E
      refine c_deep_y wf rc (by omega) 29 h3 d8 (br_f (by decide) ?_)
      rw [nI_1 d]
      exact cs er es m sK sD _ he (by omega) (c_exp_y wf rc q2 30 h4 (c_push (by omega) kk))
      rw [List.length_append, ← Nat.add_assoc, apF_one, apF_one, mWk (k := 21) (t := p) (by decide), meF_pre n44 (by omega), meF_pre (by omega) (by omega), meF_suf (by omega) (by omega)] at kk
      unfold wX10_isValue_E
      rw [nI_clamp (by omega), (rm p hp).1, h]
      refine ⟨vp_in_nI (by omega) (by decide), bn_f (by decide) (bn_f (by decide) (br_f (by decide) (bn_f (by decide) (br_f (by decide) (bn_f (by decide) (bn_t (by decide) (?_)))))))⟩
      refine v1 n' ?_
      unfold wX10_isOfOne_E
      rw [nI_1 p]
      refine bn_t (by decide) (m_deep_y wf rm (by omega) 29 h3 d8 (br_f (by decide) (ms me go gw m _ (by omega) (br_f (by decide) (m_close_y wf rm q2 30 h4 (bn_f (by decide) ?_))))))
      unfold wX10_isOfOne_55
      exact m_put (by omega) kk
    case neg =>
      refine ⟨q, by omega, q2, Or.inl ⟨fun er es m sK sD K he hm kk => uV (n + 1) ?_, fun me go gw m K hm kk => vV (n' + 1) ?_⟩⟩
      unfold wX3_readValue_E
      rw [h]
      refine ⟨fun z => absurd z (by decide), fun z => absurd z (by decide), fun z => absurd z (by decide), fun z => absurd z (by decide), fun z => absurd z (by decide), fun z => absurd z (by decide), fun _ => ?_, fun z => absurd z (by decide), fun z => absurd z (by decide), fun z => absurd z (by decide), fun z => absurd z (by decide), fun z => absurd z (by decide), fun _ _ _ _ _ _ z21 _ _ _ _ _ => absurd rfl z21⟩
      refine c_adv wf rc lt (uE n ?_)
      unfold wX3_readEnclosed_E
      refine c_deep_y wf rc (by omega) 29 h3 d8 (br_f (by decide) ?_)
      rw [nI_1 d]
      exact cs er es m sK sD _ he (by omega) (c_exp_n wf rc q2 (erF_ne he) 30 h4 (c_pushB (by omega) (fun m' sK' sD' hm' => kk m' sK' sD' hm')))
      unfold wX10_isValue_E
      rw [nI_clamp (by omega), (rm p hp).1, h]
      refine ⟨vp_in_nI (by omega) (by decide), bn_f (by decide) (bn_f (by decide) (br_f (by decide) (bn_f (by decide) (br_f (by decide) (bn_f (by decide) (bn_t (by decide) (?_)))))))⟩
      refine v1 n' ?_
      unfold wX10_isOfOne_E
      rw [nI_1 p]
      exact bn_t (by decide) (m_deep_y wf rm (by omega) 29 h3 d8 (br_f (by decide) (ms me go gw m _ (by omega) (br_f (by decide) (m_close_n wf rm q2 30 h4 (bn_t rfl (kk _ rfl)))))))
theorem val29 (wf : wfN x) (rc : rNc x ki st nu na) (rm : rNm x mk fr va) (hE : E ≤ 6) {n n' : Nat} (hd : d ≤ 8) (hS : d < 8 → ∀ n1 n2 p, n ≤ n1 → n' ≤ n2 → p ≤ nN x → Out x E nm (cA x ki st nu na E nm n1 3 (d + 1)) (mA mk va n2 3) (d + 1) p [] false) (hp : p ≤ nN x) (h : kN x p = 29) : Out x E nm (cA x ki st nu na E nm (n + 2) 4 d) (mA mk va (n' + 2) 4) d p [] false := by
  have n4 := wf.1
  have lt := kN_lt wf hp (by omega)
  have n44 : kN x p ≠ 44 := by omega
  by_cases h2 : d = 8
  case pos =>
    refine ⟨p, by omega, by omega, Or.inl ⟨fun er es m sK sD K he hm kk => uV (n + 1) ?_, fun me go gw m K hm kk => vV (n' + 1) ?_⟩⟩
    have e0 := c_deep_n wf rc (p := p) hp he 29 hd (Or.inr h2) (es := es) (K := fun r1 u1 => ((r1 = 0 → K (u1.1, u1.2.1, u1.2.2.1, u1.2.2.2, nI m, sK, sD)) ∧ (¬ r1 = 0 → wX3a n 3 ki st nu na (nI (nN x + 1)) u1.1 u1.2.1 u1.2.2.1 u1.2.2.2 (nI E) nm (nI m) sK sD (nI d + 1) (fun u2 => wX3_expect ki st (nI (nN x + 1)) u2.1 u2.2.1 u2.2.2.1 u2.2.2.2.1 30 (fun u3 => K (u3.1, u3.2.1, u3.2.2.1, u3.2.2.2, u2.2.2.2.2.1, u2.2.2.2.2.2.1, u2.2.2.2.2.2.2)))))) (w' := 29) (br_t rfl (kk _ _ _ (by omega)))
    rw [h] at e0
    unfold wX3_readValue_E
    rw [h]
    refine ⟨fun z => absurd z (by decide), fun z => absurd z (by decide), fun z => absurd z (by decide), fun z => absurd z (by decide), fun z => absurd z (by decide), fun z => absurd z (by decide), fun z => absurd z (by decide), fun z => absurd z (by decide), fun z => absurd z (by decide), fun _ => ?_, fun z => absurd z (by decide), fun z => absurd z (by decide), fun _ _ _ _ _ _ _ _ _ z29 _ _ => absurd rfl z29⟩
    refine uE n ?_
    unfold wX3_readEnclosed_E
    exact e0
    unfold wX10_isValue_E
    rw [nI_clamp (by omega), (rm p hp).1, h]
    refine ⟨vp_in_nI (by omega) (by decide), bn_f (by decide) (bn_t (by decide) (?_))⟩
    exact m_deep_n wf rm (by omega) 29 hd (Or.inr h2) (br_t rfl (kk _ rfl))
  case neg =>
    have d8 : d < 8 := by omega
    have cdy : ∀ er es (K : Int32 → (Int32 × Int32 × Int32 × Int32) → Prop), K 1 (nI (p + 1), nI (kN x (p + 1)), er, es) → wX3_goesDeeper ki st (nI (nN x + 1)) (nI p) (nI 29) er es 29 (nI d) K := by
      intro er es K kk
      have t := c_deep_y wf rc hp 29 h d8 (w' := 29) kk
      rw [h] at t; exact t
    obtain ⟨q, q1, q2, ⟨cf, mf⟩ | ⟨L, l1, l2, l3, cs, ms⟩⟩ := hS d8 n (n' + 1) (p + 1) (by omega) (by omega) (by omega)
    refine ⟨q, by omega, q2, Or.inl ⟨fun er es m sK sD K he hm kk => uV (n + 1) ?_, fun me go gw m K hm kk => vV (n' + 1) ?_⟩⟩
    unfold wX3_readValue_E
    rw [h]
    refine ⟨fun z => absurd z (by decide), fun z => absurd z (by decide), fun z => absurd z (by decide), fun z => absurd z (by decide), fun z => absurd z (by decide), fun z => absurd z (by decide), fun z => absurd z (by decide), fun z => absurd z (by decide), fun z => absurd z (by decide), fun _ => ?_, fun z => absurd z (by decide), fun z => absurd z (by decide), fun _ _ _ _ _ _ _ _ _ z29 _ _ => absurd rfl z29⟩
    refine uE n ?_
    unfold wX3_readEnclosed_E
    refine cdy _ _ _ (br_f (by decide) ?_)
    rw [nI_1 d]
    exact cf er es m sK sD _ he (by omega) (fun m' sK' sD' hm' => c_exp_B (kk _ _ _ hm'))
    unfold wX10_isValue_E
    rw [nI_clamp (by omega), (rm p hp).1, h]
    refine ⟨vp_in_nI (by omega) (by decide), bn_f (by decide) (bn_t (by decide) (?_))⟩
    exact m_deep_y wf rm hp 29 h d8 (br_f (by decide) (mf me go gw m _ (by omega) (fun u hu => br_t rfl (kk _ hu))))
    by_cases h4 : kN x q = 30
    case pos =>
      have lt4 := kN_lt wf q2 (by omega)
      refine ⟨q + 1, by omega, by omega, Or.inr ⟨L, by omega, l2, fun a ha z => (by have t := l3 a ha z; exact ⟨by omega, by omega, t.2.2⟩), fun er es m sK sD K he hm kk => uV (n + 1) ?_, fun me go gw m K hm kk => vV (n' + 1) ?_⟩⟩
      rw [erF_pre n44 (by omega), erF_suf (by omega) (by omega)] at kk
      unfold wX3_readValue_E
      rw [h]
      refine ⟨fun z => absurd z (by decide), fun z => absurd z (by decide), fun z => absurd z (by decide), fun z => absurd z (by decide), fun z => absurd z (by decide), fun z => absurd z (by decide), fun z => absurd z (by decide), fun z => absurd z (by decide), fun z => absurd z (by decide), fun _ => ?_, fun z => absurd z (by decide), fun z => absurd z (by decide), fun _ _ _ _ _ _ _ _ _ z29 _ _ => absurd rfl z29⟩
      refine uE n ?_
      unfold wX3_readEnclosed_E
      refine cdy _ _ _ (br_f (by decide) ?_)
      rw [nI_1 d]
      exact cs er es m sK sD _ he (by omega) (c_exp_y wf rc q2 30 h4 kk)
      rw [meF_pre n44 (by omega), meF_suf (by omega) (by omega)] at kk
      unfold wX10_isValue_E
      rw [nI_clamp (by omega), (rm p hp).1, h]
      refine ⟨vp_in_nI (by omega) (by decide), bn_f (by decide) (bn_t (by decide) (?_))⟩
      exact m_deep_y wf rm hp 29 h d8 (br_f (by decide) (ms me go gw m _ (by omega) (br_f (by decide) (m_close_y wf rm q2 30 h4 (br_f (by decide) kk)))))
    case neg =>
      refine ⟨q, by omega, q2, Or.inl ⟨fun er es m sK sD K he hm kk => uV (n + 1) ?_, fun me go gw m K hm kk => vV (n' + 1) ?_⟩⟩
      unfold wX3_readValue_E
      rw [h]
      refine ⟨fun z => absurd z (by decide), fun z => absurd z (by decide), fun z => absurd z (by decide), fun z => absurd z (by decide), fun z => absurd z (by decide), fun z => absurd z (by decide), fun z => absurd z (by decide), fun z => absurd z (by decide), fun z => absurd z (by decide), fun _ => ?_, fun z => absurd z (by decide), fun z => absurd z (by decide), fun _ _ _ _ _ _ _ _ _ z29 _ _ => absurd rfl z29⟩
      refine uE n ?_
      unfold wX3_readEnclosed_E
      refine cdy _ _ _ (br_f (by decide) ?_)
      rw [nI_1 d]
      exact cs er es m sK sD _ he (by omega) (c_exp_n wf rc q2 (erF_ne he) 30 h4 (kk _ _ _ (by omega)))
      unfold wX10_isValue_E
      rw [nI_clamp (by omega), (rm p hp).1, h]
      refine ⟨vp_in_nI (by omega) (by decide), bn_f (by decide) (bn_t (by decide) (?_))⟩
      exact m_deep_y wf rm hp 29 h d8 (br_f (by decide) (ms me go gw m _ (by omega) (br_f (by decide) (m_close_n wf rm q2 30 h4 (br_t rfl (kk _ rfl))))))
theorem val36 (wf : wfN x) (rc : rNc x ki st nu na) (rm : rNm x mk fr va) (hE : E ≤ 6) {n n' : Nat} (hd : d ≤ 8) (hV : d < 8 → ∀ n1 n2 p, n ≤ n1 → n' ≤ n2 → p ≤ nN x → Out x E nm (cA x ki st nu na E nm n1 4 (d + 1)) (mA mk va n2 4) (d + 1) p [] false) (hp : p ≤ nN x) (h : kN x p = 36) : Out x E nm (cA x ki st nu na E nm (n + 2) 4 d) (mA mk va (n' + 2) 4) d p [] false := by
  have n4 := wf.1
  have lt := kN_lt wf hp (by omega)
  have n44 : kN x p ≠ 44 := by omega
  by_cases h2 : d = 8
  case pos =>
    have cdn : ∀ er es (K : Int32 → (Int32 × Int32 × Int32 × Int32) → Prop), er ≠ 1 → K 0 (nI p, 48, 1, nI (sN x p)) → wX3_goesDeeper ki st (nI (nN x + 1)) (nI p) (nI 36) er es 36 (nI d) K := by
      intro er es K he kk
      have t := c_deep_n wf rc hp he 36 hd (Or.inr h2) (es := es) (w' := 36) kk
      rw [h] at t; exact t
    refine ⟨p, by omega, by omega, Or.inl ⟨fun er es m sK sD K he hm kk => uV (n + 1) ?_, fun me go gw m K hm kk => vV (n' + 1) ?_⟩⟩
    unfold wX3_readValue_E
    rw [h]
    refine ⟨fun z => absurd z (by decide), fun z => absurd z (by decide), fun z => absurd z (by decide), fun z => absurd z (by decide), fun z => absurd z (by decide), fun z => absurd z (by decide), fun z => absurd z (by decide), fun z => absurd z (by decide), fun z => absurd z (by decide), fun z => absurd z (by decide), fun _ => ?_, fun z => absurd z (by decide), fun _ _ _ _ _ _ _ _ _ _ z36 _ => absurd rfl z36⟩
    exact cdn _ _ _ he (br_t rfl (kk _ _ _ (by omega)))
    unfold wX10_isValue_E
    rw [nI_clamp (by omega), (rm p hp).1, h]
    refine ⟨vp_in_nI (by omega) (by decide), bn_t (by decide) (?_)⟩
    exact m_deep_n wf rm (by omega) 36 hd (Or.inr h2) (br_t rfl (kk _ rfl))
  case neg =>
    have d8 : d < 8 := by omega
    have cdy : ∀ er es (K : Int32 → (Int32 × Int32 × Int32 × Int32) → Prop), K 1 (nI (p + 1), nI (kN x (p + 1)), er, es) → wX3_goesDeeper ki st (nI (nN x + 1)) (nI p) (nI 36) er es 36 (nI d) K := by
      intro er es K kk
      have t := c_deep_y wf rc hp 36 h d8 (w' := 36) kk
      rw [h] at t; exact t
    obtain ⟨q, q1, q2, ⟨cf, mf⟩ | ⟨L, l1, l2, l3, cs, ms⟩⟩ := hV d8 (n + 1) (n' + 1) (p + 1) (by omega) (by omega) (by omega)
    refine ⟨q, by omega, q2, Or.inl ⟨fun er es m sK sD K he hm kk => uV (n + 1) ?_, fun me go gw m K hm kk => vV (n' + 1) ?_⟩⟩
    unfold wX3_readValue_E
    rw [h]
    refine ⟨fun z => absurd z (by decide), fun z => absurd z (by decide), fun z => absurd z (by decide), fun z => absurd z (by decide), fun z => absurd z (by decide), fun z => absurd z (by decide), fun z => absurd z (by decide), fun z => absurd z (by decide), fun z => absurd z (by decide), fun z => absurd z (by decide), fun _ => ?_, fun z => absurd z (by decide), fun _ _ _ _ _ _ _ _ _ _ z36 _ => absurd rfl z36⟩
    refine cdy _ _ _ (br_f (by decide) ?_)
    rw [nI_1 d]
    exact cf er es m sK sD _ he (by omega) (fun m' sK' sD' hm' => c_pushB hm' (fun m2 sK2 sD2 hm2 => kk _ _ _ hm2))
    unfold wX10_isValue_E
    rw [nI_clamp (by omega), (rm p hp).1, h]
    refine ⟨vp_in_nI (by omega) (by decide), bn_t (by decide) (?_)⟩
    exact m_deep_y wf rm hp 36 h d8 (br_f (by decide) (mf me go gw m _ (by omega) (fun u hu => bn_t rfl (kk _ hu))))
    refine ⟨q, by omega, by omega, Or.inr ⟨L ++ [(46, p)], one_le (by omega), fun bs => ?_, okL_app l3 (okP (by decide)) (p := p) (q := q) (p1 := p + 1) (p2 := p) (q1 := q) (q2 := q) (by omega) (by omega) (by omega) (by omega), fun er es m sK sD K he hm kk => uV (n + 1) ?_, fun me go gw m K hm kk => vV (n' + 1) ?_⟩⟩
    rw [tyL_app (l2 bs)]
    exact ty_un (by decide) (by decide) (by decide) bs
    rw [List.length_append, ← Nat.add_assoc, apF_one, apF_one, cDk (k := 46) (t := p) (by decide), erF_pre n44 (by omega)] at kk
    unfold wX3_readValue_E
    rw [h]
    refine ⟨fun z => absurd z (by decide), fun z => absurd z (by decide), fun z => absurd z (by decide), fun z => absurd z (by decide), fun z => absurd z (by decide), fun z => absurd z (by decide), fun z => absurd z (by decide), fun z => absurd z (by decide), fun z => absurd z (by decide), fun z => absurd z (by decide), fun _ => ?_, fun z => absurd z (by decide), fun _ _ _ _ _ _ _ _ _ _ z36 _ => absurd rfl z36⟩
    refine cdy _ _ _ (br_f (by decide) ?_)
    rw [nI_1 d]
    exact cs er es m sK sD _ he (by omega) (c_push (by omega) kk)
    rw [List.length_append, ← Nat.add_assoc, apF_one, apF_one, mWk (k := 46) (t := p) (by decide), meF_pre n44 (by omega), ← nI_pred d] at kk
    unfold wX10_isValue_E
    rw [nI_clamp (by omega), (rm p hp).1, h]
    refine ⟨vp_in_nI (by omega) (by decide), bn_t (by decide) (?_)⟩
    exact m_deep_y wf rm hp 36 h d8 (br_f (by decide) (ms me go gw m _ (by omega) (bn_f (by decide) (m_put (by omega) kk))))
theorem val27 (wf : wfN x) (rc : rNc x ki st nu na) (rm : rNm x mk fr va) (hE : E ≤ 6) {n n' : Nat} (hd : d ≤ 8) (hn : 4 ≤ n) (hS : d < 8 → ∀ n1 n2 p, n ≤ n1 → n' ≤ n2 → p ≤ nN x → Out x E nm (cA x ki st nu na E nm n1 3 (d + 1)) (mA mk va n2 3) (d + 1) p [] false) (hp : p ≤ nN x) (h : kN x p = 27) : Out x E nm (cA x ki st nu na E nm (n + 2) 4 d) (mA mk va (n' + 2) 4) d p [] false := by
  have n4 := wf.1
  have lt := kN_lt wf hp (by omega)
  have n44 : kN x p ≠ 44 := by omega
  have bS : cB (cA x ki st nu na E nm n 3 (d + 1)) := by
    obtain ⟨m, rfl⟩ : ∃ m, n = m + 3 := ⟨n - 3, by omega⟩
    exact bSum
  by_cases h2 : kN x (p + 1) ≠ 29 ∨ d = 8
  case pos =>
    refine ⟨p + 1, by omega, by omega, Or.inl ⟨fun er es m sK sD K he hm kk => uV (n + 1) ?_, fun me go gw m K hm kk => vV (n' + 1) ?_⟩⟩
    unfold wX3_readValue_E
    rw [h]
    refine ⟨fun z => absurd z (by decide), fun z => absurd z (by decide), fun z => absurd z (by decide), fun z => absurd z (by decide), fun z => absurd z (by decide), fun z => absurd z (by decide), fun z => absurd z (by decide), fun _ => ?_, fun z => absurd z (by decide), fun z => absurd z (by decide), fun z => absurd z (by decide), fun z => absurd z (by decide), fun _ _ _ _ _ _ _ z27 _ _ _ _ => absurd rfl z27⟩
    unfold wX3_readValue_288
    refine c_adv wf rc lt (uP n ?_)
    unfold wX3_readPair_E
    exact c_deep_n wf rc (by omega) he 29 hd h2 (br_t rfl (c_pushB (by omega) (fun m' sK' sD' hm' => kk m' sK' sD' hm')))
    unfold wX10_isValue_E
    rw [nI_clamp (by omega), (rm p hp).1, h]
    refine ⟨vp_in_nI (by omega) (by decide), bn_f (by decide) (bn_f (by decide) (br_t (by decide) (?_)))⟩
    unfold wX10_isValue_105
    refine v2 n' ?_
    unfold wX10_isOfTwo_E
    rw [nI_1 p]
    exact m_deep_n wf rm (by omega) 29 hd h2 (br_t rfl (kk _ rfl))
  case neg =>
    have h3 : kN x (p + 1) = 29 := by omega
    have d8 : d < 8 := by omega
    have lt2 := kN_lt wf (p := p + 1) (by omega) (by omega)
    obtain ⟨q, q1, q2, ⟨cf, mf⟩ | ⟨L, l1, l2, l3, cs, ms⟩⟩ := hS d8 n n' (p + 2) (by omega) (by omega) (by omega)
    refine ⟨q, by omega, q2, Or.inl ⟨fun er es m sK sD K he hm kk => uV (n + 1) ?_, fun me go gw m K hm kk => vV (n' + 1) ?_⟩⟩
    unfold wX3_readValue_E
    rw [h]
    refine ⟨fun z => absurd z (by decide), fun z => absurd z (by decide), fun z => absurd z (by decide), fun z => absurd z (by decide), fun z => absurd z (by decide), fun z => absurd z (by decide), fun z => absurd z (by decide), fun _ => ?_, fun z => absurd z (by decide), fun z => absurd z (by decide), fun z => absurd z (by decide), fun z => absurd z (by decide), fun _ _ _ _ _ _ _ z27 _ _ _ _ => absurd rfl z27⟩
    unfold wX3_readValue_288
    refine c_adv wf rc lt (uP n ?_)
    unfold wX3_readPair_E
    refine c_deep_y wf rc (by omega) 29 h3 d8 (br_f (by decide) ?_)
    rw [nI_1 d]
    exact cf er es m sK sD _ he (by omega) (fun m' sK' sD' hm' => c_exp_B (bS q _ m' sK' sD' _ (by omega) hm' (fun m2 sK2 sD2 hm2 => c_exp_B (c_pushB hm2 (fun m3 sK3 sD3 hm3 => kk _ _ _ hm3)))))
    unfold wX10_isValue_E
    rw [nI_clamp (by omega), (rm p hp).1, h]
    refine ⟨vp_in_nI (by omega) (by decide), bn_f (by decide) (bn_f (by decide) (br_t (by decide) (?_)))⟩
    unfold wX10_isValue_105
    refine v2 n' ?_
    unfold wX10_isOfTwo_E
    rw [nI_1 p]
    exact m_deep_y wf rm (by omega) 29 h3 d8 (br_f (by decide) (mf me go gw m _ (by omega) (fun u hu => br_t rfl (kk _ hu))))
    by_cases h4 : kN x q = 34
    case neg =>
      refine ⟨q, by omega, q2, Or.inl ⟨fun er es m sK sD K he hm kk => uV (n + 1) ?_, fun me go gw m K hm kk => vV (n' + 1) ?_⟩⟩
      unfold wX3_readValue_E
      rw [h]
      refine ⟨fun z => absurd z (by decide), fun z => absurd z (by decide), fun z => absurd z (by decide), fun z => absurd z (by decide), fun z => absurd z (by decide), fun z => absurd z (by decide), fun z => absurd z (by decide), fun _ => ?_, fun z => absurd z (by decide), fun z => absurd z (by decide), fun z => absurd z (by decide), fun z => absurd z (by decide), fun _ _ _ _ _ _ _ z27 _ _ _ _ => absurd rfl z27⟩
      unfold wX3_readValue_288
      refine c_adv wf rc lt (uP n ?_)
      unfold wX3_readPair_E
      refine c_deep_y wf rc (by omega) 29 h3 d8 (br_f (by decide) ?_)
      rw [nI_1 d]
      exact cs er es m sK sD _ he (by omega) (c_exp_n wf rc q2 (erF_ne he) 34 h4 (bS q _ _ _ _ _ (by omega) (by omega) (fun m2 sK2 sD2 hm2 => c_exp_B (c_pushB hm2 (fun m3 sK3 sD3 hm3 => kk _ _ _ hm3)))))
      unfold wX10_isValue_E
      rw [nI_clamp (by omega), (rm p hp).1, h]
      refine ⟨vp_in_nI (by omega) (by decide), bn_f (by decide) (bn_f (by decide) (br_t (by decide) (?_)))⟩
      unfold wX10_isValue_105
      refine v2 n' ?_
      unfold wX10_isOfTwo_E
      rw [nI_1 p]
      exact m_deep_y wf rm (by omega) 29 h3 d8 (br_f (by decide) (ms me go gw m _ (by omega) (br_f (by decide) (m_eat_n wf rm q2 34 h4 (br_t rfl (kk _ rfl))))))
    case pos =>
      have lt4 := kN_lt wf q2 (by omega)
      obtain ⟨r, r1, r2, ⟨cf2, mf2⟩ | ⟨L2, k1, k2, k3, cs2, ms2⟩⟩ := hS d8 n n' (q + 1) (by omega) (by omega) (by omega)
      refine ⟨r, by omega, r2, Or.inl ⟨fun er es m sK sD K he hm kk => uV (n + 1) ?_, fun me go gw m K hm kk => vV (n' + 1) ?_⟩⟩
      unfold wX3_readValue_E
      rw [h]
      refine ⟨fun z => absurd z (by decide), fun z => absurd z (by decide), fun z => absurd z (by decide), fun z => absurd z (by decide), fun z => absurd z (by decide), fun z => absurd z (by decide), fun z => absurd z (by decide), fun _ => ?_, fun z => absurd z (by decide), fun z => absurd z (by decide), fun z => absurd z (by decide), fun z => absurd z (by decide), fun _ _ _ _ _ _ _ z27 _ _ _ _ => absurd rfl z27⟩
      unfold wX3_readValue_288
      refine c_adv wf rc lt (uP n ?_)
      unfold wX3_readPair_E
      refine c_deep_y wf rc (by omega) 29 h3 d8 (br_f (by decide) ?_)
      rw [nI_1 d]
      refine cs er es m sK sD _ he (by omega) (c_exp_y wf rc q2 34 h4 ?_)
      exact cf2 _ _ (m + L.length) _ _ _ (erF_ne he) (by omega) (fun m2 sK2 sD2 hm2 => c_exp_B (c_pushB hm2 (fun m3 sK3 sD3 hm3 => kk _ _ _ hm3)))
      unfold wX10_isValue_E
      rw [nI_clamp (by omega), (rm p hp).1, h]
      refine ⟨vp_in_nI (by omega) (by decide), bn_f (by decide) (bn_f (by decide) (br_t (by decide) (?_)))⟩
      unfold wX10_isValue_105
      refine v2 n' ?_
      unfold wX10_isOfTwo_E
      rw [nI_1 p]
      exact m_deep_y wf rm (by omega) 29 h3 d8 (br_f (by decide) (ms me go gw m _ (by omega) (br_f (by decide) (m_eat_y wf rm q2 34 h4 (br_f (by decide) (mf2 _ _ _ (m + L.length) _ (by omega) (fun u hu => br_t rfl (kk _ hu))))))))
      by_cases h5 : kN x r = 30
      case neg =>
        refine ⟨r, by omega, r2, Or.inl ⟨fun er es m sK sD K he hm kk => uV (n + 1) ?_, fun me go gw m K hm kk => vV (n' + 1) ?_⟩⟩
        unfold wX3_readValue_E
        rw [h]
        refine ⟨fun z => absurd z (by decide), fun z => absurd z (by decide), fun z => absurd z (by decide), fun z => absurd z (by decide), fun z => absurd z (by decide), fun z => absurd z (by decide), fun z => absurd z (by decide), fun _ => ?_, fun z => absurd z (by decide), fun z => absurd z (by decide), fun z => absurd z (by decide), fun z => absurd z (by decide), fun _ _ _ _ _ _ _ z27 _ _ _ _ => absurd rfl z27⟩
        unfold wX3_readValue_288
        refine c_adv wf rc lt (uP n ?_)
        unfold wX3_readPair_E
        refine c_deep_y wf rc (by omega) 29 h3 d8 (br_f (by decide) ?_)
        rw [nI_1 d]
        refine cs er es m sK sD _ he (by omega) (c_exp_y wf rc q2 34 h4 ?_)
        exact cs2 _ _ (m + L.length) _ _ _ (erF_ne he) (by omega) (c_exp_n wf rc r2 (erF_ne (erF_ne he)) 30 h5 (c_pushB (by omega) (fun m3 sK3 sD3 hm3 => kk _ _ _ hm3)))
        unfold wX10_isValue_E
        rw [nI_clamp (by omega), (rm p hp).1, h]
        refine ⟨vp_in_nI (by omega) (by decide), bn_f (by decide) (bn_f (by decide) (br_t (by decide) (?_)))⟩
        unfold wX10_isValue_105
        refine v2 n' ?_
        unfold wX10_isOfTwo_E
        rw [nI_1 p]
        exact m_deep_y wf rm (by omega) 29 h3 d8 (br_f (by decide) (ms me go gw m _ (by omega) (br_f (by decide) (m_eat_y wf rm q2 34 h4 (br_f (by decide) (ms2 _ _ _ (m + L.length) _ (by omega) (br_f (by decide) (m_close_n wf rm r2 30 h5 (bn_t rfl (kk _ rfl))))))))))
      case pos =>
        have lt5 := kN_lt wf r2 (by omega)
        refine ⟨r + 1, by omega, by omega, Or.inr ⟨L ++ L2 ++ [(27, p)], one_le (by rw [List.length_append]; omega), fun bs => ?_, okL_app (okL_app l3 k3 (p := p) (q := r) (p1 := p + 2) (q1 := q) (p2 := q + 1) (q2 := r) (by omega) (by omega) (by omega) (by omega)) (okP (by decide)) (p := p) (q := r + 1) (p1 := p) (p2 := p) (q1 := r) (q2 := r + 1) (by omega) (by omega) (by omega) (by omega), fun er es m sK sD K he hm kk => uV (n + 1) ?_, fun me go gw m K hm kk => vV (n' + 1) ?_⟩⟩
        have t1 : tyL L bs = some (false :: bs) := l2 bs
        have t2 : tyL L2 (false :: bs) = some (false :: false :: bs) := k2 (false :: bs)
        have t3 : tyL (L ++ L2) bs = some (false :: false :: bs) := (tyL_app t1).trans t2
        show tyL (L ++ L2 ++ [(27, p)]) bs = _
        rw [tyL_app t3]
        exact ty_bin (by decide) (by decide) bs
        rw [List.length_append, List.length_append, ← Nat.add_assoc, ← Nat.add_assoc, apF_one, apF_one, List.length_append, ← Nat.add_assoc, apF_app, apF_app, cDk (k := 27) (t := p) (by decide), erF_pre n44 (by omega), erF_pre (by omega) (by omega), erF_suf (by omega) (by omega), ← erF_join (p := p + 1 + 1) (q := q) (r := r) (by omega) (by omega), erF_pre (p := q) (by omega) (by omega)] at kk
        unfold wX3_readValue_E
        rw [h]
        refine ⟨fun z => absurd z (by decide), fun z => absurd z (by decide), fun z => absurd z (by decide), fun z => absurd z (by decide), fun z => absurd z (by decide), fun z => absurd z (by decide), fun z => absurd z (by decide), fun _ => ?_, fun z => absurd z (by decide), fun z => absurd z (by decide), fun z => absurd z (by decide), fun z => absurd z (by decide), fun _ _ _ _ _ _ _ z27 _ _ _ _ => absurd rfl z27⟩
        unfold wX3_readValue_288
        refine c_adv wf rc lt (uP n ?_)
        unfold wX3_readPair_E
        refine c_deep_y wf rc (by omega) 29 h3 d8 (br_f (by decide) ?_)
        rw [nI_1 d]
        refine cs er es m sK sD _ he (by omega) (c_exp_y wf rc q2 34 h4 ?_)
        exact cs2 _ _ (m + L.length) _ _ _ (erF_ne he) (by omega) (c_exp_y wf rc r2 30 h5 (c_push (by omega) kk))
        rw [List.length_append, List.length_append, ← Nat.add_assoc, ← Nat.add_assoc, apF_one, apF_one, List.length_append, ← Nat.add_assoc, apF_app, apF_app, mWk (k := 27) (t := p) (by decide), meF_pre n44 (by omega), meF_pre (by omega) (by omega), meF_suf (by omega) (by omega), ← meF_join (p := p + 1 + 1) (q := q) (r := r) (by omega) (by omega), meF_pre (p := q) (by omega) (by omega)] at kk
        unfold wX10_isValue_E
        rw [nI_clamp (by omega), (rm p hp).1, h]
        refine ⟨vp_in_nI (by omega) (by decide), bn_f (by decide) (bn_f (by decide) (br_t (by decide) (?_)))⟩
        unfold wX10_isValue_105
        refine v2 n' ?_
        unfold wX10_isOfTwo_E
        rw [nI_1 p]
        exact m_deep_y wf rm (by omega) 29 h3 d8 (br_f (by decide) (ms me go gw m _ (by omega) (br_f (by decide) (m_eat_y wf rm q2 34 h4 (br_f (by decide) (ms2 _ _ _ (m + L.length) _ (by omega) (br_f (by decide) (m_close_y wf rm r2 30 h5 (bn_f (by decide) (m_put (by omega) kk))))))))))
theorem val28 (wf : wfN x) (rc : rNc x ki st nu na) (rm : rNm x mk fr va) (hE : E ≤ 6) {n n' : Nat} (hd : d ≤ 8) (hn : 4 ≤ n) (hS : d < 8 → ∀ n1 n2 p, n ≤ n1 → n' ≤ n2 → p ≤ nN x → Out x E nm (cA x ki st nu na E nm n1 3 (d + 1)) (mA mk va n2 3) (d + 1) p [] false) (hp : p ≤ nN x) (h : kN x p = 28) : Out x E nm (cA x ki st nu na E nm (n + 2) 4 d) (mA mk va (n' + 2) 4) d p [] false := by
  have n4 := wf.1
  have lt := kN_lt wf hp (by omega)
  have n44 : kN x p ≠ 44 := by omega
  have bS : cB (cA x ki st nu na E nm n 3 (d + 1)) := by
    obtain ⟨m, rfl⟩ : ∃ m, n = m + 3 := ⟨n - 3, by omega⟩
    exact bSum
  by_cases h2 : kN x (p + 1) ≠ 29 ∨ d = 8
  case pos =>
    refine ⟨p + 1, by omega, by omega, Or.inl ⟨fun er es m sK sD K he hm kk => uV (n + 1) ?_, fun me go gw m K hm kk => vV (n' + 1) ?_⟩⟩
    unfold wX3_readValue_E
    rw [h]
    refine ⟨fun z => absurd z (by decide), fun z => absurd z (by decide), fun z => absurd z (by decide), fun z => absurd z (by decide), fun z => absurd z (by decide), fun z => absurd z (by decide), fun z => absurd z (by decide), fun z => absurd z (by decide), fun _ => ?_, fun z => absurd z (by decide), fun z => absurd z (by decide), fun z => absurd z (by decide), fun _ _ _ _ _ _ _ _ z28 _ _ _ => absurd rfl z28⟩
    unfold wX3_readValue_288
    refine c_adv wf rc lt (uP n ?_)
    unfold wX3_readPair_E
    exact c_deep_n wf rc (by omega) he 29 hd h2 (br_t rfl (c_pushB (by omega) (fun m' sK' sD' hm' => kk m' sK' sD' hm')))
    unfold wX10_isValue_E
    rw [nI_clamp (by omega), (rm p hp).1, h]
    refine ⟨vp_in_nI (by omega) (by decide), bn_f (by decide) (bn_f (by decide) (br_f (by decide) (bn_t (by decide) (?_))))⟩
    unfold wX10_isValue_105
    refine v2 n' ?_
    unfold wX10_isOfTwo_E
    rw [nI_1 p]
    exact m_deep_n wf rm (by omega) 29 hd h2 (br_t rfl (kk _ rfl))
  case neg =>
    have h3 : kN x (p + 1) = 29 := by omega
    have d8 : d < 8 := by omega
    have lt2 := kN_lt wf (p := p + 1) (by omega) (by omega)
    obtain ⟨q, q1, q2, ⟨cf, mf⟩ | ⟨L, l1, l2, l3, cs, ms⟩⟩ := hS d8 n n' (p + 2) (by omega) (by omega) (by omega)
    refine ⟨q, by omega, q2, Or.inl ⟨fun er es m sK sD K he hm kk => uV (n + 1) ?_, fun me go gw m K hm kk => vV (n' + 1) ?_⟩⟩
    unfold wX3_readValue_E
    rw [h]
    refine ⟨fun z => absurd z (by decide), fun z => absurd z (by decide), fun z => absurd z (by decide), fun z => absurd z (by decide), fun z => absurd z (by decide), fun z => absurd z (by decide), fun z => absurd z (by decide), fun z => absurd z (by decide), fun _ => ?_, fun z => absurd z (by decide), fun z => absurd z (by decide), fun z => absurd z (by decide), fun _ _ _ _ _ _ _ _ z28 _ _ _ => absurd rfl z28⟩
    unfold wX3_readValue_288
    refine c_adv wf rc lt (uP n ?_)
    unfold wX3_readPair_E
    refine c_deep_y wf rc (by omega) 29 h3 d8 (br_f (by decide) ?_)
    rw [nI_1 d]
    exact cf er es m sK sD _ he (by omega) (fun m' sK' sD' hm' => c_exp_B (bS q _ m' sK' sD' _ (by omega) hm' (fun m2 sK2 sD2 hm2 => c_exp_B (c_pushB hm2 (fun m3 sK3 sD3 hm3 => kk _ _ _ hm3)))))
    unfold wX10_isValue_E
    rw [nI_clamp (by omega), (rm p hp).1, h]
    refine ⟨vp_in_nI (by omega) (by decide), bn_f (by decide) (bn_f (by decide) (br_f (by decide) (bn_t (by decide) (?_))))⟩
    unfold wX10_isValue_105
    refine v2 n' ?_
    unfold wX10_isOfTwo_E
    rw [nI_1 p]
    exact m_deep_y wf rm (by omega) 29 h3 d8 (br_f (by decide) (mf me go gw m _ (by omega) (fun u hu => br_t rfl (kk _ hu))))
    by_cases h4 : kN x q = 34
    case neg =>
      refine ⟨q, by omega, q2, Or.inl ⟨fun er es m sK sD K he hm kk => uV (n + 1) ?_, fun me go gw m K hm kk => vV (n' + 1) ?_⟩⟩
      unfold wX3_readValue_E
      rw [h]
      refine ⟨fun z => absurd z (by decide), fun z => absurd z (by decide), fun z => absurd z (by decide), fun z => absurd z (by decide), fun z => absurd z (by decide), fun z => absurd z (by decide), fun z => absurd z (by decide), fun z => absurd z (by decide), fun _ => ?_, fun z => absurd z (by decide), fun z => absurd z (by decide), fun z => absurd z (by decide), fun _ _ _ _ _ _ _ _ z28 _ _ _ => absurd rfl z28⟩
      unfold wX3_readValue_288
      refine c_adv wf rc lt (uP n ?_)
      unfold wX3_readPair_E
      refine c_deep_y wf rc (by omega) 29 h3 d8 (br_f (by decide) ?_)
      rw [nI_1 d]
      exact cs er es m sK sD _ he (by omega) (c_exp_n wf rc q2 (erF_ne he) 34 h4 (bS q _ _ _ _ _ (by omega) (by omega) (fun m2 sK2 sD2 hm2 => c_exp_B (c_pushB hm2 (fun m3 sK3 sD3 hm3 => kk _ _ _ hm3)))))
      unfold wX10_isValue_E
      rw [nI_clamp (by omega), (rm p hp).1, h]
      refine ⟨vp_in_nI (by omega) (by decide), bn_f (by decide) (bn_f (by decide) (br_f (by decide) (bn_t (by decide) (?_))))⟩
      unfold wX10_isValue_105
      refine v2 n' ?_
      unfold wX10_isOfTwo_E
      rw [nI_1 p]
      exact m_deep_y wf rm (by omega) 29 h3 d8 (br_f (by decide) (ms me go gw m _ (by omega) (br_f (by decide) (m_eat_n wf rm q2 34 h4 (br_t rfl (kk _ rfl))))))
    case pos =>
      have lt4 := kN_lt wf q2 (by omega)
      obtain ⟨r, r1, r2, ⟨cf2, mf2⟩ | ⟨L2, k1, k2, k3, cs2, ms2⟩⟩ := hS d8 n n' (q + 1) (by omega) (by omega) (by omega)
      refine ⟨r, by omega, r2, Or.inl ⟨fun er es m sK sD K he hm kk => uV (n + 1) ?_, fun me go gw m K hm kk => vV (n' + 1) ?_⟩⟩
      unfold wX3_readValue_E
      rw [h]
      refine ⟨fun z => absurd z (by decide), fun z => absurd z (by decide), fun z => absurd z (by decide), fun z => absurd z (by decide), fun z => absurd z (by decide), fun z => absurd z (by decide), fun z => absurd z (by decide), fun z => absurd z (by decide), fun _ => ?_, fun z => absurd z (by decide), fun z => absurd z (by decide), fun z => absurd z (by decide), fun _ _ _ _ _ _ _ _ z28 _ _ _ => absurd rfl z28⟩
      unfold wX3_readValue_288
      refine c_adv wf rc lt (uP n ?_)
      unfold wX3_readPair_E
      refine c_deep_y wf rc (by omega) 29 h3 d8 (br_f (by decide) ?_)
      rw [nI_1 d]
      refine cs er es m sK sD _ he (by omega) (c_exp_y wf rc q2 34 h4 ?_)
      exact cf2 _ _ (m + L.length) _ _ _ (erF_ne he) (by omega) (fun m2 sK2 sD2 hm2 => c_exp_B (c_pushB hm2 (fun m3 sK3 sD3 hm3 => kk _ _ _ hm3)))
      unfold wX10_isValue_E
      rw [nI_clamp (by omega), (rm p hp).1, h]
      refine ⟨vp_in_nI (by omega) (by decide), bn_f (by decide) (bn_f (by decide) (br_f (by decide) (bn_t (by decide) (?_))))⟩
      unfold wX10_isValue_105
      refine v2 n' ?_
      unfold wX10_isOfTwo_E
      rw [nI_1 p]
      exact m_deep_y wf rm (by omega) 29 h3 d8 (br_f (by decide) (ms me go gw m _ (by omega) (br_f (by decide) (m_eat_y wf rm q2 34 h4 (br_f (by decide) (mf2 _ _ _ (m + L.length) _ (by omega) (fun u hu => br_t rfl (kk _ hu))))))))
      by_cases h5 : kN x r = 30
      case neg =>
        refine ⟨r, by omega, r2, Or.inl ⟨fun er es m sK sD K he hm kk => uV (n + 1) ?_, fun me go gw m K hm kk => vV (n' + 1) ?_⟩⟩
        unfold wX3_readValue_E
        rw [h]
        refine ⟨fun z => absurd z (by decide), fun z => absurd z (by decide), fun z => absurd z (by decide), fun z => absurd z (by decide), fun z => absurd z (by decide), fun z => absurd z (by decide), fun z => absurd z (by decide), fun z => absurd z (by decide), fun _ => ?_, fun z => absurd z (by decide), fun z => absurd z (by decide), fun z => absurd z (by decide), fun _ _ _ _ _ _ _ _ z28 _ _ _ => absurd rfl z28⟩
        unfold wX3_readValue_288
        refine c_adv wf rc lt (uP n ?_)
        unfold wX3_readPair_E
        refine c_deep_y wf rc (by omega) 29 h3 d8 (br_f (by decide) ?_)
        rw [nI_1 d]
        refine cs er es m sK sD _ he (by omega) (c_exp_y wf rc q2 34 h4 ?_)
        exact cs2 _ _ (m + L.length) _ _ _ (erF_ne he) (by omega) (c_exp_n wf rc r2 (erF_ne (erF_ne he)) 30 h5 (c_pushB (by omega) (fun m3 sK3 sD3 hm3 => kk _ _ _ hm3)))
        unfold wX10_isValue_E
        rw [nI_clamp (by omega), (rm p hp).1, h]
        refine ⟨vp_in_nI (by omega) (by decide), bn_f (by decide) (bn_f (by decide) (br_f (by decide) (bn_t (by decide) (?_))))⟩
        unfold wX10_isValue_105
        refine v2 n' ?_
        unfold wX10_isOfTwo_E
        rw [nI_1 p]
        exact m_deep_y wf rm (by omega) 29 h3 d8 (br_f (by decide) (ms me go gw m _ (by omega) (br_f (by decide) (m_eat_y wf rm q2 34 h4 (br_f (by decide) (ms2 _ _ _ (m + L.length) _ (by omega) (br_f (by decide) (m_close_n wf rm r2 30 h5 (bn_t rfl (kk _ rfl))))))))))
      case pos =>
        have lt5 := kN_lt wf r2 (by omega)
        refine ⟨r + 1, by omega, by omega, Or.inr ⟨L ++ L2 ++ [(28, p)], one_le (by rw [List.length_append]; omega), fun bs => ?_, okL_app (okL_app l3 k3 (p := p) (q := r) (p1 := p + 2) (q1 := q) (p2 := q + 1) (q2 := r) (by omega) (by omega) (by omega) (by omega)) (okP (by decide)) (p := p) (q := r + 1) (p1 := p) (p2 := p) (q1 := r) (q2 := r + 1) (by omega) (by omega) (by omega) (by omega), fun er es m sK sD K he hm kk => uV (n + 1) ?_, fun me go gw m K hm kk => vV (n' + 1) ?_⟩⟩
        have t1 : tyL L bs = some (false :: bs) := l2 bs
        have t2 : tyL L2 (false :: bs) = some (false :: false :: bs) := k2 (false :: bs)
        have t3 : tyL (L ++ L2) bs = some (false :: false :: bs) := (tyL_app t1).trans t2
        show tyL (L ++ L2 ++ [(28, p)]) bs = _
        rw [tyL_app t3]
        exact ty_bin (by decide) (by decide) bs
        rw [List.length_append, List.length_append, ← Nat.add_assoc, ← Nat.add_assoc, apF_one, apF_one, List.length_append, ← Nat.add_assoc, apF_app, apF_app, cDk (k := 28) (t := p) (by decide), erF_pre n44 (by omega), erF_pre (by omega) (by omega), erF_suf (by omega) (by omega), ← erF_join (p := p + 1 + 1) (q := q) (r := r) (by omega) (by omega), erF_pre (p := q) (by omega) (by omega)] at kk
        unfold wX3_readValue_E
        rw [h]
        refine ⟨fun z => absurd z (by decide), fun z => absurd z (by decide), fun z => absurd z (by decide), fun z => absurd z (by decide), fun z => absurd z (by decide), fun z => absurd z (by decide), fun z => absurd z (by decide), fun z => absurd z (by decide), fun _ => ?_, fun z => absurd z (by decide), fun z => absurd z (by decide), fun z => absurd z (by decide), fun _ _ _ _ _ _ _ _ z28 _ _ _ => absurd rfl z28⟩
        unfold wX3_readValue_288
        refine c_adv wf rc lt (uP n ?_)
        unfold wX3_readPair_E
        refine c_deep_y wf rc (by omega) 29 h3 d8 (br_f (by decide) ?_)
        rw [nI_1 d]
        refine cs er es m sK sD _ he (by omega) (c_exp_y wf rc q2 34 h4 ?_)
        exact cs2 _ _ (m + L.length) _ _ _ (erF_ne he) (by omega) (c_exp_y wf rc r2 30 h5 (c_push (by omega) kk))
        rw [List.length_append, List.length_append, ← Nat.add_assoc, ← Nat.add_assoc, apF_one, apF_one, List.length_append, ← Nat.add_assoc, apF_app, apF_app, mWk (k := 28) (t := p) (by decide), meF_pre n44 (by omega), meF_pre (by omega) (by omega), meF_suf (by omega) (by omega), ← meF_join (p := p + 1 + 1) (q := q) (r := r) (by omega) (by omega), meF_pre (p := q) (by omega) (by omega)] at kk
        unfold wX10_isValue_E
        rw [nI_clamp (by omega), (rm p hp).1, h]
        refine ⟨vp_in_nI (by omega) (by decide), bn_f (by decide) (bn_f (by decide) (br_f (by decide) (bn_t (by decide) (?_))))⟩
        unfold wX10_isValue_105
        refine v2 n' ?_
        unfold wX10_isOfTwo_E
        rw [nI_1 p]
        exact m_deep_y wf rm (by omega) 29 h3 d8 (br_f (by decide) (ms me go gw m _ (by omega) (br_f (by decide) (m_eat_y wf rm q2 34 h4 (br_f (by decide) (ms2 _ _ _ (m + L.length) _ (by omega) (br_f (by decide) (m_close_y wf rm r2 30 h5 (bn_f (by decide) (m_put (by omega) kk))))))))))
theorem valNo (wf : wfN x) (rc : rNc x ki st nu na) (rm : rNm x mk fr va) (hE : E ≤ 6) {n n' : Nat} (hd : d ≤ 8) (hp : p ≤ nN x) (h : kN x p ≠ 15 ∧ kN x p ≠ 16 ∧ kN x p ≠ 17 ∧ kN x p ≠ 18 ∧ kN x p ≠ 19 ∧ kN x p ≠ 20 ∧ kN x p ≠ 21 ∧ kN x p ≠ 27 ∧ kN x p ≠ 28 ∧ kN x p ≠ 29 ∧ kN x p ≠ 36 ∧ kN x p ≠ 45) : Out x E nm (cA x ki st nu na E nm (n + 2) 4 d) (mA mk va (n' + 2) 4) d p [] false := by
  have n4 := wf.1
  refine ⟨p, by omega, by omega, Or.inl ⟨fun er es m sK sD K he hm kk => uV (n + 1) ?_, fun me go gw m K hm kk => vV (n' + 1) ?_⟩⟩
  · unfold wX3_readValue_E
    exact ⟨fun z => absurd z (c_ne wf hp 15 (by omega)), fun z => absurd z (c_ne wf hp 16 (by omega)), fun z => absurd z (c_ne wf hp 17 (by omega)), fun z => absurd z (c_ne wf hp 18 (by omega)), fun z => absurd z (c_ne wf hp 19 (by omega)), fun z => absurd z (c_ne wf hp 20 (by omega)), fun z => absurd z (c_ne wf hp 21 (by omega)), fun z => absurd z (c_ne wf hp 27 (by omega)), fun z => absurd z (c_ne wf hp 28 (by omega)), fun z => absurd z (c_ne wf hp 29 (by omega)), fun z => absurd z (c_ne wf hp 36 (by omega)), fun z => absurd z (c_ne wf hp 45 (by omega)), fun _ _ _ _ _ _ _ _ _ _ _ _ => c_ref wf rc hp he (kk _ _ _ (by omega))⟩
  · unfold wX10_isValue_E
    refine ⟨vp_in_nI (by omega) (by decide), bn_f (m_ne wf rm hp 36 (by omega)) (bn_f (m_ne wf rm hp 29 (by omega)) (br_f (m_ne wf rm hp 27 (by omega)) (bn_f (m_ne wf rm hp 28 (by omega)) (br_f (m_ne wf rm hp 19 (by omega)) (bn_f (m_ne wf rm hp 20 (by omega)) (bn_f (m_ne wf rm hp 21 (by omega)) (bn_f (m_ne wf rm hp 45 (by omega)) (?_))))))))⟩
    rw [nI_clamp (by omega), (rm p hp).1]
    have hk := kN_b wf hp
    have hm1 := mkT_lt _ hk.1
    have hm2 := mkT_mid _ hk.1 hk.2
    unfold wX10_isIn
    refine pk_lt (mkT (kN x p)) 15 (fun _ => br_t rfl (kk _ rfl)) (fun y => pk_lt 18 (mkT (kN x p)) (fun _ => br_t rfl (kk _ rfl)) (fun z => ?_))
    have := hm2 y z
    omega
theorem valAll (wf : wfN x) (rc : rNc x ki st nu na) (rm : rNm x mk fr va) (hE : E ≤ 6) {n n' : Nat} (hd : d ≤ 8) (hn : 4 ≤ n) (hS : d < 8 → ∀ n1 n2 p, n ≤ n1 → n' ≤ n2 → p ≤ nN x → Out x E nm (cA x ki st nu na E nm n1 3 (d + 1)) (mA mk va n2 3) (d + 1) p [] false) (hV : d < 8 → ∀ n1 n2 p, n ≤ n1 → n' ≤ n2 → p ≤ nN x → Out x E nm (cA x ki st nu na E nm n1 4 (d + 1)) (mA mk va n2 4) (d + 1) p [] false) (p : Nat) (hp : p ≤ nN x) : Out x E nm (cA x ki st nu na E nm (n + 2) 4 d) (mA mk va (n' + 2) 4) d p [] false := by
  by_cases h15 : kN x p = 15
  · exact val15 wf rc rm hE hd hp h15
  by_cases h16 : kN x p = 16
  · exact val16 wf rc rm hE hd hp h16
  by_cases h17 : kN x p = 17
  · exact val17 wf rc rm hE hd hp h17
  by_cases h18 : kN x p = 18
  · exact val18 wf rc rm hE hd hp h18
  by_cases h19 : kN x p = 19
  · exact val19 wf rc rm hE hd hp h19
  by_cases h20 : kN x p = 20
  · exact val20 wf rc rm hE hd hp h20
  by_cases h21 : kN x p = 21
  · exact val21 wf rc rm hE hd hS hp h21
  by_cases h27 : kN x p = 27
  · exact val27 wf rc rm hE hd hn hS hp h27
  by_cases h28 : kN x p = 28
  · exact val28 wf rc rm hE hd hn hS hp h28
  by_cases h29 : kN x p = 29
  · exact val29 wf rc rm hE hd hS hp h29
  by_cases h36 : kN x p = 36
  · exact val36 wf rc rm hE hd hV hp h36
  by_cases h45 : kN x p = 45
  · exact val45 wf rc rm hE hd hp h45
  exact valNo wf rc rm hE hd hp ⟨h15, h16, h17, h18, h19, h20, h21, h27, h28, h29, h36, h45⟩
theorem gramA (wf : wfN x) (rc : rNc x ki st nu na) (rm : rNm x mk fr va) (hE : E ≤ 6) : ∀ D d, d + D = 8 → (∀ n n' p, 4 * D + 6 ≤ n → 4 * D + 6 ≤ n' → p ≤ nN x → Out x E nm (cA x ki st nu na E nm n 4 d) (mA mk va n' 4) d p [] false) ∧ (∀ n n' p, 4 * D + 8 ≤ n → 4 * D + 8 ≤ n' → p ≤ nN x → Out x E nm (cA x ki st nu na E nm n 3 d) (mA mk va n' 3) d p [] false) := by
  have fin : ∀ D d, (∀ n n' p, 4 * D + 6 ≤ n → 4 * D + 6 ≤ n' → p ≤ nN x → Out x E nm (cA x ki st nu na E nm n 4 d) (mA mk va n' 4) d p [] false) → (∀ n n' p, 4 * D + 8 ≤ n → 4 * D + 8 ≤ n' → p ≤ nN x → Out x E nm (cA x ki st nu na E nm n 3 d) (mA mk va n' 3) d p [] false) := by
    intro D d hv n n' p h1 h2 hp
    obtain ⟨m, rfl⟩ : ∃ m, n = m + 2 := ⟨n - 2, by omega⟩
    obtain ⟨m', rfl⟩ : ∃ m, n' = m + 2 := ⟨n' - 2, by omega⟩
    exact allSum wf rc rm (fun p hp => allProduct wf rc rm (fun p hp => hv m m' p (by omega) (by omega) hp) p hp) p hp
  intro D
  induction D with
  | zero =>
    intro d hd
    have hv : ∀ n n' p, 4 * 0 + 6 ≤ n → 4 * 0 + 6 ≤ n' → p ≤ nN x → Out x E nm (cA x ki st nu na E nm n 4 d) (mA mk va n' 4) d p [] false := by
      intro n n' p h1 h2 hp
      obtain ⟨m, rfl⟩ : ∃ m, n = m + 2 := ⟨n - 2, by omega⟩
      obtain ⟨m', rfl⟩ : ∃ m, n' = m + 2 := ⟨n' - 2, by omega⟩
      exact valAll wf rc rm hE (by omega) (by omega) (fun z => by omega) (fun z => by omega) p hp
    exact ⟨hv, fin 0 d hv⟩
  | succ D ih =>
    intro d hd
    have t := ih (d + 1) (by omega)
    have hv : ∀ n n' p, 4 * (D + 1) + 6 ≤ n → 4 * (D + 1) + 6 ≤ n' → p ≤ nN x → Out x E nm (cA x ki st nu na E nm n 4 d) (mA mk va n' 4) d p [] false := by
      intro n n' p h1 h2 hp
      obtain ⟨m, rfl⟩ : ∃ m, n = m + 2 := ⟨n - 2, by omega⟩
      obtain ⟨m', rfl⟩ : ∃ m, n' = m + 2 := ⟨n' - 2, by omega⟩
      exact valAll wf rc rm hE (by omega) (by omega) (fun _ n1 n2 p a b c => t.2 n1 n2 p (by omega) (by omega) c) (fun _ n1 n2 p a b c => t.1 n1 n2 p (by omega) (by omega) c) p hp
    exact ⟨hv, fin (D + 1) d hv⟩
end VALUE
