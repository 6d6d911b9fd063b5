/-! sums, both -/
abbrev CK := Int32 × Int32 × Int32 × Int32 × Int32 × (Nat → Int32) × (Nat → Int32)
abbrev MK := (Nat → Int32) × Int32 × Int32 × (Nat → Int32) × (Nat → Int32) × Int32
abbrev CW := Int32 → Int32 → Int32 → Int32 → Int32 → (Nat → Int32) → (Nat → Int32) → (CK → Prop) → Prop
abbrev MW := (Nat → Int32) → Int32 → Int32 → (Nat → Int32) → (Nat → Int32) → Int32 → (Int32 → MK → Prop) → Prop
def cS (x : Tn) (E : Nat) (nm : Nat → Int64) (W : CW) (p q : Nat) (L : List (Nat × Nat)) : Prop := ∀ er es m sK sD K, er ≠ 1 → m ≤ p → K (nI q, nI (kN x q), (erF x (bdN x E nm) p q (er, es)).1, (erF x (bdN x E nm) p q (er, es)).2, nI (m + L.length), apF cKd sK m L, apF (cDt x E nm) sD m L) → W (nI p) (nI (kN x p)) er es (nI m) sK sD K
def cF (x : Tn) (W : CW) (p q : Nat) : Prop := ∀ er es m sK sD K, er ≠ 1 → m ≤ p → (∀ m' sK' sD', m' ≤ 400 → K (nI q, 48, 1, nI (sN x q), nI m', sK', sD')) → W (nI p) (nI (kN x p)) er es (nI m) sK sD K
def cB (W : CW) : Prop := ∀ a es m sK sD (K : CK → Prop), a ≤ 400 → m ≤ 400 → (∀ m' sK' sD', m' ≤ 400 → K (nI a, 48, 1, es, nI m', sK', sD')) → W (nI a) 48 1 es (nI m) sK sD K
def mS (x : Tn) (V : MW) (p q d : Nat) (L : List (Nat × Nat)) : Prop := ∀ me go gw m K, m ≤ p → K 1 (meF x p q me, nI q, nI d, apF mKd go m L, apF (mWt x) gw m L, nI (m + L.length)) → V me (nI p) (nI d) go gw (nI m) K
def mF (V : MW) (p q d : Nat) : Prop := ∀ me go gw m K, m ≤ p → (∀ u : MK, u.2.1 = nI q → K 0 u) → V me (nI p) (nI d) go gw (nI m) K
def okL (x : Tn) (p q : Nat) (L : List (Nat × Nat)) : Prop := ∀ a, a ∈ L → (a.1 = 19 ∨ a.1 = 20 ∨ a.1 = 22) → p ≤ a.2 ∧ a.2 < q ∧ kN x a.2 = 44
def Out (x : Tn) (E : Nat) (nm : Nat → Int64) (W : CW) (V : MW) (d p : Nat) (bi : List Bool) (b : Bool) : Prop := ∃ q, p ≤ q ∧ q ≤ nN x ∧ ((cF x W p q ∧ mF V p q d) ∨ ∃ L, L.length ≤ q - p ∧ (∀ bs, tyL L (bi ++ bs) = some (b :: bs)) ∧ okL x p q L ∧ cS x E nm W p q L ∧ mS x V p q d L)
def cA (x : Tn) (ki st nu : Nat → Int32) (na : Nat → Int64) (E : Nat) (nm : Nat → Int64) (n t d : Nat) : CW := fun a k er es m sK sD K => wX3a n t ki st nu na (nI (nN x + 1)) a k er es (nI E) nm m sK sD (nI d) K
def mA (mk : Nat → Int32) (va : Nat → Int64) (n t : Nat) : MW := fun me tk dp go gw m K => wX10a n t mk me va tk dp go gw m 0 K
theorem mkT_mid : ∀ k, k < 49 → k ≠ 46 → 15 ≤ mkT k → mkT k ≤ 18 → 15 ≤ k ∧ k ≤ 18 := by decide +kernel
theorem okL_nil {x : Tn} {p q : Nat} : okL x p q [] := fun a h => by cases h
theorem okL_app {x : Tn} {p q p1 q1 p2 q2 : Nat} {L1 L2 : List (Nat × Nat)} (h1 : okL x p1 q1 L1) (h2 : okL x p2 q2 L2) (a1 : p ≤ p1) (a2 : q1 ≤ q) (a3 : p ≤ p2) (a4 : q2 ≤ q) : okL x p q (L1 ++ L2) := by
  intro a h z
  rcases List.mem_append.1 h with y | y
  · have t := h1 a y z
    exact ⟨by omega, by omega, t.2.2⟩
  · have t := h2 a y z
    exact ⟨by omega, by omega, t.2.2⟩
theorem okL_plain {x : Tn} {p q : Nat} {a : Nat × Nat} (h : ¬ (a.1 = 19 ∨ a.1 = 20 ∨ a.1 = 22)) : okL x p q [a] := by
  intro b hb z
  rw [List.mem_singleton.1 hb] at z
  exact absurd z h
theorem okL_name {x : Tn} {p q : Nat} {a : Nat × Nat} (h : p ≤ a.2 ∧ a.2 < q ∧ kN x a.2 = 44) : okL x p q [a] := by
  intro b hb _
  rw [List.mem_singleton.1 hb]
  exact h
theorem ty_val {k t : Nat} (h : arK k = 0) (h2 : k ≠ 22) (bs : List Bool) : tyL [(k, t)] bs = some (false :: bs) := by
  refine tyL_one ?_
  show tyS k bs = _
  rw [tyS0 h]
  have : (k == 22) = false := by simpa using h2
  rw [this]
theorem ty_un {k t : Nat} (h : arK k = 1) (h2 : k ≠ 24) (h3 : k ≠ 23) (bs : List Bool) : tyL [(k, t)] (false :: bs) = some (false :: bs) := by
  refine tyL_one ?_
  show tyS k (false :: bs) = _
  have e : (k == 24) = false := by simpa using h2
  have e' : (k == 23) = false := by simpa using h3
  rw [tyS1 h, e, e']; rfl
theorem ty_bin {k t : Nat} (h : arK k = 2) (h2 : k = 27 ∨ k = 28 ∨ (35 ≤ k ∧ k ≤ 38)) (bs : List Bool) : tyL [(k, t)] (false :: false :: bs) = some (false :: bs) := by
  refine tyL_one ?_
  show tyS k (false :: false :: bs) = _
  have e : (k == 25) = false := by
    have : k ≠ 25 := by omega
    simpa using this
  have e' : (k == 26) = false := by
    have : k ≠ 26 := by omega
    simpa using this
  have e2 : decide (39 ≤ k) = false := decide_eq_false (by omega)
  rw [tyS2 h, e, e', e2, if_pos ⟨rfl, rfl, by omega⟩]; rfl
theorem cDt_0 {x : Tn} {E : Nat} {nm : Nat → Int64} {a : Nat × Nat} (h : a.1 ≠ 45 ∧ a.1 ≠ 19 ∧ a.1 ≠ 20 ∧ a.1 ≠ 22) : cDt x E nm a = 0 := by
  unfold cDt
  rw [if_neg h.1, if_neg (by omega)]
theorem cDt_e {x : Tn} {E : Nat} {nm : Nat → Int64} {a : Nat × Nat} (h : a.1 = 19 ∨ a.1 = 20 ∨ a.1 = 22) : cDt x E nm a = fI (emF nm (cN x a.2) E) := by
  unfold cDt
  rw [if_neg (by omega), if_pos h]
theorem mWt_0 {x : Tn} {a : Nat × Nat} (h : a.1 ≠ 45 ∧ a.1 ≠ 19 ∧ a.1 ≠ 20 ∧ a.1 ≠ 22) : mWt x a = 0 := by
  unfold mWt
  rw [if_neg h.1, if_neg (by omega)]
theorem mWt_e {x : Tn} {a : Nat × Nat} (h : a.1 = 19 ∨ a.1 = 20 ∨ a.1 = 22) : mWt x a = nI a.2 := by
  unfold mWt
  rw [if_neg (by omega), if_pos h]
section SUMS
variable {x : Tn} {ki st nu mk fr : Nat → Int32} {na va : Nat → Int64} {E : Nat} {nm : Nat → Int64} {p d : Nat}
theorem stopProduct (wf : wfN x) (rm : rNm x mk fr va) {n n' c : Nat} (hp : p ≤ nN x) (hc : c ≤ p) (hk : kN x p ≠ 37 ∧ kN x p ≠ 38) : Out x E nm (fun a k er es m sK sD K => ∃ k9 : Nat, wX3_readProduct_7 (wX3a n) K ki st nu na (nI (nN x + 1)) (nI E) nm k9 a k er es m sK sD (nI d) (nI c)) (fun me tk dp go gw m K => ∃ k9 : Nat, wX10_isProduct_10 (wX10a n') K mk va k9 me tk dp go gw m) d p [false] false := by
  have n4 := wf.1
  refine ⟨p, Nat.le_refl p, hp, Or.inr ⟨[], Nat.zero_le _, fun bs => rfl, okL_nil, fun er es m sK sD K he hm kk => ⟨1, ?_⟩, fun me go gw m K hm kk => ⟨1, ?_⟩⟩⟩
  · rw [erF_same] at kk
    unfold wX3_readProduct_7
    exact ⟨fun _ => kk, fun _ => c_is wf hp 37 (fun z => absurd z hk.1) (fun _ => (c_is wf hp 38 (fun z => absurd z hk.2) (fun _ => kk)).symm)⟩
  · rw [meF_same] at kk
    unfold wX10_isProduct_10
    exact ⟨vp_in_nI (by omega) (by decide), m_is wf rm hp 37 (fun z => absurd z hk.1) (fun _ => ⟨vp_in_nI (by omega) (by decide), (m_is wf rm hp 38 (fun z => absurd z hk.2) (fun _ => kk)).symm⟩)⟩
theorem tailProduct (wf : wfN x) (rc : rNc x ki st nu na) (rm : rNm x mk fr va) {n n' : Nat} (hv : ∀ p, p ≤ nN x → Out x E nm (cA x ki st nu na E nm n 4 d) (mA mk va n' 4) d p [] false) : ∀ g p c, p ≤ nN x → nN x - p ≤ g → c ≤ p → Out x E nm (fun a k er es m sK sD K => ∃ k9 : Nat, wX3_readProduct_7 (wX3a n) K ki st nu na (nI (nN x + 1)) (nI E) nm k9 a k er es m sK sD (nI d) (nI c)) (fun me tk dp go gw m K => ∃ k9 : Nat, wX10_isProduct_10 (wX10a n') K mk va k9 me tk dp go gw m) d p [false] false := by
  have n4 := wf.1
  intro g
  induction g with
  | zero =>
    intro p c hp hg hc
    have e : p = nN x := by omega
    have hk : kN x p ≠ 37 ∧ kN x p ≠ 38 := by
      subst e
      have := wf.2.1
      omega
    exact stopProduct wf rm hp hc hk
  | succ g ih =>
    intro p c hp hg hc
    by_cases hk : kN x p ≠ 37 ∧ kN x p ≠ 38
    · exact stopProduct wf rm hp hc hk
    · have k46 : kN x p = 37 ∨ kN x p = 38 := by omega
      have lt := kN_lt wf hp (by omega)
      have n44 : kN x p ≠ 44 := by omega
      have stepC : ∀ k er es m sK sD K, wX3_readProduct_32 (wX3a n) K (wX3_readProduct_7 (wX3a n) K ki st nu na (nI (nN x + 1)) (nI E) nm k) ki st nu na (nI (nN x + 1)) (nI E) nm (nI p) (nI (kN x p)) er es m sK sD (nI d) (nI c) → wX3_readProduct_7 (wX3a n) K ki st nu na (nI (nN x + 1)) (nI E) nm (k + 1) (nI p) (nI (kN x p)) er es m sK sD (nI d) (nI c) := by
        intro k er es m sK sD K h
        unfold wX3_readProduct_7
        refine br_f (nI_ge (b := 400) (by omega) (by decide)) (c_is wf hp 37 (fun _ => h) (fun z => (c_is wf hp 38 (fun _ => h) (fun y => absurd k46 (fun v => v.elim z y))).symm))
      have stepM : ∀ k me go gw m K, (∀ z0, (kN x p = 37 → z0 = 103) → (kN x p = 38 → z0 = 104) → wX10_isProduct_59 (wX10a n') K (wX10_isProduct_10 (wX10a n') K mk va k) mk va me (nI p) (nI d) go gw m z0) → wX10_isProduct_10 (wX10a n') K mk va (k + 1) me (nI p) (nI d) go gw m := by
        intro k me go gw m K h
        have h38 : wX10_isProduct_38 (wX10a n') K (wX10_isProduct_10 (wX10a n') K mk va k) mk va me (nI p) (nI d) go gw m := by
          unfold wX10_isProduct_38
          refine ⟨vp_in_nI (by omega) (by decide), (m_is wf rm hp 37 (fun z => h _ (fun _ => rfl) (fun y => by omega)) (fun z => h _ (fun y => absurd y z) (fun _ => rfl))).symm⟩
        unfold wX10_isProduct_10
        exact ⟨vp_in_nI (by omega) (by decide), m_is wf rm hp 37 (fun _ => h38) (fun z => ⟨vp_in_nI (by omega) (by decide), (m_is wf rm hp 38 (fun _ => h38) (fun y => absurd k46 (fun v => v.elim z y))).symm⟩)⟩
      have z0of : ∀ z0 : Int32, (kN x p = 37 → z0 = 103) → (kN x p = 38 → z0 = 104) → z0 = mKd (kN x p, p) := by
        intro z0 a b
        rcases k46 with e | e
        · rw [a e]; unfold mKd; rw [show (kN x p, p).1 = 37 from e]; rfl
        · rw [b e]; unfold mKd; rw [show (kN x p, p).1 = 38 from e]; rfl
      have d0 : cDt x E nm (kN x p, p) = 0 := cDt_0 (show kN x p ≠ 45 ∧ kN x p ≠ 19 ∧ kN x p ≠ 20 ∧ kN x p ≠ 22 by omega)
      have w0 : mWt x (kN x p, p) = 0 := mWt_0 (show kN x p ≠ 45 ∧ kN x p ≠ 19 ∧ kN x p ≠ 20 ∧ kN x p ≠ 22 by omega)
      obtain ⟨q, q1, q2, ⟨cf, mf⟩ | ⟨L, l1, l2, l3, cs, ms⟩⟩ := hv (p + 1) (by omega)
      · refine ⟨q, by omega, q2, Or.inl ⟨fun er es m sK sD K he hm kk => ⟨2, stepC 1 _ _ _ _ _ _ ?_⟩, fun me go gw m K hm kk => ⟨1, stepM 0 _ _ _ _ _ (fun z0 _ _ => ?_)⟩⟩⟩
        · unfold wX3_readProduct_32
          refine c_adv wf rc lt (cf er es m sK sD _ he (by omega) (fun m' sK' sD' hm' => c_pushB hm' (fun m2 sK2 sD2 hm2 => ?_)))
          unfold wX3_readProduct_7
          exact ⟨fun _ => kk _ _ _ hm2, fun _ => br_f (show ¬ (48 : Int32) = 37 by decide) (bn_f (show ¬ (48 : Int32) = 38 by decide) (kk _ _ _ hm2))⟩
        · unfold wX10_isProduct_59
          rw [nI_1 p]
          exact mf me go gw m _ (by omega) (fun u hu => bn_t rfl (kk _ hu))
      · obtain ⟨r, r1, r2, ⟨cf, mf⟩ | ⟨L2, k1, k2, k3, cs2, ms2⟩⟩ := ih q (c + 1) q2 (by omega) (by omega)
        · refine ⟨r, by omega, r2, Or.inl ⟨fun er es m sK sD K he hm kk => ?_, fun me go gw m K hm kk => ?_⟩⟩
          · obtain ⟨k, hk⟩ := cf (erF x (bdN x E nm) (p + 1) q (er, es)).1 (erF x (bdN x E nm) (p + 1) q (er, es)).2 (m + L.length + 1) (upd (apF cKd sK m L) (m + L.length) (nI (kN x p))) (upd (apF (cDt x E nm) sD m L) (m + L.length) 0) K (erF_ne he) (by omega) kk
            refine ⟨k + 1, stepC k _ _ _ _ _ _ ?_⟩
            unfold wX3_readProduct_32
            refine c_adv wf rc lt (cs er es m sK sD _ he (by omega) (c_push (by omega) ?_))
            rw [nI_1 c]
            exact hk
          · obtain ⟨k, hk⟩ := mf (meF x (p + 1) q me) (upd (apF mKd go m L) (m + L.length) (mKd (kN x p, p))) (upd (apF (mWt x) gw m L) (m + L.length) 0) (m + L.length + 1) K (by omega) kk
            refine ⟨k + 1, stepM k _ _ _ _ _ (fun z0 y1 y2 => ?_)⟩
            rw [z0of z0 y1 y2]
            unfold wX10_isProduct_59
            rw [nI_1 p]
            exact ms me go gw m _ (by omega) (bn_f (by decide) (m_put (by omega) hk))
        · refine ⟨r, by omega, r2, Or.inr ⟨L ++ [(kN x p, p)] ++ L2, ?_, fun bs => ?_, okL_app (okL_app l3 (okL_plain (show ¬ (kN x p = 19 ∨ kN x p = 20 ∨ kN x p = 22) by omega)) (p := p) (q := r) (p1 := p + 1) (p2 := p) (q1 := q) (q2 := r) (by omega) (by omega) (by omega) (by omega)) k3 (by omega) (by omega) (by omega) (by omega), fun er es m sK sD K he hm kk => ?_, fun me go gw m K hm kk => ?_⟩⟩
          · simp only [List.length_append, List.length_cons, List.length_nil]
            omega
          · have t1 : tyL L (false :: bs) = some (false :: false :: bs) := l2 (false :: bs)
            have t2 := ty_bin (k := kN x p) (t := p) (by rcases k46 with e | e <;> rw [e] <;> decide) (by omega) bs
            show tyL (L ++ [(kN x p, p)] ++ L2) (false :: bs) = _
            rw [tyL_app ((tyL_app t1).trans t2)]
            exact k2 bs
          · have e1 : m + (L ++ [(kN x p, p)] ++ L2).length = m + L.length + 1 + L2.length := by
              simp only [List.length_append, List.length_cons, List.length_nil]
              omega
            rw [e1, apF_app, apF_one, apF_app, apF_one, List.length_append, ← Nat.add_assoc, d0, ← erF_join (p := p) (q := q) (r := r) (by omega) r1, ← erF_join (p := p) (q := p + 1) (r := q) (by omega) q1, erF_no n44] at kk
            obtain ⟨k, hk⟩ := cs2 (erF x (bdN x E nm) (p + 1) q (er, es)).1 (erF x (bdN x E nm) (p + 1) q (er, es)).2 (m + L.length + 1) (upd (apF cKd sK m L) (m + L.length) (nI (kN x p))) (upd (apF (cDt x E nm) sD m L) (m + L.length) 0) K (erF_ne he) (by omega) kk
            refine ⟨k + 1, stepC k _ _ _ _ _ _ ?_⟩
            unfold wX3_readProduct_32
            refine c_adv wf rc lt (cs er es m sK sD _ he (by omega) (c_push (by omega) ?_))
            rw [nI_1 c]
            exact hk
          · have e1 : m + (L ++ [(kN x p, p)] ++ L2).length = m + L.length + 1 + L2.length := by
              simp only [List.length_append, List.length_cons, List.length_nil]
              omega
            rw [e1, apF_app, apF_one, apF_app, apF_one, List.length_append, ← Nat.add_assoc, w0, ← meF_join (p := p) (q := q) (r := r) (by omega) r1, ← meF_join (p := p) (q := p + 1) (r := q) (by omega) q1, meF_no n44] at kk
            obtain ⟨k, hk⟩ := ms2 (meF x (p + 1) q me) (upd (apF mKd go m L) (m + L.length) (mKd (kN x p, p))) (upd (apF (mWt x) gw m L) (m + L.length) 0) (m + L.length + 1) K (by omega) kk
            refine ⟨k + 1, stepM k _ _ _ _ _ (fun z0 y1 y2 => ?_)⟩
            rw [z0of z0 y1 y2]
            unfold wX10_isProduct_59
            rw [nI_1 p]
            exact ms me go gw m _ (by omega) (bn_f (by decide) (m_put (by omega) hk))
theorem allProduct (wf : wfN x) (rc : rNc x ki st nu na) (rm : rNm x mk fr va) {n n' : Nat} (hv : ∀ p, p ≤ nN x → Out x E nm (cA x ki st nu na E nm n 4 d) (mA mk va n' 4) d p [] false) (p : Nat) (hp : p ≤ nN x) : Out x E nm (cA x ki st nu na E nm (n + 1) 2 d) (mA mk va (n' + 1) 2) d p [] false := by
  have n4 := wf.1
  have un3 : ∀ a k er es m sK sD K, wX3_readProduct_E (wX3a n) ki st nu na (nI (nN x + 1)) a k er es (nI E) nm m sK sD (nI d) K → cA x ki st nu na E nm (n + 1) 2 d a k er es m sK sD K := fun _ _ _ _ _ _ _ _ h => h
  have un10 : ∀ me tk dp go gw m K, wX10_isProduct_E (wX10a n') mk me va tk dp go gw m K → mA mk va (n' + 1) 2 me tk dp go gw m K := fun _ _ _ _ _ _ _ h => h
  obtain ⟨q, q1, q2, ⟨cf, mf⟩ | ⟨L, l1, l2, l3, cs, ms⟩⟩ := hv p hp
  · refine ⟨q, q1, q2, Or.inl ⟨fun er es m sK sD K he hm kk => un3 _ _ _ _ _ _ _ _ ?_, fun me go gw m K hm kk => un10 _ _ _ _ _ _ _ ?_⟩⟩
    · unfold wX3_readProduct_E
      refine cf er es m sK sD _ he hm (fun m' sK' sD' hm' => ⟨1, ?_⟩)
      unfold wX3_readProduct_7
      exact ⟨fun _ => kk _ _ _ hm', fun _ => br_f (show ¬ (48 : Int32) = 37 by decide) (bn_f (show ¬ (48 : Int32) = 38 by decide) (kk _ _ _ hm'))⟩
    · unfold wX10_isProduct_E
      exact mf me go gw m _ hm (fun u hu => bn_t rfl (kk _ hu))
  · obtain ⟨r, r1, r2, ⟨cf, mf⟩ | ⟨L2, k1, k2, k3, cs2, ms2⟩⟩ := tailProduct wf rc rm hv (nN x - q) q 0 q2 (Nat.le_refl _) (Nat.zero_le _)
    · refine ⟨r, by omega, r2, Or.inl ⟨fun er es m sK sD K he hm kk => un3 _ _ _ _ _ _ _ _ ?_, fun me go gw m K hm kk => un10 _ _ _ _ _ _ _ ?_⟩⟩
      · unfold wX3_readProduct_E
        exact cs er es m sK sD _ he hm (cf _ _ (m + L.length) _ _ K (erF_ne he) (by omega) kk)
      · unfold wX10_isProduct_E
        exact ms me go gw m _ hm (bn_f (by decide) (mf _ _ _ (m + L.length) K (by omega) kk))
    · refine ⟨r, by omega, r2, Or.inr ⟨L ++ L2, ?_, fun bs => ?_, okL_app l3 k3 (by omega) (by omega) (by omega) (by omega), fun er es m sK sD K he hm kk => un3 _ _ _ _ _ _ _ _ ?_, fun me go gw m K hm kk => un10 _ _ _ _ _ _ _ ?_⟩⟩
      · rw [List.length_append]; omega
      · rw [tyL_app (l2 bs)]
        exact k2 bs
      · rw [List.length_append, ← Nat.add_assoc, apF_app, apF_app, ← erF_join (p := p) (q := q) (r := r) q1 r1] at kk
        unfold wX3_readProduct_E
        exact cs er es m sK sD _ he hm (cs2 _ _ (m + L.length) _ _ K (erF_ne he) (by omega) kk)
      · rw [List.length_append, ← Nat.add_assoc, apF_app, apF_app, ← meF_join (p := p) (q := q) (r := r) q1 r1] at kk
        unfold wX10_isProduct_E
        exact ms me go gw m _ hm (bn_f (by decide) (ms2 _ _ _ (m + L.length) K (by omega) kk))
theorem stopSum (wf : wfN x) (rm : rNm x mk fr va) {n n' c : Nat} (hp : p ≤ nN x) (hc : c ≤ p) (hk : kN x p ≠ 35 ∧ kN x p ≠ 36) : Out x E nm (fun a k er es m sK sD K => ∃ k9 : Nat, wX3_readSum_7 (wX3a n) K ki st nu na (nI (nN x + 1)) (nI E) nm k9 a k er es m sK sD (nI d) (nI c)) (fun me tk dp go gw m K => ∃ k9 : Nat, wX10_isSum_10 (wX10a n') K mk va k9 me tk dp go gw m) d p [false] false := by
  have n4 := wf.1
  refine ⟨p, Nat.le_refl p, hp, Or.inr ⟨[], Nat.zero_le _, fun bs => rfl, okL_nil, fun er es m sK sD K he hm kk => ⟨1, ?_⟩, fun me go gw m K hm kk => ⟨1, ?_⟩⟩⟩
  · rw [erF_same] at kk
    unfold wX3_readSum_7
    exact ⟨fun _ => kk, fun _ => c_is wf hp 35 (fun z => absurd z hk.1) (fun _ => (c_is wf hp 36 (fun z => absurd z hk.2) (fun _ => kk)).symm)⟩
  · rw [meF_same] at kk
    unfold wX10_isSum_10
    exact ⟨vp_in_nI (by omega) (by decide), m_is wf rm hp 35 (fun z => absurd z hk.1) (fun _ => ⟨vp_in_nI (by omega) (by decide), (m_is wf rm hp 36 (fun z => absurd z hk.2) (fun _ => kk)).symm⟩)⟩
theorem tailSum (wf : wfN x) (rc : rNc x ki st nu na) (rm : rNm x mk fr va) {n n' : Nat} (hv : ∀ p, p ≤ nN x → Out x E nm (cA x ki st nu na E nm n 2 d) (mA mk va n' 2) d p [] false) : ∀ g p c, p ≤ nN x → nN x - p ≤ g → c ≤ p → Out x E nm (fun a k er es m sK sD K => ∃ k9 : Nat, wX3_readSum_7 (wX3a n) K ki st nu na (nI (nN x + 1)) (nI E) nm k9 a k er es m sK sD (nI d) (nI c)) (fun me tk dp go gw m K => ∃ k9 : Nat, wX10_isSum_10 (wX10a n') K mk va k9 me tk dp go gw m) d p [false] false := by
  have n4 := wf.1
  intro g
  induction g with
  | zero =>
    intro p c hp hg hc
    have e : p = nN x := by omega
    have hk : kN x p ≠ 35 ∧ kN x p ≠ 36 := by
      subst e
      have := wf.2.1
      omega
    exact stopSum wf rm hp hc hk
  | succ g ih =>
    intro p c hp hg hc
    by_cases hk : kN x p ≠ 35 ∧ kN x p ≠ 36
    · exact stopSum wf rm hp hc hk
    · have k46 : kN x p = 35 ∨ kN x p = 36 := by omega
      have lt := kN_lt wf hp (by omega)
      have n44 : kN x p ≠ 44 := by omega
      have stepC : ∀ k er es m sK sD K, wX3_readSum_32 (wX3a n) K (wX3_readSum_7 (wX3a n) K ki st nu na (nI (nN x + 1)) (nI E) nm k) ki st nu na (nI (nN x + 1)) (nI E) nm (nI p) (nI (kN x p)) er es m sK sD (nI d) (nI c) → wX3_readSum_7 (wX3a n) K ki st nu na (nI (nN x + 1)) (nI E) nm (k + 1) (nI p) (nI (kN x p)) er es m sK sD (nI d) (nI c) := by
        intro k er es m sK sD K h
        unfold wX3_readSum_7
        refine br_f (nI_ge (b := 400) (by omega) (by decide)) (c_is wf hp 35 (fun _ => h) (fun z => (c_is wf hp 36 (fun _ => h) (fun y => absurd k46 (fun v => v.elim z y))).symm))
      have stepM : ∀ k me go gw m K, (∀ z0, (kN x p = 35 → z0 = 101) → (kN x p = 36 → z0 = 102) → wX10_isSum_59 (wX10a n') K (wX10_isSum_10 (wX10a n') K mk va k) mk va me (nI p) (nI d) go gw m z0) → wX10_isSum_10 (wX10a n') K mk va (k + 1) me (nI p) (nI d) go gw m := by
        intro k me go gw m K h
        have h38 : wX10_isSum_38 (wX10a n') K (wX10_isSum_10 (wX10a n') K mk va k) mk va me (nI p) (nI d) go gw m := by
          unfold wX10_isSum_38
          refine ⟨vp_in_nI (by omega) (by decide), (m_is wf rm hp 35 (fun z => h _ (fun _ => rfl) (fun y => by omega)) (fun z => h _ (fun y => absurd y z) (fun _ => rfl))).symm⟩
        unfold wX10_isSum_10
        exact ⟨vp_in_nI (by omega) (by decide), m_is wf rm hp 35 (fun _ => h38) (fun z => ⟨vp_in_nI (by omega) (by decide), (m_is wf rm hp 36 (fun _ => h38) (fun y => absurd k46 (fun v => v.elim z y))).symm⟩)⟩
      have z0of : ∀ z0 : Int32, (kN x p = 35 → z0 = 101) → (kN x p = 36 → z0 = 102) → z0 = mKd (kN x p, p) := by
        intro z0 a b
        rcases k46 with e | e
        · rw [a e]; unfold mKd; rw [show (kN x p, p).1 = 35 from e]; rfl
        · rw [b e]; unfold mKd; rw [show (kN x p, p).1 = 36 from e]; rfl
      have d0 : cDt x E nm (kN x p, p) = 0 := cDt_0 (show kN x p ≠ 45 ∧ kN x p ≠ 19 ∧ kN x p ≠ 20 ∧ kN x p ≠ 22 by omega)
      have w0 : mWt x (kN x p, p) = 0 := mWt_0 (show kN x p ≠ 45 ∧ kN x p ≠ 19 ∧ kN x p ≠ 20 ∧ kN x p ≠ 22 by omega)
      obtain ⟨q, q1, q2, ⟨cf, mf⟩ | ⟨L, l1, l2, l3, cs, ms⟩⟩ := hv (p + 1) (by omega)
      · refine ⟨q, by omega, q2, Or.inl ⟨fun er es m sK sD K he hm kk => ⟨2, stepC 1 _ _ _ _ _ _ ?_⟩, fun me go gw m K hm kk => ⟨1, stepM 0 _ _ _ _ _ (fun z0 _ _ => ?_)⟩⟩⟩
        · unfold wX3_readSum_32
          refine c_adv wf rc lt (cf er es m sK sD _ he (by omega) (fun m' sK' sD' hm' => c_pushB hm' (fun m2 sK2 sD2 hm2 => ?_)))
          unfold wX3_readSum_7
          exact ⟨fun _ => kk _ _ _ hm2, fun _ => br_f (show ¬ (48 : Int32) = 35 by decide) (bn_f (show ¬ (48 : Int32) = 36 by decide) (kk _ _ _ hm2))⟩
        · unfold wX10_isSum_59
          rw [nI_1 p]
          exact mf me go gw m _ (by omega) (fun u hu => bn_t rfl (kk _ hu))
      · obtain ⟨r, r1, r2, ⟨cf, mf⟩ | ⟨L2, k1, k2, k3, cs2, ms2⟩⟩ := ih q (c + 1) q2 (by omega) (by omega)
        · refine ⟨r, by omega, r2, Or.inl ⟨fun er es m sK sD K he hm kk => ?_, fun me go gw m K hm kk => ?_⟩⟩
          · obtain ⟨k, hk⟩ := cf (erF x (bdN x E nm) (p + 1) q (er, es)).1 (erF x (bdN x E nm) (p + 1) q (er, es)).2 (m + L.length + 1) (upd (apF cKd sK m L) (m + L.length) (nI (kN x p))) (upd (apF (cDt x E nm) sD m L) (m + L.length) 0) K (erF_ne he) (by omega) kk
            refine ⟨k + 1, stepC k _ _ _ _ _ _ ?_⟩
            unfold wX3_readSum_32
            refine c_adv wf rc lt (cs er es m sK sD _ he (by omega) (c_push (by omega) ?_))
            rw [nI_1 c]
            exact hk
          · obtain ⟨k, hk⟩ := mf (meF x (p + 1) q me) (upd (apF mKd go m L) (m + L.length) (mKd (kN x p, p))) (upd (apF (mWt x) gw m L) (m + L.length) 0) (m + L.length + 1) K (by omega) kk
            refine ⟨k + 1, stepM k _ _ _ _ _ (fun z0 y1 y2 => ?_)⟩
            rw [z0of z0 y1 y2]
            unfold wX10_isSum_59
            rw [nI_1 p]
            exact ms me go gw m _ (by omega) (bn_f (by decide) (m_put (by omega) hk))
        · refine ⟨r, by omega, r2, Or.inr ⟨L ++ [(kN x p, p)] ++ L2, ?_, fun bs => ?_, okL_app (okL_app l3 (okL_plain (show ¬ (kN x p = 19 ∨ kN x p = 20 ∨ kN x p = 22) by omega)) (p := p) (q := r) (p1 := p + 1) (p2 := p) (q1 := q) (q2 := r) (by omega) (by omega) (by omega) (by omega)) k3 (by omega) (by omega) (by omega) (by omega), fun er es m sK sD K he hm kk => ?_, fun me go gw m K hm kk => ?_⟩⟩
          · simp only [List.length_append, List.length_cons, List.length_nil]
            omega
          · have t1 : tyL L (false :: bs) = some (false :: false :: bs) := l2 (false :: bs)
            have t2 := ty_bin (k := kN x p) (t := p) (by rcases k46 with e | e <;> rw [e] <;> decide) (by omega) bs
            show tyL (L ++ [(kN x p, p)] ++ L2) (false :: bs) = _
            rw [tyL_app ((tyL_app t1).trans t2)]
            exact k2 bs
          · have e1 : m + (L ++ [(kN x p, p)] ++ L2).length = m + L.length + 1 + L2.length := by
              simp only [List.length_append, List.length_cons, List.length_nil]
              omega
            rw [e1, apF_app, apF_one, apF_app, apF_one, List.length_append, ← Nat.add_assoc, d0, ← erF_join (p := p) (q := q) (r := r) (by omega) r1, ← erF_join (p := p) (q := p + 1) (r := q) (by omega) q1, erF_no n44] at kk
            obtain ⟨k, hk⟩ := cs2 (erF x (bdN x E nm) (p + 1) q (er, es)).1 (erF x (bdN x E nm) (p + 1) q (er, es)).2 (m + L.length + 1) (upd (apF cKd sK m L) (m + L.length) (nI (kN x p))) (upd (apF (cDt x E nm) sD m L) (m + L.length) 0) K (erF_ne he) (by omega) kk
            refine ⟨k + 1, stepC k _ _ _ _ _ _ ?_⟩
            unfold wX3_readSum_32
            refine c_adv wf rc lt (cs er es m sK sD _ he (by omega) (c_push (by omega) ?_))
            rw [nI_1 c]
            exact hk
          · have e1 : m + (L ++ [(kN x p, p)] ++ L2).length = m + L.length + 1 + L2.length := by
              simp only [List.length_append, List.length_cons, List.length_nil]
              omega
            rw [e1, apF_app, apF_one, apF_app, apF_one, List.length_append, ← Nat.add_assoc, w0, ← meF_join (p := p) (q := q) (r := r) (by omega) r1, ← meF_join (p := p) (q := p + 1) (r := q) (by omega) q1, meF_no n44] at kk
            obtain ⟨k, hk⟩ := ms2 (meF x (p + 1) q me) (upd (apF mKd go m L) (m + L.length) (mKd (kN x p, p))) (upd (apF (mWt x) gw m L) (m + L.length) 0) (m + L.length + 1) K (by omega) kk
            refine ⟨k + 1, stepM k _ _ _ _ _ (fun z0 y1 y2 => ?_)⟩
            rw [z0of z0 y1 y2]
            unfold wX10_isSum_59
            rw [nI_1 p]
            exact ms me go gw m _ (by omega) (bn_f (by decide) (m_put (by omega) hk))
theorem allSum (wf : wfN x) (rc : rNc x ki st nu na) (rm : rNm x mk fr va) {n n' : Nat} (hv : ∀ p, p ≤ nN x → Out x E nm (cA x ki st nu na E nm n 2 d) (mA mk va n' 2) d p [] false) (p : Nat) (hp : p ≤ nN x) : Out x E nm (cA x ki st nu na E nm (n + 1) 3 d) (mA mk va (n' + 1) 3) d p [] false := by
  have n4 := wf.1
  have un3 : ∀ a k er es m sK sD K, wX3_readSum_E (wX3a n) ki st nu na (nI (nN x + 1)) a k er es (nI E) nm m sK sD (nI d) K → cA x ki st nu na E nm (n + 1) 3 d a k er es m sK sD K := fun _ _ _ _ _ _ _ _ h => h
  have un10 : ∀ me tk dp go gw m K, wX10_isSum_E (wX10a n') mk me va tk dp go gw m K → mA mk va (n' + 1) 3 me tk dp go gw m K := fun _ _ _ _ _ _ _ h => h
  obtain ⟨q, q1, q2, ⟨cf, mf⟩ | ⟨L, l1, l2, l3, cs, ms⟩⟩ := hv p hp
  · refine ⟨q, q1, q2, Or.inl ⟨fun er es m sK sD K he hm kk => un3 _ _ _ _ _ _ _ _ ?_, fun me go gw m K hm kk => un10 _ _ _ _ _ _ _ ?_⟩⟩
    · unfold wX3_readSum_E
      refine cf er es m sK sD _ he hm (fun m' sK' sD' hm' => ⟨1, ?_⟩)
      unfold wX3_readSum_7
      exact ⟨fun _ => kk _ _ _ hm', fun _ => br_f (show ¬ (48 : Int32) = 35 by decide) (bn_f (show ¬ (48 : Int32) = 36 by decide) (kk _ _ _ hm'))⟩
    · unfold wX10_isSum_E
      exact mf me go gw m _ hm (fun u hu => bn_t rfl (kk _ hu))
  · obtain ⟨r, r1, r2, ⟨cf, mf⟩ | ⟨L2, k1, k2, k3, cs2, ms2⟩⟩ := tailSum wf rc rm hv (nN x - q) q 0 q2 (Nat.le_refl _) (Nat.zero_le _)
    · refine ⟨r, by omega, r2, Or.inl ⟨fun er es m sK sD K he hm kk => un3 _ _ _ _ _ _ _ _ ?_, fun me go gw m K hm kk => un10 _ _ _ _ _ _ _ ?_⟩⟩
      · unfold wX3_readSum_E
        exact cs er es m sK sD _ he hm (cf _ _ (m + L.length) _ _ K (erF_ne he) (by omega) kk)
      · unfold wX10_isSum_E
        exact ms me go gw m _ hm (bn_f (by decide) (mf _ _ _ (m + L.length) K (by omega) kk))
    · refine ⟨r, by omega, r2, Or.inr ⟨L ++ L2, ?_, fun bs => ?_, okL_app l3 k3 (by omega) (by omega) (by omega) (by omega), fun er es m sK sD K he hm kk => un3 _ _ _ _ _ _ _ _ ?_, fun me go gw m K hm kk => un10 _ _ _ _ _ _ _ ?_⟩⟩
      · rw [List.length_append]; omega
      · rw [tyL_app (l2 bs)]
        exact k2 bs
      · rw [List.length_append, ← Nat.add_assoc, apF_app, apF_app, ← erF_join (p := p) (q := q) (r := r) q1 r1] at kk
        unfold wX3_readSum_E
        exact cs er es m sK sD _ he hm (cs2 _ _ (m + L.length) _ _ K (erF_ne he) (by omega) kk)
      · rw [List.length_append, ← Nat.add_assoc, apF_app, apF_app, ← meF_join (p := p) (q := q) (r := r) q1 r1] at kk
        unfold wX10_isSum_E
        exact ms me go gw m _ hm (bn_f (by decide) (ms2 _ _ _ (m + L.length) K (by omega) kk))
end SUMS
