/-! tests, both -/
def cT (x : Tn) (ki st nu : Nat → Int32) (na : Nat → Int64) (E : Nat) (nm : Nat → Int64) (n t d : Nat) : CW := fun a k er es m sK sD K => wX3b n t ki st nu na (nI (nN x + 1)) a k er es (nI E) nm m sK sD (nI d) K
def mT (mk : Nat → Int32) (va : Nat → Int64) (n t : Nat) : MW := fun me tk dp go gw m K => wX10b n t mk me va tk dp go gw m 0 K
theorem ty_log {k t : Nat} (h : k = 25 ∨ k = 26) (bs : List Bool) : tyL [(k, t)] (true :: true :: bs) = some (true :: bs) := by
  refine tyL_one ?_
  show tyS k (true :: true :: bs) = _
  rcases h with rfl | rfl
  · rw [tyS2 (by decide)]; rfl
  · rw [tyS2 (by decide)]; rfl
theorem ty_cmp {k t : Nat} (h : 39 ≤ k ∧ k ≤ 43) (bs : List Bool) : tyL [(k, t)] (false :: false :: bs) = some (true :: bs) := by
  refine tyL_one ?_
  show tyS k (false :: false :: bs) = _
  have : k = 39 ∨ k = 40 ∨ k = 41 ∨ k = 42 ∨ k = 43 := by omega
  rcases this with rfl | rfl | rfl | rfl | rfl <;> (rw [tyS2 (by decide)]; rfl)
theorem ty_not {t : Nat} (bs : List Bool) : tyL [(24, t)] (true :: bs) = some (true :: bs) := by
  refine tyL_one ?_
  show tyS 24 (true :: bs) = _
  rw [tyS1 (by decide)]; rfl
theorem ty_sure {t : Nat} (bs : List Bool) : tyL [(23, t)] (false :: bs) = some (true :: bs) := by
  refine tyL_one ?_
  show tyS 23 (false :: bs) = _
  rw [tyS1 (by decide)]; rfl
theorem ty_seen {t : Nat} (bs : List Bool) : tyL [(22, t)] bs = some (true :: bs) := by
  refine tyL_one ?_
  show tyS 22 bs = _
  rw [tyS0 (by decide)]; rfl
section TESTS
variable {x : Tn} {ki st nu mk fr : Nat → Int32} {na va : Nat → Int64} {E : Nat} {nm : Nat → Int64} {p d : Nat}
theorem stopBoth (wf : wfN x) (rm : rNm x mk fr va) {n n' c : Nat} (hp : p ≤ nN x) (hc : c ≤ p) (hk : kN x p ≠ 25) : Out x E nm (fun a k er es m sK sD K => ∃ k9 : Nat, wX3_readBoth_7 (wX3b n) K ki st nu na (nI (nN x + 1)) (nI E) nm k9 a k er es m sK sD (nI d) (nI c)) (fun me tk dp go gw m K => ∃ k9 : Nat, wX10_isBoth_10 (wX10b n') K mk va k9 me tk dp go gw m) d p [true] true := by
  have n4 := wf.1
  refine ⟨p, Nat.le_refl p, hp, Or.inr ⟨[], Nat.zero_le _, fun bs => rfl, okL_nil, fun er es m sK sD K he hm kk => ⟨1, ?_⟩, fun me go gw m K hm kk => ⟨1, ?_⟩⟩⟩
  · rw [erF_same] at kk
    unfold wX3_readBoth_7
    exact ⟨fun _ => kk, fun _ => (c_is wf hp 25 (fun z => absurd z hk) (fun _ => kk)).symm⟩
  · rw [meF_same] at kk
    unfold wX10_isBoth_10
    exact m_eat_n wf rm hp 25 hk (br_t rfl kk)
theorem tailBoth (wf : wfN x) (rc : rNc x ki st nu na) (rm : rNm x mk fr va) {n n' : Nat} (hv : ∀ p, p ≤ nN x → Out x E nm (cT x ki st nu na E nm n 1 d) (mT mk va n' 1) d p [] true) : ∀ g p c, p ≤ nN x → nN x - p ≤ g → c ≤ p → Out x E nm (fun a k er es m sK sD K => ∃ k9 : Nat, wX3_readBoth_7 (wX3b n) K ki st nu na (nI (nN x + 1)) (nI E) nm k9 a k er es m sK sD (nI d) (nI c)) (fun me tk dp go gw m K => ∃ k9 : Nat, wX10_isBoth_10 (wX10b n') K mk va k9 me tk dp go gw m) d p [true] true := by
  have n4 := wf.1
  intro g
  induction g with
  | zero =>
    intro p c hp hg hc
    have e : p = nN x := by omega
    have hk : kN x p ≠ 25 := by
      subst e
      have := wf.2.1
      omega
    exact stopBoth wf rm hp hc hk
  | succ g ih =>
    intro p c hp hg hc
    by_cases hk : kN x p ≠ 25
    · exact stopBoth wf rm hp hc hk
    · have k46 : kN x p = 25 := by omega
      have lt := kN_lt wf hp (by omega)
      have n44 : kN x p ≠ 44 := by omega
      have stepC : ∀ k er es m sK sD K, wX3_advance ki (nI (nN x + 1)) (nI p) (nI (kN x p)) (fun u1 => wX3b n 1 ki st nu na (nI (nN x + 1)) u1.1 u1.2 er es (nI E) nm m sK sD (nI d) (fun u2 => wX1_addStep u2.2.2.2.2.1 u2.2.2.2.2.2.1 u2.2.2.2.2.2.2 25 0 (fun u3 => wX3_readBoth_7 (wX3b n) K ki st nu na (nI (nN x + 1)) (nI E) nm k u2.1 u2.2.1 u2.2.2.1 u2.2.2.2.1 u3.1 u3.2.1 u3.2.2 (nI d) (nI c + 1)))) → wX3_readBoth_7 (wX3b n) K ki st nu na (nI (nN x + 1)) (nI E) nm (k + 1) (nI p) (nI (kN x p)) er es m sK sD (nI d) (nI c) := by
        intro k er es m sK sD K h
        unfold wX3_readBoth_7
        refine br_f (nI_ge (b := 400) (by omega) (by decide)) ((c_is wf hp 25 (fun _ => h) (fun z => absurd k46 z)).symm)
      have d0 : cDt x E nm (25, p) = 0 := cDk (by decide)
      have w0 : mWt x (25, p) = 0 := mWk (by decide)
      obtain ⟨q, q1, q2, ⟨cf, mf⟩ | ⟨L, l1, l2, l3, cs, ms⟩⟩ := hv (p + 1) (by omega)
      · refine ⟨q, by omega, q2, Or.inl ⟨fun er es m sK sD K he hm kk => ⟨2, stepC 1 _ _ _ _ _ _ ?_⟩, fun me go gw m K hm kk => ⟨1, ?_⟩⟩⟩
        · refine c_adv wf rc lt (cf er es m sK sD _ he (by omega) (fun m' sK' sD' hm' => c_pushB hm' (fun m2 sK2 sD2 hm2 => ?_)))
          unfold wX3_readBoth_7
          exact ⟨fun _ => kk _ _ _ hm2, fun _ => bn_f (show ¬ (48 : Int32) = 25 by decide) (kk _ _ _ hm2)⟩
        · unfold wX10_isBoth_10
          exact m_eat_y wf rm hp 25 k46 (br_f (by decide) (mf me go gw m _ (by omega) (fun u hu => bn_t rfl (kk _ hu))))
      · obtain ⟨r, r1, r2, ⟨cf, mf⟩ | ⟨L2, k1, k2, k3, cs2, ms2⟩⟩ := ih q (c + 1) q2 (by omega) (by omega)
        · refine ⟨r, by omega, r2, Or.inl ⟨fun er es m sK sD K he hm kk => ?_, fun me go gw m K hm kk => ?_⟩⟩
          · obtain ⟨k, hk⟩ := cf (erF x (bdN x E nm) (p + 1) q (er, es)).1 (erF x (bdN x E nm) (p + 1) q (er, es)).2 (m + L.length + 1) (upd (apF cKd sK m L) (m + L.length) 25) (upd (apF (cDt x E nm) sD m L) (m + L.length) 0) K (erF_ne he) (by omega) kk
            refine ⟨k + 1, stepC k _ _ _ _ _ _ ?_⟩
            refine c_adv wf rc lt (cs er es m sK sD _ he (by omega) (c_push (by omega) ?_))
            rw [nI_1 c]
            exact hk
          · obtain ⟨k, hk⟩ := mf (meF x (p + 1) q me) (upd (apF mKd go m L) (m + L.length) 25) (upd (apF (mWt x) gw m L) (m + L.length) 0) (m + L.length + 1) K (by omega) kk
            refine ⟨k + 1, ?_⟩
            unfold wX10_isBoth_10
            exact m_eat_y wf rm hp 25 k46 (br_f (by decide) (ms me go gw m _ (by omega) (bn_f (by decide) (m_put (by omega) hk))))
        · refine ⟨r, by omega, r2, Or.inr ⟨L ++ [(25, p)] ++ L2, ?_, fun bs => ?_, okL_app (okL_app l3 (okP (by decide)) (p := p) (q := r) (p1 := p + 1) (p2 := p) (q1 := q) (q2 := r) (by omega) (by omega) (by omega) (by omega)) k3 (by omega) (by omega) (by omega) (by omega), fun er es m sK sD K he hm kk => ?_, fun me go gw m K hm kk => ?_⟩⟩
          · simp only [List.length_append, List.length_cons, List.length_nil]
            omega
          · have t1 : tyL L (true :: bs) = some (true :: true :: bs) := l2 (true :: bs)
            have t2 := ty_log (k := 25) (t := p) (by decide) bs
            show tyL (L ++ [(25, p)] ++ L2) (true :: bs) = _
            rw [tyL_app ((tyL_app t1).trans t2)]
            exact k2 bs
          · have e1 : m + (L ++ [(25, p)] ++ L2).length = m + L.length + 1 + L2.length := by
              simp only [List.length_append, List.length_cons, List.length_nil]
              omega
            rw [e1, apF_app, apF_one, apF_app, apF_one, List.length_append, ← Nat.add_assoc, d0, ← erF_join (p := p) (q := q) (r := r) (by omega) r1, ← erF_join (p := p) (q := p + 1) (r := q) (by omega) q1, erF_no n44] at kk
            obtain ⟨k, hk⟩ := cs2 (erF x (bdN x E nm) (p + 1) q (er, es)).1 (erF x (bdN x E nm) (p + 1) q (er, es)).2 (m + L.length + 1) (upd (apF cKd sK m L) (m + L.length) 25) (upd (apF (cDt x E nm) sD m L) (m + L.length) 0) K (erF_ne he) (by omega) kk
            refine ⟨k + 1, stepC k _ _ _ _ _ _ ?_⟩
            refine c_adv wf rc lt (cs er es m sK sD _ he (by omega) (c_push (by omega) ?_))
            rw [nI_1 c]
            exact hk
          · have e1 : m + (L ++ [(25, p)] ++ L2).length = m + L.length + 1 + L2.length := by
              simp only [List.length_append, List.length_cons, List.length_nil]
              omega
            rw [e1, apF_app, apF_one, apF_app, apF_one, List.length_append, ← Nat.add_assoc, w0, ← meF_join (p := p) (q := q) (r := r) (by omega) r1, ← meF_join (p := p) (q := p + 1) (r := q) (by omega) q1, meF_no n44] at kk
            obtain ⟨k, hk⟩ := ms2 (meF x (p + 1) q me) (upd (apF mKd go m L) (m + L.length) 25) (upd (apF (mWt x) gw m L) (m + L.length) 0) (m + L.length + 1) K (by omega) kk
            refine ⟨k + 1, ?_⟩
            unfold wX10_isBoth_10
            exact m_eat_y wf rm hp 25 k46 (br_f (by decide) (ms me go gw m _ (by omega) (bn_f (by decide) (m_put (by omega) hk))))
theorem allBoth (wf : wfN x) (rc : rNc x ki st nu na) (rm : rNm x mk fr va) {n n' : Nat} (hv : ∀ p, p ≤ nN x → Out x E nm (cT x ki st nu na E nm n 1 d) (mT mk va n' 1) d p [] true) (p : Nat) (hp : p ≤ nN x) : Out x E nm (cT x ki st nu na E nm (n + 1) 0 d) (mT mk va (n' + 1) 0) d p [] true := by
  have n4 := wf.1
  have un3 : ∀ a k er es m sK sD K, wX3_readBoth_E (wX3b n) ki st nu na (nI (nN x + 1)) a k er es (nI E) nm m sK sD (nI d) K → cT x ki st nu na E nm (n + 1) 0 d a k er es m sK sD K := fun _ _ _ _ _ _ _ _ h => h
  have un10 : ∀ me tk dp go gw m K, wX10_isBoth_E (wX10b n') mk me va tk dp go gw m K → mT mk va (n' + 1) 0 me tk dp go gw m K := fun _ _ _ _ _ _ _ h => h
  obtain ⟨q, q1, q2, ⟨cf, mf⟩ | ⟨L, l1, l2, l3, cs, ms⟩⟩ := hv p hp
  · refine ⟨q, q1, q2, Or.inl ⟨fun er es m sK sD K he hm kk => un3 _ _ _ _ _ _ _ _ ?_, fun me go gw m K hm kk => un10 _ _ _ _ _ _ _ ?_⟩⟩
    · unfold wX3_readBoth_E
      refine cf er es m sK sD _ he hm (fun m' sK' sD' hm' => ⟨1, ?_⟩)
      unfold wX3_readBoth_7
      exact ⟨fun _ => kk _ _ _ hm', fun _ => bn_f (show ¬ (48 : Int32) = 25 by decide) (kk _ _ _ hm')⟩
    · unfold wX10_isBoth_E
      exact mf me go gw m _ hm (fun u hu => bn_t rfl (kk _ hu))
  · obtain ⟨r, r1, r2, ⟨cf, mf⟩ | ⟨L2, k1, k2, k3, cs2, ms2⟩⟩ := tailBoth wf rc rm hv (nN x - q) q 0 q2 (Nat.le_refl _) (Nat.zero_le _)
    · refine ⟨r, by omega, r2, Or.inl ⟨fun er es m sK sD K he hm kk => un3 _ _ _ _ _ _ _ _ ?_, fun me go gw m K hm kk => un10 _ _ _ _ _ _ _ ?_⟩⟩
      · unfold wX3_readBoth_E
        exact cs er es m sK sD _ he hm (cf _ _ (m + L.length) _ _ K (erF_ne he) (by omega) kk)
      · unfold wX10_isBoth_E
        exact ms me go gw m _ hm (bn_f (by decide) (mf _ _ _ (m + L.length) K (by omega) kk))
    · refine ⟨r, by omega, r2, Or.inr ⟨L ++ L2, ?_, fun bs => ?_, okL_app l3 k3 (by omega) (by omega) (by omega) (by omega), fun er es m sK sD K he hm kk => un3 _ _ _ _ _ _ _ _ ?_, fun me go gw m K hm kk => un10 _ _ _ _ _ _ _ ?_⟩⟩
      · rw [List.length_append]; omega
      · rw [tyL_app (l2 bs)]
        exact k2 bs
      · rw [List.length_append, ← Nat.add_assoc, apF_app, apF_app, ← erF_join (p := p) (q := q) (r := r) q1 r1] at kk
        unfold wX3_readBoth_E
        exact cs er es m sK sD _ he hm (cs2 _ _ (m + L.length) _ _ K (erF_ne he) (by omega) kk)
      · rw [List.length_append, ← Nat.add_assoc, apF_app, apF_app, ← meF_join (p := p) (q := q) (r := r) q1 r1] at kk
        unfold wX10_isBoth_E
        exact ms me go gw m _ hm (bn_f (by decide) (ms2 _ _ _ (m + L.length) K (by omega) kk))
theorem stopTest (wf : wfN x) (rm : rNm x mk fr va) {n n' c : Nat} (hp : p ≤ nN x) (hc : c ≤ p) (hk : kN x p ≠ 26) : Out x E nm (fun a k er es m sK sD K => ∃ k9 : Nat, wX3_readTest_7 (wX3b n) K ki st nu na (nI (nN x + 1)) (nI E) nm k9 a k er es m sK sD (nI d) (nI c)) (fun me tk dp go gw m K => ∃ k9 : Nat, wX10_isTest_10 (wX10b n') K mk va k9 me tk dp go gw m) d p [true] true := by
  have n4 := wf.1
  refine ⟨p, Nat.le_refl p, hp, Or.inr ⟨[], Nat.zero_le _, fun bs => rfl, okL_nil, fun er es m sK sD K he hm kk => ⟨1, ?_⟩, fun me go gw m K hm kk => ⟨1, ?_⟩⟩⟩
  · rw [erF_same] at kk
    unfold wX3_readTest_7
    exact ⟨fun _ => kk, fun _ => (c_is wf hp 26 (fun z => absurd z hk) (fun _ => kk)).symm⟩
  · rw [meF_same] at kk
    unfold wX10_isTest_10
    exact m_eat_n wf rm hp 26 hk (br_t rfl kk)
theorem tailTest (wf : wfN x) (rc : rNc x ki st nu na) (rm : rNm x mk fr va) {n n' : Nat} (hv : ∀ p, p ≤ nN x → Out x E nm (cT x ki st nu na E nm n 0 d) (mT mk va n' 0) d p [] true) : ∀ g p c, p ≤ nN x → nN x - p ≤ g → c ≤ p → Out x E nm (fun a k er es m sK sD K => ∃ k9 : Nat, wX3_readTest_7 (wX3b n) K ki st nu na (nI (nN x + 1)) (nI E) nm k9 a k er es m sK sD (nI d) (nI c)) (fun me tk dp go gw m K => ∃ k9 : Nat, wX10_isTest_10 (wX10b n') K mk va k9 me tk dp go gw m) d p [true] true := by
  have n4 := wf.1
  intro g
  induction g with
  | zero =>
    intro p c hp hg hc
    have e : p = nN x := by omega
    have hk : kN x p ≠ 26 := by
      subst e
      have := wf.2.1
      omega
    exact stopTest wf rm hp hc hk
  | succ g ih =>
    intro p c hp hg hc
    by_cases hk : kN x p ≠ 26
    · exact stopTest wf rm hp hc hk
    · have k46 : kN x p = 26 := by omega
      have lt := kN_lt wf hp (by omega)
      have n44 : kN x p ≠ 44 := by omega
      have stepC : ∀ k er es m sK sD K, wX3_advance ki (nI (nN x + 1)) (nI p) (nI (kN x p)) (fun u1 => wX3b n 0 ki st nu na (nI (nN x + 1)) u1.1 u1.2 er es (nI E) nm m sK sD (nI d) (fun u2 => wX1_addStep u2.2.2.2.2.1 u2.2.2.2.2.2.1 u2.2.2.2.2.2.2 26 0 (fun u3 => wX3_readTest_7 (wX3b n) K ki st nu na (nI (nN x + 1)) (nI E) nm k u2.1 u2.2.1 u2.2.2.1 u2.2.2.2.1 u3.1 u3.2.1 u3.2.2 (nI d) (nI c + 1)))) → wX3_readTest_7 (wX3b n) K ki st nu na (nI (nN x + 1)) (nI E) nm (k + 1) (nI p) (nI (kN x p)) er es m sK sD (nI d) (nI c) := by
        intro k er es m sK sD K h
        unfold wX3_readTest_7
        refine br_f (nI_ge (b := 400) (by omega) (by decide)) ((c_is wf hp 26 (fun _ => h) (fun z => absurd k46 z)).symm)
      have d0 : cDt x E nm (26, p) = 0 := cDk (by decide)
      have w0 : mWt x (26, p) = 0 := mWk (by decide)
      obtain ⟨q, q1, q2, ⟨cf, mf⟩ | ⟨L, l1, l2, l3, cs, ms⟩⟩ := hv (p + 1) (by omega)
      · refine ⟨q, by omega, q2, Or.inl ⟨fun er es m sK sD K he hm kk => ⟨2, stepC 1 _ _ _ _ _ _ ?_⟩, fun me go gw m K hm kk => ⟨1, ?_⟩⟩⟩
        · refine c_adv wf rc lt (cf er es m sK sD _ he (by omega) (fun m' sK' sD' hm' => c_pushB hm' (fun m2 sK2 sD2 hm2 => ?_)))
          unfold wX3_readTest_7
          exact ⟨fun _ => kk _ _ _ hm2, fun _ => bn_f (show ¬ (48 : Int32) = 26 by decide) (kk _ _ _ hm2)⟩
        · unfold wX10_isTest_10
          exact m_eat_y wf rm hp 26 k46 (br_f (by decide) (mf me go gw m _ (by omega) (fun u hu => bn_t rfl (kk _ hu))))
      · obtain ⟨r, r1, r2, ⟨cf, mf⟩ | ⟨L2, k1, k2, k3, cs2, ms2⟩⟩ := ih q (c + 1) q2 (by omega) (by omega)
        · refine ⟨r, by omega, r2, Or.inl ⟨fun er es m sK sD K he hm kk => ?_, fun me go gw m K hm kk => ?_⟩⟩
          · obtain ⟨k, hk⟩ := cf (erF x (bdN x E nm) (p + 1) q (er, es)).1 (erF x (bdN x E nm) (p + 1) q (er, es)).2 (m + L.length + 1) (upd (apF cKd sK m L) (m + L.length) 26) (upd (apF (cDt x E nm) sD m L) (m + L.length) 0) K (erF_ne he) (by omega) kk
            refine ⟨k + 1, stepC k _ _ _ _ _ _ ?_⟩
            refine c_adv wf rc lt (cs er es m sK sD _ he (by omega) (c_push (by omega) ?_))
            rw [nI_1 c]
            exact hk
          · obtain ⟨k, hk⟩ := mf (meF x (p + 1) q me) (upd (apF mKd go m L) (m + L.length) 26) (upd (apF (mWt x) gw m L) (m + L.length) 0) (m + L.length + 1) K (by omega) kk
            refine ⟨k + 1, ?_⟩
            unfold wX10_isTest_10
            exact m_eat_y wf rm hp 26 k46 (br_f (by decide) (ms me go gw m _ (by omega) (bn_f (by decide) (m_put (by omega) hk))))
        · refine ⟨r, by omega, r2, Or.inr ⟨L ++ [(26, p)] ++ L2, ?_, fun bs => ?_, okL_app (okL_app l3 (okP (by decide)) (p := p) (q := r) (p1 := p + 1) (p2 := p) (q1 := q) (q2 := r) (by omega) (by omega) (by omega) (by omega)) k3 (by omega) (by omega) (by omega) (by omega), fun er es m sK sD K he hm kk => ?_, fun me go gw m K hm kk => ?_⟩⟩
          · simp only [List.length_append, List.length_cons, List.length_nil]
            omega
          · have t1 : tyL L (true :: bs) = some (true :: true :: bs) := l2 (true :: bs)
            have t2 := ty_log (k := 26) (t := p) (by decide) bs
            show tyL (L ++ [(26, p)] ++ L2) (true :: bs) = _
            rw [tyL_app ((tyL_app t1).trans t2)]
            exact k2 bs
          · have e1 : m + (L ++ [(26, p)] ++ L2).length = m + L.length + 1 + L2.length := by
              simp only [List.length_append, List.length_cons, List.length_nil]
              omega
            rw [e1, apF_app, apF_one, apF_app, apF_one, List.length_append, ← Nat.add_assoc, d0, ← erF_join (p := p) (q := q) (r := r) (by omega) r1, ← erF_join (p := p) (q := p + 1) (r := q) (by omega) q1, erF_no n44] at kk
            obtain ⟨k, hk⟩ := cs2 (erF x (bdN x E nm) (p + 1) q (er, es)).1 (erF x (bdN x E nm) (p + 1) q (er, es)).2 (m + L.length + 1) (upd (apF cKd sK m L) (m + L.length) 26) (upd (apF (cDt x E nm) sD m L) (m + L.length) 0) K (erF_ne he) (by omega) kk
            refine ⟨k + 1, stepC k _ _ _ _ _ _ ?_⟩
            refine c_adv wf rc lt (cs er es m sK sD _ he (by omega) (c_push (by omega) ?_))
            rw [nI_1 c]
            exact hk
          · have e1 : m + (L ++ [(26, p)] ++ L2).length = m + L.length + 1 + L2.length := by
              simp only [List.length_append, List.length_cons, List.length_nil]
              omega
            rw [e1, apF_app, apF_one, apF_app, apF_one, List.length_append, ← Nat.add_assoc, w0, ← meF_join (p := p) (q := q) (r := r) (by omega) r1, ← meF_join (p := p) (q := p + 1) (r := q) (by omega) q1, meF_no n44] at kk
            obtain ⟨k, hk⟩ := ms2 (meF x (p + 1) q me) (upd (apF mKd go m L) (m + L.length) 26) (upd (apF (mWt x) gw m L) (m + L.length) 0) (m + L.length + 1) K (by omega) kk
            refine ⟨k + 1, ?_⟩
            unfold wX10_isTest_10
            exact m_eat_y wf rm hp 26 k46 (br_f (by decide) (ms me go gw m _ (by omega) (bn_f (by decide) (m_put (by omega) hk))))
theorem allTest (wf : wfN x) (rc : rNc x ki st nu na) (rm : rNm x mk fr va) {n n' : Nat} (hv : ∀ p, p ≤ nN x → Out x E nm (cT x ki st nu na E nm n 0 d) (mT mk va n' 0) d p [] true) (p : Nat) (hp : p ≤ nN x) : Out x E nm (cT x ki st nu na E nm (n + 1) 2 d) (mT mk va (n' + 1) 2) d p [] true := by
  have n4 := wf.1
  have un3 : ∀ a k er es m sK sD K, wX3_readTest_E (wX3b n) ki st nu na (nI (nN x + 1)) a k er es (nI E) nm m sK sD (nI d) K → cT x ki st nu na E nm (n + 1) 2 d a k er es m sK sD K := fun _ _ _ _ _ _ _ _ h => h
  have un10 : ∀ me tk dp go gw m K, wX10_isTest_E (wX10b n') mk me va tk dp go gw m K → mT mk va (n' + 1) 2 me tk dp go gw m K := fun _ _ _ _ _ _ _ h => h
  obtain ⟨q, q1, q2, ⟨cf, mf⟩ | ⟨L, l1, l2, l3, cs, ms⟩⟩ := hv p hp
  · refine ⟨q, q1, q2, Or.inl ⟨fun er es m sK sD K he hm kk => un3 _ _ _ _ _ _ _ _ ?_, fun me go gw m K hm kk => un10 _ _ _ _ _ _ _ ?_⟩⟩
    · unfold wX3_readTest_E
      refine cf er es m sK sD _ he hm (fun m' sK' sD' hm' => ⟨1, ?_⟩)
      unfold wX3_readTest_7
      exact ⟨fun _ => kk _ _ _ hm', fun _ => bn_f (show ¬ (48 : Int32) = 26 by decide) (kk _ _ _ hm')⟩
    · unfold wX10_isTest_E
      exact mf me go gw m _ hm (fun u hu => bn_t rfl (kk _ hu))
  · obtain ⟨r, r1, r2, ⟨cf, mf⟩ | ⟨L2, k1, k2, k3, cs2, ms2⟩⟩ := tailTest wf rc rm hv (nN x - q) q 0 q2 (Nat.le_refl _) (Nat.zero_le _)
    · refine ⟨r, by omega, r2, Or.inl ⟨fun er es m sK sD K he hm kk => un3 _ _ _ _ _ _ _ _ ?_, fun me go gw m K hm kk => un10 _ _ _ _ _ _ _ ?_⟩⟩
      · unfold wX3_readTest_E
        exact cs er es m sK sD _ he hm (cf _ _ (m + L.length) _ _ K (erF_ne he) (by omega) kk)
      · unfold wX10_isTest_E
        exact ms me go gw m _ hm (bn_f (by decide) (mf _ _ _ (m + L.length) K (by omega) kk))
    · refine ⟨r, by omega, r2, Or.inr ⟨L ++ L2, ?_, fun bs => ?_, okL_app l3 k3 (by omega) (by omega) (by omega) (by omega), fun er es m sK sD K he hm kk => un3 _ _ _ _ _ _ _ _ ?_, fun me go gw m K hm kk => un10 _ _ _ _ _ _ _ ?_⟩⟩
      · rw [List.length_append]; omega
      · rw [tyL_app (l2 bs)]
        exact k2 bs
      · rw [List.length_append, ← Nat.add_assoc, apF_app, apF_app, ← erF_join (p := p) (q := q) (r := r) q1 r1] at kk
        unfold wX3_readTest_E
        exact cs er es m sK sD _ he hm (cs2 _ _ (m + L.length) _ _ K (erF_ne he) (by omega) kk)
      · rw [List.length_append, ← Nat.add_assoc, apF_app, apF_app, ← meF_join (p := p) (q := q) (r := r) q1 r1] at kk
        unfold wX10_isTest_E
        exact ms me go gw m _ hm (bn_f (by decide) (ms2 _ _ _ (m + L.length) K (by omega) kk))
theorem uS (n : Nat) {a k er es m : Int32} {sK sD : Nat → Int32} {K : CK → Prop} (h : wX3_readSingle_E (wX3b n) ki st nu na (nI (nN x + 1)) a k er es (nI E) nm m sK sD (nI d) K) : cT x ki st nu na E nm (n + 1) 1 d a k er es m sK sD K := h
theorem vS (n : Nat) {tk dp m : Int32} {me go gw : Nat → Int32} {K : Int32 → MK → Prop} (h : wX10_isSingle_E (wX10b n) mk me va tk dp go gw m K) : mT mk va (n + 1) 1 me tk dp go gw m K := h
theorem c_cmp_y (wf : wfN x) (rc : rNc x ki st nu na) (hp : p ≤ nN x) (h : 39 ≤ kN x p ∧ kN x p ≤ 43) {er es : Int32} {K : (Int32 × Int32 × Int32 × Int32) → Prop} (kk : K (nI (p + 1), nI (kN x (p + 1)), er, es)) : wX3_expectComparison ki st (nI (nN x + 1)) (nI p) (nI (kN x p)) er es K := by
  unfold wX3_expectComparison
  exact br_f (nI_nlt (b := 39) h.1 (by omega)) (br_f (nI_nlt (a := 43) h.2 (by decide)) (c_adv wf rc (kN_lt wf hp (by omega)) kk))
theorem c_cmp_n (wf : wfN x) (rc : rNc x ki st nu na) (hp : p ≤ nN x) (h : ¬ (39 ≤ kN x p ∧ kN x p ≤ 43)) {er es : Int32} (he : er ≠ 1) {K : (Int32 × Int32 × Int32 × Int32) → Prop} (kk : K (nI p, 48, 1, nI (sN x p))) : wX3_expectComparison ki st (nI (nN x + 1)) (nI p) (nI (kN x p)) er es K := by
  have hk := (kN_b wf hp).1
  have rf : wX3_expectComparison_25 K ki st (nI (nN x + 1)) (nI p) (nI (kN x p)) er es := c_ref wf rc hp he kk
  unfold wX3_expectComparison
  exact pk_lt (kN x p) 39 (fun _ => rf) (fun z => pk_lt 43 (kN x p) (fun _ => rf) (fun y => absurd ⟨z, y⟩ h))
theorem c_cmp_B {n a es : Int32} {K : (Int32 × Int32 × Int32 × Int32) → Prop} (kk : K (a, 48, 1, es)) : wX3_expectComparison ki st n a 48 1 es K := by
  unfold wX3_expectComparison
  exact br_f (by decide) (br_t (by decide) (c_refB kk))
theorem m_cmp (wf : wfN x) (rm : rNm x mk fr va) (hp : p ≤ nN x) {X : Int32 → Prop} (hy : 39 ≤ kN x p ∧ kN x p ≤ 43 → X (nI (trK (kN x p)))) (hn : ¬ (39 ≤ kN x p ∧ kN x p ≤ 43) → X (-1)) : (¬ mk (nI p).toNatClampNeg = 60 → ((¬ mk (nI p).toNatClampNeg = 62 → ((¬ mk (nI p).toNatClampNeg = 61 → ((¬ mk (nI p).toNatClampNeg = 316 → ((¬ mk (nI p).toNatClampNeg = 318 → X (-1)) ∧ (mk (nI p).toNatClampNeg = 318 → X 110))) ∧ (mk (nI p).toNatClampNeg = 316 → X 109))) ∧ (mk (nI p).toNatClampNeg = 61 → X 108))) ∧ (mk (nI p).toNatClampNeg = 62 → X 107))) ∧ (mk (nI p).toNatClampNeg = 60 → X 106) := by
  refine (m_is wf rm hp 39 (fun z => ?_) (fun z39 => (m_is wf rm hp 40 (fun z => ?_) (fun z40 => (m_is wf rm hp 41 (fun z => ?_) (fun z41 => (m_is wf rm hp 42 (fun z => ?_) (fun z42 => (m_is wf rm hp 43 (fun z => ?_) (fun z43 => ?_)).symm)).symm)).symm)).symm)).symm
  · rw [z] at hy; exact hy (by decide)
  · rw [z] at hy; exact hy (by decide)
  · rw [z] at hy; exact hy (by decide)
  · rw [z] at hy; exact hy (by decide)
  · rw [z] at hy; exact hy (by decide)
  · exact hn (by omega)
theorem sing22 (wf : wfN x) (rc : rNc x ki st nu na) (rm : rNm x mk fr va) (hE : E ≤ 6) {n n' : Nat} (hd : d ≤ 8) (hp : p ≤ nN x) (h : kN x p = 22) : Out x E nm (cT x ki st nu na E nm (n + 1) 1 d) (mT mk va (n' + 1) 1) d p [] true := by
  have n4 := wf.1
  have lt := kN_lt wf hp (by omega)
  have n44 : kN x p ≠ 44 := by omega
  by_cases h3 : kN x (p + 1) = 44
  case pos =>
    have lt3 := kN_lt wf (p := p + 1) (by omega) (by omega)
    have d1 : cDt x E nm (22, p + 1) = fI (emF nm (cN x (p + 1)) E) := cDn (by decide)
    have d2 : mWt x (22, p + 1) = nI (p + 1) := mWn (by decide)
    refine ⟨p + 2, by omega, by omega, Or.inr ⟨[(22, p + 1)], by show 1 ≤ p + 2 - p; omega, fun bs => ty_seen bs, okL_name ⟨by show p ≤ p + 1; omega, by show p + 1 < p + 2; omega, h3⟩, fun er es m sK sD K he hm kk => uS n ?_, fun me go gw m K hm kk => vS n' ?_⟩⟩
    rw [erF_pre n44 (by omega)] at kk
    have kk2 : K (nI (p + 2), nI (kN x (p + 2)), (erF x (bdN x E nm) (p + 1) (p + 2) (er, es)).1, (erF x (bdN x E nm) (p + 1) (p + 2) (er, es)).2, nI (m + 1), upd sK m (nI 22), upd sD m (cDt x E nm (22, p + 1))) := kk
    rw [d1] at kk2
    unfold wX3_readSingle_E
    rw [h]
    refine ⟨fun _ => ?_, fun z => absurd z (by decide), fun z => absurd z (by decide), fun z => absurd z (by decide), fun z22 _ _ _ => absurd rfl z22⟩
    exact c_adv wf rc lt (c_known_y wf rc (by omega) h3 hE (c_push (by omega) kk2))
    rw [meF_pre n44 (by omega), meF_yes h3] at kk
    have kk2 : K 1 (upd me (p + 1) 12, nI (p + 2), nI d, upd go m (nI (mkT 22)), upd gw m (mWt x (22, p + 1)), nI (m + 1)) := kk
    rw [d2] at kk2
    unfold wX10_isSingle_E
    rw [nI_clamp (by omega), (rm p hp).1, h]
    refine ⟨vp_in_nI (by omega) (by decide), bn_f (by decide) (bn_f (by decide) (bn_t (by decide) (?_)))⟩
    unfold wX10_isAbout
    rw [nI_1 p]
    refine br_t (by decide) ?_
    unfold wX10_isAbout_27
    exact m_put (by omega) (m_as_y wf rm (by omega) 44 h3 kk2)
  case neg =>
    refine ⟨p + 1, by omega, by omega, Or.inl ⟨fun er es m sK sD K he hm kk => uS n ?_, fun me go gw m K hm kk => vS n' ?_⟩⟩
    unfold wX3_readSingle_E
    rw [h]
    refine ⟨fun _ => ?_, fun z => absurd z (by decide), fun z => absurd z (by decide), fun z => absurd z (by decide), fun z22 _ _ _ => absurd rfl z22⟩
    exact c_adv wf rc lt (c_known_n wf rc (by omega) h3 he (c_pushB (by omega) (fun m' sK' sD' hm' => kk m' sK' sD' hm')))
    unfold wX10_isSingle_E
    rw [nI_clamp (by omega), (rm p hp).1, h]
    refine ⟨vp_in_nI (by omega) (by decide), bn_f (by decide) (bn_f (by decide) (bn_t (by decide) (?_)))⟩
    unfold wX10_isAbout
    rw [nI_1 p]
    refine br_t (by decide) ?_
    unfold wX10_isAbout_27
    exact m_put (by omega) (m_as_n wf rm (by omega) 44 h3 (kk _ rfl))
theorem sing23 (wf : wfN x) (rc : rNc x ki st nu na) (rm : rNm x mk fr va) (hE : E ≤ 6) {n n' : Nat} (hd : d ≤ 8) (hS : ∀ n1 n2 p, 63 ≤ n1 → 63 ≤ n2 → p ≤ nN x → Out x E nm (cA x ki st nu na E nm n1 3 d) (mA mk va n2 3) d p [] false) (hp : p ≤ nN x) (h : kN x p = 23) : Out x E nm (cT x ki st nu na E nm (n + 1) 1 d) (mT mk va (n' + 1) 1) d p [] true := by
  have n4 := wf.1
  have lt := kN_lt wf hp (by omega)
  have n44 : kN x p ≠ 44 := by omega
  obtain ⟨q, q1, q2, ⟨cf, mf⟩ | ⟨L, l1, l2, l3, cs, ms⟩⟩ := hS 64 63 (p + 1) (by omega) (by omega) (by omega)
  · refine ⟨q, by omega, q2, Or.inl ⟨fun er es m sK sD K he hm kk => uS n ?_, fun me go gw m K hm kk => vS n' ?_⟩⟩
    unfold wX3_readSingle_E
    rw [h]
    refine ⟨fun z => absurd z (by decide), fun _ => ?_, fun z => absurd z (by decide), fun z => absurd z (by decide), fun _ z23 _ _ => absurd rfl z23⟩
    exact c_adv wf rc lt (cf er es m sK sD _ he (by omega) (fun m' sK' sD' hm' => c_pushB hm' (fun m2 sK2 sD2 hm2 => kk _ _ _ hm2)))
    unfold wX10_isSingle_E
    rw [nI_clamp (by omega), (rm p hp).1, h]
    refine ⟨vp_in_nI (by omega) (by decide), bn_f (by decide) (bn_f (by decide) (bn_f (by decide) (bn_t (by decide) (?_))))⟩
    refine v1 63 ?_
    unfold wX10_isOfOne_E
    rw [nI_1 p]
    exact bn_f (by decide) (mf me go gw m _ (by omega) (fun u hu => bn_t rfl (kk _ hu)))
  · refine ⟨q, by omega, by omega, Or.inr ⟨L ++ [(23, p)], one_le (by omega), fun bs => ?_, okL_app l3 (okP (by decide)) (p := p) (q := q) (p1 := p + 1) (p2 := p) (q1 := q) (q2 := q) (by omega) (by omega) (by omega) (by omega), fun er es m sK sD K he hm kk => uS n ?_, fun me go gw m K hm kk => vS n' ?_⟩⟩
    rw [tyL_app (l2 bs)]
    exact ty_sure bs
    rw [List.length_append, ← Nat.add_assoc, apF_one, apF_one, cDk (k := 23) (t := p) (by decide), erF_pre n44 (by omega)] at kk
    unfold wX3_readSingle_E
    rw [h]
    refine ⟨fun z => absurd z (by decide), fun _ => ?_, fun z => absurd z (by decide), fun z => absurd z (by decide), fun _ z23 _ _ => absurd rfl z23⟩
    exact c_adv wf rc lt (cs er es m sK sD _ he (by omega) (c_push (by omega) kk))
    rw [List.length_append, ← Nat.add_assoc, apF_one, apF_one, mWk (k := 23) (t := p) (by decide), meF_pre n44 (by omega)] at kk
    unfold wX10_isSingle_E
    rw [nI_clamp (by omega), (rm p hp).1, h]
    refine ⟨vp_in_nI (by omega) (by decide), bn_f (by decide) (bn_f (by decide) (bn_f (by decide) (bn_t (by decide) (?_))))⟩
    refine v1 63 ?_
    unfold wX10_isOfOne_E
    rw [nI_1 p]
    refine bn_f (by decide) (ms me go gw m _ (by omega) (bn_f (by decide) ?_))
    unfold wX10_isOfOne_55
    exact m_put (by omega) kk
theorem sing24 (wf : wfN x) (rc : rNc x ki st nu na) (rm : rNm x mk fr va) (hE : E ≤ 6) {n n' : Nat} (hd : d ≤ 8) (h1 : d < 8 → ∀ p, p ≤ nN x → Out x E nm (cT x ki st nu na E nm n 1 (d + 1)) (mT mk va n' 1) (d + 1) p [] true) (hp : p ≤ nN x) (h : kN x p = 24) : Out x E nm (cT x ki st nu na E nm (n + 1) 1 d) (mT mk va (n' + 1) 1) d p [] true := by
  have n4 := wf.1
  have lt := kN_lt wf hp (by omega)
  have n44 : kN x p ≠ 44 := by omega
  by_cases h2 : d = 8
  case pos =>
    have cdn : ∀ er es (K : Int32 → (Int32 × Int32 × Int32 × Int32) → Prop), er ≠ 1 → K 0 (nI p, 48, 1, nI (sN x p)) → wX3_goesDeeper ki st (nI (nN x + 1)) (nI p) (nI 24) er es 24 (nI d) K := by
      intro er es K he kk
      have t := c_deep_n wf rc hp he 24 hd (Or.inr h2) (es := es) (w' := 24) kk
      rw [h] at t; exact t
    refine ⟨p, by omega, by omega, Or.inl ⟨fun er es m sK sD K he hm kk => uS n ?_, fun me go gw m K hm kk => vS n' ?_⟩⟩
    unfold wX3_readSingle_E
    rw [h]
    refine ⟨fun z => absurd z (by decide), fun z => absurd z (by decide), fun _ => ?_, fun z => absurd z (by decide), fun _ _ z24 _ => absurd rfl z24⟩
    exact cdn _ _ _ he (br_t rfl (kk _ _ _ (by omega)))
    unfold wX10_isSingle_E
    rw [nI_clamp (by omega), (rm p hp).1, h]
    refine ⟨vp_in_nI (by omega) (by decide), bn_t (by decide) (?_)⟩
    exact m_deep_n wf rm (by omega) 24 hd (Or.inr h2) (br_t rfl (kk _ rfl))
  case neg =>
    have d8 : d < 8 := by omega
    have cdy : ∀ er es (K : Int32 → (Int32 × Int32 × Int32 × Int32) → Prop), K 1 (nI (p + 1), nI (kN x (p + 1)), er, es) → wX3_goesDeeper ki st (nI (nN x + 1)) (nI p) (nI 24) er es 24 (nI d) K := by
      intro er es K kk
      have t := c_deep_y wf rc hp 24 h d8 (w' := 24) kk
      rw [h] at t; exact t
    obtain ⟨q, q1, q2, ⟨cf, mf⟩ | ⟨L, l1, l2, l3, cs, ms⟩⟩ := h1 d8 (p + 1) (by omega)
    refine ⟨q, by omega, q2, Or.inl ⟨fun er es m sK sD K he hm kk => uS n ?_, fun me go gw m K hm kk => vS n' ?_⟩⟩
    unfold wX3_readSingle_E
    rw [h]
    refine ⟨fun z => absurd z (by decide), fun z => absurd z (by decide), fun _ => ?_, fun z => absurd z (by decide), fun _ _ z24 _ => absurd rfl z24⟩
    refine cdy _ _ _ (br_f (by decide) ?_)
    rw [nI_1 d]
    exact cf er es m sK sD _ he (by omega) (fun m' sK' sD' hm' => c_pushB hm' (fun m2 sK2 sD2 hm2 => kk _ _ _ hm2))
    unfold wX10_isSingle_E
    rw [nI_clamp (by omega), (rm p hp).1, h]
    refine ⟨vp_in_nI (by omega) (by decide), bn_t (by decide) (?_)⟩
    exact m_deep_y wf rm hp 24 h d8 (br_f (by decide) (mf me go gw m _ (by omega) (fun u hu => bn_t rfl (kk _ hu))))
    refine ⟨q, by omega, by omega, Or.inr ⟨L ++ [(24, p)], one_le (by omega), fun bs => ?_, okL_app l3 (okP (by decide)) (p := p) (q := q) (p1 := p + 1) (p2 := p) (q1 := q) (q2 := q) (by omega) (by omega) (by omega) (by omega), fun er es m sK sD K he hm kk => uS n ?_, fun me go gw m K hm kk => vS n' ?_⟩⟩
    rw [tyL_app (l2 bs)]
    exact ty_not bs
    rw [List.length_append, ← Nat.add_assoc, apF_one, apF_one, cDk (k := 24) (t := p) (by decide), erF_pre n44 (by omega)] at kk
    unfold wX3_readSingle_E
    rw [h]
    refine ⟨fun z => absurd z (by decide), fun z => absurd z (by decide), fun _ => ?_, fun z => absurd z (by decide), fun _ _ z24 _ => absurd rfl z24⟩
    refine cdy _ _ _ (br_f (by decide) ?_)
    rw [nI_1 d]
    exact cs er es m sK sD _ he (by omega) (c_push (by omega) kk)
    rw [List.length_append, ← Nat.add_assoc, apF_one, apF_one, mWk (k := 24) (t := p) (by decide), meF_pre n44 (by omega), ← nI_pred d] at kk
    unfold wX10_isSingle_E
    rw [nI_clamp (by omega), (rm p hp).1, h]
    refine ⟨vp_in_nI (by omega) (by decide), bn_t (by decide) (?_)⟩
    exact m_deep_y wf rm hp 24 h d8 (br_f (by decide) (ms me go gw m _ (by omega) (bn_f (by decide) (m_put (by omega) kk))))
theorem sing31 (wf : wfN x) (rc : rNc x ki st nu na) (rm : rNm x mk fr va) (hE : E ≤ 6) {n n' : Nat} (hd : d ≤ 8) (hT : d < 8 → ∀ p, p ≤ nN x → Out x E nm (cT x ki st nu na E nm n 2 (d + 1)) (mT mk va n' 2) (d + 1) p [] true) (hp : p ≤ nN x) (h : kN x p = 31) : Out x E nm (cT x ki st nu na E nm (n + 1) 1 d) (mT mk va (n' + 1) 1) d p [] true := by
  have n4 := wf.1
  have lt := kN_lt wf hp (by omega)
  have n44 : kN x p ≠ 44 := by omega
  by_cases h2 : d = 8
  case pos =>
    have cdn : ∀ er es (K : Int32 → (Int32 × Int32 × Int32 × Int32) → Prop), er ≠ 1 → K 0 (nI p, 48, 1, nI (sN x p)) → wX3_goesDeeper ki st (nI (nN x + 1)) (nI p) (nI 31) er es 31 (nI d) K := by
      intro er es K he kk
      have t := c_deep_n wf rc hp he 31 hd (Or.inr h2) (es := es) (w' := 31) kk
      rw [h] at t; exact t
    refine ⟨p, by omega, by omega, Or.inl ⟨fun er es m sK sD K he hm kk => uS n ?_, fun me go gw m K hm kk => vS n' ?_⟩⟩
    unfold wX3_readSingle_E
    rw [h]
    refine ⟨fun z => absurd z (by decide), fun z => absurd z (by decide), fun z => absurd z (by decide), fun _ => ?_, fun _ _ _ z31 => absurd rfl z31⟩
    exact cdn _ _ _ he (br_t rfl (kk _ _ _ (by omega)))
    unfold wX10_isSingle_E
    rw [nI_clamp (by omega), (rm p hp).1, h]
    refine ⟨vp_in_nI (by omega) (by decide), bn_f (by decide) (bn_t (by decide) (?_))⟩
    exact m_deep_n wf rm (by omega) 31 hd (Or.inr h2) (br_t rfl (kk _ rfl))
  case neg =>
    have d8 : d < 8 := by omega
    have cdy : ∀ er es (K : Int32 → (Int32 × Int32 × Int32 × Int32) → Prop), K 1 (nI (p + 1), nI (kN x (p + 1)), er, es) → wX3_goesDeeper ki st (nI (nN x + 1)) (nI p) (nI 31) er es 31 (nI d) K := by
      intro er es K kk
      have t := c_deep_y wf rc hp 31 h d8 (w' := 31) kk
      rw [h] at t; exact t
    obtain ⟨q, q1, q2, ⟨cf, mf⟩ | ⟨L, l1, l2, l3, cs, ms⟩⟩ := hT d8 (p + 1) (by omega)
    refine ⟨q, by omega, q2, Or.inl ⟨fun er es m sK sD K he hm kk => uS n ?_, fun me go gw m K hm kk => vS n' ?_⟩⟩
    unfold wX3_readSingle_E
    rw [h]
    refine ⟨fun z => absurd z (by decide), fun z => absurd z (by decide), fun z => absurd z (by decide), fun _ => ?_, fun _ _ _ z31 => absurd rfl z31⟩
    refine cdy _ _ _ (br_f (by decide) ?_)
    rw [nI_1 d]
    exact cf er es m sK sD _ he (by omega) (fun m' sK' sD' hm' => c_exp_B (kk _ _ _ hm'))
    unfold wX10_isSingle_E
    rw [nI_clamp (by omega), (rm p hp).1, h]
    refine ⟨vp_in_nI (by omega) (by decide), bn_f (by decide) (bn_t (by decide) (?_))⟩
    exact m_deep_y wf rm hp 31 h d8 (br_f (by decide) (mf me go gw m _ (by omega) (fun u hu => br_t rfl (kk _ hu))))
    by_cases h4 : kN x q = 32
    case pos =>
      have lt4 := kN_lt wf q2 (by omega)
      refine ⟨q + 1, by omega, by omega, Or.inr ⟨L, by omega, l2, fun a ha z => (by have t := l3 a ha z; exact ⟨by omega, by omega, t.2.2⟩), fun er es m sK sD K he hm kk => uS n ?_, fun me go gw m K hm kk => vS n' ?_⟩⟩
      rw [erF_pre n44 (by omega), erF_suf (by omega) (by omega)] at kk
      unfold wX3_readSingle_E
      rw [h]
      refine ⟨fun z => absurd z (by decide), fun z => absurd z (by decide), fun z => absurd z (by decide), fun _ => ?_, fun _ _ _ z31 => absurd rfl z31⟩
      refine cdy _ _ _ (br_f (by decide) ?_)
      rw [nI_1 d]
      exact cs er es m sK sD _ he (by omega) (c_exp_y wf rc q2 32 h4 kk)
      rw [meF_pre n44 (by omega), meF_suf (by omega) (by omega)] at kk
      unfold wX10_isSingle_E
      rw [nI_clamp (by omega), (rm p hp).1, h]
      refine ⟨vp_in_nI (by omega) (by decide), bn_f (by decide) (bn_t (by decide) (?_))⟩
      exact m_deep_y wf rm hp 31 h d8 (br_f (by decide) (ms me go gw m _ (by omega) (br_f (by decide) (m_close_y wf rm q2 32 h4 (br_f (by decide) kk)))))
    case neg =>
      refine ⟨q, by omega, q2, Or.inl ⟨fun er es m sK sD K he hm kk => uS n ?_, fun me go gw m K hm kk => vS n' ?_⟩⟩
      unfold wX3_readSingle_E
      rw [h]
      refine ⟨fun z => absurd z (by decide), fun z => absurd z (by decide), fun z => absurd z (by decide), fun _ => ?_, fun _ _ _ z31 => absurd rfl z31⟩
      refine cdy _ _ _ (br_f (by decide) ?_)
      rw [nI_1 d]
      exact cs er es m sK sD _ he (by omega) (c_exp_n wf rc q2 (erF_ne he) 32 h4 (kk _ _ _ (by omega)))
      unfold wX10_isSingle_E
      rw [nI_clamp (by omega), (rm p hp).1, h]
      refine ⟨vp_in_nI (by omega) (by decide), bn_f (by decide) (bn_t (by decide) (?_))⟩
      exact m_deep_y wf rm hp 31 h d8 (br_f (by decide) (ms me go gw m _ (by omega) (br_f (by decide) (m_close_n wf rm q2 32 h4 (br_t rfl (kk _ rfl))))))
theorem singNo (wf : wfN x) (rc : rNc x ki st nu na) (rm : rNm x mk fr va) (hE : E ≤ 6) {n n' : Nat} (hd : d ≤ 8) (hS : ∀ n1 n2 p, 63 ≤ n1 → 63 ≤ n2 → p ≤ nN x → Out x E nm (cA x ki st nu na E nm n1 3 d) (mA mk va n2 3) d p [] false) (hp : p ≤ nN x) (h : kN x p ≠ 22 ∧ kN x p ≠ 23 ∧ kN x p ≠ 24 ∧ kN x p ≠ 31) : Out x E nm (cT x ki st nu na E nm (n + 1) 1 d) (mT mk va (n' + 1) 1) d p [] true := by
  have n4 := wf.1
  have bS : cB (cA x ki st nu na E nm 64 3 d) := bSum (n := 61)
  obtain ⟨q, q1, q2, ⟨cf, mf⟩ | ⟨L, l1, l2, l3, cs, ms⟩⟩ := hS 64 64 p (by omega) (by omega) hp
  · refine ⟨q, by omega, q2, Or.inl ⟨fun er es m sK sD K he hm kk => uS n ?_, fun me go gw m K hm kk => vS n' ?_⟩⟩
    unfold wX3_readSingle_E
    refine ⟨fun z => absurd z (c_ne wf hp 22 (by omega)), fun z => absurd z (c_ne wf hp 23 (by omega)), fun z => absurd z (c_ne wf hp 24 (by omega)), fun z => absurd z (c_ne wf hp 31 (by omega)), fun _ _ _ _ => ?_⟩
    exact cf er es m sK sD _ he hm (fun m' sK' sD' hm' => c_cmp_B (bS q _ m' sK' sD' _ (by omega) hm' (fun m2 sK2 sD2 hm2 => c_pushB hm2 (fun m3 sK3 sD3 hm3 => kk _ _ _ hm3))))
    unfold wX10_isSingle_E
    refine ⟨vp_in_nI (by omega) (by decide), bn_f (m_ne wf rm hp 24 (by omega)) (bn_f (m_ne wf rm hp 31 (by omega)) (bn_f (m_ne wf rm hp 22 (by omega)) (bn_f (m_ne wf rm hp 23 (by omega)) (?_))))⟩
    unfold wX10_isCompare
    exact mf me go gw m _ hm (fun u hu => bn_t rfl (kk _ hu))
  · by_cases h4 : 39 ≤ kN x q ∧ kN x q ≤ 43
    case neg =>
      refine ⟨q, by omega, q2, Or.inl ⟨fun er es m sK sD K he hm kk => uS n ?_, fun me go gw m K hm kk => vS n' ?_⟩⟩
      unfold wX3_readSingle_E
      refine ⟨fun z => absurd z (c_ne wf hp 22 (by omega)), fun z => absurd z (c_ne wf hp 23 (by omega)), fun z => absurd z (c_ne wf hp 24 (by omega)), fun z => absurd z (c_ne wf hp 31 (by omega)), fun _ _ _ _ => ?_⟩
      exact cs er es m sK sD _ he hm (c_cmp_n wf rc q2 h4 (erF_ne he) (bS q _ _ _ _ _ (by omega) (by omega) (fun m2 sK2 sD2 hm2 => c_pushB hm2 (fun m3 sK3 sD3 hm3 => kk _ _ _ hm3))))
      unfold wX10_isSingle_E
      refine ⟨vp_in_nI (by omega) (by decide), bn_f (m_ne wf rm hp 24 (by omega)) (bn_f (m_ne wf rm hp 31 (by omega)) (bn_f (m_ne wf rm hp 22 (by omega)) (bn_f (m_ne wf rm hp 23 (by omega)) (?_))))⟩
      unfold wX10_isCompare
      refine ms me go gw m _ hm (bn_f (by decide) ⟨vp_in_nI (by omega) (by decide), m_cmp wf rm q2 (fun z => absurd z h4) (fun _ => ?_)⟩)
      unfold wX10_isCompare_78
      exact bn_t rfl (kk _ rfl)
    case pos =>
      have lt4 := kN_lt wf q2 (by omega)
      have p78 : ∀ z0 : Int32, z0 = nI (trK (kN x q)) → ¬ z0 = -1 := by
        intro z0 e
        rw [e]
        have : kN x q = 39 ∨ kN x q = 40 ∨ kN x q = 41 ∨ kN x q = 42 ∨ kN x q = 43 := by omega
        rcases this with e | e | e | e | e <;> rw [e] <;> decide
      obtain ⟨r, r1, r2, ⟨cf2, mf2⟩ | ⟨L2, k1, k2, k3, cs2, ms2⟩⟩ := hS 64 64 (q + 1) (by omega) (by omega) (by omega)
      refine ⟨r, by omega, r2, Or.inl ⟨fun er es m sK sD K he hm kk => uS n ?_, fun me go gw m K hm kk => vS n' ?_⟩⟩
      unfold wX3_readSingle_E
      refine ⟨fun z => absurd z (c_ne wf hp 22 (by omega)), fun z => absurd z (c_ne wf hp 23 (by omega)), fun z => absurd z (c_ne wf hp 24 (by omega)), fun z => absurd z (c_ne wf hp 31 (by omega)), fun _ _ _ _ => ?_⟩
      refine cs er es m sK sD _ he hm (c_cmp_y wf rc q2 h4 ?_)
      exact cf2 _ _ (m + L.length) _ _ _ (erF_ne he) (by omega) (fun m2 sK2 sD2 hm2 => c_pushB hm2 (fun m3 sK3 sD3 hm3 => kk _ _ _ hm3))
      unfold wX10_isSingle_E
      refine ⟨vp_in_nI (by omega) (by decide), bn_f (m_ne wf rm hp 24 (by omega)) (bn_f (m_ne wf rm hp 31 (by omega)) (bn_f (m_ne wf rm hp 22 (by omega)) (bn_f (m_ne wf rm hp 23 (by omega)) (?_))))⟩
      unfold wX10_isCompare
      refine ms me go gw m _ hm (bn_f (by decide) ⟨vp_in_nI (by omega) (by decide), m_cmp wf rm q2 (fun _ => ?_) (fun z => absurd h4 z)⟩)
      unfold wX10_isCompare_78
      rw [nI_1 q]
      exact bn_f (p78 _ rfl) (mf2 _ _ _ (m + L.length) _ (by omega) (fun u hu => bn_t rfl (kk _ hu)))
      refine ⟨r, by omega, by omega, Or.inr ⟨L ++ L2 ++ [(kN x q, q)], one_le (by rw [List.length_append]; omega), fun bs => ?_, okL_app (okL_app l3 k3 (p := p) (q := r) (p1 := p) (q1 := q) (p2 := q + 1) (q2 := r) (by omega) (by omega) (by omega) (by omega)) (okP (by omega)) (p := p) (q := r) (p1 := p) (p2 := p) (q1 := r) (q2 := r) (by omega) (by omega) (by omega) (by omega), fun er es m sK sD K he hm kk => uS n ?_, fun me go gw m K hm kk => vS n' ?_⟩⟩
      have t1 : tyL L bs = some (false :: bs) := l2 bs
      have t2 : tyL L2 (false :: bs) = some (false :: false :: bs) := k2 (false :: bs)
      have t3 : tyL (L ++ L2) bs = some (false :: false :: bs) := (tyL_app t1).trans t2
      show tyL (L ++ L2 ++ [(kN x q, q)]) bs = _
      rw [tyL_app t3]
      exact ty_cmp h4 bs
      rw [List.length_append, List.length_append, ← Nat.add_assoc, ← Nat.add_assoc, apF_one, apF_one, List.length_append, ← Nat.add_assoc, apF_app, apF_app, cDk (k := kN x q) (t := q) (by omega), ← erF_join (p := p) (q := q) (r := r) (by omega) (by omega), erF_pre (p := q) (by omega) (by omega)] at kk
      unfold wX3_readSingle_E
      refine ⟨fun z => absurd z (c_ne wf hp 22 (by omega)), fun z => absurd z (c_ne wf hp 23 (by omega)), fun z => absurd z (c_ne wf hp 24 (by omega)), fun z => absurd z (c_ne wf hp 31 (by omega)), fun _ _ _ _ => ?_⟩
      refine cs er es m sK sD _ he hm (c_cmp_y wf rc q2 h4 ?_)
      exact cs2 _ _ (m + L.length) _ _ _ (erF_ne he) (by omega) (c_push (by omega) kk)
      rw [List.length_append, List.length_append, ← Nat.add_assoc, ← Nat.add_assoc, apF_one, apF_one, List.length_append, ← Nat.add_assoc, apF_app, apF_app, mWk (k := kN x q) (t := q) (by omega), ← meF_join (p := p) (q := q) (r := r) (by omega) (by omega), meF_pre (p := q) (by omega) (by omega)] at kk
      unfold wX10_isSingle_E
      refine ⟨vp_in_nI (by omega) (by decide), bn_f (m_ne wf rm hp 24 (by omega)) (bn_f (m_ne wf rm hp 31 (by omega)) (bn_f (m_ne wf rm hp 22 (by omega)) (bn_f (m_ne wf rm hp 23 (by omega)) (?_))))⟩
      unfold wX10_isCompare
      refine ms me go gw m _ hm (bn_f (by decide) ⟨vp_in_nI (by omega) (by decide), m_cmp wf rm q2 (fun _ => ?_) (fun z => absurd h4 z)⟩)
      unfold wX10_isCompare_78
      rw [nI_1 q]
      exact bn_f (p78 _ rfl) (ms2 _ _ _ (m + L.length) _ (by omega) (bn_f (by decide) (m_put (by omega) kk)))
theorem singAll (wf : wfN x) (rc : rNc x ki st nu na) (rm : rNm x mk fr va) (hE : E ≤ 6) {n n' : Nat} (hd : d ≤ 8) (hS : ∀ n1 n2 p, 63 ≤ n1 → 63 ≤ n2 → p ≤ nN x → Out x E nm (cA x ki st nu na E nm n1 3 d) (mA mk va n2 3) d p [] false) (h1 : d < 8 → ∀ p, p ≤ nN x → Out x E nm (cT x ki st nu na E nm n 1 (d + 1)) (mT mk va n' 1) (d + 1) p [] true) (hT : d < 8 → ∀ p, p ≤ nN x → Out x E nm (cT x ki st nu na E nm n 2 (d + 1)) (mT mk va n' 2) (d + 1) p [] true) (p : Nat) (hp : p ≤ nN x) : Out x E nm (cT x ki st nu na E nm (n + 1) 1 d) (mT mk va (n' + 1) 1) d p [] true := by
  by_cases h22 : kN x p = 22
  · exact sing22 wf rc rm hE hd hp h22
  by_cases h23 : kN x p = 23
  · exact sing23 wf rc rm hE hd hS hp h23
  by_cases h24 : kN x p = 24
  · exact sing24 wf rc rm hE hd h1 hp h24
  by_cases h31 : kN x p = 31
  · exact sing31 wf rc rm hE hd hT hp h31
  exact singNo wf rc rm hE hd hS hp ⟨h22, h23, h24, h31⟩
theorem gramB (wf : wfN x) (rc : rNc x ki st nu na) (rm : rNm x mk fr va) (hE : E ≤ 6) : ∀ D d, d + D = 8 → (∀ n n' p, 3 * D + 1 ≤ n → 3 * D + 1 ≤ n' → p ≤ nN x → Out x E nm (cT x ki st nu na E nm n 1 d) (mT mk va n' 1) d p [] true) ∧ (∀ n n' p, 3 * D + 3 ≤ n → 3 * D + 3 ≤ n' → p ≤ nN x → Out x E nm (cT x ki st nu na E nm n 2 d) (mT mk va n' 2) d p [] true) := by
  have fin : ∀ D d, (∀ n n' p, 3 * D + 1 ≤ n → 3 * D + 1 ≤ n' → p ≤ nN x → Out x E nm (cT x ki st nu na E nm n 1 d) (mT mk va n' 1) d p [] true) → (∀ n n' p, 3 * D + 3 ≤ n → 3 * D + 3 ≤ n' → p ≤ nN x → Out x E nm (cT x ki st nu na E nm n 2 d) (mT mk va n' 2) d p [] true) := by
    intro D d hv n n' p h1 h2 hp
    obtain ⟨m, rfl⟩ : ∃ m, n = m + 2 := ⟨n - 2, by omega⟩
    obtain ⟨m', rfl⟩ : ∃ m, n' = m + 2 := ⟨n' - 2, by omega⟩
    exact allTest wf rc rm (fun p hp => allBoth wf rc rm (fun p hp => hv m m' p (by omega) (by omega) hp) p hp) p hp
  have hS : ∀ D d, d + D = 8 → ∀ n1 n2 p, 63 ≤ n1 → 63 ≤ n2 → p ≤ nN x → Out x E nm (cA x ki st nu na E nm n1 3 d) (mA mk va n2 3) d p [] false := by
    intro D d hd n1 n2 p h1 h2 hp
    exact (gramA wf rc rm hE D d hd).2 n1 n2 p (by omega) (by omega) hp
  intro D
  induction D with
  | zero =>
    intro d hd
    have hv : ∀ n n' p, 3 * 0 + 1 ≤ n → 3 * 0 + 1 ≤ n' → p ≤ nN x → Out x E nm (cT x ki st nu na E nm n 1 d) (mT mk va n' 1) d p [] true := by
      intro n n' p h1 h2 hp
      obtain ⟨m, rfl⟩ : ∃ m, n = m + 1 := ⟨n - 1, by omega⟩
      obtain ⟨m', rfl⟩ : ∃ m, n' = m + 1 := ⟨n' - 1, by omega⟩
      exact singAll wf rc rm hE (by omega) (hS 0 d hd) (fun z => by omega) (fun z => by omega) p hp
    exact ⟨hv, fin 0 d hv⟩
  | succ D ih =>
    intro d hd
    have t := ih (d + 1) (by omega)
    have hv : ∀ n n' p, 3 * (D + 1) + 1 ≤ n → 3 * (D + 1) + 1 ≤ n' → p ≤ nN x → Out x E nm (cT x ki st nu na E nm n 1 d) (mT mk va n' 1) d p [] true := by
      intro n n' p h1 h2 hp
      obtain ⟨m, rfl⟩ : ∃ m, n = m + 1 := ⟨n - 1, by omega⟩
      obtain ⟨m', rfl⟩ : ∃ m, n' = m + 1 := ⟨n' - 1, by omega⟩
      exact singAll wf rc rm hE (by omega) (hS (D + 1) d hd) (fun _ p c => t.1 m m' p (by omega) (by omega) c) (fun _ p c => t.2 m m' p (by omega) (by omega) c) p hp
    exact ⟨hv, fin (D + 1) d hv⟩
theorem sumsO (wf : wfN x) (rc : rNc x ki st nu na) (rm : rNm x mk fr va) (hE : E ≤ 6) (hp : p ≤ nN x) : Out x E nm (cA x ki st nu na E nm 64 3 0) (mA mk va 64 3) 0 p [] false := (gramA wf rc rm hE 8 0 rfl).2 64 64 p (by omega) (by omega) hp
theorem testsO (wf : wfN x) (rc : rNc x ki st nu na) (rm : rNm x mk fr va) (hE : E ≤ 6) (hp : p ≤ nN x) : Out x E nm (cT x ki st nu na E nm 64 2 0) (mT mk va 64 2) 0 p [] true := (gramB wf rc rm hE 8 0 rfl).2 64 64 p (by omega) (by omega) hp
end TESTS
