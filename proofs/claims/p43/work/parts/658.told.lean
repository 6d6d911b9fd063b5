/-! PURE: told, the whole. -/
abbrev od0 : Or := (0, tr0 2, none)
section ORDL
variable {K : Nat → gH → Prop} {KL : gH → Nat → Nat → Nat → Nat → Int32 → Int32 → Int32 → Prop} {Z : gZ} {H : gH} {x1 v bc bs cnt j e : Nat} {ad : Nat → Nat} {t : Tl} {l : List Nat} {x5 x6 x8 : Int32} {fK : Nat → Nat} {fS : Nat → Tr 2} {fT : Nat → Option (Tr 4)}
theorem td_671 (he : e ≤ 3) (T : TS Z H x1 v ad t l) (Q : OQ Z H ad cnt (j + 1) (j + 1) j fK fS fT) (hj : j < cnt) (h4 : cnt ≤ 4) {z : Option Nat} (hz : (fT j = none → z = none) ∧ ∀ y, fT j = some y → ∃ q, z = some q ∧ trA (fun _ => True) H 4 q y) (hzv : ∀ v, z = some v → ∃ vs, hpG H v = some (.inr (9, vs))) (k2 : fK j ≤ 2) (ok1 : trW e 2 false (fS j)) (ok2 : ∀ y, fT j = some y → trW e 4 true y) (hl : l.length ≤ 1300) (hbc : 290 ≤ bc) (hbs : 489000 ≤ bs)
    (kk : ∀ H' v' bc' bs', TS Z H' x1 v' ad t (l ++ (kTl (47 + fK j) ++ (txT 2 (fS j) ++ (whX (fT j) ++ kTl 39)))) → OQ Z H' ad cnt (j + 1) (j + 1) (j + 1) fK fS fT → bc ≤ bc' + 290 → bs ≤ bs' + 489000 → KL H' bc' bs' x1 (ad 0) x5 x6 (nI (j + 1))) : wL_told_671 K KL Z H bc bs x1 (ad 0) x5 x6 (nI j) z (nI j) (ad 7) := by
  obtain ⟨⟨f5, a1, a2⟩, ⟨f6, b1, b2⟩, ⟨f7, c1, c2⟩⟩ := Q
  have jc : (nI j).toNatClampNeg = j := nI_clamp (by omega)
  have vj : vp_in (nI j) cnt := vp_in_nI (by omega) (by omega)
  obtain ⟨T', hk, k9⟩ := TS.s57 (c := (zY Z 6, cnt, .inr (.inr (.inr (.inr (va_up f7 j z)))))) T (by decide) (Nat.le_refl 7) c1
  have Q' : OQ Z (hpS H (ad 7) (qE (zY Z 6) cnt (va_up f7 j z))) ad cnt (j + 1) (j + 1) (j + 1) fK fS fT := by
    refine ⟨⟨f5, (hk 5 (Or.inl (by omega)) (by omega)).trans a1, a2⟩, ⟨f6, (hk 6 (Or.inl (by omega)) (by omega)).trans b1, fun i hi => ?_⟩, ⟨_, hpG_s c1, fun i hi => ?_⟩⟩
    · obtain ⟨q, e1, e2⟩ := b2 i hi
      exact ⟨q, e1, e2.k9 k9⟩
    · by_cases y : i = j
      · rw [y, va_up_self]
        refine ⟨hz.1, fun w hw => ?_⟩
        obtain ⟨q, e1, e2⟩ := hz.2 w hw
        exact ⟨q, e1, e2.k9 k9⟩
      · rw [va_up_ne _ _ y]
        obtain ⟨g1, g2⟩ := c2 i (by omega)
        refine ⟨g1, fun w hw => ?_⟩
        obtain ⟨q, e1, e2⟩ := g2 w hw
        exact ⟨q, e1, e2.k9 k9⟩
  have Q'' := Q'
  obtain ⟨⟨f5', a1', a2'⟩, -, -⟩ := Q''
  unfold wL_told_671
  rw [jc]
  refine ⟨cnt, f7, c1, vj, hzv, ad 5, gF_of T'.2.1.1 rfl, cnt, f5', a1', vj, ?_⟩
  rw [a2' j (Nat.lt_succ_self _)]
  have fin : ∀ i0, i0 = 47 + fK j → wL_told_708 K KL Z (hpS H (ad 7) (qE (zY Z 6) cnt (va_up f7 j z))) bc bs x1 (ad 0) x5 x6 (nI j) (Z.1 i0) x1 := fun i0 hi0 => by
    have hlen : (kTl i0).length ≤ 5 := by
      have : fK j = 0 ∨ fK j = 1 ∨ fK j = 2 := by omega
      rcases this with y | y | y <;> rw [hi0, y]
      · rw [kl47]; decide
      · rw [kl48]; decide
      · rw [kl49]; decide
    subst hi0
    exact td_708 he (by omega) hlen T' Q' (Nat.lt_succ_self _) (by omega) h4 ok1 ok2 hl hbc hbs kk
  have : fK j = 0 ∨ fK j = 1 ∨ fK j = 2 := by omega
  refine ⟨fun h0 => ⟨ad 5, gF_of T'.2.1.1 rfl, cnt, f5', a1', vj, ?_⟩, fun h0 => fin 47 ?_⟩
  · rw [a2' j (Nat.lt_succ_self _)]
    refine ⟨fun h1 => fin 49 ?_, fun h1 => fin 48 ?_⟩
    · rcases this with y | y | y
      · rw [y] at h0; exact absurd rfl h0
      · rw [y] at h1; exact absurd rfl h1
      · rw [y]
    · have : nI (fK j) = nI 1 := h1
      have := (nI_eq (by omega) (by decide)).mp this
      omega
  · have : nI (fK j) = nI 0 := h0
    have := (nI_eq (by omega) (by decide)).mp this
    omega
theorem td_620 (he : e ≤ 3) (T : TS Z H x1 v ad t l) (Q : OQ Z H ad cnt j j j fK fS fT) (hj : j < cnt) (h4 : cnt ≤ 4) {k : Nat} (k2 : k ≤ 2) (hl : l.length ≤ 1300) (hbc : 310 ≤ bc) (hbs : 490000 ≤ bs)
    (kk : ∀ H' v' bc' bs' (o : Or), TS Z H' x1 v' ad t (l ++ orX o) → okO e o → OQ Z H' ad cnt (j + 1) (j + 1) (j + 1) (va_up fK j (oK o)) (va_up fS j (oS o)) (va_up fT j (oT o)) → bc ≤ bc' + 310 → bs ≤ bs' + 490000 → KL H' bc' bs' x1 (ad 0) (nI e) x6 (nI (j + 1))) : wL_told_620 K KL Z H bc bs x1 (ad 0) (nI e) x6 (nI j) x8 (nI k) (nI j) (ad 5) := by
  obtain ⟨⟨f5, a1, a2⟩, ⟨f6, b1, b2⟩, ⟨f7, c1, c2⟩⟩ := Q
  have jc : (nI j).toNatClampNeg = j := nI_clamp (by omega)
  have vj : vp_in (nI j) cnt := vp_in_nI (by omega) (by omega)
  obtain ⟨T1, hk1, k91⟩ := TS.s57 (c := (zY Z 1, cnt, .inl (upd f5 j (nI k)))) T (by decide) (by decide : 5 ≤ 7) a1
  unfold wL_told_620
  rw [jc]
  refine ⟨cnt, f5, a1, vj, ad 6, gF_of T1.2.1.1 rfl, 2, by decide, 3, 12, by omega, by omega, hz_sum he 2 1 _ _ 3 12 _ (by decide) (by decide) (by decide) (by decide) (by decide) (by decide) (fun r7 H7 tr w1 w2 F7 => ?_)⟩
  have T7 := T1.nf F7
  have a17 : hpG H7 (ad 5) = some (iE (zY Z 1) cnt (upd f5 j (nI k))) := F7 _ _ (hpG_s a1) (fun z => z)
  have b17 : hpG H7 (ad 6) = some (qE (zY Z 6) cnt f6) := F7 _ _ ((hk1 6 (Or.inl (by omega)) (by omega)).trans b1) (fun z => z)
  have c17 : hpG H7 (ad 7) = some (qE (zY Z 6) cnt f7) := F7 _ _ ((hk1 7 (Or.inl (by omega)) (by omega)).trans c1) (fun z => z)
  have k97 := k91.trans (Kp9.nf F7)
  have w1' : trA (fun _ => True) H7 2 r7 tr := trA.fr (fun b c _ h => h) (fun _ _ => trivial) w1
  obtain ⟨y13, hy13⟩ := trA_9 w1'
  obtain ⟨T8, hk8, k98⟩ := TS.s57 (c := (zY Z 6, cnt, .inr (.inr (.inr (.inr (va_up f6 j (some r7))))))) T7 (by decide) (by decide : 6 ≤ 7) b17
  refine ⟨cnt, f6, y13, b17, vj, hy13, ad 7, gF_of T8.2.1.1 rfl, hz_blw (n := 3) (by decide) (by decide) ?_⟩
  have k99 := k97.trans k98
  obtain ⟨H8, e8⟩ : ∃ H8, H8 = hpS H7 (ad 6) (qE (zY Z 6) cnt (va_up f6 j (some r7))) := ⟨_, rfl⟩
  have a18 : hpG H8 (ad 5) = some (iE (zY Z 1) cnt (upd f5 j (nI k))) := by rw [e8]; exact (hk8 5 (Or.inl (by omega)) (by omega)).trans a17
  have b18 : hpG H8 (ad 6) = some (qE (zY Z 6) cnt (va_up f6 j (some r7))) := by rw [e8]; exact hpG_s b17
  have c18 : hpG H8 (ad 7) = some (qE (zY Z 6) cnt f7) := by rw [e8]; exact (hk8 7 (Or.inl (by omega)) (by omega)).trans c17
  have T8 : TS Z H8 x1 v ad t l := by rw [e8]; exact T8
  have w8 : trA (fun _ => True) H8 2 r7 tr := by rw [e8]; exact w1'.k9 k98
  have k9 : Kp9 H H8 := by rw [e8]; exact k99
  rw [← e8]
  have Q8 : ∀ g, (∀ i, i < j → g i = fT i) → OQ Z H8 ad cnt (j + 1) (j + 1) j (va_up fK j k) (va_up fS j tr) g := by
    intro g hg
    refine ⟨⟨_, a18, fun i hi => ?_⟩, ⟨_, b18, fun i hi => ?_⟩, ⟨f7, c18, fun i hi => ?_⟩⟩
    · by_cases y : i = j
      · rw [y, us, va_up_self]
      · rw [un y, va_up_ne _ _ y]; exact a2 i (by omega)
    · by_cases y : i = j
      · rw [y, va_up_self, va_up_self]; exact ⟨r7, rfl, w8⟩
      · rw [va_up_ne _ _ y, va_up_ne _ _ y]
        obtain ⟨q, e1, e2⟩ := b2 i (by omega)
        exact ⟨q, e1, e2.k9 k9⟩
    · rw [hg i hi]
      refine ⟨(c2 i hi).1, fun y hy => ?_⟩
      obtain ⟨q, e1, e2⟩ := (c2 i hi).2 y hy
      exact ⟨q, e1, e2.k9 k9⟩
  refine ⟨fun _ => ⟨4, by decide, 15, 60, by omega, by omega, hz_test he 4 0 _ _ 15 60 _ (by decide) (by decide) (by decide) (by decide) (fun r17 H17 tt g1 g2 F17 => ?_)⟩, fun _ => ?_⟩
  · have Q17 := OQ.nf (x1 := x1) (v := v) (l := l) (Q8 (va_up fT j (some tt)) (fun i hi => va_up_ne _ _ (by omega))) F17
    have g1' : trA (fun _ => True) H17 4 r17 tt := trA.fr (fun b c _ h => h) (fun _ _ => trivial) g1
    refine td_671 he (T8.nf F17) Q17 hj h4 ⟨fun z => ?_, fun y hy => ?_⟩ (fun v hv => ?_) (by rw [va_up_self]; exact k2) (by rw [va_up_self]; exact w2) (fun y hy => ?_) hl (by omega) (by omega) (fun H' v' bc' bs' T' Q' b1 b2 => ?_)
    · rw [va_up_self] at z; cases z
    · rw [va_up_self] at hy
      cases hy
      exact ⟨r17, rfl, g1'⟩
    · cases hv
      exact trA_9 g1'
    · rw [va_up_self] at hy
      cases hy
      exact g2
    · rw [va_up_self, va_up_self, va_up_self] at T'
      exact kk H' v' bc' bs' (k, tr, some tt) T' ⟨k2, w2, fun y hy => by cases hy; exact g2⟩ Q' (by omega) (by omega)
  · have Q17 := Q8 (va_up fT j none) (fun i hi => va_up_ne _ _ (by omega))
    refine td_671 he T8 Q17 hj h4 ⟨fun z => rfl, fun y hy => ?_⟩ (fun v hv => by cases hv) (by rw [va_up_self]; exact k2) (by rw [va_up_self]; exact w2) (fun y hy => ?_) hl (by omega) (by omega) (fun H' v' bc' bs' T' Q' b1 b2 => ?_)
    · rw [va_up_self] at hy; cases hy
    · rw [va_up_self] at hy; cases hy
    · rw [va_up_self, va_up_self, va_up_self] at T'
      exact kk H' v' bc' bs' (k, tr, none) T' ⟨k2, w2, fun y hy => by cases hy⟩ Q' (by omega) (by omega)
theorem orX_le (he : e ≤ 3) {o : Or} (h : okO e o) : (orX o).length ≤ 188 := by
  obtain ⟨k, x, te⟩ := o
  obtain ⟨h1, h2, h3⟩ := h
  have h1 : k ≤ 2 := h1
  have l2 := tx_len he h2
  have l2 : 2 * (txT 2 x).length + 14 ≤ 19 * 2 ^ 2 := l2
  have hk : (kTl (47 + k)).length ≤ 5 := by
    obtain rfl | rfl | rfl : k = 0 ∨ k = 1 ∨ k = 2 := by omega
    · rw [kl47]; decide
    · rw [kl48]; decide
    · rw [kl49]; decide
  show (kTl (47 + k) ++ (txT 2 x ++ (whX te ++ kTl 39))).length ≤ 188
  rw [List.length_append, List.length_append, List.length_append, kl39]
  cases te with
  | none =>
    show _ + (_ + ((kTl 50).length + 1)) ≤ 188
    rw [kl50]
    omega
  | some y =>
    have l4 := tx_len he (h3 y rfl)
    show _ + (_ + (([] ++ kTl 51 ++ txT 4 y).length + 1)) ≤ 188
    rw [List.length_append, List.nil_append, kl51]
    omega
theorem td_566 {base : List Nat} (he : e ≤ 3) (h4 : cnt ≤ 4) (hb : base.length ≤ 640)
    (fin : ∀ H' v' os, os.length = cnt → (∀ o, o ∈ os → okO e o) → TS Z H' x1 v' ad t (base ++ orsX os) → OQ Z H' ad cnt cnt cnt cnt (fun i => oK (os.getD i od0)) (fun i => oS (os.getD i od0)) (fun i => oT (os.getD i od0)) → (base ++ orsX os).length ≤ 1500 → K (ad 0) H') : ∀ (d j : Nat) (H : gH) (v bc bs : Nat) (os : List Or), j + d = cnt → os.length = j → (∀ o, o ∈ os → okO e o) → TS Z H x1 v ad t (base ++ orsX os) → OQ Z H ad cnt j j j (fun i => oK (os.getD i od0)) (fun i => oS (os.getD i od0)) (fun i => oT (os.getD i od0)) → (orsX os).length ≤ 188 * j → 310 * d ≤ bc → 490000 * d ≤ bs → wL_told_566 K Z (d + 1) H bc bs x1 (ad 0) (nI e) (nI cnt) (nI j) := by
  intro d
  induction d with
  | zero =>
    intro j H v bc bs os hj hos ok T Q hx _ _
    have hj : j = cnt := by omega
    subst hj
    unfold wL_told_566
    exact br_t (nI_le (Nat.le_refl _) (by omega)) (fin H v os hos ok T Q (by rw [List.length_append]; omega))
  | succ d ih =>
    intro j H v bc bs os hj hos ok T Q hx hbc hbs
    unfold wL_told_566
    rw [show (3 : Int32) + nI j = nI (3 + j) from nI_add 3 j]
    refine br_f (nI_ge (by omega) (by omega)) (hz_cell (j := 3 + j) (by omega) (fun r1 => ?_))
    generalize (r1 >>> (3 &&& 31)) + 17 * nI j = x8
    refine ⟨ad 5, gF_of T.2.1.1 rfl, hz_blw (n := 5) (by decide) (by decide) ?_⟩
    have r5 := blw_lt (x := x8) (n := 5) (by decide)
    generalize hr : blw x8 5 = r at r5 ⊢
    have step : ∀ k, k ≤ 2 → wL_told_620 K (wL_told_566 K Z (d + 1)) Z H bc bs x1 (ad 0) (nI e) (nI cnt) (nI j) x8 (nI k) (nI j) (ad 5) := fun k k2 => by
      refine td_620 he T Q (by omega) h4 k2 (by rw [List.length_append]; omega) (by omega) (by omega) (fun H' v' bc' bs' o T' oko Q' b1 b2 => ?_)
      have lx := orX_le he oko
      rw [List.append_assoc, ← orsX_snoc] at T'
      refine ih (j + 1) H' v' bc' bs' (os ++ [o]) (by omega) (by rw [List.length_append, hos]; rfl) (fun q hq => ?_) T' ?_ (by rw [orsX_snoc, List.length_append]; omega) (by omega) (by omega)
      · rcases List.mem_append.mp hq with hq | hq
        · exact ok q hq
        · rw [List.mem_singleton.mp hq]; exact oko
      · have gl : ∀ i, i < j → (os ++ [o]).getD i od0 = os.getD i od0 := fun i hi => gD_app (by omega)
        have gn : (os ++ [o]).getD j od0 = o := by
          rw [show j = os.length + 0 by omega, gD_app2]
          rfl
        refine Q'.congr (fun i hi => ?_) (fun i hi => ?_) (fun i hi => ?_)
        · by_cases y : i = j
          · rw [y, va_up_self, gn]
          · rw [va_up_ne _ _ y, gl i (by omega)]
        · by_cases y : i = j
          · rw [y, va_up_self, gn]
          · rw [va_up_ne _ _ y, gl i (by omega)]
        · by_cases y : i = j
          · rw [y, va_up_self, gn]
          · rw [va_up_ne _ _ y, gl i (by omega)]
    by_cases h3 : 3 ≤ r
    · refine br_t (nI_le h3 (by omega)) (hz_blw (n := 5) (by decide) (by decide) ?_)
      obtain ⟨r', rfl⟩ : ∃ r', r = r' + 2 := ⟨r - 2, by omega⟩
      rw [hr, show nI (r' + 2) - 2 = nI r' by rw [← nI_add]; exact Int32.add_sub_cancel _ _]
      exact step r' (by omega)
    · exact br_f (nI_ge (b := 3) (by omega) (by decide)) (step 0 (by decide))
end ORDL
