/-! PURE: the law tells the orders: their arrays, their trees, their text. -/
section ORD
variable {Z : gZ} {H H' : gH} {ad ad' : Nat → Nat} {t : Tl} {x : Gs}
theorem sm_57 (S : SimG Z H ad t x) {k : Nat} (h5 : 5 ≤ k) (h7 : k ≤ 7) (e : ∀ i, uA t i → i ≠ k → ad' i = ad i) (o : hpG H' (ad' 0) = some (.inr (8, smV ad' t (gDy x) (gCa x) (gDu x) (gSl x)))) (hk : ∀ i, uA t i → i ≠ 0 → i ≠ k → hpG H' (ad i) = hpG H (ad i)) (hc : ∃ c, hpG H' (ad' k) = some (.inl c)) (nk : ∀ i, uA t i → i ≠ k → ad i ≠ ad' k) : SimG Z H' ad' t x := by
  obtain ⟨s0, ⟨fS, s1, s1'⟩, s2, s3, ⟨fF, s4, s4'⟩, s5, ⟨fE, s6, s6'⟩, s7, ⟨fP, s8, s8'⟩, ⟨s9, sL⟩, s10⟩ := S
  have u7 : ∀ i, i ≤ 7 → uA t i := fun i hi => Or.inl hi
  have u10 : ∀ s, s < tN t → uA t (10 + s) := fun s hs => Or.inr (Or.inl ⟨by omega, by omega⟩)
  have u20 : ∀ s, s < tE t → uA t (20 + s) := fun s hs => Or.inr (Or.inr (Or.inl ⟨by omega, by omega⟩))
  have u30 : ∀ s, s < tF t → uA t (30 + s) := fun s hs => Or.inr (Or.inr (Or.inr (Or.inl ⟨by omega, by omega⟩)))
  have u60 : ∀ c, clT t c → uA t (60 + c) := fun c hc => Or.inr (Or.inr (Or.inr (Or.inr ⟨by omega, by rw [show 60 + c - 60 = c by omega]; exact hc.1, by rw [show 60 + c - 60 = c by omega]; exact hc.2⟩)))
  have K : ∀ i, uA t i → i ≠ 0 → i ≠ k → hpG H' (ad' i) = hpG H (ad i) := fun i hi h0 h1 => by rw [e i hi h1]; exact hk i hi h0 h1
  refine ⟨o, ⟨fS, ?_, fun s hs => ?_⟩, fun s hs => ?_, fun c hc' => ?_, ⟨fF, ?_, fun i hi => ?_⟩, fun i hi => ?_, ⟨fE, ?_, fun i hi => ?_⟩, fun i hi => ?_, ⟨fP, ?_, s8'⟩, ⟨fun i j hi hj q => ?_, fun i i5 i7 => ?_⟩, s10⟩
  · rw [K 1 (u7 1 (by omega)) (by omega) (by omega)]; exact s1
  · rw [e _ (u10 s hs) (by omega)]; exact s1' s hs
  · obtain ⟨f', a1, a2⟩ := s2 s hs
    refine ⟨f', by rw [K _ (u10 s hs) (by omega) (by omega)]; exact a1, fun j hj => ?_⟩
    rw [e _ (u60 _ (s10 s j hj)) (by omega)]
    exact a2 j hj
  · obtain ⟨f', a1, a2⟩ := s3 c hc'
    exact ⟨f', by rw [K _ (u60 c hc') (by omega) (by omega)]; exact a1, a2⟩
  · rw [K 2 (u7 2 (by omega)) (by omega) (by omega)]; exact s4
  · rw [e _ (u30 i hi) (by omega)]; exact s4' i hi
  · obtain ⟨f', a1, a2⟩ := s5 i hi
    exact ⟨f', by rw [K _ (u30 i hi) (by omega) (by omega)]; exact a1, a2⟩
  · rw [K 3 (u7 3 (by omega)) (by omega) (by omega)]; exact s6
  · rw [e _ (u20 i hi) (by omega)]; exact s6' i hi
  · obtain ⟨f', a1, a2⟩ := s7 i hi
    exact ⟨f', by rw [K _ (u20 i hi) (by omega) (by omega)]; exact a1, a2⟩
  · rw [K 4 (u7 4 (by omega)) (by omega) (by omega)]; exact s8
  · by_cases z1 : i = k
    · by_cases z2 : j = k
      · rw [z1, z2]
      · rw [z1, e j hj z2] at q
        exact absurd q.symm (nk j hj z2)
    · by_cases z2 : j = k
      · rw [z2, e i hi z1] at q
        exact absurd q (nk i hi z1)
      · rw [e i hi z1, e j hj z2] at q
        exact s9 i j hi hj q
  · by_cases z : i = k
    · rw [z]; exact hc
    · rw [K i (u7 i i7) (by omega) z]
      exact sL i i5 i7
theorem TS.ord {x1 v k q : Nat} {l : List Nat} {c : ClassId × Nat × ((Nat → Int32) ⊕ (Nat → Int64) ⊕ (Nat → UInt32) ⊕ (Nat → UInt64) ⊕ (Nat → Option Nat))} (T : TS Z H x1 v ad t l) (h5 : 5 ≤ k) (h7 : k ≤ 7) (hq : hpG H q = none) : hpG (hpN H q (.inl c)) (ad 0) = some (.inr (8, smV ad t 0 0 0 0)) ∧ TS Z (hpS (hpN H q (.inl c)) (ad 0) (.inr (8, (smV ad t 0 0 0 0).set k (.ref q)))) x1 v (va_up ad k q) t l ∧ hpG (hpS (hpN H q (.inl c)) (ad 0) (.inr (8, (smV ad t 0 0 0 0).set k (.ref q)))) q = some (.inl c) ∧ (∀ i, uA t i → i ≠ 0 → hpG (hpS (hpN H q (.inl c)) (ad 0) (.inr (8, (smV ad t 0 0 0 0).set k (.ref q)))) (ad i) = hpG H (ad i)) ∧ Kp9 H (hpS (hpN H q (.inl c)) (ad 0) (.inr (8, (smV ad t 0 0 0 0).set k (.ref q)))) := by
  have S := T.2.1
  have nq := nq_S S hq
  have u0 : uA t 0 := Or.inl (by omega)
  have s0 : hpG H (ad 0) = some (.inr (8, smV ad t 0 0 0 0)) := S.1
  have s9 := S.2.2.2.2.2.2.2.2.2.1.1
  have o1 : hpG (hpN H q (.inl c)) (ad 0) = some (.inr (8, smV ad t 0 0 0 0)) := (hpG_nn (nq 0 u0)).trans s0
  have hk : ∀ i, uA t i → i ≠ 0 → hpG (hpS (hpN H q (.inl c)) (ad 0) (.inr (8, (smV ad t 0 0 0 0).set k (.ref q)))) (ad i) = hpG H (ad i) := fun i hi h0 => (hpG_sn (fun z => h0 (s9 i 0 hi u0 z))).trans (hpG_nn (nq i hi))
  have hqc : hpG (hpS (hpN H q (.inl c)) (ad 0) (.inr (8, (smV ad t 0 0 0 0).set k (.ref q)))) q = some (.inl c) := (hpG_sn (Ne.symm (nq 0 u0))).trans hpG_n
  refine ⟨o1, ⟨?_, ?_, fun i hi => ?_⟩, hqc, hk, ?_⟩
  · obtain ⟨mm, ⟨ml, f, b1, b2, b3⟩, b4⟩ := T.1
    exact ⟨mm, ⟨ml, f, (hpG_sn (fun z => (T.2.2 0 u0).2 z.symm)).trans ((hpG_nn (ne_fresh b1 hq)).trans b1), (hpG_sn (fun z => (T.2.2 0 u0).1 z.symm)).trans ((hpG_nn (ne_fresh b2 hq)).trans b2), b3⟩, b4⟩
  · refine sm_57 S h5 h7 (fun i _ hn => va_up_ne _ _ hn) ?_ (fun i hi h0 _ => hk i hi h0) ⟨_, by rw [va_up_self]; exact hqc⟩ (fun i hi _ => by rw [va_up_self]; exact nq i hi)
    rw [va_up_ne _ _ (by omega)]
    refine (hpG_s o1).trans ?_
    have : k = 5 ∨ k = 6 ∨ k = 7 := by omega
    rcases this with rfl | rfl | rfl <;> rfl
  · obtain ⟨mm, ⟨ml, f, b1, b2, b3⟩, b4⟩ := T.1
    by_cases z : i = k
    · rw [z, va_up_self]
      exact ⟨(ne_fresh b2 hq).symm, (ne_fresh b1 hq).symm⟩
    · rw [va_up_ne _ _ z]
      exact T.2.2 i hi
  · exact (Kp9.n hq).trans (Kp9.s o1 (fun fs y => by cases y))
theorem TS.s57 {x1 v k : Nat} {l : List Nat} {c0 c : ClassId × Nat × ((Nat → Int32) ⊕ (Nat → Int64) ⊕ (Nat → UInt32) ⊕ (Nat → UInt64) ⊕ (Nat → Option Nat))} (T : TS Z H x1 v ad t l) (h5 : 5 ≤ k) (h7 : k ≤ 7) (h : hpG H (ad k) = some (.inl c0)) : TS Z (hpS H (ad k) (.inl c)) x1 v ad t l ∧ (∀ i, uA t i → i ≠ k → hpG (hpS H (ad k) (.inl c)) (ad i) = hpG H (ad i)) ∧ Kp9 H (hpS H (ad k) (.inl c)) := by
  have S := T.2.1
  have uk : uA t k := Or.inl h7
  have u0 : uA t 0 := Or.inl (by omega)
  have s9 := S.2.2.2.2.2.2.2.2.2.1.1
  have hk : ∀ i, uA t i → i ≠ k → hpG (hpS H (ad k) (.inl c)) (ad i) = hpG H (ad i) := fun i hi hn => hpG_sn (fun z => hn (s9 i k hi uk z))
  have F : Fr (fun b => b = ad k) H (hpS H (ad k) (.inl c)) := Fr.s rfl
  refine ⟨⟨T.1.fr F (fun z => (T.2.2 k uk).2 z.symm) (fun z => (T.2.2 k uk).1 z.symm), ?_, T.2.2⟩, hk, Kp9.s h (fun fs y => by cases y)⟩
  exact sm_57 S h5 h7 (fun i _ _ => rfl) ((hk 0 u0 (by omega)).trans S.1) (fun i hi _ hn => hk i hi hn) ⟨_, hpG_s h⟩ (fun i hi hn z => hn (s9 i k hi uk z))
/-- the orders told so far: kinds, sums, tests -/
def OQ (Z : gZ) (H : gH) (ad : Nat → Nat) (cnt jK jS jT : Nat) (fK : Nat → Nat) (fS : Nat → Tr 2) (fT : Nat → Option (Tr 4)) : Prop :=
  (∃ f, hpG H (ad 5) = some (iE (zY Z 1) cnt f) ∧ ∀ i, i < jK → f i = nI (fK i)) ∧
  (∃ f, hpG H (ad 6) = some (qE (zY Z 6) cnt f) ∧ ∀ i, i < jS → ∃ q, f i = some q ∧ trA (fun _ => True) H 2 q (fS i)) ∧
  (∃ f, hpG H (ad 7) = some (qE (zY Z 6) cnt f) ∧ ∀ i, i < jT → (fT i = none → f i = none) ∧ ∀ y, fT i = some y → ∃ q, f i = some q ∧ trA (fun _ => True) H 4 q y)
theorem OQ.fr {cnt jK jS jT : Nat} {fK : Nat → Nat} {fS : Nat → Tr 2} {fT : Nat → Option (Tr 4)} (h : OQ Z H ad cnt jK jS jT fK fS fT) (h5 : hpG H' (ad 5) = hpG H (ad 5)) (h6 : hpG H' (ad 6) = hpG H (ad 6)) (h7 : hpG H' (ad 7) = hpG H (ad 7)) (k9 : Kp9 H H') : OQ Z H' ad cnt jK jS jT fK fS fT := by
  obtain ⟨⟨f5, a1, a2⟩, ⟨f6, b1, b2⟩, ⟨f7, c1, c2⟩⟩ := h
  refine ⟨⟨f5, h5.trans a1, a2⟩, ⟨f6, h6.trans b1, fun i hi => ?_⟩, ⟨f7, h7.trans c1, fun i hi => ⟨(c2 i hi).1, fun y hy => ?_⟩⟩⟩
  · obtain ⟨q, e1, e2⟩ := b2 i hi
    exact ⟨q, e1, e2.k9 k9⟩
  · obtain ⟨q, e1, e2⟩ := (c2 i hi).2 y hy
    exact ⟨q, e1, e2.k9 k9⟩
theorem OQ.nf {x1 v : Nat} {l : List Nat} {cnt jK jS jT : Nat} {fK : Nat → Nat} {fS : Nat → Tr 2} {fT : Nat → Option (Tr 4)} (h : OQ Z H ad cnt jK jS jT fK fS fT) (F : Fr (fun _ => False) H H') : OQ Z H' ad cnt jK jS jT fK fS fT := by
  have h' := h
  obtain ⟨⟨f5, a1, a2⟩, ⟨f6, b1, b2⟩, ⟨f7, c1, c2⟩⟩ := h'
  exact h.fr ((F _ _ a1 (fun z => z)).trans a1.symm) ((F _ _ b1 (fun z => z)).trans b1.symm) ((F _ _ c1 (fun z => z)).trans c1.symm) (Kp9.nf F)
theorem OQ.tx {x1 v : Nat} {l : List Nat} {cnt jK jS jT : Nat} {fK : Nat → Nat} {fS : Nat → Tr 2} {fT : Nat → Option (Tr 4)} (h : OQ Z H ad cnt jK jS jT fK fS fT) (T : TS Z H x1 v ad t l) (F : Fr (fun b => b = x1 ∨ b = v) H H') : OQ Z H' ad cnt jK jS jT fK fS fT := by
  have k : ∀ i, i ≤ 7 → hpG H' (ad i) = hpG H (ad i) := fun i hi => by
    obtain ⟨c, hc, -⟩ := sm_live T.2.1 (i := i) (Or.inl hi)
    rw [hc]
    exact F _ _ hc (fun z => z.elim (T.2.2 i (Or.inl hi)).2 (T.2.2 i (Or.inl hi)).1)
  obtain ⟨mm, ⟨ml, f, b1, b2, b3⟩, b4⟩ := T.1
  refine h.fr (k 5 (by omega)) (k 6 (by omega)) (k 7 (by omega)) (Kp9.of F (fun b fs hb e => ?_))
  rcases hb with rfl | rfl
  · rw [b1] at e; cases e
  · rw [b2] at e; cases e
end ORD
theorem OQ.congr {Z : gZ} {H : gH} {ad : Nat → Nat} {cnt j : Nat} {fK fK' : Nat → Nat} {fS fS' : Nat → Tr 2} {fT fT' : Nat → Option (Tr 4)} (h : OQ Z H ad cnt j j j fK fS fT) (e1 : ∀ i, i < j → fK' i = fK i) (e2 : ∀ i, i < j → fS' i = fS i) (e3 : ∀ i, i < j → fT' i = fT i) : OQ Z H ad cnt j j j fK' fS' fT' := by
  obtain ⟨⟨f5, a1, a2⟩, ⟨f6, b1, b2⟩, ⟨f7, c1, c2⟩⟩ := h
  exact ⟨⟨f5, a1, fun i hi => by rw [e1 i hi]; exact a2 i hi⟩, ⟨f6, b1, fun i hi => by rw [e2 i hi]; exact b2 i hi⟩, ⟨f7, c1, fun i hi => by rw [e3 i hi]; exact c2 i hi⟩⟩
section ORDT
variable {K : Nat → gH → Prop} {KL : gH → Nat → Nat → Nat → Nat → Int32 → Int32 → Int32 → Prop} {Z : gZ} {H : gH} {x1 v bc bs cnt j e : Nat} {ad : Nat → Nat} {t : Tl} {l : List Nat} {x5 x6 x8 : Int32} {fK : Nat → Nat} {fS : Nat → Tr 2} {fT : Nat → Option (Tr 4)}
theorem td_770 {u : List Nat} {r : Nat} (T : TS Z H x1 v ad t l) (Q : OQ Z H ad cnt j j j fK fS fT) (hs : stX Z H r u) (hl : l.length + u.length + 1 ≤ 1500) (hbc : 2 ≤ bc) (hbs : 6004 ≤ bs) {x7 : Int32} {x4 : Nat}
    (kk : ∀ H' v', TS Z H' x1 v' ad t (l ++ (u ++ kTl 39)) → OQ Z H' ad cnt j j j fK fS fT → KL H' (bc - 1 - 1) (bs - 3002 - 3002) x1 x4 x5 x6 (x7 + 1)) : wL_told_770 K KL Z H bc bs x1 x4 x5 x6 x7 r x1 := by
  unfold wL_told_770
  refine ts_X T hs (by omega) (by omega) (by omega) (fun H4 v4 T4 F4 _ => ?_)
  refine ts_K (i := 39) (by decide) T4 (by simp only [List.length_append, kl39]; omega) (by omega) (by omega) (fun H5 v5 T5 F5 _ => ?_)
  have Q5 := (Q.tx T F4).tx T4 F5
  rw [List.append_assoc] at T5
  exact kk H5 v5 T5 Q5
theorem td_708 (he : e ≤ 3) {i0 jj : Nat} (hi0 : i0 < 52) (hl0 : (kTl i0).length ≤ 5) (T : TS Z H x1 v ad t l) (Q : OQ Z H ad cnt j j j fK fS fT) (hj : jj < j) (hc : j ≤ cnt) (h4 : cnt ≤ 4) (ok1 : trW e 2 false (fS jj)) (ok2 : ∀ y, fT jj = some y → trW e 4 true y) (hl : l.length ≤ 1300) (hbc : 290 ≤ bc) (hbs : 489000 ≤ bs)
    (kk : ∀ H' v' bc' bs', TS Z H' x1 v' ad t (l ++ (kTl i0 ++ (txT 2 (fS jj) ++ (whX (fT jj) ++ kTl 39)))) → OQ Z H' ad cnt j j j fK fS fT → bc ≤ bc' + 290 → bs ≤ bs' + 489000 → KL H' bc' bs' x1 (ad 0) x5 x6 (nI (jj + 1))) : wL_told_708 K KL Z H bc bs x1 (ad 0) x5 x6 (nI jj) (Z.1 i0) x1 := by
  have len2 := tx_len he ok1
  have len2 : (txT 2 (fS jj)).length ≤ 31 := by omega
  have jc : (nI jj).toNatClampNeg = jj := nI_clamp (by omega)
  have vj : vp_in (nI jj) cnt := vp_in_nI (by omega) (by omega)
  unfold wL_told_708
  rw [jc]
  refine ts_K (i := i0) hi0 T (by omega) (by omega) (by omega) (fun H1 v1 T1 F1 _ => ?_)
  have Q1 := Q.tx T F1
  have Q1' := Q1
  obtain ⟨-, ⟨f6, b1, b2⟩, ⟨f7, c1, c2⟩⟩ := Q1'
  obtain ⟨q, e1, e2⟩ := b2 jj hj
  refine ⟨ad 6, gF_of T1.2.1.1 rfl, cnt, f6, q, b1, vj, e1, trA_9 e2, 2, by decide, 45, 78000, by omega, by omega, hz_text he 2 false H1 45 78000 q (fS jj) _ (by decide) e2 ok1 (by decide) (by decide) (fun r2 H2 st2 F2 => ?_)⟩
  have T2 := T1.nf F2
  have Q2 := OQ.nf (x1 := x1) (v := v1) (l := l) Q1 F2
  refine ts_X T2 st2 (by simp only [List.length_append]; omega) (by omega) (by omega) (fun H3 v3 T3 F3 _ => ?_)
  have Q3 := Q2.tx T2 F3
  have Q3' := Q3
  obtain ⟨-, -, ⟨f7, c1, c2⟩⟩ := Q3'
  refine ⟨ad 7, gF_of T3.2.1.1 rfl, cnt, f7, c1, vj, ?_⟩
  obtain ⟨c3, c4⟩ := c2 jj hj
  cases ht : fT jj with
  | none =>
    rw [ht] at kk
    refine bn_t (c3 ht) ?_
    refine td_770 T3 Q3 (Or.inr ⟨50, by decide, rfl, rfl⟩) (by simp only [List.length_append, kl50]; omega) (by omega) (by omega) (fun H4 v4 T4 Q4 => ?_)
    rw [nI_1]
    refine kk H4 v4 _ _ ?_ Q4 (by omega) (by omega)
    rw [List.append_assoc, List.append_assoc] at T4
    exact T4
  | some y =>
    rw [ht] at kk
    obtain ⟨q7, e3, e4⟩ := c4 y ht
    have ok4 := ok2 y ht
    have len4 := tx_len he ok4
    have len4 : (txT 4 y).length ≤ 145 := by omega
    refine bn_f (fun z => by rw [e3] at z; cases z) ?_
    refine ⟨by omega, by omega, fun q18 hq18 => ?_⟩
    refine bd_new (Fr.refl) hq18 (by omega) (by omega) (fun H4 B4 => ?_)
    refine bd_K (i := 51) (by decide) B4 (by rw [kl51]; decide) (by omega) (by omega) (fun H5 B5 => ?_)
    have T5 := T3.nf B5.2.2
    have Q5 := OQ.nf (x1 := x1) (v := v3) (l := l) Q3 B5.2.2
    have Q5' := Q5
    obtain ⟨-, -, ⟨f7', d1, d2⟩⟩ := Q5'
    obtain ⟨q7', e5, e6⟩ := (d2 jj hj).2 y ht
    refine ⟨ad 7, gF_of T5.2.1.1 rfl, cnt, f7', q7', d1, vj, e5, trA_9 e6, 4, by decide, 225, 390000, by omega, by omega, hz_text he 4 true H5 225 390000 q7' y _ (by decide) e6 ok4 (by decide) (by decide) (fun r6 H6 st6 F6 => ?_)⟩
    have B6 := B5.nf F6
    refine bd_X B6 st6 (by simp only [List.length_append, List.length_nil, kl51]; omega) (by omega) (by omega) (fun H7 B7 => ?_)
    refine bd_end B7 (by simp only [List.length_append, List.length_nil, kl51]; omega) (by omega) (by omega) (fun r w H8 hr _ _ _ F8 => ?_)
    have T8 := T3.nf F8
    have Q8 := OQ.nf (x1 := x1) (v := v3) (l := l) Q3 F8
    refine td_770 T8 Q8 (Or.inl ⟨w, hr⟩) (by simp only [List.length_append, List.length_nil, kl51]; omega) (by omega) (by omega) (fun H9 v9 T9 Q9 => ?_)
    rw [nI_1]
    refine kk H9 v9 _ _ ?_ Q9 (by omega) (by omega)
    rw [List.append_assoc, List.append_assoc] at T9
    exact T9
end ORDT
