/-! PURE: the law's sofa grows while it is told: an empire, a find, a spring. Also the drawn numbers. -/
def blw (x : Int32) (n : Nat) : Nat := (x.toBitVec &&& 2147483647#32).toNat % n
theorem blw_lt {x : Int32} {n : Nat} (h : 0 < n) : blw x n < n := Nat.mod_lt _ h
theorem hz_blw {Z : gZ} {H : gH} {x : Int32} {n : Nat} {K : Int32 → Prop} (h0 : 0 < n) (hn : n < 2147483648) (k : K (nI (blw x n))) : wL_below Z H x (nI n) K := by
  have hm : (x.toBitVec &&& 2147483647#32).toNat < 2147483648 := by
    have : (x.toBitVec &&& 2147483647#32).toNat ≤ 2147483647 := by
      rw [BitVec.toNat_and]
      exact Nat.and_le_right
    omega
  have e : x &&& 2147483647 = nI (x.toBitVec &&& 2147483647#32).toNat := by
    apply Int32.toBitVec_inj.1
    show x.toBitVec &&& 2147483647#32 = BitVec.ofNat 32 _
    rw [BitVec.ofNat_toNat, BitVec.setWidth_eq]
  unfold wL_below
  rw [e, pk_rem hm h0 hn]
  exact ⟨fun z => by have := (nI_eq hn (by decide)).mp (show nI n = nI 0 from z); omega, k⟩
theorem hz_cell {Z : gZ} {H : gH} {j : Nat} {K : Int32 → Prop} (hj : j < 2147483648) (k : ∀ r, K r) : wL_cell Z H (nI j) K := by
  unfold wL_cell
  refine ⟨fun _ => k _, fun z => ⟨?_, k _⟩⟩
  have hz : (nI j).toInt < (nI (zL Z)).toInt := by
    have : nI j < nI (zL Z) := Int32.not_le.mp z
    exact Int32.lt_iff_toInt_lt.mp this
  have hj' : (nI j).toInt = (j : Int) := by
    have := nI_clamp hj
    have h0 : ¬ nI j < 0 := nI_pos hj
    have h0' : 0 ≤ (nI j).toInt := by
      have := Int32.not_lt.mp h0
      exact Int32.le_iff_toInt_le.mp this
    unfold Int32.toNatClampNeg at this
    omega
  have hL : (nI (zL Z)).toInt ≤ (zL Z : Int) := by
    have : (nI (zL Z)).toInt = (BitVec.ofNat 32 (zL Z)).toInt := rfl
    rw [this, BitVec.toInt_eq_toNat_bmod, BitVec.toNat_ofNat]
    have h1 : ((zL Z % 2 ^ 32 : Nat) : Int) ≤ (zL Z : Int) := Int.ofNat_le.mpr (Nat.mod_le _ _)
    have h2 : Int.bmod ((zL Z % 2 ^ 32 : Nat) : Int) (2 ^ 32) ≤ ((zL Z % 2 ^ 32 : Nat) : Int) := by
      have hlt : zL Z % 2 ^ 32 < 2 ^ 32 := Nat.mod_lt _ (by decide)
      unfold Int.bmod
      dsimp only
      split <;> omega
    omega
  unfold vp_in
  rw [nI_clamp hj]
  exact fun y => y.elim (nI_pos hj) (fun y => by omega)
section GROW
variable {Z : gZ} {H H' : gH} {ad : Nat → Nat} {t : Tl}
theorem SimG.keep {x : Gs} (S : SimG Z H ad t x) (hk : ∀ i, uA t i → hpG H' (ad i) = hpG H (ad i)) : SimG Z H' ad t x :=
  sm_keep0 S (fun i c hi _ h => (hk i hi).trans h) ((hk 0 (Or.inl (by omega))).trans S.1)
theorem sm_addE (wt : wfT t) (S : SimG Z H ad t (x0 t)) (hE : tE t < 10) {q q2 y z : Nat} {f : Nat → Int32} {g : Nat → Option Nat} (h0 : hpG H' (ad 0) = some (.inr (8, (smV ad t 0 0 0 0).set 3 (.ref q2)))) (hq : hpG H' q = some (iE (zY Z 1) 2 f)) (f0 : f 0 = nI y) (f1 : f 1 = nI z) (hq2 : hpG H' q2 = some (qE (zY Z 4) (tE t + 1) g)) (g1 : ∀ i, i < tE t → g i = some (ad (20 + i))) (g2 : g (tE t) = some q) (hk : ∀ i, uA t i → i ≠ 0 → i ≠ 3 → hpG H' (ad i) = hpG H (ad i)) (nq : ∀ i, uA t i → ad i ≠ q ∧ ad i ≠ q2) (n12 : q ≠ q2) : SimG Z H' (va_up (va_up ad 3 q2) (20 + tE t) q) (adE t y z) (x0 (adE t y z)) := by
  have n8 := wt.1.2
  have m10 := wt.2.1.2
  obtain ⟨s0, ⟨fS, s1, s1'⟩, s2, s3, ⟨fF, s4, s4'⟩, s5, ⟨fE, s6, s6'⟩, s7, ⟨fP, s8, s8'⟩, ⟨s9, sL⟩, s10⟩ := S
  have e : ∀ i, i ≠ 3 → i ≠ 20 + tE t → (va_up (va_up ad 3 q2) (20 + tE t) q) i = ad i := fun i h1 h2 => by rw [va_up_ne _ _ h2, va_up_ne _ _ h1]
  have ek : (va_up (va_up ad 3 q2) (20 + tE t) q) 3 = q2 := by rw [va_up_ne _ _ (by omega), va_up_self]
  have eN : (va_up (va_up ad 3 q2) (20 + tE t) q) (20 + tE t) = q := va_up_self _ _ _
  have u : ∀ i, uA (adE t y z) i → i = 3 ∨ i = 20 + tE t ∨ (uA t i ∧ (va_up (va_up ad 3 q2) (20 + tE t) q) i = ad i) := fun i hi => by
    by_cases z1 : i = 3
    · exact Or.inl z1
    · by_cases z2 : i = 20 + tE t
      · exact Or.inr (Or.inl z2)
      · refine Or.inr (Or.inr ⟨?_, e i z1 z2⟩)
        rcases hi with a | a | a | a | a
        · exact Or.inl a
        · exact Or.inr (Or.inl a)
        · have a2 : i < 20 + (tE t + 1) := a.2
          exact Or.inr (Or.inr (Or.inl ⟨a.1, by omega⟩))
        · exact Or.inr (Or.inr (Or.inr (Or.inl a)))
        · exact Or.inr (Or.inr (Or.inr (Or.inr a)))
  have u7 : ∀ i, i ≤ 7 → uA t i := fun i hi => Or.inl hi
  have u10 : ∀ s, s < tN t → uA t (10 + s) := fun s hs => Or.inr (Or.inl ⟨by omega, by omega⟩)
  have u20 : ∀ s, s < tE t → uA t (20 + s) := fun s hs => Or.inr (Or.inr (Or.inl ⟨by omega, by omega⟩))
  have u30 : ∀ s, s < tF t → uA t (30 + s) := fun s hs => Or.inr (Or.inr (Or.inr (Or.inl ⟨by omega, by omega⟩)))
  have u60 : ∀ c, clT t c → uA t (60 + c) := fun c hc => Or.inr (Or.inr (Or.inr (Or.inr ⟨by omega, by rw [show 60 + c - 60 = c by omega]; exact hc.1, by rw [show 60 + c - 60 = c by omega]; exact hc.2⟩)))
  have t24 := wt.2.2.2.1
  refine ⟨?_, ⟨fS, ?_, fun s hs => ?_⟩, fun s hs => ?_, fun c' hc' => ?_, ?_, fun i hi => ?_, ?_, fun i hi => ?_, ⟨fP, ?_, s8'⟩, ⟨fun i j hi hj eq => ?_, fun i i5 i7 => ?_⟩, s10⟩
  · show hpG H' ((va_up (va_up ad 3 q2) (20 + tE t) q) 0) = some (.inr (8, smV (va_up (va_up ad 3 q2) (20 + tE t) q) (adE t y z) 0 0 0 0))
    unfold smV
    rw [e 0 (by omega) (by omega), e 1 (by omega) (by omega), e 2 (by omega) (by omega), ek, e 4 (by omega) (by omega), e 5 (by omega) (by omega), e 6 (by omega) (by omega), e 7 (by omega) (by omega)]
    exact h0
  · rw [e 1 (by omega) (by omega), hk 1 (u7 1 (by omega)) (by omega) (by omega)]; exact s1
  · have hs : s < tN t := hs
    rw [e (10 + s) (by omega) (by omega)]; exact s1' s hs
  · have hs : s < tN t := hs
    obtain ⟨f', a1, a2⟩ := s2 s hs
    refine ⟨f', ?_, fun j hj => ?_⟩
    · rw [e (10 + s) (by omega) (by omega), hk _ (u10 s hs) (by omega) (by omega)]; exact a1
    · rw [e _ (by omega) (by omega)]
      exact a2 j hj
  · obtain ⟨f', a1, a2⟩ := s3 c' hc'
    have : c' < 80 := clT_80 wt hc'
    exact ⟨f', by rw [e (60 + c') (by omega) (by omega), hk _ (u60 c' hc') (by omega) (by omega)]; exact a1, a2⟩
  · refine ⟨fF, ?_, fun i hi => ?_⟩
    · rw [e 2 (by omega) (by omega), hk 2 (u7 2 (by omega)) (by omega) (by omega)]; exact s4
    · have hi : i < tF t := hi
      rw [e (30 + i) (by omega) (by omega)]; exact s4' i hi
  · have hi : i < tF t := hi
    obtain ⟨f', a1, a2⟩ := s5 i hi
    exact ⟨f', by rw [e (30 + i) (by omega) (by omega), hk _ (u30 i hi) (by omega) (by omega)]; exact a1, a2⟩
  · refine ⟨g, by rw [ek]; exact hq2, fun i hi => ?_⟩
    have hi : i < tE t + 1 := hi
    by_cases y1 : i = tE t
    · rw [y1, eN]; exact g2
    · rw [e (20 + i) (by omega) (by omega)]; exact g1 i (by omega)
  · have hi : i < tE t + 1 := hi
    by_cases y1 : i = tE t
    · rw [y1, eN]
      exact ⟨f, hq, by rw [f0]; exact (va_up_self _ _ _).symm, by rw [f1]; exact (va_up_self _ _ _).symm⟩
    · obtain ⟨f', a1, a2, a3⟩ := s7 i (by omega)
      refine ⟨f', by rw [e (20 + i) (by omega) (by omega), hk _ (u20 i (by omega)) (by omega) (by omega)]; exact a1, ?_, ?_⟩
      · rw [a2]; exact (va_up_ne _ _ y1).symm
      · rw [a3]; exact (va_up_ne _ _ y1).symm
  · rw [e 4 (by omega) (by omega), hk 4 (u7 4 (by omega)) (by omega) (by omega)]; exact s8
  · rcases u i hi with a | a | ⟨a1, a2⟩
    · rcases u j hj with b | b | ⟨b1, b2⟩
      · rw [a, b]
      · rw [a, b, ek, eN] at eq
        exact absurd eq.symm n12
      · rw [a, ek, b2] at eq
        exact absurd eq.symm (nq j b1).2
    · rcases u j hj with b | b | ⟨b1, b2⟩
      · rw [a, b, ek, eN] at eq
        exact absurd eq n12
      · rw [a, b]
      · rw [a, eN, b2] at eq
        exact absurd eq.symm (nq j b1).1
    · rcases u j hj with b | b | ⟨b1, b2⟩
      · rw [b, ek, a2] at eq
        exact absurd eq (nq i a1).2
      · rw [b, eN, a2] at eq
        exact absurd eq (nq i a1).1
      · rw [a2, b2] at eq
        exact s9 i j a1 b1 eq
  · rw [e i (by omega) (by omega), hk i (u7 i i7) (by omega) (by omega)]
    exact sL i i5 i7
theorem sm_addF (wt : wfT t) (S : SimG Z H ad t (x0 t)) (hE : tE t ≤ 9) (hF : tF t < 24) {co : Bool} {c d : Nat} (hc : clT t c) {q q2 : Nat} {f fc : Nat → Int32} {g : Nat → Option Nat} (h0 : hpG H' (ad 0) = some (.inr (8, (smV ad t 0 0 0 0).set 2 (.ref q2)))) (hq : hpG H' q = some (iE (zY Z 1) 4 f)) (f0 : f 0 = zB1w co) (f1 : f 1 = nI (c % 10)) (f2 : f 2 = nI d) (f3 : f 3 = 0) (hq2 : hpG H' q2 = some (qE (zY Z 4) (tF t + 1) g)) (g1 : ∀ i, i < tF t → g i = some (ad (30 + i))) (g2 : g (tF t) = some q) (hcc : hpG H' (ad (60 + c)) = some (iE (zY Z 1) 4 fc)) (c0 : fc 0 = nI (c % 10)) (c1 : fc 1 = nI (tF t)) (c2 : fc 2 = zB1w (tSp t c)) (c3 : fc 3 = 0) (hk : ∀ i, uA t i → i ≠ 0 → i ≠ 2 → i ≠ 60 + c → hpG H' (ad i) = hpG H (ad i)) (nq : ∀ i, uA t i → ad i ≠ q ∧ ad i ≠ q2) (n12 : q ≠ q2) : SimG Z H' (va_up (va_up ad 2 q2) (30 + tF t) q) (adF t co c d) (x0 (adF t co c d)) := by
  have n8 := wt.1.2
  have m10 := wt.2.1.2
  obtain ⟨s0, ⟨fS, s1, s1'⟩, s2, s3, ⟨fF, s4, s4'⟩, s5, ⟨fE, s6, s6'⟩, s7, ⟨fP, s8, s8'⟩, ⟨s9, sL⟩, s10⟩ := S
  have e : ∀ i, i ≠ 2 → i ≠ 30 + tF t → (va_up (va_up ad 2 q2) (30 + tF t) q) i = ad i := fun i h1 h2 => by rw [va_up_ne _ _ h2, va_up_ne _ _ h1]
  have ek : (va_up (va_up ad 2 q2) (30 + tF t) q) 2 = q2 := by rw [va_up_ne _ _ (by omega), va_up_self]
  have eN : (va_up (va_up ad 2 q2) (30 + tF t) q) (30 + tF t) = q := va_up_self _ _ _
  have u : ∀ i, uA (adF t co c d) i → i = 2 ∨ i = 30 + tF t ∨ (uA t i ∧ (va_up (va_up ad 2 q2) (30 + tF t) q) i = ad i) := fun i hi => by
    by_cases z1 : i = 2
    · exact Or.inl z1
    · by_cases z2 : i = 30 + tF t
      · exact Or.inr (Or.inl z2)
      · refine Or.inr (Or.inr ⟨?_, e i z1 z2⟩)
        rcases hi with a | a | a | a | a
        · exact Or.inl a
        · exact Or.inr (Or.inl a)
        · exact Or.inr (Or.inr (Or.inl a))
        · have a2 : i < 30 + (tF t + 1) := a.2
          exact Or.inr (Or.inr (Or.inr (Or.inl ⟨a.1, by omega⟩)))
        · exact Or.inr (Or.inr (Or.inr (Or.inr a)))
  have u7 : ∀ i, i ≤ 7 → uA t i := fun i hi => Or.inl hi
  have u10 : ∀ s, s < tN t → uA t (10 + s) := fun s hs => Or.inr (Or.inl ⟨by omega, by omega⟩)
  have u20 : ∀ s, s < tE t → uA t (20 + s) := fun s hs => Or.inr (Or.inr (Or.inl ⟨by omega, by omega⟩))
  have u30 : ∀ s, s < tF t → uA t (30 + s) := fun s hs => Or.inr (Or.inr (Or.inr (Or.inl ⟨by omega, by omega⟩)))
  have u60 : ∀ c, clT t c → uA t (60 + c) := fun c hc => Or.inr (Or.inr (Or.inr (Or.inr ⟨by omega, by rw [show 60 + c - 60 = c by omega]; exact hc.1, by rw [show 60 + c - 60 = c by omega]; exact hc.2⟩)))
  have hc80 : c < 80 := clT_80 wt hc
  have t24 := wt.2.2.2.1
  refine ⟨?_, ⟨fS, ?_, fun s hs => ?_⟩, fun s hs => ?_, fun c' hc' => ?_, ?_, fun i hi => ?_, ?_, fun i hi => ?_, ⟨fP, ?_, s8'⟩, ⟨fun i j hi hj eq => ?_, fun i i5 i7 => ?_⟩, s10⟩
  · show hpG H' ((va_up (va_up ad 2 q2) (30 + tF t) q) 0) = some (.inr (8, smV (va_up (va_up ad 2 q2) (30 + tF t) q) (adF t co c d) 0 0 0 0))
    unfold smV
    rw [e 0 (by omega) (by omega), e 1 (by omega) (by omega), ek, e 3 (by omega) (by omega), e 4 (by omega) (by omega), e 5 (by omega) (by omega), e 6 (by omega) (by omega), e 7 (by omega) (by omega)]
    exact h0
  · rw [e 1 (by omega) (by omega), hk 1 (u7 1 (by omega)) (by omega) (by omega) (by omega)]; exact s1
  · have hs : s < tN t := hs
    rw [e (10 + s) (by omega) (by omega)]; exact s1' s hs
  · have hs : s < tN t := hs
    obtain ⟨f', a1, a2⟩ := s2 s hs
    refine ⟨f', ?_, fun j hj => ?_⟩
    · rw [e (10 + s) (by omega) (by omega), hk _ (u10 s hs) (by omega) (by omega) (by omega)]; exact a1
    · rw [e _ (by omega) (by omega)]
      exact a2 j hj
  · by_cases y1 : c' = c
    · subst y1
      refine ⟨fc, by rw [e (60 + c') (by omega) (by omega)]; exact hcc, c0, ?_, c2, c3⟩
      rw [c1]
      show nI (tF t) = fI (va_up (tFi t) c' (some (tF t)) c')
      rw [va_up_self]
      rfl
    · obtain ⟨f', a1, a2, a3, a4⟩ := s3 c' hc'
      have : c' < 80 := clT_80 wt hc'
      refine ⟨f', by rw [e (60 + c') (by omega) (by omega), hk _ (u60 c' hc') (by omega) (by omega) (by omega)]; exact a1, a2, ?_, a4⟩
      rw [a3]
      show fI (tFi t c') = fI (va_up (tFi t) c (some (tF t)) c')
      rw [va_up_ne _ _ y1]
  · refine ⟨g, by rw [ek]; exact hq2, fun i hi => ?_⟩
    have hi : i < tF t + 1 := hi
    by_cases y1 : i = tF t
    · rw [y1, eN]; exact g2
    · rw [e (30 + i) (by omega) (by omega)]; exact g1 i (by omega)
  · have hi : i < tF t + 1 := hi
    by_cases y1 : i = tF t
    · rw [y1, eN]
      refine ⟨f, hq, ?_, ?_, ?_, f3⟩
      · rw [f0]
        show zB1w co = zB1w (va_up (tCo t) (tF t) co (tF t))
        rw [va_up_self]
      · rw [f1]
        show nI (c % 10) = nI (va_up (tCu t) (tF t) c (tF t) % 10)
        rw [va_up_self]
      · rw [f2]
        exact (va_up_self _ _ _).symm
    · obtain ⟨f', a1, a2, a3, a4, a5⟩ := s5 i (by omega)
      refine ⟨f', by rw [e (30 + i) (by omega) (by omega), hk _ (u30 i (by omega)) (by omega) (by omega) (by omega)]; exact a1, ?_, ?_, ?_, a5⟩
      · rw [a2]
        show zB1w (tCo t i) = zB1w (va_up (tCo t) (tF t) co i)
        rw [va_up_ne _ _ y1]
      · rw [a3]
        show nI (tCu t i % 10) = nI (va_up (tCu t) (tF t) c i % 10)
        rw [va_up_ne _ _ y1]
      · rw [a4]
        exact (va_up_ne _ _ y1).symm
  · refine ⟨fE, ?_, fun i hi => ?_⟩
    · rw [e 3 (by omega) (by omega), hk 3 (u7 3 (by omega)) (by omega) (by omega) (by omega)]; exact s6
    · have hi : i < tE t := hi
      rw [e (20 + i) (by omega) (by omega)]; exact s6' i hi
  · have hi : i < tE t := hi
    obtain ⟨f', a1, a2⟩ := s7 i hi
    exact ⟨f', by rw [e (20 + i) (by omega) (by omega), hk _ (u20 i hi) (by omega) (by omega) (by omega)]; exact a1, a2⟩
  · rw [e 4 (by omega) (by omega), hk 4 (u7 4 (by omega)) (by omega) (by omega) (by omega)]; exact s8
  · rcases u i hi with a | a | ⟨a1, a2⟩
    · rcases u j hj with b | b | ⟨b1, b2⟩
      · rw [a, b]
      · rw [a, b, ek, eN] at eq
        exact absurd eq.symm n12
      · rw [a, ek, b2] at eq
        exact absurd eq.symm (nq j b1).2
    · rcases u j hj with b | b | ⟨b1, b2⟩
      · rw [a, b, ek, eN] at eq
        exact absurd eq n12
      · rw [a, b]
      · rw [a, eN, b2] at eq
        exact absurd eq.symm (nq j b1).1
    · rcases u j hj with b | b | ⟨b1, b2⟩
      · rw [b, ek, a2] at eq
        exact absurd eq (nq i a1).2
      · rw [b, eN, a2] at eq
        exact absurd eq (nq i a1).1
      · rw [a2, b2] at eq
        exact s9 i j a1 b1 eq
  · rw [e i (by omega) (by omega), hk i (u7 i i7) (by omega) (by omega) (by omega)]
    exact sL i i5 i7
theorem sm_addS {c : Nat} (wt : wfT t) (hc : clT t c) (S : SimG Z H ad t (x0 t)) {fc : Nat → Int32} (hcc : hpG H' (ad (60 + c)) = some (iE (zY Z 1) 4 fc)) (c0 : fc 0 = nI (c % 10)) (c1 : fc 1 = fI (tFi t c)) (c2 : fc 2 = 1) (c3 : fc 3 = 0) (hk : ∀ i, uA t i → i ≠ 60 + c → hpG H' (ad i) = hpG H (ad i)) : SimG Z H' ad (adS t c) (x0 (adS t c)) := by
  obtain ⟨s0, ⟨fS, s1, s1'⟩, s2, s3, ⟨fF, s4, s4'⟩, s5, ⟨fE, s6, s6'⟩, s7, ⟨fP, s8, s8'⟩, ⟨s9, sL⟩, s10⟩ := S
  have key : ∀ i, uA t i → i < 60 → hpG H' (ad i) = hpG H (ad i) := fun i hi h => hk i hi (by omega)
  have u7 : ∀ i, i ≤ 7 → uA t i := fun i hi => Or.inl hi
  have u10 : ∀ s, s < tN t → uA t (10 + s) := fun s hs => Or.inr (Or.inl ⟨by omega, by omega⟩)
  have u20 : ∀ s, s < tE t → uA t (20 + s) := fun s hs => Or.inr (Or.inr (Or.inl ⟨by omega, by omega⟩))
  have u30 : ∀ s, s < tF t → uA t (30 + s) := fun s hs => Or.inr (Or.inr (Or.inr (Or.inl ⟨by omega, by omega⟩)))
  have u60 : ∀ c, clT t c → uA t (60 + c) := fun c hc => Or.inr (Or.inr (Or.inr (Or.inr ⟨by omega, by rw [show 60 + c - 60 = c by omega]; exact hc.1, by rw [show 60 + c - 60 = c by omega]; exact hc.2⟩)))
  have n8 := wt.1.2
  have t6 := wt.2.2.1
  have t24 := wt.2.2.2.1
  refine ⟨?_, ⟨fS, ?_, s1'⟩, fun s hs => ?_, fun c' hc' => ?_, ⟨fF, ?_, s4'⟩, fun i hi => ?_, ⟨fE, ?_, s6'⟩, fun i hi => ?_, ⟨fP, ?_, s8'⟩, ⟨s9, fun i i5 i7 => ?_⟩, s10⟩
  · exact (key 0 (u7 0 (by omega)) (by omega)).trans s0
  · exact (key 1 (u7 1 (by omega)) (by omega)).trans s1
  · have hs : s < tN t := hs
    obtain ⟨f', a1, a2⟩ := s2 s hs
    exact ⟨f', (key _ (u10 s hs) (by omega)).trans a1, a2⟩
  · by_cases y1 : c' = c
    · subst y1
      refine ⟨fc, hcc, c0, c1, ?_, c3⟩
      rw [c2]
      show 1 = zB1w (va_up (tSp t) c' true c')
      rw [va_up_self]
      rfl
    · obtain ⟨f', a1, a2, a3, a4, a5⟩ := s3 c' hc'
      refine ⟨f', (hk _ (u60 c' hc') (by omega)).trans a1, a2, a3, ?_, a5⟩
      rw [a4]
      show zB1w (tSp t c') = zB1w (va_up (tSp t) c true c')
      rw [va_up_ne _ _ y1]
  · exact (key 2 (u7 2 (by omega)) (by omega)).trans s4
  · have hi : i < tF t := hi
    obtain ⟨f', a1, a2⟩ := s5 i hi
    exact ⟨f', (key _ (u30 i hi) (by omega)).trans a1, a2⟩
  · exact (key 3 (u7 3 (by omega)) (by omega)).trans s6
  · have hi : i < tE t := hi
    obtain ⟨f', a1, a2⟩ := s7 i hi
    exact ⟨f', (key _ (u20 i hi) (by omega)).trans a1, a2⟩
  · exact (key 4 (u7 4 (by omega)) (by omega)).trans s8
  · obtain ⟨cc, hcc'⟩ := sL i i5 i7
    exact ⟨cc, (key i (u7 i i7) (by omega)).trans hcc'⟩
end GROW
