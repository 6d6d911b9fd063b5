/-! PURE: Sim.of, its cushions: one after another; the whole. -/
def clN (n m c : Nat) : Prop := c / 10 < n ∧ c % 10 < m
def uD (n m : Nat) (dn : Nat → Prop) (i : Nat) : Prop := i ≤ 7 ∨ (10 ≤ i ∧ i < 10 + n) ∨ (60 ≤ i ∧ clN n m (i - 60) ∧ dn (i - 60))
def cuC (Z : gZ) (H : gH) (q c : Nat) : Prop := ∃ f, hpG H q = some (iE (zY Z 1) 4 f) ∧ f 0 = nI (c % 10) ∧ f 1 = -1 ∧ f 2 = 0 ∧ f 3 = 0
/-- the sofa, its cushions in dn made -/
def PI (Z : gZ) (H0 H : gH) (ad : Nat → Nat) (n m : Nat) (dn : Nat → Prop) : Prop :=
  hpG H (ad 0) = some (.inr (8, smV ad (t00 n m) 0 0 0 0)) ∧
  (∃ f, hpG H (ad 1) = some (qE (zY Z 5) n f) ∧ ∀ s, s < n → f s = some (ad (10 + s))) ∧
  (∀ s, s < n → ∃ f, hpG H (ad (10 + s)) = some (qE (zY Z 4) m f) ∧ ∀ j, j < m → dn (s * 10 + j) → f j = some (ad (60 + (s * 10 + j)))) ∧
  (∀ c, clN n m c → dn c → cuC Z H (ad (60 + c)) c) ∧
  ((∃ f, hpG H (ad 2) = some (qE (zY Z 4) 0 f)) ∧ (∃ f, hpG H (ad 3) = some (qE (zY Z 4) 0 f)) ∧ (∃ f, hpG H (ad 4) = some (iE (zY Z 3) n f) ∧ ∀ s, s < n → f s = 0) ∧ smL H ad) ∧
  (∀ i j, uD n m dn i → uD n m dn j → ad i = ad j → i = j) ∧ (∀ i, uD n m dn i → hpG H0 (ad i) = none) ∧ Fr (fun _ => False) H0 H
section PIS
variable {Z : gZ} {H0 H : gH} {ad : Nat → Nat} {n m : Nat} {dn : Nat → Prop}
theorem PI.congr (P : PI Z H0 H ad n m dn) {dn' : Nat → Prop} (h : ∀ c, clN n m c → (dn' c ↔ dn c)) (hm : m ≤ 10) : PI Z H0 H ad n m dn' := by
  obtain ⟨h1, h2, h3, h4, h5, h6, h7, h8⟩ := P
  have u : ∀ i, uD n m dn' i → uD n m dn i := fun i hi => by
    rcases hi with z | z | ⟨z1, z2, z3⟩
    · exact Or.inl z
    · exact Or.inr (Or.inl z)
    · exact Or.inr (Or.inr ⟨z1, z2, (h _ z2).mp z3⟩)
  refine ⟨h1, h2, fun s hs => ?_, fun c hc hd => h4 c hc ((h c hc).mp hd), h5, fun i j hi hj => h6 i j (u i hi) (u j hj), fun i hi => h7 i (u i hi), h8⟩
  obtain ⟨f, f1, f2⟩ := h3 s hs
  exact ⟨f, f1, fun j hj hd => f2 j hj ((h _ ⟨by omega, by omega⟩).mp hd)⟩
theorem PI.live (P : PI Z H0 H ad n m dn) {i : Nat} (hi : uD n m dn i) : ∃ c, hpG H (ad i) = some c := by
  obtain ⟨h1, ⟨f1, h2, -⟩, h3, h4, ⟨⟨f2, g2⟩, ⟨f3, g3⟩, ⟨f4, g4, -⟩, g5⟩, -⟩ := P
  rcases hi with z | z | ⟨z1, z2, z3⟩
  · have : i = 0 ∨ i = 1 ∨ i = 2 ∨ i = 3 ∨ i = 4 ∨ (5 ≤ i ∧ i ≤ 7) := by omega
    rcases this with rfl | rfl | rfl | rfl | rfl | ⟨y1, y2⟩
    · exact ⟨_, h1⟩
    · exact ⟨_, h2⟩
    · exact ⟨_, g2⟩
    · exact ⟨_, g3⟩
    · exact ⟨_, g4⟩
    · obtain ⟨c, hc⟩ := g5 i y1 y2
      exact ⟨_, hc⟩
  · obtain ⟨f, g, -⟩ := h3 (i - 10) (by omega)
    rw [show 10 + (i - 10) = i by omega] at g
    exact ⟨_, g⟩
  · obtain ⟨f, g, -⟩ := h4 (i - 60) z2 z3
    rw [show 60 + (i - 60) = i by omega] at g
    exact ⟨_, g⟩
theorem PI.step (P : PI Z H0 H ad n m dn) (n8 : n ≤ 8) (m10 : m ≤ 10) {s j q : Nat} (hs : s < n) (hj : j < m) (hd : ¬ dn (s * 10 + j)) (hq : hpG H q = none) {f : Nat → Option Nat} (hf : hpG H (ad (10 + s)) = some (qE (zY Z 4) m f)) {H' : gH} (c1 : cuC Z H' q (s * 10 + j)) (c2 : hpG H' (ad (10 + s)) = some (qE (zY Z 4) m (va_up f j (some q)))) (c3 : ∀ b, b ≠ q → b ≠ ad (10 + s) → hpG H' b = hpG H b) : PI Z H0 H' (va_up ad (60 + (s * 10 + j)) q) n m (fun c => dn c ∨ c = s * 10 + j) := by
  have lv := fun i hi => P.live (i := i) hi
  obtain ⟨h1, ⟨f1, h2, h2'⟩, h3, h4, ⟨⟨f2, g2⟩, ⟨f3, g3⟩, ⟨f4, g4, g4'⟩, g5⟩, h6, h7, h8⟩ := P
  have us10 : uD n m dn (10 + s) := Or.inr (Or.inl ⟨by omega, by omega⟩)
  have ne : ∀ i, uD n m dn i → ad i ≠ q := fun i hi => by
    obtain ⟨c, hc⟩ := lv i hi
    exact ne_fresh hc hq
  have old : ∀ i, uD n m dn i → i ≠ 10 + s → hpG H' (ad i) = hpG H (ad i) := fun i hi hn => c3 _ (ne i hi) (fun z => hn (h6 i _ hi us10 z))
  have e7 : ∀ i, i ≤ 7 → va_up ad (60 + (s * 10 + j)) q i = ad i := fun i hi => va_up_ne _ _ (by omega)
  have e10 : ∀ x, x < n → va_up ad (60 + (s * 10 + j)) q (10 + x) = ad (10 + x) := fun x hx => va_up_ne _ _ (by omega)
  have e60 : ∀ c, c ≠ s * 10 + j → va_up ad (60 + (s * 10 + j)) q (60 + c) = ad (60 + c) := fun c hc => va_up_ne _ _ (by omega)
  have u7 : ∀ i, i ≤ 7 → uD n m dn i := fun i hi => Or.inl hi
  have uc : ∀ i, uD n m (fun c => dn c ∨ c = s * 10 + j) i → (uD n m dn i ∧ va_up ad (60 + (s * 10 + j)) q i = ad i) ∨ (i = 60 + (s * 10 + j) ∧ va_up ad (60 + (s * 10 + j)) q i = q) := fun i hi => by
    by_cases z : i = 60 + (s * 10 + j)
    · exact Or.inr ⟨z, by rw [z, va_up_self]⟩
    · refine Or.inl ⟨?_, va_up_ne _ _ z⟩
      rcases hi with y | y | ⟨y1, y2, y3⟩
      · exact Or.inl y
      · exact Or.inr (Or.inl y)
      · rcases y3 with y3 | y3
        · exact Or.inr (Or.inr ⟨y1, y2, y3⟩)
        · omega
  refine ⟨?_, ⟨f1, ?_, fun x hx => ?_⟩, fun x hx => ?_, fun c hc hdc => ?_, ⟨⟨f2, ?_⟩, ⟨f3, ?_⟩, ⟨f4, ?_, g4'⟩, fun i i5 i7 => ?_⟩, fun i i' hi hi' e => ?_, fun i hi => ?_, fun b c hb _ => ?_⟩
  · rw [e7 0 (by omega), old 0 (u7 0 (by omega)) (by omega), h1]
    unfold smV
    rw [e7 1 (by omega), e7 2 (by omega), e7 3 (by omega), e7 4 (by omega), e7 5 (by omega), e7 6 (by omega), e7 7 (by omega)]
  · rw [e7 1 (by omega), old 1 (u7 1 (by omega)) (by omega), h2]
  · rw [e10 x hx]; exact h2' x hx
  · rw [e10 x hx]
    by_cases z : x = s
    · subst z
      refine ⟨_, c2, fun y hy hdy => ?_⟩
      by_cases z2 : y = j
      · rw [z2, va_up_self, va_up_self]
      · rw [va_up_ne _ _ z2, e60 _ (by omega)]
        rcases hdy with hdy | hdy
        · obtain ⟨f', f1', f2'⟩ := h3 x hx
          rw [hf] at f1'
          have : f = f' := by injection f1' with e; injection e with e; injection e with _ e; injection e with _ e; injection e with e; injection e with e; injection e with e; injection e
          rw [this]
          exact f2' y hy hdy
        · omega
    · obtain ⟨f', f1', f2'⟩ := h3 x hx
      refine ⟨f', by rw [old _ (Or.inr (Or.inl ⟨by omega, by omega⟩)) (by omega)]; exact f1', fun y hy hdy => ?_⟩
      rw [e60 _ (by omega)]
      rcases hdy with hdy | hdy
      · exact f2' y hy hdy
      · omega
  · by_cases z : c = s * 10 + j
    · rw [z, va_up_self]; exact c1
    · rw [e60 c z]
      rcases hdc with hdc | hdc
      · obtain ⟨f', f1', f2'⟩ := h4 c hc hdc
        exact ⟨f', by rw [old _ (Or.inr (Or.inr ⟨by omega, by rw [show 60 + c - 60 = c by omega]; exact hc, by rw [show 60 + c - 60 = c by omega]; exact hdc⟩)) (by omega)]; exact f1', f2'⟩
      · exact absurd hdc z
  · rw [e7 2 (by omega), old 2 (u7 2 (by omega)) (by omega), g2]
  · rw [e7 3 (by omega), old 3 (u7 3 (by omega)) (by omega), g3]
  · rw [e7 4 (by omega), old 4 (u7 4 (by omega)) (by omega), g4]
  · rw [e7 i i7, old i (u7 i i7) (by omega)]
    exact g5 i i5 i7
  · rcases uc i hi with ⟨a1, a2⟩ | ⟨a1, a2⟩
    · rcases uc i' hi' with ⟨b1, b2⟩ | ⟨b1, b2⟩
      · rw [a2, b2] at e
        exact h6 i i' a1 b1 e
      · rw [a2, b2] at e
        exact absurd e (ne i a1)
    · rcases uc i' hi' with ⟨b1, b2⟩ | ⟨b1, b2⟩
      · rw [a2, b2] at e
        exact absurd e.symm (ne i' b1)
      · rw [a1, b1]
  · rcases uc i hi with ⟨a1, a2⟩ | ⟨a1, a2⟩
    · rw [a2]; exact h7 i a1
    · rw [a2]
      exact Fr.live h8 hq
  · have hb' : hpG H b = some c := h8 b c hb (fun z => z)
    rw [c3 b (ne_fresh hb' hq) (fun z => by rw [z, h7 _ us10] at hb; cases hb)]
    exact hb'
end PIS
def dnS (s j c : Nat) : Prop := c / 10 < s ∨ (c / 10 = s ∧ c % 10 < j)
theorem PI.sim {Z : gZ} {H0 H : gH} {ad : Nat → Nat} {n m : Nat} (n8 : n ≤ 8) (m10 : m ≤ 10) (P : PI Z H0 H ad n m (fun _ => True)) : SimG Z H ad (t00 n m) (x0 (t00 n m)) ∧ ∀ i, uA (t00 n m) i → hpG H0 (ad i) = none := by
  obtain ⟨h1, h2, h3, h4, ⟨⟨f2, g2⟩, ⟨f3, g3⟩, ⟨f4, g4, g4'⟩, g5⟩, h6, h7, h8⟩ := P
  have u : ∀ i, uA (t00 n m) i → uD n m (fun _ => True) i := fun i hi => by
    rcases hi with z | z | z | z | ⟨z1, z2, z3⟩
    · exact Or.inl z
    · exact Or.inr (Or.inl z)
    · have : i < 20 + 0 := z.2
      omega
    · have : i < 30 + 0 := z.2
      omega
    · exact Or.inr (Or.inr ⟨z1, ⟨z2, z3⟩, trivial⟩)
  have hj : ∀ s, s < n → (a0 (t00 n m)).2.1 s = m := fun s hs => if_pos hs
  refine ⟨⟨h1, h2, fun s hs => ?_, fun c hc => ?_, ⟨f2, g2, fun i hi => absurd hi (Nat.not_lt_zero i)⟩, fun i hi => absurd hi (Nat.not_lt_zero i), ⟨f3, g3, fun i hi => absurd hi (Nat.not_lt_zero i)⟩, fun i hi => absurd hi (Nat.not_lt_zero i), ⟨f4, g4, fun s hs => g4' s hs⟩, ⟨fun i j hi hj => h6 i j (u i hi) (u j hj), g5⟩, fun s j hsj => ?_⟩, fun i hi => h7 i (u i hi)⟩
  · have hs : s < n := hs
    obtain ⟨f, e1, e2⟩ := h3 s hs
    refine ⟨f, ?_, fun j hj' => ?_⟩
    · show hpG H (ad (10 + s)) = some (qE (zY Z 4) ((a0 (t00 n m)).2.1 s) f)
      rw [hj s hs]; exact e1
    · have hj' : j < (a0 (t00 n m)).2.1 s := hj'
      rw [hj s hs] at hj'
      exact e2 j hj' trivial
  · obtain ⟨f, e1, e2, e3, e4, e5⟩ := h4 c hc trivial
    exact ⟨f, e1, e2, e3, e4, e5⟩
  · have hsj : j < if s < n then m else 0 := hsj
    by_cases z : s < n
    · rw [if_pos z] at hsj
      show (s * 10 + j) / 10 < n ∧ (s * 10 + j) % 10 < m
      omega
    · rw [if_neg z] at hsj
      omega
section OFL
variable {Z : gZ} {H0 : gH} {n m : Nat} {K : Nat → gH → Prop}
theorem of_40 (n8 : n ≤ 8) (m10 : m ≤ 10) {x2 s : Nat} (hs : s < n) {KL : gH → Nat → Nat → Int32 → Int32 → Nat → Int32 → Prop} : ∀ (d j : Nat) (H : gH) (ad : Nat → Nat) (bc bs : Nat), j + d = m → PI Z H0 H ad n m (dnS s j) → ad 0 = x2 → 80 ≤ bc + (s * 10 + j) → 320 ≤ bs + 4 * (s * 10 + j) →
    (∀ H' ad' bc' bs', PI Z H0 H' ad' n m (dnS (s + 1) 0) → ad' 0 = x2 → 80 ≤ bc' + (s + 1) * 10 → 320 ≤ bs' + 4 * ((s + 1) * 10) → KL H' bc' bs' (nI n) (nI m) x2 (nI (s + 1))) →
    wX9_of_40 K KL Z (d + 1) H bc bs (nI n) (nI m) x2 (nI s) (nI j) := by
  intro d
  induction d with
  | zero =>
    intro j H ad bc bs hj P h0 hb1 hb2 k
    have : j = m := by omega
    subst this
    unfold wX9_of_40
    rw [nI_1]
    exact br_t (nI_le (Nat.le_refl _) (by omega)) (k H ad bc bs (P.congr (fun c hc => by unfold dnS; unfold clN at hc; omega) m10) h0 (by omega) (by omega))
  | succ d ih =>
    intro j H ad bc bs hj P h0 hb1 hb2 k
    have P0 := P
    obtain ⟨h1, ⟨f1, h2, h2'⟩, h3, -⟩ := P
    obtain ⟨f, hf, hf'⟩ := h3 s hs
    unfold wX9_of_40
    rw [nI_1, nI_1]
    refine br_f (nI_ge (by omega) (by omega)) ⟨ad 1, by rw [← h0]; exact gF_of h1 rfl, n, f1, ad (10 + s), h2, vp_in_nI hs (by omega), by rw [nI_clamp (by omega)]; exact h2' s hs, by omega, by show 4 ≤ bs; omega, fun q hq => ?_⟩
    have nq : ad (10 + s) ≠ q := ne_fresh hf hq
    refine ⟨_, _, hpG_n, by unfold vp_in; decide, _, _, hpG_s hpG_n, by unfold vp_in; decide, _, _, hpG_s (hpG_s hpG_n), by unfold vp_in; decide, _, _, hpG_s (hpG_s (hpG_s hpG_n)), by unfold vp_in; decide, m, f, _, _, (hpG_sn nq).trans ((hpG_sn nq).trans ((hpG_sn nq).trans ((hpG_sn nq).trans ((hpG_nn nq).trans hf)))), vp_in_nI (by omega) (by omega), hpG_s (hpG_s (hpG_s (hpG_s hpG_n))), ?_⟩
    rw [nI_clamp (show j < 2 ^ 31 by omega)]
    refine ih (j + 1) _ (va_up ad (60 + (s * 10 + j)) q) (bc - 1) (bs - 4) (by omega) ?_ (by rw [va_up_ne _ _ (by omega)]; exact h0) (by omega) (by omega) k
    refine (PI.step P0 n8 m10 hs (show j < m by omega) (by unfold dnS; omega) hq hf (H' := hpS (hpS (hpS (hpS (hpS (hpN H q (iE (zY Z 1) (4 : Int32).toNatClampNeg (fun _ => 0))) q (iE (zY Z 1) (4 : Int32).toNatClampNeg (upd (fun _ => 0) (0 : Int32).toNatClampNeg (nI j)))) q (iE (zY Z 1) (4 : Int32).toNatClampNeg (upd (upd (fun _ => 0) (0 : Int32).toNatClampNeg (nI j)) (1 : Int32).toNatClampNeg (-1)))) q (iE (zY Z 1) (4 : Int32).toNatClampNeg (upd (upd (upd (fun _ => 0) (0 : Int32).toNatClampNeg (nI j)) (1 : Int32).toNatClampNeg (-1)) (2 : Int32).toNatClampNeg 0))) q (iE (zY Z 1) (4 : Int32).toNatClampNeg (upd (upd (upd (upd (fun _ => 0) (0 : Int32).toNatClampNeg (nI j)) (1 : Int32).toNatClampNeg (-1)) (2 : Int32).toNatClampNeg 0) (3 : Int32).toNatClampNeg 0))) (ad (10 + s)) (qE (zY Z 4) m (va_up f j (some q)))) ?_ ?_ ?_).congr (fun c hc => by unfold dnS; unfold clN at hc; omega) m10
    · refine ⟨_, (hpG_sn (Ne.symm nq)).trans (hpG_s (hpG_s (hpG_s (hpG_s hpG_n)))), ?_, rfl, rfl, rfl⟩
      show nI j = nI ((s * 10 + j) % 10)
      congr 1
      omega
    · exact hpG_s ((hpG_sn nq).trans ((hpG_sn nq).trans ((hpG_sn nq).trans ((hpG_sn nq).trans ((hpG_nn nq).trans hf)))))
    · intro b hb1 hb2
      exact (hpG_sn hb2).trans ((hpG_sn hb1).trans ((hpG_sn hb1).trans ((hpG_sn hb1).trans ((hpG_sn hb1).trans (hpG_nn hb1)))))
theorem of_32 (n8 : n ≤ 8) (m10 : m ≤ 10) {x2 : Nat} (k : ∀ H' ad', PI Z H0 H' ad' n m (fun _ => True) → ad' 0 = x2 → K x2 H') : ∀ (d s : Nat) (H : gH) (ad : Nat → Nat) (bc bs : Nat), s + d = n → PI Z H0 H ad n m (dnS s 0) → ad 0 = x2 → 80 ≤ bc + s * 10 → 320 ≤ bs + 4 * (s * 10) →
    wX9_of_32 K Z (d + 1) H bc bs (nI n) (nI m) x2 (nI s) := by
  intro d
  induction d with
  | zero =>
    intro s H ad bc bs hs P h0 _ _
    have : s = n := by omega
    subst this
    unfold wX9_of_32
    exact br_t (nI_le (Nat.le_refl _) (by omega)) (k H ad (P.congr (fun c hc => by unfold dnS; unfold clN at hc; exact ⟨fun _ => Or.inl hc.1, fun _ => trivial⟩) m10) h0)
  | succ d ih =>
    intro s H ad bc bs hs P h0 hb1 hb2
    unfold wX9_of_32
    refine br_f (nI_ge (by omega) (by omega)) ⟨m + 1, ?_⟩
    exact of_40 n8 m10 (show s < n by omega) m 0 H ad bc bs (by omega) P h0 (by omega) (by omega) (fun H' ad' bc' bs' P' h0' b1 b2 => ih (s + 1) H' ad' bc' bs' (by omega) P' h0' b1 b2)
end OFL
theorem hz_simOf {Z : gZ} {H : gH} {n m bc bs : Nat} {K : Nat → gH → Prop} (hn : 2 ≤ n ∧ n ≤ 8) (hm : 2 ≤ m ∧ m ≤ 10) (hbc : 98 ≤ bc) (hbs : 428 ≤ bs)
    (kk : ∀ H' ad, SimG Z H' ad (t00 n m) (x0 (t00 n m)) → (∀ i, uA (t00 n m) i → hpG H (ad i) = none) → Fr (fun _ => False) H H' → K (ad 0) H') : wX9_of Z H bc bs (nI n) (nI m) K := by
  have nn : (nI n).toNatClampNeg = n := nI_clamp (by omega)
  have mm : (nI m).toNatClampNeg = m := nI_clamp (by omega)
  have nm : n * m ≤ 80 := Nat.le_trans (Nat.mul_le_mul hn.2 hm.2) (by decide)
  unfold wX9_of
  rw [nn, mm]
  refine ⟨by omega, by omega, fun q hq => ?_⟩
  refine ⟨7, 0, by omega, Nat.zero_le _, hz_simNew hpG_n (Nat.le_refl _) (fun H3 g g0 o1 inj gf fr d2 d3 d4 d5 d6 d7 => ?_)⟩
  -- what the new object's places are in the heap before
  have q0 : ∀ i, i ≤ 7 → hpG H (g i) = none := fun i hi => by
    by_cases z : i = 0
    · rw [z, g0]; exact hq
    · have := gf i (by omega) hi
      have e : g i ≠ q := fun y => by rw [y, hpG_n] at this; cases this
      rw [hpG_nn e] at this
      exact this
  have F0 : Fr (fun _ => False) H H3 := fun b c hb _ => by
    have e : b ≠ q := ne_fresh hb hq
    rw [fr b e (by rw [hpG_nn e, hb]; exact Option.some_ne_none c), hpG_nn e]
    exact hb
  have gq : ∀ i, 1 ≤ i → i ≤ 7 → g i ≠ q := fun i h1 h7 z => by
    have := inj i 0 h7 (by omega) (by rw [z, g0])
    omega
  obtain ⟨H4, e4, o4, F4⟩ := ob_s (k := 0) (v := .int (nI m)) o1
  refine ⟨_, o1, Nat.le_of_ble_eq_true rfl, nI_pos (by omega), nI_pos (by omega), by omega, by omega, by omega, by omega, fun q7 h7 => ?_⟩
  rw [← e4] at h7 ⊢
  -- the seats' array with its rows
  have l4 : ∀ b c, hpG H4 b = some c → ∀ i, i ≤ n → b ≠ q7 + i := fun b c hb i hi z => by rw [z, h7 i hi] at hb; cases hb
  obtain ⟨H5, e5⟩ : ∃ H5, H5 = hpM H4 q7 (zY Z 5) (zY Z 4) n m := ⟨_, rfl⟩
  have k5 : ∀ b c, hpG H4 b = some c → hpG H5 b = some c := fun b c hb => by rw [e5, hpM_n (l4 b c hb)]; exact hb
  have o5 := k5 _ _ o4
  obtain ⟨H6, e6, o6, F6⟩ := ob_s (k := 1) (v := .ref q7) o5
  rw [← e5]
  refine ⟨_, o5, Nat.le_of_ble_eq_true rfl, nI_pos (by omega), by omega, by omega, by omega, fun q12 hq12 => ?_⟩
  rw [← e6] at hq12 ⊢
  obtain ⟨H7, e7, b7, o7, c7, F7, n7⟩ := ob_n (k := 4) (v := .ref q12) (iE (zY Z 3) n (fun _ => 0)) o6 hq12
  refine ⟨_, b7, Nat.le_of_ble_eq_true rfl, ?_⟩
  rw [← e7]
  -- the places
  have q7n : q7 ≠ q := fun z => (l4 q _ o4 0 (by omega)) z.symm
  have r7n : ∀ i, i ≤ n → q7 + i ≠ q := fun i hi z => (l4 q _ o4 i hi) z.symm
  have k6 : ∀ b c, b ≠ q → hpG H5 b = some c → hpG H7 b = some c := fun b c hb h => by
    have h6 : hpG H6 b = some c := (F6 b hb).trans h
    rw [F7 b hb (ne_fresh h6 hq12)]
    exact h6
  have k3 : ∀ b c, b ≠ q → hpG H3 b = some c → hpG H7 b = some c := fun b c hb h => k6 b c hb (k5 b c ((F4 b hb).trans h))
  have F3 : Fr (fun _ => False) H H7 := fun b c hb z => k3 b c (ne_fresh hb hq) (F0 b c hb z)
  have s7 : hpG H7 q7 = some (qE (zY Z 5) n (fun i => if i < n then some (q7 + 1 + i) else none)) := k6 _ _ q7n (by rw [e5]; exact hpM_0)
  have t7 : ∀ s, s < n → hpG H7 (q7 + 1 + s) = some (qE (zY Z 4) m (fun _ => none)) := fun s hs => k6 _ _ (by have := r7n (1 + s) (by omega); rw [Nat.add_assoc]; exact this) (by rw [e5]; exact hpM_i hs)
  have l3 : ∀ b, b ≠ q → hpG H4 b = hpG H3 b := F4
  -- fresh in the heap before
  have fq7 : ∀ i, i ≤ n → hpG H (q7 + i) = none := fun i hi => by
    have := h7 i hi
    rw [l3 _ (r7n i hi)] at this
    exact Fr.live F0 this
  have fq12 : hpG H q12 = none := by
    refine Fr.live (H' := H6) (fun b c hb _ => ?_) hq12
    have b0 : b ≠ q := ne_fresh hb hq
    rw [F6 b b0]
    exact k5 b c ((F4 b b0).trans (F0 b c hb (fun z => z)))
  have w12 : ∀ i, i ≤ n → q12 ≠ q7 + i := fun i hi z => by
    have l5 : ∃ c, hpG H5 (q7 + i) = some c := by
      by_cases y : i = 0
      · rw [y, e5]; exact ⟨_, hpM_0⟩
      · rw [e5, show q7 + i = q7 + 1 + (i - 1) by omega]; exact ⟨_, hpM_i (by omega)⟩
    obtain ⟨c, hc⟩ := l5
    have h6 : hpG H6 (q7 + i) = some c := (F6 _ (r7n i hi)).trans hc
    rw [← z, hq12] at h6
    cases h6
  have g7 : ∀ i, 1 ≤ i → i ≤ 7 → (∃ c, hpG H3 (g i) = some c) → ∀ j, j ≤ n → g i ≠ q7 + j := fun i h1 hi ⟨c, hc⟩ j hj => l4 _ c ((F4 _ (gq i h1 hi)).trans hc) j hj
  have g12 : ∀ i, 1 ≤ i → i ≤ 7 → (∃ c, hpG H3 (g i) = some c) → g i ≠ q12 := fun i h1 hi ⟨c, hc⟩ z => by
    have h4 : hpG H4 (g i) = some c := (F4 _ (gq i h1 hi)).trans hc
    have h6 : hpG H6 (g i) = some c := (F6 _ (gq i h1 hi)).trans (k5 _ c h4)
    rw [z, hq12] at h6
    cases h6
  have gl : ∀ i, i = 2 ∨ i = 3 ∨ i = 5 ∨ i = 6 ∨ i = 7 → ∃ c, hpG H3 (g i) = some (.inl c) := fun i hi => by
    rcases hi with rfl | rfl | rfl | rfl | rfl
    · exact ⟨_, d2⟩
    · exact ⟨_, d3⟩
    · exact ⟨_, d5⟩
    · exact ⟨_, d6⟩
    · exact ⟨_, d7⟩
  obtain ⟨ad, had⟩ : ∃ ad : Nat → Nat, ad = fun i => if i = 1 then q7 else if i = 4 then q12 else if i ≤ 7 then g i else q7 + (i - 9) := ⟨_, rfl⟩
  have A1 : ad 1 = q7 := by rw [had]; rfl
  have A4 : ad 4 = q12 := by rw [had]; rfl
  have A7 : ∀ i, i ≤ 7 → i ≠ 1 → i ≠ 4 → ad i = g i := fun i h1 h2 h3 => by rw [had]; show (if i = 1 then _ else _) = _; rw [if_neg h2, if_neg h3, if_pos h1]
  have A10 : ∀ s, ad (10 + s) = q7 + 1 + s := fun s => by rw [had]; show (if 10 + s = 1 then _ else _) = _; rw [if_neg (by omega), if_neg (by omega), if_neg (by omega)]; omega
  have A0 : ad 0 = q := by rw [A7 0 (by omega) (by omega) (by omega), g0]
  have cls : ∀ i, uD n m (dnS 0 0) i → (i = 0 ∨ i = 4 ∨ (i = 2 ∨ i = 3 ∨ i = 5 ∨ i = 6 ∨ i = 7) ∨ (∃ s, s ≤ n ∧ ad i = q7 + s ∧ ((s = 0 ∧ i = 1) ∨ (s ≠ 0 ∧ i = 9 + s)))) := fun i hi => by
    rcases hi with z | z | ⟨z1, z2, z3⟩
    · by_cases y : i = 1
      · exact Or.inr (Or.inr (Or.inr ⟨0, Nat.zero_le _, by rw [y, A1]; rfl, Or.inl ⟨rfl, y⟩⟩))
      · omega
    · refine Or.inr (Or.inr (Or.inr ⟨i - 9, by omega, ?_, Or.inr ⟨by omega, by omega⟩⟩))
      have := A10 (i - 10)
      rw [show 10 + (i - 10) = i by omega] at this
      rw [this]; omega
    · unfold dnS at z3
      omega
  have P : PI Z H H7 ad n m (dnS 0 0) := by
    refine ⟨?_, ⟨_, by rw [A1]; exact s7, fun s hs => by rw [A10]; exact if_pos hs⟩, fun s hs => ⟨_, by rw [A10]; exact t7 s hs, fun j hj hd => ?_⟩, fun c hc hd => ?_, ⟨⟨_, by rw [A7 2 (by omega) (by omega) (by omega)]; exact k3 _ _ (gq 2 (by omega) (by omega)) d2⟩, ⟨_, by rw [A7 3 (by omega) (by omega) (by omega)]; exact k3 _ _ (gq 3 (by omega) (by omega)) d3⟩, ⟨_, by rw [A4]; exact c7, fun _ _ => rfl⟩, fun i h5 h7' => ?_⟩, fun i j hi hj e => ?_, fun i hi => ?_, F3⟩
    · rw [A0]
      show hpG H7 q = some (.inr (8, [.int (nI m), .ref (ad 1), .ref (ad 2), .ref (ad 3), .ref (ad 4), .ref (ad 5), .ref (ad 6), .ref (ad 7), .int 0, .int 0, .int 0, .int 0]))
      rw [A1, A4, A7 2 (by omega) (by omega) (by omega), A7 3 (by omega) (by omega) (by omega), A7 5 (by omega) (by omega) (by omega), A7 6 (by omega) (by omega) (by omega), A7 7 (by omega) (by omega) (by omega)]
      exact o7
    · unfold dnS at hd; omega
    · unfold dnS at hd; omega
    · obtain ⟨c, hc⟩ := gl i (by omega)
      exact ⟨c, by rw [A7 i h7' (by omega) (by omega)]; exact k3 _ _ (gq i (by omega) h7') hc⟩
    · have key : ∀ i j, uD n m (dnS 0 0) i → uD n m (dnS 0 0) j → ad i = ad j → i = j ∨ (∃ s, s ≤ n ∧ ad i = q7 + s) ∨ i = 4 ∨ j = 4 ∨ ∃ s, s ≤ n ∧ ad j = q7 + s := by
        intro i j hi hj e
        rcases cls i hi with z | z | z | ⟨s, z1, z2, -⟩
        · rcases cls j hj with y | y | y | ⟨s, y1, y2, -⟩
          · exact Or.inl (by omega)
          · exact Or.inr (Or.inr (Or.inr (Or.inl y)))
          · exfalso
            rw [z, A0, A7 j (by omega) (by omega) (by omega)] at e
            exact gq j (by omega) (by omega) e.symm
          · exact Or.inr (Or.inr (Or.inr (Or.inr ⟨s, y1, y2⟩)))
        · exact Or.inr (Or.inr (Or.inl z))
        · rcases cls j hj with y | y | y | ⟨s, y1, y2, -⟩
          · exfalso
            rw [y, A0, A7 i (by omega) (by omega) (by omega)] at e
            exact gq i (by omega) (by omega) e
          · exact Or.inr (Or.inr (Or.inr (Or.inl y)))
          · rw [A7 i (by omega) (by omega) (by omega), A7 j (by omega) (by omega) (by omega)] at e
            exact Or.inl (inj i j (by omega) (by omega) e)
          · exact Or.inr (Or.inr (Or.inr (Or.inr ⟨s, y1, y2⟩)))
        · exact Or.inr (Or.inl ⟨s, z1, z2⟩)
      -- what lies among the rows, what is the props' array
      have row : ∀ i j, uD n m (dnS 0 0) i → uD n m (dnS 0 0) j → ad i = ad j → (∃ s, s ≤ n ∧ ad i = q7 + s) → i = j := by
        intro i j hi hj e hr
        obtain ⟨s, hs, es⟩ := hr
        rcases cls i hi with z | z | z | ⟨s1, z1, z2, z3⟩
        · rw [z, A0] at es
          exact absurd es.symm (r7n s hs)
        · rw [z, A4] at es
          exact absurd es (w12 s hs)
        · obtain ⟨c, hc⟩ := gl i z
          rw [A7 i (by omega) (by omega) (by omega)] at es
          exact absurd es (g7 i (by omega) (by omega) ⟨_, hc⟩ s hs)
        · rcases cls j hj with y | y | y | ⟨s2, y1, y2, y3⟩
          · rw [e, y, A0] at es
            exact absurd es.symm (r7n s hs)
          · rw [e, y, A4] at es
            exact absurd es (w12 s hs)
          · obtain ⟨c, hc⟩ := gl j y
            rw [e, A7 j (by omega) (by omega) (by omega)] at es
            exact absurd es (g7 j (by omega) (by omega) ⟨_, hc⟩ s hs)
          · have : s1 = s2 := by rw [e, y2] at z2; omega
            omega
      have prp : ∀ i j, uD n m (dnS 0 0) j → ad i = ad j → i = 4 → i = j := by
        intro i j hj e hi
        rw [hi, A4] at e
        rcases cls j hj with y | y | y | ⟨s2, y1, y2, y3⟩
        · rw [y, A0] at e
          exact absurd e.symm n7
        · omega
        · obtain ⟨c, hc⟩ := gl j y
          rw [A7 j (by omega) (by omega) (by omega)] at e
          exact absurd e.symm (g12 j (by omega) (by omega) ⟨_, hc⟩)
        · rw [y2] at e
          exact absurd e (w12 s2 y1)
      rcases key i j hi hj e with z | z | z | z | z
      · exact z
      · exact row i j hi hj e z
      · exact prp i j hj e z
      · exact (prp j i hi e.symm z).symm
      · exact (row j i hj hi e.symm z).symm
    · rcases cls i hi with z | z | z | ⟨s, z1, z2, -⟩
      · rw [z, A0]; exact hq
      · rw [z, A4]; exact fq12
      · rw [A7 i (by omega) (by omega) (by omega)]; exact q0 i (by omega)
      · rw [z2]; exact fq7 s z1
  refine ⟨n + 1, of_32 hn.2 hm.2 (fun H' ad' P' h0' => ?_) n 0 H7 ad _ _ (by omega) P A0 (by omega) (by omega)⟩
  obtain ⟨S, f'⟩ := PI.sim hn.2 hm.2 P'
  have := kk H' ad' S f' P'.2.2.2.2.2.2.2
  rw [h0'] at this
  exact this
