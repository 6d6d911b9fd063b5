/-! PURE: the text that is told and the sofa that grows beside it. -/
def TB (Z : gZ) (H : gH) (x v : Nat) (l : List Nat) : Prop := ∃ m, sbH Z H x v m l ∧ m ≤ 3002
def TS (Z : gZ) (H : gH) (x v : Nat) (ad : Nat → Nat) (t : Tl) (l : List Nat) : Prop := TB Z H x v l ∧ SimG Z H ad t (x0 t) ∧ ∀ i, uA t i → ad i ≠ v ∧ ad i ≠ x
theorem TB.fr {Z : gZ} {H H' : gH} {x v : Nat} {l : List Nat} (h : TB Z H x v l) {X : Nat → Prop} (hf : Fr X H H') (hx : ¬ X x) (hv : ¬ X v) : TB Z H' x v l := by
  obtain ⟨m, h1, h2⟩ := h
  exact ⟨m, h1.fr hf hx hv, h2⟩
section TSS
variable {Z : gZ} {H : gH} {x v bc bs : Nat} {ad : Nat → Nat} {t : Tl} {l u : List Nat}
theorem TS.nf (T : TS Z H x v ad t l) {H' : gH} (hf : Fr (fun _ => False) H H') : TS Z H' x v ad t l := by
  obtain ⟨h1, h2, h3⟩ := T
  refine ⟨h1.fr hf (fun z => z) (fun z => z), SimG.keep h2 (fun i hi => ?_), h3⟩
  obtain ⟨c, hc, -⟩ := sm_live h2 hi
  rw [hc, hf _ _ hc (fun z => z)]
theorem TS.step (T : TS Z H x v ad t l) {H' : gH} {v' m' : Nat} (s : sbH Z H' x v' m' u) (hm : m' ≤ 3002) (F : Fr (fun b => b = x ∨ b = v) H H') (hv : v' = v ∨ hpG H v' = none) : TS Z H' x v' ad t u := by
  obtain ⟨h1, h2, h3⟩ := T
  refine ⟨⟨m', s, hm⟩, SimG.keep h2 (fun i hi => ?_), fun i hi => ⟨?_, (h3 i hi).2⟩⟩
  · obtain ⟨c, hc, -⟩ := sm_live h2 hi
    rw [hc, F _ _ hc (fun z => z.elim (h3 i hi).2 (h3 i hi).1)]
  · rcases hv with rfl | hv
    · exact (h3 i hi).1
    · obtain ⟨c, hc, -⟩ := sm_live h2 hi
      exact ne_fresh hc hv
theorem ts_X {K : Nat → Nat → Nat → gH → Prop} {b : Nat} (T : TS Z H x v ad t l) (hs : stX Z H b u) (hl : l.length + u.length ≤ 1500) (hbc : 1 ≤ bc) (hbs : 3002 ≤ bs) (k : ∀ H' v', TS Z H' x v' ad t (l ++ u) → Fr (fun b => b = x ∨ b = v) H H' → (v' = v ∨ hpG H v' = none) → K 1 3002 x H') : (∃ fs, hpG H x = some (.inr (11, fs))) ∧ ∃ (c s : Nat), c ≤ bc ∧ s ≤ bs ∧ whJ4_append_15ec4 Z H c s x b (K c s) := by
  obtain ⟨m, h1, h2⟩ := T.1
  have h1' := h1
  obtain ⟨ml, f, e1, -⟩ := h1'
  obtain ⟨c1, c2⟩ := bd_cap hl h2
  exact ⟨⟨_, e1⟩, 1, 3002, hbc, hbs, hz_appX h1 hs (by omega) c2 (fun H' v' s F hv => k H' v' (TS.step T s c1 F hv) F hv)⟩
theorem ts_K {K : Nat → Nat → Nat → gH → Prop} {i : Nat} (hi : i < 52) (T : TS Z H x v ad t l) (hl : l.length + (kTl i).length ≤ 1500) (hbc : 1 ≤ bc) (hbs : 3002 ≤ bs) (k : ∀ H' v', TS Z H' x v' ad t (l ++ kTl i) → Fr (fun b => b = x ∨ b = v) H H' → (v' = v ∨ hpG H v' = none) → K 1 3002 x H') : (∃ fs, hpG H x = some (.inr (11, fs))) ∧ ∃ (c s : Nat), c ≤ bc ∧ s ≤ bs ∧ whJ4_append_15ec4 Z H c s x (Z.1 i) (K c s) := ts_X T (Or.inr ⟨i, hi, rfl, rfl⟩) hl hbc hbs k
theorem ts_I {K : Nat → Nat → Nat → gH → Prop} {y : Nat} (hy : y < 1000000) (T : TS Z H x v ad t l) (hl : l.length + 7 ≤ 1500) (hbc : 1 ≤ bc) (hbs : 3002 ≤ bs) (k : ∀ H' v', TS Z H' x v' ad t (l ++ decL y) → Fr (fun b => b = x ∨ b = v) H H' → (v' = v ∨ hpG H v' = none) → K 1 3002 x H') : (∃ fs, hpG H x = some (.inr (11, fs))) ∧ ∃ (c s : Nat), c ≤ bc ∧ s ≤ bs ∧ whJ4_append_bf812 Z H c s x (nI y) (K c s) := by
  obtain ⟨m, h1, h2⟩ := T.1
  have h1' := h1
  obtain ⟨ml, f, e1, -⟩ := h1'
  have d6 := (dg6 hy).2
  obtain ⟨c1, c2⟩ := bd_cap (q := l.length + sb_dg y) (by omega) h2
  exact ⟨⟨_, e1⟩, 1, 3002, hbc, hbs, hz_appI h1 (by omega) (by omega) c2 (fun H' v' s F hv => k H' v' (TS.step T s c1 F hv) F hv)⟩
/-- a String of its own keeps while the text grows -/
theorem st_keep {r w v' : Nat} {H' : gH} (T : TS Z H x v ad t l) (h : stD Z H r w u) (hw : w ≠ v) (F : Fr (fun b => b = x ∨ b = v) H H') (hv : v' = v ∨ hpG H v' = none) : stD Z H' r w u ∧ w ≠ v' := by
  obtain ⟨⟨m, ⟨ml, f, e1, e2, -⟩, -⟩, -⟩ := T
  have h' := h
  obtain ⟨h1, h2, g, g1, g2, -⟩ := h'
  have rx : r ≠ x := ne_of_cells g1 e1 (by simp)
  have rv : r ≠ v := ne_of_cells g1 e2 (by simp)
  have wx : w ≠ x := ne_of_cells g2 e1 (by simp)
  refine ⟨h.fr F (fun z => z.elim rx rv) (fun z => z.elim wx hw), ?_⟩
  rcases hv with rfl | hv
  · exact hw
  · exact ne_fresh g2 hv
end TSS
theorem dL {v : Nat} (h : v < 1000000) : (decL v).length ≤ 6 := by
  rw [decL_len]
  exact (dg6 h).2
