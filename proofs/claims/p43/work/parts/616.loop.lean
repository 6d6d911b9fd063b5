/-! PURE: the law's own sofa: settling to the end, digging, props. -/
section SLP
variable {Z : gZ} {t : Tl} {pr : Nat → Bool} {fa : Nat → Nat}
theorem uA_7 {t : Tl} {i : Nat} (h : i ≤ 7) : uA t i := Or.inl h
theorem uA_s {t : Tl} {i : Nat} (h : i < tN t) : uA t (10 + i) := Or.inr (Or.inl ⟨by omega, by omega⟩)
theorem uA_e {t : Tl} {i : Nat} (h : i < tE t) : uA t (20 + i) := Or.inr (Or.inr (Or.inl ⟨by omega, by omega⟩))
theorem uA_f {t : Tl} {i : Nat} (h : i < tF t) : uA t (30 + i) := Or.inr (Or.inr (Or.inr (Or.inl ⟨by omega, by omega⟩)))
/-- the object's own numbers change -/
theorem sm_keep0 {H H' : gH} {ad : Nat → Nat} {a : Sg} {dy ca du sl dy' ca' du' sl' : Int32} (S : SimAt Z H ad t a pr fa dy ca du sl) (hk : ∀ i c, uA t i → i ≠ 0 → hpG H (ad i) = some c → hpG H' (ad i) = some c) (h0 : hpG H' (ad 0) = some (.inr (8, smV ad t dy' ca' du' sl'))) : SimAt Z H' ad t a pr fa dy' ca' du' sl' := by
  obtain ⟨-, ⟨f1, h1, h1'⟩, hR, hC, ⟨f2, h2, h2'⟩, hD, ⟨f3, h3, h3'⟩, hG, ⟨f4, h4, h4'⟩, ⟨hI, hL⟩, ht⟩ := S
  refine ⟨h0, ⟨f1, hk 1 _ (uA_7 (by omega)) (by omega) h1, h1'⟩, fun s hs => ?_, fun c hc => ?_, ⟨f2, hk 2 _ (uA_7 (by omega)) (by omega) h2, h2'⟩, fun i hi => ?_, ⟨f3, hk 3 _ (uA_7 (by omega)) (by omega) h3, h3'⟩, fun i hi => ?_, ⟨f4, hk 4 _ (uA_7 (by omega)) (by omega) h4, h4'⟩, ⟨hI, fun i h5 h7 => ?_⟩, ht⟩
  · obtain ⟨f, e1, e2⟩ := hR s hs
    exact ⟨f, hk _ _ (uA_s hs) (by omega) e1, e2⟩
  · obtain ⟨f, e1, e2⟩ := hC c hc
    exact ⟨f, hk _ _ (uA_c hc) (by omega) e1, e2⟩
  · obtain ⟨f, e1, e2⟩ := hD i hi
    exact ⟨f, hk _ _ (uA_f hi) (by omega) e1, e2⟩
  · obtain ⟨f, e1, e2⟩ := hG i hi
    exact ⟨f, hk _ _ (uA_e hi) (by omega) e1, e2⟩
  · obtain ⟨c, e1⟩ := hL i h5 h7
    exact ⟨c, hk _ _ (uA_7 h7) (by omega) e1⟩
theorem sm_set0 {H : gH} {ad : Nat → Nat} {a : Sg} {dy ca du sl : Int32} (dy' ca' du' sl' : Int32) (S : SimAt Z H ad t a pr fa dy ca du sl) : SimAt Z (hpS H (ad 0) (.inr (8, smV ad t dy' ca' du' sl'))) ad t a pr fa dy' ca' du' sl' := by
  have S0 := S
  refine sm_keep0 S (fun i c hi hn h => ?_) (hpG_s S0.1)
  rw [hpG_sn (fun e => hn (S0.2.2.2.2.2.2.2.2.2.1.1 i 0 hi (uA_7 (by omega)) e))]
  exact h
theorem fr_set0 {H : gH} {ad : Nat → Nat} {e : va_E} : Fr (smX t ad) H (hpS H (ad 0) e) := Fr.s (Or.inl rfl)
theorem sm_settle_lp (wt : wfT t) {K : Int32 → gH → Prop} : ∀ (k : Nat) (a b : Sg) (H : gH) (ad : Nat → Nat) (dy ca du sl : Int32) (bc bs many : Nat), Stl (tSp t) pr (tN t) k a b → wfS (tN t) a → SimAt Z H ad t a pr fa dy ca du sl → 2 * k ≤ bc → 20 * k ≤ bs →
    (∀ H' ad', SimAt Z H' ad' t b pr fa dy ca du (sl + nI (many + k)) → Fr (smX t ad) H H' → (∀ i, i < 10 ∨ 20 ≤ i → ad' i = ad i) → K (nI (many + k)) H') →
    ∀ (m s : Nat), s + m = tN t → (∀ u, u < s → src (tSp t) pr a u = none) → ∀ fuel, m + 1 + k * (tN t + 1) ≤ fuel → wX9_settle_4 K Z fuel H bc bs (ad 0) (nI many) (nI s) := by
  intro k
  induction k with
  | zero =>
    intro a b H ad dy ca du sl bc bs many hst w S _ _ fin m
    obtain ⟨hno, rfl⟩ := hst
    have n8 := wt.1.2
    obtain ⟨f, h1, hf⟩ := S.2.1
    have g1 := gF_of (k := 1) S.1 (rfl : (smV ad t dy ca du sl)[1]? = some (.ref (ad 1)))
    induction m with
    | zero =>
      intro s hs _ fuel hfu
      obtain ⟨f9, rfl⟩ : ∃ f9, fuel = f9 + 1 := ⟨fuel - 1, by omega⟩
      rw [wX9_settle_4]
      refine ⟨_, g1, _, f, h1, br_t (nI_le (by omega) (by omega)) ⟨sl, gF_of S.1 rfl, _, S.1, by simp, ?_⟩⟩
      exact fin _ ad (sm_set0 dy ca du (sl + nI many) S) fr_set0 (fun _ _ => rfl)
    | succ m ih =>
      intro s hs hp fuel hfu
      obtain ⟨f9, rfl⟩ : ∃ f9, fuel = f9 + 1 := ⟨fuel - 1, by omega⟩
      have hs' : s < tN t := by omega
      have e0 := hno s hs'
      obtain ⟨c1, c2⟩ := src_none e0
      have nx : wX9_settle_48 K (wX9_settle_4 K Z f9) Z H bc bs (ad 0) (nI many) (nI s) (-1) := by
        unfold wX9_settle_48
        refine br_f (by decide) ?_
        rw [show nI s + 1 = nI (s + 1) from nI_add s 1]
        refine ih (s + 1) (by omega) (fun u hu => ?_) f9 (by omega)
        by_cases z : u = s
        · rw [z]; exact e0
        · exact hp u (by omega)
      rw [wX9_settle_4]
      refine ⟨_, g1, _, f, h1, br_f (nI_ge (by omega) (by omega)) ⟨⟨_, S.1⟩, ?_⟩⟩
      have two : (∃ fs, hpG H (ad 0) = some (.inr (8, fs))) ∧ wX9_slidesOnto Z H (ad 0) (nI s) (nI s + 1) (fun r12 => ((r12 = 0 → wX9_settle_48 K (wX9_settle_4 K Z f9) Z H bc bs (ad 0) (nI many) (nI s) (-1)) ∧ (¬ r12 = 0 → wX9_settle_48 K (wX9_settle_4 K Z f9) Z H bc bs (ad 0) (nI many) (nI s) (nI s + 1)))) := by
        refine ⟨⟨_, S.1⟩, ?_⟩
        rw [show nI s + 1 = nI (s + 1) from nI_add s 1]
        refine sm_slidesOnto S wt w hs' (by omega) ?_
        rw [c2]
        exact br_t rfl nx
      by_cases z : s = 0
      · subst z
        exact sm_slidesOnto_neg (show nI 0 - 1 < 0 by decide) (br_t rfl two)
      · rw [nI_dec (show 0 < s by omega)]
        refine sm_slidesOnto S wt w hs' (by omega) ?_
        rw [show cs (tSp t) pr b.1 b.2.1 (s - 1) s = false by simpa [z] using c1]
        exact br_t rfl two
  | succ k ihk =>
    intro a b H ad dy ca du sl bc bs many hst w S hbc hbs fin m
    have n8 := wt.1.2
    obtain ⟨f, h1, hf⟩ := S.2.1
    have g1 := gF_of (k := 1) S.1 (rfl : (smV ad t dy ca du sl)[1]? = some (.ref (ad 1)))
    obtain ⟨s1, o1, hs1, hmin, hsrc, hst'⟩ := hst
    have hmul : (k + 1) * (tN t + 1) = k * (tN t + 1) + (tN t + 1) := Nat.succ_mul _ _
    induction m with
    | zero =>
      intro s hs hp fuel hfu
      have := hp s1 (by omega)
      rw [hsrc] at this
      cases this
    | succ m ih =>
      intro s hs hp fuel hfu
      obtain ⟨f9, rfl⟩ : ∃ f9, fuel = f9 + 1 := ⟨fuel - 1, by omega⟩
      have hs' : s < tN t := by omega
      -- one slide onto s
      have slide : ∀ o, src (tSp t) pr a s = some o → wX9_settle_48 K (wX9_settle_4 K Z f9) Z H bc bs (ad 0) (nI many) (nI s) (nI o) := fun o eo => by
        have es : s1 = s := by
          rcases Nat.lt_trichotomy s1 s with z | z | z
          · have := hp s1 z
            rw [hsrc] at this
            cases this
          · exact z
          · have := hmin s z
            rw [eo] at this
            cases this
        subst es
        obtain rfl : o1 = o := Option.some.inj (hsrc.symm.trans eo)
        obtain ⟨ne, ho, hq⟩ := mv_ne w eo
        refine sm_move S wt w hs' ho ne hq (by omega) (by omega) (fun H' ad' S' F' ea => ?_)
        rw [show nI many + 1 = nI (many + 1) from nI_add many 1, ← ea 0 (by omega)]
        refine ihk (mv a o1 s1) b H' ad' dy ca du sl _ _ (many + 1) hst' (wf_mv w hs' ho ne hq) S' (by omega) (by omega) (fun H'' ad'' S'' F'' ea2 => ?_) (tN t) 0 (by omega) (fun u hu => absurd hu (Nat.not_lt_zero u)) f9 (by omega)
        rw [show many + 1 + k = many + (k + 1) by omega] at S'' ⊢
        exact fin H'' ad'' S'' (F'.trans (F''.mono (fun b hb => (smX_eq ea).mp hb))) (fun i hi => (ea2 i hi).trans (ea i hi))
      have on : src (tSp t) pr a s = none → wX9_settle_48 K (wX9_settle_4 K Z f9) Z H bc bs (ad 0) (nI many) (nI s) (-1) := fun e0 => by
        unfold wX9_settle_48
        refine br_f (by decide) ?_
        rw [show nI s + 1 = nI (s + 1) from nI_add s 1]
        refine ih (s + 1) (by omega) (fun u hu => ?_) f9 (by omega)
        by_cases z : u = s
        · rw [z]; exact e0
        · exact hp u (by omega)
      rw [wX9_settle_4]
      refine ⟨_, g1, _, f, h1, br_f (nI_ge (by omega) (by omega)) ⟨⟨_, S.1⟩, ?_⟩⟩
      have two : ¬ (s ≠ 0 ∧ cs (tSp t) pr a.1 a.2.1 (s - 1) s = true) → (∃ fs, hpG H (ad 0) = some (.inr (8, fs))) ∧ wX9_slidesOnto Z H (ad 0) (nI s) (nI s + 1) (fun r12 => ((r12 = 0 → wX9_settle_48 K (wX9_settle_4 K Z f9) Z H bc bs (ad 0) (nI many) (nI s) (-1)) ∧ (¬ r12 = 0 → wX9_settle_48 K (wX9_settle_4 K Z f9) Z H bc bs (ad 0) (nI many) (nI s) (nI s + 1)))) := by
        intro hn
        refine ⟨⟨_, S.1⟩, ?_⟩
        rw [show nI s + 1 = nI (s + 1) from nI_add s 1]
        refine sm_slidesOnto S wt w hs' (by omega) ?_
        cases ec : cs (tSp t) pr a.1 a.2.1 (s + 1) s
        · exact br_t rfl (on (by unfold src; rw [if_neg hn, if_neg (by rw [ec]; decide)]))
        · exact br_f (by decide) (slide (s + 1) (by unfold src; rw [if_neg hn, if_pos ec]))
      by_cases z : s = 0
      · subst z
        exact sm_slidesOnto_neg (show nI 0 - 1 < 0 by decide) (br_t rfl (two (fun h => h.1 rfl)))
      · rw [nI_dec (show 0 < s by omega)]
        refine sm_slidesOnto S wt w hs' (by omega) ?_
        cases ec : cs (tSp t) pr a.1 a.2.1 (s - 1) s
        · exact br_t rfl (two (fun h => by rw [ec] at h; exact absurd h.2 (by decide)))
        · exact br_f (by decide) (slide (s - 1) (by unfold src; rw [if_pos ⟨z, ec⟩]))
/-- settling -/
theorem sm_settle_ex (wt : wfT t) {K : Int32 → gH → Prop} {k : Nat} {a b : Sg} {H : gH} {ad : Nat → Nat} {dy ca du sl : Int32} {bc bs : Nat} (hst : Stl (tSp t) pr (tN t) k a b) (w : wfS (tN t) a) (S : SimAt Z H ad t a pr fa dy ca du sl) (hbc : 2 * k ≤ bc) (hbs : 20 * k ≤ bs)
    (fin : ∀ H' ad', SimAt Z H' ad' t b pr fa dy ca du (sl + nI k) → Fr (smX t ad) H H' → (∀ i, i < 10 ∨ 20 ≤ i → ad' i = ad i) → K (nI k) H') : wX9_settle Z H bc bs (ad 0) K := by
  unfold wX9_settle
  refine ⟨_, sm_settle_lp wt k a b H ad dy ca du sl bc bs 0 hst w S hbc hbs (fun H' ad' S' F' ea => ?_) (tN t) 0 (by omega) (fun u hu => absurd hu (Nat.not_lt_zero u)) _ (Nat.le_refl _)⟩
  rw [show 0 + k = k by omega] at S' ⊢
  exact fin H' ad' S' F' ea
end SLP
