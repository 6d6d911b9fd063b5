/-! what is told, the game's state; digging, both -/
abbrev Tl : Type := (Nat × Nat × Nat × Nat) × (Nat → Nat) × (Nat → Option Nat) × (Nat → Bool) × (Nat → Bool) × (Nat → Int32) × (Nat → Int32) × (Nat → Int32)
abbrev tN (t : Tl) : Nat := t.1.1
abbrev tM (t : Tl) : Nat := t.1.2.1
abbrev tE (t : Tl) : Nat := t.1.2.2.1
abbrev tF (t : Tl) : Nat := t.1.2.2.2
abbrev tCu (t : Tl) : Nat → Nat := t.2.1
abbrev tFi (t : Tl) : Nat → Option Nat := t.2.2.1
abbrev tSp (t : Tl) : Nat → Bool := t.2.2.2.1
abbrev tCo (t : Tl) : Nat → Bool := t.2.2.2.2.1
abbrev tDe (t : Tl) : Nat → Int32 := t.2.2.2.2.2.1
abbrev tFr (t : Tl) : Nat → Int32 := t.2.2.2.2.2.2.1
abbrev tTo (t : Tl) : Nat → Int32 := t.2.2.2.2.2.2.2
def fI (o : Option Nat) : Int32 := match o with | none => -1 | some f => nI f
def wfT (t : Tl) : Prop := (2 ≤ tN t ∧ tN t ≤ 8) ∧ (2 ≤ tM t ∧ tM t ≤ 10) ∧ tE t ≤ 6 ∧ tF t ≤ 24 ∧ (∀ f, f < tF t → tCu t f < 80 ∧ tFi t (tCu t f) = some f ∧ tCu t f % 10 < tM t ∧ tCu t f / 10 < tN t) ∧ (∀ c f, c < 80 → tFi t c = some f → f < tF t ∧ tCu t f = c) ∧ (∀ f, f < tF t → tCo t f = false → ∃ e, e < tE t ∧ tDe t f = nI e)
/-- the told things in arrays: the class's or the model's -/
def rT (t : Tl) (seats strata empires finds : Int32) (coins cushions details findsIn springs froms tos : Nat → Int32) : Prop :=
  (seats = nI (tN t) ∧ strata = nI (tM t) ∧ empires = nI (tE t) ∧ finds = nI (tF t)) ∧ rB (tF t) coins (tCo t) ∧ rN (tF t) cushions (tCu t) ∧ (∀ f, f < tF t → details f = tDe t f) ∧ (∀ c, c < 80 → findsIn c = fI (tFi t c)) ∧ rB 80 springs (tSp t) ∧ (∀ e, e < tE t → froms e = tFr t e) ∧ (∀ e, e < tE t → tos e = tTo t e)
def wfG (t : Tl) (a : Sg) (pr : Nat → Bool) (fa : Nat → Nat) : Prop :=
  wfS (tN t) a ∧ (∀ s j f, j < a.2.1 s → tFi t (a.1 (s * 10 + j)) = some f → fa f = 0) ∧ (∀ s j s' j', j < a.2.1 s → j' < a.2.1 s' → a.1 (s * 10 + j) = a.1 (s' * 10 + j') → s = s' ∧ j = j') ∧
  (∀ f, f < tF t → fa f = 0 → ∃ s j, s < tN t ∧ j < a.2.1 s ∧ a.1 (s * 10 + j) = tCu t f) ∧ (∀ s, tN t ≤ s → pr s = false) ∧ (∀ f, tF t ≤ f → fa f = 0) ∧ ∀ f, fa f ≤ 2
def tp (a : Sg) (s : Nat) : Nat := a.1 (s * 10 + (a.2.1 s - 1))
def dg1 (a : Sg) (s : Nat) : Sg := (a.1, va_up a.2.1 s (a.2.1 s - 1), a.2.2)
def dgF (t : Tl) (a : Sg) (fa : Nat → Nat) (s : Nat) : Nat → Nat :=
  match tFi t (tp a s) with
  | none => fa
  | some f => va_up fa f (if a.2.2 (tp a s) = true then 1 else 2)
theorem lv_mv {n : Nat} {a : Sg} (w : wfS n a) {s o : Nat} (ne : o ≠ s) (q : a.2.1 s + 3 < a.2.1 o) {t j : Nat} (hj : j < (mv a o s).2.1 t) :
    (t = s ∧ j = a.2.1 s ∧ (mv a o s).1 (t * 10 + j) = a.1 (o * 10 + (a.2.1 o - 1))) ∨ (¬ (t = s ∧ j = a.2.1 s) ∧ j < a.2.1 t ∧ (t = o → j < a.2.1 o - 1) ∧ (mv a o s).1 (t * 10 + j) = a.1 (t * 10 + j)) := by
  have b1 := w.1 o
  have b2 := w.1 s
  have b3 := w.1 t
  have hj : j < va_up (va_up a.2.1 o (a.2.1 o - 1)) s (a.2.1 s + 1) t := hj
  show (t = s ∧ j = a.2.1 s ∧ va_up a.1 (s * 10 + a.2.1 s) (a.1 (o * 10 + (a.2.1 o - 1))) (t * 10 + j) = a.1 (o * 10 + (a.2.1 o - 1))) ∨ (¬ (t = s ∧ j = a.2.1 s) ∧ j < a.2.1 t ∧ (t = o → j < a.2.1 o - 1) ∧ va_up a.1 (s * 10 + a.2.1 s) (a.1 (o * 10 + (a.2.1 o - 1))) (t * 10 + j) = a.1 (t * 10 + j))
  by_cases c : t = s ∧ j = a.2.1 s
  · obtain ⟨rfl, rfl⟩ := c
    exact Or.inl ⟨rfl, rfl, va_up_self _ _ _⟩
  · refine Or.inr ⟨c, ?_⟩
    have h1 : j < a.2.1 t ∧ (t = o → j < a.2.1 o - 1) := by
      by_cases e : t = s
      · subst e
        rw [va_up_self] at hj
        exact ⟨by have : j ≠ a.2.1 t := fun z => c ⟨rfl, z⟩
                  omega, fun z => absurd z.symm ne⟩
      · rw [va_up_ne _ _ e] at hj
        by_cases e2 : t = o
        · subst e2
          rw [va_up_self] at hj
          exact ⟨by omega, fun _ => hj⟩
        · rw [va_up_ne _ _ e2] at hj
          exact ⟨hj, fun z => absurd z e2⟩
    refine ⟨h1.1, h1.2, va_up_ne _ _ ?_⟩
    intro z
    exact c (by omega)
theorem wfG_mv {t : Tl} {a : Sg} {pr : Nat → Bool} {fa : Nat → Nat} (w : wfG t a pr fa) {s o : Nat} (hs : s < tN t) (ho : o < tN t) (ne : o ≠ s) (q : a.2.1 s + 3 < a.2.1 o) : wfG t (mv a o s) pr fa := by
  obtain ⟨w1, w2, w3, w4, w5⟩ := w
  refine ⟨wf_mv w1 hs ho ne q, fun t' j f hj hf => ?_, fun t1 j1 t2 j2 h1 h2 he => ?_, fun f hf h0 => ?_, w5⟩
  · rcases lv_mv w1 ne q hj with ⟨e1, e2, e3⟩ | ⟨e1, e2, e3, e4⟩
    · rw [e3] at hf
      exact w2 o (a.2.1 o - 1) f (by omega) hf
    · rw [e4] at hf
      exact w2 t' j f e2 hf
  · rcases lv_mv w1 ne q h1 with ⟨e1, e2, e3⟩ | ⟨e1, e2, e3, e4⟩
    · rcases lv_mv w1 ne q h2 with ⟨f1, f2, f3⟩ | ⟨f1, f2, f3, f4⟩
      · exact ⟨by omega, by omega⟩
      · rw [e3, f4] at he
        obtain ⟨g1, g2⟩ := w3 o (a.2.1 o - 1) t2 j2 (by omega) f2 he
        have := f3 g1.symm
        omega
    · rcases lv_mv w1 ne q h2 with ⟨f1, f2, f3⟩ | ⟨f1, f2, f3, f4⟩
      · rw [e4, f3] at he
        obtain ⟨g1, g2⟩ := w3 t1 j1 o (a.2.1 o - 1) e2 (by omega) he
        have := e3 g1
        omega
      · rw [e4, f4] at he
        exact w3 t1 j1 t2 j2 e2 f2 he
  · obtain ⟨t', j, ht, hj, hv⟩ := w4 f hf h0
    have b2 := w1.1 s
    have b3 := w1.1 t'
    have b4 := w1.1 o
    by_cases c : t' = o ∧ j = a.2.1 o - 1
    · obtain ⟨rfl, rfl⟩ := c
      refine ⟨s, a.2.1 s, hs, ?_, ?_⟩
      · show a.2.1 s < va_up (va_up a.2.1 t' (a.2.1 t' - 1)) s (a.2.1 s + 1) s
        rw [va_up_self]; omega
      · show va_up a.1 (s * 10 + a.2.1 s) _ (s * 10 + a.2.1 s) = _
        rw [va_up_self]; exact hv
    · refine ⟨t', j, ht, ?_, ?_⟩
      · show j < va_up (va_up a.2.1 o (a.2.1 o - 1)) s (a.2.1 s + 1) t'
        by_cases e : t' = s
        · subst e
          rw [va_up_self]; omega
        · rw [va_up_ne _ _ e]
          by_cases e2 : t' = o
          · subst e2
            rw [va_up_self]
            have : j ≠ a.2.1 t' - 1 := fun z => c ⟨rfl, z⟩
            omega
          · rw [va_up_ne _ _ e2]; exact hj
      · show va_up a.1 (s * 10 + a.2.1 s) _ (t' * 10 + j) = _
        rw [va_up_ne _ _ (by
          intro z
          have z1 : t' = s := by omega
          subst z1
          omega)]
        exact hv
theorem wfG_stl {t : Tl} {pr : Nat → Bool} {fa : Nat → Nat} : ∀ (k : Nat) (a b : Sg), Stl (tSp t) pr (tN t) k a b → wfG t a pr fa → wfG t b pr fa := by
  intro k
  induction k with
  | zero => intro a b h w; rw [h.2]; exact w
  | succ k ih =>
    intro a b h w
    obtain ⟨s, o, hs, hp, e, h⟩ := h
    obtain ⟨c1, c2, c3⟩ := mv_ne w.1 e
    exact ih _ b h (wfG_mv w hs c2 c1 c3)
theorem wfG_dg {t : Tl} (wt : wfT t) {a : Sg} {pr : Nat → Bool} {fa : Nat → Nat} (w : wfG t a pr fa) {s : Nat} (hs : s < tN t) (h0 : 0 < a.2.1 s) : wfG t (dg1 a s) pr (dgF t a fa s) := by
  obtain ⟨w1, w2, w3, w4, w5, w6, w7⟩ := w
  have lv : ∀ {s' j : Nat}, j < (dg1 a s).2.1 s' → j < a.2.1 s' ∧ (s' = s → j < a.2.1 s - 1) := by
    intro s' j hj
    have hj : j < va_up a.2.1 s (a.2.1 s - 1) s' := hj
    by_cases e : s' = s
    · subst e
      rw [va_up_self] at hj
      exact ⟨by omega, fun _ => hj⟩
    · rw [va_up_ne _ _ e] at hj
      exact ⟨hj, fun z => absurd z e⟩
  have hc : tp a s < 80 := w1.2.2 s _ (by omega)
  have F : ∀ g, dgF t a fa s g = fa g ∨ (tFi t (tp a s) = some g ∧ dgF t a fa s g ≤ 2 ∧ dgF t a fa s g ≠ 0) := by
    intro g
    unfold dgF
    rcases e : tFi t (tp a s) with _ | f
    · exact Or.inl rfl
    · show va_up fa f _ g = fa g ∨ _
      by_cases z : g = f
      · subst z
        refine Or.inr ⟨rfl, ?_⟩
        show va_up fa g _ g ≤ 2 ∧ va_up fa g _ g ≠ 0
        rw [va_up_self]
        split <;> omega
      · exact Or.inl (va_up_ne _ _ z)
  refine ⟨⟨fun t' => ?_, fun t' ht => ?_, fun t' j hj => w1.2.2 t' j (lv hj).1⟩, fun t' j f hj hf => ?_, fun t1 j1 t2 j2 h1 h2 he => w3 t1 j1 t2 j2 (lv h1).1 (lv h2).1 he, fun f hf hz => ?_, w5, fun f hf => ?_, fun f => ?_⟩
  · show va_up a.2.1 s (a.2.1 s - 1) t' ≤ 10
    have := w1.1 t'
    unfold va_up
    split
    · have := w1.1 s; omega
    · exact this
  · show va_up a.2.1 s (a.2.1 s - 1) t' = 0
    rw [va_up_ne _ _ (by omega)]
    exact w1.2.1 t' ht
  · have hv : a.1 (t' * 10 + j) < 80 := w1.2.2 t' j (lv hj).1
    have hf : tFi t (a.1 (t' * 10 + j)) = some f := hf
    rcases F f with z | ⟨z, -, -⟩
    · rw [z]; exact w2 t' j f (lv hj).1 hf
    · have e1 := (wt.2.2.2.2.2.1 _ _ hv hf).2
      have e2 := (wt.2.2.2.2.2.1 _ _ hc z).2
      obtain ⟨g1, g2⟩ := w3 t' j s (a.2.1 s - 1) (lv hj).1 (by omega) (e1.symm.trans e2)
      have := (lv hj).2 g1
      omega
  · rcases F f with z | ⟨-, -, z⟩
    · rw [z] at hz
      obtain ⟨t', j, ht, hj, hv⟩ := w4 f hf hz
      refine ⟨t', j, ht, ?_, hv⟩
      show j < va_up a.2.1 s (a.2.1 s - 1) t'
      by_cases e : t' = s
      · subst e
        rw [va_up_self]
        rcases Nat.lt_or_ge j (a.2.1 t' - 1) with z2 | z2
        · exact z2
        · exfalso
          have e3 : j = a.2.1 t' - 1 := by omega
          rw [e3] at hv
          have hfi := (wt.2.2.2.2.1 f hf).2.1
          rw [← hv] at hfi
          have hne : dgF t a fa t' f ≠ 0 := by
            unfold dgF
            have hfi : tFi t (tp a t') = some f := hfi
            rw [hfi]
            show va_up fa f _ f ≠ 0
            rw [va_up_self]
            split <;> omega
          rw [z] at hne
          exact hne hz
      · rw [va_up_ne _ _ e]; exact hj
    · exact absurd hz z
  · rcases F f with z | ⟨z, -, -⟩
    · rw [z]; exact w6 f hf
    · have := (wt.2.2.2.2.2.1 _ _ hc z).1
      omega
  · rcases F f with z | ⟨-, z, -⟩
    · rw [z]; exact w7 f
    · exact z
def rS (S H L P F U : Nat → Int32) (fc sc pc : Int32) (a : Sg) (pr : Nat → Bool) (fa : Nat → Nat) : Prop :=
  rN 80 S a.1 ∧ rN 8 H a.2.1 ∧ rB 80 L a.2.2 ∧ rB 8 P pr ∧ rB 24 F (fun f => decide (1 ≤ fa f)) ∧ rB 24 U (fun f => decide (fa f = 2)) ∧ fc = nI (fb_ct (fun f => decide (1 ≤ fa f)) 24) ∧ sc = nI (fb_ct (fun f => decide (fa f = 2)) 24) ∧ pc = nI (fb_ct pr 8)
