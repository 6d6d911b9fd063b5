/-! settling: its pure picture, and the class's own loop -/
abbrev Sg : Type := (Nat → Nat) × (Nat → Nat) × (Nat → Bool)
def src (sp pr : Nat → Bool) (a : Sg) (s : Nat) : Option Nat :=
  if s ≠ 0 ∧ cs sp pr a.1 a.2.1 (s - 1) s = true then some (s - 1) else if cs sp pr a.1 a.2.1 (s + 1) s = true then some (s + 1) else none
def mv (a : Sg) (o s : Nat) : Sg :=
  (va_up a.1 (s * 10 + a.2.1 s) (a.1 (o * 10 + (a.2.1 o - 1))), va_up (va_up a.2.1 o (a.2.1 o - 1)) s (a.2.1 s + 1), va_up a.2.2 (a.1 (o * 10 + (a.2.1 o - 1))) true)
def wfS (n : Nat) (a : Sg) : Prop := (∀ s, a.2.1 s ≤ 10) ∧ (∀ s, n ≤ s → a.2.1 s = 0) ∧ ∀ s j, j < a.2.1 s → a.1 (s * 10 + j) < 80
def Stl (sp pr : Nat → Bool) (n : Nat) : Nat → Sg → Sg → Prop
  | 0, a, b => (∀ s, s < n → src sp pr a s = none) ∧ b = a
  | k + 1, a, b => ∃ s o, s < n ∧ (∀ t, t < s → src sp pr a t = none) ∧ src sp pr a s = some o ∧ Stl sp pr n k (mv a o s) b
theorem cs_true {sp pr : Nat → Bool} {st h : Nat → Nat} {a b : Nat} (e : cs sp pr st h a b = true) : h b + 3 < h a ∧ pr a = false ∧ sp (st (a * 10 + (h a - 1))) = false := by
  unfold cs at e
  simp only [Bool.and_eq_true, decide_eq_true_eq, Bool.not_eq_true'] at e
  exact e
theorem src_some {sp pr : Nat → Bool} {a : Sg} {s o : Nat} (e : src sp pr a s = some o) : ((o + 1 = s ∧ cs sp pr a.1 a.2.1 o s = true) ∨ (o = s + 1 ∧ ¬ (s ≠ 0 ∧ cs sp pr a.1 a.2.1 (s - 1) s = true) ∧ cs sp pr a.1 a.2.1 o s = true)) := by
  unfold src at e
  by_cases c : s ≠ 0 ∧ cs sp pr a.1 a.2.1 (s - 1) s = true
  · rw [if_pos c] at e
    cases e
    exact Or.inl ⟨by omega, c.2⟩
  · rw [if_neg c] at e
    by_cases d : cs sp pr a.1 a.2.1 (s + 1) s = true
    · rw [if_pos d] at e
      cases e
      exact Or.inr ⟨rfl, c, d⟩
    · rw [if_neg d] at e
      cases e
theorem src_none {sp pr : Nat → Bool} {a : Sg} {s : Nat} (e : src sp pr a s = none) : (decide (s ≠ 0) && cs sp pr a.1 a.2.1 (s - 1) s) = false ∧ cs sp pr a.1 a.2.1 (s + 1) s = false := by
  unfold src at e
  by_cases c : s ≠ 0 ∧ cs sp pr a.1 a.2.1 (s - 1) s = true
  · rw [if_pos c] at e
    cases e
  · rw [if_neg c] at e
    by_cases d : cs sp pr a.1 a.2.1 (s + 1) s = true
    · rw [if_pos d] at e
      cases e
    · refine ⟨?_, by simpa using d⟩
      rw [Bool.and_eq_false_iff]
      by_cases z : s ≠ 0
      · right
        cases w : cs sp pr a.1 a.2.1 (s - 1) s
        · rfl
        · exact absurd ⟨z, w⟩ c
      · left; simpa using z
theorem mv_ne {sp pr : Nat → Bool} {n : Nat} {a : Sg} (w : wfS n a) {s o : Nat} (e : src sp pr a s = some o) : o ≠ s ∧ o < n ∧ a.2.1 s + 3 < a.2.1 o := by
  have h := src_some e
  have q : a.2.1 s + 3 < a.2.1 o := by
    rcases h with h | h
    · exact (cs_true h.2).1
    · exact (cs_true h.2.2).1
  refine ⟨by omega, ?_, q⟩
  rcases Nat.lt_or_ge o n with z | z
  · exact z
  · have := w.2.1 o z; omega
theorem wf_mv {n : Nat} {a : Sg} (w : wfS n a) {s o : Nat} (hs : s < n) (ho : o < n) (ne : o ≠ s) (q : a.2.1 s + 3 < a.2.1 o) : wfS n (mv a o s) := by
  obtain ⟨w1, w2, w3⟩ := w
  have b1 := w1 o
  refine ⟨fun t => ?_, fun t ht => ?_, fun t j hj => ?_⟩
  · show va_up (va_up a.2.1 o (a.2.1 o - 1)) s (a.2.1 s + 1) t ≤ 10
    have := w1 t
    unfold va_up
    split
    · omega
    · split <;> omega
  · show va_up (va_up a.2.1 o (a.2.1 o - 1)) s (a.2.1 s + 1) t = 0
    rw [va_up_ne _ _ (by omega), va_up_ne _ _ (by omega)]
    exact w2 t ht
  · show va_up a.1 (s * 10 + a.2.1 s) (a.1 (o * 10 + (a.2.1 o - 1))) (t * 10 + j) < 80
    have hj : j < va_up (va_up a.2.1 o (a.2.1 o - 1)) s (a.2.1 s + 1) t := hj
    by_cases c : t * 10 + j = s * 10 + a.2.1 s
    · rw [c, va_up_self]
      exact w3 o _ (by omega)
    · rw [va_up_ne _ _ c]
      apply w3
      by_cases e : t = s
      · subst e
        rw [va_up_self] at hj
        omega
      · rw [va_up_ne _ _ e] at hj
        by_cases e2 : t = o
        · subst e2
          rw [va_up_self] at hj
          omega
        · rw [va_up_ne _ _ e2] at hj
          exact hj
def muS1w (h : Nat → Nat) : Nat := fb_sm (fun j => h j * h j) 8
theorem mu_mv {a : Sg} {s o : Nat} (hs : s < 8) (ho : o < 8) (ne : o ≠ s) (q : a.2.1 s + 3 < a.2.1 o) : muS1w (mv a o s).2.1 + 1 ≤ muS1w a.2.1 := by
  have e : (fun j => (mv a o s).2.1 j * (mv a o s).2.1 j) = fun k => if k = s then (a.2.1 s + 1) * (a.2.1 s + 1) else (fun k => if k = o then (a.2.1 o - 1) * (a.2.1 o - 1) else (fun j => a.2.1 j * a.2.1 j) k) k := by
    funext k
    show va_up (va_up a.2.1 o (a.2.1 o - 1)) s (a.2.1 s + 1) k * va_up (va_up a.2.1 o (a.2.1 o - 1)) s (a.2.1 s + 1) k = _
    by_cases c : k = s
    · subst c
      rw [va_up_self, if_pos rfl]
    · rw [va_up_ne _ _ c, if_neg c]
      by_cases d : k = o
      · subst d
        rw [va_up_self]
        simp
      · rw [va_up_ne _ _ d]
        simp [d]
  unfold muS1w
  rw [e]
  have h1 := fb_sm_upd (fun k => if k = o then (a.2.1 o - 1) * (a.2.1 o - 1) else (fun j => a.2.1 j * a.2.1 j) k) ((a.2.1 s + 1) * (a.2.1 s + 1)) hs
  have h2 := fb_sm_upd (fun j => a.2.1 j * a.2.1 j) ((a.2.1 o - 1) * (a.2.1 o - 1)) ho
  dsimp only at h1 h2 ⊢
  rw [if_neg (Ne.symm ne)] at h1
  obtain ⟨m, hm⟩ : ∃ m, a.2.1 o = m + 1 := ⟨a.2.1 o - 1, by omega⟩
  have h4 : a.2.1 o * a.2.1 o = (m + 1) * (m + 1) := by rw [hm]
  have h5 : a.2.1 o - 1 = m := by omega
  rw [h4, h5] at h2
  rw [h5] at h1 ⊢
  have h6 : (m + 1) * (m + 1) = m * m + 2 * m + 1 := by
    rw [Nat.add_mul, Nat.mul_add, Nat.one_mul, Nat.mul_one]; omega
  have h7 : (a.2.1 s + 1) * (a.2.1 s + 1) = a.2.1 s * a.2.1 s + 2 * a.2.1 s + 1 := by
    rw [Nat.add_mul, Nat.mul_add, Nat.one_mul, Nat.mul_one]; omega
  rw [h6] at h2
  rw [h7] at h1 ⊢
  omega
theorem mu_le {n : Nat} {a : Sg} (w : wfS n a) : muS1w a.2.1 ≤ 800 := by
  have b : ∀ j, a.2.1 j * a.2.1 j ≤ 100 := fun j => Nat.mul_le_mul (w.1 j) (w.1 j)
  have b0 := b 0
  have b1 := b 1
  have b2 := b 2
  have b3 := b 3
  have b4 := b 4
  have b5 := b 5
  have b6 := b 6
  have b7 := b 7
  unfold muS1w
  simp only [fb_sm]
  omega
theorem stl_ex (sp pr : Nat → Bool) {n : Nat} (n8 : n ≤ 8) : ∀ (m : Nat) (a : Sg), wfS n a → muS1w a.2.1 ≤ m → ∃ k b, Stl sp pr n k a b ∧ wfS n b ∧ k ≤ m := by
  intro m
  induction m with
  | zero =>
    intro a w hm
    refine ⟨0, a, ⟨fun s hs => ?_, rfl⟩, w, Nat.le_refl _⟩
    rcases e : src sp pr a s with _ | o
    · rfl
    · obtain ⟨c1, c2, c3⟩ := mv_ne w e
      have := mu_mv (a := a) (s := s) (o := o) (by omega) (by omega) c1 c3
      omega
  | succ m ih =>
    intro a w hm
    by_cases hx : ∃ s, s < n ∧ src sp pr a s ≠ none
    · obtain ⟨s, ⟨hs, hne⟩, hl⟩ := pk_least (fun s => s < n ∧ src sp pr a s ≠ none) hx
      rcases e : src sp pr a s with _ | o
      · exact absurd e hne
      · obtain ⟨c1, c2, c3⟩ := mv_ne w e
        have hmu := mu_mv (a := a) (s := s) (o := o) (by omega) (by omega) c1 c3
        obtain ⟨k, b, h1, h2, h3⟩ := ih (mv a o s) (wf_mv w hs c2 c1 c3) (by omega)
        refine ⟨k + 1, b, ⟨s, o, hs, fun t ht => ?_, e, h1⟩, h2, by omega⟩
        have := hl t ht
        rcases z : src sp pr a t with _ | y
        · rfl
        · exact absurd ⟨by omega, by rw [z]; exact Option.some_ne_none y⟩ this
    · refine ⟨0, a, ⟨fun s hs => ?_, rfl⟩, w, Nat.zero_le _⟩
      rcases z : src sp pr a s with _ | y
      · rfl
      · exact absurd ⟨s, hs, by rw [z]; exact Option.some_ne_none y⟩ hx
theorem nI_dec {n : Nat} (h : 0 < n) : nI n - 1 = nI (n - 1) := by
  obtain ⟨m, rfl⟩ : ∃ m, n = m + 1 := ⟨n - 1, by omega⟩
  exact nI_pred m
section SETTLE
variable {S H P T L : Nat → Int32} {sl : Int32} {pr sp : Nat → Bool} {n : Nat} {a : Sg}
theorem sz_moveTopE {K : ((Nat → Int32) × (Nat → Int32) × (Nat → Int32) × Int32) → Prop} (n8 : n ≤ 8) (w : wfS n a) (rs : rN 80 S a.1) (rh : rN 8 H a.2.1) {o s : Nat} (ho : o < n) (hs : s < n) (q : a.2.1 s + 3 < a.2.1 o)
    (k : K (upd S (s * 10 + a.2.1 s) (nI (a.1 (o * 10 + (a.2.1 o - 1)))), upd (upd H o (nI (a.2.1 o - 1))) s (nI (a.2.1 s + 1)), upd L (a.1 (o * 10 + (a.2.1 o - 1))) 1, sl + 1)) : wX4_moveTop S H L sl (nI o) (nI s) K := by
  have h8 : ∀ s, 8 ≤ s → a.2.1 s = 0 := fun s z => w.2.1 s (by omega)
  have b1 := w.1 o
  have b2 := w.1 s
  have hc := w.2.2 o (a.2.1 o - 1) (by omega)
  unfold wX4_moveTop
  refine sz_heightAt rh h8 (by omega) (sz_heightAt rh h8 (by omega) ?_)
  rw [nI_dec (by omega)]
  refine sz_cushionAt rs (by omega) (by omega) ?_
  have e : nI s * 10 + nI (a.2.1 s) = nI (s * 10 + a.2.1 s) := by
    rw [show (10 : Int32) = nI 10 from rfl, pk_mul, nI_add]
  rw [e]
  refine br_f (nI_pos (by omega)) (br_f (nI_ge hc (by decide)) (br_f (nI_pos (by omega)) (br_f (nI_ge (b := 8) (by omega) (by decide)) (br_f (nI_ge (b := 10) (by omega) (by decide)) ⟨vp_in_nI (by omega) (by decide), vp_in_nI (by omega) (by decide), vp_in_nI (by omega) (by decide), vp_in_nI (by omega) (by decide), vp_in_nI hc (by decide), ?_⟩))))
  rw [nI_clamp (by omega), nI_clamp (by omega), nI_clamp (by omega), nI_clamp (by omega), rh o (by omega), nI_dec (by omega), nI_1]
  exact k
theorem sz_from {K : Int32 → Unit → Prop} (n8 : n ≤ 8) (w : wfS n a) (rs : rN 80 S a.1) (rh : rN 8 H a.2.1) (rp : rB 8 P pr) (rt : rB 80 T sp) {s : Nat} (hs : s < n) (k : K (zB1w (decide (s ≠ 0) && cs sp pr a.1 a.2.1 (s - 1) s)) ()) : wX4_slidesOnto T S H P (nI s - 1) (nI s) K := by
  have h8 : ∀ s, 8 ≤ s → a.2.1 s = 0 := fun s z => w.2.1 s (by omega)
  rcases Nat.eq_zero_or_pos s with z | z
  · subst z
    exact sz_slidesOnto_neg rh h8 w.1 (by decide) (by omega) k
  · rw [nI_dec z]
    refine sz_slidesOnto rs rh rp rt h8 w.1 w.2.2 (by omega) (by omega) ?_
    have e : decide (s ≠ 0) = true := by simp; omega
    rw [e, Bool.true_and] at k
    exact k
theorem sz_settle_loop {K : ((Nat → Int32) × (Nat → Int32) × (Nat → Int32) × Int32) → Prop} (n8 : n ≤ 8) (rp : rB 8 P pr) (rt : rB 80 T sp) :
    ∀ (k : Nat) (a b : Sg) (sl : Int32), Stl sp pr n k a b → wfS n a → ∀ (S H L : Nat → Int32), rN 80 S a.1 → rN 8 H a.2.1 → rB 80 L a.2.2 →
    (∀ S' H' L', rN 80 S' b.1 → rN 8 H' b.2.1 → rB 80 L' b.2.2 → K (S', H', L', sl + nI k)) →
    ∀ (d s x : Nat), s + d = n → (∀ t, t < s → src sp pr a t = none) → x + k * 20 + d ≤ 900000 → ∃ m, wX4_settle_4 K (nI n) T P m S H L sl (nI s) (nI x) := by
  intro k
  induction k with
  | zero =>
    intro a b sl hst w S H L rs rh rl kk d
    obtain ⟨hn, hb⟩ := hst
    subst hb
    induction d with
    | zero =>
      intro s x hd hpre hx
      have : s = n := by omega
      subst this
      refine ⟨1, ?_⟩
      unfold wX4_settle_4
      refine br_f (nI_ge (b := 1000000) (by omega) (by decide)) (br_t (nI_le (Nat.le_refl _) (by omega)) ?_)
      have := kk S H L rs rh rl
      rw [nI_0, Int32.add_zero] at this
      exact this
    | succ d ih =>
      intro s x hd hpre hx
      have e := hn s (by omega)
      obtain ⟨e1, e2⟩ := src_none e
      obtain ⟨m, hm⟩ := ih (s + 1) (x + 1) (by omega) (fun t ht => hn t (by omega)) (by omega)
      refine ⟨m + 1, ?_⟩
      unfold wX4_settle_4
      refine br_f (nI_ge (b := 1000000) (by omega) (by decide)) (br_f (nI_ge (by omega) (by omega)) (sz_from n8 w rs rh rp rt (by omega) (br_t (by rw [e1]; rfl) ?_)))
      rw [nI_1]
      refine sz_slidesOnto rs rh rp rt (fun s z => w.2.1 s (by omega)) w.1 w.2.2 (by omega) (by omega) (br_t (by rw [e2]; rfl) ?_)
      unfold wX4_settle_72
      rw [nI_1]
      exact hm
  | succ k ihk =>
    intro a b sl hst w S H L rs rh rl kk d
    obtain ⟨s1, o, hs1, hpre1, e, hst⟩ := hst
    induction d with
    | zero =>
      intro s x hd hpre hx
      have := hpre s1 (by omega)
      rw [this] at e
      cases e
    | succ d ih =>
      intro s x hd hpre hx
      rcases Nat.lt_trichotomy s s1 with z | z | z
      · obtain ⟨e1, e2⟩ := src_none (hpre1 s z)
        obtain ⟨m, hm⟩ := ih (s + 1) (x + 1) (by omega) (fun t ht => hpre1 t (by omega)) (by omega)
        refine ⟨m + 1, ?_⟩
        unfold wX4_settle_4
        refine br_f (nI_ge (b := 1000000) (by omega) (by decide)) (br_f (nI_ge (by omega) (by omega)) (sz_from n8 w rs rh rp rt (by omega) (br_t (by rw [e1]; rfl) ?_)))
        rw [nI_1]
        refine sz_slidesOnto rs rh rp rt (fun s z => w.2.1 s (by omega)) w.1 w.2.2 (by omega) (by omega) (br_t (by rw [e2]; rfl) ?_)
        unfold wX4_settle_72
        rw [nI_1]
        exact hm
      · subst z
        obtain ⟨c1, c2, c3⟩ := mv_ne w e
        have kk2 : sl + nI (k + 1) = sl + 1 + nI k := by
          rw [Nat.add_comm k 1, ← nI_add, Int32.add_assoc]; rfl
        have go : ∀ S' H' L', rN 80 S' (mv a o s).1 → rN 8 H' (mv a o s).2.1 → rB 80 L' (mv a o s).2.2 → ∃ m, wX4_settle_4 K (nI n) T P m S' H' L' (sl + 1) (nI 0) (nI (x + 1)) := fun S' H' L' r1 r2 r3 =>
          ihk (mv a o s) b (sl + 1) hst (wf_mv w hs1 c2 c1 c3) S' H' L' r1 r2 r3 (fun S'' H'' L'' q1 q2 q3 => by rw [← kk2]; exact kk S'' H'' L'' q1 q2 q3) n 0 (x + 1) (by omega) (fun t ht => absurd ht (Nat.not_lt_zero t)) (by omega)
        obtain ⟨m, hm⟩ := go (upd S (s * 10 + a.2.1 s) (nI (a.1 (o * 10 + (a.2.1 o - 1))))) (upd (upd H o (nI (a.2.1 o - 1))) s (nI (a.2.1 s + 1))) (upd L (a.1 (o * 10 + (a.2.1 o - 1))) 1) (rN_up rs _ _) (rN_up (rN_up rh _ _) _ _) (rB_t rl _)
        refine ⟨m + 1, ?_⟩
        have hmv : ∀ {KK : ((Nat → Int32) × (Nat → Int32) × (Nat → Int32) × Int32) → Prop}, KK (upd S (s * 10 + a.2.1 s) (nI (a.1 (o * 10 + (a.2.1 o - 1)))), upd (upd H o (nI (a.2.1 o - 1))) s (nI (a.2.1 s + 1)), upd L (a.1 (o * 10 + (a.2.1 o - 1))) 1, sl + 1) → wX4_moveTop S H L sl (nI o) (nI s) KK := by
          intro KK hKK
          exact sz_moveTopE n8 w rs rh c2 hs1 c3 hKK
        unfold wX4_settle_4
        refine br_f (nI_ge (b := 1000000) (by omega) (by decide)) (br_f (nI_ge (by omega) (by omega)) (sz_from n8 w rs rh rp rt (by omega) ?_))
        rcases src_some e with ⟨f1, f2⟩ | ⟨f1, f2, f3⟩
        · have hz : (decide (s ≠ 0) && cs sp pr a.1 a.2.1 (s - 1) s) = true := by
            have e5 : s - 1 = o := by omega
            rw [e5, f2, Bool.and_true]; simp; omega
          refine br_f (by rw [hz]; decide) ?_
          have e6 : nI s - 1 = nI o := by rw [nI_dec (by omega)]; congr 1; omega
          rw [e6]
          refine hmv ?_
          unfold wX4_settle_72
          rw [nI_1, ← nI_0]
          exact hm
        · have hz : (decide (s ≠ 0) && cs sp pr a.1 a.2.1 (s - 1) s) = false := by
            rw [Bool.and_eq_false_iff]
            by_cases z2 : s ≠ 0
            · right
              cases w2 : cs sp pr a.1 a.2.1 (s - 1) s
              · rfl
              · exact absurd ⟨z2, w2⟩ f2
            · left; simpa using z2
          refine br_t (by rw [hz]; rfl) ?_
          rw [nI_1]
          subst f1
          refine sz_slidesOnto rs rh rp rt (fun s z => w.2.1 s (by omega)) w.1 w.2.2 (by omega) (by omega) (br_f (by rw [f3]; decide) ?_)
          refine hmv ?_
          unfold wX4_settle_72
          rw [nI_1, ← nI_0]
          exact hm
      · have := hpre s1 z
        rw [this] at e
        cases e
end SETTLE
