/-! PURE: finds counted; the best dig; the first day; the earliest year; what stays found. -/
theorem sm_one {g : Nat → Nat} {n i v : Nat} (hi : i < n) (h1 : g i = v) (h0 : ∀ k, k < n → k ≠ i → g k = 0) : fb_sm g n = v := by
  have z : ∀ n, fb_sm (fun _ => 0) n = 0 := by
    intro n
    induction n with
    | zero => rfl
    | succ n ih => rw [fb_sm_succ, ih]
  have e := fb_sm_upd (fun _ => 0) v (i := i) hi
  rw [z] at e
  rw [fb_sm_cong (g := fun k => if k = i then v else 0) (fun k hk => by
    by_cases y : k = i
    · rw [if_pos y, y]; exact h1
    · rw [if_neg y]; exact h0 k hk y)]
  omega
theorem ct_one {p : Nat → Bool} {n i : Nat} (hi : i < n) (h1 : p i = true) (h0 : ∀ k, k < n → k ≠ i → p k = false) : fb_ct p n = 1 := by
  have e := fb_ct_upd (fun _ => false) true (i := i) hi
  have z : ∀ n, fb_ct (fun _ => false) n = 0 := by
    intro n
    induction n with
    | zero => rfl
    | succ n ih => rw [fb_ct_succ, ih]; rfl
  rw [z] at e
  rw [fb_ct_cong (q := fun k => if k = i then true else false) (fun k hk => by
    by_cases y : k = i
    · rw [if_pos y, y]; exact h1
    · rw [if_neg y]; exact h0 k hk y)]
  exact e
theorem ct_nil {p : Nat → Bool} {n : Nat} (h0 : ∀ k, k < n → p k = false) : fb_ct p n = 0 := fb_ct_zero.mpr h0
theorem ct_two {p : Nat → Bool} {n i j : Nat} (hi : i < n) (hj : j < n) (hij : i ≠ j) (h1 : p i = true) (h2 : p j = true) : 2 ≤ fb_ct p n := by
  have e := fb_ct_upd p false (i := i) hi
  rw [h1] at e
  have e : fb_ct (fun k => if k = i then false else p k) n + 1 = fb_ct p n + 0 := e
  have : 0 < fb_ct (fun k => if k = i then false else p k) n := fb_ct_pos.mpr ⟨j, hj, by rw [if_neg (fun z => hij z.symm)]; exact h2⟩
  omega
section LEFT
variable {t : Tl} {a : Sg} {pr : Nat → Bool} {fa : Nat → Nat}
/-- in the stack s, the finds below K -/
def lfK (t : Tl) (a : Sg) (K s j : Nat) : Bool := match tFi t (a.1 (s * 10 + j)) with | none => false | some f => decide (f < K)
theorem lf_all (wt : wfT t) (w : wfG t a pr fa) : ∀ K, K ≤ tF t → fb_sm (fun s => fb_ct (lfK t a K s) (a.2.1 s)) (tN t) = fb_ct (fun f => decide (fa f = 0)) K := by
  intro K
  induction K with
  | zero =>
    intro _
    have z : ∀ n, fb_sm (fun s => fb_ct (lfK t a 0 s) (a.2.1 s)) n = 0 := by
      intro n
      induction n with
      | zero => rfl
      | succ n ih =>
        rw [fb_sm_succ, ih, ct_nil]
        intro k hk
        unfold lfK
        cases tFi t (a.1 (n * 10 + k)) with
        | none => rfl
        | some f => exact decide_eq_false (by omega)
    rw [z]
    rfl
  | succ K ih =>
    intro hK
    have i1 := ih (by omega)
    obtain ⟨c80, cfi, -⟩ := wt.2.2.2.2.1 K (by omega)
    have one : ∀ s, fb_ct (lfK t a (K + 1) s) (a.2.1 s) = fb_ct (lfK t a K s) (a.2.1 s) + fb_ct (fun j => decide (tFi t (a.1 (s * 10 + j)) = some K)) (a.2.1 s) := by
      intro s
      rw [← fb_ct_or]
      · refine fb_ct_cong (fun j _ => ?_)
        unfold lfK
        cases e : tFi t (a.1 (s * 10 + j)) with
        | none => rfl
        | some f =>
          dsimp only
          by_cases y : f = K
          · rw [decide_eq_true (by omega), decide_eq_true (p := some f = some K) (by rw [y]), Bool.or_true]
          · rw [decide_eq_false (p := some f = some K) (fun z => y (Option.some.inj z)), Bool.or_false]
            by_cases z : f < K
            · rw [decide_eq_true (by omega), decide_eq_true z]
            · rw [decide_eq_false (by omega), decide_eq_false z]
      · intro j _ ⟨h1, h2⟩
        have h2 := of_decide_eq_true h2
        unfold lfK at h1
        rw [h2] at h1
        have := of_decide_eq_true h1
        omega
    rw [fb_sm_cong (g := fun s => (fun s => fb_ct (lfK t a K s) (a.2.1 s)) s + (fun s => fb_ct (fun j => decide (tFi t (a.1 (s * 10 + j)) = some K)) (a.2.1 s)) s) (fun s _ => one s), fb_sm_add, i1, fb_ct_succ]
    congr 1
    by_cases h0 : fa K = 0
    · rw [decide_eq_true h0, if_pos rfl]
      obtain ⟨s, j, hs, hj, hc⟩ := w.2.2.2.1 K (by omega) h0
      refine sm_one hs (ct_one hj (decide_eq_true (by rw [hc]; exact cfi)) (fun k hk hn => ?_)) (fun u hu hn => ct_nil (fun k hk => ?_))
      · refine decide_eq_false (fun z => ?_)
        have e := (wt.2.2.2.2.2.1 _ K (w.1.2.2 s k hk) z).2
        have := (w.2.2.1 s k s j hk hj (by rw [← e, hc])).2
        exact hn this
      · refine decide_eq_false (fun z => ?_)
        have e := (wt.2.2.2.2.2.1 _ K (w.1.2.2 u k hk) z).2
        have := (w.2.2.1 u k s j hk hj (by rw [← e, hc])).1
        exact hn this
    · rw [decide_eq_false h0]
      have z : ∀ n, fb_sm (fun s => fb_ct (fun j => decide (tFi t (a.1 (s * 10 + j)) = some K)) (a.2.1 s)) n = 0 := by
        intro n
        induction n with
        | zero => rfl
        | succ n ih =>
          rw [fb_sm_succ, ih, ct_nil]
          intro k hk
          exact decide_eq_false (fun y => h0 (w.2.1 n k K hk y))
      rw [z]
      rfl
theorem lf_sum (wt : wfT t) (w : wfG t a pr fa) : fb_sm (fun s => lf t a s) (tN t) + fb_ct (fun f => decide (1 ≤ fa f)) (tF t) = tF t := by
  have h := lf_all wt w (tF t) (Nat.le_refl _)
  have e : ∀ s, lf t a s = fb_ct (lfK t a (tF t) s) (a.2.1 s) := by
    intro s
    unfold lf
    refine fb_ct_cong (fun j hj => ?_)
    unfold lfP lfK
    cases e : tFi t (a.1 (s * 10 + j)) with
    | none => rfl
    | some f => exact (decide_eq_true (wt.2.2.2.2.2.1 _ f (w.1.2.2 s j hj) e).1).symm
  rw [fb_sm_cong (fun s _ => e s), h]
  have n := fb_ct_not (fun f => decide (fa f = 0)) (tF t)
  have e2 : fb_ct (fun f => decide (1 ≤ fa f)) (tF t) = fb_ct (fun k => !(fun f => decide (fa f = 0)) k) (tF t) := fb_ct_cong (fun k _ => by
    by_cases y : fa k = 0
    · dsimp only; rw [decide_eq_true y, decide_eq_false (by omega)]; rfl
    · dsimp only; rw [decide_eq_false y, decide_eq_true (by omega)]; rfl)
  rw [e2]
  exact n
end LEFT
/-- the best is best -/
theorem bst_best {h kf lv : Nat → Nat} : ∀ {i : Nat}, (bst h kf lv i = none → ∀ u, u < i → h u = 0) ∧ ∀ c, bst h kf lv i = some c → ∀ u, u < i → 0 < h u → kf c ≤ kf u ∧ (kf c = kf u → lv u ≤ lv c) := by
  intro i
  induction i with
  | zero => exact ⟨fun _ u hu => absurd hu (Nat.not_lt_zero u), fun c e => (by cases e)⟩
  | succ i ih =>
    obtain ⟨h1, h2⟩ := ih
    cases q : bst h kf lv i with
    | none =>
      have e := bst_0 q
      by_cases z : 0 < h i
      · rw [if_pos z] at e
        refine ⟨fun y => (by rw [e] at y; cases y), fun c hc u hu h0 => ?_⟩
        rw [e] at hc
        cases hc
        by_cases y : u = i
        · rw [y]; exact ⟨Nat.le_refl _, fun _ => Nat.le_refl _⟩
        · have := h1 q u (by omega)
          omega
      · rw [if_neg z] at e
        refine ⟨fun _ u hu => ?_, fun c hc => by rw [e] at hc; cases hc⟩
        by_cases y : u = i
        · rw [y]; omega
        · exact h1 q u (by omega)
    | some d =>
      have e := bst_1 q
      have g := h2 d q
      refine ⟨fun y => (by rw [e] at y; split at y <;> cases y), fun c hc u hu h0 => ?_⟩
      rw [e] at hc
      by_cases z : 0 < h i ∧ (kf i < kf d ∨ (kf i = kf d ∧ lv d < lv i))
      · rw [if_pos z] at hc
        cases hc
        by_cases y : u = i
        · rw [y]; exact ⟨Nat.le_refl _, fun _ => Nat.le_refl _⟩
        · have := g u (by omega) h0
          omega
      · rw [if_neg z] at hc
        cases hc
        by_cases y : u = i
        · subst y
          omega
        · exact g u (by omega) h0
/-- the first day -/
theorem fst_some {g : Nat → Bool} : ∀ {d i : Nat}, (∀ j, fstB g d i = some j → i ≤ j ∧ j ≤ i + d ∧ g j = true ∧ ∀ l, i ≤ l → l < j → g l = false) ∧ (fstB g d i = none → ∀ l, i ≤ l → l ≤ i + d → g l = false) := by
  intro d
  induction d with
  | zero =>
    intro i
    unfold fstB
    by_cases z : g i = true
    · rw [if_pos z]
      refine ⟨fun j e => ?_, fun e => (by cases e)⟩
      cases e
      exact ⟨Nat.le_refl _, Nat.le_refl _, z, fun l h1 h2 => by omega⟩
    · rw [if_neg z]
      refine ⟨fun j e => (by cases e), fun _ l h1 h2 => ?_⟩
      rw [show l = i by omega]
      exact Bool.eq_false_iff.mpr z
  | succ d ih =>
    intro i
    unfold fstB
    by_cases z : g i = true
    · rw [if_pos z]
      refine ⟨fun j e => ?_, fun e => (by cases e)⟩
      cases e
      exact ⟨Nat.le_refl _, by omega, z, fun l h1 h2 => by omega⟩
    · rw [if_neg z]
      obtain ⟨h1, h2⟩ := ih (i := i + 1)
      refine ⟨fun j e => ?_, fun e l l1 l2 => ?_⟩
      · obtain ⟨a1, a2, a3, a4⟩ := h1 j e
        refine ⟨by omega, by omega, a3, fun l l1 l2 => ?_⟩
        by_cases y : l = i
        · rw [y]; exact Bool.eq_false_iff.mpr z
        · exact a4 l (by omega) l2
      · by_cases y : l = i
        · rw [y]; exact Bool.eq_false_iff.mpr z
        · exact h2 e l (by omega) (by omega)
/-- the earliest year -/
theorem gm_int (x y : Int32) : (g_max x y).toInt = if x.toInt < y.toInt then y.toInt else x.toInt := by
  unfold g_max
  by_cases z : x < y
  · rw [if_pos z, if_pos (Int32.lt_iff_toInt_lt.mp z)]
  · rw [if_neg z, if_neg (fun h => z (Int32.lt_iff_toInt_lt.mpr h))]
theorem ey_mono (t : Tl) (fa : Nat → Nat) (k : Nat) : ∀ i, (eyr t fa k i).toInt ≤ (eyr t fa (k + 1) i).toInt
  | 0 => Int.le_refl _
  | i + 1 => by
    have ih := ey_mono t fa k i
    unfold eyr
    by_cases z : fa i = 2 ∧ tCu t i % 10 ≤ k
    · rw [if_pos z, if_pos ⟨z.1, by omega⟩, gm_int, gm_int]
      split <;> split <;> omega
    · rw [if_neg z]
      by_cases y : fa i = 2 ∧ tCu t i % 10 ≤ k + 1
      · rw [if_pos y, gm_int]
        split <;> omega
      · rw [if_neg y]; exact ih
theorem ey_ge (t : Tl) (fa : Nat → Nat) (k : Nat) : ∀ i, (-1 : Int) ≤ (eyr t fa k i).toInt
  | 0 => by
    show (-1 : Int) ≤ (-1 : Int32).toInt
    decide
  | i + 1 => by
    have ih := ey_ge t fa k i
    unfold eyr
    by_cases z : fa i = 2 ∧ tCu t i % 10 ≤ k
    · rw [if_pos z, gm_int]
      split <;> omega
    · rw [if_neg z]; exact ih
/-- found stays found -/
theorem fd_dg {t : Tl} {a : Sg} {fa : Nat → Nat} {s f : Nat} (h : 1 ≤ fa f) : 1 ≤ dgF t a fa s f := by
  unfold dgF
  cases tFi t (tp a s) with
  | none => exact h
  | some g =>
    dsimp only
    by_cases z : f = g
    · rw [z, va_up_self]; split <;> decide
    · rw [va_up_ne _ _ z]; exact h
theorem fd_cry {t : Tl} {kd s : Nat} {x y : Gs} {dn : Bool} (h : Cry t kd s x y dn) {f : Nat} (h1 : 1 ≤ gF1w x f) : 1 ≤ gF1w y f := by
  rcases h with ⟨-, -, -, k, b, -, -, rfl⟩ | ⟨-, -, -, -, rfl⟩ | ⟨-, -, -, k, b, -, -, rfl⟩ | ⟨-, -, rfl⟩
  · exact fd_dg h1
  · exact h1
  · exact h1
  · exact h1
theorem fd_ords {t : Tl} {p : Pn} {f : Nat} : ∀ (n o : Nat) (x y : Gs), Ords t p n o x y → 1 ≤ gF1w x f → 1 ≤ gF1w y f
  | 0, _, x, y, h, h1 => by rw [h]; exact h1
  | n + 1, o, x, y, h, h1 => by
    obtain ⟨z, dn, g1, g2⟩ := h
    refine fd_ords n (o + 1) z y g2 ?_
    rcases g1 with ⟨-, -, rfl⟩ | ⟨-, s, -, -, g⟩
    · exact h1
    · exact fd_cry g h1
theorem fd_day {t : Tl} {p : Pn} {f : Nat} {x y : Gs} (h : Days t p 1 x y) (h1 : 1 ≤ gF1w x f) : 1 ≤ gF1w y f := by
  obtain ⟨z, g1, g2⟩ := h
  have e : y = dayX z := g2
  rw [e]
  show 1 ≤ gF1w z f
  exact fd_ords _ _ _ _ g1 h1
theorem days_to {t : Tl} {p : Pn} {sq : Nat → Gs} (hq : ∀ i, Days t p 1 (sq i) (sq (i + 1))) : ∀ d i, Days t p d (sq i) (sq (i + d))
  | 0, _ => rfl
  | d + 1, i => by
    obtain ⟨z, g1, g2⟩ := hq i
    have e : sq (i + 1) = dayX z := g2
    have := days_to hq d (i + 1)
    rw [e] at this
    exact ⟨z, g1, by rw [show i + (d + 1) = i + 1 + d by omega]; exact this⟩
theorem fd_sq {t : Tl} {p : Pn} {sq : Nat → Gs} (hq : ∀ i, Days t p 1 (sq i) (sq (i + 1))) {f : Nat} : ∀ d i, 1 ≤ gF1w (sq i) f → 1 ≤ gF1w (sq (i + d)) f
  | 0, _, h => h
  | d + 1, i, h => by
    have := fd_sq hq d (i + 1) (fd_day (hq i) h)
    rw [show i + (d + 1) = i + 1 + d by omega]
    exact this
/-- what is told of an empire: it begins before it ends -/
theorem ft_adL {t : Tl} (h : ∀ e, e < tE t → ¬ tTo t e < tFr t e) {a : Ln} (ok : okL t a) : ∀ e, e < tE (adL t a) → ¬ tTo (adL t a) e < tFr (adL t a) e := by
  obtain ⟨k, x, y, z⟩ := a
  match k, ok with
  | 0, ok =>
    obtain ⟨o1, o2, o3, o4⟩ := ok
    have o3 : y ≤ z := o3
    have o4 : z ≤ 999 := o4
    intro e he
    have he : e < tE t + 1 := he
    show ¬ va_up (tTo t) (tE t) (nI z) e < va_up (tFr t) (tE t) (nI y) e
    by_cases q : e = tE t
    · rw [q, va_up_self, va_up_self]
      exact nI_nlt o3 (by omega)
    · rw [va_up_ne _ _ q, va_up_ne _ _ q]
      exact h e (by omega)
  | 1, ok => exact h
  | 2, ok => exact h
  | n + 3, ok => exact h
theorem ft_adA : ∀ (L : List Ln) (t : Tl), (∀ e, e < tE t → ¬ tTo t e < tFr t e) → okA t L → ∀ e, e < tE (adA t L) → ¬ tTo (adA t L) e < tFr (adA t L) e
  | [], _, h, _ => h
  | a :: l, t, h, ok => ft_adA l (adL t a) (ft_adL h ok.1) ok.2
