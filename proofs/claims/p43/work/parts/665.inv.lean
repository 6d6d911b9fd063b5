/-! PURE: what holds of every game: props, heights, nothing left to slide, the cushions counted. -/
def Iv (t : Tl) (x : Gs) : Prop := wfX t x ∧ fb_ct (gP x) 8 ≤ 3 ∧ (∀ s, (gA1w x).2.1 s ≤ tM t) ∧ (∀ s, s < tN t → src (tSp t) (gP x) (gA1w x) s = none) ∧ ∃ d, gDu x = nI d ∧ hsS (gA1w x).2.1 + d = tN t * tM t
theorem stl_end {sp pr : Nat → Bool} {n : Nat} : ∀ (k : Nat) (a b : Sg), Stl sp pr n k a b → ∀ s, s < n → src sp pr b s = none := by
  intro k
  induction k with
  | zero => intro a b h; rw [h.2]; exact h.1
  | succ k ih =>
    intro a b h
    obtain ⟨s, o, hs, hp, e, h⟩ := h
    exact ih _ b h
theorem stl_hm {sp pr : Nat → Bool} {n m : Nat} : ∀ (k : Nat) (a b : Sg), Stl sp pr n k a b → wfS n a → (∀ s, a.2.1 s ≤ m) → ∀ s, b.2.1 s ≤ m := by
  intro k
  induction k with
  | zero => intro a b h _ hm; rw [h.2]; exact hm
  | succ k ih =>
    intro a b h w hm
    obtain ⟨s, o, hs, hp, e, h⟩ := h
    obtain ⟨c1, c2, c3⟩ := mv_ne w e
    refine ih _ b h (wf_mv w hs c2 c1 c3) (fun u => ?_)
    have m1 := hm o
    have m2 := hm u
    show va_up (va_up a.2.1 o (a.2.1 o - 1)) s (a.2.1 s + 1) u ≤ m
    by_cases z : u = s
    · rw [z, va_up_self]; omega
    · rw [va_up_ne _ _ z]
      by_cases y : u = o
      · rw [y, va_up_self]; omega
      · rw [va_up_ne _ _ y]; exact m2
theorem pr_on {pr : Nat → Bool} {s : Nat} (hs : s < 8) (h1 : pr s = false) : fb_ct (va_up pr s true) 8 = fb_ct pr 8 + 1 := by
  have := fb_ct_upd pr true (i := s) (n := 8) hs
  rw [h1] at this
  exact this
theorem pr_off {pr : Nat → Bool} {s : Nat} (hs : s < 8) : fb_ct (va_up pr s false) 8 ≤ fb_ct pr 8 := by
  have := fb_ct_upd pr false (i := s) (n := 8) hs
  have e : fb_ct (va_up pr s false) 8 + (if pr s then 1 else 0) = fb_ct pr 8 + 0 := this
  omega
theorem cs_on {sp pr : Nat → Bool} {st h : Nat → Nat} {a b s : Nat} (e : cs sp pr st h a b = false) : cs sp (va_up pr s true) st h a b = false := by
  unfold cs at e ⊢
  by_cases z : a = s
  · rw [z, va_up_self]
    show (_ && (false && _)) = false
    rw [Bool.false_and, Bool.and_false]
  · rw [va_up_ne _ _ z]; exact e
theorem src_iff {sp pr : Nat → Bool} {a : Sg} {s : Nat} : src sp pr a s = none ↔ ((s ≠ 0 → cs sp pr a.1 a.2.1 (s - 1) s = false) ∧ cs sp pr a.1 a.2.1 (s + 1) s = false) := by
  unfold src
  constructor
  · intro h
    by_cases c1 : s ≠ 0 ∧ cs sp pr a.1 a.2.1 (s - 1) s = true
    · rw [if_pos c1] at h; cases h
    · rw [if_neg c1] at h
      by_cases c2 : cs sp pr a.1 a.2.1 (s + 1) s = true
      · rw [if_pos c2] at h; cases h
      · refine ⟨fun z => ?_, Bool.eq_false_iff.mpr c2⟩
        exact Bool.eq_false_iff.mpr (fun y => c1 ⟨z, y⟩)
  · intro ⟨h1, h2⟩
    rw [if_neg (fun z => by rw [h1 z.1] at z; cases z.2), if_neg (by rw [h2]; decide)]
section IV
variable {t : Tl} {x : Gs} {s k : Nat} {b : Sg} {ca : Int32}
theorem Iv.dig (wt : wfT t) (I : Iv t x) (hs : s < tN t) (h0 : 0 < (gA1w x).2.1 s) (hst : Stl (tSp t) (gP x) (tN t) k (dg1 (gA1w x) s) b) {dy sl : Int32} : Iv t (b, gP x, dgF t (gA1w x) (gF1w x) s, dy, ca, gDu x + 1, sl) := by
  obtain ⟨i1, i2, i3, i4, d, i5, i6⟩ := I
  have n8 := wt.1.2
  have wd := wfG_dg wt i1 hs h0
  have h1 := stl_bg n8 k _ b hst wd.1
  have h2 := dg_bg (a := gA1w x) (s := s) (by omega) h0
  refine ⟨wfG_stl k _ _ hst wd, i2, stl_hm k _ b hst wd.1 (fun u => ?_), stl_end k _ b hst, d + 1, ?_, ?_⟩
  · have := i3 u
    show va_up (gA1w x).2.1 s ((gA1w x).2.1 s - 1) u ≤ tM t
    by_cases z : u = s
    · rw [z, va_up_self]; have := i3 s; omega
    · rw [va_up_ne _ _ z]; exact this
  · show gDu x + 1 = nI (d + 1)
    rw [i5, nI_1]
  · show hsS b.2.1 + (d + 1) = _
    omega
theorem Iv.prop (wt : wfT t) (I : Iv t x) (hs : s < tN t) (h1 : gP x s = false) (h2 : fb_ct (gP x) 8 < 3) {dy : Int32} : Iv t (gA1w x, va_up (gP x) s true, gF1w x, dy, ca, gDu x, gSl x) := by
  obtain ⟨i1, i2, i3, i4, i5⟩ := I
  have n8 := wt.1.2
  refine ⟨wfG_pr i1 hs true, ?_, i3, fun u hu => ?_, i5⟩
  · show fb_ct (va_up (gP x) s true) 8 ≤ 3
    rw [pr_on (by omega) h1]
    omega
  · obtain ⟨a1, a2⟩ := src_iff.mp (i4 u hu)
    exact src_iff.mpr ⟨fun z => cs_on (a1 z), cs_on a2⟩
theorem Iv.free (wt : wfT t) (I : Iv t x) (hs : s < tN t) (hst : Stl (tSp t) (va_up (gP x) s false) (tN t) k (gA1w x) b) {dy sl : Int32} : Iv t (b, va_up (gP x) s false, gF1w x, dy, ca, gDu x, sl) := by
  obtain ⟨i1, i2, i3, i4, d, i5, i6⟩ := I
  have n8 := wt.1.2
  have h1 := stl_bg n8 k _ b hst i1.1
  refine ⟨wfG_stl k _ _ hst (wfG_pr i1 hs false), ?_, stl_hm k _ b hst i1.1 i3, stl_end k _ b hst, d, i5, ?_⟩
  · have := pr_off (pr := gP x) (s := s) (by omega)
    show fb_ct (va_up (gP x) s false) 8 ≤ 3
    omega
  · show hsS b.2.1 + d = _
    omega
theorem Iv.cry (wt : wfT t) (I : Iv t x) (hs : s < tN t) {kd : Nat} {y : Gs} {dn : Bool} (h : Cry t kd s x y dn) : Iv t y := by
  rcases h with ⟨-, h0, rfl, k, b, -, hst, rfl⟩ | ⟨-, h1, h2, rfl, rfl⟩ | ⟨-, -, rfl, k, b, -, hst, rfl⟩ | ⟨-, rfl, rfl⟩
  · exact I.dig wt hs h0 hst
  · exact I.prop wt hs h1 h2
  · exact I.free wt hs hst
  · exact I
theorem Iv.ord (wt : wfT t) (I : Iv t x) {p : Pn} {o : Nat} {y : Gs} {dn : Bool} (h : Ord t p o x y dn) : Iv t y := by
  rcases h with ⟨-, rfl, rfl⟩ | ⟨-, s, hs, -, h⟩
  · exact I
  · exact I.cry wt hs h
end IV
theorem Iv.ords {t : Tl} (wt : wfT t) {p : Pn} : ∀ (n o : Nat) (x y : Gs), Ords t p n o x y → Iv t x → Iv t y
  | 0, _, x, y, h, I => by rw [h]; exact I
  | n + 1, o, x, y, h, I => by
    obtain ⟨z, dn, h1, h2⟩ := h
    exact Iv.ords wt n (o + 1) z y h2 (I.ord wt h1)
theorem Iv.days {t : Tl} (wt : wfT t) {p : Pn} : ∀ (n : Nat) (x y : Gs), Days t p n x y → Iv t x → Iv t y
  | 0, x, y, h, I => by rw [h]; exact I
  | n + 1, x, y, h, I => by
    obtain ⟨z, h1, h2⟩ := h
    have I2 := Iv.ords wt _ _ _ _ h1 I
    exact Iv.days wt n (dayX z) y h2 I2
theorem sm_nm (m : Nat) : ∀ n, n ≤ 8 → fb_sm (fun s => if s < n then m else 0) 8 = n * m := by
  have key : ∀ k n, fb_sm (fun s => if s < n then m else 0) k = (if k ≤ n then k else n) * m := by
    intro k n
    induction k with
    | zero => rw [if_pos (Nat.zero_le _), Nat.zero_mul]; rfl
    | succ k ih =>
      rw [fb_sm_succ, ih]
      by_cases z : k + 1 ≤ n
      · rw [if_pos (by omega), if_pos z, if_pos (by omega), Nat.add_mul, Nat.one_mul]
      · by_cases y : k ≤ n
        · rw [if_pos y, if_neg z, show k = n by omega, if_neg (Nat.lt_irrefl n)]
          rfl
        · rw [if_neg y, if_neg z, if_neg (by omega)]
          rfl
  intro n hn
  rw [key]
  by_cases z : 8 ≤ n
  · rw [if_pos z, show n = 8 by omega]
  · rw [if_neg z]
theorem Iv_0 {t : Tl} (wt : wfT t) : Iv t (x0 t) := by
  have n8 := wt.1.2
  have hh : ∀ s, (gA1w (x0 t)).2.1 s = if s < tN t then tM t else 0 := fun _ => rfl
  refine ⟨wfX_0 wt, by show fb_ct (fun _ => false) 8 ≤ 3; decide, fun s => ?_, fun s hs => ?_, 0, rfl, ?_⟩
  · rw [hh]; split <;> omega
  · have key : ∀ o, cs (tSp t) (gP (x0 t)) (gA1w (x0 t)).1 (gA1w (x0 t)).2.1 o s = false := fun o => by
      unfold cs
      rw [decide_eq_false (by rw [hh, hh, if_pos hs]; split <;> omega)]
      rfl
    exact src_iff.mpr ⟨fun _ => key _, key _⟩
  · show fb_sm (fun s => if s < tN t then tM t else 0) 8 + 0 = _
    rw [sm_nm _ _ n8]
    rfl
