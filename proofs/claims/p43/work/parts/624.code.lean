/-! PURE: a tree's steps, one behind another, and their value. -/
def dtl (k : Nat) (v : Int32) : Int32 := if 15 ≤ k ∧ k ≤ 18 then 0 else v
def pf : (d : Nat) → Tr d → List (Nat × Int32)
  | 0, _ => []
  | d + 1, x => match arK (cK (trQ x)) with
    | 0 => [(cK (trQ x), dtl (cK (trQ x)) (nI (trN x)))]
    | 1 => pf d (trL x) ++ [(cK (trQ x), 0)]
    | _ => pf d (trL x) ++ (pf d (trR x) ++ [(cK (trQ x), 0)])
/-- the steps l stand from s on -/
def cdAt (ks : Nat → Nat) (ds : Nat → Int32) (s : Nat) (l : List (Nat × Int32)) : Prop := ∀ i, i < l.length → ks (s + i) = (l.getD i (0, 0)).1 ∧ (arK (l.getD i (0, 0)).1 = 0 → ds (s + i) = (l.getD i (0, 0)).2)
theorem cd_app {ks : Nat → Nat} {ds : Nat → Int32} {s : Nat} {l u : List (Nat × Int32)} (h : cdAt ks ds s (l ++ u)) : cdAt ks ds s l ∧ cdAt ks ds (s + l.length) u := by
  refine ⟨fun i hi => ?_, fun i hi => ?_⟩
  · have := h i (by rw [List.length_append]; omega)
    rw [List.getD_eq_getElem?_getD, List.getElem?_append_left hi, ← List.getD_eq_getElem?_getD] at this
    exact this
  · have := h (l.length + i) (by rw [List.length_append]; omega)
    rw [List.getD_eq_getElem?_getD, List.getElem?_append_right (Nat.le_add_right _ _), Nat.add_sub_cancel_left, ← List.getD_eq_getElem?_getD, ← Nat.add_assoc] at this
    exact this
section CODE
variable {t : Tl} {a : Sg} {pr : Nat → Bool} {fa : Nat → Nat} {dy sl : Int32} {ks : Nat → Nat} {ds : Nat → Int32}
theorem evR_app : ∀ (n m i : Nat) (vs : List Int32), evR t a pr fa dy sl ks ds (n + m) i vs = evR t a pr fa dy sl ks ds m (i + n) (evR t a pr fa dy sl ks ds n i vs) := by
  intro n
  induction n with
  | zero =>
    intro m i vs
    rw [Nat.zero_add]
    rfl
  | succ n ih =>
    intro m i vs
    rw [show n + 1 + m = (n + m) + 1 by omega]
    show evR t a pr fa dy sl ks ds (n + m) (i + 1) (evS t a pr fa dy sl (ks i) (ds i) vs) = evR t a pr fa dy sl ks ds m (i + (n + 1)) (evR t a pr fa dy sl ks ds n (i + 1) (evS t a pr fa dy sl (ks i) (ds i) vs))
    rw [ih, show i + 1 + n = i + (n + 1) by omega]
theorem as0_dt (k : Nat) (d : Int32) : as0 t pr fa dy sl k (dtl k d) = as0 t pr fa dy sl k d := by
  unfold dtl
  by_cases z : 15 ≤ k ∧ k ≤ 18
  · rw [if_pos z]
    obtain rfl | rfl | rfl | rfl : k = 15 ∨ k = 16 ∨ k = 17 ∨ k = 18 := by omega
    · rfl
    · rfl
    · rfl
    · rfl
  · rw [if_neg z]
theorem evR_1 {i : Nat} {vs : List Int32} : evR t a pr fa dy sl ks ds 1 i vs = evS t a pr fa dy sl (ks i) (ds i) vs := rfl
theorem k_ar {b : Bool} {k : Nat} (h : if b = true then (20 ≤ k ∧ k ≤ 31 ∧ k ≠ 27 ∧ k ≠ 28) else k ≤ 14) : (arK (cK k) = 0 ∧ ¬ knA k) ∨ (arK (cK k) = 1 ∧ knA k ∧ ¬ knB k) ∨ (arK (cK k) = 2 ∧ knB k) := by
  unfold knA knB
  cases b
  · rw [if_neg (by decide)] at h
    rcases k_sums h with e | e | e | e | e | e | e | e | e | e | e | e | e | e | e <;> subst e <;> decide
  · rw [if_pos rfl] at h
    rcases k_tests h with e | e | e | e | e | e | e | e | e | e <;> subst e <;> decide
theorem ev_pf {e : Nat} : ∀ (d : Nat) (b : Bool) (x : Tr d) (s : Nat) (vs : List Int32), trW e d b x → cdAt ks ds s (pf d x) → evR t a pr fa dy sl ks ds (pf d x).length s vs = evT t a pr fa dy sl d x :: vs := by
  intro d
  induction d with
  | zero => intro b x s vs h; exact h.elim
  | succ d ih =>
    intro b x s vs hw hc
    obtain ⟨w1, -, -, w4, w5⟩ := hw
    rcases k_ar w1 with ⟨h, -⟩ | ⟨h, hA, -⟩ | ⟨h, hB⟩
    · have ep : pf (d + 1) x = [(cK (trQ x), dtl (cK (trQ x)) (nI (trN x)))] := by
        rw [pf, h]
        rfl
      rw [ep] at hc ⊢
      obtain ⟨c1, c2⟩ := hc 0 (by simp)
      have c2' := c2 h
      rw [evT0 h]
      show evR t a pr fa dy sl ks ds 1 s vs = _
      rw [evR_1, show ks s = cK (trQ x) from c1, show ds s = dtl (cK (trQ x)) (nI (trN x)) from c2', evS0 h, as0_dt]
    · have ep : pf (d + 1) x = pf d (trL x) ++ [(cK (trQ x), 0)] := by
        rw [pf, h]
        rfl
      rw [ep] at hc ⊢
      obtain ⟨ca, cb⟩ := cd_app hc
      obtain ⟨c1, -⟩ := cb 0 (by simp)
      rw [evT1 h, List.length_append, evR_app, ih _ (trL x) s vs (w4 hA) ca]
      show evR t a pr fa dy sl ks ds 1 _ _ = _
      rw [evR_1, show ks (s + (pf d (trL x)).length) = cK (trQ x) from c1, evS1 h]
    · have ep : pf (d + 1) x = pf d (trL x) ++ (pf d (trR x) ++ [(cK (trQ x), 0)]) := by
        rw [pf, h]
        rfl
      rw [ep] at hc ⊢
      obtain ⟨ca, cb⟩ := cd_app hc
      obtain ⟨cc, ce⟩ := cd_app cb
      obtain ⟨c1, -⟩ := ce 0 (by simp)
      rw [evT2 h, List.length_append, evR_app, ih _ (trL x) s vs (w4 (knB_A hB)) ca, List.length_append, evR_app, ih _ (trR x) _ _ (w5 hB) cc]
      show evR t a pr fa dy sl ks ds 1 _ _ = _
      rw [evR_1, show ks (s + (pf d (trL x)).length + (pf d (trR x)).length) = cK (trQ x) from c1, evS2 h]
/-- the value of a stretch of steps that are a tree's -/
theorem vR_pf {e d : Nat} {b : Bool} {x : Tr d} {s : Nat} (hw : trW e d b x) (hc : cdAt ks ds s (pf d x)) : vR t a pr fa dy sl ks ds s (s + (pf d x).length) = evT t a pr fa dy sl d x := by
  unfold vR
  rw [show s + (pf d x).length - s = (pf d x).length by omega, ev_pf d b x s [] hw hc]
  rfl
end CODE
