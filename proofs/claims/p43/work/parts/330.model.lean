/-! PURE LAYER: the model's row of numbers, small methods -/
def m8 (b0 b1 b2 b3 b4 b5 b6 b7 : Bool) : Nat := (if b0 = true then 1 else 0) + (if b1 = true then 2 else 0) + (if b2 = true then 4 else 0) + (if b3 = true then 8 else 0) + (if b4 = true then 16 else 0) + (if b5 = true then 32 else 0) + (if b6 = true then 64 else 0) + (if b7 = true then 128 else 0)
def mk8 (p : Nat → Bool) : Nat := m8 (p 0) (p 1) (p 2) (p 3) (p 4) (p 5) (p 6) (p 7)
def g8 (b0 b1 b2 b3 b4 b5 b6 b7 : Bool) (s : Nat) : Bool := match s with | 0 => b0 | 1 => b1 | 2 => b2 | 3 => b3 | 4 => b4 | 5 => b5 | 6 => b6 | 7 => b7 | _ => false
theorem g8_eq (p : Nat → Bool) {s : Nat} (hs : s < 8) : g8 (p 0) (p 1) (p 2) (p 3) (p 4) (p 5) (p 6) (p 7) s = p s :=
  match s, hs with | 0, _ => rfl | 1, _ => rfl | 2, _ => rfl | 3, _ => rfl | 4, _ => rfl | 5, _ => rfl | 6, _ => rfl | 7, _ => rfl
set_option maxRecDepth 20000 in
theorem m8_bit : ∀ (b0 b1 b2 b3 b4 b5 b6 b7 : Bool) (s : Fin 8), ((nI (m8 b0 b1 b2 b3 b4 b5 b6 b7) >>> (nI s.val &&& 31)) &&& 1 = 1) ↔ g8 b0 b1 b2 b3 b4 b5 b6 b7 s.val = true := by decide +kernel
set_option maxRecDepth 20000 in
theorem m8_set : ∀ (b0 b1 b2 b3 b4 b5 b6 b7 : Bool) (s : Fin 8), nI (m8 b0 b1 b2 b3 b4 b5 b6 b7) ||| (1 <<< (nI s.val &&& 31)) = nI (m8 (s.val == 0 || b0) (s.val == 1 || b1) (s.val == 2 || b2) (s.val == 3 || b3) (s.val == 4 || b4) (s.val == 5 || b5) (s.val == 6 || b6) (s.val == 7 || b7)) := by decide +kernel
set_option maxRecDepth 20000 in
theorem m8_clr : ∀ (b0 b1 b2 b3 b4 b5 b6 b7 : Bool) (s : Fin 8), nI (m8 b0 b1 b2 b3 b4 b5 b6 b7) &&& ((1 <<< (nI s.val &&& 31)) ^^^ (-1)) = nI (m8 (!(s.val == 0) && b0) (!(s.val == 1) && b1) (!(s.val == 2) && b2) (!(s.val == 3) && b3) (!(s.val == 4) && b4) (!(s.val == 5) && b5) (!(s.val == 6) && b6) (!(s.val == 7) && b7)) := by decide +kernel
theorem mk8_bit (p : Nat → Bool) {s : Nat} (hs : s < 8) : ((nI (mk8 p) >>> (nI s &&& 31)) &&& 1 = 1) ↔ p s = true := by
  rw [← g8_eq p hs]
  exact m8_bit (p 0) (p 1) (p 2) (p 3) (p 4) (p 5) (p 6) (p 7) ⟨s, hs⟩
theorem or_up (p : Nat → Bool) (s t : Nat) : (s == t || p t) = va_up p s true t := by
  unfold va_up
  by_cases e : t = s
  · subst e; simp
  · rw [if_neg e]
    have : (s == t) = false := by simp; omega
    rw [this, Bool.false_or]
theorem and_up (p : Nat → Bool) (s t : Nat) : (!(s == t) && p t) = va_up p s false t := by
  unfold va_up
  by_cases e : t = s
  · subst e; simp
  · rw [if_neg e]
    have : (s == t) = false := by simp; omega
    rw [this]; simp
theorem mk8_set (p : Nat → Bool) {s : Nat} (hs : s < 8) : nI (mk8 p) ||| (1 <<< (nI s &&& 31)) = nI (mk8 (va_up p s true)) := by
  have h := m8_set (p 0) (p 1) (p 2) (p 3) (p 4) (p 5) (p 6) (p 7) ⟨s, hs⟩
  simp only [or_up p] at h
  exact h
theorem mk8_clr (p : Nat → Bool) {s : Nat} (hs : s < 8) : nI (mk8 p) &&& ((1 <<< (nI s &&& 31)) ^^^ (-1)) = nI (mk8 (va_up p s false)) := by
  have h := m8_clr (p 0) (p 1) (p 2) (p 3) (p 4) (p 5) (p 6) (p 7) ⟨s, hs⟩
  simp only [and_up p] at h
  exact h
def rM (N : Nat → Int32) (a : Sg) (pr : Nat → Bool) (fa : Nat → Nat) (dy ca du sl : Int32) : Prop :=
  (∀ s, s < 8 → N (5 + s) = nI (a.2.1 s)) ∧ (∀ s j, s < 8 → j < a.2.1 s → N (13 + (s * 10 + j)) = nI (a.1 (s * 10 + j))) ∧ (∀ c, c < 80 → N (93 + c) = zB1w (a.2.2 c)) ∧ (∀ f, f < 24 → N (173 + f) = nI (fa f)) ∧ N 4 = nI (mk8 pr) ∧ N 0 = dy ∧ N 1 = ca ∧ N 2 = du ∧ N 3 = sl
theorem bn_f {c A B : Prop} (h : ¬ c) (a : A) : (¬ c → A) ∧ (c → B) := ⟨fun _ => a, fun z => absurd z h⟩
theorem bn_t {c A B : Prop} (h : c) (b : B) : (¬ c → A) ∧ (c → B) := ⟨fun z => absurd h z, fun _ => b⟩
section MODEL
variable {N Qs Qf : Nat → Int32} {K : Int32 → Unit → Prop} {a : Sg} {pr sp : Nat → Bool} {fa : Nat → Nat} {dy ca du sl : Int32} {n : Nat}
theorem n5 (s : Nat) : (5 : Int32) + nI s = nI (5 + s) := by rw [show (5 : Int32) = nI 5 from rfl, nI_add]
theorem n93 (s : Nat) : (93 : Int32) + nI s = nI (93 + s) := by rw [show (93 : Int32) = nI 93 from rfl, nI_add]
theorem n173 (s : Nat) : (173 : Int32) + nI s = nI (173 + s) := by rw [show (173 : Int32) = nI 173 from rfl, nI_add]
theorem n13 (s j : Nat) : (13 : Int32) + 10 * nI s + nI j = nI (13 + (s * 10 + j)) := by
  rw [show (13 : Int32) = nI 13 from rfl, show (10 : Int32) = nI 10 from rfl, pk_mul, nI_add, nI_add]
  congr 1; omega
theorem src_zB {s o : Nat} (e : src sp pr a s = some o) : (o + 1 = s ∧ (decide (s ≠ 0) && cs sp pr a.1 a.2.1 (s - 1) s) = true) ∨ (o = s + 1 ∧ (decide (s ≠ 0) && cs sp pr a.1 a.2.1 (s - 1) s) = false ∧ cs sp pr a.1 a.2.1 (s + 1) s = true) := by
  rcases src_some e with ⟨f1, f2⟩ | ⟨f1, f2, f3⟩
  · refine Or.inl ⟨f1, ?_⟩
    have e5 : s - 1 = o := by omega
    rw [e5, f2, Bool.and_true]; simp; omega
  · subst f1
    refine Or.inr ⟨rfl, ?_, f3⟩
    rw [Bool.and_eq_false_iff]
    by_cases z2 : s ≠ 0
    · right
      cases w2 : cs sp pr a.1 a.2.1 (s - 1) s
      · rfl
      · exact absurd ⟨z2, w2⟩ f2
    · left; simpa using z2
/-- the row behind one slide -/
def mvN (N : Nat → Int32) (a : Sg) (o s : Nat) : Nat → Int32 :=
  upd (upd (upd (upd N (5 + o) (nI (a.2.1 o - 1))) (13 + (s * 10 + a.2.1 s)) (nI (a.1 (o * 10 + (a.2.1 o - 1))))) (5 + s) (nI (a.2.1 s + 1))) (93 + a.1 (o * 10 + (a.2.1 o - 1))) 1
theorem un {f : Nat → Int32} {k j : Nat} {x : Int32} (h : j ≠ k) : upd f k x j = f j := pk_un h
theorem us {f : Nat → Int32} {k : Nat} {x : Int32} : upd f k x k = x := pk_us
theorem rM_mv (n8 : n ≤ 8) (w : wfS n a) (r : rM N a pr fa dy ca du sl) {o s : Nat} (hs : s < n) (ho : o < n) (ne : o ≠ s) (q : a.2.1 s + 3 < a.2.1 o) : rM (mvN N a o s) (mv a o s) pr fa dy ca du sl := by
  obtain ⟨r1, r2, r3, r4, r5, r6, r7, r8, r9⟩ := r
  have b1 := w.1 o
  have b2 := w.1 s
  have hc := w.2.2 o (a.2.1 o - 1) (by omega)
  unfold mvN
  refine ⟨fun t ht => ?_, fun t j ht hj => ?_, fun c hcc => ?_, fun f hf => ?_, ?_, ?_, ?_, ?_, ?_⟩
  · show _ = nI (va_up (va_up a.2.1 o (a.2.1 o - 1)) s (a.2.1 s + 1) t)
    rw [un (by omega)]
    by_cases e : t = s
    · subst e
      rw [us, va_up_self]
    · rw [un (by omega), un (by omega), va_up_ne _ _ e]
      by_cases e2 : t = o
      · subst e2
        rw [us, va_up_self]
      · rw [un (by omega), va_up_ne _ _ e2]
        exact r1 t ht
  · have hj : j < va_up (va_up a.2.1 o (a.2.1 o - 1)) s (a.2.1 s + 1) t := hj
    show _ = nI (va_up a.1 (s * 10 + a.2.1 s) (a.1 (o * 10 + (a.2.1 o - 1))) (t * 10 + j))
    have bt := w.1 t
    have hj10 : j < 10 := by
      unfold va_up at hj
      split at hj
      · omega
      · split at hj <;> omega
    rw [un (by omega), un (by omega)]
    by_cases c : t * 10 + j = s * 10 + a.2.1 s
    · rw [c, us, va_up_self]
    · rw [un (by omega), un (by omega), va_up_ne _ _ c]
      apply r2 t j ht
      by_cases e : t = s
      · subst e
        rw [va_up_self] at hj
        omega
      · rw [va_up_ne _ _ e] at hj
        by_cases e2 : t = o
        · subst e2
          rw [va_up_self] at hj
          omega
        · rw [va_up_ne _ _ e2] at hj
          exact hj
  · show _ = zB1w (va_up a.2.2 (a.1 (o * 10 + (a.2.1 o - 1))) true c)
    by_cases e : c = a.1 (o * 10 + (a.2.1 o - 1))
    · rw [← e, us, va_up_self]; rfl
    · rw [un (by omega), un (by omega), un (by omega), un (by omega), va_up_ne _ _ e]
      exact r3 c hcc
  · rw [un (by omega), un (by omega), un (by omega), un (by omega)]
    exact r4 f hf
  · rw [un (by omega), un (by omega), un (by omega), un (by omega)]
    exact r5
  · rw [un (by omega), un (by omega), un (by omega), un (by omega)]
    exact r6
  · rw [un (by omega), un (by omega), un (by omega), un (by omega)]
    exact r7
  · rw [un (by omega), un (by omega), un (by omega), un (by omega)]
    exact r8
  · rw [un (by omega), un (by omega), un (by omega), un (by omega)]
    exact r9
/-- the loop's value of the seat onto which one slides next -/
def nxV (sp pr : Nat → Bool) (n : Nat) (a : Sg) (v : Int32) : Prop := ((∀ s, s < n → src sp pr a s = none) ∧ v = -1) ∨ ∃ s o, s < n ∧ (∀ t, t < s → src sp pr a t = none) ∧ src sp pr a s = some o ∧ v = nI s
end MODEL
