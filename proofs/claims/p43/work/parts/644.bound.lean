/-! PURE: how many tokens and steps a tree has. -/
theorem pf_le {e : Nat} : ∀ (d : Nat) (b : Bool) (x : Tr d), trW e d b x → (pf d x).length ≤ (tkT d x).length := by
  intro d
  induction d with
  | zero => intro b x h; exact h.elim
  | succ d ih =>
    intro b x h
    obtain ⟨w1, w2, w3, w4, w5⟩ := h
    have iA : knA (trQ x) → (pf d (trL x)).length ≤ (tkT d (trL x)).length := fun hA => ih _ _ (w4 hA)
    have iB : knB (trQ x) → (pf d (trR x)).length ≤ (tkT d (trR x)).length := fun hB => ih _ _ (w5 hB)
    have hk : trQ x ≤ 14 ∨ (20 ≤ trQ x ∧ trQ x ≤ 31 ∧ trQ x ≠ 27 ∧ trQ x ≠ 28) := by
      cases b
      · rw [if_neg (by decide)] at w1; exact Or.inl w1
      · rw [if_pos rfl] at w1; exact Or.inr w1
    rcases hk with hk | hk
    · rcases k_sums hk with h | h | h | h | h | h | h | h | h | h | h | h | h | h | h
      · rw [(tk_0 h).2, (tk_0 h).1]
        simp only [pT_len, bT_len, qT_len, List.length_append, List.length_cons, List.length_nil]
        omega
      · rw [(tk_1 h).2, (tk_1 h).1]
        simp only [pT_len, bT_len, qT_len, List.length_append, List.length_cons, List.length_nil]
        omega
      · rw [(tk_2 h).2, (tk_2 h).1]
        simp only [pT_len, bT_len, qT_len, List.length_append, List.length_cons, List.length_nil]
        omega
      · rw [(tk_3 h).2, (tk_3 h).1]
        simp only [pT_len, bT_len, qT_len, List.length_append, List.length_cons, List.length_nil]
        omega
      · rw [(tk_4 h).2, (tk_4 h).1]
        simp only [pT_len, bT_len, qT_len, List.length_append, List.length_cons, List.length_nil]
        omega
      · rw [(tk_5 h).2, (tk_5 h).1]
        simp only [pT_len, bT_len, qT_len, List.length_append, List.length_cons, List.length_nil]
        omega
      · rw [(tk_6 h).2, (tk_6 h).1]
        simp only [pT_len, bT_len, qT_len, List.length_append, List.length_cons, List.length_nil]
        omega
      · rw [(tk_7 h).2, (tk_7 h).1]
        have a1 := iA (by rw [h]; exact ⟨by decide, by decide⟩)
        simp only [pT_len, bT_len, qT_len, List.length_append, List.length_cons, List.length_nil]
        omega
      · rw [(tk_8 h).2, (tk_8 h).1]
        have a1 := iA (by rw [h]; exact ⟨by decide, by decide⟩)
        simp only [pT_len, bT_len, qT_len, List.length_append, List.length_cons, List.length_nil]
        omega
      · rw [(tk_9 h).2, (tk_9 h).1]
        have a1 := iA (by rw [h]; exact ⟨by decide, by decide⟩)
        have b1 := iB (by rw [h]; exact ⟨by decide, by decide, by decide, by decide⟩)
        simp only [pT_len, bT_len, qT_len, List.length_append, List.length_cons, List.length_nil]
        omega
      · rw [(tk_10 h).2, (tk_10 h).1]
        have a1 := iA (by rw [h]; exact ⟨by decide, by decide⟩)
        have b1 := iB (by rw [h]; exact ⟨by decide, by decide, by decide, by decide⟩)
        simp only [pT_len, bT_len, qT_len, List.length_append, List.length_cons, List.length_nil]
        omega
      · rw [(tk_11 h).2, (tk_11 h).1]
        have a1 := iA (by rw [h]; exact ⟨by decide, by decide⟩)
        have b1 := iB (by rw [h]; exact ⟨by decide, by decide, by decide, by decide⟩)
        simp only [pT_len, bT_len, qT_len, List.length_append, List.length_cons, List.length_nil]
        omega
      · rw [(tk_12 h).2, (tk_12 h).1]
        have a1 := iA (by rw [h]; exact ⟨by decide, by decide⟩)
        have b1 := iB (by rw [h]; exact ⟨by decide, by decide, by decide, by decide⟩)
        simp only [pT_len, bT_len, qT_len, List.length_append, List.length_cons, List.length_nil]
        omega
      · rw [(tk_13 h).2, (tk_13 h).1]
        have a1 := iA (by rw [h]; exact ⟨by decide, by decide⟩)
        have b1 := iB (by rw [h]; exact ⟨by decide, by decide, by decide, by decide⟩)
        simp only [pT_len, bT_len, qT_len, List.length_append, List.length_cons, List.length_nil]
        omega
      · rw [(tk_14 h).2, (tk_14 h).1]
        have a1 := iA (by rw [h]; exact ⟨by decide, by decide⟩)
        have b1 := iB (by rw [h]; exact ⟨by decide, by decide, by decide, by decide⟩)
        simp only [pT_len, bT_len, qT_len, List.length_append, List.length_cons, List.length_nil]
        omega
    · rcases k_tests hk with h | h | h | h | h | h | h | h | h | h
      · rw [(tk_20 h).2, (tk_20 h).1]
        have a1 := iA (by rw [h]; exact ⟨by decide, by decide⟩)
        have b1 := iB (by rw [h]; exact ⟨by decide, by decide, by decide, by decide⟩)
        simp only [pT_len, bT_len, qT_len, List.length_append, List.length_cons, List.length_nil]
        omega
      · rw [(tk_21 h).2, (tk_21 h).1]
        have a1 := iA (by rw [h]; exact ⟨by decide, by decide⟩)
        have b1 := iB (by rw [h]; exact ⟨by decide, by decide, by decide, by decide⟩)
        simp only [pT_len, bT_len, qT_len, List.length_append, List.length_cons, List.length_nil]
        omega
      · rw [(tk_22 h).2, (tk_22 h).1]
        have a1 := iA (by rw [h]; exact ⟨by decide, by decide⟩)
        have b1 := iB (by rw [h]; exact ⟨by decide, by decide, by decide, by decide⟩)
        simp only [pT_len, bT_len, qT_len, List.length_append, List.length_cons, List.length_nil]
        omega
      · rw [(tk_23 h).2, (tk_23 h).1]
        have a1 := iA (by rw [h]; exact ⟨by decide, by decide⟩)
        have b1 := iB (by rw [h]; exact ⟨by decide, by decide, by decide, by decide⟩)
        simp only [pT_len, bT_len, qT_len, List.length_append, List.length_cons, List.length_nil]
        omega
      · rw [(tk_24 h).2, (tk_24 h).1]
        have a1 := iA (by rw [h]; exact ⟨by decide, by decide⟩)
        have b1 := iB (by rw [h]; exact ⟨by decide, by decide, by decide, by decide⟩)
        simp only [pT_len, bT_len, qT_len, List.length_append, List.length_cons, List.length_nil]
        omega
      · rw [(tk_25 h).2, (tk_25 h).1]
        simp only [pT_len, bT_len, qT_len, List.length_append, List.length_cons, List.length_nil]
        omega
      · rw [(tk_26 h).2, (tk_26 h).1]
        have a1 := iA (by rw [h]; exact ⟨by decide, by decide⟩)
        simp only [pT_len, bT_len, qT_len, List.length_append, List.length_cons, List.length_nil]
        omega
      · rw [(tk_29 h).2, (tk_29 h).1]
        have a1 := iA (by rw [h]; exact ⟨by decide, by decide⟩)
        simp only [pT_len, bT_len, qT_len, List.length_append, List.length_cons, List.length_nil]
        omega
      · rw [(tk_30 h).2, (tk_30 h).1]
        have a1 := iA (by rw [h]; exact ⟨by decide, by decide⟩)
        have b1 := iB (by rw [h]; exact ⟨by decide, by decide, by decide, by decide⟩)
        simp only [pT_len, bT_len, qT_len, List.length_append, List.length_cons, List.length_nil]
        omega
      · rw [(tk_31 h).2, (tk_31 h).1]
        have a1 := iA (by rw [h]; exact ⟨by decide, by decide⟩)
        have b1 := iB (by rw [h]; exact ⟨by decide, by decide, by decide, by decide⟩)
        simp only [pT_len, bT_len, qT_len, List.length_append, List.length_cons, List.length_nil]
        omega
def mxN (a b : Nat) : Nat := if a ≤ b then b else a
/-- sums: at level d at most 4·2^d - 5 tokens -/
theorem uS_le {e : Nat} : ∀ (d : Nat) (x : Tr d), trW e d false x → (tkT d x).length + 5 ≤ 4 * 2 ^ d := by
  intro d
  induction d with
  | zero => intro x h; exact h.elim
  | succ d ih =>
    intro x h
    obtain ⟨w1, w2, w3, w4, w5⟩ := h
    rw [if_neg (by decide)] at w1
    have d29 : decide (29 ≤ trQ x) = false := decide_eq_false (by omega)
    rw [d29] at w4 w5
    have hp : 2 ^ (d + 1) = 2 * 2 ^ d := by rw [Nat.pow_succ]; omega
    have hp0 : 0 < 2 ^ d := Nat.two_pow_pos d
    have iA : knA (trQ x) → (tkT d (trL x)).length + 5 ≤ 4 * 2 ^ d ∧ 2 ≤ 2 ^ d := fun hA => ⟨ih _ (w4 hA), by
      have h1 := w_d (w4 hA)
      have := Nat.pow_le_pow_right (show 0 < 2 by decide) h1
      omega⟩
    have iB : knB (trQ x) → (tkT d (trR x)).length + 5 ≤ 4 * 2 ^ d := fun hB => ih _ (w5 hB)
    rw [hp]
    rcases k_sums w1 with h | h | h | h | h | h | h | h | h | h | h | h | h | h | h
    · rw [(tk_0 h).1]
      simp only [pT_len, bT_len, qT_len, List.length_append, List.length_cons, List.length_nil]
      omega
    · rw [(tk_1 h).1]
      simp only [pT_len, bT_len, qT_len, List.length_append, List.length_cons, List.length_nil]
      omega
    · rw [(tk_2 h).1]
      simp only [pT_len, bT_len, qT_len, List.length_append, List.length_cons, List.length_nil]
      omega
    · rw [(tk_3 h).1]
      simp only [pT_len, bT_len, qT_len, List.length_append, List.length_cons, List.length_nil]
      omega
    · rw [(tk_4 h).1]
      simp only [pT_len, bT_len, qT_len, List.length_append, List.length_cons, List.length_nil]
      omega
    · rw [(tk_5 h).1]
      simp only [pT_len, bT_len, qT_len, List.length_append, List.length_cons, List.length_nil]
      omega
    · rw [(tk_6 h).1]
      simp only [pT_len, bT_len, qT_len, List.length_append, List.length_cons, List.length_nil]
      omega
    · rw [(tk_7 h).1]
      have a1 := iA (by rw [h]; exact ⟨by decide, by decide⟩)
      simp only [pT_len, bT_len, qT_len, List.length_append, List.length_cons, List.length_nil]
      omega
    · rw [(tk_8 h).1]
      have a1 := iA (by rw [h]; exact ⟨by decide, by decide⟩)
      simp only [pT_len, bT_len, qT_len, List.length_append, List.length_cons, List.length_nil]
      omega
    · rw [(tk_9 h).1]
      have a1 := iA (by rw [h]; exact ⟨by decide, by decide⟩)
      have b1 := iB (by rw [h]; exact ⟨by decide, by decide, by decide, by decide⟩)
      simp only [pT_len, bT_len, qT_len, List.length_append, List.length_cons, List.length_nil]
      omega
    · rw [(tk_10 h).1]
      have a1 := iA (by rw [h]; exact ⟨by decide, by decide⟩)
      have b1 := iB (by rw [h]; exact ⟨by decide, by decide, by decide, by decide⟩)
      simp only [pT_len, bT_len, qT_len, List.length_append, List.length_cons, List.length_nil]
      omega
    · rw [(tk_11 h).1]
      have a1 := iA (by rw [h]; exact ⟨by decide, by decide⟩)
      have b1 := iB (by rw [h]; exact ⟨by decide, by decide, by decide, by decide⟩)
      simp only [pT_len, bT_len, qT_len, List.length_append, List.length_cons, List.length_nil]
      omega
    · rw [(tk_12 h).1]
      have a1 := iA (by rw [h]; exact ⟨by decide, by decide⟩)
      have b1 := iB (by rw [h]; exact ⟨by decide, by decide, by decide, by decide⟩)
      simp only [pT_len, bT_len, qT_len, List.length_append, List.length_cons, List.length_nil]
      omega
    · rw [(tk_13 h).1]
      have a1 := iA (by rw [h]; exact ⟨by decide, by decide⟩)
      have b1 := iB (by rw [h]; exact ⟨by decide, by decide, by decide, by decide⟩)
      simp only [pT_len, bT_len, qT_len, List.length_append, List.length_cons, List.length_nil]
      omega
    · rw [(tk_14 h).1]
      have a1 := iA (by rw [h]; exact ⟨by decide, by decide⟩)
      have b1 := iB (by rw [h]; exact ⟨by decide, by decide, by decide, by decide⟩)
      simp only [pT_len, bT_len, qT_len, List.length_append, List.length_cons, List.length_nil]
      omega
theorem uT_1 {e : Nat} {x : Tr 1} (h : trW e 1 true x) : (tkT 1 x).length ≤ 2 := by
  obtain ⟨w1, w2, w3, w4, w5⟩ := h
  rw [if_pos rfl] at w1
  have no : ¬ knA (trQ x) := fun hA => (w4 hA).elim
  rcases k_tests w1 with h | h | h | h | h | h | h | h | h | h
  · exact absurd (show knA (trQ x) by rw [h]; exact ⟨by decide, by decide⟩) no
  · exact absurd (show knA (trQ x) by rw [h]; exact ⟨by decide, by decide⟩) no
  · exact absurd (show knA (trQ x) by rw [h]; exact ⟨by decide, by decide⟩) no
  · exact absurd (show knA (trQ x) by rw [h]; exact ⟨by decide, by decide⟩) no
  · exact absurd (show knA (trQ x) by rw [h]; exact ⟨by decide, by decide⟩) no
  · rw [(tk_25 h).1]
    exact Nat.le_refl _
  · exact absurd (show knA (trQ x) by rw [h]; exact ⟨by decide, by decide⟩) no
  · exact absurd (show knA (trQ x) by rw [h]; exact ⟨by decide, by decide⟩) no
  · exact absurd (show knA (trQ x) by rw [h]; exact ⟨by decide, by decide⟩) no
  · exact absurd (show knA (trQ x) by rw [h]; exact ⟨by decide, by decide⟩) no
theorem uT_s {e d S V : Nat} {x : Tr (d + 1)} (hS : ∀ y : Tr d, trW e d false y → (tkT d y).length ≤ S) (hV : ∀ y : Tr d, trW e d true y → (tkT d y).length ≤ V) (h : trW e (d + 1) true x) : (tkT (d + 1) x).length ≤ 2 * S + 1 ∨ (tkT (d + 1) x).length ≤ 2 * V + 5 := by
  obtain ⟨w1, w2, w3, w4, w5⟩ := h
  rw [if_pos rfl] at w1
  rcases k_tests w1 with h | h | h | h | h | h | h | h | h | h
  · have eq : trQ x = 20 := h
    have hA : knA (trQ x) := by rw [eq]; exact ⟨by decide, by decide⟩
    have hB : knB (trQ x) := by rw [eq]; exact ⟨by decide, by decide, by decide, by decide⟩
    have d29 : decide (29 ≤ trQ x) = false := by rw [eq]; rfl
    rw [d29] at w4 w5
    have a1 := hS _ (w4 hA)
    have b1 := hS _ (w5 hB)
    rw [(tk_20 eq).1]
    simp only [pT_len, bT_len, qT_len, List.length_append, List.length_cons, List.length_nil]
    left
    omega
  · have eq : trQ x = 21 := h
    have hA : knA (trQ x) := by rw [eq]; exact ⟨by decide, by decide⟩
    have hB : knB (trQ x) := by rw [eq]; exact ⟨by decide, by decide, by decide, by decide⟩
    have d29 : decide (29 ≤ trQ x) = false := by rw [eq]; rfl
    rw [d29] at w4 w5
    have a1 := hS _ (w4 hA)
    have b1 := hS _ (w5 hB)
    rw [(tk_21 eq).1]
    simp only [pT_len, bT_len, qT_len, List.length_append, List.length_cons, List.length_nil]
    left
    omega
  · have eq : trQ x = 22 := h
    have hA : knA (trQ x) := by rw [eq]; exact ⟨by decide, by decide⟩
    have hB : knB (trQ x) := by rw [eq]; exact ⟨by decide, by decide, by decide, by decide⟩
    have d29 : decide (29 ≤ trQ x) = false := by rw [eq]; rfl
    rw [d29] at w4 w5
    have a1 := hS _ (w4 hA)
    have b1 := hS _ (w5 hB)
    rw [(tk_22 eq).1]
    simp only [pT_len, bT_len, qT_len, List.length_append, List.length_cons, List.length_nil]
    left
    omega
  · have eq : trQ x = 23 := h
    have hA : knA (trQ x) := by rw [eq]; exact ⟨by decide, by decide⟩
    have hB : knB (trQ x) := by rw [eq]; exact ⟨by decide, by decide, by decide, by decide⟩
    have d29 : decide (29 ≤ trQ x) = false := by rw [eq]; rfl
    rw [d29] at w4 w5
    have a1 := hS _ (w4 hA)
    have b1 := hS _ (w5 hB)
    rw [(tk_23 eq).1]
    simp only [pT_len, bT_len, qT_len, List.length_append, List.length_cons, List.length_nil]
    left
    omega
  · have eq : trQ x = 24 := h
    have hA : knA (trQ x) := by rw [eq]; exact ⟨by decide, by decide⟩
    have hB : knB (trQ x) := by rw [eq]; exact ⟨by decide, by decide, by decide, by decide⟩
    have d29 : decide (29 ≤ trQ x) = false := by rw [eq]; rfl
    rw [d29] at w4 w5
    have a1 := hS _ (w4 hA)
    have b1 := hS _ (w5 hB)
    rw [(tk_24 eq).1]
    simp only [pT_len, bT_len, qT_len, List.length_append, List.length_cons, List.length_nil]
    left
    omega
  · have eq : trQ x = 25 := h
    have d29 : decide (29 ≤ trQ x) = false := by rw [eq]; rfl
    rw [d29] at w4 w5
    rw [(tk_25 eq).1]
    simp only [pT_len, bT_len, qT_len, List.length_append, List.length_cons, List.length_nil]
    right
    omega
  · have eq : trQ x = 26 := h
    have hA : knA (trQ x) := by rw [eq]; exact ⟨by decide, by decide⟩
    have d29 : decide (29 ≤ trQ x) = false := by rw [eq]; rfl
    rw [d29] at w4 w5
    have a1 := hS _ (w4 hA)
    rw [(tk_26 eq).1]
    simp only [pT_len, bT_len, qT_len, List.length_append, List.length_cons, List.length_nil]
    left
    have p1 : 1 ≤ S := by
      have := pf_pos (w4 hA)
      have := pf_le _ _ _ (w4 hA)
      omega
    omega
  · have eq : trQ x = 29 := h
    have hA : knA (trQ x) := by rw [eq]; exact ⟨by decide, by decide⟩
    have d29 : decide (29 ≤ trQ x) = true := by rw [eq]; rfl
    rw [d29] at w4 w5
    have a1 := hV _ (w4 hA)
    rw [(tk_29 eq).1]
    simp only [pT_len, bT_len, qT_len, List.length_append, List.length_cons, List.length_nil]
    right
    omega
  · have eq : trQ x = 30 := h
    have hA : knA (trQ x) := by rw [eq]; exact ⟨by decide, by decide⟩
    have hB : knB (trQ x) := by rw [eq]; exact ⟨by decide, by decide, by decide, by decide⟩
    have d29 : decide (29 ≤ trQ x) = true := by rw [eq]; rfl
    rw [d29] at w4 w5
    have a1 := hV _ (w4 hA)
    have b1 := hV _ (w5 hB)
    rw [(tk_30 eq).1]
    simp only [pT_len, bT_len, qT_len, List.length_append, List.length_cons, List.length_nil]
    right
    omega
  · have eq : trQ x = 31 := h
    have hA : knA (trQ x) := by rw [eq]; exact ⟨by decide, by decide⟩
    have hB : knB (trQ x) := by rw [eq]; exact ⟨by decide, by decide, by decide, by decide⟩
    have d29 : decide (29 ≤ trQ x) = true := by rw [eq]; rfl
    rw [d29] at w4 w5
    have a1 := hV _ (w4 hA)
    have b1 := hV _ (w5 hB)
    rw [(tk_31 eq).1]
    simp only [pT_len, bT_len, qT_len, List.length_append, List.length_cons, List.length_nil]
    right
    omega
theorem uT_4 {e : Nat} {x : Tr 4} (h : trW e 4 true x) : (tkT 4 x).length ≤ 55 := by
  have s1 : ∀ y : Tr 1, trW e 1 false y → (tkT 1 y).length ≤ 3 := fun y h => by have := uS_le 1 y h; omega
  have s2 : ∀ y : Tr 2, trW e 2 false y → (tkT 2 y).length ≤ 11 := fun y h => by have := uS_le 2 y h; omega
  have s3 : ∀ y : Tr 3, trW e 3 false y → (tkT 3 y).length ≤ 27 := fun y h => by have := uS_le 3 y h; omega
  have t2 : ∀ y : Tr 2, trW e 2 true y → (tkT 2 y).length ≤ 9 := fun y h => by
    have q : (tkT 2 y).length ≤ 2 * 3 + 1 ∨ (tkT 2 y).length ≤ 2 * 2 + 5 := uT_s s1 (fun z hz => uT_1 hz) h
    omega
  have t3 : ∀ y : Tr 3, trW e 3 true y → (tkT 3 y).length ≤ 23 := fun y h => by
    have q : (tkT 3 y).length ≤ 2 * 11 + 1 ∨ (tkT 3 y).length ≤ 2 * 9 + 5 := uT_s s2 t2 h
    omega
  have q : (tkT 4 x).length ≤ 2 * 27 + 1 ∨ (tkT 4 x).length ≤ 2 * 23 + 5 := uT_s s3 t3 h
  omega
theorem uS_2 {e : Nat} {x : Tr 2} (h : trW e 2 false x) : (tkT 2 x).length ≤ 11 := by
  have := uS_le 2 x h
  omega
