/-! a sofa at its beginning, both -/
def a0 (t : Tl) : Sg := (fun k => k, fun s => if s < tN t then tM t else 0, fun _ => false)
def x0 (t : Tl) : Gs := (a0 t, fun _ => false, fun _ => 0, 0, 0, 0, 0)
theorem wfX_0 {t : Tl} (wt : wfT t) : wfX t (x0 t) := by
  have n8 := wt.1.2
  have m10 := wt.2.1.2
  have hj : ∀ s j, j < (a0 t).2.1 s → s < tN t ∧ j < tM t := by
    intro s j h
    have h : j < if s < tN t then tM t else 0 := h
    by_cases z : s < tN t
    · rw [if_pos z] at h; exact ⟨z, h⟩
    · rw [if_neg z] at h; omega
  refine ⟨⟨fun s => ?_, fun s hs => ?_, fun s j h => ?_⟩, fun s j f _ _ => rfl, fun s j s' j' h h' e => ?_, fun f hf _ => ?_, fun s _ => rfl, fun f _ => rfl, fun f => Nat.zero_le _⟩
  · show (if s < tN t then tM t else 0) ≤ 10
    split <;> omega
  · show (if s < tN t then tM t else 0) = 0
    rw [if_neg (by omega)]
  · have := hj s j h
    show s * 10 + j < 80
    omega
  · have h1 := hj s j h
    have h2 := hj s' j' h'
    have e : s * 10 + j = s' * 10 + j' := e
    exact ⟨by omega, by omega⟩
  · obtain ⟨-, -, h3, h4⟩ := wt.2.2.2.2.1 f hf
    refine ⟨tCu t f / 10, tCu t f % 10, h4, ?_, ?_⟩
    · show tCu t f % 10 < if tCu t f / 10 < tN t then tM t else 0
      rw [if_pos h4]; exact h3
    · show tCu t f / 10 * 10 + tCu t f % 10 = tCu t f
      omega
section BEGIN
variable {S H L P F U N : Nat → Int32} {y0 y1 y2 y3 y4 y5 y6 : Int32} {t : Tl}
theorem sz_begin {K : ((Nat → Int32) × (Nat → Int32) × (Nat → Int32) × (Nat → Int32) × (Nat → Int32) × (Nat → Int32) × Int32 × Int32 × Int32 × Int32 × Int32 × Int32 × Int32) → Prop} (wt : wfT t) (kk : ∀ S' H' L' P' F' U', rSG S' H' L' P' F' U' 0 0 0 0 0 0 0 (x0 t) → K (S', H', L', P', F', U', 0, 0, 0, 0, 0, 0, 0)) : wX4_begin (nI (tN t)) (nI (tM t)) S H L P F U y0 y1 y2 y3 y4 y5 y6 K := by
  have n8 := wt.1.2
  unfold wX4_begin
  refine pk_loop (fun n i (q : (Nat → Int32) × (Nat → Int32)) => wX4_begin_7 K (nI (tN t)) (nI (tM t)) n q.1 H q.2 P F U y0 y1 y2 y3 y4 y5 y6 (nI i)) (fun i q => (∀ j, j < i → q.1 j = nI j) ∧ ∀ j, j < i → q.2 j = 0) 80 0 (S, L) (by omega) ⟨fun j h => absurd h (Nat.not_lt_zero j), fun j h => absurd h (Nat.not_lt_zero j)⟩ (fun n q hq => ?_) (fun n i q hi hq ih => ?_)
  · unfold wX4_begin_7
    refine br_t (by decide) ?_
    refine pk_loop (fun n i (v : (Nat → Int32) × (Nat → Int32)) => wX4_begin_35 K (nI (tN t)) (nI (tM t)) n q.1 v.1 q.2 v.2 F U y0 y1 y2 y3 y4 y5 y6 (nI i)) (fun i v => (∀ j, j < i → v.1 j = nI ((a0 t).2.1 j)) ∧ ∀ j, j < i → v.2 j = 0) 8 0 (H, P) (by omega) ⟨fun j h => absurd h (Nat.not_lt_zero j), fun j h => absurd h (Nat.not_lt_zero j)⟩ (fun n v hv => ?_) (fun n i v hi hv ih => ?_)
    · unfold wX4_begin_35
      refine br_t (by decide) ?_
      refine pk_loop (fun n i (z : (Nat → Int32) × (Nat → Int32)) => wX4_begin_84 K (nI (tN t)) (nI (tM t)) n q.1 v.1 q.2 v.2 z.1 z.2 y0 y1 y2 y3 y4 y5 y6 (nI i)) (fun i z => (∀ j, j < i → z.1 j = 0) ∧ ∀ j, j < i → z.2 j = 0) 24 0 (F, U) (by omega) ⟨fun j h => absurd h (Nat.not_lt_zero j), fun j h => absurd h (Nat.not_lt_zero j)⟩ (fun n z hz => ?_) (fun n i z hi hz ih => ?_)
      · unfold wX4_begin_84
        refine br_t (by decide) ?_
        exact kk _ _ _ _ _ _ ⟨⟨hq.1, hv.1, fun j h => hq.2 j h, fun j h => hv.2 j h, fun j h => hz.1 j h, fun j h => hz.2 j h, rfl, rfl, rfl⟩, rfl, rfl, rfl, rfl⟩
      · unfold wX4_begin_84
        refine br_f (nI_ge (b := 24) hi (by decide)) ⟨vp_in_nI hi (by decide), vp_in_nI hi (by decide), ?_⟩
        rw [nI_clamp (by omega), nI_1]
        exact ih (upd z.1 i 0, upd z.2 i 0) ⟨up_i (g := fun _ => 0) hz.1, up_i (g := fun _ => 0) hz.2⟩
    · unfold wX4_begin_35 wX4_begin_68
      rw [nI_clamp (by omega), nI_1]
      have ih2 := ih (upd v.1 i (nI ((a0 t).2.1 i)), upd v.2 i 0) ⟨up_i (g := fun j => nI ((a0 t).2.1 j)) hv.1, up_i (g := fun _ => 0) hv.2⟩
      have e : (a0 t).2.1 i = if i < tN t then tM t else 0 := rfl
      rw [e] at ih2
      refine br_f (nI_ge (b := 8) hi (by decide)) (pk_le (tN t) i (fun z => ⟨vp_in_nI hi (by decide), vp_in_nI hi (by decide), ?_⟩) (fun z => ⟨vp_in_nI hi (by decide), vp_in_nI hi (by decide), ?_⟩))
      · rw [if_neg (by omega)] at ih2; exact ih2
      · rw [if_pos z] at ih2; exact ih2
  · unfold wX4_begin_7
    refine br_f (nI_ge (b := 80) hi (by decide)) ⟨vp_in_nI hi (by decide), vp_in_nI hi (by decide), ?_⟩
    rw [nI_clamp (by omega), nI_1]
    exact ih (upd q.1 i (nI i), upd q.2 i 0) ⟨up_i (g := fun j => nI j) hq.1, up_i (g := fun _ => 0) hq.2⟩
end BEGIN
