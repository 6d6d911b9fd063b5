/-! the model's settling; digging, both -/
section SETM
variable {N Qs Qf : Nat → Int32} {a : Sg} {pr sp : Nat → Bool} {fa : Nat → Nat} {dy ca du sl : Int32} {n : Nat}
theorem nI_nm {n : Nat} (h : n < 2 ^ 31) : ¬ nI n = -1 := fun e => nI_pos h (by rw [e]; decide)
theorem rM_sl (r : rM N a pr fa dy ca du sl) (v : Int32) : rM (upd N 3 v) a pr fa dy ca du v := by
  obtain ⟨r1, r2, r3, r4, r5, r6, r7, r8, r9⟩ := r
  exact ⟨fun t ht => by rw [un (by omega)]; exact r1 t ht, fun t j ht hj => by rw [un (by omega)]; exact r2 t j ht hj, fun c hc => by rw [un (by omega)]; exact r3 c hc, fun f hf => by rw [un (by omega)]; exact r4 f hf, by rw [un (by omega)]; exact r5, by rw [un (by omega)]; exact r6, by rw [un (by omega)]; exact r7, by rw [un (by omega)]; exact r8, us⟩
theorem rM_du (r : rM N a pr fa dy ca du sl) (v : Int32) : rM (upd N 2 v) a pr fa dy ca v sl := by
  obtain ⟨r1, r2, r3, r4, r5, r6, r7, r8, r9⟩ := r
  exact ⟨fun t ht => by rw [un (by omega)]; exact r1 t ht, fun t j ht hj => by rw [un (by omega)]; exact r2 t j ht hj, fun c hc => by rw [un (by omega)]; exact r3 c hc, fun f hf => by rw [un (by omega)]; exact r4 f hf, by rw [un (by omega)]; exact r5, by rw [un (by omega)]; exact r6, by rw [un (by omega)]; exact r7, us, by rw [un (by omega)]; exact r9⟩
theorem rM_ca (r : rM N a pr fa dy ca du sl) (v : Int32) : rM (upd N 1 v) a pr fa dy v du sl := by
  obtain ⟨r1, r2, r3, r4, r5, r6, r7, r8, r9⟩ := r
  exact ⟨fun t ht => by rw [un (by omega)]; exact r1 t ht, fun t j ht hj => by rw [un (by omega)]; exact r2 t j ht hj, fun c hc => by rw [un (by omega)]; exact r3 c hc, fun f hf => by rw [un (by omega)]; exact r4 f hf, by rw [un (by omega)]; exact r5, by rw [un (by omega)]; exact r6, us, by rw [un (by omega)]; exact r8, by rw [un (by omega)]; exact r9⟩
theorem rM_dy (r : rM N a pr fa dy ca du sl) (v : Int32) : rM (upd N 0 v) a pr fa v ca du sl := by
  obtain ⟨r1, r2, r3, r4, r5, r6, r7, r8, r9⟩ := r
  exact ⟨fun t ht => by rw [un (by omega)]; exact r1 t ht, fun t j ht hj => by rw [un (by omega)]; exact r2 t j ht hj, fun c hc => by rw [un (by omega)]; exact r3 c hc, fun f hf => by rw [un (by omega)]; exact r4 f hf, by rw [un (by omega)]; exact r5, us, by rw [un (by omega)]; exact r7, by rw [un (by omega)]; exact r8, by rw [un (by omega)]; exact r9⟩
theorem rM_pr (r : rM N a pr fa dy ca du sl) (p : Nat → Bool) : rM (upd N 4 (nI (mk8 p))) a p fa dy ca du sl := by
  obtain ⟨r1, r2, r3, r4, r5, r6, r7, r8, r9⟩ := r
  exact ⟨fun t ht => by rw [un (by omega)]; exact r1 t ht, fun t j ht hj => by rw [un (by omega)]; exact r2 t j ht hj, fun c hc => by rw [un (by omega)]; exact r3 c hc, fun f hf => by rw [un (by omega)]; exact r4 f hf, us, by rw [un (by omega)]; exact r6, by rw [un (by omega)]; exact r7, by rw [un (by omega)]; exact r8, by rw [un (by omega)]; exact r9⟩
theorem rM_fa (r : rM N a pr fa dy ca du sl) (h10 : ∀ s, a.2.1 s ≤ 10) {f : Nat} (hf : f < 24) (v : Nat) : rM (upd N (173 + f) (nI v)) a pr (va_up fa f v) dy ca du sl := by
  obtain ⟨r1, r2, r3, r4, r5, r6, r7, r8, r9⟩ := r
  refine ⟨fun t ht => by rw [un (by omega)]; exact r1 t ht, fun t j ht hj => ?_, fun c hc => by rw [un (by omega)]; exact r3 c hc, fun g hg => ?_, by rw [un (by omega)]; exact r5, by rw [un (by omega)]; exact r6, by rw [un (by omega)]; exact r7, by rw [un (by omega)]; exact r8, by rw [un (by omega)]; exact r9⟩
  · by_cases e : 13 + (t * 10 + j) = 173 + f
    · have := h10 t
      omega
    · rw [un e]; exact r2 t j ht hj
  · by_cases e : g = f
    · subst e
      rw [us, va_up_self]
    · rw [un (by omega), va_up_ne _ _ e]
      exact r4 g hg
theorem nxV_ex (sp pr : Nat → Bool) (n : Nat) (a : Sg) : ∃ v, nxV sp pr n a v := by
  by_cases hx : ∃ s, s < n ∧ src sp pr a s ≠ none
  · obtain ⟨s, ⟨hs, hne⟩, hl⟩ := pk_least (fun s => s < n ∧ src sp pr a s ≠ none) hx
    rcases e : src sp pr a s with _ | o
    · exact absurd e hne
    · have hp : ∀ t, t < s → src sp pr a t = none := fun t ht => by
        have := hl t ht
        rcases z : src sp pr a t with _ | y
        · rfl
        · exact absurd ⟨by omega, by rw [z]; exact Option.some_ne_none y⟩ this
      exact ⟨_, Or.inr ⟨s, o, hs, hp, e, rfl⟩⟩
  · have hn : ∀ s, s < n → src sp pr a s = none := fun s hs => by
      rcases z : src sp pr a s with _ | y
      · rfl
      · exact absurd ⟨s, hs, by rw [z]; exact Option.some_ne_none y⟩ hx
    exact ⟨_, Or.inl ⟨hn, rfl⟩⟩
theorem nxV_none {v : Int32} (h : nxV sp pr n a v) (hn : ∀ s, s < n → src sp pr a s = none) : v = -1 := by
  rcases h with h | ⟨s, o, hs, hp, e, rfl⟩
  · exact h.2
  · rw [hn s hs] at e; cases e
theorem nxV_some {v : Int32} (h : nxV sp pr n a v) {s o : Nat} (hs : s < n) (hp : ∀ t, t < s → src sp pr a t = none) (e : src sp pr a s = some o) : v = nI s := by
  rcases h with h | ⟨s2, o2, hs2, hp2, e2, rfl⟩
  · rw [h.1 s hs] at e; cases e
  · rcases Nat.lt_trichotomy s s2 with z | z | z
    · rw [hp2 s z] at e; cases e
    · rw [z]
    · rw [hp s2 z] at e2; cases e2
theorem nxV_one {v v' : Int32} (h : nxV sp pr n a v) (h' : nxV sp pr n a v') : v = v' := by
  rcases h' with h' | ⟨s2, o2, hs2, hp2, e2, rfl⟩
  · rw [h'.2]; exact nxV_none h h'.1
  · exact nxV_some h hs2 hp2 e2
end SETM
section SETC
variable {S H P T L : Nat → Int32} {sl : Int32} {pr sp : Nat → Bool} {n : Nat}
theorem sz_settle {K : ((Nat → Int32) × (Nat → Int32) × (Nat → Int32) × Int32) → Prop} (n8 : n ≤ 8) (rp : rB 8 P pr) (rt : rB 80 T sp) {k : Nat} {a b : Sg} (hst : Stl sp pr n k a b) (hk : k ≤ 800) (w : wfS n a) (rs : rN 80 S a.1) (rh : rN 8 H a.2.1) (rl : rB 80 L a.2.2)
    (kk : ∀ S' H' L', rN 80 S' b.1 → rN 8 H' b.2.1 → rB 80 L' b.2.2 → K (S', H', L', sl + nI k)) : wX4_settle (nI n) T S H L P sl K := by
  unfold wX4_settle
  exact sz_settle_loop n8 rp rt k a b sl hst w S H L rs rh rl kk n 0 0 (by omega) (fun t ht => absurd ht (Nat.not_lt_zero t)) (by omega)
end SETC
