/-! what would be: the trial sofa, the row kept and brought back -/
theorem nar_zB (b : Bool) : vp_nar .boolean (zB1w b) = zB1w b := by cases b <;> rfl
theorem rN_of {n : Nat} {f : Nat → Int32} {g : Nat → Nat} (h : ∀ j, j < n → f j = nI (g j)) : rN n f g := h
section COPY
variable {S H L P F U S0 H0 L0 P0 F0 U0 : Nat → Int32} {dy ca du sl fc sc pc y0 y1 y2 y3 y4 y5 y6 : Int32} {x : Gs}
theorem up_i {f : Nat → Int32} {g : Nat → Int32} {i : Nat} (h : ∀ j, j < i → f j = g j) : ∀ j, j < i + 1 → upd f i (g i) j = g j := by
  intro j hj
  by_cases e : j = i
  · subst e; exact us
  · rw [un e]; exact h j (by omega)
theorem sz_copyFrom {K : ((Nat → Int32) × (Nat → Int32) × (Nat → Int32) × (Nat → Int32) × (Nat → Int32) × (Nat → Int32) × Int32 × Int32 × Int32 × Int32 × Int32 × Int32 × Int32) → Prop} (r : rS S H L P F U fc sc pc (gA1w x) (gP x) (gF1w x))
    (kk : ∀ S' H' L' P' F' U', rS S' H' L' P' F' U' fc sc pc (gA1w x) (gP x) (gF1w x) → K (S', H', L', P', F', U', dy, ca, du, sl, fc, sc, pc)) : wX4_copyFrom S0 H0 L0 P0 F0 U0 y0 y1 y2 y3 y4 y5 y6 S H L P F U dy ca du sl fc sc pc K := by
  obtain ⟨rs, rh, rl, rp, rF, rU, hf, hsc, hpc⟩ := r
  unfold wX4_copyFrom
  refine pk_loop (fun n i (q : (Nat → Int32) × (Nat → Int32)) => wX4_copyFrom_10 K S H L P F U dy ca du sl fc sc pc n q.1 H0 q.2 P0 F0 U0 y0 y1 y2 y3 y4 y5 y6 (nI i)) (fun i q => (∀ j, j < i → q.1 j = S j) ∧ ∀ j, j < i → q.2 j = L j) 80 0 (S0, L0) (by omega) ⟨fun j h => absurd h (Nat.not_lt_zero j), fun j h => absurd h (Nat.not_lt_zero j)⟩ (fun n q hq => ?_) (fun n i q hi hq ih => ?_)
  · unfold wX4_copyFrom_10
    refine br_t (by decide) ?_
    refine pk_loop (fun n i (v : (Nat → Int32) × (Nat → Int32)) => wX4_copyFrom_48 K S H L P F U dy ca du sl fc sc pc n q.1 v.1 q.2 v.2 F0 U0 y0 y1 y2 y3 y4 y5 y6 (nI i)) (fun i v => (∀ j, j < i → v.1 j = H j) ∧ ∀ j, j < i → v.2 j = P j) 8 0 (H0, P0) (by omega) ⟨fun j h => absurd h (Nat.not_lt_zero j), fun j h => absurd h (Nat.not_lt_zero j)⟩ (fun n v hv => ?_) (fun n i v hi hv ih => ?_)
    · unfold wX4_copyFrom_48
      refine br_t (by decide) ?_
      refine pk_loop (fun n i (z : (Nat → Int32) × (Nat → Int32)) => wX4_copyFrom_86 K S H L P F U dy ca du sl fc sc pc n q.1 v.1 q.2 v.2 z.1 z.2 y0 y1 y2 y3 y4 y5 y6 (nI i)) (fun i z => (∀ j, j < i → z.1 j = F j) ∧ ∀ j, j < i → z.2 j = U j) 24 0 (F0, U0) (by omega) ⟨fun j h => absurd h (Nat.not_lt_zero j), fun j h => absurd h (Nat.not_lt_zero j)⟩ (fun n z hz => ?_) (fun n i z hi hz ih => ?_)
      · unfold wX4_copyFrom_86
        refine br_t (by decide) ?_
        exact kk _ _ _ _ _ _ ⟨fun j h => by rw [hq.1 j h]; exact rs j h, fun j h => by rw [hv.1 j h]; exact rh j h, fun j h => by rw [hq.2 j h]; exact rl j h, fun j h => by rw [hv.2 j h]; exact rp j h, fun j h => by rw [hz.1 j h]; exact rF j h, fun j h => by rw [hz.2 j h]; exact rU j h, hf, hsc, hpc⟩
      · unfold wX4_copyFrom_86
        refine br_f (nI_ge (b := 24) hi (by decide)) ⟨vp_in_nI hi (by decide), vp_in_nI hi (by decide), vp_in_nI hi (by decide), vp_in_nI hi (by decide), ?_⟩
        rw [nI_clamp (by omega), nI_1, rF i hi, nar_zB, ← rF i hi, rU i hi, nar_zB, ← rU i hi]
        exact ih (upd z.1 i (F i), upd z.2 i (U i)) ⟨up_i hz.1, up_i hz.2⟩
    · unfold wX4_copyFrom_48
      refine br_f (nI_ge (b := 8) hi (by decide)) ⟨vp_in_nI hi (by decide), vp_in_nI hi (by decide), vp_in_nI hi (by decide), vp_in_nI hi (by decide), ?_⟩
      rw [nI_clamp (by omega), nI_1, rp i hi, nar_zB, ← rp i hi]
      exact ih (upd v.1 i (H i), upd v.2 i (P i)) ⟨up_i hv.1, up_i hv.2⟩
  · unfold wX4_copyFrom_10
    refine br_f (nI_ge (b := 80) hi (by decide)) ⟨vp_in_nI hi (by decide), vp_in_nI hi (by decide), vp_in_nI hi (by decide), vp_in_nI hi (by decide), ?_⟩
    rw [nI_clamp (by omega), nI_1, rl i hi, nar_zB, ← rl i hi]
    exact ih (upd q.1 i (S i), upd q.2 i (L i)) ⟨up_i hq.1, up_i hq.2⟩
end COPY
theorem rM_ext {N N' : Nat → Int32} {a : Sg} {pr : Nat → Bool} {fa : Nat → Nat} {dy ca du sl : Int32} (h : ∀ j, j < 197 → N' j = N j) (h10 : ∀ s, a.2.1 s ≤ 10) (r : rM N a pr fa dy ca du sl) : rM N' a pr fa dy ca du sl := by
  obtain ⟨r1, r2, r3, r4, r5, r6, r7, r8, r9⟩ := r
  exact ⟨fun s hs => by rw [h _ (by omega)]; exact r1 s hs, fun s j hs hj => by rw [h _ (by have := h10 s; omega)]; exact r2 s j hs hj, fun c hc => by rw [h _ (by omega)]; exact r3 c hc, fun f hf => by rw [h _ (by omega)]; exact r4 f hf, by rw [h _ (by omega)]; exact r5, by rw [h _ (by omega)]; exact r6, by rw [h _ (by omega)]; exact r7, by rw [h _ (by omega)]; exact r8, by rw [h _ (by omega)]; exact r9⟩
theorem sub_back (a b : Int32) : (a + b) - a = b := by
  rw [Int32.add_comm, Int32.add_sub_cancel]
section SLIDES
variable {S H L P F U S0 H0 L0 P0 F0 U0 Ti Ts : Nat → Int32} {dy ca du sl fc sc pc y0 y1 y2 y3 y4 y5 y6 : Int32} {x : Gs} {t : Tl}
theorem sz_slidesOfDig {K : Int32 → ((Nat → Int32) × (Nat → Int32) × (Nat → Int32) × (Nat → Int32) × (Nat → Int32) × (Nat → Int32) × Int32 × Int32 × Int32 × Int32 × Int32 × Int32 × Int32) → Prop} (wt : wfT t) (w : wfX t x) (hTi : ∀ c, c < 80 → Ti c = fI (tFi t c)) (hTs : rB 80 Ts (tSp t)) (r : rSG S H L P F U dy ca du sl fc sc pc x) {s : Nat} (hs : s < tN t) (h0 : 0 < (gA1w x).2.1 s) {k : Nat} {b : Sg} (hk : k ≤ 800) (hst : Stl (tSp t) (gP x) (tN t) k (dg1 (gA1w x) s) b)
    (kk : ∀ u, K (nI k) u) : wX8_slidesOfDig (nI (tN t)) Ti Ts S H L P F U dy ca du sl fc sc pc S0 H0 L0 P0 F0 U0 y0 y1 y2 y3 y4 y5 y6 (nI s) K := by
  obtain ⟨r, rfl, rfl, rfl, rfl⟩ := r
  unfold wX8_slidesOfDig
  refine sz_copyFrom r (fun S' H' L' P' F' U' q => ?_)
  refine sz_digSeat wt w hTi hTs q hs h0 hst hk (fun S2 H2 L2 F2 U2 fc2 sc2 q2 => ?_)
  rw [sub_back]
  exact kk _
variable {N M Qs Qf : Nat → Int32}
/-- the best dig, after the first i seats: fewest slides, then most finds, then the least seat -/
def bst (h kf lv : Nat → Nat) : Nat → Option Nat
  | 0 => none
  | i + 1 => match bst h kf lv i with
    | none => if 0 < h i then some i else none
    | some c => if 0 < h i ∧ (kf i < kf c ∨ (kf i = kf c ∧ lv c < lv i)) then some i else some c
theorem bst_lt {h kf lv : Nat → Nat} : ∀ {i c : Nat}, bst h kf lv i = some c → c < i ∧ 0 < h c
  | 0, c, e => by cases e
  | i + 1, c, e => by
    unfold bst at e
    rcases q : bst h kf lv i with _ | d
    · rw [q] at e
      dsimp only at e
      by_cases z : 0 < h i
      · rw [if_pos z] at e; cases e; exact ⟨by omega, z⟩
      · rw [if_neg z] at e; cases e
    · rw [q] at e
      dsimp only at e
      have := bst_lt q
      by_cases z : 0 < h i ∧ (kf i < kf d ∨ (kf i = kf d ∧ lv d < lv i))
      · rw [if_pos z] at e; cases e; exact ⟨by omega, z.1⟩
      · rw [if_neg z] at e; cases e; exact ⟨by omega, this.2⟩
theorem bst_0 {h kf lv : Nat → Nat} {i : Nat} (q : bst h kf lv i = none) : bst h kf lv (i + 1) = if 0 < h i then some i else none := by
  show (match bst h kf lv i with | none => _ | some c => _) = _
  rw [q]
theorem bst_1 {h kf lv : Nat → Nat} {i c : Nat} (q : bst h kf lv i = some c) : bst h kf lv (i + 1) = if 0 < h i ∧ (kf i < kf c ∨ (kf i = kf c ∧ lv c < lv i)) then some i else some c := by
  show (match bst h kf lv i with | none => _ | some c => _) = _
  rw [q]
theorem lf_le {a : Sg} (w : wfS (tN t) a) (s : Nat) : lf t a s ≤ 10 := Nat.le_trans (fb_ct_le _ _) (w.1 s)
theorem sz_bestDig {K : Int32 → (Nat × (Nat → Int32) × (Nat → Int32) × (Nat → Int32) × (Nat → Int32) × (Nat → Int32) × (Nat → Int32) × Int32 × Int32 × Int32 × Int32 × Int32 × Int32 × Int32) → Prop} (wt : wfT t) (w : wfX t x) (hTi : ∀ c, c < 80 → Ti c = fI (tFi t c)) (hTs : rB 80 Ts (tSp t)) (r : rSG S H L P F U dy ca du sl fc sc pc x) {kf : Nat → Nat} (hkf : ∀ s, s < tN t → 0 < (gA1w x).2.1 s → kf s ≤ 800 ∧ ∃ b, Stl (tSp t) (gP x) (tN t) (kf s) (dg1 (gA1w x) s) b) {ot aT : Nat}
    (kk : ∀ u, K (fI (bst (gA1w x).2.1 kf (lf t (gA1w x)) (tN t))) u) : wX8_bestDig (nI (tN t)) Ti Ts S H L P F U dy ca du sl fc sc pc ot S0 H0 L0 P0 F0 U0 y0 y1 y2 y3 y4 y5 y6 aT K := by
  have n8 := wt.1.2
  have h8 : ∀ s, 8 ≤ s → (gA1w x).2.1 s = 0 := fun s z => w.1.2.1 s (by omega)
  unfold wX8_bestDig
  -- after i seats
  have key : ∀ d i, i + d = tN t → ∀ (ot : Nat) (S0 H0 L0 P0 F0 U0 : Nat → Int32) (y0 y1 y2 y3 y4 y5 y6 x2 x3 : Int32), (∀ c, bst (gA1w x).2.1 kf (lf t (gA1w x)) i = some c → x2 = nI (kf c) ∧ x3 = nI (lf t (gA1w x) c)) →
      wX8_bestDig_9 K (nI (tN t)) Ti Ts S H L P F U dy ca du sl fc sc pc aT (d + 1) ot S0 H0 L0 P0 F0 U0 y0 y1 y2 y3 y4 y5 y6 (fI (bst (gA1w x).2.1 kf (lf t (gA1w x)) i)) x2 x3 (nI i) := by
    intro d
    induction d with
    | zero =>
      intro i hi ot S0 H0 L0 P0 F0 U0 y0 y1 y2 y3 y4 y5 y6 x2 x3 hx
      have : i = tN t := by omega
      subst this
      unfold wX8_bestDig_9
      exact br_t (nI_le (Nat.le_refl _) (by omega)) (kk _)
    | succ d ih =>
      intro i hi ot S0 H0 L0 P0 F0 U0 y0 y1 y2 y3 y4 y5 y6 x2 x3 hx
      have b10 := w.1.1 i
      have ih := ih (i + 1) (by omega)
      unfold wX8_bestDig_9
      refine br_f (nI_ge (by omega) (by omega)) (sz_heightAt r.1.2.1 h8 (by omega) ?_)
      unfold wX8_bestDig_75
      unfold wX8_bestDig_84
      rw [nI_1]
      rcases Nat.eq_zero_or_pos ((gA1w x).2.1 i) with z | z
      · refine br_t (by rw [z]; decide) ?_
        have e : bst (gA1w x).2.1 kf (lf t (gA1w x)) (i + 1) = bst (gA1w x).2.1 kf (lf t (gA1w x)) i := by
          rcases q : bst (gA1w x).2.1 kf (lf t (gA1w x)) i with _ | c
          · rw [bst_0 q, if_neg (by omega)]
          · rw [bst_1 q, if_neg (by omega)]
        have ih := ih ot S0 H0 L0 P0 F0 U0 y0 y1 y2 y3 y4 y5 y6 x2 x3
        rw [e] at ih
        exact ih hx
      · obtain ⟨hk, b, hst⟩ := hkf i (by omega) z
        refine br_f (nI_nle z (by omega)) (sz_slidesOfDig wt w hTi hTs r (by omega) z hk hst (fun u => ?_))
        refine sz_findsInStack wt w.1 r.1.1 r.1.2.1 hTi (by omega) ?_
        have bl := lf_le (t := t) w.1 i
        rcases q : bst (gA1w x).2.1 kf (lf t (gA1w x)) i with _ | c
        · have e := bst_0 q
          rw [if_pos z] at e
          have ih := ih aT u.1 u.2.1 u.2.2.1 u.2.2.2.1 u.2.2.2.2.1 u.2.2.2.2.2.1 u.2.2.2.2.2.2.1 u.2.2.2.2.2.2.2.1 u.2.2.2.2.2.2.2.2.1 u.2.2.2.2.2.2.2.2.2.1 u.2.2.2.2.2.2.2.2.2.2.1 u.2.2.2.2.2.2.2.2.2.2.2.1 u.2.2.2.2.2.2.2.2.2.2.2.2 (nI (kf i)) (nI (lf t (gA1w x) i))
          rw [e] at ih
          exact br_t rfl (ih (fun c hc => by cases hc; exact ⟨rfl, rfl⟩))
        · have e := bst_1 q
          obtain ⟨rfl, rfl⟩ := hx c q
          have hc := bst_lt q
          obtain ⟨hkc, -⟩ := hkf c (by omega) hc.2
          have blc := lf_le (t := t) w.1 c
          have ihA := ih aT u.1 u.2.1 u.2.2.1 u.2.2.2.1 u.2.2.2.2.1 u.2.2.2.2.2.1 u.2.2.2.2.2.2.1 u.2.2.2.2.2.2.2.1 u.2.2.2.2.2.2.2.2.1 u.2.2.2.2.2.2.2.2.2.1 u.2.2.2.2.2.2.2.2.2.2.1 u.2.2.2.2.2.2.2.2.2.2.2.1 u.2.2.2.2.2.2.2.2.2.2.2.2 (nI (kf i)) (nI (lf t (gA1w x) i))
          have ihB := ih aT u.1 u.2.1 u.2.2.1 u.2.2.2.1 u.2.2.2.2.1 u.2.2.2.2.2.1 u.2.2.2.2.2.2.1 u.2.2.2.2.2.2.2.1 u.2.2.2.2.2.2.2.2.1 u.2.2.2.2.2.2.2.2.2.1 u.2.2.2.2.2.2.2.2.2.2.1 u.2.2.2.2.2.2.2.2.2.2.2.1 u.2.2.2.2.2.2.2.2.2.2.2.2 (nI (kf c)) (nI (lf t (gA1w x) c))
          refine br_f (nI_nm (by omega)) (pk_lt (kf i) (kf c) (fun z1 => ?_) (fun z1 => ?_))
          · rw [e, if_pos ⟨z, Or.inl z1⟩] at ihA
            exact ihA (fun c hc => by cases hc; exact ⟨rfl, rfl⟩)
          · by_cases z2 : kf i = kf c
            · refine bn_t (by rw [z2]) (pk_le (lf t (gA1w x) i) (lf t (gA1w x) c) (fun z3 => ?_) (fun z3 => ?_))
              · rw [e, if_neg (by omega)] at ihB
                exact ihB (fun c hc => by cases hc; exact ⟨rfl, rfl⟩)
              · rw [e, if_pos ⟨z, Or.inr ⟨z2, z3⟩⟩] at ihA
                exact ihA (fun c hc => by cases hc; exact ⟨rfl, rfl⟩)
            · refine bn_f (fun y => z2 ((nI_eq (by omega) (by omega)).mp y)) ?_
              rw [e, if_neg (by omega)] at ihB
              exact ihB (fun c hc => by cases hc; exact ⟨rfl, rfl⟩)
  exact ⟨tN t + 1, key (tN t) 0 (by omega) ot S0 H0 L0 P0 F0 U0 y0 y1 y2 y3 y4 y5 y6 0 0 (fun c hc => by cases hc)⟩
theorem kf_ex (wt : wfT t) (w : wfX t x) : ∃ kf : Nat → Nat, ∀ s, s < tN t → 0 < (gA1w x).2.1 s → kf s ≤ 800 ∧ ∃ b, Stl (tSp t) (gP x) (tN t) (kf s) (dg1 (gA1w x) s) b := by
  have h : ∀ s, ∃ k, s < tN t → 0 < (gA1w x).2.1 s → k ≤ 800 ∧ ∃ b, Stl (tSp t) (gP x) (tN t) k (dg1 (gA1w x) s) b := by
    intro s
    by_cases z : s < tN t ∧ 0 < (gA1w x).2.1 s
    · obtain ⟨k, b, h1, h2⟩ := stl_ok wt (gP x) (wfG_dg wt w z.1 z.2).1
      exact ⟨k, fun _ _ => ⟨h1, b, h2⟩⟩
    · exact ⟨0, fun a b => absurd ⟨a, b⟩ z⟩
  exact Classical.axiomOfChoice h
end SLIDES
