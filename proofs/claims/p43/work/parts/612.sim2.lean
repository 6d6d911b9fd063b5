/-! PURE: the law's own sofa, further: a seat, sliding, rows with one more or less. -/
theorem fm_seat (x : Int32) {n : Nat} (h0 : 0 < n) (h8 : n ≤ 8) : (x - x / nI n * nI n + nI n) - (x - x / nI n * nI n + nI n) / nI n * nI n = fmV x (nI n) := by
  have hn : (nI n).toInt = (n : Int) := nI_toInt (by omega)
  have hym : (nI n).toBitVec.msb = false := by
    cases e : (nI n).toBitVec.msb
    · rfl
    · exact absurd ((neg_msb _).mpr e) (nI_pos (by omega))
  have hx : (x ^^^ nI n < 0) ↔ x < 0 := by
    rw [neg_msb, neg_msb]
    have : (x ^^^ nI n).toBitVec = x.toBitVec ^^^ (nI n).toBitVec := rfl
    rw [this, BitVec.msb_xor, hym, Bool.xor_false]
  unfold fmV
  by_cases hneg : x < 0
  · have h1 : ¬ 0 ≤ x ^^^ nI n := by
      have := hx.mpr hneg
      rw [fa_lt] at this
      rw [fa_le]; omega
    rw [if_neg h1]
    have hne : nI n ≠ -1 := nI_nm (by omega)
    obtain ⟨m, hm⟩ : ∃ m : Nat, x.toInt = -(m : Int) := by
      rw [fa_lt] at hneg
      have : (0 : Int32).toInt = 0 := rfl
      exact ⟨x.toInt.natAbs, by omega⟩
    have hr := fb_rng x
    have hq : (x / nI n).toInt = -((m / n : Nat) : Int) := by
      rw [Int32.toInt_div_of_ne_right _ _ hne, hm, hn, Int.neg_tdiv, Int.tdiv_eq_ediv_of_nonneg (by omega)]
      rfl
    have hmod := Nat.div_add_mod m n
    have hlt := Nat.mod_lt m h0
    have hmul : ((m / n : Nat) : Int) * (n : Int) = ((n * (m / n) : Nat) : Int) := by
      rw [Nat.mul_comm]; exact (Int.natCast_mul _ _).symm
    have hqn : (x / nI n * nI n).toInt = -((n * (m / n) : Nat) : Int) := by
      rw [fb_mulI]
      · rw [hq, hn, Int.neg_mul, hmul]
      · rw [hq, hn, Int.neg_mul, hmul]; omega
      · rw [hq, hn, Int.neg_mul, hmul]; omega
    have hrr : (x - x / nI n * nI n).toInt = -((m % n : Nat) : Int) := by
      rw [fb_subI]
      · rw [hqn, hm]; omega
      · rw [hqn, hm]; omega
      · rw [hqn, hm]; omega
    by_cases hz : x - x / nI n * nI n = 0
    · rw [if_pos hz, hz, Int32.zero_add, pk_rem (by omega) h0 (by omega), Nat.mod_self]
      rfl
    · rw [if_neg hz]
      have hz2 : m % n ≠ 0 := fun e => hz (by
        rw [fa_eq, hrr, e]; rfl)
      have e9 : x - x / nI n * nI n + nI n = nI (n - m % n) := by
        rw [fa_eq, fb_addI, hrr, hn, nI_toInt (by omega)]
        · omega
        · rw [hrr, hn]; omega
        · rw [hrr, hn]; omega
      rw [e9, pk_rem (by omega) h0 (by omega), Nat.mod_eq_of_lt (by omega)]
  · have h1 : 0 ≤ x ^^^ nI n := by
      have : ¬ (x ^^^ nI n < 0) := fun z => hneg (hx.mp z)
      rw [fa_lt] at this
      rw [fa_le]; omega
    rw [if_pos h1]
    obtain ⟨j, hj, rfl⟩ := nI_of hneg
    have hlt := Nat.mod_lt j h0
    rw [pk_rem hj h0 (by omega), nI_add, pk_rem (by omega) h0 (by omega), Nat.add_mod_right, Nat.mod_mod]
section SIM2
variable {Z : gZ} {H : gH} {ad : Nat → Nat} {t : Tl} {a : Sg} {pr : Nat → Bool} {fa : Nat → Nat} {dy ca du sl : Int32}
theorem sm_seat {K : Int32 → Prop} (S : SimAt Z H ad t a pr fa dy ca du sl) (wt : wfT t) (x : Int32) (k : K (fmV x (nI (tN t)))) : wX9_seat Z H (ad 0) x K := by
  obtain ⟨f, h1, hf⟩ := S.2.1
  have n2 := wt.1.1
  have n8 := wt.1.2
  have hz : ¬ nI (tN t) = 0 := fun z => by have := (nI_eq (by omega) (by decide)).mp (show nI (tN t) = nI 0 from z); omega
  have g1 := gF_of (k := 1) S.1 (rfl : (smV ad t dy ca du sl)[1]? = some (.ref (ad 1)))
  unfold wX9_seat
  refine ⟨_, g1, _, f, h1, hz, _, g1, _, f, h1, _, g1, _, f, h1, hz, ?_⟩
  rw [fm_seat x (by omega) n8]
  exact k
theorem sm_top (S : SimAt Z H ad t a pr fa dy ca du sl) {s : Nat} (h0 : 0 < a.2.1 s) : clT t (tp a s) := S.2.2.2.2.2.2.2.2.2.2 s _ (by omega)
theorem sm_slidesOnto {K : Int32 → Prop} (S : SimAt Z H ad t a pr fa dy ca du sl) (wt : wfT t) (w : wfS (tN t) a) {s o : Nat} (hs : s < tN t) (ho : o ≤ tN t) (k : K (zB1w (cs (tSp t) pr a.1 a.2.1 o s))) : wX9_slidesOnto Z H (ad 0) (nI s) (nI o) K := by
  obtain ⟨f, h1, hf⟩ := S.2.1
  obtain ⟨fp, h4, hp⟩ := S.2.2.2.2.2.2.2.2.1
  have n8 := wt.1.2
  have g1 := gF_of (k := 1) S.1 (rfl : (smV ad t dy ca du sl)[1]? = some (.ref (ad 1)))
  have g4 := gF_of (k := 4) S.1 (rfl : (smV ad t dy ca du sl)[4]? = some (.ref (ad 4)))
  have h10 := w.1 s
  have o10 := w.1 o
  unfold wX9_slidesOnto
  refine br_f (nI_pos (by omega)) ⟨_, g1, _, f, h1, ?_⟩
  by_cases z : o = tN t
  · refine br_t (by rw [z]) ?_
    have e : cs (tSp t) pr a.1 a.2.1 o s = false := by
      have := w.2.1 o (by omega)
      simp [cs, this]
    rw [e] at k
    exact k
  · have hon : o < tN t := by omega
    obtain ⟨ro, r1, r2⟩ := S.2.2.1 o hon
    obtain ⟨rs, q1, q2⟩ := S.2.2.1 s hs
    have eo : (nI o).toNatClampNeg = o := nI_clamp (by omega)
    have es : (nI s).toNatClampNeg = s := nI_clamp (by omega)
    have io := vp_in_nI hon (by omega)
    have fo : f (nI o).toNatClampNeg = some (ad (10 + o)) := by rw [eo]; exact hf o hon
    have fs : f (nI s).toNatClampNeg = some (ad (10 + s)) := by rw [es]; exact hf s hs
    refine br_f (fun y => z ((nI_eq (by omega) (by omega)).mp y)) ⟨_, g1, _, f, _, h1, io, fo, _, ro, r1, _, g1, _, f, _, h1, vp_in_nI hs (by omega), fs, _, rs, q1, ?_⟩
    rw [show nI (a.2.1 s) + 4 = nI (a.2.1 s + 4) from nI_add _ 4]
    by_cases z2 : a.2.1 o < a.2.1 s + 4
    · refine br_t (nI_lt z2 (by omega)) ?_
      rw [show cs (tSp t) pr a.1 a.2.1 o s = false by simp [cs, show ¬ a.2.1 s + 3 < a.2.1 o by omega]] at k
      exact k
    · refine br_f (nI_nlt (by omega) (by omega)) ⟨_, g4, _, fp, h4, vp_in_nI hon (by omega), ?_⟩
      have hq : a.2.1 s + 3 < a.2.1 o := by omega
      rw [eo, hp o hon]
      cases ep : pr o
      · obtain ⟨c, c1, -, -, c4, -⟩ := S.2.2.2.1 _ (sm_top S (s := o) (by omega))
        have e9 : nI (a.2.1 o) - 1 = nI (a.2.1 o - 1) := nI_dec (by omega)
        refine br_t rfl ⟨_, g1, _, f, ad (10 + o), h1, io, hf o hon, _, g1, _, f, ad (10 + o), h1, io, hf o hon, _, ro, r1, _, ro, ad (60 + tp a o), r1, by rw [e9]; exact vp_in_nI (by omega) (by omega), by rw [e9, nI_clamp (by omega)]; exact r2 _ (by omega), 4, c, c1, by unfold vp_in; decide, ?_⟩
        rw [show (2 : Int32).toNatClampNeg = 2 from rfl, c4]
        have ek : cs (tSp t) pr a.1 a.2.1 o s = !tSp t (tp a o) := by simp [cs, hq, ep, tp]
        rw [ek] at k
        cases et : tSp t (tp a o)
        · rw [et] at k
          exact bn_t rfl k
        · rw [et] at k
          exact bn_f (by decide) k
      · rw [show cs (tSp t) pr a.1 a.2.1 o s = false by simp [cs, ep]] at k
        exact br_f (by decide) k
theorem sm_slidesOnto_neg {K : Int32 → Prop} {x : Int32} {s : Nat} (hx : x < 0) (k : K 0) : wX9_slidesOnto Z H (ad 0) (nI s) x K := by
  unfold wX9_slidesOnto
  exact br_t hx k
/-- rows without the last -/
theorem hz_less {K : Nat → gH → Prop} {bc bs p n : Nat} {f : Nat → Option Nat} (hp : hpG H p = some (qE (zY Z 4) n f)) (h0 : 0 < n) (h24 : n ≤ 40) (hr : ∀ j, j < n → ∃ r m g, f j = some r ∧ hpG H r = some (iE (zY Z 1) m g)) (hc : 1 ≤ bc) (hs : n ≤ bs + 1)
    (k : ∀ q H' g, hpG H q = none → hpG H' q = some (qE (zY Z 4) (n - 1) g) → (∀ j, j < n - 1 → g j = f j) → Fr (fun _ => False) H H' → K q H') : wX9_less Z H bc bs p K := by
  have e1 : nI n - 1 = nI (n - 1) := nI_dec h0
  have ec : (nI (n - 1)).toNatClampNeg = n - 1 := nI_clamp (by omega)
  unfold wX9_less
  refine ⟨n, f, hp, by rw [e1]; exact nI_pos (by omega), by rw [e1, ec]; omega, hc, by rw [e1, ec]; omega, fun q hq => ?_⟩
  rw [e1, ec]
  have hpq : p ≠ q := ne_fresh hp hq
  have lp : ∀ m i H1 g, i + m = n - 1 → hpG H1 q = some (qE (zY Z 4) (n - 1) g) → (∀ j, j < i → g j = f j) → Fr (fun b => b = q) H H1 → wX9_less_10 K Z (m + 1) H1 (bc - 1) (bs - (n - 1)) p q (nI i) := by
    intro m
    induction m with
    | zero =>
      intro i H1 g hi hg hj hF
      exact ⟨n - 1, g, hg, br_t (nI_le (by omega) (by omega)) (k q H1 g hq hg (fun j hj2 => hj j (by omega)) (hF.fresh hq))⟩
    | succ m ih =>
      intro i H1 g hi hg hj hF
      obtain ⟨r, m2, g2, r1, r2⟩ := hr i (by omega)
      have ei : (nI i).toNatClampNeg = i := nI_clamp (by omega)
      refine ⟨n - 1, g, hg, br_f (nI_ge (by omega) (by omega)) ⟨n, f, r, hF _ _ hp hpq, vp_in_nI (by omega) (by omega), by rw [ei]; exact r1, n - 1, g, m2, g2, hg, vp_in_nI (by omega) (by omega), hF _ _ r2 (ne_fresh r2 hq), ?_⟩⟩
      rw [ei, show nI i + 1 = nI (i + 1) from nI_add i 1]
      refine ih (i + 1) _ (va_up g i (some r)) (by omega) (hpG_s hg) (fun j hj2 => ?_) (hF.trans (Fr.s rfl))
      unfold va_up
      by_cases z : j = i
      · rw [if_pos z, z, r1]
      · rw [if_neg z]
        exact hj j (by omega)
  exact ⟨n - 1 + 1, lp (n - 1) 0 _ _ (by omega) hpG_n (fun j hj => absurd hj (Nat.not_lt_zero j)) (Fr.n hq)⟩
/-- rows with one more -/
theorem hz_with {K : Nat → gH → Prop} {bc bs p n c mc : Nat} {f : Nat → Option Nat} {gc : Nat → Int32} (hp : hpG H p = some (qE (zY Z 4) n f)) (h24 : n ≤ 40) (hc9 : hpG H c = some (iE (zY Z 1) mc gc)) (hr : ∀ j, j < n → ∃ r m g, f j = some r ∧ hpG H r = some (iE (zY Z 1) m g)) (hc : 1 ≤ bc) (hs : n + 1 ≤ bs)
    (k : ∀ q H' g, hpG H q = none → hpG H' q = some (qE (zY Z 4) (n + 1) g) → (∀ j, j < n → g j = f j) → g n = some c → Fr (fun _ => False) H H' → K q H') : wX9_with Z H bc bs p c K := by
  have e1 : nI n + 1 = nI (n + 1) := nI_add n 1
  have ec : (nI (n + 1)).toNatClampNeg = n + 1 := nI_clamp (by omega)
  unfold wX9_with
  refine ⟨n, f, hp, by rw [e1]; exact nI_pos (by omega), by rw [e1, ec]; omega, hc, by rw [e1, ec]; omega, fun q hq => ?_⟩
  rw [e1, ec]
  have hpq : p ≠ q := ne_fresh hp hq
  have lp : ∀ m i H1 g, i + m = n → hpG H1 q = some (qE (zY Z 4) (n + 1) g) → (∀ j, j < i → g j = f j) → Fr (fun b => b = q) H H1 → wX9_with_10 K Z (m + 1) H1 (bc - 1) (bs - (n + 1)) p c q (nI i) := by
    intro m
    induction m with
    | zero =>
      intro i H1 g hi hg hj hF
      have en : (nI n).toNatClampNeg = n := nI_clamp (by omega)
      refine ⟨n, f, hF _ _ hp hpq, br_t (nI_le (by omega) (by omega)) ⟨n, f, hF _ _ hp hpq, n + 1, g, mc, gc, hg, vp_in_nI (by omega) (by omega), hF _ _ hc9 (ne_fresh hc9 hq), ?_⟩⟩
      rw [en]
      refine k q _ (va_up g n (some c)) hq (hpG_s hg) (fun j hj2 => ?_) (if_pos rfl) ((hF.trans (Fr.s rfl)).fresh hq)
      unfold va_up
      rw [if_neg (by omega)]
      exact hj j (by omega)
    | succ m ih =>
      intro i H1 g hi hg hj hF
      obtain ⟨r, m2, g2, r1, r2⟩ := hr i (by omega)
      have ei : (nI i).toNatClampNeg = i := nI_clamp (by omega)
      refine ⟨n, f, hF _ _ hp hpq, br_f (nI_ge (by omega) (by omega)) ⟨n, f, r, hF _ _ hp hpq, vp_in_nI (by omega) (by omega), by rw [ei]; exact r1, n + 1, g, m2, g2, hg, vp_in_nI (by omega) (by omega), hF _ _ r2 (ne_fresh r2 hq), ?_⟩⟩
      rw [ei, show nI i + 1 = nI (i + 1) from nI_add i 1]
      refine ih (i + 1) _ (va_up g i (some r)) (by omega) (hpG_s hg) (fun j hj2 => ?_) (hF.trans (Fr.s rfl))
      unfold va_up
      by_cases z : j = i
      · rw [if_pos z, z, r1]
      · rw [if_neg z]
        exact hj j (by omega)
  exact ⟨n + 1, lp n 0 _ _ (by omega) hpG_n (fun j hj => absurd hj (Nat.not_lt_zero j)) (Fr.n hq)⟩
end SIM2
