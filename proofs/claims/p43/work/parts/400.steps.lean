/-! sums and tests: their steps, both -/
theorem neg_msb (x : Int32) : x < 0 ↔ x.toBitVec.msb = true := by
  rw [fa_lt, BitVec.msb_eq_toInt, decide_eq_true_eq]
  exact Iff.rfl
def fmV (x y : Int32) : Int32 := if 0 ≤ x ^^^ y then x - x / y * y else if x - x / y * y = 0 then x - x / y * y else (x - x / y * y) + y
theorem fm_wp {x y : Int32} {K : Int32 → Unit → Prop} (hy : ¬ y = 0) (k : K (fmV x y) ()) : wJ9_floorMod_7cf53 x y K := by
  unfold wJ9_floorMod_7cf53
  unfold fmV at k
  refine ⟨hy, fun h => ?_, fun h => ⟨fun h2 => ?_, fun h2 => ?_⟩⟩
  · rw [if_pos h] at k; exact k
  · rw [if_neg h, if_pos h2] at k; exact k
  · rw [if_neg h, if_neg h2] at k; exact k
theorem fm_in (x : Int32) {n : Nat} (h0 : 0 < n) (h8 : n ≤ 8) : ∃ s, s < n ∧ fmV x (nI n) = nI s := by
  have hn : (nI n).toInt = (n : Int) := nI_toInt (by omega)
  have hym : (nI n).toBitVec.msb = false := by
    cases e : (nI n).toBitVec.msb
    · rfl
    · exact absurd ((neg_msb _).mpr e) (nI_pos (by omega))
  have hx : (x ^^^ nI n < 0) ↔ x < 0 := by
    rw [neg_msb, neg_msb]
    have : (x ^^^ nI n).toBitVec = x.toBitVec ^^^ (nI n).toBitVec := rfl
    rw [this, BitVec.msb_xor, hym, Bool.xor_false]
  unfold fmV
  by_cases hneg : x < 0
  · have h1 : ¬ 0 ≤ x ^^^ nI n := by
      have := hx.mpr hneg
      rw [fa_lt] at this
      rw [fa_le]; omega
    rw [if_neg h1]
    have hne : nI n ≠ -1 := nI_nm (by omega)
    obtain ⟨m, hm⟩ : ∃ m : Nat, x.toInt = -(m : Int) := by
      rw [fa_lt] at hneg
      have : (0 : Int32).toInt = 0 := rfl
      exact ⟨x.toInt.natAbs, by omega⟩
    have hr := fb_rng x
    have hq : (x / nI n).toInt = -((m / n : Nat) : Int) := by
      rw [Int32.toInt_div_of_ne_right _ _ hne, hm, hn, Int.neg_tdiv, Int.tdiv_eq_ediv_of_nonneg (by omega)]
      rfl
    have hmod := Nat.div_add_mod m n
    have hlt := Nat.mod_lt m h0
    have hmul : ((m / n : Nat) : Int) * (n : Int) = ((n * (m / n) : Nat) : Int) := by
      rw [Nat.mul_comm]; exact (Int.natCast_mul _ _).symm
    have hqn : (x / nI n * nI n).toInt = -((n * (m / n) : Nat) : Int) := by
      rw [fb_mulI]
      · rw [hq, hn, Int.neg_mul, hmul]
      · rw [hq, hn, Int.neg_mul, hmul]; omega
      · rw [hq, hn, Int.neg_mul, hmul]; omega
    have hrr : (x - x / nI n * nI n).toInt = -((m % n : Nat) : Int) := by
      rw [fb_subI]
      · rw [hqn, hm]; omega
      · rw [hqn, hm]; omega
      · rw [hqn, hm]; omega
    by_cases hz : x - x / nI n * nI n = 0
    · rw [if_pos hz]
      exact ⟨0, h0, by rw [hz]; rfl⟩
    · rw [if_neg hz]
      have hz2 : m % n ≠ 0 := fun e => hz (by
        rw [fa_eq, hrr, e]; rfl)
      refine ⟨n - m % n, by omega, ?_⟩
      rw [fa_eq, fb_addI, hrr, hn, nI_toInt (by omega)]
      · omega
      · rw [hrr, hn]; omega
      · rw [hrr, hn]; omega
  · have h1 : 0 ≤ x ^^^ nI n := by
      have : ¬ (x ^^^ nI n < 0) := fun z => hneg (hx.mp z)
      rw [fa_lt] at this
      rw [fa_le]; omega
    rw [if_pos h1]
    obtain ⟨j, hj, rfl⟩ := nI_of hneg
    exact ⟨j % n, Nat.mod_lt _ h0, pk_rem hj h0 (by omega)⟩
/-- the values on a pile, the highest first -/
def stk (f : Nat → Int32) : List Int32 → Prop
  | [] => True
  | v :: vs => f vs.length = v ∧ stk f vs
theorem stk_out {f : Nat → Int32} {v : Int32} : ∀ {vs : List Int32} {n : Nat}, vs.length ≤ n → stk f vs → stk (upd f n v) vs
  | [], _, _, _ => trivial
  | x :: vs, n, h, hs => by
    refine ⟨?_, stk_out (Nat.le_of_succ_le h) hs.2⟩
    rw [pk_un (by simp only [List.length_cons] at h; omega)]
    exact hs.1
theorem stk_push {f : Nat → Int32} {v : Int32} {vs : List Int32} (h : stk f vs) : stk (upd f vs.length v) (v :: vs) := ⟨pk_us, stk_out (Nat.le_refl _) h⟩
theorem stk_rep {f : Nat → Int32} {v w : Int32} {vs : List Int32} (h : stk f (w :: vs)) : stk (upd f vs.length v) (v :: vs) := ⟨pk_us, stk_out (Nat.le_refl _) h.2⟩
/-- whether a value names a sure find -/
def suB (fa : Nat → Nat) (x : Int32) : Bool := decide (0 ≤ x ∧ x < 24) && decide (fa x.toNatClampNeg = 2)
def jnV (k : Nat) (x y : Int32) : Int32 :=
  match k with
  | 25 => x &&& y
  | 26 => x ||| y
  | 27 => g_min x y
  | 28 => g_max x y
  | 35 => x + y
  | 36 => x - y
  | 37 => x * y
  | 38 => if y = 0 then 0 else x / y
  | 39 => zB1w (decide (x < y))
  | 40 => zB1w (decide (y < x))
  | 41 => zB1w (decide (x = y))
  | 42 => zB1w (decide (x ≤ y))
  | _ => zB1w (decide (y ≤ x))
def un1 (a : Sg) (n : Nat) (fa : Nat → Nat) (k : Nat) (x : Int32) : Int32 :=
  match k with
  | 21 => nI (a.2.1 (fmV x (nI n)).toNatClampNeg)
  | 23 => zB1w (suB fa x)
  | 46 => -x
  | _ => zB1w (decide (x = 0))
def as0 (t : Tl) (pr : Nat → Bool) (fa : Nat → Nat) (dy sl : Int32) (k : Nat) (d : Int32) : Int32 :=
  match k with
  | 15 => dy
  | 16 => nI (fb_ct (fun f => decide (1 ≤ fa f)) 24)
  | 17 => sl
  | 18 => nI (fb_ct pr 8)
  | 19 => tFr t d.toNatClampNeg
  | 20 => tTo t d.toNatClampNeg
  | 22 => zB1w (anyB (snP0 t fa d.toNatClampNeg) (tF t))
  | _ => d
/-- how many values a step takes: 0 (asks), 1, 2; its places' kinds; what it puts: a test's value or a sum's -/
def arK (k : Nat) : Nat := if k = 45 ∨ (15 ≤ k ∧ k ≤ 20) ∨ k = 22 then 0 else if k = 46 ∨ k = 24 ∨ k = 21 ∨ k = 23 then 1 else 2
theorem arK3 (k : Nat) : arK k = 0 ∨ arK k = 1 ∨ arK k = 2 := by
  unfold arK
  split
  · exact Or.inl rfl
  · split
    · exact Or.inr (Or.inl rfl)
    · exact Or.inr (Or.inr rfl)
def evS (t : Tl) (a : Sg) (pr : Nat → Bool) (fa : Nat → Nat) (dy sl : Int32) (k : Nat) (d : Int32) (vs : List Int32) : List Int32 :=
  match arK k, vs with
  | 0, vs => as0 t pr fa dy sl k d :: vs
  | 1, x :: r => un1 a (tN t) fa k x :: r
  | 2, y :: x :: r => jnV k x y :: r
  | _, vs => vs
/-- what a step does to the kinds on the pile: true a test's value, false a sum's -/
def tyS (k : Nat) (bs : List Bool) : Option (List Bool) :=
  match arK k, bs with
  | 0, bs => some ((k == 22) :: bs)
  | 1, b :: r => if b = (k == 24) then some ((k == 24 || k == 23) :: r) else none
  | 2, c :: b :: r => if (b = c) ∧ (b = (k == 25 || k == 26)) ∧ (k = 25 ∨ k = 26 ∨ k = 27 ∨ k = 28 ∨ (35 ≤ k ∧ k ≤ 43)) then some ((k == 25 || (k == 26 || decide (39 ≤ k))) :: r) else none
  | _, _ => none
def vt : List Int32 → List Bool → Prop
  | [], [] => True
  | v :: vs, b :: bs => (b = true → v = 0 ∨ v = 1) ∧ vt vs bs
  | _, _ => False
theorem evS0 {t : Tl} {a : Sg} {pr : Nat → Bool} {fa : Nat → Nat} {dy sl : Int32} {k : Nat} {d : Int32} {vs : List Int32} (e : arK k = 0) : evS t a pr fa dy sl k d vs = as0 t pr fa dy sl k d :: vs := by unfold evS; rw [e]; rfl
theorem evS1 {t : Tl} {a : Sg} {pr : Nat → Bool} {fa : Nat → Nat} {dy sl : Int32} {k : Nat} {d x : Int32} {vs : List Int32} (e : arK k = 1) : evS t a pr fa dy sl k d (x :: vs) = un1 a (tN t) fa k x :: vs := by unfold evS; rw [e]; rfl
theorem evS2 {t : Tl} {a : Sg} {pr : Nat → Bool} {fa : Nat → Nat} {dy sl : Int32} {k : Nat} {d x y : Int32} {vs : List Int32} (e : arK k = 2) : evS t a pr fa dy sl k d (y :: x :: vs) = jnV k x y :: vs := by unfold evS; rw [e]; rfl
theorem tyS0 {k : Nat} {bs : List Bool} (e : arK k = 0) : tyS k bs = some ((k == 22) :: bs) := by unfold tyS; rw [e]; rfl
theorem tyS1 {k : Nat} {b : Bool} {r : List Bool} (e : arK k = 1) : tyS k (b :: r) = if b = (k == 24) then some ((k == 24 || k == 23) :: r) else none := by unfold tyS; rw [e]; rfl
theorem tyS1n {k : Nat} (e : arK k = 1) : tyS k [] = none := by unfold tyS; rw [e]; rfl
theorem tyS2 {k : Nat} {b c : Bool} {r : List Bool} (e : arK k = 2) : tyS k (c :: b :: r) = if (b = c) ∧ (b = (k == 25 || k == 26)) ∧ (k = 25 ∨ k = 26 ∨ k = 27 ∨ k = 28 ∨ (35 ≤ k ∧ k ≤ 43)) then some ((k == 25 || (k == 26 || decide (39 ≤ k))) :: r) else none := by unfold tyS; rw [e]; rfl
theorem tyS2n {k : Nat} (e : arK k = 2) : tyS k [] = none := by unfold tyS; rw [e]; rfl
theorem tyS2m {k : Nat} {b : Bool} (e : arK k = 2) : tyS k [b] = none := by unfold tyS; rw [e]; rfl
theorem zB_01 (b : Bool) : zB1w b = 0 ∨ zB1w b = 1 := by cases b <;> decide
/-- the details of a step name an empire where they must -/
def okD (t : Tl) (k : Nat) (d : Int32) : Prop := (k = 19 ∨ k = 20 ∨ k = 22) → ∃ e, e < tE t ∧ d = nI e
theorem vt_step {t : Tl} {a : Sg} {pr : Nat → Bool} {fa : Nat → Nat} {dy sl : Int32} {k : Nat} {d : Int32} {vs : List Int32} {bs bs' : List Bool} (h : tyS k bs = some bs') (hv : vt vs bs) : vt (evS t a pr fa dy sl k d vs) bs' := by
  rcases arK3 k with e | e | e
  · rw [tyS0 e] at h
    rw [evS0 e]
    cases h
    refine ⟨fun z => ?_, hv⟩
    have : k = 22 := by simpa using z
    subst this
    exact zB_01 _
  · rcases bs with _ | ⟨b, r⟩
    · rw [tyS1n e] at h; cases h
    · rcases vs with _ | ⟨x, vs⟩
      · exact hv.elim
      · rw [tyS1 e] at h
        rw [evS1 e]
        by_cases c : b = (k == 24)
        · rw [if_pos c] at h
          cases h
          refine ⟨fun z => ?_, hv.2⟩
          have : k = 24 ∨ k = 23 := by simpa using z
          rcases this with rfl | rfl
          · exact zB_01 _
          · exact zB_01 _
        · rw [if_neg c] at h; cases h
  · rcases bs with _ | ⟨c, _ | ⟨b, r⟩⟩
    · rw [tyS2n e] at h; cases h
    · rw [tyS2m e] at h; cases h
    · rcases vs with _ | ⟨y, _ | ⟨x, vs⟩⟩
      · exact hv.elim
      · exact hv.2.elim
      · rw [tyS2 e] at h
        rw [evS2 e]
        by_cases q : (b = c) ∧ (b = (k == 25 || k == 26)) ∧ (k = 25 ∨ k = 26 ∨ k = 27 ∨ k = 28 ∨ (35 ≤ k ∧ k ≤ 43))
        · rw [if_pos q] at h
          cases h
          obtain ⟨q1, q2, q3⟩ := q
          refine ⟨fun z => ?_, hv.2.2⟩
          simp only [Bool.or_eq_true, beq_iff_eq, decide_eq_true_eq] at z
          rcases z with rfl | rfl | z
          · have hb : b = true := q2
            have hc : c = true := by rw [← q1]; exact hb
            have h1 := hv.1 hc
            have h2 := hv.2.1 hb
            show x &&& y = 0 ∨ x &&& y = 1
            rcases h1 with rfl | rfl <;> rcases h2 with rfl | rfl <;> decide
          · have hb : b = true := q2
            have hc : c = true := by rw [← q1]; exact hb
            have h1 := hv.1 hc
            have h2 := hv.2.1 hb
            show x ||| y = 0 ∨ x ||| y = 1
            rcases h1 with rfl | rfl <;> rcases h2 with rfl | rfl <;> decide
          · have : k = 39 ∨ k = 40 ∨ k = 41 ∨ k = 42 ∨ k = 43 := by omega
            rcases this with rfl | rfl | rfl | rfl | rfl <;> exact zB_01 _
        · rw [if_neg q] at h; cases h
theorem vt_len : ∀ {vs : List Int32} {bs : List Bool}, vt vs bs → vs.length = bs.length
  | [], [], _ => rfl
  | _ :: vs, _ :: bs, h => by rw [List.length_cons, List.length_cons, vt_len h.2]
  | [], _ :: _, h => h.elim
  | _ :: _, [], h => h.elim
section RECK
variable {P H U Fr To C De Ks Ds : Nat → Int32} {t : Tl} {a : Sg} {pr : Nat → Bool} {fa : Nat → Nat} {dy sl fc pc : Int32}
theorem sz_push {K : ((Nat → Int32) × Int32) → Prop} {vs : List Int32} {v : Int32} (h : vs.length < 400) (k : K (upd P vs.length v, nI (vs.length + 1))) : wX2_push P (nI vs.length) v K := by
  unfold wX2_push
  refine br_f (nI_pos (by omega)) (br_f (nI_ge h (by decide)) ⟨vp_in_nI h (by decide), ?_⟩)
  rw [nI_clamp (by omega), nI_1]
  exact k
theorem sz_pushTruth {K : ((Nat → Int32) × Int32) → Prop} {vs : List Int32} {b : Bool} (h : vs.length < 400) (k : K (upd P vs.length (zB1w b), nI (vs.length + 1))) : wX2_pushTruth P (nI vs.length) (zB1w b) K := by
  unfold wX2_pushTruth wX2_pushTruth_10
  refine bz rfl (fun e => ?_) (fun e => ?_)
  · subst e; exact sz_push h k
  · subst e; exact sz_push h k
theorem sz_pull {K : Int32 → Int32 → Prop} {vs : List Int32} {v : Int32} (h : vs.length < 400) (hs : stk P (v :: vs)) (k : K v (nI vs.length)) : wX2_pull P (nI (v :: vs).length) K := by
  unfold wX2_pull
  have el : (v :: vs).length = vs.length + 1 := rfl
  rw [el]
  refine br_f (nI_nle (by omega) (by omega)) (br_t (nI_le (b := 400) (by omega) (by decide)) ?_)
  rw [nI_pred]
  refine ⟨vp_in_nI h (by decide), ?_⟩
  rw [nI_clamp (by omega), hs.1]
  exact k
theorem suB_wp {K : Int32 → Unit → Prop} (rU : rB 24 U (fun f => decide (fa f = 2))) (x : Int32) (k : K (zB1w (suB fa x)) ()) : wX4_wasSure U x K := by
  rcases pk_ix x (n := 24) (by decide) with h | h | ⟨j, hj, rfl⟩
  · have e : suB fa x = false := by
      unfold suB
      have : ¬ (0 ≤ x ∧ x < 24) := fun z => by
        have z1 := z.1
        rw [fa_le] at z1
        rw [fa_lt] at h
        omega
      simp [this]
    rw [e] at k
    unfold wX4_wasSure
    exact br_t h k
  · have e : suB fa x = false := by
      unfold suB
      have : ¬ (0 ≤ x ∧ x < 24) := fun z => by
        have z1 := z.2
        have h : (24 : Int32) ≤ x := h
        rw [fa_lt] at z1
        rw [fa_le] at h
        omega
      simp [this]
    rw [e] at k
    unfold wX4_wasSure
    have h : (24 : Int32) ≤ x := h
    have h0 : ¬ x < 0 := by
      rw [fa_le] at h
      rw [fa_lt]
      have a1 : (24 : Int32).toInt = 24 := rfl
      have a2 : (0 : Int32).toInt = 0 := rfl
      omega
    exact br_f h0 (br_t h k)
  · refine sz_wasSure rU hj ?_
    have e : suB fa (nI j) = decide (fa j = 2) := by
      unfold suB
      have : (0 : Int32) ≤ nI j ∧ nI j < 24 := ⟨nI_pos' (by omega), nI_lt hj (by decide)⟩
      simp [this, nI_clamp (show j < 2 ^ 31 by omega)]
    rw [e] at k
    exact k
theorem sz_join {K : Int32 → Unit → Prop} {k : Nat} {x y : Int32} (hk : k = 25 ∨ k = 26 ∨ k = 27 ∨ k = 28 ∨ (35 ≤ k ∧ k ≤ 43)) (kk : K (jnV k x y) ()) : wX2_join (nI k) x y K := by
  have hk : k = 25 ∨ k = 26 ∨ k = 27 ∨ k = 28 ∨ k = 35 ∨ k = 36 ∨ k = 37 ∨ k = 38 ∨ k = 39 ∨ k = 40 ∨ k = 41 ∨ k = 42 ∨ k = 43 := by omega
  unfold wX2_join
  rcases hk with rfl | rfl | rfl | rfl | rfl | rfl | rfl | rfl | rfl | rfl | rfl | rfl | rfl
  · exact ⟨fun _ => kk, fun z => absurd z (by decide), fun z => absurd z (by decide), fun z => absurd z (by decide), fun z => absurd z (by decide), fun z => absurd z (by decide), fun z => absurd z (by decide), fun z => absurd z (by decide), fun h25 h26 h27 h28 h35 h36 h37 h38 => absurd rfl h25⟩
  · exact ⟨fun z => absurd z (by decide), fun _ => kk, fun z => absurd z (by decide), fun z => absurd z (by decide), fun z => absurd z (by decide), fun z => absurd z (by decide), fun z => absurd z (by decide), fun z => absurd z (by decide), fun h25 h26 h27 h28 h35 h36 h37 h38 => absurd rfl h26⟩
  · exact ⟨fun z => absurd z (by decide), fun z => absurd z (by decide), fun _ => kk, fun z => absurd z (by decide), fun z => absurd z (by decide), fun z => absurd z (by decide), fun z => absurd z (by decide), fun z => absurd z (by decide), fun h25 h26 h27 h28 h35 h36 h37 h38 => absurd rfl h27⟩
  · exact ⟨fun z => absurd z (by decide), fun z => absurd z (by decide), fun z => absurd z (by decide), fun _ => kk, fun z => absurd z (by decide), fun z => absurd z (by decide), fun z => absurd z (by decide), fun z => absurd z (by decide), fun h25 h26 h27 h28 h35 h36 h37 h38 => absurd rfl h28⟩
  · exact ⟨fun z => absurd z (by decide), fun z => absurd z (by decide), fun z => absurd z (by decide), fun z => absurd z (by decide), fun _ => kk, fun z => absurd z (by decide), fun z => absurd z (by decide), fun z => absurd z (by decide), fun h25 h26 h27 h28 h35 h36 h37 h38 => absurd rfl h35⟩
  · exact ⟨fun z => absurd z (by decide), fun z => absurd z (by decide), fun z => absurd z (by decide), fun z => absurd z (by decide), fun z => absurd z (by decide), fun _ => kk, fun z => absurd z (by decide), fun z => absurd z (by decide), fun h25 h26 h27 h28 h35 h36 h37 h38 => absurd rfl h36⟩
  · exact ⟨fun z => absurd z (by decide), fun z => absurd z (by decide), fun z => absurd z (by decide), fun z => absurd z (by decide), fun z => absurd z (by decide), fun z => absurd z (by decide), fun _ => kk, fun z => absurd z (by decide), fun h25 h26 h27 h28 h35 h36 h37 h38 => absurd rfl h37⟩
  · refine ⟨fun z => absurd z (by decide), fun z => absurd z (by decide), fun z => absurd z (by decide), fun z => absurd z (by decide), fun z => absurd z (by decide), fun z => absurd z (by decide), fun z => absurd z (by decide), fun _ => ⟨fun h => ⟨h, ?_⟩, fun h => ?_⟩, fun h25 h26 h27 h28 h35 h36 h37 h38 => absurd rfl h38⟩
    · have kk : K (if y = 0 then 0 else x / y) () := kk
      rw [if_neg h] at kk; exact kk
    · have kk : K (if y = 0 then 0 else x / y) () := kk
      rw [if_pos h] at kk; exact kk
  · refine ⟨fun z => absurd z (by decide), fun z => absurd z (by decide), fun z => absurd z (by decide), fun z => absurd z (by decide), fun z => absurd z (by decide), fun z => absurd z (by decide), fun z => absurd z (by decide), fun z => absurd z (by decide), fun _ _ _ _ _ _ _ _ => ?_⟩
    unfold wX2_compares
    refine ⟨fun _ => ⟨fun h => ?_, fun h => ?_⟩, fun z => absurd z (by decide), fun z => absurd z (by decide), fun z => absurd z (by decide), fun z => absurd z (by decide), fun g39 g40 g41 g42 g43 => absurd rfl g39⟩
    · have kk : K (zB1w (decide (x < y))) () := kk
      have e : decide (x < y) = false := decide_eq_false (nlt_le.mpr h)
      rw [e] at kk
      exact br_t rfl kk
    · have kk : K (zB1w (decide (x < y))) () := kk
      have e : decide (x < y) = true := decide_eq_true (by rw [fa_le] at h; rw [fa_lt]; omega)
      rw [e] at kk
      exact br_f (by decide) kk
  · refine ⟨fun z => absurd z (by decide), fun z => absurd z (by decide), fun z => absurd z (by decide), fun z => absurd z (by decide), fun z => absurd z (by decide), fun z => absurd z (by decide), fun z => absurd z (by decide), fun z => absurd z (by decide), fun _ _ _ _ _ _ _ _ => ?_⟩
    unfold wX2_compares
    refine ⟨fun z => absurd z (by decide), fun _ => ⟨fun h => ?_, fun h => ?_⟩, fun z => absurd z (by decide), fun z => absurd z (by decide), fun z => absurd z (by decide), fun g39 g40 g41 g42 g43 => absurd rfl g40⟩
    · have kk : K (zB1w (decide (y < x))) () := kk
      have e : decide (y < x) = false := decide_eq_false (nlt_le.mpr h)
      rw [e] at kk
      exact br_t rfl kk
    · have kk : K (zB1w (decide (y < x))) () := kk
      have e : decide (y < x) = true := decide_eq_true (by rw [fa_le] at h; rw [fa_lt]; omega)
      rw [e] at kk
      exact br_f (by decide) kk
  · refine ⟨fun z => absurd z (by decide), fun z => absurd z (by decide), fun z => absurd z (by decide), fun z => absurd z (by decide), fun z => absurd z (by decide), fun z => absurd z (by decide), fun z => absurd z (by decide), fun z => absurd z (by decide), fun _ _ _ _ _ _ _ _ => ?_⟩
    unfold wX2_compares
    refine ⟨fun z => absurd z (by decide), fun z => absurd z (by decide), fun _ => ⟨fun h => ?_, fun h => ?_⟩, fun z => absurd z (by decide), fun z => absurd z (by decide), fun g39 g40 g41 g42 g43 => absurd rfl g41⟩
    · have kk : K (zB1w (decide (x = y))) () := kk
      have e : decide (x = y) = false := decide_eq_false h
      rw [e] at kk
      exact br_t rfl kk
    · have kk : K (zB1w (decide (x = y))) () := kk
      have e : decide (x = y) = true := decide_eq_true h
      rw [e] at kk
      exact br_f (by decide) kk
  · refine ⟨fun z => absurd z (by decide), fun z => absurd z (by decide), fun z => absurd z (by decide), fun z => absurd z (by decide), fun z => absurd z (by decide), fun z => absurd z (by decide), fun z => absurd z (by decide), fun z => absurd z (by decide), fun _ _ _ _ _ _ _ _ => ?_⟩
    unfold wX2_compares
    refine ⟨fun z => absurd z (by decide), fun z => absurd z (by decide), fun z => absurd z (by decide), fun _ => ⟨fun h => ?_, fun h => ?_⟩, fun z => absurd z (by decide), fun g39 g40 g41 g42 g43 => absurd rfl g42⟩
    · have kk : K (zB1w (decide (x ≤ y))) () := kk
      have e : decide (x ≤ y) = false := decide_eq_false (by rw [fa_lt] at h; rw [fa_le]; omega)
      rw [e] at kk
      exact br_t rfl kk
    · have kk : K (zB1w (decide (x ≤ y))) () := kk
      have e : decide (x ≤ y) = true := decide_eq_true (by rw [fa_lt] at h; rw [fa_le]; omega)
      rw [e] at kk
      exact br_f (by decide) kk
  · refine ⟨fun z => absurd z (by decide), fun z => absurd z (by decide), fun z => absurd z (by decide), fun z => absurd z (by decide), fun z => absurd z (by decide), fun z => absurd z (by decide), fun z => absurd z (by decide), fun z => absurd z (by decide), fun _ _ _ _ _ _ _ _ => ?_⟩
    unfold wX2_compares
    refine ⟨fun z => absurd z (by decide), fun z => absurd z (by decide), fun z => absurd z (by decide), fun z => absurd z (by decide), fun _ => ⟨fun h => ?_, fun h => ?_⟩, fun g39 g40 g41 g42 g43 => absurd rfl g43⟩
    · have kk : K (zB1w (decide (y ≤ x))) () := kk
      have e : decide (y ≤ x) = false := decide_eq_false (by rw [fa_lt] at h; rw [fa_le]; omega)
      rw [e] at kk
      exact br_t rfl kk
    · have kk : K (zB1w (decide (y ≤ x))) () := kk
      have e : decide (y ≤ x) = true := decide_eq_true (by rw [fa_lt] at h; rw [fa_le]; omega)
      rw [e] at kk
      exact br_f (by decide) kk
theorem sz_heightOf_fm {K : Int32 → Unit → Prop} (wt : wfT t) (w : wfS (tN t) a) (rh : rN 8 H a.2.1) (x : Int32) (k : K (nI (a.2.1 (fmV x (nI (tN t))).toNatClampNeg)) ()) : wX7_seatOfSum (nI (tN t)) x (fun r _ => wX4_heightAt H r K) := by
  have n8 := wt.1.2
  have n2 := wt.1.1
  unfold wX7_seatOfSum
  refine br_t (nI_le (a := 2) n2 (by omega)) (fm_wp (nI_ne0 (by omega) (by omega)) ?_)
  obtain ⟨s, hs, e⟩ := fm_in x (n := tN t) (by omega) n8
  rw [e] at k ⊢
  rw [nI_clamp (by omega)] at k
  exact sz_heightAt rh (fun s z => w.2.1 s (by omega)) (by omega) k
theorem sz_takeStep {K : ((Nat → Int32) × Int32) → Prop} (wt : wfT t) (w : wfS (tN t) a) (rc : rB (tF t) C (tCo t)) (rd : ∀ f, f < tF t → De f = tDe t f) (rf : ∀ e, e < tE t → Fr e = tFr t e) (ro : ∀ e, e < tE t → To e = tTo t e) (rh : rN 8 H a.2.1) (rU : rB 24 U (fun f => decide (fa f = 2))) (hfc : fc = nI (fb_ct (fun f => decide (1 ≤ fa f)) 24)) (hpc : pc = nI (fb_ct pr 8))
    {k : Nat} {d : Int32} {vs : List Int32} {bs bs' : List Bool} (h : tyS k bs = some bs') (hv : vt vs bs) (hd : okD t k d) (hs : stk P vs) (hl : vs.length < 400) (kk : ∀ P', stk P' (evS t a pr fa dy sl k d vs) → K (P', nI (evS t a pr fa dy sl k d vs).length)) : wX2_takeStep (nI (tN t)) (nI (tE t)) (nI (tF t)) Fr To C De P (nI vs.length) H U dy sl fc pc (nI k) d K := by
  subst hfc hpc
  have n6 := wt.2.2.1
  rcases arK3 k with e | e | e
  · -- what is asked
    have ee : evS t a pr fa dy sl k d vs = as0 t pr fa dy sl k d :: vs := evS0 e
    rw [ee] at kk
    have kk2 := kk _ (stk_push hs)
    have hk : k = 45 ∨ k = 15 ∨ k = 16 ∨ k = 17 ∨ k = 18 ∨ k = 19 ∨ k = 20 ∨ k = 22 := by
      unfold arK at e
      split at e
      · omega
      · split at e <;> cases e
    unfold wX2_takeStep
    rcases hk with rfl | rfl | rfl | rfl | rfl | rfl | rfl | rfl
    · exact ⟨fun z => absurd z (by decide), fun z => absurd z (by decide), fun z => absurd z (by decide), fun z => absurd z (by decide), fun z => absurd z (by decide), fun z => absurd z (by decide), fun z => absurd z (by decide), fun z => absurd z (by decide), fun z => absurd z (by decide), fun z => absurd z (by decide), fun _ => sz_push hl kk2, fun z => absurd z (by decide), fun h15 h16 h17 h18 h19 h20 h21 h22 h23 h24 h45 h46 => absurd rfl h45⟩
    · exact ⟨fun _ => sz_push hl kk2, fun z => absurd z (by decide), fun z => absurd z (by decide), fun z => absurd z (by decide), fun z => absurd z (by decide), fun z => absurd z (by decide), fun z => absurd z (by decide), fun z => absurd z (by decide), fun z => absurd z (by decide), fun z => absurd z (by decide), fun z => absurd z (by decide), fun z => absurd z (by decide), fun h15 h16 h17 h18 h19 h20 h21 h22 h23 h24 h45 h46 => absurd rfl h15⟩
    · exact ⟨fun z => absurd z (by decide), fun _ => sz_push hl kk2, fun z => absurd z (by decide), fun z => absurd z (by decide), fun z => absurd z (by decide), fun z => absurd z (by decide), fun z => absurd z (by decide), fun z => absurd z (by decide), fun z => absurd z (by decide), fun z => absurd z (by decide), fun z => absurd z (by decide), fun z => absurd z (by decide), fun h15 h16 h17 h18 h19 h20 h21 h22 h23 h24 h45 h46 => absurd rfl h16⟩
    · exact ⟨fun z => absurd z (by decide), fun z => absurd z (by decide), fun _ => sz_push hl kk2, fun z => absurd z (by decide), fun z => absurd z (by decide), fun z => absurd z (by decide), fun z => absurd z (by decide), fun z => absurd z (by decide), fun z => absurd z (by decide), fun z => absurd z (by decide), fun z => absurd z (by decide), fun z => absurd z (by decide), fun h15 h16 h17 h18 h19 h20 h21 h22 h23 h24 h45 h46 => absurd rfl h17⟩
    · exact ⟨fun z => absurd z (by decide), fun z => absurd z (by decide), fun z => absurd z (by decide), fun _ => sz_push hl kk2, fun z => absurd z (by decide), fun z => absurd z (by decide), fun z => absurd z (by decide), fun z => absurd z (by decide), fun z => absurd z (by decide), fun z => absurd z (by decide), fun z => absurd z (by decide), fun z => absurd z (by decide), fun h15 h16 h17 h18 h19 h20 h21 h22 h23 h24 h45 h46 => absurd rfl h18⟩
    · refine ⟨fun z => absurd z (by decide), fun z => absurd z (by decide), fun z => absurd z (by decide), fun z => absurd z (by decide), fun _ => ?_, fun z => absurd z (by decide), fun z => absurd z (by decide), fun z => absurd z (by decide), fun z => absurd z (by decide), fun z => absurd z (by decide), fun z => absurd z (by decide), fun z => absurd z (by decide), fun h15 h16 h17 h18 h19 h20 h21 h22 h23 h24 h45 h46 => absurd rfl h19⟩
      obtain ⟨x, hx, rfl⟩ := hd (by decide)
      have kk2 : K (upd P vs.length (tFr t (nI x).toNatClampNeg), nI (vs.length + 1)) := kk2
      rw [nI_clamp (by omega)] at kk2
      exact sz_fromOf wt rf hx (sz_push hl kk2)
    · refine ⟨fun z => absurd z (by decide), fun z => absurd z (by decide), fun z => absurd z (by decide), fun z => absurd z (by decide), fun z => absurd z (by decide), fun _ => ?_, fun z => absurd z (by decide), fun z => absurd z (by decide), fun z => absurd z (by decide), fun z => absurd z (by decide), fun z => absurd z (by decide), fun z => absurd z (by decide), fun h15 h16 h17 h18 h19 h20 h21 h22 h23 h24 h45 h46 => absurd rfl h20⟩
      obtain ⟨x, hx, rfl⟩ := hd (by decide)
      have kk2 : K (upd P vs.length (tTo t (nI x).toNatClampNeg), nI (vs.length + 1)) := kk2
      rw [nI_clamp (by omega)] at kk2
      exact sz_toOf wt ro hx (sz_push hl kk2)
    · refine ⟨fun z => absurd z (by decide), fun z => absurd z (by decide), fun z => absurd z (by decide), fun z => absurd z (by decide), fun z => absurd z (by decide), fun z => absurd z (by decide), fun z => absurd z (by decide), fun _ => ?_, fun z => absurd z (by decide), fun z => absurd z (by decide), fun z => absurd z (by decide), fun z => absurd z (by decide), fun h15 h16 h17 h18 h19 h20 h21 h22 h23 h24 h45 h46 => absurd rfl h22⟩
      obtain ⟨x, hx, rfl⟩ := hd (by decide)
      have kk2 : K (upd P vs.length (zB1w (anyB (snP0 t fa (nI x).toNatClampNeg) (tF t))), nI (vs.length + 1)) := kk2
      rw [nI_clamp (by omega)] at kk2
      exact sz_sawAnywhere wt rc rd rU (by omega) (sz_pushTruth hl kk2)
  · rcases bs with _ | ⟨b, r⟩
    · rw [tyS1n e] at h; cases h
    · rcases vs with _ | ⟨x, vs⟩
      · exact hv.elim
      · have ee : evS t a pr fa dy sl k d (x :: vs) = un1 a (tN t) fa k x :: vs := evS1 e
        rw [ee] at kk
        have kk2 := kk _ (stk_rep hs)
        have hl2 : vs.length < 400 := Nat.lt_of_succ_lt hl
        have hk : k = 46 ∨ k = 24 ∨ k = 21 ∨ k = 23 := by
          unfold arK at e
          split at e
          · cases e
          · split at e
            · assumption
            · cases e
        unfold wX2_takeStep
        rcases hk with rfl | rfl | rfl | rfl
        · exact ⟨fun z => absurd z (by decide), fun z => absurd z (by decide), fun z => absurd z (by decide), fun z => absurd z (by decide), fun z => absurd z (by decide), fun z => absurd z (by decide), fun z => absurd z (by decide), fun z => absurd z (by decide), fun z => absurd z (by decide), fun z => absurd z (by decide), fun z => absurd z (by decide), fun _ => sz_pull hl2 hs (sz_push hl2 kk2), fun h15 h16 h17 h18 h19 h20 h21 h22 h23 h24 h45 h46 => absurd rfl h46⟩
        · refine ⟨fun z => absurd z (by decide), fun z => absurd z (by decide), fun z => absurd z (by decide), fun z => absurd z (by decide), fun z => absurd z (by decide), fun z => absurd z (by decide), fun z => absurd z (by decide), fun z => absurd z (by decide), fun z => absurd z (by decide), fun _ => sz_pull hl2 hs ⟨fun z => ?_, fun z => ?_⟩, fun z => absurd z (by decide), fun z => absurd z (by decide), fun h15 h16 h17 h18 h19 h20 h21 h22 h23 h24 h45 h46 => absurd rfl h24⟩
          · have e2 : decide (x = 0) = false := decide_eq_false z
            have kk2 : K (upd P vs.length (zB1w (decide (x = 0))), nI (vs.length + 1)) := kk2
            rw [e2] at kk2
            unfold wX2_takeStep_300
            exact sz_pushTruth (b := false) hl2 kk2
          · have e2 : decide (x = 0) = true := decide_eq_true z
            have kk2 : K (upd P vs.length (zB1w (decide (x = 0))), nI (vs.length + 1)) := kk2
            rw [e2] at kk2
            unfold wX2_takeStep_300
            exact sz_pushTruth (b := true) hl2 kk2
        · exact ⟨fun z => absurd z (by decide), fun z => absurd z (by decide), fun z => absurd z (by decide), fun z => absurd z (by decide), fun z => absurd z (by decide), fun z => absurd z (by decide), fun _ => sz_pull hl2 hs (sz_heightOf_fm wt w rh x (sz_push hl2 kk2)), fun z => absurd z (by decide), fun z => absurd z (by decide), fun z => absurd z (by decide), fun z => absurd z (by decide), fun z => absurd z (by decide), fun h15 h16 h17 h18 h19 h20 h21 h22 h23 h24 h45 h46 => absurd rfl h21⟩
        · exact ⟨fun z => absurd z (by decide), fun z => absurd z (by decide), fun z => absurd z (by decide), fun z => absurd z (by decide), fun z => absurd z (by decide), fun z => absurd z (by decide), fun z => absurd z (by decide), fun z => absurd z (by decide), fun _ => sz_pull hl2 hs (suB_wp rU x (sz_pushTruth hl2 kk2)), fun z => absurd z (by decide), fun z => absurd z (by decide), fun z => absurd z (by decide), fun h15 h16 h17 h18 h19 h20 h21 h22 h23 h24 h45 h46 => absurd rfl h23⟩
  · rcases bs with _ | ⟨c, _ | ⟨b, r⟩⟩
    · rw [tyS2n e] at h; cases h
    · rw [tyS2m e] at h; cases h
    · rcases vs with _ | ⟨y, _ | ⟨x, vs⟩⟩
      · exact hv.elim
      · exact hv.2.elim
      · rw [tyS2 e] at h
        have ee : evS t a pr fa dy sl k d (y :: x :: vs) = jnV k x y :: vs := evS2 e
        rw [ee] at kk
        have kk2 := kk _ (stk_rep hs.2)
        have hl2 : (x :: vs).length < 400 := Nat.lt_of_succ_lt hl
        have hl3 : vs.length < 400 := Nat.lt_of_succ_lt hl2
        by_cases q : (b = c) ∧ (b = (k == 25 || k == 26)) ∧ (k = 25 ∨ k = 26 ∨ k = 27 ∨ k = 28 ∨ (35 ≤ k ∧ k ≤ 43))
        · have q3 := q.2.2
          have nk : ∀ j, j < 2 ^ 31 → k ≠ j → ¬ nI k = nI j := fun j hj hne z => hne ((nI_eq (by omega) hj).mp z)
          unfold wX2_takeStep
          refine ⟨fun z => absurd z (nk 15 (by decide) (by omega)), fun z => absurd z (nk 16 (by decide) (by omega)), fun z => absurd z (nk 17 (by decide) (by omega)), fun z => absurd z (nk 18 (by decide) (by omega)), fun z => absurd z (nk 19 (by decide) (by omega)), fun z => absurd z (nk 20 (by decide) (by omega)), fun z => absurd z (nk 21 (by decide) (by omega)), fun z => absurd z (nk 22 (by decide) (by omega)), fun z => absurd z (nk 23 (by decide) (by omega)), fun z => absurd z (nk 24 (by decide) (by omega)), fun z => absurd z (nk 45 (by decide) (by omega)), fun z => absurd z (nk 46 (by decide) (by omega)), fun _ _ _ _ _ _ _ _ _ _ _ _ => ?_⟩
          exact sz_pull hl2 hs (sz_pull hl3 hs.2 (sz_join q3 (sz_push hl3 kk2)))
        · rw [if_neg q] at h; cases h
end RECK
