/-! PURE LAYER: the class's sofa, small methods. rN, rB: an array of ints holds numbers, booleans -/
abbrev zB1w (b : Bool) : Int32 := if b = true then 1 else 0
def rN (n : Nat) (f : Nat → Int32) (g : Nat → Nat) : Prop := ∀ i, i < n → f i = nI (g i)
def rB (n : Nat) (f : Nat → Int32) (g : Nat → Bool) : Prop := ∀ i, i < n → f i = zB1w (g i)
theorem rN_up {n : Nat} {f : Nat → Int32} {g : Nat → Nat} (h : rN n f g) (k v : Nat) : rN n (upd f k (nI v)) (va_up g k v) := by
  intro i hi
  unfold upd va_up
  by_cases e : i = k
  · rw [if_pos e, if_pos e]
  · rw [if_neg e, if_neg e]; exact h i hi
theorem rB_up {n : Nat} {f : Nat → Int32} {g : Nat → Bool} (h : rB n f g) (k : Nat) (v : Bool) : rB n (upd f k (zB1w v)) (va_up g k v) := by
  intro i hi
  unfold upd va_up
  by_cases e : i = k
  · rw [if_pos e, if_pos e]
  · rw [if_neg e, if_neg e]; exact h i hi
theorem rB_t {n : Nat} {f : Nat → Int32} {g : Nat → Bool} (h : rB n f g) (k : Nat) : rB n (upd f k 1) (va_up g k true) := rB_up h k true
theorem rB_f {n : Nat} {f : Nat → Int32} {g : Nat → Bool} (h : rB n f g) (k : Nat) : rB n (upd f k 0) (va_up g k false) := rB_up h k false
theorem zB_0 (b : Bool) : zB1w b = 0 ↔ b = false := by cases b <;> decide
theorem zB_n0 (b : Bool) : ¬ zB1w b = 0 ↔ b = true := by cases b <;> decide
theorem zB_1 (b : Bool) : zB1w b = 1 ↔ b = true := by cases b <;> decide
/-- a branch on a boolean int -/
theorem bz {x : Int32} {b : Bool} {A B : Prop} (hx : x = zB1w b) (f : b = false → A) (g : b = true → B) : (x = 0 → A) ∧ (¬ x = 0 → B) := by
  subst hx
  cases b
  · exact ⟨fun _ => f rfl, fun z => absurd rfl z⟩
  · exact ⟨fun z => absurd z (by decide), fun _ => g rfl⟩
theorem bz' {x : Int32} {b : Bool} {A B : Prop} (hx : x = zB1w b) (f : b = false → B) (g : b = true → A) : (¬ x = 0 → A) ∧ (x = 0 → B) := (bz hx f g).symm
/-- a boolean answer out of a boolean int -/
theorem bzK {x : Int32} {b : Bool} {K : Int32 → Unit → Prop} (hx : x = zB1w b) (k : K (zB1w b) ()) : (x = 0 → K 0 ()) ∧ (¬ x = 0 → K 1 ()) := by
  refine bz hx (fun e => ?_) (fun e => ?_)
  · subst e; exact k
  · subst e; exact k
theorem nI_big {n : Nat} (N : Nat) (h : N ≤ n) (hn : n < 2 ^ 31) : nI N ≤ nI n := nI_le h hn
section X4
variable {S H P F T : Nat → Int32} {K : Int32 → Unit → Prop} {st h fi : Nat → Nat} {lo pr sp fo : Nat → Bool}
theorem sz_heightAt (r : rN 8 H h) (h8 : ∀ s, 8 ≤ s → h s = 0) {n : Nat} (hn : n < 2 ^ 31) (k : K (nI (h n)) ()) : wX4_heightAt H (nI n) K := by
  unfold wX4_heightAt
  refine br_f (nI_pos hn) (pk_le 8 n (fun q => ?_) (fun q => ⟨vp_in_nI q (by decide), ?_⟩))
  · rw [h8 n q] at k; exact k
  · rw [nI_clamp hn, r n q]; exact k
theorem sz_heightAt_neg {x : Int32} (hx : x < 0) (k : K 0 ()) : wX4_heightAt H x K := by
  unfold wX4_heightAt
  exact br_t hx k
theorem sz_cushionAt (r : rN 80 S st) {s j : Nat} (hs : s < 8) (hj : j < 10) (k : K (nI (st (s * 10 + j))) ()) : wX4_cushionAt S (nI s) (nI j) K := by
  have e : nI s * 10 + nI j = nI (s * 10 + j) := by
    rw [show (10 : Int32) = nI 10 from rfl, pk_mul, nI_add]
  unfold wX4_cushionAt
  rw [e]
  refine br_f (nI_pos (by omega)) (br_f (nI_ge hs (by decide)) (br_f (nI_pos (by omega)) (br_t (nI_lt hj (by decide)) ⟨vp_in_nI (by omega) (by decide), ?_⟩)))
  rw [nI_clamp (by omega), r _ (by omega)]
  exact k
theorem sz_topOf (r : rN 80 S st) (rh : rN 8 H h) {s : Nat} (hs : s < 8) (h0 : 0 < h s) (h10 : h s ≤ 10) (h8 : ∀ s, 8 ≤ s → h s = 0) (k : K (nI (st (s * 10 + (h s - 1)))) ()) : wX4_topOf S H (nI s) K := by
  unfold wX4_topOf
  refine sz_heightAt rh h8 (by omega) ?_
  have e : nI (h s) - 1 = nI (h s - 1) := by
    obtain ⟨m, hm⟩ : ∃ m, h s = m + 1 := ⟨h s - 1, by omega⟩
    rw [hm, nI_pred]; rfl
  rw [e]
  exact sz_cushionAt r hs (by omega) k
theorem sz_topOf0 (rh : rN 8 H h) {s : Nat} (hs : s < 2 ^ 31) (h0 : h s = 0) (h8 : ∀ s, 8 ≤ s → h s = 0) (k : K (-1) ()) : wX4_topOf S H (nI s) K := by
  unfold wX4_topOf
  refine sz_heightAt rh h8 hs ?_
  rw [h0]
  unfold wX4_cushionAt
  refine br_f (nI_pos hs) (pk_le 8 s (fun q => k) (fun q => br_t (by decide) k))
theorem sz_hasProp (r : rB 8 P pr) {n : Nat} (hn : n < 8) (k : K (zB1w (pr n)) ()) : wX4_hasProp P (nI n) K := by
  unfold wX4_hasProp
  refine br_f (nI_pos (by omega)) (br_f (nI_ge hn (by decide)) ⟨vp_in_nI hn (by decide), ?_⟩)
  rw [nI_clamp (by omega)]
  exact bzK (r n hn) k
theorem sz_isLoose (r : rB 80 P lo) {n : Nat} (hn : n < 80) (k : K (zB1w (lo n)) ()) : wX4_isLoose P (nI n) K := by
  unfold wX4_isLoose
  refine br_f (nI_pos (by omega)) (br_f (nI_ge hn (by decide)) ⟨vp_in_nI hn (by decide), ?_⟩)
  rw [nI_clamp (by omega)]
  exact bzK (r n hn) k
theorem sz_wasFound (r : rB 24 P fo) {n : Nat} (hn : n < 24) (k : K (zB1w (fo n)) ()) : wX4_wasFound P (nI n) K := by
  unfold wX4_wasFound
  refine br_f (nI_pos (by omega)) (br_f (nI_ge hn (by decide)) ⟨vp_in_nI hn (by decide), ?_⟩)
  rw [nI_clamp (by omega)]
  exact bzK (r n hn) k
theorem sz_wasSure (r : rB 24 P fo) {n : Nat} (hn : n < 24) (k : K (zB1w (fo n)) ()) : wX4_wasSure P (nI n) K := by
  unfold wX4_wasSure
  refine br_f (nI_pos (by omega)) (br_f (nI_ge hn (by decide)) ⟨vp_in_nI hn (by decide), ?_⟩)
  rw [nI_clamp (by omega)]
  exact bzK (r n hn) k
theorem sz_isCushion {n : Nat} (hn : n < 80) (k : K 1 ()) : wX7_isCushion (nI n) K := by
  unfold wX7_isCushion
  exact br_f (nI_pos (by omega)) (br_f (nI_ge hn (by decide)) k)
theorem sz_hasSpring (r : rB 80 T sp) {n : Nat} (hn : n < 80) (k : K (zB1w (sp n)) ()) : wX7_hasSpring T (nI n) K := by
  unfold wX7_hasSpring
  refine sz_isCushion hn (br_f (by decide) ⟨vp_in_nI hn (by decide), ?_⟩)
  rw [nI_clamp (by omega)]
  exact bzK (r n hn) k
theorem sz_findIn {n : Nat} (hn : n < 80) (k : K (T n) ()) : wX7_findIn T (nI n) K := by
  unfold wX7_findIn
  refine sz_isCushion hn (br_f (by decide) ⟨vp_in_nI hn (by decide), ?_⟩)
  rw [nI_clamp (by omega)]
  exact k
theorem sz_findIn_no (k : K (-1) ()) : wX7_findIn T (-1) K := by
  unfold wX7_findIn wX7_isCushion
  exact br_t (by decide) (br_t rfl k)
theorem sz_stratumOfCushion {n : Nat} (hn : n < 80) (k : K (nI (n % 10)) ()) : wX7_stratumOfCushion (nI n) K := by
  unfold wX7_stratumOfCushion
  refine sz_isCushion hn (br_f (by decide) ?_)
  rw [show (10 : Int32) = nI 10 from rfl, pk_rem (by omega) (by decide) (by decide)]
  exact k
/-- whether the top of one seat slides onto another -/
def cs (sp : Nat → Bool) (pr : Nat → Bool) (st h : Nat → Nat) (a b : Nat) : Bool := decide (h b + 3 < h a) && (!pr a && !sp (st (a * 10 + (h a - 1))))
theorem sz_slidesOnto (rs : rN 80 S st) (rh : rN 8 H h) (rp : rB 8 P pr) (rt : rB 80 T sp) (h8 : ∀ s, 8 ≤ s → h s = 0) (h10 : ∀ s, h s ≤ 10) (hc : ∀ s j, j < h s → st (s * 10 + j) < 80) {a b : Nat} (ha : a < 2 ^ 31) (hb : b < 2 ^ 31) (k : K (zB1w (cs sp pr st h a b)) ()) : wX4_slidesOnto T S H P (nI a) (nI b) K := by
  unfold wX4_slidesOnto
  refine sz_heightAt rh h8 ha (sz_heightAt rh h8 hb ?_)
  have ba := h10 a
  have bb := h10 b
  have e : (nI (h a) - nI (h b) ≤ 3) ↔ h a ≤ h b + 3 := by
    rw [fa_le, pk_sub_toInt (by omega) (by omega)]
    show _ ≤ (3 : Int) ↔ _
    omega
  by_cases q : h b + 3 < h a
  · have a8 : a < 8 := by
      rcases Nat.lt_or_ge a 8 with z | z
      · exact z
      · have := h8 a z; omega
    refine br_f (by rw [e]; omega) (sz_hasProp rp a8 ?_)
    refine bz' rfl (fun e1 => ?_) (fun e1 => ?_)
    · refine sz_topOf rs rh a8 (by omega) ba h8 (sz_hasSpring rt (hc a _ (by omega)) ?_)
      refine bz' rfl (fun e2 => ?_) (fun e2 => ?_)
      · have : cs sp pr st h a b = true := by simp [cs, q, e1, e2]
        rw [this] at k; exact k
      · have : cs sp pr st h a b = false := by simp [cs, e2]
        rw [this] at k; exact k
    · have : cs sp pr st h a b = false := by simp [cs, e1]
      rw [this] at k; exact k
  · have : cs sp pr st h a b = false := by simp [cs, q]
    rw [this] at k
    exact br_t (by rw [e]; omega) k
theorem sz_slidesOnto_neg (rh : rN 8 H h) (h8 : ∀ s, 8 ≤ s → h s = 0) (h10 : ∀ s, h s ≤ 10) {x : Int32} (hx : x < 0) {b : Nat} (hb : b < 2 ^ 31) (k : K 0 ()) : wX4_slidesOnto T S H P x (nI b) K := by
  unfold wX4_slidesOnto
  refine sz_heightAt_neg hx (sz_heightAt rh h8 hb (br_t ?_ k))
  have := h10 b
  rw [fa_le, show (0 : Int32) = nI 0 from rfl, pk_sub_toInt (by omega) (by omega)]
  show _ ≤ (3 : Int)
  omega
end X4
