/-! the tape read: bytes, runs of them, words, names -/
def bv (M : Nat → Int32) (len i : Nat) : Int32 := if i < len then M i else -1
def dgB (v : Int32) : Bool := decide (¬ v < 48) && decide (¬ 57 < v)
def smB (v : Int32) : Bool := decide (¬ v < 97) && decide (¬ 122 < v)
def owB (v : Int32) : Bool := smB v || dgB v
def blB (v : Int32) : Bool := decide (v = 32) || decide (v = 10)
def cD (v : Int32) : Nat := (if dgB v = true then (v - 48) + 1 else (v - 97) + 11).toNatClampNeg
def mD (v : Int32) : Nat := (if smB v = true then (v - 97) + 1 else (v - 48) + 27).toNatClampNeg
def nD (v : Int32) : Nat := (v - 48).toNatClampNeg
/-- the number of a word in base b -/
def fw (b : Nat) (d : Int32 → Nat) (g : Nat → Int32) : Nat → Nat
  | 0 => 0
  | n + 1 => fw b d g n * b + d (g n)
theorem lgc (x y : Int64) : lg_cmp x y = 0 ↔ x = y := by
  unfold lg_cmp
  rcases Int.lt_trichotomy x.toInt y.toInt with h | h | h
  · have h1 : x < y := (fa_lt64 x y).2 h
    have h2 : ¬ x = y := fun e => by subst e; omega
    have h3 : ¬ y < x := fun e => by have := (fa_lt64 y x).1 e; omega
    simp [h1, h2, h3]
  · have e : x = y := (fa_eq64 x y).2 h
    subst e
    simp
  · have h1 : y < x := (fa_lt64 y x).2 h
    have h2 : ¬ x = y := fun e => by subst e; omega
    have h3 : ¬ x < y := fun e => by have := (fa_lt64 x y).1 e; omega
    simp [h1, h2, h3]
theorem ow_tab : ∀ b, b < 256 → owB (nI b) = true → (if dgB (nI b) = true then (nI b - 48) + 1 else (nI b - 97) + 11) = nI (cD (nI b)) ∧ (if smB (nI b) = true then (nI b - 97) + 1 else (nI b - 48) + 27) = nI (mD (nI b)) ∧ 1 ≤ cD (nI b) ∧ cD (nI b) < 37 ∧ 1 ≤ mD (nI b) ∧ mD (nI b) < 37 ∧ (if cD (nI b) ≤ 10 then nI (cD (nI b) + 47) else nI (cD (nI b) + 86)) = nI b ∧ (if mD (nI b) ≤ 26 then nI (mD (nI b) + 96) else nI (mD (nI b) + 21)) = nI b := by decide +kernel
theorem dg_tab : ∀ b, b < 256 → dgB (nI b) = true → nI b - 48 = nI (nD (nI b)) ∧ nD (nI b) < 10 ∧ 48 ≤ b ∧ nD (nI b) + 48 = b := by decide +kernel
theorem dg_ex {v : Int32} (h : dgB v = true) : ∃ b, b < 256 ∧ v = nI b := by
  unfold dgB at h
  rw [Bool.and_eq_true, decide_eq_true_eq, decide_eq_true_eq] at h
  obtain ⟨j, hj, e⟩ := nI_of2 (M := 57) (n := 57) (by decide) (x := v) (fun z => h.1 (fa_trans z (by decide))) (fa_of_nlt h.2)
  exact ⟨j, by omega, e⟩
theorem sm_ex {v : Int32} (h : smB v = true) : ∃ b, b < 256 ∧ v = nI b := by
  unfold smB at h
  rw [Bool.and_eq_true, decide_eq_true_eq, decide_eq_true_eq] at h
  obtain ⟨j, hj, e⟩ := nI_of2 (M := 122) (n := 122) (by decide) (x := v) (fun z => h.1 (fa_trans z (by decide))) (fa_of_nlt h.2)
  exact ⟨j, by omega, e⟩
theorem ow_ex {v : Int32} (h : owB v = true) : ∃ b, b < 256 ∧ v = nI b := by
  unfold owB at h
  rw [Bool.or_eq_true] at h
  rcases h with h | h
  · exact sm_ex h
  · exact dg_ex h
theorem cD_in {v : Int32} (h : owB v = true) : 1 ≤ cD v ∧ cD v < 37 ∧ (if dgB v = true then (v - 48) + 1 else (v - 97) + 11) = nI (cD v) := by
  obtain ⟨b, hb, rfl⟩ := ow_ex h
  have t := ow_tab b hb h
  exact ⟨t.2.2.1, t.2.2.2.1, t.1⟩
theorem mD_in {v : Int32} (h : owB v = true) : 1 ≤ mD v ∧ mD v < 37 ∧ (if smB v = true then (v - 97) + 1 else (v - 48) + 27) = nI (mD v) := by
  obtain ⟨b, hb, rfl⟩ := ow_ex h
  have t := ow_tab b hb h
  exact ⟨t.2.2.2.2.1, t.2.2.2.2.2.1, t.2.1⟩
theorem cD_inj {v w : Int32} (h : owB v = true) (h' : owB w = true) (e : cD v = cD w) : v = w := by
  obtain ⟨b, hb, rfl⟩ := ow_ex h
  obtain ⟨c, hc, rfl⟩ := ow_ex h'
  have t := (ow_tab b hb h).2.2.2.2.2.2.1
  have t' := (ow_tab c hc h').2.2.2.2.2.2.1
  rw [← t, ← t', e]
theorem mD_inj {v w : Int32} (h : owB v = true) (h' : owB w = true) (e : mD v = mD w) : v = w := by
  obtain ⟨b, hb, rfl⟩ := ow_ex h
  obtain ⟨c, hc, rfl⟩ := ow_ex h'
  have t := (ow_tab b hb h).2.2.2.2.2.2.2
  have t' := (ow_tab c hc h').2.2.2.2.2.2.2
  rw [← t, ← t', e]
theorem nD_in {v : Int32} (h : dgB v = true) : v - 48 = nI (nD v) ∧ nD v < 10 ∧ ∃ b, b < 256 ∧ v = nI b ∧ nD v + 48 = b := by
  obtain ⟨b, hb, rfl⟩ := dg_ex h
  have t := dg_tab b hb h
  exact ⟨t.1, t.2.1, b, hb, rfl, t.2.2.2⟩
theorem fw_lt {b : Nat} {d : Int32 → Nat} {g : Nat → Int32} (hb : 0 < b) : ∀ n, (∀ i, i < n → d (g i) < b) → fw b d g n < b ^ n
  | 0, _ => Nat.one_pos
  | n + 1, h => by
    have ih := fw_lt hb n (fun i hi => h i (by omega))
    have h1 := h n (by omega)
    show fw b d g n * b + d (g n) < b ^ n * b
    have h2 : (fw b d g n + 1) * b ≤ b ^ n * b := Nat.mul_le_mul_right b ih
    rw [Nat.add_mul, Nat.one_mul] at h2
    omega
theorem fw_inj {b : Nat} {d : Int32 → Nat} {g h : Nat → Int32} : ∀ n m, (∀ i, i < n → 1 ≤ d (g i) ∧ d (g i) < b) → (∀ i, i < m → 1 ≤ d (h i) ∧ d (h i) < b) → fw b d g n = fw b d h m → n = m ∧ ∀ i, i < n → d (g i) = d (h i)
  | 0, 0, _, _, _ => ⟨rfl, fun i hi => absurd hi (Nat.not_lt_zero i)⟩
  | 0, m + 1, _, hh, e => by
    have h1 := hh m (by omega)
    have e : 0 = fw b d h m * b + d (h m) := e
    omega
  | n + 1, 0, hg, _, e => by
    have h1 := hg n (by omega)
    have e : fw b d g n * b + d (g n) = 0 := e
    omega
  | n + 1, m + 1, hg, hh, e => by
    have h1 := hg n (by omega)
    have h2 := hh m (by omega)
    have e : fw b d g n * b + d (g n) = fw b d h m * b + d (h m) := e
    have e1 : (fw b d g n * b + d (g n)) % b = (fw b d h m * b + d (h m)) % b := by rw [e]
    have e2 : (fw b d g n * b + d (g n)) / b = (fw b d h m * b + d (h m)) / b := by rw [e]
    rw [Nat.mul_add_mod_self_right, Nat.mul_add_mod_self_right, Nat.mod_eq_of_lt h1.2, Nat.mod_eq_of_lt h2.2] at e1
    have hb : 0 < b := by omega
    rw [Nat.mul_comm, Nat.mul_add_div hb, Nat.mul_comm (fw b d h m), Nat.mul_add_div hb, Nat.div_eq_of_lt h1.2, Nat.div_eq_of_lt h2.2] at e2
    have ih := fw_inj n m (fun i hi => hg i (by omega)) (fun i hi => hh i (by omega)) (by omega)
    refine ⟨by omega, fun i hi => ?_⟩
    rcases Nat.lt_or_ge i n with z | z
    · exact ih.2 i z
    · have e3 : i = n := by omega
      subst e3
      rw [e1, ih.1]
theorem fw_eq {b : Nat} {d : Int32 → Nat} {g h : Nat → Int32} : ∀ n, (∀ i, i < n → g i = h i) → fw b d g n = fw b d h n
  | 0, _ => rfl
  | n + 1, e => by
    show fw b d g n * b + d (g n) = fw b d h n * b + d (h n)
    rw [fw_eq n (fun i hi => e i (by omega)), e n (by omega)]
/-- two words of at most ten signs: the same by the one's numbers, by the other's, sign by sign -/
theorem fw_same {g h : Nat → Int32} {n m : Nat} (hn : n ≤ 10) (hm : m ≤ 10) (hg : ∀ i, i < n → owB (g i) = true) (hh : ∀ i, i < m → owB (h i) = true) : (lN (fw 37 cD g n) = lN (fw 37 cD h m) ↔ (n = m ∧ ∀ i, i < n → g i = h i)) ∧ (lN (fw 37 mD g n) = lN (fw 37 mD h m) ↔ (n = m ∧ ∀ i, i < n → g i = h i)) := by
  have big : ∀ (d : Int32 → Nat) (g : Nat → Int32) n, n ≤ 10 → (∀ i, i < n → d (g i) < 37) → fw 37 d g n < 2 ^ 63 := by
    intro d g n hn h
    have h1 := fw_lt (b := 37) (by omega) n h
    have h2 : 37 ^ n ≤ 37 ^ 10 := Nat.pow_le_pow_right (by omega) hn
    have h3 : 37 ^ 10 < 2 ^ 63 := by decide
    omega
  have one : ∀ (d : Int32 → Nat), (∀ v, owB v = true → 1 ≤ d v ∧ d v < 37) → (∀ v w, owB v = true → owB w = true → d v = d w → v = w) → (lN (fw 37 d g n) = lN (fw 37 d h m) ↔ (n = m ∧ ∀ i, i < n → g i = h i)) := by
    intro d hd hi
    rw [pk_lEQ (big d g n hn (fun i z => (hd _ (hg i z)).2)) (big d h m hm (fun i z => (hd _ (hh i z)).2))]
    constructor
    · intro e
      have q := fw_inj n m (fun i z => hd _ (hg i z)) (fun i z => hd _ (hh i z)) e
      exact ⟨q.1, fun i z => hi _ _ (hg i z) (hh i (by omega)) (q.2 i z)⟩
    · rintro ⟨rfl, e⟩
      exact fw_eq n e
  exact ⟨one cD (fun v h => ⟨(cD_in h).1, (cD_in h).2.1⟩) (fun v w h h' e => cD_inj h h' e), one mD (fun v h => ⟨(mD_in h).1, (mD_in h).2.1⟩) (fun v w h h' e => mD_inj h h' e)⟩
theorem run_ex {M : Nat → Int32} {len : Nat} (P : Int32 → Bool) (h1 : P (-1) = false) : ∀ d p, p + d = len → ∃ q, p ≤ q ∧ q ≤ len ∧ (∀ i, p ≤ i → i < q → P (bv M len i) = true) ∧ P (bv M len q) = false := by
  intro d
  induction d with
  | zero =>
    intro p hp
    refine ⟨p, Nat.le_refl p, by omega, fun i h2 h3 => by omega, ?_⟩
    unfold bv
    rw [if_neg (by omega)]; exact h1
  | succ d ih =>
    intro p hp
    cases e : P (bv M len p)
    · exact ⟨p, Nat.le_refl p, by omega, fun i h2 h3 => by omega, e⟩
    · obtain ⟨q, a, b, c, f⟩ := ih (p + 1) (by omega)
      refine ⟨q, by omega, b, fun i h2 h3 => ?_, f⟩
      rcases Nat.lt_or_ge p i with z | z
      · exact c i (by omega) h3
      · have : i = p := by omega
        subst this; exact e
section WORD
variable {A M : Nat → Int32} {K : Int32 → Unit → Prop} {len : Nat}
theorem sz_byteAt (r : rA A M len) (hl : len ≤ 2000) {p : Nat} (hp : p < 2 ^ 31) (k : K (bv M len p) ()) : wX5_byteAt A (nI len) (nI p) K := by
  unfold wX5_byteAt
  refine br_f (nI_pos hp) (pk_le len p (fun q => ?_) (fun q => ?_))
  · unfold bv at k
    rw [if_neg (by omega)] at k; exact k
  · refine br_t (nI_lt (b := 2000) (by omega) (by decide)) ⟨vp_in_nI (by omega) (by decide), ?_⟩
    obtain ⟨b, hb, e1, e2⟩ := r p q
    unfold bv at k
    rw [if_pos q] at k
    rw [nI_clamp hp, e1, ← e2]; exact k
theorem sm_byteOf (hl : len ≤ 2000) {p : Nat} (hp : p < 2 ^ 31) (k : K (bv M len p) ()) : wX10_byteOf M (nI len) (nI p) K := by
  unfold wX10_byteOf
  refine pk_le len p (fun q => ?_) (fun q => ⟨vp_in_nI (by omega) (by decide), ?_⟩)
  · unfold bv at k
    rw [if_neg (by omega)] at k; exact k
  · unfold bv at k
    rw [if_pos q] at k
    rw [nI_clamp hp]; exact k
theorem rA_bv (r : rA A M len) {p : Nat} : bv M len p = -1 ∨ ∃ b, b < 256 ∧ bv M len p = nI b := by
  unfold bv
  by_cases h : p < len
  · rw [if_pos h]
    obtain ⟨b, hb, e1, e2⟩ := r p h
    exact Or.inr ⟨b, hb, e2⟩
  · rw [if_neg h]; exact Or.inl rfl
theorem bv_in {p : Nat} (P : Int32 → Bool) (h1 : P (-1) = false) (h : P (bv M len p) = true) : p < len ∧ bv M len p = M p := by
  unfold bv at h ⊢
  by_cases z : p < len
  · rw [if_pos z]; exact ⟨z, rfl⟩
  · rw [if_neg z, h1] at h; cases h
theorem rng_dec {v lo hi : Int32} (k : K (zB (decide (¬ v < lo) && decide (¬ hi < v))) ()) : (v < lo → K 0 ()) ∧ (¬ v < lo → ((hi < v → K 0 ()) ∧ (¬ hi < v → K 1 ()))) := by
  refine ⟨fun h => ?_, fun h => ⟨fun h2 => ?_, fun h2 => ?_⟩⟩
  · rw [decide_eq_false (fun z => z h), Bool.false_and] at k; exact k
  · rw [decide_eq_false (p := ¬ hi < v) (fun z => z h2), Bool.and_false] at k; exact k
  · rw [decide_eq_true h, decide_eq_true h2] at k; exact k
theorem sz_isDigit {v : Int32} (k : K (zB (dgB v)) ()) : wX6_isDigit v K := rng_dec k
theorem sz_isLetter {v : Int32} (k : K (zB (smB v)) ()) : wX6_isLetter v K := rng_dec k
theorem sm_isDigit {v : Int32} (k : K (zB (dgB v)) ()) : wX10_isDigit v K := rng_dec k
theorem sm_isSmall {v : Int32} (k : K (zB (smB v)) ()) : wX10_isSmall v K := rng_dec k
theorem sz_isOfWord {v : Int32} (k : K (zB (owB v)) ()) : wX6_isOfWord v K := by
  unfold wX6_isOfWord
  refine sz_isLetter (bz' rfl (fun e => sz_isDigit ?_) (fun e => ?_))
  · unfold owB at k
    rw [e, Bool.false_or] at k
    exact bzK rfl k
  · unfold owB at k
    rw [e, Bool.true_or] at k
    exact k
theorem sz_isBlank {v : Int32} (k : K (zB (blB v)) ()) : wX6_isBlank v K := by
  unfold wX6_isBlank
  refine ⟨fun h => ?_, fun h => ⟨fun h2 => ?_, fun h2 => ?_⟩⟩
  · unfold blB at k
    rw [decide_eq_true h, Bool.true_or] at k; exact k
  · unfold blB at k
    rw [decide_eq_false h, decide_eq_false h2] at k; exact k
  · unfold blB at k
    rw [decide_eq_true h2, Bool.or_true] at k; exact k
theorem sz_numberOfSign {v : Int32} (h : owB v = true) (k : K (nI (cD v)) ()) : wX6_numberOfSign v K := by
  unfold wX6_numberOfSign
  refine sz_isDigit (bz rfl (fun e => ?_) (fun e => ?_))
  · have t := (cD_in h).2.2
    rw [if_neg (by rw [e]; decide)] at t
    rw [t]; exact k
  · have t := (cD_in h).2.2
    rw [if_pos e] at t
    rw [t]; exact k
theorem sm_letter {v : Int32} (h : owB v = true) (k : K (nI (mD v)) ()) : wX10_letter v K := by
  unfold wX10_letter
  refine sm_isSmall (bz rfl (fun e => ?_) (fun e => ?_))
  · have t := (mD_in h).2.2
    rw [if_neg (by rw [e]; decide)] at t
    rw [t]; exact k
  · have t := (mD_in h).2.2
    rw [if_pos e] at t
    rw [t]; exact k
end WORD
/-! the keywords -/
def kwM (g : Nat → Int32) (L k : Nat) : Prop := L = kLen (k + 2) ∧ ∀ x, x < L → g x = kCh 0 (7 * k + x)
theorem kw_tab : kLen 0 = 203 ∧ ∀ k, k < 29 → kLen (k + 2) ≤ 6 ∧ ∀ x, x < 7 → (x < kLen (k + 2) → kCh 0 (7 * k + x) ≠ 32 ∧ kCh 0 (7 * k + x) = kCh (k + 2) x ∧ owB (kCh (k + 2) x) = true) ∧ (kLen (k + 2) ≤ x → kCh 0 (7 * k + x) = 32) := by decide +kernel
theorem kw_ex (g : Nat → Int32) (L : Nat) : ∃ k, (k = 44 ∧ ∀ j, j < 29 → ¬ kwM g L j) ∨ (k < 29 ∧ kwM g L k ∧ ∀ j, j < k → ¬ kwM g L j) := by
  by_cases h : ∃ j, j < 29 ∧ kwM g L j
  · obtain ⟨j, hj, hk⟩ := h
    obtain ⟨k, h1, h2⟩ := pk_least (kwM g L) ⟨j, hk⟩
    refine ⟨k, Or.inr ⟨?_, h1, h2⟩⟩
    rcases Nat.lt_or_ge j k with z | z
    · exact absurd hk (h2 j z)
    · omega
  · exact ⟨44, Or.inl ⟨rfl, fun j hj hk => h ⟨j, hj, hk⟩⟩⟩
section KEYS
variable {A M : Nat → Int32} {K : Int32 → Unit → Prop} {len : Nat}
theorem sz_isWord (r : rA A M len) (hl : len ≤ 2000) {p L k : Nat} (hp : p ≤ 2000) (hk : k < 29) (hL : L ≤ 6) (ho : ∀ x, x < L → owB (bv M len (p + x)) = true) (ky : kwM (fun x => bv M len (p + x)) L k → K 1 ()) (kn : ¬ kwM (fun x => bv M len (p + x)) L k → K 0 ()) : wX0_isWord A (nI len) (nI k * 7) (nI p) (nI L) K := by
  have T := (kw_tab).2 k hk
  have T0 := (kw_tab).1
  unfold wX0_isWord
  rw [show (7 : Int32) = nI 7 from rfl, pk_mul]
  refine pk_loop (fun n i (_ : Unit) => wX0_isWord_3 K A (nI len) n (nI (k * 7)) (nI p) (nI L) (nI i)) (fun i _ => ∀ x, x < i → bv M len (p + x) = kCh 0 (7 * k + x)) L 0 () (Nat.zero_le L) (fun x h => absurd h (Nat.not_lt_zero x)) (fun n _ hy => ?_) (fun n i _ hi hy ih => ?_)
  · unfold wX0_isWord_3
    rw [nI_add]
    refine pk_le L L (fun _ => ⟨⟨by decide, by rw [T0]; exact vp_in_nI (by omega) (by decide)⟩, ?_⟩) (fun z => absurd z (Nat.lt_irrefl L))
    rw [nI_clamp (by omega), Nat.mul_comm k 7]
    refine ⟨fun z => kn (fun hw => z ?_), fun z => ky ⟨?_, hy⟩⟩
    · exact ((T.2 L (by omega)).2 (by rw [hw.1]; exact Nat.le_refl _))
    · rcases Nat.lt_trichotomy L (kLen (k + 2)) with y | y | y
      · exact absurd z ((T.2 L (by omega)).1 y).1
      · exact y
      · have h1 := (T.2 (kLen (k + 2)) (by omega)).2 (Nat.le_refl _)
        have h2 := hy (kLen (k + 2)) y
        have h3 := ho (kLen (k + 2)) y
        rw [h2, h1] at h3
        exact absurd h3 (by decide)
  · unfold wX0_isWord_3
    rw [nI_add, nI_add, nI_add]
    refine pk_le L i (fun z => by omega) (fun _ => ⟨⟨by decide, by rw [T0]; exact vp_in_nI (by omega) (by decide)⟩, ?_⟩)
    rw [nI_clamp (by omega), Nat.mul_comm k 7]
    refine sz_byteAt r hl (by omega) ⟨fun z => ?_, fun z => kn (fun hw => z (hw.2 i hi).symm)⟩
    rw [nI_1, Nat.mul_comm 7 k]
    refine ih () (fun x hx => ?_)
    rcases Nat.lt_or_ge x i with y | y
    · exact hy x y
    · have : x = i := by omega
      subst this
      exact z.symm
theorem sz_ofWord (r : rA A M len) (hl : len ≤ 2000) {p L kd : Nat} (hp : p ≤ 2000) (hL0 : L ≤ 2000) (ho : ∀ x, x < L → owB (bv M len (p + x)) = true) (h : (kd = 44 ∧ ∀ j, j < 29 → ¬ kwM (fun x => bv M len (p + x)) L j) ∨ (kd < 29 ∧ kwM (fun x => bv M len (p + x)) L kd ∧ ∀ j, j < kd → ¬ kwM (fun x => bv M len (p + x)) L j)) (k : K (nI kd) ()) : wX0_ofWord A (nI len) (nI p) (nI L) K := by
  unfold wX0_ofWord
  have T0 : kLn 0 = nI 203 := by decide +kernel
  refine pk_loop (fun n i (_ : Unit) => wX0_ofWord_2 K A (nI len) n (nI p) (nI L) (nI i)) (fun i _ => i ≤ 29 ∧ ∀ j, j < i → ¬ kwM (fun x => bv M len (p + x)) L j) 29 0 () (by omega) ⟨by omega, fun x h => absurd h (Nat.not_lt_zero x)⟩ (fun n _ hy => ?_) (fun n i _ hi hy ih => ?_)
  · unfold wX0_ofWord_2
    refine ⟨by decide, ?_⟩
    rw [T0, nI_1, show (7 : Int32) = nI 7 from rfl, pk_mul]
    refine pk_lt 203 ((29 + 1) * 7) (fun _ => ?_) (fun z => by omega)
    rcases h with h | h
    · rw [h.1] at k; exact k
    · exact absurd h.2.1 (hy.2 kd h.1)
  · unfold wX0_ofWord_2
    refine ⟨by decide, ?_⟩
    rw [T0, nI_1, show (7 : Int32) = nI 7 from rfl, pk_mul]
    have nx : ¬ kwM (fun x => bv M len (p + x)) L i → wX0_ofWord_39 K (wX0_ofWord_2 K A (nI len) n) A (nI len) (nI p) (nI L) (nI i) := by
      intro hn
      unfold wX0_ofWord_39
      rw [nI_1]
      refine ih () ⟨by omega, fun j hj => ?_⟩
      rcases Nat.lt_or_ge j i with y | y
      · exact hy.2 j y
      · have : j = i := by omega
        subst this; exact hn
    refine pk_lt 203 ((i + 1) * 7) (fun _ => by omega) (fun _ => pk_le 7 L (fun z => nx (fun hw => ?_)) (fun z => ?_))
    · have := ((kw_tab).2 i hi).1
      have := hw.1
      omega
    · refine sz_isWord r hl hp hi (by omega) ho (fun hw => br_f (by decide) ?_) (fun hw => br_t rfl (nx hw))
      have e : kd = i := by
        rcases h with h | h
        · exact absurd hw (h.2 i hi)
        · rcases Nat.lt_trichotomy i kd with y | y | y
          · exact absurd hw (h.2.2 i y)
          · exact y.symm
          · exact absurd h.2.1 (hy.2 kd y)
      subst e
      rw [show (0 : Int32) = nI 0 from rfl, nI_add, Nat.zero_add]
      exact k
theorem sm_nameOf {K : Int64 → Unit → Prop} {k : Nat} (hk : k < 29) (kk : K (lN (fw 37 mD (kCh (k + 2)) (kLen (k + 2)))) ()) : wX10_nameOf (k + 2) K := by
  have T := (kw_tab).2 k hk
  unfold wX10_nameOf
  refine pk_loop (fun n i (_ : Unit) => wX10_nameOf_4 K (k + 2) n (lN (fw 37 mD (kCh (k + 2)) i)) (nI i)) (fun i _ => True) (kLen (k + 2)) 0 () (Nat.zero_le _) trivial (fun n _ _ => ?_) (fun n i _ hi _ ih => ?_)
  · unfold wX10_nameOf_4
    exact ⟨by omega, pk_le (kLen (k + 2)) (kLen (k + 2)) (fun _ => kk) (fun z => absurd z (Nat.lt_irrefl _))⟩
  · unfold wX10_nameOf_4
    refine ⟨by omega, pk_le (kLen (k + 2)) i (fun z => by omega) (fun _ => ⟨⟨by omega, vp_in_nI hi (by omega)⟩, ?_⟩)⟩
    rw [nI_clamp (by omega)]
    have ho := ((T.2 i (by omega)).1 hi).2.2
    refine sm_letter ho ?_
    rw [nI_l (by have := (mD_in ho).2.1; omega), show (37 : Int64) = lN 37 from rfl, lN_mul, lN_add, nI_1, Nat.mul_comm]
    exact ih () trivial
end KEYS
