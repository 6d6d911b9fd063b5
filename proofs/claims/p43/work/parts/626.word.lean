/-! PURE: the class reads bytes, words, numbers, signs (out of whole's parts 470, 472). -/
def bv (M : Nat → Int32) (len i : Nat) : Int32 := if i < len then M i else -1
def dgB (v : Int32) : Bool := decide (¬ v < 48) && decide (¬ 57 < v)
def smB (v : Int32) : Bool := decide (¬ v < 97) && decide (¬ 122 < v)
def owB (v : Int32) : Bool := smB v || dgB v
def blB (v : Int32) : Bool := decide (v = 32) || decide (v = 10)
def cD (v : Int32) : Nat := (if dgB v = true then (v - 48) + 1 else (v - 97) + 11).toNatClampNeg
def nD (v : Int32) : Nat := (v - 48).toNatClampNeg
/-- the number of a word in base b -/
def fw (b : Nat) (d : Int32 → Nat) (g : Nat → Int32) : Nat → Nat
  | 0 => 0
  | n + 1 => fw b d g n * b + d (g n)
theorem lgc (x y : Int64) : lg_cmp x y = 0 ↔ x = y := by
  unfold lg_cmp
  rcases Int.lt_trichotomy x.toInt y.toInt with h | h | h
  · have h1 : x < y := (fa_lt64 x y).2 h
    have h2 : ¬ x = y := fun e => by subst e; omega
    have h3 : ¬ y < x := fun e => by have := (fa_lt64 y x).1 e; omega
    simp [h1, h2, h3]
  · have e : x = y := (fa_eq64 x y).2 h
    subst e
    simp
  · have h1 : y < x := (fa_lt64 y x).2 h
    have h2 : ¬ x = y := fun e => by subst e; omega
    have h3 : ¬ x < y := fun e => by have := (fa_lt64 x y).1 e; omega
    simp [h1, h2, h3]
theorem ow_tab : ∀ b, b < 256 → owB (nI b) = true → (if dgB (nI b) = true then (nI b - 48) + 1 else (nI b - 97) + 11) = nI (cD (nI b)) ∧ 1 ≤ cD (nI b) ∧ cD (nI b) < 37 := by decide +kernel
theorem dg_tab : ∀ b, b < 256 → dgB (nI b) = true → nI b - 48 = nI (nD (nI b)) ∧ nD (nI b) < 10 ∧ 48 ≤ b ∧ nD (nI b) + 48 = b := by decide +kernel
theorem dg_ex {v : Int32} (h : dgB v = true) : ∃ b, b < 256 ∧ v = nI b := by
  unfold dgB at h
  rw [Bool.and_eq_true, decide_eq_true_eq, decide_eq_true_eq] at h
  obtain ⟨j, hj, e⟩ := nI_of2 (M := 57) (n := 57) (by decide) (x := v) (fun z => h.1 (fa_trans z (by decide))) (fa_of_nlt h.2)
  exact ⟨j, by omega, e⟩
theorem sm_ex {v : Int32} (h : smB v = true) : ∃ b, b < 256 ∧ v = nI b := by
  unfold smB at h
  rw [Bool.and_eq_true, decide_eq_true_eq, decide_eq_true_eq] at h
  obtain ⟨j, hj, e⟩ := nI_of2 (M := 122) (n := 122) (by decide) (x := v) (fun z => h.1 (fa_trans z (by decide))) (fa_of_nlt h.2)
  exact ⟨j, by omega, e⟩
theorem ow_ex {v : Int32} (h : owB v = true) : ∃ b, b < 256 ∧ v = nI b := by
  unfold owB at h
  rw [Bool.or_eq_true] at h
  rcases h with h | h
  · exact sm_ex h
  · exact dg_ex h
theorem cD_in {v : Int32} (h : owB v = true) : 1 ≤ cD v ∧ cD v < 37 ∧ (if dgB v = true then (v - 48) + 1 else (v - 97) + 11) = nI (cD v) := by
  obtain ⟨b, hb, rfl⟩ := ow_ex h
  have t := ow_tab b hb h
  exact ⟨t.2.1, t.2.2, t.1⟩
theorem nD_in {v : Int32} (h : dgB v = true) : v - 48 = nI (nD v) ∧ nD v < 10 ∧ ∃ b, b < 256 ∧ v = nI b ∧ nD v + 48 = b := by
  obtain ⟨b, hb, rfl⟩ := dg_ex h
  have t := dg_tab b hb h
  exact ⟨t.1, t.2.1, b, hb, rfl, t.2.2.2⟩
theorem fw_lt {b : Nat} {d : Int32 → Nat} {g : Nat → Int32} (hb : 0 < b) : ∀ n, (∀ i, i < n → d (g i) < b) → fw b d g n < b ^ n
  | 0, _ => Nat.one_pos
  | n + 1, h => by
    have ih := fw_lt hb n (fun i hi => h i (by omega))
    have h1 := h n (by omega)
    show fw b d g n * b + d (g n) < b ^ n * b
    have h2 : (fw b d g n + 1) * b ≤ b ^ n * b := Nat.mul_le_mul_right b ih
    rw [Nat.add_mul, Nat.one_mul] at h2
    omega
theorem fw_eq {b : Nat} {d : Int32 → Nat} {g h : Nat → Int32} : ∀ n, (∀ i, i < n → g i = h i) → fw b d g n = fw b d h n
  | 0, _ => rfl
  | n + 1, e => by
    show fw b d g n * b + d (g n) = fw b d h n * b + d (h n)
    rw [fw_eq n (fun i hi => e i (by omega)), e n (by omega)]
theorem run_ex {M : Nat → Int32} {len : Nat} (P : Int32 → Bool) (h1 : P (-1) = false) : ∀ d p, p + d = len → ∃ q, p ≤ q ∧ q ≤ len ∧ (∀ i, p ≤ i → i < q → P (bv M len i) = true) ∧ P (bv M len q) = false := by
  intro d
  induction d with
  | zero =>
    intro p hp
    refine ⟨p, Nat.le_refl p, by omega, fun i h2 h3 => by omega, ?_⟩
    unfold bv
    rw [if_neg (by omega)]; exact h1
  | succ d ih =>
    intro p hp
    cases e : P (bv M len p)
    · exact ⟨p, Nat.le_refl p, by omega, fun i h2 h3 => by omega, e⟩
    · obtain ⟨q, a, b, c, f⟩ := ih (p + 1) (by omega)
      refine ⟨q, by omega, b, fun i h2 h3 => ?_, f⟩
      rcases Nat.lt_or_ge p i with z | z
      · exact c i (by omega) h3
      · have : i = p := by omega
        subst this; exact e
section WORD
variable {A M : Nat → Int32} {K : Int32 → Unit → Prop} {len : Nat}
theorem sz_byteAt (r : rA A M len) (hl : len ≤ 2000) {p : Nat} (hp : p < 2 ^ 31) (k : K (bv M len p) ()) : wX5_byteAt A (nI len) (nI p) K := by
  unfold wX5_byteAt
  refine br_f (nI_pos hp) (pk_le len p (fun q => ?_) (fun q => ?_))
  · unfold bv at k
    rw [if_neg (by omega)] at k; exact k
  · refine br_t (nI_lt (b := 2000) (by omega) (by decide)) ⟨vp_in_nI (by omega) (by decide), ?_⟩
    obtain ⟨b, hb, e1, e2⟩ := r p q
    unfold bv at k
    rw [if_pos q] at k
    rw [nI_clamp hp, e1, ← e2]; exact k
theorem bv_in {p : Nat} (P : Int32 → Bool) (h1 : P (-1) = false) (h : P (bv M len p) = true) : p < len ∧ bv M len p = M p := by
  unfold bv at h ⊢
  by_cases z : p < len
  · rw [if_pos z]; exact ⟨z, rfl⟩
  · rw [if_neg z, h1] at h; cases h
theorem rng_dec {v lo hi : Int32} (k : K (zB1w (decide (¬ v < lo) && decide (¬ hi < v))) ()) : (v < lo → K 0 ()) ∧ (¬ v < lo → ((hi < v → K 0 ()) ∧ (¬ hi < v → K 1 ()))) := by
  refine ⟨fun h => ?_, fun h => ⟨fun h2 => ?_, fun h2 => ?_⟩⟩
  · rw [decide_eq_false (fun z => z h), Bool.false_and] at k; exact k
  · rw [decide_eq_false (p := ¬ hi < v) (fun z => z h2), Bool.and_false] at k; exact k
  · rw [decide_eq_true h, decide_eq_true h2] at k; exact k
theorem sz_isDigit {v : Int32} (k : K (zB1w (dgB v)) ()) : wX6_isDigit v K := rng_dec k
theorem sz_isLetter {v : Int32} (k : K (zB1w (smB v)) ()) : wX6_isLetter v K := rng_dec k
theorem sz_isOfWord {v : Int32} (k : K (zB1w (owB v)) ()) : wX6_isOfWord v K := by
  unfold wX6_isOfWord
  refine sz_isLetter (bz' rfl (fun e => sz_isDigit ?_) (fun e => ?_))
  · unfold owB at k
    rw [e, Bool.false_or] at k
    exact bzK rfl k
  · unfold owB at k
    rw [e, Bool.true_or] at k
    exact k
theorem sz_isBlank {v : Int32} (k : K (zB1w (blB v)) ()) : wX6_isBlank v K := by
  unfold wX6_isBlank
  refine ⟨fun h => ?_, fun h => ⟨fun h2 => ?_, fun h2 => ?_⟩⟩
  · unfold blB at k
    rw [decide_eq_true h, Bool.true_or] at k; exact k
  · unfold blB at k
    rw [decide_eq_false h, decide_eq_false h2] at k; exact k
  · unfold blB at k
    rw [decide_eq_true h2, Bool.or_true] at k; exact k
theorem sz_numberOfSign {v : Int32} (h : owB v = true) (k : K (nI (cD v)) ()) : wX6_numberOfSign v K := by
  unfold wX6_numberOfSign
  refine sz_isDigit (bz rfl (fun e => ?_) (fun e => ?_))
  · have t := (cD_in h).2.2
    rw [if_neg (by rw [e]; decide)] at t
    rw [t]; exact k
  · have t := (cD_in h).2.2
    rw [if_pos e] at t
    rw [t]; exact k
end WORD
def kwl (k : Nat) : Nat := [5, 6, 6, 4, 2, 4, 6, 6, 2, 4, 2, 3, 4, 4, 4, 3, 5, 6, 5, 5, 4, 6, 4, 4, 3, 3, 2, 3, 3].getD k 0
def kwM (g : Nat → Int32) (L k : Nat) : Prop := L = kwl k ∧ ∀ x, x < L → g x = kCh 0 (7 * k + x)
theorem kw_tab : kLen 0 = 203 ∧ ∀ k, k < 29 → kwl k ≤ 6 ∧ ∀ x, x < 7 → (x < kwl k → kCh 0 (7 * k + x) ≠ 32 ∧ owB (kCh 0 (7 * k + x)) = true) ∧ (kwl k ≤ x → kCh 0 (7 * k + x) = 32) := by decide +kernel
section KEYS
variable {A M : Nat → Int32} {K : Int32 → Unit → Prop} {len : Nat}
theorem sz_isWord (r : rA A M len) (hl : len ≤ 2000) {p L k : Nat} (hp : p ≤ 2000) (hk : k < 29) (hL : L ≤ 6) (ho : ∀ x, x < L → owB (bv M len (p + x)) = true) (ky : kwM (fun x => bv M len (p + x)) L k → K 1 ()) (kn : ¬ kwM (fun x => bv M len (p + x)) L k → K 0 ()) : wX0_isWord A (nI len) (nI k * 7) (nI p) (nI L) K := by
  have T := (kw_tab).2 k hk
  have T0 := (kw_tab).1
  unfold wX0_isWord
  rw [show (7 : Int32) = nI 7 from rfl, pk_mul]
  refine pk_loop (fun n i (_ : Unit) => wX0_isWord_3 K A (nI len) n (nI (k * 7)) (nI p) (nI L) (nI i)) (fun i _ => ∀ x, x < i → bv M len (p + x) = kCh 0 (7 * k + x)) L 0 () (Nat.zero_le L) (fun x h => absurd h (Nat.not_lt_zero x)) (fun n _ hy => ?_) (fun n i _ hi hy ih => ?_)
  · unfold wX0_isWord_3
    rw [nI_add]
    refine pk_le L L (fun _ => ⟨⟨by decide, by rw [T0]; exact vp_in_nI (by omega) (by decide)⟩, ?_⟩) (fun z => absurd z (Nat.lt_irrefl L))
    rw [nI_clamp (by omega), Nat.mul_comm k 7]
    refine ⟨fun z => kn (fun hw => z ?_), fun z => ky ⟨?_, hy⟩⟩
    · exact ((T.2 L (by omega)).2 (by rw [hw.1]; exact Nat.le_refl _))
    · rcases Nat.lt_trichotomy L (kwl k) with y | y | y
      · exact absurd z ((T.2 L (by omega)).1 y).1
      · exact y
      · have h1 := (T.2 (kwl k) (by omega)).2 (Nat.le_refl _)
        have h2 := hy (kwl k) y
        have h3 := ho (kwl k) y
        rw [h2, h1] at h3
        exact absurd h3 (by decide)
  · unfold wX0_isWord_3
    rw [nI_add, nI_add, nI_add]
    refine pk_le L i (fun z => by omega) (fun _ => ⟨⟨by decide, by rw [T0]; exact vp_in_nI (by omega) (by decide)⟩, ?_⟩)
    rw [nI_clamp (by omega), Nat.mul_comm k 7]
    refine sz_byteAt r hl (by omega) ⟨fun z => ?_, fun z => kn (fun hw => z (hw.2 i hi).symm)⟩
    rw [nI_1, Nat.mul_comm 7 k]
    refine ih () (fun x hx => ?_)
    rcases Nat.lt_or_ge x i with y | y
    · exact hy x y
    · have : x = i := by omega
      subst this
      exact z.symm
theorem sz_ofWord (r : rA A M len) (hl : len ≤ 2000) {p L kd : Nat} (hp : p ≤ 2000) (hL0 : L ≤ 2000) (ho : ∀ x, x < L → owB (bv M len (p + x)) = true) (h : (kd = 44 ∧ ∀ j, j < 29 → ¬ kwM (fun x => bv M len (p + x)) L j) ∨ (kd < 29 ∧ kwM (fun x => bv M len (p + x)) L kd ∧ ∀ j, j < kd → ¬ kwM (fun x => bv M len (p + x)) L j)) (k : K (nI kd) ()) : wX0_ofWord A (nI len) (nI p) (nI L) K := by
  unfold wX0_ofWord
  have T0 : kLn 0 = nI 203 := by decide +kernel
  refine pk_loop (fun n i (_ : Unit) => wX0_ofWord_2 K A (nI len) n (nI p) (nI L) (nI i)) (fun i _ => i ≤ 29 ∧ ∀ j, j < i → ¬ kwM (fun x => bv M len (p + x)) L j) 29 0 () (by omega) ⟨by omega, fun x h => absurd h (Nat.not_lt_zero x)⟩ (fun n _ hy => ?_) (fun n i _ hi hy ih => ?_)
  · unfold wX0_ofWord_2
    refine ⟨by decide, ?_⟩
    rw [T0, nI_1, show (7 : Int32) = nI 7 from rfl, pk_mul]
    refine pk_lt 203 ((29 + 1) * 7) (fun _ => ?_) (fun z => by omega)
    rcases h with h | h
    · rw [h.1] at k; exact k
    · exact absurd h.2.1 (hy.2 kd h.1)
  · unfold wX0_ofWord_2
    refine ⟨by decide, ?_⟩
    rw [T0, nI_1, show (7 : Int32) = nI 7 from rfl, pk_mul]
    have nx : ¬ kwM (fun x => bv M len (p + x)) L i → wX0_ofWord_39 K (wX0_ofWord_2 K A (nI len) n) A (nI len) (nI p) (nI L) (nI i) := by
      intro hn
      unfold wX0_ofWord_39
      rw [nI_1]
      refine ih () ⟨by omega, fun j hj => ?_⟩
      rcases Nat.lt_or_ge j i with y | y
      · exact hy.2 j y
      · have : j = i := by omega
        subst this; exact hn
    refine pk_lt 203 ((i + 1) * 7) (fun _ => by omega) (fun _ => pk_le 7 L (fun z => nx (fun hw => ?_)) (fun z => ?_))
    · have := ((kw_tab).2 i hi).1
      have := hw.1
      omega
    · refine sz_isWord r hl hp hi (by omega) ho (fun hw => br_f (by decide) ?_) (fun hw => br_t rfl (nx hw))
      have e : kd = i := by
        rcases h with h | h
        · exact absurd hw (h.2 i hi)
        · rcases Nat.lt_trichotomy i kd with y | y | y
          · exact absurd hw (h.2.2 i y)
          · exact y.symm
          · exact absurd h.2.1 (hy.2 kd y)
      subst e
      rw [show (0 : Int32) = nI 0 from rfl, nI_add, Nat.zero_add]
      exact k
end KEYS
def wnC (M : Nat → Int32) (len s q : Nat) : Int64 := lN (fw 37 cD (fun x => bv M len (s + x)) (q - s))
def wnum (M : Nat → Int32) (len s q : Nat) : Nat := fw 10 nD (fun x => bv M len (s + x)) (q - s)
theorem sm_tab : ∀ b, b < 256 → (smB (nI b) = true → dgB (nI b) = false) ∧ (owB (nI b) = true → nI b ≠ 60 ∧ nI b ≠ 62 ∧ nI b ≠ -1 ∧ blB (nI b) = false) := by decide +kernel
theorem ow_not {v : Int32} (h : owB v = true) : v ≠ 60 ∧ v ≠ 62 ∧ v ≠ -1 := by
  obtain ⟨b, hb, rfl⟩ := ow_ex h
  have t := (sm_tab b hb).2 h
  exact ⟨t.1, t.2.1, t.2.2.1⟩
theorem sm_not {v : Int32} (h : smB v = true) : dgB v = false ∧ owB v = true := by
  obtain ⟨b, hb, rfl⟩ := sm_ex h
  exact ⟨(sm_tab b hb).1 h, by unfold owB; rw [h]; rfl⟩
theorem dg_not {v : Int32} (h : dgB v = true) : smB v = false ∧ owB v = true := by
  have o : owB v = true := by unfold owB; rw [h, Bool.or_true]
  refine ⟨?_, o⟩
  cases e : smB v
  · rfl
  · rw [(sm_not e).1] at h; cases h
section TOK
variable {A M : Nat → Int32} {len : Nat}
theorem upL_ne {f : Nat → Int64} {k j : Nat} {x : Int64} (h : j ≠ k) : vp_updL f k x j = f j := if_neg h
theorem upL_eq {f : Nat → Int64} {k : Nat} {x : Int64} : vp_updL f k x k = x := if_pos rfl
theorem sz_skip (r : rA A M len) (hl : len ≤ 2000) {p s : Nat} (hp : p ≤ s) (hs : s ≤ len) (hb : ∀ i, p ≤ i → i < s → blB (bv M len i) = true) (he : blB (bv M len s) = false) {K : Int32 → Prop} (k : K (nI s)) : wX6_skipBlanks A (nI len) (nI p) K := by
  unfold wX6_skipBlanks
  refine pk_loop (fun n i (_ : Unit) => wX6_skipBlanks_2 K A (nI len) n (nI (p + i)) (nI i)) (fun _ _ => True) (s - p) 0 () (Nat.zero_le _) trivial (fun n _ _ => ?_) (fun n i _ hi _ ih => ?_)
  · unfold wX6_skipBlanks_2
    rw [show p + (s - p) = s by omega]
    exact pk_le 2000 (s - p) (fun _ => k) (fun _ => sz_byteAt r hl (by omega) (sz_isBlank (by rw [he]; exact br_t rfl k)))
  · unfold wX6_skipBlanks_2
    refine pk_le 2000 i (fun _ => by omega) (fun _ => sz_byteAt r hl (by omega) (sz_isBlank ?_))
    rw [hb (p + i) (by omega) (by omega), nI_1, nI_1]
    exact br_f (by decide) (ih () trivial)
theorem sz_readWord (r : rA A M len) (hl : len ≤ 2000) {s q kd c : Nat} (hc : c ≤ 400) (hp : s ≤ q) (hs : q ≤ len) (hb : ∀ i, s ≤ i → i < q → owB (bv M len i) = true) (he : owB (bv M len q) = false) (hk : q - s ≤ 10 → (kd = 44 ∧ ∀ j, j < 29 → ¬ kwM (fun x => bv M len (s + x)) (q - s) j) ∨ (kd < 29 ∧ kwM (fun x => bv M len (s + x)) (q - s) kd ∧ ∀ j, j < kd → ¬ kwM (fun x => bv M len (s + x)) (q - s) j)) {na : Nat → Int64} {K : Int32 → ((Nat → Int64) × Int32) → Prop} (k : K (nI (if q - s ≤ 10 then kd else 48)) (vp_updL na c (wnC M len s q), nI q)) : wX6_readWord A (nI len) na (nI c) (nI s) K := by
  unfold wX6_readWord
  refine pk_loop (fun n i (_ : Unit) => wX6_readWord_10 K A (nI len) (nI c) n na (nI (s + i)) (nI s) (lN (fw 37 cD (fun x => bv M len (s + x)) i)) (nI i)) (fun _ _ => True) (q - s) 0 () (Nat.zero_le _) trivial (fun n _ _ => ?_) (fun n i _ hi _ ih => ?_)
  · have fin : wX6_readWord_73 K A (nI len) (nI c) na (nI q) (nI s) (lN (fw 37 cD (fun x => bv M len (s + x)) (q - s))) := by
      unfold wX6_readWord_73
      refine ⟨vp_in_nI (by omega) (by decide), ?_⟩
      rw [pk_sub hp, nI_clamp (by omega)]
      refine pk_le (q - s) 10 (fun z => sz_ofWord r hl (by omega) (by omega) (fun x hx => hb _ (by omega) (by omega)) (hk z) ?_) (fun z => ?_)
      · rw [if_pos z] at k; exact k
      · rw [if_neg (by omega)] at k; exact k
    unfold wX6_readWord_10
    rw [show s + (q - s) = q by omega]
    exact pk_le 2000 (q - s) (fun _ => fin) (fun _ => sz_byteAt r hl (by omega) (sz_isOfWord (by rw [he]; exact br_t rfl fin)))
  · unfold wX6_readWord_10
    have ho := hb (s + i) (by omega) (by omega)
    refine pk_le 2000 i (fun _ => by omega) (fun _ => sz_byteAt r hl (by omega) (sz_isOfWord ?_))
    rw [ho]
    refine br_f (by decide) (sz_byteAt r hl (by omega) (sz_numberOfSign ho ?_))
    rw [nI_l (by have := (cD_in ho).2.1; omega), show (37 : Int64) = lN 37 from rfl, lN_mul, lN_add, nI_1, nI_1]
    exact ih () trivial
theorem sz_readNumber (r : rA A M len) (hl : len ≤ 2000) {s q c : Nat} (hc : c ≤ 400) (hp : s ≤ q) (hs : q ≤ len) (hb : ∀ i, s ≤ i → i < q → dgB (bv M len i) = true) (he : dgB (bv M len q) = false) {nu : Nat → Int32} {K : Int32 → ((Nat → Int32) × Int32) → Prop} (k : K (nI (if q - s ≤ 6 then 45 else 48)) (upd nu c (nI (wnum M len s q)), nI q)) : wX6_readNumber A (nI len) nu (nI c) (nI s) K := by
  unfold wX6_readNumber
  refine pk_loop (fun n i (_ : Unit) => wX6_readNumber_9 K A (nI len) (nI c) n nu (nI (s + i)) (nI s) (nI (fw 10 nD (fun x => bv M len (s + x)) i)) (nI i)) (fun _ _ => True) (q - s) 0 () (Nat.zero_le _) trivial (fun n _ _ => ?_) (fun n i _ hi _ ih => ?_)
  · have fin : wX6_readNumber_69 K A (nI len) (nI c) nu (nI q) (nI s) (nI (fw 10 nD (fun x => bv M len (s + x)) (q - s))) := by
      unfold wX6_readNumber_69
      refine ⟨vp_in_nI (by omega) (by decide), ?_⟩
      rw [pk_sub hp, nI_clamp (by omega)]
      refine pk_le (q - s) 6 (fun z => ?_) (fun z => ?_)
      · rw [if_pos z] at k; exact k
      · rw [if_neg (by omega)] at k; exact k
    unfold wX6_readNumber_9
    rw [show s + (q - s) = q by omega]
    exact pk_le 2000 (q - s) (fun _ => fin) (fun _ => sz_byteAt r hl (by omega) (sz_isDigit (by rw [he]; exact br_t rfl fin)))
  · unfold wX6_readNumber_9
    have ho := hb (s + i) (by omega) (by omega)
    refine pk_le 2000 i (fun _ => by omega) (fun _ => sz_byteAt r hl (by omega) (sz_isDigit ?_))
    rw [ho]
    refine br_f (by decide) (sz_byteAt r hl (by omega) ?_)
    rw [(nD_in ho).1, show (10 : Int32) = nI 10 from rfl, pk_mul, nI_add, nI_1, nI_1]
    exact ih () trivial
def sgM (f g : Int32) (r : Nat) : Prop := kCh 1 (2 * r) = f ∧ (kCh 1 (2 * r + 1) = 32 ∨ kCh 1 (2 * r + 1) = g)
theorem sg_tab : kLen 1 = 30 ∧ kLn 1 - 2 = nI 28 := by decide +kernel
theorem sz_ofSign {f g : Int32} {k : Nat} {K : Int32 → Unit → Prop} (hk : (k = 48 ∧ ∀ r, r < 15 → ¬ sgM f g r) ∨ (∃ r, r < 15 ∧ k = 29 + r ∧ sgM f g r ∧ ∀ j, r < j → j < 15 → ¬ sgM f g j)) (kk : K (nI k) ()) : wX0_ofSign f g K := by
  unfold wX0_ofSign
  rw [sg_tab.2]
  refine ⟨by decide, ?_⟩
  have go : ∀ d r, r = d → r < 15 → (∀ j, r < j → j < 15 → ¬ sgM f g j) → wX0_ofSign_8 K (d + 2) f g (nI (2 * r)) := by
    intro d
    induction d with
    | zero =>
      intro r hr h15 hn
      subst hr
      unfold wX0_ofSign_8
      have nx : ¬ sgM f g 0 → wX0_ofSign_54 K (wX0_ofSign_8 K 1) f g (nI (2 * 0)) := by
        intro h0
        unfold wX0_ofSign_54
        unfold wX0_ofSign_8
        refine br_t (by decide) ?_
        rcases hk with h | ⟨r, h1, h2, h3, h4⟩
        · rw [h.1] at kk; exact kk
        · rcases Nat.eq_zero_or_pos r with z | z
          · subst z; exact absurd h3 h0
          · exact absurd h3 (hn r z h1)
      have yes : sgM f g 0 → K (29 + nI (2 * 0) / 2) () := by
        intro h0
        have e : k = 29 := by
          rcases hk with h | ⟨r, h1, h2, h3, h4⟩
          · exact absurd h0 (h.2 0 (by omega))
          · rcases Nat.eq_zero_or_pos r with z | z
            · omega
            · exact absurd h3 (hn r z h1)
        subst e
        exact kk
      refine br_f (nI_pos (by omega)) ⟨⟨by decide, by rw [sg_tab.1]; exact vp_in_nI (by omega) (by decide)⟩, ?_⟩
      rw [nI_1, nI_clamp (by omega), nI_clamp (by omega)]
      refine ⟨fun z => nx (fun h => z h.1), fun z => ⟨⟨by decide, by rw [sg_tab.1]; exact vp_in_nI (by omega) (by decide)⟩, fun y => yes ⟨z, Or.inl y⟩, fun y => ⟨⟨by decide, by rw [sg_tab.1]; exact vp_in_nI (by omega) (by decide)⟩, fun x => nx (fun h => h.2.elim y x), fun x => yes ⟨z, Or.inr x⟩⟩⟩⟩
    | succ d ih =>
      intro r hr h15 hn
      subst hr
      unfold wX0_ofSign_8
      have nx : ¬ sgM f g (d + 1) → wX0_ofSign_54 K (wX0_ofSign_8 K (d + 2)) f g (nI (2 * (d + 1))) := by
        intro h0
        unfold wX0_ofSign_54
        have e : nI (2 * (d + 1)) + (-2) = nI (2 * d) := by
          rw [show (-2 : Int32) = -1 + -1 from by decide, ← Int32.add_assoc, sb_m1 (by omega), sb_m1 (by omega), show 2 * (d + 1) - 1 - 1 = 2 * d by omega]
        rw [e]
        refine ih d rfl (by omega) (fun j h1 h2 => ?_)
        rcases Nat.lt_or_ge (d + 1) j with z | z
        · exact hn j z h2
        · have : j = d + 1 := by omega
          subst this; exact h0
      have yes : sgM f g (d + 1) → K (29 + nI (2 * (d + 1)) / 2) () := by
        intro h0
        have e : k = 29 + (d + 1) := by
          rcases hk with h | ⟨r, h1, h2, h3, h4⟩
          · exact absurd h0 (h.2 (d + 1) (by omega))
          · rcases Nat.lt_trichotomy r (d + 1) with z | z | z
            · exact absurd h0 (h4 (d + 1) z h15)
            · omega
            · exact absurd h3 (hn r z h1)
        rw [show (2 : Int32) = nI 2 from rfl, pk_div (by omega) (by decide) (by decide), show (29 : Int32) = nI 29 from rfl, nI_add, show 29 + 2 * (d + 1) / 2 = k by omega]
        exact kk
      refine br_f (nI_pos (by omega)) ⟨⟨by decide, by rw [sg_tab.1]; exact vp_in_nI (by omega) (by decide)⟩, ?_⟩
      rw [nI_1, nI_clamp (by omega), nI_clamp (by omega)]
      refine ⟨fun z => nx (fun h => z h.1), fun z => ⟨⟨by decide, by rw [sg_tab.1]; exact vp_in_nI (by omega) (by decide)⟩, fun y => yes ⟨z, Or.inl y⟩, fun y => ⟨⟨by decide, by rw [sg_tab.1]; exact vp_in_nI (by omega) (by decide)⟩, fun x => nx (fun h => h.2.elim y x), fun x => yes ⟨z, Or.inr x⟩⟩⟩⟩
  exact ⟨16, go 14 14 rfl (by omega) (fun j h1 h2 => by omega)⟩
theorem sg_rows : (kCh 1 0 = 40 ∧ kCh 1 1 = 32) ∧ (kCh 1 2 = 41 ∧ kCh 1 3 = 32) ∧ (kCh 1 4 = 91 ∧ kCh 1 5 = 32) ∧ (kCh 1 6 = 93 ∧ kCh 1 7 = 32) ∧ (kCh 1 8 = 59 ∧ kCh 1 9 = 32) ∧ (kCh 1 10 = 44 ∧ kCh 1 11 = 32) ∧ (kCh 1 12 = 43 ∧ kCh 1 13 = 32) ∧ (kCh 1 14 = 45 ∧ kCh 1 15 = 32) ∧ (kCh 1 16 = 42 ∧ kCh 1 17 = 32) ∧ (kCh 1 18 = 47 ∧ kCh 1 19 = 32) ∧ (kCh 1 20 = 60 ∧ kCh 1 21 = 32) ∧ (kCh 1 22 = 62 ∧ kCh 1 23 = 32) ∧ (kCh 1 24 = 61 ∧ kCh 1 25 = 32) ∧ (kCh 1 26 = 60 ∧ kCh 1 27 = 61) ∧ (kCh 1 28 = 62 ∧ kCh 1 29 = 61) := by decide +kernel
end TOK
