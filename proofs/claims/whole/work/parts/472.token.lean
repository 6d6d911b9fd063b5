/-! one token: its kind by the class's numbers, and by the model's -/
def mkT (k : Nat) : Nat := if k < 29 then k else [40, 41, 91, 93, 59, 44, 43, 45, 42, 47, 60, 62, 61, 316, 318, 30, 31, 33, 33, 32].getD (k - 29) 33
theorem mkT_tab : ∀ k, k < 49 → ∀ j, j < 49 → k ≠ 46 → j ≠ 46 → mkT k = mkT j → k = j := by decide +kernel
theorem mkT_lt : ∀ k, k < 49 → mkT k < 400 := by decide +kernel
def wnC (M : Nat → Int32) (len s q : Nat) : Int64 := lN (fw 37 cD (fun x => bv M len (s + x)) (q - s))
def wnM (M : Nat → Int32) (len s q : Nat) : Int64 := lN (fw 37 mD (fun x => bv M len (s + x)) (q - s))
def wnum (M : Nat → Int32) (len s q : Nat) : Nat := fw 10 nD (fun x => bv M len (s + x)) (q - s)
def k4 (c k : Nat) : Nat := if c = 400 ∧ k ≠ 47 then 48 else k
def tkC (A M : Nat → Int32) (len s q k : Nat) : Prop := ∀ (c : Nat) (nu : Nat → Int32) (na : Nat → Int64), c ≤ 400 → ∃ nu' na' nx, (∀ i, i ≠ c → nu' i = nu i ∧ na' i = na i) ∧ (k = 45 → c < 400 → nu' c = nI (wnum M len s q)) ∧ (k = 44 → c < 400 → na' c = wnC M len s q) ∧ (k < 46 → c < 400 → nx = nI q) ∧ ∀ K : Int32 → ((Nat → Int32) × (Nat → Int64) × Int32) → Prop, K (nI (k4 c k)) (nu', na', nx) → wX6_readToken A (nI len) nu na (nI c) (nI s) (bv M len s) K
def tkE (M : Nat → Int32) (len s to : Nat) : Prop := ∀ K : Int32 → Unit → Prop, K (nI to) () → wX10_endOf M (nI len) (nI s) K
def tkK (M : Nat → Int32) (len s to k : Nat) : Prop := ∀ (c : Nat) (va : Nat → Int64), c ≤ 400 → ∃ va', (∀ i, i ≠ c → va' i = va i) ∧ (k = 45 → va' c = lN (wnum M len s to)) ∧ (k = 44 → va' c = wnM M len s to) ∧ ∀ K : Int32 → (Nat → Int64) → Prop, K (nI (mkT k)) va' → wX10_kindOf M (nI len) va (nI c) (nI s) (nI to) K
theorem sm_tab : ∀ b, b < 256 → (smB (nI b) = true → dgB (nI b) = false) ∧ (owB (nI b) = true → nI b ≠ 60 ∧ nI b ≠ 62 ∧ nI b ≠ -1 ∧ blB (nI b) = false) := by decide +kernel
theorem ow_not {v : Int32} (h : owB v = true) : v ≠ 60 ∧ v ≠ 62 ∧ v ≠ -1 := by
  obtain ⟨b, hb, rfl⟩ := ow_ex h
  have t := (sm_tab b hb).2 h
  exact ⟨t.1, t.2.1, t.2.2.1⟩
theorem sm_not {v : Int32} (h : smB v = true) : dgB v = false ∧ owB v = true := by
  obtain ⟨b, hb, rfl⟩ := sm_ex h
  exact ⟨(sm_tab b hb).1 h, by unfold owB; rw [h]; rfl⟩
theorem dg_not {v : Int32} (h : dgB v = true) : smB v = false ∧ owB v = true := by
  have o : owB v = true := by unfold owB; rw [h, Bool.or_true]
  refine ⟨?_, o⟩
  cases e : smB v
  · rfl
  · rw [(sm_not e).1] at h; cases h
section TOK
variable {A M : Nat → Int32} {len : Nat}
theorem upL_ne {f : Nat → Int64} {k j : Nat} {x : Int64} (h : j ≠ k) : vp_updL f k x j = f j := if_neg h
theorem upL_eq {f : Nat → Int64} {k : Nat} {x : Int64} : vp_updL f k x k = x := if_pos rfl
theorem sz_skip (r : rA A M len) (hl : len ≤ 2000) {p s : Nat} (hp : p ≤ s) (hs : s ≤ len) (hb : ∀ i, p ≤ i → i < s → blB (bv M len i) = true) (he : blB (bv M len s) = false) {K : Int32 → Prop} (k : K (nI s)) : wX6_skipBlanks A (nI len) (nI p) K := by
  unfold wX6_skipBlanks
  refine pk_loop (fun n i (_ : Unit) => wX6_skipBlanks_2 K A (nI len) n (nI (p + i)) (nI i)) (fun _ _ => True) (s - p) 0 () (Nat.zero_le _) trivial (fun n _ _ => ?_) (fun n i _ hi _ ih => ?_)
  · unfold wX6_skipBlanks_2
    rw [show p + (s - p) = s by omega]
    exact pk_le 2000 (s - p) (fun _ => k) (fun _ => sz_byteAt r hl (by omega) (sz_isBlank (by rw [he]; exact br_t rfl k)))
  · unfold wX6_skipBlanks_2
    refine pk_le 2000 i (fun _ => by omega) (fun _ => sz_byteAt r hl (by omega) (sz_isBlank ?_))
    rw [hb (p + i) (by omega) (by omega), nI_1, nI_1]
    exact br_f (by decide) (ih () trivial)
theorem sz_readWord (r : rA A M len) (hl : len ≤ 2000) {s q kd c : Nat} (hc : c ≤ 400) (hp : s ≤ q) (hs : q ≤ len) (hb : ∀ i, s ≤ i → i < q → owB (bv M len i) = true) (he : owB (bv M len q) = false) (hk : q - s ≤ 10 → (kd = 44 ∧ ∀ j, j < 29 → ¬ kwM (fun x => bv M len (s + x)) (q - s) j) ∨ (kd < 29 ∧ kwM (fun x => bv M len (s + x)) (q - s) kd ∧ ∀ j, j < kd → ¬ kwM (fun x => bv M len (s + x)) (q - s) j)) {na : Nat → Int64} {K : Int32 → ((Nat → Int64) × Int32) → Prop} (k : K (nI (if q - s ≤ 10 then kd else 48)) (vp_updL na c (wnC M len s q), nI q)) : wX6_readWord A (nI len) na (nI c) (nI s) K := by
  unfold wX6_readWord
  refine pk_loop (fun n i (_ : Unit) => wX6_readWord_10 K A (nI len) (nI c) n na (nI (s + i)) (nI s) (lN (fw 37 cD (fun x => bv M len (s + x)) i)) (nI i)) (fun _ _ => True) (q - s) 0 () (Nat.zero_le _) trivial (fun n _ _ => ?_) (fun n i _ hi _ ih => ?_)
  · have fin : wX6_readWord_73 K A (nI len) (nI c) na (nI q) (nI s) (lN (fw 37 cD (fun x => bv M len (s + x)) (q - s))) := by
      unfold wX6_readWord_73
      refine ⟨vp_in_nI (by omega) (by decide), ?_⟩
      rw [pk_sub hp, nI_clamp (by omega)]
      refine pk_le (q - s) 10 (fun z => sz_ofWord r hl (by omega) (by omega) (fun x hx => hb _ (by omega) (by omega)) (hk z) ?_) (fun z => ?_)
      · rw [if_pos z] at k; exact k
      · rw [if_neg (by omega)] at k; exact k
    unfold wX6_readWord_10
    rw [show s + (q - s) = q by omega]
    exact pk_le 2000 (q - s) (fun _ => fin) (fun _ => sz_byteAt r hl (by omega) (sz_isOfWord (by rw [he]; exact br_t rfl fin)))
  · unfold wX6_readWord_10
    have ho := hb (s + i) (by omega) (by omega)
    refine pk_le 2000 i (fun _ => by omega) (fun _ => sz_byteAt r hl (by omega) (sz_isOfWord ?_))
    rw [ho]
    refine br_f (by decide) (sz_byteAt r hl (by omega) (sz_numberOfSign ho ?_))
    rw [nI_l (by have := (cD_in ho).2.1; omega), show (37 : Int64) = lN 37 from rfl, lN_mul, lN_add, nI_1, nI_1]
    exact ih () trivial
theorem sz_readNumber (r : rA A M len) (hl : len ≤ 2000) {s q c : Nat} (hc : c ≤ 400) (hp : s ≤ q) (hs : q ≤ len) (hb : ∀ i, s ≤ i → i < q → dgB (bv M len i) = true) (he : dgB (bv M len q) = false) {nu : Nat → Int32} {K : Int32 → ((Nat → Int32) × Int32) → Prop} (k : K (nI (if q - s ≤ 6 then 45 else 48)) (upd nu c (nI (wnum M len s q)), nI q)) : wX6_readNumber A (nI len) nu (nI c) (nI s) K := by
  unfold wX6_readNumber
  refine pk_loop (fun n i (_ : Unit) => wX6_readNumber_9 K A (nI len) (nI c) n nu (nI (s + i)) (nI s) (nI (fw 10 nD (fun x => bv M len (s + x)) i)) (nI i)) (fun _ _ => True) (q - s) 0 () (Nat.zero_le _) trivial (fun n _ _ => ?_) (fun n i _ hi _ ih => ?_)
  · have fin : wX6_readNumber_69 K A (nI len) (nI c) nu (nI q) (nI s) (nI (fw 10 nD (fun x => bv M len (s + x)) (q - s))) := by
      unfold wX6_readNumber_69
      refine ⟨vp_in_nI (by omega) (by decide), ?_⟩
      rw [pk_sub hp, nI_clamp (by omega)]
      refine pk_le (q - s) 6 (fun z => ?_) (fun z => ?_)
      · rw [if_pos z] at k; exact k
      · rw [if_neg (by omega)] at k; exact k
    unfold wX6_readNumber_9
    rw [show s + (q - s) = q by omega]
    exact pk_le 2000 (q - s) (fun _ => fin) (fun _ => sz_byteAt r hl (by omega) (sz_isDigit (by rw [he]; exact br_t rfl fin)))
  · unfold wX6_readNumber_9
    have ho := hb (s + i) (by omega) (by omega)
    refine pk_le 2000 i (fun _ => by omega) (fun _ => sz_byteAt r hl (by omega) (sz_isDigit ?_))
    rw [ho]
    refine br_f (by decide) (sz_byteAt r hl (by omega) ?_)
    rw [(nD_in ho).1, show (10 : Int32) = nI 10 from rfl, pk_mul, nI_add, nI_1, nI_1]
    exact ih () trivial
theorem sm_endPlain {K : Int32 → Unit → Prop} {v : Int32} {q : Nat} (h1 : v ≠ 60) (h2 : v ≠ 62) (k : K (nI q) ()) : wX10_endOf_69 K M (nI len) v (nI q) := by
  unfold wX10_endOf_69
  exact br_f h1 (bn_f h2 k)
theorem sm_endWord (hl : len ≤ 2000) {s q : Nat} (hp : s < q) (hs : q ≤ len) (hv : smB (bv M len s) = true) (hb : ∀ i, s ≤ i → i < q → owB (bv M len i) = true) (he : owB (bv M len q) = false) : tkE M len s q := by
  intro K k
  unfold wX10_endOf
  refine sm_byteOf hl (by omega) (sm_isSmall ?_)
  rw [hv]
  refine br_f (by decide) ?_
  rw [nI_1]
  refine pk_loop (fun n i (_ : Unit) => wX10_endOf_17 K M (nI len) n (bv M len s) (nI (s + 1 + i))) (fun _ _ => True) (q - (s + 1)) 0 () (Nat.zero_le _) trivial (fun n _ _ => ?_) (fun n i _ hi _ ih => ?_)
  · unfold wX10_endOf_17
    rw [show s + 1 + (q - (s + 1)) = q by omega]
    unfold owB at he
    rw [Bool.or_eq_false_iff] at he
    refine sm_byteOf hl (by omega) (sm_isSmall ?_)
    rw [he.1]
    refine bn_t rfl (sm_byteOf hl (by omega) (sm_isDigit ?_))
    rw [he.2]
    refine br_t rfl ?_
    unfold wX10_endOf_45
    refine sm_isDigit ?_
    rw [(sm_not hv).1]
    have t := ow_not (sm_not hv).2
    exact br_t rfl (sm_endPlain t.1 t.2.1 k)
  · unfold wX10_endOf_17
    have ho := hb (s + 1 + i) (by omega) (by omega)
    have nx : wX10_endOf_39 K (wX10_endOf_17 K M (nI len) n) M (nI len) (bv M len s) (nI (s + 1 + i)) := by
      unfold wX10_endOf_39
      rw [nI_1]
      exact ih () trivial
    refine sm_byteOf hl (by omega) (sm_isSmall (bz' rfl (fun e => sm_byteOf hl (by omega) (sm_isDigit ?_)) (fun e => nx)))
    unfold owB at ho
    rw [e, Bool.false_or] at ho
    rw [ho]
    exact br_f (by decide) nx
theorem sm_endNumber (hl : len ≤ 2000) {s q : Nat} (hp : s < q) (hs : q ≤ len) (hb : ∀ i, s ≤ i → i < q → dgB (bv M len i) = true) (he : dgB (bv M len q) = false) : tkE M len s q := by
  intro K k
  have hv := hb s (by omega) hp
  have t := ow_not (dg_not hv).2
  unfold wX10_endOf
  refine sm_byteOf hl (by omega) (sm_isSmall ?_)
  rw [(dg_not hv).1]
  refine br_t rfl ?_
  unfold wX10_endOf_45
  refine sm_isDigit ?_
  rw [hv]
  refine br_f (by decide) ?_
  rw [nI_1]
  refine pk_loop (fun n i (_ : Unit) => wX10_endOf_52 K M (nI len) n (bv M len s) (nI (s + 1 + i))) (fun _ _ => True) (q - (s + 1)) 0 () (Nat.zero_le _) trivial (fun n _ _ => ?_) (fun n i _ hi _ ih => ?_)
  · unfold wX10_endOf_52
    rw [show s + 1 + (q - (s + 1)) = q by omega]
    refine sm_byteOf hl (by omega) (sm_isDigit ?_)
    rw [he]
    exact br_t rfl (sm_endPlain t.1 t.2.1 k)
  · unfold wX10_endOf_52
    refine sm_byteOf hl (by omega) (sm_isDigit ?_)
    rw [hb (s + 1 + i) (by omega) (by omega), nI_1]
    exact br_f (by decide) (ih () trivial)
theorem sm_endSign (hl : len ≤ 2000) {s : Nat} (hs : s ≤ len) (h1 : smB (bv M len s) = false) (h2 : dgB (bv M len s) = false) : tkE M len s (if (bv M len s = 60 ∨ bv M len s = 62) ∧ bv M len (s + 1) = 61 then s + 2 else s + 1) := by
  intro K k
  unfold wX10_endOf
  refine sm_byteOf hl (by omega) (sm_isSmall ?_)
  rw [h1]
  refine br_t rfl ?_
  unfold wX10_endOf_45
  refine sm_isDigit ?_
  rw [h2, nI_1]
  refine br_t rfl ?_
  have go : (bv M len s = 60 ∨ bv M len s = 62) → wX10_endOf_81 K M (nI len) (nI (s + 1)) := by
    intro z
    unfold wX10_endOf_81
    refine sm_byteOf hl (by omega) ⟨fun y => ?_, fun y => ?_⟩
    · rw [if_neg (fun x => y x.2)] at k; exact k
    · rw [if_pos ⟨z, y⟩] at k
      rw [nI_1]; exact k
  unfold wX10_endOf_69
  refine ⟨fun z => go (Or.inl z), fun z => ⟨fun y => ?_, fun y => go (Or.inr y)⟩⟩
  rw [if_neg (fun x => x.1.elim z y)] at k; exact k
theorem sm_numberAt {s q c : Nat} (hl : len ≤ 2000) (hc : c ≤ 400) (hp : s ≤ q) (hs : q ≤ len) (hb : ∀ i, s ≤ i → i < q → dgB (bv M len i) = true) (h6 : q - s ≤ 6) {va : Nat → Int64} {K : Int32 → (Nat → Int64) → Prop} (k : K 31 (vp_updL va c (lN (wnum M len s q)))) : wX10_numberAt M va (nI c) (nI s) (nI q) K := by
  unfold wX10_numberAt
  refine pk_loop (fun n i (_ : Unit) => wX10_numberAt_6 K M n va (nI c) (nI q) (nI (fw 10 nD (fun x => bv M len (s + x)) i)) (nI (s + i))) (fun _ _ => True) (q - s) 0 () (Nat.zero_le _) trivial (fun n _ _ => ?_) (fun n i _ hi _ ih => ?_)
  · unfold wX10_numberAt_6
    rw [show s + (q - s) = q by omega]
    refine pk_le q q (fun _ => ⟨vp_in_nI (by omega) (by decide), ?_⟩) (fun z => absurd z (Nat.lt_irrefl _))
    have h1 := fw_lt (b := 10) (d := nD) (g := fun x => bv M len (s + x)) (by omega) (q - s) (fun i z => (nD_in (hb (s + i) (by omega) (by omega))).2.1)
    have h2 : 10 ^ (q - s) ≤ 10 ^ 6 := Nat.pow_le_pow_right (by omega) h6
    have h3 : 10 ^ 6 < 2 ^ 31 := by decide
    rw [nI_clamp (by omega), nI_l (by omega)]
    exact k
  · unfold wX10_numberAt_6
    have ho := hb (s + i) (by omega) (by omega)
    have hin := bv_in dgB (by decide) ho
    refine pk_le q (s + i) (fun _ => by omega) (fun _ => ⟨vp_in_nI (by omega) (by decide), ?_⟩)
    obtain ⟨e1, e2, b, hb1, hb2, hb3⟩ := nD_in ho
    rw [nI_clamp (by omega), ← hin.2, hb2, show (10 : Int32) = nI 10 from rfl, pk_mul, nI_add, show (48 : Int32) = nI 48 from rfl, pk_sub (by omega), nI_1]
    have e : 10 * fw 10 nD (fun x => bv M len (s + x)) i + b - 48 = fw 10 nD (fun x => bv M len (s + x)) (i + 1) := by
      show _ = fw 10 nD (fun x => bv M len (s + x)) i * 10 + nD (bv M len (s + i))
      omega
    rw [e]
    exact ih () trivial
theorem sm_wordAt {s q c kd : Nat} (hl : len ≤ 2000) (hc : c ≤ 400) (hp : s ≤ q) (hs : q ≤ len) (hb : ∀ i, s ≤ i → i < q → owB (bv M len i) = true) (h10 : q - s ≤ 10) (hk : (kd = 44 ∧ ∀ j, j < 29 → ¬ kwM (fun x => bv M len (s + x)) (q - s) j) ∨ (kd < 29 ∧ kwM (fun x => bv M len (s + x)) (q - s) kd ∧ ∀ j, j < kd → ¬ kwM (fun x => bv M len (s + x)) (q - s) j)) {va : Nat → Int64} {K : Int32 → (Nat → Int64) → Prop} (k : K (nI (mkT kd)) (vp_updL va c (wnM M len s q))) : wX10_wordAt M va (nI c) (nI s) (nI q) K := by
  have same : ∀ j, j < 29 → (lN (fw 37 mD (kCh (j + 2)) (kLen (j + 2))) = wnM M len s q ↔ kwM (fun x => bv M len (s + x)) (q - s) j) := by
    intro j hj
    have T := (kw_tab).2 j hj
    have h := (fw_same (g := kCh (j + 2)) (h := fun x => bv M len (s + x)) (n := kLen (j + 2)) (m := q - s) (by omega) h10 (fun i hi => ((T.2 i (by omega)).1 hi).2.2) (fun i hi => hb (s + i) (by omega) (by omega))).2
    unfold wnM kwM
    rw [h]
    constructor
    · rintro ⟨e, f⟩
      exact ⟨e.symm, fun x hx => by rw [((T.2 x (by omega)).1 (by omega)).2.1]; exact (f x (by omega)).symm⟩
    · rintro ⟨e, f⟩
      exact ⟨e.symm, fun x hx => by rw [← ((T.2 x (by omega)).1 (by omega)).2.1]; exact (f x (by omega)).symm⟩
  unfold wX10_wordAt
  refine pk_loop (fun n i (_ : Unit) => wX10_wordAt_6 K M n va (nI c) (nI q) (lN (fw 37 mD (fun x => bv M len (s + x)) i)) (nI (s + i))) (fun _ _ => True) (q - s) 0 () (Nat.zero_le _) trivial (fun n _ _ => ?_) (fun n i _ hi _ ih => ?_)
  · unfold wX10_wordAt_6
    rw [show s + (q - s) = q by omega]
    refine pk_le q q (fun _ => ⟨vp_in_nI (by omega) (by decide), ?_⟩) (fun z => absurd z (Nat.lt_irrefl _))
    rw [nI_clamp (by omega)]
    refine pk_loop (fun n i (_ : Unit) => wX10_wordAt_49 K M n (vp_updL va c (lN (fw 37 mD (fun x => bv M len (s + x)) (q - s)))) (lN (fw 37 mD (fun x => bv M len (s + x)) (q - s))) (nI i)) (fun i _ => i ≤ 29 ∧ ∀ j, j < i → ¬ kwM (fun x => bv M len (s + x)) (q - s) j) 29 0 () (by omega) ⟨by omega, fun x h => absurd h (Nat.not_lt_zero x)⟩ (fun n _ hy => ?_) (fun n i _ hi hy ih => ?_)
    · unfold wX10_wordAt_49
      refine br_t (by decide) ?_
      rcases hk with h | h
      · rw [h.1] at k; exact k
      · exact absurd h.2.1 (hy.2 kd h.1)
    · unfold wX10_wordAt_49
      refine pk_le 29 i (fun _ => by omega) (fun _ => ⟨vp_in_nI hi (by decide), ?_⟩)
      rw [nI_clamp (by omega)]
      refine sm_nameOf hi ⟨fun z => ?_, fun z => ?_⟩
      · rw [nI_1]
        refine ih () ⟨by omega, fun j hj => ?_⟩
        rcases Nat.lt_or_ge j i with y | y
        · exact hy.2 j y
        · have e : j = i := by omega
          subst e
          exact fun hw => z ((lgc _ _).2 ((same j hi).2 hw))
      · have hw := (same i hi).1 ((lgc _ _).1 z)
        have e : kd = i := by
          rcases hk with h | h
          · exact absurd hw (h.2 i hi)
          · rcases Nat.lt_trichotomy i kd with y | y | y
            · exact absurd hw (h.2.2 i y)
            · exact y.symm
            · exact absurd h.2.1 (hy.2 kd y)
        subst e
        have e2 : mkT kd = kd := if_pos hi
        rw [e2] at k; exact k
  · unfold wX10_wordAt_6
    have ho := hb (s + i) (by omega) (by omega)
    have hin := bv_in owB (by decide) ho
    refine pk_le q (s + i) (fun _ => by omega) (fun _ => ⟨vp_in_nI (by omega) (by decide), ?_⟩)
    rw [nI_clamp (by omega), ← hin.2]
    refine sm_letter ho ?_
    rw [nI_l (by have := (mD_in ho).2.1; omega), show (37 : Int64) = lN 37 from rfl, lN_mul, lN_add, nI_1, Nat.mul_comm]
    exact ih () trivial
def sgL (v : Int32) : Prop := v = 40 ∨ v = 41 ∨ v = 91 ∨ v = 93 ∨ v = 59 ∨ v = 44 ∨ v = 43 ∨ v = 45 ∨ v = 42 ∨ v = 47 ∨ v = 60 ∨ v = 62 ∨ v = 61
theorem sg_chain {v : Int32} {A B : Prop} (hy : sgL v → A) (hn : ¬ sgL v → B) : ((v = 40 → A) ∧ (¬ v = 40 → ((v = 41 → A) ∧ (¬ v = 41 → ((v = 91 → A) ∧ (¬ v = 91 → ((v = 93 → A) ∧ (¬ v = 93 → ((v = 59 → A) ∧ (¬ v = 59 → ((v = 44 → A) ∧ (¬ v = 44 → ((v = 43 → A) ∧ (¬ v = 43 → ((v = 45 → A) ∧ (¬ v = 45 → ((v = 42 → A) ∧ (¬ v = 42 → ((v = 47 → A) ∧ (¬ v = 47 → ((v = 60 → A) ∧ (¬ v = 60 → ((v = 62 → A) ∧ (¬ v = 62 → ((¬ v = 61 → B) ∧ (v = 61 → A)))))))))))))))))))))))))) := by
  unfold sgL at hy hn
  exact ⟨fun z => hy (by subst z; simp), fun z40 => ⟨fun z => hy (by subst z; simp), fun z41 => ⟨fun z => hy (by subst z; simp), fun z91 => ⟨fun z => hy (by subst z; simp), fun z93 => ⟨fun z => hy (by subst z; simp), fun z59 => ⟨fun z => hy (by subst z; simp), fun z44 => ⟨fun z => hy (by subst z; simp), fun z43 => ⟨fun z => hy (by subst z; simp), fun z45 => ⟨fun z => hy (by subst z; simp), fun z42 => ⟨fun z => hy (by subst z; simp), fun z47 => ⟨fun z => hy (by subst z; simp), fun z60 => ⟨fun z => hy (by subst z; simp), fun z62 => ⟨fun z61 => hn (fun h => by rcases h with h | h | h | h | h | h | h | h | h | h | h | h | h <;> first | exact absurd h z61 | exact absurd h z40 | exact absurd h z41 | exact absurd h z91 | exact absurd h z93 | exact absurd h z59 | exact absurd h z44 | exact absurd h z43 | exact absurd h z45 | exact absurd h z42 | exact absurd h z47 | exact absurd h z60 | exact absurd h z62), fun z => hy (by subst z; simp)⟩⟩⟩⟩⟩⟩⟩⟩⟩⟩⟩⟩⟩
def sgM (f g : Int32) (r : Nat) : Prop := kCh 1 (2 * r) = f ∧ (kCh 1 (2 * r + 1) = 32 ∨ kCh 1 (2 * r + 1) = g)
theorem sg_tab : kLen 1 = 30 ∧ kLn 1 - 2 = nI 28 := by decide +kernel
theorem sz_ofSign {f g : Int32} {k : Nat} {K : Int32 → Unit → Prop} (hk : (k = 48 ∧ ∀ r, r < 15 → ¬ sgM f g r) ∨ (∃ r, r < 15 ∧ k = 29 + r ∧ sgM f g r ∧ ∀ j, r < j → j < 15 → ¬ sgM f g j)) (kk : K (nI k) ()) : wX0_ofSign f g K := by
  unfold wX0_ofSign
  rw [sg_tab.2]
  refine ⟨by decide, ?_⟩
  have go : ∀ d r, r = d → r < 15 → (∀ j, r < j → j < 15 → ¬ sgM f g j) → wX0_ofSign_8 K (d + 2) f g (nI (2 * r)) := by
    intro d
    induction d with
    | zero =>
      intro r hr h15 hn
      subst hr
      unfold wX0_ofSign_8
      have nx : ¬ sgM f g 0 → wX0_ofSign_54 K (wX0_ofSign_8 K 1) f g (nI (2 * 0)) := by
        intro h0
        unfold wX0_ofSign_54
        unfold wX0_ofSign_8
        refine br_t (by decide) ?_
        rcases hk with h | ⟨r, h1, h2, h3, h4⟩
        · rw [h.1] at kk; exact kk
        · rcases Nat.eq_zero_or_pos r with z | z
          · subst z; exact absurd h3 h0
          · exact absurd h3 (hn r z h1)
      have yes : sgM f g 0 → K (29 + nI (2 * 0) / 2) () := by
        intro h0
        have e : k = 29 := by
          rcases hk with h | ⟨r, h1, h2, h3, h4⟩
          · exact absurd h0 (h.2 0 (by omega))
          · rcases Nat.eq_zero_or_pos r with z | z
            · omega
            · exact absurd h3 (hn r z h1)
        subst e
        exact kk
      refine br_f (nI_pos (by omega)) ⟨⟨by decide, by rw [sg_tab.1]; exact vp_in_nI (by omega) (by decide)⟩, ?_⟩
      rw [nI_1, nI_clamp (by omega), nI_clamp (by omega)]
      refine ⟨fun z => nx (fun h => z h.1), fun z => ⟨⟨by decide, by rw [sg_tab.1]; exact vp_in_nI (by omega) (by decide)⟩, fun y => yes ⟨z, Or.inl y⟩, fun y => ⟨⟨by decide, by rw [sg_tab.1]; exact vp_in_nI (by omega) (by decide)⟩, fun x => nx (fun h => h.2.elim y x), fun x => yes ⟨z, Or.inr x⟩⟩⟩⟩
    | succ d ih =>
      intro r hr h15 hn
      subst hr
      unfold wX0_ofSign_8
      have nx : ¬ sgM f g (d + 1) → wX0_ofSign_54 K (wX0_ofSign_8 K (d + 2)) f g (nI (2 * (d + 1))) := by
        intro h0
        unfold wX0_ofSign_54
        have e : nI (2 * (d + 1)) + (-2) = nI (2 * d) := by
          rw [show (-2 : Int32) = -1 + -1 from by decide, ← Int32.add_assoc, sb_m1 (by omega), sb_m1 (by omega), show 2 * (d + 1) - 1 - 1 = 2 * d by omega]
        rw [e]
        refine ih d rfl (by omega) (fun j h1 h2 => ?_)
        rcases Nat.lt_or_ge (d + 1) j with z | z
        · exact hn j z h2
        · have : j = d + 1 := by omega
          subst this; exact h0
      have yes : sgM f g (d + 1) → K (29 + nI (2 * (d + 1)) / 2) () := by
        intro h0
        have e : k = 29 + (d + 1) := by
          rcases hk with h | ⟨r, h1, h2, h3, h4⟩
          · exact absurd h0 (h.2 (d + 1) (by omega))
          · rcases Nat.lt_trichotomy r (d + 1) with z | z | z
            · exact absurd h0 (h4 (d + 1) z h15)
            · omega
            · exact absurd h3 (hn r z h1)
        rw [show (2 : Int32) = nI 2 from rfl, pk_div (by omega) (by decide) (by decide), show (29 : Int32) = nI 29 from rfl, nI_add, show 29 + 2 * (d + 1) / 2 = k by omega]
        exact kk
      refine br_f (nI_pos (by omega)) ⟨⟨by decide, by rw [sg_tab.1]; exact vp_in_nI (by omega) (by decide)⟩, ?_⟩
      rw [nI_1, nI_clamp (by omega), nI_clamp (by omega)]
      refine ⟨fun z => nx (fun h => z h.1), fun z => ⟨⟨by decide, by rw [sg_tab.1]; exact vp_in_nI (by omega) (by decide)⟩, fun y => yes ⟨z, Or.inl y⟩, fun y => ⟨⟨by decide, by rw [sg_tab.1]; exact vp_in_nI (by omega) (by decide)⟩, fun x => nx (fun h => h.2.elim y x), fun x => yes ⟨z, Or.inr x⟩⟩⟩⟩
  exact ⟨16, go 14 14 rfl (by omega) (fun j h1 h2 => by omega)⟩
theorem sg_ex (f g : Int32) : ∃ k, (k = 48 ∧ ∀ r, r < 15 → ¬ sgM f g r) ∨ (∃ r, r < 15 ∧ k = 29 + r ∧ sgM f g r ∧ ∀ j, r < j → j < 15 → ¬ sgM f g j) := by
  by_cases h : ∃ r, r < 15 ∧ sgM f g r
  · obtain ⟨r, hr, h1⟩ := h
    obtain ⟨d, h2, h3⟩ := pk_least (fun d => d < 15 ∧ sgM f g (14 - d)) ⟨14 - r, by omega, by rw [show 14 - (14 - r) = r by omega]; exact h1⟩
    refine ⟨29 + (14 - d), Or.inr ⟨14 - d, by omega, rfl, h2.2, fun j h4 h5 h6 => h3 (14 - j) (by omega) ⟨by omega, by rw [show 14 - (14 - j) = j by omega]; exact h6⟩⟩⟩
  · exact ⟨48, Or.inl ⟨rfl, fun r hr h1 => h ⟨r, hr, h1⟩⟩⟩
theorem sg_rows : (kCh 1 0 = 40 ∧ kCh 1 1 = 32) ∧ (kCh 1 2 = 41 ∧ kCh 1 3 = 32) ∧ (kCh 1 4 = 91 ∧ kCh 1 5 = 32) ∧ (kCh 1 6 = 93 ∧ kCh 1 7 = 32) ∧ (kCh 1 8 = 59 ∧ kCh 1 9 = 32) ∧ (kCh 1 10 = 44 ∧ kCh 1 11 = 32) ∧ (kCh 1 12 = 43 ∧ kCh 1 13 = 32) ∧ (kCh 1 14 = 45 ∧ kCh 1 15 = 32) ∧ (kCh 1 16 = 42 ∧ kCh 1 17 = 32) ∧ (kCh 1 18 = 47 ∧ kCh 1 19 = 32) ∧ (kCh 1 20 = 60 ∧ kCh 1 21 = 32) ∧ (kCh 1 22 = 62 ∧ kCh 1 23 = 32) ∧ (kCh 1 24 = 61 ∧ kCh 1 25 = 32) ∧ (kCh 1 26 = 60 ∧ kCh 1 27 = 61) ∧ (kCh 1 28 = 62 ∧ kCh 1 29 = 61) := by decide +kernel
theorem sm_sign (hl : len ≤ 2000) {s k : Nat} (hs : s ≤ len) (h1 : smB (bv M len s) = false) (h2 : dgB (bv M len s) = false) (h0 : bv M len s ≠ -1) (hk : (k = 48 ∧ ∀ r, r < 15 → ¬ sgM (bv M len s) (bv M len (s + 1)) r) ∨ (∃ r, r < 15 ∧ k = 29 + r ∧ sgM (bv M len s) (bv M len (s + 1)) r ∧ ∀ j, r < j → j < 15 → ¬ sgM (bv M len s) (bv M len (s + 1)) j)) : tkK M len s (if (bv M len s = 60 ∨ bv M len s = 62) ∧ bv M len (s + 1) = 61 then s + 2 else s + 1) k ∧ (k < 46 → (if (bv M len s = 60 ∨ bv M len s = 62) ∧ bv M len (s + 1) = 61 then s + 2 else s + 1) = s + (if k = 42 ∨ k = 43 then 2 else 1)) := by
  generalize bv M len (s + 1) = g at hk ⊢
  have key : ((bv M len s = 60 ∨ bv M len s = 62) ∧ g = 61 ∧ nI (mkT k) = 256 + bv M len s ∧ (k = 42 ∨ k = 43)) ∨ (¬ ((bv M len s = 60 ∨ bv M len s = 62) ∧ g = 61) ∧ ((sgL (bv M len s) ∧ nI (mkT k) = bv M len s ∧ ¬ (k = 42 ∨ k = 43)) ∨ (¬ sgL (bv M len s) ∧ k = 48))) := by
    generalize bv M len s = v at hk ⊢
    have T := sg_rows
    unfold sgM at hk
    rcases hk with ⟨rfl, hn⟩ | ⟨r, h1, rfl, h3, h4⟩
    · right
      have n40 : v ≠ 40 := fun e => hn 0 (by omega) ⟨(T.1.1).trans e.symm, Or.inl (T.1.2)⟩
      have n41 : v ≠ 41 := fun e => hn 1 (by omega) ⟨(T.2.1.1).trans e.symm, Or.inl (T.2.1.2)⟩
      have n91 : v ≠ 91 := fun e => hn 2 (by omega) ⟨(T.2.2.1.1).trans e.symm, Or.inl (T.2.2.1.2)⟩
      have n93 : v ≠ 93 := fun e => hn 3 (by omega) ⟨(T.2.2.2.1.1).trans e.symm, Or.inl (T.2.2.2.1.2)⟩
      have n59 : v ≠ 59 := fun e => hn 4 (by omega) ⟨(T.2.2.2.2.1.1).trans e.symm, Or.inl (T.2.2.2.2.1.2)⟩
      have n44 : v ≠ 44 := fun e => hn 5 (by omega) ⟨(T.2.2.2.2.2.1.1).trans e.symm, Or.inl (T.2.2.2.2.2.1.2)⟩
      have n43 : v ≠ 43 := fun e => hn 6 (by omega) ⟨(T.2.2.2.2.2.2.1.1).trans e.symm, Or.inl (T.2.2.2.2.2.2.1.2)⟩
      have n45 : v ≠ 45 := fun e => hn 7 (by omega) ⟨(T.2.2.2.2.2.2.2.1.1).trans e.symm, Or.inl (T.2.2.2.2.2.2.2.1.2)⟩
      have n42 : v ≠ 42 := fun e => hn 8 (by omega) ⟨(T.2.2.2.2.2.2.2.2.1.1).trans e.symm, Or.inl (T.2.2.2.2.2.2.2.2.1.2)⟩
      have n47 : v ≠ 47 := fun e => hn 9 (by omega) ⟨(T.2.2.2.2.2.2.2.2.2.1.1).trans e.symm, Or.inl (T.2.2.2.2.2.2.2.2.2.1.2)⟩
      have n60 : v ≠ 60 := fun e => hn 10 (by omega) ⟨(T.2.2.2.2.2.2.2.2.2.2.1.1).trans e.symm, Or.inl (T.2.2.2.2.2.2.2.2.2.2.1.2)⟩
      have n62 : v ≠ 62 := fun e => hn 11 (by omega) ⟨(T.2.2.2.2.2.2.2.2.2.2.2.1.1).trans e.symm, Or.inl (T.2.2.2.2.2.2.2.2.2.2.2.1.2)⟩
      have n61 : v ≠ 61 := fun e => hn 12 (by omega) ⟨(T.2.2.2.2.2.2.2.2.2.2.2.2.1.1).trans e.symm, Or.inl (T.2.2.2.2.2.2.2.2.2.2.2.2.1.2)⟩
      exact ⟨fun e => e.1.elim n60 n62, Or.inr ⟨fun h => by rcases h with h | h | h | h | h | h | h | h | h | h | h | h | h <;> first | exact absurd h n40 | exact absurd h n41 | exact absurd h n91 | exact absurd h n93 | exact absurd h n59 | exact absurd h n44 | exact absurd h n43 | exact absurd h n45 | exact absurd h n42 | exact absurd h n47 | exact absurd h n60 | exact absurd h n62 | exact absurd h n61, rfl⟩⟩
    · have : r = 0 ∨ r = 1 ∨ r = 2 ∨ r = 3 ∨ r = 4 ∨ r = 5 ∨ r = 6 ∨ r = 7 ∨ r = 8 ∨ r = 9 ∨ r = 10 ∨ r = 11 ∨ r = 12 ∨ r = 13 ∨ r = 14 := by omega
      rcases this with rfl | rfl | rfl | rfl | rfl | rfl | rfl | rfl | rfl | rfl | rfl | rfl | rfl | rfl | rfl
      · have e : v = 40 := h3.1.symm.trans T.1.1
        refine Or.inr ⟨?_, Or.inl ⟨by rw [e]; unfold sgL; simp, by rw [e]; decide, by omega⟩⟩
        rw [e]; exact fun z => z.1.elim (by decide) (by decide)
      · have e : v = 41 := h3.1.symm.trans T.2.1.1
        refine Or.inr ⟨?_, Or.inl ⟨by rw [e]; unfold sgL; simp, by rw [e]; decide, by omega⟩⟩
        rw [e]; exact fun z => z.1.elim (by decide) (by decide)
      · have e : v = 91 := h3.1.symm.trans T.2.2.1.1
        refine Or.inr ⟨?_, Or.inl ⟨by rw [e]; unfold sgL; simp, by rw [e]; decide, by omega⟩⟩
        rw [e]; exact fun z => z.1.elim (by decide) (by decide)
      · have e : v = 93 := h3.1.symm.trans T.2.2.2.1.1
        refine Or.inr ⟨?_, Or.inl ⟨by rw [e]; unfold sgL; simp, by rw [e]; decide, by omega⟩⟩
        rw [e]; exact fun z => z.1.elim (by decide) (by decide)
      · have e : v = 59 := h3.1.symm.trans T.2.2.2.2.1.1
        refine Or.inr ⟨?_, Or.inl ⟨by rw [e]; unfold sgL; simp, by rw [e]; decide, by omega⟩⟩
        rw [e]; exact fun z => z.1.elim (by decide) (by decide)
      · have e : v = 44 := h3.1.symm.trans T.2.2.2.2.2.1.1
        refine Or.inr ⟨?_, Or.inl ⟨by rw [e]; unfold sgL; simp, by rw [e]; decide, by omega⟩⟩
        rw [e]; exact fun z => z.1.elim (by decide) (by decide)
      · have e : v = 43 := h3.1.symm.trans T.2.2.2.2.2.2.1.1
        refine Or.inr ⟨?_, Or.inl ⟨by rw [e]; unfold sgL; simp, by rw [e]; decide, by omega⟩⟩
        rw [e]; exact fun z => z.1.elim (by decide) (by decide)
      · have e : v = 45 := h3.1.symm.trans T.2.2.2.2.2.2.2.1.1
        refine Or.inr ⟨?_, Or.inl ⟨by rw [e]; unfold sgL; simp, by rw [e]; decide, by omega⟩⟩
        rw [e]; exact fun z => z.1.elim (by decide) (by decide)
      · have e : v = 42 := h3.1.symm.trans T.2.2.2.2.2.2.2.2.1.1
        refine Or.inr ⟨?_, Or.inl ⟨by rw [e]; unfold sgL; simp, by rw [e]; decide, by omega⟩⟩
        rw [e]; exact fun z => z.1.elim (by decide) (by decide)
      · have e : v = 47 := h3.1.symm.trans T.2.2.2.2.2.2.2.2.2.1.1
        refine Or.inr ⟨?_, Or.inl ⟨by rw [e]; unfold sgL; simp, by rw [e]; decide, by omega⟩⟩
        rw [e]; exact fun z => z.1.elim (by decide) (by decide)
      · have e : v = 60 := h3.1.symm.trans T.2.2.2.2.2.2.2.2.2.2.1.1
        refine Or.inr ⟨?_, Or.inl ⟨by rw [e]; unfold sgL; simp, by rw [e]; decide, by omega⟩⟩
        exact fun z => h4 13 (by omega) (by omega) ⟨T.2.2.2.2.2.2.2.2.2.2.2.2.2.1.1.trans e.symm, Or.inr (T.2.2.2.2.2.2.2.2.2.2.2.2.2.1.2.trans z.2.symm)⟩
      · have e : v = 62 := h3.1.symm.trans T.2.2.2.2.2.2.2.2.2.2.2.1.1
        refine Or.inr ⟨?_, Or.inl ⟨by rw [e]; unfold sgL; simp, by rw [e]; decide, by omega⟩⟩
        exact fun z => h4 14 (by omega) (by omega) ⟨T.2.2.2.2.2.2.2.2.2.2.2.2.2.2.1.trans e.symm, Or.inr (T.2.2.2.2.2.2.2.2.2.2.2.2.2.2.2.trans z.2.symm)⟩
      · have e : v = 61 := h3.1.symm.trans T.2.2.2.2.2.2.2.2.2.2.2.2.1.1
        refine Or.inr ⟨?_, Or.inl ⟨by rw [e]; unfold sgL; simp, by rw [e]; decide, by omega⟩⟩
        rw [e]; exact fun z => z.1.elim (by decide) (by decide)
      · have e : v = 60 := h3.1.symm.trans T.2.2.2.2.2.2.2.2.2.2.2.2.2.1.1
        have e2 : g = 61 := h3.2.elim (fun z => absurd (z.symm.trans T.2.2.2.2.2.2.2.2.2.2.2.2.2.1.2) (by decide)) (fun z => z.symm.trans T.2.2.2.2.2.2.2.2.2.2.2.2.2.1.2)
        exact Or.inl ⟨Or.inl e, e2, by rw [e]; decide, by omega⟩
      · have e : v = 62 := h3.1.symm.trans T.2.2.2.2.2.2.2.2.2.2.2.2.2.2.1
        have e2 : g = 61 := h3.2.elim (fun z => absurd (z.symm.trans T.2.2.2.2.2.2.2.2.2.2.2.2.2.2.2) (by decide)) (fun z => z.symm.trans T.2.2.2.2.2.2.2.2.2.2.2.2.2.2.2)
        exact Or.inl ⟨Or.inr e, e2, by rw [e]; decide, by omega⟩
  have hkM : ∀ to, (to = s + 2 → nI (mkT k) = 256 + bv M len s) → (to ≠ s + 2 → (sgL (bv M len s) ∧ nI (mkT k) = bv M len s) ∨ (¬ sgL (bv M len s) ∧ k = 48)) → s ≤ to → to ≤ len + 2 → k ≠ 44 ∧ k ≠ 45 → tkK M len s to k := by
    intro to a1 a2 a3 a4 a5 c va hc
    refine ⟨va, fun _ _ => rfl, fun z => absurd z a5.2, fun z => absurd z a5.1, fun K kv => ?_⟩
    unfold wX10_kindOf
    refine sm_byteOf hl (by omega) (bn_f h0 (sm_isDigit ?_))
    rw [h2]
    refine br_t rfl (sm_isSmall ?_)
    rw [h1]
    refine br_t rfl ?_
    rw [pk_sub a3]
    refine (pk_eq (to - s) 2 (fun z => ?_) (fun z => ?_)).symm
    · rw [a1 (by omega)] at kv; exact kv
    · refine sg_chain (fun h => ?_) (fun h => ?_)
      · rcases a2 (by omega) with y | y
        · rw [y.2] at kv; exact kv
        · exact absurd h y.1
      · rcases a2 (by omega) with y | y
        · exact absurd y.1 h
        · rw [y.2] at kv; exact kv
  have hk5 : k ≠ 44 ∧ k ≠ 45 := by
    rcases hk with h | ⟨r, h1, h2, h3⟩ <;> omega
  rcases key with ⟨e1, e2, e3, e4⟩ | ⟨e1, e2⟩
  · rw [if_pos ⟨e1, e2⟩]
    exact ⟨hkM _ (fun _ => e3) (fun z => absurd rfl z) (by omega) (by omega) hk5, fun _ => by rw [if_pos e4]⟩
  · rw [if_neg e1]
    refine ⟨hkM _ (fun z => by omega) (fun _ => e2.elim (fun z => Or.inl ⟨z.1, z.2.1⟩) Or.inr) (by omega) (by omega) hk5, fun z => ?_⟩
    rcases e2 with e2 | e2
    · rw [if_neg e2.2.2]
    · omega
end TOK
