/-! the tape cut into tokens: by the class, by the model -/
theorem k4_lt {c k : Nat} (h : c < 400) : k4 c k = k := if_neg (fun z => by omega)
theorem k4_bad {k : Nat} (h : k ≠ 47) : k4 400 k = 48 := if_pos ⟨rfl, h⟩
theorem k4_end {c : Nat} : k4 c 47 = 47 := if_neg (fun z => z.2 rfl)
def tkS (A M : Nat → Int32) (len p s q to k : Nat) : Prop := p ≤ s ∧ s ≤ len ∧ q ≤ len ∧ (k < 46 → s < q ∧ to = q) ∧ (k < 46 ∨ k = 47 ∨ k = 48) ∧ (k = 44 → q - s ≤ 10 ∧ ∀ i, s ≤ i → i < q → owB (bv M len i) = true) ∧ (k = 45 → wnum M len s q < 1000000) ∧ (∀ i, p ≤ i → i < s → blB (bv M len i) = true) ∧ blB (bv M len s) = false ∧ tkC A M len s q k ∧ tkE M len s to ∧ tkK M len s to k
section TOK
variable {A M : Nat → Int32} {len : Nat}
theorem tkC_of {s q k : Nat} (h1 : bv M len s ≠ -1) (hk : k ≠ 47) (h : ∀ (c : Nat) (nu : Nat → Int32) (na : Nat → Int64) (K : Int32 → ((Nat → Int32) × (Nat → Int64) × Int32) → Prop), c < 400 → (∀ nu' na' nx, (∀ i, i ≠ c → nu' i = nu i ∧ na' i = na i) → (k = 45 → nu' c = nI (wnum M len s q)) → (k = 44 → na' c = wnC M len s q) → (k < 46 → nx = nI q) → K (nI k) (nu', na', nx)) → wX6_readToken A (nI len) nu na (nI c) (nI s) (bv M len s) K) : tkC A M len s q k := by
  intro c nu na K hc kk
  by_cases z : c < 400
  · refine h c nu na K z (fun nu' na' nx a b d e => ?_)
    have t := kk nu' na' nx a (fun y _ => b y) (fun y _ => d y) (fun y _ => e y)
    rw [k4_lt z] at t; exact t
  · have e : c = 400 := by omega
    subst e
    have t := kk nu na (nI s) (fun _ _ => ⟨rfl, rfl⟩) (fun _ y => absurd y (by omega)) (fun _ y => absurd y (by omega)) (fun _ y => absurd y (by omega))
    rw [k4_bad hk] at t
    unfold wX6_readToken
    exact bn_f h1 (br_f (by decide) t)
theorem wnum_lt {s q : Nat} (hb : ∀ i, s ≤ i → i < q → dgB (bv M len i) = true) (h6 : q - s ≤ 6) : wnum M len s q < 1000000 := by
  have h1 := fw_lt (b := 10) (d := nD) (g := fun x => bv M len (s + x)) (by omega) (q - s) (fun i z => (nD_in (hb (s + i) (by omega) (by omega))).2.1)
  have h2 : 10 ^ (q - s) ≤ 10 ^ 6 := Nat.pow_le_pow_right (by omega) h6
  have h3 : 10 ^ 6 = 1000000 := by decide
  unfold wnum
  omega
theorem tok_ex (r : rA A M len) (hl : len ≤ 2000) {p : Nat} (hp : p ≤ len) : ∃ s q to k, tkS A M len p s q to k := by
  obtain ⟨s, s1, s2, s3, s4⟩ := run_ex (M := M) (len := len) blB (by decide) (len - p) p (by omega)
  by_cases hv : bv M len s = -1
  · refine ⟨s, s, s + 1, 47, s1, s2, s2, fun h => by omega, by omega, fun h => by omega, fun h => by omega, s3, s4, ?_, ?_, ?_⟩
    · intro c nu na K hc kk
      have t := kk nu na (nI s) (fun _ _ => ⟨rfl, rfl⟩) (fun y => by omega) (fun y => by omega) (fun y => by omega)
      rw [k4_end] at t
      unfold wX6_readToken
      exact bn_t hv t
    · have t := sm_endSign (M := M) hl s2 (by rw [hv]; decide) (by rw [hv]; decide)
      rw [hv] at t
      rw [if_neg (fun z => z.1.elim (by decide) (by decide))] at t
      exact t
    · intro c va K hc kk
      have t := kk va (fun _ _ => rfl) (fun y => by omega) (fun y => by omega)
      unfold wX10_kindOf
      exact sm_byteOf hl (by omega) (bn_t hv t)
  · cases h1 : smB (bv M len s)
    · cases h2 : dgB (bv M len s)
      · obtain ⟨k, hk⟩ := sg_ex (bv M len s) (bv M len (s + 1))
        have T := sm_sign hl s2 h1 h2 hv hk
        have hin := bv_in (M := M) (len := len) (p := s) (fun v => !decide (v = -1)) (by decide) (by rw [decide_eq_false hv]; rfl)
        have kr : k = 48 ∨ (29 ≤ k ∧ k ≤ 43) := by
          rcases hk with h | ⟨r, a, b, _⟩ <;> omega
        have to2 : k < 46 → (if (bv M len s = 60 ∨ bv M len s = 62) ∧ bv M len (s + 1) = 61 then s + 2 else s + 1) ≤ len := by
          intro _
          split
          · rename_i z
            have := bv_in (M := M) (len := len) (p := s + 1) (fun v => decide (v = 61)) (by decide) (by rw [decide_eq_true z.2])
            omega
          · omega
        have lo : s < (if (bv M len s = 60 ∨ bv M len s = 62) ∧ bv M len (s + 1) = 61 then s + 2 else s + 1) := by
          split <;> omega
        generalize ht : (if (bv M len s = 60 ∨ bv M len s = 62) ∧ bv M len (s + 1) = 61 then s + 2 else s + 1) = to at T to2 lo
        have hE := sm_endSign (M := M) hl s2 h1 h2
        rw [ht] at hE
        refine ⟨s, if k < 46 then to else s, to, k, s1, s2, ?_, fun z => ?_, by omega, fun h => by omega, fun h => by omega, s3, s4, ?_, hE, T.1⟩
        · split
          · exact to2 (by assumption)
          · exact s2
        · rw [if_pos z]; exact ⟨lo, rfl⟩
        · refine tkC_of hv (by omega) (fun c nu na K hc kk => ?_)
          unfold wX6_readToken
          refine bn_f hv (br_t (nI_lt (b := 400) hc (by decide)) (sz_isLetter ?_))
          rw [h1]
          refine br_t rfl (sz_isDigit ?_)
          rw [h2]
          refine br_t rfl ?_
          rw [nI_1]
          refine sz_byteAt r hl (by omega) (sz_ofSign hk ?_)
          have fin : ∀ j, (k < 46 → to = s + j) → K (nI k) (nu, na, nI s + nI j) := by
            intro j hj
            refine kk nu na _ (fun _ _ => ⟨rfl, rfl⟩) (fun y => by omega) (fun y => by omega) (fun y => ?_)
            rw [nI_add, if_pos y, hj y]
          unfold wX0_lengthOfSign
          refine pk_eq k 42 (fun z => fin 2 (fun y => ?_)) (fun z => (pk_eq k 43 (fun y => fin 2 (fun x => ?_)) (fun y => fin 1 (fun x => ?_))).symm)
          · rw [T.2 y, if_pos (Or.inl z)]
          · rw [T.2 x, if_pos (Or.inr y)]
          · rw [T.2 x, if_neg (fun w => w.elim z y)]
      · obtain ⟨q, q1, q2, q3, q4⟩ := run_ex (M := M) (len := len) dgB (by decide) (len - s) s (by omega)
        have sq : s < q := by
          rcases Nat.lt_or_ge s q with z | z
          · exact z
          · have : q = s := by omega
            subst this
            rw [h2] at q4; cases q4
        refine ⟨s, q, q, if q - s ≤ 6 then 45 else 48, s1, s2, q2, fun _ => ⟨sq, rfl⟩, ?_, fun h => ?_, fun h => ?_, s3, s4, ?_, sm_endNumber hl sq q2 q3 q4, ?_⟩
        · split <;> omega
        · split at h <;> omega
        · refine wnum_lt q3 ?_
          split at h <;> omega
        · refine tkC_of hv (by split <;> omega) (fun c nu na K hc kk => ?_)
          unfold wX6_readToken
          refine bn_f hv (br_t (nI_lt (b := 400) hc (by decide)) (sz_isLetter ?_))
          rw [h1]
          refine br_t rfl (sz_isDigit ?_)
          rw [h2]
          refine br_f (by decide) (sz_readNumber r hl (by omega) q1 q2 q3 q4 ?_)
          exact kk _ _ _ (fun i hi => ⟨un hi, rfl⟩) (fun _ => us) (fun y => by split at y <;> omega) (fun _ => rfl)
        · intro c va K hc kk
          unfold wX10_kindOf
          refine sm_byteOf hl (by omega) (bn_f hv (sm_isDigit ?_))
          rw [h2]
          refine br_f (by decide) ?_
          rw [pk_sub q1]
          refine pk_le (q - s) 6 (fun z => sm_numberAt hl hc q1 q2 q3 z ?_) (fun z => ?_)
          · rw [if_pos z] at kk
            exact kk _ (fun i hi => upL_ne hi) (fun _ => upL_eq) (fun y => by omega)
          · rw [if_neg (by omega)] at kk
            exact kk va (fun _ _ => rfl) (fun y => by omega) (fun y => by omega)
    · have o := (sm_not h1).2
      obtain ⟨q, q1, q2, q3, q4⟩ := run_ex (M := M) (len := len) owB (by decide) (len - s) s (by omega)
      have sq : s < q := by
        rcases Nat.lt_or_ge s q with z | z
        · exact z
        · have : q = s := by omega
          subst this
          rw [o] at q4; cases q4
      obtain ⟨kd, hkd⟩ := kw_ex (fun x => bv M len (s + x)) (q - s)
      have kr : kd = 44 ∨ kd < 29 := by
        rcases hkd with h | h <;> omega
      refine ⟨s, q, q, if q - s ≤ 10 then kd else 48, s1, s2, q2, fun _ => ⟨sq, rfl⟩, ?_, fun h => ?_, fun h => ?_, s3, s4, ?_, sm_endWord hl sq q2 h1 q3 q4, ?_⟩
      · split <;> omega
      · refine ⟨?_, q3⟩
        split at h <;> omega
      · split at h <;> omega
      · refine tkC_of hv (by split <;> omega) (fun c nu na K hc kk => ?_)
        unfold wX6_readToken
        refine bn_f hv (br_t (nI_lt (b := 400) hc (by decide)) (sz_isLetter ?_))
        rw [h1]
        refine br_f (by decide) (sz_readWord r hl (by omega) q1 q2 q3 q4 (fun _ => hkd) ?_)
        exact kk _ _ _ (fun i hi => ⟨rfl, upL_ne hi⟩) (fun y => by split at y <;> omega) (fun _ => upL_eq) (fun _ => rfl)
      · intro c va K hc kk
        unfold wX10_kindOf
        refine sm_byteOf hl (by omega) (bn_f hv (sm_isDigit ?_))
        rw [(sm_not h1).1]
        refine br_t rfl (sm_isSmall ?_)
        rw [h1]
        refine br_f (by decide) ?_
        rw [pk_sub q1]
        refine pk_le (q - s) 10 (fun z => sm_wordAt hl hc q1 q2 q3 z hkd ?_) (fun z => ?_)
        · rw [if_pos z] at kk
          exact kk _ (fun i hi => upL_ne hi) (fun y => by omega) (fun y => upL_eq)
        · rw [if_neg (by omega)] at kk
          exact kk va (fun _ _ => rfl) (fun y => by omega) (fun y => by omega)
/-- the model's step over blanks to a token, and the token -/
theorem sm_cut {p s q to k : Nat} (hl : len ≤ 2000) (h : tkS A M len p s q to k) {c : Nat} (hc : c ≤ 400) {K : ((Nat → Int32) × (Nat → Int32) × (Nat → Int32) × (Nat → Int64)) → Prop} {KL4 : (Nat → Int32) → (Nat → Int32) → (Nat → Int32) → (Nat → Int64) → Int32 → Int32 → Prop} {ki fr me : Nat → Int32} {va : Nat → Int64}
    (kk : ∀ ki' fr' me' va', (∀ i, i ≠ c → ki' i = ki i ∧ fr' i = fr i ∧ me' i = me i ∧ va' i = va i) → ki' c = nI (mkT (k4 c k)) → fr' c = nI s → me' c = 0 → (k = 45 → va' c = lN (wnum M len s to)) → (k = 44 → va' c = wnM M len s to) → (k4 c k < 46 → KL4 ki' fr' me' va' (nI q) (nI (c + 1))) ∧ (46 ≤ k4 c k → K (ki', fr', me', va'))) : ∃ k9 : Nat, wX10_cutIntoTokens_11 K KL4 M (nI len) k9 ki fr me va (nI p) (nI c) := by
  obtain ⟨a1, a2, a3, a4, a5, a6, a7, a8, a9, a10, a11, a12⟩ := h
  have fin : ∀ ki' fr' me' va', (∀ i, i ≠ c → ki' i = ki i ∧ fr' i = fr i ∧ me' i = me i ∧ va' i = va i) → ki' c = nI (mkT (k4 c k)) → fr' c = nI s → me' c = 0 → (k = 45 → va' c = lN (wnum M len s to)) → (k = 44 → va' c = wnM M len s to) → wX10_cutIntoTokens_96 K KL4 M (nI len) ki' fr' me' va' (nI c) (nI to) := by
    intro ki' fr' me' va' b1 b2 b3 b4 b5 b6
    have t := kk ki' fr' me' va' b1 b2 b3 b4 b5 b6
    unfold wX10_cutIntoTokens_96
    rw [nI_clamp (by omega), b2, nI_1]
    have k49 : k4 c k < 49 ∧ k4 c k ≠ 46 := by
      unfold k4
      split <;> omega
    have ml := mkT_lt _ k49.1
    refine ⟨vp_in_nI (by omega) (by decide), pk_eq (mkT (k4 c k)) 32 (fun z => ?_) (fun z => ⟨vp_in_nI (by omega) (by decide), (pk_eq (mkT (k4 c k)) 33 (fun y => ?_) (fun y => ?_)).symm⟩)⟩
    · exact t.2 (by have := mkT_tab _ k49.1 48 (by decide) k49.2 (by decide) z; omega)
    · exact t.2 (by have := mkT_tab _ k49.1 47 (by decide) k49.2 (by decide) y; omega)
    · have e : k4 c k < 46 := by
        have e1 : k4 c k ≠ 47 := fun x => y (by rw [x]; rfl)
        have e2 : k4 c k ≠ 48 := fun x => z (by rw [x]; rfl)
        omega
      have e3 : k < 46 := by
        unfold k4 at e
        split at e <;> omega
      rw [(a4 e3).2]
      exact t.1 e
  refine pk_loop (fun n i (_ : Unit) => wX10_cutIntoTokens_11 K KL4 M (nI len) n ki fr me va (nI (p + i)) (nI c)) (fun _ _ => True) (s - p) 0 () (Nat.zero_le _) trivial (fun n _ _ => ?_) (fun n i _ hi _ ih => ?_)
  · unfold wX10_cutIntoTokens_11
    rw [show p + (s - p) = s by omega]
    have b32 : bv M len s ≠ 32 := fun z => by rw [z] at a9; revert a9; decide
    have b10 : bv M len s ≠ 10 := fun z => by rw [z] at a9; revert a9; decide
    refine sm_byteOf hl (by omega) (br_f b32 (sm_byteOf hl (by omega) (bn_f b10 (a11 _ ⟨vp_in_nI (by omega) (by decide), vp_in_nI (by omega) (by decide), a12 c va _ hc (fun va' c1 c2 c3 => ⟨vp_in_nI (by omega) (by decide), ?_⟩)⟩))))
    rw [nI_clamp (by omega), us]
    by_cases z : c = 400
    · subst z
      refine bn_t rfl ⟨vp_in_nI (by omega) (by decide), ?_⟩
      by_cases y : k = 47
      · refine br_t (by rw [y]; rfl) (fin _ _ _ _ (fun i hi => ⟨un hi, un hi, un hi, c1 i hi⟩) ?_ us us c2 c3)
        rw [us, y, k4_end]
      · have kb : k < 49 := by omega
        refine br_f (fun x => y ?_) ⟨vp_in_nI (by omega) (by decide), fin _ _ _ _ (fun i hi => ⟨by rw [un hi, un hi], un hi, un hi, c1 i hi⟩) ?_ us us c2 c3⟩
        · have ml := mkT_lt _ kb
          exact mkT_tab k kb 47 (by decide) (by omega) (by decide) ((nI_eq (by omega) (by decide)).1 x)
        · rw [us, k4_bad y]; rfl
    · refine bn_f (fun x => z ((nI_eq (b := 400) (by omega) (by decide)).1 x)) (fin _ _ _ _ (fun i hi => ⟨un hi, un hi, un hi, c1 i hi⟩) ?_ us us c2 c3)
      rw [us, k4_lt (by omega)]
  · unfold wX10_cutIntoTokens_11
    have hb := a8 (p + i) (by omega) (by omega)
    unfold blB at hb
    rw [Bool.or_eq_true, decide_eq_true_eq, decide_eq_true_eq] at hb
    have nx : wX10_cutIntoTokens_31 K KL4 (wX10_cutIntoTokens_11 K KL4 M (nI len) n) M (nI len) ki fr me va (nI (p + i)) (nI c) := by
      unfold wX10_cutIntoTokens_31
      rw [nI_1]
      exact ih () trivial
    refine sm_byteOf hl (by omega) ⟨fun _ => nx, fun z => sm_byteOf hl (by omega) (bn_t (hb.resolve_left z) nx)⟩
end TOK
