/-! the tape cut into tokens: by the class, by the model -/
theorem k4_lt {c k : Nat} (h : c < 400) : k4 c k = k := if_neg (fun z => by omega)
theorem k4_bad {k : Nat} (h : k ≠ 47) : k4 400 k = 48 := if_pos ⟨rfl, h⟩
theorem k4_end {c : Nat} : k4 c 47 = 47 := if_neg (fun z => z.2 rfl)
def tkS (A M : Nat → Int32) (len p s q to k : Nat) : Prop := p ≤ s ∧ s ≤ len ∧ q ≤ len ∧ (k < 46 → s < q ∧ to = q) ∧ (k < 46 ∨ k = 47 ∨ k = 48) ∧ (k = 44 → q - s ≤ 10 ∧ ∀ i, s ≤ i → i < q → owB (bv M len i) = true) ∧ (k = 45 → wnum M len s q < 1000000) ∧ (∀ i, p ≤ i → i < s → blB (bv M len i) = true) ∧ blB (bv M len s) = false ∧ tkC A M len s q k ∧ tkE M len s to ∧ tkK M len s to k
section TOK
variable {A M : Nat → Int32} {len : Nat}
theorem tkC_of {s q k : Nat} (h1 : bv M len s ≠ -1) (hk : k ≠ 47) (h : ∀ (c : Nat) (nu : Nat → Int32) (na : Nat → Int64), c < 400 → ∃ nu' na' nx, (∀ i, i ≠ c → nu' i = nu i ∧ na' i = na i) ∧ (k = 45 → nu' c = nI (wnum M len s q)) ∧ (k = 44 → na' c = wnC M len s q) ∧ (k < 46 → nx = nI q) ∧ ∀ K : Int32 → ((Nat → Int32) × (Nat → Int64) × Int32) → Prop, K (nI k) (nu', na', nx) → wX6_readToken A (nI len) nu na (nI c) (nI s) (bv M len s) K) : tkC A M len s q k := by
  intro c nu na hc
  by_cases z : c < 400
  · obtain ⟨nu', na', nx, a, b, d, e, f⟩ := h c nu na z
    exact ⟨nu', na', nx, a, fun y _ => b y, fun y _ => d y, fun y _ => e y, fun K kk => f K (by rw [k4_lt z] at kk; exact kk)⟩
  · have e : c = 400 := by omega
    subst e
    refine ⟨nu, na, nI s, fun _ _ => ⟨rfl, rfl⟩, fun _ y => absurd y (by omega), fun _ y => absurd y (by omega), fun _ y => absurd y (by omega), fun K t => ?_⟩
    rw [k4_bad hk] at t
    unfold wX6_readToken
    exact bn_f h1 (br_f (by decide) t)
theorem wnum_lt {s q : Nat} (hb : ∀ i, s ≤ i → i < q → dgB (bv M len i) = true) (h6 : q - s ≤ 6) : wnum M len s q < 1000000 := by
  have h1 := fw_lt (b := 10) (d := nD) (g := fun x => bv M len (s + x)) (by omega) (q - s) (fun i z => (nD_in (hb (s + i) (by omega) (by omega))).2.1)
  have h2 : 10 ^ (q - s) ≤ 10 ^ 6 := Nat.pow_le_pow_right (by omega) h6
  have h3 : 10 ^ 6 = 1000000 := by decide
  unfold wnum
  omega
theorem tok_ex (r : rA A M len) (hl : len ≤ 2000) {p : Nat} (hp : p ≤ len) : ∃ s q to k, tkS A M len p s q to k := by
  obtain ⟨s, s1, s2, s3, s4⟩ := run_ex (M := M) (len := len) blB (by decide) (len - p) p (by omega)
  by_cases hv : bv M len s = -1
  · refine ⟨s, s, s + 1, 47, s1, s2, s2, fun h => by omega, by omega, fun h => by omega, fun h => by omega, s3, s4, ?_, ?_, ?_⟩
    · intro c nu na hc
      refine ⟨nu, na, nI s, fun _ _ => ⟨rfl, rfl⟩, fun y => by omega, fun y => by omega, fun y => by omega, fun K t => ?_⟩
      rw [k4_end] at t
      unfold wX6_readToken
      exact bn_t hv t
    · have t := sm_endSign (M := M) hl s2 (by rw [hv]; decide) (by rw [hv]; decide)
      rw [hv] at t
      rw [if_neg (fun z => z.1.elim (by decide) (by decide))] at t
      exact t
    · intro c va hc
      refine ⟨va, fun _ _ => rfl, fun y => by omega, fun y => by omega, fun K t => ?_⟩
      unfold wX10_kindOf
      exact sm_byteOf hl (by omega) (bn_t hv t)
  · cases h1 : smB (bv M len s)
    · cases h2 : dgB (bv M len s)
      · obtain ⟨k, hk⟩ := sg_ex (bv M len s) (bv M len (s + 1))
        have T := sm_sign hl s2 h1 h2 hv hk
        have hin := bv_in (M := M) (len := len) (p := s) (fun v => !decide (v = -1)) (by decide) (by rw [decide_eq_false hv]; rfl)
        have kr : k = 48 ∨ (29 ≤ k ∧ k ≤ 43) := by
          rcases hk with h | ⟨r, a, b, _⟩ <;> omega
        have to2 : k < 46 → (if (bv M len s = 60 ∨ bv M len s = 62) ∧ bv M len (s + 1) = 61 then s + 2 else s + 1) ≤ len := by
          intro _
          split
          · rename_i z
            have := bv_in (M := M) (len := len) (p := s + 1) (fun v => decide (v = 61)) (by decide) (by rw [decide_eq_true z.2])
            omega
          · omega
        have lo : s < (if (bv M len s = 60 ∨ bv M len s = 62) ∧ bv M len (s + 1) = 61 then s + 2 else s + 1) := by
          split <;> omega
        generalize ht : (if (bv M len s = 60 ∨ bv M len s = 62) ∧ bv M len (s + 1) = 61 then s + 2 else s + 1) = to at T to2 lo
        have hE := sm_endSign (M := M) hl s2 h1 h2
        rw [ht] at hE
        refine ⟨s, if k < 46 then to else s, to, k, s1, s2, ?_, fun z => ?_, by omega, fun h => by omega, fun h => by omega, s3, s4, ?_, hE, T.1⟩
        · split
          · exact to2 (by assumption)
          · exact s2
        · rw [if_pos z]; exact ⟨lo, rfl⟩
        · refine tkC_of hv (by omega) (fun c nu na hc => ⟨nu, na, nI (s + (if k = 42 ∨ k = 43 then 2 else 1)), fun _ _ => ⟨rfl, rfl⟩, fun y => by omega, fun y => by omega, fun y => by rw [if_pos y, T.2 y], fun K kk => ?_⟩)
          unfold wX6_readToken
          refine bn_f hv (br_t (nI_lt (b := 400) hc (by decide)) (sz_isLetter ?_))
          rw [h1]
          refine br_t rfl (sz_isDigit ?_)
          rw [h2]
          refine br_t rfl ?_
          rw [nI_1]
          refine sz_byteAt r hl (by omega) (sz_ofSign hk ?_)
          have fin : ∀ j, (if k = 42 ∨ k = 43 then 2 else 1) = j → K (nI k) (nu, na, nI s + nI j) := by
            intro j hj
            rw [hj] at kk
            rw [nI_add]; exact kk
          unfold wX0_lengthOfSign
          refine pk_eq k 42 (fun z => fin 2 (if_pos (Or.inl z))) (fun z => (pk_eq k 43 (fun y => fin 2 (if_pos (Or.inr y))) (fun y => fin 1 (if_neg (fun w => w.elim z y)))).symm)
      · obtain ⟨q, q1, q2, q3, q4⟩ := run_ex (M := M) (len := len) dgB (by decide) (len - s) s (by omega)
        have sq : s < q := by
          rcases Nat.lt_or_ge s q with z | z
          · exact z
          · have : q = s := by omega
            subst this
            rw [h2] at q4; cases q4
        refine ⟨s, q, q, if q - s ≤ 6 then 45 else 48, s1, s2, q2, fun _ => ⟨sq, rfl⟩, ?_, fun h => ?_, fun h => ?_, s3, s4, ?_, sm_endNumber hl sq q2 q3 q4, ?_⟩
        · split <;> omega
        · split at h <;> omega
        · refine wnum_lt q3 ?_
          split at h <;> omega
        · refine tkC_of hv (by split <;> omega) (fun c nu na hc => ⟨upd nu c (nI (wnum M len s q)), na, nI q, fun i hi => ⟨un hi, rfl⟩, fun _ => us, fun y => by split at y <;> omega, fun _ => rfl, fun K kk => ?_⟩)
          unfold wX6_readToken
          refine bn_f hv (br_t (nI_lt (b := 400) hc (by decide)) (sz_isLetter ?_))
          rw [h1]
          refine br_t rfl (sz_isDigit ?_)
          rw [h2]
          exact br_f (by decide) (sz_readNumber r hl (by omega) q1 q2 q3 q4 kk)
        · intro c va hc
          by_cases z : q - s ≤ 6
          · rw [if_pos z]
            refine ⟨vp_updL va c (lN (wnum M len s q)), fun i hi => upL_ne hi, fun _ => upL_eq, fun y => by omega, fun K kk => ?_⟩
            unfold wX10_kindOf
            refine sm_byteOf hl (by omega) (bn_f hv (sm_isDigit ?_))
            rw [h2]
            refine br_f (by decide) ?_
            rw [pk_sub q1]
            exact pk_le (q - s) 6 (fun z => sm_numberAt hl hc q1 q2 q3 z kk) (fun y => by omega)
          · rw [if_neg z]
            refine ⟨va, fun _ _ => rfl, fun y => by omega, fun y => by omega, fun K kk => ?_⟩
            unfold wX10_kindOf
            refine sm_byteOf hl (by omega) (bn_f hv (sm_isDigit ?_))
            rw [h2]
            refine br_f (by decide) ?_
            rw [pk_sub q1]
            exact pk_le (q - s) 6 (fun y => absurd y z) (fun _ => kk)
    · have o := (sm_not h1).2
      obtain ⟨q, q1, q2, q3, q4⟩ := run_ex (M := M) (len := len) owB (by decide) (len - s) s (by omega)
      have sq : s < q := by
        rcases Nat.lt_or_ge s q with z | z
        · exact z
        · have : q = s := by omega
          subst this
          rw [o] at q4; cases q4
      obtain ⟨kd, hkd⟩ := kw_ex (fun x => bv M len (s + x)) (q - s)
      have kr : kd = 44 ∨ kd < 29 := by
        rcases hkd with h | h <;> omega
      refine ⟨s, q, q, if q - s ≤ 10 then kd else 48, s1, s2, q2, fun _ => ⟨sq, rfl⟩, ?_, fun h => ?_, fun h => ?_, s3, s4, ?_, sm_endWord hl sq q2 h1 q3 q4, ?_⟩
      · split <;> omega
      · refine ⟨?_, q3⟩
        split at h <;> omega
      · split at h <;> omega
      · refine tkC_of hv (by split <;> omega) (fun c nu na hc => ⟨nu, vp_updL na c (wnC M len s q), nI q, fun i hi => ⟨rfl, upL_ne hi⟩, fun y => by split at y <;> omega, fun _ => upL_eq, fun _ => rfl, fun K kk => ?_⟩)
        unfold wX6_readToken
        refine bn_f hv (br_t (nI_lt (b := 400) hc (by decide)) (sz_isLetter ?_))
        rw [h1]
        exact br_f (by decide) (sz_readWord r hl (by omega) q1 q2 q3 q4 (fun _ => hkd) kk)
      · intro c va hc
        have pre : ∀ K : Int32 → (Nat → Int64) → Prop, ((q - s ≤ 10 → wX10_wordAt M va (nI c) (nI s) (nI q) (fun r4 u4 => K r4 (u4))) ∧ (¬ q - s ≤ 10 → K 32 va)) → wX10_kindOf M (nI len) va (nI c) (nI s) (nI q) K := by
          intro K hK
          unfold wX10_kindOf
          refine sm_byteOf hl (by omega) (bn_f hv (sm_isDigit ?_))
          rw [(sm_not h1).1]
          refine br_t rfl (sm_isSmall ?_)
          rw [h1]
          refine br_f (by decide) ?_
          rw [pk_sub q1]
          exact pk_le (q - s) 10 (fun z => hK.1 z) (fun z => hK.2 (by omega))
        by_cases z : q - s ≤ 10
        · rw [if_pos z]
          exact ⟨vp_updL va c (wnM M len s q), fun i hi => upL_ne hi, fun y => by omega, fun _ => upL_eq, fun K kk => pre K ⟨fun z => sm_wordAt hl hc q1 q2 q3 z hkd kk, fun y => absurd z y⟩⟩
        · rw [if_neg z]
          exact ⟨va, fun _ _ => rfl, fun y => by omega, fun y => by omega, fun K kk => pre K ⟨fun y => absurd y z, fun _ => kk⟩⟩
theorem uu {f : Nat → Int32} {k : Nat} {a b : Int32} : upd (upd f k a) k b = upd f k b := by
  funext i
  by_cases z : i = k
  · subst z; rw [us, us]
  · rw [un z, un z, un z]
/-- the model's step over blanks to a token, and the token -/
theorem sm_cut {p s q to k : Nat} (hl : len ≤ 2000) (h : tkS A M len p s q to k) {c : Nat} (hc : c ≤ 400) (ki fr me : Nat → Int32) (va : Nat → Int64) :
    ∃ va', (∀ i, i ≠ c → va' i = va i) ∧ (k = 45 → va' c = lN (wnum M len s to)) ∧ (k = 44 → va' c = wnM M len s to) ∧ ∀ (K : ((Nat → Int32) × (Nat → Int32) × (Nat → Int32) × (Nat → Int64)) → Prop) (KL4 : (Nat → Int32) → (Nat → Int32) → (Nat → Int32) → (Nat → Int64) → Int32 → Int32 → Prop), (k4 c k < 46 → KL4 (upd ki c (nI (mkT (k4 c k)))) (upd fr c (nI s)) (upd me c 0) va' (nI q) (nI (c + 1))) → (46 ≤ k4 c k → K (upd ki c (nI (mkT (k4 c k))), upd fr c (nI s), upd me c 0, va')) → ∃ k9 : Nat, wX10_cutIntoTokens_11 K KL4 M (nI len) k9 ki fr me va (nI p) (nI c) := by
  obtain ⟨a1, a2, a3, a4, a5, a6, a7, a8, a9, a10, a11, a12⟩ := h
  obtain ⟨va', v1, v2, v3, v4⟩ := a12 c va hc
  refine ⟨va', v1, v2, v3, fun K KL4 t1 t2 => ?_⟩
  have fin : wX10_cutIntoTokens_96 K KL4 M (nI len) (upd ki c (nI (mkT (k4 c k)))) (upd fr c (nI s)) (upd me c 0) va' (nI c) (nI to) := by
    unfold wX10_cutIntoTokens_96
    rw [nI_clamp (n := c) (by omega), us, nI_1]
    have k49 : k4 c k < 49 ∧ k4 c k ≠ 46 := by
      unfold k4
      split <;> omega
    have ml := mkT_lt _ k49.1
    refine ⟨vp_in_nI (by omega) (by decide), pk_eq (mkT (k4 c k)) 32 (fun z => ?_) (fun z => ⟨vp_in_nI (by omega) (by decide), (pk_eq (mkT (k4 c k)) 33 (fun y => ?_) (fun y => ?_)).symm⟩)⟩
    · exact t2 (by have := mkT_tab _ k49.1 48 (by decide) k49.2 (by decide) z; omega)
    · exact t2 (by have := mkT_tab _ k49.1 47 (by decide) k49.2 (by decide) y; omega)
    · have e : k4 c k < 46 := by
        have e1 : k4 c k ≠ 47 := fun x => y (by rw [x]; rfl)
        have e2 : k4 c k ≠ 48 := fun x => z (by rw [x]; rfl)
        omega
      have e3 : k < 46 := by
        unfold k4 at e
        split at e <;> omega
      rw [(a4 e3).2]
      exact t1 e
  refine pk_loop (fun n i (_ : Unit) => wX10_cutIntoTokens_11 K KL4 M (nI len) n ki fr me va (nI (p + i)) (nI c)) (fun _ _ => True) (s - p) 0 () (Nat.zero_le _) trivial (fun n _ _ => ?_) (fun n i _ hi _ ih => ?_)
  · unfold wX10_cutIntoTokens_11
    rw [show p + (s - p) = s by omega]
    have b32 : bv M len s ≠ 32 := fun z => by rw [z] at a9; revert a9; decide
    have b10 : bv M len s ≠ 10 := fun z => by rw [z] at a9; revert a9; decide
    refine sm_byteOf hl (by omega) (br_f b32 (sm_byteOf hl (by omega) (bn_f b10 (a11 _ ⟨vp_in_nI (by omega) (by decide), vp_in_nI (by omega) (by decide), v4 _ ⟨vp_in_nI (by omega) (by decide), ?_⟩⟩))))
    rw [nI_clamp (by omega), us]
    by_cases z : c = 400
    · subst z
      refine bn_t rfl ⟨vp_in_nI (by omega) (by decide), ?_⟩
      by_cases y : k = 47
      · refine br_t (by rw [y]; rfl) ?_
        rw [y, k4_end] at fin
        rw [y]; exact fin
      · have kb : k < 49 := by omega
        refine br_f (fun x => y ?_) ⟨vp_in_nI (by omega) (by decide), ?_⟩
        · have ml := mkT_lt _ kb
          exact mkT_tab k kb 47 (by decide) (by omega) (by decide) ((nI_eq (by omega) (by decide)).1 x)
        · rw [k4_bad y] at fin
          rw [uu]; exact fin
    · refine bn_f (fun x => z ((nI_eq (b := 400) (by omega) (by decide)).1 x)) ?_
      rw [k4_lt (by omega)] at fin
      exact fin
  · unfold wX10_cutIntoTokens_11
    have hb := a8 (p + i) (by omega) (by omega)
    unfold blB at hb
    rw [Bool.or_eq_true, decide_eq_true_eq, decide_eq_true_eq] at hb
    have nx : wX10_cutIntoTokens_31 K KL4 (wX10_cutIntoTokens_11 K KL4 M (nI len) n) M (nI len) ki fr me va (nI (p + i)) (nI c) := by
      unfold wX10_cutIntoTokens_31
      rw [nI_1]
      exact ih () trivial
    refine sm_byteOf hl (by omega) ⟨fun _ => nx, fun z => sm_byteOf hl (by omega) (bn_t (hb.resolve_left z) nx)⟩
end TOK
