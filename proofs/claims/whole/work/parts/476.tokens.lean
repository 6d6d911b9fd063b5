/-! all tokens -/
/-- what every token is: the last one is the end or a bad one -/
def tkW (M : Nat → Int32) (len : Nat) (tk ts tq : Nat → Nat) (i : Nat) : Prop := tk i < 46 ∧ (tk i = 44 → tq i - ts i ≤ 10 ∧ ∀ j, ts i ≤ j → j < tq i → owB (bv M len j) = true) ∧ (tk i = 45 → wnum M len (ts i) (tq i) < 1000000)
def tkcR (M : Nat → Int32) (len : Nat) (tk ts tq : Nat → Nat) (ki st nu : Nat → Int32) (na : Nat → Int64) (i : Nat) : Prop := ki i = nI (tk i) ∧ st i = nI (ts i) ∧ (tk i = 45 → nu i = nI (wnum M len (ts i) (tq i))) ∧ (tk i = 44 → na i = wnC M len (ts i) (tq i))
def tkmR (M : Nat → Int32) (len : Nat) (tk ts tq : Nat → Nat) (ki fr me : Nat → Int32) (va : Nat → Int64) (i : Nat) : Prop := ki i = nI (mkT (tk i)) ∧ fr i = nI (ts i) ∧ me i = 0 ∧ (tk i = 45 → va i = lN (wnum M len (ts i) (tq i))) ∧ (tk i = 44 → va i = wnM M len (ts i) (tq i))
section TOK
variable {A M : Nat → Int32} {len : Nat}
theorem tok_run (r : rA A M len) (hl : len ≤ 2000) : ∀ d c p, c + d = 400 → p ≤ len → ∃ nt tk ts tq, c ≤ nt ∧ nt ≤ 400 ∧ (tk nt = 47 ∨ tk nt = 48) ∧ (∀ i, nt ≤ i → tk i = tk nt) ∧ (∀ i, c ≤ i → i < nt → tkW M len tk ts tq i) ∧
    (∀ ki st nu na x1, x1 ≠ 47 → x1 ≠ 48 → ∃ ki' st' nu' na' nx', (∀ i, i < c → ki' i = ki i ∧ st' i = st i ∧ nu' i = nu i ∧ na' i = na i) ∧ (∀ i, c ≤ i → i ≤ nt → tkcR M len tk ts tq ki' st' nu' na' i) ∧ ∀ K, K (ki', st', nu', na', nI (nt + 1), nx') → wX6_readAll_13 K A (nI len) (d + 2) ki st nu na (nI c) (nI p) x1) ∧
    (∀ ki fr me va, ∃ ki' fr' me' va', (∀ i, i < c → ki' i = ki i ∧ fr' i = fr i ∧ me' i = me i ∧ va' i = va i) ∧ (∀ i, c ≤ i → i ≤ nt → tkmR M len tk ts tq ki' fr' me' va' i) ∧ ∀ K, K (ki', fr', me', va') → wX10_cutIntoTokens_4 K M (nI len) (d + 2) ki fr me va (nI p) (nI c)) := by
  intro d
  induction d with
  | zero =>
    intro c p hc hp
    have : c = 400 := by omega
    subst this
    obtain ⟨s, q, to, k, T⟩ := tok_ex r hl hp
    have T' := T
    obtain ⟨a1, a2, a3, a4, a5, a6, a7, a8, a9, a10, a11, a12⟩ := T'
    have hk : k4 400 k = 47 ∨ k4 400 k = 48 := by
      unfold k4
      split <;> omega
    have hk5 : k4 400 k ≠ 45 ∧ k4 400 k ≠ 44 := by omega
    refine ⟨400, fun _ => k4 400 k, fun _ => s, fun _ => q, by omega, by omega, hk, fun _ _ => rfl, fun i h1 h2 => by omega, ?_, ?_⟩
    · intro ki st nu na x1 hx hx'
      obtain ⟨nu', na', nx, b1, b2, b3, b4, b5⟩ := a10 400 nu na (by omega)
      refine ⟨upd ki 400 (nI (k4 400 k)), upd st 400 (nI s), nu', na', nx, fun i hi => ⟨un (by omega), un (by omega), (b1 i (by omega)).1, (b1 i (by omega)).2⟩, fun i h1 h2 => ?_, fun K kk => ?_⟩
      · have : i = 400 := by omega
        subst this
        exact ⟨us, us, fun z => absurd z hk5.1, fun z => absurd z hk5.2⟩
      · unfold wX6_readAll_13
        refine br_f (by decide) (br_f hx (br_f hx' (sz_skip r hl a1 a2 a8 a9 ⟨vp_in_nI (by omega) (by decide), sz_byteAt r hl (by omega) (b5 _ ⟨vp_in_nI (by omega) (by decide), ?_⟩)⟩)))
        unfold wX6_readAll_13
        refine br_t (by rw [nI_1]; decide) ?_
        rw [nI_1, nI_clamp (by omega)]
        exact kk
    · intro ki fr me va
      obtain ⟨va', v1, v2, v3, v4⟩ := sm_cut (c := 400) hl T (by omega) ki fr me va
      refine ⟨upd ki 400 (nI (mkT (k4 400 k))), upd fr 400 (nI s), upd me 400 0, va', fun i hi => ⟨un (by omega), un (by omega), un (by omega), v1 i (by omega)⟩, fun i h1 h2 => ?_, fun K kk => ?_⟩
      · have : i = 400 := by omega
        subst this
        exact ⟨us, us, us, fun z => absurd z hk5.1, fun z => absurd z hk5.2⟩
      · unfold wX10_cutIntoTokens_4
        exact br_f (by decide) (v4 _ _ (fun z => by omega) (fun _ => kk))
  | succ d ih =>
    intro c p hc hp
    obtain ⟨s, q, to, k, T⟩ := tok_ex r hl hp
    have T' := T
    obtain ⟨a1, a2, a3, a4, a5, a6, a7, a8, a9, a10, a11, a12⟩ := T'
    have ek : k4 c k = k := k4_lt (by omega)
    by_cases hk : k < 46
    · obtain ⟨nt, tk, ts, tq, i1, i2, i3, i3', i4, i5, i6⟩ := ih (c + 1) q (by omega) a3
      have ne : ∀ i, c + 1 ≤ i → (if i = c then k else tk i) = tk i ∧ (if i = c then s else ts i) = ts i ∧ (if i = c then q else tq i) = tq i := by
        intro i hi
        rw [if_neg (by omega), if_neg (by omega), if_neg (by omega)]; exact ⟨rfl, rfl, rfl⟩
      have eq : (if c = c then k else tk c) = k ∧ (if c = c then s else ts c) = s ∧ (if c = c then q else tq c) = q := ⟨if_pos rfl, if_pos rfl, if_pos rfl⟩
      refine ⟨nt, fun i => if i = c then k else tk i, fun i => if i = c then s else ts i, fun i => if i = c then q else tq i, by omega, i2, ?_, ?_, ?_, ?_, ?_⟩
      · show (if nt = c then k else tk nt) = 47 ∨ (if nt = c then k else tk nt) = 48
        rw [(ne nt (by omega)).1]; exact i3
      · intro i hi
        show (if i = c then k else tk i) = (if nt = c then k else tk nt)
        rw [(ne nt (by omega)).1, (ne i (by omega)).1]; exact i3' i hi
      · intro i h1 h2
        unfold tkW
        by_cases z : i = c
        · subst z
          show (if i = i then k else tk i) < 46 ∧ ((if i = i then k else tk i) = 44 → (if i = i then q else tq i) - (if i = i then s else ts i) ≤ 10 ∧ ∀ j, (if i = i then s else ts i) ≤ j → j < (if i = i then q else tq i) → owB (bv M len j) = true) ∧ ((if i = i then k else tk i) = 45 → wnum M len (if i = i then s else ts i) (if i = i then q else tq i) < 1000000)
          rw [eq.1, eq.2.1, eq.2.2]
          exact ⟨hk, a6, a7⟩
        · have t := i4 i (by omega) h2
          have n := ne i (by omega)
          show (if i = c then k else tk i) < 46 ∧ ((if i = c then k else tk i) = 44 → (if i = c then q else tq i) - (if i = c then s else ts i) ≤ 10 ∧ ∀ j, (if i = c then s else ts i) ≤ j → j < (if i = c then q else tq i) → owB (bv M len j) = true) ∧ ((if i = c then k else tk i) = 45 → wnum M len (if i = c then s else ts i) (if i = c then q else tq i) < 1000000)
          rw [n.1, n.2.1, n.2.2]
          exact t
      · intro ki st nu na x1 hx hx'
        obtain ⟨nu1, na1, nx1, b1, b2, b3, b4, b5⟩ := a10 c nu na (by omega)
        rw [ek] at b5
        obtain ⟨ki', st', nu2, na2, nx', c1, c2, c3⟩ := i5 (upd ki c (nI k)) (upd st c (nI s)) nu1 na1 (nI k) (fun z => by
          have := (nI_eq (b := 47) (by omega) (by decide)).1 z
          omega) (fun z => by
          have := (nI_eq (b := 48) (by omega) (by decide)).1 z
          omega)
        refine ⟨ki', st', nu2, na2, nx', fun i hi => ?_, fun i h1 h2 => ?_, fun K kk => ?_⟩
        · have t := c1 i (by omega)
          have t2 := b1 i (by omega)
          rw [t.1, t.2.1, t.2.2.1, t.2.2.2, un (by omega), un (by omega)]
          exact ⟨rfl, rfl, t2.1, t2.2⟩
        · by_cases z : i = c
          · subst z
            have t := c1 i (by omega)
            show ki' i = nI (if i = i then k else tk i) ∧ st' i = nI (if i = i then s else ts i) ∧ ((if i = i then k else tk i) = 45 → nu2 i = nI (wnum M len (if i = i then s else ts i) (if i = i then q else tq i))) ∧ ((if i = i then k else tk i) = 44 → na2 i = wnC M len (if i = i then s else ts i) (if i = i then q else tq i))
            rw [eq.1, eq.2.1, eq.2.2, t.1, t.2.1, t.2.2.1, t.2.2.2, us, us]
            exact ⟨rfl, rfl, fun y => b2 y (by omega), fun y => b3 y (by omega)⟩
          · have t := c2 i (by omega) h2
            have n := ne i (by omega)
            show ki' i = nI (if i = c then k else tk i) ∧ st' i = nI (if i = c then s else ts i) ∧ ((if i = c then k else tk i) = 45 → nu2 i = nI (wnum M len (if i = c then s else ts i) (if i = c then q else tq i))) ∧ ((if i = c then k else tk i) = 44 → na2 i = wnC M len (if i = c then s else ts i) (if i = c then q else tq i))
            rw [n.1, n.2.1, n.2.2]
            exact t
        · unfold wX6_readAll_13
          refine br_f (nI_nlt (b := c) (a := 400) (by omega) (by decide)) (br_f hx (br_f hx' (sz_skip r hl a1 a2 a8 a9 ⟨vp_in_nI (by omega) (by decide), sz_byteAt r hl (by omega) (b5 _ ⟨vp_in_nI (by omega) (by decide), ?_⟩)⟩)))
          rw [b4 hk (by omega), nI_1, nI_clamp (by omega)]
          exact c3 K kk
      · intro ki fr me va
        obtain ⟨va1, v1, v2, v3, v4⟩ := sm_cut (c := c) hl T (by omega) ki fr me va
        rw [(a4 hk).2] at v2 v3
        obtain ⟨ki2, fr2, me2, va2, c1, c2, c3⟩ := i6 (upd ki c (nI (mkT (k4 c k)))) (upd fr c (nI s)) (upd me c 0) va1
        refine ⟨ki2, fr2, me2, va2, fun i hi => ?_, fun i h1 h2 => ?_, fun K kk => ?_⟩
        · have t := c1 i (by omega)
          rw [t.1, t.2.1, t.2.2.1, t.2.2.2, un (by omega), un (by omega), un (by omega)]
          exact ⟨rfl, rfl, rfl, v1 i (by omega)⟩
        · by_cases z : i = c
          · subst z
            have t := c1 i (by omega)
            show ki2 i = nI (mkT (if i = i then k else tk i)) ∧ fr2 i = nI (if i = i then s else ts i) ∧ me2 i = 0 ∧ ((if i = i then k else tk i) = 45 → va2 i = lN (wnum M len (if i = i then s else ts i) (if i = i then q else tq i))) ∧ ((if i = i then k else tk i) = 44 → va2 i = wnM M len (if i = i then s else ts i) (if i = i then q else tq i))
            rw [eq.1, eq.2.1, eq.2.2, t.1, t.2.1, t.2.2.1, t.2.2.2, us, us, us, ek]
            exact ⟨rfl, rfl, rfl, v2, v3⟩
          · have t := c2 i (by omega) h2
            have n := ne i (by omega)
            show ki2 i = nI (mkT (if i = c then k else tk i)) ∧ fr2 i = nI (if i = c then s else ts i) ∧ me2 i = 0 ∧ ((if i = c then k else tk i) = 45 → va2 i = lN (wnum M len (if i = c then s else ts i) (if i = c then q else tq i))) ∧ ((if i = c then k else tk i) = 44 → va2 i = wnM M len (if i = c then s else ts i) (if i = c then q else tq i))
            rw [n.1, n.2.1, n.2.2]
            exact t
        · unfold wX10_cutIntoTokens_4
          exact br_f (nI_nlt (b := c) (a := 400) (by omega) (by decide)) (v4 _ _ (fun _ => c3 K kk) (fun z => by omega))
    · have hk5 : k ≠ 45 ∧ k ≠ 44 := by omega
      refine ⟨c, fun _ => k, fun _ => s, fun _ => q, by omega, by omega, (show k = 47 ∨ k = 48 from by omega), fun _ _ => rfl, fun i h1 h2 => by omega, ?_, ?_⟩
      · intro ki st nu na x1 hx hx'
        obtain ⟨nu1, na1, nx1, b1, b2, b3, b4, b5⟩ := a10 c nu na (by omega)
        rw [ek] at b5
        refine ⟨upd ki c (nI k), upd st c (nI s), nu1, na1, nx1, fun i hi => ⟨un (by omega), un (by omega), (b1 i (by omega)).1, (b1 i (by omega)).2⟩, fun i h1 h2 => ?_, fun K kk => ?_⟩
        · have : i = c := by omega
          subst this
          exact ⟨us, us, fun z => absurd z hk5.1, fun z => absurd z hk5.2⟩
        · unfold wX6_readAll_13
          refine br_f (nI_nlt (b := c) (a := 400) (by omega) (by decide)) (br_f hx (br_f hx' (sz_skip r hl a1 a2 a8 a9 ⟨vp_in_nI (by omega) (by decide), sz_byteAt r hl (by omega) (b5 _ ⟨vp_in_nI (by omega) (by decide), ?_⟩)⟩)))
          rw [nI_1, nI_clamp (by omega)]
          unfold wX6_readAll_13
          refine ⟨fun _ => kk, fun _ => ⟨fun _ => kk, fun z => br_t ?_ kk⟩⟩
          have e : k = 48 := by
            rcases a5 with y | y | y
            · omega
            · subst y; exact absurd rfl z
            · exact y
          subst e; rfl
      · intro ki fr me va
        obtain ⟨va1, v1, v2, v3, v4⟩ := sm_cut (c := c) hl T (by omega) ki fr me va
        refine ⟨upd ki c (nI (mkT (k4 c k))), upd fr c (nI s), upd me c 0, va1, fun i hi => ⟨un (by omega), un (by omega), un (by omega), v1 i (by omega)⟩, fun i h1 h2 => ?_, fun K kk => ?_⟩
        · have : i = c := by omega
          subst this
          refine ⟨?_, us, us, fun z => absurd z hk5.1, fun z => absurd z hk5.2⟩
          rw [us, ek]
        · unfold wX10_cutIntoTokens_4
          exact br_f (nI_nlt (b := c) (a := 400) (by omega) (by decide)) (v4 _ _ (fun z => by omega) (fun _ => kk))
end TOK
/-! the tokens as numbers alone: tk kinds, ts starts, tn numbers, names of the class, of the model -/
abbrev Tn := Nat × (Nat → Nat) × (Nat → Nat) × (Nat → Nat) × (Nat → Int64) × (Nat → Int64)
def nN (x : Tn) : Nat := x.1
def kN (x : Tn) : Nat → Nat := x.2.1
def sN (x : Tn) : Nat → Nat := x.2.2.1
def vN (x : Tn) : Nat → Nat := x.2.2.2.1
def cN (x : Tn) : Nat → Int64 := x.2.2.2.2.1
def mN (x : Tn) : Nat → Int64 := x.2.2.2.2.2
def wfN (x : Tn) : Prop := nN x ≤ 400 ∧ (kN x (nN x) = 47 ∨ kN x (nN x) = 48) ∧ (∀ i, nN x ≤ i → kN x i = kN x (nN x)) ∧ (∀ i, i < nN x → kN x i < 46) ∧ (∀ i, i < nN x → kN x i = 45 → vN x i < 1000000) ∧ (∀ i j, i < nN x → j < nN x → kN x i = 44 → kN x j = 44 → (cN x i = cN x j ↔ mN x i = mN x j))
def rNc (x : Tn) (ki st nu : Nat → Int32) (na : Nat → Int64) : Prop := ∀ i, i ≤ nN x → ki i = nI (kN x i) ∧ st i = nI (sN x i) ∧ (kN x i = 45 → nu i = nI (vN x i)) ∧ (kN x i = 44 → na i = cN x i)
def rNm (x : Tn) (ki fr : Nat → Int32) (va : Nat → Int64) : Prop := ∀ i, i ≤ nN x → ki i = nI (mkT (kN x i)) ∧ fr i = nI (sN x i) ∧ (kN x i = 45 → va i = lN (vN x i)) ∧ (kN x i = 44 → va i = mN x i)
section TOKS
variable {A M : Nat → Int32} {len : Nat}
theorem toks_ex (r : rA A M len) (hl : len ≤ 2000) (ki st nu : Nat → Int32) (na : Nat → Int64) (mk fr me : Nat → Int32) (va : Nat → Int64) : ∃ x : Tn, wfN x ∧
    (∃ ki' st' nu' na' nx', rNc x ki' st' nu' na' ∧ ∀ cn nx K, K (ki', st', nu', na', nI (nN x + 1), nx') → wX6_readAll A (nI len) ki st nu na cn nx K) ∧
    (∃ mk' fr' me' va', rNm x mk' fr' va' ∧ (∀ i, i ≤ nN x → me' i = 0) ∧ ∀ K, K (mk', fr', me', va') → wX10_cutIntoTokens M (nI len) mk fr me va K) := by
  obtain ⟨nt, tk, ts, tq, i1, i2, i3, i3', i4, i5, i6⟩ := tok_run r hl 400 0 0 (by omega) (by omega)
  refine ⟨(nt, tk, ts, fun i => wnum M len (ts i) (tq i), fun i => wnC M len (ts i) (tq i), fun i => wnM M len (ts i) (tq i)), ⟨i2, i3, i3', fun i hi => (i4 i (by omega) hi).1, fun i hi h => (i4 i (by omega) hi).2.2 h, fun i j hi hj h h' => ?_⟩, ?_, ?_⟩
  · have a := (i4 i (by omega) hi).2.1 h
    have b := (i4 j (by omega) hj).2.1 h'
    have t := fw_same (g := fun x => bv M len (ts i + x)) (h := fun x => bv M len (ts j + x)) (n := tq i - ts i) (m := tq j - ts j) a.1 b.1 (fun y hy => a.2 (ts i + y) (by omega) (by omega)) (fun y hy => b.2 (ts j + y) (by omega) (by omega))
    exact t.1.trans t.2.symm
  · obtain ⟨ki', st', nu', na', nx', _, h, k⟩ := i5 ki st nu na 34 (by decide) (by decide)
    exact ⟨ki', st', nu', na', nx', fun i hi => h i (by omega) hi, fun cn nx K kk => ⟨402, k K kk⟩⟩
  · obtain ⟨mk', fr', me', va', _, h, k⟩ := i6 mk fr me va
    refine ⟨mk', fr', me', va', fun i hi => ?_, fun i hi => (h i (by omega) hi).2.2.1, fun K kk => ⟨402, k K kk⟩⟩
    have t := h i (by omega) hi
    exact ⟨t.1, t.2.1, t.2.2.2.1, t.2.2.2.2⟩
end TOKS
