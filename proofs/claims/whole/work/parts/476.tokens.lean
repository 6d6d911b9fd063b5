/-! all tokens -/
/-- what every token is: the last one is the end or a bad one -/
def tkW (M : Nat → Int32) (len : Nat) (tk ts tq : Nat → Nat) (i : Nat) : Prop := tk i < 46 ∧ (tk i = 44 → tq i - ts i ≤ 10 ∧ ∀ j, ts i ≤ j → j < tq i → owB (bv M len j) = true) ∧ (tk i = 45 → wnum M len (ts i) (tq i) < 1000000)
def tkcR (M : Nat → Int32) (len : Nat) (tk ts tq : Nat → Nat) (ki st nu : Nat → Int32) (na : Nat → Int64) (i : Nat) : Prop := ki i = nI (tk i) ∧ st i = nI (ts i) ∧ (tk i = 45 → nu i = nI (wnum M len (ts i) (tq i))) ∧ (tk i = 44 → na i = wnC M len (ts i) (tq i))
def tkmR (M : Nat → Int32) (len : Nat) (tk ts tq : Nat → Nat) (ki fr me : Nat → Int32) (va : Nat → Int64) (i : Nat) : Prop := ki i = nI (mkT (tk i)) ∧ fr i = nI (ts i) ∧ me i = 0 ∧ (tk i = 45 → va i = lN (wnum M len (ts i) (tq i))) ∧ (tk i = 44 → va i = wnM M len (ts i) (tq i))
section TOK
variable {A M : Nat → Int32} {len : Nat}
theorem tok_run (r : rA A M len) (hl : len ≤ 2000) : ∀ d c p, c + d = 400 → p ≤ len → ∃ nt tk ts tq, c ≤ nt ∧ nt ≤ 400 ∧ (tk nt = 47 ∨ tk nt = 48) ∧ (∀ i, nt ≤ i → tk i = tk nt) ∧ (∀ i, c ≤ i → i < nt → tkW M len tk ts tq i) ∧
    (∀ ki st nu na x1 K, x1 ≠ 47 → x1 ≠ 48 → (∀ ki' st' nu' na' nx', (∀ i, i < c → ki' i = ki i ∧ st' i = st i ∧ nu' i = nu i ∧ na' i = na i) → (∀ i, c ≤ i → i ≤ nt → tkcR M len tk ts tq ki' st' nu' na' i) → K (ki', st', nu', na', nI (nt + 1), nx')) → wX6_readAll_13 K A (nI len) (d + 2) ki st nu na (nI c) (nI p) x1) ∧
    (∀ ki fr me va K, (∀ ki' fr' me' va', (∀ i, i < c → ki' i = ki i ∧ fr' i = fr i ∧ me' i = me i ∧ va' i = va i) → (∀ i, c ≤ i → i ≤ nt → tkmR M len tk ts tq ki' fr' me' va' i) → K (ki', fr', me', va')) → wX10_cutIntoTokens_4 K M (nI len) (d + 2) ki fr me va (nI p) (nI c)) := by
  intro d
  induction d with
  | zero =>
    intro c p hc hp
    have : c = 400 := by omega
    subst this
    obtain ⟨s, q, to, k, T⟩ := tok_ex r hl hp
    have T' := T
    obtain ⟨a1, a2, a3, a4, a5, a6, a7, a8, a9, a10, a11, a12⟩ := T'
    have hk : k4 400 k = 47 ∨ k4 400 k = 48 := by
      unfold k4
      split <;> omega
    have hk5 : k4 400 k ≠ 45 ∧ k4 400 k ≠ 44 := by omega
    refine ⟨400, fun _ => k4 400 k, fun _ => s, fun _ => q, by omega, by omega, hk, fun _ _ => rfl, fun i h1 h2 => by omega, ?_, ?_⟩
    · intro ki st nu na x1 K hx hx' kk
      unfold wX6_readAll_13
      refine br_f (by decide) (br_f hx (br_f hx' (sz_skip r hl a1 a2 a8 a9 ⟨vp_in_nI (by omega) (by decide), sz_byteAt r hl (by omega) (a10 400 nu na _ (by omega) (fun nu' na' nx b1 b2 b3 b4 => ⟨vp_in_nI (by omega) (by decide), ?_⟩))⟩)))
      unfold wX6_readAll_13
      refine br_t (by rw [nI_1]; decide) ?_
      rw [nI_1, nI_clamp (by omega)]
      refine kk _ _ _ _ _ (fun i hi => ⟨un (by omega), un (by omega), (b1 i (by omega)).1, (b1 i (by omega)).2⟩) (fun i h1 h2 => ?_)
      have : i = 400 := by omega
      subst this
      exact ⟨us, us, fun z => absurd z hk5.1, fun z => absurd z hk5.2⟩
    · intro ki fr me va K kk
      unfold wX10_cutIntoTokens_4
      refine br_f (by decide) (sm_cut hl T (by omega) (fun ki' fr' me' va' b1 b2 b3 b4 b5 b6 => ⟨fun z => by omega, fun _ => ?_⟩))
      refine kk _ _ _ _ (fun i hi => b1 i (by omega)) (fun i h1 h2 => ?_)
      have : i = 400 := by omega
      subst this
      exact ⟨b2, b3, b4, fun z => absurd z hk5.1, fun z => absurd z hk5.2⟩
  | succ d ih =>
    intro c p hc hp
    obtain ⟨s, q, to, k, T⟩ := tok_ex r hl hp
    have T' := T
    obtain ⟨a1, a2, a3, a4, a5, a6, a7, a8, a9, a10, a11, a12⟩ := T'
    have ek : k4 c k = k := k4_lt (by omega)
    by_cases hk : k < 46
    · obtain ⟨nt, tk, ts, tq, i1, i2, i3, i3', i4, i5, i6⟩ := ih (c + 1) q (by omega) a3
      have ne : ∀ i, c + 1 ≤ i → (if i = c then k else tk i) = tk i ∧ (if i = c then s else ts i) = ts i ∧ (if i = c then q else tq i) = tq i := by
        intro i hi
        rw [if_neg (by omega), if_neg (by omega), if_neg (by omega)]; exact ⟨rfl, rfl, rfl⟩
      have eq : (if c = c then k else tk c) = k ∧ (if c = c then s else ts c) = s ∧ (if c = c then q else tq c) = q := ⟨if_pos rfl, if_pos rfl, if_pos rfl⟩
      refine ⟨nt, fun i => if i = c then k else tk i, fun i => if i = c then s else ts i, fun i => if i = c then q else tq i, by omega, i2, ?_, ?_, ?_, ?_, ?_⟩
      · show (if nt = c then k else tk nt) = 47 ∨ (if nt = c then k else tk nt) = 48
        rw [(ne nt (by omega)).1]; exact i3
      · intro i hi
        show (if i = c then k else tk i) = (if nt = c then k else tk nt)
        rw [(ne nt (by omega)).1, (ne i (by omega)).1]; exact i3' i hi
      · intro i h1 h2
        unfold tkW
        by_cases z : i = c
        · subst z
          show (if i = i then k else tk i) < 46 ∧ ((if i = i then k else tk i) = 44 → (if i = i then q else tq i) - (if i = i then s else ts i) ≤ 10 ∧ ∀ j, (if i = i then s else ts i) ≤ j → j < (if i = i then q else tq i) → owB (bv M len j) = true) ∧ ((if i = i then k else tk i) = 45 → wnum M len (if i = i then s else ts i) (if i = i then q else tq i) < 1000000)
          rw [eq.1, eq.2.1, eq.2.2]
          exact ⟨hk, a6, a7⟩
        · have t := i4 i (by omega) h2
          have n := ne i (by omega)
          show (if i = c then k else tk i) < 46 ∧ ((if i = c then k else tk i) = 44 → (if i = c then q else tq i) - (if i = c then s else ts i) ≤ 10 ∧ ∀ j, (if i = c then s else ts i) ≤ j → j < (if i = c then q else tq i) → owB (bv M len j) = true) ∧ ((if i = c then k else tk i) = 45 → wnum M len (if i = c then s else ts i) (if i = c then q else tq i) < 1000000)
          rw [n.1, n.2.1, n.2.2]
          exact t
      · intro ki st nu na x1 K hx hx' kk
        unfold wX6_readAll_13
        refine br_f (nI_nlt (b := c) (a := 400) (by omega) (by decide)) (br_f hx (br_f hx' (sz_skip r hl a1 a2 a8 a9 ⟨vp_in_nI (by omega) (by decide), sz_byteAt r hl (by omega) (a10 c nu na _ (by omega) (fun nu' na' nx b1 b2 b3 b4 => ⟨vp_in_nI (by omega) (by decide), ?_⟩))⟩)))
        rw [b4 hk (by omega), nI_1, nI_clamp (by omega), ek]
        refine i5 _ _ _ _ _ _ (fun z => ?_) (fun z => ?_) (fun ki' st' nu2 na2 nx' c1 c2 => ?_)
        · have := (nI_eq (b := 47) (by omega) (by decide)).1 z
          omega
        · have := (nI_eq (b := 48) (by omega) (by decide)).1 z
          omega
        · refine kk _ _ _ _ _ (fun i hi => ?_) (fun i h1 h2 => ?_)
          · have t := c1 i (by omega)
            have t2 := b1 i (by omega)
            rw [t.1, t.2.1, t.2.2.1, t.2.2.2, un (by omega), un (by omega)]
            exact ⟨rfl, rfl, t2.1, t2.2⟩
          · by_cases z : i = c
            · subst z
              have t := c1 i (by omega)
              show ki' i = nI (if i = i then k else tk i) ∧ st' i = nI (if i = i then s else ts i) ∧ ((if i = i then k else tk i) = 45 → nu2 i = nI (wnum M len (if i = i then s else ts i) (if i = i then q else tq i))) ∧ ((if i = i then k else tk i) = 44 → na2 i = wnC M len (if i = i then s else ts i) (if i = i then q else tq i))
              rw [eq.1, eq.2.1, eq.2.2, t.1, t.2.1, t.2.2.1, t.2.2.2, us, us]
              exact ⟨rfl, rfl, fun y => b2 y (by omega), fun y => b3 y (by omega)⟩
            · have t := c2 i (by omega) h2
              have n := ne i (by omega)
              show ki' i = nI (if i = c then k else tk i) ∧ st' i = nI (if i = c then s else ts i) ∧ ((if i = c then k else tk i) = 45 → nu2 i = nI (wnum M len (if i = c then s else ts i) (if i = c then q else tq i))) ∧ ((if i = c then k else tk i) = 44 → na2 i = wnC M len (if i = c then s else ts i) (if i = c then q else tq i))
              rw [n.1, n.2.1, n.2.2]
              exact t
      · intro ki fr me va K kk
        unfold wX10_cutIntoTokens_4
        refine br_f (nI_nlt (b := c) (a := 400) (by omega) (by decide)) (sm_cut hl T (by omega) (fun ki' fr' me' va' b1 b2 b3 b4 b5 b6 => ⟨fun z => ?_, fun z => by omega⟩))
        refine i6 _ _ _ _ _ (fun ki2 fr2 me2 va2 c1 c2 => ?_)
        refine kk _ _ _ _ (fun i hi => ?_) (fun i h1 h2 => ?_)
        · have t := c1 i (by omega)
          have t2 := b1 i (by omega)
          rw [t.1, t.2.1, t.2.2.1, t.2.2.2]
          exact t2
        · by_cases z : i = c
          · subst z
            have t := c1 i (by omega)
            show ki2 i = nI (mkT (if i = i then k else tk i)) ∧ fr2 i = nI (if i = i then s else ts i) ∧ me2 i = 0 ∧ ((if i = i then k else tk i) = 45 → va2 i = lN (wnum M len (if i = i then s else ts i) (if i = i then q else tq i))) ∧ ((if i = i then k else tk i) = 44 → va2 i = wnM M len (if i = i then s else ts i) (if i = i then q else tq i))
            rw [eq.1, eq.2.1, eq.2.2, t.1, t.2.1, t.2.2.1, t.2.2.2, b2, ek]
            rw [(a4 hk).2] at b5 b6
            exact ⟨rfl, b3, b4, b5, b6⟩
          · have t := c2 i (by omega) h2
            have n := ne i (by omega)
            show ki2 i = nI (mkT (if i = c then k else tk i)) ∧ fr2 i = nI (if i = c then s else ts i) ∧ me2 i = 0 ∧ ((if i = c then k else tk i) = 45 → va2 i = lN (wnum M len (if i = c then s else ts i) (if i = c then q else tq i))) ∧ ((if i = c then k else tk i) = 44 → va2 i = wnM M len (if i = c then s else ts i) (if i = c then q else tq i))
            rw [n.1, n.2.1, n.2.2]
            exact t
    · have hk5 : k ≠ 45 ∧ k ≠ 44 := by omega
      refine ⟨c, fun _ => k, fun _ => s, fun _ => q, by omega, by omega, (show k = 47 ∨ k = 48 from by omega), fun _ _ => rfl, fun i h1 h2 => by omega, ?_, ?_⟩
      · intro ki st nu na x1 K hx hx' kk
        unfold wX6_readAll_13
        refine br_f (nI_nlt (b := c) (a := 400) (by omega) (by decide)) (br_f hx (br_f hx' (sz_skip r hl a1 a2 a8 a9 ⟨vp_in_nI (by omega) (by decide), sz_byteAt r hl (by omega) (a10 c nu na _ (by omega) (fun nu' na' nx b1 b2 b3 b4 => ⟨vp_in_nI (by omega) (by decide), ?_⟩))⟩)))
        rw [nI_1, nI_clamp (by omega), ek]
        have fin : K (upd ki c (nI k), upd st c (nI s), nu', na', nI (c + 1), nx) := by
          refine kk _ _ _ _ _ (fun i hi => ⟨un (by omega), un (by omega), (b1 i (by omega)).1, (b1 i (by omega)).2⟩) (fun i h1 h2 => ?_)
          have : i = c := by omega
          subst this
          exact ⟨us, us, fun z => absurd z hk5.1, fun z => absurd z hk5.2⟩
        unfold wX6_readAll_13
        refine ⟨fun _ => fin, fun _ => ⟨fun _ => fin, fun z => br_t ?_ fin⟩⟩
        have e : k = 48 := by
          rcases a5 with y | y | y
          · omega
          · subst y; exact absurd rfl z
          · exact y
        subst e; rfl
      · intro ki fr me va K kk
        unfold wX10_cutIntoTokens_4
        refine br_f (nI_nlt (b := c) (a := 400) (by omega) (by decide)) (sm_cut hl T (by omega) (fun ki' fr' me' va' b1 b2 b3 b4 b5 b6 => ⟨fun z => by omega, fun _ => ?_⟩))
        refine kk _ _ _ _ (fun i hi => b1 i (by omega)) (fun i h1 h2 => ?_)
        have : i = c := by omega
        subst this
        refine ⟨?_, b3, b4, fun z => absurd z hk5.1, fun z => absurd z hk5.2⟩
        rw [b2, ek]
end TOK
/-! the tokens as numbers alone: tk kinds, ts starts, tn numbers, names of the class, of the model -/
abbrev Tn := Nat × (Nat → Nat) × (Nat → Nat) × (Nat → Nat) × (Nat → Int64) × (Nat → Int64)
def nN (x : Tn) : Nat := x.1
def kN (x : Tn) : Nat → Nat := x.2.1
def sN (x : Tn) : Nat → Nat := x.2.2.1
def vN (x : Tn) : Nat → Nat := x.2.2.2.1
def cN (x : Tn) : Nat → Int64 := x.2.2.2.2.1
def mN (x : Tn) : Nat → Int64 := x.2.2.2.2.2
def wfN (x : Tn) : Prop := nN x ≤ 400 ∧ (kN x (nN x) = 47 ∨ kN x (nN x) = 48) ∧ (∀ i, nN x ≤ i → kN x i = kN x (nN x)) ∧ (∀ i, i < nN x → kN x i < 46) ∧ (∀ i, i < nN x → kN x i = 45 → vN x i < 1000000) ∧ (∀ i j, i < nN x → j < nN x → kN x i = 44 → kN x j = 44 → (cN x i = cN x j ↔ mN x i = mN x j))
def rNc (x : Tn) (ki st nu : Nat → Int32) (na : Nat → Int64) : Prop := ∀ i, i ≤ nN x → ki i = nI (kN x i) ∧ st i = nI (sN x i) ∧ (kN x i = 45 → nu i = nI (vN x i)) ∧ (kN x i = 44 → na i = cN x i)
def rNm (x : Tn) (ki fr : Nat → Int32) (va : Nat → Int64) : Prop := ∀ i, i ≤ nN x → ki i = nI (mkT (kN x i)) ∧ fr i = nI (sN x i) ∧ (kN x i = 45 → va i = lN (vN x i)) ∧ (kN x i = 44 → va i = mN x i)
section TOKS
variable {A M : Nat → Int32} {len : Nat}
theorem toks_ex (r : rA A M len) (hl : len ≤ 2000) : ∃ x : Tn, wfN x ∧
    (∀ ki st nu na cn nx K, (∀ ki' st' nu' na' nx', rNc x ki' st' nu' na' → K (ki', st', nu', na', nI (nN x + 1), nx')) → wX6_readAll A (nI len) ki st nu na cn nx K) ∧
    (∀ ki fr me va K, (∀ ki' fr' me' va', rNm x ki' fr' va' → (∀ i, i ≤ nN x → me' i = 0) → K (ki', fr', me', va')) → wX10_cutIntoTokens M (nI len) ki fr me va K) := by
  obtain ⟨nt, tk, ts, tq, i1, i2, i3, i3', i4, i5, i6⟩ := tok_run r hl 400 0 0 (by omega) (by omega)
  refine ⟨(nt, tk, ts, fun i => wnum M len (ts i) (tq i), fun i => wnC M len (ts i) (tq i), fun i => wnM M len (ts i) (tq i)), ⟨i2, i3, i3', fun i hi => (i4 i (by omega) hi).1, fun i hi h => (i4 i (by omega) hi).2.2 h, fun i j hi hj h h' => ?_⟩, ?_, ?_⟩
  · have a := (i4 i (by omega) hi).2.1 h
    have b := (i4 j (by omega) hj).2.1 h'
    have t := fw_same (g := fun x => bv M len (ts i + x)) (h := fun x => bv M len (ts j + x)) (n := tq i - ts i) (m := tq j - ts j) a.1 b.1 (fun y hy => a.2 (ts i + y) (by omega) (by omega)) (fun y hy => b.2 (ts j + y) (by omega) (by omega))
    exact t.1.trans t.2.symm
  · intro ki st nu na cn nx K kk
    refine ⟨402, i5 ki st nu na 34 K (by decide) (by decide) (fun ki' st' nu' na' nx' _ h => kk _ _ _ _ _ (fun i hi => h i (by omega) hi))⟩
  · intro ki fr me va K kk
    refine ⟨402, i6 ki fr me va K (fun ki' fr' me' va' _ h => kk _ _ _ _ (fun i hi => ?_) (fun i hi => (h i (by omega) hi).2.2.1))⟩
    have t := h i (by omega) hi
    exact ⟨t.1, t.2.1, t.2.2.2.1, t.2.2.2.2⟩
end TOKS
