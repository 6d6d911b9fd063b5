/-! PURE: a text cut into tokens by a machine that takes a letter at a time; the class's tokens are its. A token: its kind, number, name. -/
abbrev Tk : Type := Nat × Nat × Nat
def kwB (w : List Nat) (k : Nat) : Bool := decide (w.length = kwl k) && (List.range w.length).all (fun x => decide (nI (w.getD x 0) = kCh 0 (7 * k + x)))
def kwF (w : List Nat) : Nat := if fa_first (kwB w) 29 < 29 then fa_first (kwB w) 29 else 44
def wTk (w : List Nat) : Tk := (if w.length ≤ 10 then kwF w else 48, 0, if kwF w = 44 then fw 37 cD (fun i => nI (w.getD i 0)) w.length else 0)
def dTk (w : List Nat) : Tk := (if w.length ≤ 6 then 45 else 48, fw 10 nD (fun i => nI (w.getD i 0)) w.length, 0)
def sg1 (c : Nat) : Nat := if c = 40 then 29 else if c = 41 then 30 else if c = 91 then 31 else if c = 93 then 32 else if c = 59 then 33 else if c = 44 then 34 else if c = 43 then 35 else if c = 45 then 36 else if c = 42 then 37 else if c = 47 then 38 else if c = 60 then 39 else if c = 62 then 40 else if c = 61 then 41 else 48
/-- a letter from between two tokens -/
def lxS (c : Nat) : (Nat × List Nat) × List Tk := if blB (nI c) = true then ((0, []), []) else if smB (nI c) = true then ((1, [c]), []) else if dgB (nI c) = true then ((2, [c]), []) else if c = 60 ∨ c = 62 then ((3, [c]), []) else ((0, []), [(sg1 c, 0, 0)])
/-- what was begun ends -/
def lxE (s : Nat × List Nat) : List Tk := if s.1 = 0 then [] else if s.1 = 1 then [wTk s.2] else if s.1 = 2 then [dTk s.2] else [(sg1 (s.2.getD 0 0), 0, 0)]
def lx1 (s : Nat × List Nat) (c : Nat) : (Nat × List Nat) × List Tk :=
  if s.1 = 1 ∧ owB (nI c) = true then ((1, s.2 ++ [c]), [])
  else if s.1 = 2 ∧ dgB (nI c) = true then ((2, s.2 ++ [c]), [])
  else if s.1 = 3 ∧ c = 61 then ((0, []), [(sg1 (s.2.getD 0 0) + 3, 0, 0)])
  else ((lxS c).1, lxE s ++ (lxS c).2)
def lx : Nat × List Nat → List Nat → (Nat × List Nat) × List Tk
  | s, [] => (s, [])
  | s, c :: u => ((lx (lx1 s c).1 u).1, (lx1 s c).2 ++ (lx (lx1 s c).1 u).2)
def lxB (s : Nat × List Nat) (u : List Nat) : List Tk := (lx s u).2 ++ lxE (lx s u).1
theorem lx_app : ∀ (u v : List Nat) (s : Nat × List Nat), lx s (u ++ v) = ((lx (lx s u).1 v).1, (lx s u).2 ++ (lx (lx s u).1 v).2) := by
  intro u
  induction u with
  | nil => intro v s; rfl
  | cons c u ih =>
    intro v s
    show ((lx (lx1 s c).1 (u ++ v)).1, (lx1 s c).2 ++ (lx (lx1 s c).1 (u ++ v)).2) = ((lx (lx (lx1 s c).1 u).1 v).1, ((lx1 s c).2 ++ (lx (lx1 s c).1 u).2) ++ (lx (lx (lx1 s c).1 u).1 v).2)
    rw [ih v (lx1 s c).1, List.append_assoc]
theorem lxB_app (u v : List Nat) (s : Nat × List Nat) : lxB s (u ++ v) = (lx s u).2 ++ lxB (lx s u).1 v := by
  unfold lxB
  rw [lx_app, List.append_assoc]
theorem lxB_nil (s : Nat × List Nat) : lxB s [] = lxE s := rfl
theorem lxB_cons (s : Nat × List Nat) (c : Nat) (u : List Nat) : lxB s (c :: u) = (lx1 s c).2 ++ lxB (lx1 s c).1 u := by
  show ((lx1 s c).2 ++ (lx (lx1 s c).1 u).2) ++ lxE (lx (lx1 s c).1 u).1 = _
  rw [List.append_assoc]
  rfl
theorem lxB_0 (c : Nat) (u : List Nat) : lxB (0, []) (c :: u) = (lxS c).2 ++ lxB (lxS c).1 u := by
  rw [lxB_cons]
  rfl
/-- what was begun ends ahead of c -/
theorem lxB_fin {s : Nat × List Nat} {c : Nat} (h : lx1 s c = ((lxS c).1, lxE s ++ (lxS c).2)) (u : List Nat) : lxB s (c :: u) = lxE s ++ lxB (0, []) (c :: u) := by
  rw [lxB_cons, h, lxB_0, List.append_assoc]
theorem dropC {L : List Nat} {i : Nat} (h : i < L.length) : L.drop i = L.getD i 0 :: L.drop (i + 1) := by
  rw [List.drop_eq_getElem_cons h, List.getD_eq_getElem?_getD, List.getElem?_eq_getElem h]
  rfl
theorem lx_word {L : List Nat} {q : Nat} (hq : q ≤ L.length) (hn : q < L.length → owB (nI (L.getD q 0)) = false) : ∀ (d i : Nat) (v : List Nat), i + d = q → (∀ j, i ≤ j → j < q → owB (nI (L.getD j 0)) = true) → lxB (1, v) (L.drop i) = wTk (v ++ (L.drop i).take d) :: lxB (0, []) (L.drop q) := by
  intro d
  induction d with
  | zero =>
    intro i v hi hb
    have : i = q := by omega
    subst this
    rw [List.take_zero, List.append_nil]
    rcases Nat.lt_or_ge i L.length with z | z
    · rw [dropC z, lxB_fin]
      · rfl
      · unfold lx1
        rw [if_neg (fun y => by rw [hn z] at y; cases y.2), if_neg (fun y => by cases y.1), if_neg (fun y => by cases y.1)]
    · rw [List.drop_eq_nil_of_le z]
      rfl
  | succ d ih =>
    intro i v hi hb
    rw [dropC (show i < L.length by omega), lxB_cons]
    have e : lx1 (1, v) (L.getD i 0) = ((1, v ++ [L.getD i 0]), []) := by
      unfold lx1
      rw [if_pos ⟨rfl, hb i (Nat.le_refl i) (by omega)⟩]
    rw [e]
    show [] ++ lxB (1, v ++ [L.getD i 0]) (L.drop (i + 1)) = _
    rw [List.nil_append, ih (i + 1) (v ++ [L.getD i 0]) (by omega) (fun j h1 h2 => hb j (by omega) h2), List.take_succ_cons, List.append_assoc]
    rfl
theorem lx_num {L : List Nat} {q : Nat} (hq : q ≤ L.length) (hn : q < L.length → dgB (nI (L.getD q 0)) = false) : ∀ (d i : Nat) (v : List Nat), i + d = q → (∀ j, i ≤ j → j < q → dgB (nI (L.getD j 0)) = true) → lxB (2, v) (L.drop i) = dTk (v ++ (L.drop i).take d) :: lxB (0, []) (L.drop q) := by
  intro d
  induction d with
  | zero =>
    intro i v hi hb
    have : i = q := by omega
    subst this
    rw [List.take_zero, List.append_nil]
    rcases Nat.lt_or_ge i L.length with z | z
    · rw [dropC z, lxB_fin]
      · rfl
      · unfold lx1
        rw [if_neg (fun y => by cases y.1), if_neg (fun y => by rw [hn z] at y; cases y.2), if_neg (fun y => by cases y.1)]
    · rw [List.drop_eq_nil_of_le z]
      rfl
  | succ d ih =>
    intro i v hi hb
    rw [dropC (show i < L.length by omega), lxB_cons]
    have e : lx1 (2, v) (L.getD i 0) = ((2, v ++ [L.getD i 0]), []) := by
      unfold lx1
      rw [if_neg (fun y => by cases y.1), if_pos ⟨rfl, hb i (Nat.le_refl i) (by omega)⟩]
    rw [e]
    show [] ++ lxB (2, v ++ [L.getD i 0]) (L.drop (i + 1)) = _
    rw [List.nil_append, ih (i + 1) (v ++ [L.getD i 0]) (by omega) (fun j h1 h2 => hb j (by omega) h2), List.take_succ_cons, List.append_assoc]
    rfl
theorem lx_blank {L : List Nat} {s : Nat} (hs : s ≤ L.length) : ∀ (d i : Nat), i + d = s → (∀ j, i ≤ j → j < s → blB (nI (L.getD j 0)) = true) → lxB (0, []) (L.drop i) = lxB (0, []) (L.drop s) := by
  intro d
  induction d with
  | zero =>
    intro i hi hb
    rw [show i = s by omega]
  | succ d ih =>
    intro i hi hb
    rw [dropC (show i < L.length by omega), lxB_0]
    have e : lxS (L.getD i 0) = ((0, []), []) := by
      unfold lxS
      rw [if_pos (hb i (Nat.le_refl i) (by omega))]
    rw [e]
    show [] ++ lxB (0, []) (L.drop (i + 1)) = _
    rw [List.nil_append]
    exact ih (i + 1) (by omega) (fun j h1 h2 => hb j (by omega) h2)
theorem take_at {L : List Nat} {s d x : Nat} (hx : x < d) (h : s + d ≤ L.length) : ((L.drop s).take d).getD x 0 = L.getD (s + x) 0 := by
  rw [List.getD_eq_getElem?_getD, List.getElem?_take_of_lt hx, List.getElem?_drop, ← List.getD_eq_getElem?_getD]
theorem take_ln {L : List Nat} {s d : Nat} (h : s + d ≤ L.length) : ((L.drop s).take d).length = d := by
  rw [List.length_take, List.length_drop]
  omega
theorem sg_a : ∀ c, c < 128 → sg1 c < 46 → (29 ≤ sg1 c ∧ sg1 c < 42) ∧ kCh 1 (2 * (sg1 c - 29)) = nI c ∧ kCh 1 (2 * (sg1 c - 29) + 1) = 32 := by decide +kernel
theorem sg_b : ∀ c, c < 128 → ∀ j, j < 15 → (sg1 c < 46 ∧ sg1 c - 29 < j ∧ kCh 1 (2 * j) = nI c) → ((c = 60 ∨ c = 62) ∧ kCh 1 (2 * j + 1) = 61) := by decide +kernel
theorem sg_all (c : Nat) (hc : c < 128) (h : sg1 c < 46) : (29 ≤ sg1 c ∧ sg1 c < 42) ∧ kCh 1 (2 * (sg1 c - 29)) = nI c ∧ kCh 1 (2 * (sg1 c - 29) + 1) = 32 ∧ ∀ j, j < 15 → sg1 c - 29 < j → kCh 1 (2 * j) = nI c → ((c = 60 ∨ c = 62) ∧ kCh 1 (2 * j + 1) = 61) :=
  ⟨(sg_a c hc h).1, (sg_a c hc h).2.1, (sg_a c hc h).2.2, fun j h1 h2 h3 => sg_b c hc j h1 ⟨h, h2, h3⟩⟩
theorem sg_c : ∀ c, c < 128 → (c = 60 ∨ c = 62) → (29 ≤ sg1 c + 3 ∧ sg1 c + 3 < 44 ∧ (sg1 c + 3 = 42 ∨ sg1 c + 3 = 43)) ∧ kCh 1 (2 * (sg1 c + 3 - 29)) = nI c ∧ kCh 1 (2 * (sg1 c + 3 - 29) + 1) = 61 := by decide +kernel
theorem sg_d : ∀ c, c < 128 → ∀ j, j < 15 → ((c = 60 ∨ c = 62) ∧ sg1 c + 3 - 29 < j) → ¬ kCh 1 (2 * j) = nI c := by decide +kernel
theorem sg_two (c : Nat) (hc : c < 128) (h : c = 60 ∨ c = 62) : (29 ≤ sg1 c + 3 ∧ sg1 c + 3 < 44 ∧ (sg1 c + 3 = 42 ∨ sg1 c + 3 = 43)) ∧ kCh 1 (2 * (sg1 c + 3 - 29)) = nI c ∧ kCh 1 (2 * (sg1 c + 3 - 29) + 1) = 61 ∧ ∀ j, j < 15 → sg1 c + 3 - 29 < j → ¬ kCh 1 (2 * j) = nI c :=
  ⟨(sg_c c hc h).1, (sg_c c hc h).2.1, (sg_c c hc h).2.2, fun j h1 h2 => sg_d c hc j h1 ⟨h, h2⟩⟩
theorem sz_sign1 {c : Nat} {g : Int32} {K : Int32 → Unit → Prop} (hc : c < 128) (h : sg1 c < 46) (hg : c = 60 ∨ c = 62 → ¬ g = 61) (k : K (nI (sg1 c)) ()) : wX0_ofSign (nI c) g K := by
  obtain ⟨⟨t1, t2⟩, t3, t4, t5⟩ := sg_all c hc h
  refine sz_ofSign (k := sg1 c) (Or.inr ⟨sg1 c - 29, by omega, by omega, ⟨t3, Or.inl t4⟩, fun j h1 h2 hw => ?_⟩) k
  obtain ⟨u1, u2⟩ := t5 j h2 h1 hw.1
  rcases hw.2 with z | z
  · rw [u2] at z
    exact absurd z (by decide)
  · rw [u2] at z
    exact hg u1 z.symm
theorem sz_sign2 {c : Nat} {K : Int32 → Unit → Prop} (hc : c < 128) (h : c = 60 ∨ c = 62) (k : K (nI (sg1 c + 3)) ()) : wX0_ofSign (nI c) 61 K := by
  obtain ⟨⟨t1, t2, -⟩, t3, t4, t5⟩ := sg_two c hc h
  exact sz_ofSign (k := sg1 c + 3) (Or.inr ⟨sg1 c + 3 - 29, by omega, by omega, ⟨t3, Or.inr t4⟩, fun j h1 h2 hw => t5 j h2 h1 hw.1⟩) k
theorem ch_tab : ∀ c, c < 128 → (smB (nI c) = true → dgB (nI c) = false ∧ blB (nI c) = false ∧ owB (nI c) = true) ∧ (dgB (nI c) = true → blB (nI c) = false) ∧ ((c = 60 ∨ c = 62) → blB (nI c) = false ∧ smB (nI c) = false ∧ dgB (nI c) = false) ∧ nI c ≠ -1 := by decide +kernel
section LEX
variable {A : Nat → Int32} {L : List Nat}
/-- the text's letters as the tape has them -/
abbrev tpM (L : List Nat) : Nat → Int32 := fun i => nI (L.getD i 0)
theorem bv_at {i : Nat} (h : i < L.length) : bv (tpM L) L.length i = nI (L.getD i 0) := if_pos h
theorem bv_end {i : Nat} (h : L.length ≤ i) : bv (tpM L) L.length i = -1 := if_neg (by omega)
theorem kw_iff {s d k : Nat} (h : s + d ≤ L.length) : kwB ((L.drop s).take d) k = true ↔ kwM (fun x => bv (tpM L) L.length (s + x)) d k := by
  unfold kwB kwM
  rw [take_ln h, Bool.and_eq_true, decide_eq_true_eq, List.all_eq_true]
  constructor
  · rintro ⟨h1, h2⟩
    refine ⟨h1, fun x hx => ?_⟩
    have := of_decide_eq_true (h2 x (List.mem_range.mpr hx))
    rw [take_at hx h] at this
    show bv (tpM L) L.length (s + x) = _
    rw [bv_at (by omega)]
    exact this
  · rintro ⟨h1, h2⟩
    refine ⟨h1, fun x hx => ?_⟩
    have hx := List.mem_range.mp hx
    rw [decide_eq_true_eq, take_at hx h]
    have := h2 x hx
    have : bv (tpM L) L.length (s + x) = kCh 0 (7 * k + x) := this
    rw [bv_at (by omega)] at this
    exact this
theorem kwF_ok {s d : Nat} (h : s + d ≤ L.length) : (kwF ((L.drop s).take d) = 44 ∧ ∀ j, j < 29 → ¬ kwM (fun x => bv (tpM L) L.length (s + x)) d j) ∨ (kwF ((L.drop s).take d) < 29 ∧ kwM (fun x => bv (tpM L) L.length (s + x)) d (kwF ((L.drop s).take d)) ∧ ∀ j, j < kwF ((L.drop s).take d) → ¬ kwM (fun x => bv (tpM L) L.length (s + x)) d j) := by
  unfold kwF
  have hno : ∀ j, j < fa_first (kwB ((L.drop s).take d)) 29 → ¬ kwM (fun x => bv (tpM L) L.length (s + x)) d j := fun j hj hw => by
    have h1 := fa_first_no (kwB ((L.drop s).take d)) 29 j hj
    rw [(kw_iff h).mpr hw] at h1
    cases h1
  by_cases z : fa_first (kwB ((L.drop s).take d)) 29 < 29
  · rw [if_pos z]
    exact Or.inr ⟨z, (kw_iff h).mp (fa_first_yes _ _ z), hno⟩
  · rw [if_neg z]
    exact Or.inl ⟨rfl, fun j hj => hno j (by omega)⟩
/-- what reading one token does -/
def tkR (A : Nat → Int32) (L : List Nat) (s q : Nat) (a : Tk) : Prop := ∀ (c : Nat) (nu : Nat → Int32) (na : Nat → Int64) (K : Int32 → ((Nat → Int32) × (Nat → Int64) × Int32) → Prop), c < 400 → (∀ nu' na', (∀ i, i ≠ c → nu' i = nu i ∧ na' i = na i) → (a.1 = 45 → nu' c = nI a.2.1) → (a.1 = 44 → na' c = lN a.2.2) → K (nI a.1) (nu', na', nI q)) → wX6_readToken A (nI L.length) nu na (nI c) (nI s) (bv (tpM L) L.length s) K
theorem tkR_word (r : rA A (tpM L) L.length) (hl : L.length ≤ 2000) {s q kd : Nat} (hsq : s < q) (q2 : q ≤ L.length) (q3 : ∀ i, s ≤ i → i < q → owB (bv (tpM L) L.length i) = true) (q4 : owB (bv (tpM L) L.length q) = false) (z0 : bv (tpM L) L.length s ≠ -1) (z1 : smB (bv (tpM L) L.length s) = true) (w10 : q - s ≤ 10) (hk : (kd = 44 ∧ ∀ j, j < 29 → ¬ kwM (fun x => bv (tpM L) L.length (s + x)) (q - s) j) ∨ (kd < 29 ∧ kwM (fun x => bv (tpM L) L.length (s + x)) (q - s) kd ∧ ∀ j, j < kd → ¬ kwM (fun x => bv (tpM L) L.length (s + x)) (q - s) j)) : tkR A L s q (kd, 0, if kd = 44 then fw 37 cD (fun x => bv (tpM L) L.length (s + x)) (q - s) else 0) := by
  intro c nu na K hc4 kk
  unfold wX6_readToken
  refine ⟨fun _ => ⟨fun _ => sz_isLetter ?_, fun y => absurd (nI_lt hc4 (by decide)) y⟩, fun y => absurd y z0⟩
  rw [z1]
  refine br_f (by decide) (sz_readWord r hl (kd := kd) (by omega) (by omega) q2 q3 q4 (fun _ => hk) ?_)
  rw [if_pos w10]
  have kk2 := kk nu (vp_updL na c (wnC (tpM L) L.length s q)) (fun i hi => ⟨rfl, upL_ne hi⟩)
  refine kk2 (fun y => ?_) (fun y => ?_)
  · have y' : kd = 45 := y
    rcases hk with h | h
    · have := h.1; omega
    · have := h.1; omega
  · have y' : kd = 44 := y
    show vp_updL na c (wnC (tpM L) L.length s q) c = lN (if kd = 44 then fw 37 cD (fun x => bv (tpM L) L.length (s + x)) (q - s) else 0)
    rw [if_pos y', upL_eq]
    rfl
theorem tkR_num (r : rA A (tpM L) L.length) (hl : L.length ≤ 2000) {s q : Nat} (hsq : s < q) (q2 : q ≤ L.length) (q3 : ∀ i, s ≤ i → i < q → dgB (bv (tpM L) L.length i) = true) (q4 : dgB (bv (tpM L) L.length q) = false) (z0 : bv (tpM L) L.length s ≠ -1) (z1 : smB (bv (tpM L) L.length s) = false) (z2 : dgB (bv (tpM L) L.length s) = true) (w6 : q - s ≤ 6) : tkR A L s q (45, fw 10 nD (fun x => bv (tpM L) L.length (s + x)) (q - s), 0) := by
  intro c nu na K hc4 kk
  unfold wX6_readToken
  refine ⟨fun _ => ⟨fun _ => sz_isLetter ?_, fun y => absurd (nI_lt hc4 (by decide)) y⟩, fun y => absurd y z0⟩
  rw [z1]
  refine br_t rfl (sz_isDigit ?_)
  rw [z2]
  refine br_f (by decide) (sz_readNumber r hl (by omega) (by omega) q2 q3 q4 ?_)
  rw [if_pos w6]
  have kk2 := kk (upd nu c (nI (wnum (tpM L) L.length s q))) na (fun i hi => ⟨un hi, rfl⟩)
  exact kk2 (fun _ => us) (fun y => absurd (show (45 : Nat) = 44 from y) (by decide))
theorem tkR_sign (r : rA A (tpM L) L.length) (hl : L.length ≤ 2000) {s q k : Nat} (hs : s < L.length) (z0 : bv (tpM L) L.length s ≠ -1) (z1 : smB (bv (tpM L) L.length s) = false) (z2 : dgB (bv (tpM L) L.length s) = false) (k46 : k < 46) (k45 : k ≠ 45) (k44 : k ≠ 44) (hS : ∀ K : Int32 → Unit → Prop, K (nI k) () → wX0_ofSign (bv (tpM L) L.length s) (bv (tpM L) L.length (s + 1)) K) (hq : q = s + (if k = 42 ∨ k = 43 then 2 else 1)) : tkR A L s q (k, 0, 0) := by
  intro c nu na K hc4 kk
  unfold wX6_readToken
  refine ⟨fun _ => ⟨fun _ => sz_isLetter ?_, fun y => absurd (nI_lt hc4 (by decide)) y⟩, fun y => absurd y z0⟩
  rw [z1]
  refine br_t rfl (sz_isDigit ?_)
  rw [z2]
  refine br_t rfl ?_
  rw [nI_1]
  refine sz_byteAt r hl (by omega) (hS _ ?_)
  have kk' := kk nu na (fun _ _ => ⟨rfl, rfl⟩) (fun y => absurd y k45) (fun y => absurd y k44)
  have kk' : K (nI k) (nu, na, nI q) := kk'
  unfold wX0_lengthOfSign
  have n42 : nI k = 42 ↔ k = 42 := nI_eq (by omega) (by decide)
  have n43 : nI k = 43 ↔ k = 43 := nI_eq (by omega) (by decide)
  by_cases y1 : k = 42
  · rw [if_pos (Or.inl y1)] at hq
    refine br_t (n42.mpr y1) ?_
    show K (nI k) (nu, na, nI s + 2)
    rw [show nI s + 2 = nI (s + 2) from nI_add s 2, ← hq]
    exact kk'
  · refine br_f (fun y => y1 (n42.mp y)) ?_
    by_cases y2 : k = 43
    · rw [if_pos (Or.inr y2)] at hq
      refine bn_t (n43.mpr y2) ?_
      show K (nI k) (nu, na, nI s + 2)
      rw [show nI s + 2 = nI (s + 2) from nI_add s 2, ← hq]
      exact kk'
    · rw [if_neg (fun y => y.elim y1 y2)] at hq
      refine bn_f (fun y => y2 (n43.mp y)) ?_
      show K (nI k) (nu, na, nI s + 1)
      rw [nI_1, ← hq]
      exact kk'
/-- one token cut off at s -/
def cutA (A : Nat → Int32) (L : List Nat) (s : Nat) : Prop := ∃ a q, q ≤ L.length ∧ lxB (0, []) (L.drop s) = a :: lxB (0, []) (L.drop q) ∧ (a.1 < 46 → tkR A L s q a)
theorem cut_word (r : rA A (tpM L) L.length) (hl : L.length ≤ 2000) {s : Nat} (hs : s < L.length) (s4 : blB (nI (L.getD s 0)) = false) (t4 : nI (L.getD s 0) ≠ -1) (u3 : owB (nI (L.getD s 0)) = true) (z1 : smB (nI (L.getD s 0)) = true) : cutA A L s := by
  have e0 := bv_at hs
  obtain ⟨q, q1, q2, q3, q4⟩ := run_ex (M := tpM L) (len := L.length) owB (by decide) (L.length - s) s (by omega)
  have hq : s < q := by
    rcases Nat.lt_or_ge s q with y | y
    · exact y
    · have : s = q := by omega
      rw [← this, e0, u3] at q4
      cases q4
  have q3' : ∀ j, s ≤ j → j < q → owB (nI (L.getD j 0)) = true := fun j h1 h2 => by
    have := q3 j h1 h2
    rw [bv_at (by omega)] at this
    exact this
  have q4' : q < L.length → owB (nI (L.getD q 0)) = false := fun y => by
    rw [bv_at y] at q4
    exact q4
  have sd : s + (q - s) ≤ L.length := by omega
  refine ⟨wTk ((L.drop s).take (q - s)), q, q2, ?_, fun ha => ?_⟩
  · rw [dropC hs, lxB_0]
    have e : lxS (L.getD s 0) = ((1, [L.getD s 0]), []) := by
      unfold lxS
      rw [if_neg (by rw [s4]; decide), if_pos z1]
    rw [e]
    show [] ++ lxB (1, [L.getD s 0]) (L.drop (s + 1)) = _
    rw [List.nil_append, lx_word q2 q4' (q - (s + 1)) (s + 1) _ (by omega) (fun j h1 h2 => q3' j (by omega) h2)]
    rw [show q - s = (q - (s + 1)) + 1 by omega, List.take_succ_cons]
    rfl
  · have w10 : q - s ≤ 10 := by
      rcases Nat.lt_or_ge 10 (q - s) with y | y
      · exfalso
        have e : (wTk ((L.drop s).take (q - s))).1 = 48 := by
          unfold wTk
          rw [take_ln sd, if_neg (by omega)]
        rw [e] at ha
        exact absurd ha (by decide)
      · exact y
    have ew : wTk ((L.drop s).take (q - s)) = (kwF ((L.drop s).take (q - s)), 0, if kwF ((L.drop s).take (q - s)) = 44 then fw 37 cD (fun x => bv (tpM L) L.length (s + x)) (q - s) else 0) := by
      unfold wTk
      rw [take_ln sd, if_pos w10, fw_eq (b := 37) (d := cD) (g := fun i => nI (((L.drop s).take (q - s)).getD i 0)) (h := fun x => bv (tpM L) L.length (s + x)) (q - s) (fun i hi => ?_)]
      show nI (((L.drop s).take (q - s)).getD i 0) = bv (tpM L) L.length (s + i)
      rw [take_at hi sd, bv_at (by omega)]
    rw [ew]
    exact tkR_word r hl hq q2 q3 q4 (by rw [e0]; exact t4) (by rw [e0]; exact z1) w10 (kwF_ok sd)
theorem cut_num (r : rA A (tpM L) L.length) (hl : L.length ≤ 2000) {s : Nat} (hs : s < L.length) (s4 : blB (nI (L.getD s 0)) = false) (t4 : nI (L.getD s 0) ≠ -1) (z1 : smB (nI (L.getD s 0)) = false) (z2 : dgB (nI (L.getD s 0)) = true) : cutA A L s := by
  have e0 := bv_at hs
  obtain ⟨q, q1, q2, q3, q4⟩ := run_ex (M := tpM L) (len := L.length) dgB (by decide) (L.length - s) s (by omega)
  have hq : s < q := by
    rcases Nat.lt_or_ge s q with y | y
    · exact y
    · have : s = q := by omega
      rw [← this, e0, z2] at q4
      cases q4
  have q3' : ∀ j, s ≤ j → j < q → dgB (nI (L.getD j 0)) = true := fun j h1 h2 => by
    have := q3 j h1 h2
    rw [bv_at (by omega)] at this
    exact this
  have q4' : q < L.length → dgB (nI (L.getD q 0)) = false := fun y => by
    rw [bv_at y] at q4
    exact q4
  have sd : s + (q - s) ≤ L.length := by omega
  refine ⟨dTk ((L.drop s).take (q - s)), q, q2, ?_, fun ha => ?_⟩
  · rw [dropC hs, lxB_0]
    have e : lxS (L.getD s 0) = ((2, [L.getD s 0]), []) := by
      unfold lxS
      rw [if_neg (by rw [s4]; decide), if_neg (by rw [z1]; decide), if_pos z2]
    rw [e]
    show [] ++ lxB (2, [L.getD s 0]) (L.drop (s + 1)) = _
    rw [List.nil_append, lx_num q2 q4' (q - (s + 1)) (s + 1) _ (by omega) (fun j h1 h2 => q3' j (by omega) h2)]
    rw [show q - s = (q - (s + 1)) + 1 by omega, List.take_succ_cons]
    rfl
  · have w6 : q - s ≤ 6 := by
      rcases Nat.lt_or_ge 6 (q - s) with y | y
      · exfalso
        have e : (dTk ((L.drop s).take (q - s))).1 = 48 := by
          unfold dTk
          rw [take_ln sd, if_neg (by omega)]
        rw [e] at ha
        exact absurd ha (by decide)
      · exact y
    have ew : dTk ((L.drop s).take (q - s)) = (45, fw 10 nD (fun x => bv (tpM L) L.length (s + x)) (q - s), 0) := by
      unfold dTk
      rw [take_ln sd, if_pos w6, fw_eq (b := 10) (d := nD) (g := fun i => nI (((L.drop s).take (q - s)).getD i 0)) (h := fun x => bv (tpM L) L.length (s + x)) (q - s) (fun i hi => ?_)]
      show nI (((L.drop s).take (q - s)).getD i 0) = bv (tpM L) L.length (s + i)
      rw [take_at hi sd, bv_at (by omega)]
    rw [ew]
    exact tkR_num r hl hq q2 q3 q4 (by rw [e0]; exact t4) (by rw [e0]; exact z1) (by rw [e0]; exact z2) w6
theorem cut_two (r : rA A (tpM L) L.length) (hl : L.length ≤ 2000) (hL : ∀ i, i < L.length → L.getD i 0 < 128) {s : Nat} (hs : s < L.length) (s4 : blB (nI (L.getD s 0)) = false) (t4 : nI (L.getD s 0) ≠ -1) (z1 : smB (nI (L.getD s 0)) = false) (z2 : dgB (nI (L.getD s 0)) = false) (z3 : L.getD s 0 = 60 ∨ L.getD s 0 = 62) : cutA A L s := by
  have e0 := bv_at hs
  have hc := hL s hs
  have el : lxS (L.getD s 0) = ((3, [L.getD s 0]), []) := by
    unfold lxS
    rw [if_neg (by rw [s4]; decide), if_neg (by rw [z1]; decide), if_neg (by rw [z2]; decide), if_pos z3]
  have hsg : sg1 (L.getD s 0) < 46 ∧ sg1 (L.getD s 0) ≠ 42 ∧ sg1 (L.getD s 0) ≠ 43 ∧ sg1 (L.getD s 0) ≠ 44 ∧ sg1 (L.getD s 0) ≠ 45 := by
    rcases z3 with y | y <;> rw [y] <;> decide
  by_cases z4 : s + 1 < L.length ∧ L.getD (s + 1) 0 = 61
  · refine ⟨(sg1 (L.getD s 0) + 3, 0, 0), s + 2, by omega, ?_, fun _ => ?_⟩
    · rw [dropC hs, lxB_0, el, dropC z4.1]
      show [] ++ lxB (3, [L.getD s 0]) (L.getD (s + 1) 0 :: L.drop (s + 1 + 1)) = _
      rw [List.nil_append, lxB_cons]
      have e1 : lx1 (3, [L.getD s 0]) (L.getD (s + 1) 0) = ((0, []), [(sg1 (L.getD s 0) + 3, 0, 0)]) := by
        unfold lx1
        rw [if_neg (fun y => by cases y.1), if_neg (fun y => by cases y.1), if_pos ⟨rfl, z4.2⟩]
        rfl
      rw [e1]
      rfl
    · obtain ⟨⟨-, u2, u3⟩, -⟩ := sg_two _ hc z3
      refine tkR_sign r hl hs (by rw [e0]; exact t4) (by rw [e0]; exact z1) (by rw [e0]; exact z2) (by omega) (by omega) (by omega) (fun K k => ?_) (by rw [if_pos u3])
      rw [e0, bv_at z4.1, z4.2]
      exact sz_sign2 hc z3 k
  · refine ⟨(sg1 (L.getD s 0), 0, 0), s + 1, by omega, ?_, fun _ => ?_⟩
    · rw [dropC hs, lxB_0, el]
      show [] ++ lxB (3, [L.getD s 0]) (L.drop (s + 1)) = _
      rw [List.nil_append]
      rcases Nat.lt_or_ge (s + 1) L.length with y | y
      · rw [dropC y, lxB_fin]
        · rfl
        · unfold lx1
          rw [if_neg (fun y => by cases y.1), if_neg (fun y => by cases y.1), if_neg (fun w => z4 ⟨y, w.2⟩)]
      · rw [List.drop_eq_nil_of_le y]
        rfl
    · refine tkR_sign r hl hs (by rw [e0]; exact t4) (by rw [e0]; exact z1) (by rw [e0]; exact z2) hsg.1 hsg.2.2.2.2 hsg.2.2.2.1 (fun K k => ?_) (by rw [if_neg (fun y => y.elim hsg.2.1 hsg.2.2.1)])
      rw [e0]
      refine sz_sign1 hc hsg.1 (fun _ hg => ?_) k
      rcases Nat.lt_or_ge (s + 1) L.length with y | y
      · rw [bv_at y] at hg
        have h8 := hL (s + 1) y
        exact z4 ⟨y, (nI_eq (by omega) (by decide)).mp (show nI (L.getD (s + 1) 0) = nI 61 from hg)⟩
      · rw [bv_end y] at hg
        exact absurd hg (by decide)
theorem cut_one (r : rA A (tpM L) L.length) (hl : L.length ≤ 2000) (hL : ∀ i, i < L.length → L.getD i 0 < 128) {s : Nat} (hs : s < L.length) (s4 : blB (nI (L.getD s 0)) = false) (t4 : nI (L.getD s 0) ≠ -1) (z1 : smB (nI (L.getD s 0)) = false) (z2 : dgB (nI (L.getD s 0)) = false) (z3 : ¬ (L.getD s 0 = 60 ∨ L.getD s 0 = 62)) : cutA A L s := by
  have e0 := bv_at hs
  have hc := hL s hs
  refine ⟨(sg1 (L.getD s 0), 0, 0), s + 1, by omega, ?_, fun ha => ?_⟩
  · have el : lxS (L.getD s 0) = ((0, []), [(sg1 (L.getD s 0), 0, 0)]) := by
      unfold lxS
      rw [if_neg (by rw [s4]; decide), if_neg (by rw [z1]; decide), if_neg (by rw [z2]; decide), if_neg z3]
    rw [dropC hs, lxB_0, el]
    rfl
  · have ha : sg1 (L.getD s 0) < 46 := ha
    have h42 := (sg_all _ hc ha).1
    exact tkR_sign r hl hs (by rw [e0]; exact t4) (by rw [e0]; exact z1) (by rw [e0]; exact z2) ha (by omega) (by omega) (fun K k => by rw [e0]; exact sz_sign1 hc ha (fun y => absurd y z3) k) (by rw [if_neg (by omega)])
theorem lex_cut (r : rA A (tpM L) L.length) (hl : L.length ≤ 2000) (hL : ∀ i, i < L.length → L.getD i 0 < 128) {p : Nat} (hp : p ≤ L.length) : ∃ s, p ≤ s ∧ s ≤ L.length ∧ (∀ i, p ≤ i → i < s → blB (bv (tpM L) L.length i) = true) ∧ blB (bv (tpM L) L.length s) = false ∧ lxB (0, []) (L.drop p) = lxB (0, []) (L.drop s) ∧ ((s = L.length ∧ lxB (0, []) (L.drop s) = []) ∨ (s < L.length ∧ cutA A L s)) := by
  obtain ⟨s, s1, s2, s3, s4⟩ := run_ex (M := tpM L) (len := L.length) blB (by decide) (L.length - p) p (by omega)
  have eb : lxB (0, []) (L.drop p) = lxB (0, []) (L.drop s) := lx_blank s2 (s - p) p (by omega) (fun j h1 h2 => by
    have := s3 j h1 h2
    rw [bv_at (by omega)] at this
    exact this)
  refine ⟨s, s1, s2, s3, s4, eb, ?_⟩
  rcases Nat.lt_or_ge s L.length with hs | hs
  · refine Or.inr ⟨hs, ?_⟩
    have hc := hL s hs
    obtain ⟨t1, t2, t3, t4⟩ := ch_tab _ hc
    rw [bv_at hs] at s4
    by_cases z1 : smB (nI (L.getD s 0)) = true
    · exact cut_word r hl hs s4 t4 (t1 z1).2.2 z1
    · have z1 : smB (nI (L.getD s 0)) = false := by simpa using z1
      by_cases z2 : dgB (nI (L.getD s 0)) = true
      · exact cut_num r hl hs s4 t4 z1 z2
      · have z2 : dgB (nI (L.getD s 0)) = false := by simpa using z2
        by_cases z3 : L.getD s 0 = 60 ∨ L.getD s 0 = 62
        · exact cut_two r hl hL hs s4 t4 z1 z2 z3
        · exact cut_one r hl hL hs s4 t4 z1 z2 z3
  · refine Or.inl ⟨by omega, ?_⟩
    rw [List.drop_eq_nil_of_le hs]
    rfl
def tkO (a : Tk) (ki nu : Nat → Int32) (na : Nat → Int64) (i : Nat) : Prop := ki i = nI a.1 ∧ (a.1 = 45 → nu i = nI a.2.1) ∧ (a.1 = 44 → na i = lN a.2.2)
abbrev KRA : Type := ((Nat → Int32) × (Nat → Int32) × (Nat → Int32) × (Nat → Int64) × Int32 × Int32) → Prop
theorem lex_run (r : rA A (tpM L) L.length) (hl : L.length ≤ 2000) (hL : ∀ i, i < L.length → L.getD i 0 < 128) {K : KRA} : ∀ (ts : List Tk) (p c : Nat) (ki st nu : Nat → Int32) (na : Nat → Int64) (x1 : Int32), p ≤ L.length → lxB (0, []) (L.drop p) = ts → (∀ a, a ∈ ts → a.1 < 46) → c + ts.length ≤ 400 → ¬ x1 = 47 → ¬ x1 = 48 →
    (∀ ki' st' nu' na' nx, (∀ i, i < c → ki' i = ki i ∧ nu' i = nu i ∧ na' i = na i) → (∀ i, i < ts.length → tkO (ts.getD i (0, 0, 0)) ki' nu' na' (c + i)) → ki' (c + ts.length) = nI 47 → K (ki', st', nu', na', nI (c + ts.length + 1), nx)) → wX6_readAll_13 K A (nI L.length) (ts.length + 2) ki st nu na (nI c) (nI p) x1 := by
  intro ts
  induction ts with
  | nil =>
    intro p c ki st nu na x1 hp ht ha hc n47 n48 kk
    obtain ⟨s, s1, s2, s3, s4, eb, s5⟩ := lex_cut r hl hL hp
    have hc : c ≤ 400 := hc
    have hs : s = L.length := by
      rcases s5 with h | ⟨-, a, q, -, h, -⟩
      · exact h.1
      · rw [← eb, ht] at h; cases h
    unfold wX6_readAll_13
    refine br_f (nI_nlt (a := 400) (b := c) hc (by decide)) (br_f n47 (br_f n48 (sz_skip r hl s1 s2 s3 s4 ⟨vp_in_nI (by omega) (by decide), sz_byteAt r hl (by omega) ?_⟩)))
    rw [hs, bv_end (Nat.le_refl _)]
    unfold wX6_readToken
    refine bn_t rfl ⟨vp_in_nI (by omega) (by decide), ?_⟩
    have fin := kk (upd ki c (nI 47)) (upd st c (nI L.length)) nu na (nI L.length) (fun i hi => ⟨un (by omega), rfl, rfl⟩) (fun i hi => absurd hi (Nat.not_lt_zero i)) us
    rw [nI_clamp (by omega), nI_1]
    unfold wX6_readAll_13
    by_cases z : 400 < c + 1
    · exact br_t (nI_lt (a := 400) z (by omega)) fin
    · exact br_f (nI_nlt (a := 400) (b := c + 1) (by omega) (by decide)) (br_t rfl fin)
  | cons a ts ih =>
    intro p c ki st nu na x1 hp ht ha hc n47 n48 kk
    obtain ⟨s, s1, s2, s3, s4, eb, s5⟩ := lex_cut r hl hL hp
    rw [eb] at ht
    have hlen : (a :: ts).length = ts.length + 1 := rfl
    rw [hlen] at hc kk ⊢
    rcases s5 with ⟨-, h⟩ | ⟨hs, a', q, hq, h, hR⟩
    · rw [ht] at h; cases h
    · rw [ht] at h
      obtain ⟨rfl, e2⟩ := List.cons.inj h
      have a46 := ha a List.mem_cons_self
      show wX6_readAll_13 K A (nI L.length) ((ts.length + 2) + 1) ki st nu na (nI c) (nI p) x1
      rw [wX6_readAll_13]
      refine br_f (nI_nlt (a := 400) (b := c) (by omega) (by decide)) (br_f n47 (br_f n48 (sz_skip r hl s1 s2 s3 s4 ⟨vp_in_nI (by omega) (by decide), sz_byteAt r hl (by omega) ?_⟩)))
      refine hR a46 c nu na _ (by omega) (fun nu' na' h1 h2 h3 => ⟨vp_in_nI (by omega) (by decide), ?_⟩)
      rw [nI_clamp (by omega), nI_1]
      have n1 : ∀ j : Nat, 46 ≤ j → j < 100 → ¬ nI a.1 = nI j := fun j h1 h2 h3 => by
        have := (nI_eq (by omega) (by omega)).mp h3
        omega
      refine ih q (c + 1) _ _ nu' na' _ hq e2.symm (fun b hb => ha b (List.mem_cons_of_mem _ hb)) (by omega) (n1 47 (by decide) (by decide)) (n1 48 (by decide) (by decide)) (fun ki2 st2 nu2 na2 nx g1 g2 g3 => ?_)
      rw [show c + 1 + ts.length = c + (ts.length + 1) by omega] at g3 ⊢
      refine kk ki2 st2 nu2 na2 nx (fun i hi => ?_) (fun i hi => ?_) g3
      · obtain ⟨w1, w2, w3⟩ := g1 i (by omega)
        rw [w1, w2, w3, un (by omega), (h1 i (by omega)).1, (h1 i (by omega)).2]
        exact ⟨rfl, rfl, rfl⟩
      · cases i with
        | zero =>
          obtain ⟨w1, w2, w3⟩ := g1 c (by omega)
          show tkO a ki2 nu2 na2 (c + 0)
          rw [Nat.add_zero]
          refine ⟨by rw [w1, us], fun y => by rw [w2]; exact h2 y, fun y => by rw [w3]; exact h3 y⟩
        | succ i =>
          have := g2 i (by omega)
          rw [show c + 1 + i = c + (i + 1) by omega] at this
          exact this
theorem sz_readAll {K : KRA} (r : rA A (tpM L) L.length) (hl : L.length ≤ 2000) (hL : ∀ i, i < L.length → L.getD i 0 < 128) {ki st nu : Nat → Int32} {na : Nat → Int64} {y0 y1 : Int32} (ha : ∀ a, a ∈ lxB (0, []) L → a.1 < 46) (hc : (lxB (0, []) L).length ≤ 400)
    (kk : ∀ ki' st' nu' na' nx, (∀ i, i < (lxB (0, []) L).length → tkO ((lxB (0, []) L).getD i (0, 0, 0)) ki' nu' na' i) → ki' (lxB (0, []) L).length = nI 47 → K (ki', st', nu', na', nI ((lxB (0, []) L).length + 1), nx)) : wX6_readAll A (nI L.length) ki st nu na y0 y1 K := by
  unfold wX6_readAll
  refine ⟨(lxB (0, []) L).length + 2, lex_run r hl hL (lxB (0, []) L) 0 0 ki st nu na 34 (Nat.zero_le _) (by rw [List.drop_zero]) ha (by omega) (by decide) (by decide) (fun ki' st' nu' na' nx h1 h2 h3 => ?_)⟩
  rw [Nat.zero_add] at h3 ⊢
  refine kk ki' st' nu' na' nx (fun i hi => ?_) h3
  have := h2 i hi
  rw [Nat.zero_add] at this
  exact this
end LEX
