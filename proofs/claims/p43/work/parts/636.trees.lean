/-! PURE: the tokens of a tree; the class reads them as its steps. -/
abbrev t0 (k : Nat) : Tk := (k, 0, 0)
def pT (l : List Tk) : List Tk := t0 29 :: (l ++ [t0 30])
def bT (l : List Tk) : List Tk := t0 31 :: (l ++ [t0 32])
def qT (l u : List Tk) : List Tk := t0 29 :: (l ++ (t0 34 :: (u ++ [t0 30])))
def tkT : (d : Nat) → Tr d → List Tk
  | 0, _ => []
  | d + 1, x => match trQ x with
    | 0 => [(45, trN x, 0)]
    | 1 => [t0 15]
    | 2 => [t0 16]
    | 3 => [t0 17]
    | 4 => [t0 18]
    | 5 => [t0 19, t0 10, (44, 0, 556 + trN x)]
    | 6 => [t0 20, t0 10, (44, 0, 556 + trN x)]
    | 7 => t0 21 :: pT (tkT d (trL x))
    | 8 => t0 36 :: pT (tkT d (trL x))
    | 9 => pT (tkT d (trL x)) ++ (t0 35 :: pT (tkT d (trR x)))
    | 10 => pT (tkT d (trL x)) ++ (t0 36 :: pT (tkT d (trR x)))
    | 11 => pT (tkT d (trL x)) ++ (t0 37 :: pT (tkT d (trR x)))
    | 12 => pT (tkT d (trL x)) ++ (t0 38 :: pT (tkT d (trR x)))
    | 13 => t0 27 :: qT (tkT d (trL x)) (tkT d (trR x))
    | 14 => t0 28 :: qT (tkT d (trL x)) (tkT d (trR x))
    | 20 => tkT d (trL x) ++ (t0 39 :: tkT d (trR x))
    | 21 => tkT d (trL x) ++ (t0 40 :: tkT d (trR x))
    | 22 => tkT d (trL x) ++ (t0 41 :: tkT d (trR x))
    | 23 => tkT d (trL x) ++ (t0 42 :: tkT d (trR x))
    | 24 => tkT d (trL x) ++ (t0 43 :: tkT d (trR x))
    | 25 => [t0 22, (44, 0, 556 + trN x)]
    | 26 => t0 23 :: tkT d (trL x)
    | 29 => t0 24 :: bT (tkT d (trL x))
    | 30 => bT (tkT d (trL x)) ++ (t0 25 :: bT (tkT d (trR x)))
    | _ => bT (tkT d (trL x)) ++ (t0 26 :: bT (tkT d (trR x)))
theorem pT_len (l : List Tk) : (pT l).length = 1 + (l.length + 1) := by
  show (l ++ [t0 30]).length + 1 = _
  rw [List.length_append]
  exact Nat.add_comm _ _
theorem bT_len (l : List Tk) : (bT l).length = 1 + (l.length + 1) := by
  show (l ++ [t0 32]).length + 1 = _
  rw [List.length_append]
  exact Nat.add_comm _ _
theorem qT_len (l u : List Tk) : (qT l u).length = 1 + (l.length + (1 + (u.length + 1))) := by
  show (l ++ (t0 34 :: (u ++ [t0 30]))).length + 1 = _
  rw [List.length_append]
  show l.length + ((u ++ [t0 30]).length + 1) + 1 = _
  rw [List.length_append]
  show l.length + ((u.length + 1) + 1) + 1 = _
  omega
theorem c_len {a : Tk} (l : List Tk) : (a :: l).length = 1 + l.length := Nat.add_comm _ _
theorem w_d {e d : Nat} {b : Bool} {x : Tr d} (h : trW e d b x) : 1 ≤ d := by
  cases d with
  | zero => exact h.elim
  | succ d => omega
theorem tk_0 {d : Nat} {x : Tr (d + 1)} (e : trQ x = 0) : tkT (d + 1) x = [(45, trN x, 0)] ∧ pf (d + 1) x = [(45, nI (trN x))] := by
  have ha : arK (cK (trQ x)) = 0 := by rw [e]; rfl
  refine ⟨by rw [tkT, e]; rfl, ?_⟩
  rw [pf, ha, e]
  rfl
theorem tk_1 {d : Nat} {x : Tr (d + 1)} (e : trQ x = 1) : tkT (d + 1) x = [t0 15] ∧ pf (d + 1) x = [(15, 0)] := by
  have ha : arK (cK (trQ x)) = 0 := by rw [e]; rfl
  refine ⟨by rw [tkT, e]; rfl, ?_⟩
  rw [pf, ha, e]
  rfl
theorem tk_2 {d : Nat} {x : Tr (d + 1)} (e : trQ x = 2) : tkT (d + 1) x = [t0 16] ∧ pf (d + 1) x = [(16, 0)] := by
  have ha : arK (cK (trQ x)) = 0 := by rw [e]; rfl
  refine ⟨by rw [tkT, e]; rfl, ?_⟩
  rw [pf, ha, e]
  rfl
theorem tk_3 {d : Nat} {x : Tr (d + 1)} (e : trQ x = 3) : tkT (d + 1) x = [t0 17] ∧ pf (d + 1) x = [(17, 0)] := by
  have ha : arK (cK (trQ x)) = 0 := by rw [e]; rfl
  refine ⟨by rw [tkT, e]; rfl, ?_⟩
  rw [pf, ha, e]
  rfl
theorem tk_4 {d : Nat} {x : Tr (d + 1)} (e : trQ x = 4) : tkT (d + 1) x = [t0 18] ∧ pf (d + 1) x = [(18, 0)] := by
  have ha : arK (cK (trQ x)) = 0 := by rw [e]; rfl
  refine ⟨by rw [tkT, e]; rfl, ?_⟩
  rw [pf, ha, e]
  rfl
theorem tk_5 {d : Nat} {x : Tr (d + 1)} (e : trQ x = 5) : tkT (d + 1) x = [t0 19, t0 10, (44, 0, 556 + trN x)] ∧ pf (d + 1) x = [(19, nI (trN x))] := by
  have ha : arK (cK (trQ x)) = 0 := by rw [e]; rfl
  refine ⟨by rw [tkT, e]; rfl, ?_⟩
  rw [pf, ha, e]
  rfl
theorem tk_6 {d : Nat} {x : Tr (d + 1)} (e : trQ x = 6) : tkT (d + 1) x = [t0 20, t0 10, (44, 0, 556 + trN x)] ∧ pf (d + 1) x = [(20, nI (trN x))] := by
  have ha : arK (cK (trQ x)) = 0 := by rw [e]; rfl
  refine ⟨by rw [tkT, e]; rfl, ?_⟩
  rw [pf, ha, e]
  rfl
theorem tk_7 {d : Nat} {x : Tr (d + 1)} (e : trQ x = 7) : tkT (d + 1) x = t0 21 :: pT (tkT d (trL x)) ∧ pf (d + 1) x = pf d (trL x) ++ [(21, 0)] := by
  have ha : arK (cK (trQ x)) = 1 := by rw [e]; rfl
  refine ⟨by rw [tkT, e]; rfl, ?_⟩
  rw [pf, ha, e]
  rfl
theorem tk_8 {d : Nat} {x : Tr (d + 1)} (e : trQ x = 8) : tkT (d + 1) x = t0 36 :: pT (tkT d (trL x)) ∧ pf (d + 1) x = pf d (trL x) ++ [(46, 0)] := by
  have ha : arK (cK (trQ x)) = 1 := by rw [e]; rfl
  refine ⟨by rw [tkT, e]; rfl, ?_⟩
  rw [pf, ha, e]
  rfl
theorem tk_9 {d : Nat} {x : Tr (d + 1)} (e : trQ x = 9) : tkT (d + 1) x = pT (tkT d (trL x)) ++ (t0 35 :: pT (tkT d (trR x))) ∧ pf (d + 1) x = pf d (trL x) ++ (pf d (trR x) ++ [(35, 0)]) := by
  have ha : arK (cK (trQ x)) = 2 := by rw [e]; rfl
  refine ⟨by rw [tkT, e]; rfl, ?_⟩
  rw [pf, ha, e]
  rfl
theorem tk_10 {d : Nat} {x : Tr (d + 1)} (e : trQ x = 10) : tkT (d + 1) x = pT (tkT d (trL x)) ++ (t0 36 :: pT (tkT d (trR x))) ∧ pf (d + 1) x = pf d (trL x) ++ (pf d (trR x) ++ [(36, 0)]) := by
  have ha : arK (cK (trQ x)) = 2 := by rw [e]; rfl
  refine ⟨by rw [tkT, e]; rfl, ?_⟩
  rw [pf, ha, e]
  rfl
theorem tk_11 {d : Nat} {x : Tr (d + 1)} (e : trQ x = 11) : tkT (d + 1) x = pT (tkT d (trL x)) ++ (t0 37 :: pT (tkT d (trR x))) ∧ pf (d + 1) x = pf d (trL x) ++ (pf d (trR x) ++ [(37, 0)]) := by
  have ha : arK (cK (trQ x)) = 2 := by rw [e]; rfl
  refine ⟨by rw [tkT, e]; rfl, ?_⟩
  rw [pf, ha, e]
  rfl
theorem tk_12 {d : Nat} {x : Tr (d + 1)} (e : trQ x = 12) : tkT (d + 1) x = pT (tkT d (trL x)) ++ (t0 38 :: pT (tkT d (trR x))) ∧ pf (d + 1) x = pf d (trL x) ++ (pf d (trR x) ++ [(38, 0)]) := by
  have ha : arK (cK (trQ x)) = 2 := by rw [e]; rfl
  refine ⟨by rw [tkT, e]; rfl, ?_⟩
  rw [pf, ha, e]
  rfl
theorem tk_13 {d : Nat} {x : Tr (d + 1)} (e : trQ x = 13) : tkT (d + 1) x = t0 27 :: qT (tkT d (trL x)) (tkT d (trR x)) ∧ pf (d + 1) x = pf d (trL x) ++ (pf d (trR x) ++ [(27, 0)]) := by
  have ha : arK (cK (trQ x)) = 2 := by rw [e]; rfl
  refine ⟨by rw [tkT, e]; rfl, ?_⟩
  rw [pf, ha, e]
  rfl
theorem tk_14 {d : Nat} {x : Tr (d + 1)} (e : trQ x = 14) : tkT (d + 1) x = t0 28 :: qT (tkT d (trL x)) (tkT d (trR x)) ∧ pf (d + 1) x = pf d (trL x) ++ (pf d (trR x) ++ [(28, 0)]) := by
  have ha : arK (cK (trQ x)) = 2 := by rw [e]; rfl
  refine ⟨by rw [tkT, e]; rfl, ?_⟩
  rw [pf, ha, e]
  rfl
theorem tk_20 {d : Nat} {x : Tr (d + 1)} (e : trQ x = 20) : tkT (d + 1) x = tkT d (trL x) ++ (t0 39 :: tkT d (trR x)) ∧ pf (d + 1) x = pf d (trL x) ++ (pf d (trR x) ++ [(39, 0)]) := by
  have ha : arK (cK (trQ x)) = 2 := by rw [e]; rfl
  refine ⟨by rw [tkT, e]; rfl, ?_⟩
  rw [pf, ha, e]
  rfl
theorem tk_21 {d : Nat} {x : Tr (d + 1)} (e : trQ x = 21) : tkT (d + 1) x = tkT d (trL x) ++ (t0 40 :: tkT d (trR x)) ∧ pf (d + 1) x = pf d (trL x) ++ (pf d (trR x) ++ [(40, 0)]) := by
  have ha : arK (cK (trQ x)) = 2 := by rw [e]; rfl
  refine ⟨by rw [tkT, e]; rfl, ?_⟩
  rw [pf, ha, e]
  rfl
theorem tk_22 {d : Nat} {x : Tr (d + 1)} (e : trQ x = 22) : tkT (d + 1) x = tkT d (trL x) ++ (t0 41 :: tkT d (trR x)) ∧ pf (d + 1) x = pf d (trL x) ++ (pf d (trR x) ++ [(41, 0)]) := by
  have ha : arK (cK (trQ x)) = 2 := by rw [e]; rfl
  refine ⟨by rw [tkT, e]; rfl, ?_⟩
  rw [pf, ha, e]
  rfl
theorem tk_23 {d : Nat} {x : Tr (d + 1)} (e : trQ x = 23) : tkT (d + 1) x = tkT d (trL x) ++ (t0 42 :: tkT d (trR x)) ∧ pf (d + 1) x = pf d (trL x) ++ (pf d (trR x) ++ [(42, 0)]) := by
  have ha : arK (cK (trQ x)) = 2 := by rw [e]; rfl
  refine ⟨by rw [tkT, e]; rfl, ?_⟩
  rw [pf, ha, e]
  rfl
theorem tk_24 {d : Nat} {x : Tr (d + 1)} (e : trQ x = 24) : tkT (d + 1) x = tkT d (trL x) ++ (t0 43 :: tkT d (trR x)) ∧ pf (d + 1) x = pf d (trL x) ++ (pf d (trR x) ++ [(43, 0)]) := by
  have ha : arK (cK (trQ x)) = 2 := by rw [e]; rfl
  refine ⟨by rw [tkT, e]; rfl, ?_⟩
  rw [pf, ha, e]
  rfl
theorem tk_25 {d : Nat} {x : Tr (d + 1)} (e : trQ x = 25) : tkT (d + 1) x = [t0 22, (44, 0, 556 + trN x)] ∧ pf (d + 1) x = [(22, nI (trN x))] := by
  have ha : arK (cK (trQ x)) = 0 := by rw [e]; rfl
  refine ⟨by rw [tkT, e]; rfl, ?_⟩
  rw [pf, ha, e]
  rfl
theorem tk_26 {d : Nat} {x : Tr (d + 1)} (e : trQ x = 26) : tkT (d + 1) x = t0 23 :: tkT d (trL x) ∧ pf (d + 1) x = pf d (trL x) ++ [(23, 0)] := by
  have ha : arK (cK (trQ x)) = 1 := by rw [e]; rfl
  refine ⟨by rw [tkT, e]; rfl, ?_⟩
  rw [pf, ha, e]
  rfl
theorem tk_29 {d : Nat} {x : Tr (d + 1)} (e : trQ x = 29) : tkT (d + 1) x = t0 24 :: bT (tkT d (trL x)) ∧ pf (d + 1) x = pf d (trL x) ++ [(24, 0)] := by
  have ha : arK (cK (trQ x)) = 1 := by rw [e]; rfl
  refine ⟨by rw [tkT, e]; rfl, ?_⟩
  rw [pf, ha, e]
  rfl
theorem tk_30 {d : Nat} {x : Tr (d + 1)} (e : trQ x = 30) : tkT (d + 1) x = bT (tkT d (trL x)) ++ (t0 25 :: bT (tkT d (trR x))) ∧ pf (d + 1) x = pf d (trL x) ++ (pf d (trR x) ++ [(25, 0)]) := by
  have ha : arK (cK (trQ x)) = 2 := by rw [e]; rfl
  refine ⟨by rw [tkT, e]; rfl, ?_⟩
  rw [pf, ha, e]
  rfl
theorem tk_31 {d : Nat} {x : Tr (d + 1)} (e : trQ x = 31) : tkT (d + 1) x = bT (tkT d (trL x)) ++ (t0 26 :: bT (tkT d (trR x))) ∧ pf (d + 1) x = pf d (trL x) ++ (pf d (trR x) ++ [(26, 0)]) := by
  have ha : arK (cK (trQ x)) = 2 := by rw [e]; rfl
  refine ⟨by rw [tkT, e]; rfl, ?_⟩
  rw [pf, ha, e]
  rfl
theorem hd_sum {e : Nat} : ∀ {d : Nat} {x : Tr d}, trW e d false x → ∃ a u, tkT d x = a :: u ∧ a.1 ≠ 22 ∧ a.1 ≠ 23 ∧ a.1 ≠ 24 ∧ a.1 ≠ 31 := by
  intro d x h
  cases d with
  | zero => exact h.elim
  | succ d =>
    have w1 := h.1
    rw [if_neg (by decide)] at w1
    rcases k_sums w1 with h | h | h | h | h | h | h | h | h | h | h | h | h | h | h
    · exact ⟨_, _, (tk_0 h).1, show (45 : Nat) ≠ 22 by decide, show (45 : Nat) ≠ 23 by decide, show (45 : Nat) ≠ 24 by decide, show (45 : Nat) ≠ 31 by decide⟩
    · exact ⟨_, _, (tk_1 h).1, by decide, by decide, by decide, by decide⟩
    · exact ⟨_, _, (tk_2 h).1, by decide, by decide, by decide, by decide⟩
    · exact ⟨_, _, (tk_3 h).1, by decide, by decide, by decide, by decide⟩
    · exact ⟨_, _, (tk_4 h).1, by decide, by decide, by decide, by decide⟩
    · exact ⟨_, _, (tk_5 h).1, by decide, by decide, by decide, by decide⟩
    · exact ⟨_, _, (tk_6 h).1, by decide, by decide, by decide, by decide⟩
    · exact ⟨_, _, (tk_7 h).1, by decide, by decide, by decide, by decide⟩
    · exact ⟨_, _, (tk_8 h).1, by decide, by decide, by decide, by decide⟩
    · exact ⟨_, _, (tk_9 h).1, by decide, by decide, by decide, by decide⟩
    · exact ⟨_, _, (tk_10 h).1, by decide, by decide, by decide, by decide⟩
    · exact ⟨_, _, (tk_11 h).1, by decide, by decide, by decide, by decide⟩
    · exact ⟨_, _, (tk_12 h).1, by decide, by decide, by decide, by decide⟩
    · exact ⟨_, _, (tk_13 h).1, by decide, by decide, by decide, by decide⟩
    · exact ⟨_, _, (tk_14 h).1, by decide, by decide, by decide, by decide⟩
section TREES
variable {ki st nu : Nat → Int32} {na nm : Nat → Int64} {N E : Nat} {kf : Nat → Nat} {es : Int32}
theorem rw_len {W : Int32 → Int32 → Int32 → (Nat → Int32) → (Nat → Int32) → PK → Prop} {i len len' : Nat} {l : List (Nat × Int32)} (h : RdW kf es W i len l) (e : len = len') : RdW kf es W i len' l := e ▸ h
theorem rw_at {W : Int32 → Int32 → Int32 → (Nat → Int32) → (Nat → Int32) → PK → Prop} {i i' len : Nat} {l : List (Nat × Int32)} (h : RdW kf es W i len l) (e : i = i') : RdW kf es W i' len l := e ▸ h
theorem at_le {i : Nat} {l : List Tk} (h : AtL N kf nu na i l) : i + l.length ≤ N := h.1
/-- what follows a sum, a test -/
def flS (k : Nat) : Prop := k ≠ 35 ∧ k ≠ 36 ∧ k ≠ 37 ∧ k ≠ 38
def flT (k : Nat) : Prop := k ≠ 25 ∧ k ≠ 26 ∧ flS k
/-- a bracketed sum -/
theorem pT_ok (T : tkK N kf ki) {n q i : Nat} {l : List Tk} {c : List (Nat × Int32)} (h : AtL N kf nu na i (pT l)) (hq : q < 8) (hs : AtL N kf nu na (i + 1) l → flS (kf (i + 1 + l.length)) → RdW kf es (WA ki st nu na nm N E es n 3 (q + 1)) (i + 1) l.length c) : RdW kf es (WA ki st nu na nm N E es (n + 1) 0 q) i (pT l).length c := by
  obtain ⟨h1, h2, -, -, h3⟩ := at_hd h
  obtain ⟨h4, h5⟩ := at_app h3
  obtain ⟨h6, h7, -, -, -⟩ := at_hd h5
  have h7 : kf (i + 1 + l.length) = 30 := h7
  rw [pT_len]
  exact encl T h6 hq h2 (hs h4 (by rw [h7]; exact ⟨by decide, by decide, by decide, by decide⟩)) h7
theorem pT_v (T : tkK N kf ki) {n q i : Nat} {l : List Tk} {c : List (Nat × Int32)} (h : AtL N kf nu na i (pT l)) (hq : q < 8) (hs : AtL N kf nu na (i + 1) l → flS (kf (i + 1 + l.length)) → RdW kf es (WA ki st nu na nm N E es n 3 (q + 1)) (i + 1) l.length c) : RdW kf es (WA ki st nu na nm N E es (n + 1 + 1) 4 q) i (pT l).length c := vParen T (at_hd h).2.1 (pT_ok T h hq hs)
theorem bT_ok (T : tkK N kf ki) {n q i : Nat} {l : List Tk} {c : List (Nat × Int32)} (h : AtL N kf nu na i (bT l)) (hq : q < 8) (hs : AtL N kf nu na (i + 1) l → flT (kf (i + 1 + l.length)) → RdW kf es (WB ki st nu na nm N E es n 2 (q + 1)) (i + 1) l.length c) : RdW kf es (WB ki st nu na nm N E es (n + 1) 1 q) i (bT l).length c := by
  obtain ⟨h1, h2, -, -, h3⟩ := at_hd h
  obtain ⟨h4, h5⟩ := at_app h3
  obtain ⟨h6, h7, -, -, -⟩ := at_hd h5
  have h7 : kf (i + 1 + l.length) = 32 := h7
  rw [bT_len]
  exact sBrk T h6 hq h2 (hs h4 (by rw [h7]; exact ⟨by decide, by decide, by decide, by decide, by decide, by decide⟩)) h7
theorem fin1 (T : tkK N kf ki) {n q i len : Nat} {l : List (Nat × Int32)} (hl : i + len ≤ N) (f : flS (kf (i + len))) (V : RdW kf es (WA ki st nu na nm N E es n 4 q) i len l) : RdW kf es (WA ki st nu na nm N E es (n + 1 + 1) 3 q) i len l := sumOne T hl (prodOne T hl V f.2.2.1 f.2.2.2) f.1 f.2.1
theorem rdSum (T : tkK N kf ki) (hE : nmK E nm) : ∀ (d : Nat) (x : Tr d) (n q i : Nat), trW E d false x → AtL N kf nu na i (tkT d x) → q + 2 * d ≤ 10 → 5 * d ≤ n → flS (kf (i + (tkT d x).length)) → RdW kf es (WA ki st nu na nm N E es n 3 q) i (tkT d x).length (pf d x) := by
  intro d
  induction d with
  | zero => intro x n q i h; exact h.elim
  | succ d ih =>
    intro x n q i h hat hq hn f
    obtain ⟨w1, w2, w3, w4, w5⟩ := h
    rw [if_neg (by decide)] at w1
    have hle := at_le hat
    obtain ⟨m, rfl⟩ : ∃ m, n = m + 5 := ⟨n - 5, by omega⟩
    have d29 : decide (29 ≤ trQ x) = false := decide_eq_false (by omega)
    rw [d29] at w4 w5
    -- a first, a second, read in brackets at depth q or q + 1
    have kA : knA (trQ x) → ∀ (m' q' j : Nat), 5 * d ≤ m' → q' + 2 * d ≤ 10 → AtL N kf nu na j (tkT d (trL x)) → flS (kf (j + (tkT d (trL x)).length)) → RdW kf es (WA ki st nu na nm N E es m' 3 q') j (tkT d (trL x)).length (pf d (trL x)) := fun hA m' q' j h1 h2 h3 h4 => ih (trL x) m' q' j (w4 hA) h3 h2 h1 h4
    have kB : knB (trQ x) → ∀ (m' q' j : Nat), 5 * d ≤ m' → q' + 2 * d ≤ 10 → AtL N kf nu na j (tkT d (trR x)) → flS (kf (j + (tkT d (trR x)).length)) → RdW kf es (WA ki st nu na nm N E es m' 3 q') j (tkT d (trR x)).length (pf d (trR x)) := fun hB m' q' j h1 h2 h3 h4 => ih (trR x) m' q' j (w5 hB) h3 h2 h1 h4
    have d1 : knA (trQ x) → 1 ≤ d := fun hA => w_d (w4 hA)
    rcases k_sums w1 with e | e | e | e | e | e | e | e | e | e | e | e | e | e | e
    · obtain ⟨t1, t2⟩ := tk_0 e
      rw [t1] at hat f hle ⊢
      rw [t2]
      obtain ⟨h1, h2, h3, -, -⟩ := at_hd hat
      exact fin1 T hle f (vNum T h1 h2 (h3 rfl))
    · obtain ⟨t1, t2⟩ := tk_1 e
      rw [t1] at hat f hle ⊢
      rw [t2]
      obtain ⟨h1, h2, -, -, -⟩ := at_hd hat
      exact fin1 T hle f (vAsk15 T h1 h2)
    · obtain ⟨t1, t2⟩ := tk_2 e
      rw [t1] at hat f hle ⊢
      rw [t2]
      obtain ⟨h1, h2, -, -, -⟩ := at_hd hat
      exact fin1 T hle f (vAsk16 T h1 h2)
    · obtain ⟨t1, t2⟩ := tk_3 e
      rw [t1] at hat f hle ⊢
      rw [t2]
      obtain ⟨h1, h2, -, -, -⟩ := at_hd hat
      exact fin1 T hle f (vAsk17 T h1 h2)
    · obtain ⟨t1, t2⟩ := tk_4 e
      rw [t1] at hat f hle ⊢
      rw [t2]
      obtain ⟨h1, h2, -, -, -⟩ := at_hd hat
      exact fin1 T hle f (vAsk18 T h1 h2)
    · obtain ⟨t1, t2⟩ := tk_5 e
      rw [t1] at hat f hle ⊢
      rw [t2]
      obtain ⟨h1, h2, -, -, h3⟩ := at_hd hat
      obtain ⟨h4, h5, -, -, h6⟩ := at_hd h3
      obtain ⟨h7, h8, -, h9, -⟩ := at_hd h6
      exact fin1 T hle f (vYear19 T hE (w3 (by omega)) h7 h2 h5 h8 (h9 rfl))
    · obtain ⟨t1, t2⟩ := tk_6 e
      rw [t1] at hat f hle ⊢
      rw [t2]
      obtain ⟨h1, h2, -, -, h3⟩ := at_hd hat
      obtain ⟨h4, h5, -, -, h6⟩ := at_hd h3
      obtain ⟨h7, h8, -, h9, -⟩ := at_hd h6
      exact fin1 T hle f (vYear20 T hE (w3 (by omega)) h7 h2 h5 h8 (h9 rfl))
    · obtain ⟨t1, t2⟩ := tk_7 e
      rw [t1] at hat f hle ⊢
      rw [t2]
      have hA : knA (trQ x) := by rw [e]; exact ⟨by decide, by decide⟩
      have hd1 := d1 hA
      obtain ⟨h1, h2, -, -, h3⟩ := at_hd hat
      rw [c_len] at f hle ⊢
      exact fin1 T hle f (vHeight T h1 h2 (pT_ok T h3 (by omega) (fun g1 g2 => kA hA (m + 1) (q + 1) (i + 1 + 1) (by omega) (by omega) g1 g2)))
    · obtain ⟨t1, t2⟩ := tk_8 e
      rw [t1] at hat f hle ⊢
      rw [t2]
      have hA : knA (trQ x) := by rw [e]; exact ⟨by decide, by decide⟩
      have hd1 := d1 hA
      obtain ⟨h1, h2, -, -, h3⟩ := at_hd hat
      rw [c_len] at f hle ⊢
      exact fin1 T hle f (vTurn T h1 (by omega) h2 (pT_v T h3 (by omega) (fun g1 g2 => kA hA m (q + 1 + 1) (i + 1 + 1) (by omega) (by omega) g1 g2)))
    · obtain ⟨t1, t2⟩ := tk_9 e
      rw [t1] at hat f hle ⊢
      rw [t2]
      have hA : knA (trQ x) := by rw [e]; exact ⟨by decide, by decide⟩
      have hd1 := d1 hA
      have hB : knB (trQ x) := by rw [e]; exact ⟨by decide, by decide, by decide, by decide⟩
      obtain ⟨h1, h2⟩ := at_app hat
      obtain ⟨h3, h4, -, -, h5⟩ := at_hd h2
      have el : (pT (tkT d (trL x)) ++ (t0 35 :: pT (tkT d (trR x)))).length = (pT (tkT d (trL x))).length + (1 + (pT (tkT d (trR x))).length) := by rw [List.length_append, c_len]
      rw [el] at f hle ⊢
      rw [show i + ((pT (tkT d (trL x))).length + (1 + (pT (tkT d (trR x))).length)) = i + (pT (tkT d (trL x))).length + 1 + (pT (tkT d (trR x))).length by omega] at f hle
      have va := pT_v (es := es) (st := st) (nm := nm) (E := E) (n := m + 1) (q := q) T h1 (by omega) (fun g1 g2 => kA hA (m + 1) (q + 1) (i + 1) (by omega) (by omega) g1 g2)
      have vb := pT_v (es := es) (st := st) (nm := nm) (E := E) (n := m + 1) (q := q) T h5 (by omega) (fun g1 g2 => kB hB (m + 1) (q + 1) (i + (pT (tkT d (trL x))).length + 1 + 1) (by omega) (by omega) g1 g2)
      have h4 : kf (i + (pT (tkT d (trL x))).length) = 35 := h4
      exact sumTwo T (by omega) hle (prodOne T (by omega) va (by rw [h4]; decide) (by rw [h4]; decide)) h4 (prodOne T hle vb f.2.2.1 f.2.2.2) f.1 f.2.1
    · obtain ⟨t1, t2⟩ := tk_10 e
      rw [t1] at hat f hle ⊢
      rw [t2]
      have hA : knA (trQ x) := by rw [e]; exact ⟨by decide, by decide⟩
      have hd1 := d1 hA
      have hB : knB (trQ x) := by rw [e]; exact ⟨by decide, by decide, by decide, by decide⟩
      obtain ⟨h1, h2⟩ := at_app hat
      obtain ⟨h3, h4, -, -, h5⟩ := at_hd h2
      have el : (pT (tkT d (trL x)) ++ (t0 36 :: pT (tkT d (trR x)))).length = (pT (tkT d (trL x))).length + (1 + (pT (tkT d (trR x))).length) := by rw [List.length_append, c_len]
      rw [el] at f hle ⊢
      rw [show i + ((pT (tkT d (trL x))).length + (1 + (pT (tkT d (trR x))).length)) = i + (pT (tkT d (trL x))).length + 1 + (pT (tkT d (trR x))).length by omega] at f hle
      have va := pT_v (es := es) (st := st) (nm := nm) (E := E) (n := m + 1) (q := q) T h1 (by omega) (fun g1 g2 => kA hA (m + 1) (q + 1) (i + 1) (by omega) (by omega) g1 g2)
      have vb := pT_v (es := es) (st := st) (nm := nm) (E := E) (n := m + 1) (q := q) T h5 (by omega) (fun g1 g2 => kB hB (m + 1) (q + 1) (i + (pT (tkT d (trL x))).length + 1 + 1) (by omega) (by omega) g1 g2)
      have h4 : kf (i + (pT (tkT d (trL x))).length) = 36 := h4
      exact sumTwo T (by omega) hle (prodOne T (by omega) va (by rw [h4]; decide) (by rw [h4]; decide)) h4 (prodOne T hle vb f.2.2.1 f.2.2.2) f.1 f.2.1
    · obtain ⟨t1, t2⟩ := tk_11 e
      rw [t1] at hat f hle ⊢
      rw [t2]
      have hA : knA (trQ x) := by rw [e]; exact ⟨by decide, by decide⟩
      have hd1 := d1 hA
      have hB : knB (trQ x) := by rw [e]; exact ⟨by decide, by decide, by decide, by decide⟩
      obtain ⟨h1, h2⟩ := at_app hat
      obtain ⟨h3, h4, -, -, h5⟩ := at_hd h2
      have el : (pT (tkT d (trL x)) ++ (t0 37 :: pT (tkT d (trR x)))).length = (pT (tkT d (trL x))).length + (1 + (pT (tkT d (trR x))).length) := by rw [List.length_append, c_len]
      rw [el] at f hle ⊢
      rw [show i + ((pT (tkT d (trL x))).length + (1 + (pT (tkT d (trR x))).length)) = i + (pT (tkT d (trL x))).length + 1 + (pT (tkT d (trR x))).length by omega] at f hle
      have va := pT_v (es := es) (st := st) (nm := nm) (E := E) (n := m + 1) (q := q) T h1 (by omega) (fun g1 g2 => kA hA (m + 1) (q + 1) (i + 1) (by omega) (by omega) g1 g2)
      have vb := pT_v (es := es) (st := st) (nm := nm) (E := E) (n := m + 1) (q := q) T h5 (by omega) (fun g1 g2 => kB hB (m + 1) (q + 1) (i + (pT (tkT d (trL x))).length + 1 + 1) (by omega) (by omega) g1 g2)
      have h4 : kf (i + (pT (tkT d (trL x))).length) = 37 := h4
      exact sumOne T (by omega) (prodTwo T (by omega) hle va h4 vb f.2.2.1 f.2.2.2) (by rw [show i + ((pT (tkT d (trL x))).length + (1 + (pT (tkT d (trR x))).length)) = i + (pT (tkT d (trL x))).length + 1 + (pT (tkT d (trR x))).length by omega]; exact f.1) (by rw [show i + ((pT (tkT d (trL x))).length + (1 + (pT (tkT d (trR x))).length)) = i + (pT (tkT d (trL x))).length + 1 + (pT (tkT d (trR x))).length by omega]; exact f.2.1)
    · obtain ⟨t1, t2⟩ := tk_12 e
      rw [t1] at hat f hle ⊢
      rw [t2]
      have hA : knA (trQ x) := by rw [e]; exact ⟨by decide, by decide⟩
      have hd1 := d1 hA
      have hB : knB (trQ x) := by rw [e]; exact ⟨by decide, by decide, by decide, by decide⟩
      obtain ⟨h1, h2⟩ := at_app hat
      obtain ⟨h3, h4, -, -, h5⟩ := at_hd h2
      have el : (pT (tkT d (trL x)) ++ (t0 38 :: pT (tkT d (trR x)))).length = (pT (tkT d (trL x))).length + (1 + (pT (tkT d (trR x))).length) := by rw [List.length_append, c_len]
      rw [el] at f hle ⊢
      rw [show i + ((pT (tkT d (trL x))).length + (1 + (pT (tkT d (trR x))).length)) = i + (pT (tkT d (trL x))).length + 1 + (pT (tkT d (trR x))).length by omega] at f hle
      have va := pT_v (es := es) (st := st) (nm := nm) (E := E) (n := m + 1) (q := q) T h1 (by omega) (fun g1 g2 => kA hA (m + 1) (q + 1) (i + 1) (by omega) (by omega) g1 g2)
      have vb := pT_v (es := es) (st := st) (nm := nm) (E := E) (n := m + 1) (q := q) T h5 (by omega) (fun g1 g2 => kB hB (m + 1) (q + 1) (i + (pT (tkT d (trL x))).length + 1 + 1) (by omega) (by omega) g1 g2)
      have h4 : kf (i + (pT (tkT d (trL x))).length) = 38 := h4
      exact sumOne T (by omega) (prodTwo T (by omega) hle va h4 vb f.2.2.1 f.2.2.2) (by rw [show i + ((pT (tkT d (trL x))).length + (1 + (pT (tkT d (trR x))).length)) = i + (pT (tkT d (trL x))).length + 1 + (pT (tkT d (trR x))).length by omega]; exact f.1) (by rw [show i + ((pT (tkT d (trL x))).length + (1 + (pT (tkT d (trR x))).length)) = i + (pT (tkT d (trL x))).length + 1 + (pT (tkT d (trR x))).length by omega]; exact f.2.1)
    · obtain ⟨t1, t2⟩ := tk_13 e
      rw [t1] at hat f hle ⊢
      rw [t2]
      have hA : knA (trQ x) := by rw [e]; exact ⟨by decide, by decide⟩
      have hd1 := d1 hA
      have hB : knB (trQ x) := by rw [e]; exact ⟨by decide, by decide, by decide, by decide⟩
      obtain ⟨h1, h2, -, -, h3⟩ := at_hd hat
      obtain ⟨h4, h5, -, -, h6⟩ := at_hd h3
      obtain ⟨h7, h8⟩ := at_app h6
      obtain ⟨h9, g1, -, -, g2⟩ := at_hd h8
      obtain ⟨g3, g4⟩ := at_app g2
      obtain ⟨g5, g6, -, -, -⟩ := at_hd g4
      have g1 : kf (i + 1 + 1 + (tkT d (trL x)).length) = 34 := g1
      have g6 : kf (i + 1 + 1 + (tkT d (trL x)).length + 1 + (tkT d (trR x)).length) = 30 := g6
      rw [c_len, qT_len] at f hle ⊢
      have P := pair (es := es) (st := st) (nm := nm) (E := E) (n := m + 1) (q := q) T g5 (by omega) h5 (kA hA (m + 1) (q + 1) (i + 1 + 1) (by omega) (by omega) h7 (by rw [g1]; exact ⟨by decide, by decide, by decide, by decide⟩)) g1 (kB hB (m + 1) (q + 1) _ (by omega) (by omega) g3 (by rw [g6]; exact ⟨by decide, by decide, by decide, by decide⟩)) g6
      have V := vMin27 T h1 h2 P
      rw [List.append_assoc] at V
      exact fin1 T hle f V
    · obtain ⟨t1, t2⟩ := tk_14 e
      rw [t1] at hat f hle ⊢
      rw [t2]
      have hA : knA (trQ x) := by rw [e]; exact ⟨by decide, by decide⟩
      have hd1 := d1 hA
      have hB : knB (trQ x) := by rw [e]; exact ⟨by decide, by decide, by decide, by decide⟩
      obtain ⟨h1, h2, -, -, h3⟩ := at_hd hat
      obtain ⟨h4, h5, -, -, h6⟩ := at_hd h3
      obtain ⟨h7, h8⟩ := at_app h6
      obtain ⟨h9, g1, -, -, g2⟩ := at_hd h8
      obtain ⟨g3, g4⟩ := at_app g2
      obtain ⟨g5, g6, -, -, -⟩ := at_hd g4
      have g1 : kf (i + 1 + 1 + (tkT d (trL x)).length) = 34 := g1
      have g6 : kf (i + 1 + 1 + (tkT d (trL x)).length + 1 + (tkT d (trR x)).length) = 30 := g6
      rw [c_len, qT_len] at f hle ⊢
      have P := pair (es := es) (st := st) (nm := nm) (E := E) (n := m + 1) (q := q) T g5 (by omega) h5 (kA hA (m + 1) (q + 1) (i + 1 + 1) (by omega) (by omega) h7 (by rw [g1]; exact ⟨by decide, by decide, by decide, by decide⟩)) g1 (kB hB (m + 1) (q + 1) _ (by omega) (by omega) g3 (by rw [g6]; exact ⟨by decide, by decide, by decide, by decide⟩)) g6
      have V := vMin28 T h1 h2 P
      rw [List.append_assoc] at V
      exact fin1 T hle f V
theorem rdTest (T : tkK N kf ki) (hE : nmK E nm) : ∀ (d : Nat) (x : Tr d) (n q i : Nat), trW E d true x → AtL N kf nu na i (tkT d x) → q + 2 * d ≤ 10 → 4 * d ≤ n → flT (kf (i + (tkT d x).length)) → RdW kf es (WB ki st nu na nm N E es n 2 q) i (tkT d x).length (pf d x) := by
  intro d
  induction d with
  | zero => intro x n q i h; exact h.elim
  | succ d ih =>
    intro x n q i h hat hq hn f
    obtain ⟨w1, w2, w3, w4, w5⟩ := h
    rw [if_pos rfl] at w1
    have hle := at_le hat
    obtain ⟨m, rfl⟩ : ∃ m, n = m + 4 := ⟨n - 4, by omega⟩
    have one : ∀ {len : Nat} {l : List (Nat × Int32)}, i + len ≤ N → flT (kf (i + len)) → RdW kf es (WB ki st nu na nm N E es (m + 2) 1 q) i len l → RdW kf es (WB ki st nu na nm N E es (m + 4) 2 q) i len l := fun h1 h2 h3 => testOne T h1 (bothOne T h1 h3 h2.1) h2.2.1
    rcases k_tests w1 with e | e | e | e | e | e | e | e | e | e
    · obtain ⟨t1, t2⟩ := tk_20 e
      rw [t1] at hat f hle ⊢
      rw [t2]
      have hA : knA (trQ x) := by rw [e]; exact ⟨by decide, by decide⟩
      have hB : knB (trQ x) := by rw [e]; exact ⟨by decide, by decide, by decide, by decide⟩
      have d29 : decide (29 ≤ trQ x) = false := by rw [e]; rfl
      rw [d29] at w4 w5
      obtain ⟨h1, h2⟩ := at_app hat
      obtain ⟨h3, h4, -, -, h5⟩ := at_hd h2
      have h4 : kf (i + (tkT d (trL x)).length) = 39 := h4
      obtain ⟨ta, tu, ht, n22, n23, n24, n31⟩ := hd_sum (w4 hA)
      have e1 : kf i = ta.1 := by rw [ht] at h1; exact (at_hd h1).2.1
      rw [List.length_append, c_len] at f hle ⊢
      have ea : i + ((tkT d (trL x)).length + (1 + (tkT d (trR x)).length)) = i + (tkT d (trL x)).length + 1 + (tkT d (trR x)).length := by omega
      have f' := f
      rw [ea] at f'
      refine one hle f (sCmp T (by decide) (by omega) (by rw [e1]; exact n22) (by rw [e1]; exact n23) (by rw [e1]; exact n24) (by rw [e1]; exact n31) (rdSum T hE d (trL x) 64 q i (w4 hA) h1 (by omega) (by omega) (by rw [h4]; exact ⟨by decide, by decide, by decide, by decide⟩)) h4 (rdSum T hE d (trR x) 64 q _ (w5 hB) h5 (by omega) (by omega) f'.2.2))
    · obtain ⟨t1, t2⟩ := tk_21 e
      rw [t1] at hat f hle ⊢
      rw [t2]
      have hA : knA (trQ x) := by rw [e]; exact ⟨by decide, by decide⟩
      have hB : knB (trQ x) := by rw [e]; exact ⟨by decide, by decide, by decide, by decide⟩
      have d29 : decide (29 ≤ trQ x) = false := by rw [e]; rfl
      rw [d29] at w4 w5
      obtain ⟨h1, h2⟩ := at_app hat
      obtain ⟨h3, h4, -, -, h5⟩ := at_hd h2
      have h4 : kf (i + (tkT d (trL x)).length) = 40 := h4
      obtain ⟨ta, tu, ht, n22, n23, n24, n31⟩ := hd_sum (w4 hA)
      have e1 : kf i = ta.1 := by rw [ht] at h1; exact (at_hd h1).2.1
      rw [List.length_append, c_len] at f hle ⊢
      have ea : i + ((tkT d (trL x)).length + (1 + (tkT d (trR x)).length)) = i + (tkT d (trL x)).length + 1 + (tkT d (trR x)).length := by omega
      have f' := f
      rw [ea] at f'
      refine one hle f (sCmp T (by decide) (by omega) (by rw [e1]; exact n22) (by rw [e1]; exact n23) (by rw [e1]; exact n24) (by rw [e1]; exact n31) (rdSum T hE d (trL x) 64 q i (w4 hA) h1 (by omega) (by omega) (by rw [h4]; exact ⟨by decide, by decide, by decide, by decide⟩)) h4 (rdSum T hE d (trR x) 64 q _ (w5 hB) h5 (by omega) (by omega) f'.2.2))
    · obtain ⟨t1, t2⟩ := tk_22 e
      rw [t1] at hat f hle ⊢
      rw [t2]
      have hA : knA (trQ x) := by rw [e]; exact ⟨by decide, by decide⟩
      have hB : knB (trQ x) := by rw [e]; exact ⟨by decide, by decide, by decide, by decide⟩
      have d29 : decide (29 ≤ trQ x) = false := by rw [e]; rfl
      rw [d29] at w4 w5
      obtain ⟨h1, h2⟩ := at_app hat
      obtain ⟨h3, h4, -, -, h5⟩ := at_hd h2
      have h4 : kf (i + (tkT d (trL x)).length) = 41 := h4
      obtain ⟨ta, tu, ht, n22, n23, n24, n31⟩ := hd_sum (w4 hA)
      have e1 : kf i = ta.1 := by rw [ht] at h1; exact (at_hd h1).2.1
      rw [List.length_append, c_len] at f hle ⊢
      have ea : i + ((tkT d (trL x)).length + (1 + (tkT d (trR x)).length)) = i + (tkT d (trL x)).length + 1 + (tkT d (trR x)).length := by omega
      have f' := f
      rw [ea] at f'
      refine one hle f (sCmp T (by decide) (by omega) (by rw [e1]; exact n22) (by rw [e1]; exact n23) (by rw [e1]; exact n24) (by rw [e1]; exact n31) (rdSum T hE d (trL x) 64 q i (w4 hA) h1 (by omega) (by omega) (by rw [h4]; exact ⟨by decide, by decide, by decide, by decide⟩)) h4 (rdSum T hE d (trR x) 64 q _ (w5 hB) h5 (by omega) (by omega) f'.2.2))
    · obtain ⟨t1, t2⟩ := tk_23 e
      rw [t1] at hat f hle ⊢
      rw [t2]
      have hA : knA (trQ x) := by rw [e]; exact ⟨by decide, by decide⟩
      have hB : knB (trQ x) := by rw [e]; exact ⟨by decide, by decide, by decide, by decide⟩
      have d29 : decide (29 ≤ trQ x) = false := by rw [e]; rfl
      rw [d29] at w4 w5
      obtain ⟨h1, h2⟩ := at_app hat
      obtain ⟨h3, h4, -, -, h5⟩ := at_hd h2
      have h4 : kf (i + (tkT d (trL x)).length) = 42 := h4
      obtain ⟨ta, tu, ht, n22, n23, n24, n31⟩ := hd_sum (w4 hA)
      have e1 : kf i = ta.1 := by rw [ht] at h1; exact (at_hd h1).2.1
      rw [List.length_append, c_len] at f hle ⊢
      have ea : i + ((tkT d (trL x)).length + (1 + (tkT d (trR x)).length)) = i + (tkT d (trL x)).length + 1 + (tkT d (trR x)).length := by omega
      have f' := f
      rw [ea] at f'
      refine one hle f (sCmp T (by decide) (by omega) (by rw [e1]; exact n22) (by rw [e1]; exact n23) (by rw [e1]; exact n24) (by rw [e1]; exact n31) (rdSum T hE d (trL x) 64 q i (w4 hA) h1 (by omega) (by omega) (by rw [h4]; exact ⟨by decide, by decide, by decide, by decide⟩)) h4 (rdSum T hE d (trR x) 64 q _ (w5 hB) h5 (by omega) (by omega) f'.2.2))
    · obtain ⟨t1, t2⟩ := tk_24 e
      rw [t1] at hat f hle ⊢
      rw [t2]
      have hA : knA (trQ x) := by rw [e]; exact ⟨by decide, by decide⟩
      have hB : knB (trQ x) := by rw [e]; exact ⟨by decide, by decide, by decide, by decide⟩
      have d29 : decide (29 ≤ trQ x) = false := by rw [e]; rfl
      rw [d29] at w4 w5
      obtain ⟨h1, h2⟩ := at_app hat
      obtain ⟨h3, h4, -, -, h5⟩ := at_hd h2
      have h4 : kf (i + (tkT d (trL x)).length) = 43 := h4
      obtain ⟨ta, tu, ht, n22, n23, n24, n31⟩ := hd_sum (w4 hA)
      have e1 : kf i = ta.1 := by rw [ht] at h1; exact (at_hd h1).2.1
      rw [List.length_append, c_len] at f hle ⊢
      have ea : i + ((tkT d (trL x)).length + (1 + (tkT d (trR x)).length)) = i + (tkT d (trL x)).length + 1 + (tkT d (trR x)).length := by omega
      have f' := f
      rw [ea] at f'
      refine one hle f (sCmp T (by decide) (by omega) (by rw [e1]; exact n22) (by rw [e1]; exact n23) (by rw [e1]; exact n24) (by rw [e1]; exact n31) (rdSum T hE d (trL x) 64 q i (w4 hA) h1 (by omega) (by omega) (by rw [h4]; exact ⟨by decide, by decide, by decide, by decide⟩)) h4 (rdSum T hE d (trR x) 64 q _ (w5 hB) h5 (by omega) (by omega) f'.2.2))
    · obtain ⟨t1, t2⟩ := tk_25 e
      rw [t1] at hat f hle ⊢
      rw [t2]
      obtain ⟨h1, h2, -, -, h3⟩ := at_hd hat
      obtain ⟨h4, h5, -, h6, -⟩ := at_hd h3
      exact one hle f (sSeen T hE (w3 (by omega)) h4 h2 h5 (h6 rfl))
    · obtain ⟨t1, t2⟩ := tk_26 e
      rw [t1] at hat f hle ⊢
      rw [t2]
      have hA : knA (trQ x) := by rw [e]; exact ⟨by decide, by decide⟩
      have d29 : decide (29 ≤ trQ x) = false := by rw [e]; rfl
      rw [d29] at w4
      obtain ⟨h1, h2, -, -, h3⟩ := at_hd hat
      rw [c_len] at f hle ⊢
      have f' := f
      rw [← Nat.add_assoc] at f'
      exact one hle f (sSure T h1 h2 (rdSum T hE d (trL x) 64 q (i + 1) (w4 hA) h3 (by omega) (by omega) f'.2.2))
    · obtain ⟨t1, t2⟩ := tk_29 e
      rw [t1] at hat f hle ⊢
      rw [t2]
      have hA : knA (trQ x) := by rw [e]; exact ⟨by decide, by decide⟩
      have d29 : decide (29 ≤ trQ x) = true := by rw [e]; rfl
      rw [d29] at w4
      have hd1 := w_d (w4 hA)
      obtain ⟨h1, h2, -, -, h3⟩ := at_hd hat
      rw [c_len] at f hle ⊢
      exact one hle f (sNot T h1 (by omega) h2 (bT_ok T h3 (by omega) (fun g1 g2 => ih (trL x) m (q + 1 + 1) _ (w4 hA) g1 (by omega) (by omega) g2)))
    · obtain ⟨t1, t2⟩ := tk_30 e
      rw [t1] at hat f hle ⊢
      rw [t2]
      have hA : knA (trQ x) := by rw [e]; exact ⟨by decide, by decide⟩
      have hB : knB (trQ x) := by rw [e]; exact ⟨by decide, by decide, by decide, by decide⟩
      have d29 : decide (29 ≤ trQ x) = true := by rw [e]; rfl
      rw [d29] at w4 w5
      have hd1 := w_d (w4 hA)
      obtain ⟨h1, h2⟩ := at_app hat
      obtain ⟨h3, h4, -, -, h5⟩ := at_hd h2
      have h4 : kf (i + (bT (tkT d (trL x))).length) = 25 := h4
      rw [List.length_append, c_len] at f hle ⊢
      have ea : i + ((bT (tkT d (trL x))).length + (1 + (bT (tkT d (trR x))).length)) = i + (bT (tkT d (trL x))).length + 1 + (bT (tkT d (trR x))).length := by omega
      have f' := f
      rw [ea] at f'
      have va := bT_ok (es := es) (st := st) (nm := nm) (E := E) (n := m + 1) (q := q) T h1 (by omega) (fun g1 g2 => ih (trL x) (m + 1) (q + 1) (i + 1) (w4 hA) g1 (by omega) (by omega) g2)
      have vb := bT_ok (es := es) (st := st) (nm := nm) (E := E) (n := m + 1) (q := q) T h5 (by omega) (fun g1 g2 => ih (trR x) (m + 1) (q + 1) _ (w5 hB) g1 (by omega) (by omega) g2)
      exact testOne T hle (bothTwo T rfl (by omega) va h4 vb f'.1) f.2.1
    · obtain ⟨t1, t2⟩ := tk_31 e
      rw [t1] at hat f hle ⊢
      rw [t2]
      have hA : knA (trQ x) := by rw [e]; exact ⟨by decide, by decide⟩
      have hB : knB (trQ x) := by rw [e]; exact ⟨by decide, by decide, by decide, by decide⟩
      have d29 : decide (29 ≤ trQ x) = true := by rw [e]; rfl
      rw [d29] at w4 w5
      have hd1 := w_d (w4 hA)
      obtain ⟨h1, h2⟩ := at_app hat
      obtain ⟨h3, h4, -, -, h5⟩ := at_hd h2
      have h4 : kf (i + (bT (tkT d (trL x))).length) = 26 := h4
      rw [List.length_append, c_len] at f hle ⊢
      have ea : i + ((bT (tkT d (trL x))).length + (1 + (bT (tkT d (trR x))).length)) = i + (bT (tkT d (trL x))).length + 1 + (bT (tkT d (trR x))).length := by omega
      have f' := f
      rw [ea] at f'
      have va := bT_ok (es := es) (st := st) (nm := nm) (E := E) (n := m + 1) (q := q) T h1 (by omega) (fun g1 g2 => ih (trL x) (m + 1) (q + 1) (i + 1) (w4 hA) g1 (by omega) (by omega) g2)
      have vb := bT_ok (es := es) (st := st) (nm := nm) (E := E) (n := m + 1) (q := q) T h5 (by omega) (fun g1 g2 => ih (trR x) (m + 1) (q + 1) _ (w5 hB) g1 (by omega) (by omega) g2)
      exact testTwo T rfl (by omega) (bothOne T (by omega) va (by rw [h4]; decide)) h4 (bothOne T (by omega) vb f'.1) f'.2.1
end TREES
