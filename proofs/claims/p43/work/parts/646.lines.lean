/-! PURE: the lines that the law tells: empires, finds, springs (a kind, three numbers), orders; their tokens, their text, what they tell. -/
abbrev Ln : Type := Nat × Nat × Nat × Nat
abbrev Or : Type := Nat × Tr 2 × Option (Tr 4)
abbrev oK (o : Or) : Nat := o.1
abbrev oS (o : Or) : Tr 2 := o.2.1
abbrev oT (o : Or) : Option (Tr 4) := o.2.2
/-- what a line adds -/
def adE (t : Tl) (a b : Nat) : Tl := ((tN t, tM t, tE t + 1, tF t), tCu t, tFi t, tSp t, tCo t, tDe t, va_up (tFr t) (tE t) (nI a), va_up (tTo t) (tE t) (nI b))
def adF (t : Tl) (co : Bool) (c d : Nat) : Tl := ((tN t, tM t, tE t, tF t + 1), va_up (tCu t) (tF t) c, va_up (tFi t) c (some (tF t)), tSp t, va_up (tCo t) (tF t) co, va_up (tDe t) (tF t) (nI d), tFr t, tTo t)
def adS (t : Tl) (c : Nat) : Tl := ((tN t, tM t, tE t, tF t), tCu t, tFi t, va_up (tSp t) c true, tCo t, tDe t, tFr t, tTo t)
def adL (t : Tl) (a : Ln) : Tl := match a.1 with
  | 0 => adE t a.2.2.1 a.2.2.2
  | 1 => adF t true (a.2.1 * 10 + a.2.2.1) a.2.2.2
  | 2 => adF t false (a.2.1 * 10 + a.2.2.1) a.2.2.2
  | _ => adS t (a.2.1 * 10 + a.2.2.1)
/-- a line that can be told -/
def okL (t : Tl) (a : Ln) : Prop := match a.1 with
  | 0 => a.2.1 = tE t ∧ tE t < 3 ∧ a.2.2.1 ≤ a.2.2.2 ∧ a.2.2.2 ≤ 999
  | 1 => a.2.1 < tN t ∧ a.2.2.1 < tM t ∧ tFi t (a.2.1 * 10 + a.2.2.1) = none ∧ tF t < 24 ∧ a.2.2.2 ≤ 999
  | 2 => a.2.1 < tN t ∧ a.2.2.1 < tM t ∧ tFi t (a.2.1 * 10 + a.2.2.1) = none ∧ tF t < 24 ∧ a.2.2.2 < tE t
  | _ => a.2.1 < tN t ∧ a.2.2.1 < tM t ∧ tSp t (a.2.1 * 10 + a.2.2.1) = false
theorem wf_adE {t : Tl} (wt : wfT t) (h : tE t < 3) (a b : Nat) : wfT (adE t a b) := by
  obtain ⟨h1, h2, h3, h4, h5, h6, h7⟩ := wt
  refine ⟨h1, h2, ?_, h4, h5, h6, fun f hf hc => ?_⟩
  · show tE t + 1 ≤ 6
    omega
  · obtain ⟨e, he, hd⟩ := h7 f hf hc
    exact ⟨e, Nat.lt_succ_of_lt he, hd⟩
theorem wf_adF {t : Tl} (wt : wfT t) {co : Bool} {s j d : Nat} (hs : s < tN t) (hj : j < tM t) (hn : tFi t (s * 10 + j) = none) (hF : tF t < 24) (hd : co = false → d < tE t) : wfT (adF t co (s * 10 + j) d) := by
  obtain ⟨h1, h2, h3, h4, h5, h6, h7⟩ := wt
  have hc : s * 10 + j < 80 := by omega
  refine ⟨h1, h2, h3, ?_, fun f hf => ?_, fun c f hc2 hfi => ?_, fun f hf hco => ?_⟩
  · show tF t + 1 ≤ 24
    omega
  · have hf : f < tF t + 1 := hf
    show va_up (tCu t) (tF t) (s * 10 + j) f < 80 ∧ va_up (tFi t) (s * 10 + j) (some (tF t)) (va_up (tCu t) (tF t) (s * 10 + j) f) = some f ∧ va_up (tCu t) (tF t) (s * 10 + j) f % 10 < tM t ∧ va_up (tCu t) (tF t) (s * 10 + j) f / 10 < tN t
    by_cases z : f = tF t
    · subst z
      rw [va_up_self, va_up_self]
      exact ⟨hc, rfl, by omega, by omega⟩
    · rw [va_up_ne _ _ z]
      obtain ⟨a1, a2, a3, a4⟩ := h5 f (by omega)
      refine ⟨a1, ?_, a3, a4⟩
      rw [va_up_ne _ _ (fun y => by rw [y, hn] at a2; cases a2)]
      exact a2
  · have hfi : va_up (tFi t) (s * 10 + j) (some (tF t)) c = some f := hfi
    show f < tF t + 1 ∧ va_up (tCu t) (tF t) (s * 10 + j) f = c
    by_cases z : c = s * 10 + j
    · subst z
      rw [va_up_self] at hfi
      obtain rfl := Option.some.inj hfi
      rw [va_up_self]
      exact ⟨Nat.lt_succ_self _, rfl⟩
    · rw [va_up_ne _ _ z] at hfi
      obtain ⟨a1, a2⟩ := h6 c f hc2 hfi
      rw [va_up_ne _ _ (by omega)]
      exact ⟨by omega, a2⟩
  · have hf : f < tF t + 1 := hf
    have hco : va_up (tCo t) (tF t) co f = false := hco
    show ∃ e, e < tE t ∧ va_up (tDe t) (tF t) (nI d) f = nI e
    by_cases z : f = tF t
    · subst z
      rw [va_up_self] at hco ⊢
      exact ⟨d, hd hco, rfl⟩
    · rw [va_up_ne _ _ z] at hco ⊢
      exact h7 f (by omega) hco
theorem wf_adS {t : Tl} (wt : wfT t) (c : Nat) : wfT (adS t c) := wt
theorem wf_adL {t : Tl} (wt : wfT t) {a : Ln} (h : okL t a) : wfT (adL t a) := by
  obtain ⟨k, x, y, z⟩ := a
  match k, h with
  | 0, h => exact wf_adE wt h.2.1 y z
  | 1, h => exact wf_adF wt h.1 h.2.1 h.2.2.1 h.2.2.2.1 (fun q => by cases q)
  | 2, h => exact wf_adF wt h.1 h.2.1 h.2.2.1 h.2.2.2.1 (fun _ => h.2.2.2.2)
  | n + 3, h => exact wf_adS wt _
theorem adL_nm {t : Tl} {a : Ln} : tN (adL t a) = tN t ∧ tM (adL t a) = tM t := by
  obtain ⟨k, x, y, z⟩ := a
  match k with
  | 0 => exact ⟨rfl, rfl⟩
  | 1 => exact ⟨rfl, rfl⟩
  | 2 => exact ⟨rfl, rfl⟩
  | n + 3 => exact ⟨rfl, rfl⟩
/-- the tokens of a line, but for its semicolon -/
def lnT (a : Ln) : List Tk := match a.1 with
  | 0 => [t0 2, (44, 0, 556 + a.2.1), t0 3, (45, a.2.2.1, 0), t0 4, (45, a.2.2.2, 0)]
  | 1 => [t0 5, t0 8, (45, a.2.1, 0), t0 34, (45, a.2.2.1, 0), t0 9, (45, a.2.2.2, 0)]
  | 2 => [t0 6, t0 8, (45, a.2.1, 0), t0 34, (45, a.2.2.1, 0), t0 10, (44, 0, 556 + a.2.2.2)]
  | _ => [t0 7, t0 8, (45, a.2.1, 0), t0 34, (45, a.2.2.1, 0)]
def orT (o : Or) : List Tk := t0 (11 + oK o) :: (tkT 2 (oS o) ++ (match oT o with | none => [] | some y => t0 14 :: tkT 4 y))
/-- their text -/
def plX (s j : Nat) : List Nat := [] ++ kTl 40 ++ decL s ++ kTl 41 ++ decL j
def lnX (a : Ln) : List Nat := match a.1 with
  | 0 => kTl 36 ++ (decL a.2.1 ++ (kTl 37 ++ (decL a.2.2.1 ++ (kTl 38 ++ (decL a.2.2.2 ++ kTl 39)))))
  | 1 => kTl 43 ++ (plX a.2.1 a.2.2.1 ++ (kTl 45 ++ (decL a.2.2.2 ++ kTl 35)))
  | 2 => kTl 44 ++ (plX a.2.1 a.2.2.1 ++ (kTl 46 ++ (decL a.2.2.2 ++ kTl 35)))
  | _ => kTl 42 ++ (plX a.2.1 a.2.2.1 ++ kTl 39)
def whX (o : Option (Tr 4)) : List Nat := match o with | none => kTl 50 | some y => [] ++ kTl 51 ++ txT 4 y
def orX (o : Or) : List Nat := kTl (47 + oK o) ++ (txT 2 (oS o) ++ (whX (oT o) ++ kTl 39))
/-- the header -/
def hdX (n m : Nat) : List Nat := [] ++ kTl 33 ++ decL n ++ kTl 34 ++ decL m ++ kTl 35
def hdT (n m : Nat) : List Tk := [t0 0, (45, n, 0), t0 1, (45, m, 0), t0 33]
def t00 (n m : Nat) : Tl := ((n, m, 0, 0), fun _ => 0, fun _ => none, fun _ => false, fun _ => false, fun _ => 0, fun _ => 0, fun _ => 0)
/-- lines one behind another, each one that can be told -/
def okA : Tl → List Ln → Prop
  | _, [] => True
  | t, a :: r => okL t a ∧ okA (adL t a) r
def adA : Tl → List Ln → Tl
  | t, [] => t
  | t, a :: r => adA (adL t a) r
def lnsT : List Ln → List Tk
  | [] => []
  | a :: r => lnT a ++ (t0 33 :: lnsT r)
def lnsX : List Ln → List Nat
  | [] => []
  | a :: r => lnX a ++ lnsX r
theorem adA_snoc : ∀ (l : List Ln) (t : Tl) (a : Ln), adA t (l ++ [a]) = adL (adA t l) a
  | [], _, _ => rfl
  | b :: l, t, a => adA_snoc l (adL t b) a
theorem okA_snoc : ∀ (l : List Ln) (t : Tl) (a : Ln), okA t l → okL (adA t l) a → okA t (l ++ [a])
  | [], _, _, _, h => ⟨h, trivial⟩
  | b :: l, t, a, h, h2 => ⟨h.1, okA_snoc l (adL t b) a h.2 h2⟩
theorem lnsX_snoc : ∀ (l : List Ln) (a : Ln), lnsX (l ++ [a]) = lnsX l ++ lnX a
  | [], a => by show lnX a ++ [] = [] ++ lnX a; rw [List.append_nil]; rfl
  | b :: l, a => by
    show lnX b ++ lnsX (l ++ [a]) = (lnX b ++ lnsX l) ++ lnX a
    rw [lnsX_snoc l a, List.append_assoc]
theorem wf_adA : ∀ (l : List Ln) (t : Tl), wfT t → okA t l → wfT (adA t l)
  | [], _, w, _ => w
  | a :: l, t, w, h => wf_adA l (adL t a) (wf_adL w h.1) h.2
theorem wf_00 {n m : Nat} (hn : 2 ≤ n ∧ n ≤ 8) (hm : 2 ≤ m ∧ m ≤ 10) : wfT (t00 n m) := by
  refine ⟨hn, hm, Nat.zero_le _, Nat.zero_le _, fun f hf => absurd hf (Nat.not_lt_zero f), fun c f _ h => ?_, fun f hf => absurd hf (Nat.not_lt_zero f)⟩
  cases h
theorem lnT_le (a : Ln) : (lnT a).length ≤ 7 := by
  obtain ⟨k, x, y, z⟩ := a
  match k with
  | 0 => exact Nat.le_of_ble_eq_true rfl
  | 1 => exact Nat.le_of_ble_eq_true rfl
  | 2 => exact Nat.le_of_ble_eq_true rfl
  | n + 3 => exact Nat.le_of_ble_eq_true rfl
theorem lnsT_le : ∀ (l : List Ln), (lnsT l).length ≤ 8 * l.length
  | [] => Nat.zero_le _
  | a :: l => by
    have h1 := lnT_le a
    have h2 := lnsT_le l
    show (lnT a ++ (t0 33 :: lnsT l)).length ≤ 8 * (l.length + 1)
    rw [List.length_append, List.length_cons]
    omega
/-! orders -/
def okO (e : Nat) (o : Or) : Prop := oK o ≤ 2 ∧ trW e 2 false (oS o) ∧ ∀ y, oT o = some y → trW e 4 true y
def orsT : List Or → List Tk
  | [] => []
  | o :: r => orT o ++ (t0 33 :: orsT r)
def orsX : List Or → List Nat
  | [] => []
  | o :: r => orX o ++ orsX r
theorem orsX_snoc : ∀ (l : List Or) (a : Or), orsX (l ++ [a]) = orsX l ++ orX a
  | [], a => by show orX a ++ [] = [] ++ orX a; rw [List.append_nil]; rfl
  | b :: l, a => by
    show orX b ++ orsX (l ++ [a]) = (orX b ++ orsX l) ++ orX a
    rw [orsX_snoc l a, List.append_assoc]
theorem orT_le {e : Nat} {o : Or} (h : okO e o) : (orT o).length ≤ 68 := by
  obtain ⟨k, x, te⟩ := o
  obtain ⟨h1, h2, h3⟩ := h
  have := uS_2 h2
  show (t0 (11 + k) :: (tkT 2 x ++ _)).length ≤ 68
  rw [List.length_cons, List.length_append]
  have hx : (tkT 2 x).length ≤ 11 := this
  cases te with
  | none =>
    show _ + 0 + 1 ≤ 68
    omega
  | some y =>
    have := uT_4 (h3 y rfl)
    show _ + (t0 14 :: tkT 4 y).length + 1 ≤ 68
    rw [List.length_cons]
    omega
theorem orsT_le {e : Nat} : ∀ (l : List Or), (∀ o, o ∈ l → okO e o) → (orsT l).length ≤ 69 * l.length
  | [], _ => Nat.zero_le _
  | a :: l, h => by
    have h1 := orT_le (h a List.mem_cons_self)
    have h2 := orsT_le l (fun o ho => h o (List.mem_cons_of_mem _ ho))
    show (orT a ++ (t0 33 :: orsT l)).length ≤ 69 * (l.length + 1)
    rw [List.length_append, List.length_cons]
    omega
/-- the plan of the orders: each order's steps behind those of the ones before -/
def orP (o : Or) : List (Nat × Int32) := match oT o with | none => pf 2 (oS o) | some y => pf 2 (oS o) ++ pf 4 y
def adO (p : Pn) (o : Or) : Pn := ((pO p + 1, pS p + (orP o).length), (fun i => if i < pS p then pK p i else ((orP o).getD (i - pS p) (0, 0)).1), (fun i => if i < pS p then pD p i else ((orP o).getD (i - pS p) (0, 0)).2), va_up (pKd p) (pO p) (11 + oK o), va_up (pE1 p) (pO p) (pS p + (pf 2 (oS o)).length), va_up (pE2 p) (pO p) (pS p + (orP o).length))
def adP : Pn → List Or → Pn
  | p, [] => p
  | p, o :: r => adP (adO p o) r
/-- the orders as functions -/
def odL (l : List Or) : Od := (l.length, fun i => oK (l.getD i (0, tr0 2, none)), fun i => oS (l.getD i (0, tr0 2, none)), fun i => oT (l.getD i (0, tr0 2, none)))
def goodP (p : Pn) (l : List Or) : Prop := odP p (odL l) ∧ be0 p (pO p) = pS p ∧ ∀ i, i < pO p → pE2 p i ≤ pS p
theorem cd_ext {ks ks' : Nat → Nat} {ds ds' : Nat → Int32} {s n : Nat} {l : List (Nat × Int32)} (h : cdAt ks ds s l) (hn : s + l.length ≤ n) (e : ∀ i, i < n → ks' i = ks i ∧ ds' i = ds i) : cdAt ks' ds' s l := by
  intro i hi
  rw [(e _ (by omega)).1, (e _ (by omega)).2]
  exact h i hi
theorem cd_new {l u : List (Nat × Int32)} {f : Nat → Nat} {g : Nat → Int32} {s : Nat} : cdAt (fun i => if i < s then f i else ((l ++ u).getD (i - s) (0, 0)).1) (fun i => if i < s then g i else ((l ++ u).getD (i - s) (0, 0)).2) s l := by
  intro i hi
  dsimp only
  rw [if_neg (by omega), if_neg (by omega), Nat.add_sub_cancel_left, gD_app hi]
  exact ⟨rfl, fun _ => rfl⟩
theorem cd_new2 {l u : List (Nat × Int32)} {f : Nat → Nat} {g : Nat → Int32} {s : Nat} : cdAt (fun i => if i < s then f i else ((l ++ u).getD (i - s) (0, 0)).1) (fun i => if i < s then g i else ((l ++ u).getD (i - s) (0, 0)).2) (s + l.length) u := by
  intro i hi
  dsimp only
  rw [if_neg (by omega), if_neg (by omega), show s + l.length + i - s = l.length + i by omega, gD_app2]
  exact ⟨rfl, fun _ => rfl⟩
theorem good_ad {p : Pn} {l : List Or} (h : goodP p l) (o : Or) : goodP (adO p o) (l ++ [o]) := by
  obtain ⟨⟨h1, h2⟩, h3, h4⟩ := h
  have hl : pO p = l.length := h1
  have len : (odL (l ++ [o])).1 = l.length + 1 := by
    show (l ++ [o]).length = _
    rw [List.length_append]
    rfl
  have e2at : ∀ i, va_up (pE2 p) (pO p) (pS p + (orP o).length) i = if i = pO p then pS p + (orP o).length else pE2 p i := fun i => rfl
  have be : ∀ i, i ≤ pO p → be0 (adO p o) i = be0 p i := fun i hi => by
    unfold be0
    by_cases z : i = 0
    · rw [if_pos z, if_pos z]
    · rw [if_neg z, if_neg z]
      show va_up (pE2 p) (pO p) (pS p + (orP o).length) (i - 1) = _
      rw [va_up_ne _ _ (by omega)]
  have olen : (pf 2 (oS o)).length ≤ (orP o).length := by
    unfold orP
    cases oT o with
    | none => exact Nat.le_refl _
    | some y =>
      show _ ≤ (pf 2 (oS o) ++ pf 4 y).length
      rw [List.length_append]
      exact Nat.le_add_right _ _
  refine ⟨⟨?_, fun i hi => ?_⟩, ?_, fun i hi => ?_⟩
  · show pO p + 1 = (l ++ [o]).length
    rw [List.length_append, hl]
    rfl
  · rw [len] at hi
    rw [be i (by omega)]
    rcases Nat.lt_or_ge i l.length with z | z
    · obtain ⟨g1, ⟨g2, g3⟩, g4, g5⟩ := h2 i z
      have b1 := h4 i (by omega)
      have eo : (l ++ [o]).getD i (0, tr0 2, none) = l.getD i (0, tr0 2, none) := gD_app z
      have ex : ∀ j, j < pS p → pK (adO p o) j = pK p j ∧ pD (adO p o) j = pD p j := fun j hj => ⟨if_pos hj, if_pos hj⟩
      have n1 : i ≠ pO p := by omega
      have x1 : pE1 (adO p o) i = pE1 p i := va_up_ne _ _ n1
      have x2 : pE2 (adO p o) i = pE2 p i := va_up_ne _ _ n1
      have x3 : pKd (adO p o) i = pKd p i := va_up_ne _ _ n1
      have g3' : pE1 p i = be0 p i + (pf 2 (oS (l.getD i (0, tr0 2, none)))).length := g3
      have le1 : pE1 p i ≤ pE2 p i := by
        cases q : (odL l).2.2.2 i with
        | none => rw [g4 q]; exact Nat.le_refl _
        | some y => have := (g5 y q).2; omega
      rw [x1, x2, x3]
      refine ⟨?_, ⟨?_, ?_⟩, ?_, fun y hy => ?_⟩
      · show pKd p i = 11 + oK ((l ++ [o]).getD i (0, tr0 2, none))
        rw [eo]; exact g1
      · show cdAt _ _ (be0 p i) (pf 2 (oS ((l ++ [o]).getD i (0, tr0 2, none))))
        rw [eo]
        exact cd_ext g2 (n := pS p) (by show be0 p i + (pf 2 (oS (l.getD i (0, tr0 2, none)))).length ≤ _; omega) ex
      · show pE1 p i = be0 p i + (pf 2 (oS ((l ++ [o]).getD i (0, tr0 2, none)))).length
        rw [eo]; exact g3
      · show oT ((l ++ [o]).getD i (0, tr0 2, none)) = none → _
        rw [eo]; exact g4
      · have hy : oT ((l ++ [o]).getD i (0, tr0 2, none)) = some y := hy
        rw [eo] at hy
        obtain ⟨g6, g7⟩ := g5 y hy
        exact ⟨cd_ext g6 (n := pS p) (by omega) ex, g7⟩
    · have z : i = l.length := by omega
      have hp : i = pO p := by omega
      have eo : (l ++ [o]).getD i (0, tr0 2, none) = o := by
        rw [z, show l.length = l.length + 0 from rfl, gD_app2]
        rfl
      have x1 : pE1 (adO p o) i = pS p + (pf 2 (oS o)).length := if_pos hp
      have x2 : pE2 (adO p o) i = pS p + (orP o).length := if_pos hp
      have x3 : pKd (adO p o) i = 11 + oK o := if_pos hp
      have bi : be0 p i = pS p := by rw [hp]; exact h3
      rw [x1, x2, x3, bi]
      refine ⟨?_, ⟨?_, ?_⟩, ?_, fun y hy => ?_⟩
      · show _ = 11 + oK ((l ++ [o]).getD i (0, tr0 2, none))
        rw [eo]
      · show cdAt _ _ (pS p) (pf 2 (oS ((l ++ [o]).getD i (0, tr0 2, none))))
        rw [eo]
        show cdAt (fun i => if i < pS p then pK p i else ((orP o).getD (i - pS p) (0, 0)).1) (fun i => if i < pS p then pD p i else ((orP o).getD (i - pS p) (0, 0)).2) (pS p) (pf 2 (oS o))
        unfold orP
        cases q : oT o with
        | none =>
          have := cd_new (l := pf 2 (oS o)) (u := []) (f := pK p) (g := pD p) (s := pS p)
          rw [List.append_nil] at this
          exact this
        | some y => exact cd_new
      · show _ = pS p + (pf 2 (oS ((l ++ [o]).getD i (0, tr0 2, none)))).length
        rw [eo]
      · show oT ((l ++ [o]).getD i (0, tr0 2, none)) = none → _
        rw [eo]
        intro q
        unfold orP
        rw [q]
      · have hy : oT ((l ++ [o]).getD i (0, tr0 2, none)) = some y := hy
        rw [eo] at hy
        refine ⟨?_, ?_⟩
        · show cdAt (fun i => if i < pS p then pK p i else ((orP o).getD (i - pS p) (0, 0)).1) (fun i => if i < pS p then pD p i else ((orP o).getD (i - pS p) (0, 0)).2) (pS p + (pf 2 (oS o)).length) (pf 4 y)
          unfold orP
          rw [hy]
          exact cd_new2
        · unfold orP
          rw [hy]
          show pS p + (pf 2 (oS o) ++ pf 4 y).length = _
          rw [List.length_append, Nat.add_assoc]
  · show be0 (adO p o) (pO p + 1) = pS p + (orP o).length
    unfold be0
    rw [if_neg (by omega)]
    show va_up (pE2 p) (pO p) (pS p + (orP o).length) (pO p + 1 - 1) = _
    rw [Nat.add_sub_cancel, va_up_self]
  · have hi : i < pO p + 1 := hi
    show va_up (pE2 p) (pO p) (pS p + (orP o).length) i ≤ pS p + (orP o).length
    by_cases z : i = pO p
    · rw [z, va_up_self]
      exact Nat.le_refl _
    · rw [va_up_ne _ _ z]
      have := h4 i (by omega)
      omega
theorem good_adP : ∀ (r l : List Or) (p : Pn), goodP p l → goodP (adP p r) (l ++ r)
  | [], l, p, h => by rw [List.append_nil]; exact h
  | o :: r, l, p, h => by
    have := good_adP r (l ++ [o]) (adO p o) (good_ad h o)
    rw [List.append_assoc] at this
    exact this
theorem good_0 : goodP pZ [] := ⟨⟨rfl, fun i hi => absurd hi (Nat.not_lt_zero i)⟩, rfl, fun i hi => absurd hi (Nat.not_lt_zero i)⟩
theorem odW_L {e : Nat} {l : List Or} (h : ∀ o, o ∈ l → okO e o) (h4 : l.length ≤ 4) : odW e (odL l) := by
  refine ⟨h4, fun i hi => ?_⟩
  have hi : i < l.length := hi
  have hm : l.getD i (0, tr0 2, none) ∈ l := by
    rw [List.getD_eq_getElem?_getD, List.getElem?_eq_getElem hi]
    exact List.getElem_mem hi
  exact h _ hm
theorem orP_le {e : Nat} {o : Or} (h : okO e o) : (orP o).length ≤ (orT o).length := by
  obtain ⟨k, x, te⟩ := o
  obtain ⟨h1, h2, h3⟩ := h
  have a1 := pf_le _ _ _ h2
  have a1 : (pf 2 x).length ≤ (tkT 2 x).length := a1
  cases te with
  | none =>
    show (pf 2 x).length ≤ (t0 (11 + k) :: (tkT 2 x ++ [])).length
    rw [List.length_cons, List.length_append]
    omega
  | some y =>
    have a2 := pf_le _ _ _ (h3 y rfl)
    show (pf 2 x ++ pf 4 y).length ≤ (t0 (11 + k) :: (tkT 2 x ++ (t0 14 :: tkT 4 y))).length
    rw [List.length_cons, List.length_append, List.length_append, List.length_cons]
    omega
