/-! the grammar, both: what a reader does from a token on -/
def tyL : List (Nat × Nat) → List Bool → Option (List Bool)
  | [], bs => some bs
  | a :: r, bs => match tyS a.1 bs with
    | none => none
    | some bs' => tyL r bs'
theorem tyL_app {L1 L2 : List (Nat × Nat)} : ∀ {bs b1 : List Bool}, tyL L1 bs = some b1 → tyL (L1 ++ L2) bs = tyL L2 b1 := by
  induction L1 with
  | nil => intro bs b1 h; cases h; rfl
  | cons a r ih =>
    intro bs b1 h
    show (match tyS a.1 bs with | none => none | some bs' => tyL (r ++ L2) bs') = _
    unfold tyL at h
    rcases e : tyS a.1 bs with _ | bs'
    · rw [e] at h; cases h
    · rw [e] at h; exact ih h
theorem tyL_one {a : Nat × Nat} {bs b1 : List Bool} (h : tyS a.1 bs = some b1) : tyL [a] bs = some b1 := by
  unfold tyL
  rw [h]; rfl
/-- steps put behind -/
def apF (g : Nat × Nat → Int32) : (Nat → Int32) → Nat → List (Nat × Nat) → Nat → Int32
  | f, _, [] => f
  | f, m, a :: r => apF g (upd f m (g a)) (m + 1) r
theorem apF_app (g : Nat × Nat → Int32) (L2 : List (Nat × Nat)) : ∀ (L1 : List (Nat × Nat)) (f : Nat → Int32) (m : Nat), apF g f m (L1 ++ L2) = apF g (apF g f m L1) (m + L1.length) L2 := by
  intro L1
  induction L1 with
  | nil => intro f m; rfl
  | cons a r ih =>
    intro f m
    show apF g (upd f m (g a)) (m + 1) (r ++ L2) = apF g (apF g (upd f m (g a)) (m + 1) r) (m + (r.length + 1)) L2
    rw [ih, show m + 1 + r.length = m + (r.length + 1) by omega]
theorem apF_one (g : Nat × Nat → Int32) (a : Nat × Nat) (L1 : List (Nat × Nat)) (f : Nat → Int32) (m : Nat) : apF g f m (L1 ++ [a]) = upd (apF g f m L1) (m + L1.length) (g a) := by
  rw [apF_app]; rfl
theorem apF_lo (g : Nat × Nat → Int32) : ∀ (L : List (Nat × Nat)) (f : Nat → Int32) (m i : Nat), i < m → apF g f m L i = f i := by
  intro L
  induction L with
  | nil => intro f m i h; rfl
  | cons a r ih =>
    intro f m i h
    show apF g (upd f m (g a)) (m + 1) r i = f i
    rw [ih _ _ _ (by omega), un (by omega)]
theorem apF_at (g : Nat × Nat → Int32) : ∀ (L : List (Nat × Nat)) (f : Nat → Int32) (m i : Nat), i < L.length → apF g f m L (m + i) = g (L.getD i (0, 0)) := by
  intro L
  induction L with
  | nil => intro f m i h; exact absurd h (Nat.not_lt_zero i)
  | cons a r ih =>
    intro f m i h
    show apF g (upd f m (g a)) (m + 1) r (m + i) = _
    rcases i with _ | i
    · rw [apF_lo _ _ _ _ _ (by omega), Nat.add_zero, us]; rfl
    · rw [show m + (i + 1) = m + 1 + i by omega, ih _ _ _ (by simpa using h)]; rfl
/-- the names known: empires by their names -/
def emF (nm : Nat → Int64) (v : Int64) : Nat → Option Nat
  | 0 => none
  | n + 1 => match emF nm v n with
    | some e => some e
    | none => if nm n = v then some n else none
theorem emF_none {nm : Nat → Int64} {v : Int64} : ∀ {n : Nat}, emF nm v n = none → ∀ j, j < n → nm j ≠ v
  | 0, _, j, hj => absurd hj (Nat.not_lt_zero j)
  | n + 1, h, j, hj => by
    unfold emF at h
    rcases z : emF nm v n with _ | e'
    · rw [z] at h
      by_cases y : nm n = v
      · rw [show (match (none : Option Nat) with | some e => some e | none => if nm n = v then some n else none) = (if nm n = v then some n else none) from rfl, if_pos y] at h
        cases h
      · rcases Nat.lt_or_ge j n with w | w
        · exact emF_none z j w
        · have : j = n := by omega
          subst this; exact y
    · rw [z] at h; cases h
theorem emF_some {nm : Nat → Int64} {v : Int64} : ∀ {n e : Nat}, emF nm v n = some e → e < n ∧ nm e = v ∧ ∀ j, j < e → nm j ≠ v
  | 0, e, h => by cases h
  | n + 1, e, h => by
    unfold emF at h
    rcases z : emF nm v n with _ | e'
    · rw [z] at h
      by_cases y : nm n = v
      · rw [show (match (none : Option Nat) with | some e => some e | none => if nm n = v then some n else none) = (if nm n = v then some n else none) from rfl, if_pos y] at h
        cases h
        refine ⟨by omega, y, fun j hj => ?_⟩
        exact emF_none z j hj
      · rw [show (match (none : Option Nat) with | some e => some e | none => if nm n = v then some n else none) = (if nm n = v then some n else none) from rfl, if_neg y] at h
        cases h
    · rw [z] at h
      cases h
      have t := emF_some z
      exact ⟨by omega, t.2⟩

/-- the first fault of meaning among the names from p on -/
def bdN (x : Tn) (E : Nat) (nm : Nat → Int64) (i : Nat) : Bool := decide (kN x i = 44) && (emF nm (cN x i) E).isNone
def erN (x : Tn) (bd : Nat → Bool) : Nat → Nat → Int32 × Int32 → Int32 × Int32
  | 0, _, e => e
  | n + 1, p, e => erN x bd n (p + 1) (if e.1 = 0 ∧ bd p = true then (3, nI (sN x p)) else e)
def erF (x : Tn) (bd : Nat → Bool) (p q : Nat) (e : Int32 × Int32) : Int32 × Int32 := erN x bd (q - p) p e
theorem erN_add {x : Tn} {bd : Nat → Bool} : ∀ (a b p : Nat) (e : Int32 × Int32), erN x bd (a + b) p e = erN x bd b (p + a) (erN x bd a p e)
  | 0, b, p, e => by rw [Nat.zero_add]; rfl
  | a + 1, b, p, e => by
    rw [show a + 1 + b = (a + b) + 1 by omega, show p + (a + 1) = p + 1 + a by omega]
    exact erN_add a b (p + 1) _
theorem erF_join {x : Tn} {bd : Nat → Bool} {p q r : Nat} {e : Int32 × Int32} (h : p ≤ q) (h' : q ≤ r) : erF x bd q r (erF x bd p q e) = erF x bd p r e := by
  unfold erF
  rw [show r - p = (q - p) + (r - q) by omega, erN_add, show p + (q - p) = q by omega]
theorem erF_same {x : Tn} {bd : Nat → Bool} {p : Nat} {e : Int32 × Int32} : erF x bd p p e = e := by
  unfold erF
  rw [Nat.sub_self]; rfl
theorem erF_one {x : Tn} {bd : Nat → Bool} {p : Nat} {e : Int32 × Int32} : erF x bd p (p + 1) e = if e.1 = 0 ∧ bd p = true then (3, nI (sN x p)) else e := by
  unfold erF
  rw [show p + 1 - p = 1 by omega]; rfl
theorem erF_no {x : Tn} {E : Nat} {nm : Nat → Int64} {p : Nat} {e : Int32 × Int32} (h : kN x p ≠ 44) : erF x (bdN x E nm) p (p + 1) e = e := by
  rw [erF_one, if_neg]
  rintro ⟨_, z⟩
  unfold bdN at z
  rw [decide_eq_false h] at z; cases z
theorem erF_ne {x : Tn} {bd : Nat → Bool} {p q : Nat} {e : Int32 × Int32} (h : e.1 ≠ 1) : (erF x bd p q e).1 ≠ 1 := by
  unfold erF
  generalize q - p = n
  induction n generalizing p e with
  | zero => exact h
  | succ n ih =>
    refine ih (p := p + 1) ?_
    split
    · exact (show (3 : Int32) ≠ 1 by decide)
    · exact h
/-- no fault: no bad name -/
theorem erF_0 {x : Tn} {bd : Nat → Bool} {p q : Nat} {e : Int32 × Int32} (h : (erF x bd p q e).1 = 0) : e.1 = 0 ∧ erF x bd p q e = e ∧ ∀ i, p ≤ i → i < q → bd i = false := by
  have key : ∀ n p (e : Int32 × Int32), (erN x bd n p e).1 = 0 → e.1 = 0 ∧ erN x bd n p e = e ∧ ∀ i, p ≤ i → i < p + n → bd i = false := by
    intro n
    induction n with
    | zero => intro p e h; exact ⟨h, rfl, fun i h1 h2 => by omega⟩
    | succ n ih =>
      intro p e h
      have t := ih (p + 1) _ h
      have e1 : ¬ (e.1 = 0 ∧ bd p = true) := by
        intro z
        have t1 := t.1
        rw [if_pos z] at t1
        exact absurd t1 (show ¬ (3 : Int32) = 0 by decide)
      rw [if_neg e1] at t
      have e2 : erN x bd (n + 1) p e = erN x bd n (p + 1) e := by
        show erN x bd n (p + 1) (if e.1 = 0 ∧ bd p = true then (3, nI (sN x p)) else e) = _
        rw [if_neg e1]
      refine ⟨t.1, e2.trans t.2.1, fun i h1 h2 => ?_⟩
      rcases Nat.lt_or_ge p i with z | z
      · exact t.2.2 i (by omega) (by omega)
      · have : i = p := by omega
        subst this
        cases y : bd i
        · rfl
        · exact absurd ⟨t.1, y⟩ e1
  unfold erF at h ⊢
  have t := key (q - p) p e h
  exact ⟨t.1, t.2.1, fun i h1 h2 => t.2.2 i h1 (by omega)⟩
/-- the names' meanings -/
def meF (x : Tn) (p q : Nat) (me : Nat → Int32) : Nat → Int32 := fun i => if p ≤ i ∧ i < q ∧ kN x i = 44 then 12 else me i
theorem meF_join {x : Tn} {p q r : Nat} {me : Nat → Int32} (h : p ≤ q) (h' : q ≤ r) : meF x q r (meF x p q me) = meF x p r me := by
  funext i
  unfold meF
  by_cases a : q ≤ i ∧ i < r ∧ kN x i = 44
  · rw [if_pos a, if_pos ⟨by omega, a.2⟩]
  · rw [if_neg a]
    by_cases b : p ≤ i ∧ i < q ∧ kN x i = 44
    · rw [if_pos b, if_pos ⟨b.1, by omega, b.2.2⟩]
    · rw [if_neg b, if_neg]
      rintro ⟨c, d, e⟩
      rcases Nat.lt_or_ge i q with z | z
      · exact b ⟨c, z, e⟩
      · exact a ⟨z, d, e⟩
theorem meF_same {x : Tn} {p : Nat} {me : Nat → Int32} : meF x p p me = me := by
  funext i
  unfold meF
  rw [if_neg (by omega)]
theorem meF_no {x : Tn} {p : Nat} {me : Nat → Int32} (h : kN x p ≠ 44) : meF x p (p + 1) me = me := by
  funext i
  unfold meF
  rw [if_neg]
  rintro ⟨a, b, c⟩
  have : i = p := by omega
  subst this; exact h c
theorem meF_yes {x : Tn} {p : Nat} {me : Nat → Int32} (h : kN x p = 44) : meF x p (p + 1) me = upd me p 12 := by
  funext i
  unfold meF
  by_cases e : i = p
  · subst e
    rw [if_pos ⟨by omega, by omega, h⟩, us]
  · rw [if_neg (by omega), un e]
/-- a step's detail: the class's, the model's -/
def cDt (x : Tn) (E : Nat) (nm : Nat → Int64) (a : Nat × Nat) : Int32 := if a.1 = 45 then nI (vN x a.2) else if a.1 = 19 ∨ a.1 = 20 ∨ a.1 = 22 then fI (emF nm (cN x a.2) E) else 0
def cKd (a : Nat × Nat) : Int32 := nI a.1
def mKd (a : Nat × Nat) : Int32 := nI (trK a.1)
def mWt (x : Tn) (a : Nat × Nat) : Int32 := if a.1 = 45 then nI (vN x a.2) else if a.1 = 19 ∨ a.1 = 20 ∨ a.1 = 22 then nI a.2 else 0
section PRIM
variable {x : Tn} {ki st nu mk fr : Nat → Int32} {na va : Nat → Int64} {A B : Prop} {p : Nat}
theorem kN_b (wf : wfN x) (hp : p ≤ nN x) : kN x p < 49 ∧ kN x p ≠ 46 := by
  rcases Nat.lt_or_ge p (nN x) with h | h
  · have := wf.2.2.2.1 p h
    omega
  · have e : p = nN x := by omega
    subst e
    have := wf.2.1
    omega
theorem kN_lt (wf : wfN x) (hp : p ≤ nN x) (h : kN x p < 46) : p < nN x := by
  rcases Nat.lt_or_ge p (nN x) with z | z
  · exact z
  · have e : p = nN x := by omega
    subst e
    have := wf.2.1
    omega
theorem c_is (wf : wfN x) (hp : p ≤ nN x) (w : Nat) (f : kN x p = w → A) (g : kN x p ≠ w → B) {w' : Int32} (hw : w' = nI w := by rfl) (hb : w < 2 ^ 31 := by omega) : (nI (kN x p) = w' → A) ∧ (¬ nI (kN x p) = w' → B) := by
  have h := (kN_b wf hp).1
  exact pk_eq (kN x p) w f g rfl hw (by omega) hb
theorem m_is (wf : wfN x) (rm : rNm x mk fr va) (hp : p ≤ nN x) (w : Nat) (f : kN x p = w → A) (g : kN x p ≠ w → B) {w' : Int32} (hw : w' = nI (mkT w) := by rfl) (hb : w < 49 ∧ w ≠ 46 := by omega) : (mk (nI p).toNatClampNeg = w' → A) ∧ (¬ mk (nI p).toNatClampNeg = w' → B) := by
  have h := kN_b wf hp
  have n4 := wf.1
  rw [nI_clamp (by omega), (rm p hp).1, hw]
  have h1 := mkT_lt _ h.1
  have h2 := mkT_lt _ hb.1
  refine ⟨fun z => f (mkT_tab _ h.1 _ hb.1 h.2 hb.2 ((nI_eq (by omega) (by omega)).1 z)), fun z => g (fun y => z (by rw [y]))⟩
theorem c_adv (wf : wfN x) (rc : rNc x ki st nu na) (hp : p < nN x) {k : Int32} {K : (Int32 × Int32) → Prop} (kk : K (nI (p + 1), nI (kN x (p + 1)))) : wX3_advance ki (nI (nN x + 1)) (nI p) k K := by
  have n4 := wf.1
  unfold wX3_advance
  rw [nI_1, nI_clamp (by omega), (rc (p + 1) hp).1]
  exact pk_le (nN x + 1) (p + 1) (fun _ => by omega) (fun _ => br_f (nI_nlt (b := p + 1) (a := 400) (by omega) (by decide)) ⟨vp_in_nI (by omega) (by decide), kk⟩)
theorem c_ref (wf : wfN x) (rc : rNc x ki st nu na) (hp : p ≤ nN x) {k er es : Int32} (he : er ≠ 1) {K : (Int32 × Int32 × Int32) → Prop} (kk : K (48, 1, nI (sN x p))) : wX3_refuse st (nI p) k er es K := by
  have n4 := wf.1
  unfold wX3_refuse
  refine br_f he ⟨vp_in_nI (by omega) (by decide), ?_⟩
  unfold wX3_refuse_29
  rw [nI_clamp (by omega), (rc p hp).2.1]
  exact kk
theorem c_refB {a k es : Int32} {K : (Int32 × Int32 × Int32) → Prop} (kk : K (48, 1, es)) : wX3_refuse st a k 1 es K := by
  unfold wX3_refuse
  exact br_t rfl kk
theorem c_exp_y (wf : wfN x) (rc : rNc x ki st nu na) (hp : p ≤ nN x) {er es : Int32} (w : Nat) (h : kN x p = w) {w' : Int32} {K : (Int32 × Int32 × Int32 × Int32) → Prop} (kk : K (nI (p + 1), nI (kN x (p + 1)), er, es)) (hb : w < 46 := by omega) (hw : w' = nI w := by rfl) : wX3_expect ki st (nI (nN x + 1)) (nI p) (nI (kN x p)) er es w' K := by
  unfold wX3_expect
  exact bn_t (by rw [h, hw]) (c_adv wf rc (kN_lt wf hp (by omega)) kk)
theorem c_exp_n (wf : wfN x) (rc : rNc x ki st nu na) (hp : p ≤ nN x) {er es : Int32} (he : er ≠ 1) (w : Nat) (h : kN x p ≠ w) {w' : Int32} {K : (Int32 × Int32 × Int32 × Int32) → Prop} (kk : K (nI p, 48, 1, nI (sN x p))) (hb : w < 2 ^ 31 := by omega) (hw : w' = nI w := by rfl) : wX3_expect ki st (nI (nN x + 1)) (nI p) (nI (kN x p)) er es w' K := by
  have b := (kN_b wf hp).1
  unfold wX3_expect
  exact bn_f (fun z => h ((nI_eq (by omega) hb).1 (z.trans hw))) (c_ref wf rc hp he kk)
theorem c_exp_B {n a es : Int32} {w' : Int32} {K : (Int32 × Int32 × Int32 × Int32) → Prop} (kk : K (a, 48, 1, es)) (hw : ¬ (48 : Int32) = w' := by decide) : wX3_expect ki st n a 48 1 es w' K := by
  unfold wX3_expect
  exact bn_f hw (c_refB kk)
theorem c_push {m : Nat} (hm : m < 400) {sK sD : Nat → Int32} {k d : Int32} {K : (Int32 × (Nat → Int32) × (Nat → Int32)) → Prop} (kk : K (nI (m + 1), upd sK m k, upd sD m d)) : wX1_addStep (nI m) sK sD k d K := by
  unfold wX1_addStep
  refine br_f (nI_ge (b := 400) hm (by decide)) ⟨vp_in_nI hm (by decide), vp_in_nI hm (by decide), ?_⟩
  rw [nI_1, nI_clamp (by omega)]
  exact kk
theorem c_pushB {m : Nat} (hm : m ≤ 400) {sK sD : Nat → Int32} {k d : Int32} {K : (Int32 × (Nat → Int32) × (Nat → Int32)) → Prop} (kk : ∀ m' sK' sD', m' ≤ 400 → K (nI m', sK', sD')) : wX1_addStep (nI m) sK sD k d K := by
  by_cases h : m < 400
  · exact c_push h (kk _ _ _ (by omega))
  · unfold wX1_addStep
    exact br_t (nI_le (a := 400) (by omega) (by omega)) (kk _ _ _ hm)
theorem c_deep_y (wf : wfN x) (rc : rNc x ki st nu na) (hp : p ≤ nN x) {er es : Int32} (w : Nat) (h : kN x p = w) {d : Nat} (hd : d < 8) {w' : Int32} {K : Int32 → (Int32 × Int32 × Int32 × Int32) → Prop} (kk : K 1 (nI (p + 1), nI (kN x (p + 1)), er, es)) (hb : w < 46 := by omega) (hw : w' = nI w := by rfl) : wX3_goesDeeper ki st (nI (nN x + 1)) (nI p) (nI (kN x p)) er es w' (nI d) K := by
  unfold wX3_goesDeeper
  exact bn_t (by rw [h, hw]) (br_t (nI_lt (b := 8) hd (by decide)) (c_adv wf rc (kN_lt wf hp (by omega)) kk))
theorem c_deep_n (wf : wfN x) (rc : rNc x ki st nu na) (hp : p ≤ nN x) {er es : Int32} (he : er ≠ 1) (w : Nat) {d : Nat} (hd : d ≤ 8) (h : kN x p ≠ w ∨ d = 8) {w' : Int32} {K : Int32 → (Int32 × Int32 × Int32 × Int32) → Prop} (kk : K 0 (nI p, 48, 1, nI (sN x p))) (hb : w < 2 ^ 31 := by omega) (hw : w' = nI w := by rfl) : wX3_goesDeeper ki st (nI (nN x + 1)) (nI p) (nI (kN x p)) er es w' (nI d) K := by
  have b := (kN_b wf hp).1
  have rf : wX3_goesDeeper_14 K ki st (nI (nN x + 1)) (nI p) (nI (kN x p)) er es := c_ref wf rc hp he kk
  unfold wX3_goesDeeper
  refine ⟨fun _ => rf, fun z => ?_⟩
  have e : kN x p = w := (nI_eq (by omega) hb).1 (z.trans hw)
  have d8 : d = 8 := h.resolve_left (fun y => y e)
  subst d8
  exact br_f (by decide) rf
theorem c_deep_B {n a es d : Int32} {w' : Int32} {K : Int32 → (Int32 × Int32 × Int32 × Int32) → Prop} (kk : K 0 (a, 48, 1, es)) (hw : ¬ (48 : Int32) = w' := by decide) : wX3_goesDeeper ki st n a 48 1 es w' d K := by
  unfold wX3_goesDeeper
  exact bn_f hw (c_refB kk)
theorem c_emp {E : Nat} (hE : E ≤ 6) {nm : Nat → Int64} {v : Int64} {K : Int32 → Unit → Prop} (kk : K (fI (emF nm v E)) ()) : wX7_empireNamed (nI E) nm v K := by
  unfold wX7_empireNamed
  refine pk_loop (fun n i (_ : Unit) => wX7_empireNamed_2 K (nI E) nm n v (nI i)) (fun i _ => ∀ j, j < i → nm j ≠ v) E 0 () (Nat.zero_le _) (fun j h => absurd h (Nat.not_lt_zero j)) (fun n _ hy => ?_) (fun n i _ hi hy ih => ?_)
  · unfold wX7_empireNamed_2
    refine br_t (nI_le (Nat.le_refl E) (by omega)) ?_
    rcases e : emF nm v E with _ | k
    · rw [e] at kk; exact kk
    · have t := emF_some e
      exact absurd t.2.1 (hy k t.1)
  · unfold wX7_empireNamed_2
    refine br_f (nI_ge hi (by omega)) ⟨vp_in_nI (by omega) (by decide), ?_⟩
    rw [nI_clamp (by omega)]
    refine ⟨fun z => ?_, fun z => ?_⟩
    · rw [nI_1]
      refine ih () (fun j hj => ?_)
      rcases Nat.lt_or_ge j i with y | y
      · exact hy j y
      · have : j = i := by omega
        subst this
        exact fun w => z ((lgc _ _).2 w)
    · have hw := (lgc _ _).1 z
      have e : emF nm v E = some i := by
        rcases e : emF nm v E with _ | k
        · exact absurd hw (emF_none e i hi)
        · have t := emF_some e
          rcases Nat.lt_trichotomy i k with y | y | y
          · exact absurd hw (t.2.2 i y)
          · rw [y]
          · exact absurd t.2.1 (hy k y)
      rw [e] at kk; exact kk
theorem fI_m1 {o : Option Nat} (h : ∀ e, o = some e → e < 2 ^ 31) : fI o = -1 ↔ o.isNone = true := by
  cases o with
  | none => exact ⟨fun _ => rfl, fun _ => rfl⟩
  | some e => exact ⟨fun z => absurd z (nI_nm (h e rfl)), fun z => by cases z⟩
theorem c_known_y (wf : wfN x) (rc : rNc x ki st nu na) (hp : p ≤ nN x) (h : kN x p = 44) {E : Nat} (hE : E ≤ 6) {nm : Nat → Int64} {er es : Int32} {K : Int32 → (Int32 × Int32 × Int32 × Int32) → Prop} (kk : K (fI (emF nm (cN x p) E)) (nI (p + 1), nI (kN x (p + 1)), (erF x (bdN x E nm) p (p + 1) (er, es)).1, (erF x (bdN x E nm) p (p + 1) (er, es)).2)) : wX3_readKnownEmpire ki st na (nI (nN x + 1)) (nI p) (nI (kN x p)) er es (nI E) nm K := by
  have n4 := wf.1
  have lt := kN_lt wf hp (by omega)
  have m1 := fI_m1 (o := emF nm (cN x p) E) (fun e z => by have := (emF_some z).1; omega)
  unfold wX3_readKnownEmpire
  refine br_t (by rw [h]; rfl) ⟨vp_in_nI (by omega) (by decide), ?_⟩
  rw [nI_clamp (by omega), (rc p hp).2.2.2 h]
  rw [erF_one] at kk
  refine c_emp hE ⟨fun z => ?_, fun z => ?_⟩
  · rw [if_neg] at kk
    · exact c_adv wf rc lt kk
    · rintro ⟨_, y⟩
      unfold bdN at y
      rw [Bool.and_eq_true] at y
      exact z (m1.2 y.2)
  · have y : bdN x E nm p = true := by
      unfold bdN
      rw [decide_eq_true h, m1.1 z]; rfl
    unfold wX3_complain
    refine ⟨fun w => ?_, fun w => ⟨vp_in_nI (by omega) (by decide), ?_⟩⟩
    · rw [if_neg (fun v => w v.1)] at kk
      exact c_adv wf rc lt kk
    · rw [if_pos ⟨w, y⟩] at kk
      rw [nI_clamp (by omega), (rc p hp).2.1]
      exact c_adv wf rc lt kk
theorem c_known_n (wf : wfN x) (rc : rNc x ki st nu na) (hp : p ≤ nN x) (h : kN x p ≠ 44) {E : Int32} {nm : Nat → Int64} {er es : Int32} (he : er ≠ 1) {K : Int32 → (Int32 × Int32 × Int32 × Int32) → Prop} (kk : K (-1) (nI p, 48, 1, nI (sN x p))) : wX3_readKnownEmpire ki st na (nI (nN x + 1)) (nI p) (nI (kN x p)) er es E nm K := by
  unfold wX3_readKnownEmpire
  exact c_is wf hp 44 (fun z => absurd z h) (fun _ => c_ref wf rc hp he kk)
theorem c_known_B {n a E es : Int32} {nm : Nat → Int64} {K : Int32 → (Int32 × Int32 × Int32 × Int32) → Prop} (kk : K (-1) (a, 48, 1, es)) : wX3_readKnownEmpire ki st na n a 48 1 es E nm K := by
  unfold wX3_readKnownEmpire
  exact br_f (by decide) (c_refB kk)
theorem m_eat_y (wf : wfN x) (rm : rNm x mk fr va) (hp : p ≤ nN x) (w : Nat) (h : kN x p = w) {w' : Int32} {K : Int32 → Int32 → Prop} (kk : K 1 (nI (p + 1))) (hw : w' = nI (mkT w) := by rfl) : wX10_eat mk (nI p) w' K := by
  have n4 := wf.1
  unfold wX10_eat
  refine ⟨vp_in_nI (by omega) (by decide), br_t ?_ (by rw [nI_1]; exact kk)⟩
  rw [nI_clamp (by omega), (rm p hp).1, hw, h]
theorem m_eat_n (wf : wfN x) (rm : rNm x mk fr va) (hp : p ≤ nN x) (w : Nat) (h : kN x p ≠ w) {w' : Int32} {K : Int32 → Int32 → Prop} (kk : K 0 (nI p)) (hw : w' = nI (mkT w) := by rfl) (hb : w < 49 ∧ w ≠ 46 := by omega) : wX10_eat mk (nI p) w' K := by
  have n4 := wf.1
  unfold wX10_eat
  exact ⟨vp_in_nI (by omega) (by decide), m_is wf rm hp w (fun z => absurd z h) (fun _ => kk) hw hb⟩
theorem m_deep_y (wf : wfN x) (rm : rNm x mk fr va) (hp : p ≤ nN x) (w : Nat) (h : kN x p = w) {d : Nat} (hd : d < 8) {w' : Int32} {K : Int32 → (Int32 × Int32) → Prop} (kk : K 1 (nI (p + 1), nI (d + 1))) (hw : w' = nI (mkT w) := by rfl) : wX10_deeper mk (nI p) (nI d) w' K := by
  unfold wX10_deeper
  refine br_f (fun z => ?_) (m_eat_y wf rm hp w h (bn_f (by decide) (by rw [nI_1]; exact kk)) hw)
  have := (nI_eq (a := d) (b := 8) (by omega) (by decide)).1 z
  omega
theorem m_deep_n (wf : wfN x) (rm : rNm x mk fr va) (hp : p ≤ nN x) (w : Nat) {d : Nat} (hd : d ≤ 8) (h : kN x p ≠ w ∨ d = 8) {w' : Int32} {K : Int32 → (Int32 × Int32) → Prop} (kk : K 0 (nI p, nI d)) (hw : w' = nI (mkT w) := by rfl) (hb : w < 49 ∧ w ≠ 46 := by omega) : wX10_deeper mk (nI p) (nI d) w' K := by
  unfold wX10_deeper
  refine ⟨fun _ => kk, fun z => ?_⟩
  have h' : kN x p ≠ w := h.resolve_right (fun y => z (by rw [y]; rfl))
  exact m_eat_n wf rm hp w h' (bn_t rfl kk) hw hb
theorem m_close_y (wf : wfN x) (rm : rNm x mk fr va) (hp : p ≤ nN x) (w : Nat) (h : kN x p = w) {d : Nat} {w' : Int32} {K : Int32 → (Int32 × Int32) → Prop} (kk : K 1 (nI (p + 1), nI d)) (hw : w' = nI (mkT w) := by rfl) : wX10_closes mk (nI p) (nI (d + 1)) w' K := by
  unfold wX10_closes
  refine m_eat_y wf rm hp w h (bn_f (by decide) ?_) hw
  rw [nI_pred]; exact kk
theorem m_close_n (wf : wfN x) (rm : rNm x mk fr va) (hp : p ≤ nN x) (w : Nat) (h : kN x p ≠ w) {d : Int32} {w' : Int32} {K : Int32 → (Int32 × Int32) → Prop} (kk : K 0 (nI p, d)) (hw : w' = nI (mkT w) := by rfl) (hb : w < 49 ∧ w ≠ 46 := by omega) : wX10_closes mk (nI p) d w' K := by
  unfold wX10_closes
  exact m_eat_n wf rm hp w h (bn_t rfl kk) hw hb
theorem m_put {m : Nat} (hm : m < 800) {go gw : Nat → Int32} {k d : Int32} {K : ((Nat → Int32) × (Nat → Int32) × Int32) → Prop} (kk : K (upd go m k, upd gw m d, nI (m + 1))) : wX10_put go gw (nI m) k d K := by
  unfold wX10_put
  refine ⟨vp_in_nI hm (by decide), vp_in_nI hm (by decide), ?_⟩
  rw [nI_1, nI_clamp (by omega)]
  exact kk
theorem m_as_y (wf : wfN x) (rm : rNm x mk fr va) (hp : p ≤ nN x) (w : Nat) (h : kN x p = w) {me : Nat → Int32} {w' as : Int32} {K : Int32 → ((Nat → Int32) × Int32) → Prop} (kk : K 1 (upd me p as, nI (p + 1))) (hw : w' = nI (mkT w) := by rfl) : wX10_eatAs mk me (nI p) w' as K := by
  have n4 := wf.1
  unfold wX10_eatAs
  refine ⟨vp_in_nI (by omega) (by decide), m_eat_y wf rm hp w h ?_ hw⟩
  rw [nI_clamp (by omega)]; exact kk
theorem m_as_n (wf : wfN x) (rm : rNm x mk fr va) (hp : p ≤ nN x) (w : Nat) (h : kN x p ≠ w) {me : Nat → Int32} {w' as : Int32} {K : Int32 → ((Nat → Int32) × Int32) → Prop} (kk : K 0 (upd me p as, nI p)) (hw : w' = nI (mkT w) := by rfl) (hb : w < 49 ∧ w ≠ 46 := by omega) : wX10_eatAs mk me (nI p) w' as K := by
  have n4 := wf.1
  unfold wX10_eatAs
  refine ⟨vp_in_nI (by omega) (by decide), m_eat_n wf rm hp w h ?_ hw hb⟩
  rw [nI_clamp (by omega)]; exact kk
end PRIM
