/-! PURE: the class reads the lines, the orders; the whole text. -/
def rdT (t : Tl) (nm : Nat → Int64) (co cu de fi sp fr to : Nat → Int32) : Prop := (∀ e, e < tE t → nm e = lN (556 + e)) ∧ rB (tF t) co (tCo t) ∧ rN (tF t) cu (tCu t) ∧ (∀ f, f < tF t → de f = tDe t f) ∧ (∀ c, c < 80 → fi c = fI (tFi t c)) ∧ rB 80 sp (tSp t) ∧ (∀ e, e < tE t → fr e = tFr t e) ∧ ∀ e, e < tE t → to e = tTo t e
def rPl (t : Tl) (p : Pn) (ks e1 e2 sK sD : Nat → Int32) : Prop := (∀ o, o < pO p → ks o = nI (pKd p o) ∧ e1 o = nI (pE1 p o) ∧ e2 o = nI (pE2 p o)) ∧ rKc t (pS p) (pK p) (pD p) sK sD
theorem okD_pf : ∀ {e d : Nat} {b : Bool} {x : Tr d}, trW e d b x → ∀ j, j < (pf d x).length → ((pf d x).getD j (0, 0)).1 = 19 ∨ ((pf d x).getD j (0, 0)).1 = 20 ∨ ((pf d x).getD j (0, 0)).1 = 22 → ∃ v, v < e ∧ ((pf d x).getD j (0, 0)).2 = nI v := by
  intro e d
  induction d with
  | zero => intro b x h; exact h.elim
  | succ d ih =>
    intro b x h j hj hk
    obtain ⟨w1, w2, w3, w4, w5⟩ := h
    have one : ∀ (k : Nat) (v : Int32), (k = 19 ∨ k = 20 ∨ k = 22 → ∃ u, u < e ∧ v = nI u) → ∀ j, j < [(k, v)].length → ([(k, v)].getD j (0, 0)).1 = 19 ∨ ([(k, v)].getD j (0, 0)).1 = 20 ∨ ([(k, v)].getD j (0, 0)).1 = 22 → ∃ u, u < e ∧ ([(k, v)].getD j (0, 0)).2 = nI u := fun k v hv j hj hk => by
      have : j = 0 := by
        have : j < 1 := hj
        omega
      subst this
      exact hv hk
    have two : ∀ (l u : List (Nat × Int32)), (∀ j, j < l.length → (l.getD j (0, 0)).1 = 19 ∨ (l.getD j (0, 0)).1 = 20 ∨ (l.getD j (0, 0)).1 = 22 → ∃ v, v < e ∧ (l.getD j (0, 0)).2 = nI v) → (∀ j, j < u.length → (u.getD j (0, 0)).1 = 19 ∨ (u.getD j (0, 0)).1 = 20 ∨ (u.getD j (0, 0)).1 = 22 → ∃ v, v < e ∧ (u.getD j (0, 0)).2 = nI v) → ∀ j, j < (l ++ u).length → ((l ++ u).getD j (0, 0)).1 = 19 ∨ ((l ++ u).getD j (0, 0)).1 = 20 ∨ ((l ++ u).getD j (0, 0)).1 = 22 → ∃ v, v < e ∧ ((l ++ u).getD j (0, 0)).2 = nI v := fun l u h1 h2 j hj hk => by
      rcases Nat.lt_or_ge j l.length with z | z
      · rw [gD_app z] at hk ⊢
        exact h1 j z hk
      · obtain ⟨i, rfl⟩ : ∃ i, j = l.length + i := ⟨j - l.length, by omega⟩
        rw [List.length_append] at hj
        rw [gD_app2] at hk ⊢
        exact h2 i (by omega) hk
    have ar : arK 19 = 0 ∧ arK 20 = 0 ∧ arK 22 = 0 := by decide
    have no : arK (cK (trQ x)) ≠ 0 → ∀ v : Int32, (cK (trQ x) = 19 ∨ cK (trQ x) = 20 ∨ cK (trQ x) = 22 → ∃ u, u < e ∧ v = nI u) := fun hn v hv => by
      exfalso
      rcases hv with z | z | z
      · rw [z] at hn; exact hn ar.1
      · rw [z] at hn; exact hn ar.2.1
      · rw [z] at hn; exact hn ar.2.2
    rcases k_ar w1 with ⟨h, -⟩ | ⟨h, hA, -⟩ | ⟨h, hB⟩
    · have ep : pf (d + 1) x = [(cK (trQ x), dtl (cK (trQ x)) (nI (trN x)))] := by
        rw [pf, h]
        rfl
      rw [ep] at hj hk ⊢
      refine one _ _ (fun hv => ⟨trN x, w3 ?_, ?_⟩) j hj hk
      · have hx : trQ x ≤ 31 := by
          cases b
          · rw [if_neg (by decide)] at w1; omega
          · rw [if_pos rfl] at w1; omega
        have t : ∀ k, k < 32 → (cK k = 19 ∨ cK k = 20 ∨ cK k = 22) → k = 5 ∨ k = 6 ∨ k = 25 := by decide
        exact t _ (by omega) hv
      · unfold dtl
        rw [if_neg (by rcases hv with z | z | z <;> rw [z] <;> decide)]
    · have ep : pf (d + 1) x = pf d (trL x) ++ [(cK (trQ x), 0)] := by
        rw [pf, h]
        rfl
      rw [ep] at hj hk ⊢
      exact two _ _ (fun j => ih (w4 hA) j) (one _ _ (no (by rw [h]; decide) 0)) j hj hk
    · have ep : pf (d + 1) x = pf d (trL x) ++ (pf d (trR x) ++ [(cK (trQ x), 0)]) := by
        rw [pf, h]
        rfl
      rw [ep] at hj hk ⊢
      exact two _ _ (fun j => ih (w4 (knB_A hB)) j) (two _ _ (fun j => ih (w5 hB) j) (one _ _ (no (by rw [h]; decide) 0))) j hj hk
section READ
variable {ki st nu : Nat → Int32} {na : Nat → Int64} {N : Nat} {kf : Nat → Nat} {es : Int32} {t : Tl} {p : Pn} {nm : Nat → Int64} {co cu de fi sp fr to ks e1 e2 sK sD : Nat → Int32}
theorem num_ok (T : tkK N kf ki) {i v lo hi : Nat} {x p0 p1 er ee : Int32} (hi' : i < N) (hx : x = 45) (hv : nu i = nI v) (h0 : p0 = nI lo) (h1 : p1 = nI hi) (hlo : lo ≤ v) (hhi : v ≤ hi) (hb : hi < 2 ^ 31) {K : Int32 → (Int32 × Int32 × Int32 × Int32) → Prop} (k : K (nI v) (nI (i + 1), nI (kf (i + 1)), er, ee)) : wX3_expectNumber ki st nu (nI (N + 1)) (nI i) x er ee p0 p1 K := by
  have h4 := T.1
  unfold wX3_expectNumber
  refine ⟨vp_in_nI (by omega) (by decide), ?_⟩
  rw [nI_clamp (by omega), hv, h0, h1]
  refine br_t hx (br_f (nI_nlt hlo (by omega)) (br_t (nI_le hhi hb) ?_))
  unfold wX3_expectNumber_43
  exact ad_ok T hi' k
theorem place_ok (T : tkK N kf ki) (wt : wfT t) (R : rdT t nm co cu de fi sp fr to) {i s j : Nat} {b : Bool} (hs : s < tN t) (hj : j < tM t) (hat : AtL N kf nu na i [t0 8, (45, s, 0), t0 34, (45, j, 0)]) (hf : if b = true then tSp t (s * 10 + j) = false else tFi t (s * 10 + j) = none) {K : Int32 → (Int32 × Int32 × Int32 × Int32) → Prop} (k : K (nI (s * 10 + j)) (nI (i + 1 + 1 + 1 + 1), nI (kf (i + 1 + 1 + 1 + 1)), 0, es)) : wX3_readPlace ki st nu (nI (N + 1)) (nI i) (nI (kf i)) 0 es (nI (tN t)) (nI (tM t)) fi sp (zB1w b) K := by
  have h4 := T.1
  have n2 := wt.1
  have m2 := wt.2.1
  obtain ⟨a1, a2, -, -, a5⟩ := at_hd hat
  obtain ⟨b1, b2, b3, -, b5⟩ := at_hd a5
  obtain ⟨c1, c2, -, -, c5⟩ := at_hd b5
  obtain ⟨d1, d2, d3, -, -⟩ := at_hd c5
  have a2 : kf i = 8 := a2
  have b2 : kf (i + 1) = 45 := b2
  have c2 : kf (i + 1 + 1) = 34 := c2
  have d2 : kf (i + 1 + 1 + 1) = 45 := d2
  have b3 : nu (i + 1) = nI s := b3 rfl
  have d3 : nu (i + 1 + 1 + 1) = nI j := d3 rfl
  have hc : s * 10 + j < 80 := by omega
  unfold wX3_readPlace
  rw [nI_dec (show 0 < tN t by omega)]
  refine xp_ok T a1 (by rw [a2]; rfl) (num_ok (lo := 0) T b1 (by rw [b2]; rfl) b3 rfl rfl (Nat.zero_le _) (by omega) (by omega) (xp_ok T c1 (by rw [c2]; rfl) ?_))
  refine bn_t (by show nI (kf (i + 1 + 1 + 1)) = 45; rw [d2]; rfl) ⟨vp_in_nI (by omega) (by decide), ?_⟩
  show wX7_cushionTold (nI (tN t)) (nI (tM t)) (nI s) (nu (nI (i + 1 + 1 + 1)).toNatClampNeg) _
  rw [nI_clamp (by omega), d3]
  unfold wX7_cushionTold
  refine br_f (nI_pos (by omega)) (br_f (nI_ge hs (by omega)) (br_f (nI_pos (by omega)) (br_t (nI_lt hj (by omega)) ?_)))
  rw [show (10 : Int32) = nI 10 from rfl, pk_mul, nI_add]
  have s96 : wX3_readPlace_96 K ki st nu (nI (N + 1)) (nI (tN t)) (nI (tM t)) fi sp (nI (i + 1 + 1 + 1)) (nI (kf (i + 1 + 1 + 1))) 0 es (nI (s * 10 + j)) := by
    unfold wX3_readPlace_96
    rw [nI_dec (show 0 < tM t by omega)]
    exact num_ok (lo := 0) T d1 (by rw [d2]; rfl) d3 rfl rfl (Nat.zero_le _) (by omega) (by omega) (bn_t rfl k)
  unfold wX3_readPlace_60
  cases b
  · rw [if_neg (by decide)] at hf
    refine br_t rfl (sz_findIn hc ?_)
    rw [R.2.2.2.2.1 _ hc, hf]
    exact br_t rfl s96
  · rw [if_pos rfl] at hf
    refine br_f (by decide) (sz_hasSpring R.2.2.2.2.2.1 hc ?_)
    rw [hf]
    exact br_t rfl s96
theorem addF_ok (wt : wfT t) (R : rdT t nm co cu de fi sp fr to) {b : Bool} {c d : Nat} (hc : c < 80) (hF : tF t < 24) {K : (Int32 × (Nat → Int32) × (Nat → Int32) × (Nat → Int32) × (Nat → Int32)) → Prop} (k : ∀ co' cu' de' fi', rdT (adF t b c d) nm co' cu' de' fi' sp fr to → K (nI (tF t + 1), co', cu', de', fi')) : wX7_addFind (nI (tF t)) co cu de fi (zB1w b) (nI c) (nI d) K := by
  obtain ⟨r1, r2, r3, r4, r5, r6, r7⟩ := R
  unfold wX7_addFind
  refine br_f (nI_ge (b := 24) hF (by decide)) (sz_isCushion hc (br_f (by decide) ⟨vp_in_nI hF (by decide), vp_in_nI hF (by decide), vp_in_nI hF (by decide), vp_in_nI hc (by decide), ?_⟩))
  rw [nI_clamp (by omega), nI_clamp (by omega), nI_1, nar_zB]
  refine k _ _ _ _ ⟨r1, fun i hi => ?_, fun i hi => ?_, fun i hi => ?_, fun i hi => ?_, r6, r7⟩
  · have hi : i < tF t + 1 := hi
    show upd co (tF t) (zB1w b) i = zB1w (va_up (tCo t) (tF t) b i)
    by_cases z : i = tF t
    · rw [z, us, va_up_self]
    · rw [un z, va_up_ne _ _ z]
      exact r2 i (by omega)
  · have hi : i < tF t + 1 := hi
    show upd cu (tF t) (nI c) i = nI (va_up (tCu t) (tF t) c i)
    by_cases z : i = tF t
    · rw [z, us, va_up_self]
    · rw [un z, va_up_ne _ _ z]
      exact r3 i (by omega)
  · have hi : i < tF t + 1 := hi
    show upd de (tF t) (nI d) i = va_up (tDe t) (tF t) (nI d) i
    by_cases z : i = tF t
    · rw [z, us, va_up_self]
    · rw [un z, va_up_ne _ _ z]
      exact r4 i (by omega)
  · show upd fi c (nI (tF t)) i = fI (va_up (tFi t) c (some (tF t)) i)
    by_cases z : i = c
    · rw [z, us, va_up_self]
      rfl
    · rw [un z, va_up_ne _ _ z]
      exact r5 i hi
/-- what a line's reading comes to -/
abbrev KRL : Type := (Int32 × Int32 × Int32 × Int32 × Int32 × Int32 × (Nat → Int64) × (Nat → Int32) × (Nat → Int32) × (Nat → Int32) × (Nat → Int32) × (Nat → Int32) × (Nat → Int32) × (Nat → Int32) × Int32 × Int32 × (Nat → Int32) × (Nat → Int32) × (Nat → Int32) × (Nat → Int32) × (Nat → Int32)) → Prop
theorem line_ok (T : tkK N kf ki) (wt : wfT t) (R : rdT t nm co cu de fi sp fr to) (e3 : tE t ≤ 3) {a : Ln} (ok : okL t a) {i : Nat} (hat : AtL N kf nu na i (lnT a)) {O S : Int32} {K : KRL}
    (kk : ∀ nm' co' cu' de' fi' sp' fr' to', rdT (adL t a) nm' co' cu' de' fi' sp' fr' to' → K (nI (i + (lnT a).length), nI (kf (i + (lnT a).length)), 0, es, nI (tE (adL t a)), nI (tF (adL t a)), nm', fr', to', co', cu', de', fi', sp', O, S, ks, e1, e2, sK, sD)) :
    wX3_readLine ki st nu na (nI (N + 1)) (nI i) (nI (kf i)) 0 es (nI (tN t)) (nI (tM t)) (nI (tE t)) (nI (tF t)) nm fr to co cu de fi sp O S ks e1 e2 sK sD K := by
  have h4 := T.1
  have n2 := wt.1
  have m2 := wt.2.1
  obtain ⟨kd, x, y, z⟩ := a
  match kd, ok, hat, kk with
  | 0, ok, hat, kk =>
    obtain ⟨o1, o2, o3, o4⟩ := ok
    have o1 : x = tE t := o1
    have o3 : y ≤ z := o3
    have o4 : z ≤ 999 := o4
    obtain ⟨a1, a2, -, -, a5⟩ := at_hd hat
    obtain ⟨b1, b2, -, b4, b5⟩ := at_hd a5
    obtain ⟨c1, c2, -, -, c5⟩ := at_hd b5
    obtain ⟨d1, d2, d3, -, d5⟩ := at_hd c5
    obtain ⟨g1, g2, -, -, g5⟩ := at_hd d5
    obtain ⟨f1, f2, f3, -, -⟩ := at_hd g5
    have a2 : kf i = 2 := a2
    have b2 : kf (i + 1) = 44 := b2
    have b4 : na (i + 1) = lN (556 + x) := b4 rfl
    have c2 : kf (i + 1 + 1) = 3 := c2
    have d2 : kf (i + 1 + 1 + 1) = 45 := d2
    have d3 : nu (i + 1 + 1 + 1) = nI y := d3 rfl
    have g2 : kf (i + 1 + 1 + 1 + 1) = 4 := g2
    have f2 : kf (i + 1 + 1 + 1 + 1 + 1) = 45 := f2
    have f3 : nu (i + 1 + 1 + 1 + 1 + 1) = nI z := f3 rfl
    unfold wX3_readLine
    have e' : nI (kf i) = 2 := by rw [a2]; rfl
    refine ⟨fun _ => ?_, fun q => absurd (e'.symm.trans q) (by decide), fun q => absurd (e'.symm.trans q) (by decide), fun q => absurd (e'.symm.trans q) (by decide), fun q => absurd (e'.symm.trans q) (by decide), fun q => absurd (e'.symm.trans q) (by decide), fun q => absurd (e'.symm.trans q) (by decide), fun q _ _ _ _ _ _ => absurd e' q⟩
    unfold wX3_readEmpire
    refine xp_ok T a1 e' ⟨vp_in_nI (by omega) (by decide), ?_⟩
    have s73 : ∀ {K : (Int32 × Int32 × Int32 × Int32 × Int32 × (Nat → Int64) × (Nat → Int32) × (Nat → Int32)) → Prop}, (∀ nm' fr' to', (∀ e, e < tE t + 1 → nm' e = lN (556 + e)) → (∀ e, e < tE t + 1 → fr' e = va_up (tFr t) (tE t) (nI y) e) → (∀ e, e < tE t + 1 → to' e = va_up (tTo t) (tE t) (nI z) e) → K (nI (i + 6), nI (kf (i + 6)), 0, es, nI (tE t + 1), nm', fr', to')) → wX3_readEmpire_73 K ki st nu na (nI (N + 1)) (nI (i + 1)) (nI (kf (i + 1))) 0 es (nI (tE t)) nm fr to (lN (556 + x)) := by
      intro K hK
      unfold wX3_readEmpire_73
      refine xp_ok T b1 (by rw [b2]; rfl) (xp_ok T c1 (by rw [c2]; rfl) (num_ok (lo := 0) (hi := 999) T d1 (by rw [d2]; rfl) d3 rfl rfl (Nat.zero_le _) (by omega) (by decide) (xp_ok T g1 (by rw [g2]; rfl) (num_ok (lo := y) (hi := 999) T f1 (by rw [f2]; rfl) f3 rfl rfl o3 o4 (by decide) (bn_t rfl ?_)))))
      unfold wX7_addEmpire
      refine br_f (nI_ge (b := 6) (by omega) (by decide)) ⟨vp_in_nI (by omega) (by decide), vp_in_nI (by omega) (by decide), vp_in_nI (by omega) (by decide), ?_⟩
      rw [nI_clamp (by omega), nI_1]
      refine hK (vp_updL nm (tE t) (lN (556 + x))) (upd fr (tE t) (nI y)) (upd to (tE t) (nI z)) (fun e he => ?_) (fun e he => ?_) (fun e he => ?_)
      · by_cases q : e = tE t
        · rw [q, upL_eq, o1]
        · rw [upL_ne q]
          exact R.1 e (by omega)
      · by_cases q : e = tE t
        · rw [q, us, va_up_self]
        · rw [un q, va_up_ne _ _ q]
          exact R.2.2.2.2.2.2.1 e (by omega)
      · by_cases q : e = tE t
        · rw [q, us, va_up_self]
        · rw [un q, va_up_ne _ _ q]
          exact R.2.2.2.2.2.2.2 e (by omega)
    show (¬ nI (kf (i + 1)) = 44 → _) ∧ (nI (kf (i + 1)) = 44 → _)
    refine bn_t (by rw [b2]; rfl) ?_
    show wX7_empireNamed (nI (tE t)) nm (na (nI (i + 1)).toNatClampNeg) _
    rw [nI_clamp (by omega), b4]
    -- no empire has that name
    unfold wX7_empireNamed
    refine ⟨tE t + 1, ?_⟩
    have lp : ∀ {K : Int32 → Unit → Prop}, K (-1) () → ∀ d j, j + d = tE t → wX7_empireNamed_2 K (nI (tE t)) nm (d + 1) (lN (556 + x)) (nI j) := by
      intro K hK d
      induction d with
      | zero =>
        intro j hj
        exact br_t (nI_le (by omega) (by omega)) hK
      | succ d ih =>
        intro j hj
        refine br_f (nI_ge (by omega) (by omega)) ⟨vp_in_nI (by omega) (by decide), ?_⟩
        rw [nI_clamp (by omega), R.1 j (by omega), nI_1]
        refine bn_f (fun q => ?_) (ih (j + 1) (by omega))
        have := (lN_eq (by omega) (by omega)).mp ((lgc _ _).mp q)
        omega
    refine lp ?_ (tE t) 0 (by omega)
    refine br_t rfl ?_
    show wX3_readEmpire_47 _ ki st nu na (nI (N + 1)) (nI (i + 1)) (nI (kf (i + 1))) 0 es (nI (tE t)) nm fr to (lN (556 + x))
    unfold wX3_readEmpire_47
    refine bn_t (by rw [b2]; rfl) (br_t (nI_lt (b := 6) (by omega) (by decide)) ?_)
    exact s73 (fun nm' fr' to' r1 r2 r3 => kk nm' co cu de fi sp fr' to' ⟨r1, R.2.1, R.2.2.1, R.2.2.2.1, R.2.2.2.2.1, R.2.2.2.2.2.1, r2, r3⟩)
  | 1, ok, hat, kk =>
    obtain ⟨o1, o2, o3, o4, o5⟩ := ok
    have o1 : x < tN t := o1
    have o2 : y < tM t := o2
    have o3 : tFi t (x * 10 + y) = none := o3
    obtain ⟨a1, a2, -, -, a5⟩ := at_hd hat
    have a2 : kf i = 5 := a2
    obtain ⟨p1, p2⟩ := at_app (l := [t0 8, (45, x, 0), t0 34, (45, y, 0)]) a5
    have p2 : AtL N kf nu na (i + 1 + 1 + 1 + 1 + 1) _ := p2
    obtain ⟨b1, b2, -, -, b5⟩ := at_hd p2
    obtain ⟨c1, c2, c3, c4, -⟩ := at_hd b5
    have b2 : kf (i + 1 + 1 + 1 + 1 + 1) = 9 := b2
    have c2 : kf (i + 1 + 1 + 1 + 1 + 1 + 1) = 45 := c2
    have hc : x * 10 + y < 80 := by omega
    unfold wX3_readLine
    have e' : nI (kf i) = 5 := by rw [a2]; rfl
    refine ⟨fun q => absurd (e'.symm.trans q) (by decide), fun _ => ?_, fun q => absurd (e'.symm.trans q) (by decide), fun q => absurd (e'.symm.trans q) (by decide), fun q => absurd (e'.symm.trans q) (by decide), fun q => absurd (e'.symm.trans q) (by decide), fun q => absurd (e'.symm.trans q) (by decide), fun _ q _ _ _ _ _ => absurd e' q⟩
    unfold wX3_readCoin wX3_startFind
    refine br_t (nI_lt (b := 24) o4 (by decide)) ?_
    unfold wX3_startFind_17
    refine ad_ok T a1 ?_
    refine place_ok (b := false) T wt R o1 o2 p1 (by rw [if_neg (by decide)]; exact o3) (xp_ok T b1 (by rw [b2]; rfl) ?_)
    refine num_ok (lo := 0) (hi := 999) T c1 (by rw [c2]; rfl) (c3 rfl) rfl rfl (Nat.zero_le _) o5 (by decide) (bn_t rfl ?_)
    refine addF_ok (b := true) wt R hc o4 (fun co' cu' de' fi' R' => ?_)
    exact kk nm co' cu' de' fi' sp fr to R'
  | 2, ok, hat, kk =>
    obtain ⟨o1, o2, o3, o4, o5⟩ := ok
    have o1 : x < tN t := o1
    have o2 : y < tM t := o2
    have o3 : tFi t (x * 10 + y) = none := o3
    obtain ⟨a1, a2, -, -, a5⟩ := at_hd hat
    have a2 : kf i = 6 := a2
    obtain ⟨p1, p2⟩ := at_app (l := [t0 8, (45, x, 0), t0 34, (45, y, 0)]) a5
    have p2 : AtL N kf nu na (i + 1 + 1 + 1 + 1 + 1) _ := p2
    obtain ⟨b1, b2, -, -, b5⟩ := at_hd p2
    obtain ⟨c1, c2, c3, c4, -⟩ := at_hd b5
    have b2 : kf (i + 1 + 1 + 1 + 1 + 1) = 10 := b2
    have c2 : kf (i + 1 + 1 + 1 + 1 + 1 + 1) = 44 := c2
    have hc : x * 10 + y < 80 := by omega
    unfold wX3_readLine
    have e' : nI (kf i) = 6 := by rw [a2]; rfl
    refine ⟨fun q => absurd (e'.symm.trans q) (by decide), fun q => absurd (e'.symm.trans q) (by decide), fun _ => ?_, fun q => absurd (e'.symm.trans q) (by decide), fun q => absurd (e'.symm.trans q) (by decide), fun q => absurd (e'.symm.trans q) (by decide), fun q => absurd (e'.symm.trans q) (by decide), fun _ _ q _ _ _ _ => absurd e' q⟩
    unfold wX3_readCrumbs wX3_startFind
    refine br_t (nI_lt (b := 24) o4 (by decide)) ?_
    unfold wX3_startFind_17
    refine ad_ok T a1 ?_
    refine place_ok (b := false) T wt R o1 o2 p1 (by rw [if_neg (by decide)]; exact o3) (xp_ok T b1 (by rw [b2]; rfl) ?_)
    refine kn_ok T ⟨e3, R.1⟩ c1 o5 c2 (c4 rfl) (bn_t rfl ?_)
    refine addF_ok (b := false) wt R hc o4 (fun co' cu' de' fi' R' => ?_)
    exact kk nm co' cu' de' fi' sp fr to R'
  | n + 3, ok, hat, kk =>
    obtain ⟨o1, o2, o3⟩ := ok
    have o1 : x < tN t := o1
    have o2 : y < tM t := o2
    have o3 : tSp t (x * 10 + y) = false := o3
    obtain ⟨a1, a2, -, -, a5⟩ := at_hd hat
    have a2 : kf i = 7 := a2
    have hc : x * 10 + y < 80 := by omega
    unfold wX3_readLine
    have e' : nI (kf i) = 7 := by rw [a2]; rfl
    refine ⟨fun q => absurd (e'.symm.trans q) (by decide), fun q => absurd (e'.symm.trans q) (by decide), fun q => absurd (e'.symm.trans q) (by decide), fun _ => ?_, fun q => absurd (e'.symm.trans q) (by decide), fun q => absurd (e'.symm.trans q) (by decide), fun q => absurd (e'.symm.trans q) (by decide), fun _ _ _ q _ _ _ => absurd e' q⟩
    unfold wX3_readSpring
    refine xp_ok T a1 e' (place_ok (b := true) T wt R o1 o2 a5 (by rw [if_pos rfl]; exact o3) (bn_t rfl ?_))
    unfold wX7_addSpring
    refine sz_isCushion hc (br_f (by decide) ⟨vp_in_nI hc (by decide), ?_⟩)
    rw [nI_clamp (by omega)]
    exact kk nm co cu de fi (upd sp (x * 10 + y) 1) fr to ⟨R.1, R.2.1, R.2.2.1, R.2.2.2.1, R.2.2.2.2.1, rB_t R.2.2.2.2.2.1 _, R.2.2.2.2.2.2⟩
theorem rKc_ext {l : List (Nat × Int32)} {sK' sD' : Nat → Int32} (h : rKc t (pS p) (pK p) (pD p) sK sD) (ag : ∀ j, j < pS p → sK' j = sK j ∧ sD' j = sD j) (s : stA sK' sD' (pS p) l) (ok : ∀ j, j < l.length → okD t (l.getD j (0, 0)).1 (l.getD j (0, 0)).2) : rKc t (pS p + l.length) (fun i => if i < pS p then pK p i else (l.getD (i - pS p) (0, 0)).1) (fun i => if i < pS p then pD p i else (l.getD (i - pS p) (0, 0)).2) sK' sD' := by
  intro i hi
  dsimp only
  by_cases z : i < pS p
  · rw [if_pos z, if_pos z, (ag i z).1, (ag i z).2]
    exact h i z
  · obtain ⟨j, rfl⟩ : ∃ j, i = pS p + j := ⟨i - pS p, by omega⟩
    rw [if_neg z, if_neg z, Nat.add_sub_cancel_left]
    obtain ⟨g1, g2⟩ := s j (by omega)
    exact ⟨g1, g2, ok j (by omega)⟩
theorem order_ok (T : tkK N kf ki) (wt : wfT t) (R : rdT t nm co cu de fi sp fr to) (e3 : tE t ≤ 3) (P : rPl t p ks e1 e2 sK sD) (p16 : pO p < 16) {o : Or} (ok : okO (tE t) o) {i : Nat} (hat : AtL N kf nu na i (orT o)) (hfol : kf (i + (orT o).length) = 33) (hm : pS p + (orP o).length ≤ 400) {K : KRL}
    (kk : ∀ ks' e1' e2' sK' sD', rPl t (adO p o) ks' e1' e2' sK' sD' → K (nI (i + (orT o).length), nI (kf (i + (orT o).length)), 0, es, nI (tE t), nI (tF t), nm, fr, to, co, cu, de, fi, sp, nI (pO (adO p o)), nI (pS (adO p o)), ks', e1', e2', sK', sD')) :
    wX3_readLine ki st nu na (nI (N + 1)) (nI i) (nI (kf i)) 0 es (nI (tN t)) (nI (tM t)) (nI (tE t)) (nI (tF t)) nm fr to co cu de fi sp (nI (pO p)) (nI (pS p)) ks e1 e2 sK sD K := by
  have h4 := T.1
  obtain ⟨k, x, te⟩ := o
  obtain ⟨ok1, ok2, ok3⟩ := ok
  have ok1 : k ≤ 2 := ok1
  have ok2 : trW (tE t) 2 false x := ok2
  obtain ⟨a1, a2, -, -, a5⟩ := at_hd hat
  have a2 : kf i = 11 + k := a2
  obtain ⟨b1, b2⟩ := at_app a5
  have hE : nmK (tE t) nm := ⟨e3, R.1⟩
  -- the order is added
  have s63 : ∀ (j : Nat) (sK2 sD2 : Nat → Int32) (l : List (Nat × Int32)), l = orP (k, x, te) → i + (orT (k, x, te)).length = j → (∀ u, u < pS p → sK2 u = sK u ∧ sD2 u = sD u) → stA sK2 sD2 (pS p) l → (∀ u, u < l.length → okD t (l.getD u (0, 0)).1 (l.getD u (0, 0)).2) → wX3_readOrder_63 (fun u1 => K (u1.1, u1.2.1, u1.2.2.1, u1.2.2.2.1, nI (tE t), nI (tF t), nm, fr, to, co, cu, de, fi, sp, u1.2.2.2.2.1, u1.2.2.2.2.2.1, u1.2.2.2.2.2.2.1, u1.2.2.2.2.2.2.2.1, u1.2.2.2.2.2.2.2.2.1, u1.2.2.2.2.2.2.2.2.2.1, u1.2.2.2.2.2.2.2.2.2.2)) ki st nu na (nI (N + 1)) (nI (tE t)) nm (nI j) (nI (kf j)) 0 es (nI (pO p)) (nI (pS p + l.length)) ks e1 e2 sK2 sD2 (nI (kf i)) (nI (pS p + (pf 2 x).length)) := by
    intro j sK2 sD2 l hl hj ag sA okl
    subst hl hj
    unfold wX3_readOrder_63
    refine bn_t rfl ?_
    unfold wX1_addOrder
    refine br_f (nI_ge (b := 16) p16 (by decide)) ⟨vp_in_nI p16 (by decide), vp_in_nI p16 (by decide), vp_in_nI p16 (by decide), ?_⟩
    rw [nI_clamp (by omega), nI_1, a2]
    refine kk _ _ _ _ _ ⟨fun u hu => ?_, rKc_ext P.2 ag sA okl⟩
    have hu : u < pO p + 1 := hu
    show upd ks (pO p) (nI (11 + k)) u = nI (va_up (pKd p) (pO p) (11 + k) u) ∧ upd e1 (pO p) (nI (pS p + (pf 2 x).length)) u = nI (va_up (pE1 p) (pO p) (pS p + (pf 2 x).length) u) ∧ upd e2 (pO p) (nI (pS p + (orP (k, x, te)).length)) u = nI (va_up (pE2 p) (pO p) (pS p + (orP (k, x, te)).length) u)
    by_cases z : u = pO p
    · rw [z, us, us, us, va_up_self, va_up_self, va_up_self]
      exact ⟨rfl, rfl, rfl⟩
    · rw [un z, un z, un z, va_up_ne _ _ z, va_up_ne _ _ z, va_up_ne _ _ z]
      exact P.1 u (by omega)
  have ord : wX3_readOrder ki st nu na (nI (N + 1)) (nI i) (nI (kf i)) 0 es (nI (tE t)) nm (nI (pO p)) (nI (pS p)) ks e1 e2 sK sD (fun u1 => K (u1.1, u1.2.1, u1.2.2.1, u1.2.2.2.1, nI (tE t), nI (tF t), nm, fr, to, co, cu, de, fi, sp, u1.2.2.2.2.1, u1.2.2.2.2.2.1, u1.2.2.2.2.2.2.1, u1.2.2.2.2.2.2.2.1, u1.2.2.2.2.2.2.2.2.1, u1.2.2.2.2.2.2.2.2.2.1, u1.2.2.2.2.2.2.2.2.2.2)) := by
    unfold wX3_readOrder
    refine br_t (nI_lt (b := 16) p16 (by decide)) ?_
    unfold wX3_readOrder_20 wX3_readSum
    refine ad_ok T a1 ?_
    cases te with
    | none =>
      have hl : (orT (k, x, none)).length = (tkT 2 x).length + 1 := by
        show (t0 (11 + k) :: (tkT 2 x ++ [])).length = _
        rw [List.append_nil]
        rfl
      rw [hl] at hfol
      have hfol : kf (i + 1 + (tkT 2 x).length) = 33 := by rw [← hfol]; congr 1; omega
      have hm : pS p + (pf 2 x).length ≤ 400 := hm
      refine rdSum T hE 2 x 64 0 (i + 1) ok2 b1 (by decide) (by decide) (by rw [hfol]; exact ⟨by decide, by decide, by decide, by decide⟩) (pS p) sK sD _ hm (fun sK2 sD2 g1 g2 => ?_)
      refine bn_f ?_ ?_
      · show ¬ nI (kf (i + 1 + (tkT 2 x).length)) = 14
        rw [hfol]; decide
      · exact s63 (i + 1 + (tkT 2 x).length) sK2 sD2 (pf 2 x) rfl (by rw [hl]; omega) g1 g2 (fun u hu hk => okD_pf ok2 u hu hk)
    | some y =>
      have hy : trW (tE t) 4 true y := ok3 y rfl
      obtain ⟨c1, c2, -, -, c5⟩ := at_hd b2
      have c2 : kf (i + 1 + (tkT 2 x).length) = 14 := c2
      have hl : (orT (k, x, some y)).length = (tkT 2 x).length + ((tkT 4 y).length + 1) + 1 := by
        show (t0 (11 + k) :: (tkT 2 x ++ (t0 14 :: tkT 4 y))).length = _
        rw [List.length_cons, List.length_append, List.length_cons]
      rw [hl] at hfol
      have hfol : kf (i + 1 + (tkT 2 x).length + 1 + (tkT 4 y).length) = 33 := by rw [← hfol]; congr 1; omega
      have hm : pS p + (pf 2 x ++ pf 4 y).length ≤ 400 := hm
      rw [List.length_append] at hm
      refine rdSum T hE 2 x 64 0 (i + 1) ok2 b1 (by decide) (by decide) (by rw [c2]; exact ⟨by decide, by decide, by decide, by decide⟩) (pS p) sK sD _ (by omega) (fun sK2 sD2 g1 g2 => ?_)
      refine bn_t ?_ ?_
      · show nI (kf (i + 1 + (tkT 2 x).length)) = 14
        rw [c2]; rfl
      · refine ad_ok T c1 ?_
        unfold wX3_readTest
        refine rdTest T hE 4 y 64 0 _ hy c5 (by decide) (by decide) (by rw [hfol]; exact ⟨by decide, by decide, by decide, by decide, by decide, by decide⟩) (pS p + (pf 2 x).length) sK2 sD2 _ (by omega) (fun sK3 sD3 g3 g4 => ?_)
        have := s63 (i + 1 + (tkT 2 x).length + 1 + (tkT 4 y).length) sK3 sD3 (pf 2 x ++ pf 4 y) rfl (by rw [hl]; omega) (fun u hu => by rw [(g3 u (by omega)).1, (g3 u (by omega)).2]; exact g1 u hu) (stA_app g2 g3 g4) (fun u hu => ?_)
        · rw [List.length_append, ← Nat.add_assoc] at this
          exact this
        · rcases Nat.lt_or_ge u (pf 2 x).length with z | z
          · rw [gD_app z]
            exact fun hk => okD_pf ok2 u z hk
          · obtain ⟨v, rfl⟩ : ∃ v, u = (pf 2 x).length + v := ⟨u - (pf 2 x).length, by omega⟩
            rw [List.length_append] at hu
            rw [gD_app2]
            exact fun hk => okD_pf hy v (by omega) hk
  have l96 : wX3_readLine_96 K ki st nu na (nI (N + 1)) (nI (tN t)) (nI (tM t)) (nI i) (nI (kf i)) 0 es (nI (tE t)) (nI (tF t)) nm fr to co cu de fi sp (nI (pO p)) (nI (pS p)) ks e1 e2 sK sD := by
    unfold wX3_readLine_96
    exact ord
  unfold wX3_readLine
  have nn : ∀ j : Nat, j < 100 → 11 + k ≠ j → ¬ nI (kf i) = nI j := fun j hj hn q => by rw [a2] at q; exact hn ((nI_eq (by omega) (by omega)).mp q)
  exact ⟨fun q => absurd q (nn 2 (by decide) (by omega)), fun q => absurd q (nn 5 (by decide) (by omega)), fun q => absurd q (nn 6 (by decide) (by omega)), fun q => absurd q (nn 7 (by decide) (by omega)), fun _ => l96, fun _ => l96, fun _ => l96, fun _ _ _ _ n1 n2 n3 => by
    exfalso
    obtain rfl | rfl | rfl : k = 0 ∨ k = 1 ∨ k = 2 := by omega
    · exact n1 (by rw [a2]; rfl)
    · exact n2 (by rw [a2]; rfl)
    · exact n3 (by rw [a2]; rfl)⟩
end READ
