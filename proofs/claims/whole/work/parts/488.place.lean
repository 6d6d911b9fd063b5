/-! lines: what the class reads, what the model's grammar reads -/
/-- a fault of meaning, told if none was before -/
def ck (x : Tn) (b : Bool) (c : Int32) (p : Nat) (e : Int32 × Int32) : Int32 × Int32 := if e.1 = 0 ∧ b = true then (c, nI (sN x p)) else e
theorem ck_f {x : Tn} {c : Int32} {p : Nat} {e : Int32 × Int32} {b : Bool} (h : b = false) : ck x b c p e = e := if_neg (fun z => by rw [h] at z; exact absurd z.2 (by decide))
theorem ck_ne {x : Tn} {b : Bool} {c : Int32} {p : Nat} {e : Int32 × Int32} (hc : c ≠ 1) (h : e.1 ≠ 1) : (ck x b c p e).1 ≠ 1 := by
  unfold ck
  split
  · exact hc
  · exact h
theorem ck_0 {x : Tn} {b : Bool} {c : Int32} {p : Nat} {e : Int32 × Int32} (hc : c ≠ 0) (h : (ck x b c p e).1 = 0) : e.1 = 0 ∧ b = false ∧ ck x b c p e = e := by
  unfold ck at h ⊢
  by_cases z : e.1 = 0 ∧ b = true
  · rw [if_pos z] at h; exact absurd h hc
  · rw [if_neg z] at h ⊢
    refine ⟨h, ?_, rfl⟩
    cases y : b
    · rfl
    · exact absurd ⟨h, y⟩ z
theorem ck_err {x : Tn} {b : Bool} {c : Int32} {p : Nat} {e : Int32 × Int32} (h : e.1 ≠ 0) : ck x b c p e = e := if_neg (fun z => h z.1)
theorem erF_err {x : Tn} {bd : Nat → Bool} {p q : Nat} {e : Int32 × Int32} (h : e.1 ≠ 0) : erF x bd p q e = e := by
  unfold erF
  generalize q - p = n
  induction n generalizing p with
  | zero => rfl
  | succ n ih =>
    show erN x bd n (p + 1) (if e.1 = 0 ∧ bd p = true then (3, nI (sN x p)) else e) = e
    rw [if_neg (fun z => h z.1)]
    exact ih
section LINES
variable {x : Tn} {ki st nu mk fr : Nat → Int32} {na va : Nat → Int64} {p : Nat} {er es : Int32}
theorem c_ck (wf : wfN x) (rc : rNc x ki st nu na) (hp : p ≤ nN x) (b : Bool) {c : Int32} {K : (Int32 × Int32) → Prop} {e : Int32 × Int32} {A B : Prop} (kk : K (ck x b c p e)) (hA : b = true → (wX3_complain st (nI p) e.1 e.2 c K → A)) (hB : b = false → K e → B) : (b = true → A) ∧ (b = false → B) := by
  have n4 := wf.1
  refine ⟨fun h => hA h ?_, fun h => hB h ?_⟩
  · unfold wX3_complain
    refine ⟨fun z => ?_, fun z => ⟨vp_in_nI (by omega) (by decide), ?_⟩⟩
    · rw [ck_err z] at kk; exact kk
    · unfold ck at kk
      rw [if_pos ⟨z, h⟩] at kk
      rw [nI_clamp (by omega), (rc p hp).2.1]; exact kk
  · rw [ck_f h] at kk; exact kk
theorem c_num (wf : wfN x) (rc : rNc x ki st nu na) (hp : p ≤ nN x) (h : kN x p = 45) (lo hi : Nat) {K : Int32 → (Int32 × Int32 × Int32 × Int32) → Prop} {lo' hi' : Int32} (kk : K (nI (vN x p)) (nI (p + 1), nI (kN x (p + 1)), (ck x (decide (vN x p < lo) || decide (hi < vN x p)) 5 p (er, es)).1, (ck x (decide (vN x p < lo) || decide (hi < vN x p)) 5 p (er, es)).2)) (hl : lo' = nI lo := by rfl) (hh : hi' = nI hi := by rfl) (b1 : lo < 2 ^ 31 := by omega) (b2 : hi < 2 ^ 31 := by omega) : wX3_expectNumber ki st nu (nI (nN x + 1)) (nI p) (nI (kN x p)) er es lo' hi' K := by
  have n4 := wf.1
  have lt := kN_lt wf hp (by omega)
  have v6 := wf.2.2.2.2.1 p lt h
  subst hl hh
  have c43 : ∀ e : Int32 × Int32, K (nI (vN x p)) (nI (p + 1), nI (kN x (p + 1)), e.1, e.2) → wX3_expectNumber_43 K ki st nu (nI (nN x + 1)) (nI p) (nI (kN x p)) e.1 e.2 (nI (vN x p)) := fun e h => c_adv wf rc lt h
  have c38 : (decide (vN x p < lo) || decide (hi < vN x p)) = true → wX3_expectNumber_38 K ki st nu (nI (nN x + 1)) (nI p) (nI (kN x p)) er es (nI (vN x p)) := by
    intro hb
    rw [hb] at kk
    unfold wX3_expectNumber_38 wX3_complain
    refine ⟨fun z => ?_, fun z => ⟨vp_in_nI (by omega) (by decide), ?_⟩⟩
    · rw [ck_err (e := (er, es)) z] at kk
      exact c43 (er, es) kk
    · unfold ck at kk
      rw [if_pos ⟨z, rfl⟩] at kk
      rw [nI_clamp (by omega), (rc p hp).2.1]
      exact c43 (5, nI (sN x p)) kk
  unfold wX3_expectNumber
  rw [nI_clamp (by omega), (rc p hp).2.2.1 h]
  refine ⟨vp_in_nI (by omega) (by decide), br_t (by rw [h]; rfl) (pk_lt (vN x p) lo (fun z => c38 (by rw [decide_eq_true z]; rfl)) (fun z => pk_le (vN x p) hi (fun y => ?_) (fun y => c38 (by rw [decide_eq_true y, Bool.or_true]))))⟩
  rw [ck_f (by rw [decide_eq_false (by omega), decide_eq_false (by omega)]; rfl)] at kk
  exact c43 (er, es) kk
theorem c_num_n (wf : wfN x) (rc : rNc x ki st nu na) (hp : p ≤ nN x) (h : kN x p ≠ 45) (he : er ≠ 1) {K : Int32 → (Int32 × Int32 × Int32 × Int32) → Prop} {lo hi : Int32} (kk : K lo (nI p, 48, 1, nI (sN x p))) : wX3_expectNumber ki st nu (nI (nN x + 1)) (nI p) (nI (kN x p)) er es lo hi K := by
  have n4 := wf.1
  unfold wX3_expectNumber
  exact ⟨vp_in_nI (by omega) (by decide), c_is wf hp 45 (fun z => absurd z h) (fun _ => c_ref wf rc hp he kk)⟩
theorem c_num_B {n a : Nat} {K : Int32 → (Int32 × Int32 × Int32 × Int32) → Prop} {lo hi : Int32} (ha : a ≤ 400) (kk : K lo (nI a, 48, 1, es)) : wX3_expectNumber ki st nu (nI n) (nI a) 48 1 es lo hi K := by
  unfold wX3_expectNumber
  exact ⟨vp_in_nI (by omega) (by decide), br_f (by decide) (c_refB kk)⟩
/-- places -/
def tkn (N M : Nat) (f : Nat → Bool) (a b : Nat) : Bool := decide (a < N) && (decide (b < M) && f (a * 10 + b))
def ePl (x : Tn) (N M : Nat) (f : Nat → Bool) (p : Nat) (e : Int32 × Int32) : Int32 × Int32 := ck x (decide (M ≤ vN x (p + 3))) 5 (p + 3) (ck x (tkn N M f (vN x (p + 1)) (vN x (p + 3))) 2 (p + 3) (ck x (decide (N ≤ vN x (p + 1))) 5 (p + 1) e))
theorem ePl_ne {N M : Nat} {f : Nat → Bool} {e : Int32 × Int32} (h : e.1 ≠ 1) : (ePl x N M f p e).1 ≠ 1 := ck_ne (by decide) (ck_ne (by decide) (ck_ne (by decide) h))
theorem ePl_err {N M : Nat} {f : Nat → Bool} {e : Int32 × Int32} (h : e.1 ≠ 0) : ePl x N M f p e = e := by
  unfold ePl
  rw [ck_err h, ck_err h, ck_err h]
theorem ePl_0 {N M : Nat} {f : Nat → Bool} {e : Int32 × Int32} (h : (ePl x N M f p e).1 = 0) : e.1 = 0 ∧ ePl x N M f p e = e ∧ vN x (p + 1) < N ∧ vN x (p + 3) < M ∧ f (vN x (p + 1) * 10 + vN x (p + 3)) = false := by
  have a := ck_0 (by decide) h
  have b := ck_0 (by decide) a.1
  have c := ck_0 (by decide) b.1
  have c2 := of_decide_eq_false c.2.1
  have a2 := of_decide_eq_false a.2.1
  refine ⟨c.1, ?_, by omega, by omega, ?_⟩
  · unfold ePl
    rw [a.2.2, b.2.2, c.2.2]
  · have b2 := b.2.1
    unfold tkn at b2
    rw [decide_eq_true (by omega), decide_eq_true (by omega), Bool.true_and, Bool.true_and] at b2
    exact b2
theorem zB_ck {b : Bool} {A B : Prop} {y : Int32} (hy : y = zB b) (f : b = false → A) (g : b = true → B) : (y = 0 → A) ∧ (¬ y = 0 → B) := bz hy f g
section PLACE
variable {N M : Nat} {fi : Nat → Option Nat} {sp : Nat → Bool} {Fi Sp : Nat → Int32} {K : Int32 → (Int32 × Int32 × Int32 × Int32) → Prop}
/-- which place is asked: a spring's or a find's -/
def tkf (fi : Nat → Option Nat) (sp : Nat → Bool) (b : Bool) (c : Nat) : Bool := if b = true then sp c else (fi c).isSome
theorem c_pl60 (wf : wfN x) (rc : rNc x ki st nu na) (hp : p ≤ nN x) {b : Bool} {z0 : Int32} {tb : Bool} {e : Int32 × Int32} (hz : (z0 = -1 ∧ tb = false) ∨ ∃ c, c < 80 ∧ z0 = nI c ∧ tb = tkf fi sp b c) (rfi : ∀ c, c < 80 → Fi c = fI (fi c)) (hfi : ∀ c f, c < 80 → fi c = some f → f < 2 ^ 31) (rsp : rB 80 Sp sp) (kk : wX3_readPlace_96 K ki st nu (nI (nN x + 1)) (nI N) (nI M) Fi Sp (nI p) (nI (kN x p)) (ck x tb 2 p e).1 (ck x tb 2 p e).2 z0) : wX3_readPlace_60 K ki st nu (nI (nN x + 1)) (nI N) (nI M) Fi Sp (nI p) (nI (kN x p)) e.1 e.2 (zB b) z0 := by
  have n4 := wf.1
  have y0 : tb = false → wX3_readPlace_96 K ki st nu (nI (nN x + 1)) (nI N) (nI M) Fi Sp (nI p) (nI (kN x p)) e.1 e.2 z0 := by
    intro h
    rw [ck_f h] at kk; exact kk
  have y1 : tb = true → wX3_readPlace_91 K ki st nu (nI (nN x + 1)) (nI N) (nI M) Fi Sp (nI p) (nI (kN x p)) e.1 e.2 z0 := by
    intro h
    unfold wX3_readPlace_91 wX3_complain
    refine ⟨fun z => ?_, fun z => ⟨vp_in_nI (by omega) (by decide), ?_⟩⟩
    · rw [ck_err z] at kk; exact kk
    · unfold ck at kk
      rw [if_pos ⟨z, h⟩] at kk
      rw [nI_clamp (by omega), (rc p hp).2.1]; exact kk
  unfold wX3_readPlace_60
  refine bz rfl (fun hb => ?_) (fun hb => ?_)
  · unfold wX7_findIn wX7_isCushion
    rcases hz with ⟨h1, h2⟩ | ⟨c, c80, h1, h2⟩
    · subst h1
      exact br_t (by decide) (br_t rfl (br_t rfl (y0 h2)))
    · subst h1
      refine br_f (nI_pos (by omega)) (br_f (nI_ge (b := 80) c80 (by decide)) (br_f (by decide) ⟨vp_in_nI c80 (by decide), ?_⟩))
      rw [nI_clamp (by omega), rfi c c80]
      have m1 := fI_m1 (o := fi c) (fun f hf => hfi c f c80 hf)
      unfold tkf at h2
      rw [if_neg (by rw [hb]; decide)] at h2
      refine ⟨fun z => y0 ?_, fun z => y1 ?_⟩
      · have := m1.1 z
        rw [h2]
        cases q : fi c
        · rfl
        · rw [q] at this; cases this
      · rw [h2]
        cases q : fi c
        · exact absurd (m1.2 (by rw [q]; rfl)) z
        · rfl
  · unfold wX7_hasSpring wX7_isCushion
    rcases hz with ⟨h1, h2⟩ | ⟨c, c80, h1, h2⟩
    · subst h1
      exact br_t (by decide) (br_t rfl (br_t rfl (y0 h2)))
    · subst h1
      unfold tkf at h2
      rw [if_pos hb] at h2
      refine br_f (nI_pos (by omega)) (br_f (nI_ge (b := 80) c80 (by decide)) (br_f (by decide) ⟨vp_in_nI c80 (by decide), ?_⟩))
      rw [nI_clamp (by omega)]
      refine bz (rsp c c80) (fun q => br_t rfl (y0 (h2.trans q))) (fun q => br_f (by decide) (y1 (h2.trans q)))
theorem c_plB {b : Bool} {a : Nat} {e1 e2 : Int32} (ha : a ≤ 400) (kk : K (-1) (nI a, 48, 1, es)) : wX3_readPlace_60 K ki st nu (nI (nN x + 1)) e1 e2 Fi Sp (nI a) 48 1 es (zB b) (-1) := by
  have y : wX3_readPlace_96 K ki st nu (nI (nN x + 1)) e1 e2 Fi Sp (nI a) 48 1 es (-1) := by
    unfold wX3_readPlace_96
    exact c_num_B ha (bn_f (show ¬ (1 : Int32) = 0 by decide) kk)
  unfold wX3_readPlace_60
  refine bz rfl (fun hb => ?_) (fun hb => ?_)
  · unfold wX7_findIn wX7_isCushion
    exact br_t (by decide) (br_t rfl (br_t rfl y))
  · unfold wX7_hasSpring wX7_isCushion
    exact br_t (by decide) (br_t rfl (br_t rfl y))
theorem c_place_S (wf : wfN x) (rc : rNc x ki st nu na) (hp : p ≤ nN x) {b : Bool} (hN : 2 ≤ N ∧ N ≤ 8) (hM : 2 ≤ M ∧ M ≤ 10) (rfi : ∀ c, c < 80 → Fi c = fI (fi c)) (hfi : ∀ c f, c < 80 → fi c = some f → f < 2 ^ 31) (rsp : rB 80 Sp sp) (h0 : kN x p = 8) (h1 : kN x (p + 1) = 45) (h2 : kN x (p + 2) = 34) (h3 : kN x (p + 3) = 45)
    (k0 : (ePl x N M (tkf fi sp b) p (er, es)).1 = 0 → K (nI (vN x (p + 1) * 10 + vN x (p + 3))) (nI (p + 4), nI (kN x (p + 4)), (ePl x N M (tkf fi sp b) p (er, es)).1, (ePl x N M (tkf fi sp b) p (er, es)).2)) (k1 : (ePl x N M (tkf fi sp b) p (er, es)).1 ≠ 0 → K (-1) (nI (p + 4), nI (kN x (p + 4)), (ePl x N M (tkf fi sp b) p (er, es)).1, (ePl x N M (tkf fi sp b) p (er, es)).2)) : wX3_readPlace ki st nu (nI (nN x + 1)) (nI p) (nI (kN x p)) er es (nI N) (nI M) Fi Sp (zB b) K := by
  have n4 := wf.1
  have lt0 := kN_lt wf hp (by omega)
  have lt1 := kN_lt wf (p := p + 1) (by omega) (by omega)
  have lt2 := kN_lt wf (p := p + 2) (by omega) (by omega)
  have lt3 := kN_lt wf (p := p + 3) (by omega) (by omega)
  have v1 := wf.2.2.2.2.1 _ lt1 h1
  have v3 := wf.2.2.2.2.1 _ lt3 h3
  have eN : nI N - 1 = nI (N - 1) := nI_dec (by omega)
  have eM : nI M - 1 = nI (M - 1) := nI_dec (by omega)
  have b1 : (decide (vN x (p + 1) < 0) || decide (N - 1 < vN x (p + 1))) = decide (N ≤ vN x (p + 1)) := by
    rw [decide_eq_false (by omega), Bool.false_or]
    exact decide_eq_decide.2 (by omega)
  have b3 : (decide (vN x (p + 3) < 0) || decide (M - 1 < vN x (p + 3))) = decide (M ≤ vN x (p + 3)) := by
    rw [decide_eq_false (by omega), Bool.false_or]
    exact decide_eq_decide.2 (by omega)
  unfold wX3_readPlace
  refine c_exp_y wf rc hp 8 h0 ?_
  refine c_num wf rc (p := p + 1) (by omega) h1 0 (N - 1) ?_ rfl eN
  rw [b1]
  refine c_exp_y wf rc (p := p + 2) (by omega) 34 h2 ?_
  refine bn_t (by show nI (kN x (p + 3)) = 45; rw [h3]; rfl) ⟨vp_in_nI (n := p + 3) (by omega) (by decide), ?_⟩
  have nu3 : nu (nI (p + 3)).toNatClampNeg = nI (vN x (p + 3)) := by rw [nI_clamp (by omega)]; exact (rc (p + 3) (by omega)).2.2.1 h3
  have fin : ∀ z0 : Int32, ((z0 = -1 ∧ tkn N M (tkf fi sp b) (vN x (p + 1)) (vN x (p + 3)) = false) ∨ ∃ c, c < 80 ∧ z0 = nI c ∧ tkn N M (tkf fi sp b) (vN x (p + 1)) (vN x (p + 3)) = tkf fi sp b c) → (vN x (p + 1) < N → vN x (p + 3) < M → z0 = nI (vN x (p + 1) * 10 + vN x (p + 3))) → wX3_readPlace_60 K ki st nu (nI (nN x + 1)) (nI N) (nI M) Fi Sp (nI (p + 3)) (nI (kN x (p + 3))) (ck x (decide (N ≤ vN x (p + 1))) 5 (p + 1) (er, es)).1 (ck x (decide (N ≤ vN x (p + 1))) 5 (p + 1) (er, es)).2 (zB b) z0 := by
    intro z0 hz hz2
    refine c_pl60 wf rc (p := p + 3) (by omega) hz rfi hfi rsp ?_
    unfold wX3_readPlace_96
    refine c_num wf rc (p := p + 3) (by omega) h3 0 (M - 1) ?_ rfl eM
    rw [b3]
    refine ⟨fun z => k1 z, fun z => ?_⟩
    have t := ePl_0 (x := x) (p := p) z
    rw [hz2 t.2.2.1 t.2.2.2.1]
    exact k0 z
  show wX7_cushionTold (nI N) (nI M) (nI (vN x (p + 1))) (nu (nI (p + 3)).toNatClampNeg) _
  rw [nu3]
  unfold wX7_cushionTold
  refine br_f (nI_pos (by omega)) (pk_le N (vN x (p + 1)) (fun z => fin _ (Or.inl ⟨rfl, ?_⟩) (fun y => by omega)) (fun z => br_f (nI_pos (by omega)) (pk_lt (vN x (p + 3)) M (fun y => ?_) (fun y => fin _ (Or.inl ⟨rfl, ?_⟩) (fun _ v => by omega)))))
  · unfold tkn
    rw [decide_eq_false (by omega), Bool.false_and]
  · rw [show (10 : Int32) = nI 10 from rfl, pk_mul, nI_add]
    refine fin _ (Or.inr ⟨vN x (p + 1) * 10 + vN x (p + 3), by omega, rfl, ?_⟩) (fun _ _ => rfl)
    unfold tkn
    rw [decide_eq_true z, decide_eq_true y, Bool.true_and, Bool.true_and]
  · unfold tkn
    rw [decide_eq_false (p := vN x (p + 3) < M) (by omega), Bool.false_and, Bool.and_false]
theorem c_place_F0 (wf : wfN x) (rc : rNc x ki st nu na) (hp : p ≤ nN x) (he : er ≠ 1) {b : Bool} (hN : 2 ≤ N ∧ N ≤ 8) (hM : 2 ≤ M ∧ M ≤ 10) (rfi : ∀ c, c < 80 → Fi c = fI (fi c)) (hfi : ∀ c f, c < 80 → fi c = some f → f < 2 ^ 31) (rsp : rB 80 Sp sp) (h0 : kN x p ≠ 8) (kk : K (-1) (nI p, 48, 1, nI (sN x p))) : wX3_readPlace ki st nu (nI (nN x + 1)) (nI p) (nI (kN x p)) er es (nI N) (nI M) Fi Sp (zB b) K := by
  have n4 := wf.1
  unfold wX3_readPlace
  exact c_exp_n wf rc hp he 8 h0 (c_num_B (by omega) (c_exp_B (bn_f (show ¬ (48 : Int32) = 45 by decide) (c_plB (by omega) kk))))
theorem c_place_F1 (wf : wfN x) (rc : rNc x ki st nu na) (hp : p ≤ nN x) (he : er ≠ 1) {b : Bool} (hN : 2 ≤ N ∧ N ≤ 8) (hM : 2 ≤ M ∧ M ≤ 10) (rfi : ∀ c, c < 80 → Fi c = fI (fi c)) (hfi : ∀ c f, c < 80 → fi c = some f → f < 2 ^ 31) (rsp : rB 80 Sp sp) (h0 : kN x p = 8) (h1 : kN x (p + 1) ≠ 45) (kk : K (-1) (nI (p + 1), 48, 1, nI (sN x (p + 1)))) : wX3_readPlace ki st nu (nI (nN x + 1)) (nI p) (nI (kN x p)) er es (nI N) (nI M) Fi Sp (zB b) K := by
  have n4 := wf.1
  have lt0 := kN_lt wf (p := p) (by omega) (by omega)
  unfold wX3_readPlace
  refine c_exp_y wf rc hp 8 h0 ?_
  exact c_num_n wf rc (p := p + 1) (by omega) h1 he (c_exp_B (bn_f (show ¬ (48 : Int32) = 45 by decide) (c_plB (by omega) kk)))
theorem c_place_F2 (wf : wfN x) (rc : rNc x ki st nu na) (hp : p ≤ nN x) (he : er ≠ 1) {b : Bool} (hN : 2 ≤ N ∧ N ≤ 8) (hM : 2 ≤ M ∧ M ≤ 10) (rfi : ∀ c, c < 80 → Fi c = fI (fi c)) (hfi : ∀ c f, c < 80 → fi c = some f → f < 2 ^ 31) (rsp : rB 80 Sp sp) (h0 : kN x p = 8) (h1 : kN x (p + 1) = 45) (h2 : kN x (p + 2) ≠ 34) (kk : K (-1) (nI (p + 2), 48, 1, nI (sN x (p + 2)))) : wX3_readPlace ki st nu (nI (nN x + 1)) (nI p) (nI (kN x p)) er es (nI N) (nI M) Fi Sp (zB b) K := by
  have n4 := wf.1
  have lt0 := kN_lt wf (p := p) (by omega) (by omega)
  have lt1 := kN_lt wf (p := p + 1) (by omega) (by omega)
  unfold wX3_readPlace
  refine c_exp_y wf rc hp 8 h0 ?_
  refine c_num wf rc (p := p + 1) (by omega) h1 0 (N - 1) ?_ rfl (nI_dec (by omega))
  exact c_exp_n wf rc (p := p + 2) (by omega) (ck_ne (by decide) he) 34 h2 (bn_f (show ¬ (48 : Int32) = 45 by decide) (c_plB (by omega) kk))
theorem c_place_F3 (wf : wfN x) (rc : rNc x ki st nu na) (hp : p ≤ nN x) (he : er ≠ 1) {b : Bool} (hN : 2 ≤ N ∧ N ≤ 8) (hM : 2 ≤ M ∧ M ≤ 10) (rfi : ∀ c, c < 80 → Fi c = fI (fi c)) (hfi : ∀ c f, c < 80 → fi c = some f → f < 2 ^ 31) (rsp : rB 80 Sp sp) (h0 : kN x p = 8) (h1 : kN x (p + 1) = 45) (h2 : kN x (p + 2) = 34) (h3 : kN x (p + 3) ≠ 45) (kk : K (-1) (nI (p + 3), 48, 1, nI (sN x (p + 3)))) : wX3_readPlace ki st nu (nI (nN x + 1)) (nI p) (nI (kN x p)) er es (nI N) (nI M) Fi Sp (zB b) K := by
  have n4 := wf.1
  have lt0 := kN_lt wf (p := p) (by omega) (by omega)
  have lt1 := kN_lt wf (p := p + 1) (by omega) (by omega)
  have lt2 := kN_lt wf (p := p + 2) (by omega) (by omega)
  unfold wX3_readPlace
  refine c_exp_y wf rc hp 8 h0 ?_
  refine c_num wf rc (p := p + 1) (by omega) h1 0 (N - 1) ?_ rfl (nI_dec (by omega))
  refine c_exp_y wf rc (p := p + 2) (by omega) 34 h2 (bn_f (c_ne wf (p := p + 3) (by omega) 45 h3) ?_)
  refine c_pl60 (fi := fi) (sp := sp) (tb := false) wf rc (p := p + 3) (by omega) (Or.inl ⟨rfl, rfl⟩) rfi hfi rsp ?_
  rw [ck_f rfl]
  unfold wX3_readPlace_96
  exact c_num_n wf rc (p := p + 3) (by omega) h3 (ck_ne (by decide) he) (bn_f (show ¬ (1 : Int32) = 0 by decide) kk)
theorem c_placeB {b : Bool} {a : Nat} {e1 e2 : Int32} (ha : a ≤ 400) (kk : K (-1) (nI a, 48, 1, es)) : wX3_readPlace ki st nu (nI (nN x + 1)) (nI a) 48 1 es e1 e2 Fi Sp (zB b) K := by
  unfold wX3_readPlace
  exact c_exp_B (c_num_B ha (c_exp_B (bn_f (show ¬ (48 : Int32) = 45 by decide) (c_plB ha kk))))
end PLACE
theorem m_place_F0 (wf : wfN x) (rm : rNm x mk fr va) (hp : p ≤ nN x) (h0 : kN x p ≠ 8) {me : Nat → Int32} {K : Int32 → ((Nat → Int32) × Int32) → Prop} (kk : ∀ me', K 0 (me', nI p)) : wX10_isPlace mk me (nI p) K := by
  have n4 := wf.1
  unfold wX10_isPlace
  exact m_eat_n wf rm hp 8 h0 (br_t rfl (kk _))
theorem m_place_F1 (wf : wfN x) (rm : rNm x mk fr va) (hp : p ≤ nN x) (h0 : kN x p = 8) (h1 : kN x (p + 1) ≠ 45) {me : Nat → Int32} {K : Int32 → ((Nat → Int32) × Int32) → Prop} (kk : ∀ me', K 0 (me', nI (p + 1))) : wX10_isPlace mk me (nI p) K := by
  have n4 := wf.1
  have lt0 := kN_lt wf (p := p) (by omega) (by omega)
  unfold wX10_isPlace
  exact m_eat_y wf rm hp 8 h0 (br_f (by decide) (m_as_n wf rm (p := p + 1) (by omega) 45 h1 (br_t rfl (kk _))))
theorem m_place_F2 (wf : wfN x) (rm : rNm x mk fr va) (hp : p ≤ nN x) (h0 : kN x p = 8) (h1 : kN x (p + 1) = 45) (h2 : kN x (p + 2) ≠ 34) {me : Nat → Int32} {K : Int32 → ((Nat → Int32) × Int32) → Prop} (kk : ∀ me', K 0 (me', nI (p + 2))) : wX10_isPlace mk me (nI p) K := by
  have n4 := wf.1
  have lt0 := kN_lt wf (p := p) (by omega) (by omega)
  have lt1 := kN_lt wf (p := p + 1) (by omega) (by omega)
  unfold wX10_isPlace
  exact m_eat_y wf rm hp 8 h0 (br_f (by decide) (m_as_y wf rm (p := p + 1) (by omega) 45 h1 (br_f (by decide) (m_eat_n wf rm (p := p + 2) (by omega) 34 h2 (br_t rfl (kk _))))))
theorem m_place_F3 (wf : wfN x) (rm : rNm x mk fr va) (hp : p ≤ nN x) (h0 : kN x p = 8) (h1 : kN x (p + 1) = 45) (h2 : kN x (p + 2) = 34) (h3 : kN x (p + 3) ≠ 45) {me : Nat → Int32} {K : Int32 → ((Nat → Int32) × Int32) → Prop} (kk : ∀ me', K 0 (me', nI (p + 3))) : wX10_isPlace mk me (nI p) K := by
  have n4 := wf.1
  have lt0 := kN_lt wf (p := p) (by omega) (by omega)
  have lt1 := kN_lt wf (p := p + 1) (by omega) (by omega)
  have lt2 := kN_lt wf (p := p + 2) (by omega) (by omega)
  unfold wX10_isPlace
  exact m_eat_y wf rm hp 8 h0 (br_f (by decide) (m_as_y wf rm (p := p + 1) (by omega) 45 h1 (br_f (by decide) (m_eat_y wf rm (p := p + 2) (by omega) 34 h2 (br_f (by decide) (m_as_n wf rm (p := p + 3) (by omega) 45 h3 (br_t rfl (kk _))))))))
theorem m_place_S (wf : wfN x) (rm : rNm x mk fr va) (hp : p ≤ nN x) (h0 : kN x p = 8) (h1 : kN x (p + 1) = 45) (h2 : kN x (p + 2) = 34) (h3 : kN x (p + 3) = 45) {me : Nat → Int32} {K : Int32 → ((Nat → Int32) × Int32) → Prop} (kk : K 1 (upd (upd me (p + 1) 7) (p + 3) 8, nI (p + 4))) : wX10_isPlace mk me (nI p) K := by
  have n4 := wf.1
  have lt0 := kN_lt wf (p := p) (by omega) (by omega)
  have lt1 := kN_lt wf (p := p + 1) (by omega) (by omega)
  have lt2 := kN_lt wf (p := p + 2) (by omega) (by omega)
  have lt3 := kN_lt wf (p := p + 3) (by omega) (by omega)
  unfold wX10_isPlace
  exact m_eat_y wf rm hp 8 h0 (br_f (by decide) (m_as_y wf rm (p := p + 1) (by omega) 45 h1 (br_f (by decide) (m_eat_y wf rm (p := p + 2) (by omega) 34 h2 (br_f (by decide) (m_as_y wf rm (p := p + 3) (by omega) 45 h3 (br_f (by decide) (kk))))))))
end LINES
