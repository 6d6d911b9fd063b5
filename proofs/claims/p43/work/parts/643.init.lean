/-! PURE: the class's beginnings (out of whole's parts 506, 540). -/
def m1f (f : (Nat → Int32)) : (Nat → Int32) := fun i => if i < 80 then -1 else f i
def z0f (f : (Nat → Int32)) : (Nat → Int32) := fun i => if i < 80 then 0 else f i
def tZ : Tl := ((4, 6, 0, 0), fun _ => 0, fun _ => none, fun _ => false, fun _ => false, fun _ => 0, fun _ => 0, fun _ => 0)
def pZ : Pn := ((0, 0), fun _ => 0, fun _ => 0, fun _ => 0, fun _ => 0, fun _ => 0)
theorem wfT_0 : wfT tZ := by
  refine ⟨⟨by decide, by decide⟩, ⟨by decide, by decide⟩, by decide, by decide, fun f hf => absurd hf (Nat.not_lt_zero f), fun c f _ h => ?_, fun f hf => absurd hf (Nat.not_lt_zero f)⟩
  cases h
theorem wfP_0 : wfP pZ := ⟨by decide, by decide, fun o h => absurd h (Nat.not_lt_zero o)⟩
theorem rT_0 {co cu de fi sp fr to : (Nat → Int32)} (h1 : ∀ c, c < 80 → fi c = -1) (h2 : ∀ c, c < 80 → sp c = 0) : rT tZ (nI 4) (nI 6) (nI 0) (nI 0) co cu de fi sp fr to := ⟨⟨rfl, rfl, rfl, rfl⟩, fun i h => absurd h (Nat.not_lt_zero i), fun i h => absurd h (Nat.not_lt_zero i), fun i h => absurd h (Nat.not_lt_zero i), fun c h => h1 c h, fun c h => h2 c h, fun i h => absurd h (Nat.not_lt_zero i), fun i h => absurd h (Nat.not_lt_zero i)⟩
theorem m1f_in {f : (Nat → Int32)} {c : Nat} (h : c < 80) : m1f f c = -1 := if_pos h
theorem z0f_in {f : (Nat → Int32)} {c : Nat} (h : c < 80) : z0f f c = 0 := if_pos h
theorem fill_st {f : (Nat → Int32)} {v : Int32} {i : Nat} : upd (fun j => if j < i then v else f j) i v = fun j => if j < i + 1 then v else f j := by
  funext j
  by_cases z : j = i
  · subst z; rw [us, if_pos (by omega)]
  · rw [un z]
    by_cases y : j < i
    · rw [if_pos y, if_pos (by omega)]
    · rw [if_neg y, if_neg (by omega)]
theorem fill_0 {f : (Nat → Int32)} {v : Int32} : (fun j => if j < 0 then v else f j) = f := by
  funext j
  rw [if_neg (Nat.not_lt_zero j)]
theorem sz_fill80 {f : (Nat → Int32)} {K : (Nat → Int32) → Prop} (kk : K (m1f f)) : wJ7_fill_53178 f (-1) K := by
  unfold wJ7_fill_53178
  have h := pk_loop (fun n i (_ : Unit) => wJ7_fill_53178_5 K n (fun j => if j < i then -1 else f j) (-1) (nI i) 80) (fun _ _ => True) 80 0 () (by omega) trivial (fun n _ _ => ?_) (fun n i _ hi _ ih => ?_)
  · obtain ⟨n, hn⟩ := h
    rw [fill_0] at hn
    exact ⟨n, hn⟩
  · unfold wJ7_fill_53178_5
    exact br_t (by decide) kk
  · unfold wJ7_fill_53178_5
    refine br_f (nI_ge (b := 80) hi (by decide)) ⟨vp_in_nI hi (by decide), ?_⟩
    rw [nI_clamp (by omega), nI_1, fill_st]
    exact ih () trivial
theorem sz_clear {s st e f O S : Int32} {fi sp : (Nat → Int32)} {K : (Int32 × Int32 × Int32 × Int32 × (Nat → Int32) × (Nat → Int32) × Int32 × Int32) → Prop} (kk : K (4, 6, 0, 0, m1f fi, z0f sp, 0, 0)) : wX7_clear s st e f fi sp O S K := by
  unfold wX7_clear wX7_resize
  refine sz_fill80 ?_
  have h := pk_loop (fun n i (_ : Unit) => wX7_clear_27 K n 4 6 0 0 (m1f fi) (fun j => if j < i then 0 else sp j) O S (nI i)) (fun _ _ => True) 80 0 () (by omega) trivial (fun n _ _ => ?_) (fun n i _ hi _ ih => ?_)
  · obtain ⟨n, hn⟩ := h
    rw [fill_0] at hn
    exact ⟨n, hn⟩
  · unfold wX7_clear_27
    exact br_t (by decide) kk
  · unfold wX7_clear_27
    refine br_f (nI_ge (b := 80) hi (by decide)) ⟨vp_in_nI hi (by decide), ?_⟩
    rw [nI_clamp (by omega), nI_1, fill_st]
    exact ih () trivial
theorem m1f_z : ∀ c, c < 80 → m1f (fun _ => 0) c = -1 := fun c h => m1f_in h
theorem z0f_z : ∀ c, c < 80 → z0f (fun _ => 0) c = 0 := fun c h => z0f_in h
theorem sz_newTold {a b c d : Int32} {K : (Int32 × Int32 × Int32 × Int32 × (Nat → Int64) × (Nat → Int32) × (Nat → Int32) × (Nat → Int32) × (Nat → Int32) × (Nat → Int32) × (Nat → Int32) × (Nat → Int32) × Int32 × Int32 × (Nat → Int32) × (Nat → Int32) × (Nat → Int32) × (Nat → Int32) × (Nat → Int32) × Nat × Nat × Nat × Nat × Nat × Nat × Nat × Nat × Nat × Nat × Nat × Nat × Nat × Nat) → Prop} (kk : ∀ q1 q2 q3 q4 q5 q6 q7 q8 q9 q10 q11 q12 q13 q14 : Nat, K (4, 6, 0, 0, (fun _ => 0), (fun _ => 0), (fun _ => 0), (fun _ => 0), (fun _ => 0), (fun _ => 0), m1f (fun _ => 0), z0f (fun _ => 0), 0, 0, (fun _ => 0), (fun _ => 0), (fun _ => 0), (fun _ => 0), (fun _ => 0), q1, q2, q3, q4, q5, q6, q7, q8, q9, q10, q11, q12, q13, q14)) : wX7_init a b c d K := by
  unfold wX7_init wX1_init
  intros
  intro q3 q4 q5 q6 q7 q8 q9 q10
  refine sz_clear ?_
  exact kk _ _ _ _ _ _ _ _ _ _ _ _ _ _
theorem sz_newReader {e : Int32} {K : ((Nat → Int32) × (Nat → Int32) × (Nat → Int32) × (Nat → Int64) × Int32 × Int32 × Int32 × Int32 × Int32 × Int32 × Int32 × (Nat → Int64) × (Nat → Int32) × (Nat → Int32) × (Nat → Int32) × (Nat → Int32) × (Nat → Int32) × (Nat → Int32) × (Nat → Int32) × Int32 × Int32 × (Nat → Int32) × (Nat → Int32) × (Nat → Int32) × (Nat → Int32) × (Nat → Int32) × Nat × Nat × Nat × Nat × Nat × Nat × Nat × Nat × Nat × Nat × Nat × Nat × Nat × Nat × Nat × Nat × Nat × Nat × Nat × Nat) → Prop} (kk : ∀ u, K u) : wX3_init e K := by
  unfold wX3_init wX6_init
  intros
  intro q3
  refine sz_newTold (fun _ _ _ _ _ _ _ _ _ _ _ _ _ _ => ?_)
  exact kk _
theorem sz_newPlanner {K : ((Nat → Int32) × Nat) → Prop} (kk : ∀ u, K u) : wX2_init K := by
  unfold wX2_init
  intros
  exact kk _
theorem sz_newTape {K : ((Nat → Int32) × Nat) → Prop} (kk : ∀ u, K u) : wX5_init K := by
  unfold wX5_init
  intros
  exact kk _
theorem sz_newSofa {K : ((Nat → Int32) × (Nat → Int32) × (Nat → Int32) × (Nat → Int32) × (Nat → Int32) × (Nat → Int32) × Int32 × Int32 × Int32 × Int32 × Int32 × Int32 × Int32 × Nat × Nat × Nat × Nat × Nat × Nat) → Prop} {t : Tl} {y0 y1 y2 y3 y4 y5 y6 : Int32} (wt : wfT t) (kk : ∀ S' H' L' P' F' U', rSG S' H' L' P' F' U' 0 0 0 0 0 0 0 (x0 t) → ∀ q1 q2 q3 q4 q5 q6 : Nat, K (S', H', L', P', F', U', 0, 0, 0, 0, 0, 0, 0, q1, q2, q3, q4, q5, q6)) : wX4_init (nI (tN t)) (nI (tM t)) y0 y1 y2 y3 y4 y5 y6 K := by
  unfold wX4_init
  intros
  exact sz_begin wt (fun _ _ _ _ _ _ r => kk _ _ _ _ _ _ r _ _ _ _ _ _)
set_option maxRecDepth 100000 in
set_option maxHeartbeats 4000000 in
theorem sz_init {K : (Int32 × (Nat → Int32) × Int32 × (Nat → Int32) × (Nat → Int32) × (Nat → Int32) × (Nat → Int64) × Int32 × Int32 × Int32 × Int32 × Int32 × Int32 × Int32 × Int32 × Int32 × Int32 × (Nat → Int64) × (Nat → Int32) × (Nat → Int32) × (Nat → Int32) × (Nat → Int32) × (Nat → Int32) × (Nat → Int32) × (Nat → Int32) × Int32 × Int32 × (Nat → Int32) × (Nat → Int32) × (Nat → Int32) × (Nat → Int32) × (Nat → Int32) × Int32 × Int32 × Int32 × Int32 × (Nat → Int64) × (Nat → Int32) × (Nat → Int32) × (Nat → Int32) × (Nat → Int32) × (Nat → Int32) × (Nat → Int32) × (Nat → Int32) × Int32 × Int32 × (Nat → Int32) × (Nat → Int32) × (Nat → Int32) × (Nat → Int32) × (Nat → Int32) × (Nat → Int32) × Int32 × (Nat → Int32) × (Nat → Int32) × (Nat → Int32) × (Nat → Int32) × (Nat → Int32) × (Nat → Int32) × Int32 × Int32 × Int32 × Int32 × Int32 × Int32 × Int32 × (Nat → Int32) × (Nat → Int32) × (Nat → Int32) × (Nat → Int32) × (Nat → Int32) × (Nat → Int32) × Int32 × Int32 × Int32 × Int32 × Int32 × Int32 × Int32 × Nat × Nat × Nat × Nat × Nat × Nat × Nat × Nat × Nat × Nat × Nat × Nat × Nat × Nat × Nat × Nat × Nat × Nat × Nat × Nat × Nat × Nat × Nat × Nat × Nat × Nat × Nat × Nat × Nat × Nat × Nat × Nat × Nat × Nat × Nat × Nat × Nat × Nat × Nat × Nat × Nat × Nat × Nat × Nat × Nat × Nat × Nat × Nat × Nat × Nat × Nat × Nat × Nat × Nat) → Prop} (kk : ∀ u : (Int32 × (Nat → Int32) × Int32 × (Nat → Int32) × (Nat → Int32) × (Nat → Int32) × (Nat → Int64) × Int32 × Int32 × Int32 × Int32 × Int32 × Int32 × Int32 × Int32 × Int32 × Int32 × (Nat → Int64) × (Nat → Int32) × (Nat → Int32) × (Nat → Int32) × (Nat → Int32) × (Nat → Int32) × (Nat → Int32) × (Nat → Int32) × Int32 × Int32 × (Nat → Int32) × (Nat → Int32) × (Nat → Int32) × (Nat → Int32) × (Nat → Int32) × Int32 × Int32 × Int32 × Int32 × (Nat → Int64) × (Nat → Int32) × (Nat → Int32) × (Nat → Int32) × (Nat → Int32) × (Nat → Int32) × (Nat → Int32) × (Nat → Int32) × Int32 × Int32 × (Nat → Int32) × (Nat → Int32) × (Nat → Int32) × (Nat → Int32) × (Nat → Int32) × (Nat → Int32) × Int32 × (Nat → Int32) × (Nat → Int32) × (Nat → Int32) × (Nat → Int32) × (Nat → Int32) × (Nat → Int32) × Int32 × Int32 × Int32 × Int32 × Int32 × Int32 × Int32 × (Nat → Int32) × (Nat → Int32) × (Nat → Int32) × (Nat → Int32) × (Nat → Int32) × (Nat → Int32) × Int32 × Int32 × Int32 × Int32 × Int32 × Int32 × Int32 × Nat × Nat × Nat × Nat × Nat × Nat × Nat × Nat × Nat × Nat × Nat × Nat × Nat × Nat × Nat × Nat × Nat × Nat × Nat × Nat × Nat × Nat × Nat × Nat × Nat × Nat × Nat × Nat × Nat × Nat × Nat × Nat × Nat × Nat × Nat × Nat × Nat × Nat × Nat × Nat × Nat × Nat × Nat × Nat × Nat × Nat × Nat × Nat × Nat × Nat × Nat × Nat × Nat × Nat), u.1 = -1 → u.2.2.1 = 0 → rT tZ u.2.2.2.2.2.2.2.2.2.2.2.2.2.1 u.2.2.2.2.2.2.2.2.2.2.2.2.2.2.1 u.2.2.2.2.2.2.2.2.2.2.2.2.2.2.2.1 u.2.2.2.2.2.2.2.2.2.2.2.2.2.2.2.2.1 u.2.2.2.2.2.2.2.2.2.2.2.2.2.2.2.2.2.2.2.2.1 u.2.2.2.2.2.2.2.2.2.2.2.2.2.2.2.2.2.2.2.2.2.1 u.2.2.2.2.2.2.2.2.2.2.2.2.2.2.2.2.2.2.2.2.2.2.1 u.2.2.2.2.2.2.2.2.2.2.2.2.2.2.2.2.2.2.2.2.2.2.2.1 u.2.2.2.2.2.2.2.2.2.2.2.2.2.2.2.2.2.2.2.2.2.2.2.2.1 u.2.2.2.2.2.2.2.2.2.2.2.2.2.2.2.2.2.2.1 u.2.2.2.2.2.2.2.2.2.2.2.2.2.2.2.2.2.2.2.1 → rPc tZ pZ u.2.2.2.2.2.2.2.2.2.2.2.2.2.2.2.2.2.2.2.2.2.2.2.2.2.1 u.2.2.2.2.2.2.2.2.2.2.2.2.2.2.2.2.2.2.2.2.2.2.2.2.2.2.1 u.2.2.2.2.2.2.2.2.2.2.2.2.2.2.2.2.2.2.2.2.2.2.2.2.2.2.2.1 u.2.2.2.2.2.2.2.2.2.2.2.2.2.2.2.2.2.2.2.2.2.2.2.2.2.2.2.2.1 u.2.2.2.2.2.2.2.2.2.2.2.2.2.2.2.2.2.2.2.2.2.2.2.2.2.2.2.2.2.1 u.2.2.2.2.2.2.2.2.2.2.2.2.2.2.2.2.2.2.2.2.2.2.2.2.2.2.2.2.2.2.1 u.2.2.2.2.2.2.2.2.2.2.2.2.2.2.2.2.2.2.2.2.2.2.2.2.2.2.2.2.2.2.2.1 → rSG u.2.2.2.2.2.2.2.2.2.2.2.2.2.2.2.2.2.2.2.2.2.2.2.2.2.2.2.2.2.2.2.2.2.2.2.2.2.2.2.2.2.2.2.2.2.2.2.2.2.2.2.2.2.1 u.2.2.2.2.2.2.2.2.2.2.2.2.2.2.2.2.2.2.2.2.2.2.2.2.2.2.2.2.2.2.2.2.2.2.2.2.2.2.2.2.2.2.2.2.2.2.2.2.2.2.2.2.2.2.1 u.2.2.2.2.2.2.2.2.2.2.2.2.2.2.2.2.2.2.2.2.2.2.2.2.2.2.2.2.2.2.2.2.2.2.2.2.2.2.2.2.2.2.2.2.2.2.2.2.2.2.2.2.2.2.2.1 u.2.2.2.2.2.2.2.2.2.2.2.2.2.2.2.2.2.2.2.2.2.2.2.2.2.2.2.2.2.2.2.2.2.2.2.2.2.2.2.2.2.2.2.2.2.2.2.2.2.2.2.2.2.2.2.2.1 u.2.2.2.2.2.2.2.2.2.2.2.2.2.2.2.2.2.2.2.2.2.2.2.2.2.2.2.2.2.2.2.2.2.2.2.2.2.2.2.2.2.2.2.2.2.2.2.2.2.2.2.2.2.2.2.2.2.1 u.2.2.2.2.2.2.2.2.2.2.2.2.2.2.2.2.2.2.2.2.2.2.2.2.2.2.2.2.2.2.2.2.2.2.2.2.2.2.2.2.2.2.2.2.2.2.2.2.2.2.2.2.2.2.2.2.2.2.1 u.2.2.2.2.2.2.2.2.2.2.2.2.2.2.2.2.2.2.2.2.2.2.2.2.2.2.2.2.2.2.2.2.2.2.2.2.2.2.2.2.2.2.2.2.2.2.2.2.2.2.2.2.2.2.2.2.2.2.2.1 u.2.2.2.2.2.2.2.2.2.2.2.2.2.2.2.2.2.2.2.2.2.2.2.2.2.2.2.2.2.2.2.2.2.2.2.2.2.2.2.2.2.2.2.2.2.2.2.2.2.2.2.2.2.2.2.2.2.2.2.2.1 u.2.2.2.2.2.2.2.2.2.2.2.2.2.2.2.2.2.2.2.2.2.2.2.2.2.2.2.2.2.2.2.2.2.2.2.2.2.2.2.2.2.2.2.2.2.2.2.2.2.2.2.2.2.2.2.2.2.2.2.2.2.1 u.2.2.2.2.2.2.2.2.2.2.2.2.2.2.2.2.2.2.2.2.2.2.2.2.2.2.2.2.2.2.2.2.2.2.2.2.2.2.2.2.2.2.2.2.2.2.2.2.2.2.2.2.2.2.2.2.2.2.2.2.2.2.1 u.2.2.2.2.2.2.2.2.2.2.2.2.2.2.2.2.2.2.2.2.2.2.2.2.2.2.2.2.2.2.2.2.2.2.2.2.2.2.2.2.2.2.2.2.2.2.2.2.2.2.2.2.2.2.2.2.2.2.2.2.2.2.2.1 u.2.2.2.2.2.2.2.2.2.2.2.2.2.2.2.2.2.2.2.2.2.2.2.2.2.2.2.2.2.2.2.2.2.2.2.2.2.2.2.2.2.2.2.2.2.2.2.2.2.2.2.2.2.2.2.2.2.2.2.2.2.2.2.2.1 u.2.2.2.2.2.2.2.2.2.2.2.2.2.2.2.2.2.2.2.2.2.2.2.2.2.2.2.2.2.2.2.2.2.2.2.2.2.2.2.2.2.2.2.2.2.2.2.2.2.2.2.2.2.2.2.2.2.2.2.2.2.2.2.2.2.1 (x0 tZ) → K u) : wX8_init 0 K := by
  unfold wX8_init
  intro q1
  refine sz_newTape (fun u2 q3 => sz_newTold (fun _ _ _ _ _ _ _ _ _ _ _ _ _ _ q5 => sz_newReader (fun u6 q7 => sz_newPlanner (fun u8 q9 => sz_newSofa (t := tZ) wfT_0 (fun S' H' L' P' F' U' r _ _ _ _ _ _ q11 => sz_newSofa (t := tZ) wfT_0 (fun _ _ _ _ _ _ _ _ _ _ _ _ _ => ?_))))))
  exact kk _ rfl rfl (rT_0 m1f_z z0f_z) ⟨⟨rfl, rfl⟩, fun o h => absurd h (Nat.not_lt_zero o), fun i h => absurd h (Nat.not_lt_zero i)⟩ r
