/-! the told things asked: the class's methods -/
def anyB (p : Nat → Bool) : Nat → Bool
  | 0 => false
  | n + 1 => anyB p n || p n
theorem anyB_t {p : Nat → Bool} : ∀ {n i : Nat}, i < n → p i = true → anyB p n = true
  | 0, _, h, _ => absurd h (Nat.not_lt_zero _)
  | n + 1, i, h, hp => by
    unfold anyB
    rcases Nat.lt_or_ge i n with z | z
    · rw [anyB_t z hp]; rfl
    · have : i = n := by omega
      subst this
      rw [hp, Bool.or_true]
theorem anyB_f {p : Nat → Bool} : ∀ {n : Nat}, (∀ i, i < n → p i = false) → anyB p n = false
  | 0, _ => rfl
  | n + 1, h => by
    unfold anyB
    rw [anyB_f (fun i hi => h i (by omega)), h n (by omega)]; rfl
theorem anyB_ex {p : Nat → Bool} : ∀ {n : Nat}, anyB p n = true → ∃ i, i < n ∧ p i = true
  | 0, h => by cases h
  | n + 1, h => by
    unfold anyB at h
    rw [Bool.or_eq_true] at h
    rcases h with h | h
    · obtain ⟨i, hi, hp⟩ := anyB_ex h
      exact ⟨i, by omega, hp⟩
    · exact ⟨n, by omega, h⟩
theorem anyB_cong {p q : Nat → Bool} {n : Nat} (h : ∀ i, i < n → p i = q i) : anyB p n = anyB q n := by
  cases e : anyB q n
  · refine anyB_f fun i hi => ?_
    rw [h i hi]
    cases z : q i
    · rfl
    · rw [anyB_t hi z] at e; cases e
  · obtain ⟨i, hi, hp⟩ := anyB_ex e
    exact anyB_t hi (by rw [h i hi]; exact hp)
/-- a loop that looks for the first hit: W n i, from i on; the hits before i are none -/
theorem lp_any {W : Nat → Nat → Prop} (p : Nat → Bool) (e : Nat) (no yes : Prop) (hx : ∀ n, no → W (n + 1) e) (hs : ∀ n i, i < e → (p i = true → yes) → (p i = false → W n (i + 1)) → W (n + 1) i) (h0 : anyB p e = false → no) (h1 : anyB p e = true → yes) : ∃ n, W n 0 := by
  have key : ∀ d i, i + d = e → (∀ j, j < i → p j = false) → W (d + 1) i := by
    intro d
    induction d with
    | zero =>
      intro i hi hp
      have : i = e := by omega
      subst this
      exact hx _ (h0 (anyB_f hp))
    | succ d ih =>
      intro i hi hp
      refine hs _ i (by omega) (fun z => h1 (anyB_t (by omega) z)) (fun z => ih (i + 1) (by omega) (fun j hj => ?_))
      rcases Nat.lt_or_ge j i with y | y
      · exact hp j y
      · have : j = i := by omega
        subst this
        exact z
  exact ⟨_, key e 0 (by omega) (fun j hj => absurd hj (Nat.not_lt_zero j))⟩
section TOLD
variable {C Cu De Fr To U S H Fi : Nat → Int32} {K : Int32 → Unit → Prop} {t : Tl} {fa : Nat → Nat} {a : Sg} {pr : Nat → Bool}
theorem sz_isFind {n f : Nat} (hn : n ≤ 24) (hf : f < n) (k : K 1 ()) : wX7_isFind (nI n) (nI f) K := by
  unfold wX7_isFind
  exact br_f (nI_pos (by omega)) (br_f (nI_ge hf (by omega)) k)
theorem sz_isEmpire {n f : Nat} (hn : n ≤ 6) (hf : f < n) (k : K 1 ()) : wX7_isEmpire (nI n) (nI f) K := by
  unfold wX7_isEmpire
  exact br_f (nI_pos (by omega)) (br_f (nI_ge hf (by omega)) k)
theorem sz_tellsCoin (wt : wfT t) (rc : rB (tF t) C (tCo t)) {f : Nat} (hf : f < tF t) (k : K (zB1w (tCo t f)) ()) : wX7_tellsCoin (nI (tF t)) C (nI f) K := by
  have n24 := wt.2.2.2.1
  unfold wX7_tellsCoin
  refine sz_isFind n24 hf (br_f (by decide) ⟨vp_in_nI (by omega) (by decide), ?_⟩)
  rw [nI_clamp (by omega)]
  exact bzK (rc f hf) k
theorem sz_crumbsEmpire (wt : wfT t) (rc : rB (tF t) C (tCo t)) (rd : ∀ f, f < tF t → De f = tDe t f) {f : Nat} (hf : f < tF t) (k : K (if tCo t f = true then -1 else tDe t f) ()) : wX7_crumbsEmpire (nI (tF t)) C De (nI f) K := by
  have n24 := wt.2.2.2.1
  unfold wX7_crumbsEmpire
  refine sz_isFind n24 hf (br_f (by decide) ⟨vp_in_nI (by omega) (by decide), ?_⟩)
  rw [nI_clamp (by omega)]
  refine bz' (rc f hf) (fun e => ⟨vp_in_nI (by omega) (by decide), ?_⟩) (fun e => ?_)
  · rw [rd f hf]; rw [e] at k; exact k
  · rw [e] at k; exact k
theorem sz_coinYear (wt : wfT t) (rc : rB (tF t) C (tCo t)) (rd : ∀ f, f < tF t → De f = tDe t f) {f : Nat} (hf : f < tF t) (k : K (if tCo t f = true then tDe t f else -1) ()) : wX7_coinYear (nI (tF t)) C De (nI f) K := by
  have n24 := wt.2.2.2.1
  unfold wX7_coinYear
  refine sz_tellsCoin wt rc hf (bz rfl (fun e => ?_) (fun e => ⟨vp_in_nI (by omega) (by decide), ?_⟩))
  · rw [e] at k; exact k
  · rw [nI_clamp (by omega), rd f hf]; rw [e] at k; exact k
theorem sz_fromOf (wt : wfT t) (rf : ∀ e, e < tE t → Fr e = tFr t e) {e : Nat} (he : e < tE t) (k : K (tFr t e) ()) : wX7_fromOf (nI (tE t)) Fr (nI e) K := by
  have n6 := wt.2.2.1
  unfold wX7_fromOf
  refine sz_isEmpire n6 he (br_f (by decide) ⟨vp_in_nI (by omega) (by decide), ?_⟩)
  rw [nI_clamp (by omega), rf e he]
  exact k
theorem sz_toOf (wt : wfT t) (rf : ∀ e, e < tE t → To e = tTo t e) {e : Nat} (he : e < tE t) (k : K (tTo t e) ()) : wX7_toOf (nI (tE t)) To (nI e) K := by
  have n6 := wt.2.2.1
  unfold wX7_toOf
  refine sz_isEmpire n6 he (br_f (by decide) ⟨vp_in_nI (by omega) (by decide), ?_⟩)
  rw [nI_clamp (by omega), rf e he]
  exact k
theorem sz_cushionOf (wt : wfT t) (ru : rN (tF t) Cu (tCu t)) {f : Nat} (hf : f < tF t) (k : K (nI (tCu t f)) ()) : wX7_cushionOf (nI (tF t)) Cu (nI f) K := by
  have n24 := wt.2.2.2.1
  unfold wX7_cushionOf
  refine sz_isFind n24 hf (br_f (by decide) ⟨vp_in_nI (by omega) (by decide), ?_⟩)
  rw [nI_clamp (by omega), ru f hf]
  exact k
theorem sz_stratumOfFind (wt : wfT t) (ru : rN (tF t) Cu (tCu t)) {f : Nat} (hf : f < tF t) (k : K (nI (tCu t f % 10)) ()) : wX7_stratumOfFind (nI (tF t)) Cu (nI f) K := by
  unfold wX7_stratumOfFind
  exact sz_cushionOf wt ru hf (sz_stratumOfCushion (wt.2.2.2.2.1 f hf).1 k)
/-- the earliest year of a find -/
def yrF (t : Tl) (f : Nat) : Int32 := if tCo t f = true then tDe t f else tFr t (tDe t f).toNatClampNeg
theorem sz_earliestYearOf (wt : wfT t) (rc : rB (tF t) C (tCo t)) (rd : ∀ f, f < tF t → De f = tDe t f) (rf : ∀ e, e < tE t → Fr e = tFr t e) {f : Nat} (hf : f < tF t) (k : K (yrF t f) ()) : wX7_earliestYearOf (nI (tE t)) (nI (tF t)) Fr C De (nI f) K := by
  have n6 := wt.2.2.1
  unfold wX7_earliestYearOf
  unfold yrF at k
  refine sz_tellsCoin wt rc hf (bz rfl (fun e => ?_) (fun e => ?_))
  · refine sz_crumbsEmpire wt rc rd hf ?_
    obtain ⟨q, hq, hd⟩ := wt.2.2.2.2.2.2 f hf e
    rw [e] at k ⊢
    rw [hd, nI_clamp (by omega)] at k
    show wX7_fromOf _ _ (tDe t f) _
    rw [hd]
    exact sz_fromOf wt rf hq k
  · refine sz_coinYear wt rc rd hf ?_
    rw [e] at k ⊢
    exact k
/-- the latest of the earliest years of the sure finds up to a stratum -/
def eyr (t : Tl) (fa : Nat → Nat) (k : Nat) : Nat → Int32
  | 0 => -1
  | i + 1 => if fa i = 2 ∧ tCu t i % 10 ≤ k then g_max (eyr t fa k i) (yrF t i) else eyr t fa k i
theorem sz_earliestYear (wt : wfT t) (rc : rB (tF t) C (tCo t)) (rd : ∀ f, f < tF t → De f = tDe t f) (rf : ∀ e, e < tE t → Fr e = tFr t e) (ru : rN (tF t) Cu (tCu t)) (rU : rB 24 U (fun f => decide (fa f = 2))) {k : Nat} (hk : k < 10) (kk : K (eyr t fa k (tF t)) ()) : wX4_earliestYear (nI (tE t)) (nI (tF t)) Fr C Cu De U (nI k) K := by
  have n24 := wt.2.2.2.1
  unfold wX4_earliestYear
  refine pk_loop (fun n i (y : Int32) => wX4_earliestYear_4 K (nI (tE t)) (nI (tF t)) Fr C Cu De U n (nI k) y (nI i)) (fun i y => y = eyr t fa k i) (tF t) 0 (-1) (Nat.zero_le _) rfl (fun n y hy => ?_) (fun n i y hi hy ih => ?_)
  · subst hy
    unfold wX4_earliestYear_4
    exact br_t (nI_le (Nat.le_refl _) (by omega)) kk
  · subst hy
    have ih := ih _ rfl
    unfold eyr at ih
    unfold wX4_earliestYear_4
    refine br_f (nI_ge hi (by omega)) (sz_wasSure rU (by omega) (bz rfl (fun e => ?_) (fun e => ?_)))
    · have : ¬ (fa i = 2 ∧ tCu t i % 10 ≤ k) := fun z => by rw [decide_eq_false_iff_not] at e; exact e z.1
      rw [if_neg this] at ih
      unfold wX4_earliestYear_48
      rw [nI_1]
      exact ih
    · rw [decide_eq_true_eq] at e
      refine sz_stratumOfFind wt ru hi (pk_lt k (tCu t i % 10) (fun q => ?_) (fun q => ?_))
      · rw [if_neg (by omega)] at ih
        unfold wX4_earliestYear_48
        rw [nI_1]
        exact ih
      · rw [if_pos ⟨e, q⟩] at ih
        refine sz_earliestYearOf wt rc rd rf hi ?_
        unfold wX4_earliestYear_48
        rw [nI_1]
        exact ih
/-- a sure find of an empire's crumbs in a stratum -/
def snP (t : Tl) (fa : Nat → Nat) (k e f : Nat) : Bool := decide (fa f = 2) && (!tCo t f && (decide (tCu t f % 10 = k) && decide (tDe t f = nI e)))
def snP0 (t : Tl) (fa : Nat → Nat) (e f : Nat) : Bool := decide (fa f = 2) && (!tCo t f && decide (tDe t f = nI e))
theorem crumb_eq (wt : wfT t) {f e : Nat} (hf : f < tF t) (he : e < 2 ^ 31) : ((if tCo t f = true then (-1 : Int32) else tDe t f) = nI e) ↔ (tCo t f = false ∧ tDe t f = nI e) := by
  cases c : tCo t f
  · simp
  · simp only [if_true]
    constructor
    · intro z
      exact absurd z.symm (nI_nm he)
    · intro z
      cases z.1
theorem sz_sawEmpire (wt : wfT t) (rc : rB (tF t) C (tCo t)) (rd : ∀ f, f < tF t → De f = tDe t f) (ru : rN (tF t) Cu (tCu t)) (rU : rB 24 U (fun f => decide (fa f = 2))) {k e : Nat} (hk : k < 10) (he : e < 2 ^ 31) (kk : K (zB1w (anyB (snP t fa k e) (tF t))) ()) : wX4_sawEmpire (nI (tF t)) C Cu De U (nI k) (nI e) K := by
  have n24 := wt.2.2.2.1
  unfold wX4_sawEmpire
  refine lp_any (W := fun n i => wX4_sawEmpire_2 K (nI (tF t)) C Cu De U n (nI k) (nI e) (nI i)) (snP t fa k e) (tF t) (K 0 ()) (K 1 ()) (fun n h => ?_) (fun n i hi hy hn => ?_) (fun z => by rw [z] at kk; exact kk) (fun z => by rw [z] at kk; exact kk)
  · unfold wX4_sawEmpire_2
    exact br_t (nI_le (Nat.le_refl _) (by omega)) h
  · unfold wX4_sawEmpire_2
    have next : snP t fa k e i = false → ∀ {A : Prop}, wX4_sawEmpire_47 K (wX4_sawEmpire_2 K (nI (tF t)) C Cu De U n) (nI (tF t)) C Cu De U (nI k) (nI e) (nI i) := by
      intro z _
      unfold wX4_sawEmpire_47
      rw [nI_1]
      exact hn z
    refine br_f (nI_ge hi (by omega)) (sz_wasSure rU (by omega) (bz rfl (fun q => ?_) (fun q => ?_)))
    · exact next (by unfold snP; rw [q]; rfl) (A := True)
    · refine sz_stratumOfFind wt ru hi ?_
      by_cases s : tCu t i % 10 = k
      · rw [s]
        refine bn_t rfl (sz_crumbsEmpire wt rc rd hi ?_)
        by_cases z : (if tCo t i = true then (-1 : Int32) else tDe t i) = nI e
        · refine bn_t z (hy ?_)
          obtain ⟨z1, z2⟩ := (crumb_eq wt hi he).mp z
          unfold snP
          rw [q, z1, z2]
          simp [s]
        · refine bn_f z (next ?_ (A := True))
          rw [crumb_eq wt hi he] at z
          unfold snP
          cases c : tCo t i
          · have : tDe t i ≠ nI e := fun y => z ⟨c, y⟩
            simp [this]
          · simp
      · refine bn_f (fun z => s ((nI_eq (by omega) (by omega)).mp z)) (next ?_ (A := True))
        unfold snP
        simp [s]
theorem sz_sawAnywhere (wt : wfT t) (rc : rB (tF t) C (tCo t)) (rd : ∀ f, f < tF t → De f = tDe t f) (rU : rB 24 U (fun f => decide (fa f = 2))) {e : Nat} (he : e < 2 ^ 31) (kk : K (zB1w (anyB (snP0 t fa e) (tF t))) ()) : wX4_sawEmpireAnywhere (nI (tF t)) C De U (nI e) K := by
  have n24 := wt.2.2.2.1
  unfold wX4_sawEmpireAnywhere
  refine lp_any (W := fun n i => wX4_sawEmpireAnywhere_2 K (nI (tF t)) C De U n (nI e) (nI i)) (snP0 t fa e) (tF t) (K 0 ()) (K 1 ()) (fun n h => ?_) (fun n i hi hy hn => ?_) (fun z => by rw [z] at kk; exact kk) (fun z => by rw [z] at kk; exact kk)
  · unfold wX4_sawEmpireAnywhere_2
    exact br_t (nI_le (Nat.le_refl _) (by omega)) h
  · unfold wX4_sawEmpireAnywhere_2
    have next : snP0 t fa e i = false → wX4_sawEmpireAnywhere_35 K (wX4_sawEmpireAnywhere_2 K (nI (tF t)) C De U n) (nI (tF t)) C De U (nI e) (nI i) := by
      intro z
      unfold wX4_sawEmpireAnywhere_35
      rw [nI_1]
      exact hn z
    refine br_f (nI_ge hi (by omega)) (sz_wasSure rU (by omega) (bz rfl (fun q => ?_) (fun q => ?_)))
    · exact next (by unfold snP0; rw [q]; rfl)
    · refine sz_crumbsEmpire wt rc rd hi ?_
      by_cases z : (if tCo t i = true then (-1 : Int32) else tDe t i) = nI e
      · refine bn_t z (hy ?_)
        obtain ⟨z1, z2⟩ := (crumb_eq wt hi he).mp z
        unfold snP0
        rw [q, z1, z2]
        simp
      · refine bn_f z (next ?_)
        rw [crumb_eq wt hi he] at z
        unfold snP0
        cases c : tCo t i
        · have : tDe t i ≠ nI e := fun y => z ⟨c, y⟩
          simp [this]
        · simp
theorem sn_any (wt : wfT t) (e : Nat) : anyB (fun k => anyB (snP t fa k e) (tF t)) (tM t) = anyB (snP0 t fa e) (tF t) := by
  cases c : anyB (snP0 t fa e) (tF t)
  · refine anyB_f fun k hk => anyB_f fun f hf => ?_
    cases d : snP t fa k e f
    · rfl
    · unfold snP at d
      simp only [Bool.and_eq_true] at d
      have : snP0 t fa e f = true := by
        unfold snP0
        simp only [Bool.and_eq_true]
        exact ⟨d.1, d.2.1, d.2.2.2⟩
      rw [anyB_t hf this] at c
      cases c
  · obtain ⟨f, hf, hp⟩ := anyB_ex c
    have hs := (wt.2.2.2.2.1 f hf).2.2.1
    refine anyB_t hs (anyB_t hf ?_)
    unfold snP0 at hp
    unfold snP
    simp only [Bool.and_eq_true] at hp ⊢
    exact ⟨hp.1, hp.2.1, by simp, hp.2.2⟩
def mxP (t : Tl) (fa : Nat → Nat) (k x y : Nat) : Bool := decide (tTo t x < tFr t y) && (anyB (snP t fa k x) (tF t) && anyB (snP t fa k y) (tF t))
theorem nlt_le {x y : Int32} : ¬ x < y ↔ y ≤ x := by
  rw [fa_lt, fa_le]; omega
theorem sz_showsMixture (wt : wfT t) (rc : rB (tF t) C (tCo t)) (rd : ∀ f, f < tF t → De f = tDe t f) (ru : rN (tF t) Cu (tCu t)) (rf : ∀ e, e < tE t → Fr e = tFr t e) (ro : ∀ e, e < tE t → To e = tTo t e) (rU : rB 24 U (fun f => decide (fa f = 2))) {k : Nat} (hk : k < 10) (kk : K (zB1w (anyB (fun x => anyB (mxP t fa k x) (tE t)) (tE t))) ()) : wX4_showsMixture (nI (tE t)) (nI (tF t)) Fr To C Cu De U (nI k) K := by
  have n6 := wt.2.2.1
  unfold wX4_showsMixture
  refine lp_any (W := fun n i => wX4_showsMixture_2 K (nI (tE t)) (nI (tF t)) Fr To C Cu De U n (nI k) (nI i)) (fun x => anyB (mxP t fa k x) (tE t)) (tE t) (K 0 ()) (K 1 ()) (fun n h => ?_) (fun n i hi hy hn => ?_) (fun z => by rw [z] at kk; exact kk) (fun z => by rw [z] at kk; exact kk)
  · unfold wX4_showsMixture_2
    exact br_t (nI_le (Nat.le_refl _) (by omega)) h
  · unfold wX4_showsMixture_2
    refine br_f (nI_ge hi (by omega)) ?_
    refine lp_any (W := fun m j => wX4_showsMixture_15 K (wX4_showsMixture_2 K (nI (tE t)) (nI (tF t)) Fr To C Cu De U n) (nI (tE t)) (nI (tF t)) Fr To C Cu De U m (nI k) (nI i) (nI j)) (mxP t fa k i) (tE t) (wX4_showsMixture_2 K (nI (tE t)) (nI (tF t)) Fr To C Cu De U n (nI k) (nI (i + 1))) (K 1 ()) (fun m h => ?_) (fun m j hj hy2 hn2 => ?_) (fun z => hn z) (fun z => hy z)
    · unfold wX4_showsMixture_15
      refine br_t (nI_le (Nat.le_refl _) (by omega)) ?_
      rw [nI_1]; exact h
    · unfold wX4_showsMixture_15
      have next : mxP t fa k i j = false → wX4_showsMixture_65 K (wX4_showsMixture_2 K (nI (tE t)) (nI (tF t)) Fr To C Cu De U n) (wX4_showsMixture_15 K (wX4_showsMixture_2 K (nI (tE t)) (nI (tF t)) Fr To C Cu De U n) (nI (tE t)) (nI (tF t)) Fr To C Cu De U m) (nI (tE t)) (nI (tF t)) Fr To C Cu De U (nI k) (nI i) (nI j) := by
        intro z
        unfold wX4_showsMixture_65
        rw [nI_1]
        exact hn2 z
      refine br_f (nI_ge hj (by omega)) (sz_toOf wt ro hi (sz_fromOf wt rf hj ⟨fun q => next ?_, fun q => ?_⟩))
      · unfold mxP
        have : ¬ tTo t i < tFr t j := nlt_le.mpr q
        simp [this]
      · have q2 : tTo t i < tFr t j := by
          rw [fa_le] at q; rw [fa_lt]; omega
        refine sz_sawEmpire wt rc rd ru rU hk (by omega) (bz rfl (fun e1 => next ?_) (fun e1 => ?_))
        · unfold mxP; rw [e1]; simp
        · refine sz_sawEmpire wt rc rd ru rU hk (by omega) (bz rfl (fun e2 => next ?_) (fun e2 => hy2 ?_))
          · unfold mxP; rw [e2]; simp
          · unfold mxP; rw [e1, e2]; simp [q2]
/-- how many finds lie in a stack -/
def lfP (t : Tl) (a : Sg) (s : Nat) (j : Nat) : Bool := (tFi t (a.1 (s * 10 + j))).isSome
def lf (t : Tl) (a : Sg) (s : Nat) : Nat := fb_ct (lfP t a s) (a.2.1 s)
theorem fI_none {o : Option Nat} (h : ∀ f, o = some f → f < 24) : (fI o = -1 ↔ o.isSome = false) := by
  rcases o with _ | f
  · exact ⟨fun _ => rfl, fun _ => rfl⟩
  · constructor
    · intro z
      exact absurd z (nI_nm (by have := h f rfl; omega))
    · intro z; cases z
theorem sz_findsInStack (wt : wfT t) (w : wfS (tN t) a) (rs : rN 80 S a.1) (rh : rN 8 H a.2.1) (hFi : ∀ c, c < 80 → Fi c = fI (tFi t c)) {s : Nat} (hs : s < tN t) (kk : K (nI (lf t a s)) ()) : wX4_findsInStack Fi S H (nI s) K := by
  have n8 := wt.1.2
  have b := w.1 s
  have h8 : ∀ s, 8 ≤ s → a.2.1 s = 0 := fun s z => w.2.1 s (by omega)
  unfold wX4_findsInStack
  refine pk_loop (fun n i (y : Int32) => wX4_findsInStack_4 K Fi S H n (nI s) y (nI i)) (fun i y => y = nI (fb_ct (lfP t a s) i)) (a.2.1 s) 0 0 (Nat.zero_le _) rfl (fun n y hy => ?_) (fun n i y hi hy ih => ?_)
  · subst hy
    unfold wX4_findsInStack_4
    exact sz_heightAt rh h8 (by omega) (br_t (nI_le (Nat.le_refl _) (by omega)) kk)
  · subst hy
    have hc := w.2.2 s i hi
    have ih := ih _ rfl
    rw [fb_ct_succ] at ih
    unfold wX4_findsInStack_4
    refine sz_heightAt rh h8 (by omega) (br_f (nI_ge hi (by omega)) (sz_cushionAt rs (by omega) (by omega) (sz_findIn hc ?_)))
    rw [hFi _ hc]
    have hl : ∀ f, tFi t (a.1 (s * 10 + i)) = some f → f < 24 := fun f e => by have := (wt.2.2.2.2.2.1 _ _ hc e).1; have := wt.2.2.2.1; omega
    rw [fI_none hl]
    unfold wX4_findsInStack_33
    rw [nI_1, nI_1]
    refine ⟨fun z => ?_, fun z => ?_⟩
    · have : lfP t a s i = false := z
      rw [this] at ih
      exact ih
    · have : lfP t a s i = true := by
        unfold lfP
        cases q : (tFi t (a.1 (s * 10 + i))).isSome
        · exact absurd q z
        · rfl
      rw [this] at ih
      exact ih
end TOLD
