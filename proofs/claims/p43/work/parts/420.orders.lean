/-! orders: what they do to the game; carried out, both -/
abbrev Pn : Type := (Nat × Nat) × (Nat → Nat) × (Nat → Int32) × (Nat → Nat) × (Nat → Nat) × (Nat → Nat)
abbrev pO (p : Pn) : Nat := p.1.1
abbrev pS (p : Pn) : Nat := p.1.2
abbrev pK (p : Pn) : Nat → Nat := p.2.1
abbrev pD (p : Pn) : Nat → Int32 := p.2.2.1
abbrev pKd (p : Pn) : Nat → Nat := p.2.2.2.1
abbrev pE1 (p : Pn) : Nat → Nat := p.2.2.2.2.1
abbrev pE2 (p : Pn) : Nat → Nat := p.2.2.2.2.2
def be0 (p : Pn) (o : Nat) : Nat := if o = 0 then 0 else pE2 p (o - 1)
def wfP (p : Pn) : Prop := pO p ≤ 16 ∧ pS p ≤ 400 ∧ ∀ o, o < pO p → (pKd p o = 11 ∨ pKd p o = 12 ∨ pKd p o = 13) ∧ (be0 p o ≤ pE1 p o ∧ pE1 p o ≤ pE2 p o ∧ pE2 p o ≤ pS p) ∧ tyR (pK p) (pE1 p o - be0 p o) (be0 p o) [] = some [false] ∧ (pE1 p o = pE2 p o ∨ tyR (pK p) (pE2 p o - pE1 p o) (pE1 p o) [] = some [true])
def rPc (t : Tl) (p : Pn) (orders steps : Int32) (kinds sumEnds testEnds stepKinds stepDetails : Nat → Int32) : Prop :=
  (orders = nI (pO p) ∧ steps = nI (pS p)) ∧ (∀ o, o < pO p → kinds o = nI (pKd p o) ∧ sumEnds o = nI (pE1 p o) ∧ testEnds o = nI (pE2 p o)) ∧ rKc t (pS p) (pK p) (pD p) stepKinds stepDetails
def rPm (t : Tl) (p : Pn) (orders : Int32) (does begins ends order wth : Nat → Int32) : Prop :=
  orders = nI (pO p) ∧ (∀ o, o < pO p → does o = nI (pKd p o) ∧ begins (2 * o) = nI (be0 p o) ∧ ends (2 * o) = nI (pE1 p o) ∧ begins (2 * o + 1) = nI (pE1 p o) ∧ ends (2 * o + 1) = nI (pE2 p o)) ∧ rKm t (pS p) (pK p) (pD p) order wth
/-- the game: cushions, props, fates; days, orders carried out, cushions dug, slides -/
abbrev Gs : Type := Sg × (Nat → Bool) × (Nat → Nat) × Int32 × Int32 × Int32 × Int32
abbrev gA1w (x : Gs) : Sg := x.1
abbrev gP (x : Gs) : Nat → Bool := x.2.1
abbrev gF1w (x : Gs) : Nat → Nat := x.2.2.1
abbrev gDy (x : Gs) : Int32 := x.2.2.2.1
abbrev gCa (x : Gs) : Int32 := x.2.2.2.2.1
abbrev gDu (x : Gs) : Int32 := x.2.2.2.2.2.1
abbrev gSl (x : Gs) : Int32 := x.2.2.2.2.2.2
def wfX (t : Tl) (x : Gs) : Prop := wfG t (gA1w x) (gP x) (gF1w x)
def rSG (S H L P F U : Nat → Int32) (dy ca du sl fc sc pc : Int32) (x : Gs) : Prop := rS S H L P F U fc sc pc (gA1w x) (gP x) (gF1w x) ∧ dy = gDy x ∧ ca = gCa x ∧ du = gDu x ∧ sl = gSl x
def rMG (N : Nat → Int32) (x : Gs) : Prop := rM N (gA1w x) (gP x) (gF1w x) (gDy x) (gCa x) (gDu x) (gSl x)
/-- what an order of a kind does at a seat; whether it was carried out -/
def Cry (t : Tl) (kd s : Nat) (x y : Gs) (dn : Bool) : Prop :=
  (kd = 11 ∧ 0 < (gA1w x).2.1 s ∧ dn = true ∧ ∃ k b, k ≤ 800 ∧ Stl (tSp t) (gP x) (tN t) k (dg1 (gA1w x) s) b ∧ y = (b, gP x, dgF t (gA1w x) (gF1w x) s, gDy x, gCa x + 1, gDu x + 1, gSl x + nI k)) ∨
  (kd = 12 ∧ gP x s = false ∧ fb_ct (gP x) 8 < 3 ∧ dn = true ∧ y = (gA1w x, va_up (gP x) s true, gF1w x, gDy x, gCa x + 1, gDu x, gSl x)) ∨
  (kd = 13 ∧ gP x s = true ∧ dn = true ∧ ∃ k b, k ≤ 800 ∧ Stl (tSp t) (va_up (gP x) s false) (tN t) k (gA1w x) b ∧ y = (b, va_up (gP x) s false, gF1w x, gDy x, gCa x + 1, gDu x, gSl x + nI k)) ∨
  (((kd = 11 ∧ (gA1w x).2.1 s = 0) ∨ (kd = 12 ∧ ¬ (gP x s = false ∧ fb_ct (gP x) 8 < 3)) ∨ (kd = 13 ∧ gP x s = false)) ∧ dn = false ∧ y = x)
def vX (t : Tl) (p : Pn) (x : Gs) (s e : Nat) : Int32 := vR t (gA1w x) (gP x) (gF1w x) (gDy x) (gSl x) (pK p) (pD p) s e
def dueX (t : Tl) (p : Pn) (x : Gs) (o : Nat) : Bool := decide (pE1 p o = pE2 p o) || !decide (vX t p x (pE1 p o) (pE2 p o) = 0)
def Ord (t : Tl) (p : Pn) (o : Nat) (x y : Gs) (dn : Bool) : Prop :=
  (dueX t p x o = false ∧ dn = false ∧ y = x) ∨ (dueX t p x o = true ∧ ∃ s, s < tN t ∧ fmV (vX t p x (be0 p o) (pE1 p o)) (nI (tN t)) = nI s ∧ Cry t (pKd p o) s x y dn)
theorem wfG_pr {t : Tl} {a : Sg} {pr : Nat → Bool} {fa : Nat → Nat} (w : wfG t a pr fa) {s : Nat} (hs : s < tN t) (b : Bool) : wfG t a (va_up pr s b) fa := by
  obtain ⟨w1, w2, w3, w4, w5, w6⟩ := w
  exact ⟨w1, w2, w3, w4, fun s' h => by rw [va_up_ne _ _ (by omega)]; exact w5 s' h, w6⟩
theorem stl_ok {t : Tl} (wt : wfT t) (pr : Nat → Bool) {a : Sg} (w : wfS (tN t) a) : ∃ k b, k ≤ 800 ∧ Stl (tSp t) pr (tN t) k a b := by
  obtain ⟨k, b, h1, -, h2⟩ := stl_ex (tSp t) pr wt.1.2 800 a w (mu_le w)
  exact ⟨k, b, h2, h1⟩
theorem cry_ex {t : Tl} (wt : wfT t) {kd s : Nat} (hk : kd = 11 ∨ kd = 12 ∨ kd = 13) (hs : s < tN t) {x : Gs} (w : wfX t x) : ∃ y dn, Cry t kd s x y dn ∧ wfX t y := by
  rcases hk with rfl | rfl | rfl
  · rcases Nat.eq_zero_or_pos ((gA1w x).2.1 s) with z | z
    · exact ⟨x, false, Or.inr (Or.inr (Or.inr ⟨Or.inl ⟨rfl, z⟩, rfl, rfl⟩)), w⟩
    · have w2 := wfG_dg wt w hs z
      obtain ⟨k, b, h1, h2⟩ := stl_ok wt (gP x) w2.1
      exact ⟨_, true, Or.inl ⟨rfl, z, rfl, k, b, h1, h2, rfl⟩, wfG_stl k _ b h2 w2⟩
  · by_cases z : gP x s = false ∧ fb_ct (gP x) 8 < 3
    · exact ⟨_, true, Or.inr (Or.inl ⟨rfl, z.1, z.2, rfl, rfl⟩), wfG_pr w hs true⟩
    · exact ⟨x, false, Or.inr (Or.inr (Or.inr ⟨Or.inr (Or.inl ⟨rfl, z⟩), rfl, rfl⟩)), w⟩
  · cases z : gP x s
    · exact ⟨x, false, Or.inr (Or.inr (Or.inr ⟨Or.inr (Or.inr ⟨rfl, z⟩), rfl, rfl⟩)), w⟩
    · have w2 := wfG_pr w hs false
      obtain ⟨k, b, h1, h2⟩ := stl_ok wt (va_up (gP x) s false) w2.1
      exact ⟨_, true, Or.inr (Or.inr (Or.inl ⟨rfl, z, rfl, k, b, h1, h2, rfl⟩)), wfG_stl k _ b h2 w2⟩
theorem ord_ex {t : Tl} (wt : wfT t) {p : Pn} (wp : wfP p) {o : Nat} (ho : o < pO p) {x : Gs} (w : wfX t x) : ∃ y dn, Ord t p o x y dn ∧ wfX t y := by
  cases e : dueX t p x o
  · exact ⟨x, false, Or.inl ⟨e, rfl, rfl⟩, w⟩
  · obtain ⟨s, hs, hf⟩ := fm_in (vX t p x (be0 p o) (pE1 p o)) (n := tN t) (by have := wt.1.1; omega) wt.1.2
    obtain ⟨y, dn, h1, h2⟩ := cry_ex wt (wp.2.2 o ho).1 hs w
    exact ⟨y, dn, Or.inr ⟨e, s, hs, hf, h1⟩, h2⟩
section CARRY
variable {S H L P F U Ti Ts : Nat → Int32} {dy ca du sl fc sc pc : Int32} {t : Tl} {x y : Gs} {dn : Bool}
theorem sz_canProp {K : Int32 → Unit → Prop} {pr : Nat → Bool} (wt : wfT t) (rp : rB 8 P pr) {s : Nat} (hs : s < tN t) (k : K (zB1w (!pr s && decide (fb_ct pr 8 < 3))) ()) : wX4_canProp (nI (tN t)) P (nI (fb_ct pr 8)) (nI s) K := by
  have n8 := wt.1.2
  have b := fb_ct_le pr 8
  unfold wX4_canProp
  refine br_f (nI_pos (by omega)) (br_f (nI_ge hs (by omega)) (sz_hasProp rp (by omega) (bz' rfl (fun e => pk_le 3 (fb_ct pr 8) (fun q => ?_) (fun q => ?_)) (fun e => ?_))))
  · have z : (!pr s && decide (fb_ct pr 8 < 3)) = false := by simp; omega
    rw [z] at k; exact k
  · have z : (!pr s && decide (fb_ct pr 8 < 3)) = true := by simp [e, q]
    rw [z] at k; exact k
  · have z : (!pr s && decide (fb_ct pr 8 < 3)) = false := by simp [e]
    rw [z] at k; exact k
theorem sz_putProp {K : ((Nat → Int32) × Int32) → Prop} {pr : Nat → Bool} (wt : wfT t) (rp : rB 8 P pr) {s : Nat} (hs : s < tN t) (h1 : pr s = false) (h2 : fb_ct pr 8 < 3) (k : K (upd P s 1, nI (fb_ct (va_up pr s true) 8))) : wX4_putProp (nI (tN t)) P (nI (fb_ct pr 8)) (nI s) K := by
  have n8 := wt.1.2
  have z : (!pr s && decide (fb_ct pr 8 < 3)) = true := by simp [h1, h2]
  unfold wX4_putProp
  refine sz_canProp wt rp hs ?_
  rw [z]
  refine br_f (by decide) ⟨vp_in_nI (by omega) (by decide), ?_⟩
  rw [nI_clamp (by omega), nI_1]
  rw [ct_up (by omega) h1] at k
  exact k
theorem sz_freeSeat {K : ((Nat → Int32) × (Nat → Int32) × (Nat → Int32) × (Nat → Int32) × Int32 × Int32) → Prop} (wt : wfT t) (w : wfX t x) (hTs : rB 80 Ts (tSp t)) (r : rS S H L P F U fc sc pc (gA1w x) (gP x) (gF1w x)) {s : Nat} (hs : s < tN t) (h1 : gP x s = true) {k : Nat} {b : Sg} (hk : k ≤ 800) (hst : Stl (tSp t) (va_up (gP x) s false) (tN t) k (gA1w x) b)
    (kk : ∀ S' H' L' P' pc', rS S' H' L' P' F U fc sc pc' b (va_up (gP x) s false) (gF1w x) → K (S', H', L', P', sl + nI k, pc')) : wX4_freeSeat (nI (tN t)) Ts S H L P sl pc (nI s) K := by
  obtain ⟨rs, rh, rl, rp, rF, rU, hf, hsc, hpc⟩ := r
  have n8 := wt.1.2
  unfold wX4_freeSeat
  refine sz_hasProp rp (by omega) ?_
  rw [h1]
  refine br_f (by decide) ⟨vp_in_nI (by omega) (by decide), ?_⟩
  rw [nI_clamp (by omega)]
  refine sz_settle n8 (rB_f rp s) hTs hst hk w.1 rs rh rl (fun S' H' L' p1 p2 p3 => ?_)
  refine kk S' H' L' _ _ ⟨p1, p2, p3, rB_f rp s, rF, rU, hf, hsc, ?_⟩
  have := ct_dn (p := gP x) (i := s) (n := 8) (by omega) h1
  rw [hpc, ← this, nI_pred]
theorem sz_carryOut {K : ((Nat → Int32) × (Nat → Int32) × (Nat → Int32) × (Nat → Int32) × (Nat → Int32) × (Nat → Int32) × Int32 × Int32 × Int32 × Int32 × Int32 × Int32) → Prop} (wt : wfT t) (w : wfX t x) (hTi : ∀ c, c < 80 → Ti c = fI (tFi t c)) (hTs : rB 80 Ts (tSp t)) (r : rSG S H L P F U dy ca du sl fc sc pc x) {kd s : Nat} (hs : s < tN t) (h : Cry t kd s x y dn)
    (kk : ∀ S' H' L' P' F' U' ca' du' sl' fc' sc' pc', rSG S' H' L' P' F' U' dy ca' du' sl' fc' sc' pc' y → K (S', H', L', P', F', U', ca', du', sl', fc', sc', pc')) : wX2_carryOut (nI (tN t)) Ti Ts S H L P F U ca du sl fc sc pc (nI kd) (nI s) K := by
  obtain ⟨r, rfl, rfl, rfl, rfl⟩ := r
  have n8 := wt.1.2
  have h8 : ∀ s, 8 ≤ s → (gA1w x).2.1 s = 0 := fun s z => w.1.2.1 s (by omega)
  have b10 := w.1.1 s
  have hpc := r.2.2.2.2.2.2.2.2
  unfold wX2_carryOut
  rcases h with ⟨rfl, h0, rfl, k, b, hk, hst, rfl⟩ | ⟨rfl, h1, h2, rfl, rfl⟩ | ⟨rfl, h1, rfl, k, b, hk, hst, rfl⟩ | ⟨h, rfl, rfl⟩
  · refine bn_t rfl (sz_heightAt r.2.1 h8 (by omega) (br_f (nI_nle h0 (by omega)) ?_))
    exact sz_digSeat wt w hTi hTs r hs h0 hst hk (fun S' H' L' F' U' fc' sc' q => kk _ _ _ _ _ _ _ _ _ _ _ _ ⟨q, rfl, rfl, rfl, rfl⟩)
  · refine bn_f (by decide) ?_
    unfold wX2_carryOut_33
    subst hpc
    have z : (!gP x s && decide (fb_ct (gP x) 8 < 3)) = true := by simp [h1, h2]
    refine bn_t rfl (sz_canProp wt r.2.2.2.1 hs ?_)
    rw [z]
    refine br_f (by decide) (sz_putProp wt r.2.2.2.1 hs h1 h2 ?_)
    exact kk _ _ _ _ _ _ _ _ _ _ _ _ ⟨⟨r.1, r.2.1, r.2.2.1, rB_t r.2.2.2.1 s, r.2.2.2.2.1, r.2.2.2.2.2.1, r.2.2.2.2.2.2.1, r.2.2.2.2.2.2.2.1, rfl⟩, rfl, rfl, rfl, rfl⟩
  · refine bn_f (by decide) ?_
    unfold wX2_carryOut_33
    refine bn_f (by decide) ?_
    unfold wX2_carryOut_65
    refine bn_t rfl (sz_hasProp r.2.2.2.1 (by omega) ?_)
    rw [h1]
    refine br_f (by decide) (sz_freeSeat wt w hTs r hs h1 hk hst (fun S' H' L' P' pc' q => ?_))
    exact kk _ _ _ _ _ _ _ _ _ _ _ _ ⟨q, rfl, rfl, rfl, rfl⟩
  · have kk := kk S H L P F U _ _ _ fc sc pc ⟨r, rfl, rfl, rfl, rfl⟩
    rcases h with ⟨rfl, h⟩ | ⟨rfl, h⟩ | ⟨rfl, h⟩
    · refine bn_t rfl (sz_heightAt r.2.1 h8 (by omega) (br_t (by rw [h]; decide) ?_))
      unfold wX2_carryOut_33
      refine bn_f (by decide) ?_
      unfold wX2_carryOut_65
      exact bn_f (by decide) kk
    · refine bn_f (by decide) ?_
      unfold wX2_carryOut_33
      subst hpc
      have z : (!gP y s && decide (fb_ct (gP y) 8 < 3)) = false := by
        cases e : gP y s
        · have : ¬ fb_ct (gP y) 8 < 3 := fun q => h ⟨e, q⟩
          simp; omega
        · rfl
      refine bn_t rfl (sz_canProp wt r.2.2.2.1 hs ?_)
      rw [z]
      refine br_t rfl ?_
      unfold wX2_carryOut_65
      exact bn_f (by decide) kk
    · refine bn_f (by decide) ?_
      unfold wX2_carryOut_33
      refine bn_f (by decide) ?_
      unfold wX2_carryOut_65
      refine bn_t rfl (sz_hasProp r.2.2.2.1 (by omega) ?_)
      rw [h]
      exact br_t rfl kk
end CARRY
section CARRYM
variable {N Ms Qs Qf Qc Qu Qw Qb Qe Qd Qbs Qes Qo Qx : Nat → Int32} {t : Tl} {x y : Gs} {dn : Bool} {p : Pn}
theorem n2 (o : Nat) : (2 : Int32) * nI o = nI (2 * o) := by rw [show (2 : Int32) = nI 2 from rfl, pk_mul]
/-- behind isCarriedOut the model's count of orders carried out is the old one -/
def caO (y : Gs) (c : Int32) : Gs := (gA1w y, gP y, gF1w y, gDy y, c, gDu y, gSl y)
end CARRYM
