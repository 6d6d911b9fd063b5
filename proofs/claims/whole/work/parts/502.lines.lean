/-! each line in the book -/
def HY (x : Tn) (p : Nat) (e : Int32 × Int32) (t : Tl) (O m ctr Om mm : Nat) (cn : (Nat → Int64)) (Fr To Co Cu De Fi Sp Ok Se Te sK sD me gd gb ge go gw : (Nat → Int32)) (pl : Pn) (tk : Nat → Nat) : Prop := e.1 ≠ 1 ∧ 2 * ctr ≤ p ∧ wfT t ∧ rT t (nI (tN t)) (nI (tM t)) (nI (tE t)) (nI (tF t)) Co Cu De Fi Sp Fr To ∧ O ≤ 16 ∧ m ≤ p ∧ mm ≤ p ∧ Om ≤ p ∧ (∀ i, p ≤ i → i ≤ nN x → me i = nI 0) ∧ (e.1 = 0 → goodL x e t O m mm Om Ok Se Te sK sD gd gb ge go gw pl tk p)
section BKL
variable {x : Tn} {ki st nu mk fr : (Nat → Int32)} {na va : (Nat → Int64)} {p : Nat} {e : Int32 × Int32} {t : Tl} {O m ctr Om mm : Nat} {cn : (Nat → Int64)} {Fr To Co Cu De Fi Sp Ok Se Te sK sD me gd gb ge go gw : (Nat → Int32)} {pl : Pn} {tk : Nat → Nat}
theorem cl_emp {K : CLt → Prop} (h : kN x p = 2) (hh : wX3_readEmpire ki st nu na (nI (nN x + 1)) (nI p) (nI (kN x p)) e.1 e.2 (nI (tE t)) cn Fr To (fun u1 => K (u1.1, u1.2.1, u1.2.2.1, u1.2.2.2.1, u1.2.2.2.2.1, nI (tF t), u1.2.2.2.2.2.1, u1.2.2.2.2.2.2.1, u1.2.2.2.2.2.2.2, Co, Cu, De, Fi, Sp, nI O, nI m, Ok, Se, Te, sK, sD))) : wX3_readLine ki st nu na (nI (nN x + 1)) (nI p) (nI (kN x p)) e.1 e.2 (nI (tN t)) (nI (tM t)) (nI (tE t)) (nI (tF t)) cn Fr To Co Cu De Fi Sp (nI O) (nI m) Ok Se Te sK sD K := by
  unfold wX3_readLine
  rw [h] at hh ⊢
  exact ⟨fun _ => hh, fun z => absurd z (by decide), fun z => absurd z (by decide), fun z => absurd z (by decide), fun z => absurd z (by decide), fun z => absurd z (by decide), fun z => absurd z (by decide), fun z2 _ _ _ _ _ _ => absurd rfl z2⟩
theorem cl_coin {K : CLt → Prop} (h : kN x p = 5) (hh : wX3_readCoin ki st nu (nI (nN x + 1)) (nI p) (nI (kN x p)) e.1 e.2 (nI (tN t)) (nI (tM t)) (nI (tF t)) Co Cu De Fi Sp (fun u2 => K (u2.1, u2.2.1, u2.2.2.1, u2.2.2.2.1, nI (tE t), u2.2.2.2.2.1, cn, Fr, To, u2.2.2.2.2.2.1, u2.2.2.2.2.2.2.1, u2.2.2.2.2.2.2.2.1, u2.2.2.2.2.2.2.2.2, Sp, nI O, nI m, Ok, Se, Te, sK, sD))) : wX3_readLine ki st nu na (nI (nN x + 1)) (nI p) (nI (kN x p)) e.1 e.2 (nI (tN t)) (nI (tM t)) (nI (tE t)) (nI (tF t)) cn Fr To Co Cu De Fi Sp (nI O) (nI m) Ok Se Te sK sD K := by
  unfold wX3_readLine
  rw [h] at hh ⊢
  exact ⟨fun z => absurd z (by decide), fun _ => hh, fun z => absurd z (by decide), fun z => absurd z (by decide), fun z => absurd z (by decide), fun z => absurd z (by decide), fun z => absurd z (by decide), fun _ z5 _ _ _ _ _ => absurd rfl z5⟩
theorem cl_crumb {K : CLt → Prop} (h : kN x p = 6) (hh : wX3_readCrumbs ki st nu na (nI (nN x + 1)) (nI p) (nI (kN x p)) e.1 e.2 (nI (tN t)) (nI (tM t)) (nI (tE t)) (nI (tF t)) cn Co Cu De Fi Sp (fun u2 => K (u2.1, u2.2.1, u2.2.2.1, u2.2.2.2.1, nI (tE t), u2.2.2.2.2.1, cn, Fr, To, u2.2.2.2.2.2.1, u2.2.2.2.2.2.2.1, u2.2.2.2.2.2.2.2.1, u2.2.2.2.2.2.2.2.2, Sp, nI O, nI m, Ok, Se, Te, sK, sD))) : wX3_readLine ki st nu na (nI (nN x + 1)) (nI p) (nI (kN x p)) e.1 e.2 (nI (tN t)) (nI (tM t)) (nI (tE t)) (nI (tF t)) cn Fr To Co Cu De Fi Sp (nI O) (nI m) Ok Se Te sK sD K := by
  unfold wX3_readLine
  rw [h] at hh ⊢
  exact ⟨fun z => absurd z (by decide), fun z => absurd z (by decide), fun _ => hh, fun z => absurd z (by decide), fun z => absurd z (by decide), fun z => absurd z (by decide), fun z => absurd z (by decide), fun _ _ z6 _ _ _ _ => absurd rfl z6⟩
theorem cl_spring {K : CLt → Prop} (h : kN x p = 7) (hh : wX3_readSpring ki st nu (nI (nN x + 1)) (nI p) (nI (kN x p)) e.1 e.2 (nI (tN t)) (nI (tM t)) Fi Sp (fun u4 => K (u4.1, u4.2.1, u4.2.2.1, u4.2.2.2.1, nI (tE t), nI (tF t), cn, Fr, To, Co, Cu, De, Fi, u4.2.2.2.2, nI O, nI m, Ok, Se, Te, sK, sD))) : wX3_readLine ki st nu na (nI (nN x + 1)) (nI p) (nI (kN x p)) e.1 e.2 (nI (tN t)) (nI (tM t)) (nI (tE t)) (nI (tF t)) cn Fr To Co Cu De Fi Sp (nI O) (nI m) Ok Se Te sK sD K := by
  unfold wX3_readLine
  rw [h] at hh ⊢
  exact ⟨fun z => absurd z (by decide), fun z => absurd z (by decide), fun z => absurd z (by decide), fun _ => hh, fun z => absurd z (by decide), fun z => absurd z (by decide), fun z => absurd z (by decide), fun _ _ _ z7 _ _ _ => absurd rfl z7⟩
theorem cl_order {K : CLt → Prop} (h : kN x p = 11 ∨ kN x p = 12 ∨ kN x p = 13) (hh : wX3_readOrder ki st nu na (nI (nN x + 1)) (nI p) (nI (kN x p)) e.1 e.2 (nI (tE t)) cn (nI O) (nI m) Ok Se Te sK sD (fun u1 => K (u1.1, u1.2.1, u1.2.2.1, u1.2.2.2.1, nI (tE t), nI (tF t), cn, Fr, To, Co, Cu, De, Fi, Sp, u1.2.2.2.2.1, u1.2.2.2.2.2.1, u1.2.2.2.2.2.2.1, u1.2.2.2.2.2.2.2.1, u1.2.2.2.2.2.2.2.2.1, u1.2.2.2.2.2.2.2.2.2.1, u1.2.2.2.2.2.2.2.2.2.2))) : wX3_readLine ki st nu na (nI (nN x + 1)) (nI p) (nI (kN x p)) e.1 e.2 (nI (tN t)) (nI (tM t)) (nI (tE t)) (nI (tF t)) cn Fr To Co Cu De Fi Sp (nI O) (nI m) Ok Se Te sK sD K := by
  unfold wX3_readLine
  rcases h with h | h | h
  · rw [h] at hh ⊢
    exact ⟨fun z => absurd z (by decide), fun z => absurd z (by decide), fun z => absurd z (by decide), fun z => absurd z (by decide), fun _ => hh, fun z => absurd z (by decide), fun z => absurd z (by decide), fun _ _ _ _ z11 _ _ => absurd rfl z11⟩
  · rw [h] at hh ⊢
    exact ⟨fun z => absurd z (by decide), fun z => absurd z (by decide), fun z => absurd z (by decide), fun z => absurd z (by decide), fun z => absurd z (by decide), fun _ => hh, fun z => absurd z (by decide), fun _ _ _ _ _ z12 _ => absurd rfl z12⟩
  · rw [h] at hh ⊢
    exact ⟨fun z => absurd z (by decide), fun z => absurd z (by decide), fun z => absurd z (by decide), fun z => absurd z (by decide), fun z => absurd z (by decide), fun z => absurd z (by decide), fun _ => hh, fun _ _ _ _ _ _ z13 => absurd rfl z13⟩
theorem cl_no (wf : wfN x) (rc : rNc x ki st nu na) (hp : p ≤ nN x) (he : e.1 ≠ 1) {K : CLt → Prop} (h : kN x p ≠ 2 ∧ kN x p ≠ 5 ∧ kN x p ≠ 6 ∧ kN x p ≠ 7 ∧ kN x p ≠ 11 ∧ kN x p ≠ 12 ∧ kN x p ≠ 13) (kk : ∀ R, K (nI p, 48, 1, nI (sN x p), R)) : wX3_readLine ki st nu na (nI (nN x + 1)) (nI p) (nI (kN x p)) e.1 e.2 (nI (tN t)) (nI (tM t)) (nI (tE t)) (nI (tF t)) cn Fr To Co Cu De Fi Sp (nI O) (nI m) Ok Se Te sK sD K := by
  unfold wX3_readLine
  exact ⟨fun z => absurd z (c_ne wf hp 2 (by omega)), fun z => absurd z (c_ne wf hp 5 (by omega)), fun z => absurd z (c_ne wf hp 6 (by omega)), fun z => absurd z (c_ne wf hp 7 (by omega)), fun z => absurd z (c_ne wf hp 11 (by omega)), fun z => absurd z (c_ne wf hp 12 (by omega)), fun z => absurd z (c_ne wf hp 13 (by omega)), fun _ _ _ _ _ _ _ => c_ref wf rc hp he (kk _)⟩
theorem eEm_0 {E : Nat} (hE : E ≤ 6) (z : (eEm x E cn p e).1 = 0) : e.1 = 0 ∧ eEm x E cn p e = e ∧ E < 6 := by
  unfold eEm at z
  have a := ck_0 (by decide) z
  have b := ck_0 (by decide) a.1
  have c := ck_0 (by decide) b.1
  have d := ck_0 (by decide) c.1
  refine ⟨d.1, ?_, ?_⟩
  · unfold eEm
    rw [a.2.2, b.2.2, c.2.2, d.2.2]
  · have hn : (emF cn (cN x (p + 1)) E).isNone = true := by
      have := d.2.1
      cases q : emF cn (cN x (p + 1)) E
      · rfl
      · rw [q] at this; cases this
    have c2 := c.2.1
    rw [hn, Bool.true_and] at c2
    have := of_decide_eq_false c2
    omega
theorem eCo_0 {N M F : Nat} {f : Nat → Bool} (z : (eCo x N M F f p e).1 = 0) : e.1 = 0 ∧ eCo x N M F f p e = e ∧ F < 24 ∧ vN x (p + 1 + 1) < N ∧ vN x (p + 1 + 3) < M ∧ f (vN x (p + 1 + 1) * 10 + vN x (p + 1 + 3)) = false := by
  unfold eCo at z
  have a := ck_0 (by decide) z
  have b := ePl_0 a.1
  have d := ck_0 (by decide) b.1
  refine ⟨d.1, ?_, ?_, b.2.2.1, b.2.2.2.1, b.2.2.2.2⟩
  · unfold eCo
    rw [a.2.2, b.2.1, d.2.2]
  · have := of_decide_eq_false d.2.1
    omega
theorem eCr_0 {N M E F : Nat} {f : Nat → Bool} (z : (eCr x N M E F cn f p e).1 = 0) : e.1 = 0 ∧ eCr x N M E F cn f p e = e ∧ F < 24 ∧ vN x (p + 1 + 1) < N ∧ vN x (p + 1 + 3) < M ∧ f (vN x (p + 1 + 1) * 10 + vN x (p + 1 + 3)) = false ∧ bdN x E cn (p + 6) = false := by
  unfold eCr at z
  have a := erF_0 z
  have b := ePl_0 a.1
  have d := ck_0 (by decide) b.1
  refine ⟨d.1, ?_, ?_, b.2.2.1, b.2.2.2.1, b.2.2.2.2, a.2.2 (p + 6) (by omega) (by omega)⟩
  · unfold eCr
    rw [a.2.1, b.2.1, d.2.2]
  · have := of_decide_eq_false d.2.1
    omega
theorem eEm_err {E : Nat} (z : e.1 ≠ 0) : eEm x E cn p e = e := by
  unfold eEm
  rw [ck_err (e := e) z, ck_err (e := e) z, ck_err (e := e) z, ck_err (e := e) z]
theorem eCo_err {N M F : Nat} {f : Nat → Bool} (z : e.1 ≠ 0) : eCo x N M F f p e = e := by
  unfold eCo
  rw [ck_err (x := x) (b := decide (24 ≤ F)) z, ePl_err z, ck_err z]
theorem eCr_err {N M E F : Nat} {f : Nat → Bool} (z : e.1 ≠ 0) : eCr x N M E F cn f p e = e := by
  unfold eCr
  rw [ck_err (x := x) (b := decide (24 ≤ F)) z, ePl_err z, erF_err z]
theorem eEm_ne {E : Nat} (z : e.1 ≠ 1) : (eEm x E cn p e).1 ≠ 1 := ck_ne (by decide) (ck_ne (by decide) (ck_ne (by decide) (ck_ne (by decide) z)))
theorem eCo_ne {N M F : Nat} {f : Nat → Bool} (z : e.1 ≠ 1) : (eCo x N M F f p e).1 ≠ 1 := ck_ne (by decide) (ePl_ne (ck_ne (by decide) z))
theorem eCr_ne {N M E F : Nat} {f : Nat → Bool} (z : e.1 ≠ 1) : (eCr x N M E F cn f p e).1 ≠ 1 := erF_ne (ePl_ne (ck_ne (by decide) z))
theorem hfi_of (w : wfT t) : ∀ c f, c < 80 → tFi t c = some f → f < 2 ^ 31 := fun c f hc hf => by
  have := (w.2.2.2.2.2.1 c f hc hf).1
  have := w.2.2.2.1
  omega
theorem bk_emp (wf : wfN x) (rc : rNc x ki st nu na) (rm : rNm x mk fr va) (hp : p ≤ nN x) (h0 : kN x p = 2) (H : HY x p e t O m ctr Om mm cn Fr To Co Cu De Fi Sp Ok Se Te sK sD me gd gb ge go gw pl tk) (ih : ∀ q, p < q → q ≤ nN x → ∀ (e : Int32 × Int32) (t : Tl) (O m ctr Om mm : Nat) (cn : (Nat → Int64)) (Fr To Co Cu De Fi Sp Ok Se Te sK sD me gd gb ge go gw : (Nat → Int32)) (pl : Pn) (tk : Nat → Nat), HY x q e t O m ctr Om mm cn Fr To Co Cu De Fi Sp Ok Se Te sK sD me gd gb ge go gw pl tk → BO x ki st nu mk fr na va q e t (nI (tE t), nI (tF t), cn, Fr, To, Co, Cu, De, Fi, Sp, nI O, nI m, Ok, Se, Te, sK, sD) ctr Om mm me gd gb ge go gw pl tk cn) : BO x ki st nu mk fr na va p e t (nI (tE t), nI (tF t), cn, Fr, To, Co, Cu, De, Fi, Sp, nI O, nI m, Ok, Se, Te, sK, sD) ctr Om mm me gd gb ge go gw pl tk cn := by
  have n4 := wf.1
  obtain ⟨he, hc, wt, rt, hO, hm, hmm, hOm, hme0, hg⟩ := H
  have hE := wt.2.2.1
  have hF := wt.2.2.2.1
  have lt0 := kN_lt wf hp (by omega)
  by_cases h1 : kN x (p + 1) ≠ 44
  · exact fin_F wf rm hp (by omega) he hc (q := p + 1) (by omega) (fun K kk => cl_emp h0 (c_emp_F1 wf rc hp he hE h0 h1 (kk _))) (fun K kk => m_emp_F1 wf rm hp h0 h1 kk)
  have h1 : kN x (p + 1) = 44 := Classical.not_not.1 h1
  have lt1 := kN_lt wf (p := p + 1) (by omega) (by omega)
  by_cases h2 : kN x (p + 2) ≠ 3
  · exact fin_F wf rm hp (by omega) he hc (q := p + 2) (by omega) (fun K kk => cl_emp h0 (c_emp_F2 wf rc hp he hE h0 h1 h2 (kk _))) (fun K kk => m_emp_F2 wf rm hp h0 h1 h2 kk)
  have h2 : kN x (p + 2) = 3 := Classical.not_not.1 h2
  have lt2 := kN_lt wf (p := p + 2) (by omega) (by omega)
  by_cases h3 : kN x (p + 3) ≠ 45
  · exact fin_F wf rm hp (by omega) he hc (q := p + 3) (by omega) (fun K kk => cl_emp h0 (c_emp_F3 wf rc hp he hE h0 h1 h2 h3 (kk _))) (fun K kk => m_emp_F3 wf rm hp h0 h1 h2 h3 kk)
  have h3 : kN x (p + 3) = 45 := Classical.not_not.1 h3
  have lt3 := kN_lt wf (p := p + 3) (by omega) (by omega)
  by_cases h4 : kN x (p + 4) ≠ 4
  · exact fin_F wf rm hp (by omega) he hc (q := p + 4) (by omega) (fun K kk => cl_emp h0 (c_emp_F4 wf rc hp he hE h0 h1 h2 h3 h4 (kk _))) (fun K kk => m_emp_F4 wf rm hp h0 h1 h2 h3 h4 kk)
  have h4 : kN x (p + 4) = 4 := Classical.not_not.1 h4
  have lt4 := kN_lt wf (p := p + 4) (by omega) (by omega)
  by_cases h5 : kN x (p + 5) ≠ 45
  · exact fin_F wf rm hp (by omega) he hc (q := p + 5) (by omega) (fun K kk => cl_emp h0 (c_emp_F5 wf rc hp he hE h0 h1 h2 h3 h4 h5 (kk _))) (fun K kk => m_emp_F5 wf rm hp h0 h1 h2 h3 h4 h5 kk)
  have h5 : kN x (p + 5) = 45 := Classical.not_not.1 h5
  have lt5 := kN_lt wf (p := p + 5) (by omega) (by omega)
  have e1ne : (eEm x (tE t) cn p e).1 ≠ 1 := eEm_ne he
  have hi : ∀ i, p + 6 ≤ i → i ≤ nN x → (upd (upd (upd (me) (p + 1) 3) (p + 3) 4) (p + 5) 5) i = nI 0 := fun i h1 h2 => by rw [un (by omega), un (by omega), un (by omega)]; exact hme0 i (by omega) h2
  have lo : ∀ i, i < p → (upd (upd (upd (me) (p + 1) 3) (p + 3) 4) (p + 5) 5) i = me i := fun i h => by rw [un (by omega), un (by omega), un (by omega)]
  by_cases z : (eEm x (tE t) cn p e).1 = 0
  · have z0 := eEm_0 hE z
    have gg := hg z0.1
    obtain ⟨g0, g1, g2, g3, g4, g5, g6, g7, g8⟩ := gg
    refine fin_S (e1 := eEm x (tE t) cn p e) (t1 := tNewE t (nI (vN x (p + 3))) (nI (vN x (p + 5)))) (c1 := (nI (tE t + 1), nI (tF t), vp_updL cn (tE t) (cN x (p + 1)), upd Fr (tE t) (nI (vN x (p + 3))), upd To (tE t) (nI (vN x (p + 5))), Co, Cu, De, Fi, Sp, nI O, nI m, Ok, Se, Te, sK, sD)) (Om1 := Om) (mm1 := mm) (me1 := (upd (upd (upd (me) (p + 1) 3) (p + 3) 4) (p + 5) 5)) (gd1 := gd) (gb1 := gb) (ge1 := ge) (go1 := go) (gw1 := gw) (pl1 := pl) (tk1 := tk) (cn1 := vp_updL cn (tE t) (cN x (p + 1))) wf rc rm hp (by omega) he e1ne hc (q := p + 6) (by omega) (by omega) rfl rfl (fun K kk => cl_emp h0 (c_emp_S wf rc hp hE h0 h1 h2 h3 h4 h5 (fun _ _ => kk) (fun y => absurd z y))) (fun K kk => m_emp_S wf rm hp h0 h1 h2 h3 h4 h5 kk) lo (fun y => absurd z0.1 y) (fun y => ck_pos (by decide) (ck_pos (by decide) (ck_pos (by decide) (ck_pos (by decide) y)))) (fun _ me' od' gd' gb' ge' go' gw' gm' agr K tp sz ea u hu => ⟨fun y => absurd z y, fun _ kk => ?_⟩) (hi _ (by omega) (by omega)) (fun h33 => ?_)
    · obtain ⟨wh, isS, itS, gs, gst, gE, em, be, en, gF, gIs, gCu, gWh, gFi, gSp, gO⟩ := u
      obtain ⟨⟨ur, uo, uw⟩, un1⟩ := hu
      have us1 : gs = nI (tN t) := ur.1.1
      have us2 : gst = nI (tM t) := ur.1.2.1
      have us3 : gE = nI (tE t) := ur.1.2.2.1
      have us4 : gF = nI (tF t) := ur.1.2.2.2
      subst us1 us2 us3 us4
      rw [g0] at z
      refine seg_emp wf rm (Nat.le_refl _) (by omega) h1 h3 h5 (show me' (p) = nI 0 from by rw [agr _ (by omega), un (by omega), un (by omega), un (by omega)]; exact hme0 _ (by omega) (by omega)) (show me' (p + 1) = nI 3 from by rw [agr _ (by omega), un (by omega), un (by omega), us]; rfl) (show me' (p + 2) = nI 0 from by rw [agr _ (by omega), un (by omega), un (by omega), un (by omega)]; exact hme0 _ (by omega) (by omega)) (show me' (p + 3) = nI 4 from by rw [agr _ (by omega), un (by omega), us]; rfl) (show me' (p + 4) = nI 0 from by rw [agr _ (by omega), un (by omega), un (by omega), un (by omega)]; exact hme0 _ (by omega) (by omega)) (show me' (p + 5) = nI 5 from by rw [agr _ (by omega), us]; rfl) hE (un1 _ (by omega) h1) (fun y => absurd z y) (fun _ _ => kk _ ?_)
      refine ⟨⟨rT_E ur _ _, uo, uw⟩, fun i hi2 hk => ?_⟩
      show emF (vp_updL cn (tE t) (cN x (p + 1))) (cN x i) (tE t + 1) = emF (vp_updL em (tE t) (mN x (p + 1))) (mN x i) (tE t + 1)
      have q1 : emF cn (cN x i) (tE t) = emF em (mN x i) (tE t) := un1 i hi2 hk
      rw [emF_add, emF_add, q1]
      have q2 := wf.2.2.2.2.2 (p + 1) i (by omega) hi2 h1 hk
      rcases emF em (mN x i) (tE t) with _ | e9
      · by_cases y : cN x (p + 1) = cN x i
        · show (if cN x (p + 1) = cN x i then some (tE t) else none) = (if mN x (p + 1) = mN x i then some (tE t) else none)
          rw [if_pos y, if_pos (q2.1 y)]
        · show (if cN x (p + 1) = cN x i then some (tE t) else none) = (if mN x (p + 1) = mN x i then some (tE t) else none)
          rw [if_neg y, if_neg (fun y2 => y (q2.2 y2))]
      · rfl
    · have lt9 := kN_lt wf (p := p + 6) (by omega) (by omega)
      refine ih (p + 6 + 1) (by omega) (by omega) _ _ _ _ _ _ _ _ _ _ _ _ _ _ _ _ _ _ _ _ _ _ _ _ _ _ _ _ ⟨e1ne, by omega, wfT_E wt z0.2.2 _ _, rT_E rt _ _, hO, by omega, by omega, by omega, fun i h1 h2 => hi i (by omega) h2, fun _ => ⟨?_, g1, g2, g3, g4, g5, g6, rPc_up (Nat.le_succ _) g7, rel1_le g8 (by omega)⟩⟩
      rw [z0.2.1]; exact g0
  · refine fin_S (e1 := eEm x (tE t) cn p e) (t1 := t) (c1 := (nI (tE t), nI (tF t), cn, Fr, To, Co, Cu, De, Fi, Sp, nI O, nI m, Ok, Se, Te, sK, sD)) (Om1 := Om) (mm1 := mm) (me1 := (upd (upd (upd (me) (p + 1) 3) (p + 3) 4) (p + 5) 5)) (gd1 := gd) (gb1 := gb) (ge1 := ge) (go1 := go) (gw1 := gw) (pl1 := pl) (tk1 := tk) (cn1 := cn) wf rc rm hp (by omega) he e1ne hc (q := p + 6) (by omega) (by omega) rfl rfl (fun K kk => cl_emp h0 (c_emp_S wf rc hp hE h0 h1 h2 h3 h4 h5 (fun y _ => absurd y z) (fun _ => kk))) (fun K kk => m_emp_S wf rm hp h0 h1 h2 h3 h4 h5 kk) lo (fun y => eEm_err y) (fun y => ck_pos (by decide) (ck_pos (by decide) (ck_pos (by decide) (ck_pos (by decide) y)))) (fun ez me' od' gd' gb' ge' go' gw' gm' agr K tp sz ea u hu => ⟨fun y kk => ?_, fun y => absurd y z⟩) (hi _ (by omega) (by omega)) (fun h33 => ?_)
    · obtain ⟨g0, g1, g2, g3, g4, g5, g6, g7, g8⟩ := hg ez
      obtain ⟨wh, isS, itS, gs, gst, gE, em, be, en, gF, gIs, gCu, gWh, gFi, gSp, gO⟩ := u
      obtain ⟨⟨ur, uo, uw⟩, un1⟩ := hu
      have us1 : gs = nI (tN t) := ur.1.1
      have us2 : gst = nI (tM t) := ur.1.2.1
      have us3 : gE = nI (tE t) := ur.1.2.2.1
      have us4 : gF = nI (tF t) := ur.1.2.2.2
      subst us1 us2 us3 us4
      rw [g0] at z kk
      exact seg_emp wf rm (Nat.le_refl _) (by omega) h1 h3 h5 (show me' (p) = nI 0 from by rw [agr _ (by omega), un (by omega), un (by omega), un (by omega)]; exact hme0 _ (by omega) (by omega)) (show me' (p + 1) = nI 3 from by rw [agr _ (by omega), un (by omega), un (by omega), us]; rfl) (show me' (p + 2) = nI 0 from by rw [agr _ (by omega), un (by omega), un (by omega), un (by omega)]; exact hme0 _ (by omega) (by omega)) (show me' (p + 3) = nI 4 from by rw [agr _ (by omega), un (by omega), us]; rfl) (show me' (p + 4) = nI 0 from by rw [agr _ (by omega), un (by omega), un (by omega), un (by omega)]; exact hme0 _ (by omega) (by omega)) (show me' (p + 5) = nI 5 from by rw [agr _ (by omega), us]; rfl) hE (un1 _ (by omega) h1) (fun _ => kk) (fun y _ => absurd y z)
    · have lt9 := kN_lt wf (p := p + 6) (by omega) (by omega)
      exact ih (p + 6 + 1) (by omega) (by omega) _ _ _ _ _ _ _ _ _ _ _ _ _ _ _ _ _ _ _ _ _ _ _ _ _ _ _ _ ⟨e1ne, by omega, wt, rt, hO, by omega, by omega, by omega, fun i h1 h2 => hi i (by omega) h2, fun y => absurd y z⟩
theorem bk_coin (wf : wfN x) (rc : rNc x ki st nu na) (rm : rNm x mk fr va) (hp : p ≤ nN x) (h0 : kN x p = 5) (H : HY x p e t O m ctr Om mm cn Fr To Co Cu De Fi Sp Ok Se Te sK sD me gd gb ge go gw pl tk) (ih : ∀ q, p < q → q ≤ nN x → ∀ (e : Int32 × Int32) (t : Tl) (O m ctr Om mm : Nat) (cn : (Nat → Int64)) (Fr To Co Cu De Fi Sp Ok Se Te sK sD me gd gb ge go gw : (Nat → Int32)) (pl : Pn) (tk : Nat → Nat), HY x q e t O m ctr Om mm cn Fr To Co Cu De Fi Sp Ok Se Te sK sD me gd gb ge go gw pl tk → BO x ki st nu mk fr na va q e t (nI (tE t), nI (tF t), cn, Fr, To, Co, Cu, De, Fi, Sp, nI O, nI m, Ok, Se, Te, sK, sD) ctr Om mm me gd gb ge go gw pl tk cn) : BO x ki st nu mk fr na va p e t (nI (tE t), nI (tF t), cn, Fr, To, Co, Cu, De, Fi, Sp, nI O, nI m, Ok, Se, Te, sK, sD) ctr Om mm me gd gb ge go gw pl tk cn := by
  have n4 := wf.1
  obtain ⟨he, hc, wt, rt, hO, hm, hmm, hOm, hme0, hg⟩ := H
  have hE := wt.2.2.1
  have hF := wt.2.2.2.1
  have lt0 := kN_lt wf hp (by omega)
  by_cases h1 : kN x (p + 1) ≠ 8
  · exact fin_F wf rm hp (by omega) he hc (q := p + 1) (by omega) (fun K kk => cl_coin h0 (c_coin_F1 (fi := tFi t) (sp := tSp t) wf rc hp he hF wt.1 wt.2.1 rt.2.2.2.2.1 (hfi_of wt) rt.2.2.2.2.2.1 h0 h1 (kk _))) (fun K kk => m_coin_F1 wf rm hp h0 h1 kk)
  have h1 : kN x (p + 1) = 8 := Classical.not_not.1 h1
  have lt1 := kN_lt wf (p := p + 1) (by omega) (by omega)
  by_cases h2 : kN x (p + 2) ≠ 45
  · exact fin_F wf rm hp (by omega) he hc (q := p + 2) (by omega) (fun K kk => cl_coin h0 (c_coin_F2 (fi := tFi t) (sp := tSp t) wf rc hp he hF wt.1 wt.2.1 rt.2.2.2.2.1 (hfi_of wt) rt.2.2.2.2.2.1 h0 h1 h2 (kk _))) (fun K kk => m_coin_F2 wf rm hp h0 h1 h2 kk)
  have h2 : kN x (p + 2) = 45 := Classical.not_not.1 h2
  have lt2 := kN_lt wf (p := p + 2) (by omega) (by omega)
  by_cases h3 : kN x (p + 3) ≠ 34
  · exact fin_F wf rm hp (by omega) he hc (q := p + 3) (by omega) (fun K kk => cl_coin h0 (c_coin_F3 (fi := tFi t) (sp := tSp t) wf rc hp he hF wt.1 wt.2.1 rt.2.2.2.2.1 (hfi_of wt) rt.2.2.2.2.2.1 h0 h1 h2 h3 (kk _))) (fun K kk => m_coin_F3 wf rm hp h0 h1 h2 h3 kk)
  have h3 : kN x (p + 3) = 34 := Classical.not_not.1 h3
  have lt3 := kN_lt wf (p := p + 3) (by omega) (by omega)
  by_cases h4 : kN x (p + 4) ≠ 45
  · exact fin_F wf rm hp (by omega) he hc (q := p + 4) (by omega) (fun K kk => cl_coin h0 (c_coin_F4 (fi := tFi t) (sp := tSp t) wf rc hp he hF wt.1 wt.2.1 rt.2.2.2.2.1 (hfi_of wt) rt.2.2.2.2.2.1 h0 h1 h2 h3 h4 (kk _))) (fun K kk => m_coin_F4 wf rm hp h0 h1 h2 h3 h4 kk)
  have h4 : kN x (p + 4) = 45 := Classical.not_not.1 h4
  have lt4 := kN_lt wf (p := p + 4) (by omega) (by omega)
  by_cases h5 : kN x (p + 5) ≠ 9
  · exact fin_F wf rm hp (by omega) he hc (q := p + 5) (by omega) (fun K kk => cl_coin h0 (c_coin_F5 (fi := tFi t) (sp := tSp t) wf rc hp he hF wt.1 wt.2.1 rt.2.2.2.2.1 (hfi_of wt) rt.2.2.2.2.2.1 h0 h1 h2 h3 h4 h5 (kk _))) (fun K kk => m_coin_F5 wf rm hp h0 h1 h2 h3 h4 h5 kk)
  have h5 : kN x (p + 5) = 9 := Classical.not_not.1 h5
  have lt5 := kN_lt wf (p := p + 5) (by omega) (by omega)
  by_cases h6 : kN x (p + 6) ≠ 45
  · exact fin_F wf rm hp (by omega) he hc (q := p + 6) (by omega) (fun K kk => cl_coin h0 (c_coin_F6 (fi := tFi t) (sp := tSp t) wf rc hp he hF wt.1 wt.2.1 rt.2.2.2.2.1 (hfi_of wt) rt.2.2.2.2.2.1 h0 h1 h2 h3 h4 h5 h6 (kk _))) (fun K kk => m_coin_F6 wf rm hp h0 h1 h2 h3 h4 h5 h6 kk)
  have h6 : kN x (p + 6) = 45 := Classical.not_not.1 h6
  have lt6 := kN_lt wf (p := p + 6) (by omega) (by omega)
  have e1ne : (eCo x (tN t) (tM t) (tF t) (tkf (tFi t) (tSp t) false) p e).1 ≠ 1 := eCo_ne he
  have hi : ∀ i, p + 7 ≤ i → i ≤ nN x → (upd (upd (upd (upd (me) p 6) (p + 2) 7) (p + 4) 8) (p + 6) 9) i = nI 0 := fun i h1 h2 => by rw [un (by omega), un (by omega), un (by omega), un (by omega)]; exact hme0 i (by omega) h2
  have lo : ∀ i, i < p → (upd (upd (upd (upd (me) p 6) (p + 2) 7) (p + 4) 8) (p + 6) 9) i = me i := fun i h => by rw [un (by omega), un (by omega), un (by omega), un (by omega)]
  by_cases z : (eCo x (tN t) (tM t) (tF t) (tkf (tFi t) (tSp t) false) p e).1 = 0
  · have z0 := eCo_0 z
    have gg := hg z0.1
    obtain ⟨g0, g1, g2, g3, g4, g5, g6, g7, g8⟩ := gg
    have tf : tFi t (vN x (p + 1 + 1) * 10 + vN x (p + 1 + 3)) = none := by
      have q : (tFi t (vN x (p + 1 + 1) * 10 + vN x (p + 1 + 3))).isSome = false := z0.2.2.2.2.2
      cases q2 : tFi t (vN x (p + 1 + 1) * 10 + vN x (p + 1 + 3))
      · rfl
      · rw [q2] at q; cases q
    have m10 := wt.2.1.2
    refine fin_S (e1 := eCo x (tN t) (tM t) (tF t) (tkf (tFi t) (tSp t) false) p e) (t1 := tNewF t true (vN x (p + 1 + 1) * 10 + vN x (p + 1 + 3)) (nI (vN x (p + 6)))) (c1 := (nI (tE t), nI (tF t + 1), cn, Fr, To, upd Co (tF t) 1, upd Cu (tF t) (nI (vN x (p + 1 + 1) * 10 + vN x (p + 1 + 3))), upd De (tF t) (nI (vN x (p + 6))), upd Fi (vN x (p + 1 + 1) * 10 + vN x (p + 1 + 3)) (nI (tF t)), Sp, nI O, nI m, Ok, Se, Te, sK, sD)) (Om1 := Om) (mm1 := mm) (me1 := (upd (upd (upd (upd (me) p 6) (p + 2) 7) (p + 4) 8) (p + 6) 9)) (gd1 := gd) (gb1 := gb) (ge1 := ge) (go1 := go) (gw1 := gw) (pl1 := pl) (tk1 := tk) (cn1 := cn) wf rc rm hp (by omega) he e1ne hc (q := p + 7) (by omega) (by omega) rfl rfl (fun K kk => cl_coin h0 (c_coin_S (fi := tFi t) (sp := tSp t) wf rc hp hF wt.1 wt.2.1 rt.2.2.2.2.1 (hfi_of wt) rt.2.2.2.2.2.1 h0 h1 h2 h3 h4 h5 h6 (fun _ _ _ _ _ => kk) (fun y => absurd z y))) (fun K kk => m_coin_S wf rm hp h0 h1 h2 h3 h4 h5 h6 kk) lo (fun y => absurd z0.1 y) (fun y => ck_pos (by decide) (ck_pos (by decide) (ck_pos (by decide) (ck_pos (by decide) (ck_pos (by decide) y))))) (fun _ me' od' gd' gb' ge' go' gw' gm' agr K tp sz ea u hu => ⟨fun y => absurd z y, fun _ kk => ?_⟩) (hi _ (by omega) (by omega)) (fun h33 => ?_)
    · obtain ⟨wh, isS, itS, gs, gst, gE, em, be, en, gF, gIs, gCu, gWh, gFi, gSp, gO⟩ := u
      obtain ⟨⟨ur, uo, uw⟩, un1⟩ := hu
      have us1 : gs = nI (tN t) := ur.1.1
      have us2 : gst = nI (tM t) := ur.1.2.1
      have us3 : gE = nI (tE t) := ur.1.2.2.1
      have us4 : gF = nI (tF t) := ur.1.2.2.2
      subst us1 us2 us3 us4
      rw [g0] at z
      refine seg_coin (fi := tFi t) (sp := tSp t) wf rm (Nat.le_refl _) (by omega) h0 h2 h4 h6 (show me' (p) = nI 6 from by rw [agr _ (by omega), un (by omega), un (by omega), un (by omega), us]; rfl) (show me' (p + 1) = nI 0 from by rw [agr _ (by omega), un (by omega), un (by omega), un (by omega), un (by omega)]; exact hme0 _ (by omega) (by omega)) (show me' (p + 2) = nI 7 from by rw [agr _ (by omega), un (by omega), un (by omega), us]; rfl) (show me' (p + 3) = nI 0 from by rw [agr _ (by omega), un (by omega), un (by omega), un (by omega), un (by omega)]; exact hme0 _ (by omega) (by omega)) (show me' (p + 4) = nI 8 from by rw [agr _ (by omega), un (by omega), us]; rfl) (show me' (p + 5) = nI 0 from by rw [agr _ (by omega), un (by omega), un (by omega), un (by omega), un (by omega)]; exact hme0 _ (by omega) (by omega)) (show me' (p + 6) = nI 9 from by rw [agr _ (by omega), us]; rfl) wt.1 wt.2.1 hF ur.2.2.2.2.1 (hfi_of wt) ur.2.2.2.2.2.1 (fun y => absurd z y) (fun _ _ => kk _ ?_)
      exact ⟨⟨rT_F ur true _ _, uo, uw⟩, un1⟩
    · have lt9 := kN_lt wf (p := p + 7) (by omega) (by omega)
      refine ih (p + 7 + 1) (by omega) (by omega) _ _ _ _ _ _ _ _ _ _ _ _ _ _ _ _ _ _ _ _ _ _ _ _ _ _ _ _ ⟨e1ne, by omega, wfT_F wt z0.2.2.1 (by have := z0.2.2.2.2.1; omega) (by have := z0.2.2.2.1; have := z0.2.2.2.2.1; omega) tf (fun y => by cases y), rT_F rt true _ _, hO, by omega, by omega, by omega, fun i h1 h2 => hi i (by omega) h2, fun _ => ⟨?_, g1, g2, g3, g4, g5, g6, rPc_up (Nat.le_refl _) g7, rel1_le g8 (by omega)⟩⟩
      rw [z0.2.1]; exact g0
  · refine fin_S (e1 := eCo x (tN t) (tM t) (tF t) (tkf (tFi t) (tSp t) false) p e) (t1 := t) (c1 := (nI (tE t), nI (tF t), cn, Fr, To, Co, Cu, De, Fi, Sp, nI O, nI m, Ok, Se, Te, sK, sD)) (Om1 := Om) (mm1 := mm) (me1 := (upd (upd (upd (upd (me) p 6) (p + 2) 7) (p + 4) 8) (p + 6) 9)) (gd1 := gd) (gb1 := gb) (ge1 := ge) (go1 := go) (gw1 := gw) (pl1 := pl) (tk1 := tk) (cn1 := cn) wf rc rm hp (by omega) he e1ne hc (q := p + 7) (by omega) (by omega) rfl rfl (fun K kk => cl_coin h0 (c_coin_S (fi := tFi t) (sp := tSp t) wf rc hp hF wt.1 wt.2.1 rt.2.2.2.2.1 (hfi_of wt) rt.2.2.2.2.2.1 h0 h1 h2 h3 h4 h5 h6 (fun y _ _ _ _ => absurd y z) (fun _ => kk))) (fun K kk => m_coin_S wf rm hp h0 h1 h2 h3 h4 h5 h6 kk) lo (fun y => eCo_err y) (fun y => ck_pos (by decide) (ck_pos (by decide) (ck_pos (by decide) (ck_pos (by decide) (ck_pos (by decide) y))))) (fun ez me' od' gd' gb' ge' go' gw' gm' agr K tp sz ea u hu => ⟨fun y kk => ?_, fun y => absurd y z⟩) (hi _ (by omega) (by omega)) (fun h33 => ?_)
    · obtain ⟨g0, g1, g2, g3, g4, g5, g6, g7, g8⟩ := hg ez
      obtain ⟨wh, isS, itS, gs, gst, gE, em, be, en, gF, gIs, gCu, gWh, gFi, gSp, gO⟩ := u
      obtain ⟨⟨ur, uo, uw⟩, un1⟩ := hu
      have us1 : gs = nI (tN t) := ur.1.1
      have us2 : gst = nI (tM t) := ur.1.2.1
      have us3 : gE = nI (tE t) := ur.1.2.2.1
      have us4 : gF = nI (tF t) := ur.1.2.2.2
      subst us1 us2 us3 us4
      rw [g0] at z kk
      exact seg_coin (fi := tFi t) (sp := tSp t) wf rm (Nat.le_refl _) (by omega) h0 h2 h4 h6 (show me' (p) = nI 6 from by rw [agr _ (by omega), un (by omega), un (by omega), un (by omega), us]; rfl) (show me' (p + 1) = nI 0 from by rw [agr _ (by omega), un (by omega), un (by omega), un (by omega), un (by omega)]; exact hme0 _ (by omega) (by omega)) (show me' (p + 2) = nI 7 from by rw [agr _ (by omega), un (by omega), un (by omega), us]; rfl) (show me' (p + 3) = nI 0 from by rw [agr _ (by omega), un (by omega), un (by omega), un (by omega), un (by omega)]; exact hme0 _ (by omega) (by omega)) (show me' (p + 4) = nI 8 from by rw [agr _ (by omega), un (by omega), us]; rfl) (show me' (p + 5) = nI 0 from by rw [agr _ (by omega), un (by omega), un (by omega), un (by omega), un (by omega)]; exact hme0 _ (by omega) (by omega)) (show me' (p + 6) = nI 9 from by rw [agr _ (by omega), us]; rfl) wt.1 wt.2.1 hF ur.2.2.2.2.1 (hfi_of wt) ur.2.2.2.2.2.1 (fun _ => kk) (fun y _ => absurd y z)
    · have lt9 := kN_lt wf (p := p + 7) (by omega) (by omega)
      exact ih (p + 7 + 1) (by omega) (by omega) _ _ _ _ _ _ _ _ _ _ _ _ _ _ _ _ _ _ _ _ _ _ _ _ _ _ _ _ ⟨e1ne, by omega, wt, rt, hO, by omega, by omega, by omega, fun i h1 h2 => hi i (by omega) h2, fun y => absurd y z⟩
theorem bk_crumb (wf : wfN x) (rc : rNc x ki st nu na) (rm : rNm x mk fr va) (hp : p ≤ nN x) (h0 : kN x p = 6) (H : HY x p e t O m ctr Om mm cn Fr To Co Cu De Fi Sp Ok Se Te sK sD me gd gb ge go gw pl tk) (ih : ∀ q, p < q → q ≤ nN x → ∀ (e : Int32 × Int32) (t : Tl) (O m ctr Om mm : Nat) (cn : (Nat → Int64)) (Fr To Co Cu De Fi Sp Ok Se Te sK sD me gd gb ge go gw : (Nat → Int32)) (pl : Pn) (tk : Nat → Nat), HY x q e t O m ctr Om mm cn Fr To Co Cu De Fi Sp Ok Se Te sK sD me gd gb ge go gw pl tk → BO x ki st nu mk fr na va q e t (nI (tE t), nI (tF t), cn, Fr, To, Co, Cu, De, Fi, Sp, nI O, nI m, Ok, Se, Te, sK, sD) ctr Om mm me gd gb ge go gw pl tk cn) : BO x ki st nu mk fr na va p e t (nI (tE t), nI (tF t), cn, Fr, To, Co, Cu, De, Fi, Sp, nI O, nI m, Ok, Se, Te, sK, sD) ctr Om mm me gd gb ge go gw pl tk cn := by
  have n4 := wf.1
  obtain ⟨he, hc, wt, rt, hO, hm, hmm, hOm, hme0, hg⟩ := H
  have hE := wt.2.2.1
  have hF := wt.2.2.2.1
  have lt0 := kN_lt wf hp (by omega)
  by_cases h1 : kN x (p + 1) ≠ 8
  · exact fin_F wf rm hp (by omega) he hc (q := p + 1) (by omega) (fun K kk => cl_crumb h0 (c_crumb_F1 (fi := tFi t) (sp := tSp t) wf rc hp he hE hF wt.1 wt.2.1 rt.2.2.2.2.1 (hfi_of wt) rt.2.2.2.2.2.1 h0 h1 (kk _))) (fun K kk => m_crumb_F1 wf rm hp h0 h1 kk)
  have h1 : kN x (p + 1) = 8 := Classical.not_not.1 h1
  have lt1 := kN_lt wf (p := p + 1) (by omega) (by omega)
  by_cases h2 : kN x (p + 2) ≠ 45
  · exact fin_F wf rm hp (by omega) he hc (q := p + 2) (by omega) (fun K kk => cl_crumb h0 (c_crumb_F2 (fi := tFi t) (sp := tSp t) wf rc hp he hE hF wt.1 wt.2.1 rt.2.2.2.2.1 (hfi_of wt) rt.2.2.2.2.2.1 h0 h1 h2 (kk _))) (fun K kk => m_crumb_F2 wf rm hp h0 h1 h2 kk)
  have h2 : kN x (p + 2) = 45 := Classical.not_not.1 h2
  have lt2 := kN_lt wf (p := p + 2) (by omega) (by omega)
  by_cases h3 : kN x (p + 3) ≠ 34
  · exact fin_F wf rm hp (by omega) he hc (q := p + 3) (by omega) (fun K kk => cl_crumb h0 (c_crumb_F3 (fi := tFi t) (sp := tSp t) wf rc hp he hE hF wt.1 wt.2.1 rt.2.2.2.2.1 (hfi_of wt) rt.2.2.2.2.2.1 h0 h1 h2 h3 (kk _))) (fun K kk => m_crumb_F3 wf rm hp h0 h1 h2 h3 kk)
  have h3 : kN x (p + 3) = 34 := Classical.not_not.1 h3
  have lt3 := kN_lt wf (p := p + 3) (by omega) (by omega)
  by_cases h4 : kN x (p + 4) ≠ 45
  · exact fin_F wf rm hp (by omega) he hc (q := p + 4) (by omega) (fun K kk => cl_crumb h0 (c_crumb_F4 (fi := tFi t) (sp := tSp t) wf rc hp he hE hF wt.1 wt.2.1 rt.2.2.2.2.1 (hfi_of wt) rt.2.2.2.2.2.1 h0 h1 h2 h3 h4 (kk _))) (fun K kk => m_crumb_F4 wf rm hp h0 h1 h2 h3 h4 kk)
  have h4 : kN x (p + 4) = 45 := Classical.not_not.1 h4
  have lt4 := kN_lt wf (p := p + 4) (by omega) (by omega)
  by_cases h5 : kN x (p + 5) ≠ 10
  · exact fin_F wf rm hp (by omega) he hc (q := p + 5) (by omega) (fun K kk => cl_crumb h0 (c_crumb_F5 (fi := tFi t) (sp := tSp t) wf rc hp he hE hF wt.1 wt.2.1 rt.2.2.2.2.1 (hfi_of wt) rt.2.2.2.2.2.1 h0 h1 h2 h3 h4 h5 (kk _))) (fun K kk => m_crumb_F5 wf rm hp h0 h1 h2 h3 h4 h5 kk)
  have h5 : kN x (p + 5) = 10 := Classical.not_not.1 h5
  have lt5 := kN_lt wf (p := p + 5) (by omega) (by omega)
  by_cases h6 : kN x (p + 6) ≠ 44
  · exact fin_F wf rm hp (by omega) he hc (q := p + 6) (by omega) (fun K kk => cl_crumb h0 (c_crumb_F6 (fi := tFi t) (sp := tSp t) wf rc hp he hE hF wt.1 wt.2.1 rt.2.2.2.2.1 (hfi_of wt) rt.2.2.2.2.2.1 h0 h1 h2 h3 h4 h5 h6 (kk _))) (fun K kk => m_crumb_F6 wf rm hp h0 h1 h2 h3 h4 h5 h6 kk)
  have h6 : kN x (p + 6) = 44 := Classical.not_not.1 h6
  have lt6 := kN_lt wf (p := p + 6) (by omega) (by omega)
  have e1ne : (eCr x (tN t) (tM t) (tE t) (tF t) cn (tkf (tFi t) (tSp t) false) p e).1 ≠ 1 := eCr_ne he
  have hi : ∀ i, p + 7 ≤ i → i ≤ nN x → (upd (upd (upd (upd (me) p 6) (p + 2) 7) (p + 4) 8) (p + 6) 10) i = nI 0 := fun i h1 h2 => by rw [un (by omega), un (by omega), un (by omega), un (by omega)]; exact hme0 i (by omega) h2
  have lo : ∀ i, i < p → (upd (upd (upd (upd (me) p 6) (p + 2) 7) (p + 4) 8) (p + 6) 10) i = me i := fun i h => by rw [un (by omega), un (by omega), un (by omega), un (by omega)]
  by_cases z : (eCr x (tN t) (tM t) (tE t) (tF t) cn (tkf (tFi t) (tSp t) false) p e).1 = 0
  · have z0 := eCr_0 z
    have gg := hg z0.1
    obtain ⟨g0, g1, g2, g3, g4, g5, g6, g7, g8⟩ := gg
    have tf : tFi t (vN x (p + 1 + 1) * 10 + vN x (p + 1 + 3)) = none := by
      have q : (tFi t (vN x (p + 1 + 1) * 10 + vN x (p + 1 + 3))).isSome = false := z0.2.2.2.2.2.1
      cases q2 : tFi t (vN x (p + 1 + 1) * 10 + vN x (p + 1 + 3))
      · rfl
      · rw [q2] at q; cases q
    have m10 := wt.2.1.2
    have bk : ∃ e9, e9 < tE t ∧ fI (emF cn (cN x (p + 6)) (tE t)) = nI e9 := by
      have q := z0.2.2.2.2.2.2
      unfold bdN at q
      rw [decide_eq_true h6, Bool.true_and] at q
      cases q2 : emF cn (cN x (p + 6)) (tE t) with
      | none => rw [q2] at q; cases q
      | some e9 => exact ⟨e9, (emF_some q2).1, rfl⟩
    refine fin_S (e1 := eCr x (tN t) (tM t) (tE t) (tF t) cn (tkf (tFi t) (tSp t) false) p e) (t1 := tNewF t false (vN x (p + 1 + 1) * 10 + vN x (p + 1 + 3)) (fI (emF cn (cN x (p + 6)) (tE t)))) (c1 := (nI (tE t), nI (tF t + 1), cn, Fr, To, upd Co (tF t) 0, upd Cu (tF t) (nI (vN x (p + 1 + 1) * 10 + vN x (p + 1 + 3))), upd De (tF t) (fI (emF cn (cN x (p + 6)) (tE t))), upd Fi (vN x (p + 1 + 1) * 10 + vN x (p + 1 + 3)) (nI (tF t)), Sp, nI O, nI m, Ok, Se, Te, sK, sD)) (Om1 := Om) (mm1 := mm) (me1 := (upd (upd (upd (upd (me) p 6) (p + 2) 7) (p + 4) 8) (p + 6) 10)) (gd1 := gd) (gb1 := gb) (ge1 := ge) (go1 := go) (gw1 := gw) (pl1 := pl) (tk1 := tk) (cn1 := cn) wf rc rm hp (by omega) he e1ne hc (q := p + 7) (by omega) (by omega) rfl rfl (fun K kk => cl_crumb h0 (c_crumb_S (fi := tFi t) (sp := tSp t) wf rc hp hE hF wt.1 wt.2.1 rt.2.2.2.2.1 (hfi_of wt) rt.2.2.2.2.2.1 h0 h1 h2 h3 h4 h5 h6 (fun _ _ _ _ _ => kk) (fun y => absurd z y))) (fun K kk => m_crumb_S wf rm hp h0 h1 h2 h3 h4 h5 h6 kk) lo (fun y => absurd z0.1 y) (fun y => erF_pos (ck_pos (by decide) (ck_pos (by decide) (ck_pos (by decide) (ck_pos (by decide) y))))) (fun _ me' od' gd' gb' ge' go' gw' gm' agr K tp sz ea u hu => ⟨fun y => absurd z y, fun _ kk => ?_⟩) (hi _ (by omega) (by omega)) (fun h33 => ?_)
    · obtain ⟨wh, isS, itS, gs, gst, gE, em, be, en, gF, gIs, gCu, gWh, gFi, gSp, gO⟩ := u
      obtain ⟨⟨ur, uo, uw⟩, un1⟩ := hu
      have us1 : gs = nI (tN t) := ur.1.1
      have us2 : gst = nI (tM t) := ur.1.2.1
      have us3 : gE = nI (tE t) := ur.1.2.2.1
      have us4 : gF = nI (tF t) := ur.1.2.2.2
      subst us1 us2 us3 us4
      rw [g0] at z
      refine seg_crumb (fi := tFi t) (sp := tSp t) wf rm (Nat.le_refl _) (by omega) h0 h2 h4 h6 (show me' (p) = nI 6 from by rw [agr _ (by omega), un (by omega), un (by omega), un (by omega), us]; rfl) (show me' (p + 1) = nI 0 from by rw [agr _ (by omega), un (by omega), un (by omega), un (by omega), un (by omega)]; exact hme0 _ (by omega) (by omega)) (show me' (p + 2) = nI 7 from by rw [agr _ (by omega), un (by omega), un (by omega), us]; rfl) (show me' (p + 3) = nI 0 from by rw [agr _ (by omega), un (by omega), un (by omega), un (by omega), un (by omega)]; exact hme0 _ (by omega) (by omega)) (show me' (p + 4) = nI 8 from by rw [agr _ (by omega), un (by omega), us]; rfl) (show me' (p + 5) = nI 0 from by rw [agr _ (by omega), un (by omega), un (by omega), un (by omega), un (by omega)]; exact hme0 _ (by omega) (by omega)) (show me' (p + 6) = nI 10 from by rw [agr _ (by omega), us]; rfl) wt.1 wt.2.1 hF hE (un1 _ (by omega) h6) ur.2.2.2.2.1 (hfi_of wt) ur.2.2.2.2.2.1 (fun y => absurd z y) (fun _ _ => kk _ ?_)
      refine ⟨⟨rT_F ur false _ _, uo, fun i hi2 hk => ?_⟩, un1⟩
      show upd wh (p + 6) _ (tk i) = pD pl i
      rw [un (by have := ((g8.2 i hi2).2.2 hk).2; omega)]
      exact uw i hi2 hk
    · have lt9 := kN_lt wf (p := p + 7) (by omega) (by omega)
      refine ih (p + 7 + 1) (by omega) (by omega) _ _ _ _ _ _ _ _ _ _ _ _ _ _ _ _ _ _ _ _ _ _ _ _ _ _ _ _ ⟨e1ne, by omega, wfT_F wt z0.2.2.1 (by have := z0.2.2.2.2.1; omega) (by have := z0.2.2.2.1; have := z0.2.2.2.2.1; omega) tf (fun _ => bk), rT_F rt false _ _, hO, by omega, by omega, by omega, fun i h1 h2 => hi i (by omega) h2, fun _ => ⟨?_, g1, g2, g3, g4, g5, g6, rPc_up (Nat.le_refl _) g7, rel1_le g8 (by omega)⟩⟩
      rw [z0.2.1]; exact g0
  · refine fin_S (e1 := eCr x (tN t) (tM t) (tE t) (tF t) cn (tkf (tFi t) (tSp t) false) p e) (t1 := t) (c1 := (nI (tE t), nI (tF t), cn, Fr, To, Co, Cu, De, Fi, Sp, nI O, nI m, Ok, Se, Te, sK, sD)) (Om1 := Om) (mm1 := mm) (me1 := (upd (upd (upd (upd (me) p 6) (p + 2) 7) (p + 4) 8) (p + 6) 10)) (gd1 := gd) (gb1 := gb) (ge1 := ge) (go1 := go) (gw1 := gw) (pl1 := pl) (tk1 := tk) (cn1 := cn) wf rc rm hp (by omega) he e1ne hc (q := p + 7) (by omega) (by omega) rfl rfl (fun K kk => cl_crumb h0 (c_crumb_S (fi := tFi t) (sp := tSp t) wf rc hp hE hF wt.1 wt.2.1 rt.2.2.2.2.1 (hfi_of wt) rt.2.2.2.2.2.1 h0 h1 h2 h3 h4 h5 h6 (fun y _ _ _ _ => absurd y z) (fun _ => kk))) (fun K kk => m_crumb_S wf rm hp h0 h1 h2 h3 h4 h5 h6 kk) lo (fun y => eCr_err y) (fun y => erF_pos (ck_pos (by decide) (ck_pos (by decide) (ck_pos (by decide) (ck_pos (by decide) y))))) (fun ez me' od' gd' gb' ge' go' gw' gm' agr K tp sz ea u hu => ⟨fun y kk => ?_, fun y => absurd y z⟩) (hi _ (by omega) (by omega)) (fun h33 => ?_)
    · obtain ⟨g0, g1, g2, g3, g4, g5, g6, g7, g8⟩ := hg ez
      obtain ⟨wh, isS, itS, gs, gst, gE, em, be, en, gF, gIs, gCu, gWh, gFi, gSp, gO⟩ := u
      obtain ⟨⟨ur, uo, uw⟩, un1⟩ := hu
      have us1 : gs = nI (tN t) := ur.1.1
      have us2 : gst = nI (tM t) := ur.1.2.1
      have us3 : gE = nI (tE t) := ur.1.2.2.1
      have us4 : gF = nI (tF t) := ur.1.2.2.2
      subst us1 us2 us3 us4
      rw [g0] at z kk
      exact seg_crumb (fi := tFi t) (sp := tSp t) wf rm (Nat.le_refl _) (by omega) h0 h2 h4 h6 (show me' (p) = nI 6 from by rw [agr _ (by omega), un (by omega), un (by omega), un (by omega), us]; rfl) (show me' (p + 1) = nI 0 from by rw [agr _ (by omega), un (by omega), un (by omega), un (by omega), un (by omega)]; exact hme0 _ (by omega) (by omega)) (show me' (p + 2) = nI 7 from by rw [agr _ (by omega), un (by omega), un (by omega), us]; rfl) (show me' (p + 3) = nI 0 from by rw [agr _ (by omega), un (by omega), un (by omega), un (by omega), un (by omega)]; exact hme0 _ (by omega) (by omega)) (show me' (p + 4) = nI 8 from by rw [agr _ (by omega), un (by omega), us]; rfl) (show me' (p + 5) = nI 0 from by rw [agr _ (by omega), un (by omega), un (by omega), un (by omega), un (by omega)]; exact hme0 _ (by omega) (by omega)) (show me' (p + 6) = nI 10 from by rw [agr _ (by omega), us]; rfl) wt.1 wt.2.1 hF hE (un1 _ (by omega) h6) ur.2.2.2.2.1 (hfi_of wt) ur.2.2.2.2.2.1 (fun _ => kk) (fun y _ => absurd y z)
    · have lt9 := kN_lt wf (p := p + 7) (by omega) (by omega)
      exact ih (p + 7 + 1) (by omega) (by omega) _ _ _ _ _ _ _ _ _ _ _ _ _ _ _ _ _ _ _ _ _ _ _ _ _ _ _ _ ⟨e1ne, by omega, wt, rt, hO, by omega, by omega, by omega, fun i h1 h2 => hi i (by omega) h2, fun y => absurd y z⟩
theorem bk_spring (wf : wfN x) (rc : rNc x ki st nu na) (rm : rNm x mk fr va) (hp : p ≤ nN x) (h0 : kN x p = 7) (H : HY x p e t O m ctr Om mm cn Fr To Co Cu De Fi Sp Ok Se Te sK sD me gd gb ge go gw pl tk) (ih : ∀ q, p < q → q ≤ nN x → ∀ (e : Int32 × Int32) (t : Tl) (O m ctr Om mm : Nat) (cn : (Nat → Int64)) (Fr To Co Cu De Fi Sp Ok Se Te sK sD me gd gb ge go gw : (Nat → Int32)) (pl : Pn) (tk : Nat → Nat), HY x q e t O m ctr Om mm cn Fr To Co Cu De Fi Sp Ok Se Te sK sD me gd gb ge go gw pl tk → BO x ki st nu mk fr na va q e t (nI (tE t), nI (tF t), cn, Fr, To, Co, Cu, De, Fi, Sp, nI O, nI m, Ok, Se, Te, sK, sD) ctr Om mm me gd gb ge go gw pl tk cn) : BO x ki st nu mk fr na va p e t (nI (tE t), nI (tF t), cn, Fr, To, Co, Cu, De, Fi, Sp, nI O, nI m, Ok, Se, Te, sK, sD) ctr Om mm me gd gb ge go gw pl tk cn := by
  have n4 := wf.1
  obtain ⟨he, hc, wt, rt, hO, hm, hmm, hOm, hme0, hg⟩ := H
  have hE := wt.2.2.1
  have hF := wt.2.2.2.1
  have lt0 := kN_lt wf hp (by omega)
  by_cases h1 : kN x (p + 1) ≠ 8
  · exact fin_F wf rm hp (by omega) he hc (q := p + 1) (by omega) (fun K kk => cl_spring h0 (c_spring_F1 (fi := tFi t) (sp := tSp t) wf rc hp he wt.1 wt.2.1 rt.2.2.2.2.1 (hfi_of wt) rt.2.2.2.2.2.1 h0 h1 (kk _))) (fun K kk => m_spring_F1 wf rm hp h0 h1 kk)
  have h1 : kN x (p + 1) = 8 := Classical.not_not.1 h1
  have lt1 := kN_lt wf (p := p + 1) (by omega) (by omega)
  by_cases h2 : kN x (p + 2) ≠ 45
  · exact fin_F wf rm hp (by omega) he hc (q := p + 2) (by omega) (fun K kk => cl_spring h0 (c_spring_F2 (fi := tFi t) (sp := tSp t) wf rc hp he wt.1 wt.2.1 rt.2.2.2.2.1 (hfi_of wt) rt.2.2.2.2.2.1 h0 h1 h2 (kk _))) (fun K kk => m_spring_F2 wf rm hp h0 h1 h2 kk)
  have h2 : kN x (p + 2) = 45 := Classical.not_not.1 h2
  have lt2 := kN_lt wf (p := p + 2) (by omega) (by omega)
  by_cases h3 : kN x (p + 3) ≠ 34
  · exact fin_F wf rm hp (by omega) he hc (q := p + 3) (by omega) (fun K kk => cl_spring h0 (c_spring_F3 (fi := tFi t) (sp := tSp t) wf rc hp he wt.1 wt.2.1 rt.2.2.2.2.1 (hfi_of wt) rt.2.2.2.2.2.1 h0 h1 h2 h3 (kk _))) (fun K kk => m_spring_F3 wf rm hp h0 h1 h2 h3 kk)
  have h3 : kN x (p + 3) = 34 := Classical.not_not.1 h3
  have lt3 := kN_lt wf (p := p + 3) (by omega) (by omega)
  by_cases h4 : kN x (p + 4) ≠ 45
  · exact fin_F wf rm hp (by omega) he hc (q := p + 4) (by omega) (fun K kk => cl_spring h0 (c_spring_F4 (fi := tFi t) (sp := tSp t) wf rc hp he wt.1 wt.2.1 rt.2.2.2.2.1 (hfi_of wt) rt.2.2.2.2.2.1 h0 h1 h2 h3 h4 (kk _))) (fun K kk => m_spring_F4 wf rm hp h0 h1 h2 h3 h4 kk)
  have h4 : kN x (p + 4) = 45 := Classical.not_not.1 h4
  have lt4 := kN_lt wf (p := p + 4) (by omega) (by omega)
  have e1ne : (ePl x (tN t) (tM t) (tkf (tFi t) (tSp t) true) (p + 1) e).1 ≠ 1 := ePl_ne he
  have hi : ∀ i, p + 5 ≤ i → i ≤ nN x → (upd (upd (upd (me) p 0) (p + 2) 7) (p + 4) 8) i = nI 0 := fun i h1 h2 => by rw [un (by omega), un (by omega), un (by omega)]; exact hme0 i (by omega) h2
  have lo : ∀ i, i < p → (upd (upd (upd (me) p 0) (p + 2) 7) (p + 4) 8) i = me i := fun i h => by rw [un (by omega), un (by omega), un (by omega)]
  by_cases z : (ePl x (tN t) (tM t) (tkf (tFi t) (tSp t) true) (p + 1) e).1 = 0
  · have z0 := ePl_0 z
    have gg := hg z0.1
    obtain ⟨g0, g1, g2, g3, g4, g5, g6, g7, g8⟩ := gg
    refine fin_S (e1 := ePl x (tN t) (tM t) (tkf (tFi t) (tSp t) true) (p + 1) e) (t1 := tNewS t (vN x (p + 1 + 1) * 10 + vN x (p + 1 + 3))) (c1 := (nI (tE t), nI (tF t), cn, Fr, To, Co, Cu, De, Fi, upd Sp (vN x (p + 1 + 1) * 10 + vN x (p + 1 + 3)) 1, nI O, nI m, Ok, Se, Te, sK, sD)) (Om1 := Om) (mm1 := mm) (me1 := (upd (upd (upd (me) p 0) (p + 2) 7) (p + 4) 8)) (gd1 := gd) (gb1 := gb) (ge1 := ge) (go1 := go) (gw1 := gw) (pl1 := pl) (tk1 := tk) (cn1 := cn) wf rc rm hp (by omega) he e1ne hc (q := p + 5) (by omega) (by omega) rfl rfl (fun K kk => cl_spring h0 (c_spring_S (fi := tFi t) (sp := tSp t) wf rc hp wt.1 wt.2.1 rt.2.2.2.2.1 (hfi_of wt) rt.2.2.2.2.2.1 h0 h1 h2 h3 h4 (fun _ _ _ => kk) (fun y => absurd z y))) (fun K kk => m_spring_S wf rm hp h0 h1 h2 h3 h4 kk) lo (fun y => absurd z0.1 y) (fun y => ck_pos (by decide) (ck_pos (by decide) (ck_pos (by decide) y))) (fun _ me' od' gd' gb' ge' go' gw' gm' agr K tp sz ea u hu => ⟨fun y => absurd z y, fun _ kk => ?_⟩) (hi _ (by omega) (by omega)) (fun h33 => ?_)
    · obtain ⟨wh, isS, itS, gs, gst, gE, em, be, en, gF, gIs, gCu, gWh, gFi, gSp, gO⟩ := u
      obtain ⟨⟨ur, uo, uw⟩, un1⟩ := hu
      have us1 : gs = nI (tN t) := ur.1.1
      have us2 : gst = nI (tM t) := ur.1.2.1
      have us3 : gE = nI (tE t) := ur.1.2.2.1
      have us4 : gF = nI (tF t) := ur.1.2.2.2
      subst us1 us2 us3 us4
      rw [g0] at z
      refine seg_spring (fi := tFi t) (sp := tSp t) wf rm (Nat.le_refl _) (by omega) h0 h2 h4 (show me' (p) = nI 0 from by rw [agr _ (by omega), un (by omega), un (by omega), us]; rfl) (show me' (p + 1) = nI 0 from by rw [agr _ (by omega), un (by omega), un (by omega), un (by omega)]; exact hme0 _ (by omega) (by omega)) (show me' (p + 2) = nI 7 from by rw [agr _ (by omega), un (by omega), us]; rfl) (show me' (p + 3) = nI 0 from by rw [agr _ (by omega), un (by omega), un (by omega), un (by omega)]; exact hme0 _ (by omega) (by omega)) (show me' (p + 4) = nI 8 from by rw [agr _ (by omega), us]; rfl) wt.1 wt.2.1 ur.2.2.2.2.2.1 (fun y => absurd z y) (fun _ => kk _ ?_)
      exact ⟨⟨rT_S ur _, uo, uw⟩, un1⟩
    · have lt9 := kN_lt wf (p := p + 5) (by omega) (by omega)
      refine ih (p + 5 + 1) (by omega) (by omega) _ _ _ _ _ _ _ _ _ _ _ _ _ _ _ _ _ _ _ _ _ _ _ _ _ _ _ _ ⟨e1ne, by omega, wfT_S wt _, rT_S rt _, hO, by omega, by omega, by omega, fun i h1 h2 => hi i (by omega) h2, fun _ => ⟨?_, g1, g2, g3, g4, g5, g6, rPc_up (Nat.le_refl _) g7, rel1_le g8 (by omega)⟩⟩
      rw [z0.2.1]; exact g0
  · refine fin_S (e1 := ePl x (tN t) (tM t) (tkf (tFi t) (tSp t) true) (p + 1) e) (t1 := t) (c1 := (nI (tE t), nI (tF t), cn, Fr, To, Co, Cu, De, Fi, Sp, nI O, nI m, Ok, Se, Te, sK, sD)) (Om1 := Om) (mm1 := mm) (me1 := (upd (upd (upd (me) p 0) (p + 2) 7) (p + 4) 8)) (gd1 := gd) (gb1 := gb) (ge1 := ge) (go1 := go) (gw1 := gw) (pl1 := pl) (tk1 := tk) (cn1 := cn) wf rc rm hp (by omega) he e1ne hc (q := p + 5) (by omega) (by omega) rfl rfl (fun K kk => cl_spring h0 (c_spring_S (fi := tFi t) (sp := tSp t) wf rc hp wt.1 wt.2.1 rt.2.2.2.2.1 (hfi_of wt) rt.2.2.2.2.2.1 h0 h1 h2 h3 h4 (fun y _ _ => absurd y z) (fun _ => kk))) (fun K kk => m_spring_S wf rm hp h0 h1 h2 h3 h4 kk) lo (fun y => ePl_err y) (fun y => ck_pos (by decide) (ck_pos (by decide) (ck_pos (by decide) y))) (fun ez me' od' gd' gb' ge' go' gw' gm' agr K tp sz ea u hu => ⟨fun y kk => ?_, fun y => absurd y z⟩) (hi _ (by omega) (by omega)) (fun h33 => ?_)
    · obtain ⟨g0, g1, g2, g3, g4, g5, g6, g7, g8⟩ := hg ez
      obtain ⟨wh, isS, itS, gs, gst, gE, em, be, en, gF, gIs, gCu, gWh, gFi, gSp, gO⟩ := u
      obtain ⟨⟨ur, uo, uw⟩, un1⟩ := hu
      have us1 : gs = nI (tN t) := ur.1.1
      have us2 : gst = nI (tM t) := ur.1.2.1
      have us3 : gE = nI (tE t) := ur.1.2.2.1
      have us4 : gF = nI (tF t) := ur.1.2.2.2
      subst us1 us2 us3 us4
      rw [g0] at z kk
      exact seg_spring (fi := tFi t) (sp := tSp t) wf rm (Nat.le_refl _) (by omega) h0 h2 h4 (show me' (p) = nI 0 from by rw [agr _ (by omega), un (by omega), un (by omega), us]; rfl) (show me' (p + 1) = nI 0 from by rw [agr _ (by omega), un (by omega), un (by omega), un (by omega)]; exact hme0 _ (by omega) (by omega)) (show me' (p + 2) = nI 7 from by rw [agr _ (by omega), un (by omega), us]; rfl) (show me' (p + 3) = nI 0 from by rw [agr _ (by omega), un (by omega), un (by omega), un (by omega)]; exact hme0 _ (by omega) (by omega)) (show me' (p + 4) = nI 8 from by rw [agr _ (by omega), us]; rfl) wt.1 wt.2.1 ur.2.2.2.2.2.1 (fun _ => kk) (fun y => absurd y z)
    · have lt9 := kN_lt wf (p := p + 5) (by omega) (by omega)
      exact ih (p + 5 + 1) (by omega) (by omega) _ _ _ _ _ _ _ _ _ _ _ _ _ _ _ _ _ _ _ _ _ _ _ _ _ _ _ _ ⟨e1ne, by omega, wt, rt, hO, by omega, by omega, by omega, fun i h1 h2 => hi i (by omega) h2, fun y => absurd y z⟩
end BKL
