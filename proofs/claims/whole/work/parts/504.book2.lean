/-! orders in the book; the whole book -/
section BK2
variable {x : Tn} {ki st nu mk fr : Nat → Int32} {na va : Nat → Int64} {p : Nat} {e : Int32 × Int32} {t : Tl} {O m ctr Om mm : Nat} {cn : Nat → Int64} {Fr To Co Cu De Fi Sp Ok Se Te sK sD me gd gb ge go gw : Nat → Int32} {pl : Pn} {tk : Nat → Nat}
theorem upd_ext {f g : Nat → Int32} {k1 k2 : Nat} {a b : Int32} (hk : k1 ≠ k2) (h : ∀ i, i ≠ k1 → i ≠ k2 → g i = f i) (h1 : g k1 = a) (h2 : g k2 = b) : g = upd (upd f k1 a) k2 b := by
  funext i
  by_cases z2 : i = k2
  · subst z2; rw [us]; exact h2
  · rw [un z2]
    by_cases z1 : i = k1
    · subst z1; rw [us]; exact h1
    · rw [un z1]; exact h i z1 z2
theorem bk_order (wf : wfN x) (rc : rNc x ki st nu na) (rm : rNm x mk fr va) (hp : p ≤ nN x) (h : kN x p = 11 ∨ kN x p = 12 ∨ kN x p = 13) (H : HY x p e t O m ctr Om mm cn Fr To Co Cu De Fi Sp Ok Se Te sK sD me gd gb ge go gw pl tk) (ih : ∀ q, p < q → q ≤ nN x → ∀ (e : Int32 × Int32) (t : Tl) (O m ctr Om mm : Nat) (cn : Nat → Int64) (Fr To Co Cu De Fi Sp Ok Se Te sK sD me gd gb ge go gw : Nat → Int32) (pl : Pn) (tk : Nat → Nat), HY x q e t O m ctr Om mm cn Fr To Co Cu De Fi Sp Ok Se Te sK sD me gd gb ge go gw pl tk → BO x ki st nu mk fr na va q e t (nI (tE t), nI (tF t), cn, Fr, To, Co, Cu, De, Fi, Sp, nI O, nI m, Ok, Se, Te, sK, sD) ctr Om mm me gd gb ge go gw pl tk cn) : BO x ki st nu mk fr na va p e t (nI (tE t), nI (tF t), cn, Fr, To, Co, Cu, De, Fi, Sp, nI O, nI m, Ok, Se, Te, sK, sD) ctr Om mm me gd gb ge go gw pl tk cn := by
  have n4 := wf.1
  obtain ⟨he, hc, wt, rt, hO, hm, hmm, hOm, hme0, hg⟩ := H
  have hE := wt.2.2.1
  have lt0 := kN_lt wf hp (by omega)
  have h47 : kN x p ≠ 47 := by omega
  obtain ⟨q, q1, q2, ⟨cf, mf⟩ | ⟨L1, L2, l0, l1, l2, l3, cs, ms⟩⟩ := ord_ex2 (cn := cn) wf rc rm hE hp h
  · exact fin_F wf rm hp h47 he hc q2 (fun K kk => cl_order h (cf e O m Ok Se Te sK sD _ he hO hm (fun R => kk _))) (fun K kk => m_line_order wf rm hp h (mf me gd gb ge go gw Om mm K (by omega) hmm kk))
  · have lm : ∀ K : Int32 → LK → Prop, K 1 (meF x (p + 1) q (upd me p 11), nI q, nI 0, nI (Om + 1), upd gd (min 15 Om) (nI (kN x p)), upd (upd gb (2 * min 15 Om) (nI mm)) (2 * min 15 Om + 1) (nI (mm + L1.length)), upd (upd ge (2 * min 15 Om) (nI (mm + L1.length))) (2 * min 15 Om + 1) (nI (mm + (L1 ++ L2).length)), apF mKd go mm (L1 ++ L2), apF (mWt x) gw mm (L1 ++ L2), nI (mm + (L1 ++ L2).length)) → wX10_isLine mk me va (nI p) (nI 0) (nI Om) gd gb ge go gw (nI mm) K := by
      intro K kk
      refine m_line_order wf rm hp h (ms me gd gb ge go gw Om mm K (by omega) hmm (fun gb' ge' c1 c2 c3 c4 c5 => ?_))
      rw [upd_ext (k1 := 2 * min 15 Om) (k2 := 2 * min 15 Om + 1) (by omega) (fun i a b => (c1 i a b).1) c2 c4, upd_ext (k1 := 2 * min 15 Om) (k2 := 2 * min 15 Om + 1) (by omega) (fun i a b => (c1 i a b).2) c3 c5]
      exact kk
    have e1ne : (erF x (bdN x (tE t) cn) (p + 1) q (ck x (decide (16 ≤ O)) 4 p e)).1 ≠ 1 := erF_ne (ck_ne (by decide) he)
    have lo : ∀ i, i < p → meF x (p + 1) q (upd me p 11) i = me i := by
      intro i hi
      unfold meF
      rw [if_neg (by omega), un (by omega)]
    have hi : ∀ i, q ≤ i → i ≤ nN x → meF x (p + 1) q (upd me p 11) i = nI 0 := by
      intro i h1 h2
      unfold meF
      rw [if_neg (by omega), un (by omega)]
      exact hme0 i (by omega) h2
    have mp : meF x (p + 1) q (upd me p 11) p = nI 11 := by
      unfold meF
      rw [if_neg (by omega), us]; rfl
    have mi : ∀ i, p + 1 ≤ i → i < q → meF x (p + 1) q (upd me p 11) i = if kN x i = 44 then nI 12 else nI 0 := by
      intro i h1 h2
      unfold meF
      by_cases y : kN x i = 44
      · rw [if_pos ⟨h1, h2, y⟩, if_pos y]; rfl
      · rw [if_neg (fun v => y v.2.2), if_neg y, un (by omega)]
        exact hme0 i (by omega) (by omega)
    by_cases z : (erF x (bdN x (tE t) cn) (p + 1) q (ck x (decide (16 ≤ O)) 4 p e)).1 = 0
    · have a1 := erF_0 z
      have a2 := ck_0 (by decide) a1.1
      have o16 : O < 16 := by
        have := of_decide_eq_false a2.2.1
        omega
      have e1e : erF x (bdN x (tE t) cn) (p + 1) q (ck x (decide (16 ≤ O)) 4 p e) = e := by rw [a1.2.1, a2.2.2]
      obtain ⟨g0, g1, g2, g3, g4, g5, g6, g7, g8⟩ := hg a2.1
      subst g2 g3 g4 g5
      have m15 : min 15 (pO pl) = pO pl := by omega
      have l4 : pS pl + (L1 ++ L2).length ≤ q := by omega
      have okd : ∀ a, a ∈ L1 ++ L2 → okD t a.1 (cDt x (tE t) cn a) := by
        intro a ha y
        have b := l3 a ha y
        have c := a1.2.2 a.2 b.1 b.2.1
        unfold bdN at c
        rw [decide_eq_true b.2.2, Bool.true_and] at c
        rw [cDt_e y]
        cases q2 : emF cn (cN x a.2) (tE t) with
        | none => rw [q2] at c; cases c
        | some e9 => exact ⟨e9, (emF_some q2).1, rfl⟩
      have wn := wfP_new (kd := kN x p) (x := x) (E := tE t) (cn := cn) g1 o16 (by omega) h g6 l1 l2
      refine fin_S (e1 := erF x (bdN x (tE t) cn) (p + 1) q (ck x (decide (16 ≤ pO pl)) 4 p e)) (t1 := t) (c1 := (nI (tE t), nI (tF t), cn, Fr, To, Co, Cu, De, Fi, Sp, nI (pO pl + 1), nI (pS pl + (L1 ++ L2).length), upd Ok (pO pl) (nI (kN x p)), upd Se (pO pl) (nI (pS pl + L1.length)), upd Te (pO pl) (nI (pS pl + (L1 ++ L2).length)), apF cKd sK (pS pl) (L1 ++ L2), apF (cDt x (tE t) cn) sD (pS pl) (L1 ++ L2))) (pl1 := pNew pl (kN x p) x (tE t) cn L1 L2) (tk1 := tkNew pl tk (L1 ++ L2)) (cn1 := cn) wf rc rm hp h47 he e1ne hc q1 q2 rfl rfl (fun K kk => cl_order h (cs e (pO pl) (pS pl) Ok Se Te sK sD _ he hO hm (fun e1 hq => ⟨fun _ _ => by rw [hq]; exact kk, fun y => absurd (by rw [hq]; exact z) y⟩))) lm lo (fun y => absurd a2.1 y) (fun y => erF_pos (ck_pos (by decide) y)) (fun _ me' od' gd' gb' ge' go' gw' gm' agr K tp sz ea u hu => ⟨fun y => absurd z y, fun _ kk => ?_⟩) (hi q (Nat.le_refl q) q2) (fun h33 => ?_)
      · obtain ⟨wh, isS, itS, gs, gst, gE, em, be, en, gF, gIs, gCu, gWh, gFi, gSp, gO⟩ := u
        obtain ⟨⟨ur, uo, uw⟩, un1⟩ := hu
        have us3 : gE = nI (tE t) := ur.1.2.2.1
        have us5 : gO = nI (pO pl) := uo
        subst us3 us5
        rw [g0] at z
        refine seg_order (cn := cn) wf rm (Nat.le_refl _) hE hO q1 q2 un1 (by rw [agr p q1]; exact mp) (fun i h1 h2 => by rw [agr i h2]; exact mi i h1 h2) (fun y => absurd z y) (fun _ _ wh' b1 b2 => kk _ ⟨⟨ur, rfl, fun i hi2 hk => ?_⟩, un1⟩)
        have hi2 : i < pS pl + (L1 ++ L2).length := hi2
        have hk : (if i < pS pl then pK pl i else ((L1 ++ L2).getD (i - pS pl) (0, 0)).1) = 19 ∨ (if i < pS pl then pK pl i else ((L1 ++ L2).getD (i - pS pl) (0, 0)).1) = 20 ∨ (if i < pS pl then pK pl i else ((L1 ++ L2).getD (i - pS pl) (0, 0)).1) = 22 := hk
        show wh' (if i < pS pl then tk i else ((L1 ++ L2).getD (i - pS pl) (0, 0)).2) = (if i < pS pl then pD pl i else cDt x (tE t) cn ((L1 ++ L2).getD (i - pS pl) (0, 0)))
        by_cases y : i < pS pl
        · rw [if_pos y] at hk
          rw [if_pos y, if_pos y, b1 _ (by have := ((g8.2 i y).2.2 hk).2; omega)]
          exact uw i y hk
        · rw [if_neg y] at hk
          rw [if_neg y, if_neg y]
          have b := l3 _ (getD_mem (by omega)) hk
          rw [b2 _ b.1 b.2.1 b.2.2, cDt_e hk]
      · have lt9 := kN_lt wf (p := q) q2 (by omega)
        rw [m15]
        refine ih (q + 1) (by omega) (by omega) _ _ _ _ _ _ _ _ _ _ _ _ _ _ _ _ _ _ _ _ _ _ _ _ _ _ _ _ ⟨e1ne, by omega, wt, rt, by omega, by omega, by omega, by omega, fun i h1 h2 => hi i (by omega) h2, fun _ => ⟨?_, wn.1, rfl, rfl, rfl, rfl, wn.2, rPc_new g7 okd, ?_⟩⟩
        · rw [e1e]; exact g0
        · refine rel1_le (rel1_new g8 q1 o16 g6 l3 (fun i a b => ⟨by rw [un b, un a], by rw [un b, un a]⟩) ?_ ?_ us us) (by omega)
          · rw [un (by omega), us]
          · rw [un (by omega), us]
    · refine fin_S (e1 := erF x (bdN x (tE t) cn) (p + 1) q (ck x (decide (16 ≤ O)) 4 p e)) (t1 := t) (c1 := (nI (tE t), nI (tF t), cn, Fr, To, Co, Cu, De, Fi, Sp, nI O, nI (m + (L1 ++ L2).length), Ok, Se, Te, apF cKd sK m (L1 ++ L2), apF (cDt x (tE t) cn) sD m (L1 ++ L2))) (pl1 := pl) (tk1 := tk) (cn1 := cn) wf rc rm hp h47 he e1ne hc q1 q2 rfl rfl (fun K kk => cl_order h (cs e O m Ok Se Te sK sD _ he hO hm (fun e1 hq => ⟨fun y _ => absurd (by rw [← hq]; exact y) z, fun y => by rw [hq]; exact kk⟩))) lm lo (fun y => ?_) (fun y => erF_pos (ck_pos (by decide) y)) (fun ez me' od' gd' gb' ge' go' gw' gm' agr K tp sz ea u hu => ⟨fun y kk => ?_, fun y => absurd y z⟩) (hi q (Nat.le_refl q) q2) (fun h33 => ?_)
      · rw [ck_err y, erF_err y]
      · obtain ⟨g0, g1, g2, g3, g4, g5, g6, g7, g8⟩ := hg ez
        obtain ⟨wh, isS, itS, gs, gst, gE, em, be, en, gF, gIs, gCu, gWh, gFi, gSp, gO⟩ := u
        obtain ⟨⟨ur, uo, uw⟩, un1⟩ := hu
        have us3 : gE = nI (tE t) := ur.1.2.2.1
        have us5 : gO = nI O := by rw [g2]; exact uo
        subst us3 us5
        rw [g0] at z kk
        exact seg_order (cn := cn) wf rm (Nat.le_refl _) hE hO q1 q2 un1 (by rw [agr p q1]; exact mp) (fun i h1 h2 => by rw [agr i h2]; exact mi i h1 h2) (fun _ => kk) (fun y _ => absurd y z)
      · have lt9 := kN_lt wf (p := q) q2 (by omega)
        exact ih (q + 1) (by omega) (by omega) _ _ _ _ _ _ _ _ _ _ _ _ _ _ _ _ _ _ _ _ _ _ _ _ _ _ _ _ ⟨e1ne, by omega, wt, rt, hO, by omega, by omega, by omega, fun i h1 h2 => hi i (by omega) h2, fun y => absurd y z⟩
theorem bk_end (wf : wfN x) (rm : rNm x mk fr va) (hp : p ≤ nN x) (h : kN x p = 47) (H : HY x p e t O m ctr Om mm cn Fr To Co Cu De Fi Sp Ok Se Te sK sD me gd gb ge go gw pl tk) : BO x ki st nu mk fr na va p e t (nI (tE t), nI (tF t), cn, Fr, To, Co, Cu, De, Fi, Sp, nI O, nI m, Ok, Se, Te, sK, sD) ctr Om mm me gd gb ge go gw pl tk cn := by
  have n4 := wf.1
  obtain ⟨he, hc, wt, rt, hO, hm, hmm, hOm, hme0, hg⟩ := H
  have pn : p = nN x := by
    rcases Nat.lt_or_ge p (nN x) with y | y
    · have := wf.2.2.2.1 p y
      omega
    · omega
  have rb : ∀ (K : Int32 → CKt → Prop) Ab Al nx, K e.1 (ki, st, nu, na, nI (nN x + 1), nx, nI p, nI (kN x p), e.1, e.2, nI (tN t), nI (tM t), nI (tE t), nI (tF t), cn, Fr, To, Co, Cu, De, Fi, Sp, nI O, nI m, Ok, Se, Te, sK, sD) → RB K Ab Al ki st nu na (nI (nN x + 1)) nx (nI (tN t)) (nI (tM t)) (nI p) (nI (kN x p)) e.1 e.2 (nI (tE t), nI (tF t), cn, Fr, To, Co, Cu, De, Fi, Sp, nI O, nI m, Ok, Se, Te, sK, sD) ctr := by
    intro K Ab Al nx kk
    refine ⟨1, ?_⟩
    unfold wX3_read_58
    exact ⟨fun _ => kk, fun _ => br_t (by rw [h]; rfl) kk⟩
  refine Or.inr ⟨me, nI Om, gd, gb, ge, go, gw, nI mm, fun K kk => ⟨1, ?_⟩, fun _ _ => rfl, ?_⟩
  · unfold wX10_isBook_47
    refine ⟨vp_in_nI (by omega) (by decide), br_t ?_ ?_⟩
    · rw [nI_clamp (by omega), (rm p hp).1, h]; rfl
    · rw [pn]; exact kk
  · by_cases z : e.1 = 0
    · obtain ⟨g0, g1, g2, g3, g4, g5, g6, g7, g8⟩ := hg z
      refine Or.inr ⟨z, t, pl, tk, wt, ⟨g1, g6, fun i hi => (g7.2.2 i hi).2.2⟩, by rw [g4], fun K Ab Al nx kk => rb K Ab Al nx ?_, by rw [← pn]; exact g8, fun K tp sz ea u hu kk => by rw [← pn] at kk ⊢; exact kk u hu.1⟩
      rw [g0]
      exact kk _ _ _ _ _ _ _ _ _ ⟨rt, g7⟩
    · refine Or.inl ⟨e, ⟨z, fun y => y⟩, fun _ => rfl, fun K Ab Al nx kk => rb K Ab Al nx (kk _ _ _ _ _ _ _ _ _ _), fun y => absurd y z⟩
theorem book (wf : wfN x) (rc : rNc x ki st nu na) (rm : rNm x mk fr va) : ∀ (g p : Nat), p ≤ nN x → nN x - p ≤ g → ∀ (e : Int32 × Int32) (t : Tl) (O m ctr Om mm : Nat) (cn : Nat → Int64) (Fr To Co Cu De Fi Sp Ok Se Te sK sD me gd gb ge go gw : Nat → Int32) (pl : Pn) (tk : Nat → Nat), HY x p e t O m ctr Om mm cn Fr To Co Cu De Fi Sp Ok Se Te sK sD me gd gb ge go gw pl tk → BO x ki st nu mk fr na va p e t (nI (tE t), nI (tF t), cn, Fr, To, Co, Cu, De, Fi, Sp, nI O, nI m, Ok, Se, Te, sK, sD) ctr Om mm me gd gb ge go gw pl tk cn := by
  intro g
  induction g with
  | zero =>
    intro p hp hg e t O m ctr Om mm cn Fr To Co Cu De Fi Sp Ok Se Te sK sD me gd gb ge go gw pl tk H
    have pn : p = nN x := by omega
    by_cases h47 : kN x p = 47
    · exact bk_end wf rm hp h47 H
    · have k48 : kN x p = 48 := by
        have := wf.2.1
        rw [← pn] at this
        omega
      obtain ⟨he, hc, wt, rt, hO, hm, hmm, hOm, hme0, hg⟩ := H
      exact fin_F wf rm hp h47 he hc (q := p) hp (fun K kk => cl_no wf rc hp he (by omega) kk) (fun K kk => m_line_no wf rm hp (by omega) kk)
  | succ g ih =>
    intro p hp hg e t O m ctr Om mm cn Fr To Co Cu De Fi Sp Ok Se Te sK sD me gd gb ge go gw pl tk H
    have ih' : ∀ q, p < q → q ≤ nN x → ∀ (e : Int32 × Int32) (t : Tl) (O m ctr Om mm : Nat) (cn : Nat → Int64) (Fr To Co Cu De Fi Sp Ok Se Te sK sD me gd gb ge go gw : Nat → Int32) (pl : Pn) (tk : Nat → Nat), HY x q e t O m ctr Om mm cn Fr To Co Cu De Fi Sp Ok Se Te sK sD me gd gb ge go gw pl tk → BO x ki st nu mk fr na va q e t (nI (tE t), nI (tF t), cn, Fr, To, Co, Cu, De, Fi, Sp, nI O, nI m, Ok, Se, Te, sK, sD) ctr Om mm me gd gb ge go gw pl tk cn := fun q a b => ih q b (by omega)
    by_cases h47 : kN x p = 47
    · exact bk_end wf rm hp h47 H
    by_cases h2 : kN x p = 2
    · exact bk_emp wf rc rm hp h2 H ih'
    by_cases h5 : kN x p = 5
    · exact bk_coin wf rc rm hp h5 H ih'
    by_cases h6 : kN x p = 6
    · exact bk_crumb wf rc rm hp h6 H ih'
    by_cases h7 : kN x p = 7
    · exact bk_spring wf rc rm hp h7 H ih'
    by_cases ho : kN x p = 11 ∨ kN x p = 12 ∨ kN x p = 13
    · exact bk_order wf rc rm hp ho H ih'
    · obtain ⟨he, hc, wt, rt, hO, hm, hmm, hOm, hme0, hg⟩ := H
      exact fin_F wf rm hp h47 he hc (q := p) hp (fun K kk => cl_no wf rc hp he (by omega) kk) (fun K kk => m_line_no wf rm hp (by omega) kk)
end BK2
