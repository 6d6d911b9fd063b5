/-! PURE: the law's own sofa: a dig. -/
section SDIGS
variable {Z : gZ} {H : gH} {ad : Nat → Nat} {t : Tl} {a b : Sg} {pr : Nat → Bool} {fa : Nat → Nat} {dy ca du sl : Int32}
theorem sm_dig {K : Int32 → gH → Prop} {s k bc bs : Nat} (S : SimAt Z H ad t a pr fa dy ca du sl) (wt : wfT t) (wg : wfG t a pr fa) (hs : s < tN t) (h0s : 0 < a.2.1 s) (hst : Stl (tSp t) pr (tN t) k (dg1 a s) b) (hbc : 1 + 2 * k ≤ bc) (hbs : 10 + 20 * k ≤ bs)
    (fin : ∀ H' ad', SimAt Z H' ad' t b pr (dgF t a fa s) dy ca (du + 1) (sl + nI k) → Fr (smX t ad) H H' → (∀ i, i < 10 ∨ 20 ≤ i → ad' i = ad i) → K (fI (tFi t (tp a s))) H') : wX9_dig Z H bc bs (ad 0) (nI s) K := by
  have w := wg.1
  have n8 := wt.1.2
  have s10 := w.1 s
  have f24 := wt.2.2.2.1
  obtain ⟨f, h1, hf⟩ := S.2.1
  obtain ⟨rs, q1, q2⟩ := S.2.2.1 s hs
  have htp : clT t (tp a s) := sm_top S h0s
  have g1 := gF_of (k := 1) S.1 (rfl : (smV ad t dy ca du sl)[1]? = some (.ref (ad 1)))
  have es : (nI s).toNatClampNeg = s := nI_clamp (by omega)
  have is := vp_in_nI hs (by omega)
  have hfs : f (nI s).toNatClampNeg = some (ad (10 + s)) := by rw [es]; exact hf s hs
  have e9 : nI (a.2.1 s) - 1 = nI (a.2.1 s - 1) := nI_dec h0s
  have i1 : (1 : Int32).toNatClampNeg = 1 := rfl
  have i3 : (3 : Int32).toNatClampNeg = 3 := rfl
  unfold wX9_dig
  refine ⟨_, g1, _, f, _, h1, is, hfs, _, g1, _, f, _, h1, is, hfs, _, rs, q1, _, rs, ad (60 + tp a s), q1, by rw [e9]; exact vp_in_nI (by omega) (by omega), by rw [e9, nI_clamp (by omega)]; exact q2 _ (by omega), _, g1, _, g1, _, f, _, h1, is, hfs, 1, 10, by omega, by omega, ?_⟩
  refine hz_less q1 h0s (by omega) (fun j hj => ?_) (by omega) (by omega) (fun q H1 g nq a40 b40 F => ?_)
  · obtain ⟨r, e1, -⟩ := S.2.2.2.1 _ (S.2.2.2.2.2.2.2.2.2.2 s j hj)
    exact ⟨_, _, _, q2 j hj, e1⟩
  · refine ⟨_, f, _, g, F _ _ h1 (fun z => z), is, a40, ?_⟩
    rw [es]
    have S2 := sm_drop S wt w hs h0s nq F a40 (fun j hj => by rw [b40 j hj]; exact q2 j (by omega)) h1 hf
    obtain ⟨ad2, hA⟩ : ∃ x, x = va_up ad (10 + s) q := ⟨_, rfl⟩
    have eA : ∀ i, i < 10 ∨ 20 ≤ i → ad2 i = ad i := fun i hi => by
      rw [hA]
      exact if_neg (by omega)
    have F2 : Fr (smX t ad) H (hpS H1 (ad 1) (qE (zY Z 5) (tN t) (va_up f s (some q)))) := (F.mono (fun _ z => z.elim)).trans (Fr.s (Or.inr (Or.inl rfl)))
    rw [← hA] at S2
    generalize hpS H1 (ad 1) (qE (zY Z 5) (tN t) (va_up f s (some q))) = H2 at S2 F2 ⊢
    have sE : ∀ x, smX t ad2 x → smX t ad x := fun x hx => (smX_eq eA).mp hx
    obtain ⟨r, c1, c2, c3, c4, c5⟩ := S2.2.2.2.1 _ htp
    rw [← eA 0 (by omega), ← eA (60 + tp a s) (by omega)]
    have d53 : ∀ (H3 : gH), SimAt Z H3 ad2 t (dg1 a s) pr (dgF t a fa s) dy ca du sl → Fr (smX t ad) H H3 → wX9_dig_53 K Z H3 (bc - 1) (bs - 10) (ad2 0) (ad2 (60 + tp a s)) := fun H3 S3 F3 => by
      unfold wX9_dig_53
      refine ⟨du, gF_of S3.1 rfl, _, S3.1, by simp, ⟨⟨_, hpG_s S3.1⟩, bc - 1, bs - 10, Nat.le_refl _, Nat.le_refl _, ?_⟩⟩
      refine sm_settle_ex wt hst (wfG_dg wt wg hs h0s).1 (sm_set0 dy ca (du + 1) sl S3) (by omega) (by omega) (fun H' ad' S' F' ea => ?_)
      obtain ⟨r', d1, -, d3, -⟩ := S'.2.2.2.1 _ htp
      rw [ea _ (by omega)] at d1
      refine ⟨4, r', d1, by unfold vp_in; decide, ?_⟩
      rw [i1, d3]
      exact fin H' ad' S' ((F3.trans ((fr_set0 (t := t) (ad := ad2)).mono sE)).trans (F'.mono sE)) (fun i hi => (ea i hi).trans (eA i hi))
    refine ⟨4, r, c1, by unfold vp_in; decide, ?_⟩
    rw [i1, c3]
    cases e : tFi t (tp a s) with
    | none =>
      refine br_t (show (-1 : Int32) < 0 by decide) (d53 H2 ?_ F2)
      rw [show dgF t a fa s = fa by unfold dgF; rw [e]]
      exact S2
    | some v =>
      have hv := (wt.2.2.2.2.2.1 _ v (clT_80 wt htp) e).1
      obtain ⟨f2, h2, h2'⟩ := S2.2.2.2.2.1
      obtain ⟨gv, k1, -⟩ := S2.2.2.2.2.2.1 v hv
      have ev : (nI v).toNatClampNeg = v := nI_clamp (by omega)
      have c3' : r (1 : Int32).toNatClampNeg = nI v := by rw [i1, c3, e]; rfl
      refine br_f (show ¬ nI v < 0 from nI_pos (by omega)) ⟨_, gF_of S2.1 rfl, 4, r, c1, by unfold vp_in; decide, _, f2, ad2 (30 + v), h2, ?_, ?_, 4, r, c1, by unfold vp_in; decide, 4, gv, k1, by unfold vp_in; decide, ?_⟩
      · rw [c3, e]
        exact vp_in_nI hv (by omega)
      · rw [c3, e]
        show f2 (nI v).toNatClampNeg = _
        rw [ev]
        exact h2' v hv
      · rw [i3, c5]
        have e2 : (2 : Int32) - zB1w ((dg1 a s).2.2 (tp a s)) = nI (if a.2.2 (tp a s) = true then 1 else 2) := by
          show (2 : Int32) - zB1w (a.2.2 (tp a s)) = _
          cases a.2.2 (tp a s) <;> rfl
        rw [e2]
        refine d53 _ ?_ (F2.trans (Fr.s (Or.inr (Or.inr (Or.inr (Or.inr ⟨v, hv, eA _ (by omega)⟩))))))
        rw [show dgF t a fa s = va_up fa v (if a.2.2 (tp a s) = true then 1 else 2) by unfold dgF; rw [e]]
        exact sm_setF S2 wt hv k1
end SDIGS
