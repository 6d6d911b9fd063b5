/-! PURE: the law's own sofa: one cell of it changes; a top goes. -/
section SDIG
variable {Z : gZ} {H : gH} {ad : Nat → Nat} {t : Tl} {a : Sg} {pr : Nat → Bool} {fa : Nat → Nat} {dy ca du sl : Int32}
theorem sm_at (hI : smI ad t) {i j : Nat} {e : va_E} (hi : uA t i) (hj : uA t j) (hn : i ≠ j) {c : va_E} (h : hpG H (ad i) = some c) : hpG (hpS H (ad j) e) (ad i) = some c := by
  rw [hpG_sn (fun z => hn (hI i j hi hj z))]
  exact h
/-- a find's state -/
theorem sm_setF (S : SimAt Z H ad t a pr fa dy ca du sl) (wt : wfT t) {v x : Nat} (hv : v < tF t) {g : Nat → Int32} (hg : hpG H (ad (30 + v)) = some (iE (zY Z 1) 4 g)) : SimAt Z (hpS H (ad (30 + v)) (iE (zY Z 1) 4 (upd g 3 (nI x)))) ad t a pr (va_up fa v x) dy ca du sl := by
  obtain ⟨h0, ⟨f1, h1, h1'⟩, hR, hC, ⟨f2, h2, h2'⟩, hD, ⟨f3, h3, h3'⟩, hG, ⟨f4, h4, h4'⟩, ⟨hI, hL⟩, ht⟩ := S
  have uv : uA t (30 + v) := uA_f hv
  have n8 := wt.1.2
  have e6 := wt.2.2.1
  have f24 := wt.2.2.2.1
  refine ⟨sm_at hI (uA_7 (by omega)) uv (by omega) h0, ⟨f1, sm_at hI (uA_7 (by omega)) uv (by omega) h1, h1'⟩, fun s hs => ?_, fun c hc => ?_, ⟨f2, sm_at hI (uA_7 (by omega)) uv (by omega) h2, h2'⟩, fun i hi => ?_, ⟨f3, sm_at hI (uA_7 (by omega)) uv (by omega) h3, h3'⟩, fun i hi => ?_, ⟨f4, sm_at hI (uA_7 (by omega)) uv (by omega) h4, h4'⟩, ⟨hI, fun i h5 h7 => ?_⟩, ht⟩
  · obtain ⟨f, e1, e2⟩ := hR s hs
    exact ⟨f, sm_at hI (uA_s hs) uv (by omega) e1, e2⟩
  · obtain ⟨f, e1, e2⟩ := hC c hc
    exact ⟨f, sm_at hI (uA_c hc) uv (by omega) e1, e2⟩
  · obtain ⟨f, e1, e2, e3, e4, e5⟩ := hD i hi
    by_cases z : i = v
    · subst z
      have eg : f = g := by
        have := e1.symm.trans hg
        simp only [Option.some.injEq, Sum.inl.injEq, Prod.mk.injEq, true_and] at this
        exact this
      subst eg
      refine ⟨_, hpG_s e1, ?_, ?_, ?_, ?_⟩
      · rw [pk_un (by decide), e2]
      · rw [pk_un (by decide), e3]
      · rw [pk_un (by decide), e4]
      · rw [pk_us, show va_up fa i x i = x from if_pos rfl]
    · refine ⟨f, sm_at hI (uA_f hi) uv (by omega) e1, e2, e3, e4, ?_⟩
      rw [show va_up fa v x i = fa i from if_neg z]
      exact e5
  · obtain ⟨f, e1, e2⟩ := hG i hi
    exact ⟨f, sm_at hI (uA_e hi) uv (by omega) e1, e2⟩
  · obtain ⟨c, e1⟩ := hL i h5 h7
    exact ⟨c, sm_at hI (uA_7 h7) uv (by omega) e1⟩
/-- a prop -/
theorem sm_setP (S : SimAt Z H ad t a pr fa dy ca du sl) {v : Nat} {x : Bool} {g : Nat → Int32} (hg : hpG H (ad 4) = some (iE (zY Z 3) (tN t) g)) : SimAt Z (hpS H (ad 4) (iE (zY Z 3) (tN t) (upd g v (zB1w x)))) ad t a (va_up pr v x) fa dy ca du sl := by
  obtain ⟨h0, ⟨f1, h1, h1'⟩, hR, hC, ⟨f2, h2, h2'⟩, hD, ⟨f3, h3, h3'⟩, hG, ⟨f4, h4, h4'⟩, ⟨hI, hL⟩, ht⟩ := S
  have uv : uA t 4 := uA_7 (by omega)
  refine ⟨sm_at hI (uA_7 (by omega)) uv (by omega) h0, ⟨f1, sm_at hI (uA_7 (by omega)) uv (by omega) h1, h1'⟩, fun s hs => ?_, fun c hc => ?_, ⟨f2, sm_at hI (uA_7 (by omega)) uv (by omega) h2, h2'⟩, fun i hi => ?_, ⟨f3, sm_at hI (uA_7 (by omega)) uv (by omega) h3, h3'⟩, fun i hi => ?_, ⟨_, hpG_s h4, ?_⟩, ⟨hI, fun i h5 h7 => ?_⟩, ht⟩
  · obtain ⟨f, e1, e2⟩ := hR s hs
    exact ⟨f, sm_at hI (uA_s hs) uv (by omega) e1, e2⟩
  · obtain ⟨f, e1, e2⟩ := hC c hc
    exact ⟨f, sm_at hI (uA_c hc) uv (by omega) e1, e2⟩
  · obtain ⟨f, e1, e2⟩ := hD i hi
    exact ⟨f, sm_at hI (uA_f hi) uv (by omega) e1, e2⟩
  · obtain ⟨f, e1, e2⟩ := hG i hi
    exact ⟨f, sm_at hI (uA_e hi) uv (by omega) e1, e2⟩
  · have eg : f4 = g := by
      have := h4.symm.trans hg
      simp only [Option.some.injEq, Sum.inl.injEq, Prod.mk.injEq, true_and] at this
      exact this
    subst eg
    exact rB_up h4' v x
  · obtain ⟨c, e1⟩ := hL i h5 h7
    exact ⟨c, sm_at hI (uA_7 h7) uv (by omega) e1⟩
/-- the highest of seat s is away: a row made anew at q -/
theorem sm_drop (S : SimAt Z H ad t a pr fa dy ca du sl) (wt : wfT t) (w : wfS (tN t) a) {s q : Nat} (hs : s < tN t) (h0s : 0 < a.2.1 s) {H1 : gH} {f g : Nat → Option Nat} (hq : hpG H q = none) (hF : Fr (fun _ => False) H H1) (hg : hpG H1 q = some (qE (zY Z 4) (a.2.1 s - 1) g)) (hgj : ∀ j, j < a.2.1 s - 1 → g j = some (ad (60 + a.1 (s * 10 + j)))) (h1 : hpG H (ad 1) = some (qE (zY Z 5) (tN t) f)) (hf : ∀ u, u < tN t → f u = some (ad (10 + u))) : SimAt Z (hpS H1 (ad 1) (qE (zY Z 5) (tN t) (va_up f s (some q)))) (va_up ad (10 + s) q) t (dg1 a s) pr fa dy ca du sl := by
  have S0 := S
  obtain ⟨h0, -, hR, hC, ⟨f2, h2, h2'⟩, hD, ⟨f3, h3, h3'⟩, hG, ⟨f4, h4, h4'⟩, ⟨hI, hL⟩, ht⟩ := S
  have n8 := wt.1.2
  have e6 := wt.2.2.1
  have f24 := wt.2.2.2.1
  have adO : ∀ i, i ≠ 10 + s → va_up ad (10 + s) q i = ad i := fun i z => if_neg z
  have adS : va_up ad (10 + s) q (10 + s) = q := if_pos rfl
  have nq : ∀ i, uA t i → ad i ≠ q := fun i hi => by
    obtain ⟨c, hc, -⟩ := sm_live S0 hi
    exact ne_fresh hc hq
  have st : ∀ i c, uA t i → i ≠ 1 → hpG H (ad i) = some c → hpG (hpS H1 (ad 1) (qE (zY Z 5) (tN t) (va_up f s (some q)))) (ad i) = some c := fun i c hi hn h => sm_at hI hi (uA_7 (by omega)) hn (hF _ _ h (fun z => z))
  have q5 : hpG (hpS H1 (ad 1) (qE (zY Z 5) (tN t) (va_up f s (some q)))) q = some (qE (zY Z 4) (a.2.1 s - 1) g) := by
    rw [hpG_sn (Ne.symm (nq 1 (uA_7 (by omega))))]
    exact hg
  refine ⟨?_, ⟨va_up f s (some q), ?_, fun u hu => ?_⟩, fun u hu => ?_, fun c hc => ?_, ⟨f2, ?_, fun i hi => ?_⟩, fun i hi => ?_, ⟨f3, ?_, fun i hi => ?_⟩, fun i hi => ?_, ⟨f4, ?_, h4'⟩, ⟨fun i j hi hj e => ?_, fun i h5 h7 => ?_⟩, fun u j hj => ?_⟩
  · show hpG _ _ = some (.inr (8, smV _ t dy ca du sl))
    rw [adO 0 (by omega), st 0 _ (uA_7 (by omega)) (by omega) h0]
    show some (Sum.inr (8, smV ad t dy ca du sl)) = _
    unfold smV
    rw [adO 1 (by omega), adO 2 (by omega), adO 3 (by omega), adO 4 (by omega), adO 5 (by omega), adO 6 (by omega), adO 7 (by omega)]
  · rw [adO 1 (by omega)]
    exact hpG_s (hF _ _ h1 (fun z => z))
  · by_cases z : u = s
    · rw [z, adS]; exact if_pos rfl
    · rw [adO _ (by omega), show va_up f s (some q) u = f u from if_neg z]
      exact hf u hu
  · by_cases z : u = s
    · subst z
      rw [adS, show (dg1 a u).2.1 u = a.2.1 u - 1 from if_pos rfl]
      exact ⟨g, q5, fun j hj => by rw [adO _ (by omega)]; exact hgj j hj⟩
    · obtain ⟨r, e1, e2⟩ := hR u hu
      rw [adO _ (by omega), show (dg1 a s).2.1 u = a.2.1 u from if_neg z]
      exact ⟨r, st _ _ (uA_s hu) (by omega) e1, fun j hj => by rw [adO _ (by have := w.1 u; omega)]; exact e2 j hj⟩
  · obtain ⟨r, e1, e2⟩ := hC c hc
    exact ⟨r, by rw [adO _ (by omega)]; exact st _ _ (uA_c hc) (by omega) e1, e2⟩
  · rw [adO _ (by omega)]; exact st _ _ (uA_7 (by omega)) (by omega) h2
  · rw [adO _ (by omega)]; exact h2' i hi
  · obtain ⟨r, e1, e2⟩ := hD i hi
    exact ⟨r, by rw [adO _ (by omega)]; exact st _ _ (uA_f hi) (by omega) e1, e2⟩
  · rw [adO _ (by omega)]; exact st _ _ (uA_7 (by omega)) (by omega) h3
  · rw [adO _ (by omega)]; exact h3' i hi
  · obtain ⟨r, e1, e2⟩ := hG i hi
    exact ⟨r, by rw [adO _ (by omega)]; exact st _ _ (uA_e hi) (by omega) e1, e2⟩
  · rw [adO _ (by omega)]; exact st _ _ (uA_7 (by omega)) (by omega) h4
  · by_cases z : i = 10 + s
    · by_cases z2 : j = 10 + s
      · omega
      · rw [z, adS, adO j z2] at e
        exact absurd e.symm (nq j hj)
    · by_cases z2 : j = 10 + s
      · rw [z2, adS, adO i z] at e
        exact absurd e (nq i hi)
      · rw [adO i z, adO j z2] at e
        exact hI i j hi hj e
  · obtain ⟨c, e1⟩ := hL i h5 h7
    exact ⟨c, by rw [adO _ (by omega)]; exact st _ _ (uA_7 h7) (by omega) e1⟩
  · refine ht u j ?_
    by_cases z : u = s
    · subst z
      rw [show (dg1 a u).2.1 u = a.2.1 u - 1 from if_pos rfl] at hj
      omega
    · rw [show (dg1 a s).2.1 u = a.2.1 u from if_neg z] at hj
      exact hj
end SDIG
