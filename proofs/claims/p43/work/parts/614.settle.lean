/-! PURE: the law's own sofa settles. -/
section SETL
variable {Z : gZ} {H : gH} {ad : Nat → Nat} {t : Tl} {a b : Sg} {pr : Nat → Bool} {fa : Nat → Nat} {dy ca du sl : Int32}
/-- every place stands, and holds no node of a tree -/
theorem sm_live (S : SimAt Z H ad t a pr fa dy ca du sl) {i : Nat} (hi : uA t i) : ∃ c, hpG H (ad i) = some c ∧ ∀ fs, c ≠ .inr (9, fs) := by
  obtain ⟨h0, ⟨f1, h1, -⟩, hR, hC, ⟨f2, h2, -⟩, hD, ⟨f3, h3, -⟩, hG, ⟨f4, h4, -⟩, ⟨-, hL⟩, -⟩ := S
  rcases hi with z | z | z | z | z
  · obtain z | z | z | z | z | z : i = 0 ∨ i = 1 ∨ i = 2 ∨ i = 3 ∨ i = 4 ∨ (5 ≤ i ∧ i ≤ 7) := by omega
    · subst z
      exact ⟨_, h0, fun fs y => by cases y⟩
    · subst z
      exact ⟨_, h1, fun fs y => by cases y⟩
    · subst z
      exact ⟨_, h2, fun fs y => by cases y⟩
    · subst z
      exact ⟨_, h3, fun fs y => by cases y⟩
    · subst z
      exact ⟨_, h4, fun fs y => by cases y⟩
    · obtain ⟨c, hc⟩ := hL i z.1 z.2
      exact ⟨_, hc, fun fs y => by cases y⟩
  · obtain ⟨f, hf, -⟩ := hR (i - 10) (by omega)
    rw [show 10 + (i - 10) = i by omega] at hf
    exact ⟨_, hf, fun fs y => by cases y⟩
  · obtain ⟨f, hf, -⟩ := hG (i - 20) (by omega)
    rw [show 20 + (i - 20) = i by omega] at hf
    exact ⟨_, hf, fun fs y => by cases y⟩
  · obtain ⟨f, hf, -⟩ := hD (i - 30) (by omega)
    rw [show 30 + (i - 30) = i by omega] at hf
    exact ⟨_, hf, fun fs y => by cases y⟩
  · obtain ⟨f, hf, -⟩ := hC (i - 60) ⟨z.2.1, z.2.2⟩
    rw [show 60 + (i - 60) = i by omega] at hf
    exact ⟨_, hf, fun fs y => by cases y⟩
/-- the places that a deed may change -/
def smX (t : Tl) (ad : Nat → Nat) (b : Nat) : Prop := b = ad 0 ∨ b = ad 1 ∨ b = ad 4 ∨ (∃ c, clT t c ∧ b = ad (60 + c)) ∨ ∃ f, f < tF t ∧ b = ad (30 + f)
theorem uA_c {t : Tl} {c : Nat} (h : clT t c) : uA t (60 + c) := Or.inr (Or.inr (Or.inr (Or.inr ⟨by omega, by rw [show 60 + c - 60 = c by omega]; exact h.1, by rw [show 60 + c - 60 = c by omega]; exact h.2⟩)))
theorem smX_u {b : Nat} (h : smX t ad b) : ∃ i, uA t i ∧ b = ad i := by
  rcases h with h | h | h | ⟨c, h1, h⟩ | ⟨f, h1, h⟩
  · exact ⟨0, Or.inl (by omega), h⟩
  · exact ⟨1, Or.inl (by omega), h⟩
  · exact ⟨4, Or.inl (by omega), h⟩
  · exact ⟨60 + c, uA_c h1, h⟩
  · exact ⟨30 + f, Or.inr (Or.inr (Or.inr (Or.inl ⟨by omega, by omega⟩))), h⟩
theorem smX_eq {ad' : Nat → Nat} (h : ∀ i, i < 10 ∨ 20 ≤ i → ad' i = ad i) {b : Nat} : smX t ad' b ↔ smX t ad b := by
  unfold smX
  rw [h 0 (by omega), h 1 (by omega), h 4 (by omega)]
  constructor
  · rintro (z | z | z | ⟨c, h1, z⟩ | ⟨f, h1, z⟩)
    · exact Or.inl z
    · exact Or.inr (Or.inl z)
    · exact Or.inr (Or.inr (Or.inl z))
    · exact Or.inr (Or.inr (Or.inr (Or.inl ⟨c, h1, by rw [h _ (by omega)] at z; exact z⟩)))
    · exact Or.inr (Or.inr (Or.inr (Or.inr ⟨f, h1, by rw [h _ (by omega)] at z; exact z⟩)))
  · rintro (z | z | z | ⟨c, h1, z⟩ | ⟨f, h1, z⟩)
    · exact Or.inl z
    · exact Or.inr (Or.inl z)
    · exact Or.inr (Or.inr (Or.inl z))
    · exact Or.inr (Or.inr (Or.inr (Or.inl ⟨c, h1, by rw [h _ (by omega)]; exact z⟩)))
    · exact Or.inr (Or.inr (Or.inr (Or.inr ⟨f, h1, by rw [h _ (by omega)]; exact z⟩)))
theorem smX_k9 (S : SimAt Z H ad t a pr fa dy ca du sl) {H' : gH} (h : Fr (smX t ad) H H') : Kp9 H H' := Kp9.of h (fun b fs hb e => by
  obtain ⟨i, hi, rfl⟩ := smX_u hb
  obtain ⟨c, h1, h2⟩ := sm_live S hi
  exact h2 fs (Option.some.inj (h1.symm.trans e)))
/-- the top of seat o goes onto seat s -/
theorem sm_move {KL : gH → Nat → Nat → Nat → Int32 → Int32 → Prop} {K : Int32 → gH → Prop} {bc bs : Nat} {x1 : Int32} (S : SimAt Z H ad t a pr fa dy ca du sl) (wt : wfT t) (w : wfS (tN t) a) {s o : Nat} (hs : s < tN t) (ho : o < tN t) (ne : o ≠ s) (q : a.2.1 s + 3 < a.2.1 o) (hbc : 2 ≤ bc) (hbs : 20 ≤ bs)
    (k : ∀ H' ad', SimAt Z H' ad' t (mv a o s) pr fa dy ca du sl → Fr (smX t ad) H H' → (∀ i, i < 10 ∨ 20 ≤ i → ad' i = ad i) → KL H' (bc - 1 - 1) (bs - 10 - 10) (ad 0) (x1 + 1) 0) : wX9_settle_48 K KL Z H bc bs (ad 0) x1 (nI s) (nI o) := by
  have S0 := S
  obtain ⟨h0, ⟨f, h1, hf⟩, hR, hC, hF, hD, hE, hG, hP, ⟨hI, hL⟩, ht⟩ := S
  have n8 := wt.1.2
  have o10 := w.1 o
  have s10 := w.1 s
  have uS : ∀ i, i < tN t → uA t (10 + i) := fun i hi => Or.inr (Or.inl ⟨by omega, by omega⟩)
  have u7 : ∀ i, i ≤ 7 → uA t i := fun i hi => Or.inl hi
  have g1 : ∀ {H' : gH}, hpG H' (ad 0) = some (.inr (8, smV ad t dy ca du sl)) → gF H' (ad 0) 8 1 (.ref (ad 1)) := fun h => gF_of h rfl
  obtain ⟨ro, r1, r2⟩ := hR o ho
  obtain ⟨rs, q1, q2⟩ := hR s hs
  have htp : clT t (tp a o) := ht o _ (by omega)
  obtain ⟨c, c1, c2, c3, c4, c5⟩ := hC _ htp
  have eo : (nI o).toNatClampNeg = o := nI_clamp (by omega)
  have es : (nI s).toNatClampNeg = s := nI_clamp (by omega)
  have e9 : nI (a.2.1 o) - 1 = nI (a.2.1 o - 1) := nI_dec (by omega)
  have es9 : nI s + 1 - 1 = nI s := by rw [show nI s + 1 = nI (s + 1) from nI_add s 1, nI_dec (by omega)]; rfl
  have io := vp_in_nI ho (by omega)
  have is := vp_in_nI hs (by omega)
  have i3 : (3 : Int32).toNatClampNeg = 3 := rfl
  have nad : ∀ i j, uA t i → uA t j → i ≠ j → ad i ≠ ad j := fun i j hi hj hne e => hne (hI i j hi hj e)
  unfold wX9_settle_48
  refine br_t (show (0 : Int32) ≤ nI o from nI_le (a := 0) (by omega) (by omega)) ⟨_, g1 h0, _, f, ad (10 + o), h1, io, by rw [eo]; exact hf o ho, _, g1 h0, _, f, ad (10 + o), h1, io, by rw [eo]; exact hf o ho, _, ro, r1, _, ro, ad (60 + tp a o), r1, by rw [e9]; exact vp_in_nI (by omega) (by omega), by rw [e9, nI_clamp (by omega)]; exact r2 _ (by omega), 4, c, c1, by unfold vp_in; decide, ?_⟩
  rw [i3]
  -- the cushion is loose
  generalize hH1 : hpS H (ad (60 + tp a o)) (iE (zY Z 1) 4 (upd c 3 1)) = H1
  have F1 : Fr (fun b => b = ad (60 + tp a o)) H H1 := by rw [← hH1]; exact Fr.s rfl
  have cu1 : hpG H1 (ad (60 + tp a o)) = some (iE (zY Z 1) 4 (upd c 3 1)) := by rw [← hH1]; exact hpG_s c1
  have at1 : ∀ i e, uA t i → i ≠ 60 + tp a o → hpG H (ad i) = some e → hpG H1 (ad i) = some e := fun i e hi hne h => F1 _ _ h (nad i _ hi (uA_c htp) hne)
  have h01 := at1 0 _ (u7 0 (by omega)) (by omega) h0
  have h11 := at1 1 _ (u7 1 (by omega)) (by omega) h1
  have r11 := at1 (10 + o) _ (uS o ho) (by have := clT_80 wt htp; have := htp; intro z; have h9 := uS o ho; omega) r1
  have q11 := at1 (10 + s) _ (uS s hs) (by omega) q1
  have rowOk : ∀ (H' : gH), (∀ c', clT t c' → ∃ m g, hpG H' (ad (60 + c')) = some (iE (zY Z 1) m g)) → ∀ (u n : Nat) (g : Nat → Option Nat), (∀ j, j < n → j < a.2.1 u) → (∀ j, j < a.2.1 u → g j = some (ad (60 + a.1 (u * 10 + j)))) → ∀ j, j < n → ∃ r m g', g j = some r ∧ hpG H' r = some (iE (zY Z 1) m g') := fun H' hh u n g hn hg j hj => by
    obtain ⟨m, g', e⟩ := hh _ (ht u j (hn j hj))
    exact ⟨_, m, g', hg j (hn j hj), e⟩
  have cush1 : ∀ c', clT t c' → ∃ m g, hpG H1 (ad (60 + c')) = some (iE (zY Z 1) m g) := fun c' hc' => by
    by_cases z : c' = tp a o
    · rw [z]; exact ⟨_, _, cu1⟩
    · obtain ⟨g, g9, -⟩ := hC c' hc'
      exact ⟨_, _, at1 _ _ (uA_c hc') (by omega) g9⟩
  refine ⟨_, g1 h01, _, g1 h01, _, f, ad (10 + o), h11, io, by rw [eo]; exact hf o ho, 1, 10, by omega, by omega, ?_⟩
  refine hz_less r11 (by omega) (by omega) (rowOk H1 cush1 o _ ro (fun j hj => hj) r2) (by omega) (by omega) (fun r40 H40 g40 n40 a40 b40 F40 => ?_)
  have h0b := F40 _ _ h01 (fun z => z)
  have h1b := F40 _ _ h11 (fun z => z)
  have q1b := F40 _ _ q11 (fun z => z)
  refine ⟨_, f, _, g40, h1b, io, a40, ?_⟩
  rw [eo]
  generalize hH2 : hpS H40 (ad 1) (qE (zY Z 5) (tN t) (va_up f o (some r40))) = H2
  have F2 : Fr (fun b => b = ad 1) H40 H2 := by rw [← hH2]; exact Fr.s rfl
  have h12 : hpG H2 (ad 1) = some (qE (zY Z 5) (tN t) (va_up f o (some r40))) := by rw [← hH2]; exact hpG_s h1b
  have ne1 : ∀ i, uA t i → i ≠ 1 → ad i ≠ ad 1 := fun i hi hne => nad i 1 hi (u7 1 (by omega)) hne
  have h02 := F2 _ _ h0b (ne1 0 (u7 0 (by omega)) (by omega))
  have q12 := F2 _ _ q1b (ne1 (10 + s) (uS s hs) (by omega))
  have r40ad1 : r40 ≠ ad 1 := (ne_fresh h11 n40).symm
  have a402 := F2 _ _ a40 r40ad1
  have fs2 : va_up f o (some r40) s = some (ad (10 + s)) := by
    unfold va_up
    rw [if_neg (Ne.symm ne)]
    exact hf s hs
  have cush2 : ∀ c', clT t c' → ∃ m g, hpG H2 (ad (60 + c')) = some (iE (zY Z 1) m g) := fun c' hc' => by
    obtain ⟨m, g, e⟩ := cush1 c' hc'
    exact ⟨m, g, F2 _ _ (F40 _ _ e (fun z => z)) (ne1 _ (uA_c hc') (by omega))⟩
  have cu2 := F2 _ _ (F40 _ _ cu1 (fun z => z)) (ne1 _ (uA_c htp) (by omega))
  rw [es9]
  refine ⟨_, g1 h02, _, g1 h02, _, _, ad (10 + s), h12, is, by rw [es]; exact fs2, 1, 10, by omega, by omega, ?_⟩
  refine hz_with q12 (by omega) cu2 (rowOk H2 cush2 s _ rs (fun j hj => hj) q2) (by omega) (by omega) (fun r58 H58 g58 n58 a58 b58 d58 F58 => ?_)
  have h158 := F58 _ _ h12 (fun z => z)
  refine ⟨_, _, _, g58, h158, is, a58, ?_⟩
  rw [es]
  generalize hH5 : hpS H58 (ad 1) (qE (zY Z 5) (tN t) (va_up (va_up f o (some r40)) s (some r58))) = H5
  have F5 : Fr (fun b => b = ad 1) H58 H5 := by rw [← hH5]; exact Fr.s rfl
  have h15 : hpG H5 (ad 1) = some (qE (zY Z 5) (tN t) (va_up (va_up f o (some r40)) s (some r58))) := by rw [← hH5]; exact hpG_s h158
  have r58ad1 : r58 ≠ ad 1 := (ne_fresh h12 n58).symm
  have r5840 : r58 ≠ r40 := (ne_fresh a402 n58).symm
  have a585 := F5 _ _ a58 r58ad1
  have a405 := F5 _ _ (F58 _ _ a402 (fun z => z)) r40ad1
  -- from H1 on, all but ad 1 stays
  have F15 : Fr (fun b => b = ad 1) H1 H5 := (((F40.mono (fun _ z => z.elim)).trans F2).trans (F58.mono (fun _ z => z.elim))).trans F5
  have cu5 := F15 _ _ cu1 (ne1 _ (uA_c htp) (by omega))
  have all5 : ∀ i e, uA t i → i ≠ 1 → i ≠ 60 + tp a o → hpG H (ad i) = some e → hpG H5 (ad i) = some e := fun i e hi hn1 hn2 h => F15 _ _ (at1 i e hi hn2 h) (ne1 i hi hn1)
  have live1 : ∀ i, uA t i → ∃ e, hpG H1 (ad i) = some e := fun i hi => by
    by_cases z : i = 60 + tp a o
    · rw [z]; exact ⟨_, cu1⟩
    · obtain ⟨e, h, -⟩ := sm_live S0 hi
      exact ⟨e, at1 i e hi z h⟩
  have live2 : ∀ i, uA t i → ∃ e, hpG H2 (ad i) = some e := fun i hi => by
    by_cases z : i = 1
    · rw [z]; exact ⟨_, h12⟩
    · obtain ⟨e, h⟩ := live1 i hi
      exact ⟨e, F2 _ _ (F40 _ _ h (fun z => z)) (ne1 i hi z)⟩
  have nf40 : ∀ i, uA t i → ad i ≠ r40 := fun i hi => by
    obtain ⟨e, h⟩ := live1 i hi
    exact ne_fresh h n40
  have nf58 : ∀ i, uA t i → ad i ≠ r58 := fun i hi => by
    obtain ⟨e, h⟩ := live2 i hi
    exact ne_fresh h n58
  have adO : ∀ i, i ≠ 10 + o → i ≠ 10 + s → va_up (va_up ad (10 + o) r40) (10 + s) r58 i = ad i := fun i z1 z2 => by
    unfold va_up
    rw [if_neg z2, if_neg z1]
  have adS : va_up (va_up ad (10 + o) r40) (10 + s) r58 (10 + s) = r58 := if_pos rfl
  have adT : va_up (va_up ad (10 + o) r40) (10 + s) r58 (10 + o) = r40 := by
    show (if 10 + o = 10 + s then r58 else va_up ad (10 + o) r40 (10 + o)) = r40
    rw [if_neg (by omega)]
    exact if_pos rfl
  refine k H5 (va_up (va_up ad (10 + o) r40) (10 + s) r58) ⟨?_, ?_, ?_, ?_, ?_, ?_, ?_, ?_, ?_, ⟨?_, ?_⟩, ?_⟩ ?_ (fun i hi => adO i (by omega) (by omega))
  · show hpG H5 _ = some (.inr (8, smV _ t dy ca du sl))
    rw [adO 0 (by omega) (by omega)]
    have := all5 0 _ (u7 0 (by omega)) (by omega) (by omega) h0
    rw [this]
    show some (Sum.inr (8, smV ad t dy ca du sl)) = _
    unfold smV
    rw [adO 1 (by omega) (by omega), adO 2 (by omega) (by omega), adO 3 (by omega) (by omega), adO 4 (by omega) (by omega), adO 5 (by omega) (by omega), adO 6 (by omega) (by omega), adO 7 (by omega) (by omega)]
  · refine ⟨va_up (va_up f o (some r40)) s (some r58), by rw [adO 1 (by omega) (by omega)]; exact h15, fun u hu => ?_⟩
    by_cases z : u = s
    · rw [z, adS]; exact if_pos rfl
    · by_cases z2 : u = o
      · rw [z2, adT]
        show (if o = s then some r58 else va_up f o (some r40) o) = _
        rw [if_neg ne]; exact if_pos rfl
      · rw [adO _ (by omega) (by omega)]
        show (if u = s then some r58 else (if u = o then some r40 else f u)) = _
        rw [if_neg z, if_neg z2]
        exact hf u hu
  · intro u hu
    by_cases z : u = s
    · subst z
      rw [adS]
      have eh : (mv a o u).2.1 u = a.2.1 u + 1 := if_pos rfl
      rw [eh]
      refine ⟨g58, a585, fun j hj => ?_⟩
      have ec : ∀ c', va_up (va_up ad (10 + o) r40) (10 + u) r58 (60 + c') = ad (60 + c') := fun c' => adO _ (by omega) (by omega)
      rw [ec]
      by_cases z2 : j = a.2.1 u
      · rw [z2, d58]
        show _ = some (ad (60 + va_up a.1 (u * 10 + a.2.1 u) (a.1 (o * 10 + (a.2.1 o - 1))) (u * 10 + a.2.1 u)))
        rw [show va_up a.1 (u * 10 + a.2.1 u) (a.1 (o * 10 + (a.2.1 o - 1))) (u * 10 + a.2.1 u) = a.1 (o * 10 + (a.2.1 o - 1)) from if_pos rfl]
        rfl
      · rw [b58 j (by omega), q2 j (by omega)]
        show _ = some (ad (60 + va_up a.1 (u * 10 + a.2.1 u) (a.1 (o * 10 + (a.2.1 o - 1))) (u * 10 + j)))
        rw [show va_up a.1 (u * 10 + a.2.1 u) (a.1 (o * 10 + (a.2.1 o - 1))) (u * 10 + j) = a.1 (u * 10 + j) from if_neg (by omega)]
    · have em : ∀ j, j < 10 → (mv a o s).1 (u * 10 + j) = a.1 (u * 10 + j) := fun j hj => if_neg (by omega)
      by_cases z2 : u = o
      · subst z2
        rw [adT]
        have eh : (mv a u s).2.1 u = a.2.1 u - 1 := by
          show (if u = s then _ else va_up a.2.1 u (a.2.1 u - 1) u) = _
          rw [if_neg z]; exact if_pos rfl
        rw [eh]
        refine ⟨g40, a405, fun j hj => ?_⟩
        rw [em j (by omega), adO _ (by omega) (by omega), b40 j hj]
        exact r2 j (by omega)
      · rw [adO _ (by omega) (by omega)]
        have eh : (mv a o s).2.1 u = a.2.1 u := by
          show (if u = s then _ else (if u = o then _ else a.2.1 u)) = _
          rw [if_neg z, if_neg z2]
        obtain ⟨g, k1, k2⟩ := hR u hu
        rw [eh]
        refine ⟨g, all5 _ _ (uS u hu) (by omega) (by omega) k1, fun j hj => ?_⟩
        have := w.1 u
        rw [em j (by omega), adO _ (by omega) (by omega)]
        exact k2 j hj
  · intro c' hc'
    rw [adO _ (by omega) (by omega)]
    by_cases z : c' = tp a o
    · rw [z]
      refine ⟨_, cu5, ?_, ?_, ?_, ?_⟩
      · rw [pk_un (by decide), c2]
      · rw [pk_un (by decide), c3]
      · rw [pk_un (by decide), c4]
      · rw [pk_us]
        show (1 : Int32) = zB1w (va_up a.2.2 (tp a o) true (tp a o))
        rw [show va_up a.2.2 (tp a o) true (tp a o) = true from if_pos rfl]
        rfl
    · obtain ⟨g, k1, k2, k3, k4, k5⟩ := hC c' hc'
      refine ⟨g, all5 _ _ (uA_c hc') (by omega) (by omega) k1, k2, k3, k4, ?_⟩
      rw [k5]
      show _ = zB1w (va_up a.2.2 (tp a o) true c')
      rw [show va_up a.2.2 (tp a o) true c' = a.2.2 c' from if_neg z]
  · obtain ⟨g, k1, k2⟩ := hF
    refine ⟨g, by rw [adO _ (by omega) (by omega)]; exact all5 2 _ (u7 2 (by omega)) (by omega) (by omega) k1, fun i hi => ?_⟩
    rw [adO _ (by omega) (by omega)]
    exact k2 i hi
  · intro i hi
    obtain ⟨g, k1, k2⟩ := hD i hi
    exact ⟨g, by rw [adO _ (by omega) (by omega)]; exact all5 _ _ (Or.inr (Or.inr (Or.inr (Or.inl ⟨by omega, by omega⟩)))) (by omega) (by have := wt.2.2.2.1; omega) k1, k2⟩
  · obtain ⟨g, k1, k2⟩ := hE
    refine ⟨g, by rw [adO _ (by omega) (by omega)]; exact all5 3 _ (u7 3 (by omega)) (by omega) (by omega) k1, fun i hi => ?_⟩
    rw [adO _ (by omega) (by omega)]
    exact k2 i hi
  · intro i hi
    obtain ⟨g, k1, k2⟩ := hG i hi
    exact ⟨g, by rw [adO _ (by omega) (by omega)]; exact all5 _ _ (Or.inr (Or.inr (Or.inl ⟨by omega, by omega⟩))) (by omega) (by have := wt.2.2.1; omega) k1, k2⟩
  · obtain ⟨g, k1, k2⟩ := hP
    exact ⟨g, by rw [adO _ (by omega) (by omega)]; exact all5 4 _ (u7 4 (by omega)) (by omega) (by omega) k1, k2⟩
  · have cases3 : ∀ i, uA t i → (i = 10 + s ∧ va_up (va_up ad (10 + o) r40) (10 + s) r58 i = r58) ∨ (i = 10 + o ∧ va_up (va_up ad (10 + o) r40) (10 + s) r58 i = r40) ∨ (va_up (va_up ad (10 + o) r40) (10 + s) r58 i = ad i) := fun i hi => by
      by_cases z : i = 10 + s
      · exact Or.inl ⟨z, by rw [z]; exact adS⟩
      · by_cases z2 : i = 10 + o
        · exact Or.inr (Or.inl ⟨z2, by rw [z2]; exact adT⟩)
        · exact Or.inr (Or.inr (adO i z2 z))
    intro i j hi hj e
    rcases cases3 i hi with ⟨z, y⟩ | ⟨z, y⟩ | y
    · rcases cases3 j hj with ⟨z', y'⟩ | ⟨z', y'⟩ | y'
      · omega
      · exact absurd (y.symm.trans (e.trans y')) r5840
      · exact absurd (y'.symm.trans (e.symm.trans y)) (nf58 j hj)
    · rcases cases3 j hj with ⟨z', y'⟩ | ⟨z', y'⟩ | y'
      · exact absurd (y'.symm.trans (e.symm.trans y)) r5840
      · omega
      · exact absurd (y'.symm.trans (e.symm.trans y)) (nf40 j hj)
    · rcases cases3 j hj with ⟨z', y'⟩ | ⟨z', y'⟩ | y'
      · exact absurd (y.symm.trans (e.trans y')) (nf58 i hi)
      · exact absurd (y.symm.trans (e.trans y')) (nf40 i hi)
      · exact hI i j hi hj (y.symm.trans (e.trans y'))
  · intro i h5 h7
    obtain ⟨c', hc'⟩ := hL i h5 h7
    exact ⟨c', by rw [adO _ (by omega) (by omega)]; exact all5 i _ (u7 i h7) (by omega) (by omega) hc'⟩
  · intro u j hj
    rcases lv_mv w ne q hj with ⟨-, -, e⟩ | ⟨-, hj2, -, e⟩
    · rw [e]; exact htp
    · rw [e]; exact ht u j hj2
  · refine Fr.trans (F1.mono (fun b z => Or.inr (Or.inr (Or.inr (Or.inl ⟨_, htp, z⟩))))) (F15.mono (fun b z => Or.inr (Or.inl z)))
end SETL
