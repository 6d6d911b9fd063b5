/-! PURE: texts in the law's heap. Builders and Strings; every letter below 128. -/
/-- what stays: all cells of H but those that X names -/
def Fr (X : Nat → Prop) (H H' : gH) : Prop := ∀ b c, hpG H b = some c → ¬ X b → hpG H' b = some c
theorem Fr.refl {X : Nat → Prop} {H : gH} : Fr X H H := fun _ _ h _ => h
theorem Fr.trans {X : Nat → Prop} {H H1 H2 : gH} (h1 : Fr X H H1) (h2 : Fr X H1 H2) : Fr X H H2 := fun b c h n => h2 b c (h1 b c h n) n
theorem Fr.mono {X Y : Nat → Prop} {H H' : gH} (h : Fr X H H') (hx : ∀ b, X b → Y b) : Fr Y H H' := fun b c g n => h b c g (fun z => n (hx b z))
theorem Fr.s {H : gH} {a : Nat} {e : va_E} {X : Nat → Prop} (hx : X a) : Fr X H (hpS H a e) := fun b c h n => by
  rw [hpG_sn (fun z => n (by rw [z]; exact hx))]
  exact h
theorem Fr.n {H : gH} {a : Nat} {e : va_E} {X : Nat → Prop} (hn : hpG H a = none) : Fr X H (hpN H a e) := fun b c h _ => by
  rw [hpG_nn (fun z => by rw [z, hn] at h; cases h)]
  exact h
theorem gF_of {H : gH} {a ci k : Nat} {fs : List Value} {v : Value} (h : hpG H a = some (.inr (ci, fs))) (hk : fs[k]? = some v) : gF H a ci k v := ⟨fs, h, hk⟩
theorem ne_of_cells {H : gH} {a b : Nat} {x y : va_E} (ha : hpG H a = some x) (hb : hpG H b = some y) (h : x ≠ y) : a ≠ b := fun z => h (by rw [z] at ha; exact Option.some.inj (ha.symm.trans hb))
theorem ne_fresh {H : gH} {a b : Nat} {x : va_E} (ha : hpG H a = some x) (hb : hpG H b = none) : a ≠ b := fun z => by rw [z, hb] at ha; cases ha
/-- the bytes f hold the text l -/
def txB (l : List Nat) (f : Nat → Int32) : Prop := ∀ i, i < l.length → l.getD i 0 < 128 ∧ f i = nI (l.getD i 0)
theorem getD_app {l u : List Nat} {i : Nat} (h : i < l.length) : (l ++ u).getD i 0 = l.getD i 0 := by
  rw [List.getD_eq_getElem?_getD, List.getD_eq_getElem?_getD, List.getElem?_append_left h]
theorem getD_app2 {l u : List Nat} (j : Nat) : (l ++ u).getD (l.length + j) 0 = u.getD j 0 := by
  rw [List.getD_eq_getElem?_getD, List.getD_eq_getElem?_getD, List.getElem?_append_right (Nat.le_add_right _ _), Nat.add_sub_cancel_left]
theorem tx_cat {l u : List Nat} {f g : Nat → Int32} (h : txB l f) (hu : txB u g) {f' : Nat → Int32} (h1 : ∀ i, i < l.length → f' i = f i) (h2 : ∀ i, i < u.length → f' (l.length + i) = g i) : txB (l ++ u) f' := by
  intro i hi
  rw [List.length_append] at hi
  rcases Nat.lt_or_ge i l.length with z | z
  · rw [getD_app z, h1 i z]
    exact h i z
  · obtain ⟨j, rfl⟩ : ∃ j, i = l.length + j := ⟨i - l.length, by omega⟩
    rw [getD_app2 j, h2 j (by omega)]
    exact hu j (by omega)
/-- a builder a, its bytes at v, room for m, the text l -/
def sbH (Z : gZ) (H : gH) (a v m : Nat) (l : List Nat) : Prop := ∃ (ml : Int32) (f : Nat → Int32), hpG H a = some (.inr (11, [.ref v, .int 0, .int ml, .int (nI l.length)])) ∧ hpG H v = some (iE (zY Z 0) m f) ∧ l.length ≤ m ∧ m ≤ 65536 ∧ txB l f ∧ sb_Fit f
/-- a String b of the heap, its bytes at w -/
def stD (Z : gZ) (H : gH) (b w : Nat) (u : List Nat) : Prop := ∃ (h1 h2 : Int32) (f : Nat → Int32), hpG H b = some (.inr (10, [.ref w, .int 0, .int h1, .int h2])) ∧ hpG H w = some (iE (zY Z 0) u.length f) ∧ u.length ≤ 65536 ∧ txB u f ∧ sb_Fit f
/-- the text of a constant -/
def kTl (i : Nat) : List Nat := (kTx.getD i []).map (fun x => x.toNatClampNeg)
theorem k_all : (List.range 52).all (fun i => (List.range (kLen i)).all (fun j => decide ((kTl i).getD j 0 < 128) && decide (kCh i j = nI ((kTl i).getD j 0)) && decide (fits .byte (.int (kCh i j)) = true)) && decide ((kTl i).length = kLen i) && decide (kLen i ≤ 300)) = true := by decide +kernel
theorem k_at {i : Nat} (hi : i < 52) : (kTl i).length = kLen i ∧ kLen i ≤ 300 ∧ ∀ j, j < kLen i → (kTl i).getD j 0 < 128 ∧ kCh i j = nI ((kTl i).getD j 0) ∧ fits .byte (.int (kCh i j)) = true := by
  have h := List.all_eq_true.mp k_all i (List.mem_range.mpr hi)
  simp only [Bool.and_eq_true, decide_eq_true_eq] at h
  refine ⟨h.1.2, h.2, fun j hj => ?_⟩
  have g := List.all_eq_true.mp h.1.1 j (List.mem_range.mpr hj)
  simp only [Bool.and_eq_true, decide_eq_true_eq] at g
  exact ⟨g.1.1, g.1.2, g.2⟩
/-- what the JDK asks of a text -/
def strF (Z : gZ) (H : gH) (b w : Nat) (u : List Nat) (f : Nat → Int32) : Prop := sV Z H b w ∧ sC Z H b 0 ∧ bA Z H w u.length f ∧ hRs Z H b ∧ u.length ≤ 65536 ∧ txB u f ∧ ∀ i, i < u.length → fits .byte (.int (f i)) = true
theorem strF_D {Z : gZ} {H : gH} {b w : Nat} {u : List Nat} (h : stD Z H b w u) : ∃ f, strF Z H b w u f := by
  obtain ⟨h1, h2, f, e1, e2, e3, e4, e5⟩ := h
  exact ⟨f, Or.inl (gF_of e1 rfl), Or.inl (gF_of e1 rfl), Or.inl e2, Or.inl ⟨_, e1⟩, e3, e4, fun i _ => e5 i⟩
theorem strF_K {Z : gZ} {H : gH} {i : Nat} (hi : i < 52) : strF Z H (Z.1 i) (Z.2.1 i) (kTl i) (kCh i) := by
  obtain ⟨k1, k2, k3⟩ := k_at hi
  refine ⟨Or.inr ⟨i, hi, rfl, rfl⟩, Or.inr ⟨i, hi, rfl, rfl⟩, Or.inr ⟨i, hi, rfl, k1, rfl⟩, Or.inr ⟨i, hi, rfl⟩, by omega, fun j hj => ?_, fun j hj => ?_⟩
  · rw [k1] at hj
    exact ⟨(k3 j hj).1, (k3 j hj).2.1⟩
  · rw [k1] at hj
    exact (k3 j hj).2.2
theorem stD.fr {Z : gZ} {H H' : gH} {b w : Nat} {u : List Nat} (h : stD Z H b w u) {X : Nat → Prop} (hf : Fr X H H') (hb : ¬ X b) (hw : ¬ X w) : stD Z H' b w u := by
  obtain ⟨h1, h2, f, e1, e2, e3⟩ := h
  exact ⟨h1, h2, f, hf _ _ e1 hb, hf _ _ e2 hw, e3⟩
theorem sbH.fr {Z : gZ} {H H' : gH} {a v m : Nat} {l : List Nat} (h : sbH Z H a v m l) {X : Nat → Prop} (hf : Fr X H H') (ha : ¬ X a) (hv : ¬ X v) : sbH Z H' a v m l := by
  obtain ⟨ml, f, e1, e2, e3⟩ := h
  exact ⟨ml, f, hf _ _ e1 ha, hf _ _ e2 hv, e3⟩
section JSTR
variable {Z : gZ} {H : gH} {a b v w m : Nat} {l u : List Nat} {bc bs : Nat}
theorem hz_coder {K : Int32 → Prop} (h : sC Z H b 0) (k : K 0) : whJ0_coder_7d493 Z H b K := by
  unfold whJ0_coder_7d493
  exact br_f (by decide) ⟨0, h, rfl, k⟩
theorem hz_length {K : Int32 → Prop} {f : Nat → Int32} (h : strF Z H b w u f) (k : K (nI u.length)) : whJ0_length_8abf5 Z H b K := by
  unfold whJ0_length_8abf5
  refine ⟨w, h.1, u.length, f, h.2.2.1, h.2.2.2.1, hz_coder h.2.1 ?_⟩
  rw [sb_shr0]
  exact k
theorem hz_charAt {K : Int32 → Prop} {f : Nat → Int32} (h : strF Z H b w u f) {i : Nat} (hi : i < u.length) (k : K (nI (u.getD i 0))) : whJ0_charAt_5068e Z H b (nI i) K := by
  obtain ⟨h1, h2, h3, h4, h5, h6, -⟩ := h
  have hl : u.length < 2 ^ 31 := by omega
  have hb := sb_byte (u.getD i 0) (by have := (h6 i hi).1; omega)
  have e9 : ((nI (u.getD i 0) &&& 255).toUInt32 % 65536).toInt32 = nI (u.getD i 0) := by
    have t : ∀ c, c < 128 → ((nI c &&& 255).toUInt32 % 65536).toInt32 = nI c := by decide +kernel
    exact t _ (h6 i hi).1
  have e8 : narrow .char (.int (nI (u.getD i 0))) = .int (nI (u.getD i 0)) := by
    have t : ∀ c, c < 128 → narrow .char (.int (nI c)) = .int (nI c) := by decide +kernel
    exact t _ (h6 i hi).1
  unfold whJ0_charAt_5068e
  refine ⟨h4, ?_⟩
  unfold whJ0_isLatin1_aae02
  refine br_f (by decide) ⟨0, h2, ⟨fun z => absurd rfl z, fun _ => br_f (by decide) ⟨w, h1, ?_⟩⟩⟩
  unfold whJ1_charAt_3b067
  refine ⟨u.length, f, h3, nI_pos (by omega), nI_lt hi hl, u.length, f, h3, vp_in_nI hi hl, ?_⟩
  rw [nI_clamp (by omega), (h6 i hi).2, e9]
  exact ⟨e8, e8, k⟩
theorem hz_newLen {q : Nat} {K : Int32 → Prop} (h : m < q) (hm : m ≤ 65536) (hc : sb_cap q m ≤ 65536) (k : K (nI (sb_cap q m))) : whJ8_newLength_cabcc Z H (nI m) (nI (q - m)) (nI (m + 2)) K := by
  have e : nI m + g_max (nI (q - m)) (nI (m + 2)) = nI (sb_cap q m) := by
    have hg := sb_cap_ge q m
    have hq : q ≤ 65536 := Nat.le_trans hg hc
    unfold g_max sb_cap
    rw [if_neg (show ¬ q ≤ m by omega)]
    by_cases z : q - m < m + 2
    · rw [if_pos (nI_lt z (by omega)), nI_add, if_neg (by omega)]
      congr 1
      omega
    · rw [if_neg (nI_nlt (by omega) (by omega)), nI_add]
      by_cases z2 : 2 * m + 2 < q
      · rw [if_pos z2]
        congr 1
        omega
      · rw [if_neg z2]
        congr 1
        omega
  have hg := sb_cap_ge q m
  unfold whJ8_newLength_cabcc
  rw [e]
  exact br_f (nI_nle (by omega) (by omega)) (br_f (show ¬ nI 2147483639 < nI (sb_cap q m) from nI_nlt (by omega) (by decide)) k)
theorem hz_copyOf {q : Nat} {f : Nat → Int32} {K : Nat → gH → Prop} (hv : hpG H v = some (iE (zY Z 0) m f)) (hf : sb_Fit f) (h : m < q) (hq : q ≤ 65536) (hbc : 1 ≤ bc) (hbs : q ≤ bs)
    (k : ∀ x g, hpG H x = none → (∀ i, i < m → g i = f i) → sb_Fit g → ∀ H', hpG H' x = some (iE (zY Z 0) q g) → Fr (fun _ => False) H H' → K x H') : whJ7_copyOf_9075b Z H bc bs v (nI q) K := by
  have ec : (nI q).toNatClampNeg = q := nI_clamp (by omega)
  have em : g_min (nI m) (nI q) = nI m := if_neg (nI_nlt (by omega) (by omega))
  have eh : (nI m).toNatClampNeg = m := nI_clamp (by omega)
  unfold whJ7_copyOf_9075b
  rw [ec]
  refine ⟨m, f, Or.inl hv, ⟨fun _ => ⟨nI_pos (by omega), by omega, hbc, hbs, fun x hx => ?_⟩, fun z => by have := (nI_eq (by omega) (by omega)).mp z; omega⟩⟩
  have hvx : v ≠ x := ne_fresh hv hx
  have hv1 : hpG (hpN H x (iE (zY Z 0) q (fun _ => 0))) v = some (iE (zY Z 0) m f) := by rw [hpG_nn hvx]; exact hv
  refine ⟨m, f, Or.inl hv1, m, f, q, fun _ => 0, Or.inl hv1, hpG_n, by decide, by decide, ?_⟩
  rw [em, eh, sb_cl0]
  refine ⟨nI_pos (by omega), by omega, by omega, fun i _ => hf _, ?_⟩
  refine k x (va_cpy f (fun _ => 0) 0 0 m) hx (fun i hi => sb_cpy0 hi) (sb_fitC hf sb_fit0) _ (hpG_s hpG_n) ?_
  intro b c hb _
  have hbx : b ≠ x := ne_fresh hb hx
  rw [hpG_sn hbx, hpG_nn hbx]
  exact hb
theorem hz_ens {q : Nat} {K : gH → Prop} (h : sbH Z H a v m l) (hq : q ≤ 65536) (hr : sb_Room q m bc bs)
    (k : ∀ H' v', sbH Z H' a v' (sb_cap q m) l → Fr (fun b => b = a) H H' → (v' = v ∨ hpG H v' = none) → K H') : whJ5_ensureCapacityInternal_d00df Z H bc bs a (nI q) K := by
  obtain ⟨ml, f, e1, e2, e3, e4, e5, e6⟩ := h
  have e1' : (nI q - nI m).toInt = (q : Int) - m := pk_sub_toInt (by omega) (by omega)
  unfold whJ5_ensureCapacityInternal_d00df
  refine ⟨v, gF_of e1 rfl, m, f, Or.inl e2, 0, gF_of e1 rfl, ?_⟩
  rw [sb_shr0]
  by_cases z : q ≤ m
  · refine br_t (by rw [Int32.le_iff_toInt_le, e1', Int32.toInt_zero]; omega) (k H v ?_ Fr.refl (Or.inl rfl))
    rw [sb_cap, if_pos z]
    exact ⟨ml, f, e1, e2, e3, e4, e5, e6⟩
  · obtain ⟨r1, r2, r3⟩ := hr.resolve_left z
    have hg := sb_cap_ge q m
    refine br_f (fun y => z (by rw [Int32.le_iff_toInt_le, e1', Int32.toInt_zero] at y; omega)) ⟨v, gF_of e1 rfl, ⟨_, e1⟩, ?_⟩
    unfold whJ5_newCapacity_0f7a4
    refine ⟨v, gF_of e1 rfl, m, f, Or.inl e2, 0, gF_of e1 rfl, 0, gF_of e1 rfl, ?_⟩
    rw [sb_shl0, sb_shl0, show nI q - nI m = nI (q - m) from pk_sub (by omega), show nI m + 2 = nI (m + 2) from nI_add m 2]
    refine hz_newLen (by omega) e4 r3 ⟨fun _ => ⟨0, gF_of e1 rfl, ?_⟩, fun y => by have := (nI_eq (by omega) (by decide)).mp (show nI (sb_cap q m) = nI 2147483647 from y); omega⟩
    rw [sb_shr0]
    refine ⟨0, gF_of e1 rfl, bc, bs, Nat.le_refl _, Nat.le_refl _, ?_⟩
    rw [sb_shl0]
    refine hz_copyOf e2 e6 (by omega) r3 r1 r2 (fun x g hx hgf hgF H' hx' hF => ?_)
    have ea := hF a _ e1 (fun z => z)
    have hax : a ≠ x := ne_fresh e1 hx
    refine ⟨_, ea, by simp, k _ x ⟨ml, g, hpG_s ea, ?_, by omega, r3, fun i hi => ?_, hgF⟩ ?_ (Or.inr hx)⟩
    · rw [hpG_sn (Ne.symm hax)]
      exact hx'
    · rw [hgf i (by omega)]
      exact e5 i hi
    · exact (hF.mono (fun b z => z.elim)).trans (Fr.s rfl)
theorem hz_put {f : Nat → Int32} {K : gH → Prop} (h : sbH Z H a v m l) (hs : strF Z H b w u f) (hm : l.length + u.length ≤ m)
    (k : ∀ g, hpG H v = some (iE (zY Z 0) m g) → txB l g → sb_Fit g → K (hpS H v (iE (zY Z 0) m (va_cpy f g 0 l.length u.length)))) : whJ5_putStringAt_47b60 Z H a (nI l.length) b K := by
  obtain ⟨ml, g, e1, e2, e3, e4, e5, e6⟩ := h
  unfold whJ5_putStringAt_47b60
  refine ⟨⟨_, e1⟩, ?_⟩
  unfold whJ5_inflateIfNeededFor_a7421
  refine br_f (by decide) ⟨0, gF_of e1 rfl, hs.2.2.2.1, hz_coder hs.2.1 (br_t rfl ⟨v, gF_of e1 rfl, 0, gF_of e1 rfl, hs.2.2.2.1, ?_⟩)⟩
  unfold whJ0_getBytes_840e7
  refine ⟨hs.2.2.2.1, hz_coder hs.2.1 ⟨fun z => absurd rfl z, fun _ => ⟨w, hs.1, w, hs.1, u.length, f, hs.2.2.1, u.length, f, m, g, hs.2.2.1, e2, by decide, ?_⟩⟩⟩
  rw [sb_shl0, sb_cl0, nI_clamp (n := u.length) (by omega), nI_clamp (n := l.length) (by omega)]
  refine ⟨nI_pos (by omega), nI_pos (by omega), by omega, by omega, fun i hi => ?_, k g e2 e5 e6⟩
  rw [Nat.zero_add]
  exact hs.2.2.2.2.2.2 i hi
theorem fit_cpy {f g : Nat → Int32} {dp n : Nat} (hf : ∀ i, i < n → fits .byte (.int (f i)) = true) (hg : sb_Fit g) : sb_Fit (va_cpy f g 0 dp n) := by
  intro j
  by_cases z : dp ≤ j ∧ j < dp + n
  · rw [pk_cpy_in z.1 z.2]
    exact hf _ (by omega)
  · rw [pk_cpy_out (by omega)]
    exact hg j
theorem hz_append {f : Nat → Int32} {K : Nat → gH → Prop} (h : sbH Z H a v m l) (hs : ∀ H', Fr (fun b => b = a) H H' → strF Z H' b w u f) (hl : l.length + u.length ≤ 65536) (hr : sb_Room (l.length + u.length) m bc bs)
    (k : ∀ H' v', sbH Z H' a v' (sb_cap (l.length + u.length) m) (l ++ u) → Fr (fun b => b = a ∨ b = v) H H' → (v' = v ∨ hpG H v' = none) → K a H') : whJ4_append_15ec4 Z H bc bs a b K := by
  have h0 := h
  obtain ⟨ml, g, e1, e2, e3, e4, e5, e6⟩ := h0
  have s0 := hs H Fr.refl
  have hg := sb_cap_ge (l.length + u.length) m
  have hc := sb_cap_le e4 hr
  unfold whJ4_append_15ec4
  refine ⟨⟨_, e1⟩, bc, bs, Nat.le_refl _, Nat.le_refl _, ?_⟩
  unfold whJ5_append_cf1ce
  refine ⟨s0.2.2.2.1, hz_length s0 ⟨_, gF_of e1 rfl, ⟨_, e1⟩, bc, bs, Nat.le_refl _, Nat.le_refl _, ?_⟩⟩
  rw [nI_add]
  refine hz_ens h hl hr (fun H4 v' h4 hF hv' => ?_)
  have s4 := hs H4 hF
  have h4' := h4
  obtain ⟨ml4, g4, i1, i2, i3, i4, i5, i6⟩ := h4'
  have hav : a ≠ v' := ne_of_cells i1 i2 (by simp)
  refine ⟨_, gF_of i1 rfl, ⟨_, i1⟩, hz_put h4 s4 hg (fun g' j1 j2 j3 => ?_)⟩
  have a7 : hpG (hpS H4 v' (iE (zY Z 0) (sb_cap (l.length + u.length) m) (va_cpy f g' 0 l.length u.length))) a = some (.inr (11, [.ref v', .int 0, .int ml4, .int (nI l.length)])) := by
    rw [hpG_sn hav]
    exact i1
  refine ⟨_, gF_of a7 rfl, _, a7, by simp, ?_⟩
  rw [nI_add]
  refine k _ v' ⟨ml4, va_cpy f g' 0 l.length u.length, ?_, ?_, ?_, hc, ?_, fit_cpy s4.2.2.2.2.2.2 j3⟩ ?_ hv'
  · rw [hpG_s a7, List.length_append]
    rfl
  · rw [hpG_sn (Ne.symm hav), hpG_s i2]
  · rw [List.length_append]
    exact hg
  · refine tx_cat j2 s4.2.2.2.2.2.1 (fun i hi => pk_cpy_out (Or.inl hi)) (fun i hi => ?_)
    rw [pk_cpy_in (Nat.le_add_right _ _) (by omega)]
    congr 1
    omega
  · intro c x hx hn
    have hca : c ≠ a := fun z => hn (Or.inl z)
    have hcv : c ≠ v' := by
      rcases hv' with rfl | hv'
      · exact fun z => hn (Or.inr z)
      · exact ne_fresh hx hv'
    rw [hpG_sn hca, hpG_sn hcv]
    exact hF c x hx hca
/-- a constant is appended -/
theorem hz_appK {i : Nat} (hi : i < 52) {K : Nat → gH → Prop} (h : sbH Z H a v m l) (hl : l.length + (kTl i).length ≤ 65536) (hr : sb_Room (l.length + (kTl i).length) m bc bs)
    (k : ∀ H' v', sbH Z H' a v' (sb_cap (l.length + (kTl i).length) m) (l ++ kTl i) → Fr (fun b => b = a ∨ b = v) H H' → (v' = v ∨ hpG H v' = none) → K a H') : whJ4_append_15ec4 Z H bc bs a (Z.1 i) K :=
  hz_append h (fun _ _ => strF_K hi) hl hr k
/-- a String of the heap is appended -/
theorem hz_appD {K : Nat → gH → Prop} (h : sbH Z H a v m l) (hs : stD Z H b w u) (hl : l.length + u.length ≤ 65536) (hr : sb_Room (l.length + u.length) m bc bs)
    (k : ∀ H' v', sbH Z H' a v' (sb_cap (l.length + u.length) m) (l ++ u) → Fr (fun b => b = a ∨ b = v) H H' → (v' = v ∨ hpG H v' = none) → K a H') : whJ4_append_15ec4 Z H bc bs a b K := by
  obtain ⟨h1, h2, f, e1, e2, e3, e4, e5⟩ := hs
  refine hz_append (f := f) (w := w) h (fun H' hF => ?_) hl hr k
  obtain ⟨ml, g, i1, i2, -⟩ := h
  have hb : b ≠ a := ne_of_cells e1 i1 (by simp)
  have hw : w ≠ a := ne_of_cells e2 i1 (by simp)
  have e1' := hF _ _ e1 hb
  exact ⟨Or.inl (gF_of e1' rfl), Or.inl (gF_of e1' rfl), Or.inl (hF _ _ e2 hw), Or.inl ⟨_, e1'⟩, e3, e4, fun i _ => e5 i⟩
/-- a new builder -/
theorem hz_new {K : gH → Prop} {x : Value} (ha : hpG H a = some (.inr (11, [x, .int 0, .int 0, .int 0]))) (hbc : 1 ≤ bc) (hbs : 16 ≤ bs)
    (k : ∀ H' v', sbH Z H' a v' 16 [] → Fr (fun b => b = a) H H' → hpG H v' = none → K H') : whJ4_init_da8c8 Z H bc bs a K := by
  unfold whJ4_init_da8c8
  refine ⟨bc, bs, Nat.le_refl _, Nat.le_refl _, ?_⟩
  unfold whJ5_init_d00df
  refine br_f (by decide) ⟨by decide, by decide, hbc, hbs, fun q hq => ?_⟩
  have haq : a ≠ q := ne_fresh ha hq
  have a1 : hpG (hpN H q (iE (zY Z 0) (16 : Int32).toNatClampNeg (fun _ => 0))) a = some (.inr (11, [x, .int 0, .int 0, .int 0])) := by rw [hpG_nn haq]; exact ha
  refine ⟨_, a1, by simp, _, hpG_s a1, by simp, k _ q ⟨0, fun _ => 0, ?_, ?_, by simp, by decide, fun i hi => absurd hi (by simp), sb_fit0⟩ ?_ hq⟩
  · rw [hpG_s (hpG_s a1)]
    rfl
  · rw [hpG_sn (Ne.symm haq), hpG_sn (Ne.symm haq), hpG_n]
    rfl
  · intro c y hy hn
    rw [hpG_sn hn, hpG_sn hn, hpG_nn (ne_fresh hy hq)]
    exact hy
/-- the decimal digits -/
def decL (v : Nat) : List Nat := (List.range (sb_dg v)).map (sb_dec v)
theorem decL_len (v : Nat) : (decL v).length = sb_dg v := by simp [decL]
theorem decL_at {v i : Nat} (h : i < sb_dg v) : (decL v).getD i 0 = 48 + v / 10 ^ (sb_dg v - 1 - i) % 10 := by
  unfold decL
  rw [List.getD_eq_getElem?_getD, List.getElem?_map, List.getElem?_range h]
  rfl
theorem hz_size {v : Nat} {K : Int32 → Prop} (hv : v < 10000000) (k : K (nI (sb_dg v))) : whJ6_stringSize_0f7a4 Z H (nI v) K := by
  have hs : ∀ i, sb_dg v = i → K (nI i) := fun i e => e ▸ k
  unfold whJ6_stringSize_0f7a4
  refine br_f (nI_pos (by omega)) ?_
  unfold whJ6_stringSize_0f7a4_11
  refine ⟨9, ?_⟩
  rw [whJ6_stringSize_0f7a4_16]
  refine br_f (by decide) (sb_cmp v 10 (fun h0 => ?_) (fun h => sb_at (P := K) (by decide) (hs 1 (by unfold sb_dg; (repeat' split) <;> omega))) (by omega))
  rw [show (10 : Int32) * (-10) = -100 by decide, show ((1 : Int32) + 1) = 2 by decide]
  rw [whJ6_stringSize_0f7a4_16]
  refine br_f (by decide) (sb_cmp v 100 (fun h1 => ?_) (fun h => sb_at (P := K) (by decide) (hs 2 (by unfold sb_dg; (repeat' split) <;> omega))) (by omega))
  rw [show (10 : Int32) * (-100) = -1000 by decide, show ((2 : Int32) + 1) = 3 by decide]
  rw [whJ6_stringSize_0f7a4_16]
  refine br_f (by decide) (sb_cmp v 1000 (fun h2 => ?_) (fun h => sb_at (P := K) (by decide) (hs 3 (by unfold sb_dg; (repeat' split) <;> omega))) (by omega))
  rw [show (10 : Int32) * (-1000) = -10000 by decide, show ((3 : Int32) + 1) = 4 by decide]
  rw [whJ6_stringSize_0f7a4_16]
  refine br_f (by decide) (sb_cmp v 10000 (fun h3 => ?_) (fun h => sb_at (P := K) (by decide) (hs 4 (by unfold sb_dg; (repeat' split) <;> omega))) (by omega))
  rw [show (10 : Int32) * (-10000) = -100000 by decide, show ((4 : Int32) + 1) = 5 by decide]
  rw [whJ6_stringSize_0f7a4_16]
  refine br_f (by decide) (sb_cmp v 100000 (fun h4 => ?_) (fun h => sb_at (P := K) (by decide) (hs 5 (by unfold sb_dg; (repeat' split) <;> omega))) (by omega))
  rw [show (10 : Int32) * (-100000) = -1000000 by decide, show ((5 : Int32) + 1) = 6 by decide]
  rw [whJ6_stringSize_0f7a4_16]
  refine br_f (by decide) (sb_cmp v 1000000 (fun h5 => ?_) (fun h => sb_at (P := K) (by decide) (hs 6 (by unfold sb_dg; (repeat' split) <;> omega))) (by omega))
  rw [show (10 : Int32) * (-1000000) = -10000000 by decide, show ((6 : Int32) + 1) = 7 by decide]
  rw [whJ6_stringSize_0f7a4_16]
  refine br_f (by decide) (sb_cmp v 10000000 (fun h6 => ?_) (fun h => sb_at (P := K) (by decide) (hs 7 (by unfold sb_dg; (repeat' split) <;> omega))) (by omega))
  omega
theorem hz_tab : ∀ k, k < 100 → vp_nar .byte (kDo k) = nI (48 + k % 10) ∧ vp_nar .byte (kDt k) = nI (48 + k / 10) ∧ fits .byte (.int (nI (48 + k % 10))) = true ∧ fits .byte (.int (nI (48 + k / 10))) = true := by decide +kernel
theorem hz_getChars {n : Nat} (hm : m ≤ 65536) {K : Int32 → gH → Prop} : ∀ (f w p : Nat) (H : gH) (g : Nat → Int32), hpG H v = some (iE (zY Z 0) m g) → w < f → w < 2 ^ 31 → p = n + sb_dg w → p ≤ m →
    (∀ H' g', hpG H' v = some (iE (zY Z 0) m g') → Fr (fun b => b = v) H H' → (∀ j, j < n ∨ p ≤ j → g' j = g j) → (∀ i, i < sb_dg w → g' (p - 1 - i) = nI (48 + w / 10 ^ i % 10)) → (sb_Fit g → sb_Fit g') → K (nI n) H') →
    whJ6_getChars_ba4f3_22 K Z f H (-nI w) v (nI p) 0 := by
  intro f
  induction f with
  | zero => intro w p H g _ h; omega
  | succ f ih =>
    intro w p H g hv hwf hw hp hpm hP
    have hd1 := (sb_dg_in w).1
    have e1 : -(-nI w) = nI w := Int32.neg_neg
    have ew : (nI w).toNatClampNeg = w := nI_clamp hw
    rw [whJ6_getChars_ba4f3_22]
    by_cases h100 : w < 100
    · obtain ⟨t1, t2, t3, t4⟩ := hz_tab w h100
      refine br_t (show -nI 100 < -nI w from (sb_nlt (by decide) hw).mpr h100) ⟨by rw [e1]; exact vp_in_nI h100 (by decide), m, g, hv, ?_⟩
      rw [sb_m1 (by omega), e1, ew, nI_clamp (n := p - 1) (by omega), t1]
      refine ⟨vp_in_nI (by omega) (by omega), ?_⟩
      have v1 := hpG_s (e := iE (zY Z 0) m (upd g (p - 1) (nI (48 + w % 10)))) hv
      by_cases h9 : w < 10
      · have hd : sb_dg w = 1 := if_pos h9
        refine br_t (show -nI 9 ≤ -nI w from (sb_nle (by decide) hw).mpr (by omega)) ?_
        unfold whJ6_getChars_ba4f3_104
        refine br_t rfl ?_
        rw [show nI (p - 1) = nI n from congrArg nI (by omega)]
        refine hP _ _ v1 (Fr.s rfl) (fun j hj => pk_un (by omega)) (fun i hi => ?_) (fun hf => sb_fitU hf t3)
        obtain rfl : i = 0 := by omega
        rw [Nat.sub_zero, pk_us, Nat.pow_zero, Nat.div_one]
      · have hd : sb_dg w = 2 := by rw [sb_dg, if_neg h9, if_pos h100]
        have d2 : w / 10 % 10 = w / 10 := by omega
        refine br_f (fun z => by have := (sb_nle (by decide) hw).mp (show -nI 9 ≤ -nI w from z); omega) ⟨vp_in_nI h100 (by decide), m, _, v1, ?_⟩
        rw [sb_m1 (by omega), nI_clamp (n := p - 1 - 1) (by omega), t2]
        refine ⟨vp_in_nI (by omega) (by omega), ?_⟩
        unfold whJ6_getChars_ba4f3_104
        refine br_t rfl ?_
        rw [show nI (p - 1 - 1) = nI n from congrArg nI (by omega)]
        refine hP _ _ (hpG_s v1) ((Fr.s (X := fun b => b = v) rfl).trans (Fr.s rfl)) (fun j hj => by rw [pk_un (by omega), pk_un (by omega)]) (fun i hi => ?_) (fun hf => sb_fitU (sb_fitU hf t3) t4)
        obtain rfl | rfl : i = 0 ∨ i = 1 := by omega
        · rw [Nat.sub_zero, pk_un (by omega), pk_us, Nat.pow_zero, Nat.div_one]
        · rw [pk_us, Nat.pow_one, d2]
    · obtain ⟨t1, t2, t3, t4⟩ := hz_tab (w % 100) (Nat.mod_lt _ (by decide))
      have hd := sb_dg100 (w := w) (by omega) hw
      have hd2 := (sb_dg_in (w / 100)).1
      have er : (nI (w % 100)).toNatClampNeg = w % 100 := nI_clamp (by omega)
      rw [show w % 100 % 10 = w % 10 by omega] at t1 t3
      rw [show w % 100 / 10 = w / 10 % 10 by omega] at t2 t4
      refine br_f (fun z => h100 ((sb_nlt (by decide) hw).mp (show -nI 100 < -nI w from z))) ?_
      rw [sb_ndiv hw, sb_nrem hw, sb_m1 (by omega), er, nI_clamp (n := p - 1) (by omega), t1]
      have v1 := hpG_s (e := iE (zY Z 0) m (upd g (p - 1) (nI (48 + w % 10)))) hv
      refine ⟨vp_in_nI (by omega) (by decide), m, g, hv, vp_in_nI (by omega) (by omega), vp_in_nI (by omega) (by decide), m, _, v1, ?_⟩
      rw [sb_m1 (by omega), nI_clamp (n := p - 1 - 1) (by omega), t2]
      refine ⟨vp_in_nI (by omega) (by omega), ?_⟩
      refine ih (w / 100) (p - 1 - 1) _ _ (hpG_s v1) (by omega) (by omega) (by omega) (by omega) (fun H' g' q1 q2 q3 q4 q5 => ?_)
      refine hP H' g' q1 (((Fr.s (X := fun b => b = v) rfl).trans (Fr.s rfl)).trans q2) (fun j hj => by rw [q3 j (by omega), pk_un (by omega), pk_un (by omega)]) (fun i hi => ?_) (fun hf => q5 (sb_fitU (sb_fitU hf t3) t4))
      match i, hi with
      | 0, _ => rw [Nat.sub_zero, q3 _ (by omega), pk_un (by omega), pk_us, Nat.pow_zero, Nat.div_one]
      | 1, _ => rw [q3 _ (by omega), pk_us, Nat.pow_one]
      | k + 2, hi =>
        rw [show p - 1 - (k + 2) = p - 1 - 1 - 1 - k by omega, q4 k (by omega), Nat.div_div_eq_div_mul, show 100 * 10 ^ k = 10 ^ (k + 2) by rw [show k + 2 = k + 1 + 1 from rfl, Nat.pow_succ, Nat.pow_succ]; omega]
/-- a natural is appended -/
theorem hz_appI {x : Nat} {K : Nat → gH → Prop} (h : sbH Z H a v m l) (hx : x < 10000000) (hl : l.length + sb_dg x ≤ 65536) (hr : sb_Room (l.length + sb_dg x) m bc bs)
    (k : ∀ H' v', sbH Z H' a v' (sb_cap (l.length + sb_dg x) m) (l ++ decL x) → Fr (fun b => b = a ∨ b = v) H H' → (v' = v ∨ hpG H v' = none) → K a H') : whJ4_append_bf812 Z H bc bs a (nI x) K := by
  have h0 := h
  obtain ⟨ml, g, e1, e2, e3, e4, e5, e6⟩ := h0
  have hg := sb_cap_ge (l.length + sb_dg x) m
  have hc := sb_cap_le e4 hr
  unfold whJ4_append_bf812
  refine ⟨⟨_, e1⟩, bc, bs, Nat.le_refl _, Nat.le_refl _, ?_⟩
  unfold whJ5_append_c97b9
  refine ⟨_, gF_of e1 rfl, hz_size hx ⟨⟨_, e1⟩, bc, bs, Nat.le_refl _, Nat.le_refl _, ?_⟩⟩
  rw [nI_add]
  refine hz_ens h hl hr (fun H4 v' h4 hF hv' => ?_)
  obtain ⟨ml4, g4, i1, i2, i3, i4, i5, i6⟩ := h4
  have hav : a ≠ v' := ne_of_cells i1 i2 (by simp)
  refine ⟨⟨_, i1⟩, ?_⟩
  unfold whJ5_isLatin1_aae02
  refine br_f (by decide) ⟨0, gF_of i1 rfl, ⟨fun z => absurd rfl z, fun _ => br_f (by decide) ⟨v', gF_of i1 rfl, ?_⟩⟩⟩
  unfold whJ6_getChars_ba4f3
  refine br_t (nI_pos' (by omega)) ?_
  unfold whJ6_getChars_ba4f3_12
  refine ⟨fun z => absurd rfl z, fun _ => ⟨x + 1, ?_⟩⟩
  refine hz_getChars (n := l.length) i4 (x + 1) x _ H4 g4 i2 (by omega) (by omega) rfl hg (fun H' g' q1 q2 q3 q4 q5 => ?_)
  have a7 := q2 _ _ i1 hav
  unfold whJ5_append_c97b9_48
  refine ⟨_, a7, by simp, k _ v' ⟨ml4, g', ?_, ?_, ?_, hc, ?_, q5 i6⟩ ?_ hv'⟩
  · rw [hpG_s a7, List.length_append, decL_len]
    rfl
  · rw [hpG_sn (Ne.symm hav)]
    exact q1
  · rw [List.length_append, decL_len]
    exact hg
  · refine tx_cat (u := decL x) (g := fun i => nI ((decL x).getD i 0)) i5 (fun i hi => ?_) (fun i hi => q3 i (Or.inl hi)) (fun i hi => ?_)
    · rw [decL_len] at hi
      refine ⟨?_, rfl⟩
      rw [decL_at hi]
      omega
    · rw [decL_len] at hi
      have h9 := q4 (sb_dg x - 1 - i) (by omega)
      rw [show l.length + sb_dg x - 1 - (sb_dg x - 1 - i) = l.length + i by omega] at h9
      rw [h9, decL_at hi]
  · intro c y hy hn
    have hca : c ≠ a := fun z => hn (Or.inl z)
    have hcv : c ≠ v' := by
      rcases hv' with rfl | hv'
      · exact fun z => hn (Or.inr z)
      · exact ne_fresh hy hv'
    rw [hpG_sn hca]
    exact q2 _ _ (hF c y hy hca) hcv
/-- the text of a builder -/
theorem hz_toString {K : Nat → gH → Prop} (h : sbH Z H a v m l) (hbc : 2 ≤ bc) (hbs : l.length + 4 ≤ bs)
    (k : ∀ q w' H', stD Z H' q w' l → hpG H q = none → hpG H w' = none → Fr (fun _ => False) H H' → K q H') : whJ4_toString_0e30d Z H bc bs a K := by
  obtain ⟨ml, f, e1, e2, e3, e4, e5, e6⟩ := h
  have hlm : l.length ≤ 65536 := by omega
  unfold whJ4_toString_0e30d
  refine ⟨by omega, by omega, fun q hq => ⟨bc - 1, bs - 4, Nat.le_refl _, Nat.le_refl _, ?_⟩⟩
  have haq : a ≠ q := ne_fresh e1 hq
  have hvq : v ≠ q := ne_fresh e2 hq
  generalize hH1 : hpN H q (.inr (10, [.null, .int 0, .int 0, .int 0])) = H1
  have a1 : hpG H1 a = some (.inr (11, [.ref v, .int 0, .int ml, .int (nI l.length)])) := by rw [← hH1, hpG_nn haq]; exact e1
  have v1 : hpG H1 v = some (iE (zY Z 0) m f) := by rw [← hH1, hpG_nn hvq]; exact e2
  have q1 : hpG H1 q = some (.inr (10, [.null, .int 0, .int 0, .int 0])) := by rw [← hH1]; exact hpG_n
  have f1 : Fr (fun _ => False) H H1 := by rw [← hH1]; exact Fr.n hq
  have n1 : ∀ x, hpG H1 x = none → hpG H x = none ∧ x ≠ q := fun x hx => by
    have hxq : x ≠ q := fun z => by rw [z, q1] at hx; cases hx
    rw [← hH1, hpG_nn hxq] at hx
    exact ⟨hx, hxq⟩
  unfold whJ0_init_81219
  refine ⟨bc - 1, bs - 4, Nat.le_refl _, Nat.le_refl _, ?_⟩
  unfold whJ0_init_db425 whJ5_getValue_6d5f1 whJ4_length_8abf5 whJ5_length_8abf5 whJ5_isLatin1_aae02
  refine ⟨⟨_, a1⟩, v, gF_of a1 rfl, ⟨_, a1⟩, ⟨_, a1⟩, _, gF_of a1 rfl, ⟨_, a1⟩, br_f (by decide) ⟨0, gF_of a1 rfl, ⟨fun z => absurd rfl z, fun _ => br_f (by decide) ⟨_, q1, by simp, bc - 1, bs - 4, Nat.le_refl _, Nat.le_refl _, ?_⟩⟩⟩⟩
  have q2 : hpG (hpS H1 q (.inr (10, [.null, .int 0, .int 0, .int 0].set 1 (.int 0)))) q = some (.inr (10, [.null, .int 0, .int 0, .int 0])) := hpG_s q1
  have v2 : hpG (hpS H1 q (.inr (10, [.null, .int 0, .int 0, .int 0].set 1 (.int 0)))) v = some (iE (zY Z 0) m f) := by rw [hpG_sn hvq]; exact v1
  have f2 : Fr (fun b => b = q) H1 (hpS H1 q (.inr (10, [.null, .int 0, .int 0, .int 0].set 1 (.int 0)))) := Fr.s rfl
  have n2 : ∀ x, hpG (hpS H1 q (.inr (10, [.null, .int 0, .int 0, .int 0].set 1 (.int 0)))) x = none → hpG H1 x = none := fun x hx => by
    have hxq : x ≠ q := fun z => by rw [z, q2] at hx; cases hx
    rw [hpG_sn hxq] at hx
    exact hx
  generalize hpS H1 q (.inr (10, [.null, .int 0, .int 0, .int 0].set 1 (.int 0))) = H2 at q2 v2 f2 n2 ⊢
  -- the bytes' copy x, in H3
  have fin : ∀ (x : Nat) (g : Nat → Int32) (H3 : gH), hpG H2 x = none → hpG H3 x = some (iE (zY Z 0) l.length g) → txB l g → sb_Fit g → Fr (fun _ => False) H2 H3 → (∃ f10 : List Value, hpG H3 q = some (.inr (10, f10)) ∧ 0 < f10.length ∧ K q (hpS H3 q (.inr (10, f10.set 0 (.ref x))))) := by
    intro x g H3 hx hx3 ht hf hF
    have q3 := hF _ _ q2 (fun z => z)
    have hqx : q ≠ x := ne_fresh q2 hx
    refine ⟨_, q3, by simp, k q x _ ⟨0, 0, g, hpG_s q3, ?_, hlm, ht, hf⟩ hq (n1 x (n2 x hx)).1 ?_⟩
    · rw [hpG_sn (Ne.symm hqx)]
      exact hx3
    · intro c y hy _
      have hcq : c ≠ q := ne_fresh hy hq
      rw [hpG_sn hcq]
      exact hF _ _ (f2 _ _ (f1 _ _ hy (fun z => z)) hcq) (fun z => z)
  unfold whJ7_copyOfRange_39247
  refine ⟨fun z => absurd rfl z, fun _ => ⟨m, f, Or.inl v2, pk_eq l.length m (fun e => ?_) (fun e => ?_)⟩⟩
  · refine ⟨m, f, v2, fun i _ => e6 i, by omega, by omega, fun x hx => fin x f _ hx ?_ e5 e6 (Fr.n hx)⟩
    rw [← e]
    exact hpG_n
  · unfold whJ7_copyOfRange_39247_10
    refine ⟨bc - 1, bs - 4, Nat.le_refl _, Nat.le_refl _, ?_⟩
    unfold whJ7_copyOfRangeByte_39247 whJ7_checkLength_df160
    have es : nI l.length - 0 = nI l.length := pk_sub (a := l.length) (b := 0) (by omega)
    have es2 : nI m - 0 = nI m := pk_sub (a := m) (b := 0) (by omega)
    have ei : g_min (nI m) (nI l.length) = nI l.length := if_pos (nI_lt (by omega) (by omega))
    have ec : (nI l.length).toNatClampNeg = l.length := nI_clamp (by omega)
    rw [es, ec]
    refine br_t (nI_pos' (by omega)) ⟨nI_pos (by omega), by omega, by omega, by omega, fun x hx => ?_⟩
    have hvx : v ≠ x := ne_fresh v2 hx
    have v3 : hpG (hpN H2 x (iE (zY Z 0) l.length (fun _ => 0))) v = some (iE (zY Z 0) m f) := by rw [hpG_nn hvx]; exact v2
    refine ⟨m, f, Or.inl v3, m, f, l.length, fun _ => 0, Or.inl v3, hpG_n, by decide, by decide, ?_⟩
    rw [es2, ei, ec, sb_cl0]
    refine ⟨nI_pos (by omega), by omega, by omega, fun i _ => e6 _, fin x _ _ hx (hpG_s hpG_n) (fun i hi => ?_) (sb_fitC e6 sb_fit0) ?_⟩
    · rw [sb_cpy0 hi]
      exact e5 i hi
    · intro c y hy _
      have hcx : c ≠ x := ne_fresh hy hx
      rw [hpG_sn hcx, hpG_nn hcx]
      exact hy
end JSTR
