/-! PURE: a tree's text. The machine writes it; its length. -/
def stX (Z : gZ) (H : gH) (r : Nat) (u : List Nat) : Prop := (∃ w, stD Z H r w u) ∨ ∃ i, i < 52 ∧ r = Z.1 i ∧ u = kTl i
theorem stX.nf {Z : gZ} {H H' : gH} {r : Nat} {u : List Nat} (h : stX Z H r u) (hf : Fr (fun _ => False) H H') : stX Z H' r u := by
  rcases h with ⟨w, h⟩ | h
  · exact Or.inl ⟨w, h.fr hf (fun z => z) (fun z => z)⟩
  · exact Or.inr h
theorem hz_appX {Z : gZ} {H : gH} {a b v m : Nat} {l u : List Nat} {bc bs : Nat} {K : Nat → gH → Prop} (h : sbH Z H a v m l) (hs : stX Z H b u) (hl : l.length + u.length ≤ 65536) (hr : sb_Room (l.length + u.length) m bc bs)
    (k : ∀ H' v', sbH Z H' a v' (sb_cap (l.length + u.length) m) (l ++ u) → Fr (fun b => b = a ∨ b = v) H H' → (v' = v ∨ hpG H v' = none) → K a H') : whJ4_append_15ec4 Z H bc bs a b K := by
  rcases hs with ⟨w, hs⟩ | ⟨i, hi, rfl, rfl⟩
  · exact hz_appD h hs hl hr k
  · exact hz_appK hi h hl hr k
theorem bd_cap {q m : Nat} (hq : q ≤ 1500) (hm : m ≤ 3002) : sb_cap q m ≤ 3002 ∧ sb_Room q m 1 3002 := by
  have h : sb_cap q m ≤ 3002 := by
    unfold sb_cap
    by_cases z : q ≤ m
    · rw [if_pos z]; exact hm
    · rw [if_neg z]
      by_cases z2 : 2 * m + 2 < q
      · rw [if_pos z2]; omega
      · rw [if_neg z2]; omega
  exact ⟨h, Or.inr ⟨Nat.le_refl _, h, by omega⟩⟩
/-- a builder at a made since H0, its text l -/
def Bd (Z : gZ) (H0 H : gH) (a : Nat) (l : List Nat) : Prop := (∃ v m, sbH Z H a v m l ∧ m ≤ 3002 ∧ hpG H0 v = none) ∧ hpG H0 a = none ∧ Fr (fun _ => False) H0 H
section BD
variable {Z : gZ} {H0 H : gH} {a bc bs : Nat} {l u : List Nat}
theorem Bd.nf {H' : gH} (B : Bd Z H0 H a l) (hf : Fr (fun _ => False) H H') : Bd Z H0 H' a l := by
  obtain ⟨⟨v, m, h1, h2, h3⟩, h4, h5⟩ := B
  exact ⟨⟨v, m, h1.fr hf (fun z => z) (fun z => z), h2, h3⟩, h4, h5.trans hf⟩
theorem Bd.step {H' : gH} {v v' m' : Nat} (h3 : hpG H0 v = none) (h4 : hpG H0 a = none) (h5 : Fr (fun _ => False) H0 H) (s : sbH Z H' a v' m' u) (hm : m' ≤ 3002) (F : Fr (fun b => b = a ∨ b = v) H H') (hv : v' = v ∨ hpG H v' = none) : Bd Z H0 H' a u := by
  refine ⟨⟨v', m', s, hm, ?_⟩, h4, fun b c hb _ => ?_⟩
  · rcases hv with rfl | hv
    · exact h3
    · exact Fr.live h5 hv
  · refine F _ _ (h5 _ _ hb (fun z => z)) (fun z => ?_)
    rcases z with rfl | rfl
    · rw [h4] at hb; cases hb
    · rw [h3] at hb; cases hb
theorem bd_new {K : Nat → Nat → gH → Prop} {q : Nat} (hF : Fr (fun _ => False) H0 H) (hq : hpG H q = none) (hbc : 1 ≤ bc) (hbs : 16 ≤ bs) (k : ∀ H', Bd Z H0 H' q [] → K 1 16 H') : ∃ (c s : Nat), c ≤ bc ∧ s ≤ bs ∧ whJ4_init_da8c8 Z (hpN H q (.inr (11, [.null, .int 0, .int 0, .int 0]))) c s q (K c s) := by
  refine ⟨1, 16, hbc, hbs, hz_new (x := .null) hpG_n (Nat.le_refl _) (Nat.le_refl _) (fun H' v' h1 h2 h3 => k H' ?_)⟩
  have F1 : Fr (fun _ => False) H (hpN H q (.inr (11, [.null, .int 0, .int 0, .int 0]))) := Fr.n hq
  have q0 := Fr.live hF hq
  refine ⟨⟨v', 16, h1, by omega, Fr.live (hF.trans F1) h3⟩, q0, fun b c hb _ => ?_⟩
  exact h2 _ _ ((hF.trans F1) _ _ hb (fun z => z)) (ne_fresh hb q0)
theorem bd_X {K : Nat → Nat → Nat → gH → Prop} {b : Nat} (B : Bd Z H0 H a l) (hs : stX Z H b u) (hl : l.length + u.length ≤ 1500) (hbc : 1 ≤ bc) (hbs : 3002 ≤ bs) (k : ∀ H', Bd Z H0 H' a (l ++ u) → K 1 3002 a H') : (∃ fs, hpG H a = some (.inr (11, fs))) ∧ ∃ (c s : Nat), c ≤ bc ∧ s ≤ bs ∧ whJ4_append_15ec4 Z H c s a b (K c s) := by
  obtain ⟨⟨v, m, h1, h2, h3⟩, h4, h5⟩ := B
  have h1' := h1
  obtain ⟨ml, f, e1, -⟩ := h1'
  obtain ⟨c1, c2⟩ := bd_cap hl h2
  exact ⟨⟨_, e1⟩, 1, 3002, hbc, hbs, hz_appX h1 hs (by omega) c2 (fun H' v' s F hv => k H' (Bd.step h3 h4 h5 s c1 F hv))⟩
theorem bd_K {K : Nat → Nat → Nat → gH → Prop} {i : Nat} (hi : i < 52) (B : Bd Z H0 H a l) (hl : l.length + (kTl i).length ≤ 1500) (hbc : 1 ≤ bc) (hbs : 3002 ≤ bs) (k : ∀ H', Bd Z H0 H' a (l ++ kTl i) → K 1 3002 a H') : (∃ fs, hpG H a = some (.inr (11, fs))) ∧ ∃ (c s : Nat), c ≤ bc ∧ s ≤ bs ∧ whJ4_append_15ec4 Z H c s a (Z.1 i) (K c s) := bd_X B (Or.inr ⟨i, hi, rfl, rfl⟩) hl hbc hbs k
theorem bd_I {K : Nat → Nat → Nat → gH → Prop} {x : Nat} (hx : x < 1000000) (B : Bd Z H0 H a l) (hl : l.length + 7 ≤ 1500) (hbc : 1 ≤ bc) (hbs : 3002 ≤ bs) (k : ∀ H', Bd Z H0 H' a (l ++ decL x) → K 1 3002 a H') : (∃ fs, hpG H a = some (.inr (11, fs))) ∧ ∃ (c s : Nat), c ≤ bc ∧ s ≤ bs ∧ whJ4_append_bf812 Z H c s a (nI x) (K c s) := by
  obtain ⟨⟨v, m, h1, h2, h3⟩, h4, h5⟩ := B
  have h1' := h1
  obtain ⟨ml, f, e1, -⟩ := h1'
  have d6 : sb_dg x ≤ 7 := by unfold sb_dg; (repeat' split) <;> omega
  obtain ⟨c1, c2⟩ := bd_cap (q := l.length + sb_dg x) (by omega) h2
  exact ⟨⟨_, e1⟩, 1, 3002, hbc, hbs, hz_appI h1 (by omega) (by omega) c2 (fun H' v' s F hv => k H' (Bd.step h3 h4 h5 s c1 F hv))⟩
theorem bd_end {K : Nat → Nat → Nat → gH → Prop} (B : Bd Z H0 H a l) (hl : l.length ≤ 1500) (hbc : 2 ≤ bc) (hbs : 1504 ≤ bs) (k : ∀ r w H', stD Z H' r w l → hpG H r = none → hpG H w = none → Fr (fun _ => False) H H' → Fr (fun _ => False) H0 H' → K 2 1504 r H') : (∃ fs, hpG H a = some (.inr (11, fs))) ∧ ∃ (c s : Nat), c ≤ bc ∧ s ≤ bs ∧ whJ4_toString_0e30d Z H c s a (K c s) := by
  obtain ⟨⟨v, m, h1, h2, h3⟩, h4, h5⟩ := B
  have h1' := h1
  obtain ⟨ml, f, e1, -⟩ := h1'
  exact ⟨⟨_, e1⟩, 2, 1504, hbc, hbs, hz_toString h1 (Nat.le_refl _) (by omega) (fun q w' H' s hq hw F => k q w' H' s hq hw F (h5.trans F))⟩
end BD
theorem kl2 : (kTl 2).length = 0 := by decide +kernel
theorem kl3 : (kTl 3).length = 4 := by decide +kernel
theorem kl4 : (kTl 4).length = 6 := by decide +kernel
theorem kl5 : (kTl 5).length = 7 := by decide +kernel
theorem kl6 : (kTl 6).length = 6 := by decide +kernel
theorem kl7 : (kTl 7).length = 10 := by decide +kernel
theorem kl8 : (kTl 8).length = 9 := by decide +kernel
theorem kl9 : (kTl 9).length = 1 := by decide +kernel
theorem kl10 : (kTl 10).length = 1 := by decide +kernel
theorem kl11 : (kTl 11).length = 1 := by decide +kernel
theorem kl12 : (kTl 12).length = 1 := by decide +kernel
theorem kl13 : (kTl 13).length = 4 := by decide +kernel
theorem kl14 : (kTl 14).length = 4 := by decide +kernel
theorem kl15 : (kTl 15).length = 1 := by decide +kernel
theorem kl16 : (kTl 16).length = 1 := by decide +kernel
theorem kl17 : (kTl 17).length = 1 := by decide +kernel
theorem kl18 : (kTl 18).length = 2 := by decide +kernel
theorem kl19 : (kTl 19).length = 2 := by decide +kernel
theorem kl20 : (kTl 20).length = 1 := by decide +kernel
theorem kl21 : (kTl 21).length = 7 := by decide +kernel
theorem kl22 : (kTl 22).length = 1 := by decide +kernel
theorem kl23 : (kTl 23).length = 3 := by decide +kernel
theorem kl24 : (kTl 24).length = 1 := by decide +kernel
theorem kl25 : (kTl 25).length = 1 := by decide +kernel
theorem kl26 : (kTl 26).length = 6 := by decide +kernel
theorem kl27 : (kTl 27).length = 5 := by decide +kernel
theorem kl28 : (kTl 28).length = 4 := by decide +kernel
theorem kl29 : (kTl 29).length = 1 := by decide +kernel
theorem kl30 : (kTl 30).length = 1 := by decide +kernel
theorem kl31 : (kTl 31).length = 3 := by decide +kernel
theorem kl32 : (kTl 32).length = 2 := by decide +kernel
theorem kl33 : (kTl 33).length = 6 := by decide +kernel
theorem kl34 : (kTl 34).length = 8 := by decide +kernel
theorem kl35 : (kTl 35).length = 2 := by decide +kernel
theorem kl36 : (kTl 36).length = 8 := by decide +kernel
theorem kl37 : (kTl 37).length = 6 := by decide +kernel
theorem kl38 : (kTl 38).length = 4 := by decide +kernel
theorem kl39 : (kTl 39).length = 1 := by decide +kernel
theorem kl40 : (kTl 40).length = 4 := by decide +kernel
theorem kl41 : (kTl 41).length = 1 := by decide +kernel
theorem kl42 : (kTl 42).length = 6 := by decide +kernel
theorem kl43 : (kTl 43).length = 4 := by decide +kernel
theorem kl44 : (kTl 44).length = 6 := by decide +kernel
theorem kl45 : (kTl 45).length = 6 := by decide +kernel
theorem kl46 : (kTl 46).length = 5 := by decide +kernel
theorem kl47 : (kTl 47).length = 4 := by decide +kernel
theorem kl48 : (kTl 48).length = 5 := by decide +kernel
theorem kl49 : (kTl 49).length = 5 := by decide +kernel
theorem kl50 : (kTl 50).length = 0 := by decide +kernel
theorem kl51 : (kTl 51).length = 6 := by decide +kernel
def txT : (d : Nat) → Tr d → List Nat
  | 0, _ => []
  | d + 1, x => match trQ x with
    | 0 => [] ++ kTl 2 ++ decL (trN x)
    | 1 => kTl 3
    | 2 => kTl 4
    | 3 => kTl 5
    | 4 => kTl 6
    | 5 => [] ++ kTl 7 ++ decL (trN x) ++ kTl 20
    | 6 => [] ++ kTl 8 ++ decL (trN x) ++ kTl 20
    | 7 => [] ++ kTl 21 ++ txT d (trL x) ++ kTl 22
    | 8 => [] ++ kTl 23 ++ txT d (trL x) ++ kTl 22
    | 9 => [] ++ kTl 24 ++ txT d (trL x) ++ kTl 22 ++ kTl 9 ++ kTl 24 ++ txT d (trR x) ++ kTl 22
    | 10 => [] ++ kTl 24 ++ txT d (trL x) ++ kTl 22 ++ kTl 10 ++ kTl 24 ++ txT d (trR x) ++ kTl 22
    | 11 => [] ++ kTl 24 ++ txT d (trL x) ++ kTl 22 ++ kTl 11 ++ kTl 24 ++ txT d (trR x) ++ kTl 22
    | 12 => [] ++ kTl 24 ++ txT d (trL x) ++ kTl 22 ++ kTl 12 ++ kTl 24 ++ txT d (trR x) ++ kTl 22
    | 13 => [] ++ kTl 13 ++ txT d (trL x) ++ kTl 25 ++ txT d (trR x) ++ kTl 22
    | 14 => [] ++ kTl 14 ++ txT d (trL x) ++ kTl 25 ++ txT d (trR x) ++ kTl 22
    | 20 => [] ++ txT d (trL x) ++ kTl 15 ++ txT d (trR x)
    | 21 => [] ++ txT d (trL x) ++ kTl 16 ++ txT d (trR x)
    | 22 => [] ++ txT d (trL x) ++ kTl 17 ++ txT d (trR x)
    | 23 => [] ++ txT d (trL x) ++ kTl 18 ++ txT d (trR x)
    | 24 => [] ++ txT d (trL x) ++ kTl 19 ++ txT d (trR x)
    | 25 => [] ++ kTl 26 ++ decL (trN x) ++ kTl 20
    | 26 => [] ++ kTl 27 ++ txT d (trL x)
    | 29 => [] ++ kTl 28 ++ txT d (trL x) ++ kTl 29
    | 30 => [] ++ kTl 30 ++ txT d (trL x) ++ kTl 29 ++ kTl 31 ++ kTl 30 ++ txT d (trR x) ++ kTl 29
    | _ => [] ++ kTl 30 ++ txT d (trL x) ++ kTl 29 ++ kTl 32 ++ kTl 30 ++ txT d (trR x) ++ kTl 29
theorem tx_0 {d : Nat} {x : Tr (d + 1)} (e : trQ x = 0) : txT (d + 1) x = [] ++ kTl 2 ++ decL (trN x) := by rw [txT, e]; rfl
theorem tx_1 {d : Nat} {x : Tr (d + 1)} (e : trQ x = 1) : txT (d + 1) x = kTl 3 := by rw [txT, e]; rfl
theorem tx_2 {d : Nat} {x : Tr (d + 1)} (e : trQ x = 2) : txT (d + 1) x = kTl 4 := by rw [txT, e]; rfl
theorem tx_3 {d : Nat} {x : Tr (d + 1)} (e : trQ x = 3) : txT (d + 1) x = kTl 5 := by rw [txT, e]; rfl
theorem tx_4 {d : Nat} {x : Tr (d + 1)} (e : trQ x = 4) : txT (d + 1) x = kTl 6 := by rw [txT, e]; rfl
theorem tx_5 {d : Nat} {x : Tr (d + 1)} (e : trQ x = 5) : txT (d + 1) x = [] ++ kTl 7 ++ decL (trN x) ++ kTl 20 := by rw [txT, e]; rfl
theorem tx_6 {d : Nat} {x : Tr (d + 1)} (e : trQ x = 6) : txT (d + 1) x = [] ++ kTl 8 ++ decL (trN x) ++ kTl 20 := by rw [txT, e]; rfl
theorem tx_7 {d : Nat} {x : Tr (d + 1)} (e : trQ x = 7) : txT (d + 1) x = [] ++ kTl 21 ++ txT d (trL x) ++ kTl 22 := by rw [txT, e]; rfl
theorem tx_8 {d : Nat} {x : Tr (d + 1)} (e : trQ x = 8) : txT (d + 1) x = [] ++ kTl 23 ++ txT d (trL x) ++ kTl 22 := by rw [txT, e]; rfl
theorem tx_9 {d : Nat} {x : Tr (d + 1)} (e : trQ x = 9) : txT (d + 1) x = [] ++ kTl 24 ++ txT d (trL x) ++ kTl 22 ++ kTl 9 ++ kTl 24 ++ txT d (trR x) ++ kTl 22 := by rw [txT, e]; rfl
theorem tx_10 {d : Nat} {x : Tr (d + 1)} (e : trQ x = 10) : txT (d + 1) x = [] ++ kTl 24 ++ txT d (trL x) ++ kTl 22 ++ kTl 10 ++ kTl 24 ++ txT d (trR x) ++ kTl 22 := by rw [txT, e]; rfl
theorem tx_11 {d : Nat} {x : Tr (d + 1)} (e : trQ x = 11) : txT (d + 1) x = [] ++ kTl 24 ++ txT d (trL x) ++ kTl 22 ++ kTl 11 ++ kTl 24 ++ txT d (trR x) ++ kTl 22 := by rw [txT, e]; rfl
theorem tx_12 {d : Nat} {x : Tr (d + 1)} (e : trQ x = 12) : txT (d + 1) x = [] ++ kTl 24 ++ txT d (trL x) ++ kTl 22 ++ kTl 12 ++ kTl 24 ++ txT d (trR x) ++ kTl 22 := by rw [txT, e]; rfl
theorem tx_13 {d : Nat} {x : Tr (d + 1)} (e : trQ x = 13) : txT (d + 1) x = [] ++ kTl 13 ++ txT d (trL x) ++ kTl 25 ++ txT d (trR x) ++ kTl 22 := by rw [txT, e]; rfl
theorem tx_14 {d : Nat} {x : Tr (d + 1)} (e : trQ x = 14) : txT (d + 1) x = [] ++ kTl 14 ++ txT d (trL x) ++ kTl 25 ++ txT d (trR x) ++ kTl 22 := by rw [txT, e]; rfl
theorem tx_20 {d : Nat} {x : Tr (d + 1)} (e : trQ x = 20) : txT (d + 1) x = [] ++ txT d (trL x) ++ kTl 15 ++ txT d (trR x) := by rw [txT, e]; rfl
theorem tx_21 {d : Nat} {x : Tr (d + 1)} (e : trQ x = 21) : txT (d + 1) x = [] ++ txT d (trL x) ++ kTl 16 ++ txT d (trR x) := by rw [txT, e]; rfl
theorem tx_22 {d : Nat} {x : Tr (d + 1)} (e : trQ x = 22) : txT (d + 1) x = [] ++ txT d (trL x) ++ kTl 17 ++ txT d (trR x) := by rw [txT, e]; rfl
theorem tx_23 {d : Nat} {x : Tr (d + 1)} (e : trQ x = 23) : txT (d + 1) x = [] ++ txT d (trL x) ++ kTl 18 ++ txT d (trR x) := by rw [txT, e]; rfl
theorem tx_24 {d : Nat} {x : Tr (d + 1)} (e : trQ x = 24) : txT (d + 1) x = [] ++ txT d (trL x) ++ kTl 19 ++ txT d (trR x) := by rw [txT, e]; rfl
theorem tx_25 {d : Nat} {x : Tr (d + 1)} (e : trQ x = 25) : txT (d + 1) x = [] ++ kTl 26 ++ decL (trN x) ++ kTl 20 := by rw [txT, e]; rfl
theorem tx_26 {d : Nat} {x : Tr (d + 1)} (e : trQ x = 26) : txT (d + 1) x = [] ++ kTl 27 ++ txT d (trL x) := by rw [txT, e]; rfl
theorem tx_29 {d : Nat} {x : Tr (d + 1)} (e : trQ x = 29) : txT (d + 1) x = [] ++ kTl 28 ++ txT d (trL x) ++ kTl 29 := by rw [txT, e]; rfl
theorem tx_30 {d : Nat} {x : Tr (d + 1)} (e : trQ x = 30) : txT (d + 1) x = [] ++ kTl 30 ++ txT d (trL x) ++ kTl 29 ++ kTl 31 ++ kTl 30 ++ txT d (trR x) ++ kTl 29 := by rw [txT, e]; rfl
theorem tx_31 {d : Nat} {x : Tr (d + 1)} (e : trQ x = 31) : txT (d + 1) x = [] ++ kTl 30 ++ txT d (trL x) ++ kTl 29 ++ kTl 32 ++ kTl 30 ++ txT d (trR x) ++ kTl 29 := by rw [txT, e]; rfl
theorem dg6 {v : Nat} (h : v < 1000000) : 1 ≤ sb_dg v ∧ sb_dg v ≤ 6 := by
  unfold sb_dg
  (repeat' split) <;> omega
theorem dgO {v : Nat} (h : v < 10) : sb_dg v = 1 := if_pos h
theorem tx_len {e : Nat} (he : e ≤ 3) : ∀ {d : Nat} {b : Bool} {x : Tr d}, trW e d b x → 2 * (txT d x).length + 14 ≤ 19 * 2 ^ d := by
  intro d
  induction d with
  | zero => intro b x h; exact h.elim
  | succ d ih =>
    intro b x h
    obtain ⟨w1, w2, w3, w4, w5⟩ := h
    have hp : 2 ^ (d + 1) = 2 * 2 ^ d := by rw [Nat.pow_succ]; omega
    have hp0 : 0 < 2 ^ d := Nat.two_pow_pos d
    have iA : knA (trQ x) → 2 * (txT d (trL x)).length + 14 ≤ 19 * 2 ^ d ∧ 2 ≤ 2 ^ d := fun hA => ⟨ih (w4 hA), by
      have h1 := w_d (w4 hA)
      have := Nat.pow_le_pow_right (show 0 < 2 by decide) h1
      omega⟩
    have iB : knB (trQ x) → 2 * (txT d (trR x)).length + 14 ≤ 19 * 2 ^ d := fun hB => ih (w5 hB)
    have n6 := dg6 w2
    have hk : trQ x ≤ 14 ∨ (20 ≤ trQ x ∧ trQ x ≤ 31 ∧ trQ x ≠ 27 ∧ trQ x ≠ 28) := by
      cases b
      · rw [if_neg (by decide)] at w1; exact Or.inl w1
      · rw [if_pos rfl] at w1; exact Or.inr w1
    rw [hp]
    rcases hk with hk | hk
    · rcases k_sums hk with h | h | h | h | h | h | h | h | h | h | h | h | h | h | h
      · rw [tx_0 h]
        simp only [List.length_append, List.length_nil, decL_len, kl2, kl3, kl4, kl5, kl6, kl7, kl8, kl9, kl10, kl11, kl12, kl13, kl14, kl15, kl16, kl17, kl18, kl19, kl20, kl21, kl22, kl23, kl24, kl25, kl26, kl27, kl28, kl29, kl30, kl31, kl32, kl33, kl34, kl35, kl36, kl37, kl38, kl39, kl40, kl41, kl42, kl43, kl44, kl45, kl46, kl47, kl48, kl49, kl50, kl51]
        omega
      · rw [tx_1 h]
        simp only [List.length_append, List.length_nil, decL_len, kl2, kl3, kl4, kl5, kl6, kl7, kl8, kl9, kl10, kl11, kl12, kl13, kl14, kl15, kl16, kl17, kl18, kl19, kl20, kl21, kl22, kl23, kl24, kl25, kl26, kl27, kl28, kl29, kl30, kl31, kl32, kl33, kl34, kl35, kl36, kl37, kl38, kl39, kl40, kl41, kl42, kl43, kl44, kl45, kl46, kl47, kl48, kl49, kl50, kl51]
        omega
      · rw [tx_2 h]
        simp only [List.length_append, List.length_nil, decL_len, kl2, kl3, kl4, kl5, kl6, kl7, kl8, kl9, kl10, kl11, kl12, kl13, kl14, kl15, kl16, kl17, kl18, kl19, kl20, kl21, kl22, kl23, kl24, kl25, kl26, kl27, kl28, kl29, kl30, kl31, kl32, kl33, kl34, kl35, kl36, kl37, kl38, kl39, kl40, kl41, kl42, kl43, kl44, kl45, kl46, kl47, kl48, kl49, kl50, kl51]
        omega
      · rw [tx_3 h]
        simp only [List.length_append, List.length_nil, decL_len, kl2, kl3, kl4, kl5, kl6, kl7, kl8, kl9, kl10, kl11, kl12, kl13, kl14, kl15, kl16, kl17, kl18, kl19, kl20, kl21, kl22, kl23, kl24, kl25, kl26, kl27, kl28, kl29, kl30, kl31, kl32, kl33, kl34, kl35, kl36, kl37, kl38, kl39, kl40, kl41, kl42, kl43, kl44, kl45, kl46, kl47, kl48, kl49, kl50, kl51]
        omega
      · rw [tx_4 h]
        simp only [List.length_append, List.length_nil, decL_len, kl2, kl3, kl4, kl5, kl6, kl7, kl8, kl9, kl10, kl11, kl12, kl13, kl14, kl15, kl16, kl17, kl18, kl19, kl20, kl21, kl22, kl23, kl24, kl25, kl26, kl27, kl28, kl29, kl30, kl31, kl32, kl33, kl34, kl35, kl36, kl37, kl38, kl39, kl40, kl41, kl42, kl43, kl44, kl45, kl46, kl47, kl48, kl49, kl50, kl51]
        omega
      · rw [tx_5 h]
        simp only [List.length_append, List.length_nil, decL_len, kl2, kl3, kl4, kl5, kl6, kl7, kl8, kl9, kl10, kl11, kl12, kl13, kl14, kl15, kl16, kl17, kl18, kl19, kl20, kl21, kl22, kl23, kl24, kl25, kl26, kl27, kl28, kl29, kl30, kl31, kl32, kl33, kl34, kl35, kl36, kl37, kl38, kl39, kl40, kl41, kl42, kl43, kl44, kl45, kl46, kl47, kl48, kl49, kl50, kl51]
        have := dgO (v := trN x) (by have := w3 (by omega); omega)
        omega
      · rw [tx_6 h]
        simp only [List.length_append, List.length_nil, decL_len, kl2, kl3, kl4, kl5, kl6, kl7, kl8, kl9, kl10, kl11, kl12, kl13, kl14, kl15, kl16, kl17, kl18, kl19, kl20, kl21, kl22, kl23, kl24, kl25, kl26, kl27, kl28, kl29, kl30, kl31, kl32, kl33, kl34, kl35, kl36, kl37, kl38, kl39, kl40, kl41, kl42, kl43, kl44, kl45, kl46, kl47, kl48, kl49, kl50, kl51]
        have := dgO (v := trN x) (by have := w3 (by omega); omega)
        omega
      · rw [tx_7 h]
        simp only [List.length_append, List.length_nil, decL_len, kl2, kl3, kl4, kl5, kl6, kl7, kl8, kl9, kl10, kl11, kl12, kl13, kl14, kl15, kl16, kl17, kl18, kl19, kl20, kl21, kl22, kl23, kl24, kl25, kl26, kl27, kl28, kl29, kl30, kl31, kl32, kl33, kl34, kl35, kl36, kl37, kl38, kl39, kl40, kl41, kl42, kl43, kl44, kl45, kl46, kl47, kl48, kl49, kl50, kl51]
        have a1 := iA (by rw [h]; exact ⟨by decide, by decide⟩)
        omega
      · rw [tx_8 h]
        simp only [List.length_append, List.length_nil, decL_len, kl2, kl3, kl4, kl5, kl6, kl7, kl8, kl9, kl10, kl11, kl12, kl13, kl14, kl15, kl16, kl17, kl18, kl19, kl20, kl21, kl22, kl23, kl24, kl25, kl26, kl27, kl28, kl29, kl30, kl31, kl32, kl33, kl34, kl35, kl36, kl37, kl38, kl39, kl40, kl41, kl42, kl43, kl44, kl45, kl46, kl47, kl48, kl49, kl50, kl51]
        have a1 := iA (by rw [h]; exact ⟨by decide, by decide⟩)
        omega
      · rw [tx_9 h]
        simp only [List.length_append, List.length_nil, decL_len, kl2, kl3, kl4, kl5, kl6, kl7, kl8, kl9, kl10, kl11, kl12, kl13, kl14, kl15, kl16, kl17, kl18, kl19, kl20, kl21, kl22, kl23, kl24, kl25, kl26, kl27, kl28, kl29, kl30, kl31, kl32, kl33, kl34, kl35, kl36, kl37, kl38, kl39, kl40, kl41, kl42, kl43, kl44, kl45, kl46, kl47, kl48, kl49, kl50, kl51]
        have a1 := iA (by rw [h]; exact ⟨by decide, by decide⟩)
        have b1 := iB (by rw [h]; exact ⟨by decide, by decide, by decide, by decide⟩)
        omega
      · rw [tx_10 h]
        simp only [List.length_append, List.length_nil, decL_len, kl2, kl3, kl4, kl5, kl6, kl7, kl8, kl9, kl10, kl11, kl12, kl13, kl14, kl15, kl16, kl17, kl18, kl19, kl20, kl21, kl22, kl23, kl24, kl25, kl26, kl27, kl28, kl29, kl30, kl31, kl32, kl33, kl34, kl35, kl36, kl37, kl38, kl39, kl40, kl41, kl42, kl43, kl44, kl45, kl46, kl47, kl48, kl49, kl50, kl51]
        have a1 := iA (by rw [h]; exact ⟨by decide, by decide⟩)
        have b1 := iB (by rw [h]; exact ⟨by decide, by decide, by decide, by decide⟩)
        omega
      · rw [tx_11 h]
        simp only [List.length_append, List.length_nil, decL_len, kl2, kl3, kl4, kl5, kl6, kl7, kl8, kl9, kl10, kl11, kl12, kl13, kl14, kl15, kl16, kl17, kl18, kl19, kl20, kl21, kl22, kl23, kl24, kl25, kl26, kl27, kl28, kl29, kl30, kl31, kl32, kl33, kl34, kl35, kl36, kl37, kl38, kl39, kl40, kl41, kl42, kl43, kl44, kl45, kl46, kl47, kl48, kl49, kl50, kl51]
        have a1 := iA (by rw [h]; exact ⟨by decide, by decide⟩)
        have b1 := iB (by rw [h]; exact ⟨by decide, by decide, by decide, by decide⟩)
        omega
      · rw [tx_12 h]
        simp only [List.length_append, List.length_nil, decL_len, kl2, kl3, kl4, kl5, kl6, kl7, kl8, kl9, kl10, kl11, kl12, kl13, kl14, kl15, kl16, kl17, kl18, kl19, kl20, kl21, kl22, kl23, kl24, kl25, kl26, kl27, kl28, kl29, kl30, kl31, kl32, kl33, kl34, kl35, kl36, kl37, kl38, kl39, kl40, kl41, kl42, kl43, kl44, kl45, kl46, kl47, kl48, kl49, kl50, kl51]
        have a1 := iA (by rw [h]; exact ⟨by decide, by decide⟩)
        have b1 := iB (by rw [h]; exact ⟨by decide, by decide, by decide, by decide⟩)
        omega
      · rw [tx_13 h]
        simp only [List.length_append, List.length_nil, decL_len, kl2, kl3, kl4, kl5, kl6, kl7, kl8, kl9, kl10, kl11, kl12, kl13, kl14, kl15, kl16, kl17, kl18, kl19, kl20, kl21, kl22, kl23, kl24, kl25, kl26, kl27, kl28, kl29, kl30, kl31, kl32, kl33, kl34, kl35, kl36, kl37, kl38, kl39, kl40, kl41, kl42, kl43, kl44, kl45, kl46, kl47, kl48, kl49, kl50, kl51]
        have a1 := iA (by rw [h]; exact ⟨by decide, by decide⟩)
        have b1 := iB (by rw [h]; exact ⟨by decide, by decide, by decide, by decide⟩)
        omega
      · rw [tx_14 h]
        simp only [List.length_append, List.length_nil, decL_len, kl2, kl3, kl4, kl5, kl6, kl7, kl8, kl9, kl10, kl11, kl12, kl13, kl14, kl15, kl16, kl17, kl18, kl19, kl20, kl21, kl22, kl23, kl24, kl25, kl26, kl27, kl28, kl29, kl30, kl31, kl32, kl33, kl34, kl35, kl36, kl37, kl38, kl39, kl40, kl41, kl42, kl43, kl44, kl45, kl46, kl47, kl48, kl49, kl50, kl51]
        have a1 := iA (by rw [h]; exact ⟨by decide, by decide⟩)
        have b1 := iB (by rw [h]; exact ⟨by decide, by decide, by decide, by decide⟩)
        omega
    · rcases k_tests hk with h | h | h | h | h | h | h | h | h | h
      · rw [tx_20 h]
        simp only [List.length_append, List.length_nil, decL_len, kl2, kl3, kl4, kl5, kl6, kl7, kl8, kl9, kl10, kl11, kl12, kl13, kl14, kl15, kl16, kl17, kl18, kl19, kl20, kl21, kl22, kl23, kl24, kl25, kl26, kl27, kl28, kl29, kl30, kl31, kl32, kl33, kl34, kl35, kl36, kl37, kl38, kl39, kl40, kl41, kl42, kl43, kl44, kl45, kl46, kl47, kl48, kl49, kl50, kl51]
        have a1 := iA (by rw [h]; exact ⟨by decide, by decide⟩)
        have b1 := iB (by rw [h]; exact ⟨by decide, by decide, by decide, by decide⟩)
        omega
      · rw [tx_21 h]
        simp only [List.length_append, List.length_nil, decL_len, kl2, kl3, kl4, kl5, kl6, kl7, kl8, kl9, kl10, kl11, kl12, kl13, kl14, kl15, kl16, kl17, kl18, kl19, kl20, kl21, kl22, kl23, kl24, kl25, kl26, kl27, kl28, kl29, kl30, kl31, kl32, kl33, kl34, kl35, kl36, kl37, kl38, kl39, kl40, kl41, kl42, kl43, kl44, kl45, kl46, kl47, kl48, kl49, kl50, kl51]
        have a1 := iA (by rw [h]; exact ⟨by decide, by decide⟩)
        have b1 := iB (by rw [h]; exact ⟨by decide, by decide, by decide, by decide⟩)
        omega
      · rw [tx_22 h]
        simp only [List.length_append, List.length_nil, decL_len, kl2, kl3, kl4, kl5, kl6, kl7, kl8, kl9, kl10, kl11, kl12, kl13, kl14, kl15, kl16, kl17, kl18, kl19, kl20, kl21, kl22, kl23, kl24, kl25, kl26, kl27, kl28, kl29, kl30, kl31, kl32, kl33, kl34, kl35, kl36, kl37, kl38, kl39, kl40, kl41, kl42, kl43, kl44, kl45, kl46, kl47, kl48, kl49, kl50, kl51]
        have a1 := iA (by rw [h]; exact ⟨by decide, by decide⟩)
        have b1 := iB (by rw [h]; exact ⟨by decide, by decide, by decide, by decide⟩)
        omega
      · rw [tx_23 h]
        simp only [List.length_append, List.length_nil, decL_len, kl2, kl3, kl4, kl5, kl6, kl7, kl8, kl9, kl10, kl11, kl12, kl13, kl14, kl15, kl16, kl17, kl18, kl19, kl20, kl21, kl22, kl23, kl24, kl25, kl26, kl27, kl28, kl29, kl30, kl31, kl32, kl33, kl34, kl35, kl36, kl37, kl38, kl39, kl40, kl41, kl42, kl43, kl44, kl45, kl46, kl47, kl48, kl49, kl50, kl51]
        have a1 := iA (by rw [h]; exact ⟨by decide, by decide⟩)
        have b1 := iB (by rw [h]; exact ⟨by decide, by decide, by decide, by decide⟩)
        omega
      · rw [tx_24 h]
        simp only [List.length_append, List.length_nil, decL_len, kl2, kl3, kl4, kl5, kl6, kl7, kl8, kl9, kl10, kl11, kl12, kl13, kl14, kl15, kl16, kl17, kl18, kl19, kl20, kl21, kl22, kl23, kl24, kl25, kl26, kl27, kl28, kl29, kl30, kl31, kl32, kl33, kl34, kl35, kl36, kl37, kl38, kl39, kl40, kl41, kl42, kl43, kl44, kl45, kl46, kl47, kl48, kl49, kl50, kl51]
        have a1 := iA (by rw [h]; exact ⟨by decide, by decide⟩)
        have b1 := iB (by rw [h]; exact ⟨by decide, by decide, by decide, by decide⟩)
        omega
      · rw [tx_25 h]
        simp only [List.length_append, List.length_nil, decL_len, kl2, kl3, kl4, kl5, kl6, kl7, kl8, kl9, kl10, kl11, kl12, kl13, kl14, kl15, kl16, kl17, kl18, kl19, kl20, kl21, kl22, kl23, kl24, kl25, kl26, kl27, kl28, kl29, kl30, kl31, kl32, kl33, kl34, kl35, kl36, kl37, kl38, kl39, kl40, kl41, kl42, kl43, kl44, kl45, kl46, kl47, kl48, kl49, kl50, kl51]
        have := dgO (v := trN x) (by have := w3 (by omega); omega)
        omega
      · rw [tx_26 h]
        simp only [List.length_append, List.length_nil, decL_len, kl2, kl3, kl4, kl5, kl6, kl7, kl8, kl9, kl10, kl11, kl12, kl13, kl14, kl15, kl16, kl17, kl18, kl19, kl20, kl21, kl22, kl23, kl24, kl25, kl26, kl27, kl28, kl29, kl30, kl31, kl32, kl33, kl34, kl35, kl36, kl37, kl38, kl39, kl40, kl41, kl42, kl43, kl44, kl45, kl46, kl47, kl48, kl49, kl50, kl51]
        have a1 := iA (by rw [h]; exact ⟨by decide, by decide⟩)
        omega
      · rw [tx_29 h]
        simp only [List.length_append, List.length_nil, decL_len, kl2, kl3, kl4, kl5, kl6, kl7, kl8, kl9, kl10, kl11, kl12, kl13, kl14, kl15, kl16, kl17, kl18, kl19, kl20, kl21, kl22, kl23, kl24, kl25, kl26, kl27, kl28, kl29, kl30, kl31, kl32, kl33, kl34, kl35, kl36, kl37, kl38, kl39, kl40, kl41, kl42, kl43, kl44, kl45, kl46, kl47, kl48, kl49, kl50, kl51]
        have a1 := iA (by rw [h]; exact ⟨by decide, by decide⟩)
        omega
      · rw [tx_30 h]
        simp only [List.length_append, List.length_nil, decL_len, kl2, kl3, kl4, kl5, kl6, kl7, kl8, kl9, kl10, kl11, kl12, kl13, kl14, kl15, kl16, kl17, kl18, kl19, kl20, kl21, kl22, kl23, kl24, kl25, kl26, kl27, kl28, kl29, kl30, kl31, kl32, kl33, kl34, kl35, kl36, kl37, kl38, kl39, kl40, kl41, kl42, kl43, kl44, kl45, kl46, kl47, kl48, kl49, kl50, kl51]
        have a1 := iA (by rw [h]; exact ⟨by decide, by decide⟩)
        have b1 := iB (by rw [h]; exact ⟨by decide, by decide, by decide, by decide⟩)
        omega
      · rw [tx_31 h]
        simp only [List.length_append, List.length_nil, decL_len, kl2, kl3, kl4, kl5, kl6, kl7, kl8, kl9, kl10, kl11, kl12, kl13, kl14, kl15, kl16, kl17, kl18, kl19, kl20, kl21, kl22, kl23, kl24, kl25, kl26, kl27, kl28, kl29, kl30, kl31, kl32, kl33, kl34, kl35, kl36, kl37, kl38, kl39, kl40, kl41, kl42, kl43, kl44, kl45, kl46, kl47, kl48, kl49, kl50, kl51]
        have a1 := iA (by rw [h]; exact ⟨by decide, by decide⟩)
        have b1 := iB (by rw [h]; exact ⟨by decide, by decide, by decide, by decide⟩)
        omega
section TEXT
variable {Z : gZ}
/-- the three rows of words -/
def rowS (Z : gZ) (H : gH) (q n s : Nat) : Prop := ∃ f, hpG H q = some (qE (zY Z 7) n f) ∧ ∀ j, j < n → f j = some (Z.1 (s + j))
theorem rowS.nf {H H' : gH} {q n s : Nat} (h : rowS Z H q n s) (hf : Fr (fun _ => False) H H') : rowS Z H' q n s := by
  obtain ⟨f, h1, h2⟩ := h
  exact ⟨f, hf _ _ h1 (fun z => z), h2⟩
theorem tx_108 {e : Nat} (he : e ≤ 3) {d P : Nat} {H0 H : gH} {p q1 q2 q3 bc bs : Nat} {b : Bool} {x : Tr (d + 1)} {K : Nat → gH → Prop} {rec : gH → Nat → Nat → Nat → (Nat → gH → Prop) → Prop}
    (hr : ∀ (c : Bool) (H : gH) (a : Nat) (y : Tr d) (K : Nat → gH → Prop), trA (fun _ => True) H d a y → trW e d c y → (∀ r H', stX Z H' r (txT d y) → Fr (fun _ => False) H H' → K r H') → rec H (15 * P) (26000 * P) a K)
    (hF : Fr (fun _ => False) H0 H) (r1 : rowS Z H q1 7 2) (r2 : rowS Z H q2 6 9) (r3 : rowS Z H q3 5 15) (ht : trA (fun _ => True) H (d + 1) p x) (hw : trW e (d + 1) b x) (hd : d ≤ 3) (hbc : 30 * P + 12 ≤ bc) (hbs : 52000 * P + 25900 ≤ bs)
    (k : ∀ r H', stX Z H' r (txT (d + 1) x) → Fr (fun _ => False) H H' → K r H') : wX10_text_108 rec K Z H bc bs p q1 q2 q3 := by
  obtain ⟨-, va, vb, t1, t2, t3⟩ := ht
  have hwL := tx_len he hw
  obtain ⟨w1, w2, w3, w4, w5⟩ := hw
  have k31 : trQ x ≤ 31 := by
    cases b
    · rw [if_neg (by decide)] at w1; omega
    · rw [if_pos rfl] at w1; omega
  have hk : trQ x ≤ 14 ∨ (20 ≤ trQ x ∧ trQ x ≤ 31 ∧ trQ x ≠ 27 ∧ trQ x ≠ 28) := by
    cases b
    · rw [if_neg (by decide)] at w1; exact Or.inl w1
    · rw [if_pos rfl] at w1; exact Or.inr w1
  have p4 : 2 ^ d ≤ 8 := by
    have := Nat.pow_le_pow_right (show 0 < 2 by decide) hd
    exact this
  have lA : knA (trQ x) → (txT d (trL x)).length ≤ 80 := fun hA => by have := tx_len he (w4 hA); omega
  have lB : knB (trQ x) → (txT d (trR x)).length ≤ 80 := fun hB => by have := tx_len he (w5 hB); omega
  have n6 := dg6 w2
  -- the kind is asked
  have kd : ∀ {H' : gH}, Fr (fun _ => False) H H' → gF H' p 9 0 (.int (nI (trQ x))) := fun hf => gF_of (hf _ _ t1 (fun z => z)) rfl
  have kn : ∀ {H' : gH}, Fr (fun _ => False) H H' → gF H' p 9 1 (.int (nI (trN x))) := fun hf => gF_of (hf _ _ t1 (fun z => z)) rfl
  have k0 := kd (Fr.refl (X := fun _ => False) (H := H))
  have ne : ∀ j : Nat, j < 100 → trQ x ≠ j → ¬ nI (trQ x) = nI j := fun j hj hn y => hn ((nI_eq (by omega) (by omega)).mp y)
  have kA : ∀ {H' : gH}, Fr (fun _ => False) H H' → knA (trQ x) → ∃ a, gF H' p 9 2 (.ref a) ∧ (∃ fs, hpG H' a = some (.inr (9, fs))) ∧ trA (fun _ => True) H' d a (trL x) := fun hf hA => by
    obtain ⟨a, e1, e2⟩ := t2 hA
    subst e1
    have e3 := e2.k9 (Kp9.nf hf)
    exact ⟨a, gF_of (hf _ _ t1 (fun z => z)) rfl, trA_9 e3, e3⟩
  have kB : ∀ {H' : gH}, Fr (fun _ => False) H H' → knB (trQ x) → ∃ a, gF H' p 9 3 (.ref a) ∧ (∃ fs, hpG H' a = some (.inr (9, fs))) ∧ trA (fun _ => True) H' d a (trR x) := fun hf hB => by
    obtain ⟨a, e1, e2⟩ := t3 hB
    subst e1
    have e3 := e2.k9 (Kp9.nf hf)
    exact ⟨a, gF_of (hf _ _ t1 (fun z => z)) rfl, trA_9 e3, e3⟩
  unfold wX10_text_108
  refine ⟨_, k0, ?_⟩
  rcases hk with hk | hk
  · rcases k_sums hk with h | h | h | h | h | h | h | h | h | h | h | h | h | h | h
    · rw [h] at k0 kd ne ⊢
      have k0 : gF H p 9 0 (.int (nI 0)) := k0
      refine bn_t rfl ?_
      refine ⟨by omega, by omega, fun q hq => bd_new Fr.refl hq (by omega) (by omega) (fun Hn B => ?_)⟩
      have eq : trQ x = 0 := h
      refine bd_K (i := 2) (by decide) B (by simp only [List.length_append, List.length_nil, decL_len, kl2, kl3, kl4, kl5, kl6, kl7, kl8, kl9, kl10, kl11, kl12, kl13, kl14, kl15, kl16, kl17, kl18, kl19, kl20, kl21, kl22, kl23, kl24, kl25, kl26, kl27, kl28, kl29, kl30, kl31, kl32, kl33, kl34, kl35, kl36, kl37, kl38, kl39, kl40, kl41, kl42, kl43, kl44, kl45, kl46, kl47, kl48, kl49, kl50, kl51]; omega) (by omega) (by omega) (fun Hn B => ?_)
      refine ⟨_, kn B.2.2, bd_I w2 B (by simp only [List.length_append, List.length_nil, decL_len, kl2, kl3, kl4, kl5, kl6, kl7, kl8, kl9, kl10, kl11, kl12, kl13, kl14, kl15, kl16, kl17, kl18, kl19, kl20, kl21, kl22, kl23, kl24, kl25, kl26, kl27, kl28, kl29, kl30, kl31, kl32, kl33, kl34, kl35, kl36, kl37, kl38, kl39, kl40, kl41, kl42, kl43, kl44, kl45, kl46, kl47, kl48, kl49, kl50, kl51]; omega) (by omega) (by omega) (fun Hn B => ?_)⟩
      refine bd_end B (by simp only [List.length_append, List.length_nil, decL_len, kl2, kl3, kl4, kl5, kl6, kl7, kl8, kl9, kl10, kl11, kl12, kl13, kl14, kl15, kl16, kl17, kl18, kl19, kl20, kl21, kl22, kl23, kl24, kl25, kl26, kl27, kl28, kl29, kl30, kl31, kl32, kl33, kl34, kl35, kl36, kl37, kl38, kl39, kl40, kl41, kl42, kl43, kl44, kl45, kl46, kl47, kl48, kl49, kl50, kl51]; omega) (by omega) (by omega) (fun r w Hr sr _ _ _ Fr1 => k r Hr ?_ Fr1)
      rw [tx_0 eq]
      exact Or.inl ⟨w, sr⟩
    · rw [h] at k0 kd ne ⊢
      have k0 : gF H p 9 0 (.int (nI 1)) := k0
      refine bn_f (by decide) ⟨_, k0, ?_⟩
      obtain ⟨fr, fr1, fr2⟩ := r1
      refine br_f (by decide) ⟨_, k0, 7, fr, Z.1 3, fr1, by unfold vp_in; decide, fr2 1 (by decide), k _ _ ?_ Fr.refl⟩
      rw [tx_1 h]
      exact Or.inr ⟨3, by decide, rfl, rfl⟩
    · rw [h] at k0 kd ne ⊢
      have k0 : gF H p 9 0 (.int (nI 2)) := k0
      refine bn_f (by decide) ⟨_, k0, ?_⟩
      obtain ⟨fr, fr1, fr2⟩ := r1
      refine br_f (by decide) ⟨_, k0, 7, fr, Z.1 4, fr1, by unfold vp_in; decide, fr2 2 (by decide), k _ _ ?_ Fr.refl⟩
      rw [tx_2 h]
      exact Or.inr ⟨4, by decide, rfl, rfl⟩
    · rw [h] at k0 kd ne ⊢
      have k0 : gF H p 9 0 (.int (nI 3)) := k0
      refine bn_f (by decide) ⟨_, k0, ?_⟩
      obtain ⟨fr, fr1, fr2⟩ := r1
      refine br_f (by decide) ⟨_, k0, 7, fr, Z.1 5, fr1, by unfold vp_in; decide, fr2 3 (by decide), k _ _ ?_ Fr.refl⟩
      rw [tx_3 h]
      exact Or.inr ⟨5, by decide, rfl, rfl⟩
    · rw [h] at k0 kd ne ⊢
      have k0 : gF H p 9 0 (.int (nI 4)) := k0
      refine bn_f (by decide) ⟨_, k0, ?_⟩
      obtain ⟨fr, fr1, fr2⟩ := r1
      refine br_f (by decide) ⟨_, k0, 7, fr, Z.1 6, fr1, by unfold vp_in; decide, fr2 4 (by decide), k _ _ ?_ Fr.refl⟩
      rw [tx_4 h]
      exact Or.inr ⟨6, by decide, rfl, rfl⟩
    · rw [h] at k0 kd ne ⊢
      have k0 : gF H p 9 0 (.int (nI 5)) := k0
      refine bn_f (by decide) ⟨_, k0, ?_⟩
      refine br_t (by decide) ⟨_, k0, ?_⟩
      refine br_f (by decide) ?_
      refine ⟨by omega, by omega, fun q hq => bd_new Fr.refl hq (by omega) (by omega) (fun Hn B => ?_)⟩
      have eq : trQ x = 5 := h
      obtain ⟨fr, fr1, fr2⟩ := r1.nf B.2.2
      refine ⟨_, kd B.2.2, 7, fr, Z.1 7, fr1, ?_, ?_, ?_⟩
      · unfold vp_in; decide
      · exact fr2 5 (by decide)
      refine bd_K (i := 7) (by decide) B (by simp only [List.length_append, List.length_nil, decL_len, kl2, kl3, kl4, kl5, kl6, kl7, kl8, kl9, kl10, kl11, kl12, kl13, kl14, kl15, kl16, kl17, kl18, kl19, kl20, kl21, kl22, kl23, kl24, kl25, kl26, kl27, kl28, kl29, kl30, kl31, kl32, kl33, kl34, kl35, kl36, kl37, kl38, kl39, kl40, kl41, kl42, kl43, kl44, kl45, kl46, kl47, kl48, kl49, kl50, kl51]; omega) (by omega) (by omega) (fun Hn B => ?_)
      clear fr1 fr2
      refine ⟨_, kn B.2.2, bd_I w2 B (by simp only [List.length_append, List.length_nil, decL_len, kl2, kl3, kl4, kl5, kl6, kl7, kl8, kl9, kl10, kl11, kl12, kl13, kl14, kl15, kl16, kl17, kl18, kl19, kl20, kl21, kl22, kl23, kl24, kl25, kl26, kl27, kl28, kl29, kl30, kl31, kl32, kl33, kl34, kl35, kl36, kl37, kl38, kl39, kl40, kl41, kl42, kl43, kl44, kl45, kl46, kl47, kl48, kl49, kl50, kl51]; omega) (by omega) (by omega) (fun Hn B => ?_)⟩
      refine bd_K (i := 20) (by decide) B (by simp only [List.length_append, List.length_nil, decL_len, kl2, kl3, kl4, kl5, kl6, kl7, kl8, kl9, kl10, kl11, kl12, kl13, kl14, kl15, kl16, kl17, kl18, kl19, kl20, kl21, kl22, kl23, kl24, kl25, kl26, kl27, kl28, kl29, kl30, kl31, kl32, kl33, kl34, kl35, kl36, kl37, kl38, kl39, kl40, kl41, kl42, kl43, kl44, kl45, kl46, kl47, kl48, kl49, kl50, kl51]; omega) (by omega) (by omega) (fun Hn B => ?_)
      refine bd_end B (by simp only [List.length_append, List.length_nil, decL_len, kl2, kl3, kl4, kl5, kl6, kl7, kl8, kl9, kl10, kl11, kl12, kl13, kl14, kl15, kl16, kl17, kl18, kl19, kl20, kl21, kl22, kl23, kl24, kl25, kl26, kl27, kl28, kl29, kl30, kl31, kl32, kl33, kl34, kl35, kl36, kl37, kl38, kl39, kl40, kl41, kl42, kl43, kl44, kl45, kl46, kl47, kl48, kl49, kl50, kl51]; omega) (by omega) (by omega) (fun r w Hr sr _ _ _ Fr1 => k r Hr ?_ Fr1)
      rw [tx_5 eq]
      exact Or.inl ⟨w, sr⟩
    · rw [h] at k0 kd ne ⊢
      have k0 : gF H p 9 0 (.int (nI 6)) := k0
      refine bn_f (by decide) ⟨_, k0, ?_⟩
      refine br_t (by decide) ⟨_, k0, ?_⟩
      refine br_f (by decide) ?_
      refine ⟨by omega, by omega, fun q hq => bd_new Fr.refl hq (by omega) (by omega) (fun Hn B => ?_)⟩
      have eq : trQ x = 6 := h
      obtain ⟨fr, fr1, fr2⟩ := r1.nf B.2.2
      refine ⟨_, kd B.2.2, 7, fr, Z.1 8, fr1, ?_, ?_, ?_⟩
      · unfold vp_in; decide
      · exact fr2 6 (by decide)
      refine bd_K (i := 8) (by decide) B (by simp only [List.length_append, List.length_nil, decL_len, kl2, kl3, kl4, kl5, kl6, kl7, kl8, kl9, kl10, kl11, kl12, kl13, kl14, kl15, kl16, kl17, kl18, kl19, kl20, kl21, kl22, kl23, kl24, kl25, kl26, kl27, kl28, kl29, kl30, kl31, kl32, kl33, kl34, kl35, kl36, kl37, kl38, kl39, kl40, kl41, kl42, kl43, kl44, kl45, kl46, kl47, kl48, kl49, kl50, kl51]; omega) (by omega) (by omega) (fun Hn B => ?_)
      clear fr1 fr2
      refine ⟨_, kn B.2.2, bd_I w2 B (by simp only [List.length_append, List.length_nil, decL_len, kl2, kl3, kl4, kl5, kl6, kl7, kl8, kl9, kl10, kl11, kl12, kl13, kl14, kl15, kl16, kl17, kl18, kl19, kl20, kl21, kl22, kl23, kl24, kl25, kl26, kl27, kl28, kl29, kl30, kl31, kl32, kl33, kl34, kl35, kl36, kl37, kl38, kl39, kl40, kl41, kl42, kl43, kl44, kl45, kl46, kl47, kl48, kl49, kl50, kl51]; omega) (by omega) (by omega) (fun Hn B => ?_)⟩
      refine bd_K (i := 20) (by decide) B (by simp only [List.length_append, List.length_nil, decL_len, kl2, kl3, kl4, kl5, kl6, kl7, kl8, kl9, kl10, kl11, kl12, kl13, kl14, kl15, kl16, kl17, kl18, kl19, kl20, kl21, kl22, kl23, kl24, kl25, kl26, kl27, kl28, kl29, kl30, kl31, kl32, kl33, kl34, kl35, kl36, kl37, kl38, kl39, kl40, kl41, kl42, kl43, kl44, kl45, kl46, kl47, kl48, kl49, kl50, kl51]; omega) (by omega) (by omega) (fun Hn B => ?_)
      refine bd_end B (by simp only [List.length_append, List.length_nil, decL_len, kl2, kl3, kl4, kl5, kl6, kl7, kl8, kl9, kl10, kl11, kl12, kl13, kl14, kl15, kl16, kl17, kl18, kl19, kl20, kl21, kl22, kl23, kl24, kl25, kl26, kl27, kl28, kl29, kl30, kl31, kl32, kl33, kl34, kl35, kl36, kl37, kl38, kl39, kl40, kl41, kl42, kl43, kl44, kl45, kl46, kl47, kl48, kl49, kl50, kl51]; omega) (by omega) (by omega) (fun r w Hr sr _ _ _ Fr1 => k r Hr ?_ Fr1)
      rw [tx_6 eq]
      exact Or.inl ⟨w, sr⟩
    · rw [h] at k0 kd ne ⊢
      have k0 : gF H p 9 0 (.int (nI 7)) := k0
      refine bn_f (by decide) ⟨_, k0, ?_⟩
      refine br_t (by decide) ⟨_, k0, ?_⟩
      refine br_t (by decide) ⟨_, k0, ?_⟩
      refine bn_t rfl ?_
      refine ⟨by omega, by omega, fun q hq => bd_new Fr.refl hq (by omega) (by omega) (fun Hn B => ?_)⟩
      have eq : trQ x = 7 := h
      have hA : knA (trQ x) := by rw [eq]; exact ⟨by decide, by decide⟩
      have la := lA hA
      refine bd_K (i := 21) (by decide) B (by simp only [List.length_append, List.length_nil, decL_len, kl2, kl3, kl4, kl5, kl6, kl7, kl8, kl9, kl10, kl11, kl12, kl13, kl14, kl15, kl16, kl17, kl18, kl19, kl20, kl21, kl22, kl23, kl24, kl25, kl26, kl27, kl28, kl29, kl30, kl31, kl32, kl33, kl34, kl35, kl36, kl37, kl38, kl39, kl40, kl41, kl42, kl43, kl44, kl45, kl46, kl47, kl48, kl49, kl50, kl51]; omega) (by omega) (by omega) (fun Hn B => ?_)
      obtain ⟨a, ga, ca, ta⟩ := kA B.2.2 hA
      refine ⟨a, ga, ca, 15 * P, 26000 * P, by omega, by omega, hr _ _ a _ _ ta (w4 hA) (fun r Hr sr Fr1 => ?_)⟩
      replace B := B.nf Fr1
      refine bd_X B sr (by simp only [List.length_append, List.length_nil, decL_len, kl2, kl3, kl4, kl5, kl6, kl7, kl8, kl9, kl10, kl11, kl12, kl13, kl14, kl15, kl16, kl17, kl18, kl19, kl20, kl21, kl22, kl23, kl24, kl25, kl26, kl27, kl28, kl29, kl30, kl31, kl32, kl33, kl34, kl35, kl36, kl37, kl38, kl39, kl40, kl41, kl42, kl43, kl44, kl45, kl46, kl47, kl48, kl49, kl50, kl51]; omega) (by omega) (by omega) (fun Hn B => ?_)
      clear ga ca ta sr Fr1
      refine bd_K (i := 22) (by decide) B (by simp only [List.length_append, List.length_nil, decL_len, kl2, kl3, kl4, kl5, kl6, kl7, kl8, kl9, kl10, kl11, kl12, kl13, kl14, kl15, kl16, kl17, kl18, kl19, kl20, kl21, kl22, kl23, kl24, kl25, kl26, kl27, kl28, kl29, kl30, kl31, kl32, kl33, kl34, kl35, kl36, kl37, kl38, kl39, kl40, kl41, kl42, kl43, kl44, kl45, kl46, kl47, kl48, kl49, kl50, kl51]; omega) (by omega) (by omega) (fun Hn B => ?_)
      refine bd_end B (by simp only [List.length_append, List.length_nil, decL_len, kl2, kl3, kl4, kl5, kl6, kl7, kl8, kl9, kl10, kl11, kl12, kl13, kl14, kl15, kl16, kl17, kl18, kl19, kl20, kl21, kl22, kl23, kl24, kl25, kl26, kl27, kl28, kl29, kl30, kl31, kl32, kl33, kl34, kl35, kl36, kl37, kl38, kl39, kl40, kl41, kl42, kl43, kl44, kl45, kl46, kl47, kl48, kl49, kl50, kl51]; omega) (by omega) (by omega) (fun r w Hr sr _ _ _ Fr1 => k r Hr ?_ Fr1)
      rw [tx_7 eq]
      exact Or.inl ⟨w, sr⟩
    · rw [h] at k0 kd ne ⊢
      have k0 : gF H p 9 0 (.int (nI 8)) := k0
      refine bn_f (by decide) ⟨_, k0, ?_⟩
      refine br_t (by decide) ⟨_, k0, ?_⟩
      refine br_t (by decide) ⟨_, k0, ?_⟩
      refine bn_f (by decide) ⟨_, k0, ?_⟩
      refine bn_t rfl ?_
      refine ⟨by omega, by omega, fun q hq => bd_new Fr.refl hq (by omega) (by omega) (fun Hn B => ?_)⟩
      have eq : trQ x = 8 := h
      have hA : knA (trQ x) := by rw [eq]; exact ⟨by decide, by decide⟩
      have la := lA hA
      refine bd_K (i := 23) (by decide) B (by simp only [List.length_append, List.length_nil, decL_len, kl2, kl3, kl4, kl5, kl6, kl7, kl8, kl9, kl10, kl11, kl12, kl13, kl14, kl15, kl16, kl17, kl18, kl19, kl20, kl21, kl22, kl23, kl24, kl25, kl26, kl27, kl28, kl29, kl30, kl31, kl32, kl33, kl34, kl35, kl36, kl37, kl38, kl39, kl40, kl41, kl42, kl43, kl44, kl45, kl46, kl47, kl48, kl49, kl50, kl51]; omega) (by omega) (by omega) (fun Hn B => ?_)
      obtain ⟨a, ga, ca, ta⟩ := kA B.2.2 hA
      refine ⟨a, ga, ca, 15 * P, 26000 * P, by omega, by omega, hr _ _ a _ _ ta (w4 hA) (fun r Hr sr Fr1 => ?_)⟩
      replace B := B.nf Fr1
      refine bd_X B sr (by simp only [List.length_append, List.length_nil, decL_len, kl2, kl3, kl4, kl5, kl6, kl7, kl8, kl9, kl10, kl11, kl12, kl13, kl14, kl15, kl16, kl17, kl18, kl19, kl20, kl21, kl22, kl23, kl24, kl25, kl26, kl27, kl28, kl29, kl30, kl31, kl32, kl33, kl34, kl35, kl36, kl37, kl38, kl39, kl40, kl41, kl42, kl43, kl44, kl45, kl46, kl47, kl48, kl49, kl50, kl51]; omega) (by omega) (by omega) (fun Hn B => ?_)
      clear ga ca ta sr Fr1
      refine bd_K (i := 22) (by decide) B (by simp only [List.length_append, List.length_nil, decL_len, kl2, kl3, kl4, kl5, kl6, kl7, kl8, kl9, kl10, kl11, kl12, kl13, kl14, kl15, kl16, kl17, kl18, kl19, kl20, kl21, kl22, kl23, kl24, kl25, kl26, kl27, kl28, kl29, kl30, kl31, kl32, kl33, kl34, kl35, kl36, kl37, kl38, kl39, kl40, kl41, kl42, kl43, kl44, kl45, kl46, kl47, kl48, kl49, kl50, kl51]; omega) (by omega) (by omega) (fun Hn B => ?_)
      refine bd_end B (by simp only [List.length_append, List.length_nil, decL_len, kl2, kl3, kl4, kl5, kl6, kl7, kl8, kl9, kl10, kl11, kl12, kl13, kl14, kl15, kl16, kl17, kl18, kl19, kl20, kl21, kl22, kl23, kl24, kl25, kl26, kl27, kl28, kl29, kl30, kl31, kl32, kl33, kl34, kl35, kl36, kl37, kl38, kl39, kl40, kl41, kl42, kl43, kl44, kl45, kl46, kl47, kl48, kl49, kl50, kl51]; omega) (by omega) (by omega) (fun r w Hr sr _ _ _ Fr1 => k r Hr ?_ Fr1)
      rw [tx_8 eq]
      exact Or.inl ⟨w, sr⟩
    · rw [h] at k0 kd ne ⊢
      have k0 : gF H p 9 0 (.int (nI 9)) := k0
      refine bn_f (by decide) ⟨_, k0, ?_⟩
      refine br_t (by decide) ⟨_, k0, ?_⟩
      refine br_t (by decide) ⟨_, k0, ?_⟩
      refine bn_f (by decide) ⟨_, k0, ?_⟩
      refine bn_f (by decide) ⟨_, k0, ?_⟩
      refine br_f (by decide) ?_
      refine ⟨by omega, by omega, fun q hq => bd_new Fr.refl hq (by omega) (by omega) (fun Hn B => ?_)⟩
      have eq : trQ x = 9 := h
      have hA : knA (trQ x) := by rw [eq]; exact ⟨by decide, by decide⟩
      have la := lA hA
      have hB : knB (trQ x) := by rw [eq]; exact ⟨by decide, by decide, by decide, by decide⟩
      have lb := lB hB
      refine bd_K (i := 24) (by decide) B (by simp only [List.length_append, List.length_nil, decL_len, kl2, kl3, kl4, kl5, kl6, kl7, kl8, kl9, kl10, kl11, kl12, kl13, kl14, kl15, kl16, kl17, kl18, kl19, kl20, kl21, kl22, kl23, kl24, kl25, kl26, kl27, kl28, kl29, kl30, kl31, kl32, kl33, kl34, kl35, kl36, kl37, kl38, kl39, kl40, kl41, kl42, kl43, kl44, kl45, kl46, kl47, kl48, kl49, kl50, kl51]; omega) (by omega) (by omega) (fun Hn B => ?_)
      obtain ⟨a, ga, ca, ta⟩ := kA B.2.2 hA
      refine ⟨a, ga, ca, 15 * P, 26000 * P, by omega, by omega, hr _ _ a _ _ ta (w4 hA) (fun r Hr sr Fr1 => ?_)⟩
      replace B := B.nf Fr1
      refine bd_X B sr (by simp only [List.length_append, List.length_nil, decL_len, kl2, kl3, kl4, kl5, kl6, kl7, kl8, kl9, kl10, kl11, kl12, kl13, kl14, kl15, kl16, kl17, kl18, kl19, kl20, kl21, kl22, kl23, kl24, kl25, kl26, kl27, kl28, kl29, kl30, kl31, kl32, kl33, kl34, kl35, kl36, kl37, kl38, kl39, kl40, kl41, kl42, kl43, kl44, kl45, kl46, kl47, kl48, kl49, kl50, kl51]; omega) (by omega) (by omega) (fun Hn B => ?_)
      clear ga ca ta sr Fr1
      refine bd_K (i := 22) (by decide) B (by simp only [List.length_append, List.length_nil, decL_len, kl2, kl3, kl4, kl5, kl6, kl7, kl8, kl9, kl10, kl11, kl12, kl13, kl14, kl15, kl16, kl17, kl18, kl19, kl20, kl21, kl22, kl23, kl24, kl25, kl26, kl27, kl28, kl29, kl30, kl31, kl32, kl33, kl34, kl35, kl36, kl37, kl38, kl39, kl40, kl41, kl42, kl43, kl44, kl45, kl46, kl47, kl48, kl49, kl50, kl51]; omega) (by omega) (by omega) (fun Hn B => ?_)
      obtain ⟨fr, fr1, fr2⟩ := r2.nf B.2.2
      refine ⟨_, kd B.2.2, 6, fr, Z.1 9, fr1, ?_, ?_, ?_⟩
      · unfold vp_in; decide
      · exact fr2 0 (by decide)
      refine bd_K (i := 9) (by decide) B (by simp only [List.length_append, List.length_nil, decL_len, kl2, kl3, kl4, kl5, kl6, kl7, kl8, kl9, kl10, kl11, kl12, kl13, kl14, kl15, kl16, kl17, kl18, kl19, kl20, kl21, kl22, kl23, kl24, kl25, kl26, kl27, kl28, kl29, kl30, kl31, kl32, kl33, kl34, kl35, kl36, kl37, kl38, kl39, kl40, kl41, kl42, kl43, kl44, kl45, kl46, kl47, kl48, kl49, kl50, kl51]; omega) (by omega) (by omega) (fun Hn B => ?_)
      clear fr1 fr2
      refine bd_K (i := 24) (by decide) B (by simp only [List.length_append, List.length_nil, decL_len, kl2, kl3, kl4, kl5, kl6, kl7, kl8, kl9, kl10, kl11, kl12, kl13, kl14, kl15, kl16, kl17, kl18, kl19, kl20, kl21, kl22, kl23, kl24, kl25, kl26, kl27, kl28, kl29, kl30, kl31, kl32, kl33, kl34, kl35, kl36, kl37, kl38, kl39, kl40, kl41, kl42, kl43, kl44, kl45, kl46, kl47, kl48, kl49, kl50, kl51]; omega) (by omega) (by omega) (fun Hn B => ?_)
      obtain ⟨a, ga, ca, ta⟩ := kB B.2.2 hB
      refine ⟨a, ga, ca, 15 * P, 26000 * P, by omega, by omega, hr _ _ a _ _ ta (w5 hB) (fun r Hr sr Fr1 => ?_)⟩
      replace B := B.nf Fr1
      refine bd_X B sr (by simp only [List.length_append, List.length_nil, decL_len, kl2, kl3, kl4, kl5, kl6, kl7, kl8, kl9, kl10, kl11, kl12, kl13, kl14, kl15, kl16, kl17, kl18, kl19, kl20, kl21, kl22, kl23, kl24, kl25, kl26, kl27, kl28, kl29, kl30, kl31, kl32, kl33, kl34, kl35, kl36, kl37, kl38, kl39, kl40, kl41, kl42, kl43, kl44, kl45, kl46, kl47, kl48, kl49, kl50, kl51]; omega) (by omega) (by omega) (fun Hn B => ?_)
      clear ga ca ta sr Fr1
      refine bd_K (i := 22) (by decide) B (by simp only [List.length_append, List.length_nil, decL_len, kl2, kl3, kl4, kl5, kl6, kl7, kl8, kl9, kl10, kl11, kl12, kl13, kl14, kl15, kl16, kl17, kl18, kl19, kl20, kl21, kl22, kl23, kl24, kl25, kl26, kl27, kl28, kl29, kl30, kl31, kl32, kl33, kl34, kl35, kl36, kl37, kl38, kl39, kl40, kl41, kl42, kl43, kl44, kl45, kl46, kl47, kl48, kl49, kl50, kl51]; omega) (by omega) (by omega) (fun Hn B => ?_)
      refine bd_end B (by simp only [List.length_append, List.length_nil, decL_len, kl2, kl3, kl4, kl5, kl6, kl7, kl8, kl9, kl10, kl11, kl12, kl13, kl14, kl15, kl16, kl17, kl18, kl19, kl20, kl21, kl22, kl23, kl24, kl25, kl26, kl27, kl28, kl29, kl30, kl31, kl32, kl33, kl34, kl35, kl36, kl37, kl38, kl39, kl40, kl41, kl42, kl43, kl44, kl45, kl46, kl47, kl48, kl49, kl50, kl51]; omega) (by omega) (by omega) (fun r w Hr sr _ _ _ Fr1 => k r Hr ?_ Fr1)
      rw [tx_9 eq]
      exact Or.inl ⟨w, sr⟩
    · rw [h] at k0 kd ne ⊢
      have k0 : gF H p 9 0 (.int (nI 10)) := k0
      refine bn_f (by decide) ⟨_, k0, ?_⟩
      refine br_t (by decide) ⟨_, k0, ?_⟩
      refine br_t (by decide) ⟨_, k0, ?_⟩
      refine bn_f (by decide) ⟨_, k0, ?_⟩
      refine bn_f (by decide) ⟨_, k0, ?_⟩
      refine br_f (by decide) ?_
      refine ⟨by omega, by omega, fun q hq => bd_new Fr.refl hq (by omega) (by omega) (fun Hn B => ?_)⟩
      have eq : trQ x = 10 := h
      have hA : knA (trQ x) := by rw [eq]; exact ⟨by decide, by decide⟩
      have la := lA hA
      have hB : knB (trQ x) := by rw [eq]; exact ⟨by decide, by decide, by decide, by decide⟩
      have lb := lB hB
      refine bd_K (i := 24) (by decide) B (by simp only [List.length_append, List.length_nil, decL_len, kl2, kl3, kl4, kl5, kl6, kl7, kl8, kl9, kl10, kl11, kl12, kl13, kl14, kl15, kl16, kl17, kl18, kl19, kl20, kl21, kl22, kl23, kl24, kl25, kl26, kl27, kl28, kl29, kl30, kl31, kl32, kl33, kl34, kl35, kl36, kl37, kl38, kl39, kl40, kl41, kl42, kl43, kl44, kl45, kl46, kl47, kl48, kl49, kl50, kl51]; omega) (by omega) (by omega) (fun Hn B => ?_)
      obtain ⟨a, ga, ca, ta⟩ := kA B.2.2 hA
      refine ⟨a, ga, ca, 15 * P, 26000 * P, by omega, by omega, hr _ _ a _ _ ta (w4 hA) (fun r Hr sr Fr1 => ?_)⟩
      replace B := B.nf Fr1
      refine bd_X B sr (by simp only [List.length_append, List.length_nil, decL_len, kl2, kl3, kl4, kl5, kl6, kl7, kl8, kl9, kl10, kl11, kl12, kl13, kl14, kl15, kl16, kl17, kl18, kl19, kl20, kl21, kl22, kl23, kl24, kl25, kl26, kl27, kl28, kl29, kl30, kl31, kl32, kl33, kl34, kl35, kl36, kl37, kl38, kl39, kl40, kl41, kl42, kl43, kl44, kl45, kl46, kl47, kl48, kl49, kl50, kl51]; omega) (by omega) (by omega) (fun Hn B => ?_)
      clear ga ca ta sr Fr1
      refine bd_K (i := 22) (by decide) B (by simp only [List.length_append, List.length_nil, decL_len, kl2, kl3, kl4, kl5, kl6, kl7, kl8, kl9, kl10, kl11, kl12, kl13, kl14, kl15, kl16, kl17, kl18, kl19, kl20, kl21, kl22, kl23, kl24, kl25, kl26, kl27, kl28, kl29, kl30, kl31, kl32, kl33, kl34, kl35, kl36, kl37, kl38, kl39, kl40, kl41, kl42, kl43, kl44, kl45, kl46, kl47, kl48, kl49, kl50, kl51]; omega) (by omega) (by omega) (fun Hn B => ?_)
      obtain ⟨fr, fr1, fr2⟩ := r2.nf B.2.2
      refine ⟨_, kd B.2.2, 6, fr, Z.1 10, fr1, ?_, ?_, ?_⟩
      · unfold vp_in; decide
      · exact fr2 1 (by decide)
      refine bd_K (i := 10) (by decide) B (by simp only [List.length_append, List.length_nil, decL_len, kl2, kl3, kl4, kl5, kl6, kl7, kl8, kl9, kl10, kl11, kl12, kl13, kl14, kl15, kl16, kl17, kl18, kl19, kl20, kl21, kl22, kl23, kl24, kl25, kl26, kl27, kl28, kl29, kl30, kl31, kl32, kl33, kl34, kl35, kl36, kl37, kl38, kl39, kl40, kl41, kl42, kl43, kl44, kl45, kl46, kl47, kl48, kl49, kl50, kl51]; omega) (by omega) (by omega) (fun Hn B => ?_)
      clear fr1 fr2
      refine bd_K (i := 24) (by decide) B (by simp only [List.length_append, List.length_nil, decL_len, kl2, kl3, kl4, kl5, kl6, kl7, kl8, kl9, kl10, kl11, kl12, kl13, kl14, kl15, kl16, kl17, kl18, kl19, kl20, kl21, kl22, kl23, kl24, kl25, kl26, kl27, kl28, kl29, kl30, kl31, kl32, kl33, kl34, kl35, kl36, kl37, kl38, kl39, kl40, kl41, kl42, kl43, kl44, kl45, kl46, kl47, kl48, kl49, kl50, kl51]; omega) (by omega) (by omega) (fun Hn B => ?_)
      obtain ⟨a, ga, ca, ta⟩ := kB B.2.2 hB
      refine ⟨a, ga, ca, 15 * P, 26000 * P, by omega, by omega, hr _ _ a _ _ ta (w5 hB) (fun r Hr sr Fr1 => ?_)⟩
      replace B := B.nf Fr1
      refine bd_X B sr (by simp only [List.length_append, List.length_nil, decL_len, kl2, kl3, kl4, kl5, kl6, kl7, kl8, kl9, kl10, kl11, kl12, kl13, kl14, kl15, kl16, kl17, kl18, kl19, kl20, kl21, kl22, kl23, kl24, kl25, kl26, kl27, kl28, kl29, kl30, kl31, kl32, kl33, kl34, kl35, kl36, kl37, kl38, kl39, kl40, kl41, kl42, kl43, kl44, kl45, kl46, kl47, kl48, kl49, kl50, kl51]; omega) (by omega) (by omega) (fun Hn B => ?_)
      clear ga ca ta sr Fr1
      refine bd_K (i := 22) (by decide) B (by simp only [List.length_append, List.length_nil, decL_len, kl2, kl3, kl4, kl5, kl6, kl7, kl8, kl9, kl10, kl11, kl12, kl13, kl14, kl15, kl16, kl17, kl18, kl19, kl20, kl21, kl22, kl23, kl24, kl25, kl26, kl27, kl28, kl29, kl30, kl31, kl32, kl33, kl34, kl35, kl36, kl37, kl38, kl39, kl40, kl41, kl42, kl43, kl44, kl45, kl46, kl47, kl48, kl49, kl50, kl51]; omega) (by omega) (by omega) (fun Hn B => ?_)
      refine bd_end B (by simp only [List.length_append, List.length_nil, decL_len, kl2, kl3, kl4, kl5, kl6, kl7, kl8, kl9, kl10, kl11, kl12, kl13, kl14, kl15, kl16, kl17, kl18, kl19, kl20, kl21, kl22, kl23, kl24, kl25, kl26, kl27, kl28, kl29, kl30, kl31, kl32, kl33, kl34, kl35, kl36, kl37, kl38, kl39, kl40, kl41, kl42, kl43, kl44, kl45, kl46, kl47, kl48, kl49, kl50, kl51]; omega) (by omega) (by omega) (fun r w Hr sr _ _ _ Fr1 => k r Hr ?_ Fr1)
      rw [tx_10 eq]
      exact Or.inl ⟨w, sr⟩
    · rw [h] at k0 kd ne ⊢
      have k0 : gF H p 9 0 (.int (nI 11)) := k0
      refine bn_f (by decide) ⟨_, k0, ?_⟩
      refine br_t (by decide) ⟨_, k0, ?_⟩
      refine br_t (by decide) ⟨_, k0, ?_⟩
      refine bn_f (by decide) ⟨_, k0, ?_⟩
      refine bn_f (by decide) ⟨_, k0, ?_⟩
      refine br_f (by decide) ?_
      refine ⟨by omega, by omega, fun q hq => bd_new Fr.refl hq (by omega) (by omega) (fun Hn B => ?_)⟩
      have eq : trQ x = 11 := h
      have hA : knA (trQ x) := by rw [eq]; exact ⟨by decide, by decide⟩
      have la := lA hA
      have hB : knB (trQ x) := by rw [eq]; exact ⟨by decide, by decide, by decide, by decide⟩
      have lb := lB hB
      refine bd_K (i := 24) (by decide) B (by simp only [List.length_append, List.length_nil, decL_len, kl2, kl3, kl4, kl5, kl6, kl7, kl8, kl9, kl10, kl11, kl12, kl13, kl14, kl15, kl16, kl17, kl18, kl19, kl20, kl21, kl22, kl23, kl24, kl25, kl26, kl27, kl28, kl29, kl30, kl31, kl32, kl33, kl34, kl35, kl36, kl37, kl38, kl39, kl40, kl41, kl42, kl43, kl44, kl45, kl46, kl47, kl48, kl49, kl50, kl51]; omega) (by omega) (by omega) (fun Hn B => ?_)
      obtain ⟨a, ga, ca, ta⟩ := kA B.2.2 hA
      refine ⟨a, ga, ca, 15 * P, 26000 * P, by omega, by omega, hr _ _ a _ _ ta (w4 hA) (fun r Hr sr Fr1 => ?_)⟩
      replace B := B.nf Fr1
      refine bd_X B sr (by simp only [List.length_append, List.length_nil, decL_len, kl2, kl3, kl4, kl5, kl6, kl7, kl8, kl9, kl10, kl11, kl12, kl13, kl14, kl15, kl16, kl17, kl18, kl19, kl20, kl21, kl22, kl23, kl24, kl25, kl26, kl27, kl28, kl29, kl30, kl31, kl32, kl33, kl34, kl35, kl36, kl37, kl38, kl39, kl40, kl41, kl42, kl43, kl44, kl45, kl46, kl47, kl48, kl49, kl50, kl51]; omega) (by omega) (by omega) (fun Hn B => ?_)
      clear ga ca ta sr Fr1
      refine bd_K (i := 22) (by decide) B (by simp only [List.length_append, List.length_nil, decL_len, kl2, kl3, kl4, kl5, kl6, kl7, kl8, kl9, kl10, kl11, kl12, kl13, kl14, kl15, kl16, kl17, kl18, kl19, kl20, kl21, kl22, kl23, kl24, kl25, kl26, kl27, kl28, kl29, kl30, kl31, kl32, kl33, kl34, kl35, kl36, kl37, kl38, kl39, kl40, kl41, kl42, kl43, kl44, kl45, kl46, kl47, kl48, kl49, kl50, kl51]; omega) (by omega) (by omega) (fun Hn B => ?_)
      obtain ⟨fr, fr1, fr2⟩ := r2.nf B.2.2
      refine ⟨_, kd B.2.2, 6, fr, Z.1 11, fr1, ?_, ?_, ?_⟩
      · unfold vp_in; decide
      · exact fr2 2 (by decide)
      refine bd_K (i := 11) (by decide) B (by simp only [List.length_append, List.length_nil, decL_len, kl2, kl3, kl4, kl5, kl6, kl7, kl8, kl9, kl10, kl11, kl12, kl13, kl14, kl15, kl16, kl17, kl18, kl19, kl20, kl21, kl22, kl23, kl24, kl25, kl26, kl27, kl28, kl29, kl30, kl31, kl32, kl33, kl34, kl35, kl36, kl37, kl38, kl39, kl40, kl41, kl42, kl43, kl44, kl45, kl46, kl47, kl48, kl49, kl50, kl51]; omega) (by omega) (by omega) (fun Hn B => ?_)
      clear fr1 fr2
      refine bd_K (i := 24) (by decide) B (by simp only [List.length_append, List.length_nil, decL_len, kl2, kl3, kl4, kl5, kl6, kl7, kl8, kl9, kl10, kl11, kl12, kl13, kl14, kl15, kl16, kl17, kl18, kl19, kl20, kl21, kl22, kl23, kl24, kl25, kl26, kl27, kl28, kl29, kl30, kl31, kl32, kl33, kl34, kl35, kl36, kl37, kl38, kl39, kl40, kl41, kl42, kl43, kl44, kl45, kl46, kl47, kl48, kl49, kl50, kl51]; omega) (by omega) (by omega) (fun Hn B => ?_)
      obtain ⟨a, ga, ca, ta⟩ := kB B.2.2 hB
      refine ⟨a, ga, ca, 15 * P, 26000 * P, by omega, by omega, hr _ _ a _ _ ta (w5 hB) (fun r Hr sr Fr1 => ?_)⟩
      replace B := B.nf Fr1
      refine bd_X B sr (by simp only [List.length_append, List.length_nil, decL_len, kl2, kl3, kl4, kl5, kl6, kl7, kl8, kl9, kl10, kl11, kl12, kl13, kl14, kl15, kl16, kl17, kl18, kl19, kl20, kl21, kl22, kl23, kl24, kl25, kl26, kl27, kl28, kl29, kl30, kl31, kl32, kl33, kl34, kl35, kl36, kl37, kl38, kl39, kl40, kl41, kl42, kl43, kl44, kl45, kl46, kl47, kl48, kl49, kl50, kl51]; omega) (by omega) (by omega) (fun Hn B => ?_)
      clear ga ca ta sr Fr1
      refine bd_K (i := 22) (by decide) B (by simp only [List.length_append, List.length_nil, decL_len, kl2, kl3, kl4, kl5, kl6, kl7, kl8, kl9, kl10, kl11, kl12, kl13, kl14, kl15, kl16, kl17, kl18, kl19, kl20, kl21, kl22, kl23, kl24, kl25, kl26, kl27, kl28, kl29, kl30, kl31, kl32, kl33, kl34, kl35, kl36, kl37, kl38, kl39, kl40, kl41, kl42, kl43, kl44, kl45, kl46, kl47, kl48, kl49, kl50, kl51]; omega) (by omega) (by omega) (fun Hn B => ?_)
      refine bd_end B (by simp only [List.length_append, List.length_nil, decL_len, kl2, kl3, kl4, kl5, kl6, kl7, kl8, kl9, kl10, kl11, kl12, kl13, kl14, kl15, kl16, kl17, kl18, kl19, kl20, kl21, kl22, kl23, kl24, kl25, kl26, kl27, kl28, kl29, kl30, kl31, kl32, kl33, kl34, kl35, kl36, kl37, kl38, kl39, kl40, kl41, kl42, kl43, kl44, kl45, kl46, kl47, kl48, kl49, kl50, kl51]; omega) (by omega) (by omega) (fun r w Hr sr _ _ _ Fr1 => k r Hr ?_ Fr1)
      rw [tx_11 eq]
      exact Or.inl ⟨w, sr⟩
    · rw [h] at k0 kd ne ⊢
      have k0 : gF H p 9 0 (.int (nI 12)) := k0
      refine bn_f (by decide) ⟨_, k0, ?_⟩
      refine br_t (by decide) ⟨_, k0, ?_⟩
      refine br_t (by decide) ⟨_, k0, ?_⟩
      refine bn_f (by decide) ⟨_, k0, ?_⟩
      refine bn_f (by decide) ⟨_, k0, ?_⟩
      refine br_f (by decide) ?_
      refine ⟨by omega, by omega, fun q hq => bd_new Fr.refl hq (by omega) (by omega) (fun Hn B => ?_)⟩
      have eq : trQ x = 12 := h
      have hA : knA (trQ x) := by rw [eq]; exact ⟨by decide, by decide⟩
      have la := lA hA
      have hB : knB (trQ x) := by rw [eq]; exact ⟨by decide, by decide, by decide, by decide⟩
      have lb := lB hB
      refine bd_K (i := 24) (by decide) B (by simp only [List.length_append, List.length_nil, decL_len, kl2, kl3, kl4, kl5, kl6, kl7, kl8, kl9, kl10, kl11, kl12, kl13, kl14, kl15, kl16, kl17, kl18, kl19, kl20, kl21, kl22, kl23, kl24, kl25, kl26, kl27, kl28, kl29, kl30, kl31, kl32, kl33, kl34, kl35, kl36, kl37, kl38, kl39, kl40, kl41, kl42, kl43, kl44, kl45, kl46, kl47, kl48, kl49, kl50, kl51]; omega) (by omega) (by omega) (fun Hn B => ?_)
      obtain ⟨a, ga, ca, ta⟩ := kA B.2.2 hA
      refine ⟨a, ga, ca, 15 * P, 26000 * P, by omega, by omega, hr _ _ a _ _ ta (w4 hA) (fun r Hr sr Fr1 => ?_)⟩
      replace B := B.nf Fr1
      refine bd_X B sr (by simp only [List.length_append, List.length_nil, decL_len, kl2, kl3, kl4, kl5, kl6, kl7, kl8, kl9, kl10, kl11, kl12, kl13, kl14, kl15, kl16, kl17, kl18, kl19, kl20, kl21, kl22, kl23, kl24, kl25, kl26, kl27, kl28, kl29, kl30, kl31, kl32, kl33, kl34, kl35, kl36, kl37, kl38, kl39, kl40, kl41, kl42, kl43, kl44, kl45, kl46, kl47, kl48, kl49, kl50, kl51]; omega) (by omega) (by omega) (fun Hn B => ?_)
      clear ga ca ta sr Fr1
      refine bd_K (i := 22) (by decide) B (by simp only [List.length_append, List.length_nil, decL_len, kl2, kl3, kl4, kl5, kl6, kl7, kl8, kl9, kl10, kl11, kl12, kl13, kl14, kl15, kl16, kl17, kl18, kl19, kl20, kl21, kl22, kl23, kl24, kl25, kl26, kl27, kl28, kl29, kl30, kl31, kl32, kl33, kl34, kl35, kl36, kl37, kl38, kl39, kl40, kl41, kl42, kl43, kl44, kl45, kl46, kl47, kl48, kl49, kl50, kl51]; omega) (by omega) (by omega) (fun Hn B => ?_)
      obtain ⟨fr, fr1, fr2⟩ := r2.nf B.2.2
      refine ⟨_, kd B.2.2, 6, fr, Z.1 12, fr1, ?_, ?_, ?_⟩
      · unfold vp_in; decide
      · exact fr2 3 (by decide)
      refine bd_K (i := 12) (by decide) B (by simp only [List.length_append, List.length_nil, decL_len, kl2, kl3, kl4, kl5, kl6, kl7, kl8, kl9, kl10, kl11, kl12, kl13, kl14, kl15, kl16, kl17, kl18, kl19, kl20, kl21, kl22, kl23, kl24, kl25, kl26, kl27, kl28, kl29, kl30, kl31, kl32, kl33, kl34, kl35, kl36, kl37, kl38, kl39, kl40, kl41, kl42, kl43, kl44, kl45, kl46, kl47, kl48, kl49, kl50, kl51]; omega) (by omega) (by omega) (fun Hn B => ?_)
      clear fr1 fr2
      refine bd_K (i := 24) (by decide) B (by simp only [List.length_append, List.length_nil, decL_len, kl2, kl3, kl4, kl5, kl6, kl7, kl8, kl9, kl10, kl11, kl12, kl13, kl14, kl15, kl16, kl17, kl18, kl19, kl20, kl21, kl22, kl23, kl24, kl25, kl26, kl27, kl28, kl29, kl30, kl31, kl32, kl33, kl34, kl35, kl36, kl37, kl38, kl39, kl40, kl41, kl42, kl43, kl44, kl45, kl46, kl47, kl48, kl49, kl50, kl51]; omega) (by omega) (by omega) (fun Hn B => ?_)
      obtain ⟨a, ga, ca, ta⟩ := kB B.2.2 hB
      refine ⟨a, ga, ca, 15 * P, 26000 * P, by omega, by omega, hr _ _ a _ _ ta (w5 hB) (fun r Hr sr Fr1 => ?_)⟩
      replace B := B.nf Fr1
      refine bd_X B sr (by simp only [List.length_append, List.length_nil, decL_len, kl2, kl3, kl4, kl5, kl6, kl7, kl8, kl9, kl10, kl11, kl12, kl13, kl14, kl15, kl16, kl17, kl18, kl19, kl20, kl21, kl22, kl23, kl24, kl25, kl26, kl27, kl28, kl29, kl30, kl31, kl32, kl33, kl34, kl35, kl36, kl37, kl38, kl39, kl40, kl41, kl42, kl43, kl44, kl45, kl46, kl47, kl48, kl49, kl50, kl51]; omega) (by omega) (by omega) (fun Hn B => ?_)
      clear ga ca ta sr Fr1
      refine bd_K (i := 22) (by decide) B (by simp only [List.length_append, List.length_nil, decL_len, kl2, kl3, kl4, kl5, kl6, kl7, kl8, kl9, kl10, kl11, kl12, kl13, kl14, kl15, kl16, kl17, kl18, kl19, kl20, kl21, kl22, kl23, kl24, kl25, kl26, kl27, kl28, kl29, kl30, kl31, kl32, kl33, kl34, kl35, kl36, kl37, kl38, kl39, kl40, kl41, kl42, kl43, kl44, kl45, kl46, kl47, kl48, kl49, kl50, kl51]; omega) (by omega) (by omega) (fun Hn B => ?_)
      refine bd_end B (by simp only [List.length_append, List.length_nil, decL_len, kl2, kl3, kl4, kl5, kl6, kl7, kl8, kl9, kl10, kl11, kl12, kl13, kl14, kl15, kl16, kl17, kl18, kl19, kl20, kl21, kl22, kl23, kl24, kl25, kl26, kl27, kl28, kl29, kl30, kl31, kl32, kl33, kl34, kl35, kl36, kl37, kl38, kl39, kl40, kl41, kl42, kl43, kl44, kl45, kl46, kl47, kl48, kl49, kl50, kl51]; omega) (by omega) (by omega) (fun r w Hr sr _ _ _ Fr1 => k r Hr ?_ Fr1)
      rw [tx_12 eq]
      exact Or.inl ⟨w, sr⟩
    · rw [h] at k0 kd ne ⊢
      have k0 : gF H p 9 0 (.int (nI 13)) := k0
      refine bn_f (by decide) ⟨_, k0, ?_⟩
      refine br_t (by decide) ⟨_, k0, ?_⟩
      refine br_t (by decide) ⟨_, k0, ?_⟩
      refine bn_f (by decide) ⟨_, k0, ?_⟩
      refine bn_f (by decide) ⟨_, k0, ?_⟩
      refine br_t (by decide) ⟨_, k0, ?_⟩
      refine br_f (by decide) ?_
      refine ⟨by omega, by omega, fun q hq => bd_new Fr.refl hq (by omega) (by omega) (fun Hn B => ?_)⟩
      have eq : trQ x = 13 := h
      have hA : knA (trQ x) := by rw [eq]; exact ⟨by decide, by decide⟩
      have la := lA hA
      have hB : knB (trQ x) := by rw [eq]; exact ⟨by decide, by decide, by decide, by decide⟩
      have lb := lB hB
      obtain ⟨fr, fr1, fr2⟩ := r2.nf B.2.2
      refine ⟨_, kd B.2.2, 6, fr, Z.1 13, fr1, ?_, ?_, ?_⟩
      · unfold vp_in; decide
      · exact fr2 4 (by decide)
      refine bd_K (i := 13) (by decide) B (by simp only [List.length_append, List.length_nil, decL_len, kl2, kl3, kl4, kl5, kl6, kl7, kl8, kl9, kl10, kl11, kl12, kl13, kl14, kl15, kl16, kl17, kl18, kl19, kl20, kl21, kl22, kl23, kl24, kl25, kl26, kl27, kl28, kl29, kl30, kl31, kl32, kl33, kl34, kl35, kl36, kl37, kl38, kl39, kl40, kl41, kl42, kl43, kl44, kl45, kl46, kl47, kl48, kl49, kl50, kl51]; omega) (by omega) (by omega) (fun Hn B => ?_)
      clear fr1 fr2
      obtain ⟨a, ga, ca, ta⟩ := kA B.2.2 hA
      refine ⟨a, ga, ca, 15 * P, 26000 * P, by omega, by omega, hr _ _ a _ _ ta (w4 hA) (fun r Hr sr Fr1 => ?_)⟩
      replace B := B.nf Fr1
      refine bd_X B sr (by simp only [List.length_append, List.length_nil, decL_len, kl2, kl3, kl4, kl5, kl6, kl7, kl8, kl9, kl10, kl11, kl12, kl13, kl14, kl15, kl16, kl17, kl18, kl19, kl20, kl21, kl22, kl23, kl24, kl25, kl26, kl27, kl28, kl29, kl30, kl31, kl32, kl33, kl34, kl35, kl36, kl37, kl38, kl39, kl40, kl41, kl42, kl43, kl44, kl45, kl46, kl47, kl48, kl49, kl50, kl51]; omega) (by omega) (by omega) (fun Hn B => ?_)
      clear ga ca ta sr Fr1
      refine bd_K (i := 25) (by decide) B (by simp only [List.length_append, List.length_nil, decL_len, kl2, kl3, kl4, kl5, kl6, kl7, kl8, kl9, kl10, kl11, kl12, kl13, kl14, kl15, kl16, kl17, kl18, kl19, kl20, kl21, kl22, kl23, kl24, kl25, kl26, kl27, kl28, kl29, kl30, kl31, kl32, kl33, kl34, kl35, kl36, kl37, kl38, kl39, kl40, kl41, kl42, kl43, kl44, kl45, kl46, kl47, kl48, kl49, kl50, kl51]; omega) (by omega) (by omega) (fun Hn B => ?_)
      obtain ⟨a, ga, ca, ta⟩ := kB B.2.2 hB
      refine ⟨a, ga, ca, 15 * P, 26000 * P, by omega, by omega, hr _ _ a _ _ ta (w5 hB) (fun r Hr sr Fr1 => ?_)⟩
      replace B := B.nf Fr1
      refine bd_X B sr (by simp only [List.length_append, List.length_nil, decL_len, kl2, kl3, kl4, kl5, kl6, kl7, kl8, kl9, kl10, kl11, kl12, kl13, kl14, kl15, kl16, kl17, kl18, kl19, kl20, kl21, kl22, kl23, kl24, kl25, kl26, kl27, kl28, kl29, kl30, kl31, kl32, kl33, kl34, kl35, kl36, kl37, kl38, kl39, kl40, kl41, kl42, kl43, kl44, kl45, kl46, kl47, kl48, kl49, kl50, kl51]; omega) (by omega) (by omega) (fun Hn B => ?_)
      clear ga ca ta sr Fr1
      refine bd_K (i := 22) (by decide) B (by simp only [List.length_append, List.length_nil, decL_len, kl2, kl3, kl4, kl5, kl6, kl7, kl8, kl9, kl10, kl11, kl12, kl13, kl14, kl15, kl16, kl17, kl18, kl19, kl20, kl21, kl22, kl23, kl24, kl25, kl26, kl27, kl28, kl29, kl30, kl31, kl32, kl33, kl34, kl35, kl36, kl37, kl38, kl39, kl40, kl41, kl42, kl43, kl44, kl45, kl46, kl47, kl48, kl49, kl50, kl51]; omega) (by omega) (by omega) (fun Hn B => ?_)
      refine bd_end B (by simp only [List.length_append, List.length_nil, decL_len, kl2, kl3, kl4, kl5, kl6, kl7, kl8, kl9, kl10, kl11, kl12, kl13, kl14, kl15, kl16, kl17, kl18, kl19, kl20, kl21, kl22, kl23, kl24, kl25, kl26, kl27, kl28, kl29, kl30, kl31, kl32, kl33, kl34, kl35, kl36, kl37, kl38, kl39, kl40, kl41, kl42, kl43, kl44, kl45, kl46, kl47, kl48, kl49, kl50, kl51]; omega) (by omega) (by omega) (fun r w Hr sr _ _ _ Fr1 => k r Hr ?_ Fr1)
      rw [tx_13 eq]
      exact Or.inl ⟨w, sr⟩
    · rw [h] at k0 kd ne ⊢
      have k0 : gF H p 9 0 (.int (nI 14)) := k0
      refine bn_f (by decide) ⟨_, k0, ?_⟩
      refine br_t (by decide) ⟨_, k0, ?_⟩
      refine br_t (by decide) ⟨_, k0, ?_⟩
      refine bn_f (by decide) ⟨_, k0, ?_⟩
      refine bn_f (by decide) ⟨_, k0, ?_⟩
      refine br_t (by decide) ⟨_, k0, ?_⟩
      refine br_f (by decide) ?_
      refine ⟨by omega, by omega, fun q hq => bd_new Fr.refl hq (by omega) (by omega) (fun Hn B => ?_)⟩
      have eq : trQ x = 14 := h
      have hA : knA (trQ x) := by rw [eq]; exact ⟨by decide, by decide⟩
      have la := lA hA
      have hB : knB (trQ x) := by rw [eq]; exact ⟨by decide, by decide, by decide, by decide⟩
      have lb := lB hB
      obtain ⟨fr, fr1, fr2⟩ := r2.nf B.2.2
      refine ⟨_, kd B.2.2, 6, fr, Z.1 14, fr1, ?_, ?_, ?_⟩
      · unfold vp_in; decide
      · exact fr2 5 (by decide)
      refine bd_K (i := 14) (by decide) B (by simp only [List.length_append, List.length_nil, decL_len, kl2, kl3, kl4, kl5, kl6, kl7, kl8, kl9, kl10, kl11, kl12, kl13, kl14, kl15, kl16, kl17, kl18, kl19, kl20, kl21, kl22, kl23, kl24, kl25, kl26, kl27, kl28, kl29, kl30, kl31, kl32, kl33, kl34, kl35, kl36, kl37, kl38, kl39, kl40, kl41, kl42, kl43, kl44, kl45, kl46, kl47, kl48, kl49, kl50, kl51]; omega) (by omega) (by omega) (fun Hn B => ?_)
      clear fr1 fr2
      obtain ⟨a, ga, ca, ta⟩ := kA B.2.2 hA
      refine ⟨a, ga, ca, 15 * P, 26000 * P, by omega, by omega, hr _ _ a _ _ ta (w4 hA) (fun r Hr sr Fr1 => ?_)⟩
      replace B := B.nf Fr1
      refine bd_X B sr (by simp only [List.length_append, List.length_nil, decL_len, kl2, kl3, kl4, kl5, kl6, kl7, kl8, kl9, kl10, kl11, kl12, kl13, kl14, kl15, kl16, kl17, kl18, kl19, kl20, kl21, kl22, kl23, kl24, kl25, kl26, kl27, kl28, kl29, kl30, kl31, kl32, kl33, kl34, kl35, kl36, kl37, kl38, kl39, kl40, kl41, kl42, kl43, kl44, kl45, kl46, kl47, kl48, kl49, kl50, kl51]; omega) (by omega) (by omega) (fun Hn B => ?_)
      clear ga ca ta sr Fr1
      refine bd_K (i := 25) (by decide) B (by simp only [List.length_append, List.length_nil, decL_len, kl2, kl3, kl4, kl5, kl6, kl7, kl8, kl9, kl10, kl11, kl12, kl13, kl14, kl15, kl16, kl17, kl18, kl19, kl20, kl21, kl22, kl23, kl24, kl25, kl26, kl27, kl28, kl29, kl30, kl31, kl32, kl33, kl34, kl35, kl36, kl37, kl38, kl39, kl40, kl41, kl42, kl43, kl44, kl45, kl46, kl47, kl48, kl49, kl50, kl51]; omega) (by omega) (by omega) (fun Hn B => ?_)
      obtain ⟨a, ga, ca, ta⟩ := kB B.2.2 hB
      refine ⟨a, ga, ca, 15 * P, 26000 * P, by omega, by omega, hr _ _ a _ _ ta (w5 hB) (fun r Hr sr Fr1 => ?_)⟩
      replace B := B.nf Fr1
      refine bd_X B sr (by simp only [List.length_append, List.length_nil, decL_len, kl2, kl3, kl4, kl5, kl6, kl7, kl8, kl9, kl10, kl11, kl12, kl13, kl14, kl15, kl16, kl17, kl18, kl19, kl20, kl21, kl22, kl23, kl24, kl25, kl26, kl27, kl28, kl29, kl30, kl31, kl32, kl33, kl34, kl35, kl36, kl37, kl38, kl39, kl40, kl41, kl42, kl43, kl44, kl45, kl46, kl47, kl48, kl49, kl50, kl51]; omega) (by omega) (by omega) (fun Hn B => ?_)
      clear ga ca ta sr Fr1
      refine bd_K (i := 22) (by decide) B (by simp only [List.length_append, List.length_nil, decL_len, kl2, kl3, kl4, kl5, kl6, kl7, kl8, kl9, kl10, kl11, kl12, kl13, kl14, kl15, kl16, kl17, kl18, kl19, kl20, kl21, kl22, kl23, kl24, kl25, kl26, kl27, kl28, kl29, kl30, kl31, kl32, kl33, kl34, kl35, kl36, kl37, kl38, kl39, kl40, kl41, kl42, kl43, kl44, kl45, kl46, kl47, kl48, kl49, kl50, kl51]; omega) (by omega) (by omega) (fun Hn B => ?_)
      refine bd_end B (by simp only [List.length_append, List.length_nil, decL_len, kl2, kl3, kl4, kl5, kl6, kl7, kl8, kl9, kl10, kl11, kl12, kl13, kl14, kl15, kl16, kl17, kl18, kl19, kl20, kl21, kl22, kl23, kl24, kl25, kl26, kl27, kl28, kl29, kl30, kl31, kl32, kl33, kl34, kl35, kl36, kl37, kl38, kl39, kl40, kl41, kl42, kl43, kl44, kl45, kl46, kl47, kl48, kl49, kl50, kl51]; omega) (by omega) (by omega) (fun r w Hr sr _ _ _ Fr1 => k r Hr ?_ Fr1)
      rw [tx_14 eq]
      exact Or.inl ⟨w, sr⟩
  · rcases k_tests hk with h | h | h | h | h | h | h | h | h | h
    · rw [h] at k0 kd ne ⊢
      have k0 : gF H p 9 0 (.int (nI 20)) := k0
      refine bn_f (by decide) ⟨_, k0, br_t (by decide) ⟨_, k0, br_t (by decide) ⟨_, k0, bn_f (by decide) ⟨_, k0, bn_f (by decide) ⟨_, k0, br_t (by decide) ⟨_, k0, br_t (by decide) ⟨_, k0, ?_⟩⟩⟩⟩⟩⟩⟩
      refine br_f (by decide) ?_
      refine ⟨by omega, by omega, fun q hq => bd_new Fr.refl hq (by omega) (by omega) (fun Hn B => ?_)⟩
      have eq : trQ x = 20 := h
      have hA : knA (trQ x) := by rw [eq]; exact ⟨by decide, by decide⟩
      have la := lA hA
      have hB : knB (trQ x) := by rw [eq]; exact ⟨by decide, by decide, by decide, by decide⟩
      have lb := lB hB
      obtain ⟨a, ga, ca, ta⟩ := kA B.2.2 hA
      refine ⟨a, ga, ca, 15 * P, 26000 * P, by omega, by omega, hr _ _ a _ _ ta (w4 hA) (fun r Hr sr Fr1 => ?_)⟩
      replace B := B.nf Fr1
      refine bd_X B sr (by simp only [List.length_append, List.length_nil, decL_len, kl2, kl3, kl4, kl5, kl6, kl7, kl8, kl9, kl10, kl11, kl12, kl13, kl14, kl15, kl16, kl17, kl18, kl19, kl20, kl21, kl22, kl23, kl24, kl25, kl26, kl27, kl28, kl29, kl30, kl31, kl32, kl33, kl34, kl35, kl36, kl37, kl38, kl39, kl40, kl41, kl42, kl43, kl44, kl45, kl46, kl47, kl48, kl49, kl50, kl51]; omega) (by omega) (by omega) (fun Hn B => ?_)
      clear ga ca ta sr Fr1
      obtain ⟨fr, fr1, fr2⟩ := r3.nf B.2.2
      refine ⟨_, kd B.2.2, 5, fr, Z.1 15, fr1, ?_, ?_, ?_⟩
      · unfold vp_in; decide
      · exact fr2 0 (by decide)
      refine bd_K (i := 15) (by decide) B (by simp only [List.length_append, List.length_nil, decL_len, kl2, kl3, kl4, kl5, kl6, kl7, kl8, kl9, kl10, kl11, kl12, kl13, kl14, kl15, kl16, kl17, kl18, kl19, kl20, kl21, kl22, kl23, kl24, kl25, kl26, kl27, kl28, kl29, kl30, kl31, kl32, kl33, kl34, kl35, kl36, kl37, kl38, kl39, kl40, kl41, kl42, kl43, kl44, kl45, kl46, kl47, kl48, kl49, kl50, kl51]; omega) (by omega) (by omega) (fun Hn B => ?_)
      clear fr1 fr2
      obtain ⟨a, ga, ca, ta⟩ := kB B.2.2 hB
      refine ⟨a, ga, ca, 15 * P, 26000 * P, by omega, by omega, hr _ _ a _ _ ta (w5 hB) (fun r Hr sr Fr1 => ?_)⟩
      replace B := B.nf Fr1
      refine bd_X B sr (by simp only [List.length_append, List.length_nil, decL_len, kl2, kl3, kl4, kl5, kl6, kl7, kl8, kl9, kl10, kl11, kl12, kl13, kl14, kl15, kl16, kl17, kl18, kl19, kl20, kl21, kl22, kl23, kl24, kl25, kl26, kl27, kl28, kl29, kl30, kl31, kl32, kl33, kl34, kl35, kl36, kl37, kl38, kl39, kl40, kl41, kl42, kl43, kl44, kl45, kl46, kl47, kl48, kl49, kl50, kl51]; omega) (by omega) (by omega) (fun Hn B => ?_)
      clear ga ca ta sr Fr1
      refine bd_end B (by simp only [List.length_append, List.length_nil, decL_len, kl2, kl3, kl4, kl5, kl6, kl7, kl8, kl9, kl10, kl11, kl12, kl13, kl14, kl15, kl16, kl17, kl18, kl19, kl20, kl21, kl22, kl23, kl24, kl25, kl26, kl27, kl28, kl29, kl30, kl31, kl32, kl33, kl34, kl35, kl36, kl37, kl38, kl39, kl40, kl41, kl42, kl43, kl44, kl45, kl46, kl47, kl48, kl49, kl50, kl51]; omega) (by omega) (by omega) (fun r w Hr sr _ _ _ Fr1 => k r Hr ?_ Fr1)
      rw [tx_20 eq]
      exact Or.inl ⟨w, sr⟩
    · rw [h] at k0 kd ne ⊢
      have k0 : gF H p 9 0 (.int (nI 21)) := k0
      refine bn_f (by decide) ⟨_, k0, br_t (by decide) ⟨_, k0, br_t (by decide) ⟨_, k0, bn_f (by decide) ⟨_, k0, bn_f (by decide) ⟨_, k0, br_t (by decide) ⟨_, k0, br_t (by decide) ⟨_, k0, ?_⟩⟩⟩⟩⟩⟩⟩
      refine br_f (by decide) ?_
      refine ⟨by omega, by omega, fun q hq => bd_new Fr.refl hq (by omega) (by omega) (fun Hn B => ?_)⟩
      have eq : trQ x = 21 := h
      have hA : knA (trQ x) := by rw [eq]; exact ⟨by decide, by decide⟩
      have la := lA hA
      have hB : knB (trQ x) := by rw [eq]; exact ⟨by decide, by decide, by decide, by decide⟩
      have lb := lB hB
      obtain ⟨a, ga, ca, ta⟩ := kA B.2.2 hA
      refine ⟨a, ga, ca, 15 * P, 26000 * P, by omega, by omega, hr _ _ a _ _ ta (w4 hA) (fun r Hr sr Fr1 => ?_)⟩
      replace B := B.nf Fr1
      refine bd_X B sr (by simp only [List.length_append, List.length_nil, decL_len, kl2, kl3, kl4, kl5, kl6, kl7, kl8, kl9, kl10, kl11, kl12, kl13, kl14, kl15, kl16, kl17, kl18, kl19, kl20, kl21, kl22, kl23, kl24, kl25, kl26, kl27, kl28, kl29, kl30, kl31, kl32, kl33, kl34, kl35, kl36, kl37, kl38, kl39, kl40, kl41, kl42, kl43, kl44, kl45, kl46, kl47, kl48, kl49, kl50, kl51]; omega) (by omega) (by omega) (fun Hn B => ?_)
      clear ga ca ta sr Fr1
      obtain ⟨fr, fr1, fr2⟩ := r3.nf B.2.2
      refine ⟨_, kd B.2.2, 5, fr, Z.1 16, fr1, ?_, ?_, ?_⟩
      · unfold vp_in; decide
      · exact fr2 1 (by decide)
      refine bd_K (i := 16) (by decide) B (by simp only [List.length_append, List.length_nil, decL_len, kl2, kl3, kl4, kl5, kl6, kl7, kl8, kl9, kl10, kl11, kl12, kl13, kl14, kl15, kl16, kl17, kl18, kl19, kl20, kl21, kl22, kl23, kl24, kl25, kl26, kl27, kl28, kl29, kl30, kl31, kl32, kl33, kl34, kl35, kl36, kl37, kl38, kl39, kl40, kl41, kl42, kl43, kl44, kl45, kl46, kl47, kl48, kl49, kl50, kl51]; omega) (by omega) (by omega) (fun Hn B => ?_)
      clear fr1 fr2
      obtain ⟨a, ga, ca, ta⟩ := kB B.2.2 hB
      refine ⟨a, ga, ca, 15 * P, 26000 * P, by omega, by omega, hr _ _ a _ _ ta (w5 hB) (fun r Hr sr Fr1 => ?_)⟩
      replace B := B.nf Fr1
      refine bd_X B sr (by simp only [List.length_append, List.length_nil, decL_len, kl2, kl3, kl4, kl5, kl6, kl7, kl8, kl9, kl10, kl11, kl12, kl13, kl14, kl15, kl16, kl17, kl18, kl19, kl20, kl21, kl22, kl23, kl24, kl25, kl26, kl27, kl28, kl29, kl30, kl31, kl32, kl33, kl34, kl35, kl36, kl37, kl38, kl39, kl40, kl41, kl42, kl43, kl44, kl45, kl46, kl47, kl48, kl49, kl50, kl51]; omega) (by omega) (by omega) (fun Hn B => ?_)
      clear ga ca ta sr Fr1
      refine bd_end B (by simp only [List.length_append, List.length_nil, decL_len, kl2, kl3, kl4, kl5, kl6, kl7, kl8, kl9, kl10, kl11, kl12, kl13, kl14, kl15, kl16, kl17, kl18, kl19, kl20, kl21, kl22, kl23, kl24, kl25, kl26, kl27, kl28, kl29, kl30, kl31, kl32, kl33, kl34, kl35, kl36, kl37, kl38, kl39, kl40, kl41, kl42, kl43, kl44, kl45, kl46, kl47, kl48, kl49, kl50, kl51]; omega) (by omega) (by omega) (fun r w Hr sr _ _ _ Fr1 => k r Hr ?_ Fr1)
      rw [tx_21 eq]
      exact Or.inl ⟨w, sr⟩
    · rw [h] at k0 kd ne ⊢
      have k0 : gF H p 9 0 (.int (nI 22)) := k0
      refine bn_f (by decide) ⟨_, k0, br_t (by decide) ⟨_, k0, br_t (by decide) ⟨_, k0, bn_f (by decide) ⟨_, k0, bn_f (by decide) ⟨_, k0, br_t (by decide) ⟨_, k0, br_t (by decide) ⟨_, k0, ?_⟩⟩⟩⟩⟩⟩⟩
      refine br_f (by decide) ?_
      refine ⟨by omega, by omega, fun q hq => bd_new Fr.refl hq (by omega) (by omega) (fun Hn B => ?_)⟩
      have eq : trQ x = 22 := h
      have hA : knA (trQ x) := by rw [eq]; exact ⟨by decide, by decide⟩
      have la := lA hA
      have hB : knB (trQ x) := by rw [eq]; exact ⟨by decide, by decide, by decide, by decide⟩
      have lb := lB hB
      obtain ⟨a, ga, ca, ta⟩ := kA B.2.2 hA
      refine ⟨a, ga, ca, 15 * P, 26000 * P, by omega, by omega, hr _ _ a _ _ ta (w4 hA) (fun r Hr sr Fr1 => ?_)⟩
      replace B := B.nf Fr1
      refine bd_X B sr (by simp only [List.length_append, List.length_nil, decL_len, kl2, kl3, kl4, kl5, kl6, kl7, kl8, kl9, kl10, kl11, kl12, kl13, kl14, kl15, kl16, kl17, kl18, kl19, kl20, kl21, kl22, kl23, kl24, kl25, kl26, kl27, kl28, kl29, kl30, kl31, kl32, kl33, kl34, kl35, kl36, kl37, kl38, kl39, kl40, kl41, kl42, kl43, kl44, kl45, kl46, kl47, kl48, kl49, kl50, kl51]; omega) (by omega) (by omega) (fun Hn B => ?_)
      clear ga ca ta sr Fr1
      obtain ⟨fr, fr1, fr2⟩ := r3.nf B.2.2
      refine ⟨_, kd B.2.2, 5, fr, Z.1 17, fr1, ?_, ?_, ?_⟩
      · unfold vp_in; decide
      · exact fr2 2 (by decide)
      refine bd_K (i := 17) (by decide) B (by simp only [List.length_append, List.length_nil, decL_len, kl2, kl3, kl4, kl5, kl6, kl7, kl8, kl9, kl10, kl11, kl12, kl13, kl14, kl15, kl16, kl17, kl18, kl19, kl20, kl21, kl22, kl23, kl24, kl25, kl26, kl27, kl28, kl29, kl30, kl31, kl32, kl33, kl34, kl35, kl36, kl37, kl38, kl39, kl40, kl41, kl42, kl43, kl44, kl45, kl46, kl47, kl48, kl49, kl50, kl51]; omega) (by omega) (by omega) (fun Hn B => ?_)
      clear fr1 fr2
      obtain ⟨a, ga, ca, ta⟩ := kB B.2.2 hB
      refine ⟨a, ga, ca, 15 * P, 26000 * P, by omega, by omega, hr _ _ a _ _ ta (w5 hB) (fun r Hr sr Fr1 => ?_)⟩
      replace B := B.nf Fr1
      refine bd_X B sr (by simp only [List.length_append, List.length_nil, decL_len, kl2, kl3, kl4, kl5, kl6, kl7, kl8, kl9, kl10, kl11, kl12, kl13, kl14, kl15, kl16, kl17, kl18, kl19, kl20, kl21, kl22, kl23, kl24, kl25, kl26, kl27, kl28, kl29, kl30, kl31, kl32, kl33, kl34, kl35, kl36, kl37, kl38, kl39, kl40, kl41, kl42, kl43, kl44, kl45, kl46, kl47, kl48, kl49, kl50, kl51]; omega) (by omega) (by omega) (fun Hn B => ?_)
      clear ga ca ta sr Fr1
      refine bd_end B (by simp only [List.length_append, List.length_nil, decL_len, kl2, kl3, kl4, kl5, kl6, kl7, kl8, kl9, kl10, kl11, kl12, kl13, kl14, kl15, kl16, kl17, kl18, kl19, kl20, kl21, kl22, kl23, kl24, kl25, kl26, kl27, kl28, kl29, kl30, kl31, kl32, kl33, kl34, kl35, kl36, kl37, kl38, kl39, kl40, kl41, kl42, kl43, kl44, kl45, kl46, kl47, kl48, kl49, kl50, kl51]; omega) (by omega) (by omega) (fun r w Hr sr _ _ _ Fr1 => k r Hr ?_ Fr1)
      rw [tx_22 eq]
      exact Or.inl ⟨w, sr⟩
    · rw [h] at k0 kd ne ⊢
      have k0 : gF H p 9 0 (.int (nI 23)) := k0
      refine bn_f (by decide) ⟨_, k0, br_t (by decide) ⟨_, k0, br_t (by decide) ⟨_, k0, bn_f (by decide) ⟨_, k0, bn_f (by decide) ⟨_, k0, br_t (by decide) ⟨_, k0, br_t (by decide) ⟨_, k0, ?_⟩⟩⟩⟩⟩⟩⟩
      refine br_f (by decide) ?_
      refine ⟨by omega, by omega, fun q hq => bd_new Fr.refl hq (by omega) (by omega) (fun Hn B => ?_)⟩
      have eq : trQ x = 23 := h
      have hA : knA (trQ x) := by rw [eq]; exact ⟨by decide, by decide⟩
      have la := lA hA
      have hB : knB (trQ x) := by rw [eq]; exact ⟨by decide, by decide, by decide, by decide⟩
      have lb := lB hB
      obtain ⟨a, ga, ca, ta⟩ := kA B.2.2 hA
      refine ⟨a, ga, ca, 15 * P, 26000 * P, by omega, by omega, hr _ _ a _ _ ta (w4 hA) (fun r Hr sr Fr1 => ?_)⟩
      replace B := B.nf Fr1
      refine bd_X B sr (by simp only [List.length_append, List.length_nil, decL_len, kl2, kl3, kl4, kl5, kl6, kl7, kl8, kl9, kl10, kl11, kl12, kl13, kl14, kl15, kl16, kl17, kl18, kl19, kl20, kl21, kl22, kl23, kl24, kl25, kl26, kl27, kl28, kl29, kl30, kl31, kl32, kl33, kl34, kl35, kl36, kl37, kl38, kl39, kl40, kl41, kl42, kl43, kl44, kl45, kl46, kl47, kl48, kl49, kl50, kl51]; omega) (by omega) (by omega) (fun Hn B => ?_)
      clear ga ca ta sr Fr1
      obtain ⟨fr, fr1, fr2⟩ := r3.nf B.2.2
      refine ⟨_, kd B.2.2, 5, fr, Z.1 18, fr1, ?_, ?_, ?_⟩
      · unfold vp_in; decide
      · exact fr2 3 (by decide)
      refine bd_K (i := 18) (by decide) B (by simp only [List.length_append, List.length_nil, decL_len, kl2, kl3, kl4, kl5, kl6, kl7, kl8, kl9, kl10, kl11, kl12, kl13, kl14, kl15, kl16, kl17, kl18, kl19, kl20, kl21, kl22, kl23, kl24, kl25, kl26, kl27, kl28, kl29, kl30, kl31, kl32, kl33, kl34, kl35, kl36, kl37, kl38, kl39, kl40, kl41, kl42, kl43, kl44, kl45, kl46, kl47, kl48, kl49, kl50, kl51]; omega) (by omega) (by omega) (fun Hn B => ?_)
      clear fr1 fr2
      obtain ⟨a, ga, ca, ta⟩ := kB B.2.2 hB
      refine ⟨a, ga, ca, 15 * P, 26000 * P, by omega, by omega, hr _ _ a _ _ ta (w5 hB) (fun r Hr sr Fr1 => ?_)⟩
      replace B := B.nf Fr1
      refine bd_X B sr (by simp only [List.length_append, List.length_nil, decL_len, kl2, kl3, kl4, kl5, kl6, kl7, kl8, kl9, kl10, kl11, kl12, kl13, kl14, kl15, kl16, kl17, kl18, kl19, kl20, kl21, kl22, kl23, kl24, kl25, kl26, kl27, kl28, kl29, kl30, kl31, kl32, kl33, kl34, kl35, kl36, kl37, kl38, kl39, kl40, kl41, kl42, kl43, kl44, kl45, kl46, kl47, kl48, kl49, kl50, kl51]; omega) (by omega) (by omega) (fun Hn B => ?_)
      clear ga ca ta sr Fr1
      refine bd_end B (by simp only [List.length_append, List.length_nil, decL_len, kl2, kl3, kl4, kl5, kl6, kl7, kl8, kl9, kl10, kl11, kl12, kl13, kl14, kl15, kl16, kl17, kl18, kl19, kl20, kl21, kl22, kl23, kl24, kl25, kl26, kl27, kl28, kl29, kl30, kl31, kl32, kl33, kl34, kl35, kl36, kl37, kl38, kl39, kl40, kl41, kl42, kl43, kl44, kl45, kl46, kl47, kl48, kl49, kl50, kl51]; omega) (by omega) (by omega) (fun r w Hr sr _ _ _ Fr1 => k r Hr ?_ Fr1)
      rw [tx_23 eq]
      exact Or.inl ⟨w, sr⟩
    · rw [h] at k0 kd ne ⊢
      have k0 : gF H p 9 0 (.int (nI 24)) := k0
      refine bn_f (by decide) ⟨_, k0, br_t (by decide) ⟨_, k0, br_t (by decide) ⟨_, k0, bn_f (by decide) ⟨_, k0, bn_f (by decide) ⟨_, k0, br_t (by decide) ⟨_, k0, br_t (by decide) ⟨_, k0, ?_⟩⟩⟩⟩⟩⟩⟩
      refine br_f (by decide) ?_
      refine ⟨by omega, by omega, fun q hq => bd_new Fr.refl hq (by omega) (by omega) (fun Hn B => ?_)⟩
      have eq : trQ x = 24 := h
      have hA : knA (trQ x) := by rw [eq]; exact ⟨by decide, by decide⟩
      have la := lA hA
      have hB : knB (trQ x) := by rw [eq]; exact ⟨by decide, by decide, by decide, by decide⟩
      have lb := lB hB
      obtain ⟨a, ga, ca, ta⟩ := kA B.2.2 hA
      refine ⟨a, ga, ca, 15 * P, 26000 * P, by omega, by omega, hr _ _ a _ _ ta (w4 hA) (fun r Hr sr Fr1 => ?_)⟩
      replace B := B.nf Fr1
      refine bd_X B sr (by simp only [List.length_append, List.length_nil, decL_len, kl2, kl3, kl4, kl5, kl6, kl7, kl8, kl9, kl10, kl11, kl12, kl13, kl14, kl15, kl16, kl17, kl18, kl19, kl20, kl21, kl22, kl23, kl24, kl25, kl26, kl27, kl28, kl29, kl30, kl31, kl32, kl33, kl34, kl35, kl36, kl37, kl38, kl39, kl40, kl41, kl42, kl43, kl44, kl45, kl46, kl47, kl48, kl49, kl50, kl51]; omega) (by omega) (by omega) (fun Hn B => ?_)
      clear ga ca ta sr Fr1
      obtain ⟨fr, fr1, fr2⟩ := r3.nf B.2.2
      refine ⟨_, kd B.2.2, 5, fr, Z.1 19, fr1, ?_, ?_, ?_⟩
      · unfold vp_in; decide
      · exact fr2 4 (by decide)
      refine bd_K (i := 19) (by decide) B (by simp only [List.length_append, List.length_nil, decL_len, kl2, kl3, kl4, kl5, kl6, kl7, kl8, kl9, kl10, kl11, kl12, kl13, kl14, kl15, kl16, kl17, kl18, kl19, kl20, kl21, kl22, kl23, kl24, kl25, kl26, kl27, kl28, kl29, kl30, kl31, kl32, kl33, kl34, kl35, kl36, kl37, kl38, kl39, kl40, kl41, kl42, kl43, kl44, kl45, kl46, kl47, kl48, kl49, kl50, kl51]; omega) (by omega) (by omega) (fun Hn B => ?_)
      clear fr1 fr2
      obtain ⟨a, ga, ca, ta⟩ := kB B.2.2 hB
      refine ⟨a, ga, ca, 15 * P, 26000 * P, by omega, by omega, hr _ _ a _ _ ta (w5 hB) (fun r Hr sr Fr1 => ?_)⟩
      replace B := B.nf Fr1
      refine bd_X B sr (by simp only [List.length_append, List.length_nil, decL_len, kl2, kl3, kl4, kl5, kl6, kl7, kl8, kl9, kl10, kl11, kl12, kl13, kl14, kl15, kl16, kl17, kl18, kl19, kl20, kl21, kl22, kl23, kl24, kl25, kl26, kl27, kl28, kl29, kl30, kl31, kl32, kl33, kl34, kl35, kl36, kl37, kl38, kl39, kl40, kl41, kl42, kl43, kl44, kl45, kl46, kl47, kl48, kl49, kl50, kl51]; omega) (by omega) (by omega) (fun Hn B => ?_)
      clear ga ca ta sr Fr1
      refine bd_end B (by simp only [List.length_append, List.length_nil, decL_len, kl2, kl3, kl4, kl5, kl6, kl7, kl8, kl9, kl10, kl11, kl12, kl13, kl14, kl15, kl16, kl17, kl18, kl19, kl20, kl21, kl22, kl23, kl24, kl25, kl26, kl27, kl28, kl29, kl30, kl31, kl32, kl33, kl34, kl35, kl36, kl37, kl38, kl39, kl40, kl41, kl42, kl43, kl44, kl45, kl46, kl47, kl48, kl49, kl50, kl51]; omega) (by omega) (by omega) (fun r w Hr sr _ _ _ Fr1 => k r Hr ?_ Fr1)
      rw [tx_24 eq]
      exact Or.inl ⟨w, sr⟩
    · rw [h] at k0 kd ne ⊢
      have k0 : gF H p 9 0 (.int (nI 25)) := k0
      refine bn_f (by decide) ⟨_, k0, br_t (by decide) ⟨_, k0, br_t (by decide) ⟨_, k0, bn_f (by decide) ⟨_, k0, bn_f (by decide) ⟨_, k0, br_t (by decide) ⟨_, k0, br_t (by decide) ⟨_, k0, ?_⟩⟩⟩⟩⟩⟩⟩
      refine br_t (by decide) ⟨_, k0, ?_⟩
      refine bn_t rfl ?_
      refine ⟨by omega, by omega, fun q hq => bd_new Fr.refl hq (by omega) (by omega) (fun Hn B => ?_)⟩
      have eq : trQ x = 25 := h
      refine bd_K (i := 26) (by decide) B (by simp only [List.length_append, List.length_nil, decL_len, kl2, kl3, kl4, kl5, kl6, kl7, kl8, kl9, kl10, kl11, kl12, kl13, kl14, kl15, kl16, kl17, kl18, kl19, kl20, kl21, kl22, kl23, kl24, kl25, kl26, kl27, kl28, kl29, kl30, kl31, kl32, kl33, kl34, kl35, kl36, kl37, kl38, kl39, kl40, kl41, kl42, kl43, kl44, kl45, kl46, kl47, kl48, kl49, kl50, kl51]; omega) (by omega) (by omega) (fun Hn B => ?_)
      refine ⟨_, kn B.2.2, bd_I w2 B (by simp only [List.length_append, List.length_nil, decL_len, kl2, kl3, kl4, kl5, kl6, kl7, kl8, kl9, kl10, kl11, kl12, kl13, kl14, kl15, kl16, kl17, kl18, kl19, kl20, kl21, kl22, kl23, kl24, kl25, kl26, kl27, kl28, kl29, kl30, kl31, kl32, kl33, kl34, kl35, kl36, kl37, kl38, kl39, kl40, kl41, kl42, kl43, kl44, kl45, kl46, kl47, kl48, kl49, kl50, kl51]; omega) (by omega) (by omega) (fun Hn B => ?_)⟩
      refine bd_K (i := 20) (by decide) B (by simp only [List.length_append, List.length_nil, decL_len, kl2, kl3, kl4, kl5, kl6, kl7, kl8, kl9, kl10, kl11, kl12, kl13, kl14, kl15, kl16, kl17, kl18, kl19, kl20, kl21, kl22, kl23, kl24, kl25, kl26, kl27, kl28, kl29, kl30, kl31, kl32, kl33, kl34, kl35, kl36, kl37, kl38, kl39, kl40, kl41, kl42, kl43, kl44, kl45, kl46, kl47, kl48, kl49, kl50, kl51]; omega) (by omega) (by omega) (fun Hn B => ?_)
      refine bd_end B (by simp only [List.length_append, List.length_nil, decL_len, kl2, kl3, kl4, kl5, kl6, kl7, kl8, kl9, kl10, kl11, kl12, kl13, kl14, kl15, kl16, kl17, kl18, kl19, kl20, kl21, kl22, kl23, kl24, kl25, kl26, kl27, kl28, kl29, kl30, kl31, kl32, kl33, kl34, kl35, kl36, kl37, kl38, kl39, kl40, kl41, kl42, kl43, kl44, kl45, kl46, kl47, kl48, kl49, kl50, kl51]; omega) (by omega) (by omega) (fun r w Hr sr _ _ _ Fr1 => k r Hr ?_ Fr1)
      rw [tx_25 eq]
      exact Or.inl ⟨w, sr⟩
    · rw [h] at k0 kd ne ⊢
      have k0 : gF H p 9 0 (.int (nI 26)) := k0
      refine bn_f (by decide) ⟨_, k0, br_t (by decide) ⟨_, k0, br_t (by decide) ⟨_, k0, bn_f (by decide) ⟨_, k0, bn_f (by decide) ⟨_, k0, br_t (by decide) ⟨_, k0, br_t (by decide) ⟨_, k0, ?_⟩⟩⟩⟩⟩⟩⟩
      refine br_t (by decide) ⟨_, k0, ?_⟩
      refine bn_f (by decide) ⟨_, k0, ?_⟩
      refine bn_t rfl ?_
      refine ⟨by omega, by omega, fun q hq => bd_new Fr.refl hq (by omega) (by omega) (fun Hn B => ?_)⟩
      have eq : trQ x = 26 := h
      have hA : knA (trQ x) := by rw [eq]; exact ⟨by decide, by decide⟩
      have la := lA hA
      refine bd_K (i := 27) (by decide) B (by simp only [List.length_append, List.length_nil, decL_len, kl2, kl3, kl4, kl5, kl6, kl7, kl8, kl9, kl10, kl11, kl12, kl13, kl14, kl15, kl16, kl17, kl18, kl19, kl20, kl21, kl22, kl23, kl24, kl25, kl26, kl27, kl28, kl29, kl30, kl31, kl32, kl33, kl34, kl35, kl36, kl37, kl38, kl39, kl40, kl41, kl42, kl43, kl44, kl45, kl46, kl47, kl48, kl49, kl50, kl51]; omega) (by omega) (by omega) (fun Hn B => ?_)
      obtain ⟨a, ga, ca, ta⟩ := kA B.2.2 hA
      refine ⟨a, ga, ca, 15 * P, 26000 * P, by omega, by omega, hr _ _ a _ _ ta (w4 hA) (fun r Hr sr Fr1 => ?_)⟩
      replace B := B.nf Fr1
      refine bd_X B sr (by simp only [List.length_append, List.length_nil, decL_len, kl2, kl3, kl4, kl5, kl6, kl7, kl8, kl9, kl10, kl11, kl12, kl13, kl14, kl15, kl16, kl17, kl18, kl19, kl20, kl21, kl22, kl23, kl24, kl25, kl26, kl27, kl28, kl29, kl30, kl31, kl32, kl33, kl34, kl35, kl36, kl37, kl38, kl39, kl40, kl41, kl42, kl43, kl44, kl45, kl46, kl47, kl48, kl49, kl50, kl51]; omega) (by omega) (by omega) (fun Hn B => ?_)
      clear ga ca ta sr Fr1
      refine bd_end B (by simp only [List.length_append, List.length_nil, decL_len, kl2, kl3, kl4, kl5, kl6, kl7, kl8, kl9, kl10, kl11, kl12, kl13, kl14, kl15, kl16, kl17, kl18, kl19, kl20, kl21, kl22, kl23, kl24, kl25, kl26, kl27, kl28, kl29, kl30, kl31, kl32, kl33, kl34, kl35, kl36, kl37, kl38, kl39, kl40, kl41, kl42, kl43, kl44, kl45, kl46, kl47, kl48, kl49, kl50, kl51]; omega) (by omega) (by omega) (fun r w Hr sr _ _ _ Fr1 => k r Hr ?_ Fr1)
      rw [tx_26 eq]
      exact Or.inl ⟨w, sr⟩
    · rw [h] at k0 kd ne ⊢
      have k0 : gF H p 9 0 (.int (nI 29)) := k0
      refine bn_f (by decide) ⟨_, k0, br_t (by decide) ⟨_, k0, br_t (by decide) ⟨_, k0, bn_f (by decide) ⟨_, k0, bn_f (by decide) ⟨_, k0, br_t (by decide) ⟨_, k0, br_t (by decide) ⟨_, k0, ?_⟩⟩⟩⟩⟩⟩⟩
      refine br_t (by decide) ⟨_, k0, ?_⟩
      refine bn_f (by decide) ⟨_, k0, ?_⟩
      refine bn_f (by decide) ⟨_, k0, ?_⟩
      refine bn_t rfl ?_
      refine ⟨by omega, by omega, fun q hq => bd_new Fr.refl hq (by omega) (by omega) (fun Hn B => ?_)⟩
      have eq : trQ x = 29 := h
      have hA : knA (trQ x) := by rw [eq]; exact ⟨by decide, by decide⟩
      have la := lA hA
      refine bd_K (i := 28) (by decide) B (by simp only [List.length_append, List.length_nil, decL_len, kl2, kl3, kl4, kl5, kl6, kl7, kl8, kl9, kl10, kl11, kl12, kl13, kl14, kl15, kl16, kl17, kl18, kl19, kl20, kl21, kl22, kl23, kl24, kl25, kl26, kl27, kl28, kl29, kl30, kl31, kl32, kl33, kl34, kl35, kl36, kl37, kl38, kl39, kl40, kl41, kl42, kl43, kl44, kl45, kl46, kl47, kl48, kl49, kl50, kl51]; omega) (by omega) (by omega) (fun Hn B => ?_)
      obtain ⟨a, ga, ca, ta⟩ := kA B.2.2 hA
      refine ⟨a, ga, ca, 15 * P, 26000 * P, by omega, by omega, hr _ _ a _ _ ta (w4 hA) (fun r Hr sr Fr1 => ?_)⟩
      replace B := B.nf Fr1
      refine bd_X B sr (by simp only [List.length_append, List.length_nil, decL_len, kl2, kl3, kl4, kl5, kl6, kl7, kl8, kl9, kl10, kl11, kl12, kl13, kl14, kl15, kl16, kl17, kl18, kl19, kl20, kl21, kl22, kl23, kl24, kl25, kl26, kl27, kl28, kl29, kl30, kl31, kl32, kl33, kl34, kl35, kl36, kl37, kl38, kl39, kl40, kl41, kl42, kl43, kl44, kl45, kl46, kl47, kl48, kl49, kl50, kl51]; omega) (by omega) (by omega) (fun Hn B => ?_)
      clear ga ca ta sr Fr1
      refine bd_K (i := 29) (by decide) B (by simp only [List.length_append, List.length_nil, decL_len, kl2, kl3, kl4, kl5, kl6, kl7, kl8, kl9, kl10, kl11, kl12, kl13, kl14, kl15, kl16, kl17, kl18, kl19, kl20, kl21, kl22, kl23, kl24, kl25, kl26, kl27, kl28, kl29, kl30, kl31, kl32, kl33, kl34, kl35, kl36, kl37, kl38, kl39, kl40, kl41, kl42, kl43, kl44, kl45, kl46, kl47, kl48, kl49, kl50, kl51]; omega) (by omega) (by omega) (fun Hn B => ?_)
      refine bd_end B (by simp only [List.length_append, List.length_nil, decL_len, kl2, kl3, kl4, kl5, kl6, kl7, kl8, kl9, kl10, kl11, kl12, kl13, kl14, kl15, kl16, kl17, kl18, kl19, kl20, kl21, kl22, kl23, kl24, kl25, kl26, kl27, kl28, kl29, kl30, kl31, kl32, kl33, kl34, kl35, kl36, kl37, kl38, kl39, kl40, kl41, kl42, kl43, kl44, kl45, kl46, kl47, kl48, kl49, kl50, kl51]; omega) (by omega) (by omega) (fun r w Hr sr _ _ _ Fr1 => k r Hr ?_ Fr1)
      rw [tx_29 eq]
      exact Or.inl ⟨w, sr⟩
    · rw [h] at k0 kd ne ⊢
      have k0 : gF H p 9 0 (.int (nI 30)) := k0
      refine bn_f (by decide) ⟨_, k0, br_t (by decide) ⟨_, k0, br_t (by decide) ⟨_, k0, bn_f (by decide) ⟨_, k0, bn_f (by decide) ⟨_, k0, br_t (by decide) ⟨_, k0, br_t (by decide) ⟨_, k0, ?_⟩⟩⟩⟩⟩⟩⟩
      refine br_t (by decide) ⟨_, k0, ?_⟩
      refine bn_f (by decide) ⟨_, k0, ?_⟩
      refine bn_f (by decide) ⟨_, k0, ?_⟩
      refine bn_f (by decide) ?_
      refine ⟨by omega, by omega, fun q hq => bd_new Fr.refl hq (by omega) (by omega) (fun Hn B => ?_)⟩
      have eq : trQ x = 30 := h
      have hA : knA (trQ x) := by rw [eq]; exact ⟨by decide, by decide⟩
      have la := lA hA
      have hB : knB (trQ x) := by rw [eq]; exact ⟨by decide, by decide, by decide, by decide⟩
      have lb := lB hB
      refine bd_K (i := 30) (by decide) B (by simp only [List.length_append, List.length_nil, decL_len, kl2, kl3, kl4, kl5, kl6, kl7, kl8, kl9, kl10, kl11, kl12, kl13, kl14, kl15, kl16, kl17, kl18, kl19, kl20, kl21, kl22, kl23, kl24, kl25, kl26, kl27, kl28, kl29, kl30, kl31, kl32, kl33, kl34, kl35, kl36, kl37, kl38, kl39, kl40, kl41, kl42, kl43, kl44, kl45, kl46, kl47, kl48, kl49, kl50, kl51]; omega) (by omega) (by omega) (fun Hn B => ?_)
      obtain ⟨a, ga, ca, ta⟩ := kA B.2.2 hA
      refine ⟨a, ga, ca, 15 * P, 26000 * P, by omega, by omega, hr _ _ a _ _ ta (w4 hA) (fun r Hr sr Fr1 => ?_)⟩
      replace B := B.nf Fr1
      refine bd_X B sr (by simp only [List.length_append, List.length_nil, decL_len, kl2, kl3, kl4, kl5, kl6, kl7, kl8, kl9, kl10, kl11, kl12, kl13, kl14, kl15, kl16, kl17, kl18, kl19, kl20, kl21, kl22, kl23, kl24, kl25, kl26, kl27, kl28, kl29, kl30, kl31, kl32, kl33, kl34, kl35, kl36, kl37, kl38, kl39, kl40, kl41, kl42, kl43, kl44, kl45, kl46, kl47, kl48, kl49, kl50, kl51]; omega) (by omega) (by omega) (fun Hn B => ?_)
      clear ga ca ta sr Fr1
      refine bd_K (i := 29) (by decide) B (by simp only [List.length_append, List.length_nil, decL_len, kl2, kl3, kl4, kl5, kl6, kl7, kl8, kl9, kl10, kl11, kl12, kl13, kl14, kl15, kl16, kl17, kl18, kl19, kl20, kl21, kl22, kl23, kl24, kl25, kl26, kl27, kl28, kl29, kl30, kl31, kl32, kl33, kl34, kl35, kl36, kl37, kl38, kl39, kl40, kl41, kl42, kl43, kl44, kl45, kl46, kl47, kl48, kl49, kl50, kl51]; omega) (by omega) (by omega) (fun Hn B => ?_)
      refine ⟨_, kd B.2.2, bn_t rfl ?_⟩
      unfold wX10_text_617
      refine bd_K (i := 31) (by decide) B (by simp only [List.length_append, List.length_nil, decL_len, kl2, kl3, kl4, kl5, kl6, kl7, kl8, kl9, kl10, kl11, kl12, kl13, kl14, kl15, kl16, kl17, kl18, kl19, kl20, kl21, kl22, kl23, kl24, kl25, kl26, kl27, kl28, kl29, kl30, kl31, kl32, kl33, kl34, kl35, kl36, kl37, kl38, kl39, kl40, kl41, kl42, kl43, kl44, kl45, kl46, kl47, kl48, kl49, kl50, kl51]; omega) (by omega) (by omega) (fun Hn B => ?_)
      refine bd_K (i := 30) (by decide) B (by simp only [List.length_append, List.length_nil, decL_len, kl2, kl3, kl4, kl5, kl6, kl7, kl8, kl9, kl10, kl11, kl12, kl13, kl14, kl15, kl16, kl17, kl18, kl19, kl20, kl21, kl22, kl23, kl24, kl25, kl26, kl27, kl28, kl29, kl30, kl31, kl32, kl33, kl34, kl35, kl36, kl37, kl38, kl39, kl40, kl41, kl42, kl43, kl44, kl45, kl46, kl47, kl48, kl49, kl50, kl51]; omega) (by omega) (by omega) (fun Hn B => ?_)
      obtain ⟨a, ga, ca, ta⟩ := kB B.2.2 hB
      refine ⟨a, ga, ca, 15 * P, 26000 * P, by omega, by omega, hr _ _ a _ _ ta (w5 hB) (fun r Hr sr Fr1 => ?_)⟩
      replace B := B.nf Fr1
      refine bd_X B sr (by simp only [List.length_append, List.length_nil, decL_len, kl2, kl3, kl4, kl5, kl6, kl7, kl8, kl9, kl10, kl11, kl12, kl13, kl14, kl15, kl16, kl17, kl18, kl19, kl20, kl21, kl22, kl23, kl24, kl25, kl26, kl27, kl28, kl29, kl30, kl31, kl32, kl33, kl34, kl35, kl36, kl37, kl38, kl39, kl40, kl41, kl42, kl43, kl44, kl45, kl46, kl47, kl48, kl49, kl50, kl51]; omega) (by omega) (by omega) (fun Hn B => ?_)
      clear ga ca ta sr Fr1
      refine bd_K (i := 29) (by decide) B (by simp only [List.length_append, List.length_nil, decL_len, kl2, kl3, kl4, kl5, kl6, kl7, kl8, kl9, kl10, kl11, kl12, kl13, kl14, kl15, kl16, kl17, kl18, kl19, kl20, kl21, kl22, kl23, kl24, kl25, kl26, kl27, kl28, kl29, kl30, kl31, kl32, kl33, kl34, kl35, kl36, kl37, kl38, kl39, kl40, kl41, kl42, kl43, kl44, kl45, kl46, kl47, kl48, kl49, kl50, kl51]; omega) (by omega) (by omega) (fun Hn B => ?_)
      refine bd_end B (by simp only [List.length_append, List.length_nil, decL_len, kl2, kl3, kl4, kl5, kl6, kl7, kl8, kl9, kl10, kl11, kl12, kl13, kl14, kl15, kl16, kl17, kl18, kl19, kl20, kl21, kl22, kl23, kl24, kl25, kl26, kl27, kl28, kl29, kl30, kl31, kl32, kl33, kl34, kl35, kl36, kl37, kl38, kl39, kl40, kl41, kl42, kl43, kl44, kl45, kl46, kl47, kl48, kl49, kl50, kl51]; omega) (by omega) (by omega) (fun r w Hr sr _ _ _ Fr1 => k r Hr ?_ Fr1)
      rw [tx_30 eq]
      exact Or.inl ⟨w, sr⟩
    · rw [h] at k0 kd ne ⊢
      have k0 : gF H p 9 0 (.int (nI 31)) := k0
      refine bn_f (by decide) ⟨_, k0, br_t (by decide) ⟨_, k0, br_t (by decide) ⟨_, k0, bn_f (by decide) ⟨_, k0, bn_f (by decide) ⟨_, k0, br_t (by decide) ⟨_, k0, br_t (by decide) ⟨_, k0, ?_⟩⟩⟩⟩⟩⟩⟩
      refine br_t (by decide) ⟨_, k0, ?_⟩
      refine bn_f (by decide) ⟨_, k0, ?_⟩
      refine bn_f (by decide) ⟨_, k0, ?_⟩
      refine bn_f (by decide) ?_
      refine ⟨by omega, by omega, fun q hq => bd_new Fr.refl hq (by omega) (by omega) (fun Hn B => ?_)⟩
      have eq : trQ x = 31 := h
      have hA : knA (trQ x) := by rw [eq]; exact ⟨by decide, by decide⟩
      have la := lA hA
      have hB : knB (trQ x) := by rw [eq]; exact ⟨by decide, by decide, by decide, by decide⟩
      have lb := lB hB
      refine bd_K (i := 30) (by decide) B (by simp only [List.length_append, List.length_nil, decL_len, kl2, kl3, kl4, kl5, kl6, kl7, kl8, kl9, kl10, kl11, kl12, kl13, kl14, kl15, kl16, kl17, kl18, kl19, kl20, kl21, kl22, kl23, kl24, kl25, kl26, kl27, kl28, kl29, kl30, kl31, kl32, kl33, kl34, kl35, kl36, kl37, kl38, kl39, kl40, kl41, kl42, kl43, kl44, kl45, kl46, kl47, kl48, kl49, kl50, kl51]; omega) (by omega) (by omega) (fun Hn B => ?_)
      obtain ⟨a, ga, ca, ta⟩ := kA B.2.2 hA
      refine ⟨a, ga, ca, 15 * P, 26000 * P, by omega, by omega, hr _ _ a _ _ ta (w4 hA) (fun r Hr sr Fr1 => ?_)⟩
      replace B := B.nf Fr1
      refine bd_X B sr (by simp only [List.length_append, List.length_nil, decL_len, kl2, kl3, kl4, kl5, kl6, kl7, kl8, kl9, kl10, kl11, kl12, kl13, kl14, kl15, kl16, kl17, kl18, kl19, kl20, kl21, kl22, kl23, kl24, kl25, kl26, kl27, kl28, kl29, kl30, kl31, kl32, kl33, kl34, kl35, kl36, kl37, kl38, kl39, kl40, kl41, kl42, kl43, kl44, kl45, kl46, kl47, kl48, kl49, kl50, kl51]; omega) (by omega) (by omega) (fun Hn B => ?_)
      clear ga ca ta sr Fr1
      refine bd_K (i := 29) (by decide) B (by simp only [List.length_append, List.length_nil, decL_len, kl2, kl3, kl4, kl5, kl6, kl7, kl8, kl9, kl10, kl11, kl12, kl13, kl14, kl15, kl16, kl17, kl18, kl19, kl20, kl21, kl22, kl23, kl24, kl25, kl26, kl27, kl28, kl29, kl30, kl31, kl32, kl33, kl34, kl35, kl36, kl37, kl38, kl39, kl40, kl41, kl42, kl43, kl44, kl45, kl46, kl47, kl48, kl49, kl50, kl51]; omega) (by omega) (by omega) (fun Hn B => ?_)
      refine ⟨_, kd B.2.2, bn_f (by decide) ?_⟩
      unfold wX10_text_617
      refine bd_K (i := 32) (by decide) B (by simp only [List.length_append, List.length_nil, decL_len, kl2, kl3, kl4, kl5, kl6, kl7, kl8, kl9, kl10, kl11, kl12, kl13, kl14, kl15, kl16, kl17, kl18, kl19, kl20, kl21, kl22, kl23, kl24, kl25, kl26, kl27, kl28, kl29, kl30, kl31, kl32, kl33, kl34, kl35, kl36, kl37, kl38, kl39, kl40, kl41, kl42, kl43, kl44, kl45, kl46, kl47, kl48, kl49, kl50, kl51]; omega) (by omega) (by omega) (fun Hn B => ?_)
      refine bd_K (i := 30) (by decide) B (by simp only [List.length_append, List.length_nil, decL_len, kl2, kl3, kl4, kl5, kl6, kl7, kl8, kl9, kl10, kl11, kl12, kl13, kl14, kl15, kl16, kl17, kl18, kl19, kl20, kl21, kl22, kl23, kl24, kl25, kl26, kl27, kl28, kl29, kl30, kl31, kl32, kl33, kl34, kl35, kl36, kl37, kl38, kl39, kl40, kl41, kl42, kl43, kl44, kl45, kl46, kl47, kl48, kl49, kl50, kl51]; omega) (by omega) (by omega) (fun Hn B => ?_)
      obtain ⟨a, ga, ca, ta⟩ := kB B.2.2 hB
      refine ⟨a, ga, ca, 15 * P, 26000 * P, by omega, by omega, hr _ _ a _ _ ta (w5 hB) (fun r Hr sr Fr1 => ?_)⟩
      replace B := B.nf Fr1
      refine bd_X B sr (by simp only [List.length_append, List.length_nil, decL_len, kl2, kl3, kl4, kl5, kl6, kl7, kl8, kl9, kl10, kl11, kl12, kl13, kl14, kl15, kl16, kl17, kl18, kl19, kl20, kl21, kl22, kl23, kl24, kl25, kl26, kl27, kl28, kl29, kl30, kl31, kl32, kl33, kl34, kl35, kl36, kl37, kl38, kl39, kl40, kl41, kl42, kl43, kl44, kl45, kl46, kl47, kl48, kl49, kl50, kl51]; omega) (by omega) (by omega) (fun Hn B => ?_)
      clear ga ca ta sr Fr1
      refine bd_K (i := 29) (by decide) B (by simp only [List.length_append, List.length_nil, decL_len, kl2, kl3, kl4, kl5, kl6, kl7, kl8, kl9, kl10, kl11, kl12, kl13, kl14, kl15, kl16, kl17, kl18, kl19, kl20, kl21, kl22, kl23, kl24, kl25, kl26, kl27, kl28, kl29, kl30, kl31, kl32, kl33, kl34, kl35, kl36, kl37, kl38, kl39, kl40, kl41, kl42, kl43, kl44, kl45, kl46, kl47, kl48, kl49, kl50, kl51]; omega) (by omega) (by omega) (fun Hn B => ?_)
      refine bd_end B (by simp only [List.length_append, List.length_nil, decL_len, kl2, kl3, kl4, kl5, kl6, kl7, kl8, kl9, kl10, kl11, kl12, kl13, kl14, kl15, kl16, kl17, kl18, kl19, kl20, kl21, kl22, kl23, kl24, kl25, kl26, kl27, kl28, kl29, kl30, kl31, kl32, kl33, kl34, kl35, kl36, kl37, kl38, kl39, kl40, kl41, kl42, kl43, kl44, kl45, kl46, kl47, kl48, kl49, kl50, kl51]; omega) (by omega) (by omega) (fun r w Hr sr _ _ _ Fr1 => k r Hr ?_ Fr1)
      rw [tx_31 eq]
      exact Or.inl ⟨w, sr⟩
theorem hz_text {e : Nat} (he : e ≤ 3) : ∀ (d : Nat) (b : Bool) (H : gH) (bc bs p : Nat) (x : Tr d) (K : Nat → gH → Prop), d ≤ 4 → trA (fun _ => True) H d p x → trW e d b x → 15 * (2 ^ d - 1) ≤ bc → 26000 * (2 ^ d - 1) ≤ bs → (∀ r H', stX Z H' r (txT d x) → Fr (fun _ => False) H H' → K r H') → wX10_text Z d H bc bs p K := by
  intro d
  induction d with
  | zero => intro b H bc bs p x K _ h; exact h.elim
  | succ d ih =>
    intro b H bc bs p x K hd ht hw hc hs k
    have hp : 2 ^ (d + 1) = 2 * 2 ^ d := by rw [Nat.pow_succ]; omega
    have hp0 : 0 < 2 ^ d := Nat.two_pow_pos d
    have c5 : (5 : Int32).toNatClampNeg = 5 := rfl
    have c6 : (6 : Int32).toNatClampNeg = 6 := rfl
    have c7 : (7 : Int32).toNatClampNeg = 7 := rfl
    show wX10_text_E (wX10_text Z d) Z H bc bs p K
    unfold wX10_text_E
    refine ⟨by omega, by omega, fun q1 g1 => ⟨by omega, by omega, fun q2 g2 => ⟨by omega, by omega, fun q3 g3 => ?_⟩⟩⟩
    have F1 := Fr.n (X := fun _ => False) (e := qE (zY Z 7) (7 : Int32).toNatClampNeg (va_up (va_up (va_up (va_up (va_up (va_up (va_up (fun _ => none) (0 : Int32).toNatClampNeg (some (Z.1 2))) (1 : Int32).toNatClampNeg (some (Z.1 3))) (2 : Int32).toNatClampNeg (some (Z.1 4))) (3 : Int32).toNatClampNeg (some (Z.1 5))) (4 : Int32).toNatClampNeg (some (Z.1 6))) (5 : Int32).toNatClampNeg (some (Z.1 7))) (6 : Int32).toNatClampNeg (some (Z.1 8)))) g1
    have F2 := Fr.n (X := fun _ => False) (e := qE (zY Z 7) (6 : Int32).toNatClampNeg (va_up (va_up (va_up (va_up (va_up (va_up (fun _ => none) (0 : Int32).toNatClampNeg (some (Z.1 9))) (1 : Int32).toNatClampNeg (some (Z.1 10))) (2 : Int32).toNatClampNeg (some (Z.1 11))) (3 : Int32).toNatClampNeg (some (Z.1 12))) (4 : Int32).toNatClampNeg (some (Z.1 13))) (5 : Int32).toNatClampNeg (some (Z.1 14)))) g2
    have F3 := Fr.n (X := fun _ => False) (e := qE (zY Z 7) (5 : Int32).toNatClampNeg (va_up (va_up (va_up (va_up (va_up (fun _ => none) (0 : Int32).toNatClampNeg (some (Z.1 15))) (1 : Int32).toNatClampNeg (some (Z.1 16))) (2 : Int32).toNatClampNeg (some (Z.1 17))) (3 : Int32).toNatClampNeg (some (Z.1 18))) (4 : Int32).toNatClampNeg (some (Z.1 19)))) g3
    have R1 : rowS Z (hpN (hpN (hpN H q1 (qE (zY Z 7) (7 : Int32).toNatClampNeg (va_up (va_up (va_up (va_up (va_up (va_up (va_up (fun _ => none) (0 : Int32).toNatClampNeg (some (Z.1 2))) (1 : Int32).toNatClampNeg (some (Z.1 3))) (2 : Int32).toNatClampNeg (some (Z.1 4))) (3 : Int32).toNatClampNeg (some (Z.1 5))) (4 : Int32).toNatClampNeg (some (Z.1 6))) (5 : Int32).toNatClampNeg (some (Z.1 7))) (6 : Int32).toNatClampNeg (some (Z.1 8))))) q2 (qE (zY Z 7) (6 : Int32).toNatClampNeg (va_up (va_up (va_up (va_up (va_up (va_up (fun _ => none) (0 : Int32).toNatClampNeg (some (Z.1 9))) (1 : Int32).toNatClampNeg (some (Z.1 10))) (2 : Int32).toNatClampNeg (some (Z.1 11))) (3 : Int32).toNatClampNeg (some (Z.1 12))) (4 : Int32).toNatClampNeg (some (Z.1 13))) (5 : Int32).toNatClampNeg (some (Z.1 14))))) q3 (qE (zY Z 7) (5 : Int32).toNatClampNeg (va_up (va_up (va_up (va_up (va_up (fun _ => none) (0 : Int32).toNatClampNeg (some (Z.1 15))) (1 : Int32).toNatClampNeg (some (Z.1 16))) (2 : Int32).toNatClampNeg (some (Z.1 17))) (3 : Int32).toNatClampNeg (some (Z.1 18))) (4 : Int32).toNatClampNeg (some (Z.1 19))))) q1 7 2 := ⟨_, F3 _ _ (F2 _ _ hpG_n (fun z => z)) (fun z => z), fun j hj => by
      match j, hj with
      | 0, _ => rfl
      | 1, _ => rfl
      | 2, _ => rfl
      | 3, _ => rfl
      | 4, _ => rfl
      | 5, _ => rfl
      | 6, _ => rfl⟩
    have R2 : rowS Z (hpN (hpN (hpN H q1 (qE (zY Z 7) (7 : Int32).toNatClampNeg (va_up (va_up (va_up (va_up (va_up (va_up (va_up (fun _ => none) (0 : Int32).toNatClampNeg (some (Z.1 2))) (1 : Int32).toNatClampNeg (some (Z.1 3))) (2 : Int32).toNatClampNeg (some (Z.1 4))) (3 : Int32).toNatClampNeg (some (Z.1 5))) (4 : Int32).toNatClampNeg (some (Z.1 6))) (5 : Int32).toNatClampNeg (some (Z.1 7))) (6 : Int32).toNatClampNeg (some (Z.1 8))))) q2 (qE (zY Z 7) (6 : Int32).toNatClampNeg (va_up (va_up (va_up (va_up (va_up (va_up (fun _ => none) (0 : Int32).toNatClampNeg (some (Z.1 9))) (1 : Int32).toNatClampNeg (some (Z.1 10))) (2 : Int32).toNatClampNeg (some (Z.1 11))) (3 : Int32).toNatClampNeg (some (Z.1 12))) (4 : Int32).toNatClampNeg (some (Z.1 13))) (5 : Int32).toNatClampNeg (some (Z.1 14))))) q3 (qE (zY Z 7) (5 : Int32).toNatClampNeg (va_up (va_up (va_up (va_up (va_up (fun _ => none) (0 : Int32).toNatClampNeg (some (Z.1 15))) (1 : Int32).toNatClampNeg (some (Z.1 16))) (2 : Int32).toNatClampNeg (some (Z.1 17))) (3 : Int32).toNatClampNeg (some (Z.1 18))) (4 : Int32).toNatClampNeg (some (Z.1 19))))) q2 6 9 := ⟨_, F3 _ _ hpG_n (fun z => z), fun j hj => by
      match j, hj with
      | 0, _ => rfl
      | 1, _ => rfl
      | 2, _ => rfl
      | 3, _ => rfl
      | 4, _ => rfl
      | 5, _ => rfl⟩
    have R3 : rowS Z (hpN (hpN (hpN H q1 (qE (zY Z 7) (7 : Int32).toNatClampNeg (va_up (va_up (va_up (va_up (va_up (va_up (va_up (fun _ => none) (0 : Int32).toNatClampNeg (some (Z.1 2))) (1 : Int32).toNatClampNeg (some (Z.1 3))) (2 : Int32).toNatClampNeg (some (Z.1 4))) (3 : Int32).toNatClampNeg (some (Z.1 5))) (4 : Int32).toNatClampNeg (some (Z.1 6))) (5 : Int32).toNatClampNeg (some (Z.1 7))) (6 : Int32).toNatClampNeg (some (Z.1 8))))) q2 (qE (zY Z 7) (6 : Int32).toNatClampNeg (va_up (va_up (va_up (va_up (va_up (va_up (fun _ => none) (0 : Int32).toNatClampNeg (some (Z.1 9))) (1 : Int32).toNatClampNeg (some (Z.1 10))) (2 : Int32).toNatClampNeg (some (Z.1 11))) (3 : Int32).toNatClampNeg (some (Z.1 12))) (4 : Int32).toNatClampNeg (some (Z.1 13))) (5 : Int32).toNatClampNeg (some (Z.1 14))))) q3 (qE (zY Z 7) (5 : Int32).toNatClampNeg (va_up (va_up (va_up (va_up (va_up (fun _ => none) (0 : Int32).toNatClampNeg (some (Z.1 15))) (1 : Int32).toNatClampNeg (some (Z.1 16))) (2 : Int32).toNatClampNeg (some (Z.1 17))) (3 : Int32).toNatClampNeg (some (Z.1 18))) (4 : Int32).toNatClampNeg (some (Z.1 19))))) q3 5 15 := ⟨_, hpG_n, fun j hj => by
      match j, hj with
      | 0, _ => rfl
      | 1, _ => rfl
      | 2, _ => rfl
      | 3, _ => rfl
      | 4, _ => rfl⟩
    have FF := (F1.trans F2).trans F3
    refine tx_108 (P := 2 ^ d - 1) he (fun c H a y K h1 h2 h3 => ih c H _ _ a y K (by omega) h1 h2 (Nat.le_refl _) (Nat.le_refl _) h3) FF R1 R2 R3 (ht.k9 (Kp9.nf FF)) hw (by omega) (by omega) (by omega) (fun r H' h1 h2 => k r H' h1 (FF.trans h2))
end TEXT
