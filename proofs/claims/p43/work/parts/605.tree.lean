/-! PURE: the law's trees. Tr d: trees of at most d levels, a node (kind, number, first, second). -/
def Tr : Nat → Type
  | 0 => Unit
  | d + 1 => Nat × Nat × Tr d × Tr d
def tr0 : (d : Nat) → Tr d
  | 0 => ()
  | d + 1 => (0, 0, tr0 d, tr0 d)
def trM {d : Nat} (k n : Nat) (a b : Tr d) : Tr (d + 1) := (k, n, a, b)
def trQ {d : Nat} (t : Tr (d + 1)) : Nat := Prod.fst (α := Nat) (β := Nat × Tr d × Tr d) t
def trN {d : Nat} (t : Tr (d + 1)) : Nat := Prod.fst (α := Nat) (β := Tr d × Tr d) (Prod.snd (α := Nat) (β := Nat × Tr d × Tr d) t)
def trL {d : Nat} (t : Tr (d + 1)) : Tr d := Prod.fst (α := Tr d) (β := Tr d) (Prod.snd (α := Nat) (β := Tr d × Tr d) (Prod.snd (α := Nat) (β := Nat × Tr d × Tr d) t))
def trR {d : Nat} (t : Tr (d + 1)) : Tr d := Prod.snd (α := Tr d) (β := Tr d) (Prod.snd (α := Nat) (β := Tr d × Tr d) (Prod.snd (α := Nat) (β := Nat × Tr d × Tr d) t))
/-- which kinds have a first, a second -/
def knA (k : Nat) : Prop := 7 ≤ k ∧ k ≠ 25
def knB (k : Nat) : Prop := 9 ≤ k ∧ k ≠ 25 ∧ k ≠ 26 ∧ k ≠ 29
theorem knB_A {k : Nat} (h : knB k) : knA k := ⟨by have := h.1; omega, h.2.1⟩
/-- a tree in the heap at p, its nodes at places that N allows -/
def trA (N : Nat → Prop) (H : gH) : (d : Nat) → Nat → Tr d → Prop
  | 0, _, _ => False
  | d + 1, p, t => N p ∧ ∃ va vb, hpG H p = some (.inr (9, [.int (nI (trQ t)), .int (nI (trN t)), va, vb])) ∧ (knA (trQ t) → ∃ a, va = .ref a ∧ trA N H d a (trL t)) ∧ (knB (trQ t) → ∃ b, vb = .ref b ∧ trA N H d b (trR t))
theorem trA.fr {N N' : Nat → Prop} {H H' : gH} (h1 : ∀ b c, N b → hpG H b = some c → hpG H' b = some c) (h2 : ∀ b, N b → N' b) : ∀ {d p : Nat} {t : Tr d}, trA N H d p t → trA N' H' d p t := by
  intro d
  induction d with
  | zero => intro p t h; exact h.elim
  | succ d ih =>
    intro p t h
    obtain ⟨a1, va, vb, a2, a3, a4⟩ := h
    refine ⟨h2 _ a1, va, vb, h1 _ _ a1 a2, fun k => ?_, fun k => ?_⟩
    · obtain ⟨a, e, g⟩ := a3 k
      exact ⟨a, e, ih g⟩
    · obtain ⟨a, e, g⟩ := a4 k
      exact ⟨a, e, ih g⟩
/-- all nodes stay -/
def Kp9 (H H' : gH) : Prop := ∀ b fs, hpG H b = some (.inr (9, fs)) → hpG H' b = some (.inr (9, fs))
theorem Kp9.refl {H : gH} : Kp9 H H := fun _ _ h => h
theorem Kp9.trans {H H1 H2 : gH} (h1 : Kp9 H H1) (h2 : Kp9 H1 H2) : Kp9 H H2 := fun b fs h => h2 b fs (h1 b fs h)
theorem Kp9.of {X : Nat → Prop} {H H' : gH} (h : Fr X H H') (hx : ∀ b fs, X b → hpG H b ≠ some (.inr (9, fs))) : Kp9 H H' := fun b fs hb => h b _ hb (fun z => hx b fs z hb)
theorem Kp9.nf {H H' : gH} (h : Fr (fun _ => False) H H') : Kp9 H H' := fun b _ hb => h b _ hb (fun z => z)
theorem Kp9.s {H : gH} {a : Nat} {c e : va_E} (ha : hpG H a = some c) (hc : ∀ fs, c ≠ .inr (9, fs)) : Kp9 H (hpS H a e) := fun b fs hb => by
  rw [hpG_sn (fun z => by rw [z, ha] at hb; exact hc fs (Option.some.inj hb))]
  exact hb
theorem Kp9.n {H : gH} {a : Nat} {e : va_E} (ha : hpG H a = none) : Kp9 H (hpN H a e) := Kp9.nf (Fr.n ha)
theorem trA.k9 {N : Nat → Prop} {H H' : gH} (hk : Kp9 H H') : ∀ {d p : Nat} {t : Tr d}, trA N H d p t → trA N H' d p t := by
  intro d
  induction d with
  | zero => intro p t h; exact h.elim
  | succ d ih =>
    intro p t h
    obtain ⟨a1, va, vb, a2, a3, a4⟩ := h
    refine ⟨a1, va, vb, hk _ _ a2, fun k => ?_, fun k => ?_⟩
    · obtain ⟨a, e, g⟩ := a3 k
      exact ⟨a, e, ih g⟩
    · obtain ⟨a, e, g⟩ := a4 k
      exact ⟨a, e, ih g⟩
/-- well made: b a test, else a sum; e empires -/
def trW (e : Nat) : (d : Nat) → Bool → Tr d → Prop
  | 0, _, _ => False
  | d + 1, b, t => (if b = true then (20 ≤ trQ t ∧ trQ t ≤ 31 ∧ trQ t ≠ 27 ∧ trQ t ≠ 28) else trQ t ≤ 14) ∧ trN t < 1000000 ∧ (trQ t = 5 ∨ trQ t = 6 ∨ trQ t = 25 → trN t < e) ∧ (knA (trQ t) → trW e d (decide (29 ≤ trQ t)) (trL t)) ∧ (knB (trQ t) → trW e d (decide (29 ≤ trQ t)) (trR t))
theorem Fr.fresh {H H' : gH} {q : Nat} (hq : hpG H q = none) (h : Fr (fun b => b = q) H H') : Fr (fun _ => False) H H' := fun b c hb _ => h b c hb (ne_fresh hb hq)
theorem Fr.live {H H' : gH} (h : Fr (fun _ => False) H H') {b : Nat} (hb : hpG H' b = none) : hpG H b = none := by
  cases e : hpG H b with
  | none => rfl
  | some c => rw [h b c e (fun z => z)] at hb; cases hb
theorem and_mx (x : Int32) : ∃ m, m < 2147483648 ∧ x &&& 2147483647 = nI m := by
  refine ⟨(x.toBitVec &&& 2147483647#32).toNat, ?_, ?_⟩
  · have h : (x.toBitVec &&& 2147483647#32).toNat ≤ 2147483647 := by
      rw [BitVec.toNat_and]
      exact Nat.and_le_right
    omega
  · apply Int32.toBitVec_inj.1
    show x.toBitVec &&& 2147483647#32 = BitVec.ofNat 32 _
    rw [BitVec.ofNat_toNat, BitVec.setWidth_eq]
theorem no_lt (n : Nat) {k : Nat} (h : n ≤ k) (hk : k < 2147483648) : ¬ nI k < nI n := nI_nlt h hk
theorem no_le (n : Nat) {k : Nat} (h : n < k) (hk : k < 2147483648) : ¬ nI k ≤ nI n := nI_ge h hk
theorem no_ge (n : Nat) {k : Nat} (h : k < n) (hn : n < 2147483648) : ¬ nI n ≤ nI k := nI_ge h hn
theorem hz_below {Z : gZ} {H : gH} {x : Int32} {n : Nat} {K : Int32 → Prop} (h0 : 0 < n) (hn : n < 2147483648) (k : ∀ r, r < n → K (nI r)) : wL_below Z H x (nI n) K := by
  obtain ⟨m, hm, e⟩ := and_mx x
  unfold wL_below
  rw [e, pk_rem hm h0 hn]
  exact ⟨fun z => by have := (nI_eq hn (by decide)).mp (show nI n = nI 0 from z); omega, k _ (Nat.mod_lt _ h0)⟩
section TREE
variable {Z : gZ} {e d deep P : Nat} {rec : gH → Nat → Nat → Int32 → Int32 → Int32 → (Nat → gH → Prop) → Prop} {K : Nat → gH → Prop} {H0 H : gH} {bc bs q k n : Nat} {x : Int32} {tl : Tr d} {va : Value}
/-- what a made tree must come to -/
abbrev trC (e : Nat) (b : Bool) (d : Nat) (H0 : gH) (K : Nat → gH → Prop) : Prop := ∀ (p : Nat) (H' : gH) (t : Tr d), trA (fun b => hpG H0 b = none) H' d p t → trW e d b t → Fr (fun _ => False) H0 H' → K p H'
theorem trA.sub {H' : gH} {p : Nat} {t : Tr d} (h : trA (fun b => hpG H b = none) H' d p t) (hF : Fr (fun b => b = q) H0 H) (hq : hpG H0 q = none) (hn : ∃ c, hpG H q = some c) (e9 : va_E) : trA (fun b => hpG H0 b = none) (hpS H' q e9) d p t := by
  obtain ⟨c, hc⟩ := hn
  refine trA.fr (fun b c2 hb g => ?_) (fun b hb => Fr.live (hF.fresh hq) hb) h
  rw [hpG_sn (fun z => by rw [z, hc] at hb; cases hb)]
  exact g
theorem trA.sub2 {H' : gH} {p : Nat} {t : Tr d} (h : trA (fun b => hpG H0 b = none ∧ b ≠ q) H d p t) (hF : Fr (fun b => b = q) H H') : trA (fun b => hpG H0 b = none ∧ b ≠ q) H' d p t :=
  trA.fr (fun b c2 hb g => hF b c2 g hb.2) (fun _ hb => hb) h
theorem trA.fst {H' : gH} {p : Nat} {t : Tr d} (h : trA (fun b => hpG H b = none) H' d p t) (hF : Fr (fun b => b = q) H0 H) (hq : hpG H0 q = none) (hn : ∃ c, hpG H q = some c) : trA (fun b => hpG H0 b = none ∧ b ≠ q) H' d p t := by
  obtain ⟨c, hc⟩ := hn
  exact trA.fr (fun b c2 _ g => g) (fun b hb => ⟨Fr.live (hF.fresh hq) hb, fun z => by rw [z, hc] at hb; cases hb⟩) h
theorem trA.fin {H' : gH} {p : Nat} {t : Tr d} (h : trA (fun b => hpG H0 b = none ∧ b ≠ q) H' d p t) (e9 : va_E) : trA (fun b => hpG H0 b = none) (hpS H' q e9) d p t :=
  trA.fr (fun b c2 hb g => by rw [hpG_sn hb.2]; exact g) (fun _ hb => hb.1) h
theorem sum_178 (hx : hpG H q = some (.inr (9, [.int (nI k), .int (nI n), va, .null]))) (hF : Fr (fun b => b = q) H0 H) (hq : hpG H0 q = none) (hk : k ≤ 14) (hn : n < 1000000) (hne : k = 5 ∨ k = 6 → n < e)
    (hva : knA k → ∃ a, va = .ref a ∧ trA (fun b => hpG H0 b = none ∧ b ≠ q) H d a tl ∧ trW e d false tl) (hb : 9 ≤ k → P ≤ bc ∧ 4 * P ≤ bs) (hR : 7 ≤ k → ∀ (H : gH) (x : Int32) (K : Nat → gH → Prop), trC e false d H K → rec H P (4 * P) x (nI e) (nI deep + 1) K) (kk : trC e false (d + 1) H0 K) : wL_sum_178 rec K Z H bc bs x (nI e) (nI deep) q := by
  have w0 : (if false = true then (20 ≤ k ∧ k ≤ 31 ∧ k ≠ 27 ∧ k ≠ 28) else k ≤ 14) := by rw [if_neg (by decide)]; exact hk
  have d29 : decide (29 ≤ k) = false := decide_eq_false (by omega)
  unfold wL_sum_178
  refine ⟨nI k, gF_of hx rfl, ?_⟩
  by_cases z : k < 9
  · refine br_t (nI_lt z (by decide)) (kk q H (trM k n tl (tr0 d)) ⟨hq, va, .null, hx, fun hA => ?_, fun hB => absurd hB.1 (by show ¬ 9 ≤ k; omega)⟩ ⟨w0, hn, fun h => hne (by have : k = 5 ∨ k = 6 ∨ k = 25 := h; omega), fun hA => ?_, fun hB => absurd hB.1 (by show ¬ 9 ≤ k; omega)⟩ (hF.fresh hq))
    · obtain ⟨a, e1, e2, -⟩ := hva hA
      exact ⟨a, e1, trA.fr (fun b c _ g => g) (fun b hb => hb.1) e2⟩
    · obtain ⟨a, -, -, e3⟩ := hva hA
      show trW e d (decide (29 ≤ k)) tl
      rw [d29]
      exact e3
  · refine br_f (no_lt 9 (by omega) (by omega)) ⟨P, 4 * P, (hb (by omega)).1, (hb (by omega)).2, hR (by omega) _ _ _ (fun r H3 t3 h3 w3 F3 => ?_)⟩
    have hA : knA k := ⟨by omega, by omega⟩
    have hx3 := F3 _ _ hx (fun z => z)
    obtain ⟨a, e1, e2, e3⟩ := hva hA
    subst e1
    refine ⟨_, hx3, by simp, kk q _ (trM k n tl t3) ⟨hq, .ref a, .ref r, hpG_s hx3, fun _ => ⟨a, rfl, ?_⟩, fun _ => ⟨r, rfl, ?_⟩⟩ ⟨w0, hn, fun h => hne (by have : k = 5 ∨ k = 6 ∨ k = 25 := h; omega), fun _ => ?_, fun _ => ?_⟩ ?_⟩
    · exact (e2.sub2 (F3.mono (fun _ z => z.elim))).fin _
    · exact h3.sub hF hq ⟨_, hx⟩ _
    · show trW e d (decide (29 ≤ k)) tl
      rw [d29]
      exact e3
    · show trW e d (decide (29 ≤ k)) t3
      rw [d29]
      exact w3
    · exact ((hF.trans (F3.mono (fun _ z => z.elim))).trans (Fr.s rfl)).fresh hq
theorem sum_150 (hx : hpG H q = some (.inr (9, [.int (nI k), .int 0, .null, .null]))) (hF : Fr (fun b => b = q) H0 H) (hq : hpG H0 q = none) (hk : k ≤ 14) (hn : n < 1000000) (hne : k = 5 ∨ k = 6 → n < e)
    (hb : 7 ≤ k → 2 * P ≤ bc ∧ 8 * P ≤ bs) (hR : 7 ≤ k → ∀ (H : gH) (x : Int32) (K : Nat → gH → Prop), trC e false d H K → rec H P (4 * P) x (nI e) (nI deep + 1) K) (kk : trC e false (d + 1) H0 K) : wL_sum_150 rec K Z H bc bs x (nI e) (nI deep) q (nI n) q := by
  have h1 : hpG (hpS H q (.inr (9, [.int (nI k), .int (nI n), .null, .null]))) q = some (.inr (9, [.int (nI k), .int (nI n), .null, .null])) := hpG_s hx
  have F1 : Fr (fun b => b = q) H0 (hpS H q (.inr (9, [.int (nI k), .int (nI n), .null, .null]))) := hF.trans (Fr.s rfl)
  unfold wL_sum_150
  refine ⟨_, hx, by simp, nI k, gF_of h1 rfl, ?_⟩
  by_cases z : k < 7
  · refine br_t (nI_lt z (by decide)) (sum_178 (tl := tr0 d) h1 F1 hq hk hn hne (fun hA => absurd hA.1 (by omega)) (fun z => by omega) hR kk)
  · refine br_f (no_lt 7 (by omega) (by omega)) ⟨P, 4 * P, by have := hb (by omega); omega, by have := hb (by omega); omega, hR (by omega) _ _ _ (fun r H6 t6 h6 w6 F6 => ?_)⟩
    have hx6 := F6 _ _ h1 (fun z => z)
    refine ⟨_, hx6, by simp, sum_178 (tl := t6) (hpG_s hx6) ((F1.trans (F6.mono (fun _ z => z.elim))).trans (Fr.s rfl)) hq hk hn hne (fun _ => ⟨r, rfl, ?_, w6⟩) (fun z => ?_) hR kk⟩
    · exact (h6.fst F1 hq ⟨_, h1⟩).sub2 (Fr.s rfl)
    · have := hb (by omega)
      omega
theorem sum_99 (he : e ≤ 3) (hx : hpG H q = some (.inr (9, [.int (nI k), .int 0, .null, .null]))) (hF : Fr (fun b => b = q) H0 H) (hq : hpG H0 q = none) (hk : k ≤ 14) (hne : k = 5 ∨ k = 6 → e ≠ 0)
    (hb : 7 ≤ k → 2 * P ≤ bc ∧ 8 * P ≤ bs) (hR : 7 ≤ k → ∀ (H : gH) (x : Int32) (K : Nat → gH → Prop), trC e false d H K → rec H P (4 * P) x (nI e) (nI deep + 1) K) (kk : trC e false (d + 1) H0 K) : wL_sum_99 rec K Z H bc bs x (nI e) (nI deep) q := by
  unfold wL_sum_99
  refine ⟨nI k, gF_of hx rfl, ?_⟩
  by_cases z : k = 0
  · subst z
    refine bn_t rfl (hz_below (n := 6) (by decide) (by decide) (fun r hr => ?_))
    have go : ∀ m : Nat, 0 < m → m ≤ 1000000 → wL_sum_129 rec K Z H bc bs x (nI e) (nI deep) q (nI m) (x >>> (3 &&& 31)) q := fun m h0 hm => by
      unfold wL_sum_129
      exact hz_below h0 (by omega) (fun r hr => sum_150 hx hF hq hk (by omega) (fun z => by omega) hb hR kk)
    by_cases z : r = 0
    · subst z
      exact bn_t rfl (go 1000000 (by decide) (by decide))
    · exact bn_f (fun y => z ((nI_eq (by omega) (by decide)).mp (show nI r = nI 0 from y))) (go 11 (by decide) (by decide))
  · refine bn_f (fun y => z ((nI_eq (by omega) (by decide)).mp (show nI k = nI 0 from y))) ?_
    by_cases z2 : e = 0
    · subst z2
      exact bn_t rfl (sum_150 (n := 0) hx hF hq hk (by decide) (fun y => absurd rfl (hne y)) hb hR kk)
    · exact bn_f (fun y => z2 ((nI_eq (by omega) (by decide)).mp (show nI e = nI 0 from y))) (hz_below (by omega) (by omega) (fun r hr => sum_150 hx hF hq hk (by omega) (fun _ => hr) hb hR kk))
theorem sum_65 (he : e ≤ 3) (hx : hpG H q = some (.inr (9, [.int 0, .int 0, .null, .null]))) (hF : Fr (fun b => b = q) H0 H) (hq : hpG H0 q = none) (hk : k ≤ 14)
    (hb : 7 ≤ k → 2 * P ≤ bc ∧ 8 * P ≤ bs) (hR : 7 ≤ k → ∀ (H : gH) (x : Int32) (K : Nat → gH → Prop), trC e false d H K → rec H P (4 * P) x (nI e) (nI deep + 1) K) (kk : trC e false (d + 1) H0 K) : wL_sum_65 rec K Z H bc bs x (nI e) (nI deep) q (nI k) q := by
  have h1 : hpG (hpS H q (.inr (9, [.int (nI k), .int 0, .null, .null]))) q = some (.inr (9, [.int (nI k), .int 0, .null, .null])) := hpG_s hx
  have F1 : Fr (fun b => b = q) H0 (hpS H q (.inr (9, [.int (nI k), .int 0, .null, .null]))) := hF.trans (Fr.s rfl)
  have ek : ∀ j : Nat, j < 100 → (nI k = nI j ↔ k = j) := fun j hj => nI_eq (by omega) (by omega)
  unfold wL_sum_65
  refine ⟨_, hx, by simp, ?_⟩
  by_cases z : e = 0
  · subst z
    refine bn_t rfl ⟨nI k, gF_of h1 rfl, ?_⟩
    have s89 : 4 < k → k < 7 → wL_sum_89 rec K Z (hpS H q (.inr (9, [.int (nI k), .int 0, .null, .null]))) bc bs x (nI 0) (nI deep) q := fun g1 g2 => by
      unfold wL_sum_89
      refine ⟨nI k, gF_of h1 rfl, _, h1, by simp, ?_⟩
      have e4 : nI k - 4 = nI (k - 4) := pk_sub (a := k) (b := 4) (by omega)
      rw [e4]
      exact sum_99 (P := P) (k := k - 4) (by decide) (hpG_s h1) (F1.trans (Fr.s rfl)) hq (by omega) (fun z => by omega) (fun z => by omega) (fun z => by omega) kk
    by_cases z5 : k = 5
    · exact br_t ((ek 5 (by decide)).mpr z5) (s89 (by omega) (by omega))
    · refine br_f (fun y => z5 ((ek 5 (by decide)).mp y)) ⟨nI k, gF_of h1 rfl, ?_⟩
      by_cases z6 : k = 6
      · exact bn_t ((ek 6 (by decide)).mpr z6) (s89 (by omega) (by omega))
      · exact bn_f (fun y => z6 ((ek 6 (by decide)).mp y)) (sum_99 (by decide) h1 F1 hq hk (fun y => by omega) hb hR kk)
  · exact bn_f (fun y => z ((nI_eq (by omega) (by decide)).mp (show nI e = nI 0 from y))) (sum_99 he h1 F1 hq hk (fun _ => z) hb hR kk)
theorem hz_sum (he : e ≤ 3) : ∀ (d deep : Nat) (H : gH) (x : Int32) (bc bs : Nat) (K : Nat → gH → Prop), 1 ≤ d → 1 ≤ deep → deep + d ≤ 20 → (2 ≤ deep ∨ 2 ≤ d) → 2 ^ d - 1 ≤ bc → 4 * (2 ^ d - 1) ≤ bs → trC e false d H K → wL_sum Z d H bc bs x (nI e) (nI deep) K := by
  intro d
  induction d with
  | zero => intro deep H x bc bs K h; omega
  | succ d ih =>
    intro deep H x bc bs K _ h1 h9 h2 hc hs kk
    have hp : 2 ^ (d + 1) = 2 * 2 ^ d := by rw [Nat.pow_succ]; omega
    have hp0 : 0 < 2 ^ d := Nat.two_pow_pos d
    have hR : ∀ j, (7 ≤ j → 2 ≤ d + 1) → 7 ≤ j → ∀ (H : gH) (x : Int32) (K : Nat → gH → Prop), trC e false d H K → wL_sum Z d H (2 ^ d - 1) (4 * (2 ^ d - 1)) x (nI e) (nI deep + 1) K := fun j hj g H x K kk => by
      rw [show nI deep + 1 = nI (deep + 1) from nI_add deep 1]
      have := hj g
      exact ih (deep + 1) H x _ _ K (by omega) (by omega) (by omega) (by omega) (Nat.le_refl _) (Nat.le_refl _) kk
    show wL_sum_E (wL_sum Z d) Z H bc bs x (nI e) (nI deep) K
    unfold wL_sum_E wX10_init
    refine ⟨by omega, by omega, fun q hq => hz_below (n := 20) (by decide) (by decide) (fun r hr => ?_)⟩
    have go : ∀ j, j ≤ 14 → (7 ≤ j → 2 ≤ d + 1) → wL_sum_65 (wL_sum Z d) K Z (hpN H q (.inr (9, [.int 0, .int 0, .null, .null]))) (bc - 1) (bs - 4) x (nI e) (nI deep) q (nI j) q := fun j hj g => sum_65 (P := 2 ^ d - 1) he hpG_n (Fr.n hq) hq hj (fun _ => by omega) (hR j g) kk
    have s36 : wL_sum_36 (wL_sum Z d) K Z (hpN H q (.inr (9, [.int 0, .int 0, .null, .null]))) (bc - 1) (bs - 4) x (nI e) (nI deep) q q := by
      unfold wL_sum_36
      exact go 0 (by decide) (fun z => by omega)
    have s40 : 6 ≤ r → (12 ≤ r → 2 ≤ d + 1) → wL_sum_40 (wL_sum Z d) K Z (hpN H q (.inr (9, [.int 0, .int 0, .null, .null]))) (bc - 1) (bs - 4) x (nI e) (nI deep) q (nI r) q := fun g1 g2 => by
      unfold wL_sum_40
      by_cases z : 12 ≤ r
      · refine br_t (nI_le z (by omega)) ?_
        rw [show nI r - nI r / 8 * 8 = nI (r % 8) from pk_rem (by omega) (by decide) (by decide), show (7 : Int32) + nI (r % 8) = nI (7 + r % 8) from nI_add 7 _]
        exact go _ (by omega) (fun _ => g2 z)
      · refine br_f (no_ge 12 (by omega) (by decide)) ?_
        rw [show nI r - nI r / 6 * 6 = nI (r % 6) from pk_rem (by omega) (by decide) (by decide), show (1 : Int32) + nI (r % 6) = nI (1 + r % 6) from nI_add 1 _]
        exact go _ (by omega) (fun y => by omega)
    by_cases z : r < 6
    · exact br_t (nI_lt z (by decide)) s36
    · refine br_f (no_lt 6 (by omega) (by omega)) ?_
      by_cases z1 : deep ≤ 1
      · exact br_t (nI_le z1 (by decide)) (s40 (by omega) (fun _ => by omega))
      · refine br_f (no_le 1 (by omega) (by omega)) ?_
        by_cases z2 : r ≤ 11
        · exact br_t (nI_le z2 (by decide)) (s40 (by omega) (fun _ => by omega))
        · exact br_f (no_le 11 (by omega) (by omega)) s36
theorem test_100 (he : e ≤ 3) (hd : deep + d = 3) (hp : P = 2 ^ d - 1) (hx : hpG H q = some (.inr (9, [.int (nI k), .int 0, .null, .null]))) (hF : Fr (fun b => b = q) H0 H) (hq : hpG H0 q = none) (hk : 20 ≤ k ∧ k ≤ 31 ∧ k ≠ 27 ∧ k ≠ 28) (hk2 : 29 ≤ k → deep ≤ 1) (hn : n < 1000000) (hne : k = 25 → n < e)
    (hb : 2 * P ≤ bc ∧ 8 * P ≤ bs) (hR : deep ≤ 1 → ∀ (H : gH) (x : Int32) (K : Nat → gH → Prop), trC e true d H K → rec H P (4 * P) x (nI e) (nI deep + 1) K) (kk : trC e true (d + 1) H0 K) (d1 : 1 ≤ d) : wL_test_100 rec K Z H bc bs x (nI e) (nI deep) q (nI n) q := by
  have h1 : hpG (hpS H q (.inr (9, [.int (nI k), .int (nI n), .null, .null]))) q = some (.inr (9, [.int (nI k), .int (nI n), .null, .null])) := hpG_s hx
  have F1 : Fr (fun b => b = q) H0 (hpS H q (.inr (9, [.int (nI k), .int (nI n), .null, .null]))) := hF.trans (Fr.s rfl)
  have w0 : (if true = true then (20 ≤ k ∧ k ≤ 31 ∧ k ≠ 27 ∧ k ≠ 28) else k ≤ 14) := by rw [if_pos rfl]; exact hk
  have hd8 : d ≤ 8 := by omega
  -- both subtrees made
  have two : ∀ (b : Bool) (r r2 : Nat) (H2 H3 : gH) (t2 t3 : Tr d), b = decide (29 ≤ k) → knA k → trA (fun b => hpG (hpS H q (.inr (9, [.int (nI k), .int (nI n), .null, .null]))) b = none) H2 d r t2 → trW e d b t2 → Fr (fun _ => False) (hpS H q (.inr (9, [.int (nI k), .int (nI n), .null, .null]))) H2 → trA (fun b => hpG (hpS H2 q (.inr (9, [.int (nI k), .int (nI n), .ref r, .null]))) b = none) H3 d r2 t3 → trW e d b t3 → Fr (fun _ => False) (hpS H2 q (.inr (9, [.int (nI k), .int (nI n), .ref r, .null]))) H3 → K q (hpS H3 q (.inr (9, [.int (nI k), .int (nI n), .ref r, .ref r2]))) := by
    intro b r r2 H2 H3 t2 t3 hb2 hA a2 w2 F2 a3 w3 F3
    have hx2 := F2 _ _ h1 (fun z => z)
    have hx2' : hpG (hpS H2 q (.inr (9, [.int (nI k), .int (nI n), .ref r, .null]))) q = some (.inr (9, [.int (nI k), .int (nI n), .ref r, .null])) := hpG_s hx2
    have hx3 := F3 _ _ hx2' (fun z => z)
    have F2' : Fr (fun b => b = q) H0 (hpS H2 q (.inr (9, [.int (nI k), .int (nI n), .ref r, .null]))) := (F1.trans (F2.mono (fun _ z => z.elim))).trans (Fr.s rfl)
    refine kk q _ (trM k n t2 t3) ⟨hq, .ref r, .ref r2, hpG_s hx3, fun _ => ⟨r, rfl, ?_⟩, fun _ => ⟨r2, rfl, ?_⟩⟩ ⟨w0, hn, fun h => hne (by have : k = 5 ∨ k = 6 ∨ k = 25 := h; omega), fun _ => ?_, fun _ => ?_⟩ ?_
    · exact (((a2.fst F1 hq ⟨_, h1⟩).sub2 (Fr.s rfl)).sub2 (F3.mono (fun _ z => z.elim))).fin _
    · exact a3.sub F2' hq ⟨_, hx2'⟩ _
    · show trW e d (decide (29 ≤ k)) t2
      rw [← hb2]
      exact w2
    · show trW e d (decide (29 ≤ k)) t3
      rw [← hb2]
      exact w3
    · exact ((F2'.trans (F3.mono (fun _ z => z.elim))).trans (Fr.s rfl)).fresh hq
  -- one made
  have one : ∀ (b : Bool) (r : Nat) (H2 : gH) (t2 : Tr d), b = decide (29 ≤ k) → (k = 26 ∨ k = 29) → trA (fun b => hpG (hpS H q (.inr (9, [.int (nI k), .int (nI n), .null, .null]))) b = none) H2 d r t2 → trW e d b t2 → Fr (fun _ => False) (hpS H q (.inr (9, [.int (nI k), .int (nI n), .null, .null]))) H2 → K q (hpS H2 q (.inr (9, [.int (nI k), .int (nI n), .ref r, .null]))) := by
    intro b r H2 t2 hb2 hk9 a2 w2 F2
    have hx2 := F2 _ _ h1 (fun z => z)
    refine kk q _ (trM k n t2 (tr0 d)) ⟨hq, .ref r, .null, hpG_s hx2, fun _ => ⟨r, rfl, ?_⟩, fun hB => ?_⟩ ⟨w0, hn, fun h => hne (by have : k = 5 ∨ k = 6 ∨ k = 25 := h; omega), fun _ => ?_, fun hB => ?_⟩ ?_
    · exact (a2.fst F1 hq ⟨_, h1⟩).fin _
    · have hB' : 9 ≤ k ∧ k ≠ 25 ∧ k ≠ 26 ∧ k ≠ 29 := hB
      omega
    · show trW e d (decide (29 ≤ k)) t2
      rw [← hb2]
      exact w2
    · have hB' : 9 ≤ k ∧ k ≠ 25 ∧ k ≠ 26 ∧ k ≠ 29 := hB
      omega
    · exact ((F1.trans (F2.mono (fun _ z => z.elim))).trans (Fr.s rfl)).fresh hq
  unfold wL_test_100
  refine ⟨_, hx, by simp, nI k, gF_of h1 rfl, ?_⟩
  by_cases z : 25 ≤ k
  · refine br_t (nI_le z (by omega)) ⟨nI k, gF_of h1 rfl, ?_⟩
    by_cases z6 : k = 26
    · refine bn_t ((nI_eq (by omega) (by decide)).mpr z6) ⟨d, hd8, P, 4 * P, by omega, by omega, ?_⟩
      exact hz_sum he d 2 _ _ _ _ _ d1 (by decide) (by omega) (Or.inl (by decide)) (by omega) (by omega) (fun r H2 t2 a2 w2 F2 => ⟨_, F2 _ _ h1 (fun z => z), by simp, one false r H2 t2 (decide_eq_false (by omega)).symm (Or.inl z6) a2 w2 F2⟩)
    · refine bn_f (fun y => z6 ((nI_eq (by omega) (by decide)).mp (show nI k = nI 26 from y))) ⟨nI k, gF_of h1 rfl, ?_⟩
      by_cases z8 : k ≤ 28
      · have hk5 : k = 25 := by omega
        refine br_t (nI_le z8 (by decide)) (kk q _ (trM k n (tr0 d) (tr0 d)) ⟨hq, .null, .null, h1, fun hA => absurd hk5 hA.2, fun hB => absurd hk5 hB.2.1⟩ ⟨w0, hn, fun _ => hne hk5, fun hA => absurd hk5 hA.2, fun hB => absurd hk5 hB.2.1⟩ (F1.fresh hq))
      · refine br_f (no_le 28 (by omega) (by omega)) ⟨P, 4 * P, by omega, by omega, hR (hk2 (by omega)) _ _ _ (fun r H2 t2 a2 w2 F2 => ?_)⟩
        have hx2 := F2 _ _ h1 (fun z => z)
        refine ⟨_, hx2, by simp, nI k, gF_of (hpG_s hx2) rfl, ?_⟩
        by_cases z9 : k ≤ 29
        · exact br_t (nI_le z9 (by decide)) (one true r H2 t2 (decide_eq_true (by omega)).symm (Or.inr (by omega)) a2 w2 F2)
        · refine br_f (no_le 29 (by omega) (by omega)) ⟨P, 4 * P, by omega, by omega, hR (hk2 (by omega)) _ _ _ (fun r2 H3 t3 a3 w3 F3 => ?_)⟩
          exact ⟨_, F3 _ _ (hpG_s hx2) (fun z => z), by simp, two true r r2 H2 H3 t2 t3 (decide_eq_true (by omega)).symm ⟨by omega, by omega⟩ a2 w2 F2 a3 w3 F3⟩
  · refine br_f (no_ge 25 (by omega) (by decide)) ⟨d, hd8, P, 4 * P, by omega, by omega, ?_⟩
    rw [show nI deep + 1 = nI (deep + 1) from nI_add deep 1]
    refine hz_sum he d (deep + 1) _ _ _ _ _ d1 (by omega) (by omega) (by omega) (by omega) (by omega) (fun r H2 t2 a2 w2 F2 => ?_)
    have hx2 := F2 _ _ h1 (fun z => z)
    refine ⟨_, hx2, by simp, d, hd8, P, 4 * P, by omega, by omega, ?_⟩
    exact hz_sum he d (deep + 1) _ _ _ _ _ d1 (by omega) (by omega) (by omega) (by omega) (by omega) (fun r2 H3 t3 a3 w3 F3 => ⟨_, F3 _ _ (hpG_s hx2) (fun z => z), by simp, two false r r2 H2 H3 t2 t3 (decide_eq_false (by omega)).symm ⟨by omega, by omega⟩ a2 w2 F2 a3 w3 F3⟩)
theorem hz_test (he : e ≤ 3) : ∀ (D deep : Nat) (H : gH) (x : Int32) (bc bs : Nat) (K : Nat → gH → Prop), deep + D = 4 → deep ≤ 2 → 2 ^ D - 1 ≤ bc → 4 * (2 ^ D - 1) ≤ bs → trC e true D H K → wL_test Z D H bc bs x (nI e) (nI deep) K := by
  intro D
  induction D with
  | zero => intro deep H x bc bs K h; omega
  | succ d ih =>
    intro deep H x bc bs K h4 h2 hc hs kk
    have hp : 2 ^ (d + 1) = 2 * 2 ^ d := by rw [Nat.pow_succ]; omega
    have hp0 : 0 < 2 ^ d := Nat.two_pow_pos d
    have hR : deep ≤ 1 → ∀ (H : gH) (x : Int32) (K : Nat → gH → Prop), trC e true d H K → wL_test Z d H (2 ^ d - 1) (4 * (2 ^ d - 1)) x (nI e) (nI deep + 1) K := fun g H x K kk => by
      rw [show nI deep + 1 = nI (deep + 1) from nI_add deep 1]
      exact ih (deep + 1) H x _ _ K (by omega) (by omega) (Nat.le_refl _) (Nat.le_refl _) kk
    show wL_test_E (wL_test Z d) Z H bc bs x (nI e) (nI deep) K
    unfold wL_test_E wX10_init
    refine ⟨by omega, by omega, fun q hq => hz_below (n := 14) (by decide) (by decide) (fun r hr => ?_)⟩
    have go : ∀ j, (20 ≤ j ∧ j ≤ 31 ∧ j ≠ 27 ∧ j ≠ 28) → (29 ≤ j → deep ≤ 1) → (j = 25 → e ≠ 0) → wL_test_81 (wL_test Z d) K Z (hpN H q (.inr (9, [.int 0, .int 0, .null, .null]))) (bc - 1) (bs - 4) x (nI e) (nI deep) q (nI j) q := fun j hj g1 g2 => by
      have h1 : hpG (hpS (hpN H q (.inr (9, [.int 0, .int 0, .null, .null]))) q (.inr (9, [.int (nI j), .int 0, .null, .null]))) q = some (.inr (9, [.int (nI j), .int 0, .null, .null])) := hpG_s hpG_n
      have F1 : Fr (fun b => b = q) H (hpS (hpN H q (.inr (9, [.int 0, .int 0, .null, .null]))) q (.inr (9, [.int (nI j), .int 0, .null, .null]))) := (Fr.n hq).trans (Fr.s rfl)
      unfold wL_test_81
      refine ⟨_, hpG_n, by simp, ?_⟩
      by_cases z : e = 0
      · subst z
        exact bn_t rfl (test_100 (n := 0) (P := 2 ^ d - 1) he (by omega) rfl h1 F1 hq hj g1 (by decide) (fun y => absurd rfl (g2 y)) (by omega) hR kk (by omega))
      · exact bn_f (fun y => z ((nI_eq (by omega) (by decide)).mp (show nI e = nI 0 from y))) (hz_below (by omega) (by omega) (fun n hn => test_100 (n := n) (P := 2 ^ d - 1) he (by omega) rfl h1 F1 hq hj g1 (by omega) (fun _ => hn) (by omega) hR kk (by omega)))
    have s38 : wL_test_38 (wL_test Z d) K Z (hpN H q (.inr (9, [.int 0, .int 0, .null, .null]))) (bc - 1) (bs - 4) x (nI e) (nI deep) q (nI r) q := by
      unfold wL_test_38
      rw [show nI r - nI r / 5 * 5 = nI (r % 5) from pk_rem (by omega) (by decide) (by decide), show (20 : Int32) + nI (r % 5) = nI (20 + r % 5) from nI_add 20 _]
      exact go _ (by omega) (fun y => by omega) (fun y => by omega)
    have s48 : (11 ≤ r → deep ≤ 1) → wL_test_48 (wL_test Z d) K Z (hpN H q (.inr (9, [.int 0, .int 0, .null, .null]))) (bc - 1) (bs - 4) x (nI e) (nI deep) q (nI r) q := fun g => by
      unfold wL_test_48
      by_cases z : 11 ≤ r
      · refine br_t (nI_le z (by omega)) ?_
        rw [show nI r - nI r / 3 * 3 = nI (r % 3) from pk_rem (by omega) (by decide) (by decide), show (29 : Int32) + nI (r % 3) = nI (29 + r % 3) from nI_add 29 _]
        exact go _ (by omega) (fun _ => g z) (fun y => by omega)
      · refine br_f (no_ge 11 (by omega) (by decide)) ?_
        by_cases z2 : e = 0
        · subst z2
          exact bn_t rfl (go 26 (by decide) (fun y => by omega) (fun y => by omega))
        · refine bn_f (fun y => z2 ((nI_eq (by omega) (by decide)).mp (show nI e = nI 0 from y))) ?_
          rw [show nI r - nI r / 2 * 2 = nI (r % 2) from pk_rem (by omega) (by decide) (by decide), show (25 : Int32) + nI (r % 2) = nI (25 + r % 2) from nI_add 25 _]
          exact go _ (by omega) (fun y => by omega) (fun _ => z2)
    by_cases z : r < 6
    · exact br_t (nI_lt z (by decide)) s38
    · refine br_f (no_lt 6 (by omega) (by omega)) ?_
      by_cases z1 : deep ≤ 1
      · exact br_t (nI_le z1 (by decide)) (s48 (fun _ => z1))
      · refine br_f (no_le 1 (by omega) (by omega)) ?_
        by_cases z2 : r ≤ 10
        · exact br_t (nI_le z2 (by decide)) (s48 (fun _ => by omega))
        · exact br_f (no_le 10 (by omega) (by omega)) s38
end TREE
