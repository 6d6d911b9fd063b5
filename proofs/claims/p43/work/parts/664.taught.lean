/-! PURE: the class is taught the text. -/
def pkN (ch : Nat → Nat) (b : Nat) : Nat → Nat
  | 0 => 0
  | k + 1 => pkN ch b k * 256 + ch (b + k)
theorem pk_orN {v c : Nat} (hv : v * 256 + c < 2 ^ 31) (hc : c < 256) : (nI v <<< ((8 : Int32) &&& 31)) ||| nI c = nI (v * 256 + c) := by
  have b1 : v * 2 ^ 8 < 2 ^ 32 := Nat.lt_of_le_of_lt (show v * 2 ^ 8 ≤ v * 256 + c from Nat.le_add_right _ _) (Nat.lt_trans hv (by decide))
  have b2 : c < 2 ^ 32 := Nat.lt_trans hc (by decide)
  have b3 : v * 256 + c < 2 ^ 32 := Nat.lt_trans hv (by decide)
  have b4 : c < 2 ^ 8 := hc
  rw [pk_shlN ((8 : Int32) &&& 31) 8 (by decide) b1]
  apply Int32.toBitVec_inj.mp
  apply BitVec.eq_of_toNat_eq
  rw [Int32.toBitVec_or, BitVec.toNat_or, pk_tn b1, pk_tn b2, pk_tn b3, Nat.mul_comm v (2 ^ 8), ← Nat.two_pow_add_eq_or_of_lt b4, Nat.mul_comm (2 ^ 8) v]
theorem by_pk {ch : Nat → Nat} (h : ∀ i, ch i < 128) (b j : Nat) (hj : j < 4) : byJ (nI (pkN ch b 4)) j = ch (b + j) := by
  have h0 := h (b + 0)
  have h1 := h (b + 1)
  have h2 := h (b + 2)
  have h3 := h (b + 3)
  have e : pkN ch b 4 = ((((0 * 256 + ch (b + 0)) * 256 + ch (b + 1)) * 256 + ch (b + 2)) * 256 + ch (b + 3)) := rfl
  unfold byJ
  rw [e, pk_tn (by omega)]
  have : j = 0 ∨ j = 1 ∨ j = 2 ∨ j = 3 := by omega
  rcases this with rfl | rfl | rfl | rfl
  · show _ / 16777216 % 256 = _; omega
  · show _ / 65536 % 256 = _; omega
  · show _ / 256 % 256 = _; omega
  · show _ / 1 % 256 = _; omega
def HQ (Z : gZ) (H0 H : gH) (q : Nat) (f : Nat → Int32) : Prop := hpG H q = some (iE (zY Z 1) 5 f) ∧ ∀ b, b ≠ q → hpG H b = hpG H0 b
def TPR (S : cLS) (ch : Nat → Nat) (l : Nat) : Prop := S.2.1.1 = nI l ∧ rA S.2.1.2 (fun i => nI (ch i)) l
section TAUGHT
variable {Z : gZ} {H0 : gH} {q r w : Nat} {X : List Nat} {S : cLS} {a : gA} {K : Int32 → cLS → gH → Prop}
/-- the letters, blanks behind -/
def chX (X : List Nat) (i : Nat) : Nat := if i < X.length then X.getD i 0 else 32
theorem chX_lt (h : cOK X) : ∀ i, chX X i < 128 := by
  intro i
  unfold chX
  by_cases z : i < X.length
  · rw [if_pos z]
    refine h _ ?_
    rw [List.getD_eq_getElem?_getD, List.getElem?_eq_getElem z]
    exact List.getElem_mem z
  · rw [if_neg z]; decide
theorem HQ.str (h : stD Z H0 r w X) (hr : r ≠ q) (hw : w ≠ q) {H : gH} {f : Nat → Int32} (Q : HQ Z H0 H q f) : stD Z H r w X := by
  obtain ⟨h1, h2, g, g1, g2, g3⟩ := h
  exact ⟨h1, h2, g, (Q.2 _ hr).trans g1, (Q.2 _ hw).trans g2, g3⟩
theorem HQ.set {H : gH} {f : Nat → Int32} (Q : HQ Z H0 H q f) (g : Nat → Int32) : HQ Z H0 (hpS H q (iE (zY Z 1) 5 g)) q g := ⟨hpG_s Q.1, fun b hb => (hpG_sn hb).trans (Q.2 b hb)⟩
theorem tg_36 {KL6 : gH → Nat → Nat → cLS → Nat → Nat → Int32 → Prop} {KL17 : gH → Nat → Nat → cLS → Nat → Nat → Int32 → Int32 → Prop} {bc bs l c : Nat} (hX : cOK X) (hs : stD Z H0 r w X) (hr : r ≠ q) (hw : w ≠ q) (hl : l ≤ 2000) (hc : c < 5) (hlen : X.length ≤ 2000)
    {f0 : Nat → Int32} (kk : ∀ H f, HQ Z H0 H q f → (∀ i, i ≠ c → f i = f0 i) → f c = nI (pkN (chX X) (l + 4 * c) 4) → KL17 H bc bs S r q (nI l) (nI (c + 1))) : ∀ d k H f, k + d = 4 → HQ Z H0 H q f → (∀ i, i ≠ c → f i = f0 i) → f c = nI (pkN (chX X) (l + 4 * c) k) → pkN (chX X) (l + 4 * c) k < 128 * 256 ^ (k - 1) → wL_taught_36 K KL6 KL17 Z a (d + 1) H bc bs S r q (nI l) (nI c) (nI (l + 4 * c + k)) := by
  have e1 : nI l + 4 * nI c = nI (l + 4 * c) := by rw [show (4 : Int32) = nI 4 from rfl, pk_mul, nI_add]
  intro d
  induction d with
  | zero =>
    intro k H f hk Q hf hfc _
    have : k = 4 := by omega
    subst this
    unfold wL_taught_36
    rw [e1, show nI (l + 4 * c) + 4 = nI (l + 4 * c + 4) from nI_add _ 4, nI_1]
    exact br_t (nI_le (Nat.le_refl _) (by omega)) (kk H f Q hf hfc)
  | succ d ih =>
    intro k H f hk Q hf hfc hlt
    have st := Q.str hs hr hw
    obtain ⟨g, sg⟩ := strF_D st
    have hRs := sg.2.2.2.1
    have chl := chX_lt hX (l + 4 * c + k)
    have hb : pkN (chX X) (l + 4 * c) (k + 1) < 128 * 256 ^ (k + 1 - 1) ∧ pkN (chX X) (l + 4 * c) k * 256 + chX X (l + 4 * c + k) < 2 ^ 31 := by
      have hk' : k = 0 ∨ k = 1 ∨ k = 2 ∨ k = 3 := by omega
      have e : pkN (chX X) (l + 4 * c) (k + 1) = pkN (chX X) (l + 4 * c) k * 256 + chX X (l + 4 * c + k) := rfl
      rw [e]
      rcases hk' with rfl | rfl | rfl | rfl
      · have : pkN (chX X) (l + 4 * c) 0 = 0 := rfl
        rw [this]
        constructor
        · show _ < 128 * 1; omega
        · omega
      · have hlt : pkN (chX X) (l + 4 * c) 1 < 128 * 1 := hlt
        constructor
        · show _ < 128 * 256; omega
        · omega
      · have hlt : pkN (chX X) (l + 4 * c) 2 < 128 * 256 := hlt
        constructor
        · show _ < 128 * 65536; omega
        · omega
      · have hlt : pkN (chX X) (l + 4 * c) 3 < 128 * 65536 := hlt
        constructor
        · show _ < 128 * 16777216; omega
        · omega
    have cc : (nI c).toNatClampNeg = c := nI_clamp (by omega)
    have vc : vp_in (nI c) 5 := vp_in_nI hc (by decide)
    have step : ∀ z0, z0 = nI (chX X (l + 4 * c + k)) → wL_taught_79 K KL6 KL17 (wL_taught_36 K KL6 KL17 Z a (d + 1)) Z a H bc bs S r q (nI l) (nI c) (nI (l + 4 * c + k)) z0 ((f c) <<< ((8 : Int32) &&& 31)) (nI c) q := by
      intro z0 hz
      unfold wL_taught_79
      refine ⟨5, f, Q.1, vc, ?_⟩
      rw [cc, hfc, hz, pk_orN hb.2 (by omega), nI_1]
      exact ih (k + 1) _ _ (by omega) (Q.set _) (fun i hi => by rw [un hi]; exact hf i hi) us hb.1
    unfold wL_taught_36
    rw [e1, show nI (l + 4 * c) + 4 = nI (l + 4 * c + 4) from nI_add _ 4, cc]
    refine br_f (nI_ge (by omega) (by omega)) ⟨5, f, Q.1, vc, hRs, hz_length sg ⟨fun h => ?_, fun h => ⟨hRs, ?_⟩⟩⟩
    · refine step 32 ?_
      have : ¬ l + 4 * c + k < X.length := fun y => nI_ge y (by omega) h
      unfold chX
      rw [if_neg this]
      rfl
    · have hlt' : l + 4 * c + k < X.length := by
        by_cases y : l + 4 * c + k < X.length
        · exact y
        · exact absurd (nI_le (by omega) (by omega)) h
      refine hz_charAt sg hlt' (step _ ?_)
      unfold chX
      rw [if_pos hlt']
theorem ka_feed {ch : Nat → Nat} {l : Nat} (T : TPR S ch l) (hl : l ≤ 1980) {p0 p1 p2 p3 p4 : Int32} (h : ∀ j, j < 20 → byJ (five p0 p1 p2 p3 p4 (j / 4)) (j % 4) = ch (l + j)) {KS : Int32 → cLS → Prop} (kk : ∀ v S', TPR S' ch (l + 20) → KS v S') : kX8_feed a S p0 p1 p2 p3 p4 KS := by
  obtain ⟨t1, t2⟩ := T
  unfold kX8_feed
  rw [t1]
  exact sz_feed hl (fun _ A' a1 a2 => kk _ _ ⟨rfl, rA_feed t2 a1 a2 (fun _ _ => rfl) (fun j hj => by rw [h j hj])⟩)
theorem tg_17 {KL6 : gH → Nat → Nat → cLS → Nat → Nat → Int32 → Prop} {bc bs l : Nat} (hX : cOK X) (hs : stD Z H0 r w X) (hr : r ≠ q) (hw : w ≠ q) (hl : l ≤ 1980) (hlen : X.length ≤ 2000) (T : TPR S (chX X) l)
    (kk : ∀ H f S', HQ Z H0 H q f → TPR S' (chX X) (l + 20) → KL6 H bc bs S' r q (nI (l + 20))) : ∀ d c H f, c + d = 5 → HQ Z H0 H q f → (∀ i, i < c → f i = nI (pkN (chX X) (l + 4 * i) 4)) → wL_taught_17 K KL6 Z a (d + 1) H bc bs S r q (nI l) (nI c) := by
  intro d
  induction d with
  | zero =>
    intro c H f hc Q hf
    have : c = 5 := by omega
    subst this
    unfold wL_taught_17
    rw [show nI l + 20 = nI (l + 20) from nI_add l 20]
    refine br_t (by decide) ⟨5, f, Q.1, by unfold vp_in; decide, 5, f, Q.1, by unfold vp_in; decide, 5, f, Q.1, by unfold vp_in; decide, 5, f, Q.1, by unfold vp_in; decide, 5, f, Q.1, by unfold vp_in; decide, ka_feed T hl (fun j hj => ?_) (fun v S' T' => kk H f S' Q T')⟩
    have hd : j / 4 = 0 ∨ j / 4 = 1 ∨ j / 4 = 2 ∨ j / 4 = 3 ∨ j / 4 = 4 := by omega
    have hm : j % 4 < 4 := Nat.mod_lt _ (by omega)
    have e : five (f (0 : Int32).toNatClampNeg) (f (1 : Int32).toNatClampNeg) (f (2 : Int32).toNatClampNeg) (f (3 : Int32).toNatClampNeg) (f (4 : Int32).toNatClampNeg) (j / 4) = nI (pkN (chX X) (l + 4 * (j / 4)) 4) := by
      rcases hd with h | h | h | h | h
      · rw [h]; exact hf 0 (by omega)
      · rw [h]; exact hf 1 (by omega)
      · rw [h]; exact hf 2 (by omega)
      · rw [h]; exact hf 3 (by omega)
      · rw [h]; exact hf 4 (by omega)
    rw [e, by_pk (chX_lt hX) _ _ hm]
    congr 1
    omega
  | succ d ih =>
    intro c H f hc Q hf
    unfold wL_taught_17
    have cc : (nI c).toNatClampNeg = c := nI_clamp (by omega)
    rw [cc]
    refine br_f (nI_ge (b := 5) (by omega) (by decide)) ⟨5, f, Q.1, vp_in_nI (by omega) (by decide), 5, ?_⟩
    have e1 : nI l + 4 * nI c = nI (l + 4 * c + 0) := by rw [show (4 : Int32) = nI 4 from rfl, pk_mul, nI_add]; rfl
    rw [e1]
    refine tg_36 hX hs hr hw (by omega) (by omega) hlen (f0 := f) (fun H' f' Q' h1 h2 => ?_) 4 0 _ _ (by omega) (Q.set (upd f c 0)) (fun i hi => un hi) us (by show 0 < 128 * 1; decide)
    refine ih (c + 1) H' f' (by omega) Q' (fun i hi => ?_)
    by_cases z : i = c
    · rw [z]; exact h2
    · rw [h1 i z]; exact hf i (by omega)
theorem ka_teach {n m : Nat} (hn : 2 ≤ n ∧ n ≤ 8) (hm : 2 ≤ m ∧ m ≤ 10) {L : List Ln} {os : List Or} (okl : okA (t00 n m) L) (ok : ∀ o, o ∈ os → okO (tE (adA (t00 n m) L)) o) (h4 : os.length ≤ 4) (hL : (lnsT L).length ≤ 117) (hx : (hdX n m ++ (lnsX L ++ orsX os)).length ≤ 2000) (t1 : S.2.1.1 = nI (hdX n m ++ (lnsX L ++ orsX os)).length) (t2 : rA S.2.1.2 (tpM (hdX n m ++ (lnsX L ++ orsX os))) (hdX n m ++ (lnsX L ++ orsX os)).length) {KS : Int32 → cLS → Prop} (kk : ∀ S', CR S' (adA (t00 n m) L) (adP pZ os) (x0 (adA (t00 n m) L)) → pS (adP pZ os) ≤ 400 → KS 0 S') : kX8_teach a S KS := by
  have wt : wfT (adA (t00 n m) L) := wf_adA L _ (wf_00 hn hm) okl
  unfold kX8_teach wX8_teach
  rw [t1]
  refine sz_read hn hm okl ok h4 hL hx t2 (fun ki' st' nu' na' y0' y1' y2' y3' es' nm' co' cu' de' fi' sp' fr' to' ks' e1' e2' sK' sD' R P h400 => ?_)
  unfold wX3_errorPlace wX3_exchange
  refine bn_t rfl (sz_begin wt (fun S' H' L' P' F' U' r => ⟨rfl, rfl, rfl, kk _ ⟨rfl, rfl, rfl, rfl, rfl, rfl, ⟨R.2, P⟩, r⟩ h400⟩))
end TAUGHT
