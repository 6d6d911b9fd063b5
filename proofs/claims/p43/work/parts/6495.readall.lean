/-! PURE: the class reads the whole text: the told things and the plan. -/
theorem rdT_rT {t : Tl} {nm : Nat → Int64} {co cu de fi sp fr to : Nat → Int32} (h : rdT t nm co cu de fi sp fr to) : rT t (nI (tN t)) (nI (tM t)) (nI (tE t)) (nI (tF t)) co cu de fi sp fr to := ⟨⟨rfl, rfl, rfl, rfl⟩, h.2⟩
theorem lnT_hd (a : Ln) : ∃ k l, lnT a = t0 k :: l ∧ k < 8 := by
  obtain ⟨k, x, y, z⟩ := a
  match k with
  | 0 => exact ⟨2, _, rfl, by decide⟩
  | 1 => exact ⟨5, _, rfl, by decide⟩
  | 2 => exact ⟨6, _, rfl, by decide⟩
  | n + 3 => exact ⟨7, _, rfl, by decide⟩
abbrev KRD : Type := Int32 → ((Nat → Int32) × (Nat → Int32) × (Nat → Int32) × (Nat → Int64) × Int32 × Int32 × Int32 × Int32 × Int32 × Int32 × Int32 × Int32 × Int32 × Int32 × (Nat → Int64) × (Nat → Int32) × (Nat → Int32) × (Nat → Int32) × (Nat → Int32) × (Nat → Int32) × (Nat → Int32) × (Nat → Int32) × Int32 × Int32 × (Nat → Int32) × (Nat → Int32) × (Nat → Int32) × (Nat → Int32) × (Nat → Int32)) → Prop
section WHOLE
variable {ki st nu : Nat → Int32} {na : Nat → Int64} {N : Nat} {kf : Nat → Nat} {es : Int32}
theorem ors_ok (T : tkK N kf ki) {t : Tl} (wt : wfT t) {nm : Nat → Int64} {co cu de fi sp fr to : Nat → Int32} (R : rdT t nm co cu de fi sp fr to) (e3 : tE t ≤ 3) (h47 : kf N = 47) {A : Nat → Int32} {al nx : Int32} {K : KRD} : ∀ (os : List Or) (i s : Nat) (p : Pn) (ks e1 e2 sK sD : Nat → Int32), rPl t p ks e1 e2 sK sD → pO p + os.length ≤ 16 → (∀ o, o ∈ os → okO (tE t) o) → pS p ≤ i → AtL N kf nu na i (orsT os) → i + (orsT os).length = N → s + os.length < 400 →
    (∀ ks' e1' e2' sK' sD', rPl t (adP p os) ks' e1' e2' sK' sD' → pS (adP p os) ≤ N → K 0 (ki, st, nu, na, nI (N + 1), nx, nI N, nI (kf N), 0, es, nI (tN t), nI (tM t), nI (tE t), nI (tF t), nm, fr, to, co, cu, de, fi, sp, nI (pO (adP p os)), nI (pS (adP p os)), ks', e1', e2', sK', sD')) →
    wX3_read_58 K A al (os.length + 1) ki st nu na (nI (N + 1)) nx (nI i) (nI (kf i)) 0 es (nI (tN t)) (nI (tM t)) (nI (tE t)) (nI (tF t)) nm fr to co cu de fi sp (nI (pO p)) (nI (pS p)) ks e1 e2 sK sD (nI s) := by
  have h4 := T.1
  intro os
  induction os with
  | nil =>
    intro i s p ks e1 e2 sK sD P _ _ hS _ hN hs k
    have hN : i = N := hN
    subst hN
    have hs : s < 400 := hs
    unfold wX3_read_58
    exact br_f (nI_ge (b := 400) hs (by decide)) (br_t (by rw [h47]; rfl) (k _ _ _ _ _ P hS))
  | cons o r ih =>
    intro i s p ks e1 e2 sK sD P h16 ok hS hat hN hs k
    have h16 : pO p + (r.length + 1) ≤ 16 := h16
    have hs : s + (r.length + 1) < 400 := hs
    obtain ⟨p1, p2⟩ := at_app (l := orT o) (u := t0 33 :: orsT r) hat
    obtain ⟨c1, c2, -, -, c5⟩ := at_hd p2
    have c2 : kf (i + (orT o).length) = 33 := c2
    obtain ⟨b1, b2, -, -, -⟩ := at_hd p1
    have b2 : kf i = 11 + oK o := b2
    have oko := ok o List.mem_cons_self
    have ho := orP_le oko
    have k2 : oK o ≤ 2 := oko.1
    have hN : i + (orT o ++ (t0 33 :: orsT r)).length = N := hN
    rw [List.length_append, List.length_cons] at hN
    unfold wX3_read_58
    rw [nI_1]
    refine br_f (nI_ge (b := 400) (by omega) (by decide)) (br_f ?_ (br_f (by decide) ?_))
    · intro q
      have := (nI_eq (b := 47) (by omega) (by decide)).mp q
      omega
    · refine order_ok T wt R e3 P (by omega) oko p1 c2 (by omega) (fun ks' e1' e2' sK' sD' P' => ?_)
      refine xp_ok T c1 (by show nI (kf (i + (orT o).length)) = 33; rw [c2]; rfl) ?_
      exact ih (i + (orT o).length + 1) (s + 1) (adO p o) ks' e1' e2' sK' sD' P' (by show pO p + 1 + r.length ≤ 16; omega) (fun x hx => ok x (List.mem_cons_of_mem _ hx)) (by show pS p + (orP o).length ≤ _; omega) c5 (by omega) (by omega) k
theorem lns_ok (T : tkK N kf ki) (h47 : kf N = 47) {A : Nat → Int32} {al nx : Int32} {K : KRD} {os : List Or} (h4 : os.length ≤ 4) {ks e1 e2 sK sD : Nat → Int32} : ∀ (L : List Ln) (i s : Nat) (t : Tl) (nm : Nat → Int64) (co cu de fi sp fr to : Nat → Int32), wfT t → rdT t nm co cu de fi sp fr to → tE t ≤ 3 → okA t L → (∀ o, o ∈ os → okO (tE (adA t L)) o) → AtL N kf nu na i (lnsT L ++ orsT os) → i + (lnsT L ++ orsT os).length = N → s + L.length + os.length < 400 →
    (∀ nm' co' cu' de' fi' sp' fr' to', rdT (adA t L) nm' co' cu' de' fi' sp' fr' to' → ∀ ks' e1' e2' sK' sD', rPl (adA t L) (adP pZ os) ks' e1' e2' sK' sD' → pS (adP pZ os) ≤ N → K 0 (ki, st, nu, na, nI (N + 1), nx, nI N, nI (kf N), 0, es, nI (tN t), nI (tM t), nI (tE (adA t L)), nI (tF (adA t L)), nm', fr', to', co', cu', de', fi', sp', nI (pO (adP pZ os)), nI (pS (adP pZ os)), ks', e1', e2', sK', sD')) →
    wX3_read_58 K A al (L.length + (os.length + 1)) ki st nu na (nI (N + 1)) nx (nI i) (nI (kf i)) 0 es (nI (tN t)) (nI (tM t)) (nI (tE t)) (nI (tF t)) nm fr to co cu de fi sp (nI (pO pZ)) (nI (pS pZ)) ks e1 e2 sK sD (nI s) := by
  intro L
  induction L with
  | nil =>
    intro i s t nm co cu de fi sp fr to wt R e3 _ ok hat hN hs k
    rw [show ([] : List Ln).length + (os.length + 1) = os.length + 1 from Nat.zero_add _]
    exact ors_ok T wt R e3 h47 os i s pZ ks e1 e2 sK sD ⟨fun o h => absurd h (Nat.not_lt_zero o), fun o h => absurd h (Nat.not_lt_zero o)⟩ (by show 0 + os.length ≤ 16; omega) ok (Nat.zero_le _) hat hN (by omega) (fun ks' e1' e2' sK' sD' P' hS => k nm co cu de fi sp fr to R ks' e1' e2' sK' sD' P' hS)
  | cons a r ih =>
    intro i s t nm co cu de fi sp fr to wt R e3 okl ok hat hN hs k
    have hs : s + (r.length + 1) + os.length < 400 := hs
    have hat : AtL N kf nu na i ((lnT a ++ (t0 33 :: lnsT r)) ++ orsT os) := hat
    have hN : i + ((lnT a ++ (t0 33 :: lnsT r)) ++ orsT os).length = N := hN
    rw [List.append_assoc] at hat hN
    obtain ⟨p1, p2⟩ := at_app hat
    have p2 : AtL N kf nu na (i + (lnT a).length) (t0 33 :: (lnsT r ++ orsT os)) := p2
    obtain ⟨c1, c2, -, -, c5⟩ := at_hd p2
    have c2 : kf (i + (lnT a).length) = 33 := c2
    rw [List.length_append] at hN
    have hN : i + ((lnT a).length + ((lnsT r ++ orsT os).length + 1)) = N := hN
    have b2 : kf i < 8 := by
      obtain ⟨kk, l, e, hk⟩ := lnT_hd a
      rw [e] at p1
      obtain ⟨-, g, -⟩ := at_hd p1
      rw [g]
      exact hk
    rw [show (a :: r).length + (os.length + 1) = (r.length + (os.length + 1)) + 1 by show r.length + 1 + _ = _; omega]
    unfold wX3_read_58
    rw [nI_1]
    refine br_f (nI_ge (b := 400) (by omega) (by decide)) (br_f ?_ (br_f (by decide) ?_))
    · intro q
      have := (nI_eq (b := 47) (by omega) (by decide)).mp q
      omega
    · refine line_ok T wt R e3 okl.1 p1 (fun nm' co' cu' de' fi' sp' fr' to' R' => ?_)
      refine xp_ok T c1 (by show nI (kf (i + (lnT a).length)) = 33; rw [c2]; rfl) ?_
      have := ih (i + (lnT a).length + 1) (s + 1) (adL t a) nm' co' cu' de' fi' sp' fr' to' (wf_adL wt okl.1) R' (e3_ad e3 okl.1) okl.2 ok c5 (by omega) (by omega)
      rw [(adL_nm (t := t) (a := a)).1, (adL_nm (t := t) (a := a)).2] at this
      exact this k
end WHOLE
theorem adA_nm : ∀ (L : List Ln) (t : Tl), tN (adA t L) = tN t ∧ tM (adA t L) = tM t
  | [], _ => ⟨rfl, rfl⟩
  | a :: l, t => by
    obtain ⟨h1, h2⟩ := adA_nm l (adL t a)
    exact ⟨h1.trans adL_nm.1, h2.trans adL_nm.2⟩
/-- what stands in the told things and in the plan behind the reading -/
def rPo (t : Tl) (p : Pn) (O S : Int32) (ks e1 e2 sK sD : Nat → Int32) : Prop := (O = nI (pO p) ∧ S = nI (pS p)) ∧ rPl t p ks e1 e2 sK sD
theorem sz_read {A : Nat → Int32} {n m : Nat} (hn : 2 ≤ n ∧ n ≤ 8) (hm : 2 ≤ m ∧ m ≤ 10) {L : List Ln} {os : List Or} (okl : okA (t00 n m) L) (ok : ∀ o, o ∈ os → okO (tE (adA (t00 n m) L)) o) (h4 : os.length ≤ 4) (hL : (lnsT L).length ≤ 117) (hx : (hdX n m ++ (lnsX L ++ orsX os)).length ≤ 2000) (r : rA A (tpM (hdX n m ++ (lnsX L ++ orsX os))) (hdX n m ++ (lnsX L ++ orsX os)).length)
    {ki st nu : Nat → Int32} {na : Nat → Int64} {y0 y1 y2 y3 y4 y5 T0 T1 T2 T3 : Int32} {nm : Nat → Int64} {fr to co cu de fi sp : Nat → Int32} {O S : Int32} {ks e1 e2 sK sD : Nat → Int32} {K : KRD}
    (kk : ∀ ki' st' nu' na' y0' y1' y2' y3' es' nm' co' cu' de' fi' sp' fr' to' ks' e1' e2' sK' sD', rdT (adA (t00 n m) L) nm' co' cu' de' fi' sp' fr' to' → rPl (adA (t00 n m) L) (adP pZ os) ks' e1' e2' sK' sD' → pS (adP pZ os) ≤ 400 → K 0 (ki', st', nu', na', y0', y1', y2', y3', 0, es', nI (tN (adA (t00 n m) L)), nI (tM (adA (t00 n m) L)), nI (tE (adA (t00 n m) L)), nI (tF (adA (t00 n m) L)), nm', fr', to', co', cu', de', fi', sp', nI (pO (adP pZ os)), nI (pS (adP pZ os)), ks', e1', e2', sK', sD')) :
    wX3_read A (nI (hdX n m ++ (lnsX L ++ orsX os)).length) ki st nu na y0 y1 y2 y3 y4 y5 T0 T1 T2 T3 nm fr to co cu de fi sp O S ks e1 e2 sK sD K := by
  have w0 := wf_00 hn hm
  have e0 : tE (t00 n m) ≤ 3 := Nat.zero_le _
  have e3 : tE (adA (t00 n m) L) ≤ 3 := by
    have : ∀ (L : List Ln) (t : Tl), tE t ≤ 3 → okA t L → tE (adA t L) ≤ 3 := by
      intro L
      induction L with
      | nil => intro t h _; exact h
      | cons a r ih => intro t h g; exact ih (adL t a) (e3_ad h g.1) g.2
    exact this L _ e0 okl
  have el : lxB (0, []) (hdX n m ++ (lnsX L ++ orsX os)) = hdT n m ++ (lnsT L ++ orsT os) := by
    rw [hd_lx (by omega) (by omega), lns_lx L _ w0 e0 okl, ods_lx e3 os ok]
  have hO := orsT_le os ok
  have hlen : (hdT n m ++ (lnsT L ++ orsT os)).length = 5 + ((lnsT L).length + (orsT os).length) := by
    rw [List.length_append, List.length_append]
    rfl
  obtain ⟨N, hN⟩ : ∃ N, N = (hdT n m ++ (lnsT L ++ orsT os)).length := ⟨_, rfl⟩
  have hN4 : N ≤ 400 := by omega
  unfold wX3_read
  refine sz_clear (sz_readAll r hx (fun i hi => ?_) ?_ ?_ ?_)
  · have hm : (hdX n m ++ (lnsX L ++ orsX os)).getD i 0 ∈ hdX n m ++ (lnsX L ++ orsX os) := by
      rw [List.getD_eq_getElem?_getD, List.getElem?_eq_getElem hi]
      exact List.getElem_mem hi
    exact cOK_a (hd_c n m) (cOK_a (lns_c L) (ods_c os ok)) _ hm
  · rw [el]
    exact kOK_a (kOK_c (by decide) (kOK_c (Nat.le_of_ble_eq_true rfl) (kOK_c (by decide) (kOK_c (Nat.le_of_ble_eq_true rfl) (kOK_c (by decide) kOK_n))))) (kOK_a (lns_lt L) (ods_lt os ok))
  · rw [el]
    omega
  · rw [el, ← hN]
    intro ki' st' nu' na' nx h1 h2
    have lt46 : ∀ i, i < N → ((hdT n m ++ (lnsT L ++ orsT os)).getD i (0, 0, 0)).1 < 46 := fun i hi => by
      have hm : (hdT n m ++ (lnsT L ++ orsT os)).getD i (0, 0, 0) ∈ hdT n m ++ (lnsT L ++ orsT os) := by
        rw [List.getD_eq_getElem?_getD, List.getElem?_eq_getElem (by omega)]
        exact List.getElem_mem (by omega)
      exact kOK_a (kOK_c (by decide) (kOK_c (Nat.le_of_ble_eq_true rfl) (kOK_c (by decide) (kOK_c (Nat.le_of_ble_eq_true rfl) (kOK_c (by decide) kOK_n))))) (kOK_a (lns_lt L) (ods_lt os ok)) _ hm
    obtain ⟨kf, hkf⟩ : ∃ kf : Nat → Nat, kf = fun i => if i < N then ((hdT n m ++ (lnsT L ++ orsT os)).getD i (0, 0, 0)).1 else 47 := ⟨_, rfl⟩
    have kfi : ∀ i, i < N → kf i = ((hdT n m ++ (lnsT L ++ orsT os)).getD i (0, 0, 0)).1 := fun i hi => by rw [hkf]; exact if_pos hi
    have k47 : kf N = 47 := by rw [hkf]; exact if_neg (Nat.lt_irrefl _)
    have T : tkK N kf ki' := by
      refine ⟨hN4, fun i hi => ?_⟩
      rcases Nat.lt_or_ge i N with z | z
      · rw [kfi i z]
        exact ⟨(h1 i z).1, by have := lt46 i z; omega⟩
      · have : i = N := by omega
        rw [this, k47]
        exact ⟨h2, by decide⟩
    have AT : AtL N kf nu' na' 0 (hdT n m ++ (lnsT L ++ orsT os)) := by
      refine ⟨by omega, fun j hj => ?_⟩
      rw [Nat.zero_add, kfi j (by omega)]
      exact ⟨rfl, (h1 j (by omega)).2.1, (h1 j (by omega)).2.2⟩
    obtain ⟨a0, a5⟩ := at_app AT
    have a5 : AtL N kf nu' na' 5 (lnsT L ++ orsT os) := a5
    obtain ⟨b1, b2, -, -, b5⟩ := at_hd a0
    obtain ⟨c1, c2, c3, -, c5⟩ := at_hd b5
    obtain ⟨d1, d2, -, -, d5⟩ := at_hd c5
    obtain ⟨f1, f2, f3, -, f5⟩ := at_hd d5
    obtain ⟨g1, g2, -, -, -⟩ := at_hd f5
    have b2 : kf 0 = 0 := b2
    have c2 : kf (0 + 1) = 45 := c2
    have c3 : nu' (0 + 1) = nI n := c3 rfl
    have d2 : kf (0 + 1 + 1) = 1 := d2
    have f2 : kf (0 + 1 + 1 + 1) = 45 := f2
    have f3 : nu' (0 + 1 + 1 + 1) = nI m := f3 rfl
    have g2 : kf (0 + 1 + 1 + 1 + 1) = 33 := g2
    have k0 : ki' 0 = nI (kf 0) := (T.2 0 (Nat.zero_le _)).1
    have hlast : wX3_read_56 K A (nI (hdX n m ++ (lnsX L ++ orsX os)).length) ki' st' nu' na' (nI (N + 1)) nx (nI 5) (nI (kf 5)) 0 (-1) (nI (tN (t00 n m))) (nI (tM (t00 n m))) (nI (tE (t00 n m))) (nI (tF (t00 n m))) nm fr to co cu de (m1f fi) (z0f sp) (nI (pO pZ)) (nI (pS pZ)) ks e1 e2 sK sD := by
      unfold wX3_read_56
      have hLl : L.length ≤ 117 := by
        have : ∀ L : List Ln, L.length ≤ (lnsT L).length := by
          intro L
          induction L with
          | nil => exact Nat.le_refl _
          | cons a r ih =>
            show r.length + 1 ≤ (lnT a ++ (t0 33 :: lnsT r)).length
            rw [List.length_append, List.length_cons]
            omega
        have := this L
        omega
      refine ⟨L.length + (os.length + 1), lns_ok T k47 h4 L 5 0 (t00 n m) nm co cu de (m1f fi) (z0f sp) fr to w0 ⟨fun e h => absurd h (Nat.not_lt_zero e), fun e h => absurd h (Nat.not_lt_zero e), fun e h => absurd h (Nat.not_lt_zero e), fun e h => absurd h (Nat.not_lt_zero e), fun c h => m1f_in h, fun c h => z0f_in h, fun e h => absurd h (Nat.not_lt_zero e), fun e h => absurd h (Nat.not_lt_zero e)⟩ e0 okl ok a5 ?_ (by omega) ?_⟩
      · rw [List.length_append]
        omega
      · intro nm' co' cu' de' fi' sp' fr' to' R' ks' e1' e2' sK' sD' P' hS
        have := kk ki' st' nu' na' (nI (N + 1)) nx (nI N) (nI (kf N)) (-1) nm' co' cu' de' fi' sp' fr' to' ks' e1' e2' sK' sD' R' P' (by omega)
        rw [(adA_nm L (t00 n m)).1, (adA_nm L (t00 n m)).2] at this
        exact this
    refine ⟨by unfold vp_in; decide, ?_⟩
    have k0' : ki' (0 : Int32).toNatClampNeg = 0 := by
      show ki' 0 = 0
      rw [k0, b2]
      rfl
    refine bn_t k0' ?_
    unfold wX3_readSize
    refine xp_ok (i := 0) (x := ki' (0 : Int32).toNatClampNeg) T b1 k0' (num_ok (lo := 2) (hi := 8) T c1 (by rw [c2]; rfl) c3 rfl rfl hn.1 hn.2 (by decide) (xp_ok T d1 (by rw [d2]; rfl) (num_ok (lo := 2) (hi := 10) T f1 (by rw [f2]; rfl) f3 rfl rfl hm.1 hm.2 (by decide) (xp_ok T g1 (by rw [g2]; rfl) (bn_t rfl ?_)))))
    exact hlast
