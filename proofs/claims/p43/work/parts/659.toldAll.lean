/-! PURE: told: what it comes to. -/
def TR (Z : gZ) (H : gH) (x1 v : Nat) (ad : Nat → Nat) (n m : Nat) (L : List Ln) (os : List Or) : Prop := ((2 ≤ n ∧ n ≤ 8) ∧ (2 ≤ m ∧ m ≤ 10)) ∧ okA (t00 n m) L ∧ (∀ o, o ∈ os → okO (tE (adA (t00 n m) L)) o) ∧ os.length ≤ 4 ∧ (lnsT L).length ≤ 117 ∧ (hdX n m ++ (lnsX L ++ orsX os)).length ≤ 1500 ∧ TS Z H x1 v ad (adA (t00 n m) L) (hdX n m ++ (lnsX L ++ orsX os)) ∧ odA Z H ad (odL os) ∧ tE (adA (t00 n m) L) ≤ 3
section ALL
variable {K : Nat → gH → Prop} {Z : gZ} {x1 n m : Nat}
theorem td_end {H : gH} {v bc bs e : Nat} {ad : Nat → Nat} {L : List Ln} (hn : 2 ≤ n ∧ n ≤ 8) (hm : 2 ≤ m ∧ m ≤ 10) (he : e ≤ 3) (P : PS Z H x1 v ad n m e L 12) (hbc : 1243 ≤ bc) (hbs : 1960012 ≤ bs) (kk : ∀ H' v' ad' L' os, TR Z H' x1 v' ad' n m L' os → ad' 0 = ad 0 → K (ad 0) H') : wL_told_198 K Z 1 H bc bs x1 (nI n) (nI m) (ad 0) (nI e) (nI 12) := by
  obtain ⟨T, p2, p3, p4, p5, p6⟩ := P
  unfold wL_told_198
  refine br_t (by decide) (hz_cell (j := 2) (by decide) (fun r1 => hz_blw (n := 5) (by decide) (by decide) ?_))
  have h5 := blw_lt (x := r1 >>> (7 &&& 31)) (n := 5) (by decide)
  generalize blw (r1 >>> (7 &&& 31)) 5 = cnt at h5 ⊢
  rw [nI_clamp (show cnt < 2 ^ 31 by omega)]
  refine ⟨nI_pos (by omega), by omega, by omega, by omega, fun q3 hq3 => ?_⟩
  obtain ⟨o1, T1, c1, k1, K1⟩ := TS.ord (c := (zY Z 1, cnt, .inl (fun _ => 0))) T (k := 5) (by decide) (by decide) hq3
  refine ⟨_, o1, Nat.le_of_ble_eq_true rfl, nI_pos (by omega), by omega, by omega, by omega, fun q8 hq8 => ?_⟩
  obtain ⟨H1, e1⟩ : ∃ H1, H1 = hpS (hpN H q3 (.inl (zY Z 1, cnt, .inl (fun _ => 0)))) (ad 0) (.inr (8, (smV ad (adA (t00 n m) L) 0 0 0 0).set 5 (.ref q3))) := ⟨_, rfl⟩
  rw [← e1] at T1 c1 k1 hq8 ⊢
  have A1 : va_up ad 5 q3 0 = ad 0 := va_up_ne _ _ (by omega)
  obtain ⟨o2, T2, c2, k2, K2⟩ := TS.ord (c := (zY Z 6, cnt, .inr (.inr (.inr (.inr (fun _ => none)))))) T1 (k := 6) (by decide) (by decide) hq8
  rw [A1] at o2 T2 c2 k2
  refine ⟨_, o2, Nat.le_of_ble_eq_true rfl, nI_pos (by omega), by omega, by omega, by omega, fun q13 hq13 => ?_⟩
  obtain ⟨H2, e2⟩ : ∃ H2, H2 = hpS (hpN H1 q8 (.inl (zY Z 6, cnt, .inr (.inr (.inr (.inr (fun _ => none))))))) (ad 0) (.inr (8, (smV (va_up ad 5 q3) (adA (t00 n m) L) 0 0 0 0).set 6 (.ref q8))) := ⟨_, rfl⟩
  rw [← e2] at T2 c2 k2 hq13 ⊢
  have A2 : va_up (va_up ad 5 q3) 6 q8 0 = ad 0 := by rw [va_up_ne _ _ (by omega), A1]
  obtain ⟨o3, T3, c3, k3, K3⟩ := TS.ord (c := (zY Z 6, cnt, .inr (.inr (.inr (.inr (fun _ => none)))))) T2 (k := 7) (by decide) (by decide) hq13
  rw [A2] at o3 T3 c3 k3
  refine ⟨_, o3, Nat.le_of_ble_eq_true rfl, ?_⟩
  obtain ⟨H3, e3⟩ : ∃ H3, H3 = hpS (hpN H2 q13 (.inl (zY Z 6, cnt, .inr (.inr (.inr (.inr (fun _ => none))))))) (ad 0) (.inr (8, (smV (va_up (va_up ad 5 q3) 6 q8) (adA (t00 n m) L) 0 0 0 0).set 7 (.ref q13))) := ⟨_, rfl⟩
  rw [← e3] at T3 c3 k3 ⊢
  have A3 : va_up (va_up (va_up ad 5 q3) 6 q8) 7 q13 0 = ad 0 := by rw [va_up_ne _ _ (by omega), A2]
  have E5 : va_up (va_up (va_up ad 5 q3) 6 q8) 7 q13 5 = q3 := by rw [va_up_ne _ _ (by omega), va_up_ne _ _ (by omega), va_up_self]
  have E6 : va_up (va_up (va_up ad 5 q3) 6 q8) 7 q13 6 = q8 := by rw [va_up_ne _ _ (by omega), va_up_self]
  have E7 : va_up (va_up (va_up ad 5 q3) 6 q8) 7 q13 7 = q13 := va_up_self _ _ _
  have Q : OQ Z H3 (va_up (va_up (va_up ad 5 q3) 6 q8) 7 q13) cnt 0 0 0 (fun i => oK (([] : List Or).getD i od0)) (fun i => oS (([] : List Or).getD i od0)) (fun i => oT (([] : List Or).getD i od0)) := by
    have d5 : hpG H3 q3 = some (.inl (zY Z 1, cnt, .inl (fun _ => 0))) := by
      have h2 := k2 5 (Or.inl (by omega)) (by omega)
      have h3 := k3 5 (Or.inl (by omega)) (by omega)
      rw [va_up_self] at h2
      rw [va_up_ne _ _ (by omega), va_up_self] at h3
      rw [h3, h2]; exact c1
    have d6 : hpG H3 q8 = some (.inl (zY Z 6, cnt, .inr (.inr (.inr (.inr (fun _ => none)))))) := by
      have h3 := k3 6 (Or.inl (by omega)) (by omega)
      rw [va_up_self] at h3
      rw [h3]; exact c2
    exact ⟨⟨_, by rw [E5]; exact d5, fun i hi => absurd hi (Nat.not_lt_zero i)⟩, ⟨_, by rw [E6]; exact d6, fun i hi => absurd hi (Nat.not_lt_zero i)⟩, ⟨_, by rw [E7]; exact c3, fun i hi => absurd hi (Nat.not_lt_zero i)⟩⟩
  generalize va_up (va_up (va_up ad 5 q3) 6 q8) 7 q13 = ad' at T3 A3 Q
  have T3' : TS Z H3 x1 v ad' (adA (t00 n m) L) ((hdX n m ++ lnsX L) ++ orsX []) := by
    rw [show orsX [] = [] from rfl, List.append_nil]; exact T3
  refine ⟨cnt + 1, ?_⟩
  rw [← A3]
  refine td_566 (t := adA (t00 n m) L) (base := hdX n m ++ lnsX L) he (by omega) (by omega) (fun H' v' os ho ok T' Q' hlen => ?_) cnt 0 H3 v _ _ [] (by omega) rfl (fun o h => by cases h) T3' Q (Nat.zero_le _) (by omega) (by omega)
  rw [A3]
  refine kk H' v' ad' L os ⟨⟨hn, hm⟩, p2, by rw [p3]; exact ok, by omega, by omega, by rw [← List.append_assoc]; exact hlen, by rw [← List.append_assoc]; exact T', ?_, by omega⟩ A3
  obtain ⟨⟨f5, a1, a2⟩, ⟨f6, b1, b2⟩, ⟨f7, d1, d2⟩⟩ := Q'
  rw [← ho] at a1 b1 d1 a2 b2 d2
  exact ⟨⟨f5, a1, a2⟩, ⟨f6, b1, b2⟩, ⟨f7, d1, d2⟩⟩
/-- the empires -/
theorem td_74 {e k x4 R R' : Nat} (hn : 2 ≤ n ∧ n ≤ 8) (hm : 2 ≤ m ∧ m ≤ 10) (he : e ≤ 3)
    (fin : ∀ H v ad bc bs L, ES Z H x1 v ad n m L e → ad 0 = x4 → R ≤ bc → R' ≤ bs → wL_told_74 K Z k H bc bs x1 (nI n) (nI m) x4 (nI e) (nI e)) : ∀ (d j : Nat) (H : gH) (v : Nat) (ad : Nat → Nat) (bc bs : Nat) (L : List Ln), j + d = e → ES Z H x1 v ad n m L j → ad 0 = x4 → 10 * d + R ≤ bc → 22000 * d + R' ≤ bs → wL_told_74 K Z (d + k) H bc bs x1 (nI n) (nI m) x4 (nI e) (nI j) := by
  intro d
  induction d with
  | zero =>
    intro j H v ad bc bs L hj P h0 hb hb2
    have : j = e := by omega
    subst this
    rw [Nat.zero_add]
    exact fin H v ad bc bs L P h0 (by omega) (by omega)
  | succ d ih =>
    intro j H v ad bc bs L hj P h0 hb hb2
    obtain ⟨T, p2, p3, p4, p5, p6⟩ := P
    have wt : wfT (adA (t00 n m) L) := wf_adA L _ (wf_00 hn hm) p2
    have := td_emp (K := K) (k := d + k) (x2 := nI n) (x3 := nI m) (e := e) wt T (by omega) (by omega) he (by omega) (show 10 ≤ bc by omega) (show 22000 ≤ bs by omega) (fun H' v' ad' bc' bs' y z T' A' hyz hz9 b1 b2 => by
      rw [h0, p3]
      have P' : ES Z H' x1 v' ad' n m (L ++ [(0, j, y, z)]) (j + 1) := by
        have x40 := lnX_le (a := (0, j, y, z)) (by show j < 1000000; omega) (by show y < 1000000; omega) (by show z < 1000000; omega)
        rw [p3, List.append_assoc, ← lnsX_snoc] at T'
        refine ⟨by rw [adA_snoc]; exact T', okA_snoc L _ _ p2 ⟨p3.symm, by rw [p3]; omega, hyz, hz9⟩, by rw [adA_snoc]; show tE (adA (t00 n m) L) + 1 = j + 1; rw [p3], by rw [adA_snoc]; exact p4, ?_, ?_⟩
        · rw [lnsT_snoc]
          show _ + 6 + 1 ≤ 7 * (j + 1)
          omega
        · rw [lnsX_snoc, ← List.append_assoc, List.length_append]
          omega
      exact ih (j + 1) H' v' ad' bc' bs' _ (by omega) P' (by rw [A', h0]) (by omega) (by omega))
    rw [h0, p3] at this
    rw [show d + 1 + k = d + k + 1 by omega]
    exact this
/-- told -/
theorem hz_told {H : gH} {v bc bs : Nat} (B : TB Z H x1 v []) (hbc : 1600 ≤ bc) (hbs : 2450000 ≤ bs) (kk : ∀ H' v' ad' n m L os, TR Z H' x1 v' ad' n m L os → K (ad' 0) H') : wL_told Z H bc bs x1 K := by
  unfold wL_told
  refine hz_cell (j := 0) (by decide) (fun r1 => hz_blw (n := 6) (by decide) (by decide) (hz_cell (j := 0) (by decide) (fun r3 => hz_blw (n := 9) (by decide) (by decide) ?_)))
  have h6 := blw_lt (x := r1) (n := 6) (by decide)
  have h9 := blw_lt (x := r3 >>> (4 &&& 31)) (n := 9) (by decide)
  generalize blw r1 6 = a at h6 ⊢
  generalize blw (r3 >>> (4 &&& 31)) 9 = b at h9 ⊢
  rw [show (2 : Int32) + nI a = nI (2 + a) from nI_add 2 a, show (2 : Int32) + nI b = nI (2 + b) from nI_add 2 b]
  obtain ⟨n, hn'⟩ : ∃ n, n = 2 + a := ⟨_, rfl⟩
  obtain ⟨m, hm'⟩ : ∃ m, m = 2 + b := ⟨_, rfl⟩
  rw [← hn', ← hm']
  have hn : 2 ≤ n ∧ n ≤ 8 := by omega
  have hm : 2 ≤ m ∧ m ≤ 10 := by omega
  refine ⟨98, 428, by omega, by omega, hz_simOf hn hm (Nat.le_refl _) (Nat.le_refl _) (fun H5 ad S fr F5 => ?_)⟩
  have T5 : TS Z H5 x1 v ad (t00 n m) [] := by
    refine ⟨B.fr F5 (fun z => z) (fun z => z), S, fun i hi => ?_⟩
    obtain ⟨mm, ⟨ml, f, b1, b2, b3⟩, b4⟩ := B
    exact ⟨(ne_fresh b2 (fr i hi)).symm, (ne_fresh b1 (fr i hi)).symm⟩
  have dn := dL (show n < 1000000 by omega)
  have dm := dL (show m < 1000000 by omega)
  refine ts_K (i := 33) (by decide) T5 (by rw [kl33]; decide) (by omega) (by omega) (fun H6 v6 T6 _ _ => ?_)
  refine ts_I (y := n) (by omega) T6 (by simp only [List.length_append, List.length_nil, kl33]; decide) (by omega) (by omega) (fun H7 v7 T7 _ _ => ?_)
  refine ts_K (i := 34) (by decide) T7 (by simp only [List.length_append, List.length_nil, kl33, kl34]; omega) (by omega) (by omega) (fun H8 v8 T8 _ _ => ?_)
  refine ts_I (y := m) (by omega) T8 (by simp only [List.length_append, List.length_nil, kl33, kl34]; omega) (by omega) (by omega) (fun H9 v9 T9 _ _ => ?_)
  refine ts_K (i := 35) (by decide) T9 (by simp only [List.length_append, List.length_nil, kl33, kl34, kl35]; omega) (by omega) (by omega) (fun H10 v10 T10 _ _ => ?_)
  refine hz_cell (j := 1) (by decide) (fun r11 => hz_blw (n := 4) (by decide) (by decide) ?_)
  have h4 := blw_lt (x := r11) (n := 4) (by decide)
  generalize blw r11 4 = e at h4 ⊢
  have P : ES Z H10 x1 v10 ad n m [] 0 := by
    have e0 : hdX n m ++ lnsX [] = [] ++ kTl 33 ++ decL n ++ kTl 34 ++ decL m ++ kTl 35 := by
      show hdX n m ++ [] = _
      rw [List.append_nil]
      rfl
    refine ⟨by rw [e0]; exact T10, trivial, rfl, rfl, Nat.le_refl _, ?_⟩
    rw [e0]
    simp only [List.length_append, List.length_nil, kl33, kl34, kl35]
    omega
  refine ⟨e + 1, td_74 (x4 := ad 0) (R := 1435) (R' := 2320012) hn hm (by omega) (fun H v ad' bc bs L P h0 b1 b2 => ?_) e 0 H10 v10 ad _ _ [] (by omega) P rfl (by omega) (by omega)⟩
  unfold wL_told_74
  refine br_t (nI_le (Nat.le_refl _) (by omega)) ⟨13, ?_⟩
  obtain ⟨T, p2, p3, p4, p5, p6⟩ := P
  refine td_198 (R := 1243) (R' := 1960012) hn hm (by omega) (fun H' v' ad'' bc' bs' L' P' h0' b1' b2' => ?_) 12 0 H v ad' bc bs L (by omega) ⟨T, p2, p3, by omega, by omega, by omega⟩ h0 (by omega) (by omega)
  rw [← h0']
  refine td_end hn hm (by omega) P' b1' b2' (fun H'' v'' ad3 L'' os R A => ?_)
  rw [← A]
  exact kk H'' v'' ad3 n m L'' os R
end ALL
