/-! PURE: Sim.of: a sofa of n seats and m layers, nothing in it. -/
theorem hpM_0 {H : gH} {q n k : Nat} {cO cI : ClassId} : hpG (hpM H q cO cI n k) q = some (qE cO n (fun i => if i < n then some (q + 1 + i) else none)) := by
  unfold hpG hpM
  rw [if_pos (List.mem_append.mpr (Or.inr (List.mem_range'_1.mpr ⟨Nat.le_refl _, by omega⟩)))]
  show some (if q = q then _ else _) = _
  rw [if_pos rfl]
theorem hpM_i {H : gH} {q n k i : Nat} {cO cI : ClassId} (hi : i < n) : hpG (hpM H q cO cI n k) (q + 1 + i) = some (qE cI k (fun _ => none)) := by
  unfold hpG hpM
  rw [if_pos (List.mem_append.mpr (Or.inr (List.mem_range'_1.mpr ⟨by omega, by omega⟩)))]
  show some (if q + 1 + i = q then _ else if q < q + 1 + i ∧ q + 1 + i ≤ q + n then _ else _) = _
  rw [if_neg (by omega), if_pos (by omega)]
theorem hpM_n {H : gH} {q n k b : Nat} {cO cI : ClassId} (h : ∀ i, i ≤ n → b ≠ q + i) : hpG (hpM H q cO cI n k) b = hpG H b := by
  have h1 : ¬ (q ≤ b ∧ b < q + (n + 1)) := fun z => h (b - q) (by omega) (by omega)
  unfold hpG hpM
  have e : (b ∈ H.1 ++ List.range' q (n + 1)) ↔ b ∈ H.1 := by
    rw [List.mem_append, List.mem_range'_1]
    exact ⟨fun z => z.elim id (fun y => absurd y h1), Or.inl⟩
  by_cases z : b ∈ H.1
  · rw [if_pos z, if_pos (e.mpr z)]
    show some (if b = q then _ else if q < b ∧ b ≤ q + n then _ else _) = _
    rw [if_neg (by omega), if_neg (by omega)]
  · rw [if_neg z, if_neg (fun y => z (e.mp y))]
theorem ob_s {H : gH} {p k : Nat} {fs : List Value} {v : Value} (a : hpG H p = some (.inr (8, fs))) : ∃ H', H' = hpS H p (.inr (8, fs.set k v)) ∧ hpG H' p = some (.inr (8, fs.set k v)) ∧ ∀ b, b ≠ p → hpG H' b = hpG H b :=
  ⟨_, rfl, hpG_s a, fun _ h => hpG_sn h⟩
theorem ob_n {H : gH} {p q k : Nat} {fs : List Value} {v : Value} (cell : va_E) (a : hpG H p = some (.inr (8, fs))) (hq : hpG H q = none) : ∃ H', H' = hpS (hpN H q cell) p (.inr (8, fs.set k v)) ∧ hpG (hpN H q cell) p = some (.inr (8, fs)) ∧ hpG H' p = some (.inr (8, fs.set k v)) ∧ hpG H' q = some cell ∧ (∀ b, b ≠ p → b ≠ q → hpG H' b = hpG H b) ∧ p ≠ q := by
  have n : p ≠ q := ne_fresh a hq
  have a' : hpG (hpN H q cell) p = some (.inr (8, fs)) := (hpG_nn n).trans a
  exact ⟨_, rfl, a', hpG_s a', (hpG_sn (Ne.symm n)).trans hpG_n, fun b h1 h2 => (hpG_sn h1).trans (hpG_nn h2), n⟩

theorem hz_simNew {Z : gZ} {H : gH} {p bc bs : Nat} {K : gH → Prop} (h0 : hpG H p = some (.inr (8, [.int 0, .null, .null, .null, .null, .null, .null, .null, .int 0, .int 0, .int 0, .int 0]))) (hbc : 7 ≤ bc)
    (kk : ∀ (H' : gH) (g : Nat → Nat), g 0 = p → hpG H' p = some (.inr (8, [.int 6, .ref (g 1), .ref (g 2), .ref (g 3), .ref (g 4), .ref (g 5), .ref (g 6), .ref (g 7), .int 0, .int 0, .int 0, .int 0])) → (∀ i j, i ≤ 7 → j ≤ 7 → g i = g j → i = j) → (∀ i, 1 ≤ i → i ≤ 7 → hpG H (g i) = none) → (∀ b, b ≠ p → hpG H b ≠ none → hpG H' b = hpG H b) → hpG H' (g 2) = some (qE (zY Z 4) 0 (fun _ => none)) → hpG H' (g 3) = some (qE (zY Z 4) 0 (fun _ => none)) → hpG H' (g 4) = some (iE (zY Z 3) 0 (fun _ => 0)) → hpG H' (g 5) = some (iE (zY Z 1) 0 (fun _ => 0)) → hpG H' (g 6) = some (qE (zY Z 6) 0 (fun _ => none)) → hpG H' (g 7) = some (qE (zY Z 6) 0 (fun _ => none)) → K H') : wX9_init Z H bc bs p K := by
  unfold wX9_init
  obtain ⟨H0, e0, a0', F0⟩ := ob_s (k := 0) (v := .int 6) h0
  refine ⟨_, h0, Nat.le_of_ble_eq_true rfl, ?_⟩
  rw [← e0]
  refine ⟨by omega, Nat.zero_le _, fun q1 hq1 => ?_⟩
  obtain ⟨H1, e1, b1, a1', c1, F1, n1⟩ := ob_n (k := 1) (v := .ref q1) (qE (zY Z 5) (0 : Int32).toNatClampNeg (fun _ => none)) a0' hq1
  refine ⟨_, b1, Nat.le_of_ble_eq_true rfl, ?_⟩
  rw [← e1]
  refine ⟨by omega, Nat.zero_le _, fun q2 hq2 => ?_⟩
  obtain ⟨H2, e2, b2, a2', c2, F2, n2⟩ := ob_n (k := 2) (v := .ref q2) (qE (zY Z 4) (0 : Int32).toNatClampNeg (fun _ => none)) a1' hq2
  refine ⟨_, b2, Nat.le_of_ble_eq_true rfl, ?_⟩
  rw [← e2]
  refine ⟨by omega, Nat.zero_le _, fun q3 hq3 => ?_⟩
  obtain ⟨H3, e3, b3, a3', c3, F3, n3⟩ := ob_n (k := 3) (v := .ref q3) (qE (zY Z 4) (0 : Int32).toNatClampNeg (fun _ => none)) a2' hq3
  refine ⟨_, b3, Nat.le_of_ble_eq_true rfl, ?_⟩
  rw [← e3]
  refine ⟨by omega, Nat.zero_le _, fun q4 hq4 => ?_⟩
  obtain ⟨H4, e4, b4, a4', c4, F4, n4⟩ := ob_n (k := 4) (v := .ref q4) (iE (zY Z 3) (0 : Int32).toNatClampNeg (fun _ => 0)) a3' hq4
  refine ⟨_, b4, Nat.le_of_ble_eq_true rfl, ?_⟩
  rw [← e4]
  refine ⟨by omega, Nat.zero_le _, fun q5 hq5 => ?_⟩
  obtain ⟨H5, e5, b5, a5', c5, F5, n5⟩ := ob_n (k := 5) (v := .ref q5) (iE (zY Z 1) (0 : Int32).toNatClampNeg (fun _ => 0)) a4' hq5
  refine ⟨_, b5, Nat.le_of_ble_eq_true rfl, ?_⟩
  rw [← e5]
  refine ⟨by omega, Nat.zero_le _, fun q6 hq6 => ?_⟩
  obtain ⟨H6, e6, b6, a6', c6, F6, n6⟩ := ob_n (k := 6) (v := .ref q6) (qE (zY Z 6) (0 : Int32).toNatClampNeg (fun _ => none)) a5' hq6
  refine ⟨_, b6, Nat.le_of_ble_eq_true rfl, ?_⟩
  rw [← e6]
  refine ⟨by omega, Nat.zero_le _, fun q7 hq7 => ?_⟩
  obtain ⟨H7, e7, b7, a7', c7, F7, n7⟩ := ob_n (k := 7) (v := .ref q7) (qE (zY Z 6) (0 : Int32).toNatClampNeg (fun _ => none)) a6' hq7
  refine ⟨_, b7, Nat.le_of_ble_eq_true rfl, ?_⟩
  rw [← e7]
  have r0 : ∀ b, b ≠ p → hpG H0 b = hpG H b := F0
  have d1_1 := c1
  have m1_2 : q1 ≠ q2 := ne_fresh d1_1 hq2
  have d1_2 : hpG H2 q1 = some (qE (zY Z 5) (0 : Int32).toNatClampNeg (fun _ => none)) := (F2 q1 (Ne.symm n1) m1_2).trans d1_1
  have m1_3 : q1 ≠ q3 := ne_fresh d1_2 hq3
  have d1_3 : hpG H3 q1 = some (qE (zY Z 5) (0 : Int32).toNatClampNeg (fun _ => none)) := (F3 q1 (Ne.symm n1) m1_3).trans d1_2
  have m1_4 : q1 ≠ q4 := ne_fresh d1_3 hq4
  have d1_4 : hpG H4 q1 = some (qE (zY Z 5) (0 : Int32).toNatClampNeg (fun _ => none)) := (F4 q1 (Ne.symm n1) m1_4).trans d1_3
  have m1_5 : q1 ≠ q5 := ne_fresh d1_4 hq5
  have d1_5 : hpG H5 q1 = some (qE (zY Z 5) (0 : Int32).toNatClampNeg (fun _ => none)) := (F5 q1 (Ne.symm n1) m1_5).trans d1_4
  have m1_6 : q1 ≠ q6 := ne_fresh d1_5 hq6
  have d1_6 : hpG H6 q1 = some (qE (zY Z 5) (0 : Int32).toNatClampNeg (fun _ => none)) := (F6 q1 (Ne.symm n1) m1_6).trans d1_5
  have m1_7 : q1 ≠ q7 := ne_fresh d1_6 hq7
  have d1_7 : hpG H7 q1 = some (qE (zY Z 5) (0 : Int32).toNatClampNeg (fun _ => none)) := (F7 q1 (Ne.symm n1) m1_7).trans d1_6
  have d2_2 := c2
  have m2_3 : q2 ≠ q3 := ne_fresh d2_2 hq3
  have d2_3 : hpG H3 q2 = some (qE (zY Z 4) (0 : Int32).toNatClampNeg (fun _ => none)) := (F3 q2 (Ne.symm n2) m2_3).trans d2_2
  have m2_4 : q2 ≠ q4 := ne_fresh d2_3 hq4
  have d2_4 : hpG H4 q2 = some (qE (zY Z 4) (0 : Int32).toNatClampNeg (fun _ => none)) := (F4 q2 (Ne.symm n2) m2_4).trans d2_3
  have m2_5 : q2 ≠ q5 := ne_fresh d2_4 hq5
  have d2_5 : hpG H5 q2 = some (qE (zY Z 4) (0 : Int32).toNatClampNeg (fun _ => none)) := (F5 q2 (Ne.symm n2) m2_5).trans d2_4
  have m2_6 : q2 ≠ q6 := ne_fresh d2_5 hq6
  have d2_6 : hpG H6 q2 = some (qE (zY Z 4) (0 : Int32).toNatClampNeg (fun _ => none)) := (F6 q2 (Ne.symm n2) m2_6).trans d2_5
  have m2_7 : q2 ≠ q7 := ne_fresh d2_6 hq7
  have d2_7 : hpG H7 q2 = some (qE (zY Z 4) (0 : Int32).toNatClampNeg (fun _ => none)) := (F7 q2 (Ne.symm n2) m2_7).trans d2_6
  have d3_3 := c3
  have m3_4 : q3 ≠ q4 := ne_fresh d3_3 hq4
  have d3_4 : hpG H4 q3 = some (qE (zY Z 4) (0 : Int32).toNatClampNeg (fun _ => none)) := (F4 q3 (Ne.symm n3) m3_4).trans d3_3
  have m3_5 : q3 ≠ q5 := ne_fresh d3_4 hq5
  have d3_5 : hpG H5 q3 = some (qE (zY Z 4) (0 : Int32).toNatClampNeg (fun _ => none)) := (F5 q3 (Ne.symm n3) m3_5).trans d3_4
  have m3_6 : q3 ≠ q6 := ne_fresh d3_5 hq6
  have d3_6 : hpG H6 q3 = some (qE (zY Z 4) (0 : Int32).toNatClampNeg (fun _ => none)) := (F6 q3 (Ne.symm n3) m3_6).trans d3_5
  have m3_7 : q3 ≠ q7 := ne_fresh d3_6 hq7
  have d3_7 : hpG H7 q3 = some (qE (zY Z 4) (0 : Int32).toNatClampNeg (fun _ => none)) := (F7 q3 (Ne.symm n3) m3_7).trans d3_6
  have d4_4 := c4
  have m4_5 : q4 ≠ q5 := ne_fresh d4_4 hq5
  have d4_5 : hpG H5 q4 = some (iE (zY Z 3) (0 : Int32).toNatClampNeg (fun _ => 0)) := (F5 q4 (Ne.symm n4) m4_5).trans d4_4
  have m4_6 : q4 ≠ q6 := ne_fresh d4_5 hq6
  have d4_6 : hpG H6 q4 = some (iE (zY Z 3) (0 : Int32).toNatClampNeg (fun _ => 0)) := (F6 q4 (Ne.symm n4) m4_6).trans d4_5
  have m4_7 : q4 ≠ q7 := ne_fresh d4_6 hq7
  have d4_7 : hpG H7 q4 = some (iE (zY Z 3) (0 : Int32).toNatClampNeg (fun _ => 0)) := (F7 q4 (Ne.symm n4) m4_7).trans d4_6
  have d5_5 := c5
  have m5_6 : q5 ≠ q6 := ne_fresh d5_5 hq6
  have d5_6 : hpG H6 q5 = some (iE (zY Z 1) (0 : Int32).toNatClampNeg (fun _ => 0)) := (F6 q5 (Ne.symm n5) m5_6).trans d5_5
  have m5_7 : q5 ≠ q7 := ne_fresh d5_6 hq7
  have d5_7 : hpG H7 q5 = some (iE (zY Z 1) (0 : Int32).toNatClampNeg (fun _ => 0)) := (F7 q5 (Ne.symm n5) m5_7).trans d5_6
  have d6_6 := c6
  have m6_7 : q6 ≠ q7 := ne_fresh d6_6 hq7
  have d6_7 : hpG H7 q6 = some (qE (zY Z 6) (0 : Int32).toNatClampNeg (fun _ => none)) := (F7 q6 (Ne.symm n6) m6_7).trans d6_6
  have d7_7 := c7
  have L : ∀ b, b ≠ p → hpG H b ≠ none → hpG H0 b = hpG H b ∧ (b ≠ q1 ∧ hpG H1 b = hpG H b) ∧ (b ≠ q2 ∧ hpG H2 b = hpG H b) ∧ (b ≠ q3 ∧ hpG H3 b = hpG H b) ∧ (b ≠ q4 ∧ hpG H4 b = hpG H b) ∧ (b ≠ q5 ∧ hpG H5 b = hpG H b) ∧ (b ≠ q6 ∧ hpG H6 b = hpG H b) ∧ (b ≠ q7 ∧ hpG H7 b = hpG H b) := by
    intro b hb hl
    have g0 := F0 b hb
    have y1 : b ≠ q1 := fun z => hl (by rw [← g0, z]; exact hq1)
    have g1 := (F1 b hb y1).trans g0
    have y2 : b ≠ q2 := fun z => hl (by rw [← g1, z]; exact hq2)
    have g2 := (F2 b hb y2).trans g1
    have y3 : b ≠ q3 := fun z => hl (by rw [← g2, z]; exact hq3)
    have g3 := (F3 b hb y3).trans g2
    have y4 : b ≠ q4 := fun z => hl (by rw [← g3, z]; exact hq4)
    have g4 := (F4 b hb y4).trans g3
    have y5 : b ≠ q5 := fun z => hl (by rw [← g4, z]; exact hq5)
    have g5 := (F5 b hb y5).trans g4
    have y6 : b ≠ q6 := fun z => hl (by rw [← g5, z]; exact hq6)
    have g6 := (F6 b hb y6).trans g5
    have y7 : b ≠ q7 := fun z => hl (by rw [← g6, z]; exact hq7)
    have g7 := (F7 b hb y7).trans g6
    exact ⟨g0, ⟨y1, g1⟩, ⟨y2, g2⟩, ⟨y3, g3⟩, ⟨y4, g4⟩, ⟨y5, g5⟩, ⟨y6, g6⟩, ⟨y7, g7⟩⟩
  have f1 : hpG H q1 = none := by
    cases z : hpG H q1 with
    | none => rfl
    | some c =>
      have := (L q1 (Ne.symm n1) (by rw [z]; exact Option.some_ne_none c)).2.1.1
      exact absurd rfl this
  have f2 : hpG H q2 = none := by
    cases z : hpG H q2 with
    | none => rfl
    | some c =>
      have := (L q2 (Ne.symm n2) (by rw [z]; exact Option.some_ne_none c)).2.2.1.1
      exact absurd rfl this
  have f3 : hpG H q3 = none := by
    cases z : hpG H q3 with
    | none => rfl
    | some c =>
      have := (L q3 (Ne.symm n3) (by rw [z]; exact Option.some_ne_none c)).2.2.2.1.1
      exact absurd rfl this
  have f4 : hpG H q4 = none := by
    cases z : hpG H q4 with
    | none => rfl
    | some c =>
      have := (L q4 (Ne.symm n4) (by rw [z]; exact Option.some_ne_none c)).2.2.2.2.1.1
      exact absurd rfl this
  have f5 : hpG H q5 = none := by
    cases z : hpG H q5 with
    | none => rfl
    | some c =>
      have := (L q5 (Ne.symm n5) (by rw [z]; exact Option.some_ne_none c)).2.2.2.2.2.1.1
      exact absurd rfl this
  have f6 : hpG H q6 = none := by
    cases z : hpG H q6 with
    | none => rfl
    | some c =>
      have := (L q6 (Ne.symm n6) (by rw [z]; exact Option.some_ne_none c)).2.2.2.2.2.2.1.1
      exact absurd rfl this
  have f7 : hpG H q7 = none := by
    cases z : hpG H q7 with
    | none => rfl
    | some c =>
      have := (L q7 (Ne.symm n7) (by rw [z]; exact Option.some_ne_none c)).2.2.2.2.2.2.2.1
      exact absurd rfl this
  have inj : ∀ i j, i ≤ 7 → j ≤ 7 → (fun i : Nat => if i = 0 then p else if i = 1 then q1 else if i = 2 then q2 else if i = 3 then q3 else if i = 4 then q4 else if i = 5 then q5 else if i = 6 then q6 else q7) i = (fun i : Nat => if i = 0 then p else if i = 1 then q1 else if i = 2 then q2 else if i = 3 then q3 else if i = 4 then q4 else if i = 5 then q5 else if i = 6 then q6 else q7) j → i = j := by
    have key : ∀ i j, i < j → j ≤ 7 → (fun i : Nat => if i = 0 then p else if i = 1 then q1 else if i = 2 then q2 else if i = 3 then q3 else if i = 4 then q4 else if i = 5 then q5 else if i = 6 then q6 else q7) i ≠ (fun i : Nat => if i = 0 then p else if i = 1 then q1 else if i = 2 then q2 else if i = 3 then q3 else if i = 4 then q4 else if i = 5 then q5 else if i = 6 then q6 else q7) j := by
      intro i j hij hj
      have hj' : j = 1 ∨ j = 2 ∨ j = 3 ∨ j = 4 ∨ j = 5 ∨ j = 6 ∨ j = 7 := by omega
      rcases hj' with rfl | rfl | rfl | rfl | rfl | rfl | rfl
      · have hi' : i = 0 := by omega
        subst hi'
        exact n1
      · have hi' : i = 0 ∨ i = 1 := by omega
        rcases hi' with rfl | rfl
        · exact n2
        · exact m1_2
      · have hi' : i = 0 ∨ i = 1 ∨ i = 2 := by omega
        rcases hi' with rfl | rfl | rfl
        · exact n3
        · exact m1_3
        · exact m2_3
      · have hi' : i = 0 ∨ i = 1 ∨ i = 2 ∨ i = 3 := by omega
        rcases hi' with rfl | rfl | rfl | rfl
        · exact n4
        · exact m1_4
        · exact m2_4
        · exact m3_4
      · have hi' : i = 0 ∨ i = 1 ∨ i = 2 ∨ i = 3 ∨ i = 4 := by omega
        rcases hi' with rfl | rfl | rfl | rfl | rfl
        · exact n5
        · exact m1_5
        · exact m2_5
        · exact m3_5
        · exact m4_5
      · have hi' : i = 0 ∨ i = 1 ∨ i = 2 ∨ i = 3 ∨ i = 4 ∨ i = 5 := by omega
        rcases hi' with rfl | rfl | rfl | rfl | rfl | rfl
        · exact n6
        · exact m1_6
        · exact m2_6
        · exact m3_6
        · exact m4_6
        · exact m5_6
      · have hi' : i = 0 ∨ i = 1 ∨ i = 2 ∨ i = 3 ∨ i = 4 ∨ i = 5 ∨ i = 6 := by omega
        rcases hi' with rfl | rfl | rfl | rfl | rfl | rfl | rfl
        · exact n7
        · exact m1_7
        · exact m2_7
        · exact m3_7
        · exact m4_7
        · exact m5_7
        · exact m6_7
    intro i j hi hj e
    rcases Nat.lt_trichotomy i j with z | z | z
    · exact absurd e (key i j z hj)
    · exact z
    · exact absurd e.symm (key j i z hi)
  refine kk H7 (fun i : Nat => if i = 0 then p else if i = 1 then q1 else if i = 2 then q2 else if i = 3 then q3 else if i = 4 then q4 else if i = 5 then q5 else if i = 6 then q6 else q7) rfl a7' inj ?_ (fun b h1 h2 => (L b h1 h2).2.2.2.2.2.2.2.2) d2_7 d3_7 d4_7 d5_7 d6_7 d7_7
  intro i h1 h7
  have hi' : i = 1 ∨ i = 2 ∨ i = 3 ∨ i = 4 ∨ i = 5 ∨ i = 6 ∨ i = 7 := by omega
  rcases hi' with rfl | rfl | rfl | rfl | rfl | rfl | rfl
  · exact f1
  · exact f2
  · exact f3
  · exact f4
  · exact f5
  · exact f6
  · exact f7
