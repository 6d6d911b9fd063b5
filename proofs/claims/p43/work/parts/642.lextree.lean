/-! PURE: the text of a tree, cut into tokens: the tokens of the tree. -/
theorem kt2 : kTl 2 = [] := by decide +kernel
theorem kt3 : kTl 3 = [100, 97, 121, 32] := by decide +kernel
theorem kt4 : kTl 4 = [102, 111, 117, 110, 100, 32] := by decide +kernel
theorem kt5 : kTl 5 = [115, 108, 105, 100, 101, 115, 32] := by decide +kernel
theorem kt6 : kTl 6 = [112, 114, 111, 112, 115, 32] := by decide +kernel
theorem kt7 : kTl 7 = [102, 105, 114, 115, 116, 32, 111, 102, 32, 101] := by decide +kernel
theorem kt8 : kTl 8 = [108, 97, 115, 116, 32, 111, 102, 32, 101] := by decide +kernel
theorem kt9 : kTl 9 = [43] := by decide +kernel
theorem kt10 : kTl 10 = [45] := by decide +kernel
theorem kt11 : kTl 11 = [42] := by decide +kernel
theorem kt12 : kTl 12 = [47] := by decide +kernel
theorem kt13 : kTl 13 = [109, 105, 110, 40] := by decide +kernel
theorem kt14 : kTl 14 = [109, 97, 120, 40] := by decide +kernel
theorem kt15 : kTl 15 = [60] := by decide +kernel
theorem kt16 : kTl 16 = [62] := by decide +kernel
theorem kt17 : kTl 17 = [61] := by decide +kernel
theorem kt18 : kTl 18 = [60, 61] := by decide +kernel
theorem kt19 : kTl 19 = [62, 61] := by decide +kernel
theorem kt20 : kTl 20 = [32] := by decide +kernel
theorem kt21 : kTl 21 = [104, 101, 105, 103, 104, 116, 40] := by decide +kernel
theorem kt22 : kTl 22 = [41] := by decide +kernel
theorem kt23 : kTl 23 = [45, 32, 40] := by decide +kernel
theorem kt24 : kTl 24 = [40] := by decide +kernel
theorem kt25 : kTl 25 = [44] := by decide +kernel
theorem kt26 : kTl 26 = [115, 101, 101, 110, 32, 101] := by decide +kernel
theorem kt27 : kTl 27 = [115, 117, 114, 101, 32] := by decide +kernel
theorem kt28 : kTl 28 = [110, 111, 116, 91] := by decide +kernel
theorem kt29 : kTl 29 = [93] := by decide +kernel
theorem kt30 : kTl 30 = [91] := by decide +kernel
theorem kt31 : kTl 31 = [97, 110, 100] := by decide +kernel
theorem kt32 : kTl 32 = [111, 114] := by decide +kernel
theorem kt33 : kTl 33 = [115, 101, 97, 116, 115, 32] := by decide +kernel
theorem kt34 : kTl 34 = [32, 108, 97, 121, 101, 114, 115, 32] := by decide +kernel
theorem kt35 : kTl 35 = [59, 10] := by decide +kernel
theorem kt36 : kTl 36 = [101, 109, 112, 105, 114, 101, 32, 101] := by decide +kernel
theorem kt37 : kTl 37 = [32, 102, 114, 111, 109, 32] := by decide +kernel
theorem kt38 : kTl 38 = [32, 116, 111, 32] := by decide +kernel
theorem kt39 : kTl 39 = [59] := by decide +kernel
theorem kt40 : kTl 40 = [32, 105, 110, 32] := by decide +kernel
theorem kt41 : kTl 41 = [44] := by decide +kernel
theorem kt42 : kTl 42 = [115, 112, 114, 105, 110, 103] := by decide +kernel
theorem kt43 : kTl 43 = [99, 111, 105, 110] := by decide +kernel
theorem kt44 : kTl 44 = [99, 114, 117, 109, 98, 115] := by decide +kernel
theorem kt45 : kTl 45 = [32, 121, 101, 97, 114, 32] := by decide +kernel
theorem kt46 : kTl 46 = [32, 111, 102, 32, 101] := by decide +kernel
theorem kt47 : kTl 47 = [100, 105, 103, 32] := by decide +kernel
theorem kt48 : kTl 48 = [112, 114, 111, 112, 32] := by decide +kernel
theorem kt49 : kTl 49 = [102, 114, 101, 101, 32] := by decide +kernel
theorem kt50 : kTl 50 = [] := by decide +kernel
theorem kt51 : kTl 51 = [32, 119, 104, 101, 110, 32] := by decide +kernel
/-- a sign or a blank begins u -/
def brk (u : List Nat) : Prop := ∃ c w, u = c :: w ∧ owB (nI c) = false
theorem fw_10 {v : Nat} (h : v < 1000000) : fw 10 nD (fun i => nI ((decL v).getD i 0)) (decL v).length = v := by
  rw [decL_len]
  have h6 := dg6 h
  have hv : v < 10 ^ sb_dg v := by
    unfold sb_dg
    (repeat' split) <;> omega
  have key : ∀ i, i ≤ sb_dg v → fw 10 nD (fun i => nI ((decL v).getD i 0)) i = v / 10 ^ (sb_dg v - i) := by
    intro i
    induction i with
    | zero =>
      intro _
      show 0 = _
      rw [Nat.sub_zero, Nat.div_eq_of_lt hv]
    | succ i ih =>
      intro hi
      show fw 10 nD (fun i => nI ((decL v).getD i 0)) i * 10 + nD (nI ((decL v).getD i 0)) = _
      rw [ih (by omega), decL_at (by omega)]
      obtain ⟨m, hm⟩ : ∃ m, sb_dg v = i + 1 + m := ⟨sb_dg v - (i + 1), by omega⟩
      rw [show sb_dg v - i = m + 1 by omega, show sb_dg v - 1 - i = m by omega, show sb_dg v - (i + 1) = m by omega]
      have e : nD (nI (48 + v / 10 ^ m % 10)) = v / 10 ^ m % 10 := by
        have t : ∀ d, d < 10 → nD (nI (48 + d)) = d := by decide +kernel
        exact t _ (Nat.mod_lt _ (by decide))
      rw [e, Nat.pow_succ, ← Nat.div_div_eq_div_mul]
      omega
  have := key (sb_dg v) (Nat.le_refl _)
  rw [this, Nat.sub_self, Nat.pow_zero, Nat.div_one]
theorem dec_dg {v c : Nat} (h : c ∈ decL v) : 48 ≤ c ∧ c ≤ 57 := by
  unfold decL at h
  obtain ⟨i, -, rfl⟩ := List.mem_map.mp h
  unfold sb_dec
  omega
theorem dg_ch : ∀ c, c < 58 → 48 ≤ c → dgB (nI c) = true ∧ smB (nI c) = false ∧ blB (nI c) = false := by decide +kernel
theorem lx_dgs : ∀ (ds w : List Nat), (∀ c, c ∈ ds → 48 ≤ c ∧ c ≤ 57) → lx (2, w) ds = ((2, w ++ ds), []) := by
  intro ds
  induction ds with
  | nil => intro w _; rw [List.append_nil]; rfl
  | cons c ds ih =>
    intro w h
    have hc := h c List.mem_cons_self
    obtain ⟨t1, -, -⟩ := dg_ch c (by omega) hc.1
    have e : lx1 (2, w) c = ((2, w ++ [c]), []) := by
      unfold lx1
      rw [if_neg (fun y => by cases y.1), if_pos ⟨rfl, t1⟩]
    show ((lx (lx1 (2, w) c).1 ds).1, (lx1 (2, w) c).2 ++ (lx (lx1 (2, w) c).1 ds).2) = _
    rw [e]
    show ((lx (2, w ++ [c]) ds).1, [] ++ (lx (2, w ++ [c]) ds).2) = _
    rw [ih _ (fun b hb => h b (List.mem_cons_of_mem _ hb)), List.append_assoc]
    rfl
theorem lx_dec (v : Nat) : lx (0, []) (decL v) = ((2, decL v), []) := by
  have hl : (decL v).length = sb_dg v := decL_len v
  have hm : ∀ c, c ∈ decL v → 48 ≤ c ∧ c ≤ 57 := fun c h => dec_dg h
  have h1 := (sb_dg_in v).1
  generalize decL v = l at hl hm ⊢
  cases l with
  | nil => simp at hl; omega
  | cons c ds =>
    have hc := hm c List.mem_cons_self
    obtain ⟨t1, t2, t3⟩ := dg_ch c (by omega) hc.1
    have e : lx1 (0, []) c = ((2, [c]), []) := by
      unfold lx1 lxS
      rw [if_neg (fun y => by cases y.1), if_neg (fun y => by cases y.1), if_neg (fun y => by cases y.1), if_neg (by rw [t3]; decide), if_neg (by rw [t2]; decide), if_pos t1]
      rfl
    show ((lx (lx1 (0, []) c).1 ds).1, (lx1 (0, []) c).2 ++ (lx (lx1 (0, []) c).1 ds).2) = _
    rw [e]
    show ((lx (2, [c]) ds).1, [] ++ (lx (2, [c]) ds).2) = _
    rw [lx_dgs ds [c] (fun b hb => hm b (List.mem_cons_of_mem _ hb))]
    rfl
theorem num_lx {v : Nat} (h : v < 1000000) {u : List Nat} (hu : brk u) : lxB (0, []) (decL v ++ u) = (45, v, 0) :: lxB (0, []) u := by
  obtain ⟨c, w, rfl, hc⟩ := hu
  rw [lxB_app, lx_dec]
  show [] ++ lxB (2, decL v) (c :: w) = _
  have hd : dgB (nI c) = false := by
    unfold owB at hc
    rw [Bool.or_eq_false_iff] at hc
    exact hc.2
  rw [List.nil_append, lxB_fin]
  · have e : dTk (decL v) = (45, v, 0) := by
      unfold dTk
      rw [fw_10 h, decL_len, if_pos (dg6 h).2]
    show [dTk (decL v)] ++ _ = _
    rw [e]
    rfl
  · unfold lx1
    rw [if_neg (fun y => by cases y.1), if_neg (fun y => by rw [hd] at y; cases y.2), if_neg (fun y => by cases y.1)]
theorem con_lx {w : List Nat} {ts : List Tk} (h : lx (0, []) w = ((0, []), ts)) (u : List Nat) : lxB (0, []) (w ++ u) = ts ++ lxB (0, []) u := by
  rw [lxB_app, h]
theorem c3_lx (u : List Nat) : lxB (0, []) (kTl 3 ++ u) = [t0 15] ++ lxB (0, []) u := con_lx (by decide +kernel) u
theorem c4_lx (u : List Nat) : lxB (0, []) (kTl 4 ++ u) = [t0 16] ++ lxB (0, []) u := con_lx (by decide +kernel) u
theorem c5_lx (u : List Nat) : lxB (0, []) (kTl 5 ++ u) = [t0 17] ++ lxB (0, []) u := con_lx (by decide +kernel) u
theorem c6_lx (u : List Nat) : lxB (0, []) (kTl 6 ++ u) = [t0 18] ++ lxB (0, []) u := con_lx (by decide +kernel) u
theorem c9_lx (u : List Nat) : lxB (0, []) (kTl 9 ++ u) = [t0 35] ++ lxB (0, []) u := con_lx (by decide +kernel) u
theorem c10_lx (u : List Nat) : lxB (0, []) (kTl 10 ++ u) = [t0 36] ++ lxB (0, []) u := con_lx (by decide +kernel) u
theorem c11_lx (u : List Nat) : lxB (0, []) (kTl 11 ++ u) = [t0 37] ++ lxB (0, []) u := con_lx (by decide +kernel) u
theorem c12_lx (u : List Nat) : lxB (0, []) (kTl 12 ++ u) = [t0 38] ++ lxB (0, []) u := con_lx (by decide +kernel) u
theorem c13_lx (u : List Nat) : lxB (0, []) (kTl 13 ++ u) = [t0 27, t0 29] ++ lxB (0, []) u := con_lx (by decide +kernel) u
theorem c14_lx (u : List Nat) : lxB (0, []) (kTl 14 ++ u) = [t0 28, t0 29] ++ lxB (0, []) u := con_lx (by decide +kernel) u
theorem c17_lx (u : List Nat) : lxB (0, []) (kTl 17 ++ u) = [t0 41] ++ lxB (0, []) u := con_lx (by decide +kernel) u
theorem c18_lx (u : List Nat) : lxB (0, []) (kTl 18 ++ u) = [t0 42] ++ lxB (0, []) u := con_lx (by decide +kernel) u
theorem c19_lx (u : List Nat) : lxB (0, []) (kTl 19 ++ u) = [t0 43] ++ lxB (0, []) u := con_lx (by decide +kernel) u
theorem c20_lx (u : List Nat) : lxB (0, []) (kTl 20 ++ u) = [] ++ lxB (0, []) u := con_lx (by decide +kernel) u
theorem c21_lx (u : List Nat) : lxB (0, []) (kTl 21 ++ u) = [t0 21, t0 29] ++ lxB (0, []) u := con_lx (by decide +kernel) u
theorem c22_lx (u : List Nat) : lxB (0, []) (kTl 22 ++ u) = [t0 30] ++ lxB (0, []) u := con_lx (by decide +kernel) u
theorem c23_lx (u : List Nat) : lxB (0, []) (kTl 23 ++ u) = [t0 36, t0 29] ++ lxB (0, []) u := con_lx (by decide +kernel) u
theorem c24_lx (u : List Nat) : lxB (0, []) (kTl 24 ++ u) = [t0 29] ++ lxB (0, []) u := con_lx (by decide +kernel) u
theorem c25_lx (u : List Nat) : lxB (0, []) (kTl 25 ++ u) = [t0 34] ++ lxB (0, []) u := con_lx (by decide +kernel) u
theorem c27_lx (u : List Nat) : lxB (0, []) (kTl 27 ++ u) = [t0 23] ++ lxB (0, []) u := con_lx (by decide +kernel) u
theorem c28_lx (u : List Nat) : lxB (0, []) (kTl 28 ++ u) = [t0 24, t0 31] ++ lxB (0, []) u := con_lx (by decide +kernel) u
theorem c29_lx (u : List Nat) : lxB (0, []) (kTl 29 ++ u) = [t0 32] ++ lxB (0, []) u := con_lx (by decide +kernel) u
theorem c30_lx (u : List Nat) : lxB (0, []) (kTl 30 ++ u) = [t0 31] ++ lxB (0, []) u := con_lx (by decide +kernel) u
theorem c33_lx (u : List Nat) : lxB (0, []) (kTl 33 ++ u) = [t0 0] ++ lxB (0, []) u := con_lx (by decide +kernel) u
theorem c34_lx (u : List Nat) : lxB (0, []) (kTl 34 ++ u) = [t0 1] ++ lxB (0, []) u := con_lx (by decide +kernel) u
theorem c35_lx (u : List Nat) : lxB (0, []) (kTl 35 ++ u) = [t0 33] ++ lxB (0, []) u := con_lx (by decide +kernel) u
theorem c37_lx (u : List Nat) : lxB (0, []) (kTl 37 ++ u) = [t0 3] ++ lxB (0, []) u := con_lx (by decide +kernel) u
theorem c38_lx (u : List Nat) : lxB (0, []) (kTl 38 ++ u) = [t0 4] ++ lxB (0, []) u := con_lx (by decide +kernel) u
theorem c39_lx (u : List Nat) : lxB (0, []) (kTl 39 ++ u) = [t0 33] ++ lxB (0, []) u := con_lx (by decide +kernel) u
theorem c40_lx (u : List Nat) : lxB (0, []) (kTl 40 ++ u) = [t0 8] ++ lxB (0, []) u := con_lx (by decide +kernel) u
theorem c41_lx (u : List Nat) : lxB (0, []) (kTl 41 ++ u) = [t0 34] ++ lxB (0, []) u := con_lx (by decide +kernel) u
theorem c45_lx (u : List Nat) : lxB (0, []) (kTl 45 ++ u) = [t0 9] ++ lxB (0, []) u := con_lx (by decide +kernel) u
theorem c47_lx (u : List Nat) : lxB (0, []) (kTl 47 ++ u) = [t0 11] ++ lxB (0, []) u := con_lx (by decide +kernel) u
theorem c48_lx (u : List Nat) : lxB (0, []) (kTl 48 ++ u) = [t0 12] ++ lxB (0, []) u := con_lx (by decide +kernel) u
theorem c49_lx (u : List Nat) : lxB (0, []) (kTl 49 ++ u) = [t0 13] ++ lxB (0, []) u := con_lx (by decide +kernel) u
theorem c51_lx (u : List Nat) : lxB (0, []) (kTl 51 ++ u) = [t0 14] ++ lxB (0, []) u := con_lx (by decide +kernel) u
theorem and_lx (u : List Nat) : lxB (0, []) (kTl 29 ++ (kTl 31 ++ (kTl 30 ++ u))) = [t0 32, t0 25, t0 31] ++ lxB (0, []) u := by
  have := con_lx (w := kTl 29 ++ kTl 31 ++ kTl 30) (ts := [t0 32, t0 25, t0 31]) (by decide +kernel) u
  simp only [List.append_assoc] at this
  exact this
theorem or_lx (u : List Nat) : lxB (0, []) (kTl 29 ++ (kTl 32 ++ (kTl 30 ++ u))) = [t0 32, t0 26, t0 31] ++ lxB (0, []) u := by
  have := con_lx (w := kTl 29 ++ kTl 32 ++ kTl 30) (ts := [t0 32, t0 26, t0 31]) (by decide +kernel) u
  simp only [List.append_assoc] at this
  exact this
theorem spr_lx (u : List Nat) : lxB (0, []) (kTl 42 ++ (kTl 40 ++ u)) = [t0 7, t0 8] ++ lxB (0, []) u := by
  have := con_lx (w := kTl 42 ++ kTl 40) (ts := [t0 7, t0 8]) (by decide +kernel) u
  simp only [List.append_assoc] at this
  exact this
theorem coi_lx (u : List Nat) : lxB (0, []) (kTl 43 ++ (kTl 40 ++ u)) = [t0 5, t0 8] ++ lxB (0, []) u := by
  have := con_lx (w := kTl 43 ++ kTl 40) (ts := [t0 5, t0 8]) (by decide +kernel) u
  simp only [List.append_assoc] at this
  exact this
theorem cru_lx (u : List Nat) : lxB (0, []) (kTl 44 ++ (kTl 40 ++ u)) = [t0 6, t0 8] ++ lxB (0, []) u := by
  have := con_lx (w := kTl 44 ++ kTl 40) (ts := [t0 6, t0 8]) (by decide +kernel) u
  simp only [List.append_assoc] at this
  exact this
theorem fst0_lx (u : List Nat) : lxB (0, []) (kTl 7 ++ (decL 0 ++ (kTl 20 ++ u))) = [t0 19, t0 10, (44, 0, 556 + 0)] ++ lxB (0, []) u := by
  have := con_lx (w := kTl 7 ++ decL 0 ++ kTl 20) (ts := [t0 19, t0 10, (44, 0, 556 + 0)]) (by decide +kernel) u
  simp only [List.append_assoc] at this
  exact this
theorem fst1_lx (u : List Nat) : lxB (0, []) (kTl 7 ++ (decL 1 ++ (kTl 20 ++ u))) = [t0 19, t0 10, (44, 0, 556 + 1)] ++ lxB (0, []) u := by
  have := con_lx (w := kTl 7 ++ decL 1 ++ kTl 20) (ts := [t0 19, t0 10, (44, 0, 556 + 1)]) (by decide +kernel) u
  simp only [List.append_assoc] at this
  exact this
theorem fst2_lx (u : List Nat) : lxB (0, []) (kTl 7 ++ (decL 2 ++ (kTl 20 ++ u))) = [t0 19, t0 10, (44, 0, 556 + 2)] ++ lxB (0, []) u := by
  have := con_lx (w := kTl 7 ++ decL 2 ++ kTl 20) (ts := [t0 19, t0 10, (44, 0, 556 + 2)]) (by decide +kernel) u
  simp only [List.append_assoc] at this
  exact this
theorem fst_lx {n : Nat} (h : n < 3) (u : List Nat) : lxB (0, []) (kTl 7 ++ (decL n ++ (kTl 20 ++ u))) = [t0 19, t0 10, (44, 0, 556 + n)] ++ lxB (0, []) u := by
  obtain rfl | rfl | rfl : n = 0 ∨ n = 1 ∨ n = 2 := by omega
  · exact fst0_lx u
  · exact fst1_lx u
  · exact fst2_lx u
theorem lst0_lx (u : List Nat) : lxB (0, []) (kTl 8 ++ (decL 0 ++ (kTl 20 ++ u))) = [t0 20, t0 10, (44, 0, 556 + 0)] ++ lxB (0, []) u := by
  have := con_lx (w := kTl 8 ++ decL 0 ++ kTl 20) (ts := [t0 20, t0 10, (44, 0, 556 + 0)]) (by decide +kernel) u
  simp only [List.append_assoc] at this
  exact this
theorem lst1_lx (u : List Nat) : lxB (0, []) (kTl 8 ++ (decL 1 ++ (kTl 20 ++ u))) = [t0 20, t0 10, (44, 0, 556 + 1)] ++ lxB (0, []) u := by
  have := con_lx (w := kTl 8 ++ decL 1 ++ kTl 20) (ts := [t0 20, t0 10, (44, 0, 556 + 1)]) (by decide +kernel) u
  simp only [List.append_assoc] at this
  exact this
theorem lst2_lx (u : List Nat) : lxB (0, []) (kTl 8 ++ (decL 2 ++ (kTl 20 ++ u))) = [t0 20, t0 10, (44, 0, 556 + 2)] ++ lxB (0, []) u := by
  have := con_lx (w := kTl 8 ++ decL 2 ++ kTl 20) (ts := [t0 20, t0 10, (44, 0, 556 + 2)]) (by decide +kernel) u
  simp only [List.append_assoc] at this
  exact this
theorem lst_lx {n : Nat} (h : n < 3) (u : List Nat) : lxB (0, []) (kTl 8 ++ (decL n ++ (kTl 20 ++ u))) = [t0 20, t0 10, (44, 0, 556 + n)] ++ lxB (0, []) u := by
  obtain rfl | rfl | rfl : n = 0 ∨ n = 1 ∨ n = 2 := by omega
  · exact lst0_lx u
  · exact lst1_lx u
  · exact lst2_lx u
theorem see0_lx (u : List Nat) : lxB (0, []) (kTl 26 ++ (decL 0 ++ (kTl 20 ++ u))) = [t0 22, (44, 0, 556 + 0)] ++ lxB (0, []) u := by
  have := con_lx (w := kTl 26 ++ decL 0 ++ kTl 20) (ts := [t0 22, (44, 0, 556 + 0)]) (by decide +kernel) u
  simp only [List.append_assoc] at this
  exact this
theorem see1_lx (u : List Nat) : lxB (0, []) (kTl 26 ++ (decL 1 ++ (kTl 20 ++ u))) = [t0 22, (44, 0, 556 + 1)] ++ lxB (0, []) u := by
  have := con_lx (w := kTl 26 ++ decL 1 ++ kTl 20) (ts := [t0 22, (44, 0, 556 + 1)]) (by decide +kernel) u
  simp only [List.append_assoc] at this
  exact this
theorem see2_lx (u : List Nat) : lxB (0, []) (kTl 26 ++ (decL 2 ++ (kTl 20 ++ u))) = [t0 22, (44, 0, 556 + 2)] ++ lxB (0, []) u := by
  have := con_lx (w := kTl 26 ++ decL 2 ++ kTl 20) (ts := [t0 22, (44, 0, 556 + 2)]) (by decide +kernel) u
  simp only [List.append_assoc] at this
  exact this
theorem see_lx {n : Nat} (h : n < 3) (u : List Nat) : lxB (0, []) (kTl 26 ++ (decL n ++ (kTl 20 ++ u))) = [t0 22, (44, 0, 556 + n)] ++ lxB (0, []) u := by
  obtain rfl | rfl | rfl : n = 0 ∨ n = 1 ∨ n = 2 := by omega
  · exact see0_lx u
  · exact see1_lx u
  · exact see2_lx u
theorem emp0_lx (u : List Nat) : lxB (0, []) (kTl 36 ++ (decL 0 ++ (kTl 37 ++ u))) = [t0 2, (44, 0, 556 + 0), t0 3] ++ lxB (0, []) u := by
  have := con_lx (w := kTl 36 ++ decL 0 ++ kTl 37) (ts := [t0 2, (44, 0, 556 + 0), t0 3]) (by decide +kernel) u
  simp only [List.append_assoc] at this
  exact this
theorem emp1_lx (u : List Nat) : lxB (0, []) (kTl 36 ++ (decL 1 ++ (kTl 37 ++ u))) = [t0 2, (44, 0, 556 + 1), t0 3] ++ lxB (0, []) u := by
  have := con_lx (w := kTl 36 ++ decL 1 ++ kTl 37) (ts := [t0 2, (44, 0, 556 + 1), t0 3]) (by decide +kernel) u
  simp only [List.append_assoc] at this
  exact this
theorem emp2_lx (u : List Nat) : lxB (0, []) (kTl 36 ++ (decL 2 ++ (kTl 37 ++ u))) = [t0 2, (44, 0, 556 + 2), t0 3] ++ lxB (0, []) u := by
  have := con_lx (w := kTl 36 ++ decL 2 ++ kTl 37) (ts := [t0 2, (44, 0, 556 + 2), t0 3]) (by decide +kernel) u
  simp only [List.append_assoc] at this
  exact this
theorem emp_lx {n : Nat} (h : n < 3) (u : List Nat) : lxB (0, []) (kTl 36 ++ (decL n ++ (kTl 37 ++ u))) = [t0 2, (44, 0, 556 + n), t0 3] ++ lxB (0, []) u := by
  obtain rfl | rfl | rfl : n = 0 ∨ n = 1 ∨ n = 2 := by omega
  · exact emp0_lx u
  · exact emp1_lx u
  · exact emp2_lx u
theorem ofe0_lx (u : List Nat) : lxB (0, []) (kTl 46 ++ (decL 0 ++ (kTl 35 ++ u))) = [t0 10, (44, 0, 556 + 0), t0 33] ++ lxB (0, []) u := by
  have := con_lx (w := kTl 46 ++ decL 0 ++ kTl 35) (ts := [t0 10, (44, 0, 556 + 0), t0 33]) (by decide +kernel) u
  simp only [List.append_assoc] at this
  exact this
theorem ofe1_lx (u : List Nat) : lxB (0, []) (kTl 46 ++ (decL 1 ++ (kTl 35 ++ u))) = [t0 10, (44, 0, 556 + 1), t0 33] ++ lxB (0, []) u := by
  have := con_lx (w := kTl 46 ++ decL 1 ++ kTl 35) (ts := [t0 10, (44, 0, 556 + 1), t0 33]) (by decide +kernel) u
  simp only [List.append_assoc] at this
  exact this
theorem ofe2_lx (u : List Nat) : lxB (0, []) (kTl 46 ++ (decL 2 ++ (kTl 35 ++ u))) = [t0 10, (44, 0, 556 + 2), t0 33] ++ lxB (0, []) u := by
  have := con_lx (w := kTl 46 ++ decL 2 ++ kTl 35) (ts := [t0 10, (44, 0, 556 + 2), t0 33]) (by decide +kernel) u
  simp only [List.append_assoc] at this
  exact this
theorem ofe_lx {n : Nat} (h : n < 3) (u : List Nat) : lxB (0, []) (kTl 46 ++ (decL n ++ (kTl 35 ++ u))) = [t0 10, (44, 0, 556 + n), t0 33] ++ lxB (0, []) u := by
  obtain rfl | rfl | rfl : n = 0 ∨ n = 1 ∨ n = 2 := by omega
  · exact ofe0_lx u
  · exact ofe1_lx u
  · exact ofe2_lx u
theorem lt_lx {v : List Nat} (h : ∃ c w, v = c :: w ∧ c ≠ 61) : lxB (0, []) (kTl 15 ++ v) = [t0 39] ++ lxB (0, []) v := by
  obtain ⟨c, w, rfl, hc⟩ := h
  have e : lx (0, []) (kTl 15) = ((3, [60]), []) := by decide +kernel
  rw [lxB_app, e]
  show [] ++ lxB (3, [60]) (c :: w) = _
  rw [List.nil_append, lxB_fin]
  · rfl
  · unfold lx1
    rw [if_neg (fun y => by cases y.1), if_neg (fun y => by cases y.1), if_neg (fun y => hc y.2)]
theorem gt_lx {v : List Nat} (h : ∃ c w, v = c :: w ∧ c ≠ 61) : lxB (0, []) (kTl 16 ++ v) = [t0 40] ++ lxB (0, []) v := by
  obtain ⟨c, w, rfl, hc⟩ := h
  have e : lx (0, []) (kTl 16) = ((3, [62]), []) := by decide +kernel
  rw [lxB_app, e]
  show [] ++ lxB (3, [62]) (c :: w) = _
  rw [List.nil_append, lxB_fin]
  · rfl
  · unfold lx1
    rw [if_neg (fun y => by cases y.1), if_neg (fun y => by cases y.1), if_neg (fun y => hc y.2)]
theorem b9 (u : List Nat) : brk (kTl 9 ++ u) := ⟨43, [] ++ u, by rw [kt9]; rfl, by decide +kernel⟩
theorem b10 (u : List Nat) : brk (kTl 10 ++ u) := ⟨45, [] ++ u, by rw [kt10]; rfl, by decide +kernel⟩
theorem b11 (u : List Nat) : brk (kTl 11 ++ u) := ⟨42, [] ++ u, by rw [kt11]; rfl, by decide +kernel⟩
theorem b12 (u : List Nat) : brk (kTl 12 ++ u) := ⟨47, [] ++ u, by rw [kt12]; rfl, by decide +kernel⟩
theorem b15 (u : List Nat) : brk (kTl 15 ++ u) := ⟨60, [] ++ u, by rw [kt15]; rfl, by decide +kernel⟩
theorem b16 (u : List Nat) : brk (kTl 16 ++ u) := ⟨62, [] ++ u, by rw [kt16]; rfl, by decide +kernel⟩
theorem b17 (u : List Nat) : brk (kTl 17 ++ u) := ⟨61, [] ++ u, by rw [kt17]; rfl, by decide +kernel⟩
theorem b18 (u : List Nat) : brk (kTl 18 ++ u) := ⟨60, [61] ++ u, by rw [kt18]; rfl, by decide +kernel⟩
theorem b19 (u : List Nat) : brk (kTl 19 ++ u) := ⟨62, [61] ++ u, by rw [kt19]; rfl, by decide +kernel⟩
theorem b20 (u : List Nat) : brk (kTl 20 ++ u) := ⟨32, [] ++ u, by rw [kt20]; rfl, by decide +kernel⟩
theorem b22 (u : List Nat) : brk (kTl 22 ++ u) := ⟨41, [] ++ u, by rw [kt22]; rfl, by decide +kernel⟩
theorem b23 (u : List Nat) : brk (kTl 23 ++ u) := ⟨45, [32, 40] ++ u, by rw [kt23]; rfl, by decide +kernel⟩
theorem b24 (u : List Nat) : brk (kTl 24 ++ u) := ⟨40, [] ++ u, by rw [kt24]; rfl, by decide +kernel⟩
theorem b25 (u : List Nat) : brk (kTl 25 ++ u) := ⟨44, [] ++ u, by rw [kt25]; rfl, by decide +kernel⟩
theorem b29 (u : List Nat) : brk (kTl 29 ++ u) := ⟨93, [] ++ u, by rw [kt29]; rfl, by decide +kernel⟩
theorem b30 (u : List Nat) : brk (kTl 30 ++ u) := ⟨91, [] ++ u, by rw [kt30]; rfl, by decide +kernel⟩
theorem b34 (u : List Nat) : brk (kTl 34 ++ u) := ⟨32, [108, 97, 121, 101, 114, 115, 32] ++ u, by rw [kt34]; rfl, by decide +kernel⟩
theorem b35 (u : List Nat) : brk (kTl 35 ++ u) := ⟨59, [10] ++ u, by rw [kt35]; rfl, by decide +kernel⟩
theorem b37 (u : List Nat) : brk (kTl 37 ++ u) := ⟨32, [102, 114, 111, 109, 32] ++ u, by rw [kt37]; rfl, by decide +kernel⟩
theorem b38 (u : List Nat) : brk (kTl 38 ++ u) := ⟨32, [116, 111, 32] ++ u, by rw [kt38]; rfl, by decide +kernel⟩
theorem b39 (u : List Nat) : brk (kTl 39 ++ u) := ⟨59, [] ++ u, by rw [kt39]; rfl, by decide +kernel⟩
theorem b40 (u : List Nat) : brk (kTl 40 ++ u) := ⟨32, [105, 110, 32] ++ u, by rw [kt40]; rfl, by decide +kernel⟩
theorem b41 (u : List Nat) : brk (kTl 41 ++ u) := ⟨44, [] ++ u, by rw [kt41]; rfl, by decide +kernel⟩
theorem b45 (u : List Nat) : brk (kTl 45 ++ u) := ⟨32, [121, 101, 97, 114, 32] ++ u, by rw [kt45]; rfl, by decide +kernel⟩
theorem b46 (u : List Nat) : brk (kTl 46 ++ u) := ⟨32, [111, 102, 32, 101] ++ u, by rw [kt46]; rfl, by decide +kernel⟩
theorem b51 (u : List Nat) : brk (kTl 51 ++ u) := ⟨32, [119, 104, 101, 110, 32] ++ u, by rw [kt51]; rfl, by decide +kernel⟩
theorem hd_txt {e : Nat} : ∀ {d : Nat} {x : Tr d} (u : List Nat), trW e d false x → ∃ c w, txT d x ++ u = c :: w ∧ c ≠ 61 := by
  intro d x u h
  cases d with
  | zero => exact h.elim
  | succ d =>
    have w1 := h.1
    rw [if_neg (by decide)] at w1
    rcases k_sums w1 with h | h | h | h | h | h | h | h | h | h | h | h | h | h | h
    · rw [tx_0 h, kt2]
      have hl : (decL (trN x)).length = sb_dg (trN x) := decL_len _
      have hm : ∀ c, c ∈ decL (trN x) → 48 ≤ c ∧ c ≤ 57 := fun c h => dec_dg h
      have h1 := (sb_dg_in (trN x)).1
      generalize decL (trN x) = l at hl hm ⊢
      cases l with
      | nil => simp at hl; omega
      | cons c ds =>
        have hc := hm c List.mem_cons_self
        exact ⟨c, ds ++ u, rfl, by omega⟩
    · rw [tx_1 h, kt3]
      exact ⟨100, _, rfl, by decide⟩
    · rw [tx_2 h, kt4]
      exact ⟨102, _, rfl, by decide⟩
    · rw [tx_3 h, kt5]
      exact ⟨115, _, rfl, by decide⟩
    · rw [tx_4 h, kt6]
      exact ⟨112, _, rfl, by decide⟩
    · rw [tx_5 h, kt7]
      exact ⟨102, _, rfl, by decide⟩
    · rw [tx_6 h, kt8]
      exact ⟨108, _, rfl, by decide⟩
    · rw [tx_7 h, kt21]
      exact ⟨104, _, rfl, by decide⟩
    · rw [tx_8 h, kt23]
      exact ⟨45, _, rfl, by decide⟩
    · rw [tx_9 h, kt24]
      exact ⟨40, _, rfl, by decide⟩
    · rw [tx_10 h, kt24]
      exact ⟨40, _, rfl, by decide⟩
    · rw [tx_11 h, kt24]
      exact ⟨40, _, rfl, by decide⟩
    · rw [tx_12 h, kt24]
      exact ⟨40, _, rfl, by decide⟩
    · rw [tx_13 h, kt13]
      exact ⟨109, _, rfl, by decide⟩
    · rw [tx_14 h, kt14]
      exact ⟨109, _, rfl, by decide⟩
theorem lx_tree {e : Nat} (he : e ≤ 3) : ∀ (d : Nat) (b : Bool) (x : Tr d) (u : List Nat), trW e d b x → brk u → lxB (0, []) (txT d x ++ u) = tkT d x ++ lxB (0, []) u := by
  intro d
  induction d with
  | zero => intro b x u h; exact h.elim
  | succ d ih =>
    intro b x u h hu
    obtain ⟨w1, w2, w3, w4, w5⟩ := h
    have hk : trQ x ≤ 14 ∨ (20 ≤ trQ x ∧ trQ x ≤ 31 ∧ trQ x ≠ 27 ∧ trQ x ≠ 28) := by
      cases b
      · rw [if_neg (by decide)] at w1; exact Or.inl w1
      · rw [if_pos rfl] at w1; exact Or.inr w1
    rcases hk with hk | hk
    · rcases k_sums hk with h | h | h | h | h | h | h | h | h | h | h | h | h | h | h
      · have eq : trQ x = 0 := h
        rw [tx_0 eq, (tk_0 eq).1]
        simp only [List.append_assoc, List.nil_append]
        rw [kt2, List.nil_append, num_lx w2 hu]
        rfl
      · have eq : trQ x = 1 := h
        rw [tx_1 eq, (tk_1 eq).1]
        rw [c3_lx]
      · have eq : trQ x = 2 := h
        rw [tx_2 eq, (tk_2 eq).1]
        rw [c4_lx]
      · have eq : trQ x = 3 := h
        rw [tx_3 eq, (tk_3 eq).1]
        rw [c5_lx]
      · have eq : trQ x = 4 := h
        rw [tx_4 eq, (tk_4 eq).1]
        rw [c6_lx]
      · have eq : trQ x = 5 := h
        have n3 := w3 (by omega)
        rw [tx_5 eq, (tk_5 eq).1]
        simp only [List.append_assoc, List.nil_append]
        rw [fst_lx (by omega)]
      · have eq : trQ x = 6 := h
        have n3 := w3 (by omega)
        rw [tx_6 eq, (tk_6 eq).1]
        simp only [List.append_assoc, List.nil_append]
        rw [lst_lx (by omega)]
      · have eq : trQ x = 7 := h
        have hA : knA (trQ x) := by rw [eq]; exact ⟨by decide, by decide⟩
        rw [tx_7 eq, (tk_7 eq).1]
        simp only [List.append_assoc, List.nil_append]
        rw [c21_lx]
        rw [ih _ _ _ (w4 hA) (b22 _)]
        rw [c22_lx]
        simp only [pT, bT, qT, t0, List.cons_append, List.append_assoc, List.nil_append]
      · have eq : trQ x = 8 := h
        have hA : knA (trQ x) := by rw [eq]; exact ⟨by decide, by decide⟩
        rw [tx_8 eq, (tk_8 eq).1]
        simp only [List.append_assoc, List.nil_append]
        rw [c23_lx]
        rw [ih _ _ _ (w4 hA) (b22 _)]
        rw [c22_lx]
        simp only [pT, bT, qT, t0, List.cons_append, List.append_assoc, List.nil_append]
      · have eq : trQ x = 9 := h
        have hA : knA (trQ x) := by rw [eq]; exact ⟨by decide, by decide⟩
        have hB : knB (trQ x) := by rw [eq]; exact ⟨by decide, by decide, by decide, by decide⟩
        rw [tx_9 eq, (tk_9 eq).1]
        simp only [List.append_assoc, List.nil_append]
        rw [c24_lx]
        rw [ih _ _ _ (w4 hA) (b22 _)]
        rw [c22_lx]
        rw [c9_lx]
        rw [c24_lx]
        rw [ih _ _ _ (w5 hB) (b22 _)]
        rw [c22_lx]
        simp only [pT, bT, qT, t0, List.cons_append, List.append_assoc, List.nil_append]
      · have eq : trQ x = 10 := h
        have hA : knA (trQ x) := by rw [eq]; exact ⟨by decide, by decide⟩
        have hB : knB (trQ x) := by rw [eq]; exact ⟨by decide, by decide, by decide, by decide⟩
        rw [tx_10 eq, (tk_10 eq).1]
        simp only [List.append_assoc, List.nil_append]
        rw [c24_lx]
        rw [ih _ _ _ (w4 hA) (b22 _)]
        rw [c22_lx]
        rw [c10_lx]
        rw [c24_lx]
        rw [ih _ _ _ (w5 hB) (b22 _)]
        rw [c22_lx]
        simp only [pT, bT, qT, t0, List.cons_append, List.append_assoc, List.nil_append]
      · have eq : trQ x = 11 := h
        have hA : knA (trQ x) := by rw [eq]; exact ⟨by decide, by decide⟩
        have hB : knB (trQ x) := by rw [eq]; exact ⟨by decide, by decide, by decide, by decide⟩
        rw [tx_11 eq, (tk_11 eq).1]
        simp only [List.append_assoc, List.nil_append]
        rw [c24_lx]
        rw [ih _ _ _ (w4 hA) (b22 _)]
        rw [c22_lx]
        rw [c11_lx]
        rw [c24_lx]
        rw [ih _ _ _ (w5 hB) (b22 _)]
        rw [c22_lx]
        simp only [pT, bT, qT, t0, List.cons_append, List.append_assoc, List.nil_append]
      · have eq : trQ x = 12 := h
        have hA : knA (trQ x) := by rw [eq]; exact ⟨by decide, by decide⟩
        have hB : knB (trQ x) := by rw [eq]; exact ⟨by decide, by decide, by decide, by decide⟩
        rw [tx_12 eq, (tk_12 eq).1]
        simp only [List.append_assoc, List.nil_append]
        rw [c24_lx]
        rw [ih _ _ _ (w4 hA) (b22 _)]
        rw [c22_lx]
        rw [c12_lx]
        rw [c24_lx]
        rw [ih _ _ _ (w5 hB) (b22 _)]
        rw [c22_lx]
        simp only [pT, bT, qT, t0, List.cons_append, List.append_assoc, List.nil_append]
      · have eq : trQ x = 13 := h
        have hA : knA (trQ x) := by rw [eq]; exact ⟨by decide, by decide⟩
        have hB : knB (trQ x) := by rw [eq]; exact ⟨by decide, by decide, by decide, by decide⟩
        rw [tx_13 eq, (tk_13 eq).1]
        simp only [List.append_assoc, List.nil_append]
        rw [c13_lx]
        rw [ih _ _ _ (w4 hA) (b25 _)]
        rw [c25_lx]
        rw [ih _ _ _ (w5 hB) (b22 _)]
        rw [c22_lx]
        simp only [pT, bT, qT, t0, List.cons_append, List.append_assoc, List.nil_append]
      · have eq : trQ x = 14 := h
        have hA : knA (trQ x) := by rw [eq]; exact ⟨by decide, by decide⟩
        have hB : knB (trQ x) := by rw [eq]; exact ⟨by decide, by decide, by decide, by decide⟩
        rw [tx_14 eq, (tk_14 eq).1]
        simp only [List.append_assoc, List.nil_append]
        rw [c14_lx]
        rw [ih _ _ _ (w4 hA) (b25 _)]
        rw [c25_lx]
        rw [ih _ _ _ (w5 hB) (b22 _)]
        rw [c22_lx]
        simp only [pT, bT, qT, t0, List.cons_append, List.append_assoc, List.nil_append]
    · rcases k_tests hk with h | h | h | h | h | h | h | h | h | h
      · have eq : trQ x = 20 := h
        have hA : knA (trQ x) := by rw [eq]; exact ⟨by decide, by decide⟩
        have hB : knB (trQ x) := by rw [eq]; exact ⟨by decide, by decide, by decide, by decide⟩
        rw [tx_20 eq, (tk_20 eq).1]
        simp only [List.append_assoc, List.nil_append]
        rw [ih _ _ _ (w4 hA) (b15 _)]
        rw [lt_lx (by have d29 : decide (29 ≤ trQ x) = false := (by rw [eq]; rfl); have hb := w5 hB; rw [d29] at hb; exact hd_txt u hb)]
        rw [ih _ _ _ (w5 hB) hu]
        simp only [pT, bT, qT, t0, List.cons_append, List.append_assoc, List.nil_append]
      · have eq : trQ x = 21 := h
        have hA : knA (trQ x) := by rw [eq]; exact ⟨by decide, by decide⟩
        have hB : knB (trQ x) := by rw [eq]; exact ⟨by decide, by decide, by decide, by decide⟩
        rw [tx_21 eq, (tk_21 eq).1]
        simp only [List.append_assoc, List.nil_append]
        rw [ih _ _ _ (w4 hA) (b16 _)]
        rw [gt_lx (by have d29 : decide (29 ≤ trQ x) = false := (by rw [eq]; rfl); have hb := w5 hB; rw [d29] at hb; exact hd_txt u hb)]
        rw [ih _ _ _ (w5 hB) hu]
        simp only [pT, bT, qT, t0, List.cons_append, List.append_assoc, List.nil_append]
      · have eq : trQ x = 22 := h
        have hA : knA (trQ x) := by rw [eq]; exact ⟨by decide, by decide⟩
        have hB : knB (trQ x) := by rw [eq]; exact ⟨by decide, by decide, by decide, by decide⟩
        rw [tx_22 eq, (tk_22 eq).1]
        simp only [List.append_assoc, List.nil_append]
        rw [ih _ _ _ (w4 hA) (b17 _)]
        rw [c17_lx]
        rw [ih _ _ _ (w5 hB) hu]
        simp only [pT, bT, qT, t0, List.cons_append, List.append_assoc, List.nil_append]
      · have eq : trQ x = 23 := h
        have hA : knA (trQ x) := by rw [eq]; exact ⟨by decide, by decide⟩
        have hB : knB (trQ x) := by rw [eq]; exact ⟨by decide, by decide, by decide, by decide⟩
        rw [tx_23 eq, (tk_23 eq).1]
        simp only [List.append_assoc, List.nil_append]
        rw [ih _ _ _ (w4 hA) (b18 _)]
        rw [c18_lx]
        rw [ih _ _ _ (w5 hB) hu]
        simp only [pT, bT, qT, t0, List.cons_append, List.append_assoc, List.nil_append]
      · have eq : trQ x = 24 := h
        have hA : knA (trQ x) := by rw [eq]; exact ⟨by decide, by decide⟩
        have hB : knB (trQ x) := by rw [eq]; exact ⟨by decide, by decide, by decide, by decide⟩
        rw [tx_24 eq, (tk_24 eq).1]
        simp only [List.append_assoc, List.nil_append]
        rw [ih _ _ _ (w4 hA) (b19 _)]
        rw [c19_lx]
        rw [ih _ _ _ (w5 hB) hu]
        simp only [pT, bT, qT, t0, List.cons_append, List.append_assoc, List.nil_append]
      · have eq : trQ x = 25 := h
        have n3 := w3 (by omega)
        rw [tx_25 eq, (tk_25 eq).1]
        simp only [List.append_assoc, List.nil_append]
        rw [see_lx (by omega)]
      · have eq : trQ x = 26 := h
        have hA : knA (trQ x) := by rw [eq]; exact ⟨by decide, by decide⟩
        rw [tx_26 eq, (tk_26 eq).1]
        simp only [List.append_assoc, List.nil_append]
        rw [c27_lx]
        rw [ih _ _ _ (w4 hA) hu]
        simp only [pT, bT, qT, t0, List.cons_append, List.append_assoc, List.nil_append]
      · have eq : trQ x = 29 := h
        have hA : knA (trQ x) := by rw [eq]; exact ⟨by decide, by decide⟩
        rw [tx_29 eq, (tk_29 eq).1]
        simp only [List.append_assoc, List.nil_append]
        rw [c28_lx]
        rw [ih _ _ _ (w4 hA) (b29 _)]
        rw [c29_lx]
        simp only [pT, bT, qT, t0, List.cons_append, List.append_assoc, List.nil_append]
      · have eq : trQ x = 30 := h
        have hA : knA (trQ x) := by rw [eq]; exact ⟨by decide, by decide⟩
        have hB : knB (trQ x) := by rw [eq]; exact ⟨by decide, by decide, by decide, by decide⟩
        rw [tx_30 eq, (tk_30 eq).1]
        simp only [List.append_assoc, List.nil_append]
        rw [c30_lx]
        rw [ih _ _ _ (w4 hA) (b29 _)]
        rw [and_lx]
        rw [ih _ _ _ (w5 hB) (b29 _)]
        rw [c29_lx]
        simp only [pT, bT, qT, t0, List.cons_append, List.append_assoc, List.nil_append]
      · have eq : trQ x = 31 := h
        have hA : knA (trQ x) := by rw [eq]; exact ⟨by decide, by decide⟩
        have hB : knB (trQ x) := by rw [eq]; exact ⟨by decide, by decide, by decide, by decide⟩
        rw [tx_31 eq, (tk_31 eq).1]
        simp only [List.append_assoc, List.nil_append]
        rw [c30_lx]
        rw [ih _ _ _ (w4 hA) (b29 _)]
        rw [or_lx]
        rw [ih _ _ _ (w5 hB) (b29 _)]
        rw [c29_lx]
        simp only [pT, bT, qT, t0, List.cons_append, List.append_assoc, List.nil_append]
