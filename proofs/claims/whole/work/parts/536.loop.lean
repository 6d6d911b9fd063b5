/-! the law's loop -/
theorem sub6 {L i : Nat} (hL : L ≤ 3072) (hi : i ≤ L) : (nI L - 6 < nI i) ↔ L < i + 6 := by
  rcases Nat.lt_or_ge L 6 with h | h
  · have hz : ∀ L, L < 6 → (nI L - 6).toInt < 0 := by decide
    have h1 := hz L h
    rw [fa_lt, nI_toInt (n := i) (by omega)]
    omega
  · rw [show (6 : Int32) = nI 6 from rfl, pk_sub h, nI_ltI (by omega) (by omega)]
    omega
section LOOP
variable {Lx : Nat} {xs : Nat → Int32}
set_option maxRecDepth 100000 in
set_option maxHeartbeats 16000000 in
theorem law_loop (hL : Lx ≤ 3072) : ∀ (n i : Nat), i ≤ Lx → Lx < i + 6 * n → HK (wL_law_23 Lx xs n) (nI i)
  | 0, i, h1, h2 => absurd h2 (by omega)
  | n + 1, i, h1, h2 => by
    intro aT aU aQ D_errorPlace A_length A_bytes N_count N_next N_kinds N_starts N_numbers N_names R_at R_kind R_error R_errorStart T_seats T_strata T_empires T_finds T_names T_froms T_tos T_coins T_cushions T_details T_findsIn T_springsIn P_orders P_steps P_kinds P_sumEnds P_testEnds P_stepKinds P_stepDetails U_seats U_strata U_empires U_finds U_names U_froms U_tos U_coins U_cushions U_details U_findsIn U_springsIn V_orders V_steps V_kinds V_sumEnds V_testEnds V_stepKinds V_stepDetails L_piled L_pile S_days S_carriedOut S_dug S_slid S_foundCount S_sureCount S_propCount S_stacks S_heights S_loose S_propped S_foundOnes S_sureOnes O_days O_carriedOut O_dug O_slid O_foundCount O_sureCount O_propCount O_stacks O_heights O_loose O_propped O_foundOnes O_sureOnes M_thrown M_size M_errorAt M_token M_depth M_ordersRead M_isSpring M_itsSeat M_tape M_kind M_from M_means M_value M_who M_now M_kept M_stack Q_seats Q_strata Q_empires Q_finds Q_orders Q_many Q_empire Q_begin Q_end Q_isCoin Q_cushion Q_what Q_find Q_spring Q_does Q_begins Q_ends Q_order Q_with W_a O_told hI
    unfold wL_law_23
    by_cases h : Lx < i + 6
    · exact ⟨fun _ => trivial, fun z => absurd ((sub6 hL h1).mpr h) z⟩
    · have hx : ∀ j, j < 6 → vp_in (nI i + nI j) Lx := fun j hj => by
        rw [nI_add]
        exact vp_in_nI (by omega) (by omega)
      have hK : HK (wL_law_23 Lx xs n) (nI i + 6) := by
        rw [show (6 : Int32) = nI 6 from rfl, nI_add]
        exact law_loop hL n (i + 6) (by omega) (by omega)
      refine ⟨fun z => absurd ((sub6 hL h1).mp z) h, fun _ => ⟨vp_in_nI (by omega) (by omega), ?_⟩⟩
      exact ⟨fun _ => lw_216 hI hx hK, fun _ => lw_320 hI hx hK, fun _ => lw_376 hI hx hK, fun _ => lw_389 hI hx hK, fun _ => lw_402 hI hx hK, fun _ => lw_415 hI hx hK, fun _ => lw_428 hI hx hK, fun _ => lw_441 hI hx hK, fun _ => lw_454 hI hx hK, fun _ => lw_467 hI hx hK, fun _ => lw_480 hI hx hK, fun _ => lw_493 hI hx hK, fun _ => lw_506 hI hx hK, fun _ => lw_519 hI hx hK, fun _ => lw_532 hI hx hK, fun _ => lw_588 hI hx hK, fun _ => lw_651 hI hx hK, fun _ => lw_707 hI hx hK, fun _ => lw_770 hI hx hK, fun _ => lw_833 hI hx hK, fun _ => lw_889 hI hx hK, fun _ => lw_952 hI hx hK, fun _ => lw_1015 hI hx hK, fun _ => lw_1078 hI hx hK, fun _ => lw_1134 hI hx hK, fun _ => lw_1190 hI hx hK, fun _ => lw_1246 hI hx hK, fun _ => lw_1302 hI hx hK, fun _ => lw_1358 hI hx hK, fun _ => lw_1433 hI hx hK, fun _ => lw_1496 hI hx hK, fun _ => lw_1552 hI hx hK, fun _ => lw_1608 hI hx hK, fun _ => lw_1664 hI hx hK, fun _ => lw_1720 hI hx hK, fun _ => lw_1776 hI hx hK, fun _ => lw_1832 hI hx hK, fun _ => lw_1888 hI hx hK, fun _ => lw_1901 hI hx hK, fun _ => lw_1942 hI hx hK, fun _ _ _ _ _ _ _ _ _ _ _ _ _ _ _ _ _ _ _ _ _ _ _ _ _ _ _ _ _ _ _ _ _ _ _ _ _ _ _ _ => hK _ _ _ _ _ _ _ _ _ _ _ _ _ _ _ _ _ _ _ _ _ _ _ _ _ _ _ _ _ _ _ _ _ _ _ _ _ _ _ _ _ _ _ _ _ _ _ _ _ _ _ _ _ _ _ _ _ _ _ _ _ _ _ _ _ _ _ _ _ _ _ _ _ _ _ _ _ _ _ _ _ _ _ _ _ _ _ _ _ _ _ _ _ _ _ _ _ _ _ _ _ _ _ _ _ _ _ _ _ _ _ _ _ _ _ _ _ _ _ _ hI⟩
end LOOP
