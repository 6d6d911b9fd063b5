/-! doubles: a mean of ints is a number, equal to itself -/
theorem fp_t : FP.Core.b64.tails = 4503599627370496 := by decide +kernel
theorem fp_e : FP.Core.b64.exps = 2048 := by decide +kernel
theorem fp_p : (2 : Nat) ^ FP.Core.b64.p = 9007199254740992 := by decide +kernel
theorem fp_qn : FP.Core.b64.qmin = -1074 := by decide +kernel
theorem fp_qx : FP.Core.b64.qmax = 971 := by decide +kernel
/-- a number as the format has it, or an infinity -/
def okF (d : FP.Core.Datum) : Prop := match d with | .nan => False | .inf _ => True | .fin _ c q => c < 9007199254740992 ∧ q ≤ 971
theorem ok_bound {s : Bool} {c : Nat} {q : Int} (hc : c < 9007199254740992) : okF (FP.Core.bound FP.Core.b64 s c q) := by
  unfold FP.Core.bound
  rw [fp_qx]
  by_cases h : q ≤ 971
  · rw [if_pos h]; exact ⟨hc, h⟩
  · rw [if_neg h]; trivial
theorem ok_settle {s : Bool} {c : Nat} {q : Int} : okF (FP.Core.settle FP.Core.b64 s c q) := by
  unfold FP.Core.settle
  rw [fp_p]
  by_cases h : c < 9007199254740992
  · rw [if_pos h]; exact ok_bound h
  · rw [if_neg h]; exact ok_bound (by rw [fp_t]; decide)
theorem ok_ratio {s : Bool} {n d : Nat} {e : Int} : okF (FP.Core.roundRatio FP.Core.b64 s n d e) := by
  unfold FP.Core.roundRatio
  by_cases h : n = 0
  · rw [if_pos h]
    exact ⟨by decide, by rw [fp_qn]; decide⟩
  · rw [if_neg h]
    exact ok_settle
/-- the low 63 bits of what is encoded -/
theorem enc_low {d : FP.Core.Datum} (h : okF d) : FP.Core.encode FP.Core.b64 d % 9223372036854775808 ≤ 9218868437227405312 ∧ FP.Core.encode FP.Core.b64 d < 18446744073709551616 ∧ (∀ s c q, d = .fin s c q → FP.Core.encode FP.Core.b64 d % 9223372036854775808 < 9218868437227405312) := by
  cases d with
  | nan => exact h.elim
  | inf s =>
    unfold FP.Core.encode FP.Core.assemble
    rw [fp_e, fp_t]
    refine ⟨?_, ?_, fun s c q z => by cases z⟩ <;> cases s <;> decide
  | fin s c q =>
    obtain ⟨hc, hq⟩ := h
    unfold FP.Core.encode FP.Core.assemble
    rw [fp_t, fp_e, fp_qn]
    dsimp only
    by_cases z : c < 4503599627370496
    · rw [if_pos z]
      refine ⟨?_, ?_, fun _ _ _ _ => ?_⟩
      · cases s <;> simp only [Bool.toNat_false, Bool.toNat_true] <;> omega
      · cases s <;> simp only [Bool.toNat_false, Bool.toNat_true] <;> omega
      · cases s <;> simp only [Bool.toNat_false, Bool.toNat_true] <;> omega
    · rw [if_neg z]
      refine ⟨?_, ?_, fun _ _ _ _ => ?_⟩
      · cases s <;> simp only [Bool.toNat_false, Bool.toNat_true] <;> omega
      · cases s <;> simp only [Bool.toNat_false, Bool.toNat_true] <;> omega
      · cases s <;> simp only [Bool.toNat_false, Bool.toNat_true] <;> omega
theorem dec_low {n : Nat} (h : n % 9223372036854775808 ≤ 9218868437227405312) : FP.Core.decode FP.Core.b64 n ≠ .nan := by
  unfold FP.Core.decode FP.Core.fieldE FP.Core.fieldT
  rw [fp_t, fp_e]
  by_cases z : n / 4503599627370496 % 2048 = 2048 - 1
  · rw [if_pos z, if_pos (by omega)]
    exact fun w => by cases w
  · rw [if_neg z]
    by_cases y : n / 4503599627370496 % 2048 = 0
    · rw [if_pos y]; exact fun w => by cases w
    · rw [if_neg y]; exact fun w => by cases w
theorem dec_fin {n : Nat} (h : n % 9223372036854775808 < 9218868437227405312) : ∃ s c q, FP.Core.decode FP.Core.b64 n = .fin s c q := by
  unfold FP.Core.decode FP.Core.fieldE
  rw [fp_t, fp_e]
  have z : ¬ n / 4503599627370496 % 2048 = 2048 - 1 := by omega
  rw [if_neg z]
  by_cases y : n / 4503599627370496 % 2048 = 0
  · rw [if_pos y]; exact ⟨_, _, _, rfl⟩
  · rw [if_neg y]; exact ⟨_, _, _, rfl⟩
theorem i2d_fin (y : Int32) : ∃ s c q, FP.Core.decode FP.Core.b64 (FP.i2d y).toNat = .fin s c q := by
  have h0 : ∃ s c q, FP.Core.round FP.Core.b64 (FP.Core.ofInt y.toInt) = .fin s c q ∧ okF (.fin s c q) := by
    unfold FP.Core.ofInt FP.Core.round
    have hr := fb_rng y
    have hok := ok_ratio (s := decide (y.toInt < 0)) (n := y.toInt.natAbs) (d := 1) (e := 0)
    rcases e : FP.Core.roundRatio FP.Core.b64 (decide (y.toInt < 0)) y.toInt.natAbs 1 0 with _ | s | ⟨s, c, q⟩
    · rw [e] at hok; exact hok.elim
    · exfalso
      unfold FP.Core.roundRatio at e
      by_cases z : y.toInt.natAbs = 0
      · rw [if_pos z] at e; cases e
      · rw [if_neg z] at e
        have hlog : y.toInt.natAbs.log2 < 32 := (Nat.log2_lt z).mpr (by omega)
        have hlead : FP.Core.leading y.toInt.natAbs 1 ≤ 31 := by
          unfold FP.Core.leading
          have : (1 : Nat).log2 = 0 := by decide
          rw [this]
          dsimp only
          split <;> omega
        have hq : FP.Core.quantum FP.Core.b64 y.toInt.natAbs 1 0 ≤ 0 := by
          unfold FP.Core.quantum
          rw [fp_qn]
          have : (FP.Core.b64.p : Int) = 53 := by decide +kernel
          rw [this]
          omega
        unfold FP.Core.roundAt FP.Core.settle at e
        rw [fp_p] at e
        unfold FP.Core.bound at e
        rw [fp_qx] at e
        split at e
        · rw [if_pos (by omega)] at e; cases e
        · rw [if_pos (by omega)] at e; cases e
    · rw [e] at hok
      exact ⟨s, c, q, e, hok⟩
  obtain ⟨s, c, q, h1, h2⟩ := h0
  have h3 := (enc_low h2).2.2 s c q rfl
  have h4 := (enc_low h2).2.1
  apply dec_fin
  show (UInt64.ofNat (FP.Core.fromInt FP.Core.b64 y.toInt)).toNat % _ < _
  unfold FP.Core.fromInt
  rw [h1]
  have h5 : (UInt64.ofNat (FP.Core.encode FP.Core.b64 (.fin s c q))).toNat = FP.Core.encode FP.Core.b64 (.fin s c q) := UInt64.toNat_ofNat_of_lt' (by simpa using h4)
  rw [h5]
  exact h3
set_option maxRecDepth 20000 in
theorem i2d_small : ∀ c : Fin 25, c.val ≠ 0 → (match FP.Core.decode FP.Core.b64 (FP.i2d (nI c.val)).toNat with | .fin _ d _ => decide (d ≠ 0) | _ => false) = true := by decide +kernel
theorem ddiv_ok (y : Int32) {c : Nat} (hc : c < 25) (h0 : c ≠ 0) : (FP.ddiv (FP.i2d y) (FP.i2d (nI c))).toNat % 9223372036854775808 ≤ 9218868437227405312 := by
  obtain ⟨s, m, q, h1⟩ := i2d_fin y
  have h2 := i2d_small ⟨c, hc⟩ h0
  show (UInt64.ofNat (FP.Core.div FP.Core.b64 (FP.i2d y).toNat (FP.i2d (nI c)).toNat)).toNat % _ ≤ _
  unfold FP.Core.div
  rw [h1]
  rcases e : FP.Core.decode FP.Core.b64 (FP.i2d (nI c)).toNat with _ | s2 | ⟨s2, d, r⟩
  · rw [e] at h2; cases h2
  · rw [e] at h2; cases h2
  · rw [e] at h2
    have hd : d ≠ 0 := of_decide_eq_true h2
    have h3 : okF (FP.Core.quotient FP.Core.b64 (.fin s m q) (.fin s2 d r)) := by
      unfold FP.Core.quotient
      dsimp only
      rw [if_neg hd]
      exact ok_ratio
    have h4 := enc_low h3
    have h5 : (UInt64.ofNat (FP.Core.encode FP.Core.b64 (FP.Core.quotient FP.Core.b64 (.fin s m q) (.fin s2 d r)))).toNat = FP.Core.encode FP.Core.b64 (FP.Core.quotient FP.Core.b64 (.fin s m q) (.fin s2 d r)) := UInt64.toNat_ofNat_of_lt' (by simpa using h4.2.1)
    rw [h5]
    exact h4.1
theorem n64_of {r : UInt64} (h : r.toNat % 9223372036854775808 ≤ 9218868437227405312) : vf_n64 r := by
  unfold vf_n64
  rw [UInt64.le_iff_toNat_le, UInt64.toNat_and]
  have e : (0x7fffffffffffffff : UInt64).toNat = 2 ^ 63 - 1 := rfl
  rw [e, Nat.and_two_pow_sub_one_eq_mod]
  exact h
theorem dcmp_same {r : UInt64} (h : r.toNat % 9223372036854775808 ≤ 9218868437227405312) : FP.dcmp r r = some .eq := by
  have hn := dec_low h
  show FP.Core.order (FP.Core.decode FP.Core.b64 r.toNat) (FP.Core.decode FP.Core.b64 r.toNat) = some .eq
  rcases e : FP.Core.decode FP.Core.b64 r.toNat with _ | s | ⟨s, c, q⟩
  · exact absurd e hn
  · unfold FP.Core.order
    exact congrArg some (by simp [compare, compareOfLessAndEq])
  · unfold FP.Core.order
    exact congrArg some (by simp [compare, compareOfLessAndEq])
