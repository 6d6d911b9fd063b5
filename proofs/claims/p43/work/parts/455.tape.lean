/-! the tape: fed, cut, both -/
theorem by_low (x : Int32) : x.toInt8.toInt32 &&& 255 = x &&& 255 := by
  apply Int32.toBitVec_inj.1
  apply BitVec.eq_of_getLsbD_eq
  intro i hi
  show ((x.toInt8.toInt32).toBitVec &&& (255 : Int32).toBitVec).getLsbD i = (x.toBitVec &&& (255 : Int32).toBitVec).getLsbD i
  rw [BitVec.getLsbD_and, BitVec.getLsbD_and]
  by_cases h : i < 8
  · have e : (x.toInt8.toInt32).toBitVec.getLsbD i = x.toBitVec.getLsbD i := by
      show ((x.toBitVec.signExtend 8).signExtend 32).getLsbD i = _
      rw [BitVec.getLsbD_signExtend, BitVec.getLsbD_signExtend, if_pos h, if_pos hi, decide_eq_true hi, decide_eq_true h, Bool.true_and, Bool.true_and]
    rw [e]
  · have z : ∀ j : Fin 32, ¬ j.val < 8 → (255 : Int32).toBitVec.getLsbD j.val = false := by decide +kernel
    rw [z ⟨i, hi⟩ h, Bool.and_false, Bool.and_false]
theorem by_ushr (p s : Int32) (k : Nat) (hs : ((s.toUInt32 &&& Int32.toUInt32 31).toBitVec % 32).toNat = k) : (vp_nar .byte ((g_ushr p s).toInt8.toInt32)) &&& 255 = nI (p.toBitVec.toNat / 2 ^ k % 256) := by
  rw [vp_nar_byte, by_low, by_low]
  unfold g_ushr
  rw [pk_and _ 8 (by decide), pk_ushr p s k hs]
theorem toInt_nat (x : Int32) : x.toInt = if 2 * x.toBitVec.toNat < 4294967296 then (x.toBitVec.toNat : Int) else (x.toBitVec.toNat : Int) - 4294967296 := by
  have := BitVec.toInt_eq_toNat_cond x.toBitVec
  exact this
theorem by_shr (p s : Int32) (k : Nat) (hs : (s.toBitVec.smod 32).toNat = k) (hk : k = 0 ∨ k = 8 ∨ k = 16 ∨ k = 24) : (p >>> s) &&& 255 = nI (p.toBitVec.toNat / 2 ^ k % 256) := by
  rw [pk_and _ 8 (by decide)]
  congr 1
  have h := pk_shr p s k hs
  have b1 := p.toBitVec.isLt
  have b2 := (p >>> s).toBitVec.isLt
  rw [toInt_nat, toInt_nat p, Int.shiftRight_eq_div_pow] at h
  show (p >>> s).toBitVec.toNat % 256 = _
  rcases hk with rfl | rfl | rfl | rfl
  · simp only [Nat.pow_zero] at h ⊢
    split at h <;> split at h <;> omega
  · have e : (2 : Nat) ^ 8 = 256 := by decide
    rw [e] at h ⊢
    split at h <;> split at h <;> omega
  · have e : (2 : Nat) ^ 16 = 65536 := by decide
    rw [e] at h ⊢
    split at h <;> split at h <;> omega
  · have e : (2 : Nat) ^ 24 = 16777216 := by decide
    rw [e] at h ⊢
    split at h <;> split at h <;> omega
/-- byte j of an int, the highest first -/
def byJ (p : Int32) (j : Nat) : Nat := p.toBitVec.toNat / 2 ^ (24 - 8 * j) % 256
def rA (A M : Nat → Int32) (len : Nat) : Prop := ∀ i, i < len → ∃ b : Nat, b < 256 ∧ A i &&& 255 = nI b ∧ M i = nI b
section TAPE
variable {A M : Nat → Int32}
theorem sz_append {K : ((Nat → Int32) × Int32) → Prop} {l : Nat} {p : Int32} (hl : l + 4 ≤ 2000) (kk : ∀ A', (∀ i, i < l → A' i = A i) → (∀ j, j < 4 → A' (l + j) &&& 255 = nI (byJ p j)) → K (A', nI (l + 4))) : wX5_append A (nI l) p K := by
  unfold wX5_append
  refine ⟨5, ?_⟩
  have st : ∀ (n l s : Nat) (A : Nat → Int32), l < 2000 → s ≤ 24 → wX5_append_3 K n (upd A l (vp_nar .byte ((g_ushr p (nI s)).toInt8.toInt32))) (nI (l + 1)) p (nI s + (-8)) → wX5_append_3 K (n + 1) A (nI l) p (nI s) := by
    intro n l s A h1 h2 h3
    unfold wX5_append_3
    refine br_f (nI_pos (by omega)) (br_f (nI_pos (by omega)) (br_f (nI_ge h1 (by decide)) ⟨vp_in_nI h1 (by decide), ?_⟩))
    unfold wX5_append_47
    rw [nI_clamp (by omega), nI_1]
    exact h3
  have e1 : nI 24 + (-8) = nI 16 := by decide
  have e2 : nI 16 + (-8) = nI 8 := by decide
  have e3 : nI 8 + (-8) = nI 0 := by decide
  refine st 4 l 24 A (by omega) (by omega) ?_
  rw [e1]
  refine st 3 (l + 1) 16 _ (by omega) (by omega) ?_
  rw [e2]
  refine st 2 (l + 2) 8 _ (by omega) (by omega) ?_
  rw [e3]
  refine st 1 (l + 3) 0 _ (by omega) (by omega) ?_
  unfold wX5_append_3
  refine br_t (by decide) (kk _ (fun i hi => ?_) (fun j hj => ?_))
  · rw [un (by omega), un (by omega), un (by omega), un (by omega)]
  · have : j = 0 ∨ j = 1 ∨ j = 2 ∨ j = 3 := by omega
    rcases this with rfl | rfl | rfl | rfl
    · rw [un (by omega), un (by omega), un (by omega), show l + 0 = l from rfl, us]
      exact by_ushr p (nI 24) 24 (by decide)
    · rw [un (by omega), un (by omega), us]
      exact by_ushr p (nI 16) 16 (by decide)
    · rw [un (by omega), us]
      exact by_ushr p (nI 8) 8 (by decide)
    · rw [us]
      exact by_ushr p (nI 0) 0 (by decide)
/-- the five numbers' bytes -/
def five (a b c d e : Int32) (k : Nat) : Int32 := match k with | 0 => a | 1 => b | 2 => c | 3 => d | _ => e
theorem sz_feed {K : Int32 → ((Nat → Int32) × Int32) → Prop} {l : Nat} {a b c d e : Int32} (hl : l ≤ 1980) (kk : l ≤ 1980 → ∀ A', (∀ i, i < l → A' i = A i) → (∀ j, j < 20 → A' (l + j) &&& 255 = nI (byJ (five a b c d e (j / 4)) (j % 4))) → K (nI (l + 20)) (A', nI (l + 20))) : wX8_feed A (nI l) a b c d e K := by
  unfold wX8_feed
  rw [show (20 : Int32) = nI 20 from rfl, nI_add]
  refine pk_le (l + 20) 2000 (fun q => ?_) (fun q => by omega)
  refine sz_append (by omega) (fun A1 a1 b1 => sz_append (by omega) (fun A2 a2 b2 => sz_append (by omega) (fun A3 a3 b3 => sz_append (by omega) (fun A4 a4 b4 => sz_append (by omega) (fun A5 a5 b5 => ?_)))))
  have a2 : ∀ i, i < l + 4 → A2 i = A1 i := a2
  have a3 : ∀ i, i < l + 4 + 4 → A3 i = A2 i := a3
  have a4 : ∀ i, i < l + 4 + 4 + 4 → A4 i = A3 i := a4
  have a5 : ∀ i, i < l + 4 + 4 + 4 + 4 → A5 i = A4 i := a5
  refine kk (by omega) A5 (fun i hi => by rw [a5 i (by omega), a4 i (by omega), a3 i (by omega), a2 i (by omega), a1 i hi]) (fun j hj => ?_)
  have hm : j % 4 < 4 := Nat.mod_lt _ (by omega)
  have hd : j / 4 = 0 ∨ j / 4 = 1 ∨ j / 4 = 2 ∨ j / 4 = 3 ∨ j / 4 = 4 := by omega
  rcases hd with h | h | h | h | h
  · rw [h, a5 _ (by omega), a4 _ (by omega), a3 _ (by omega), a2 _ (by omega), show l + j = l + j % 4 by omega]
    exact b1 _ hm
  · rw [h, a5 _ (by omega), a4 _ (by omega), a3 _ (by omega), show l + j = l + 4 + j % 4 by omega]
    exact b2 _ hm
  · rw [h, a5 _ (by omega), a4 _ (by omega), show l + j = l + 4 + 4 + j % 4 by omega]
    exact b3 _ hm
  · rw [h, a5 _ (by omega), show l + j = l + 4 + 4 + 4 + j % 4 by omega]
    exact b4 _ hm
  · rw [h, show l + j = l + 4 + 4 + 4 + 4 + j % 4 by omega]
    exact b5 _ hm
theorem rA_feed {A' M' : Nat → Int32} {l : Nat} (h : rA A M l) {a b c d e : Int32} (h1 : ∀ i, i < l → A' i = A i) (h2 : ∀ j, j < 20 → A' (l + j) &&& 255 = nI (byJ (five a b c d e (j / 4)) (j % 4))) (h3 : ∀ i, i < l → M' i = M i) (h4 : ∀ j, j < 20 → M' (l + j) = nI (byJ (five a b c d e (j / 4)) (j % 4))) : rA A' M' (l + 20) := by
  intro i hi
  by_cases z : i < l
  · rw [h1 i z, h3 i z]; exact h i z
  · obtain ⟨j, rfl⟩ : ∃ j, i = l + j := ⟨i - l, by omega⟩
    exact ⟨_, Nat.mod_lt _ (by decide), h2 j (by omega), h4 j (by omega)⟩
end TAPE
